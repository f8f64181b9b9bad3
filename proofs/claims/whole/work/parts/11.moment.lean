-- BowlState$Plan.hasBowl
abbrev rX3_hasBowl : Room := { frames := 0, cells := 0, slots := 0, locals := 0 }
def f_X3_hasBowl (c_p_bowls : Int32) (x1 : Int32) : Option Int32 := if x1 < 0 then (some 0) else (if c_p_bowls ≤ x1 then (some 0) else (some 1))
set_option maxRecDepth 100000 in
set_option maxHeartbeats 4000000 in
theorem t_X3_hasBowl_0 {G : Cx} (h : Am G yX3_hasBowl cX3_hasBowl 2 (some .boolean) rX3_hasBowl) {a_p : Nat → Nat} {c_p_bowls : Int32} {c_p_fishes : Int32} {c_p_lips : Int32} {c_p_hours : Nat → Int32} {c_p_start : Nat → Int32} {c_p_first : Nat → Int32} {c_p_kind : Nat → Int32} {c_p_post : Nat → Int32} {c_p_error : Nat → Int32} {r : Int32} (he : En G rX3_hasBowl (some (.int r)) (fun _ => wPlan (g_K G).2.1 (g_K G).2.2.1 a_p c_p_bowls c_p_fishes c_p_lips c_p_hours c_p_start c_p_first c_p_kind c_p_post c_p_error)) {x1 : Int32} (hf : f_X3_hasBowl c_p_bowls x1 = some r) : AB G 0 0 (wPlan (g_K G).2.1 (g_K G).2.2.1 a_p c_p_bowls c_p_fishes c_p_lips c_p_hours c_p_start c_p_first c_p_kind c_p_post c_p_error) [(0, .ref (a_p 0)), (1, .int x1)] 0 [] := by
  unfold f_X3_hasBowl at hf
  refine ab_iload_n h 1 rfl rfl dX3_hasBowl_0 ?_
  refine ab_if_lt (tgt := 16) h dX3_hasBowl_1 (by decide) (fun hf => ?_) (fun hf => ?_) hf
  · refine ab_iconst (v := 0) h dX3_hasBowl_16 (by decide) ?_
    obtain rfl := Option.some.inj hf
    exact ab_zret h he [] rfl (Or.inl rfl) rfl rfl rfl rfl dX3_hasBowl_17
  · refine ab_iload_n h 1 rfl rfl dX3_hasBowl_4 ?_
    refine ab_aload_n h 0 rfl rfl dX3_hasBowl_5 ?_
    refine ab_get h in_X3 0 rfl rfl 0 (by decide) fl_X3_30 rfl dX3_hasBowl_6 ?_
    refine ab_icmp_ge (tgt := 16) h dX3_hasBowl_9 (by decide) (fun hf => ?_) (fun hf => ?_) hf
    · refine ab_iconst (v := 0) h dX3_hasBowl_16 (by decide) ?_
      obtain rfl := Option.some.inj hf
      exact ab_zret h he [] rfl (Or.inl rfl) rfl rfl rfl rfl dX3_hasBowl_17
    · refine ab_iconst (v := 1) h dX3_hasBowl_12 (by decide) ?_
      refine ab_goto (tgt := 17) h dX3_hasBowl_13 (by decide) ?_
      obtain rfl := Option.some.inj hf
      exact ab_zret h he [] rfl (Or.inr rfl) rfl rfl rfl rfl dX3_hasBowl_17
theorem c_X3_hasBowl (l : Launch) (K : Kx) (a_p : Nat → Nat) (c_p_bowls : Int32) (c_p_fishes : Int32) (c_p_lips : Int32) (c_p_hours : Nat → Int32) (c_p_start : Nat → Int32) (c_p_first : Nat → Int32) (c_p_kind : Nat → Int32) (c_p_post : Nat → Int32) (c_p_error : Nat → Int32) (x1 : Int32) (r : Int32) (hf : f_X3_hasBowl c_p_bowls x1 = some r) : Ct l yX3_hasBowl cX3_hasBowl 2 (some .boolean) rX3_hasBowl K [.ref (a_p 0), .int x1] (wPlan K.2.1 K.2.2.1 a_p c_p_bowls c_p_fishes c_p_lips c_p_hours c_p_start c_p_first c_p_kind c_p_post c_p_error) (some (.int r)) (fun _ => wPlan K.2.1 K.2.2.1 a_p c_p_bowls c_p_fishes c_p_lips c_p_hours c_p_start c_p_first c_p_kind c_p_post c_p_error) := by
  refine Ct.of (by decide +kernel) (Nat.le_of_ble_eq_true rfl) ?_
  intro G hl hK h he
  subst hl
  subst hK
  exact t_X3_hasBowl_0 h he hf

-- BowlState$Plan.hasFish
abbrev rX3_hasFish : Room := { frames := 0, cells := 0, slots := 0, locals := 0 }
def f_X3_hasFish (c_p_fishes : Int32) (x1 : Int32) : Option Int32 := if x1 < 0 then (some 0) else (if c_p_fishes ≤ x1 then (some 0) else (some 1))
set_option maxRecDepth 100000 in
set_option maxHeartbeats 4000000 in
theorem t_X3_hasFish_0 {G : Cx} (h : Am G yX3_hasFish cX3_hasFish 2 (some .boolean) rX3_hasFish) {a_p : Nat → Nat} {c_p_bowls : Int32} {c_p_fishes : Int32} {c_p_lips : Int32} {c_p_hours : Nat → Int32} {c_p_start : Nat → Int32} {c_p_first : Nat → Int32} {c_p_kind : Nat → Int32} {c_p_post : Nat → Int32} {c_p_error : Nat → Int32} {r : Int32} (he : En G rX3_hasFish (some (.int r)) (fun _ => wPlan (g_K G).2.1 (g_K G).2.2.1 a_p c_p_bowls c_p_fishes c_p_lips c_p_hours c_p_start c_p_first c_p_kind c_p_post c_p_error)) {x1 : Int32} (hf : f_X3_hasFish c_p_fishes x1 = some r) : AB G 0 0 (wPlan (g_K G).2.1 (g_K G).2.2.1 a_p c_p_bowls c_p_fishes c_p_lips c_p_hours c_p_start c_p_first c_p_kind c_p_post c_p_error) [(0, .ref (a_p 0)), (1, .int x1)] 0 [] := by
  unfold f_X3_hasFish at hf
  refine ab_iload_n h 1 rfl rfl dX3_hasFish_0 ?_
  refine ab_if_lt (tgt := 16) h dX3_hasFish_1 (by decide) (fun hf => ?_) (fun hf => ?_) hf
  · refine ab_iconst (v := 0) h dX3_hasFish_16 (by decide) ?_
    obtain rfl := Option.some.inj hf
    exact ab_zret h he [] rfl (Or.inl rfl) rfl rfl rfl rfl dX3_hasFish_17
  · refine ab_iload_n h 1 rfl rfl dX3_hasFish_4 ?_
    refine ab_aload_n h 0 rfl rfl dX3_hasFish_5 ?_
    refine ab_get h in_X3 0 rfl rfl 1 (by decide) fl_X3_34 rfl dX3_hasFish_6 ?_
    refine ab_icmp_ge (tgt := 16) h dX3_hasFish_9 (by decide) (fun hf => ?_) (fun hf => ?_) hf
    · refine ab_iconst (v := 0) h dX3_hasFish_16 (by decide) ?_
      obtain rfl := Option.some.inj hf
      exact ab_zret h he [] rfl (Or.inl rfl) rfl rfl rfl rfl dX3_hasFish_17
    · refine ab_iconst (v := 1) h dX3_hasFish_12 (by decide) ?_
      refine ab_goto (tgt := 17) h dX3_hasFish_13 (by decide) ?_
      obtain rfl := Option.some.inj hf
      exact ab_zret h he [] rfl (Or.inr rfl) rfl rfl rfl rfl dX3_hasFish_17
theorem c_X3_hasFish (l : Launch) (K : Kx) (a_p : Nat → Nat) (c_p_bowls : Int32) (c_p_fishes : Int32) (c_p_lips : Int32) (c_p_hours : Nat → Int32) (c_p_start : Nat → Int32) (c_p_first : Nat → Int32) (c_p_kind : Nat → Int32) (c_p_post : Nat → Int32) (c_p_error : Nat → Int32) (x1 : Int32) (r : Int32) (hf : f_X3_hasFish c_p_fishes x1 = some r) : Ct l yX3_hasFish cX3_hasFish 2 (some .boolean) rX3_hasFish K [.ref (a_p 0), .int x1] (wPlan K.2.1 K.2.2.1 a_p c_p_bowls c_p_fishes c_p_lips c_p_hours c_p_start c_p_first c_p_kind c_p_post c_p_error) (some (.int r)) (fun _ => wPlan K.2.1 K.2.2.1 a_p c_p_bowls c_p_fishes c_p_lips c_p_hours c_p_start c_p_first c_p_kind c_p_post c_p_error) := by
  refine Ct.of (by decide +kernel) (Nat.le_of_ble_eq_true rfl) ?_
  intro G hl hK h he
  subst hl
  subst hK
  exact t_X3_hasFish_0 h he hf

-- BowlState$Plan.hasLip
abbrev rX3_hasLip : Room := { frames := 0, cells := 0, slots := 0, locals := 0 }
def f_X3_hasLip (c_p_lips : Int32) (x1 : Int32) : Option Int32 := if x1 < 0 then (some 0) else (if c_p_lips ≤ x1 then (some 0) else (some 1))
set_option maxRecDepth 100000 in
set_option maxHeartbeats 4000000 in
theorem t_X3_hasLip_0 {G : Cx} (h : Am G yX3_hasLip cX3_hasLip 2 (some .boolean) rX3_hasLip) {a_p : Nat → Nat} {c_p_bowls : Int32} {c_p_fishes : Int32} {c_p_lips : Int32} {c_p_hours : Nat → Int32} {c_p_start : Nat → Int32} {c_p_first : Nat → Int32} {c_p_kind : Nat → Int32} {c_p_post : Nat → Int32} {c_p_error : Nat → Int32} {r : Int32} (he : En G rX3_hasLip (some (.int r)) (fun _ => wPlan (g_K G).2.1 (g_K G).2.2.1 a_p c_p_bowls c_p_fishes c_p_lips c_p_hours c_p_start c_p_first c_p_kind c_p_post c_p_error)) {x1 : Int32} (hf : f_X3_hasLip c_p_lips x1 = some r) : AB G 0 0 (wPlan (g_K G).2.1 (g_K G).2.2.1 a_p c_p_bowls c_p_fishes c_p_lips c_p_hours c_p_start c_p_first c_p_kind c_p_post c_p_error) [(0, .ref (a_p 0)), (1, .int x1)] 0 [] := by
  unfold f_X3_hasLip at hf
  refine ab_iload_n h 1 rfl rfl dX3_hasLip_0 ?_
  refine ab_if_lt (tgt := 16) h dX3_hasLip_1 (by decide) (fun hf => ?_) (fun hf => ?_) hf
  · refine ab_iconst (v := 0) h dX3_hasLip_16 (by decide) ?_
    obtain rfl := Option.some.inj hf
    exact ab_zret h he [] rfl (Or.inl rfl) rfl rfl rfl rfl dX3_hasLip_17
  · refine ab_iload_n h 1 rfl rfl dX3_hasLip_4 ?_
    refine ab_aload_n h 0 rfl rfl dX3_hasLip_5 ?_
    refine ab_get h in_X3 0 rfl rfl 2 (by decide) fl_X3_37 rfl dX3_hasLip_6 ?_
    refine ab_icmp_ge (tgt := 16) h dX3_hasLip_9 (by decide) (fun hf => ?_) (fun hf => ?_) hf
    · refine ab_iconst (v := 0) h dX3_hasLip_16 (by decide) ?_
      obtain rfl := Option.some.inj hf
      exact ab_zret h he [] rfl (Or.inl rfl) rfl rfl rfl rfl dX3_hasLip_17
    · refine ab_iconst (v := 1) h dX3_hasLip_12 (by decide) ?_
      refine ab_goto (tgt := 17) h dX3_hasLip_13 (by decide) ?_
      obtain rfl := Option.some.inj hf
      exact ab_zret h he [] rfl (Or.inr rfl) rfl rfl rfl rfl dX3_hasLip_17
theorem c_X3_hasLip (l : Launch) (K : Kx) (a_p : Nat → Nat) (c_p_bowls : Int32) (c_p_fishes : Int32) (c_p_lips : Int32) (c_p_hours : Nat → Int32) (c_p_start : Nat → Int32) (c_p_first : Nat → Int32) (c_p_kind : Nat → Int32) (c_p_post : Nat → Int32) (c_p_error : Nat → Int32) (x1 : Int32) (r : Int32) (hf : f_X3_hasLip c_p_lips x1 = some r) : Ct l yX3_hasLip cX3_hasLip 2 (some .boolean) rX3_hasLip K [.ref (a_p 0), .int x1] (wPlan K.2.1 K.2.2.1 a_p c_p_bowls c_p_fishes c_p_lips c_p_hours c_p_start c_p_first c_p_kind c_p_post c_p_error) (some (.int r)) (fun _ => wPlan K.2.1 K.2.2.1 a_p c_p_bowls c_p_fishes c_p_lips c_p_hours c_p_start c_p_first c_p_kind c_p_post c_p_error) := by
  refine Ct.of (by decide +kernel) (Nat.le_of_ble_eq_true rfl) ?_
  intro G hl hK h he
  subst hl
  subst hK
  exact t_X3_hasLip_0 h he hf

-- BowlState$Plan.clear
abbrev rX3_clear : Room := { frames := 0, cells := 0, slots := 0, locals := 0 }
def f_X3_clear : Option (Int32 × Int32 × Int32) := some (0, 0, 0)
set_option maxRecDepth 100000 in
set_option maxHeartbeats 4000000 in
theorem t_X3_clear_0 {G : Cx} (h : Am G yX3_clear cX3_clear 1 none rX3_clear) {a_p : Nat → Nat} {c_p_bowls : Int32} {c_p_fishes : Int32} {c_p_lips : Int32} {c_p_hours : Nat → Int32} {c_p_start : Nat → Int32} {c_p_first : Nat → Int32} {c_p_kind : Nat → Int32} {c_p_post : Nat → Int32} {c_p_error : Nat → Int32} {r : Int32 × Int32 × Int32} (he : En G rX3_clear none (fun _ => wPlan (g_K G).2.1 (g_K G).2.2.1 a_p r.1 r.2.1 r.2.2 c_p_hours c_p_start c_p_first c_p_kind c_p_post c_p_error)) (hf : f_X3_clear = some r) : AB G 0 0 (wPlan (g_K G).2.1 (g_K G).2.2.1 a_p c_p_bowls c_p_fishes c_p_lips c_p_hours c_p_start c_p_first c_p_kind c_p_post c_p_error) [(0, .ref (a_p 0))] 0 [] := by
  unfold f_X3_clear at hf
  refine ab_aload_n h 0 rfl rfl dX3_clear_0 ?_
  refine ab_iconst (v := 0) h dX3_clear_1 (by decide) ?_
  refine ab_put h in_X3 tyX3 tyX3_ok nmX3 0 (wPlan (g_K G).2.1 (g_K G).2.2.1 a_p 0 c_p_fishes c_p_lips c_p_hours c_p_start c_p_first c_p_kind c_p_post c_p_error) rfl rfl 0 (by decide) fl_X3_30 rfl (tyX3_ok 0 (by decide)) rfl rfl (Nat.le_of_ble_eq_true rfl) rfl dX3_clear_2 ?_
  refine ab_aload_n h 0 rfl rfl dX3_clear_5 ?_
  refine ab_iconst (v := 0) h dX3_clear_6 (by decide) ?_
  refine ab_put h in_X3 tyX3 tyX3_ok nmX3 0 (wPlan (g_K G).2.1 (g_K G).2.2.1 a_p 0 0 c_p_lips c_p_hours c_p_start c_p_first c_p_kind c_p_post c_p_error) rfl rfl 1 (by decide) fl_X3_34 rfl (tyX3_ok 1 (by decide)) rfl rfl (Nat.le_of_ble_eq_true rfl) rfl dX3_clear_7 ?_
  refine ab_aload_n h 0 rfl rfl dX3_clear_10 ?_
  refine ab_iconst (v := 0) h dX3_clear_11 (by decide) ?_
  refine ab_put h in_X3 tyX3 tyX3_ok nmX3 0 (wPlan (g_K G).2.1 (g_K G).2.2.1 a_p 0 0 0 c_p_hours c_p_start c_p_first c_p_kind c_p_post c_p_error) rfl rfl 2 (by decide) fl_X3_37 rfl (tyX3_ok 2 (by decide)) rfl rfl (Nat.le_of_ble_eq_true rfl) rfl dX3_clear_12 ?_
  obtain rfl := Option.some.inj hf
  exact ab_vret h he [] rfl rfl rfl rfl rfl dX3_clear_15
theorem c_X3_clear (l : Launch) (K : Kx) (a_p : Nat → Nat) (c_p_bowls : Int32) (c_p_fishes : Int32) (c_p_lips : Int32) (c_p_hours : Nat → Int32) (c_p_start : Nat → Int32) (c_p_first : Nat → Int32) (c_p_kind : Nat → Int32) (c_p_post : Nat → Int32) (c_p_error : Nat → Int32) (r : Int32 × Int32 × Int32) (hf : f_X3_clear = some r) : Ct l yX3_clear cX3_clear 1 none rX3_clear K [.ref (a_p 0)] (wPlan K.2.1 K.2.2.1 a_p c_p_bowls c_p_fishes c_p_lips c_p_hours c_p_start c_p_first c_p_kind c_p_post c_p_error) none (fun _ => wPlan K.2.1 K.2.2.1 a_p r.1 r.2.1 r.2.2 c_p_hours c_p_start c_p_first c_p_kind c_p_post c_p_error) := by
  refine Ct.of (by decide +kernel) (Nat.le_of_ble_eq_true rfl) ?_
  intro G hl hK h he
  subst hl
  subst hK
  exact t_X3_clear_0 h he hf

-- BowlState$Plan.become
abbrev rX3_become : Room := { frames := 1, cells := 0, slots := 0, locals := 40 }
def f_X3_become (c_p_hours : Nat → Int32) (c_p_start : Nat → Int32) (c_p_first : Nat → Int32) (c_p_kind : Nat → Int32) (c_p_post : Nat → Int32) (c_p_error : Nat → Int32) (c_q_bowls : Int32) (c_q_fishes : Int32) (c_q_lips : Int32) (c_q_hours : Nat → Int32) (c_q_start : Nat → Int32) (c_q_first : Nat → Int32) (c_q_kind : Nat → Int32) (c_q_post : Nat → Int32) (c_q_error : Nat → Int32) : Option (Int32 × Int32 × Int32 × (Nat → Int32) × (Nat → Int32) × (Nat → Int32) × (Nat → Int32) × (Nat → Int32) × (Nat → Int32)) := some (c_q_bowls, c_q_fishes, c_q_lips, va_cpy c_q_hours c_p_hours 0 0 5, va_cpy c_q_start c_p_start 0 0 5, va_cpy c_q_first c_p_first 0 0 5, va_cpy c_q_kind c_p_kind 0 0 5, va_cpy c_q_post c_p_post 0 0 4, va_cpy c_q_error c_p_error 0 0 4)
set_option maxRecDepth 100000 in
set_option maxHeartbeats 4000000 in
theorem t_X3_become_0 {G : Cx} (h : Am G yX3_become cX3_become 2 none rX3_become) {a_p a_q : Nat → Nat} {c_p_bowls : Int32} {c_p_fishes : Int32} {c_p_lips : Int32} {c_p_hours : Nat → Int32} {c_p_start : Nat → Int32} {c_p_first : Nat → Int32} {c_p_kind : Nat → Int32} {c_p_post : Nat → Int32} {c_p_error : Nat → Int32} {c_q_bowls : Int32} {c_q_fishes : Int32} {c_q_lips : Int32} {c_q_hours : Nat → Int32} {c_q_start : Nat → Int32} {c_q_first : Nat → Int32} {c_q_kind : Nat → Int32} {c_q_post : Nat → Int32} {c_q_error : Nat → Int32} {r : Int32 × Int32 × Int32 × (Nat → Int32) × (Nat → Int32) × (Nat → Int32) × (Nat → Int32) × (Nat → Int32) × (Nat → Int32)} (he : En G rX3_become none (fun _ => wPlan (g_K G).2.1 (g_K G).2.2.1 a_p r.1 r.2.1 r.2.2.1 r.2.2.2.1 r.2.2.2.2.1 r.2.2.2.2.2.1 r.2.2.2.2.2.2.1 r.2.2.2.2.2.2.2.1 r.2.2.2.2.2.2.2.2 ++ wPlan (g_K G).2.1 (g_K G).2.2.1 a_q c_q_bowls c_q_fishes c_q_lips c_q_hours c_q_start c_q_first c_q_kind c_q_post c_q_error)) (hf : f_X3_become c_p_hours c_p_start c_p_first c_p_kind c_p_post c_p_error c_q_bowls c_q_fishes c_q_lips c_q_hours c_q_start c_q_first c_q_kind c_q_post c_q_error = some r) : AB G 0 0 (wPlan (g_K G).2.1 (g_K G).2.2.1 a_p c_p_bowls c_p_fishes c_p_lips c_p_hours c_p_start c_p_first c_p_kind c_p_post c_p_error ++ wPlan (g_K G).2.1 (g_K G).2.2.1 a_q c_q_bowls c_q_fishes c_q_lips c_q_hours c_q_start c_q_first c_q_kind c_q_post c_q_error) [(0, .ref (a_p 0)), (1, .ref (a_q 0))] 0 [] := by
  unfold f_X3_become at hf
  refine ab_aload_n h 0 rfl rfl dX3_become_0 ?_
  refine ab_aload_n h 1 rfl rfl dX3_become_1 ?_
  refine ab_get h in_X3 7 rfl rfl 0 (by decide) fl_X3_30 rfl dX3_become_2 ?_
  refine ab_put h in_X3 tyX3 tyX3_ok nmX3 0 (wPlan (g_K G).2.1 (g_K G).2.2.1 a_p c_q_bowls c_p_fishes c_p_lips c_p_hours c_p_start c_p_first c_p_kind c_p_post c_p_error ++ wPlan (g_K G).2.1 (g_K G).2.2.1 a_q c_q_bowls c_q_fishes c_q_lips c_q_hours c_q_start c_q_first c_q_kind c_q_post c_q_error) rfl rfl 0 (by decide) fl_X3_30 rfl (tyX3_ok 0 (by decide)) rfl rfl (Nat.le_of_ble_eq_true rfl) rfl dX3_become_5 ?_
  refine ab_aload_n h 0 rfl rfl dX3_become_8 ?_
  refine ab_aload_n h 1 rfl rfl dX3_become_9 ?_
  refine ab_get h in_X3 7 rfl rfl 1 (by decide) fl_X3_34 rfl dX3_become_10 ?_
  refine ab_put h in_X3 tyX3 tyX3_ok nmX3 0 (wPlan (g_K G).2.1 (g_K G).2.2.1 a_p c_q_bowls c_q_fishes c_p_lips c_p_hours c_p_start c_p_first c_p_kind c_p_post c_p_error ++ wPlan (g_K G).2.1 (g_K G).2.2.1 a_q c_q_bowls c_q_fishes c_q_lips c_q_hours c_q_start c_q_first c_q_kind c_q_post c_q_error) rfl rfl 1 (by decide) fl_X3_34 rfl (tyX3_ok 1 (by decide)) rfl rfl (Nat.le_of_ble_eq_true rfl) rfl dX3_become_13 ?_
  refine ab_aload_n h 0 rfl rfl dX3_become_16 ?_
  refine ab_aload_n h 1 rfl rfl dX3_become_17 ?_
  refine ab_get h in_X3 7 rfl rfl 2 (by decide) fl_X3_37 rfl dX3_become_18 ?_
  refine ab_put h in_X3 tyX3 tyX3_ok nmX3 0 (wPlan (g_K G).2.1 (g_K G).2.2.1 a_p c_q_bowls c_q_fishes c_q_lips c_p_hours c_p_start c_p_first c_p_kind c_p_post c_p_error ++ wPlan (g_K G).2.1 (g_K G).2.2.1 a_q c_q_bowls c_q_fishes c_q_lips c_q_hours c_q_start c_q_first c_q_kind c_q_post c_q_error) rfl rfl 2 (by decide) fl_X3_37 rfl (tyX3_ok 2 (by decide)) rfl rfl (Nat.le_of_ble_eq_true rfl) rfl dX3_become_21 ?_
  refine ab_aload_n h 1 rfl rfl dX3_become_24 ?_
  refine ab_get h in_X3 7 rfl rfl 3 (by decide) fl_X3_9 rfl dX3_become_25 ?_
  refine ab_iconst (v := 0) h dX3_become_28 (by decide) ?_
  refine ab_aload_n h 0 rfl rfl dX3_become_29 ?_
  refine ab_get h in_X3 0 rfl rfl 3 (by decide) fl_X3_9 rfl dX3_become_30 ?_
  refine ab_iconst (v := 0) h dX3_become_33 (by decide) ?_
  refine ab_iconst (v := 5) h dX3_become_34 (by decide) ?_
  refine ab_copy h 8 1 5 (wPlan (g_K G).2.1 (g_K G).2.2.1 a_p c_q_bowls c_q_fishes c_q_lips (va_cpy c_q_hours c_p_hours 0 0 5) c_p_start c_p_first c_p_kind c_p_post c_p_error ++ wPlan (g_K G).2.1 (g_K G).2.2.1 a_q c_q_bowls c_q_fishes c_q_lips c_q_hours c_q_start c_q_first c_q_kind c_q_post c_q_error) ac_X3_40 rfl rfl (by decide) (by decide) (by decide) rfl (by decide) (by decide) dX3_become_35 ?_
  refine ab_aload_n h 1 rfl rfl dX3_become_38 ?_
  refine ab_get h in_X3 7 rfl rfl 4 (by decide) fl_X3_15 rfl dX3_become_39 ?_
  refine ab_iconst (v := 0) h dX3_become_42 (by decide) ?_
  refine ab_aload_n h 0 rfl rfl dX3_become_43 ?_
  refine ab_get h in_X3 0 rfl rfl 4 (by decide) fl_X3_15 rfl dX3_become_44 ?_
  refine ab_iconst (v := 0) h dX3_become_47 (by decide) ?_
  refine ab_iconst (v := 5) h dX3_become_48 (by decide) ?_
  refine ab_copy h 9 2 5 (wPlan (g_K G).2.1 (g_K G).2.2.1 a_p c_q_bowls c_q_fishes c_q_lips (va_cpy c_q_hours c_p_hours 0 0 5) (va_cpy c_q_start c_p_start 0 0 5) c_p_first c_p_kind c_p_post c_p_error ++ wPlan (g_K G).2.1 (g_K G).2.2.1 a_q c_q_bowls c_q_fishes c_q_lips c_q_hours c_q_start c_q_first c_q_kind c_q_post c_q_error) ac_X3_40 rfl rfl (by decide) (by decide) (by decide) rfl (by decide) (by decide) dX3_become_49 ?_
  refine ab_aload_n h 1 rfl rfl dX3_become_52 ?_
  refine ab_get h in_X3 7 rfl rfl 5 (by decide) fl_X3_18 rfl dX3_become_53 ?_
  refine ab_iconst (v := 0) h dX3_become_56 (by decide) ?_
  refine ab_aload_n h 0 rfl rfl dX3_become_57 ?_
  refine ab_get h in_X3 0 rfl rfl 5 (by decide) fl_X3_18 rfl dX3_become_58 ?_
  refine ab_iconst (v := 0) h dX3_become_61 (by decide) ?_
  refine ab_iconst (v := 5) h dX3_become_62 (by decide) ?_
  refine ab_copy h 10 3 5 (wPlan (g_K G).2.1 (g_K G).2.2.1 a_p c_q_bowls c_q_fishes c_q_lips (va_cpy c_q_hours c_p_hours 0 0 5) (va_cpy c_q_start c_p_start 0 0 5) (va_cpy c_q_first c_p_first 0 0 5) c_p_kind c_p_post c_p_error ++ wPlan (g_K G).2.1 (g_K G).2.2.1 a_q c_q_bowls c_q_fishes c_q_lips c_q_hours c_q_start c_q_first c_q_kind c_q_post c_q_error) ac_X3_40 rfl rfl (by decide) (by decide) (by decide) rfl (by decide) (by decide) dX3_become_63 ?_
  refine ab_aload_n h 1 rfl rfl dX3_become_66 ?_
  refine ab_get h in_X3 7 rfl rfl 6 (by decide) fl_X3_21 rfl dX3_become_67 ?_
  refine ab_iconst (v := 0) h dX3_become_70 (by decide) ?_
  refine ab_aload_n h 0 rfl rfl dX3_become_71 ?_
  refine ab_get h in_X3 0 rfl rfl 6 (by decide) fl_X3_21 rfl dX3_become_72 ?_
  refine ab_iconst (v := 0) h dX3_become_75 (by decide) ?_
  refine ab_iconst (v := 5) h dX3_become_76 (by decide) ?_
  refine ab_copy h 11 4 5 (wPlan (g_K G).2.1 (g_K G).2.2.1 a_p c_q_bowls c_q_fishes c_q_lips (va_cpy c_q_hours c_p_hours 0 0 5) (va_cpy c_q_start c_p_start 0 0 5) (va_cpy c_q_first c_p_first 0 0 5) (va_cpy c_q_kind c_p_kind 0 0 5) c_p_post c_p_error ++ wPlan (g_K G).2.1 (g_K G).2.2.1 a_q c_q_bowls c_q_fishes c_q_lips c_q_hours c_q_start c_q_first c_q_kind c_q_post c_q_error) ac_X3_40 rfl rfl (by decide) (by decide) (by decide) rfl (by decide) (by decide) dX3_become_77 ?_
  refine ab_aload_n h 1 rfl rfl dX3_become_80 ?_
  refine ab_get h in_X3 7 rfl rfl 7 (by decide) fl_X3_24 rfl dX3_become_81 ?_
  refine ab_iconst (v := 0) h dX3_become_84 (by decide) ?_
  refine ab_aload_n h 0 rfl rfl dX3_become_85 ?_
  refine ab_get h in_X3 0 rfl rfl 7 (by decide) fl_X3_24 rfl dX3_become_86 ?_
  refine ab_iconst (v := 0) h dX3_become_89 (by decide) ?_
  refine ab_iconst (v := 4) h dX3_become_90 (by decide) ?_
  refine ab_copy h 12 5 4 (wPlan (g_K G).2.1 (g_K G).2.2.1 a_p c_q_bowls c_q_fishes c_q_lips (va_cpy c_q_hours c_p_hours 0 0 5) (va_cpy c_q_start c_p_start 0 0 5) (va_cpy c_q_first c_p_first 0 0 5) (va_cpy c_q_kind c_p_kind 0 0 5) (va_cpy c_q_post c_p_post 0 0 4) c_p_error ++ wPlan (g_K G).2.1 (g_K G).2.2.1 a_q c_q_bowls c_q_fishes c_q_lips c_q_hours c_q_start c_q_first c_q_kind c_q_post c_q_error) ac_X3_40 rfl rfl (by decide) (by decide) (by decide) rfl (by decide) (by decide) dX3_become_91 ?_
  refine ab_aload_n h 1 rfl rfl dX3_become_94 ?_
  refine ab_get h in_X3 7 rfl rfl 8 (by decide) fl_X3_27 rfl dX3_become_95 ?_
  refine ab_iconst (v := 0) h dX3_become_98 (by decide) ?_
  refine ab_aload_n h 0 rfl rfl dX3_become_99 ?_
  refine ab_get h in_X3 0 rfl rfl 8 (by decide) fl_X3_27 rfl dX3_become_100 ?_
  refine ab_iconst (v := 0) h dX3_become_103 (by decide) ?_
  refine ab_iconst (v := 4) h dX3_become_104 (by decide) ?_
  refine ab_copy h 13 6 4 (wPlan (g_K G).2.1 (g_K G).2.2.1 a_p c_q_bowls c_q_fishes c_q_lips (va_cpy c_q_hours c_p_hours 0 0 5) (va_cpy c_q_start c_p_start 0 0 5) (va_cpy c_q_first c_p_first 0 0 5) (va_cpy c_q_kind c_p_kind 0 0 5) (va_cpy c_q_post c_p_post 0 0 4) (va_cpy c_q_error c_p_error 0 0 4) ++ wPlan (g_K G).2.1 (g_K G).2.2.1 a_q c_q_bowls c_q_fishes c_q_lips c_q_hours c_q_start c_q_first c_q_kind c_q_post c_q_error) ac_X3_40 rfl rfl (by decide) (by decide) (by decide) rfl (by decide) (by decide) dX3_become_105 ?_
  obtain rfl := Option.some.inj hf
  exact ab_vret h he [] rfl rfl rfl rfl rfl dX3_become_108
theorem c_X3_become (l : Launch) (K : Kx) (a_p a_q : Nat → Nat) (c_p_bowls : Int32) (c_p_fishes : Int32) (c_p_lips : Int32) (c_p_hours : Nat → Int32) (c_p_start : Nat → Int32) (c_p_first : Nat → Int32) (c_p_kind : Nat → Int32) (c_p_post : Nat → Int32) (c_p_error : Nat → Int32) (c_q_bowls : Int32) (c_q_fishes : Int32) (c_q_lips : Int32) (c_q_hours : Nat → Int32) (c_q_start : Nat → Int32) (c_q_first : Nat → Int32) (c_q_kind : Nat → Int32) (c_q_post : Nat → Int32) (c_q_error : Nat → Int32) (r : Int32 × Int32 × Int32 × (Nat → Int32) × (Nat → Int32) × (Nat → Int32) × (Nat → Int32) × (Nat → Int32) × (Nat → Int32)) (hf : f_X3_become c_p_hours c_p_start c_p_first c_p_kind c_p_post c_p_error c_q_bowls c_q_fishes c_q_lips c_q_hours c_q_start c_q_first c_q_kind c_q_post c_q_error = some r) : Ct l yX3_become cX3_become 2 none rX3_become K [.ref (a_p 0), .ref (a_q 0)] (wPlan K.2.1 K.2.2.1 a_p c_p_bowls c_p_fishes c_p_lips c_p_hours c_p_start c_p_first c_p_kind c_p_post c_p_error ++ wPlan K.2.1 K.2.2.1 a_q c_q_bowls c_q_fishes c_q_lips c_q_hours c_q_start c_q_first c_q_kind c_q_post c_q_error) none (fun _ => wPlan K.2.1 K.2.2.1 a_p r.1 r.2.1 r.2.2.1 r.2.2.2.1 r.2.2.2.2.1 r.2.2.2.2.2.1 r.2.2.2.2.2.2.1 r.2.2.2.2.2.2.2.1 r.2.2.2.2.2.2.2.2 ++ wPlan K.2.1 K.2.2.1 a_q c_q_bowls c_q_fishes c_q_lips c_q_hours c_q_start c_q_first c_q_kind c_q_post c_q_error) := by
  refine Ct.of (by decide +kernel) (Nat.le_of_ble_eq_true rfl) ?_
  intro G hl hK h he
  subst hl
  subst hK
  exact t_X3_become_0 h he hf

-- BowlState$Plan.hasRoomAtStart
abbrev rX3_hasRoomAtStart : Room := { frames := 1, cells := 0, slots := 0, locals := 21 }
def f_X3_hasRoomAtStart_25 (k4 : (Int32 × Int32) → Option Int32) (x2 : Int32) (x3 : Int32) : Option Int32 := k4 (x2, x3 + 1)
set_option maxRecDepth 100000 in
set_option maxHeartbeats 4000000 in
theorem t_X3_hasRoomAtStart_25 {G : Cx} (h : Am G yX3_hasRoomAtStart cX3_hasRoomAtStart 4 (some .boolean) rX3_hasRoomAtStart) {a_p : Nat → Nat} {c_p_bowls : Int32} {c_p_fishes : Int32} {c_p_lips : Int32} {c_p_hours : Nat → Int32} {c_p_start : Nat → Int32} {c_p_first : Nat → Int32} {c_p_kind : Nat → Int32} {c_p_post : Nat → Int32} {c_p_error : Nat → Int32} {r : Int32} (he : En G rX3_hasRoomAtStart (some (.int r)) (fun _ => wPlan (g_K G).2.1 (g_K G).2.2.1 a_p c_p_bowls c_p_fishes c_p_lips c_p_hours c_p_start c_p_first c_p_kind c_p_post c_p_error)) {x1 : Int32} {x2 : Int32} {x3 : Int32} (k4 : (Int32 × Int32) → Option Int32) (hk4 : ∀ s : Int32 × Int32, k4 s = some r → AB G 0 0 (wPlan (g_K G).2.1 (g_K G).2.2.1 a_p c_p_bowls c_p_fishes c_p_lips c_p_hours c_p_start c_p_first c_p_kind c_p_post c_p_error) [(0, .ref (a_p 0)), (1, .int x1), (2, .int s.1), (3, .int s.2)] 4 []) (hf : f_X3_hasRoomAtStart_25 k4 x2 x3 = some r) : AB G 0 0 (wPlan (g_K G).2.1 (g_K G).2.2.1 a_p c_p_bowls c_p_fishes c_p_lips c_p_hours c_p_start c_p_first c_p_kind c_p_post c_p_error) [(0, .ref (a_p 0)), (1, .int x1), (2, .int x2), (3, .int x3)] 25 [] := by
  unfold f_X3_hasRoomAtStart_25 at hf
  refine ab_iinc (v := x3 + 1) h 3 [1, 2, 3, 0] [(0, .ref (a_p 0)), (1, .int x1), (2, .int x2), (3, .int (x3 + 1))] rfl rfl (by decide) rfl dX3_hasRoomAtStart_25 ?_
  refine ab_goto (tgt := 4) h dX3_hasRoomAtStart_28 (by decide) ?_
  exact hk4 (x2, x3 + 1) hf
def f_X3_hasRoomAtStart_31 (c_p_bowls : Int32) (x1 : Int32) (x2 : Int32) : Option Int32 := (f_X3_hasBowl c_p_bowls x1).bind (fun w3 => if w3 = 0 then (some 0) else (if 3 ≤ x2 then (some 0) else (some 1)))
set_option maxRecDepth 100000 in
set_option maxHeartbeats 4000000 in
theorem t_X3_hasRoomAtStart_31 {G : Cx} (h : Am G yX3_hasRoomAtStart cX3_hasRoomAtStart 4 (some .boolean) rX3_hasRoomAtStart) {a_p : Nat → Nat} {c_p_bowls : Int32} {c_p_fishes : Int32} {c_p_lips : Int32} {c_p_hours : Nat → Int32} {c_p_start : Nat → Int32} {c_p_first : Nat → Int32} {c_p_kind : Nat → Int32} {c_p_post : Nat → Int32} {c_p_error : Nat → Int32} {r : Int32} (he : En G rX3_hasRoomAtStart (some (.int r)) (fun _ => wPlan (g_K G).2.1 (g_K G).2.2.1 a_p c_p_bowls c_p_fishes c_p_lips c_p_hours c_p_start c_p_first c_p_kind c_p_post c_p_error)) {x1 : Int32} {x2 : Int32} (hf : f_X3_hasRoomAtStart_31 c_p_bowls x1 x2 = some r) : AB G 0 0 (wPlan (g_K G).2.1 (g_K G).2.2.1 a_p c_p_bowls c_p_fishes c_p_lips c_p_hours c_p_start c_p_first c_p_kind c_p_post c_p_error) [(0, .ref (a_p 0)), (1, .int x1), (2, .int x2)] 31 [] := by
  unfold f_X3_hasRoomAtStart_31 at hf
  refine ab_aload_n h 0 rfl rfl dX3_hasRoomAtStart_31 ?_
  refine ab_iload_n h 1 rfl rfl dX3_hasRoomAtStart_32 ?_
  obtain ⟨w3, hw3, hf⟩ := bind_inv hf
  refine ab_call0 h (run_V (As := [.int x1]) (st := []) h (c_X3_hasBowl (g_l G) (g_K G) a_p c_p_bowls c_p_fishes c_p_lips c_p_hours c_p_start c_p_first c_p_kind c_p_post c_p_error x1 w3 hw3) ok_X3_hasBowl 0 rfl rfl ml_X3_46 ⟨⟨Nat.le_of_ble_eq_true rfl, Nat.le_of_ble_eq_true rfl⟩, ⟨Nat.le_of_ble_eq_true rfl, Nat.le_of_ble_eq_true rfl⟩, Nat.le_of_ble_eq_true rfl⟩ dX3_hasRoomAtStart_33 rfl) (wPlan (g_K G).2.1 (g_K G).2.2.1 a_p c_p_bowls c_p_fishes c_p_lips c_p_hours c_p_start c_p_first c_p_kind c_p_post c_p_error) (fun _ => rfl) [.int w3] rfl rfl rfl ?_
  refine ab_if_eq (tgt := 48) h dX3_hasRoomAtStart_36 (by decide) (fun hf => ?_) (fun hf => ?_) hf
  · refine ab_iconst (v := 0) h dX3_hasRoomAtStart_48 (by decide) ?_
    obtain rfl := Option.some.inj hf
    exact ab_zret h he [] rfl (Or.inl rfl) rfl rfl rfl rfl dX3_hasRoomAtStart_49
  · refine ab_iload_n h 2 rfl rfl dX3_hasRoomAtStart_39 ?_
    refine ab_iconst (v := 3) h dX3_hasRoomAtStart_40 (by decide) ?_
    refine ab_icmp_ge (tgt := 48) h dX3_hasRoomAtStart_41 (by decide) (fun hf => ?_) (fun hf => ?_) hf
    · refine ab_iconst (v := 0) h dX3_hasRoomAtStart_48 (by decide) ?_
      obtain rfl := Option.some.inj hf
      exact ab_zret h he [] rfl (Or.inl rfl) rfl rfl rfl rfl dX3_hasRoomAtStart_49
    · refine ab_iconst (v := 1) h dX3_hasRoomAtStart_44 (by decide) ?_
      refine ab_goto (tgt := 49) h dX3_hasRoomAtStart_45 (by decide) ?_
      obtain rfl := Option.some.inj hf
      exact ab_zret h he [] rfl (Or.inr rfl) rfl rfl rfl rfl dX3_hasRoomAtStart_49
def f_X3_hasRoomAtStart_4 (c_p_bowls : Int32) (c_p_fishes : Int32) (c_p_start : Nat → Int32) (x1 : Int32) (k4 : (Int32 × Int32) → Option Int32) (x2 : Int32) (x3 : Int32) : Option Int32 := if c_p_fishes ≤ x3 then (f_X3_hasRoomAtStart_31 c_p_bowls x1 x2) else (rd 5 c_p_start x3 (fun v4 => if v4 = x1 then (f_X3_hasRoomAtStart_25 k4 (x2 + 1) x3) else (f_X3_hasRoomAtStart_25 k4 x2 x3)))
def g_X3_hasRoomAtStart_4 (c_p_bowls : Int32) (c_p_fishes : Int32) (c_p_start : Nat → Int32) (x1 : Int32) (k4 : (Int32 × Int32) → Option Int32) (s : Int32 × Int32) : Option Int32 := f_X3_hasRoomAtStart_4 c_p_bowls c_p_fishes c_p_start x1 k4 s.1 s.2
set_option maxRecDepth 100000 in
set_option maxHeartbeats 4000000 in
theorem t_X3_hasRoomAtStart_4 {G : Cx} (h : Am G yX3_hasRoomAtStart cX3_hasRoomAtStart 4 (some .boolean) rX3_hasRoomAtStart) {a_p : Nat → Nat} {c_p_bowls : Int32} {c_p_fishes : Int32} {c_p_lips : Int32} {c_p_hours : Nat → Int32} {c_p_start : Nat → Int32} {c_p_first : Nat → Int32} {c_p_kind : Nat → Int32} {c_p_post : Nat → Int32} {c_p_error : Nat → Int32} {r : Int32} (he : En G rX3_hasRoomAtStart (some (.int r)) (fun _ => wPlan (g_K G).2.1 (g_K G).2.2.1 a_p c_p_bowls c_p_fishes c_p_lips c_p_hours c_p_start c_p_first c_p_kind c_p_post c_p_error)) {x1 : Int32} (n : Nat) (s : Int32 × Int32) (hf : loopN (g_X3_hasRoomAtStart_4 c_p_bowls c_p_fishes c_p_start x1) n s = some r) : AB G 0 0 (wPlan (g_K G).2.1 (g_K G).2.2.1 a_p c_p_bowls c_p_fishes c_p_lips c_p_hours c_p_start c_p_first c_p_kind c_p_post c_p_error) [(0, .ref (a_p 0)), (1, .int x1), (2, .int s.1), (3, .int s.2)] 4 [] := by
  refine loopN_all (fun s => AB G 0 0 (wPlan (g_K G).2.1 (g_K G).2.2.1 a_p c_p_bowls c_p_fishes c_p_lips c_p_hours c_p_start c_p_first c_p_kind c_p_post c_p_error) [(0, .ref (a_p 0)), (1, .int x1), (2, .int s.1), (3, .int s.2)] 4 []) (fun k4 hk4 s hf => ?_) n s hf
  obtain ⟨x2, x3⟩ := s
  change f_X3_hasRoomAtStart_4 c_p_bowls c_p_fishes c_p_start x1 k4 x2 x3 = some r at hf
  unfold f_X3_hasRoomAtStart_4 at hf
  show AB G 0 0 (wPlan (g_K G).2.1 (g_K G).2.2.1 a_p c_p_bowls c_p_fishes c_p_lips c_p_hours c_p_start c_p_first c_p_kind c_p_post c_p_error) [(0, .ref (a_p 0)), (1, .int x1), (2, .int x2), (3, .int x3)] 4 []
  refine ab_iload_n h 3 rfl rfl dX3_hasRoomAtStart_4 ?_
  refine ab_aload_n h 0 rfl rfl dX3_hasRoomAtStart_5 ?_
  refine ab_get h in_X3 0 rfl rfl 1 (by decide) fl_X3_34 rfl dX3_hasRoomAtStart_6 ?_
  refine ab_icmp_ge (tgt := 31) h dX3_hasRoomAtStart_9 (by decide) (fun hf => ?_) (fun hf => ?_) hf
  · refine ab_sub [0, 1, 2] (lv' := [(0, .ref (a_p 0)), (1, .int x1), (2, .int x2)]) rfl ?_
    exact t_X3_hasRoomAtStart_31 h he hf
  · refine ab_aload_n h 0 rfl rfl dX3_hasRoomAtStart_12 ?_
    refine ab_get h in_X3 0 rfl rfl 4 (by decide) fl_X3_15 rfl dX3_hasRoomAtStart_13 ?_
    refine ab_iload_n h 3 rfl rfl dX3_hasRoomAtStart_16 ?_
    refine ab_iald h 2 rfl dX3_hasRoomAtStart_17 (fun v4 hf => ?_) hf
    refine ab_iload_n h 1 rfl rfl dX3_hasRoomAtStart_18 ?_
    refine ab_icmp_ne (tgt := 25) h dX3_hasRoomAtStart_19 (by decide) (fun hf => ?_) (fun hf => ?_) hf
    · exact t_X3_hasRoomAtStart_25 h he k4 hk4 hf
    · refine ab_iinc (v := x2 + 1) h 2 [1, 2, 0, 3] [(0, .ref (a_p 0)), (1, .int x1), (2, .int (x2 + 1)), (3, .int x3)] rfl rfl (by decide) rfl dX3_hasRoomAtStart_22 ?_
      exact t_X3_hasRoomAtStart_25 h he k4 hk4 hf
def f_X3_hasRoomAtStart (c_p_bowls : Int32) (c_p_fishes : Int32) (c_p_start : Nat → Int32) (x1 : Int32) : Option Int32 := loopN (g_X3_hasRoomAtStart_4 c_p_bowls c_p_fishes c_p_start x1) 100 (0, 0)
set_option maxRecDepth 100000 in
set_option maxHeartbeats 4000000 in
theorem t_X3_hasRoomAtStart_0 {G : Cx} (h : Am G yX3_hasRoomAtStart cX3_hasRoomAtStart 4 (some .boolean) rX3_hasRoomAtStart) {a_p : Nat → Nat} {c_p_bowls : Int32} {c_p_fishes : Int32} {c_p_lips : Int32} {c_p_hours : Nat → Int32} {c_p_start : Nat → Int32} {c_p_first : Nat → Int32} {c_p_kind : Nat → Int32} {c_p_post : Nat → Int32} {c_p_error : Nat → Int32} {r : Int32} (he : En G rX3_hasRoomAtStart (some (.int r)) (fun _ => wPlan (g_K G).2.1 (g_K G).2.2.1 a_p c_p_bowls c_p_fishes c_p_lips c_p_hours c_p_start c_p_first c_p_kind c_p_post c_p_error)) {x1 : Int32} (hf : f_X3_hasRoomAtStart c_p_bowls c_p_fishes c_p_start x1 = some r) : AB G 0 0 (wPlan (g_K G).2.1 (g_K G).2.2.1 a_p c_p_bowls c_p_fishes c_p_lips c_p_hours c_p_start c_p_first c_p_kind c_p_post c_p_error) [(0, .ref (a_p 0)), (1, .int x1)] 0 [] := by
  unfold f_X3_hasRoomAtStart at hf
  refine ab_iconst (v := 0) h dX3_hasRoomAtStart_0 (by decide) ?_
  refine ab_istore_n h [1, 2, 0] [(0, .ref (a_p 0)), (1, .int x1), (2, .int 0)] rfl (by decide) rfl dX3_hasRoomAtStart_1 ?_
  refine ab_iconst (v := 0) h dX3_hasRoomAtStart_2 (by decide) ?_
  refine ab_istore_n h [1, 2, 3, 0] [(0, .ref (a_p 0)), (1, .int x1), (2, .int 0), (3, .int 0)] rfl (by decide) rfl dX3_hasRoomAtStart_3 ?_
  exact t_X3_hasRoomAtStart_4 h he 100 (0, 0) hf
theorem c_X3_hasRoomAtStart (l : Launch) (K : Kx) (a_p : Nat → Nat) (c_p_bowls : Int32) (c_p_fishes : Int32) (c_p_lips : Int32) (c_p_hours : Nat → Int32) (c_p_start : Nat → Int32) (c_p_first : Nat → Int32) (c_p_kind : Nat → Int32) (c_p_post : Nat → Int32) (c_p_error : Nat → Int32) (x1 : Int32) (r : Int32) (hf : f_X3_hasRoomAtStart c_p_bowls c_p_fishes c_p_start x1 = some r) : Ct l yX3_hasRoomAtStart cX3_hasRoomAtStart 4 (some .boolean) rX3_hasRoomAtStart K [.ref (a_p 0), .int x1] (wPlan K.2.1 K.2.2.1 a_p c_p_bowls c_p_fishes c_p_lips c_p_hours c_p_start c_p_first c_p_kind c_p_post c_p_error) (some (.int r)) (fun _ => wPlan K.2.1 K.2.2.1 a_p c_p_bowls c_p_fishes c_p_lips c_p_hours c_p_start c_p_first c_p_kind c_p_post c_p_error) := by
  refine Ct.of (by decide +kernel) (Nat.le_of_ble_eq_true rfl) ?_
  intro G hl hK h he
  subst hl
  subst hK
  exact t_X3_hasRoomAtStart_0 h he hf

-- BowlState$Plan.hasRoomAnywhere
abbrev rX3_hasRoomAnywhere : Room := { frames := 2, cells := 0, slots := 0, locals := 44 }
def f_X3_hasRoomAnywhere_2 (c_p_bowls : Int32) (c_p_fishes : Int32) (c_p_start : Nat → Int32) (k2 : Int32 → Option Int32) (x1 : Int32) : Option Int32 := if c_p_bowls ≤ x1 then (some 0) else ((f_X3_hasRoomAtStart c_p_bowls c_p_fishes c_p_start x1).bind (fun w2 => if w2 = 0 then (k2 (x1 + 1)) else (some 1)))
def g_X3_hasRoomAnywhere_2 (c_p_bowls : Int32) (c_p_fishes : Int32) (c_p_start : Nat → Int32) (k2 : Int32 → Option Int32) (s : Int32) : Option Int32 := f_X3_hasRoomAnywhere_2 c_p_bowls c_p_fishes c_p_start k2 s
set_option maxRecDepth 100000 in
set_option maxHeartbeats 4000000 in
theorem t_X3_hasRoomAnywhere_2 {G : Cx} (h : Am G yX3_hasRoomAnywhere cX3_hasRoomAnywhere 2 (some .boolean) rX3_hasRoomAnywhere) {a_p : Nat → Nat} {c_p_bowls : Int32} {c_p_fishes : Int32} {c_p_lips : Int32} {c_p_hours : Nat → Int32} {c_p_start : Nat → Int32} {c_p_first : Nat → Int32} {c_p_kind : Nat → Int32} {c_p_post : Nat → Int32} {c_p_error : Nat → Int32} {r : Int32} (he : En G rX3_hasRoomAnywhere (some (.int r)) (fun _ => wPlan (g_K G).2.1 (g_K G).2.2.1 a_p c_p_bowls c_p_fishes c_p_lips c_p_hours c_p_start c_p_first c_p_kind c_p_post c_p_error)) (n : Nat) (s : Int32) (hf : loopN (g_X3_hasRoomAnywhere_2 c_p_bowls c_p_fishes c_p_start) n s = some r) : AB G 0 0 (wPlan (g_K G).2.1 (g_K G).2.2.1 a_p c_p_bowls c_p_fishes c_p_lips c_p_hours c_p_start c_p_first c_p_kind c_p_post c_p_error) [(0, .ref (a_p 0)), (1, .int s)] 2 [] := by
  refine loopN_all (fun s => AB G 0 0 (wPlan (g_K G).2.1 (g_K G).2.2.1 a_p c_p_bowls c_p_fishes c_p_lips c_p_hours c_p_start c_p_first c_p_kind c_p_post c_p_error) [(0, .ref (a_p 0)), (1, .int s)] 2 []) (fun k2 hk2 s hf => ?_) n s hf
  obtain ⟨x1, rfl⟩ : ∃ z, z = s := ⟨_, rfl⟩
  change f_X3_hasRoomAnywhere_2 c_p_bowls c_p_fishes c_p_start k2 x1 = some r at hf
  unfold f_X3_hasRoomAnywhere_2 at hf
  show AB G 0 0 (wPlan (g_K G).2.1 (g_K G).2.2.1 a_p c_p_bowls c_p_fishes c_p_lips c_p_hours c_p_start c_p_first c_p_kind c_p_post c_p_error) [(0, .ref (a_p 0)), (1, .int x1)] 2 []
  refine ab_iload_n h 1 rfl rfl dX3_hasRoomAnywhere_2 ?_
  refine ab_aload_n h 0 rfl rfl dX3_hasRoomAnywhere_3 ?_
  refine ab_get h in_X3 0 rfl rfl 0 (by decide) fl_X3_30 rfl dX3_hasRoomAnywhere_4 ?_
  refine ab_icmp_ge (tgt := 26) h dX3_hasRoomAnywhere_7 (by decide) (fun hf => ?_) (fun hf => ?_) hf
  · refine ab_iconst (v := 0) h dX3_hasRoomAnywhere_26 (by decide) ?_
    obtain rfl := Option.some.inj hf
    exact ab_zret h he [] rfl (Or.inl rfl) rfl rfl rfl rfl dX3_hasRoomAnywhere_27
  · refine ab_aload_n h 0 rfl rfl dX3_hasRoomAnywhere_10 ?_
    refine ab_iload_n h 1 rfl rfl dX3_hasRoomAnywhere_11 ?_
    obtain ⟨w2, hw2, hf⟩ := bind_inv hf
    refine ab_call0 h (run_V (As := [.int x1]) (st := []) h (c_X3_hasRoomAtStart (g_l G) (g_K G) a_p c_p_bowls c_p_fishes c_p_lips c_p_hours c_p_start c_p_first c_p_kind c_p_post c_p_error x1 w2 hw2) ok_X3_hasRoomAtStart 0 rfl rfl ml_X3_50 ⟨⟨Nat.le_of_ble_eq_true rfl, Nat.le_of_ble_eq_true rfl⟩, ⟨Nat.le_of_ble_eq_true rfl, Nat.le_of_ble_eq_true rfl⟩, Nat.le_of_ble_eq_true rfl⟩ dX3_hasRoomAnywhere_12 rfl) (wPlan (g_K G).2.1 (g_K G).2.2.1 a_p c_p_bowls c_p_fishes c_p_lips c_p_hours c_p_start c_p_first c_p_kind c_p_post c_p_error) (fun _ => rfl) [.int w2] rfl rfl rfl ?_
    refine ab_if_eq (tgt := 20) h dX3_hasRoomAnywhere_15 (by decide) (fun hf => ?_) (fun hf => ?_) hf
    · refine ab_iinc (v := x1 + 1) h 1 [1, 0] [(0, .ref (a_p 0)), (1, .int (x1 + 1))] rfl rfl (by decide) rfl dX3_hasRoomAnywhere_20 ?_
      refine ab_goto (tgt := 2) h dX3_hasRoomAnywhere_23 (by decide) ?_
      exact hk2 (x1 + 1) hf
    · refine ab_iconst (v := 1) h dX3_hasRoomAnywhere_18 (by decide) ?_
      obtain rfl := Option.some.inj hf
      exact ab_zret h he [] rfl (Or.inr rfl) rfl rfl rfl rfl dX3_hasRoomAnywhere_19
def f_X3_hasRoomAnywhere (c_p_bowls : Int32) (c_p_fishes : Int32) (c_p_start : Nat → Int32) : Option Int32 := loopN (g_X3_hasRoomAnywhere_2 c_p_bowls c_p_fishes c_p_start) 100 0
set_option maxRecDepth 100000 in
set_option maxHeartbeats 4000000 in
theorem t_X3_hasRoomAnywhere_0 {G : Cx} (h : Am G yX3_hasRoomAnywhere cX3_hasRoomAnywhere 2 (some .boolean) rX3_hasRoomAnywhere) {a_p : Nat → Nat} {c_p_bowls : Int32} {c_p_fishes : Int32} {c_p_lips : Int32} {c_p_hours : Nat → Int32} {c_p_start : Nat → Int32} {c_p_first : Nat → Int32} {c_p_kind : Nat → Int32} {c_p_post : Nat → Int32} {c_p_error : Nat → Int32} {r : Int32} (he : En G rX3_hasRoomAnywhere (some (.int r)) (fun _ => wPlan (g_K G).2.1 (g_K G).2.2.1 a_p c_p_bowls c_p_fishes c_p_lips c_p_hours c_p_start c_p_first c_p_kind c_p_post c_p_error)) (hf : f_X3_hasRoomAnywhere c_p_bowls c_p_fishes c_p_start = some r) : AB G 0 0 (wPlan (g_K G).2.1 (g_K G).2.2.1 a_p c_p_bowls c_p_fishes c_p_lips c_p_hours c_p_start c_p_first c_p_kind c_p_post c_p_error) [(0, .ref (a_p 0))] 0 [] := by
  unfold f_X3_hasRoomAnywhere at hf
  refine ab_iconst (v := 0) h dX3_hasRoomAnywhere_0 (by decide) ?_
  refine ab_istore_n h [1, 0] [(0, .ref (a_p 0)), (1, .int 0)] rfl (by decide) rfl dX3_hasRoomAnywhere_1 ?_
  exact t_X3_hasRoomAnywhere_2 h he 100 0 hf
theorem c_X3_hasRoomAnywhere (l : Launch) (K : Kx) (a_p : Nat → Nat) (c_p_bowls : Int32) (c_p_fishes : Int32) (c_p_lips : Int32) (c_p_hours : Nat → Int32) (c_p_start : Nat → Int32) (c_p_first : Nat → Int32) (c_p_kind : Nat → Int32) (c_p_post : Nat → Int32) (c_p_error : Nat → Int32) (r : Int32) (hf : f_X3_hasRoomAnywhere c_p_bowls c_p_fishes c_p_start = some r) : Ct l yX3_hasRoomAnywhere cX3_hasRoomAnywhere 2 (some .boolean) rX3_hasRoomAnywhere K [.ref (a_p 0)] (wPlan K.2.1 K.2.2.1 a_p c_p_bowls c_p_fishes c_p_lips c_p_hours c_p_start c_p_first c_p_kind c_p_post c_p_error) (some (.int r)) (fun _ => wPlan K.2.1 K.2.2.1 a_p c_p_bowls c_p_fishes c_p_lips c_p_hours c_p_start c_p_first c_p_kind c_p_post c_p_error) := by
  refine Ct.of (by decide +kernel) (Nat.le_of_ble_eq_true rfl) ?_
  intro G hl hK h he
  subst hl
  subst hK
  exact t_X3_hasRoomAnywhere_0 h he hf

-- BowlState$Plan.addBowl
abbrev rX3_addBowl : Room := { frames := 0, cells := 0, slots := 0, locals := 0 }
def f_X3_addBowl (c_p_bowls : Int32) (c_p_hours : Nat → Int32) (x1 : Int32) : Option (Int32 × Int32 × (Nat → Int32)) := if c_p_bowls < 5 then (ix 5 c_p_bowls (some (1, c_p_bowls + 1, upd c_p_hours (Int32.toNatClampNeg c_p_bowls) x1))) else (some (0, c_p_bowls, c_p_hours))
set_option maxRecDepth 100000 in
set_option maxHeartbeats 4000000 in
theorem t_X3_addBowl_0 {G : Cx} (h : Am G yX3_addBowl cX3_addBowl 2 (some .boolean) rX3_addBowl) {a_p : Nat → Nat} {c_p_bowls : Int32} {c_p_fishes : Int32} {c_p_lips : Int32} {c_p_hours : Nat → Int32} {c_p_start : Nat → Int32} {c_p_first : Nat → Int32} {c_p_kind : Nat → Int32} {c_p_post : Nat → Int32} {c_p_error : Nat → Int32} {r : Int32 × Int32 × (Nat → Int32)} (he : En G rX3_addBowl (some (.int r.1)) (fun _ => wPlan (g_K G).2.1 (g_K G).2.2.1 a_p r.2.1 c_p_fishes c_p_lips r.2.2 c_p_start c_p_first c_p_kind c_p_post c_p_error)) {x1 : Int32} (hf : f_X3_addBowl c_p_bowls c_p_hours x1 = some r) : AB G 0 0 (wPlan (g_K G).2.1 (g_K G).2.2.1 a_p c_p_bowls c_p_fishes c_p_lips c_p_hours c_p_start c_p_first c_p_kind c_p_post c_p_error) [(0, .ref (a_p 0)), (1, .int x1)] 0 [] := by
  unfold f_X3_addBowl at hf
  refine ab_aload_n h 0 rfl rfl dX3_addBowl_0 ?_
  refine ab_get h in_X3 0 rfl rfl 0 (by decide) fl_X3_30 rfl dX3_addBowl_1 ?_
  refine ab_iconst (v := 5) h dX3_addBowl_4 (by decide) ?_
  refine ab_icmp_lt (tgt := 10) h dX3_addBowl_5 (by decide) (fun hf => ?_) (fun hf => ?_) hf
  · refine ab_aload_n h 0 rfl rfl dX3_addBowl_10 ?_
    refine ab_get h in_X3 0 rfl rfl 3 (by decide) fl_X3_9 rfl dX3_addBowl_11 ?_
    refine ab_aload_n h 0 rfl rfl dX3_addBowl_14 ?_
    refine ab_get h in_X3 0 rfl rfl 0 (by decide) fl_X3_30 rfl dX3_addBowl_15 ?_
    refine ab_iload_n h 1 rfl rfl dX3_addBowl_18 ?_
    refine ab_iast h 1 (wPlan (g_K G).2.1 (g_K G).2.2.1 a_p c_p_bowls c_p_fishes c_p_lips (upd c_p_hours (Int32.toNatClampNeg c_p_bowls) x1) c_p_start c_p_first c_p_kind c_p_post c_p_error) rfl rfl dX3_addBowl_19 (fun hf => ?_) hf
    refine ab_aload_n h 0 rfl rfl dX3_addBowl_20 ?_
    refine ab_dup h dX3_addBowl_21 rfl ?_
    refine ab_get h in_X3 0 rfl rfl 0 (by decide) fl_X3_30 rfl dX3_addBowl_22 ?_
    refine ab_iconst (v := 1) h dX3_addBowl_25 (by decide) ?_
    refine ab_iadd h dX3_addBowl_26 ?_
    refine ab_put h in_X3 tyX3 tyX3_ok nmX3 0 (wPlan (g_K G).2.1 (g_K G).2.2.1 a_p (c_p_bowls + 1) c_p_fishes c_p_lips (upd c_p_hours (Int32.toNatClampNeg c_p_bowls) x1) c_p_start c_p_first c_p_kind c_p_post c_p_error) rfl rfl 0 (by decide) fl_X3_30 rfl (tyX3_ok 0 (by decide)) rfl rfl (Nat.le_of_ble_eq_true rfl) rfl dX3_addBowl_27 ?_
    refine ab_iconst (v := 1) h dX3_addBowl_30 (by decide) ?_
    obtain rfl := Option.some.inj hf
    exact ab_zret h he [] rfl (Or.inr rfl) rfl rfl rfl rfl dX3_addBowl_31
  · refine ab_iconst (v := 0) h dX3_addBowl_8 (by decide) ?_
    obtain rfl := Option.some.inj hf
    exact ab_zret h he [] rfl (Or.inl rfl) rfl rfl rfl rfl dX3_addBowl_9
theorem c_X3_addBowl (l : Launch) (K : Kx) (a_p : Nat → Nat) (c_p_bowls : Int32) (c_p_fishes : Int32) (c_p_lips : Int32) (c_p_hours : Nat → Int32) (c_p_start : Nat → Int32) (c_p_first : Nat → Int32) (c_p_kind : Nat → Int32) (c_p_post : Nat → Int32) (c_p_error : Nat → Int32) (x1 : Int32) (r : Int32 × Int32 × (Nat → Int32)) (hf : f_X3_addBowl c_p_bowls c_p_hours x1 = some r) : Ct l yX3_addBowl cX3_addBowl 2 (some .boolean) rX3_addBowl K [.ref (a_p 0), .int x1] (wPlan K.2.1 K.2.2.1 a_p c_p_bowls c_p_fishes c_p_lips c_p_hours c_p_start c_p_first c_p_kind c_p_post c_p_error) (some (.int r.1)) (fun _ => wPlan K.2.1 K.2.2.1 a_p r.2.1 c_p_fishes c_p_lips r.2.2 c_p_start c_p_first c_p_kind c_p_post c_p_error) := by
  refine Ct.of (by decide +kernel) (Nat.le_of_ble_eq_true rfl) ?_
  intro G hl hK h he
  subst hl
  subst hK
  exact t_X3_addBowl_0 h he hf

-- BowlState$Plan.addFish
abbrev rX3_addFish : Room := { frames := 0, cells := 0, slots := 0, locals := 0 }
def f_X3_addFish (c_p_fishes : Int32) (c_p_start : Nat → Int32) (c_p_first : Nat → Int32) (c_p_kind : Nat → Int32) (x1 : Int32) (x2 : Int32) (x3 : Int32) : Option (Int32 × Int32 × (Nat → Int32) × (Nat → Int32) × (Nat → Int32)) := if c_p_fishes < 5 then (ix 5 c_p_fishes (ix 5 c_p_fishes (ix 5 c_p_fishes (some (1, c_p_fishes + 1, upd c_p_start (Int32.toNatClampNeg c_p_fishes) x1, upd c_p_first (Int32.toNatClampNeg c_p_fishes) x2, upd c_p_kind (Int32.toNatClampNeg c_p_fishes) x3))))) else (some (0, c_p_fishes, c_p_start, c_p_first, c_p_kind))
set_option maxRecDepth 100000 in
set_option maxHeartbeats 4000000 in
theorem t_X3_addFish_0 {G : Cx} (h : Am G yX3_addFish cX3_addFish 4 (some .boolean) rX3_addFish) {a_p : Nat → Nat} {c_p_bowls : Int32} {c_p_fishes : Int32} {c_p_lips : Int32} {c_p_hours : Nat → Int32} {c_p_start : Nat → Int32} {c_p_first : Nat → Int32} {c_p_kind : Nat → Int32} {c_p_post : Nat → Int32} {c_p_error : Nat → Int32} {r : Int32 × Int32 × (Nat → Int32) × (Nat → Int32) × (Nat → Int32)} (he : En G rX3_addFish (some (.int r.1)) (fun _ => wPlan (g_K G).2.1 (g_K G).2.2.1 a_p c_p_bowls r.2.1 c_p_lips c_p_hours r.2.2.1 r.2.2.2.1 r.2.2.2.2 c_p_post c_p_error)) {x1 : Int32} {x2 : Int32} {x3 : Int32} (hf : f_X3_addFish c_p_fishes c_p_start c_p_first c_p_kind x1 x2 x3 = some r) : AB G 0 0 (wPlan (g_K G).2.1 (g_K G).2.2.1 a_p c_p_bowls c_p_fishes c_p_lips c_p_hours c_p_start c_p_first c_p_kind c_p_post c_p_error) [(0, .ref (a_p 0)), (1, .int x1), (2, .int x2), (3, .int x3)] 0 [] := by
  unfold f_X3_addFish at hf
  refine ab_aload_n h 0 rfl rfl dX3_addFish_0 ?_
  refine ab_get h in_X3 0 rfl rfl 1 (by decide) fl_X3_34 rfl dX3_addFish_1 ?_
  refine ab_iconst (v := 5) h dX3_addFish_4 (by decide) ?_
  refine ab_icmp_lt (tgt := 10) h dX3_addFish_5 (by decide) (fun hf => ?_) (fun hf => ?_) hf
  · refine ab_aload_n h 0 rfl rfl dX3_addFish_10 ?_
    refine ab_get h in_X3 0 rfl rfl 4 (by decide) fl_X3_15 rfl dX3_addFish_11 ?_
    refine ab_aload_n h 0 rfl rfl dX3_addFish_14 ?_
    refine ab_get h in_X3 0 rfl rfl 1 (by decide) fl_X3_34 rfl dX3_addFish_15 ?_
    refine ab_iload_n h 1 rfl rfl dX3_addFish_18 ?_
    refine ab_iast h 2 (wPlan (g_K G).2.1 (g_K G).2.2.1 a_p c_p_bowls c_p_fishes c_p_lips c_p_hours (upd c_p_start (Int32.toNatClampNeg c_p_fishes) x1) c_p_first c_p_kind c_p_post c_p_error) rfl rfl dX3_addFish_19 (fun hf => ?_) hf
    refine ab_aload_n h 0 rfl rfl dX3_addFish_20 ?_
    refine ab_get h in_X3 0 rfl rfl 5 (by decide) fl_X3_18 rfl dX3_addFish_21 ?_
    refine ab_aload_n h 0 rfl rfl dX3_addFish_24 ?_
    refine ab_get h in_X3 0 rfl rfl 1 (by decide) fl_X3_34 rfl dX3_addFish_25 ?_
    refine ab_iload_n h 2 rfl rfl dX3_addFish_28 ?_
    refine ab_iast h 3 (wPlan (g_K G).2.1 (g_K G).2.2.1 a_p c_p_bowls c_p_fishes c_p_lips c_p_hours (upd c_p_start (Int32.toNatClampNeg c_p_fishes) x1) (upd c_p_first (Int32.toNatClampNeg c_p_fishes) x2) c_p_kind c_p_post c_p_error) rfl rfl dX3_addFish_29 (fun hf => ?_) hf
    refine ab_aload_n h 0 rfl rfl dX3_addFish_30 ?_
    refine ab_get h in_X3 0 rfl rfl 6 (by decide) fl_X3_21 rfl dX3_addFish_31 ?_
    refine ab_aload_n h 0 rfl rfl dX3_addFish_34 ?_
    refine ab_get h in_X3 0 rfl rfl 1 (by decide) fl_X3_34 rfl dX3_addFish_35 ?_
    refine ab_iload_n h 3 rfl rfl dX3_addFish_38 ?_
    refine ab_iast h 4 (wPlan (g_K G).2.1 (g_K G).2.2.1 a_p c_p_bowls c_p_fishes c_p_lips c_p_hours (upd c_p_start (Int32.toNatClampNeg c_p_fishes) x1) (upd c_p_first (Int32.toNatClampNeg c_p_fishes) x2) (upd c_p_kind (Int32.toNatClampNeg c_p_fishes) x3) c_p_post c_p_error) rfl rfl dX3_addFish_39 (fun hf => ?_) hf
    refine ab_aload_n h 0 rfl rfl dX3_addFish_40 ?_
    refine ab_dup h dX3_addFish_41 rfl ?_
    refine ab_get h in_X3 0 rfl rfl 1 (by decide) fl_X3_34 rfl dX3_addFish_42 ?_
    refine ab_iconst (v := 1) h dX3_addFish_45 (by decide) ?_
    refine ab_iadd h dX3_addFish_46 ?_
    refine ab_put h in_X3 tyX3 tyX3_ok nmX3 0 (wPlan (g_K G).2.1 (g_K G).2.2.1 a_p c_p_bowls (c_p_fishes + 1) c_p_lips c_p_hours (upd c_p_start (Int32.toNatClampNeg c_p_fishes) x1) (upd c_p_first (Int32.toNatClampNeg c_p_fishes) x2) (upd c_p_kind (Int32.toNatClampNeg c_p_fishes) x3) c_p_post c_p_error) rfl rfl 1 (by decide) fl_X3_34 rfl (tyX3_ok 1 (by decide)) rfl rfl (Nat.le_of_ble_eq_true rfl) rfl dX3_addFish_47 ?_
    refine ab_iconst (v := 1) h dX3_addFish_50 (by decide) ?_
    obtain rfl := Option.some.inj hf
    exact ab_zret h he [] rfl (Or.inr rfl) rfl rfl rfl rfl dX3_addFish_51
  · refine ab_iconst (v := 0) h dX3_addFish_8 (by decide) ?_
    obtain rfl := Option.some.inj hf
    exact ab_zret h he [] rfl (Or.inl rfl) rfl rfl rfl rfl dX3_addFish_9
theorem c_X3_addFish (l : Launch) (K : Kx) (a_p : Nat → Nat) (c_p_bowls : Int32) (c_p_fishes : Int32) (c_p_lips : Int32) (c_p_hours : Nat → Int32) (c_p_start : Nat → Int32) (c_p_first : Nat → Int32) (c_p_kind : Nat → Int32) (c_p_post : Nat → Int32) (c_p_error : Nat → Int32) (x1 : Int32) (x2 : Int32) (x3 : Int32) (r : Int32 × Int32 × (Nat → Int32) × (Nat → Int32) × (Nat → Int32)) (hf : f_X3_addFish c_p_fishes c_p_start c_p_first c_p_kind x1 x2 x3 = some r) : Ct l yX3_addFish cX3_addFish 4 (some .boolean) rX3_addFish K [.ref (a_p 0), .int x1, .int x2, .int x3] (wPlan K.2.1 K.2.2.1 a_p c_p_bowls c_p_fishes c_p_lips c_p_hours c_p_start c_p_first c_p_kind c_p_post c_p_error) (some (.int r.1)) (fun _ => wPlan K.2.1 K.2.2.1 a_p c_p_bowls r.2.1 c_p_lips c_p_hours r.2.2.1 r.2.2.2.1 r.2.2.2.2 c_p_post c_p_error) := by
  refine Ct.of (by decide +kernel) (Nat.le_of_ble_eq_true rfl) ?_
  intro G hl hK h he
  subst hl
  subst hK
  exact t_X3_addFish_0 h he hf

-- BowlState$Plan.addLip
abbrev rX3_addLip : Room := { frames := 0, cells := 0, slots := 0, locals := 0 }
def f_X3_addLip (c_p_lips : Int32) (c_p_post : Nat → Int32) (c_p_error : Nat → Int32) (x1 : Int32) (x2 : Int32) : Option (Int32 × Int32 × (Nat → Int32) × (Nat → Int32)) := if c_p_lips < 4 then (ix 4 c_p_lips (ix 4 c_p_lips (some (1, c_p_lips + 1, upd c_p_post (Int32.toNatClampNeg c_p_lips) x1, upd c_p_error (Int32.toNatClampNeg c_p_lips) x2)))) else (some (0, c_p_lips, c_p_post, c_p_error))
set_option maxRecDepth 100000 in
set_option maxHeartbeats 4000000 in
theorem t_X3_addLip_0 {G : Cx} (h : Am G yX3_addLip cX3_addLip 3 (some .boolean) rX3_addLip) {a_p : Nat → Nat} {c_p_bowls : Int32} {c_p_fishes : Int32} {c_p_lips : Int32} {c_p_hours : Nat → Int32} {c_p_start : Nat → Int32} {c_p_first : Nat → Int32} {c_p_kind : Nat → Int32} {c_p_post : Nat → Int32} {c_p_error : Nat → Int32} {r : Int32 × Int32 × (Nat → Int32) × (Nat → Int32)} (he : En G rX3_addLip (some (.int r.1)) (fun _ => wPlan (g_K G).2.1 (g_K G).2.2.1 a_p c_p_bowls c_p_fishes r.2.1 c_p_hours c_p_start c_p_first c_p_kind r.2.2.1 r.2.2.2)) {x1 : Int32} {x2 : Int32} (hf : f_X3_addLip c_p_lips c_p_post c_p_error x1 x2 = some r) : AB G 0 0 (wPlan (g_K G).2.1 (g_K G).2.2.1 a_p c_p_bowls c_p_fishes c_p_lips c_p_hours c_p_start c_p_first c_p_kind c_p_post c_p_error) [(0, .ref (a_p 0)), (1, .int x1), (2, .int x2)] 0 [] := by
  unfold f_X3_addLip at hf
  refine ab_aload_n h 0 rfl rfl dX3_addLip_0 ?_
  refine ab_get h in_X3 0 rfl rfl 2 (by decide) fl_X3_37 rfl dX3_addLip_1 ?_
  refine ab_iconst (v := 4) h dX3_addLip_4 (by decide) ?_
  refine ab_icmp_lt (tgt := 10) h dX3_addLip_5 (by decide) (fun hf => ?_) (fun hf => ?_) hf
  · refine ab_aload_n h 0 rfl rfl dX3_addLip_10 ?_
    refine ab_get h in_X3 0 rfl rfl 7 (by decide) fl_X3_24 rfl dX3_addLip_11 ?_
    refine ab_aload_n h 0 rfl rfl dX3_addLip_14 ?_
    refine ab_get h in_X3 0 rfl rfl 2 (by decide) fl_X3_37 rfl dX3_addLip_15 ?_
    refine ab_iload_n h 1 rfl rfl dX3_addLip_18 ?_
    refine ab_iast h 5 (wPlan (g_K G).2.1 (g_K G).2.2.1 a_p c_p_bowls c_p_fishes c_p_lips c_p_hours c_p_start c_p_first c_p_kind (upd c_p_post (Int32.toNatClampNeg c_p_lips) x1) c_p_error) rfl rfl dX3_addLip_19 (fun hf => ?_) hf
    refine ab_aload_n h 0 rfl rfl dX3_addLip_20 ?_
    refine ab_get h in_X3 0 rfl rfl 8 (by decide) fl_X3_27 rfl dX3_addLip_21 ?_
    refine ab_aload_n h 0 rfl rfl dX3_addLip_24 ?_
    refine ab_get h in_X3 0 rfl rfl 2 (by decide) fl_X3_37 rfl dX3_addLip_25 ?_
    refine ab_iload_n h 2 rfl rfl dX3_addLip_28 ?_
    refine ab_iast h 6 (wPlan (g_K G).2.1 (g_K G).2.2.1 a_p c_p_bowls c_p_fishes c_p_lips c_p_hours c_p_start c_p_first c_p_kind (upd c_p_post (Int32.toNatClampNeg c_p_lips) x1) (upd c_p_error (Int32.toNatClampNeg c_p_lips) x2)) rfl rfl dX3_addLip_29 (fun hf => ?_) hf
    refine ab_aload_n h 0 rfl rfl dX3_addLip_30 ?_
    refine ab_dup h dX3_addLip_31 rfl ?_
    refine ab_get h in_X3 0 rfl rfl 2 (by decide) fl_X3_37 rfl dX3_addLip_32 ?_
    refine ab_iconst (v := 1) h dX3_addLip_35 (by decide) ?_
    refine ab_iadd h dX3_addLip_36 ?_
    refine ab_put h in_X3 tyX3 tyX3_ok nmX3 0 (wPlan (g_K G).2.1 (g_K G).2.2.1 a_p c_p_bowls c_p_fishes (c_p_lips + 1) c_p_hours c_p_start c_p_first c_p_kind (upd c_p_post (Int32.toNatClampNeg c_p_lips) x1) (upd c_p_error (Int32.toNatClampNeg c_p_lips) x2)) rfl rfl 2 (by decide) fl_X3_37 rfl (tyX3_ok 2 (by decide)) rfl rfl (Nat.le_of_ble_eq_true rfl) rfl dX3_addLip_37 ?_
    refine ab_iconst (v := 1) h dX3_addLip_40 (by decide) ?_
    obtain rfl := Option.some.inj hf
    exact ab_zret h he [] rfl (Or.inr rfl) rfl rfl rfl rfl dX3_addLip_41
  · refine ab_iconst (v := 0) h dX3_addLip_8 (by decide) ?_
    obtain rfl := Option.some.inj hf
    exact ab_zret h he [] rfl (Or.inl rfl) rfl rfl rfl rfl dX3_addLip_9
theorem c_X3_addLip (l : Launch) (K : Kx) (a_p : Nat → Nat) (c_p_bowls : Int32) (c_p_fishes : Int32) (c_p_lips : Int32) (c_p_hours : Nat → Int32) (c_p_start : Nat → Int32) (c_p_first : Nat → Int32) (c_p_kind : Nat → Int32) (c_p_post : Nat → Int32) (c_p_error : Nat → Int32) (x1 : Int32) (x2 : Int32) (r : Int32 × Int32 × (Nat → Int32) × (Nat → Int32)) (hf : f_X3_addLip c_p_lips c_p_post c_p_error x1 x2 = some r) : Ct l yX3_addLip cX3_addLip 3 (some .boolean) rX3_addLip K [.ref (a_p 0), .int x1, .int x2] (wPlan K.2.1 K.2.2.1 a_p c_p_bowls c_p_fishes c_p_lips c_p_hours c_p_start c_p_first c_p_kind c_p_post c_p_error) (some (.int r.1)) (fun _ => wPlan K.2.1 K.2.2.1 a_p c_p_bowls c_p_fishes r.2.1 c_p_hours c_p_start c_p_first c_p_kind r.2.2.1 r.2.2.2) := by
  refine Ct.of (by decide +kernel) (Nat.le_of_ble_eq_true rfl) ?_
  intro G hl hK h he
  subst hl
  subst hK
  exact t_X3_addLip_0 h he hf

-- BowlState$Moment.lasts
abbrev rX1_lasts : Room := { frames := 0, cells := 0, slots := 0, locals := 0 }
def f_X1_lasts (c_m_place : Nat → Int32) (c_p_hours : Nat → Int32) (c_p_kind : Nat → Int32) (x1 : Int32) : Option Int32 := rd 5 c_m_place x1 (fun v4 => rd 5 c_p_hours v4 (fun v5 => rd 5 c_p_kind x1 (fun v6 => if v6 = 2 then (if v5 ≤ 1 then (some v5) else (nz 2 (some (v5 / 2)))) else (some v5))))
set_option maxRecDepth 100000 in
set_option maxHeartbeats 4000000 in
theorem t_X1_lasts_0 {G : Cx} (h : Am G yX1_lasts cX1_lasts 3 (some .int) rX1_lasts) {a_m a_p : Nat → Nat} {c_m_place : Nat → Int32} {c_m_known : Nat → Int32} {c_m_left : Nat → Int32} {c_m_onDuty : Int32} {c_m_clock : Int32} {c_p_bowls : Int32} {c_p_fishes : Int32} {c_p_lips : Int32} {c_p_hours : Nat → Int32} {c_p_start : Nat → Int32} {c_p_first : Nat → Int32} {c_p_kind : Nat → Int32} {c_p_post : Nat → Int32} {c_p_error : Nat → Int32} {r : Int32} (he : En G rX1_lasts (some (.int r)) (fun _ => wMoment (g_K G).2.1 (g_K G).2.2.1 a_m (a_p 0) c_m_place c_m_known c_m_left c_m_onDuty c_m_clock ++ wPlan (g_K G).2.1 (g_K G).2.2.1 a_p c_p_bowls c_p_fishes c_p_lips c_p_hours c_p_start c_p_first c_p_kind c_p_post c_p_error)) {x1 : Int32} (hf : f_X1_lasts c_m_place c_p_hours c_p_kind x1 = some r) : AB G 0 0 (wMoment (g_K G).2.1 (g_K G).2.2.1 a_m (a_p 0) c_m_place c_m_known c_m_left c_m_onDuty c_m_clock ++ wPlan (g_K G).2.1 (g_K G).2.2.1 a_p c_p_bowls c_p_fishes c_p_lips c_p_hours c_p_start c_p_first c_p_kind c_p_post c_p_error) [(0, .ref (a_m 0)), (1, .int x1)] 0 [] := by
  unfold f_X1_lasts at hf
  refine ab_aload_n h 0 rfl rfl dX1_lasts_0 ?_
  refine ab_get h in_X1 0 rfl rfl 0 (by decide) fl_X1_21 rfl dX1_lasts_1 ?_
  refine ab_get h in_X3 4 rfl rfl 3 (by decide) fl_X1_56 rfl dX1_lasts_4 ?_
  refine ab_aload_n h 0 rfl rfl dX1_lasts_7 ?_
  refine ab_get h in_X1 0 rfl rfl 1 (by decide) fl_X1_9 rfl dX1_lasts_8 ?_
  refine ab_iload_n h 1 rfl rfl dX1_lasts_11 ?_
  refine ab_iald h 1 rfl dX1_lasts_12 (fun v4 hf => ?_) hf
  refine ab_iald h 5 rfl dX1_lasts_13 (fun v5 hf => ?_) hf
  refine ab_istore_n h [1, 2, 0] [(0, .ref (a_m 0)), (1, .int x1), (2, .int v5)] rfl (by decide) rfl dX1_lasts_14 ?_
  refine ab_aload_n h 0 rfl rfl dX1_lasts_15 ?_
  refine ab_get h in_X1 0 rfl rfl 0 (by decide) fl_X1_21 rfl dX1_lasts_16 ?_
  refine ab_get h in_X3 4 rfl rfl 6 (by decide) fl_X1_59 rfl dX1_lasts_19 ?_
  refine ab_iload_n h 1 rfl rfl dX1_lasts_22 ?_
  refine ab_iald h 8 rfl dX1_lasts_23 (fun v6 hf => ?_) hf
  refine ab_iconst (v := 2) h dX1_lasts_24 (by decide) ?_
  refine ab_icmp_ne (tgt := 39) h dX1_lasts_25 (by decide) (fun hf => ?_) (fun hf => ?_) hf
  · refine ab_iload_n h 2 rfl rfl dX1_lasts_39 ?_
    obtain rfl := Option.some.inj hf
    exact ab_iret h he [] rfl rfl rfl rfl rfl dX1_lasts_40
  · refine ab_iload_n h 2 rfl rfl dX1_lasts_28 ?_
    refine ab_iconst (v := 1) h dX1_lasts_29 (by decide) ?_
    refine ab_icmp_le (tgt := 39) h dX1_lasts_30 (by decide) (fun hf => ?_) (fun hf => ?_) hf
    · refine ab_iload_n h 2 rfl rfl dX1_lasts_39 ?_
      obtain rfl := Option.some.inj hf
      exact ab_iret h he [] rfl rfl rfl rfl rfl dX1_lasts_40
    · refine ab_iload_n h 2 rfl rfl dX1_lasts_33 ?_
      refine ab_iconst (v := 2) h dX1_lasts_34 (by decide) ?_
      refine ab_idiv h dX1_lasts_35 (fun hf => ?_) hf
      refine ab_goto (tgt := 40) h dX1_lasts_36 (by decide) ?_
      obtain rfl := Option.some.inj hf
      exact ab_iret h he [] rfl rfl rfl rfl rfl dX1_lasts_40
theorem c_X1_lasts (l : Launch) (K : Kx) (a_m a_p : Nat → Nat) (c_m_place : Nat → Int32) (c_m_known : Nat → Int32) (c_m_left : Nat → Int32) (c_m_onDuty : Int32) (c_m_clock : Int32) (c_p_bowls : Int32) (c_p_fishes : Int32) (c_p_lips : Int32) (c_p_hours : Nat → Int32) (c_p_start : Nat → Int32) (c_p_first : Nat → Int32) (c_p_kind : Nat → Int32) (c_p_post : Nat → Int32) (c_p_error : Nat → Int32) (x1 : Int32) (r : Int32) (hf : f_X1_lasts c_m_place c_p_hours c_p_kind x1 = some r) : Ct l yX1_lasts cX1_lasts 3 (some .int) rX1_lasts K [.ref (a_m 0), .int x1] (wMoment K.2.1 K.2.2.1 a_m (a_p 0) c_m_place c_m_known c_m_left c_m_onDuty c_m_clock ++ wPlan K.2.1 K.2.2.1 a_p c_p_bowls c_p_fishes c_p_lips c_p_hours c_p_start c_p_first c_p_kind c_p_post c_p_error) (some (.int r)) (fun _ => wMoment K.2.1 K.2.2.1 a_m (a_p 0) c_m_place c_m_known c_m_left c_m_onDuty c_m_clock ++ wPlan K.2.1 K.2.2.1 a_p c_p_bowls c_p_fishes c_p_lips c_p_hours c_p_start c_p_first c_p_kind c_p_post c_p_error) := by
  refine Ct.of (by decide +kernel) (Nat.le_of_ble_eq_true rfl) ?_
  intro G hl hK h he
  subst hl
  subst hK
  exact t_X1_lasts_0 h he hf

-- BowlState$Moment.learn
abbrev rX1_learn : Room := { frames := 1, cells := 0, slots := 0, locals := 22 }
def f_X1_learn (c_m_place : Nat → Int32) (c_m_known : Nat → Int32) (c_m_left : Nat → Int32) (c_p_hours : Nat → Int32) (c_p_kind : Nat → Int32) (x1 : Int32) (x2 : Int32) : Option ((Nat → Int32) × (Nat → Int32)) := ix 5 x1 ((f_X1_lasts c_m_place c_p_hours c_p_kind x1).bind (fun w2 => ix 5 x1 (some (upd c_m_known (Int32.toNatClampNeg x1) x2, upd c_m_left (Int32.toNatClampNeg x1) w2))))
set_option maxRecDepth 100000 in
set_option maxHeartbeats 4000000 in
theorem t_X1_learn_0 {G : Cx} (h : Am G yX1_learn cX1_learn 3 none rX1_learn) {a_m a_p : Nat → Nat} {c_m_place : Nat → Int32} {c_m_known : Nat → Int32} {c_m_left : Nat → Int32} {c_m_onDuty : Int32} {c_m_clock : Int32} {c_p_bowls : Int32} {c_p_fishes : Int32} {c_p_lips : Int32} {c_p_hours : Nat → Int32} {c_p_start : Nat → Int32} {c_p_first : Nat → Int32} {c_p_kind : Nat → Int32} {c_p_post : Nat → Int32} {c_p_error : Nat → Int32} {r : (Nat → Int32) × (Nat → Int32)} (he : En G rX1_learn none (fun _ => wMoment (g_K G).2.1 (g_K G).2.2.1 a_m (a_p 0) c_m_place r.1 r.2 c_m_onDuty c_m_clock ++ wPlan (g_K G).2.1 (g_K G).2.2.1 a_p c_p_bowls c_p_fishes c_p_lips c_p_hours c_p_start c_p_first c_p_kind c_p_post c_p_error)) {x1 : Int32} {x2 : Int32} (hf : f_X1_learn c_m_place c_m_known c_m_left c_p_hours c_p_kind x1 x2 = some r) : AB G 0 0 (wMoment (g_K G).2.1 (g_K G).2.2.1 a_m (a_p 0) c_m_place c_m_known c_m_left c_m_onDuty c_m_clock ++ wPlan (g_K G).2.1 (g_K G).2.2.1 a_p c_p_bowls c_p_fishes c_p_lips c_p_hours c_p_start c_p_first c_p_kind c_p_post c_p_error) [(0, .ref (a_m 0)), (1, .int x1), (2, .int x2)] 0 [] := by
  unfold f_X1_learn at hf
  refine ab_aload_n h 0 rfl rfl dX1_learn_0 ?_
  refine ab_get h in_X1 0 rfl rfl 2 (by decide) fl_X1_15 rfl dX1_learn_1 ?_
  refine ab_iload_n h 1 rfl rfl dX1_learn_4 ?_
  refine ab_iload_n h 2 rfl rfl dX1_learn_5 ?_
  refine ab_iast h 2 (wMoment (g_K G).2.1 (g_K G).2.2.1 a_m (a_p 0) c_m_place (upd c_m_known (Int32.toNatClampNeg x1) x2) c_m_left c_m_onDuty c_m_clock ++ wPlan (g_K G).2.1 (g_K G).2.2.1 a_p c_p_bowls c_p_fishes c_p_lips c_p_hours c_p_start c_p_first c_p_kind c_p_post c_p_error) rfl rfl dX1_learn_6 (fun hf => ?_) hf
  refine ab_aload_n h 0 rfl rfl dX1_learn_7 ?_
  refine ab_get h in_X1 0 rfl rfl 3 (by decide) fl_X1_18 rfl dX1_learn_8 ?_
  refine ab_iload_n h 1 rfl rfl dX1_learn_11 ?_
  refine ab_aload_n h 0 rfl rfl dX1_learn_12 ?_
  refine ab_iload_n h 1 rfl rfl dX1_learn_13 ?_
  obtain ⟨w2, hw2, hf⟩ := bind_inv hf
  refine ab_call0 h (run_V (As := [.int x1]) (st := [.int x1, .ref (a_m 3)]) h (c_X1_lasts (g_l G) (g_K G) a_m a_p c_m_place (upd c_m_known (Int32.toNatClampNeg x1) x2) c_m_left c_m_onDuty c_m_clock c_p_bowls c_p_fishes c_p_lips c_p_hours c_p_start c_p_first c_p_kind c_p_post c_p_error x1 w2 hw2) ok_X1_lasts 0 rfl rfl ml_X1_86 ⟨⟨Nat.le_of_ble_eq_true rfl, Nat.le_of_ble_eq_true rfl⟩, ⟨Nat.le_of_ble_eq_true rfl, Nat.le_of_ble_eq_true rfl⟩, Nat.le_of_ble_eq_true rfl⟩ dX1_learn_14 rfl) (wMoment (g_K G).2.1 (g_K G).2.2.1 a_m (a_p 0) c_m_place (upd c_m_known (Int32.toNatClampNeg x1) x2) c_m_left c_m_onDuty c_m_clock ++ wPlan (g_K G).2.1 (g_K G).2.2.1 a_p c_p_bowls c_p_fishes c_p_lips c_p_hours c_p_start c_p_first c_p_kind c_p_post c_p_error) (fun _ => rfl) [.int w2, .int x1, .ref (a_m 3)] rfl rfl rfl ?_
  refine ab_iast h 3 (wMoment (g_K G).2.1 (g_K G).2.2.1 a_m (a_p 0) c_m_place (upd c_m_known (Int32.toNatClampNeg x1) x2) (upd c_m_left (Int32.toNatClampNeg x1) w2) c_m_onDuty c_m_clock ++ wPlan (g_K G).2.1 (g_K G).2.2.1 a_p c_p_bowls c_p_fishes c_p_lips c_p_hours c_p_start c_p_first c_p_kind c_p_post c_p_error) rfl rfl dX1_learn_17 (fun hf => ?_) hf
  obtain rfl := Option.some.inj hf
  exact ab_vret h he [] rfl rfl rfl rfl rfl dX1_learn_18
theorem c_X1_learn (l : Launch) (K : Kx) (a_m a_p : Nat → Nat) (c_m_place : Nat → Int32) (c_m_known : Nat → Int32) (c_m_left : Nat → Int32) (c_m_onDuty : Int32) (c_m_clock : Int32) (c_p_bowls : Int32) (c_p_fishes : Int32) (c_p_lips : Int32) (c_p_hours : Nat → Int32) (c_p_start : Nat → Int32) (c_p_first : Nat → Int32) (c_p_kind : Nat → Int32) (c_p_post : Nat → Int32) (c_p_error : Nat → Int32) (x1 : Int32) (x2 : Int32) (r : (Nat → Int32) × (Nat → Int32)) (hf : f_X1_learn c_m_place c_m_known c_m_left c_p_hours c_p_kind x1 x2 = some r) : Ct l yX1_learn cX1_learn 3 none rX1_learn K [.ref (a_m 0), .int x1, .int x2] (wMoment K.2.1 K.2.2.1 a_m (a_p 0) c_m_place c_m_known c_m_left c_m_onDuty c_m_clock ++ wPlan K.2.1 K.2.2.1 a_p c_p_bowls c_p_fishes c_p_lips c_p_hours c_p_start c_p_first c_p_kind c_p_post c_p_error) none (fun _ => wMoment K.2.1 K.2.2.1 a_m (a_p 0) c_m_place r.1 r.2 c_m_onDuty c_m_clock ++ wPlan K.2.1 K.2.2.1 a_p c_p_bowls c_p_fishes c_p_lips c_p_hours c_p_start c_p_first c_p_kind c_p_post c_p_error) := by
  refine Ct.of (by decide +kernel) (Nat.le_of_ble_eq_true rfl) ?_
  intro G hl hK h he
  subst hl
  subst hK
  exact t_X1_learn_0 h he hf

-- BowlState$Moment.begin
abbrev rX1_begin : Room := { frames := 2, cells := 0, slots := 0, locals := 44 }
def f_X1_begin_48 (c_m_place : Nat → Int32) (c_m_known : Nat → Int32) (c_m_left : Nat → Int32) (c_p_lips : Int32) : Option ((Nat → Int32) × (Nat → Int32) × (Nat → Int32) × Int32 × Int32) := some (c_m_place, c_m_known, c_m_left, (jshl 1 c_p_lips) - 1, 0)
set_option maxRecDepth 100000 in
set_option maxHeartbeats 4000000 in
theorem t_X1_begin_48 {G : Cx} (h : Am G yX1_begin cX1_begin 2 none rX1_begin) {a_m a_p : Nat → Nat} {c_m_place : Nat → Int32} {c_m_known : Nat → Int32} {c_m_left : Nat → Int32} {c_m_onDuty : Int32} {c_m_clock : Int32} {c_p_bowls : Int32} {c_p_fishes : Int32} {c_p_lips : Int32} {c_p_hours : Nat → Int32} {c_p_start : Nat → Int32} {c_p_first : Nat → Int32} {c_p_kind : Nat → Int32} {c_p_post : Nat → Int32} {c_p_error : Nat → Int32} {r : (Nat → Int32) × (Nat → Int32) × (Nat → Int32) × Int32 × Int32} (he : En G rX1_begin none (fun _ => wMoment (g_K G).2.1 (g_K G).2.2.1 a_m (a_p 0) r.1 r.2.1 r.2.2.1 r.2.2.2.1 r.2.2.2.2 ++ wPlan (g_K G).2.1 (g_K G).2.2.1 a_p c_p_bowls c_p_fishes c_p_lips c_p_hours c_p_start c_p_first c_p_kind c_p_post c_p_error)) (hf : f_X1_begin_48 c_m_place c_m_known c_m_left c_p_lips = some r) : AB G 0 0 (wMoment (g_K G).2.1 (g_K G).2.2.1 a_m (a_p 0) c_m_place c_m_known c_m_left c_m_onDuty c_m_clock ++ wPlan (g_K G).2.1 (g_K G).2.2.1 a_p c_p_bowls c_p_fishes c_p_lips c_p_hours c_p_start c_p_first c_p_kind c_p_post c_p_error) [(0, .ref (a_m 0))] 48 [] := by
  unfold f_X1_begin_48 at hf
  refine ab_aload_n h 0 rfl rfl dX1_begin_48 ?_
  refine ab_iconst (v := 1) h dX1_begin_49 (by decide) ?_
  refine ab_aload_n h 0 rfl rfl dX1_begin_50 ?_
  refine ab_get h in_X1 0 rfl rfl 0 (by decide) fl_X1_21 rfl dX1_begin_51 ?_
  refine ab_get h in_X3 4 rfl rfl 2 (by decide) fl_X1_41 rfl dX1_begin_54 ?_
  refine ab_ishl h dX1_begin_57 ?_
  refine ab_iconst (v := 1) h dX1_begin_58 (by decide) ?_
  refine ab_isub h dX1_begin_59 ?_
  refine ab_put h in_X1 tyX1 tyX1_ok nmX1 0 (wMoment (g_K G).2.1 (g_K G).2.2.1 a_m (a_p 0) c_m_place c_m_known c_m_left ((jshl 1 c_p_lips) - 1) c_m_clock ++ wPlan (g_K G).2.1 (g_K G).2.2.1 a_p c_p_bowls c_p_fishes c_p_lips c_p_hours c_p_start c_p_first c_p_kind c_p_post c_p_error) rfl rfl 4 (by decide) fl_X1_44 rfl (tyX1_ok 4 (by decide)) rfl rfl (Nat.le_of_ble_eq_true rfl) rfl dX1_begin_60 ?_
  refine ab_aload_n h 0 rfl rfl dX1_begin_63 ?_
  refine ab_iconst (v := 0) h dX1_begin_64 (by decide) ?_
  refine ab_put h in_X1 tyX1 tyX1_ok nmX1 0 (wMoment (g_K G).2.1 (g_K G).2.2.1 a_m (a_p 0) c_m_place c_m_known c_m_left ((jshl 1 c_p_lips) - 1) 0 ++ wPlan (g_K G).2.1 (g_K G).2.2.1 a_p c_p_bowls c_p_fishes c_p_lips c_p_hours c_p_start c_p_first c_p_kind c_p_post c_p_error) rfl rfl 5 (by decide) fl_X1_47 rfl (tyX1_ok 5 (by decide)) rfl rfl (Nat.le_of_ble_eq_true rfl) rfl dX1_begin_65 ?_
  obtain rfl := Option.some.inj hf
  exact ab_vret h he [] rfl rfl rfl rfl rfl dX1_begin_68
def f_X1_begin_2 (c_p_fishes : Int32) (c_p_lips : Int32) (c_p_hours : Nat → Int32) (c_p_start : Nat → Int32) (c_p_first : Nat → Int32) (c_p_kind : Nat → Int32) (k2 : (Int32 × (Nat → Int32) × (Nat → Int32) × (Nat → Int32)) → Option ((Nat → Int32) × (Nat → Int32) × (Nat → Int32) × Int32 × Int32)) (x1 : Int32) (c_m_place : Nat → Int32) (c_m_known : Nat → Int32) (c_m_left : Nat → Int32) : Option ((Nat → Int32) × (Nat → Int32) × (Nat → Int32) × Int32 × Int32) := if c_p_fishes ≤ x1 then (f_X1_begin_48 c_m_place c_m_known c_m_left c_p_lips) else (rd 5 c_p_start x1 (fun v4 => ix 5 x1 (rd 5 c_p_first x1 (fun v5 => (f_X1_learn (upd c_m_place (Int32.toNatClampNeg x1) v4) c_m_known c_m_left c_p_hours c_p_kind x1 v5).bind (fun w6 => k2 (x1 + 1, upd c_m_place (Int32.toNatClampNeg x1) v4, w6.1, w6.2))))))
def g_X1_begin_2 (c_p_fishes : Int32) (c_p_lips : Int32) (c_p_hours : Nat → Int32) (c_p_start : Nat → Int32) (c_p_first : Nat → Int32) (c_p_kind : Nat → Int32) (k2 : (Int32 × (Nat → Int32) × (Nat → Int32) × (Nat → Int32)) → Option ((Nat → Int32) × (Nat → Int32) × (Nat → Int32) × Int32 × Int32)) (s : Int32 × (Nat → Int32) × (Nat → Int32) × (Nat → Int32)) : Option ((Nat → Int32) × (Nat → Int32) × (Nat → Int32) × Int32 × Int32) := f_X1_begin_2 c_p_fishes c_p_lips c_p_hours c_p_start c_p_first c_p_kind k2 s.1 s.2.1 s.2.2.1 s.2.2.2
set_option maxRecDepth 100000 in
set_option maxHeartbeats 4000000 in
theorem t_X1_begin_2 {G : Cx} (h : Am G yX1_begin cX1_begin 2 none rX1_begin) {a_m a_p : Nat → Nat} {c_m_onDuty : Int32} {c_m_clock : Int32} {c_p_bowls : Int32} {c_p_fishes : Int32} {c_p_lips : Int32} {c_p_hours : Nat → Int32} {c_p_start : Nat → Int32} {c_p_first : Nat → Int32} {c_p_kind : Nat → Int32} {c_p_post : Nat → Int32} {c_p_error : Nat → Int32} {r : (Nat → Int32) × (Nat → Int32) × (Nat → Int32) × Int32 × Int32} (he : En G rX1_begin none (fun _ => wMoment (g_K G).2.1 (g_K G).2.2.1 a_m (a_p 0) r.1 r.2.1 r.2.2.1 r.2.2.2.1 r.2.2.2.2 ++ wPlan (g_K G).2.1 (g_K G).2.2.1 a_p c_p_bowls c_p_fishes c_p_lips c_p_hours c_p_start c_p_first c_p_kind c_p_post c_p_error)) (n : Nat) (s : Int32 × (Nat → Int32) × (Nat → Int32) × (Nat → Int32)) (hf : loopN (g_X1_begin_2 c_p_fishes c_p_lips c_p_hours c_p_start c_p_first c_p_kind) n s = some r) : AB G 0 0 (wMoment (g_K G).2.1 (g_K G).2.2.1 a_m (a_p 0) s.2.1 s.2.2.1 s.2.2.2 c_m_onDuty c_m_clock ++ wPlan (g_K G).2.1 (g_K G).2.2.1 a_p c_p_bowls c_p_fishes c_p_lips c_p_hours c_p_start c_p_first c_p_kind c_p_post c_p_error) [(0, .ref (a_m 0)), (1, .int s.1)] 2 [] := by
  refine loopN_all (fun s => AB G 0 0 (wMoment (g_K G).2.1 (g_K G).2.2.1 a_m (a_p 0) s.2.1 s.2.2.1 s.2.2.2 c_m_onDuty c_m_clock ++ wPlan (g_K G).2.1 (g_K G).2.2.1 a_p c_p_bowls c_p_fishes c_p_lips c_p_hours c_p_start c_p_first c_p_kind c_p_post c_p_error) [(0, .ref (a_m 0)), (1, .int s.1)] 2 []) (fun k2 hk2 s hf => ?_) n s hf
  obtain ⟨x1, c_m_place, c_m_known, c_m_left⟩ := s
  change f_X1_begin_2 c_p_fishes c_p_lips c_p_hours c_p_start c_p_first c_p_kind k2 x1 c_m_place c_m_known c_m_left = some r at hf
  unfold f_X1_begin_2 at hf
  show AB G 0 0 (wMoment (g_K G).2.1 (g_K G).2.2.1 a_m (a_p 0) c_m_place c_m_known c_m_left c_m_onDuty c_m_clock ++ wPlan (g_K G).2.1 (g_K G).2.2.1 a_p c_p_bowls c_p_fishes c_p_lips c_p_hours c_p_start c_p_first c_p_kind c_p_post c_p_error) [(0, .ref (a_m 0)), (1, .int x1)] 2 []
  refine ab_iload_n h 1 rfl rfl dX1_begin_2 ?_
  refine ab_aload_n h 0 rfl rfl dX1_begin_3 ?_
  refine ab_get h in_X1 0 rfl rfl 0 (by decide) fl_X1_21 rfl dX1_begin_4 ?_
  refine ab_get h in_X3 4 rfl rfl 1 (by decide) fl_X1_25 rfl dX1_begin_7 ?_
  refine ab_icmp_ge (tgt := 48) h dX1_begin_10 (by decide) (fun hf => ?_) (fun hf => ?_) hf
  · refine ab_sub [0] (lv' := [(0, .ref (a_m 0))]) rfl ?_
    exact t_X1_begin_48 h he hf
  · refine ab_aload_n h 0 rfl rfl dX1_begin_13 ?_
    refine ab_get h in_X1 0 rfl rfl 1 (by decide) fl_X1_9 rfl dX1_begin_14 ?_
    refine ab_iload_n h 1 rfl rfl dX1_begin_17 ?_
    refine ab_aload_n h 0 rfl rfl dX1_begin_18 ?_
    refine ab_get h in_X1 0 rfl rfl 0 (by decide) fl_X1_21 rfl dX1_begin_19 ?_
    refine ab_get h in_X3 4 rfl rfl 4 (by decide) fl_X1_31 rfl dX1_begin_22 ?_
    refine ab_iload_n h 1 rfl rfl dX1_begin_25 ?_
    refine ab_iald h 6 rfl dX1_begin_26 (fun v4 hf => ?_) hf
    refine ab_iast h 1 (wMoment (g_K G).2.1 (g_K G).2.2.1 a_m (a_p 0) (upd c_m_place (Int32.toNatClampNeg x1) v4) c_m_known c_m_left c_m_onDuty c_m_clock ++ wPlan (g_K G).2.1 (g_K G).2.2.1 a_p c_p_bowls c_p_fishes c_p_lips c_p_hours c_p_start c_p_first c_p_kind c_p_post c_p_error) rfl rfl dX1_begin_27 (fun hf => ?_) hf
    refine ab_aload_n h 0 rfl rfl dX1_begin_28 ?_
    refine ab_iload_n h 1 rfl rfl dX1_begin_29 ?_
    refine ab_aload_n h 0 rfl rfl dX1_begin_30 ?_
    refine ab_get h in_X1 0 rfl rfl 0 (by decide) fl_X1_21 rfl dX1_begin_31 ?_
    refine ab_get h in_X3 4 rfl rfl 5 (by decide) fl_X1_34 rfl dX1_begin_34 ?_
    refine ab_iload_n h 1 rfl rfl dX1_begin_37 ?_
    refine ab_iald h 7 rfl dX1_begin_38 (fun v5 hf => ?_) hf
    obtain ⟨w6, hw6, hf⟩ := bind_inv hf
    refine ab_call0 h (run_V (As := [.int x1, .int v5]) (st := []) h (c_X1_learn (g_l G) (g_K G) a_m a_p (upd c_m_place (Int32.toNatClampNeg x1) v4) c_m_known c_m_left c_m_onDuty c_m_clock c_p_bowls c_p_fishes c_p_lips c_p_hours c_p_start c_p_first c_p_kind c_p_post c_p_error x1 v5 w6 hw6) ok_X1_learn 0 rfl rfl ml_X1_37 ⟨⟨Nat.le_of_ble_eq_true rfl, Nat.le_of_ble_eq_true rfl⟩, ⟨Nat.le_of_ble_eq_true rfl, Nat.le_of_ble_eq_true rfl⟩, Nat.le_of_ble_eq_true rfl⟩ dX1_begin_39 rfl) (wMoment (g_K G).2.1 (g_K G).2.2.1 a_m (a_p 0) (upd c_m_place (Int32.toNatClampNeg x1) v4) w6.1 w6.2 c_m_onDuty c_m_clock ++ wPlan (g_K G).2.1 (g_K G).2.2.1 a_p c_p_bowls c_p_fishes c_p_lips c_p_hours c_p_start c_p_first c_p_kind c_p_post c_p_error) (fun _ => rfl) [] rfl rfl rfl ?_
    refine ab_iinc (v := x1 + 1) h 1 [1, 0] [(0, .ref (a_m 0)), (1, .int (x1 + 1))] rfl rfl (by decide) rfl dX1_begin_42 ?_
    refine ab_goto (tgt := 2) h dX1_begin_45 (by decide) ?_
    exact hk2 (x1 + 1, upd c_m_place (Int32.toNatClampNeg x1) v4, w6.1, w6.2) hf
def f_X1_begin (c_m_place : Nat → Int32) (c_m_known : Nat → Int32) (c_m_left : Nat → Int32) (c_p_fishes : Int32) (c_p_lips : Int32) (c_p_hours : Nat → Int32) (c_p_start : Nat → Int32) (c_p_first : Nat → Int32) (c_p_kind : Nat → Int32) : Option ((Nat → Int32) × (Nat → Int32) × (Nat → Int32) × Int32 × Int32) := loopN (g_X1_begin_2 c_p_fishes c_p_lips c_p_hours c_p_start c_p_first c_p_kind) 100 (0, c_m_place, c_m_known, c_m_left)
set_option maxRecDepth 100000 in
set_option maxHeartbeats 4000000 in
theorem t_X1_begin_0 {G : Cx} (h : Am G yX1_begin cX1_begin 2 none rX1_begin) {a_m a_p : Nat → Nat} {c_m_place : Nat → Int32} {c_m_known : Nat → Int32} {c_m_left : Nat → Int32} {c_m_onDuty : Int32} {c_m_clock : Int32} {c_p_bowls : Int32} {c_p_fishes : Int32} {c_p_lips : Int32} {c_p_hours : Nat → Int32} {c_p_start : Nat → Int32} {c_p_first : Nat → Int32} {c_p_kind : Nat → Int32} {c_p_post : Nat → Int32} {c_p_error : Nat → Int32} {r : (Nat → Int32) × (Nat → Int32) × (Nat → Int32) × Int32 × Int32} (he : En G rX1_begin none (fun _ => wMoment (g_K G).2.1 (g_K G).2.2.1 a_m (a_p 0) r.1 r.2.1 r.2.2.1 r.2.2.2.1 r.2.2.2.2 ++ wPlan (g_K G).2.1 (g_K G).2.2.1 a_p c_p_bowls c_p_fishes c_p_lips c_p_hours c_p_start c_p_first c_p_kind c_p_post c_p_error)) (hf : f_X1_begin c_m_place c_m_known c_m_left c_p_fishes c_p_lips c_p_hours c_p_start c_p_first c_p_kind = some r) : AB G 0 0 (wMoment (g_K G).2.1 (g_K G).2.2.1 a_m (a_p 0) c_m_place c_m_known c_m_left c_m_onDuty c_m_clock ++ wPlan (g_K G).2.1 (g_K G).2.2.1 a_p c_p_bowls c_p_fishes c_p_lips c_p_hours c_p_start c_p_first c_p_kind c_p_post c_p_error) [(0, .ref (a_m 0))] 0 [] := by
  unfold f_X1_begin at hf
  refine ab_iconst (v := 0) h dX1_begin_0 (by decide) ?_
  refine ab_istore_n h [1, 0] [(0, .ref (a_m 0)), (1, .int 0)] rfl (by decide) rfl dX1_begin_1 ?_
  exact t_X1_begin_2 h he 100 (0, c_m_place, c_m_known, c_m_left) hf
theorem c_X1_begin (l : Launch) (K : Kx) (a_m a_p : Nat → Nat) (c_m_place : Nat → Int32) (c_m_known : Nat → Int32) (c_m_left : Nat → Int32) (c_m_onDuty : Int32) (c_m_clock : Int32) (c_p_bowls : Int32) (c_p_fishes : Int32) (c_p_lips : Int32) (c_p_hours : Nat → Int32) (c_p_start : Nat → Int32) (c_p_first : Nat → Int32) (c_p_kind : Nat → Int32) (c_p_post : Nat → Int32) (c_p_error : Nat → Int32) (r : (Nat → Int32) × (Nat → Int32) × (Nat → Int32) × Int32 × Int32) (hf : f_X1_begin c_m_place c_m_known c_m_left c_p_fishes c_p_lips c_p_hours c_p_start c_p_first c_p_kind = some r) : Ct l yX1_begin cX1_begin 2 none rX1_begin K [.ref (a_m 0)] (wMoment K.2.1 K.2.2.1 a_m (a_p 0) c_m_place c_m_known c_m_left c_m_onDuty c_m_clock ++ wPlan K.2.1 K.2.2.1 a_p c_p_bowls c_p_fishes c_p_lips c_p_hours c_p_start c_p_first c_p_kind c_p_post c_p_error) none (fun _ => wMoment K.2.1 K.2.2.1 a_m (a_p 0) r.1 r.2.1 r.2.2.1 r.2.2.2.1 r.2.2.2.2 ++ wPlan K.2.1 K.2.2.1 a_p c_p_bowls c_p_fishes c_p_lips c_p_hours c_p_start c_p_first c_p_kind c_p_post c_p_error) := by
  refine Ct.of (by decide +kernel) (Nat.le_of_ble_eq_true rfl) ?_
  intro G hl hK h he
  subst hl
  subst hK
  exact t_X1_begin_0 h he hf

-- BowlState$Moment.become
abbrev rX1_become : Room := { frames := 1, cells := 0, slots := 0, locals := 40 }
def f_X1_become (c_m_place : Nat → Int32) (c_m_known : Nat → Int32) (c_m_left : Nat → Int32) (c_o_place : Nat → Int32) (c_o_known : Nat → Int32) (c_o_left : Nat → Int32) (c_o_onDuty : Int32) (c_o_clock : Int32) : Option ((Nat → Int32) × (Nat → Int32) × (Nat → Int32) × Int32 × Int32) := some (va_cpy c_o_place c_m_place 0 0 5, va_cpy c_o_known c_m_known 0 0 5, va_cpy c_o_left c_m_left 0 0 5, c_o_onDuty, c_o_clock)
set_option maxRecDepth 100000 in
set_option maxHeartbeats 4000000 in
theorem t_X1_become_0 {G : Cx} (h : Am G yX1_become cX1_become 2 none rX1_become) {a_m a_o : Nat → Nat} {e_m_plan e_o_plan : Nat} {c_m_place : Nat → Int32} {c_m_known : Nat → Int32} {c_m_left : Nat → Int32} {c_m_onDuty : Int32} {c_m_clock : Int32} {c_o_place : Nat → Int32} {c_o_known : Nat → Int32} {c_o_left : Nat → Int32} {c_o_onDuty : Int32} {c_o_clock : Int32} {r : (Nat → Int32) × (Nat → Int32) × (Nat → Int32) × Int32 × Int32} (he : En G rX1_become none (fun _ => wMoment (g_K G).2.1 (g_K G).2.2.1 a_m e_m_plan r.1 r.2.1 r.2.2.1 r.2.2.2.1 r.2.2.2.2 ++ wMoment (g_K G).2.1 (g_K G).2.2.1 a_o e_o_plan c_o_place c_o_known c_o_left c_o_onDuty c_o_clock)) (hf : f_X1_become c_m_place c_m_known c_m_left c_o_place c_o_known c_o_left c_o_onDuty c_o_clock = some r) : AB G 0 0 (wMoment (g_K G).2.1 (g_K G).2.2.1 a_m e_m_plan c_m_place c_m_known c_m_left c_m_onDuty c_m_clock ++ wMoment (g_K G).2.1 (g_K G).2.2.1 a_o e_o_plan c_o_place c_o_known c_o_left c_o_onDuty c_o_clock) [(0, .ref (a_m 0)), (1, .ref (a_o 0))] 0 [] := by
  unfold f_X1_become at hf
  refine ab_aload_n h 1 rfl rfl dX1_become_0 ?_
  refine ab_get h in_X1 4 rfl rfl 1 (by decide) fl_X1_9 rfl dX1_become_1 ?_
  refine ab_iconst (v := 0) h dX1_become_4 (by decide) ?_
  refine ab_aload_n h 0 rfl rfl dX1_become_5 ?_
  refine ab_get h in_X1 0 rfl rfl 1 (by decide) fl_X1_9 rfl dX1_become_6 ?_
  refine ab_iconst (v := 0) h dX1_become_9 (by decide) ?_
  refine ab_iconst (v := 5) h dX1_become_10 (by decide) ?_
  refine ab_copy h 5 1 5 (wMoment (g_K G).2.1 (g_K G).2.2.1 a_m e_m_plan (va_cpy c_o_place c_m_place 0 0 5) c_m_known c_m_left c_m_onDuty c_m_clock ++ wMoment (g_K G).2.1 (g_K G).2.2.1 a_o e_o_plan c_o_place c_o_known c_o_left c_o_onDuty c_o_clock) ac_X1_50 rfl rfl (by decide) (by decide) (by decide) rfl (by decide) (by decide) dX1_become_11 ?_
  refine ab_aload_n h 1 rfl rfl dX1_become_14 ?_
  refine ab_get h in_X1 4 rfl rfl 2 (by decide) fl_X1_15 rfl dX1_become_15 ?_
  refine ab_iconst (v := 0) h dX1_become_18 (by decide) ?_
  refine ab_aload_n h 0 rfl rfl dX1_become_19 ?_
  refine ab_get h in_X1 0 rfl rfl 2 (by decide) fl_X1_15 rfl dX1_become_20 ?_
  refine ab_iconst (v := 0) h dX1_become_23 (by decide) ?_
  refine ab_iconst (v := 5) h dX1_become_24 (by decide) ?_
  refine ab_copy h 6 2 5 (wMoment (g_K G).2.1 (g_K G).2.2.1 a_m e_m_plan (va_cpy c_o_place c_m_place 0 0 5) (va_cpy c_o_known c_m_known 0 0 5) c_m_left c_m_onDuty c_m_clock ++ wMoment (g_K G).2.1 (g_K G).2.2.1 a_o e_o_plan c_o_place c_o_known c_o_left c_o_onDuty c_o_clock) ac_X1_50 rfl rfl (by decide) (by decide) (by decide) rfl (by decide) (by decide) dX1_become_25 ?_
  refine ab_aload_n h 1 rfl rfl dX1_become_28 ?_
  refine ab_get h in_X1 4 rfl rfl 3 (by decide) fl_X1_18 rfl dX1_become_29 ?_
  refine ab_iconst (v := 0) h dX1_become_32 (by decide) ?_
  refine ab_aload_n h 0 rfl rfl dX1_become_33 ?_
  refine ab_get h in_X1 0 rfl rfl 3 (by decide) fl_X1_18 rfl dX1_become_34 ?_
  refine ab_iconst (v := 0) h dX1_become_37 (by decide) ?_
  refine ab_iconst (v := 5) h dX1_become_38 (by decide) ?_
  refine ab_copy h 7 3 5 (wMoment (g_K G).2.1 (g_K G).2.2.1 a_m e_m_plan (va_cpy c_o_place c_m_place 0 0 5) (va_cpy c_o_known c_m_known 0 0 5) (va_cpy c_o_left c_m_left 0 0 5) c_m_onDuty c_m_clock ++ wMoment (g_K G).2.1 (g_K G).2.2.1 a_o e_o_plan c_o_place c_o_known c_o_left c_o_onDuty c_o_clock) ac_X1_50 rfl rfl (by decide) (by decide) (by decide) rfl (by decide) (by decide) dX1_become_39 ?_
  refine ab_aload_n h 0 rfl rfl dX1_become_42 ?_
  refine ab_aload_n h 1 rfl rfl dX1_become_43 ?_
  refine ab_get h in_X1 4 rfl rfl 4 (by decide) fl_X1_44 rfl dX1_become_44 ?_
  refine ab_put h in_X1 tyX1 tyX1_ok nmX1 0 (wMoment (g_K G).2.1 (g_K G).2.2.1 a_m e_m_plan (va_cpy c_o_place c_m_place 0 0 5) (va_cpy c_o_known c_m_known 0 0 5) (va_cpy c_o_left c_m_left 0 0 5) c_o_onDuty c_m_clock ++ wMoment (g_K G).2.1 (g_K G).2.2.1 a_o e_o_plan c_o_place c_o_known c_o_left c_o_onDuty c_o_clock) rfl rfl 4 (by decide) fl_X1_44 rfl (tyX1_ok 4 (by decide)) rfl rfl (Nat.le_of_ble_eq_true rfl) rfl dX1_become_47 ?_
  refine ab_aload_n h 0 rfl rfl dX1_become_50 ?_
  refine ab_aload_n h 1 rfl rfl dX1_become_51 ?_
  refine ab_get h in_X1 4 rfl rfl 5 (by decide) fl_X1_47 rfl dX1_become_52 ?_
  refine ab_put h in_X1 tyX1 tyX1_ok nmX1 0 (wMoment (g_K G).2.1 (g_K G).2.2.1 a_m e_m_plan (va_cpy c_o_place c_m_place 0 0 5) (va_cpy c_o_known c_m_known 0 0 5) (va_cpy c_o_left c_m_left 0 0 5) c_o_onDuty c_o_clock ++ wMoment (g_K G).2.1 (g_K G).2.2.1 a_o e_o_plan c_o_place c_o_known c_o_left c_o_onDuty c_o_clock) rfl rfl 5 (by decide) fl_X1_47 rfl (tyX1_ok 5 (by decide)) rfl rfl (Nat.le_of_ble_eq_true rfl) rfl dX1_become_55 ?_
  obtain rfl := Option.some.inj hf
  exact ab_vret h he [] rfl rfl rfl rfl rfl dX1_become_58
theorem c_X1_become (l : Launch) (K : Kx) (a_m a_o : Nat → Nat) (e_m_plan e_o_plan : Nat) (c_m_place : Nat → Int32) (c_m_known : Nat → Int32) (c_m_left : Nat → Int32) (c_m_onDuty : Int32) (c_m_clock : Int32) (c_o_place : Nat → Int32) (c_o_known : Nat → Int32) (c_o_left : Nat → Int32) (c_o_onDuty : Int32) (c_o_clock : Int32) (r : (Nat → Int32) × (Nat → Int32) × (Nat → Int32) × Int32 × Int32) (hf : f_X1_become c_m_place c_m_known c_m_left c_o_place c_o_known c_o_left c_o_onDuty c_o_clock = some r) : Ct l yX1_become cX1_become 2 none rX1_become K [.ref (a_m 0), .ref (a_o 0)] (wMoment K.2.1 K.2.2.1 a_m e_m_plan c_m_place c_m_known c_m_left c_m_onDuty c_m_clock ++ wMoment K.2.1 K.2.2.1 a_o e_o_plan c_o_place c_o_known c_o_left c_o_onDuty c_o_clock) none (fun _ => wMoment K.2.1 K.2.2.1 a_m e_m_plan r.1 r.2.1 r.2.2.1 r.2.2.2.1 r.2.2.2.2 ++ wMoment K.2.1 K.2.2.1 a_o e_o_plan c_o_place c_o_known c_o_left c_o_onDuty c_o_clock) := by
  refine Ct.of (by decide +kernel) (Nat.le_of_ble_eq_true rfl) ?_
  intro G hl hK h he
  subst hl
  subst hK
  exact t_X1_become_0 h he hf

-- BowlState$Moment.isOnDuty
abbrev rX1_isOnDuty : Room := { frames := 0, cells := 0, slots := 0, locals := 0 }
def f_X1_isOnDuty (c_m_onDuty : Int32) (x1 : Int32) : Option Int32 := if (c_m_onDuty &&& (jshl 1 x1)) = 0 then (some 0) else (some 1)
set_option maxRecDepth 100000 in
set_option maxHeartbeats 4000000 in
theorem t_X1_isOnDuty_0 {G : Cx} (h : Am G yX1_isOnDuty cX1_isOnDuty 2 (some .boolean) rX1_isOnDuty) {a_m a_p : Nat → Nat} {c_m_place : Nat → Int32} {c_m_known : Nat → Int32} {c_m_left : Nat → Int32} {c_m_onDuty : Int32} {c_m_clock : Int32} {c_p_bowls : Int32} {c_p_fishes : Int32} {c_p_lips : Int32} {c_p_hours : Nat → Int32} {c_p_start : Nat → Int32} {c_p_first : Nat → Int32} {c_p_kind : Nat → Int32} {c_p_post : Nat → Int32} {c_p_error : Nat → Int32} {r : Int32} (he : En G rX1_isOnDuty (some (.int r)) (fun _ => wMoment (g_K G).2.1 (g_K G).2.2.1 a_m (a_p 0) c_m_place c_m_known c_m_left c_m_onDuty c_m_clock ++ wPlan (g_K G).2.1 (g_K G).2.2.1 a_p c_p_bowls c_p_fishes c_p_lips c_p_hours c_p_start c_p_first c_p_kind c_p_post c_p_error)) {x1 : Int32} (hf : f_X1_isOnDuty c_m_onDuty x1 = some r) : AB G 0 0 (wMoment (g_K G).2.1 (g_K G).2.2.1 a_m (a_p 0) c_m_place c_m_known c_m_left c_m_onDuty c_m_clock ++ wPlan (g_K G).2.1 (g_K G).2.2.1 a_p c_p_bowls c_p_fishes c_p_lips c_p_hours c_p_start c_p_first c_p_kind c_p_post c_p_error) [(0, .ref (a_m 0)), (1, .int x1)] 0 [] := by
  unfold f_X1_isOnDuty at hf
  refine ab_aload_n h 0 rfl rfl dX1_isOnDuty_0 ?_
  refine ab_get h in_X1 0 rfl rfl 4 (by decide) fl_X1_44 rfl dX1_isOnDuty_1 ?_
  refine ab_iconst (v := 1) h dX1_isOnDuty_4 (by decide) ?_
  refine ab_iload_n h 1 rfl rfl dX1_isOnDuty_5 ?_
  refine ab_ishl h dX1_isOnDuty_6 ?_
  refine ab_iand h dX1_isOnDuty_7 ?_
  refine ab_if_eq (tgt := 15) h dX1_isOnDuty_8 (by decide) (fun hf => ?_) (fun hf => ?_) hf
  · refine ab_iconst (v := 0) h dX1_isOnDuty_15 (by decide) ?_
    obtain rfl := Option.some.inj hf
    exact ab_zret h he [] rfl (Or.inl rfl) rfl rfl rfl rfl dX1_isOnDuty_16
  · refine ab_iconst (v := 1) h dX1_isOnDuty_11 (by decide) ?_
    refine ab_goto (tgt := 16) h dX1_isOnDuty_12 (by decide) ?_
    obtain rfl := Option.some.inj hf
    exact ab_zret h he [] rfl (Or.inr rfl) rfl rfl rfl rfl dX1_isOnDuty_16
theorem c_X1_isOnDuty (l : Launch) (K : Kx) (a_m a_p : Nat → Nat) (c_m_place : Nat → Int32) (c_m_known : Nat → Int32) (c_m_left : Nat → Int32) (c_m_onDuty : Int32) (c_m_clock : Int32) (c_p_bowls : Int32) (c_p_fishes : Int32) (c_p_lips : Int32) (c_p_hours : Nat → Int32) (c_p_start : Nat → Int32) (c_p_first : Nat → Int32) (c_p_kind : Nat → Int32) (c_p_post : Nat → Int32) (c_p_error : Nat → Int32) (x1 : Int32) (r : Int32) (hf : f_X1_isOnDuty c_m_onDuty x1 = some r) : Ct l yX1_isOnDuty cX1_isOnDuty 2 (some .boolean) rX1_isOnDuty K [.ref (a_m 0), .int x1] (wMoment K.2.1 K.2.2.1 a_m (a_p 0) c_m_place c_m_known c_m_left c_m_onDuty c_m_clock ++ wPlan K.2.1 K.2.2.1 a_p c_p_bowls c_p_fishes c_p_lips c_p_hours c_p_start c_p_first c_p_kind c_p_post c_p_error) (some (.int r)) (fun _ => wMoment K.2.1 K.2.2.1 a_m (a_p 0) c_m_place c_m_known c_m_left c_m_onDuty c_m_clock ++ wPlan K.2.1 K.2.2.1 a_p c_p_bowls c_p_fishes c_p_lips c_p_hours c_p_start c_p_first c_p_kind c_p_post c_p_error) := by
  refine Ct.of (by decide +kernel) (Nat.le_of_ble_eq_true rfl) ?_
  intro G hl hK h he
  subst hl
  subst hK
  exact t_X1_isOnDuty_0 h he hf

-- BowlState$Moment.turn
abbrev rX1_turn : Room := { frames := 0, cells := 0, slots := 0, locals := 0 }
def f_X1_turn (c_m_onDuty : Int32) (x1 : Int32) : Option Int32 := some (c_m_onDuty ^^^ (jshl 1 x1))
set_option maxRecDepth 100000 in
set_option maxHeartbeats 4000000 in
theorem t_X1_turn_0 {G : Cx} (h : Am G yX1_turn cX1_turn 2 none rX1_turn) {a_m a_p : Nat → Nat} {c_m_place : Nat → Int32} {c_m_known : Nat → Int32} {c_m_left : Nat → Int32} {c_m_onDuty : Int32} {c_m_clock : Int32} {c_p_bowls : Int32} {c_p_fishes : Int32} {c_p_lips : Int32} {c_p_hours : Nat → Int32} {c_p_start : Nat → Int32} {c_p_first : Nat → Int32} {c_p_kind : Nat → Int32} {c_p_post : Nat → Int32} {c_p_error : Nat → Int32} {r : Int32} (he : En G rX1_turn none (fun _ => wMoment (g_K G).2.1 (g_K G).2.2.1 a_m (a_p 0) c_m_place c_m_known c_m_left r c_m_clock ++ wPlan (g_K G).2.1 (g_K G).2.2.1 a_p c_p_bowls c_p_fishes c_p_lips c_p_hours c_p_start c_p_first c_p_kind c_p_post c_p_error)) {x1 : Int32} (hf : f_X1_turn c_m_onDuty x1 = some r) : AB G 0 0 (wMoment (g_K G).2.1 (g_K G).2.2.1 a_m (a_p 0) c_m_place c_m_known c_m_left c_m_onDuty c_m_clock ++ wPlan (g_K G).2.1 (g_K G).2.2.1 a_p c_p_bowls c_p_fishes c_p_lips c_p_hours c_p_start c_p_first c_p_kind c_p_post c_p_error) [(0, .ref (a_m 0)), (1, .int x1)] 0 [] := by
  unfold f_X1_turn at hf
  refine ab_aload_n h 0 rfl rfl dX1_turn_0 ?_
  refine ab_dup h dX1_turn_1 rfl ?_
  refine ab_get h in_X1 0 rfl rfl 4 (by decide) fl_X1_44 rfl dX1_turn_2 ?_
  refine ab_iconst (v := 1) h dX1_turn_5 (by decide) ?_
  refine ab_iload_n h 1 rfl rfl dX1_turn_6 ?_
  refine ab_ishl h dX1_turn_7 ?_
  refine ab_ixor h dX1_turn_8 ?_
  refine ab_put h in_X1 tyX1 tyX1_ok nmX1 0 (wMoment (g_K G).2.1 (g_K G).2.2.1 a_m (a_p 0) c_m_place c_m_known c_m_left (c_m_onDuty ^^^ (jshl 1 x1)) c_m_clock ++ wPlan (g_K G).2.1 (g_K G).2.2.1 a_p c_p_bowls c_p_fishes c_p_lips c_p_hours c_p_start c_p_first c_p_kind c_p_post c_p_error) rfl rfl 4 (by decide) fl_X1_44 rfl (tyX1_ok 4 (by decide)) rfl rfl (Nat.le_of_ble_eq_true rfl) rfl dX1_turn_9 ?_
  obtain rfl := Option.some.inj hf
  exact ab_vret h he [] rfl rfl rfl rfl rfl dX1_turn_12
theorem c_X1_turn (l : Launch) (K : Kx) (a_m a_p : Nat → Nat) (c_m_place : Nat → Int32) (c_m_known : Nat → Int32) (c_m_left : Nat → Int32) (c_m_onDuty : Int32) (c_m_clock : Int32) (c_p_bowls : Int32) (c_p_fishes : Int32) (c_p_lips : Int32) (c_p_hours : Nat → Int32) (c_p_start : Nat → Int32) (c_p_first : Nat → Int32) (c_p_kind : Nat → Int32) (c_p_post : Nat → Int32) (c_p_error : Nat → Int32) (x1 : Int32) (r : Int32) (hf : f_X1_turn c_m_onDuty x1 = some r) : Ct l yX1_turn cX1_turn 2 none rX1_turn K [.ref (a_m 0), .int x1] (wMoment K.2.1 K.2.2.1 a_m (a_p 0) c_m_place c_m_known c_m_left c_m_onDuty c_m_clock ++ wPlan K.2.1 K.2.2.1 a_p c_p_bowls c_p_fishes c_p_lips c_p_hours c_p_start c_p_first c_p_kind c_p_post c_p_error) none (fun _ => wMoment K.2.1 K.2.2.1 a_m (a_p 0) c_m_place c_m_known c_m_left r c_m_clock ++ wPlan K.2.1 K.2.2.1 a_p c_p_bowls c_p_fishes c_p_lips c_p_hours c_p_start c_p_first c_p_kind c_p_post c_p_error) := by
  refine Ct.of (by decide +kernel) (Nat.le_of_ble_eq_true rfl) ?_
  intro G hl hK h he
  subst hl
  subst hK
  exact t_X1_turn_0 h he hf

-- BowlState$Moment.knowing
abbrev rX1_knowing : Room := { frames := 0, cells := 0, slots := 0, locals := 0 }
def f_X1_knowing_32 (k4 : (Int32 × Int32) → Option Int32) (x1 : Int32) (x2 : Int32) : Option Int32 := k4 (x1, x2 + 1)
set_option maxRecDepth 100000 in
set_option maxHeartbeats 4000000 in
theorem t_X1_knowing_32 {G : Cx} (h : Am G yX1_knowing cX1_knowing 3 (some .int) rX1_knowing) {a_m a_p : Nat → Nat} {c_m_place : Nat → Int32} {c_m_known : Nat → Int32} {c_m_left : Nat → Int32} {c_m_onDuty : Int32} {c_m_clock : Int32} {c_p_bowls : Int32} {c_p_fishes : Int32} {c_p_lips : Int32} {c_p_hours : Nat → Int32} {c_p_start : Nat → Int32} {c_p_first : Nat → Int32} {c_p_kind : Nat → Int32} {c_p_post : Nat → Int32} {c_p_error : Nat → Int32} {r : Int32} (he : En G rX1_knowing (some (.int r)) (fun _ => wMoment (g_K G).2.1 (g_K G).2.2.1 a_m (a_p 0) c_m_place c_m_known c_m_left c_m_onDuty c_m_clock ++ wPlan (g_K G).2.1 (g_K G).2.2.1 a_p c_p_bowls c_p_fishes c_p_lips c_p_hours c_p_start c_p_first c_p_kind c_p_post c_p_error)) {x1 : Int32} {x2 : Int32} (k4 : (Int32 × Int32) → Option Int32) (hk4 : ∀ s : Int32 × Int32, k4 s = some r → AB G 0 0 (wMoment (g_K G).2.1 (g_K G).2.2.1 a_m (a_p 0) c_m_place c_m_known c_m_left c_m_onDuty c_m_clock ++ wPlan (g_K G).2.1 (g_K G).2.2.1 a_p c_p_bowls c_p_fishes c_p_lips c_p_hours c_p_start c_p_first c_p_kind c_p_post c_p_error) [(0, .ref (a_m 0)), (1, .int s.1), (2, .int s.2)] 4 []) (hf : f_X1_knowing_32 k4 x1 x2 = some r) : AB G 0 0 (wMoment (g_K G).2.1 (g_K G).2.2.1 a_m (a_p 0) c_m_place c_m_known c_m_left c_m_onDuty c_m_clock ++ wPlan (g_K G).2.1 (g_K G).2.2.1 a_p c_p_bowls c_p_fishes c_p_lips c_p_hours c_p_start c_p_first c_p_kind c_p_post c_p_error) [(0, .ref (a_m 0)), (1, .int x1), (2, .int x2)] 32 [] := by
  unfold f_X1_knowing_32 at hf
  refine ab_iinc (v := x2 + 1) h 2 [1, 2, 0] [(0, .ref (a_m 0)), (1, .int x1), (2, .int (x2 + 1))] rfl rfl (by decide) rfl dX1_knowing_32 ?_
  refine ab_goto (tgt := 4) h dX1_knowing_35 (by decide) ?_
  exact hk4 (x1, x2 + 1) hf
def f_X1_knowing_4 (c_m_known : Nat → Int32) (c_p_fishes : Int32) (k4 : (Int32 × Int32) → Option Int32) (x1 : Int32) (x2 : Int32) : Option Int32 := if c_p_fishes ≤ x2 then (some x1) else (rd 5 c_m_known x2 (fun v2 => if v2 = ((-9)) then (f_X1_knowing_32 k4 x1 x2) else (f_X1_knowing_32 k4 (x1 ||| (jshl 1 x2)) x2)))
def g_X1_knowing_4 (c_m_known : Nat → Int32) (c_p_fishes : Int32) (k4 : (Int32 × Int32) → Option Int32) (s : Int32 × Int32) : Option Int32 := f_X1_knowing_4 c_m_known c_p_fishes k4 s.1 s.2
set_option maxRecDepth 100000 in
set_option maxHeartbeats 4000000 in
theorem t_X1_knowing_4 {G : Cx} (h : Am G yX1_knowing cX1_knowing 3 (some .int) rX1_knowing) {a_m a_p : Nat → Nat} {c_m_place : Nat → Int32} {c_m_known : Nat → Int32} {c_m_left : Nat → Int32} {c_m_onDuty : Int32} {c_m_clock : Int32} {c_p_bowls : Int32} {c_p_fishes : Int32} {c_p_lips : Int32} {c_p_hours : Nat → Int32} {c_p_start : Nat → Int32} {c_p_first : Nat → Int32} {c_p_kind : Nat → Int32} {c_p_post : Nat → Int32} {c_p_error : Nat → Int32} {r : Int32} (he : En G rX1_knowing (some (.int r)) (fun _ => wMoment (g_K G).2.1 (g_K G).2.2.1 a_m (a_p 0) c_m_place c_m_known c_m_left c_m_onDuty c_m_clock ++ wPlan (g_K G).2.1 (g_K G).2.2.1 a_p c_p_bowls c_p_fishes c_p_lips c_p_hours c_p_start c_p_first c_p_kind c_p_post c_p_error)) (n : Nat) (s : Int32 × Int32) (hf : loopN (g_X1_knowing_4 c_m_known c_p_fishes) n s = some r) : AB G 0 0 (wMoment (g_K G).2.1 (g_K G).2.2.1 a_m (a_p 0) c_m_place c_m_known c_m_left c_m_onDuty c_m_clock ++ wPlan (g_K G).2.1 (g_K G).2.2.1 a_p c_p_bowls c_p_fishes c_p_lips c_p_hours c_p_start c_p_first c_p_kind c_p_post c_p_error) [(0, .ref (a_m 0)), (1, .int s.1), (2, .int s.2)] 4 [] := by
  refine loopN_all (fun s => AB G 0 0 (wMoment (g_K G).2.1 (g_K G).2.2.1 a_m (a_p 0) c_m_place c_m_known c_m_left c_m_onDuty c_m_clock ++ wPlan (g_K G).2.1 (g_K G).2.2.1 a_p c_p_bowls c_p_fishes c_p_lips c_p_hours c_p_start c_p_first c_p_kind c_p_post c_p_error) [(0, .ref (a_m 0)), (1, .int s.1), (2, .int s.2)] 4 []) (fun k4 hk4 s hf => ?_) n s hf
  obtain ⟨x1, x2⟩ := s
  change f_X1_knowing_4 c_m_known c_p_fishes k4 x1 x2 = some r at hf
  unfold f_X1_knowing_4 at hf
  show AB G 0 0 (wMoment (g_K G).2.1 (g_K G).2.2.1 a_m (a_p 0) c_m_place c_m_known c_m_left c_m_onDuty c_m_clock ++ wPlan (g_K G).2.1 (g_K G).2.2.1 a_p c_p_bowls c_p_fishes c_p_lips c_p_hours c_p_start c_p_first c_p_kind c_p_post c_p_error) [(0, .ref (a_m 0)), (1, .int x1), (2, .int x2)] 4 []
  refine ab_iload_n h 2 rfl rfl dX1_knowing_4 ?_
  refine ab_aload_n h 0 rfl rfl dX1_knowing_5 ?_
  refine ab_get h in_X1 0 rfl rfl 0 (by decide) fl_X1_21 rfl dX1_knowing_6 ?_
  refine ab_get h in_X3 4 rfl rfl 1 (by decide) fl_X1_25 rfl dX1_knowing_9 ?_
  refine ab_icmp_ge (tgt := 38) h dX1_knowing_12 (by decide) (fun hf => ?_) (fun hf => ?_) hf
  · refine ab_iload_n h 1 rfl rfl dX1_knowing_38 ?_
    obtain rfl := Option.some.inj hf
    exact ab_iret h he [] rfl rfl rfl rfl rfl dX1_knowing_39
  · refine ab_aload_n h 0 rfl rfl dX1_knowing_15 ?_
    refine ab_get h in_X1 0 rfl rfl 2 (by decide) fl_X1_15 rfl dX1_knowing_16 ?_
    refine ab_iload_n h 2 rfl rfl dX1_knowing_19 ?_
    refine ab_iald h 2 rfl dX1_knowing_20 (fun v2 hf => ?_) hf
    refine ab_bipush (v := (-9)) h dX1_knowing_21 (by decide) ?_
    refine ab_icmp_eq (tgt := 32) h dX1_knowing_23 (by decide) (fun hf => ?_) (fun hf => ?_) hf
    · exact t_X1_knowing_32 h he k4 hk4 hf
    · refine ab_iload_n h 1 rfl rfl dX1_knowing_26 ?_
      refine ab_iconst (v := 1) h dX1_knowing_27 (by decide) ?_
      refine ab_iload_n h 2 rfl rfl dX1_knowing_28 ?_
      refine ab_ishl h dX1_knowing_29 ?_
      refine ab_ior h dX1_knowing_30 ?_
      refine ab_istore_n h [1, 0, 2] [(0, .ref (a_m 0)), (1, .int (x1 ||| (jshl 1 x2))), (2, .int x2)] rfl (by decide) rfl dX1_knowing_31 ?_
      exact t_X1_knowing_32 h he k4 hk4 hf
def f_X1_knowing (c_m_known : Nat → Int32) (c_p_fishes : Int32) : Option Int32 := loopN (g_X1_knowing_4 c_m_known c_p_fishes) 100 (0, 0)
set_option maxRecDepth 100000 in
set_option maxHeartbeats 4000000 in
theorem t_X1_knowing_0 {G : Cx} (h : Am G yX1_knowing cX1_knowing 3 (some .int) rX1_knowing) {a_m a_p : Nat → Nat} {c_m_place : Nat → Int32} {c_m_known : Nat → Int32} {c_m_left : Nat → Int32} {c_m_onDuty : Int32} {c_m_clock : Int32} {c_p_bowls : Int32} {c_p_fishes : Int32} {c_p_lips : Int32} {c_p_hours : Nat → Int32} {c_p_start : Nat → Int32} {c_p_first : Nat → Int32} {c_p_kind : Nat → Int32} {c_p_post : Nat → Int32} {c_p_error : Nat → Int32} {r : Int32} (he : En G rX1_knowing (some (.int r)) (fun _ => wMoment (g_K G).2.1 (g_K G).2.2.1 a_m (a_p 0) c_m_place c_m_known c_m_left c_m_onDuty c_m_clock ++ wPlan (g_K G).2.1 (g_K G).2.2.1 a_p c_p_bowls c_p_fishes c_p_lips c_p_hours c_p_start c_p_first c_p_kind c_p_post c_p_error)) (hf : f_X1_knowing c_m_known c_p_fishes = some r) : AB G 0 0 (wMoment (g_K G).2.1 (g_K G).2.2.1 a_m (a_p 0) c_m_place c_m_known c_m_left c_m_onDuty c_m_clock ++ wPlan (g_K G).2.1 (g_K G).2.2.1 a_p c_p_bowls c_p_fishes c_p_lips c_p_hours c_p_start c_p_first c_p_kind c_p_post c_p_error) [(0, .ref (a_m 0))] 0 [] := by
  unfold f_X1_knowing at hf
  refine ab_iconst (v := 0) h dX1_knowing_0 (by decide) ?_
  refine ab_istore_n h [1, 0] [(0, .ref (a_m 0)), (1, .int 0)] rfl (by decide) rfl dX1_knowing_1 ?_
  refine ab_iconst (v := 0) h dX1_knowing_2 (by decide) ?_
  refine ab_istore_n h [1, 2, 0] [(0, .ref (a_m 0)), (1, .int 0), (2, .int 0)] rfl (by decide) rfl dX1_knowing_3 ?_
  exact t_X1_knowing_4 h he 100 (0, 0) hf
theorem c_X1_knowing (l : Launch) (K : Kx) (a_m a_p : Nat → Nat) (c_m_place : Nat → Int32) (c_m_known : Nat → Int32) (c_m_left : Nat → Int32) (c_m_onDuty : Int32) (c_m_clock : Int32) (c_p_bowls : Int32) (c_p_fishes : Int32) (c_p_lips : Int32) (c_p_hours : Nat → Int32) (c_p_start : Nat → Int32) (c_p_first : Nat → Int32) (c_p_kind : Nat → Int32) (c_p_post : Nat → Int32) (c_p_error : Nat → Int32) (r : Int32) (hf : f_X1_knowing c_m_known c_p_fishes = some r) : Ct l yX1_knowing cX1_knowing 3 (some .int) rX1_knowing K [.ref (a_m 0)] (wMoment K.2.1 K.2.2.1 a_m (a_p 0) c_m_place c_m_known c_m_left c_m_onDuty c_m_clock ++ wPlan K.2.1 K.2.2.1 a_p c_p_bowls c_p_fishes c_p_lips c_p_hours c_p_start c_p_first c_p_kind c_p_post c_p_error) (some (.int r)) (fun _ => wMoment K.2.1 K.2.2.1 a_m (a_p 0) c_m_place c_m_known c_m_left c_m_onDuty c_m_clock ++ wPlan K.2.1 K.2.2.1 a_p c_p_bowls c_p_fishes c_p_lips c_p_hours c_p_start c_p_first c_p_kind c_p_post c_p_error) := by
  refine Ct.of (by decide +kernel) (Nat.le_of_ble_eq_true rfl) ?_
  intro G hl hK h he
  subst hl
  subst hK
  exact t_X1_knowing_0 h he hf

-- BowlState$Moment.knowingFirst
abbrev rX1_knowingFirst : Room := { frames := 0, cells := 0, slots := 0, locals := 0 }
def f_X1_knowingFirst_39 (k4 : (Int32 × Int32) → Option Int32) (x1 : Int32) (x2 : Int32) : Option Int32 := k4 (x1, x2 + 1)
set_option maxRecDepth 100000 in
set_option maxHeartbeats 4000000 in
theorem t_X1_knowingFirst_39 {G : Cx} (h : Am G yX1_knowingFirst cX1_knowingFirst 3 (some .int) rX1_knowingFirst) {a_m a_p : Nat → Nat} {c_m_place : Nat → Int32} {c_m_known : Nat → Int32} {c_m_left : Nat → Int32} {c_m_onDuty : Int32} {c_m_clock : Int32} {c_p_bowls : Int32} {c_p_fishes : Int32} {c_p_lips : Int32} {c_p_hours : Nat → Int32} {c_p_start : Nat → Int32} {c_p_first : Nat → Int32} {c_p_kind : Nat → Int32} {c_p_post : Nat → Int32} {c_p_error : Nat → Int32} {r : Int32} (he : En G rX1_knowingFirst (some (.int r)) (fun _ => wMoment (g_K G).2.1 (g_K G).2.2.1 a_m (a_p 0) c_m_place c_m_known c_m_left c_m_onDuty c_m_clock ++ wPlan (g_K G).2.1 (g_K G).2.2.1 a_p c_p_bowls c_p_fishes c_p_lips c_p_hours c_p_start c_p_first c_p_kind c_p_post c_p_error)) {x1 : Int32} {x2 : Int32} (k4 : (Int32 × Int32) → Option Int32) (hk4 : ∀ s : Int32 × Int32, k4 s = some r → AB G 0 0 (wMoment (g_K G).2.1 (g_K G).2.2.1 a_m (a_p 0) c_m_place c_m_known c_m_left c_m_onDuty c_m_clock ++ wPlan (g_K G).2.1 (g_K G).2.2.1 a_p c_p_bowls c_p_fishes c_p_lips c_p_hours c_p_start c_p_first c_p_kind c_p_post c_p_error) [(0, .ref (a_m 0)), (1, .int s.1), (2, .int s.2)] 4 []) (hf : f_X1_knowingFirst_39 k4 x1 x2 = some r) : AB G 0 0 (wMoment (g_K G).2.1 (g_K G).2.2.1 a_m (a_p 0) c_m_place c_m_known c_m_left c_m_onDuty c_m_clock ++ wPlan (g_K G).2.1 (g_K G).2.2.1 a_p c_p_bowls c_p_fishes c_p_lips c_p_hours c_p_start c_p_first c_p_kind c_p_post c_p_error) [(0, .ref (a_m 0)), (1, .int x1), (2, .int x2)] 39 [] := by
  unfold f_X1_knowingFirst_39 at hf
  refine ab_iinc (v := x2 + 1) h 2 [1, 2, 0] [(0, .ref (a_m 0)), (1, .int x1), (2, .int (x2 + 1))] rfl rfl (by decide) rfl dX1_knowingFirst_39 ?_
  refine ab_goto (tgt := 4) h dX1_knowingFirst_42 (by decide) ?_
  exact hk4 (x1, x2 + 1) hf
def f_X1_knowingFirst_4 (c_m_known : Nat → Int32) (c_p_fishes : Int32) (c_p_first : Nat → Int32) (k4 : (Int32 × Int32) → Option Int32) (x1 : Int32) (x2 : Int32) : Option Int32 := if c_p_fishes ≤ x2 then (some x1) else (rd 5 c_m_known x2 (fun v3 => rd 5 c_p_first x2 (fun v4 => if v3 = v4 then (f_X1_knowingFirst_39 k4 (x1 ||| (jshl 1 x2)) x2) else (f_X1_knowingFirst_39 k4 x1 x2))))
def g_X1_knowingFirst_4 (c_m_known : Nat → Int32) (c_p_fishes : Int32) (c_p_first : Nat → Int32) (k4 : (Int32 × Int32) → Option Int32) (s : Int32 × Int32) : Option Int32 := f_X1_knowingFirst_4 c_m_known c_p_fishes c_p_first k4 s.1 s.2
set_option maxRecDepth 100000 in
set_option maxHeartbeats 4000000 in
theorem t_X1_knowingFirst_4 {G : Cx} (h : Am G yX1_knowingFirst cX1_knowingFirst 3 (some .int) rX1_knowingFirst) {a_m a_p : Nat → Nat} {c_m_place : Nat → Int32} {c_m_known : Nat → Int32} {c_m_left : Nat → Int32} {c_m_onDuty : Int32} {c_m_clock : Int32} {c_p_bowls : Int32} {c_p_fishes : Int32} {c_p_lips : Int32} {c_p_hours : Nat → Int32} {c_p_start : Nat → Int32} {c_p_first : Nat → Int32} {c_p_kind : Nat → Int32} {c_p_post : Nat → Int32} {c_p_error : Nat → Int32} {r : Int32} (he : En G rX1_knowingFirst (some (.int r)) (fun _ => wMoment (g_K G).2.1 (g_K G).2.2.1 a_m (a_p 0) c_m_place c_m_known c_m_left c_m_onDuty c_m_clock ++ wPlan (g_K G).2.1 (g_K G).2.2.1 a_p c_p_bowls c_p_fishes c_p_lips c_p_hours c_p_start c_p_first c_p_kind c_p_post c_p_error)) (n : Nat) (s : Int32 × Int32) (hf : loopN (g_X1_knowingFirst_4 c_m_known c_p_fishes c_p_first) n s = some r) : AB G 0 0 (wMoment (g_K G).2.1 (g_K G).2.2.1 a_m (a_p 0) c_m_place c_m_known c_m_left c_m_onDuty c_m_clock ++ wPlan (g_K G).2.1 (g_K G).2.2.1 a_p c_p_bowls c_p_fishes c_p_lips c_p_hours c_p_start c_p_first c_p_kind c_p_post c_p_error) [(0, .ref (a_m 0)), (1, .int s.1), (2, .int s.2)] 4 [] := by
  refine loopN_all (fun s => AB G 0 0 (wMoment (g_K G).2.1 (g_K G).2.2.1 a_m (a_p 0) c_m_place c_m_known c_m_left c_m_onDuty c_m_clock ++ wPlan (g_K G).2.1 (g_K G).2.2.1 a_p c_p_bowls c_p_fishes c_p_lips c_p_hours c_p_start c_p_first c_p_kind c_p_post c_p_error) [(0, .ref (a_m 0)), (1, .int s.1), (2, .int s.2)] 4 []) (fun k4 hk4 s hf => ?_) n s hf
  obtain ⟨x1, x2⟩ := s
  change f_X1_knowingFirst_4 c_m_known c_p_fishes c_p_first k4 x1 x2 = some r at hf
  unfold f_X1_knowingFirst_4 at hf
  show AB G 0 0 (wMoment (g_K G).2.1 (g_K G).2.2.1 a_m (a_p 0) c_m_place c_m_known c_m_left c_m_onDuty c_m_clock ++ wPlan (g_K G).2.1 (g_K G).2.2.1 a_p c_p_bowls c_p_fishes c_p_lips c_p_hours c_p_start c_p_first c_p_kind c_p_post c_p_error) [(0, .ref (a_m 0)), (1, .int x1), (2, .int x2)] 4 []
  refine ab_iload_n h 2 rfl rfl dX1_knowingFirst_4 ?_
  refine ab_aload_n h 0 rfl rfl dX1_knowingFirst_5 ?_
  refine ab_get h in_X1 0 rfl rfl 0 (by decide) fl_X1_21 rfl dX1_knowingFirst_6 ?_
  refine ab_get h in_X3 4 rfl rfl 1 (by decide) fl_X1_25 rfl dX1_knowingFirst_9 ?_
  refine ab_icmp_ge (tgt := 45) h dX1_knowingFirst_12 (by decide) (fun hf => ?_) (fun hf => ?_) hf
  · refine ab_iload_n h 1 rfl rfl dX1_knowingFirst_45 ?_
    obtain rfl := Option.some.inj hf
    exact ab_iret h he [] rfl rfl rfl rfl rfl dX1_knowingFirst_46
  · refine ab_aload_n h 0 rfl rfl dX1_knowingFirst_15 ?_
    refine ab_get h in_X1 0 rfl rfl 2 (by decide) fl_X1_15 rfl dX1_knowingFirst_16 ?_
    refine ab_iload_n h 2 rfl rfl dX1_knowingFirst_19 ?_
    refine ab_iald h 2 rfl dX1_knowingFirst_20 (fun v3 hf => ?_) hf
    refine ab_aload_n h 0 rfl rfl dX1_knowingFirst_21 ?_
    refine ab_get h in_X1 0 rfl rfl 0 (by decide) fl_X1_21 rfl dX1_knowingFirst_22 ?_
    refine ab_get h in_X3 4 rfl rfl 5 (by decide) fl_X1_34 rfl dX1_knowingFirst_25 ?_
    refine ab_iload_n h 2 rfl rfl dX1_knowingFirst_28 ?_
    refine ab_iald h 7 rfl dX1_knowingFirst_29 (fun v4 hf => ?_) hf
    refine ab_icmp_ne (tgt := 39) h dX1_knowingFirst_30 (by decide) (fun hf => ?_) (fun hf => ?_) hf
    · exact t_X1_knowingFirst_39 h he k4 hk4 hf
    · refine ab_iload_n h 1 rfl rfl dX1_knowingFirst_33 ?_
      refine ab_iconst (v := 1) h dX1_knowingFirst_34 (by decide) ?_
      refine ab_iload_n h 2 rfl rfl dX1_knowingFirst_35 ?_
      refine ab_ishl h dX1_knowingFirst_36 ?_
      refine ab_ior h dX1_knowingFirst_37 ?_
      refine ab_istore_n h [1, 0, 2] [(0, .ref (a_m 0)), (1, .int (x1 ||| (jshl 1 x2))), (2, .int x2)] rfl (by decide) rfl dX1_knowingFirst_38 ?_
      exact t_X1_knowingFirst_39 h he k4 hk4 hf
def f_X1_knowingFirst (c_m_known : Nat → Int32) (c_p_fishes : Int32) (c_p_first : Nat → Int32) : Option Int32 := loopN (g_X1_knowingFirst_4 c_m_known c_p_fishes c_p_first) 100 (0, 0)
set_option maxRecDepth 100000 in
set_option maxHeartbeats 4000000 in
theorem t_X1_knowingFirst_0 {G : Cx} (h : Am G yX1_knowingFirst cX1_knowingFirst 3 (some .int) rX1_knowingFirst) {a_m a_p : Nat → Nat} {c_m_place : Nat → Int32} {c_m_known : Nat → Int32} {c_m_left : Nat → Int32} {c_m_onDuty : Int32} {c_m_clock : Int32} {c_p_bowls : Int32} {c_p_fishes : Int32} {c_p_lips : Int32} {c_p_hours : Nat → Int32} {c_p_start : Nat → Int32} {c_p_first : Nat → Int32} {c_p_kind : Nat → Int32} {c_p_post : Nat → Int32} {c_p_error : Nat → Int32} {r : Int32} (he : En G rX1_knowingFirst (some (.int r)) (fun _ => wMoment (g_K G).2.1 (g_K G).2.2.1 a_m (a_p 0) c_m_place c_m_known c_m_left c_m_onDuty c_m_clock ++ wPlan (g_K G).2.1 (g_K G).2.2.1 a_p c_p_bowls c_p_fishes c_p_lips c_p_hours c_p_start c_p_first c_p_kind c_p_post c_p_error)) (hf : f_X1_knowingFirst c_m_known c_p_fishes c_p_first = some r) : AB G 0 0 (wMoment (g_K G).2.1 (g_K G).2.2.1 a_m (a_p 0) c_m_place c_m_known c_m_left c_m_onDuty c_m_clock ++ wPlan (g_K G).2.1 (g_K G).2.2.1 a_p c_p_bowls c_p_fishes c_p_lips c_p_hours c_p_start c_p_first c_p_kind c_p_post c_p_error) [(0, .ref (a_m 0))] 0 [] := by
  unfold f_X1_knowingFirst at hf
  refine ab_iconst (v := 0) h dX1_knowingFirst_0 (by decide) ?_
  refine ab_istore_n h [1, 0] [(0, .ref (a_m 0)), (1, .int 0)] rfl (by decide) rfl dX1_knowingFirst_1 ?_
  refine ab_iconst (v := 0) h dX1_knowingFirst_2 (by decide) ?_
  refine ab_istore_n h [1, 2, 0] [(0, .ref (a_m 0)), (1, .int 0), (2, .int 0)] rfl (by decide) rfl dX1_knowingFirst_3 ?_
  exact t_X1_knowingFirst_4 h he 100 (0, 0) hf
theorem c_X1_knowingFirst (l : Launch) (K : Kx) (a_m a_p : Nat → Nat) (c_m_place : Nat → Int32) (c_m_known : Nat → Int32) (c_m_left : Nat → Int32) (c_m_onDuty : Int32) (c_m_clock : Int32) (c_p_bowls : Int32) (c_p_fishes : Int32) (c_p_lips : Int32) (c_p_hours : Nat → Int32) (c_p_start : Nat → Int32) (c_p_first : Nat → Int32) (c_p_kind : Nat → Int32) (c_p_post : Nat → Int32) (c_p_error : Nat → Int32) (r : Int32) (hf : f_X1_knowingFirst c_m_known c_p_fishes c_p_first = some r) : Ct l yX1_knowingFirst cX1_knowingFirst 3 (some .int) rX1_knowingFirst K [.ref (a_m 0)] (wMoment K.2.1 K.2.2.1 a_m (a_p 0) c_m_place c_m_known c_m_left c_m_onDuty c_m_clock ++ wPlan K.2.1 K.2.2.1 a_p c_p_bowls c_p_fishes c_p_lips c_p_hours c_p_start c_p_first c_p_kind c_p_post c_p_error) (some (.int r)) (fun _ => wMoment K.2.1 K.2.2.1 a_m (a_p 0) c_m_place c_m_known c_m_left c_m_onDuty c_m_clock ++ wPlan K.2.1 K.2.2.1 a_p c_p_bowls c_p_fishes c_p_lips c_p_hours c_p_start c_p_first c_p_kind c_p_post c_p_error) := by
  refine Ct.of (by decide +kernel) (Nat.le_of_ble_eq_true rfl) ?_
  intro G hl hK h he
  subst hl
  subst hK
  exact t_X1_knowingFirst_0 h he hf

-- BowlState$Moment.fishIn
abbrev rX1_fishIn : Room := { frames := 0, cells := 0, slots := 0, locals := 0 }
def f_X1_fishIn_31 (k4 : (Int32 × Int32) → Option Int32) (x2 : Int32) (x3 : Int32) : Option Int32 := k4 (x2, x3 + 1)
set_option maxRecDepth 100000 in
set_option maxHeartbeats 4000000 in
theorem t_X1_fishIn_31 {G : Cx} (h : Am G yX1_fishIn cX1_fishIn 4 (some .int) rX1_fishIn) {a_m a_p : Nat → Nat} {c_m_place : Nat → Int32} {c_m_known : Nat → Int32} {c_m_left : Nat → Int32} {c_m_onDuty : Int32} {c_m_clock : Int32} {c_p_bowls : Int32} {c_p_fishes : Int32} {c_p_lips : Int32} {c_p_hours : Nat → Int32} {c_p_start : Nat → Int32} {c_p_first : Nat → Int32} {c_p_kind : Nat → Int32} {c_p_post : Nat → Int32} {c_p_error : Nat → Int32} {r : Int32} (he : En G rX1_fishIn (some (.int r)) (fun _ => wMoment (g_K G).2.1 (g_K G).2.2.1 a_m (a_p 0) c_m_place c_m_known c_m_left c_m_onDuty c_m_clock ++ wPlan (g_K G).2.1 (g_K G).2.2.1 a_p c_p_bowls c_p_fishes c_p_lips c_p_hours c_p_start c_p_first c_p_kind c_p_post c_p_error)) {x1 : Int32} {x2 : Int32} {x3 : Int32} (k4 : (Int32 × Int32) → Option Int32) (hk4 : ∀ s : Int32 × Int32, k4 s = some r → AB G 0 0 (wMoment (g_K G).2.1 (g_K G).2.2.1 a_m (a_p 0) c_m_place c_m_known c_m_left c_m_onDuty c_m_clock ++ wPlan (g_K G).2.1 (g_K G).2.2.1 a_p c_p_bowls c_p_fishes c_p_lips c_p_hours c_p_start c_p_first c_p_kind c_p_post c_p_error) [(0, .ref (a_m 0)), (1, .int x1), (2, .int s.1), (3, .int s.2)] 4 []) (hf : f_X1_fishIn_31 k4 x2 x3 = some r) : AB G 0 0 (wMoment (g_K G).2.1 (g_K G).2.2.1 a_m (a_p 0) c_m_place c_m_known c_m_left c_m_onDuty c_m_clock ++ wPlan (g_K G).2.1 (g_K G).2.2.1 a_p c_p_bowls c_p_fishes c_p_lips c_p_hours c_p_start c_p_first c_p_kind c_p_post c_p_error) [(0, .ref (a_m 0)), (1, .int x1), (2, .int x2), (3, .int x3)] 31 [] := by
  unfold f_X1_fishIn_31 at hf
  refine ab_iinc (v := x3 + 1) h 3 [1, 2, 3, 0] [(0, .ref (a_m 0)), (1, .int x1), (2, .int x2), (3, .int (x3 + 1))] rfl rfl (by decide) rfl dX1_fishIn_31 ?_
  refine ab_goto (tgt := 4) h dX1_fishIn_34 (by decide) ?_
  exact hk4 (x2, x3 + 1) hf
def f_X1_fishIn_4 (c_m_place : Nat → Int32) (c_p_fishes : Int32) (x1 : Int32) (k4 : (Int32 × Int32) → Option Int32) (x2 : Int32) (x3 : Int32) : Option Int32 := if c_p_fishes ≤ x3 then (some x2) else (rd 5 c_m_place x3 (fun v2 => if v2 = x1 then (f_X1_fishIn_31 k4 (x2 ||| (jshl 1 x3)) x3) else (f_X1_fishIn_31 k4 x2 x3)))
def g_X1_fishIn_4 (c_m_place : Nat → Int32) (c_p_fishes : Int32) (x1 : Int32) (k4 : (Int32 × Int32) → Option Int32) (s : Int32 × Int32) : Option Int32 := f_X1_fishIn_4 c_m_place c_p_fishes x1 k4 s.1 s.2
set_option maxRecDepth 100000 in
set_option maxHeartbeats 4000000 in
theorem t_X1_fishIn_4 {G : Cx} (h : Am G yX1_fishIn cX1_fishIn 4 (some .int) rX1_fishIn) {a_m a_p : Nat → Nat} {c_m_place : Nat → Int32} {c_m_known : Nat → Int32} {c_m_left : Nat → Int32} {c_m_onDuty : Int32} {c_m_clock : Int32} {c_p_bowls : Int32} {c_p_fishes : Int32} {c_p_lips : Int32} {c_p_hours : Nat → Int32} {c_p_start : Nat → Int32} {c_p_first : Nat → Int32} {c_p_kind : Nat → Int32} {c_p_post : Nat → Int32} {c_p_error : Nat → Int32} {r : Int32} (he : En G rX1_fishIn (some (.int r)) (fun _ => wMoment (g_K G).2.1 (g_K G).2.2.1 a_m (a_p 0) c_m_place c_m_known c_m_left c_m_onDuty c_m_clock ++ wPlan (g_K G).2.1 (g_K G).2.2.1 a_p c_p_bowls c_p_fishes c_p_lips c_p_hours c_p_start c_p_first c_p_kind c_p_post c_p_error)) {x1 : Int32} (n : Nat) (s : Int32 × Int32) (hf : loopN (g_X1_fishIn_4 c_m_place c_p_fishes x1) n s = some r) : AB G 0 0 (wMoment (g_K G).2.1 (g_K G).2.2.1 a_m (a_p 0) c_m_place c_m_known c_m_left c_m_onDuty c_m_clock ++ wPlan (g_K G).2.1 (g_K G).2.2.1 a_p c_p_bowls c_p_fishes c_p_lips c_p_hours c_p_start c_p_first c_p_kind c_p_post c_p_error) [(0, .ref (a_m 0)), (1, .int x1), (2, .int s.1), (3, .int s.2)] 4 [] := by
  refine loopN_all (fun s => AB G 0 0 (wMoment (g_K G).2.1 (g_K G).2.2.1 a_m (a_p 0) c_m_place c_m_known c_m_left c_m_onDuty c_m_clock ++ wPlan (g_K G).2.1 (g_K G).2.2.1 a_p c_p_bowls c_p_fishes c_p_lips c_p_hours c_p_start c_p_first c_p_kind c_p_post c_p_error) [(0, .ref (a_m 0)), (1, .int x1), (2, .int s.1), (3, .int s.2)] 4 []) (fun k4 hk4 s hf => ?_) n s hf
  obtain ⟨x2, x3⟩ := s
  change f_X1_fishIn_4 c_m_place c_p_fishes x1 k4 x2 x3 = some r at hf
  unfold f_X1_fishIn_4 at hf
  show AB G 0 0 (wMoment (g_K G).2.1 (g_K G).2.2.1 a_m (a_p 0) c_m_place c_m_known c_m_left c_m_onDuty c_m_clock ++ wPlan (g_K G).2.1 (g_K G).2.2.1 a_p c_p_bowls c_p_fishes c_p_lips c_p_hours c_p_start c_p_first c_p_kind c_p_post c_p_error) [(0, .ref (a_m 0)), (1, .int x1), (2, .int x2), (3, .int x3)] 4 []
  refine ab_iload_n h 3 rfl rfl dX1_fishIn_4 ?_
  refine ab_aload_n h 0 rfl rfl dX1_fishIn_5 ?_
  refine ab_get h in_X1 0 rfl rfl 0 (by decide) fl_X1_21 rfl dX1_fishIn_6 ?_
  refine ab_get h in_X3 4 rfl rfl 1 (by decide) fl_X1_25 rfl dX1_fishIn_9 ?_
  refine ab_icmp_ge (tgt := 37) h dX1_fishIn_12 (by decide) (fun hf => ?_) (fun hf => ?_) hf
  · refine ab_iload_n h 2 rfl rfl dX1_fishIn_37 ?_
    obtain rfl := Option.some.inj hf
    exact ab_iret h he [] rfl rfl rfl rfl rfl dX1_fishIn_38
  · refine ab_aload_n h 0 rfl rfl dX1_fishIn_15 ?_
    refine ab_get h in_X1 0 rfl rfl 1 (by decide) fl_X1_9 rfl dX1_fishIn_16 ?_
    refine ab_iload_n h 3 rfl rfl dX1_fishIn_19 ?_
    refine ab_iald h 1 rfl dX1_fishIn_20 (fun v2 hf => ?_) hf
    refine ab_iload_n h 1 rfl rfl dX1_fishIn_21 ?_
    refine ab_icmp_ne (tgt := 31) h dX1_fishIn_22 (by decide) (fun hf => ?_) (fun hf => ?_) hf
    · exact t_X1_fishIn_31 h he k4 hk4 hf
    · refine ab_iload_n h 2 rfl rfl dX1_fishIn_25 ?_
      refine ab_iconst (v := 1) h dX1_fishIn_26 (by decide) ?_
      refine ab_iload_n h 3 rfl rfl dX1_fishIn_27 ?_
      refine ab_ishl h dX1_fishIn_28 ?_
      refine ab_ior h dX1_fishIn_29 ?_
      refine ab_istore_n h [1, 2, 0, 3] [(0, .ref (a_m 0)), (1, .int x1), (2, .int (x2 ||| (jshl 1 x3))), (3, .int x3)] rfl (by decide) rfl dX1_fishIn_30 ?_
      exact t_X1_fishIn_31 h he k4 hk4 hf
def f_X1_fishIn (c_m_place : Nat → Int32) (c_p_fishes : Int32) (x1 : Int32) : Option Int32 := loopN (g_X1_fishIn_4 c_m_place c_p_fishes x1) 100 (0, 0)
set_option maxRecDepth 100000 in
set_option maxHeartbeats 4000000 in
theorem t_X1_fishIn_0 {G : Cx} (h : Am G yX1_fishIn cX1_fishIn 4 (some .int) rX1_fishIn) {a_m a_p : Nat → Nat} {c_m_place : Nat → Int32} {c_m_known : Nat → Int32} {c_m_left : Nat → Int32} {c_m_onDuty : Int32} {c_m_clock : Int32} {c_p_bowls : Int32} {c_p_fishes : Int32} {c_p_lips : Int32} {c_p_hours : Nat → Int32} {c_p_start : Nat → Int32} {c_p_first : Nat → Int32} {c_p_kind : Nat → Int32} {c_p_post : Nat → Int32} {c_p_error : Nat → Int32} {r : Int32} (he : En G rX1_fishIn (some (.int r)) (fun _ => wMoment (g_K G).2.1 (g_K G).2.2.1 a_m (a_p 0) c_m_place c_m_known c_m_left c_m_onDuty c_m_clock ++ wPlan (g_K G).2.1 (g_K G).2.2.1 a_p c_p_bowls c_p_fishes c_p_lips c_p_hours c_p_start c_p_first c_p_kind c_p_post c_p_error)) {x1 : Int32} (hf : f_X1_fishIn c_m_place c_p_fishes x1 = some r) : AB G 0 0 (wMoment (g_K G).2.1 (g_K G).2.2.1 a_m (a_p 0) c_m_place c_m_known c_m_left c_m_onDuty c_m_clock ++ wPlan (g_K G).2.1 (g_K G).2.2.1 a_p c_p_bowls c_p_fishes c_p_lips c_p_hours c_p_start c_p_first c_p_kind c_p_post c_p_error) [(0, .ref (a_m 0)), (1, .int x1)] 0 [] := by
  unfold f_X1_fishIn at hf
  refine ab_iconst (v := 0) h dX1_fishIn_0 (by decide) ?_
  refine ab_istore_n h [1, 2, 0] [(0, .ref (a_m 0)), (1, .int x1), (2, .int 0)] rfl (by decide) rfl dX1_fishIn_1 ?_
  refine ab_iconst (v := 0) h dX1_fishIn_2 (by decide) ?_
  refine ab_istore_n h [1, 2, 3, 0] [(0, .ref (a_m 0)), (1, .int x1), (2, .int 0), (3, .int 0)] rfl (by decide) rfl dX1_fishIn_3 ?_
  exact t_X1_fishIn_4 h he 100 (0, 0) hf
theorem c_X1_fishIn (l : Launch) (K : Kx) (a_m a_p : Nat → Nat) (c_m_place : Nat → Int32) (c_m_known : Nat → Int32) (c_m_left : Nat → Int32) (c_m_onDuty : Int32) (c_m_clock : Int32) (c_p_bowls : Int32) (c_p_fishes : Int32) (c_p_lips : Int32) (c_p_hours : Nat → Int32) (c_p_start : Nat → Int32) (c_p_first : Nat → Int32) (c_p_kind : Nat → Int32) (c_p_post : Nat → Int32) (c_p_error : Nat → Int32) (x1 : Int32) (r : Int32) (hf : f_X1_fishIn c_m_place c_p_fishes x1 = some r) : Ct l yX1_fishIn cX1_fishIn 4 (some .int) rX1_fishIn K [.ref (a_m 0), .int x1] (wMoment K.2.1 K.2.2.1 a_m (a_p 0) c_m_place c_m_known c_m_left c_m_onDuty c_m_clock ++ wPlan K.2.1 K.2.2.1 a_p c_p_bowls c_p_fishes c_p_lips c_p_hours c_p_start c_p_first c_p_kind c_p_post c_p_error) (some (.int r)) (fun _ => wMoment K.2.1 K.2.2.1 a_m (a_p 0) c_m_place c_m_known c_m_left c_m_onDuty c_m_clock ++ wPlan K.2.1 K.2.2.1 a_p c_p_bowls c_p_fishes c_p_lips c_p_hours c_p_start c_p_first c_p_kind c_p_post c_p_error) := by
  refine Ct.of (by decide +kernel) (Nat.le_of_ble_eq_true rfl) ?_
  intro G hl hK h he
  subst hl
  subst hK
  exact t_X1_fishIn_0 h he hf

-- java/lang/Math.floorMod
abbrev rJ9_floorMod_7cf53 : Room := { frames := 0, cells := 0, slots := 0, locals := 0 }
def f_J9_floorMod_7cf53 (x0 : Int32) (x1 : Int32) : Option Int32 := nz x1 (if 0 ≤ (x0 ^^^ x1) then (some (jrem x0 x1)) else (if (jrem x0 x1) = 0 then (some (jrem x0 x1)) else (some ((jrem x0 x1) + x1))))
set_option maxRecDepth 100000 in
set_option maxHeartbeats 4000000 in
theorem t_J9_floorMod_7cf53_0 {G : Cx} (h : Am G yJ9_floorMod_7cf53 cJ9_floorMod_7cf53 3 (some .int) rJ9_floorMod_7cf53) {ws : va_W} {r : Int32} (he : En G rJ9_floorMod_7cf53 (some (.int r)) (fun _ => ws)) {x0 : Int32} {x1 : Int32} (hf : f_J9_floorMod_7cf53 x0 x1 = some r) : AB G 0 0 (ws) [(0, .int x0), (1, .int x1)] 0 [] := by
  unfold f_J9_floorMod_7cf53 at hf
  refine ab_iload_n h 0 rfl rfl dJ9_floorMod_7cf53_0 ?_
  refine ab_iload_n h 1 rfl rfl dJ9_floorMod_7cf53_1 ?_
  refine ab_irem h dJ9_floorMod_7cf53_2 (fun hf => ?_) hf
  refine ab_istore_n h [1, 2, 0] [(0, .int x0), (1, .int x1), (2, .int (jrem x0 x1))] rfl (by decide) rfl dJ9_floorMod_7cf53_3 ?_
  refine ab_iload_n h 0 rfl rfl dJ9_floorMod_7cf53_4 ?_
  refine ab_iload_n h 1 rfl rfl dJ9_floorMod_7cf53_5 ?_
  refine ab_ixor h dJ9_floorMod_7cf53_6 ?_
  refine ab_if_ge (tgt := 18) h dJ9_floorMod_7cf53_7 (by decide) (fun hf => ?_) (fun hf => ?_) hf
  · refine ab_iload_n h 2 rfl rfl dJ9_floorMod_7cf53_18 ?_
    obtain rfl := Option.some.inj hf
    exact ab_iret h he [] rfl rfl rfl rfl rfl dJ9_floorMod_7cf53_19
  · refine ab_iload_n h 2 rfl rfl dJ9_floorMod_7cf53_10 ?_
    refine ab_if_eq (tgt := 18) h dJ9_floorMod_7cf53_11 (by decide) (fun hf => ?_) (fun hf => ?_) hf
    · refine ab_iload_n h 2 rfl rfl dJ9_floorMod_7cf53_18 ?_
      obtain rfl := Option.some.inj hf
      exact ab_iret h he [] rfl rfl rfl rfl rfl dJ9_floorMod_7cf53_19
    · refine ab_iload_n h 2 rfl rfl dJ9_floorMod_7cf53_14 ?_
      refine ab_iload_n h 1 rfl rfl dJ9_floorMod_7cf53_15 ?_
      refine ab_iadd h dJ9_floorMod_7cf53_16 ?_
      obtain rfl := Option.some.inj hf
      exact ab_iret h he [] rfl rfl rfl rfl rfl dJ9_floorMod_7cf53_17
theorem c_J9_floorMod_7cf53 (l : Launch) (K : Kx) (ws : va_W) (x0 : Int32) (x1 : Int32) (r : Int32) (hf : f_J9_floorMod_7cf53 x0 x1 = some r) : Ct l yJ9_floorMod_7cf53 cJ9_floorMod_7cf53 3 (some .int) rJ9_floorMod_7cf53 K [.int x0, .int x1] (ws) (some (.int r)) (fun _ => ws) := by
  refine Ct.of (by decide +kernel) (Nat.le_of_ble_eq_true rfl) ?_
  intro G hl hK h he
  subst hl
  subst hK
  exact t_J9_floorMod_7cf53_0 h he hf

-- BowlState$Moment.roundOf
abbrev rX1_roundOf : Room := { frames := 1, cells := 0, slots := 0, locals := 22 }
def f_X1_roundOf (c_m_clock : Int32) (c_p_bowls : Int32) (c_p_post : Nat → Int32) (x1 : Int32) : Option Int32 := if c_p_bowls ≤ 0 then (some ((-9))) else (rd 4 c_p_post x1 (fun v3 => (f_J9_floorMod_7cf53 (v3 + c_m_clock) c_p_bowls).bind (fun w4 => some w4)))
set_option maxRecDepth 100000 in
set_option maxHeartbeats 4000000 in
theorem t_X1_roundOf_0 {G : Cx} (h : Am G yX1_roundOf cX1_roundOf 2 (some .int) rX1_roundOf) {a_m a_p : Nat → Nat} {c_m_place : Nat → Int32} {c_m_known : Nat → Int32} {c_m_left : Nat → Int32} {c_m_onDuty : Int32} {c_m_clock : Int32} {c_p_bowls : Int32} {c_p_fishes : Int32} {c_p_lips : Int32} {c_p_hours : Nat → Int32} {c_p_start : Nat → Int32} {c_p_first : Nat → Int32} {c_p_kind : Nat → Int32} {c_p_post : Nat → Int32} {c_p_error : Nat → Int32} {r : Int32} (he : En G rX1_roundOf (some (.int r)) (fun _ => wMoment (g_K G).2.1 (g_K G).2.2.1 a_m (a_p 0) c_m_place c_m_known c_m_left c_m_onDuty c_m_clock ++ wPlan (g_K G).2.1 (g_K G).2.2.1 a_p c_p_bowls c_p_fishes c_p_lips c_p_hours c_p_start c_p_first c_p_kind c_p_post c_p_error)) {x1 : Int32} (hf : f_X1_roundOf c_m_clock c_p_bowls c_p_post x1 = some r) : AB G 0 0 (wMoment (g_K G).2.1 (g_K G).2.2.1 a_m (a_p 0) c_m_place c_m_known c_m_left c_m_onDuty c_m_clock ++ wPlan (g_K G).2.1 (g_K G).2.2.1 a_p c_p_bowls c_p_fishes c_p_lips c_p_hours c_p_start c_p_first c_p_kind c_p_post c_p_error) [(0, .ref (a_m 0)), (1, .int x1)] 0 [] := by
  unfold f_X1_roundOf at hf
  refine ab_aload_n h 0 rfl rfl dX1_roundOf_0 ?_
  refine ab_get h in_X1 0 rfl rfl 0 (by decide) fl_X1_21 rfl dX1_roundOf_1 ?_
  refine ab_get h in_X3 4 rfl rfl 0 (by decide) fl_X1_66 rfl dX1_roundOf_4 ?_
  refine ab_if_le (tgt := 37) h dX1_roundOf_7 (by decide) (fun hf => ?_) (fun hf => ?_) hf
  · refine ab_bipush (v := (-9)) h dX1_roundOf_37 (by decide) ?_
    obtain rfl := Option.some.inj hf
    exact ab_iret h he [] rfl rfl rfl rfl rfl dX1_roundOf_39
  · refine ab_aload_n h 0 rfl rfl dX1_roundOf_10 ?_
    refine ab_get h in_X1 0 rfl rfl 0 (by decide) fl_X1_21 rfl dX1_roundOf_11 ?_
    refine ab_get h in_X3 4 rfl rfl 7 (by decide) fl_X1_69 rfl dX1_roundOf_14 ?_
    refine ab_iload_n h 1 rfl rfl dX1_roundOf_17 ?_
    refine ab_iald h 9 rfl dX1_roundOf_18 (fun v3 hf => ?_) hf
    refine ab_aload_n h 0 rfl rfl dX1_roundOf_19 ?_
    refine ab_get h in_X1 0 rfl rfl 5 (by decide) fl_X1_47 rfl dX1_roundOf_20 ?_
    refine ab_iadd h dX1_roundOf_23 ?_
    refine ab_aload_n h 0 rfl rfl dX1_roundOf_24 ?_
    refine ab_get h in_X1 0 rfl rfl 0 (by decide) fl_X1_21 rfl dX1_roundOf_25 ?_
    refine ab_get h in_X3 4 rfl rfl 0 (by decide) fl_X1_66 rfl dX1_roundOf_28 ?_
    obtain ⟨w4, hw4, hf⟩ := bind_inv hf
    refine ab_call0 h (run_S (As := [.int (v3 + c_m_clock), .int c_p_bowls]) (st := []) h (c_J9_floorMod_7cf53 (g_l G) (g_K G) (wMoment (g_K G).2.1 (g_K G).2.2.1 a_m (a_p 0) c_m_place c_m_known c_m_left c_m_onDuty c_m_clock ++ wPlan (g_K G).2.1 (g_K G).2.2.1 a_p c_p_bowls c_p_fishes c_p_lips c_p_hours c_p_start c_p_first c_p_kind c_p_post c_p_error) (v3 + c_m_clock) c_p_bowls w4 hw4) ok_J9_floorMod_7cf53 ml_X1_72 ⟨⟨Nat.le_of_ble_eq_true rfl, Nat.le_of_ble_eq_true rfl⟩, ⟨Nat.le_of_ble_eq_true rfl, Nat.le_of_ble_eq_true rfl⟩, Nat.le_of_ble_eq_true rfl⟩ dX1_roundOf_31 rfl) (wMoment (g_K G).2.1 (g_K G).2.2.1 a_m (a_p 0) c_m_place c_m_known c_m_left c_m_onDuty c_m_clock ++ wPlan (g_K G).2.1 (g_K G).2.2.1 a_p c_p_bowls c_p_fishes c_p_lips c_p_hours c_p_start c_p_first c_p_kind c_p_post c_p_error) (fun _ => rfl) [.int w4] rfl rfl rfl ?_
    refine ab_goto (tgt := 39) h dX1_roundOf_34 (by decide) ?_
    obtain rfl := Option.some.inj hf
    exact ab_iret h he [] rfl rfl rfl rfl rfl dX1_roundOf_39
theorem c_X1_roundOf (l : Launch) (K : Kx) (a_m a_p : Nat → Nat) (c_m_place : Nat → Int32) (c_m_known : Nat → Int32) (c_m_left : Nat → Int32) (c_m_onDuty : Int32) (c_m_clock : Int32) (c_p_bowls : Int32) (c_p_fishes : Int32) (c_p_lips : Int32) (c_p_hours : Nat → Int32) (c_p_start : Nat → Int32) (c_p_first : Nat → Int32) (c_p_kind : Nat → Int32) (c_p_post : Nat → Int32) (c_p_error : Nat → Int32) (x1 : Int32) (r : Int32) (hf : f_X1_roundOf c_m_clock c_p_bowls c_p_post x1 = some r) : Ct l yX1_roundOf cX1_roundOf 2 (some .int) rX1_roundOf K [.ref (a_m 0), .int x1] (wMoment K.2.1 K.2.2.1 a_m (a_p 0) c_m_place c_m_known c_m_left c_m_onDuty c_m_clock ++ wPlan K.2.1 K.2.2.1 a_p c_p_bowls c_p_fishes c_p_lips c_p_hours c_p_start c_p_first c_p_kind c_p_post c_p_error) (some (.int r)) (fun _ => wMoment K.2.1 K.2.2.1 a_m (a_p 0) c_m_place c_m_known c_m_left c_m_onDuty c_m_clock ++ wPlan K.2.1 K.2.2.1 a_p c_p_bowls c_p_fishes c_p_lips c_p_hours c_p_start c_p_first c_p_kind c_p_post c_p_error) := by
  refine Ct.of (by decide +kernel) (Nat.le_of_ble_eq_true rfl) ?_
  intro G hl hK h he
  subst hl
  subst hK
  exact t_X1_roundOf_0 h he hf

-- BowlState$Moment.lipsNextAt
abbrev rX1_lipsNextAt : Room := { frames := 2, cells := 0, slots := 0, locals := 43 }
def f_X1_lipsNextAt_30 (k4 : (Int32 × Int32) → Option Int32) (x2 : Int32) (x3 : Int32) : Option Int32 := k4 (x2, x3 + 1)
set_option maxRecDepth 100000 in
set_option maxHeartbeats 4000000 in
theorem t_X1_lipsNextAt_30 {G : Cx} (h : Am G yX1_lipsNextAt cX1_lipsNextAt 4 (some .int) rX1_lipsNextAt) {a_m a_p : Nat → Nat} {c_m_place : Nat → Int32} {c_m_known : Nat → Int32} {c_m_left : Nat → Int32} {c_m_onDuty : Int32} {c_m_clock : Int32} {c_p_bowls : Int32} {c_p_fishes : Int32} {c_p_lips : Int32} {c_p_hours : Nat → Int32} {c_p_start : Nat → Int32} {c_p_first : Nat → Int32} {c_p_kind : Nat → Int32} {c_p_post : Nat → Int32} {c_p_error : Nat → Int32} {r : Int32} (he : En G rX1_lipsNextAt (some (.int r)) (fun _ => wMoment (g_K G).2.1 (g_K G).2.2.1 a_m (a_p 0) c_m_place c_m_known c_m_left c_m_onDuty c_m_clock ++ wPlan (g_K G).2.1 (g_K G).2.2.1 a_p c_p_bowls c_p_fishes c_p_lips c_p_hours c_p_start c_p_first c_p_kind c_p_post c_p_error)) {x1 : Int32} {x2 : Int32} {x3 : Int32} (k4 : (Int32 × Int32) → Option Int32) (hk4 : ∀ s : Int32 × Int32, k4 s = some r → AB G 0 0 (wMoment (g_K G).2.1 (g_K G).2.2.1 a_m (a_p 0) c_m_place c_m_known c_m_left c_m_onDuty c_m_clock ++ wPlan (g_K G).2.1 (g_K G).2.2.1 a_p c_p_bowls c_p_fishes c_p_lips c_p_hours c_p_start c_p_first c_p_kind c_p_post c_p_error) [(0, .ref (a_m 0)), (1, .int x1), (2, .int s.1), (3, .int s.2)] 4 []) (hf : f_X1_lipsNextAt_30 k4 x2 x3 = some r) : AB G 0 0 (wMoment (g_K G).2.1 (g_K G).2.2.1 a_m (a_p 0) c_m_place c_m_known c_m_left c_m_onDuty c_m_clock ++ wPlan (g_K G).2.1 (g_K G).2.2.1 a_p c_p_bowls c_p_fishes c_p_lips c_p_hours c_p_start c_p_first c_p_kind c_p_post c_p_error) [(0, .ref (a_m 0)), (1, .int x1), (2, .int x2), (3, .int x3)] 30 [] := by
  unfold f_X1_lipsNextAt_30 at hf
  refine ab_iinc (v := x3 + 1) h 3 [1, 2, 3, 0] [(0, .ref (a_m 0)), (1, .int x1), (2, .int x2), (3, .int (x3 + 1))] rfl rfl (by decide) rfl dX1_lipsNextAt_30 ?_
  refine ab_goto (tgt := 4) h dX1_lipsNextAt_33 (by decide) ?_
  exact hk4 (x2, x3 + 1) hf
def f_X1_lipsNextAt_4 (c_m_clock : Int32) (c_p_bowls : Int32) (c_p_lips : Int32) (c_p_post : Nat → Int32) (x1 : Int32) (k4 : (Int32 × Int32) → Option Int32) (x2 : Int32) (x3 : Int32) : Option Int32 := if c_p_lips ≤ x3 then (some x2) else ((f_X1_roundOf c_m_clock c_p_bowls c_p_post x3).bind (fun w2 => if w2 = x1 then (f_X1_lipsNextAt_30 k4 (x2 ||| (jshl 1 x3)) x3) else (f_X1_lipsNextAt_30 k4 x2 x3)))
def g_X1_lipsNextAt_4 (c_m_clock : Int32) (c_p_bowls : Int32) (c_p_lips : Int32) (c_p_post : Nat → Int32) (x1 : Int32) (k4 : (Int32 × Int32) → Option Int32) (s : Int32 × Int32) : Option Int32 := f_X1_lipsNextAt_4 c_m_clock c_p_bowls c_p_lips c_p_post x1 k4 s.1 s.2
set_option maxRecDepth 100000 in
set_option maxHeartbeats 4000000 in
theorem t_X1_lipsNextAt_4 {G : Cx} (h : Am G yX1_lipsNextAt cX1_lipsNextAt 4 (some .int) rX1_lipsNextAt) {a_m a_p : Nat → Nat} {c_m_place : Nat → Int32} {c_m_known : Nat → Int32} {c_m_left : Nat → Int32} {c_m_onDuty : Int32} {c_m_clock : Int32} {c_p_bowls : Int32} {c_p_fishes : Int32} {c_p_lips : Int32} {c_p_hours : Nat → Int32} {c_p_start : Nat → Int32} {c_p_first : Nat → Int32} {c_p_kind : Nat → Int32} {c_p_post : Nat → Int32} {c_p_error : Nat → Int32} {r : Int32} (he : En G rX1_lipsNextAt (some (.int r)) (fun _ => wMoment (g_K G).2.1 (g_K G).2.2.1 a_m (a_p 0) c_m_place c_m_known c_m_left c_m_onDuty c_m_clock ++ wPlan (g_K G).2.1 (g_K G).2.2.1 a_p c_p_bowls c_p_fishes c_p_lips c_p_hours c_p_start c_p_first c_p_kind c_p_post c_p_error)) {x1 : Int32} (n : Nat) (s : Int32 × Int32) (hf : loopN (g_X1_lipsNextAt_4 c_m_clock c_p_bowls c_p_lips c_p_post x1) n s = some r) : AB G 0 0 (wMoment (g_K G).2.1 (g_K G).2.2.1 a_m (a_p 0) c_m_place c_m_known c_m_left c_m_onDuty c_m_clock ++ wPlan (g_K G).2.1 (g_K G).2.2.1 a_p c_p_bowls c_p_fishes c_p_lips c_p_hours c_p_start c_p_first c_p_kind c_p_post c_p_error) [(0, .ref (a_m 0)), (1, .int x1), (2, .int s.1), (3, .int s.2)] 4 [] := by
  refine loopN_all (fun s => AB G 0 0 (wMoment (g_K G).2.1 (g_K G).2.2.1 a_m (a_p 0) c_m_place c_m_known c_m_left c_m_onDuty c_m_clock ++ wPlan (g_K G).2.1 (g_K G).2.2.1 a_p c_p_bowls c_p_fishes c_p_lips c_p_hours c_p_start c_p_first c_p_kind c_p_post c_p_error) [(0, .ref (a_m 0)), (1, .int x1), (2, .int s.1), (3, .int s.2)] 4 []) (fun k4 hk4 s hf => ?_) n s hf
  obtain ⟨x2, x3⟩ := s
  change f_X1_lipsNextAt_4 c_m_clock c_p_bowls c_p_lips c_p_post x1 k4 x2 x3 = some r at hf
  unfold f_X1_lipsNextAt_4 at hf
  show AB G 0 0 (wMoment (g_K G).2.1 (g_K G).2.2.1 a_m (a_p 0) c_m_place c_m_known c_m_left c_m_onDuty c_m_clock ++ wPlan (g_K G).2.1 (g_K G).2.2.1 a_p c_p_bowls c_p_fishes c_p_lips c_p_hours c_p_start c_p_first c_p_kind c_p_post c_p_error) [(0, .ref (a_m 0)), (1, .int x1), (2, .int x2), (3, .int x3)] 4 []
  refine ab_iload_n h 3 rfl rfl dX1_lipsNextAt_4 ?_
  refine ab_aload_n h 0 rfl rfl dX1_lipsNextAt_5 ?_
  refine ab_get h in_X1 0 rfl rfl 0 (by decide) fl_X1_21 rfl dX1_lipsNextAt_6 ?_
  refine ab_get h in_X3 4 rfl rfl 2 (by decide) fl_X1_41 rfl dX1_lipsNextAt_9 ?_
  refine ab_icmp_ge (tgt := 36) h dX1_lipsNextAt_12 (by decide) (fun hf => ?_) (fun hf => ?_) hf
  · refine ab_iload_n h 2 rfl rfl dX1_lipsNextAt_36 ?_
    obtain rfl := Option.some.inj hf
    exact ab_iret h he [] rfl rfl rfl rfl rfl dX1_lipsNextAt_37
  · refine ab_aload_n h 0 rfl rfl dX1_lipsNextAt_15 ?_
    refine ab_iload_n h 3 rfl rfl dX1_lipsNextAt_16 ?_
    obtain ⟨w2, hw2, hf⟩ := bind_inv hf
    refine ab_call0 h (run_V (As := [.int x3]) (st := []) h (c_X1_roundOf (g_l G) (g_K G) a_m a_p c_m_place c_m_known c_m_left c_m_onDuty c_m_clock c_p_bowls c_p_fishes c_p_lips c_p_hours c_p_start c_p_first c_p_kind c_p_post c_p_error x3 w2 hw2) ok_X1_roundOf 0 rfl rfl ml_X1_62 ⟨⟨Nat.le_of_ble_eq_true rfl, Nat.le_of_ble_eq_true rfl⟩, ⟨Nat.le_of_ble_eq_true rfl, Nat.le_of_ble_eq_true rfl⟩, Nat.le_of_ble_eq_true rfl⟩ dX1_lipsNextAt_17 rfl) (wMoment (g_K G).2.1 (g_K G).2.2.1 a_m (a_p 0) c_m_place c_m_known c_m_left c_m_onDuty c_m_clock ++ wPlan (g_K G).2.1 (g_K G).2.2.1 a_p c_p_bowls c_p_fishes c_p_lips c_p_hours c_p_start c_p_first c_p_kind c_p_post c_p_error) (fun _ => rfl) [.int w2] rfl rfl rfl ?_
    refine ab_iload_n h 1 rfl rfl dX1_lipsNextAt_20 ?_
    refine ab_icmp_ne (tgt := 30) h dX1_lipsNextAt_21 (by decide) (fun hf => ?_) (fun hf => ?_) hf
    · exact t_X1_lipsNextAt_30 h he k4 hk4 hf
    · refine ab_iload_n h 2 rfl rfl dX1_lipsNextAt_24 ?_
      refine ab_iconst (v := 1) h dX1_lipsNextAt_25 (by decide) ?_
      refine ab_iload_n h 3 rfl rfl dX1_lipsNextAt_26 ?_
      refine ab_ishl h dX1_lipsNextAt_27 ?_
      refine ab_ior h dX1_lipsNextAt_28 ?_
      refine ab_istore_n h [1, 2, 0, 3] [(0, .ref (a_m 0)), (1, .int x1), (2, .int (x2 ||| (jshl 1 x3))), (3, .int x3)] rfl (by decide) rfl dX1_lipsNextAt_29 ?_
      exact t_X1_lipsNextAt_30 h he k4 hk4 hf
def f_X1_lipsNextAt (c_m_clock : Int32) (c_p_bowls : Int32) (c_p_lips : Int32) (c_p_post : Nat → Int32) (x1 : Int32) : Option Int32 := loopN (g_X1_lipsNextAt_4 c_m_clock c_p_bowls c_p_lips c_p_post x1) 100 (0, 0)
set_option maxRecDepth 100000 in
set_option maxHeartbeats 4000000 in
theorem t_X1_lipsNextAt_0 {G : Cx} (h : Am G yX1_lipsNextAt cX1_lipsNextAt 4 (some .int) rX1_lipsNextAt) {a_m a_p : Nat → Nat} {c_m_place : Nat → Int32} {c_m_known : Nat → Int32} {c_m_left : Nat → Int32} {c_m_onDuty : Int32} {c_m_clock : Int32} {c_p_bowls : Int32} {c_p_fishes : Int32} {c_p_lips : Int32} {c_p_hours : Nat → Int32} {c_p_start : Nat → Int32} {c_p_first : Nat → Int32} {c_p_kind : Nat → Int32} {c_p_post : Nat → Int32} {c_p_error : Nat → Int32} {r : Int32} (he : En G rX1_lipsNextAt (some (.int r)) (fun _ => wMoment (g_K G).2.1 (g_K G).2.2.1 a_m (a_p 0) c_m_place c_m_known c_m_left c_m_onDuty c_m_clock ++ wPlan (g_K G).2.1 (g_K G).2.2.1 a_p c_p_bowls c_p_fishes c_p_lips c_p_hours c_p_start c_p_first c_p_kind c_p_post c_p_error)) {x1 : Int32} (hf : f_X1_lipsNextAt c_m_clock c_p_bowls c_p_lips c_p_post x1 = some r) : AB G 0 0 (wMoment (g_K G).2.1 (g_K G).2.2.1 a_m (a_p 0) c_m_place c_m_known c_m_left c_m_onDuty c_m_clock ++ wPlan (g_K G).2.1 (g_K G).2.2.1 a_p c_p_bowls c_p_fishes c_p_lips c_p_hours c_p_start c_p_first c_p_kind c_p_post c_p_error) [(0, .ref (a_m 0)), (1, .int x1)] 0 [] := by
  unfold f_X1_lipsNextAt at hf
  refine ab_iconst (v := 0) h dX1_lipsNextAt_0 (by decide) ?_
  refine ab_istore_n h [1, 2, 0] [(0, .ref (a_m 0)), (1, .int x1), (2, .int 0)] rfl (by decide) rfl dX1_lipsNextAt_1 ?_
  refine ab_iconst (v := 0) h dX1_lipsNextAt_2 (by decide) ?_
  refine ab_istore_n h [1, 2, 3, 0] [(0, .ref (a_m 0)), (1, .int x1), (2, .int 0), (3, .int 0)] rfl (by decide) rfl dX1_lipsNextAt_3 ?_
  exact t_X1_lipsNextAt_4 h he 100 (0, 0) hf
theorem c_X1_lipsNextAt (l : Launch) (K : Kx) (a_m a_p : Nat → Nat) (c_m_place : Nat → Int32) (c_m_known : Nat → Int32) (c_m_left : Nat → Int32) (c_m_onDuty : Int32) (c_m_clock : Int32) (c_p_bowls : Int32) (c_p_fishes : Int32) (c_p_lips : Int32) (c_p_hours : Nat → Int32) (c_p_start : Nat → Int32) (c_p_first : Nat → Int32) (c_p_kind : Nat → Int32) (c_p_post : Nat → Int32) (c_p_error : Nat → Int32) (x1 : Int32) (r : Int32) (hf : f_X1_lipsNextAt c_m_clock c_p_bowls c_p_lips c_p_post x1 = some r) : Ct l yX1_lipsNextAt cX1_lipsNextAt 4 (some .int) rX1_lipsNextAt K [.ref (a_m 0), .int x1] (wMoment K.2.1 K.2.2.1 a_m (a_p 0) c_m_place c_m_known c_m_left c_m_onDuty c_m_clock ++ wPlan K.2.1 K.2.2.1 a_p c_p_bowls c_p_fishes c_p_lips c_p_hours c_p_start c_p_first c_p_kind c_p_post c_p_error) (some (.int r)) (fun _ => wMoment K.2.1 K.2.2.1 a_m (a_p 0) c_m_place c_m_known c_m_left c_m_onDuty c_m_clock ++ wPlan K.2.1 K.2.2.1 a_p c_p_bowls c_p_fishes c_p_lips c_p_hours c_p_start c_p_first c_p_kind c_p_post c_p_error) := by
  refine Ct.of (by decide +kernel) (Nat.le_of_ble_eq_true rfl) ?_
  intro G hl hK h he
  subst hl
  subst hK
  exact t_X1_lipsNextAt_0 h he hf

-- java/lang/Integer.bitCount
abbrev rJ6_bitCount_0f7a4 : Room := { frames := 0, cells := 0, slots := 0, locals := 0 }
def f_J6_bitCount_0f7a4 (x0 : Int32) : Option Int32 := some ((((((((x0 - ((jushr x0 1) &&& ((1431655765 : Int32)))) &&& ((858993459 : Int32))) + ((jushr (x0 - ((jushr x0 1) &&& ((1431655765 : Int32)))) 2) &&& ((858993459 : Int32)))) + (jushr (((x0 - ((jushr x0 1) &&& ((1431655765 : Int32)))) &&& ((858993459 : Int32))) + ((jushr (x0 - ((jushr x0 1) &&& ((1431655765 : Int32)))) 2) &&& ((858993459 : Int32)))) 4)) &&& ((252645135 : Int32))) + (jushr (((((x0 - ((jushr x0 1) &&& ((1431655765 : Int32)))) &&& ((858993459 : Int32))) + ((jushr (x0 - ((jushr x0 1) &&& ((1431655765 : Int32)))) 2) &&& ((858993459 : Int32)))) + (jushr (((x0 - ((jushr x0 1) &&& ((1431655765 : Int32)))) &&& ((858993459 : Int32))) + ((jushr (x0 - ((jushr x0 1) &&& ((1431655765 : Int32)))) 2) &&& ((858993459 : Int32)))) 4)) &&& ((252645135 : Int32))) 8)) + (jushr ((((((x0 - ((jushr x0 1) &&& ((1431655765 : Int32)))) &&& ((858993459 : Int32))) + ((jushr (x0 - ((jushr x0 1) &&& ((1431655765 : Int32)))) 2) &&& ((858993459 : Int32)))) + (jushr (((x0 - ((jushr x0 1) &&& ((1431655765 : Int32)))) &&& ((858993459 : Int32))) + ((jushr (x0 - ((jushr x0 1) &&& ((1431655765 : Int32)))) 2) &&& ((858993459 : Int32)))) 4)) &&& ((252645135 : Int32))) + (jushr (((((x0 - ((jushr x0 1) &&& ((1431655765 : Int32)))) &&& ((858993459 : Int32))) + ((jushr (x0 - ((jushr x0 1) &&& ((1431655765 : Int32)))) 2) &&& ((858993459 : Int32)))) + (jushr (((x0 - ((jushr x0 1) &&& ((1431655765 : Int32)))) &&& ((858993459 : Int32))) + ((jushr (x0 - ((jushr x0 1) &&& ((1431655765 : Int32)))) 2) &&& ((858993459 : Int32)))) 4)) &&& ((252645135 : Int32))) 8)) 16)) &&& 63)
set_option maxRecDepth 100000 in
set_option maxHeartbeats 4000000 in
theorem t_J6_bitCount_0f7a4_0 {G : Cx} (h : Am G yJ6_bitCount_0f7a4 cJ6_bitCount_0f7a4 1 (some .int) rJ6_bitCount_0f7a4) {ws : va_W} {r : Int32} (he : En G rJ6_bitCount_0f7a4 (some (.int r)) (fun _ => ws)) {x0 : Int32} (hf : f_J6_bitCount_0f7a4 x0 = some r) : AB G 0 0 (ws) [(0, .int x0)] 0 [] := by
  unfold f_J6_bitCount_0f7a4 at hf
  refine ab_iload_n h 0 rfl rfl dJ6_bitCount_0f7a4_0 ?_
  refine ab_iload_n h 0 rfl rfl dJ6_bitCount_0f7a4_1 ?_
  refine ab_iconst (v := 1) h dJ6_bitCount_0f7a4_2 (by decide) ?_
  refine ab_iushr h dJ6_bitCount_0f7a4_3 ?_
  refine ab_ldcw (v := 1431655765) h kn_J6_265 dJ6_bitCount_0f7a4_4 ?_
  refine ab_iand h dJ6_bitCount_0f7a4_7 ?_
  refine ab_isub h dJ6_bitCount_0f7a4_8 ?_
  refine ab_istore_n h [0] [(0, .int (x0 - ((jushr x0 1) &&& ((1431655765 : Int32)))))] rfl (by decide) rfl dJ6_bitCount_0f7a4_9 ?_
  refine ab_iload_n h 0 rfl rfl dJ6_bitCount_0f7a4_10 ?_
  refine ab_ldcw (v := 858993459) h kn_J6_266 dJ6_bitCount_0f7a4_11 ?_
  refine ab_iand h dJ6_bitCount_0f7a4_14 ?_
  refine ab_iload_n h 0 rfl rfl dJ6_bitCount_0f7a4_15 ?_
  refine ab_iconst (v := 2) h dJ6_bitCount_0f7a4_16 (by decide) ?_
  refine ab_iushr h dJ6_bitCount_0f7a4_17 ?_
  refine ab_ldcw (v := 858993459) h kn_J6_266 dJ6_bitCount_0f7a4_18 ?_
  refine ab_iand h dJ6_bitCount_0f7a4_21 ?_
  refine ab_iadd h dJ6_bitCount_0f7a4_22 ?_
  refine ab_istore_n h [0] [(0, .int (((x0 - ((jushr x0 1) &&& ((1431655765 : Int32)))) &&& ((858993459 : Int32))) + ((jushr (x0 - ((jushr x0 1) &&& ((1431655765 : Int32)))) 2) &&& ((858993459 : Int32)))))] rfl (by decide) rfl dJ6_bitCount_0f7a4_23 ?_
  refine ab_iload_n h 0 rfl rfl dJ6_bitCount_0f7a4_24 ?_
  refine ab_iload_n h 0 rfl rfl dJ6_bitCount_0f7a4_25 ?_
  refine ab_iconst (v := 4) h dJ6_bitCount_0f7a4_26 (by decide) ?_
  refine ab_iushr h dJ6_bitCount_0f7a4_27 ?_
  refine ab_iadd h dJ6_bitCount_0f7a4_28 ?_
  refine ab_ldcw (v := 252645135) h kn_J6_267 dJ6_bitCount_0f7a4_29 ?_
  refine ab_iand h dJ6_bitCount_0f7a4_32 ?_
  refine ab_istore_n h [0] [(0, .int (((((x0 - ((jushr x0 1) &&& ((1431655765 : Int32)))) &&& ((858993459 : Int32))) + ((jushr (x0 - ((jushr x0 1) &&& ((1431655765 : Int32)))) 2) &&& ((858993459 : Int32)))) + (jushr (((x0 - ((jushr x0 1) &&& ((1431655765 : Int32)))) &&& ((858993459 : Int32))) + ((jushr (x0 - ((jushr x0 1) &&& ((1431655765 : Int32)))) 2) &&& ((858993459 : Int32)))) 4)) &&& ((252645135 : Int32))))] rfl (by decide) rfl dJ6_bitCount_0f7a4_33 ?_
  refine ab_iload_n h 0 rfl rfl dJ6_bitCount_0f7a4_34 ?_
  refine ab_iload_n h 0 rfl rfl dJ6_bitCount_0f7a4_35 ?_
  refine ab_bipush (v := 8) h dJ6_bitCount_0f7a4_36 (by decide) ?_
  refine ab_iushr h dJ6_bitCount_0f7a4_38 ?_
  refine ab_iadd h dJ6_bitCount_0f7a4_39 ?_
  refine ab_istore_n h [0] [(0, .int ((((((x0 - ((jushr x0 1) &&& ((1431655765 : Int32)))) &&& ((858993459 : Int32))) + ((jushr (x0 - ((jushr x0 1) &&& ((1431655765 : Int32)))) 2) &&& ((858993459 : Int32)))) + (jushr (((x0 - ((jushr x0 1) &&& ((1431655765 : Int32)))) &&& ((858993459 : Int32))) + ((jushr (x0 - ((jushr x0 1) &&& ((1431655765 : Int32)))) 2) &&& ((858993459 : Int32)))) 4)) &&& ((252645135 : Int32))) + (jushr (((((x0 - ((jushr x0 1) &&& ((1431655765 : Int32)))) &&& ((858993459 : Int32))) + ((jushr (x0 - ((jushr x0 1) &&& ((1431655765 : Int32)))) 2) &&& ((858993459 : Int32)))) + (jushr (((x0 - ((jushr x0 1) &&& ((1431655765 : Int32)))) &&& ((858993459 : Int32))) + ((jushr (x0 - ((jushr x0 1) &&& ((1431655765 : Int32)))) 2) &&& ((858993459 : Int32)))) 4)) &&& ((252645135 : Int32))) 8)))] rfl (by decide) rfl dJ6_bitCount_0f7a4_40 ?_
  refine ab_iload_n h 0 rfl rfl dJ6_bitCount_0f7a4_41 ?_
  refine ab_iload_n h 0 rfl rfl dJ6_bitCount_0f7a4_42 ?_
  refine ab_bipush (v := 16) h dJ6_bitCount_0f7a4_43 (by decide) ?_
  refine ab_iushr h dJ6_bitCount_0f7a4_45 ?_
  refine ab_iadd h dJ6_bitCount_0f7a4_46 ?_
  refine ab_istore_n h [0] [(0, .int (((((((x0 - ((jushr x0 1) &&& ((1431655765 : Int32)))) &&& ((858993459 : Int32))) + ((jushr (x0 - ((jushr x0 1) &&& ((1431655765 : Int32)))) 2) &&& ((858993459 : Int32)))) + (jushr (((x0 - ((jushr x0 1) &&& ((1431655765 : Int32)))) &&& ((858993459 : Int32))) + ((jushr (x0 - ((jushr x0 1) &&& ((1431655765 : Int32)))) 2) &&& ((858993459 : Int32)))) 4)) &&& ((252645135 : Int32))) + (jushr (((((x0 - ((jushr x0 1) &&& ((1431655765 : Int32)))) &&& ((858993459 : Int32))) + ((jushr (x0 - ((jushr x0 1) &&& ((1431655765 : Int32)))) 2) &&& ((858993459 : Int32)))) + (jushr (((x0 - ((jushr x0 1) &&& ((1431655765 : Int32)))) &&& ((858993459 : Int32))) + ((jushr (x0 - ((jushr x0 1) &&& ((1431655765 : Int32)))) 2) &&& ((858993459 : Int32)))) 4)) &&& ((252645135 : Int32))) 8)) + (jushr ((((((x0 - ((jushr x0 1) &&& ((1431655765 : Int32)))) &&& ((858993459 : Int32))) + ((jushr (x0 - ((jushr x0 1) &&& ((1431655765 : Int32)))) 2) &&& ((858993459 : Int32)))) + (jushr (((x0 - ((jushr x0 1) &&& ((1431655765 : Int32)))) &&& ((858993459 : Int32))) + ((jushr (x0 - ((jushr x0 1) &&& ((1431655765 : Int32)))) 2) &&& ((858993459 : Int32)))) 4)) &&& ((252645135 : Int32))) + (jushr (((((x0 - ((jushr x0 1) &&& ((1431655765 : Int32)))) &&& ((858993459 : Int32))) + ((jushr (x0 - ((jushr x0 1) &&& ((1431655765 : Int32)))) 2) &&& ((858993459 : Int32)))) + (jushr (((x0 - ((jushr x0 1) &&& ((1431655765 : Int32)))) &&& ((858993459 : Int32))) + ((jushr (x0 - ((jushr x0 1) &&& ((1431655765 : Int32)))) 2) &&& ((858993459 : Int32)))) 4)) &&& ((252645135 : Int32))) 8)) 16)))] rfl (by decide) rfl dJ6_bitCount_0f7a4_47 ?_
  refine ab_iload_n h 0 rfl rfl dJ6_bitCount_0f7a4_48 ?_
  refine ab_bipush (v := 63) h dJ6_bitCount_0f7a4_49 (by decide) ?_
  refine ab_iand h dJ6_bitCount_0f7a4_51 ?_
  obtain rfl := Option.some.inj hf
  exact ab_iret h he [] rfl rfl rfl rfl rfl dJ6_bitCount_0f7a4_52
theorem c_J6_bitCount_0f7a4 (l : Launch) (K : Kx) (ws : va_W) (x0 : Int32) (r : Int32) (hf : f_J6_bitCount_0f7a4 x0 = some r) : Ct l yJ6_bitCount_0f7a4 cJ6_bitCount_0f7a4 1 (some .int) rJ6_bitCount_0f7a4 K [.int x0] (ws) (some (.int r)) (fun _ => ws) := by
  refine Ct.of (by decide +kernel) (Nat.le_of_ble_eq_true rfl) ?_
  intro G hl hK h he
  subst hl
  subst hK
  exact t_J6_bitCount_0f7a4_0 h he hf

-- BowlState$Moment.canMove
abbrev rX1_canMove : Room := { frames := 1, cells := 0, slots := 0, locals := 23 }
def f_X1_canMove (c_m_place : Nat → Int32) (c_p_fishes : Int32) (x1 : Int32) (x2 : Int32) : Option Int32 := rd 5 c_m_place x1 (fun v4 => if v4 = x2 then (some 0) else ((f_X1_fishIn c_m_place c_p_fishes x2).bind (fun w5 => (f_J6_bitCount_0f7a4 w5).bind (fun w6 => if 3 ≤ w6 then (some 0) else (some 1)))))
set_option maxRecDepth 100000 in
set_option maxHeartbeats 4000000 in
theorem t_X1_canMove_0 {G : Cx} (h : Am G yX1_canMove cX1_canMove 3 (some .boolean) rX1_canMove) {a_m a_p : Nat → Nat} {c_m_place : Nat → Int32} {c_m_known : Nat → Int32} {c_m_left : Nat → Int32} {c_m_onDuty : Int32} {c_m_clock : Int32} {c_p_bowls : Int32} {c_p_fishes : Int32} {c_p_lips : Int32} {c_p_hours : Nat → Int32} {c_p_start : Nat → Int32} {c_p_first : Nat → Int32} {c_p_kind : Nat → Int32} {c_p_post : Nat → Int32} {c_p_error : Nat → Int32} {r : Int32} (he : En G rX1_canMove (some (.int r)) (fun _ => wMoment (g_K G).2.1 (g_K G).2.2.1 a_m (a_p 0) c_m_place c_m_known c_m_left c_m_onDuty c_m_clock ++ wPlan (g_K G).2.1 (g_K G).2.2.1 a_p c_p_bowls c_p_fishes c_p_lips c_p_hours c_p_start c_p_first c_p_kind c_p_post c_p_error)) {x1 : Int32} {x2 : Int32} (hf : f_X1_canMove c_m_place c_p_fishes x1 x2 = some r) : AB G 0 0 (wMoment (g_K G).2.1 (g_K G).2.2.1 a_m (a_p 0) c_m_place c_m_known c_m_left c_m_onDuty c_m_clock ++ wPlan (g_K G).2.1 (g_K G).2.2.1 a_p c_p_bowls c_p_fishes c_p_lips c_p_hours c_p_start c_p_first c_p_kind c_p_post c_p_error) [(0, .ref (a_m 0)), (1, .int x1), (2, .int x2)] 0 [] := by
  unfold f_X1_canMove at hf
  refine ab_aload_n h 0 rfl rfl dX1_canMove_0 ?_
  refine ab_get h in_X1 0 rfl rfl 1 (by decide) fl_X1_9 rfl dX1_canMove_1 ?_
  refine ab_iload_n h 1 rfl rfl dX1_canMove_4 ?_
  refine ab_iald h 1 rfl dX1_canMove_5 (fun v4 hf => ?_) hf
  refine ab_iload_n h 2 rfl rfl dX1_canMove_6 ?_
  refine ab_icmp_eq (tgt := 26) h dX1_canMove_7 (by decide) (fun hf => ?_) (fun hf => ?_) hf
  · refine ab_iconst (v := 0) h dX1_canMove_26 (by decide) ?_
    obtain rfl := Option.some.inj hf
    exact ab_zret h he [] rfl (Or.inl rfl) rfl rfl rfl rfl dX1_canMove_27
  · refine ab_aload_n h 0 rfl rfl dX1_canMove_10 ?_
    refine ab_iload_n h 2 rfl rfl dX1_canMove_11 ?_
    obtain ⟨w5, hw5, hf⟩ := bind_inv hf
    refine ab_call0 h (run_V (As := [.int x2]) (st := []) h (c_X1_fishIn (g_l G) (g_K G) a_m a_p c_m_place c_m_known c_m_left c_m_onDuty c_m_clock c_p_bowls c_p_fishes c_p_lips c_p_hours c_p_start c_p_first c_p_kind c_p_post c_p_error x2 w5 hw5) ok_X1_fishIn 0 rfl rfl ml_X1_78 ⟨⟨Nat.le_of_ble_eq_true rfl, Nat.le_of_ble_eq_true rfl⟩, ⟨Nat.le_of_ble_eq_true rfl, Nat.le_of_ble_eq_true rfl⟩, Nat.le_of_ble_eq_true rfl⟩ dX1_canMove_12 rfl) (wMoment (g_K G).2.1 (g_K G).2.2.1 a_m (a_p 0) c_m_place c_m_known c_m_left c_m_onDuty c_m_clock ++ wPlan (g_K G).2.1 (g_K G).2.2.1 a_p c_p_bowls c_p_fishes c_p_lips c_p_hours c_p_start c_p_first c_p_kind c_p_post c_p_error) (fun _ => rfl) [.int w5] rfl rfl rfl ?_
    obtain ⟨w6, hw6, hf⟩ := bind_inv hf
    refine ab_call0 h (run_S (As := [.int w5]) (st := []) h (c_J6_bitCount_0f7a4 (g_l G) (g_K G) (wMoment (g_K G).2.1 (g_K G).2.2.1 a_m (a_p 0) c_m_place c_m_known c_m_left c_m_onDuty c_m_clock ++ wPlan (g_K G).2.1 (g_K G).2.2.1 a_p c_p_bowls c_p_fishes c_p_lips c_p_hours c_p_start c_p_first c_p_kind c_p_post c_p_error) w5 w6 hw6) ok_J6_bitCount_0f7a4 ml_X1_81 ⟨⟨Nat.le_of_ble_eq_true rfl, Nat.le_of_ble_eq_true rfl⟩, ⟨Nat.le_of_ble_eq_true rfl, Nat.le_of_ble_eq_true rfl⟩, Nat.le_of_ble_eq_true rfl⟩ dX1_canMove_15 rfl) (wMoment (g_K G).2.1 (g_K G).2.2.1 a_m (a_p 0) c_m_place c_m_known c_m_left c_m_onDuty c_m_clock ++ wPlan (g_K G).2.1 (g_K G).2.2.1 a_p c_p_bowls c_p_fishes c_p_lips c_p_hours c_p_start c_p_first c_p_kind c_p_post c_p_error) (fun _ => rfl) [.int w6] rfl rfl rfl ?_
    refine ab_iconst (v := 3) h dX1_canMove_18 (by decide) ?_
    refine ab_icmp_ge (tgt := 26) h dX1_canMove_19 (by decide) (fun hf => ?_) (fun hf => ?_) hf
    · refine ab_iconst (v := 0) h dX1_canMove_26 (by decide) ?_
      obtain rfl := Option.some.inj hf
      exact ab_zret h he [] rfl (Or.inl rfl) rfl rfl rfl rfl dX1_canMove_27
    · refine ab_iconst (v := 1) h dX1_canMove_22 (by decide) ?_
      refine ab_goto (tgt := 27) h dX1_canMove_23 (by decide) ?_
      obtain rfl := Option.some.inj hf
      exact ab_zret h he [] rfl (Or.inr rfl) rfl rfl rfl rfl dX1_canMove_27
theorem c_X1_canMove (l : Launch) (K : Kx) (a_m a_p : Nat → Nat) (c_m_place : Nat → Int32) (c_m_known : Nat → Int32) (c_m_left : Nat → Int32) (c_m_onDuty : Int32) (c_m_clock : Int32) (c_p_bowls : Int32) (c_p_fishes : Int32) (c_p_lips : Int32) (c_p_hours : Nat → Int32) (c_p_start : Nat → Int32) (c_p_first : Nat → Int32) (c_p_kind : Nat → Int32) (c_p_post : Nat → Int32) (c_p_error : Nat → Int32) (x1 : Int32) (x2 : Int32) (r : Int32) (hf : f_X1_canMove c_m_place c_p_fishes x1 x2 = some r) : Ct l yX1_canMove cX1_canMove 3 (some .boolean) rX1_canMove K [.ref (a_m 0), .int x1, .int x2] (wMoment K.2.1 K.2.2.1 a_m (a_p 0) c_m_place c_m_known c_m_left c_m_onDuty c_m_clock ++ wPlan K.2.1 K.2.2.1 a_p c_p_bowls c_p_fishes c_p_lips c_p_hours c_p_start c_p_first c_p_kind c_p_post c_p_error) (some (.int r)) (fun _ => wMoment K.2.1 K.2.2.1 a_m (a_p 0) c_m_place c_m_known c_m_left c_m_onDuty c_m_clock ++ wPlan K.2.1 K.2.2.1 a_p c_p_bowls c_p_fishes c_p_lips c_p_hours c_p_start c_p_first c_p_kind c_p_post c_p_error) := by
  refine Ct.of (by decide +kernel) (Nat.le_of_ble_eq_true rfl) ?_
  intro G hl hK h he
  subst hl
  subst hK
  exact t_X1_canMove_0 h he hf

-- java/lang/Math.min
abbrev rJ9_min_7cf53 : Room := { frames := 0, cells := 0, slots := 0, locals := 0 }
def f_J9_min_7cf53 (x0 : Int32) (x1 : Int32) : Option Int32 := if x1 < x0 then (some x1) else (some x0)
set_option maxRecDepth 100000 in
set_option maxHeartbeats 4000000 in
theorem t_J9_min_7cf53_0 {G : Cx} (h : Am G yJ9_min_7cf53 cJ9_min_7cf53 2 (some .int) rJ9_min_7cf53) {ws : va_W} {r : Int32} (he : En G rJ9_min_7cf53 (some (.int r)) (fun _ => ws)) {x0 : Int32} {x1 : Int32} (hf : f_J9_min_7cf53 x0 x1 = some r) : AB G 0 0 (ws) [(0, .int x0), (1, .int x1)] 0 [] := by
  unfold f_J9_min_7cf53 at hf
  refine ab_iload_n h 0 rfl rfl dJ9_min_7cf53_0 ?_
  refine ab_iload_n h 1 rfl rfl dJ9_min_7cf53_1 ?_
  refine ab_icmp_gt (tgt := 9) h dJ9_min_7cf53_2 (by decide) (fun hf => ?_) (fun hf => ?_) hf
  · refine ab_iload_n h 1 rfl rfl dJ9_min_7cf53_9 ?_
    obtain rfl := Option.some.inj hf
    exact ab_iret h he [] rfl rfl rfl rfl rfl dJ9_min_7cf53_10
  · refine ab_iload_n h 0 rfl rfl dJ9_min_7cf53_5 ?_
    refine ab_goto (tgt := 10) h dJ9_min_7cf53_6 (by decide) ?_
    obtain rfl := Option.some.inj hf
    exact ab_iret h he [] rfl rfl rfl rfl rfl dJ9_min_7cf53_10
theorem c_J9_min_7cf53 (l : Launch) (K : Kx) (ws : va_W) (x0 : Int32) (x1 : Int32) (r : Int32) (hf : f_J9_min_7cf53 x0 x1 = some r) : Ct l yJ9_min_7cf53 cJ9_min_7cf53 2 (some .int) rJ9_min_7cf53 K [.int x0, .int x1] (ws) (some (.int r)) (fun _ => ws) := by
  refine Ct.of (by decide +kernel) (Nat.le_of_ble_eq_true rfl) ?_
  intro G hl hK h he
  subst hl
  subst hK
  exact t_J9_min_7cf53_0 h he hf

-- BowlState$Moment.put
abbrev rX1_put : Room := { frames := 1, cells := 0, slots := 0, locals := 22 }
def f_X1_put (c_m_place : Nat → Int32) (c_m_left : Nat → Int32) (c_p_hours : Nat → Int32) (c_p_kind : Nat → Int32) (x1 : Int32) (x2 : Int32) : Option ((Nat → Int32) × (Nat → Int32)) := ix 5 x1 (rd 5 c_m_left x1 (fun v4 => (f_X1_lasts (upd c_m_place (Int32.toNatClampNeg x1) x2) c_p_hours c_p_kind x1).bind (fun w5 => (f_J9_min_7cf53 v4 w5).bind (fun w6 => ix 5 x1 (some (upd c_m_place (Int32.toNatClampNeg x1) x2, upd c_m_left (Int32.toNatClampNeg x1) w6))))))
set_option maxRecDepth 100000 in
set_option maxHeartbeats 4000000 in
theorem t_X1_put_0 {G : Cx} (h : Am G yX1_put cX1_put 3 none rX1_put) {a_m a_p : Nat → Nat} {c_m_place : Nat → Int32} {c_m_known : Nat → Int32} {c_m_left : Nat → Int32} {c_m_onDuty : Int32} {c_m_clock : Int32} {c_p_bowls : Int32} {c_p_fishes : Int32} {c_p_lips : Int32} {c_p_hours : Nat → Int32} {c_p_start : Nat → Int32} {c_p_first : Nat → Int32} {c_p_kind : Nat → Int32} {c_p_post : Nat → Int32} {c_p_error : Nat → Int32} {r : (Nat → Int32) × (Nat → Int32)} (he : En G rX1_put none (fun _ => wMoment (g_K G).2.1 (g_K G).2.2.1 a_m (a_p 0) r.1 c_m_known r.2 c_m_onDuty c_m_clock ++ wPlan (g_K G).2.1 (g_K G).2.2.1 a_p c_p_bowls c_p_fishes c_p_lips c_p_hours c_p_start c_p_first c_p_kind c_p_post c_p_error)) {x1 : Int32} {x2 : Int32} (hf : f_X1_put c_m_place c_m_left c_p_hours c_p_kind x1 x2 = some r) : AB G 0 0 (wMoment (g_K G).2.1 (g_K G).2.2.1 a_m (a_p 0) c_m_place c_m_known c_m_left c_m_onDuty c_m_clock ++ wPlan (g_K G).2.1 (g_K G).2.2.1 a_p c_p_bowls c_p_fishes c_p_lips c_p_hours c_p_start c_p_first c_p_kind c_p_post c_p_error) [(0, .ref (a_m 0)), (1, .int x1), (2, .int x2)] 0 [] := by
  unfold f_X1_put at hf
  refine ab_aload_n h 0 rfl rfl dX1_put_0 ?_
  refine ab_get h in_X1 0 rfl rfl 1 (by decide) fl_X1_9 rfl dX1_put_1 ?_
  refine ab_iload_n h 1 rfl rfl dX1_put_4 ?_
  refine ab_iload_n h 2 rfl rfl dX1_put_5 ?_
  refine ab_iast h 1 (wMoment (g_K G).2.1 (g_K G).2.2.1 a_m (a_p 0) (upd c_m_place (Int32.toNatClampNeg x1) x2) c_m_known c_m_left c_m_onDuty c_m_clock ++ wPlan (g_K G).2.1 (g_K G).2.2.1 a_p c_p_bowls c_p_fishes c_p_lips c_p_hours c_p_start c_p_first c_p_kind c_p_post c_p_error) rfl rfl dX1_put_6 (fun hf => ?_) hf
  refine ab_aload_n h 0 rfl rfl dX1_put_7 ?_
  refine ab_get h in_X1 0 rfl rfl 3 (by decide) fl_X1_18 rfl dX1_put_8 ?_
  refine ab_iload_n h 1 rfl rfl dX1_put_11 ?_
  refine ab_aload_n h 0 rfl rfl dX1_put_12 ?_
  refine ab_get h in_X1 0 rfl rfl 3 (by decide) fl_X1_18 rfl dX1_put_13 ?_
  refine ab_iload_n h 1 rfl rfl dX1_put_16 ?_
  refine ab_iald h 3 rfl dX1_put_17 (fun v4 hf => ?_) hf
  refine ab_aload_n h 0 rfl rfl dX1_put_18 ?_
  refine ab_iload_n h 1 rfl rfl dX1_put_19 ?_
  obtain ⟨w5, hw5, hf⟩ := bind_inv hf
  refine ab_call0 h (run_V (As := [.int x1]) (st := [.int v4, .int x1, .ref (a_m 3)]) h (c_X1_lasts (g_l G) (g_K G) a_m a_p (upd c_m_place (Int32.toNatClampNeg x1) x2) c_m_known c_m_left c_m_onDuty c_m_clock c_p_bowls c_p_fishes c_p_lips c_p_hours c_p_start c_p_first c_p_kind c_p_post c_p_error x1 w5 hw5) ok_X1_lasts 0 rfl rfl ml_X1_86 ⟨⟨Nat.le_of_ble_eq_true rfl, Nat.le_of_ble_eq_true rfl⟩, ⟨Nat.le_of_ble_eq_true rfl, Nat.le_of_ble_eq_true rfl⟩, Nat.le_of_ble_eq_true rfl⟩ dX1_put_20 rfl) (wMoment (g_K G).2.1 (g_K G).2.2.1 a_m (a_p 0) (upd c_m_place (Int32.toNatClampNeg x1) x2) c_m_known c_m_left c_m_onDuty c_m_clock ++ wPlan (g_K G).2.1 (g_K G).2.2.1 a_p c_p_bowls c_p_fishes c_p_lips c_p_hours c_p_start c_p_first c_p_kind c_p_post c_p_error) (fun _ => rfl) [.int w5, .int v4, .int x1, .ref (a_m 3)] rfl rfl rfl ?_
  obtain ⟨w6, hw6, hf⟩ := bind_inv hf
  refine ab_call0 h (run_S (As := [.int v4, .int w5]) (st := [.int x1, .ref (a_m 3)]) h (c_J9_min_7cf53 (g_l G) (g_K G) (wMoment (g_K G).2.1 (g_K G).2.2.1 a_m (a_p 0) (upd c_m_place (Int32.toNatClampNeg x1) x2) c_m_known c_m_left c_m_onDuty c_m_clock ++ wPlan (g_K G).2.1 (g_K G).2.2.1 a_p c_p_bowls c_p_fishes c_p_lips c_p_hours c_p_start c_p_first c_p_kind c_p_post c_p_error) v4 w5 w6 hw6) ok_J9_min_7cf53 ml_X1_89 ⟨⟨Nat.le_of_ble_eq_true rfl, Nat.le_of_ble_eq_true rfl⟩, ⟨Nat.le_of_ble_eq_true rfl, Nat.le_of_ble_eq_true rfl⟩, Nat.le_of_ble_eq_true rfl⟩ dX1_put_23 rfl) (wMoment (g_K G).2.1 (g_K G).2.2.1 a_m (a_p 0) (upd c_m_place (Int32.toNatClampNeg x1) x2) c_m_known c_m_left c_m_onDuty c_m_clock ++ wPlan (g_K G).2.1 (g_K G).2.2.1 a_p c_p_bowls c_p_fishes c_p_lips c_p_hours c_p_start c_p_first c_p_kind c_p_post c_p_error) (fun _ => rfl) [.int w6, .int x1, .ref (a_m 3)] rfl rfl rfl ?_
  refine ab_iast h 3 (wMoment (g_K G).2.1 (g_K G).2.2.1 a_m (a_p 0) (upd c_m_place (Int32.toNatClampNeg x1) x2) c_m_known (upd c_m_left (Int32.toNatClampNeg x1) w6) c_m_onDuty c_m_clock ++ wPlan (g_K G).2.1 (g_K G).2.2.1 a_p c_p_bowls c_p_fishes c_p_lips c_p_hours c_p_start c_p_first c_p_kind c_p_post c_p_error) rfl rfl dX1_put_26 (fun hf => ?_) hf
  obtain rfl := Option.some.inj hf
  exact ab_vret h he [] rfl rfl rfl rfl rfl dX1_put_27
theorem c_X1_put (l : Launch) (K : Kx) (a_m a_p : Nat → Nat) (c_m_place : Nat → Int32) (c_m_known : Nat → Int32) (c_m_left : Nat → Int32) (c_m_onDuty : Int32) (c_m_clock : Int32) (c_p_bowls : Int32) (c_p_fishes : Int32) (c_p_lips : Int32) (c_p_hours : Nat → Int32) (c_p_start : Nat → Int32) (c_p_first : Nat → Int32) (c_p_kind : Nat → Int32) (c_p_post : Nat → Int32) (c_p_error : Nat → Int32) (x1 : Int32) (x2 : Int32) (r : (Nat → Int32) × (Nat → Int32)) (hf : f_X1_put c_m_place c_m_left c_p_hours c_p_kind x1 x2 = some r) : Ct l yX1_put cX1_put 3 none rX1_put K [.ref (a_m 0), .int x1, .int x2] (wMoment K.2.1 K.2.2.1 a_m (a_p 0) c_m_place c_m_known c_m_left c_m_onDuty c_m_clock ++ wPlan K.2.1 K.2.2.1 a_p c_p_bowls c_p_fishes c_p_lips c_p_hours c_p_start c_p_first c_p_kind c_p_post c_p_error) none (fun _ => wMoment K.2.1 K.2.2.1 a_m (a_p 0) r.1 c_m_known r.2 c_m_onDuty c_m_clock ++ wPlan K.2.1 K.2.2.1 a_p c_p_bowls c_p_fishes c_p_lips c_p_hours c_p_start c_p_first c_p_kind c_p_post c_p_error) := by
  refine Ct.of (by decide +kernel) (Nat.le_of_ble_eq_true rfl) ?_
  intro G hl hK h he
  subst hl
  subst hK
  exact t_X1_put_0 h he hf

-- BowlState$Moment.forget
abbrev rX1_forget : Room := { frames := 0, cells := 0, slots := 0, locals := 0 }
def f_X1_forget (c_m_known : Nat → Int32) (c_m_left : Nat → Int32) (x1 : Int32) : Option ((Nat → Int32) × (Nat → Int32)) := ix 5 x1 (ix 5 x1 (some (upd c_m_known (Int32.toNatClampNeg x1) ((-9)), upd c_m_left (Int32.toNatClampNeg x1) 0)))
set_option maxRecDepth 100000 in
set_option maxHeartbeats 4000000 in
theorem t_X1_forget_0 {G : Cx} (h : Am G yX1_forget cX1_forget 2 none rX1_forget) {a_m a_p : Nat → Nat} {c_m_place : Nat → Int32} {c_m_known : Nat → Int32} {c_m_left : Nat → Int32} {c_m_onDuty : Int32} {c_m_clock : Int32} {c_p_bowls : Int32} {c_p_fishes : Int32} {c_p_lips : Int32} {c_p_hours : Nat → Int32} {c_p_start : Nat → Int32} {c_p_first : Nat → Int32} {c_p_kind : Nat → Int32} {c_p_post : Nat → Int32} {c_p_error : Nat → Int32} {r : (Nat → Int32) × (Nat → Int32)} (he : En G rX1_forget none (fun _ => wMoment (g_K G).2.1 (g_K G).2.2.1 a_m (a_p 0) c_m_place r.1 r.2 c_m_onDuty c_m_clock ++ wPlan (g_K G).2.1 (g_K G).2.2.1 a_p c_p_bowls c_p_fishes c_p_lips c_p_hours c_p_start c_p_first c_p_kind c_p_post c_p_error)) {x1 : Int32} (hf : f_X1_forget c_m_known c_m_left x1 = some r) : AB G 0 0 (wMoment (g_K G).2.1 (g_K G).2.2.1 a_m (a_p 0) c_m_place c_m_known c_m_left c_m_onDuty c_m_clock ++ wPlan (g_K G).2.1 (g_K G).2.2.1 a_p c_p_bowls c_p_fishes c_p_lips c_p_hours c_p_start c_p_first c_p_kind c_p_post c_p_error) [(0, .ref (a_m 0)), (1, .int x1)] 0 [] := by
  unfold f_X1_forget at hf
  refine ab_aload_n h 0 rfl rfl dX1_forget_0 ?_
  refine ab_get h in_X1 0 rfl rfl 2 (by decide) fl_X1_15 rfl dX1_forget_1 ?_
  refine ab_iload_n h 1 rfl rfl dX1_forget_4 ?_
  refine ab_bipush (v := (-9)) h dX1_forget_5 (by decide) ?_
  refine ab_iast h 2 (wMoment (g_K G).2.1 (g_K G).2.2.1 a_m (a_p 0) c_m_place (upd c_m_known (Int32.toNatClampNeg x1) ((-9))) c_m_left c_m_onDuty c_m_clock ++ wPlan (g_K G).2.1 (g_K G).2.2.1 a_p c_p_bowls c_p_fishes c_p_lips c_p_hours c_p_start c_p_first c_p_kind c_p_post c_p_error) rfl rfl dX1_forget_7 (fun hf => ?_) hf
  refine ab_aload_n h 0 rfl rfl dX1_forget_8 ?_
  refine ab_get h in_X1 0 rfl rfl 3 (by decide) fl_X1_18 rfl dX1_forget_9 ?_
  refine ab_iload_n h 1 rfl rfl dX1_forget_12 ?_
  refine ab_iconst (v := 0) h dX1_forget_13 (by decide) ?_
  refine ab_iast h 3 (wMoment (g_K G).2.1 (g_K G).2.2.1 a_m (a_p 0) c_m_place (upd c_m_known (Int32.toNatClampNeg x1) ((-9))) (upd c_m_left (Int32.toNatClampNeg x1) 0) c_m_onDuty c_m_clock ++ wPlan (g_K G).2.1 (g_K G).2.2.1 a_p c_p_bowls c_p_fishes c_p_lips c_p_hours c_p_start c_p_first c_p_kind c_p_post c_p_error) rfl rfl dX1_forget_14 (fun hf => ?_) hf
  obtain rfl := Option.some.inj hf
  exact ab_vret h he [] rfl rfl rfl rfl rfl dX1_forget_15
theorem c_X1_forget (l : Launch) (K : Kx) (a_m a_p : Nat → Nat) (c_m_place : Nat → Int32) (c_m_known : Nat → Int32) (c_m_left : Nat → Int32) (c_m_onDuty : Int32) (c_m_clock : Int32) (c_p_bowls : Int32) (c_p_fishes : Int32) (c_p_lips : Int32) (c_p_hours : Nat → Int32) (c_p_start : Nat → Int32) (c_p_first : Nat → Int32) (c_p_kind : Nat → Int32) (c_p_post : Nat → Int32) (c_p_error : Nat → Int32) (x1 : Int32) (r : (Nat → Int32) × (Nat → Int32)) (hf : f_X1_forget c_m_known c_m_left x1 = some r) : Ct l yX1_forget cX1_forget 2 none rX1_forget K [.ref (a_m 0), .int x1] (wMoment K.2.1 K.2.2.1 a_m (a_p 0) c_m_place c_m_known c_m_left c_m_onDuty c_m_clock ++ wPlan K.2.1 K.2.2.1 a_p c_p_bowls c_p_fishes c_p_lips c_p_hours c_p_start c_p_first c_p_kind c_p_post c_p_error) none (fun _ => wMoment K.2.1 K.2.2.1 a_m (a_p 0) c_m_place r.1 r.2 c_m_onDuty c_m_clock ++ wPlan K.2.1 K.2.2.1 a_p c_p_bowls c_p_fishes c_p_lips c_p_hours c_p_start c_p_first c_p_kind c_p_post c_p_error) := by
  refine Ct.of (by decide +kernel) (Nat.le_of_ble_eq_true rfl) ?_
  intro G hl hK h he
  subst hl
  subst hK
  exact t_X1_forget_0 h he hf

-- BowlState$Moment.changeWater
abbrev rX1_changeWater : Room := { frames := 1, cells := 0, slots := 0, locals := 21 }
def f_X1_changeWater_57 (k4 : (Int32 × Int32 × (Nat → Int32) × (Nat → Int32)) → Option (Int32 × (Nat → Int32) × (Nat → Int32))) (c_m_known : Nat → Int32) (c_m_left : Nat → Int32) (x2 : Int32) (x3 : Int32) : Option (Int32 × (Nat → Int32) × (Nat → Int32)) := k4 (x2, x3 + 1, c_m_known, c_m_left)
set_option maxRecDepth 100000 in
set_option maxHeartbeats 4000000 in
theorem t_X1_changeWater_57 {G : Cx} (h : Am G yX1_changeWater cX1_changeWater 4 (some .int) rX1_changeWater) {a_m a_p : Nat → Nat} {c_m_place : Nat → Int32} {c_m_known : Nat → Int32} {c_m_left : Nat → Int32} {c_m_onDuty : Int32} {c_m_clock : Int32} {c_p_bowls : Int32} {c_p_fishes : Int32} {c_p_lips : Int32} {c_p_hours : Nat → Int32} {c_p_start : Nat → Int32} {c_p_first : Nat → Int32} {c_p_kind : Nat → Int32} {c_p_post : Nat → Int32} {c_p_error : Nat → Int32} {r : Int32 × (Nat → Int32) × (Nat → Int32)} (he : En G rX1_changeWater (some (.int r.1)) (fun _ => wMoment (g_K G).2.1 (g_K G).2.2.1 a_m (a_p 0) c_m_place r.2.1 r.2.2 c_m_onDuty c_m_clock ++ wPlan (g_K G).2.1 (g_K G).2.2.1 a_p c_p_bowls c_p_fishes c_p_lips c_p_hours c_p_start c_p_first c_p_kind c_p_post c_p_error)) {x1 : Int32} {x2 : Int32} {x3 : Int32} (k4 : (Int32 × Int32 × (Nat → Int32) × (Nat → Int32)) → Option (Int32 × (Nat → Int32) × (Nat → Int32))) (hk4 : ∀ s : Int32 × Int32 × (Nat → Int32) × (Nat → Int32), k4 s = some r → AB G 0 0 (wMoment (g_K G).2.1 (g_K G).2.2.1 a_m (a_p 0) c_m_place s.2.2.1 s.2.2.2 c_m_onDuty c_m_clock ++ wPlan (g_K G).2.1 (g_K G).2.2.1 a_p c_p_bowls c_p_fishes c_p_lips c_p_hours c_p_start c_p_first c_p_kind c_p_post c_p_error) [(0, .ref (a_m 0)), (1, .int x1), (2, .int s.1), (3, .int s.2.1)] 4 []) (hf : f_X1_changeWater_57 k4 c_m_known c_m_left x2 x3 = some r) : AB G 0 0 (wMoment (g_K G).2.1 (g_K G).2.2.1 a_m (a_p 0) c_m_place c_m_known c_m_left c_m_onDuty c_m_clock ++ wPlan (g_K G).2.1 (g_K G).2.2.1 a_p c_p_bowls c_p_fishes c_p_lips c_p_hours c_p_start c_p_first c_p_kind c_p_post c_p_error) [(0, .ref (a_m 0)), (1, .int x1), (2, .int x2), (3, .int x3)] 57 [] := by
  unfold f_X1_changeWater_57 at hf
  refine ab_iinc (v := x3 + 1) h 3 [1, 2, 3, 0] [(0, .ref (a_m 0)), (1, .int x1), (2, .int x2), (3, .int (x3 + 1))] rfl rfl (by decide) rfl dX1_changeWater_57 ?_
  refine ab_goto (tgt := 4) h dX1_changeWater_60 (by decide) ?_
  exact hk4 (x2, x3 + 1, c_m_known, c_m_left) hf
def f_X1_changeWater_4 (c_m_place : Nat → Int32) (c_p_fishes : Int32) (c_p_kind : Nat → Int32) (x1 : Int32) (k4 : (Int32 × Int32 × (Nat → Int32) × (Nat → Int32)) → Option (Int32 × (Nat → Int32) × (Nat → Int32))) (x2 : Int32) (x3 : Int32) (c_m_known : Nat → Int32) (c_m_left : Nat → Int32) : Option (Int32 × (Nat → Int32) × (Nat → Int32)) := if c_p_fishes ≤ x3 then (some (x2, c_m_known, c_m_left)) else (rd 5 c_m_place x3 (fun v5 => if v5 = x1 then (rd 5 c_p_kind x3 (fun v6 => if v6 = 1 then (f_X1_changeWater_57 k4 c_m_known c_m_left x2 x3) else (rd 5 c_m_known x3 (fun v7 => if v7 = ((-9)) then (f_X1_changeWater_57 k4 c_m_known c_m_left x2 x3) else ((f_X1_forget c_m_known c_m_left x3).bind (fun w8 => f_X1_changeWater_57 k4 w8.1 w8.2 (x2 + 1) x3)))))) else (f_X1_changeWater_57 k4 c_m_known c_m_left x2 x3)))
def g_X1_changeWater_4 (c_m_place : Nat → Int32) (c_p_fishes : Int32) (c_p_kind : Nat → Int32) (x1 : Int32) (k4 : (Int32 × Int32 × (Nat → Int32) × (Nat → Int32)) → Option (Int32 × (Nat → Int32) × (Nat → Int32))) (s : Int32 × Int32 × (Nat → Int32) × (Nat → Int32)) : Option (Int32 × (Nat → Int32) × (Nat → Int32)) := f_X1_changeWater_4 c_m_place c_p_fishes c_p_kind x1 k4 s.1 s.2.1 s.2.2.1 s.2.2.2
set_option maxRecDepth 100000 in
set_option maxHeartbeats 4000000 in
theorem t_X1_changeWater_4 {G : Cx} (h : Am G yX1_changeWater cX1_changeWater 4 (some .int) rX1_changeWater) {a_m a_p : Nat → Nat} {c_m_place : Nat → Int32} {c_m_onDuty : Int32} {c_m_clock : Int32} {c_p_bowls : Int32} {c_p_fishes : Int32} {c_p_lips : Int32} {c_p_hours : Nat → Int32} {c_p_start : Nat → Int32} {c_p_first : Nat → Int32} {c_p_kind : Nat → Int32} {c_p_post : Nat → Int32} {c_p_error : Nat → Int32} {r : Int32 × (Nat → Int32) × (Nat → Int32)} (he : En G rX1_changeWater (some (.int r.1)) (fun _ => wMoment (g_K G).2.1 (g_K G).2.2.1 a_m (a_p 0) c_m_place r.2.1 r.2.2 c_m_onDuty c_m_clock ++ wPlan (g_K G).2.1 (g_K G).2.2.1 a_p c_p_bowls c_p_fishes c_p_lips c_p_hours c_p_start c_p_first c_p_kind c_p_post c_p_error)) {x1 : Int32} (n : Nat) (s : Int32 × Int32 × (Nat → Int32) × (Nat → Int32)) (hf : loopN (g_X1_changeWater_4 c_m_place c_p_fishes c_p_kind x1) n s = some r) : AB G 0 0 (wMoment (g_K G).2.1 (g_K G).2.2.1 a_m (a_p 0) c_m_place s.2.2.1 s.2.2.2 c_m_onDuty c_m_clock ++ wPlan (g_K G).2.1 (g_K G).2.2.1 a_p c_p_bowls c_p_fishes c_p_lips c_p_hours c_p_start c_p_first c_p_kind c_p_post c_p_error) [(0, .ref (a_m 0)), (1, .int x1), (2, .int s.1), (3, .int s.2.1)] 4 [] := by
  refine loopN_all (fun s => AB G 0 0 (wMoment (g_K G).2.1 (g_K G).2.2.1 a_m (a_p 0) c_m_place s.2.2.1 s.2.2.2 c_m_onDuty c_m_clock ++ wPlan (g_K G).2.1 (g_K G).2.2.1 a_p c_p_bowls c_p_fishes c_p_lips c_p_hours c_p_start c_p_first c_p_kind c_p_post c_p_error) [(0, .ref (a_m 0)), (1, .int x1), (2, .int s.1), (3, .int s.2.1)] 4 []) (fun k4 hk4 s hf => ?_) n s hf
  obtain ⟨x2, x3, c_m_known, c_m_left⟩ := s
  change f_X1_changeWater_4 c_m_place c_p_fishes c_p_kind x1 k4 x2 x3 c_m_known c_m_left = some r at hf
  unfold f_X1_changeWater_4 at hf
  show AB G 0 0 (wMoment (g_K G).2.1 (g_K G).2.2.1 a_m (a_p 0) c_m_place c_m_known c_m_left c_m_onDuty c_m_clock ++ wPlan (g_K G).2.1 (g_K G).2.2.1 a_p c_p_bowls c_p_fishes c_p_lips c_p_hours c_p_start c_p_first c_p_kind c_p_post c_p_error) [(0, .ref (a_m 0)), (1, .int x1), (2, .int x2), (3, .int x3)] 4 []
  refine ab_iload_n h 3 rfl rfl dX1_changeWater_4 ?_
  refine ab_aload_n h 0 rfl rfl dX1_changeWater_5 ?_
  refine ab_get h in_X1 0 rfl rfl 0 (by decide) fl_X1_21 rfl dX1_changeWater_6 ?_
  refine ab_get h in_X3 4 rfl rfl 1 (by decide) fl_X1_25 rfl dX1_changeWater_9 ?_
  refine ab_icmp_ge (tgt := 63) h dX1_changeWater_12 (by decide) (fun hf => ?_) (fun hf => ?_) hf
  · refine ab_iload_n h 2 rfl rfl dX1_changeWater_63 ?_
    obtain rfl := Option.some.inj hf
    exact ab_iret h he [] rfl rfl rfl rfl rfl dX1_changeWater_64
  · refine ab_aload_n h 0 rfl rfl dX1_changeWater_15 ?_
    refine ab_get h in_X1 0 rfl rfl 1 (by decide) fl_X1_9 rfl dX1_changeWater_16 ?_
    refine ab_iload_n h 3 rfl rfl dX1_changeWater_19 ?_
    refine ab_iald h 1 rfl dX1_changeWater_20 (fun v5 hf => ?_) hf
    refine ab_iload_n h 1 rfl rfl dX1_changeWater_21 ?_
    refine ab_icmp_ne (tgt := 57) h dX1_changeWater_22 (by decide) (fun hf => ?_) (fun hf => ?_) hf
    · exact t_X1_changeWater_57 h he k4 hk4 hf
    · refine ab_aload_n h 0 rfl rfl dX1_changeWater_25 ?_
      refine ab_get h in_X1 0 rfl rfl 0 (by decide) fl_X1_21 rfl dX1_changeWater_26 ?_
      refine ab_get h in_X3 4 rfl rfl 6 (by decide) fl_X1_59 rfl dX1_changeWater_29 ?_
      refine ab_iload_n h 3 rfl rfl dX1_changeWater_32 ?_
      refine ab_iald h 8 rfl dX1_changeWater_33 (fun v6 hf => ?_) hf
      refine ab_iconst (v := 1) h dX1_changeWater_34 (by decide) ?_
      refine ab_icmp_eq (tgt := 57) h dX1_changeWater_35 (by decide) (fun hf => ?_) (fun hf => ?_) hf
      · exact t_X1_changeWater_57 h he k4 hk4 hf
      · refine ab_aload_n h 0 rfl rfl dX1_changeWater_38 ?_
        refine ab_get h in_X1 0 rfl rfl 2 (by decide) fl_X1_15 rfl dX1_changeWater_39 ?_
        refine ab_iload_n h 3 rfl rfl dX1_changeWater_42 ?_
        refine ab_iald h 2 rfl dX1_changeWater_43 (fun v7 hf => ?_) hf
        refine ab_bipush (v := (-9)) h dX1_changeWater_44 (by decide) ?_
        refine ab_icmp_eq (tgt := 57) h dX1_changeWater_46 (by decide) (fun hf => ?_) (fun hf => ?_) hf
        · exact t_X1_changeWater_57 h he k4 hk4 hf
        · refine ab_aload_n h 0 rfl rfl dX1_changeWater_49 ?_
          refine ab_iload_n h 3 rfl rfl dX1_changeWater_50 ?_
          obtain ⟨w8, hw8, hf⟩ := bind_inv hf
          refine ab_call0 h (run_V (As := [.int x3]) (st := []) h (c_X1_forget (g_l G) (g_K G) a_m a_p c_m_place c_m_known c_m_left c_m_onDuty c_m_clock c_p_bowls c_p_fishes c_p_lips c_p_hours c_p_start c_p_first c_p_kind c_p_post c_p_error x3 w8 hw8) ok_X1_forget 0 rfl rfl ml_X1_92 ⟨⟨Nat.le_of_ble_eq_true rfl, Nat.le_of_ble_eq_true rfl⟩, ⟨Nat.le_of_ble_eq_true rfl, Nat.le_of_ble_eq_true rfl⟩, Nat.le_of_ble_eq_true rfl⟩ dX1_changeWater_51 rfl) (wMoment (g_K G).2.1 (g_K G).2.2.1 a_m (a_p 0) c_m_place w8.1 w8.2 c_m_onDuty c_m_clock ++ wPlan (g_K G).2.1 (g_K G).2.2.1 a_p c_p_bowls c_p_fishes c_p_lips c_p_hours c_p_start c_p_first c_p_kind c_p_post c_p_error) (fun _ => rfl) [] rfl rfl rfl ?_
          refine ab_iinc (v := x2 + 1) h 2 [1, 2, 0, 3] [(0, .ref (a_m 0)), (1, .int x1), (2, .int (x2 + 1)), (3, .int x3)] rfl rfl (by decide) rfl dX1_changeWater_54 ?_
          exact t_X1_changeWater_57 h he k4 hk4 hf
def f_X1_changeWater (c_m_place : Nat → Int32) (c_m_known : Nat → Int32) (c_m_left : Nat → Int32) (c_p_fishes : Int32) (c_p_kind : Nat → Int32) (x1 : Int32) : Option (Int32 × (Nat → Int32) × (Nat → Int32)) := loopN (g_X1_changeWater_4 c_m_place c_p_fishes c_p_kind x1) 100 (0, 0, c_m_known, c_m_left)
set_option maxRecDepth 100000 in
set_option maxHeartbeats 4000000 in
theorem t_X1_changeWater_0 {G : Cx} (h : Am G yX1_changeWater cX1_changeWater 4 (some .int) rX1_changeWater) {a_m a_p : Nat → Nat} {c_m_place : Nat → Int32} {c_m_known : Nat → Int32} {c_m_left : Nat → Int32} {c_m_onDuty : Int32} {c_m_clock : Int32} {c_p_bowls : Int32} {c_p_fishes : Int32} {c_p_lips : Int32} {c_p_hours : Nat → Int32} {c_p_start : Nat → Int32} {c_p_first : Nat → Int32} {c_p_kind : Nat → Int32} {c_p_post : Nat → Int32} {c_p_error : Nat → Int32} {r : Int32 × (Nat → Int32) × (Nat → Int32)} (he : En G rX1_changeWater (some (.int r.1)) (fun _ => wMoment (g_K G).2.1 (g_K G).2.2.1 a_m (a_p 0) c_m_place r.2.1 r.2.2 c_m_onDuty c_m_clock ++ wPlan (g_K G).2.1 (g_K G).2.2.1 a_p c_p_bowls c_p_fishes c_p_lips c_p_hours c_p_start c_p_first c_p_kind c_p_post c_p_error)) {x1 : Int32} (hf : f_X1_changeWater c_m_place c_m_known c_m_left c_p_fishes c_p_kind x1 = some r) : AB G 0 0 (wMoment (g_K G).2.1 (g_K G).2.2.1 a_m (a_p 0) c_m_place c_m_known c_m_left c_m_onDuty c_m_clock ++ wPlan (g_K G).2.1 (g_K G).2.2.1 a_p c_p_bowls c_p_fishes c_p_lips c_p_hours c_p_start c_p_first c_p_kind c_p_post c_p_error) [(0, .ref (a_m 0)), (1, .int x1)] 0 [] := by
  unfold f_X1_changeWater at hf
  refine ab_iconst (v := 0) h dX1_changeWater_0 (by decide) ?_
  refine ab_istore_n h [1, 2, 0] [(0, .ref (a_m 0)), (1, .int x1), (2, .int 0)] rfl (by decide) rfl dX1_changeWater_1 ?_
  refine ab_iconst (v := 0) h dX1_changeWater_2 (by decide) ?_
  refine ab_istore_n h [1, 2, 3, 0] [(0, .ref (a_m 0)), (1, .int x1), (2, .int 0), (3, .int 0)] rfl (by decide) rfl dX1_changeWater_3 ?_
  exact t_X1_changeWater_4 h he 100 (0, 0, c_m_known, c_m_left) hf
theorem c_X1_changeWater (l : Launch) (K : Kx) (a_m a_p : Nat → Nat) (c_m_place : Nat → Int32) (c_m_known : Nat → Int32) (c_m_left : Nat → Int32) (c_m_onDuty : Int32) (c_m_clock : Int32) (c_p_bowls : Int32) (c_p_fishes : Int32) (c_p_lips : Int32) (c_p_hours : Nat → Int32) (c_p_start : Nat → Int32) (c_p_first : Nat → Int32) (c_p_kind : Nat → Int32) (c_p_post : Nat → Int32) (c_p_error : Nat → Int32) (x1 : Int32) (r : Int32 × (Nat → Int32) × (Nat → Int32)) (hf : f_X1_changeWater c_m_place c_m_known c_m_left c_p_fishes c_p_kind x1 = some r) : Ct l yX1_changeWater cX1_changeWater 4 (some .int) rX1_changeWater K [.ref (a_m 0), .int x1] (wMoment K.2.1 K.2.2.1 a_m (a_p 0) c_m_place c_m_known c_m_left c_m_onDuty c_m_clock ++ wPlan K.2.1 K.2.2.1 a_p c_p_bowls c_p_fishes c_p_lips c_p_hours c_p_start c_p_first c_p_kind c_p_post c_p_error) (some (.int r.1)) (fun _ => wMoment K.2.1 K.2.2.1 a_m (a_p 0) c_m_place r.2.1 r.2.2 c_m_onDuty c_m_clock ++ wPlan K.2.1 K.2.2.1 a_p c_p_bowls c_p_fishes c_p_lips c_p_hours c_p_start c_p_first c_p_kind c_p_post c_p_error) := by
  refine Ct.of (by decide +kernel) (Nat.le_of_ble_eq_true rfl) ?_
  intro G hl hK h he
  subst hl
  subst hK
  exact t_X1_changeWater_0 h he hf

-- BowlState$Moment.fade
abbrev rX1_fade : Room := { frames := 1, cells := 0, slots := 0, locals := 21 }
def f_X1_fade_61 (k2 : (Int32 × (Nat → Int32) × (Nat → Int32)) → Option ((Nat → Int32) × (Nat → Int32))) (c_m_known : Nat → Int32) (c_m_left : Nat → Int32) (x1 : Int32) : Option ((Nat → Int32) × (Nat → Int32)) := k2 (x1 + 1, c_m_known, c_m_left)
set_option maxRecDepth 100000 in
set_option maxHeartbeats 4000000 in
theorem t_X1_fade_61 {G : Cx} (h : Am G yX1_fade cX1_fade 2 none rX1_fade) {a_m a_p : Nat → Nat} {c_m_place : Nat → Int32} {c_m_known : Nat → Int32} {c_m_left : Nat → Int32} {c_m_onDuty : Int32} {c_m_clock : Int32} {c_p_bowls : Int32} {c_p_fishes : Int32} {c_p_lips : Int32} {c_p_hours : Nat → Int32} {c_p_start : Nat → Int32} {c_p_first : Nat → Int32} {c_p_kind : Nat → Int32} {c_p_post : Nat → Int32} {c_p_error : Nat → Int32} {r : (Nat → Int32) × (Nat → Int32)} (he : En G rX1_fade none (fun _ => wMoment (g_K G).2.1 (g_K G).2.2.1 a_m (a_p 0) c_m_place r.1 r.2 c_m_onDuty c_m_clock ++ wPlan (g_K G).2.1 (g_K G).2.2.1 a_p c_p_bowls c_p_fishes c_p_lips c_p_hours c_p_start c_p_first c_p_kind c_p_post c_p_error)) {x1 : Int32} (k2 : (Int32 × (Nat → Int32) × (Nat → Int32)) → Option ((Nat → Int32) × (Nat → Int32))) (hk2 : ∀ s : Int32 × (Nat → Int32) × (Nat → Int32), k2 s = some r → AB G 0 0 (wMoment (g_K G).2.1 (g_K G).2.2.1 a_m (a_p 0) c_m_place s.2.1 s.2.2 c_m_onDuty c_m_clock ++ wPlan (g_K G).2.1 (g_K G).2.2.1 a_p c_p_bowls c_p_fishes c_p_lips c_p_hours c_p_start c_p_first c_p_kind c_p_post c_p_error) [(0, .ref (a_m 0)), (1, .int s.1)] 2 []) (hf : f_X1_fade_61 k2 c_m_known c_m_left x1 = some r) : AB G 0 0 (wMoment (g_K G).2.1 (g_K G).2.2.1 a_m (a_p 0) c_m_place c_m_known c_m_left c_m_onDuty c_m_clock ++ wPlan (g_K G).2.1 (g_K G).2.2.1 a_p c_p_bowls c_p_fishes c_p_lips c_p_hours c_p_start c_p_first c_p_kind c_p_post c_p_error) [(0, .ref (a_m 0)), (1, .int x1)] 61 [] := by
  unfold f_X1_fade_61 at hf
  refine ab_iinc (v := x1 + 1) h 1 [1, 0] [(0, .ref (a_m 0)), (1, .int (x1 + 1))] rfl rfl (by decide) rfl dX1_fade_61 ?_
  refine ab_goto (tgt := 2) h dX1_fade_64 (by decide) ?_
  exact hk2 (x1 + 1, c_m_known, c_m_left) hf
def f_X1_fade_2 (c_p_fishes : Int32) (c_p_kind : Nat → Int32) (k2 : (Int32 × (Nat → Int32) × (Nat → Int32)) → Option ((Nat → Int32) × (Nat → Int32))) (x1 : Int32) (c_m_known : Nat → Int32) (c_m_left : Nat → Int32) : Option ((Nat → Int32) × (Nat → Int32)) := if c_p_fishes ≤ x1 then (some (c_m_known, c_m_left)) else (rd 5 c_m_known x1 (fun v6 => if v6 = ((-9)) then (f_X1_fade_61 k2 c_m_known c_m_left x1) else (rd 5 c_p_kind x1 (fun v7 => if v7 = 1 then (f_X1_fade_61 k2 c_m_known c_m_left x1) else (rd 5 c_m_left x1 (fun v8 => ix 5 x1 (rd 5 (upd c_m_left (Int32.toNatClampNeg x1) (v8 - 1)) x1 (fun v9 => if 0 < v9 then (f_X1_fade_61 k2 c_m_known (upd c_m_left (Int32.toNatClampNeg x1) (v8 - 1)) x1) else ((f_X1_forget c_m_known (upd c_m_left (Int32.toNatClampNeg x1) (v8 - 1)) x1).bind (fun w10 => f_X1_fade_61 k2 w10.1 w10.2 x1))))))))))
def g_X1_fade_2 (c_p_fishes : Int32) (c_p_kind : Nat → Int32) (k2 : (Int32 × (Nat → Int32) × (Nat → Int32)) → Option ((Nat → Int32) × (Nat → Int32))) (s : Int32 × (Nat → Int32) × (Nat → Int32)) : Option ((Nat → Int32) × (Nat → Int32)) := f_X1_fade_2 c_p_fishes c_p_kind k2 s.1 s.2.1 s.2.2
set_option maxRecDepth 100000 in
set_option maxHeartbeats 4000000 in
theorem t_X1_fade_2 {G : Cx} (h : Am G yX1_fade cX1_fade 2 none rX1_fade) {a_m a_p : Nat → Nat} {c_m_place : Nat → Int32} {c_m_onDuty : Int32} {c_m_clock : Int32} {c_p_bowls : Int32} {c_p_fishes : Int32} {c_p_lips : Int32} {c_p_hours : Nat → Int32} {c_p_start : Nat → Int32} {c_p_first : Nat → Int32} {c_p_kind : Nat → Int32} {c_p_post : Nat → Int32} {c_p_error : Nat → Int32} {r : (Nat → Int32) × (Nat → Int32)} (he : En G rX1_fade none (fun _ => wMoment (g_K G).2.1 (g_K G).2.2.1 a_m (a_p 0) c_m_place r.1 r.2 c_m_onDuty c_m_clock ++ wPlan (g_K G).2.1 (g_K G).2.2.1 a_p c_p_bowls c_p_fishes c_p_lips c_p_hours c_p_start c_p_first c_p_kind c_p_post c_p_error)) (n : Nat) (s : Int32 × (Nat → Int32) × (Nat → Int32)) (hf : loopN (g_X1_fade_2 c_p_fishes c_p_kind) n s = some r) : AB G 0 0 (wMoment (g_K G).2.1 (g_K G).2.2.1 a_m (a_p 0) c_m_place s.2.1 s.2.2 c_m_onDuty c_m_clock ++ wPlan (g_K G).2.1 (g_K G).2.2.1 a_p c_p_bowls c_p_fishes c_p_lips c_p_hours c_p_start c_p_first c_p_kind c_p_post c_p_error) [(0, .ref (a_m 0)), (1, .int s.1)] 2 [] := by
  refine loopN_all (fun s => AB G 0 0 (wMoment (g_K G).2.1 (g_K G).2.2.1 a_m (a_p 0) c_m_place s.2.1 s.2.2 c_m_onDuty c_m_clock ++ wPlan (g_K G).2.1 (g_K G).2.2.1 a_p c_p_bowls c_p_fishes c_p_lips c_p_hours c_p_start c_p_first c_p_kind c_p_post c_p_error) [(0, .ref (a_m 0)), (1, .int s.1)] 2 []) (fun k2 hk2 s hf => ?_) n s hf
  obtain ⟨x1, c_m_known, c_m_left⟩ := s
  change f_X1_fade_2 c_p_fishes c_p_kind k2 x1 c_m_known c_m_left = some r at hf
  unfold f_X1_fade_2 at hf
  show AB G 0 0 (wMoment (g_K G).2.1 (g_K G).2.2.1 a_m (a_p 0) c_m_place c_m_known c_m_left c_m_onDuty c_m_clock ++ wPlan (g_K G).2.1 (g_K G).2.2.1 a_p c_p_bowls c_p_fishes c_p_lips c_p_hours c_p_start c_p_first c_p_kind c_p_post c_p_error) [(0, .ref (a_m 0)), (1, .int x1)] 2 []
  refine ab_iload_n h 1 rfl rfl dX1_fade_2 ?_
  refine ab_aload_n h 0 rfl rfl dX1_fade_3 ?_
  refine ab_get h in_X1 0 rfl rfl 0 (by decide) fl_X1_21 rfl dX1_fade_4 ?_
  refine ab_get h in_X3 4 rfl rfl 1 (by decide) fl_X1_25 rfl dX1_fade_7 ?_
  refine ab_icmp_ge (tgt := 67) h dX1_fade_10 (by decide) (fun hf => ?_) (fun hf => ?_) hf
  · obtain rfl := Option.some.inj hf
    exact ab_vret h he [] rfl rfl rfl rfl rfl dX1_fade_67
  · refine ab_aload_n h 0 rfl rfl dX1_fade_13 ?_
    refine ab_get h in_X1 0 rfl rfl 2 (by decide) fl_X1_15 rfl dX1_fade_14 ?_
    refine ab_iload_n h 1 rfl rfl dX1_fade_17 ?_
    refine ab_iald h 2 rfl dX1_fade_18 (fun v6 hf => ?_) hf
    refine ab_bipush (v := (-9)) h dX1_fade_19 (by decide) ?_
    refine ab_icmp_eq (tgt := 61) h dX1_fade_21 (by decide) (fun hf => ?_) (fun hf => ?_) hf
    · exact t_X1_fade_61 h he k2 hk2 hf
    · refine ab_aload_n h 0 rfl rfl dX1_fade_24 ?_
      refine ab_get h in_X1 0 rfl rfl 0 (by decide) fl_X1_21 rfl dX1_fade_25 ?_
      refine ab_get h in_X3 4 rfl rfl 6 (by decide) fl_X1_59 rfl dX1_fade_28 ?_
      refine ab_iload_n h 1 rfl rfl dX1_fade_31 ?_
      refine ab_iald h 8 rfl dX1_fade_32 (fun v7 hf => ?_) hf
      refine ab_iconst (v := 1) h dX1_fade_33 (by decide) ?_
      refine ab_icmp_eq (tgt := 61) h dX1_fade_34 (by decide) (fun hf => ?_) (fun hf => ?_) hf
      · exact t_X1_fade_61 h he k2 hk2 hf
      · refine ab_aload_n h 0 rfl rfl dX1_fade_37 ?_
        refine ab_get h in_X1 0 rfl rfl 3 (by decide) fl_X1_18 rfl dX1_fade_38 ?_
        refine ab_iload_n h 1 rfl rfl dX1_fade_41 ?_
        refine ab_dup2 h dX1_fade_42 rfl rfl ?_
        refine ab_iald h 3 rfl dX1_fade_43 (fun v8 hf => ?_) hf
        refine ab_iconst (v := 1) h dX1_fade_44 (by decide) ?_
        refine ab_isub h dX1_fade_45 ?_
        refine ab_iast h 3 (wMoment (g_K G).2.1 (g_K G).2.2.1 a_m (a_p 0) c_m_place c_m_known (upd c_m_left (Int32.toNatClampNeg x1) (v8 - 1)) c_m_onDuty c_m_clock ++ wPlan (g_K G).2.1 (g_K G).2.2.1 a_p c_p_bowls c_p_fishes c_p_lips c_p_hours c_p_start c_p_first c_p_kind c_p_post c_p_error) rfl rfl dX1_fade_46 (fun hf => ?_) hf
        refine ab_aload_n h 0 rfl rfl dX1_fade_47 ?_
        refine ab_get h in_X1 0 rfl rfl 3 (by decide) fl_X1_18 rfl dX1_fade_48 ?_
        refine ab_iload_n h 1 rfl rfl dX1_fade_51 ?_
        refine ab_iald h 3 rfl dX1_fade_52 (fun v9 hf => ?_) hf
        refine ab_if_gt (tgt := 61) h dX1_fade_53 (by decide) (fun hf => ?_) (fun hf => ?_) hf
        · exact t_X1_fade_61 h he k2 hk2 hf
        · refine ab_aload_n h 0 rfl rfl dX1_fade_56 ?_
          refine ab_iload_n h 1 rfl rfl dX1_fade_57 ?_
          obtain ⟨w10, hw10, hf⟩ := bind_inv hf
          refine ab_call0 h (run_V (As := [.int x1]) (st := []) h (c_X1_forget (g_l G) (g_K G) a_m a_p c_m_place c_m_known (upd c_m_left (Int32.toNatClampNeg x1) (v8 - 1)) c_m_onDuty c_m_clock c_p_bowls c_p_fishes c_p_lips c_p_hours c_p_start c_p_first c_p_kind c_p_post c_p_error x1 w10 hw10) ok_X1_forget 0 rfl rfl ml_X1_92 ⟨⟨Nat.le_of_ble_eq_true rfl, Nat.le_of_ble_eq_true rfl⟩, ⟨Nat.le_of_ble_eq_true rfl, Nat.le_of_ble_eq_true rfl⟩, Nat.le_of_ble_eq_true rfl⟩ dX1_fade_58 rfl) (wMoment (g_K G).2.1 (g_K G).2.2.1 a_m (a_p 0) c_m_place w10.1 w10.2 c_m_onDuty c_m_clock ++ wPlan (g_K G).2.1 (g_K G).2.2.1 a_p c_p_bowls c_p_fishes c_p_lips c_p_hours c_p_start c_p_first c_p_kind c_p_post c_p_error) (fun _ => rfl) [] rfl rfl rfl ?_
          exact t_X1_fade_61 h he k2 hk2 hf
def f_X1_fade (c_m_known : Nat → Int32) (c_m_left : Nat → Int32) (c_p_fishes : Int32) (c_p_kind : Nat → Int32) : Option ((Nat → Int32) × (Nat → Int32)) := loopN (g_X1_fade_2 c_p_fishes c_p_kind) 100 (0, c_m_known, c_m_left)
set_option maxRecDepth 100000 in
set_option maxHeartbeats 4000000 in
theorem t_X1_fade_0 {G : Cx} (h : Am G yX1_fade cX1_fade 2 none rX1_fade) {a_m a_p : Nat → Nat} {c_m_place : Nat → Int32} {c_m_known : Nat → Int32} {c_m_left : Nat → Int32} {c_m_onDuty : Int32} {c_m_clock : Int32} {c_p_bowls : Int32} {c_p_fishes : Int32} {c_p_lips : Int32} {c_p_hours : Nat → Int32} {c_p_start : Nat → Int32} {c_p_first : Nat → Int32} {c_p_kind : Nat → Int32} {c_p_post : Nat → Int32} {c_p_error : Nat → Int32} {r : (Nat → Int32) × (Nat → Int32)} (he : En G rX1_fade none (fun _ => wMoment (g_K G).2.1 (g_K G).2.2.1 a_m (a_p 0) c_m_place r.1 r.2 c_m_onDuty c_m_clock ++ wPlan (g_K G).2.1 (g_K G).2.2.1 a_p c_p_bowls c_p_fishes c_p_lips c_p_hours c_p_start c_p_first c_p_kind c_p_post c_p_error)) (hf : f_X1_fade c_m_known c_m_left c_p_fishes c_p_kind = some r) : AB G 0 0 (wMoment (g_K G).2.1 (g_K G).2.2.1 a_m (a_p 0) c_m_place c_m_known c_m_left c_m_onDuty c_m_clock ++ wPlan (g_K G).2.1 (g_K G).2.2.1 a_p c_p_bowls c_p_fishes c_p_lips c_p_hours c_p_start c_p_first c_p_kind c_p_post c_p_error) [(0, .ref (a_m 0))] 0 [] := by
  unfold f_X1_fade at hf
  refine ab_iconst (v := 0) h dX1_fade_0 (by decide) ?_
  refine ab_istore_n h [1, 0] [(0, .ref (a_m 0)), (1, .int 0)] rfl (by decide) rfl dX1_fade_1 ?_
  exact t_X1_fade_2 h he 100 (0, c_m_known, c_m_left) hf
theorem c_X1_fade (l : Launch) (K : Kx) (a_m a_p : Nat → Nat) (c_m_place : Nat → Int32) (c_m_known : Nat → Int32) (c_m_left : Nat → Int32) (c_m_onDuty : Int32) (c_m_clock : Int32) (c_p_bowls : Int32) (c_p_fishes : Int32) (c_p_lips : Int32) (c_p_hours : Nat → Int32) (c_p_start : Nat → Int32) (c_p_first : Nat → Int32) (c_p_kind : Nat → Int32) (c_p_post : Nat → Int32) (c_p_error : Nat → Int32) (r : (Nat → Int32) × (Nat → Int32)) (hf : f_X1_fade c_m_known c_m_left c_p_fishes c_p_kind = some r) : Ct l yX1_fade cX1_fade 2 none rX1_fade K [.ref (a_m 0)] (wMoment K.2.1 K.2.2.1 a_m (a_p 0) c_m_place c_m_known c_m_left c_m_onDuty c_m_clock ++ wPlan K.2.1 K.2.2.1 a_p c_p_bowls c_p_fishes c_p_lips c_p_hours c_p_start c_p_first c_p_kind c_p_post c_p_error) none (fun _ => wMoment K.2.1 K.2.2.1 a_m (a_p 0) c_m_place r.1 r.2 c_m_onDuty c_m_clock ++ wPlan K.2.1 K.2.2.1 a_p c_p_bowls c_p_fishes c_p_lips c_p_hours c_p_start c_p_first c_p_kind c_p_post c_p_error) := by
  refine Ct.of (by decide +kernel) (Nat.le_of_ble_eq_true rfl) ?_
  intro G hl hK h he
  subst hl
  subst hK
  exact t_X1_fade_0 h he hf

-- BowlState$Moment.goRound
abbrev rX1_goRound : Room := { frames := 2, cells := 0, slots := 0, locals := 43 }
def f_X1_goRound_79 (k8 : (Int32 × (Nat → Int32) × (Nat → Int32)) → Option ((Nat → Int32) × (Nat → Int32))) (c_m_known : Nat → Int32) (c_m_left : Nat → Int32) (x3 : Int32) : Option ((Nat → Int32) × (Nat → Int32)) := k8 (x3 + 1, c_m_known, c_m_left)
set_option maxRecDepth 100000 in
set_option maxHeartbeats 4000000 in
theorem t_X1_goRound_79 {G : Cx} (h : Am G yX1_goRound cX1_goRound 4 none rX1_goRound) {a_m a_p : Nat → Nat} {c_m_place : Nat → Int32} {c_m_known : Nat → Int32} {c_m_left : Nat → Int32} {c_m_onDuty : Int32} {c_m_clock : Int32} {c_p_bowls : Int32} {c_p_fishes : Int32} {c_p_lips : Int32} {c_p_hours : Nat → Int32} {c_p_start : Nat → Int32} {c_p_first : Nat → Int32} {c_p_kind : Nat → Int32} {c_p_post : Nat → Int32} {c_p_error : Nat → Int32} {r : (Nat → Int32) × (Nat → Int32)} (he : En G rX1_goRound none (fun _ => wMoment (g_K G).2.1 (g_K G).2.2.1 a_m (a_p 0) c_m_place r.1 r.2 c_m_onDuty c_m_clock ++ wPlan (g_K G).2.1 (g_K G).2.2.1 a_p c_p_bowls c_p_fishes c_p_lips c_p_hours c_p_start c_p_first c_p_kind c_p_post c_p_error)) {x1 : Int32} {x2 : Int32} {x3 : Int32} (k8 : (Int32 × (Nat → Int32) × (Nat → Int32)) → Option ((Nat → Int32) × (Nat → Int32))) (hk8 : ∀ s : Int32 × (Nat → Int32) × (Nat → Int32), k8 s = some r → AB G 0 0 (wMoment (g_K G).2.1 (g_K G).2.2.1 a_m (a_p 0) c_m_place s.2.1 s.2.2 c_m_onDuty c_m_clock ++ wPlan (g_K G).2.1 (g_K G).2.2.1 a_p c_p_bowls c_p_fishes c_p_lips c_p_hours c_p_start c_p_first c_p_kind c_p_post c_p_error) [(0, .ref (a_m 0)), (1, .int x1), (2, .int x2), (3, .int s.1)] 8 []) (hf : f_X1_goRound_79 k8 c_m_known c_m_left x3 = some r) : AB G 0 0 (wMoment (g_K G).2.1 (g_K G).2.2.1 a_m (a_p 0) c_m_place c_m_known c_m_left c_m_onDuty c_m_clock ++ wPlan (g_K G).2.1 (g_K G).2.2.1 a_p c_p_bowls c_p_fishes c_p_lips c_p_hours c_p_start c_p_first c_p_kind c_p_post c_p_error) [(0, .ref (a_m 0)), (1, .int x1), (2, .int x2), (3, .int x3)] 79 [] := by
  unfold f_X1_goRound_79 at hf
  refine ab_iinc (v := x3 + 1) h 3 [1, 2, 3, 0] [(0, .ref (a_m 0)), (1, .int x1), (2, .int x2), (3, .int (x3 + 1))] rfl rfl (by decide) rfl dX1_goRound_79 ?_
  refine ab_goto (tgt := 8) h dX1_goRound_82 (by decide) ?_
  exact hk8 (x3 + 1, c_m_known, c_m_left) hf
def f_X1_goRound_68 (k8 : (Int32 × (Nat → Int32) × (Nat → Int32)) → Option ((Nat → Int32) × (Nat → Int32))) (c_m_place : Nat → Int32) (c_m_known : Nat → Int32) (c_m_left : Nat → Int32) (c_p_hours : Nat → Int32) (c_p_kind : Nat → Int32) (x3 : Int32) : Option ((Nat → Int32) × (Nat → Int32)) := (f_X1_lasts c_m_place c_p_hours c_p_kind x3).bind (fun w7 => ix 5 x3 (f_X1_goRound_79 k8 c_m_known (upd c_m_left (Int32.toNatClampNeg x3) w7) x3))
set_option maxRecDepth 100000 in
set_option maxHeartbeats 4000000 in
theorem t_X1_goRound_68 {G : Cx} (h : Am G yX1_goRound cX1_goRound 4 none rX1_goRound) {a_m a_p : Nat → Nat} {c_m_place : Nat → Int32} {c_m_known : Nat → Int32} {c_m_left : Nat → Int32} {c_m_onDuty : Int32} {c_m_clock : Int32} {c_p_bowls : Int32} {c_p_fishes : Int32} {c_p_lips : Int32} {c_p_hours : Nat → Int32} {c_p_start : Nat → Int32} {c_p_first : Nat → Int32} {c_p_kind : Nat → Int32} {c_p_post : Nat → Int32} {c_p_error : Nat → Int32} {r : (Nat → Int32) × (Nat → Int32)} (he : En G rX1_goRound none (fun _ => wMoment (g_K G).2.1 (g_K G).2.2.1 a_m (a_p 0) c_m_place r.1 r.2 c_m_onDuty c_m_clock ++ wPlan (g_K G).2.1 (g_K G).2.2.1 a_p c_p_bowls c_p_fishes c_p_lips c_p_hours c_p_start c_p_first c_p_kind c_p_post c_p_error)) {x1 : Int32} {x2 : Int32} {x3 : Int32} (k8 : (Int32 × (Nat → Int32) × (Nat → Int32)) → Option ((Nat → Int32) × (Nat → Int32))) (hk8 : ∀ s : Int32 × (Nat → Int32) × (Nat → Int32), k8 s = some r → AB G 0 0 (wMoment (g_K G).2.1 (g_K G).2.2.1 a_m (a_p 0) c_m_place s.2.1 s.2.2 c_m_onDuty c_m_clock ++ wPlan (g_K G).2.1 (g_K G).2.2.1 a_p c_p_bowls c_p_fishes c_p_lips c_p_hours c_p_start c_p_first c_p_kind c_p_post c_p_error) [(0, .ref (a_m 0)), (1, .int x1), (2, .int x2), (3, .int s.1)] 8 []) (hf : f_X1_goRound_68 k8 c_m_place c_m_known c_m_left c_p_hours c_p_kind x3 = some r) : AB G 0 0 (wMoment (g_K G).2.1 (g_K G).2.2.1 a_m (a_p 0) c_m_place c_m_known c_m_left c_m_onDuty c_m_clock ++ wPlan (g_K G).2.1 (g_K G).2.2.1 a_p c_p_bowls c_p_fishes c_p_lips c_p_hours c_p_start c_p_first c_p_kind c_p_post c_p_error) [(0, .ref (a_m 0)), (1, .int x1), (2, .int x2), (3, .int x3)] 68 [] := by
  unfold f_X1_goRound_68 at hf
  refine ab_aload_n h 0 rfl rfl dX1_goRound_68 ?_
  refine ab_get h in_X1 0 rfl rfl 3 (by decide) fl_X1_18 rfl dX1_goRound_69 ?_
  refine ab_iload_n h 3 rfl rfl dX1_goRound_72 ?_
  refine ab_aload_n h 0 rfl rfl dX1_goRound_73 ?_
  refine ab_iload_n h 3 rfl rfl dX1_goRound_74 ?_
  obtain ⟨w7, hw7, hf⟩ := bind_inv hf
  refine ab_call0 h (run_V (As := [.int x3]) (st := [.int x3, .ref (a_m 3)]) h (c_X1_lasts (g_l G) (g_K G) a_m a_p c_m_place c_m_known c_m_left c_m_onDuty c_m_clock c_p_bowls c_p_fishes c_p_lips c_p_hours c_p_start c_p_first c_p_kind c_p_post c_p_error x3 w7 hw7) ok_X1_lasts 0 rfl rfl ml_X1_86 ⟨⟨Nat.le_of_ble_eq_true rfl, Nat.le_of_ble_eq_true rfl⟩, ⟨Nat.le_of_ble_eq_true rfl, Nat.le_of_ble_eq_true rfl⟩, Nat.le_of_ble_eq_true rfl⟩ dX1_goRound_75 rfl) (wMoment (g_K G).2.1 (g_K G).2.2.1 a_m (a_p 0) c_m_place c_m_known c_m_left c_m_onDuty c_m_clock ++ wPlan (g_K G).2.1 (g_K G).2.2.1 a_p c_p_bowls c_p_fishes c_p_lips c_p_hours c_p_start c_p_first c_p_kind c_p_post c_p_error) (fun _ => rfl) [.int w7, .int x3, .ref (a_m 3)] rfl rfl rfl ?_
  refine ab_iast h 3 (wMoment (g_K G).2.1 (g_K G).2.2.1 a_m (a_p 0) c_m_place c_m_known (upd c_m_left (Int32.toNatClampNeg x3) w7) c_m_onDuty c_m_clock ++ wPlan (g_K G).2.1 (g_K G).2.2.1 a_p c_p_bowls c_p_fishes c_p_lips c_p_hours c_p_start c_p_first c_p_kind c_p_post c_p_error) rfl rfl dX1_goRound_78 (fun hf => ?_) hf
  exact t_X1_goRound_79 h he k8 hk8 hf
def f_X1_goRound_8 (c_m_place : Nat → Int32) (c_p_fishes : Int32) (c_p_hours : Nat → Int32) (c_p_first : Nat → Int32) (c_p_kind : Nat → Int32) (c_p_error : Nat → Int32) (x1 : Int32) (x2 : Int32) (k8 : (Int32 × (Nat → Int32) × (Nat → Int32)) → Option ((Nat → Int32) × (Nat → Int32))) (x3 : Int32) (c_m_known : Nat → Int32) (c_m_left : Nat → Int32) : Option ((Nat → Int32) × (Nat → Int32)) := if c_p_fishes ≤ x3 then (some (c_m_known, c_m_left)) else (rd 5 c_m_place x3 (fun v8 => if v8 = x2 then (rd 5 c_m_known x3 (fun v9 => if v9 = ((-9)) then (rd 5 c_p_first x3 (fun v10 => rd 4 c_p_error x1 (fun v11 => nz 10 (ix 5 x3 (f_X1_goRound_68 k8 c_m_place (upd c_m_known (Int32.toNatClampNeg x3) (jrem (v10 + v11) 10)) c_m_left c_p_hours c_p_kind x3))))) else (f_X1_goRound_68 k8 c_m_place c_m_known c_m_left c_p_hours c_p_kind x3))) else (f_X1_goRound_79 k8 c_m_known c_m_left x3)))
def g_X1_goRound_8 (c_m_place : Nat → Int32) (c_p_fishes : Int32) (c_p_hours : Nat → Int32) (c_p_first : Nat → Int32) (c_p_kind : Nat → Int32) (c_p_error : Nat → Int32) (x1 : Int32) (x2 : Int32) (k8 : (Int32 × (Nat → Int32) × (Nat → Int32)) → Option ((Nat → Int32) × (Nat → Int32))) (s : Int32 × (Nat → Int32) × (Nat → Int32)) : Option ((Nat → Int32) × (Nat → Int32)) := f_X1_goRound_8 c_m_place c_p_fishes c_p_hours c_p_first c_p_kind c_p_error x1 x2 k8 s.1 s.2.1 s.2.2
set_option maxRecDepth 100000 in
set_option maxHeartbeats 4000000 in
theorem t_X1_goRound_8 {G : Cx} (h : Am G yX1_goRound cX1_goRound 4 none rX1_goRound) {a_m a_p : Nat → Nat} {c_m_place : Nat → Int32} {c_m_onDuty : Int32} {c_m_clock : Int32} {c_p_bowls : Int32} {c_p_fishes : Int32} {c_p_lips : Int32} {c_p_hours : Nat → Int32} {c_p_start : Nat → Int32} {c_p_first : Nat → Int32} {c_p_kind : Nat → Int32} {c_p_post : Nat → Int32} {c_p_error : Nat → Int32} {r : (Nat → Int32) × (Nat → Int32)} (he : En G rX1_goRound none (fun _ => wMoment (g_K G).2.1 (g_K G).2.2.1 a_m (a_p 0) c_m_place r.1 r.2 c_m_onDuty c_m_clock ++ wPlan (g_K G).2.1 (g_K G).2.2.1 a_p c_p_bowls c_p_fishes c_p_lips c_p_hours c_p_start c_p_first c_p_kind c_p_post c_p_error)) {x1 : Int32} {x2 : Int32} (n : Nat) (s : Int32 × (Nat → Int32) × (Nat → Int32)) (hf : loopN (g_X1_goRound_8 c_m_place c_p_fishes c_p_hours c_p_first c_p_kind c_p_error x1 x2) n s = some r) : AB G 0 0 (wMoment (g_K G).2.1 (g_K G).2.2.1 a_m (a_p 0) c_m_place s.2.1 s.2.2 c_m_onDuty c_m_clock ++ wPlan (g_K G).2.1 (g_K G).2.2.1 a_p c_p_bowls c_p_fishes c_p_lips c_p_hours c_p_start c_p_first c_p_kind c_p_post c_p_error) [(0, .ref (a_m 0)), (1, .int x1), (2, .int x2), (3, .int s.1)] 8 [] := by
  refine loopN_all (fun s => AB G 0 0 (wMoment (g_K G).2.1 (g_K G).2.2.1 a_m (a_p 0) c_m_place s.2.1 s.2.2 c_m_onDuty c_m_clock ++ wPlan (g_K G).2.1 (g_K G).2.2.1 a_p c_p_bowls c_p_fishes c_p_lips c_p_hours c_p_start c_p_first c_p_kind c_p_post c_p_error) [(0, .ref (a_m 0)), (1, .int x1), (2, .int x2), (3, .int s.1)] 8 []) (fun k8 hk8 s hf => ?_) n s hf
  obtain ⟨x3, c_m_known, c_m_left⟩ := s
  change f_X1_goRound_8 c_m_place c_p_fishes c_p_hours c_p_first c_p_kind c_p_error x1 x2 k8 x3 c_m_known c_m_left = some r at hf
  unfold f_X1_goRound_8 at hf
  show AB G 0 0 (wMoment (g_K G).2.1 (g_K G).2.2.1 a_m (a_p 0) c_m_place c_m_known c_m_left c_m_onDuty c_m_clock ++ wPlan (g_K G).2.1 (g_K G).2.2.1 a_p c_p_bowls c_p_fishes c_p_lips c_p_hours c_p_start c_p_first c_p_kind c_p_post c_p_error) [(0, .ref (a_m 0)), (1, .int x1), (2, .int x2), (3, .int x3)] 8 []
  refine ab_iload_n h 3 rfl rfl dX1_goRound_8 ?_
  refine ab_aload_n h 0 rfl rfl dX1_goRound_9 ?_
  refine ab_get h in_X1 0 rfl rfl 0 (by decide) fl_X1_21 rfl dX1_goRound_10 ?_
  refine ab_get h in_X3 4 rfl rfl 1 (by decide) fl_X1_25 rfl dX1_goRound_13 ?_
  refine ab_icmp_ge (tgt := 85) h dX1_goRound_16 (by decide) (fun hf => ?_) (fun hf => ?_) hf
  · obtain rfl := Option.some.inj hf
    exact ab_vret h he [] rfl rfl rfl rfl rfl dX1_goRound_85
  · refine ab_aload_n h 0 rfl rfl dX1_goRound_19 ?_
    refine ab_get h in_X1 0 rfl rfl 1 (by decide) fl_X1_9 rfl dX1_goRound_20 ?_
    refine ab_iload_n h 3 rfl rfl dX1_goRound_23 ?_
    refine ab_iald h 1 rfl dX1_goRound_24 (fun v8 hf => ?_) hf
    refine ab_iload_n h 2 rfl rfl dX1_goRound_25 ?_
    refine ab_icmp_ne (tgt := 79) h dX1_goRound_26 (by decide) (fun hf => ?_) (fun hf => ?_) hf
    · exact t_X1_goRound_79 h he k8 hk8 hf
    · refine ab_aload_n h 0 rfl rfl dX1_goRound_29 ?_
      refine ab_get h in_X1 0 rfl rfl 2 (by decide) fl_X1_15 rfl dX1_goRound_30 ?_
      refine ab_iload_n h 3 rfl rfl dX1_goRound_33 ?_
      refine ab_iald h 2 rfl dX1_goRound_34 (fun v9 hf => ?_) hf
      refine ab_bipush (v := (-9)) h dX1_goRound_35 (by decide) ?_
      refine ab_icmp_ne (tgt := 68) h dX1_goRound_37 (by decide) (fun hf => ?_) (fun hf => ?_) hf
      · exact t_X1_goRound_68 h he k8 hk8 hf
      · refine ab_aload_n h 0 rfl rfl dX1_goRound_40 ?_
        refine ab_get h in_X1 0 rfl rfl 2 (by decide) fl_X1_15 rfl dX1_goRound_41 ?_
        refine ab_iload_n h 3 rfl rfl dX1_goRound_44 ?_
        refine ab_aload_n h 0 rfl rfl dX1_goRound_45 ?_
        refine ab_get h in_X1 0 rfl rfl 0 (by decide) fl_X1_21 rfl dX1_goRound_46 ?_
        refine ab_get h in_X3 4 rfl rfl 5 (by decide) fl_X1_34 rfl dX1_goRound_49 ?_
        refine ab_iload_n h 3 rfl rfl dX1_goRound_52 ?_
        refine ab_iald h 7 rfl dX1_goRound_53 (fun v10 hf => ?_) hf
        refine ab_aload_n h 0 rfl rfl dX1_goRound_54 ?_
        refine ab_get h in_X1 0 rfl rfl 0 (by decide) fl_X1_21 rfl dX1_goRound_55 ?_
        refine ab_get h in_X3 4 rfl rfl 8 (by decide) fl_X1_109 rfl dX1_goRound_58 ?_
        refine ab_iload_n h 1 rfl rfl dX1_goRound_61 ?_
        refine ab_iald h 10 rfl dX1_goRound_62 (fun v11 hf => ?_) hf
        refine ab_iadd h dX1_goRound_63 ?_
        refine ab_bipush (v := 10) h dX1_goRound_64 (by decide) ?_
        refine ab_irem h dX1_goRound_66 (fun hf => ?_) hf
        refine ab_iast h 2 (wMoment (g_K G).2.1 (g_K G).2.2.1 a_m (a_p 0) c_m_place (upd c_m_known (Int32.toNatClampNeg x3) (jrem (v10 + v11) 10)) c_m_left c_m_onDuty c_m_clock ++ wPlan (g_K G).2.1 (g_K G).2.2.1 a_p c_p_bowls c_p_fishes c_p_lips c_p_hours c_p_start c_p_first c_p_kind c_p_post c_p_error) rfl rfl dX1_goRound_67 (fun hf => ?_) hf
        exact t_X1_goRound_68 h he k8 hk8 hf
def f_X1_goRound (c_m_place : Nat → Int32) (c_m_known : Nat → Int32) (c_m_left : Nat → Int32) (c_m_clock : Int32) (c_p_bowls : Int32) (c_p_fishes : Int32) (c_p_hours : Nat → Int32) (c_p_first : Nat → Int32) (c_p_kind : Nat → Int32) (c_p_post : Nat → Int32) (c_p_error : Nat → Int32) (x1 : Int32) : Option ((Nat → Int32) × (Nat → Int32)) := (f_X1_roundOf c_m_clock c_p_bowls c_p_post x1).bind (fun w12 => loopN (g_X1_goRound_8 c_m_place c_p_fishes c_p_hours c_p_first c_p_kind c_p_error x1 w12) 100 (0, c_m_known, c_m_left))
set_option maxRecDepth 100000 in
set_option maxHeartbeats 4000000 in
theorem t_X1_goRound_0 {G : Cx} (h : Am G yX1_goRound cX1_goRound 4 none rX1_goRound) {a_m a_p : Nat → Nat} {c_m_place : Nat → Int32} {c_m_known : Nat → Int32} {c_m_left : Nat → Int32} {c_m_onDuty : Int32} {c_m_clock : Int32} {c_p_bowls : Int32} {c_p_fishes : Int32} {c_p_lips : Int32} {c_p_hours : Nat → Int32} {c_p_start : Nat → Int32} {c_p_first : Nat → Int32} {c_p_kind : Nat → Int32} {c_p_post : Nat → Int32} {c_p_error : Nat → Int32} {r : (Nat → Int32) × (Nat → Int32)} (he : En G rX1_goRound none (fun _ => wMoment (g_K G).2.1 (g_K G).2.2.1 a_m (a_p 0) c_m_place r.1 r.2 c_m_onDuty c_m_clock ++ wPlan (g_K G).2.1 (g_K G).2.2.1 a_p c_p_bowls c_p_fishes c_p_lips c_p_hours c_p_start c_p_first c_p_kind c_p_post c_p_error)) {x1 : Int32} (hf : f_X1_goRound c_m_place c_m_known c_m_left c_m_clock c_p_bowls c_p_fishes c_p_hours c_p_first c_p_kind c_p_post c_p_error x1 = some r) : AB G 0 0 (wMoment (g_K G).2.1 (g_K G).2.2.1 a_m (a_p 0) c_m_place c_m_known c_m_left c_m_onDuty c_m_clock ++ wPlan (g_K G).2.1 (g_K G).2.2.1 a_p c_p_bowls c_p_fishes c_p_lips c_p_hours c_p_start c_p_first c_p_kind c_p_post c_p_error) [(0, .ref (a_m 0)), (1, .int x1)] 0 [] := by
  unfold f_X1_goRound at hf
  refine ab_aload_n h 0 rfl rfl dX1_goRound_0 ?_
  refine ab_iload_n h 1 rfl rfl dX1_goRound_1 ?_
  obtain ⟨w12, hw12, hf⟩ := bind_inv hf
  refine ab_call0 h (run_V (As := [.int x1]) (st := []) h (c_X1_roundOf (g_l G) (g_K G) a_m a_p c_m_place c_m_known c_m_left c_m_onDuty c_m_clock c_p_bowls c_p_fishes c_p_lips c_p_hours c_p_start c_p_first c_p_kind c_p_post c_p_error x1 w12 hw12) ok_X1_roundOf 0 rfl rfl ml_X1_62 ⟨⟨Nat.le_of_ble_eq_true rfl, Nat.le_of_ble_eq_true rfl⟩, ⟨Nat.le_of_ble_eq_true rfl, Nat.le_of_ble_eq_true rfl⟩, Nat.le_of_ble_eq_true rfl⟩ dX1_goRound_2 rfl) (wMoment (g_K G).2.1 (g_K G).2.2.1 a_m (a_p 0) c_m_place c_m_known c_m_left c_m_onDuty c_m_clock ++ wPlan (g_K G).2.1 (g_K G).2.2.1 a_p c_p_bowls c_p_fishes c_p_lips c_p_hours c_p_start c_p_first c_p_kind c_p_post c_p_error) (fun _ => rfl) [.int w12] rfl rfl rfl ?_
  refine ab_istore_n h [1, 2, 0] [(0, .ref (a_m 0)), (1, .int x1), (2, .int w12)] rfl (by decide) rfl dX1_goRound_5 ?_
  refine ab_iconst (v := 0) h dX1_goRound_6 (by decide) ?_
  refine ab_istore_n h [1, 2, 3, 0] [(0, .ref (a_m 0)), (1, .int x1), (2, .int w12), (3, .int 0)] rfl (by decide) rfl dX1_goRound_7 ?_
  exact t_X1_goRound_8 h he 100 (0, c_m_known, c_m_left) hf
theorem c_X1_goRound (l : Launch) (K : Kx) (a_m a_p : Nat → Nat) (c_m_place : Nat → Int32) (c_m_known : Nat → Int32) (c_m_left : Nat → Int32) (c_m_onDuty : Int32) (c_m_clock : Int32) (c_p_bowls : Int32) (c_p_fishes : Int32) (c_p_lips : Int32) (c_p_hours : Nat → Int32) (c_p_start : Nat → Int32) (c_p_first : Nat → Int32) (c_p_kind : Nat → Int32) (c_p_post : Nat → Int32) (c_p_error : Nat → Int32) (x1 : Int32) (r : (Nat → Int32) × (Nat → Int32)) (hf : f_X1_goRound c_m_place c_m_known c_m_left c_m_clock c_p_bowls c_p_fishes c_p_hours c_p_first c_p_kind c_p_post c_p_error x1 = some r) : Ct l yX1_goRound cX1_goRound 4 none rX1_goRound K [.ref (a_m 0), .int x1] (wMoment K.2.1 K.2.2.1 a_m (a_p 0) c_m_place c_m_known c_m_left c_m_onDuty c_m_clock ++ wPlan K.2.1 K.2.2.1 a_p c_p_bowls c_p_fishes c_p_lips c_p_hours c_p_start c_p_first c_p_kind c_p_post c_p_error) none (fun _ => wMoment K.2.1 K.2.2.1 a_m (a_p 0) c_m_place r.1 r.2 c_m_onDuty c_m_clock ++ wPlan K.2.1 K.2.2.1 a_p c_p_bowls c_p_fishes c_p_lips c_p_hours c_p_start c_p_first c_p_kind c_p_post c_p_error) := by
  refine Ct.of (by decide +kernel) (Nat.le_of_ble_eq_true rfl) ?_
  intro G hl hK h he
  subst hl
  subst hK
  exact t_X1_goRound_0 h he hf

-- BowlState$Moment.hearOthers
abbrev rX1_hearOthers : Room := { frames := 2, cells := 0, slots := 0, locals := 44 }
def f_X1_hearOthers_65 (k7 : (Int32 × Int32 × Int32) → Option ((Nat → Int32) × (Nat → Int32))) (x2 : Int32) (x3 : Int32) (x4 : Int32) : Option ((Nat → Int32) × (Nat → Int32)) := k7 (x2, x3, x4 + 1)
set_option maxRecDepth 100000 in
set_option maxHeartbeats 4000000 in
theorem t_X1_hearOthers_65 {G : Cx} (h : Am G yX1_hearOthers cX1_hearOthers 5 none rX1_hearOthers) {a_m a_p : Nat → Nat} {c_m_place : Nat → Int32} {c_m_known : Nat → Int32} {c_m_left : Nat → Int32} {c_m_onDuty : Int32} {c_m_clock : Int32} {c_p_bowls : Int32} {c_p_fishes : Int32} {c_p_lips : Int32} {c_p_hours : Nat → Int32} {c_p_start : Nat → Int32} {c_p_first : Nat → Int32} {c_p_kind : Nat → Int32} {c_p_post : Nat → Int32} {c_p_error : Nat → Int32} {r : (Nat → Int32) × (Nat → Int32)} (he : En G rX1_hearOthers none (fun _ => wMoment (g_K G).2.1 (g_K G).2.2.1 a_m (a_p 0) c_m_place r.1 r.2 c_m_onDuty c_m_clock ++ wPlan (g_K G).2.1 (g_K G).2.2.1 a_p c_p_bowls c_p_fishes c_p_lips c_p_hours c_p_start c_p_first c_p_kind c_p_post c_p_error)) {x1 : Int32} {x2 : Int32} {x3 : Int32} {x4 : Int32} (k7 : (Int32 × Int32 × Int32) → Option ((Nat → Int32) × (Nat → Int32))) (hk7 : ∀ s : Int32 × Int32 × Int32, k7 s = some r → AB G 0 0 (wMoment (g_K G).2.1 (g_K G).2.2.1 a_m (a_p 0) c_m_place c_m_known c_m_left c_m_onDuty c_m_clock ++ wPlan (g_K G).2.1 (g_K G).2.2.1 a_p c_p_bowls c_p_fishes c_p_lips c_p_hours c_p_start c_p_first c_p_kind c_p_post c_p_error) [(0, .ref (a_m 0)), (1, .int x1), (2, .int s.1), (3, .int s.2.1), (4, .int s.2.2)] 7 []) (hf : f_X1_hearOthers_65 k7 x2 x3 x4 = some r) : AB G 0 0 (wMoment (g_K G).2.1 (g_K G).2.2.1 a_m (a_p 0) c_m_place c_m_known c_m_left c_m_onDuty c_m_clock ++ wPlan (g_K G).2.1 (g_K G).2.2.1 a_p c_p_bowls c_p_fishes c_p_lips c_p_hours c_p_start c_p_first c_p_kind c_p_post c_p_error) [(0, .ref (a_m 0)), (1, .int x1), (2, .int x2), (3, .int x3), (4, .int x4)] 65 [] := by
  unfold f_X1_hearOthers_65 at hf
  refine ab_iinc (v := x4 + 1) h 4 [1, 2, 3, 4, 0] [(0, .ref (a_m 0)), (1, .int x1), (2, .int x2), (3, .int x3), (4, .int (x4 + 1))] rfl rfl (by decide) rfl dX1_hearOthers_65 ?_
  refine ab_goto (tgt := 7) h dX1_hearOthers_68 (by decide) ?_
  exact hk7 (x2, x3, x4 + 1) hf
def f_X1_hearOthers_71 (c_m_place : Nat → Int32) (c_m_known : Nat → Int32) (c_m_left : Nat → Int32) (c_p_hours : Nat → Int32) (c_p_kind : Nat → Int32) (x1 : Int32) (x2 : Int32) (x3 : Int32) : Option ((Nat → Int32) × (Nat → Int32)) := if x3 = 0 then (some (c_m_known, c_m_left)) else (nz 10 ((f_X1_learn c_m_place c_m_known c_m_left c_p_hours c_p_kind x1 (jrem x2 10)).bind (fun w6 => some (w6.1, w6.2))))
set_option maxRecDepth 100000 in
set_option maxHeartbeats 4000000 in
theorem t_X1_hearOthers_71 {G : Cx} (h : Am G yX1_hearOthers cX1_hearOthers 5 none rX1_hearOthers) {a_m a_p : Nat → Nat} {c_m_place : Nat → Int32} {c_m_known : Nat → Int32} {c_m_left : Nat → Int32} {c_m_onDuty : Int32} {c_m_clock : Int32} {c_p_bowls : Int32} {c_p_fishes : Int32} {c_p_lips : Int32} {c_p_hours : Nat → Int32} {c_p_start : Nat → Int32} {c_p_first : Nat → Int32} {c_p_kind : Nat → Int32} {c_p_post : Nat → Int32} {c_p_error : Nat → Int32} {r : (Nat → Int32) × (Nat → Int32)} (he : En G rX1_hearOthers none (fun _ => wMoment (g_K G).2.1 (g_K G).2.2.1 a_m (a_p 0) c_m_place r.1 r.2 c_m_onDuty c_m_clock ++ wPlan (g_K G).2.1 (g_K G).2.2.1 a_p c_p_bowls c_p_fishes c_p_lips c_p_hours c_p_start c_p_first c_p_kind c_p_post c_p_error)) {x1 : Int32} {x2 : Int32} {x3 : Int32} (hf : f_X1_hearOthers_71 c_m_place c_m_known c_m_left c_p_hours c_p_kind x1 x2 x3 = some r) : AB G 0 0 (wMoment (g_K G).2.1 (g_K G).2.2.1 a_m (a_p 0) c_m_place c_m_known c_m_left c_m_onDuty c_m_clock ++ wPlan (g_K G).2.1 (g_K G).2.2.1 a_p c_p_bowls c_p_fishes c_p_lips c_p_hours c_p_start c_p_first c_p_kind c_p_post c_p_error) [(0, .ref (a_m 0)), (1, .int x1), (2, .int x2), (3, .int x3)] 71 [] := by
  unfold f_X1_hearOthers_71 at hf
  refine ab_iload_n h 3 rfl rfl dX1_hearOthers_71 ?_
  refine ab_if_eq (tgt := 84) h dX1_hearOthers_72 (by decide) (fun hf => ?_) (fun hf => ?_) hf
  · obtain rfl := Option.some.inj hf
    exact ab_vret h he [] rfl rfl rfl rfl rfl dX1_hearOthers_84
  · refine ab_aload_n h 0 rfl rfl dX1_hearOthers_75 ?_
    refine ab_iload_n h 1 rfl rfl dX1_hearOthers_76 ?_
    refine ab_iload_n h 2 rfl rfl dX1_hearOthers_77 ?_
    refine ab_bipush (v := 10) h dX1_hearOthers_78 (by decide) ?_
    refine ab_irem h dX1_hearOthers_80 (fun hf => ?_) hf
    obtain ⟨w6, hw6, hf⟩ := bind_inv hf
    refine ab_call0 h (run_V (As := [.int x1, .int (jrem x2 10)]) (st := []) h (c_X1_learn (g_l G) (g_K G) a_m a_p c_m_place c_m_known c_m_left c_m_onDuty c_m_clock c_p_bowls c_p_fishes c_p_lips c_p_hours c_p_start c_p_first c_p_kind c_p_post c_p_error x1 (jrem x2 10) w6 hw6) ok_X1_learn 0 rfl rfl ml_X1_37 ⟨⟨Nat.le_of_ble_eq_true rfl, Nat.le_of_ble_eq_true rfl⟩, ⟨Nat.le_of_ble_eq_true rfl, Nat.le_of_ble_eq_true rfl⟩, Nat.le_of_ble_eq_true rfl⟩ dX1_hearOthers_81 rfl) (wMoment (g_K G).2.1 (g_K G).2.2.1 a_m (a_p 0) c_m_place w6.1 w6.2 c_m_onDuty c_m_clock ++ wPlan (g_K G).2.1 (g_K G).2.2.1 a_p c_p_bowls c_p_fishes c_p_lips c_p_hours c_p_start c_p_first c_p_kind c_p_post c_p_error) (fun _ => rfl) [] rfl rfl rfl ?_
    obtain rfl := Option.some.inj hf
    exact ab_vret h he [] rfl rfl rfl rfl rfl dX1_hearOthers_84
def f_X1_hearOthers_7 (c_m_place : Nat → Int32) (c_m_known : Nat → Int32) (c_m_left : Nat → Int32) (c_p_fishes : Int32) (c_p_hours : Nat → Int32) (c_p_kind : Nat → Int32) (x1 : Int32) (k7 : (Int32 × Int32 × Int32) → Option ((Nat → Int32) × (Nat → Int32))) (x2 : Int32) (x3 : Int32) (x4 : Int32) : Option ((Nat → Int32) × (Nat → Int32)) := if c_p_fishes ≤ x4 then (f_X1_hearOthers_71 c_m_place c_m_known c_m_left c_p_hours c_p_kind x1 x2 x3) else (if x4 = x1 then (f_X1_hearOthers_65 k7 x2 x3 x4) else (rd 5 c_m_place x4 (fun v7 => rd 5 c_m_place x1 (fun v8 => if v7 = v8 then (rd 5 c_m_known x4 (fun v9 => if v9 = ((-9)) then (f_X1_hearOthers_65 k7 x2 x3 x4) else (rd 5 c_m_known x4 (fun v10 => f_X1_hearOthers_65 k7 (x2 + v10) 1 x4)))) else (f_X1_hearOthers_65 k7 x2 x3 x4)))))
def g_X1_hearOthers_7 (c_m_place : Nat → Int32) (c_m_known : Nat → Int32) (c_m_left : Nat → Int32) (c_p_fishes : Int32) (c_p_hours : Nat → Int32) (c_p_kind : Nat → Int32) (x1 : Int32) (k7 : (Int32 × Int32 × Int32) → Option ((Nat → Int32) × (Nat → Int32))) (s : Int32 × Int32 × Int32) : Option ((Nat → Int32) × (Nat → Int32)) := f_X1_hearOthers_7 c_m_place c_m_known c_m_left c_p_fishes c_p_hours c_p_kind x1 k7 s.1 s.2.1 s.2.2
set_option maxRecDepth 100000 in
set_option maxHeartbeats 4000000 in
theorem t_X1_hearOthers_7 {G : Cx} (h : Am G yX1_hearOthers cX1_hearOthers 5 none rX1_hearOthers) {a_m a_p : Nat → Nat} {c_m_place : Nat → Int32} {c_m_known : Nat → Int32} {c_m_left : Nat → Int32} {c_m_onDuty : Int32} {c_m_clock : Int32} {c_p_bowls : Int32} {c_p_fishes : Int32} {c_p_lips : Int32} {c_p_hours : Nat → Int32} {c_p_start : Nat → Int32} {c_p_first : Nat → Int32} {c_p_kind : Nat → Int32} {c_p_post : Nat → Int32} {c_p_error : Nat → Int32} {r : (Nat → Int32) × (Nat → Int32)} (he : En G rX1_hearOthers none (fun _ => wMoment (g_K G).2.1 (g_K G).2.2.1 a_m (a_p 0) c_m_place r.1 r.2 c_m_onDuty c_m_clock ++ wPlan (g_K G).2.1 (g_K G).2.2.1 a_p c_p_bowls c_p_fishes c_p_lips c_p_hours c_p_start c_p_first c_p_kind c_p_post c_p_error)) {x1 : Int32} (n : Nat) (s : Int32 × Int32 × Int32) (hf : loopN (g_X1_hearOthers_7 c_m_place c_m_known c_m_left c_p_fishes c_p_hours c_p_kind x1) n s = some r) : AB G 0 0 (wMoment (g_K G).2.1 (g_K G).2.2.1 a_m (a_p 0) c_m_place c_m_known c_m_left c_m_onDuty c_m_clock ++ wPlan (g_K G).2.1 (g_K G).2.2.1 a_p c_p_bowls c_p_fishes c_p_lips c_p_hours c_p_start c_p_first c_p_kind c_p_post c_p_error) [(0, .ref (a_m 0)), (1, .int x1), (2, .int s.1), (3, .int s.2.1), (4, .int s.2.2)] 7 [] := by
  refine loopN_all (fun s => AB G 0 0 (wMoment (g_K G).2.1 (g_K G).2.2.1 a_m (a_p 0) c_m_place c_m_known c_m_left c_m_onDuty c_m_clock ++ wPlan (g_K G).2.1 (g_K G).2.2.1 a_p c_p_bowls c_p_fishes c_p_lips c_p_hours c_p_start c_p_first c_p_kind c_p_post c_p_error) [(0, .ref (a_m 0)), (1, .int x1), (2, .int s.1), (3, .int s.2.1), (4, .int s.2.2)] 7 []) (fun k7 hk7 s hf => ?_) n s hf
  obtain ⟨x2, x3, x4⟩ := s
  change f_X1_hearOthers_7 c_m_place c_m_known c_m_left c_p_fishes c_p_hours c_p_kind x1 k7 x2 x3 x4 = some r at hf
  unfold f_X1_hearOthers_7 at hf
  show AB G 0 0 (wMoment (g_K G).2.1 (g_K G).2.2.1 a_m (a_p 0) c_m_place c_m_known c_m_left c_m_onDuty c_m_clock ++ wPlan (g_K G).2.1 (g_K G).2.2.1 a_p c_p_bowls c_p_fishes c_p_lips c_p_hours c_p_start c_p_first c_p_kind c_p_post c_p_error) [(0, .ref (a_m 0)), (1, .int x1), (2, .int x2), (3, .int x3), (4, .int x4)] 7 []
  refine ab_iload h 4 rfl dX1_hearOthers_7 ?_
  refine ab_aload_n h 0 rfl rfl dX1_hearOthers_9 ?_
  refine ab_get h in_X1 0 rfl rfl 0 (by decide) fl_X1_21 rfl dX1_hearOthers_10 ?_
  refine ab_get h in_X3 4 rfl rfl 1 (by decide) fl_X1_25 rfl dX1_hearOthers_13 ?_
  refine ab_icmp_ge (tgt := 71) h dX1_hearOthers_16 (by decide) (fun hf => ?_) (fun hf => ?_) hf
  · refine ab_sub [0, 1, 2, 3] (lv' := [(0, .ref (a_m 0)), (1, .int x1), (2, .int x2), (3, .int x3)]) rfl ?_
    exact t_X1_hearOthers_71 h he hf
  · refine ab_iload h 4 rfl dX1_hearOthers_19 ?_
    refine ab_iload_n h 1 rfl rfl dX1_hearOthers_21 ?_
    refine ab_icmp_eq (tgt := 65) h dX1_hearOthers_22 (by decide) (fun hf => ?_) (fun hf => ?_) hf
    · exact t_X1_hearOthers_65 h he k7 hk7 hf
    · refine ab_aload_n h 0 rfl rfl dX1_hearOthers_25 ?_
      refine ab_get h in_X1 0 rfl rfl 1 (by decide) fl_X1_9 rfl dX1_hearOthers_26 ?_
      refine ab_iload h 4 rfl dX1_hearOthers_29 ?_
      refine ab_iald h 1 rfl dX1_hearOthers_31 (fun v7 hf => ?_) hf
      refine ab_aload_n h 0 rfl rfl dX1_hearOthers_32 ?_
      refine ab_get h in_X1 0 rfl rfl 1 (by decide) fl_X1_9 rfl dX1_hearOthers_33 ?_
      refine ab_iload_n h 1 rfl rfl dX1_hearOthers_36 ?_
      refine ab_iald h 1 rfl dX1_hearOthers_37 (fun v8 hf => ?_) hf
      refine ab_icmp_ne (tgt := 65) h dX1_hearOthers_38 (by decide) (fun hf => ?_) (fun hf => ?_) hf
      · exact t_X1_hearOthers_65 h he k7 hk7 hf
      · refine ab_aload_n h 0 rfl rfl dX1_hearOthers_41 ?_
        refine ab_get h in_X1 0 rfl rfl 2 (by decide) fl_X1_15 rfl dX1_hearOthers_42 ?_
        refine ab_iload h 4 rfl dX1_hearOthers_45 ?_
        refine ab_iald h 2 rfl dX1_hearOthers_47 (fun v9 hf => ?_) hf
        refine ab_bipush (v := (-9)) h dX1_hearOthers_48 (by decide) ?_
        refine ab_icmp_eq (tgt := 65) h dX1_hearOthers_50 (by decide) (fun hf => ?_) (fun hf => ?_) hf
        · exact t_X1_hearOthers_65 h he k7 hk7 hf
        · refine ab_iload_n h 2 rfl rfl dX1_hearOthers_53 ?_
          refine ab_aload_n h 0 rfl rfl dX1_hearOthers_54 ?_
          refine ab_get h in_X1 0 rfl rfl 2 (by decide) fl_X1_15 rfl dX1_hearOthers_55 ?_
          refine ab_iload h 4 rfl dX1_hearOthers_58 ?_
          refine ab_iald h 2 rfl dX1_hearOthers_60 (fun v10 hf => ?_) hf
          refine ab_iadd h dX1_hearOthers_61 ?_
          refine ab_istore_n h [1, 2, 0, 3, 4] [(0, .ref (a_m 0)), (1, .int x1), (2, .int (x2 + v10)), (3, .int x3), (4, .int x4)] rfl (by decide) rfl dX1_hearOthers_62 ?_
          refine ab_iconst (v := 1) h dX1_hearOthers_63 (by decide) ?_
          refine ab_istore_n h [1, 2, 3, 0, 4] [(0, .ref (a_m 0)), (1, .int x1), (2, .int (x2 + v10)), (3, .int 1), (4, .int x4)] rfl (by decide) rfl dX1_hearOthers_64 ?_
          exact t_X1_hearOthers_65 h he k7 hk7 hf
def f_X1_hearOthers (c_m_place : Nat → Int32) (c_m_known : Nat → Int32) (c_m_left : Nat → Int32) (c_p_fishes : Int32) (c_p_hours : Nat → Int32) (c_p_kind : Nat → Int32) (x1 : Int32) : Option ((Nat → Int32) × (Nat → Int32)) := loopN (g_X1_hearOthers_7 c_m_place c_m_known c_m_left c_p_fishes c_p_hours c_p_kind x1) 100 (0, 0, 0)
set_option maxRecDepth 100000 in
set_option maxHeartbeats 4000000 in
theorem t_X1_hearOthers_0 {G : Cx} (h : Am G yX1_hearOthers cX1_hearOthers 5 none rX1_hearOthers) {a_m a_p : Nat → Nat} {c_m_place : Nat → Int32} {c_m_known : Nat → Int32} {c_m_left : Nat → Int32} {c_m_onDuty : Int32} {c_m_clock : Int32} {c_p_bowls : Int32} {c_p_fishes : Int32} {c_p_lips : Int32} {c_p_hours : Nat → Int32} {c_p_start : Nat → Int32} {c_p_first : Nat → Int32} {c_p_kind : Nat → Int32} {c_p_post : Nat → Int32} {c_p_error : Nat → Int32} {r : (Nat → Int32) × (Nat → Int32)} (he : En G rX1_hearOthers none (fun _ => wMoment (g_K G).2.1 (g_K G).2.2.1 a_m (a_p 0) c_m_place r.1 r.2 c_m_onDuty c_m_clock ++ wPlan (g_K G).2.1 (g_K G).2.2.1 a_p c_p_bowls c_p_fishes c_p_lips c_p_hours c_p_start c_p_first c_p_kind c_p_post c_p_error)) {x1 : Int32} (hf : f_X1_hearOthers c_m_place c_m_known c_m_left c_p_fishes c_p_hours c_p_kind x1 = some r) : AB G 0 0 (wMoment (g_K G).2.1 (g_K G).2.2.1 a_m (a_p 0) c_m_place c_m_known c_m_left c_m_onDuty c_m_clock ++ wPlan (g_K G).2.1 (g_K G).2.2.1 a_p c_p_bowls c_p_fishes c_p_lips c_p_hours c_p_start c_p_first c_p_kind c_p_post c_p_error) [(0, .ref (a_m 0)), (1, .int x1)] 0 [] := by
  unfold f_X1_hearOthers at hf
  refine ab_iconst (v := 0) h dX1_hearOthers_0 (by decide) ?_
  refine ab_istore_n h [1, 2, 0] [(0, .ref (a_m 0)), (1, .int x1), (2, .int 0)] rfl (by decide) rfl dX1_hearOthers_1 ?_
  refine ab_iconst (v := 0) h dX1_hearOthers_2 (by decide) ?_
  refine ab_istore_n h [1, 2, 3, 0] [(0, .ref (a_m 0)), (1, .int x1), (2, .int 0), (3, .int 0)] rfl (by decide) rfl dX1_hearOthers_3 ?_
  refine ab_iconst (v := 0) h dX1_hearOthers_4 (by decide) ?_
  refine ab_istore h [1, 2, 3, 4, 0] [(0, .ref (a_m 0)), (1, .int x1), (2, .int 0), (3, .int 0), (4, .int 0)] (by decide) rfl dX1_hearOthers_5 ?_
  exact t_X1_hearOthers_7 h he 100 (0, 0, 0) hf
theorem c_X1_hearOthers (l : Launch) (K : Kx) (a_m a_p : Nat → Nat) (c_m_place : Nat → Int32) (c_m_known : Nat → Int32) (c_m_left : Nat → Int32) (c_m_onDuty : Int32) (c_m_clock : Int32) (c_p_bowls : Int32) (c_p_fishes : Int32) (c_p_lips : Int32) (c_p_hours : Nat → Int32) (c_p_start : Nat → Int32) (c_p_first : Nat → Int32) (c_p_kind : Nat → Int32) (c_p_post : Nat → Int32) (c_p_error : Nat → Int32) (x1 : Int32) (r : (Nat → Int32) × (Nat → Int32)) (hf : f_X1_hearOthers c_m_place c_m_known c_m_left c_p_fishes c_p_hours c_p_kind x1 = some r) : Ct l yX1_hearOthers cX1_hearOthers 5 none rX1_hearOthers K [.ref (a_m 0), .int x1] (wMoment K.2.1 K.2.2.1 a_m (a_p 0) c_m_place c_m_known c_m_left c_m_onDuty c_m_clock ++ wPlan K.2.1 K.2.2.1 a_p c_p_bowls c_p_fishes c_p_lips c_p_hours c_p_start c_p_first c_p_kind c_p_post c_p_error) none (fun _ => wMoment K.2.1 K.2.2.1 a_m (a_p 0) c_m_place r.1 r.2 c_m_onDuty c_m_clock ++ wPlan K.2.1 K.2.2.1 a_p c_p_bowls c_p_fishes c_p_lips c_p_hours c_p_start c_p_first c_p_kind c_p_post c_p_error) := by
  refine Ct.of (by decide +kernel) (Nat.le_of_ble_eq_true rfl) ?_
  intro G hl hK h he
  subst hl
  subst hK
  exact t_X1_hearOthers_0 h he hf

-- BowlState$Moment.passHour
abbrev rX1_passHour : Room := { frames := 3, cells := 0, slots := 0, locals := 68 }
def f_X1_passHour_30 (k6 : (Int32 × (Nat → Int32) × (Nat → Int32)) → Option ((Nat → Int32) × (Nat → Int32) × Int32)) (c_m_known : Nat → Int32) (c_m_left : Nat → Int32) (x1 : Int32) : Option ((Nat → Int32) × (Nat → Int32) × Int32) := k6 (x1 + 1, c_m_known, c_m_left)
set_option maxRecDepth 100000 in
set_option maxHeartbeats 4000000 in
theorem t_X1_passHour_30 {G : Cx} (h : Am G yX1_passHour cX1_passHour 2 none rX1_passHour) {a_m a_p : Nat → Nat} {c_m_place : Nat → Int32} {c_m_known : Nat → Int32} {c_m_left : Nat → Int32} {c_m_onDuty : Int32} {c_m_clock : Int32} {c_p_bowls : Int32} {c_p_fishes : Int32} {c_p_lips : Int32} {c_p_hours : Nat → Int32} {c_p_start : Nat → Int32} {c_p_first : Nat → Int32} {c_p_kind : Nat → Int32} {c_p_post : Nat → Int32} {c_p_error : Nat → Int32} {r : (Nat → Int32) × (Nat → Int32) × Int32} (he : En G rX1_passHour none (fun _ => wMoment (g_K G).2.1 (g_K G).2.2.1 a_m (a_p 0) c_m_place r.1 r.2.1 c_m_onDuty r.2.2 ++ wPlan (g_K G).2.1 (g_K G).2.2.1 a_p c_p_bowls c_p_fishes c_p_lips c_p_hours c_p_start c_p_first c_p_kind c_p_post c_p_error)) {x1 : Int32} (k6 : (Int32 × (Nat → Int32) × (Nat → Int32)) → Option ((Nat → Int32) × (Nat → Int32) × Int32)) (hk6 : ∀ s : Int32 × (Nat → Int32) × (Nat → Int32), k6 s = some r → AB G 0 0 (wMoment (g_K G).2.1 (g_K G).2.2.1 a_m (a_p 0) c_m_place s.2.1 s.2.2 c_m_onDuty c_m_clock ++ wPlan (g_K G).2.1 (g_K G).2.2.1 a_p c_p_bowls c_p_fishes c_p_lips c_p_hours c_p_start c_p_first c_p_kind c_p_post c_p_error) [(0, .ref (a_m 0)), (1, .int s.1)] 6 []) (hf : f_X1_passHour_30 k6 c_m_known c_m_left x1 = some r) : AB G 0 0 (wMoment (g_K G).2.1 (g_K G).2.2.1 a_m (a_p 0) c_m_place c_m_known c_m_left c_m_onDuty c_m_clock ++ wPlan (g_K G).2.1 (g_K G).2.2.1 a_p c_p_bowls c_p_fishes c_p_lips c_p_hours c_p_start c_p_first c_p_kind c_p_post c_p_error) [(0, .ref (a_m 0)), (1, .int x1)] 30 [] := by
  unfold f_X1_passHour_30 at hf
  refine ab_iinc (v := x1 + 1) h 1 [1, 0] [(0, .ref (a_m 0)), (1, .int (x1 + 1))] rfl rfl (by decide) rfl dX1_passHour_30 ?_
  refine ab_goto (tgt := 6) h dX1_passHour_33 (by decide) ?_
  exact hk6 (x1 + 1, c_m_known, c_m_left) hf
def f_X1_passHour_67 (k38 : (Int32 × (Nat → Int32) × (Nat → Int32)) → Option ((Nat → Int32) × (Nat → Int32) × Int32)) (c_m_known : Nat → Int32) (c_m_left : Nat → Int32) (x1 : Int32) : Option ((Nat → Int32) × (Nat → Int32) × Int32) := k38 (x1 + 1, c_m_known, c_m_left)
set_option maxRecDepth 100000 in
set_option maxHeartbeats 4000000 in
theorem t_X1_passHour_67 {G : Cx} (h : Am G yX1_passHour cX1_passHour 2 none rX1_passHour) {a_m a_p : Nat → Nat} {c_m_place : Nat → Int32} {c_m_known : Nat → Int32} {c_m_left : Nat → Int32} {c_m_onDuty : Int32} {c_m_clock : Int32} {c_p_bowls : Int32} {c_p_fishes : Int32} {c_p_lips : Int32} {c_p_hours : Nat → Int32} {c_p_start : Nat → Int32} {c_p_first : Nat → Int32} {c_p_kind : Nat → Int32} {c_p_post : Nat → Int32} {c_p_error : Nat → Int32} {r : (Nat → Int32) × (Nat → Int32) × Int32} (he : En G rX1_passHour none (fun _ => wMoment (g_K G).2.1 (g_K G).2.2.1 a_m (a_p 0) c_m_place r.1 r.2.1 c_m_onDuty r.2.2 ++ wPlan (g_K G).2.1 (g_K G).2.2.1 a_p c_p_bowls c_p_fishes c_p_lips c_p_hours c_p_start c_p_first c_p_kind c_p_post c_p_error)) {x1 : Int32} (k38 : (Int32 × (Nat → Int32) × (Nat → Int32)) → Option ((Nat → Int32) × (Nat → Int32) × Int32)) (hk38 : ∀ s : Int32 × (Nat → Int32) × (Nat → Int32), k38 s = some r → AB G 0 0 (wMoment (g_K G).2.1 (g_K G).2.2.1 a_m (a_p 0) c_m_place s.2.1 s.2.2 c_m_onDuty c_m_clock ++ wPlan (g_K G).2.1 (g_K G).2.2.1 a_p c_p_bowls c_p_fishes c_p_lips c_p_hours c_p_start c_p_first c_p_kind c_p_post c_p_error) [(0, .ref (a_m 0)), (1, .int s.1)] 38 []) (hf : f_X1_passHour_67 k38 c_m_known c_m_left x1 = some r) : AB G 0 0 (wMoment (g_K G).2.1 (g_K G).2.2.1 a_m (a_p 0) c_m_place c_m_known c_m_left c_m_onDuty c_m_clock ++ wPlan (g_K G).2.1 (g_K G).2.2.1 a_p c_p_bowls c_p_fishes c_p_lips c_p_hours c_p_start c_p_first c_p_kind c_p_post c_p_error) [(0, .ref (a_m 0)), (1, .int x1)] 67 [] := by
  unfold f_X1_passHour_67 at hf
  refine ab_iinc (v := x1 + 1) h 1 [1, 0] [(0, .ref (a_m 0)), (1, .int (x1 + 1))] rfl rfl (by decide) rfl dX1_passHour_67 ?_
  refine ab_goto (tgt := 38) h dX1_passHour_70 (by decide) ?_
  exact hk38 (x1 + 1, c_m_known, c_m_left) hf
def f_X1_passHour_73 (c_m_known : Nat → Int32) (c_m_left : Nat → Int32) (c_m_clock : Int32) : Option ((Nat → Int32) × (Nat → Int32) × Int32) := some (c_m_known, c_m_left, c_m_clock + 1)
set_option maxRecDepth 100000 in
set_option maxHeartbeats 4000000 in
theorem t_X1_passHour_73 {G : Cx} (h : Am G yX1_passHour cX1_passHour 2 none rX1_passHour) {a_m a_p : Nat → Nat} {c_m_place : Nat → Int32} {c_m_known : Nat → Int32} {c_m_left : Nat → Int32} {c_m_onDuty : Int32} {c_m_clock : Int32} {c_p_bowls : Int32} {c_p_fishes : Int32} {c_p_lips : Int32} {c_p_hours : Nat → Int32} {c_p_start : Nat → Int32} {c_p_first : Nat → Int32} {c_p_kind : Nat → Int32} {c_p_post : Nat → Int32} {c_p_error : Nat → Int32} {r : (Nat → Int32) × (Nat → Int32) × Int32} (he : En G rX1_passHour none (fun _ => wMoment (g_K G).2.1 (g_K G).2.2.1 a_m (a_p 0) c_m_place r.1 r.2.1 c_m_onDuty r.2.2 ++ wPlan (g_K G).2.1 (g_K G).2.2.1 a_p c_p_bowls c_p_fishes c_p_lips c_p_hours c_p_start c_p_first c_p_kind c_p_post c_p_error)) (hf : f_X1_passHour_73 c_m_known c_m_left c_m_clock = some r) : AB G 0 0 (wMoment (g_K G).2.1 (g_K G).2.2.1 a_m (a_p 0) c_m_place c_m_known c_m_left c_m_onDuty c_m_clock ++ wPlan (g_K G).2.1 (g_K G).2.2.1 a_p c_p_bowls c_p_fishes c_p_lips c_p_hours c_p_start c_p_first c_p_kind c_p_post c_p_error) [(0, .ref (a_m 0))] 73 [] := by
  unfold f_X1_passHour_73 at hf
  refine ab_aload_n h 0 rfl rfl dX1_passHour_73 ?_
  refine ab_dup h dX1_passHour_74 rfl ?_
  refine ab_get h in_X1 0 rfl rfl 5 (by decide) fl_X1_47 rfl dX1_passHour_75 ?_
  refine ab_iconst (v := 1) h dX1_passHour_78 (by decide) ?_
  refine ab_iadd h dX1_passHour_79 ?_
  refine ab_put h in_X1 tyX1 tyX1_ok nmX1 0 (wMoment (g_K G).2.1 (g_K G).2.2.1 a_m (a_p 0) c_m_place c_m_known c_m_left c_m_onDuty (c_m_clock + 1) ++ wPlan (g_K G).2.1 (g_K G).2.2.1 a_p c_p_bowls c_p_fishes c_p_lips c_p_hours c_p_start c_p_first c_p_kind c_p_post c_p_error) rfl rfl 5 (by decide) fl_X1_47 rfl (tyX1_ok 5 (by decide)) rfl rfl (Nat.le_of_ble_eq_true rfl) rfl dX1_passHour_80 ?_
  obtain rfl := Option.some.inj hf
  exact ab_vret h he [] rfl rfl rfl rfl rfl dX1_passHour_83
def f_X1_passHour_38 (c_m_place : Nat → Int32) (c_m_clock : Int32) (c_p_fishes : Int32) (c_p_hours : Nat → Int32) (c_p_kind : Nat → Int32) (k38 : (Int32 × (Nat → Int32) × (Nat → Int32)) → Option ((Nat → Int32) × (Nat → Int32) × Int32)) (x1 : Int32) (c_m_known : Nat → Int32) (c_m_left : Nat → Int32) : Option ((Nat → Int32) × (Nat → Int32) × Int32) := if c_p_fishes ≤ x1 then (f_X1_passHour_73 c_m_known c_m_left c_m_clock) else (rd 5 c_p_kind x1 (fun v6 => if v6 = 3 then ((f_X1_hearOthers c_m_place c_m_known c_m_left c_p_fishes c_p_hours c_p_kind x1).bind (fun w7 => f_X1_passHour_67 k38 w7.1 w7.2 x1)) else (f_X1_passHour_67 k38 c_m_known c_m_left x1)))
def g_X1_passHour_38 (c_m_place : Nat → Int32) (c_m_clock : Int32) (c_p_fishes : Int32) (c_p_hours : Nat → Int32) (c_p_kind : Nat → Int32) (k38 : (Int32 × (Nat → Int32) × (Nat → Int32)) → Option ((Nat → Int32) × (Nat → Int32) × Int32)) (s : Int32 × (Nat → Int32) × (Nat → Int32)) : Option ((Nat → Int32) × (Nat → Int32) × Int32) := f_X1_passHour_38 c_m_place c_m_clock c_p_fishes c_p_hours c_p_kind k38 s.1 s.2.1 s.2.2
set_option maxRecDepth 100000 in
set_option maxHeartbeats 4000000 in
theorem t_X1_passHour_38 {G : Cx} (h : Am G yX1_passHour cX1_passHour 2 none rX1_passHour) {a_m a_p : Nat → Nat} {c_m_place : Nat → Int32} {c_m_onDuty : Int32} {c_m_clock : Int32} {c_p_bowls : Int32} {c_p_fishes : Int32} {c_p_lips : Int32} {c_p_hours : Nat → Int32} {c_p_start : Nat → Int32} {c_p_first : Nat → Int32} {c_p_kind : Nat → Int32} {c_p_post : Nat → Int32} {c_p_error : Nat → Int32} {r : (Nat → Int32) × (Nat → Int32) × Int32} (he : En G rX1_passHour none (fun _ => wMoment (g_K G).2.1 (g_K G).2.2.1 a_m (a_p 0) c_m_place r.1 r.2.1 c_m_onDuty r.2.2 ++ wPlan (g_K G).2.1 (g_K G).2.2.1 a_p c_p_bowls c_p_fishes c_p_lips c_p_hours c_p_start c_p_first c_p_kind c_p_post c_p_error)) (n : Nat) (s : Int32 × (Nat → Int32) × (Nat → Int32)) (hf : loopN (g_X1_passHour_38 c_m_place c_m_clock c_p_fishes c_p_hours c_p_kind) n s = some r) : AB G 0 0 (wMoment (g_K G).2.1 (g_K G).2.2.1 a_m (a_p 0) c_m_place s.2.1 s.2.2 c_m_onDuty c_m_clock ++ wPlan (g_K G).2.1 (g_K G).2.2.1 a_p c_p_bowls c_p_fishes c_p_lips c_p_hours c_p_start c_p_first c_p_kind c_p_post c_p_error) [(0, .ref (a_m 0)), (1, .int s.1)] 38 [] := by
  refine loopN_all (fun s => AB G 0 0 (wMoment (g_K G).2.1 (g_K G).2.2.1 a_m (a_p 0) c_m_place s.2.1 s.2.2 c_m_onDuty c_m_clock ++ wPlan (g_K G).2.1 (g_K G).2.2.1 a_p c_p_bowls c_p_fishes c_p_lips c_p_hours c_p_start c_p_first c_p_kind c_p_post c_p_error) [(0, .ref (a_m 0)), (1, .int s.1)] 38 []) (fun k38 hk38 s hf => ?_) n s hf
  obtain ⟨x1, c_m_known, c_m_left⟩ := s
  change f_X1_passHour_38 c_m_place c_m_clock c_p_fishes c_p_hours c_p_kind k38 x1 c_m_known c_m_left = some r at hf
  unfold f_X1_passHour_38 at hf
  show AB G 0 0 (wMoment (g_K G).2.1 (g_K G).2.2.1 a_m (a_p 0) c_m_place c_m_known c_m_left c_m_onDuty c_m_clock ++ wPlan (g_K G).2.1 (g_K G).2.2.1 a_p c_p_bowls c_p_fishes c_p_lips c_p_hours c_p_start c_p_first c_p_kind c_p_post c_p_error) [(0, .ref (a_m 0)), (1, .int x1)] 38 []
  refine ab_iload_n h 1 rfl rfl dX1_passHour_38 ?_
  refine ab_aload_n h 0 rfl rfl dX1_passHour_39 ?_
  refine ab_get h in_X1 0 rfl rfl 0 (by decide) fl_X1_21 rfl dX1_passHour_40 ?_
  refine ab_get h in_X3 4 rfl rfl 1 (by decide) fl_X1_25 rfl dX1_passHour_43 ?_
  refine ab_icmp_ge (tgt := 73) h dX1_passHour_46 (by decide) (fun hf => ?_) (fun hf => ?_) hf
  · refine ab_sub [0] (lv' := [(0, .ref (a_m 0))]) rfl ?_
    exact t_X1_passHour_73 h he hf
  · refine ab_aload_n h 0 rfl rfl dX1_passHour_49 ?_
    refine ab_get h in_X1 0 rfl rfl 0 (by decide) fl_X1_21 rfl dX1_passHour_50 ?_
    refine ab_get h in_X3 4 rfl rfl 6 (by decide) fl_X1_59 rfl dX1_passHour_53 ?_
    refine ab_iload_n h 1 rfl rfl dX1_passHour_56 ?_
    refine ab_iald h 8 rfl dX1_passHour_57 (fun v6 hf => ?_) hf
    refine ab_iconst (v := 3) h dX1_passHour_58 (by decide) ?_
    refine ab_icmp_ne (tgt := 67) h dX1_passHour_59 (by decide) (fun hf => ?_) (fun hf => ?_) hf
    · exact t_X1_passHour_67 h he k38 hk38 hf
    · refine ab_aload_n h 0 rfl rfl dX1_passHour_62 ?_
      refine ab_iload_n h 1 rfl rfl dX1_passHour_63 ?_
      obtain ⟨w7, hw7, hf⟩ := bind_inv hf
      refine ab_call0 h (run_V (As := [.int x1]) (st := []) h (c_X1_hearOthers (g_l G) (g_K G) a_m a_p c_m_place c_m_known c_m_left c_m_onDuty c_m_clock c_p_bowls c_p_fishes c_p_lips c_p_hours c_p_start c_p_first c_p_kind c_p_post c_p_error x1 w7 hw7) ok_X1_hearOthers 0 rfl rfl ml_X1_106 ⟨⟨Nat.le_of_ble_eq_true rfl, Nat.le_of_ble_eq_true rfl⟩, ⟨Nat.le_of_ble_eq_true rfl, Nat.le_of_ble_eq_true rfl⟩, Nat.le_of_ble_eq_true rfl⟩ dX1_passHour_64 rfl) (wMoment (g_K G).2.1 (g_K G).2.2.1 a_m (a_p 0) c_m_place w7.1 w7.2 c_m_onDuty c_m_clock ++ wPlan (g_K G).2.1 (g_K G).2.2.1 a_p c_p_bowls c_p_fishes c_p_lips c_p_hours c_p_start c_p_first c_p_kind c_p_post c_p_error) (fun _ => rfl) [] rfl rfl rfl ?_
      exact t_X1_passHour_67 h he k38 hk38 hf
def f_X1_passHour_36 (c_m_place : Nat → Int32) (c_m_known : Nat → Int32) (c_m_left : Nat → Int32) (c_m_clock : Int32) (c_p_fishes : Int32) (c_p_hours : Nat → Int32) (c_p_kind : Nat → Int32) : Option ((Nat → Int32) × (Nat → Int32) × Int32) := loopN (g_X1_passHour_38 c_m_place c_m_clock c_p_fishes c_p_hours c_p_kind) 100 (0, c_m_known, c_m_left)
set_option maxRecDepth 100000 in
set_option maxHeartbeats 4000000 in
theorem t_X1_passHour_36 {G : Cx} (h : Am G yX1_passHour cX1_passHour 2 none rX1_passHour) {a_m a_p : Nat → Nat} {c_m_place : Nat → Int32} {c_m_known : Nat → Int32} {c_m_left : Nat → Int32} {c_m_onDuty : Int32} {c_m_clock : Int32} {c_p_bowls : Int32} {c_p_fishes : Int32} {c_p_lips : Int32} {c_p_hours : Nat → Int32} {c_p_start : Nat → Int32} {c_p_first : Nat → Int32} {c_p_kind : Nat → Int32} {c_p_post : Nat → Int32} {c_p_error : Nat → Int32} {r : (Nat → Int32) × (Nat → Int32) × Int32} (he : En G rX1_passHour none (fun _ => wMoment (g_K G).2.1 (g_K G).2.2.1 a_m (a_p 0) c_m_place r.1 r.2.1 c_m_onDuty r.2.2 ++ wPlan (g_K G).2.1 (g_K G).2.2.1 a_p c_p_bowls c_p_fishes c_p_lips c_p_hours c_p_start c_p_first c_p_kind c_p_post c_p_error)) (hf : f_X1_passHour_36 c_m_place c_m_known c_m_left c_m_clock c_p_fishes c_p_hours c_p_kind = some r) : AB G 0 0 (wMoment (g_K G).2.1 (g_K G).2.2.1 a_m (a_p 0) c_m_place c_m_known c_m_left c_m_onDuty c_m_clock ++ wPlan (g_K G).2.1 (g_K G).2.2.1 a_p c_p_bowls c_p_fishes c_p_lips c_p_hours c_p_start c_p_first c_p_kind c_p_post c_p_error) [(0, .ref (a_m 0))] 36 [] := by
  unfold f_X1_passHour_36 at hf
  refine ab_iconst (v := 0) h dX1_passHour_36 (by decide) ?_
  refine ab_istore_n h [1, 0] [(0, .ref (a_m 0)), (1, .int 0)] rfl (by decide) rfl dX1_passHour_37 ?_
  exact t_X1_passHour_38 h he 100 (0, c_m_known, c_m_left) hf
def f_X1_passHour_6 (c_m_place : Nat → Int32) (c_m_onDuty : Int32) (c_m_clock : Int32) (c_p_bowls : Int32) (c_p_fishes : Int32) (c_p_lips : Int32) (c_p_hours : Nat → Int32) (c_p_first : Nat → Int32) (c_p_kind : Nat → Int32) (c_p_post : Nat → Int32) (c_p_error : Nat → Int32) (k6 : (Int32 × (Nat → Int32) × (Nat → Int32)) → Option ((Nat → Int32) × (Nat → Int32) × Int32)) (x1 : Int32) (c_m_known : Nat → Int32) (c_m_left : Nat → Int32) : Option ((Nat → Int32) × (Nat → Int32) × Int32) := if c_p_lips ≤ x1 then (f_X1_passHour_36 c_m_place c_m_known c_m_left c_m_clock c_p_fishes c_p_hours c_p_kind) else ((f_X1_isOnDuty c_m_onDuty x1).bind (fun w8 => if w8 = 0 then (f_X1_passHour_30 k6 c_m_known c_m_left x1) else ((f_X1_goRound c_m_place c_m_known c_m_left c_m_clock c_p_bowls c_p_fishes c_p_hours c_p_first c_p_kind c_p_post c_p_error x1).bind (fun w9 => f_X1_passHour_30 k6 w9.1 w9.2 x1))))
def g_X1_passHour_6 (c_m_place : Nat → Int32) (c_m_onDuty : Int32) (c_m_clock : Int32) (c_p_bowls : Int32) (c_p_fishes : Int32) (c_p_lips : Int32) (c_p_hours : Nat → Int32) (c_p_first : Nat → Int32) (c_p_kind : Nat → Int32) (c_p_post : Nat → Int32) (c_p_error : Nat → Int32) (k6 : (Int32 × (Nat → Int32) × (Nat → Int32)) → Option ((Nat → Int32) × (Nat → Int32) × Int32)) (s : Int32 × (Nat → Int32) × (Nat → Int32)) : Option ((Nat → Int32) × (Nat → Int32) × Int32) := f_X1_passHour_6 c_m_place c_m_onDuty c_m_clock c_p_bowls c_p_fishes c_p_lips c_p_hours c_p_first c_p_kind c_p_post c_p_error k6 s.1 s.2.1 s.2.2
set_option maxRecDepth 100000 in
set_option maxHeartbeats 4000000 in
theorem t_X1_passHour_6 {G : Cx} (h : Am G yX1_passHour cX1_passHour 2 none rX1_passHour) {a_m a_p : Nat → Nat} {c_m_place : Nat → Int32} {c_m_onDuty : Int32} {c_m_clock : Int32} {c_p_bowls : Int32} {c_p_fishes : Int32} {c_p_lips : Int32} {c_p_hours : Nat → Int32} {c_p_start : Nat → Int32} {c_p_first : Nat → Int32} {c_p_kind : Nat → Int32} {c_p_post : Nat → Int32} {c_p_error : Nat → Int32} {r : (Nat → Int32) × (Nat → Int32) × Int32} (he : En G rX1_passHour none (fun _ => wMoment (g_K G).2.1 (g_K G).2.2.1 a_m (a_p 0) c_m_place r.1 r.2.1 c_m_onDuty r.2.2 ++ wPlan (g_K G).2.1 (g_K G).2.2.1 a_p c_p_bowls c_p_fishes c_p_lips c_p_hours c_p_start c_p_first c_p_kind c_p_post c_p_error)) (n : Nat) (s : Int32 × (Nat → Int32) × (Nat → Int32)) (hf : loopN (g_X1_passHour_6 c_m_place c_m_onDuty c_m_clock c_p_bowls c_p_fishes c_p_lips c_p_hours c_p_first c_p_kind c_p_post c_p_error) n s = some r) : AB G 0 0 (wMoment (g_K G).2.1 (g_K G).2.2.1 a_m (a_p 0) c_m_place s.2.1 s.2.2 c_m_onDuty c_m_clock ++ wPlan (g_K G).2.1 (g_K G).2.2.1 a_p c_p_bowls c_p_fishes c_p_lips c_p_hours c_p_start c_p_first c_p_kind c_p_post c_p_error) [(0, .ref (a_m 0)), (1, .int s.1)] 6 [] := by
  refine loopN_all (fun s => AB G 0 0 (wMoment (g_K G).2.1 (g_K G).2.2.1 a_m (a_p 0) c_m_place s.2.1 s.2.2 c_m_onDuty c_m_clock ++ wPlan (g_K G).2.1 (g_K G).2.2.1 a_p c_p_bowls c_p_fishes c_p_lips c_p_hours c_p_start c_p_first c_p_kind c_p_post c_p_error) [(0, .ref (a_m 0)), (1, .int s.1)] 6 []) (fun k6 hk6 s hf => ?_) n s hf
  obtain ⟨x1, c_m_known, c_m_left⟩ := s
  change f_X1_passHour_6 c_m_place c_m_onDuty c_m_clock c_p_bowls c_p_fishes c_p_lips c_p_hours c_p_first c_p_kind c_p_post c_p_error k6 x1 c_m_known c_m_left = some r at hf
  unfold f_X1_passHour_6 at hf
  show AB G 0 0 (wMoment (g_K G).2.1 (g_K G).2.2.1 a_m (a_p 0) c_m_place c_m_known c_m_left c_m_onDuty c_m_clock ++ wPlan (g_K G).2.1 (g_K G).2.2.1 a_p c_p_bowls c_p_fishes c_p_lips c_p_hours c_p_start c_p_first c_p_kind c_p_post c_p_error) [(0, .ref (a_m 0)), (1, .int x1)] 6 []
  refine ab_iload_n h 1 rfl rfl dX1_passHour_6 ?_
  refine ab_aload_n h 0 rfl rfl dX1_passHour_7 ?_
  refine ab_get h in_X1 0 rfl rfl 0 (by decide) fl_X1_21 rfl dX1_passHour_8 ?_
  refine ab_get h in_X3 4 rfl rfl 2 (by decide) fl_X1_41 rfl dX1_passHour_11 ?_
  refine ab_icmp_ge (tgt := 36) h dX1_passHour_14 (by decide) (fun hf => ?_) (fun hf => ?_) hf
  · refine ab_sub [0] (lv' := [(0, .ref (a_m 0))]) rfl ?_
    exact t_X1_passHour_36 h he hf
  · refine ab_aload_n h 0 rfl rfl dX1_passHour_17 ?_
    refine ab_iload_n h 1 rfl rfl dX1_passHour_18 ?_
    obtain ⟨w8, hw8, hf⟩ := bind_inv hf
    refine ab_call0 h (run_V (As := [.int x1]) (st := []) h (c_X1_isOnDuty (g_l G) (g_K G) a_m a_p c_m_place c_m_known c_m_left c_m_onDuty c_m_clock c_p_bowls c_p_fishes c_p_lips c_p_hours c_p_start c_p_first c_p_kind c_p_post c_p_error x1 w8 hw8) ok_X1_isOnDuty 0 rfl rfl ml_X1_99 ⟨⟨Nat.le_of_ble_eq_true rfl, Nat.le_of_ble_eq_true rfl⟩, ⟨Nat.le_of_ble_eq_true rfl, Nat.le_of_ble_eq_true rfl⟩, Nat.le_of_ble_eq_true rfl⟩ dX1_passHour_19 rfl) (wMoment (g_K G).2.1 (g_K G).2.2.1 a_m (a_p 0) c_m_place c_m_known c_m_left c_m_onDuty c_m_clock ++ wPlan (g_K G).2.1 (g_K G).2.2.1 a_p c_p_bowls c_p_fishes c_p_lips c_p_hours c_p_start c_p_first c_p_kind c_p_post c_p_error) (fun _ => rfl) [.int w8] rfl rfl rfl ?_
    refine ab_if_eq (tgt := 30) h dX1_passHour_22 (by decide) (fun hf => ?_) (fun hf => ?_) hf
    · exact t_X1_passHour_30 h he k6 hk6 hf
    · refine ab_aload_n h 0 rfl rfl dX1_passHour_25 ?_
      refine ab_iload_n h 1 rfl rfl dX1_passHour_26 ?_
      obtain ⟨w9, hw9, hf⟩ := bind_inv hf
      refine ab_call0 h (run_V (As := [.int x1]) (st := []) h (c_X1_goRound (g_l G) (g_K G) a_m a_p c_m_place c_m_known c_m_left c_m_onDuty c_m_clock c_p_bowls c_p_fishes c_p_lips c_p_hours c_p_start c_p_first c_p_kind c_p_post c_p_error x1 w9 hw9) ok_X1_goRound 0 rfl rfl ml_X1_103 ⟨⟨Nat.le_of_ble_eq_true rfl, Nat.le_of_ble_eq_true rfl⟩, ⟨Nat.le_of_ble_eq_true rfl, Nat.le_of_ble_eq_true rfl⟩, Nat.le_of_ble_eq_true rfl⟩ dX1_passHour_27 rfl) (wMoment (g_K G).2.1 (g_K G).2.2.1 a_m (a_p 0) c_m_place w9.1 w9.2 c_m_onDuty c_m_clock ++ wPlan (g_K G).2.1 (g_K G).2.2.1 a_p c_p_bowls c_p_fishes c_p_lips c_p_hours c_p_start c_p_first c_p_kind c_p_post c_p_error) (fun _ => rfl) [] rfl rfl rfl ?_
      exact t_X1_passHour_30 h he k6 hk6 hf
def f_X1_passHour (c_m_place : Nat → Int32) (c_m_known : Nat → Int32) (c_m_left : Nat → Int32) (c_m_onDuty : Int32) (c_m_clock : Int32) (c_p_bowls : Int32) (c_p_fishes : Int32) (c_p_lips : Int32) (c_p_hours : Nat → Int32) (c_p_first : Nat → Int32) (c_p_kind : Nat → Int32) (c_p_post : Nat → Int32) (c_p_error : Nat → Int32) : Option ((Nat → Int32) × (Nat → Int32) × Int32) := (f_X1_fade c_m_known c_m_left c_p_fishes c_p_kind).bind (fun w10 => loopN (g_X1_passHour_6 c_m_place c_m_onDuty c_m_clock c_p_bowls c_p_fishes c_p_lips c_p_hours c_p_first c_p_kind c_p_post c_p_error) 100 (0, w10.1, w10.2))
set_option maxRecDepth 100000 in
set_option maxHeartbeats 4000000 in
theorem t_X1_passHour_0 {G : Cx} (h : Am G yX1_passHour cX1_passHour 2 none rX1_passHour) {a_m a_p : Nat → Nat} {c_m_place : Nat → Int32} {c_m_known : Nat → Int32} {c_m_left : Nat → Int32} {c_m_onDuty : Int32} {c_m_clock : Int32} {c_p_bowls : Int32} {c_p_fishes : Int32} {c_p_lips : Int32} {c_p_hours : Nat → Int32} {c_p_start : Nat → Int32} {c_p_first : Nat → Int32} {c_p_kind : Nat → Int32} {c_p_post : Nat → Int32} {c_p_error : Nat → Int32} {r : (Nat → Int32) × (Nat → Int32) × Int32} (he : En G rX1_passHour none (fun _ => wMoment (g_K G).2.1 (g_K G).2.2.1 a_m (a_p 0) c_m_place r.1 r.2.1 c_m_onDuty r.2.2 ++ wPlan (g_K G).2.1 (g_K G).2.2.1 a_p c_p_bowls c_p_fishes c_p_lips c_p_hours c_p_start c_p_first c_p_kind c_p_post c_p_error)) (hf : f_X1_passHour c_m_place c_m_known c_m_left c_m_onDuty c_m_clock c_p_bowls c_p_fishes c_p_lips c_p_hours c_p_first c_p_kind c_p_post c_p_error = some r) : AB G 0 0 (wMoment (g_K G).2.1 (g_K G).2.2.1 a_m (a_p 0) c_m_place c_m_known c_m_left c_m_onDuty c_m_clock ++ wPlan (g_K G).2.1 (g_K G).2.2.1 a_p c_p_bowls c_p_fishes c_p_lips c_p_hours c_p_start c_p_first c_p_kind c_p_post c_p_error) [(0, .ref (a_m 0))] 0 [] := by
  unfold f_X1_passHour at hf
  refine ab_aload_n h 0 rfl rfl dX1_passHour_0 ?_
  obtain ⟨w10, hw10, hf⟩ := bind_inv hf
  refine ab_call0 h (run_V (As := []) (st := []) h (c_X1_fade (g_l G) (g_K G) a_m a_p c_m_place c_m_known c_m_left c_m_onDuty c_m_clock c_p_bowls c_p_fishes c_p_lips c_p_hours c_p_start c_p_first c_p_kind c_p_post c_p_error w10 hw10) ok_X1_fade 0 rfl rfl ml_X1_96 ⟨⟨Nat.le_of_ble_eq_true rfl, Nat.le_of_ble_eq_true rfl⟩, ⟨Nat.le_of_ble_eq_true rfl, Nat.le_of_ble_eq_true rfl⟩, Nat.le_of_ble_eq_true rfl⟩ dX1_passHour_1 rfl) (wMoment (g_K G).2.1 (g_K G).2.2.1 a_m (a_p 0) c_m_place w10.1 w10.2 c_m_onDuty c_m_clock ++ wPlan (g_K G).2.1 (g_K G).2.2.1 a_p c_p_bowls c_p_fishes c_p_lips c_p_hours c_p_start c_p_first c_p_kind c_p_post c_p_error) (fun _ => rfl) [] rfl rfl rfl ?_
  refine ab_iconst (v := 0) h dX1_passHour_4 (by decide) ?_
  refine ab_istore_n h [1, 0] [(0, .ref (a_m 0)), (1, .int 0)] rfl (by decide) rfl dX1_passHour_5 ?_
  exact t_X1_passHour_6 h he 100 (0, w10.1, w10.2) hf
theorem c_X1_passHour (l : Launch) (K : Kx) (a_m a_p : Nat → Nat) (c_m_place : Nat → Int32) (c_m_known : Nat → Int32) (c_m_left : Nat → Int32) (c_m_onDuty : Int32) (c_m_clock : Int32) (c_p_bowls : Int32) (c_p_fishes : Int32) (c_p_lips : Int32) (c_p_hours : Nat → Int32) (c_p_start : Nat → Int32) (c_p_first : Nat → Int32) (c_p_kind : Nat → Int32) (c_p_post : Nat → Int32) (c_p_error : Nat → Int32) (r : (Nat → Int32) × (Nat → Int32) × Int32) (hf : f_X1_passHour c_m_place c_m_known c_m_left c_m_onDuty c_m_clock c_p_bowls c_p_fishes c_p_lips c_p_hours c_p_first c_p_kind c_p_post c_p_error = some r) : Ct l yX1_passHour cX1_passHour 2 none rX1_passHour K [.ref (a_m 0)] (wMoment K.2.1 K.2.2.1 a_m (a_p 0) c_m_place c_m_known c_m_left c_m_onDuty c_m_clock ++ wPlan K.2.1 K.2.2.1 a_p c_p_bowls c_p_fishes c_p_lips c_p_hours c_p_start c_p_first c_p_kind c_p_post c_p_error) none (fun _ => wMoment K.2.1 K.2.2.1 a_m (a_p 0) c_m_place r.1 r.2.1 c_m_onDuty r.2.2 ++ wPlan K.2.1 K.2.2.1 a_p c_p_bowls c_p_fishes c_p_lips c_p_hours c_p_start c_p_first c_p_kind c_p_post c_p_error) := by
  refine Ct.of (by decide +kernel) (Nat.le_of_ble_eq_true rfl) ?_
  intro G hl hK h he
  subst hl
  subst hK
  exact t_X1_passHour_0 h he hf

-- BowlState$Sayings.add
abbrev rX5_add : Room := { frames := 0, cells := 0, slots := 0, locals := 0 }
def f_X5_add (c_s_speaker : Nat → Int32) (c_s_said : Nat → Int32) (c_s_length : Int32) (x1 : Int32) (x2 : Int32) : Option (Int32 × (Nat → Int32) × (Nat → Int32) × Int32) := if c_s_length < 6 then (ix 6 c_s_length (ix 6 c_s_length (some (1, upd c_s_speaker (Int32.toNatClampNeg c_s_length) x1, upd c_s_said (Int32.toNatClampNeg c_s_length) x2, c_s_length + 1)))) else (some (0, c_s_speaker, c_s_said, c_s_length))
set_option maxRecDepth 100000 in
set_option maxHeartbeats 4000000 in
theorem t_X5_add_0 {G : Cx} (h : Am G yX5_add cX5_add 3 (some .boolean) rX5_add) {a_s : Nat → Nat} {c_s_speaker : Nat → Int32} {c_s_said : Nat → Int32} {c_s_length : Int32} {r : Int32 × (Nat → Int32) × (Nat → Int32) × Int32} (he : En G rX5_add (some (.int r.1)) (fun _ => wSayings (g_K G).2.1 (g_K G).2.2.1 a_s r.2.1 r.2.2.1 r.2.2.2)) {x1 : Int32} {x2 : Int32} (hf : f_X5_add c_s_speaker c_s_said c_s_length x1 x2 = some r) : AB G 0 0 (wSayings (g_K G).2.1 (g_K G).2.2.1 a_s c_s_speaker c_s_said c_s_length) [(0, .ref (a_s 0)), (1, .int x1), (2, .int x2)] 0 [] := by
  unfold f_X5_add at hf
  refine ab_aload_n h 0 rfl rfl dX5_add_0 ?_
  refine ab_get h in_X5 0 rfl rfl 2 (by decide) fl_X5_18 rfl dX5_add_1 ?_
  refine ab_bipush (v := 6) h dX5_add_4 (by decide) ?_
  refine ab_icmp_lt (tgt := 11) h dX5_add_6 (by decide) (fun hf => ?_) (fun hf => ?_) hf
  · refine ab_aload_n h 0 rfl rfl dX5_add_11 ?_
    refine ab_get h in_X5 0 rfl rfl 0 (by decide) fl_X5_9 rfl dX5_add_12 ?_
    refine ab_aload_n h 0 rfl rfl dX5_add_15 ?_
    refine ab_get h in_X5 0 rfl rfl 2 (by decide) fl_X5_18 rfl dX5_add_16 ?_
    refine ab_iload_n h 1 rfl rfl dX5_add_19 ?_
    refine ab_iast h 1 (wSayings (g_K G).2.1 (g_K G).2.2.1 a_s (upd c_s_speaker (Int32.toNatClampNeg c_s_length) x1) c_s_said c_s_length) rfl rfl dX5_add_20 (fun hf => ?_) hf
    refine ab_aload_n h 0 rfl rfl dX5_add_21 ?_
    refine ab_get h in_X5 0 rfl rfl 1 (by decide) fl_X5_15 rfl dX5_add_22 ?_
    refine ab_aload_n h 0 rfl rfl dX5_add_25 ?_
    refine ab_get h in_X5 0 rfl rfl 2 (by decide) fl_X5_18 rfl dX5_add_26 ?_
    refine ab_iload_n h 2 rfl rfl dX5_add_29 ?_
    refine ab_iast h 2 (wSayings (g_K G).2.1 (g_K G).2.2.1 a_s (upd c_s_speaker (Int32.toNatClampNeg c_s_length) x1) (upd c_s_said (Int32.toNatClampNeg c_s_length) x2) c_s_length) rfl rfl dX5_add_30 (fun hf => ?_) hf
    refine ab_aload_n h 0 rfl rfl dX5_add_31 ?_
    refine ab_dup h dX5_add_32 rfl ?_
    refine ab_get h in_X5 0 rfl rfl 2 (by decide) fl_X5_18 rfl dX5_add_33 ?_
    refine ab_iconst (v := 1) h dX5_add_36 (by decide) ?_
    refine ab_iadd h dX5_add_37 ?_
    refine ab_put h in_X5 tyX5 tyX5_ok nmX5 0 (wSayings (g_K G).2.1 (g_K G).2.2.1 a_s (upd c_s_speaker (Int32.toNatClampNeg c_s_length) x1) (upd c_s_said (Int32.toNatClampNeg c_s_length) x2) (c_s_length + 1)) rfl rfl 2 (by decide) fl_X5_18 rfl (tyX5_ok 2 (by decide)) rfl rfl (Nat.le_of_ble_eq_true rfl) rfl dX5_add_38 ?_
    refine ab_iconst (v := 1) h dX5_add_41 (by decide) ?_
    obtain rfl := Option.some.inj hf
    exact ab_zret h he [] rfl (Or.inr rfl) rfl rfl rfl rfl dX5_add_42
  · refine ab_iconst (v := 0) h dX5_add_9 (by decide) ?_
    obtain rfl := Option.some.inj hf
    exact ab_zret h he [] rfl (Or.inl rfl) rfl rfl rfl rfl dX5_add_10
theorem c_X5_add (l : Launch) (K : Kx) (a_s : Nat → Nat) (c_s_speaker : Nat → Int32) (c_s_said : Nat → Int32) (c_s_length : Int32) (x1 : Int32) (x2 : Int32) (r : Int32 × (Nat → Int32) × (Nat → Int32) × Int32) (hf : f_X5_add c_s_speaker c_s_said c_s_length x1 x2 = some r) : Ct l yX5_add cX5_add 3 (some .boolean) rX5_add K [.ref (a_s 0), .int x1, .int x2] (wSayings K.2.1 K.2.2.1 a_s c_s_speaker c_s_said c_s_length) (some (.int r.1)) (fun _ => wSayings K.2.1 K.2.2.1 a_s r.2.1 r.2.2.1 r.2.2.2) := by
  refine Ct.of (by decide +kernel) (Nat.le_of_ble_eq_true rfl) ?_
  intro G hl hK h he
  subst hl
  subst hK
  exact t_X5_add_0 h he hf

-- BowlState$Sayings.mayCome
abbrev rX5_mayCome : Room := { frames := 0, cells := 0, slots := 0, locals := 0 }
def f_X5_mayCome_2 (c_p_lips : Int32) (c_p_error : Nat → Int32) (x0 : Int32) (x1 : Int32) (k2 : Int32 → Option Int32) (x3 : Int32) : Option Int32 := if c_p_lips ≤ x3 then (some 0) else (rd 4 c_p_error x3 (fun v2 => nz 10 (if (jrem (x0 + v2) 10) = x1 then (some 1) else (k2 (x3 + 1)))))
def g_X5_mayCome_2 (c_p_lips : Int32) (c_p_error : Nat → Int32) (x0 : Int32) (x1 : Int32) (k2 : Int32 → Option Int32) (s : Int32) : Option Int32 := f_X5_mayCome_2 c_p_lips c_p_error x0 x1 k2 s
set_option maxRecDepth 100000 in
set_option maxHeartbeats 4000000 in
theorem t_X5_mayCome_2 {G : Cx} (h : Am G yX5_mayCome cX5_mayCome 4 (some .boolean) rX5_mayCome) {a_p : Nat → Nat} {c_p_bowls : Int32} {c_p_fishes : Int32} {c_p_lips : Int32} {c_p_hours : Nat → Int32} {c_p_start : Nat → Int32} {c_p_first : Nat → Int32} {c_p_kind : Nat → Int32} {c_p_post : Nat → Int32} {c_p_error : Nat → Int32} {r : Int32} (he : En G rX5_mayCome (some (.int r)) (fun _ => wPlan (g_K G).2.1 (g_K G).2.2.1 a_p c_p_bowls c_p_fishes c_p_lips c_p_hours c_p_start c_p_first c_p_kind c_p_post c_p_error)) {x0 : Int32} {x1 : Int32} (n : Nat) (s : Int32) (hf : loopN (g_X5_mayCome_2 c_p_lips c_p_error x0 x1) n s = some r) : AB G 0 0 (wPlan (g_K G).2.1 (g_K G).2.2.1 a_p c_p_bowls c_p_fishes c_p_lips c_p_hours c_p_start c_p_first c_p_kind c_p_post c_p_error) [(0, .int x0), (1, .int x1), (2, .ref (a_p 0)), (3, .int s)] 2 [] := by
  refine loopN_all (fun s => AB G 0 0 (wPlan (g_K G).2.1 (g_K G).2.2.1 a_p c_p_bowls c_p_fishes c_p_lips c_p_hours c_p_start c_p_first c_p_kind c_p_post c_p_error) [(0, .int x0), (1, .int x1), (2, .ref (a_p 0)), (3, .int s)] 2 []) (fun k2 hk2 s hf => ?_) n s hf
  obtain ⟨x3, rfl⟩ : ∃ z, z = s := ⟨_, rfl⟩
  change f_X5_mayCome_2 c_p_lips c_p_error x0 x1 k2 x3 = some r at hf
  unfold f_X5_mayCome_2 at hf
  show AB G 0 0 (wPlan (g_K G).2.1 (g_K G).2.2.1 a_p c_p_bowls c_p_fishes c_p_lips c_p_hours c_p_start c_p_first c_p_kind c_p_post c_p_error) [(0, .int x0), (1, .int x1), (2, .ref (a_p 0)), (3, .int x3)] 2 []
  refine ab_iload_n h 3 rfl rfl dX5_mayCome_2 ?_
  refine ab_aload_n h 2 rfl rfl dX5_mayCome_3 ?_
  refine ab_get h in_X3 0 rfl rfl 2 (by decide) fl_X5_29 rfl dX5_mayCome_4 ?_
  refine ab_icmp_ge (tgt := 33) h dX5_mayCome_7 (by decide) (fun hf => ?_) (fun hf => ?_) hf
  · refine ab_iconst (v := 0) h dX5_mayCome_33 (by decide) ?_
    obtain rfl := Option.some.inj hf
    exact ab_zret h he [] rfl (Or.inl rfl) rfl rfl rfl rfl dX5_mayCome_34
  · refine ab_iload_n h 0 rfl rfl dX5_mayCome_10 ?_
    refine ab_aload_n h 2 rfl rfl dX5_mayCome_11 ?_
    refine ab_get h in_X3 0 rfl rfl 8 (by decide) fl_X5_34 rfl dX5_mayCome_12 ?_
    refine ab_iload_n h 3 rfl rfl dX5_mayCome_15 ?_
    refine ab_iald h 6 rfl dX5_mayCome_16 (fun v2 hf => ?_) hf
    refine ab_iadd h dX5_mayCome_17 ?_
    refine ab_bipush (v := 10) h dX5_mayCome_18 (by decide) ?_
    refine ab_irem h dX5_mayCome_20 (fun hf => ?_) hf
    refine ab_iload_n h 1 rfl rfl dX5_mayCome_21 ?_
    refine ab_icmp_ne (tgt := 27) h dX5_mayCome_22 (by decide) (fun hf => ?_) (fun hf => ?_) hf
    · refine ab_iinc (v := x3 + 1) h 3 [1, 2, 3, 0] [(0, .int x0), (1, .int x1), (2, .ref (a_p 0)), (3, .int (x3 + 1))] rfl rfl (by decide) rfl dX5_mayCome_27 ?_
      refine ab_goto (tgt := 2) h dX5_mayCome_30 (by decide) ?_
      exact hk2 (x3 + 1) hf
    · refine ab_iconst (v := 1) h dX5_mayCome_25 (by decide) ?_
      obtain rfl := Option.some.inj hf
      exact ab_zret h he [] rfl (Or.inr rfl) rfl rfl rfl rfl dX5_mayCome_26
def f_X5_mayCome (c_p_lips : Int32) (c_p_error : Nat → Int32) (x0 : Int32) (x1 : Int32) : Option Int32 := loopN (g_X5_mayCome_2 c_p_lips c_p_error x0 x1) 100 0
set_option maxRecDepth 100000 in
set_option maxHeartbeats 4000000 in
theorem t_X5_mayCome_0 {G : Cx} (h : Am G yX5_mayCome cX5_mayCome 4 (some .boolean) rX5_mayCome) {a_p : Nat → Nat} {c_p_bowls : Int32} {c_p_fishes : Int32} {c_p_lips : Int32} {c_p_hours : Nat → Int32} {c_p_start : Nat → Int32} {c_p_first : Nat → Int32} {c_p_kind : Nat → Int32} {c_p_post : Nat → Int32} {c_p_error : Nat → Int32} {r : Int32} (he : En G rX5_mayCome (some (.int r)) (fun _ => wPlan (g_K G).2.1 (g_K G).2.2.1 a_p c_p_bowls c_p_fishes c_p_lips c_p_hours c_p_start c_p_first c_p_kind c_p_post c_p_error)) {x0 : Int32} {x1 : Int32} (hf : f_X5_mayCome c_p_lips c_p_error x0 x1 = some r) : AB G 0 0 (wPlan (g_K G).2.1 (g_K G).2.2.1 a_p c_p_bowls c_p_fishes c_p_lips c_p_hours c_p_start c_p_first c_p_kind c_p_post c_p_error) [(0, .int x0), (1, .int x1), (2, .ref (a_p 0))] 0 [] := by
  unfold f_X5_mayCome at hf
  refine ab_iconst (v := 0) h dX5_mayCome_0 (by decide) ?_
  refine ab_istore_n h [1, 2, 3, 0] [(0, .int x0), (1, .int x1), (2, .ref (a_p 0)), (3, .int 0)] rfl (by decide) rfl dX5_mayCome_1 ?_
  exact t_X5_mayCome_2 h he 100 0 hf
theorem c_X5_mayCome (l : Launch) (K : Kx) (a_p : Nat → Nat) (c_p_bowls : Int32) (c_p_fishes : Int32) (c_p_lips : Int32) (c_p_hours : Nat → Int32) (c_p_start : Nat → Int32) (c_p_first : Nat → Int32) (c_p_kind : Nat → Int32) (c_p_post : Nat → Int32) (c_p_error : Nat → Int32) (x0 : Int32) (x1 : Int32) (r : Int32) (hf : f_X5_mayCome c_p_lips c_p_error x0 x1 = some r) : Ct l yX5_mayCome cX5_mayCome 4 (some .boolean) rX5_mayCome K [.int x0, .int x1, .ref (a_p 0)] (wPlan K.2.1 K.2.2.1 a_p c_p_bowls c_p_fishes c_p_lips c_p_hours c_p_start c_p_first c_p_kind c_p_post c_p_error) (some (.int r)) (fun _ => wPlan K.2.1 K.2.2.1 a_p c_p_bowls c_p_fishes c_p_lips c_p_hours c_p_start c_p_first c_p_kind c_p_post c_p_error) := by
  refine Ct.of (by decide +kernel) (Nat.le_of_ble_eq_true rfl) ?_
  intro G hl hK h he
  subst hl
  subst hK
  exact t_X5_mayCome_0 h he hf

-- BowlState$Sayings.fits
abbrev rX5_fits : Room := { frames := 1, cells := 0, slots := 0, locals := 23 }
def f_X5_fits_40 (k3 : Int32 → Option Int32) (x4 : Int32) : Option Int32 := k3 (x4 + 1)
set_option maxRecDepth 100000 in
set_option maxHeartbeats 4000000 in
theorem t_X5_fits_40 {G : Cx} (h : Am G yX5_fits cX5_fits 5 (some .boolean) rX5_fits) {a_s a_p : Nat → Nat} {c_s_speaker : Nat → Int32} {c_s_said : Nat → Int32} {c_s_length : Int32} {c_p_bowls : Int32} {c_p_fishes : Int32} {c_p_lips : Int32} {c_p_hours : Nat → Int32} {c_p_start : Nat → Int32} {c_p_first : Nat → Int32} {c_p_kind : Nat → Int32} {c_p_post : Nat → Int32} {c_p_error : Nat → Int32} {r : Int32} (he : En G rX5_fits (some (.int r)) (fun _ => wSayings (g_K G).2.1 (g_K G).2.2.1 a_s c_s_speaker c_s_said c_s_length ++ wPlan (g_K G).2.1 (g_K G).2.2.1 a_p c_p_bowls c_p_fishes c_p_lips c_p_hours c_p_start c_p_first c_p_kind c_p_post c_p_error)) {x1 : Int32} {x2 : Int32} {x4 : Int32} (k3 : Int32 → Option Int32) (hk3 : ∀ s : Int32, k3 s = some r → AB G 0 0 (wSayings (g_K G).2.1 (g_K G).2.2.1 a_s c_s_speaker c_s_said c_s_length ++ wPlan (g_K G).2.1 (g_K G).2.2.1 a_p c_p_bowls c_p_fishes c_p_lips c_p_hours c_p_start c_p_first c_p_kind c_p_post c_p_error) [(0, .ref (a_s 0)), (1, .int x1), (2, .int x2), (3, .ref (a_p 0)), (4, .int s)] 3 []) (hf : f_X5_fits_40 k3 x4 = some r) : AB G 0 0 (wSayings (g_K G).2.1 (g_K G).2.2.1 a_s c_s_speaker c_s_said c_s_length ++ wPlan (g_K G).2.1 (g_K G).2.2.1 a_p c_p_bowls c_p_fishes c_p_lips c_p_hours c_p_start c_p_first c_p_kind c_p_post c_p_error) [(0, .ref (a_s 0)), (1, .int x1), (2, .int x2), (3, .ref (a_p 0)), (4, .int x4)] 40 [] := by
  unfold f_X5_fits_40 at hf
  refine ab_iinc (v := x4 + 1) h 4 [1, 2, 3, 4, 0] [(0, .ref (a_s 0)), (1, .int x1), (2, .int x2), (3, .ref (a_p 0)), (4, .int (x4 + 1))] rfl rfl (by decide) rfl dX5_fits_40 ?_
  refine ab_goto (tgt := 3) h dX5_fits_43 (by decide) ?_
  exact hk3 (x4 + 1) hf
def f_X5_fits_3 (c_s_speaker : Nat → Int32) (c_s_said : Nat → Int32) (c_s_length : Int32) (c_p_lips : Int32) (c_p_error : Nat → Int32) (x1 : Int32) (x2 : Int32) (k3 : Int32 → Option Int32) (x4 : Int32) : Option Int32 := if c_s_length ≤ x4 then (some 1) else (rd 6 c_s_speaker x4 (fun v4 => if v4 = x1 then (rd 6 c_s_said x4 (fun v5 => (f_X5_mayCome c_p_lips c_p_error x2 v5).bind (fun w6 => if w6 = 0 then (some 0) else (f_X5_fits_40 k3 x4)))) else (f_X5_fits_40 k3 x4)))
def g_X5_fits_3 (c_s_speaker : Nat → Int32) (c_s_said : Nat → Int32) (c_s_length : Int32) (c_p_lips : Int32) (c_p_error : Nat → Int32) (x1 : Int32) (x2 : Int32) (k3 : Int32 → Option Int32) (s : Int32) : Option Int32 := f_X5_fits_3 c_s_speaker c_s_said c_s_length c_p_lips c_p_error x1 x2 k3 s
set_option maxRecDepth 100000 in
set_option maxHeartbeats 4000000 in
theorem t_X5_fits_3 {G : Cx} (h : Am G yX5_fits cX5_fits 5 (some .boolean) rX5_fits) {a_s a_p : Nat → Nat} {c_s_speaker : Nat → Int32} {c_s_said : Nat → Int32} {c_s_length : Int32} {c_p_bowls : Int32} {c_p_fishes : Int32} {c_p_lips : Int32} {c_p_hours : Nat → Int32} {c_p_start : Nat → Int32} {c_p_first : Nat → Int32} {c_p_kind : Nat → Int32} {c_p_post : Nat → Int32} {c_p_error : Nat → Int32} {r : Int32} (he : En G rX5_fits (some (.int r)) (fun _ => wSayings (g_K G).2.1 (g_K G).2.2.1 a_s c_s_speaker c_s_said c_s_length ++ wPlan (g_K G).2.1 (g_K G).2.2.1 a_p c_p_bowls c_p_fishes c_p_lips c_p_hours c_p_start c_p_first c_p_kind c_p_post c_p_error)) {x1 : Int32} {x2 : Int32} (n : Nat) (s : Int32) (hf : loopN (g_X5_fits_3 c_s_speaker c_s_said c_s_length c_p_lips c_p_error x1 x2) n s = some r) : AB G 0 0 (wSayings (g_K G).2.1 (g_K G).2.2.1 a_s c_s_speaker c_s_said c_s_length ++ wPlan (g_K G).2.1 (g_K G).2.2.1 a_p c_p_bowls c_p_fishes c_p_lips c_p_hours c_p_start c_p_first c_p_kind c_p_post c_p_error) [(0, .ref (a_s 0)), (1, .int x1), (2, .int x2), (3, .ref (a_p 0)), (4, .int s)] 3 [] := by
  refine loopN_all (fun s => AB G 0 0 (wSayings (g_K G).2.1 (g_K G).2.2.1 a_s c_s_speaker c_s_said c_s_length ++ wPlan (g_K G).2.1 (g_K G).2.2.1 a_p c_p_bowls c_p_fishes c_p_lips c_p_hours c_p_start c_p_first c_p_kind c_p_post c_p_error) [(0, .ref (a_s 0)), (1, .int x1), (2, .int x2), (3, .ref (a_p 0)), (4, .int s)] 3 []) (fun k3 hk3 s hf => ?_) n s hf
  obtain ⟨x4, rfl⟩ : ∃ z, z = s := ⟨_, rfl⟩
  change f_X5_fits_3 c_s_speaker c_s_said c_s_length c_p_lips c_p_error x1 x2 k3 x4 = some r at hf
  unfold f_X5_fits_3 at hf
  show AB G 0 0 (wSayings (g_K G).2.1 (g_K G).2.2.1 a_s c_s_speaker c_s_said c_s_length ++ wPlan (g_K G).2.1 (g_K G).2.2.1 a_p c_p_bowls c_p_fishes c_p_lips c_p_hours c_p_start c_p_first c_p_kind c_p_post c_p_error) [(0, .ref (a_s 0)), (1, .int x1), (2, .int x2), (3, .ref (a_p 0)), (4, .int x4)] 3 []
  refine ab_iload h 4 rfl dX5_fits_3 ?_
  refine ab_aload_n h 0 rfl rfl dX5_fits_5 ?_
  refine ab_get h in_X5 0 rfl rfl 2 (by decide) fl_X5_18 rfl dX5_fits_6 ?_
  refine ab_icmp_ge (tgt := 46) h dX5_fits_9 (by decide) (fun hf => ?_) (fun hf => ?_) hf
  · refine ab_iconst (v := 1) h dX5_fits_46 (by decide) ?_
    obtain rfl := Option.some.inj hf
    exact ab_zret h he [] rfl (Or.inr rfl) rfl rfl rfl rfl dX5_fits_47
  · refine ab_aload_n h 0 rfl rfl dX5_fits_12 ?_
    refine ab_get h in_X5 0 rfl rfl 0 (by decide) fl_X5_9 rfl dX5_fits_13 ?_
    refine ab_iload h 4 rfl dX5_fits_16 ?_
    refine ab_iald h 1 rfl dX5_fits_18 (fun v4 hf => ?_) hf
    refine ab_iload_n h 1 rfl rfl dX5_fits_19 ?_
    refine ab_icmp_ne (tgt := 40) h dX5_fits_20 (by decide) (fun hf => ?_) (fun hf => ?_) hf
    · exact t_X5_fits_40 h he k3 hk3 hf
    · refine ab_iload_n h 2 rfl rfl dX5_fits_23 ?_
      refine ab_aload_n h 0 rfl rfl dX5_fits_24 ?_
      refine ab_get h in_X5 0 rfl rfl 1 (by decide) fl_X5_15 rfl dX5_fits_25 ?_
      refine ab_iload h 4 rfl dX5_fits_28 ?_
      refine ab_iald h 2 rfl dX5_fits_30 (fun v5 hf => ?_) hf
      refine ab_aload_n h 3 rfl rfl dX5_fits_31 ?_
      obtain ⟨w6, hw6, hf⟩ := bind_inv hf
      refine ab_cut (wr := wSayings (g_K G).2.1 (g_K G).2.2.1 a_s c_s_speaker c_s_said c_s_length) h (run_S (As := [.int x2, .int v5, .ref (a_p 0)]) (st := []) h (c_X5_mayCome (g_l G) (g_K G) a_p c_p_bowls c_p_fishes c_p_lips c_p_hours c_p_start c_p_first c_p_kind c_p_post c_p_error x2 v5 w6 hw6) ok_X5_mayCome ml_X5_26 ⟨⟨Nat.le_of_ble_eq_true rfl, Nat.le_of_ble_eq_true rfl⟩, ⟨Nat.le_of_ble_eq_true rfl, Nat.le_of_ble_eq_true rfl⟩, Nat.le_of_ble_eq_true rfl⟩ dX5_fits_32 rfl) [3, 4, 5, 6, 7, 8, 9] [0, 1, 2] rfl rfl rfl rfl rfl (by decide) [0, 1, 2, 3, 4, 5, 6, 7, 8, 9] (wSayings (g_K G).2.1 (g_K G).2.2.1 a_s c_s_speaker c_s_said c_s_length ++ wPlan (g_K G).2.1 (g_K G).2.2.1 a_p c_p_bowls c_p_fishes c_p_lips c_p_hours c_p_start c_p_first c_p_kind c_p_post c_p_error) (wPlan (g_K G).2.1 (g_K G).2.2.1 a_p c_p_bowls c_p_fishes c_p_lips c_p_hours c_p_start c_p_first c_p_kind c_p_post c_p_error) (fun _ => rfl) rfl rfl rfl [.int w6] rfl rfl rfl ?_
      refine ab_if_ne (tgt := 40) h dX5_fits_35 (by decide) (fun hf => ?_) (fun hf => ?_) hf
      · exact t_X5_fits_40 h he k3 hk3 hf
      · refine ab_iconst (v := 0) h dX5_fits_38 (by decide) ?_
        obtain rfl := Option.some.inj hf
        exact ab_zret h he [] rfl (Or.inl rfl) rfl rfl rfl rfl dX5_fits_39
def f_X5_fits (c_s_speaker : Nat → Int32) (c_s_said : Nat → Int32) (c_s_length : Int32) (c_p_lips : Int32) (c_p_error : Nat → Int32) (x1 : Int32) (x2 : Int32) : Option Int32 := loopN (g_X5_fits_3 c_s_speaker c_s_said c_s_length c_p_lips c_p_error x1 x2) 100 0
set_option maxRecDepth 100000 in
set_option maxHeartbeats 4000000 in
theorem t_X5_fits_0 {G : Cx} (h : Am G yX5_fits cX5_fits 5 (some .boolean) rX5_fits) {a_s a_p : Nat → Nat} {c_s_speaker : Nat → Int32} {c_s_said : Nat → Int32} {c_s_length : Int32} {c_p_bowls : Int32} {c_p_fishes : Int32} {c_p_lips : Int32} {c_p_hours : Nat → Int32} {c_p_start : Nat → Int32} {c_p_first : Nat → Int32} {c_p_kind : Nat → Int32} {c_p_post : Nat → Int32} {c_p_error : Nat → Int32} {r : Int32} (he : En G rX5_fits (some (.int r)) (fun _ => wSayings (g_K G).2.1 (g_K G).2.2.1 a_s c_s_speaker c_s_said c_s_length ++ wPlan (g_K G).2.1 (g_K G).2.2.1 a_p c_p_bowls c_p_fishes c_p_lips c_p_hours c_p_start c_p_first c_p_kind c_p_post c_p_error)) {x1 : Int32} {x2 : Int32} (hf : f_X5_fits c_s_speaker c_s_said c_s_length c_p_lips c_p_error x1 x2 = some r) : AB G 0 0 (wSayings (g_K G).2.1 (g_K G).2.2.1 a_s c_s_speaker c_s_said c_s_length ++ wPlan (g_K G).2.1 (g_K G).2.2.1 a_p c_p_bowls c_p_fishes c_p_lips c_p_hours c_p_start c_p_first c_p_kind c_p_post c_p_error) [(0, .ref (a_s 0)), (1, .int x1), (2, .int x2), (3, .ref (a_p 0))] 0 [] := by
  unfold f_X5_fits at hf
  refine ab_iconst (v := 0) h dX5_fits_0 (by decide) ?_
  refine ab_istore h [1, 2, 3, 4, 0] [(0, .ref (a_s 0)), (1, .int x1), (2, .int x2), (3, .ref (a_p 0)), (4, .int 0)] (by decide) rfl dX5_fits_1 ?_
  exact t_X5_fits_3 h he 100 0 hf
theorem c_X5_fits (l : Launch) (K : Kx) (a_s a_p : Nat → Nat) (c_s_speaker : Nat → Int32) (c_s_said : Nat → Int32) (c_s_length : Int32) (c_p_bowls : Int32) (c_p_fishes : Int32) (c_p_lips : Int32) (c_p_hours : Nat → Int32) (c_p_start : Nat → Int32) (c_p_first : Nat → Int32) (c_p_kind : Nat → Int32) (c_p_post : Nat → Int32) (c_p_error : Nat → Int32) (x1 : Int32) (x2 : Int32) (r : Int32) (hf : f_X5_fits c_s_speaker c_s_said c_s_length c_p_lips c_p_error x1 x2 = some r) : Ct l yX5_fits cX5_fits 5 (some .boolean) rX5_fits K [.ref (a_s 0), .int x1, .int x2, .ref (a_p 0)] (wSayings K.2.1 K.2.2.1 a_s c_s_speaker c_s_said c_s_length ++ wPlan K.2.1 K.2.2.1 a_p c_p_bowls c_p_fishes c_p_lips c_p_hours c_p_start c_p_first c_p_kind c_p_post c_p_error) (some (.int r)) (fun _ => wSayings K.2.1 K.2.2.1 a_s c_s_speaker c_s_said c_s_length ++ wPlan K.2.1 K.2.2.1 a_p c_p_bowls c_p_fishes c_p_lips c_p_hours c_p_start c_p_first c_p_kind c_p_post c_p_error) := by
  refine Ct.of (by decide +kernel) (Nat.le_of_ble_eq_true rfl) ?_
  intro G hl hK h he
  subst hl
  subst hK
  exact t_X5_fits_0 h he hf

-- BowlState$Sayings.possibleFirsts
abbrev rX5_possibleFirsts : Room := { frames := 2, cells := 0, slots := 0, locals := 47 }
def f_X5_possibleFirsts_30 (k5 : (Int32 × Int32) → Option Int32) (x3 : Int32) (x4 : Int32) : Option Int32 := k5 (x3, x4 + 1)
set_option maxRecDepth 100000 in
set_option maxHeartbeats 4000000 in
theorem t_X5_possibleFirsts_30 {G : Cx} (h : Am G yX5_possibleFirsts cX5_possibleFirsts 5 (some .int) rX5_possibleFirsts) {a_s a_p : Nat → Nat} {c_s_speaker : Nat → Int32} {c_s_said : Nat → Int32} {c_s_length : Int32} {c_p_bowls : Int32} {c_p_fishes : Int32} {c_p_lips : Int32} {c_p_hours : Nat → Int32} {c_p_start : Nat → Int32} {c_p_first : Nat → Int32} {c_p_kind : Nat → Int32} {c_p_post : Nat → Int32} {c_p_error : Nat → Int32} {r : Int32} (he : En G rX5_possibleFirsts (some (.int r)) (fun _ => wSayings (g_K G).2.1 (g_K G).2.2.1 a_s c_s_speaker c_s_said c_s_length ++ wPlan (g_K G).2.1 (g_K G).2.2.1 a_p c_p_bowls c_p_fishes c_p_lips c_p_hours c_p_start c_p_first c_p_kind c_p_post c_p_error)) {x1 : Int32} {x3 : Int32} {x4 : Int32} (k5 : (Int32 × Int32) → Option Int32) (hk5 : ∀ s : Int32 × Int32, k5 s = some r → AB G 0 0 (wSayings (g_K G).2.1 (g_K G).2.2.1 a_s c_s_speaker c_s_said c_s_length ++ wPlan (g_K G).2.1 (g_K G).2.2.1 a_p c_p_bowls c_p_fishes c_p_lips c_p_hours c_p_start c_p_first c_p_kind c_p_post c_p_error) [(0, .ref (a_s 0)), (1, .int x1), (2, .ref (a_p 0)), (3, .int s.1), (4, .int s.2)] 5 []) (hf : f_X5_possibleFirsts_30 k5 x3 x4 = some r) : AB G 0 0 (wSayings (g_K G).2.1 (g_K G).2.2.1 a_s c_s_speaker c_s_said c_s_length ++ wPlan (g_K G).2.1 (g_K G).2.2.1 a_p c_p_bowls c_p_fishes c_p_lips c_p_hours c_p_start c_p_first c_p_kind c_p_post c_p_error) [(0, .ref (a_s 0)), (1, .int x1), (2, .ref (a_p 0)), (3, .int x3), (4, .int x4)] 30 [] := by
  unfold f_X5_possibleFirsts_30 at hf
  refine ab_iinc (v := x4 + 1) h 4 [1, 2, 3, 4, 0] [(0, .ref (a_s 0)), (1, .int x1), (2, .ref (a_p 0)), (3, .int x3), (4, .int (x4 + 1))] rfl rfl (by decide) rfl dX5_possibleFirsts_30 ?_
  refine ab_goto (tgt := 5) h dX5_possibleFirsts_33 (by decide) ?_
  exact hk5 (x3, x4 + 1) hf
def f_X5_possibleFirsts_5 (c_s_speaker : Nat → Int32) (c_s_said : Nat → Int32) (c_s_length : Int32) (c_p_lips : Int32) (c_p_error : Nat → Int32) (x1 : Int32) (k5 : (Int32 × Int32) → Option Int32) (x3 : Int32) (x4 : Int32) : Option Int32 := if 9 < x4 then (some x3) else ((f_X5_fits c_s_speaker c_s_said c_s_length c_p_lips c_p_error x1 x4).bind (fun w2 => if w2 = 0 then (f_X5_possibleFirsts_30 k5 x3 x4) else (f_X5_possibleFirsts_30 k5 (x3 ||| (jshl 1 x4)) x4)))
def g_X5_possibleFirsts_5 (c_s_speaker : Nat → Int32) (c_s_said : Nat → Int32) (c_s_length : Int32) (c_p_lips : Int32) (c_p_error : Nat → Int32) (x1 : Int32) (k5 : (Int32 × Int32) → Option Int32) (s : Int32 × Int32) : Option Int32 := f_X5_possibleFirsts_5 c_s_speaker c_s_said c_s_length c_p_lips c_p_error x1 k5 s.1 s.2
set_option maxRecDepth 100000 in
set_option maxHeartbeats 4000000 in
theorem t_X5_possibleFirsts_5 {G : Cx} (h : Am G yX5_possibleFirsts cX5_possibleFirsts 5 (some .int) rX5_possibleFirsts) {a_s a_p : Nat → Nat} {c_s_speaker : Nat → Int32} {c_s_said : Nat → Int32} {c_s_length : Int32} {c_p_bowls : Int32} {c_p_fishes : Int32} {c_p_lips : Int32} {c_p_hours : Nat → Int32} {c_p_start : Nat → Int32} {c_p_first : Nat → Int32} {c_p_kind : Nat → Int32} {c_p_post : Nat → Int32} {c_p_error : Nat → Int32} {r : Int32} (he : En G rX5_possibleFirsts (some (.int r)) (fun _ => wSayings (g_K G).2.1 (g_K G).2.2.1 a_s c_s_speaker c_s_said c_s_length ++ wPlan (g_K G).2.1 (g_K G).2.2.1 a_p c_p_bowls c_p_fishes c_p_lips c_p_hours c_p_start c_p_first c_p_kind c_p_post c_p_error)) {x1 : Int32} (n : Nat) (s : Int32 × Int32) (hf : loopN (g_X5_possibleFirsts_5 c_s_speaker c_s_said c_s_length c_p_lips c_p_error x1) n s = some r) : AB G 0 0 (wSayings (g_K G).2.1 (g_K G).2.2.1 a_s c_s_speaker c_s_said c_s_length ++ wPlan (g_K G).2.1 (g_K G).2.2.1 a_p c_p_bowls c_p_fishes c_p_lips c_p_hours c_p_start c_p_first c_p_kind c_p_post c_p_error) [(0, .ref (a_s 0)), (1, .int x1), (2, .ref (a_p 0)), (3, .int s.1), (4, .int s.2)] 5 [] := by
  refine loopN_all (fun s => AB G 0 0 (wSayings (g_K G).2.1 (g_K G).2.2.1 a_s c_s_speaker c_s_said c_s_length ++ wPlan (g_K G).2.1 (g_K G).2.2.1 a_p c_p_bowls c_p_fishes c_p_lips c_p_hours c_p_start c_p_first c_p_kind c_p_post c_p_error) [(0, .ref (a_s 0)), (1, .int x1), (2, .ref (a_p 0)), (3, .int s.1), (4, .int s.2)] 5 []) (fun k5 hk5 s hf => ?_) n s hf
  obtain ⟨x3, x4⟩ := s
  change f_X5_possibleFirsts_5 c_s_speaker c_s_said c_s_length c_p_lips c_p_error x1 k5 x3 x4 = some r at hf
  unfold f_X5_possibleFirsts_5 at hf
  show AB G 0 0 (wSayings (g_K G).2.1 (g_K G).2.2.1 a_s c_s_speaker c_s_said c_s_length ++ wPlan (g_K G).2.1 (g_K G).2.2.1 a_p c_p_bowls c_p_fishes c_p_lips c_p_hours c_p_start c_p_first c_p_kind c_p_post c_p_error) [(0, .ref (a_s 0)), (1, .int x1), (2, .ref (a_p 0)), (3, .int x3), (4, .int x4)] 5 []
  refine ab_iload h 4 rfl dX5_possibleFirsts_5 ?_
  refine ab_bipush (v := 9) h dX5_possibleFirsts_7 (by decide) ?_
  refine ab_icmp_gt (tgt := 36) h dX5_possibleFirsts_9 (by decide) (fun hf => ?_) (fun hf => ?_) hf
  · refine ab_iload_n h 3 rfl rfl dX5_possibleFirsts_36 ?_
    obtain rfl := Option.some.inj hf
    exact ab_iret h he [] rfl rfl rfl rfl rfl dX5_possibleFirsts_37
  · refine ab_aload_n h 0 rfl rfl dX5_possibleFirsts_12 ?_
    refine ab_iload_n h 1 rfl rfl dX5_possibleFirsts_13 ?_
    refine ab_iload h 4 rfl dX5_possibleFirsts_14 ?_
    refine ab_aload_n h 2 rfl rfl dX5_possibleFirsts_16 ?_
    obtain ⟨w2, hw2, hf⟩ := bind_inv hf
    refine ab_call0 h (run_V (As := [.int x1, .int x4, .ref (a_p 0)]) (st := []) h (c_X5_fits (g_l G) (g_K G) a_s a_p c_s_speaker c_s_said c_s_length c_p_bowls c_p_fishes c_p_lips c_p_hours c_p_start c_p_first c_p_kind c_p_post c_p_error x1 x4 w2 hw2) ok_X5_fits 0 rfl rfl ml_X5_22 ⟨⟨Nat.le_of_ble_eq_true rfl, Nat.le_of_ble_eq_true rfl⟩, ⟨Nat.le_of_ble_eq_true rfl, Nat.le_of_ble_eq_true rfl⟩, Nat.le_of_ble_eq_true rfl⟩ dX5_possibleFirsts_17 rfl) (wSayings (g_K G).2.1 (g_K G).2.2.1 a_s c_s_speaker c_s_said c_s_length ++ wPlan (g_K G).2.1 (g_K G).2.2.1 a_p c_p_bowls c_p_fishes c_p_lips c_p_hours c_p_start c_p_first c_p_kind c_p_post c_p_error) (fun _ => rfl) [.int w2] rfl rfl rfl ?_
    refine ab_if_eq (tgt := 30) h dX5_possibleFirsts_20 (by decide) (fun hf => ?_) (fun hf => ?_) hf
    · exact t_X5_possibleFirsts_30 h he k5 hk5 hf
    · refine ab_iload_n h 3 rfl rfl dX5_possibleFirsts_23 ?_
      refine ab_iconst (v := 1) h dX5_possibleFirsts_24 (by decide) ?_
      refine ab_iload h 4 rfl dX5_possibleFirsts_25 ?_
      refine ab_ishl h dX5_possibleFirsts_27 ?_
      refine ab_ior h dX5_possibleFirsts_28 ?_
      refine ab_istore_n h [1, 2, 3, 0, 4] [(0, .ref (a_s 0)), (1, .int x1), (2, .ref (a_p 0)), (3, .int (x3 ||| (jshl 1 x4))), (4, .int x4)] rfl (by decide) rfl dX5_possibleFirsts_29 ?_
      exact t_X5_possibleFirsts_30 h he k5 hk5 hf
def f_X5_possibleFirsts (c_s_speaker : Nat → Int32) (c_s_said : Nat → Int32) (c_s_length : Int32) (c_p_lips : Int32) (c_p_error : Nat → Int32) (x1 : Int32) : Option Int32 := loopN (g_X5_possibleFirsts_5 c_s_speaker c_s_said c_s_length c_p_lips c_p_error x1) 100 (0, 0)
set_option maxRecDepth 100000 in
set_option maxHeartbeats 4000000 in
theorem t_X5_possibleFirsts_0 {G : Cx} (h : Am G yX5_possibleFirsts cX5_possibleFirsts 5 (some .int) rX5_possibleFirsts) {a_s a_p : Nat → Nat} {c_s_speaker : Nat → Int32} {c_s_said : Nat → Int32} {c_s_length : Int32} {c_p_bowls : Int32} {c_p_fishes : Int32} {c_p_lips : Int32} {c_p_hours : Nat → Int32} {c_p_start : Nat → Int32} {c_p_first : Nat → Int32} {c_p_kind : Nat → Int32} {c_p_post : Nat → Int32} {c_p_error : Nat → Int32} {r : Int32} (he : En G rX5_possibleFirsts (some (.int r)) (fun _ => wSayings (g_K G).2.1 (g_K G).2.2.1 a_s c_s_speaker c_s_said c_s_length ++ wPlan (g_K G).2.1 (g_K G).2.2.1 a_p c_p_bowls c_p_fishes c_p_lips c_p_hours c_p_start c_p_first c_p_kind c_p_post c_p_error)) {x1 : Int32} (hf : f_X5_possibleFirsts c_s_speaker c_s_said c_s_length c_p_lips c_p_error x1 = some r) : AB G 0 0 (wSayings (g_K G).2.1 (g_K G).2.2.1 a_s c_s_speaker c_s_said c_s_length ++ wPlan (g_K G).2.1 (g_K G).2.2.1 a_p c_p_bowls c_p_fishes c_p_lips c_p_hours c_p_start c_p_first c_p_kind c_p_post c_p_error) [(0, .ref (a_s 0)), (1, .int x1), (2, .ref (a_p 0))] 0 [] := by
  unfold f_X5_possibleFirsts at hf
  refine ab_iconst (v := 0) h dX5_possibleFirsts_0 (by decide) ?_
  refine ab_istore_n h [1, 2, 3, 0] [(0, .ref (a_s 0)), (1, .int x1), (2, .ref (a_p 0)), (3, .int 0)] rfl (by decide) rfl dX5_possibleFirsts_1 ?_
  refine ab_iconst (v := 0) h dX5_possibleFirsts_2 (by decide) ?_
  refine ab_istore h [1, 2, 3, 4, 0] [(0, .ref (a_s 0)), (1, .int x1), (2, .ref (a_p 0)), (3, .int 0), (4, .int 0)] (by decide) rfl dX5_possibleFirsts_3 ?_
  exact t_X5_possibleFirsts_5 h he 100 (0, 0) hf
theorem c_X5_possibleFirsts (l : Launch) (K : Kx) (a_s a_p : Nat → Nat) (c_s_speaker : Nat → Int32) (c_s_said : Nat → Int32) (c_s_length : Int32) (c_p_bowls : Int32) (c_p_fishes : Int32) (c_p_lips : Int32) (c_p_hours : Nat → Int32) (c_p_start : Nat → Int32) (c_p_first : Nat → Int32) (c_p_kind : Nat → Int32) (c_p_post : Nat → Int32) (c_p_error : Nat → Int32) (x1 : Int32) (r : Int32) (hf : f_X5_possibleFirsts c_s_speaker c_s_said c_s_length c_p_lips c_p_error x1 = some r) : Ct l yX5_possibleFirsts cX5_possibleFirsts 5 (some .int) rX5_possibleFirsts K [.ref (a_s 0), .int x1, .ref (a_p 0)] (wSayings K.2.1 K.2.2.1 a_s c_s_speaker c_s_said c_s_length ++ wPlan K.2.1 K.2.2.1 a_p c_p_bowls c_p_fishes c_p_lips c_p_hours c_p_start c_p_first c_p_kind c_p_post c_p_error) (some (.int r)) (fun _ => wSayings K.2.1 K.2.2.1 a_s c_s_speaker c_s_said c_s_length ++ wPlan K.2.1 K.2.2.1 a_p c_p_bowls c_p_fishes c_p_lips c_p_hours c_p_start c_p_first c_p_kind c_p_post c_p_error) := by
  refine Ct.of (by decide +kernel) (Nat.le_of_ble_eq_true rfl) ?_
  intro G hl hK h he
  subst hl
  subst hK
  exact t_X5_possibleFirsts_0 h he hf

-- BowlState$Reader.opensPart
abbrev rX4_opensPart : Room := { frames := 3, cells := 0, slots := 0, locals := 65 }
def f_X4_opensPart (c_d_bowls : Int32) (c_d_fishes : Int32) (c_d_lips : Int32) (c_d_start : Nat → Int32) (x1 : Int32) : Option (Int32 × Int32 × Int32) := if x1 = 66 then (if 5 ≤ c_d_bowls then (some (0, x1, 0)) else (some (1, x1, 0))) else (if x1 = 70 then (if 5 ≤ c_d_fishes then (some (0, x1, 0)) else ((f_X3_hasRoomAnywhere c_d_bowls c_d_fishes c_d_start).bind (fun w2 => if w2 = 0 then (some (0, x1, 0)) else (some (1, x1, 0))))) else (if x1 = 76 then (if 4 ≤ c_d_lips then (some (0, x1, 0)) else (if c_d_bowls ≤ 0 then (some (0, x1, 0)) else (some (1, x1, 0)))) else (some (0, x1, 0))))
set_option maxRecDepth 100000 in
set_option maxHeartbeats 4000000 in
theorem t_X4_opensPart_0 {G : Cx} (h : Am G yX4_opensPart cX4_opensPart 2 (some .boolean) rX4_opensPart) {a_r a_d : Nat → Nat} {c_r_part : Int32} {c_r_figuresTaken : Int32} {c_r_bowl : Int32} {c_r_secret : Int32} {c_d_bowls : Int32} {c_d_fishes : Int32} {c_d_lips : Int32} {c_d_hours : Nat → Int32} {c_d_start : Nat → Int32} {c_d_first : Nat → Int32} {c_d_kind : Nat → Int32} {c_d_post : Nat → Int32} {c_d_error : Nat → Int32} {r : Int32 × Int32 × Int32} (he : En G rX4_opensPart (some (.int r.1)) (fun _ => wReader (g_K G).2.1 (g_K G).2.2.1 a_r (a_d 0) r.2.1 r.2.2 c_r_bowl c_r_secret ++ wPlan (g_K G).2.1 (g_K G).2.2.1 a_d c_d_bowls c_d_fishes c_d_lips c_d_hours c_d_start c_d_first c_d_kind c_d_post c_d_error)) {x1 : Int32} (hf : f_X4_opensPart c_d_bowls c_d_fishes c_d_lips c_d_start x1 = some r) : AB G 0 0 (wReader (g_K G).2.1 (g_K G).2.2.1 a_r (a_d 0) c_r_part c_r_figuresTaken c_r_bowl c_r_secret ++ wPlan (g_K G).2.1 (g_K G).2.2.1 a_d c_d_bowls c_d_fishes c_d_lips c_d_hours c_d_start c_d_first c_d_kind c_d_post c_d_error) [(0, .ref (a_r 0)), (1, .int x1)] 0 [] := by
  unfold f_X4_opensPart at hf
  refine ab_aload_n h 0 rfl rfl dX4_opensPart_0 ?_
  refine ab_iload_n h 1 rfl rfl dX4_opensPart_1 ?_
  refine ab_put h in_X4 tyX4 tyX4_ok nmX4 0 (wReader (g_K G).2.1 (g_K G).2.2.1 a_r (a_d 0) x1 c_r_figuresTaken c_r_bowl c_r_secret ++ wPlan (g_K G).2.1 (g_K G).2.2.1 a_d c_d_bowls c_d_fishes c_d_lips c_d_hours c_d_start c_d_first c_d_kind c_d_post c_d_error) rfl rfl 1 (by decide) fl_X4_21 rfl (tyX4_ok 1 (by decide)) rfl rfl (Nat.le_of_ble_eq_true rfl) rfl dX4_opensPart_2 ?_
  refine ab_aload_n h 0 rfl rfl dX4_opensPart_5 ?_
  refine ab_iconst (v := 0) h dX4_opensPart_6 (by decide) ?_
  refine ab_put h in_X4 tyX4 tyX4_ok nmX4 0 (wReader (g_K G).2.1 (g_K G).2.2.1 a_r (a_d 0) x1 0 c_r_bowl c_r_secret ++ wPlan (g_K G).2.1 (g_K G).2.2.1 a_d c_d_bowls c_d_fishes c_d_lips c_d_hours c_d_start c_d_first c_d_kind c_d_post c_d_error) rfl rfl 2 (by decide) fl_X4_35 rfl (tyX4_ok 2 (by decide)) rfl rfl (Nat.le_of_ble_eq_true rfl) rfl dX4_opensPart_7 ?_
  refine ab_iload_n h 1 rfl rfl dX4_opensPart_10 ?_
  rcases sw_split (c := x1 = 66) hf with ⟨hc0, hf⟩ | ⟨hc0, hf⟩
  · refine ab_look (off := 33) (tgt := 44) h hc0 dX4_opensPart_11 (by decide) (by decide) (by decide) ?_
    refine ab_aload_n h 0 rfl rfl dX4_opensPart_44 ?_
    refine ab_get h in_X4 0 rfl rfl 0 (by decide) fl_X4_12 rfl dX4_opensPart_45 ?_
    refine ab_get h in_X3 1 rfl rfl 0 (by decide) fl_X4_38 rfl dX4_opensPart_48 ?_
    refine ab_iconst (v := 5) h dX4_opensPart_51 (by decide) ?_
    refine ab_icmp_ge (tgt := 59) h dX4_opensPart_52 (by decide) (fun hf => ?_) (fun hf => ?_) hf
    · refine ab_iconst (v := 0) h dX4_opensPart_59 (by decide) ?_
      obtain rfl := Option.some.inj hf
      exact ab_zret h he [] rfl (Or.inl rfl) rfl rfl rfl rfl dX4_opensPart_60
    · refine ab_iconst (v := 1) h dX4_opensPart_55 (by decide) ?_
      refine ab_goto (tgt := 60) h dX4_opensPart_56 (by decide) ?_
      obtain rfl := Option.some.inj hf
      exact ab_zret h he [] rfl (Or.inr rfl) rfl rfl rfl rfl dX4_opensPart_60
  rcases sw_split (c := x1 = 70) hf with ⟨hc1, hf⟩ | ⟨hc1, hf⟩
  · refine ab_look (off := 50) (tgt := 61) h hc1 dX4_opensPart_11 (by decide) (by decide) (by decide) ?_
    refine ab_aload_n h 0 rfl rfl dX4_opensPart_61 ?_
    refine ab_get h in_X4 0 rfl rfl 0 (by decide) fl_X4_12 rfl dX4_opensPart_62 ?_
    refine ab_get h in_X3 1 rfl rfl 1 (by decide) fl_X4_41 rfl dX4_opensPart_65 ?_
    refine ab_iconst (v := 5) h dX4_opensPart_68 (by decide) ?_
    refine ab_icmp_ge (tgt := 86) h dX4_opensPart_69 (by decide) (fun hf => ?_) (fun hf => ?_) hf
    · refine ab_iconst (v := 0) h dX4_opensPart_86 (by decide) ?_
      obtain rfl := Option.some.inj hf
      exact ab_zret h he [] rfl (Or.inl rfl) rfl rfl rfl rfl dX4_opensPart_87
    · refine ab_aload_n h 0 rfl rfl dX4_opensPart_72 ?_
      refine ab_get h in_X4 0 rfl rfl 0 (by decide) fl_X4_12 rfl dX4_opensPart_73 ?_
      obtain ⟨w2, hw2, hf⟩ := bind_inv hf
      refine ab_cut (wr := wReader (g_K G).2.1 (g_K G).2.2.1 a_r (a_d 0) x1 0 c_r_bowl c_r_secret) h (run_V (As := []) (st := []) h (c_X3_hasRoomAnywhere (g_l G) (g_K G) a_d c_d_bowls c_d_fishes c_d_lips c_d_hours c_d_start c_d_first c_d_kind c_d_post c_d_error w2 hw2) ok_X3_hasRoomAnywhere 0 rfl rfl ml_X4_44 ⟨⟨Nat.le_of_ble_eq_true rfl, Nat.le_of_ble_eq_true rfl⟩, ⟨Nat.le_of_ble_eq_true rfl, Nat.le_of_ble_eq_true rfl⟩, Nat.le_of_ble_eq_true rfl⟩ dX4_opensPart_76 rfl) [1, 2, 3, 4, 5, 6, 7] [0] rfl rfl rfl rfl rfl (by decide) [0, 1, 2, 3, 4, 5, 6, 7] (wReader (g_K G).2.1 (g_K G).2.2.1 a_r (a_d 0) x1 0 c_r_bowl c_r_secret ++ wPlan (g_K G).2.1 (g_K G).2.2.1 a_d c_d_bowls c_d_fishes c_d_lips c_d_hours c_d_start c_d_first c_d_kind c_d_post c_d_error) (wPlan (g_K G).2.1 (g_K G).2.2.1 a_d c_d_bowls c_d_fishes c_d_lips c_d_hours c_d_start c_d_first c_d_kind c_d_post c_d_error) (fun _ => rfl) rfl rfl rfl [.int w2] rfl rfl rfl ?_
      refine ab_if_eq (tgt := 86) h dX4_opensPart_79 (by decide) (fun hf => ?_) (fun hf => ?_) hf
      · refine ab_iconst (v := 0) h dX4_opensPart_86 (by decide) ?_
        obtain rfl := Option.some.inj hf
        exact ab_zret h he [] rfl (Or.inl rfl) rfl rfl rfl rfl dX4_opensPart_87
      · refine ab_iconst (v := 1) h dX4_opensPart_82 (by decide) ?_
        refine ab_goto (tgt := 87) h dX4_opensPart_83 (by decide) ?_
        obtain rfl := Option.some.inj hf
        exact ab_zret h he [] rfl (Or.inr rfl) rfl rfl rfl rfl dX4_opensPart_87
  rcases sw_split (c := x1 = 76) hf with ⟨hc2, hf⟩ | ⟨hc2, hf⟩
  · refine ab_look (off := 77) (tgt := 88) h hc2 dX4_opensPart_11 (by decide) (by decide) (by decide) ?_
    refine ab_aload_n h 0 rfl rfl dX4_opensPart_88 ?_
    refine ab_get h in_X4 0 rfl rfl 0 (by decide) fl_X4_12 rfl dX4_opensPart_89 ?_
    refine ab_get h in_X3 1 rfl rfl 2 (by decide) fl_X4_48 rfl dX4_opensPart_92 ?_
    refine ab_iconst (v := 4) h dX4_opensPart_95 (by decide) ?_
    refine ab_icmp_ge (tgt := 113) h dX4_opensPart_96 (by decide) (fun hf => ?_) (fun hf => ?_) hf
    · refine ab_iconst (v := 0) h dX4_opensPart_113 (by decide) ?_
      obtain rfl := Option.some.inj hf
      exact ab_zret h he [] rfl (Or.inl rfl) rfl rfl rfl rfl dX4_opensPart_114
    · refine ab_aload_n h 0 rfl rfl dX4_opensPart_99 ?_
      refine ab_get h in_X4 0 rfl rfl 0 (by decide) fl_X4_12 rfl dX4_opensPart_100 ?_
      refine ab_get h in_X3 1 rfl rfl 0 (by decide) fl_X4_38 rfl dX4_opensPart_103 ?_
      refine ab_if_le (tgt := 113) h dX4_opensPart_106 (by decide) (fun hf => ?_) (fun hf => ?_) hf
      · refine ab_iconst (v := 0) h dX4_opensPart_113 (by decide) ?_
        obtain rfl := Option.some.inj hf
        exact ab_zret h he [] rfl (Or.inl rfl) rfl rfl rfl rfl dX4_opensPart_114
      · refine ab_iconst (v := 1) h dX4_opensPart_109 (by decide) ?_
        refine ab_goto (tgt := 114) h dX4_opensPart_110 (by decide) ?_
        obtain rfl := Option.some.inj hf
        exact ab_zret h he [] rfl (Or.inr rfl) rfl rfl rfl rfl dX4_opensPart_114
  refine ab_lookD (tgt := 115) h dX4_opensPart_11 (by decide) (by show Op.lookupswitch.offset [(66, 33), (70, 50), (76, 77)] 104 _ = 104; rw [lv_osw hc0 (by decide), lv_osw hc1 (by decide), lv_osw hc2 (by decide)]; rfl) (by decide) ?_
  refine ab_iconst (v := 0) h dX4_opensPart_115 (by decide) ?_
  obtain rfl := Option.some.inj hf
  exact ab_zret h he [] rfl (Or.inl rfl) rfl rfl rfl rfl dX4_opensPart_116
theorem c_X4_opensPart (l : Launch) (K : Kx) (a_r a_d : Nat → Nat) (c_r_part : Int32) (c_r_figuresTaken : Int32) (c_r_bowl : Int32) (c_r_secret : Int32) (c_d_bowls : Int32) (c_d_fishes : Int32) (c_d_lips : Int32) (c_d_hours : Nat → Int32) (c_d_start : Nat → Int32) (c_d_first : Nat → Int32) (c_d_kind : Nat → Int32) (c_d_post : Nat → Int32) (c_d_error : Nat → Int32) (x1 : Int32) (r : Int32 × Int32 × Int32) (hf : f_X4_opensPart c_d_bowls c_d_fishes c_d_lips c_d_start x1 = some r) : Ct l yX4_opensPart cX4_opensPart 2 (some .boolean) rX4_opensPart K [.ref (a_r 0), .int x1] (wReader K.2.1 K.2.2.1 a_r (a_d 0) c_r_part c_r_figuresTaken c_r_bowl c_r_secret ++ wPlan K.2.1 K.2.2.1 a_d c_d_bowls c_d_fishes c_d_lips c_d_hours c_d_start c_d_first c_d_kind c_d_post c_d_error) (some (.int r.1)) (fun _ => wReader K.2.1 K.2.2.1 a_r (a_d 0) r.2.1 r.2.2 c_r_bowl c_r_secret ++ wPlan K.2.1 K.2.2.1 a_d c_d_bowls c_d_fishes c_d_lips c_d_hours c_d_start c_d_first c_d_kind c_d_post c_d_error) := by
  refine Ct.of (by decide +kernel) (Nat.le_of_ble_eq_true rfl) ?_
  intro G hl hK h he
  subst hl
  subst hK
  exact t_X4_opensPart_0 h he hf

-- BowlState$Reader.takesFishFigure
abbrev rX4_takesFishFigure : Room := { frames := 2, cells := 0, slots := 0, locals := 44 }
def f_X4_takesFishFigure (c_r_part : Int32) (c_r_figuresTaken : Int32) (c_r_bowl : Int32) (c_r_secret : Int32) (c_d_bowls : Int32) (c_d_fishes : Int32) (c_d_start : Nat → Int32) (c_d_first : Nat → Int32) (c_d_kind : Nat → Int32) (x1 : Int32) : Option (Int32 × Int32 × Int32 × Int32 × Int32 × (Nat → Int32) × (Nat → Int32) × (Nat → Int32)) := if c_r_figuresTaken = 1 then ((f_X3_hasRoomAtStart c_d_bowls c_d_fishes c_d_start x1).bind (fun w4 => bz w4 (some (w4, c_r_part, x1, c_r_secret, c_d_fishes, c_d_start, c_d_first, c_d_kind)))) else (if c_r_figuresTaken = 2 then (some (1, c_r_part, c_r_bowl, x1, c_d_fishes, c_d_start, c_d_first, c_d_kind)) else (if 3 < x1 then (some (0, 1, c_r_bowl, c_r_secret, c_d_fishes, c_d_start, c_d_first, c_d_kind)) else ((f_X3_addFish c_d_fishes c_d_start c_d_first c_d_kind c_r_bowl c_r_secret x1).bind (fun w3 => if w3.1 = 0 then (some (0, 1, c_r_bowl, c_r_secret, w3.2.1, w3.2.2.1, w3.2.2.2.1, w3.2.2.2.2)) else (some (1, 1, c_r_bowl, c_r_secret, w3.2.1, w3.2.2.1, w3.2.2.2.1, w3.2.2.2.2))))))
set_option maxRecDepth 100000 in
set_option maxHeartbeats 4000000 in
theorem t_X4_takesFishFigure_0 {G : Cx} (h : Am G yX4_takesFishFigure cX4_takesFishFigure 2 (some .boolean) rX4_takesFishFigure) {a_r a_d : Nat → Nat} {c_r_part : Int32} {c_r_figuresTaken : Int32} {c_r_bowl : Int32} {c_r_secret : Int32} {c_d_bowls : Int32} {c_d_fishes : Int32} {c_d_lips : Int32} {c_d_hours : Nat → Int32} {c_d_start : Nat → Int32} {c_d_first : Nat → Int32} {c_d_kind : Nat → Int32} {c_d_post : Nat → Int32} {c_d_error : Nat → Int32} {r : Int32 × Int32 × Int32 × Int32 × Int32 × (Nat → Int32) × (Nat → Int32) × (Nat → Int32)} (he : En G rX4_takesFishFigure (some (.int r.1)) (fun _ => wReader (g_K G).2.1 (g_K G).2.2.1 a_r (a_d 0) r.2.1 c_r_figuresTaken r.2.2.1 r.2.2.2.1 ++ wPlan (g_K G).2.1 (g_K G).2.2.1 a_d c_d_bowls r.2.2.2.2.1 c_d_lips c_d_hours r.2.2.2.2.2.1 r.2.2.2.2.2.2.1 r.2.2.2.2.2.2.2 c_d_post c_d_error)) {x1 : Int32} (hf : f_X4_takesFishFigure c_r_part c_r_figuresTaken c_r_bowl c_r_secret c_d_bowls c_d_fishes c_d_start c_d_first c_d_kind x1 = some r) : AB G 0 0 (wReader (g_K G).2.1 (g_K G).2.2.1 a_r (a_d 0) c_r_part c_r_figuresTaken c_r_bowl c_r_secret ++ wPlan (g_K G).2.1 (g_K G).2.2.1 a_d c_d_bowls c_d_fishes c_d_lips c_d_hours c_d_start c_d_first c_d_kind c_d_post c_d_error) [(0, .ref (a_r 0)), (1, .int x1)] 0 [] := by
  unfold f_X4_takesFishFigure at hf
  refine ab_aload_n h 0 rfl rfl dX4_takesFishFigure_0 ?_
  refine ab_get h in_X4 0 rfl rfl 2 (by decide) fl_X4_35 rfl dX4_takesFishFigure_1 ?_
  refine ab_iconst (v := 1) h dX4_takesFishFigure_4 (by decide) ?_
  refine ab_icmp_ne (tgt := 22) h dX4_takesFishFigure_5 (by decide) (fun hf => ?_) (fun hf => ?_) hf
  · refine ab_aload_n h 0 rfl rfl dX4_takesFishFigure_22 ?_
    refine ab_get h in_X4 0 rfl rfl 2 (by decide) fl_X4_35 rfl dX4_takesFishFigure_23 ?_
    refine ab_iconst (v := 2) h dX4_takesFishFigure_26 (by decide) ?_
    refine ab_icmp_ne (tgt := 37) h dX4_takesFishFigure_27 (by decide) (fun hf => ?_) (fun hf => ?_) hf
    · refine ab_aload_n h 0 rfl rfl dX4_takesFishFigure_37 ?_
      refine ab_iconst (v := 1) h dX4_takesFishFigure_38 (by decide) ?_
      refine ab_put h in_X4 tyX4 tyX4_ok nmX4 0 (wReader (g_K G).2.1 (g_K G).2.2.1 a_r (a_d 0) 1 c_r_figuresTaken c_r_bowl c_r_secret ++ wPlan (g_K G).2.1 (g_K G).2.2.1 a_d c_d_bowls c_d_fishes c_d_lips c_d_hours c_d_start c_d_first c_d_kind c_d_post c_d_error) rfl rfl 1 (by decide) fl_X4_21 rfl (tyX4_ok 1 (by decide)) rfl rfl (Nat.le_of_ble_eq_true rfl) rfl dX4_takesFishFigure_39 ?_
      refine ab_iload_n h 1 rfl rfl dX4_takesFishFigure_42 ?_
      refine ab_iconst (v := 3) h dX4_takesFishFigure_43 (by decide) ?_
      refine ab_icmp_gt (tgt := 70) h dX4_takesFishFigure_44 (by decide) (fun hf => ?_) (fun hf => ?_) hf
      · refine ab_iconst (v := 0) h dX4_takesFishFigure_70 (by decide) ?_
        obtain rfl := Option.some.inj hf
        exact ab_zret h he [] rfl (Or.inl rfl) rfl rfl rfl rfl dX4_takesFishFigure_71
      · refine ab_aload_n h 0 rfl rfl dX4_takesFishFigure_47 ?_
        refine ab_get h in_X4 0 rfl rfl 0 (by decide) fl_X4_12 rfl dX4_takesFishFigure_48 ?_
        refine ab_aload_n h 0 rfl rfl dX4_takesFishFigure_51 ?_
        refine ab_get h in_X4 0 rfl rfl 3 (by decide) fl_X4_60 rfl dX4_takesFishFigure_52 ?_
        refine ab_aload_n h 0 rfl rfl dX4_takesFishFigure_55 ?_
        refine ab_get h in_X4 0 rfl rfl 4 (by decide) fl_X4_66 rfl dX4_takesFishFigure_56 ?_
        refine ab_iload_n h 1 rfl rfl dX4_takesFishFigure_59 ?_
        obtain ⟨w3, hw3, hf⟩ := bind_inv hf
        refine ab_cut (wr := wReader (g_K G).2.1 (g_K G).2.2.1 a_r (a_d 0) 1 c_r_figuresTaken c_r_bowl c_r_secret) h (run_V (As := [.int c_r_bowl, .int c_r_secret, .int x1]) (st := []) h (c_X3_addFish (g_l G) (g_K G) a_d c_d_bowls c_d_fishes c_d_lips c_d_hours c_d_start c_d_first c_d_kind c_d_post c_d_error c_r_bowl c_r_secret x1 w3 hw3) ok_X3_addFish 0 rfl rfl ml_X4_69 ⟨⟨Nat.le_of_ble_eq_true rfl, Nat.le_of_ble_eq_true rfl⟩, ⟨Nat.le_of_ble_eq_true rfl, Nat.le_of_ble_eq_true rfl⟩, Nat.le_of_ble_eq_true rfl⟩ dX4_takesFishFigure_60 rfl) [1, 2, 3, 4, 5, 6, 7] [0] rfl rfl rfl rfl rfl (by decide) [0, 1, 2, 3, 4, 5, 6, 7] (wReader (g_K G).2.1 (g_K G).2.2.1 a_r (a_d 0) 1 c_r_figuresTaken c_r_bowl c_r_secret ++ wPlan (g_K G).2.1 (g_K G).2.2.1 a_d c_d_bowls w3.2.1 c_d_lips c_d_hours w3.2.2.1 w3.2.2.2.1 w3.2.2.2.2 c_d_post c_d_error) (wPlan (g_K G).2.1 (g_K G).2.2.1 a_d c_d_bowls w3.2.1 c_d_lips c_d_hours w3.2.2.1 w3.2.2.2.1 w3.2.2.2.2 c_d_post c_d_error) (fun _ => rfl) rfl rfl rfl [.int w3.1] rfl rfl rfl ?_
        refine ab_if_eq (tgt := 70) h dX4_takesFishFigure_63 (by decide) (fun hf => ?_) (fun hf => ?_) hf
        · refine ab_iconst (v := 0) h dX4_takesFishFigure_70 (by decide) ?_
          obtain rfl := Option.some.inj hf
          exact ab_zret h he [] rfl (Or.inl rfl) rfl rfl rfl rfl dX4_takesFishFigure_71
        · refine ab_iconst (v := 1) h dX4_takesFishFigure_66 (by decide) ?_
          refine ab_goto (tgt := 71) h dX4_takesFishFigure_67 (by decide) ?_
          obtain rfl := Option.some.inj hf
          exact ab_zret h he [] rfl (Or.inr rfl) rfl rfl rfl rfl dX4_takesFishFigure_71
    · refine ab_aload_n h 0 rfl rfl dX4_takesFishFigure_30 ?_
      refine ab_iload_n h 1 rfl rfl dX4_takesFishFigure_31 ?_
      refine ab_put h in_X4 tyX4 tyX4_ok nmX4 0 (wReader (g_K G).2.1 (g_K G).2.2.1 a_r (a_d 0) c_r_part c_r_figuresTaken c_r_bowl x1 ++ wPlan (g_K G).2.1 (g_K G).2.2.1 a_d c_d_bowls c_d_fishes c_d_lips c_d_hours c_d_start c_d_first c_d_kind c_d_post c_d_error) rfl rfl 4 (by decide) fl_X4_66 rfl (tyX4_ok 4 (by decide)) rfl rfl (Nat.le_of_ble_eq_true rfl) rfl dX4_takesFishFigure_32 ?_
      refine ab_iconst (v := 1) h dX4_takesFishFigure_35 (by decide) ?_
      obtain rfl := Option.some.inj hf
      exact ab_zret h he [] rfl (Or.inr rfl) rfl rfl rfl rfl dX4_takesFishFigure_36
  · refine ab_aload_n h 0 rfl rfl dX4_takesFishFigure_8 ?_
    refine ab_iload_n h 1 rfl rfl dX4_takesFishFigure_9 ?_
    refine ab_put h in_X4 tyX4 tyX4_ok nmX4 0 (wReader (g_K G).2.1 (g_K G).2.2.1 a_r (a_d 0) c_r_part c_r_figuresTaken x1 c_r_secret ++ wPlan (g_K G).2.1 (g_K G).2.2.1 a_d c_d_bowls c_d_fishes c_d_lips c_d_hours c_d_start c_d_first c_d_kind c_d_post c_d_error) rfl rfl 3 (by decide) fl_X4_60 rfl (tyX4_ok 3 (by decide)) rfl rfl (Nat.le_of_ble_eq_true rfl) rfl dX4_takesFishFigure_10 ?_
    refine ab_aload_n h 0 rfl rfl dX4_takesFishFigure_13 ?_
    refine ab_get h in_X4 0 rfl rfl 0 (by decide) fl_X4_12 rfl dX4_takesFishFigure_14 ?_
    refine ab_iload_n h 1 rfl rfl dX4_takesFishFigure_17 ?_
    obtain ⟨w4, hw4, hf⟩ := bind_inv hf
    refine ab_cut (wr := wReader (g_K G).2.1 (g_K G).2.2.1 a_r (a_d 0) c_r_part c_r_figuresTaken x1 c_r_secret) h (run_V (As := [.int x1]) (st := []) h (c_X3_hasRoomAtStart (g_l G) (g_K G) a_d c_d_bowls c_d_fishes c_d_lips c_d_hours c_d_start c_d_first c_d_kind c_d_post c_d_error x1 w4 hw4) ok_X3_hasRoomAtStart 0 rfl rfl ml_X4_63 ⟨⟨Nat.le_of_ble_eq_true rfl, Nat.le_of_ble_eq_true rfl⟩, ⟨Nat.le_of_ble_eq_true rfl, Nat.le_of_ble_eq_true rfl⟩, Nat.le_of_ble_eq_true rfl⟩ dX4_takesFishFigure_18 rfl) [1, 2, 3, 4, 5, 6, 7] [0] rfl rfl rfl rfl rfl (by decide) [0, 1, 2, 3, 4, 5, 6, 7] (wReader (g_K G).2.1 (g_K G).2.2.1 a_r (a_d 0) c_r_part c_r_figuresTaken x1 c_r_secret ++ wPlan (g_K G).2.1 (g_K G).2.2.1 a_d c_d_bowls c_d_fishes c_d_lips c_d_hours c_d_start c_d_first c_d_kind c_d_post c_d_error) (wPlan (g_K G).2.1 (g_K G).2.2.1 a_d c_d_bowls c_d_fishes c_d_lips c_d_hours c_d_start c_d_first c_d_kind c_d_post c_d_error) (fun _ => rfl) rfl rfl rfl [.int w4] rfl rfl rfl ?_
    obtain ⟨hb, hf⟩ := bz_inv hf
    obtain rfl := Option.some.inj hf
    exact ab_zret h he [] rfl hb rfl rfl rfl rfl dX4_takesFishFigure_21
theorem c_X4_takesFishFigure (l : Launch) (K : Kx) (a_r a_d : Nat → Nat) (c_r_part : Int32) (c_r_figuresTaken : Int32) (c_r_bowl : Int32) (c_r_secret : Int32) (c_d_bowls : Int32) (c_d_fishes : Int32) (c_d_lips : Int32) (c_d_hours : Nat → Int32) (c_d_start : Nat → Int32) (c_d_first : Nat → Int32) (c_d_kind : Nat → Int32) (c_d_post : Nat → Int32) (c_d_error : Nat → Int32) (x1 : Int32) (r : Int32 × Int32 × Int32 × Int32 × Int32 × (Nat → Int32) × (Nat → Int32) × (Nat → Int32)) (hf : f_X4_takesFishFigure c_r_part c_r_figuresTaken c_r_bowl c_r_secret c_d_bowls c_d_fishes c_d_start c_d_first c_d_kind x1 = some r) : Ct l yX4_takesFishFigure cX4_takesFishFigure 2 (some .boolean) rX4_takesFishFigure K [.ref (a_r 0), .int x1] (wReader K.2.1 K.2.2.1 a_r (a_d 0) c_r_part c_r_figuresTaken c_r_bowl c_r_secret ++ wPlan K.2.1 K.2.2.1 a_d c_d_bowls c_d_fishes c_d_lips c_d_hours c_d_start c_d_first c_d_kind c_d_post c_d_error) (some (.int r.1)) (fun _ => wReader K.2.1 K.2.2.1 a_r (a_d 0) r.2.1 c_r_figuresTaken r.2.2.1 r.2.2.2.1 ++ wPlan K.2.1 K.2.2.1 a_d c_d_bowls r.2.2.2.2.1 c_d_lips c_d_hours r.2.2.2.2.2.1 r.2.2.2.2.2.2.1 r.2.2.2.2.2.2.2 c_d_post c_d_error) := by
  refine Ct.of (by decide +kernel) (Nat.le_of_ble_eq_true rfl) ?_
  intro G hl hK h he
  subst hl
  subst hK
  exact t_X4_takesFishFigure_0 h he hf

-- BowlState$Reader.takesLipFigure
abbrev rX4_takesLipFigure : Room := { frames := 1, cells := 0, slots := 0, locals := 22 }
def f_X4_takesLipFigure (c_r_part : Int32) (c_r_figuresTaken : Int32) (c_r_bowl : Int32) (c_d_bowls : Int32) (c_d_lips : Int32) (c_d_post : Nat → Int32) (c_d_error : Nat → Int32) (x1 : Int32) : Option (Int32 × Int32 × Int32 × Int32 × (Nat → Int32) × (Nat → Int32)) := if c_r_figuresTaken = 1 then ((f_X3_hasBowl c_d_bowls x1).bind (fun w4 => bz w4 (some (w4, c_r_part, x1, c_d_lips, c_d_post, c_d_error)))) else (if 3 < x1 then (some (0, 1, c_r_bowl, c_d_lips, c_d_post, c_d_error)) else ((f_X3_addLip c_d_lips c_d_post c_d_error c_r_bowl x1).bind (fun w3 => if w3.1 = 0 then (some (0, 1, c_r_bowl, w3.2.1, w3.2.2.1, w3.2.2.2)) else (some (1, 1, c_r_bowl, w3.2.1, w3.2.2.1, w3.2.2.2)))))
set_option maxRecDepth 100000 in
set_option maxHeartbeats 4000000 in
theorem t_X4_takesLipFigure_0 {G : Cx} (h : Am G yX4_takesLipFigure cX4_takesLipFigure 2 (some .boolean) rX4_takesLipFigure) {a_r a_d : Nat → Nat} {c_r_part : Int32} {c_r_figuresTaken : Int32} {c_r_bowl : Int32} {c_r_secret : Int32} {c_d_bowls : Int32} {c_d_fishes : Int32} {c_d_lips : Int32} {c_d_hours : Nat → Int32} {c_d_start : Nat → Int32} {c_d_first : Nat → Int32} {c_d_kind : Nat → Int32} {c_d_post : Nat → Int32} {c_d_error : Nat → Int32} {r : Int32 × Int32 × Int32 × Int32 × (Nat → Int32) × (Nat → Int32)} (he : En G rX4_takesLipFigure (some (.int r.1)) (fun _ => wReader (g_K G).2.1 (g_K G).2.2.1 a_r (a_d 0) r.2.1 c_r_figuresTaken r.2.2.1 c_r_secret ++ wPlan (g_K G).2.1 (g_K G).2.2.1 a_d c_d_bowls c_d_fishes r.2.2.2.1 c_d_hours c_d_start c_d_first c_d_kind r.2.2.2.2.1 r.2.2.2.2.2)) {x1 : Int32} (hf : f_X4_takesLipFigure c_r_part c_r_figuresTaken c_r_bowl c_d_bowls c_d_lips c_d_post c_d_error x1 = some r) : AB G 0 0 (wReader (g_K G).2.1 (g_K G).2.2.1 a_r (a_d 0) c_r_part c_r_figuresTaken c_r_bowl c_r_secret ++ wPlan (g_K G).2.1 (g_K G).2.2.1 a_d c_d_bowls c_d_fishes c_d_lips c_d_hours c_d_start c_d_first c_d_kind c_d_post c_d_error) [(0, .ref (a_r 0)), (1, .int x1)] 0 [] := by
  unfold f_X4_takesLipFigure at hf
  refine ab_aload_n h 0 rfl rfl dX4_takesLipFigure_0 ?_
  refine ab_get h in_X4 0 rfl rfl 2 (by decide) fl_X4_35 rfl dX4_takesLipFigure_1 ?_
  refine ab_iconst (v := 1) h dX4_takesLipFigure_4 (by decide) ?_
  refine ab_icmp_ne (tgt := 22) h dX4_takesLipFigure_5 (by decide) (fun hf => ?_) (fun hf => ?_) hf
  · refine ab_aload_n h 0 rfl rfl dX4_takesLipFigure_22 ?_
    refine ab_iconst (v := 1) h dX4_takesLipFigure_23 (by decide) ?_
    refine ab_put h in_X4 tyX4 tyX4_ok nmX4 0 (wReader (g_K G).2.1 (g_K G).2.2.1 a_r (a_d 0) 1 c_r_figuresTaken c_r_bowl c_r_secret ++ wPlan (g_K G).2.1 (g_K G).2.2.1 a_d c_d_bowls c_d_fishes c_d_lips c_d_hours c_d_start c_d_first c_d_kind c_d_post c_d_error) rfl rfl 1 (by decide) fl_X4_21 rfl (tyX4_ok 1 (by decide)) rfl rfl (Nat.le_of_ble_eq_true rfl) rfl dX4_takesLipFigure_24 ?_
    refine ab_iload_n h 1 rfl rfl dX4_takesLipFigure_27 ?_
    refine ab_iconst (v := 3) h dX4_takesLipFigure_28 (by decide) ?_
    refine ab_icmp_gt (tgt := 51) h dX4_takesLipFigure_29 (by decide) (fun hf => ?_) (fun hf => ?_) hf
    · refine ab_iconst (v := 0) h dX4_takesLipFigure_51 (by decide) ?_
      obtain rfl := Option.some.inj hf
      exact ab_zret h he [] rfl (Or.inl rfl) rfl rfl rfl rfl dX4_takesLipFigure_52
    · refine ab_aload_n h 0 rfl rfl dX4_takesLipFigure_32 ?_
      refine ab_get h in_X4 0 rfl rfl 0 (by decide) fl_X4_12 rfl dX4_takesLipFigure_33 ?_
      refine ab_aload_n h 0 rfl rfl dX4_takesLipFigure_36 ?_
      refine ab_get h in_X4 0 rfl rfl 3 (by decide) fl_X4_60 rfl dX4_takesLipFigure_37 ?_
      refine ab_iload_n h 1 rfl rfl dX4_takesLipFigure_40 ?_
      obtain ⟨w3, hw3, hf⟩ := bind_inv hf
      refine ab_cut (wr := wReader (g_K G).2.1 (g_K G).2.2.1 a_r (a_d 0) 1 c_r_figuresTaken c_r_bowl c_r_secret) h (run_V (As := [.int c_r_bowl, .int x1]) (st := []) h (c_X3_addLip (g_l G) (g_K G) a_d c_d_bowls c_d_fishes c_d_lips c_d_hours c_d_start c_d_first c_d_kind c_d_post c_d_error c_r_bowl x1 w3 hw3) ok_X3_addLip 0 rfl rfl ml_X4_76 ⟨⟨Nat.le_of_ble_eq_true rfl, Nat.le_of_ble_eq_true rfl⟩, ⟨Nat.le_of_ble_eq_true rfl, Nat.le_of_ble_eq_true rfl⟩, Nat.le_of_ble_eq_true rfl⟩ dX4_takesLipFigure_41 rfl) [1, 2, 3, 4, 5, 6, 7] [0] rfl rfl rfl rfl rfl (by decide) [0, 1, 2, 3, 4, 5, 6, 7] (wReader (g_K G).2.1 (g_K G).2.2.1 a_r (a_d 0) 1 c_r_figuresTaken c_r_bowl c_r_secret ++ wPlan (g_K G).2.1 (g_K G).2.2.1 a_d c_d_bowls c_d_fishes w3.2.1 c_d_hours c_d_start c_d_first c_d_kind w3.2.2.1 w3.2.2.2) (wPlan (g_K G).2.1 (g_K G).2.2.1 a_d c_d_bowls c_d_fishes w3.2.1 c_d_hours c_d_start c_d_first c_d_kind w3.2.2.1 w3.2.2.2) (fun _ => rfl) rfl rfl rfl [.int w3.1] rfl rfl rfl ?_
      refine ab_if_eq (tgt := 51) h dX4_takesLipFigure_44 (by decide) (fun hf => ?_) (fun hf => ?_) hf
      · refine ab_iconst (v := 0) h dX4_takesLipFigure_51 (by decide) ?_
        obtain rfl := Option.some.inj hf
        exact ab_zret h he [] rfl (Or.inl rfl) rfl rfl rfl rfl dX4_takesLipFigure_52
      · refine ab_iconst (v := 1) h dX4_takesLipFigure_47 (by decide) ?_
        refine ab_goto (tgt := 52) h dX4_takesLipFigure_48 (by decide) ?_
        obtain rfl := Option.some.inj hf
        exact ab_zret h he [] rfl (Or.inr rfl) rfl rfl rfl rfl dX4_takesLipFigure_52
  · refine ab_aload_n h 0 rfl rfl dX4_takesLipFigure_8 ?_
    refine ab_iload_n h 1 rfl rfl dX4_takesLipFigure_9 ?_
    refine ab_put h in_X4 tyX4 tyX4_ok nmX4 0 (wReader (g_K G).2.1 (g_K G).2.2.1 a_r (a_d 0) c_r_part c_r_figuresTaken x1 c_r_secret ++ wPlan (g_K G).2.1 (g_K G).2.2.1 a_d c_d_bowls c_d_fishes c_d_lips c_d_hours c_d_start c_d_first c_d_kind c_d_post c_d_error) rfl rfl 3 (by decide) fl_X4_60 rfl (tyX4_ok 3 (by decide)) rfl rfl (Nat.le_of_ble_eq_true rfl) rfl dX4_takesLipFigure_10 ?_
    refine ab_aload_n h 0 rfl rfl dX4_takesLipFigure_13 ?_
    refine ab_get h in_X4 0 rfl rfl 0 (by decide) fl_X4_12 rfl dX4_takesLipFigure_14 ?_
    refine ab_iload_n h 1 rfl rfl dX4_takesLipFigure_17 ?_
    obtain ⟨w4, hw4, hf⟩ := bind_inv hf
    refine ab_cut (wr := wReader (g_K G).2.1 (g_K G).2.2.1 a_r (a_d 0) c_r_part c_r_figuresTaken x1 c_r_secret) h (run_V (As := [.int x1]) (st := []) h (c_X3_hasBowl (g_l G) (g_K G) a_d c_d_bowls c_d_fishes c_d_lips c_d_hours c_d_start c_d_first c_d_kind c_d_post c_d_error x1 w4 hw4) ok_X3_hasBowl 0 rfl rfl ml_X4_73 ⟨⟨Nat.le_of_ble_eq_true rfl, Nat.le_of_ble_eq_true rfl⟩, ⟨Nat.le_of_ble_eq_true rfl, Nat.le_of_ble_eq_true rfl⟩, Nat.le_of_ble_eq_true rfl⟩ dX4_takesLipFigure_18 rfl) [1, 2, 3, 4, 5, 6, 7] [0] rfl rfl rfl rfl rfl (by decide) [0, 1, 2, 3, 4, 5, 6, 7] (wReader (g_K G).2.1 (g_K G).2.2.1 a_r (a_d 0) c_r_part c_r_figuresTaken x1 c_r_secret ++ wPlan (g_K G).2.1 (g_K G).2.2.1 a_d c_d_bowls c_d_fishes c_d_lips c_d_hours c_d_start c_d_first c_d_kind c_d_post c_d_error) (wPlan (g_K G).2.1 (g_K G).2.2.1 a_d c_d_bowls c_d_fishes c_d_lips c_d_hours c_d_start c_d_first c_d_kind c_d_post c_d_error) (fun _ => rfl) rfl rfl rfl [.int w4] rfl rfl rfl ?_
    obtain ⟨hb, hf⟩ := bz_inv hf
    obtain rfl := Option.some.inj hf
    exact ab_zret h he [] rfl hb rfl rfl rfl rfl dX4_takesLipFigure_21
theorem c_X4_takesLipFigure (l : Launch) (K : Kx) (a_r a_d : Nat → Nat) (c_r_part : Int32) (c_r_figuresTaken : Int32) (c_r_bowl : Int32) (c_r_secret : Int32) (c_d_bowls : Int32) (c_d_fishes : Int32) (c_d_lips : Int32) (c_d_hours : Nat → Int32) (c_d_start : Nat → Int32) (c_d_first : Nat → Int32) (c_d_kind : Nat → Int32) (c_d_post : Nat → Int32) (c_d_error : Nat → Int32) (x1 : Int32) (r : Int32 × Int32 × Int32 × Int32 × (Nat → Int32) × (Nat → Int32)) (hf : f_X4_takesLipFigure c_r_part c_r_figuresTaken c_r_bowl c_d_bowls c_d_lips c_d_post c_d_error x1 = some r) : Ct l yX4_takesLipFigure cX4_takesLipFigure 2 (some .boolean) rX4_takesLipFigure K [.ref (a_r 0), .int x1] (wReader K.2.1 K.2.2.1 a_r (a_d 0) c_r_part c_r_figuresTaken c_r_bowl c_r_secret ++ wPlan K.2.1 K.2.2.1 a_d c_d_bowls c_d_fishes c_d_lips c_d_hours c_d_start c_d_first c_d_kind c_d_post c_d_error) (some (.int r.1)) (fun _ => wReader K.2.1 K.2.2.1 a_r (a_d 0) r.2.1 c_r_figuresTaken r.2.2.1 c_r_secret ++ wPlan K.2.1 K.2.2.1 a_d c_d_bowls c_d_fishes r.2.2.2.1 c_d_hours c_d_start c_d_first c_d_kind r.2.2.2.2.1 r.2.2.2.2.2) := by
  refine Ct.of (by decide +kernel) (Nat.le_of_ble_eq_true rfl) ?_
  intro G hl hK h he
  subst hl
  subst hK
  exact t_X4_takesLipFigure_0 h he hf

-- BowlState$Reader.takesFigure
abbrev rX4_takesFigure : Room := { frames := 3, cells := 0, slots := 0, locals := 65 }
def f_X4_takesFigure (c_r_part : Int32) (c_r_figuresTaken : Int32) (c_r_bowl : Int32) (c_r_secret : Int32) (c_d_bowls : Int32) (c_d_fishes : Int32) (c_d_lips : Int32) (c_d_hours : Nat → Int32) (c_d_start : Nat → Int32) (c_d_first : Nat → Int32) (c_d_kind : Nat → Int32) (c_d_post : Nat → Int32) (c_d_error : Nat → Int32) (x1 : Int32) : Option (Int32 × Int32 × Int32 × Int32 × Int32 × Int32 × Int32 × Int32 × (Nat → Int32) × (Nat → Int32) × (Nat → Int32) × (Nat → Int32) × (Nat → Int32) × (Nat → Int32)) := if x1 < 0 then (some (0, c_r_part, c_r_figuresTaken, c_r_bowl, c_r_secret, c_d_bowls, c_d_fishes, c_d_lips, c_d_hours, c_d_start, c_d_first, c_d_kind, c_d_post, c_d_error)) else (if x1 ≤ 9 then (if c_r_part = 66 then (if x1 < 1 then (some (0, 1, c_r_figuresTaken + 1, c_r_bowl, c_r_secret, c_d_bowls, c_d_fishes, c_d_lips, c_d_hours, c_d_start, c_d_first, c_d_kind, c_d_post, c_d_error)) else ((f_X3_addBowl c_d_bowls c_d_hours x1).bind (fun w4 => if w4.1 = 0 then (some (0, 1, c_r_figuresTaken + 1, c_r_bowl, c_r_secret, w4.2.1, c_d_fishes, c_d_lips, w4.2.2, c_d_start, c_d_first, c_d_kind, c_d_post, c_d_error)) else (some (1, 1, c_r_figuresTaken + 1, c_r_bowl, c_r_secret, w4.2.1, c_d_fishes, c_d_lips, w4.2.2, c_d_start, c_d_first, c_d_kind, c_d_post, c_d_error))))) else (if c_r_part = 70 then ((f_X4_takesFishFigure c_r_part (c_r_figuresTaken + 1) c_r_bowl c_r_secret c_d_bowls c_d_fishes c_d_start c_d_first c_d_kind x1).bind (fun w5 => bz w5.1 (some (w5.1, w5.2.1, c_r_figuresTaken + 1, w5.2.2.1, w5.2.2.2.1, c_d_bowls, w5.2.2.2.2.1, c_d_lips, c_d_hours, w5.2.2.2.2.2.1, w5.2.2.2.2.2.2.1, w5.2.2.2.2.2.2.2, c_d_post, c_d_error)))) else ((f_X4_takesLipFigure c_r_part (c_r_figuresTaken + 1) c_r_bowl c_d_bowls c_d_lips c_d_post c_d_error x1).bind (fun w6 => bz w6.1 (some (w6.1, w6.2.1, c_r_figuresTaken + 1, w6.2.2.1, c_r_secret, c_d_bowls, c_d_fishes, w6.2.2.2.1, c_d_hours, c_d_start, c_d_first, c_d_kind, w6.2.2.2.2.1, w6.2.2.2.2.2)))))) else (some (0, c_r_part, c_r_figuresTaken, c_r_bowl, c_r_secret, c_d_bowls, c_d_fishes, c_d_lips, c_d_hours, c_d_start, c_d_first, c_d_kind, c_d_post, c_d_error)))
set_option maxRecDepth 100000 in
set_option maxHeartbeats 4000000 in
theorem t_X4_takesFigure_0 {G : Cx} (h : Am G yX4_takesFigure cX4_takesFigure 2 (some .boolean) rX4_takesFigure) {a_r a_d : Nat → Nat} {c_r_part : Int32} {c_r_figuresTaken : Int32} {c_r_bowl : Int32} {c_r_secret : Int32} {c_d_bowls : Int32} {c_d_fishes : Int32} {c_d_lips : Int32} {c_d_hours : Nat → Int32} {c_d_start : Nat → Int32} {c_d_first : Nat → Int32} {c_d_kind : Nat → Int32} {c_d_post : Nat → Int32} {c_d_error : Nat → Int32} {r : Int32 × Int32 × Int32 × Int32 × Int32 × Int32 × Int32 × Int32 × (Nat → Int32) × (Nat → Int32) × (Nat → Int32) × (Nat → Int32) × (Nat → Int32) × (Nat → Int32)} (he : En G rX4_takesFigure (some (.int r.1)) (fun _ => wReader (g_K G).2.1 (g_K G).2.2.1 a_r (a_d 0) r.2.1 r.2.2.1 r.2.2.2.1 r.2.2.2.2.1 ++ wPlan (g_K G).2.1 (g_K G).2.2.1 a_d r.2.2.2.2.2.1 r.2.2.2.2.2.2.1 r.2.2.2.2.2.2.2.1 r.2.2.2.2.2.2.2.2.1 r.2.2.2.2.2.2.2.2.2.1 r.2.2.2.2.2.2.2.2.2.2.1 r.2.2.2.2.2.2.2.2.2.2.2.1 r.2.2.2.2.2.2.2.2.2.2.2.2.1 r.2.2.2.2.2.2.2.2.2.2.2.2.2)) {x1 : Int32} (hf : f_X4_takesFigure c_r_part c_r_figuresTaken c_r_bowl c_r_secret c_d_bowls c_d_fishes c_d_lips c_d_hours c_d_start c_d_first c_d_kind c_d_post c_d_error x1 = some r) : AB G 0 0 (wReader (g_K G).2.1 (g_K G).2.2.1 a_r (a_d 0) c_r_part c_r_figuresTaken c_r_bowl c_r_secret ++ wPlan (g_K G).2.1 (g_K G).2.2.1 a_d c_d_bowls c_d_fishes c_d_lips c_d_hours c_d_start c_d_first c_d_kind c_d_post c_d_error) [(0, .ref (a_r 0)), (1, .int x1)] 0 [] := by
  unfold f_X4_takesFigure at hf
  refine ab_iload_n h 1 rfl rfl dX4_takesFigure_0 ?_
  refine ab_if_lt (tgt := 10) h dX4_takesFigure_1 (by decide) (fun hf => ?_) (fun hf => ?_) hf
  · refine ab_iconst (v := 0) h dX4_takesFigure_10 (by decide) ?_
    obtain rfl := Option.some.inj hf
    exact ab_zret h he [] rfl (Or.inl rfl) rfl rfl rfl rfl dX4_takesFigure_11
  · refine ab_iload_n h 1 rfl rfl dX4_takesFigure_4 ?_
    refine ab_bipush (v := 9) h dX4_takesFigure_5 (by decide) ?_
    refine ab_icmp_le (tgt := 12) h dX4_takesFigure_7 (by decide) (fun hf => ?_) (fun hf => ?_) hf
    · refine ab_aload_n h 0 rfl rfl dX4_takesFigure_12 ?_
      refine ab_dup h dX4_takesFigure_13 rfl ?_
      refine ab_get h in_X4 0 rfl rfl 2 (by decide) fl_X4_35 rfl dX4_takesFigure_14 ?_
      refine ab_iconst (v := 1) h dX4_takesFigure_17 (by decide) ?_
      refine ab_iadd h dX4_takesFigure_18 ?_
      refine ab_put h in_X4 tyX4 tyX4_ok nmX4 0 (wReader (g_K G).2.1 (g_K G).2.2.1 a_r (a_d 0) c_r_part (c_r_figuresTaken + 1) c_r_bowl c_r_secret ++ wPlan (g_K G).2.1 (g_K G).2.2.1 a_d c_d_bowls c_d_fishes c_d_lips c_d_hours c_d_start c_d_first c_d_kind c_d_post c_d_error) rfl rfl 2 (by decide) fl_X4_35 rfl (tyX4_ok 2 (by decide)) rfl rfl (Nat.le_of_ble_eq_true rfl) rfl dX4_takesFigure_19 ?_
      refine ab_aload_n h 0 rfl rfl dX4_takesFigure_22 ?_
      refine ab_get h in_X4 0 rfl rfl 1 (by decide) fl_X4_21 rfl dX4_takesFigure_23 ?_
      rcases sw_split (c := c_r_part = 66) hf with ⟨hc0, hf⟩ | ⟨hc0, hf⟩
      · refine ab_look (off := 26) (tgt := 52) h hc0 dX4_takesFigure_26 (by decide) (by decide) (by decide) ?_
        refine ab_aload_n h 0 rfl rfl dX4_takesFigure_52 ?_
        refine ab_iconst (v := 1) h dX4_takesFigure_53 (by decide) ?_
        refine ab_put h in_X4 tyX4 tyX4_ok nmX4 0 (wReader (g_K G).2.1 (g_K G).2.2.1 a_r (a_d 0) 1 (c_r_figuresTaken + 1) c_r_bowl c_r_secret ++ wPlan (g_K G).2.1 (g_K G).2.2.1 a_d c_d_bowls c_d_fishes c_d_lips c_d_hours c_d_start c_d_first c_d_kind c_d_post c_d_error) rfl rfl 1 (by decide) fl_X4_21 rfl (tyX4_ok 1 (by decide)) rfl rfl (Nat.le_of_ble_eq_true rfl) rfl dX4_takesFigure_54 ?_
        refine ab_iload_n h 1 rfl rfl dX4_takesFigure_57 ?_
        refine ab_iconst (v := 1) h dX4_takesFigure_58 (by decide) ?_
        refine ab_icmp_lt (tgt := 77) h dX4_takesFigure_59 (by decide) (fun hf => ?_) (fun hf => ?_) hf
        · refine ab_iconst (v := 0) h dX4_takesFigure_77 (by decide) ?_
          obtain rfl := Option.some.inj hf
          exact ab_zret h he [] rfl (Or.inl rfl) rfl rfl rfl rfl dX4_takesFigure_78
        · refine ab_aload_n h 0 rfl rfl dX4_takesFigure_62 ?_
          refine ab_get h in_X4 0 rfl rfl 0 (by decide) fl_X4_12 rfl dX4_takesFigure_63 ?_
          refine ab_iload_n h 1 rfl rfl dX4_takesFigure_66 ?_
          obtain ⟨w4, hw4, hf⟩ := bind_inv hf
          refine ab_cut (wr := wReader (g_K G).2.1 (g_K G).2.2.1 a_r (a_d 0) 1 (c_r_figuresTaken + 1) c_r_bowl c_r_secret) h (run_V (As := [.int x1]) (st := []) h (c_X3_addBowl (g_l G) (g_K G) a_d c_d_bowls c_d_fishes c_d_lips c_d_hours c_d_start c_d_first c_d_kind c_d_post c_d_error x1 w4 hw4) ok_X3_addBowl 0 rfl rfl ml_X4_51 ⟨⟨Nat.le_of_ble_eq_true rfl, Nat.le_of_ble_eq_true rfl⟩, ⟨Nat.le_of_ble_eq_true rfl, Nat.le_of_ble_eq_true rfl⟩, Nat.le_of_ble_eq_true rfl⟩ dX4_takesFigure_67 rfl) [1, 2, 3, 4, 5, 6, 7] [0] rfl rfl rfl rfl rfl (by decide) [0, 1, 2, 3, 4, 5, 6, 7] (wReader (g_K G).2.1 (g_K G).2.2.1 a_r (a_d 0) 1 (c_r_figuresTaken + 1) c_r_bowl c_r_secret ++ wPlan (g_K G).2.1 (g_K G).2.2.1 a_d w4.2.1 c_d_fishes c_d_lips w4.2.2 c_d_start c_d_first c_d_kind c_d_post c_d_error) (wPlan (g_K G).2.1 (g_K G).2.2.1 a_d w4.2.1 c_d_fishes c_d_lips w4.2.2 c_d_start c_d_first c_d_kind c_d_post c_d_error) (fun _ => rfl) rfl rfl rfl [.int w4.1] rfl rfl rfl ?_
          refine ab_if_eq (tgt := 77) h dX4_takesFigure_70 (by decide) (fun hf => ?_) (fun hf => ?_) hf
          · refine ab_iconst (v := 0) h dX4_takesFigure_77 (by decide) ?_
            obtain rfl := Option.some.inj hf
            exact ab_zret h he [] rfl (Or.inl rfl) rfl rfl rfl rfl dX4_takesFigure_78
          · refine ab_iconst (v := 1) h dX4_takesFigure_73 (by decide) ?_
            refine ab_goto (tgt := 78) h dX4_takesFigure_74 (by decide) ?_
            obtain rfl := Option.some.inj hf
            exact ab_zret h he [] rfl (Or.inr rfl) rfl rfl rfl rfl dX4_takesFigure_78
      rcases sw_split (c := c_r_part = 70) hf with ⟨hc1, hf⟩ | ⟨hc1, hf⟩
      · refine ab_look (off := 53) (tgt := 79) h hc1 dX4_takesFigure_26 (by decide) (by decide) (by decide) ?_
        refine ab_aload_n h 0 rfl rfl dX4_takesFigure_79 ?_
        refine ab_iload_n h 1 rfl rfl dX4_takesFigure_80 ?_
        obtain ⟨w5, hw5, hf⟩ := bind_inv hf
        refine ab_call0 h (run_V (As := [.int x1]) (st := []) h (c_X4_takesFishFigure (g_l G) (g_K G) a_r a_d c_r_part (c_r_figuresTaken + 1) c_r_bowl c_r_secret c_d_bowls c_d_fishes c_d_lips c_d_hours c_d_start c_d_first c_d_kind c_d_post c_d_error x1 w5 hw5) ok_X4_takesFishFigure 0 rfl rfl ml_X4_54 ⟨⟨Nat.le_of_ble_eq_true rfl, Nat.le_of_ble_eq_true rfl⟩, ⟨Nat.le_of_ble_eq_true rfl, Nat.le_of_ble_eq_true rfl⟩, Nat.le_of_ble_eq_true rfl⟩ dX4_takesFigure_81 rfl) (wReader (g_K G).2.1 (g_K G).2.2.1 a_r (a_d 0) w5.2.1 (c_r_figuresTaken + 1) w5.2.2.1 w5.2.2.2.1 ++ wPlan (g_K G).2.1 (g_K G).2.2.1 a_d c_d_bowls w5.2.2.2.2.1 c_d_lips c_d_hours w5.2.2.2.2.2.1 w5.2.2.2.2.2.2.1 w5.2.2.2.2.2.2.2 c_d_post c_d_error) (fun _ => rfl) [.int w5.1] rfl rfl rfl ?_
        obtain ⟨hb, hf⟩ := bz_inv hf
        obtain rfl := Option.some.inj hf
        exact ab_zret h he [] rfl hb rfl rfl rfl rfl dX4_takesFigure_84
      refine ab_lookD (tgt := 85) h dX4_takesFigure_26 (by decide) (by show Op.lookupswitch.offset [(66, 26), (70, 53)] 59 _ = 59; rw [lv_osw hc0 (by decide), lv_osw hc1 (by decide)]; rfl) (by decide) ?_
      refine ab_aload_n h 0 rfl rfl dX4_takesFigure_85 ?_
      refine ab_iload_n h 1 rfl rfl dX4_takesFigure_86 ?_
      obtain ⟨w6, hw6, hf⟩ := bind_inv hf
      refine ab_call0 h (run_V (As := [.int x1]) (st := []) h (c_X4_takesLipFigure (g_l G) (g_K G) a_r a_d c_r_part (c_r_figuresTaken + 1) c_r_bowl c_r_secret c_d_bowls c_d_fishes c_d_lips c_d_hours c_d_start c_d_first c_d_kind c_d_post c_d_error x1 w6 hw6) ok_X4_takesLipFigure 0 rfl rfl ml_X4_57 ⟨⟨Nat.le_of_ble_eq_true rfl, Nat.le_of_ble_eq_true rfl⟩, ⟨Nat.le_of_ble_eq_true rfl, Nat.le_of_ble_eq_true rfl⟩, Nat.le_of_ble_eq_true rfl⟩ dX4_takesFigure_87 rfl) (wReader (g_K G).2.1 (g_K G).2.2.1 a_r (a_d 0) w6.2.1 (c_r_figuresTaken + 1) w6.2.2.1 c_r_secret ++ wPlan (g_K G).2.1 (g_K G).2.2.1 a_d c_d_bowls c_d_fishes w6.2.2.2.1 c_d_hours c_d_start c_d_first c_d_kind w6.2.2.2.2.1 w6.2.2.2.2.2) (fun _ => rfl) [.int w6.1] rfl rfl rfl ?_
      obtain ⟨hb, hf⟩ := bz_inv hf
      obtain rfl := Option.some.inj hf
      exact ab_zret h he [] rfl hb rfl rfl rfl rfl dX4_takesFigure_90
    · refine ab_iconst (v := 0) h dX4_takesFigure_10 (by decide) ?_
      obtain rfl := Option.some.inj hf
      exact ab_zret h he [] rfl (Or.inl rfl) rfl rfl rfl rfl dX4_takesFigure_11
theorem c_X4_takesFigure (l : Launch) (K : Kx) (a_r a_d : Nat → Nat) (c_r_part : Int32) (c_r_figuresTaken : Int32) (c_r_bowl : Int32) (c_r_secret : Int32) (c_d_bowls : Int32) (c_d_fishes : Int32) (c_d_lips : Int32) (c_d_hours : Nat → Int32) (c_d_start : Nat → Int32) (c_d_first : Nat → Int32) (c_d_kind : Nat → Int32) (c_d_post : Nat → Int32) (c_d_error : Nat → Int32) (x1 : Int32) (r : Int32 × Int32 × Int32 × Int32 × Int32 × Int32 × Int32 × Int32 × (Nat → Int32) × (Nat → Int32) × (Nat → Int32) × (Nat → Int32) × (Nat → Int32) × (Nat → Int32)) (hf : f_X4_takesFigure c_r_part c_r_figuresTaken c_r_bowl c_r_secret c_d_bowls c_d_fishes c_d_lips c_d_hours c_d_start c_d_first c_d_kind c_d_post c_d_error x1 = some r) : Ct l yX4_takesFigure cX4_takesFigure 2 (some .boolean) rX4_takesFigure K [.ref (a_r 0), .int x1] (wReader K.2.1 K.2.2.1 a_r (a_d 0) c_r_part c_r_figuresTaken c_r_bowl c_r_secret ++ wPlan K.2.1 K.2.2.1 a_d c_d_bowls c_d_fishes c_d_lips c_d_hours c_d_start c_d_first c_d_kind c_d_post c_d_error) (some (.int r.1)) (fun _ => wReader K.2.1 K.2.2.1 a_r (a_d 0) r.2.1 r.2.2.1 r.2.2.2.1 r.2.2.2.2.1 ++ wPlan K.2.1 K.2.2.1 a_d r.2.2.2.2.2.1 r.2.2.2.2.2.2.1 r.2.2.2.2.2.2.2.1 r.2.2.2.2.2.2.2.2.1 r.2.2.2.2.2.2.2.2.2.1 r.2.2.2.2.2.2.2.2.2.2.1 r.2.2.2.2.2.2.2.2.2.2.2.1 r.2.2.2.2.2.2.2.2.2.2.2.2.1 r.2.2.2.2.2.2.2.2.2.2.2.2.2) := by
  refine Ct.of (by decide +kernel) (Nat.le_of_ble_eq_true rfl) ?_
  intro G hl hK h he
  subst hl
  subst hK
  exact t_X4_takesFigure_0 h he hf

-- BowlState$Reader.takes
abbrev rX4_takes : Room := { frames := 4, cells := 0, slots := 0, locals := 86 }
def f_X4_takes (c_r_part : Int32) (c_r_figuresTaken : Int32) (c_r_bowl : Int32) (c_r_secret : Int32) (c_d_bowls : Int32) (c_d_fishes : Int32) (c_d_lips : Int32) (c_d_hours : Nat → Int32) (c_d_start : Nat → Int32) (c_d_first : Nat → Int32) (c_d_kind : Nat → Int32) (c_d_post : Nat → Int32) (c_d_error : Nat → Int32) (x1 : Int32) : Option (Int32 × Int32 × Int32 × Int32 × Int32 × Int32 × Int32 × Int32 × (Nat → Int32) × (Nat → Int32) × (Nat → Int32) × (Nat → Int32) × (Nat → Int32) × (Nat → Int32)) := if c_r_part = 0 then (if x1 = 71 then (some (1, 1, c_r_figuresTaken, c_r_bowl, c_r_secret, c_d_bowls, c_d_fishes, c_d_lips, c_d_hours, c_d_start, c_d_first, c_d_kind, c_d_post, c_d_error)) else (some (0, 1, c_r_figuresTaken, c_r_bowl, c_r_secret, c_d_bowls, c_d_fishes, c_d_lips, c_d_hours, c_d_start, c_d_first, c_d_kind, c_d_post, c_d_error))) else (if c_r_part = 1 then ((f_X4_opensPart c_d_bowls c_d_fishes c_d_lips c_d_start x1).bind (fun w3 => bz w3.1 (some (w3.1, w3.2.1, w3.2.2, c_r_bowl, c_r_secret, c_d_bowls, c_d_fishes, c_d_lips, c_d_hours, c_d_start, c_d_first, c_d_kind, c_d_post, c_d_error)))) else ((f_X4_takesFigure c_r_part c_r_figuresTaken c_r_bowl c_r_secret c_d_bowls c_d_fishes c_d_lips c_d_hours c_d_start c_d_first c_d_kind c_d_post c_d_error (x1 - 48)).bind (fun w4 => bz w4.1 (some (w4.1, w4.2.1, w4.2.2.1, w4.2.2.2.1, w4.2.2.2.2.1, w4.2.2.2.2.2.1, w4.2.2.2.2.2.2.1, w4.2.2.2.2.2.2.2.1, w4.2.2.2.2.2.2.2.2.1, w4.2.2.2.2.2.2.2.2.2.1, w4.2.2.2.2.2.2.2.2.2.2.1, w4.2.2.2.2.2.2.2.2.2.2.2.1, w4.2.2.2.2.2.2.2.2.2.2.2.2.1, w4.2.2.2.2.2.2.2.2.2.2.2.2.2)))))
set_option maxRecDepth 100000 in
set_option maxHeartbeats 4000000 in
theorem t_X4_takes_0 {G : Cx} (h : Am G yX4_takes cX4_takes 2 (some .boolean) rX4_takes) {a_r a_d : Nat → Nat} {c_r_part : Int32} {c_r_figuresTaken : Int32} {c_r_bowl : Int32} {c_r_secret : Int32} {c_d_bowls : Int32} {c_d_fishes : Int32} {c_d_lips : Int32} {c_d_hours : Nat → Int32} {c_d_start : Nat → Int32} {c_d_first : Nat → Int32} {c_d_kind : Nat → Int32} {c_d_post : Nat → Int32} {c_d_error : Nat → Int32} {r : Int32 × Int32 × Int32 × Int32 × Int32 × Int32 × Int32 × Int32 × (Nat → Int32) × (Nat → Int32) × (Nat → Int32) × (Nat → Int32) × (Nat → Int32) × (Nat → Int32)} (he : En G rX4_takes (some (.int r.1)) (fun _ => wReader (g_K G).2.1 (g_K G).2.2.1 a_r (a_d 0) r.2.1 r.2.2.1 r.2.2.2.1 r.2.2.2.2.1 ++ wPlan (g_K G).2.1 (g_K G).2.2.1 a_d r.2.2.2.2.2.1 r.2.2.2.2.2.2.1 r.2.2.2.2.2.2.2.1 r.2.2.2.2.2.2.2.2.1 r.2.2.2.2.2.2.2.2.2.1 r.2.2.2.2.2.2.2.2.2.2.1 r.2.2.2.2.2.2.2.2.2.2.2.1 r.2.2.2.2.2.2.2.2.2.2.2.2.1 r.2.2.2.2.2.2.2.2.2.2.2.2.2)) {x1 : Int32} (hf : f_X4_takes c_r_part c_r_figuresTaken c_r_bowl c_r_secret c_d_bowls c_d_fishes c_d_lips c_d_hours c_d_start c_d_first c_d_kind c_d_post c_d_error x1 = some r) : AB G 0 0 (wReader (g_K G).2.1 (g_K G).2.2.1 a_r (a_d 0) c_r_part c_r_figuresTaken c_r_bowl c_r_secret ++ wPlan (g_K G).2.1 (g_K G).2.2.1 a_d c_d_bowls c_d_fishes c_d_lips c_d_hours c_d_start c_d_first c_d_kind c_d_post c_d_error) [(0, .ref (a_r 0)), (1, .int x1)] 0 [] := by
  unfold f_X4_takes at hf
  refine ab_aload_n h 0 rfl rfl dX4_takes_0 ?_
  refine ab_get h in_X4 0 rfl rfl 1 (by decide) fl_X4_21 rfl dX4_takes_1 ?_
  rcases sw_split (c := c_r_part = 0) hf with ⟨hc0, hf⟩ | ⟨hc0, hf⟩
  · refine ab_look (off := 28) (tgt := 32) h hc0 dX4_takes_4 (by decide) (by decide) (by decide) ?_
    refine ab_aload_n h 0 rfl rfl dX4_takes_32 ?_
    refine ab_iconst (v := 1) h dX4_takes_33 (by decide) ?_
    refine ab_put h in_X4 tyX4 tyX4_ok nmX4 0 (wReader (g_K G).2.1 (g_K G).2.2.1 a_r (a_d 0) 1 c_r_figuresTaken c_r_bowl c_r_secret ++ wPlan (g_K G).2.1 (g_K G).2.2.1 a_d c_d_bowls c_d_fishes c_d_lips c_d_hours c_d_start c_d_first c_d_kind c_d_post c_d_error) rfl rfl 1 (by decide) fl_X4_21 rfl (tyX4_ok 1 (by decide)) rfl rfl (Nat.le_of_ble_eq_true rfl) rfl dX4_takes_34 ?_
    refine ab_iload_n h 1 rfl rfl dX4_takes_37 ?_
    refine ab_bipush (v := 71) h dX4_takes_38 (by decide) ?_
    refine ab_icmp_ne (tgt := 47) h dX4_takes_40 (by decide) (fun hf => ?_) (fun hf => ?_) hf
    · refine ab_iconst (v := 0) h dX4_takes_47 (by decide) ?_
      obtain rfl := Option.some.inj hf
      exact ab_zret h he [] rfl (Or.inl rfl) rfl rfl rfl rfl dX4_takes_48
    · refine ab_iconst (v := 1) h dX4_takes_43 (by decide) ?_
      refine ab_goto (tgt := 48) h dX4_takes_44 (by decide) ?_
      obtain rfl := Option.some.inj hf
      exact ab_zret h he [] rfl (Or.inr rfl) rfl rfl rfl rfl dX4_takes_48
  rcases sw_split (c := c_r_part = 1) hf with ⟨hc1, hf⟩ | ⟨hc1, hf⟩
  · refine ab_look (off := 45) (tgt := 49) h hc1 dX4_takes_4 (by decide) (by decide) (by decide) ?_
    refine ab_aload_n h 0 rfl rfl dX4_takes_49 ?_
    refine ab_iload_n h 1 rfl rfl dX4_takes_50 ?_
    obtain ⟨w3, hw3, hf⟩ := bind_inv hf
    refine ab_call0 h (run_V (As := [.int x1]) (st := []) h (c_X4_opensPart (g_l G) (g_K G) a_r a_d c_r_part c_r_figuresTaken c_r_bowl c_r_secret c_d_bowls c_d_fishes c_d_lips c_d_hours c_d_start c_d_first c_d_kind c_d_post c_d_error x1 w3 hw3) ok_X4_opensPart 0 rfl rfl ml_X4_29 ⟨⟨Nat.le_of_ble_eq_true rfl, Nat.le_of_ble_eq_true rfl⟩, ⟨Nat.le_of_ble_eq_true rfl, Nat.le_of_ble_eq_true rfl⟩, Nat.le_of_ble_eq_true rfl⟩ dX4_takes_51 rfl) (wReader (g_K G).2.1 (g_K G).2.2.1 a_r (a_d 0) w3.2.1 w3.2.2 c_r_bowl c_r_secret ++ wPlan (g_K G).2.1 (g_K G).2.2.1 a_d c_d_bowls c_d_fishes c_d_lips c_d_hours c_d_start c_d_first c_d_kind c_d_post c_d_error) (fun _ => rfl) [.int w3.1] rfl rfl rfl ?_
    obtain ⟨hb, hf⟩ := bz_inv hf
    obtain rfl := Option.some.inj hf
    exact ab_zret h he [] rfl hb rfl rfl rfl rfl dX4_takes_54
  refine ab_lookD (tgt := 55) h dX4_takes_4 (by decide) (by show Op.lookupswitch.offset [(0, 28), (1, 45)] 51 _ = 51; rw [lv_osw hc0 (by decide), lv_osw hc1 (by decide)]; rfl) (by decide) ?_
  refine ab_aload_n h 0 rfl rfl dX4_takes_55 ?_
  refine ab_iload_n h 1 rfl rfl dX4_takes_56 ?_
  refine ab_bipush (v := 48) h dX4_takes_57 (by decide) ?_
  refine ab_isub h dX4_takes_59 ?_
  obtain ⟨w4, hw4, hf⟩ := bind_inv hf
  refine ab_call0 h (run_V (As := [.int (x1 - 48)]) (st := []) h (c_X4_takesFigure (g_l G) (g_K G) a_r a_d c_r_part c_r_figuresTaken c_r_bowl c_r_secret c_d_bowls c_d_fishes c_d_lips c_d_hours c_d_start c_d_first c_d_kind c_d_post c_d_error (x1 - 48) w4 hw4) ok_X4_takesFigure 0 rfl rfl ml_X4_32 ⟨⟨Nat.le_of_ble_eq_true rfl, Nat.le_of_ble_eq_true rfl⟩, ⟨Nat.le_of_ble_eq_true rfl, Nat.le_of_ble_eq_true rfl⟩, Nat.le_of_ble_eq_true rfl⟩ dX4_takes_60 rfl) (wReader (g_K G).2.1 (g_K G).2.2.1 a_r (a_d 0) w4.2.1 w4.2.2.1 w4.2.2.2.1 w4.2.2.2.2.1 ++ wPlan (g_K G).2.1 (g_K G).2.2.1 a_d w4.2.2.2.2.2.1 w4.2.2.2.2.2.2.1 w4.2.2.2.2.2.2.2.1 w4.2.2.2.2.2.2.2.2.1 w4.2.2.2.2.2.2.2.2.2.1 w4.2.2.2.2.2.2.2.2.2.2.1 w4.2.2.2.2.2.2.2.2.2.2.2.1 w4.2.2.2.2.2.2.2.2.2.2.2.2.1 w4.2.2.2.2.2.2.2.2.2.2.2.2.2) (fun _ => rfl) [.int w4.1] rfl rfl rfl ?_
  obtain ⟨hb, hf⟩ := bz_inv hf
  obtain rfl := Option.some.inj hf
  exact ab_zret h he [] rfl hb rfl rfl rfl rfl dX4_takes_63
theorem c_X4_takes (l : Launch) (K : Kx) (a_r a_d : Nat → Nat) (c_r_part : Int32) (c_r_figuresTaken : Int32) (c_r_bowl : Int32) (c_r_secret : Int32) (c_d_bowls : Int32) (c_d_fishes : Int32) (c_d_lips : Int32) (c_d_hours : Nat → Int32) (c_d_start : Nat → Int32) (c_d_first : Nat → Int32) (c_d_kind : Nat → Int32) (c_d_post : Nat → Int32) (c_d_error : Nat → Int32) (x1 : Int32) (r : Int32 × Int32 × Int32 × Int32 × Int32 × Int32 × Int32 × Int32 × (Nat → Int32) × (Nat → Int32) × (Nat → Int32) × (Nat → Int32) × (Nat → Int32) × (Nat → Int32)) (hf : f_X4_takes c_r_part c_r_figuresTaken c_r_bowl c_r_secret c_d_bowls c_d_fishes c_d_lips c_d_hours c_d_start c_d_first c_d_kind c_d_post c_d_error x1 = some r) : Ct l yX4_takes cX4_takes 2 (some .boolean) rX4_takes K [.ref (a_r 0), .int x1] (wReader K.2.1 K.2.2.1 a_r (a_d 0) c_r_part c_r_figuresTaken c_r_bowl c_r_secret ++ wPlan K.2.1 K.2.2.1 a_d c_d_bowls c_d_fishes c_d_lips c_d_hours c_d_start c_d_first c_d_kind c_d_post c_d_error) (some (.int r.1)) (fun _ => wReader K.2.1 K.2.2.1 a_r (a_d 0) r.2.1 r.2.2.1 r.2.2.2.1 r.2.2.2.2.1 ++ wPlan K.2.1 K.2.2.1 a_d r.2.2.2.2.2.1 r.2.2.2.2.2.2.1 r.2.2.2.2.2.2.2.1 r.2.2.2.2.2.2.2.2.1 r.2.2.2.2.2.2.2.2.2.1 r.2.2.2.2.2.2.2.2.2.2.1 r.2.2.2.2.2.2.2.2.2.2.2.1 r.2.2.2.2.2.2.2.2.2.2.2.2.1 r.2.2.2.2.2.2.2.2.2.2.2.2.2) := by
  refine Ct.of (by decide +kernel) (Nat.le_of_ble_eq_true rfl) ?_
  intro G hl hK h he
  subst hl
  subst hK
  exact t_X4_takes_0 h he hf

-- BowlState$Reader.firstFault
abbrev rX4_firstFault : Room := { frames := 5, cells := 0, slots := 0, locals := 107 }
def f_X4_firstFault_43 (c_r_part : Int32) (c_r_figuresTaken : Int32) (c_r_bowl : Int32) (c_r_secret : Int32) (c_d_bowls : Int32) (c_d_fishes : Int32) (c_d_lips : Int32) (c_d_hours : Nat → Int32) (c_d_start : Nat → Int32) (c_d_first : Nat → Int32) (c_d_kind : Nat → Int32) (c_d_post : Nat → Int32) (c_d_error : Nat → Int32) (x2 : Int32) : Option (Int32 × Int32 × Int32 × Int32 × Int32 × Int32 × Int32 × Int32 × (Nat → Int32) × (Nat → Int32) × (Nat → Int32) × (Nat → Int32) × (Nat → Int32) × (Nat → Int32)) := if c_r_part = 1 then (some ((-9), c_r_part, c_r_figuresTaken, c_r_bowl, c_r_secret, c_d_bowls, c_d_fishes, c_d_lips, c_d_hours, c_d_start, c_d_first, c_d_kind, c_d_post, c_d_error)) else (some (x2, c_r_part, c_r_figuresTaken, c_r_bowl, c_r_secret, c_d_bowls, c_d_fishes, c_d_lips, c_d_hours, c_d_start, c_d_first, c_d_kind, c_d_post, c_d_error))
set_option maxRecDepth 100000 in
set_option maxHeartbeats 4000000 in
theorem t_X4_firstFault_43 {G : Cx} (h : Am G yX4_firstFault cX4_firstFault 4 (some .int) rX4_firstFault) {a_r a_d a_t : Nat → Nat} {c_r_part : Int32} {c_r_figuresTaken : Int32} {c_r_bowl : Int32} {c_r_secret : Int32} {c_d_bowls : Int32} {c_d_fishes : Int32} {c_d_lips : Int32} {c_d_hours : Nat → Int32} {c_d_start : Nat → Int32} {c_d_first : Nat → Int32} {c_d_kind : Nat → Int32} {c_d_post : Nat → Int32} {c_d_error : Nat → Int32} {c_t_text : Nat → Int32} {r : Int32 × Int32 × Int32 × Int32 × Int32 × Int32 × Int32 × Int32 × (Nat → Int32) × (Nat → Int32) × (Nat → Int32) × (Nat → Int32) × (Nat → Int32) × (Nat → Int32)} (he : En G rX4_firstFault (some (.int r.1)) (fun _ => wReader (g_K G).2.1 (g_K G).2.2.1 a_r (a_d 0) r.2.1 r.2.2.1 r.2.2.2.1 r.2.2.2.2.1 ++ wPlan (g_K G).2.1 (g_K G).2.2.1 a_d r.2.2.2.2.2.1 r.2.2.2.2.2.2.1 r.2.2.2.2.2.2.2.1 r.2.2.2.2.2.2.2.2.1 r.2.2.2.2.2.2.2.2.2.1 r.2.2.2.2.2.2.2.2.2.2.1 r.2.2.2.2.2.2.2.2.2.2.2.1 r.2.2.2.2.2.2.2.2.2.2.2.2.1 r.2.2.2.2.2.2.2.2.2.2.2.2.2 ++ wText (g_K G).2.1 (g_K G).2.2.1 a_t c_t_text)) {x2 : Int32} (hf : f_X4_firstFault_43 c_r_part c_r_figuresTaken c_r_bowl c_r_secret c_d_bowls c_d_fishes c_d_lips c_d_hours c_d_start c_d_first c_d_kind c_d_post c_d_error x2 = some r) : AB G 0 0 (wReader (g_K G).2.1 (g_K G).2.2.1 a_r (a_d 0) c_r_part c_r_figuresTaken c_r_bowl c_r_secret ++ wPlan (g_K G).2.1 (g_K G).2.2.1 a_d c_d_bowls c_d_fishes c_d_lips c_d_hours c_d_start c_d_first c_d_kind c_d_post c_d_error ++ wText (g_K G).2.1 (g_K G).2.2.1 a_t c_t_text) [(0, .ref (a_r 0)), (2, .int x2)] 43 [] := by
  unfold f_X4_firstFault_43 at hf
  refine ab_aload_n h 0 rfl rfl dX4_firstFault_43 ?_
  refine ab_get h in_X4 0 rfl rfl 1 (by decide) fl_X4_21 rfl dX4_firstFault_44 ?_
  refine ab_iconst (v := 1) h dX4_firstFault_47 (by decide) ?_
  refine ab_icmp_ne (tgt := 56) h dX4_firstFault_48 (by decide) (fun hf => ?_) (fun hf => ?_) hf
  · refine ab_iload_n h 1 rfl rfl dX4_firstFault_56 ?_
    obtain rfl := Option.some.inj hf
    exact ab_iret h he [] rfl rfl rfl rfl rfl dX4_firstFault_57
  · refine ab_bipush (v := (-9)) h dX4_firstFault_51 (by decide) ?_
    refine ab_goto (tgt := 57) h dX4_firstFault_53 (by decide) ?_
    obtain rfl := Option.some.inj hf
    exact ab_iret h he [] rfl rfl rfl rfl rfl dX4_firstFault_57
def f_X4_firstFault_14 (c_t_text : Nat → Int32) (x2 : Int32) (k14 : (Int32 × Int32 × Int32 × Int32 × Int32 × Int32 × Int32 × Int32 × (Nat → Int32) × (Nat → Int32) × (Nat → Int32) × (Nat → Int32) × (Nat → Int32) × (Nat → Int32)) → Option (Int32 × Int32 × Int32 × Int32 × Int32 × Int32 × Int32 × Int32 × (Nat → Int32) × (Nat → Int32) × (Nat → Int32) × (Nat → Int32) × (Nat → Int32) × (Nat → Int32))) (x3 : Int32) (c_r_part : Int32) (c_r_figuresTaken : Int32) (c_r_bowl : Int32) (c_r_secret : Int32) (c_d_bowls : Int32) (c_d_fishes : Int32) (c_d_lips : Int32) (c_d_hours : Nat → Int32) (c_d_start : Nat → Int32) (c_d_first : Nat → Int32) (c_d_kind : Nat → Int32) (c_d_post : Nat → Int32) (c_d_error : Nat → Int32) : Option (Int32 × Int32 × Int32 × Int32 × Int32 × Int32 × Int32 × Int32 × (Nat → Int32) × (Nat → Int32) × (Nat → Int32) × (Nat → Int32) × (Nat → Int32) × (Nat → Int32)) := if x2 ≤ x3 then (f_X4_firstFault_43 c_r_part c_r_figuresTaken c_r_bowl c_r_secret c_d_bowls c_d_fishes c_d_lips c_d_hours c_d_start c_d_first c_d_kind c_d_post c_d_error x2) else (if 48 ≤ x3 then (f_X4_firstFault_43 c_r_part c_r_figuresTaken c_r_bowl c_r_secret c_d_bowls c_d_fishes c_d_lips c_d_hours c_d_start c_d_first c_d_kind c_d_post c_d_error x2) else (rd 48 c_t_text x3 (fun v4 => (f_X4_takes c_r_part c_r_figuresTaken c_r_bowl c_r_secret c_d_bowls c_d_fishes c_d_lips c_d_hours c_d_start c_d_first c_d_kind c_d_post c_d_error v4).bind (fun w5 => if w5.1 = 0 then (some (x3, w5.2.1, w5.2.2.1, w5.2.2.2.1, w5.2.2.2.2.1, w5.2.2.2.2.2.1, w5.2.2.2.2.2.2.1, w5.2.2.2.2.2.2.2.1, w5.2.2.2.2.2.2.2.2.1, w5.2.2.2.2.2.2.2.2.2.1, w5.2.2.2.2.2.2.2.2.2.2.1, w5.2.2.2.2.2.2.2.2.2.2.2.1, w5.2.2.2.2.2.2.2.2.2.2.2.2.1, w5.2.2.2.2.2.2.2.2.2.2.2.2.2)) else (k14 (x3 + 1, w5.2.1, w5.2.2.1, w5.2.2.2.1, w5.2.2.2.2.1, w5.2.2.2.2.2.1, w5.2.2.2.2.2.2.1, w5.2.2.2.2.2.2.2.1, w5.2.2.2.2.2.2.2.2.1, w5.2.2.2.2.2.2.2.2.2.1, w5.2.2.2.2.2.2.2.2.2.2.1, w5.2.2.2.2.2.2.2.2.2.2.2.1, w5.2.2.2.2.2.2.2.2.2.2.2.2.1, w5.2.2.2.2.2.2.2.2.2.2.2.2.2))))))
def g_X4_firstFault_14 (c_t_text : Nat → Int32) (x2 : Int32) (k14 : (Int32 × Int32 × Int32 × Int32 × Int32 × Int32 × Int32 × Int32 × (Nat → Int32) × (Nat → Int32) × (Nat → Int32) × (Nat → Int32) × (Nat → Int32) × (Nat → Int32)) → Option (Int32 × Int32 × Int32 × Int32 × Int32 × Int32 × Int32 × Int32 × (Nat → Int32) × (Nat → Int32) × (Nat → Int32) × (Nat → Int32) × (Nat → Int32) × (Nat → Int32))) (s : Int32 × Int32 × Int32 × Int32 × Int32 × Int32 × Int32 × Int32 × (Nat → Int32) × (Nat → Int32) × (Nat → Int32) × (Nat → Int32) × (Nat → Int32) × (Nat → Int32)) : Option (Int32 × Int32 × Int32 × Int32 × Int32 × Int32 × Int32 × Int32 × (Nat → Int32) × (Nat → Int32) × (Nat → Int32) × (Nat → Int32) × (Nat → Int32) × (Nat → Int32)) := f_X4_firstFault_14 c_t_text x2 k14 s.1 s.2.1 s.2.2.1 s.2.2.2.1 s.2.2.2.2.1 s.2.2.2.2.2.1 s.2.2.2.2.2.2.1 s.2.2.2.2.2.2.2.1 s.2.2.2.2.2.2.2.2.1 s.2.2.2.2.2.2.2.2.2.1 s.2.2.2.2.2.2.2.2.2.2.1 s.2.2.2.2.2.2.2.2.2.2.2.1 s.2.2.2.2.2.2.2.2.2.2.2.2.1 s.2.2.2.2.2.2.2.2.2.2.2.2.2
set_option maxRecDepth 100000 in
set_option maxHeartbeats 4000000 in
theorem t_X4_firstFault_14 {G : Cx} (h : Am G yX4_firstFault cX4_firstFault 4 (some .int) rX4_firstFault) {a_r a_d a_t : Nat → Nat} {c_t_text : Nat → Int32} {r : Int32 × Int32 × Int32 × Int32 × Int32 × Int32 × Int32 × Int32 × (Nat → Int32) × (Nat → Int32) × (Nat → Int32) × (Nat → Int32) × (Nat → Int32) × (Nat → Int32)} (he : En G rX4_firstFault (some (.int r.1)) (fun _ => wReader (g_K G).2.1 (g_K G).2.2.1 a_r (a_d 0) r.2.1 r.2.2.1 r.2.2.2.1 r.2.2.2.2.1 ++ wPlan (g_K G).2.1 (g_K G).2.2.1 a_d r.2.2.2.2.2.1 r.2.2.2.2.2.2.1 r.2.2.2.2.2.2.2.1 r.2.2.2.2.2.2.2.2.1 r.2.2.2.2.2.2.2.2.2.1 r.2.2.2.2.2.2.2.2.2.2.1 r.2.2.2.2.2.2.2.2.2.2.2.1 r.2.2.2.2.2.2.2.2.2.2.2.2.1 r.2.2.2.2.2.2.2.2.2.2.2.2.2 ++ wText (g_K G).2.1 (g_K G).2.2.1 a_t c_t_text)) {x2 : Int32} (n : Nat) (s : Int32 × Int32 × Int32 × Int32 × Int32 × Int32 × Int32 × Int32 × (Nat → Int32) × (Nat → Int32) × (Nat → Int32) × (Nat → Int32) × (Nat → Int32) × (Nat → Int32)) (hf : loopN (g_X4_firstFault_14 c_t_text x2) n s = some r) : AB G 0 0 (wReader (g_K G).2.1 (g_K G).2.2.1 a_r (a_d 0) s.2.1 s.2.2.1 s.2.2.2.1 s.2.2.2.2.1 ++ wPlan (g_K G).2.1 (g_K G).2.2.1 a_d s.2.2.2.2.2.1 s.2.2.2.2.2.2.1 s.2.2.2.2.2.2.2.1 s.2.2.2.2.2.2.2.2.1 s.2.2.2.2.2.2.2.2.2.1 s.2.2.2.2.2.2.2.2.2.2.1 s.2.2.2.2.2.2.2.2.2.2.2.1 s.2.2.2.2.2.2.2.2.2.2.2.2.1 s.2.2.2.2.2.2.2.2.2.2.2.2.2 ++ wText (g_K G).2.1 (g_K G).2.2.1 a_t c_t_text) [(0, .ref (a_r 0)), (1, .ref (a_t 0)), (2, .int x2), (3, .int s.1)] 14 [] := by
  refine loopN_all (fun s => AB G 0 0 (wReader (g_K G).2.1 (g_K G).2.2.1 a_r (a_d 0) s.2.1 s.2.2.1 s.2.2.2.1 s.2.2.2.2.1 ++ wPlan (g_K G).2.1 (g_K G).2.2.1 a_d s.2.2.2.2.2.1 s.2.2.2.2.2.2.1 s.2.2.2.2.2.2.2.1 s.2.2.2.2.2.2.2.2.1 s.2.2.2.2.2.2.2.2.2.1 s.2.2.2.2.2.2.2.2.2.2.1 s.2.2.2.2.2.2.2.2.2.2.2.1 s.2.2.2.2.2.2.2.2.2.2.2.2.1 s.2.2.2.2.2.2.2.2.2.2.2.2.2 ++ wText (g_K G).2.1 (g_K G).2.2.1 a_t c_t_text) [(0, .ref (a_r 0)), (1, .ref (a_t 0)), (2, .int x2), (3, .int s.1)] 14 []) (fun k14 hk14 s hf => ?_) n s hf
  obtain ⟨x3, c_r_part, c_r_figuresTaken, c_r_bowl, c_r_secret, c_d_bowls, c_d_fishes, c_d_lips, c_d_hours, c_d_start, c_d_first, c_d_kind, c_d_post, c_d_error⟩ := s
  change f_X4_firstFault_14 c_t_text x2 k14 x3 c_r_part c_r_figuresTaken c_r_bowl c_r_secret c_d_bowls c_d_fishes c_d_lips c_d_hours c_d_start c_d_first c_d_kind c_d_post c_d_error = some r at hf
  unfold f_X4_firstFault_14 at hf
  show AB G 0 0 (wReader (g_K G).2.1 (g_K G).2.2.1 a_r (a_d 0) c_r_part c_r_figuresTaken c_r_bowl c_r_secret ++ wPlan (g_K G).2.1 (g_K G).2.2.1 a_d c_d_bowls c_d_fishes c_d_lips c_d_hours c_d_start c_d_first c_d_kind c_d_post c_d_error ++ wText (g_K G).2.1 (g_K G).2.2.1 a_t c_t_text) [(0, .ref (a_r 0)), (1, .ref (a_t 0)), (2, .int x2), (3, .int x3)] 14 []
  refine ab_iload_n h 3 rfl rfl dX4_firstFault_14 ?_
  refine ab_iload_n h 2 rfl rfl dX4_firstFault_15 ?_
  refine ab_icmp_ge (tgt := 43) h dX4_firstFault_16 (by decide) (fun hf => ?_) (fun hf => ?_) hf
  · refine ab_sub [0, 2] (lv' := [(0, .ref (a_r 0)), (2, .int x2)]) rfl ?_
    exact t_X4_firstFault_43 h he hf
  · refine ab_iload_n h 3 rfl rfl dX4_firstFault_19 ?_
    refine ab_aload_n h 1 rfl rfl dX4_firstFault_20 ?_
    refine ab_alen (v := 48) h 8 rfl (by decide) dX4_firstFault_21 ?_
    refine ab_icmp_ge (tgt := 43) h dX4_firstFault_22 (by decide) (fun hf => ?_) (fun hf => ?_) hf
    · refine ab_sub [0, 2] (lv' := [(0, .ref (a_r 0)), (2, .int x2)]) rfl ?_
      exact t_X4_firstFault_43 h he hf
    · refine ab_aload_n h 0 rfl rfl dX4_firstFault_25 ?_
      refine ab_aload_n h 1 rfl rfl dX4_firstFault_26 ?_
      refine ab_iload_n h 3 rfl rfl dX4_firstFault_27 ?_
      refine ab_iald h 8 rfl dX4_firstFault_28 (fun v4 hf => ?_) hf
      obtain ⟨w5, hw5, hf⟩ := bind_inv hf
      refine ab_cut (wr := wText (g_K G).2.1 (g_K G).2.2.1 a_t c_t_text) h (run_V (As := [.int v4]) (st := []) h (c_X4_takes (g_l G) (g_K G) a_r a_d c_r_part c_r_figuresTaken c_r_bowl c_r_secret c_d_bowls c_d_fishes c_d_lips c_d_hours c_d_start c_d_first c_d_kind c_d_post c_d_error v4 w5 hw5) ok_X4_takes 0 rfl rfl ml_X4_25 ⟨⟨Nat.le_of_ble_eq_true rfl, Nat.le_of_ble_eq_true rfl⟩, ⟨Nat.le_of_ble_eq_true rfl, Nat.le_of_ble_eq_true rfl⟩, Nat.le_of_ble_eq_true rfl⟩ dX4_firstFault_29 rfl) [0, 1, 2, 3, 4, 5, 6, 7] [8] rfl rfl rfl rfl rfl (by decide) [1, 2, 3, 4, 5, 6, 7, 8, 0] (wReader (g_K G).2.1 (g_K G).2.2.1 a_r (a_d 0) w5.2.1 w5.2.2.1 w5.2.2.2.1 w5.2.2.2.2.1 ++ wPlan (g_K G).2.1 (g_K G).2.2.1 a_d w5.2.2.2.2.2.1 w5.2.2.2.2.2.2.1 w5.2.2.2.2.2.2.2.1 w5.2.2.2.2.2.2.2.2.1 w5.2.2.2.2.2.2.2.2.2.1 w5.2.2.2.2.2.2.2.2.2.2.1 w5.2.2.2.2.2.2.2.2.2.2.2.1 w5.2.2.2.2.2.2.2.2.2.2.2.2.1 w5.2.2.2.2.2.2.2.2.2.2.2.2.2 ++ wText (g_K G).2.1 (g_K G).2.2.1 a_t c_t_text) (wReader (g_K G).2.1 (g_K G).2.2.1 a_r (a_d 0) w5.2.1 w5.2.2.1 w5.2.2.2.1 w5.2.2.2.2.1 ++ wPlan (g_K G).2.1 (g_K G).2.2.1 a_d w5.2.2.2.2.2.1 w5.2.2.2.2.2.2.1 w5.2.2.2.2.2.2.2.1 w5.2.2.2.2.2.2.2.2.1 w5.2.2.2.2.2.2.2.2.2.1 w5.2.2.2.2.2.2.2.2.2.2.1 w5.2.2.2.2.2.2.2.2.2.2.2.1 w5.2.2.2.2.2.2.2.2.2.2.2.2.1 w5.2.2.2.2.2.2.2.2.2.2.2.2.2) (fun _ => rfl) rfl rfl rfl [.int w5.1] rfl rfl rfl ?_
      refine ab_if_ne (tgt := 37) h dX4_firstFault_32 (by decide) (fun hf => ?_) (fun hf => ?_) hf
      · refine ab_iinc (v := x3 + 1) h 3 [1, 2, 3, 0] [(0, .ref (a_r 0)), (1, .ref (a_t 0)), (2, .int x2), (3, .int (x3 + 1))] rfl rfl (by decide) rfl dX4_firstFault_37 ?_
        refine ab_goto (tgt := 14) h dX4_firstFault_40 (by decide) ?_
        exact hk14 (x3 + 1, w5.2.1, w5.2.2.1, w5.2.2.2.1, w5.2.2.2.2.1, w5.2.2.2.2.2.1, w5.2.2.2.2.2.2.1, w5.2.2.2.2.2.2.2.1, w5.2.2.2.2.2.2.2.2.1, w5.2.2.2.2.2.2.2.2.2.1, w5.2.2.2.2.2.2.2.2.2.2.1, w5.2.2.2.2.2.2.2.2.2.2.2.1, w5.2.2.2.2.2.2.2.2.2.2.2.2.1, w5.2.2.2.2.2.2.2.2.2.2.2.2.2) hf
      · refine ab_iload_n h 3 rfl rfl dX4_firstFault_35 ?_
        obtain rfl := Option.some.inj hf
        exact ab_iret h he [] rfl rfl rfl rfl rfl dX4_firstFault_36
def f_X4_firstFault (c_r_figuresTaken : Int32) (c_r_bowl : Int32) (c_r_secret : Int32) (c_d_hours : Nat → Int32) (c_d_start : Nat → Int32) (c_d_first : Nat → Int32) (c_d_kind : Nat → Int32) (c_d_post : Nat → Int32) (c_d_error : Nat → Int32) (c_t_text : Nat → Int32) (x2 : Int32) : Option (Int32 × Int32 × Int32 × Int32 × Int32 × Int32 × Int32 × Int32 × (Nat → Int32) × (Nat → Int32) × (Nat → Int32) × (Nat → Int32) × (Nat → Int32) × (Nat → Int32)) := (f_X3_clear).bind (fun w6 => loopN (g_X4_firstFault_14 c_t_text x2) 100 (0, 0, c_r_figuresTaken, c_r_bowl, c_r_secret, w6.1, w6.2.1, w6.2.2, c_d_hours, c_d_start, c_d_first, c_d_kind, c_d_post, c_d_error))
set_option maxRecDepth 100000 in
set_option maxHeartbeats 4000000 in
theorem t_X4_firstFault_0 {G : Cx} (h : Am G yX4_firstFault cX4_firstFault 4 (some .int) rX4_firstFault) {a_r a_d a_t : Nat → Nat} {c_r_part : Int32} {c_r_figuresTaken : Int32} {c_r_bowl : Int32} {c_r_secret : Int32} {c_d_bowls : Int32} {c_d_fishes : Int32} {c_d_lips : Int32} {c_d_hours : Nat → Int32} {c_d_start : Nat → Int32} {c_d_first : Nat → Int32} {c_d_kind : Nat → Int32} {c_d_post : Nat → Int32} {c_d_error : Nat → Int32} {c_t_text : Nat → Int32} {r : Int32 × Int32 × Int32 × Int32 × Int32 × Int32 × Int32 × Int32 × (Nat → Int32) × (Nat → Int32) × (Nat → Int32) × (Nat → Int32) × (Nat → Int32) × (Nat → Int32)} (he : En G rX4_firstFault (some (.int r.1)) (fun _ => wReader (g_K G).2.1 (g_K G).2.2.1 a_r (a_d 0) r.2.1 r.2.2.1 r.2.2.2.1 r.2.2.2.2.1 ++ wPlan (g_K G).2.1 (g_K G).2.2.1 a_d r.2.2.2.2.2.1 r.2.2.2.2.2.2.1 r.2.2.2.2.2.2.2.1 r.2.2.2.2.2.2.2.2.1 r.2.2.2.2.2.2.2.2.2.1 r.2.2.2.2.2.2.2.2.2.2.1 r.2.2.2.2.2.2.2.2.2.2.2.1 r.2.2.2.2.2.2.2.2.2.2.2.2.1 r.2.2.2.2.2.2.2.2.2.2.2.2.2 ++ wText (g_K G).2.1 (g_K G).2.2.1 a_t c_t_text)) {x2 : Int32} (hf : f_X4_firstFault c_r_figuresTaken c_r_bowl c_r_secret c_d_hours c_d_start c_d_first c_d_kind c_d_post c_d_error c_t_text x2 = some r) : AB G 0 0 (wReader (g_K G).2.1 (g_K G).2.2.1 a_r (a_d 0) c_r_part c_r_figuresTaken c_r_bowl c_r_secret ++ wPlan (g_K G).2.1 (g_K G).2.2.1 a_d c_d_bowls c_d_fishes c_d_lips c_d_hours c_d_start c_d_first c_d_kind c_d_post c_d_error ++ wText (g_K G).2.1 (g_K G).2.2.1 a_t c_t_text) [(0, .ref (a_r 0)), (1, .ref (a_t 0)), (2, .int x2)] 0 [] := by
  unfold f_X4_firstFault at hf
  refine ab_aload_n h 0 rfl rfl dX4_firstFault_0 ?_
  refine ab_get h in_X4 0 rfl rfl 0 (by decide) fl_X4_12 rfl dX4_firstFault_1 ?_
  obtain ⟨w6, hw6, hf⟩ := bind_inv hf
  refine ab_cut (wr := wReader (g_K G).2.1 (g_K G).2.2.1 a_r (a_d 0) c_r_part c_r_figuresTaken c_r_bowl c_r_secret ++ wText (g_K G).2.1 (g_K G).2.2.1 a_t c_t_text) h (run_V (As := []) (st := []) h (c_X3_clear (g_l G) (g_K G) a_d c_d_bowls c_d_fishes c_d_lips c_d_hours c_d_start c_d_first c_d_kind c_d_post c_d_error w6 hw6) ok_X3_clear 0 rfl rfl ml_X4_18 ⟨⟨Nat.le_of_ble_eq_true rfl, Nat.le_of_ble_eq_true rfl⟩, ⟨Nat.le_of_ble_eq_true rfl, Nat.le_of_ble_eq_true rfl⟩, Nat.le_of_ble_eq_true rfl⟩ dX4_firstFault_4 rfl) [1, 2, 3, 4, 5, 6, 7] [0, 8] rfl rfl rfl rfl rfl (by decide) [0, 2, 3, 4, 5, 6, 7, 8, 1] (wReader (g_K G).2.1 (g_K G).2.2.1 a_r (a_d 0) c_r_part c_r_figuresTaken c_r_bowl c_r_secret ++ wPlan (g_K G).2.1 (g_K G).2.2.1 a_d w6.1 w6.2.1 w6.2.2 c_d_hours c_d_start c_d_first c_d_kind c_d_post c_d_error ++ wText (g_K G).2.1 (g_K G).2.2.1 a_t c_t_text) (wPlan (g_K G).2.1 (g_K G).2.2.1 a_d w6.1 w6.2.1 w6.2.2 c_d_hours c_d_start c_d_first c_d_kind c_d_post c_d_error) (fun _ => rfl) rfl rfl rfl [] rfl rfl rfl ?_
  refine ab_aload_n h 0 rfl rfl dX4_firstFault_7 ?_
  refine ab_iconst (v := 0) h dX4_firstFault_8 (by decide) ?_
  refine ab_put h in_X4 tyX4 tyX4_ok nmX4 0 (wReader (g_K G).2.1 (g_K G).2.2.1 a_r (a_d 0) 0 c_r_figuresTaken c_r_bowl c_r_secret ++ wPlan (g_K G).2.1 (g_K G).2.2.1 a_d w6.1 w6.2.1 w6.2.2 c_d_hours c_d_start c_d_first c_d_kind c_d_post c_d_error ++ wText (g_K G).2.1 (g_K G).2.2.1 a_t c_t_text) rfl rfl 1 (by decide) fl_X4_21 rfl (tyX4_ok 1 (by decide)) rfl rfl (Nat.le_of_ble_eq_true rfl) rfl dX4_firstFault_9 ?_
  refine ab_iconst (v := 0) h dX4_firstFault_12 (by decide) ?_
  refine ab_istore_n h [1, 2, 3, 0] [(0, .ref (a_r 0)), (1, .ref (a_t 0)), (2, .int x2), (3, .int 0)] rfl (by decide) rfl dX4_firstFault_13 ?_
  exact t_X4_firstFault_14 h he 100 (0, 0, c_r_figuresTaken, c_r_bowl, c_r_secret, w6.1, w6.2.1, w6.2.2, c_d_hours, c_d_start, c_d_first, c_d_kind, c_d_post, c_d_error) hf
theorem c_X4_firstFault (l : Launch) (K : Kx) (a_r a_d a_t : Nat → Nat) (c_r_part : Int32) (c_r_figuresTaken : Int32) (c_r_bowl : Int32) (c_r_secret : Int32) (c_d_bowls : Int32) (c_d_fishes : Int32) (c_d_lips : Int32) (c_d_hours : Nat → Int32) (c_d_start : Nat → Int32) (c_d_first : Nat → Int32) (c_d_kind : Nat → Int32) (c_d_post : Nat → Int32) (c_d_error : Nat → Int32) (c_t_text : Nat → Int32) (x2 : Int32) (r : Int32 × Int32 × Int32 × Int32 × Int32 × Int32 × Int32 × Int32 × (Nat → Int32) × (Nat → Int32) × (Nat → Int32) × (Nat → Int32) × (Nat → Int32) × (Nat → Int32)) (hf : f_X4_firstFault c_r_figuresTaken c_r_bowl c_r_secret c_d_hours c_d_start c_d_first c_d_kind c_d_post c_d_error c_t_text x2 = some r) : Ct l yX4_firstFault cX4_firstFault 4 (some .int) rX4_firstFault K [.ref (a_r 0), .ref (a_t 0), .int x2] (wReader K.2.1 K.2.2.1 a_r (a_d 0) c_r_part c_r_figuresTaken c_r_bowl c_r_secret ++ wPlan K.2.1 K.2.2.1 a_d c_d_bowls c_d_fishes c_d_lips c_d_hours c_d_start c_d_first c_d_kind c_d_post c_d_error ++ wText K.2.1 K.2.2.1 a_t c_t_text) (some (.int r.1)) (fun _ => wReader K.2.1 K.2.2.1 a_r (a_d 0) r.2.1 r.2.2.1 r.2.2.2.1 r.2.2.2.2.1 ++ wPlan K.2.1 K.2.2.1 a_d r.2.2.2.2.2.1 r.2.2.2.2.2.2.1 r.2.2.2.2.2.2.2.1 r.2.2.2.2.2.2.2.2.1 r.2.2.2.2.2.2.2.2.2.1 r.2.2.2.2.2.2.2.2.2.2.1 r.2.2.2.2.2.2.2.2.2.2.2.1 r.2.2.2.2.2.2.2.2.2.2.2.2.1 r.2.2.2.2.2.2.2.2.2.2.2.2.2 ++ wText K.2.1 K.2.2.1 a_t c_t_text) := by
  refine Ct.of (by decide +kernel) (Nat.le_of_ble_eq_true rfl) ?_
  intro G hl hK h he
  subst hl
  subst hK
  exact t_X4_firstFault_0 h he hf

