theorem testB (p : Nat → Bool) (g : Nat) : ∀ n, (bitsN p n).testBit g = (decide (g < n) && p g)
  | 0 => by unfold bitsN; rw [Nat.zero_testBit, decide_eq_false (by omega), Bool.false_and]
  | n + 1 => by
    have ih := testB p g n
    have hlt := bitsN_lt p n
    have h2 : 2 ^ (n + 1) = 2 * 2 ^ n := by rw [Nat.pow_succ, Nat.mul_comm]
    unfold bitsN
    by_cases hp : p n = true
    · rw [if_pos hp, Nat.add_comm]
      rcases Nat.lt_trichotomy g n with q | q | q
      · rw [Nat.testBit_two_pow_add_gt q, ih, decide_eq_true q, decide_eq_true (show g < n + 1 by omega)]
      · subst q
        rw [Nat.testBit_two_pow_add_eq, Nat.testBit_lt_two_pow hlt, decide_eq_true (show g < g + 1 by omega), hp]; rfl
      · have h3 : 2 ^ (n + 1) ≤ 2 ^ g := Nat.pow_le_pow_right (by decide) q
        rw [Nat.testBit_lt_two_pow (by omega), decide_eq_false (show ¬ g < n + 1 by omega), Bool.false_and]
    · have hpf : p n = false := Bool.eq_false_iff.mpr hp
      rw [if_neg hp, Nat.add_zero, ih]
      rcases Nat.lt_trichotomy g n with q | q | q
      · rw [decide_eq_true q, decide_eq_true (show g < n + 1 by omega)]
      · subst q
        rw [decide_eq_false (show ¬ g < g by omega), Bool.false_and, hpf, Bool.and_false]
      · rw [decide_eq_false (show ¬ g < n by omega), decide_eq_false (show ¬ g < n + 1 by omega)]
theorem bits0 (p : Nat → Bool) : ∀ n, bitsN p n = 0 ↔ anyN p n = false
  | 0 => ⟨fun _ => rfl, fun _ => rfl⟩
  | n + 1 => by
    have ih := bits0 p n
    have h2 : 0 < 2 ^ n := Nat.two_pow_pos n
    unfold bitsN
    rw [anyN_s]
    by_cases hp : p n = true
    · rw [if_pos hp, hp, Bool.or_true]
      constructor
      · intro q; omega
      · intro q; exact absurd q (by decide)
    · rw [if_neg hp, Nat.add_zero, ih, Bool.eq_false_iff.mpr hp, Bool.or_false]
theorem has_fin : ∀ X, X < 32 → ∀ g, g < 10 → f_X7_has (nI X) (nI g) = some (if X.testBit g then 1 else 0) := by decide +kernel
theorem hasc_fin : ∀ g, g < 10 → f_X7_has 1022 (nI g) = some (if 1 ≤ g then 1 else 0) ∧ f_X7_has 1023 (nI g) = some 1 ∧ f_X7_has 15 (nI g) = some (if g ≤ 3 then 1 else 0) := by decide +kernel
theorem hasl_fin : ∀ B, B < 6 → ∀ g, g < 10 → f_X7_has (jshl 1 (nI B) - 1) (nI g) = some (if g < B then 1 else 0) ∧ f_X3_hasBowl (nI B) (nI g) = some (if g < B then 1 else 0) := by decide +kernel
theorem ne9 {a : Nat} (h : a < 2 ^ 31) : ¬ nI a = -9 := fun q => nI_pos h (by rw [q]; decide)
theorem cntN_cong {p q : Nat → Bool} : ∀ {n : Nat}, (∀ i, i < n → p i = q i) → cntN p n = cntN q n
  | 0, _ => rfl
  | n + 1, h => by
    unfold cntN
    rw [cntN_cong (fun i hi => h i (by omega)), h n (by omega)]
/-- how many fish begin in a bowl -/
def begN (start : Nat → Int32) (F b : Nat) : Nat := cntN (fun i => decide (start i = nI b)) F
theorem begN_le (start : Nat → Int32) (F b : Nat) : begN start F b ≤ F := cntN_le _ _
def roomP (start : Nat → Int32) (F : Nat) (b : Nat) : Bool := decide (begN start F b < 3)
section Read
variable {B F Lp T a n : Nat} {hours start first kind post error rr rf rl ri txt txt2 : Nat → Int32}
theorem c_room (hB : B ≤ 5) (hF : F ≤ 5) {g : Nat} (hg : g < 10) : f_X3_hasRoomAtStart (nI B) (nI F) start (nI g) = some (if (decide (g < B) && roomP start F g) = true then 1 else 0) := by
  unfold f_X3_hasRoomAtStart
  refine loop1 (st := g_X3_hasRoomAtStart_4 (nI B) (nI F) start (nI g)) F (fun i s => s = (nI (begN start i g), nI i)) (fun o => o = some (if (decide (g < B) && roomP start F g) = true then 1 else 0)) ?_ ?_ 100 0 _ (Nat.zero_le _) (by omega) rfl
  · rintro i s hi rfl
    left
    have hlt := lt_le hi (show F < 2 ^ 31 by omega)
    refine ⟨_, rfl, fun k => ?_⟩
    have e : begN start (i + 1) g = begN start i g + (if decide (start i = nI g) = true then 1 else 0) := rfl
    rw [e]
    by_cases q : start i = nI g
    · rw [if_pos (decide_eq_true q)]
      simp only [g_X3_hasRoomAtStart_4, f_X3_hasRoomAtStart_4, f_X3_hasRoomAtStart_25, if_neg hlt, rd5 (show i < 5 by omega), if_pos q, nI_1]
    · rw [if_neg (show ¬ decide (start i = nI g) = true from fun r => q (of_decide_eq_true r))]
      simp only [g_X3_hasRoomAtStart_4, f_X3_hasRoomAtStart_4, f_X3_hasRoomAtStart_25, if_neg hlt, rd5 (show i < 5 by omega), if_neg q, nI_1, Nat.add_zero]
  · rintro s rfl k
    have hle := nI_le (Nat.le_refl F) (show F < 2 ^ 31 by omega)
    have hb := (hasl_fin B (by omega) g hg).2
    have hc := begN_le start F g
    simp only [g_X3_hasRoomAtStart_4, f_X3_hasRoomAtStart_4, f_X3_hasRoomAtStart_31, if_pos hle, hb, Option.bind_some]
    by_cases q : g < B
    · rw [if_pos q, if_neg (show ¬ (1 : Int32) = 0 by decide), decide_eq_true q, Bool.true_and]
      unfold roomP
      by_cases q3 : begN start F g < 3
      · rw [if_neg (show ¬ (3 : Int32) ≤ nI (begN start F g) from nI_ge (b := 3) q3 (by decide)), if_pos (decide_eq_true q3)]
      · rw [if_pos (show (3 : Int32) ≤ nI (begN start F g) from nI_le (a := 3) (by omega) (by omega)), if_neg (fun r => q3 (of_decide_eq_true r))]
    · rw [if_neg q, if_pos rfl, decide_eq_false q, Bool.false_and]; rfl
theorem c_any (hB : B ≤ 5) (hF : F ≤ 5) : f_X3_hasRoomAnywhere (nI B) (nI F) start = some (if anyN (roomP start F) B then 1 else 0) := by
  unfold f_X3_hasRoomAnywhere
  refine loop1 (st := g_X3_hasRoomAnywhere_2 (nI B) (nI F) start) B (fun b s => s = nI b ∧ anyN (roomP start F) b = false) (fun o => o = some (if anyN (roomP start F) B then 1 else 0)) ?_ ?_ 100 0 _ (Nat.zero_le _) (by omega) ⟨rfl, rfl⟩
  · rintro b s hb ⟨rfl, h⟩
    have hlt := lt_le hb (show B < 2 ^ 31 by omega)
    have hr := c_room (start := start) hB hF (show b < 10 by omega)
    rw [decide_eq_true hb, Bool.true_and] at hr
    by_cases q : roomP start F b = true
    · right
      intro k
      rw [if_pos q] at hr
      rw [anyN_of q hb, if_pos rfl]
      simp only [g_X3_hasRoomAnywhere_2, f_X3_hasRoomAnywhere_2, if_neg hlt, hr, Option.bind_some, if_neg (show ¬ (1 : Int32) = 0 by decide)]
    · left
      rw [if_neg q] at hr
      refine ⟨nI (b + 1), ⟨rfl, ?_⟩, fun k => ?_⟩
      · rw [anyN_s, h, Bool.false_or]; exact Bool.eq_false_iff.mpr q
      · simp only [g_X3_hasRoomAnywhere_2, f_X3_hasRoomAnywhere_2, if_neg hlt, hr, Option.bind_some, if_true, nI_1]
  · rintro s ⟨rfl, h⟩ k
    have hle := nI_le (Nat.le_refl B) (show B < 2 ^ 31 by omega)
    rw [h]
    simp only [g_X3_hasRoomAnywhere_2, f_X3_hasRoomAnywhere_2, if_pos hle]; rfl
theorem m_roomy (hB : B ≤ 5) (hF : F ≤ 5) (hri : ∀ b, b < 5 → ri b = nI (begN start F b)) : f_X7_roomy ri (nI B) = some (nI (bitsN (roomP start F) B)) := by
  unfold f_X7_roomy
  refine loop1 (st := g_X7_roomy_4 ri (nI B)) B (fun b s => s = (nI (bitsN (roomP start F) b), nI b)) (fun o => o = some (nI (bitsN (roomP start F) B))) ?_ ?_ 100 0 _ (Nat.zero_le _) (by omega) rfl
  · rintro b s hb rfl
    left
    have hlt := lt_le hb (show B < 2 ^ 31 by omega)
    have hc := begN_le start F b
    refine ⟨_, rfl, fun k => ?_⟩
    by_cases q : begN start F b < 3
    · have hp : roomP start F b = true := decide_eq_true q
      rw [← or_bit _ (show b < 5 by omega) hp]
      simp only [g_X7_roomy_4, f_X7_roomy_4, f_X7_roomy_30, if_neg hlt, rd5 (show b < 5 by omega), hri b (by omega), if_neg (show ¬ (3 : Int32) ≤ nI (begN start F b) from nI_ge (b := 3) q (by decide)), nI_1]
    · have hp : roomP start F b = false := decide_eq_false q
      rw [← or_nobit _ (show b < 5 by omega) hp]
      simp only [g_X7_roomy_4, f_X7_roomy_4, f_X7_roomy_30, if_neg hlt, rd5 (show b < 5 by omega), hri b (by omega), if_pos (show (3 : Int32) ≤ nI (begN start F b) from nI_le (a := 3) (by omega) (by omega)), nI_1]
  · rintro s rfl k
    have hle := nI_le (Nat.le_refl B) (show B < 2 ^ 31 by omega)
    simp only [g_X7_roomy_4, f_X7_roomy_4, if_pos hle]
/-- what was read so far -/
def RD (B F Lp : Nat) (hours start first kind post error rr rf rl ri : Nat → Int32) : Prop :=
  (B ≤ 5 ∧ F ≤ 5 ∧ Lp ≤ 4 ∧ (0 < Lp → 0 < B)) ∧ (∀ i, i < B → rr i = hours i ∧ ∃ h, 1 ≤ h ∧ h < 10 ∧ hours i = nI h) ∧ (∀ i, i < F → (rf (3 * i) = start i ∧ rf (3 * i + 1) = first i ∧ rf (3 * i + 2) = kind i) ∧ (∃ b, b < B ∧ start i = nI b) ∧ ∃ s, s < 10 ∧ first i = nI s) ∧ (∀ l, l < Lp → (rl (2 * l) = post l ∧ rl (2 * l + 1) = error l) ∧ (∃ b, b < B ∧ post l = nI b) ∧ ∃ e, e < 4 ∧ error l = nI e) ∧ (∀ b, b < 5 → ri b = nI (begN start F b))
theorem RD.addB (h : RD B F Lp hours start first kind post error rr rf rl ri) (hB : B < 5) {g : Nat} (g1 : 1 ≤ g) (g2 : g < 10) : RD (B + 1) F Lp (upd hours B (nI g)) start first kind post error (upd rr B (nI g)) rf rl ri := by
  obtain ⟨⟨a1, a2, a3, a4⟩, h2, h3, h4, h5⟩ := h
  refine ⟨⟨by omega, a2, a3, fun _ => by omega⟩, fun i hi => ?_, fun i hi => ?_, fun l hl => ?_, h5⟩
  · by_cases e : i = B
    · subst e; rw [upd_s, upd_s]; exact ⟨rfl, g, g1, g2, rfl⟩
    · rw [upd_n _ _ e, upd_n _ _ e]; exact h2 i (by omega)
  · obtain ⟨b1, ⟨b, hb, eb⟩, b3⟩ := h3 i hi
    exact ⟨b1, ⟨b, by omega, eb⟩, b3⟩
  · obtain ⟨b1, ⟨b, hb, eb⟩, b3⟩ := h4 l hl
    exact ⟨b1, ⟨b, by omega, eb⟩, b3⟩
theorem RD.addF (h : RD B F Lp hours start first kind post error rr rf rl ri) (hF : F < 5) {g s k : Nat} (hg : g < B) (hs : s < 10) : RD B (F + 1) Lp hours (upd start F (nI g)) (upd first F (nI s)) (upd kind F (nI k)) post error rr (upd (upd (upd rf (3 * F) (nI g)) (3 * F + 1) (nI s)) (3 * F + 2) (nI k)) rl (upd ri g (ri g + 1)) := by
  obtain ⟨⟨a1, a2, a3, a4⟩, h2, h3, h4, h5⟩ := h
  refine ⟨⟨a1, by omega, a3, a4⟩, h2, fun i hi => ?_, h4, fun b hb => ?_⟩
  · by_cases e : i = F
    · subst e
      refine ⟨⟨?_, ?_, ?_⟩, ⟨g, hg, ?_⟩, s, hs, ?_⟩
      · rw [upd_n _ _ (by omega), upd_n _ _ (by omega), upd_s, upd_s]
      · rw [upd_n _ _ (by omega), upd_s, upd_s]
      · rw [upd_s, upd_s]
      · rw [upd_s]
      · rw [upd_s]
    · obtain ⟨⟨b1, b2, b3⟩, b4, b5⟩ := h3 i (by omega)
      rw [upd_n start _ e, upd_n first _ e, upd_n kind _ e]
      refine ⟨⟨?_, ?_, ?_⟩, b4, b5⟩
      · rw [upd_n _ _ (by omega), upd_n _ _ (by omega), upd_n _ _ (by omega), b1]
      · rw [upd_n _ _ (by omega), upd_n _ _ (by omega), upd_n _ _ (by omega), b2]
      · rw [upd_n _ _ (by omega), upd_n _ _ (by omega), upd_n _ _ (by omega), b3]
  · have e : begN (upd start F (nI g)) (F + 1) b = begN start F b + (if g = b then 1 else 0) := by
      show cntN _ F + (if decide (upd start F (nI g) F = nI b) = true then 1 else 0) = _
      rw [cntN_cong (q := fun i => decide (start i = nI b)) (fun i hi => by rw [upd_n _ _ (by omega)]), upd_s]
      congr 1
      by_cases q : g = b
      · rw [if_pos q, if_pos (decide_eq_true (congrArg nI q))]
      · rw [if_neg q, if_neg (fun r => q ((nI_eq (by omega) (by omega)).mp (of_decide_eq_true r)))]
    rw [e]
    by_cases q : b = g
    · subst q
      rw [upd_s, if_pos rfl, h5 b hb, nI_1]
    · rw [upd_n _ _ q, if_neg (fun r => q r.symm), h5 b hb]; rfl
theorem RD.addL (h : RD B F Lp hours start first kind post error rr rf rl ri) (hL : Lp < 4) {g k : Nat} (hg : g < B) (hk : k < 4) : RD B F (Lp + 1) hours start first kind (upd post Lp (nI g)) (upd error Lp (nI k)) rr rf (upd (upd rl (2 * Lp) (nI g)) (2 * Lp + 1) (nI k)) ri := by
  obtain ⟨⟨a1, a2, a3, a4⟩, h2, h3, h4, h5⟩ := h
  refine ⟨⟨a1, a2, by omega, fun _ => by omega⟩, h2, h3, fun i hi => ?_, h5⟩
  by_cases e : i = Lp
  · subst e
    refine ⟨⟨?_, ?_⟩, ⟨g, hg, ?_⟩, k, hk, ?_⟩
    · rw [upd_n _ _ (by omega), upd_s, upd_s]
    · rw [upd_s, upd_s]
    · rw [upd_s]
    · rw [upd_s]
  · obtain ⟨⟨b1, b2⟩, b4, b5⟩ := h4 i (by omega)
    rw [upd_n post _ e, upd_n error _ e]
    refine ⟨⟨?_, ?_⟩, b4, b5⟩
    · rw [upd_n _ _ (by omega), upd_n _ _ (by omega), b1]
    · rw [upd_n _ _ (by omega), upd_n _ _ (by omega), b2]
/-! figures on the reference's side -/
theorem fig_flt {x y z : Int32} (h : ¬ y = -9) : f_X7_figureOf txt2 (nI T) x y z = some (0, x, y) := by
  unfold f_X7_figureOf f_X7_figureOf_24 f_X7_figureOf_25 f_X7_figureOf_46 f_X7_figureOf_71
  rw [if_neg h, if_pos rfl, if_pos rfl, if_neg h]
theorem fig_end {z : Int32} (hT : T ≤ 48) : f_X7_figureOf txt2 (nI T) (nI T) (-9) z = some (0, nI T, nI T) := by
  unfold f_X7_figureOf f_X7_figureOf_24 f_X7_figureOf_25 f_X7_figureOf_46 f_X7_figureOf_71
  rw [if_pos rfl, if_pos (nI_le (Nat.le_refl T) (by omega)), if_pos rfl, if_pos rfl, if_pos rfl]
theorem fig_bad {z : Int32} (hT : T ≤ 48) (ha : a < T) (h : f_X7_in (Int32.toInt64 (txt2 a - 48)) 0 9 = some 0) : f_X7_figureOf txt2 (nI T) (nI a) (-9) z = some (0, nI a, nI a) := by
  unfold f_X7_figureOf f_X7_figureOf_25 f_X7_figureOf_46 f_X7_figureOf_71
  rw [if_pos rfl, if_neg (lt_le ha (by omega)), if_neg (show ¬ (1 : Int32) = 0 by decide), rd48 (by omega), if_neg (show ¬ (1 : Int32) = 0 by decide), h, Option.bind_some, if_pos rfl, if_pos rfl]
theorem fig_ok {z w : Int32} (hT : T ≤ 48) (ha : a < T) (h : f_X7_in (Int32.toInt64 (txt2 a - 48)) 0 9 = some 1) (hw : f_X7_has z (txt2 a - 48) = some w) : f_X7_figureOf txt2 (nI T) (nI a) (-9) z = if w = 0 then some (0, nI a, nI a) else some (txt2 a - 48, nI (a + 1), -9) := by
  unfold f_X7_figureOf f_X7_figureOf_25 f_X7_figureOf_46 f_X7_figureOf_71
  rw [if_pos rfl, if_neg (lt_le ha (by omega)), if_neg (show ¬ (1 : Int32) = 0 by decide), rd48 (by omega), if_neg (show ¬ (1 : Int32) = 0 by decide), h, Option.bind_some, if_neg (show ¬ (1 : Int32) = 0 by decide), hw, Option.bind_some, if_pos rfl, nI_1]
/-! a letter on the class's side -/
theorem c_end {f : Nat} {part ft bw sc b fi li : Int32} {h st fr ki po er : Nat → Int32} (hT : T ≤ 48) : loopN (g_X4_firstFault_14 txt (nI T)) (f + 1) (nI T, part, ft, bw, sc, b, fi, li, h, st, fr, ki, po, er) = if part = 1 then some (-9, part, ft, bw, sc, b, fi, li, h, st, fr, ki, po, er) else some (nI T, part, ft, bw, sc, b, fi, li, h, st, fr, ki, po, er) := by
  show f_X4_firstFault_14 txt (nI T) (loopN (g_X4_firstFault_14 txt (nI T)) f) (nI T) part ft bw sc b fi li h st fr ki po er = _
  unfold f_X4_firstFault_14 f_X4_firstFault_43
  rw [if_pos (nI_le (Nat.le_refl T) (by omega))]
theorem c_let {f : Nat} {part ft bw sc b fi li : Int32} {h st fr ki po er : Nat → Int32} (hT : T ≤ 48) (ha : a < T) {w p' f' b' s' c1 c2 c3 : Int32} {h1 h2 h3 h4 h5 h6 : Nat → Int32} (hw : f_X4_takes part ft bw sc b fi li h st fr ki po er (txt a) = some (w, p', f', b', s', c1, c2, c3, h1, h2, h3, h4, h5, h6)) :
    loopN (g_X4_firstFault_14 txt (nI T)) (f + 1) (nI a, part, ft, bw, sc, b, fi, li, h, st, fr, ki, po, er) = if w = 0 then some (nI a, p', f', b', s', c1, c2, c3, h1, h2, h3, h4, h5, h6) else loopN (g_X4_firstFault_14 txt (nI T)) f (nI (a + 1), p', f', b', s', c1, c2, c3, h1, h2, h3, h4, h5, h6) := by
  show f_X4_firstFault_14 txt (nI T) (loopN (g_X4_firstFault_14 txt (nI T)) f) (nI a) part ft bw sc b fi li h st fr ki po er = _
  unfold f_X4_firstFault_14
  rw [if_neg (lt_le ha (by omega)), if_neg (show ¬ (48 : Int32) ≤ nI a from lt_le (b := 48) (by omega) (by decide)), rd48 (by omega), hw, Option.bind_some, nI_1]
end Read
