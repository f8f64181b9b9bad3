def kUp (kn : Nat → Int32) (n : Nat) (kept : Nat → Int32) : Nat → Int32 := fun j => if j < n ∧ kn j ≠ -9 then kept j + 1 else kept j
def kZ (n : Nat) (kept : Nat → Int32) : Nat → Int32 := fun j => if j < n then 0 else kept j
theorem kUp_yes {kn : Nat → Int32} {n : Nat} {kept : Nat → Int32} (h : kn n ≠ -9) : upd (kUp kn n kept) n (kUp kn n kept n + 1) = kUp kn (n + 1) kept := by
  funext j
  by_cases e : j = n
  · subst e
    rw [upd_s]
    unfold kUp
    rw [if_neg (by omega), if_pos ⟨by omega, h⟩]
  · rw [upd_n _ _ e]
    unfold kUp
    by_cases hj : j < n ∧ kn j ≠ -9
    · rw [if_pos hj, if_pos ⟨by omega, hj.2⟩]
    · rw [if_neg hj, if_neg (fun q => hj ⟨by omega, q.2⟩)]
theorem kUp_no {kn : Nat → Int32} {n : Nat} {kept : Nat → Int32} (h : kn n = -9) : kUp kn n kept = kUp kn (n + 1) kept := by
  funext j
  unfold kUp
  by_cases hj : j < n ∧ kn j ≠ -9
  · rw [if_pos hj, if_pos ⟨by omega, hj.2⟩]
  · rw [if_neg hj, if_neg (fun q => hj ⟨by
      rcases Nat.lt_or_ge j n with r | r
      · exact r
      · have : j = n := by omega
        subst this; exact absurd h q.2, q.2⟩)]
section Watch
variable {B F Lp C i l n : Nat} {hours first kind post error round first2 kind2 begins error2 : Nat → Int32} {pl kn lf now : Nat → Int32} {du ck : Int32}
theorem x2_watch_in (hF : F ≤ 5) {kept : Nat → Int32} {x1 : Int32} (k28 : Int32 × (Nat → Int32) × (Nat → Int32) × (Nat → Int32) × Int32 → Option ((Nat → Int32) × (Nat → Int32) × (Nat → Int32) × Int32)) : loopN (g_X2_watch_43 (nI F) kn lf ck x1 k28) 100 (0, kept) = k28 (x1 + 1, kUp kn F kept, kn, lf, ck) := by
  refine loop1 F (fun i s => s = (nI i, kUp kn i kept)) (fun o => o = k28 (x1 + 1, kUp kn F kept, kn, lf, ck)) ?_ ?_ 100 0 _ (Nat.zero_le _) (by omega) ?_
  · rintro i s hi rfl
    left
    have hlt := lt_le hi (by omega)
    refine ⟨_, rfl, fun k => ?_⟩
    by_cases c : kn i = -9
    · simp only [g_X2_watch_43, f_X2_watch_43, f_X2_watch_78, if_neg hlt, rd5 (show i < 5 by omega), c, if_true, nI_1]
      rw [kUp_no c]
    · simp only [g_X2_watch_43, f_X2_watch_43, f_X2_watch_78, if_neg hlt, rd5 (show i < 5 by omega), ix5 (show i < 5 by omega), cl_n (show i < 2 ^ 31 by omega), c, if_false, nI_1]
      rw [kUp_yes c]
  · rintro s rfl k
    simp only [g_X2_watch_43, f_X2_watch_43, f_X2_watch_84, if_pos (nI_le (Nat.le_refl F) (show F < 2 ^ 31 by omega))]
  · have : kUp kn 0 kept = kept := by funext j; unfold kUp; rw [if_neg (by omega)]
    rw [this]; rfl
theorem x2_watch_zero (hF : F ≤ 5) {kept : Nat → Int32} : f_X2_watch kept (nI B) (nI F) (nI Lp) hours first kind post error pl kn lf du ck = loopN (g_X2_watch_28 (nI B) (nI F) (nI Lp) hours first kind post error pl du) 100 (0, kZ F kept, kn, lf, ck) := by
  unfold f_X2_watch
  refine loop1 F (fun i s => s = (nI i, kZ i kept)) (fun o => o = loopN (g_X2_watch_28 (nI B) (nI F) (nI Lp) hours first kind post error pl du) 100 (0, kZ F kept, kn, lf, ck)) ?_ ?_ 100 0 _ (Nat.zero_le _) (by omega) ?_
  · rintro i s hi rfl
    left
    have hlt := lt_le hi (by omega)
    refine ⟨_, rfl, fun k => ?_⟩
    simp only [g_X2_watch_2, f_X2_watch_2, if_neg hlt, ix5 (show i < 5 by omega), cl_n (show i < 2 ^ 31 by omega), nI_1]
    have : upd (kZ i kept) i 0 = kZ (i + 1) kept := by
      funext j
      by_cases e : j = i
      · subst e; rw [upd_s]; unfold kZ; rw [if_pos (by omega)]
      · rw [upd_n _ _ e]; unfold kZ
        by_cases h : j < i
        · rw [if_pos h, if_pos (by omega)]
        · rw [if_neg h, if_neg (by omega)]
    rw [this]
  · rintro s rfl k
    simp only [g_X2_watch_2, f_X2_watch_2, f_X2_watch_26, if_pos (nI_le (Nat.le_refl F) (show F < 2 ^ 31 by omega))]
  · have : kZ 0 kept = kept := by funext j; unfold kZ; rw [if_neg (by omega)]
    rw [this]; rfl
theorem x_knew (hP : PR B F Lp hours first kind post error round first2 kind2 begins error2) (hM : MR B F Lp C (17 * 1) hours kind pl kn lf du ck now) {a : Nat} (ha : a < F) (kept : Nat → Int32) : (kn a = -9 ∧ f_X7_knows now 1 (nI a) = some 0 ∧ kUp kn F kept a = kept a) ∨ (kn a ≠ -9 ∧ f_X7_knows now 1 (nI a) = some 1 ∧ kUp kn F kept a = kept a + 1) := by
  have hk := x7_knows1 hP hM ha
  by_cases c : kn a = -9
  · left
    rw [if_pos c] at hk
    refine ⟨c, hk, ?_⟩
    unfold kUp; rw [if_neg (fun q => q.2 c)]
  · right
    rw [if_neg c] at hk
    refine ⟨c, hk, ?_⟩
    unfold kUp; rw [if_pos ⟨ha, c⟩]
theorem cl0 : Int32.toNatClampNeg 0 = 0 := by decide
theorem cl1 : Int32.toNatClampNeg 1 = 1 := by decide
theorem rd2_0 {α : Type} (f : Nat → Int32) (k : Int32 → Option α) : rd 2 f 0 k = k (f 0) := rd_n (j := 0) (by decide) (by decide) f k
theorem rd2_1 {α : Type} (f : Nat → Int32) (k : Int32 → Option α) : rd 2 f 1 k = k (f 1) := rd_n (j := 1) (by decide) (by decide) f k
theorem ix2_0 {α : Type} (k : Option α) : ix 2 0 k = k := ix_n (j := 0) (by decide) (by decide) k
theorem ix2_1 {α : Type} (k : Option α) : ix 2 1 k = k := ix_n (j := 1) (by decide) (by decide) k
/-- twelve hours watched -/
theorem x_long (hP : PR B F Lp hours first kind post error round first2 kind2 begins error2) (hM : MR B F Lp C (17 * 1) hours kind pl kn lf du ck now) (hC : C + 12 ≤ 1000) {a b : Nat} (ha : a < F) (hb : b < F) (kept oft : Nat → Int32) :
    ∃ kept1 r now1 oft1, f_X2_watch kept (nI B) (nI F) (nI Lp) hours first kind post error pl kn lf du ck = some (kept1, r) ∧ f_X7_goLong (nI B) (nI F) (nI Lp) round first2 kind2 begins error2 now oft (nI a) (nI b) = some (now1, oft1) ∧ oft1 0 = kept1 a ∧ oft1 1 = kept1 b ∧ (∃ c, c ≤ 12 ∧ kept1 a = nI c) ∧ (∃ c, c ≤ 12 ∧ kept1 b = nI c) ∧ FrN (17 * 1) now now1 := by
  have h5 := hP.F5
  rw [x2_watch_zero h5]
  unfold f_X7_goLong
  rw [ix2_0, ix2_1, cl0, cl1]
  have z1 : kZ F kept a = 0 := by unfold kZ; rw [if_pos ha]
  have z2 : kZ F kept b = 0 := by unfold kZ; rw [if_pos hb]
  refine loop2 (st1 := g_X2_watch_28 (nI B) (nI F) (nI Lp) hours first kind post error pl du) (st2 := g_X7_goLong_16 (nI B) (nI F) (nI Lp) round first2 kind2 begins error2 (nI a) (nI b)) 12 (fun h s1 s2 => s1.1 = nI h ∧ s2.1 = nI h ∧ MR B F Lp (C + h) (17 * 1) hours kind pl s1.2.2.1 s1.2.2.2.1 du s1.2.2.2.2 s2.2.1 ∧ FrN (17 * 1) now s2.2.1 ∧ (s2.2.2 0 = s1.2.1 a ∧ s2.2.2 1 = s1.2.1 b) ∧ (∃ c, c ≤ h ∧ s1.2.1 a = nI c) ∧ (∃ c, c ≤ h ∧ s1.2.1 b = nI c)) (fun o1 o2 => ∃ kept1 r now1 oft1, o1 = some (kept1, r) ∧ o2 = some (now1, oft1) ∧ oft1 0 = kept1 a ∧ oft1 1 = kept1 b ∧ (∃ c, c ≤ 12 ∧ kept1 a = nI c) ∧ (∃ c, c ≤ 12 ∧ kept1 b = nI c) ∧ FrN (17 * 1) now now1) ?_ ?_ 100 100 0 _ _ (Nat.zero_le _) (by omega) (by omega) ⟨rfl, rfl, hM, FrN.rf, ⟨by dsimp only; rw [upd_n _ _ (by decide), upd_s, z1], by dsimp only; rw [upd_s, z2]⟩, ⟨0, by omega, z1⟩, ⟨0, by omega, z2⟩⟩
  · rintro h ⟨x, kept, kn, lf, ck⟩ ⟨x', now1, oft⟩ hh ⟨e1, e2, hM, hF, ⟨o1, o2⟩, ⟨c1, hc1, k1⟩, ⟨c2, hc2, k2⟩⟩
    dsimp only at e1 e2 hM hF o1 o2 k1 k2
    subst e1; subst e2
    left
    have t1 : ¬ (12 : Int32) ≤ nI h := lt_le (b := 12) hh (by decide)
    obtain ⟨kn1, lf1, now2, r1, r2, r3, r4⟩ := x_pass1 hP hM (by omega)
    have ka := x_knew hP r3 ha kept
    have kb := x_knew hP r3 hb kept
    have bnd : ∀ {q c : Nat}, q < F → c ≤ h → kept q = nI c → ∃ c', c' ≤ h + 1 ∧ kUp kn1 F kept q = nI c' := by
      intro q c hq hc e
      rcases x_knew hP r3 hq kept with ⟨_, _, e2⟩ | ⟨_, _, e2⟩
      · exact ⟨c, by omega, by rw [e2, e]⟩
      · exact ⟨c + 1, by omega, by rw [e2, e, nI_1]⟩
    refine ⟨(nI (h + 1), kUp kn1 F kept, kn1, lf1, ck + 1), (nI (h + 1), now2, upd (upd oft 0 (kUp kn1 F kept a)) 1 (kUp kn1 F kept b)), ⟨rfl, rfl, r3, hF.tr r4, ⟨by dsimp only; rw [upd_n _ _ (by decide), upd_s], by dsimp only; rw [upd_s]⟩, bnd ha hc1 k1, bnd hb hc2 k2⟩, fun k => ?_, fun k => ?_⟩
    · simp only [g_X2_watch_28, f_X2_watch_28, if_neg t1, r1, Option.bind_some, x2_watch_in h5, nI_1]
    · rcases ka with ⟨_, wa, ea⟩ | ⟨_, wa, ea⟩
      · rcases kb with ⟨_, wb, eb⟩ | ⟨_, wb, eb⟩
        · simp only [g_X7_goLong_16, f_X7_goLong_16, f_X7_goLong_48, f_X7_goLong_71, if_neg t1, r2, Option.bind_some, rd2_0, rd2_1, ix2_0, ix2_1, cl0, cl1, wa, wb, if_true, nI_1, o1, o2, ea, eb, Int32.add_zero, upd_n oft (kept a) (show (1 : Nat) ≠ 0 by decide)]
        · simp only [g_X7_goLong_16, f_X7_goLong_16, f_X7_goLong_48, f_X7_goLong_71, if_neg t1, r2, Option.bind_some, rd2_0, rd2_1, ix2_0, ix2_1, cl0, cl1, wa, wb, if_true, if_neg (show ¬ (1 : Int32) = 0 by decide), nI_1, o1, o2, ea, eb, Int32.add_zero, upd_n oft (kept a) (show (1 : Nat) ≠ 0 by decide)]
      · rcases kb with ⟨_, wb, eb⟩ | ⟨_, wb, eb⟩
        · simp only [g_X7_goLong_16, f_X7_goLong_16, f_X7_goLong_48, f_X7_goLong_71, if_neg t1, r2, Option.bind_some, rd2_0, rd2_1, ix2_0, ix2_1, cl0, cl1, wa, wb, if_true, if_neg (show ¬ (1 : Int32) = 0 by decide), nI_1, o1, o2, ea, eb, Int32.add_zero, upd_n oft (kept a + 1) (show (1 : Nat) ≠ 0 by decide)]
        · simp only [g_X7_goLong_16, f_X7_goLong_16, f_X7_goLong_48, f_X7_goLong_71, if_neg t1, r2, Option.bind_some, rd2_0, rd2_1, ix2_0, ix2_1, cl0, cl1, wa, wb, if_neg (show ¬ (1 : Int32) = 0 by decide), nI_1, o1, o2, ea, eb, upd_n oft (kept a + 1) (show (1 : Nat) ≠ 0 by decide)]
  · rintro ⟨x, kept, kn, lf, ck⟩ ⟨x', now1, oft⟩ ⟨e1, e2, hM, hF, ⟨o1, o2⟩, k1, k2⟩ q1 q2
    dsimp only at e1 e2 hM hF o1 o2 k1 k2
    subst e1; subst e2
    refine ⟨kept, (kn, lf, ck), now1, oft, ?_, ?_, o1, o2, k1, k2, hF⟩
    · simp only [g_X2_watch_28, f_X2_watch_28, if_pos (show (12 : Int32) ≤ nI 12 from Int32.le_refl _)]
    · simp only [g_X7_goLong_16, f_X7_goLong_16, if_pos (show (12 : Int32) ≤ nI 12 from Int32.le_refl _)]
theorem bitsN_full (p : Nat → Bool) : ∀ n, bitsN p n = 2 ^ n - 1 ↔ ∀ i, i < n → p i = true
  | 0 => ⟨fun _ i hi => by omega, fun _ => rfl⟩
  | n + 1 => by
    have ih := bitsN_full p n
    have hl := bitsN_lt p n
    show bitsN p n + (if p n then 2 ^ n else 0) = 2 ^ (n + 1) - 1 ↔ _
    rw [Nat.pow_succ]
    constructor
    · intro h
      cases hp : p n with
      | false => rw [hp] at h; simp only [Bool.false_eq_true, if_false] at h; omega
      | true =>
        rw [hp] at h; simp only [if_true] at h
        have h2 := ih.mp (by omega)
        intro i hi
        rcases Nat.lt_or_ge i n with r | r
        · exact h2 i r
        · have : i = n := by omega
          subst this; exact hp
    · intro h
      have h1 := ih.mpr (fun i hi => h i (by omega))
      rw [h n (by omega), h1]
      simp only [if_true]
      have : 0 < 2 ^ n := Nat.two_pow_pos n
      omega
theorem pop_full : ∀ F, F ≤ 5 → ∀ X, X < 32 → X < 2 ^ F → (popN X = F ↔ X = 2 ^ F - 1) := by decide +kernel
/-! CREW's question -/
theorem x_keptBy (hP : PR B F Lp hours first kind post error round first2 kind2 begins error2) (hM : MR B F Lp C 0 hours kind pl kn lf du ck now) (hC : C + 12 ≤ 1000) {d : Nat} (hd : d < 2 ^ Lp) :
    ∃ v now1, f_X7_isKeptBy (nI B) (nI F) (nI Lp) round first2 kind2 begins error2 now (nI d) = some (v, now1) ∧ (v = 0 ∨ v = 1) ∧ FrN (17 * 1) now now1 ∧ ∀ kept g1 g2 g3, ∃ r, f_X2_nothingIsLostBy kept (nI B) (nI F) (nI Lp) hours first kind post error pl kn lf du ck g1 g2 g3 (nI d) = some (v, r) := by
  have h5 := hP.F5
  have key : ∀ kept g1 g2 g3, ∃ v r now1, f_X2_nothingIsLostBy kept (nI B) (nI F) (nI Lp) hours first kind post error pl kn lf du ck g1 g2 g3 (nI d) = some (v, r) ∧ f_X7_isKeptBy (nI B) (nI F) (nI Lp) round first2 kind2 begins error2 now (nI d) = some (v, now1) ∧ (v = 0 ∨ v = 1) ∧ FrN (17 * 1) now now1 := by
    intro kept g1 g2 g3
    have hM0 := MR_duty (trial_MR hM h5 g1 g2 g3) h5 hd
    have e32 : Int32.toNatClampNeg 32 = 32 := by decide
    have i32 : ∀ {α : Type} (k : Option α), ix 34 32 k = k := fun k => ix_n (j := 32) (by decide) (by decide) k
    unfold f_X2_nothingIsLostBy f_X7_isKeptBy
    rw [x2_start, Option.bind_some, x7_layTrial, Option.bind_some, i32, e32]
    dsimp only
    rw [x2_watch_zero h5]
    have run := loop2 (st1 := g_X2_watch_28 (nI B) (nI F) (nI Lp) hours first kind post error (va_cpy pl g1 0 0 5) (nI d)) (st2 := g_X7_isKeptBy_16 (nI B) (nI F) (nI Lp) round first2 kind2 begins error2) 12
      (fun h s1 s2 => s1.1 = nI h ∧ s2.2.1 = nI h ∧ MR B F Lp (C + h) (17 * 1) hours kind (va_cpy pl g1 0 0 5) s1.2.2.1 s1.2.2.2.1 (nI d) s1.2.2.2.2 s2.2.2 ∧ FrN (17 * 1) now s2.2.2 ∧ ∃ c : Nat → Nat, (∀ i, i < F → c i ≤ h ∧ s1.2.1 i = nI (c i)) ∧ ((s2.1 = 1 ∧ ∀ i, i < F → c i = h) ∨ (s2.1 = 0 ∧ ∃ i, i < F ∧ c i < h)))
      (fun o1 o2 => ∃ kept1 r v now1, o1 = some (kept1, r) ∧ o2 = some (v, now1) ∧ FrN (17 * 1) now now1 ∧ ∃ c : Nat → Nat, (∀ i, i < F → c i ≤ 12 ∧ kept1 i = nI (c i)) ∧ ((v = 1 ∧ ∀ i, i < F → c i = 12) ∨ (v = 0 ∧ ∃ i, i < F ∧ c i < 12))) ?_ ?_ 100 100 0 (0, kZ F kept, va_cpy kn g2 0 0 5, va_cpy lf g3 0 0 5, ck) (1, 0, upd (va_cpy now now 0 17 17) 32 (nI d)) (Nat.zero_le _) (by omega) (by omega) ⟨rfl, rfl, hM0, Fr_lay.tr Fr32, fun _ => 0, fun i hi => ⟨Nat.le_refl _, by dsimp only; unfold kZ; rw [if_pos hi]; rfl⟩, Or.inl ⟨rfl, fun _ _ => rfl⟩⟩
    · obtain ⟨kept1, ⟨kn1, lf1, ck1⟩, v, now1, r1, r2, r3, c, hc, hv⟩ := run
      rw [r1, r2, Option.bind_some]
      dsimp only
      rcases hv with ⟨rfl, hall⟩ | ⟨rfl, i0, hi0, hlt0⟩
      · refine ⟨1, (kept1, va_cpy pl g1 0 0 5, kn1, lf1, nI d, ck1), now1, ?_, rfl, Or.inr rfl, r3⟩
        refine loop1 F (fun i s => s = nI i) (fun o => o = some (1, (kept1, va_cpy pl g1 0 0 5, kn1, lf1, nI d, ck1))) ?_ ?_ 100 0 _ (Nat.zero_le _) (by omega) rfl
        · rintro i s hi rfl
          left
          refine ⟨_, rfl, fun k => ?_⟩
          simp only [g_X2_nothingIsLostBy_18, f_X2_nothingIsLostBy_18, if_neg (lt_le hi (show F < 2 ^ 31 by omega)), rd5 (show i < 5 by omega), (hc i hi).2, hall i hi, if_pos (show (12 : Int32) ≤ nI 12 from Int32.le_refl _), nI_1]
        · rintro s rfl k
          simp only [g_X2_nothingIsLostBy_18, f_X2_nothingIsLostBy_18, if_pos (nI_le (Nat.le_refl F) (show F < 2 ^ 31 by omega))]
      · refine ⟨0, (kept1, va_cpy pl g1 0 0 5, kn1, lf1, nI d, ck1), now1, ?_, rfl, Or.inl rfl, r3⟩
        refine loop1 F (fun i s => s = nI i ∧ i ≤ i0) (fun o => o = some (0, (kept1, va_cpy pl g1 0 0 5, kn1, lf1, nI d, ck1))) ?_ ?_ 100 0 _ (Nat.zero_le _) (by omega) ⟨rfl, Nat.zero_le _⟩
        · rintro i s hi ⟨rfl, hle⟩
          by_cases hci : c i = 12
          · left
            refine ⟨_, ⟨rfl, ?_⟩, fun k => ?_⟩
            · rcases Nat.lt_or_ge i i0 with q | q
              · exact q
              · have : i = i0 := by omega
                subst this; omega
            · simp only [g_X2_nothingIsLostBy_18, f_X2_nothingIsLostBy_18, if_neg (lt_le hi (show F < 2 ^ 31 by omega)), rd5 (show i < 5 by omega), (hc i hi).2, hci, if_pos (show (12 : Int32) ≤ nI 12 from Int32.le_refl _), nI_1]
          · right
            intro k
            have hn : ¬ (12 : Int32) ≤ nI (c i) := lt_le (b := 12) (by have := (hc i hi).1; omega) (by decide)
            simp only [g_X2_nothingIsLostBy_18, f_X2_nothingIsLostBy_18, if_neg (lt_le hi (show F < 2 ^ 31 by omega)), rd5 (show i < 5 by omega), (hc i hi).2, if_neg hn]
        · rintro s ⟨rfl, hle⟩ k
          omega
    · rintro h ⟨x, kept, kn, lf, ck⟩ ⟨al, x', now1⟩ hh ⟨e1, e2, hM, hF, c, hc, hal⟩
      dsimp only at e1 e2 hM hF hc hal
      subst e1; subst e2
      left
      have t1 : ¬ (12 : Int32) ≤ nI h := lt_le (b := 12) hh (by decide)
      obtain ⟨kn1, lf1, now2, r1, r2, r3, r4⟩ := x_pass1 hP hM (by omega)
      have hkn := x7_knowing0 (lv := 1) hP r3 (Nat.le_refl 1)
      have hX := bitsN_32 (fun i => decide (kn1 i ≠ -9)) h5
      have hpop := pop_fin _ hX
      have hcnt : ∀ i, i < F → (fun i => if kn1 i = -9 then c i else c i + 1) i ≤ h + 1 ∧ kUp kn1 F kept i = nI ((fun i => if kn1 i = -9 then c i else c i + 1) i) := by
        intro i hi
        obtain ⟨q1, q2⟩ := hc i hi
        dsimp only
        rcases x_knew hP r3 hi kept with ⟨k1, _, k2⟩ | ⟨k1, _, k2⟩
        · rw [if_pos k1]; exact ⟨by omega, by rw [k2, q2]⟩
        · rw [if_neg k1]; exact ⟨by omega, by rw [k2, q2, nI_1]⟩
      have cstep : ∀ k, g_X2_watch_28 (nI B) (nI F) (nI Lp) hours first kind post error (va_cpy pl g1 0 0 5) (nI d) k (nI h, kept, kn, lf, ck) = k (nI (h + 1), kUp kn1 F kept, kn1, lf1, ck + 1) := fun k => by
        simp only [g_X2_watch_28, f_X2_watch_28, if_neg t1, r1, Option.bind_some, x2_watch_in h5, nI_1]
      rcases hal with ⟨rfl, hall⟩ | ⟨rfl, i0, hi0, hlt0⟩
      · by_cases hfull : ∀ i, i < F → kn1 i ≠ -9
        · have hb : bitsN (fun i => decide (kn1 i ≠ -9)) F = 2 ^ F - 1 := (bitsN_full _ F).mpr (fun i hi => by simp [hfull i hi])
          have hp : popN (bitsN (fun i => decide (kn1 i ≠ -9)) F) = F := (pop_full F h5 _ hX (bitsN_lt _ F)).mpr hb
          refine ⟨(nI (h + 1), kUp kn1 F kept, kn1, lf1, ck + 1), (1, nI (h + 1), now2), ⟨rfl, rfl, r3, hF.tr r4, _, hcnt, Or.inl ⟨rfl, fun i hi => ?_⟩⟩, cstep, fun k => ?_⟩
          · rw [if_neg (hfull i hi), hall i hi]
          · have hkn' : f_X7_knowing (nI F) first2 now2 1 0 = some (nI (bitsN (fun i => decide (kn1 i ≠ -9)) F)) := hkn
            simp only [g_X7_isKeptBy_16, f_X7_isKeptBy_16, f_X7_isKeptBy_51, f_X7_isKeptBy_52, if_neg t1, r2, Option.bind_some, if_neg (show ¬ (1 : Int32) = 0 by decide), hkn', hpop.2.1, hp, if_true, nI_1]
        · have hb : ¬ bitsN (fun i => decide (kn1 i ≠ -9)) F = 2 ^ F - 1 := fun h => hfull (fun i hi => by have := (bitsN_full _ F).mp h i hi; simpa using this)
          have hp : ¬ popN (bitsN (fun i => decide (kn1 i ≠ -9)) F) = F := fun h => hb ((pop_full F h5 _ hX (bitsN_lt _ F)).mp h)
          have hex : ∃ i, i < F ∧ kn1 i = -9 := Classical.byContradiction (fun hn => hfull (fun i hi e => hn ⟨i, hi, e⟩))
          obtain ⟨i1, hi1, ei1⟩ := hex
          refine ⟨(nI (h + 1), kUp kn1 F kept, kn1, lf1, ck + 1), (0, nI (h + 1), now2), ⟨rfl, rfl, r3, hF.tr r4, _, hcnt, Or.inr ⟨rfl, i1, hi1, ?_⟩⟩, cstep, fun k => ?_⟩
          · rw [if_pos ei1, hall i1 hi1]; omega
          · have hkn' : f_X7_knowing (nI F) first2 now2 1 0 = some (nI (bitsN (fun i => decide (kn1 i ≠ -9)) F)) := hkn
            have hne : ¬ nI (popN (bitsN (fun i => decide (kn1 i ≠ -9)) F)) = nI F := fun h => hp ((nI_eq (by have := hpop.2.2; omega) (by omega)).mp h)
            simp only [g_X7_isKeptBy_16, f_X7_isKeptBy_16, f_X7_isKeptBy_51, f_X7_isKeptBy_52, if_neg t1, r2, Option.bind_some, if_neg (show ¬ (1 : Int32) = 0 by decide), hkn', hpop.2.1, if_neg hne, nI_1]
      · refine ⟨(nI (h + 1), kUp kn1 F kept, kn1, lf1, ck + 1), (0, nI (h + 1), now2), ⟨rfl, rfl, r3, hF.tr r4, _, hcnt, Or.inr ⟨rfl, i0, hi0, ?_⟩⟩, cstep, fun k => ?_⟩
        · split <;> omega
        · simp only [g_X7_isKeptBy_16, f_X7_isKeptBy_16, f_X7_isKeptBy_51, f_X7_isKeptBy_52, if_neg t1, r2, Option.bind_some, if_true, nI_1]
    · rintro ⟨x, kept, kn, lf, ck⟩ ⟨al, x', now1⟩ ⟨e1, e2, hM, hF, c, hc, hal⟩ q1 q2
      dsimp only at e1 e2 hM hF hc hal
      subst e1; subst e2
      refine ⟨kept, (kn, lf, ck), al, now1, ?_, ?_, hF, c, hc, hal⟩
      · simp only [g_X2_watch_28, f_X2_watch_28, if_pos (show (12 : Int32) ≤ nI 12 from Int32.le_refl _)]
      · rcases hal with ⟨rfl, _⟩ | ⟨rfl, _⟩
        · simp only [g_X7_isKeptBy_16, f_X7_isKeptBy_16, if_pos (show (12 : Int32) ≤ nI 12 from Int32.le_refl _), bz1]
        · simp only [g_X7_isKeptBy_16, f_X7_isKeptBy_16, if_pos (show (12 : Int32) ≤ nI 12 from Int32.le_refl _), bz0]
  obtain ⟨v, r, now1, r1, r2, r3, r4⟩ := key (fun _ => 0) (fun _ => 0) (fun _ => 0) (fun _ => 0)
  refine ⟨v, now1, r2, r3, r4, fun kept g1 g2 g3 => ?_⟩
  obtain ⟨v2, rr, now2, s1, s2, s3, s4⟩ := key kept g1 g2 g3
  rw [r2] at s2
  have ev : v = v2 := congrArg (fun o : Option (Int32 × (Nat → Int32)) => (o.map Prod.fst).getD 0) s2
  exact ⟨rr, by rw [s1, ev]⟩
end Watch
