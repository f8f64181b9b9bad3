section Ops
variable {B F Lp C lv i : Nat} {hours first kind post error round first2 kind2 begins error2 : Nat → Int32} {pl kn lf now : Nat → Int32} {du ck : Int32}
theorem PR.F5 (hP : PR B F Lp hours first kind post error round first2 kind2 begins error2) : F ≤ 5 := hP.1.2.1
theorem PR.B5 (hP : PR B F Lp hours first kind post error round first2 kind2 begins error2) : B ≤ 5 := hP.1.1
theorem PR.L4 (hP : PR B F Lp hours first kind post error round first2 kind2 begins error2) : Lp ≤ 4 := hP.1.2.2.1
theorem MR.at (h : MR B F Lp C (17 * lv) hours kind pl kn lf du ck now) (hi : i < F) : now (17 * lv + i) = pl i ∧ now (17 * lv + 5 + i) = kn i ∧ now (17 * lv + 10 + i) = lf i ∧ (∃ b, b < B ∧ pl i = nI b) ∧ (0 ≤ lf i ∧ lf i ≤ lasS hours kind pl i) ∧ kOK (kn i) (lf i) := h.1 i hi
theorem x1_lasts (hP : PR B F Lp hours first kind post error round first2 kind2 begins error2) (hi : i < F) (hb : ∃ b, b < B ∧ pl i = nI b) : f_X1_lasts pl hours kind (nI i) = some (lasS hours kind pl i) := by
  obtain ⟨b, hb, e⟩ := hb
  have h5 := hP.F5
  have h6 := hP.B5
  unfold f_X1_lasts lasS lasF
  rw [rd5 (by omega), e, rd5 (by omega), rd5 (by omega), cl_n (by omega), nz2]
  split
  · split <;> rfl
  · rfl
theorem x7_lasts (hP : PR B F Lp hours first kind post error round first2 kind2 begins error2) (hi : i < F) {b : Nat} (hb : b < B) : f_X7_lasts round kind2 (nI i) (nI b) = some (lasF (hours b) (kind i)) := by
  have h5 := hP.F5
  have h6 := hP.B5
  obtain ⟨hr, h, h1, h2, hh⟩ := hP.2.1 b hb
  have hk := (hP.2.2.1 i hi).1.2
  have hl := (las_nat h h1 h2).1 (kind i)
  unfold f_X7_lasts f_X7_lasts_27
  rw [rd5 (by omega), rd5 (by omega), nz2, hk, hr, hh, ← hl]
  by_cases hk2 : kind i = 2
  · simp only [hk2, if_true]
    by_cases hc : (1 : Int32) ≤ nI h / 2
    · rw [if_pos hc, if_neg (k2_nlt hc)]
    · rw [if_neg hc, if_pos (k2_lt hc)]
  · simp only [hk2, if_false]
    rw [rd5 (by omega), hr, hh]
    by_cases hc : (1 : Int32) ≤ nI h
    · rw [if_pos hc, if_neg (k2_nlt hc)]
    · rw [if_neg hc, if_pos (k2_lt hc)]
theorem lasS_b {b : Nat} (hb : b < 2 ^ 31) (e : pl i = nI b) : lasS hours kind pl i = lasF (hours b) (kind i) := by
  unfold lasS; rw [e, cl_n hb]
theorem x1_learn (hP : PR B F Lp hours first kind post error round first2 kind2 begins error2) (hi : i < F) (hb : ∃ b, b < B ∧ pl i = nI b) (v : Int32) : f_X1_learn pl kn lf hours kind (nI i) v = some (upd kn i v, upd lf i (lasS hours kind pl i)) := by
  have h5 := hP.F5
  unfold f_X1_learn
  rw [ix5 (by omega), x1_lasts hP hi hb, Option.bind_some, ix5 (by omega), cl_n (by omega)]
theorem x7_learn (hP : PR B F Lp hours first kind post error round first2 kind2 begins error2) (hM : MR B F Lp C (17 * lv) hours kind pl kn lf du ck now) (hlv : lv ≤ 1) (hi : i < F) (v : Int32) : f_X7_learn round kind2 now (nI lv) (nI i) v = some (upd (upd now (17 * lv + 5 + i) v) (17 * lv + 10 + i) (lasS hours kind pl i)) := by
  have h5 := hP.F5
  have h6 := hP.B5
  obtain ⟨a1, a2, a3, ⟨b, hb, e⟩, a5⟩ := hM.at hi
  unfold f_X7_learn
  simp only [n17, n5, n10, nI_add]
  rw [ix34 (by omega), rd34 (by omega), cl_n (by omega), upd_n _ _ (by omega), a1, e, x7_lasts hP hi hb, Option.bind_some, ix34 (by omega), cl_n (by omega), lasS_b (by omega) e]
theorem x1_forget (hP : PR B F Lp hours first kind post error round first2 kind2 begins error2) (hi : i < F) : f_X1_forget kn lf (nI i) = some (upd kn i (-9), upd lf i 0) := by
  have h5 := hP.F5
  unfold f_X1_forget
  rw [ix5 (by omega), ix5 (by omega), cl_n (by omega)]
theorem x7_forget (hP : PR B F Lp hours first kind post error round first2 kind2 begins error2) (hlv : lv ≤ 1) (hi : i < F) : f_X7_forget now (nI lv) (nI i) = some (upd (upd now (17 * lv + 5 + i) (-9)) (17 * lv + 10 + i) 0) := by
  have h5 := hP.F5
  unfold f_X7_forget
  simp only [n17, n5, n10, nI_add]
  rw [ix34 (by omega), ix34 (by omega), cl_n (by omega), cl_n (by omega)]
theorem x7_knows (hP : PR B F Lp hours first kind post error round first2 kind2 begins error2) (hM : MR B F Lp C (17 * lv) hours kind pl kn lf du ck now) (hlv : lv ≤ 1) (hi : i < F) : f_X7_knows now (nI lv) (nI i) = some (if kn i = -9 then 0 else 1) := by
  have h5 := hP.F5
  obtain ⟨a1, a2, a3, -, a5⟩ := hM.at hi
  unfold f_X7_knows
  simp only [n17, n5, nI_add]
  rw [rd34 (by omega), a2]
  split <;> rfl
theorem las_pos (hP : PR B F Lp hours first kind post error round first2 kind2 begins error2) (hb : ∃ b, b < B ∧ pl i = nI b) : (0 : Int32) ≤ lasS hours kind pl i ∧ (1 : Int32) ≤ lasS hours kind pl i := by
  obtain ⟨b, hb, e⟩ := hb
  have h6 := hP.B5
  obtain ⟨hr, h, h1, h2, hh⟩ := hP.2.1 b hb
  rw [lasS_b (by omega) e, hh]
  exact (las_nat h h1 h2).2 (kind i)
theorem le_sub1 {a b : Int32} (h0 : 0 ≤ a) (h : a ≤ b) (hp : 0 < a - 1) : 0 ≤ a - 1 ∧ a - 1 ≤ b := by
  have h1 := Int32.le_iff_toInt_le.mp h
  have h2 := Int32.le_iff_toInt_le.mp h0
  have r1 := a.toInt_lt
  have e : (a - 1).toInt = a.toInt - 1 := by
    rw [Int32.toInt_sub]
    have e1 : (1 : Int32).toInt = 1 := rfl
    have e0 : (0 : Int32).toInt = 0 := rfl
    rw [e0] at h2
    rw [e1, Int.bmod_eq_of_le (by omega) (by omega)]
  have h3 := Int32.lt_iff_toInt_lt.mp hp
  constructor
  · apply Int32.le_iff_toInt_le.mpr; omega
  · apply Int32.le_iff_toInt_le.mpr; omega
/-! an hour: fading, the lips' rounds, the echoes -/
theorem x_fade (hP : PR B F Lp hours first kind post error round first2 kind2 begins error2) (hM : MR B F Lp C (17 * lv) hours kind pl kn lf du ck now) (hlv : lv ≤ 1) :
    ∃ kn1 lf1 now1, f_X1_fade kn lf (nI F) kind = some (kn1, lf1) ∧ f_X7_passOn (nI B) (nI F) (nI Lp) round first2 kind2 begins error2 now (nI lv) = f_X7_passOn_75 (nI B) (nI F) (nI Lp) round first2 kind2 begins error2 now1 (nI lv) (nI (17 * lv)) ∧ MR B F Lp C (17 * lv) hours kind pl kn1 lf1 du ck now1 ∧ FrN (17 * lv) now now1 := by
  have h5 := hP.F5
  unfold f_X1_fade f_X7_passOn
  rw [n17]
  refine loop2 F (fun i s1 s2 => s1.1 = nI i ∧ s2.1 = nI i ∧ MR B F Lp C (17 * lv) hours kind pl s1.2.1 s1.2.2 du ck s2.2 ∧ FrN (17 * lv) now s2.2) (fun o1 o2 => ∃ kn1 lf1 now1, o1 = some (kn1, lf1) ∧ o2 = f_X7_passOn_75 (nI B) (nI F) (nI Lp) round first2 kind2 begins error2 now1 (nI lv) (nI (17 * lv)) ∧ MR B F Lp C (17 * lv) hours kind pl kn1 lf1 du ck now1 ∧ FrN (17 * lv) now now1) ?_ ?_ 100 100 0 _ _ (Nat.zero_le _) (by omega) (by omega) ⟨rfl, rfl, hM, FrN.rf⟩
  · rintro i ⟨x, kn, lf⟩ ⟨x', now1⟩ hi ⟨e1, e2, hM, hF⟩
    dsimp only at e1 e2 hM hF
    subst e1; subst e2
    left
    obtain ⟨a1, a2, a3, ab, a5, a6⟩ := hM.at hi
    have hk := (hP.2.2.1 i hi).1.2
    have hlt := lt_le hi (by omega)
    by_cases c1 : kn i = -9
    · refine ⟨(nI (i + 1), kn, lf), (nI (i + 1), now1), ⟨rfl, rfl, hM, hF⟩, fun k => ?_, fun k => ?_⟩
      · simp only [g_X1_fade_2, f_X1_fade_2, f_X1_fade_61, if_neg hlt, rd5 (show i < 5 by omega), c1, if_true, nI_1]
      · simp only [g_X7_passOn_7, f_X7_passOn_7, f_X7_passOn_69, if_neg hlt, x7_knows hP hM hlv hi, Option.bind_some, c1, if_true, nI_1]
    · by_cases c2 : kind i = 1
      · refine ⟨(nI (i + 1), kn, lf), (nI (i + 1), now1), ⟨rfl, rfl, hM, hF⟩, fun k => ?_, fun k => ?_⟩
        · simp only [g_X1_fade_2, f_X1_fade_2, f_X1_fade_61, if_neg hlt, rd5 (show i < 5 by omega), c1, c2, if_true, if_false, nI_1]
        · simp only [g_X7_passOn_7, f_X7_passOn_7, f_X7_passOn_69, if_neg hlt, x7_knows hP hM hlv hi, Option.bind_some, c1, if_false, if_neg (show ¬ (1 : Int32) = 0 by decide), rd5 (show i < 5 by omega), hk, c2, if_true, nI_1]
      · have hb : 17 * lv + 10 + i < 34 := by omega
        by_cases c3 : 0 < lf i - 1
        · refine ⟨(nI (i + 1), kn, upd lf i (lf i - 1)), (nI (i + 1), upd now1 (17 * lv + 10 + i) (lf i - 1)), ⟨rfl, rfl, MR_lf h5 hM hi (le_sub1 a5.1 a5.2 c3) (Or.inr (a6.resolve_left (fun h => c1 h.1))), hF.tr (FrN.up (by omega) (by omega))⟩, fun k => ?_, fun k => ?_⟩
          · simp only [g_X1_fade_2, f_X1_fade_2, f_X1_fade_61, if_neg hlt, rd5 (show i < 5 by omega), ix5 (show i < 5 by omega), cl_n (show i < 2 ^ 31 by omega), upd_s, c1, c2, c3, if_true, if_false, nI_1]
          · simp only [g_X7_passOn_7, f_X7_passOn_7, f_X7_passOn_69, if_neg hlt, x7_knows hP hM hlv hi, Option.bind_some, c1, if_false, if_neg (show ¬ (1 : Int32) = 0 by decide), rd5 (show i < 5 by omega), hk, c2, n10, nI_add, rd34 hb, ix34 hb, cl_n (show 17 * lv + 10 + i < 2 ^ 31 by omega), upd_s, a3, c3, if_true, nI_1]
        · have hM2 := MR_set (v := -9) (w := 0) h5 hM hi ⟨Int32.le_refl 0, (las_pos hP ab).1⟩ (Or.inl ⟨rfl, rfl⟩)
          have e3 : upd (upd lf i (lf i - 1)) i 0 = upd lf i 0 := fa_u2 lf i _ _
          have e4 : upd (upd (upd now1 (17 * lv + 10 + i) (lf i - 1)) (17 * lv + 5 + i) (-9)) (17 * lv + 10 + i) 0 = upd (upd now1 (17 * lv + 5 + i) (-9)) (17 * lv + 10 + i) 0 := by
            rw [fa_us now1 (show 17 * lv + 10 + i ≠ 17 * lv + 5 + i by omega), fa_u2]
          refine ⟨(nI (i + 1), upd kn i (-9), upd lf i 0), (nI (i + 1), upd (upd now1 (17 * lv + 5 + i) (-9)) (17 * lv + 10 + i) 0), ⟨rfl, rfl, hM2, hF.tr ((FrN.up (by omega) (by omega)).tr (FrN.up (by omega) (by omega)))⟩, fun k => ?_, fun k => ?_⟩
          · simp only [g_X1_fade_2, f_X1_fade_2, f_X1_fade_61, if_neg hlt, rd5 (show i < 5 by omega), ix5 (show i < 5 by omega), cl_n (show i < 2 ^ 31 by omega), upd_s, c1, c2, c3, if_true, if_false, nI_1, x1_forget hP hi, Option.bind_some, e3]
          · simp only [g_X7_passOn_7, f_X7_passOn_7, f_X7_passOn_69, if_neg hlt, x7_knows hP hM hlv hi, Option.bind_some, c1, if_false, if_neg (show ¬ (1 : Int32) = 0 by decide), rd5 (show i < 5 by omega), hk, c2, n10, nI_add, rd34 hb, ix34 hb, cl_n (show 17 * lv + 10 + i < 2 ^ 31 by omega), upd_s, a3, c3, if_true, nI_1, x7_forget hP hlv hi, e4]
  · rintro ⟨x, kn, lf⟩ ⟨x', now1⟩ ⟨e1, e2, hM, hF⟩ k1 k2
    dsimp only at e1 e2 hM hF
    subst e1; subst e2
    refine ⟨kn, lf, now1, ?_, ?_, hM, hF⟩
    · simp only [g_X1_fade_2, f_X1_fade_2, if_pos (nI_le (Nat.le_refl F) (by omega))]
    · simp only [g_X7_passOn_7, f_X7_passOn_7, if_pos (nI_le (Nat.le_refl F) (by omega))]
end Ops
