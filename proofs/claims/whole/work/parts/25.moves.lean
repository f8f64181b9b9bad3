section Moves
variable {B F Lp C C2 lv i l base base2 : Nat} {hours first kind post error round first2 kind2 begins error2 : Nat → Int32} {pl kn lf now pl2 kn2 lf2 now2 : Nat → Int32} {du ck : Int32}
theorem bowl_cases {n : Nat} (hn : n ≤ 5) (x : Int32) : (∃ j, j < n ∧ x = nI j ∧ f_X3_hasBowl (nI n) x = some 1 ∧ f_X7_isBowl (nI n) x = some 1) ∨ ((∀ j, j < n → x ≠ nI j) ∧ f_X3_hasBowl (nI n) x = some 0 ∧ f_X7_isBowl (nI n) x = some 0) := is_cases hn x
theorem lip_cases {n : Nat} (hn : n ≤ 5) (x : Int32) : (∃ j, j < n ∧ x = nI j ∧ f_X3_hasLip (nI n) x = some 1 ∧ f_X7_isLip (nI n) x = some 1) ∨ ((∀ j, j < n → x ≠ nI j) ∧ f_X3_hasLip (nI n) x = some 0 ∧ f_X7_isLip (nI n) x = some 0) := is_cases hn x
theorem MR.cong (h : MR B F Lp C base hours kind pl kn lf du ck now) (h1 : ∀ i, i < F → pl2 i = pl i ∧ kn2 i = kn i ∧ lf2 i = lf i) (h2 : ∀ j, j < 17 → now2 (base2 + j) = now (base + j)) (hF : F ≤ 5) (hC : C ≤ C2) : MR B F Lp C2 base2 hours kind pl2 kn2 lf2 du ck now2 := by
  obtain ⟨a, b, c, d, c0, hc0, hck⟩ := h
  refine ⟨fun i hi => ?_, ?_, ?_, d, c0, by omega, hck⟩
  · obtain ⟨a1, a2, a3, a4, a5, a6⟩ := a i hi
    obtain ⟨e1, e2, e3⟩ := h1 i hi
    have s5 := h2 (5 + i) (by omega)
    have s10 := h2 (10 + i) (by omega)
    rw [← Nat.add_assoc, ← Nat.add_assoc] at s5 s10
    refine ⟨by rw [h2 i (by omega), a1, e1], by rw [s5, a2, e2], by rw [s10, a3, e3], by rw [e1]; exact a4, ?_, by rw [e2, e3]; exact a6⟩
    rw [e3]
    unfold lasS at a5 ⊢
    rw [e1]; exact a5
  · rw [h2 15 (by omega), b]
  · rw [h2 16 (by omega), c]
theorem MR.mono (h : MR B F Lp C base hours kind pl kn lf du ck now) (hF : F ≤ 5) (hC : C ≤ C2) : MR B F Lp C2 base hours kind pl kn lf du ck now := h.cong (fun _ _ => ⟨rfl, rfl, rfl⟩) (fun _ _ => rfl) hF hC
/-! the copies of seventeen -/
theorem cpy0 (f g : Nat → Int32) (sp dp : Nat) : va_cpy f g sp dp 0 = g := by
  funext k
  unfold va_cpy
  rw [if_neg (by omega)]
theorem cpyS (f g : Nat → Int32) (sp dp i : Nat) : upd (va_cpy f g sp dp i) (dp + i) (f (sp + i)) = va_cpy f g sp dp (i + 1) := by
  funext k
  by_cases h : k = dp + i
  · subst h
    rw [upd_s]
    unfold va_cpy
    rw [if_pos (by omega)]
    congr 1; omega
  · rw [upd_n _ _ h]
    unfold va_cpy
    by_cases h2 : dp ≤ k ∧ k < dp + i
    · rw [if_pos h2, if_pos (by omega)]
    · rw [if_neg h2, if_neg (by omega)]
theorem cpy_in {f g : Nat → Int32} {sp dp n j : Nat} (h : j < n) : va_cpy f g sp dp n (dp + j) = f (sp + j) := by
  unfold va_cpy
  rw [if_pos (by omega)]
  congr 1; omega
theorem cpy_out {f g : Nat → Int32} {sp dp n j : Nat} (h : j < dp ∨ dp + n ≤ j) : va_cpy f g sp dp n j = g j := by
  unfold va_cpy
  rw [if_neg (by omega)]
theorem cpy5 {f g : Nat → Int32} {j : Nat} (h : j < 5) : va_cpy f g 0 0 5 j = f j := by
  have := cpy_in (f := f) (g := g) (sp := 0) (dp := 0) h
  rwa [Nat.zero_add] at this
theorem n17a (n : Nat) : (17 : Int32) + nI n = nI (17 + n) := nI_add 17 n
theorem x7_layTrial : f_X7_layTrial now = some (va_cpy now now 0 17 17) := by
  unfold f_X7_layTrial
  refine loop1 17 (fun i s => s = (nI i, va_cpy now now 0 17 i)) (fun o => o = some (va_cpy now now 0 17 17)) ?_ ?_ 100 0 _ (Nat.zero_le _) (by omega) ?_
  · rintro i s hi rfl
    left
    have hlt : ¬ (17 : Int32) ≤ nI i := lt_le (b := 17) hi (by decide)
    refine ⟨_, rfl, fun k => ?_⟩
    simp only [g_X7_layTrial_2, f_X7_layTrial_2, if_neg hlt, rd34 (show i < 34 by omega), n17a, ix34 (show 17 + i < 34 by omega), cl_n (show 17 + i < 2 ^ 31 by omega), nI_1]
    have e : va_cpy now now 0 17 i i = now (0 + i) := by rw [cpy_out (by omega), Nat.zero_add]
    rw [e, cpyS]
  · rintro s rfl k
    simp only [g_X7_layTrial_2, f_X7_layTrial_2, if_pos (show (17 : Int32) ≤ nI 17 from Int32.le_refl _)]
  · rw [cpy0]; rfl
/-- the trial is as now is -/
theorem trial_MR (hM : MR B F Lp C 0 hours kind pl kn lf du ck now) (hF : F ≤ 5) (g1 g2 g3 : Nat → Int32) : MR B F Lp C (17 * 1) hours kind (va_cpy pl g1 0 0 5) (va_cpy kn g2 0 0 5) (va_cpy lf g3 0 0 5) du ck (va_cpy now now 0 17 17) :=
  hM.cong (fun i hi => ⟨cpy5 (by omega), cpy5 (by omega), cpy5 (by omega)⟩) (fun j hj => by
    have := cpy_in (f := now) (g := now) (sp := 0) (dp := 17) hj
    exact this) hF (Nat.le_refl _)
theorem FrN.low {now now' : Nat → Int32} (h : FrN (17 * 1) now now') {j : Nat} (hj : j < 17) : now' j = now j := h j (Or.inl (by omega))
theorem cpy_low {now : Nat → Int32} {j : Nat} (hj : j < 17) : va_cpy now now 0 17 17 j = now j := cpy_out (Or.inl hj)
/-! MOVED -/
theorem x_put (hP : PR B F Lp hours first kind post error round first2 kind2 begins error2) (hM : MR B F Lp C (17 * lv) hours kind pl kn lf du ck now) (hlv : lv ≤ 1) (hi : i < F) {b : Nat} (hb : b < B) :
    ∃ w now1, f_X1_put pl lf hours kind (nI i) (nI b) = some (upd pl i (nI b), upd lf i w) ∧ f_X7_moveOn round kind2 now (nI lv) (nI i) (nI b) = some now1 ∧ MR B F Lp C (17 * lv) hours kind (upd pl i (nI b)) kn (upd lf i w) du ck now1 ∧ FrN (17 * lv) now now1 := by
  have h5 := hP.F5
  have h6 := hP.B5
  obtain ⟨a1, a2, a3, ab, a5, a6⟩ := hM.at hi
  have hex : ∃ b', b' < B ∧ upd pl i (nI b) i = nI b' := ⟨b, hb, upd_s _ _ _⟩
  have hla : lasS hours kind (upd pl i (nI b)) i = lasF (hours b) (kind i) := lasS_b (by omega) (upd_s _ _ _)
  have hpos := las_pos hP (i := i) (pl := upd pl i (nI b)) hex
  rw [hla] at hpos
  refine ⟨if lasF (hours b) (kind i) < lf i then lasF (hours b) (kind i) else lf i, ?_⟩
  have c1 : f_X1_put pl lf hours kind (nI i) (nI b) = some (upd pl i (nI b), upd lf i (if lasF (hours b) (kind i) < lf i then lasF (hours b) (kind i) else lf i)) := by
    unfold f_X1_put f_J9_min_7cf53
    rw [ix5 (by omega), rd5 (by omega), cl_n (by omega), x1_lasts hP hi hex, Option.bind_some, hla]
    split <;> rw [Option.bind_some, ix5 (by omega)]
  by_cases c : pl i = nI b
  · refine ⟨now, c1, ?_, ?_, FrN.rf⟩
    · unfold f_X7_moveOn
      simp only [n17, nI_add]
      rw [rd34 (by omega), a1, if_pos c]
    · have e1 : upd pl i (nI b) = pl := by rw [← c]; exact upd_same pl i
      have e2 : lasS hours kind pl i = lasF (hours b) (kind i) := lasS_b (by omega) c
      have e3 : ¬ lasF (hours b) (kind i) < lf i := by rw [← e2]; exact k2_nlt a5.2
      rw [if_neg e3, upd_same, e1]; exact hM
  · refine ⟨upd (upd now (17 * lv + i) (nI b)) (17 * lv + 10 + i) (if lasF (hours b) (kind i) < lf i then lasF (hours b) (kind i) else lf i), c1, ?_, ?_, (FrN.up (by omega) (by omega)).tr (FrN.up (by omega) (by omega))⟩
    · unfold f_X7_moveOn
      simp only [n17, n10, nI_add]
      rw [rd34 (by omega), a1, if_neg c, ix34 (by omega), rd34 (by omega), cl_n (by omega), upd_n _ _ (by omega), a3, x7_lasts hP hi hb, Option.bind_some]
      rw [rd34 (show 17 * lv + 10 + i < 34 by omega), upd_n _ _ (by omega), a3, Option.bind_some, ix34 (by omega), ix34 (by omega), cl_n (by omega)]
      by_cases c2 : lasF (hours b) (kind i) ≤ lf i
      · rw [if_pos c2]
        by_cases c3 : lasF (hours b) (kind i) < lf i
        · rw [if_pos c3]
        · rw [if_neg c3, Int32.le_antisymm c2 (k2_le c3)]
      · rw [if_neg c2, if_neg (fun h => c2 (Int32.le_of_lt h))]
    · obtain ⟨m1, m2, m3, m4⟩ := hM
      refine ⟨fun j hj => ?_, ?_, ?_, m4⟩
      · obtain ⟨b1, b2, b3, bb, b5, b6⟩ := m1 j hj
        by_cases e : j = i
        · subst e
          refine ⟨by rw [upd_n _ _ (by omega), upd_s, upd_s], by rw [upd_n _ _ (by omega), upd_n _ _ (by omega), b2], by rw [upd_s, upd_s], hex, ?_, ?_⟩
          · rw [upd_s, hla]
            split
            · exact ⟨hpos.1, Int32.le_refl _⟩
            · rename_i h; exact ⟨b5.1, k2_le h⟩
          · rw [upd_s]
            rcases b6 with ⟨k1, k2⟩ | h
            · left
              refine ⟨k1, ?_⟩
              rw [k2, if_neg (k2_nlt hpos.1)]
            · exact Or.inr h
        · refine ⟨by rw [upd_n _ _ (by omega), upd_n _ _ (by omega), upd_n _ _ e, b1], by rw [upd_n _ _ (by omega), upd_n _ _ (by omega), b2], by rw [upd_n _ _ (by omega), upd_n _ _ (by omega), upd_n _ _ e, b3], by rw [upd_n _ _ e]; exact bb, ?_, by rw [upd_n _ _ e]; exact b6⟩
          rw [upd_n _ _ e]
          unfold lasS at b5 ⊢
          rw [upd_n _ _ e]; exact b5
      · rw [upd_n _ _ (by omega), upd_n _ _ (by omega), m2]
      · rw [upd_n _ _ (by omega), upd_n _ _ (by omega), m3]
/-! WATER -/
theorem x_water (hP : PR B F Lp hours first kind post error round first2 kind2 begins error2) (hM : MR B F Lp C (17 * lv) hours kind pl kn lf du ck now) (hlv : lv ≤ 1) (x : Int32) :
    ∃ n kn1 lf1 now1, f_X1_changeWater pl kn lf (nI F) kind x = some (n, kn1, lf1) ∧ f_X7_waterOn (nI F) kind2 now (nI lv) x = some (n, now1) ∧ MR B F Lp C (17 * lv) hours kind pl kn1 lf1 du ck now1 ∧ FrN (17 * lv) now now1 := by
  have h5 := hP.F5
  unfold f_X1_changeWater f_X7_waterOn
  refine loop2 F (fun i s1 s2 => s1.1 = s2.1 ∧ s1.2.1 = nI i ∧ s2.2.1 = nI i ∧ MR B F Lp C (17 * lv) hours kind pl s1.2.2.1 s1.2.2.2 du ck s2.2.2 ∧ FrN (17 * lv) now s2.2.2) (fun o1 o2 => ∃ n kn1 lf1 now1, o1 = some (n, kn1, lf1) ∧ o2 = some (n, now1) ∧ MR B F Lp C (17 * lv) hours kind pl kn1 lf1 du ck now1 ∧ FrN (17 * lv) now now1) ?_ ?_ 100 100 0 _ _ (Nat.zero_le _) (by omega) (by omega) ⟨rfl, rfl, rfl, hM, FrN.rf⟩
  · rintro i ⟨n, x1, kn, lf⟩ ⟨n', x1', now1⟩ hi ⟨e0, e1, e2, hM, hF⟩
    dsimp only at e0 e1 e2 hM hF
    subst e0; subst e1; subst e2
    left
    obtain ⟨a1, a2, a3, ab, a5, a6⟩ := hM.at hi
    have hk := (hP.2.2.1 i hi).1.2
    have hlt := lt_le hi (by omega)
    by_cases c1 : pl i = x
    · by_cases c2 : kind i = 1
      · refine ⟨(n, nI (i + 1), kn, lf), (n, nI (i + 1), now1), ⟨rfl, rfl, rfl, hM, hF⟩, fun k => ?_, fun k => ?_⟩
        · simp only [g_X1_changeWater_4, f_X1_changeWater_4, f_X1_changeWater_57, if_neg hlt, rd5 (show i < 5 by omega), c1, c2, if_true, nI_1]
        · simp only [g_X7_waterOn_5, f_X7_waterOn_5, f_X7_waterOn_66, if_neg hlt, n17, nI_add, rd34 (show 17 * lv + i < 34 by omega), a1, c1, rd5 (show i < 5 by omega), hk, c2, if_true, nI_1]
      · have hM2 := MR_set (v := -9) (w := 0) h5 hM hi ⟨Int32.le_refl 0, (las_pos hP ab).1⟩ (Or.inl ⟨rfl, rfl⟩)
        have hF2 := hF.tr ((FrN.up (x := -9) (show 17 * lv ≤ 17 * lv + 5 + i by omega) (by omega)).tr (FrN.up (x := 0) (show 17 * lv ≤ 17 * lv + 10 + i by omega) (by omega)))
        by_cases c3 : kn i = -9
        · have hl0 : lf i = 0 := by
            rcases a6 with ⟨_, h⟩ | ⟨s, hs, h⟩
            · exact h
            · rw [c3] at h
              have : ∀ s, s < 10 → (-9 : Int32) ≠ nI s := by decide
              exact absurd h (this s hs)
          have u1 : upd kn i (-9) = kn := by rw [← c3]; exact upd_same kn i
          have u2 : upd lf i 0 = lf := by rw [← hl0]; exact upd_same lf i
          rw [u1, u2] at hM2
          refine ⟨(n, nI (i + 1), kn, lf), (n, nI (i + 1), upd (upd now1 (17 * lv + 5 + i) (-9)) (17 * lv + 10 + i) 0), ⟨rfl, rfl, rfl, hM2, hF2⟩, fun k => ?_, fun k => ?_⟩
          · simp only [g_X1_changeWater_4, f_X1_changeWater_4, f_X1_changeWater_57, if_neg hlt, rd5 (show i < 5 by omega), c1, c2, c3, if_true, if_false, nI_1]
          · simp only [g_X7_waterOn_5, f_X7_waterOn_5, f_X7_waterOn_66, f_X7_waterOn_57, if_neg hlt, n17, nI_add, rd34 (show 17 * lv + i < 34 by omega), a1, c1, rd5 (show i < 5 by omega), hk, c2, if_true, if_false, x7_knows hP hM hlv hi, c3, Option.bind_some, x7_forget hP hlv hi, nI_1, Int32.add_zero]
        · refine ⟨(n + 1, nI (i + 1), upd kn i (-9), upd lf i 0), (n + 1, nI (i + 1), upd (upd now1 (17 * lv + 5 + i) (-9)) (17 * lv + 10 + i) 0), ⟨rfl, rfl, rfl, hM2, hF2⟩, fun k => ?_, fun k => ?_⟩
          · simp only [g_X1_changeWater_4, f_X1_changeWater_4, f_X1_changeWater_57, if_neg hlt, rd5 (show i < 5 by omega), c1, c2, c3, if_true, if_false, x1_forget hP hi, Option.bind_some, nI_1]
          · simp only [g_X7_waterOn_5, f_X7_waterOn_5, f_X7_waterOn_66, f_X7_waterOn_57, if_neg hlt, n17, nI_add, rd34 (show 17 * lv + i < 34 by omega), a1, c1, rd5 (show i < 5 by omega), hk, c2, if_true, if_false, x7_knows hP hM hlv hi, c3, if_neg (show ¬ (1 : Int32) = 0 by decide), Option.bind_some, x7_forget hP hlv hi, nI_1]
    · refine ⟨(n, nI (i + 1), kn, lf), (n, nI (i + 1), now1), ⟨rfl, rfl, rfl, hM, hF⟩, fun k => ?_, fun k => ?_⟩
      · simp only [g_X1_changeWater_4, f_X1_changeWater_4, f_X1_changeWater_57, if_neg hlt, rd5 (show i < 5 by omega), c1, if_false, nI_1]
      · simp only [g_X7_waterOn_5, f_X7_waterOn_5, f_X7_waterOn_66, if_neg hlt, n17, nI_add, rd34 (show 17 * lv + i < 34 by omega), a1, c1, if_false, nI_1]
  · rintro ⟨n, x1, kn, lf⟩ ⟨n', x1', now1⟩ ⟨e0, e1, e2, hM, hF⟩ k1 k2
    dsimp only at e0 e1 e2 hM hF
    subst e0; subst e1; subst e2
    refine ⟨n, kn, lf, now1, ?_, ?_, hM, hF⟩
    · simp only [g_X1_changeWater_4, f_X1_changeWater_4, if_pos (nI_le (Nat.le_refl F) (show F < 2 ^ 31 by omega))]
    · simp only [g_X7_waterOn_5, f_X7_waterOn_5, if_pos (nI_le (Nat.le_refl F) (show F < 2 ^ 31 by omega))]
end Moves
