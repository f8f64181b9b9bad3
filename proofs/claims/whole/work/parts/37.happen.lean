section Happen
variable {B F Lp C i j l n lv base : Nat} {hours first kind post error round first2 kind2 begins error2 : Nat → Int32} {pl kn lf now : Nat → Int32} {du ck : Int32}
theorem x_can (hP : PR B F Lp hours first kind post error round first2 kind2 begins error2) (hM : MR B F Lp C (17 * lv) hours kind pl kn lf du ck now) (hlv : lv ≤ 1) (hi : i < F) {b : Nat} (hb : b < B) :
    ∃ w : Int32, (w = 0 ∨ w = 1) ∧ f_X1_canMove pl (nI F) (nI i) (nI b) = some w ∧ f_X7_canMove (nI B) (nI F) now (nI lv) (nI i) (nI b) = some w := by
  have h5 := hP.F5
  have hB := hP.B5
  have n10 : ¬ (1 : Int32) = 0 := by decide
  have c2 : f_X7_isFish (nI F) (nI i) = some 1 := by
    rcases is_cases h5 (nI i) with ⟨j, -, -, -, c⟩ | ⟨h, -, -⟩
    · exact c
    · exact absurd rfl (h i hi)
  have d2 : f_X7_isBowl (nI B) (nI b) = some 1 := by
    rcases bowl_cases hB (nI b) with ⟨j, -, -, -, c⟩ | ⟨h, -, -⟩
    · exact c
    · exact absurd rfl (h b hb)
  obtain ⟨a1, -⟩ := hM.at hi
  have hX := bitsN_32 (fun i => decide (pl i = nI b)) h5
  have hpop := pop_fin _ hX
  unfold f_X1_canMove f_X7_canMove
  rw [c2, d2, Option.bind_some, Option.bind_some, if_neg n10, if_neg n10, n17, nI_add, rd34 (by omega), rd5 (by omega), a1]
  by_cases q : pl i = nI b
  · rw [if_pos q, if_pos q]; exact ⟨0, Or.inl rfl, rfl, rfl⟩
  · rw [if_neg q, if_neg q, x1_fishIn h5, x7_inBowl hP hM hlv, Option.bind_some, Option.bind_some, hpop.1, hpop.2.1, Option.bind_some]
    by_cases q3 : (3 : Int32) ≤ nI (popN (bitsN (fun i => decide (pl i = nI b)) F))
    · rw [if_pos q3]; exact ⟨0, Or.inl rfl, rfl, rfl⟩
    · rw [if_neg q3]; exact ⟨1, Or.inr rfl, rfl, rfl⟩
theorem MR_dutyB (h : MR B F Lp C base hours kind pl kn lf du ck now) (hF : F ≤ 5) {d : Nat} (hd : d < 2 ^ Lp) : MR B F Lp C base hours kind pl kn lf (nI d) ck (upd now (base + 15) (nI d)) := by
  obtain ⟨h1, h2, h3, h4, h5⟩ := h
  refine ⟨fun j hj => ?_, ?_, ?_, ⟨d, hd, rfl⟩, h5⟩
  · obtain ⟨a1, a2, a3, a4, a5⟩ := h1 j hj
    exact ⟨by rw [upd_n _ _ (by omega), a1], by rw [upd_n _ _ (by omega), a2], by rw [upd_n _ _ (by omega), a3], a4, a5⟩
  · rw [upd_s]
  · rw [upd_n _ _ (by omega), h3]
theorem xor_fin : ∀ d, d < 16 → ∀ l, l < 4 → nI d ^^^ jshl 1 (nI l) = nI (d ^^^ 2 ^ l) := by decide +kernel
theorem xor_lt {d l Lp : Nat} (hd : d < 2 ^ Lp) (hl : l < Lp) : d ^^^ 2 ^ l < 2 ^ Lp := Nat.xor_lt_two_pow hd (Nat.pow_lt_pow_right (by decide) hl)
/-- no fish there: the water is nobody's -/
theorem w_none (hP : PR B F Lp hours first kind post error round first2 kind2 begins error2) (hM : MR B F Lp C (17 * lv) hours kind pl kn lf du ck now) (hlv : lv ≤ 1) {x : Int32} (hx : ∀ b, b < B → x ≠ nI b) : f_X7_waterOn (nI F) kind2 now (nI lv) x = some (0, now) := by
  have h5 := hP.F5
  unfold f_X7_waterOn
  refine loop1 (st := g_X7_waterOn_5 (nI F) kind2 (nI lv) x) F (fun i s => s = (0, nI i, now)) (fun o => o = some (0, now)) ?_ ?_ 100 0 _ (Nat.zero_le _) (by omega) rfl
  · rintro i s hi e
    subst e
    left
    refine ⟨(0, nI (i + 1), now), rfl, fun k => ?_⟩
    have hlt := lt_le hi (show F < 2 ^ 31 by omega)
    obtain ⟨a1, -, -, ⟨b, hb, eb⟩, -⟩ := hM.at hi
    have hne : ¬ pl i = x := fun q => hx b hb (q.symm.trans eb)
    simp only [g_X7_waterOn_5, f_X7_waterOn_5, f_X7_waterOn_66, if_neg hlt, n17, nI_add, rd34 (show 17 * lv + i < 34 by omega), a1, if_neg hne, nI_1]
  · rintro s e k
    subst e
    have hle := nI_le (Nat.le_refl F) (show F < 2 ^ 31 by omega)
    simp only [g_X7_waterOn_5, f_X7_waterOn_5, if_pos hle]
end Happen
