theorem pickV {n : Nat} {P : Nat → Nat → Prop} (h : ∀ b, b < n → ∃ v, P b v) : ∃ V : Nat → Nat, ∀ b, b < n → P b (V b) := by
  refine ⟨fun b => if hb : b < n then Classical.choose (h b hb) else 0, fun b hb => ?_⟩
  dsimp only
  rw [dif_pos hb]
  exact Classical.choose_spec (h b hb)
theorem shl_fin : ∀ n, n ≤ 4 → jshl 1 (nI n) = nI (2 ^ n) := by decide +kernel
section Crew
variable {B F Lp C i l n : Nat} {hours first kind post error round first2 kind2 begins error2 : Nat → Int32} {pl kn lf now : Nat → Int32} {du ck : Int32}
theorem x_crew (hP : PR B F Lp hours first kind post error round first2 kind2 begins error2) (hM : MR B F Lp C 0 hours kind pl kn lf du ck now) (hC : C + 12 ≤ 1000) (kept g1 g2 g3 : Nat → Int32) (z1 z2 : Int32) :
    ∃ v r now1, f_X2_fewestLips kept (nI B) (nI F) (nI Lp) hours first kind post error pl kn lf du ck g1 g2 g3 z1 z2 = some (v, r) ∧ f_X7_crew (nI B) (nI F) (nI Lp) round first2 kind2 begins error2 now = some (v, now1) ∧ FrN (17 * 1) now now1 := by
  have h4 := hP.L4
  have hpw : 2 ^ Lp ≤ 2 ^ 4 := Nat.pow_le_pow_right (by decide) h4
  unfold f_X2_fewestLips f_X7_crew
  refine loop2 (st1 := g_X2_fewestLips_5 (nI B) (nI F) (nI Lp) hours first kind post error pl kn lf du ck) (st2 := g_X7_crew_5 (nI B) (nI F) (nI Lp) round first2 kind2 begins error2) (2 ^ Lp) (fun h s1 s2 => s1.1 = s2.1 ∧ s1.2.1 = nI h ∧ s2.2.1 = nI h ∧ FrN (17 * 1) now s2.2.2 ∧ (s1.1 = -9 ∨ ∃ q, q < 16 ∧ s1.1 = nI q)) (fun o1 o2 => ∃ v r now1, o1 = some (v, r) ∧ o2 = some (v, now1) ∧ FrN (17 * 1) now now1) ?_ ?_ 100 100 0 _ _ (Nat.zero_le _) (by omega) (by omega) ⟨rfl, rfl, rfl, FrN.rf, Or.inl rfl⟩
  · rintro h ⟨x, y, kept, g1, g2, g3, z1, z2⟩ ⟨x', y', now1⟩ hh ⟨e0, e1, e2, hF, hb⟩
    dsimp only at e0 e1 e2 hF hb
    subst e0; subst e1; subst e2
    left
    have hlt : ¬ jshl 1 (nI Lp) ≤ nI h := by rw [shl_fin Lp h4]; exact lt_le hh (by omega)
    obtain ⟨v, now2, q1, hv, q3, q4⟩ := x_keptBy hP hM hC (d := h) hh
    obtain ⟨r, q5⟩ := q4 kept g1 g2 g3
    obtain ⟨k', p', a', b', c', d'⟩ := r
    have q1' := (isKeptBy_eq hF).trans q1
    have ask : ∃ s1' s2', (s1'.1 = s2'.1 ∧ s1'.2.1 = nI (h + 1) ∧ s2'.2.1 = nI (h + 1) ∧ FrN (17 * 1) now s2'.2.2 ∧ (s1'.1 = -9 ∨ ∃ q, q < 16 ∧ s1'.1 = nI q)) ∧ (∀ k, f_X2_fewestLips_35 k kept (nI B) (nI F) (nI Lp) hours first kind post error pl kn lf du ck g1 g2 g3 z1 z2 x (nI h) = k s1') ∧ (∀ k, f_X7_crew_32 k (nI B) (nI F) (nI Lp) round first2 kind2 begins error2 now1 x (nI h) = k s2') := by
      rcases hv with rfl | rfl
      · refine ⟨(x, nI (h + 1), k', p', a', b', c', d'), (x, nI (h + 1), now2), ⟨rfl, rfl, rfl, q3, hb⟩, fun k => ?_, fun k => ?_⟩
        · simp only [f_X2_fewestLips_35, f_X2_fewestLips_40, f_X2_fewestLips_55, if_neg (show ¬ (1 : Int32) = 0 by decide), q5, Option.bind_some, if_true, nI_1]
        · simp only [f_X7_crew_32, f_X7_crew_37, f_X7_crew_54, f_X7_crew_55, if_neg (show ¬ (1 : Int32) = 0 by decide), q1', Option.bind_some, if_true, nI_1]
      · refine ⟨(nI h, nI (h + 1), k', p', a', b', c', d'), (nI h, nI (h + 1), now2), ⟨rfl, rfl, rfl, q3, Or.inr ⟨h, by omega, rfl⟩⟩, fun k => ?_, fun k => ?_⟩
        · simp only [f_X2_fewestLips_35, f_X2_fewestLips_40, f_X2_fewestLips_55, if_neg (show ¬ (1 : Int32) = 0 by decide), q5, Option.bind_some, nI_1]
        · simp only [f_X7_crew_32, f_X7_crew_37, f_X7_crew_54, f_X7_crew_55, if_neg (show ¬ (1 : Int32) = 0 by decide), q1', Option.bind_some, nI_1]
    rcases hb with rfl | ⟨q, hq, rfl⟩
    · obtain ⟨s1', s2', hI, a1, a2⟩ := ask
      refine ⟨s1', s2', hI, fun k => ?_, fun k => ?_⟩
      · simp only [g_X2_fewestLips_5, f_X2_fewestLips_5, if_neg hlt, if_true]; exact a1 k
      · simp only [g_X7_crew_5, f_X7_crew_5, if_neg hlt, if_true]; exact a2 k
    · have hne : ¬ nI q = -9 := by
        have : ∀ q, q < 16 → ¬ nI q = -9 := by decide
        exact this q hq
      obtain ⟨p1, p2, p3⟩ := pop_fin h (by omega)
      obtain ⟨p4, p5, p6⟩ := pop_fin q (by omega)
      by_cases hc : nI (popN q) ≤ nI (popN h)
      · refine ⟨(nI q, nI (h + 1), kept, g1, g2, g3, z1, z2), (nI q, nI (h + 1), now1), ⟨rfl, rfl, rfl, hF, Or.inr ⟨q, hq, rfl⟩⟩, fun k => ?_, fun k => ?_⟩
        · simp only [g_X2_fewestLips_5, f_X2_fewestLips_5, f_X2_fewestLips_40, f_X2_fewestLips_55, if_neg hlt, if_neg hne, p1, p4, Option.bind_some, if_pos hc, if_true, nI_1]
        · simp only [g_X7_crew_5, f_X7_crew_5, f_X7_crew_37, f_X7_crew_54, f_X7_crew_55, if_neg hlt, if_neg hne, p2, p5, Option.bind_some, if_pos hc, if_true, nI_1]
      · obtain ⟨s1', s2', hI, a1, a2⟩ := ask
        refine ⟨s1', s2', hI, fun k => ?_, fun k => ?_⟩
        · simp only [g_X2_fewestLips_5, f_X2_fewestLips_5, if_neg hlt, if_neg hne, p1, p4, Option.bind_some, if_neg hc]; exact a1 k
        · simp only [g_X7_crew_5, f_X7_crew_5, if_neg hlt, if_neg hne, p2, p5, Option.bind_some, if_neg hc]; exact a2 k
  · rintro ⟨x, y, kept, g1, g2, g3, z1, z2⟩ ⟨x', y', now1⟩ ⟨e0, e1, e2, hF, hb⟩ k1 k2
    dsimp only at e0 e1 e2 hF hb
    subst e0; subst e1; subst e2
    have hle : jshl 1 (nI Lp) ≤ nI (2 ^ Lp) := by rw [shl_fin Lp h4]; exact Int32.le_refl _
    refine ⟨x, (kept, g1, g2, g3, z1, z2), now1, ?_, ?_, hF⟩
    · simp only [g_X2_fewestLips_5, f_X2_fewestLips_5, if_pos hle]
    · simp only [g_X7_crew_5, f_X7_crew_5, if_pos hle]
theorem x_best (hP : PR B F Lp hours first kind post error round first2 kind2 begins error2) (hM : MR B F Lp C 0 hours kind pl kn lf du ck now) (hC : C + 12 ≤ 1000) (hi : i < F) (kept g1 g2 g3 oft : Nat → Int32) (z1 z2 : Int32) :
    ∃ v r now1 oft1, f_X2_bestBowl kept (nI B) (nI F) (nI Lp) hours first kind post error pl kn lf du ck g1 g2 g3 z1 z2 (nI i) = some (v, r) ∧ loopN (g_X7_best_14 (nI B) (nI F) (nI Lp) round first2 kind2 begins error2 (nI i)) 100 (0, 1, now, oft) = some (v, now1, oft1) ∧ FrN (17 * 1) now now1 := by
  have h6 := hP.B5
  obtain ⟨b0, hb0, -⟩ := (hM.1 i hi).2.2.2.1
  obtain ⟨V, hV⟩ := pickV (fun b (hb : b < B) => x_keptIn hP hM hC hi hb)
  unfold f_X2_bestBowl
  obtain ⟨hv0, -, hk0⟩ := hV 0 (by omega)
  obtain ⟨⟨k', p', a', b', c', d'⟩, q5⟩ := hk0 kept g1 g2 g3
  have q5' : f_X2_keptIn kept (nI B) (nI F) (nI Lp) hours first kind post error pl kn lf du ck g1 g2 g3 (nI i) 0 = some (nI (V 0), k', p', a', b', c', d') := q5
  have first1 : loopN (g_X2_bestBowl_7 (nI B) (nI F) (nI Lp) hours first kind post error pl kn lf du ck (nI i)) 100 (0, -1, 0, kept, g1, g2, g3, z1, z2) = loopN (g_X2_bestBowl_7 (nI B) (nI F) (nI Lp) hours first kind post error pl kn lf du ck (nI i)) 99 (0, nI (V 0), nI 1, k', p', a', b', c', d') := by
    show g_X2_bestBowl_7 (nI B) (nI F) (nI Lp) hours first kind post error pl kn lf du ck (nI i) (loopN (g_X2_bestBowl_7 (nI B) (nI F) (nI Lp) hours first kind post error pl kn lf du ck (nI i)) 99) (0, -1, 0, kept, g1, g2, g3, z1, z2) = _
    have hB : ¬ nI B ≤ 0 := nI_nle (by omega) (by omega)
    have hn : ¬ nI (V 0) ≤ -1 := by
      have : ∀ v, v ≤ 12 → ¬ nI v ≤ -1 := by decide
      exact this _ hv0
    simp only [g_X2_bestBowl_7, f_X2_bestBowl_7, f_X2_bestBowl_40, if_neg hB, q5', Option.bind_some, if_neg hn]
    rfl
  rw [first1]
  refine loop2 (st1 := g_X2_bestBowl_7 (nI B) (nI F) (nI Lp) hours first kind post error pl kn lf du ck (nI i)) (st2 := g_X7_best_14 (nI B) (nI F) (nI Lp) round first2 kind2 begins error2 (nI i)) B (fun b s1 s2 => (∃ q, q < B ∧ s1.1 = nI q ∧ s1.2.1 = nI (V q)) ∧ s1.1 = s2.1 ∧ s1.2.2.1 = nI b ∧ s2.2.1 = nI b ∧ FrN (17 * 1) now s2.2.2.1) (fun o1 o2 => ∃ v r now1 oft1, o1 = some (v, r) ∧ o2 = some (v, now1, oft1) ∧ FrN (17 * 1) now now1) ?_ ?_ 99 100 1 _ _ (by omega) (by omega) (by omega) ⟨⟨0, by omega, rfl, rfl⟩, rfl, rfl, rfl, FrN.rf⟩
  · rintro b ⟨x, m, y, kept, g1, g2, g3, z1, z2⟩ ⟨x', y', now1, oft⟩ hb ⟨⟨q, hq, f1, f2⟩, e0, e1, e2, hF⟩
    dsimp only at f1 f2 e0 e1 e2 hF
    subst f1; subst f2; subst e0; subst e1; subst e2
    left
    have hlt := lt_le hb (show B < 2 ^ 31 by omega)
    obtain ⟨hvb, hm, hk⟩ := hV b hb
    obtain ⟨hvq, hmq, hkq⟩ := hV q hq
    obtain ⟨⟨k', p', a', b', c', d'⟩, q5⟩ := hk kept g1 g2 g3
    obtain ⟨now2, oft2, m1, m2⟩ := hm oft
    obtain ⟨now3, oft3, m3, m4⟩ := hmq oft2
    have m1' := (keptIn_eq hF).trans m1
    have m3' := (keptIn_eq m2).trans m3
    by_cases hc : nI (V b) ≤ nI (V q)
    · refine ⟨(nI q, nI (V q), nI (b + 1), k', p', a', b', c', d'), (nI q, nI (b + 1), now3, oft3), ⟨⟨q, hq, rfl, rfl⟩, rfl, rfl, rfl, m4⟩, fun k => ?_, fun k => ?_⟩
      · simp only [g_X2_bestBowl_7, f_X2_bestBowl_7, f_X2_bestBowl_40, if_neg hlt, q5, Option.bind_some, if_pos hc, nI_1]
      · simp only [g_X7_best_14, f_X7_best_14, f_X7_best_42, if_neg hlt, m1', m3', Option.bind_some, if_pos hc, nI_1]
    · refine ⟨(nI b, nI (V b), nI (b + 1), k', p', a', b', c', d'), (nI b, nI (b + 1), now3, oft3), ⟨⟨b, hb, rfl, rfl⟩, rfl, rfl, rfl, m4⟩, fun k => ?_, fun k => ?_⟩
      · simp only [g_X2_bestBowl_7, f_X2_bestBowl_7, f_X2_bestBowl_40, if_neg hlt, q5, Option.bind_some, if_neg hc, nI_1]
      · simp only [g_X7_best_14, f_X7_best_14, f_X7_best_42, if_neg hlt, m1', m3', Option.bind_some, if_neg hc, nI_1]
  · rintro ⟨x, m, y, kept, g1, g2, g3, z1, z2⟩ ⟨x', y', now1, oft⟩ ⟨-, e0, e1, e2, hF⟩ k1 k2
    dsimp only at e0 e1 e2 hF
    subst e0; subst e1; subst e2
    have hle := nI_le (Nat.le_refl B) (show B < 2 ^ 31 by omega)
    refine ⟨x, (kept, g1, g2, g3, z1, z2), now1, oft, ?_, ?_, hF⟩
    · simp only [g_X2_bestBowl_7, f_X2_bestBowl_7, if_pos hle]
    · simp only [g_X7_best_14, f_X7_best_14, if_pos hle]
end Crew
