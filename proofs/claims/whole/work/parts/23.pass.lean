section Pass
variable {B F Lp C lv i l : Nat} {hours first kind post error round first2 kind2 begins error2 : Nat → Int32} {pl kn lf now : Nat → Int32} {du ck : Int32}
theorem x_echo (hP : PR B F Lp hours first kind post error round first2 kind2 begins error2) (hM : MR B F Lp C (17 * lv) hours kind pl kn lf du ck now) (hlv : lv ≤ 1) {e : Nat} (he : e < F) :
    ∃ kn1 lf1 now1, f_X1_hearOthers pl kn lf (nI F) hours kind (nI e) = some (kn1, lf1) ∧ f_X7_echo (nI F) round kind2 now (nI lv) (nI e) = some now1 ∧ MR B F Lp C (17 * lv) hours kind pl kn1 lf1 du ck now1 ∧ FrN (17 * lv) now now1 := by
  have h5 := hP.F5
  unfold f_X1_hearOthers f_X7_echo
  refine loop2 F (fun i s1 s2 => s1.2.2 = nI i ∧ s2.2.2 = nI i ∧ s1.1 = s2.1 ∧ (∃ q, q ≤ 9 * i ∧ s1.1 = nI q) ∧ ((s1.2.1 = 0 ∧ s2.2.1 = 0) ∨ (s1.2.1 = 1 ∧ ∃ m, 0 < m ∧ m ≤ i ∧ s2.2.1 = nI m))) (fun o1 o2 => ∃ kn1 lf1 now1, o1 = some (kn1, lf1) ∧ o2 = some now1 ∧ MR B F Lp C (17 * lv) hours kind pl kn1 lf1 du ck now1 ∧ FrN (17 * lv) now now1) ?_ ?_ 100 100 0 _ _ (Nat.zero_le _) (by omega) (by omega) ⟨rfl, rfl, rfl, ⟨0, by omega, rfl⟩, Or.inl ⟨rfl, rfl⟩⟩
  · rintro i ⟨su, hd, x⟩ ⟨su', ot, x'⟩ hi ⟨e1, e2, e3, ⟨q, hq, eq⟩, e4⟩
    dsimp only at e1 e2 e3 e4 eq
    subst e1; subst e2; subst e3
    left
    obtain ⟨a1, a2, a3, ab, a5, a6⟩ := hM.at hi
    obtain ⟨b1, b2, b3, bb, b5⟩ := hM.at he
    have hlt := lt_le hi (by omega)
    have keep : ((hd = 0 ∧ ot = 0) ∨ (hd = 1 ∧ ∃ m, 0 < m ∧ m ≤ i + 1 ∧ ot = nI m)) := by
      rcases e4 with h | ⟨h1, m, h2, h3, h4⟩
      · exact Or.inl h
      · exact Or.inr ⟨h1, m, h2, by omega, h4⟩
    by_cases c0 : i = e
    · subst c0
      refine ⟨(su, hd, nI (i + 1)), (su, ot, nI (i + 1)), ⟨rfl, rfl, rfl, ⟨q, by omega, eq⟩, keep⟩, fun k => ?_, fun k => ?_⟩
      · simp only [g_X1_hearOthers_7, f_X1_hearOthers_7, f_X1_hearOthers_65, if_neg hlt, if_true, nI_1]
      · simp only [g_X7_echo_8, f_X7_echo_8, f_X7_echo_79, if_neg hlt, if_true, nI_1]
    · have c0' : ¬ nI i = nI e := fun h => c0 ((nI_eq (by omega) (by omega)).mp h)
      by_cases c1 : pl i = pl e
      · by_cases c2 : kn i = -9
        · refine ⟨(su, hd, nI (i + 1)), (su, ot, nI (i + 1)), ⟨rfl, rfl, rfl, ⟨q, by omega, eq⟩, keep⟩, fun k => ?_, fun k => ?_⟩
          · simp only [g_X1_hearOthers_7, f_X1_hearOthers_7, f_X1_hearOthers_65, if_neg hlt, if_neg c0', rd5 (show i < 5 by omega), rd5 (show e < 5 by omega), c1, c2, if_true, nI_1]
          · simp only [g_X7_echo_8, f_X7_echo_8, f_X7_echo_79, if_neg hlt, if_neg c0', n17, nI_add, rd34 (show 17 * lv + i < 34 by omega), rd34 (show 17 * lv + e < 34 by omega), a1, b1, c1, x7_knows hP hM hlv hi, Option.bind_some, c2, if_true, nI_1]
        · refine ⟨(su + kn i, 1, nI (i + 1)), (su + kn i, ot + 1, nI (i + 1)), ⟨rfl, rfl, rfl, ?_, ?_⟩, fun k => ?_, fun k => ?_⟩
          · obtain ⟨sv, hsv, es⟩ := a6.resolve_left (fun h => c2 h.1)
            exact ⟨q + sv, by omega, by dsimp only; rw [eq, es, nI_add]⟩
          · refine Or.inr ⟨rfl, ?_⟩
            rcases e4 with ⟨_, h⟩ | ⟨h1, m, h2, h3, h4⟩
            · exact ⟨1, by omega, by omega, by dsimp only; rw [h]; rfl⟩
            · exact ⟨m + 1, by omega, by omega, by dsimp only; rw [h4, nI_1]⟩
          · simp only [g_X1_hearOthers_7, f_X1_hearOthers_7, f_X1_hearOthers_65, if_neg hlt, if_neg c0', rd5 (show i < 5 by omega), rd5 (show e < 5 by omega), c1, c2, if_true, if_false, nI_1]
          · simp only [g_X7_echo_8, f_X7_echo_8, f_X7_echo_79, if_neg hlt, if_neg c0', n17, n5, nI_add, rd34 (show 17 * lv + i < 34 by omega), rd34 (show 17 * lv + e < 34 by omega), rd34 (show 17 * lv + 5 + i < 34 by omega), a1, b1, a2, c1, x7_knows hP hM hlv hi, Option.bind_some, c2, if_true, if_false, if_neg (show ¬ (1 : Int32) = 0 by decide), nI_1]
      · refine ⟨(su, hd, nI (i + 1)), (su, ot, nI (i + 1)), ⟨rfl, rfl, rfl, ⟨q, by omega, eq⟩, keep⟩, fun k => ?_, fun k => ?_⟩
        · simp only [g_X1_hearOthers_7, f_X1_hearOthers_7, f_X1_hearOthers_65, if_neg hlt, if_neg c0', rd5 (show i < 5 by omega), rd5 (show e < 5 by omega), c1, if_false, nI_1]
        · simp only [g_X7_echo_8, f_X7_echo_8, f_X7_echo_79, if_neg hlt, if_neg c0', n17, nI_add, rd34 (show 17 * lv + i < 34 by omega), rd34 (show 17 * lv + e < 34 by omega), a1, b1, c1, if_false, nI_1]
  · rintro ⟨su, hd, x⟩ ⟨su', ot, x'⟩ ⟨e1, e2, e3, ⟨q, hq, eq⟩, e4⟩ k1 k2
    dsimp only at e1 e2 e3 e4 eq
    subst e1; subst e2; subst e3
    obtain ⟨b1, b2, b3, bb, b5⟩ := hM.at he
    rcases e4 with ⟨h1, h2⟩ | ⟨h1, m, hm, hmi, h2⟩
    · refine ⟨kn, lf, now, ?_, ?_, hM, FrN.rf⟩
      · simp only [g_X1_hearOthers_7, f_X1_hearOthers_7, f_X1_hearOthers_71, if_pos (nI_le (Nat.le_refl F) (by omega)), h1, if_true]
      · simp only [g_X7_echo_8, f_X7_echo_8, f_X7_echo_85, if_pos (nI_le (Nat.le_refl F) (by omega)), h2, if_pos (Int32.le_refl 0)]
    · have hM2 := MR_set (v := jrem su 10) (w := lasS hours kind pl e) h5 hM he ⟨(las_pos hP bb).1, Int32.le_refl _⟩ (Or.inr ⟨q % 10, Nat.mod_lt _ (by decide), by rw [eq]; exact jrem_n (by omega) (by decide) (by decide)⟩)
      refine ⟨_, _, _, ?_, ?_, hM2, (FrN.up (by omega) (by omega)).tr (FrN.up (by omega) (by omega))⟩
      · simp only [g_X1_hearOthers_7, f_X1_hearOthers_7, f_X1_hearOthers_71, if_pos (nI_le (Nat.le_refl F) (by omega)), h1, if_neg (show ¬ (1 : Int32) = 0 by decide), nz10, x1_learn hP he bb, Option.bind_some]
      · simp only [g_X7_echo_8, f_X7_echo_8, f_X7_echo_85, if_pos (nI_le (Nat.le_refl F) (by omega)), h2, if_neg (nI_nle hm (by omega)), nz10, x7_learn hP hM hlv he, Option.bind_some]
theorem MR_clock (h : MR B F Lp C (17 * lv) hours kind pl kn lf du ck now) (hF : F ≤ 5) : MR B F Lp (C + 1) (17 * lv) hours kind pl kn lf du (ck + 1) (upd now (17 * lv + 16) (ck + 1)) := by
  obtain ⟨h1, h2, h3, h4, c, hc, hck⟩ := h
  refine ⟨fun j hj => ?_, ?_, ?_, h4, c + 1, by omega, by rw [hck, nI_1]⟩
  · obtain ⟨a1, a2, a3, a4, a5⟩ := h1 j hj
    exact ⟨by rw [upd_n _ _ (by omega), a1], by rw [upd_n _ _ (by omega), a2], by rw [upd_n _ _ (by omega), a3], a4, a5⟩
  · rw [upd_n _ _ (by omega), h2]
  · rw [upd_s]
/-- AN HOUR -/
theorem x_pass (hP : PR B F Lp hours first kind post error round first2 kind2 begins error2) (hM : MR B F Lp C (17 * lv) hours kind pl kn lf du ck now) (hlv : lv ≤ 1) (hC : C ≤ 1000) :
    ∃ kn1 lf1 now1, f_X1_passHour pl kn lf du ck (nI B) (nI F) (nI Lp) hours first kind post error = some (kn1, lf1, ck + 1) ∧ f_X7_passOn (nI B) (nI F) (nI Lp) round first2 kind2 begins error2 now (nI lv) = some now1 ∧ MR B F Lp (C + 1) (17 * lv) hours kind pl kn1 lf1 du (ck + 1) now1 ∧ FrN (17 * lv) now now1 := by
  have h5 := hP.F5
  have h4 := hP.L4
  obtain ⟨kn0, lf0, now0, q1, q2, hM0, hF0⟩ := x_fade hP hM hlv
  obtain ⟨d, hd, hdu⟩ := hM.2.2.2.1
  unfold f_X1_passHour
  rw [q1, q2, Option.bind_some]
  unfold f_X7_passOn_75
  refine loop2 Lp (fun i s1 s2 => s1.1 = nI i ∧ s2.1 = nI i ∧ MR B F Lp C (17 * lv) hours kind pl s1.2.1 s1.2.2 du ck s2.2 ∧ FrN (17 * lv) now s2.2) (fun o1 o2 => ∃ kn1 lf1 now1, o1 = some (kn1, lf1, ck + 1) ∧ o2 = some now1 ∧ MR B F Lp (C + 1) (17 * lv) hours kind pl kn1 lf1 du (ck + 1) now1 ∧ FrN (17 * lv) now now1) ?_ ?_ 100 100 0 _ _ (Nat.zero_le _) (by omega) (by omega) ⟨rfl, rfl, hM0, hF0⟩
  · rintro l ⟨x, kn, lf⟩ ⟨x', now1⟩ hl ⟨e1, e2, hM, hF⟩
    dsimp only at e1 e2 hM hF
    subst e1; subst e2
    left
    have hlt := lt_le hl (by omega)
    have hdf := (duty_fin d (pow_le16 h4 hd) l (by omega)).2
    cases ht : d.testBit l with
    | true =>
      obtain ⟨kn1, lf1, now2, r1, r2, r3, r4⟩ := x_round hP hM hlv hl hC hd hdu ht
      refine ⟨(nI (l + 1), kn1, lf1), (nI (l + 1), now2), ⟨rfl, rfl, r3, hF.tr r4⟩, fun k => ?_, fun k => ?_⟩
      · rw [hdu] at *
        simp only [g_X1_passHour_6, f_X1_passHour_6, f_X1_passHour_30, if_neg hlt, hdf, ht, Option.bind_some, if_true, if_neg (show ¬ (1 : Int32) = 0 by decide), r1, nI_1]
      · simp only [g_X7_passOn_77, f_X7_passOn_77, if_neg hlt, r2]
    | false =>
      refine ⟨(nI (l + 1), kn, lf), (nI (l + 1), now1), ⟨rfl, rfl, hM, hF⟩, fun k => ?_, fun k => ?_⟩
      · simp only [g_X1_passHour_6, f_X1_passHour_6, f_X1_passHour_30, if_neg hlt, hdu, hdf, ht, Option.bind_some, if_true, Bool.false_eq_true, if_false, nI_1]
      · simp only [g_X7_passOn_77, f_X7_passOn_77, if_neg hlt, x_noround hP hM hlv hl hd hdu ht k]
  · rintro ⟨x, kn, lf⟩ ⟨x', now1⟩ ⟨e1, e2, hM, hF⟩ k1 k2
    dsimp only at e1 e2 hM hF
    subst e1; subst e2
    have t1 : g_X1_passHour_6 pl du ck (nI B) (nI F) (nI Lp) hours first kind post error k1 (nI Lp, kn, lf) = loopN (g_X1_passHour_38 pl ck (nI F) hours kind) 100 (0, kn, lf) := by
      simp only [g_X1_passHour_6, f_X1_passHour_6, f_X1_passHour_36, if_pos (nI_le (Nat.le_refl Lp) (show Lp < 2 ^ 31 by omega))]
    have t2 : g_X7_passOn_77 (nI B) (nI F) (nI Lp) round first2 kind2 begins error2 (nI lv) (nI (17 * lv)) k2 (nI Lp, now1) = loopN (g_X7_passOn_193 (nI F) round kind2 (nI lv) (nI (17 * lv))) 100 (0, now1) := by
      simp only [g_X7_passOn_77, f_X7_passOn_77, f_X7_passOn_191, if_pos (nI_le (Nat.le_refl Lp) (show Lp < 2 ^ 31 by omega))]
    rw [t1, t2]
    refine loop2 F (fun i s1 s2 => s1.1 = nI i ∧ s2.1 = nI i ∧ MR B F Lp C (17 * lv) hours kind pl s1.2.1 s1.2.2 du ck s2.2 ∧ FrN (17 * lv) now s2.2) (fun o1 o2 => ∃ kn1 lf1 now1, o1 = some (kn1, lf1, ck + 1) ∧ o2 = some now1 ∧ MR B F Lp (C + 1) (17 * lv) hours kind pl kn1 lf1 du (ck + 1) now1 ∧ FrN (17 * lv) now now1) ?_ ?_ 100 100 0 _ _ (Nat.zero_le _) (by omega) (by omega) ⟨rfl, rfl, hM, hF⟩
    · rintro i ⟨x, kn, lf⟩ ⟨x', now1⟩ hi ⟨e1, e2, hM, hF⟩
      dsimp only at e1 e2 hM hF
      subst e1; subst e2
      left
      have hlt := lt_le hi (show F < 2 ^ 31 by omega)
      have hk := (hP.2.2.1 i hi).1.2
      by_cases c1 : kind i = 3
      · obtain ⟨kn1, lf1, now2, r1, r2, r3, r4⟩ := x_echo hP hM hlv hi
        refine ⟨(nI (i + 1), kn1, lf1), (nI (i + 1), now2), ⟨rfl, rfl, r3, hF.tr r4⟩, fun k => ?_, fun k => ?_⟩
        · simp only [g_X1_passHour_38, f_X1_passHour_38, f_X1_passHour_67, if_neg hlt, rd5 (show i < 5 by omega), c1, if_true, r1, Option.bind_some, nI_1]
        · simp only [g_X7_passOn_193, f_X7_passOn_193, f_X7_passOn_217, if_neg hlt, rd5 (show i < 5 by omega), hk, c1, if_true, r2, Option.bind_some, nI_1]
      · refine ⟨(nI (i + 1), kn, lf), (nI (i + 1), now1), ⟨rfl, rfl, hM, hF⟩, fun k => ?_, fun k => ?_⟩
        · simp only [g_X1_passHour_38, f_X1_passHour_38, f_X1_passHour_67, if_neg hlt, rd5 (show i < 5 by omega), c1, if_false, nI_1]
        · simp only [g_X7_passOn_193, f_X7_passOn_193, f_X7_passOn_217, if_neg hlt, rd5 (show i < 5 by omega), hk, c1, if_false, nI_1]
    · rintro ⟨x, kn, lf⟩ ⟨x', now1⟩ ⟨e1, e2, hM, hF⟩ k1 k2
      dsimp only at e1 e2 hM hF
      subst e1; subst e2
      refine ⟨kn, lf, upd now1 (17 * lv + 16) (ck + 1), ?_, ?_, MR_clock hM h5, hF.tr (FrN.up (by omega) (by omega))⟩
      · simp only [g_X1_passHour_38, f_X1_passHour_38, f_X1_passHour_73, if_pos (nI_le (Nat.le_refl F) (show F < 2 ^ 31 by omega))]
      · simp only [g_X7_passOn_193, f_X7_passOn_193, f_X7_passOn_223, if_pos (nI_le (Nat.le_refl F) (show F < 2 ^ 31 by omega)), n16, rd34 (show 17 * lv + 16 < 34 by omega), ix34 (show 17 * lv + 16 < 34 by omega), cl_n (show 17 * lv + 16 < 2 ^ 31 by omega), hM.2.2.1]
end Pass
