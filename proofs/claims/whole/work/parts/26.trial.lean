section Trial
variable {B F Lp C i l n : Nat} {hours first kind post error round first2 kind2 begins error2 : Nat → Int32} {pl kn lf now : Nat → Int32} {du ck : Int32}
abbrev nOne : Int32 := nI 1
theorem x_pass1 (hP : PR B F Lp hours first kind post error round first2 kind2 begins error2) (hM : MR B F Lp C (17 * 1) hours kind pl kn lf du ck now) (hC : C ≤ 1000) :
    ∃ kn1 lf1 now1, f_X1_passHour pl kn lf du ck (nI B) (nI F) (nI Lp) hours first kind post error = some (kn1, lf1, ck + 1) ∧ f_X7_passOn (nI B) (nI F) (nI Lp) round first2 kind2 begins error2 now 1 = some now1 ∧ MR B F Lp (C + 1) (17 * 1) hours kind pl kn1 lf1 du (ck + 1) now1 ∧ FrN (17 * 1) now now1 := x_pass (lv := 1) hP hM (Nat.le_refl 1) hC
theorem x_pass0 (hP : PR B F Lp hours first kind post error round first2 kind2 begins error2) (hM : MR B F Lp C 0 hours kind pl kn lf du ck now) (hC : C ≤ 1000) :
    ∃ kn1 lf1 now1, f_X1_passHour pl kn lf du ck (nI B) (nI F) (nI Lp) hours first kind post error = some (kn1, lf1, ck + 1) ∧ f_X7_passOn (nI B) (nI F) (nI Lp) round first2 kind2 begins error2 now 0 = some now1 ∧ MR B F Lp (C + 1) 0 hours kind pl kn1 lf1 du (ck + 1) now1 ∧ FrN 0 now now1 := x_pass (lv := 0) hP hM (Nat.zero_le 1) hC
theorem x7_knows1 (hP : PR B F Lp hours first kind post error round first2 kind2 begins error2) (hM : MR B F Lp C (17 * 1) hours kind pl kn lf du ck now) (hi : i < F) : f_X7_knows now 1 (nI i) = some (if kn i = -9 then 0 else 1) := x7_knows (lv := 1) hP hM (Nat.le_refl 1) hi
theorem MR_duty (h : MR B F Lp C (17 * 1) hours kind pl kn lf du ck now) (hF : F ≤ 5) {d : Nat} (hd : d < 2 ^ Lp) : MR B F Lp C (17 * 1) hours kind pl kn lf (nI d) ck (upd now 32 (nI d)) := by
  obtain ⟨h1, h2, h3, h4, h5⟩ := h
  refine ⟨fun j hj => ?_, ?_, ?_, ⟨d, hd, rfl⟩, h5⟩
  · obtain ⟨a1, a2, a3, a4, a5⟩ := h1 j hj
    exact ⟨by rw [upd_n _ _ (by omega), a1], by rw [upd_n _ _ (by omega), a2], by rw [upd_n _ _ (by omega), a3], a4, a5⟩
  · show upd now 32 (nI d) 32 = nI d
    rw [upd_s]
  · rw [upd_n _ _ (by omega), h3]
theorem Fr32 {x : Int32} : FrN (17 * 1) now (upd now 32 x) := FrN.up (by omega) (by omega)
theorem Fr_lay : FrN (17 * 1) now (va_cpy now now 0 17 17) := fun j hj => cpy_out (by omega)
/-- the trial doesn't ask what lay there -/
theorem lay_eq {now now' : Nat → Int32} (h : FrN (17 * 1) now now') : f_X7_layTrial now' = f_X7_layTrial now := by
  rw [x7_layTrial, x7_layTrial]
  congr 1
  funext k
  unfold va_cpy
  by_cases hk : 17 ≤ k ∧ k < 17 + 17
  · rw [if_pos hk, if_pos hk]
    exact h _ (Or.inl (by omega))
  · rw [if_neg hk, if_neg hk]
    exact h _ (by omega)
theorem x2_start (g1 g2 g3 : Nat → Int32) : f_X2_startTrial pl kn lf du ck g1 g2 g3 = some (va_cpy pl g1 0 0 5, va_cpy kn g2 0 0 5, va_cpy lf g3 0 0 5, du, ck) := rfl
/-- n hours, beside any loop of the reference's that passes n hours -/
theorem x_passes {ρ : Type} {st2 : (Int32 × (Nat → Int32) → Option ρ) → Int32 × (Nat → Int32) → Option ρ} {E : (Nat → Int32) → Option ρ} (hP : PR B F Lp hours first kind post error round first2 kind2 begins error2) (hM : MR B F Lp C (17 * 1) hours kind pl kn lf du ck now) (hn : n ≤ 20) (hC : C + n ≤ 1000)
    (h1 : ∀ k x now, x < n → st2 k (nI x, now) = (f_X7_passOn (nI B) (nI F) (nI Lp) round first2 kind2 begins error2 now 1).bind (fun w => k (nI (x + 1), w))) (h2 : ∀ k now, st2 k (nI n, now) = E now) :
    ∃ kn1 lf1 ck1 now1, f_X2_passHours (nI B) (nI F) (nI Lp) hours first kind post error pl kn lf du ck (nI n) = some (kn1, lf1, ck1) ∧ loopN st2 100 (0, now) = E now1 ∧ MR B F Lp (C + n) (17 * 1) hours kind pl kn1 lf1 du ck1 now1 ∧ FrN (17 * 1) now now1 := by
  unfold f_X2_passHours
  refine loop2 n (fun i s1 s2 => s1.1 = nI i ∧ s2.1 = nI i ∧ MR B F Lp (C + i) (17 * 1) hours kind pl s1.2.1 s1.2.2.1 du s1.2.2.2 s2.2 ∧ FrN (17 * 1) now s2.2) (fun o1 o2 => ∃ kn1 lf1 ck1 now1, o1 = some (kn1, lf1, ck1) ∧ o2 = E now1 ∧ MR B F Lp (C + n) (17 * 1) hours kind pl kn1 lf1 du ck1 now1 ∧ FrN (17 * 1) now now1) ?_ ?_ 100 100 0 _ _ (Nat.zero_le _) (by omega) (by omega) ⟨rfl, rfl, hM, FrN.rf⟩
  · rintro i ⟨x, kn, lf, ck⟩ ⟨x', now1⟩ hi ⟨e1, e2, hM, hF⟩
    dsimp only at e1 e2 hM hF
    subst e1; subst e2
    left
    have hlt := lt_le hi (by omega)
    obtain ⟨kn1, lf1, now2, r1, r2, r3, r4⟩ := x_pass1 hP hM (by omega)
    refine ⟨(nI (i + 1), kn1, lf1, ck + 1), (nI (i + 1), now2), ⟨rfl, rfl, r3, hF.tr r4⟩, fun k => ?_, fun k => ?_⟩
    · simp only [g_X2_passHours_2, f_X2_passHours_2, if_neg hlt, r1, Option.bind_some, nI_1]
    · rw [h1 k i now1 hi, r2, Option.bind_some]
  · rintro ⟨x, kn, lf, ck⟩ ⟨x', now1⟩ ⟨e1, e2, hM, hF⟩ k1 k2
    dsimp only at e1 e2 hM hF
    subst e1; subst e2
    refine ⟨kn, lf, ck, now1, ?_, h2 k2 now1, hM, hF⟩
    simp only [g_X2_passHours_2, f_X2_passHours_2, if_pos (nI_le (Nat.le_refl n) (show n < 2 ^ 31 by omega))]
/-! IN n HOURS -/
theorem x_ahead (hP : PR B F Lp hours first kind post error round first2 kind2 begins error2) (hM : MR B F Lp C 0 hours kind pl kn lf du ck now) (hn : n ≤ 20) (hC : C + n ≤ 1000) (hi : i < F) :
    ∃ v now1, (f_X7_layTrial now).bind (fun w10 => loopN (g_X7_ahead_31 (nI B) (nI F) (nI Lp) round first2 kind2 begins error2 (nI i) (nI n)) 100 (0, w10)) = some (v, now1) ∧ FrN (17 * 1) now now1 ∧ ∀ g1 g2 g3, ∃ r, f_X2_knownIn (nI B) (nI F) (nI Lp) hours first kind post error pl kn lf du ck g1 g2 g3 (nI i) (nI n) = some (v, r) := by
  have h5 := hP.F5
  rw [x7_layTrial, Option.bind_some]
  have key : ∀ g1 g2 g3, ∃ kn1 lf1 ck1 now1, f_X2_passHours (nI B) (nI F) (nI Lp) hours first kind post error (va_cpy pl g1 0 0 5) (va_cpy kn g2 0 0 5) (va_cpy lf g3 0 0 5) du ck (nI n) = some (kn1, lf1, ck1) ∧ loopN (g_X7_ahead_31 (nI B) (nI F) (nI Lp) round first2 kind2 begins error2 (nI i) (nI n)) 100 (0, va_cpy now now 0 17 17) = some (kn1 i, now1) ∧ FrN (17 * 1) (va_cpy now now 0 17 17) now1 := by
    intro g1 g2 g3
    obtain ⟨kn1, lf1, ck1, now1, r1, r2, r3, r4⟩ := x_passes (st2 := g_X7_ahead_31 (nI B) (nI F) (nI Lp) round first2 kind2 begins error2 (nI i) (nI n)) (E := fun now => f_X7_ahead_47 now (nI i)) hP (trial_MR hM h5 g1 g2 g3) hn hC
      (fun k x now hx => by simp only [g_X7_ahead_31, f_X7_ahead_31, if_neg (lt_le hx (show n < 2 ^ 31 by omega)), nI_1])
      (fun k now => by simp only [g_X7_ahead_31, f_X7_ahead_31, if_pos (nI_le (Nat.le_refl n) (show n < 2 ^ 31 by omega))])
    refine ⟨kn1, lf1, ck1, now1, r1, ?_, r4⟩
    rw [r2]
    have e : (22 : Int32) + nI i = nI (22 + i) := nI_add 22 i
    have a2 := (r3.1 i hi).2.1
    unfold f_X7_ahead_47
    rw [e, rd34 (by omega)]
    have a2' : now1 (22 + i) = kn1 i := a2
    rw [a2']
  obtain ⟨kn1, lf1, ck1, now1, r1, r2, r4⟩ := key (fun _ => 0) (fun _ => 0) (fun _ => 0)
  refine ⟨kn1 i, now1, r2, Fr_lay.tr r4, fun g1 g2 g3 => ?_⟩
  obtain ⟨kn2, lf2, ck2, now2, s1, s2, s4⟩ := key g1 g2 g3
  rw [r2] at s2
  have ev : kn1 i = kn2 i := congrArg (fun o : Option (Int32 × (Nat → Int32)) => (o.map Prod.fst).getD 0) s2
  unfold f_X2_knownIn
  rw [x2_start, Option.bind_some]
  dsimp only
  rw [s1, Option.bind_some, rd5 (by omega)]
  exact ⟨_, by rw [ev]⟩
/-! LOST -/
theorem x_lost (hP : PR B F Lp hours first kind post error round first2 kind2 begins error2) (hM : MR B F Lp C 0 hours kind pl kn lf du ck now) (hC : C + 21 ≤ 1000) (hi : i < F) :
    ∃ v now1, (f_X7_layTrial now).bind (fun w8 => loopN (g_X7_lost_16 (nI B) (nI F) (nI Lp) round first2 kind2 begins error2 (nI i)) 100 (0, w8)) = some (v, now1) ∧ FrN (17 * 1) now now1 ∧ ∀ g1 g2 g3, ∃ r, f_X2_lostIn (nI B) (nI F) (nI Lp) hours first kind post error pl kn lf du ck g1 g2 g3 (nI i) = some (v, r) := by
  have h5 := hP.F5
  rw [x7_layTrial, Option.bind_some]
  have key : ∀ g1 g2 g3, ∃ v r now1, f_X2_lostIn (nI B) (nI F) (nI Lp) hours first kind post error pl kn lf du ck g1 g2 g3 (nI i) = some (v, r) ∧ loopN (g_X7_lost_16 (nI B) (nI F) (nI Lp) round first2 kind2 begins error2 (nI i)) 100 (0, va_cpy now now 0 17 17) = some (v, now1) ∧ FrN (17 * 1) (va_cpy now now 0 17 17) now1 := by
    intro g1 g2 g3
    unfold f_X2_lostIn
    rw [x2_start, Option.bind_some]
    dsimp only
    refine loop2 21 (fun i s1 s2 => s1.1 = nI i ∧ s2.1 = nI i ∧ MR B F Lp (C + i) (17 * 1) hours kind (va_cpy pl g1 0 0 5) s1.2.1 s1.2.2.1 du s1.2.2.2 s2.2 ∧ FrN (17 * 1) (va_cpy now now 0 17 17) s2.2) (fun o1 o2 => ∃ v r now1, o1 = some (v, r) ∧ o2 = some (v, now1) ∧ FrN (17 * 1) (va_cpy now now 0 17 17) now1) ?_ ?_ 100 100 0 _ _ (Nat.zero_le _) (by omega) (by omega) ⟨rfl, rfl, trial_MR hM h5 g1 g2 g3, FrN.rf⟩
    · rintro h ⟨x, kn, lf, ck⟩ ⟨x', now1⟩ hh ⟨e1, e2, hM, hF⟩
      dsimp only at e1 e2 hM hF
      subst e1; subst e2
      have t1 : ¬ (20 : Int32) < nI h := nI_nlt (a := 20) (b := h) (by omega) (by decide)
      have t2 : ¬ (21 : Int32) ≤ nI h := lt_le (b := 21) hh (by decide)
      by_cases c : kn i = -9
      · right
        intro k1 k2
        refine ⟨nI h, (va_cpy pl g1 0 0 5, kn, lf, du, ck), now1, ?_, ?_, hF⟩
        · simp only [g_X2_lostIn_6, f_X2_lostIn_6, if_neg t1, rd5 (show i < 5 by omega), c, if_true]
        · simp only [g_X7_lost_16, f_X7_lost_16, if_neg t2, x7_knows1 hP hM hi, c, if_true, Option.bind_some]
      · left
        obtain ⟨kn1, lf1, now2, r1, r2, r3, r4⟩ := x_pass1 hP hM (by omega)
        refine ⟨(nI (h + 1), kn1, lf1, ck + 1), (nI (h + 1), now2), ⟨rfl, rfl, r3, hF.tr r4⟩, fun k => ?_, fun k => ?_⟩
        · simp only [g_X2_lostIn_6, f_X2_lostIn_6, if_neg t1, rd5 (show i < 5 by omega), c, if_false, r1, Option.bind_some, nI_1]
        · simp only [g_X7_lost_16, f_X7_lost_16, if_neg t2, x7_knows1 hP hM hi, c, if_false, if_neg (show ¬ (1 : Int32) = 0 by decide), Option.bind_some, r2, nI_1]
    · rintro ⟨x, kn, lf, ck⟩ ⟨x', now1⟩ ⟨e1, e2, hM, hF⟩ k1 k2
      dsimp only at e1 e2 hM hF
      subst e1; subst e2
      refine ⟨-9, (va_cpy pl g1 0 0 5, kn, lf, du, ck), now1, ?_, ?_, hF⟩
      · simp only [g_X2_lostIn_6, f_X2_lostIn_6, if_pos (show (20 : Int32) < nI 21 by decide)]
      · simp only [g_X7_lost_16, f_X7_lost_16, if_pos (show (21 : Int32) ≤ nI 21 by decide)]
  obtain ⟨v, r, now1, r1, r2, r4⟩ := key (fun _ => 0) (fun _ => 0) (fun _ => 0)
  refine ⟨v, now1, r2, Fr_lay.tr r4, fun g1 g2 g3 => ?_⟩
  obtain ⟨v2, rr, now2, s1, s2, s4⟩ := key g1 g2 g3
  rw [r2] at s2
  have ev : v = v2 := congrArg (fun o : Option (Int32 × (Nat → Int32)) => (o.map Prod.fst).getD 0) s2
  exact ⟨rr, by rw [s1, ev]⟩
end Trial
