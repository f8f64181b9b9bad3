theorem in_cases (x : Int32) (n : Nat) (hn : n < 1000) (ML : Int64) (hML : ML.toInt = (n : Int)) :
    (∃ j, j ≤ n ∧ x = nI j ∧ ¬ x < 0 ∧ x ≤ nI n ∧ ¬ nI n < x ∧ f_X7_in (Int32.toInt64 x) 0 ML = some 1) ∨ (x < 0 ∧ f_X7_in (Int32.toInt64 x) 0 ML = some 0) ∨ (¬ x < 0 ∧ ¬ x ≤ nI n ∧ nI n < x ∧ f_X7_in (Int32.toInt64 x) 0 ML = some 0) := by
  rw [x7_in, Int32.toInt_toInt64, hML]
  have e0 : (0 : Int64).toInt = 0 := by decide
  have f0 : (0 : Int32).toInt = 0 := by decide
  have f1 : (nI n).toInt = (n : Int) := nI_toInt (by omega)
  rw [e0, Int32.lt_iff_toInt_lt, Int32.le_iff_toInt_le, Int32.lt_iff_toInt_lt, f0, f1]
  by_cases h : x.toInt < 0
  · exact Or.inr (Or.inl ⟨h, congrArg some (if_neg (by omega))⟩)
  · by_cases h2 : x.toInt ≤ n
    · refine Or.inl ⟨x.toInt.toNat, by omega, ?_, h, h2, by omega, congrArg some (if_pos (by omega))⟩
      apply Int32.toInt_inj.mp
      rw [nI_toInt (by omega)]; omega
    · exact Or.inr (Or.inr ⟨h, h2, by omega, congrArg some (if_neg (by omega))⟩)
section Ill
variable {B F Lp C i j l n : Nat} {hours first kind post error round first2 kind2 begins error2 : Nat → Int32} {pl kn lf now : Nat → Int32} {du ck : Int32}
theorem x_passF {κ ρ : Type} {st2 : κ → (Int32 × (Nat → Int32) → Option ρ) → Int32 × (Nat → Int32) → Option ρ} {E : κ → (Nat → Int32) → Option ρ} (hP : PR B F Lp hours first kind post error round first2 kind2 begins error2) (hM : MR B F Lp C (17 * 1) hours kind pl kn lf du ck now) (hn : n ≤ 20) (hC : C + n ≤ 1000)
    (h1 : ∀ q k x now, x < n → st2 q k (nI x, now) = (f_X7_passOn (nI B) (nI F) (nI Lp) round first2 kind2 begins error2 now 1).bind (fun w => k (nI (x + 1), w))) (h2 : ∀ q k now, st2 q k (nI n, now) = E q now) :
    ∃ kn1 lf1 ck1 now1, f_X2_passHours (nI B) (nI F) (nI Lp) hours first kind post error pl kn lf du ck (nI n) = some (kn1, lf1, ck1) ∧ (∀ q, loopN (st2 q) 100 (0, now) = E q now1) ∧ MR B F Lp (C + n) (17 * 1) hours kind pl kn1 lf1 du ck1 now1 ∧ FrN (17 * 1) now now1 := by
  unfold f_X2_passHours
  have key := loop2r (st1 := g_X2_passHours_2 (nI B) (nI F) (nI Lp) hours first kind post error pl du (nI n)) (st2 := st2) n (fun i s1 s2 => s1.1 = nI i ∧ s2.1 = nI i ∧ MR B F Lp (C + i) (17 * 1) hours kind pl s1.2.1 s1.2.2.1 du s1.2.2.2 s2.2 ∧ FrN (17 * 1) now s2.2) (fun s1 => some (s1.2.1, s1.2.2.1, s1.2.2.2)) (fun q s2 => E q s2.2) (by
    rintro i ⟨x, kn, lf, ck⟩ ⟨x', now1⟩ hi ⟨e1, e2, hM, hF⟩
    dsimp only at e1 e2 hM hF
    subst e1; subst e2
    have hlt := lt_le hi (by omega)
    obtain ⟨kn1, lf1, now2, r1, r2, r3, r4⟩ := x_pass1 hP hM (by omega)
    refine ⟨(nI (i + 1), kn1, lf1, ck + 1), (nI (i + 1), now2), ⟨rfl, rfl, r3, hF.tr r4⟩, fun k => ?_, fun q k => ?_⟩
    · simp only [g_X2_passHours_2, f_X2_passHours_2, if_neg hlt, r1, Option.bind_some, nI_1]
    · rw [h1 q k i now1 hi, r2, Option.bind_some]) (by
    rintro ⟨x, kn, lf, ck⟩ ⟨x', now1⟩ ⟨e1, e2, hM, hF⟩
    dsimp only at e1 e2 hM hF
    subst e1; subst e2
    refine ⟨fun k => ?_, fun q k => h2 q k now1⟩
    simp only [g_X2_passHours_2, f_X2_passHours_2, if_pos (nI_le (Nat.le_refl n) (show n < 2 ^ 31 by omega))]) 100 100 0 (0, kn, lf, ck) (0, now) (Nat.zero_le _) (by omega) (by omega) ⟨rfl, rfl, hM, FrN.rf⟩
  obtain ⟨⟨x, kn1, lf1, ck1⟩, ⟨x', now1⟩, ⟨e1, e2, a3, a4⟩, r1, r2⟩ := key
  exact ⟨kn1, lf1, ck1, now1, r1, r2, a3, a4⟩
/-- does the fish know its first behind n hours, with these on duty -/
theorem x_firstBy (hP : PR B F Lp hours first kind post error round first2 kind2 begins error2) (hM : MR B F Lp C 0 hours kind pl kn lf du ck now) (hn : n ≤ 20) (hC : C + n ≤ 1000) (hi : i < F) {T : Nat} (hT : T < 2 ^ Lp) :
    ∃ b : Nat, (b = 0 ∨ b = 1) ∧ (∃ now1, FrN (17 * 1) now now1 ∧ ∀ k46 x5 x6 x7 x8, loopN (g_X7_ill_107 (nI B) (nI F) (nI Lp) round first2 kind2 begins error2 (nI i) (nI n) x5 x6 x7 x8 k46) 100 (0, upd (va_cpy now now 0 17 17) 32 (nI T)) = k46 (x5 + (if b = 1 then x8 else 0), x6 + x8, x7 + 1, now1))
      ∧ ∀ g1 g2 g3, ∃ r, f_X2_knowsFirstBy (nI B) (nI F) (nI Lp) hours first kind post error pl kn lf du ck g1 g2 g3 (nI T) (nI i) (nI n) = some (nI b, r) := by
  have h5 := hP.F5
  have key : ∀ g1 g2 g3, ∃ b now1 r, (b = 0 ∨ b = 1) ∧ FrN (17 * 1) now now1 ∧ f_X2_knowsFirstBy (nI B) (nI F) (nI Lp) hours first kind post error pl kn lf du ck g1 g2 g3 (nI T) (nI i) (nI n) = some (nI b, r) ∧ ∀ k46 x5 x6 x7 x8, loopN (g_X7_ill_107 (nI B) (nI F) (nI Lp) round first2 kind2 begins error2 (nI i) (nI n) x5 x6 x7 x8 k46) 100 (0, upd (va_cpy now now 0 17 17) 32 (nI T)) = k46 (x5 + (if b = 1 then x8 else 0), x6 + x8, x7 + 1, now1) := by
    intro g1 g2 g3
    have hM0 := MR_duty (trial_MR hM h5 g1 g2 g3) h5 hT
    obtain ⟨kn1, lf1, ck1, now1, r1, r2, r3, r4⟩ := x_passF (κ := (Int32 × Int32 × Int32 × (Nat → Int32) → Option (Int32 × (Nat → Int32))) × Int32 × Int32 × Int32 × Int32) (st2 := fun q => g_X7_ill_107 (nI B) (nI F) (nI Lp) round first2 kind2 begins error2 (nI i) (nI n) q.2.1 q.2.2.1 q.2.2.2.1 q.2.2.2.2 q.1) (E := fun q now => f_X7_ill_124 q.1 first2 now (nI i) q.2.1 q.2.2.1 q.2.2.2.1 q.2.2.2.2) hP hM0 hn hC
      (fun q k x now hx => by simp only [g_X7_ill_107, f_X7_ill_107, if_neg (lt_le hx (show n < 2 ^ 31 by omega)), nI_1])
      (fun q k now => by simp only [g_X7_ill_107, f_X7_ill_107, if_pos (nI_le (Nat.le_refl n) (show n < 2 ^ 31 by omega))])
    have e22 : (22 : Int32) + nI i = nI (22 + i) := nI_add 22 i
    have a2 := (r3.1 i hi).2.1
    have a2' : now1 (22 + i) = kn1 i := a2
    have hf := (hP.2.2.1 i hi).1.1
    have hE : ∀ k46 x5 x6 x7 x8, f_X7_ill_124 k46 first2 now1 (nI i) x5 x6 x7 x8 = k46 (x5 + (if kn1 i = first i then x8 else 0), x6 + x8, x7 + 1, now1) := by
      intro k46 x5 x6 x7 x8
      unfold f_X7_ill_124
      rw [e22, rd34 (by omega), rd5 (by omega), a2', hf]
      by_cases q : kn1 i = first i
      · rw [if_pos q, if_pos q]; rfl
      · rw [if_neg q, if_neg q]; rfl
    have hcl : f_X2_knowsFirstBy (nI B) (nI F) (nI Lp) hours first kind post error pl kn lf du ck g1 g2 g3 (nI T) (nI i) (nI n) = if kn1 i = first i then some (1, va_cpy pl g1 0 0 5, kn1, lf1, nI T, ck1) else some (0, va_cpy pl g1 0 0 5, kn1, lf1, nI T, ck1) := by
      unfold f_X2_knowsFirstBy
      rw [x2_start, Option.bind_some]
      dsimp only
      rw [r1, Option.bind_some, rd5 (by omega), rd5 (by omega)]
    by_cases q : kn1 i = first i
    · refine ⟨1, now1, (va_cpy pl g1 0 0 5, kn1, lf1, nI T, ck1), Or.inr rfl, (Fr_lay.tr Fr32).tr r4, ?_, fun k46 x5 x6 x7 x8 => ?_⟩
      · rw [hcl, if_pos q]; rfl
      · have := r2 (k46, x5, x6, x7, x8)
        dsimp only at this
        rw [this, hE, if_pos q, if_pos rfl]
    · refine ⟨0, now1, (va_cpy pl g1 0 0 5, kn1, lf1, nI T, ck1), Or.inl rfl, (Fr_lay.tr Fr32).tr r4, ?_, fun k46 x5 x6 x7 x8 => ?_⟩
      · rw [hcl, if_neg q]; rfl
      · have := r2 (k46, x5, x6, x7, x8)
        dsimp only at this
        rw [this, hE, if_neg q, if_neg (by decide)]
  obtain ⟨b, now1, r, hb, r1, r2, r3⟩ := key (fun _ => 0) (fun _ => 0) (fun _ => 0)
  refine ⟨b, hb, ⟨now1, r1, r3⟩, fun g1 g2 g3 => ?_⟩
  obtain ⟨b2, now2, rr, hb2, s1, s2, s3⟩ := key g1 g2 g3
  have e := (r3 (fun s => some (s.1, s.2.2.2)) 0 0 0 1).symm.trans (s3 (fun s => some (s.1, s.2.2.2)) 0 0 0 1)
  have e2 := fst_eq e
  dsimp only at e2
  have : b = b2 := by
    rcases hb with q | q <;> rcases hb2 with q2 | q2 <;> subst q <;> subst q2
    · rfl
    · exact absurd e2 (by decide)
    · exact absurd e2 (by decide)
    · rfl
  subst this
  exact ⟨rr, s2⟩
theorem nI_mul (a b : Nat) : nI a * nI b = nI (a * b) := pk_mul a b
/-- ILL -/
theorem x_ill (hP : PR B F Lp hours first kind post error round first2 kind2 begins error2) (hM : MR B F Lp C 0 hours kind pl kn lf du ck now) (hC : C + 20 ≤ 1000) (g1 g2 g3 : Nat → Int32) (z1 z2 x1 x2 x3 x4 : Int32) :
    ∃ v r now1, f_X6_ill (nI B) (nI F) (nI Lp) hours first kind post error pl kn lf du ck g1 g2 g3 z1 z2 x1 x2 x3 x4 = some (v, r) ∧ f_X7_ill (nI B) (nI F) (nI Lp) round first2 kind2 begins error2 now x1 x2 x3 x4 = some (v, now1) ∧ FrN (17 * 1) now now1 := by
  have hL := hP.L4
  have n10 : ¬ (1 : Int32) = 0 := by decide
  unfold f_X6_ill f_X7_ill
  rcases is_cases hP.F5 x1 with ⟨i, hi, rfl, c1, c2⟩ | ⟨-, c1, c2⟩
  · rw [c1, c2, Option.bind_some, Option.bind_some, if_neg n10, if_neg n10]
    rcases in_cases x2 20 (by decide) 20 (by decide) with ⟨n, hn, rfl, d1, d2, d3, d4⟩ | ⟨d1, d4⟩ | ⟨d1, d2, d3, d4⟩
    · rw [d4, Option.bind_some, if_neg n10, if_neg d1, if_neg (show ¬ (20 : Int32) < nI n from d3)]
      rcases in_cases x3 10 (by decide) 10 (by decide) with ⟨x, hx, rfl, e1, e2, e3, e4⟩ | ⟨e1, e4⟩ | ⟨e1, e2, e3, e4⟩
      · rw [e4, Option.bind_some, if_neg n10, if_neg e1, if_pos (show nI x ≤ (10 : Int32) from e2)]
        obtain ⟨d, hdl, hd⟩ := hM.2.2.2.1
        have hd16 := pow_le16 hL hdl
        have hN : 2 ^ Lp ≤ 16 := Nat.pow_le_pow_right (by decide) hL
        obtain ⟨V, hV⟩ := pickV (n := 2 ^ Lp) (fun T hT => x_firstBy hP hM hn (by omega) hi (T := T) hT)
        obtain ⟨f1, f2, f3, f4⟩ := ill_fin hL hd16 hx hdl
        have hpM : ∀ s, s < 2 ^ Lp → pM d s < 2 ^ Lp := fun s hs => Nat.lt_of_le_of_lt (pM_fin d hd16 s (by omega)).2 hdl
        have hsum : sumX (wtM Lp x) (pM d) V (2 ^ Lp) = sumX (wtC d x) (fun s => s) V (2 ^ Lp) * 10 ^ (Lp - popN d) := by
          rw [sumX_dot (fun s hs => Nat.lt_of_lt_of_le (hpM s hs) hN), sumX_dot (fun s hs => Nat.lt_of_lt_of_le hs hN)]
          exact dotX_scale f1
        have hle := sumX_le (w := wtC d x) (p := fun s => s) (U := V) (2 ^ Lp)
        rw [f3] at hle
        have h10 : 10 ^ popN d * 10 ^ (Lp - popN d) < 2 ^ 14 := by
          rw [← Nat.pow_add, show popN d + (Lp - popN d) = Lp by omega]
          exact Nat.lt_of_le_of_lt (Nat.pow_le_pow_right (by decide) hL) (by decide)
        obtain ⟨v, u1, u2⟩ := ill_end hle (Nat.pow_pos (by decide)) (Nat.pow_pos (n := Lp - popN d) (by decide)) h10 x4
        -- the reference
        have model : ∃ now1, loopN (g_X7_ill_46 (nI B) (nI F) (nI Lp) round first2 kind2 begins error2 (nI i) (nI n) (nI x) x4) 100 (0, 0, 0, now) = some (v, now1) ∧ FrN (17 * 1) now now1 := by
          refine loop1 (st := g_X7_ill_46 (nI B) (nI F) (nI Lp) round first2 kind2 begins error2 (nI i) (nI n) (nI x) x4) (2 ^ Lp) (fun s st => st.1 = nI (sumX (wtM Lp x) (pM d) V s) ∧ st.2.1 = nI (sumW (wtM Lp x) s) ∧ st.2.2.1 = nI s ∧ FrN (17 * 1) now st.2.2.2) (fun o => ∃ now1, o = some (v, now1) ∧ FrN (17 * 1) now now1) ?_ ?_ 100 0 _ (Nat.zero_le _) (by omega) ⟨rfl, rfl, rfl, FrN.rf⟩
          · rintro s ⟨y5, y6, y7, m1⟩ hs ⟨q1, q2, q3, hF⟩
            dsimp only at q1 q2 q3 hF
            subst q1; subst q2; subst q3
            left
            have hlt : ¬ jshl 1 (nI Lp) ≤ nI s := by rw [shl_fin Lp hL]; exact lt_le hs (by omega)
            have hs16 : s < 16 := by omega
            have hp := pop_fin s (by omega)
            obtain ⟨np, np2⟩ := npop_fin Lp (by omega) s hs16 hs
            obtain ⟨-, ⟨now1, b2, b3⟩, -⟩ := hV (pM d s) (hpM s hs)
            refine ⟨(nI (sumX (wtM Lp x) (pM d) V (s + 1)), nI (sumW (wtM Lp x) (s + 1)), nI (s + 1), now1), ⟨rfl, rfl, rfl, b2⟩, fun k => ?_⟩
            simp only [g_X7_ill_46, f_X7_ill_46, if_neg hlt, hp.2.1, Option.bind_some, (pow_fin x (by omega) (popN s) (by omega)).1, (pow_fin x (by omega) (popN s) (by omega)).2, np, (pow_fin (10 - x) (by omega) (Lp - popN s) (by omega)).1, lay_eq hF, x7_layTrial, r32, i32, cl32, cpy32 hM, hd, (pM_fin d hd16 s hs16).1, nI_mul, b3, nI_1, nI_add]
            show k (_ + (if V (pM d s) = 1 then nI (wtM Lp x s) else 0), _) = k (nI (sumX (wtM Lp x) (pM d) V s + (if V (pM d s) = 1 then wtM Lp x s else 0)), _)
            by_cases qv : V (pM d s) = 1
            · rw [if_pos qv, if_pos qv, nI_add]; rfl
            · rw [if_neg qv, if_neg qv, show nI (sumX (wtM Lp x) (pM d) V s) + (0 : Int32) = nI (sumX (wtM Lp x) (pM d) V s + 0) from nI_add _ 0]; rfl
          · rintro ⟨y5, y6, y7, m1⟩ ⟨q1, q2, q3, hF⟩ k
            dsimp only at q1 q2 q3 hF
            subst q1; subst q2; subst q3
            have hle : jshl 1 (nI Lp) ≤ nI (2 ^ Lp) := by rw [shl_fin Lp hL]; exact nI_le (Nat.le_refl _) (by omega)
            refine ⟨m1, ?_, hF⟩
            simp only [g_X7_ill_46, f_X7_ill_46, if_pos hle]
            rw [hsum, f2]
            exact u2 m1
        have cls : ∃ r, f_X2_chanceOfFirst (nI B) (nI F) (nI Lp) hours first kind post error pl kn lf du ck g1 g2 g3 z1 z2 (nI i) (nI n) (nI x) x4 = some (v, r) := by
          unfold f_X2_chanceOfFirst
          refine loop1 (st := g_X2_chanceOfFirst_9 (nI B) (nI F) (nI Lp) hours first kind post error pl kn lf du ck (nI i) (nI n) (nI x) x4) (2 ^ Lp) (fun s st => st.1 = nI (sumX (wtC d x) (fun s => s) V s) ∧ st.2.1 = nI (sumW (wtC d x) s) ∧ st.2.2.1 = nI s) (fun o => ∃ r, o = some (v, r)) ?_ ?_ 100 0 _ (Nat.zero_le _) (by omega) ⟨rfl, rfl, rfl⟩
          · rintro s ⟨y5, y6, y7, g1, g2, g3, z1, z2⟩ hs ⟨q1, q2, q3⟩
            dsimp only at q1 q2 q3
            subst q1; subst q2; subst q3
            left
            have hlt : ¬ jshl 1 (nI Lp) ≤ nI s := by rw [shl_fin Lp hL]; exact lt_le hs (by omega)
            have hs16 : s < 16 := by omega
            have hsub := sub_fin s hs16 d hd16
            by_cases hso : s &&& d = s
            · obtain ⟨hb, -, b4⟩ := hV s hs
              obtain ⟨⟨p1, p2, p3, p4, p5⟩, b5⟩ := b4 g1 g2 g3
              have hw : wtC d x s = (10 - x) ^ popN s * x ^ (popN d - popN s) := if_pos hso
              have hwt := wt_fin hL hd16 hx hs16 hdl hso
              rw [← hw] at hwt
              refine ⟨(nI (sumX (wtC d x) (fun s => s) V (s + 1)), nI (sumW (wtC d x) (s + 1)), nI (s + 1), p1, p2, p3, p4, p5), ⟨rfl, rfl, rfl⟩, fun k => ?_⟩
              rw [hd] at b5
              simp only [g_X2_chanceOfFirst_9, f_X2_chanceOfFirst_9, f_X2_chanceOfFirst_76, f_X2_chanceOfFirst_73, if_neg hlt, hd, if_pos (hsub.mpr hso), hwt, b5, Option.bind_some, nI_1, nI_add]
              rcases hb with qv | qv
              · rw [qv, if_pos (show nI 0 = 0 from rfl)]
                show k (nI (sumX (wtC d x) (fun s => s) V s) + nI 0, _) = k (nI (sumX (wtC d x) (fun s => s) V s + (if V s = 1 then wtC d x s else 0)), _)
                rw [nI_add, if_neg (by rw [qv]; decide)]; rfl
              · rw [qv, if_neg (show ¬ nI 1 = 0 by decide)]
                show _ = k (nI (sumX (wtC d x) (fun s => s) V s + (if V s = 1 then wtC d x s else 0)), _)
                rw [if_pos qv]; rfl
            · refine ⟨(nI (sumX (wtC d x) (fun s => s) V (s + 1)), nI (sumW (wtC d x) (s + 1)), nI (s + 1), g1, g2, g3, z1, z2), ⟨rfl, rfl, rfl⟩, fun k => ?_⟩
              have hw : wtC d x s = 0 := if_neg hso
              simp only [g_X2_chanceOfFirst_9, f_X2_chanceOfFirst_9, f_X2_chanceOfFirst_76, if_neg hlt, hd, if_neg (fun q => hso (hsub.mp q)), nI_1]
              show _ = k (nI (sumX (wtC d x) (fun s => s) V s + (if V s = 1 then wtC d x s else 0)), nI (sumW (wtC d x) s + wtC d x s), _)
              rw [hw, show (if V s = 1 then 0 else 0) = 0 from by split <;> rfl]; rfl
          · rintro ⟨y5, y6, y7, g1, g2, g3, z1, z2⟩ ⟨q1, q2, q3⟩ k
            dsimp only at q1 q2 q3
            subst q1; subst q2; subst q3
            have hle : jshl 1 (nI Lp) ≤ nI (2 ^ Lp) := by rw [shl_fin Lp hL]; exact nI_le (Nat.le_refl _) (by omega)
            refine ⟨(g1, g2, g3, z1, z2), ?_⟩
            simp only [g_X2_chanceOfFirst_9, f_X2_chanceOfFirst_9, f_X2_chanceOfFirst_82, if_pos hle]
            rw [f3, u1, Option.bind_some]
        obtain ⟨now1, m1, m2⟩ := model
        obtain ⟨⟨r1, r2, r3, r4, r5⟩, m3⟩ := cls
        rw [m3, Option.bind_some, m1]
        exact ⟨_, _, _, rfl, rfl, m2⟩
      · rw [e4, Option.bind_some, if_pos rfl, if_pos e1]
        exact ⟨_, _, _, rfl, rfl, FrN.rf⟩
      · rw [e4, Option.bind_some, if_pos rfl, if_neg e1, if_neg (show ¬ x3 ≤ (10 : Int32) from e2)]
        exact ⟨_, _, _, rfl, rfl, FrN.rf⟩
    · rw [d4, Option.bind_some, if_pos rfl, if_pos d1]
      exact ⟨_, _, _, rfl, rfl, FrN.rf⟩
    · rw [d4, Option.bind_some, if_pos rfl, if_neg d1, if_pos (show (20 : Int32) < x2 from d3)]
      exact ⟨_, _, _, rfl, rfl, FrN.rf⟩
  · rw [c1, c2, Option.bind_some, Option.bind_some, if_pos rfl, if_pos rfl]
    exact ⟨_, _, _, rfl, rfl, FrN.rf⟩
end Ill
