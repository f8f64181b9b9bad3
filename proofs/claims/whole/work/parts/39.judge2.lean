theorem in1_cases (x : Int32) (n : Nat) (hn : n < 1000) (ML : Int64) (hML : ML.toInt = (n : Int)) :
    (∃ j, 1 ≤ j ∧ j ≤ n ∧ x = nI j ∧ ¬ x < 1 ∧ x ≤ nI n ∧ ¬ nI n < x ∧ f_X7_in (Int32.toInt64 x) 1 ML = some 1) ∨ (x < 1 ∧ f_X7_in (Int32.toInt64 x) 1 ML = some 0) ∨ (¬ x < 1 ∧ ¬ x ≤ nI n ∧ nI n < x ∧ f_X7_in (Int32.toInt64 x) 1 ML = some 0) := by
  rw [x7_in, Int32.toInt_toInt64, hML]
  have e0 : (1 : Int64).toInt = 1 := by decide
  have f0 : (1 : Int32).toInt = 1 := by decide
  have f1 : (nI n).toInt = (n : Int) := nI_toInt (by omega)
  rw [e0, Int32.lt_iff_toInt_lt, Int32.le_iff_toInt_le, Int32.lt_iff_toInt_lt, f0, f1]
  by_cases h : x.toInt < 1
  · exact Or.inr (Or.inl ⟨h, congrArg some (if_neg (by omega))⟩)
  · by_cases h2 : x.toInt ≤ n
    · refine Or.inl ⟨x.toInt.toNat, by omega, by omega, ?_, h, h2, by omega, congrArg some (if_pos (by omega))⟩
      apply Int32.toInt_inj.mp
      rw [nI_toInt (by omega)]; omega
    · exact Or.inr (Or.inr ⟨h, h2, by omega, congrArg some (if_neg (by omega))⟩)
theorem nzl_n {α : Type} {y : Int64} (h : y ≠ 0) (k : Option α) : nzl y k = k := by rw [nzl, if_neg h]
theorem thou_fin : ∀ k, k < 5 → f_X7_thousandTo (nI k) = some (lN (1000 ^ k)) ∧ lN (1000 ^ k) ≠ 0 := by decide +kernel
theorem nsub_fin : ∀ n, n < 5 → ∀ k, k < n → (nI n - 1) - nI k = nI (n - 1 - k) := by decide +kernel
theorem three_n (n : Nat) : (3 : Int32) * nI n = nI (3 * n) := pk_mul 3 n
theorem lg_eq0 (x : Int64) : lg_cmp x 0 = 0 ↔ x.toInt = 0 := by
  have e0 : (0 : Int64).toInt = 0 := by decide
  have h1 := lg_neg x 0
  have h2 := lg_pos x 0
  rw [e0] at h1 h2
  have f0 : (0 : Int32).toInt = 0 := by decide
  rw [Int32.lt_iff_toInt_lt, f0] at h1 h2
  rw [← Int32.toInt_inj, f0]
  omega
/-- so many figures at most -/
theorem x_figs (x2 : Int64) {n : Nat} (hn : n ≤ 4) :
    (∃ m : Nat, m < 2 ^ 63 ∧ x2 = lN m ∧ f_X6_hasFiguresAtMost x2 (nI (3 * n)) = some 1 ∧ f_X7_in x2 0 (lN (1000 ^ n) - 1) = some 1) ∨ (f_X6_hasFiguresAtMost x2 (nI (3 * n)) = some 0 ∧ f_X7_in x2 0 (lN (1000 ^ n) - 1) = some 0) := by
  have e0 : (0 : Int64).toInt = 0 := by decide
  have hp : ∀ n, n < 5 → 1 ≤ 1000 ^ n ∧ 1000 ^ n < 2 ^ 63 ∧ 1000 ^ n = 10 ^ (3 * n) := by decide +kernel
  obtain ⟨p1, p2, p3⟩ := hp n (by omega)
  have e1 : (lN (1000 ^ n) - 1).toInt = ((1000 ^ n - 1 : Nat) : Int) := by
    rw [show lN (1000 ^ n) - 1 = lN (1000 ^ n - 1) from lN_sub (b := 1) p1]
    exact pk_lT (by omega)
  have loop : ∃ x3, (∀ m, m < 2 ^ 63 → x2 = lN m → x3 = lN (m / 10 ^ (3 * n))) ∧ f_X6_hasFiguresAtMost x2 (nI (3 * n)) = f_X6_hasFiguresAtMost_23 x2 x3 := by
    unfold f_X6_hasFiguresAtMost
    refine loop1 (st := g_X6_hasFiguresAtMost_5 x2 (nI (3 * n))) (3 * n) (fun k s => s.2 = nI k ∧ ∀ m, m < 2 ^ 63 → x2 = lN m → s.1 = lN (m / 10 ^ k)) (fun o => ∃ x3, (∀ m, m < 2 ^ 63 → x2 = lN m → x3 = lN (m / 10 ^ (3 * n))) ∧ o = f_X6_hasFiguresAtMost_23 x2 x3) ?_ ?_ 100 0 _ (Nat.zero_le _) (by omega) ⟨rfl, fun m _ e => by rw [Nat.pow_zero, Nat.div_one]; exact e⟩
    · rintro k ⟨x3, x5⟩ hk ⟨e, h⟩
      dsimp only at e h
      subst e
      left
      refine ⟨(x3 / 10, nI (k + 1)), ⟨rfl, fun m hm em => ?_⟩, fun q => ?_⟩
      · dsimp only
        rw [h m hm em, show (10 : Int64) = lN 10 from rfl, pk_lDiv (Nat.lt_of_le_of_lt (Nat.div_le_self _ _) hm) (by decide) (by decide), Nat.div_div_eq_div_mul, ← Nat.pow_succ]
      · simp only [g_X6_hasFiguresAtMost_5, f_X6_hasFiguresAtMost_5, if_neg (lt_le hk (show 3 * n < 2 ^ 31 by omega)), nzl_n (show (10 : Int64) ≠ 0 by decide), nI_1]
    · rintro ⟨x3, x5⟩ ⟨e, h⟩ q
      dsimp only at e h
      subst e
      refine ⟨x3, h, ?_⟩
      simp only [g_X6_hasFiguresAtMost_5, f_X6_hasFiguresAtMost_5, if_pos (nI_le (Nat.le_refl (3 * n)) (show 3 * n < 2 ^ 31 by omega))]
  obtain ⟨x3, l1, l2⟩ := loop
  rw [l2, x7_in, e0, e1]
  unfold f_X6_hasFiguresAtMost_23
  by_cases h0 : x2.toInt < 0
  · right
    rw [if_pos ((lg_neg x2 0).mpr (by rw [e0]; exact h0)), if_neg (by omega)]
    exact ⟨rfl, rfl⟩
  · rw [if_neg (fun q => h0 (by have := (lg_neg x2 0).mp q; rw [e0] at this; exact this))]
    obtain ⟨m, hm, em⟩ := pk_lOf (x := x2) (fun q => h0 (by rw [Int64.lt_iff_toInt_lt, e0] at q; exact q))
    have hx3 := l1 m hm em
    have hmT : x2.toInt = (m : Int) := by rw [em]; exact pk_lT hm
    have hx3T : x3.toInt = ((m / 10 ^ (3 * n) : Nat) : Int) := by rw [hx3]; exact pk_lT (Nat.lt_of_le_of_lt (Nat.div_le_self _ _) hm)
    by_cases h1 : m < 1000 ^ n
    · left
      refine ⟨m, hm, em, ?_, ?_⟩
      · rw [if_pos ((lg_eq0 x3).mpr (by rw [hx3T, ← p3, Nat.div_eq_of_lt h1]; rfl))]
      · rw [if_pos (by omega)]
    · right
      have hd : 0 < m / 10 ^ (3 * n) := by rw [← p3]; exact Nat.div_pos (by omega) (by omega)
      refine ⟨?_, ?_⟩
      · rw [if_neg (fun q => by have := (lg_eq0 x3).mp q; omega)]
      · rw [if_neg (by omega)]
theorem c_doing {m k : Nat} (hm : m < 2 ^ 63) (hk : k ≤ 4) : f_X2_doingAheadOf (nI k) (lN m) = some (nI (m / 1000 ^ k % 1000)) := by
  unfold f_X2_doingAheadOf
  refine loop1 (st := g_X2_doingAheadOf_5 (nI k)) k (fun j s => s = (lN (m / 1000 ^ j), nI j)) (fun o => o = some (nI (m / 1000 ^ k % 1000))) ?_ ?_ 100 0 _ (Nat.zero_le _) (by omega) (by rw [Nat.pow_zero, Nat.div_one]; rfl)
  · rintro j s hj e
    subst e
    left
    refine ⟨_, rfl, fun q => ?_⟩
    simp only [g_X2_doingAheadOf_5, f_X2_doingAheadOf_5, if_neg (lt_le hj (show k < 2 ^ 31 by omega)), nzl_n (show (1000 : Int64) ≠ 0 by decide), nI_1]
    rw [show (1000 : Int64) = lN 1000 from rfl, pk_lDiv (Nat.lt_of_le_of_lt (Nat.div_le_self _ _) hm) (by decide) (by decide), Nat.div_div_eq_div_mul, ← Nat.pow_succ]
  · rintro s e q
    subst e
    simp only [g_X2_doingAheadOf_5, f_X2_doingAheadOf_5, f_X2_doingAheadOf_23, if_pos (nI_le (Nat.le_refl k) (show k < 2 ^ 31 by omega)), nzl_n (show (1000 : Int64) ≠ 0 by decide)]
    unfold ljrem
    rw [show (1000 : Int64) = lN 1000 from rfl, pk_lRem (Nat.lt_of_le_of_lt (Nat.div_le_self _ _) hm) (by decide) (by decide), lN_i]
section Judge2
variable {B F Lp C i j l n lv base : Nat} {hours first kind post error round first2 kind2 begins error2 : Nat → Int32} {pl kn lf now : Nat → Int32} {du ck : Int32}
/-- JUDGE -/
theorem x_judge (hP : PR B F Lp hours first kind post error round first2 kind2 begins error2) (hM : MR B F Lp C 0 hours kind pl kn lf du ck now) (hC : C + 4 ≤ 1000) (g1 g2 g3 : Nat → Int32) (z1 z2 x1 : Int32) (x2 : Int64) :
    ∃ v r now1, f_X6_judge (nI B) (nI F) (nI Lp) hours first kind post error pl kn lf du ck g1 g2 g3 z1 z2 x1 x2 = some (v, r) ∧ f_X7_judge (nI B) (nI F) (nI Lp) round first2 kind2 begins error2 now x1 x2 = some (v, now1) ∧ FrN (17 * 1) now now1 := by
  have h5 := hP.F5
  have n10 : ¬ (1 : Int32) = 0 := by decide
  unfold f_X6_judge f_X7_judge
  rcases in1_cases x1 4 (by decide) 4 (by decide) with ⟨n, hn1, hn, rfl, d1, d2, d3, d4⟩ | ⟨d1, d4⟩ | ⟨d1, d2, d3, d4⟩
  · rw [d4, Option.bind_some, if_neg n10, if_neg d1, if_neg (show ¬ (4 : Int32) < nI n from d3), three_n, (thou_fin n (by omega)).1, Option.bind_some]
    rcases x_figs x2 hn with ⟨m, hm, rfl, f1, f2⟩ | ⟨f1, f2⟩
    · rw [f1, f2, Option.bind_some, Option.bind_some, if_neg n10, if_neg n10, x7_layTrial, Option.bind_some]
      have key : ∃ v r now1, f_X2_firstWrong (nI B) (nI F) (nI Lp) hours first kind post error pl kn lf du ck g1 g2 g3 (nI n) (lN m) = some (v, r) ∧ loopN (g_X7_judge_36 (nI B) (nI F) (nI Lp) round first2 kind2 begins error2 (nI n) (lN m)) 100 (0, va_cpy now now 0 17 17) = some (v, now1) ∧ FrN (17 * 1) now now1 := by
        unfold f_X2_firstWrong
        rw [x2_start, Option.bind_some]
        refine loop2 (st1 := g_X2_firstWrong_7 (nI B) (nI F) (nI Lp) hours first kind post error (nI n) (lN m)) (st2 := g_X7_judge_36 (nI B) (nI F) (nI Lp) round first2 kind2 begins error2 (nI n) (lN m)) n (fun k s1 s2 => s1.1 = nI k ∧ s2.1 = nI k ∧ MR B F Lp (C + k) (17 * 1) hours kind s1.2.1 s1.2.2.1 s1.2.2.2.1 s1.2.2.2.2.1 s1.2.2.2.2.2 s2.2 ∧ FrN (17 * 1) now s2.2) (fun o1 o2 => ∃ v r now1, o1 = some (v, r) ∧ o2 = some (v, now1) ∧ FrN (17 * 1) now now1) ?_ ?_ 100 100 0 _ _ (Nat.zero_le _) (by omega) (by omega) ⟨rfl, rfl, trial_MR hM h5 g1 g2 g3, Fr_lay⟩
        · rintro k ⟨x, pl, kn, lf, du, ck⟩ ⟨x', now1⟩ hk ⟨e1, e2, hM, hF⟩
          dsimp only at e1 e2 hM hF
          subst e1; subst e2
          have hlt := lt_le hk (show n < 2 ^ 31 by omega)
          obtain ⟨v, pl1, kn1, lf1, du1, ck1, now2, hv, r1, r2, r3, r4⟩ := x_happens hP hM (by omega) (t := m / 1000 ^ (n - 1 - k) % 1000) (Nat.mod_lt _ (by decide))
          have hth := thou_fin (n - 1 - k) (by omega)
          have hp : ∀ n, n < 5 → 0 < 1000 ^ n ∧ 1000 ^ n < 2 ^ 63 := by decide +kernel
          obtain ⟨hp1, hp2⟩ := hp (n - 1 - k) (by omega)
          have ht3 : Int64.toInt32 (ljrem (lN m / lN (1000 ^ (n - 1 - k))) 1000) = nI (m / 1000 ^ (n - 1 - k) % 1000) := by
            unfold ljrem
            rw [pk_lDiv hm hp1 hp2, show (1000 : Int64) = lN 1000 from rfl, pk_lRem (Nat.lt_of_le_of_lt (Nat.div_le_self _ _) hm) (by decide) (by decide), lN_i]
          have hr := Nat.mod_lt (m / 1000 ^ (n - 1 - k)) (show 1000 > 0 by decide)
          generalize m / 1000 ^ (n - 1 - k) % 1000 = t at *
          have e100 : nI t / 100 = nI (t / 100) := pk_div (d := 100) (by omega) (by decide) (by decide)
          have e10 : nI t / 10 = nI (t / 10) := pk_div (d := 10) (by omega) (by decide) (by decide)
          have er : jrem (nI (t / 10)) 10 = nI (t / 10 % 10) := jrem_n (b := 10) (by omega) (by decide) (by decide)
          have er2 : jrem (nI t) 10 = nI (t % 10) := jrem_n (b := 10) (by omega) (by decide) (by decide)
          have cd : f_X2_doingAheadOf (nI (n - 1 - k)) (lN m) = some (nI t) := by
            rw [c_doing hm (by omega)]
            congr 1
            have h3 : Int64.toInt32 (ljrem (lN m / lN (1000 ^ (n - 1 - k))) 1000) = nI (m / 1000 ^ (n - 1 - k) % 1000) := by
              unfold ljrem
              rw [pk_lDiv hm hp1 hp2, show (1000 : Int64) = lN 1000 from rfl, pk_lRem (Nat.lt_of_le_of_lt (Nat.div_le_self _ _) hm) (by decide) (by decide), lN_i]
            rw [← h3, ht3]
          rcases hv with q | q
          · subst q
            right
            intro k1 k2
            refine ⟨nI k, (pl1, kn1, lf1, du1, ck1), now2, ?_, ?_, hF.tr r4⟩
            · simp only [g_X2_firstWrong_7, f_X2_firstWrong_7, if_neg hlt, nsub_fin n (by omega) k hk, cd, r1, Option.bind_some, if_true]
            · simp only [g_X7_judge_36, f_X7_judge_36, if_neg hlt, nsub_fin n (by omega) k hk, hth.1, nzl_n hth.2, nzl_n (show (1000 : Int64) ≠ 0 by decide), nz100, nz10, ht3, e100, e10, er, er2, r2, Option.bind_some, if_true]
          · subst q
            left
            refine ⟨(nI (k + 1), pl1, kn1, lf1, du1, ck1), (nI (k + 1), now2), ⟨rfl, rfl, r3 rfl, hF.tr r4⟩, fun k1 => ?_, fun k2 => ?_⟩
            · simp only [g_X2_firstWrong_7, f_X2_firstWrong_7, if_neg hlt, nsub_fin n (by omega) k hk, cd, r1, Option.bind_some, if_neg n10, nI_1]
            · simp only [g_X7_judge_36, f_X7_judge_36, if_neg hlt, nsub_fin n (by omega) k hk, hth.1, nzl_n hth.2, nzl_n (show (1000 : Int64) ≠ 0 by decide), nz100, nz10, ht3, e100, e10, er, er2, r2, Option.bind_some, if_neg n10, nI_1]
        · rintro ⟨x, pl, kn, lf, du, ck⟩ ⟨x', now1⟩ ⟨e1, e2, hM, hF⟩ k1 k2
          dsimp only at e1 e2 hM hF
          subst e1; subst e2
          have hle := nI_le (Nat.le_refl n) (show n < 2 ^ 31 by omega)
          refine ⟨-9, (pl, kn, lf, du, ck), now1, ?_, ?_, hF⟩
          · simp only [g_X2_firstWrong_7, f_X2_firstWrong_7, if_pos hle]
          · simp only [g_X7_judge_36, f_X7_judge_36, if_pos hle]
      obtain ⟨v, ⟨p1, p2, p3, p4, p5⟩, now1, k1, k2, k3⟩ := key
      rw [k1, k2, Option.bind_some]
      exact ⟨_, _, _, rfl, rfl, k3⟩
    · rw [f1, f2, Option.bind_some, Option.bind_some, if_pos rfl, if_pos rfl]
      exact ⟨_, _, _, rfl, rfl, FrN.rf⟩
  · rw [d4, Option.bind_some, if_pos rfl, if_pos d1]
    exact ⟨_, _, _, rfl, rfl, FrN.rf⟩
  · rw [d4, Option.bind_some, if_pos rfl, if_neg d1, if_pos (show (4 : Int32) < x1 from d3)]
    exact ⟨_, _, _, rfl, rfl, FrN.rf⟩
theorem lt9 (x : Int32) : x < 9 ↔ x ≤ 8 := by
  rw [Int32.lt_iff_toInt_lt, Int32.le_iff_toInt_le, show (9 : Int32).toInt = 9 by decide, show (8 : Int32).toInt = 8 by decide]; omega
theorem lt5 (x : Int32) : x < 5 ↔ x ≤ 4 := by
  rw [Int32.lt_iff_toInt_lt, Int32.le_iff_toInt_le, show (5 : Int32).toInt = 5 by decide, show (4 : Int32).toInt = 4 by decide]; omega
theorem xor0 {d : Nat} (hd : d < 16) : nI d ^^^ 0 = nI d := by
  have h : ∀ d, d < 16 → nI d ^^^ 0 = nI d := by decide +kernel
  exact h d hd
/-- DECADES -/
theorem x_decades (hP : PR B F Lp hours first kind post error round first2 kind2 begins error2) (hM : MR B F Lp C 0 hours kind pl kn lf du ck now) (hC : C + 30 ≤ 1000) (g1 g2 g3 : Nat → Int32) (z1 z2 x1 : Int32) (sd : Int64) :
    ∃ v sd1 r now1, f_X6_decades sd (nI B) (nI F) (nI Lp) hours first kind post error pl kn lf du ck g1 g2 g3 z1 z2 x1 = some (v, sd1, r) ∧ f_X7_decades (nI B) (nI F) (nI Lp) round first2 kind2 begins error2 now sd x1 = some (v, now1, sd1) ∧ FrN (17 * 1) now now1 := by
  have h5 := hP.F5
  have n10 : ¬ (1 : Int32) = 0 := by decide
  unfold f_X6_decades f_X7_decades
  rcases in1_cases x1 30 (by decide) 30 (by decide) with ⟨n, hn1, hn, rfl, d1, d2, d3, d4⟩ | ⟨d1, d4⟩ | ⟨d1, d2, d3, d4⟩
  · rw [d4, Option.bind_some, if_neg n10, if_neg d1, if_pos (show nI n ≤ (30 : Int32) from d2), x7_layTrial, Option.bind_some, x2_start, Option.bind_some]
    dsimp only
    refine loop2 (st1 := g_X6_decades_25 (nI B) (nI F) (nI Lp) hours first kind post error (va_cpy pl g1 0 0 5) (nI n)) (st2 := g_X7_decades_23 (nI B) (nI F) (nI Lp) round first2 kind2 begins error2 (nI n)) n (fun k s1 s2 => s1.1 = s2.1 ∧ s1.2.1 = nI k ∧ s2.2.1 = nI k ∧ s1.2.2.1 = s2.2.2.2 ∧ MR B F Lp (C + k) (17 * 1) hours kind (va_cpy pl g1 0 0 5) s1.2.2.2.1 s1.2.2.2.2.1 s1.2.2.2.2.2.1 s1.2.2.2.2.2.2 s2.2.2.1 ∧ FrN (17 * 1) now s2.2.2.1) (fun o1 o2 => ∃ v sd1 r now1, o1 = some (v, sd1, r) ∧ o2 = some (v, now1, sd1) ∧ FrN (17 * 1) now now1) ?_ ?_ 100 100 0 _ _ (Nat.zero_le _) (by omega) (by omega) ⟨rfl, rfl, rfl, rfl, trial_MR hM h5 g1 g2 g3, Fr_lay⟩
    · rintro k ⟨x, y, sd, kn, lf, du, ck⟩ ⟨x', y', now1, sd'⟩ hk ⟨e1, e2, e3, e4, hM, hF⟩
      dsimp only at e1 e2 e3 e4 hM hF
      subst e1; subst e2; subst e3; subst e4
      left
      have hlt := lt_le hk (show n < 2 ^ 31 by omega)
      have h24 : (24 : Int64) ≠ 0 := by decide
      generalize hS : sd * 6364136223846793005 + 1442695040888963407 = S
      generalize hv : Int64.toInt32 (ljrem (ljushr S 33) 24) = v
      have fin : ∀ {kn1 lf1 : Nat → Int32} {du1 ck1 : Int32} {now2 : Nat → Int32}, MR B F Lp (C + (k + 1)) (17 * 1) hours kind (va_cpy pl g1 0 0 5) kn1 lf1 du1 ck1 now2 → ∃ p, f_X2_draw_38 (nI F) first kn1 lf1 du1 ck1 = some (p, kn1, lf1, du1, ck1) ∧ ∀ k23, f_X7_decades_121 k23 (nI F) first2 now2 S x (nI k) = k23 (x + p, nI (k + 1), now2, S) := by
        intro kn1 lf1 du1 ck1 now2 hM2
        have hX := bitsN_32 (fun i => decide (kn1 i = first i)) h5
        have hpop := pop_fin _ hX
        have hk1 : f_X7_knowing (nI F) first2 now2 1 1 = _ := x7_knowing1 (lv := 1) hP hM2 (Nat.le_refl 1)
        refine ⟨nI (popN (bitsN (fun i => decide (kn1 i = first i)) F)), ?_, fun k23 => ?_⟩
        · unfold f_X2_draw_38
          rw [x1_knowingFirst h5, Option.bind_some, hpop.1, Option.bind_some]
        · unfold f_X7_decades_121
          rw [hk1, Option.bind_some, hpop.2.1, Option.bind_some, nI_1]
      by_cases q9 : v ≤ 8
      · by_cases q5 : v ≤ 4
        · -- water
          rcases bowl_cases hP.B5 v with ⟨b, hb, eb, b1, b2⟩ | ⟨hne, b1, b2⟩
          · obtain ⟨w, kn1, lf1, now2, w1, w2, w3, w4⟩ := x_water (lv := 1) hP hM (Nat.le_refl 1) v
            have w2' : f_X7_waterOn (nI F) kind2 now1 1 v = some (w, now2) := w2
            obtain ⟨p, p1, p2⟩ := fin (w3.mono h5 (by omega))
            refine ⟨(x + p, nI (k + 1), S, kn1, lf1, du, ck), (x + p, nI (k + 1), now2, S), ⟨rfl, rfl, rfl, rfl, w3.mono h5 (by omega), hF.tr w4⟩, fun k1 => ?_, fun k2 => ?_⟩
            · simp only [g_X6_decades_25, f_X6_decades_25, f_X2_draw, f_X2_waterIsChanged, if_neg hlt, nzl_n h24, hS, hv, if_pos ((lt9 v).mpr q9), if_pos ((lt5 v).mpr q5), b1, Option.bind_some, if_neg n10, w1, bz1, p1, nI_1]
            · simp only [g_X7_decades_23, f_X7_decades_23, if_neg hlt, nzl_n h24, hS, hv, if_pos q9, if_pos q5, w2', Option.bind_some, p2]
          · have w2' : f_X7_waterOn (nI F) kind2 now1 1 v = some (0, now1) := w_none (lv := 1) hP hM (Nat.le_refl 1) hne
            obtain ⟨p, p1, p2⟩ := fin (hM.mono h5 (by omega))
            refine ⟨(x + p, nI (k + 1), S, kn, lf, du, ck), (x + p, nI (k + 1), now1, S), ⟨rfl, rfl, rfl, rfl, hM.mono h5 (by omega), hF⟩, fun k1 => ?_, fun k2 => ?_⟩
            · simp only [g_X6_decades_25, f_X6_decades_25, f_X2_draw, f_X2_waterIsChanged, if_neg hlt, nzl_n h24, hS, hv, if_pos ((lt9 v).mpr q9), if_pos ((lt5 v).mpr q5), b1, Option.bind_some, if_true, bz0, p1, nI_1]
            · simp only [g_X7_decades_23, f_X7_decades_23, if_neg hlt, nzl_n h24, hS, hv, if_pos q9, if_pos q5, w2', Option.bind_some, p2]
        · -- duty
          have q5' : ¬ v < 5 := fun q => q5 ((lt5 v).mp q)
          obtain ⟨d, hdl, hd⟩ := hM.2.2.2.1
          have hd16 := pow_le16 hP.L4 hdl
          have h32 : now1 32 = du := hM.2.1
          rcases lip_cases (n := Lp) (by have := hP.L4; omega) (v - 5) with ⟨l, hl, el, b1, b2⟩ | ⟨-, b1, b2⟩
          · have hx := xor_fin d hd16 l (by have := hP.L4; omega)
            have hM2 := (MR_dutyB hM h5 (xor_lt hdl hl)).mono (C2 := C + (k + 1)) h5 (by omega)
            obtain ⟨p, p1, p2⟩ := fin hM2
            have p2' : ∀ k23, f_X7_decades_121 k23 (nI F) first2 (upd now1 32 (nI (d ^^^ 2 ^ l))) S x (nI k) = k23 (x + p, nI (k + 1), upd now1 32 (nI (d ^^^ 2 ^ l)), S) := p2
            rw [el] at b1 b2
            refine ⟨(x + p, nI (k + 1), S, kn, lf, nI (d ^^^ 2 ^ l), ck), (x + p, nI (k + 1), upd now1 32 (nI (d ^^^ 2 ^ l)), S), ⟨rfl, rfl, rfl, rfl, hM2, hF.tr Fr32⟩, fun k1 => ?_, fun k2 => ?_⟩
            · simp only [g_X6_decades_25, f_X6_decades_25, f_X2_draw, f_X2_dutyTurns, f_X1_turn, if_neg hlt, nzl_n h24, hS, hv, if_pos ((lt9 v).mpr q9), if_neg q5', el, b1, Option.bind_some, if_neg n10, bz1, hd, hx, p1, nI_1]
            · simp only [g_X7_decades_23, f_X7_decades_23, f_X7_decades_108, if_neg hlt, nzl_n h24, hS, hv, if_pos q9, if_neg q5, r32, el, b2, Option.bind_some, if_neg n10, i32, cl32, h32, hd, hx, p2']
          · obtain ⟨p, p1, p2⟩ := fin (hM.mono h5 (by omega))
            have hup : upd now1 32 (nI d) = now1 := by rw [← hd, ← h32]; exact upd_same now1 32
            refine ⟨(x + p, nI (k + 1), S, kn, lf, du, ck), (x + p, nI (k + 1), now1, S), ⟨rfl, rfl, rfl, rfl, hM.mono h5 (by omega), hF⟩, fun k1 => ?_, fun k2 => ?_⟩
            · simp only [g_X6_decades_25, f_X6_decades_25, f_X2_draw, f_X2_dutyTurns, if_neg hlt, nzl_n h24, hS, hv, if_pos ((lt9 v).mpr q9), if_neg q5', b1, Option.bind_some, if_true, bz0, p1, nI_1]
            · simp only [g_X7_decades_23, f_X7_decades_23, f_X7_decades_108, if_neg hlt, nzl_n h24, hS, hv, if_pos q9, if_neg q5, r32, b2, Option.bind_some, if_true, i32, cl32, h32, hd, xor0 hd16, hup, p2]
      · have q9' : ¬ v < 9 := fun q => q9 ((lt9 v).mp q)
        obtain ⟨kn1, lf1, now2, r1, r2, r3, r4⟩ := x_pass1 hP hM (by omega)
        obtain ⟨p, p1, p2⟩ := fin r3
        refine ⟨(x + p, nI (k + 1), S, kn1, lf1, du, ck + 1), (x + p, nI (k + 1), now2, S), ⟨rfl, rfl, rfl, rfl, r3, hF.tr r4⟩, fun k1 => ?_, fun k2 => ?_⟩
        · simp only [g_X6_decades_25, f_X6_decades_25, f_X2_draw, if_neg hlt, nzl_n h24, hS, hv, if_neg q9', r1, Option.bind_some, p1, nI_1]
        · simp only [g_X7_decades_23, f_X7_decades_23, if_neg hlt, nzl_n h24, hS, hv, if_neg q9, r2, Option.bind_some, p2]
    · rintro ⟨x, y, sd, kn, lf, du, ck⟩ ⟨x', y', now1, sd'⟩ ⟨e1, e2, e3, e4, hM, hF⟩ k1 k2
      dsimp only at e1 e2 e3 e4 hM hF
      subst e1; subst e2; subst e3; subst e4
      have hle := nI_le (Nat.le_refl n) (show n < 2 ^ 31 by omega)
      refine ⟨x, sd, (va_cpy pl g1 0 0 5, kn, lf, du, ck), now1, ?_, ?_, hF⟩
      · simp only [g_X6_decades_25, f_X6_decades_25, if_pos hle]
      · simp only [g_X7_decades_23, f_X7_decades_23, if_pos hle]
  · rw [d4, Option.bind_some, if_pos rfl, if_pos d1]
    exact ⟨_, _, _, _, rfl, rfl, FrN.rf⟩
  · rw [d4, Option.bind_some, if_pos rfl, if_neg d1, if_neg (show ¬ x1 ≤ (30 : Int32) from d2)]
    exact ⟨_, _, _, _, rfl, rfl, FrN.rf⟩
end Judge2
