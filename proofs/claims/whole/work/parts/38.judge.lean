section Judge
variable {B F Lp C i j l n lv base : Nat} {hours first kind post error round first2 kind2 begins error2 : Nat → Int32} {pl kn lf now : Nat → Int32} {du ck : Int32}
theorem nz100 {α : Type} (k : Option α) : nz 100 k = k := nz_n (by decide) k
theorem ite_c {α : Type} {a b : Nat} (ha : a < 2 ^ 31) (hb : b < 2 ^ 31) (x y : α) : (if nI a = nI b then x else y) = if a = b then x else y := by
  by_cases h : a = b
  · rw [if_pos h, if_pos (congrArg nI h)]
  · rw [if_neg h, if_neg (fun q => h ((nI_eq ha hb).mp q))]
/-- a told doing, tried -/
theorem x_happens (hP : PR B F Lp hours first kind post error round first2 kind2 begins error2) (hM : MR B F Lp C (17 * 1) hours kind pl kn lf du ck now) (hC : C ≤ 1000) {t : Nat} (ht : t < 1000) :
    ∃ v pl1 kn1 lf1 du1 ck1 now1, (v = 0 ∨ v = 1) ∧ f_X2_happens (nI B) (nI F) (nI Lp) hours first kind post error pl kn lf du ck (nI t) = some (v, pl1, kn1, lf1, du1, ck1) ∧ f_X7_tryThing (nI B) (nI F) (nI Lp) round first2 kind2 begins error2 now (nI (t / 100)) (nI (t / 10 % 10)) (nI (t % 10)) = some (v, now1) ∧ (v = 1 → MR B F Lp (C + 1) (17 * 1) hours kind pl1 kn1 lf1 du1 ck1 now1) ∧ FrN (17 * 1) now now1 := by
  have h5 := hP.F5
  have n10 : ¬ (1 : Int32) = 0 := by decide
  have e100 : nI t / 100 = nI (t / 100) := pk_div (d := 100) (by omega) (by decide) (by decide)
  have e10 : nI t / 10 = nI (t / 10) := pk_div (d := 10) (by omega) (by decide) (by decide)
  have er : jrem (nI (t / 10)) 10 = nI (t / 10 % 10) := jrem_n (b := 10) (by omega) (by decide) (by decide)
  have er2 : jrem (nI t) 10 = nI (t % 10) := jrem_n (b := 10) (by omega) (by decide) (by decide)
  unfold f_X2_happens f_X7_tryThing
  rw [nz10, nz10, nz10, nz100, e100, e10, er, er2]
  have hq : t / 100 < 10 := by omega
  by_cases c0 : t / 100 = 0
  · rw [c0, if_pos (show nI 0 = 0 from rfl), if_pos (show nI 0 = 0 from rfl)]
    obtain ⟨kn1, lf1, now1, r1, r2, r3, r4⟩ := x_pass1 hP hM hC
    rw [r2, Option.bind_some]
    by_cases t0 : t = 0
    · subst t0
      refine ⟨1, pl, kn1, lf1, du, ck + 1, now1, Or.inr rfl, ?_, ?_, fun _ => r3, r4⟩
      · unfold f_X2_hourPasses
        rw [if_pos (show nI 0 = 0 from rfl), r1, Option.bind_some, Option.bind_some]
        dsimp only
        rw [if_neg n10]
      · rw [if_pos (show nI (0 / 10 % 10) = 0 from rfl), if_pos (show nI (0 % 10) = 0 from rfl)]
    · refine ⟨0, pl, kn, lf, du, ck, now1, Or.inl rfl, ?_, ?_, fun q => absurd q (by decide), r4⟩
      · rw [if_neg (nI_ne0 (by omega) (by omega))]
      · by_cases q1 : t / 10 % 10 = 0
        · rw [q1, if_pos (show nI 0 = 0 from rfl), if_neg (nI_ne0 (by omega) (by omega))]
        · rw [if_neg (nI_ne0 (by omega) (by omega))]
  · have k0 : ¬ nI (t / 100) = 0 := nI_ne0 (by omega) (by omega)
    rw [if_neg k0, if_neg k0]
    by_cases c1 : t / 100 = 1
    · rw [c1, if_pos (show nI 1 = 1 from rfl), if_pos (show nI 1 = 1 from rfl)]
      unfold f_X2_isMoved
      rcases is_cases h5 (nI (t / 10 % 10)) with ⟨i, hi, ei, a1, a2⟩ | ⟨-, a1, a2⟩
      · rw [a1, Option.bind_some, if_neg n10, ei]
        rcases bowl_cases hP.B5 (nI (t % 10)) with ⟨b, hb, eb, b1, b2⟩ | ⟨-, b1, b2⟩
        · rw [b1, Option.bind_some, if_neg n10, eb]
          obtain ⟨w, hw, m1, m2⟩ := x_can (lv := 1) hP hM (Nat.le_refl 1) hi hb
          have m2' : f_X7_canMove (nI B) (nI F) now 1 (nI i) (nI b) = some w := m2
          rw [m1, m2', Option.bind_some, Option.bind_some]
          rcases hw with q | q
          · subst q
            rw [if_pos rfl, if_pos rfl, bz0]
            unfold f_X2_isMoved_38 f_X2_isMoved_39
            rw [if_pos rfl, bz0, Option.bind_some]
            dsimp only
            rw [bz0]
            exact ⟨0, pl, kn, lf, du, ck, now, Or.inl rfl, rfl, rfl, fun q => absurd q (by decide), FrN.rf⟩
          · subst q
            rw [if_neg n10, if_neg n10]
            obtain ⟨w, now1, p1, p2, p3, p4⟩ := x_put (lv := 1) hP hM (Nat.le_refl 1) hi hb
            have p2' : f_X7_moveOn round kind2 now 1 (nI i) (nI b) = some now1 := p2
            unfold f_X2_isMoved_39
            rw [if_neg n10, p1, p2', Option.bind_some, Option.bind_some, bz1, bz1, Option.bind_some]
            dsimp only
            rw [bz1]
            exact ⟨1, _, _, _, _, _, now1, Or.inr rfl, rfl, rfl, fun _ => p3.mono h5 (by omega), p4⟩
        · have m2 : f_X7_canMove (nI B) (nI F) now 1 (nI i) (nI (t % 10)) = some 0 := by
            unfold f_X7_canMove
            rw [← ei, a2, Option.bind_some, if_neg n10, b2, Option.bind_some, if_pos rfl]
          rw [b1, m2, Option.bind_some, Option.bind_some, if_pos rfl, if_pos rfl, bz0]
          unfold f_X2_isMoved_38 f_X2_isMoved_39
          rw [if_pos rfl, bz0, Option.bind_some]
          dsimp only
          rw [bz0]
          exact ⟨0, pl, kn, lf, du, ck, now, Or.inl rfl, rfl, rfl, fun q => absurd q (by decide), FrN.rf⟩
      · have m2 : f_X7_canMove (nI B) (nI F) now 1 (nI (t / 10 % 10)) (nI (t % 10)) = some 0 := by
          unfold f_X7_canMove
          rw [a2, Option.bind_some, if_pos rfl]
        rw [a1, m2, Option.bind_some, Option.bind_some, if_pos rfl, if_pos rfl, bz0]
        unfold f_X2_isMoved_38 f_X2_isMoved_39
        rw [if_pos rfl, bz0, Option.bind_some]
        dsimp only
        rw [bz0]
        exact ⟨0, pl, kn, lf, du, ck, now, Or.inl rfl, rfl, rfl, fun q => absurd q (by decide), FrN.rf⟩
    · have k1 : ¬ nI (t / 100) = 1 := fun q => c1 ((nI_eq (b := 1) (by omega) (by decide)).mp q)
      rw [if_neg k1, if_neg k1]
      by_cases c2 : t / 100 = 2
      · rw [c2, if_pos (show nI 2 = 2 from rfl), if_pos (show nI 2 = 2 from rfl)]
        unfold f_X7_tryThing_95
        by_cases q1 : nI (t / 10 % 10) = 0
        · rw [if_pos q1, if_pos q1]
          obtain ⟨n, kn1, lf1, now1, w1, w2, w3, w4⟩ := x_water (lv := 1) hP hM (Nat.le_refl 1) (nI (t % 10))
          have w2' : f_X7_waterOn (nI F) kind2 now 1 (nI (t % 10)) = some (n, now1) := w2
          unfold f_X2_waterIsChanged
          rw [w2', Option.bind_some, if_pos q1]
          rcases bowl_cases hP.B5 (nI (t % 10)) with ⟨b, hb, eb, b1, b2⟩ | ⟨-, b1, b2⟩
          · rw [b1, b2, Option.bind_some, Option.bind_some, if_neg n10, if_neg n10, w1, Option.bind_some, bz1, Option.bind_some]
            dsimp only
            rw [if_neg n10]
            exact ⟨1, _, _, _, _, _, now1, Or.inr rfl, rfl, rfl, fun _ => w3.mono h5 (by omega), w4⟩
          · rw [b1, b2, Option.bind_some, Option.bind_some, if_pos rfl, if_pos rfl, bz0, Option.bind_some]
            dsimp only
            rw [if_pos rfl]
            exact ⟨0, pl, kn, lf, du, ck, now1, Or.inl rfl, rfl, rfl, fun q => absurd q (by decide), w4⟩
        · rw [if_neg q1, if_neg q1]
          obtain ⟨n, kn1, lf1, now1, w1, w2, w3, w4⟩ := x_water (lv := 1) hP hM (Nat.le_refl 1) (-9)
          have w2' : f_X7_waterOn (nI F) kind2 now 1 (-9) = some (n, now1) := w2
          rw [w2', Option.bind_some, if_neg q1]
          exact ⟨0, pl, kn, lf, du, ck, now1, Or.inl rfl, rfl, rfl, fun q => absurd q (by decide), w4⟩
      · have k2 : ¬ nI (t / 100) = 2 := fun q => c2 ((nI_eq (b := 2) (by omega) (by decide)).mp q)
        rw [if_neg k2, if_neg k2]
        by_cases c3 : t / 100 = 3
        · rw [c3, if_pos (show nI 3 = 3 from rfl), if_pos (show nI 3 = 3 from rfl)]
          unfold f_X2_isTold
          rcases is_cases h5 (nI (t / 10 % 10)) with ⟨i, hi, ei, a1, a2⟩ | ⟨-, a1, a2⟩
          · rw [a1, a2, Option.bind_some, Option.bind_some, if_neg n10, if_neg n10, ei]
            have hb := (hM.1 i hi).2.2.2.1
            have l1 := x1_learn (kn := kn) (lf := lf) hP hi hb (nI (t % 10))
            have l2 := x7_learn (lv := 1) hP hM (Nat.le_refl 1) hi (nI (t % 10))
            have l2' : f_X7_learn round kind2 now 1 (nI i) (nI (t % 10)) = _ := l2
            rw [l1, l2', Option.bind_some, Option.bind_some, bz1, bz1, Option.bind_some]
            dsimp only
            rw [bz1]
            exact ⟨1, _, _, _, _, _, _, Or.inr rfl, rfl, rfl, fun _ => (MR_set h5 hM hi ⟨(las_pos hP hb).1, Int32.le_refl _⟩ (Or.inr ⟨t % 10, by omega, rfl⟩)).mono h5 (by omega), (FrN.up (by omega) (by omega)).tr (FrN.up (by omega) (by omega))⟩
          · rw [a1, a2, Option.bind_some, Option.bind_some, if_pos rfl, if_pos rfl, bz0, bz0, Option.bind_some]
            dsimp only
            rw [bz0]
            exact ⟨0, pl, kn, lf, du, ck, now, Or.inl rfl, rfl, rfl, fun q => absurd q (by decide), FrN.rf⟩
        · have k3 : ¬ nI (t / 100) = 3 := fun q => c3 ((nI_eq (b := 3) (by omega) (by decide)).mp q)
          rw [if_neg k3, if_neg k3]
          by_cases c4 : t / 100 = 4
          · rw [c4, if_pos (show nI 4 = 4 from rfl), if_pos (show nI 4 = 4 from rfl)]
            unfold f_X7_tryThing_155 f_X7_tryThing_156
            by_cases q1 : nI (t / 10 % 10) = 0
            · rw [if_pos q1, if_pos q1]
              unfold f_X2_dutyTurns f_X1_turn
              rcases lip_cases (n := Lp) (by have := hP.L4; omega) (nI (t % 10)) with ⟨l, hl, el, b1, b2⟩ | ⟨-, b1, b2⟩
              · obtain ⟨d, hdl, hd⟩ := hM.2.2.2.1
                have hd16 := pow_le16 hP.L4 hdl
                have h32 : now 32 = du := hM.2.1
                rw [el] at b1 b2
                have hx := xor_fin d hd16 l (by have := hP.L4; omega)
                refine ⟨1, pl, kn, lf, nI (d ^^^ 2 ^ l), ck, upd now 32 (nI (d ^^^ 2 ^ l)), Or.inr rfl, ?_, ?_, fun _ => (MR_dutyB hM h5 (xor_lt hdl hl)).mono h5 (by omega), FrN.up (by omega) (by omega)⟩
                · simp only [b1, Option.bind_some, if_neg n10, bz1, hd, el, hx]
                · simp only [b2, Option.bind_some, if_neg n10, bz1, r32, i32, cl32, h32, hd, el, hx]
              · refine ⟨0, pl, kn, lf, du, ck, upd now 32 (now 32 ^^^ 0), Or.inl rfl, ?_, ?_, fun q => absurd q (by decide), Fr32⟩
                · simp only [b1, Option.bind_some, if_true, bz0]
                · simp only [b2, Option.bind_some, if_true, bz0, r32, i32, cl32]
            · rw [if_neg q1, if_neg q1, r32, if_pos rfl, i32, bz0, cl32]
              exact ⟨0, pl, kn, lf, du, ck, _, Or.inl rfl, rfl, rfl, fun q => absurd q (by decide), Fr32⟩
          · have k4 : ¬ nI (t / 100) = 4 := fun q => c4 ((nI_eq (b := 4) (by omega) (by decide)).mp q)
            rw [if_neg k4, if_neg k4]
            by_cases c5 : t / 100 = 5
            · rw [c5, if_pos (show nI 5 = 5 from rfl), if_pos (show nI 5 = 5 from rfl)]
              rcases is_cases h5 (nI (t / 10 % 10)) with ⟨i, hi, ei, a1, a2⟩ | ⟨-, a1, a2⟩
              · have e22 : (22 : Int32) + nI i = nI (22 + i) := nI_add 22 i
                have g2 : now (22 + i) = kn i := (hM.1 i hi).2.1
                rw [a1, a2, Option.bind_some, Option.bind_some, if_neg n10, if_neg n10, ei, e22, rd5 (by omega), rd34 (by omega), g2]
                by_cases q : kn i = nI (t % 10)
                · rw [if_pos q, if_pos q]
                  exact ⟨1, _, _, _, _, _, _, Or.inr rfl, rfl, rfl, fun _ => hM.mono h5 (by omega), FrN.rf⟩
                · rw [if_neg q, if_neg q]
                  exact ⟨0, pl, kn, lf, du, ck, now, Or.inl rfl, rfl, rfl, fun q => absurd q (by decide), FrN.rf⟩
              · rw [a1, a2, Option.bind_some, Option.bind_some, if_pos rfl, if_pos rfl]
                exact ⟨0, pl, kn, lf, du, ck, now, Or.inl rfl, rfl, rfl, fun q => absurd q (by decide), FrN.rf⟩
            · have k5 : ¬ nI (t / 100) = 5 := fun q => c5 ((nI_eq (b := 5) (by omega) (by decide)).mp q)
              rw [if_neg k5, if_neg k5]
              exact ⟨0, pl, kn, lf, du, ck, now, Or.inl rfl, rfl, rfl, fun q => absurd q (by decide), FrN.rf⟩
end Judge
