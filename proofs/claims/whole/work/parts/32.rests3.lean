section Rests3
variable {B F Lp C i j l n : Nat} {hours first kind post error round first2 kind2 begins error2 : Nat → Int32} {pl kn lf now : Nat → Int32} {du ck : Int32}
theorem in01 (x : Int32) : f_X7_in (Int32.toInt64 x) 0 1 = some (if x < 0 then 0 else if x ≤ 1 then 1 else 0) := by
  rw [x7_in, Int32.toInt_toInt64]
  have e0 : (0 : Int64).toInt = 0 := by decide
  have e1 : (1 : Int64).toInt = 1 := by decide
  have f0 : (0 : Int32).toInt = 0 := by decide
  have f1 : (1 : Int32).toInt = 1 := by decide
  rw [e0, e1]
  by_cases h : x < 0
  · rw [if_pos h, if_neg]
    rw [Int32.lt_iff_toInt_lt, f0] at h; omega
  · rw [if_neg h]
    rw [Int32.lt_iff_toInt_lt, f0] at h
    by_cases h2 : x ≤ 1
    · rw [if_pos h2, if_pos]
      rw [Int32.le_iff_toInt_le, f1] at h2; omega
    · rw [if_neg h2, if_neg]
      rw [Int32.le_iff_toInt_le, f1] at h2; omega
theorem x_weigh (hP : PR B F Lp hours first kind post error round first2 kind2 begins error2) (hM : MR B F Lp C 0 hours kind pl kn lf du ck now) (hC : C + 12 ≤ 1000) (hi : i < F) (hj : j < F) :
    ∃ V W : Nat → Nat → Nat, (∀ a b, a < B → b < B → V a b ≤ 14 ∧ W a b ≤ 14) ∧ GainV B V W now (fun now' oft a b z => f_X7_gain (nI B) (nI F) (nI Lp) round first2 kind2 begins error2 now' oft (nI i) (nI j) a b z)
      ∧ ∀ kept one other g1 g2 g3 z1 z2, ∃ kept1 one1 other1 t, f_X2_weighPairs kept one other (nI B) (nI F) (nI Lp) hours first kind post error pl kn lf du ck g1 g2 g3 z1 z2 (nI i) (nI j) = some (kept1, one1, other1, t) ∧ HasV B V W one1 other1 := by
  have hB5 := hP.B5
  obtain ⟨V, W, hVW⟩ := pick2 (fun a b ha hb => x_gain hP hM hC hi hj ha hb)
  refine ⟨V, W, fun a b ha hb => ⟨(hVW a b ha hb).1, (hVW a b ha hb).2.1⟩, fun a b ha hb now' oft hF => ?_, fun kept one other g1 g2 g3 z1 z2 => ?_⟩
  · dsimp only
    rw [gain_eq hF, gain_eq hF]
    exact ⟨(hVW a b ha hb).2.2.1 oft, (hVW a b ha hb).2.2.2.1 oft⟩
  · unfold f_X2_weighPairs
    refine loop1 (st := g_X2_weighPairs_2 (nI B) (nI F) (nI Lp) hours first kind post error pl kn lf du ck (nI i) (nI j)) B (fun h s => s.1 = nI h ∧ ∀ a b, a < h → b < B → s.2.2.1 (5 * a + b) = nI (V a b) ∧ s.2.2.2.1 (5 * a + b) = nI (W a b)) (fun o => ∃ kept1 one1 other1 t, o = some (kept1, one1, other1, t) ∧ HasV B V W one1 other1) ?_ ?_ 100 0 _ (by omega) (by omega) ⟨rfl, fun a b ha => by omega⟩
    · rintro h ⟨x3, kept, one, other, g1, g2, g3, z1, z2⟩ hh ⟨e, hv⟩
      dsimp only at e hv
      subst e
      left
      have hlt := lt_le hh (show B < 2 ^ 31 by omega)
      have key := loop1r (st := fun k2 => g_X2_weighPairs_16 (nI B) (nI F) (nI Lp) hours first kind post error pl kn lf du ck (nI i) (nI j) (nI h) k2) B (fun t s => s.1 = nI t ∧ ∀ a b, (a < h ∧ b < B ∨ a = h ∧ b < t) → s.2.2.1 (5 * a + b) = nI (V a b) ∧ s.2.2.2.1 (5 * a + b) = nI (W a b)) (fun k2 s => k2 (nI (h + 1), s.2)) (by
        rintro t ⟨y, kept, one, other, g1, g2, g3, z1, z2⟩ ht ⟨e, hv⟩
        dsimp only at e hv
        subst e
        obtain ⟨kept1, t1, t2, t3, d, c, hk⟩ := (hVW h t hh ht).2.2.2.2 kept one other g1 g2 g3 z1 z2
        refine ⟨(nI (t + 1), kept1, upd one (5 * h + t) (nI (V h t)), upd other (5 * h + t) (nI (W h t)), t1, t2, t3, d, c), ⟨rfl, fun a b hab => ?_⟩, fun q k => hk q k⟩
        dsimp only
        by_cases q : a = h ∧ b = t
        · obtain ⟨q1, q2⟩ := q
          subst q1; subst q2
          rw [upd_s, upd_s]; exact ⟨rfl, rfl⟩
        · rw [upd_n _ _ (by omega), upd_n _ _ (by omega)]
          exact hv a b (by omega)) (by
        rintro ⟨y, kept, one, other, g1, g2, g3, z1, z2⟩ ⟨e, hv⟩ q k
        dsimp only at e
        subst e
        have hle := nI_le (Nat.le_refl B) (show B < 2 ^ 31 by omega)
        simp only [g_X2_weighPairs_16, f_X2_weighPairs_16, f_X2_weighPairs_114, if_pos hle, nI_1]) 100 0 (0, kept, one, other, g1, g2, g3, z1, z2) (by omega) (by omega) ⟨rfl, fun a b hab => hv a b (by omega) (by omega)⟩
      obtain ⟨⟨y, kept', one', other', h1, h2, h3, y1, y2⟩, ⟨ey, ev⟩, el⟩ := key
      dsimp only at ey ev
      refine ⟨(nI (h + 1), kept', one', other', h1, h2, h3, y1, y2), ⟨rfl, fun a b ha hb => ev a b (by omega)⟩, fun k => ?_⟩
      simp only [g_X2_weighPairs_2, f_X2_weighPairs_2, if_neg hlt]
      exact el k
    · rintro ⟨x3, kept, one, other, g1, g2, g3, z1, z2⟩ ⟨e, hv⟩ k
      dsimp only at e hv
      subst e
      have hle := nI_le (Nat.le_refl B) (show B < 2 ^ 31 by omega)
      refine ⟨kept, one, other, (g1, g2, g3, z1, z2), ?_, fun a b ha hb => hv a b ha hb⟩
      simp only [g_X2_weighPairs_2, f_X2_weighPairs_2, if_pos hle]
/-- RESTS -/
theorem x_rests (hP : PR B F Lp hours first kind post error round first2 kind2 begins error2) (hM : MR B F Lp C 0 hours kind pl kn lf du ck now) (hC : C + 12 ≤ 1000) (kept one other g1 g2 g3 oft : Nat → Int32) (z1 z2 x1 x2 x3 : Int32) :
    ∃ v r now1 oft1, f_X6_rests (nI B) (nI F) (nI Lp) hours first kind post error pl kn lf du ck kept one other g1 g2 g3 z1 z2 x1 x2 x3 = some (v, r) ∧ f_X7_rests (nI B) (nI F) (nI Lp) round first2 kind2 begins error2 now oft x1 x2 x3 = some (v, now1, oft1) ∧ FrN (17 * 1) now now1 := by
  unfold f_X6_rests f_X7_rests
  rcases is_cases hP.F5 x1 with ⟨i, hi, rfl, c1, c2⟩ | ⟨-, c1, c2⟩
  · rw [c1, c2, Option.bind_some, Option.bind_some, if_neg (show ¬ (1 : Int32) = 0 by decide), if_neg (show ¬ (1 : Int32) = 0 by decide)]
    rcases is_cases hP.F5 x2 with ⟨j, hj, rfl, d1, d2⟩ | ⟨-, d1, d2⟩
    · rw [d1, d2, Option.bind_some, Option.bind_some, if_neg (show ¬ (1 : Int32) = 0 by decide), if_neg (show ¬ (1 : Int32) = 0 by decide)]
      by_cases hij : nI i = nI j
      · rw [if_pos hij, if_pos hij]
        exact ⟨_, _, _, _, rfl, rfl, FrN.rf⟩
      · rw [if_neg hij, if_neg hij, in01, Option.bind_some]
        by_cases h0 : x3 < 0
        · rw [if_pos h0, if_pos h0, if_pos rfl]
          exact ⟨_, _, _, _, rfl, rfl, FrN.rf⟩
        · rw [if_neg h0, if_neg h0]
          by_cases h1 : x3 ≤ 1
          · rw [if_pos h1, if_pos h1, if_neg (show ¬ (1 : Int32) = 0 by decide)]
            obtain ⟨V, W, hV, hG, hc⟩ := x_weigh hP hM hC hi hj
            obtain ⟨kept1, one1, other1, t, w1, w2⟩ := hc kept one other g1 g2 g3 z1 z2
            obtain ⟨n1, o1, r1, hF⟩ := m_rests hP.B5 hV hG oft x3
            rw [w1, Option.bind_some, r1]
            dsimp only
            rw [c_count hP.B5 hV w2, c_first hP.B5 hV w2, Option.bind_some, Option.bind_some]
            by_cases hx : x3 = 0
            · rw [if_pos hx, if_pos hx]; exact ⟨_, _, _, _, rfl, rfl, hF⟩
            · rw [if_neg hx, if_neg hx]; exact ⟨_, _, _, _, rfl, rfl, hF⟩
          · rw [if_neg h1, if_neg h1, if_pos rfl]
            exact ⟨_, _, _, _, rfl, rfl, FrN.rf⟩
    · rw [d1, d2, Option.bind_some, Option.bind_some, if_pos rfl, if_pos rfl]
      exact ⟨_, _, _, _, rfl, rfl, FrN.rf⟩
  · rw [c1, c2, Option.bind_some, Option.bind_some, if_pos rfl, if_pos rfl]
    exact ⟨_, _, _, _, rfl, rfl, FrN.rf⟩
end Rests3
