theorem or0 (x : Int32) : x ||| 0 = x := Int32.or_zero
theorem r15 {α : Type} (f : Nat → Int32) (k : Int32 → Option α) : rd 34 f 15 k = k (f 15) := rd_n (j := 15) (by decide) (by decide) f k
theorem i15 {α : Type} (k : Option α) : ix 34 15 k = k := ix_n (j := 15) (by decide) (by decide) k
theorem cl15 : Int32.toNatClampNeg 15 = 15 := by decide
theorem bit_fin : ∀ d, d < 16 → ∀ l, l < 4 → (jshr (nI d) (nI l)) &&& 1 = if d.testBit l then 1 else 0 := by decide +kernel
section Tops
variable {B F Lp C A X S T i j l n : Nat} {hours first kind post error round first2 kind2 begins error2 : Nat → Int32} {pl kn lf now row : Nat → Int32} {du ck : Int32} {pls kns lfs : Nat → Nat → Int32} {ods cks : Nat → Int32}
theorem MR.z (h : MR B F Lp C 0 hours kind pl kn lf du ck now) : MR B F Lp C (17 * 0) hours kind pl kn lf du ck now := h
theorem MR.fr (h : MR B F Lp C 0 hours kind pl kn lf du ck now) (hF : F ≤ 5) {now1 : Nat → Int32} (hr : FrN (17 * 1) now now1) : MR B F Lp (C + 1) 0 hours kind pl kn lf du ck now1 :=
  h.cong (fun i hi => ⟨rfl, rfl, rfl⟩) (fun j hj => by rw [Nat.zero_add]; exact hr.low hj) hF (by omega)
theorem MR.s15 (h : MR B F Lp C 0 hours kind pl kn lf du ck now) : now 15 = du := by have := h.2.1; rw [Nat.zero_add] at this; exact this
theorem MR.s16 (h : MR B F Lp C 0 hours kind pl kn lf du ck now) : now 16 = ck := by have := h.2.2.1; rw [Nat.zero_add] at this; exact this
theorem x_lips (hP : PR B F Lp hours first kind post error round first2 kind2 begins error2) (hM : MR B F Lp C 0 hours kind pl kn lf du ck now) (hC : C ≤ 1000) (x : Int32) : ∃ v, f_X1_lipsNextAt ck (nI B) (nI Lp) post x = some v ∧ f_X7_lipsAt (nI B) (nI Lp) begins now x = some v := by
  have hL := hP.L4
  obtain ⟨c, hc, ec⟩ := hM.2.2.2.2
  unfold f_X1_lipsNextAt f_X7_lipsAt
  refine loop2 (st1 := g_X1_lipsNextAt_4 ck (nI B) (nI Lp) post x) (st2 := g_X7_lipsAt_4 (nI B) (nI Lp) begins now x) Lp (fun l s1 s2 => s1 = s2 ∧ s1.2 = nI l) (fun o1 o2 => ∃ v, o1 = some v ∧ o2 = some v) ?_ ?_ 100 100 0 _ _ (Nat.zero_le _) (by omega) (by omega) ⟨rfl, rfl⟩
  · rintro l ⟨a, b⟩ s2 hl ⟨e1, e2⟩
    dsimp only at e2
    subst e1; subst e2
    left
    have hlt := lt_le hl (show Lp < 2 ^ 31 by omega)
    obtain ⟨b, hb, eb⟩ := (hP.2.2.2 l hl).2.2.1
    have r1 := x1_roundOf hP hl eb hb (show c ≤ 1000 by omega)
    have r2 : f_X7_bowlOf (nI B) begins now 0 (nI l) = _ := x7_bowlOf (lv := 0) hP hM.z (by omega) hl eb hb (show c ≤ 1000 by omega) ec
    rw [← ec] at r1
    by_cases q : nI ((b + c) % B) = x
    · refine ⟨(a ||| jshl 1 (nI l), nI (l + 1)), (a ||| jshl 1 (nI l), nI (l + 1)), ⟨rfl, rfl⟩, fun k => ?_, fun k => ?_⟩
      · simp only [g_X1_lipsNextAt_4, f_X1_lipsNextAt_4, f_X1_lipsNextAt_30, if_neg hlt, r1, Option.bind_some, if_pos q, nI_1]
      · simp only [g_X7_lipsAt_4, f_X7_lipsAt_4, f_X7_lipsAt_30, if_neg hlt, r2, Option.bind_some, if_pos q, nI_1]
    · refine ⟨(a, nI (l + 1)), (a, nI (l + 1)), ⟨rfl, rfl⟩, fun k => ?_, fun k => ?_⟩
      · simp only [g_X1_lipsNextAt_4, f_X1_lipsNextAt_4, f_X1_lipsNextAt_30, if_neg hlt, r1, Option.bind_some, if_neg q, nI_1]
      · simp only [g_X7_lipsAt_4, f_X7_lipsAt_4, f_X7_lipsAt_30, if_neg hlt, r2, Option.bind_some, if_neg q, nI_1, or0]
  · rintro ⟨a, b⟩ s2 ⟨e1, e2⟩ k1 k2
    dsimp only at e2
    subst e1; subst e2
    have hle := nI_le (Nat.le_refl Lp) (show Lp < 2 ^ 31 by omega)
    refine ⟨a, ?_, ?_⟩
    · simp only [g_X1_lipsNextAt_4, f_X1_lipsNextAt_4, if_pos hle]
    · simp only [g_X7_lipsAt_4, f_X7_lipsAt_4, if_pos hle]
/-- BOWL -/
theorem x_bowl (hP : PR B F Lp hours first kind post error round first2 kind2 begins error2) (hM : MR B F Lp C 0 hours kind pl kn lf du ck now) (hC : C ≤ 1000) (x1 x2 : Int32) : ∃ v, f_X6_bowl (nI B) (nI F) (nI Lp) hours post pl ck x1 x2 = some v ∧ f_X7_bowl (nI B) (nI F) (nI Lp) round begins now x1 x2 = some v := by
  have hB := hP.B5
  unfold f_X6_bowl f_X7_bowl
  rcases bowl_cases hP.B5 x1 with ⟨b, hb, rfl, b1, b2⟩ | ⟨-, b1, b2⟩
  · rw [b1, b2, Option.bind_some, Option.bind_some, if_neg (show ¬ (1 : Int32) = 0 by decide), if_neg (show ¬ (1 : Int32) = 0 by decide)]
    by_cases q0 : x2 = 0
    · rw [if_pos q0, if_pos q0, rd5 (by omega), rd5 (by omega), (hP.2.1 b hb).1]; exact ⟨_, rfl, rfl⟩
    rw [if_neg q0, if_neg q0]
    by_cases q1 : x2 = 1
    · have h2 : f_X7_inBowl (nI F) now 0 (nI b) = _ := x7_inBowl (lv := 0) hP hM.z (by omega) (nI b)
      rw [if_pos q1, if_pos q1, x1_fishIn hP.F5, h2, Option.bind_some]; exact ⟨_, rfl, rfl⟩
    rw [if_neg q1, if_neg q1]
    by_cases q2 : x2 = 2
    · obtain ⟨v, v1, v2⟩ := x_lips hP hM hC (nI b)
      rw [if_pos q2, if_pos q2, v1, v2, Option.bind_some]; exact ⟨_, rfl, rfl⟩
    rw [if_neg q2, if_neg q2]; exact ⟨_, rfl, rfl⟩
  · rw [b1, b2, Option.bind_some, Option.bind_some, if_pos rfl, if_pos rfl]; exact ⟨_, rfl, rfl⟩
/-- FISH -/
theorem x_fish (hP : PR B F Lp hours first kind post error round first2 kind2 begins error2) (hM : MR B F Lp C 0 hours kind pl kn lf du ck now) (x1 x2 : Int32) : ∃ v, f_X6_fish (nI F) hours first kind pl kn lf x1 x2 = some v ∧ f_X7_fish (nI F) round first2 kind2 now x1 x2 = some v := by
  have hF := hP.F5
  unfold f_X6_fish f_X7_fish
  rcases is_cases hP.F5 x1 with ⟨i, hi, rfl, b1, b2⟩ | ⟨-, b1, b2⟩
  · rw [b1, b2, Option.bind_some, Option.bind_some, if_neg (show ¬ (1 : Int32) = 0 by decide), if_neg (show ¬ (1 : Int32) = 0 by decide)]
    obtain ⟨a1, a2, a3, ⟨b, hb, eb⟩, -⟩ := hM.1 i hi
    rw [Nat.zero_add] at a1 a2 a3
    have e5 : (5 : Int32) + nI i = nI (5 + i) := nI_add 5 i
    have e10 : (10 : Int32) + nI i = nI (10 + i) := nI_add 10 i
    obtain ⟨f1, f2⟩ := (hP.2.2.1 i hi).1
    by_cases q0 : x2 = 0
    · rw [if_pos q0, if_pos q0, rd5 (by omega), rd34 (by omega), a1]; exact ⟨_, rfl, rfl⟩
    rw [if_neg q0, if_neg q0]
    by_cases q1 : x2 = 1
    · rw [if_pos q1, if_pos q1, rd5 (by omega), rd5 (by omega), f1]; exact ⟨_, rfl, rfl⟩
    rw [if_neg q1, if_neg q1]
    by_cases q2 : x2 = 2
    · rw [if_pos q2, if_pos q2, rd5 (by omega), rd5 (by omega), f2]; exact ⟨_, rfl, rfl⟩
    rw [if_neg q2, if_neg q2]
    by_cases q3 : x2 = 3
    · rw [if_pos q3, if_pos q3, rd5 (by omega), e5, rd34 (by omega), a2]; exact ⟨_, rfl, rfl⟩
    rw [if_neg q3, if_neg q3]
    by_cases q4 : x2 = 4
    · rw [if_pos q4, if_pos q4, rd5 (by omega), e10, rd34 (by omega), a3]; exact ⟨_, rfl, rfl⟩
    rw [if_neg q4, if_neg q4]
    by_cases q5 : x2 = 5
    · rw [if_pos q5, if_pos q5, x1_lasts hP hi ⟨b, hb, eb⟩, rd34 (by omega), a1, eb, x7_lasts hP hi hb, Option.bind_some, Option.bind_some, lasS_b (by have := hP.B5; omega) eb]; exact ⟨_, rfl, rfl⟩
    rw [if_neg q5, if_neg q5]; exact ⟨_, rfl, rfl⟩
  · rw [b1, b2, Option.bind_some, Option.bind_some, if_pos rfl, if_pos rfl]; exact ⟨_, rfl, rfl⟩
/-- LIP -/
theorem x_lip (hP : PR B F Lp hours first kind post error round first2 kind2 begins error2) (hM : MR B F Lp C 0 hours kind pl kn lf du ck now) (x1 x2 : Int32) : ∃ v, f_X6_lip (nI Lp) post error du x1 x2 = some v ∧ f_X7_lip (nI Lp) begins error2 now x1 x2 = some v := by
  have hL := hP.L4
  unfold f_X6_lip f_X7_lip
  rcases lip_cases (n := Lp) (by omega) x1 with ⟨l, hl, rfl, b1, b2⟩ | ⟨-, b1, b2⟩
  · rw [b1, b2, Option.bind_some, Option.bind_some, if_neg (show ¬ (1 : Int32) = 0 by decide), if_neg (show ¬ (1 : Int32) = 0 by decide)]
    obtain ⟨f1, f2, -⟩ := hP.2.2.2 l hl
    obtain ⟨d, hdl, hd⟩ := hM.2.2.2.1
    have hd16 := pow_le16 hL hdl
    by_cases q0 : x2 = 0
    · rw [if_pos q0, if_pos q0, rd4 (by omega), rd4 (by omega), f1]; exact ⟨_, rfl, rfl⟩
    rw [if_neg q0, if_neg q0]
    by_cases q1 : x2 = 1
    · rw [if_pos q1, if_pos q1, rd4 (by omega), rd4 (by omega), f2]; exact ⟨_, rfl, rfl⟩
    rw [if_neg q1, if_neg q1]
    by_cases q2 : x2 = 2
    · rw [if_pos q2, if_pos q2, r15, hM.s15, hd, (duty_fin d hd16 l (by omega)).2, bit_fin d hd16 l (by omega), Option.bind_some]
      cases d.testBit l
      · exact ⟨0, rfl, rfl⟩
      · exact ⟨1, rfl, rfl⟩
    rw [if_neg q2, if_neg q2]; exact ⟨_, rfl, rfl⟩
  · rw [b1, b2, Option.bind_some, Option.bind_some, if_pos rfl, if_pos rfl]; exact ⟨_, rfl, rfl⟩
/-- COUNT -/
theorem x_count (hP : PR B F Lp hours first kind post error round first2 kind2 begins error2) (hM : MR B F Lp C 0 hours kind pl kn lf du ck now) (x1 : Int32) : ∃ v, f_X6_count (nI T) (nI B) (nI F) (nI Lp) first kn du ck (nI A) (nI S) x1 = some v ∧ f_X7_count (nI B) (nI F) (nI Lp) first2 now (nI T) (nI A) (nI S) x1 = some v := by
  have k0 : f_X7_knowing (nI F) first2 now 0 0 = _ := x7_knowing0 (lv := 0) hP hM.z (by omega)
  have k1 : f_X7_knowing (nI F) first2 now 0 1 = _ := x7_knowing1 (lv := 0) hP hM.z (by omega)
  unfold f_X6_count f_X7_count
  rw [r16, r15, hM.s16, hM.s15, k0, k1, x1_knowing hP.F5, x1_knowingFirst hP.F5, Option.bind_some, Option.bind_some]
  by_cases q0 : x1 = 0
  · rw [if_pos q0]; exact ⟨_, rfl, rfl⟩
  rw [if_neg q0]
  by_cases q1 : x1 = 1
  · rw [if_pos q1]; exact ⟨_, rfl, rfl⟩
  rw [if_neg q1]
  by_cases q2 : x1 = 2
  · rw [if_pos q2]; exact ⟨_, rfl, rfl⟩
  rw [if_neg q2]
  by_cases q3 : x1 = 3
  · rw [if_pos q3]; exact ⟨_, rfl, rfl⟩
  rw [if_neg q3]
  by_cases q4 : x1 = 4
  · rw [if_pos q4]; exact ⟨_, rfl, rfl⟩
  rw [if_neg q4]
  by_cases q5 : x1 = 5
  · rw [if_pos q5]; exact ⟨_, rfl, rfl⟩
  rw [if_neg q5]
  by_cases q6 : x1 = 6
  · rw [if_pos q6]; exact ⟨_, rfl, rfl⟩
  rw [if_neg q6]
  by_cases q7 : x1 = 7
  · rw [if_pos q7]; exact ⟨_, rfl, rfl⟩
  rw [if_neg q7]
  by_cases q8 : x1 = 8
  · rw [if_pos q8]; exact ⟨_, rfl, rfl⟩
  rw [if_neg q8]
  by_cases q9 : x1 = 9
  · rw [if_pos q9]; exact ⟨_, rfl, rfl⟩
  rw [if_neg q9]; exact ⟨_, rfl, rfl⟩
/-- HOUR -/
theorem x_hour (hP : PR B F Lp hours first kind post error round first2 kind2 begins error2) (hM : MR B F Lp C 0 hours kind pl kn lf du ck now) (hA : AR B F Lp C A X hours kind pls kns lfs ods cks row) (hC : C ≤ 1000) (ak : Nat → Nat → Nat) :
    ∃ v kn' lf' ck' A' X' ak' pls' kns' lfs' ods' cks' now' row', f_X6_hour (nI B) (nI F) (nI Lp) hours first kind post error pl kn lf du ck (nI A) ak pls kns lfs ods cks = some (v, kn', lf', ck', nI A', ak', pls', kns', lfs', ods', cks') ∧ f_X7_hour (nI B) (nI F) (nI Lp) round first2 kind2 begins error2 now (nI A) (nI X) row = some (v, now', nI A', nI X', row') ∧ MR B F Lp (C + 1) 0 hours kind pl kn' lf' du ck' now' ∧ AR B F Lp (C + 1) A' X' hours kind pls' kns' lfs' ods' cks' row' := by
  obtain ⟨A', X', ak', pls', kns', lfs', ods', cks', row', r1, r2, r3⟩ := x_remember hP.F5 hM hA ak
  obtain ⟨kn1, lf1, now1, p1, p2, p3, p4⟩ := x_pass0 hP hM hC
  have k0 : f_X7_knowing (nI F) first2 now1 0 0 = _ := x7_knowing0 (lv := 0) hP p3.z (by omega)
  have hpop := pop_fin _ (bitsN_32 (fun i => decide (kn1 i ≠ -9)) hP.F5)
  unfold f_X6_hour f_X7_hour
  rw [r1, r2, p1, p2, Option.bind_some, Option.bind_some, Option.bind_some, Option.bind_some]
  dsimp only
  rw [x1_knowing hP.F5, k0, Option.bind_some, Option.bind_some, hpop.1, hpop.2.1, Option.bind_some]
  exact ⟨_, _, _, _, _, _, _, _, _, _, _, _, _, _, rfl, rfl, p3, r3.mono hP.F5 (by omega)⟩
/-- MOVE -/
theorem x_move (hP : PR B F Lp hours first kind post error round first2 kind2 begins error2) (hM : MR B F Lp C 0 hours kind pl kn lf du ck now) (hA : AR B F Lp C A X hours kind pls kns lfs ods cks row) (ak : Nat → Nat → Nat) (x1 x2 : Int32) :
    ∃ v pl' lf' A' X' ak' pls' kns' lfs' ods' cks' now' row', f_X6_move (nI B) (nI F) hours kind pl kn lf du ck (nI A) ak pls kns lfs ods cks x1 x2 = some (v, pl', lf', nI A', ak', pls', kns', lfs', ods', cks') ∧ f_X7_move (nI B) (nI F) round kind2 now (nI A) (nI X) row x1 x2 = some (v, now', nI A', nI X', row') ∧ MR B F Lp (C + 1) 0 hours kind pl' kn lf' du ck now' ∧ AR B F Lp (C + 1) A' X' hours kind pls' kns' lfs' ods' cks' row' := by
  have n10 : ¬ (1 : Int32) = 0 := by decide
  have hF := hP.F5
  have same : MR B F Lp (C + 1) 0 hours kind pl kn lf du ck now ∧ AR B F Lp (C + 1) A X hours kind pls kns lfs ods cks row := ⟨hM.mono hF (by omega), hA.mono hF (by omega)⟩
  unfold f_X6_move f_X7_move
  rcases is_cases hF x1 with ⟨i, hi, rfl, a1, a2⟩ | ⟨-, a1, a2⟩
  · rw [a1, a2, Option.bind_some, Option.bind_some, if_neg n10, if_neg n10]
    rcases bowl_cases hP.B5 x2 with ⟨b, hb, rfl, b1, b2⟩ | ⟨-, b1, b2⟩
    · rw [b1, b2, Option.bind_some, Option.bind_some, if_neg n10, if_neg n10]
      obtain ⟨w, hw, m1, m2⟩ := x_can (lv := 0) hP hM.z (by omega) hi hb
      have m2' : f_X7_canMove (nI B) (nI F) now 0 (nI i) (nI b) = some w := m2
      rw [m1, m2', Option.bind_some, Option.bind_some]
      rcases hw with q | q
      · subst q
        rw [if_pos rfl, if_pos rfl]
        exact ⟨_, _, _, _, X, _, _, _, _, _, _, _, _, rfl, rfl, same.1, same.2⟩
      · subst q
        rw [if_neg n10, if_neg n10]
        obtain ⟨A', X', ak', pls', kns', lfs', ods', cks', row', r1, r2, r3⟩ := x_remember hF hM hA ak
        obtain ⟨w, now1, p1, p2, p3, p4⟩ := x_put (lv := 0) hP hM.z (by omega) hi hb
        have p2' : f_X7_moveOn round kind2 now 0 (nI i) (nI b) = some now1 := p2
        have h1 := (hM.1 i hi).1
        rw [Nat.zero_add] at h1
        rw [r1, r2, Option.bind_some, Option.bind_some, rd5 (by omega), rd34 (by omega), p1, p2', Option.bind_some, Option.bind_some, h1]
        exact ⟨_, _, _, _, _, _, _, _, _, _, _, _, _, rfl, rfl, MR.mono (base := 0) p3 hF (by omega), r3.mono hF (by omega)⟩
    · rw [b1, b2, Option.bind_some, Option.bind_some, if_pos rfl, if_pos rfl]
      exact ⟨_, _, _, _, X, _, _, _, _, _, _, _, _, rfl, rfl, same.1, same.2⟩
  · rw [a1, a2, Option.bind_some, Option.bind_some, if_pos rfl, if_pos rfl]
    exact ⟨_, _, _, _, X, _, _, _, _, _, _, _, _, rfl, rfl, same.1, same.2⟩
/-- WATER -/
theorem x_waters (hP : PR B F Lp hours first kind post error round first2 kind2 begins error2) (hM : MR B F Lp C 0 hours kind pl kn lf du ck now) (hA : AR B F Lp C A X hours kind pls kns lfs ods cks row) (ak : Nat → Nat → Nat) (x1 : Int32) :
    ∃ v kn' lf' A' X' ak' pls' kns' lfs' ods' cks' now' row', f_X6_water (nI B) (nI F) kind pl kn lf du ck (nI A) ak pls kns lfs ods cks x1 = some (v, kn', lf', nI A', ak', pls', kns', lfs', ods', cks') ∧ f_X7_water (nI B) (nI F) kind2 now (nI A) (nI X) row x1 = some (v, now', nI A', nI X', row') ∧ MR B F Lp (C + 1) 0 hours kind pl kn' lf' du ck now' ∧ AR B F Lp (C + 1) A' X' hours kind pls' kns' lfs' ods' cks' row' := by
  have n10 : ¬ (1 : Int32) = 0 := by decide
  have hF := hP.F5
  have same : MR B F Lp (C + 1) 0 hours kind pl kn lf du ck now ∧ AR B F Lp (C + 1) A X hours kind pls kns lfs ods cks row := ⟨hM.mono hF (by omega), hA.mono hF (by omega)⟩
  unfold f_X6_water f_X7_water
  rcases bowl_cases hP.B5 x1 with ⟨b, hb, rfl, b1, b2⟩ | ⟨-, b1, b2⟩
  · rw [b1, b2, Option.bind_some, Option.bind_some, if_neg n10, if_neg n10]
    obtain ⟨A', X', ak', pls', kns', lfs', ods', cks', row', r1, r2, r3⟩ := x_remember hF hM hA ak
    obtain ⟨w, kn1, lf1, now1, p1, p2, p3, p4⟩ := x_water (lv := 0) hP hM.z (by omega) (nI b)
    have p2' : f_X7_waterOn (nI F) kind2 now 0 (nI b) = some (w, now1) := p2
    rw [r1, r2, Option.bind_some, Option.bind_some, p1, p2', Option.bind_some, Option.bind_some]
    exact ⟨_, _, _, _, _, _, _, _, _, _, _, _, _, rfl, rfl, MR.mono (base := 0) p3 hF (by omega), r3.mono hF (by omega)⟩
  · rw [b1, b2, Option.bind_some, Option.bind_some, if_pos rfl, if_pos rfl]
    exact ⟨_, _, _, _, X, _, _, _, _, _, _, _, _, rfl, rfl, same.1, same.2⟩
/-- TELL -/
theorem x_tell (hP : PR B F Lp hours first kind post error round first2 kind2 begins error2) (hM : MR B F Lp C 0 hours kind pl kn lf du ck now) (hA : AR B F Lp C A X hours kind pls kns lfs ods cks row) (ak : Nat → Nat → Nat) (x1 x2 : Int32) :
    ∃ v kn' lf' A' X' ak' pls' kns' lfs' ods' cks' now' row', f_X6_tell (nI F) hours kind pl kn lf du ck (nI A) ak pls kns lfs ods cks x1 x2 = some (v, kn', lf', nI A', ak', pls', kns', lfs', ods', cks') ∧ f_X7_tell (nI F) round kind2 now (nI A) (nI X) row x1 x2 = some (v, now', nI A', nI X', row') ∧ MR B F Lp (C + 1) 0 hours kind pl kn' lf' du ck now' ∧ AR B F Lp (C + 1) A' X' hours kind pls' kns' lfs' ods' cks' row' := by
  have n10 : ¬ (1 : Int32) = 0 := by decide
  have hF := hP.F5
  have same : MR B F Lp (C + 1) 0 hours kind pl kn lf du ck now ∧ AR B F Lp (C + 1) A X hours kind pls kns lfs ods cks row := ⟨hM.mono hF (by omega), hA.mono hF (by omega)⟩
  unfold f_X6_tell f_X7_tell
  rcases is_cases hF x1 with ⟨i, hi, rfl, a1, a2⟩ | ⟨-, a1, a2⟩
  · rw [a1, a2, Option.bind_some, Option.bind_some, if_neg n10, if_neg n10]
    rcases in_cases x2 9 (by decide) 9 (by decide) with ⟨s, hs, rfl, d1, d2, d3, d4⟩ | ⟨d1, d4⟩ | ⟨d1, d2, d3, d4⟩
    · rw [d4, Option.bind_some, if_neg n10, if_neg d1, if_pos (show nI s ≤ (9 : Int32) from d2)]
      obtain ⟨A', X', ak', pls', kns', lfs', ods', cks', row', r1, r2, r3⟩ := x_remember hF hM hA ak
      have hb := (hM.1 i hi).2.2.2.1
      have l1 := x1_learn (kn := kn) (lf := lf) hP hi hb (nI s)
      have l2 : f_X7_learn round kind2 now 0 (nI i) (nI s) = _ := x7_learn (lv := 0) hP hM.z (by omega) hi (nI s)
      have e5 : (5 : Int32) + nI i = nI (5 + i) := nI_add 5 i
      have h1 := (hM.1 i hi).2.1
      rw [Nat.zero_add] at h1
      rw [r1, r2, Option.bind_some, Option.bind_some, rd5 (by omega), e5, rd34 (by omega), l1, l2, Option.bind_some, Option.bind_some, h1]
      exact ⟨_, _, _, _, _, _, _, _, _, _, _, _, _, rfl, rfl, MR.mono (base := 0) (MR_set hF hM.z hi ⟨(las_pos hP hb).1, Int32.le_refl _⟩ (Or.inr ⟨s, by omega, rfl⟩)) hF (by omega), r3.mono hF (by omega)⟩
    · rw [d4, Option.bind_some, if_pos rfl, if_pos d1]
      exact ⟨_, _, _, _, X, _, _, _, _, _, _, _, _, rfl, rfl, same.1, same.2⟩
    · rw [d4, Option.bind_some, if_pos rfl, if_neg d1, if_neg (show ¬ x2 ≤ (9 : Int32) from d2)]
      exact ⟨_, _, _, _, X, _, _, _, _, _, _, _, _, rfl, rfl, same.1, same.2⟩
  · rw [a1, a2, Option.bind_some, Option.bind_some, if_pos rfl, if_pos rfl]
    exact ⟨_, _, _, _, X, _, _, _, _, _, _, _, _, rfl, rfl, same.1, same.2⟩
/-- DUTY -/
theorem x_duty (hP : PR B F Lp hours first kind post error round first2 kind2 begins error2) (hM : MR B F Lp C 0 hours kind pl kn lf du ck now) (hA : AR B F Lp C A X hours kind pls kns lfs ods cks row) (ak : Nat → Nat → Nat) (x1 : Int32) :
    ∃ v du' A' X' ak' pls' kns' lfs' ods' cks' now' row', f_X6_duty (nI Lp) pl kn lf du ck (nI A) ak pls kns lfs ods cks x1 = some (v, du', nI A', ak', pls', kns', lfs', ods', cks') ∧ f_X7_duty (nI Lp) now (nI A) (nI X) row x1 = some (v, now', nI A', nI X', row') ∧ MR B F Lp (C + 1) 0 hours kind pl kn lf du' ck now' ∧ AR B F Lp (C + 1) A' X' hours kind pls' kns' lfs' ods' cks' row' := by
  have n10 : ¬ (1 : Int32) = 0 := by decide
  have hF := hP.F5
  have hL := hP.L4
  have same : MR B F Lp (C + 1) 0 hours kind pl kn lf du ck now ∧ AR B F Lp (C + 1) A X hours kind pls kns lfs ods cks row := ⟨hM.mono hF (by omega), hA.mono hF (by omega)⟩
  unfold f_X6_duty f_X7_duty
  rcases lip_cases (n := Lp) (by omega) x1 with ⟨l, hl, rfl, b1, b2⟩ | ⟨-, b1, b2⟩
  · rw [b1, b2, Option.bind_some, Option.bind_some, if_neg n10, if_neg n10]
    obtain ⟨A', X', ak', pls', kns', lfs', ods', cks', row', r1, r2, r3⟩ := x_remember hF hM hA ak
    obtain ⟨d, hdl, hd⟩ := hM.2.2.2.1
    have hd16 := pow_le16 hL hdl
    have hx := xor_fin d hd16 l (by omega)
    have hxl := xor_lt hdl hl
    have hx16 := pow_le16 hL hxl
    have hM1 := MR_dutyB hM hF hxl
    rw [Nat.zero_add] at hM1
    unfold f_X1_turn
    rw [r1, r2, Option.bind_some, Option.bind_some, Option.bind_some, r15, i15, r15, cl15, hM.s15, upd_s, hd, hx, (duty_fin _ hx16 l (by omega)).2, bit_fin _ hx16 l (by omega), Option.bind_some]
    cases (d ^^^ 2 ^ l).testBit l
    · exact ⟨0, _, _, _, _, _, _, _, _, _, _, _, rfl, rfl, hM1.mono hF (by omega), r3.mono hF (by omega)⟩
    · exact ⟨1, _, _, _, _, _, _, _, _, _, _, _, rfl, rfl, hM1.mono hF (by omega), r3.mono hF (by omega)⟩
  · rw [b1, b2, Option.bind_some, Option.bind_some, if_pos rfl, if_pos rfl]
    exact ⟨_, _, _, X, _, _, _, _, _, _, _, _, rfl, rfl, same.1, same.2⟩
end Tops
