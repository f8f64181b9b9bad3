section Vals
variable {B F Lp C i l n : Nat} {hours first kind post error round first2 kind2 begins error2 : Nat → Int32} {pl kn lf now : Nat → Int32} {du ck : Int32}
theorem fst_eq {α β : Type} {v v2 : α} {a b : β} (h : some (v, a) = some (v2, b)) : v = v2 := (Prod.mk.inj (Option.some.inj h)).1
theorem r32 {α : Type} (f : Nat → Int32) (k : Int32 → Option α) : rd 34 f 32 k = k (f 32) := rd_n (j := 32) (by decide) (by decide) f k
theorem i32 {α : Type} (k : Option α) : ix 34 32 k = k := ix_n (j := 32) (by decide) (by decide) k
theorem cl32 : Int32.toNatClampNeg 32 = 32 := by decide
theorem cpy32 (hM : MR B F Lp C 0 hours kind pl kn lf du ck now) : va_cpy now now 0 17 17 32 = du := by
  have h := cpy_in (f := now) (g := now) (sp := 0) (dp := 17) (n := 17) (j := 15) (by decide)
  have h15 : now (0 + 15) = du := hM.2.1
  rw [h15] at h; exact h
theorem and_fin : ∀ a, a < 16 → ∀ b, b < 16 → nI a &&& nI b = nI (a &&& b) := fun a _ b _ => by
  apply Int32.toBitVec_inj.mp
  rw [Int32.toBitVec_and]
  show BitVec.ofNat 32 a &&& BitVec.ofNat 32 b = BitVec.ofNat 32 (a &&& b)
  rw [BitVec.ofNat_and]
/-- how many know behind twelve hours, with these on duty alone -/
theorem x_knowers (hP : PR B F Lp hours first kind post error round first2 kind2 begins error2) (hM : MR B F Lp C 0 hours kind pl kn lf du ck now) (hC : C + 12 ≤ 1000) {d s : Nat} (hd : du = nI d) (hdl : d < 2 ^ Lp) (hs : s < 16) :
    ∃ v now1, v ≤ 5 ∧ f_X7_knowingBy (nI B) (nI F) (nI Lp) round first2 kind2 begins error2 now (nI s) = some (nI v, now1) ∧ FrN (17 * 1) now now1 ∧ ∀ g1 g2 g3, ∃ r, f_X2_knowersBy (nI B) (nI F) (nI Lp) hours first kind post error pl kn lf du ck g1 g2 g3 (nI (d &&& s)) = some (nI v, r) := by
  have h5 := hP.F5
  have hd16 := pow_le16 hP.L4 hdl
  have hds : d &&& s < 2 ^ Lp := Nat.lt_of_le_of_lt Nat.and_le_left hdl
  have key : ∀ g1 g2 g3, ∃ v r now1, v ≤ 5 ∧ f_X2_knowersBy (nI B) (nI F) (nI Lp) hours first kind post error pl kn lf du ck g1 g2 g3 (nI (d &&& s)) = some (nI v, r) ∧ f_X7_knowingBy (nI B) (nI F) (nI Lp) round first2 kind2 begins error2 now (nI s) = some (nI v, now1) ∧ FrN (17 * 1) now now1 := by
    intro g1 g2 g3
    have hM0 := MR_duty (trial_MR hM h5 g1 g2 g3) h5 hds
    obtain ⟨kn1, lf1, ck1, now1, r1, r2, r3, r4⟩ := x_passes (n := 12) (st2 := g_X7_knowingBy_17 (nI B) (nI F) (nI Lp) round first2 kind2 begins error2) (E := fun now => f_X7_knowingBy_34 (nI F) first2 now) hP hM0 (by decide) hC
      (fun k x now hx => by simp only [g_X7_knowingBy_17, f_X7_knowingBy_17, if_neg (show ¬ (12 : Int32) ≤ nI x from lt_le (b := 12) hx (by decide)), nI_1])
      (fun k now => by simp only [g_X7_knowingBy_17, f_X7_knowingBy_17, if_pos (show (12 : Int32) ≤ nI 12 from Int32.le_refl _)])
    have hX := bitsN_32 (fun i => decide (kn1 i ≠ -9)) h5
    have hpop := pop_fin _ hX
    have hkn : f_X7_knowing (nI F) first2 now1 1 0 = some (nI (bitsN (fun i => decide (kn1 i ≠ -9)) F)) := x7_knowing0 (lv := 1) hP r3 (Nat.le_refl 1)
    have r1' : f_X2_passHours (nI B) (nI F) (nI Lp) hours first kind post error (va_cpy pl g1 0 0 5) (va_cpy kn g2 0 0 5) (va_cpy lf g3 0 0 5) (nI (d &&& s)) ck 12 = some (kn1, lf1, ck1) := r1
    refine ⟨popN (bitsN (fun i => decide (kn1 i ≠ -9)) F), (va_cpy pl g1 0 0 5, kn1, lf1, nI (d &&& s), ck1), now1, hpop.2.2, ?_, ?_, (Fr_lay.tr Fr32).tr r4⟩
    · unfold f_X2_knowersBy
      rw [x2_start, Option.bind_some]
      dsimp only
      rw [r1', Option.bind_some, x1_knowing h5, Option.bind_some, hpop.1, Option.bind_some]
    · unfold f_X7_knowingBy
      rw [x7_layTrial, Option.bind_some, r32, i32, cl32, cpy32 hM, hd, and_fin d hd16 s hs, r2]
      unfold f_X7_knowingBy_34
      rw [hkn, Option.bind_some, hpop.2.1, Option.bind_some]
  obtain ⟨v, r, now1, r0, r1, r2, r4⟩ := key (fun _ => 0) (fun _ => 0) (fun _ => 0)
  refine ⟨v, now1, r0, r2, r4, fun g1 g2 g3 => ?_⟩
  obtain ⟨v2, rr, now2, s0, s1, s2, s4⟩ := key g1 g2 g3
  rw [r2] at s2
  exact ⟨rr, by rw [s1, fst_eq s2]⟩
/-- KEPT -/
theorem x_keptIn (hP : PR B F Lp hours first kind post error round first2 kind2 begins error2) (hM : MR B F Lp C 0 hours kind pl kn lf du ck now) (hC : C + 12 ≤ 1000) (hi : i < F) {b : Nat} (hb : b < B) :
    ∃ v, v ≤ 12 ∧ (∀ oft, ∃ now1 oft1, f_X7_keptIn (nI B) (nI F) (nI Lp) round first2 kind2 begins error2 now oft (nI i) (nI b) = some (nI v, now1, oft1) ∧ FrN (17 * 1) now now1) ∧ ∀ kept g1 g2 g3, ∃ r, f_X2_keptIn kept (nI B) (nI F) (nI Lp) hours first kind post error pl kn lf du ck g1 g2 g3 (nI i) (nI b) = some (nI v, r) := by
  have h5 := hP.F5
  have key : ∀ oft kept g1 g2 g3, ∃ v r now1 oft1, v ≤ 12 ∧ f_X2_keptIn kept (nI B) (nI F) (nI Lp) hours first kind post error pl kn lf du ck g1 g2 g3 (nI i) (nI b) = some (nI v, r) ∧ f_X7_keptIn (nI B) (nI F) (nI Lp) round first2 kind2 begins error2 now oft (nI i) (nI b) = some (nI v, now1, oft1) ∧ FrN (17 * 1) now now1 := by
    intro oft kept g1 g2 g3
    obtain ⟨w, now0, p1, p2, hM1, hF1⟩ := x_put (lv := 1) hP (trial_MR hM h5 g1 g2 g3) (Nat.le_refl 1) hi hb
    obtain ⟨kept1, ⟨kn1, lf1, ck1⟩, now1, oft1, q1, q2, o1, o2, ⟨c, hc, ec⟩, -, hF2⟩ := x_long hP hM1 hC hi hi kept oft
    have p2' : f_X7_moveOn round kind2 (va_cpy now now 0 17 17) 1 (nI i) (nI b) = some now0 := p2
    refine ⟨c, (kept1, upd (va_cpy pl g1 0 0 5) i (nI b), kn1, lf1, du, ck1), now1, oft1, hc, ?_, ?_, (Fr_lay.tr hF1).tr hF2⟩
    · unfold f_X2_keptIn
      rw [x2_start, Option.bind_some]
      dsimp only
      rw [p1, Option.bind_some]
      dsimp only
      rw [q1, Option.bind_some, rd5 (by omega)]
      dsimp only
      rw [ec]
    · unfold f_X7_keptIn
      rw [x7_layTrial, Option.bind_some, p2', Option.bind_some, q2, Option.bind_some]
      dsimp only
      rw [rd2_0, o1, ec]
  obtain ⟨v, r, now1, oft1, hv, r1, r2, r4⟩ := key (fun _ => 0) (fun _ => 0) (fun _ => 0) (fun _ => 0) (fun _ => 0)
  refine ⟨v, hv, fun oft => ?_, fun kept g1 g2 g3 => ?_⟩
  · obtain ⟨v2, rr, now2, oft2, s0, s1, s2, s4⟩ := key oft (fun _ => 0) (fun _ => 0) (fun _ => 0) (fun _ => 0)
    rw [r1] at s1
    exact ⟨now2, oft2, by rw [s2, fst_eq s1], s4⟩
  · obtain ⟨v2, rr, now2, oft2, s0, s1, s2, s4⟩ := key (fun _ => 0) kept g1 g2 g3
    rw [r2] at s2
    exact ⟨rr, by rw [s1, fst_eq s2]⟩
/-- the trial doesn't matter to KEPT -/
theorem keptIn_eq {now now' oft : Nat → Int32} {x y : Int32} {b f p : Int32} {q1 q2 q3 q4 q5 : Nat → Int32} (h : FrN (17 * 1) now now') : f_X7_keptIn b f p q1 q2 q3 q4 q5 now' oft x y = f_X7_keptIn b f p q1 q2 q3 q4 q5 now oft x y := by
  unfold f_X7_keptIn
  rw [lay_eq h]
theorem knowingBy_eq {now now' : Nat → Int32} {x : Int32} {b f p : Int32} {q1 q2 q3 q4 q5 : Nat → Int32} (h : FrN (17 * 1) now now') : f_X7_knowingBy b f p q1 q2 q3 q4 q5 now' x = f_X7_knowingBy b f p q1 q2 q3 q4 q5 now x := by
  unfold f_X7_knowingBy
  rw [lay_eq h]
theorem isKeptBy_eq {now now' : Nat → Int32} {x : Int32} {b f p : Int32} {q1 q2 q3 q4 q5 : Nat → Int32} (h : FrN (17 * 1) now now') : f_X7_isKeptBy b f p q1 q2 q3 q4 q5 now' x = f_X7_isKeptBy b f p q1 q2 q3 q4 q5 now x := by
  unfold f_X7_isKeptBy
  rw [lay_eq h]
theorem gain_eq {now now' oft : Nat → Int32} {x1 x2 x3 x4 x5 : Int32} {b f p : Int32} {q1 q2 q3 q4 q5 : Nat → Int32} (h : FrN (17 * 1) now now') : f_X7_gain b f p q1 q2 q3 q4 q5 now' oft x1 x2 x3 x4 x5 = f_X7_gain b f p q1 q2 q3 q4 q5 now oft x1 x2 x3 x4 x5 := by
  unfold f_X7_gain
  rw [lay_eq h]
end Vals
