theorem loop1r {κ σ ρ : Type} {st : κ → (σ → Option ρ) → σ → Option ρ} (n : Nat) (I : Nat → σ → Prop) (E : κ → σ → Option ρ)
    (hs : ∀ i s, i < n → I i s → ∃ s', I (i + 1) s' ∧ ∀ q k, st q k s = k s')
    (he : ∀ s, I n s → ∀ q k, st q k s = E q s) :
    ∀ (f i : Nat) (s : σ), i ≤ n → n - i < f → I i s → ∃ s', I n s' ∧ ∀ q, loopN (st q) f s = E q s' := by
  intro f
  induction f with
  | zero => intro i s _ h; omega
  | succ f ih =>
    intro i s hi h1 hI
    rcases Nat.lt_or_ge i n with hlt | hge
    · obtain ⟨s', hI', e⟩ := hs i s hlt hI
      obtain ⟨s2, h2, e2⟩ := ih (i + 1) s' (by omega) (by omega) hI'
      exact ⟨s2, h2, fun q => (e q _).trans (e2 q)⟩
    · have : i = n := by omega
      subst this
      exact ⟨s, hI, fun q => he s hI q _⟩
theorem pick2 {n : Nat} {P : Nat → Nat → Nat → Nat → Prop} (h : ∀ a b, a < n → b < n → ∃ v w, P a b v w) : ∃ V W : Nat → Nat → Nat, ∀ a b, a < n → b < n → P a b (V a b) (W a b) := by
  refine ⟨fun a b => if q : a < n ∧ b < n then Classical.choose (h a b q.1 q.2) else 0, fun a b => if q : a < n ∧ b < n then Classical.choose (Classical.choose_spec (h a b q.1 q.2)) else 0, fun a b ha hb => ?_⟩
  dsimp only
  rw [dif_pos ⟨ha, hb⟩, dif_pos ⟨ha, hb⟩]
  exact Classical.choose_spec (Classical.choose_spec (h a b ha hb))
theorem n5m (a b : Nat) : (5 : Int32) * nI a + nI b = nI (5 * a + b) := by
  rw [show (5 : Int32) * nI a = nI (5 * a) from pk_mul 5 a, nI_add]
theorem n10m (a b : Nat) : (10 : Int32) * nI a + nI b = nI (10 * a + b) := by
  rw [show (10 : Int32) * nI a = nI (10 * a) from pk_mul 10 a, nI_add]
theorem rd25 {α : Type} {j : Nat} (h : j < 25) (f : Nat → Int32) (k : Int32 → Option α) : rd 25 f (nI j) k = k (f j) := rd_n h (by decide) f k
theorem ix25 {α : Type} {j : Nat} (h : j < 25) (k : Option α) : ix 25 (nI j) k = k := ix_n h (by decide) k
section Rests
variable {B F Lp C i l n : Nat} {hours first kind post error round first2 kind2 begins error2 : Nat → Int32} {pl kn lf now : Nat → Int32} {du ck : Int32}
/-- what two fish have in two bowls -/
theorem x_gain (hP : PR B F Lp hours first kind post error round first2 kind2 begins error2) (hM : MR B F Lp C 0 hours kind pl kn lf du ck now) (hC : C + 12 ≤ 1000) (hi : i < F) {j : Nat} (hj : j < F) {a b : Nat} (ha : a < B) (hb : b < B) :
    ∃ v w : Nat, v ≤ 14 ∧ w ≤ 14 ∧ (∀ oft, ∃ now1 oft1, f_X7_gain (nI B) (nI F) (nI Lp) round first2 kind2 begins error2 now oft (nI i) (nI j) (nI a) (nI b) 0 = some (nI v, now1, oft1) ∧ FrN (17 * 1) now now1)
      ∧ (∀ oft, ∃ now1 oft1, f_X7_gain (nI B) (nI F) (nI Lp) round first2 kind2 begins error2 now oft (nI i) (nI j) (nI a) (nI b) 1 = some (nI w, now1, oft1) ∧ FrN (17 * 1) now now1)
      ∧ ∀ kept one other g1 g2 g3 z1 z2, ∃ kept1 t1 t2 t3 d c, ∀ k2 k16, f_X2_weighPairs_16 (nI B) (nI F) (nI Lp) hours first kind post error pl kn lf du ck (nI i) (nI j) (nI a) k2 k16 (nI b) kept one other g1 g2 g3 z1 z2 = k16 (nI (b + 1), kept1, upd one (5 * a + b) (nI v), upd other (5 * a + b) (nI w), t1, t2, t3, d, c) := by
  have h5 := hP.F5
  have hB5 := hP.B5
  have key : ∀ oft kept one other g1 g2 g3 z1 z2, ∃ v w now1 oft1 kept1 t1 t2 t3 d c, v ≤ 14 ∧ w ≤ 14 ∧ f_X7_gain (nI B) (nI F) (nI Lp) round first2 kind2 begins error2 now oft (nI i) (nI j) (nI a) (nI b) 0 = some (nI v, now1, oft1) ∧ f_X7_gain (nI B) (nI F) (nI Lp) round first2 kind2 begins error2 now oft (nI i) (nI j) (nI a) (nI b) 1 = some (nI w, now1, oft1) ∧ FrN (17 * 1) now now1 ∧ ∀ k2 k16, f_X2_weighPairs_16 (nI B) (nI F) (nI Lp) hours first kind post error pl kn lf du ck (nI i) (nI j) (nI a) k2 k16 (nI b) kept one other g1 g2 g3 z1 z2 = k16 (nI (b + 1), kept1, upd one (5 * a + b) (nI v), upd other (5 * a + b) (nI w), t1, t2, t3, d, c) := by
    intro oft kept one other g1 g2 g3 z1 z2
    obtain ⟨w0, now0, p1, p2, hM1, hF1⟩ := x_put (lv := 1) hP (trial_MR hM h5 g1 g2 g3) (Nat.le_refl 1) hi ha
    obtain ⟨w1, now00, p3, p4, hM2, hF2⟩ := x_put (lv := 1) hP hM1 (Nat.le_refl 1) hj hb
    obtain ⟨kept1, ⟨kn1, lf1, ck1⟩, now1, oft1, q1, q2, o1, o2, ⟨c, hc, ec⟩, ⟨e, he, ee⟩, hF3⟩ := x_long hP hM2 hC hi hj kept oft
    have p2' : f_X7_moveOn round kind2 (va_cpy now now 0 17 17) 1 (nI i) (nI a) = some now0 := p2
    have p4' : f_X7_moveOn round kind2 now0 1 (nI j) (nI b) = some now00 := p4
    have hlt := lt_le hb (show B < 2 ^ 31 by omega)
    have hab2 : nI a = nI b ↔ a = b := nI_eq (by omega) (by omega)
    have hcl : Int32.toNatClampNeg (nI (5 * a + b)) = 5 * a + b := cl_n (by omega)
    by_cases hab : a = b
    · have hab' := hab2.mpr hab
      refine ⟨c, e, now1, oft1, kept1, upd (upd (va_cpy pl g1 0 0 5) i (nI a)) j (nI b), kn1, lf1, du, ck1, by omega, by omega, ?_, ?_, ((Fr_lay.tr hF1).tr hF2).tr hF3, fun k2 k16 => ?_⟩
      · unfold f_X7_gain
        rw [x7_layTrial, Option.bind_some, p2', Option.bind_some, p4', Option.bind_some, q2, Option.bind_some]
        dsimp only
        rw [rd2_0, if_pos hab', o1, ec]
        exact congrArg (fun x => some (x, now1, oft1)) (nI_add c 0)
      · unfold f_X7_gain
        rw [x7_layTrial, Option.bind_some, p2', Option.bind_some, p4', Option.bind_some, q2, Option.bind_some]
        dsimp only
        rw [rd2_1, if_pos hab', o2, ee]
        exact congrArg (fun x => some (x, now1, oft1)) (nI_add e 0)
      · unfold f_X2_weighPairs_16
        rw [if_neg hlt, x2_start, Option.bind_some]
        dsimp only
        rw [p1, Option.bind_some]
        dsimp only
        rw [p3, Option.bind_some]
        dsimp only
        rw [q1, Option.bind_some, if_pos hab']
        unfold f_X2_weighPairs_66
        dsimp only
        rw [n5m, rd5 (by omega), ix25 (by omega), rd5 (by omega), ix25 (by omega), hcl, ec, ee, nI_1, show nI c + 0 = nI c from nI_add c 0, show nI e + 0 = nI e from nI_add e 0]
    · have hab' : ¬ nI a = nI b := fun q => hab (hab2.mp q)
      refine ⟨c + 2, e + 2, now1, oft1, kept1, upd (upd (va_cpy pl g1 0 0 5) i (nI a)) j (nI b), kn1, lf1, du, ck1, by omega, by omega, ?_, ?_, ((Fr_lay.tr hF1).tr hF2).tr hF3, fun k2 k16 => ?_⟩
      · unfold f_X7_gain
        rw [x7_layTrial, Option.bind_some, p2', Option.bind_some, p4', Option.bind_some, q2, Option.bind_some]
        dsimp only
        rw [rd2_0, if_neg hab', o1, ec]
        exact congrArg (fun x => some (x, now1, oft1)) (nI_add c 2)
      · unfold f_X7_gain
        rw [x7_layTrial, Option.bind_some, p2', Option.bind_some, p4', Option.bind_some, q2, Option.bind_some]
        dsimp only
        rw [rd2_1, if_neg hab', o2, ee]
        exact congrArg (fun x => some (x, now1, oft1)) (nI_add e 2)
      · unfold f_X2_weighPairs_16
        rw [if_neg hlt, x2_start, Option.bind_some]
        dsimp only
        rw [p1, Option.bind_some]
        dsimp only
        rw [p3, Option.bind_some]
        dsimp only
        rw [q1, Option.bind_some, if_neg hab']
        unfold f_X2_weighPairs_66
        dsimp only
        rw [n5m, rd5 (by omega), ix25 (by omega), rd5 (by omega), ix25 (by omega), hcl, ec, ee, nI_1, show nI c + 2 = nI (c + 2) from nI_add c 2, show nI e + 2 = nI (e + 2) from nI_add e 2]
  obtain ⟨v, w, now1, oft1, kept1, t1, t2, t3, d, c, hv, hw, r1, r2, r3, r4⟩ := key (fun _ => 0) (fun _ => 0) (fun _ => 0) (fun _ => 0) (fun _ => 0) (fun _ => 0) (fun _ => 0) 0 0
  have same : ∀ oft, ∃ now1 oft1, f_X7_gain (nI B) (nI F) (nI Lp) round first2 kind2 begins error2 now oft (nI i) (nI j) (nI a) (nI b) 0 = some (nI v, now1, oft1) ∧ f_X7_gain (nI B) (nI F) (nI Lp) round first2 kind2 begins error2 now oft (nI i) (nI j) (nI a) (nI b) 1 = some (nI w, now1, oft1) ∧ FrN (17 * 1) now now1 := by
    intro oft
    obtain ⟨v2, w2, now2, oft2, kept2, t12, t22, t32, d2, c2, hv2, hw2, r12, r22, r32, r42⟩ := key oft (fun _ => 0) (fun _ => 0) (fun _ => 0) (fun _ => 0) (fun _ => 0) (fun _ => 0) 0 0
    have e := (r4 (fun _ => none) (fun s => some s.2)).symm.trans (r42 (fun _ => none) (fun s => some s.2))
    injection e with e
    have e1 := congrArg (fun t => t.2.1 (5 * a + b)) e
    have e2 := congrArg (fun t => t.2.2.1 (5 * a + b)) e
    dsimp only at e1 e2
    rw [upd_s, upd_s] at e1 e2
    rw [e1, e2]
    exact ⟨now2, oft2, r12, r22, r32⟩
  refine ⟨v, w, hv, hw, fun oft => ?_, fun oft => ?_, fun kept one other g1 g2 g3 z1 z2 => ?_⟩
  · obtain ⟨n1, n2, s1, s2, s3⟩ := same oft; exact ⟨n1, n2, s1, s3⟩
  · obtain ⟨n1, n2, s1, s2, s3⟩ := same oft; exact ⟨n1, n2, s2, s3⟩
  · obtain ⟨v2, w2, now2, oft2, kept2, t12, t22, t32, d2, c2, hv2, hw2, r12, r22, r32, r42⟩ := key (fun _ => 0) kept one other g1 g2 g3 z1 z2
    have e1 := fst_eq (r1.symm.trans r12)
    have e2 := fst_eq (r2.symm.trans r22)
    refine ⟨kept2, t12, t22, t32, d2, c2, fun k2 k16 => ?_⟩
    rw [r42 k2 k16, e1, e2]
end Rests
