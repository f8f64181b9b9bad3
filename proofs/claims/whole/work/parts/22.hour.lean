theorem fa_xorI (a b : Nat) : nI a ^^^ nI b = nI (a ^^^ b) := by
  apply Int32.toBitVec_inj.mp
  rw [Int32.toBitVec_xor]
  show BitVec.ofNat 32 a ^^^ BitVec.ofNat 32 b = BitVec.ofNat 32 (a ^^^ b)
  rw [BitVec.ofNat_xor]
theorem upd_same (f : Nat → Int32) (i : Nat) : upd f i (f i) = f := by
  funext j
  by_cases h : j = i
  · subst h; rw [upd_s]
  · rw [upd_n _ _ h]
theorem duty_fin : ∀ d, d < 16 → ∀ l, l < 4 → f_X7_has (nI d) (nI l) = some (if d.testBit l then 1 else 0) ∧ f_X1_isOnDuty (nI d) (nI l) = some (if d.testBit l then 1 else 0) := by decide +kernel
theorem pow_le16 {Lp d : Nat} (h : Lp ≤ 4) (hd : d < 2 ^ Lp) : d < 16 := by
  have : 2 ^ Lp ≤ 2 ^ 4 := Nat.pow_le_pow_right (by decide) h
  omega
section Hour
variable {B F Lp C lv i l : Nat} {hours first kind post error round first2 kind2 begins error2 : Nat → Int32} {pl kn lf now : Nat → Int32} {du ck : Int32}
theorem jrem_n {a b : Nat} (ha : a < 2 ^ 31) (hb : 0 < b) (hb2 : b < 2 ^ 31) : jrem (nI a) (nI b) = nI (a % b) := pk_rem ha hb hb2
theorem x1_roundOf (hP : PR B F Lp hours first kind post error round first2 kind2 begins error2) (hl : l < Lp) {b c : Nat} (hb : post l = nI b) (hbB : b < B) (hc : c ≤ 1000) : f_X1_roundOf (nI c) (nI B) post (nI l) = some (nI ((b + c) % B)) := by
  have h4 := hP.L4
  have h6 := hP.B5
  have hB : 0 < B := by omega
  have hx : (b + c) ^^^ B < 2 ^ 31 := Nat.xor_lt_two_pow (by omega) (by omega)
  unfold f_X1_roundOf f_J9_floorMod_7cf53
  rw [if_neg (nI_nle hB (by omega)), rd4 (by omega), hb, nI_add, nz_n (nI_ne0 hB (by omega)), fa_xorI, if_pos (nI_pos' hx), Option.bind_some, jrem_n (by omega) hB (by omega)]
theorem x7_bowlOf (hP : PR B F Lp hours first kind post error round first2 kind2 begins error2) (hM : MR B F Lp C (17 * lv) hours kind pl kn lf du ck now) (hlv : lv ≤ 1) (hl : l < Lp) {b c : Nat} (hb : post l = nI b) (hbB : b < B) (hc : c ≤ 1000) (hck : ck = nI c) : f_X7_bowlOf (nI B) begins now (nI lv) (nI l) = some (nI ((b + c) % B)) := by
  have h4 := hP.L4
  have h6 := hP.B5
  have hB : 0 < B := by omega
  unfold f_X7_bowlOf
  simp only [n17, n16]
  rw [rd4 (by omega), rd34 (by omega), hM.2.2.1, (hP.2.2.2 l hl).1, hb, hck, nI_add, nz_n (nI_ne0 hB (by omega)), jrem_n (by omega) hB (by omega)]
/-- a lip that is on duty goes round -/
theorem x_round (hP : PR B F Lp hours first kind post error round first2 kind2 begins error2) (hM : MR B F Lp C (17 * lv) hours kind pl kn lf du ck now) (hlv : lv ≤ 1) (hl : l < Lp) (hC : C ≤ 1000) {d : Nat} (hd : d < 2 ^ Lp) (hdu : du = nI d) (ht : d.testBit l = true) :
    ∃ kn1 lf1 now1, f_X1_goRound pl kn lf ck (nI B) (nI F) hours first kind post error (nI l) = some (kn1, lf1) ∧ (∀ k77, loopN (g_X7_passOn_88 (nI B) (nI F) round first2 kind2 begins error2 (nI lv) (nI (17 * lv)) (nI l) k77) 100 (0, now) = k77 (nI (l + 1), now1)) ∧ MR B F Lp C (17 * lv) hours kind pl kn1 lf1 du ck now1 ∧ FrN (17 * lv) now now1 := by
  have h5 := hP.F5
  have h4 := hP.L4
  have h6 := hP.B5
  obtain ⟨hbe, her, ⟨b, hbB, hpo⟩, ev, hev, hee⟩ := hP.2.2.2 l hl
  obtain ⟨c, hcC, hck⟩ := hM.2.2.2.2
  have hB : 0 < B := by omega
  have htB : (b + c) % B < B := Nat.mod_lt _ hB
  obtain ⟨t, ht0⟩ : ∃ t, t = (b + c) % B := ⟨_, rfl⟩
  unfold f_X1_goRound
  rw [hck, x1_roundOf hP hl hpo hbB (by omega), Option.bind_some, ← ht0]
  have key := loop2r (st1 := g_X1_goRound_8 pl (nI F) hours first kind error (nI l) (nI t)) (st2 := fun k77 => g_X7_passOn_88 (nI B) (nI F) round first2 kind2 begins error2 (nI lv) (nI (17 * lv)) (nI l) k77) F (fun i s1 s2 => s1.1 = nI i ∧ s2.1 = nI i ∧ MR B F Lp C (17 * lv) hours kind pl s1.2.1 s1.2.2 du (nI c) s2.2 ∧ FrN (17 * lv) now s2.2) (fun s => some (s.2.1, s.2.2)) (fun k77 s => k77 (nI (l + 1), s.2)) ?_ ?_ 100 100 0 (0, kn, lf) (0, now) (Nat.zero_le _) (by omega) (by omega) ⟨rfl, rfl, hck ▸ hM, FrN.rf⟩
  · obtain ⟨⟨x, kn1, lf1⟩, ⟨x', now1⟩, ⟨-, -, hM, hF⟩, q1, q2⟩ := key
    exact ⟨kn1, lf1, now1, q1, q2, hM, hF⟩
  · rintro i ⟨x, kn, lf⟩ ⟨x', now1⟩ hi ⟨e1, e2, hM, hF⟩
    dsimp only at e1 e2 hM hF
    subst e1; subst e2
    obtain ⟨a1, a2, a3, ab, a5, a6⟩ := hM.at hi
    obtain ⟨⟨hf2, hk⟩, fv, hfv, hfe⟩ := hP.2.2.1 i hi
    have hlt := lt_le hi (by omega)
    have hdf := (duty_fin d (pow_le16 h4 hd) l (by omega)).1
    have hbo := x7_bowlOf hP hM hlv hl hpo hbB (show c ≤ 1000 by omega) rfl
    rw [← ht0] at hbo
    have h15 := hM.2.1
    have hlas := las_pos hP ab
    by_cases c1 : pl i = nI t
    · by_cases c2 : kn i = -9
      · have hM2 := MR_set (v := jrem (first i + error l) 10) (w := lasS hours kind pl i) h5 hM hi ⟨hlas.1, Int32.le_refl _⟩ (Or.inr ⟨(fv + ev) % 10, Nat.mod_lt _ (by decide), by rw [hfe, hee, nI_add]; exact jrem_n (by omega) (by decide) (by decide)⟩)
        refine ⟨(nI (i + 1), upd kn i (jrem (first i + error l) 10), upd lf i (lasS hours kind pl i)), (nI (i + 1), upd (upd now1 (17 * lv + 5 + i) (jrem (first i + error l) 10)) (17 * lv + 10 + i) (lasS hours kind pl i)), ⟨rfl, rfl, hM2, hF.tr ((FrN.up (by omega) (by omega)).tr (FrN.up (by omega) (by omega)))⟩, fun k => ?_, fun k77 k => ?_⟩
        · simp only [g_X1_goRound_8, f_X1_goRound_8, f_X1_goRound_68, f_X1_goRound_79, if_neg hlt, rd5 (show i < 5 by omega), rd4 (show l < 4 by omega), ix5 (show i < 5 by omega), cl_n (show i < 2 ^ 31 by omega), c1, c2, if_true, nz10, x1_lasts hP hi ab, Option.bind_some, nI_1]
        · simp only [g_X7_passOn_88, f_X7_passOn_88, f_X7_passOn_176, f_X7_passOn_179, if_neg hlt, n15, n5, nI_add, rd34 (show 17 * lv + 15 < 34 by omega), h15, hdu, hdf, ht, if_true, Option.bind_some, if_neg (show ¬ (1 : Int32) = 0 by decide), rd34 (show 17 * lv + i < 34 by omega), a1, hbo, c1, x7_knows hP hM hlv hi, c2, rd5 (show i < 5 by omega), rd4 (show l < 4 by omega), nz10, hf2, her, x7_learn hP hM hlv hi, nI_1]
      · have hM2 := MR_set (v := kn i) (w := lasS hours kind pl i) h5 hM hi ⟨hlas.1, Int32.le_refl _⟩ (Or.inr (a6.resolve_left (fun h => c2 h.1)))
        rw [upd_same] at hM2
        refine ⟨(nI (i + 1), kn, upd lf i (lasS hours kind pl i)), (nI (i + 1), upd (upd now1 (17 * lv + 5 + i) (kn i)) (17 * lv + 10 + i) (lasS hours kind pl i)), ⟨rfl, rfl, hM2, hF.tr ((FrN.up (by omega) (by omega)).tr (FrN.up (by omega) (by omega)))⟩, fun k => ?_, fun k77 k => ?_⟩
        · simp only [g_X1_goRound_8, f_X1_goRound_8, f_X1_goRound_68, f_X1_goRound_79, if_neg hlt, rd5 (show i < 5 by omega), ix5 (show i < 5 by omega), cl_n (show i < 2 ^ 31 by omega), c1, c2, if_true, if_false, x1_lasts hP hi ab, Option.bind_some, nI_1]
        · simp only [g_X7_passOn_88, f_X7_passOn_88, f_X7_passOn_176, f_X7_passOn_179, if_neg hlt, n15, n5, nI_add, rd34 (show 17 * lv + 15 < 34 by omega), h15, hdu, hdf, ht, if_true, Option.bind_some, if_neg (show ¬ (1 : Int32) = 0 by decide), rd34 (show 17 * lv + i < 34 by omega), a1, hbo, c1, x7_knows hP hM hlv hi, c2, if_false, rd34 (show 17 * lv + 5 + i < 34 by omega), a2, x7_learn hP hM hlv hi, nI_1]
    · refine ⟨(nI (i + 1), kn, lf), (nI (i + 1), now1), ⟨rfl, rfl, hM, hF⟩, fun k => ?_, fun k77 k => ?_⟩
      · simp only [g_X1_goRound_8, f_X1_goRound_8, f_X1_goRound_79, if_neg hlt, rd5 (show i < 5 by omega), c1, if_false, nI_1]
      · simp only [g_X7_passOn_88, f_X7_passOn_88, f_X7_passOn_179, if_neg hlt, n15, nI_add, rd34 (show 17 * lv + 15 < 34 by omega), h15, hdu, hdf, ht, if_true, Option.bind_some, if_neg (show ¬ (1 : Int32) = 0 by decide), rd34 (show 17 * lv + i < 34 by omega), a1, hbo, c1, if_false, nI_1]
  · rintro ⟨x, kn, lf⟩ ⟨x', now1⟩ ⟨e1, e2, hM, hF⟩
    dsimp only at e1 e2 hM hF
    subst e1; subst e2
    refine ⟨fun k => ?_, fun k77 k => ?_⟩
    · simp only [g_X1_goRound_8, f_X1_goRound_8, if_pos (nI_le (Nat.le_refl F) (show F < 2 ^ 31 by omega))]
    · simp only [g_X7_passOn_88, f_X7_passOn_88, f_X7_passOn_185, if_pos (nI_le (Nat.le_refl F) (show F < 2 ^ 31 by omega)), nI_1]
/-- one that is ill stays -/
theorem x_noround (hP : PR B F Lp hours first kind post error round first2 kind2 begins error2) (hM : MR B F Lp C (17 * lv) hours kind pl kn lf du ck now) (hlv : lv ≤ 1) (hl : l < Lp) {d : Nat} (hd : d < 2 ^ Lp) (hdu : du = nI d) (ht : d.testBit l = false) (k77 : Int32 × (Nat → Int32) → Option (Nat → Int32)) :
    loopN (g_X7_passOn_88 (nI B) (nI F) round first2 kind2 begins error2 (nI lv) (nI (17 * lv)) (nI l) k77) 100 (0, now) = k77 (nI (l + 1), now) := by
  have h5 := hP.F5
  have h4 := hP.L4
  have h15 := hM.2.1
  have hdf := (duty_fin d (pow_le16 h4 hd) l (by omega)).1
  refine loop1 F (fun i s => s = (nI i, now)) (fun o => o = k77 (nI (l + 1), now)) ?_ ?_ 100 0 _ (Nat.zero_le _) (by omega) rfl
  · rintro i s hi rfl
    left
    have hlt := lt_le hi (by omega)
    refine ⟨(nI (i + 1), now), rfl, fun k => ?_⟩
    simp only [g_X7_passOn_88, f_X7_passOn_88, f_X7_passOn_179, if_neg hlt, n15, rd34 (show 17 * lv + 15 < 34 by omega), h15, hdu, hdf, ht, Option.bind_some, if_true, nI_1, Bool.false_eq_true, if_false]
  · rintro s rfl k
    simp only [g_X7_passOn_88, f_X7_passOn_88, f_X7_passOn_185, if_pos (nI_le (Nat.le_refl F) (by omega)), nI_1]
end Hour
