theorem nI_ofI (k : Nat) : nI k = Int32.ofInt (k : Int) := Int32.ofInt_eq_ofNat.symm
theorem ofI_step (S : Int) (a b v w : Nat) : Int32.ofInt S + nI a * nI b * (nI v - nI w) = Int32.ofInt (S + ((a * b : Nat) : Int) * ((v : Int) - (w : Int))) := by
  rw [nI_ofI a, nI_ofI b, nI_ofI v, nI_ofI w, ← Int32.ofInt_sub, ← Int32.ofInt_mul, ← Int32.ofInt_mul, ← Int32.ofInt_add, Int.natCast_mul]
def shMB (n s l : Nat) : Bool := !(decide (s < 2 ^ n) && decide (l < n) && !s.testBit l) || (decide (f_X7_factorial ((nI n - 1) - nI (popN s)) = some (nI (fac (n - 1 - popN s)))) && decide (f_X7_factorial (nI (popN s)) = some (nI (fac (popN s)))))
theorem shMB_fin : ∀ n, n < 5 → ∀ s, s < 16 → ∀ l, l < 4 → shMB n s l = true := by decide +kernel
theorem shm_fin {n s l : Nat} (hn : n ≤ 4) (hs : s < 16) (hl : l < 4) (hsn : s < 2 ^ n) (hln : l < n) (ht : s.testBit l = false) : f_X7_factorial ((nI n - 1) - nI (popN s)) = some (nI (fac (n - 1 - popN s))) ∧ f_X7_factorial (nI (popN s)) = some (nI (fac (popN s))) := by
  have h := shMB_fin n (by omega) s hs l hl
  unfold shMB at h
  rw [ht, decide_eq_true hsn, decide_eq_true hln] at h
  simp only [Bool.true_and, Bool.not_true, Bool.not_false, Bool.false_or, Bool.and_eq_true, decide_eq_true_eq] at h
  exact h
theorem shor_fin : ∀ s, s < 16 → ∀ l, l < 4 → nI s ||| jshl 1 (nI l) = nI (s ||| 2 ^ l) ∧ s ||| 2 ^ l < 16 := by decide +kernel
theorem off_fin : ∀ d, d < 16 → ∀ l, l < 4 → d.testBit l = true → nI d &&& (jshl 1 (nI l) ^^^ (-1)) = nI (offN d l) ∧ offN d l < 16 ∧ popN (offN d l) ≤ 3 := by decide +kernel
theorem offmin_fin : ∀ k, k < 4 → f_J9_min_7cf53 (nI k) 3 = some (nI k) := by decide +kernel
theorem sub_fin : ∀ s, s < 16 → ∀ o, o < 16 → (nI s &&& (nI o ^^^ (-1)) = 0 ↔ s &&& o = s) := by decide +kernel
theorem subp_fin : ∀ s, s < 16 → ∀ o, o < 16 → s &&& o = s → f_J9_min_7cf53 (nI (popN s)) (nI (popN o)) = some (nI (popN s)) ∧ popN s ≤ 4 ∧ nI (popN o) - nI (popN s) = nI (popN o - popN s) ∧ popN o - popN s ≤ 4 := by decide +kernel
def offsB (s d l : Nat) : Bool := !(d.testBit l && (s &&& offN d l) == s) || ((d &&& (s ||| 2 ^ l)) == (s ||| 2 ^ l) && (d &&& s) == s)
theorem offsB_fin : ∀ s, s < 16 → ∀ d, d < 16 → ∀ l, l < 4 → offsB s d l = true := by decide +kernel
theorem offs_fin : ∀ s, s < 16 → ∀ d, d < 16 → ∀ l, l < 4 → d.testBit l = true → s &&& offN d l = s → d &&& (s ||| 2 ^ l) = s ||| 2 ^ l ∧ d &&& s = s := by
  intro s hs d hd l hl h1 h2
  have h := offsB_fin s hs d hd l hl
  unfold offsB at h
  rw [h1, h2] at h
  simp only [Bool.true_and, beq_self_eq_true, Bool.not_true, Bool.false_or, Bool.and_eq_true, beq_iff_eq] at h
  exact h
theorem fac_fin : ∀ n, n < 5 → fa_c n = nI (fac n) ∧ f_X7_factorial (nI n) = some (nI (fac n)) := by decide +kernel
theorem facdiv_fin : ∀ n, n < 5 → ∀ m, m < 5 → m ≤ n → fac n = fac m * (fac n / fac m) ∧ 0 < fac m ∧ fac m ≤ 24 := by decide +kernel
theorem ilt_ne {x2 : Int32} (h : ¬ x2 = 0) (a b : Int32) : f_X2_inLeastTerms a b x2 = f_X2_inLeastTerms a b 1 := by
  unfold f_X2_inLeastTerms
  simp only [if_neg h, if_neg (show ¬ (1 : Int32) = 0 by decide)]
theorem nz_some {α : Type} {y : Int32} {k : Option α} {v : α} (h : nz y k = some v) : y ≠ 0 ∧ k = some v := by
  unfold nz at h
  by_cases e : y = 0
  · rw [if_pos e] at h; exact absurd h (by simp)
  · rw [if_neg e] at h; exact ⟨e, h⟩
/-- the end of SHARE on both sides -/
theorem share_end {n m z : Nat} (hn : n < 5) (h1 : 1 ≤ m) (hm : m ≤ n) (hz : z < 241) (a1 : z ≤ 120 + 5 * fac m) (a2 : 120 ≤ z + 5 * fac m) (x2 : Int32) : ∃ v, f_X2_inLeastTerms (shC z) (nI (fac m)) x2 = some v ∧ ∀ now, f_X7_share_90 (nI n) now x2 (shM n m z) = some (v, now) := by
  have h := shareB_fin n hn m (by omega) z hz
  unfold shareB at h
  rw [decide_eq_true h1, decide_eq_true hm, decide_eq_true a1, decide_eq_true a2] at h
  simp only [Bool.true_and, Bool.not_true, Bool.false_or, Bool.and_eq_true, decide_eq_true_eq] at h
  obtain ⟨⟨⟨e0, s0⟩, e1⟩, s1⟩ := h
  have hf := (fac_fin n hn).2
  by_cases hx : x2 = 0
  · subst hx
    obtain ⟨v, hv⟩ := Option.isSome_iff_exists.mp s0
    refine ⟨v, hv, fun now => ?_⟩
    rw [hv] at e0
    unfold f_X7_share_90
    rw [hf, Option.bind_some]
    cases hc : f_X7_common (shM n m z) (nI (fac n)) with
    | none => rw [hc] at e0; exact absurd e0 (by simp)
    | some w =>
      rw [hc, Option.bind_some] at e0
      obtain ⟨q1, q2⟩ := nz_some e0
      rw [Option.bind_some, if_pos rfl, Option.bind_some, nz_n q1, Option.some.inj q2]
  · obtain ⟨v, hv⟩ := Option.isSome_iff_exists.mp s1
    refine ⟨v, (ilt_ne hx _ _).trans hv, fun now => ?_⟩
    rw [hv] at e1
    unfold f_X7_share_90
    rw [hf, Option.bind_some]
    cases hc : f_X7_common (shM n m z) (nI (fac n)) with
    | none => rw [hc] at e1; exact absurd e1 (by simp)
    | some w =>
      rw [hc, Option.bind_some] at e1
      obtain ⟨q1, q2⟩ := nz_some e1
      rw [Option.bind_some, if_neg hx, nz_n q1, Option.some.inj q2]
section Share
variable {B F Lp C i j l n : Nat} {hours first kind post error round first2 kind2 begins error2 : Nat → Int32} {pl kn lf now : Nat → Int32} {du ck : Int32}
def UI (V : Nat → Nat) (k : Nat) : Int := if k < 16 then (V k : Int) else 0
theorem UI_b {V : Nat → Nat} (h : ∀ k, k < 16 → V k ≤ 5) (k : Nat) : 0 ≤ UI V k ∧ UI V k ≤ 5 := by
  unfold UI
  split
  · have := h k (by assumption); omega
  · omega
theorem UI_at {V : Nat → Nat} {k : Nat} (h : k < 16) : UI V k = (V k : Int) := if_pos h
theorem m_share {V : Nat → Nat} {d : Nat} (hL : Lp ≤ 4) (hl : l < Lp) (hd : d < 16) (hVd : ∀ s, s < 16 → V s = V (d &&& s))
    (hm : ∀ s, s < 16 → ∀ now', FrN (17 * 1) now now' → ∃ now1, f_X7_knowingBy (nI B) (nI F) (nI Lp) round first2 kind2 begins error2 now' (nI s) = some (nI (V s), now1) ∧ FrN (17 * 1) now now1) (x2 : Int32) (P : Option (Int32 × (Nat → Int32)) → Prop)
    (hP : ∀ now1, FrN (17 * 1) now now1 → P (f_X7_share_90 (nI Lp) now1 x2 (Int32.ofInt (sumV (wM Lp l) (fun s => d &&& (s ||| 2 ^ l)) (fun s => d &&& s) (UI V) (2 ^ Lp))))) :
    P (loopN (g_X7_share_15 (nI B) (nI F) (nI Lp) round first2 kind2 begins error2 (nI l) x2) 100 (0, 0, now)) := by
  have hN : 2 ^ Lp ≤ 16 := Nat.pow_le_pow_right (by decide) hL
  refine loop1 (st := g_X7_share_15 (nI B) (nI F) (nI Lp) round first2 kind2 begins error2 (nI l) x2) (2 ^ Lp) (fun s st => st.1 = Int32.ofInt (sumV (wM Lp l) (fun s => d &&& (s ||| 2 ^ l)) (fun s => d &&& s) (UI V) s) ∧ st.2.1 = nI s ∧ FrN (17 * 1) now st.2.2) P ?_ ?_ 100 0 _ (Nat.zero_le _) (by omega) ⟨rfl, rfl, FrN.rf⟩
  · rintro s ⟨x3, x4, n1⟩ hs ⟨e1, e2, hF⟩
    dsimp only at e1 e2 hF
    subst e1; subst e2
    left
    have hlt : ¬ jshl 1 (nI Lp) ≤ nI s := by rw [shl_fin Lp hL]; exact lt_le hs (by omega)
    have hs16 : s < 16 := by omega
    have hh := (duty_fin s hs16 l (by omega)).1
    cases ht : s.testBit l with
    | true =>
      rw [ht, if_pos rfl] at hh
      refine ⟨(Int32.ofInt (sumV (wM Lp l) (fun s => d &&& (s ||| 2 ^ l)) (fun s => d &&& s) (UI V) (s + 1)), nI (s + 1), n1), ⟨rfl, rfl, hF⟩, fun k => ?_⟩
      have hw : wM Lp l s = 0 := if_pos ht
      have e : sumV (wM Lp l) (fun s => d &&& (s ||| 2 ^ l)) (fun s => d &&& s) (UI V) (s + 1) = sumV (wM Lp l) (fun s => d &&& (s ||| 2 ^ l)) (fun s => d &&& s) (UI V) s := by
        show sumV _ _ _ _ s + ((wM Lp l s : Nat) : Int) * _ = _
        rw [hw]; simp only [Int.natCast_zero, Int.zero_mul, Int.add_zero]
      rw [e]
      simp only [g_X7_share_15, f_X7_share_15, f_X7_share_84, if_neg hlt, hh, Option.bind_some, if_neg (show ¬ (1 : Int32) = 0 by decide), nI_1]
    | false =>
      rw [ht, if_neg (by decide)] at hh
      have hp := pop_fin s (by omega)
      obtain ⟨f1, f2⟩ := shm_fin hL hs16 (by omega : l < 4) hs hl ht
      obtain ⟨o1, o2⟩ := shor_fin s hs16 l (by omega)
      obtain ⟨n2, k1, hF1⟩ := hm (s ||| 2 ^ l) o2 n1 hF
      obtain ⟨n3, k2, hF2⟩ := hm s hs16 n2 hF1
      refine ⟨(Int32.ofInt (sumV (wM Lp l) (fun s => d &&& (s ||| 2 ^ l)) (fun s => d &&& s) (UI V) (s + 1)), nI (s + 1), n3), ⟨rfl, rfl, hF2⟩, fun k => ?_⟩
      have hw : wM Lp l s = fac (popN s) * fac (Lp - 1 - popN s) := if_neg (by rw [ht]; decide)
      have e : Int32.ofInt (sumV (wM Lp l) (fun s => d &&& (s ||| 2 ^ l)) (fun s => d &&& s) (UI V) (s + 1)) = Int32.ofInt (sumV (wM Lp l) (fun s => d &&& (s ||| 2 ^ l)) (fun s => d &&& s) (UI V) s) + nI (fac (popN s)) * nI (fac (Lp - 1 - popN s)) * (nI (V (s ||| 2 ^ l)) - nI (V s)) := by
        rw [ofI_step]
        show Int32.ofInt (sumV _ _ _ _ s + ((wM Lp l s : Nat) : Int) * (UI V (d &&& (s ||| 2 ^ l)) - UI V (d &&& s))) = _
        rw [hw, UI_at (Nat.lt_of_le_of_lt Nat.and_le_left hd), UI_at (Nat.lt_of_le_of_lt Nat.and_le_left hd), ← hVd _ o2, ← hVd _ hs16]
      rw [e]
      simp only [g_X7_share_15, f_X7_share_15, f_X7_share_84, if_neg hlt, hh, Option.bind_some, if_true, hp.2.1, f2, f1, o1, k1, k2, nI_1]
  · rintro ⟨x3, x4, n1⟩ ⟨e1, e2, hF⟩ k
    dsimp only at e1 e2 hF
    subst e1; subst e2
    have hle : jshl 1 (nI Lp) ≤ nI (2 ^ Lp) := by rw [shl_fin Lp hL]; exact nI_le (Nat.le_refl _) (by omega)
    simp only [g_X7_share_15, f_X7_share_15, if_pos hle]
    exact hP n1 hF
theorem c_share {V : Nat → Nat} {d : Nat} (hL : Lp ≤ 4) (hl : l < Lp) (hd : d < 16) (hVd : ∀ s, s < 16 → V s = V (d &&& s)) (ht : d.testBit l = true)
    (hm : ∀ s, s < 16 → ∀ g1 g2 g3, ∃ r, f_X2_knowersBy (nI B) (nI F) (nI Lp) hours first kind post error pl kn lf du ck g1 g2 g3 (nI (d &&& s)) = some (nI (V s), r)) (x2 : Int32) (P : Option (Int32 × (Nat → Int32) × (Nat → Int32) × (Nat → Int32) × Int32 × Int32) → Prop) (g1 g2 g3 : Nat → Int32) (z1 z2 : Int32)
    (hP : ∀ g1 g2 g3 z1 z2, P (f_X2_shareOf_132 g1 g2 g3 z1 z2 x2 (nI (popN (offN d l))) (Int32.ofInt (sumV (wC (offN d l)) (fun s => d &&& (s ||| 2 ^ l)) (fun s => d &&& s) (UI V) (2 ^ Lp))))) :
    P (loopN (g_X2_shareOf_48 (nI B) (nI F) (nI Lp) hours first kind post error pl kn lf du ck (nI l) x2 (nI (offN d l)) (nI (popN (offN d l)))) 100 (0, 0, g1, g2, g3, z1, z2)) := by
  have hN : 2 ^ Lp ≤ 16 := Nat.pow_le_pow_right (by decide) hL
  obtain ⟨-, ho16, -⟩ := off_fin d hd l (by omega) ht
  refine loop1 (st := g_X2_shareOf_48 (nI B) (nI F) (nI Lp) hours first kind post error pl kn lf du ck (nI l) x2 (nI (offN d l)) (nI (popN (offN d l)))) (2 ^ Lp) (fun s st => st.1 = Int32.ofInt (sumV (wC (offN d l)) (fun s => d &&& (s ||| 2 ^ l)) (fun s => d &&& s) (UI V) s) ∧ st.2.1 = nI s) P ?_ ?_ 100 0 _ (Nat.zero_le _) (by omega) ⟨rfl, rfl⟩
  · rintro s ⟨x3, x4, g1, g2, g3, z1, z2⟩ hs ⟨e1, e2⟩
    dsimp only at e1 e2
    subst e1; subst e2
    left
    have hlt : ¬ jshl 1 (nI Lp) ≤ nI s := by rw [shl_fin Lp hL]; exact lt_le hs (by omega)
    have hs16 : s < 16 := by omega
    have hsub := sub_fin s hs16 (offN d l) ho16
    by_cases hso : s &&& offN d l = s
    · have hp := pop_fin s (by omega)
      obtain ⟨a1, a2, a3, a4⟩ := subp_fin s hs16 _ ho16 hso
      obtain ⟨b1, b2⟩ := offs_fin s hs16 d hd l (by omega) ht hso
      obtain ⟨o1, o2⟩ := shor_fin s hs16 l (by omega)
      obtain ⟨⟨p1, p2, p3, p4, p5⟩, k1⟩ := hm (s ||| 2 ^ l) o2 g1 g2 g3
      rw [b1] at k1
      obtain ⟨⟨r1, r2, r3, r4, r5⟩, k2⟩ := hm s hs16 p1 p2 p3
      rw [b2] at k2
      refine ⟨(Int32.ofInt (sumV (wC (offN d l)) (fun s => d &&& (s ||| 2 ^ l)) (fun s => d &&& s) (UI V) (s + 1)), nI (s + 1), r1, r2, r3, r4, r5), ⟨rfl, rfl⟩, fun k => ?_⟩
      have hw : wC (offN d l) s = fac (popN s) * fac (popN (offN d l) - popN s) := if_pos hso
      have e : Int32.ofInt (sumV (wC (offN d l)) (fun s => d &&& (s ||| 2 ^ l)) (fun s => d &&& s) (UI V) (s + 1)) = Int32.ofInt (sumV (wC (offN d l)) (fun s => d &&& (s ||| 2 ^ l)) (fun s => d &&& s) (UI V) s) + nI (fac (popN s)) * nI (fac (popN (offN d l) - popN s)) * (nI (V (s ||| 2 ^ l)) - nI (V s)) := by
        rw [ofI_step]
        show Int32.ofInt (sumV _ _ _ _ s + ((wC (offN d l) s : Nat) : Int) * (UI V (d &&& (s ||| 2 ^ l)) - UI V (d &&& s))) = _
        rw [hw, UI_at (Nat.lt_of_le_of_lt Nat.and_le_left hd), UI_at (Nat.lt_of_le_of_lt Nat.and_le_left hd), ← hVd _ o2, ← hVd _ hs16]
      rw [e]
      simp only [g_X2_shareOf_48, f_X2_shareOf_48, f_X2_shareOf_126, if_neg hlt, if_pos (hsub.mpr hso), hp.1, a1, a3, Option.bind_some, rd5 (show popN s < 5 by omega), rd5 (show popN (offN d l) - popN s < 5 by omega), (fac_fin (popN s) (by omega)).1, (fac_fin (popN (offN d l) - popN s) (by omega)).1, o1, k1, k2, nI_1]
    · refine ⟨(Int32.ofInt (sumV (wC (offN d l)) (fun s => d &&& (s ||| 2 ^ l)) (fun s => d &&& s) (UI V) (s + 1)), nI (s + 1), g1, g2, g3, z1, z2), ⟨rfl, rfl⟩, fun k => ?_⟩
      have hw : wC (offN d l) s = 0 := if_neg hso
      have e : sumV (wC (offN d l)) (fun s => d &&& (s ||| 2 ^ l)) (fun s => d &&& s) (UI V) (s + 1) = sumV (wC (offN d l)) (fun s => d &&& (s ||| 2 ^ l)) (fun s => d &&& s) (UI V) s := by
        show sumV _ _ _ _ s + ((wC (offN d l) s : Nat) : Int) * _ = _
        rw [hw]; simp only [Int.natCast_zero, Int.zero_mul, Int.add_zero]
      rw [e]
      simp only [g_X2_shareOf_48, f_X2_shareOf_48, f_X2_shareOf_126, if_neg hlt, if_neg (fun q => hso (hsub.mp q)), nI_1]
  · rintro ⟨x3, x4, g1, g2, g3, z1, z2⟩ ⟨e1, e2⟩ k
    dsimp only at e1 e2
    subst e1; subst e2
    have hle : jshl 1 (nI Lp) ≤ nI (2 ^ Lp) := by rw [shl_fin Lp hL]; exact nI_le (Nat.le_refl _) (by omega)
    simp only [g_X2_shareOf_48, f_X2_shareOf_48, if_pos hle]
    exact hP g1 g2 g3 z1 z2
/-- SHARE -/
theorem x_share (hP : PR B F Lp hours first kind post error round first2 kind2 begins error2) (hM : MR B F Lp C 0 hours kind pl kn lf du ck now) (hC : C + 12 ≤ 1000) (g1 g2 g3 : Nat → Int32) (z1 z2 x1 x2 : Int32) :
    ∃ v r now1, f_X6_share (nI B) (nI F) (nI Lp) hours first kind post error pl kn lf du ck g1 g2 g3 z1 z2 x1 x2 = some (v, r) ∧ f_X7_share (nI B) (nI F) (nI Lp) round first2 kind2 begins error2 now x1 x2 = some (v, now1) ∧ FrN (17 * 1) now now1 := by
  have hL := hP.L4
  unfold f_X6_share f_X7_share
  rcases lip_cases (n := Lp) (by omega) x1 with ⟨l, hl, rfl, c1, c2⟩ | ⟨-, c1, c2⟩
  · rw [c1, c2, Option.bind_some, Option.bind_some, if_neg (show ¬ (1 : Int32) = 0 by decide), if_neg (show ¬ (1 : Int32) = 0 by decide)]
    obtain ⟨d, hdl, hd⟩ := hM.2.2.2.1
    have hd16 := pow_le16 hL hdl
    obtain ⟨V, hV⟩ := pickV (n := 16) (P := fun s v => v ≤ 5 ∧ (∃ now1, f_X7_knowingBy (nI B) (nI F) (nI Lp) round first2 kind2 begins error2 now (nI s) = some (nI v, now1) ∧ FrN (17 * 1) now now1) ∧ ∀ g1 g2 g3, ∃ r, f_X2_knowersBy (nI B) (nI F) (nI Lp) hours first kind post error pl kn lf du ck g1 g2 g3 (nI (d &&& s)) = some (nI v, r)) (fun s hs => by
      obtain ⟨v, now1, a1, a2, a3, a4⟩ := x_knowers hP hM hC hd hdl hs
      exact ⟨v, a1, ⟨now1, a2, a3⟩, a4⟩)
    have hds : ∀ s, d &&& s < 16 := fun s => Nat.lt_of_le_of_lt Nat.and_le_left hd16
    have hVd : ∀ s, s < 16 → V s = V (d &&& s) := by
      intro s hs
      obtain ⟨b1, -, b2⟩ := hV s hs
      obtain ⟨e1, -, e2⟩ := hV (d &&& s) (hds s)
      obtain ⟨r1, q1⟩ := b2 g1 g2 g3
      obtain ⟨r2, q2⟩ := e2 g1 g2 g3
      rw [← Nat.and_assoc, Nat.and_self, q1] at q2
      exact (nI_eq (by omega) (by omega)).mp (fst_eq q2)
    have hm : ∀ s, s < 16 → ∀ now', FrN (17 * 1) now now' → ∃ now1, f_X7_knowingBy (nI B) (nI F) (nI Lp) round first2 kind2 begins error2 now' (nI s) = some (nI (V s), now1) ∧ FrN (17 * 1) now now1 := by
      intro s hs now' hF
      rw [knowingBy_eq hF]; exact (hV s hs).2.1
    have hps : ∀ s, s < 2 ^ Lp → (d &&& (s ||| 2 ^ l)) < 16 ∧ (d &&& s) < 16 := fun s _ => ⟨hds _, hds _⟩
    have hdut := (duty_fin d hd16 l (by omega)).2
    unfold f_X2_shareOf
    rw [hd, hdut]
    cases ht : d.testBit l with
    | false =>
      rw [if_neg (by decide), Option.bind_some, if_pos rfl]
      obtain ⟨v, e1, e2⟩ := share_end (n := Lp) (m := 1) (z := 120) (by omega) (by omega) (by omega) (by omega) (by decide) (by decide) x2
      have e1' : f_X2_inLeastTerms 0 1 x2 = some v := e1
      rw [e1', Option.bind_some, Option.bind_some]
      refine m_share hL hl hd16 hVd hm x2 (fun o => ∃ v r now1, _ = some (v, r) ∧ o = some (v, now1) ∧ FrN (17 * 1) now now1) (fun now1 hF => ?_)
      refine ⟨v, _, now1, rfl, ?_, hF⟩
      have h0 : sumV (wM Lp l) (fun s => d &&& (s ||| 2 ^ l)) (fun s => d &&& s) (UI V) (2 ^ Lp) = 0 := by
        rw [sumV_dot hps]
        have hz := coef_zero hL hd16 (by omega : l < 4) hdl hl ht
        have := dot_scale (c := coefN (wM Lp l) (fun s => d &&& (s ||| 2 ^ l)) (fun s => d &&& s) (2 ^ Lp)) (e := fun _ => 0) (U := UI V) (x := 1) (y := 1) (n := 16) (fun k hk => by rw [hz k hk])
        rw [dot_zero, Int.mul_one, Int.zero_mul] at this
        exact this
      rw [h0]
      have := e2 now1
      have hsm : shM Lp 1 120 = Int32.ofInt 0 := by
        unfold shM
        rw [show ((120 : Nat) : Int) - 120 = 0 from rfl, Int.zero_mul]
      rw [hsm] at this
      exact this
    | true =>
      rw [if_pos rfl, Option.bind_some, if_neg (by decide)]
      obtain ⟨o1, o2, o3⟩ := off_fin d hd16 l (by omega) ht
      obtain ⟨f1, f2, f3, f4⟩ := coef_fin hL hd16 (by omega : l < 4) hdl hl ht
      rw [o1, (pop_fin _ (by omega)).1, Option.bind_some, offmin_fin _ (by omega), Option.bind_some]
      have hUb := UI_b (V := V) (fun k hk => (hV k hk).1)
      obtain ⟨b1, b2⟩ := sumV_le (w := wC (offN d l)) (p := fun s => d &&& (s ||| 2 ^ l)) (q := fun s => d &&& s) hUb (2 ^ Lp)
      rw [f2] at b1 b2
      have hsc : sumV (wM Lp l) (fun s => d &&& (s ||| 2 ^ l)) (fun s => d &&& s) (UI V) (2 ^ Lp) * (fac (popN d) : Int) = sumV (wC (offN d l)) (fun s => d &&& (s ||| 2 ^ l)) (fun s => d &&& s) (UI V) (2 ^ Lp) * (fac Lp : Int) := by
        rw [sumV_dot hps, sumV_dot hps]
        exact dot_scale f1
      obtain ⟨g1', g2', g3'⟩ := facdiv_fin Lp (by omega) (popN d) (by omega) f4
      generalize hSc : sumV (wC (offN d l)) (fun s => d &&& (s ||| 2 ^ l)) (fun s => d &&& s) (UI V) (2 ^ Lp) = Sc at *
      generalize hSm : sumV (wM Lp l) (fun s => d &&& (s ||| 2 ^ l)) (fun s => d &&& s) (UI V) (2 ^ Lp) = Sm at *
      have hSmE : Sm = Sc * ((fac Lp / fac (popN d) : Nat) : Int) := by
        have hne : (fac (popN d) : Int) ≠ 0 := by omega
        apply Int.eq_of_mul_eq_mul_right hne
        rw [hsc, Int.mul_assoc, ← Int.natCast_mul]
        congr 2
        rw [Nat.mul_comm]; exact g1'
      obtain ⟨z, hz, hzz⟩ : ∃ z : Nat, z < 241 ∧ Sc = (z : Int) - 120 := ⟨(Sc + 120).toNat, by omega, by omega⟩
      obtain ⟨v, e1, e2⟩ := share_end (n := Lp) (m := popN d) (z := z) (by omega) (by omega) f4 hz (by omega) (by omega) x2
      refine m_share hL hl hd16 hVd hm x2 (fun o => ∃ v r now1, _ = some (v, r) ∧ o = some (v, now1) ∧ FrN (17 * 1) now now1) (fun now1 hF => ?_)
      refine c_share (l := l) hL hl hd16 hVd ht (fun s hs => (hd ▸ (hV s hs).2.2)) x2 (fun o => ∃ v r now1, o.bind _ = some (v, r) ∧ _ = some (v, now1) ∧ FrN (17 * 1) now now1) g1 g2 g3 z1 z2 (fun g1 g2 g3 z1 z2 => ?_)
      refine ⟨v, (g1, g2, g3, z1, z2), now1, ?_, ?_, hF⟩
      · unfold f_X2_shareOf_132
        rw [nI_1, f3, rd5 (by omega), (fac_fin (popN d) (by omega)).1, hSc, hzz]
        have e1' : f_X2_inLeastTerms (Int32.ofInt ((z : Int) - 120)) (nI (fac (popN d))) x2 = some v := e1
        rw [e1', Option.bind_some, Option.bind_some]
      · rw [hSm, hSmE, hzz]
        exact e2 now1
  · rw [c1, c2, Option.bind_some, Option.bind_some, if_pos rfl, if_pos rfl]
    exact ⟨_, _, _, rfl, rfl, FrN.rf⟩
end Share
