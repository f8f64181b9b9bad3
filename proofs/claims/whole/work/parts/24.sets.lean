def bitsN (p : Nat → Bool) : Nat → Nat
  | 0 => 0
  | n + 1 => bitsN p n + (if p n then 2 ^ n else 0)
theorem bitsN_lt (p : Nat → Bool) : ∀ n, bitsN p n < 2 ^ n
  | 0 => (by show 0 < 1; decide)
  | n + 1 => by
    have := bitsN_lt p n
    unfold bitsN
    rw [Nat.pow_succ]
    split <;> omega
theorem bitsN_32 (p : Nat → Bool) {n : Nat} (h : n ≤ 5) : bitsN p n < 32 := by
  have h1 := bitsN_lt p n
  have : 2 ^ n ≤ 2 ^ 5 := Nat.pow_le_pow_right (by decide) h
  omega
theorem bitsN_cong {p q : Nat → Bool} : ∀ {n : Nat}, (∀ i, i < n → p i = q i) → bitsN p n = bitsN q n
  | 0, _ => rfl
  | n + 1, h => by
    unfold bitsN
    rw [bitsN_cong (fun i hi => h i (by omega)), h n (by omega)]
theorem or_fin : ∀ i, i < 5 → ∀ X, X < 32 → X < 2 ^ i → nI X ||| jshl 1 (nI i) = nI (X + 2 ^ i) := by decide +kernel
theorem or_zero : ∀ X, X < 32 → nI X ||| 0 = nI X := by decide +kernel
theorem or_bit (p : Nat → Bool) {i : Nat} (hi : i < 5) (h : p i = true) : nI (bitsN p i) ||| jshl 1 (nI i) = nI (bitsN p (i + 1)) := by
  rw [or_fin i hi _ (bitsN_32 p (by omega)) (bitsN_lt p i)]
  show _ = nI (bitsN p i + (if p i then 2 ^ i else 0))
  rw [h]; rfl
theorem no_bit (p : Nat → Bool) {i : Nat} (h : p i = false) : bitsN p (i + 1) = bitsN p i := by
  show bitsN p i + (if p i then 2 ^ i else 0) = _
  rw [h]; rfl
theorem or_nobit (p : Nat → Bool) {i : Nat} (hi : i < 5) (h : p i = false) : nI (bitsN p i) ||| 0 = nI (bitsN p (i + 1)) := by
  rw [or_zero _ (bitsN_32 p (by omega)), no_bit p h]
def popN (X : Nat) : Nat := X % 2 + X / 2 % 2 + X / 4 % 2 + X / 8 % 2 + X / 16 % 2
theorem pop_fin : ∀ X, X < 32 → f_J6_bitCount_0f7a4 (nI X) = some (nI (popN X)) ∧ f_X7_ones (nI X) = some (nI (popN X)) ∧ popN X ≤ 5 := by decide +kernel
section Sets
variable {B F Lp C lv i l : Nat} {hours first kind post error round first2 kind2 begins error2 : Nat → Int32} {pl kn lf now : Nat → Int32} {du ck : Int32}
theorem x1_knowing (hF : F ≤ 5) : f_X1_knowing kn (nI F) = some (nI (bitsN (fun i => decide (kn i ≠ -9)) F)) := by
  unfold f_X1_knowing
  refine loop1 F (fun i s => s = (nI (bitsN (fun i => decide (kn i ≠ -9)) i), nI i)) (fun o => o = some (nI (bitsN (fun i => decide (kn i ≠ -9)) F))) ?_ ?_ 100 0 _ (Nat.zero_le _) (by omega) rfl
  · rintro i s hi rfl
    left
    have hlt := lt_le hi (by omega)
    refine ⟨_, rfl, fun k => ?_⟩
    by_cases c : kn i = -9
    · simp only [g_X1_knowing_4, f_X1_knowing_4, f_X1_knowing_32, if_neg hlt, rd5 (show i < 5 by omega), c, if_true, nI_1]
      rw [no_bit _ (by simp [c])]
    · simp only [g_X1_knowing_4, f_X1_knowing_4, f_X1_knowing_32, if_neg hlt, rd5 (show i < 5 by omega), c, if_false, nI_1]
      rw [or_bit _ (by omega) (by simp [c])]
  · rintro s rfl k
    simp only [g_X1_knowing_4, f_X1_knowing_4, if_pos (nI_le (Nat.le_refl F) (show F < 2 ^ 31 by omega))]
theorem x1_knowingFirst (hF : F ≤ 5) : f_X1_knowingFirst kn (nI F) first = some (nI (bitsN (fun i => decide (kn i = first i)) F)) := by
  unfold f_X1_knowingFirst
  refine loop1 F (fun i s => s = (nI (bitsN (fun i => decide (kn i = first i)) i), nI i)) (fun o => o = some (nI (bitsN (fun i => decide (kn i = first i)) F))) ?_ ?_ 100 0 _ (Nat.zero_le _) (by omega) rfl
  · rintro i s hi rfl
    left
    have hlt := lt_le hi (by omega)
    refine ⟨_, rfl, fun k => ?_⟩
    by_cases c : kn i = first i
    · simp only [g_X1_knowingFirst_4, f_X1_knowingFirst_4, f_X1_knowingFirst_39, if_neg hlt, rd5 (show i < 5 by omega), c, if_true, nI_1]
      rw [or_bit _ (by omega) (by simp [c])]
    · simp only [g_X1_knowingFirst_4, f_X1_knowingFirst_4, f_X1_knowingFirst_39, if_neg hlt, rd5 (show i < 5 by omega), c, if_false, nI_1]
      rw [no_bit _ (by simp [c])]
  · rintro s rfl k
    simp only [g_X1_knowingFirst_4, f_X1_knowingFirst_4, if_pos (nI_le (Nat.le_refl F) (show F < 2 ^ 31 by omega))]
theorem x7_knowing0 (hP : PR B F Lp hours first kind post error round first2 kind2 begins error2) (hM : MR B F Lp C (17 * lv) hours kind pl kn lf du ck now) (hlv : lv ≤ 1) : f_X7_knowing (nI F) first2 now (nI lv) 0 = some (nI (bitsN (fun i => decide (kn i ≠ -9)) F)) := by
  have hF := hP.F5
  unfold f_X7_knowing
  refine loop1 F (fun i s => s = (nI (bitsN (fun i => decide (kn i ≠ -9)) i), nI i)) (fun o => o = some (nI (bitsN (fun i => decide (kn i ≠ -9)) F))) ?_ ?_ 100 0 _ (Nat.zero_le _) (by omega) rfl
  · rintro i s hi rfl
    left
    have hlt := lt_le hi (by omega)
    obtain ⟨a1, a2, a3, ab, a5, a6⟩ := hM.at hi
    refine ⟨_, rfl, fun k => ?_⟩
    by_cases c : kn i = -9
    · simp only [g_X7_knowing_5, f_X7_knowing_5, f_X7_knowing_64, f_X7_knowing_57, f_X7_knowing_65, if_neg hlt, n17, n5, nI_add, rd34 (show 17 * lv + 5 + i < 34 by omega), a2, c, if_true, nI_1]
      rw [or_nobit _ (by omega) (by simp [c])]
    · simp only [g_X7_knowing_5, f_X7_knowing_5, f_X7_knowing_64, f_X7_knowing_57, f_X7_knowing_65, if_neg hlt, n17, n5, nI_add, rd34 (show 17 * lv + 5 + i < 34 by omega), a2, c, if_true, if_false, nI_1]
      rw [or_bit _ (by omega) (by simp [c])]
  · rintro s rfl k
    simp only [g_X7_knowing_5, f_X7_knowing_5, if_pos (nI_le (Nat.le_refl F) (show F < 2 ^ 31 by omega))]
theorem x7_knowing1 (hP : PR B F Lp hours first kind post error round first2 kind2 begins error2) (hM : MR B F Lp C (17 * lv) hours kind pl kn lf du ck now) (hlv : lv ≤ 1) : f_X7_knowing (nI F) first2 now (nI lv) 1 = some (nI (bitsN (fun i => decide (kn i = first i)) F)) := by
  have hF := hP.F5
  unfold f_X7_knowing
  refine loop1 F (fun i s => s = (nI (bitsN (fun i => decide (kn i = first i)) i), nI i)) (fun o => o = some (nI (bitsN (fun i => decide (kn i = first i)) F))) ?_ ?_ 100 0 _ (Nat.zero_le _) (by omega) rfl
  · rintro i s hi rfl
    left
    have hlt := lt_le hi (by omega)
    obtain ⟨a1, a2, a3, ab, a5, a6⟩ := hM.at hi
    have hf2 := (hP.2.2.1 i hi).1.1
    refine ⟨_, rfl, fun k => ?_⟩
    by_cases c : kn i = first i
    · simp only [g_X7_knowing_5, f_X7_knowing_5, f_X7_knowing_64, f_X7_knowing_57, f_X7_knowing_65, if_neg hlt, n17, n5, nI_add, rd34 (show 17 * lv + 5 + i < 34 by omega), if_neg (show ¬ (1 : Int32) = 0 by decide), rd5 (show i < 5 by omega), hf2, a2, c, if_true, nI_1]
      rw [or_bit _ (by omega) (by simp [c])]
    · simp only [g_X7_knowing_5, f_X7_knowing_5, f_X7_knowing_64, f_X7_knowing_57, f_X7_knowing_65, if_neg hlt, n17, n5, nI_add, rd34 (show 17 * lv + 5 + i < 34 by omega), if_neg (show ¬ (1 : Int32) = 0 by decide), rd5 (show i < 5 by omega), hf2, a2, c, if_false, nI_1]
      rw [or_nobit _ (by omega) (by simp [c])]
  · rintro s rfl k
    simp only [g_X7_knowing_5, f_X7_knowing_5, if_pos (nI_le (Nat.le_refl F) (show F < 2 ^ 31 by omega))]
theorem x1_fishIn (hF : F ≤ 5) (x : Int32) : f_X1_fishIn pl (nI F) x = some (nI (bitsN (fun i => decide (pl i = x)) F)) := by
  unfold f_X1_fishIn
  refine loop1 F (fun i s => s = (nI (bitsN (fun i => decide (pl i = x)) i), nI i)) (fun o => o = some (nI (bitsN (fun i => decide (pl i = x)) F))) ?_ ?_ 100 0 _ (Nat.zero_le _) (by omega) rfl
  · rintro i s hi rfl
    left
    have hlt := lt_le hi (by omega)
    refine ⟨_, rfl, fun k => ?_⟩
    by_cases c : pl i = x
    · simp only [g_X1_fishIn_4, f_X1_fishIn_4, f_X1_fishIn_31, if_neg hlt, rd5 (show i < 5 by omega), c, if_true, nI_1]
      rw [or_bit _ (by omega) (by simp [c])]
    · simp only [g_X1_fishIn_4, f_X1_fishIn_4, f_X1_fishIn_31, if_neg hlt, rd5 (show i < 5 by omega), c, if_false, nI_1]
      rw [no_bit _ (by simp [c])]
  · rintro s rfl k
    simp only [g_X1_fishIn_4, f_X1_fishIn_4, if_pos (nI_le (Nat.le_refl F) (show F < 2 ^ 31 by omega))]
theorem x7_inBowl (hP : PR B F Lp hours first kind post error round first2 kind2 begins error2) (hM : MR B F Lp C (17 * lv) hours kind pl kn lf du ck now) (hlv : lv ≤ 1) (x : Int32) : f_X7_inBowl (nI F) now (nI lv) x = some (nI (bitsN (fun i => decide (pl i = x)) F)) := by
  have hF := hP.F5
  unfold f_X7_inBowl
  refine loop1 F (fun i s => s = (nI (bitsN (fun i => decide (pl i = x)) i), nI i)) (fun o => o = some (nI (bitsN (fun i => decide (pl i = x)) F))) ?_ ?_ 100 0 _ (Nat.zero_le _) (by omega) rfl
  · rintro i s hi rfl
    left
    have hlt := lt_le hi (by omega)
    obtain ⟨a1, a2, a3, ab, a5, a6⟩ := hM.at hi
    refine ⟨_, rfl, fun k => ?_⟩
    by_cases c : pl i = x
    · simp only [g_X7_inBowl_5, f_X7_inBowl_5, f_X7_inBowl_39, if_neg hlt, n17, nI_add, rd34 (show 17 * lv + i < 34 by omega), a1, c, if_true, nI_1]
      rw [or_bit _ (by omega) (by simp [c])]
    · simp only [g_X7_inBowl_5, f_X7_inBowl_5, f_X7_inBowl_39, if_neg hlt, n17, nI_add, rd34 (show 17 * lv + i < 34 by omega), a1, c, if_false, nI_1]
      rw [or_nobit _ (by omega) (by simp [c])]
  · rintro s rfl k
    simp only [g_X7_inBowl_5, f_X7_inBowl_5, if_pos (nI_le (Nat.le_refl F) (show F < 2 ^ 31 by omega))]
/-! numbers of fish, bowls, lips -/
theorem lg_neg (x y : Int64) : lg_cmp x y < 0 ↔ x.toInt < y.toInt := by
  unfold lg_cmp
  by_cases h1 : x > y
  · rw [if_pos h1]
    have := Int64.lt_iff_toInt_lt.mp h1
    constructor
    · intro h; exact absurd h (by decide)
    · intro h; omega
  · rw [if_neg h1]
    have h2 : ¬ y.toInt < x.toInt := fun h => h1 (Int64.lt_iff_toInt_lt.mpr h)
    by_cases h3 : x = y
    · rw [if_pos h3]
      subst h3
      constructor
      · intro h; exact absurd h (by decide)
      · intro h; omega
    · rw [if_neg h3]
      constructor
      · intro _
        rcases Int.lt_trichotomy x.toInt y.toInt with h | h | h
        · exact h
        · exact absurd (Int64.toInt_inj.mp h) h3
        · exact absurd h h2
      · intro _; decide
theorem lg_pos (x y : Int64) : 0 < lg_cmp x y ↔ y.toInt < x.toInt := by
  unfold lg_cmp
  by_cases h1 : x > y
  · rw [if_pos h1]
    have := Int64.lt_iff_toInt_lt.mp h1
    exact ⟨fun _ => this, fun _ => by decide⟩
  · rw [if_neg h1]
    have h2 : ¬ y.toInt < x.toInt := fun h => h1 (Int64.lt_iff_toInt_lt.mpr h)
    refine ⟨fun h => ?_, fun h => absurd h h2⟩
    split at h
    · exact absurd h (by decide)
    · exact absurd h (by decide)
theorem x7_in (u a b : Int64) : f_X7_in u a b = some (if a.toInt ≤ u.toInt ∧ u.toInt ≤ b.toInt then 1 else 0) := by
  unfold f_X7_in
  by_cases h1 : u.toInt < a.toInt
  · rw [if_pos ((lg_neg u a).mpr h1), if_neg (by omega)]
  · rw [if_neg (fun h => h1 ((lg_neg u a).mp h))]
    by_cases h2 : b.toInt < u.toInt
    · rw [if_pos ((lg_pos u b).mpr h2), if_neg (by omega)]
    · rw [if_neg (fun h => h2 ((lg_pos u b).mp h)), if_pos (by omega)]
theorem is_cases {n : Nat} (hn : n ≤ 5) (x : Int32) : (∃ j, j < n ∧ x = nI j ∧ f_X3_hasFish (nI n) x = some 1 ∧ f_X7_isFish (nI n) x = some 1) ∨ ((∀ j, j < n → x ≠ nI j) ∧ f_X3_hasFish (nI n) x = some 0 ∧ f_X7_isFish (nI n) x = some 0) := by
  have e1 : (nI n - 1).toInt64.toInt = (n : Int) - 1 := by
    rw [Int32.toInt_toInt64]
    have : ∀ n, n ≤ 5 → (nI n - 1).toInt = (n : Int) - 1 := by decide
    exact this n hn
  have e0 : (0 : Int64).toInt = 0 := rfl
  unfold f_X3_hasFish f_X7_isFish
  rw [x7_in, e1, e0, Int32.toInt_toInt64]
  rcases pk_ix x (n := n) (by omega) with h | h | ⟨j, hj, rfl⟩
  · right
    have hx : x.toInt < 0 := Int32.lt_iff_toInt_lt.mp h
    refine ⟨fun j hj e => ?_, by rw [if_pos h], by rw [if_neg (by omega)]; rfl⟩
    rw [e, nI_toInt (by omega)] at hx; omega
  · right
    have hx : (n : Int) ≤ x.toInt := by
      have := Int32.le_iff_toInt_le.mp h
      rw [nI_toInt (by omega)] at this; exact this
    refine ⟨fun j hj e => ?_, ?_, by rw [if_neg (by omega)]; rfl⟩
    · rw [e, nI_toInt (by omega)] at hx; omega
    · by_cases h0 : x < 0
      · rw [if_pos h0]
      · rw [if_neg h0, if_pos h]
  · left
    refine ⟨j, hj, rfl, ?_, ?_⟩
    · rw [if_neg (nI_pos (by omega)), if_neg (nI_ge hj (by omega))]
    · rw [nI_toInt (by omega), if_pos (by omega)]; rfl
end Sets
