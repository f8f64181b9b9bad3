/-! sums over sets, as rows of what each value counts for -/
def fac (k : Nat) : Nat := if k ≤ 1 then 1 else if k = 2 then 2 else if k = 3 then 6 else 24
def wM (n l s : Nat) : Nat := if s.testBit l then 0 else fac (popN s) * fac (n - 1 - popN s)
def wC (o s : Nat) : Nat := if s &&& o = s then fac (popN s) * fac (popN o - popN s) else 0
def sumV (w p q : Nat → Nat) (U : Nat → Int) : Nat → Int
  | 0 => 0
  | s + 1 => sumV w p q U s + (w s : Int) * (U (p s) - U (q s))
def coefN (w p q : Nat → Nat) : Nat → Nat → Int
  | 0, _ => 0
  | s + 1, k => coefN w p q s k + ((if k = p s then (w s : Int) else 0) + (if k = q s then - (w s : Int) else 0))
def dotN (c U : Nat → Int) : Nat → Int
  | 0 => 0
  | k + 1 => dotN c U k + c k * U k
theorem dot_add (c e U : Nat → Int) : ∀ n, dotN (fun k => c k + e k) U n = dotN c U n + dotN e U n
  | 0 => rfl
  | n + 1 => by
    show dotN _ U n + (c n + e n) * U n = _ + c n * U n + (_ + e n * U n)
    rw [dot_add c e U n, Int.add_mul]; omega
theorem dot_one0 (a : Nat) (x : Int) (U : Nat → Int) : ∀ n, n ≤ a → dotN (fun k => if k = a then x else 0) U n = 0
  | 0, _ => rfl
  | n + 1, h => by
    show dotN _ U n + (if n = a then x else 0) * U n = 0
    rw [dot_one0 a x U n (by omega), if_neg (by omega), Int.zero_mul]; rfl
theorem dot_one (a : Nat) (x : Int) (U : Nat → Int) : ∀ n, a < n → dotN (fun k => if k = a then x else 0) U n = x * U a
  | 0, h => by omega
  | n + 1, h => by
    show dotN _ U n + (if n = a then x else 0) * U n = x * U a
    rcases Nat.lt_or_ge a n with q | q
    · rw [dot_one a x U n q, if_neg (by omega), Int.zero_mul, Int.add_zero]
    · have : a = n := by omega
      subst this
      rw [dot_one0 a x U a (Nat.le_refl a), if_pos rfl, Int.zero_add]
theorem dot_zero (U : Nat → Int) : ∀ n, dotN (fun _ => 0) U n = 0
  | 0 => rfl
  | n + 1 => by
    show dotN _ U n + 0 * U n = 0
    rw [dot_zero U n, Int.zero_mul]; rfl
theorem sumV_dot {w p q : Nat → Nat} {U : Nat → Int} : ∀ {N : Nat}, (∀ s, s < N → p s < 16 ∧ q s < 16) → sumV w p q U N = dotN (coefN w p q N) U 16
  | 0, _ => (dot_zero U 16).symm
  | N + 1, h => by
    have ih := sumV_dot (w := w) (U := U) (fun s hs => h s (Nat.lt_succ_of_lt hs))
    have h1 := h N (Nat.lt_succ_self N)
    show sumV w p q U N + (w N : Int) * (U (p N) - U (q N)) = dotN (fun k => coefN w p q N k + ((if k = p N then (w N : Int) else 0) + (if k = q N then - (w N : Int) else 0))) U 16
    rw [dot_add, dot_add, dot_one _ _ _ _ h1.1, dot_one _ _ _ _ h1.2, ih, Int.mul_sub, Int.neg_mul]; omega
theorem dot_scale {c e U : Nat → Int} {x y : Int} : ∀ {n : Nat}, (∀ k, k < n → c k * x = e k * y) → dotN c U n * x = dotN e U n * y
  | 0, _ => by show (0 : Int) * x = 0 * y; rw [Int.zero_mul, Int.zero_mul]
  | n + 1, h => by
    have ih := dot_scale (U := U) (fun k hk => h k (Nat.lt_succ_of_lt hk))
    show (dotN c U n + c n * U n) * x = (dotN e U n + e n * U n) * y
    rw [Int.add_mul, Int.add_mul, ih, Int.mul_right_comm, h n (Nat.lt_succ_self n), Int.mul_right_comm]
def sumW (w : Nat → Nat) : Nat → Nat
  | 0 => 0
  | s + 1 => sumW w s + w s
theorem sumV_le {w p q : Nat → Nat} {U : Nat → Int} (hU : ∀ k, 0 ≤ U k ∧ U k ≤ 5) : ∀ N, sumV w p q U N ≤ 5 * (sumW w N : Int) ∧ -(5 * (sumW w N : Int)) ≤ sumV w p q U N
  | 0 => by show (0 : Int) ≤ 5 * ((0 : Nat) : Int) ∧ -(5 * ((0 : Nat) : Int)) ≤ (0 : Int); decide
  | N + 1 => by
    obtain ⟨h1, h2⟩ := sumV_le (w := w) (p := p) (q := q) hU N
    have hp := hU (p N)
    have hq := hU (q N)
    have hw : (0 : Int) ≤ (w N : Int) := Int.natCast_nonneg _
    have a1 : (w N : Int) * (U (p N) - U (q N)) ≤ (w N : Int) * 5 := Int.mul_le_mul_of_nonneg_left (by omega) hw
    have a2 : (w N : Int) * (-5) ≤ (w N : Int) * (U (p N) - U (q N)) := Int.mul_le_mul_of_nonneg_left (by omega) hw
    have e : (sumW w (N + 1) : Int) = (sumW w N : Int) + (w N : Int) := by show ((sumW w N + w N : Nat) : Int) = _; exact Int.natCast_add _ _
    show sumV w p q U N + (w N : Int) * (U (p N) - U (q N)) ≤ 5 * (sumW w (N + 1) : Int) ∧ -(5 * (sumW w (N + 1) : Int)) ≤ sumV w p q U N + (w N : Int) * (U (p N) - U (q N))
    rw [e]
    constructor <;> omega
/-- without bit l -/
def offN (d l : Nat) : Nat := d - 2 ^ l
def coefB (n d l : Nat) : Bool := !(decide (d < 2 ^ n) && decide (l < n) && d.testBit l) || ((List.range 16).all (fun k => coefN (wM n l) (fun s => d &&& (s ||| 2 ^ l)) (fun s => d &&& s) (2 ^ n) k * (fac (popN d) : Int) == coefN (wC (offN d l)) (fun s => d &&& (s ||| 2 ^ l)) (fun s => d &&& s) (2 ^ n) k * (fac n : Int)) && sumW (wC (offN d l)) (2 ^ n) == fac (popN d) && popN (offN d l) + 1 == popN d && decide (popN d ≤ n))
def coefZ (n d l : Nat) : Bool := !(decide (d < 2 ^ n) && decide (l < n) && !d.testBit l) || ((List.range 16).all (fun k => coefN (wM n l) (fun s => d &&& (s ||| 2 ^ l)) (fun s => d &&& s) (2 ^ n) k == 0))
theorem coefB_fin : ∀ n, n < 5 → ∀ d, d < 16 → ∀ l, l < 4 → coefB n d l = true := by decide +kernel
theorem coefZ_fin : ∀ n, n < 5 → ∀ d, d < 16 → ∀ l, l < 4 → coefZ n d l = true := by decide +kernel
theorem coef_fin {n d l : Nat} (hn : n ≤ 4) (hd : d < 16) (hl : l < 4) (hdn : d < 2 ^ n) (hln : l < n) (ht : d.testBit l = true) : (∀ k, k < 16 → coefN (wM n l) (fun s => d &&& (s ||| 2 ^ l)) (fun s => d &&& s) (2 ^ n) k * (fac (popN d) : Int) = coefN (wC (offN d l)) (fun s => d &&& (s ||| 2 ^ l)) (fun s => d &&& s) (2 ^ n) k * (fac n : Int)) ∧ sumW (wC (offN d l)) (2 ^ n) = fac (popN d) ∧ popN (offN d l) + 1 = popN d ∧ popN d ≤ n := by
  have h := coefB_fin n (by omega) d hd l hl
  unfold coefB at h
  rw [ht, decide_eq_true hdn, decide_eq_true hln] at h
  simp only [Bool.true_and, Bool.not_true, Bool.false_or, Bool.and_eq_true, beq_iff_eq, List.all_eq_true, List.mem_range, decide_eq_true_eq] at h
  exact ⟨h.1.1.1, h.1.1.2, h.1.2, h.2⟩
theorem coef_zero {n d l : Nat} (hn : n ≤ 4) (hd : d < 16) (hl : l < 4) (hdn : d < 2 ^ n) (hln : l < n) (ht : d.testBit l = false) : ∀ k, k < 16 → coefN (wM n l) (fun s => d &&& (s ||| 2 ^ l)) (fun s => d &&& s) (2 ^ n) k = 0 := by
  have h := coefZ_fin n (by omega) d hd l hl
  unfold coefZ at h
  rw [ht, decide_eq_true hdn, decide_eq_true hln] at h
  simp only [Bool.true_and, Bool.not_true, Bool.not_false, Bool.false_or, Bool.and_eq_true, beq_iff_eq, List.all_eq_true, List.mem_range, decide_eq_true_eq] at h
  exact h
def shM (n m z : Nat) : Int32 := Int32.ofInt (((z : Int) - 120) * ((fac n / fac m : Nat) : Int))
def shC (z : Nat) : Int32 := Int32.ofInt ((z : Int) - 120)
def shareB (n m z : Nat) : Bool := !(decide (1 ≤ m) && decide (m ≤ n) && decide (z ≤ 120 + 5 * fac m) && decide (120 ≤ z + 5 * fac m)) || (
   decide ((f_X7_common (shM n m z) (nI (fac n))).bind (fun w => nz w (some (nI (fac n) / w))) = f_X2_inLeastTerms (shC z) (nI (fac m)) 0) && (f_X2_inLeastTerms (shC z) (nI (fac m)) 0).isSome && decide ((f_X7_common (shM n m z) (nI (fac n))).bind (fun w => nz w (some (shM n m z / w))) = f_X2_inLeastTerms (shC z) (nI (fac m)) 1) && (f_X2_inLeastTerms (shC z) (nI (fac m)) 1).isSome)
theorem shareB_fin : ∀ n, n < 5 → ∀ m, m < 5 → ∀ z, z < 241 → shareB n m z = true := by decide +kernel
