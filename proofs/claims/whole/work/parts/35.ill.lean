/-! the greatest common divisor on both sides -/
theorem gcd_step (x y : Nat) : Nat.gcd x y = Nat.gcd y (x % y) := by rw [Nat.gcd_comm x y, Nat.gcd_rec y x, Nat.gcd_comm]
theorem half_lt {x y k : Nat} (hy : y < 2 ^ (k + 1)) (hr : 0 < x % y) (h0 : 0 < y) : y % (x % y) < 2 ^ k := by
  have h1 : x % y < y := Nat.mod_lt _ h0
  have h2 : y % (x % y) < x % y := Nat.mod_lt _ hr
  have h3 : 2 ^ (k + 1) = 2 * 2 ^ k := by rw [Nat.pow_succ, Nat.mul_comm]
  by_cases q : 2 * (x % y) ≤ y
  · omega
  · have h4 : y % (x % y) = y - x % y := by
      rw [Nat.mod_eq_sub_mod (by omega), Nat.mod_eq_of_lt (by omega)]
    omega
theorem m_gcd : ∀ (k : Nat), k ≤ 30 → ∀ (f x y : Nat), 2 * k < f → x < 2 ^ 31 → y < 2 ^ k → loopN g_X7_common_13 f (nI x, nI y) = some (nI (Nat.gcd x y))
  | 0, _ => by
    intro f x y hf hx hy
    have : y = 0 := by rw [Nat.pow_zero] at hy; omega
    subst this
    cases f with
    | zero => omega
    | succ f =>
      show f_X7_common_13 (loopN g_X7_common_13 f) (nI x) (nI 0) = _
      unfold f_X7_common_13
      rw [if_pos (show nI 0 = 0 from rfl), Nat.gcd_zero_right]
  | k + 1, hk => by
    intro f x y hf hx hy
    have h30 : 2 ^ (k + 1) ≤ 2 ^ 30 := Nat.pow_le_pow_right (by decide) hk
    cases f with
    | zero => omega
    | succ f =>
      show f_X7_common_13 (loopN g_X7_common_13 f) (nI x) (nI y) = _
      unfold f_X7_common_13
      by_cases h0 : y = 0
      · subst h0
        rw [if_pos (show nI 0 = 0 from rfl), Nat.gcd_zero_right]
      · have hy0 : ¬ nI y = 0 := nI_ne0 (by omega) (by omega)
        rw [if_neg hy0, nz_n hy0, jrem_n hx (by omega) (by omega), gcd_step]
        cases f with
        | zero => omega
        | succ f =>
          show f_X7_common_13 (loopN g_X7_common_13 f) (nI y) (nI (x % y)) = _
          have hm : x % y < y := Nat.mod_lt _ (by omega)
          unfold f_X7_common_13
          by_cases h1 : x % y = 0
          · rw [h1, if_pos (show nI 0 = 0 from rfl), Nat.gcd_zero_right]
          · have hr0 : ¬ nI (x % y) = 0 := nI_ne0 (by omega) (by omega)
            rw [if_neg hr0, nz_n hr0, jrem_n (by omega) (by omega) (by omega), gcd_step]
            exact m_gcd k (by omega) f _ _ (by omega) (by omega) (half_lt hy (by omega) (by omega))
theorem c_gcd : ∀ (k : Nat), k ≤ 30 → ∀ (f x y t : Nat), 2 * k < f → t + 2 * k < 64 → x < 2 ^ 31 → y < 2 ^ k → loopN g_X2_commonDivisor_7 f (nI x, nI y, nI t) = some (nI (Nat.gcd x y))
  | 0, _ => by
    intro f x y t hf ht hx hy
    have : y = 0 := by rw [Nat.pow_zero] at hy; omega
    subst this
    cases f with
    | zero => omega
    | succ f =>
      show f_X2_commonDivisor_7 (loopN g_X2_commonDivisor_7 f) (nI x) (nI 0) (nI t) = _
      unfold f_X2_commonDivisor_7
      rw [if_neg (show ¬ (64 : Int32) ≤ nI t from lt_le (b := 64) (by omega) (by decide)), if_pos (show nI 0 = 0 from rfl), Nat.gcd_zero_right]
  | k + 1, hk => by
    intro f x y t hf ht hx hy
    have h30 : 2 ^ (k + 1) ≤ 2 ^ 30 := Nat.pow_le_pow_right (by decide) hk
    cases f with
    | zero => omega
    | succ f =>
      show f_X2_commonDivisor_7 (loopN g_X2_commonDivisor_7 f) (nI x) (nI y) (nI t) = _
      unfold f_X2_commonDivisor_7
      rw [if_neg (show ¬ (64 : Int32) ≤ nI t from lt_le (b := 64) (by omega) (by decide))]
      by_cases h0 : y = 0
      · subst h0
        rw [if_pos (show nI 0 = 0 from rfl), Nat.gcd_zero_right]
      · have hy0 : ¬ nI y = 0 := nI_ne0 (by omega) (by omega)
        rw [if_neg hy0, nz_n hy0, jrem_n hx (by omega) (by omega), nI_1, gcd_step]
        cases f with
        | zero => omega
        | succ f =>
          show f_X2_commonDivisor_7 (loopN g_X2_commonDivisor_7 f) (nI y) (nI (x % y)) (nI (t + 1)) = _
          have hm : x % y < y := Nat.mod_lt _ (by omega)
          unfold f_X2_commonDivisor_7
          rw [if_neg (show ¬ (64 : Int32) ≤ nI (t + 1) from lt_le (b := 64) (by omega) (by decide))]
          by_cases h1 : x % y = 0
          · rw [h1, if_pos (show nI 0 = 0 from rfl), Nat.gcd_zero_right]
          · have hr0 : ¬ nI (x % y) = 0 := nI_ne0 (by omega) (by omega)
            rw [if_neg hr0, nz_n hr0, jrem_n (by omega) (by omega) (by omega), nI_1, gcd_step]
            exact c_gcd k (by omega) f _ _ (t + 1 + 1) (by omega) (by omega) (by omega) (half_lt hy (by omega) (by omega))
theorem m_common {a b : Nat} (ha : a < 2 ^ 31) (hb : b < 2 ^ 14) : f_X7_common (nI a) (nI b) = some (nI (Nat.gcd a b)) := by
  unfold f_X7_common
  rw [if_pos (nI_pos' ha)]
  exact m_gcd 14 (by decide) 100 a b (by decide) ha hb
theorem c_common {a b : Nat} (ha : a < 2 ^ 31) (hb : b < 2 ^ 14) : f_X2_commonDivisor (nI a) (nI b) = some (nI (Nat.gcd a b)) := c_gcd 14 (by decide) 100 a b 0 (by decide) (by decide) ha hb
/-- the end of ILL on both sides -/
theorem ill_end {S M K : Nat} (hS : S ≤ M) (hM : 0 < M) (hK : 0 < K) (hMK : M * K < 2 ^ 14) (x4 : Int32) : ∃ v, f_X2_inLeastTerms (nI S) (nI M) x4 = some v ∧ ∀ now, f_X7_ill_166 now x4 (nI (S * K)) (nI (M * K)) = some (v, now) := by
  have hM2 : M ≤ M * K := Nat.le_mul_of_pos_right M hK
  have hS2 : S * K ≤ M * K := Nat.mul_le_mul_right K hS
  have hg : 0 < Nat.gcd S M := Nat.gcd_pos_of_pos_right S hM
  have hgM : Nat.gcd S M ≤ M := Nat.gcd_le_right S hM
  have hgK : Nat.gcd S M * K ≤ M * K := Nat.mul_le_mul_right K hgM
  have hgK0 : 0 < Nat.gcd S M * K := Nat.mul_pos hg hK
  have hz : ¬ nI (Nat.gcd S M) = 0 := nI_ne0 hg (by omega)
  have hz2 : ¬ nI (Nat.gcd S M * K) = 0 := nI_ne0 hgK0 (by omega)
  have c1 : f_X7_common (nI (S * K)) (nI (M * K)) = some (nI (Nat.gcd S M * K)) := by
    rw [m_common (by omega) hMK, Nat.gcd_mul_right]
  have c2 : f_J9_abs_0f7a4 (nI S) = some (nI S) := by
    unfold f_J9_abs_0f7a4
    rw [if_pos (nI_pos' (by omega))]
  unfold f_X2_inLeastTerms f_X7_ill_166
  rw [c2, Option.bind_some, c_common (by omega) (by omega), Option.bind_some, if_neg hz]
  by_cases hx : x4 = 0
  · rw [if_pos hx, nz_n hz]
    refine ⟨_, rfl, fun now => ?_⟩
    rw [c1, Option.bind_some, if_pos hx, nz_n hz2, pk_div (by omega) hgK0 (by omega), pk_div (by omega) hg (by omega), Nat.mul_div_mul_right _ _ hK]
  · rw [if_neg hx, nz_n hz]
    refine ⟨_, rfl, fun now => ?_⟩
    rw [c1, Option.bind_some, if_neg hx, nz_n hz2, pk_div (by omega) hgK0 (by omega), pk_div (by omega) hg (by omega), Nat.mul_div_mul_right _ _ hK]
/-! the weights -/
def wtM (n x s : Nat) : Nat := x ^ popN s * (10 - x) ^ (n - popN s)
def wtC (d x a : Nat) : Nat := if a &&& d = a then (10 - x) ^ popN a * x ^ (popN d - popN a) else 0
def sumX (w p U : Nat → Nat) : Nat → Nat
  | 0 => 0
  | s + 1 => sumX w p U s + (if U (p s) = 1 then w s else 0)
def coefX (w p : Nat → Nat) : Nat → Nat → Nat
  | 0, _ => 0
  | s + 1, k => coefX w p s k + (if k = p s then w s else 0)
def dotX (c U : Nat → Nat) : Nat → Nat
  | 0 => 0
  | k + 1 => dotX c U k + (if U k = 1 then c k else 0)
theorem dotX_add (c e U : Nat → Nat) : ∀ n, dotX (fun k => c k + e k) U n = dotX c U n + dotX e U n
  | 0 => rfl
  | n + 1 => by
    show dotX _ U n + (if U n = 1 then c n + e n else 0) = _ + (if U n = 1 then c n else 0) + (_ + (if U n = 1 then e n else 0))
    rw [dotX_add c e U n]
    split <;> omega
theorem dotX_one0 (a x : Nat) (U : Nat → Nat) : ∀ n, n ≤ a → dotX (fun k => if k = a then x else 0) U n = 0
  | 0, _ => rfl
  | n + 1, h => by
    show dotX _ U n + (if U n = 1 then (if n = a then x else 0) else 0) = 0
    rw [dotX_one0 a x U n (by omega), if_neg (show ¬ n = a by omega)]
    split <;> rfl
theorem dotX_one (a x : Nat) (U : Nat → Nat) : ∀ n, a < n → dotX (fun k => if k = a then x else 0) U n = if U a = 1 then x else 0
  | 0, h => by omega
  | n + 1, h => by
    show dotX _ U n + (if U n = 1 then (if n = a then x else 0) else 0) = _
    rcases Nat.lt_or_ge a n with q | q
    · rw [dotX_one a x U n q, if_neg (show ¬ n = a by omega)]
      split <;> split <;> rfl
    · have : a = n := by omega
      subst this
      rw [dotX_one0 a x U a (Nat.le_refl a), if_pos rfl, Nat.zero_add]
theorem dotX_zero (U : Nat → Nat) : ∀ n, dotX (fun _ => 0) U n = 0
  | 0 => rfl
  | n + 1 => by
    show dotX _ U n + (if U n = 1 then 0 else 0) = 0
    rw [dotX_zero U n]; split <;> rfl
theorem sumX_dot {w p U : Nat → Nat} : ∀ {N : Nat}, (∀ s, s < N → p s < 16) → sumX w p U N = dotX (coefX w p N) U 16
  | 0, _ => (dotX_zero U 16).symm
  | N + 1, h => by
    have ih := sumX_dot (w := w) (U := U) (fun s hs => h s (Nat.lt_succ_of_lt hs))
    have h1 := h N (Nat.lt_succ_self N)
    show sumX w p U N + (if U (p N) = 1 then w N else 0) = dotX (fun k => coefX w p N k + (if k = p N then w N else 0)) U 16
    rw [dotX_add, dotX_one _ _ _ _ h1, ih]
theorem dotX_scale {c e U : Nat → Nat} {y : Nat} : ∀ {n : Nat}, (∀ k, k < n → c k = e k * y) → dotX c U n = dotX e U n * y
  | 0, _ => (Nat.zero_mul y).symm
  | n + 1, h => by
    have ih := dotX_scale (U := U) (fun k hk => h k (Nat.lt_succ_of_lt hk))
    show dotX c U n + (if U n = 1 then c n else 0) = (dotX e U n + (if U n = 1 then e n else 0)) * y
    rw [ih, h n (Nat.lt_succ_self n), Nat.add_mul]
    split
    · rfl
    · rw [Nat.zero_mul]
theorem sumX_le {w p U : Nat → Nat} : ∀ N, sumX w p U N ≤ sumW w N
  | 0 => Nat.le_refl 0
  | N + 1 => by
    have := sumX_le (w := w) (p := p) (U := U) N
    show sumX w p U N + (if U (p N) = 1 then w N else 0) ≤ sumW w N + w N
    split <;> omega
def pM (d s : Nat) : Nat := d &&& (15 ^^^ s)
def illB (n d x : Nat) : Bool := !(decide (d < 2 ^ n)) || ((List.range 16).all (fun k => coefX (wtM n x) (pM d) (2 ^ n) k == coefX (wtC d x) (fun s => s) (2 ^ n) k * 10 ^ (n - popN d)) && sumW (wtM n x) (2 ^ n) == 10 ^ popN d * 10 ^ (n - popN d) && sumW (wtC d x) (2 ^ n) == 10 ^ popN d && decide (popN d ≤ n))
theorem illB_fin : ∀ n, n < 5 → ∀ d, d < 16 → ∀ x, x < 11 → illB n d x = true := by decide +kernel
theorem ill_fin {n d x : Nat} (hn : n ≤ 4) (hd : d < 16) (hx : x ≤ 10) (hdn : d < 2 ^ n) : (∀ k, k < 16 → coefX (wtM n x) (pM d) (2 ^ n) k = coefX (wtC d x) (fun s => s) (2 ^ n) k * 10 ^ (n - popN d)) ∧ sumW (wtM n x) (2 ^ n) = 10 ^ popN d * 10 ^ (n - popN d) ∧ sumW (wtC d x) (2 ^ n) = 10 ^ popN d ∧ popN d ≤ n := by
  have h := illB_fin n (by omega) d hd x (by omega)
  unfold illB at h
  rw [decide_eq_true hdn] at h
  simp only [Bool.not_true, Bool.false_or, Bool.and_eq_true, beq_iff_eq, List.all_eq_true, List.mem_range, decide_eq_true_eq] at h
  exact ⟨h.1.1.1, h.1.1.2, h.1.2, h.2⟩
def wtB (n d x a : Nat) : Bool := !(decide (d < 2 ^ n) && (a &&& d) == a) || decide (f_X2_weightOf (nI n) (nI d) (nI a) (nI x) = some (nI ((10 - x) ^ popN a * x ^ (popN d - popN a))))
theorem wtB_fin : ∀ n, n < 5 → ∀ d, d < 16 → ∀ x, x < 11 → ∀ a, a < 16 → wtB n d x a = true := by decide +kernel
theorem wt_fin {n d x a : Nat} (hn : n ≤ 4) (hd : d < 16) (hx : x ≤ 10) (ha : a < 16) (hdn : d < 2 ^ n) (h : a &&& d = a) : f_X2_weightOf (nI n) (nI d) (nI a) (nI x) = some (nI ((10 - x) ^ popN a * x ^ (popN d - popN a))) := by
  have q := wtB_fin n (by omega) d hd x (by omega) a ha
  unfold wtB at q
  rw [decide_eq_true hdn, h] at q
  simp only [beq_self_eq_true, Bool.true_and, Bool.not_true, Bool.false_or, decide_eq_true_eq] at q
  exact q
theorem pow_fin : ∀ x, x < 11 → ∀ k, k < 5 → f_X7_power (nI x) (nI k) = some (nI (x ^ k)) ∧ (10 : Int32) - nI x = nI (10 - x) := by decide +kernel
theorem npop_fin : ∀ n, n < 5 → ∀ s, s < 16 → s < 2 ^ n → nI n - nI (popN s) = nI (n - popN s) ∧ popN s ≤ 4 := by decide +kernel
theorem pM_fin : ∀ d, d < 16 → ∀ s, s < 16 → nI d &&& (nI s ^^^ (-1)) = nI (pM d s) ∧ pM d s ≤ d := by decide +kernel
