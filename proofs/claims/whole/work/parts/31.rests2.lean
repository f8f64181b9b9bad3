/-- a pair at rest, by the values -/
abbrev restP (B : Nat) (V W : Nat → Nat → Nat) (a b n : Nat) : Prop := ∀ c, c < n → V c b ≤ V a b ∧ W a c ≤ W a b
theorem restP_s {B : Nat} {V W : Nat → Nat → Nat} {a b n : Nat} : restP B V W a b (n + 1) ↔ restP B V W a b n ∧ V n b ≤ V a b ∧ W a n ≤ W a b := by
  constructor
  · exact fun h => ⟨fun c hc => h c (by omega), h n (by omega)⟩
  · rintro ⟨h1, h2⟩ c hc
    rcases Nat.lt_or_ge c n with h | h
    · exact h1 c h
    · have : c = n := by omega
      subst this; exact h2
def rkB (B : Nat) (V W : Nat → Nat → Nat) (k : Nat) : Bool := decide (restP B V W (k / B) (k % B) B)
def cntN (p : Nat → Bool) : Nat → Nat
  | 0 => 0
  | n + 1 => cntN p n + (if p n then 1 else 0)
def frsN (B : Nat) (p : Nat → Bool) : Nat → Int32
  | 0 => -9
  | n + 1 => if p n = true ∧ cntN p n = 0 then nI (10 * (n / B) + n % B) else frsN B p n
theorem cntN_le (p : Nat → Bool) : ∀ n, cntN p n ≤ n
  | 0 => Nat.le_refl 0
  | n + 1 => by
    have := cntN_le p n
    unfold cntN; split <;> omega
theorem cntN_mono (p : Nat → Bool) {m : Nat} : ∀ {n}, m ≤ n → cntN p m ≤ cntN p n
  | 0, h => by have : m = 0 := by omega
               subst this; exact Nat.le_refl _
  | n + 1, h => by
    rcases Nat.lt_or_ge m (n + 1) with q | q
    · have := cntN_mono p (m := m) (n := n) (by omega)
      show cntN p m ≤ cntN p n + _
      omega
    · have : m = n + 1 := by omega
      subst this; exact Nat.le_refl _
theorem frsN_z {B : Nat} {p : Nat → Bool} : ∀ {n}, cntN p n = 0 → frsN B p n = -9
  | 0, _ => rfl
  | n + 1, h => by
    unfold cntN at h
    by_cases hp : p n = true
    · rw [if_pos hp] at h; omega
    · unfold frsN
      rw [if_neg (fun q => hp q.1)]
      exact frsN_z (by omega)
theorem frsN_at {B : Nat} {p : Nat → Bool} {k : Nat} (h0 : cntN p k = 0) (hp : p k = true) : ∀ {n}, k < n → frsN B p n = nI (10 * (k / B) + k % B)
  | 0, h => by omega
  | n + 1, h => by
    unfold frsN
    rcases Nat.lt_or_ge k n with q | q
    · have : cntN p (k + 1) ≤ cntN p n := cntN_mono p (by omega)
      have h1 : cntN p (k + 1) = 1 := by unfold cntN; rw [if_pos hp]; omega
      rw [if_neg (fun q => by omega)]
      exact frsN_at h0 hp q
    · have : k = n := by omega
      subst this
      rw [if_pos ⟨hp, h0⟩]
section Rests2
variable {B F Lp C i j l n : Nat} {hours first kind post error round first2 kind2 begins error2 : Nat → Int32} {pl kn lf now : Nat → Int32} {du ck : Int32} {V W : Nat → Nat → Nat} {one other : Nat → Int32}
/-- the class's two rows hold the values -/
def HasV (B : Nat) (V W : Nat → Nat → Nat) (one other : Nat → Int32) : Prop := ∀ a b, a < B → b < B → one (5 * a + b) = nI (V a b) ∧ other (5 * a + b) = nI (W a b)
theorem c_isRest (hB : B ≤ 5) (hV : ∀ a b, a < B → b < B → V a b ≤ 14 ∧ W a b ≤ 14) (h : HasV B V W one other) {a b : Nat} (ha : a < B) (hb : b < B) : f_X2_isRest one other (nI B) (nI a) (nI b) = some (if restP B V W a b B then 1 else 0) := by
  unfold f_X2_isRest
  rw [n5m]
  refine loop1 (st := g_X2_isRest_9 one other (nI B) (nI a) (nI b) (nI (5 * a + b))) B (fun c s => s = nI c ∧ restP B V W a b c) (fun o => o = some (if restP B V W a b B then 1 else 0)) ?_ ?_ 100 0 0 (by omega) (by omega) ⟨rfl, fun c hc => by omega⟩
  · rintro c s hc ⟨e, hr⟩
    subst e
    have hlt := lt_le hc (show B < 2 ^ 31 by omega)
    obtain ⟨o1, -⟩ := h c b hc hb
    obtain ⟨o2, o3⟩ := h a b ha hb
    obtain ⟨-, o4⟩ := h a c ha hc
    obtain ⟨v1, w1⟩ := hV c b hc hb
    obtain ⟨v2, w2⟩ := hV a b ha hb
    obtain ⟨v3, w3⟩ := hV a c ha hc
    by_cases q1 : V a b < V c b
    · right
      intro k
      have hn : ¬ restP B V W a b B := fun q => by have := (q c hc).1; omega
      rw [if_neg hn]
      simp only [g_X2_isRest_9, f_X2_isRest_9, if_neg hlt, n5m]
      rw [rd25 (by omega), rd25 (by omega), o1, o2, if_pos (nI_lt q1 (by omega))]
    · by_cases q2 : W a c ≤ W a b
      · left
        refine ⟨nI (c + 1), ⟨rfl, restP_s.mpr ⟨hr, by omega, q2⟩⟩, fun k => ?_⟩
        simp only [g_X2_isRest_9, f_X2_isRest_9, if_neg hlt, n5m]
        rw [rd25 (by omega), rd25 (by omega), o1, o2, if_neg (nI_nlt (by omega) (by omega)), rd25 (by omega), rd25 (by omega), o4, o3, if_pos (nI_le q2 (by omega)), nI_1]
      · right
        intro k
        have hn : ¬ restP B V W a b B := fun q => by have := (q c hc).2; omega
        rw [if_neg hn]
        simp only [g_X2_isRest_9, f_X2_isRest_9, if_neg hlt, n5m]
        rw [rd25 (by omega), rd25 (by omega), o1, o2, if_neg (nI_nlt (by omega) (by omega)), rd25 (by omega), rd25 (by omega), o4, o3, if_neg (nI_ge (by omega) (by omega))]
  · rintro s ⟨e, hr⟩ k
    subst e
    have hle := nI_le (Nat.le_refl B) (show B < 2 ^ 31 by omega)
    rw [if_pos hr]
    simp only [g_X2_isRest_9, f_X2_isRest_9, if_pos hle]
/-- the reference's gains are the values -/
def GainV (B : Nat) (V W : Nat → Nat → Nat) (now : Nat → Int32) (G : (Nat → Int32) → (Nat → Int32) → Int32 → Int32 → Int32 → Option (Int32 × (Nat → Int32) × (Nat → Int32))) : Prop :=
  ∀ a b, a < B → b < B → ∀ now' oft, FrN (17 * 1) now now' → (∃ n1 o1, G now' oft (nI a) (nI b) 0 = some (nI (V a b), n1, o1) ∧ FrN (17 * 1) now n1) ∧ (∃ n1 o1, G now' oft (nI a) (nI b) 1 = some (nI (W a b), n1, o1) ∧ FrN (17 * 1) now n1)
theorem m_isRest (hB : B ≤ 5) (hV : ∀ a b, a < B → b < B → V a b ≤ 14 ∧ W a b ≤ 14) {x y f p : Int32} (h : GainV B V W now (fun now' oft a b z => f_X7_gain (nI B) f p round first2 kind2 begins error2 now' oft x y a b z)) {a b : Nat} (ha : a < B) (hb : b < B) {now' oft : Nat → Int32} (hF : FrN (17 * 1) now now') :
    ∃ n1 o1, f_X7_isRest (nI B) f p round first2 kind2 begins error2 now' oft x y (nI a) (nI b) = some ((if restP B V W a b B then 1 else 0), n1, o1) ∧ FrN (17 * 1) now n1 := by
  unfold f_X7_isRest
  refine loop1 (st := g_X7_isRest_6 (nI B) f p round first2 kind2 begins error2 x y (nI a) (nI b)) B (fun c s => s.1 = (if restP B V W a b c then 1 else 0) ∧ s.2.1 = nI c ∧ FrN (17 * 1) now s.2.2.1) (fun o => ∃ n1 o1, o = some ((if restP B V W a b B then 1 else 0), n1, o1) ∧ FrN (17 * 1) now n1) ?_ ?_ 100 0 _ (by omega) (by omega) ⟨(if_pos (fun c hc => by omega)).symm, rfl, hF⟩
  · rintro c ⟨x5, x6, n1, o1⟩ hc ⟨e1, e2, hF⟩
    dsimp only at e1 e2 hF
    subst e1; subst e2
    have hlt := lt_le hc (show B < 2 ^ 31 by omega)
    left
    obtain ⟨v1, w1⟩ := hV c b hc hb
    obtain ⟨v2, w2⟩ := hV a b ha hb
    obtain ⟨v3, w3⟩ := hV a c ha hc
    by_cases hr : restP B V W a b c
    · obtain ⟨n2, o2, g1, hF1⟩ := (h c b hc hb n1 o1 hF).1
      obtain ⟨n3, o3, g2, hF2⟩ := (h a b ha hb n2 o2 hF1).1
      by_cases q1 : V a b < V c b
      · refine ⟨(0, nI (c + 1), n3, o3), ⟨(if_neg (fun q => by have := (restP_s.mp q).2.1; omega)).symm, rfl, hF2⟩, fun k => ?_⟩
        simp only [g_X7_isRest_6, f_X7_isRest_6, f_X7_isRest_71, f_X7_isRest_72, if_neg hlt, if_pos hr, if_neg (show ¬ (1 : Int32) = 0 by decide), g1, g2, Option.bind_some, if_pos (nI_lt q1 (show V c b < 2 ^ 31 by omega)), nI_1]
      · obtain ⟨n4, o4, g3, hF3⟩ := (h a c ha hc n3 o3 hF2).2
        obtain ⟨n5, o5, g4, hF4⟩ := (h a b ha hb n4 o4 hF3).2
        by_cases q2 : W a c ≤ W a b
        · refine ⟨(1, nI (c + 1), n5, o5), ⟨(if_pos (restP_s.mpr ⟨hr, by omega, q2⟩)).symm, rfl, hF4⟩, fun k => ?_⟩
          simp only [g_X7_isRest_6, f_X7_isRest_6, f_X7_isRest_71, f_X7_isRest_72, if_neg hlt, if_pos hr, if_neg (show ¬ (1 : Int32) = 0 by decide), g1, g2, g3, g4, Option.bind_some, if_neg (nI_nlt (show V c b ≤ V a b by omega) (show V a b < 2 ^ 31 by omega)), if_neg (nI_nlt q2 (show W a b < 2 ^ 31 by omega)), nI_1]
        · refine ⟨(0, nI (c + 1), n5, o5), ⟨(if_neg (fun q => by have := (restP_s.mp q).2.2; omega)).symm, rfl, hF4⟩, fun k => ?_⟩
          simp only [g_X7_isRest_6, f_X7_isRest_6, f_X7_isRest_71, f_X7_isRest_72, if_neg hlt, if_pos hr, if_neg (show ¬ (1 : Int32) = 0 by decide), g1, g2, g3, g4, Option.bind_some, if_neg (nI_nlt (show V c b ≤ V a b by omega) (show V a b < 2 ^ 31 by omega)), if_pos (nI_lt (show W a b < W a c by omega) (show W a c < 2 ^ 31 by omega)), nI_1]
    · refine ⟨(0, nI (c + 1), n1, o1), ⟨(if_neg (fun q => hr (restP_s.mp q).1)).symm, rfl, hF⟩, fun k => ?_⟩
      simp only [g_X7_isRest_6, f_X7_isRest_6, f_X7_isRest_71, f_X7_isRest_72, if_neg hlt, if_neg hr, if_true, nI_1]
  · rintro ⟨x5, x6, n1, o1⟩ ⟨e1, e2, hF⟩ k
    dsimp only at e1 e2 hF
    subst e1; subst e2
    have hle := nI_le (Nat.le_refl B) (show B < 2 ^ 31 by omega)
    refine ⟨n1, o1, ?_, hF⟩
    simp only [g_X7_isRest_6, f_X7_isRest_6, if_pos hle]
    split
    · exact bz1 _
    · exact bz0 _
theorem m_rests (hB : B ≤ 5) (hV : ∀ a b, a < B → b < B → V a b ≤ 14 ∧ W a b ≤ 14) {x y f p : Int32} (h : GainV B V W now (fun now' oft a b z => f_X7_gain (nI B) f p round first2 kind2 begins error2 now' oft x y a b z)) (oft : Nat → Int32) (what : Int32) :
    ∃ n1 o1, loopN (g_X7_rests_46 (nI B) f p round first2 kind2 begins error2 x y what) 100 (0, -9, 0, now, oft) = some ((if what = 0 then nI (cntN (rkB B V W) (B * B)) else frsN B (rkB B V W) (B * B)), n1, o1) ∧ FrN (17 * 1) now n1 := by
  have hBB : B * B ≤ 25 := Nat.mul_le_mul hB hB
  refine loop1 (st := g_X7_rests_46 (nI B) f p round first2 kind2 begins error2 x y what) (B * B) (fun k s => s.1 = nI (cntN (rkB B V W) k) ∧ s.2.1 = frsN B (rkB B V W) k ∧ s.2.2.1 = nI k ∧ FrN (17 * 1) now s.2.2.2.1) (fun o => ∃ n1 o1, o = some ((if what = 0 then nI (cntN (rkB B V W) (B * B)) else frsN B (rkB B V W) (B * B)), n1, o1) ∧ FrN (17 * 1) now n1) ?_ ?_ 100 0 _ (by omega) (by omega) ⟨rfl, rfl, rfl, FrN.rf⟩
  · rintro k ⟨x4, x5, x6, n1, o1⟩ hk ⟨e1, e2, e3, hF⟩
    dsimp only at e1 e2 e3 hF
    subst e1; subst e2; subst e3
    left
    have hB0 : 0 < B := by rcases Nat.eq_zero_or_pos B with q | q; · subst q; omega
                           · exact q
    have hlt : ¬ nI B * nI B ≤ nI k := by
      rw [show nI B * nI B = nI (B * B) from pk_mul B B]; exact lt_le hk (by omega)
    have hd : nI k / nI B = nI (k / B) := pk_div (by omega) hB0 (by omega)
    have hm : jrem (nI k) (nI B) = nI (k % B) := jrem_n (by omega) hB0 (by omega)
    have hk1 : k / B < B := Nat.div_lt_of_lt_mul hk
    have hk2 : k % B < B := Nat.mod_lt _ hB0
    obtain ⟨n2, o2, r1, hF1⟩ := m_isRest hB hV h hk1 hk2 (oft := o1) hF
    have hBz : nI B ≠ 0 := nI_ne0 hB0 (by omega)
    have hcz : nI (cntN (rkB B V W) k) = 0 ↔ cntN (rkB B V W) k = 0 := nI_eq (b := 0) (by have := cntN_le (rkB B V W) k; omega) (by decide)
    by_cases hr : restP B V W (k / B) (k % B) B
    · have hp : rkB B V W k = true := decide_eq_true hr
      have hc1 : cntN (rkB B V W) (k + 1) = cntN (rkB B V W) k + 1 := by
        show cntN (rkB B V W) k + _ = _
        rw [if_pos hp]
      by_cases h0 : cntN (rkB B V W) k = 0
      · have hf : frsN B (rkB B V W) (k + 1) = nI (10 * (k / B) + k % B) := frsN_at h0 hp (by omega)
        refine ⟨(nI (cntN (rkB B V W) (k + 1)), frsN B (rkB B V W) (k + 1), nI (k + 1), n2, o2), ⟨rfl, rfl, rfl, hF1⟩, fun q => ?_⟩
        rw [hf, hc1]
        simp only [g_X7_rests_46, f_X7_rests_46, f_X7_rests_116, f_X7_rests_111, if_neg hlt, nz_n hBz, hd, hm, r1, Option.bind_some, if_pos hr, if_neg (show ¬ (1 : Int32) = 0 by decide), if_pos (hcz.mpr h0), n10m, nI_1]
      · have hf : frsN B (rkB B V W) (k + 1) = frsN B (rkB B V W) k := if_neg (fun q => h0 q.2)
        refine ⟨(nI (cntN (rkB B V W) (k + 1)), frsN B (rkB B V W) (k + 1), nI (k + 1), n2, o2), ⟨rfl, rfl, rfl, hF1⟩, fun q => ?_⟩
        rw [hf, hc1]
        simp only [g_X7_rests_46, f_X7_rests_46, f_X7_rests_116, f_X7_rests_111, if_neg hlt, nz_n hBz, hd, hm, r1, Option.bind_some, if_pos hr, if_neg (show ¬ (1 : Int32) = 0 by decide), if_neg (fun q => h0 (hcz.mp q)), n10m, nI_1]
    · have hp : ¬ rkB B V W k = true := fun q => hr (of_decide_eq_true q)
      have hc1 : cntN (rkB B V W) (k + 1) = cntN (rkB B V W) k := by
        show cntN (rkB B V W) k + _ = _
        rw [if_neg hp]; rfl
      have hf : frsN B (rkB B V W) (k + 1) = frsN B (rkB B V W) k := if_neg (fun q => hp q.1)
      refine ⟨(nI (cntN (rkB B V W) (k + 1)), frsN B (rkB B V W) (k + 1), nI (k + 1), n2, o2), ⟨rfl, rfl, rfl, hF1⟩, fun q => ?_⟩
      rw [hf, hc1]
      simp only [g_X7_rests_46, f_X7_rests_46, f_X7_rests_116, f_X7_rests_111, if_neg hlt, nz_n hBz, hd, hm, r1, Option.bind_some, if_neg hr, if_true, nI_1]
  · rintro ⟨x4, x5, x6, n1, o1⟩ ⟨e1, e2, e3, hF⟩ k
    dsimp only at e1 e2 e3 hF
    subst e1; subst e2; subst e3
    have hle : nI B * nI B ≤ nI (B * B) := by
      rw [show nI B * nI B = nI (B * B) from pk_mul B B]; exact nI_le (Nat.le_refl _) (by omega)
    refine ⟨n1, o1, ?_, hF⟩
    simp only [g_X7_rests_46, f_X7_rests_46, f_X7_rests_122, if_pos hle]
    split <;> rfl
theorem dv_mod {B h t : Nat} (ht : t < B) : (h * B + t) / B = h ∧ (h * B + t) % B = t := by
  have hB : 0 < B := by omega
  constructor
  · rw [Nat.mul_comm, Nat.mul_add_div hB, Nat.div_eq_of_lt ht]; rfl
  · rw [Nat.mul_comm, Nat.mul_add_mod, Nat.mod_eq_of_lt ht]
theorem rkB_at {h t : Nat} (ht : t < B) : rkB B V W (h * B + t) = decide (restP B V W h t B) := by
  unfold rkB
  rw [(dv_mod ht).1, (dv_mod ht).2]
theorem c_count (hB : B ≤ 5) (hV : ∀ a b, a < B → b < B → V a b ≤ 14 ∧ W a b ≤ 14) (h : HasV B V W one other) : f_X2_restCount one other (nI B) = some (nI (cntN (rkB B V W) (B * B))) := by
  unfold f_X2_restCount
  refine loop1 (st := g_X2_restCount_4 one other (nI B)) B (fun h s => s = (nI (cntN (rkB B V W) (h * B)), nI h)) (fun o => o = some (nI (cntN (rkB B V W) (B * B)))) ?_ ?_ 100 0 _ (by omega) (by omega) (by rw [Nat.zero_mul]; rfl)
  · rintro a ⟨x1, x2⟩ ha e
    injection e with e1 e2
    subst e1; subst e2
    left
    have hlt := lt_le ha (show B < 2 ^ 31 by omega)
    refine ⟨_, rfl, fun k => ?_⟩
    simp only [g_X2_restCount_4, f_X2_restCount_4, if_neg hlt]
    refine loop1 (st := g_X2_restCount_17 one other (nI B) (nI a) k) B (fun t s => s = (nI (cntN (rkB B V W) (a * B + t)), nI t)) (fun o => o = k (nI (cntN (rkB B V W) ((a + 1) * B)), nI (a + 1))) ?_ ?_ 100 0 _ (by omega) (by omega) rfl
    · rintro b ⟨y1, y2⟩ hb e
      injection e with e1 e2
      subst e1; subst e2
      left
      have hlt := lt_le hb (show B < 2 ^ 31 by omega)
      have r1 := c_isRest hB hV h ha hb
      have hrk := rkB_at (V := V) (W := W) (h := a) hb
      refine ⟨_, rfl, fun q => ?_⟩
      have hc : cntN (rkB B V W) (a * B + (b + 1)) = cntN (rkB B V W) (a * B + b) + (if rkB B V W (a * B + b) then 1 else 0) := rfl
      by_cases hr : restP B V W a b B
      · rw [hc, hrk, if_pos (decide_eq_true hr)]
        simp only [g_X2_restCount_17, f_X2_restCount_17, f_X2_restCount_40, if_neg hlt, r1, Option.bind_some, if_pos hr, if_neg (show ¬ (1 : Int32) = 0 by decide), nI_1]
      · rw [hc, hrk, if_neg (fun q => hr (of_decide_eq_true q))]
        simp only [g_X2_restCount_17, f_X2_restCount_17, f_X2_restCount_40, if_neg hlt, r1, Option.bind_some, if_neg hr, if_true, nI_1, Nat.add_zero]
    · rintro ⟨y1, y2⟩ e q
      injection e with e1 e2
      subst e1; subst e2
      have hle := nI_le (Nat.le_refl B) (show B < 2 ^ 31 by omega)
      simp only [g_X2_restCount_17, f_X2_restCount_17, f_X2_restCount_46, if_pos hle, nI_1]
      rw [show (a + 1) * B = a * B + B from Nat.succ_mul a B]
  · rintro ⟨x1, x2⟩ e k
    injection e with e1 e2
    subst e1; subst e2
    have hle := nI_le (Nat.le_refl B) (show B < 2 ^ 31 by omega)
    simp only [g_X2_restCount_4, f_X2_restCount_4, if_pos hle]
theorem c_first (hB : B ≤ 5) (hV : ∀ a b, a < B → b < B → V a b ≤ 14 ∧ W a b ≤ 14) (h : HasV B V W one other) : f_X2_firstRest one other (nI B) = some (frsN B (rkB B V W) (B * B)) := by
  unfold f_X2_firstRest
  refine loop1 (st := g_X2_firstRest_2 one other (nI B)) B (fun h s => s = nI h ∧ cntN (rkB B V W) (h * B) = 0) (fun o => o = some (frsN B (rkB B V W) (B * B))) ?_ ?_ 100 0 _ (by omega) (by omega) ⟨rfl, by rw [Nat.zero_mul]; rfl⟩
  · rintro a s ha ⟨e, h0⟩
    subst e
    have hlt := lt_le ha (show B < 2 ^ 31 by omega)
    have hs : (a + 1) * B = a * B + B := Nat.succ_mul a B
    have hsB : a * B + B ≤ B * B := by rw [← hs]; exact Nat.mul_le_mul_right B ha
    by_cases hz : cntN (rkB B V W) ((a + 1) * B) = 0
    · left
      refine ⟨nI (a + 1), ⟨rfl, hz⟩, fun k => ?_⟩
      simp only [g_X2_firstRest_2, f_X2_firstRest_2, if_neg hlt]
      refine loop1 (st := g_X2_firstRest_15 one other (nI B) (nI a) k) B (fun t s => s = nI t) (fun o => o = k (nI (a + 1))) ?_ ?_ 100 0 _ (by omega) (by omega) rfl
      · rintro b s hb e
        subst e
        left
        have hlt := lt_le hb (show B < 2 ^ 31 by omega)
        have r1 := c_isRest hB hV h ha hb
        have hrk := rkB_at (V := V) (W := W) (h := a) hb
        have hr : ¬ restP B V W a b B := by
          intro q
          have h1 : cntN (rkB B V W) (a * B + b + 1) ≤ cntN (rkB B V W) ((a + 1) * B) := cntN_mono _ (by rw [hs]; omega)
          have h2 : cntN (rkB B V W) (a * B + b + 1) = cntN (rkB B V W) (a * B + b) + (if rkB B V W (a * B + b) then 1 else 0) := rfl
          rw [hrk, if_pos (decide_eq_true q)] at h2
          omega
        refine ⟨_, rfl, fun q => ?_⟩
        simp only [g_X2_firstRest_15, f_X2_firstRest_15, if_neg hlt, r1, Option.bind_some, if_neg hr, if_true, nI_1]
      · rintro s e q
        subst e
        have hle := nI_le (Nat.le_refl B) (show B < 2 ^ 31 by omega)
        simp only [g_X2_firstRest_15, f_X2_firstRest_15, f_X2_firstRest_48, if_pos hle, nI_1]
    · right
      intro k
      simp only [g_X2_firstRest_2, f_X2_firstRest_2, if_neg hlt]
      refine loop1 (st := g_X2_firstRest_15 one other (nI B) (nI a) k) B (fun t s => s = nI t ∧ cntN (rkB B V W) (a * B + t) = 0) (fun o => o = some (frsN B (rkB B V W) (B * B))) ?_ ?_ 100 0 _ (by omega) (by omega) ⟨rfl, h0⟩
      · rintro b s hb ⟨e, h1⟩
        subst e
        have hlt := lt_le hb (show B < 2 ^ 31 by omega)
        have r1 := c_isRest hB hV h ha hb
        have hrk := rkB_at (V := V) (W := W) (h := a) hb
        by_cases hr : restP B V W a b B
        · right
          intro q
          have hf := frsN_at (B := B) h1 (hrk.trans (decide_eq_true hr)) (n := B * B) (by omega)
          rw [(dv_mod hb).1, (dv_mod hb).2] at hf
          rw [hf]
          simp only [g_X2_firstRest_15, f_X2_firstRest_15, f_X2_firstRest_35, if_neg hlt, r1, Option.bind_some, if_pos hr, if_neg (show ¬ (1 : Int32) = 0 by decide), n10m]
        · left
          refine ⟨nI (b + 1), ⟨rfl, ?_⟩, fun q => ?_⟩
          · show cntN (rkB B V W) (a * B + b) + (if rkB B V W (a * B + b) then 1 else 0) = 0
            rw [h1, hrk, if_neg (fun q => hr (of_decide_eq_true q))]
          · simp only [g_X2_firstRest_15, f_X2_firstRest_15, if_neg hlt, r1, Option.bind_some, if_neg hr, if_true, nI_1]
      · rintro s ⟨e, h1⟩ q
        exact absurd (hs ▸ h1) hz
  · rintro s ⟨e, h0⟩ k
    subst e
    have hle := nI_le (Nat.le_refl B) (show B < 2 ^ 31 by omega)
    rw [frsN_z h0]
    simp only [g_X2_firstRest_2, f_X2_firstRest_2, if_pos hle]
end Rests2
