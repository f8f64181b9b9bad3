/-! two loops side by side; one loop alone -/
theorem loop2 {σ1 ρ1 σ2 ρ2 : Type} {st1 : (σ1 → Option ρ1) → σ1 → Option ρ1} {st2 : (σ2 → Option ρ2) → σ2 → Option ρ2} (n : Nat) (I : Nat → σ1 → σ2 → Prop) (P : Option ρ1 → Option ρ2 → Prop)
    (hs : ∀ i s1 s2, i < n → I i s1 s2 → (∃ s1' s2', I (i + 1) s1' s2' ∧ (∀ k, st1 k s1 = k s1') ∧ (∀ k, st2 k s2 = k s2')) ∨ (∀ k1 k2, P (st1 k1 s1) (st2 k2 s2)))
    (he : ∀ s1 s2, I n s1 s2 → ∀ k1 k2, P (st1 k1 s1) (st2 k2 s2)) :
    ∀ (f1 f2 i : Nat) (s1 : σ1) (s2 : σ2), i ≤ n → n - i < f1 → n - i < f2 → I i s1 s2 → P (loopN st1 f1 s1) (loopN st2 f2 s2) := by
  intro f1
  induction f1 with
  | zero => intro f2 i s1 s2 _ h; omega
  | succ f1 ih =>
    intro f2 i s1 s2 hi h1 h2 hI
    cases f2 with
    | zero => omega
    | succ f2 =>
      show P (st1 (loopN st1 f1) s1) (st2 (loopN st2 f2) s2)
      rcases Nat.lt_or_ge i n with hlt | hge
      · rcases hs i s1 s2 hlt hI with ⟨s1', s2', hI', e1, e2⟩ | hP
        · rw [e1, e2]
          exact ih f2 (i + 1) s1' s2' hlt (by omega) (by omega) hI'
        · exact hP _ _
      · have : i = n := by omega
        subst this
        exact he s1 s2 hI _ _
theorem loop1 {σ ρ : Type} {st : (σ → Option ρ) → σ → Option ρ} (n : Nat) (I : Nat → σ → Prop) (P : Option ρ → Prop)
    (hs : ∀ i s, i < n → I i s → (∃ s', I (i + 1) s' ∧ (∀ k, st k s = k s')) ∨ (∀ k, P (st k s)))
    (he : ∀ s, I n s → ∀ k, P (st k s)) :
    ∀ (f i : Nat) (s : σ), i ≤ n → n - i < f → I i s → P (loopN st f s) := by
  intro f
  induction f with
  | zero => intro i s _ h; omega
  | succ f ih =>
    intro i s hi h1 hI
    show P (st (loopN st f) s)
    rcases Nat.lt_or_ge i n with hlt | hge
    · rcases hs i s hlt hI with ⟨s', hI', e1⟩ | hP
      · rw [e1]
        exact ih (i + 1) s' hlt (by omega) hI'
      · exact hP _
    · have : i = n := by omega
      subst this
      exact he s hI _
theorem rd_n {α : Type} {n j : Nat} (h : j < n) (hn : n < 2 ^ 31) (f : Nat → Int32) (k : Int32 → Option α) : rd n f (nI j) k = k (f j) := by
  have hi : ¬ (nI j < 0 ∨ n ≤ (nI j).toNatClampNeg) := nI_in h hn
  rw [rd, if_neg hi, nI_clamp (by omega)]
theorem ix_n {α : Type} {n j : Nat} (h : j < n) (hn : n < 2 ^ 31) (k : Option α) : ix n (nI j) k = k := by
  have hi : ¬ (nI j < 0 ∨ n ≤ (nI j).toNatClampNeg) := nI_in h hn
  rw [ix, if_neg hi]
theorem rdx_n {α : Type} {n j : Nat} (h : j < n) (hn : n < 2 ^ 31) (k : Nat → Option α) : rdx n (nI j) k = k j := by
  have hi : ¬ (nI j < 0 ∨ n ≤ (nI j).toNatClampNeg) := nI_in h hn
  rw [rdx, if_neg hi, nI_clamp (by omega)]
theorem rd5 {α : Type} {j : Nat} (h : j < 5) (f : Nat → Int32) (k : Int32 → Option α) : rd 5 f (nI j) k = k (f j) := rd_n h (by decide) f k
theorem rd4 {α : Type} {j : Nat} (h : j < 4) (f : Nat → Int32) (k : Int32 → Option α) : rd 4 f (nI j) k = k (f j) := rd_n h (by decide) f k
theorem rd34 {α : Type} {j : Nat} (h : j < 34) (f : Nat → Int32) (k : Int32 → Option α) : rd 34 f (nI j) k = k (f j) := rd_n h (by decide) f k
theorem ix5 {α : Type} {j : Nat} (h : j < 5) (k : Option α) : ix 5 (nI j) k = k := ix_n h (by decide) k
theorem ix34 {α : Type} {j : Nat} (h : j < 34) (k : Option α) : ix 34 (nI j) k = k := ix_n h (by decide) k
theorem nz_n {α : Type} {y : Int32} (h : y ≠ 0) (k : Option α) : nz y k = k := by rw [nz, if_neg h]
theorem nz2 {α : Type} (k : Option α) : nz 2 k = k := nz_n (by decide) k
theorem nz10 {α : Type} (k : Option α) : nz 10 k = k := nz_n (by decide) k
theorem bz0 {α : Type} (k : Option α) : bz 0 k = k := by rw [bz, if_pos (Or.inl rfl)]
theorem bz1 {α : Type} (k : Option α) : bz 1 k = k := by rw [bz, if_pos (Or.inr rfl)]
theorem upd_s (f : Nat → Int32) (k : Nat) (x : Int32) : upd f k x k = x := pk_us
theorem upd_n (f : Nat → Int32) {k j : Nat} (x : Int32) (h : j ≠ k) : upd f k x j = f j := pk_un h
theorem cl_n {n : Nat} (h : n < 2 ^ 31) : Int32.toNatClampNeg (nI n) = n := nI_clamp h
theorem n17 (n : Nat) : (17 : Int32) * nI n = nI (17 * n) := pk_mul 17 n
theorem n5 (n : Nat) : nI n + 5 = nI (n + 5) := nI_add n 5
theorem n10 (n : Nat) : nI n + 10 = nI (n + 10) := nI_add n 10
theorem n15 (n : Nat) : nI n + 15 = nI (n + 15) := nI_add n 15
theorem n16 (n : Nat) : nI n + 16 = nI (n + 16) := nI_add n 16
theorem lt_le {a b : Nat} (h : a < b) (hb : b < 2 ^ 31) : ¬ nI b ≤ nI a := nI_ge h hb
/-! how long a fish lasts, by its bowl's hours and its kind -/
def lasF (h k : Int32) : Int32 := if k = 2 then (if h ≤ 1 then h else h / 2) else h
def lasS (hours kind pl : Nat → Int32) (i : Nat) : Int32 := lasF (hours (pl i).toNatClampNeg) (kind i)
/-- the plan: sizes and values -/
def PR (B F Lp : Nat) (hours first kind post error round first2 kind2 begins error2 : Nat → Int32) : Prop :=
  (B ≤ 5 ∧ F ≤ 5 ∧ Lp ≤ 4 ∧ (0 < Lp → 0 < B)) ∧ (∀ i, i < B → round i = hours i ∧ ∃ h, 1 ≤ h ∧ h < 10 ∧ hours i = nI h) ∧ (∀ i, i < F → (first2 i = first i ∧ kind2 i = kind i) ∧ ∃ s, s < 10 ∧ first i = nI s) ∧ (∀ i, i < Lp → begins i = post i ∧ error2 i = error i ∧ (∃ b, b < B ∧ post i = nI b) ∧ ∃ e, e < 4 ∧ error i = nI e)
/-- what a fish knows, and what is left of it -/
def kOK (k w : Int32) : Prop := (k = -9 ∧ w = 0) ∨ ∃ s, s < 10 ∧ k = nI s
/-- a moment of the class, and a level of the reference's row -/
def MR (B F Lp C base : Nat) (hours kind pl kn lf : Nat → Int32) (du ck : Int32) (now : Nat → Int32) : Prop :=
  (∀ i, i < F → now (base + i) = pl i ∧ now (base + 5 + i) = kn i ∧ now (base + 10 + i) = lf i ∧ (∃ b, b < B ∧ pl i = nI b) ∧ (0 ≤ lf i ∧ lf i ≤ lasS hours kind pl i) ∧ kOK (kn i) (lf i)) ∧ now (base + 15) = du ∧ now (base + 16) = ck ∧ (∃ d, d < 2 ^ Lp ∧ du = nI d) ∧ (∃ c, c ≤ C ∧ ck = nI c)
/-- what a level leaves alone -/
def FrN (base : Nat) (now now' : Nat → Int32) : Prop := ∀ j, (j < base ∨ base + 17 ≤ j) → now' j = now j
theorem FrN.rf {base : Nat} {now : Nat → Int32} : FrN base now now := fun _ _ => rfl
theorem FrN.tr {base : Nat} {a b c : Nat → Int32} (h1 : FrN base a b) (h2 : FrN base b c) : FrN base a c := fun j hj => (h2 j hj).trans (h1 j hj)
theorem FrN.up {base k : Nat} {now : Nat → Int32} {x : Int32} (h1 : base ≤ k) (h2 : k < base + 17) : FrN base now (upd now k x) := fun j hj => upd_n _ _ (by omega)
theorem MR_set {B F Lp C base i : Nat} {hours kind pl kn lf now : Nat → Int32} {du ck v w : Int32} (hF : F ≤ 5) (h : MR B F Lp C base hours kind pl kn lf du ck now) (hi : i < F) (hw : 0 ≤ w ∧ w ≤ lasS hours kind pl i) (hv : kOK v w) : MR B F Lp C base hours kind pl (upd kn i v) (upd lf i w) du ck (upd (upd now (base + 5 + i) v) (base + 10 + i) w) := by
  obtain ⟨h1, h2, h3, h4⟩ := h
  refine ⟨fun j hj => ?_, ?_, ?_, h4⟩
  · obtain ⟨a1, a2, a3, a4, a5, a6⟩ := h1 j hj
    refine ⟨?_, ?_, ?_, a4, ?_, ?_⟩
    · rw [upd_n _ _ (by omega), upd_n _ _ (by omega), a1]
    · rw [upd_n _ _ (by omega)]
      by_cases e : j = i
      · subst e; rw [upd_s, upd_s]
      · rw [upd_n _ _ (by omega), upd_n _ _ e, a2]
    · by_cases e : j = i
      · subst e; rw [upd_s, upd_s]
      · rw [upd_n _ _ (by omega), upd_n _ _ (by omega), upd_n _ _ e, a3]
    · by_cases e : j = i
      · subst e; rw [upd_s]; exact hw
      · rw [upd_n _ _ e]; exact a5
    · by_cases e : j = i
      · subst e; rw [upd_s, upd_s]; exact hv
      · rw [upd_n _ _ e, upd_n _ _ e]; exact a6
  · rw [upd_n _ _ (by omega), upd_n _ _ (by omega), h2]
  · rw [upd_n _ _ (by omega), upd_n _ _ (by omega), h3]
theorem MR_lf {B F Lp C base i : Nat} {hours kind pl kn lf now : Nat → Int32} {du ck w : Int32} (hF : F ≤ 5) (h : MR B F Lp C base hours kind pl kn lf du ck now) (hi : i < F) (hw : 0 ≤ w ∧ w ≤ lasS hours kind pl i) (hv : kOK (kn i) w) : MR B F Lp C base hours kind pl kn (upd lf i w) du ck (upd now (base + 10 + i) w) := by
  obtain ⟨h1, h2, h3, h4⟩ := h
  refine ⟨fun j hj => ?_, ?_, ?_, h4⟩
  · obtain ⟨a1, a2, a3, a4, a5, a6⟩ := h1 j hj
    refine ⟨?_, ?_, ?_, a4, ?_, ?_⟩
    · rw [upd_n _ _ (by omega), a1]
    · rw [upd_n _ _ (by omega), a2]
    · by_cases e : j = i
      · subst e; rw [upd_s, upd_s]
      · rw [upd_n _ _ (by omega), upd_n _ _ e, a3]
    · by_cases e : j = i
      · subst e; rw [upd_s]; exact hw
      · rw [upd_n _ _ e]; exact a5
    · by_cases e : j = i
      · subst e; rw [upd_s]; exact hv
      · rw [upd_n _ _ e]; exact a6
  · rw [upd_n _ _ (by omega), h2]
  · rw [upd_n _ _ (by omega), h3]
theorem las_nat : ∀ h, 1 ≤ h → h < 10 → (∀ k : Int32, (if (if k = 2 then nI h / 2 else nI h) < 1 then (1 : Int32) else (if k = 2 then nI h / 2 else nI h)) = lasF (nI h) k) ∧ (∀ k : Int32, (0 : Int32) ≤ lasF (nI h) k ∧ 1 ≤ lasF (nI h) k) := by
  intro h h1 h2
  have hd : ∀ h, h < 10 → 1 ≤ h → ((if nI h / 2 < 1 then (1 : Int32) else nI h / 2) = (if nI h ≤ 1 then nI h else nI h / 2)) ∧ ((if nI h < 1 then (1 : Int32) else nI h) = nI h) ∧ (1 : Int32) ≤ nI h ∧ (1 : Int32) ≤ (if nI h ≤ 1 then nI h else nI h / 2) ∧ (0 : Int32) ≤ nI h ∧ (0 : Int32) ≤ (if nI h ≤ 1 then nI h else nI h / 2) := by decide +kernel
  obtain ⟨a1, a2, a3, a4, a5, a6⟩ := hd h h2 h1
  constructor
  · intro k
    unfold lasF
    by_cases hk : k = 2
    · simp only [hk, if_true]; exact a1
    · simp only [hk, if_false]; exact a2
  · intro k
    unfold lasF
    by_cases hk : k = 2
    · simp only [hk, if_true]; exact ⟨a6, a4⟩
    · simp only [hk, if_false]; exact ⟨a5, a3⟩
theorem fa_u2 (f : Nat → Int32) (i : Nat) (x y : Int32) : upd (upd f i x) i y = upd f i y := by
  funext j
  by_cases h : j = i
  · subst h; rw [upd_s, upd_s]
  · rw [upd_n _ _ h, upd_n _ _ h, upd_n _ _ h]
theorem fa_us (f : Nat → Int32) {i j : Nat} (h : i ≠ j) {x y : Int32} : upd (upd f i x) j y = upd (upd f j y) i x := by
  funext k
  by_cases h1 : k = j
  · subst h1; rw [upd_s, upd_n _ _ (Ne.symm h), upd_s]
  · rw [upd_n _ _ h1]
    by_cases h2 : k = i
    · subst h2; rw [upd_s, upd_s]
    · rw [upd_n _ _ h2, upd_n _ _ h2, upd_n _ _ h1]
theorem loop2r {κ σ1 ρ1 σ2 ρ2 : Type} {st1 : (σ1 → Option ρ1) → σ1 → Option ρ1} {st2 : κ → (σ2 → Option ρ2) → σ2 → Option ρ2} (n : Nat) (I : Nat → σ1 → σ2 → Prop) (E1 : σ1 → Option ρ1) (E2 : κ → σ2 → Option ρ2)
    (hs : ∀ i s1 s2, i < n → I i s1 s2 → ∃ s1' s2', I (i + 1) s1' s2' ∧ (∀ k, st1 k s1 = k s1') ∧ (∀ q k, st2 q k s2 = k s2'))
    (he : ∀ s1 s2, I n s1 s2 → (∀ k, st1 k s1 = E1 s1) ∧ ∀ q k, st2 q k s2 = E2 q s2) :
    ∀ (f1 f2 i : Nat) (s1 : σ1) (s2 : σ2), i ≤ n → n - i < f1 → n - i < f2 → I i s1 s2 → ∃ s1' s2', I n s1' s2' ∧ loopN st1 f1 s1 = E1 s1' ∧ ∀ q, loopN (st2 q) f2 s2 = E2 q s2' := by
  intro f1
  induction f1 with
  | zero => intro f2 i s1 s2 _ h; omega
  | succ f1 ih =>
    intro f2 i s1 s2 hi h1 h2 hI
    cases f2 with
    | zero => omega
    | succ f2 =>
      rcases Nat.lt_or_ge i n with hlt | hge
      · obtain ⟨s1', s2', hI', e1, e2⟩ := hs i s1 s2 hlt hI
        obtain ⟨t1, t2, hI2, q1, q2⟩ := ih f2 (i + 1) s1' s2' hlt (by omega) (by omega) hI'
        refine ⟨t1, t2, hI2, ?_, fun q => ?_⟩
        · show st1 (loopN st1 f1) s1 = _
          rw [e1, q1]
        · show st2 q (loopN (st2 q) f2) s2 = _
          rw [e2, q2]
      · have : i = n := by omega
        subst this
        obtain ⟨e1, e2⟩ := he s1 s2 hI
        exact ⟨s1, s2, hI, e1 _, fun q => e2 q _⟩
