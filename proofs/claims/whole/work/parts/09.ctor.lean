def rowc (l : List Nat) : Nat → Option Nat := fun i => l[i]?
abbrev rcell (c : ClassId) (n : Nat) (l : List Nat) : va_E := .inl (c, n, .inr (.inr (.inr (.inr (rowc l)))))
def rdx {α : Type} (n : Nat) (i : Int32) (k : Nat → Option α) : Option α := if i < 0 ∨ n ≤ i.toNatClampNeg then none else k i.toNatClampNeg
def adr (h : Nat) (u : List Nat) : Nat → Nat := fun i => (h :: u).getD i 0
theorem rowc_set {l : List Nat} {L v : Nat} (h : L < l.length) : va_up (rowc l) L (some v) = rowc (l.set L v) := by
  funext i
  unfold va_up rowc
  rw [List.getElem?_set]
  by_cases hi : i = L
  · subst hi; simp [h]
  · rw [if_neg hi, if_neg (fun e => hi e.symm)]
theorem rowc_push {l : List Nat} {v : Nat} : va_up (rowc l) l.length (some v) = rowc (l ++ [v]) := by
  funext i
  unfold va_up rowc
  by_cases hi : i = l.length
  · subst hi; simp
  · rw [if_neg hi]
    rcases Nat.lt_or_ge i l.length with h | h
    · rw [List.getElem?_append_left h]
    · rw [List.getElem?_eq_none h, List.getElem?_append_right h, List.getElem?_eq_none]
      simp; omega
theorem lt14 {P : Nat → Prop} (h0 : P 0) (h1 : P 1) (h2 : P 2) (h3 : P 3) (h4 : P 4) (h5 : P 5) (h6 : P 6) (h7 : P 7) (h8 : P 8) (h9 : P 9) (h10 : P 10) (h11 : P 11) (h12 : P 12) (h13 : P 13) : ∀ L, L < 14 → P L := by
  intro L hL
  rcases L with _ | _ | _ | _ | _ | _ | _ | _ | _ | _ | _ | _ | _ | _ | L <;> first | assumption | omega
theorem lt2 {P : Nat → Prop} (h0 : P 0) (h1 : P 1) : ∀ L, L < 2 → P L := by
  intro L hL
  rcases L with _ | _ | L <;> first | assumption | omega
section Ctors
variable {G : Cx} {y : MethodName} {cc : ByteArray} {nL : Nat} {ret : Option FieldType} {rm : Room} {ck sk : Nat} {ws : va_W} {lv : List (Nat × Value)} {pc : Nat} {st : List Value}
theorem ab_aald (h : Am G y cc nL ret rm) (q0 : Nat) {ρ : Type} {r : ρ} {a n : Nat} {l : List Nat} {i : Int32} {E : Nat → Option ρ} (ha : ws[q0]? = some (a, rcell (g_K G).2.2.2 n l)) (hn : l.length = n) (d : decode cc pc = .ok (.aaload, 1)) (k : ∀ L : Nat, L < n → E L = some r → AB G ck sk ws lv (pc + 1) (.ref (l.getD L 0) :: st)) : rdx n i E = some r → AB G ck sk ws lv pc (.int i :: .ref a :: st) := by
  intro hf
  by_cases hi : vp_in i n
  · rw [rdx, if_neg hi] at hf
    have hlt : i.toNatClampNeg < n := Nat.not_le.mp fun q => hi (Or.inr q)
    have e : va_rf (rowc l i.toNatClampNeg) = .ref (l.getD i.toNatClampNeg 0) := by
      unfold rowc
      rw [List.getElem?_eq_getElem (by omega)]
      simp [va_rf, List.getD, List.getElem?_eq_getElem (show i.toNatClampNeg < l.length by omega)]
    exact fun H locs ls hP hD hS hl => va_aldq h.1 h.2.1 h.2.2.2.2.2.1 hP q0 2 ha rfl hi d (by rw [e]; exact k _ hlt hf H locs ls hP hD hS hl)
  · rw [rdx, if_pos (Classical.not_not.mp hi)] at hf; cases hf
theorem ab_aald1 (h : Am G y cc nL ret rm) (q0 L : Nat) {a n v : Nat} {l : List Nat} {i : Int32} (ha : ws[q0]? = some (a, rcell (g_K G).2.2.2 n l)) (hi : vp_in i n) (hL : i.toNatClampNeg = L) (hv : l[L]? = some v) (d : decode cc pc = .ok (.aaload, 1)) (k : AB G ck sk ws lv (pc + 1) (.ref v :: st)) : AB G ck sk ws lv pc (.int i :: .ref a :: st) := by
  subst hL
  have e : va_rf (rowc l i.toNatClampNeg) = .ref v := by unfold rowc; rw [hv]; rfl
  exact fun H locs ls hP hD hS hl => va_aldq h.1 h.2.1 h.2.2.2.2.2.1 hP q0 2 ha rfl hi d (by rw [e]; exact k H locs ls hP hD hS hl)
theorem ab_aast (h : Am G y cc nL ret rm) (q0 qk L : Nat) (l' : List Nat) (ws' : va_W) {a n v : Nat} {vs : List Value} {l : List Nat} {i : Int32} (ha : ws[q0]? = some (a, rcell (g_K G).2.2.2 n l)) (hv : ws[qk]? = some (v, .inr (1, vs))) (hi : vp_in i n) (hL : i.toNatClampNeg = L) (hl' : va_up (rowc l) L (some v) = rowc l') (hw : ws.set q0 (a, rcell (g_K G).2.2.2 n l') = ws') (d : decode cc pc = .ok (.aastore, 1)) (k : AB G ck sk ws' lv (pc + 1) st) : AB G ck sk ws lv pc (.ref v :: .int i :: .ref a :: st) := by
  subst hL
  subst hw
  intro H locs ls hP hD hS hl
  refine va_astq h.1 h.2.1 h.2.2.2.2.2.1 hP hD hS q0 2 qk 1 ha rfl hv rfl hi d ?_
  intro H1 locs1 hP hD hS
  rw [hl'] at hP hD
  exact k H1 locs1 ls hP hD hS hl
theorem ab_new (h : Am G y cc nL ret rm) {C : String} {T : u_T} {N ci index : Nat} {fs : List Value} (hin : ∀ w ∈ u_ws C T N, w ∈ lw_tg) (ty : Nat → FieldType) (hty : ∀ k, k < N → parseFieldDescriptor (T k).2.2.1 = some (ty k)) (m1 : Cond.classLink y.cls index C ∈ lw_tg) (m2 : Cond.instantiable C N ∈ lw_tg) (m3 : Cond.initialized C ∈ lw_tg) (hc : vwCl[ci]? = some (C, T, N)) (hfs : ∀ j, j < N → defaultValue (ty j) = vp_V fs j) (hcs : ck + 1 ≤ rm.cells ∧ sk + N ≤ rm.slots) (d : decode cc pc = .ok (.new index, 3)) (k : ∀ q : Nat, AB G (ck + 1) (sk + N) (ws ++ [(q, .inr (ci, fs))]) lv (pc + 3) (.ref q :: st)) : AB G ck sk ws lv pc st := by
  have hRr := h.2.2.2.2.2.2.2.2.2.2.1
  intro H locs ls hP hD hS hl
  exact va_new h.1 h.2.1 h.2.2.2.2.1 hin ty hty h.2.2.2.1 (h.2.2.2.2.1 _ m1) (h.2.2.2.2.1 _ m2) (h.2.2.2.2.1 _ m3) h.2.2.2.2.2.1 hP hD hS h.2.2.2.2.2.2.1 hc hfs (by rw [hRr]; exact hcs.1) (by rw [hRr]; exact hcs.2) d (fun q H1 hP hD hS => k q H1 locs ls hP hD hS hl)
theorem ab_newI (h : Am G y cc nL ret rm) {n : Int32} (N : Nat) (hn : ¬ n < 0 ∧ n.toNatClampNeg = N) (hN : N * 4 ≤ 536870912) (hcs : ck + 1 ≤ rm.cells ∧ sk + N ≤ rm.slots) (m1 : Cond.arrayClass .int ∈ lw_tg) (d : decode cc pc = .ok (.newarray .int, 2)) (k : ∀ q : Nat, AB G (ck + 1) (sk + N) (ws ++ [(q, .inl ((g_K G).2.1, N, .inl (fun _ => 0)))]) lv (pc + 2) (.ref q :: st)) : AB G ck sk ws lv pc (.int n :: st) := by
  have hRr := h.2.2.2.2.2.2.2.2.2.2.1
  intro H locs ls hP hD hS hl
  refine va_newa (atype := .int) (a0 := (N, .inl (fun _ => 0))) h.1 h.2.1 (h.2.2.2.2.1 _ m1) rfl h.2.2.2.2.2.1 hP hD hS h.2.2.2.2.2.2.1 (fun _ => rfl) hn.1 hn.2 hN (by rw [hRr]; exact hcs.1) (by rw [hRr]; exact hcs.2) d ?_
  intro q cA H1 hK1 hP hD hS
  have e1 := (hK1.2 3 _ rfl).2
  have e2 := (h.2.2.2.2.2.1.2 0 _ rfl).2
  have e : cA = (g_K G).2.1 := Option.some.inj ((show (g_s G).vm.findClass _ = some cA from e1).symm.trans e2)
  subst e
  exact k q H1 locs ls hP hD hS hl
theorem ab_newZ (h : Am G y cc nL ret rm) {n : Int32} (N : Nat) (hn : ¬ n < 0 ∧ n.toNatClampNeg = N) (hN : N * 1 ≤ 536870912) (hcs : ck + 1 ≤ rm.cells ∧ sk + N ≤ rm.slots) (m1 : Cond.arrayClass .boolean ∈ lw_tg) (d : decode cc pc = .ok (.newarray .boolean, 2)) (k : ∀ q : Nat, AB G (ck + 1) (sk + N) (ws ++ [(q, .inl ((g_K G).2.2.1, N, .inl (fun _ => 0)))]) lv (pc + 2) (.ref q :: st)) : AB G ck sk ws lv pc (.int n :: st) := by
  have hRr := h.2.2.2.2.2.2.2.2.2.2.1
  intro H locs ls hP hD hS hl
  refine va_newa (atype := .boolean) (a0 := (N, .inl (fun _ => 0))) h.1 h.2.1 (h.2.2.2.2.1 _ m1) rfl h.2.2.2.2.2.1 hP hD hS h.2.2.2.2.2.2.1 (fun _ => rfl) hn.1 hn.2 hN (by rw [hRr]; exact hcs.1) (by rw [hRr]; exact hcs.2) d ?_
  intro q cA H1 hK1 hP hD hS
  have e1 := (hK1.2 3 _ rfl).2
  have e2 := (h.2.2.2.2.2.1.2 1 _ rfl).2
  have e : cA = (g_K G).2.2.1 := Option.some.inj ((show (g_s G).vm.findClass _ = some cA from e1).symm.trans e2)
  subst e
  exact k q H1 locs ls hP hD hS hl
theorem ab_newR (h : Am G y cc nL ret rm) {n : Int32} {index : Nat} (N : Nat) (hn : ¬ n < 0 ∧ n.toNatClampNeg = N) (hN : N * 4 ≤ 536870912) (hcs : ck + 1 ≤ rm.cells ∧ sk + N ≤ rm.slots) (m1 : Cond.classLink y.cls index "BowlState$Moment" ∈ lw_tg) (d : decode cc pc = .ok (.anewarray index, 3)) (k : ∀ q : Nat, AB G (ck + 1) (sk + N) (ws ++ [(q, rcell (g_K G).2.2.2 N [])]) lv (pc + 3) (.ref q :: st)) : AB G ck sk ws lv pc (.int n :: st) := by
  have hRr := h.2.2.2.2.2.2.2.2.2.2.1
  intro H locs ls hP hD hS hl
  refine va_newq h.1 h.2.1 h.2.2.2.1 (h.2.2.2.2.1 _ m1) h.2.2.2.2.2.2.2.2.2.2.2.1.2.2.2.2.2 h.2.2.2.2.2.1 hP hD hS h.2.2.2.2.2.2.1 hn.1 hn.2 hN (by rw [hRr]; exact hcs.1) (by rw [hRr]; exact hcs.2) d ?_
  intro q cA H1 hK1 hP hD hS
  obtain ⟨-, -, -, -, -, e1⟩ := (hK1.2 3 _ rfl).2
  obtain ⟨-, -, -, -, -, e2⟩ := (h.2.2.2.2.2.1.2 2 _ rfl).2
  have e : cA = (g_K G).2.2.2 := Option.some.inj (e1.symm.trans e2)
  subst e
  exact k q H1 locs ls hP hD hS hl
theorem ab_oinit (h : Am G y cc nL ret rm) {idx a : Nat} (m1 : Cond.methodLink y.cls idx objectInit ∈ lw_tg) (m2 : Cond.instanceMethod objectInit ∈ lw_tg) (m3 : Cond.code objectInit ⟨#[0xb1]⟩ 1 none ∈ lw_tg) (hR : 1 ≤ rm.frames ∧ (st.map fun v => v.category).sum + 12 ≤ rm.locals) (d : decode cc pc = .ok (.invokespecial idx, 3)) (k : AB G ck sk ws lv (pc + 3) st) : AB G ck sk ws lv pc (.ref a :: st) := by
  have hRr := h.2.2.2.2.2.2.2.2.2.2.1
  intro H locs ls hP hD hS hl
  exact W.objInit h.1 h.2.1 h.2.2.2.1 (h.2.2.2.2.1 _ m1) (h.2.2.2.2.1 _ m2) (h.2.2.2.2.1 _ m3) rfl hl.1 rfl d (by rw [hRr]; exact hR.1) (by rw [hRr]; show 2 * 0 + _ + 12 ≤ _; have := hR.2; omega) (k H locs ls hP hD hS hl)
theorem ab_putF (h : Am G y cc nL ret rm) {C : String} {T : u_T} {N ci index a : Nat} {fs : List Value} {v : Value} {ty : FieldType} (hin : ∀ w ∈ u_ws C T N, w ∈ lw_tg) (ty0 : Nat → FieldType) (hty : ∀ k, k < N → parseFieldDescriptor (T k).2.2.1 = some (ty0 k)) (hnm : ∀ a, a < N → ∀ b, b < N → a ≠ b → (T a).2.1 ≠ (T b).2.1) (q0 : Nat) (ws' : va_W) (he : ws[q0]? = some (a, .inr (ci, fs))) (hc : vwCl[ci]? = some (C, T, N)) (k : Nat) (hk : k < N) (hm : Cond.fieldLink y.cls index (T k).1 (T k).2.1 (T k).2.2.1 ∈ lw_tg) (hfin : (T k).2.2.2 = true) (hnam : y.name = "<init>") (hdecl : (T k).1 = y.cls) (hd : parseFieldDescriptor (T k).2.2.1 = some ty) (hn : narrow ty v = v) (hfit : fits ty v = true) (hl : k < fs.length) (hw : ws.set q0 (a, .inr (ci, fs.set k v)) = ws') (d : decode cc pc = .ok (.putfield index, 3)) (kk : AB G ck sk ws' lv (pc + 3) st) : AB G ck sk ws lv pc (v :: .ref a :: st) := by
  subst hw
  exact fun H locs ls hP hD hS hl0 => va_putF h.1 h.2.1 h.2.2.2.2.1 hin ty0 hty hnm h.2.2.2.1 h.2.2.2.2.2.1 hP hD hS q0 he hc k hk (h.2.2.2.2.1 _ hm) (fun _ h9 => h9) hfin (h.2.2.2.2.2.2.2.2.2.1.trans hnam) hdecl hd hn hfit hl d (fun H1 locs1 hP hD hS => kk H1 locs1 ls hP hD hS hl0)
theorem ab_icmp_ge_t (h : Am G y cc nL ret rm) {x z : Int32} {off : Int} {tgt : Nat} (hc : z ≤ x) (d : decode cc pc = .ok (.if_icmp .ge off, 3)) (ht : (pc : Int) + off = (tgt : Int)) (k1 : AB G ck sk ws lv tgt st) : AB G ck sk ws lv pc (.int z :: .int x :: st) :=
  fun H locs ls hP hD hS hl => lv_icmp_ge h.1 h.2.1 d ht (fun _ => k1 H locs ls hP hD hS hl) (fun c => absurd hc c)
theorem ab_icmp_ge_f (h : Am G y cc nL ret rm) {x z : Int32} {off : Int} {tgt : Nat} (hc : ¬ z ≤ x) (d : decode cc pc = .ok (.if_icmp .ge off, 3)) (ht : (pc : Int) + off = (tgt : Int)) (k2 : AB G ck sk ws lv (pc + 3) st) : AB G ck sk ws lv pc (.int z :: .int x :: st) :=
  fun H locs ls hP hD hS hl => lv_icmp_ge h.1 h.2.1 d ht (fun c => absurd c hc) (fun _ => k2 H locs ls hP hD hS hl)
variable {y2 : MethodName} {cc2 : ByteArray} {nL2 : Nat} {rm2 : Room} {wc : va_W} {rv : Option Value} {wf : List Nat → va_W}
theorem run_I (h : Am G y cc nL ret rm) {b : Nat} {As : List Value} (hM : Ct (g_l G) y2 cc2 nL2 none rm2 (g_K G) (.ref b :: As) wc rv wf) (v : Iok y2 cc2 nL2 As.length) {index : Nat} (m1 : Cond.methodLink y.cls index y2 ∈ lw_tg) (hR : (rm2.frames + 1 ≤ rm.frames ∧ 8 + (nL2 + 11) + rm2.locals ≤ rm.locals) ∧ (ck + rm2.cells ≤ rm.cells ∧ sk + rm2.slots ≤ rm.slots) ∧ (st.map fun v => v.category).sum ≤ 8) (d : decode cc pc = .ok (.invokespecial index, 3)) {stk : List Value} (hst : stk = As.reverse ++ .ref b :: st) :
    ∀ (H : Heap) (locs : List Loc) (ls : Array Slot), va_P (g_K G).1 vwCl wc H → va_D (g_A G) wc → va_S (g_A G) (g_s G).heap H locs → (∀ q, va_A wc H.size q → g_A G q) → lv_has ls (g_c G).maxLocals lv → GRun G H locs ck sk rm2.cells rm2.slots (F0 (g_m G) pc ls stk) st (QQ (g_K G) rv wf (va_A wc H.size) (Value.ref b :: As).toArray) (va_A wc H.size) := by
  intro H locs ls hPc hDc hS hFc hl
  obtain ⟨⟨v1, v3, v4, vn⟩, v5⟩ := v
  have ht := h.2.2.2.2.1
  have hRr := h.2.2.2.2.2.2.2.2.2.2.1
  exact va_runI (As := As) (rest := st) (n := As.length) ⟨h.1, h.2.1, rfl, h.2.2.2.1, ht⟩ (hM H.size) ⟨callB_of As.length ht (lw_goodIn v4) rfl rfl rfl (ht _ v3) (ht _ m1) v5 (by rw [hRr]; exact hR.1), vn, ht _ v1⟩ ⟨PP_blind, PP_at h hPc hDc hS hFc⟩ rfl rfl hl.1 hst (lv_room hR.2.2) d (by rw [hRr]; exact hR.2.1)
theorem run_IN (h : Am G y cc nL ret rm) {b : Nat} {As : List Value} (hM : Ct (g_l G) y2 cc2 nL2 none rm2 (g_K G) (.ref b :: As) wc rv wf) (v : Iok y2 cc2 nL2 As.length) {index : Nat} (m1 : NW (g_s G) → va_Nw (.methodLinkNest y.cls index y2 "BowlState") (g_s G)) (hR : (rm2.frames + 1 ≤ rm.frames ∧ 8 + (nL2 + 11) + rm2.locals ≤ rm.locals) ∧ (ck + rm2.cells ≤ rm.cells ∧ sk + rm2.slots ≤ rm.slots) ∧ (st.map fun v => v.category).sum ≤ 8) (d : decode cc pc = .ok (.invokespecial index, 3)) {stk : List Value} (hst : stk = As.reverse ++ .ref b :: st) :
    ∀ (H : Heap) (locs : List Loc) (ls : Array Slot), va_P (g_K G).1 vwCl wc H → va_D (g_A G) wc → va_S (g_A G) (g_s G).heap H locs → (∀ q, va_A wc H.size q → g_A G q) → lv_has ls (g_c G).maxLocals lv → GRun G H locs ck sk rm2.cells rm2.slots (F0 (g_m G) pc ls stk) st (QQ (g_K G) rv wf (va_A wc H.size) (Value.ref b :: As).toArray) (va_A wc H.size) := by
  intro H locs ls hPc hDc hS hFc hl
  obtain ⟨⟨v1, v3, v4, vn⟩, v5⟩ := v
  have ht := h.2.2.2.2.1
  have hRr := h.2.2.2.2.2.2.2.2.2.2.1
  have hN := m1 h.2.2.2.2.2.2.2.2.2.2.2.1
  exact va_runIN (As := As) (rest := st) (n := As.length) (Ts := lw_tg) ⟨h.1, h.2.1, rfl, h.2.2.2.1, ht⟩ (hM H.size) ⟨va_cnB As.length ht (lw_goodIn v4) rfl rfl rfl hN (ht _ v3) v5 (by rw [hRr]; exact hR.1), vn, ht _ v1⟩ ⟨PP_blind, PP_at h hPc hDc hS hFc⟩ rfl rfl hl.1 hst (lv_room hR.2.2) d (by rw [hRr]; exact hR.2.1)
/-- a call that makes: its object, as it came, lies at isC; what it made comes behind -/
theorem ab_made (h : Am G y cc nL ret rm) {stk : List Value} {mc ms : Nat} {a : Array Value} {wr : va_W} (hrun : ∀ (H : Heap) (locs : List Loc) (ls : Array Slot), va_P (g_K G).1 vwCl wc H → va_D (g_A G) wc → va_S (g_A G) (g_s G).heap H locs → (∀ q, va_A wc H.size q → g_A G q) → lv_has ls (g_c G).maxLocals lv → GRun G H locs ck sk mc ms (F0 (g_m G) pc ls stk) st (QQ (g_K G) none wf (va_A wc H.size) a) (va_A wc H.size))
    (isC isR : List Nat) (hC : isC.map (fun i => ws[i]?) = wc.map some) (hCf : isC.filterMap (fun i => ws[i]?) = wc) (hCn : va_nd isC = true) (hR : isR.map (fun i => ws[i]?) = wr.map some) (hn : va_nd isR = true) (hdis : ∀ i ∈ isR, i ∉ isC)
    (k : ∀ u, AB G (ck + mc) (sk + ms) (wr ++ wf u) lv (pc + 3) st) : AB G ck sk ws lv pc stk := ab_inv h hrun isC isR hC hCf hCn hR hn hdis k
end Ctors
