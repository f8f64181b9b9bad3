theorem va_P_iff {D : va_G} {cl : List vw_C} {ws : va_W} {H : Heap} : va_P D cl ws H ↔ ∀ q ∈ ws, va_at D cl q H := by
  constructor
  · intro h q hq
    obtain ⟨k, hk⟩ := List.getElem?_of_mem hq
    exact h k q hk
  · intro h k q hk
    exact h q (List.mem_of_getElem? hk)
def apart2 (p q : Nat × va_E) : Prop := p.1 ≠ q.1
theorem va_D_iff {A : Nat → Prop} {ws : va_W} : va_D A ws ↔ ws.Pairwise apart2 ∧ ∀ q ∈ ws, A q.1 := by
  constructor
  · intro h
    refine ⟨List.pairwise_iff_getElem.mpr ?_, fun q hq => ?_⟩
    · intro i j hi hj hij e
      exact absurd (h.1 i j ws[i] ws[j] (List.getElem?_eq_getElem hi) (List.getElem?_eq_getElem hj) e) (by omega)
    · obtain ⟨k, hk⟩ := List.getElem?_of_mem hq
      exact h.2 k q hk
  · intro h
    refine ⟨fun i j p q hi hj e => ?_, fun k q hk => h.2 q (List.mem_of_getElem? hk)⟩
    obtain ⟨hi1, hi2⟩ := List.getElem?_eq_some_iff.mp hi
    obtain ⟨hj1, hj2⟩ := List.getElem?_eq_some_iff.mp hj
    have hp := List.pairwise_iff_getElem.mp h.1
    rcases Nat.lt_trichotomy i j with q | q | q
    · exact absurd (by rw [hi2, hj2]; exact e) (hp i j hi1 hj1 q)
    · exact q
    · exact absurd (by rw [hi2, hj2]; exact e.symm) (hp j i hj1 hi1 q)
theorem sel_mem {α : Type} {gs gs' : List α} {is : List Nat} (hs : is.map (fun i => gs[i]?) = gs'.map some) {g : α} (hg : g ∈ gs') : g ∈ gs := by
  have h1 : some g ∈ gs'.map some := List.mem_map.mpr ⟨g, hg, rfl⟩
  rw [← hs] at h1
  obtain ⟨i, -, hi⟩ := List.mem_map.mp h1
  exact List.mem_of_getElem? hi
theorem flat_P {D : va_G} {cl : List vw_C} {gs gs' : List va_W} {is : List Nat} {H : Heap} (hs : is.map (fun i => gs[i]?) = gs'.map some) (h : va_P D cl gs.flatten H) : va_P D cl gs'.flatten H := by
  rw [va_P_iff] at h ⊢
  intro q hq
  obtain ⟨g, hg, hq⟩ := List.mem_flatten.mp hq
  exact h q (List.mem_flatten.mpr ⟨g, sel_mem hs hg, hq⟩)
theorem sel_pair {α : Type} {R : α → α → Prop} (hR : ∀ a b, R a b → R b a) {gs gs' : List α} {is : List Nat} (hs : is.map (fun i => gs[i]?) = gs'.map some) (hn : va_nd is = true) (h : gs.Pairwise R) : gs'.Pairwise R := by
  have hp := List.pairwise_iff_getElem.mp h
  refine List.pairwise_iff_getElem.mpr ?_
  intro a b ha hb hab
  have hl : is.length = gs'.length := by have := congrArg List.length hs; simpa using this
  have key : ∀ (k : Nat) (hk : k < gs'.length), gs[is[k]'(by omega)]? = some gs'[k] := by
    intro k hk
    have h1 : (is.map (fun i => gs[i]?))[k]? = (gs'.map some)[k]? := by rw [hs]
    rw [List.getElem?_map, List.getElem?_map, List.getElem?_eq_getElem (by omega), List.getElem?_eq_getElem hk] at h1
    exact Option.some.inj h1
  obtain ⟨x1, x2⟩ := List.getElem?_eq_some_iff.mp (key a ha)
  obtain ⟨y1, y2⟩ := List.getElem?_eq_some_iff.mp (key b hb)
  rw [← x2, ← y2]
  have hne : is[a]'(by omega) ≠ is[b]'(by omega) := fun e => by
    have := va_nd_inj is hn a b (is[a]'(by omega)) (List.getElem?_eq_getElem (by omega)) (by rw [e]; exact List.getElem?_eq_getElem (by omega))
    omega
  rcases Nat.lt_or_gt_of_ne hne with q | q
  · exact hp _ _ x1 y1 q
  · exact hR _ _ (hp _ _ y1 x1 q)
theorem flat_D {A : Nat → Prop} {gs gs' : List va_W} {is : List Nat} (hs : is.map (fun i => gs[i]?) = gs'.map some) (hn : va_nd is = true) (h : va_D A gs.flatten) : va_D A gs'.flatten := by
  rw [va_D_iff] at h ⊢
  refine ⟨?_, fun q hq => ?_⟩
  · have h1 := List.pairwise_flatten.mp h.1
    refine List.pairwise_flatten.mpr ⟨fun g hg => h1.1 g (sel_mem hs hg), ?_⟩
    exact sel_pair (fun a b hab x hx y hy e => hab y hy x hx e.symm) hs hn h1.2
  · obtain ⟨g, hg, hq⟩ := List.mem_flatten.mp hq
    exact h.2 q (List.mem_flatten.mpr ⟨g, sel_mem hs hg, hq⟩)
section Flat
variable {G : Cx} {y : MethodName} {cc : ByteArray} {nL : Nat} {ret : Option FieldType} {rm : Room} {ck sk : Nat} {ws : va_W} {lv : List (Nat × Value)} {pc : Nat} {st : List Value}
variable {wc : va_W} {rv : Option Value} {wf : List Nat → va_W}
theorem ab_wsF (is : List Nat) {gs gs' : List va_W} (hs : is.map (fun i => gs[i]?) = gs'.map some) (hn : va_nd is = true) (kk : AB G ck sk gs'.flatten lv pc st) : AB G ck sk gs.flatten lv pc st :=
  fun H locs ls hP hD hS hl => kk H locs ls (flat_P hs hP) (flat_D hs hn hD) hS hl
theorem ab_weq {ws' : va_W} (e : ws = ws') (kk : AB G ck sk ws' lv pc st) : AB G ck sk ws lv pc st := e ▸ kk
/-- a call over some of the caller's groups -/
theorem ab_invF (h : Am G y cc nL ret rm) {stk : List Value} {mc ms : Nat} {a : Array Value} {gs gc gr : List va_W} (hrun : ∀ (H : Heap) (locs : List Loc) (ls : Array Slot), va_P (g_K G).1 vwCl wc H → va_D (g_A G) wc → va_S (g_A G) (g_s G).heap H locs → (∀ q, va_A wc H.size q → g_A G q) → lv_has ls (g_c G).maxLocals lv → GRun G H locs ck sk mc ms (F0 (g_m G) pc ls stk) st (QQ (g_K G) rv wf (va_A wc H.size) a) (va_A wc H.size))
    (hwc : wc = gc.flatten) (isC isR : List Nat) (hC : isC.map (fun i => gs[i]?) = gc.map some) (hCn : va_nd isC = true) (hR : isR.map (fun i => gs[i]?) = gr.map some) (hn : va_nd (isR ++ isC) = true)
    (k : ∀ u, AB G (ck + mc) (sk + ms) (gr.flatten ++ wf u) lv (pc + 3) (rv.toList ++ st)) : AB G ck sk gs.flatten lv pc stk := by
  intro H locs ls hP hD hS hl
  subst hwc
  have hPc := flat_P hC hP
  have hDc := flat_D hC hCn hD
  have hX : (isR ++ isC).map (fun i => gs[i]?) = (gr ++ gc).map some := by rw [List.map_append, List.map_append, hC, hR]
  have hP0 := flat_P hX hP
  have hD0 := flat_D hX hn hD
  rw [List.flatten_append] at hP0 hD0
  have hFc : ∀ q, va_A gc.flatten H.size q → g_A G q := by
    intro q hq
    rcases hq with ⟨k, e, hk⟩ | hq
    · exact hDc.2 k _ hk
    · exact h.2.2.2.2.2.2.1 q (Nat.le_trans hS.1 hq)
  intro T hT X
  obtain ⟨v, st₀, t, T', L, h0, X', hL, e1, e2, ⟨⟨hv, u, hP1, hK1, hD1⟩, hz, hk⟩, stp⟩ := hrun H locs ls hPc hDc hS hFc hl T hT X
  cases hv
  rw [h0] at hz hk
  rw [← e1] at hP1 hz hk
  have hS2 : va_S (g_A G) (g_s G).heap T'.heap (locs ++ L) := ⟨Nat.le_trans hS.1 hz, fun q h1 h2 => (hk q (Nat.lt_of_lt_of_le h1 hS.1) (fun z => h2 (hFc q z))).trans (hS.2.1 q h1 h2), fun q hq => by
      rcases List.mem_append.mp hq with h | h
      · exact hS.2.2 q h
      · exact hFc _ (hL q h)⟩
  have hPi := va_P_iff.mp hP0
  have hDi := va_D_iff.mp hD0
  have hpa := List.pairwise_append.mp hDi.1
  have far : ∀ q ∈ gr.flatten, ¬ va_A gc.flatten H.size q.1 := by
    intro q hq hA
    rcases hA with ⟨k, e, hk⟩ | hA
    · exact hpa.2.2 q hq _ (List.mem_of_getElem? hk) rfl
    · exact absurd (hPi q (List.mem_append_left _ hq)).lt (Nat.not_lt.mpr hA)
  have hP2 : va_P (g_K G).1 vwCl (gr.flatten ++ wf u) T'.heap := by
    refine va_P.app ?_ hP1
    rw [va_P_iff]
    intro q hq
    have h1 := hPi q (List.mem_append_left _ hq)
    exact h1.kept (hk q.1 h1.lt (far q hq))
  have hD2 : va_D (g_A G) (gr.flatten ++ wf u) := by
    have hD1i := va_D_iff.mp hD1
    rw [va_D_iff]
    refine ⟨List.pairwise_append.mpr ⟨hpa.1, hD1i.1, fun a ha b hb e => far a ha (by rw [e]; exact hD1i.2 b hb)⟩, fun q hq => ?_⟩
    rcases List.mem_append.mp hq with h | h
    · exact hDi.2 q (List.mem_append_left _ h)
    · exact hFc _ (hD1i.2 q h)
  obtain ⟨t2, a1, b1⟩ := k u T'.heap (locs ++ L) ls hP2 hD2 hS2 hl T' rfl X'
  exact ⟨t2, stp t2 a1, b1⟩
/-- the same, of a call that makes nothing; then the groups in the order that is wanted -/
theorem ab_cutF (h : Am G y cc nL ret rm) {stk : List Value} {mc ms : Nat} {a : Array Value} (gs gc gr g1 gs' : List va_W) (hrun : ∀ (H : Heap) (locs : List Loc) (ls : Array Slot), va_P (g_K G).1 vwCl wc H → va_D (g_A G) wc → va_S (g_A G) (g_s G).heap H locs → (∀ q, va_A wc H.size q → g_A G q) → lv_has ls (g_c G).maxLocals lv → GRun G H locs ck sk mc ms (F0 (g_m G) pc ls stk) st (QQ (g_K G) rv wf (va_A wc H.size) a) (va_A wc H.size))
    (hwc : wc = gc.flatten) (isC isR isN : List Nat) (hC : isC.map (fun i => gs[i]?) = gc.map some) (hCn : va_nd isC = true) (hR : isR.map (fun i => gs[i]?) = gr.map some) (hn : va_nd (isR ++ isC) = true) (hwf : ∀ u, wf u = g1.flatten) (hN : isN.map (fun i => (gr ++ g1)[i]?) = gs'.map some) (hNn : va_nd isN = true) (stk' : List Value) (hst : rv.toList ++ st = stk') (hmc : mc = 0) (hms : ms = 0)
    (k : AB G ck sk gs'.flatten lv (pc + 3) stk') : AB G ck sk gs.flatten lv pc stk := by
  subst hmc; subst hms; subst hst
  refine ab_invF h hrun hwc isC isR hC hCn hR hn (fun u => ?_)
  rw [hwf u, ← List.flatten_append]
  exact ab_wsF isN hN hNn k
theorem fl_snoc (gs : List va_W) (w : va_W) : gs.flatten ++ w = (gs ++ [w]).flatten := by simp
theorem ab_newF (h : Am G y cc nL ret rm) {g0 : List va_W} {C : String} {T : u_T} {N ci index : Nat} {fs : List Value} (hin : ∀ w ∈ u_ws C T N, w ∈ lw_tg) (ty : Nat → FieldType) (hty : ∀ k, k < N → parseFieldDescriptor (T k).2.2.1 = some (ty k)) (m1 : Cond.classLink y.cls index C ∈ lw_tg) (m2 : Cond.instantiable C N ∈ lw_tg) (m3 : Cond.initialized C ∈ lw_tg) (hc : vwCl[ci]? = some (C, T, N)) (hfs : ∀ j, j < N → defaultValue (ty j) = vp_V fs j) (hcs : ck + 1 ≤ rm.cells ∧ sk + N ≤ rm.slots) (d : decode cc pc = .ok (.new index, 3)) (k : ∀ q : Nat, AB G (ck + 1) (sk + N) (g0 ++ [([(q, .inr (ci, fs))] : va_W)]).flatten lv (pc + 3) (.ref q :: st)) : AB G ck sk g0.flatten lv pc st :=
  ab_new h hin ty hty m1 m2 m3 hc hfs hcs d (fun q => by rw [fl_snoc]; exact k q)
theorem ab_newIF (h : Am G y cc nL ret rm) {g0 : List va_W} {n : Int32} (N : Nat) (hn : ¬ n < 0 ∧ n.toNatClampNeg = N) (hN : N * 4 ≤ 536870912) (hcs : ck + 1 ≤ rm.cells ∧ sk + N ≤ rm.slots) (m1 : Cond.arrayClass .int ∈ lw_tg) (d : decode cc pc = .ok (.newarray .int, 2)) (k : ∀ q : Nat, AB G (ck + 1) (sk + N) (g0 ++ [([(q, .inl ((g_K G).2.1, N, .inl (fun _ => 0)))] : va_W)]).flatten lv (pc + 2) (.ref q :: st)) : AB G ck sk g0.flatten lv pc (.int n :: st) :=
  ab_newI h N hn hN hcs m1 d (fun q => by rw [fl_snoc]; exact k q)
theorem ab_newZF (h : Am G y cc nL ret rm) {g0 : List va_W} {n : Int32} (N : Nat) (hn : ¬ n < 0 ∧ n.toNatClampNeg = N) (hN : N * 1 ≤ 536870912) (hcs : ck + 1 ≤ rm.cells ∧ sk + N ≤ rm.slots) (m1 : Cond.arrayClass .boolean ∈ lw_tg) (d : decode cc pc = .ok (.newarray .boolean, 2)) (k : ∀ q : Nat, AB G (ck + 1) (sk + N) (g0 ++ [([(q, .inl ((g_K G).2.2.1, N, .inl (fun _ => 0)))] : va_W)]).flatten lv (pc + 2) (.ref q :: st)) : AB G ck sk g0.flatten lv pc (.int n :: st) :=
  ab_newZ h N hn hN hcs m1 d (fun q => by rw [fl_snoc]; exact k q)
theorem ab_newRF (h : Am G y cc nL ret rm) {g0 : List va_W} {n : Int32} {index : Nat} (N : Nat) (hn : ¬ n < 0 ∧ n.toNatClampNeg = N) (hN : N * 4 ≤ 536870912) (hcs : ck + 1 ≤ rm.cells ∧ sk + N ≤ rm.slots) (m1 : Cond.classLink y.cls index "BowlState$Moment" ∈ lw_tg) (d : decode cc pc = .ok (.anewarray index, 3)) (k : ∀ q : Nat, AB G (ck + 1) (sk + N) (g0 ++ [([(q, rcell (g_K G).2.2.2 N [])] : va_W)]).flatten lv (pc + 3) (.ref q :: st)) : AB G ck sk g0.flatten lv pc (.int n :: st) :=
  ab_newR h N hn hN hcs m1 d (fun q => by rw [fl_snoc]; exact k q)
theorem ab_madeF (h : Am G y cc nL ret rm) {stk : List Value} {mc ms : Nat} {a : Array Value} (gs gr : List va_W) (gf : List Nat → List va_W) (hrun : ∀ (H : Heap) (locs : List Loc) (ls : Array Slot), va_P (g_K G).1 vwCl wc H → va_D (g_A G) wc → va_S (g_A G) (g_s G).heap H locs → (∀ q, va_A wc H.size q → g_A G q) → lv_has ls (g_c G).maxLocals lv → GRun G H locs ck sk mc ms (F0 (g_m G) pc ls stk) st (QQ (g_K G) none wf (va_A wc H.size) a) (va_A wc H.size))
    (isC isR : List Nat) (hC : isC.map (fun i => gs[i]?) = [wc].map some) (hCn : va_nd isC = true) (hR : isR.map (fun i => gs[i]?) = gr.map some) (hn : va_nd (isR ++ isC) = true) (hwf : ∀ u, wf u = (gf u).flatten)
    (k : ∀ u, AB G (ck + mc) (sk + ms) (gr ++ gf u).flatten lv (pc + 3) st) : AB G ck sk gs.flatten lv pc stk :=
  ab_invF h hrun (by simp) isC isR hC hCn hR hn (fun u => by rw [hwf u, ← List.flatten_append]; exact k u)
end Flat
