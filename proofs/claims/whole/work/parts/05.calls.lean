theorem bind_inv {α ρ : Type} {o : Option α} {k : α → Option ρ} {r : ρ} (h : o.bind k = some r) : ∃ x, o = some x ∧ k x = some r := by
  cases o with
  | none => cases h
  | some x => exact ⟨x, rfl, h⟩
theorem bz_inv {ρ : Type} {v : Int32} {E : Option ρ} {r : ρ} (h : bz v E = some r) : (v = 0 ∨ v = 1) ∧ E = some r := by
  by_cases hv : v = 0 ∨ v = 1
  · rw [bz, if_pos hv] at h; exact ⟨hv, h⟩
  · rw [bz, if_neg hv] at h; cases h
theorem PP_blind {K : Kx} {av : List Value} {ws : va_W} {sz : Nat} : FrameBlind (PP K av ws sz) := fun a U g mk q => by
  obtain ⟨q0, q1, qP, qK, qD, qN, qF⟩ := q
  exact ⟨q0, q1, qP, va_K.moved (u := U) (U := U.calling g mk a) (Vm.Alike.refl U.vm) qK, qD, NW.same (u := U) (U := U.calling g mk a) rfl qN, FT.moved (u := U) (U := U.calling g mk a) (Vm.Alike.refl U.vm) qF⟩
theorem PP_at {G : Cx} {y : MethodName} {cc : ByteArray} {nL : Nat} {ret : Option FieldType} {rm : Room} (h : Am G y cc nL ret rm) {av : List Value} {wc : va_W} {H : Heap} {locs : List Loc} {A : Nat → Prop} (hP : va_P (g_K G).1 vwCl wc H) (hD : va_D A wc) (hS : va_S (g_A G) (g_s G).heap H locs) (hF : ∀ q, va_A wc H.size q → g_A G q) : ∀ U : State, U.heap = H → (g_s G).WarmedH U.vm → PP (g_K G) av wc H.size av.toArray U :=
  fun U hU hW => ⟨rfl, by rw [hU], by rw [hU]; exact hP, va_K.moved hW.alike h.2.2.2.2.2.1, hD.weaken (fun _ _ _ _ => trivial), NW.warm hW h.2.2.2.2.2.2.2.2.2.2.2.1, by
    rw [hU]
    exact ((h.2.2.2.2.2.2.2.2.2.2.2.2.kept (fun a h1 h2 => hS.2.1 a h1 h2)).narrow hF).moved hW.alike⟩
abbrev GRun (G : Cx) (H : Heap) (locs : List Loc) (ck sk mc ms : Nat) (g : JFrame) (rest : List Value) (Qa : State → Outcome → State → Prop) (free : Addr → Prop) : Prop := va_Run (g_p G) (g_l G) (g_e G) (g_R G) (g_s G) (g_m G) (g_a G) (g_b G) (g_h G) (g_c G) H locs ck sk mc ms g rest Qa free
section Calls
variable {G : Cx} {y : MethodName} {cc : ByteArray} {nL : Nat} {ret : Option FieldType} {rm : Room} {ck sk : Nat} {ws : va_W} {lv : List (Nat × Value)} {pc : Nat} {st : List Value}
variable {y2 : MethodName} {cc2 : ByteArray} {nL2 : Nat} {ret2 : Option FieldType} {rm2 : Room} {av : List Value} {wc : va_W} {rv : Option Value} {wf : List Nat → va_W}
/-- behind a call whose world is a part of the caller's -/
theorem ab_inv (h : Am G y cc nL ret rm) {stk : List Value} {mc ms : Nat} {a : Array Value} (hrun : ∀ (H : Heap) (locs : List Loc) (ls : Array Slot), va_P (g_K G).1 vwCl wc H → va_D (g_A G) wc → va_S (g_A G) (g_s G).heap H locs → (∀ q, va_A wc H.size q → g_A G q) → lv_has ls (g_c G).maxLocals lv → GRun G H locs ck sk mc ms (F0 (g_m G) pc ls stk) st (QQ (g_K G) rv wf (va_A wc H.size) a) (va_A wc H.size))
    (isC isR : List Nat) {wr : va_W} (hC : isC.map (fun i => ws[i]?) = wc.map some) (hCf : isC.filterMap (fun i => ws[i]?) = wc) (hCn : va_nd isC = true) (hR : isR.map (fun i => ws[i]?) = wr.map some) (hn : va_nd isR = true) (hdis : ∀ i ∈ isR, i ∉ isC)
    (k : ∀ u, AB G (ck + mc) (sk + ms) (wr ++ wf u) lv (pc + 3) (rv.toList ++ st)) : AB G ck sk ws lv pc stk := by
  intro H locs ls hP hD hS hl
  have hPc := hP.sub isC hCf
  have hDc := hD.sub isC hCn hC
  have hFc := va_free hD hS h.2.2.2.2.2.2.1 isC hC
  intro T hT X
  obtain ⟨v, st₀, t, T', L, h0, X', hL, e1, e2, ⟨⟨hv, u, hP1, hK1, hD1⟩, hz, hk⟩, stp⟩ := hrun H locs ls hPc hDc hS hFc hl T hT X
  cases hv
  rw [h0] at hz hk
  rw [← e1] at hP1 hz hk
  obtain ⟨hP2, hD2⟩ := va_join hP hD isC isR hC hR hn hdis hk hFc hP1 hD1
  have hS2 : va_S (g_A G) (g_s G).heap T'.heap (locs ++ L) := ⟨Nat.le_trans hS.1 hz, fun q h1 h2 => (hk q (Nat.lt_of_lt_of_le h1 hS.1) (fun z => h2 (hFc q z))).trans (hS.2.1 q h1 h2), fun q hq => by
      rcases List.mem_append.mp hq with h | h
      · exact hS.2.2 q h
      · exact hFc _ (hL q h)⟩
  obtain ⟨t2, a1, b1⟩ := k u T'.heap (locs ++ L) ls hP2 hD2 hS2 hl T' rfl X'
  exact ⟨t2, stp t2 a1, b1⟩
/-- behind a call whose world is the caller's -/
theorem ab_inv0 (h : Am G y cc nL ret rm) {stk : List Value} {mc ms : Nat} {a : Array Value} (hrun : ∀ (H : Heap) (locs : List Loc) (ls : Array Slot), va_P (g_K G).1 vwCl ws H → va_D (g_A G) ws → va_S (g_A G) (g_s G).heap H locs → (∀ q, va_A ws H.size q → g_A G q) → lv_has ls (g_c G).maxLocals lv → GRun G H locs ck sk mc ms (F0 (g_m G) pc ls stk) st (QQ (g_K G) rv wf (va_A ws H.size) a) (va_A ws H.size))
    (k : ∀ u, AB G (ck + mc) (sk + ms) (wf u) lv (pc + 3) (rv.toList ++ st)) : AB G ck sk ws lv pc stk := by
  intro H locs ls hP hD hS hl
  have hFc : ∀ q, va_A ws H.size q → g_A G q := by
    intro q hq
    rcases hq with ⟨k, e, hk⟩ | hq
    · exact hD.2 k _ hk
    · exact h.2.2.2.2.2.2.1 q (Nat.le_trans hS.1 hq)
  intro T hT X
  obtain ⟨v, st₀, t, T', L, h0, X', hL, e1, e2, ⟨⟨hv, u, hP1, hK1, hD1⟩, hz, hk⟩, stp⟩ := hrun H locs ls hP hD hS hFc hl T hT X
  cases hv
  rw [h0] at hz hk
  rw [← e1] at hP1 hz hk
  have hD2 : va_D (g_A G) (wf u) := ⟨hD1.1, fun k q hq => hFc _ (hD1.2 k q hq)⟩
  have hS2 : va_S (g_A G) (g_s G).heap T'.heap (locs ++ L) := ⟨Nat.le_trans hS.1 hz, fun q h1 h2 => (hk q (Nat.lt_of_lt_of_le h1 hS.1) (fun z => h2 (hFc q z))).trans (hS.2.1 q h1 h2), fun q hq => by
      rcases List.mem_append.mp hq with h | h
      · exact hS.2.2 q h
      · exact hFc _ (hL q h)⟩
  obtain ⟨t2, a1, b1⟩ := k u T'.heap (locs ++ L) ls hP1 hD2 hS2 hl T' rfl X'
  exact ⟨t2, stp t2 a1, b1⟩
/-- what the tables say of a method of an object, of a static one, of one that makes -/
def Vok (y2 : MethodName) (cc2 : ByteArray) (nL2 : Nat) (ret2 : Option FieldType) (n : Nat) : Prop := (Cond.instanceMethod y2 ∈ lw_tg ∧ Cond.selects y2.cls y2 y2 ∈ lw_tg ∧ Cond.initialized y2.cls ∈ lw_tg ∧ Cond.code y2 cc2 nL2 ret2 ∈ lw_tg) ∧ (y2.cls ≠ "java/lang/invoke/MethodHandle" ∧ y2.cls ≠ "java/lang/invoke/VarHandle" ∧ (parseMethodDescriptor y2.desc).map (fun d => d.parameters.length) = some n)
def Sok (y2 : MethodName) (cc2 : ByteArray) (nL2 : Nat) (ret2 : Option FieldType) (n : Nat) : Prop := (Cond.static y2 ∈ lw_tg ∧ Cond.initialized y2.cls ∈ lw_tg ∧ Cond.code y2 cc2 nL2 ret2 ∈ lw_tg) ∧ (y2.cls ≠ "java/lang/invoke/MethodHandle" ∧ y2.cls ≠ "java/lang/invoke/VarHandle" ∧ (parseMethodDescriptor y2.desc).map (fun d => d.parameters.length) = some n)
def Iok (y2 : MethodName) (cc2 : ByteArray) (nL2 : Nat) (n : Nat) : Prop := (Cond.instanceMethod y2 ∈ lw_tg ∧ Cond.initialized y2.cls ∈ lw_tg ∧ Cond.code y2 cc2 nL2 none ∈ lw_tg ∧ y2.name = "<init>") ∧ (y2.cls ≠ "java/lang/invoke/MethodHandle" ∧ y2.cls ≠ "java/lang/invoke/VarHandle" ∧ (parseMethodDescriptor y2.desc).map (fun d => d.parameters.length) = some n)
theorem run_V (h : Am G y cc nL ret rm) {b : Nat} {As : List Value} (hM : Ct (g_l G) y2 cc2 nL2 ret2 rm2 (g_K G) (.ref b :: As) wc rv wf) (v : Vok y2 cc2 nL2 ret2 As.length) {index ci : Nat} {T : u_T} {N : Nat} {fs : List Value} (q0 : Nat) (hrec : wc[q0]? = some (b, .inr (ci, fs))) (hcl : vwCl[ci]? = some (y2.cls, T, N)) (m1 : Cond.methodLink y.cls index y2 ∈ lw_tg) (hR : (rm2.frames + 1 ≤ rm.frames ∧ 8 + (nL2 + 11) + rm2.locals ≤ rm.locals) ∧ (ck + rm2.cells ≤ rm.cells ∧ sk + rm2.slots ≤ rm.slots) ∧ (st.map fun v => v.category).sum ≤ 8) (d : decode cc pc = .ok (.invokevirtual index, 3)) {stk : List Value} (hst : stk = As.reverse ++ .ref b :: st) :
    ∀ (H : Heap) (locs : List Loc) (ls : Array Slot), va_P (g_K G).1 vwCl wc H → va_D (g_A G) wc → va_S (g_A G) (g_s G).heap H locs → (∀ q, va_A wc H.size q → g_A G q) → lv_has ls (g_c G).maxLocals lv → GRun G H locs ck sk rm2.cells rm2.slots (F0 (g_m G) pc ls stk) st (QQ (g_K G) rv wf (va_A wc H.size) (Value.ref b :: As).toArray) (va_A wc H.size) := by
  intro H locs ls hPc hDc hS hFc hl
  obtain ⟨⟨v1, v2, v3, v4⟩, v5⟩ := v
  have ht := h.2.2.2.2.1
  have hRr := h.2.2.2.2.2.2.2.2.2.2.1
  exact va_runV (As := As) (rest := st) (n := As.length) ⟨h.1, h.2.1, rfl, h.2.2.2.1, ht⟩ (hM H.size) ⟨callB_of As.length ht (lw_goodIn v4) rfl rfl rfl (ht _ v3) (ht _ m1) v5 (by rw [hRr]; exact hR.1), ht _ v1, ht _ v2⟩ ⟨PP_blind, va_recv h.2.2.2.2.2.1 hPc hcl hrec, PP_at h hPc hDc hS hFc⟩ rfl rfl hl.1 hst (lv_room hR.2.2) d (by rw [hRr]; exact hR.2.1)
theorem run_S (h : Am G y cc nL ret rm) {As : List Value} (hM : Ct (g_l G) y2 cc2 nL2 ret2 rm2 (g_K G) As wc rv wf) (v : Sok y2 cc2 nL2 ret2 As.length) {index : Nat} (m1 : Cond.methodLink y.cls index y2 ∈ lw_tg) (hR : (rm2.frames + 1 ≤ rm.frames ∧ 8 + (nL2 + 11) + rm2.locals ≤ rm.locals) ∧ (ck + rm2.cells ≤ rm.cells ∧ sk + rm2.slots ≤ rm.slots) ∧ (st.map fun v => v.category).sum ≤ 8) (d : decode cc pc = .ok (.invokestatic index, 3)) {stk : List Value} (hst : stk = As.reverse ++ st) :
    ∀ (H : Heap) (locs : List Loc) (ls : Array Slot), va_P (g_K G).1 vwCl wc H → va_D (g_A G) wc → va_S (g_A G) (g_s G).heap H locs → (∀ q, va_A wc H.size q → g_A G q) → lv_has ls (g_c G).maxLocals lv → GRun G H locs ck sk rm2.cells rm2.slots (F0 (g_m G) pc ls stk) st (QQ (g_K G) rv wf (va_A wc H.size) As.toArray) (va_A wc H.size) := by
  intro H locs ls hPc hDc hS hFc hl
  obtain ⟨⟨v1, v3, v4⟩, v5⟩ := v
  have ht := h.2.2.2.2.1
  have hRr := h.2.2.2.2.2.2.2.2.2.2.1
  exact va_runS (As := As) (rest := st) (n := As.length) ⟨h.1, h.2.1, rfl, h.2.2.2.1, ht⟩ (hM H.size) ⟨callB_of As.length ht (lw_goodIn v4) rfl rfl rfl (ht _ v3) (ht _ m1) v5 (by rw [hRr]; exact hR.1), ht _ v1⟩ ⟨PP_blind, PP_at h hPc hDc hS hFc⟩ rfl rfl hl.1 hst (lv_room hR.2.2) d (by rw [hRr]; exact hR.2.1)
end Calls
