theorem sw_split {ρ : Type} {c : Prop} {dc : Decidable c} {A B : Option ρ} {r : ρ} (h : (@ite _ c dc A B) = some r) : (c ∧ A = some r) ∨ (¬ c ∧ B = some r) := by
  by_cases hc : c
  · rw [if_pos hc] at h; exact Or.inl ⟨hc, h⟩
  · rw [if_neg hc] at h; exact Or.inr ⟨hc, h⟩
section More
variable {G : Cx} {y : MethodName} {cc : ByteArray} {nL : Nat} {ret : Option FieldType} {rm : Room} {ck sk : Nat} {ws : va_W} {lv : List (Nat × Value)} {pc : Nat} {st : List Value}
variable {av : List Value} {wc : va_W} {rv : Option Value} {wf : List Nat → va_W}
theorem ab_tab (h : Am G y cc nL ret rm) {x k : Int32} (hx : x = k) {dflt lo hi : Int} {offs : Array Int} {len : Nat} {off : Int} {tgt : Nat} (d : decode cc pc = .ok (.tableswitch dflt lo hi offs, len)) (h1 : ¬ k.toInt < lo) (h2 : ¬ hi < k.toInt) (ho : offs[(k.toInt - lo).toNat]? = some off) (ht : (pc : Int) + off = (tgt : Int)) (kk : AB G ck sk ws lv tgt st) : AB G ck sk ws lv pc (.int x :: st) := by
  subst hx
  exact fun H locs ls hP hD hS hl => lv_tableIn h.1 h.2.1 d h1 h2 ho ht (kk H locs ls hP hD hS hl)
theorem ab_tabD (h : Am G y cc nL ret rm) {x : Int32} {dflt lo hi : Int} {offs : Array Int} {len : Nat} {tgt : Nat} (d : decode cc pc = .ok (.tableswitch dflt lo hi offs, len)) (ho : x.toInt < lo ∨ hi < x.toInt) (ht : (pc : Int) + dflt = (tgt : Int)) (kk : AB G ck sk ws lv tgt st) : AB G ck sk ws lv pc (.int x :: st) :=
  fun H locs ls hP hD hS hl => lv_tableOut h.1 h.2.1 d ho ht (kk H locs ls hP hD hS hl)
theorem ab_look (h : Am G y cc nL ret rm) {x k : Int32} (hx : x = k) {dflt : Int} {ps : Array (Int × Int)} {len : Nat} {off : Int} {tgt : Nat} (d : decode cc pc = .ok (.lookupswitch dflt ps, len)) (hp : (ps.toList.zip (ps.toList.drop 1)).all (fun (a, next) => a.1 < next.1) = true) (ho : Op.lookupswitch.offset ps.toList dflt k.toInt = off) (ht : (pc : Int) + off = (tgt : Int)) (kk : AB G ck sk ws lv tgt st) : AB G ck sk ws lv pc (.int x :: st) := by
  subst hx
  exact fun H locs ls hP hD hS hl => lv_lookup h.1 h.2.1 d hp ho ht (kk H locs ls hP hD hS hl)
theorem ab_lookD (h : Am G y cc nL ret rm) {x : Int32} {dflt : Int} {ps : Array (Int × Int)} {len : Nat} {tgt : Nat} (d : decode cc pc = .ok (.lookupswitch dflt ps, len)) (hp : (ps.toList.zip (ps.toList.drop 1)).all (fun (a, next) => a.1 < next.1) = true) (ho : Op.lookupswitch.offset ps.toList dflt x.toInt = dflt) (ht : (pc : Int) + dflt = (tgt : Int)) (kk : AB G ck sk ws lv tgt st) : AB G ck sk ws lv pc (.int x :: st) :=
  fun H locs ls hP hD hS hl => lv_lookup h.1 h.2.1 d hp ho ht (kk H locs ls hP hD hS hl)
/-- a call that makes nothing, over the caller's world -/
theorem ab_call0 (h : Am G y cc nL ret rm) {stk : List Value} {mc ms : Nat} {a : Array Value} (hrun : ∀ (H : Heap) (locs : List Loc) (ls : Array Slot), va_P (g_K G).1 vwCl ws H → va_D (g_A G) ws → va_S (g_A G) (g_s G).heap H locs → (∀ q, va_A ws H.size q → g_A G q) → lv_has ls (g_c G).maxLocals lv → GRun G H locs ck sk mc ms (F0 (g_m G) pc ls stk) st (QQ (g_K G) rv wf (va_A ws H.size) a) (va_A ws H.size))
    (ws' : va_W) (hwf : ∀ u, wf u = ws') (stk' : List Value) (hst : rv.toList ++ st = stk') (hmc : mc = 0) (hms : ms = 0) (k : AB G ck sk ws' lv (pc + 3) stk') : AB G ck sk ws lv pc stk := by
  subst hmc; subst hms; subst hst
  exact ab_inv0 h hrun (fun u => by rw [hwf u]; exact k)
/-- the same over a part of it -/
theorem ab_cut (h : Am G y cc nL ret rm) {stk : List Value} {mc ms : Nat} {a : Array Value} {wr : va_W} (hrun : ∀ (H : Heap) (locs : List Loc) (ls : Array Slot), va_P (g_K G).1 vwCl wc H → va_D (g_A G) wc → va_S (g_A G) (g_s G).heap H locs → (∀ q, va_A wc H.size q → g_A G q) → lv_has ls (g_c G).maxLocals lv → GRun G H locs ck sk mc ms (F0 (g_m G) pc ls stk) st (QQ (g_K G) rv wf (va_A wc H.size) a) (va_A wc H.size))
    (isC isR : List Nat) (hC : isC.map (fun i => ws[i]?) = wc.map some) (hCf : isC.filterMap (fun i => ws[i]?) = wc) (hCn : va_nd isC = true) (hR : isR.map (fun i => ws[i]?) = wr.map some) (hn : va_nd isR = true) (hdis : ∀ i ∈ isR, i ∉ isC)
    (isN : List Nat) (ws' w1 : va_W) (hwf : ∀ u, wf u = w1) (hN1 : va_nd isN = true) (hN2 : isN.map (fun i => (wr ++ w1)[i]?) = ws'.map some) (hN3 : isN.filterMap (fun i => (wr ++ w1)[i]?) = ws') (stk' : List Value) (hst : rv.toList ++ st = stk') (hmc : mc = 0) (hms : ms = 0) (k : AB G ck sk ws' lv (pc + 3) stk') : AB G ck sk ws lv pc stk := by
  subst hmc; subst hms; subst hst
  exact ab_inv h hrun isC isR hC hCf hCn hR hn hdis (fun u => by rw [hwf u]; exact ab_ws isN hN1 hN2 hN3 k)
theorem ab_copy (h : Am G y cc nL ret rm) (q0 q1 n' : Nat) (ws' : va_W) {index a0 a1 n0 n1 : Nat} {f g : Nat → Int32} {n : Int32} (m1 : Cond.methodLink y.cls index arraycopyName ∈ lw_tg) (ha0 : ws[q0]? = some (a0, .inl ((g_K G).2.1, n0, .inl f))) (ha1 : ws[q1]? = some (a1, .inl ((g_K G).2.1, n1, .inl g))) (hn : ¬ n < 0 ∧ n.toNatClampNeg = n') (h4 : n' ≤ n0) (h5 : n' ≤ n1) (hw : ws.set q1 (a1, .inl ((g_K G).2.1, n1, .inl (va_cpy f g 0 0 n'))) = ws') (hfr : 1 ≤ rm.frames) (hlo : (st.map fun v => v.category).sum + (nativeFrameWords "java/lang/System" "arraycopy" 5 + 11) ≤ rm.locals) (d : decode cc pc = .ok (.invokestatic index, 3)) (k : AB G ck sk ws' lv (pc + 3) st) : AB G ck sk ws lv pc (.int n :: .int 0 :: .ref a1 :: .int 0 :: .ref a0 :: st) := by
  subst hw
  obtain ⟨hn1, rfl⟩ := hn
  have hRr := h.2.2.2.2.2.2.2.2.2.2.1
  intro H locs ls hP hD hS hl
  refine va_copyi h.1 h.2.1 hl.1.symm h.2.2.2.1 (h.2.2.2.2.1 _ m1) (h.2.2.2.2.1 _ ac_native) (h.2.2.2.2.1 _ ac_static) (h.2.2.2.2.1 _ ac_init) h.2.2.2.2.2.1 hP hD hS q0 q1 0 0 ha0 ha1 rfl rfl rfl (by decide) (by decide) hn1 ?_ ?_ (fun i _ => rfl) (by rw [hRr]; exact hfr) (by rw [hRr]; exact hlo) d ?_
  · simpa using h4
  · simpa using h5
  · intro H1 locs1 hP hD hS
    exact k H1 locs1 ls hP hD hS hl
end More
section Tables
variable {G : Cx} {y : MethodName} {cc : ByteArray} {nL : Nat} {ret : Option FieldType} {rm : Room} {ck sk : Nat} {ws : va_W} {lv : List (Nat × Value)} {pc : Nat} {st : List Value}
theorem ab_gets (h : Am G y cc nL ret rm) (hy : y.cls = "BowlState$Outlook") (d : decode cc pc = .ok (.getstatic 149, 3)) (k : ∀ t : Nat, va_T .int t 5 (fun j => .int (fa_c j)) (g_A G) (g_s G) (g_s G).heap → AB G ck sk ws lv (pc + 3) (.ref t :: st)) : AB G ck sk ws lv pc st := by
  intro H locs ls hP hD hS hl
  obtain ⟨t, hZ, hT⟩ := h.2.2.2.2.2.2.2.2.2.2.2.2
  have hN := h.2.2.2.2.2.2.2.2.2.2.2.1.2.2.2.2.1
  have hown := h.2.2.2.1
  rw [hy] at hown
  exact va_getsN h.1 h.2.1 hZ hS hown (va_Nw.use rfl hN) (fun _ h9 => h9) d (k t hT H locs ls hP hD hS hl)
theorem ab_tald (h : Am G y cc nL ret rm) {ρ : Type} {r : ρ} {t : Nat} (hT : va_T .int t 5 (fun j => .int (fa_c j)) (g_A G) (g_s G) (g_s G).heap) {i : Int32} {E : Int32 → Option ρ} (d : decode cc pc = .ok (.iaload, 1)) (k : ∀ v : Int32, E v = some r → AB G ck sk ws lv (pc + 1) (.int v :: st)) : rd 5 fa_c i E = some r → AB G ck sk ws lv pc (.int i :: .ref t :: st) := by
  intro hf
  by_cases hi : vp_in i 5
  · rw [rd, if_neg hi] at hf
    exact fun H locs ls hP hD hS hl => va_ti h.1 h.2.1 hT hS hi rfl d (k _ hf H locs ls hP hD hS hl)
  · rw [rd, if_pos (Classical.not_not.mp hi)] at hf; cases hf
end Tables
