/-! the words: every method's list is its own code and then the table -/
def lw_tg : List Cond := lw_tbl.filter goodWord
theorem mt {w : Cond} (i : Nat) (h : tables_1[i]? = some w) (hg : goodWord w = true) : w ∈ lw_tg := List.mem_filter.mpr ⟨List.mem_append_right _ (List.mem_of_getElem? h), hg⟩
theorem msel {w : Cond} (i : Nat) (h : (k2_sels lw_privs)[i]? = some w) (hg : goodWord w = true) : w ∈ lw_tg := List.mem_filter.mpr ⟨List.mem_append_left _ (List.mem_of_getElem? h), hg⟩
theorem lw_goodIn {y : MethodName} {cc : ByteArray} {n : Nat} {ret : Option FieldType} (h : Cond.code y cc n ret ∈ lw_tg) : GoodIn lw_tg (Cond.code y cc n ret :: lw_tg) := by
  intro w hw
  have hm : w ∈ lw_tg := by
    rcases List.mem_cons.mp hw with rfl | h2
    · exact h
    · exact h2
  exact ⟨hm, good_of_word (List.mem_filter.mp hm).2⟩
/-! arithmetic of the machine, by name -/
def jrem (x y : Int32) : Int32 := x - x / y * y
def jshl (x y : Int32) : Int32 := x <<< (y &&& 31)
def jshr (x y : Int32) : Int32 := x >>> (y &&& 31)
def jushr (x y : Int32) : Int32 := (x.toUInt32 >>> (y.toUInt32 &&& Int32.toUInt32 31)).toInt32
def ljrem (x y : Int64) : Int64 := x - x / y * y
def ljshl (x : Int64) (y : Int32) : Int64 := x <<< (y.toInt64 &&& 63)
def ljushr (x : Int64) (y : Int32) : Int64 := (x.toUInt64 >>> (y.toInt64.toUInt64 &&& Int64.toUInt64 63)).toInt64
def jmin (x y : Int32) : Int32 := if y < x then y else x
def jabs (x : Int32) : Int32 := if 0 ≤ x then x else 0 - x
/-- a read of a row of n, at i: nothing if i isn't in it -/
def rd {α : Type} (n : Nat) (f : Nat → Int32) (i : Int32) (k : Int32 → Option α) : Option α := if i < 0 ∨ n ≤ i.toNatClampNeg then none else k (f i.toNatClampNeg)
/-- a place of a row of n -/
def ix {α : Type} (n : Nat) (i : Int32) (k : Option α) : Option α := if i < 0 ∨ n ≤ i.toNatClampNeg then none else k
/-- a divisor -/
def nz {α : Type} (y : Int32) (k : Option α) : Option α := if y = 0 then none else k
def nzl {α : Type} (y : Int64) (k : Option α) : Option α := if y = 0 then none else k
/-- a truth value -/
def bz {α : Type} (v : Int32) (k : Option α) : Option α := if v = 0 ∨ v = 1 then k else none
def loopN {σ ρ : Type} (step : (σ → Option ρ) → σ → Option ρ) : Nat → σ → Option ρ
  | 0, _ => none
  | n + 1, s => step (loopN step n) s
theorem loopN_all {σ ρ : Type} {step : (σ → Option ρ) → σ → Option ρ} {r : ρ} (I : σ → Prop) (hs : ∀ k : σ → Option ρ, (∀ s, k s = some r → I s) → ∀ s, step k s = some r → I s) : ∀ (n : Nat) (s : σ), loopN step n s = some r → I s
  | 0, _, h => by cases h
  | n + 1, s, h => hs (loopN step n) (loopN_all I hs n) s h
/-! what a method's walk stands in -/
abbrev Kx : Type := va_G × ClassId × ClassId × ClassId
abbrev ktys (K : Kx) : List (ClassId × FieldType) := [(K.2.1, .int), (K.2.2.1, .boolean), (K.2.2.2, .object "BowlState$Moment")]
abbrev Cx : Type := (Program × Launch × Env × Room × State × MethodId) × (Array Value × List Frame × Method × Code) × ((State → Prop) × Kx × (Nat → Prop))
abbrev g_p (G : Cx) : Program := G.1.1
abbrev g_l (G : Cx) : Launch := G.1.2.1
abbrev g_e (G : Cx) : Env := G.1.2.2.1
abbrev g_R (G : Cx) : Room := G.1.2.2.2.1
abbrev g_s (G : Cx) : State := G.1.2.2.2.2.1
abbrev g_m (G : Cx) : MethodId := G.1.2.2.2.2.2
abbrev g_a (G : Cx) : Array Value := G.2.1.1
abbrev g_b (G : Cx) : List Frame := G.2.1.2.1
abbrev g_h (G : Cx) : Method := G.2.1.2.2.1
abbrev g_c (G : Cx) : Code := G.2.1.2.2.2
abbrev g_Q (G : Cx) : State → Prop := G.2.2.1
abbrev g_K (G : Cx) : Kx := G.2.2.2.1
abbrev g_A (G : Cx) : Nat → Prop := G.2.2.2.2
/-- what the tables say beside the words: members of nest mates, the row of moments, the table of factorials -/
def fa_c (j : Nat) : Int32 := ([1, 1, 2, 6, 24] : List Int32).getD j 0
def FT (A : Nat → Prop) (U : State) (H : Heap) : Prop := ∃ t : Nat, va_Z "BowlState" "FACTORIALS" "[I" (.ref t) A U H ∧ va_T .int t 5 (fun j => .int (fa_c j)) A U H
def NW (U : State) : Prop := va_Nw (.methodLinkNest "BowlState" 15 ⟨"BowlState$Reader", "<init>", "()V"⟩ "BowlState") U ∧ va_Nw (.methodLinkNest "BowlState$Reader" 11 ⟨"BowlState$Plan", "<init>", "()V"⟩ "BowlState") U ∧ va_Nw (.methodLinkNest "BowlState" 22 ⟨"BowlState$Plan", "<init>", "()V"⟩ "BowlState") U ∧ va_Nw (.methodLinkNest "BowlState" 45 ⟨"BowlState$Sayings", "<init>", "()V"⟩ "BowlState") U ∧ va_Nw (.fieldLinkNest "BowlState$Outlook" 149 "BowlState" "FACTORIALS" "[I" "BowlState") U ∧ va_AO "BowlState$Moment" U
theorem NW.warm {s U : State} (hW : s.WarmedH U.vm) (h : NW s) : NW U := ⟨h.1.warmM hW, h.2.1.warmM hW, h.2.2.1.warmM hW, h.2.2.2.1.warmM hW, h.2.2.2.2.1.warmF hW, h.2.2.2.2.2.moved hW.alike⟩
theorem NW.same {u U : State} (hv : u.vm = U.vm) (h : NW u) : NW U := ⟨h.1.same rfl hv, h.2.1.same rfl hv, h.2.2.1.same rfl hv, h.2.2.2.1.same rfl hv, h.2.2.2.2.1.same rfl hv, h.2.2.2.2.2.moved (by rw [hv]; exact Vm.Alike.refl U.vm)⟩
theorem FT.moved {A : Nat → Prop} {u U : State} {H : Heap} (hvm : u.vm.Alike U.vm) (h : FT A u H) : FT A U H := by
  obtain ⟨t, h1, h2⟩ := h
  exact ⟨t, h1.moved hvm, h2.moved hvm⟩
theorem FT.kept {A : Nat → Prop} {U : State} {H H1 : Heap} (h : FT A U H) (hq : ∀ a : Nat, a < H.size → ¬ A a → H1[a]? = H[a]?) : FT A U H1 := by
  obtain ⟨t, h1, h2⟩ := h
  exact ⟨t, h1.kept hq, h2.kept hq⟩
theorem FT.narrow {A B : Nat → Prop} {U : State} {H : Heap} (h : FT A U H) (hAB : ∀ q, B q → A q) : FT B U H := by
  obtain ⟨t, h1, h2⟩ := h
  exact ⟨t, h1.narrow hAB, h2.narrow hAB⟩
def QQ (K : Kx) (rv : Option Value) (wf : List Nat → va_W) (A : Nat → Prop) : Array Value → State → Outcome → State → Prop := fun _ st o t => (o = .returned rv ∧ ∃ u : List Nat, va_P K.1 vwCl (wf u) t.heap ∧ va_K K.1 vwCl (ktys K) t ∧ va_D A (wf u)) ∧ va_F A st t
def PP (K : Kx) (av : List Value) (ws : va_W) (sz : Nat) : Array Value → State → Prop := va_Pc av (fun U => U.heap.size = sz ∧ va_P K.1 vwCl ws U.heap ∧ va_K K.1 vwCl (ktys K) U ∧ va_D (fun _ => True) ws ∧ NW U ∧ FT (va_A ws sz) U U.heap)
def Ct (l : Launch) (y : MethodName) (cc : ByteArray) (nL : Nat) (ret : Option FieldType) (rm : Room) (K : Kx) (av : List Value) (ws : va_W) (rv : Option Value) (wf : List Nat → va_W) : Prop :=
  ∀ sz : Nat, Met l y (Cond.code y cc nL ret :: lw_tg) rm (PP K av ws sz) (QQ K rv wf (va_A ws sz)) rm.cells rm.slots (va_A ws sz)
/-- the machine, the code, the tables, the classes -/
def Am (G : Cx) (y : MethodName) (cc : ByteArray) (nL : Nat) (ret : Option FieldType) (rm : Room) : Prop :=
  (g_p G).tables.exec = Jvm.exec ∧ (g_c G).code = cc ∧ (g_c G).maxLocals = nL ∧ (g_s G).vm.findClass y.cls = some (g_m G).cls ∧ (∀ w ∈ lw_tg, w.before (g_a G) (g_s G) = true) ∧ va_K (g_K G).1 vwCl (ktys (g_K G)) (g_s G) ∧ (∀ q, (g_s G).heap.size ≤ q → (g_A G) q) ∧ (g_h G).locks = false ∧ (g_h G).sig.returnType = ret ∧ (g_h G).name = y.name ∧ g_R G = rm ∧ NW (g_s G) ∧ FT (g_A G) (g_s G) (g_s G).heap
def AB (G : Cx) (ck sk : Nat) (ws : va_W) (lv : List (Nat × Value)) (pc : Nat) (st : List Value) : Prop :=
  ∀ (H : Heap) (locs : List Loc) (ls : Array Slot), va_P (g_K G).1 vwCl ws H → va_D (g_A G) ws → va_S (g_A G) (g_s G).heap H locs → lv_has ls (g_c G).maxLocals lv → W (g_p G) (g_l G) (g_e G) (g_R G) (g_s G) (g_m G) (g_a G) (g_b G) (g_h G) (g_c G) H locs ck sk (g_Q G) (F0 (g_m G) pc ls st)
/-- how the walk ends -/
def En (G : Cx) (rm : Room) (rv : Option Value) (wf : List Nat → va_W) : Prop := g_Q G = MQ (g_b G) (QQ (g_K G) rv wf (g_A G)) (g_a G) (g_s G) rm.cells rm.slots (g_A G)
theorem Met.ofWF {l : Launch} {y : MethodName} {ws ws' : List Cond} {rm : Room} {Pc : Array Value → State → Prop} {Qc : Array Value → State → Outcome → State → Prop} {mc ms : Nat} {free : Addr → Prop} {cc : ByteArray} {maxL : Nat} {ret : Option FieldType}
    (hy : plainFor y = true) (hw : ws = Cond.code y cc maxL ret :: ws')
    (body : ∀ p e s m args below meth c s₁, BodyLoose p l y (headSpec ws rm) cc maxL ret e s m args below meth c s₁ → c.maxLocals = maxL → Pc args s →
      W p l e (headSpec ws rm).room s m args below meth c s.heap [] 0 0 (MQ below Qc args s mc ms free) (entryFrame m args maxL)) : Met l y ws rm Pc Qc mc ms free := by
  refine MetFree.of_bodySF (code := cc) (maxLocals := maxL) (ret := ret) hy ?_ ?_
  · intro args s m h hn
    obtain ⟨meth, c, h1, h2, h3, h4, h5, h6, -, -⟩ := Cond.code_spec hn (atoms_spec (ws := ws) h _ (by rw [hw]; exact List.mem_cons_self))
    exact ⟨meth, c, h1, h2, h3, h4, h5, h6⟩
  · intro p e s m args below meth c s₁ B hml hP _
    have hh0 : s₁.heap = s.heap := by rw [B.state]; rfl
    obtain ⟨t, a1, o, b1, b2, b3⟩ := body p e s m args below meth c s₁ B hml hP s₁ hh0 (Stand.of_body B)
    exact ⟨t, o, a1, b1, b2, ⟨b3.1, b3.2⟩⟩
theorem Ct.of {l : Launch} {y : MethodName} {cc : ByteArray} {nL : Nat} {ret : Option FieldType} {rm : Room} {K : Kx} {av : List Value} {ws : va_W} {rv : Option Value} {wf : List Nat → va_W} (hy : plainFor y = true) (hn : (lg_sl av).length ≤ nL)
    (body : ∀ G : Cx, g_l G = l → g_K G = K → Am G y cc nL ret rm → En G rm rv wf → AB G 0 0 ws (lv_args 0 av) 0 []) : Ct l y cc nL ret rm K av ws rv wf := by
  intro sz
  refine Met.ofWF (cc := cc) (maxL := nL) (ret := ret) hy rfl ?_
  intro p e s m args below meth c s₁ B hml hv
  obtain ⟨rfl, hsz, hP, hK, hD0, hN, hF⟩ := hv
  have hts := atoms_spec (ws := Cond.code y cc nL ret :: lw_tg) B.pre
  have hown : s.vm.findClass y.cls = some m.cls := findClass_of_methodNamed B.named
  have hin : meth.name = y.name := (name_of_methodNamed B.named B.method).1
  subst hsz
  have hD := hD0.self (sz := s.heap.size)
  have hl := lv_entry av (n := nL) hn
  rw [lg_entry_eq]
  have h := body ((p, l, e, rm, s, m), (av.toArray, below, meth, c), (MQ below (QQ K rv wf (va_A ws s.heap.size)) av.toArray s rm.cells rm.slots (va_A ws s.heap.size), K, va_A ws s.heap.size)) rfl rfl
    ⟨B.exec, B.bytes, hml, hown, fun w hw => hts w (List.mem_cons_of_mem _ hw), hK, fun q h => Or.inr h, B.notSynchronized, B.returns, hin, rfl, hN, hF⟩ rfl
  exact h s.heap [] _ hP hD va_S.rf (by show lv_has _ c.maxLocals _; rw [hml]; exact hl)
section Rows
variable {G : Cx} {y : MethodName} {cc : ByteArray} {nL : Nat} {ret : Option FieldType} {rm : Room} {ck sk : Nat} {ws : va_W} {lv : List (Nat × Value)} {pc : Nat} {st : List Value}
theorem ab_iconst (h : Am G y cc nL ret rm) {n : Int} {v : Int32} (d : decode cc pc = .ok (.iconst n, 1)) (hv : Int32.ofInt n = v) (k : AB G ck sk ws lv (pc + 1) (.int v :: st)) : AB G ck sk ws lv pc st :=
  fun H locs ls hP hD hS hl => lv_iconst h.1 h.2.1 d hv (k H locs ls hP hD hS hl)
theorem ab_bipush (h : Am G y cc nL ret rm) {n : Int} {v : Int32} (d : decode cc pc = .ok (.bipush n, 2)) (hv : (Int8.ofInt n).toInt32 = v) (k : AB G ck sk ws lv (pc + 2) (.int v :: st)) : AB G ck sk ws lv pc st :=
  fun H locs ls hP hD hS hl => lv_bipush h.1 h.2.1 d hv (k H locs ls hP hD hS hl)
theorem ab_sipush (h : Am G y cc nL ret rm) {n : Int} {v : Int32} (d : decode cc pc = .ok (.sipush n, 3)) (hv : (Int16.ofInt n).toInt32 = v) (k : AB G ck sk ws lv (pc + 3) (.int v :: st)) : AB G ck sk ws lv pc st :=
  fun H locs ls hP hD hS hl => lv_sipush h.1 h.2.1 d hv (k H locs ls hP hD hS hl)
theorem ab_lconst (h : Am G y cc nL ret rm) {n : Fin 2} {v : Int64} (d : decode cc pc = .ok (.lconst n, 1)) (hv : Int64.ofNat (n : Nat) = v) (k : AB G ck sk ws lv (pc + 1) (.long v :: st)) : AB G ck sk ws lv pc st :=
  fun H locs ls hP hD hS hl => lv_lconst h.1 h.2.1 d hv (k H locs ls hP hD hS hl)
theorem ab_ldcw (h : Am G y cc nL ret rm) {i : Nat} {v : Int32} (hm : Cond.constant y.cls i v ∈ lw_tg) (d : decode cc pc = .ok (.ldc_w i, 3)) (k : AB G ck sk ws lv (pc + 3) (.int v :: st)) : AB G ck sk ws lv pc st :=
  fun H locs ls hP hD hS hl => lv_ldcw h.1 h.2.1 h.2.2.2.1 (h.2.2.2.2.1 _ hm) d (k H locs ls hP hD hS hl)
theorem ab_ldc2 (h : Am G y cc nL ret rm) {i : Nat} {v : Int64} (hm : Cond.constantLong y.cls i v ∈ lw_tg) (d : decode cc pc = .ok (.ldc2_w i, 3)) (k : AB G ck sk ws lv (pc + 3) (.long v :: st)) : AB G ck sk ws lv pc st :=
  fun H locs ls hP hD hS hl => lv_ldc2 h.1 h.2.1 h.2.2.2.1 (h.2.2.2.2.1 _ hm) d (k H locs ls hP hD hS hl)
theorem ab_iload_n (h : Am G y cc nL ret rm) (j : Nat) {k : Fin 4} {i : Nat} {x : Int32} (hi : (k : Nat) = i) (hj : lv[j]? = some (i, .int x)) (d : decode cc pc = .ok (.iload_n k, 1)) (kk : AB G ck sk ws lv (pc + 1) (.int x :: st)) : AB G ck sk ws lv pc st :=
  fun H locs ls hP hD hS hl => lv_iload_n h.1 h.2.1 d hi (lv_at hl j hj) (kk H locs ls hP hD hS hl)
theorem ab_iload (h : Am G y cc nL ret rm) (j : Nat) {i : Nat} {x : Int32} (hj : lv[j]? = some (i, .int x)) (d : decode cc pc = .ok (.iload i, 2)) (kk : AB G ck sk ws lv (pc + 2) (.int x :: st)) : AB G ck sk ws lv pc st :=
  fun H locs ls hP hD hS hl => lv_iload h.1 h.2.1 d (lv_at hl j hj) (kk H locs ls hP hD hS hl)
theorem ab_lload_n (h : Am G y cc nL ret rm) (j : Nat) {k : Fin 4} {i : Nat} {x : Int64} (hi : (k : Nat) = i) (hj : lv[j]? = some (i, .long x)) (d : decode cc pc = .ok (.lload_n k, 1)) (kk : AB G ck sk ws lv (pc + 1) (.long x :: st)) : AB G ck sk ws lv pc st :=
  fun H locs ls hP hD hS hl => lv_lload_n h.1 h.2.1 d hi (lv_at hl j hj) (kk H locs ls hP hD hS hl)
theorem ab_lload (h : Am G y cc nL ret rm) (j : Nat) {i : Nat} {x : Int64} (hj : lv[j]? = some (i, .long x)) (d : decode cc pc = .ok (.lload i, 2)) (kk : AB G ck sk ws lv (pc + 2) (.long x :: st)) : AB G ck sk ws lv pc st :=
  fun H locs ls hP hD hS hl => lv_lload h.1 h.2.1 d (lv_at hl j hj) (kk H locs ls hP hD hS hl)
theorem ab_aload_n (h : Am G y cc nL ret rm) (j : Nat) {k : Fin 4} {i : Nat} {x : Nat} (hi : (k : Nat) = i) (hj : lv[j]? = some (i, .ref x)) (d : decode cc pc = .ok (.aload_n k, 1)) (kk : AB G ck sk ws lv (pc + 1) (.ref x :: st)) : AB G ck sk ws lv pc st :=
  fun H locs ls hP hD hS hl => lv_aload_n h.1 h.2.1 d hi (lv_at hl j hj) (kk H locs ls hP hD hS hl)
theorem ab_istore_n (h : Am G y cc nL ret rm) (ks : List Nat) (lv' : List (Nat × Value)) {k : Fin 4} {i : Nat} {x : Int32} (hi : (k : Nat) = i) (hn : i < nL) (hl' : lv_pick ((i, Value.int x) :: lv.filter (fun q => !(q.1 == i) && !(q.1 + 1 == i && q.2.category == 2))) ks = lv') (d : decode cc pc = .ok (.istore_n k, 1)) (kk : AB G ck sk ws lv' (pc + 1) st) : AB G ck sk ws lv pc (.int x :: st) :=
  fun H locs ls hP hD hS hl => lv_istore_n h.1 h.2.1 d hi hl (by rw [h.2.2.1]; exact hn) rfl fun ls' hl2 => kk H locs ls' hP hD hS (lv_sub hl2 ks hl')
theorem ab_istore (h : Am G y cc nL ret rm) (ks : List Nat) (lv' : List (Nat × Value)) {i : Nat} {x : Int32} (hn : i < nL) (hl' : lv_pick ((i, Value.int x) :: lv.filter (fun q => !(q.1 == i) && !(q.1 + 1 == i && q.2.category == 2))) ks = lv') (d : decode cc pc = .ok (.istore i, 2)) (kk : AB G ck sk ws lv' (pc + 2) st) : AB G ck sk ws lv pc (.int x :: st) :=
  fun H locs ls hP hD hS hl => lv_istore h.1 h.2.1 d hl (by rw [h.2.2.1]; exact hn) rfl fun ls' hl2 => kk H locs ls' hP hD hS (lv_sub hl2 ks hl')
theorem ab_astore_n (h : Am G y cc nL ret rm) (ks : List Nat) (lv' : List (Nat × Value)) {k : Fin 4} {i : Nat} {x : Nat} (hi : (k : Nat) = i) (hn : i < nL) (hl' : lv_pick ((i, Value.ref x) :: lv.filter (fun q => !(q.1 == i) && !(q.1 + 1 == i && q.2.category == 2))) ks = lv') (d : decode cc pc = .ok (.astore_n k, 1)) (kk : AB G ck sk ws lv' (pc + 1) st) : AB G ck sk ws lv pc (.ref x :: st) :=
  fun H locs ls hP hD hS hl => lv_astore_n h.1 h.2.1 d hi hl (by rw [h.2.2.1]; exact hn) rfl fun ls' hl2 => kk H locs ls' hP hD hS (lv_sub hl2 ks hl')
theorem ab_lstore_n (h : Am G y cc nL ret rm) (ks : List Nat) (lv' : List (Nat × Value)) {k : Fin 4} {i : Nat} {x : Int64} (hi : (k : Nat) = i) (hn : i + 1 < nL) (hl' : lv_pick ((i, Value.long x) :: lv.filter (fun q => !(q.1 == i) && (!(q.1 == i + 1) && !(q.1 + 1 == i && q.2.category == 2)))) ks = lv') (d : decode cc pc = .ok (.lstore_n k, 1)) (kk : AB G ck sk ws lv' (pc + 1) st) : AB G ck sk ws lv pc (.long x :: st) :=
  fun H locs ls hP hD hS hl => lv_lstore_n h.1 h.2.1 d hi hl (by rw [h.2.2.1]; exact hn) rfl fun ls' hl2 => kk H locs ls' hP hD hS (lv_sub hl2 ks hl')
theorem ab_iinc (h : Am G y cc nL ret rm) (j : Nat) (ks : List Nat) (lv' : List (Nat × Value)) {i : Nat} {n : Int} {x v : Int32} (hj : lv[j]? = some (i, .int x)) (hv : x + Int32.ofInt n = v) (hn : i < nL) (hl' : lv_pick ((i, Value.int v) :: lv.filter (fun q => !(q.1 == i) && !(q.1 + 1 == i && q.2.category == 2))) ks = lv') (d : decode cc pc = .ok (.iinc i n, 3)) (kk : AB G ck sk ws lv' (pc + 3) st) : AB G ck sk ws lv pc st :=
  fun H locs ls hP hD hS hl => lv_iinc h.1 h.2.1 d hl hj hv (by rw [h.2.2.1]; exact hn) rfl fun ls' hl2 => kk H locs ls' hP hD hS (lv_sub hl2 ks hl')
/-- fewer locals, in another order -/
theorem ab_sub (ks : List Nat) {lv' : List (Nat × Value)} (hk : lv_pick lv ks = lv') (kk : AB G ck sk ws lv' pc st) : AB G ck sk ws lv pc st :=
  fun H locs ls hP hD hS hl => kk H locs ls hP hD hS (lv_sub hl ks hk)
/-- the same cells in another order, or fewer -/
theorem ab_ws (is : List Nat) {ws' : va_W} (hn : va_nd is = true) (hs : is.map (fun i => ws[i]?) = ws'.map some) (hf : is.filterMap (fun i => ws[i]?) = ws') (kk : AB G ck sk ws' lv pc st) : AB G ck sk ws lv pc st :=
  fun H locs ls hP hD hS hl => kk H locs ls (hP.sub is hf) (hD.sub is hn hs) hS hl
theorem ab_iadd (h : Am G y cc nL ret rm) {a b : Int32} (d : decode cc pc = .ok (.iadd, 1)) (k : AB G ck sk ws lv (pc + 1) (.int (a + b) :: st)) : AB G ck sk ws lv pc (.int b :: .int a :: st) :=
  fun H locs ls hP hD hS hl => lv_iadd h.1 h.2.1 d (k H locs ls hP hD hS hl)
theorem ab_isub (h : Am G y cc nL ret rm) {a b : Int32} (d : decode cc pc = .ok (.isub, 1)) (k : AB G ck sk ws lv (pc + 1) (.int (a - b) :: st)) : AB G ck sk ws lv pc (.int b :: .int a :: st) :=
  fun H locs ls hP hD hS hl => lv_isub h.1 h.2.1 d (k H locs ls hP hD hS hl)
theorem ab_imul (h : Am G y cc nL ret rm) {a b : Int32} (d : decode cc pc = .ok (.imul, 1)) (k : AB G ck sk ws lv (pc + 1) (.int (a * b) :: st)) : AB G ck sk ws lv pc (.int b :: .int a :: st) :=
  fun H locs ls hP hD hS hl => lv_imul h.1 h.2.1 d (k H locs ls hP hD hS hl)
theorem ab_iand (h : Am G y cc nL ret rm) {a b : Int32} (d : decode cc pc = .ok (.iand, 1)) (k : AB G ck sk ws lv (pc + 1) (.int (a &&& b) :: st)) : AB G ck sk ws lv pc (.int b :: .int a :: st) :=
  fun H locs ls hP hD hS hl => lv_iand h.1 h.2.1 d (k H locs ls hP hD hS hl)
theorem ab_ior (h : Am G y cc nL ret rm) {a b : Int32} (d : decode cc pc = .ok (.ior, 1)) (k : AB G ck sk ws lv (pc + 1) (.int (a ||| b) :: st)) : AB G ck sk ws lv pc (.int b :: .int a :: st) :=
  fun H locs ls hP hD hS hl => lv_ior h.1 h.2.1 d (k H locs ls hP hD hS hl)
theorem ab_ixor (h : Am G y cc nL ret rm) {a b : Int32} (d : decode cc pc = .ok (.ixor, 1)) (k : AB G ck sk ws lv (pc + 1) (.int (a ^^^ b) :: st)) : AB G ck sk ws lv pc (.int b :: .int a :: st) :=
  fun H locs ls hP hD hS hl => lv_ixor h.1 h.2.1 d (k H locs ls hP hD hS hl)
theorem ab_ishl (h : Am G y cc nL ret rm) {a b : Int32} (d : decode cc pc = .ok (.ishl, 1)) (k : AB G ck sk ws lv (pc + 1) (.int (jshl a b) :: st)) : AB G ck sk ws lv pc (.int b :: .int a :: st) :=
  fun H locs ls hP hD hS hl => lv_ishl h.1 h.2.1 d (k H locs ls hP hD hS hl)
theorem ab_ishr (h : Am G y cc nL ret rm) {a b : Int32} (d : decode cc pc = .ok (.ishr, 1)) (k : AB G ck sk ws lv (pc + 1) (.int (jshr a b) :: st)) : AB G ck sk ws lv pc (.int b :: .int a :: st) :=
  fun H locs ls hP hD hS hl => lv_ishr h.1 h.2.1 d (k H locs ls hP hD hS hl)
theorem ab_iushr (h : Am G y cc nL ret rm) {a b : Int32} (d : decode cc pc = .ok (.iushr, 1)) (k : AB G ck sk ws lv (pc + 1) (.int (jushr a b) :: st)) : AB G ck sk ws lv pc (.int b :: .int a :: st) :=
  fun H locs ls hP hD hS hl => lv_iushr h.1 h.2.1 d rfl (k H locs ls hP hD hS hl)
theorem ab_ineg (h : Am G y cc nL ret rm) {a : Int32} (d : decode cc pc = .ok (.ineg, 1)) (k : AB G ck sk ws lv (pc + 1) (.int (-a) :: st)) : AB G ck sk ws lv pc (.int a :: st) :=
  fun H locs ls hP hD hS hl => lv_ineg h.1 h.2.1 d (k H locs ls hP hD hS hl)
theorem ab_ladd (h : Am G y cc nL ret rm) {a b : Int64} (d : decode cc pc = .ok (.ladd, 1)) (k : AB G ck sk ws lv (pc + 1) (.long (a + b) :: st)) : AB G ck sk ws lv pc (.long b :: .long a :: st) :=
  fun H locs ls hP hD hS hl => lv_ladd h.1 h.2.1 d (k H locs ls hP hD hS hl)
theorem ab_lsub (h : Am G y cc nL ret rm) {a b : Int64} (d : decode cc pc = .ok (.lsub, 1)) (k : AB G ck sk ws lv (pc + 1) (.long (a - b) :: st)) : AB G ck sk ws lv pc (.long b :: .long a :: st) :=
  fun H locs ls hP hD hS hl => lv_lsub h.1 h.2.1 d (k H locs ls hP hD hS hl)
theorem ab_lmul (h : Am G y cc nL ret rm) {a b : Int64} (d : decode cc pc = .ok (.lmul, 1)) (k : AB G ck sk ws lv (pc + 1) (.long (a * b) :: st)) : AB G ck sk ws lv pc (.long b :: .long a :: st) :=
  fun H locs ls hP hD hS hl => lv_lmul h.1 h.2.1 d (k H locs ls hP hD hS hl)
theorem ab_land (h : Am G y cc nL ret rm) {a b : Int64} (d : decode cc pc = .ok (.land, 1)) (k : AB G ck sk ws lv (pc + 1) (.long (a &&& b) :: st)) : AB G ck sk ws lv pc (.long b :: .long a :: st) :=
  fun H locs ls hP hD hS hl => lv_land h.1 h.2.1 d (k H locs ls hP hD hS hl)
theorem ab_lor (h : Am G y cc nL ret rm) {a b : Int64} (d : decode cc pc = .ok (.lor, 1)) (k : AB G ck sk ws lv (pc + 1) (.long (a ||| b) :: st)) : AB G ck sk ws lv pc (.long b :: .long a :: st) :=
  fun H locs ls hP hD hS hl => lv_lor h.1 h.2.1 d (k H locs ls hP hD hS hl)
theorem ab_lshl (h : Am G y cc nL ret rm) {a : Int64} {b : Int32} (d : decode cc pc = .ok (.lshl, 1)) (k : AB G ck sk ws lv (pc + 1) (.long (ljshl a b) :: st)) : AB G ck sk ws lv pc (.int b :: .long a :: st) :=
  fun H locs ls hP hD hS hl => lv_lshl h.1 h.2.1 d rfl (k H locs ls hP hD hS hl)
theorem ab_lushr (h : Am G y cc nL ret rm) {a : Int64} {b : Int32} (d : decode cc pc = .ok (.lushr, 1)) (k : AB G ck sk ws lv (pc + 1) (.long (ljushr a b) :: st)) : AB G ck sk ws lv pc (.int b :: .long a :: st) :=
  fun H locs ls hP hD hS hl => lv_lushr h.1 h.2.1 d rfl (k H locs ls hP hD hS hl)
theorem ab_i2l (h : Am G y cc nL ret rm) {a : Int32} (d : decode cc pc = .ok (.i2l, 1)) (k : AB G ck sk ws lv (pc + 1) (.long a.toInt64 :: st)) : AB G ck sk ws lv pc (.int a :: st) :=
  fun H locs ls hP hD hS hl => lv_i2l h.1 h.2.1 d rfl (k H locs ls hP hD hS hl)
theorem ab_l2i (h : Am G y cc nL ret rm) {a : Int64} (d : decode cc pc = .ok (.l2i, 1)) (k : AB G ck sk ws lv (pc + 1) (.int a.toInt32 :: st)) : AB G ck sk ws lv pc (.long a :: st) :=
  fun H locs ls hP hD hS hl => lv_l2i h.1 h.2.1 d rfl (k H locs ls hP hD hS hl)
theorem ab_lcmp (h : Am G y cc nL ret rm) {a b : Int64} (d : decode cc pc = .ok (.lcmp, 1)) (k : AB G ck sk ws lv (pc + 1) (.int (lg_cmp a b) :: st)) : AB G ck sk ws lv pc (.long b :: .long a :: st) :=
  fun H locs ls hP hD hS hl => W.lcmp h.1 h.2.1 d (k H locs ls hP hD hS hl)
theorem ab_dup (h : Am G y cc nL ret rm) {a : Value} (d : decode cc pc = .ok (.dup, 1)) (ha : a.category = 1) (k : AB G ck sk ws lv (pc + 1) (a :: a :: st)) : AB G ck sk ws lv pc (a :: st) :=
  fun H locs ls hP hD hS hl => lv_dup h.1 h.2.1 d ha (k H locs ls hP hD hS hl)
theorem ab_dup2 (h : Am G y cc nL ret rm) {a b : Value} (d : decode cc pc = .ok (.dup2, 1)) (ha : a.category = 1) (hb : b.category = 1) (k : AB G ck sk ws lv (pc + 1) (a :: b :: a :: b :: st)) : AB G ck sk ws lv pc (a :: b :: st) :=
  fun H locs ls hP hD hS hl => lv_dup2_11 h.1 h.2.1 d ha hb (k H locs ls hP hD hS hl)
theorem ab_pop (h : Am G y cc nL ret rm) {a : Value} (d : decode cc pc = .ok (.pop, 1)) (ha : a.category = 1) (k : AB G ck sk ws lv (pc + 1) st) : AB G ck sk ws lv pc (a :: st) :=
  fun H locs ls hP hD hS hl => lv_pop h.1 h.2.1 d ha (k H locs ls hP hD hS hl)
theorem ab_goto (h : Am G y cc nL ret rm) {off : Int} {tgt : Nat} (d : decode cc pc = .ok (.goto off, 3)) (ht : (pc : Int) + off = (tgt : Int)) (k : AB G ck sk ws lv tgt st) : AB G ck sk ws lv pc st :=
  fun H locs ls hP hD hS hl => lv_goto h.1 h.2.1 d ht (k H locs ls hP hD hS hl)
variable {ρ : Type} {r : ρ}
theorem ab_idiv (h : Am G y cc nL ret rm) {a b : Int32} {E : Option ρ} (d : decode cc pc = .ok (.idiv, 1)) (k : E = some r → AB G ck sk ws lv (pc + 1) (.int (a / b) :: st)) : nz b E = some r → AB G ck sk ws lv pc (.int b :: .int a :: st) := by
  intro hf
  by_cases hb : b = 0
  · rw [nz, if_pos hb] at hf; cases hf
  · rw [nz, if_neg hb] at hf
    exact fun H locs ls hP hD hS hl => lv_idiv h.1 h.2.1 d hb (k hf H locs ls hP hD hS hl)
theorem ab_irem (h : Am G y cc nL ret rm) {a b : Int32} {E : Option ρ} (d : decode cc pc = .ok (.irem, 1)) (k : E = some r → AB G ck sk ws lv (pc + 1) (.int (jrem a b) :: st)) : nz b E = some r → AB G ck sk ws lv pc (.int b :: .int a :: st) := by
  intro hf
  by_cases hb : b = 0
  · rw [nz, if_pos hb] at hf; cases hf
  · rw [nz, if_neg hb] at hf
    exact fun H locs ls hP hD hS hl => lv_irem h.1 h.2.1 d hb (k hf H locs ls hP hD hS hl)
theorem ab_ldiv (h : Am G y cc nL ret rm) {a b : Int64} {E : Option ρ} (d : decode cc pc = .ok (.ldiv, 1)) (k : E = some r → AB G ck sk ws lv (pc + 1) (.long (a / b) :: st)) : nzl b E = some r → AB G ck sk ws lv pc (.long b :: .long a :: st) := by
  intro hf
  by_cases hb : b = 0
  · rw [nzl, if_pos hb] at hf; cases hf
  · rw [nzl, if_neg hb] at hf
    exact fun H locs ls hP hD hS hl => lv_ldiv h.1 h.2.1 d hb (k hf H locs ls hP hD hS hl)
theorem ab_lrem (h : Am G y cc nL ret rm) {a b : Int64} {E : Option ρ} (d : decode cc pc = .ok (.lrem, 1)) (k : E = some r → AB G ck sk ws lv (pc + 1) (.long (ljrem a b) :: st)) : nzl b E = some r → AB G ck sk ws lv pc (.long b :: .long a :: st) := by
  intro hf
  by_cases hb : b = 0
  · rw [nzl, if_pos hb] at hf; cases hf
  · rw [nzl, if_neg hb] at hf
    exact fun H locs ls hP hD hS hl => lv_lrem h.1 h.2.1 d hb (k hf H locs ls hP hD hS hl)
theorem ab_if_eq (h : Am G y cc nL ret rm) {x : Int32} {off : Int} {tgt : Nat} {E1 E2 : Option ρ} (d : decode cc pc = .ok (.ifCond .eq off, 3)) (ht : (pc : Int) + off = (tgt : Int)) (k1 : E1 = some r → AB G ck sk ws lv tgt st) (k2 : E2 = some r → AB G ck sk ws lv (pc + 3) st) : (if x = 0 then E1 else E2) = some r → AB G ck sk ws lv pc (.int x :: st) :=
  fun hf H locs ls hP hD hS hl => lv_if_eq h.1 h.2.1 d ht (fun c => k1 (by rw [if_pos c] at hf; exact hf) H locs ls hP hD hS hl) (fun c => k2 (by rw [if_neg c] at hf; exact hf) H locs ls hP hD hS hl)
theorem ab_icmp_eq (h : Am G y cc nL ret rm) {x z : Int32} {off : Int} {tgt : Nat} {E1 E2 : Option ρ} (d : decode cc pc = .ok (.if_icmp .eq off, 3)) (ht : (pc : Int) + off = (tgt : Int)) (k1 : E1 = some r → AB G ck sk ws lv tgt st) (k2 : E2 = some r → AB G ck sk ws lv (pc + 3) st) : (if x = z then E1 else E2) = some r → AB G ck sk ws lv pc (.int z :: .int x :: st) :=
  fun hf H locs ls hP hD hS hl => lv_icmp_eq h.1 h.2.1 d ht (fun c => k1 (by rw [if_pos c] at hf; exact hf) H locs ls hP hD hS hl) (fun c => k2 (by rw [if_neg c] at hf; exact hf) H locs ls hP hD hS hl)
theorem ab_if_ne (h : Am G y cc nL ret rm) {x : Int32} {off : Int} {tgt : Nat} {E1 E2 : Option ρ} (d : decode cc pc = .ok (.ifCond .ne off, 3)) (ht : (pc : Int) + off = (tgt : Int)) (k1 : E1 = some r → AB G ck sk ws lv tgt st) (k2 : E2 = some r → AB G ck sk ws lv (pc + 3) st) : (if x = 0 then E2 else E1) = some r → AB G ck sk ws lv pc (.int x :: st) :=
  fun hf H locs ls hP hD hS hl => lv_if_ne h.1 h.2.1 d ht (fun c => k1 (by rw [if_neg c] at hf; exact hf) H locs ls hP hD hS hl) (fun c => k2 (by rw [if_pos c] at hf; exact hf) H locs ls hP hD hS hl)
theorem ab_icmp_ne (h : Am G y cc nL ret rm) {x z : Int32} {off : Int} {tgt : Nat} {E1 E2 : Option ρ} (d : decode cc pc = .ok (.if_icmp .ne off, 3)) (ht : (pc : Int) + off = (tgt : Int)) (k1 : E1 = some r → AB G ck sk ws lv tgt st) (k2 : E2 = some r → AB G ck sk ws lv (pc + 3) st) : (if x = z then E2 else E1) = some r → AB G ck sk ws lv pc (.int z :: .int x :: st) :=
  fun hf H locs ls hP hD hS hl => lv_icmp_ne h.1 h.2.1 d ht (fun c => k1 (by rw [if_neg c] at hf; exact hf) H locs ls hP hD hS hl) (fun c => k2 (by rw [if_pos c] at hf; exact hf) H locs ls hP hD hS hl)
theorem ab_if_lt (h : Am G y cc nL ret rm) {x : Int32} {off : Int} {tgt : Nat} {E1 E2 : Option ρ} (d : decode cc pc = .ok (.ifCond .lt off, 3)) (ht : (pc : Int) + off = (tgt : Int)) (k1 : E1 = some r → AB G ck sk ws lv tgt st) (k2 : E2 = some r → AB G ck sk ws lv (pc + 3) st) : (if x < 0 then E1 else E2) = some r → AB G ck sk ws lv pc (.int x :: st) :=
  fun hf H locs ls hP hD hS hl => lv_if_lt h.1 h.2.1 d ht (fun c => k1 (by rw [if_pos c] at hf; exact hf) H locs ls hP hD hS hl) (fun c => k2 (by rw [if_neg c] at hf; exact hf) H locs ls hP hD hS hl)
theorem ab_icmp_lt (h : Am G y cc nL ret rm) {x z : Int32} {off : Int} {tgt : Nat} {E1 E2 : Option ρ} (d : decode cc pc = .ok (.if_icmp .lt off, 3)) (ht : (pc : Int) + off = (tgt : Int)) (k1 : E1 = some r → AB G ck sk ws lv tgt st) (k2 : E2 = some r → AB G ck sk ws lv (pc + 3) st) : (if x < z then E1 else E2) = some r → AB G ck sk ws lv pc (.int z :: .int x :: st) :=
  fun hf H locs ls hP hD hS hl => lv_icmp_lt h.1 h.2.1 d ht (fun c => k1 (by rw [if_pos c] at hf; exact hf) H locs ls hP hD hS hl) (fun c => k2 (by rw [if_neg c] at hf; exact hf) H locs ls hP hD hS hl)
theorem ab_if_ge (h : Am G y cc nL ret rm) {x : Int32} {off : Int} {tgt : Nat} {E1 E2 : Option ρ} (d : decode cc pc = .ok (.ifCond .ge off, 3)) (ht : (pc : Int) + off = (tgt : Int)) (k1 : E1 = some r → AB G ck sk ws lv tgt st) (k2 : E2 = some r → AB G ck sk ws lv (pc + 3) st) : (if 0 ≤ x then E1 else E2) = some r → AB G ck sk ws lv pc (.int x :: st) :=
  fun hf H locs ls hP hD hS hl => lv_if_ge h.1 h.2.1 d ht (fun c => k1 (by rw [if_pos c] at hf; exact hf) H locs ls hP hD hS hl) (fun c => k2 (by rw [if_neg c] at hf; exact hf) H locs ls hP hD hS hl)
theorem ab_icmp_ge (h : Am G y cc nL ret rm) {x z : Int32} {off : Int} {tgt : Nat} {E1 E2 : Option ρ} (d : decode cc pc = .ok (.if_icmp .ge off, 3)) (ht : (pc : Int) + off = (tgt : Int)) (k1 : E1 = some r → AB G ck sk ws lv tgt st) (k2 : E2 = some r → AB G ck sk ws lv (pc + 3) st) : (if z ≤ x then E1 else E2) = some r → AB G ck sk ws lv pc (.int z :: .int x :: st) :=
  fun hf H locs ls hP hD hS hl => lv_icmp_ge h.1 h.2.1 d ht (fun c => k1 (by rw [if_pos c] at hf; exact hf) H locs ls hP hD hS hl) (fun c => k2 (by rw [if_neg c] at hf; exact hf) H locs ls hP hD hS hl)
theorem ab_if_gt (h : Am G y cc nL ret rm) {x : Int32} {off : Int} {tgt : Nat} {E1 E2 : Option ρ} (d : decode cc pc = .ok (.ifCond .gt off, 3)) (ht : (pc : Int) + off = (tgt : Int)) (k1 : E1 = some r → AB G ck sk ws lv tgt st) (k2 : E2 = some r → AB G ck sk ws lv (pc + 3) st) : (if 0 < x then E1 else E2) = some r → AB G ck sk ws lv pc (.int x :: st) :=
  fun hf H locs ls hP hD hS hl => lv_if_gt h.1 h.2.1 d ht (fun c => k1 (by rw [if_pos c] at hf; exact hf) H locs ls hP hD hS hl) (fun c => k2 (by rw [if_neg c] at hf; exact hf) H locs ls hP hD hS hl)
theorem ab_icmp_gt (h : Am G y cc nL ret rm) {x z : Int32} {off : Int} {tgt : Nat} {E1 E2 : Option ρ} (d : decode cc pc = .ok (.if_icmp .gt off, 3)) (ht : (pc : Int) + off = (tgt : Int)) (k1 : E1 = some r → AB G ck sk ws lv tgt st) (k2 : E2 = some r → AB G ck sk ws lv (pc + 3) st) : (if z < x then E1 else E2) = some r → AB G ck sk ws lv pc (.int z :: .int x :: st) :=
  fun hf H locs ls hP hD hS hl => lv_icmp_gt h.1 h.2.1 d ht (fun c => k1 (by rw [if_pos c] at hf; exact hf) H locs ls hP hD hS hl) (fun c => k2 (by rw [if_neg c] at hf; exact hf) H locs ls hP hD hS hl)
theorem ab_if_le (h : Am G y cc nL ret rm) {x : Int32} {off : Int} {tgt : Nat} {E1 E2 : Option ρ} (d : decode cc pc = .ok (.ifCond .le off, 3)) (ht : (pc : Int) + off = (tgt : Int)) (k1 : E1 = some r → AB G ck sk ws lv tgt st) (k2 : E2 = some r → AB G ck sk ws lv (pc + 3) st) : (if x ≤ 0 then E1 else E2) = some r → AB G ck sk ws lv pc (.int x :: st) :=
  fun hf H locs ls hP hD hS hl => lv_if_le h.1 h.2.1 d ht (fun c => k1 (by rw [if_pos c] at hf; exact hf) H locs ls hP hD hS hl) (fun c => k2 (by rw [if_neg c] at hf; exact hf) H locs ls hP hD hS hl)
theorem ab_icmp_le (h : Am G y cc nL ret rm) {x z : Int32} {off : Int} {tgt : Nat} {E1 E2 : Option ρ} (d : decode cc pc = .ok (.if_icmp .le off, 3)) (ht : (pc : Int) + off = (tgt : Int)) (k1 : E1 = some r → AB G ck sk ws lv tgt st) (k2 : E2 = some r → AB G ck sk ws lv (pc + 3) st) : (if x ≤ z then E1 else E2) = some r → AB G ck sk ws lv pc (.int z :: .int x :: st) :=
  fun hf H locs ls hP hD hS hl => lv_icmp_le h.1 h.2.1 d ht (fun c => k1 (by rw [if_pos c] at hf; exact hf) H locs ls hP hD hS hl) (fun c => k2 (by rw [if_neg c] at hf; exact hf) H locs ls hP hD hS hl)
theorem ab_iald (h : Am G y cc nL ret rm) (q0 : Nat) {a n : Nat} {f : Nat → Int32} {i : Int32} {E : Int32 → Option ρ} (ha : ws[q0]? = some (a, .inl ((g_K G).2.1, n, .inl f))) (d : decode cc pc = .ok (.iaload, 1)) (k : ∀ v : Int32, E v = some r → AB G ck sk ws lv (pc + 1) (.int v :: st)) : rd n f i E = some r → AB G ck sk ws lv pc (.int i :: .ref a :: st) := by
  intro hf
  by_cases hi : vp_in i n
  · rw [rd, if_neg hi] at hf
    exact fun H locs ls hP hD hS hl => va_iald h.1 h.2.1 h.2.2.2.2.2.1 hP q0 0 ha rfl hi d (k _ hf H locs ls hP hD hS hl)
  · rw [rd, if_pos (Classical.not_not.mp hi)] at hf; cases hf
theorem ab_zald (h : Am G y cc nL ret rm) (q0 : Nat) {a n : Nat} {f : Nat → Int32} {i : Int32} {E : Int32 → Option ρ} (ha : ws[q0]? = some (a, .inl ((g_K G).2.2.1, n, .inl f))) (d : decode cc pc = .ok (.baload, 1)) (k : ∀ v : Int32, E v = some r → AB G ck sk ws lv (pc + 1) (.int v :: st)) : rd n f i E = some r → AB G ck sk ws lv pc (.int i :: .ref a :: st) := by
  intro hf
  by_cases hi : vp_in i n
  · rw [rd, if_neg hi] at hf
    exact fun H locs ls hP hD hS hl => va_zald h.1 h.2.1 h.2.2.2.2.2.1 hP q0 1 ha rfl hi d (k _ hf H locs ls hP hD hS hl)
  · rw [rd, if_pos (Classical.not_not.mp hi)] at hf; cases hf
theorem ab_iast (h : Am G y cc nL ret rm) (q0 : Nat) (ws' : va_W) {a n : Nat} {f : Nat → Int32} {i x : Int32} {E : Option ρ} (ha : ws[q0]? = some (a, .inl ((g_K G).2.1, n, .inl f))) (hw : ws.set q0 (a, .inl ((g_K G).2.1, n, .inl (upd f i.toNatClampNeg x))) = ws') (d : decode cc pc = .ok (.iastore, 1)) (k : E = some r → AB G ck sk ws' lv (pc + 1) st) : ix n i E = some r → AB G ck sk ws lv pc (.int x :: .int i :: .ref a :: st) := by
  intro hf
  by_cases hi : vp_in i n
  · rw [ix, if_neg hi] at hf
    subst hw
    exact fun H locs ls hP hD hS hl => va_iast h.1 h.2.1 h.2.2.2.2.2.1 hP hD hS q0 0 ha rfl hi d (fun H1 locs1 hP hD hS => k hf H1 locs1 ls hP hD hS hl)
  · rw [ix, if_pos (Classical.not_not.mp hi)] at hf; cases hf
theorem ab_zast (h : Am G y cc nL ret rm) (q0 : Nat) (ws' : va_W) {a n : Nat} {f : Nat → Int32} {i x : Int32} {E : Option ρ} (ha : ws[q0]? = some (a, .inl ((g_K G).2.2.1, n, .inl f))) (hw : ws.set q0 (a, .inl ((g_K G).2.2.1, n, .inl (upd f i.toNatClampNeg (vp_nar .boolean x)))) = ws') (d : decode cc pc = .ok (.bastore, 1)) (k : E = some r → AB G ck sk ws' lv (pc + 1) st) : ix n i E = some r → AB G ck sk ws lv pc (.int x :: .int i :: .ref a :: st) := by
  intro hf
  by_cases hi : vp_in i n
  · rw [ix, if_neg hi] at hf
    subst hw
    exact fun H locs ls hP hD hS hl => va_zast h.1 h.2.1 h.2.2.2.2.2.1 hP hD hS q0 1 ha rfl hi d (fun H1 locs1 hP hD hS => k hf H1 locs1 ls hP hD hS hl)
  · rw [ix, if_pos (Classical.not_not.mp hi)] at hf; cases hf
theorem ab_alen (h : Am G y cc nL ret rm) (q0 : Nat) {a n : Nat} {f : Nat → Int32} {v : Int32} (ha : ws[q0]? = some (a, .inl ((g_K G).2.1, n, .inl f))) (hv : Int32.ofNat n = v) (d : decode cc pc = .ok (.arraylength, 1)) (k : AB G ck sk ws lv (pc + 1) (.int v :: st)) : AB G ck sk ws lv pc (.ref a :: st) :=
  fun H locs ls hP hD hS hl => va_alen h.1 h.2.1 h.2.2.2.2.2.1 hP q0 0 ha rfl hv d (k H locs ls hP hD hS hl)
theorem ab_get (h : Am G y cc nL ret rm) {C : String} {T : u_T} {N ci index a : Nat} {fs : List Value} {v : Value} (hin : ∀ w ∈ u_ws C T N, w ∈ lw_tg) (q0 : Nat) (he : ws[q0]? = some (a, .inr (ci, fs))) (hc : vwCl[ci]? = some (C, T, N)) (k : Nat) (hk : k < N) (hm : Cond.fieldLink y.cls index (T k).1 (T k).2.1 (T k).2.2.1 ∈ lw_tg) (hv : fs[k]? = some v) (d : decode cc pc = .ok (.getfield index, 3)) (kk : AB G ck sk ws lv (pc + 3) (v :: st)) : AB G ck sk ws lv pc (.ref a :: st) :=
  fun H locs ls hP hD hS hl => va_get h.1 h.2.1 h.2.2.2.2.1 hin h.2.2.2.1 h.2.2.2.2.2.1 hP q0 he hc k hk (h.2.2.2.2.1 _ hm) (fun _ h9 => h9) hv d (kk H locs ls hP hD hS hl)
theorem ab_put (h : Am G y cc nL ret rm) {C : String} {T : u_T} {N ci index a : Nat} {fs : List Value} {v : Value} {ty : FieldType} (hin : ∀ w ∈ u_ws C T N, w ∈ lw_tg) (ty0 : Nat → FieldType) (hty : ∀ k, k < N → parseFieldDescriptor (T k).2.2.1 = some (ty0 k)) (hnm : ∀ a, a < N → ∀ b, b < N → a ≠ b → (T a).2.1 ≠ (T b).2.1) (q0 : Nat) (ws' : va_W) (he : ws[q0]? = some (a, .inr (ci, fs))) (hc : vwCl[ci]? = some (C, T, N)) (k : Nat) (hk : k < N) (hm : Cond.fieldLink y.cls index (T k).1 (T k).2.1 (T k).2.2.1 ∈ lw_tg) (hfin : (T k).2.2.2 = false) (hd : parseFieldDescriptor (T k).2.2.1 = some ty) (hn : narrow ty v = v) (hfit : fits ty v = true) (hl : k < fs.length) (hw : ws.set q0 (a, .inr (ci, fs.set k v)) = ws') (d : decode cc pc = .ok (.putfield index, 3)) (kk : AB G ck sk ws' lv (pc + 3) st) : AB G ck sk ws lv pc (v :: .ref a :: st) := by
  subst hw
  exact fun H locs ls hP hD hS hl0 => va_put h.1 h.2.1 h.2.2.2.2.1 hin ty0 hty hnm h.2.2.2.1 h.2.2.2.2.2.1 hP hD hS q0 he hc k hk (h.2.2.2.2.1 _ hm) (fun _ h9 => h9) hfin hd hn hfit hl d (fun H1 locs1 hP hD hS => kk H1 locs1 ls hP hD hS hl0)
/-- the end of a walk -/
theorem En.done {rv : Option Value} {wf : List Nat → va_W} (he : En G rm rv wf) (h : Am G y cc nL ret rm) (u : List Nat) (hw : wf u = ws) {H : Heap} {locs : List Loc} (hP : va_P (g_K G).1 vwCl ws H) (hD : va_D (g_A G) ws) (hS : va_S (g_A G) (g_s G).heap H locs) : ∀ t : State, t.heap = H → (g_s G).WarmedH t.vm → QQ (g_K G) rv wf (g_A G) (g_a G) (g_s G) (.returned rv) t :=
  fun t ht hW => ⟨⟨rfl, u, by rw [ht, hw]; exact hP, va_K.moved hW.alike h.2.2.2.2.2.1, by rw [hw]; exact hD⟩, hS.F ht⟩
theorem ab_iret {rv : Option Value} {wf : List Nat → va_W} (h : Am G y cc nL ret rm) (he : En G rm rv wf) (u : List Nat) {v : Int32} (hr : ret = some .int) (hv : rv = some (.int v)) (hw : wf u = ws) (h1 : ck = rm.cells) (h2 : sk = rm.slots) (d : decode cc pc = .ok (.ireturn, 1)) : AB G ck sk ws lv pc [.int v] := by
  intro H locs ls hP hD hS hl
  have hq := En.done he h u hw hP hD hS
  unfold En at he
  rw [he, h1, h2]
  subst hv
  exact W.iret h.1 h.2.1 (h.2.2.2.2.2.2.2.2.1.trans hr) hq hS.2.2 d h.2.2.2.2.2.2.2.1
theorem bz_nar {v : Int32} (h : v = 0 ∨ v = 1) : narrow .boolean (.int v) = .int v := by
  rcases h with rfl | rfl <;> rfl
theorem ab_zret {rv : Option Value} {wf : List Nat → va_W} (h : Am G y cc nL ret rm) (he : En G rm rv wf) (u : List Nat) {v : Int32} (hr : ret = some .boolean) (hn : v = 0 ∨ v = 1) (hv : rv = some (.int v)) (hw : wf u = ws) (h1 : ck = rm.cells) (h2 : sk = rm.slots) (d : decode cc pc = .ok (.ireturn, 1)) : AB G ck sk ws lv pc [.int v] := by
  intro H locs ls hP hD hS hl
  have hq := En.done he h u hw hP hD hS
  unfold En at he
  rw [he, h1, h2]
  subst hv
  exact W.zret h.1 h.2.1 (h.2.2.2.2.2.2.2.2.1.trans hr) (bz_nar hn) hq hS.2.2 d h.2.2.2.2.2.2.2.1
theorem ab_lret {rv : Option Value} {wf : List Nat → va_W} (h : Am G y cc nL ret rm) (he : En G rm rv wf) (u : List Nat) {v : Int64} (hr : ret = some .long) (hv : rv = some (.long v)) (hw : wf u = ws) (h1 : ck = rm.cells) (h2 : sk = rm.slots) (d : decode cc pc = .ok (.lreturn, 1)) : AB G ck sk ws lv pc [.long v] := by
  intro H locs ls hP hD hS hl
  have hq := En.done he h u hw hP hD hS
  unfold En at he
  rw [he, h1, h2]
  subst hv
  exact W.lret h.1 h.2.1 (h.2.2.2.2.2.2.2.2.1.trans hr) hq hS.2.2 d h.2.2.2.2.2.2.2.1
theorem ab_vret {rv : Option Value} {wf : List Nat → va_W} (h : Am G y cc nL ret rm) (he : En G rm rv wf) (u : List Nat) (hr : ret = none) (hv : rv = none) (hw : wf u = ws) (h1 : ck = rm.cells) (h2 : sk = rm.slots) (d : decode cc pc = .ok (.return_, 1)) : AB G ck sk ws lv pc [] := by
  intro H locs ls hP hD hS hl
  have hq := En.done he h u hw hP hD hS
  unfold En at he
  rw [he, h1, h2]
  subst hv
  exact W.vret h.1 h.2.1 (h.2.2.2.2.2.2.2.2.1.trans hr) hq hS.2.2 d h.2.2.2.2.2.2.2.1
end Rows
