/-! THE CLAIM OUT OF ONE WALK OF THE LAW'S BODY. Your part is whole_start (and what it stands on); all else here is the same for every law, but numbers. -/
def R_law : String := "BowlStateLaw"
def lw_P (b : Addr) (xs : List Int32) (args : Array Value) (s : State) : Prop := args = #[.ref b] ∧ s.IntsAt b xs ∧ xs.length ≤ 2560 ∧ (Jvm.Cond.and given_1 narrow_1).before args s = true
def lw_Q (_ : Array Value) (s : State) (o : Outcome) (t : State) : Prop := o = .returned (some (.int 1)) ∧ Framed s o t [] 600000 7302250
def lw_Z (below : List Frame) (a : Array Value) (s : State) : State → Prop := fun t => ∃ o, t.status = .running ∧ Ended t below o ∧ lw_Q a s o t
/-- the law's own end, with 1 on the stack, nothing written that was there before, its room as the claim has it -/
theorem lw_ret {p : Program} {l : Launch} {e : Env} {s : State} {m : MethodId} {below : List Frame} {meth : Method} {c : Code} {b : Nat} (hx : p.tables.exec = Jvm.exec) (hb : c.code = code) (hr : meth.sig.returnType = ret) (hlocks : meth.locks = false) {pc : Nat} {H : Heap} {ls : Array Slot} (hdg : decode code pc = .ok (.ireturn, 1)) : W p l e room_1 s m #[Value.ref b] below meth c H [] 600000 7302250 (lw_Z below #[Value.ref b] s) (F0 m pc ls [.int 1]) := by
  intro T hT X
  obtain ⟨fs, hret, hrun, hended, hW, hframe⟩ := X.leave (v := some (.int 1)) (hlocks := hlocks) (fun h => by rw [hr] at h; cases h)
  have hmeth' : T.vm.method? m = some meth := X.method'
  refine ⟨T.setFrames fs, ?_, .returned (some (.int 1)), hrun, hended, rfl, ⟨_, rfl⟩, hW, hframe⟩
  jvm_step X.here [X.here.top, hx, hb, hdg, hmeth', hr, ret, narrow_b1]
  (try refine ⟨rfl, ?_⟩); (try refine ⟨rfl, ?_⟩)
  first | (intro acts; rw [hret _ acts rfl rfl rfl]) | rw [hret _ _ rfl rfl rfl]
  exact Steps.refl _
/-- what holds at the law's entry: the machine, the code, the tables' words (any of lw_tbl by 'hts w (by decide +kernel)'), the script of L ints xs at the cell b, what the Statement gives of the start (any of its parts by flat_of_before) -/
def lw_At (p : Program) (s : State) (m : MethodId) (meth : Method) (c : Code) (b L : Nat) (xs : Nat → Int32) : Prop :=
  p.tables.exec = Jvm.exec ∧ c.code = code ∧ meth.sig.returnType = ret ∧ c.maxLocals = 4 ∧ s.vm.findClass R_law = some m.cls ∧ (∀ w ∈ lw_tbl, w.before #[Value.ref b] s = true) ∧ va_X b L xs s s.heap ∧ b < s.heap.size ∧ meth.locks = false ∧ (Jvm.Cond.and given_1 narrow_1).before #[Value.ref b] s = true ∧ meth.name = x.name

/-- the law: its end, its script, its world's floor -/
def LwE (G : Cx) (sb sL : Nat) (sxs : Nat → Int32) (r : Int32) : Prop := g_Q G = lw_Z (g_b G) #[Value.ref sb] (g_s G) ∧ g_a G = #[Value.ref sb] ∧ va_X sb sL sxs (g_s G) (g_s G).heap ∧ sb < (g_s G).heap.size ∧ g_A G = (fun q => (g_s G).heap.size ≤ q) ∧ r = 1
section LawRows
variable {G : Cx} {y : MethodName} {cc : ByteArray} {nL : Nat} {ret : Option FieldType} {rm : Room} {ck sk : Nat} {ws : va_W} {lv : List (Nat × Value)} {pc : Nat} {st : List Value} {sb sL : Nat} {sxs : Nat → Int32} {r : Int32}
theorem LwE.out (he : LwE G sb sL sxs r) : ¬ g_A G sb := by
  rw [he.2.2.2.2.1]; exact Nat.not_le.mpr he.2.2.2.1
theorem ab_slen (h : Am G y cc nL ret rm) (he : LwE G sb sL sxs r) (d : decode cc pc = .ok (.arraylength, 1)) (k : AB G ck sk ws lv (pc + 1) (.int (nI sL) :: st)) : AB G ck sk ws lv pc (.ref sb :: st) :=
  fun H locs ls hP hD hS hl => va_slen h.1 h.2.1 he.2.2.1 he.2.2.2.1 he.out hS d (k H locs ls hP hD hS hl)
theorem ab_sld (h : Am G y cc nL ret rm) (he : LwE G sb sL sxs r) {i : Int32} {E : Int32 → Option Int32} (d : decode cc pc = .ok (.iaload, 1)) (k : ∀ v : Int32, E v = some r → AB G ck sk ws lv (pc + 1) (.int v :: st)) : rd sL sxs i E = some r → AB G ck sk ws lv pc (.int i :: .ref sb :: st) := by
  intro hf
  by_cases hi : vp_in i sL
  · rw [rd, if_neg hi] at hf
    exact fun H locs ls hP hD hS hl => va_sld h.1 h.2.1 he.2.2.1 he.2.2.2.1 he.out hS hi d (k _ hf H locs ls hP hD hS hl)
  · rw [rd, if_pos (Classical.not_not.mp hi)] at hf; cases hf
theorem ab_lawret (h : Am G y code nL ret room_1) (he : LwE G sb sL sxs r) (d : decode code pc = .ok (.ireturn, 1)) (hr : ret = Jvm.Pilot.CBowlStateLaw_law_r5858_47d36e.ret := by rfl) (hck : ck ≤ 600000 := by decide) (hsk : sk ≤ 7302250 := by decide) : AB G ck sk ws lv pc [.int 1] := by
  intro H locs ls hP hD hS hl
  have hR : g_R G = room_1 := h.2.2.2.2.2.2.2.2.2.2.1
  rw [he.1, hR, he.2.1]
  refine va_forget (fun q hq => by have := hS.2.2 q hq; rw [he.2.2.2.2.1] at this; exact this) ?_
  refine W.widen (k := 600000) (n := 7302250) hck hsk ?_
  exact lw_ret h.1 h.2.1 (h.2.2.2.2.2.2.2.2.1.trans hr) h.2.2.2.2.2.2.2.1 d
end LawRows

theorem kl_L_88 : Cond.constantLong RL 88 (4294967295) ∈ lw_tg := mt 1061 (by decide +kernel) rfl
theorem ml_L_17 : Cond.methodLink RL 17 yX7_write ∈ lw_tg := mt 790 (by decide +kernel) rfl
theorem ok_X7_write : Vok yX7_write cX7_write 2 (some .int) 1 := ⟨⟨mt 791 (by decide +kernel) rfl, mt 792 (by decide +kernel) rfl, mt 8 (by decide +kernel) rfl, mt 793 (by decide +kernel) rfl⟩, by decide +kernel⟩
theorem ml_L_13 : Cond.methodLink RL 13 yX6_write ∈ lw_tg := mt 234 (by decide +kernel) rfl
theorem ok_X6_write : Vok yX6_write cX6_write 2 (some .int) 1 := ⟨⟨mt 235 (by decide +kernel) rfl, mt 236 (by decide +kernel) rfl, mt 1 (by decide +kernel) rfl, mt 237 (by decide +kernel) rfl⟩, by decide +kernel⟩
theorem ml_L_22 : Cond.methodLink RL 22 yX7_wipe ∈ lw_tg := mt 798 (by decide +kernel) rfl
theorem ok_X7_wipe : Vok yX7_wipe cX7_wipe 2 (some .int) 0 := ⟨⟨mt 799 (by decide +kernel) rfl, mt 800 (by decide +kernel) rfl, mt 8 (by decide +kernel) rfl, mt 801 (by decide +kernel) rfl⟩, by decide +kernel⟩
theorem ml_L_18 : Cond.methodLink RL 18 yX6_wipe ∈ lw_tg := mt 238 (by decide +kernel) rfl
theorem ok_X6_wipe : Vok yX6_wipe cX6_wipe 2 (some .int) 0 := ⟨⟨mt 239 (by decide +kernel) rfl, mt 240 (by decide +kernel) rfl, mt 1 (by decide +kernel) rfl, mt 241 (by decide +kernel) rfl⟩, by decide +kernel⟩
theorem ml_L_26 : Cond.methodLink RL 26 yX7_fault ∈ lw_tg := mt 802 (by decide +kernel) rfl
theorem ok_X7_fault : Vok yX7_fault cX7_fault 1 (some .int) 0 := ⟨⟨mt 803 (by decide +kernel) rfl, mt 804 (by decide +kernel) rfl, mt 8 (by decide +kernel) rfl, mt 805 (by decide +kernel) rfl⟩, by decide +kernel⟩
theorem ml_L_23 : Cond.methodLink RL 23 yX6_fault ∈ lw_tg := mt 242 (by decide +kernel) rfl
theorem ok_X6_fault : Vok yX6_fault cX6_fault 1 (some .int) 0 := ⟨⟨mt 243 (by decide +kernel) rfl, mt 244 (by decide +kernel) rfl, mt 1 (by decide +kernel) rfl, mt 245 (by decide +kernel) rfl⟩, by decide +kernel⟩
theorem ml_L_30 : Cond.methodLink RL 30 yX7_hall ∈ lw_tg := mt 826 (by decide +kernel) rfl
theorem ok_X7_hall : Vok yX7_hall cX7_hall 2 (some .int) 0 := ⟨⟨mt 827 (by decide +kernel) rfl, mt 828 (by decide +kernel) rfl, mt 8 (by decide +kernel) rfl, mt 829 (by decide +kernel) rfl⟩, by decide +kernel⟩
theorem ml_L_27 : Cond.methodLink RL 27 yX6_hall ∈ lw_tg := mt 300 (by decide +kernel) rfl
theorem ok_X6_hall : Vok yX6_hall cX6_hall 2 (some .int) 0 := ⟨⟨mt 301 (by decide +kernel) rfl, mt 302 (by decide +kernel) rfl, mt 1 (by decide +kernel) rfl, mt 303 (by decide +kernel) rfl⟩, by decide +kernel⟩
theorem ml_L_35 : Cond.methodLink RL 35 yX7_bowl ∈ lw_tg := mt 834 (by decide +kernel) rfl
theorem ok_X7_bowl : Vok yX7_bowl cX7_bowl 3 (some .int) 2 := ⟨⟨mt 835 (by decide +kernel) rfl, mt 836 (by decide +kernel) rfl, mt 8 (by decide +kernel) rfl, mt 837 (by decide +kernel) rfl⟩, by decide +kernel⟩
theorem ml_L_31 : Cond.methodLink RL 31 yX6_bowl ∈ lw_tg := mt 327 (by decide +kernel) rfl
theorem ok_X6_bowl : Vok yX6_bowl cX6_bowl 3 (some .int) 2 := ⟨⟨mt 328 (by decide +kernel) rfl, mt 329 (by decide +kernel) rfl, mt 1 (by decide +kernel) rfl, mt 330 (by decide +kernel) rfl⟩, by decide +kernel⟩
theorem ml_L_39 : Cond.methodLink RL 39 yX7_fish ∈ lw_tg := mt 854 (by decide +kernel) rfl
theorem ok_X7_fish : Vok yX7_fish cX7_fish 3 (some .int) 2 := ⟨⟨mt 855 (by decide +kernel) rfl, mt 856 (by decide +kernel) rfl, mt 8 (by decide +kernel) rfl, mt 857 (by decide +kernel) rfl⟩, by decide +kernel⟩
theorem ml_L_36 : Cond.methodLink RL 36 yX6_fish ∈ lw_tg := mt 347 (by decide +kernel) rfl
theorem ok_X6_fish : Vok yX6_fish cX6_fish 3 (some .int) 2 := ⟨⟨mt 348 (by decide +kernel) rfl, mt 349 (by decide +kernel) rfl, mt 1 (by decide +kernel) rfl, mt 350 (by decide +kernel) rfl⟩, by decide +kernel⟩
theorem ml_L_43 : Cond.methodLink RL 43 yX7_lip ∈ lw_tg := mt 862 (by decide +kernel) rfl
theorem ok_X7_lip : Vok yX7_lip cX7_lip 3 (some .int) 2 := ⟨⟨mt 863 (by decide +kernel) rfl, mt 864 (by decide +kernel) rfl, mt 8 (by decide +kernel) rfl, mt 865 (by decide +kernel) rfl⟩, by decide +kernel⟩
theorem ml_L_40 : Cond.methodLink RL 40 yX6_lip ∈ lw_tg := mt 356 (by decide +kernel) rfl
theorem ok_X6_lip : Vok yX6_lip cX6_lip 3 (some .int) 2 := ⟨⟨mt 357 (by decide +kernel) rfl, mt 358 (by decide +kernel) rfl, mt 1 (by decide +kernel) rfl, mt 359 (by decide +kernel) rfl⟩, by decide +kernel⟩
theorem ml_L_47 : Cond.methodLink RL 47 yX7_hour ∈ lw_tg := mt 870 (by decide +kernel) rfl
theorem ok_X7_hour : Vok yX7_hour cX7_hour 1 (some .int) 0 := ⟨⟨mt 871 (by decide +kernel) rfl, mt 872 (by decide +kernel) rfl, mt 8 (by decide +kernel) rfl, mt 873 (by decide +kernel) rfl⟩, by decide +kernel⟩
theorem ml_L_44 : Cond.methodLink RL 44 yX6_hour ∈ lw_tg := mt 368 (by decide +kernel) rfl
theorem ok_X6_hour : Vok yX6_hour cX6_hour 1 (some .int) 0 := ⟨⟨mt 369 (by decide +kernel) rfl, mt 370 (by decide +kernel) rfl, mt 1 (by decide +kernel) rfl, mt 371 (by decide +kernel) rfl⟩, by decide +kernel⟩
theorem ml_L_51 : Cond.methodLink RL 51 yX7_move ∈ lw_tg := mt 905 (by decide +kernel) rfl
theorem ok_X7_move : Vok yX7_move cX7_move 4 (some .int) 2 := ⟨⟨mt 906 (by decide +kernel) rfl, mt 907 (by decide +kernel) rfl, mt 8 (by decide +kernel) rfl, mt 908 (by decide +kernel) rfl⟩, by decide +kernel⟩
theorem ml_L_48 : Cond.methodLink RL 48 yX6_move ∈ lw_tg := mt 416 (by decide +kernel) rfl
theorem ok_X6_move : Vok yX6_move cX6_move 4 (some .int) 2 := ⟨⟨mt 417 (by decide +kernel) rfl, mt 418 (by decide +kernel) rfl, mt 1 (by decide +kernel) rfl, mt 419 (by decide +kernel) rfl⟩, by decide +kernel⟩
theorem ml_L_55 : Cond.methodLink RL 55 yX7_water ∈ lw_tg := mt 917 (by decide +kernel) rfl
theorem ok_X7_water : Vok yX7_water cX7_water 2 (some .int) 1 := ⟨⟨mt 918 (by decide +kernel) rfl, mt 919 (by decide +kernel) rfl, mt 8 (by decide +kernel) rfl, mt 920 (by decide +kernel) rfl⟩, by decide +kernel⟩
theorem ml_L_52 : Cond.methodLink RL 52 yX6_water ∈ lw_tg := mt 433 (by decide +kernel) rfl
theorem ok_X6_water : Vok yX6_water cX6_water 2 (some .int) 1 := ⟨⟨mt 434 (by decide +kernel) rfl, mt 435 (by decide +kernel) rfl, mt 1 (by decide +kernel) rfl, mt 436 (by decide +kernel) rfl⟩, by decide +kernel⟩
theorem ml_L_59 : Cond.methodLink RL 59 yX7_tell ∈ lw_tg := mt 925 (by decide +kernel) rfl
theorem ok_X7_tell : Vok yX7_tell cX7_tell 4 (some .int) 2 := ⟨⟨mt 926 (by decide +kernel) rfl, mt 927 (by decide +kernel) rfl, mt 8 (by decide +kernel) rfl, mt 928 (by decide +kernel) rfl⟩, by decide +kernel⟩
theorem ml_L_56 : Cond.methodLink RL 56 yX6_tell ∈ lw_tg := mt 441 (by decide +kernel) rfl
theorem ok_X6_tell : Vok yX6_tell cX6_tell 4 (some .int) 2 := ⟨⟨mt 442 (by decide +kernel) rfl, mt 443 (by decide +kernel) rfl, mt 1 (by decide +kernel) rfl, mt 444 (by decide +kernel) rfl⟩, by decide +kernel⟩
theorem ml_L_63 : Cond.methodLink RL 63 yX7_duty ∈ lw_tg := mt 929 (by decide +kernel) rfl
theorem ok_X7_duty : Vok yX7_duty cX7_duty 2 (some .int) 1 := ⟨⟨mt 930 (by decide +kernel) rfl, mt 931 (by decide +kernel) rfl, mt 8 (by decide +kernel) rfl, mt 932 (by decide +kernel) rfl⟩, by decide +kernel⟩
theorem ml_L_60 : Cond.methodLink RL 60 yX6_duty ∈ lw_tg := mt 446 (by decide +kernel) rfl
theorem ok_X6_duty : Vok yX6_duty cX6_duty 2 (some .int) 1 := ⟨⟨mt 447 (by decide +kernel) rfl, mt 448 (by decide +kernel) rfl, mt 1 (by decide +kernel) rfl, mt 449 (by decide +kernel) rfl⟩, by decide +kernel⟩
theorem ml_L_67 : Cond.methodLink RL 67 yX7_undo ∈ lw_tg := mt 933 (by decide +kernel) rfl
theorem ok_X7_undo : Vok yX7_undo cX7_undo 2 (some .int) 0 := ⟨⟨mt 934 (by decide +kernel) rfl, mt 935 (by decide +kernel) rfl, mt 8 (by decide +kernel) rfl, mt 936 (by decide +kernel) rfl⟩, by decide +kernel⟩
theorem ml_L_64 : Cond.methodLink RL 64 yX6_undo ∈ lw_tg := mt 454 (by decide +kernel) rfl
theorem ok_X6_undo : Vok yX6_undo cX6_undo 1 (some .int) 0 := ⟨⟨mt 455 (by decide +kernel) rfl, mt 456 (by decide +kernel) rfl, mt 1 (by decide +kernel) rfl, mt 457 (by decide +kernel) rfl⟩, by decide +kernel⟩
theorem ml_L_71 : Cond.methodLink RL 71 yX7_ahead ∈ lw_tg := mt 937 (by decide +kernel) rfl
theorem ok_X7_ahead : Vok yX7_ahead cX7_ahead 4 (some .int) 2 := ⟨⟨mt 938 (by decide +kernel) rfl, mt 939 (by decide +kernel) rfl, mt 8 (by decide +kernel) rfl, mt 940 (by decide +kernel) rfl⟩, by decide +kernel⟩
theorem ml_L_68 : Cond.methodLink RL 68 yX6_ahead ∈ lw_tg := mt 462 (by decide +kernel) rfl
theorem ok_X6_ahead : Vok yX6_ahead cX6_ahead 3 (some .int) 2 := ⟨⟨mt 463 (by decide +kernel) rfl, mt 464 (by decide +kernel) rfl, mt 1 (by decide +kernel) rfl, mt 465 (by decide +kernel) rfl⟩, by decide +kernel⟩
theorem ml_L_75 : Cond.methodLink RL 75 yX7_lost ∈ lw_tg := mt 946 (by decide +kernel) rfl
theorem ok_X7_lost : Vok yX7_lost cX7_lost 3 (some .int) 1 := ⟨⟨mt 947 (by decide +kernel) rfl, mt 948 (by decide +kernel) rfl, mt 8 (by decide +kernel) rfl, mt 949 (by decide +kernel) rfl⟩, by decide +kernel⟩
theorem ml_L_72 : Cond.methodLink RL 72 yX6_lost ∈ lw_tg := mt 480 (by decide +kernel) rfl
theorem ok_X6_lost : Vok yX6_lost cX6_lost 2 (some .int) 1 := ⟨⟨mt 481 (by decide +kernel) rfl, mt 482 (by decide +kernel) rfl, mt 1 (by decide +kernel) rfl, mt 483 (by decide +kernel) rfl⟩, by decide +kernel⟩
theorem ml_L_79 : Cond.methodLink RL 79 yX7_crew ∈ lw_tg := mt 950 (by decide +kernel) rfl
theorem ok_X7_crew : Vok yX7_crew cX7_crew 4 (some .int) 0 := ⟨⟨mt 951 (by decide +kernel) rfl, mt 952 (by decide +kernel) rfl, mt 8 (by decide +kernel) rfl, mt 953 (by decide +kernel) rfl⟩, by decide +kernel⟩
theorem ml_L_76 : Cond.methodLink RL 76 yX6_crew ∈ lw_tg := mt 488 (by decide +kernel) rfl
theorem ok_X6_crew : Vok yX6_crew cX6_crew 1 (some .int) 0 := ⟨⟨mt 489 (by decide +kernel) rfl, mt 490 (by decide +kernel) rfl, mt 1 (by decide +kernel) rfl, mt 491 (by decide +kernel) rfl⟩, by decide +kernel⟩
theorem ml_L_83 : Cond.methodLink RL 83 yX7_keeps ∈ lw_tg := mt 958 (by decide +kernel) rfl
theorem ok_X7_keeps : Vok yX7_keeps cX7_keeps 3 (some .int) 2 := ⟨⟨mt 959 (by decide +kernel) rfl, mt 960 (by decide +kernel) rfl, mt 8 (by decide +kernel) rfl, mt 961 (by decide +kernel) rfl⟩, by decide +kernel⟩
theorem ml_L_80 : Cond.methodLink RL 80 yX6_keeps ∈ lw_tg := mt 505 (by decide +kernel) rfl
theorem ok_X6_keeps : Vok yX6_keeps cX6_keeps 3 (some .int) 2 := ⟨⟨mt 506 (by decide +kernel) rfl, mt 507 (by decide +kernel) rfl, mt 1 (by decide +kernel) rfl, mt 508 (by decide +kernel) rfl⟩, by decide +kernel⟩
theorem ml_L_87 : Cond.methodLink RL 87 yX7_best ∈ lw_tg := mt 970 (by decide +kernel) rfl
theorem ok_X7_best : Vok yX7_best cX7_best 4 (some .int) 1 := ⟨⟨mt 971 (by decide +kernel) rfl, mt 972 (by decide +kernel) rfl, mt 8 (by decide +kernel) rfl, mt 973 (by decide +kernel) rfl⟩, by decide +kernel⟩
theorem ml_L_84 : Cond.methodLink RL 84 yX6_best ∈ lw_tg := mt 514 (by decide +kernel) rfl
theorem ok_X6_best : Vok yX6_best cX6_best 2 (some .int) 1 := ⟨⟨mt 515 (by decide +kernel) rfl, mt 516 (by decide +kernel) rfl, mt 1 (by decide +kernel) rfl, mt 517 (by decide +kernel) rfl⟩, by decide +kernel⟩
theorem ml_L_94 : Cond.methodLink RL 94 yX7_judge ∈ lw_tg := mt 974 (by decide +kernel) rfl
theorem ok_X7_judge : Vok yX7_judge cX7_judge 6 (some .int) 2 := ⟨⟨mt 975 (by decide +kernel) rfl, mt 976 (by decide +kernel) rfl, mt 8 (by decide +kernel) rfl, mt 977 (by decide +kernel) rfl⟩, by decide +kernel⟩
theorem ml_L_90 : Cond.methodLink RL 90 yX6_judge ∈ lw_tg := mt 523 (by decide +kernel) rfl
theorem ok_X6_judge : Vok yX6_judge cX6_judge 4 (some .int) 2 := ⟨⟨mt 524 (by decide +kernel) rfl, mt 525 (by decide +kernel) rfl, mt 1 (by decide +kernel) rfl, mt 526 (by decide +kernel) rfl⟩, by decide +kernel⟩
theorem ml_L_98 : Cond.methodLink RL 98 yX7_say ∈ lw_tg := mt 987 (by decide +kernel) rfl
theorem ok_X7_say : Vok yX7_say cX7_say 3 (some .int) 2 := ⟨⟨mt 988 (by decide +kernel) rfl, mt 989 (by decide +kernel) rfl, mt 8 (by decide +kernel) rfl, mt 990 (by decide +kernel) rfl⟩, by decide +kernel⟩
theorem ml_L_95 : Cond.methodLink RL 95 yX6_say ∈ lw_tg := mt 570 (by decide +kernel) rfl
theorem ok_X6_say : Vok yX6_say cX6_say 3 (some .int) 2 := ⟨⟨mt 571 (by decide +kernel) rfl, mt 572 (by decide +kernel) rfl, mt 1 (by decide +kernel) rfl, mt 573 (by decide +kernel) rfl⟩, by decide +kernel⟩
theorem ml_L_102 : Cond.methodLink RL 102 yX7_unsay ∈ lw_tg := mt 991 (by decide +kernel) rfl
theorem ok_X7_unsay : Vok yX7_unsay cX7_unsay 2 (some .int) 0 := ⟨⟨mt 992 (by decide +kernel) rfl, mt 993 (by decide +kernel) rfl, mt 8 (by decide +kernel) rfl, mt 994 (by decide +kernel) rfl⟩, by decide +kernel⟩
theorem ml_L_99 : Cond.methodLink RL 99 yX6_unsay ∈ lw_tg := mt 578 (by decide +kernel) rfl
theorem ok_X6_unsay : Vok yX6_unsay cX6_unsay 2 (some .int) 0 := ⟨⟨mt 579 (by decide +kernel) rfl, mt 580 (by decide +kernel) rfl, mt 1 (by decide +kernel) rfl, mt 581 (by decide +kernel) rfl⟩, by decide +kernel⟩
theorem ml_L_106 : Cond.methodLink RL 106 yX7_firsts ∈ lw_tg := mt 995 (by decide +kernel) rfl
theorem ok_X7_firsts : Vok yX7_firsts cX7_firsts 6 (some .int) 1 := ⟨⟨mt 996 (by decide +kernel) rfl, mt 997 (by decide +kernel) rfl, mt 8 (by decide +kernel) rfl, mt 998 (by decide +kernel) rfl⟩, by decide +kernel⟩
theorem ml_L_103 : Cond.methodLink RL 103 yX6_firsts ∈ lw_tg := mt 582 (by decide +kernel) rfl
theorem ok_X6_firsts : Vok yX6_firsts cX6_firsts 2 (some .int) 1 := ⟨⟨mt 583 (by decide +kernel) rfl, mt 584 (by decide +kernel) rfl, mt 1 (by decide +kernel) rfl, mt 585 (by decide +kernel) rfl⟩, by decide +kernel⟩
theorem ml_L_111 : Cond.methodLink RL 111 yX7_share ∈ lw_tg := mt 1003 (by decide +kernel) rfl
theorem ok_X7_share : Vok yX7_share cX7_share 6 (some .int) 2 := ⟨⟨mt 1004 (by decide +kernel) rfl, mt 1005 (by decide +kernel) rfl, mt 8 (by decide +kernel) rfl, mt 1006 (by decide +kernel) rfl⟩, by decide +kernel⟩
theorem ml_L_107 : Cond.methodLink RL 107 yX6_share ∈ lw_tg := mt 597 (by decide +kernel) rfl
theorem ok_X6_share : Vok yX6_share cX6_share 3 (some .int) 2 := ⟨⟨mt 598 (by decide +kernel) rfl, mt 599 (by decide +kernel) rfl, mt 1 (by decide +kernel) rfl, mt 600 (by decide +kernel) rfl⟩, by decide +kernel⟩
theorem ml_L_116 : Cond.methodLink RL 116 yX7_rests ∈ lw_tg := mt 1017 (by decide +kernel) rfl
theorem ok_X7_rests : Vok yX7_rests cX7_rests 7 (some .int) 3 := ⟨⟨mt 1018 (by decide +kernel) rfl, mt 1019 (by decide +kernel) rfl, mt 8 (by decide +kernel) rfl, mt 1020 (by decide +kernel) rfl⟩, by decide +kernel⟩
theorem ml_L_112 : Cond.methodLink RL 112 yX6_rests ∈ lw_tg := mt 623 (by decide +kernel) rfl
theorem ok_X6_rests : Vok yX6_rests cX6_rests 4 (some .int) 3 := ⟨⟨mt 624 (by decide +kernel) rfl, mt 625 (by decide +kernel) rfl, mt 1 (by decide +kernel) rfl, mt 626 (by decide +kernel) rfl⟩, by decide +kernel⟩
theorem ml_L_121 : Cond.methodLink RL 121 yX7_ill ∈ lw_tg := mt 1029 (by decide +kernel) rfl
theorem ok_X7_ill : Vok yX7_ill cX7_ill 10 (some .int) 4 := ⟨⟨mt 1030 (by decide +kernel) rfl, mt 1031 (by decide +kernel) rfl, mt 8 (by decide +kernel) rfl, mt 1032 (by decide +kernel) rfl⟩, by decide +kernel⟩
theorem ml_L_117 : Cond.methodLink RL 117 yX6_ill ∈ lw_tg := mt 643 (by decide +kernel) rfl
theorem ok_X6_ill : Vok yX6_ill cX6_ill 5 (some .int) 4 := ⟨⟨mt 644 (by decide +kernel) rfl, mt 645 (by decide +kernel) rfl, mt 1 (by decide +kernel) rfl, mt 646 (by decide +kernel) rfl⟩, by decide +kernel⟩
theorem ml_L_126 : Cond.methodLink RL 126 yX7_seed ∈ lw_tg := mt 1037 (by decide +kernel) rfl
theorem ok_X7_seed : Vok yX7_seed cX7_seed 5 (some .long) 1 := ⟨⟨mt 1038 (by decide +kernel) rfl, mt 1039 (by decide +kernel) rfl, mt 8 (by decide +kernel) rfl, mt 1040 (by decide +kernel) rfl⟩, by decide +kernel⟩
theorem ml_L_122 : Cond.methodLink RL 122 yX6_seed ∈ lw_tg := mt 659 (by decide +kernel) rfl
theorem ok_X6_seed : Vok yX6_seed cX6_seed 5 (some .long) 1 := ⟨⟨mt 660 (by decide +kernel) rfl, mt 661 (by decide +kernel) rfl, mt 1 (by decide +kernel) rfl, mt 662 (by decide +kernel) rfl⟩, by decide +kernel⟩
theorem ml_L_130 : Cond.methodLink RL 130 yX7_decades ∈ lw_tg := mt 1041 (by decide +kernel) rfl
theorem ok_X7_decades : Vok yX7_decades cX7_decades 5 (some .int) 1 := ⟨⟨mt 1042 (by decide +kernel) rfl, mt 1043 (by decide +kernel) rfl, mt 8 (by decide +kernel) rfl, mt 1044 (by decide +kernel) rfl⟩, by decide +kernel⟩
theorem ml_L_127 : Cond.methodLink RL 127 yX6_decades ∈ lw_tg := mt 663 (by decide +kernel) rfl
theorem ok_X6_decades : Vok yX6_decades cX6_decades 4 (some .int) 1 := ⟨⟨mt 664 (by decide +kernel) rfl, mt 665 (by decide +kernel) rfl, mt 1 (by decide +kernel) rfl, mt 666 (by decide +kernel) rfl⟩, by decide +kernel⟩
theorem ml_L_134 : Cond.methodLink RL 134 yX7_keep ∈ lw_tg := mt 1049 (by decide +kernel) rfl
theorem ok_X7_keep : Vok yX7_keep cX7_keep 3 (some .int) 1 := ⟨⟨mt 1050 (by decide +kernel) rfl, mt 1051 (by decide +kernel) rfl, mt 8 (by decide +kernel) rfl, mt 1052 (by decide +kernel) rfl⟩, by decide +kernel⟩
theorem ml_L_131 : Cond.methodLink RL 131 yX6_keep ∈ lw_tg := mt 679 (by decide +kernel) rfl
theorem ok_X6_keep : Vok yX6_keep cX6_keep 2 (some .int) 1 := ⟨⟨mt 680 (by decide +kernel) rfl, mt 681 (by decide +kernel) rfl, mt 1 (by decide +kernel) rfl, mt 682 (by decide +kernel) rfl⟩, by decide +kernel⟩
theorem ml_L_138 : Cond.methodLink RL 138 yX7_again ∈ lw_tg := mt 1053 (by decide +kernel) rfl
theorem ok_X7_again : Vok yX7_again cX7_again 3 (some .int) 1 := ⟨⟨mt 1054 (by decide +kernel) rfl, mt 1055 (by decide +kernel) rfl, mt 8 (by decide +kernel) rfl, mt 1056 (by decide +kernel) rfl⟩, by decide +kernel⟩
theorem ml_L_135 : Cond.methodLink RL 135 yX6_again ∈ lw_tg := mt 684 (by decide +kernel) rfl
theorem ok_X6_again : Vok yX6_again cX6_again 2 (some .int) 1 := ⟨⟨mt 685 (by decide +kernel) rfl, mt 686 (by decide +kernel) rfl, mt 1 (by decide +kernel) rfl, mt 687 (by decide +kernel) rfl⟩, by decide +kernel⟩
theorem ml_L_142 : Cond.methodLink RL 142 yX7_count ∈ lw_tg := mt 1057 (by decide +kernel) rfl
theorem ok_X7_count : Vok yX7_count cX7_count 2 (some .int) 1 := ⟨⟨mt 1058 (by decide +kernel) rfl, mt 1059 (by decide +kernel) rfl, mt 8 (by decide +kernel) rfl, mt 1060 (by decide +kernel) rfl⟩, by decide +kernel⟩
theorem ml_L_139 : Cond.methodLink RL 139 yX6_count ∈ lw_tg := mt 688 (by decide +kernel) rfl
theorem ok_X6_count : Vok yX6_count cX6_count 2 (some .int) 1 := ⟨⟨mt 689 (by decide +kernel) rfl, mt 690 (by decide +kernel) rfl, mt 1 (by decide +kernel) rfl, mt 691 (by decide +kernel) rfl⟩, by decide +kernel⟩
