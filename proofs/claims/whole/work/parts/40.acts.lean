theorem up_s {α : Type} (f : Nat → α) (k : Nat) (v : α) : va_up f k v k = v := if_pos rfl
theorem up_n {α : Type} (f : Nat → α) {k j : Nat} (v : α) (h : j ≠ k) : va_up f k v j = f j := if_neg h
theorem rd238 {α : Type} {j : Nat} (h : j < 238) (f : Nat → Int32) (k : Int32 → Option α) : rd 238 f (nI j) k = k (f j) := rd_n h (by decide) f k
theorem ix238 {α : Type} {j : Nat} (h : j < 238) (k : Option α) : ix 238 (nI j) k = k := ix_n h (by decide) k
theorem nz14 {α : Type} (k : Option α) : nz 14 k = k := nz_n (by decide) k
theorem nar1 : vp_nar .boolean 1 = 1 := by decide
theorem nar0 : vp_nar .boolean 0 = 0 := by decide
section ActsP
variable {B F Lp C C2 A X i j l n lv base : Nat} {hours first kind post error round first2 kind2 begins error2 : Nat → Int32} {pl kn lf now row : Nat → Int32} {du ck : Int32} {pls kns lfs : Nat → Nat → Int32} {ods cks : Nat → Int32}
/-- the acts that are kept: the class's row, the reference's ring -/
def AR (B F Lp C A X : Nat) (hours kind : Nat → Int32) (pls kns lfs : Nat → Nat → Int32) (ods cks row : Nat → Int32) : Prop :=
  A ≤ 14 ∧ X < 14 ∧ ∀ j, j < A → MR B F Lp C (17 * ((X + 14 - A + j) % 14)) hours kind (pls j) (kns j) (lfs j) (ods j) (cks j) row
theorem AR.mono (h : AR B F Lp C A X hours kind pls kns lfs ods cks row) (hF : F ≤ 5) (hC : C ≤ C2) : AR B F Lp C2 A X hours kind pls kns lfs ods cks row := ⟨h.1, h.2.1, fun j hj => (h.2.2 j hj).mono hF hC⟩
theorem AR.zero (h : AR B F Lp C A X hours kind pls kns lfs ods cks row) {B' F' Lp' C' : Nat} {hours' kind' : Nat → Int32} : AR B' F' Lp' C' 0 X hours' kind' pls kns lfs ods cks row := ⟨by omega, h.2.1, fun j hj => by omega⟩
theorem x7_keepAct (hX : X < 14) (hA : A ≤ 14) : f_X7_keepAct now (nI A) (nI X) row = some (nI (if 14 ≤ A then 14 else A + 1), nI ((X + 1) % 14), va_cpy now row 0 (17 * X) 17) := by
  unfold f_X7_keepAct
  refine loop1 (st := g_X7_keepAct_2 now (nI A) (nI X)) 17 (fun i s => s = (nI i, va_cpy now row 0 (17 * X) i)) (fun o => o = some (nI (if 14 ≤ A then 14 else A + 1), nI ((X + 1) % 14), va_cpy now row 0 (17 * X) 17)) ?_ ?_ 100 0 _ (Nat.zero_le _) (by omega) ?_
  · rintro i s hi rfl
    left
    have hlt : ¬ (17 : Int32) ≤ nI i := lt_le (b := 17) hi (by decide)
    refine ⟨_, rfl, fun k => ?_⟩
    have e : now i = now (0 + i) := by rw [Nat.zero_add]
    simp only [g_X7_keepAct_2, f_X7_keepAct_2, if_neg hlt, rd34 (show i < 34 by omega), n17, nI_add, ix238 (show 17 * X + i < 238 by omega), cl_n (show 17 * X + i < 2 ^ 31 by omega), nI_1]
    rw [e, cpyS]
  · rintro s rfl k
    have hm : jrem (nI (X + 1)) 14 = nI ((X + 1) % 14) := jrem_n (b := 14) (by omega) (by decide) (by decide)
    simp only [g_X7_keepAct_2, f_X7_keepAct_2, f_X7_keepAct_34, if_pos (show (17 : Int32) ≤ nI 17 from Int32.le_refl _), nz14, nI_1, hm]
    by_cases q : 14 ≤ A
    · rw [if_pos (show (14 : Int32) ≤ nI A from nI_le (a := 14) q (by omega)), if_pos q]; rfl
    · rw [if_neg (show ¬ (14 : Int32) ≤ nI A from nI_ge (b := 14) (by omega) (by decide)), if_neg q]
  · rw [cpy0]; rfl
/-- an act is remembered -/
theorem x_remember (hF : F ≤ 5) (hM : MR B F Lp C 0 hours kind pl kn lf du ck now) (hA : AR B F Lp C A X hours kind pls kns lfs ods cks row) (ak : Nat → Nat → Nat) :
    ∃ A' X' ak' pls' kns' lfs' ods' cks' row', f_X0_remember (nI A) ak pls kns lfs ods cks pl kn lf du ck = some (nI A', ak', pls', kns', lfs', ods', cks') ∧ f_X7_keepAct now (nI A) (nI X) row = some (nI A', nI X', row') ∧ AR B F Lp C A' X' hours kind pls' kns' lfs' ods' cks' row' := by
  obtain ⟨hA14, hX, hj⟩ := hA
  rw [x7_keepAct hX hA14]
  have hnew : ∀ g1 g2 g3, MR B F Lp C (17 * X) hours kind (va_cpy pl g1 0 0 5) (va_cpy kn g2 0 0 5) (va_cpy lf g3 0 0 5) du ck (va_cpy now row 0 (17 * X) 17) := fun g1 g2 g3 =>
    hM.cong (fun i hi => ⟨cpy5 (by omega), cpy5 (by omega), cpy5 (by omega)⟩) (fun j hj => cpy_in hj) hF (Nat.le_refl C)
  have hold : ∀ {Y : Nat} {p k q : Nat → Int32} {d c : Int32}, Y < 14 → Y ≠ X → MR B F Lp C (17 * Y) hours kind p k q d c row → MR B F Lp C (17 * Y) hours kind p k q d c (va_cpy now row 0 (17 * X) 17) := fun hY hne h =>
    h.cong (fun i hi => ⟨rfl, rfl, rfl⟩) (fun j hj => cpy_out (by omega)) hF (Nat.le_refl C)
  unfold f_X0_remember
  by_cases q : 14 ≤ A
  · have hA' : A = 14 := by omega
    subst hA'
    rw [if_neg (show ¬ nI 14 < (14 : Int32) by decide), if_pos q]
    unfold f_X0_forgetFirst f_X0_remember_13
    rw [Option.bind_some]
    dsimp only
    rw [show (13 : Int32) = nI 13 from rfl, rdx_n (n := 14) (by decide) (by decide)]
    unfold f_X1_become
    rw [Option.bind_some]
    refine ⟨14, (X + 1) % 14, _, _, _, _, _, _, _, rfl, rfl, by omega, by omega, fun j hj14 => ?_⟩
    by_cases h13 : j = 13
    · subst h13
      rw [show ((X + 1) % 14 + 14 - 14 + 13) % 14 = X by omega]
      dsimp only
      rw [up_s, up_s, up_s, up_s, up_s]
      exact hnew _ _ _
    · dsimp only
      rw [up_n _ _ h13, up_n _ _ h13, up_n _ _ h13, up_n _ _ h13, up_n _ _ h13]
      unfold rot14
      rw [if_pos (show j < 13 by omega), if_pos (show j < 13 by omega), if_pos (show j < 13 by omega), if_pos (show j < 13 by omega), if_pos (show j < 13 by omega)]
      have h1 := hj (j + 1) (by omega)
      have e : (X + 14 - 14 + (j + 1)) % 14 = ((X + 1) % 14 + 14 - 14 + j) % 14 := by omega
      rw [e] at h1
      exact hold (by omega) (by omega) h1
  · rw [if_pos (show nI A < (14 : Int32) from nI_lt (b := 14) (by omega) (by decide)), if_neg q]
    unfold f_X0_remember_13
    rw [rdx_n (n := 14) (by omega) (by decide)]
    unfold f_X1_become
    rw [Option.bind_some, nI_1]
    refine ⟨A + 1, (X + 1) % 14, _, _, _, _, _, _, _, rfl, rfl, by omega, by omega, fun j hjA => ?_⟩
    by_cases h13 : j = A
    · subst h13
      rw [show ((X + 1) % 14 + 14 - (j + 1) + j) % 14 = X by omega]
      dsimp only
      rw [up_s, up_s, up_s, up_s, up_s]
      exact hnew _ _ _
    · dsimp only
      rw [up_n _ _ h13, up_n _ _ h13, up_n _ _ h13, up_n _ _ h13, up_n _ _ h13]
      have h1 := hj j (by omega)
      have e : (X + 14 - A + j) % 14 = ((X + 1) % 14 + 14 - (A + 1) + j) % 14 := by omega
      rw [e] at h1
      exact hold (by omega) (by omega) h1
/-- UNDO -/
theorem x_undo (hF : F ≤ 5) (hM : MR B F Lp C 0 hours kind pl kn lf du ck now) (hA : AR B F Lp C A X hours kind pls kns lfs ods cks row) :
    ∃ v pl' kn' lf' du' ck' now' A' X', f_X6_undo pl kn lf du ck (nI A) pls kns lfs ods cks = some (v, pl', kn', lf', du', ck', nI A') ∧ f_X7_undo now (nI A) (nI X) row = some (v, now', nI A', nI X') ∧ MR B F Lp C 0 hours kind pl' kn' lf' du' ck' now' ∧ AR B F Lp C A' X' hours kind pls kns lfs ods cks row := by
  have hA0 := hA
  obtain ⟨hA14, hX, hj⟩ := hA
  unfold f_X6_undo f_X7_undo
  by_cases q : A = 0
  · subst q
    rw [if_pos (show nI 0 = 0 from rfl), if_pos (show nI 0 = 0 from rfl)]
    exact ⟨_, _, _, _, _, _, _, 0, X, rfl, rfl, hM, hA0⟩
  · obtain ⟨A, rfl⟩ : ∃ a, A = a + 1 := ⟨A - 1, by omega⟩
    have hz : ¬ nI (A + 1) = 0 := nI_ne0 (by omega) (by omega)
    have hm : jrem (nI X + 13) 14 = nI ((X + 13) % 14) := by
      rw [show nI X + 13 = nI (X + 13) from nI_add X 13]
      exact jrem_n (b := 14) (by omega) (by decide) (by decide)
    rw [if_neg hz, if_neg hz, nz14, nI_pred, hm]
    unfold f_X0_takeBack
    rw [if_neg (show ¬ nI (A + 1) ≤ 0 from nI_nle (by omega) (by omega)), nI_pred, rdx_n (n := 14) (by omega) (by decide)]
    unfold f_X1_become
    rw [Option.bind_some, Option.bind_some]
    have hloop : loopN (g_X7_undo_36 (nI A) (nI ((X + 13) % 14)) row) 100 (0, now) = some (nI A, va_cpy row now (17 * ((X + 13) % 14)) 0 17, nI A, nI ((X + 13) % 14)) := by
      refine loop1 (st := g_X7_undo_36 (nI A) (nI ((X + 13) % 14)) row) 17 (fun i s => s = (nI i, va_cpy row now (17 * ((X + 13) % 14)) 0 i)) (fun o => o = some (nI A, va_cpy row now (17 * ((X + 13) % 14)) 0 17, nI A, nI ((X + 13) % 14))) ?_ ?_ 100 0 _ (Nat.zero_le _) (by omega) ?_
      · rintro i s hi rfl
        left
        have hlt : ¬ (17 : Int32) ≤ nI i := lt_le (b := 17) hi (by decide)
        refine ⟨_, rfl, fun k => ?_⟩
        simp only [g_X7_undo_36, f_X7_undo_36, if_neg hlt, n17, nI_add, rd238 (show 17 * ((X + 13) % 14) + i < 238 by omega), ix34 (show i < 34 by omega), cl_n (show i < 2 ^ 31 by omega), nI_1]
        rw [← cpyS, Nat.zero_add]
      · rintro s rfl k
        simp only [g_X7_undo_36, f_X7_undo_36, if_pos (show (17 : Int32) ≤ nI 17 from Int32.le_refl _)]
      · rw [cpy0]; rfl
    rw [hloop]
    refine ⟨_, _, _, _, _, _, _, A, (X + 13) % 14, rfl, rfl, ?_, by omega, by omega, fun j hjA => ?_⟩
    · have h1 := hj A (by omega)
      rw [show (X + 14 - (A + 1) + A) % 14 = (X + 13) % 14 by omega] at h1
      exact h1.cong (fun i hi => ⟨cpy5 (by omega), cpy5 (by omega), cpy5 (by omega)⟩) (fun j hj => cpy_in hj) hF (Nat.le_refl C)
    · have h1 := hj j (by omega)
      rw [show (X + 14 - (A + 1) + j) % 14 = ((X + 13) % 14 + 14 - A + j) % 14 by omega] at h1
      exact h1
/-- the two slots -/
def SR (B F Lp C : Nat) (hours kind tk isk : Nat → Int32) (zp zk zl : Nat → Nat → Int32) (zo zc kept : Nat → Int32) : Prop :=
  ∀ s, s < 2 → isk s = tk s ∧ (tk s = 0 ∨ tk s = 1) ∧ (tk s = 1 → MR B F Lp C (17 * s) hours kind (zp s) (zk s) (zl s) (zo s) (zc s) kept)
variable {tk isk kept : Nat → Int32} {zp zk zl : Nat → Nat → Int32} {zo zc : Nat → Int32}
theorem SR.mono (h : SR B F Lp C hours kind tk isk zp zk zl zo zc kept) (hF : F ≤ 5) (hC : C ≤ C2) : SR B F Lp C2 hours kind tk isk zp zk zl zo zc kept := fun s hs => ⟨(h s hs).1, (h s hs).2.1, fun q => ((h s hs).2.2 q).mono hF hC⟩
theorem rd2 {α : Type} {j : Nat} (h : j < 2) (f : Nat → Int32) (k : Int32 → Option α) : rd 2 f (nI j) k = k (f j) := rd_n h (by decide) f k
theorem ix2 {α : Type} {j : Nat} (h : j < 2) (k : Option α) : ix 2 (nI j) k = k := ix_n h (by decide) k
theorem r16 {α : Type} (f : Nat → Int32) (k : Int32 → Option α) : rd 34 f 16 k = k (f 16) := rd_n (j := 16) (by decide) (by decide) f k
/-- KEEP -/
theorem x_keep (hF : F ≤ 5) (hM : MR B F Lp C 0 hours kind pl kn lf du ck now) (hS : SR B F Lp C hours kind tk isk zp zk zl zo zc kept) (x1 : Int32) :
    ∃ v tk' isk' zp' zk' zl' zo' zc' kept', f_X6_keep tk pl kn lf du ck zp zk zl zo zc x1 = some (v, tk', zp', zk', zl', zo', zc') ∧ f_X7_keep now isk kept x1 = some (v, isk', kept') ∧ SR B F Lp C hours kind tk' isk' zp' zk' zl' zo' zc' kept' := by
  unfold f_X6_keep f_X7_keep
  rcases in_cases x1 1 (by decide) 1 (by decide) with ⟨s, hs, rfl, d1, d2, d3, d4⟩ | ⟨d1, d4⟩ | ⟨d1, d2, d3, d4⟩
  · rw [d4, Option.bind_some, if_neg (show ¬ (1 : Int32) = 0 by decide), if_neg d1, if_pos (show nI s < (2 : Int32) from nI_lt (b := 2) (by omega) (by decide)), ix2 (by omega), rdx_n (n := 2) (by omega) (by decide), cl_n (by omega), nar1]
    unfold f_X1_become
    rw [Option.bind_some, ix2 (by omega)]
    have hloop : loopN (g_X7_keep_21 now (upd isk s 1) (nI s)) 100 (0, kept) = some (ck, upd isk s 1, va_cpy now kept 0 (17 * s) 17) := by
      refine loop1 (st := g_X7_keep_21 now (upd isk s 1) (nI s)) 17 (fun i t => t = (nI i, va_cpy now kept 0 (17 * s) i)) (fun o => o = some (ck, upd isk s 1, va_cpy now kept 0 (17 * s) 17)) ?_ ?_ 100 0 _ (Nat.zero_le _) (by omega) ?_
      · rintro i t hi rfl
        left
        have hlt : ¬ (17 : Int32) ≤ nI i := lt_le (b := 17) hi (by decide)
        refine ⟨_, rfl, fun k => ?_⟩
        have e : now i = now (0 + i) := by rw [Nat.zero_add]
        simp only [g_X7_keep_21, f_X7_keep_21, if_neg hlt, rd34 (show i < 34 by omega), n17, nI_add, ix34 (show 17 * s + i < 34 by omega), cl_n (show 17 * s + i < 2 ^ 31 by omega), nI_1]
        rw [e, cpyS]
      · rintro t rfl k
        have h16 : now 16 = ck := by have := hM.2.2.1; rw [Nat.zero_add] at this; exact this
        simp only [g_X7_keep_21, f_X7_keep_21, f_X7_keep_50, if_pos (show (17 : Int32) ≤ nI 17 from Int32.le_refl _), r16, h16]
      · rw [cpy0]; rfl
    rw [hloop]
    refine ⟨_, _, _, _, _, _, _, _, _, rfl, rfl, fun u hu => ?_⟩
    obtain ⟨a1, a2, a3⟩ := hS u hu
    by_cases q : u = s
    · subst q
      dsimp only
      rw [upd_s, upd_s, up_s, up_s, up_s, up_s, up_s]
      exact ⟨rfl, Or.inr rfl, fun _ => hM.cong (fun i hi => ⟨cpy5 (by omega), cpy5 (by omega), cpy5 (by omega)⟩) (fun j hj => cpy_in hj) hF (Nat.le_refl C)⟩
    · dsimp only
      rw [upd_n _ _ q, upd_n _ _ q, up_n _ _ q, up_n _ _ q, up_n _ _ q, up_n _ _ q, up_n _ _ q]
      exact ⟨a1, a2, fun e => (a3 e).cong (fun i hi => ⟨rfl, rfl, rfl⟩) (fun j hj => cpy_out (by omega)) hF (Nat.le_refl C)⟩
  · rw [d4, Option.bind_some, if_pos rfl, if_pos d1]
    exact ⟨_, _, _, _, _, _, _, _, _, rfl, rfl, hS⟩
  · rw [d4, Option.bind_some, if_pos rfl, if_neg d1, if_neg (show ¬ x1 < (2 : Int32) from fun q => d2 (by rw [Int32.lt_iff_toInt_lt] at q; rw [Int32.le_iff_toInt_le]; rw [show (2 : Int32).toInt = 2 by decide] at q; rw [show (nI 1).toInt = 1 by decide]; omega))]
    exact ⟨_, _, _, _, _, _, _, _, _, rfl, rfl, hS⟩
/-- AGAIN -/
theorem x_again (hF : F ≤ 5) (hM : MR B F Lp C 0 hours kind pl kn lf du ck now) (hS : SR B F Lp C hours kind tk isk zp zk zl zo zc kept) (hA : AR B F Lp C A X hours kind pls kns lfs ods cks row) (x1 : Int32) :
    ∃ v pl' kn' lf' du' ck' A' now', f_X6_again tk pl kn lf du ck zp zk zl zo zc (nI A) x1 = some (v, pl', kn', lf', du', ck', nI A') ∧ f_X7_again now (nI A) isk kept x1 = some (v, now', nI A') ∧ MR B F Lp C 0 hours kind pl' kn' lf' du' ck' now' ∧ AR B F Lp C A' X hours kind pls kns lfs ods cks row := by
  unfold f_X6_again f_X7_again
  rcases in_cases x1 1 (by decide) 1 (by decide) with ⟨s, hs, rfl, d1, d2, d3, d4⟩ | ⟨d1, d4⟩ | ⟨d1, d2, d3, d4⟩
  · obtain ⟨a1, a2, a3⟩ := hS s (by omega)
    rw [d4, Option.bind_some, if_neg (show ¬ (1 : Int32) = 0 by decide), if_neg d1, if_pos (show nI s < (2 : Int32) from nI_lt (b := 2) (by omega) (by decide)), rd2 (by omega), rd2 (by omega), a1]
    rcases a2 with q | q
    · rw [q, if_pos rfl, if_pos rfl]
      exact ⟨_, _, _, _, _, _, A, _, rfl, rfl, hM, hA⟩
    · have hK := a3 q
      rw [q, if_neg (by decide), if_neg (by decide), rdx_n (n := 2) (by omega) (by decide)]
      unfold f_X1_become f_X0_forgetAll
      rw [Option.bind_some, Option.bind_some]
      have hloop : loopN (g_X7_again_26 kept (nI s)) 100 (0, now) = some (zc s, va_cpy kept now (17 * s) 0 17, 0) := by
        refine loop1 (st := g_X7_again_26 kept (nI s)) 17 (fun i t => t = (nI i, va_cpy kept now (17 * s) 0 i)) (fun o => o = some (zc s, va_cpy kept now (17 * s) 0 17, 0)) ?_ ?_ 100 0 _ (Nat.zero_le _) (by omega) ?_
        · rintro i t hi rfl
          left
          have hlt : ¬ (17 : Int32) ≤ nI i := lt_le (b := 17) hi (by decide)
          refine ⟨_, rfl, fun k => ?_⟩
          simp only [g_X7_again_26, f_X7_again_26, if_neg hlt, n17, nI_add, rd34 (show 17 * s + i < 34 by omega), ix34 (show i < 34 by omega), cl_n (show i < 2 ^ 31 by omega), nI_1]
          rw [← cpyS, Nat.zero_add]
        · rintro t rfl k
          have h16 : va_cpy kept now (17 * s) 0 17 16 = zc s := by
            have h := cpy_in (f := kept) (g := now) (sp := 17 * s) (dp := 0) (n := 17) (j := 16) (by decide)
            rw [Nat.zero_add] at h
            rw [h]; exact hK.2.2.1
          simp only [g_X7_again_26, f_X7_again_26, f_X7_again_55, if_pos (show (17 : Int32) ≤ nI 17 from Int32.le_refl _), r16, h16]
        · rw [cpy0]; rfl
      rw [hloop]
      exact ⟨_, _, _, _, _, _, 0, _, rfl, rfl, hK.cong (fun i hi => ⟨cpy5 (by omega), cpy5 (by omega), cpy5 (by omega)⟩) (fun j hj => cpy_in hj) hF (Nat.le_refl C), hA.zero⟩
  · rw [d4, Option.bind_some, if_pos rfl, if_pos d1]
    exact ⟨_, _, _, _, _, _, A, _, rfl, rfl, hM, hA⟩
  · rw [d4, Option.bind_some, if_pos rfl, if_neg d1, if_neg (show ¬ x1 < (2 : Int32) from fun q => d2 (by rw [Int32.lt_iff_toInt_lt] at q; rw [Int32.le_iff_toInt_le]; rw [show (2 : Int32).toInt = 2 by decide] at q; rw [show (nI 1).toInt = 1 by decide]; omega))]
    exact ⟨_, _, _, _, _, _, A, _, rfl, rfl, hM, hA⟩
end ActsP
