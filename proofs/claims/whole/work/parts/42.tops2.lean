def anyN (p : Nat → Bool) : Nat → Bool
  | 0 => false
  | n + 1 => anyN p n || p n
theorem anyN_s (p : Nat → Bool) (n : Nat) : anyN p (n + 1) = (anyN p n || p n) := rfl
theorem anyN_of {p : Nat → Bool} {l : Nat} (h : p l = true) : ∀ {n}, l < n → anyN p n = true
  | 0, q => by omega
  | n + 1, q => by
    unfold anyN
    rcases Nat.lt_or_ge l n with r | r
    · rw [anyN_of h r, Bool.true_or]
    · have : l = n := by omega
      subst this
      rw [h, Bool.or_true]
theorem rd6 {α : Type} {j : Nat} (h : j < 6) (f : Nat → Int32) (k : Int32 → Option α) : rd 6 f (nI j) k = k (f j) := rd_n h (by decide) f k
theorem ix6 {α : Type} {j : Nat} (h : j < 6) (k : Option α) : ix 6 (nI j) k = k := ix_n h (by decide) k
theorem ix48 {α : Type} {j : Nat} (h : j < 48) (k : Option α) : ix 48 (nI j) k = k := ix_n h (by decide) k
theorem rd48 {α : Type} {j : Nat} (h : j < 48) (f : Nat → Int32) (k : Int32 → Option α) : rd 48 f (nI j) k = k (f j) := rd_n h (by decide) f k
section Tops2
variable {B F Lp C A X S T i j l n : Nat} {hours first kind post error round first2 kind2 begins error2 : Nat → Int32} {pl kn lf now row : Nat → Int32} {du ck : Int32} {sp sa sp2 sa2 txt txt2 : Nat → Int32}
/-- AHEAD -/
theorem x_aheads (hP : PR B F Lp hours first kind post error round first2 kind2 begins error2) (hM : MR B F Lp C 0 hours kind pl kn lf du ck now) (hC : C + 30 ≤ 1000) (g1 g2 g3 : Nat → Int32) (z1 z2 x1 x2 : Int32) :
    ∃ v r now1, f_X6_ahead (nI B) (nI F) (nI Lp) hours first kind post error pl kn lf du ck g1 g2 g3 z1 z2 x1 x2 = some (v, r) ∧ f_X7_ahead (nI B) (nI F) (nI Lp) round first2 kind2 begins error2 now x1 x2 = some (v, now1) ∧ FrN (17 * 1) now now1 := by
  have n10 : ¬ (1 : Int32) = 0 := by decide
  unfold f_X6_ahead f_X7_ahead
  rcases is_cases hP.F5 x1 with ⟨i, hi, rfl, a1, a2⟩ | ⟨-, a1, a2⟩
  · rw [a1, a2, Option.bind_some, Option.bind_some, if_neg n10, if_neg n10]
    rcases in_cases x2 20 (by decide) 20 (by decide) with ⟨n, hn, rfl, d1, d2, d3, d4⟩ | ⟨d1, d4⟩ | ⟨d1, d2, d3, d4⟩
    · rw [d4, Option.bind_some, if_neg n10, if_neg d1, if_pos (show nI n ≤ (20 : Int32) from d2)]
      obtain ⟨v, now1, r1, r2, r3⟩ := x_ahead hP hM hn (by omega) hi
      obtain ⟨⟨p1, p2, p3, p4, p5⟩, r4⟩ := r3 g1 g2 g3
      rw [r1, r4, Option.bind_some]
      exact ⟨_, _, _, rfl, rfl, r2⟩
    · rw [d4, Option.bind_some, if_pos rfl, if_pos d1]; exact ⟨_, _, _, rfl, rfl, FrN.rf⟩
    · rw [d4, Option.bind_some, if_pos rfl, if_neg d1, if_neg (show ¬ x2 ≤ (20 : Int32) from d2)]; exact ⟨_, _, _, rfl, rfl, FrN.rf⟩
  · rw [a1, a2, Option.bind_some, Option.bind_some, if_pos rfl, if_pos rfl]; exact ⟨_, _, _, rfl, rfl, FrN.rf⟩
/-- LOST -/
theorem x_losts (hP : PR B F Lp hours first kind post error round first2 kind2 begins error2) (hM : MR B F Lp C 0 hours kind pl kn lf du ck now) (hC : C + 30 ≤ 1000) (g1 g2 g3 : Nat → Int32) (z1 z2 x1 : Int32) :
    ∃ v r now1, f_X6_lost (nI B) (nI F) (nI Lp) hours first kind post error pl kn lf du ck g1 g2 g3 z1 z2 x1 = some (v, r) ∧ f_X7_lost (nI B) (nI F) (nI Lp) round first2 kind2 begins error2 now x1 = some (v, now1) ∧ FrN (17 * 1) now now1 := by
  have n10 : ¬ (1 : Int32) = 0 := by decide
  unfold f_X6_lost f_X7_lost
  rcases is_cases hP.F5 x1 with ⟨i, hi, rfl, a1, a2⟩ | ⟨-, a1, a2⟩
  · rw [a1, a2, Option.bind_some, Option.bind_some, if_neg n10, if_neg n10]
    obtain ⟨v, now1, r1, r2, r3⟩ := x_lost hP hM (by omega) hi
    obtain ⟨⟨p1, p2, p3, p4, p5⟩, r4⟩ := r3 g1 g2 g3
    rw [r1, r4, Option.bind_some]
    exact ⟨_, _, _, rfl, rfl, r2⟩
  · rw [a1, a2, Option.bind_some, Option.bind_some, if_pos rfl, if_pos rfl]; exact ⟨_, _, _, rfl, rfl, FrN.rf⟩
/-- CREW -/
theorem x_crews (hP : PR B F Lp hours first kind post error round first2 kind2 begins error2) (hM : MR B F Lp C 0 hours kind pl kn lf du ck now) (hC : C + 30 ≤ 1000) (kept0 g1 g2 g3 : Nat → Int32) (z1 z2 : Int32) :
    ∃ v r now1, f_X6_crew (nI B) (nI F) (nI Lp) hours first kind post error pl kn lf du ck kept0 g1 g2 g3 z1 z2 = some (v, r) ∧ f_X7_crew (nI B) (nI F) (nI Lp) round first2 kind2 begins error2 now = some (v, now1) ∧ FrN (17 * 1) now now1 := by
  unfold f_X6_crew
  obtain ⟨v, ⟨p1, p2, p3, p4, p5, p6⟩, now1, r1, r2, r3⟩ := x_crew hP hM (by omega) kept0 g1 g2 g3 z1 z2
  rw [r1, Option.bind_some]
  exact ⟨_, _, _, rfl, r2, r3⟩
/-- KEEPS -/
theorem x_keeps (hP : PR B F Lp hours first kind post error round first2 kind2 begins error2) (hM : MR B F Lp C 0 hours kind pl kn lf du ck now) (hC : C + 30 ≤ 1000) (kept0 g1 g2 g3 oft : Nat → Int32) (z1 z2 x1 x2 : Int32) :
    ∃ v r now1 oft1, f_X6_keeps (nI B) (nI F) (nI Lp) hours first kind post error pl kn lf du ck kept0 g1 g2 g3 z1 z2 x1 x2 = some (v, r) ∧ f_X7_keeps (nI B) (nI F) (nI Lp) round first2 kind2 begins error2 now oft x1 x2 = some (v, now1, oft1) ∧ FrN (17 * 1) now now1 := by
  have n10 : ¬ (1 : Int32) = 0 := by decide
  unfold f_X6_keeps f_X7_keeps
  rcases is_cases hP.F5 x1 with ⟨i, hi, rfl, a1, a2⟩ | ⟨-, a1, a2⟩
  · rw [a1, a2, Option.bind_some, Option.bind_some, if_neg n10, if_neg n10]
    rcases bowl_cases hP.B5 x2 with ⟨b, hb, rfl, b1, b2⟩ | ⟨-, b1, b2⟩
    · rw [b1, b2, Option.bind_some, Option.bind_some, if_neg n10, if_neg n10]
      obtain ⟨v, hv, r1, r3⟩ := x_keptIn hP hM (by omega) hi hb
      obtain ⟨now1, oft1, r1, r2⟩ := r1 oft
      obtain ⟨⟨p1, p2, p3, p4, p5, p6⟩, r4⟩ := r3 kept0 g1 g2 g3
      rw [r1, r4, Option.bind_some, Option.bind_some]
      exact ⟨_, _, _, _, rfl, rfl, r2⟩
    · rw [b1, b2, Option.bind_some, Option.bind_some, if_pos rfl, if_pos rfl]; exact ⟨_, _, _, _, rfl, rfl, FrN.rf⟩
  · rw [a1, a2, Option.bind_some, Option.bind_some, if_pos rfl, if_pos rfl]; exact ⟨_, _, _, _, rfl, rfl, FrN.rf⟩
/-- BEST -/
theorem x_bests (hP : PR B F Lp hours first kind post error round first2 kind2 begins error2) (hM : MR B F Lp C 0 hours kind pl kn lf du ck now) (hC : C + 30 ≤ 1000) (kept0 g1 g2 g3 oft : Nat → Int32) (z1 z2 x1 : Int32) :
    ∃ v r now1 oft1, f_X6_best (nI B) (nI F) (nI Lp) hours first kind post error pl kn lf du ck kept0 g1 g2 g3 z1 z2 x1 = some (v, r) ∧ f_X7_best (nI B) (nI F) (nI Lp) round first2 kind2 begins error2 now oft x1 = some (v, now1, oft1) ∧ FrN (17 * 1) now now1 := by
  have n10 : ¬ (1 : Int32) = 0 := by decide
  unfold f_X6_best f_X7_best
  rcases is_cases hP.F5 x1 with ⟨i, hi, rfl, a1, a2⟩ | ⟨-, a1, a2⟩
  · rw [a1, a2, Option.bind_some, Option.bind_some, if_neg n10, if_neg n10]
    obtain ⟨v, ⟨p1, p2, p3, p4, p5, p6⟩, now1, oft1, r1, r2, r3⟩ := x_best hP hM (by omega) hi kept0 g1 g2 g3 oft z1 z2
    rw [r1, r2, Option.bind_some]
    exact ⟨_, _, _, _, rfl, rfl, r3⟩
  · rw [a1, a2, Option.bind_some, Option.bind_some, if_pos rfl, if_pos rfl]; exact ⟨_, _, _, _, rfl, rfl, FrN.rf⟩
/-- what was said -/
def SY (S : Nat) (sp sa sp2 sa2 : Nat → Int32) : Prop := S ≤ 6 ∧ ∀ j, j < S → sp2 j = sp j ∧ sa2 j = sa j
/-- SAY -/
theorem x_say (hF : F ≤ 5) (hS : SY S sp sa sp2 sa2) (x1 x2 : Int32) : ∃ v S' sp' sa' sp2' sa2', f_X6_say sp sa (nI S) (nI F) x1 x2 = some (v, sp', sa', nI S') ∧ f_X7_say (nI F) (nI S) sp2 sa2 x1 x2 = some (v, nI S', sp2', sa2') ∧ SY S' sp' sa' sp2' sa2' := by
  have n10 : ¬ (1 : Int32) = 0 := by decide
  have hS0 := hS
  obtain ⟨hS6, hj⟩ := hS
  unfold f_X6_say f_X7_say
  rcases is_cases hF x1 with ⟨i, hi, rfl, a1, a2⟩ | ⟨-, a1, a2⟩
  · rw [a1, a2, Option.bind_some, Option.bind_some, if_neg n10, if_neg n10]
    rcases in_cases x2 9 (by decide) 9 (by decide) with ⟨s, hs, rfl, d1, d2, d3, d4⟩ | ⟨d1, d4⟩ | ⟨d1, d2, d3, d4⟩
    · rw [d4, Option.bind_some, if_neg n10, if_neg d1, if_pos (show nI s ≤ (9 : Int32) from d2)]
      unfold f_X5_add
      by_cases q : S = 6
      · subst q
        rw [if_neg (show ¬ nI 6 < (6 : Int32) by decide), if_pos (show nI 6 = (6 : Int32) from rfl), Option.bind_some]
        exact ⟨_, 6, _, _, _, _, rfl, rfl, hS0⟩
      · rw [if_pos (show nI S < (6 : Int32) from nI_lt (b := 6) (by omega) (by decide)), if_neg (show ¬ nI S = (6 : Int32) from fun e => q ((nI_eq (b := 6) (by omega) (by decide)).mp e)), ix6 (by omega), ix6 (by omega), ix6 (by omega), ix6 (by omega), cl_n (by omega), nI_1, Option.bind_some]
        refine ⟨_, S + 1, _, _, _, _, rfl, rfl, by omega, fun j hj1 => ?_⟩
        dsimp only
        by_cases e : j = S
        · subst e
          rw [upd_s, upd_s, upd_s, upd_s]; exact ⟨rfl, rfl⟩
        · rw [upd_n _ _ e, upd_n _ _ e, upd_n _ _ e, upd_n _ _ e]; exact hj j (by omega)
    · rw [d4, Option.bind_some, if_pos rfl, if_pos d1]; exact ⟨_, S, _, _, _, _, rfl, rfl, hS0⟩
    · rw [d4, Option.bind_some, if_pos rfl, if_neg d1, if_neg (show ¬ x2 ≤ (9 : Int32) from d2)]; exact ⟨_, S, _, _, _, _, rfl, rfl, hS0⟩
  · rw [a1, a2, Option.bind_some, Option.bind_some, if_pos rfl, if_pos rfl]; exact ⟨_, S, _, _, _, _, rfl, rfl, hS0⟩
theorem x_may (hP : PR B F Lp hours first kind post error round first2 kind2 begins error2) (x v : Int32) : ∃ w : Int32, (w = 0 ∨ w = 1) ∧ f_X5_mayCome (nI Lp) error x v = some w ∧ f_X7_mayCome (nI Lp) error2 x v = some w := by
  have hL := hP.L4
  have c1 : f_X5_mayCome (nI Lp) error x v = some (if anyN (fun l => decide (jrem (x + error l) 10 = v)) Lp then 1 else 0) := by
    unfold f_X5_mayCome
    refine loop1 (st := g_X5_mayCome_2 (nI Lp) error x v) Lp (fun l s => s = nI l ∧ anyN (fun l => decide (jrem (x + error l) 10 = v)) l = false) (fun o => o = some (if anyN (fun l => decide (jrem (x + error l) 10 = v)) Lp then 1 else 0)) ?_ ?_ 100 0 _ (Nat.zero_le _) (by omega) ⟨rfl, rfl⟩
    · rintro l s hl ⟨e, h⟩
      subst e
      have hlt := lt_le hl (show Lp < 2 ^ 31 by omega)
      by_cases q : jrem (x + error l) 10 = v
      · right
        intro k
        rw [anyN_of (l := l) (by exact decide_eq_true q) hl, if_pos rfl]
        simp only [g_X5_mayCome_2, f_X5_mayCome_2, if_neg hlt, rd4 (show l < 4 by omega), nz10, if_pos q]
      · left
        refine ⟨nI (l + 1), ⟨rfl, ?_⟩, fun k => ?_⟩
        · unfold anyN; rw [h, Bool.false_or]; exact decide_eq_false q
        · simp only [g_X5_mayCome_2, f_X5_mayCome_2, if_neg hlt, rd4 (show l < 4 by omega), nz10, if_neg q, nI_1]
    · rintro s ⟨e, h⟩ k
      subst e
      have hle := nI_le (Nat.le_refl Lp) (show Lp < 2 ^ 31 by omega)
      rw [h]
      simp only [g_X5_mayCome_2, f_X5_mayCome_2, if_pos hle]; rfl
  have c2 : f_X7_mayCome (nI Lp) error2 x v = some (if anyN (fun l => decide (jrem (x + error l) 10 = v)) Lp then 1 else 0) := by
    unfold f_X7_mayCome
    refine loop1 (st := g_X7_mayCome_5 (nI Lp) error2 x v) Lp (fun l s => s = ((if anyN (fun l => decide (jrem (x + error l) 10 = v)) l then 1 else 0), nI l)) (fun o => o = some (if anyN (fun l => decide (jrem (x + error l) 10 = v)) Lp then 1 else 0)) ?_ ?_ 100 0 _ (Nat.zero_le _) (by omega) rfl
    · rintro l s hl e
      subst e
      left
      have hlt := lt_le hl (show Lp < 2 ^ 31 by omega)
      have he := (hP.2.2.2 l hl).2.1
      refine ⟨_, rfl, fun k => ?_⟩
      rw [anyN_s]
      cases ha : anyN (fun l => decide (jrem (x + error l) 10 = v)) l with
      | true => simp only [g_X7_mayCome_5, f_X7_mayCome_5, f_X7_mayCome_34, f_X7_mayCome_39, if_neg hlt, if_true, if_neg (show ¬ (1 : Int32) = 0 by decide), Bool.true_or, nI_1]
      | false =>
        by_cases q : jrem (x + error l) 10 = v
        · simp only [g_X7_mayCome_5, f_X7_mayCome_5, f_X7_mayCome_34, f_X7_mayCome_39, if_neg hlt, if_neg (show ¬ (false = true) by decide), if_true, rd4 (show l < 4 by omega), he, nz10, if_pos q, Bool.false_or, decide_eq_true q, nI_1]
        · simp only [g_X7_mayCome_5, f_X7_mayCome_5, f_X7_mayCome_34, f_X7_mayCome_39, if_neg hlt, if_neg (show ¬ (false = true) by decide), if_true, rd4 (show l < 4 by omega), he, nz10, if_neg q, Bool.false_or, decide_eq_false q, nI_1]
    · rintro s e k
      subst e
      have hle := nI_le (Nat.le_refl Lp) (show Lp < 2 ^ 31 by omega)
      simp only [g_X7_mayCome_5, f_X7_mayCome_5, if_pos hle]
      split
      · exact bz1 _
      · exact bz0 _
  rw [c1, c2]
  split
  · exact ⟨1, Or.inr rfl, rfl, rfl⟩
  · exact ⟨0, Or.inl rfl, rfl, rfl⟩
/-- FIRSTS -/
theorem x_firsts (hP : PR B F Lp hours first kind post error round first2 kind2 begins error2) (hS : SY S sp sa sp2 sa2) (x1 : Int32) : ∃ v, f_X6_firsts sp sa (nI S) (nI F) (nI Lp) error x1 = some v ∧ f_X7_firsts (nI F) (nI Lp) error2 (nI S) sp2 sa2 x1 = some v := by
  have n10 : ¬ (1 : Int32) = 0 := by decide
  obtain ⟨hS6, hj⟩ := hS
  unfold f_X6_firsts f_X7_firsts
  rcases is_cases hP.F5 x1 with ⟨i, hi, rfl, a1, a2⟩ | ⟨-, a1, a2⟩
  · rw [a1, a2, Option.bind_some, Option.bind_some, if_neg n10, if_neg n10]
    have key : ∃ v, f_X5_possibleFirsts sp sa (nI S) (nI Lp) error (nI i) = some v ∧ loopN (g_X7_firsts_14 (nI Lp) error2 (nI S) sp2 sa2 (nI i)) 100 (0, 0) = some v := by
      unfold f_X5_possibleFirsts
      refine loop2 (st1 := g_X5_possibleFirsts_5 sp sa (nI S) (nI Lp) error (nI i)) (st2 := g_X7_firsts_14 (nI Lp) error2 (nI S) sp2 sa2 (nI i)) 10 (fun t s1 s2 => s1 = s2 ∧ s1.2 = nI t) (fun o1 o2 => ∃ v, o1 = some v ∧ o2 = some v) ?_ ?_ 100 100 0 _ _ (Nat.zero_le _) (by omega) (by omega) ⟨rfl, rfl⟩
      · rintro t ⟨a, b⟩ s2 ht ⟨e1, e2⟩
        dsimp only at e2
        subst e1; subst e2
        left
        have h9 : ¬ (9 : Int32) < nI t := nI_nlt (b := t) (a := 9) (by omega) (by decide)
        have h10 : ¬ (10 : Int32) ≤ nI t := lt_le (b := 10) ht (by decide)
        -- the sayings, one by one
        have fit : ∃ w : Int32, (w = 0 ∨ w = 1) ∧ f_X5_fits sp sa (nI S) (nI Lp) error (nI i) (nI t) = some w ∧ ∀ k14, loopN (g_X7_firsts_26 (nI Lp) error2 (nI S) sp2 sa2 (nI i) a (nI t) k14) 100 (1, 0) = f_X7_firsts_79 k14 a (nI t) w := by
          have hmay : ∀ j, ∃ w : Int32, (w = 0 ∨ w = 1) ∧ f_X5_mayCome (nI Lp) error (nI t) (sa j) = some w ∧ f_X7_mayCome (nI Lp) error2 (nI t) (sa j) = some w := fun j => x_may hP (nI t) (sa j)
          let bad : Nat → Bool := fun j => decide (sp j = nI i ∧ f_X5_mayCome (nI Lp) error (nI t) (sa j) = some 0)
          refine ⟨if anyN bad S then 0 else 1, by split <;> simp, ?_, fun k14 => ?_⟩
          · unfold f_X5_fits
            refine loop1 (st := g_X5_fits_3 sp sa (nI S) (nI Lp) error (nI i) (nI t)) S (fun j s => s = nI j ∧ anyN bad j = false) (fun o => o = some (if anyN bad S then 0 else 1)) ?_ ?_ 100 0 _ (Nat.zero_le _) (by omega) ⟨rfl, rfl⟩
            · rintro j s hjS ⟨e, h⟩
              subst e
              have hlt := lt_le hjS (show S < 2 ^ 31 by omega)
              obtain ⟨w, hw, m1, m2⟩ := hmay j
              by_cases q : sp j = nI i
              · rcases hw with e0 | e1
                · subst e0
                  right
                  intro k
                  rw [anyN_of (p := bad) (l := j) (decide_eq_true ⟨q, m1⟩) hjS, if_pos rfl]
                  simp only [g_X5_fits_3, f_X5_fits_3, if_neg hlt, rd6 (show j < 6 by omega), if_pos q, m1, Option.bind_some, if_true]
                · subst e1
                  left
                  refine ⟨nI (j + 1), ⟨rfl, ?_⟩, fun k => ?_⟩
                  · unfold anyN; rw [h, Bool.false_or]; exact decide_eq_false (fun r => by rw [m1] at r; exact absurd (Option.some.inj r.2) n10)
                  · simp only [g_X5_fits_3, f_X5_fits_3, f_X5_fits_40, if_neg hlt, rd6 (show j < 6 by omega), if_pos q, m1, Option.bind_some, if_neg n10, nI_1]
              · left
                refine ⟨nI (j + 1), ⟨rfl, ?_⟩, fun k => ?_⟩
                · unfold anyN; rw [h, Bool.false_or]; exact decide_eq_false (fun r => q r.1)
                · simp only [g_X5_fits_3, f_X5_fits_3, f_X5_fits_40, if_neg hlt, rd6 (show j < 6 by omega), if_neg q, nI_1]
            · rintro s ⟨e, h⟩ k
              subst e
              have hle := nI_le (Nat.le_refl S) (show S < 2 ^ 31 by omega)
              rw [h]
              simp only [g_X5_fits_3, f_X5_fits_3, if_pos hle]; rfl
          · refine loop1 (st := g_X7_firsts_26 (nI Lp) error2 (nI S) sp2 sa2 (nI i) a (nI t) k14) S (fun j s => s = ((if anyN bad j then 0 else 1), nI j)) (fun o => o = f_X7_firsts_79 k14 a (nI t) (if anyN bad S then 0 else 1)) ?_ ?_ 100 0 _ (Nat.zero_le _) (by omega) rfl
            · rintro j s hjS e
              subst e
              left
              have hlt := lt_le hjS (show S < 2 ^ 31 by omega)
              obtain ⟨w, hw, m1, m2⟩ := hmay j
              obtain ⟨b1, b2⟩ := hj j hjS
              refine ⟨_, rfl, fun k => ?_⟩
              rw [anyN_s]
              cases ha : anyN bad j with
              | true => simp only [g_X7_firsts_26, f_X7_firsts_26, f_X7_firsts_70, f_X7_firsts_71, f_X7_firsts_66, if_neg hlt, if_true, Bool.true_or, nI_1]
              | false =>
                by_cases q : sp j = nI i
                · rcases hw with e0 | e1
                  · subst e0
                    have hb : bad j = true := decide_eq_true ⟨q, m1⟩
                    simp only [g_X7_firsts_26, f_X7_firsts_26, f_X7_firsts_70, f_X7_firsts_71, f_X7_firsts_66, if_neg hlt, if_neg (show ¬ (false = true) by decide), if_neg n10, rd6 (show j < 6 by omega), b1, b2, if_pos q, m2, Option.bind_some, if_true, Bool.false_or, hb, nI_1]
                  · subst e1
                    have hb : bad j = false := decide_eq_false (fun r => by rw [m1] at r; exact absurd (Option.some.inj r.2) n10)
                    simp only [g_X7_firsts_26, f_X7_firsts_26, f_X7_firsts_70, f_X7_firsts_71, f_X7_firsts_66, if_neg hlt, if_neg (show ¬ (false = true) by decide), if_neg n10, rd6 (show j < 6 by omega), b1, b2, if_pos q, m2, Option.bind_some, Bool.false_or, hb, nI_1]
                · have hb : bad j = false := decide_eq_false (fun r => q r.1)
                  simp only [g_X7_firsts_26, f_X7_firsts_26, f_X7_firsts_70, f_X7_firsts_71, f_X7_firsts_66, if_neg hlt, if_neg (show ¬ (false = true) by decide), if_neg n10, rd6 (show j < 6 by omega), b1, if_neg q, Bool.false_or, hb, nI_1]
            · rintro s e k
              subst e
              have hle := nI_le (Nat.le_refl S) (show S < 2 ^ 31 by omega)
              simp only [g_X7_firsts_26, f_X7_firsts_26, if_pos hle]
        obtain ⟨w, hw, w1, w2⟩ := fit
        rcases hw with q | q
        · subst q
          refine ⟨(a, nI (t + 1)), (a, nI (t + 1)), ⟨rfl, rfl⟩, fun k => ?_, fun k => ?_⟩
          · simp only [g_X5_possibleFirsts_5, f_X5_possibleFirsts_5, f_X5_possibleFirsts_30, if_neg h9, w1, Option.bind_some, if_true, nI_1]
          · simp only [g_X7_firsts_14, f_X7_firsts_14, if_neg h10, w2, f_X7_firsts_79, f_X7_firsts_92, if_true, or0, nI_1]
        · subst q
          refine ⟨(a ||| jshl 1 (nI t), nI (t + 1)), (a ||| jshl 1 (nI t), nI (t + 1)), ⟨rfl, rfl⟩, fun k => ?_, fun k => ?_⟩
          · simp only [g_X5_possibleFirsts_5, f_X5_possibleFirsts_5, f_X5_possibleFirsts_30, if_neg h9, w1, Option.bind_some, if_neg n10, nI_1]
          · simp only [g_X7_firsts_14, f_X7_firsts_14, if_neg h10, w2, f_X7_firsts_79, f_X7_firsts_92, if_neg n10, nI_1]
      · rintro ⟨a, b⟩ s2 ⟨e1, e2⟩ k1 k2
        dsimp only at e2
        subst e1; subst e2
        refine ⟨a, ?_, ?_⟩
        · simp only [g_X5_possibleFirsts_5, f_X5_possibleFirsts_5, if_pos (show (9 : Int32) < nI 10 by decide)]
        · simp only [g_X7_firsts_14, f_X7_firsts_14, if_pos (show (10 : Int32) ≤ nI 10 by decide)]
    obtain ⟨v, v1, v2⟩ := key
    rw [v1, v2, Option.bind_some]
    exact ⟨_, rfl, rfl⟩
  · rw [a1, a2, Option.bind_some, Option.bind_some, if_pos rfl, if_pos rfl]; exact ⟨_, rfl, rfl⟩
/-- the text -/
def TR (T : Nat) (txt txt2 : Nat → Int32) : Prop := T ≤ 48 ∧ ∀ j, j < T → txt2 j = txt j ∧ ∃ c, c < 256 ∧ txt j = nI c
/-- WRITE -/
theorem x_write (hT : TR T txt txt2) (x1 : Int32) : ∃ v T' txt' txt2', f_X6_write (nI T) txt x1 = some (v, nI T', txt') ∧ f_X7_write txt2 (nI T) x1 = some (v, txt2', nI T') ∧ TR T' txt' txt2' := by
  have n10 : ¬ (1 : Int32) = 0 := by decide
  have hT0 := hT
  obtain ⟨hT48, hj⟩ := hT
  unfold f_X6_write f_X7_write
  rcases in_cases x1 255 (by decide) 255 (by decide) with ⟨s, hs, rfl, d1, d2, d3, d4⟩ | ⟨d1, d4⟩ | ⟨d1, d2, d3, d4⟩
  · rw [d4, Option.bind_some, if_neg n10, if_neg d1, if_pos (show nI s ≤ (255 : Int32) from d2)]
    by_cases q : T = 48
    · subst q
      rw [if_neg (show ¬ nI 48 < (48 : Int32) by decide), if_pos (show nI 48 = (48 : Int32) from rfl)]
      exact ⟨_, 48, _, _, rfl, rfl, hT0⟩
    · rw [if_pos (show nI T < (48 : Int32) from nI_lt (b := 48) (by omega) (by decide)), if_neg (show ¬ nI T = (48 : Int32) from fun e => q ((nI_eq (b := 48) (by omega) (by decide)).mp e)), ix48 (by omega), ix48 (by omega), cl_n (by omega), nI_1]
      refine ⟨_, T + 1, _, _, rfl, rfl, by omega, fun j hj1 => ?_⟩
      by_cases e : j = T
      · subst e
        rw [upd_s, upd_s]; exact ⟨rfl, s, by omega, rfl⟩
      · rw [upd_n _ _ e, upd_n _ _ e]; exact hj j (by omega)
  · rw [d4, Option.bind_some, if_pos rfl, if_pos d1]; exact ⟨_, T, _, _, rfl, rfl, hT0⟩
  · rw [d4, Option.bind_some, if_pos rfl, if_neg d1, if_neg (show ¬ x1 ≤ (255 : Int32) from d2)]; exact ⟨_, T, _, _, rfl, rfl, hT0⟩
end Tops2
