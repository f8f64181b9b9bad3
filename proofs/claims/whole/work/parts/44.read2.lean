section Read2
variable {B F Lp T a n : Nat} {hours start first kind post error rr rf rl ri txt txt2 : Nat → Int32}
def RFin (o1 : Option (Int32 × Int32 × Int32 × Int32 × Int32 × Int32 × Int32 × Int32 × (Nat → Int32) × (Nat → Int32) × (Nat → Int32) × (Nat → Int32) × (Nat → Int32) × (Nat → Int32))) (o2 : Option (Int32 × (Nat → Int32) × (Nat → Int32) × (Nat → Int32) × (Nat → Int32) × Int32 × Int32 × Int32 × Int32 × Int32)) : Prop :=
  ∃ v p ft bw sc b fi li h st fr ki po er rr rf rl ri b2 f2 l2 at_ fa, o1 = some (v, p, ft, bw, sc, b, fi, li, h, st, fr, ki, po, er) ∧ o2 = some (v, rr, rf, rl, ri, b2, f2, l2, at_, fa) ∧ (v = -9 → ∃ B F Lp, b = nI B ∧ fi = nI F ∧ li = nI Lp ∧ b2 = nI B ∧ f2 = nI F ∧ l2 = nI Lp ∧ RD B F Lp h st fr ki po er rr rf rl ri)
theorem m_end {f : Nat} {b fi li : Int32} (hT : T ≤ 48) : loopN (g_X7_readText_71 txt2 (nI T)) (f + 1) (rr, rf, rl, ri, b, fi, li, nI T, -9) = some (-9, rr, rf, rl, ri, b, fi, li, nI T, -9) := by
  show f_X7_readText_71 txt2 (nI T) (loopN (g_X7_readText_71 txt2 (nI T)) f) rr rf rl ri b fi li (nI T) (-9) = _
  unfold f_X7_readText_71
  rw [if_pos rfl, if_pos (nI_le (Nat.le_refl T) (by omega))]
theorem m_flt {f : Nat} {b fi li x fa : Int32} (h : ¬ fa = -9) : loopN (g_X7_readText_71 txt2 (nI T)) (f + 1) (rr, rf, rl, ri, b, fi, li, x, fa) = some (fa, rr, rf, rl, ri, b, fi, li, x, fa) := by
  show f_X7_readText_71 txt2 (nI T) (loopN (g_X7_readText_71 txt2 (nI T)) f) rr rf rl ri b fi li x fa = _
  unfold f_X7_readText_71
  rw [if_neg h]
theorem m_part {f : Nat} {b fi li b' fi' li' x' y' : Int32} {r1 r2 r3 r4 : Nat → Int32} (hT : T ≤ 48) (ha : a < T) (h : f_X7_readPart rr rf rl ri b fi li txt2 (nI T) (nI a) (-9) (txt2 a) = some (r1, r2, r3, r4, b', fi', li', x', y')) :
    loopN (g_X7_readText_71 txt2 (nI T)) (f + 1) (rr, rf, rl, ri, b, fi, li, nI a, -9) = loopN (g_X7_readText_71 txt2 (nI T)) f (r1, r2, r3, r4, b', fi', li', x', y') := by
  show f_X7_readText_71 txt2 (nI T) (loopN (g_X7_readText_71 txt2 (nI T)) f) rr rf rl ri b fi li (nI a) (-9) = _
  unfold f_X7_readText_71
  rw [if_pos rfl, if_neg (lt_le ha (by omega)), rd48 (by omega), h, Option.bind_some]
theorem fin_flt {a' f : Nat} {p ft bw sc b fi li b' fi' li' x' : Int32} {h st fr ki po er r1 r2 r3 r4 : Nat → Int32} (ha : a' < 2 ^ 31) (hf : 0 < f) : RFin (some (nI a', p, ft, bw, sc, b, fi, li, h, st, fr, ki, po, er)) (loopN (g_X7_readText_71 txt2 (nI T)) f (r1, r2, r3, r4, b', fi', li', x', nI a')) := by
  obtain ⟨f, rfl⟩ : ∃ k, f = k + 1 := ⟨f - 1, by omega⟩
  rw [m_flt (ne9 ha)]
  exact ⟨_, _, _, _, _, _, _, _, _, _, _, _, _, _, _, _, _, _, _, _, _, _, _, rfl, rfl, fun q => absurd q (ne9 ha)⟩
/-- a figure is due at a -/
theorem pos_cases (hT : T ≤ 48) (ht : ∀ j, j < T → txt2 j = txt j) (ha : a ≤ T) :
    ((∀ f part ft bw sc b fi li h st fr ki po er, part ≠ 0 → part ≠ 1 → loopN (g_X4_firstFault_14 txt (nI T)) (f + 1) (nI a, part, ft, bw, sc, b, fi, li, h, st, fr, ki, po, er) = some (nI a, part, ft, bw, sc, b, fi, li, h, st, fr, ki, po, er)) ∧ ∀ z, f_X7_figureOf txt2 (nI T) (nI a) (-9) z = some (0, nI a, nI a))
    ∨ ∃ g, g < 10 ∧ a < T ∧ (∀ f part ft bw sc b fi li h st fr ki po er w p' f' b' s' c1 c2 c3 h1 h2 h3 h4 h5 h6, part ≠ 0 → part ≠ 1 → (w = 0 ∨ w = 1) → f_X4_takesFigure part ft bw sc b fi li h st fr ki po er (nI g) = some (w, p', f', b', s', c1, c2, c3, h1, h2, h3, h4, h5, h6) →
        loopN (g_X4_firstFault_14 txt (nI T)) (f + 1) (nI a, part, ft, bw, sc, b, fi, li, h, st, fr, ki, po, er) = if w = 0 then some (nI a, p', f', b', s', c1, c2, c3, h1, h2, h3, h4, h5, h6) else loopN (g_X4_firstFault_14 txt (nI T)) f (nI (a + 1), p', f', b', s', c1, c2, c3, h1, h2, h3, h4, h5, h6))
      ∧ ∀ z w, f_X7_has z (nI g) = some w → f_X7_figureOf txt2 (nI T) (nI a) (-9) z = if w = 0 then some (0, nI a, nI a) else some (nI g, nI (a + 1), -9) := by
  rcases Nat.lt_or_ge a T with h | h
  · have htk : ∀ {part ft bw sc b fi li : Int32} {h st fr ki po er : Nat → Int32}, part ≠ 0 → part ≠ 1 → f_X4_takes part ft bw sc b fi li h st fr ki po er (txt a) = (f_X4_takesFigure part ft bw sc b fi li h st fr ki po er (txt a - 48)).bind (fun w4 => bz w4.1 (some (w4.1, w4.2.1, w4.2.2.1, w4.2.2.2.1, w4.2.2.2.2.1, w4.2.2.2.2.2.1, w4.2.2.2.2.2.2.1, w4.2.2.2.2.2.2.2.1, w4.2.2.2.2.2.2.2.2.1, w4.2.2.2.2.2.2.2.2.2.1, w4.2.2.2.2.2.2.2.2.2.2.1, w4.2.2.2.2.2.2.2.2.2.2.2.1, w4.2.2.2.2.2.2.2.2.2.2.2.2.1, w4.2.2.2.2.2.2.2.2.2.2.2.2.2))) := by
      intro part ft bw sc b fi li h st fr ki po er p0 p1
      unfold f_X4_takes
      rw [if_neg p0, if_neg p1]
    rcases in_cases (txt a - 48) 9 (by decide) 9 (by decide) with ⟨g, hg, eg, d1, d2, d3, d4⟩ | ⟨d1, d4⟩ | ⟨d1, d2, d3, d4⟩
    · right
      refine ⟨g, by omega, h, fun f part ft bw sc b fi li h0 st fr ki po er w p' f' b' s' c1 c2 c3 h1 h2 h3 h4 h5 h6 p0 p1 hw hf => ?_, fun z w hw => ?_⟩
      · refine c_let hT h ?_
        rw [htk p0 p1, eg, hf, Option.bind_some]
        dsimp only
        rcases hw with q | q
        · rw [q, bz0]
        · rw [q, bz1]
      · have := fig_ok (txt2 := txt2) (z := z) (w := w) hT h (by rw [ht a h]; exact d4) (by rw [ht a h, eg]; exact hw)
        rw [ht a h, eg] at this
        exact this
    · left
      refine ⟨fun f part ft bw sc b fi li h0 st fr ki po er p0 p1 => ?_, fun z => fig_bad hT h (by rw [ht a h]; exact d4)⟩
      have hw : f_X4_takes part ft bw sc b fi li h0 st fr ki po er (txt a) = some (0, part, ft, bw, sc, b, fi, li, h0, st, fr, ki, po, er) := by
        rw [htk p0 p1]
        unfold f_X4_takesFigure
        rw [if_pos d1, Option.bind_some]
        exact bz0 _
      rw [c_let hT h hw, if_pos rfl]
    · left
      refine ⟨fun f part ft bw sc b fi li h0 st fr ki po er p0 p1 => ?_, fun z => fig_bad hT h (by rw [ht a h]; exact d4)⟩
      have hw : f_X4_takes part ft bw sc b fi li h0 st fr ki po er (txt a) = some (0, part, ft, bw, sc, b, fi, li, h0, st, fr, ki, po, er) := by
        rw [htk p0 p1]
        unfold f_X4_takesFigure
        rw [if_neg d1, if_neg (show ¬ txt a - 48 ≤ (9 : Int32) from d2), Option.bind_some]
        exact bz0 _
      rw [c_let hT h hw, if_pos rfl]
  · left
    have : a = T := by omega
    subst this
    refine ⟨fun f part ft bw sc b fi li h0 st fr ki po er p0 p1 => ?_, fun z => fig_end hT⟩
    rw [c_end hT, if_neg p1]
theorem ix15 {α : Type} {j : Nat} (h : j < 15) (k : Option α) : ix 15 (nI j) k = k := ix_n h (by decide) k
theorem ix8 {α : Type} {j : Nat} (h : j < 8) (k : Option α) : ix 8 (nI j) k = k := ix_n h (by decide) k
theorem ix4 {α : Type} {j : Nat} (h : j < 4) (k : Option α) : ix 4 (nI j) k = k := ix_n h (by decide) k
theorem n3m (a : Nat) : (3 : Int32) * nI a = nI (3 * a) := pk_mul 3 a
theorem n2m (a : Nat) : (2 : Int32) * nI a = nI (2 * a) := pk_mul 2 a
theorem np2 (a : Nat) : nI a + 2 = nI (a + 2) := nI_add a 2
/-! the reference's parts -/
theorem p_B {fi li v x y : Int32} (hB : B < 5) (h : f_X7_figureOf txt2 (nI T) (nI (a + 1)) (-9) 1022 = some (v, x, y)) : f_X7_readPart rr rf rl ri (nI B) fi li txt2 (nI T) (nI a) (-9) 66 = some (upd rr B v, rf, rl, ri, nI (B + 1), fi, li, x, y) := by
  unfold f_X7_readPart
  rw [if_pos rfl, if_neg (show ¬ (5 : Int32) ≤ nI B from lt_le (b := 5) hB (by decide)), nI_1, h, Option.bind_some, ix5 hB, cl_n (by omega), nI_1]
theorem p_F {li v2 v3 x1 y1 x2 y2 x3 y3 rm : Int32} {g : Nat} (hF : F < 5) (hg : g < 5) (hrm : f_X7_roomy ri (nI B) = some rm) (h0 : ¬ rm = 0) (h1 : f_X7_figureOf txt2 (nI T) (nI (a + 1)) (-9) rm = some (nI g, x1, y1)) (h2 : f_X7_figureOf txt2 (nI T) x1 y1 1023 = some (v2, x2, y2)) (h3 : f_X7_figureOf txt2 (nI T) x2 y2 15 = some (v3, x3, y3)) :
    f_X7_readPart rr rf rl ri (nI B) (nI F) li txt2 (nI T) (nI a) (-9) 70 = some (rr, upd (upd (upd rf (3 * F) (nI g)) (3 * F + 1) v2) (3 * F + 2) v3, rl, upd ri g (ri g + 1), nI B, nI (F + 1), li, x3, y3) := by
  unfold f_X7_readPart f_X7_readPart_53
  rw [if_neg (show ¬ (70 : Int32) = 66 by decide), if_pos rfl, if_neg (show ¬ (5 : Int32) ≤ nI F from lt_le (b := 5) hF (by decide)), hrm, Option.bind_some, if_neg h0, Option.bind_some, nI_1, h1, Option.bind_some]
  dsimp only
  rw [n3m, ix15 (by omega), h2, Option.bind_some, nI_1, ix15 (by omega)]
  dsimp only
  rw [h3, Option.bind_some, np2, ix15 (by omega), rd5 hg, ix5 hg, cl_n (by omega), cl_n (by omega), cl_n (by omega), cl_n (by omega), nI_1]
theorem p_L {fi v1 v2 x1 y1 x2 y2 : Int32} (hL : Lp < 4) (hB : 0 < B) (hB5 : B ≤ 5) (h1 : f_X7_figureOf txt2 (nI T) (nI (a + 1)) (-9) (jshl 1 (nI B) - 1) = some (v1, x1, y1)) (h2 : f_X7_figureOf txt2 (nI T) x1 y1 15 = some (v2, x2, y2)) :
    f_X7_readPart rr rf rl ri (nI B) fi (nI Lp) txt2 (nI T) (nI a) (-9) 76 = some (rr, rf, upd (upd rl (2 * Lp) v1) (2 * Lp + 1) v2, ri, nI B, fi, nI (Lp + 1), x2, y2) := by
  unfold f_X7_readPart f_X7_readPart_53 f_X7_readPart_167
  rw [if_neg (show ¬ (76 : Int32) = 66 by decide), if_neg (show ¬ (76 : Int32) = 70 by decide), if_pos rfl, if_neg (show ¬ (4 : Int32) ≤ nI Lp from lt_le (b := 4) hL (by decide)), if_neg (nI_nle hB (by omega)), nI_1, h1, Option.bind_some, n2m, ix8 (by omega)]
  dsimp only
  rw [h2, Option.bind_some, nI_1, ix8 (by omega), cl_n (by omega), cl_n (by omega), nI_1]
theorem nul (x : Int32) : nI 0 = 0 := rfl
set_option maxHeartbeats 1000000 in
/-- from part to part -/
theorem read_main (hT : T ≤ 48) (ht : ∀ j, j < T → txt2 j = txt j) : ∀ (m a f1 f2 : Nat) (B F Lp : Nat) (hours start first kind post error rr rf rl ri : Nat → Int32) (ft bw sc : Int32), a + m = T → m < f1 → m < f2 → RD B F Lp hours start first kind post error rr rf rl ri →
    RFin (loopN (g_X4_firstFault_14 txt (nI T)) f1 (nI a, 1, ft, bw, sc, nI B, nI F, nI Lp, hours, start, first, kind, post, error)) (loopN (g_X7_readText_71 txt2 (nI T)) f2 (rr, rf, rl, ri, nI B, nI F, nI Lp, nI a, -9)) := by
  intro m
  induction m using Nat.strongRecOn with
  | ind m ih =>
    intro a f1 f2 B F Lp hours start first kind post error rr rf rl ri ft bw sc ham hf1 hf2 hR
    obtain ⟨f1, rfl⟩ : ∃ k, f1 = k + 1 := ⟨f1 - 1, by omega⟩
    obtain ⟨f2, rfl⟩ : ∃ k, f2 = k + 1 := ⟨f2 - 1, by omega⟩
    rcases Nat.eq_zero_or_pos m with hm | hm
    · have : a = T := by omega
      subst this
      rw [c_end hT, if_pos rfl, m_end hT]
      exact ⟨_, _, _, _, _, _, _, _, _, _, _, _, _, _, _, _, _, _, _, _, _, _, _, rfl, rfl, fun _ => ⟨B, F, Lp, rfl, rfl, rfl, rfl, rfl, rfl, hR⟩⟩
    have haT : a < T := by omega
    have hR0 := hR
    obtain ⟨⟨hB, hF, hL, hLB⟩, hR2, hR3, hR4, hR5⟩ := hR
    have n10 : ¬ (1 : Int32) = 0 := by decide
    have n01 : (0 : Int32) = 0 := rfl
    have opens : ∀ {w : Int32}, (w = 0 ∨ w = 1) → f_X4_opensPart (nI B) (nI F) (nI Lp) start (txt a) = some (w, txt a, 0) → f_X4_takes 1 ft bw sc (nI B) (nI F) (nI Lp) hours start first kind post error (txt a) = some (w, txt a, 0, bw, sc, nI B, nI F, nI Lp, hours, start, first, kind, post, error) := by
      intro w hw h
      unfold f_X4_takes
      rw [if_neg n10, if_pos rfl, h, Option.bind_some]
      dsimp only
      rcases hw with q | q
      · rw [q, bz0]
      · rw [q, bz1]
    -- a fault at the letter itself
    have fault : f_X4_opensPart (nI B) (nI F) (nI Lp) start (txt a) = some (0, txt a, 0) → f_X7_readPart rr rf rl ri (nI B) (nI F) (nI Lp) txt2 (nI T) (nI a) (-9) (txt2 a) = some (rr, rf, rl, ri, nI B, nI F, nI Lp, nI a, nI a) → RFin (loopN (g_X4_firstFault_14 txt (nI T)) (f1 + 1) (nI a, 1, ft, bw, sc, nI B, nI F, nI Lp, hours, start, first, kind, post, error)) (loopN (g_X7_readText_71 txt2 (nI T)) (f2 + 1) (rr, rf, rl, ri, nI B, nI F, nI Lp, nI a, -9)) := by
      intro h1 h2
      rw [c_let hT haT (opens (Or.inl rfl) h1), if_pos rfl, m_part hT haT h2]
      exact fin_flt (by omega) (by omega)
    have htx : txt2 a = txt a := ht a haT
    by_cases c66 : txt a = 66
    · by_cases hB5 : B < 5
      · -- a bowl
        have h1 : f_X4_opensPart (nI B) (nI F) (nI Lp) start (txt a) = some (1, txt a, 0) := by
          unfold f_X4_opensPart
          rw [if_pos c66, if_neg (show ¬ (5 : Int32) ≤ nI B from lt_le (b := 5) hB5 (by decide))]
        rw [c_let hT haT (opens (Or.inr rfl) h1), if_neg n10, c66]
        obtain ⟨f1, rfl⟩ : ∃ k, f1 = k + 1 := ⟨f1 - 1, by omega⟩
        rcases pos_cases (a := a + 1) hT ht (by omega) with ⟨q1, q2⟩ | ⟨g, hg, hgT, q1, q2⟩
        · rw [q1 _ _ _ _ _ _ _ _ _ _ _ _ _ _ (by decide) (by decide), m_part hT haT (by rw [htx, c66]; exact p_B hB5 (q2 _))]
          exact fin_flt (by omega) (by omega)
        · have hh := (hasc_fin g hg).1
          by_cases g1 : 1 ≤ g
          · rw [if_pos g1] at hh
            have e := q2 _ _ hh
            rw [if_neg n10] at e
            have hk : f_X4_takesFigure 66 0 bw sc (nI B) (nI F) (nI Lp) hours start first kind post error (nI g) = some (1, 1, 0 + 1, bw, sc, nI (B + 1), nI F, nI Lp, upd hours B (nI g), start, first, kind, post, error) := by
              unfold f_X4_takesFigure f_X3_addBowl
              rw [if_neg (nI_pos (by omega)), if_pos (show nI g ≤ (9 : Int32) from nI_le (b := 9) (by omega) (by decide)), if_pos rfl, if_neg (show ¬ nI g < (1 : Int32) from nI_nlt (b := 1) (by omega) (by omega)), if_pos (show nI B < (5 : Int32) from nI_lt (b := 5) hB5 (by decide)), ix5 hB5, Option.bind_some]
              dsimp only
              rw [if_neg n10, cl_n (by omega), nI_1]
            rw [q1 _ _ _ _ _ _ _ _ _ _ _ _ _ _ _ _ _ _ _ _ _ _ _ _ _ _ _ _ (by decide) (by decide) (Or.inr rfl) hk, if_neg n10, m_part hT haT (by rw [htx, c66]; exact p_B hB5 e)]
            exact ih (m - 2) (by omega) (a + 1 + 1) _ _ _ _ _ _ _ _ _ _ _ _ _ _ _ _ _ _ (by omega) (by omega) (by omega) (hR0.addB hB5 g1 hg)
          · rw [if_neg g1] at hh
            have e := q2 _ _ hh
            rw [if_pos rfl] at e
            have hk : f_X4_takesFigure 66 0 bw sc (nI B) (nI F) (nI Lp) hours start first kind post error (nI g) = some (0, 1, 0 + 1, bw, sc, nI B, nI F, nI Lp, hours, start, first, kind, post, error) := by
              unfold f_X4_takesFigure
              rw [if_neg (nI_pos (by omega)), if_pos (show nI g ≤ (9 : Int32) from nI_le (b := 9) (by omega) (by decide)), if_pos rfl, if_pos (show nI g < (1 : Int32) from nI_lt (b := 1) (by omega) (by decide))]
            rw [q1 _ _ _ _ _ _ _ _ _ _ _ _ _ _ _ _ _ _ _ _ _ _ _ _ _ _ _ _ (by decide) (by decide) (Or.inl rfl) hk, if_pos rfl, m_part hT haT (by rw [htx, c66]; exact p_B hB5 e)]
            exact fin_flt (by omega) (by omega)
      · have h5 : (5 : Int32) ≤ nI B := nI_le (a := 5) (by omega) (by omega)
        refine fault ?_ ?_
        · unfold f_X4_opensPart
          rw [if_pos c66, if_pos h5]
        · unfold f_X7_readPart f_X7_readPart_53 f_X7_readPart_167 f_X7_readPart_253
          rw [htx, c66, if_pos rfl, if_pos h5, if_neg (by decide), if_neg (by decide)]
    · by_cases c70 : txt a = 70
      · by_cases hF5 : F < 5
        · have hroom := m_roomy (start := start) hB hF hR5
          have hany := c_any (start := start) hB hF
          have hX := bitsN_32 (roomP start F) hB
          have hz := bits0 (roomP start F) B
          cases hq : anyN (roomP start F) B with
          | true =>
            -- a fish
            rw [hq] at hany hz
            have hrm : ¬ nI (bitsN (roomP start F) B) = 0 := nI_ne0 (by
              rcases Nat.eq_zero_or_pos (bitsN (roomP start F) B) with z | z
              · exact absurd (hz.mp z) (by decide)
              · exact z) (by omega)
            have h1 : f_X4_opensPart (nI B) (nI F) (nI Lp) start (txt a) = some (1, txt a, 0) := by
              unfold f_X4_opensPart
              rw [if_neg c66, if_pos c70, if_neg (show ¬ (5 : Int32) ≤ nI F from lt_le (b := 5) hF5 (by decide)), hany, Option.bind_some, if_pos rfl, if_neg n10]
            rw [c_let hT haT (opens (Or.inr rfl) h1), if_neg n10, c70]
            obtain ⟨f1, rfl⟩ : ∃ k, f1 = k + 1 := ⟨f1 - 1, by omega⟩
            rcases pos_cases (a := a + 1) hT ht (by omega) with ⟨q1, q2⟩ | ⟨g, hg, hgT, q1, q2⟩
            · rw [q1 _ _ _ _ _ _ _ _ _ _ _ _ _ _ (by decide) (by decide), m_part hT haT (by rw [htx, c70]; exact p_F (g := 0) hF5 (by decide) hroom hrm (q2 _) (fig_flt (ne9 (by omega))) (fig_flt (ne9 (by omega))))]
              exact fin_flt (by omega) (by omega)
            · have hh := has_fin _ hX g hg
              rw [testB] at hh
              have hcr := c_room (start := start) hB hF hg
              cases hok : (decide (g < B) && roomP start F g) with
              | false =>
                rw [hok] at hh hcr
                have e := q2 _ _ hh
                rw [if_neg (show ¬ false = true by decide), if_pos rfl] at e
                have hk : f_X4_takesFigure 70 0 bw sc (nI B) (nI F) (nI Lp) hours start first kind post error (nI g) = some (0, 70, 0 + 1, nI g, sc, nI B, nI F, nI Lp, hours, start, first, kind, post, error) := by
                  unfold f_X4_takesFigure f_X4_takesFishFigure
                  rw [if_neg (nI_pos (by omega)), if_pos (show nI g ≤ (9 : Int32) from nI_le (b := 9) (by omega) (by decide)), if_neg (show ¬ (70 : Int32) = 66 by decide), if_pos rfl, if_pos (show (0 : Int32) + 1 = 1 by decide), hcr, Option.bind_some, if_neg (show ¬ false = true by decide), bz0, Option.bind_some]
                  exact bz0 _
                rw [q1 _ _ _ _ _ _ _ _ _ _ _ _ _ _ _ _ _ _ _ _ _ _ _ _ _ _ _ _ (by decide) (by decide) (Or.inl rfl) hk, if_pos rfl, m_part hT haT (by rw [htx, c70]; exact p_F (g := 0) hF5 (by decide) hroom hrm e (fig_flt (ne9 (by omega))) (fig_flt (ne9 (by omega))))]
                exact fin_flt (by omega) (by omega)
              | true =>
                have hgB : g < B := by
                  rw [Bool.and_eq_true] at hok
                  exact of_decide_eq_true hok.1
                rw [hok] at hh hcr
                have e := q2 _ _ hh
                rw [if_pos rfl, if_neg n10] at e
                have hk : f_X4_takesFigure 70 0 bw sc (nI B) (nI F) (nI Lp) hours start first kind post error (nI g) = some (1, 70, 0 + 1, nI g, sc, nI B, nI F, nI Lp, hours, start, first, kind, post, error) := by
                  unfold f_X4_takesFigure f_X4_takesFishFigure
                  rw [if_neg (nI_pos (by omega)), if_pos (show nI g ≤ (9 : Int32) from nI_le (b := 9) (by omega) (by decide)), if_neg (show ¬ (70 : Int32) = 66 by decide), if_pos rfl, if_pos (show (0 : Int32) + 1 = 1 by decide), hcr, Option.bind_some, if_pos rfl, bz1, Option.bind_some]
                  exact bz1 _
                rw [q1 _ _ _ _ _ _ _ _ _ _ _ _ _ _ _ _ _ _ _ _ _ _ _ _ _ _ _ _ (by decide) (by decide) (Or.inr rfl) hk, if_neg n10]
                obtain ⟨f1, rfl⟩ : ∃ k, f1 = k + 1 := ⟨f1 - 1, by omega⟩
                rcases pos_cases (a := a + 1 + 1) hT ht (by omega) with ⟨r1, r2⟩ | ⟨s, hs, hsT, r1, r2⟩
                · rw [r1 _ _ _ _ _ _ _ _ _ _ _ _ _ _ (by decide) (by decide), m_part hT haT (by rw [htx, c70]; exact p_F hF5 (by omega) hroom hrm e (r2 _) (fig_flt (ne9 (by omega))))]
                  exact fin_flt (by omega) (by omega)
                · have hh2 := (hasc_fin s hs).2.1
                  have e2 := r2 _ _ hh2
                  rw [if_neg n10] at e2
                  have hk2 : f_X4_takesFigure 70 (0 + 1) (nI g) sc (nI B) (nI F) (nI Lp) hours start first kind post error (nI s) = some (1, 70, 0 + 1 + 1, nI g, nI s, nI B, nI F, nI Lp, hours, start, first, kind, post, error) := by
                    unfold f_X4_takesFigure f_X4_takesFishFigure
                    rw [if_neg (nI_pos (by omega)), if_pos (show nI s ≤ (9 : Int32) from nI_le (b := 9) (by omega) (by decide)), if_neg (show ¬ (70 : Int32) = 66 by decide), if_pos rfl, if_neg (show ¬ (0 : Int32) + 1 + 1 = 1 by decide), if_pos (show (0 : Int32) + 1 + 1 = 2 by decide), Option.bind_some]
                    exact bz1 _
                  rw [r1 _ _ _ _ _ _ _ _ _ _ _ _ _ _ _ _ _ _ _ _ _ _ _ _ _ _ _ _ (by decide) (by decide) (Or.inr rfl) hk2, if_neg n10]
                  obtain ⟨f1, rfl⟩ : ∃ k, f1 = k + 1 := ⟨f1 - 1, by omega⟩
                  rcases pos_cases (a := a + 1 + 1 + 1) hT ht (by omega) with ⟨u1, u2⟩ | ⟨k, hk10, hkT, u1, u2⟩
                  · rw [u1 _ _ _ _ _ _ _ _ _ _ _ _ _ _ (by decide) (by decide), m_part hT haT (by rw [htx, c70]; exact p_F hF5 (by omega) hroom hrm e e2 (u2 _))]
                    exact fin_flt (by omega) (by omega)
                  · have hh3 := (hasc_fin k hk10).2.2
                    by_cases k3 : k ≤ 3
                    · rw [if_pos k3] at hh3
                      have e3 := u2 _ _ hh3
                      rw [if_neg n10] at e3
                      have hk3 : f_X4_takesFigure 70 (0 + 1 + 1) (nI g) (nI s) (nI B) (nI F) (nI Lp) hours start first kind post error (nI k) = some (1, 1, 0 + 1 + 1 + 1, nI g, nI s, nI B, nI (F + 1), nI Lp, hours, upd start F (nI g), upd first F (nI s), upd kind F (nI k), post, error) := by
                        unfold f_X4_takesFigure f_X4_takesFishFigure f_X3_addFish
                        rw [if_neg (nI_pos (by omega)), if_pos (show nI k ≤ (9 : Int32) from nI_le (b := 9) (by omega) (by decide)), if_neg (show ¬ (70 : Int32) = 66 by decide), if_pos rfl, if_neg (show ¬ (0 : Int32) + 1 + 1 + 1 = 1 by decide), if_neg (show ¬ (0 : Int32) + 1 + 1 + 1 = 2 by decide), if_neg (show ¬ (3 : Int32) < nI k from nI_nlt (a := 3) k3 (by decide)), if_pos (show nI F < (5 : Int32) from nI_lt (b := 5) hF5 (by decide)), ix5 hF5, ix5 hF5, ix5 hF5, Option.bind_some, cl_n (by omega), nI_1]
                        dsimp only
                        rw [if_neg n10, Option.bind_some]
                        exact bz1 _
                      rw [u1 _ _ _ _ _ _ _ _ _ _ _ _ _ _ _ _ _ _ _ _ _ _ _ _ _ _ _ _ (by decide) (by decide) (Or.inr rfl) hk3, if_neg n10, m_part hT haT (by rw [htx, c70]; exact p_F hF5 (by omega) hroom hrm e e2 e3)]
                      exact ih (m - 4) (by omega) (a + 1 + 1 + 1 + 1) _ _ _ _ _ _ _ _ _ _ _ _ _ _ _ _ _ _ (by omega) (by omega) (by omega) (hR0.addF hF5 hgB hs)
                    · rw [if_neg k3] at hh3
                      have e3 := u2 _ _ hh3
                      rw [if_pos rfl] at e3
                      have hk3 : f_X4_takesFigure 70 (0 + 1 + 1) (nI g) (nI s) (nI B) (nI F) (nI Lp) hours start first kind post error (nI k) = some (0, 1, 0 + 1 + 1 + 1, nI g, nI s, nI B, nI F, nI Lp, hours, start, first, kind, post, error) := by
                        unfold f_X4_takesFigure f_X4_takesFishFigure
                        rw [if_neg (nI_pos (by omega)), if_pos (show nI k ≤ (9 : Int32) from nI_le (b := 9) (by omega) (by decide)), if_neg (show ¬ (70 : Int32) = 66 by decide), if_pos rfl, if_neg (show ¬ (0 : Int32) + 1 + 1 + 1 = 1 by decide), if_neg (show ¬ (0 : Int32) + 1 + 1 + 1 = 2 by decide), if_pos (show (3 : Int32) < nI k from nI_lt (a := 3) (by omega) (by omega)), Option.bind_some]
                        exact bz0 _
                      rw [u1 _ _ _ _ _ _ _ _ _ _ _ _ _ _ _ _ _ _ _ _ _ _ _ _ _ _ _ _ (by decide) (by decide) (Or.inl rfl) hk3, if_pos rfl, m_part hT haT (by rw [htx, c70]; exact p_F hF5 (by omega) hroom hrm e e2 e3)]
                      exact fin_flt (by omega) (by omega)
          | false =>
            rw [hq] at hany
            have hz0 : nI (bitsN (roomP start F) B) = 0 := by rw [hz.mpr hq]; rfl
            refine fault ?_ ?_
            · unfold f_X4_opensPart
              rw [if_neg c66, if_pos c70, if_neg (show ¬ (5 : Int32) ≤ nI F from lt_le (b := 5) hF5 (by decide)), hany, Option.bind_some, if_neg (show ¬ false = true by decide), if_pos rfl]
            · unfold f_X7_readPart f_X7_readPart_53 f_X7_readPart_167 f_X7_readPart_253
              rw [htx, c70, if_neg (show ¬ (70 : Int32) = 66 by decide), if_pos rfl, if_neg (show ¬ (5 : Int32) ≤ nI F from lt_le (b := 5) hF5 (by decide)), hroom, Option.bind_some, if_pos hz0, if_neg (show ¬ (70 : Int32) = 76 by decide)]
        · have h5 : (5 : Int32) ≤ nI F := nI_le (a := 5) (by omega) (by omega)
          refine fault ?_ ?_
          · unfold f_X4_opensPart
            rw [if_neg c66, if_pos c70, if_pos h5]
          · unfold f_X7_readPart f_X7_readPart_53 f_X7_readPart_167 f_X7_readPart_253
            rw [htx, c70, if_neg (show ¬ (70 : Int32) = 66 by decide), if_pos rfl, if_pos h5, if_neg (show ¬ (70 : Int32) = 76 by decide)]
      · by_cases c76 : txt a = 76
        · by_cases hL4 : Lp < 4
          · by_cases hB0 : 0 < B
            · -- a lip
              have h1 : f_X4_opensPart (nI B) (nI F) (nI Lp) start (txt a) = some (1, txt a, 0) := by
                unfold f_X4_opensPart
                rw [if_neg c66, if_neg c70, if_pos c76, if_neg (show ¬ (4 : Int32) ≤ nI Lp from lt_le (b := 4) hL4 (by decide)), if_neg (nI_nle hB0 (by omega))]
              rw [c_let hT haT (opens (Or.inr rfl) h1), if_neg n10, c76]
              obtain ⟨f1, rfl⟩ : ∃ k, f1 = k + 1 := ⟨f1 - 1, by omega⟩
              rcases pos_cases (a := a + 1) hT ht (by omega) with ⟨q1, q2⟩ | ⟨g, hg, hgT, q1, q2⟩
              · rw [q1 _ _ _ _ _ _ _ _ _ _ _ _ _ _ (by decide) (by decide), m_part hT haT (by rw [htx, c76]; exact p_L hL4 hB0 hB (q2 _) (fig_flt (ne9 (by omega))))]
                exact fin_flt (by omega) (by omega)
              · obtain ⟨hh, hbw⟩ := hasl_fin B (by omega) g hg
                by_cases hgB : g < B
                · rw [if_pos hgB] at hh hbw
                  have e := q2 _ _ hh
                  rw [if_neg n10] at e
                  have hk : f_X4_takesFigure 76 0 bw sc (nI B) (nI F) (nI Lp) hours start first kind post error (nI g) = some (1, 76, 0 + 1, nI g, sc, nI B, nI F, nI Lp, hours, start, first, kind, post, error) := by
                    unfold f_X4_takesFigure f_X4_takesLipFigure
                    rw [if_neg (nI_pos (by omega)), if_pos (show nI g ≤ (9 : Int32) from nI_le (b := 9) (by omega) (by decide)), if_neg (show ¬ (76 : Int32) = 66 by decide), if_neg (show ¬ (76 : Int32) = 70 by decide), if_pos (show (0 : Int32) + 1 = 1 by decide), hbw, Option.bind_some, bz1, Option.bind_some]
                    exact bz1 _
                  rw [q1 _ _ _ _ _ _ _ _ _ _ _ _ _ _ _ _ _ _ _ _ _ _ _ _ _ _ _ _ (by decide) (by decide) (Or.inr rfl) hk, if_neg n10]
                  obtain ⟨f1, rfl⟩ : ∃ k, f1 = k + 1 := ⟨f1 - 1, by omega⟩
                  rcases pos_cases (a := a + 1 + 1) hT ht (by omega) with ⟨r1, r2⟩ | ⟨k, hk10, hkT, r1, r2⟩
                  · rw [r1 _ _ _ _ _ _ _ _ _ _ _ _ _ _ (by decide) (by decide), m_part hT haT (by rw [htx, c76]; exact p_L hL4 hB0 hB e (r2 _))]
                    exact fin_flt (by omega) (by omega)
                  · have hh3 := (hasc_fin k hk10).2.2
                    by_cases k3 : k ≤ 3
                    · rw [if_pos k3] at hh3
                      have e3 := r2 _ _ hh3
                      rw [if_neg n10] at e3
                      have hk3 : f_X4_takesFigure 76 (0 + 1) (nI g) sc (nI B) (nI F) (nI Lp) hours start first kind post error (nI k) = some (1, 1, 0 + 1 + 1, nI g, sc, nI B, nI F, nI (Lp + 1), hours, start, first, kind, upd post Lp (nI g), upd error Lp (nI k)) := by
                        unfold f_X4_takesFigure f_X4_takesLipFigure f_X3_addLip
                        rw [if_neg (nI_pos (by omega)), if_pos (show nI k ≤ (9 : Int32) from nI_le (b := 9) (by omega) (by decide)), if_neg (show ¬ (76 : Int32) = 66 by decide), if_neg (show ¬ (76 : Int32) = 70 by decide), if_neg (show ¬ (0 : Int32) + 1 + 1 = 1 by decide), if_neg (show ¬ (3 : Int32) < nI k from nI_nlt (a := 3) k3 (by decide)), if_pos (show nI Lp < (4 : Int32) from nI_lt (b := 4) hL4 (by decide)), ix4 hL4, ix4 hL4, Option.bind_some, cl_n (by omega), nI_1]
                        dsimp only
                        rw [if_neg n10, Option.bind_some]
                        exact bz1 _
                      rw [r1 _ _ _ _ _ _ _ _ _ _ _ _ _ _ _ _ _ _ _ _ _ _ _ _ _ _ _ _ (by decide) (by decide) (Or.inr rfl) hk3, if_neg n10, m_part hT haT (by rw [htx, c76]; exact p_L hL4 hB0 hB e e3)]
                      exact ih (m - 3) (by omega) (a + 1 + 1 + 1) _ _ _ _ _ _ _ _ _ _ _ _ _ _ _ _ _ _ (by omega) (by omega) (by omega) (hR0.addL hL4 hgB (by omega))
                    · rw [if_neg k3] at hh3
                      have e3 := r2 _ _ hh3
                      rw [if_pos rfl] at e3
                      have hk3 : f_X4_takesFigure 76 (0 + 1) (nI g) sc (nI B) (nI F) (nI Lp) hours start first kind post error (nI k) = some (0, 1, 0 + 1 + 1, nI g, sc, nI B, nI F, nI Lp, hours, start, first, kind, post, error) := by
                        unfold f_X4_takesFigure f_X4_takesLipFigure
                        rw [if_neg (nI_pos (by omega)), if_pos (show nI k ≤ (9 : Int32) from nI_le (b := 9) (by omega) (by decide)), if_neg (show ¬ (76 : Int32) = 66 by decide), if_neg (show ¬ (76 : Int32) = 70 by decide), if_neg (show ¬ (0 : Int32) + 1 + 1 = 1 by decide), if_pos (show (3 : Int32) < nI k from nI_lt (a := 3) (by omega) (by omega)), Option.bind_some]
                        exact bz0 _
                      rw [r1 _ _ _ _ _ _ _ _ _ _ _ _ _ _ _ _ _ _ _ _ _ _ _ _ _ _ _ _ (by decide) (by decide) (Or.inl rfl) hk3, if_pos rfl, m_part hT haT (by rw [htx, c76]; exact p_L hL4 hB0 hB e e3)]
                      exact fin_flt (by omega) (by omega)
                · rw [if_neg hgB] at hh hbw
                  have e := q2 _ _ hh
                  rw [if_pos rfl] at e
                  have hk : f_X4_takesFigure 76 0 bw sc (nI B) (nI F) (nI Lp) hours start first kind post error (nI g) = some (0, 76, 0 + 1, nI g, sc, nI B, nI F, nI Lp, hours, start, first, kind, post, error) := by
                    unfold f_X4_takesFigure f_X4_takesLipFigure
                    rw [if_neg (nI_pos (by omega)), if_pos (show nI g ≤ (9 : Int32) from nI_le (b := 9) (by omega) (by decide)), if_neg (show ¬ (76 : Int32) = 66 by decide), if_neg (show ¬ (76 : Int32) = 70 by decide), if_pos (show (0 : Int32) + 1 = 1 by decide), hbw, Option.bind_some, bz0, Option.bind_some]
                    exact bz0 _
                  rw [q1 _ _ _ _ _ _ _ _ _ _ _ _ _ _ _ _ _ _ _ _ _ _ _ _ _ _ _ _ (by decide) (by decide) (Or.inl rfl) hk, if_pos rfl, m_part hT haT (by rw [htx, c76]; exact p_L hL4 hB0 hB e (fig_flt (ne9 (by omega))))]
                  exact fin_flt (by omega) (by omega)
            · have hB1 : B = 0 := by omega
              have hz : nI B ≤ 0 := by rw [hB1]; decide
              refine fault ?_ ?_
              · unfold f_X4_opensPart
                rw [if_neg c66, if_neg c70, if_pos c76, if_neg (show ¬ (4 : Int32) ≤ nI Lp from lt_le (b := 4) hL4 (by decide)), if_pos hz]
              · unfold f_X7_readPart f_X7_readPart_53 f_X7_readPart_167 f_X7_readPart_253
                rw [htx, c76, if_neg (show ¬ (76 : Int32) = 66 by decide), if_neg (show ¬ (76 : Int32) = 70 by decide), if_pos rfl, if_neg (show ¬ (4 : Int32) ≤ nI Lp from lt_le (b := 4) hL4 (by decide)), if_pos hz]
          · have h4 : (4 : Int32) ≤ nI Lp := nI_le (a := 4) (by omega) (by omega)
            refine fault ?_ ?_
            · unfold f_X4_opensPart
              rw [if_neg c66, if_neg c70, if_pos c76, if_pos h4]
            · unfold f_X7_readPart f_X7_readPart_53 f_X7_readPart_167 f_X7_readPart_253
              rw [htx, c76, if_neg (show ¬ (76 : Int32) = 66 by decide), if_neg (show ¬ (76 : Int32) = 70 by decide), if_pos rfl, if_pos h4]
        · refine fault ?_ ?_
          · unfold f_X4_opensPart
            rw [if_neg c66, if_neg c70, if_neg c76]
          · unfold f_X7_readPart f_X7_readPart_53 f_X7_readPart_167 f_X7_readPart_253
            rw [htx, if_neg c66, if_neg c70, if_neg c76]
end Read2
