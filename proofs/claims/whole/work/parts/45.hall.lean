theorem rd15 {α : Type} {j : Nat} (h : j < 15) (f : Nat → Int32) (k : Int32 → Option α) : rd 15 f (nI j) k = k (f j) := rd_n h (by decide) f k
theorem rd8 {α : Type} {j : Nat} (h : j < 8) (f : Nat → Int32) (k : Int32 → Option α) : rd 8 f (nI j) k = k (f j) := rd_n h (by decide) f k
theorem dty_fin : ∀ n, n < 5 → jshl 1 (nI n) - 1 = nI (2 ^ n - 1) ∧ 2 ^ n - 1 < 2 ^ n := by decide +kernel
section Hall
variable {B F Lp T : Nat} {h st fr ki po er rr rf rl ri txt txt2 : Nat → Int32}
theorem RD.zero (hri : ∀ b, b < 5 → ri b = 0) : RD 0 0 0 h st fr ki po er rr rf rl ri := ⟨⟨by omega, by omega, by omega, fun q => by omega⟩, fun i hi => by omega, fun i hi => by omega, fun i hi => by omega, fun b hb => hri b hb⟩
/-- the text is read -/
theorem x_read (hT : TR T txt txt2) (ft bw sc : Int32) (h st fr ki po er rr rf rl ri : Nat → Int32) : RFin (f_X4_firstFault ft bw sc h st fr ki po er txt (nI T)) (f_X7_readText rr rf rl ri txt2 (nI T)) := by
  obtain ⟨hT48, hj⟩ := hT
  have n10 : ¬ (1 : Int32) = 0 := by decide
  unfold f_X4_firstFault f_X3_clear f_X7_readText
  rw [Option.bind_some]
  refine loop1 (st := g_X7_readText_28 rr rf rl 0 0 0 txt2 (nI T) 0 (-9)) 5 (fun k s => s.1 = nI k ∧ ∀ b, b < k → s.2 b = 0) (fun o => RFin (loopN (g_X4_firstFault_14 txt (nI T)) 100 (0, 0, ft, bw, sc, 0, 0, 0, h, st, fr, ki, po, er)) o) ?_ ?_ 100 0 _ (Nat.zero_le _) (by omega) ⟨rfl, fun b hb => by omega⟩
  · rintro k ⟨x, q⟩ hk ⟨e, hq⟩
    dsimp only at e hq
    subst e
    left
    refine ⟨(nI (k + 1), upd q k 0), ⟨rfl, fun b hb => ?_⟩, fun g => ?_⟩
    · dsimp only
      by_cases e : b = k
      · subst e; rw [upd_s]
      · rw [upd_n _ _ e]; exact hq b (by omega)
    · simp only [g_X7_readText_28, f_X7_readText_28, if_neg (show ¬ (5 : Int32) ≤ nI k from lt_le (b := 5) hk (by decide)), ix5 hk, cl_n (show k < 2 ^ 31 by omega), nI_1]
  · rintro ⟨x, q⟩ ⟨e, hq⟩ g
    dsimp only at e hq
    subst e
    simp only [g_X7_readText_28, f_X7_readText_28, if_pos (show (5 : Int32) ≤ nI 5 by decide)]
    unfold f_X7_readText_46
    by_cases h0 : T = 0
    · subst h0
      rw [if_pos (show nI 0 = 0 from rfl)]
      have hc := c_end (txt := txt) (T := 0) (f := 99) (part := 0) (ft := ft) (bw := bw) (sc := sc) (b := 0) (fi := 0) (li := 0) (h := h) (st := st) (fr := fr) (ki := ki) (po := po) (er := er) (by omega)
      rw [if_neg (by decide)] at hc
      have hc' : loopN (g_X4_firstFault_14 txt (nI 0)) 100 (0, 0, ft, bw, sc, 0, 0, 0, h, st, fr, ki, po, er) = _ := hc
      rw [hc']
      exact ⟨_, _, _, _, _, _, _, _, _, _, _, _, _, _, _, _, _, _, _, _, _, _, _, rfl, rfl, fun q => absurd q (by decide)⟩
    · have hz : ¬ nI T = 0 := nI_ne0 (by omega) (by omega)
      obtain ⟨t1, -⟩ := hj 0 (by omega)
      have hrd : ∀ {α : Type} (k : Int32 → Option α), rd 48 txt2 0 k = k (txt2 0) := fun k => rd48 (j := 0) (by decide) txt2 k
      rw [if_neg hz, hrd, t1]
      by_cases c71 : txt 0 = 71
      · rw [if_pos c71]
        have hk : f_X4_takes 0 ft bw sc 0 0 0 h st fr ki po er (txt 0) = some (1, 1, ft, bw, sc, 0, 0, 0, h, st, fr, ki, po, er) := by
          unfold f_X4_takes
          rw [if_pos rfl, if_pos c71]
        have hc := c_let (txt := txt) (T := T) (a := 0) (f := 99) hT48 (by omega) hk
        rw [if_neg n10] at hc
        have hc' : loopN (g_X4_firstFault_14 txt (nI T)) 100 (0, 0, ft, bw, sc, 0, 0, 0, h, st, fr, ki, po, er) = _ := hc
        rw [hc']
        exact read_main hT48 (fun j hj1 => (hj j hj1).1) (T - 1) 1 99 100 0 0 0 h st fr ki po er rr rf rl q ft bw sc (by omega) (by omega) (by omega) (RD.zero hq)
      · rw [if_neg c71]
        have hk : f_X4_takes 0 ft bw sc 0 0 0 h st fr ki po er (txt 0) = some (0, 1, ft, bw, sc, 0, 0, 0, h, st, fr, ki, po, er) := by
          unfold f_X4_takes
          rw [if_pos rfl, if_neg c71]
        have hc := c_let (txt := txt) (T := T) (a := 0) (f := 99) hT48 (by omega) hk
        rw [if_pos rfl] at hc
        have hc' : loopN (g_X4_firstFault_14 txt (nI T)) 100 (0, 0, ft, bw, sc, 0, 0, 0, h, st, fr, ki, po, er) = _ := hc
        rw [hc']
        exact ⟨_, _, _, _, _, _, _, _, _, _, _, _, _, _, _, _, _, _, _, _, _, _, _, rfl, rfl, fun q => absurd q (by decide)⟩
/-- FAULT -/
theorem x_fault (hT : TR T txt txt2) (ft bw sc : Int32) (h st fr ki po er rr rf rl ri : Nat → Int32) : ∃ v r1 r2, f_X6_fault (nI T) txt ft bw sc h st fr ki po er = some (v, r1) ∧ f_X7_fault rr rf rl ri txt2 (nI T) = some (v, r2) := by
  obtain ⟨v, p, ft', bw', sc', b, fi, li, h', st', fr', ki', po', er', rr', rf', rl', ri', b2, f2, l2, x, fa, e1, e2, -⟩ := x_read hT ft bw sc h st fr ki po er rr rf rl ri
  unfold f_X6_fault f_X7_fault
  rw [e1, e2, Option.bind_some, Option.bind_some]
  exact ⟨_, _, _, rfl, rfl⟩
/-- a fresh moment of the class -/
theorem c_begin (hP : PR B F 0 h fr ki po er h fr ki po er) (hst : ∀ i, i < F → ∃ b, b < B ∧ st i = nI b) (lips : Int32) (pl kn lf : Nat → Int32) : ∃ pl' kn' lf', f_X1_begin pl kn lf (nI F) lips h st fr ki = some (pl', kn', lf', jshl 1 lips - 1, 0) ∧ ∀ i, i < F → pl' i = st i ∧ kn' i = fr i ∧ lf' i = lasS h ki pl' i := by
  have hF := hP.F5
  unfold f_X1_begin
  refine loop1 (st := g_X1_begin_2 (nI F) lips h st fr ki) F (fun i s => s.1 = nI i ∧ ∀ j, j < i → s.2.1 j = st j ∧ s.2.2.1 j = fr j ∧ s.2.2.2 j = lasS h ki s.2.1 j) (fun o => ∃ pl' kn' lf', o = some (pl', kn', lf', jshl 1 lips - 1, 0) ∧ ∀ i, i < F → pl' i = st i ∧ kn' i = fr i ∧ lf' i = lasS h ki pl' i) ?_ ?_ 100 0 _ (Nat.zero_le _) (by omega) ⟨rfl, fun j hj => by omega⟩
  · rintro i ⟨x, pl, kn, lf⟩ hi ⟨e, hj⟩
    dsimp only at e hj
    subst e
    left
    have hlt := lt_le hi (show F < 2 ^ 31 by omega)
    obtain ⟨b, hb, eb⟩ := hst i hi
    have hl := x1_learn (pl := upd pl i (st i)) (kn := kn) (lf := lf) hP hi ⟨b, hb, by rw [upd_s]; exact eb⟩ (fr i)
    refine ⟨(nI (i + 1), upd pl i (st i), upd kn i (fr i), upd lf i (lasS h ki (upd pl i (st i)) i)), ⟨rfl, fun j hj1 => ?_⟩, fun k => ?_⟩
    · dsimp only
      by_cases q : j = i
      · subst q; rw [upd_s, upd_s, upd_s]; exact ⟨rfl, rfl, rfl⟩
      · obtain ⟨a1, a2, a3⟩ := hj j (by omega)
        have el : lasS h ki (upd pl i (st i)) j = lasS h ki pl j := by unfold lasS; rw [upd_n _ _ q]
        rw [el, upd_n _ _ q, upd_n _ _ q, upd_n _ _ q]; exact ⟨a1, a2, a3⟩
    · simp only [g_X1_begin_2, f_X1_begin_2, if_neg hlt, rd5 (show i < 5 by omega), ix5 (show i < 5 by omega), cl_n (show i < 2 ^ 31 by omega), hl, Option.bind_some, nI_1]
  · rintro ⟨x, pl, kn, lf⟩ ⟨e, hj⟩ k
    dsimp only at e hj
    subst e
    refine ⟨pl, kn, lf, ?_, hj⟩
    simp only [g_X1_begin_2, f_X1_begin_2, f_X1_begin_48, if_pos (nI_le (Nat.le_refl F) (show F < 2 ^ 31 by omega))]
set_option maxHeartbeats 1000000 in
/-- a fresh hall of the reference -/
theorem m_hall (hR : RD B F Lp h st fr ki po er rr rf rl ri) (round first2 kind2 begins error2 now isk : Nat → Int32) (x fa : Int32) (P : Option (Int32 × Int32 × Int32 × Int32 × (Nat → Int32) × (Nat → Int32) × (Nat → Int32) × (Nat → Int32) × (Nat → Int32) × (Nat → Int32) × (Nat → Int32) × (Nat → Int32) × (Nat → Int32) × (Nat → Int32) × Int32 × Int32 × Int32 × Int32 × Int32 × Int32 × (Nat → Int32)) → Prop)
    (hP : ∀ round' first2' kind2' begins' error2' now' isk', (∀ i, i < B → round' i = h i) → (∀ i, i < F → first2' i = fr i ∧ kind2' i = ki i) → (∀ l, l < Lp → begins' l = po l ∧ error2' l = er l) → (∀ i, i < F → now' i = st i ∧ now' (5 + i) = fr i ∧ now' (10 + i) = lasS h ki st i) → now' 15 = nI (2 ^ Lp - 1) → now' 16 = 0 → isk' 0 = 0 → isk' 1 = 0 →
      P (some (((100 : Int32) * nI B + 10 * nI F) + nI Lp, nI B, nI F, nI Lp, round', first2', kind2', begins', error2', now', rr, rf, rl, ri, nI B, nI F, nI Lp, x, fa, 0, isk'))) :
    P (loopN (g_X7_hall_38 (nI B) (nI F) (nI Lp) round first2 kind2 begins error2 rr rf rl ri (nI B) (nI F) (nI Lp) x fa isk) 100 (0, now)) := by
  obtain ⟨⟨hB, hF, hL, hLB⟩, hR2, hR3, hR4, hR5⟩ := hR
  refine loop1 (st := g_X7_hall_38 (nI B) (nI F) (nI Lp) round first2 kind2 begins error2 rr rf rl ri (nI B) (nI F) (nI Lp) x fa isk) 17 (fun k s => s.1 = nI k ∧ ∀ j, j < k → s.2 j = 0) P ?_ ?_ 100 0 _ (Nat.zero_le _) (by omega) ⟨rfl, fun j hj => by omega⟩
  · rintro k ⟨y, q⟩ hk ⟨e, hq⟩
    dsimp only at e hq
    subst e
    left
    refine ⟨(nI (k + 1), upd q k 0), ⟨rfl, fun b hb => ?_⟩, fun g => ?_⟩
    · dsimp only
      by_cases e : b = k
      · subst e; rw [upd_s]
      · rw [upd_n _ _ e]; exact hq b (by omega)
    · simp only [g_X7_hall_38, f_X7_hall_38, if_neg (show ¬ (17 : Int32) ≤ nI k from lt_le (b := 17) hk (by decide)), ix34 (show k < 34 by omega), cl_n (show k < 2 ^ 31 by omega), nI_1]
  rintro ⟨y, now1⟩ ⟨e, hz⟩ g
  dsimp only at e hz
  subst e
  simp only [g_X7_hall_38, f_X7_hall_38, if_pos (show (17 : Int32) ≤ nI 17 by decide), f_X7_hall_57]
  refine loop1 (st := g_X7_hall_59 (nI B) (nI F) (nI Lp) first2 kind2 begins error2 now1 rr rf rl ri (nI B) (nI F) (nI Lp) x fa isk) B (fun k s => s.1 = nI k ∧ ∀ j, j < k → s.2 j = h j) P ?_ ?_ 100 0 _ (Nat.zero_le _) (by omega) ⟨rfl, fun j hj => by omega⟩
  · rintro k ⟨y, q⟩ hk ⟨e, hq⟩
    dsimp only at e hq
    subst e
    left
    refine ⟨(nI (k + 1), upd q k (h k)), ⟨rfl, fun b hb => ?_⟩, fun g => ?_⟩
    · dsimp only
      by_cases e : b = k
      · subst e; rw [upd_s]
      · rw [upd_n _ _ e]; exact hq b (by omega)
    · simp only [g_X7_hall_59, f_X7_hall_59, if_neg (lt_le hk (show B < 2 ^ 31 by omega)), rd5 (show k < 5 by omega), (hR2 k hk).1, ix5 (show k < 5 by omega), cl_n (show k < 2 ^ 31 by omega), nI_1]
  rintro ⟨y, rnd⟩ ⟨e, hrnd⟩ g
  dsimp only at e hrnd
  subst e
  simp only [g_X7_hall_59, f_X7_hall_59, if_pos (nI_le (Nat.le_refl B) (show B < 2 ^ 31 by omega)), f_X7_hall_85]
  refine loop1 (st := g_X7_hall_87 (nI B) (nI F) (nI Lp) rnd begins error2 rr rf rl ri (nI B) (nI F) (nI Lp) x fa isk) F (fun k s => s.1 = nI k ∧ (∀ j, j < k → s.2.1 j = fr j ∧ s.2.2.1 j = ki j) ∧ (∀ j, j < k → s.2.2.2 j = st j ∧ s.2.2.2 (5 + j) = fr j ∧ s.2.2.2 (10 + j) = lasS h ki st j) ∧ s.2.2.2 15 = 0 ∧ s.2.2.2 16 = 0) P ?_ ?_ 100 0 _ (Nat.zero_le _) (by omega) ⟨rfl, fun j hj => by omega, fun j hj => by omega, hz 15 (by decide), hz 16 (by decide)⟩
  · rintro k ⟨y, f2, k2, nw⟩ hk ⟨e, hq1, hq2, h15, h16⟩
    dsimp only at e hq1 hq2 h15 h16
    subst e
    left
    obtain ⟨⟨b1, b2, b3⟩, ⟨b, hb, eb⟩, s, hs, es⟩ := hR3 k hk
    have hPk : PR B (k + 1) 0 h fr ki po er rnd (upd f2 k (fr k)) (upd k2 k (ki k)) po er := by
      refine ⟨⟨hB, by omega, by omega, fun q => by omega⟩, fun i hi => ⟨hrnd i hi, (hR2 i hi).2⟩, fun i hi => ?_, fun i hi => by omega⟩
      obtain ⟨-, -, t, ht, et⟩ := hR3 i (by omega)
      refine ⟨?_, t, ht, et⟩
      by_cases q : i = k
      · subst q; rw [upd_s, upd_s]; exact ⟨rfl, rfl⟩
      · rw [upd_n _ _ q, upd_n _ _ q]; exact hq1 i (by omega)
    have hla := x7_lasts hPk (i := k) (by omega) hb
    have hlS : lasS h ki st k = lasF (h b) (ki k) := lasS_b (by omega) eb
    rw [← hlS, ← eb] at hla
    have hst : upd (upd nw k (st k)) (5 + k) (fr k) k = st k := by rw [upd_n _ _ (by omega), upd_s]
    have e5 : (5 : Int32) + nI k = nI (5 + k) := nI_add 5 k
    have e10 : (10 : Int32) + nI k = nI (10 + k) := nI_add 10 k
    refine ⟨(nI (k + 1), upd f2 k (fr k), upd k2 k (ki k), upd (upd (upd nw k (st k)) (5 + k) (fr k)) (10 + k) (lasS h ki st k)), ⟨rfl, fun j hj => ?_, fun j hj => ?_, ?_, ?_⟩, fun g => ?_⟩
    · dsimp only
      by_cases q : j = k
      · subst q; rw [upd_s, upd_s]; exact ⟨rfl, rfl⟩
      · rw [upd_n _ _ q, upd_n _ _ q]; exact hq1 j (by omega)
    · dsimp only
      by_cases q : j = k
      · subst q
        refine ⟨?_, ?_, ?_⟩
        · rw [upd_n _ _ (by omega), upd_n _ _ (by omega), upd_s]
        · rw [upd_n _ _ (by omega), upd_s]
        · rw [upd_s]
      · obtain ⟨c1, c2, c3⟩ := hq2 j (by omega)
        refine ⟨?_, ?_, ?_⟩
        · rw [upd_n _ _ (by omega), upd_n _ _ (by omega), upd_n _ _ (by omega), c1]
        · rw [upd_n _ _ (by omega), upd_n _ _ (by omega), upd_n _ _ (by omega), c2]
        · rw [upd_n _ _ (by omega), upd_n _ _ (by omega), upd_n _ _ (by omega), c3]
    · dsimp only
      rw [upd_n _ _ (by omega), upd_n _ _ (by omega), upd_n _ _ (by omega), h15]
    · dsimp only
      rw [upd_n _ _ (by omega), upd_n _ _ (by omega), upd_n _ _ (by omega), h16]
    · simp only [g_X7_hall_87, f_X7_hall_87, if_neg (lt_le hk (show F < 2 ^ 31 by omega)), n3m, nI_1, np2, rd15 (show 3 * k < 15 by omega), rd15 (show 3 * k + 1 < 15 by omega), rd15 (show 3 * k + 2 < 15 by omega), ix34 (show k < 34 by omega), ix5 (show k < 5 by omega), rd5 (show k < 5 by omega), cl_n (show k < 2 ^ 31 by omega), b1, b2, b3, upd_s, e5, e10, ix34 (show 5 + k < 34 by omega), cl_n (show 5 + k < 2 ^ 31 by omega), rd34 (show k < 34 by omega), hst, hla, Option.bind_some, ix34 (show 10 + k < 34 by omega), cl_n (show 10 + k < 2 ^ 31 by omega)]
  rintro ⟨y, f2, k2, nw⟩ ⟨e, hq1, hq2, h15, h16⟩ g
  dsimp only at e hq1 hq2 h15 h16
  subst e
  simp only [g_X7_hall_87, f_X7_hall_87, if_pos (nI_le (Nat.le_refl F) (show F < 2 ^ 31 by omega)), f_X7_hall_181]
  refine loop1 (st := g_X7_hall_183 (nI B) (nI F) (nI Lp) rnd f2 k2 nw rr rf rl ri (nI B) (nI F) (nI Lp) x fa isk) Lp (fun k s => s.1 = nI k ∧ ∀ j, j < k → s.2.1 j = po j ∧ s.2.2 j = er j) P ?_ ?_ 100 0 _ (Nat.zero_le _) (by omega) ⟨rfl, fun j hj => by omega⟩
  · rintro k ⟨y, p2, e2⟩ hk ⟨e, hq⟩
    dsimp only at e hq
    subst e
    left
    obtain ⟨⟨b1, b2⟩, -⟩ := hR4 k hk
    refine ⟨(nI (k + 1), upd p2 k (po k), upd e2 k (er k)), ⟨rfl, fun j hj => ?_⟩, fun g => ?_⟩
    · dsimp only
      by_cases e : j = k
      · subst e; rw [upd_s, upd_s]; exact ⟨rfl, rfl⟩
      · rw [upd_n _ _ e, upd_n _ _ e]; exact hq j (by omega)
    · simp only [g_X7_hall_183, f_X7_hall_183, if_neg (lt_le hk (show Lp < 2 ^ 31 by omega)), n2m, nI_1, rd8 (show 2 * k < 8 by omega), rd8 (show 2 * k + 1 < 8 by omega), b1, b2, ix4 (show k < 4 by omega), cl_n (show k < 2 ^ 31 by omega)]
  rintro ⟨y, p2, e2⟩ ⟨e, hq⟩ g
  dsimp only at e hq
  subst e
  simp only [g_X7_hall_183, f_X7_hall_183, if_pos (nI_le (Nat.le_refl Lp) (show Lp < 2 ^ 31 by omega)), f_X7_hall_227, i15, ix2_0, ix2_1, cl15, cl0, cl1, nar0, (dty_fin Lp (by omega)).1]
  refine hP _ _ _ _ _ _ _ hrnd hq1 hq (fun i hi => ?_) (upd_s _ _ _) ?_ ?_ ?_
  · obtain ⟨c1, c2, c3⟩ := hq2 i hi
    rw [upd_n _ _ (by omega), upd_n _ _ (by omega), upd_n _ _ (by omega)]
    exact ⟨c1, c2, c3⟩
  · rw [upd_n _ _ (by decide), h16]
  · rw [upd_n _ _ (by decide), upd_s]
  · rw [upd_s]
end Hall
