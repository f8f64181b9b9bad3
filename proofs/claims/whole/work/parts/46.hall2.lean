section Hall2
variable {B F Lp C A X T : Nat} {hours start first kind post error round first2 kind2 begins error2 : Nat → Int32} {pl kn lf now row : Nat → Int32} {du ck : Int32} {pls kns lfs : Nat → Nat → Int32} {ods cks : Nat → Int32} {tk isk kept txt txt2 : Nat → Int32} {zp zk zl : Nat → Nat → Int32} {zo zc : Nat → Int32}
theorem cpy4 {f g : Nat → Int32} {j : Nat} (h : j < 4) : va_cpy f g 0 0 4 j = f j := by
  have := cpy_in (f := f) (g := g) (sp := 0) (dp := 0) h
  rw [Nat.zero_add] at this
  exact this
set_option maxHeartbeats 2000000 in
/-- HALL -/
theorem x_hall (hP : PR B F Lp hours first kind post error round first2 kind2 begins error2) (hM : MR B F Lp C 0 hours kind pl kn lf du ck now) (hA : AR B F Lp C A X hours kind pls kns lfs ods cks row) (hS : SR B F Lp C hours kind tk isk zp zk zl zo zc kept) (hT : TR T txt txt2) (ft bw sc : Int32) (dh ds df dk dp de start rr rf rl ri : Nat → Int32) :
    ∃ v tk' q1 q2 q3 q4 d1 d2 d3 d4 d5 d6 d7 d8 d9 B' F' Lp' hours' start' first' kind' post' error' pl' kn' lf' du' ck' A' round' first2' kind2' begins' error2' now' m1 m2 m3 m4 m5 m6 m7 m8 m9 isk',
      f_X6_hall (nI T) tk txt ft bw sc dh ds df dk dp de (nI B) (nI F) (nI Lp) hours start first kind post error pl kn lf du ck (nI A) = some (v, tk', q1, q2, q3, q4, d1, d2, d3, d4, d5, d6, d7, d8, d9, nI B', nI F', nI Lp', hours', start', first', kind', post', error', pl', kn', lf', du', ck', nI A')
      ∧ f_X7_hall (nI B) (nI F) (nI Lp) round first2 kind2 begins error2 now rr rf rl ri txt2 (nI T) (nI A) isk = some (v, nI B', nI F', nI Lp', round', first2', kind2', begins', error2', now', m1, m2, m3, m4, m5, m6, m7, m8, m9, nI A', isk')
      ∧ PR B' F' Lp' hours' first' kind' post' error' round' first2' kind2' begins' error2' ∧ MR B' F' Lp' (C + 1) 0 hours' kind' pl' kn' lf' du' ck' now' ∧ AR B' F' Lp' (C + 1) A' X hours' kind' pls kns lfs ods cks row ∧ SR B' F' Lp' (C + 1) hours' kind' tk' isk' zp zk zl zo zc kept := by
  obtain ⟨v, p, ft', bw', sc', b, fi, li, h, st, fr, ki, po, er, rr', rf', rl', ri', b2, f2, l2, x, fa, e1, e2, e3⟩ := x_read hT ft bw sc dh ds df dk dp de rr rf rl ri
  unfold f_X6_hall f_X7_hall
  rw [e1, e2, Option.bind_some, Option.bind_some]
  dsimp only
  by_cases hv : v = -9
  · obtain ⟨B', F', Lp', rfl, rfl, rfl, rfl, rfl, rfl, hR⟩ := e3 hv
    rw [if_pos hv, if_pos hv]
    have hR0 := hR
    obtain ⟨⟨hB, hF, hL, hLB⟩, hR2, hR3, hR4, hR5⟩ := hR
    unfold f_X3_become f_X0_forgetAll
    rw [Option.bind_some]
    dsimp only
    have hP0 : PR B' F' 0 (va_cpy h hours 0 0 5) (va_cpy fr first 0 0 5) (va_cpy ki kind 0 0 5) (va_cpy po post 0 0 4) (va_cpy er error 0 0 4) (va_cpy h hours 0 0 5) (va_cpy fr first 0 0 5) (va_cpy ki kind 0 0 5) (va_cpy po post 0 0 4) (va_cpy er error 0 0 4) := by
      refine ⟨⟨hB, hF, by omega, fun q => by omega⟩, fun i hi => ⟨rfl, ?_⟩, fun i hi => ⟨⟨rfl, rfl⟩, ?_⟩, fun i hi => by omega⟩
      · rw [cpy5 (by omega)]; exact (hR2 i hi).2
      · rw [cpy5 (by omega)]; exact (hR3 i hi).2.2
    obtain ⟨pl', kn', lf', c1, c2⟩ := c_begin (st := va_cpy st start 0 0 5) hP0 (fun i hi => by rw [cpy5 (by omega)]; exact (hR3 i hi).2.1) (nI Lp') pl kn lf
    rw [c1, Option.bind_some, Option.bind_some]
    dsimp only
    refine m_hall hR0 round first2 kind2 begins error2 now isk x fa (fun o => ∃ v tk' q1 q2 q3 q4 d1 d2 d3 d4 d5 d6 d7 d8 d9 B' F' Lp' hours' start' first' kind' post' error' pl' kn' lf' du' ck' A' round' first2' kind2' begins' error2' now' m1 m2 m3 m4 m5 m6 m7 m8 m9 isk', _ = some (v, tk', q1, q2, q3, q4, d1, d2, d3, d4, d5, d6, d7, d8, d9, nI B', nI F', nI Lp', hours', start', first', kind', post', error', pl', kn', lf', du', ck', nI A') ∧ o = some (v, nI B', nI F', nI Lp', round', first2', kind2', begins', error2', now', m1, m2, m3, m4, m5, m6, m7, m8, m9, nI A', isk')
      ∧ PR B' F' Lp' hours' first' kind' post' error' round' first2' kind2' begins' error2' ∧ MR B' F' Lp' (C + 1) 0 hours' kind' pl' kn' lf' du' ck' now' ∧ AR B' F' Lp' (C + 1) A' X hours' kind' pls kns lfs ods cks row ∧ SR B' F' Lp' (C + 1) hours' kind' tk' isk' zp zk zl zo zc kept) ?_
    intro round' first2' kind2' begins' error2' now' isk' g1 g2 g3 g4 g5 g6 g7 g8
    have hPn : PR B' F' Lp' (va_cpy h hours 0 0 5) (va_cpy fr first 0 0 5) (va_cpy ki kind 0 0 5) (va_cpy po post 0 0 4) (va_cpy er error 0 0 4) round' first2' kind2' begins' error2' := by
      refine ⟨⟨hB, hF, hL, hLB⟩, fun i hi => ⟨?_, ?_⟩, fun i hi => ⟨⟨?_, ?_⟩, ?_⟩, fun i hi => ⟨?_, ?_, ?_, ?_⟩⟩
      · rw [cpy5 (by omega)]; exact g1 i hi
      · rw [cpy5 (by omega)]; exact (hR2 i hi).2
      · rw [cpy5 (by omega)]; exact (g2 i hi).1
      · rw [cpy5 (by omega)]; exact (g2 i hi).2
      · rw [cpy5 (by omega)]; exact (hR3 i hi).2.2
      · rw [cpy4 (by omega)]; exact (g3 i hi).1
      · rw [cpy4 (by omega)]; exact (g3 i hi).2
      · rw [cpy4 (by omega)]; exact (hR4 i hi).2.1
      · rw [cpy4 (by omega)]; exact (hR4 i hi).2.2
    obtain ⟨dt1, dt2⟩ := dty_fin Lp' (by omega)
    have hMn : MR B' F' Lp' (C + 1) 0 (va_cpy h hours 0 0 5) (va_cpy ki kind 0 0 5) pl' kn' lf' (jshl 1 (nI Lp') - 1) 0 now' := by
      refine ⟨fun i hi => ?_, ?_, ?_, ⟨2 ^ Lp' - 1, dt2, dt1⟩, ⟨0, by omega, rfl⟩⟩
      · obtain ⟨a1, a2, a3⟩ := c2 i hi
        obtain ⟨b1, b2, b3⟩ := g4 i hi
        obtain ⟨-, ⟨bb, hbb, ebb⟩, s, hs, es⟩ := hR3 i hi
        rw [cpy5 (by omega)] at a1 a2
        have eL : lasS (va_cpy h hours 0 0 5) (va_cpy ki kind 0 0 5) pl' i = lasS h ki st i := by
          rw [lasS_b (by omega) (a1.trans ebb), lasS_b (by omega) ebb, cpy5 (by omega), cpy5 (by omega)]
        have hpos := las_pos (i := i) hPn (pl := pl') ⟨bb, hbb, a1.trans ebb⟩
        rw [Nat.zero_add]
        refine ⟨b1.trans a1.symm, ?_, ?_, ⟨bb, hbb, a1.trans ebb⟩, ⟨?_, ?_⟩, Or.inr ⟨s, hs, a2.trans es⟩⟩
        · exact b2.trans a2.symm
        · rw [a3, eL]; exact b3
        · rw [a3]; exact hpos.1
        · rw [a3]; exact Int32.le_refl _
      · rw [dt1]; exact g5
      · exact g6
    have hcls : ∀ {p ft bw sc b fi li : Int32} {h st fr ki po er : Nat → Int32} {pb pf pL : Int32} {h1 h2 h3 h4 h5 h6 a1 a2 a3 : Nat → Int32} {d c A0 : Int32}, ∃ tk', tk' 0 = 0 ∧ tk' 1 = 0 ∧ loopN (g_X6_hall_53 p ft bw sc b fi li h st fr ki po er pb pf pL h1 h2 h3 h4 h5 h6 a1 a2 a3 d c A0) 100 (0, tk) = f_X6_hall_71 tk' p ft bw sc b fi li h st fr ki po er pb pf pL h1 h2 h3 h4 h5 h6 a1 a2 a3 d c A0 := by
      intro p ft bw sc b fi li h st fr ki po er pb pf pL h1 h2 h3 h4 h5 h6 a1 a2 a3 d c A0
      refine loop1 (st := g_X6_hall_53 p ft bw sc b fi li h st fr ki po er pb pf pL h1 h2 h3 h4 h5 h6 a1 a2 a3 d c A0) 2 (fun k s => s.1 = nI k ∧ ∀ j, j < k → s.2 j = 0) (fun o => ∃ tk', tk' 0 = 0 ∧ tk' 1 = 0 ∧ o = f_X6_hall_71 tk' p ft bw sc b fi li h st fr ki po er pb pf pL h1 h2 h3 h4 h5 h6 a1 a2 a3 d c A0) ?_ ?_ 100 0 (0, tk) (Nat.zero_le _) (by omega) ⟨rfl, fun j hj => by omega⟩
      · rintro k ⟨y, q⟩ hk ⟨e, hq⟩
        dsimp only at e hq
        subst e
        left
        refine ⟨(nI (k + 1), upd q k 0), ⟨rfl, fun b hb => ?_⟩, fun g => ?_⟩
        · dsimp only
          by_cases e : b = k
          · subst e; rw [upd_s]
          · rw [upd_n _ _ e]; exact hq b (by omega)
        · simp only [g_X6_hall_53, f_X6_hall_53, if_neg (show ¬ (2 : Int32) ≤ nI k from lt_le (b := 2) hk (by decide)), ix2 hk, cl_n (show k < 2 ^ 31 by omega), nar0, nI_1]
      · rintro ⟨y, q⟩ ⟨e, hq⟩ g
        dsimp only at e hq
        subst e
        refine ⟨q, hq 0 (by decide), hq 1 (by decide), ?_⟩
        simp only [g_X6_hall_53, f_X6_hall_53, if_pos (show (2 : Int32) ≤ nI 2 by decide)]
    obtain ⟨tk', t0, t1, hl⟩ := hcls (p := p) (ft := ft') (bw := bw') (sc := sc') (b := nI B') (fi := nI F') (li := nI Lp') (h := h) (st := st) (fr := fr) (ki := ki) (po := po) (er := er) (pb := nI B') (pf := nI F') (pL := nI Lp') (h1 := va_cpy h hours 0 0 5) (h2 := va_cpy st start 0 0 5) (h3 := va_cpy fr first 0 0 5) (h4 := va_cpy ki kind 0 0 5) (h5 := va_cpy po post 0 0 4) (h6 := va_cpy er error 0 0 4) (a1 := pl') (a2 := kn') (a3 := lf') (d := jshl 1 (nI Lp') - 1) (c := 0) (A0 := 0)
    rw [hl]
    unfold f_X6_hall_71
    refine ⟨_, tk', _, _, _, _, _, _, _, _, _, _, _, _, _, B', F', Lp', _, _, _, _, _, _, pl', kn', lf', _, _, 0, round', first2', kind2', begins', error2', now', _, _, _, _, _, _, _, _, _, isk', rfl, rfl, hPn, hMn, hA.zero, fun s hs => ?_⟩
    have hs2 : s = 0 ∨ s = 1 := by omega
    rcases hs2 with q | q
    · subst q; rw [t0, g7]; exact ⟨rfl, Or.inl rfl, fun q => absurd q (by decide)⟩
    · subst q; rw [t1, g8]; exact ⟨rfl, Or.inl rfl, fun q => absurd q (by decide)⟩
  · rw [if_neg hv, if_neg hv]
    have hF := hP.F5
    exact ⟨_, tk, _, _, _, _, _, _, _, _, _, _, _, _, _, B, F, Lp, _, _, _, _, _, _, pl, kn, lf, _, _, A, round, first2, kind2, begins, error2, now, _, _, _, _, _, _, _, _, _, isk, rfl, rfl, hP, hM.mono hF (by omega), hA.mono hF (by omega), hS.mono hF (by omega)⟩
end Hall2
