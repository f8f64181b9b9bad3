theorem ite_ex {α β : Type} {p : Prop} [Decidable p] {Q : α → Prop} {f g : (α → β) → β} (h1 : p → ∃ s, Q s ∧ ∀ k, f k = k s) (h2 : ¬ p → ∃ s, Q s ∧ ∀ k, g k = k s) : ∃ s, Q s ∧ ∀ k, (if p then f k else g k) = k s := by
  by_cases h : p
  · obtain ⟨s, a, b⟩ := h1 h
    exact ⟨s, a, fun k => by rw [if_pos h]; exact b k⟩
  · obtain ⟨s, a, b⟩ := h2 h
    exact ⟨s, a, fun k => by rw [if_neg h]; exact b k⟩
theorem neg_ex {α β : Type} {p : Prop} [Decidable p] {Q : α → Prop} {f g : (α → β) → β} (h : ¬ p) (h2 : ∃ s, Q s ∧ ∀ k, g k = k s) : ∃ s, Q s ∧ ∀ k, (if p then f k else g k) = k s := ite_ex (fun q => absurd q h) (fun _ => h2)
theorem rd_ex {α β : Type} {n : Nat} {f : Nat → Int32} {i y : Int32} {Q : α → Prop} {g : Int32 → (α → Option β) → Option β} (hx : ∀ k : Int32 → Option β, rd n f i k = k y) (h : ∃ s, Q s ∧ ∀ k, g y k = k s) : ∃ s, Q s ∧ ∀ k, rd n f i (fun v => g v k) = k s := by
  obtain ⟨s, a, b⟩ := h
  exact ⟨s, a, fun k => by rw [hx]; exact b k⟩
set_option maxRecDepth 100000 in
set_option maxHeartbeats 8000000 in
theorem law_step {sL : Nat} {sxs : Nat → Int32} {c : Nat} (hc : 5 * c + 5 ≤ sL) (hL : sL ≤ 2560) (s : LawS) (hs : s.1 = nI (5 * c)) (hR : RelS c s) : ∃ s1 : LawS, (s1.1 = nI (5 * c) + 5 ∧ RelS (c + 1) s1) ∧ ∀ k, g_L_law_18 sL sxs k s = k s1 := by
  obtain ⟨x3, ⟨c_b_letters, c_b_slotTaken, c_b_sown⟩, c_t_text, ⟨c_r_part, c_r_figuresTaken, c_r_bowl, c_r_secret⟩, ⟨c_d_bowls, c_d_fishes, c_d_lips, c_d_hours, c_d_start, c_d_first, c_d_kind, c_d_post, c_d_error⟩, ⟨c_p_bowls, c_p_fishes, c_p_lips, c_p_hours, c_p_start, c_p_first, c_p_kind, c_p_post, c_p_error⟩, ⟨c_n_place, c_n_known, c_n_left, c_n_onDuty, c_n_clock⟩, ⟨c_a_length, c_a_ak, c_a_pl, c_a_kn, c_a_lf, c_a_od, c_a_ck⟩, ⟨c_s_speaker, c_s_said, c_s_length⟩, ⟨c_o_kept, c_o_oneHas, c_o_otherHas⟩, ⟨c_y_place, c_y_known, c_y_left, c_y_onDuty, c_y_clock⟩, ⟨c_z_pl, c_z_kn, c_z_lf, c_z_od, c_z_ck⟩, ⟨c_m_bowls, c_m_fishes, c_m_lips, c_m_round, c_m_first, c_m_kind, c_m_begins, c_m_error, c_m_now, c_m_readRound, c_m_readFish, c_m_readLip, c_m_readIn, c_m_readBowls, c_m_readFishes, c_m_readLips, c_m_text, c_m_length, c_m_at, c_m_faultAt, c_m_acts, c_m_next, c_m_row, c_m_oft, c_m_said, c_m_saidOf, c_m_saidWhat, c_m_seed, c_m_isKept, c_m_kept⟩⟩ := s
  have hs1 : x3 = nI (5 * c) := hs
  have hR1 : LR c c_b_letters c_b_slotTaken c_b_sown c_t_text c_p_bowls c_p_fishes c_p_lips c_p_hours c_p_first c_p_kind c_p_post c_p_error c_n_place c_n_known c_n_left c_n_onDuty c_n_clock c_a_length c_a_pl c_a_kn c_a_lf c_a_od c_a_ck c_s_speaker c_s_said c_s_length c_z_pl c_z_kn c_z_lf c_z_od c_z_ck c_m_bowls c_m_fishes c_m_lips c_m_round c_m_first c_m_kind c_m_begins c_m_error c_m_now c_m_text c_m_length c_m_acts c_m_next c_m_row c_m_said c_m_saidOf c_m_saidWhat c_m_seed c_m_isKept c_m_kept := hR
  clear hs hR
  subst hs1
  have hend : ¬ (nI sL - 5 : Int32) < nI (5 * c) := by
    obtain ⟨q, rfl⟩ : ∃ q, sL = q + 5 := ⟨sL - 5, by omega⟩
    rw [show nI (q + 5) = nI q + 5 from (nI_add q 5).symm, Int32.add_sub_cancel]
    exact nI_nlt (by omega) (by omega)
  have hx0 : ∀ {α : Type} (k : Int32 → Option α), rd sL sxs (nI (5 * c)) k = k (sxs (5 * c)) := fun k => rd_n (by omega) (by omega) sxs k
  have hx1 : ∀ {α : Type} (k : Int32 → Option α), rd sL sxs (nI (5 * c) + 1) k = k (sxs (5 * c + 1)) := fun k => by rw [show nI (5 * c) + 1 = nI (5 * c + 1) from nI_add (5 * c) 1]; exact rd_n (by omega) (by omega) sxs k
  have hx2 : ∀ {α : Type} (k : Int32 → Option α), rd sL sxs (nI (5 * c) + 2) k = k (sxs (5 * c + 2)) := fun k => by rw [show nI (5 * c) + 2 = nI (5 * c + 2) from nI_add (5 * c) 2]; exact rd_n (by omega) (by omega) sxs k
  have hx3 : ∀ {α : Type} (k : Int32 → Option α), rd sL sxs (nI (5 * c) + 3) k = k (sxs (5 * c + 3)) := fun k => by rw [show nI (5 * c) + 3 = nI (5 * c + 3) from nI_add (5 * c) 3]; exact rd_n (by omega) (by omega) sxs k
  have hx4 : ∀ {α : Type} (k : Int32 → Option α), rd sL sxs (nI (5 * c) + 4) k = k (sxs (5 * c + 4)) := fun k => by rw [show nI (5 * c) + 4 = nI (5 * c + 4) from nI_add (5 * c) 4]; exact rd_n (by omega) (by omega) sxs k
  have hC : c ≤ 600 := by omega
  show ∃ s1 : LawS, (s1.1 = nI (5 * c) + 5 ∧ RelS (c + 1) s1) ∧ ∀ k, f_L_law_18 sL sxs k (nI (5 * c)) c_b_letters c_b_slotTaken c_b_sown c_t_text c_r_part c_r_figuresTaken c_r_bowl c_r_secret c_d_bowls c_d_fishes c_d_lips c_d_hours c_d_start c_d_first c_d_kind c_d_post c_d_error c_p_bowls c_p_fishes c_p_lips c_p_hours c_p_start c_p_first c_p_kind c_p_post c_p_error c_n_place c_n_known c_n_left c_n_onDuty c_n_clock c_a_length c_a_ak c_a_pl c_a_kn c_a_lf c_a_od c_a_ck c_s_speaker c_s_said c_s_length c_o_kept c_o_oneHas c_o_otherHas c_y_place c_y_known c_y_left c_y_onDuty c_y_clock c_z_pl c_z_kn c_z_lf c_z_od c_z_ck c_m_bowls c_m_fishes c_m_lips c_m_round c_m_first c_m_kind c_m_begins c_m_error c_m_now c_m_readRound c_m_readFish c_m_readLip c_m_readIn c_m_readBowls c_m_readFishes c_m_readLips c_m_text c_m_length c_m_at c_m_faultAt c_m_acts c_m_next c_m_row c_m_oft c_m_said c_m_saidOf c_m_saidWhat c_m_seed c_m_isKept c_m_kept = k s1
  unfold f_L_law_18
  refine neg_ex hend (rd_ex hx0 ?_)
  refine ite_ex (fun _ => s_168 hC hx1 hR1) (fun _ => ?_)
  refine ite_ex (fun _ => s_191 hC hR1) (fun _ => ?_)
  refine ite_ex (fun _ => s_204 hC hR1) (fun _ => ?_)
  refine ite_ex (fun _ => s_217 hC hR1) (fun _ => ?_)
  refine ite_ex (fun _ => s_230 hC hx1 hx2 hR1) (fun _ => ?_)
  refine ite_ex (fun _ => s_263 hC hx1 hx2 hR1) (fun _ => ?_)
  refine ite_ex (fun _ => s_296 hC hx1 hx2 hR1) (fun _ => ?_)
  refine ite_ex (fun _ => s_329 hC hR1) (fun _ => ?_)
  refine ite_ex (fun _ => s_342 hC hx1 hx2 hR1) (fun _ => ?_)
  refine ite_ex (fun _ => s_375 hC hx1 hR1) (fun _ => ?_)
  refine ite_ex (fun _ => s_398 hC hx1 hx2 hR1) (fun _ => ?_)
  refine ite_ex (fun _ => s_431 hC hx1 hR1) (fun _ => ?_)
  refine ite_ex (fun _ => s_454 hC hR1) (fun _ => ?_)
  refine ite_ex (fun _ => s_467 hC hx1 hx2 hR1) (fun _ => ?_)
  refine ite_ex (fun _ => s_500 hC hx1 hR1) (fun _ => ?_)
  refine ite_ex (fun _ => s_523 hC hR1) (fun _ => ?_)
  refine ite_ex (fun _ => s_536 hC hx1 hx2 hR1) (fun _ => ?_)
  refine ite_ex (fun _ => s_569 hC hx1 hR1) (fun _ => ?_)
  refine ite_ex (fun _ => s_592 hC hx1 hx2 hx3 hR1) (fun _ => ?_)
  refine ite_ex (fun _ => s_655 hC hx1 hx2 hR1) (fun _ => ?_)
  refine ite_ex (fun _ => s_688 hC hR1) (fun _ => ?_)
  refine ite_ex (fun _ => s_701 hC hx1 hR1) (fun _ => ?_)
  refine ite_ex (fun _ => s_724 hC hx1 hx2 hR1) (fun _ => ?_)
  refine ite_ex (fun _ => s_773 hC hx1 hx2 hx3 hR1) (fun _ => ?_)
  refine ite_ex (fun _ => s_816 hC hx1 hx2 hx3 hx4 hR1) (fun _ => ?_)
  refine ite_ex (fun _ => s_885 hC hx1 hx2 hR1) (fun _ => ?_)
  refine ite_ex (fun _ => s_939 hC hx1 hR1) (fun _ => ?_)
  refine ite_ex (fun _ => s_962 hC hx1 hR1) (fun _ => ?_)
  refine ite_ex (fun _ => s_985 hC hx1 hR1) (fun _ => ?_)
  refine ite_ex (fun _ => s_1008 hC hx1 hR1) (fun _ => ?_)
  exact s_1031 hC hR1
theorem law_init (ak : Nat → Nat → Nat) : RelS 0 (lw_init ak) := by
  refine mkLR (B := 0) (F := 0) (Lp := 0) (A := 0) (X := 0) (S := 0) (T := 0) ?_ ?_ ?_ ?_ ?_ ?_
  · exact ⟨⟨by omega, by omega, by omega, fun q => by omega⟩, fun i hi => by omega, fun i hi => by omega, fun i hi => by omega⟩
  · exact ⟨fun i hi => by omega, rfl, rfl, ⟨0, by decide, rfl⟩, ⟨0, by omega, rfl⟩⟩
  · exact ⟨by omega, by omega, fun j hj => by omega⟩
  · exact fun s hs => ⟨rfl, Or.inl rfl, fun q => absurd (show (0 : Int32) = 1 from q) (by decide)⟩
  · exact ⟨by omega, fun j hj => by omega⟩
  · exact ⟨by omega, fun j hj => by omega⟩
set_option maxRecDepth 100000 in
set_option maxHeartbeats 8000000 in
/-- THE PURE STATEMENT -/
theorem law_pure (sL : Nat) (sxs : Nat → Int32) (ak : Nat → Nat → Nat) (h : sL ≤ 2560) : loopN (g_L_law_18 sL sxs) 600 (lw_init ak) = some 1 := by
  refine loop1 (st := g_L_law_18 sL sxs) (sL / 5) (fun c s => s.1 = nI (5 * c) ∧ RelS c s) (fun o => o = some 1) ?_ ?_ 600 0 (lw_init ak) (Nat.zero_le _) (by omega) ⟨rfl, law_init ak⟩
  · rintro c s hc ⟨e, hR⟩
    left
    obtain ⟨s1, ⟨a1, a2⟩, a3⟩ := law_step (sxs := sxs) (c := c) (by omega) h s e hR
    refine ⟨s1, ⟨?_, a2⟩, a3⟩
    rw [a1, show nI (5 * c) + 5 = nI (5 * c + 5) from nI_add (5 * c) 5]
    rfl
  · rintro s ⟨e, hR⟩ k
    have hend : (nI sL - 5 : Int32) < s.1 := by
      rw [e]
      rcases Nat.lt_or_ge sL 5 with q | q
      · have hz : sL / 5 = 0 := Nat.div_eq_of_lt q
        have hf : ∀ n, n < 5 → (nI n - 5 : Int32) < nI 0 := by decide +kernel
        rw [hz]; exact hf sL q
      · obtain ⟨m, rfl⟩ : ∃ m, sL = m + 5 := ⟨sL - 5, by omega⟩
        rw [show nI (m + 5) = nI m + 5 from (nI_add m 5).symm, Int32.add_sub_cancel]
        exact nI_lt (by omega) (by omega)
    unfold g_L_law_18 f_L_law_18
    rw [if_pos hend]
