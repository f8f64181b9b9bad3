abbrev LawS : Type := ((Int32) × (Int32 × (Nat → Int32) × Int64) × ((Nat → Int32)) × (Int32 × Int32 × Int32 × Int32) × (Int32 × Int32 × Int32 × (Nat → Int32) × (Nat → Int32) × (Nat → Int32) × (Nat → Int32) × (Nat → Int32) × (Nat → Int32)) × (Int32 × Int32 × Int32 × (Nat → Int32) × (Nat → Int32) × (Nat → Int32) × (Nat → Int32) × (Nat → Int32) × (Nat → Int32)) × ((Nat → Int32) × (Nat → Int32) × (Nat → Int32) × Int32 × Int32) × (Int32 × (Nat → Nat → Nat) × (Nat → Nat → Int32) × (Nat → Nat → Int32) × (Nat → Nat → Int32) × (Nat → Int32) × (Nat → Int32)) × ((Nat → Int32) × (Nat → Int32) × Int32) × ((Nat → Int32) × (Nat → Int32) × (Nat → Int32)) × ((Nat → Int32) × (Nat → Int32) × (Nat → Int32) × Int32 × Int32) × ((Nat → Nat → Int32) × (Nat → Nat → Int32) × (Nat → Nat → Int32) × (Nat → Int32) × (Nat → Int32)) × (Int32 × Int32 × Int32 × (Nat → Int32) × (Nat → Int32) × (Nat → Int32) × (Nat → Int32) × (Nat → Int32) × (Nat → Int32) × (Nat → Int32) × (Nat → Int32) × (Nat → Int32) × (Nat → Int32) × Int32 × Int32 × Int32 × (Nat → Int32) × Int32 × Int32 × Int32 × Int32 × Int32 × (Nat → Int32) × (Nat → Int32) × Int32 × (Nat → Int32) × (Nat → Int32) × Int64 × (Nat → Int32) × (Nat → Int32)))
def LR (C : Nat) (c_b_letters : Int32) (c_b_slotTaken : Nat → Int32) (c_b_sown : Int64) (c_t_text : Nat → Int32) (c_p_bowls : Int32) (c_p_fishes : Int32) (c_p_lips : Int32) (c_p_hours : Nat → Int32) (c_p_first : Nat → Int32) (c_p_kind : Nat → Int32) (c_p_post : Nat → Int32) (c_p_error : Nat → Int32) (c_n_place : Nat → Int32) (c_n_known : Nat → Int32) (c_n_left : Nat → Int32) (c_n_onDuty : Int32) (c_n_clock : Int32) (c_a_length : Int32) (c_a_pl : Nat → Nat → Int32) (c_a_kn : Nat → Nat → Int32) (c_a_lf : Nat → Nat → Int32) (c_a_od : Nat → Int32) (c_a_ck : Nat → Int32) (c_s_speaker : Nat → Int32) (c_s_said : Nat → Int32) (c_s_length : Int32) (c_z_pl : Nat → Nat → Int32) (c_z_kn : Nat → Nat → Int32) (c_z_lf : Nat → Nat → Int32) (c_z_od : Nat → Int32) (c_z_ck : Nat → Int32) (c_m_bowls : Int32) (c_m_fishes : Int32) (c_m_lips : Int32) (c_m_round : Nat → Int32) (c_m_first : Nat → Int32) (c_m_kind : Nat → Int32) (c_m_begins : Nat → Int32) (c_m_error : Nat → Int32) (c_m_now : Nat → Int32) (c_m_text : Nat → Int32) (c_m_length : Int32) (c_m_acts : Int32) (c_m_next : Int32) (c_m_row : Nat → Int32) (c_m_said : Int32) (c_m_saidOf : Nat → Int32) (c_m_saidWhat : Nat → Int32) (c_m_seed : Int64) (c_m_isKept : Nat → Int32) (c_m_kept : Nat → Int32) : Prop :=
  ∃ B F Lp A X S T : Nat, (c_b_letters = nI T ∧ c_p_bowls = nI B ∧ c_p_fishes = nI F ∧ c_p_lips = nI Lp ∧ c_a_length = nI A ∧ c_s_length = nI S ∧ c_m_bowls = nI B ∧ c_m_fishes = nI F ∧ c_m_lips = nI Lp ∧ c_m_length = nI T ∧ c_m_acts = nI A ∧ c_m_next = nI X ∧ c_m_said = nI S ∧ c_m_seed = c_b_sown) ∧ PR B F Lp c_p_hours c_p_first c_p_kind c_p_post c_p_error c_m_round c_m_first c_m_kind c_m_begins c_m_error ∧ MR B F Lp C 0 c_p_hours c_p_kind c_n_place c_n_known c_n_left c_n_onDuty c_n_clock c_m_now ∧ AR B F Lp C A X c_p_hours c_p_kind c_a_pl c_a_kn c_a_lf c_a_od c_a_ck c_m_row ∧ SR B F Lp C c_p_hours c_p_kind c_b_slotTaken c_m_isKept c_z_pl c_z_kn c_z_lf c_z_od c_z_ck c_m_kept ∧ SY S c_s_speaker c_s_said c_m_saidOf c_m_saidWhat ∧ TR T c_t_text c_m_text
def RelS (C : Nat) (s : LawS) : Prop := LR C s.2.1.1 s.2.1.2.1 s.2.1.2.2 s.2.2.1 s.2.2.2.2.2.1.1 s.2.2.2.2.2.1.2.1 s.2.2.2.2.2.1.2.2.1 s.2.2.2.2.2.1.2.2.2.1 s.2.2.2.2.2.1.2.2.2.2.2.1 s.2.2.2.2.2.1.2.2.2.2.2.2.1 s.2.2.2.2.2.1.2.2.2.2.2.2.2.1 s.2.2.2.2.2.1.2.2.2.2.2.2.2.2 s.2.2.2.2.2.2.1.1 s.2.2.2.2.2.2.1.2.1 s.2.2.2.2.2.2.1.2.2.1 s.2.2.2.2.2.2.1.2.2.2.1 s.2.2.2.2.2.2.1.2.2.2.2 s.2.2.2.2.2.2.2.1.1 s.2.2.2.2.2.2.2.1.2.2.1 s.2.2.2.2.2.2.2.1.2.2.2.1 s.2.2.2.2.2.2.2.1.2.2.2.2.1 s.2.2.2.2.2.2.2.1.2.2.2.2.2.1 s.2.2.2.2.2.2.2.1.2.2.2.2.2.2 s.2.2.2.2.2.2.2.2.1.1 s.2.2.2.2.2.2.2.2.1.2.1 s.2.2.2.2.2.2.2.2.1.2.2 s.2.2.2.2.2.2.2.2.2.2.2.1.1 s.2.2.2.2.2.2.2.2.2.2.2.1.2.1 s.2.2.2.2.2.2.2.2.2.2.2.1.2.2.1 s.2.2.2.2.2.2.2.2.2.2.2.1.2.2.2.1 s.2.2.2.2.2.2.2.2.2.2.2.1.2.2.2.2 s.2.2.2.2.2.2.2.2.2.2.2.2.1 s.2.2.2.2.2.2.2.2.2.2.2.2.2.1 s.2.2.2.2.2.2.2.2.2.2.2.2.2.2.1 s.2.2.2.2.2.2.2.2.2.2.2.2.2.2.2.1 s.2.2.2.2.2.2.2.2.2.2.2.2.2.2.2.2.1 s.2.2.2.2.2.2.2.2.2.2.2.2.2.2.2.2.2.1 s.2.2.2.2.2.2.2.2.2.2.2.2.2.2.2.2.2.2.1 s.2.2.2.2.2.2.2.2.2.2.2.2.2.2.2.2.2.2.2.1 s.2.2.2.2.2.2.2.2.2.2.2.2.2.2.2.2.2.2.2.2.1 s.2.2.2.2.2.2.2.2.2.2.2.2.2.2.2.2.2.2.2.2.2.2.2.2.2.2.2.2.1 s.2.2.2.2.2.2.2.2.2.2.2.2.2.2.2.2.2.2.2.2.2.2.2.2.2.2.2.2.2.1 s.2.2.2.2.2.2.2.2.2.2.2.2.2.2.2.2.2.2.2.2.2.2.2.2.2.2.2.2.2.2.2.2.1 s.2.2.2.2.2.2.2.2.2.2.2.2.2.2.2.2.2.2.2.2.2.2.2.2.2.2.2.2.2.2.2.2.2.1 s.2.2.2.2.2.2.2.2.2.2.2.2.2.2.2.2.2.2.2.2.2.2.2.2.2.2.2.2.2.2.2.2.2.2.1 s.2.2.2.2.2.2.2.2.2.2.2.2.2.2.2.2.2.2.2.2.2.2.2.2.2.2.2.2.2.2.2.2.2.2.2.2.1 s.2.2.2.2.2.2.2.2.2.2.2.2.2.2.2.2.2.2.2.2.2.2.2.2.2.2.2.2.2.2.2.2.2.2.2.2.2.1 s.2.2.2.2.2.2.2.2.2.2.2.2.2.2.2.2.2.2.2.2.2.2.2.2.2.2.2.2.2.2.2.2.2.2.2.2.2.2.1 s.2.2.2.2.2.2.2.2.2.2.2.2.2.2.2.2.2.2.2.2.2.2.2.2.2.2.2.2.2.2.2.2.2.2.2.2.2.2.2.1 s.2.2.2.2.2.2.2.2.2.2.2.2.2.2.2.2.2.2.2.2.2.2.2.2.2.2.2.2.2.2.2.2.2.2.2.2.2.2.2.2.1 s.2.2.2.2.2.2.2.2.2.2.2.2.2.2.2.2.2.2.2.2.2.2.2.2.2.2.2.2.2.2.2.2.2.2.2.2.2.2.2.2.2
section Law
variable {C B F Lp A X S T : Nat} {x3 : Int32} {c_b_letters : Int32} {c_b_slotTaken : Nat → Int32} {c_b_sown : Int64} {c_t_text : Nat → Int32} {c_r_part : Int32} {c_r_figuresTaken : Int32} {c_r_bowl : Int32} {c_r_secret : Int32} {c_d_bowls : Int32} {c_d_fishes : Int32} {c_d_lips : Int32} {c_d_hours : Nat → Int32} {c_d_start : Nat → Int32} {c_d_first : Nat → Int32} {c_d_kind : Nat → Int32} {c_d_post : Nat → Int32} {c_d_error : Nat → Int32} {c_p_bowls : Int32} {c_p_fishes : Int32} {c_p_lips : Int32} {c_p_hours : Nat → Int32} {c_p_start : Nat → Int32} {c_p_first : Nat → Int32} {c_p_kind : Nat → Int32} {c_p_post : Nat → Int32} {c_p_error : Nat → Int32} {c_n_place : Nat → Int32} {c_n_known : Nat → Int32} {c_n_left : Nat → Int32} {c_n_onDuty : Int32} {c_n_clock : Int32} {c_a_length : Int32} {c_a_ak : Nat → Nat → Nat} {c_a_pl : Nat → Nat → Int32} {c_a_kn : Nat → Nat → Int32} {c_a_lf : Nat → Nat → Int32} {c_a_od : Nat → Int32} {c_a_ck : Nat → Int32} {c_s_speaker : Nat → Int32} {c_s_said : Nat → Int32} {c_s_length : Int32} {c_o_kept : Nat → Int32} {c_o_oneHas : Nat → Int32} {c_o_otherHas : Nat → Int32} {c_y_place : Nat → Int32} {c_y_known : Nat → Int32} {c_y_left : Nat → Int32} {c_y_onDuty : Int32} {c_y_clock : Int32} {c_z_pl : Nat → Nat → Int32} {c_z_kn : Nat → Nat → Int32} {c_z_lf : Nat → Nat → Int32} {c_z_od : Nat → Int32} {c_z_ck : Nat → Int32} {c_m_bowls : Int32} {c_m_fishes : Int32} {c_m_lips : Int32} {c_m_round : Nat → Int32} {c_m_first : Nat → Int32} {c_m_kind : Nat → Int32} {c_m_begins : Nat → Int32} {c_m_error : Nat → Int32} {c_m_now : Nat → Int32} {c_m_readRound : Nat → Int32} {c_m_readFish : Nat → Int32} {c_m_readLip : Nat → Int32} {c_m_readIn : Nat → Int32} {c_m_readBowls : Int32} {c_m_readFishes : Int32} {c_m_readLips : Int32} {c_m_text : Nat → Int32} {c_m_length : Int32} {c_m_at : Int32} {c_m_faultAt : Int32} {c_m_acts : Int32} {c_m_next : Int32} {c_m_row : Nat → Int32} {c_m_oft : Nat → Int32} {c_m_said : Int32} {c_m_saidOf : Nat → Int32} {c_m_saidWhat : Nat → Int32} {c_m_seed : Int64} {c_m_isKept : Nat → Int32} {c_m_kept : Nat → Int32} {sL : Nat} {sxs : Nat → Int32}
theorem mkLR (h0 : PR B F Lp c_p_hours c_p_first c_p_kind c_p_post c_p_error c_m_round c_m_first c_m_kind c_m_begins c_m_error) (h1 : MR B F Lp C 0 c_p_hours c_p_kind c_n_place c_n_known c_n_left c_n_onDuty c_n_clock c_m_now) (h2 : AR B F Lp C A X c_p_hours c_p_kind c_a_pl c_a_kn c_a_lf c_a_od c_a_ck c_m_row) (h3 : SR B F Lp C c_p_hours c_p_kind c_b_slotTaken c_m_isKept c_z_pl c_z_kn c_z_lf c_z_od c_z_ck c_m_kept) (h4 : SY S c_s_speaker c_s_said c_m_saidOf c_m_saidWhat) (h5 : TR T c_t_text c_m_text) : LR C (nI T) c_b_slotTaken c_b_sown c_t_text (nI B) (nI F) (nI Lp) c_p_hours c_p_first c_p_kind c_p_post c_p_error c_n_place c_n_known c_n_left c_n_onDuty c_n_clock (nI A) c_a_pl c_a_kn c_a_lf c_a_od c_a_ck c_s_speaker c_s_said (nI S) c_z_pl c_z_kn c_z_lf c_z_od c_z_ck (nI B) (nI F) (nI Lp) c_m_round c_m_first c_m_kind c_m_begins c_m_error c_m_now c_m_text (nI T) (nI A) (nI X) c_m_row (nI S) c_m_saidOf c_m_saidWhat c_b_sown c_m_isKept c_m_kept := ⟨B, F, Lp, A, X, S, T, ⟨rfl, rfl, rfl, rfl, rfl, rfl, rfl, rfl, rfl, rfl, rfl, rfl, rfl, rfl⟩, h0, h1, h2, h3, h4, h5⟩
theorem lg_self (x : Int64) : lg_cmp x x = 0 := by
  have h1 := lg_neg x x
  have h2 := lg_pos x x
  have f0 : (0 : Int32).toInt = 0 := by decide
  rw [Int32.lt_iff_toInt_lt, f0] at h1 h2
  rw [← Int32.toInt_inj, f0]
  omega
theorem s_168 (hC : C ≤ 600) {y1 : Int32} (hx1 : ∀ {α : Type} (k : Int32 → Option α), rd sL sxs (x3 + 1) k = k y1) (hR : LR C c_b_letters c_b_slotTaken c_b_sown c_t_text c_p_bowls c_p_fishes c_p_lips c_p_hours c_p_first c_p_kind c_p_post c_p_error c_n_place c_n_known c_n_left c_n_onDuty c_n_clock c_a_length c_a_pl c_a_kn c_a_lf c_a_od c_a_ck c_s_speaker c_s_said c_s_length c_z_pl c_z_kn c_z_lf c_z_od c_z_ck c_m_bowls c_m_fishes c_m_lips c_m_round c_m_first c_m_kind c_m_begins c_m_error c_m_now c_m_text c_m_length c_m_acts c_m_next c_m_row c_m_said c_m_saidOf c_m_saidWhat c_m_seed c_m_isKept c_m_kept) : ∃ s : LawS, (s.1 = x3 + 5 ∧ RelS (C + 1) s) ∧ ∀ k, f_L_law_168 k sL sxs c_b_letters c_b_slotTaken c_b_sown c_t_text c_r_part c_r_figuresTaken c_r_bowl c_r_secret c_d_bowls c_d_fishes c_d_lips c_d_hours c_d_start c_d_first c_d_kind c_d_post c_d_error c_p_bowls c_p_fishes c_p_lips c_p_hours c_p_start c_p_first c_p_kind c_p_post c_p_error c_n_place c_n_known c_n_left c_n_onDuty c_n_clock c_a_length c_a_ak c_a_pl c_a_kn c_a_lf c_a_od c_a_ck c_s_speaker c_s_said c_s_length c_o_kept c_o_oneHas c_o_otherHas c_y_place c_y_known c_y_left c_y_onDuty c_y_clock c_z_pl c_z_kn c_z_lf c_z_od c_z_ck c_m_bowls c_m_fishes c_m_lips c_m_round c_m_first c_m_kind c_m_begins c_m_error c_m_now c_m_readRound c_m_readFish c_m_readLip c_m_readIn c_m_readBowls c_m_readFishes c_m_readLips c_m_text c_m_length c_m_at c_m_faultAt c_m_acts c_m_next c_m_row c_m_oft c_m_said c_m_saidOf c_m_saidWhat c_m_seed c_m_isKept c_m_kept x3 = k s := by
  obtain ⟨B, F, Lp, A, X, S, T, ⟨rfl, rfl, rfl, rfl, rfl, rfl, rfl, rfl, rfl, rfl, rfl, rfl, rfl, rfl⟩, hP, hM, hA, hS, hY, hT⟩ := hR
  have hF := hP.F5
  obtain ⟨v, T', t1, t2, e1, e2, hT'⟩ := x_write hT y1
  refine ⟨?s, ⟨?h1, ?h2⟩, fun k => ?h3⟩
  case h3 =>
    unfold f_L_law_168
    rw [hx1, e1, Option.bind_some, hx1, e2, Option.bind_some]
    try dsimp only
    rw [if_pos rfl]
    exact rfl
  case h1 => exact rfl
  case h2 => exact mkLR hP (hM.mono hF (by omega)) (hA.mono hF (by omega)) (hS.mono hF (by omega)) hY hT'
theorem s_191 (hC : C ≤ 600)  (hR : LR C c_b_letters c_b_slotTaken c_b_sown c_t_text c_p_bowls c_p_fishes c_p_lips c_p_hours c_p_first c_p_kind c_p_post c_p_error c_n_place c_n_known c_n_left c_n_onDuty c_n_clock c_a_length c_a_pl c_a_kn c_a_lf c_a_od c_a_ck c_s_speaker c_s_said c_s_length c_z_pl c_z_kn c_z_lf c_z_od c_z_ck c_m_bowls c_m_fishes c_m_lips c_m_round c_m_first c_m_kind c_m_begins c_m_error c_m_now c_m_text c_m_length c_m_acts c_m_next c_m_row c_m_said c_m_saidOf c_m_saidWhat c_m_seed c_m_isKept c_m_kept) : ∃ s : LawS, (s.1 = x3 + 5 ∧ RelS (C + 1) s) ∧ ∀ k, f_L_law_191 k c_b_letters c_b_slotTaken c_b_sown c_t_text c_r_part c_r_figuresTaken c_r_bowl c_r_secret c_d_bowls c_d_fishes c_d_lips c_d_hours c_d_start c_d_first c_d_kind c_d_post c_d_error c_p_bowls c_p_fishes c_p_lips c_p_hours c_p_start c_p_first c_p_kind c_p_post c_p_error c_n_place c_n_known c_n_left c_n_onDuty c_n_clock c_a_length c_a_ak c_a_pl c_a_kn c_a_lf c_a_od c_a_ck c_s_speaker c_s_said c_s_length c_o_kept c_o_oneHas c_o_otherHas c_y_place c_y_known c_y_left c_y_onDuty c_y_clock c_z_pl c_z_kn c_z_lf c_z_od c_z_ck c_m_bowls c_m_fishes c_m_lips c_m_round c_m_first c_m_kind c_m_begins c_m_error c_m_now c_m_readRound c_m_readFish c_m_readLip c_m_readIn c_m_readBowls c_m_readFishes c_m_readLips c_m_text c_m_length c_m_at c_m_faultAt c_m_acts c_m_next c_m_row c_m_oft c_m_said c_m_saidOf c_m_saidWhat c_m_seed c_m_isKept c_m_kept x3 = k s := by
  obtain ⟨B, F, Lp, A, X, S, T, ⟨rfl, rfl, rfl, rfl, rfl, rfl, rfl, rfl, rfl, rfl, rfl, rfl, rfl, rfl⟩, hP, hM, hA, hS, hY, hT⟩ := hR
  have hF := hP.F5
  have e1 : f_X6_wipe (nI T) = some (nI T, nI 0) := rfl
  have e2 : f_X7_wipe (nI T) = some (nI T, nI 0) := rfl
  refine ⟨?s, ⟨?h1, ?h2⟩, fun k => ?h3⟩
  case h3 =>
    unfold f_L_law_191
    rw [e1, Option.bind_some, e2, Option.bind_some]
    try dsimp only
    rw [if_pos rfl]
    exact rfl
  case h1 => exact rfl
  case h2 => exact mkLR (T := 0) hP (hM.mono hF (by omega)) (hA.mono hF (by omega)) (hS.mono hF (by omega)) hY ⟨by omega, fun j hj => by omega⟩
theorem s_204 (hC : C ≤ 600)  (hR : LR C c_b_letters c_b_slotTaken c_b_sown c_t_text c_p_bowls c_p_fishes c_p_lips c_p_hours c_p_first c_p_kind c_p_post c_p_error c_n_place c_n_known c_n_left c_n_onDuty c_n_clock c_a_length c_a_pl c_a_kn c_a_lf c_a_od c_a_ck c_s_speaker c_s_said c_s_length c_z_pl c_z_kn c_z_lf c_z_od c_z_ck c_m_bowls c_m_fishes c_m_lips c_m_round c_m_first c_m_kind c_m_begins c_m_error c_m_now c_m_text c_m_length c_m_acts c_m_next c_m_row c_m_said c_m_saidOf c_m_saidWhat c_m_seed c_m_isKept c_m_kept) : ∃ s : LawS, (s.1 = x3 + 5 ∧ RelS (C + 1) s) ∧ ∀ k, f_L_law_204 k c_b_letters c_b_slotTaken c_b_sown c_t_text c_r_figuresTaken c_r_bowl c_r_secret c_d_hours c_d_start c_d_first c_d_kind c_d_post c_d_error c_p_bowls c_p_fishes c_p_lips c_p_hours c_p_start c_p_first c_p_kind c_p_post c_p_error c_n_place c_n_known c_n_left c_n_onDuty c_n_clock c_a_length c_a_ak c_a_pl c_a_kn c_a_lf c_a_od c_a_ck c_s_speaker c_s_said c_s_length c_o_kept c_o_oneHas c_o_otherHas c_y_place c_y_known c_y_left c_y_onDuty c_y_clock c_z_pl c_z_kn c_z_lf c_z_od c_z_ck c_m_bowls c_m_fishes c_m_lips c_m_round c_m_first c_m_kind c_m_begins c_m_error c_m_now c_m_readRound c_m_readFish c_m_readLip c_m_readIn c_m_text c_m_length c_m_acts c_m_next c_m_row c_m_oft c_m_said c_m_saidOf c_m_saidWhat c_m_seed c_m_isKept c_m_kept x3 = k s := by
  obtain ⟨B, F, Lp, A, X, S, T, ⟨rfl, rfl, rfl, rfl, rfl, rfl, rfl, rfl, rfl, rfl, rfl, rfl, rfl, rfl⟩, hP, hM, hA, hS, hY, hT⟩ := hR
  have hF := hP.F5
  obtain ⟨v, r1, r2, e1, e2⟩ := x_fault hT c_r_figuresTaken c_r_bowl c_r_secret c_d_hours c_d_start c_d_first c_d_kind c_d_post c_d_error c_m_readRound c_m_readFish c_m_readLip c_m_readIn
  refine ⟨?s, ⟨?h1, ?h2⟩, fun k => ?h3⟩
  case h3 =>
    unfold f_L_law_204
    rw [e1, Option.bind_some, e2, Option.bind_some]
    try dsimp only
    rw [if_pos rfl]
    exact rfl
  case h1 => exact rfl
  case h2 => exact mkLR hP (hM.mono hF (by omega)) (hA.mono hF (by omega)) (hS.mono hF (by omega)) hY hT
theorem s_217 (hC : C ≤ 600)  (hR : LR C c_b_letters c_b_slotTaken c_b_sown c_t_text c_p_bowls c_p_fishes c_p_lips c_p_hours c_p_first c_p_kind c_p_post c_p_error c_n_place c_n_known c_n_left c_n_onDuty c_n_clock c_a_length c_a_pl c_a_kn c_a_lf c_a_od c_a_ck c_s_speaker c_s_said c_s_length c_z_pl c_z_kn c_z_lf c_z_od c_z_ck c_m_bowls c_m_fishes c_m_lips c_m_round c_m_first c_m_kind c_m_begins c_m_error c_m_now c_m_text c_m_length c_m_acts c_m_next c_m_row c_m_said c_m_saidOf c_m_saidWhat c_m_seed c_m_isKept c_m_kept) : ∃ s : LawS, (s.1 = x3 + 5 ∧ RelS (C + 1) s) ∧ ∀ k, f_L_law_217 k c_b_letters c_b_slotTaken c_b_sown c_t_text c_r_figuresTaken c_r_bowl c_r_secret c_d_hours c_d_start c_d_first c_d_kind c_d_post c_d_error c_p_bowls c_p_fishes c_p_lips c_p_hours c_p_start c_p_first c_p_kind c_p_post c_p_error c_n_place c_n_known c_n_left c_n_onDuty c_n_clock c_a_length c_a_ak c_a_pl c_a_kn c_a_lf c_a_od c_a_ck c_s_speaker c_s_said c_s_length c_o_kept c_o_oneHas c_o_otherHas c_y_place c_y_known c_y_left c_y_onDuty c_y_clock c_z_pl c_z_kn c_z_lf c_z_od c_z_ck c_m_bowls c_m_fishes c_m_lips c_m_round c_m_first c_m_kind c_m_begins c_m_error c_m_now c_m_readRound c_m_readFish c_m_readLip c_m_readIn c_m_text c_m_length c_m_acts c_m_next c_m_row c_m_oft c_m_said c_m_saidOf c_m_saidWhat c_m_seed c_m_isKept c_m_kept x3 = k s := by
  obtain ⟨B, F, Lp, A, X, S, T, ⟨rfl, rfl, rfl, rfl, rfl, rfl, rfl, rfl, rfl, rfl, rfl, rfl, rfl, rfl⟩, hP, hM, hA, hS, hY, hT⟩ := hR
  have hF := hP.F5
  obtain ⟨v, tk', q1, q2, q3, q4, d1, d2, d3, d4, d5, d6, d7, d8, d9, B', F', Lp', hours', start', first', kind', post', error', pl', kn', lf', du', ck', A', round', first2', kind2', begins', error2', now', m1, m2, m3, m4, m5, m6, m7, m8, m9, isk', e1, e2, hP', hM', hA', hS'⟩ := x_hall hP hM hA hS hT c_r_figuresTaken c_r_bowl c_r_secret c_d_hours c_d_start c_d_first c_d_kind c_d_post c_d_error c_p_start c_m_readRound c_m_readFish c_m_readLip c_m_readIn
  refine ⟨?s, ⟨?h1, ?h2⟩, fun k => ?h3⟩
  case h3 =>
    unfold f_L_law_217
    rw [e1, Option.bind_some, e2, Option.bind_some]
    try dsimp only
    rw [if_pos rfl]
    exact rfl
  case h1 => exact rfl
  case h2 => exact mkLR hP' hM' hA' hS' hY hT
theorem s_230 (hC : C ≤ 600) {y1 y2 : Int32} (hx1 : ∀ {α : Type} (k : Int32 → Option α), rd sL sxs (x3 + 1) k = k y1) (hx2 : ∀ {α : Type} (k : Int32 → Option α), rd sL sxs (x3 + 2) k = k y2) (hR : LR C c_b_letters c_b_slotTaken c_b_sown c_t_text c_p_bowls c_p_fishes c_p_lips c_p_hours c_p_first c_p_kind c_p_post c_p_error c_n_place c_n_known c_n_left c_n_onDuty c_n_clock c_a_length c_a_pl c_a_kn c_a_lf c_a_od c_a_ck c_s_speaker c_s_said c_s_length c_z_pl c_z_kn c_z_lf c_z_od c_z_ck c_m_bowls c_m_fishes c_m_lips c_m_round c_m_first c_m_kind c_m_begins c_m_error c_m_now c_m_text c_m_length c_m_acts c_m_next c_m_row c_m_said c_m_saidOf c_m_saidWhat c_m_seed c_m_isKept c_m_kept) : ∃ s : LawS, (s.1 = x3 + 5 ∧ RelS (C + 1) s) ∧ ∀ k, f_L_law_230 k sL sxs c_b_letters c_b_slotTaken c_b_sown c_t_text c_r_part c_r_figuresTaken c_r_bowl c_r_secret c_d_bowls c_d_fishes c_d_lips c_d_hours c_d_start c_d_first c_d_kind c_d_post c_d_error c_p_bowls c_p_fishes c_p_lips c_p_hours c_p_start c_p_first c_p_kind c_p_post c_p_error c_n_place c_n_known c_n_left c_n_onDuty c_n_clock c_a_length c_a_ak c_a_pl c_a_kn c_a_lf c_a_od c_a_ck c_s_speaker c_s_said c_s_length c_o_kept c_o_oneHas c_o_otherHas c_y_place c_y_known c_y_left c_y_onDuty c_y_clock c_z_pl c_z_kn c_z_lf c_z_od c_z_ck c_m_bowls c_m_fishes c_m_lips c_m_round c_m_first c_m_kind c_m_begins c_m_error c_m_now c_m_readRound c_m_readFish c_m_readLip c_m_readIn c_m_readBowls c_m_readFishes c_m_readLips c_m_text c_m_length c_m_at c_m_faultAt c_m_acts c_m_next c_m_row c_m_oft c_m_said c_m_saidOf c_m_saidWhat c_m_seed c_m_isKept c_m_kept x3 = k s := by
  obtain ⟨B, F, Lp, A, X, S, T, ⟨rfl, rfl, rfl, rfl, rfl, rfl, rfl, rfl, rfl, rfl, rfl, rfl, rfl, rfl⟩, hP, hM, hA, hS, hY, hT⟩ := hR
  have hF := hP.F5
  obtain ⟨v, e1, e2⟩ := x_bowl hP hM (by omega) y1 y2
  refine ⟨?s, ⟨?h1, ?h2⟩, fun k => ?h3⟩
  case h3 =>
    unfold f_L_law_230
    rw [hx1, hx2, e1, Option.bind_some, hx1, hx2, e2, Option.bind_some]
    try dsimp only
    rw [if_pos rfl]
    exact rfl
  case h1 => exact rfl
  case h2 => exact mkLR hP (hM.mono hF (by omega)) (hA.mono hF (by omega)) (hS.mono hF (by omega)) hY hT
theorem s_263 (hC : C ≤ 600) {y1 y2 : Int32} (hx1 : ∀ {α : Type} (k : Int32 → Option α), rd sL sxs (x3 + 1) k = k y1) (hx2 : ∀ {α : Type} (k : Int32 → Option α), rd sL sxs (x3 + 2) k = k y2) (hR : LR C c_b_letters c_b_slotTaken c_b_sown c_t_text c_p_bowls c_p_fishes c_p_lips c_p_hours c_p_first c_p_kind c_p_post c_p_error c_n_place c_n_known c_n_left c_n_onDuty c_n_clock c_a_length c_a_pl c_a_kn c_a_lf c_a_od c_a_ck c_s_speaker c_s_said c_s_length c_z_pl c_z_kn c_z_lf c_z_od c_z_ck c_m_bowls c_m_fishes c_m_lips c_m_round c_m_first c_m_kind c_m_begins c_m_error c_m_now c_m_text c_m_length c_m_acts c_m_next c_m_row c_m_said c_m_saidOf c_m_saidWhat c_m_seed c_m_isKept c_m_kept) : ∃ s : LawS, (s.1 = x3 + 5 ∧ RelS (C + 1) s) ∧ ∀ k, f_L_law_263 k sL sxs c_b_letters c_b_slotTaken c_b_sown c_t_text c_r_part c_r_figuresTaken c_r_bowl c_r_secret c_d_bowls c_d_fishes c_d_lips c_d_hours c_d_start c_d_first c_d_kind c_d_post c_d_error c_p_bowls c_p_fishes c_p_lips c_p_hours c_p_start c_p_first c_p_kind c_p_post c_p_error c_n_place c_n_known c_n_left c_n_onDuty c_n_clock c_a_length c_a_ak c_a_pl c_a_kn c_a_lf c_a_od c_a_ck c_s_speaker c_s_said c_s_length c_o_kept c_o_oneHas c_o_otherHas c_y_place c_y_known c_y_left c_y_onDuty c_y_clock c_z_pl c_z_kn c_z_lf c_z_od c_z_ck c_m_bowls c_m_fishes c_m_lips c_m_round c_m_first c_m_kind c_m_begins c_m_error c_m_now c_m_readRound c_m_readFish c_m_readLip c_m_readIn c_m_readBowls c_m_readFishes c_m_readLips c_m_text c_m_length c_m_at c_m_faultAt c_m_acts c_m_next c_m_row c_m_oft c_m_said c_m_saidOf c_m_saidWhat c_m_seed c_m_isKept c_m_kept x3 = k s := by
  obtain ⟨B, F, Lp, A, X, S, T, ⟨rfl, rfl, rfl, rfl, rfl, rfl, rfl, rfl, rfl, rfl, rfl, rfl, rfl, rfl⟩, hP, hM, hA, hS, hY, hT⟩ := hR
  have hF := hP.F5
  obtain ⟨v, e1, e2⟩ := x_fish hP hM y1 y2
  refine ⟨?s, ⟨?h1, ?h2⟩, fun k => ?h3⟩
  case h3 =>
    unfold f_L_law_263
    rw [hx1, hx2, e1, Option.bind_some, hx1, hx2, e2, Option.bind_some]
    try dsimp only
    rw [if_pos rfl]
    exact rfl
  case h1 => exact rfl
  case h2 => exact mkLR hP (hM.mono hF (by omega)) (hA.mono hF (by omega)) (hS.mono hF (by omega)) hY hT
theorem s_296 (hC : C ≤ 600) {y1 y2 : Int32} (hx1 : ∀ {α : Type} (k : Int32 → Option α), rd sL sxs (x3 + 1) k = k y1) (hx2 : ∀ {α : Type} (k : Int32 → Option α), rd sL sxs (x3 + 2) k = k y2) (hR : LR C c_b_letters c_b_slotTaken c_b_sown c_t_text c_p_bowls c_p_fishes c_p_lips c_p_hours c_p_first c_p_kind c_p_post c_p_error c_n_place c_n_known c_n_left c_n_onDuty c_n_clock c_a_length c_a_pl c_a_kn c_a_lf c_a_od c_a_ck c_s_speaker c_s_said c_s_length c_z_pl c_z_kn c_z_lf c_z_od c_z_ck c_m_bowls c_m_fishes c_m_lips c_m_round c_m_first c_m_kind c_m_begins c_m_error c_m_now c_m_text c_m_length c_m_acts c_m_next c_m_row c_m_said c_m_saidOf c_m_saidWhat c_m_seed c_m_isKept c_m_kept) : ∃ s : LawS, (s.1 = x3 + 5 ∧ RelS (C + 1) s) ∧ ∀ k, f_L_law_296 k sL sxs c_b_letters c_b_slotTaken c_b_sown c_t_text c_r_part c_r_figuresTaken c_r_bowl c_r_secret c_d_bowls c_d_fishes c_d_lips c_d_hours c_d_start c_d_first c_d_kind c_d_post c_d_error c_p_bowls c_p_fishes c_p_lips c_p_hours c_p_start c_p_first c_p_kind c_p_post c_p_error c_n_place c_n_known c_n_left c_n_onDuty c_n_clock c_a_length c_a_ak c_a_pl c_a_kn c_a_lf c_a_od c_a_ck c_s_speaker c_s_said c_s_length c_o_kept c_o_oneHas c_o_otherHas c_y_place c_y_known c_y_left c_y_onDuty c_y_clock c_z_pl c_z_kn c_z_lf c_z_od c_z_ck c_m_bowls c_m_fishes c_m_lips c_m_round c_m_first c_m_kind c_m_begins c_m_error c_m_now c_m_readRound c_m_readFish c_m_readLip c_m_readIn c_m_readBowls c_m_readFishes c_m_readLips c_m_text c_m_length c_m_at c_m_faultAt c_m_acts c_m_next c_m_row c_m_oft c_m_said c_m_saidOf c_m_saidWhat c_m_seed c_m_isKept c_m_kept x3 = k s := by
  obtain ⟨B, F, Lp, A, X, S, T, ⟨rfl, rfl, rfl, rfl, rfl, rfl, rfl, rfl, rfl, rfl, rfl, rfl, rfl, rfl⟩, hP, hM, hA, hS, hY, hT⟩ := hR
  have hF := hP.F5
  obtain ⟨v, e1, e2⟩ := x_lip hP hM y1 y2
  refine ⟨?s, ⟨?h1, ?h2⟩, fun k => ?h3⟩
  case h3 =>
    unfold f_L_law_296
    rw [hx1, hx2, e1, Option.bind_some, hx1, hx2, e2, Option.bind_some]
    try dsimp only
    rw [if_pos rfl]
    exact rfl
  case h1 => exact rfl
  case h2 => exact mkLR hP (hM.mono hF (by omega)) (hA.mono hF (by omega)) (hS.mono hF (by omega)) hY hT
theorem s_329 (hC : C ≤ 600)  (hR : LR C c_b_letters c_b_slotTaken c_b_sown c_t_text c_p_bowls c_p_fishes c_p_lips c_p_hours c_p_first c_p_kind c_p_post c_p_error c_n_place c_n_known c_n_left c_n_onDuty c_n_clock c_a_length c_a_pl c_a_kn c_a_lf c_a_od c_a_ck c_s_speaker c_s_said c_s_length c_z_pl c_z_kn c_z_lf c_z_od c_z_ck c_m_bowls c_m_fishes c_m_lips c_m_round c_m_first c_m_kind c_m_begins c_m_error c_m_now c_m_text c_m_length c_m_acts c_m_next c_m_row c_m_said c_m_saidOf c_m_saidWhat c_m_seed c_m_isKept c_m_kept) : ∃ s : LawS, (s.1 = x3 + 5 ∧ RelS (C + 1) s) ∧ ∀ k, f_L_law_329 k c_b_letters c_b_slotTaken c_b_sown c_t_text c_r_part c_r_figuresTaken c_r_bowl c_r_secret c_d_bowls c_d_fishes c_d_lips c_d_hours c_d_start c_d_first c_d_kind c_d_post c_d_error c_p_bowls c_p_fishes c_p_lips c_p_hours c_p_start c_p_first c_p_kind c_p_post c_p_error c_n_place c_n_known c_n_left c_n_onDuty c_n_clock c_a_length c_a_ak c_a_pl c_a_kn c_a_lf c_a_od c_a_ck c_s_speaker c_s_said c_s_length c_o_kept c_o_oneHas c_o_otherHas c_y_place c_y_known c_y_left c_y_onDuty c_y_clock c_z_pl c_z_kn c_z_lf c_z_od c_z_ck c_m_bowls c_m_fishes c_m_lips c_m_round c_m_first c_m_kind c_m_begins c_m_error c_m_now c_m_readRound c_m_readFish c_m_readLip c_m_readIn c_m_readBowls c_m_readFishes c_m_readLips c_m_text c_m_length c_m_at c_m_faultAt c_m_acts c_m_next c_m_row c_m_oft c_m_said c_m_saidOf c_m_saidWhat c_m_seed c_m_isKept c_m_kept x3 = k s := by
  obtain ⟨B, F, Lp, A, X, S, T, ⟨rfl, rfl, rfl, rfl, rfl, rfl, rfl, rfl, rfl, rfl, rfl, rfl, rfl, rfl⟩, hP, hM, hA, hS, hY, hT⟩ := hR
  have hF := hP.F5
  obtain ⟨v, kn', lf', ck', A', X', ak', pls', kns', lfs', ods', cks', now', row', e1, e2, hM', hA'⟩ := x_hour hP hM hA (by omega) c_a_ak
  refine ⟨?s, ⟨?h1, ?h2⟩, fun k => ?h3⟩
  case h3 =>
    unfold f_L_law_329
    rw [e1, Option.bind_some, e2, Option.bind_some]
    try dsimp only
    rw [if_pos rfl]
    exact rfl
  case h1 => exact rfl
  case h2 => exact mkLR hP hM' hA' (hS.mono hF (by omega)) hY hT
theorem s_342 (hC : C ≤ 600) {y1 y2 : Int32} (hx1 : ∀ {α : Type} (k : Int32 → Option α), rd sL sxs (x3 + 1) k = k y1) (hx2 : ∀ {α : Type} (k : Int32 → Option α), rd sL sxs (x3 + 2) k = k y2) (hR : LR C c_b_letters c_b_slotTaken c_b_sown c_t_text c_p_bowls c_p_fishes c_p_lips c_p_hours c_p_first c_p_kind c_p_post c_p_error c_n_place c_n_known c_n_left c_n_onDuty c_n_clock c_a_length c_a_pl c_a_kn c_a_lf c_a_od c_a_ck c_s_speaker c_s_said c_s_length c_z_pl c_z_kn c_z_lf c_z_od c_z_ck c_m_bowls c_m_fishes c_m_lips c_m_round c_m_first c_m_kind c_m_begins c_m_error c_m_now c_m_text c_m_length c_m_acts c_m_next c_m_row c_m_said c_m_saidOf c_m_saidWhat c_m_seed c_m_isKept c_m_kept) : ∃ s : LawS, (s.1 = x3 + 5 ∧ RelS (C + 1) s) ∧ ∀ k, f_L_law_342 k sL sxs c_b_letters c_b_slotTaken c_b_sown c_t_text c_r_part c_r_figuresTaken c_r_bowl c_r_secret c_d_bowls c_d_fishes c_d_lips c_d_hours c_d_start c_d_first c_d_kind c_d_post c_d_error c_p_bowls c_p_fishes c_p_lips c_p_hours c_p_start c_p_first c_p_kind c_p_post c_p_error c_n_place c_n_known c_n_left c_n_onDuty c_n_clock c_a_length c_a_ak c_a_pl c_a_kn c_a_lf c_a_od c_a_ck c_s_speaker c_s_said c_s_length c_o_kept c_o_oneHas c_o_otherHas c_y_place c_y_known c_y_left c_y_onDuty c_y_clock c_z_pl c_z_kn c_z_lf c_z_od c_z_ck c_m_bowls c_m_fishes c_m_lips c_m_round c_m_first c_m_kind c_m_begins c_m_error c_m_now c_m_readRound c_m_readFish c_m_readLip c_m_readIn c_m_readBowls c_m_readFishes c_m_readLips c_m_text c_m_length c_m_at c_m_faultAt c_m_acts c_m_next c_m_row c_m_oft c_m_said c_m_saidOf c_m_saidWhat c_m_seed c_m_isKept c_m_kept x3 = k s := by
  obtain ⟨B, F, Lp, A, X, S, T, ⟨rfl, rfl, rfl, rfl, rfl, rfl, rfl, rfl, rfl, rfl, rfl, rfl, rfl, rfl⟩, hP, hM, hA, hS, hY, hT⟩ := hR
  have hF := hP.F5
  obtain ⟨v, pl', lf', A', X', ak', pls', kns', lfs', ods', cks', now', row', e1, e2, hM', hA'⟩ := x_move hP hM hA c_a_ak y1 y2
  refine ⟨?s, ⟨?h1, ?h2⟩, fun k => ?h3⟩
  case h3 =>
    unfold f_L_law_342
    rw [hx1, hx2, e1, Option.bind_some, hx1, hx2, e2, Option.bind_some]
    try dsimp only
    rw [if_pos rfl]
    exact rfl
  case h1 => exact rfl
  case h2 => exact mkLR hP hM' hA' (hS.mono hF (by omega)) hY hT
theorem s_375 (hC : C ≤ 600) {y1 : Int32} (hx1 : ∀ {α : Type} (k : Int32 → Option α), rd sL sxs (x3 + 1) k = k y1) (hR : LR C c_b_letters c_b_slotTaken c_b_sown c_t_text c_p_bowls c_p_fishes c_p_lips c_p_hours c_p_first c_p_kind c_p_post c_p_error c_n_place c_n_known c_n_left c_n_onDuty c_n_clock c_a_length c_a_pl c_a_kn c_a_lf c_a_od c_a_ck c_s_speaker c_s_said c_s_length c_z_pl c_z_kn c_z_lf c_z_od c_z_ck c_m_bowls c_m_fishes c_m_lips c_m_round c_m_first c_m_kind c_m_begins c_m_error c_m_now c_m_text c_m_length c_m_acts c_m_next c_m_row c_m_said c_m_saidOf c_m_saidWhat c_m_seed c_m_isKept c_m_kept) : ∃ s : LawS, (s.1 = x3 + 5 ∧ RelS (C + 1) s) ∧ ∀ k, f_L_law_375 k sL sxs c_b_letters c_b_slotTaken c_b_sown c_t_text c_r_part c_r_figuresTaken c_r_bowl c_r_secret c_d_bowls c_d_fishes c_d_lips c_d_hours c_d_start c_d_first c_d_kind c_d_post c_d_error c_p_bowls c_p_fishes c_p_lips c_p_hours c_p_start c_p_first c_p_kind c_p_post c_p_error c_n_place c_n_known c_n_left c_n_onDuty c_n_clock c_a_length c_a_ak c_a_pl c_a_kn c_a_lf c_a_od c_a_ck c_s_speaker c_s_said c_s_length c_o_kept c_o_oneHas c_o_otherHas c_y_place c_y_known c_y_left c_y_onDuty c_y_clock c_z_pl c_z_kn c_z_lf c_z_od c_z_ck c_m_bowls c_m_fishes c_m_lips c_m_round c_m_first c_m_kind c_m_begins c_m_error c_m_now c_m_readRound c_m_readFish c_m_readLip c_m_readIn c_m_readBowls c_m_readFishes c_m_readLips c_m_text c_m_length c_m_at c_m_faultAt c_m_acts c_m_next c_m_row c_m_oft c_m_said c_m_saidOf c_m_saidWhat c_m_seed c_m_isKept c_m_kept x3 = k s := by
  obtain ⟨B, F, Lp, A, X, S, T, ⟨rfl, rfl, rfl, rfl, rfl, rfl, rfl, rfl, rfl, rfl, rfl, rfl, rfl, rfl⟩, hP, hM, hA, hS, hY, hT⟩ := hR
  have hF := hP.F5
  obtain ⟨v, kn', lf', A', X', ak', pls', kns', lfs', ods', cks', now', row', e1, e2, hM', hA'⟩ := x_waters hP hM hA c_a_ak y1
  refine ⟨?s, ⟨?h1, ?h2⟩, fun k => ?h3⟩
  case h3 =>
    unfold f_L_law_375
    rw [hx1, e1, Option.bind_some, hx1, e2, Option.bind_some]
    try dsimp only
    rw [if_pos rfl]
    exact rfl
  case h1 => exact rfl
  case h2 => exact mkLR hP hM' hA' (hS.mono hF (by omega)) hY hT
theorem s_398 (hC : C ≤ 600) {y1 y2 : Int32} (hx1 : ∀ {α : Type} (k : Int32 → Option α), rd sL sxs (x3 + 1) k = k y1) (hx2 : ∀ {α : Type} (k : Int32 → Option α), rd sL sxs (x3 + 2) k = k y2) (hR : LR C c_b_letters c_b_slotTaken c_b_sown c_t_text c_p_bowls c_p_fishes c_p_lips c_p_hours c_p_first c_p_kind c_p_post c_p_error c_n_place c_n_known c_n_left c_n_onDuty c_n_clock c_a_length c_a_pl c_a_kn c_a_lf c_a_od c_a_ck c_s_speaker c_s_said c_s_length c_z_pl c_z_kn c_z_lf c_z_od c_z_ck c_m_bowls c_m_fishes c_m_lips c_m_round c_m_first c_m_kind c_m_begins c_m_error c_m_now c_m_text c_m_length c_m_acts c_m_next c_m_row c_m_said c_m_saidOf c_m_saidWhat c_m_seed c_m_isKept c_m_kept) : ∃ s : LawS, (s.1 = x3 + 5 ∧ RelS (C + 1) s) ∧ ∀ k, f_L_law_398 k sL sxs c_b_letters c_b_slotTaken c_b_sown c_t_text c_r_part c_r_figuresTaken c_r_bowl c_r_secret c_d_bowls c_d_fishes c_d_lips c_d_hours c_d_start c_d_first c_d_kind c_d_post c_d_error c_p_bowls c_p_fishes c_p_lips c_p_hours c_p_start c_p_first c_p_kind c_p_post c_p_error c_n_place c_n_known c_n_left c_n_onDuty c_n_clock c_a_length c_a_ak c_a_pl c_a_kn c_a_lf c_a_od c_a_ck c_s_speaker c_s_said c_s_length c_o_kept c_o_oneHas c_o_otherHas c_y_place c_y_known c_y_left c_y_onDuty c_y_clock c_z_pl c_z_kn c_z_lf c_z_od c_z_ck c_m_bowls c_m_fishes c_m_lips c_m_round c_m_first c_m_kind c_m_begins c_m_error c_m_now c_m_readRound c_m_readFish c_m_readLip c_m_readIn c_m_readBowls c_m_readFishes c_m_readLips c_m_text c_m_length c_m_at c_m_faultAt c_m_acts c_m_next c_m_row c_m_oft c_m_said c_m_saidOf c_m_saidWhat c_m_seed c_m_isKept c_m_kept x3 = k s := by
  obtain ⟨B, F, Lp, A, X, S, T, ⟨rfl, rfl, rfl, rfl, rfl, rfl, rfl, rfl, rfl, rfl, rfl, rfl, rfl, rfl⟩, hP, hM, hA, hS, hY, hT⟩ := hR
  have hF := hP.F5
  obtain ⟨v, kn', lf', A', X', ak', pls', kns', lfs', ods', cks', now', row', e1, e2, hM', hA'⟩ := x_tell hP hM hA c_a_ak y1 y2
  refine ⟨?s, ⟨?h1, ?h2⟩, fun k => ?h3⟩
  case h3 =>
    unfold f_L_law_398
    rw [hx1, hx2, e1, Option.bind_some, hx1, hx2, e2, Option.bind_some]
    try dsimp only
    rw [if_pos rfl]
    exact rfl
  case h1 => exact rfl
  case h2 => exact mkLR hP hM' hA' (hS.mono hF (by omega)) hY hT
theorem s_431 (hC : C ≤ 600) {y1 : Int32} (hx1 : ∀ {α : Type} (k : Int32 → Option α), rd sL sxs (x3 + 1) k = k y1) (hR : LR C c_b_letters c_b_slotTaken c_b_sown c_t_text c_p_bowls c_p_fishes c_p_lips c_p_hours c_p_first c_p_kind c_p_post c_p_error c_n_place c_n_known c_n_left c_n_onDuty c_n_clock c_a_length c_a_pl c_a_kn c_a_lf c_a_od c_a_ck c_s_speaker c_s_said c_s_length c_z_pl c_z_kn c_z_lf c_z_od c_z_ck c_m_bowls c_m_fishes c_m_lips c_m_round c_m_first c_m_kind c_m_begins c_m_error c_m_now c_m_text c_m_length c_m_acts c_m_next c_m_row c_m_said c_m_saidOf c_m_saidWhat c_m_seed c_m_isKept c_m_kept) : ∃ s : LawS, (s.1 = x3 + 5 ∧ RelS (C + 1) s) ∧ ∀ k, f_L_law_431 k sL sxs c_b_letters c_b_slotTaken c_b_sown c_t_text c_r_part c_r_figuresTaken c_r_bowl c_r_secret c_d_bowls c_d_fishes c_d_lips c_d_hours c_d_start c_d_first c_d_kind c_d_post c_d_error c_p_bowls c_p_fishes c_p_lips c_p_hours c_p_start c_p_first c_p_kind c_p_post c_p_error c_n_place c_n_known c_n_left c_n_onDuty c_n_clock c_a_length c_a_ak c_a_pl c_a_kn c_a_lf c_a_od c_a_ck c_s_speaker c_s_said c_s_length c_o_kept c_o_oneHas c_o_otherHas c_y_place c_y_known c_y_left c_y_onDuty c_y_clock c_z_pl c_z_kn c_z_lf c_z_od c_z_ck c_m_bowls c_m_fishes c_m_lips c_m_round c_m_first c_m_kind c_m_begins c_m_error c_m_now c_m_readRound c_m_readFish c_m_readLip c_m_readIn c_m_readBowls c_m_readFishes c_m_readLips c_m_text c_m_length c_m_at c_m_faultAt c_m_acts c_m_next c_m_row c_m_oft c_m_said c_m_saidOf c_m_saidWhat c_m_seed c_m_isKept c_m_kept x3 = k s := by
  obtain ⟨B, F, Lp, A, X, S, T, ⟨rfl, rfl, rfl, rfl, rfl, rfl, rfl, rfl, rfl, rfl, rfl, rfl, rfl, rfl⟩, hP, hM, hA, hS, hY, hT⟩ := hR
  have hF := hP.F5
  obtain ⟨v, du', A', X', ak', pls', kns', lfs', ods', cks', now', row', e1, e2, hM', hA'⟩ := x_duty hP hM hA c_a_ak y1
  refine ⟨?s, ⟨?h1, ?h2⟩, fun k => ?h3⟩
  case h3 =>
    unfold f_L_law_431
    rw [hx1, e1, Option.bind_some, hx1, e2, Option.bind_some]
    try dsimp only
    rw [if_pos rfl]
    exact rfl
  case h1 => exact rfl
  case h2 => exact mkLR hP hM' hA' (hS.mono hF (by omega)) hY hT
theorem s_454 (hC : C ≤ 600)  (hR : LR C c_b_letters c_b_slotTaken c_b_sown c_t_text c_p_bowls c_p_fishes c_p_lips c_p_hours c_p_first c_p_kind c_p_post c_p_error c_n_place c_n_known c_n_left c_n_onDuty c_n_clock c_a_length c_a_pl c_a_kn c_a_lf c_a_od c_a_ck c_s_speaker c_s_said c_s_length c_z_pl c_z_kn c_z_lf c_z_od c_z_ck c_m_bowls c_m_fishes c_m_lips c_m_round c_m_first c_m_kind c_m_begins c_m_error c_m_now c_m_text c_m_length c_m_acts c_m_next c_m_row c_m_said c_m_saidOf c_m_saidWhat c_m_seed c_m_isKept c_m_kept) : ∃ s : LawS, (s.1 = x3 + 5 ∧ RelS (C + 1) s) ∧ ∀ k, f_L_law_454 k c_b_letters c_b_slotTaken c_b_sown c_t_text c_r_part c_r_figuresTaken c_r_bowl c_r_secret c_d_bowls c_d_fishes c_d_lips c_d_hours c_d_start c_d_first c_d_kind c_d_post c_d_error c_p_bowls c_p_fishes c_p_lips c_p_hours c_p_start c_p_first c_p_kind c_p_post c_p_error c_n_place c_n_known c_n_left c_n_onDuty c_n_clock c_a_length c_a_ak c_a_pl c_a_kn c_a_lf c_a_od c_a_ck c_s_speaker c_s_said c_s_length c_o_kept c_o_oneHas c_o_otherHas c_y_place c_y_known c_y_left c_y_onDuty c_y_clock c_z_pl c_z_kn c_z_lf c_z_od c_z_ck c_m_bowls c_m_fishes c_m_lips c_m_round c_m_first c_m_kind c_m_begins c_m_error c_m_now c_m_readRound c_m_readFish c_m_readLip c_m_readIn c_m_readBowls c_m_readFishes c_m_readLips c_m_text c_m_length c_m_at c_m_faultAt c_m_acts c_m_next c_m_row c_m_oft c_m_said c_m_saidOf c_m_saidWhat c_m_seed c_m_isKept c_m_kept x3 = k s := by
  obtain ⟨B, F, Lp, A, X, S, T, ⟨rfl, rfl, rfl, rfl, rfl, rfl, rfl, rfl, rfl, rfl, rfl, rfl, rfl, rfl⟩, hP, hM, hA, hS, hY, hT⟩ := hR
  have hF := hP.F5
  obtain ⟨v, pl', kn', lf', du', ck', now', A', X', e1, e2, hM', hA'⟩ := x_undo hF hM hA
  refine ⟨?s, ⟨?h1, ?h2⟩, fun k => ?h3⟩
  case h3 =>
    unfold f_L_law_454
    rw [e1, Option.bind_some, e2, Option.bind_some]
    try dsimp only
    rw [if_pos rfl]
    exact rfl
  case h1 => exact rfl
  case h2 => exact mkLR hP (hM'.mono hF (by omega)) (hA'.mono hF (by omega)) (hS.mono hF (by omega)) hY hT
theorem s_467 (hC : C ≤ 600) {y1 y2 : Int32} (hx1 : ∀ {α : Type} (k : Int32 → Option α), rd sL sxs (x3 + 1) k = k y1) (hx2 : ∀ {α : Type} (k : Int32 → Option α), rd sL sxs (x3 + 2) k = k y2) (hR : LR C c_b_letters c_b_slotTaken c_b_sown c_t_text c_p_bowls c_p_fishes c_p_lips c_p_hours c_p_first c_p_kind c_p_post c_p_error c_n_place c_n_known c_n_left c_n_onDuty c_n_clock c_a_length c_a_pl c_a_kn c_a_lf c_a_od c_a_ck c_s_speaker c_s_said c_s_length c_z_pl c_z_kn c_z_lf c_z_od c_z_ck c_m_bowls c_m_fishes c_m_lips c_m_round c_m_first c_m_kind c_m_begins c_m_error c_m_now c_m_text c_m_length c_m_acts c_m_next c_m_row c_m_said c_m_saidOf c_m_saidWhat c_m_seed c_m_isKept c_m_kept) : ∃ s : LawS, (s.1 = x3 + 5 ∧ RelS (C + 1) s) ∧ ∀ k, f_L_law_467 k sL sxs c_b_letters c_b_slotTaken c_b_sown c_t_text c_r_part c_r_figuresTaken c_r_bowl c_r_secret c_d_bowls c_d_fishes c_d_lips c_d_hours c_d_start c_d_first c_d_kind c_d_post c_d_error c_p_bowls c_p_fishes c_p_lips c_p_hours c_p_start c_p_first c_p_kind c_p_post c_p_error c_n_place c_n_known c_n_left c_n_onDuty c_n_clock c_a_length c_a_ak c_a_pl c_a_kn c_a_lf c_a_od c_a_ck c_s_speaker c_s_said c_s_length c_o_kept c_o_oneHas c_o_otherHas c_y_place c_y_known c_y_left c_y_onDuty c_y_clock c_z_pl c_z_kn c_z_lf c_z_od c_z_ck c_m_bowls c_m_fishes c_m_lips c_m_round c_m_first c_m_kind c_m_begins c_m_error c_m_now c_m_readRound c_m_readFish c_m_readLip c_m_readIn c_m_readBowls c_m_readFishes c_m_readLips c_m_text c_m_length c_m_at c_m_faultAt c_m_acts c_m_next c_m_row c_m_oft c_m_said c_m_saidOf c_m_saidWhat c_m_seed c_m_isKept c_m_kept x3 = k s := by
  obtain ⟨B, F, Lp, A, X, S, T, ⟨rfl, rfl, rfl, rfl, rfl, rfl, rfl, rfl, rfl, rfl, rfl, rfl, rfl, rfl⟩, hP, hM, hA, hS, hY, hT⟩ := hR
  have hF := hP.F5
  obtain ⟨v, r, now', e1, e2, hr⟩ := x_aheads hP hM (by omega) c_y_place c_y_known c_y_left c_y_onDuty c_y_clock y1 y2
  refine ⟨?s, ⟨?h1, ?h2⟩, fun k => ?h3⟩
  case h3 =>
    unfold f_L_law_467
    rw [hx1, hx2, e1, Option.bind_some, hx1, hx2, e2, Option.bind_some]
    try dsimp only
    rw [if_pos rfl]
    exact rfl
  case h1 => exact rfl
  case h2 => exact mkLR hP (hM.fr hF hr) (hA.mono hF (by omega)) (hS.mono hF (by omega)) hY hT
theorem s_500 (hC : C ≤ 600) {y1 : Int32} (hx1 : ∀ {α : Type} (k : Int32 → Option α), rd sL sxs (x3 + 1) k = k y1) (hR : LR C c_b_letters c_b_slotTaken c_b_sown c_t_text c_p_bowls c_p_fishes c_p_lips c_p_hours c_p_first c_p_kind c_p_post c_p_error c_n_place c_n_known c_n_left c_n_onDuty c_n_clock c_a_length c_a_pl c_a_kn c_a_lf c_a_od c_a_ck c_s_speaker c_s_said c_s_length c_z_pl c_z_kn c_z_lf c_z_od c_z_ck c_m_bowls c_m_fishes c_m_lips c_m_round c_m_first c_m_kind c_m_begins c_m_error c_m_now c_m_text c_m_length c_m_acts c_m_next c_m_row c_m_said c_m_saidOf c_m_saidWhat c_m_seed c_m_isKept c_m_kept) : ∃ s : LawS, (s.1 = x3 + 5 ∧ RelS (C + 1) s) ∧ ∀ k, f_L_law_500 k sL sxs c_b_letters c_b_slotTaken c_b_sown c_t_text c_r_part c_r_figuresTaken c_r_bowl c_r_secret c_d_bowls c_d_fishes c_d_lips c_d_hours c_d_start c_d_first c_d_kind c_d_post c_d_error c_p_bowls c_p_fishes c_p_lips c_p_hours c_p_start c_p_first c_p_kind c_p_post c_p_error c_n_place c_n_known c_n_left c_n_onDuty c_n_clock c_a_length c_a_ak c_a_pl c_a_kn c_a_lf c_a_od c_a_ck c_s_speaker c_s_said c_s_length c_o_kept c_o_oneHas c_o_otherHas c_y_place c_y_known c_y_left c_y_onDuty c_y_clock c_z_pl c_z_kn c_z_lf c_z_od c_z_ck c_m_bowls c_m_fishes c_m_lips c_m_round c_m_first c_m_kind c_m_begins c_m_error c_m_now c_m_readRound c_m_readFish c_m_readLip c_m_readIn c_m_readBowls c_m_readFishes c_m_readLips c_m_text c_m_length c_m_at c_m_faultAt c_m_acts c_m_next c_m_row c_m_oft c_m_said c_m_saidOf c_m_saidWhat c_m_seed c_m_isKept c_m_kept x3 = k s := by
  obtain ⟨B, F, Lp, A, X, S, T, ⟨rfl, rfl, rfl, rfl, rfl, rfl, rfl, rfl, rfl, rfl, rfl, rfl, rfl, rfl⟩, hP, hM, hA, hS, hY, hT⟩ := hR
  have hF := hP.F5
  obtain ⟨v, r, now', e1, e2, hr⟩ := x_losts hP hM (by omega) c_y_place c_y_known c_y_left c_y_onDuty c_y_clock y1
  refine ⟨?s, ⟨?h1, ?h2⟩, fun k => ?h3⟩
  case h3 =>
    unfold f_L_law_500
    rw [hx1, e1, Option.bind_some, hx1, e2, Option.bind_some]
    try dsimp only
    rw [if_pos rfl]
    exact rfl
  case h1 => exact rfl
  case h2 => exact mkLR hP (hM.fr hF hr) (hA.mono hF (by omega)) (hS.mono hF (by omega)) hY hT
theorem s_523 (hC : C ≤ 600)  (hR : LR C c_b_letters c_b_slotTaken c_b_sown c_t_text c_p_bowls c_p_fishes c_p_lips c_p_hours c_p_first c_p_kind c_p_post c_p_error c_n_place c_n_known c_n_left c_n_onDuty c_n_clock c_a_length c_a_pl c_a_kn c_a_lf c_a_od c_a_ck c_s_speaker c_s_said c_s_length c_z_pl c_z_kn c_z_lf c_z_od c_z_ck c_m_bowls c_m_fishes c_m_lips c_m_round c_m_first c_m_kind c_m_begins c_m_error c_m_now c_m_text c_m_length c_m_acts c_m_next c_m_row c_m_said c_m_saidOf c_m_saidWhat c_m_seed c_m_isKept c_m_kept) : ∃ s : LawS, (s.1 = x3 + 5 ∧ RelS (C + 1) s) ∧ ∀ k, f_L_law_523 k c_b_letters c_b_slotTaken c_b_sown c_t_text c_r_part c_r_figuresTaken c_r_bowl c_r_secret c_d_bowls c_d_fishes c_d_lips c_d_hours c_d_start c_d_first c_d_kind c_d_post c_d_error c_p_bowls c_p_fishes c_p_lips c_p_hours c_p_start c_p_first c_p_kind c_p_post c_p_error c_n_place c_n_known c_n_left c_n_onDuty c_n_clock c_a_length c_a_ak c_a_pl c_a_kn c_a_lf c_a_od c_a_ck c_s_speaker c_s_said c_s_length c_o_kept c_o_oneHas c_o_otherHas c_y_place c_y_known c_y_left c_y_onDuty c_y_clock c_z_pl c_z_kn c_z_lf c_z_od c_z_ck c_m_bowls c_m_fishes c_m_lips c_m_round c_m_first c_m_kind c_m_begins c_m_error c_m_now c_m_readRound c_m_readFish c_m_readLip c_m_readIn c_m_readBowls c_m_readFishes c_m_readLips c_m_text c_m_length c_m_at c_m_faultAt c_m_acts c_m_next c_m_row c_m_oft c_m_said c_m_saidOf c_m_saidWhat c_m_seed c_m_isKept c_m_kept x3 = k s := by
  obtain ⟨B, F, Lp, A, X, S, T, ⟨rfl, rfl, rfl, rfl, rfl, rfl, rfl, rfl, rfl, rfl, rfl, rfl, rfl, rfl⟩, hP, hM, hA, hS, hY, hT⟩ := hR
  have hF := hP.F5
  obtain ⟨v, r, now', e1, e2, hr⟩ := x_crews hP hM (by omega) c_o_kept c_y_place c_y_known c_y_left c_y_onDuty c_y_clock
  refine ⟨?s, ⟨?h1, ?h2⟩, fun k => ?h3⟩
  case h3 =>
    unfold f_L_law_523
    rw [e1, Option.bind_some, e2, Option.bind_some]
    try dsimp only
    rw [if_pos rfl]
    exact rfl
  case h1 => exact rfl
  case h2 => exact mkLR hP (hM.fr hF hr) (hA.mono hF (by omega)) (hS.mono hF (by omega)) hY hT
theorem s_536 (hC : C ≤ 600) {y1 y2 : Int32} (hx1 : ∀ {α : Type} (k : Int32 → Option α), rd sL sxs (x3 + 1) k = k y1) (hx2 : ∀ {α : Type} (k : Int32 → Option α), rd sL sxs (x3 + 2) k = k y2) (hR : LR C c_b_letters c_b_slotTaken c_b_sown c_t_text c_p_bowls c_p_fishes c_p_lips c_p_hours c_p_first c_p_kind c_p_post c_p_error c_n_place c_n_known c_n_left c_n_onDuty c_n_clock c_a_length c_a_pl c_a_kn c_a_lf c_a_od c_a_ck c_s_speaker c_s_said c_s_length c_z_pl c_z_kn c_z_lf c_z_od c_z_ck c_m_bowls c_m_fishes c_m_lips c_m_round c_m_first c_m_kind c_m_begins c_m_error c_m_now c_m_text c_m_length c_m_acts c_m_next c_m_row c_m_said c_m_saidOf c_m_saidWhat c_m_seed c_m_isKept c_m_kept) : ∃ s : LawS, (s.1 = x3 + 5 ∧ RelS (C + 1) s) ∧ ∀ k, f_L_law_536 k sL sxs c_b_letters c_b_slotTaken c_b_sown c_t_text c_r_part c_r_figuresTaken c_r_bowl c_r_secret c_d_bowls c_d_fishes c_d_lips c_d_hours c_d_start c_d_first c_d_kind c_d_post c_d_error c_p_bowls c_p_fishes c_p_lips c_p_hours c_p_start c_p_first c_p_kind c_p_post c_p_error c_n_place c_n_known c_n_left c_n_onDuty c_n_clock c_a_length c_a_ak c_a_pl c_a_kn c_a_lf c_a_od c_a_ck c_s_speaker c_s_said c_s_length c_o_kept c_o_oneHas c_o_otherHas c_y_place c_y_known c_y_left c_y_onDuty c_y_clock c_z_pl c_z_kn c_z_lf c_z_od c_z_ck c_m_bowls c_m_fishes c_m_lips c_m_round c_m_first c_m_kind c_m_begins c_m_error c_m_now c_m_readRound c_m_readFish c_m_readLip c_m_readIn c_m_readBowls c_m_readFishes c_m_readLips c_m_text c_m_length c_m_at c_m_faultAt c_m_acts c_m_next c_m_row c_m_oft c_m_said c_m_saidOf c_m_saidWhat c_m_seed c_m_isKept c_m_kept x3 = k s := by
  obtain ⟨B, F, Lp, A, X, S, T, ⟨rfl, rfl, rfl, rfl, rfl, rfl, rfl, rfl, rfl, rfl, rfl, rfl, rfl, rfl⟩, hP, hM, hA, hS, hY, hT⟩ := hR
  have hF := hP.F5
  obtain ⟨v, r, now', oft', e1, e2, hr⟩ := x_keeps hP hM (by omega) c_o_kept c_y_place c_y_known c_y_left c_m_oft c_y_onDuty c_y_clock y1 y2
  refine ⟨?s, ⟨?h1, ?h2⟩, fun k => ?h3⟩
  case h3 =>
    unfold f_L_law_536
    rw [hx1, hx2, e1, Option.bind_some, hx1, hx2, e2, Option.bind_some]
    try dsimp only
    rw [if_pos rfl]
    exact rfl
  case h1 => exact rfl
  case h2 => exact mkLR hP (hM.fr hF hr) (hA.mono hF (by omega)) (hS.mono hF (by omega)) hY hT
theorem s_569 (hC : C ≤ 600) {y1 : Int32} (hx1 : ∀ {α : Type} (k : Int32 → Option α), rd sL sxs (x3 + 1) k = k y1) (hR : LR C c_b_letters c_b_slotTaken c_b_sown c_t_text c_p_bowls c_p_fishes c_p_lips c_p_hours c_p_first c_p_kind c_p_post c_p_error c_n_place c_n_known c_n_left c_n_onDuty c_n_clock c_a_length c_a_pl c_a_kn c_a_lf c_a_od c_a_ck c_s_speaker c_s_said c_s_length c_z_pl c_z_kn c_z_lf c_z_od c_z_ck c_m_bowls c_m_fishes c_m_lips c_m_round c_m_first c_m_kind c_m_begins c_m_error c_m_now c_m_text c_m_length c_m_acts c_m_next c_m_row c_m_said c_m_saidOf c_m_saidWhat c_m_seed c_m_isKept c_m_kept) : ∃ s : LawS, (s.1 = x3 + 5 ∧ RelS (C + 1) s) ∧ ∀ k, f_L_law_569 k sL sxs c_b_letters c_b_slotTaken c_b_sown c_t_text c_r_part c_r_figuresTaken c_r_bowl c_r_secret c_d_bowls c_d_fishes c_d_lips c_d_hours c_d_start c_d_first c_d_kind c_d_post c_d_error c_p_bowls c_p_fishes c_p_lips c_p_hours c_p_start c_p_first c_p_kind c_p_post c_p_error c_n_place c_n_known c_n_left c_n_onDuty c_n_clock c_a_length c_a_ak c_a_pl c_a_kn c_a_lf c_a_od c_a_ck c_s_speaker c_s_said c_s_length c_o_kept c_o_oneHas c_o_otherHas c_y_place c_y_known c_y_left c_y_onDuty c_y_clock c_z_pl c_z_kn c_z_lf c_z_od c_z_ck c_m_bowls c_m_fishes c_m_lips c_m_round c_m_first c_m_kind c_m_begins c_m_error c_m_now c_m_readRound c_m_readFish c_m_readLip c_m_readIn c_m_readBowls c_m_readFishes c_m_readLips c_m_text c_m_length c_m_at c_m_faultAt c_m_acts c_m_next c_m_row c_m_oft c_m_said c_m_saidOf c_m_saidWhat c_m_seed c_m_isKept c_m_kept x3 = k s := by
  obtain ⟨B, F, Lp, A, X, S, T, ⟨rfl, rfl, rfl, rfl, rfl, rfl, rfl, rfl, rfl, rfl, rfl, rfl, rfl, rfl⟩, hP, hM, hA, hS, hY, hT⟩ := hR
  have hF := hP.F5
  obtain ⟨v, r, now', oft', e1, e2, hr⟩ := x_bests hP hM (by omega) c_o_kept c_y_place c_y_known c_y_left c_m_oft c_y_onDuty c_y_clock y1
  refine ⟨?s, ⟨?h1, ?h2⟩, fun k => ?h3⟩
  case h3 =>
    unfold f_L_law_569
    rw [hx1, e1, Option.bind_some, hx1, e2, Option.bind_some]
    try dsimp only
    rw [if_pos rfl]
    exact rfl
  case h1 => exact rfl
  case h2 => exact mkLR hP (hM.fr hF hr) (hA.mono hF (by omega)) (hS.mono hF (by omega)) hY hT
theorem s_592 (hC : C ≤ 600) {y1 y2 y3 : Int32} (hx1 : ∀ {α : Type} (k : Int32 → Option α), rd sL sxs (x3 + 1) k = k y1) (hx2 : ∀ {α : Type} (k : Int32 → Option α), rd sL sxs (x3 + 2) k = k y2) (hx3 : ∀ {α : Type} (k : Int32 → Option α), rd sL sxs (x3 + 3) k = k y3) (hR : LR C c_b_letters c_b_slotTaken c_b_sown c_t_text c_p_bowls c_p_fishes c_p_lips c_p_hours c_p_first c_p_kind c_p_post c_p_error c_n_place c_n_known c_n_left c_n_onDuty c_n_clock c_a_length c_a_pl c_a_kn c_a_lf c_a_od c_a_ck c_s_speaker c_s_said c_s_length c_z_pl c_z_kn c_z_lf c_z_od c_z_ck c_m_bowls c_m_fishes c_m_lips c_m_round c_m_first c_m_kind c_m_begins c_m_error c_m_now c_m_text c_m_length c_m_acts c_m_next c_m_row c_m_said c_m_saidOf c_m_saidWhat c_m_seed c_m_isKept c_m_kept) : ∃ s : LawS, (s.1 = x3 + 5 ∧ RelS (C + 1) s) ∧ ∀ k, f_L_law_592 k sL sxs c_b_letters c_b_slotTaken c_b_sown c_t_text c_r_part c_r_figuresTaken c_r_bowl c_r_secret c_d_bowls c_d_fishes c_d_lips c_d_hours c_d_start c_d_first c_d_kind c_d_post c_d_error c_p_bowls c_p_fishes c_p_lips c_p_hours c_p_start c_p_first c_p_kind c_p_post c_p_error c_n_place c_n_known c_n_left c_n_onDuty c_n_clock c_a_length c_a_ak c_a_pl c_a_kn c_a_lf c_a_od c_a_ck c_s_speaker c_s_said c_s_length c_o_kept c_o_oneHas c_o_otherHas c_y_place c_y_known c_y_left c_y_onDuty c_y_clock c_z_pl c_z_kn c_z_lf c_z_od c_z_ck c_m_bowls c_m_fishes c_m_lips c_m_round c_m_first c_m_kind c_m_begins c_m_error c_m_now c_m_readRound c_m_readFish c_m_readLip c_m_readIn c_m_readBowls c_m_readFishes c_m_readLips c_m_text c_m_length c_m_at c_m_faultAt c_m_acts c_m_next c_m_row c_m_oft c_m_said c_m_saidOf c_m_saidWhat c_m_seed c_m_isKept c_m_kept x3 = k s := by
  obtain ⟨B, F, Lp, A, X, S, T, ⟨rfl, rfl, rfl, rfl, rfl, rfl, rfl, rfl, rfl, rfl, rfl, rfl, rfl, rfl⟩, hP, hM, hA, hS, hY, hT⟩ := hR
  have hF := hP.F5
  obtain ⟨v, r, now', e1, e2, hr⟩ := x_judge hP hM (by omega) c_y_place c_y_known c_y_left c_y_onDuty c_y_clock y1 ((ljshl (Int32.toInt64 y2) 32) ||| ((Int32.toInt64 y3) &&& ((4294967295 : Int64))))
  refine ⟨?s, ⟨?h1, ?h2⟩, fun k => ?h3⟩
  case h3 =>
    unfold f_L_law_592
    rw [hx1, hx2, hx3, e1, Option.bind_some, hx1, hx2, hx3, e2, Option.bind_some]
    try dsimp only
    rw [if_pos rfl]
    exact rfl
  case h1 => exact rfl
  case h2 => exact mkLR hP (hM.fr hF hr) (hA.mono hF (by omega)) (hS.mono hF (by omega)) hY hT
theorem s_655 (hC : C ≤ 600) {y1 y2 : Int32} (hx1 : ∀ {α : Type} (k : Int32 → Option α), rd sL sxs (x3 + 1) k = k y1) (hx2 : ∀ {α : Type} (k : Int32 → Option α), rd sL sxs (x3 + 2) k = k y2) (hR : LR C c_b_letters c_b_slotTaken c_b_sown c_t_text c_p_bowls c_p_fishes c_p_lips c_p_hours c_p_first c_p_kind c_p_post c_p_error c_n_place c_n_known c_n_left c_n_onDuty c_n_clock c_a_length c_a_pl c_a_kn c_a_lf c_a_od c_a_ck c_s_speaker c_s_said c_s_length c_z_pl c_z_kn c_z_lf c_z_od c_z_ck c_m_bowls c_m_fishes c_m_lips c_m_round c_m_first c_m_kind c_m_begins c_m_error c_m_now c_m_text c_m_length c_m_acts c_m_next c_m_row c_m_said c_m_saidOf c_m_saidWhat c_m_seed c_m_isKept c_m_kept) : ∃ s : LawS, (s.1 = x3 + 5 ∧ RelS (C + 1) s) ∧ ∀ k, f_L_law_655 k sL sxs c_b_letters c_b_slotTaken c_b_sown c_t_text c_r_part c_r_figuresTaken c_r_bowl c_r_secret c_d_bowls c_d_fishes c_d_lips c_d_hours c_d_start c_d_first c_d_kind c_d_post c_d_error c_p_bowls c_p_fishes c_p_lips c_p_hours c_p_start c_p_first c_p_kind c_p_post c_p_error c_n_place c_n_known c_n_left c_n_onDuty c_n_clock c_a_length c_a_ak c_a_pl c_a_kn c_a_lf c_a_od c_a_ck c_s_speaker c_s_said c_s_length c_o_kept c_o_oneHas c_o_otherHas c_y_place c_y_known c_y_left c_y_onDuty c_y_clock c_z_pl c_z_kn c_z_lf c_z_od c_z_ck c_m_bowls c_m_fishes c_m_lips c_m_round c_m_first c_m_kind c_m_begins c_m_error c_m_now c_m_readRound c_m_readFish c_m_readLip c_m_readIn c_m_readBowls c_m_readFishes c_m_readLips c_m_text c_m_length c_m_at c_m_faultAt c_m_acts c_m_next c_m_row c_m_oft c_m_said c_m_saidOf c_m_saidWhat c_m_seed c_m_isKept c_m_kept x3 = k s := by
  obtain ⟨B, F, Lp, A, X, S, T, ⟨rfl, rfl, rfl, rfl, rfl, rfl, rfl, rfl, rfl, rfl, rfl, rfl, rfl, rfl⟩, hP, hM, hA, hS, hY, hT⟩ := hR
  have hF := hP.F5
  obtain ⟨v, S', sp', sa', sp2', sa2', e1, e2, hY'⟩ := x_say (sp := c_s_speaker) (sa := c_s_said) (sp2 := c_m_saidOf) (sa2 := c_m_saidWhat) hF hY y1 y2
  refine ⟨?s, ⟨?h1, ?h2⟩, fun k => ?h3⟩
  case h3 =>
    unfold f_L_law_655
    rw [hx1, hx2, e1, Option.bind_some, hx1, hx2, e2, Option.bind_some]
    try dsimp only
    rw [if_pos rfl]
    exact rfl
  case h1 => exact rfl
  case h2 => exact mkLR hP (hM.mono hF (by omega)) (hA.mono hF (by omega)) (hS.mono hF (by omega)) hY' hT
theorem s_688 (hC : C ≤ 600)  (hR : LR C c_b_letters c_b_slotTaken c_b_sown c_t_text c_p_bowls c_p_fishes c_p_lips c_p_hours c_p_first c_p_kind c_p_post c_p_error c_n_place c_n_known c_n_left c_n_onDuty c_n_clock c_a_length c_a_pl c_a_kn c_a_lf c_a_od c_a_ck c_s_speaker c_s_said c_s_length c_z_pl c_z_kn c_z_lf c_z_od c_z_ck c_m_bowls c_m_fishes c_m_lips c_m_round c_m_first c_m_kind c_m_begins c_m_error c_m_now c_m_text c_m_length c_m_acts c_m_next c_m_row c_m_said c_m_saidOf c_m_saidWhat c_m_seed c_m_isKept c_m_kept) : ∃ s : LawS, (s.1 = x3 + 5 ∧ RelS (C + 1) s) ∧ ∀ k, f_L_law_688 k c_b_letters c_b_slotTaken c_b_sown c_t_text c_r_part c_r_figuresTaken c_r_bowl c_r_secret c_d_bowls c_d_fishes c_d_lips c_d_hours c_d_start c_d_first c_d_kind c_d_post c_d_error c_p_bowls c_p_fishes c_p_lips c_p_hours c_p_start c_p_first c_p_kind c_p_post c_p_error c_n_place c_n_known c_n_left c_n_onDuty c_n_clock c_a_length c_a_ak c_a_pl c_a_kn c_a_lf c_a_od c_a_ck c_s_speaker c_s_said c_s_length c_o_kept c_o_oneHas c_o_otherHas c_y_place c_y_known c_y_left c_y_onDuty c_y_clock c_z_pl c_z_kn c_z_lf c_z_od c_z_ck c_m_bowls c_m_fishes c_m_lips c_m_round c_m_first c_m_kind c_m_begins c_m_error c_m_now c_m_readRound c_m_readFish c_m_readLip c_m_readIn c_m_readBowls c_m_readFishes c_m_readLips c_m_text c_m_length c_m_at c_m_faultAt c_m_acts c_m_next c_m_row c_m_oft c_m_said c_m_saidOf c_m_saidWhat c_m_seed c_m_isKept c_m_kept x3 = k s := by
  obtain ⟨B, F, Lp, A, X, S, T, ⟨rfl, rfl, rfl, rfl, rfl, rfl, rfl, rfl, rfl, rfl, rfl, rfl, rfl, rfl⟩, hP, hM, hA, hS, hY, hT⟩ := hR
  have hF := hP.F5
  have e1 : f_X6_unsay (nI S) = some (nI S, nI 0) := rfl
  have e2 : f_X7_unsay (nI S) = some (nI S, nI 0) := rfl
  refine ⟨?s, ⟨?h1, ?h2⟩, fun k => ?h3⟩
  case h3 =>
    unfold f_L_law_688
    rw [e1, Option.bind_some, e2, Option.bind_some]
    try dsimp only
    rw [if_pos rfl]
    exact rfl
  case h1 => exact rfl
  case h2 => exact mkLR (S := 0) hP (hM.mono hF (by omega)) (hA.mono hF (by omega)) (hS.mono hF (by omega)) ⟨by omega, fun j hj => by omega⟩ hT
theorem s_701 (hC : C ≤ 600) {y1 : Int32} (hx1 : ∀ {α : Type} (k : Int32 → Option α), rd sL sxs (x3 + 1) k = k y1) (hR : LR C c_b_letters c_b_slotTaken c_b_sown c_t_text c_p_bowls c_p_fishes c_p_lips c_p_hours c_p_first c_p_kind c_p_post c_p_error c_n_place c_n_known c_n_left c_n_onDuty c_n_clock c_a_length c_a_pl c_a_kn c_a_lf c_a_od c_a_ck c_s_speaker c_s_said c_s_length c_z_pl c_z_kn c_z_lf c_z_od c_z_ck c_m_bowls c_m_fishes c_m_lips c_m_round c_m_first c_m_kind c_m_begins c_m_error c_m_now c_m_text c_m_length c_m_acts c_m_next c_m_row c_m_said c_m_saidOf c_m_saidWhat c_m_seed c_m_isKept c_m_kept) : ∃ s : LawS, (s.1 = x3 + 5 ∧ RelS (C + 1) s) ∧ ∀ k, f_L_law_701 k sL sxs c_b_letters c_b_slotTaken c_b_sown c_t_text c_r_part c_r_figuresTaken c_r_bowl c_r_secret c_d_bowls c_d_fishes c_d_lips c_d_hours c_d_start c_d_first c_d_kind c_d_post c_d_error c_p_bowls c_p_fishes c_p_lips c_p_hours c_p_start c_p_first c_p_kind c_p_post c_p_error c_n_place c_n_known c_n_left c_n_onDuty c_n_clock c_a_length c_a_ak c_a_pl c_a_kn c_a_lf c_a_od c_a_ck c_s_speaker c_s_said c_s_length c_o_kept c_o_oneHas c_o_otherHas c_y_place c_y_known c_y_left c_y_onDuty c_y_clock c_z_pl c_z_kn c_z_lf c_z_od c_z_ck c_m_bowls c_m_fishes c_m_lips c_m_round c_m_first c_m_kind c_m_begins c_m_error c_m_now c_m_readRound c_m_readFish c_m_readLip c_m_readIn c_m_readBowls c_m_readFishes c_m_readLips c_m_text c_m_length c_m_at c_m_faultAt c_m_acts c_m_next c_m_row c_m_oft c_m_said c_m_saidOf c_m_saidWhat c_m_seed c_m_isKept c_m_kept x3 = k s := by
  obtain ⟨B, F, Lp, A, X, S, T, ⟨rfl, rfl, rfl, rfl, rfl, rfl, rfl, rfl, rfl, rfl, rfl, rfl, rfl, rfl⟩, hP, hM, hA, hS, hY, hT⟩ := hR
  have hF := hP.F5
  obtain ⟨v, e1, e2⟩ := x_firsts hP hY y1
  refine ⟨?s, ⟨?h1, ?h2⟩, fun k => ?h3⟩
  case h3 =>
    unfold f_L_law_701
    rw [hx1, e1, Option.bind_some, hx1, e2, Option.bind_some]
    try dsimp only
    rw [if_pos rfl]
    exact rfl
  case h1 => exact rfl
  case h2 => exact mkLR hP (hM.mono hF (by omega)) (hA.mono hF (by omega)) (hS.mono hF (by omega)) hY hT
theorem s_773 (hC : C ≤ 600) {y1 y2 y3 : Int32} (hx1 : ∀ {α : Type} (k : Int32 → Option α), rd sL sxs (x3 + 1) k = k y1) (hx2 : ∀ {α : Type} (k : Int32 → Option α), rd sL sxs (x3 + 2) k = k y2) (hx3 : ∀ {α : Type} (k : Int32 → Option α), rd sL sxs (x3 + 3) k = k y3) (hR : LR C c_b_letters c_b_slotTaken c_b_sown c_t_text c_p_bowls c_p_fishes c_p_lips c_p_hours c_p_first c_p_kind c_p_post c_p_error c_n_place c_n_known c_n_left c_n_onDuty c_n_clock c_a_length c_a_pl c_a_kn c_a_lf c_a_od c_a_ck c_s_speaker c_s_said c_s_length c_z_pl c_z_kn c_z_lf c_z_od c_z_ck c_m_bowls c_m_fishes c_m_lips c_m_round c_m_first c_m_kind c_m_begins c_m_error c_m_now c_m_text c_m_length c_m_acts c_m_next c_m_row c_m_said c_m_saidOf c_m_saidWhat c_m_seed c_m_isKept c_m_kept) : ∃ s : LawS, (s.1 = x3 + 5 ∧ RelS (C + 1) s) ∧ ∀ k, f_L_law_773 k sL sxs c_b_letters c_b_slotTaken c_b_sown c_t_text c_r_part c_r_figuresTaken c_r_bowl c_r_secret c_d_bowls c_d_fishes c_d_lips c_d_hours c_d_start c_d_first c_d_kind c_d_post c_d_error c_p_bowls c_p_fishes c_p_lips c_p_hours c_p_start c_p_first c_p_kind c_p_post c_p_error c_n_place c_n_known c_n_left c_n_onDuty c_n_clock c_a_length c_a_ak c_a_pl c_a_kn c_a_lf c_a_od c_a_ck c_s_speaker c_s_said c_s_length c_o_kept c_o_oneHas c_o_otherHas c_y_place c_y_known c_y_left c_y_onDuty c_y_clock c_z_pl c_z_kn c_z_lf c_z_od c_z_ck c_m_bowls c_m_fishes c_m_lips c_m_round c_m_first c_m_kind c_m_begins c_m_error c_m_now c_m_readRound c_m_readFish c_m_readLip c_m_readIn c_m_readBowls c_m_readFishes c_m_readLips c_m_text c_m_length c_m_at c_m_faultAt c_m_acts c_m_next c_m_row c_m_oft c_m_said c_m_saidOf c_m_saidWhat c_m_seed c_m_isKept c_m_kept x3 = k s := by
  obtain ⟨B, F, Lp, A, X, S, T, ⟨rfl, rfl, rfl, rfl, rfl, rfl, rfl, rfl, rfl, rfl, rfl, rfl, rfl, rfl⟩, hP, hM, hA, hS, hY, hT⟩ := hR
  have hF := hP.F5
  obtain ⟨v, r, now', oft', e1, e2, hr⟩ := x_rests hP hM (by omega) c_o_kept c_o_oneHas c_o_otherHas c_y_place c_y_known c_y_left c_m_oft c_y_onDuty c_y_clock y1 y2 y3
  refine ⟨?s, ⟨?h1, ?h2⟩, fun k => ?h3⟩
  case h3 =>
    unfold f_L_law_773
    rw [hx1, hx2, hx3, e1, Option.bind_some, hx1, hx2, hx3, e2, Option.bind_some]
    try dsimp only
    rw [if_pos rfl]
    exact rfl
  case h1 => exact rfl
  case h2 => exact mkLR hP (hM.fr hF hr) (hA.mono hF (by omega)) (hS.mono hF (by omega)) hY hT
theorem s_885 (hC : C ≤ 600) {y1 y2 : Int32} (hx1 : ∀ {α : Type} (k : Int32 → Option α), rd sL sxs (x3 + 1) k = k y1) (hx2 : ∀ {α : Type} (k : Int32 → Option α), rd sL sxs (x3 + 2) k = k y2) (hR : LR C c_b_letters c_b_slotTaken c_b_sown c_t_text c_p_bowls c_p_fishes c_p_lips c_p_hours c_p_first c_p_kind c_p_post c_p_error c_n_place c_n_known c_n_left c_n_onDuty c_n_clock c_a_length c_a_pl c_a_kn c_a_lf c_a_od c_a_ck c_s_speaker c_s_said c_s_length c_z_pl c_z_kn c_z_lf c_z_od c_z_ck c_m_bowls c_m_fishes c_m_lips c_m_round c_m_first c_m_kind c_m_begins c_m_error c_m_now c_m_text c_m_length c_m_acts c_m_next c_m_row c_m_said c_m_saidOf c_m_saidWhat c_m_seed c_m_isKept c_m_kept) : ∃ s : LawS, (s.1 = x3 + 5 ∧ RelS (C + 1) s) ∧ ∀ k, f_L_law_885 k sL sxs c_b_letters c_b_slotTaken c_b_sown c_t_text c_r_part c_r_figuresTaken c_r_bowl c_r_secret c_d_bowls c_d_fishes c_d_lips c_d_hours c_d_start c_d_first c_d_kind c_d_post c_d_error c_p_bowls c_p_fishes c_p_lips c_p_hours c_p_start c_p_first c_p_kind c_p_post c_p_error c_n_place c_n_known c_n_left c_n_onDuty c_n_clock c_a_length c_a_ak c_a_pl c_a_kn c_a_lf c_a_od c_a_ck c_s_speaker c_s_said c_s_length c_o_kept c_o_oneHas c_o_otherHas c_y_place c_y_known c_y_left c_y_onDuty c_y_clock c_z_pl c_z_kn c_z_lf c_z_od c_z_ck c_m_bowls c_m_fishes c_m_lips c_m_round c_m_first c_m_kind c_m_begins c_m_error c_m_now c_m_readRound c_m_readFish c_m_readLip c_m_readIn c_m_readBowls c_m_readFishes c_m_readLips c_m_text c_m_length c_m_at c_m_faultAt c_m_acts c_m_next c_m_row c_m_oft c_m_said c_m_saidOf c_m_saidWhat c_m_seed c_m_isKept c_m_kept x3 = k s := by
  obtain ⟨B, F, Lp, A, X, S, T, ⟨rfl, rfl, rfl, rfl, rfl, rfl, rfl, rfl, rfl, rfl, rfl, rfl, rfl, rfl⟩, hP, hM, hA, hS, hY, hT⟩ := hR
  have hF := hP.F5
  refine ⟨?s, ⟨?h1, ?h2⟩, fun k => ?h3⟩
  case h3 =>
    unfold f_L_law_885
    unfold f_X6_seed f_X7_seed
    rw [hx1, hx2, Option.bind_some, hx1, hx2, Option.bind_some, if_pos (lg_self _)]
    exact rfl
  case h1 => exact rfl
  case h2 => exact mkLR hP (hM.mono hF (by omega)) (hA.mono hF (by omega)) (hS.mono hF (by omega)) hY hT
theorem s_939 (hC : C ≤ 600) {y1 : Int32} (hx1 : ∀ {α : Type} (k : Int32 → Option α), rd sL sxs (x3 + 1) k = k y1) (hR : LR C c_b_letters c_b_slotTaken c_b_sown c_t_text c_p_bowls c_p_fishes c_p_lips c_p_hours c_p_first c_p_kind c_p_post c_p_error c_n_place c_n_known c_n_left c_n_onDuty c_n_clock c_a_length c_a_pl c_a_kn c_a_lf c_a_od c_a_ck c_s_speaker c_s_said c_s_length c_z_pl c_z_kn c_z_lf c_z_od c_z_ck c_m_bowls c_m_fishes c_m_lips c_m_round c_m_first c_m_kind c_m_begins c_m_error c_m_now c_m_text c_m_length c_m_acts c_m_next c_m_row c_m_said c_m_saidOf c_m_saidWhat c_m_seed c_m_isKept c_m_kept) : ∃ s : LawS, (s.1 = x3 + 5 ∧ RelS (C + 1) s) ∧ ∀ k, f_L_law_939 k sL sxs c_b_letters c_b_slotTaken c_b_sown c_t_text c_r_part c_r_figuresTaken c_r_bowl c_r_secret c_d_bowls c_d_fishes c_d_lips c_d_hours c_d_start c_d_first c_d_kind c_d_post c_d_error c_p_bowls c_p_fishes c_p_lips c_p_hours c_p_start c_p_first c_p_kind c_p_post c_p_error c_n_place c_n_known c_n_left c_n_onDuty c_n_clock c_a_length c_a_ak c_a_pl c_a_kn c_a_lf c_a_od c_a_ck c_s_speaker c_s_said c_s_length c_o_kept c_o_oneHas c_o_otherHas c_y_place c_y_known c_y_left c_y_onDuty c_y_clock c_z_pl c_z_kn c_z_lf c_z_od c_z_ck c_m_bowls c_m_fishes c_m_lips c_m_round c_m_first c_m_kind c_m_begins c_m_error c_m_now c_m_readRound c_m_readFish c_m_readLip c_m_readIn c_m_readBowls c_m_readFishes c_m_readLips c_m_text c_m_length c_m_at c_m_faultAt c_m_acts c_m_next c_m_row c_m_oft c_m_said c_m_saidOf c_m_saidWhat c_m_seed c_m_isKept c_m_kept x3 = k s := by
  obtain ⟨B, F, Lp, A, X, S, T, ⟨rfl, rfl, rfl, rfl, rfl, rfl, rfl, rfl, rfl, rfl, rfl, rfl, rfl, rfl⟩, hP, hM, hA, hS, hY, hT⟩ := hR
  have hF := hP.F5
  obtain ⟨v, sd', r, now', e1, e2, hr⟩ := x_decades hP hM (by omega) c_y_place c_y_known c_y_left c_y_onDuty c_y_clock y1 c_m_seed
  refine ⟨?s, ⟨?h1, ?h2⟩, fun k => ?h3⟩
  case h3 =>
    unfold f_L_law_939
    rw [hx1, e1, Option.bind_some, hx1, e2, Option.bind_some]
    try dsimp only
    rw [if_pos rfl]
    exact rfl
  case h1 => exact rfl
  case h2 => exact mkLR hP (hM.fr hF hr) (hA.mono hF (by omega)) (hS.mono hF (by omega)) hY hT
theorem s_962 (hC : C ≤ 600) {y1 : Int32} (hx1 : ∀ {α : Type} (k : Int32 → Option α), rd sL sxs (x3 + 1) k = k y1) (hR : LR C c_b_letters c_b_slotTaken c_b_sown c_t_text c_p_bowls c_p_fishes c_p_lips c_p_hours c_p_first c_p_kind c_p_post c_p_error c_n_place c_n_known c_n_left c_n_onDuty c_n_clock c_a_length c_a_pl c_a_kn c_a_lf c_a_od c_a_ck c_s_speaker c_s_said c_s_length c_z_pl c_z_kn c_z_lf c_z_od c_z_ck c_m_bowls c_m_fishes c_m_lips c_m_round c_m_first c_m_kind c_m_begins c_m_error c_m_now c_m_text c_m_length c_m_acts c_m_next c_m_row c_m_said c_m_saidOf c_m_saidWhat c_m_seed c_m_isKept c_m_kept) : ∃ s : LawS, (s.1 = x3 + 5 ∧ RelS (C + 1) s) ∧ ∀ k, f_L_law_962 k sL sxs c_b_letters c_b_slotTaken c_b_sown c_t_text c_r_part c_r_figuresTaken c_r_bowl c_r_secret c_d_bowls c_d_fishes c_d_lips c_d_hours c_d_start c_d_first c_d_kind c_d_post c_d_error c_p_bowls c_p_fishes c_p_lips c_p_hours c_p_start c_p_first c_p_kind c_p_post c_p_error c_n_place c_n_known c_n_left c_n_onDuty c_n_clock c_a_length c_a_ak c_a_pl c_a_kn c_a_lf c_a_od c_a_ck c_s_speaker c_s_said c_s_length c_o_kept c_o_oneHas c_o_otherHas c_y_place c_y_known c_y_left c_y_onDuty c_y_clock c_z_pl c_z_kn c_z_lf c_z_od c_z_ck c_m_bowls c_m_fishes c_m_lips c_m_round c_m_first c_m_kind c_m_begins c_m_error c_m_now c_m_readRound c_m_readFish c_m_readLip c_m_readIn c_m_readBowls c_m_readFishes c_m_readLips c_m_text c_m_length c_m_at c_m_faultAt c_m_acts c_m_next c_m_row c_m_oft c_m_said c_m_saidOf c_m_saidWhat c_m_seed c_m_isKept c_m_kept x3 = k s := by
  obtain ⟨B, F, Lp, A, X, S, T, ⟨rfl, rfl, rfl, rfl, rfl, rfl, rfl, rfl, rfl, rfl, rfl, rfl, rfl, rfl⟩, hP, hM, hA, hS, hY, hT⟩ := hR
  have hF := hP.F5
  obtain ⟨v, tk', isk', zp', zk', zl', zo', zc', kept', e1, e2, hS'⟩ := x_keep hF hM hS y1
  refine ⟨?s, ⟨?h1, ?h2⟩, fun k => ?h3⟩
  case h3 =>
    unfold f_L_law_962
    rw [hx1, e1, Option.bind_some, hx1, e2, Option.bind_some]
    try dsimp only
    rw [if_pos rfl]
    exact rfl
  case h1 => exact rfl
  case h2 => exact mkLR hP (hM.mono hF (by omega)) (hA.mono hF (by omega)) (hS'.mono hF (by omega)) hY hT
theorem s_985 (hC : C ≤ 600) {y1 : Int32} (hx1 : ∀ {α : Type} (k : Int32 → Option α), rd sL sxs (x3 + 1) k = k y1) (hR : LR C c_b_letters c_b_slotTaken c_b_sown c_t_text c_p_bowls c_p_fishes c_p_lips c_p_hours c_p_first c_p_kind c_p_post c_p_error c_n_place c_n_known c_n_left c_n_onDuty c_n_clock c_a_length c_a_pl c_a_kn c_a_lf c_a_od c_a_ck c_s_speaker c_s_said c_s_length c_z_pl c_z_kn c_z_lf c_z_od c_z_ck c_m_bowls c_m_fishes c_m_lips c_m_round c_m_first c_m_kind c_m_begins c_m_error c_m_now c_m_text c_m_length c_m_acts c_m_next c_m_row c_m_said c_m_saidOf c_m_saidWhat c_m_seed c_m_isKept c_m_kept) : ∃ s : LawS, (s.1 = x3 + 5 ∧ RelS (C + 1) s) ∧ ∀ k, f_L_law_985 k sL sxs c_b_letters c_b_slotTaken c_b_sown c_t_text c_r_part c_r_figuresTaken c_r_bowl c_r_secret c_d_bowls c_d_fishes c_d_lips c_d_hours c_d_start c_d_first c_d_kind c_d_post c_d_error c_p_bowls c_p_fishes c_p_lips c_p_hours c_p_start c_p_first c_p_kind c_p_post c_p_error c_n_place c_n_known c_n_left c_n_onDuty c_n_clock c_a_length c_a_ak c_a_pl c_a_kn c_a_lf c_a_od c_a_ck c_s_speaker c_s_said c_s_length c_o_kept c_o_oneHas c_o_otherHas c_y_place c_y_known c_y_left c_y_onDuty c_y_clock c_z_pl c_z_kn c_z_lf c_z_od c_z_ck c_m_bowls c_m_fishes c_m_lips c_m_round c_m_first c_m_kind c_m_begins c_m_error c_m_now c_m_readRound c_m_readFish c_m_readLip c_m_readIn c_m_readBowls c_m_readFishes c_m_readLips c_m_text c_m_length c_m_at c_m_faultAt c_m_acts c_m_next c_m_row c_m_oft c_m_said c_m_saidOf c_m_saidWhat c_m_seed c_m_isKept c_m_kept x3 = k s := by
  obtain ⟨B, F, Lp, A, X, S, T, ⟨rfl, rfl, rfl, rfl, rfl, rfl, rfl, rfl, rfl, rfl, rfl, rfl, rfl, rfl⟩, hP, hM, hA, hS, hY, hT⟩ := hR
  have hF := hP.F5
  obtain ⟨v, pl', kn', lf', du', ck', A', now', e1, e2, hM', hA'⟩ := x_again hF hM hS hA y1
  refine ⟨?s, ⟨?h1, ?h2⟩, fun k => ?h3⟩
  case h3 =>
    unfold f_L_law_985
    rw [hx1, e1, Option.bind_some, hx1, e2, Option.bind_some]
    try dsimp only
    rw [if_pos rfl]
    exact rfl
  case h1 => exact rfl
  case h2 => exact mkLR hP (hM'.mono hF (by omega)) (hA'.mono hF (by omega)) (hS.mono hF (by omega)) hY hT
theorem s_1008 (hC : C ≤ 600) {y1 : Int32} (hx1 : ∀ {α : Type} (k : Int32 → Option α), rd sL sxs (x3 + 1) k = k y1) (hR : LR C c_b_letters c_b_slotTaken c_b_sown c_t_text c_p_bowls c_p_fishes c_p_lips c_p_hours c_p_first c_p_kind c_p_post c_p_error c_n_place c_n_known c_n_left c_n_onDuty c_n_clock c_a_length c_a_pl c_a_kn c_a_lf c_a_od c_a_ck c_s_speaker c_s_said c_s_length c_z_pl c_z_kn c_z_lf c_z_od c_z_ck c_m_bowls c_m_fishes c_m_lips c_m_round c_m_first c_m_kind c_m_begins c_m_error c_m_now c_m_text c_m_length c_m_acts c_m_next c_m_row c_m_said c_m_saidOf c_m_saidWhat c_m_seed c_m_isKept c_m_kept) : ∃ s : LawS, (s.1 = x3 + 5 ∧ RelS (C + 1) s) ∧ ∀ k, f_L_law_1008 k sL sxs c_b_letters c_b_slotTaken c_b_sown c_t_text c_r_part c_r_figuresTaken c_r_bowl c_r_secret c_d_bowls c_d_fishes c_d_lips c_d_hours c_d_start c_d_first c_d_kind c_d_post c_d_error c_p_bowls c_p_fishes c_p_lips c_p_hours c_p_start c_p_first c_p_kind c_p_post c_p_error c_n_place c_n_known c_n_left c_n_onDuty c_n_clock c_a_length c_a_ak c_a_pl c_a_kn c_a_lf c_a_od c_a_ck c_s_speaker c_s_said c_s_length c_o_kept c_o_oneHas c_o_otherHas c_y_place c_y_known c_y_left c_y_onDuty c_y_clock c_z_pl c_z_kn c_z_lf c_z_od c_z_ck c_m_bowls c_m_fishes c_m_lips c_m_round c_m_first c_m_kind c_m_begins c_m_error c_m_now c_m_readRound c_m_readFish c_m_readLip c_m_readIn c_m_readBowls c_m_readFishes c_m_readLips c_m_text c_m_length c_m_at c_m_faultAt c_m_acts c_m_next c_m_row c_m_oft c_m_said c_m_saidOf c_m_saidWhat c_m_seed c_m_isKept c_m_kept x3 = k s := by
  obtain ⟨B, F, Lp, A, X, S, T, ⟨rfl, rfl, rfl, rfl, rfl, rfl, rfl, rfl, rfl, rfl, rfl, rfl, rfl, rfl⟩, hP, hM, hA, hS, hY, hT⟩ := hR
  have hF := hP.F5
  obtain ⟨v, e1, e2⟩ := x_count (A := A) (S := S) (T := T) hP hM y1
  refine ⟨?s, ⟨?h1, ?h2⟩, fun k => ?h3⟩
  case h3 =>
    unfold f_L_law_1008
    rw [hx1, e1, Option.bind_some, hx1, e2, Option.bind_some]
    try dsimp only
    rw [if_pos rfl]
    exact rfl
  case h1 => exact rfl
  case h2 => exact mkLR hP (hM.mono hF (by omega)) (hA.mono hF (by omega)) (hS.mono hF (by omega)) hY hT
theorem s_724 (hC : C ≤ 600) {y1 y2 : Int32} (hx1 : ∀ {α : Type} (k : Int32 → Option α), rd sL sxs (x3 + 1) k = k y1) (hx2 : ∀ {α : Type} (k : Int32 → Option α), rd sL sxs (x3 + 2) k = k y2) (hR : LR C c_b_letters c_b_slotTaken c_b_sown c_t_text c_p_bowls c_p_fishes c_p_lips c_p_hours c_p_first c_p_kind c_p_post c_p_error c_n_place c_n_known c_n_left c_n_onDuty c_n_clock c_a_length c_a_pl c_a_kn c_a_lf c_a_od c_a_ck c_s_speaker c_s_said c_s_length c_z_pl c_z_kn c_z_lf c_z_od c_z_ck c_m_bowls c_m_fishes c_m_lips c_m_round c_m_first c_m_kind c_m_begins c_m_error c_m_now c_m_text c_m_length c_m_acts c_m_next c_m_row c_m_said c_m_saidOf c_m_saidWhat c_m_seed c_m_isKept c_m_kept) : ∃ s : LawS, (s.1 = x3 + 5 ∧ RelS (C + 1) s) ∧ ∀ k, f_L_law_724 k sL sxs c_b_letters c_b_slotTaken c_b_sown c_t_text c_r_part c_r_figuresTaken c_r_bowl c_r_secret c_d_bowls c_d_fishes c_d_lips c_d_hours c_d_start c_d_first c_d_kind c_d_post c_d_error c_p_bowls c_p_fishes c_p_lips c_p_hours c_p_start c_p_first c_p_kind c_p_post c_p_error c_n_place c_n_known c_n_left c_n_onDuty c_n_clock c_a_length c_a_ak c_a_pl c_a_kn c_a_lf c_a_od c_a_ck c_s_speaker c_s_said c_s_length c_o_kept c_o_oneHas c_o_otherHas c_y_place c_y_known c_y_left c_y_onDuty c_y_clock c_z_pl c_z_kn c_z_lf c_z_od c_z_ck c_m_bowls c_m_fishes c_m_lips c_m_round c_m_first c_m_kind c_m_begins c_m_error c_m_now c_m_readRound c_m_readFish c_m_readLip c_m_readIn c_m_readBowls c_m_readFishes c_m_readLips c_m_text c_m_length c_m_at c_m_faultAt c_m_acts c_m_next c_m_row c_m_oft c_m_said c_m_saidOf c_m_saidWhat c_m_seed c_m_isKept c_m_kept x3 = k s := by
  obtain ⟨B, F, Lp, A, X, S, T, ⟨rfl, rfl, rfl, rfl, rfl, rfl, rfl, rfl, rfl, rfl, rfl, rfl, rfl, rfl⟩, hP, hM, hA, hS, hY, hT⟩ := hR
  have hF := hP.F5
  by_cases q : y2 = 0
  · obtain ⟨v, r, now', e1, e2, hr⟩ := x_share hP hM (by omega) c_y_place c_y_known c_y_left c_y_onDuty c_y_clock y1 0
    refine ⟨?s0, ⟨?h10, ?h20⟩, fun k => ?h30⟩
    case h30 =>
      unfold f_L_law_724 f_L_law_743 f_L_law_765
      rw [hx1, hx2, if_pos q, e1, Option.bind_some, hx1, hx2, if_pos q, e2, Option.bind_some]
      try dsimp only
      rw [if_pos rfl]
      exact rfl
    case h10 => exact rfl
    case h20 => exact mkLR hP (hM.fr hF hr) (hA.mono hF (by omega)) (hS.mono hF (by omega)) hY hT
  · obtain ⟨v, r, now', e1, e2, hr⟩ := x_share hP hM (by omega) c_y_place c_y_known c_y_left c_y_onDuty c_y_clock y1 1
    refine ⟨?s1, ⟨?h11, ?h21⟩, fun k => ?h31⟩
    case h31 =>
      unfold f_L_law_724 f_L_law_743 f_L_law_765
      rw [hx1, hx2, if_neg q, e1, Option.bind_some, hx1, hx2, if_neg q, e2, Option.bind_some]
      try dsimp only
      rw [if_pos rfl]
      exact rfl
    case h11 => exact rfl
    case h21 => exact mkLR hP (hM.fr hF hr) (hA.mono hF (by omega)) (hS.mono hF (by omega)) hY hT
theorem s_816 (hC : C ≤ 600) {y1 y2 y3 y4 : Int32} (hx1 : ∀ {α : Type} (k : Int32 → Option α), rd sL sxs (x3 + 1) k = k y1) (hx2 : ∀ {α : Type} (k : Int32 → Option α), rd sL sxs (x3 + 2) k = k y2) (hx3 : ∀ {α : Type} (k : Int32 → Option α), rd sL sxs (x3 + 3) k = k y3) (hx4 : ∀ {α : Type} (k : Int32 → Option α), rd sL sxs (x3 + 4) k = k y4) (hR : LR C c_b_letters c_b_slotTaken c_b_sown c_t_text c_p_bowls c_p_fishes c_p_lips c_p_hours c_p_first c_p_kind c_p_post c_p_error c_n_place c_n_known c_n_left c_n_onDuty c_n_clock c_a_length c_a_pl c_a_kn c_a_lf c_a_od c_a_ck c_s_speaker c_s_said c_s_length c_z_pl c_z_kn c_z_lf c_z_od c_z_ck c_m_bowls c_m_fishes c_m_lips c_m_round c_m_first c_m_kind c_m_begins c_m_error c_m_now c_m_text c_m_length c_m_acts c_m_next c_m_row c_m_said c_m_saidOf c_m_saidWhat c_m_seed c_m_isKept c_m_kept) : ∃ s : LawS, (s.1 = x3 + 5 ∧ RelS (C + 1) s) ∧ ∀ k, f_L_law_816 k sL sxs c_b_letters c_b_slotTaken c_b_sown c_t_text c_r_part c_r_figuresTaken c_r_bowl c_r_secret c_d_bowls c_d_fishes c_d_lips c_d_hours c_d_start c_d_first c_d_kind c_d_post c_d_error c_p_bowls c_p_fishes c_p_lips c_p_hours c_p_start c_p_first c_p_kind c_p_post c_p_error c_n_place c_n_known c_n_left c_n_onDuty c_n_clock c_a_length c_a_ak c_a_pl c_a_kn c_a_lf c_a_od c_a_ck c_s_speaker c_s_said c_s_length c_o_kept c_o_oneHas c_o_otherHas c_y_place c_y_known c_y_left c_y_onDuty c_y_clock c_z_pl c_z_kn c_z_lf c_z_od c_z_ck c_m_bowls c_m_fishes c_m_lips c_m_round c_m_first c_m_kind c_m_begins c_m_error c_m_now c_m_readRound c_m_readFish c_m_readLip c_m_readIn c_m_readBowls c_m_readFishes c_m_readLips c_m_text c_m_length c_m_at c_m_faultAt c_m_acts c_m_next c_m_row c_m_oft c_m_said c_m_saidOf c_m_saidWhat c_m_seed c_m_isKept c_m_kept x3 = k s := by
  obtain ⟨B, F, Lp, A, X, S, T, ⟨rfl, rfl, rfl, rfl, rfl, rfl, rfl, rfl, rfl, rfl, rfl, rfl, rfl, rfl⟩, hP, hM, hA, hS, hY, hT⟩ := hR
  have hF := hP.F5
  by_cases q : y4 = 0
  · obtain ⟨v, r, now', e1, e2, hr⟩ := x_ill hP hM (by omega) c_y_place c_y_known c_y_left c_y_onDuty c_y_clock y1 y2 y3 0
    refine ⟨?s0, ⟨?h10, ?h20⟩, fun k => ?h30⟩
    case h30 =>
      unfold f_L_law_816 f_L_law_845 f_L_law_877
      rw [hx1, hx2, hx3, hx4, if_pos q, e1, Option.bind_some, hx1, hx2, hx3, hx4, if_pos q, e2, Option.bind_some]
      try dsimp only
      rw [if_pos rfl]
      exact rfl
    case h10 => exact rfl
    case h20 => exact mkLR hP (hM.fr hF hr) (hA.mono hF (by omega)) (hS.mono hF (by omega)) hY hT
  · obtain ⟨v, r, now', e1, e2, hr⟩ := x_ill hP hM (by omega) c_y_place c_y_known c_y_left c_y_onDuty c_y_clock y1 y2 y3 1
    refine ⟨?s1, ⟨?h11, ?h21⟩, fun k => ?h31⟩
    case h31 =>
      unfold f_L_law_816 f_L_law_845 f_L_law_877
      rw [hx1, hx2, hx3, hx4, if_neg q, e1, Option.bind_some, hx1, hx2, hx3, hx4, if_neg q, e2, Option.bind_some]
      try dsimp only
      rw [if_pos rfl]
      exact rfl
    case h11 => exact rfl
    case h21 => exact mkLR hP (hM.fr hF hr) (hA.mono hF (by omega)) (hS.mono hF (by omega)) hY hT
theorem s_1031 (hC : C ≤ 600)  (hR : LR C c_b_letters c_b_slotTaken c_b_sown c_t_text c_p_bowls c_p_fishes c_p_lips c_p_hours c_p_first c_p_kind c_p_post c_p_error c_n_place c_n_known c_n_left c_n_onDuty c_n_clock c_a_length c_a_pl c_a_kn c_a_lf c_a_od c_a_ck c_s_speaker c_s_said c_s_length c_z_pl c_z_kn c_z_lf c_z_od c_z_ck c_m_bowls c_m_fishes c_m_lips c_m_round c_m_first c_m_kind c_m_begins c_m_error c_m_now c_m_text c_m_length c_m_acts c_m_next c_m_row c_m_said c_m_saidOf c_m_saidWhat c_m_seed c_m_isKept c_m_kept) : ∃ s : LawS, (s.1 = x3 + 5 ∧ RelS (C + 1) s) ∧ ∀ k, f_L_law_1031 k c_b_letters c_b_slotTaken c_b_sown c_t_text c_r_part c_r_figuresTaken c_r_bowl c_r_secret c_d_bowls c_d_fishes c_d_lips c_d_hours c_d_start c_d_first c_d_kind c_d_post c_d_error c_p_bowls c_p_fishes c_p_lips c_p_hours c_p_start c_p_first c_p_kind c_p_post c_p_error c_n_place c_n_known c_n_left c_n_onDuty c_n_clock c_a_length c_a_ak c_a_pl c_a_kn c_a_lf c_a_od c_a_ck c_s_speaker c_s_said c_s_length c_o_kept c_o_oneHas c_o_otherHas c_y_place c_y_known c_y_left c_y_onDuty c_y_clock c_z_pl c_z_kn c_z_lf c_z_od c_z_ck c_m_bowls c_m_fishes c_m_lips c_m_round c_m_first c_m_kind c_m_begins c_m_error c_m_now c_m_readRound c_m_readFish c_m_readLip c_m_readIn c_m_readBowls c_m_readFishes c_m_readLips c_m_text c_m_length c_m_at c_m_faultAt c_m_acts c_m_next c_m_row c_m_oft c_m_said c_m_saidOf c_m_saidWhat c_m_seed c_m_isKept c_m_kept x3 = k s := by
  obtain ⟨B, F, Lp, A, X, S, T, ⟨rfl, rfl, rfl, rfl, rfl, rfl, rfl, rfl, rfl, rfl, rfl, rfl, rfl, rfl⟩, hP, hM, hA, hS, hY, hT⟩ := hR
  have hF := hP.F5
  refine ⟨?s, ⟨?h1, ?h2⟩, fun k => ?h3⟩
  case h3 => exact rfl
  case h1 => exact rfl
  case h2 => exact mkLR hP (hM.mono hF (by omega)) (hA.mono hF (by omega)) (hS.mono hF (by omega)) hY hT
end Law
