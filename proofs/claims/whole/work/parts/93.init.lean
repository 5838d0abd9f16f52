/-! constructors -/
def Ly_0 : List DS := lay 32 [(c_xx, .inl (11, [.inr (some c_tape), .inr (some c_land), .inr (some c_draft), .inr (some c_reader), .inr none, .inr none, .inl true, .inr none, .inr none, .inr none, .inr none, .inr none])), (c_deeds, .inl (1, [.inr none, .inl true, .inr none]))]
def Ly_1 : List DS := lay 33 [(c_xx, .inl (11, [.inr (some c_tape), .inr (some c_land), .inr (some c_draft), .inr (some c_reader), .inr none, .inr none, .inl true, .inr none, .inr none, .inr none, .inr none, .inr none])), (c_deeds, .inl (1, [.inr none, .inl true, .inr none]))]
def Ly_2 : List DS := lay 33 [(c_xx, .inl (11, [.inr (some c_tape), .inr (some c_land), .inr (some c_draft), .inr (some c_reader), .inr none, .inr none, .inl true, .inr none, .inr none, .inr none, .inr none, .inr none])), (c_deeds, .inl (1, [.inr (some c_deeds_times), .inl true, .inr none]))]
def Ly_3 : List DS := lay 34 [(c_xx, .inl (11, [.inr (some c_tape), .inr (some c_land), .inr (some c_draft), .inr (some c_reader), .inr none, .inr none, .inl true, .inr none, .inr none, .inr none, .inr none, .inr none])), (c_deeds, .inl (1, [.inr (some c_deeds_times), .inl true, .inr none]))]
def Ly_4 : List DS := lay 34 [(c_xx, .inl (11, [.inr (some c_tape), .inr (some c_land), .inr (some c_draft), .inr (some c_reader), .inr none, .inr none, .inl true, .inr none, .inr none, .inr none, .inr none, .inr none]))]
theorem lydeeds_debt_c_deeds_debt : Ly_4[c_deeds_debt]? = some (.inr (0, 6, [])) := rfl
def w_Jarr_fill_deeds_debt_L5_deeds_debt (l1 : Int32) (l3 : Int32) (K : Mem → Prop) (Q : Mem → Prop) : Nat → Int32 → Mem → Prop
  | 0, _, _ => False
  | n + 1, l2, M => ((l3 ≤ l2 → K M) ∧ (¬ l3 ≤ l2 → (vp_in l2 6 ∧ w_Jarr_fill_deeds_debt_L5_deeds_debt l1 l3 K Q n (l2 + 1) (si M c_deeds_debt (Int32.toNatClampNeg l2) l1))))
set_option maxHeartbeats 4000000 in
theorem t_Jarr_fill_deeds_debt_L5_deeds_debt {X : Cx} (hX : Cok X cJ7_fill_53178 RJ7 4 none 1 0 0) {Q : Mem → Prop} (hq : RV X 0 0 Ly_4 Q) {l1 : Int32} {l3 : Int32} {K : Mem → Prop} (hK : ∀ (M : Mem), K M → Wat X 0 0 Ly_4 20 [none, none, none, none] [] M) : ∀ (n : Nat) (l2 : Int32) (M : Mem), w_Jarr_fill_deeds_debt_L5_deeds_debt l1 l3 K Q n l2 M → Wat X 0 0 Ly_4 5 [some (vr c_deeds_debt), some (vi l1), some (vi l2), some (vi l3)] [] M := by
  intro n
  induction n with
  | zero => intro _ _ h; exact h.elim
  | succ n ih =>
    intro l2 M h
    refine s_iload_n hX dJ7_fill_53178_5 rfl ?_
    refine s_iload_n hX dJ7_fill_53178_6 rfl ?_
    refine s_icmp_ge (tgt := 20) hX dJ7_fill_53178_7 (by decide) (fun c => ?_) (fun c => ?_)
    · replace h := h.1 c
      refine s_mask [false, false, false, false] (lv' := [none, none, none, none]) rfl rfl ?_
      exact hK _ h
    · replace h := h.2 c
      refine s_aload_n hX dJ7_fill_53178_10 rfl ?_
      refine s_iload_n hX dJ7_fill_53178_11 rfl ?_
      refine s_iload_n hX dJ7_fill_53178_12 rfl ?_
      have hi := h.1
      replace h := h.2
      refine s_iast hX lydeeds_debt_c_deeds_debt hi dJ7_fill_53178_13 ?_
      refine s_iinc (v := (l2 + 1)) (lv' := [some (vr c_deeds_debt), some (vi l1), some (vi (l2 + 1)), some (vi l3)]) hX dJ7_fill_53178_14 rfl rfl rfl rfl ?_
      refine s_goto (tgt := 5) hX dJ7_fill_53178_17 (by decide) ?_
      exact ih _ _ h
def w_Jarr_fill_deeds_debt_deeds_debt (a0 : Int32) (M : Mem) (Q : Mem → Prop) : Prop :=
  (∃ n290, w_Jarr_fill_deeds_debt_L5_deeds_debt a0 6 (fun M289 => Q M289) Q n290 0 M)
set_option maxHeartbeats 4000000 in
theorem t_Jarr_fill_deeds_debt_deeds_debt {X : Cx} (hX : Cok X cJ7_fill_53178 RJ7 4 none 1 0 0) {Q : Mem → Prop} (hq : RV X 0 0 Ly_4 Q) {M : Mem} {a0 : Int32} (h : w_Jarr_fill_deeds_debt_deeds_debt a0 M Q) : Wat X 0 0 Ly_4 0 [some (vr c_deeds_debt), some (vi a0), none, none] [] M := by
  refine s_iconst (v := 0) hX dJ7_fill_53178_0 rfl ?_
  refine s_istore_n (lv' := [some (vr c_deeds_debt), some (vi a0), some (vi 0), none]) hX dJ7_fill_53178_1 rfl rfl (Nat.le_of_ble_eq_true rfl) ?_
  refine s_aload_n hX dJ7_fill_53178_2 rfl ?_
  refine s_alen (v := 6) hX lydeeds_debt_c_deeds_debt (by decide) rfl dJ7_fill_53178_3 ?_
  refine s_istore_n (lv' := [some (vr c_deeds_debt), some (vi a0), some (vi 0), some (vi 6)]) hX dJ7_fill_53178_4 rfl rfl (Nat.le_of_ble_eq_true rfl) ?_
  obtain ⟨n290, h⟩ := h
  refine t_Jarr_fill_deeds_debt_L5_deeds_debt hX hq ?_ n290 _ _ h
  intro M289 h
  exact s_vret hX hq rfl dJ7_fill_53178_20 h
theorem c_Jarr_fill_deeds_debt_deeds_debt {a0 : Int32} {M : Mem} {Q : Mem → Prop} (h : w_Jarr_fill_deeds_debt_deeds_debt a0 M Q) : CV yJ7_fill_53178 cJ7_fill_53178 4 none 1 0 0 Ly_4 Ly_4 [vr c_deeds_debt, vi a0] M Q := mk_v rfl wd_co_J7_fill_53178 rfl rfl (Nat.le_of_ble_eq_true rfl) (fun X hX hq => t_Jarr_fill_deeds_debt_deeds_debt hX hq h)
def v_deeds (M : Mem) (Q : Mem → Prop) : Prop := w_Jarr_fill_deeds_debt_deeds_debt (-1) M (fun M1 => Q M1)
set_option maxHeartbeats 1000000 in
theorem n_deeds {M : Mem} {Q : Mem → Prop} (hz : Z0 32 M) (h : v_deeds M Q) : CNE yX1_init cX1_init 1 2 2 126 Ly_0 Ly_4 [vr c_deeds] M Q := mk_ne (lv0 := [some (vr c_deeds)]) (by decide +kernel) rfl rfl rfl (Nat.le_of_ble_eq_true rfl) (fun X ad0 hX hT hq => by
  refine s_aload_n hX dX1_init_0 rfl ?_
  refine s_obj hX (tb_m2 84 rfl rfl) wd_im_objectInit wd_co_objectInit rfl (Nat.le_of_ble_eq_true rfl) (Nat.le_of_ble_eq_true rfl) dX1_init_1 ?_
  refine s_aload_n hX dX1_init_4 rfl ?_
  refine s_bipush (v := nI 120) hX dX1_init_5 rfl ?_
  refine s_nwi (n := 120) (L' := Ly_1) hX (hz.mono (Nat.le_of_ble_eq_true rfl)) rfl (by decide) rfl rfl rfl (Nat.le_of_ble_eq_true rfl) (Nat.le_of_ble_eq_true rfl) dX1_init_7 rfl (fun X1 hE => ?_)
  replace hT := hT.go hE (Nat.le_of_ble_eq_true rfl)
  replace hq := hq.go hE (Nat.le_of_ble_eq_true rfl) (Nat.le_of_ble_eq_true rfl)
  replace hX := hX.go hE
  clear hE
  refine s_putF (L' := Ly_2) hX hq.ni (show FI RX1 9 1 0 RX1 TX1 3 from ⟨rfl, by decide, fw_X1, wd_fl_X1_9⟩) fp_X1 rfl rfl rfl (fun _ => ⟨rfl, rfl⟩) (f := .inr none) rfl rfl rfl dX1_init_9 ?_
  refine s_aload_n hX dX1_init_12 rfl ?_
  refine s_bipush (v := nI 6) hX dX1_init_13 rfl ?_
  refine s_nwi (n := 6) (L' := Ly_3) hX (hz.mono (Nat.le_of_ble_eq_true rfl)) rfl (by decide) rfl rfl rfl (Nat.le_of_ble_eq_true rfl) (Nat.le_of_ble_eq_true rfl) dX1_init_15 rfl (fun X1 hE => ?_)
  replace hT := hT.go hE (Nat.le_of_ble_eq_true rfl)
  replace hq := hq.go hE (Nat.le_of_ble_eq_true rfl) (Nat.le_of_ble_eq_true rfl)
  replace hX := hX.go hE
  clear hE
  refine s_putF (L' := Ly_4) hX hq.ni (show FI RX1 15 1 2 RX1 TX1 3 from ⟨rfl, by decide, fw_X1, wd_fl_X1_15⟩) fp_X1 rfl rfl rfl (fun _ => ⟨rfl, rfl⟩) (f := .inr none) rfl rfl rfl dX1_init_17 ?_
  refine s_aload_n hX dX1_init_20 rfl ?_
  refine s_getr hX (show FI RX1 15 1 2 RX1 TX1 3 from ⟨rfl, by decide, fw_X1, wd_fl_X1_15⟩) (r := c_deeds_debt) (fs := [.inr (some c_deeds_times), .inl true, .inr (some c_deeds_debt)]) rfl rfl dX1_init_21 ?_
  refine s_iconst (v := (-1)) hX dX1_init_24 rfl ?_
  refine s_csv (as := [vr c_deeds_debt, vi (-1)]) (rest := []) hX (c_Jarr_fill_deeds_debt_deeds_debt h) ms_Jarr_fill wd_ml_X1_18 dX1_init_25 rfl (Nat.le_of_ble_eq_true rfl) rfl (by decide) ⟨Nat.le_of_ble_eq_true rfl, Nat.le_of_ble_eq_true rfl⟩ (fun M1 h => ?_)
  exact s_vretn hX hq rfl dX1_init_28 h)
def Ly_5 : List DS := lay 48 [(c_xx, .inl (11, [.inr (some c_tape), .inr (some c_land), .inr (some c_draft), .inr (some c_reader), .inr (some c_deeds), .inr (some c_marks), .inl true, .inr none, .inr none, .inr none, .inr none, .inr none])), (c_history, .inl (3, [.inl true, .inr none, .inr none, .inr none]))]
def Ly_6 : List DS := lay 49 [(c_xx, .inl (11, [.inr (some c_tape), .inr (some c_land), .inr (some c_draft), .inr (some c_reader), .inr (some c_deeds), .inr (some c_marks), .inl true, .inr none, .inr none, .inr none, .inr none, .inr none])), (c_history, .inl (3, [.inl true, .inr none, .inr none, .inr none]))]
def Ly_7 : List DS := lay 49 [(c_xx, .inl (11, [.inr (some c_tape), .inr (some c_land), .inr (some c_draft), .inr (some c_reader), .inr (some c_deeds), .inr (some c_marks), .inl true, .inr none, .inr none, .inr none, .inr none, .inr none])), (c_history, .inl (3, [.inl true, .inr (some c_history_birds), .inr none, .inr none]))]
def Ly_8 : List DS := lay 50 [(c_xx, .inl (11, [.inr (some c_tape), .inr (some c_land), .inr (some c_draft), .inr (some c_reader), .inr (some c_deeds), .inr (some c_marks), .inl true, .inr none, .inr none, .inr none, .inr none, .inr none])), (c_history, .inl (3, [.inl true, .inr (some c_history_birds), .inr none, .inr none]))]
def Ly_9 : List DS := lay 50 [(c_xx, .inl (11, [.inr (some c_tape), .inr (some c_land), .inr (some c_draft), .inr (some c_reader), .inr (some c_deeds), .inr (some c_marks), .inl true, .inr none, .inr none, .inr none, .inr none, .inr none])), (c_history, .inl (3, [.inl true, .inr (some c_history_birds), .inr (some c_history_hours), .inr none]))]
def Ly_10 : List DS := lay 51 [(c_xx, .inl (11, [.inr (some c_tape), .inr (some c_land), .inr (some c_draft), .inr (some c_reader), .inr (some c_deeds), .inr (some c_marks), .inl true, .inr none, .inr none, .inr none, .inr none, .inr none])), (c_history, .inl (3, [.inl true, .inr (some c_history_birds), .inr (some c_history_hours), .inr none]))]
def Ly_11 : List DS := lay 51 [(c_xx, .inl (11, [.inr (some c_tape), .inr (some c_land), .inr (some c_draft), .inr (some c_reader), .inr (some c_deeds), .inr (some c_marks), .inl true, .inr none, .inr none, .inr none, .inr none, .inr none]))]
def v_history (M : Mem) (Q : Mem → Prop) : Prop := Q M
set_option maxHeartbeats 1000000 in
theorem n_history {M : Mem} {Q : Mem → Prop} (hz : Z0 48 M) (h : v_history M Q) : CNE yX3_init cX3_init 1 1 3 60 Ly_5 Ly_11 [vr c_history] M Q := mk_ne (lv0 := [some (vr c_history)]) (by decide +kernel) rfl rfl rfl (Nat.le_of_ble_eq_true rfl) (fun X ad0 hX hT hq => by
  refine s_aload_n hX dX3_init_0 rfl ?_
  refine s_obj hX (tb_m2 112 rfl rfl) wd_im_objectInit wd_co_objectInit rfl (Nat.le_of_ble_eq_true rfl) (Nat.le_of_ble_eq_true rfl) dX3_init_1 ?_
  refine s_aload_n hX dX3_init_4 rfl ?_
  refine s_bipush (v := nI 20) hX dX3_init_5 rfl ?_
  refine s_nwi (n := 20) (L' := Ly_6) hX (hz.mono (Nat.le_of_ble_eq_true rfl)) rfl (by decide) rfl rfl rfl (Nat.le_of_ble_eq_true rfl) (Nat.le_of_ble_eq_true rfl) dX3_init_7 rfl (fun X1 hE => ?_)
  replace hT := hT.go hE (Nat.le_of_ble_eq_true rfl)
  replace hq := hq.go hE (Nat.le_of_ble_eq_true rfl) (Nat.le_of_ble_eq_true rfl)
  replace hX := hX.go hE
  clear hE
  refine s_putF (L' := Ly_7) hX hq.ni (show FI RX3 11 3 1 RX3 TX3 4 from ⟨rfl, by decide, fw_X3, wd_fl_X3_11⟩) fp_X3 rfl rfl rfl (fun _ => ⟨rfl, rfl⟩) (f := .inr none) rfl rfl rfl dX3_init_9 ?_
  refine s_aload_n hX dX3_init_12 rfl ?_
  refine s_bipush (v := nI 20) hX dX3_init_13 rfl ?_
  refine s_nwi (n := 20) (L' := Ly_8) hX (hz.mono (Nat.le_of_ble_eq_true rfl)) rfl (by decide) rfl rfl rfl (Nat.le_of_ble_eq_true rfl) (Nat.le_of_ble_eq_true rfl) dX3_init_15 rfl (fun X1 hE => ?_)
  replace hT := hT.go hE (Nat.le_of_ble_eq_true rfl)
  replace hq := hq.go hE (Nat.le_of_ble_eq_true rfl) (Nat.le_of_ble_eq_true rfl)
  replace hX := hX.go hE
  clear hE
  refine s_putF (L' := Ly_9) hX hq.ni (show FI RX3 15 3 2 RX3 TX3 4 from ⟨rfl, by decide, fw_X3, wd_fl_X3_15⟩) fp_X3 rfl rfl rfl (fun _ => ⟨rfl, rfl⟩) (f := .inr none) rfl rfl rfl dX3_init_17 ?_
  refine s_aload_n hX dX3_init_20 rfl ?_
  refine s_bipush (v := nI 20) hX dX3_init_21 rfl ?_
  refine s_nwi (n := 20) (L' := Ly_10) hX (hz.mono (Nat.le_of_ble_eq_true rfl)) rfl (by decide) rfl rfl rfl (Nat.le_of_ble_eq_true rfl) (Nat.le_of_ble_eq_true rfl) dX3_init_23 rfl (fun X1 hE => ?_)
  replace hT := hT.go hE (Nat.le_of_ble_eq_true rfl)
  replace hq := hq.go hE (Nat.le_of_ble_eq_true rfl) (Nat.le_of_ble_eq_true rfl)
  replace hX := hX.go hE
  clear hE
  refine s_putF (L' := Ly_11) hX hq.ni (show FI RX3 18 3 3 RX3 TX3 4 from ⟨rfl, by decide, fw_X3, wd_fl_X3_18⟩) fp_X3 rfl rfl rfl (fun _ => ⟨rfl, rfl⟩) (f := .inr none) rfl rfl rfl dX3_init_25 ?_
  exact s_vretn hX hq rfl dX3_init_28 h)
def Ly_12 : List DS := lay 52 [(c_xx, .inl (11, [.inr (some c_tape), .inr (some c_land), .inr (some c_draft), .inr (some c_reader), .inr (some c_deeds), .inr (some c_marks), .inl true, .inr (some c_history), .inr none, .inr none, .inr none, .inr none])), (c_debts, .inl (0, [.inr none, .inr none, .inr none, .inr none, .inr none, .inr none, .inr none, .inr none, .inr none]))]
def Ly_13 : List DS := lay 53 [(c_xx, .inl (11, [.inr (some c_tape), .inr (some c_land), .inr (some c_draft), .inr (some c_reader), .inr (some c_deeds), .inr (some c_marks), .inl true, .inr (some c_history), .inr none, .inr none, .inr none, .inr none])), (c_debts, .inl (0, [.inr none, .inr none, .inr none, .inr none, .inr none, .inr none, .inr none, .inr none, .inr none]))]
def Ly_14 : List DS := lay 53 [(c_xx, .inl (11, [.inr (some c_tape), .inr (some c_land), .inr (some c_draft), .inr (some c_reader), .inr (some c_deeds), .inr (some c_marks), .inl true, .inr (some c_history), .inr none, .inr none, .inr none, .inr none])), (c_debts, .inl (0, [.inr none, .inr none, .inr (some c_debts_at), .inr none, .inr none, .inr none, .inr none, .inr none, .inr none]))]
def Ly_15 : List DS := lay 54 [(c_xx, .inl (11, [.inr (some c_tape), .inr (some c_land), .inr (some c_draft), .inr (some c_reader), .inr (some c_deeds), .inr (some c_marks), .inl true, .inr (some c_history), .inr none, .inr none, .inr none, .inr none])), (c_debts, .inl (0, [.inr none, .inr none, .inr (some c_debts_at), .inr none, .inr none, .inr none, .inr none, .inr none, .inr none]))]
def Ly_16 : List DS := lay 54 [(c_xx, .inl (11, [.inr (some c_tape), .inr (some c_land), .inr (some c_draft), .inr (some c_reader), .inr (some c_deeds), .inr (some c_marks), .inl true, .inr (some c_history), .inr none, .inr none, .inr none, .inr none])), (c_debts, .inl (0, [.inr none, .inr none, .inr (some c_debts_at), .inr (some c_debts_sums), .inr none, .inr none, .inr none, .inr none, .inr none]))]
def Ly_17 : List DS := lay 55 [(c_xx, .inl (11, [.inr (some c_tape), .inr (some c_land), .inr (some c_draft), .inr (some c_reader), .inr (some c_deeds), .inr (some c_marks), .inl true, .inr (some c_history), .inr none, .inr none, .inr none, .inr none])), (c_debts, .inl (0, [.inr none, .inr none, .inr (some c_debts_at), .inr (some c_debts_sums), .inr none, .inr none, .inr none, .inr none, .inr none]))]
def Ly_18 : List DS := lay 55 [(c_xx, .inl (11, [.inr (some c_tape), .inr (some c_land), .inr (some c_draft), .inr (some c_reader), .inr (some c_deeds), .inr (some c_marks), .inl true, .inr (some c_history), .inr none, .inr none, .inr none, .inr none])), (c_debts, .inl (0, [.inr none, .inr none, .inr (some c_debts_at), .inr (some c_debts_sums), .inr (some c_debts_nearest), .inr none, .inr none, .inr none, .inr none]))]
def Ly_19 : List DS := lay 56 [(c_xx, .inl (11, [.inr (some c_tape), .inr (some c_land), .inr (some c_draft), .inr (some c_reader), .inr (some c_deeds), .inr (some c_marks), .inl true, .inr (some c_history), .inr none, .inr none, .inr none, .inr none])), (c_debts, .inl (0, [.inr none, .inr none, .inr (some c_debts_at), .inr (some c_debts_sums), .inr (some c_debts_nearest), .inr none, .inr none, .inr none, .inr none]))]
def Ly_20 : List DS := lay 56 [(c_xx, .inl (11, [.inr (some c_tape), .inr (some c_land), .inr (some c_draft), .inr (some c_reader), .inr (some c_deeds), .inr (some c_marks), .inl true, .inr (some c_history), .inr none, .inr none, .inr none, .inr none])), (c_debts, .inl (0, [.inr none, .inr none, .inr (some c_debts_at), .inr (some c_debts_sums), .inr (some c_debts_nearest), .inr (some c_debts_gap), .inr none, .inr none, .inr none]))]
def Ly_21 : List DS := lay 57 [(c_xx, .inl (11, [.inr (some c_tape), .inr (some c_land), .inr (some c_draft), .inr (some c_reader), .inr (some c_deeds), .inr (some c_marks), .inl true, .inr (some c_history), .inr none, .inr none, .inr none, .inr none])), (c_debts, .inl (0, [.inr none, .inr none, .inr (some c_debts_at), .inr (some c_debts_sums), .inr (some c_debts_nearest), .inr (some c_debts_gap), .inr none, .inr none, .inr none]))]
def Ly_22 : List DS := lay 57 [(c_xx, .inl (11, [.inr (some c_tape), .inr (some c_land), .inr (some c_draft), .inr (some c_reader), .inr (some c_deeds), .inr (some c_marks), .inl true, .inr (some c_history), .inr none, .inr none, .inr none, .inr none])), (c_debts, .inl (0, [.inr none, .inr none, .inr (some c_debts_at), .inr (some c_debts_sums), .inr (some c_debts_nearest), .inr (some c_debts_gap), .inr (some c_debts_reach), .inr none, .inr none]))]
def Ly_23 : List DS := lay 58 [(c_xx, .inl (11, [.inr (some c_tape), .inr (some c_land), .inr (some c_draft), .inr (some c_reader), .inr (some c_deeds), .inr (some c_marks), .inl true, .inr (some c_history), .inr none, .inr none, .inr none, .inr none])), (c_debts, .inl (0, [.inr none, .inr none, .inr (some c_debts_at), .inr (some c_debts_sums), .inr (some c_debts_nearest), .inr (some c_debts_gap), .inr (some c_debts_reach), .inr none, .inr none]))]
def Ly_24 : List DS := lay 58 [(c_xx, .inl (11, [.inr (some c_tape), .inr (some c_land), .inr (some c_draft), .inr (some c_reader), .inr (some c_deeds), .inr (some c_marks), .inl true, .inr (some c_history), .inr none, .inr none, .inr none, .inr none])), (c_debts, .inl (0, [.inr none, .inr none, .inr (some c_debts_at), .inr (some c_debts_sums), .inr (some c_debts_nearest), .inr (some c_debts_gap), .inr (some c_debts_reach), .inr (some c_debts_rateKey), .inr none]))]
def Ly_25 : List DS := lay 59 [(c_xx, .inl (11, [.inr (some c_tape), .inr (some c_land), .inr (some c_draft), .inr (some c_reader), .inr (some c_deeds), .inr (some c_marks), .inl true, .inr (some c_history), .inr none, .inr none, .inr none, .inr none])), (c_debts, .inl (0, [.inr none, .inr none, .inr (some c_debts_at), .inr (some c_debts_sums), .inr (some c_debts_nearest), .inr (some c_debts_gap), .inr (some c_debts_reach), .inr (some c_debts_rateKey), .inr none]))]
def Ly_26 : List DS := lay 59 [(c_xx, .inl (11, [.inr (some c_tape), .inr (some c_land), .inr (some c_draft), .inr (some c_reader), .inr (some c_deeds), .inr (some c_marks), .inl true, .inr (some c_history), .inr none, .inr none, .inr none, .inr none])), (c_debts, .inl (0, [.inr none, .inr none, .inr (some c_debts_at), .inr (some c_debts_sums), .inr (some c_debts_nearest), .inr (some c_debts_gap), .inr (some c_debts_reach), .inr (some c_debts_rateKey), .inr (some c_debts_rate)]))]
def Ly_27 : List DS := lay 59 [(c_xx, .inl (11, [.inr (some c_tape), .inr (some c_land), .inr (some c_draft), .inr (some c_reader), .inr (some c_deeds), .inr (some c_marks), .inl true, .inr (some c_history), .inr none, .inr none, .inr none, .inr none])), (c_debts, .inl (0, [.inr (some c_land), .inr none, .inr (some c_debts_at), .inr (some c_debts_sums), .inr (some c_debts_nearest), .inr (some c_debts_gap), .inr (some c_debts_reach), .inr (some c_debts_rateKey), .inr (some c_debts_rate)]))]
def Ly_28 : List DS := lay 59 [(c_xx, .inl (11, [.inr (some c_tape), .inr (some c_land), .inr (some c_draft), .inr (some c_reader), .inr (some c_deeds), .inr (some c_marks), .inl true, .inr (some c_history), .inr none, .inr none, .inr none, .inr none]))]
def v_debts (M : Mem) (Q : Mem → Prop) : Prop := Q M
set_option maxHeartbeats 1000000 in
theorem n_debts {M : Mem} {Q : Mem → Prop} (hz : Z0 52 M) (h : v_debts M Q) : CNE yX0_init cX0_init 3 1 7 2752 Ly_12 Ly_28 [vr c_debts, vr c_land, vr c_deeds] M Q := mk_ne (lv0 := [some (vr c_debts), some (vr c_land), some (vr c_deeds)]) (by decide +kernel) rfl rfl rfl (Nat.le_of_ble_eq_true rfl) (fun X ad0 hX hT hq => by
  refine s_aload_n hX dX0_init_0 rfl ?_
  refine s_obj hX (tb_m2 132 rfl rfl) wd_im_objectInit wd_co_objectInit rfl (Nat.le_of_ble_eq_true rfl) (Nat.le_of_ble_eq_true rfl) dX0_init_1 ?_
  refine s_aload_n hX dX0_init_4 rfl ?_
  refine s_sipush (v := nI 144) hX dX0_init_5 rfl ?_
  refine s_nwi (n := 144) (L' := Ly_13) hX (hz.mono (Nat.le_of_ble_eq_true rfl)) rfl (by decide) rfl rfl rfl (Nat.le_of_ble_eq_true rfl) (Nat.le_of_ble_eq_true rfl) dX0_init_8 rfl (fun X1 hE => ?_)
  replace hT := hT.go hE (Nat.le_of_ble_eq_true rfl)
  replace hq := hq.go hE (Nat.le_of_ble_eq_true rfl) (Nat.le_of_ble_eq_true rfl)
  replace hX := hX.go hE
  clear hE
  refine s_putF (L' := Ly_14) hX hq.ni (show FI RX0 9 0 2 RX0 TX0 9 from ⟨rfl, by decide, fw_X0, wd_fl_X0_9⟩) fp_X0 rfl rfl rfl (fun _ => ⟨rfl, rfl⟩) (f := .inr none) rfl rfl rfl dX0_init_10 ?_
  refine s_aload_n hX dX0_init_13 rfl ?_
  refine s_bipush (v := nI 36) hX dX0_init_14 rfl ?_
  refine s_nwi (n := 36) (L' := Ly_15) hX (hz.mono (Nat.le_of_ble_eq_true rfl)) rfl (by decide) rfl rfl rfl (Nat.le_of_ble_eq_true rfl) (Nat.le_of_ble_eq_true rfl) dX0_init_16 rfl (fun X1 hE => ?_)
  replace hT := hT.go hE (Nat.le_of_ble_eq_true rfl)
  replace hq := hq.go hE (Nat.le_of_ble_eq_true rfl) (Nat.le_of_ble_eq_true rfl)
  replace hX := hX.go hE
  clear hE
  refine s_putF (L' := Ly_16) hX hq.ni (show FI RX0 15 0 3 RX0 TX0 9 from ⟨rfl, by decide, fw_X0, wd_fl_X0_15⟩) fp_X0 rfl rfl rfl (fun _ => ⟨rfl, rfl⟩) (f := .inr none) rfl rfl rfl dX0_init_18 ?_
  refine s_aload_n hX dX0_init_21 rfl ?_
  refine s_bipush (v := nI 6) hX dX0_init_22 rfl ?_
  refine s_nwi (n := 6) (L' := Ly_17) hX (hz.mono (Nat.le_of_ble_eq_true rfl)) rfl (by decide) rfl rfl rfl (Nat.le_of_ble_eq_true rfl) (Nat.le_of_ble_eq_true rfl) dX0_init_24 rfl (fun X1 hE => ?_)
  replace hT := hT.go hE (Nat.le_of_ble_eq_true rfl)
  replace hq := hq.go hE (Nat.le_of_ble_eq_true rfl) (Nat.le_of_ble_eq_true rfl)
  replace hX := hX.go hE
  clear hE
  refine s_putF (L' := Ly_18) hX hq.ni (show FI RX0 18 0 4 RX0 TX0 9 from ⟨rfl, by decide, fw_X0, wd_fl_X0_18⟩) fp_X0 rfl rfl rfl (fun _ => ⟨rfl, rfl⟩) (f := .inr none) rfl rfl rfl dX0_init_26 ?_
  refine s_aload_n hX dX0_init_29 rfl ?_
  refine s_bipush (v := nI 6) hX dX0_init_30 rfl ?_
  refine s_nwi (n := 6) (L' := Ly_19) hX (hz.mono (Nat.le_of_ble_eq_true rfl)) rfl (by decide) rfl rfl rfl (Nat.le_of_ble_eq_true rfl) (Nat.le_of_ble_eq_true rfl) dX0_init_32 rfl (fun X1 hE => ?_)
  replace hT := hT.go hE (Nat.le_of_ble_eq_true rfl)
  replace hq := hq.go hE (Nat.le_of_ble_eq_true rfl) (Nat.le_of_ble_eq_true rfl)
  replace hX := hX.go hE
  clear hE
  refine s_putF (L' := Ly_20) hX hq.ni (show FI RX0 21 0 5 RX0 TX0 9 from ⟨rfl, by decide, fw_X0, wd_fl_X0_21⟩) fp_X0 rfl rfl rfl (fun _ => ⟨rfl, rfl⟩) (f := .inr none) rfl rfl rfl dX0_init_34 ?_
  refine s_aload_n hX dX0_init_37 rfl ?_
  refine s_sipush (v := nI 1536) hX dX0_init_38 rfl ?_
  refine s_nwi (n := 1536) (L' := Ly_21) hX (hz.mono (Nat.le_of_ble_eq_true rfl)) rfl (by decide) rfl rfl rfl (Nat.le_of_ble_eq_true rfl) (Nat.le_of_ble_eq_true rfl) dX0_init_41 rfl (fun X1 hE => ?_)
  replace hT := hT.go hE (Nat.le_of_ble_eq_true rfl)
  replace hq := hq.go hE (Nat.le_of_ble_eq_true rfl) (Nat.le_of_ble_eq_true rfl)
  replace hX := hX.go hE
  clear hE
  refine s_putF (L' := Ly_22) hX hq.ni (show FI RX0 24 0 6 RX0 TX0 9 from ⟨rfl, by decide, fw_X0, wd_fl_X0_24⟩) fp_X0 rfl rfl rfl (fun _ => ⟨rfl, rfl⟩) (f := .inr none) rfl rfl rfl dX0_init_43 ?_
  refine s_aload_n hX dX0_init_46 rfl ?_
  refine s_sipush (v := nI 512) hX dX0_init_47 rfl ?_
  refine s_nwi (n := 512) (L' := Ly_23) hX (hz.mono (Nat.le_of_ble_eq_true rfl)) rfl (by decide) rfl rfl rfl (Nat.le_of_ble_eq_true rfl) (Nat.le_of_ble_eq_true rfl) dX0_init_50 rfl (fun X1 hE => ?_)
  replace hT := hT.go hE (Nat.le_of_ble_eq_true rfl)
  replace hq := hq.go hE (Nat.le_of_ble_eq_true rfl) (Nat.le_of_ble_eq_true rfl)
  replace hX := hX.go hE
  clear hE
  refine s_putF (L' := Ly_24) hX hq.ni (show FI RX0 27 0 7 RX0 TX0 9 from ⟨rfl, by decide, fw_X0, wd_fl_X0_27⟩) fp_X0 rfl rfl rfl (fun _ => ⟨rfl, rfl⟩) (f := .inr none) rfl rfl rfl dX0_init_52 ?_
  refine s_aload_n hX dX0_init_55 rfl ?_
  refine s_sipush (v := nI 512) hX dX0_init_56 rfl ?_
  refine s_nwi (n := 512) (L' := Ly_25) hX (hz.mono (Nat.le_of_ble_eq_true rfl)) rfl (by decide) rfl rfl rfl (Nat.le_of_ble_eq_true rfl) (Nat.le_of_ble_eq_true rfl) dX0_init_59 rfl (fun X1 hE => ?_)
  replace hT := hT.go hE (Nat.le_of_ble_eq_true rfl)
  replace hq := hq.go hE (Nat.le_of_ble_eq_true rfl) (Nat.le_of_ble_eq_true rfl)
  replace hX := hX.go hE
  clear hE
  refine s_putF (L' := Ly_26) hX hq.ni (show FI RX0 30 0 8 RX0 TX0 9 from ⟨rfl, by decide, fw_X0, wd_fl_X0_30⟩) fp_X0 rfl rfl rfl (fun _ => ⟨rfl, rfl⟩) (f := .inr none) rfl rfl rfl dX0_init_61 ?_
  refine s_aload_n hX dX0_init_64 rfl ?_
  refine s_aload_n hX dX0_init_65 rfl ?_
  refine s_putF (L' := Ly_27) hX hq.ni (show FI RX0 33 0 0 RX0 TX0 9 from ⟨rfl, by decide, fw_X0, wd_fl_X0_33⟩) fp_X0 rfl rfl rfl (fun _ => ⟨rfl, rfl⟩) (f := .inr none) rfl rfl rfl dX0_init_66 ?_
  refine s_aload_n hX dX0_init_69 rfl ?_
  refine s_aload_n hX dX0_init_70 rfl ?_
  refine s_putF (L' := Ly_28) hX hq.ni (show FI RX0 37 0 1 RX0 TX0 9 from ⟨rfl, by decide, fw_X0, wd_fl_X0_37⟩) fp_X0 rfl rfl rfl (fun _ => ⟨rfl, rfl⟩) (f := .inr none) rfl rfl rfl dX0_init_71 ?_
  exact s_vretn hX hq rfl dX0_init_74 h)
def Ly_29 : List DS := lay 60 [(c_xx, .inl (11, [.inr (some c_tape), .inr (some c_land), .inr (some c_draft), .inr (some c_reader), .inr (some c_deeds), .inr (some c_marks), .inl true, .inr (some c_history), .inr (some c_debts), .inr none, .inr none, .inr none])), (c_game, .inl (2, [.inr none, .inr none, .inr none, .inl true, .inl true, .inl true, .inl true, .inl true, .inr none, .inr none]))]
def Ly_30 : List DS := lay 61 [(c_xx, .inl (11, [.inr (some c_tape), .inr (some c_land), .inr (some c_draft), .inr (some c_reader), .inr (some c_deeds), .inr (some c_marks), .inl true, .inr (some c_history), .inr (some c_debts), .inr none, .inr none, .inr none])), (c_game, .inl (2, [.inr none, .inr none, .inr none, .inl true, .inl true, .inl true, .inl true, .inl true, .inr none, .inr none]))]
def Ly_31 : List DS := lay 61 [(c_xx, .inl (11, [.inr (some c_tape), .inr (some c_land), .inr (some c_draft), .inr (some c_reader), .inr (some c_deeds), .inr (some c_marks), .inl true, .inr (some c_history), .inr (some c_debts), .inr none, .inr none, .inr none])), (c_game, .inl (2, [.inr none, .inr none, .inr none, .inl true, .inl true, .inl true, .inl true, .inl true, .inr (some c_game_path), .inr none]))]
def Ly_32 : List DS := lay 62 [(c_xx, .inl (11, [.inr (some c_tape), .inr (some c_land), .inr (some c_draft), .inr (some c_reader), .inr (some c_deeds), .inr (some c_marks), .inl true, .inr (some c_history), .inr (some c_debts), .inr none, .inr none, .inr none])), (c_game, .inl (2, [.inr none, .inr none, .inr none, .inl true, .inl true, .inl true, .inl true, .inl true, .inr (some c_game_path), .inr none]))]
def Ly_33 : List DS := lay 62 [(c_xx, .inl (11, [.inr (some c_tape), .inr (some c_land), .inr (some c_draft), .inr (some c_reader), .inr (some c_deeds), .inr (some c_marks), .inl true, .inr (some c_history), .inr (some c_debts), .inr none, .inr none, .inr none])), (c_game, .inl (2, [.inr none, .inr none, .inr none, .inl true, .inl true, .inl true, .inl true, .inl true, .inr (some c_game_path), .inr (some c_game_seen)]))]
def Ly_34 : List DS := lay 62 [(c_xx, .inl (11, [.inr (some c_tape), .inr (some c_land), .inr (some c_draft), .inr (some c_reader), .inr (some c_deeds), .inr (some c_marks), .inl true, .inr (some c_history), .inr (some c_debts), .inr none, .inr none, .inr none])), (c_game, .inl (2, [.inr (some c_land), .inr none, .inr none, .inl true, .inl true, .inl true, .inl true, .inl true, .inr (some c_game_path), .inr (some c_game_seen)]))]
def Ly_35 : List DS := lay 62 [(c_xx, .inl (11, [.inr (some c_tape), .inr (some c_land), .inr (some c_draft), .inr (some c_reader), .inr (some c_deeds), .inr (some c_marks), .inl true, .inr (some c_history), .inr (some c_debts), .inr none, .inr none, .inr none])), (c_game, .inl (2, [.inr (some c_land), .inr (some c_deeds), .inr none, .inl true, .inl true, .inl true, .inl true, .inl true, .inr (some c_game_path), .inr (some c_game_seen)]))]
def Ly_36 : List DS := lay 62 [(c_xx, .inl (11, [.inr (some c_tape), .inr (some c_land), .inr (some c_draft), .inr (some c_reader), .inr (some c_deeds), .inr (some c_marks), .inl true, .inr (some c_history), .inr (some c_debts), .inr none, .inr none, .inr none]))]
def v_game (M : Mem) (Q : Mem → Prop) : Prop := Q M
set_option maxHeartbeats 1000000 in
theorem n_game {M : Mem} {Q : Mem → Prop} (hz : Z0 60 M) (h : v_game M Q) : CNE yX2_init cX2_init 4 1 2 75 Ly_29 Ly_36 [vr c_game, vr c_land, vr c_deeds, vr c_debts] M Q := mk_ne (lv0 := [some (vr c_game), some (vr c_land), some (vr c_deeds), some (vr c_debts)]) (by decide +kernel) rfl rfl rfl (Nat.le_of_ble_eq_true rfl) (fun X ad0 hX hT hq => by
  refine s_aload_n hX dX2_init_0 rfl ?_
  refine s_obj hX (tb_m2 170 rfl rfl) wd_im_objectInit wd_co_objectInit rfl (Nat.le_of_ble_eq_true rfl) (Nat.le_of_ble_eq_true rfl) dX2_init_1 ?_
  refine s_aload_n hX dX2_init_4 rfl ?_
  refine s_bipush (v := nI 24) hX dX2_init_5 rfl ?_
  refine s_nwi (n := 24) (L' := Ly_30) hX (hz.mono (Nat.le_of_ble_eq_true rfl)) rfl (by decide) rfl rfl rfl (Nat.le_of_ble_eq_true rfl) (Nat.le_of_ble_eq_true rfl) dX2_init_7 rfl (fun X1 hE => ?_)
  replace hT := hT.go hE (Nat.le_of_ble_eq_true rfl)
  replace hq := hq.go hE (Nat.le_of_ble_eq_true rfl) (Nat.le_of_ble_eq_true rfl)
  replace hX := hX.go hE
  clear hE
  refine s_putF (L' := Ly_31) hX hq.ni (show FI RX2 9 2 8 RX2 TX2 10 from ⟨rfl, by decide, fw_X2, wd_fl_X2_9⟩) fp_X2 rfl rfl rfl (fun _ => ⟨rfl, rfl⟩) (f := .inr none) rfl rfl rfl dX2_init_9 ?_
  refine s_aload_n hX dX2_init_12 rfl ?_
  refine s_bipush (v := nI 51) hX dX2_init_13 rfl ?_
  refine s_nwl (n := 51) (L' := Ly_32) hX (hz.mono (Nat.le_of_ble_eq_true rfl)) rfl (by decide) rfl rfl rfl (Nat.le_of_ble_eq_true rfl) (Nat.le_of_ble_eq_true rfl) dX2_init_15 rfl (fun X1 hE => ?_)
  replace hT := hT.go hE (Nat.le_of_ble_eq_true rfl)
  replace hq := hq.go hE (Nat.le_of_ble_eq_true rfl) (Nat.le_of_ble_eq_true rfl)
  replace hX := hX.go hE
  clear hE
  refine s_putF (L' := Ly_33) hX hq.ni (show FI RX2 15 2 9 RX2 TX2 10 from ⟨rfl, by decide, fw_X2, wd_fl_X2_15⟩) fp_X2 rfl rfl rfl (fun _ => ⟨rfl, rfl⟩) (f := .inr none) rfl rfl rfl dX2_init_17 ?_
  refine s_aload_n hX dX2_init_20 rfl ?_
  refine s_aload_n hX dX2_init_21 rfl ?_
  refine s_putF (L' := Ly_34) hX hq.ni (show FI RX2 19 2 0 RX2 TX2 10 from ⟨rfl, by decide, fw_X2, wd_fl_X2_19⟩) fp_X2 rfl rfl rfl (fun _ => ⟨rfl, rfl⟩) (f := .inr none) rfl rfl rfl dX2_init_22 ?_
  refine s_aload_n hX dX2_init_25 rfl ?_
  refine s_aload_n hX dX2_init_26 rfl ?_
  refine s_putF (L' := Ly_35) hX hq.ni (show FI RX2 23 2 1 RX2 TX2 10 from ⟨rfl, by decide, fw_X2, wd_fl_X2_23⟩) fp_X2 rfl rfl rfl (fun _ => ⟨rfl, rfl⟩) (f := .inr none) rfl rfl rfl dX2_init_27 ?_
  refine s_aload_n hX dX2_init_30 rfl ?_
  refine s_aload_n hX dX2_init_31 rfl ?_
  refine s_putF (L' := Ly_36) hX hq.ni (show FI RX2 27 2 2 RX2 TX2 10 from ⟨rfl, by decide, fw_X2, wd_fl_X2_27⟩) fp_X2 rfl rfl rfl (fun _ => ⟨rfl, rfl⟩) (f := .inr none) rfl rfl rfl dX2_init_32 ?_
  exact s_vretn hX hq rfl dX2_init_35 h)
def Ly_37 : List DS := lay 63 [(c_xx, .inl (11, [.inr (some c_tape), .inr (some c_land), .inr (some c_draft), .inr (some c_reader), .inr (some c_deeds), .inr (some c_marks), .inl true, .inr (some c_history), .inr (some c_debts), .inr (some c_game), .inr none, .inr none])), (c_songs, .inl (9, [.inr none, .inr none, .inr none, .inl true, .inl true, .inr none, .inl true, .inr none, .inr none]))]
def Ly_38 : List DS := lay 64 [(c_xx, .inl (11, [.inr (some c_tape), .inr (some c_land), .inr (some c_draft), .inr (some c_reader), .inr (some c_deeds), .inr (some c_marks), .inl true, .inr (some c_history), .inr (some c_debts), .inr (some c_game), .inr none, .inr none])), (c_songs, .inl (9, [.inr none, .inr none, .inr none, .inl true, .inl true, .inr none, .inl true, .inr none, .inr none]))]
def Ly_39 : List DS := lay 64 [(c_xx, .inl (11, [.inr (some c_tape), .inr (some c_land), .inr (some c_draft), .inr (some c_reader), .inr (some c_deeds), .inr (some c_marks), .inl true, .inr (some c_history), .inr (some c_debts), .inr (some c_game), .inr none, .inr none])), (c_songs, .inl (9, [.inr none, .inr none, .inr none, .inl true, .inl true, .inr (some c_songs_row), .inl true, .inr none, .inr none]))]
def Ly_40 : List DS := lay 65 [(c_xx, .inl (11, [.inr (some c_tape), .inr (some c_land), .inr (some c_draft), .inr (some c_reader), .inr (some c_deeds), .inr (some c_marks), .inl true, .inr (some c_history), .inr (some c_debts), .inr (some c_game), .inr none, .inr none])), (c_songs, .inl (9, [.inr none, .inr none, .inr none, .inl true, .inl true, .inr (some c_songs_row), .inl true, .inr none, .inr none]))]
def Ly_41 : List DS := lay 65 [(c_xx, .inl (11, [.inr (some c_tape), .inr (some c_land), .inr (some c_draft), .inr (some c_reader), .inr (some c_deeds), .inr (some c_marks), .inl true, .inr (some c_history), .inr (some c_debts), .inr (some c_game), .inr none, .inr none])), (c_songs, .inl (9, [.inr none, .inr none, .inr none, .inl true, .inl true, .inr (some c_songs_row), .inl true, .inr (some c_songs_price), .inr none]))]
def Ly_42 : List DS := lay 66 [(c_xx, .inl (11, [.inr (some c_tape), .inr (some c_land), .inr (some c_draft), .inr (some c_reader), .inr (some c_deeds), .inr (some c_marks), .inl true, .inr (some c_history), .inr (some c_debts), .inr (some c_game), .inr none, .inr none])), (c_songs, .inl (9, [.inr none, .inr none, .inr none, .inl true, .inl true, .inr (some c_songs_row), .inl true, .inr (some c_songs_price), .inr none]))]
def Ly_43 : List DS := lay 66 [(c_xx, .inl (11, [.inr (some c_tape), .inr (some c_land), .inr (some c_draft), .inr (some c_reader), .inr (some c_deeds), .inr (some c_marks), .inl true, .inr (some c_history), .inr (some c_debts), .inr (some c_game), .inr none, .inr none])), (c_songs, .inl (9, [.inr none, .inr none, .inr none, .inl true, .inl true, .inr (some c_songs_row), .inl true, .inr (some c_songs_price), .inr (some c_songs_left)]))]
def Ly_44 : List DS := lay 66 [(c_xx, .inl (11, [.inr (some c_tape), .inr (some c_land), .inr (some c_draft), .inr (some c_reader), .inr (some c_deeds), .inr (some c_marks), .inl true, .inr (some c_history), .inr (some c_debts), .inr (some c_game), .inr none, .inr none])), (c_songs, .inl (9, [.inr (some c_land), .inr none, .inr none, .inl true, .inl true, .inr (some c_songs_row), .inl true, .inr (some c_songs_price), .inr (some c_songs_left)]))]
def Ly_45 : List DS := lay 66 [(c_xx, .inl (11, [.inr (some c_tape), .inr (some c_land), .inr (some c_draft), .inr (some c_reader), .inr (some c_deeds), .inr (some c_marks), .inl true, .inr (some c_history), .inr (some c_debts), .inr (some c_game), .inr none, .inr none])), (c_songs, .inl (9, [.inr (some c_land), .inr (some c_deeds), .inr none, .inl true, .inl true, .inr (some c_songs_row), .inl true, .inr (some c_songs_price), .inr (some c_songs_left)]))]
def Ly_46 : List DS := lay 66 [(c_xx, .inl (11, [.inr (some c_tape), .inr (some c_land), .inr (some c_draft), .inr (some c_reader), .inr (some c_deeds), .inr (some c_marks), .inl true, .inr (some c_history), .inr (some c_debts), .inr (some c_game), .inr none, .inr none]))]
def v_songs (M : Mem) (Q : Mem → Prop) : Prop := Q M
set_option maxHeartbeats 1000000 in
theorem n_songs {M : Mem} {Q : Mem → Prop} (hz : Z0 63 M) (h : v_songs M Q) : CNE yX9_init cX9_init 4 1 3 191 Ly_37 Ly_46 [vr c_songs, vr c_land, vr c_deeds, vr c_debts] M Q := mk_ne (lv0 := [some (vr c_songs), some (vr c_land), some (vr c_deeds), some (vr c_debts)]) (by decide +kernel) rfl rfl rfl (Nat.le_of_ble_eq_true rfl) (fun X ad0 hX hT hq => by
  refine s_aload_n hX dX9_init_0 rfl ?_
  refine s_obj hX (tb_m2 212 rfl rfl) wd_im_objectInit wd_co_objectInit rfl (Nat.le_of_ble_eq_true rfl) (Nat.le_of_ble_eq_true rfl) dX9_init_1 ?_
  refine s_aload_n hX dX9_init_4 rfl ?_
  refine s_iconst (v := (nI 5)) hX dX9_init_5 rfl ?_
  refine s_nwi (n := 5) (L' := Ly_38) hX (hz.mono (Nat.le_of_ble_eq_true rfl)) rfl (by decide) rfl rfl rfl (Nat.le_of_ble_eq_true rfl) (Nat.le_of_ble_eq_true rfl) dX9_init_6 rfl (fun X1 hE => ?_)
  replace hT := hT.go hE (Nat.le_of_ble_eq_true rfl)
  replace hq := hq.go hE (Nat.le_of_ble_eq_true rfl) (Nat.le_of_ble_eq_true rfl)
  replace hX := hX.go hE
  clear hE
  refine s_putF (L' := Ly_39) hX hq.ni (show FI RX9 11 9 5 RX9 TX9 9 from ⟨rfl, by decide, fw_X9, wd_fl_X9_11⟩) fp_X9 rfl rfl rfl (fun _ => ⟨rfl, rfl⟩) (f := .inr none) rfl rfl rfl dX9_init_8 ?_
  refine s_aload_n hX dX9_init_11 rfl ?_
  refine s_sipush (v := nI 180) hX dX9_init_12 rfl ?_
  refine s_nwi (n := 180) (L' := Ly_40) hX (hz.mono (Nat.le_of_ble_eq_true rfl)) rfl (by decide) rfl rfl rfl (Nat.le_of_ble_eq_true rfl) (Nat.le_of_ble_eq_true rfl) dX9_init_15 rfl (fun X1 hE => ?_)
  replace hT := hT.go hE (Nat.le_of_ble_eq_true rfl)
  replace hq := hq.go hE (Nat.le_of_ble_eq_true rfl) (Nat.le_of_ble_eq_true rfl)
  replace hX := hX.go hE
  clear hE
  refine s_putF (L' := Ly_41) hX hq.ni (show FI RX9 17 9 7 RX9 TX9 9 from ⟨rfl, by decide, fw_X9, wd_fl_X9_17⟩) fp_X9 rfl rfl rfl (fun _ => ⟨rfl, rfl⟩) (f := .inr none) rfl rfl rfl dX9_init_17 ?_
  refine s_aload_n hX dX9_init_20 rfl ?_
  refine s_bipush (v := nI 6) hX dX9_init_21 rfl ?_
  refine s_nwi (n := 6) (L' := Ly_42) hX (hz.mono (Nat.le_of_ble_eq_true rfl)) rfl (by decide) rfl rfl rfl (Nat.le_of_ble_eq_true rfl) (Nat.le_of_ble_eq_true rfl) dX9_init_23 rfl (fun X1 hE => ?_)
  replace hT := hT.go hE (Nat.le_of_ble_eq_true rfl)
  replace hq := hq.go hE (Nat.le_of_ble_eq_true rfl) (Nat.le_of_ble_eq_true rfl)
  replace hX := hX.go hE
  clear hE
  refine s_putF (L' := Ly_43) hX hq.ni (show FI RX9 20 9 8 RX9 TX9 9 from ⟨rfl, by decide, fw_X9, wd_fl_X9_20⟩) fp_X9 rfl rfl rfl (fun _ => ⟨rfl, rfl⟩) (f := .inr none) rfl rfl rfl dX9_init_25 ?_
  refine s_aload_n hX dX9_init_28 rfl ?_
  refine s_aload_n hX dX9_init_29 rfl ?_
  refine s_putF (L' := Ly_44) hX hq.ni (show FI RX9 23 9 0 RX9 TX9 9 from ⟨rfl, by decide, fw_X9, wd_fl_X9_23⟩) fp_X9 rfl rfl rfl (fun _ => ⟨rfl, rfl⟩) (f := .inr none) rfl rfl rfl dX9_init_30 ?_
  refine s_aload_n hX dX9_init_33 rfl ?_
  refine s_aload_n hX dX9_init_34 rfl ?_
  refine s_putF (L' := Ly_45) hX hq.ni (show FI RX9 27 9 1 RX9 TX9 9 from ⟨rfl, by decide, fw_X9, wd_fl_X9_27⟩) fp_X9 rfl rfl rfl (fun _ => ⟨rfl, rfl⟩) (f := .inr none) rfl rfl rfl dX9_init_35 ?_
  refine s_aload_n hX dX9_init_38 rfl ?_
  refine s_aload_n hX dX9_init_39 rfl ?_
  refine s_putF (L' := Ly_46) hX hq.ni (show FI RX9 31 9 2 RX9 TX9 9 from ⟨rfl, by decide, fw_X9, wd_fl_X9_31⟩) fp_X9 rfl rfl rfl (fun _ => ⟨rfl, rfl⟩) (f := .inr none) rfl rfl rfl dX9_init_40 ?_
  exact s_vretn hX hq rfl dX9_init_43 h)
def Ly_47 : List DS := lay 67 [(c_xx, .inl (11, [.inr (some c_tape), .inr (some c_land), .inr (some c_draft), .inr (some c_reader), .inr (some c_deeds), .inr (some c_marks), .inl true, .inr (some c_history), .inr (some c_debts), .inr (some c_game), .inr (some c_songs), .inr none])), (c_juneDay, .inl (4, [.inr none, .inr none, .inr none, .inr none, .inr none]))]
def Ly_48 : List DS := lay 68 [(c_xx, .inl (11, [.inr (some c_tape), .inr (some c_land), .inr (some c_draft), .inr (some c_reader), .inr (some c_deeds), .inr (some c_marks), .inl true, .inr (some c_history), .inr (some c_debts), .inr (some c_game), .inr (some c_songs), .inr none])), (c_juneDay, .inl (4, [.inr none, .inr none, .inr none, .inr none, .inr none]))]
def Ly_49 : List DS := lay 68 [(c_xx, .inl (11, [.inr (some c_tape), .inr (some c_land), .inr (some c_draft), .inr (some c_reader), .inr (some c_deeds), .inr (some c_marks), .inl true, .inr (some c_history), .inr (some c_debts), .inr (some c_game), .inr (some c_songs), .inr none])), (c_juneDay, .inl (4, [.inr none, .inr none, .inr none, .inr (some c_juneDay_purse), .inr none]))]
def Ly_50 : List DS := lay 69 [(c_xx, .inl (11, [.inr (some c_tape), .inr (some c_land), .inr (some c_draft), .inr (some c_reader), .inr (some c_deeds), .inr (some c_marks), .inl true, .inr (some c_history), .inr (some c_debts), .inr (some c_game), .inr (some c_songs), .inr none])), (c_juneDay, .inl (4, [.inr none, .inr none, .inr none, .inr (some c_juneDay_purse), .inr none]))]
def Ly_51 : List DS := lay 69 [(c_xx, .inl (11, [.inr (some c_tape), .inr (some c_land), .inr (some c_draft), .inr (some c_reader), .inr (some c_deeds), .inr (some c_marks), .inl true, .inr (some c_history), .inr (some c_debts), .inr (some c_game), .inr (some c_songs), .inr none])), (c_juneDay, .inl (4, [.inr none, .inr none, .inr none, .inr (some c_juneDay_purse), .inr (some c_juneDay_due)]))]
def Ly_52 : List DS := lay 69 [(c_xx, .inl (11, [.inr (some c_tape), .inr (some c_land), .inr (some c_draft), .inr (some c_reader), .inr (some c_deeds), .inr (some c_marks), .inl true, .inr (some c_history), .inr (some c_debts), .inr (some c_game), .inr (some c_songs), .inr none])), (c_juneDay, .inl (4, [.inr (some c_land), .inr none, .inr none, .inr (some c_juneDay_purse), .inr (some c_juneDay_due)]))]
def Ly_53 : List DS := lay 69 [(c_xx, .inl (11, [.inr (some c_tape), .inr (some c_land), .inr (some c_draft), .inr (some c_reader), .inr (some c_deeds), .inr (some c_marks), .inl true, .inr (some c_history), .inr (some c_debts), .inr (some c_game), .inr (some c_songs), .inr none])), (c_juneDay, .inl (4, [.inr (some c_land), .inr (some c_deeds), .inr none, .inr (some c_juneDay_purse), .inr (some c_juneDay_due)]))]
def Ly_54 : List DS := lay 69 [(c_xx, .inl (11, [.inr (some c_tape), .inr (some c_land), .inr (some c_draft), .inr (some c_reader), .inr (some c_deeds), .inr (some c_marks), .inl true, .inr (some c_history), .inr (some c_debts), .inr (some c_game), .inr (some c_songs), .inr none]))]
def v_juneDay (M : Mem) (Q : Mem → Prop) : Prop := Q M
set_option maxHeartbeats 1000000 in
theorem n_juneDay {M : Mem} {Q : Mem → Prop} (hz : Z0 67 M) (h : v_juneDay M Q) : CNE yX4_init cX4_init 4 1 2 42 Ly_47 Ly_54 [vr c_juneDay, vr c_land, vr c_deeds, vr c_debts] M Q := mk_ne (lv0 := [some (vr c_juneDay), some (vr c_land), some (vr c_deeds), some (vr c_debts)]) (by decide +kernel) rfl rfl rfl (Nat.le_of_ble_eq_true rfl) (fun X ad0 hX hT hq => by
  refine s_aload_n hX dX4_init_0 rfl ?_
  refine s_obj hX (tb_m3 9 rfl rfl) wd_im_objectInit wd_co_objectInit rfl (Nat.le_of_ble_eq_true rfl) (Nat.le_of_ble_eq_true rfl) dX4_init_1 ?_
  refine s_aload_n hX dX4_init_4 rfl ?_
  refine s_bipush (v := nI 6) hX dX4_init_5 rfl ?_
  refine s_nwi (n := 6) (L' := Ly_48) hX (hz.mono (Nat.le_of_ble_eq_true rfl)) rfl (by decide) rfl rfl rfl (Nat.le_of_ble_eq_true rfl) (Nat.le_of_ble_eq_true rfl) dX4_init_7 rfl (fun X1 hE => ?_)
  replace hT := hT.go hE (Nat.le_of_ble_eq_true rfl)
  replace hq := hq.go hE (Nat.le_of_ble_eq_true rfl) (Nat.le_of_ble_eq_true rfl)
  replace hX := hX.go hE
  clear hE
  refine s_putF (L' := Ly_49) hX hq.ni (show FI RX4 9 4 3 RX4 TX4 5 from ⟨rfl, by decide, fw_X4, wd_fl_X4_9⟩) fp_X4 rfl rfl rfl (fun _ => ⟨rfl, rfl⟩) (f := .inr none) rfl rfl rfl dX4_init_9 ?_
  refine s_aload_n hX dX4_init_12 rfl ?_
  refine s_bipush (v := nI 36) hX dX4_init_13 rfl ?_
  refine s_nwi (n := 36) (L' := Ly_50) hX (hz.mono (Nat.le_of_ble_eq_true rfl)) rfl (by decide) rfl rfl rfl (Nat.le_of_ble_eq_true rfl) (Nat.le_of_ble_eq_true rfl) dX4_init_15 rfl (fun X1 hE => ?_)
  replace hT := hT.go hE (Nat.le_of_ble_eq_true rfl)
  replace hq := hq.go hE (Nat.le_of_ble_eq_true rfl) (Nat.le_of_ble_eq_true rfl)
  replace hX := hX.go hE
  clear hE
  refine s_putF (L' := Ly_51) hX hq.ni (show FI RX4 15 4 4 RX4 TX4 5 from ⟨rfl, by decide, fw_X4, wd_fl_X4_15⟩) fp_X4 rfl rfl rfl (fun _ => ⟨rfl, rfl⟩) (f := .inr none) rfl rfl rfl dX4_init_17 ?_
  refine s_aload_n hX dX4_init_20 rfl ?_
  refine s_aload_n hX dX4_init_21 rfl ?_
  refine s_putF (L' := Ly_52) hX hq.ni (show FI RX4 18 4 0 RX4 TX4 5 from ⟨rfl, by decide, fw_X4, wd_fl_X4_18⟩) fp_X4 rfl rfl rfl (fun _ => ⟨rfl, rfl⟩) (f := .inr none) rfl rfl rfl dX4_init_22 ?_
  refine s_aload_n hX dX4_init_25 rfl ?_
  refine s_aload_n hX dX4_init_26 rfl ?_
  refine s_putF (L' := Ly_53) hX hq.ni (show FI RX4 22 4 1 RX4 TX4 5 from ⟨rfl, by decide, fw_X4, wd_fl_X4_22⟩) fp_X4 rfl rfl rfl (fun _ => ⟨rfl, rfl⟩) (f := .inr none) rfl rfl rfl dX4_init_27 ?_
  refine s_aload_n hX dX4_init_30 rfl ?_
  refine s_aload_n hX dX4_init_31 rfl ?_
  refine s_putF (L' := Ly_54) hX hq.ni (show FI RX4 26 4 2 RX4 TX4 5 from ⟨rfl, by decide, fw_X4, wd_fl_X4_26⟩) fp_X4 rfl rfl rfl (fun _ => ⟨rfl, rfl⟩) (f := .inr none) rfl rfl rfl dX4_init_32 ?_
  exact s_vretn hX hq rfl dX4_init_35 h)
