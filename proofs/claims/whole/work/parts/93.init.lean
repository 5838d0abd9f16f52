/-! constructors -/
def Ly_0 : List DS := lay 1 [(c_xx, .inl (11, [.inr none, .inr none, .inr none, .inr none, .inr none, .inr none, .inl true, .inr none, .inr none, .inr none, .inr none, .inr none]))]
def Ly_1 : List DS := lay 2 [(c_xx, .inl (11, [.inr none, .inr none, .inr none, .inr none, .inr none, .inr none, .inl true, .inr none, .inr none, .inr none, .inr none, .inr none])), (c_tape, .inl (10, [.inr none, .inl true, .inl true, .inl true, .inl true, .inl true, .inl false, .inl true, .inl true, .inr none]))]
def Ly_2 : List DS := lay 3 [(c_xx, .inl (11, [.inr none, .inr none, .inr none, .inr none, .inr none, .inr none, .inl true, .inr none, .inr none, .inr none, .inr none, .inr none])), (c_tape, .inl (10, [.inr none, .inl true, .inl true, .inl true, .inl true, .inl true, .inl false, .inl true, .inl true, .inr none]))]
def Ly_3 : List DS := lay 3 [(c_xx, .inl (11, [.inr none, .inr none, .inr none, .inr none, .inr none, .inr none, .inl true, .inr none, .inr none, .inr none, .inr none, .inr none])), (c_tape, .inl (10, [.inr (some c_tape_signs), .inl true, .inl true, .inl true, .inl true, .inl true, .inl false, .inl true, .inl true, .inr none]))]
def Ly_4 : List DS := lay 4 [(c_xx, .inl (11, [.inr none, .inr none, .inr none, .inr none, .inr none, .inr none, .inl true, .inr none, .inr none, .inr none, .inr none, .inr none])), (c_tape, .inl (10, [.inr (some c_tape_signs), .inl true, .inl true, .inl true, .inl true, .inl true, .inl false, .inl true, .inl true, .inr none]))]
def Ly_5 : List DS := lay 4 [(c_xx, .inl (11, [.inr none, .inr none, .inr none, .inr none, .inr none, .inr none, .inl true, .inr none, .inr none, .inr none, .inr none, .inr none]))]
def v_tape (M : Mem) (Q : Mem → Prop) : Prop := Q (sla M c_tape_keywords (kwF 108))
set_option maxHeartbeats 1000000 in
theorem n_tape {M : Mem} {Q : Mem → Prop} (hz : Z0 2 M) (h : v_tape M Q) : CNE yX10_init cX10_init 4 5 2 1024 Ly_1 Ly_5 [vr c_tape] M Q := mk_ne (lv0 := [some (vr c_tape), none, none, none]) (by decide +kernel) rfl rfl rfl (Nat.le_of_ble_eq_true rfl) (fun X ad0 hX hT hq => by
  refine s_aload_n hX dX10_init_0 rfl ?_
  refine s_obj hX (tb_m1 39 rfl rfl) wd_im_objectInit wd_co_objectInit rfl (Nat.le_of_ble_eq_true rfl) (Nat.le_of_ble_eq_true rfl) dX10_init_1 ?_
  refine s_aload_n hX dX10_init_4 rfl ?_
  refine s_sipush (v := nI 1000) hX dX10_init_5 rfl ?_
  refine s_nwc (n := 1000) (L' := Ly_2) hX (hz.mono (Nat.le_of_ble_eq_true rfl)) rfl (by decide) rfl rfl rfl (Nat.le_of_ble_eq_true rfl) (Nat.le_of_ble_eq_true rfl) dX10_init_8 rfl (fun X1 hE => ?_)
  replace hT := hT.go hE (Nat.le_of_ble_eq_true rfl)
  replace hq := hq.go hE (Nat.le_of_ble_eq_true rfl) (Nat.le_of_ble_eq_true rfl)
  replace hX := hX.go hE
  clear hE
  refine s_putF (L' := Ly_3) hX hq.ni (show FI RX10 9 10 0 RX10 TX10 10 from ⟨rfl, by decide, fw_X10, wd_fl_X10_9⟩) fp_X10 rfl rfl rfl (fun _ => ⟨rfl, rfl⟩) (f := .inr none) rfl rfl rfl dX10_init_10 ?_
  refine s_aload_n hX dX10_init_13 rfl ?_
  refine s_bipush (v := nI 24) hX dX10_init_14 rfl ?_
  refine s_nwl (n := 24) (L' := Ly_4) hX (hz.mono (Nat.le_of_ble_eq_true rfl)) rfl (by decide) rfl rfl rfl (Nat.le_of_ble_eq_true rfl) (Nat.le_of_ble_eq_true rfl) dX10_init_16 rfl (fun X1 hE => ?_)
  replace hT := hT.go hE (Nat.le_of_ble_eq_true rfl)
  replace hq := hq.go hE (Nat.le_of_ble_eq_true rfl) (Nat.le_of_ble_eq_true rfl)
  replace hX := hX.go hE
  clear hE
  refine s_putF (L' := Ly_5) hX hq.ni (show FI RX10 15 10 9 RX10 TX10 10 from ⟨rfl, by decide, fw_X10, wd_fl_X10_15⟩) fp_X10 rfl rfl rfl (fun _ => ⟨rfl, rfl⟩) (f := .inr none) rfl rfl rfl dX10_init_18 ?_
  refine s_iconst (v := (nI 0)) hX dX10_init_21 rfl ?_
  refine s_istore_n (lv' := [some (vr c_tape), some (vi (nI 0)), none, none]) hX dX10_init_22 rfl rfl (Nat.le_of_ble_eq_true rfl) ?_
  refine s_iconst (v := (nI 0)) hX dX10_init_23 rfl ?_
  refine s_istore_n (lv' := [some (vr c_tape), some (vi (nI 0)), some (vi (nI 0)), none]) hX dX10_init_24 rfl rfl (Nat.le_of_ble_eq_true rfl) ?_
  have e0 : sla M c_tape_keywords (kwF 0) = M := sla_0 (hz 3 (by decide)).2
  refine (show Wat _ _ _ _ _ _ _ (sla M c_tape_keywords (kwF 0)) → Wat _ _ _ _ _ _ _ M from fun w => by rw [e0] at w; exact w) ?_
  exact t_kw (M := M) (fs := [.inr (some c_tape_signs), .inl true, .inl true, .inl true, .inl true, .inl true, .inl false, .inl true, .inl true, .inr (some c_tape_keywords)]) hX hT ⟨Nat.le_of_ble_eq_true rfl, Nat.le_of_ble_eq_true rfl⟩ rfl rfl rfl (fun l3 => s_vretn hX hq rfl dX10_init_87 h) 108 0 none (fun x h => by cases h) rfl)
theorem mi_X10 : MI yX10_init cX10_init 4 0 := ⟨wd_co_X10_init, wd_im_X10_init, wd_in_X10, rfl, by decide +kernel, by decide⟩
def Ly_6 : List DS := lay 4 [(c_xx, .inl (11, [.inr (some c_tape), .inr none, .inr none, .inr none, .inr none, .inr none, .inl true, .inr none, .inr none, .inr none, .inr none, .inr none]))]
def Ly_7 : List DS := lay 5 [(c_xx, .inl (11, [.inr (some c_tape), .inr none, .inr none, .inr none, .inr none, .inr none, .inl true, .inr none, .inr none, .inr none, .inr none, .inr none])), (c_land, .inl (5, [.inl true, .inl true, .inl true, .inl true, .inl true, .inr none, .inr none, .inr none, .inr none, .inr none, .inr none, .inl true, .inr none, .inr none]))]
def Ly_8 : List DS := lay 6 [(c_xx, .inl (11, [.inr (some c_tape), .inr none, .inr none, .inr none, .inr none, .inr none, .inl true, .inr none, .inr none, .inr none, .inr none, .inr none])), (c_land, .inl (5, [.inl true, .inl true, .inl true, .inl true, .inl true, .inr none, .inr none, .inr none, .inr none, .inr none, .inr none, .inl true, .inr none, .inr none]))]
def Ly_9 : List DS := lay 6 [(c_xx, .inl (11, [.inr (some c_tape), .inr none, .inr none, .inr none, .inr none, .inr none, .inl true, .inr none, .inr none, .inr none, .inr none, .inr none])), (c_land, .inl (5, [.inl true, .inl true, .inl true, .inl true, .inl true, .inr (some c_land_kind), .inr none, .inr none, .inr none, .inr none, .inr none, .inl true, .inr none, .inr none]))]
def Ly_10 : List DS := lay 7 [(c_xx, .inl (11, [.inr (some c_tape), .inr none, .inr none, .inr none, .inr none, .inr none, .inl true, .inr none, .inr none, .inr none, .inr none, .inr none])), (c_land, .inl (5, [.inl true, .inl true, .inl true, .inl true, .inl true, .inr (some c_land_kind), .inr none, .inr none, .inr none, .inr none, .inr none, .inl true, .inr none, .inr none]))]
def Ly_11 : List DS := lay 7 [(c_xx, .inl (11, [.inr (some c_tape), .inr none, .inr none, .inr none, .inr none, .inr none, .inl true, .inr none, .inr none, .inr none, .inr none, .inr none])), (c_land, .inl (5, [.inl true, .inl true, .inl true, .inl true, .inl true, .inr (some c_land_kind), .inr (some c_land_purse), .inr none, .inr none, .inr none, .inr none, .inl true, .inr none, .inr none]))]
def Ly_12 : List DS := lay 8 [(c_xx, .inl (11, [.inr (some c_tape), .inr none, .inr none, .inr none, .inr none, .inr none, .inl true, .inr none, .inr none, .inr none, .inr none, .inr none])), (c_land, .inl (5, [.inl true, .inl true, .inl true, .inl true, .inl true, .inr (some c_land_kind), .inr (some c_land_purse), .inr none, .inr none, .inr none, .inr none, .inl true, .inr none, .inr none]))]
def Ly_13 : List DS := lay 8 [(c_xx, .inl (11, [.inr (some c_tape), .inr none, .inr none, .inr none, .inr none, .inr none, .inl true, .inr none, .inr none, .inr none, .inr none, .inr none])), (c_land, .inl (5, [.inl true, .inl true, .inl true, .inl true, .inl true, .inr (some c_land_kind), .inr (some c_land_purse), .inr (some c_land_place), .inr none, .inr none, .inr none, .inl true, .inr none, .inr none]))]
def Ly_14 : List DS := lay 9 [(c_xx, .inl (11, [.inr (some c_tape), .inr none, .inr none, .inr none, .inr none, .inr none, .inl true, .inr none, .inr none, .inr none, .inr none, .inr none])), (c_land, .inl (5, [.inl true, .inl true, .inl true, .inl true, .inl true, .inr (some c_land_kind), .inr (some c_land_purse), .inr (some c_land_place), .inr none, .inr none, .inr none, .inl true, .inr none, .inr none]))]
def Ly_15 : List DS := lay 9 [(c_xx, .inl (11, [.inr (some c_tape), .inr none, .inr none, .inr none, .inr none, .inr none, .inl true, .inr none, .inr none, .inr none, .inr none, .inr none])), (c_land, .inl (5, [.inl true, .inl true, .inl true, .inl true, .inl true, .inr (some c_land_kind), .inr (some c_land_purse), .inr (some c_land_place), .inr (some c_land_bush), .inr none, .inr none, .inl true, .inr none, .inr none]))]
def Ly_16 : List DS := lay 10 [(c_xx, .inl (11, [.inr (some c_tape), .inr none, .inr none, .inr none, .inr none, .inr none, .inl true, .inr none, .inr none, .inr none, .inr none, .inr none])), (c_land, .inl (5, [.inl true, .inl true, .inl true, .inl true, .inl true, .inr (some c_land_kind), .inr (some c_land_purse), .inr (some c_land_place), .inr (some c_land_bush), .inr none, .inr none, .inl true, .inr none, .inr none]))]
def Ly_17 : List DS := lay 10 [(c_xx, .inl (11, [.inr (some c_tape), .inr none, .inr none, .inr none, .inr none, .inr none, .inl true, .inr none, .inr none, .inr none, .inr none, .inr none])), (c_land, .inl (5, [.inl true, .inl true, .inl true, .inl true, .inl true, .inr (some c_land_kind), .inr (some c_land_purse), .inr (some c_land_place), .inr (some c_land_bush), .inr (some c_land_times), .inr none, .inl true, .inr none, .inr none]))]
def Ly_18 : List DS := lay 11 [(c_xx, .inl (11, [.inr (some c_tape), .inr none, .inr none, .inr none, .inr none, .inr none, .inl true, .inr none, .inr none, .inr none, .inr none, .inr none])), (c_land, .inl (5, [.inl true, .inl true, .inl true, .inl true, .inl true, .inr (some c_land_kind), .inr (some c_land_purse), .inr (some c_land_place), .inr (some c_land_bush), .inr (some c_land_times), .inr none, .inl true, .inr none, .inr none]))]
def Ly_19 : List DS := lay 11 [(c_xx, .inl (11, [.inr (some c_tape), .inr none, .inr none, .inr none, .inr none, .inr none, .inl true, .inr none, .inr none, .inr none, .inr none, .inr none])), (c_land, .inl (5, [.inl true, .inl true, .inl true, .inl true, .inl true, .inr (some c_land_kind), .inr (some c_land_purse), .inr (some c_land_place), .inr (some c_land_bush), .inr (some c_land_times), .inr (some c_land_code), .inl true, .inr none, .inr none]))]
def Ly_20 : List DS := lay 12 [(c_xx, .inl (11, [.inr (some c_tape), .inr none, .inr none, .inr none, .inr none, .inr none, .inl true, .inr none, .inr none, .inr none, .inr none, .inr none])), (c_land, .inl (5, [.inl true, .inl true, .inl true, .inl true, .inl true, .inr (some c_land_kind), .inr (some c_land_purse), .inr (some c_land_place), .inr (some c_land_bush), .inr (some c_land_times), .inr (some c_land_code), .inl true, .inr none, .inr none])), (c_land_owe, .inl (6, [.inr none, .inl true, .inl true, .inl true, .inr none]))]
def Ly_21 : List DS := lay 13 [(c_xx, .inl (11, [.inr (some c_tape), .inr none, .inr none, .inr none, .inr none, .inr none, .inl true, .inr none, .inr none, .inr none, .inr none, .inr none])), (c_land, .inl (5, [.inl true, .inl true, .inl true, .inl true, .inl true, .inr (some c_land_kind), .inr (some c_land_purse), .inr (some c_land_place), .inr (some c_land_bush), .inr (some c_land_times), .inr (some c_land_code), .inl true, .inr none, .inr none])), (c_land_owe, .inl (6, [.inr none, .inl true, .inl true, .inl true, .inr none]))]
def Ly_22 : List DS := lay 13 [(c_xx, .inl (11, [.inr (some c_tape), .inr none, .inr none, .inr none, .inr none, .inr none, .inl true, .inr none, .inr none, .inr none, .inr none, .inr none])), (c_land, .inl (5, [.inl true, .inl true, .inl true, .inl true, .inl true, .inr (some c_land_kind), .inr (some c_land_purse), .inr (some c_land_place), .inr (some c_land_bush), .inr (some c_land_times), .inr (some c_land_code), .inl true, .inr none, .inr none])), (c_land_owe, .inl (6, [.inr none, .inl true, .inl true, .inl true, .inr (some c_land_owe_stack)]))]
def Ly_23 : List DS := lay 13 [(c_xx, .inl (11, [.inr (some c_tape), .inr none, .inr none, .inr none, .inr none, .inr none, .inl true, .inr none, .inr none, .inr none, .inr none, .inr none])), (c_land, .inl (5, [.inl true, .inl true, .inl true, .inl true, .inl true, .inr (some c_land_kind), .inr (some c_land_purse), .inr (some c_land_place), .inr (some c_land_bush), .inr (some c_land_times), .inr (some c_land_code), .inl true, .inr none, .inr none]))]
def v_land_owe (M : Mem) (Q : Mem → Prop) : Prop := Q M
set_option maxHeartbeats 1000000 in
theorem n_land_owe {M : Mem} {Q : Mem → Prop} (hz : Z0 12 M) (h : v_land_owe M Q) : CNE yX6_init cX6_init 2 1 1 32 Ly_20 Ly_23 [vr c_land_owe, vr c_land_code] M Q := mk_ne (lv0 := [some (vr c_land_owe), some (vr c_land_code)]) (by decide +kernel) rfl rfl rfl (Nat.le_of_ble_eq_true rfl) (fun X ad0 hX hT hq => by
  refine s_aload_n hX dX6_init_0 rfl ?_
  refine s_obj hX (tb_m1 143 rfl rfl) wd_im_objectInit wd_co_objectInit rfl (Nat.le_of_ble_eq_true rfl) (Nat.le_of_ble_eq_true rfl) dX6_init_1 ?_
  refine s_aload_n hX dX6_init_4 rfl ?_
  refine s_bipush (v := nI 32) hX dX6_init_5 rfl ?_
  refine s_nwi (n := 32) (L' := Ly_21) hX (hz.mono (Nat.le_of_ble_eq_true rfl)) rfl (by decide) rfl rfl rfl (Nat.le_of_ble_eq_true rfl) (Nat.le_of_ble_eq_true rfl) dX6_init_7 rfl (fun X1 hE => ?_)
  replace hT := hT.go hE (Nat.le_of_ble_eq_true rfl)
  replace hq := hq.go hE (Nat.le_of_ble_eq_true rfl) (Nat.le_of_ble_eq_true rfl)
  replace hX := hX.go hE
  clear hE
  refine s_putF (L' := Ly_22) hX hq.ni (show FI RX6 9 6 4 RX6 TX6 5 from ⟨rfl, by decide, fw_X6, wd_fl_X6_9⟩) fp_X6 rfl rfl rfl (fun _ => ⟨rfl, rfl⟩) (f := .inr none) rfl rfl rfl dX6_init_9 ?_
  refine s_aload_n hX dX6_init_12 rfl ?_
  refine s_aload_n hX dX6_init_13 rfl ?_
  refine s_putF (L' := Ly_23) hX hq.ni (show FI RX6 13 6 0 RX6 TX6 5 from ⟨rfl, by decide, fw_X6, wd_fl_X6_13⟩) fp_X6 rfl rfl rfl (fun _ => ⟨rfl, rfl⟩) (f := .inr none) rfl rfl rfl dX6_init_14 ?_
  exact s_vretn hX hq rfl dX6_init_17 h)
theorem mi_X6 : MI yX6_init cX6_init 2 1 := ⟨wd_co_X6_init, wd_im_X6_init, wd_in_X6, rfl, by decide +kernel, by decide⟩
def Ly_24 : List DS := lay 13 [(c_xx, .inl (11, [.inr (some c_tape), .inr none, .inr none, .inr none, .inr none, .inr none, .inl true, .inr none, .inr none, .inr none, .inr none, .inr none])), (c_land, .inl (5, [.inl true, .inl true, .inl true, .inl true, .inl true, .inr (some c_land_kind), .inr (some c_land_purse), .inr (some c_land_place), .inr (some c_land_bush), .inr (some c_land_times), .inr (some c_land_code), .inl true, .inr (some c_land_owe), .inr none]))]
def Ly_25 : List DS := lay 14 [(c_xx, .inl (11, [.inr (some c_tape), .inr none, .inr none, .inr none, .inr none, .inr none, .inl true, .inr none, .inr none, .inr none, .inr none, .inr none])), (c_land, .inl (5, [.inl true, .inl true, .inl true, .inl true, .inl true, .inr (some c_land_kind), .inr (some c_land_purse), .inr (some c_land_place), .inr (some c_land_bush), .inr (some c_land_times), .inr (some c_land_code), .inl true, .inr (some c_land_owe), .inr none])), (c_land_fog, .inl (6, [.inr none, .inl true, .inl true, .inl true, .inr none]))]
def Ly_26 : List DS := lay 15 [(c_xx, .inl (11, [.inr (some c_tape), .inr none, .inr none, .inr none, .inr none, .inr none, .inl true, .inr none, .inr none, .inr none, .inr none, .inr none])), (c_land, .inl (5, [.inl true, .inl true, .inl true, .inl true, .inl true, .inr (some c_land_kind), .inr (some c_land_purse), .inr (some c_land_place), .inr (some c_land_bush), .inr (some c_land_times), .inr (some c_land_code), .inl true, .inr (some c_land_owe), .inr none])), (c_land_fog, .inl (6, [.inr none, .inl true, .inl true, .inl true, .inr none]))]
def Ly_27 : List DS := lay 15 [(c_xx, .inl (11, [.inr (some c_tape), .inr none, .inr none, .inr none, .inr none, .inr none, .inl true, .inr none, .inr none, .inr none, .inr none, .inr none])), (c_land, .inl (5, [.inl true, .inl true, .inl true, .inl true, .inl true, .inr (some c_land_kind), .inr (some c_land_purse), .inr (some c_land_place), .inr (some c_land_bush), .inr (some c_land_times), .inr (some c_land_code), .inl true, .inr (some c_land_owe), .inr none])), (c_land_fog, .inl (6, [.inr none, .inl true, .inl true, .inl true, .inr (some c_land_fog_stack)]))]
def Ly_28 : List DS := lay 15 [(c_xx, .inl (11, [.inr (some c_tape), .inr none, .inr none, .inr none, .inr none, .inr none, .inl true, .inr none, .inr none, .inr none, .inr none, .inr none])), (c_land, .inl (5, [.inl true, .inl true, .inl true, .inl true, .inl true, .inr (some c_land_kind), .inr (some c_land_purse), .inr (some c_land_place), .inr (some c_land_bush), .inr (some c_land_times), .inr (some c_land_code), .inl true, .inr (some c_land_owe), .inr none]))]
def v_land_fog (M : Mem) (Q : Mem → Prop) : Prop := Q M
set_option maxHeartbeats 1000000 in
theorem n_land_fog {M : Mem} {Q : Mem → Prop} (hz : Z0 14 M) (h : v_land_fog M Q) : CNE yX6_init cX6_init 2 1 1 32 Ly_25 Ly_28 [vr c_land_fog, vr c_land_code] M Q := mk_ne (lv0 := [some (vr c_land_fog), some (vr c_land_code)]) (by decide +kernel) rfl rfl rfl (Nat.le_of_ble_eq_true rfl) (fun X ad0 hX hT hq => by
  refine s_aload_n hX dX6_init_0 rfl ?_
  refine s_obj hX (tb_m1 143 rfl rfl) wd_im_objectInit wd_co_objectInit rfl (Nat.le_of_ble_eq_true rfl) (Nat.le_of_ble_eq_true rfl) dX6_init_1 ?_
  refine s_aload_n hX dX6_init_4 rfl ?_
  refine s_bipush (v := nI 32) hX dX6_init_5 rfl ?_
  refine s_nwi (n := 32) (L' := Ly_26) hX (hz.mono (Nat.le_of_ble_eq_true rfl)) rfl (by decide) rfl rfl rfl (Nat.le_of_ble_eq_true rfl) (Nat.le_of_ble_eq_true rfl) dX6_init_7 rfl (fun X1 hE => ?_)
  replace hT := hT.go hE (Nat.le_of_ble_eq_true rfl)
  replace hq := hq.go hE (Nat.le_of_ble_eq_true rfl) (Nat.le_of_ble_eq_true rfl)
  replace hX := hX.go hE
  clear hE
  refine s_putF (L' := Ly_27) hX hq.ni (show FI RX6 9 6 4 RX6 TX6 5 from ⟨rfl, by decide, fw_X6, wd_fl_X6_9⟩) fp_X6 rfl rfl rfl (fun _ => ⟨rfl, rfl⟩) (f := .inr none) rfl rfl rfl dX6_init_9 ?_
  refine s_aload_n hX dX6_init_12 rfl ?_
  refine s_aload_n hX dX6_init_13 rfl ?_
  refine s_putF (L' := Ly_28) hX hq.ni (show FI RX6 13 6 0 RX6 TX6 5 from ⟨rfl, by decide, fw_X6, wd_fl_X6_13⟩) fp_X6 rfl rfl rfl (fun _ => ⟨rfl, rfl⟩) (f := .inr none) rfl rfl rfl dX6_init_14 ?_
  exact s_vretn hX hq rfl dX6_init_17 h)
def Ly_29 : List DS := lay 15 [(c_xx, .inl (11, [.inr (some c_tape), .inr none, .inr none, .inr none, .inr none, .inr none, .inl true, .inr none, .inr none, .inr none, .inr none, .inr none]))]
theorem lyland_c_land : Ly_29[c_land]? = some (.inl (5, [.inl true, .inl true, .inl true, .inl true, .inl true, .inr (some c_land_kind), .inr (some c_land_purse), .inr (some c_land_place), .inr (some c_land_bush), .inr (some c_land_times), .inr (some c_land_code), .inl true, .inr (some c_land_owe), .inr (some c_land_fog)])) := rfl
theorem lyland_c_land_code : Ly_29[c_land_code]? = some (.inr (0, 1024, [])) := rfl
theorem lyland_c_land_fog : Ly_29[c_land_fog]? = some (.inl (6, [.inr (some c_land_code), .inl true, .inl true, .inl true, .inr (some c_land_fog_stack)])) := rfl
theorem lyland_c_land_owe : Ly_29[c_land_owe]? = some (.inl (6, [.inr (some c_land_code), .inl true, .inl true, .inl true, .inr (some c_land_owe_stack)])) := rfl
theorem lyland_c_land_times : Ly_29[c_land_times]? = some (.inr (0, 120, [])) := rfl
def w_Jarr_fill_L5_land (l1 : Int32) (l3 : Int32) (K : Mem → Prop) (Q : Mem → Prop) : Nat → Int32 → Mem → Prop
  | 0, _, _ => False
  | n + 1, l2, M => ((l3 ≤ l2 → K M) ∧ (¬ l3 ≤ l2 → (vp_in l2 120 ∧ w_Jarr_fill_L5_land l1 l3 K Q n (l2 + 1) (si M c_land_times (Int32.toNatClampNeg l2) l1))))
set_option maxHeartbeats 4000000 in
theorem t_Jarr_fill_L5_land {X : Cx} (hX : Cok X cJ7_fill_53178 RJ7 4 none 1 0 0) {Q : Mem → Prop} (hq : RV X 0 0 Ly_29 Q) {l1 : Int32} {l3 : Int32} {K : Mem → Prop} (hK : ∀ (M : Mem), K M → Wat X 0 0 Ly_29 20 [none, none, none, none] [] M) : ∀ (n : Nat) (l2 : Int32) (M : Mem), w_Jarr_fill_L5_land l1 l3 K Q n l2 M → Wat X 0 0 Ly_29 5 [some (vr c_land_times), some (vi l1), some (vi l2), some (vi l3)] [] M := by
  intro n
  induction n with
  | zero => intro _ _ h; exact h.elim
  | succ n ih =>
    intro l2 M h
    refine s_iload_n hX dJ7_fill_53178_5 rfl ?_
    refine s_iload_n hX dJ7_fill_53178_6 rfl ?_
    refine s_icmp_ge (tgt := 20) hX dJ7_fill_53178_7 (by decide) (fun c => ?_) (fun c => ?_)
    · replace h := h.1 c
      refine s_mask [false, false, false, false] (lv' := [none, none, none, none]) rfl rfl ?_
      exact hK _ h
    · replace h := h.2 c
      refine s_aload_n hX dJ7_fill_53178_10 rfl ?_
      refine s_iload_n hX dJ7_fill_53178_11 rfl ?_
      refine s_iload_n hX dJ7_fill_53178_12 rfl ?_
      have hi := h.1
      replace h := h.2
      refine s_iast hX lyland_c_land_times hi dJ7_fill_53178_13 ?_
      refine s_iinc (v := (l2 + 1)) (lv' := [some (vr c_land_times), some (vi l1), some (vi (l2 + 1)), some (vi l3)]) hX dJ7_fill_53178_14 rfl rfl rfl rfl ?_
      refine s_goto (tgt := 5) hX dJ7_fill_53178_17 (by decide) ?_
      exact ih _ _ h
def w_Jarr_fill_land (a0 : Int32) (M : Mem) (Q : Mem → Prop) : Prop :=
  (∃ n8, w_Jarr_fill_L5_land a0 120 (fun M7 => Q M7) Q n8 0 M)
set_option maxHeartbeats 4000000 in
theorem t_Jarr_fill_land {X : Cx} (hX : Cok X cJ7_fill_53178 RJ7 4 none 1 0 0) {Q : Mem → Prop} (hq : RV X 0 0 Ly_29 Q) {M : Mem} {a0 : Int32} (h : w_Jarr_fill_land a0 M Q) : Wat X 0 0 Ly_29 0 [some (vr c_land_times), some (vi a0), none, none] [] M := by
  refine s_iconst (v := 0) hX dJ7_fill_53178_0 rfl ?_
  refine s_istore_n (lv' := [some (vr c_land_times), some (vi a0), some (vi 0), none]) hX dJ7_fill_53178_1 rfl rfl (Nat.le_of_ble_eq_true rfl) ?_
  refine s_aload_n hX dJ7_fill_53178_2 rfl ?_
  refine s_alen (v := 120) hX lyland_c_land_times (by decide) rfl dJ7_fill_53178_3 ?_
  refine s_istore_n (lv' := [some (vr c_land_times), some (vi a0), some (vi 0), some (vi 120)]) hX dJ7_fill_53178_4 rfl rfl (Nat.le_of_ble_eq_true rfl) ?_
  obtain ⟨n8, h⟩ := h
  refine t_Jarr_fill_L5_land hX hq ?_ n8 _ _ h
  intro M7 h
  exact s_vret hX hq rfl dJ7_fill_53178_20 h
theorem c_Jarr_fill_land {a0 : Int32} {M : Mem} {Q : Mem → Prop} (h : w_Jarr_fill_land a0 M Q) : CV yJ7_fill_53178 cJ7_fill_53178 4 none 1 0 0 Ly_29 Ly_29 [vr c_land_times, vi a0] M Q := mk_v rfl wd_co_J7_fill_53178 rfl rfl (Nat.le_of_ble_eq_true rfl) (fun X hX hq => t_Jarr_fill_land hX hq h)
def w_Land_addStep_land (a0 : Int32) (M : Mem) (Q : Mem → Prop) : Prop :=
  (((M.1 c_land Land_codeLength) < 0 → Q M) ∧ (¬ (M.1 c_land Land_codeLength) < 0 → ((1024 ≤ (M.1 c_land Land_codeLength) → Q M) ∧ (¬ 1024 ≤ (M.1 c_land Land_codeLength) → (vp_in (M.1 c_land Land_codeLength) 1024 ∧ Q (si (si M c_land_code (Int32.toNatClampNeg (M.1 c_land Land_codeLength)) a0) c_land Land_codeLength ((M.1 c_land Land_codeLength) + 1)))))))
set_option maxHeartbeats 4000000 in
theorem t_Land_addStep_land {X : Cx} (hX : Cok X cX5_addStep RX5 2 none 1 0 0) {Q : Mem → Prop} (hq : RV X 0 0 Ly_29 Q) {M : Mem} {a0 : Int32} (h : w_Land_addStep_land a0 M Q) : Wat X 0 0 Ly_29 0 [some (vr c_land), some (vi a0)] [] M := by
  refine s_aload_n hX dX5_addStep_0 rfl ?_
  refine s_getiv (v := (M.1 c_land Land_codeLength)) hX fi_X5_67 lyland_c_land rfl dX5_addStep_1 rfl ?_
  refine s_if_lt (tgt := 37) hX dX5_addStep_4 (by decide) (fun c => ?_) (fun c => ?_)
  · replace h := h.1 c
    exact s_vret hX hq rfl dX5_addStep_37 h
  · replace h := h.2 c
    refine s_aload_n hX dX5_addStep_7 rfl ?_
    refine s_getiv (v := (M.1 c_land Land_codeLength)) hX fi_X5_67 lyland_c_land rfl dX5_addStep_8 rfl ?_
    refine s_sipush (v := 1024) hX dX5_addStep_11 rfl ?_
    refine s_icmp_ge (tgt := 37) hX dX5_addStep_14 (by decide) (fun c => ?_) (fun c => ?_)
    · replace h := h.1 c
      exact s_vret hX hq rfl dX5_addStep_37 h
    · replace h := h.2 c
      refine s_aload_n hX dX5_addStep_17 rfl ?_
      refine s_getr hX fi_X5_27 lyland_c_land rfl dX5_addStep_18 ?_
      refine s_aload_n hX dX5_addStep_21 rfl ?_
      refine s_getiv (v := (M.1 c_land Land_codeLength)) hX fi_X5_67 lyland_c_land rfl dX5_addStep_22 rfl ?_
      refine s_iload_n hX dX5_addStep_25 rfl ?_
      have hi := h.1
      replace h := h.2
      refine s_iast hX lyland_c_land_code hi dX5_addStep_26 ?_
      refine s_aload_n hX dX5_addStep_27 rfl ?_
      refine s_dup hX dX5_addStep_28 rfl ?_
      refine s_getiv (v := (M.1 c_land Land_codeLength)) hX fi_X5_67 lyland_c_land rfl dX5_addStep_29 rfl ?_
      refine s_iconst (v := 1) hX dX5_addStep_32 rfl ?_
      refine s_iadd hX dX5_addStep_33 ?_
      refine s_puti hX fi_X5_67 fp_X5 rfl (by decide +kernel) lyland_c_land rfl dX5_addStep_34 ?_
      exact s_vret hX hq rfl dX5_addStep_37 h
theorem c_Land_addStep_land {a0 : Int32} {M : Mem} {Q : Mem → Prop} (h : w_Land_addStep_land a0 M Q) : CV yX5_addStep cX5_addStep 2 none 1 0 0 Ly_29 Ly_29 [vr c_land, vi a0] M Q := mk_v rfl wd_co_X5_addStep rfl rfl (Nat.le_of_ble_eq_true rfl) (fun X hX hq => t_Land_addStep_land hX hq h)
def w_Land_holdUntold_land (a0 : Int32) (M : Mem) (Q : Mem → Prop) : Prop :=
  w_Land_addStep_land a0 (si (si M c_land_owe Law_isTold 0) c_land_owe Law_from (M.1 c_land Land_codeLength)) (fun M10 => Q (si M10 c_land_owe Law_to (M10.1 c_land Land_codeLength)))
set_option maxHeartbeats 4000000 in
theorem t_Land_holdUntold_land {X : Cx} (hX : Cok X cX5_holdUntold RX5 3 none 2 0 0) {Q : Mem → Prop} (hq : RV X 0 0 Ly_29 Q) {M : Mem} {a0 : Int32} (h : w_Land_holdUntold_land a0 M Q) : Wat X 0 0 Ly_29 0 [some (vr c_land), some (vr c_land_owe), some (vi a0)] [] M := by
  refine s_aload_n hX dX5_holdUntold_0 rfl ?_
  refine s_iconst (v := 0) hX dX5_holdUntold_1 rfl ?_
  refine s_putz hX fi_X5_74 fp_X6 rfl (by decide +kernel) ⟨rfl, rfl⟩ lyland_c_land_owe rfl dX5_holdUntold_2 ?_
  refine s_aload_n hX dX5_holdUntold_5 rfl ?_
  refine s_aload_n hX dX5_holdUntold_6 rfl ?_
  refine s_getiv (v := (M.1 c_land Land_codeLength)) hX fi_X5_67 lyland_c_land rfl dX5_holdUntold_7 rfl ?_
  refine s_puti hX fi_X5_78 fp_X6 rfl (by decide +kernel) lyland_c_land_owe rfl dX5_holdUntold_10 ?_
  refine s_aload_n hX dX5_holdUntold_13 rfl ?_
  refine s_iload_n hX dX5_holdUntold_14 rfl ?_
  refine s_cvv (as := [vi a0]) (rest := []) hX (c_Land_addStep_land h) mv_Land_addStep wd_ml_X5_81 dX5_holdUntold_15 lyland_c_land rfl rfl (Nat.le_of_ble_eq_true rfl) rfl (by decide) ⟨Nat.zero_le _, Nat.zero_le _⟩ (fun M10 h => ?_)
  refine s_aload_n hX dX5_holdUntold_18 rfl ?_
  refine s_aload_n hX dX5_holdUntold_19 rfl ?_
  refine s_getiv (v := (M10.1 c_land Land_codeLength)) hX fi_X5_67 lyland_c_land rfl dX5_holdUntold_20 rfl ?_
  refine s_puti hX fi_X5_85 fp_X6 rfl (by decide +kernel) lyland_c_land_owe rfl dX5_holdUntold_23 ?_
  exact s_vret hX hq rfl dX5_holdUntold_26 h
theorem c_Land_holdUntold_land {a0 : Int32} {M : Mem} {Q : Mem → Prop} (h : w_Land_holdUntold_land a0 M Q) : CV yX5_holdUntold cX5_holdUntold 3 none 2 0 0 Ly_29 Ly_29 [vr c_land, vr c_land_owe, vi a0] M Q := mk_v rfl wd_co_X5_holdUntold rfl rfl (Nat.le_of_ble_eq_true rfl) (fun X hX hq => t_Land_holdUntold_land hX hq h)
def w_Land_holdUntold_draft_fog_land (a0 : Int32) (M : Mem) (Q : Mem → Prop) : Prop :=
  w_Land_addStep_land a0 (si (si M c_land_fog Law_isTold 0) c_land_fog Law_from (M.1 c_land Land_codeLength)) (fun M12 => Q (si M12 c_land_fog Law_to (M12.1 c_land Land_codeLength)))
set_option maxHeartbeats 4000000 in
theorem t_Land_holdUntold_draft_fog_land {X : Cx} (hX : Cok X cX5_holdUntold RX5 3 none 2 0 0) {Q : Mem → Prop} (hq : RV X 0 0 Ly_29 Q) {M : Mem} {a0 : Int32} (h : w_Land_holdUntold_draft_fog_land a0 M Q) : Wat X 0 0 Ly_29 0 [some (vr c_land), some (vr c_land_fog), some (vi a0)] [] M := by
  refine s_aload_n hX dX5_holdUntold_0 rfl ?_
  refine s_iconst (v := 0) hX dX5_holdUntold_1 rfl ?_
  refine s_putz hX fi_X5_74 fp_X6 rfl (by decide +kernel) ⟨rfl, rfl⟩ lyland_c_land_fog rfl dX5_holdUntold_2 ?_
  refine s_aload_n hX dX5_holdUntold_5 rfl ?_
  refine s_aload_n hX dX5_holdUntold_6 rfl ?_
  refine s_getiv (v := (M.1 c_land Land_codeLength)) hX fi_X5_67 lyland_c_land rfl dX5_holdUntold_7 rfl ?_
  refine s_puti hX fi_X5_78 fp_X6 rfl (by decide +kernel) lyland_c_land_fog rfl dX5_holdUntold_10 ?_
  refine s_aload_n hX dX5_holdUntold_13 rfl ?_
  refine s_iload_n hX dX5_holdUntold_14 rfl ?_
  refine s_cvv (as := [vi a0]) (rest := []) hX (c_Land_addStep_land h) mv_Land_addStep wd_ml_X5_81 dX5_holdUntold_15 lyland_c_land rfl rfl (Nat.le_of_ble_eq_true rfl) rfl (by decide) ⟨Nat.zero_le _, Nat.zero_le _⟩ (fun M12 h => ?_)
  refine s_aload_n hX dX5_holdUntold_18 rfl ?_
  refine s_aload_n hX dX5_holdUntold_19 rfl ?_
  refine s_getiv (v := (M12.1 c_land Land_codeLength)) hX fi_X5_67 lyland_c_land rfl dX5_holdUntold_20 rfl ?_
  refine s_puti hX fi_X5_85 fp_X6 rfl (by decide +kernel) lyland_c_land_fog rfl dX5_holdUntold_23 ?_
  exact s_vret hX hq rfl dX5_holdUntold_26 h
theorem c_Land_holdUntold_draft_fog_land {a0 : Int32} {M : Mem} {Q : Mem → Prop} (h : w_Land_holdUntold_draft_fog_land a0 M Q) : CV yX5_holdUntold cX5_holdUntold 3 none 2 0 0 Ly_29 Ly_29 [vr c_land, vr c_land_fog, vi a0] M Q := mk_v rfl wd_co_X5_holdUntold rfl rfl (Nat.le_of_ble_eq_true rfl) (fun X hX hq => t_Land_holdUntold_draft_fog_land hX hq h)
def w_Land_clear_land (M : Mem) (Q : Mem → Prop) : Prop :=
  w_Jarr_fill_land 0 (si (si (si (si (si M c_land Land_wide 2) c_land Land_deep 2) c_land Land_people 0) c_land Land_birds 0) c_land Land_hear 14) (fun M9 => w_Land_holdUntold_land 1 (si M9 c_land Land_codeLength 0) (fun M11 => w_Land_holdUntold_draft_fog_land 14 M11 (fun M13 => Q M13)))
set_option maxHeartbeats 4000000 in
theorem t_Land_clear_land {X : Cx} (hX : Cok X cX5_clear RX5 1 none 3 0 0) {Q : Mem → Prop} (hq : RV X 0 0 Ly_29 Q) {M : Mem} (h : w_Land_clear_land M Q) : Wat X 0 0 Ly_29 0 [some (vr c_land)] [] M := by
  refine s_aload_n hX dX5_clear_0 rfl ?_
  refine s_iconst (v := 2) hX dX5_clear_1 rfl ?_
  refine s_puti hX fi_X5_45 fp_X5 rfl (by decide +kernel) lyland_c_land rfl dX5_clear_2 ?_
  refine s_aload_n hX dX5_clear_5 rfl ?_
  refine s_iconst (v := 2) hX dX5_clear_6 rfl ?_
  refine s_puti hX fi_X5_49 fp_X5 rfl (by decide +kernel) lyland_c_land rfl dX5_clear_7 ?_
  refine s_aload_n hX dX5_clear_10 rfl ?_
  refine s_iconst (v := 0) hX dX5_clear_11 rfl ?_
  refine s_puti hX fi_X5_52 fp_X5 rfl (by decide +kernel) lyland_c_land rfl dX5_clear_12 ?_
  refine s_aload_n hX dX5_clear_15 rfl ?_
  refine s_iconst (v := 0) hX dX5_clear_16 rfl ?_
  refine s_puti hX fi_X5_55 fp_X5 rfl (by decide +kernel) lyland_c_land rfl dX5_clear_17 ?_
  refine s_aload_n hX dX5_clear_20 rfl ?_
  refine s_bipush (v := 14) hX dX5_clear_21 rfl ?_
  refine s_puti hX fi_X5_58 fp_X5 rfl (by decide +kernel) lyland_c_land rfl dX5_clear_23 ?_
  refine s_aload_n hX dX5_clear_26 rfl ?_
  refine s_getr hX fi_X5_24 lyland_c_land rfl dX5_clear_27 ?_
  refine s_iconst (v := 0) hX dX5_clear_30 rfl ?_
  refine s_csv (as := [vr c_land_times, vi 0]) (rest := []) hX (c_Jarr_fill_land h) ms_Jarr_fill wd_ml_X5_61 dX5_clear_31 rfl (Nat.le_of_ble_eq_true rfl) rfl (by decide) ⟨Nat.zero_le _, Nat.zero_le _⟩ (fun M9 h => ?_)
  refine s_aload_n hX dX5_clear_34 rfl ?_
  refine s_iconst (v := 0) hX dX5_clear_35 rfl ?_
  refine s_puti hX fi_X5_67 fp_X5 rfl (by decide +kernel) lyland_c_land rfl dX5_clear_36 ?_
  refine s_aload_n hX dX5_clear_39 rfl ?_
  refine s_aload_n hX dX5_clear_40 rfl ?_
  refine s_getr hX fi_X5_35 lyland_c_land rfl dX5_clear_41 ?_
  refine s_iconst (v := 1) hX dX5_clear_44 rfl ?_
  refine s_cvv (as := [vr c_land_owe, vi 1]) (rest := []) hX (c_Land_holdUntold_land h) mv_Land_holdUntold wd_ml_X5_70 dX5_clear_45 lyland_c_land rfl rfl (Nat.le_of_ble_eq_true rfl) rfl (by decide) ⟨Nat.zero_le _, Nat.zero_le _⟩ (fun M11 h => ?_)
  refine s_aload_n hX dX5_clear_48 rfl ?_
  refine s_aload_n hX dX5_clear_49 rfl ?_
  refine s_getr hX fi_X5_39 lyland_c_land rfl dX5_clear_50 ?_
  refine s_bipush (v := 14) hX dX5_clear_53 rfl ?_
  refine s_cvv (as := [vr c_land_fog, vi 14]) (rest := []) hX (c_Land_holdUntold_draft_fog_land h) mv_Land_holdUntold_draft_fog wd_ml_X5_70 dX5_clear_55 lyland_c_land rfl rfl (Nat.le_of_ble_eq_true rfl) rfl (by decide) ⟨Nat.zero_le _, Nat.zero_le _⟩ (fun M13 h => ?_)
  exact s_vret hX hq rfl dX5_clear_58 h
theorem c_Land_clear_land {M : Mem} {Q : Mem → Prop} (h : w_Land_clear_land M Q) : CV yX5_clear cX5_clear 1 none 3 0 0 Ly_29 Ly_29 [vr c_land] M Q := mk_v rfl wd_co_X5_clear rfl rfl (Nat.le_of_ble_eq_true rfl) (fun X hX hq => t_Land_clear_land hX hq h)
def v_land (M : Mem) (Q : Mem → Prop) : Prop := v_land_owe M (fun M1 => Z0 13 M1 ∧ v_land_fog M1 (fun M2 => Z0 15 M2 ∧ w_Land_clear_land M2 (fun M3 => Q M3)))
set_option maxHeartbeats 1000000 in
theorem n_land {M : Mem} {Q : Mem → Prop} (hz : Z0 5 M) (h : v_land M Q) : CNE yX5_init cX5_init 1 4 10 1379 Ly_7 Ly_29 [vr c_land] M Q := mk_ne (lv0 := [some (vr c_land)]) (by decide +kernel) rfl rfl rfl (Nat.le_of_ble_eq_true rfl) (fun X ad0 hX hT hq => by
  refine s_aload_n hX dX5_init_0 rfl ?_
  refine s_obj hX (tb_m1 137 rfl rfl) wd_im_objectInit wd_co_objectInit rfl (Nat.le_of_ble_eq_true rfl) (Nat.le_of_ble_eq_true rfl) dX5_init_1 ?_
  refine s_aload_n hX dX5_init_4 rfl ?_
  refine s_bipush (v := nI 6) hX dX5_init_5 rfl ?_
  refine s_nwi (n := 6) (L' := Ly_8) hX (hz.mono (Nat.le_of_ble_eq_true rfl)) rfl (by decide) rfl rfl rfl (Nat.le_of_ble_eq_true rfl) (Nat.le_of_ble_eq_true rfl) dX5_init_7 rfl (fun X1 hE => ?_)
  replace hT := hT.go hE (Nat.le_of_ble_eq_true rfl)
  replace hq := hq.go hE (Nat.le_of_ble_eq_true rfl) (Nat.le_of_ble_eq_true rfl)
  replace hX := hX.go hE
  clear hE
  refine s_putF (L' := Ly_9) hX hq.ni (show FI RX5 9 5 5 RX5 TX5 14 from ⟨rfl, by decide, fw_X5, wd_fl_X5_9⟩) fp_X5 rfl rfl rfl (fun _ => ⟨rfl, rfl⟩) (f := .inr none) rfl rfl rfl dX5_init_9 ?_
  refine s_aload_n hX dX5_init_12 rfl ?_
  refine s_bipush (v := nI 6) hX dX5_init_13 rfl ?_
  refine s_nwi (n := 6) (L' := Ly_10) hX (hz.mono (Nat.le_of_ble_eq_true rfl)) rfl (by decide) rfl rfl rfl (Nat.le_of_ble_eq_true rfl) (Nat.le_of_ble_eq_true rfl) dX5_init_15 rfl (fun X1 hE => ?_)
  replace hT := hT.go hE (Nat.le_of_ble_eq_true rfl)
  replace hq := hq.go hE (Nat.le_of_ble_eq_true rfl) (Nat.le_of_ble_eq_true rfl)
  replace hX := hX.go hE
  clear hE
  refine s_putF (L' := Ly_11) hX hq.ni (show FI RX5 15 5 6 RX5 TX5 14 from ⟨rfl, by decide, fw_X5, wd_fl_X5_15⟩) fp_X5 rfl rfl rfl (fun _ => ⟨rfl, rfl⟩) (f := .inr none) rfl rfl rfl dX5_init_17 ?_
  refine s_aload_n hX dX5_init_20 rfl ?_
  refine s_sipush (v := nI 144) hX dX5_init_21 rfl ?_
  refine s_nwi (n := 144) (L' := Ly_12) hX (hz.mono (Nat.le_of_ble_eq_true rfl)) rfl (by decide) rfl rfl rfl (Nat.le_of_ble_eq_true rfl) (Nat.le_of_ble_eq_true rfl) dX5_init_24 rfl (fun X1 hE => ?_)
  replace hT := hT.go hE (Nat.le_of_ble_eq_true rfl)
  replace hq := hq.go hE (Nat.le_of_ble_eq_true rfl) (Nat.le_of_ble_eq_true rfl)
  replace hX := hX.go hE
  clear hE
  refine s_putF (L' := Ly_13) hX hq.ni (show FI RX5 18 5 7 RX5 TX5 14 from ⟨rfl, by decide, fw_X5, wd_fl_X5_18⟩) fp_X5 rfl rfl rfl (fun _ => ⟨rfl, rfl⟩) (f := .inr none) rfl rfl rfl dX5_init_26 ?_
  refine s_aload_n hX dX5_init_29 rfl ?_
  refine s_iconst (v := (nI 5)) hX dX5_init_30 rfl ?_
  refine s_nwi (n := 5) (L' := Ly_14) hX (hz.mono (Nat.le_of_ble_eq_true rfl)) rfl (by decide) rfl rfl rfl (Nat.le_of_ble_eq_true rfl) (Nat.le_of_ble_eq_true rfl) dX5_init_31 rfl (fun X1 hE => ?_)
  replace hT := hT.go hE (Nat.le_of_ble_eq_true rfl)
  replace hq := hq.go hE (Nat.le_of_ble_eq_true rfl) (Nat.le_of_ble_eq_true rfl)
  replace hX := hX.go hE
  clear hE
  refine s_putF (L' := Ly_15) hX hq.ni (show FI RX5 21 5 8 RX5 TX5 14 from ⟨rfl, by decide, fw_X5, wd_fl_X5_21⟩) fp_X5 rfl rfl rfl (fun _ => ⟨rfl, rfl⟩) (f := .inr none) rfl rfl rfl dX5_init_33 ?_
  refine s_aload_n hX dX5_init_36 rfl ?_
  refine s_bipush (v := nI 120) hX dX5_init_37 rfl ?_
  refine s_nwi (n := 120) (L' := Ly_16) hX (hz.mono (Nat.le_of_ble_eq_true rfl)) rfl (by decide) rfl rfl rfl (Nat.le_of_ble_eq_true rfl) (Nat.le_of_ble_eq_true rfl) dX5_init_39 rfl (fun X1 hE => ?_)
  replace hT := hT.go hE (Nat.le_of_ble_eq_true rfl)
  replace hq := hq.go hE (Nat.le_of_ble_eq_true rfl) (Nat.le_of_ble_eq_true rfl)
  replace hX := hX.go hE
  clear hE
  refine s_putF (L' := Ly_17) hX hq.ni (show FI RX5 24 5 9 RX5 TX5 14 from ⟨rfl, by decide, fw_X5, wd_fl_X5_24⟩) fp_X5 rfl rfl rfl (fun _ => ⟨rfl, rfl⟩) (f := .inr none) rfl rfl rfl dX5_init_41 ?_
  refine s_aload_n hX dX5_init_44 rfl ?_
  refine s_sipush (v := nI 1024) hX dX5_init_45 rfl ?_
  refine s_nwi (n := 1024) (L' := Ly_18) hX (hz.mono (Nat.le_of_ble_eq_true rfl)) rfl (by decide) rfl rfl rfl (Nat.le_of_ble_eq_true rfl) (Nat.le_of_ble_eq_true rfl) dX5_init_48 rfl (fun X1 hE => ?_)
  replace hT := hT.go hE (Nat.le_of_ble_eq_true rfl)
  replace hq := hq.go hE (Nat.le_of_ble_eq_true rfl) (Nat.le_of_ble_eq_true rfl)
  replace hX := hX.go hE
  clear hE
  refine s_putF (L' := Ly_19) hX hq.ni (show FI RX5 27 5 10 RX5 TX5 14 from ⟨rfl, by decide, fw_X5, wd_fl_X5_27⟩) fp_X5 rfl rfl rfl (fun _ => ⟨rfl, rfl⟩) (f := .inr none) rfl rfl rfl dX5_init_50 ?_
  refine s_aload_n hX dX5_init_53 rfl ?_
  refine s_nw (ci := 6) (fs := [.inr none, .inl true, .inl true, .inl true, .inr none]) (L' := Ly_20) hX (hz.mono (Nat.le_of_ble_eq_true rfl)) rfl fp_X6 fw_X6 wd_cl_X5_30 wd_it_X6 wd_in_X6 rfl rfl rfl rfl rfl rfl (Nat.le_of_ble_eq_true rfl) (Nat.le_of_ble_eq_true rfl) dX5_init_54 rfl (fun X1 hE => ?_)
  replace hT := hT.go hE (Nat.le_of_ble_eq_true rfl)
  replace hq := hq.go hE (Nat.le_of_ble_eq_true rfl) (Nat.le_of_ble_eq_true rfl)
  replace hX := hX.go hE
  clear hE
  refine s_dup hX dX5_init_57 rfl ?_
  refine s_aload_n hX dX5_init_58 rfl ?_
  refine s_getr hX (show FI RX5 27 5 10 RX5 TX5 14 from ⟨rfl, by decide, fw_X5, wd_fl_X5_27⟩) (r := c_land_code) (fs := [.inl true, .inl true, .inl true, .inl true, .inl true, .inr (some c_land_kind), .inr (some c_land_purse), .inr (some c_land_place), .inr (some c_land_bush), .inr (some c_land_times), .inr (some c_land_code), .inl true, .inr none, .inr none]) rfl rfl dX5_init_59 ?_
  refine s_cne (as := [vr c_land_code]) (rest := [vr c_land_owe, vr c_land]) (Qn := _) hX hT (n_land_owe (hz.mono (Nat.le_of_ble_eq_true rfl)) h) mi_X6 wd_ml_X5_32 dX5_init_62 rfl (Nat.le_of_ble_eq_true rfl) rfl (by decide) ⟨Nat.le_of_ble_eq_true rfl, Nat.le_of_ble_eq_true rfl⟩ rfl rfl (fun X1 M1 hE h => ?_)
  replace hT := hT.go hE (Nat.le_of_ble_eq_true rfl)
  replace hq := hq.go hE (Nat.le_of_ble_eq_true rfl) (Nat.le_of_ble_eq_true rfl)
  replace hX := hX.go hE
  clear hE
  obtain ⟨hz, h⟩ := h
  refine s_putF (L' := Ly_24) hX hq.ni (show FI RX5 35 5 12 RX5 TX5 14 from ⟨rfl, by decide, fw_X5, wd_fl_X5_35⟩) fp_X5 rfl rfl rfl (fun _ => ⟨rfl, rfl⟩) (f := .inr none) rfl rfl rfl dX5_init_65 ?_
  refine s_aload_n hX dX5_init_68 rfl ?_
  refine s_nw (ci := 6) (fs := [.inr none, .inl true, .inl true, .inl true, .inr none]) (L' := Ly_25) hX (hz.mono (Nat.le_of_ble_eq_true rfl)) rfl fp_X6 fw_X6 wd_cl_X5_30 wd_it_X6 wd_in_X6 rfl rfl rfl rfl rfl rfl (Nat.le_of_ble_eq_true rfl) (Nat.le_of_ble_eq_true rfl) dX5_init_69 rfl (fun X1 hE => ?_)
  replace hT := hT.go hE (Nat.le_of_ble_eq_true rfl)
  replace hq := hq.go hE (Nat.le_of_ble_eq_true rfl) (Nat.le_of_ble_eq_true rfl)
  replace hX := hX.go hE
  clear hE
  refine s_dup hX dX5_init_72 rfl ?_
  refine s_aload_n hX dX5_init_73 rfl ?_
  refine s_getr hX (show FI RX5 27 5 10 RX5 TX5 14 from ⟨rfl, by decide, fw_X5, wd_fl_X5_27⟩) (r := c_land_code) (fs := [.inl true, .inl true, .inl true, .inl true, .inl true, .inr (some c_land_kind), .inr (some c_land_purse), .inr (some c_land_place), .inr (some c_land_bush), .inr (some c_land_times), .inr (some c_land_code), .inl true, .inr (some c_land_owe), .inr none]) rfl rfl dX5_init_74 ?_
  refine s_cne (as := [vr c_land_code]) (rest := [vr c_land_fog, vr c_land]) (Qn := _) hX hT (n_land_fog (hz.mono (Nat.le_of_ble_eq_true rfl)) h) mi_X6 wd_ml_X5_32 dX5_init_77 rfl (Nat.le_of_ble_eq_true rfl) rfl (by decide) ⟨Nat.le_of_ble_eq_true rfl, Nat.le_of_ble_eq_true rfl⟩ rfl rfl (fun X1 M2 hE h => ?_)
  replace hT := hT.go hE (Nat.le_of_ble_eq_true rfl)
  replace hq := hq.go hE (Nat.le_of_ble_eq_true rfl) (Nat.le_of_ble_eq_true rfl)
  replace hX := hX.go hE
  clear hE
  obtain ⟨hz, h⟩ := h
  refine s_putF (L' := Ly_29) hX hq.ni (show FI RX5 39 5 13 RX5 TX5 14 from ⟨rfl, by decide, fw_X5, wd_fl_X5_39⟩) fp_X5 rfl rfl rfl (fun _ => ⟨rfl, rfl⟩) (f := .inr none) rfl rfl rfl dX5_init_80 ?_
  refine s_aload_n hX dX5_init_83 rfl ?_
  refine s_cvv (as := []) (rest := []) hX (c_Land_clear_land h) mv_Land_clear wd_ml_X5_42 dX5_init_84 lyland_c_land rfl rfl (Nat.le_of_ble_eq_true rfl) rfl (by decide) ⟨Nat.le_of_ble_eq_true rfl, Nat.le_of_ble_eq_true rfl⟩ (fun M3 h => ?_)
  exact s_vretn hX hq rfl dX5_init_87 h)
theorem mi_X5 : MI yX5_init cX5_init 1 0 := ⟨wd_co_X5_init, wd_im_X5_init, wd_in_X5, rfl, by decide +kernel, by decide⟩
def Ly_30 : List DS := lay 15 [(c_xx, .inl (11, [.inr (some c_tape), .inr (some c_land), .inr none, .inr none, .inr none, .inr none, .inl true, .inr none, .inr none, .inr none, .inr none, .inr none]))]
def Ly_31 : List DS := lay 16 [(c_xx, .inl (11, [.inr (some c_tape), .inr (some c_land), .inr none, .inr none, .inr none, .inr none, .inl true, .inr none, .inr none, .inr none, .inr none, .inr none])), (c_draft, .inl (5, [.inl true, .inl true, .inl true, .inl true, .inl true, .inr none, .inr none, .inr none, .inr none, .inr none, .inr none, .inl true, .inr none, .inr none]))]
def Ly_32 : List DS := lay 17 [(c_xx, .inl (11, [.inr (some c_tape), .inr (some c_land), .inr none, .inr none, .inr none, .inr none, .inl true, .inr none, .inr none, .inr none, .inr none, .inr none])), (c_draft, .inl (5, [.inl true, .inl true, .inl true, .inl true, .inl true, .inr none, .inr none, .inr none, .inr none, .inr none, .inr none, .inl true, .inr none, .inr none]))]
def Ly_33 : List DS := lay 17 [(c_xx, .inl (11, [.inr (some c_tape), .inr (some c_land), .inr none, .inr none, .inr none, .inr none, .inl true, .inr none, .inr none, .inr none, .inr none, .inr none])), (c_draft, .inl (5, [.inl true, .inl true, .inl true, .inl true, .inl true, .inr (some c_draft_kind), .inr none, .inr none, .inr none, .inr none, .inr none, .inl true, .inr none, .inr none]))]
def Ly_34 : List DS := lay 18 [(c_xx, .inl (11, [.inr (some c_tape), .inr (some c_land), .inr none, .inr none, .inr none, .inr none, .inl true, .inr none, .inr none, .inr none, .inr none, .inr none])), (c_draft, .inl (5, [.inl true, .inl true, .inl true, .inl true, .inl true, .inr (some c_draft_kind), .inr none, .inr none, .inr none, .inr none, .inr none, .inl true, .inr none, .inr none]))]
def Ly_35 : List DS := lay 18 [(c_xx, .inl (11, [.inr (some c_tape), .inr (some c_land), .inr none, .inr none, .inr none, .inr none, .inl true, .inr none, .inr none, .inr none, .inr none, .inr none])), (c_draft, .inl (5, [.inl true, .inl true, .inl true, .inl true, .inl true, .inr (some c_draft_kind), .inr (some c_draft_purse), .inr none, .inr none, .inr none, .inr none, .inl true, .inr none, .inr none]))]
def Ly_36 : List DS := lay 19 [(c_xx, .inl (11, [.inr (some c_tape), .inr (some c_land), .inr none, .inr none, .inr none, .inr none, .inl true, .inr none, .inr none, .inr none, .inr none, .inr none])), (c_draft, .inl (5, [.inl true, .inl true, .inl true, .inl true, .inl true, .inr (some c_draft_kind), .inr (some c_draft_purse), .inr none, .inr none, .inr none, .inr none, .inl true, .inr none, .inr none]))]
def Ly_37 : List DS := lay 19 [(c_xx, .inl (11, [.inr (some c_tape), .inr (some c_land), .inr none, .inr none, .inr none, .inr none, .inl true, .inr none, .inr none, .inr none, .inr none, .inr none])), (c_draft, .inl (5, [.inl true, .inl true, .inl true, .inl true, .inl true, .inr (some c_draft_kind), .inr (some c_draft_purse), .inr (some c_draft_place), .inr none, .inr none, .inr none, .inl true, .inr none, .inr none]))]
def Ly_38 : List DS := lay 20 [(c_xx, .inl (11, [.inr (some c_tape), .inr (some c_land), .inr none, .inr none, .inr none, .inr none, .inl true, .inr none, .inr none, .inr none, .inr none, .inr none])), (c_draft, .inl (5, [.inl true, .inl true, .inl true, .inl true, .inl true, .inr (some c_draft_kind), .inr (some c_draft_purse), .inr (some c_draft_place), .inr none, .inr none, .inr none, .inl true, .inr none, .inr none]))]
def Ly_39 : List DS := lay 20 [(c_xx, .inl (11, [.inr (some c_tape), .inr (some c_land), .inr none, .inr none, .inr none, .inr none, .inl true, .inr none, .inr none, .inr none, .inr none, .inr none])), (c_draft, .inl (5, [.inl true, .inl true, .inl true, .inl true, .inl true, .inr (some c_draft_kind), .inr (some c_draft_purse), .inr (some c_draft_place), .inr (some c_draft_bush), .inr none, .inr none, .inl true, .inr none, .inr none]))]
def Ly_40 : List DS := lay 21 [(c_xx, .inl (11, [.inr (some c_tape), .inr (some c_land), .inr none, .inr none, .inr none, .inr none, .inl true, .inr none, .inr none, .inr none, .inr none, .inr none])), (c_draft, .inl (5, [.inl true, .inl true, .inl true, .inl true, .inl true, .inr (some c_draft_kind), .inr (some c_draft_purse), .inr (some c_draft_place), .inr (some c_draft_bush), .inr none, .inr none, .inl true, .inr none, .inr none]))]
def Ly_41 : List DS := lay 21 [(c_xx, .inl (11, [.inr (some c_tape), .inr (some c_land), .inr none, .inr none, .inr none, .inr none, .inl true, .inr none, .inr none, .inr none, .inr none, .inr none])), (c_draft, .inl (5, [.inl true, .inl true, .inl true, .inl true, .inl true, .inr (some c_draft_kind), .inr (some c_draft_purse), .inr (some c_draft_place), .inr (some c_draft_bush), .inr (some c_draft_times), .inr none, .inl true, .inr none, .inr none]))]
def Ly_42 : List DS := lay 22 [(c_xx, .inl (11, [.inr (some c_tape), .inr (some c_land), .inr none, .inr none, .inr none, .inr none, .inl true, .inr none, .inr none, .inr none, .inr none, .inr none])), (c_draft, .inl (5, [.inl true, .inl true, .inl true, .inl true, .inl true, .inr (some c_draft_kind), .inr (some c_draft_purse), .inr (some c_draft_place), .inr (some c_draft_bush), .inr (some c_draft_times), .inr none, .inl true, .inr none, .inr none]))]
def Ly_43 : List DS := lay 22 [(c_xx, .inl (11, [.inr (some c_tape), .inr (some c_land), .inr none, .inr none, .inr none, .inr none, .inl true, .inr none, .inr none, .inr none, .inr none, .inr none])), (c_draft, .inl (5, [.inl true, .inl true, .inl true, .inl true, .inl true, .inr (some c_draft_kind), .inr (some c_draft_purse), .inr (some c_draft_place), .inr (some c_draft_bush), .inr (some c_draft_times), .inr (some c_draft_code), .inl true, .inr none, .inr none]))]
def Ly_44 : List DS := lay 23 [(c_xx, .inl (11, [.inr (some c_tape), .inr (some c_land), .inr none, .inr none, .inr none, .inr none, .inl true, .inr none, .inr none, .inr none, .inr none, .inr none])), (c_draft, .inl (5, [.inl true, .inl true, .inl true, .inl true, .inl true, .inr (some c_draft_kind), .inr (some c_draft_purse), .inr (some c_draft_place), .inr (some c_draft_bush), .inr (some c_draft_times), .inr (some c_draft_code), .inl true, .inr none, .inr none])), (c_draft_owe, .inl (6, [.inr none, .inl true, .inl true, .inl true, .inr none]))]
def Ly_45 : List DS := lay 24 [(c_xx, .inl (11, [.inr (some c_tape), .inr (some c_land), .inr none, .inr none, .inr none, .inr none, .inl true, .inr none, .inr none, .inr none, .inr none, .inr none])), (c_draft, .inl (5, [.inl true, .inl true, .inl true, .inl true, .inl true, .inr (some c_draft_kind), .inr (some c_draft_purse), .inr (some c_draft_place), .inr (some c_draft_bush), .inr (some c_draft_times), .inr (some c_draft_code), .inl true, .inr none, .inr none])), (c_draft_owe, .inl (6, [.inr none, .inl true, .inl true, .inl true, .inr none]))]
def Ly_46 : List DS := lay 24 [(c_xx, .inl (11, [.inr (some c_tape), .inr (some c_land), .inr none, .inr none, .inr none, .inr none, .inl true, .inr none, .inr none, .inr none, .inr none, .inr none])), (c_draft, .inl (5, [.inl true, .inl true, .inl true, .inl true, .inl true, .inr (some c_draft_kind), .inr (some c_draft_purse), .inr (some c_draft_place), .inr (some c_draft_bush), .inr (some c_draft_times), .inr (some c_draft_code), .inl true, .inr none, .inr none])), (c_draft_owe, .inl (6, [.inr none, .inl true, .inl true, .inl true, .inr (some c_draft_owe_stack)]))]
def Ly_47 : List DS := lay 24 [(c_xx, .inl (11, [.inr (some c_tape), .inr (some c_land), .inr none, .inr none, .inr none, .inr none, .inl true, .inr none, .inr none, .inr none, .inr none, .inr none])), (c_draft, .inl (5, [.inl true, .inl true, .inl true, .inl true, .inl true, .inr (some c_draft_kind), .inr (some c_draft_purse), .inr (some c_draft_place), .inr (some c_draft_bush), .inr (some c_draft_times), .inr (some c_draft_code), .inl true, .inr none, .inr none]))]
def v_draft_owe (M : Mem) (Q : Mem → Prop) : Prop := Q M
set_option maxHeartbeats 1000000 in
theorem n_draft_owe {M : Mem} {Q : Mem → Prop} (hz : Z0 23 M) (h : v_draft_owe M Q) : CNE yX6_init cX6_init 2 1 1 32 Ly_44 Ly_47 [vr c_draft_owe, vr c_draft_code] M Q := mk_ne (lv0 := [some (vr c_draft_owe), some (vr c_draft_code)]) (by decide +kernel) rfl rfl rfl (Nat.le_of_ble_eq_true rfl) (fun X ad0 hX hT hq => by
  refine s_aload_n hX dX6_init_0 rfl ?_
  refine s_obj hX (tb_m1 143 rfl rfl) wd_im_objectInit wd_co_objectInit rfl (Nat.le_of_ble_eq_true rfl) (Nat.le_of_ble_eq_true rfl) dX6_init_1 ?_
  refine s_aload_n hX dX6_init_4 rfl ?_
  refine s_bipush (v := nI 32) hX dX6_init_5 rfl ?_
  refine s_nwi (n := 32) (L' := Ly_45) hX (hz.mono (Nat.le_of_ble_eq_true rfl)) rfl (by decide) rfl rfl rfl (Nat.le_of_ble_eq_true rfl) (Nat.le_of_ble_eq_true rfl) dX6_init_7 rfl (fun X1 hE => ?_)
  replace hT := hT.go hE (Nat.le_of_ble_eq_true rfl)
  replace hq := hq.go hE (Nat.le_of_ble_eq_true rfl) (Nat.le_of_ble_eq_true rfl)
  replace hX := hX.go hE
  clear hE
  refine s_putF (L' := Ly_46) hX hq.ni (show FI RX6 9 6 4 RX6 TX6 5 from ⟨rfl, by decide, fw_X6, wd_fl_X6_9⟩) fp_X6 rfl rfl rfl (fun _ => ⟨rfl, rfl⟩) (f := .inr none) rfl rfl rfl dX6_init_9 ?_
  refine s_aload_n hX dX6_init_12 rfl ?_
  refine s_aload_n hX dX6_init_13 rfl ?_
  refine s_putF (L' := Ly_47) hX hq.ni (show FI RX6 13 6 0 RX6 TX6 5 from ⟨rfl, by decide, fw_X6, wd_fl_X6_13⟩) fp_X6 rfl rfl rfl (fun _ => ⟨rfl, rfl⟩) (f := .inr none) rfl rfl rfl dX6_init_14 ?_
  exact s_vretn hX hq rfl dX6_init_17 h)
def Ly_48 : List DS := lay 24 [(c_xx, .inl (11, [.inr (some c_tape), .inr (some c_land), .inr none, .inr none, .inr none, .inr none, .inl true, .inr none, .inr none, .inr none, .inr none, .inr none])), (c_draft, .inl (5, [.inl true, .inl true, .inl true, .inl true, .inl true, .inr (some c_draft_kind), .inr (some c_draft_purse), .inr (some c_draft_place), .inr (some c_draft_bush), .inr (some c_draft_times), .inr (some c_draft_code), .inl true, .inr (some c_draft_owe), .inr none]))]
def Ly_49 : List DS := lay 25 [(c_xx, .inl (11, [.inr (some c_tape), .inr (some c_land), .inr none, .inr none, .inr none, .inr none, .inl true, .inr none, .inr none, .inr none, .inr none, .inr none])), (c_draft, .inl (5, [.inl true, .inl true, .inl true, .inl true, .inl true, .inr (some c_draft_kind), .inr (some c_draft_purse), .inr (some c_draft_place), .inr (some c_draft_bush), .inr (some c_draft_times), .inr (some c_draft_code), .inl true, .inr (some c_draft_owe), .inr none])), (c_draft_fog, .inl (6, [.inr none, .inl true, .inl true, .inl true, .inr none]))]
def Ly_50 : List DS := lay 26 [(c_xx, .inl (11, [.inr (some c_tape), .inr (some c_land), .inr none, .inr none, .inr none, .inr none, .inl true, .inr none, .inr none, .inr none, .inr none, .inr none])), (c_draft, .inl (5, [.inl true, .inl true, .inl true, .inl true, .inl true, .inr (some c_draft_kind), .inr (some c_draft_purse), .inr (some c_draft_place), .inr (some c_draft_bush), .inr (some c_draft_times), .inr (some c_draft_code), .inl true, .inr (some c_draft_owe), .inr none])), (c_draft_fog, .inl (6, [.inr none, .inl true, .inl true, .inl true, .inr none]))]
def Ly_51 : List DS := lay 26 [(c_xx, .inl (11, [.inr (some c_tape), .inr (some c_land), .inr none, .inr none, .inr none, .inr none, .inl true, .inr none, .inr none, .inr none, .inr none, .inr none])), (c_draft, .inl (5, [.inl true, .inl true, .inl true, .inl true, .inl true, .inr (some c_draft_kind), .inr (some c_draft_purse), .inr (some c_draft_place), .inr (some c_draft_bush), .inr (some c_draft_times), .inr (some c_draft_code), .inl true, .inr (some c_draft_owe), .inr none])), (c_draft_fog, .inl (6, [.inr none, .inl true, .inl true, .inl true, .inr (some c_draft_fog_stack)]))]
def Ly_52 : List DS := lay 26 [(c_xx, .inl (11, [.inr (some c_tape), .inr (some c_land), .inr none, .inr none, .inr none, .inr none, .inl true, .inr none, .inr none, .inr none, .inr none, .inr none])), (c_draft, .inl (5, [.inl true, .inl true, .inl true, .inl true, .inl true, .inr (some c_draft_kind), .inr (some c_draft_purse), .inr (some c_draft_place), .inr (some c_draft_bush), .inr (some c_draft_times), .inr (some c_draft_code), .inl true, .inr (some c_draft_owe), .inr none]))]
def v_draft_fog (M : Mem) (Q : Mem → Prop) : Prop := Q M
set_option maxHeartbeats 1000000 in
theorem n_draft_fog {M : Mem} {Q : Mem → Prop} (hz : Z0 25 M) (h : v_draft_fog M Q) : CNE yX6_init cX6_init 2 1 1 32 Ly_49 Ly_52 [vr c_draft_fog, vr c_draft_code] M Q := mk_ne (lv0 := [some (vr c_draft_fog), some (vr c_draft_code)]) (by decide +kernel) rfl rfl rfl (Nat.le_of_ble_eq_true rfl) (fun X ad0 hX hT hq => by
  refine s_aload_n hX dX6_init_0 rfl ?_
  refine s_obj hX (tb_m1 143 rfl rfl) wd_im_objectInit wd_co_objectInit rfl (Nat.le_of_ble_eq_true rfl) (Nat.le_of_ble_eq_true rfl) dX6_init_1 ?_
  refine s_aload_n hX dX6_init_4 rfl ?_
  refine s_bipush (v := nI 32) hX dX6_init_5 rfl ?_
  refine s_nwi (n := 32) (L' := Ly_50) hX (hz.mono (Nat.le_of_ble_eq_true rfl)) rfl (by decide) rfl rfl rfl (Nat.le_of_ble_eq_true rfl) (Nat.le_of_ble_eq_true rfl) dX6_init_7 rfl (fun X1 hE => ?_)
  replace hT := hT.go hE (Nat.le_of_ble_eq_true rfl)
  replace hq := hq.go hE (Nat.le_of_ble_eq_true rfl) (Nat.le_of_ble_eq_true rfl)
  replace hX := hX.go hE
  clear hE
  refine s_putF (L' := Ly_51) hX hq.ni (show FI RX6 9 6 4 RX6 TX6 5 from ⟨rfl, by decide, fw_X6, wd_fl_X6_9⟩) fp_X6 rfl rfl rfl (fun _ => ⟨rfl, rfl⟩) (f := .inr none) rfl rfl rfl dX6_init_9 ?_
  refine s_aload_n hX dX6_init_12 rfl ?_
  refine s_aload_n hX dX6_init_13 rfl ?_
  refine s_putF (L' := Ly_52) hX hq.ni (show FI RX6 13 6 0 RX6 TX6 5 from ⟨rfl, by decide, fw_X6, wd_fl_X6_13⟩) fp_X6 rfl rfl rfl (fun _ => ⟨rfl, rfl⟩) (f := .inr none) rfl rfl rfl dX6_init_14 ?_
  exact s_vretn hX hq rfl dX6_init_17 h)
def Ly_53 : List DS := lay 26 [(c_xx, .inl (11, [.inr (some c_tape), .inr (some c_land), .inr none, .inr none, .inr none, .inr none, .inl true, .inr none, .inr none, .inr none, .inr none, .inr none]))]
theorem lydraft_c_draft : Ly_53[c_draft]? = some (.inl (5, [.inl true, .inl true, .inl true, .inl true, .inl true, .inr (some c_draft_kind), .inr (some c_draft_purse), .inr (some c_draft_place), .inr (some c_draft_bush), .inr (some c_draft_times), .inr (some c_draft_code), .inl true, .inr (some c_draft_owe), .inr (some c_draft_fog)])) := rfl
theorem lydraft_c_draft_code : Ly_53[c_draft_code]? = some (.inr (0, 1024, [])) := rfl
theorem lydraft_c_draft_fog : Ly_53[c_draft_fog]? = some (.inl (6, [.inr (some c_draft_code), .inl true, .inl true, .inl true, .inr (some c_draft_fog_stack)])) := rfl
theorem lydraft_c_draft_owe : Ly_53[c_draft_owe]? = some (.inl (6, [.inr (some c_draft_code), .inl true, .inl true, .inl true, .inr (some c_draft_owe_stack)])) := rfl
theorem lydraft_c_draft_times : Ly_53[c_draft_times]? = some (.inr (0, 120, [])) := rfl
def w_Jarr_fill_L5_draft (l1 : Int32) (l3 : Int32) (K : Mem → Prop) (Q : Mem → Prop) : Nat → Int32 → Mem → Prop
  | 0, _, _ => False
  | n + 1, l2, M => ((l3 ≤ l2 → K M) ∧ (¬ l3 ≤ l2 → (vp_in l2 120 ∧ w_Jarr_fill_L5_draft l1 l3 K Q n (l2 + 1) (si M c_draft_times (Int32.toNatClampNeg l2) l1))))
set_option maxHeartbeats 4000000 in
theorem t_Jarr_fill_L5_draft {X : Cx} (hX : Cok X cJ7_fill_53178 RJ7 4 none 1 0 0) {Q : Mem → Prop} (hq : RV X 0 0 Ly_53 Q) {l1 : Int32} {l3 : Int32} {K : Mem → Prop} (hK : ∀ (M : Mem), K M → Wat X 0 0 Ly_53 20 [none, none, none, none] [] M) : ∀ (n : Nat) (l2 : Int32) (M : Mem), w_Jarr_fill_L5_draft l1 l3 K Q n l2 M → Wat X 0 0 Ly_53 5 [some (vr c_draft_times), some (vi l1), some (vi l2), some (vi l3)] [] M := by
  intro n
  induction n with
  | zero => intro _ _ h; exact h.elim
  | succ n ih =>
    intro l2 M h
    refine s_iload_n hX dJ7_fill_53178_5 rfl ?_
    refine s_iload_n hX dJ7_fill_53178_6 rfl ?_
    refine s_icmp_ge (tgt := 20) hX dJ7_fill_53178_7 (by decide) (fun c => ?_) (fun c => ?_)
    · replace h := h.1 c
      refine s_mask [false, false, false, false] (lv' := [none, none, none, none]) rfl rfl ?_
      exact hK _ h
    · replace h := h.2 c
      refine s_aload_n hX dJ7_fill_53178_10 rfl ?_
      refine s_iload_n hX dJ7_fill_53178_11 rfl ?_
      refine s_iload_n hX dJ7_fill_53178_12 rfl ?_
      have hi := h.1
      replace h := h.2
      refine s_iast hX lydraft_c_draft_times hi dJ7_fill_53178_13 ?_
      refine s_iinc (v := (l2 + 1)) (lv' := [some (vr c_draft_times), some (vi l1), some (vi (l2 + 1)), some (vi l3)]) hX dJ7_fill_53178_14 rfl rfl rfl rfl ?_
      refine s_goto (tgt := 5) hX dJ7_fill_53178_17 (by decide) ?_
      exact ih _ _ h
def w_Jarr_fill_draft (a0 : Int32) (M : Mem) (Q : Mem → Prop) : Prop :=
  (∃ n8, w_Jarr_fill_L5_draft a0 120 (fun M7 => Q M7) Q n8 0 M)
set_option maxHeartbeats 4000000 in
theorem t_Jarr_fill_draft {X : Cx} (hX : Cok X cJ7_fill_53178 RJ7 4 none 1 0 0) {Q : Mem → Prop} (hq : RV X 0 0 Ly_53 Q) {M : Mem} {a0 : Int32} (h : w_Jarr_fill_draft a0 M Q) : Wat X 0 0 Ly_53 0 [some (vr c_draft_times), some (vi a0), none, none] [] M := by
  refine s_iconst (v := 0) hX dJ7_fill_53178_0 rfl ?_
  refine s_istore_n (lv' := [some (vr c_draft_times), some (vi a0), some (vi 0), none]) hX dJ7_fill_53178_1 rfl rfl (Nat.le_of_ble_eq_true rfl) ?_
  refine s_aload_n hX dJ7_fill_53178_2 rfl ?_
  refine s_alen (v := 120) hX lydraft_c_draft_times (by decide) rfl dJ7_fill_53178_3 ?_
  refine s_istore_n (lv' := [some (vr c_draft_times), some (vi a0), some (vi 0), some (vi 120)]) hX dJ7_fill_53178_4 rfl rfl (Nat.le_of_ble_eq_true rfl) ?_
  obtain ⟨n8, h⟩ := h
  refine t_Jarr_fill_L5_draft hX hq ?_ n8 _ _ h
  intro M7 h
  exact s_vret hX hq rfl dJ7_fill_53178_20 h
theorem c_Jarr_fill_draft {a0 : Int32} {M : Mem} {Q : Mem → Prop} (h : w_Jarr_fill_draft a0 M Q) : CV yJ7_fill_53178 cJ7_fill_53178 4 none 1 0 0 Ly_53 Ly_53 [vr c_draft_times, vi a0] M Q := mk_v rfl wd_co_J7_fill_53178 rfl rfl (Nat.le_of_ble_eq_true rfl) (fun X hX hq => t_Jarr_fill_draft hX hq h)
def w_Land_addStep_draft (a0 : Int32) (M : Mem) (Q : Mem → Prop) : Prop :=
  (((M.1 c_draft Land_codeLength) < 0 → Q M) ∧ (¬ (M.1 c_draft Land_codeLength) < 0 → ((1024 ≤ (M.1 c_draft Land_codeLength) → Q M) ∧ (¬ 1024 ≤ (M.1 c_draft Land_codeLength) → (vp_in (M.1 c_draft Land_codeLength) 1024 ∧ Q (si (si M c_draft_code (Int32.toNatClampNeg (M.1 c_draft Land_codeLength)) a0) c_draft Land_codeLength ((M.1 c_draft Land_codeLength) + 1)))))))
set_option maxHeartbeats 4000000 in
theorem t_Land_addStep_draft {X : Cx} (hX : Cok X cX5_addStep RX5 2 none 1 0 0) {Q : Mem → Prop} (hq : RV X 0 0 Ly_53 Q) {M : Mem} {a0 : Int32} (h : w_Land_addStep_draft a0 M Q) : Wat X 0 0 Ly_53 0 [some (vr c_draft), some (vi a0)] [] M := by
  refine s_aload_n hX dX5_addStep_0 rfl ?_
  refine s_getiv (v := (M.1 c_draft Land_codeLength)) hX fi_X5_67 lydraft_c_draft rfl dX5_addStep_1 rfl ?_
  refine s_if_lt (tgt := 37) hX dX5_addStep_4 (by decide) (fun c => ?_) (fun c => ?_)
  · replace h := h.1 c
    exact s_vret hX hq rfl dX5_addStep_37 h
  · replace h := h.2 c
    refine s_aload_n hX dX5_addStep_7 rfl ?_
    refine s_getiv (v := (M.1 c_draft Land_codeLength)) hX fi_X5_67 lydraft_c_draft rfl dX5_addStep_8 rfl ?_
    refine s_sipush (v := 1024) hX dX5_addStep_11 rfl ?_
    refine s_icmp_ge (tgt := 37) hX dX5_addStep_14 (by decide) (fun c => ?_) (fun c => ?_)
    · replace h := h.1 c
      exact s_vret hX hq rfl dX5_addStep_37 h
    · replace h := h.2 c
      refine s_aload_n hX dX5_addStep_17 rfl ?_
      refine s_getr hX fi_X5_27 lydraft_c_draft rfl dX5_addStep_18 ?_
      refine s_aload_n hX dX5_addStep_21 rfl ?_
      refine s_getiv (v := (M.1 c_draft Land_codeLength)) hX fi_X5_67 lydraft_c_draft rfl dX5_addStep_22 rfl ?_
      refine s_iload_n hX dX5_addStep_25 rfl ?_
      have hi := h.1
      replace h := h.2
      refine s_iast hX lydraft_c_draft_code hi dX5_addStep_26 ?_
      refine s_aload_n hX dX5_addStep_27 rfl ?_
      refine s_dup hX dX5_addStep_28 rfl ?_
      refine s_getiv (v := (M.1 c_draft Land_codeLength)) hX fi_X5_67 lydraft_c_draft rfl dX5_addStep_29 rfl ?_
      refine s_iconst (v := 1) hX dX5_addStep_32 rfl ?_
      refine s_iadd hX dX5_addStep_33 ?_
      refine s_puti hX fi_X5_67 fp_X5 rfl (by decide +kernel) lydraft_c_draft rfl dX5_addStep_34 ?_
      exact s_vret hX hq rfl dX5_addStep_37 h
theorem c_Land_addStep_draft {a0 : Int32} {M : Mem} {Q : Mem → Prop} (h : w_Land_addStep_draft a0 M Q) : CV yX5_addStep cX5_addStep 2 none 1 0 0 Ly_53 Ly_53 [vr c_draft, vi a0] M Q := mk_v rfl wd_co_X5_addStep rfl rfl (Nat.le_of_ble_eq_true rfl) (fun X hX hq => t_Land_addStep_draft hX hq h)
def w_Land_holdUntold_draft (a0 : Int32) (M : Mem) (Q : Mem → Prop) : Prop :=
  w_Land_addStep_draft a0 (si (si M c_draft_owe Law_isTold 0) c_draft_owe Law_from (M.1 c_draft Land_codeLength)) (fun M10 => Q (si M10 c_draft_owe Law_to (M10.1 c_draft Land_codeLength)))
set_option maxHeartbeats 4000000 in
theorem t_Land_holdUntold_draft {X : Cx} (hX : Cok X cX5_holdUntold RX5 3 none 2 0 0) {Q : Mem → Prop} (hq : RV X 0 0 Ly_53 Q) {M : Mem} {a0 : Int32} (h : w_Land_holdUntold_draft a0 M Q) : Wat X 0 0 Ly_53 0 [some (vr c_draft), some (vr c_draft_owe), some (vi a0)] [] M := by
  refine s_aload_n hX dX5_holdUntold_0 rfl ?_
  refine s_iconst (v := 0) hX dX5_holdUntold_1 rfl ?_
  refine s_putz hX fi_X5_74 fp_X6 rfl (by decide +kernel) ⟨rfl, rfl⟩ lydraft_c_draft_owe rfl dX5_holdUntold_2 ?_
  refine s_aload_n hX dX5_holdUntold_5 rfl ?_
  refine s_aload_n hX dX5_holdUntold_6 rfl ?_
  refine s_getiv (v := (M.1 c_draft Land_codeLength)) hX fi_X5_67 lydraft_c_draft rfl dX5_holdUntold_7 rfl ?_
  refine s_puti hX fi_X5_78 fp_X6 rfl (by decide +kernel) lydraft_c_draft_owe rfl dX5_holdUntold_10 ?_
  refine s_aload_n hX dX5_holdUntold_13 rfl ?_
  refine s_iload_n hX dX5_holdUntold_14 rfl ?_
  refine s_cvv (as := [vi a0]) (rest := []) hX (c_Land_addStep_draft h) mv_Land_addStep wd_ml_X5_81 dX5_holdUntold_15 lydraft_c_draft rfl rfl (Nat.le_of_ble_eq_true rfl) rfl (by decide) ⟨Nat.zero_le _, Nat.zero_le _⟩ (fun M10 h => ?_)
  refine s_aload_n hX dX5_holdUntold_18 rfl ?_
  refine s_aload_n hX dX5_holdUntold_19 rfl ?_
  refine s_getiv (v := (M10.1 c_draft Land_codeLength)) hX fi_X5_67 lydraft_c_draft rfl dX5_holdUntold_20 rfl ?_
  refine s_puti hX fi_X5_85 fp_X6 rfl (by decide +kernel) lydraft_c_draft_owe rfl dX5_holdUntold_23 ?_
  exact s_vret hX hq rfl dX5_holdUntold_26 h
theorem c_Land_holdUntold_draft {a0 : Int32} {M : Mem} {Q : Mem → Prop} (h : w_Land_holdUntold_draft a0 M Q) : CV yX5_holdUntold cX5_holdUntold 3 none 2 0 0 Ly_53 Ly_53 [vr c_draft, vr c_draft_owe, vi a0] M Q := mk_v rfl wd_co_X5_holdUntold rfl rfl (Nat.le_of_ble_eq_true rfl) (fun X hX hq => t_Land_holdUntold_draft hX hq h)
def w_Land_holdUntold_draft_fog_draft (a0 : Int32) (M : Mem) (Q : Mem → Prop) : Prop :=
  w_Land_addStep_draft a0 (si (si M c_draft_fog Law_isTold 0) c_draft_fog Law_from (M.1 c_draft Land_codeLength)) (fun M12 => Q (si M12 c_draft_fog Law_to (M12.1 c_draft Land_codeLength)))
set_option maxHeartbeats 4000000 in
theorem t_Land_holdUntold_draft_fog_draft {X : Cx} (hX : Cok X cX5_holdUntold RX5 3 none 2 0 0) {Q : Mem → Prop} (hq : RV X 0 0 Ly_53 Q) {M : Mem} {a0 : Int32} (h : w_Land_holdUntold_draft_fog_draft a0 M Q) : Wat X 0 0 Ly_53 0 [some (vr c_draft), some (vr c_draft_fog), some (vi a0)] [] M := by
  refine s_aload_n hX dX5_holdUntold_0 rfl ?_
  refine s_iconst (v := 0) hX dX5_holdUntold_1 rfl ?_
  refine s_putz hX fi_X5_74 fp_X6 rfl (by decide +kernel) ⟨rfl, rfl⟩ lydraft_c_draft_fog rfl dX5_holdUntold_2 ?_
  refine s_aload_n hX dX5_holdUntold_5 rfl ?_
  refine s_aload_n hX dX5_holdUntold_6 rfl ?_
  refine s_getiv (v := (M.1 c_draft Land_codeLength)) hX fi_X5_67 lydraft_c_draft rfl dX5_holdUntold_7 rfl ?_
  refine s_puti hX fi_X5_78 fp_X6 rfl (by decide +kernel) lydraft_c_draft_fog rfl dX5_holdUntold_10 ?_
  refine s_aload_n hX dX5_holdUntold_13 rfl ?_
  refine s_iload_n hX dX5_holdUntold_14 rfl ?_
  refine s_cvv (as := [vi a0]) (rest := []) hX (c_Land_addStep_draft h) mv_Land_addStep wd_ml_X5_81 dX5_holdUntold_15 lydraft_c_draft rfl rfl (Nat.le_of_ble_eq_true rfl) rfl (by decide) ⟨Nat.zero_le _, Nat.zero_le _⟩ (fun M12 h => ?_)
  refine s_aload_n hX dX5_holdUntold_18 rfl ?_
  refine s_aload_n hX dX5_holdUntold_19 rfl ?_
  refine s_getiv (v := (M12.1 c_draft Land_codeLength)) hX fi_X5_67 lydraft_c_draft rfl dX5_holdUntold_20 rfl ?_
  refine s_puti hX fi_X5_85 fp_X6 rfl (by decide +kernel) lydraft_c_draft_fog rfl dX5_holdUntold_23 ?_
  exact s_vret hX hq rfl dX5_holdUntold_26 h
theorem c_Land_holdUntold_draft_fog_draft {a0 : Int32} {M : Mem} {Q : Mem → Prop} (h : w_Land_holdUntold_draft_fog_draft a0 M Q) : CV yX5_holdUntold cX5_holdUntold 3 none 2 0 0 Ly_53 Ly_53 [vr c_draft, vr c_draft_fog, vi a0] M Q := mk_v rfl wd_co_X5_holdUntold rfl rfl (Nat.le_of_ble_eq_true rfl) (fun X hX hq => t_Land_holdUntold_draft_fog_draft hX hq h)
def w_Land_clear_draft (M : Mem) (Q : Mem → Prop) : Prop :=
  w_Jarr_fill_draft 0 (si (si (si (si (si M c_draft Land_wide 2) c_draft Land_deep 2) c_draft Land_people 0) c_draft Land_birds 0) c_draft Land_hear 14) (fun M9 => w_Land_holdUntold_draft 1 (si M9 c_draft Land_codeLength 0) (fun M11 => w_Land_holdUntold_draft_fog_draft 14 M11 (fun M13 => Q M13)))
set_option maxHeartbeats 4000000 in
theorem t_Land_clear_draft {X : Cx} (hX : Cok X cX5_clear RX5 1 none 3 0 0) {Q : Mem → Prop} (hq : RV X 0 0 Ly_53 Q) {M : Mem} (h : w_Land_clear_draft M Q) : Wat X 0 0 Ly_53 0 [some (vr c_draft)] [] M := by
  refine s_aload_n hX dX5_clear_0 rfl ?_
  refine s_iconst (v := 2) hX dX5_clear_1 rfl ?_
  refine s_puti hX fi_X5_45 fp_X5 rfl (by decide +kernel) lydraft_c_draft rfl dX5_clear_2 ?_
  refine s_aload_n hX dX5_clear_5 rfl ?_
  refine s_iconst (v := 2) hX dX5_clear_6 rfl ?_
  refine s_puti hX fi_X5_49 fp_X5 rfl (by decide +kernel) lydraft_c_draft rfl dX5_clear_7 ?_
  refine s_aload_n hX dX5_clear_10 rfl ?_
  refine s_iconst (v := 0) hX dX5_clear_11 rfl ?_
  refine s_puti hX fi_X5_52 fp_X5 rfl (by decide +kernel) lydraft_c_draft rfl dX5_clear_12 ?_
  refine s_aload_n hX dX5_clear_15 rfl ?_
  refine s_iconst (v := 0) hX dX5_clear_16 rfl ?_
  refine s_puti hX fi_X5_55 fp_X5 rfl (by decide +kernel) lydraft_c_draft rfl dX5_clear_17 ?_
  refine s_aload_n hX dX5_clear_20 rfl ?_
  refine s_bipush (v := 14) hX dX5_clear_21 rfl ?_
  refine s_puti hX fi_X5_58 fp_X5 rfl (by decide +kernel) lydraft_c_draft rfl dX5_clear_23 ?_
  refine s_aload_n hX dX5_clear_26 rfl ?_
  refine s_getr hX fi_X5_24 lydraft_c_draft rfl dX5_clear_27 ?_
  refine s_iconst (v := 0) hX dX5_clear_30 rfl ?_
  refine s_csv (as := [vr c_draft_times, vi 0]) (rest := []) hX (c_Jarr_fill_draft h) ms_Jarr_fill wd_ml_X5_61 dX5_clear_31 rfl (Nat.le_of_ble_eq_true rfl) rfl (by decide) ⟨Nat.zero_le _, Nat.zero_le _⟩ (fun M9 h => ?_)
  refine s_aload_n hX dX5_clear_34 rfl ?_
  refine s_iconst (v := 0) hX dX5_clear_35 rfl ?_
  refine s_puti hX fi_X5_67 fp_X5 rfl (by decide +kernel) lydraft_c_draft rfl dX5_clear_36 ?_
  refine s_aload_n hX dX5_clear_39 rfl ?_
  refine s_aload_n hX dX5_clear_40 rfl ?_
  refine s_getr hX fi_X5_35 lydraft_c_draft rfl dX5_clear_41 ?_
  refine s_iconst (v := 1) hX dX5_clear_44 rfl ?_
  refine s_cvv (as := [vr c_draft_owe, vi 1]) (rest := []) hX (c_Land_holdUntold_draft h) mv_Land_holdUntold wd_ml_X5_70 dX5_clear_45 lydraft_c_draft rfl rfl (Nat.le_of_ble_eq_true rfl) rfl (by decide) ⟨Nat.zero_le _, Nat.zero_le _⟩ (fun M11 h => ?_)
  refine s_aload_n hX dX5_clear_48 rfl ?_
  refine s_aload_n hX dX5_clear_49 rfl ?_
  refine s_getr hX fi_X5_39 lydraft_c_draft rfl dX5_clear_50 ?_
  refine s_bipush (v := 14) hX dX5_clear_53 rfl ?_
  refine s_cvv (as := [vr c_draft_fog, vi 14]) (rest := []) hX (c_Land_holdUntold_draft_fog_draft h) mv_Land_holdUntold_draft_fog wd_ml_X5_70 dX5_clear_55 lydraft_c_draft rfl rfl (Nat.le_of_ble_eq_true rfl) rfl (by decide) ⟨Nat.zero_le _, Nat.zero_le _⟩ (fun M13 h => ?_)
  exact s_vret hX hq rfl dX5_clear_58 h
theorem c_Land_clear_draft {M : Mem} {Q : Mem → Prop} (h : w_Land_clear_draft M Q) : CV yX5_clear cX5_clear 1 none 3 0 0 Ly_53 Ly_53 [vr c_draft] M Q := mk_v rfl wd_co_X5_clear rfl rfl (Nat.le_of_ble_eq_true rfl) (fun X hX hq => t_Land_clear_draft hX hq h)
def v_draft (M : Mem) (Q : Mem → Prop) : Prop := v_draft_owe M (fun M1 => Z0 24 M1 ∧ v_draft_fog M1 (fun M2 => Z0 26 M2 ∧ w_Land_clear_draft M2 (fun M3 => Q M3)))
set_option maxHeartbeats 1000000 in
theorem n_draft {M : Mem} {Q : Mem → Prop} (hz : Z0 16 M) (h : v_draft M Q) : CNE yX5_init cX5_init 1 4 10 1379 Ly_31 Ly_53 [vr c_draft] M Q := mk_ne (lv0 := [some (vr c_draft)]) (by decide +kernel) rfl rfl rfl (Nat.le_of_ble_eq_true rfl) (fun X ad0 hX hT hq => by
  refine s_aload_n hX dX5_init_0 rfl ?_
  refine s_obj hX (tb_m1 137 rfl rfl) wd_im_objectInit wd_co_objectInit rfl (Nat.le_of_ble_eq_true rfl) (Nat.le_of_ble_eq_true rfl) dX5_init_1 ?_
  refine s_aload_n hX dX5_init_4 rfl ?_
  refine s_bipush (v := nI 6) hX dX5_init_5 rfl ?_
  refine s_nwi (n := 6) (L' := Ly_32) hX (hz.mono (Nat.le_of_ble_eq_true rfl)) rfl (by decide) rfl rfl rfl (Nat.le_of_ble_eq_true rfl) (Nat.le_of_ble_eq_true rfl) dX5_init_7 rfl (fun X1 hE => ?_)
  replace hT := hT.go hE (Nat.le_of_ble_eq_true rfl)
  replace hq := hq.go hE (Nat.le_of_ble_eq_true rfl) (Nat.le_of_ble_eq_true rfl)
  replace hX := hX.go hE
  clear hE
  refine s_putF (L' := Ly_33) hX hq.ni (show FI RX5 9 5 5 RX5 TX5 14 from ⟨rfl, by decide, fw_X5, wd_fl_X5_9⟩) fp_X5 rfl rfl rfl (fun _ => ⟨rfl, rfl⟩) (f := .inr none) rfl rfl rfl dX5_init_9 ?_
  refine s_aload_n hX dX5_init_12 rfl ?_
  refine s_bipush (v := nI 6) hX dX5_init_13 rfl ?_
  refine s_nwi (n := 6) (L' := Ly_34) hX (hz.mono (Nat.le_of_ble_eq_true rfl)) rfl (by decide) rfl rfl rfl (Nat.le_of_ble_eq_true rfl) (Nat.le_of_ble_eq_true rfl) dX5_init_15 rfl (fun X1 hE => ?_)
  replace hT := hT.go hE (Nat.le_of_ble_eq_true rfl)
  replace hq := hq.go hE (Nat.le_of_ble_eq_true rfl) (Nat.le_of_ble_eq_true rfl)
  replace hX := hX.go hE
  clear hE
  refine s_putF (L' := Ly_35) hX hq.ni (show FI RX5 15 5 6 RX5 TX5 14 from ⟨rfl, by decide, fw_X5, wd_fl_X5_15⟩) fp_X5 rfl rfl rfl (fun _ => ⟨rfl, rfl⟩) (f := .inr none) rfl rfl rfl dX5_init_17 ?_
  refine s_aload_n hX dX5_init_20 rfl ?_
  refine s_sipush (v := nI 144) hX dX5_init_21 rfl ?_
  refine s_nwi (n := 144) (L' := Ly_36) hX (hz.mono (Nat.le_of_ble_eq_true rfl)) rfl (by decide) rfl rfl rfl (Nat.le_of_ble_eq_true rfl) (Nat.le_of_ble_eq_true rfl) dX5_init_24 rfl (fun X1 hE => ?_)
  replace hT := hT.go hE (Nat.le_of_ble_eq_true rfl)
  replace hq := hq.go hE (Nat.le_of_ble_eq_true rfl) (Nat.le_of_ble_eq_true rfl)
  replace hX := hX.go hE
  clear hE
  refine s_putF (L' := Ly_37) hX hq.ni (show FI RX5 18 5 7 RX5 TX5 14 from ⟨rfl, by decide, fw_X5, wd_fl_X5_18⟩) fp_X5 rfl rfl rfl (fun _ => ⟨rfl, rfl⟩) (f := .inr none) rfl rfl rfl dX5_init_26 ?_
  refine s_aload_n hX dX5_init_29 rfl ?_
  refine s_iconst (v := (nI 5)) hX dX5_init_30 rfl ?_
  refine s_nwi (n := 5) (L' := Ly_38) hX (hz.mono (Nat.le_of_ble_eq_true rfl)) rfl (by decide) rfl rfl rfl (Nat.le_of_ble_eq_true rfl) (Nat.le_of_ble_eq_true rfl) dX5_init_31 rfl (fun X1 hE => ?_)
  replace hT := hT.go hE (Nat.le_of_ble_eq_true rfl)
  replace hq := hq.go hE (Nat.le_of_ble_eq_true rfl) (Nat.le_of_ble_eq_true rfl)
  replace hX := hX.go hE
  clear hE
  refine s_putF (L' := Ly_39) hX hq.ni (show FI RX5 21 5 8 RX5 TX5 14 from ⟨rfl, by decide, fw_X5, wd_fl_X5_21⟩) fp_X5 rfl rfl rfl (fun _ => ⟨rfl, rfl⟩) (f := .inr none) rfl rfl rfl dX5_init_33 ?_
  refine s_aload_n hX dX5_init_36 rfl ?_
  refine s_bipush (v := nI 120) hX dX5_init_37 rfl ?_
  refine s_nwi (n := 120) (L' := Ly_40) hX (hz.mono (Nat.le_of_ble_eq_true rfl)) rfl (by decide) rfl rfl rfl (Nat.le_of_ble_eq_true rfl) (Nat.le_of_ble_eq_true rfl) dX5_init_39 rfl (fun X1 hE => ?_)
  replace hT := hT.go hE (Nat.le_of_ble_eq_true rfl)
  replace hq := hq.go hE (Nat.le_of_ble_eq_true rfl) (Nat.le_of_ble_eq_true rfl)
  replace hX := hX.go hE
  clear hE
  refine s_putF (L' := Ly_41) hX hq.ni (show FI RX5 24 5 9 RX5 TX5 14 from ⟨rfl, by decide, fw_X5, wd_fl_X5_24⟩) fp_X5 rfl rfl rfl (fun _ => ⟨rfl, rfl⟩) (f := .inr none) rfl rfl rfl dX5_init_41 ?_
  refine s_aload_n hX dX5_init_44 rfl ?_
  refine s_sipush (v := nI 1024) hX dX5_init_45 rfl ?_
  refine s_nwi (n := 1024) (L' := Ly_42) hX (hz.mono (Nat.le_of_ble_eq_true rfl)) rfl (by decide) rfl rfl rfl (Nat.le_of_ble_eq_true rfl) (Nat.le_of_ble_eq_true rfl) dX5_init_48 rfl (fun X1 hE => ?_)
  replace hT := hT.go hE (Nat.le_of_ble_eq_true rfl)
  replace hq := hq.go hE (Nat.le_of_ble_eq_true rfl) (Nat.le_of_ble_eq_true rfl)
  replace hX := hX.go hE
  clear hE
  refine s_putF (L' := Ly_43) hX hq.ni (show FI RX5 27 5 10 RX5 TX5 14 from ⟨rfl, by decide, fw_X5, wd_fl_X5_27⟩) fp_X5 rfl rfl rfl (fun _ => ⟨rfl, rfl⟩) (f := .inr none) rfl rfl rfl dX5_init_50 ?_
  refine s_aload_n hX dX5_init_53 rfl ?_
  refine s_nw (ci := 6) (fs := [.inr none, .inl true, .inl true, .inl true, .inr none]) (L' := Ly_44) hX (hz.mono (Nat.le_of_ble_eq_true rfl)) rfl fp_X6 fw_X6 wd_cl_X5_30 wd_it_X6 wd_in_X6 rfl rfl rfl rfl rfl rfl (Nat.le_of_ble_eq_true rfl) (Nat.le_of_ble_eq_true rfl) dX5_init_54 rfl (fun X1 hE => ?_)
  replace hT := hT.go hE (Nat.le_of_ble_eq_true rfl)
  replace hq := hq.go hE (Nat.le_of_ble_eq_true rfl) (Nat.le_of_ble_eq_true rfl)
  replace hX := hX.go hE
  clear hE
  refine s_dup hX dX5_init_57 rfl ?_
  refine s_aload_n hX dX5_init_58 rfl ?_
  refine s_getr hX (show FI RX5 27 5 10 RX5 TX5 14 from ⟨rfl, by decide, fw_X5, wd_fl_X5_27⟩) (r := c_draft_code) (fs := [.inl true, .inl true, .inl true, .inl true, .inl true, .inr (some c_draft_kind), .inr (some c_draft_purse), .inr (some c_draft_place), .inr (some c_draft_bush), .inr (some c_draft_times), .inr (some c_draft_code), .inl true, .inr none, .inr none]) rfl rfl dX5_init_59 ?_
  refine s_cne (as := [vr c_draft_code]) (rest := [vr c_draft_owe, vr c_draft]) (Qn := _) hX hT (n_draft_owe (hz.mono (Nat.le_of_ble_eq_true rfl)) h) mi_X6 wd_ml_X5_32 dX5_init_62 rfl (Nat.le_of_ble_eq_true rfl) rfl (by decide) ⟨Nat.le_of_ble_eq_true rfl, Nat.le_of_ble_eq_true rfl⟩ rfl rfl (fun X1 M1 hE h => ?_)
  replace hT := hT.go hE (Nat.le_of_ble_eq_true rfl)
  replace hq := hq.go hE (Nat.le_of_ble_eq_true rfl) (Nat.le_of_ble_eq_true rfl)
  replace hX := hX.go hE
  clear hE
  obtain ⟨hz, h⟩ := h
  refine s_putF (L' := Ly_48) hX hq.ni (show FI RX5 35 5 12 RX5 TX5 14 from ⟨rfl, by decide, fw_X5, wd_fl_X5_35⟩) fp_X5 rfl rfl rfl (fun _ => ⟨rfl, rfl⟩) (f := .inr none) rfl rfl rfl dX5_init_65 ?_
  refine s_aload_n hX dX5_init_68 rfl ?_
  refine s_nw (ci := 6) (fs := [.inr none, .inl true, .inl true, .inl true, .inr none]) (L' := Ly_49) hX (hz.mono (Nat.le_of_ble_eq_true rfl)) rfl fp_X6 fw_X6 wd_cl_X5_30 wd_it_X6 wd_in_X6 rfl rfl rfl rfl rfl rfl (Nat.le_of_ble_eq_true rfl) (Nat.le_of_ble_eq_true rfl) dX5_init_69 rfl (fun X1 hE => ?_)
  replace hT := hT.go hE (Nat.le_of_ble_eq_true rfl)
  replace hq := hq.go hE (Nat.le_of_ble_eq_true rfl) (Nat.le_of_ble_eq_true rfl)
  replace hX := hX.go hE
  clear hE
  refine s_dup hX dX5_init_72 rfl ?_
  refine s_aload_n hX dX5_init_73 rfl ?_
  refine s_getr hX (show FI RX5 27 5 10 RX5 TX5 14 from ⟨rfl, by decide, fw_X5, wd_fl_X5_27⟩) (r := c_draft_code) (fs := [.inl true, .inl true, .inl true, .inl true, .inl true, .inr (some c_draft_kind), .inr (some c_draft_purse), .inr (some c_draft_place), .inr (some c_draft_bush), .inr (some c_draft_times), .inr (some c_draft_code), .inl true, .inr (some c_draft_owe), .inr none]) rfl rfl dX5_init_74 ?_
  refine s_cne (as := [vr c_draft_code]) (rest := [vr c_draft_fog, vr c_draft]) (Qn := _) hX hT (n_draft_fog (hz.mono (Nat.le_of_ble_eq_true rfl)) h) mi_X6 wd_ml_X5_32 dX5_init_77 rfl (Nat.le_of_ble_eq_true rfl) rfl (by decide) ⟨Nat.le_of_ble_eq_true rfl, Nat.le_of_ble_eq_true rfl⟩ rfl rfl (fun X1 M2 hE h => ?_)
  replace hT := hT.go hE (Nat.le_of_ble_eq_true rfl)
  replace hq := hq.go hE (Nat.le_of_ble_eq_true rfl) (Nat.le_of_ble_eq_true rfl)
  replace hX := hX.go hE
  clear hE
  obtain ⟨hz, h⟩ := h
  refine s_putF (L' := Ly_53) hX hq.ni (show FI RX5 39 5 13 RX5 TX5 14 from ⟨rfl, by decide, fw_X5, wd_fl_X5_39⟩) fp_X5 rfl rfl rfl (fun _ => ⟨rfl, rfl⟩) (f := .inr none) rfl rfl rfl dX5_init_80 ?_
  refine s_aload_n hX dX5_init_83 rfl ?_
  refine s_cvv (as := []) (rest := []) hX (c_Land_clear_draft h) mv_Land_clear wd_ml_X5_42 dX5_init_84 lydraft_c_draft rfl rfl (Nat.le_of_ble_eq_true rfl) rfl (by decide) ⟨Nat.le_of_ble_eq_true rfl, Nat.le_of_ble_eq_true rfl⟩ (fun M3 h => ?_)
  exact s_vretn hX hq rfl dX5_init_87 h)
def Ly_54 : List DS := lay 26 [(c_xx, .inl (11, [.inr (some c_tape), .inr (some c_land), .inr (some c_draft), .inr none, .inr none, .inr none, .inl true, .inr none, .inr none, .inr none, .inr none, .inr none]))]
def Ly_55 : List DS := lay 27 [(c_xx, .inl (11, [.inr (some c_tape), .inr (some c_land), .inr (some c_draft), .inr none, .inr none, .inr none, .inl true, .inr none, .inr none, .inr none, .inr none, .inr none])), (c_reader, .inl (8, [.inr none, .inr none, .inr none, .inr none, .inr none, .inr none, .inl true, .inl true, .inl true, .inl true, .inl true]))]
def Ly_56 : List DS := lay 28 [(c_xx, .inl (11, [.inr (some c_tape), .inr (some c_land), .inr (some c_draft), .inr none, .inr none, .inr none, .inl true, .inr none, .inr none, .inr none, .inr none, .inr none])), (c_reader, .inl (8, [.inr none, .inr none, .inr none, .inr none, .inr none, .inr none, .inl true, .inl true, .inl true, .inl true, .inl true]))]
def Ly_57 : List DS := lay 28 [(c_xx, .inl (11, [.inr (some c_tape), .inr (some c_land), .inr (some c_draft), .inr none, .inr none, .inr none, .inl true, .inr none, .inr none, .inr none, .inr none, .inr none])), (c_reader, .inl (8, [.inr none, .inr none, .inr none, .inr (some c_reader_peopleNames), .inr none, .inr none, .inl true, .inl true, .inl true, .inl true, .inl true]))]
def Ly_58 : List DS := lay 29 [(c_xx, .inl (11, [.inr (some c_tape), .inr (some c_land), .inr (some c_draft), .inr none, .inr none, .inr none, .inl true, .inr none, .inr none, .inr none, .inr none, .inr none])), (c_reader, .inl (8, [.inr none, .inr none, .inr none, .inr (some c_reader_peopleNames), .inr none, .inr none, .inl true, .inl true, .inl true, .inl true, .inl true]))]
def Ly_59 : List DS := lay 29 [(c_xx, .inl (11, [.inr (some c_tape), .inr (some c_land), .inr (some c_draft), .inr none, .inr none, .inr none, .inl true, .inr none, .inr none, .inr none, .inr none, .inr none])), (c_reader, .inl (8, [.inr none, .inr none, .inr none, .inr (some c_reader_peopleNames), .inr (some c_reader_birdNames), .inr none, .inl true, .inl true, .inl true, .inl true, .inl true]))]
def Ly_60 : List DS := lay 30 [(c_xx, .inl (11, [.inr (some c_tape), .inr (some c_land), .inr (some c_draft), .inr none, .inr none, .inr none, .inl true, .inr none, .inr none, .inr none, .inr none, .inr none])), (c_reader, .inl (8, [.inr none, .inr none, .inr none, .inr (some c_reader_peopleNames), .inr (some c_reader_birdNames), .inr none, .inl true, .inl true, .inl true, .inl true, .inl true]))]
def Ly_61 : List DS := lay 30 [(c_xx, .inl (11, [.inr (some c_tape), .inr (some c_land), .inr (some c_draft), .inr none, .inr none, .inr none, .inl true, .inr none, .inr none, .inr none, .inr none, .inr none])), (c_reader, .inl (8, [.inr none, .inr none, .inr none, .inr (some c_reader_peopleNames), .inr (some c_reader_birdNames), .inr (some c_reader_goes), .inl true, .inl true, .inl true, .inl true, .inl true]))]
def Ly_62 : List DS := lay 30 [(c_xx, .inl (11, [.inr (some c_tape), .inr (some c_land), .inr (some c_draft), .inr none, .inr none, .inr none, .inl true, .inr none, .inr none, .inr none, .inr none, .inr none])), (c_reader, .inl (8, [.inr (some c_tape), .inr none, .inr none, .inr (some c_reader_peopleNames), .inr (some c_reader_birdNames), .inr (some c_reader_goes), .inl true, .inl true, .inl true, .inl true, .inl true]))]
def Ly_63 : List DS := lay 30 [(c_xx, .inl (11, [.inr (some c_tape), .inr (some c_land), .inr (some c_draft), .inr none, .inr none, .inr none, .inl true, .inr none, .inr none, .inr none, .inr none, .inr none])), (c_reader, .inl (8, [.inr (some c_tape), .inr (some c_draft), .inr none, .inr (some c_reader_peopleNames), .inr (some c_reader_birdNames), .inr (some c_reader_goes), .inl true, .inl true, .inl true, .inl true, .inl true]))]
def Ly_64 : List DS := lay 31 [(c_xx, .inl (11, [.inr (some c_tape), .inr (some c_land), .inr (some c_draft), .inr none, .inr none, .inr none, .inl true, .inr none, .inr none, .inr none, .inr none, .inr none])), (c_reader, .inl (8, [.inr (some c_tape), .inr (some c_draft), .inr none, .inr (some c_reader_peopleNames), .inr (some c_reader_birdNames), .inr (some c_reader_goes), .inl true, .inl true, .inl true, .inl true, .inl true])), (c_laws, .inl (7, [.inr none, .inr none, .inl true]))]
def Ly_65 : List DS := lay 31 [(c_xx, .inl (11, [.inr (some c_tape), .inr (some c_land), .inr (some c_draft), .inr none, .inr none, .inr none, .inl true, .inr none, .inr none, .inr none, .inr none, .inr none])), (c_reader, .inl (8, [.inr (some c_tape), .inr (some c_draft), .inr none, .inr (some c_reader_peopleNames), .inr (some c_reader_birdNames), .inr (some c_reader_goes), .inl true, .inl true, .inl true, .inl true, .inl true])), (c_laws, .inl (7, [.inr (some c_tape), .inr none, .inl true]))]
def Ly_66 : List DS := lay 31 [(c_xx, .inl (11, [.inr (some c_tape), .inr (some c_land), .inr (some c_draft), .inr none, .inr none, .inr none, .inl true, .inr none, .inr none, .inr none, .inr none, .inr none])), (c_reader, .inl (8, [.inr (some c_tape), .inr (some c_draft), .inr none, .inr (some c_reader_peopleNames), .inr (some c_reader_birdNames), .inr (some c_reader_goes), .inl true, .inl true, .inl true, .inl true, .inl true]))]
def v_laws (M : Mem) (Q : Mem → Prop) : Prop := Q M
set_option maxHeartbeats 1000000 in
theorem n_laws {M : Mem} {Q : Mem → Prop} (hz : Z0 31 M) (h : v_laws M Q) : CNE yX7_init cX7_init 3 1 0 0 Ly_64 Ly_66 [vr c_laws, vr c_tape, vr c_draft] M Q := mk_ne (lv0 := [some (vr c_laws), some (vr c_tape), some (vr c_draft)]) (by decide +kernel) rfl rfl rfl (Nat.le_of_ble_eq_true rfl) (fun X ad0 hX hT hq => by
  refine s_aload_n hX dX7_init_0 rfl ?_
  refine s_obj hX (tb_m2 33 rfl rfl) wd_im_objectInit wd_co_objectInit rfl (Nat.le_of_ble_eq_true rfl) (Nat.le_of_ble_eq_true rfl) dX7_init_1 ?_
  refine s_aload_n hX dX7_init_4 rfl ?_
  refine s_aload_n hX dX7_init_5 rfl ?_
  refine s_putF (L' := Ly_65) hX hq.ni (show FI RX7 9 7 0 RX7 TX7 3 from ⟨rfl, by decide, fw_X7, wd_fl_X7_9⟩) fp_X7 rfl rfl rfl (fun _ => ⟨rfl, rfl⟩) (f := .inr none) rfl rfl rfl dX7_init_6 ?_
  refine s_aload_n hX dX7_init_9 rfl ?_
  refine s_aload_n hX dX7_init_10 rfl ?_
  refine s_putF (L' := Ly_66) hX hq.ni (show FI RX7 15 7 1 RX7 TX7 3 from ⟨rfl, by decide, fw_X7, wd_fl_X7_15⟩) fp_X7 rfl rfl rfl (fun _ => ⟨rfl, rfl⟩) (f := .inr none) rfl rfl rfl dX7_init_11 ?_
  exact s_vretn hX hq rfl dX7_init_14 h)
theorem mi_X7 : MI yX7_init cX7_init 3 2 := ⟨wd_co_X7_init, wd_im_X7_init, wd_in_X7, rfl, by decide +kernel, by decide⟩
def Ly_67 : List DS := lay 31 [(c_xx, .inl (11, [.inr (some c_tape), .inr (some c_land), .inr (some c_draft), .inr none, .inr none, .inr none, .inl true, .inr none, .inr none, .inr none, .inr none, .inr none]))]
def v_reader (M : Mem) (Q : Mem → Prop) : Prop := v_laws M (fun M1 => Z0 31 M1 ∧ Q M1)
set_option maxHeartbeats 1000000 in
theorem n_reader {M : Mem} {Q : Mem → Prop} (hz : Z0 27 M) (h : v_reader M Q) : CNE yX8_init cX8_init 3 2 4 158 Ly_55 Ly_67 [vr c_reader, vr c_tape, vr c_draft] M Q := mk_ne (lv0 := [some (vr c_reader), some (vr c_tape), some (vr c_draft)]) (by decide +kernel) rfl rfl rfl (Nat.le_of_ble_eq_true rfl) (fun X ad0 hX hT hq => by
  refine s_aload_n hX dX8_init_0 rfl ?_
  refine s_obj hX (tb_m2 27 rfl rfl) wd_im_objectInit wd_co_objectInit rfl (Nat.le_of_ble_eq_true rfl) (Nat.le_of_ble_eq_true rfl) dX8_init_1 ?_
  refine s_aload_n hX dX8_init_4 rfl ?_
  refine s_bipush (v := nI 6) hX dX8_init_5 rfl ?_
  refine s_nwl (n := 6) (L' := Ly_56) hX (hz.mono (Nat.le_of_ble_eq_true rfl)) rfl (by decide) rfl rfl rfl (Nat.le_of_ble_eq_true rfl) (Nat.le_of_ble_eq_true rfl) dX8_init_7 rfl (fun X1 hE => ?_)
  replace hT := hT.go hE (Nat.le_of_ble_eq_true rfl)
  replace hq := hq.go hE (Nat.le_of_ble_eq_true rfl) (Nat.le_of_ble_eq_true rfl)
  replace hX := hX.go hE
  clear hE
  refine s_putF (L' := Ly_57) hX hq.ni (show FI RX8 9 8 3 RX8 TX8 11 from ⟨rfl, by decide, fw_X8, wd_fl_X8_9⟩) fp_X8 rfl rfl rfl (fun _ => ⟨rfl, rfl⟩) (f := .inr none) rfl rfl rfl dX8_init_9 ?_
  refine s_aload_n hX dX8_init_12 rfl ?_
  refine s_iconst (v := (nI 5)) hX dX8_init_13 rfl ?_
  refine s_nwl (n := 5) (L' := Ly_58) hX (hz.mono (Nat.le_of_ble_eq_true rfl)) rfl (by decide) rfl rfl rfl (Nat.le_of_ble_eq_true rfl) (Nat.le_of_ble_eq_true rfl) dX8_init_14 rfl (fun X1 hE => ?_)
  replace hT := hT.go hE (Nat.le_of_ble_eq_true rfl)
  replace hq := hq.go hE (Nat.le_of_ble_eq_true rfl) (Nat.le_of_ble_eq_true rfl)
  replace hX := hX.go hE
  clear hE
  refine s_putF (L' := Ly_59) hX hq.ni (show FI RX8 15 8 4 RX8 TX8 11 from ⟨rfl, by decide, fw_X8, wd_fl_X8_15⟩) fp_X8 rfl rfl rfl (fun _ => ⟨rfl, rfl⟩) (f := .inr none) rfl rfl rfl dX8_init_16 ?_
  refine s_aload_n hX dX8_init_19 rfl ?_
  refine s_sipush (v := nI 144) hX dX8_init_20 rfl ?_
  refine s_nwi (n := 144) (L' := Ly_60) hX (hz.mono (Nat.le_of_ble_eq_true rfl)) rfl (by decide) rfl rfl rfl (Nat.le_of_ble_eq_true rfl) (Nat.le_of_ble_eq_true rfl) dX8_init_23 rfl (fun X1 hE => ?_)
  replace hT := hT.go hE (Nat.le_of_ble_eq_true rfl)
  replace hq := hq.go hE (Nat.le_of_ble_eq_true rfl) (Nat.le_of_ble_eq_true rfl)
  replace hX := hX.go hE
  clear hE
  refine s_putF (L' := Ly_61) hX hq.ni (show FI RX8 18 8 5 RX8 TX8 11 from ⟨rfl, by decide, fw_X8, wd_fl_X8_18⟩) fp_X8 rfl rfl rfl (fun _ => ⟨rfl, rfl⟩) (f := .inr none) rfl rfl rfl dX8_init_25 ?_
  refine s_aload_n hX dX8_init_28 rfl ?_
  refine s_aload_n hX dX8_init_29 rfl ?_
  refine s_putF (L' := Ly_62) hX hq.ni (show FI RX8 22 8 0 RX8 TX8 11 from ⟨rfl, by decide, fw_X8, wd_fl_X8_22⟩) fp_X8 rfl rfl rfl (fun _ => ⟨rfl, rfl⟩) (f := .inr none) rfl rfl rfl dX8_init_30 ?_
  refine s_aload_n hX dX8_init_33 rfl ?_
  refine s_aload_n hX dX8_init_34 rfl ?_
  refine s_putF (L' := Ly_63) hX hq.ni (show FI RX8 26 8 1 RX8 TX8 11 from ⟨rfl, by decide, fw_X8, wd_fl_X8_26⟩) fp_X8 rfl rfl rfl (fun _ => ⟨rfl, rfl⟩) (f := .inr none) rfl rfl rfl dX8_init_35 ?_
  refine s_aload_n hX dX8_init_38 rfl ?_
  refine s_nw (ci := 7) (fs := [.inr none, .inr none, .inl true]) (L' := Ly_64) hX (hz.mono (Nat.le_of_ble_eq_true rfl)) rfl fp_X7 fw_X7 wd_cl_X8_30 wd_it_X7 wd_in_X7 rfl rfl rfl rfl rfl rfl (Nat.le_of_ble_eq_true rfl) (Nat.le_of_ble_eq_true rfl) dX8_init_39 rfl (fun X1 hE => ?_)
  replace hT := hT.go hE (Nat.le_of_ble_eq_true rfl)
  replace hq := hq.go hE (Nat.le_of_ble_eq_true rfl) (Nat.le_of_ble_eq_true rfl)
  replace hX := hX.go hE
  clear hE
  refine s_dup hX dX8_init_42 rfl ?_
  refine s_aload_n hX dX8_init_43 rfl ?_
  refine s_aload_n hX dX8_init_44 rfl ?_
  refine s_cne (as := [vr c_tape, vr c_draft]) (rest := [vr c_laws, vr c_reader]) (Qn := _) hX hT (n_laws (hz.mono (Nat.le_of_ble_eq_true rfl)) h) mi_X7 wd_ml_X8_32 dX8_init_45 rfl (Nat.le_of_ble_eq_true rfl) rfl (by decide) ⟨Nat.le_of_ble_eq_true rfl, Nat.le_of_ble_eq_true rfl⟩ rfl rfl (fun X1 M1 hE h => ?_)
  replace hT := hT.go hE (Nat.le_of_ble_eq_true rfl)
  replace hq := hq.go hE (Nat.le_of_ble_eq_true rfl) (Nat.le_of_ble_eq_true rfl)
  replace hX := hX.go hE
  clear hE
  obtain ⟨hz, h⟩ := h
  refine s_putF (L' := Ly_67) hX hq.ni (show FI RX8 35 8 2 RX8 TX8 11 from ⟨rfl, by decide, fw_X8, wd_fl_X8_35⟩) fp_X8 rfl rfl rfl (fun _ => ⟨rfl, rfl⟩) (f := .inr none) rfl rfl rfl dX8_init_48 ?_
  exact s_vretn hX hq rfl dX8_init_51 h)
theorem mi_X8 : MI yX8_init cX8_init 3 2 := ⟨wd_co_X8_init, wd_im_X8_init, wd_in_X8, rfl, by decide +kernel, by decide⟩
def Ly_68 : List DS := lay 31 [(c_xx, .inl (11, [.inr (some c_tape), .inr (some c_land), .inr (some c_draft), .inr (some c_reader), .inr none, .inr none, .inl true, .inr none, .inr none, .inr none, .inr none, .inr none]))]
def Ly_69 : List DS := lay 32 [(c_xx, .inl (11, [.inr (some c_tape), .inr (some c_land), .inr (some c_draft), .inr (some c_reader), .inr none, .inr none, .inl true, .inr none, .inr none, .inr none, .inr none, .inr none])), (c_deeds, .inl (1, [.inr none, .inl true, .inr none]))]
def Ly_70 : List DS := lay 33 [(c_xx, .inl (11, [.inr (some c_tape), .inr (some c_land), .inr (some c_draft), .inr (some c_reader), .inr none, .inr none, .inl true, .inr none, .inr none, .inr none, .inr none, .inr none])), (c_deeds, .inl (1, [.inr none, .inl true, .inr none]))]
def Ly_71 : List DS := lay 33 [(c_xx, .inl (11, [.inr (some c_tape), .inr (some c_land), .inr (some c_draft), .inr (some c_reader), .inr none, .inr none, .inl true, .inr none, .inr none, .inr none, .inr none, .inr none])), (c_deeds, .inl (1, [.inr (some c_deeds_times), .inl true, .inr none]))]
def Ly_72 : List DS := lay 34 [(c_xx, .inl (11, [.inr (some c_tape), .inr (some c_land), .inr (some c_draft), .inr (some c_reader), .inr none, .inr none, .inl true, .inr none, .inr none, .inr none, .inr none, .inr none])), (c_deeds, .inl (1, [.inr (some c_deeds_times), .inl true, .inr none]))]
def Ly_73 : List DS := lay 34 [(c_xx, .inl (11, [.inr (some c_tape), .inr (some c_land), .inr (some c_draft), .inr (some c_reader), .inr none, .inr none, .inl true, .inr none, .inr none, .inr none, .inr none, .inr none]))]
theorem lydeeds_debt_c_deeds_debt : Ly_73[c_deeds_debt]? = some (.inr (0, 6, [])) := rfl
def w_Jarr_fill_deeds_debt_L5_deeds_debt (l1 : Int32) (l3 : Int32) (K : Mem → Prop) (Q : Mem → Prop) : Nat → Int32 → Mem → Prop
  | 0, _, _ => False
  | n + 1, l2, M => ((l3 ≤ l2 → K M) ∧ (¬ l3 ≤ l2 → (vp_in l2 6 ∧ w_Jarr_fill_deeds_debt_L5_deeds_debt l1 l3 K Q n (l2 + 1) (si M c_deeds_debt (Int32.toNatClampNeg l2) l1))))
set_option maxHeartbeats 4000000 in
theorem t_Jarr_fill_deeds_debt_L5_deeds_debt {X : Cx} (hX : Cok X cJ7_fill_53178 RJ7 4 none 1 0 0) {Q : Mem → Prop} (hq : RV X 0 0 Ly_73 Q) {l1 : Int32} {l3 : Int32} {K : Mem → Prop} (hK : ∀ (M : Mem), K M → Wat X 0 0 Ly_73 20 [none, none, none, none] [] M) : ∀ (n : Nat) (l2 : Int32) (M : Mem), w_Jarr_fill_deeds_debt_L5_deeds_debt l1 l3 K Q n l2 M → Wat X 0 0 Ly_73 5 [some (vr c_deeds_debt), some (vi l1), some (vi l2), some (vi l3)] [] M := by
  intro n
  induction n with
  | zero => intro _ _ h; exact h.elim
  | succ n ih =>
    intro l2 M h
    refine s_iload_n hX dJ7_fill_53178_5 rfl ?_
    refine s_iload_n hX dJ7_fill_53178_6 rfl ?_
    refine s_icmp_ge (tgt := 20) hX dJ7_fill_53178_7 (by decide) (fun c => ?_) (fun c => ?_)
    · replace h := h.1 c
      refine s_mask [false, false, false, false] (lv' := [none, none, none, none]) rfl rfl ?_
      exact hK _ h
    · replace h := h.2 c
      refine s_aload_n hX dJ7_fill_53178_10 rfl ?_
      refine s_iload_n hX dJ7_fill_53178_11 rfl ?_
      refine s_iload_n hX dJ7_fill_53178_12 rfl ?_
      have hi := h.1
      replace h := h.2
      refine s_iast hX lydeeds_debt_c_deeds_debt hi dJ7_fill_53178_13 ?_
      refine s_iinc (v := (l2 + 1)) (lv' := [some (vr c_deeds_debt), some (vi l1), some (vi (l2 + 1)), some (vi l3)]) hX dJ7_fill_53178_14 rfl rfl rfl rfl ?_
      refine s_goto (tgt := 5) hX dJ7_fill_53178_17 (by decide) ?_
      exact ih _ _ h
def w_Jarr_fill_deeds_debt_deeds_debt (a0 : Int32) (M : Mem) (Q : Mem → Prop) : Prop :=
  (∃ n290, w_Jarr_fill_deeds_debt_L5_deeds_debt a0 6 (fun M289 => Q M289) Q n290 0 M)
set_option maxHeartbeats 4000000 in
theorem t_Jarr_fill_deeds_debt_deeds_debt {X : Cx} (hX : Cok X cJ7_fill_53178 RJ7 4 none 1 0 0) {Q : Mem → Prop} (hq : RV X 0 0 Ly_73 Q) {M : Mem} {a0 : Int32} (h : w_Jarr_fill_deeds_debt_deeds_debt a0 M Q) : Wat X 0 0 Ly_73 0 [some (vr c_deeds_debt), some (vi a0), none, none] [] M := by
  refine s_iconst (v := 0) hX dJ7_fill_53178_0 rfl ?_
  refine s_istore_n (lv' := [some (vr c_deeds_debt), some (vi a0), some (vi 0), none]) hX dJ7_fill_53178_1 rfl rfl (Nat.le_of_ble_eq_true rfl) ?_
  refine s_aload_n hX dJ7_fill_53178_2 rfl ?_
  refine s_alen (v := 6) hX lydeeds_debt_c_deeds_debt (by decide) rfl dJ7_fill_53178_3 ?_
  refine s_istore_n (lv' := [some (vr c_deeds_debt), some (vi a0), some (vi 0), some (vi 6)]) hX dJ7_fill_53178_4 rfl rfl (Nat.le_of_ble_eq_true rfl) ?_
  obtain ⟨n290, h⟩ := h
  refine t_Jarr_fill_deeds_debt_L5_deeds_debt hX hq ?_ n290 _ _ h
  intro M289 h
  exact s_vret hX hq rfl dJ7_fill_53178_20 h
theorem c_Jarr_fill_deeds_debt_deeds_debt {a0 : Int32} {M : Mem} {Q : Mem → Prop} (h : w_Jarr_fill_deeds_debt_deeds_debt a0 M Q) : CV yJ7_fill_53178 cJ7_fill_53178 4 none 1 0 0 Ly_73 Ly_73 [vr c_deeds_debt, vi a0] M Q := mk_v rfl wd_co_J7_fill_53178 rfl rfl (Nat.le_of_ble_eq_true rfl) (fun X hX hq => t_Jarr_fill_deeds_debt_deeds_debt hX hq h)
def v_deeds (M : Mem) (Q : Mem → Prop) : Prop := w_Jarr_fill_deeds_debt_deeds_debt (-1) M (fun M1 => Q M1)
set_option maxHeartbeats 1000000 in
theorem n_deeds {M : Mem} {Q : Mem → Prop} (hz : Z0 32 M) (h : v_deeds M Q) : CNE yX1_init cX1_init 1 2 2 126 Ly_69 Ly_73 [vr c_deeds] M Q := mk_ne (lv0 := [some (vr c_deeds)]) (by decide +kernel) rfl rfl rfl (Nat.le_of_ble_eq_true rfl) (fun X ad0 hX hT hq => by
  refine s_aload_n hX dX1_init_0 rfl ?_
  refine s_obj hX (tb_m2 84 rfl rfl) wd_im_objectInit wd_co_objectInit rfl (Nat.le_of_ble_eq_true rfl) (Nat.le_of_ble_eq_true rfl) dX1_init_1 ?_
  refine s_aload_n hX dX1_init_4 rfl ?_
  refine s_bipush (v := nI 120) hX dX1_init_5 rfl ?_
  refine s_nwi (n := 120) (L' := Ly_70) hX (hz.mono (Nat.le_of_ble_eq_true rfl)) rfl (by decide) rfl rfl rfl (Nat.le_of_ble_eq_true rfl) (Nat.le_of_ble_eq_true rfl) dX1_init_7 rfl (fun X1 hE => ?_)
  replace hT := hT.go hE (Nat.le_of_ble_eq_true rfl)
  replace hq := hq.go hE (Nat.le_of_ble_eq_true rfl) (Nat.le_of_ble_eq_true rfl)
  replace hX := hX.go hE
  clear hE
  refine s_putF (L' := Ly_71) hX hq.ni (show FI RX1 9 1 0 RX1 TX1 3 from ⟨rfl, by decide, fw_X1, wd_fl_X1_9⟩) fp_X1 rfl rfl rfl (fun _ => ⟨rfl, rfl⟩) (f := .inr none) rfl rfl rfl dX1_init_9 ?_
  refine s_aload_n hX dX1_init_12 rfl ?_
  refine s_bipush (v := nI 6) hX dX1_init_13 rfl ?_
  refine s_nwi (n := 6) (L' := Ly_72) hX (hz.mono (Nat.le_of_ble_eq_true rfl)) rfl (by decide) rfl rfl rfl (Nat.le_of_ble_eq_true rfl) (Nat.le_of_ble_eq_true rfl) dX1_init_15 rfl (fun X1 hE => ?_)
  replace hT := hT.go hE (Nat.le_of_ble_eq_true rfl)
  replace hq := hq.go hE (Nat.le_of_ble_eq_true rfl) (Nat.le_of_ble_eq_true rfl)
  replace hX := hX.go hE
  clear hE
  refine s_putF (L' := Ly_73) hX hq.ni (show FI RX1 15 1 2 RX1 TX1 3 from ⟨rfl, by decide, fw_X1, wd_fl_X1_15⟩) fp_X1 rfl rfl rfl (fun _ => ⟨rfl, rfl⟩) (f := .inr none) rfl rfl rfl dX1_init_17 ?_
  refine s_aload_n hX dX1_init_20 rfl ?_
  refine s_getr hX (show FI RX1 15 1 2 RX1 TX1 3 from ⟨rfl, by decide, fw_X1, wd_fl_X1_15⟩) (r := c_deeds_debt) (fs := [.inr (some c_deeds_times), .inl true, .inr (some c_deeds_debt)]) rfl rfl dX1_init_21 ?_
  refine s_iconst (v := (-1)) hX dX1_init_24 rfl ?_
  refine s_csv (as := [vr c_deeds_debt, vi (-1)]) (rest := []) hX (c_Jarr_fill_deeds_debt_deeds_debt h) ms_Jarr_fill wd_ml_X1_18 dX1_init_25 rfl (Nat.le_of_ble_eq_true rfl) rfl (by decide) ⟨Nat.le_of_ble_eq_true rfl, Nat.le_of_ble_eq_true rfl⟩ (fun M1 h => ?_)
  exact s_vretn hX hq rfl dX1_init_28 h)
theorem mi_X1 : MI yX1_init cX1_init 1 0 := ⟨wd_co_X1_init, wd_im_X1_init, wd_in_X1, rfl, by decide +kernel, by decide⟩
def Ly_74 : List DS := lay 34 [(c_xx, .inl (11, [.inr (some c_tape), .inr (some c_land), .inr (some c_draft), .inr (some c_reader), .inr (some c_deeds), .inr none, .inl true, .inr none, .inr none, .inr none, .inr none, .inr none]))]
def Ly_75 : List DS := lay 35 [(c_xx, .inl (11, [.inr (some c_tape), .inr (some c_land), .inr (some c_draft), .inr (some c_reader), .inr (some c_deeds), .inr none, .inl true, .inr none, .inr none, .inr none, .inr none, .inr none])), (c_marks, .inr (4, 4, [none, none, none, none]))]
def Ly_76 : List DS := lay 35 [(c_xx, .inl (11, [.inr (some c_tape), .inr (some c_land), .inr (some c_draft), .inr (some c_reader), .inr (some c_deeds), .inr (some c_marks), .inl true, .inr none, .inr none, .inr none, .inr none, .inr none])), (c_marks, .inr (4, 4, [none, none, none, none]))]
def Ly_77 : List DS := lay 36 [(c_xx, .inl (11, [.inr (some c_tape), .inr (some c_land), .inr (some c_draft), .inr (some c_reader), .inr (some c_deeds), .inr (some c_marks), .inl true, .inr none, .inr none, .inr none, .inr none, .inr none])), (c_marks, .inr (4, 4, [none, none, none, none])), (c_mark0, .inl (1, [.inr none, .inl true, .inr none]))]
def Ly_78 : List DS := lay 37 [(c_xx, .inl (11, [.inr (some c_tape), .inr (some c_land), .inr (some c_draft), .inr (some c_reader), .inr (some c_deeds), .inr (some c_marks), .inl true, .inr none, .inr none, .inr none, .inr none, .inr none])), (c_marks, .inr (4, 4, [none, none, none, none])), (c_mark0, .inl (1, [.inr none, .inl true, .inr none]))]
def Ly_79 : List DS := lay 37 [(c_xx, .inl (11, [.inr (some c_tape), .inr (some c_land), .inr (some c_draft), .inr (some c_reader), .inr (some c_deeds), .inr (some c_marks), .inl true, .inr none, .inr none, .inr none, .inr none, .inr none])), (c_marks, .inr (4, 4, [none, none, none, none])), (c_mark0, .inl (1, [.inr (some c_mark0_times), .inl true, .inr none]))]
def Ly_80 : List DS := lay 38 [(c_xx, .inl (11, [.inr (some c_tape), .inr (some c_land), .inr (some c_draft), .inr (some c_reader), .inr (some c_deeds), .inr (some c_marks), .inl true, .inr none, .inr none, .inr none, .inr none, .inr none])), (c_marks, .inr (4, 4, [none, none, none, none])), (c_mark0, .inl (1, [.inr (some c_mark0_times), .inl true, .inr none]))]
def Ly_81 : List DS := lay 38 [(c_xx, .inl (11, [.inr (some c_tape), .inr (some c_land), .inr (some c_draft), .inr (some c_reader), .inr (some c_deeds), .inr (some c_marks), .inl true, .inr none, .inr none, .inr none, .inr none, .inr none])), (c_marks, .inr (4, 4, [none, none, none, none]))]
theorem lymark0_debt_c_mark0_debt : Ly_81[c_mark0_debt]? = some (.inr (0, 6, [])) := rfl
def w_Jarr_fill_deeds_debt_L5_mark0_debt (l1 : Int32) (l3 : Int32) (K : Mem → Prop) (Q : Mem → Prop) : Nat → Int32 → Mem → Prop
  | 0, _, _ => False
  | n + 1, l2, M => ((l3 ≤ l2 → K M) ∧ (¬ l3 ≤ l2 → (vp_in l2 6 ∧ w_Jarr_fill_deeds_debt_L5_mark0_debt l1 l3 K Q n (l2 + 1) (si M c_mark0_debt (Int32.toNatClampNeg l2) l1))))
set_option maxHeartbeats 4000000 in
theorem t_Jarr_fill_deeds_debt_L5_mark0_debt {X : Cx} (hX : Cok X cJ7_fill_53178 RJ7 4 none 1 0 0) {Q : Mem → Prop} (hq : RV X 0 0 Ly_81 Q) {l1 : Int32} {l3 : Int32} {K : Mem → Prop} (hK : ∀ (M : Mem), K M → Wat X 0 0 Ly_81 20 [none, none, none, none] [] M) : ∀ (n : Nat) (l2 : Int32) (M : Mem), w_Jarr_fill_deeds_debt_L5_mark0_debt l1 l3 K Q n l2 M → Wat X 0 0 Ly_81 5 [some (vr c_mark0_debt), some (vi l1), some (vi l2), some (vi l3)] [] M := by
  intro n
  induction n with
  | zero => intro _ _ h; exact h.elim
  | succ n ih =>
    intro l2 M h
    refine s_iload_n hX dJ7_fill_53178_5 rfl ?_
    refine s_iload_n hX dJ7_fill_53178_6 rfl ?_
    refine s_icmp_ge (tgt := 20) hX dJ7_fill_53178_7 (by decide) (fun c => ?_) (fun c => ?_)
    · replace h := h.1 c
      refine s_mask [false, false, false, false] (lv' := [none, none, none, none]) rfl rfl ?_
      exact hK _ h
    · replace h := h.2 c
      refine s_aload_n hX dJ7_fill_53178_10 rfl ?_
      refine s_iload_n hX dJ7_fill_53178_11 rfl ?_
      refine s_iload_n hX dJ7_fill_53178_12 rfl ?_
      have hi := h.1
      replace h := h.2
      refine s_iast hX lymark0_debt_c_mark0_debt hi dJ7_fill_53178_13 ?_
      refine s_iinc (v := (l2 + 1)) (lv' := [some (vr c_mark0_debt), some (vi l1), some (vi (l2 + 1)), some (vi l3)]) hX dJ7_fill_53178_14 rfl rfl rfl rfl ?_
      refine s_goto (tgt := 5) hX dJ7_fill_53178_17 (by decide) ?_
      exact ih _ _ h
def w_Jarr_fill_deeds_debt_mark0_debt (a0 : Int32) (M : Mem) (Q : Mem → Prop) : Prop :=
  (∃ n290, w_Jarr_fill_deeds_debt_L5_mark0_debt a0 6 (fun M289 => Q M289) Q n290 0 M)
set_option maxHeartbeats 4000000 in
theorem t_Jarr_fill_deeds_debt_mark0_debt {X : Cx} (hX : Cok X cJ7_fill_53178 RJ7 4 none 1 0 0) {Q : Mem → Prop} (hq : RV X 0 0 Ly_81 Q) {M : Mem} {a0 : Int32} (h : w_Jarr_fill_deeds_debt_mark0_debt a0 M Q) : Wat X 0 0 Ly_81 0 [some (vr c_mark0_debt), some (vi a0), none, none] [] M := by
  refine s_iconst (v := 0) hX dJ7_fill_53178_0 rfl ?_
  refine s_istore_n (lv' := [some (vr c_mark0_debt), some (vi a0), some (vi 0), none]) hX dJ7_fill_53178_1 rfl rfl (Nat.le_of_ble_eq_true rfl) ?_
  refine s_aload_n hX dJ7_fill_53178_2 rfl ?_
  refine s_alen (v := 6) hX lymark0_debt_c_mark0_debt (by decide) rfl dJ7_fill_53178_3 ?_
  refine s_istore_n (lv' := [some (vr c_mark0_debt), some (vi a0), some (vi 0), some (vi 6)]) hX dJ7_fill_53178_4 rfl rfl (Nat.le_of_ble_eq_true rfl) ?_
  obtain ⟨n290, h⟩ := h
  refine t_Jarr_fill_deeds_debt_L5_mark0_debt hX hq ?_ n290 _ _ h
  intro M289 h
  exact s_vret hX hq rfl dJ7_fill_53178_20 h
theorem c_Jarr_fill_deeds_debt_mark0_debt {a0 : Int32} {M : Mem} {Q : Mem → Prop} (h : w_Jarr_fill_deeds_debt_mark0_debt a0 M Q) : CV yJ7_fill_53178 cJ7_fill_53178 4 none 1 0 0 Ly_81 Ly_81 [vr c_mark0_debt, vi a0] M Q := mk_v rfl wd_co_J7_fill_53178 rfl rfl (Nat.le_of_ble_eq_true rfl) (fun X hX hq => t_Jarr_fill_deeds_debt_mark0_debt hX hq h)
def v_mark0 (M : Mem) (Q : Mem → Prop) : Prop := w_Jarr_fill_deeds_debt_mark0_debt (-1) M (fun M1 => Q M1)
set_option maxHeartbeats 1000000 in
theorem n_mark0 {M : Mem} {Q : Mem → Prop} (hz : Z0 36 M) (h : v_mark0 M Q) : CNE yX1_init cX1_init 1 2 2 126 Ly_77 Ly_81 [vr c_mark0] M Q := mk_ne (lv0 := [some (vr c_mark0)]) (by decide +kernel) rfl rfl rfl (Nat.le_of_ble_eq_true rfl) (fun X ad0 hX hT hq => by
  refine s_aload_n hX dX1_init_0 rfl ?_
  refine s_obj hX (tb_m2 84 rfl rfl) wd_im_objectInit wd_co_objectInit rfl (Nat.le_of_ble_eq_true rfl) (Nat.le_of_ble_eq_true rfl) dX1_init_1 ?_
  refine s_aload_n hX dX1_init_4 rfl ?_
  refine s_bipush (v := nI 120) hX dX1_init_5 rfl ?_
  refine s_nwi (n := 120) (L' := Ly_78) hX (hz.mono (Nat.le_of_ble_eq_true rfl)) rfl (by decide) rfl rfl rfl (Nat.le_of_ble_eq_true rfl) (Nat.le_of_ble_eq_true rfl) dX1_init_7 rfl (fun X1 hE => ?_)
  replace hT := hT.go hE (Nat.le_of_ble_eq_true rfl)
  replace hq := hq.go hE (Nat.le_of_ble_eq_true rfl) (Nat.le_of_ble_eq_true rfl)
  replace hX := hX.go hE
  clear hE
  refine s_putF (L' := Ly_79) hX hq.ni (show FI RX1 9 1 0 RX1 TX1 3 from ⟨rfl, by decide, fw_X1, wd_fl_X1_9⟩) fp_X1 rfl rfl rfl (fun _ => ⟨rfl, rfl⟩) (f := .inr none) rfl rfl rfl dX1_init_9 ?_
  refine s_aload_n hX dX1_init_12 rfl ?_
  refine s_bipush (v := nI 6) hX dX1_init_13 rfl ?_
  refine s_nwi (n := 6) (L' := Ly_80) hX (hz.mono (Nat.le_of_ble_eq_true rfl)) rfl (by decide) rfl rfl rfl (Nat.le_of_ble_eq_true rfl) (Nat.le_of_ble_eq_true rfl) dX1_init_15 rfl (fun X1 hE => ?_)
  replace hT := hT.go hE (Nat.le_of_ble_eq_true rfl)
  replace hq := hq.go hE (Nat.le_of_ble_eq_true rfl) (Nat.le_of_ble_eq_true rfl)
  replace hX := hX.go hE
  clear hE
  refine s_putF (L' := Ly_81) hX hq.ni (show FI RX1 15 1 2 RX1 TX1 3 from ⟨rfl, by decide, fw_X1, wd_fl_X1_15⟩) fp_X1 rfl rfl rfl (fun _ => ⟨rfl, rfl⟩) (f := .inr none) rfl rfl rfl dX1_init_17 ?_
  refine s_aload_n hX dX1_init_20 rfl ?_
  refine s_getr hX (show FI RX1 15 1 2 RX1 TX1 3 from ⟨rfl, by decide, fw_X1, wd_fl_X1_15⟩) (r := c_mark0_debt) (fs := [.inr (some c_mark0_times), .inl true, .inr (some c_mark0_debt)]) rfl rfl dX1_init_21 ?_
  refine s_iconst (v := (-1)) hX dX1_init_24 rfl ?_
  refine s_csv (as := [vr c_mark0_debt, vi (-1)]) (rest := []) hX (c_Jarr_fill_deeds_debt_mark0_debt h) ms_Jarr_fill wd_ml_X1_18 dX1_init_25 rfl (Nat.le_of_ble_eq_true rfl) rfl (by decide) ⟨Nat.le_of_ble_eq_true rfl, Nat.le_of_ble_eq_true rfl⟩ (fun M1 h => ?_)
  exact s_vretn hX hq rfl dX1_init_28 h)
def Ly_82 : List DS := lay 38 [(c_xx, .inl (11, [.inr (some c_tape), .inr (some c_land), .inr (some c_draft), .inr (some c_reader), .inr (some c_deeds), .inr (some c_marks), .inl true, .inr none, .inr none, .inr none, .inr none, .inr none])), (c_marks, .inr (4, 4, [some c_mark0, none, none, none]))]
def Ly_83 : List DS := lay 39 [(c_xx, .inl (11, [.inr (some c_tape), .inr (some c_land), .inr (some c_draft), .inr (some c_reader), .inr (some c_deeds), .inr (some c_marks), .inl true, .inr none, .inr none, .inr none, .inr none, .inr none])), (c_marks, .inr (4, 4, [some c_mark0, none, none, none])), (c_mark1, .inl (1, [.inr none, .inl true, .inr none]))]
def Ly_84 : List DS := lay 40 [(c_xx, .inl (11, [.inr (some c_tape), .inr (some c_land), .inr (some c_draft), .inr (some c_reader), .inr (some c_deeds), .inr (some c_marks), .inl true, .inr none, .inr none, .inr none, .inr none, .inr none])), (c_marks, .inr (4, 4, [some c_mark0, none, none, none])), (c_mark1, .inl (1, [.inr none, .inl true, .inr none]))]
def Ly_85 : List DS := lay 40 [(c_xx, .inl (11, [.inr (some c_tape), .inr (some c_land), .inr (some c_draft), .inr (some c_reader), .inr (some c_deeds), .inr (some c_marks), .inl true, .inr none, .inr none, .inr none, .inr none, .inr none])), (c_marks, .inr (4, 4, [some c_mark0, none, none, none])), (c_mark1, .inl (1, [.inr (some c_mark1_times), .inl true, .inr none]))]
def Ly_86 : List DS := lay 41 [(c_xx, .inl (11, [.inr (some c_tape), .inr (some c_land), .inr (some c_draft), .inr (some c_reader), .inr (some c_deeds), .inr (some c_marks), .inl true, .inr none, .inr none, .inr none, .inr none, .inr none])), (c_marks, .inr (4, 4, [some c_mark0, none, none, none])), (c_mark1, .inl (1, [.inr (some c_mark1_times), .inl true, .inr none]))]
def Ly_87 : List DS := lay 41 [(c_xx, .inl (11, [.inr (some c_tape), .inr (some c_land), .inr (some c_draft), .inr (some c_reader), .inr (some c_deeds), .inr (some c_marks), .inl true, .inr none, .inr none, .inr none, .inr none, .inr none])), (c_marks, .inr (4, 4, [some c_mark0, none, none, none]))]
theorem lymark1_debt_c_mark1_debt : Ly_87[c_mark1_debt]? = some (.inr (0, 6, [])) := rfl
def w_Jarr_fill_deeds_debt_L5_mark1_debt (l1 : Int32) (l3 : Int32) (K : Mem → Prop) (Q : Mem → Prop) : Nat → Int32 → Mem → Prop
  | 0, _, _ => False
  | n + 1, l2, M => ((l3 ≤ l2 → K M) ∧ (¬ l3 ≤ l2 → (vp_in l2 6 ∧ w_Jarr_fill_deeds_debt_L5_mark1_debt l1 l3 K Q n (l2 + 1) (si M c_mark1_debt (Int32.toNatClampNeg l2) l1))))
set_option maxHeartbeats 4000000 in
theorem t_Jarr_fill_deeds_debt_L5_mark1_debt {X : Cx} (hX : Cok X cJ7_fill_53178 RJ7 4 none 1 0 0) {Q : Mem → Prop} (hq : RV X 0 0 Ly_87 Q) {l1 : Int32} {l3 : Int32} {K : Mem → Prop} (hK : ∀ (M : Mem), K M → Wat X 0 0 Ly_87 20 [none, none, none, none] [] M) : ∀ (n : Nat) (l2 : Int32) (M : Mem), w_Jarr_fill_deeds_debt_L5_mark1_debt l1 l3 K Q n l2 M → Wat X 0 0 Ly_87 5 [some (vr c_mark1_debt), some (vi l1), some (vi l2), some (vi l3)] [] M := by
  intro n
  induction n with
  | zero => intro _ _ h; exact h.elim
  | succ n ih =>
    intro l2 M h
    refine s_iload_n hX dJ7_fill_53178_5 rfl ?_
    refine s_iload_n hX dJ7_fill_53178_6 rfl ?_
    refine s_icmp_ge (tgt := 20) hX dJ7_fill_53178_7 (by decide) (fun c => ?_) (fun c => ?_)
    · replace h := h.1 c
      refine s_mask [false, false, false, false] (lv' := [none, none, none, none]) rfl rfl ?_
      exact hK _ h
    · replace h := h.2 c
      refine s_aload_n hX dJ7_fill_53178_10 rfl ?_
      refine s_iload_n hX dJ7_fill_53178_11 rfl ?_
      refine s_iload_n hX dJ7_fill_53178_12 rfl ?_
      have hi := h.1
      replace h := h.2
      refine s_iast hX lymark1_debt_c_mark1_debt hi dJ7_fill_53178_13 ?_
      refine s_iinc (v := (l2 + 1)) (lv' := [some (vr c_mark1_debt), some (vi l1), some (vi (l2 + 1)), some (vi l3)]) hX dJ7_fill_53178_14 rfl rfl rfl rfl ?_
      refine s_goto (tgt := 5) hX dJ7_fill_53178_17 (by decide) ?_
      exact ih _ _ h
def w_Jarr_fill_deeds_debt_mark1_debt (a0 : Int32) (M : Mem) (Q : Mem → Prop) : Prop :=
  (∃ n290, w_Jarr_fill_deeds_debt_L5_mark1_debt a0 6 (fun M289 => Q M289) Q n290 0 M)
set_option maxHeartbeats 4000000 in
theorem t_Jarr_fill_deeds_debt_mark1_debt {X : Cx} (hX : Cok X cJ7_fill_53178 RJ7 4 none 1 0 0) {Q : Mem → Prop} (hq : RV X 0 0 Ly_87 Q) {M : Mem} {a0 : Int32} (h : w_Jarr_fill_deeds_debt_mark1_debt a0 M Q) : Wat X 0 0 Ly_87 0 [some (vr c_mark1_debt), some (vi a0), none, none] [] M := by
  refine s_iconst (v := 0) hX dJ7_fill_53178_0 rfl ?_
  refine s_istore_n (lv' := [some (vr c_mark1_debt), some (vi a0), some (vi 0), none]) hX dJ7_fill_53178_1 rfl rfl (Nat.le_of_ble_eq_true rfl) ?_
  refine s_aload_n hX dJ7_fill_53178_2 rfl ?_
  refine s_alen (v := 6) hX lymark1_debt_c_mark1_debt (by decide) rfl dJ7_fill_53178_3 ?_
  refine s_istore_n (lv' := [some (vr c_mark1_debt), some (vi a0), some (vi 0), some (vi 6)]) hX dJ7_fill_53178_4 rfl rfl (Nat.le_of_ble_eq_true rfl) ?_
  obtain ⟨n290, h⟩ := h
  refine t_Jarr_fill_deeds_debt_L5_mark1_debt hX hq ?_ n290 _ _ h
  intro M289 h
  exact s_vret hX hq rfl dJ7_fill_53178_20 h
theorem c_Jarr_fill_deeds_debt_mark1_debt {a0 : Int32} {M : Mem} {Q : Mem → Prop} (h : w_Jarr_fill_deeds_debt_mark1_debt a0 M Q) : CV yJ7_fill_53178 cJ7_fill_53178 4 none 1 0 0 Ly_87 Ly_87 [vr c_mark1_debt, vi a0] M Q := mk_v rfl wd_co_J7_fill_53178 rfl rfl (Nat.le_of_ble_eq_true rfl) (fun X hX hq => t_Jarr_fill_deeds_debt_mark1_debt hX hq h)
def v_mark1 (M : Mem) (Q : Mem → Prop) : Prop := w_Jarr_fill_deeds_debt_mark1_debt (-1) M (fun M1 => Q M1)
set_option maxHeartbeats 1000000 in
theorem n_mark1 {M : Mem} {Q : Mem → Prop} (hz : Z0 39 M) (h : v_mark1 M Q) : CNE yX1_init cX1_init 1 2 2 126 Ly_83 Ly_87 [vr c_mark1] M Q := mk_ne (lv0 := [some (vr c_mark1)]) (by decide +kernel) rfl rfl rfl (Nat.le_of_ble_eq_true rfl) (fun X ad0 hX hT hq => by
  refine s_aload_n hX dX1_init_0 rfl ?_
  refine s_obj hX (tb_m2 84 rfl rfl) wd_im_objectInit wd_co_objectInit rfl (Nat.le_of_ble_eq_true rfl) (Nat.le_of_ble_eq_true rfl) dX1_init_1 ?_
  refine s_aload_n hX dX1_init_4 rfl ?_
  refine s_bipush (v := nI 120) hX dX1_init_5 rfl ?_
  refine s_nwi (n := 120) (L' := Ly_84) hX (hz.mono (Nat.le_of_ble_eq_true rfl)) rfl (by decide) rfl rfl rfl (Nat.le_of_ble_eq_true rfl) (Nat.le_of_ble_eq_true rfl) dX1_init_7 rfl (fun X1 hE => ?_)
  replace hT := hT.go hE (Nat.le_of_ble_eq_true rfl)
  replace hq := hq.go hE (Nat.le_of_ble_eq_true rfl) (Nat.le_of_ble_eq_true rfl)
  replace hX := hX.go hE
  clear hE
  refine s_putF (L' := Ly_85) hX hq.ni (show FI RX1 9 1 0 RX1 TX1 3 from ⟨rfl, by decide, fw_X1, wd_fl_X1_9⟩) fp_X1 rfl rfl rfl (fun _ => ⟨rfl, rfl⟩) (f := .inr none) rfl rfl rfl dX1_init_9 ?_
  refine s_aload_n hX dX1_init_12 rfl ?_
  refine s_bipush (v := nI 6) hX dX1_init_13 rfl ?_
  refine s_nwi (n := 6) (L' := Ly_86) hX (hz.mono (Nat.le_of_ble_eq_true rfl)) rfl (by decide) rfl rfl rfl (Nat.le_of_ble_eq_true rfl) (Nat.le_of_ble_eq_true rfl) dX1_init_15 rfl (fun X1 hE => ?_)
  replace hT := hT.go hE (Nat.le_of_ble_eq_true rfl)
  replace hq := hq.go hE (Nat.le_of_ble_eq_true rfl) (Nat.le_of_ble_eq_true rfl)
  replace hX := hX.go hE
  clear hE
  refine s_putF (L' := Ly_87) hX hq.ni (show FI RX1 15 1 2 RX1 TX1 3 from ⟨rfl, by decide, fw_X1, wd_fl_X1_15⟩) fp_X1 rfl rfl rfl (fun _ => ⟨rfl, rfl⟩) (f := .inr none) rfl rfl rfl dX1_init_17 ?_
  refine s_aload_n hX dX1_init_20 rfl ?_
  refine s_getr hX (show FI RX1 15 1 2 RX1 TX1 3 from ⟨rfl, by decide, fw_X1, wd_fl_X1_15⟩) (r := c_mark1_debt) (fs := [.inr (some c_mark1_times), .inl true, .inr (some c_mark1_debt)]) rfl rfl dX1_init_21 ?_
  refine s_iconst (v := (-1)) hX dX1_init_24 rfl ?_
  refine s_csv (as := [vr c_mark1_debt, vi (-1)]) (rest := []) hX (c_Jarr_fill_deeds_debt_mark1_debt h) ms_Jarr_fill wd_ml_X1_18 dX1_init_25 rfl (Nat.le_of_ble_eq_true rfl) rfl (by decide) ⟨Nat.le_of_ble_eq_true rfl, Nat.le_of_ble_eq_true rfl⟩ (fun M1 h => ?_)
  exact s_vretn hX hq rfl dX1_init_28 h)
def Ly_88 : List DS := lay 41 [(c_xx, .inl (11, [.inr (some c_tape), .inr (some c_land), .inr (some c_draft), .inr (some c_reader), .inr (some c_deeds), .inr (some c_marks), .inl true, .inr none, .inr none, .inr none, .inr none, .inr none])), (c_marks, .inr (4, 4, [some c_mark0, some c_mark1, none, none]))]
def Ly_89 : List DS := lay 42 [(c_xx, .inl (11, [.inr (some c_tape), .inr (some c_land), .inr (some c_draft), .inr (some c_reader), .inr (some c_deeds), .inr (some c_marks), .inl true, .inr none, .inr none, .inr none, .inr none, .inr none])), (c_marks, .inr (4, 4, [some c_mark0, some c_mark1, none, none])), (c_mark2, .inl (1, [.inr none, .inl true, .inr none]))]
def Ly_90 : List DS := lay 43 [(c_xx, .inl (11, [.inr (some c_tape), .inr (some c_land), .inr (some c_draft), .inr (some c_reader), .inr (some c_deeds), .inr (some c_marks), .inl true, .inr none, .inr none, .inr none, .inr none, .inr none])), (c_marks, .inr (4, 4, [some c_mark0, some c_mark1, none, none])), (c_mark2, .inl (1, [.inr none, .inl true, .inr none]))]
def Ly_91 : List DS := lay 43 [(c_xx, .inl (11, [.inr (some c_tape), .inr (some c_land), .inr (some c_draft), .inr (some c_reader), .inr (some c_deeds), .inr (some c_marks), .inl true, .inr none, .inr none, .inr none, .inr none, .inr none])), (c_marks, .inr (4, 4, [some c_mark0, some c_mark1, none, none])), (c_mark2, .inl (1, [.inr (some c_mark2_times), .inl true, .inr none]))]
def Ly_92 : List DS := lay 44 [(c_xx, .inl (11, [.inr (some c_tape), .inr (some c_land), .inr (some c_draft), .inr (some c_reader), .inr (some c_deeds), .inr (some c_marks), .inl true, .inr none, .inr none, .inr none, .inr none, .inr none])), (c_marks, .inr (4, 4, [some c_mark0, some c_mark1, none, none])), (c_mark2, .inl (1, [.inr (some c_mark2_times), .inl true, .inr none]))]
def Ly_93 : List DS := lay 44 [(c_xx, .inl (11, [.inr (some c_tape), .inr (some c_land), .inr (some c_draft), .inr (some c_reader), .inr (some c_deeds), .inr (some c_marks), .inl true, .inr none, .inr none, .inr none, .inr none, .inr none])), (c_marks, .inr (4, 4, [some c_mark0, some c_mark1, none, none]))]
theorem lymark2_debt_c_mark2_debt : Ly_93[c_mark2_debt]? = some (.inr (0, 6, [])) := rfl
def w_Jarr_fill_deeds_debt_L5_mark2_debt (l1 : Int32) (l3 : Int32) (K : Mem → Prop) (Q : Mem → Prop) : Nat → Int32 → Mem → Prop
  | 0, _, _ => False
  | n + 1, l2, M => ((l3 ≤ l2 → K M) ∧ (¬ l3 ≤ l2 → (vp_in l2 6 ∧ w_Jarr_fill_deeds_debt_L5_mark2_debt l1 l3 K Q n (l2 + 1) (si M c_mark2_debt (Int32.toNatClampNeg l2) l1))))
set_option maxHeartbeats 4000000 in
theorem t_Jarr_fill_deeds_debt_L5_mark2_debt {X : Cx} (hX : Cok X cJ7_fill_53178 RJ7 4 none 1 0 0) {Q : Mem → Prop} (hq : RV X 0 0 Ly_93 Q) {l1 : Int32} {l3 : Int32} {K : Mem → Prop} (hK : ∀ (M : Mem), K M → Wat X 0 0 Ly_93 20 [none, none, none, none] [] M) : ∀ (n : Nat) (l2 : Int32) (M : Mem), w_Jarr_fill_deeds_debt_L5_mark2_debt l1 l3 K Q n l2 M → Wat X 0 0 Ly_93 5 [some (vr c_mark2_debt), some (vi l1), some (vi l2), some (vi l3)] [] M := by
  intro n
  induction n with
  | zero => intro _ _ h; exact h.elim
  | succ n ih =>
    intro l2 M h
    refine s_iload_n hX dJ7_fill_53178_5 rfl ?_
    refine s_iload_n hX dJ7_fill_53178_6 rfl ?_
    refine s_icmp_ge (tgt := 20) hX dJ7_fill_53178_7 (by decide) (fun c => ?_) (fun c => ?_)
    · replace h := h.1 c
      refine s_mask [false, false, false, false] (lv' := [none, none, none, none]) rfl rfl ?_
      exact hK _ h
    · replace h := h.2 c
      refine s_aload_n hX dJ7_fill_53178_10 rfl ?_
      refine s_iload_n hX dJ7_fill_53178_11 rfl ?_
      refine s_iload_n hX dJ7_fill_53178_12 rfl ?_
      have hi := h.1
      replace h := h.2
      refine s_iast hX lymark2_debt_c_mark2_debt hi dJ7_fill_53178_13 ?_
      refine s_iinc (v := (l2 + 1)) (lv' := [some (vr c_mark2_debt), some (vi l1), some (vi (l2 + 1)), some (vi l3)]) hX dJ7_fill_53178_14 rfl rfl rfl rfl ?_
      refine s_goto (tgt := 5) hX dJ7_fill_53178_17 (by decide) ?_
      exact ih _ _ h
def w_Jarr_fill_deeds_debt_mark2_debt (a0 : Int32) (M : Mem) (Q : Mem → Prop) : Prop :=
  (∃ n290, w_Jarr_fill_deeds_debt_L5_mark2_debt a0 6 (fun M289 => Q M289) Q n290 0 M)
set_option maxHeartbeats 4000000 in
theorem t_Jarr_fill_deeds_debt_mark2_debt {X : Cx} (hX : Cok X cJ7_fill_53178 RJ7 4 none 1 0 0) {Q : Mem → Prop} (hq : RV X 0 0 Ly_93 Q) {M : Mem} {a0 : Int32} (h : w_Jarr_fill_deeds_debt_mark2_debt a0 M Q) : Wat X 0 0 Ly_93 0 [some (vr c_mark2_debt), some (vi a0), none, none] [] M := by
  refine s_iconst (v := 0) hX dJ7_fill_53178_0 rfl ?_
  refine s_istore_n (lv' := [some (vr c_mark2_debt), some (vi a0), some (vi 0), none]) hX dJ7_fill_53178_1 rfl rfl (Nat.le_of_ble_eq_true rfl) ?_
  refine s_aload_n hX dJ7_fill_53178_2 rfl ?_
  refine s_alen (v := 6) hX lymark2_debt_c_mark2_debt (by decide) rfl dJ7_fill_53178_3 ?_
  refine s_istore_n (lv' := [some (vr c_mark2_debt), some (vi a0), some (vi 0), some (vi 6)]) hX dJ7_fill_53178_4 rfl rfl (Nat.le_of_ble_eq_true rfl) ?_
  obtain ⟨n290, h⟩ := h
  refine t_Jarr_fill_deeds_debt_L5_mark2_debt hX hq ?_ n290 _ _ h
  intro M289 h
  exact s_vret hX hq rfl dJ7_fill_53178_20 h
theorem c_Jarr_fill_deeds_debt_mark2_debt {a0 : Int32} {M : Mem} {Q : Mem → Prop} (h : w_Jarr_fill_deeds_debt_mark2_debt a0 M Q) : CV yJ7_fill_53178 cJ7_fill_53178 4 none 1 0 0 Ly_93 Ly_93 [vr c_mark2_debt, vi a0] M Q := mk_v rfl wd_co_J7_fill_53178 rfl rfl (Nat.le_of_ble_eq_true rfl) (fun X hX hq => t_Jarr_fill_deeds_debt_mark2_debt hX hq h)
def v_mark2 (M : Mem) (Q : Mem → Prop) : Prop := w_Jarr_fill_deeds_debt_mark2_debt (-1) M (fun M1 => Q M1)
set_option maxHeartbeats 1000000 in
theorem n_mark2 {M : Mem} {Q : Mem → Prop} (hz : Z0 42 M) (h : v_mark2 M Q) : CNE yX1_init cX1_init 1 2 2 126 Ly_89 Ly_93 [vr c_mark2] M Q := mk_ne (lv0 := [some (vr c_mark2)]) (by decide +kernel) rfl rfl rfl (Nat.le_of_ble_eq_true rfl) (fun X ad0 hX hT hq => by
  refine s_aload_n hX dX1_init_0 rfl ?_
  refine s_obj hX (tb_m2 84 rfl rfl) wd_im_objectInit wd_co_objectInit rfl (Nat.le_of_ble_eq_true rfl) (Nat.le_of_ble_eq_true rfl) dX1_init_1 ?_
  refine s_aload_n hX dX1_init_4 rfl ?_
  refine s_bipush (v := nI 120) hX dX1_init_5 rfl ?_
  refine s_nwi (n := 120) (L' := Ly_90) hX (hz.mono (Nat.le_of_ble_eq_true rfl)) rfl (by decide) rfl rfl rfl (Nat.le_of_ble_eq_true rfl) (Nat.le_of_ble_eq_true rfl) dX1_init_7 rfl (fun X1 hE => ?_)
  replace hT := hT.go hE (Nat.le_of_ble_eq_true rfl)
  replace hq := hq.go hE (Nat.le_of_ble_eq_true rfl) (Nat.le_of_ble_eq_true rfl)
  replace hX := hX.go hE
  clear hE
  refine s_putF (L' := Ly_91) hX hq.ni (show FI RX1 9 1 0 RX1 TX1 3 from ⟨rfl, by decide, fw_X1, wd_fl_X1_9⟩) fp_X1 rfl rfl rfl (fun _ => ⟨rfl, rfl⟩) (f := .inr none) rfl rfl rfl dX1_init_9 ?_
  refine s_aload_n hX dX1_init_12 rfl ?_
  refine s_bipush (v := nI 6) hX dX1_init_13 rfl ?_
  refine s_nwi (n := 6) (L' := Ly_92) hX (hz.mono (Nat.le_of_ble_eq_true rfl)) rfl (by decide) rfl rfl rfl (Nat.le_of_ble_eq_true rfl) (Nat.le_of_ble_eq_true rfl) dX1_init_15 rfl (fun X1 hE => ?_)
  replace hT := hT.go hE (Nat.le_of_ble_eq_true rfl)
  replace hq := hq.go hE (Nat.le_of_ble_eq_true rfl) (Nat.le_of_ble_eq_true rfl)
  replace hX := hX.go hE
  clear hE
  refine s_putF (L' := Ly_93) hX hq.ni (show FI RX1 15 1 2 RX1 TX1 3 from ⟨rfl, by decide, fw_X1, wd_fl_X1_15⟩) fp_X1 rfl rfl rfl (fun _ => ⟨rfl, rfl⟩) (f := .inr none) rfl rfl rfl dX1_init_17 ?_
  refine s_aload_n hX dX1_init_20 rfl ?_
  refine s_getr hX (show FI RX1 15 1 2 RX1 TX1 3 from ⟨rfl, by decide, fw_X1, wd_fl_X1_15⟩) (r := c_mark2_debt) (fs := [.inr (some c_mark2_times), .inl true, .inr (some c_mark2_debt)]) rfl rfl dX1_init_21 ?_
  refine s_iconst (v := (-1)) hX dX1_init_24 rfl ?_
  refine s_csv (as := [vr c_mark2_debt, vi (-1)]) (rest := []) hX (c_Jarr_fill_deeds_debt_mark2_debt h) ms_Jarr_fill wd_ml_X1_18 dX1_init_25 rfl (Nat.le_of_ble_eq_true rfl) rfl (by decide) ⟨Nat.le_of_ble_eq_true rfl, Nat.le_of_ble_eq_true rfl⟩ (fun M1 h => ?_)
  exact s_vretn hX hq rfl dX1_init_28 h)
def Ly_94 : List DS := lay 44 [(c_xx, .inl (11, [.inr (some c_tape), .inr (some c_land), .inr (some c_draft), .inr (some c_reader), .inr (some c_deeds), .inr (some c_marks), .inl true, .inr none, .inr none, .inr none, .inr none, .inr none])), (c_marks, .inr (4, 4, [some c_mark0, some c_mark1, some c_mark2, none]))]
def Ly_95 : List DS := lay 45 [(c_xx, .inl (11, [.inr (some c_tape), .inr (some c_land), .inr (some c_draft), .inr (some c_reader), .inr (some c_deeds), .inr (some c_marks), .inl true, .inr none, .inr none, .inr none, .inr none, .inr none])), (c_marks, .inr (4, 4, [some c_mark0, some c_mark1, some c_mark2, none])), (c_mark3, .inl (1, [.inr none, .inl true, .inr none]))]
def Ly_96 : List DS := lay 46 [(c_xx, .inl (11, [.inr (some c_tape), .inr (some c_land), .inr (some c_draft), .inr (some c_reader), .inr (some c_deeds), .inr (some c_marks), .inl true, .inr none, .inr none, .inr none, .inr none, .inr none])), (c_marks, .inr (4, 4, [some c_mark0, some c_mark1, some c_mark2, none])), (c_mark3, .inl (1, [.inr none, .inl true, .inr none]))]
def Ly_97 : List DS := lay 46 [(c_xx, .inl (11, [.inr (some c_tape), .inr (some c_land), .inr (some c_draft), .inr (some c_reader), .inr (some c_deeds), .inr (some c_marks), .inl true, .inr none, .inr none, .inr none, .inr none, .inr none])), (c_marks, .inr (4, 4, [some c_mark0, some c_mark1, some c_mark2, none])), (c_mark3, .inl (1, [.inr (some c_mark3_times), .inl true, .inr none]))]
def Ly_98 : List DS := lay 47 [(c_xx, .inl (11, [.inr (some c_tape), .inr (some c_land), .inr (some c_draft), .inr (some c_reader), .inr (some c_deeds), .inr (some c_marks), .inl true, .inr none, .inr none, .inr none, .inr none, .inr none])), (c_marks, .inr (4, 4, [some c_mark0, some c_mark1, some c_mark2, none])), (c_mark3, .inl (1, [.inr (some c_mark3_times), .inl true, .inr none]))]
def Ly_99 : List DS := lay 47 [(c_xx, .inl (11, [.inr (some c_tape), .inr (some c_land), .inr (some c_draft), .inr (some c_reader), .inr (some c_deeds), .inr (some c_marks), .inl true, .inr none, .inr none, .inr none, .inr none, .inr none])), (c_marks, .inr (4, 4, [some c_mark0, some c_mark1, some c_mark2, none]))]
theorem lymark3_debt_c_mark3_debt : Ly_99[c_mark3_debt]? = some (.inr (0, 6, [])) := rfl
def w_Jarr_fill_deeds_debt_L5_mark3_debt (l1 : Int32) (l3 : Int32) (K : Mem → Prop) (Q : Mem → Prop) : Nat → Int32 → Mem → Prop
  | 0, _, _ => False
  | n + 1, l2, M => ((l3 ≤ l2 → K M) ∧ (¬ l3 ≤ l2 → (vp_in l2 6 ∧ w_Jarr_fill_deeds_debt_L5_mark3_debt l1 l3 K Q n (l2 + 1) (si M c_mark3_debt (Int32.toNatClampNeg l2) l1))))
set_option maxHeartbeats 4000000 in
theorem t_Jarr_fill_deeds_debt_L5_mark3_debt {X : Cx} (hX : Cok X cJ7_fill_53178 RJ7 4 none 1 0 0) {Q : Mem → Prop} (hq : RV X 0 0 Ly_99 Q) {l1 : Int32} {l3 : Int32} {K : Mem → Prop} (hK : ∀ (M : Mem), K M → Wat X 0 0 Ly_99 20 [none, none, none, none] [] M) : ∀ (n : Nat) (l2 : Int32) (M : Mem), w_Jarr_fill_deeds_debt_L5_mark3_debt l1 l3 K Q n l2 M → Wat X 0 0 Ly_99 5 [some (vr c_mark3_debt), some (vi l1), some (vi l2), some (vi l3)] [] M := by
  intro n
  induction n with
  | zero => intro _ _ h; exact h.elim
  | succ n ih =>
    intro l2 M h
    refine s_iload_n hX dJ7_fill_53178_5 rfl ?_
    refine s_iload_n hX dJ7_fill_53178_6 rfl ?_
    refine s_icmp_ge (tgt := 20) hX dJ7_fill_53178_7 (by decide) (fun c => ?_) (fun c => ?_)
    · replace h := h.1 c
      refine s_mask [false, false, false, false] (lv' := [none, none, none, none]) rfl rfl ?_
      exact hK _ h
    · replace h := h.2 c
      refine s_aload_n hX dJ7_fill_53178_10 rfl ?_
      refine s_iload_n hX dJ7_fill_53178_11 rfl ?_
      refine s_iload_n hX dJ7_fill_53178_12 rfl ?_
      have hi := h.1
      replace h := h.2
      refine s_iast hX lymark3_debt_c_mark3_debt hi dJ7_fill_53178_13 ?_
      refine s_iinc (v := (l2 + 1)) (lv' := [some (vr c_mark3_debt), some (vi l1), some (vi (l2 + 1)), some (vi l3)]) hX dJ7_fill_53178_14 rfl rfl rfl rfl ?_
      refine s_goto (tgt := 5) hX dJ7_fill_53178_17 (by decide) ?_
      exact ih _ _ h
def w_Jarr_fill_deeds_debt_mark3_debt (a0 : Int32) (M : Mem) (Q : Mem → Prop) : Prop :=
  (∃ n290, w_Jarr_fill_deeds_debt_L5_mark3_debt a0 6 (fun M289 => Q M289) Q n290 0 M)
set_option maxHeartbeats 4000000 in
theorem t_Jarr_fill_deeds_debt_mark3_debt {X : Cx} (hX : Cok X cJ7_fill_53178 RJ7 4 none 1 0 0) {Q : Mem → Prop} (hq : RV X 0 0 Ly_99 Q) {M : Mem} {a0 : Int32} (h : w_Jarr_fill_deeds_debt_mark3_debt a0 M Q) : Wat X 0 0 Ly_99 0 [some (vr c_mark3_debt), some (vi a0), none, none] [] M := by
  refine s_iconst (v := 0) hX dJ7_fill_53178_0 rfl ?_
  refine s_istore_n (lv' := [some (vr c_mark3_debt), some (vi a0), some (vi 0), none]) hX dJ7_fill_53178_1 rfl rfl (Nat.le_of_ble_eq_true rfl) ?_
  refine s_aload_n hX dJ7_fill_53178_2 rfl ?_
  refine s_alen (v := 6) hX lymark3_debt_c_mark3_debt (by decide) rfl dJ7_fill_53178_3 ?_
  refine s_istore_n (lv' := [some (vr c_mark3_debt), some (vi a0), some (vi 0), some (vi 6)]) hX dJ7_fill_53178_4 rfl rfl (Nat.le_of_ble_eq_true rfl) ?_
  obtain ⟨n290, h⟩ := h
  refine t_Jarr_fill_deeds_debt_L5_mark3_debt hX hq ?_ n290 _ _ h
  intro M289 h
  exact s_vret hX hq rfl dJ7_fill_53178_20 h
theorem c_Jarr_fill_deeds_debt_mark3_debt {a0 : Int32} {M : Mem} {Q : Mem → Prop} (h : w_Jarr_fill_deeds_debt_mark3_debt a0 M Q) : CV yJ7_fill_53178 cJ7_fill_53178 4 none 1 0 0 Ly_99 Ly_99 [vr c_mark3_debt, vi a0] M Q := mk_v rfl wd_co_J7_fill_53178 rfl rfl (Nat.le_of_ble_eq_true rfl) (fun X hX hq => t_Jarr_fill_deeds_debt_mark3_debt hX hq h)
def v_mark3 (M : Mem) (Q : Mem → Prop) : Prop := w_Jarr_fill_deeds_debt_mark3_debt (-1) M (fun M1 => Q M1)
set_option maxHeartbeats 1000000 in
theorem n_mark3 {M : Mem} {Q : Mem → Prop} (hz : Z0 45 M) (h : v_mark3 M Q) : CNE yX1_init cX1_init 1 2 2 126 Ly_95 Ly_99 [vr c_mark3] M Q := mk_ne (lv0 := [some (vr c_mark3)]) (by decide +kernel) rfl rfl rfl (Nat.le_of_ble_eq_true rfl) (fun X ad0 hX hT hq => by
  refine s_aload_n hX dX1_init_0 rfl ?_
  refine s_obj hX (tb_m2 84 rfl rfl) wd_im_objectInit wd_co_objectInit rfl (Nat.le_of_ble_eq_true rfl) (Nat.le_of_ble_eq_true rfl) dX1_init_1 ?_
  refine s_aload_n hX dX1_init_4 rfl ?_
  refine s_bipush (v := nI 120) hX dX1_init_5 rfl ?_
  refine s_nwi (n := 120) (L' := Ly_96) hX (hz.mono (Nat.le_of_ble_eq_true rfl)) rfl (by decide) rfl rfl rfl (Nat.le_of_ble_eq_true rfl) (Nat.le_of_ble_eq_true rfl) dX1_init_7 rfl (fun X1 hE => ?_)
  replace hT := hT.go hE (Nat.le_of_ble_eq_true rfl)
  replace hq := hq.go hE (Nat.le_of_ble_eq_true rfl) (Nat.le_of_ble_eq_true rfl)
  replace hX := hX.go hE
  clear hE
  refine s_putF (L' := Ly_97) hX hq.ni (show FI RX1 9 1 0 RX1 TX1 3 from ⟨rfl, by decide, fw_X1, wd_fl_X1_9⟩) fp_X1 rfl rfl rfl (fun _ => ⟨rfl, rfl⟩) (f := .inr none) rfl rfl rfl dX1_init_9 ?_
  refine s_aload_n hX dX1_init_12 rfl ?_
  refine s_bipush (v := nI 6) hX dX1_init_13 rfl ?_
  refine s_nwi (n := 6) (L' := Ly_98) hX (hz.mono (Nat.le_of_ble_eq_true rfl)) rfl (by decide) rfl rfl rfl (Nat.le_of_ble_eq_true rfl) (Nat.le_of_ble_eq_true rfl) dX1_init_15 rfl (fun X1 hE => ?_)
  replace hT := hT.go hE (Nat.le_of_ble_eq_true rfl)
  replace hq := hq.go hE (Nat.le_of_ble_eq_true rfl) (Nat.le_of_ble_eq_true rfl)
  replace hX := hX.go hE
  clear hE
  refine s_putF (L' := Ly_99) hX hq.ni (show FI RX1 15 1 2 RX1 TX1 3 from ⟨rfl, by decide, fw_X1, wd_fl_X1_15⟩) fp_X1 rfl rfl rfl (fun _ => ⟨rfl, rfl⟩) (f := .inr none) rfl rfl rfl dX1_init_17 ?_
  refine s_aload_n hX dX1_init_20 rfl ?_
  refine s_getr hX (show FI RX1 15 1 2 RX1 TX1 3 from ⟨rfl, by decide, fw_X1, wd_fl_X1_15⟩) (r := c_mark3_debt) (fs := [.inr (some c_mark3_times), .inl true, .inr (some c_mark3_debt)]) rfl rfl dX1_init_21 ?_
  refine s_iconst (v := (-1)) hX dX1_init_24 rfl ?_
  refine s_csv (as := [vr c_mark3_debt, vi (-1)]) (rest := []) hX (c_Jarr_fill_deeds_debt_mark3_debt h) ms_Jarr_fill wd_ml_X1_18 dX1_init_25 rfl (Nat.le_of_ble_eq_true rfl) rfl (by decide) ⟨Nat.le_of_ble_eq_true rfl, Nat.le_of_ble_eq_true rfl⟩ (fun M1 h => ?_)
  exact s_vretn hX hq rfl dX1_init_28 h)
def Ly_100 : List DS := lay 47 [(c_xx, .inl (11, [.inr (some c_tape), .inr (some c_land), .inr (some c_draft), .inr (some c_reader), .inr (some c_deeds), .inr (some c_marks), .inl true, .inr none, .inr none, .inr none, .inr none, .inr none]))]
def Ly_101 : List DS := lay 48 [(c_xx, .inl (11, [.inr (some c_tape), .inr (some c_land), .inr (some c_draft), .inr (some c_reader), .inr (some c_deeds), .inr (some c_marks), .inl true, .inr none, .inr none, .inr none, .inr none, .inr none])), (c_history, .inl (3, [.inl true, .inr none, .inr none, .inr none]))]
def Ly_102 : List DS := lay 49 [(c_xx, .inl (11, [.inr (some c_tape), .inr (some c_land), .inr (some c_draft), .inr (some c_reader), .inr (some c_deeds), .inr (some c_marks), .inl true, .inr none, .inr none, .inr none, .inr none, .inr none])), (c_history, .inl (3, [.inl true, .inr none, .inr none, .inr none]))]
def Ly_103 : List DS := lay 49 [(c_xx, .inl (11, [.inr (some c_tape), .inr (some c_land), .inr (some c_draft), .inr (some c_reader), .inr (some c_deeds), .inr (some c_marks), .inl true, .inr none, .inr none, .inr none, .inr none, .inr none])), (c_history, .inl (3, [.inl true, .inr (some c_history_birds), .inr none, .inr none]))]
def Ly_104 : List DS := lay 50 [(c_xx, .inl (11, [.inr (some c_tape), .inr (some c_land), .inr (some c_draft), .inr (some c_reader), .inr (some c_deeds), .inr (some c_marks), .inl true, .inr none, .inr none, .inr none, .inr none, .inr none])), (c_history, .inl (3, [.inl true, .inr (some c_history_birds), .inr none, .inr none]))]
def Ly_105 : List DS := lay 50 [(c_xx, .inl (11, [.inr (some c_tape), .inr (some c_land), .inr (some c_draft), .inr (some c_reader), .inr (some c_deeds), .inr (some c_marks), .inl true, .inr none, .inr none, .inr none, .inr none, .inr none])), (c_history, .inl (3, [.inl true, .inr (some c_history_birds), .inr (some c_history_hours), .inr none]))]
def Ly_106 : List DS := lay 51 [(c_xx, .inl (11, [.inr (some c_tape), .inr (some c_land), .inr (some c_draft), .inr (some c_reader), .inr (some c_deeds), .inr (some c_marks), .inl true, .inr none, .inr none, .inr none, .inr none, .inr none])), (c_history, .inl (3, [.inl true, .inr (some c_history_birds), .inr (some c_history_hours), .inr none]))]
def Ly_107 : List DS := lay 51 [(c_xx, .inl (11, [.inr (some c_tape), .inr (some c_land), .inr (some c_draft), .inr (some c_reader), .inr (some c_deeds), .inr (some c_marks), .inl true, .inr none, .inr none, .inr none, .inr none, .inr none]))]
def v_history (M : Mem) (Q : Mem → Prop) : Prop := Q M
set_option maxHeartbeats 1000000 in
theorem n_history {M : Mem} {Q : Mem → Prop} (hz : Z0 48 M) (h : v_history M Q) : CNE yX3_init cX3_init 1 1 3 60 Ly_101 Ly_107 [vr c_history] M Q := mk_ne (lv0 := [some (vr c_history)]) (by decide +kernel) rfl rfl rfl (Nat.le_of_ble_eq_true rfl) (fun X ad0 hX hT hq => by
  refine s_aload_n hX dX3_init_0 rfl ?_
  refine s_obj hX (tb_m2 112 rfl rfl) wd_im_objectInit wd_co_objectInit rfl (Nat.le_of_ble_eq_true rfl) (Nat.le_of_ble_eq_true rfl) dX3_init_1 ?_
  refine s_aload_n hX dX3_init_4 rfl ?_
  refine s_bipush (v := nI 20) hX dX3_init_5 rfl ?_
  refine s_nwi (n := 20) (L' := Ly_102) hX (hz.mono (Nat.le_of_ble_eq_true rfl)) rfl (by decide) rfl rfl rfl (Nat.le_of_ble_eq_true rfl) (Nat.le_of_ble_eq_true rfl) dX3_init_7 rfl (fun X1 hE => ?_)
  replace hT := hT.go hE (Nat.le_of_ble_eq_true rfl)
  replace hq := hq.go hE (Nat.le_of_ble_eq_true rfl) (Nat.le_of_ble_eq_true rfl)
  replace hX := hX.go hE
  clear hE
  refine s_putF (L' := Ly_103) hX hq.ni (show FI RX3 11 3 1 RX3 TX3 4 from ⟨rfl, by decide, fw_X3, wd_fl_X3_11⟩) fp_X3 rfl rfl rfl (fun _ => ⟨rfl, rfl⟩) (f := .inr none) rfl rfl rfl dX3_init_9 ?_
  refine s_aload_n hX dX3_init_12 rfl ?_
  refine s_bipush (v := nI 20) hX dX3_init_13 rfl ?_
  refine s_nwi (n := 20) (L' := Ly_104) hX (hz.mono (Nat.le_of_ble_eq_true rfl)) rfl (by decide) rfl rfl rfl (Nat.le_of_ble_eq_true rfl) (Nat.le_of_ble_eq_true rfl) dX3_init_15 rfl (fun X1 hE => ?_)
  replace hT := hT.go hE (Nat.le_of_ble_eq_true rfl)
  replace hq := hq.go hE (Nat.le_of_ble_eq_true rfl) (Nat.le_of_ble_eq_true rfl)
  replace hX := hX.go hE
  clear hE
  refine s_putF (L' := Ly_105) hX hq.ni (show FI RX3 15 3 2 RX3 TX3 4 from ⟨rfl, by decide, fw_X3, wd_fl_X3_15⟩) fp_X3 rfl rfl rfl (fun _ => ⟨rfl, rfl⟩) (f := .inr none) rfl rfl rfl dX3_init_17 ?_
  refine s_aload_n hX dX3_init_20 rfl ?_
  refine s_bipush (v := nI 20) hX dX3_init_21 rfl ?_
  refine s_nwi (n := 20) (L' := Ly_106) hX (hz.mono (Nat.le_of_ble_eq_true rfl)) rfl (by decide) rfl rfl rfl (Nat.le_of_ble_eq_true rfl) (Nat.le_of_ble_eq_true rfl) dX3_init_23 rfl (fun X1 hE => ?_)
  replace hT := hT.go hE (Nat.le_of_ble_eq_true rfl)
  replace hq := hq.go hE (Nat.le_of_ble_eq_true rfl) (Nat.le_of_ble_eq_true rfl)
  replace hX := hX.go hE
  clear hE
  refine s_putF (L' := Ly_107) hX hq.ni (show FI RX3 18 3 3 RX3 TX3 4 from ⟨rfl, by decide, fw_X3, wd_fl_X3_18⟩) fp_X3 rfl rfl rfl (fun _ => ⟨rfl, rfl⟩) (f := .inr none) rfl rfl rfl dX3_init_25 ?_
  exact s_vretn hX hq rfl dX3_init_28 h)
theorem mi_X3 : MI yX3_init cX3_init 1 0 := ⟨wd_co_X3_init, wd_im_X3_init, wd_in_X3, rfl, by decide +kernel, by decide⟩
def Ly_108 : List DS := lay 51 [(c_xx, .inl (11, [.inr (some c_tape), .inr (some c_land), .inr (some c_draft), .inr (some c_reader), .inr (some c_deeds), .inr (some c_marks), .inl true, .inr (some c_history), .inr none, .inr none, .inr none, .inr none]))]
def Ly_109 : List DS := lay 52 [(c_xx, .inl (11, [.inr (some c_tape), .inr (some c_land), .inr (some c_draft), .inr (some c_reader), .inr (some c_deeds), .inr (some c_marks), .inl true, .inr (some c_history), .inr none, .inr none, .inr none, .inr none])), (c_debts, .inl (0, [.inr none, .inr none, .inr none, .inr none, .inr none, .inr none, .inr none, .inr none, .inr none]))]
def Ly_110 : List DS := lay 53 [(c_xx, .inl (11, [.inr (some c_tape), .inr (some c_land), .inr (some c_draft), .inr (some c_reader), .inr (some c_deeds), .inr (some c_marks), .inl true, .inr (some c_history), .inr none, .inr none, .inr none, .inr none])), (c_debts, .inl (0, [.inr none, .inr none, .inr none, .inr none, .inr none, .inr none, .inr none, .inr none, .inr none]))]
def Ly_111 : List DS := lay 53 [(c_xx, .inl (11, [.inr (some c_tape), .inr (some c_land), .inr (some c_draft), .inr (some c_reader), .inr (some c_deeds), .inr (some c_marks), .inl true, .inr (some c_history), .inr none, .inr none, .inr none, .inr none])), (c_debts, .inl (0, [.inr none, .inr none, .inr (some c_debts_at), .inr none, .inr none, .inr none, .inr none, .inr none, .inr none]))]
def Ly_112 : List DS := lay 54 [(c_xx, .inl (11, [.inr (some c_tape), .inr (some c_land), .inr (some c_draft), .inr (some c_reader), .inr (some c_deeds), .inr (some c_marks), .inl true, .inr (some c_history), .inr none, .inr none, .inr none, .inr none])), (c_debts, .inl (0, [.inr none, .inr none, .inr (some c_debts_at), .inr none, .inr none, .inr none, .inr none, .inr none, .inr none]))]
def Ly_113 : List DS := lay 54 [(c_xx, .inl (11, [.inr (some c_tape), .inr (some c_land), .inr (some c_draft), .inr (some c_reader), .inr (some c_deeds), .inr (some c_marks), .inl true, .inr (some c_history), .inr none, .inr none, .inr none, .inr none])), (c_debts, .inl (0, [.inr none, .inr none, .inr (some c_debts_at), .inr (some c_debts_sums), .inr none, .inr none, .inr none, .inr none, .inr none]))]
def Ly_114 : List DS := lay 55 [(c_xx, .inl (11, [.inr (some c_tape), .inr (some c_land), .inr (some c_draft), .inr (some c_reader), .inr (some c_deeds), .inr (some c_marks), .inl true, .inr (some c_history), .inr none, .inr none, .inr none, .inr none])), (c_debts, .inl (0, [.inr none, .inr none, .inr (some c_debts_at), .inr (some c_debts_sums), .inr none, .inr none, .inr none, .inr none, .inr none]))]
def Ly_115 : List DS := lay 55 [(c_xx, .inl (11, [.inr (some c_tape), .inr (some c_land), .inr (some c_draft), .inr (some c_reader), .inr (some c_deeds), .inr (some c_marks), .inl true, .inr (some c_history), .inr none, .inr none, .inr none, .inr none])), (c_debts, .inl (0, [.inr none, .inr none, .inr (some c_debts_at), .inr (some c_debts_sums), .inr (some c_debts_nearest), .inr none, .inr none, .inr none, .inr none]))]
def Ly_116 : List DS := lay 56 [(c_xx, .inl (11, [.inr (some c_tape), .inr (some c_land), .inr (some c_draft), .inr (some c_reader), .inr (some c_deeds), .inr (some c_marks), .inl true, .inr (some c_history), .inr none, .inr none, .inr none, .inr none])), (c_debts, .inl (0, [.inr none, .inr none, .inr (some c_debts_at), .inr (some c_debts_sums), .inr (some c_debts_nearest), .inr none, .inr none, .inr none, .inr none]))]
def Ly_117 : List DS := lay 56 [(c_xx, .inl (11, [.inr (some c_tape), .inr (some c_land), .inr (some c_draft), .inr (some c_reader), .inr (some c_deeds), .inr (some c_marks), .inl true, .inr (some c_history), .inr none, .inr none, .inr none, .inr none])), (c_debts, .inl (0, [.inr none, .inr none, .inr (some c_debts_at), .inr (some c_debts_sums), .inr (some c_debts_nearest), .inr (some c_debts_gap), .inr none, .inr none, .inr none]))]
def Ly_118 : List DS := lay 57 [(c_xx, .inl (11, [.inr (some c_tape), .inr (some c_land), .inr (some c_draft), .inr (some c_reader), .inr (some c_deeds), .inr (some c_marks), .inl true, .inr (some c_history), .inr none, .inr none, .inr none, .inr none])), (c_debts, .inl (0, [.inr none, .inr none, .inr (some c_debts_at), .inr (some c_debts_sums), .inr (some c_debts_nearest), .inr (some c_debts_gap), .inr none, .inr none, .inr none]))]
def Ly_119 : List DS := lay 57 [(c_xx, .inl (11, [.inr (some c_tape), .inr (some c_land), .inr (some c_draft), .inr (some c_reader), .inr (some c_deeds), .inr (some c_marks), .inl true, .inr (some c_history), .inr none, .inr none, .inr none, .inr none])), (c_debts, .inl (0, [.inr none, .inr none, .inr (some c_debts_at), .inr (some c_debts_sums), .inr (some c_debts_nearest), .inr (some c_debts_gap), .inr (some c_debts_reach), .inr none, .inr none]))]
def Ly_120 : List DS := lay 58 [(c_xx, .inl (11, [.inr (some c_tape), .inr (some c_land), .inr (some c_draft), .inr (some c_reader), .inr (some c_deeds), .inr (some c_marks), .inl true, .inr (some c_history), .inr none, .inr none, .inr none, .inr none])), (c_debts, .inl (0, [.inr none, .inr none, .inr (some c_debts_at), .inr (some c_debts_sums), .inr (some c_debts_nearest), .inr (some c_debts_gap), .inr (some c_debts_reach), .inr none, .inr none]))]
def Ly_121 : List DS := lay 58 [(c_xx, .inl (11, [.inr (some c_tape), .inr (some c_land), .inr (some c_draft), .inr (some c_reader), .inr (some c_deeds), .inr (some c_marks), .inl true, .inr (some c_history), .inr none, .inr none, .inr none, .inr none])), (c_debts, .inl (0, [.inr none, .inr none, .inr (some c_debts_at), .inr (some c_debts_sums), .inr (some c_debts_nearest), .inr (some c_debts_gap), .inr (some c_debts_reach), .inr (some c_debts_rateKey), .inr none]))]
def Ly_122 : List DS := lay 59 [(c_xx, .inl (11, [.inr (some c_tape), .inr (some c_land), .inr (some c_draft), .inr (some c_reader), .inr (some c_deeds), .inr (some c_marks), .inl true, .inr (some c_history), .inr none, .inr none, .inr none, .inr none])), (c_debts, .inl (0, [.inr none, .inr none, .inr (some c_debts_at), .inr (some c_debts_sums), .inr (some c_debts_nearest), .inr (some c_debts_gap), .inr (some c_debts_reach), .inr (some c_debts_rateKey), .inr none]))]
def Ly_123 : List DS := lay 59 [(c_xx, .inl (11, [.inr (some c_tape), .inr (some c_land), .inr (some c_draft), .inr (some c_reader), .inr (some c_deeds), .inr (some c_marks), .inl true, .inr (some c_history), .inr none, .inr none, .inr none, .inr none])), (c_debts, .inl (0, [.inr none, .inr none, .inr (some c_debts_at), .inr (some c_debts_sums), .inr (some c_debts_nearest), .inr (some c_debts_gap), .inr (some c_debts_reach), .inr (some c_debts_rateKey), .inr (some c_debts_rate)]))]
def Ly_124 : List DS := lay 59 [(c_xx, .inl (11, [.inr (some c_tape), .inr (some c_land), .inr (some c_draft), .inr (some c_reader), .inr (some c_deeds), .inr (some c_marks), .inl true, .inr (some c_history), .inr none, .inr none, .inr none, .inr none])), (c_debts, .inl (0, [.inr (some c_land), .inr none, .inr (some c_debts_at), .inr (some c_debts_sums), .inr (some c_debts_nearest), .inr (some c_debts_gap), .inr (some c_debts_reach), .inr (some c_debts_rateKey), .inr (some c_debts_rate)]))]
def Ly_125 : List DS := lay 59 [(c_xx, .inl (11, [.inr (some c_tape), .inr (some c_land), .inr (some c_draft), .inr (some c_reader), .inr (some c_deeds), .inr (some c_marks), .inl true, .inr (some c_history), .inr none, .inr none, .inr none, .inr none]))]
def v_debts (M : Mem) (Q : Mem → Prop) : Prop := Q M
set_option maxHeartbeats 1000000 in
theorem n_debts {M : Mem} {Q : Mem → Prop} (hz : Z0 52 M) (h : v_debts M Q) : CNE yX0_init cX0_init 3 1 7 2752 Ly_109 Ly_125 [vr c_debts, vr c_land, vr c_deeds] M Q := mk_ne (lv0 := [some (vr c_debts), some (vr c_land), some (vr c_deeds)]) (by decide +kernel) rfl rfl rfl (Nat.le_of_ble_eq_true rfl) (fun X ad0 hX hT hq => by
  refine s_aload_n hX dX0_init_0 rfl ?_
  refine s_obj hX (tb_m2 132 rfl rfl) wd_im_objectInit wd_co_objectInit rfl (Nat.le_of_ble_eq_true rfl) (Nat.le_of_ble_eq_true rfl) dX0_init_1 ?_
  refine s_aload_n hX dX0_init_4 rfl ?_
  refine s_sipush (v := nI 144) hX dX0_init_5 rfl ?_
  refine s_nwi (n := 144) (L' := Ly_110) hX (hz.mono (Nat.le_of_ble_eq_true rfl)) rfl (by decide) rfl rfl rfl (Nat.le_of_ble_eq_true rfl) (Nat.le_of_ble_eq_true rfl) dX0_init_8 rfl (fun X1 hE => ?_)
  replace hT := hT.go hE (Nat.le_of_ble_eq_true rfl)
  replace hq := hq.go hE (Nat.le_of_ble_eq_true rfl) (Nat.le_of_ble_eq_true rfl)
  replace hX := hX.go hE
  clear hE
  refine s_putF (L' := Ly_111) hX hq.ni (show FI RX0 9 0 2 RX0 TX0 9 from ⟨rfl, by decide, fw_X0, wd_fl_X0_9⟩) fp_X0 rfl rfl rfl (fun _ => ⟨rfl, rfl⟩) (f := .inr none) rfl rfl rfl dX0_init_10 ?_
  refine s_aload_n hX dX0_init_13 rfl ?_
  refine s_bipush (v := nI 36) hX dX0_init_14 rfl ?_
  refine s_nwi (n := 36) (L' := Ly_112) hX (hz.mono (Nat.le_of_ble_eq_true rfl)) rfl (by decide) rfl rfl rfl (Nat.le_of_ble_eq_true rfl) (Nat.le_of_ble_eq_true rfl) dX0_init_16 rfl (fun X1 hE => ?_)
  replace hT := hT.go hE (Nat.le_of_ble_eq_true rfl)
  replace hq := hq.go hE (Nat.le_of_ble_eq_true rfl) (Nat.le_of_ble_eq_true rfl)
  replace hX := hX.go hE
  clear hE
  refine s_putF (L' := Ly_113) hX hq.ni (show FI RX0 15 0 3 RX0 TX0 9 from ⟨rfl, by decide, fw_X0, wd_fl_X0_15⟩) fp_X0 rfl rfl rfl (fun _ => ⟨rfl, rfl⟩) (f := .inr none) rfl rfl rfl dX0_init_18 ?_
  refine s_aload_n hX dX0_init_21 rfl ?_
  refine s_bipush (v := nI 6) hX dX0_init_22 rfl ?_
  refine s_nwi (n := 6) (L' := Ly_114) hX (hz.mono (Nat.le_of_ble_eq_true rfl)) rfl (by decide) rfl rfl rfl (Nat.le_of_ble_eq_true rfl) (Nat.le_of_ble_eq_true rfl) dX0_init_24 rfl (fun X1 hE => ?_)
  replace hT := hT.go hE (Nat.le_of_ble_eq_true rfl)
  replace hq := hq.go hE (Nat.le_of_ble_eq_true rfl) (Nat.le_of_ble_eq_true rfl)
  replace hX := hX.go hE
  clear hE
  refine s_putF (L' := Ly_115) hX hq.ni (show FI RX0 18 0 4 RX0 TX0 9 from ⟨rfl, by decide, fw_X0, wd_fl_X0_18⟩) fp_X0 rfl rfl rfl (fun _ => ⟨rfl, rfl⟩) (f := .inr none) rfl rfl rfl dX0_init_26 ?_
  refine s_aload_n hX dX0_init_29 rfl ?_
  refine s_bipush (v := nI 6) hX dX0_init_30 rfl ?_
  refine s_nwi (n := 6) (L' := Ly_116) hX (hz.mono (Nat.le_of_ble_eq_true rfl)) rfl (by decide) rfl rfl rfl (Nat.le_of_ble_eq_true rfl) (Nat.le_of_ble_eq_true rfl) dX0_init_32 rfl (fun X1 hE => ?_)
  replace hT := hT.go hE (Nat.le_of_ble_eq_true rfl)
  replace hq := hq.go hE (Nat.le_of_ble_eq_true rfl) (Nat.le_of_ble_eq_true rfl)
  replace hX := hX.go hE
  clear hE
  refine s_putF (L' := Ly_117) hX hq.ni (show FI RX0 21 0 5 RX0 TX0 9 from ⟨rfl, by decide, fw_X0, wd_fl_X0_21⟩) fp_X0 rfl rfl rfl (fun _ => ⟨rfl, rfl⟩) (f := .inr none) rfl rfl rfl dX0_init_34 ?_
  refine s_aload_n hX dX0_init_37 rfl ?_
  refine s_sipush (v := nI 1536) hX dX0_init_38 rfl ?_
  refine s_nwi (n := 1536) (L' := Ly_118) hX (hz.mono (Nat.le_of_ble_eq_true rfl)) rfl (by decide) rfl rfl rfl (Nat.le_of_ble_eq_true rfl) (Nat.le_of_ble_eq_true rfl) dX0_init_41 rfl (fun X1 hE => ?_)
  replace hT := hT.go hE (Nat.le_of_ble_eq_true rfl)
  replace hq := hq.go hE (Nat.le_of_ble_eq_true rfl) (Nat.le_of_ble_eq_true rfl)
  replace hX := hX.go hE
  clear hE
  refine s_putF (L' := Ly_119) hX hq.ni (show FI RX0 24 0 6 RX0 TX0 9 from ⟨rfl, by decide, fw_X0, wd_fl_X0_24⟩) fp_X0 rfl rfl rfl (fun _ => ⟨rfl, rfl⟩) (f := .inr none) rfl rfl rfl dX0_init_43 ?_
  refine s_aload_n hX dX0_init_46 rfl ?_
  refine s_sipush (v := nI 512) hX dX0_init_47 rfl ?_
  refine s_nwi (n := 512) (L' := Ly_120) hX (hz.mono (Nat.le_of_ble_eq_true rfl)) rfl (by decide) rfl rfl rfl (Nat.le_of_ble_eq_true rfl) (Nat.le_of_ble_eq_true rfl) dX0_init_50 rfl (fun X1 hE => ?_)
  replace hT := hT.go hE (Nat.le_of_ble_eq_true rfl)
  replace hq := hq.go hE (Nat.le_of_ble_eq_true rfl) (Nat.le_of_ble_eq_true rfl)
  replace hX := hX.go hE
  clear hE
  refine s_putF (L' := Ly_121) hX hq.ni (show FI RX0 27 0 7 RX0 TX0 9 from ⟨rfl, by decide, fw_X0, wd_fl_X0_27⟩) fp_X0 rfl rfl rfl (fun _ => ⟨rfl, rfl⟩) (f := .inr none) rfl rfl rfl dX0_init_52 ?_
  refine s_aload_n hX dX0_init_55 rfl ?_
  refine s_sipush (v := nI 512) hX dX0_init_56 rfl ?_
  refine s_nwi (n := 512) (L' := Ly_122) hX (hz.mono (Nat.le_of_ble_eq_true rfl)) rfl (by decide) rfl rfl rfl (Nat.le_of_ble_eq_true rfl) (Nat.le_of_ble_eq_true rfl) dX0_init_59 rfl (fun X1 hE => ?_)
  replace hT := hT.go hE (Nat.le_of_ble_eq_true rfl)
  replace hq := hq.go hE (Nat.le_of_ble_eq_true rfl) (Nat.le_of_ble_eq_true rfl)
  replace hX := hX.go hE
  clear hE
  refine s_putF (L' := Ly_123) hX hq.ni (show FI RX0 30 0 8 RX0 TX0 9 from ⟨rfl, by decide, fw_X0, wd_fl_X0_30⟩) fp_X0 rfl rfl rfl (fun _ => ⟨rfl, rfl⟩) (f := .inr none) rfl rfl rfl dX0_init_61 ?_
  refine s_aload_n hX dX0_init_64 rfl ?_
  refine s_aload_n hX dX0_init_65 rfl ?_
  refine s_putF (L' := Ly_124) hX hq.ni (show FI RX0 33 0 0 RX0 TX0 9 from ⟨rfl, by decide, fw_X0, wd_fl_X0_33⟩) fp_X0 rfl rfl rfl (fun _ => ⟨rfl, rfl⟩) (f := .inr none) rfl rfl rfl dX0_init_66 ?_
  refine s_aload_n hX dX0_init_69 rfl ?_
  refine s_aload_n hX dX0_init_70 rfl ?_
  refine s_putF (L' := Ly_125) hX hq.ni (show FI RX0 37 0 1 RX0 TX0 9 from ⟨rfl, by decide, fw_X0, wd_fl_X0_37⟩) fp_X0 rfl rfl rfl (fun _ => ⟨rfl, rfl⟩) (f := .inr none) rfl rfl rfl dX0_init_71 ?_
  exact s_vretn hX hq rfl dX0_init_74 h)
theorem mi_X0 : MI yX0_init cX0_init 3 2 := ⟨wd_co_X0_init, wd_im_X0_init, wd_in_X0, rfl, by decide +kernel, by decide⟩
def Ly_126 : List DS := lay 59 [(c_xx, .inl (11, [.inr (some c_tape), .inr (some c_land), .inr (some c_draft), .inr (some c_reader), .inr (some c_deeds), .inr (some c_marks), .inl true, .inr (some c_history), .inr (some c_debts), .inr none, .inr none, .inr none]))]
def Ly_127 : List DS := lay 60 [(c_xx, .inl (11, [.inr (some c_tape), .inr (some c_land), .inr (some c_draft), .inr (some c_reader), .inr (some c_deeds), .inr (some c_marks), .inl true, .inr (some c_history), .inr (some c_debts), .inr none, .inr none, .inr none])), (c_game, .inl (2, [.inr none, .inr none, .inr none, .inl true, .inl true, .inl true, .inl true, .inl true, .inr none, .inr none]))]
def Ly_128 : List DS := lay 61 [(c_xx, .inl (11, [.inr (some c_tape), .inr (some c_land), .inr (some c_draft), .inr (some c_reader), .inr (some c_deeds), .inr (some c_marks), .inl true, .inr (some c_history), .inr (some c_debts), .inr none, .inr none, .inr none])), (c_game, .inl (2, [.inr none, .inr none, .inr none, .inl true, .inl true, .inl true, .inl true, .inl true, .inr none, .inr none]))]
def Ly_129 : List DS := lay 61 [(c_xx, .inl (11, [.inr (some c_tape), .inr (some c_land), .inr (some c_draft), .inr (some c_reader), .inr (some c_deeds), .inr (some c_marks), .inl true, .inr (some c_history), .inr (some c_debts), .inr none, .inr none, .inr none])), (c_game, .inl (2, [.inr none, .inr none, .inr none, .inl true, .inl true, .inl true, .inl true, .inl true, .inr (some c_game_path), .inr none]))]
def Ly_130 : List DS := lay 62 [(c_xx, .inl (11, [.inr (some c_tape), .inr (some c_land), .inr (some c_draft), .inr (some c_reader), .inr (some c_deeds), .inr (some c_marks), .inl true, .inr (some c_history), .inr (some c_debts), .inr none, .inr none, .inr none])), (c_game, .inl (2, [.inr none, .inr none, .inr none, .inl true, .inl true, .inl true, .inl true, .inl true, .inr (some c_game_path), .inr none]))]
def Ly_131 : List DS := lay 62 [(c_xx, .inl (11, [.inr (some c_tape), .inr (some c_land), .inr (some c_draft), .inr (some c_reader), .inr (some c_deeds), .inr (some c_marks), .inl true, .inr (some c_history), .inr (some c_debts), .inr none, .inr none, .inr none])), (c_game, .inl (2, [.inr none, .inr none, .inr none, .inl true, .inl true, .inl true, .inl true, .inl true, .inr (some c_game_path), .inr (some c_game_seen)]))]
def Ly_132 : List DS := lay 62 [(c_xx, .inl (11, [.inr (some c_tape), .inr (some c_land), .inr (some c_draft), .inr (some c_reader), .inr (some c_deeds), .inr (some c_marks), .inl true, .inr (some c_history), .inr (some c_debts), .inr none, .inr none, .inr none])), (c_game, .inl (2, [.inr (some c_land), .inr none, .inr none, .inl true, .inl true, .inl true, .inl true, .inl true, .inr (some c_game_path), .inr (some c_game_seen)]))]
def Ly_133 : List DS := lay 62 [(c_xx, .inl (11, [.inr (some c_tape), .inr (some c_land), .inr (some c_draft), .inr (some c_reader), .inr (some c_deeds), .inr (some c_marks), .inl true, .inr (some c_history), .inr (some c_debts), .inr none, .inr none, .inr none])), (c_game, .inl (2, [.inr (some c_land), .inr (some c_deeds), .inr none, .inl true, .inl true, .inl true, .inl true, .inl true, .inr (some c_game_path), .inr (some c_game_seen)]))]
def Ly_134 : List DS := lay 62 [(c_xx, .inl (11, [.inr (some c_tape), .inr (some c_land), .inr (some c_draft), .inr (some c_reader), .inr (some c_deeds), .inr (some c_marks), .inl true, .inr (some c_history), .inr (some c_debts), .inr none, .inr none, .inr none]))]
def v_game (M : Mem) (Q : Mem → Prop) : Prop := Q M
set_option maxHeartbeats 1000000 in
theorem n_game {M : Mem} {Q : Mem → Prop} (hz : Z0 60 M) (h : v_game M Q) : CNE yX2_init cX2_init 4 1 2 75 Ly_127 Ly_134 [vr c_game, vr c_land, vr c_deeds, vr c_debts] M Q := mk_ne (lv0 := [some (vr c_game), some (vr c_land), some (vr c_deeds), some (vr c_debts)]) (by decide +kernel) rfl rfl rfl (Nat.le_of_ble_eq_true rfl) (fun X ad0 hX hT hq => by
  refine s_aload_n hX dX2_init_0 rfl ?_
  refine s_obj hX (tb_m2 170 rfl rfl) wd_im_objectInit wd_co_objectInit rfl (Nat.le_of_ble_eq_true rfl) (Nat.le_of_ble_eq_true rfl) dX2_init_1 ?_
  refine s_aload_n hX dX2_init_4 rfl ?_
  refine s_bipush (v := nI 24) hX dX2_init_5 rfl ?_
  refine s_nwi (n := 24) (L' := Ly_128) hX (hz.mono (Nat.le_of_ble_eq_true rfl)) rfl (by decide) rfl rfl rfl (Nat.le_of_ble_eq_true rfl) (Nat.le_of_ble_eq_true rfl) dX2_init_7 rfl (fun X1 hE => ?_)
  replace hT := hT.go hE (Nat.le_of_ble_eq_true rfl)
  replace hq := hq.go hE (Nat.le_of_ble_eq_true rfl) (Nat.le_of_ble_eq_true rfl)
  replace hX := hX.go hE
  clear hE
  refine s_putF (L' := Ly_129) hX hq.ni (show FI RX2 9 2 8 RX2 TX2 10 from ⟨rfl, by decide, fw_X2, wd_fl_X2_9⟩) fp_X2 rfl rfl rfl (fun _ => ⟨rfl, rfl⟩) (f := .inr none) rfl rfl rfl dX2_init_9 ?_
  refine s_aload_n hX dX2_init_12 rfl ?_
  refine s_bipush (v := nI 51) hX dX2_init_13 rfl ?_
  refine s_nwl (n := 51) (L' := Ly_130) hX (hz.mono (Nat.le_of_ble_eq_true rfl)) rfl (by decide) rfl rfl rfl (Nat.le_of_ble_eq_true rfl) (Nat.le_of_ble_eq_true rfl) dX2_init_15 rfl (fun X1 hE => ?_)
  replace hT := hT.go hE (Nat.le_of_ble_eq_true rfl)
  replace hq := hq.go hE (Nat.le_of_ble_eq_true rfl) (Nat.le_of_ble_eq_true rfl)
  replace hX := hX.go hE
  clear hE
  refine s_putF (L' := Ly_131) hX hq.ni (show FI RX2 15 2 9 RX2 TX2 10 from ⟨rfl, by decide, fw_X2, wd_fl_X2_15⟩) fp_X2 rfl rfl rfl (fun _ => ⟨rfl, rfl⟩) (f := .inr none) rfl rfl rfl dX2_init_17 ?_
  refine s_aload_n hX dX2_init_20 rfl ?_
  refine s_aload_n hX dX2_init_21 rfl ?_
  refine s_putF (L' := Ly_132) hX hq.ni (show FI RX2 19 2 0 RX2 TX2 10 from ⟨rfl, by decide, fw_X2, wd_fl_X2_19⟩) fp_X2 rfl rfl rfl (fun _ => ⟨rfl, rfl⟩) (f := .inr none) rfl rfl rfl dX2_init_22 ?_
  refine s_aload_n hX dX2_init_25 rfl ?_
  refine s_aload_n hX dX2_init_26 rfl ?_
  refine s_putF (L' := Ly_133) hX hq.ni (show FI RX2 23 2 1 RX2 TX2 10 from ⟨rfl, by decide, fw_X2, wd_fl_X2_23⟩) fp_X2 rfl rfl rfl (fun _ => ⟨rfl, rfl⟩) (f := .inr none) rfl rfl rfl dX2_init_27 ?_
  refine s_aload_n hX dX2_init_30 rfl ?_
  refine s_aload_n hX dX2_init_31 rfl ?_
  refine s_putF (L' := Ly_134) hX hq.ni (show FI RX2 27 2 2 RX2 TX2 10 from ⟨rfl, by decide, fw_X2, wd_fl_X2_27⟩) fp_X2 rfl rfl rfl (fun _ => ⟨rfl, rfl⟩) (f := .inr none) rfl rfl rfl dX2_init_32 ?_
  exact s_vretn hX hq rfl dX2_init_35 h)
theorem mi_X2 : MI yX2_init cX2_init 4 3 := ⟨wd_co_X2_init, wd_im_X2_init, wd_in_X2, rfl, by decide +kernel, by decide⟩
def Ly_135 : List DS := lay 62 [(c_xx, .inl (11, [.inr (some c_tape), .inr (some c_land), .inr (some c_draft), .inr (some c_reader), .inr (some c_deeds), .inr (some c_marks), .inl true, .inr (some c_history), .inr (some c_debts), .inr (some c_game), .inr none, .inr none]))]
def Ly_136 : List DS := lay 63 [(c_xx, .inl (11, [.inr (some c_tape), .inr (some c_land), .inr (some c_draft), .inr (some c_reader), .inr (some c_deeds), .inr (some c_marks), .inl true, .inr (some c_history), .inr (some c_debts), .inr (some c_game), .inr none, .inr none])), (c_songs, .inl (9, [.inr none, .inr none, .inr none, .inl true, .inl true, .inr none, .inl true, .inr none, .inr none]))]
def Ly_137 : List DS := lay 64 [(c_xx, .inl (11, [.inr (some c_tape), .inr (some c_land), .inr (some c_draft), .inr (some c_reader), .inr (some c_deeds), .inr (some c_marks), .inl true, .inr (some c_history), .inr (some c_debts), .inr (some c_game), .inr none, .inr none])), (c_songs, .inl (9, [.inr none, .inr none, .inr none, .inl true, .inl true, .inr none, .inl true, .inr none, .inr none]))]
def Ly_138 : List DS := lay 64 [(c_xx, .inl (11, [.inr (some c_tape), .inr (some c_land), .inr (some c_draft), .inr (some c_reader), .inr (some c_deeds), .inr (some c_marks), .inl true, .inr (some c_history), .inr (some c_debts), .inr (some c_game), .inr none, .inr none])), (c_songs, .inl (9, [.inr none, .inr none, .inr none, .inl true, .inl true, .inr (some c_songs_row), .inl true, .inr none, .inr none]))]
def Ly_139 : List DS := lay 65 [(c_xx, .inl (11, [.inr (some c_tape), .inr (some c_land), .inr (some c_draft), .inr (some c_reader), .inr (some c_deeds), .inr (some c_marks), .inl true, .inr (some c_history), .inr (some c_debts), .inr (some c_game), .inr none, .inr none])), (c_songs, .inl (9, [.inr none, .inr none, .inr none, .inl true, .inl true, .inr (some c_songs_row), .inl true, .inr none, .inr none]))]
def Ly_140 : List DS := lay 65 [(c_xx, .inl (11, [.inr (some c_tape), .inr (some c_land), .inr (some c_draft), .inr (some c_reader), .inr (some c_deeds), .inr (some c_marks), .inl true, .inr (some c_history), .inr (some c_debts), .inr (some c_game), .inr none, .inr none])), (c_songs, .inl (9, [.inr none, .inr none, .inr none, .inl true, .inl true, .inr (some c_songs_row), .inl true, .inr (some c_songs_price), .inr none]))]
def Ly_141 : List DS := lay 66 [(c_xx, .inl (11, [.inr (some c_tape), .inr (some c_land), .inr (some c_draft), .inr (some c_reader), .inr (some c_deeds), .inr (some c_marks), .inl true, .inr (some c_history), .inr (some c_debts), .inr (some c_game), .inr none, .inr none])), (c_songs, .inl (9, [.inr none, .inr none, .inr none, .inl true, .inl true, .inr (some c_songs_row), .inl true, .inr (some c_songs_price), .inr none]))]
def Ly_142 : List DS := lay 66 [(c_xx, .inl (11, [.inr (some c_tape), .inr (some c_land), .inr (some c_draft), .inr (some c_reader), .inr (some c_deeds), .inr (some c_marks), .inl true, .inr (some c_history), .inr (some c_debts), .inr (some c_game), .inr none, .inr none])), (c_songs, .inl (9, [.inr none, .inr none, .inr none, .inl true, .inl true, .inr (some c_songs_row), .inl true, .inr (some c_songs_price), .inr (some c_songs_left)]))]
def Ly_143 : List DS := lay 66 [(c_xx, .inl (11, [.inr (some c_tape), .inr (some c_land), .inr (some c_draft), .inr (some c_reader), .inr (some c_deeds), .inr (some c_marks), .inl true, .inr (some c_history), .inr (some c_debts), .inr (some c_game), .inr none, .inr none])), (c_songs, .inl (9, [.inr (some c_land), .inr none, .inr none, .inl true, .inl true, .inr (some c_songs_row), .inl true, .inr (some c_songs_price), .inr (some c_songs_left)]))]
def Ly_144 : List DS := lay 66 [(c_xx, .inl (11, [.inr (some c_tape), .inr (some c_land), .inr (some c_draft), .inr (some c_reader), .inr (some c_deeds), .inr (some c_marks), .inl true, .inr (some c_history), .inr (some c_debts), .inr (some c_game), .inr none, .inr none])), (c_songs, .inl (9, [.inr (some c_land), .inr (some c_deeds), .inr none, .inl true, .inl true, .inr (some c_songs_row), .inl true, .inr (some c_songs_price), .inr (some c_songs_left)]))]
def Ly_145 : List DS := lay 66 [(c_xx, .inl (11, [.inr (some c_tape), .inr (some c_land), .inr (some c_draft), .inr (some c_reader), .inr (some c_deeds), .inr (some c_marks), .inl true, .inr (some c_history), .inr (some c_debts), .inr (some c_game), .inr none, .inr none]))]
def v_songs (M : Mem) (Q : Mem → Prop) : Prop := Q M
set_option maxHeartbeats 1000000 in
theorem n_songs {M : Mem} {Q : Mem → Prop} (hz : Z0 63 M) (h : v_songs M Q) : CNE yX9_init cX9_init 4 1 3 191 Ly_136 Ly_145 [vr c_songs, vr c_land, vr c_deeds, vr c_debts] M Q := mk_ne (lv0 := [some (vr c_songs), some (vr c_land), some (vr c_deeds), some (vr c_debts)]) (by decide +kernel) rfl rfl rfl (Nat.le_of_ble_eq_true rfl) (fun X ad0 hX hT hq => by
  refine s_aload_n hX dX9_init_0 rfl ?_
  refine s_obj hX (tb_m2 212 rfl rfl) wd_im_objectInit wd_co_objectInit rfl (Nat.le_of_ble_eq_true rfl) (Nat.le_of_ble_eq_true rfl) dX9_init_1 ?_
  refine s_aload_n hX dX9_init_4 rfl ?_
  refine s_iconst (v := (nI 5)) hX dX9_init_5 rfl ?_
  refine s_nwi (n := 5) (L' := Ly_137) hX (hz.mono (Nat.le_of_ble_eq_true rfl)) rfl (by decide) rfl rfl rfl (Nat.le_of_ble_eq_true rfl) (Nat.le_of_ble_eq_true rfl) dX9_init_6 rfl (fun X1 hE => ?_)
  replace hT := hT.go hE (Nat.le_of_ble_eq_true rfl)
  replace hq := hq.go hE (Nat.le_of_ble_eq_true rfl) (Nat.le_of_ble_eq_true rfl)
  replace hX := hX.go hE
  clear hE
  refine s_putF (L' := Ly_138) hX hq.ni (show FI RX9 9 9 5 RX9 TX9 9 from ⟨rfl, by decide, fw_X9, wd_fl_X9_9⟩) fp_X9 rfl rfl rfl (fun _ => ⟨rfl, rfl⟩) (f := .inr none) rfl rfl rfl dX9_init_8 ?_
  refine s_aload_n hX dX9_init_11 rfl ?_
  refine s_sipush (v := nI 180) hX dX9_init_12 rfl ?_
  refine s_nwi (n := 180) (L' := Ly_139) hX (hz.mono (Nat.le_of_ble_eq_true rfl)) rfl (by decide) rfl rfl rfl (Nat.le_of_ble_eq_true rfl) (Nat.le_of_ble_eq_true rfl) dX9_init_15 rfl (fun X1 hE => ?_)
  replace hT := hT.go hE (Nat.le_of_ble_eq_true rfl)
  replace hq := hq.go hE (Nat.le_of_ble_eq_true rfl) (Nat.le_of_ble_eq_true rfl)
  replace hX := hX.go hE
  clear hE
  refine s_putF (L' := Ly_140) hX hq.ni (show FI RX9 15 9 7 RX9 TX9 9 from ⟨rfl, by decide, fw_X9, wd_fl_X9_15⟩) fp_X9 rfl rfl rfl (fun _ => ⟨rfl, rfl⟩) (f := .inr none) rfl rfl rfl dX9_init_17 ?_
  refine s_aload_n hX dX9_init_20 rfl ?_
  refine s_bipush (v := nI 6) hX dX9_init_21 rfl ?_
  refine s_nwi (n := 6) (L' := Ly_141) hX (hz.mono (Nat.le_of_ble_eq_true rfl)) rfl (by decide) rfl rfl rfl (Nat.le_of_ble_eq_true rfl) (Nat.le_of_ble_eq_true rfl) dX9_init_23 rfl (fun X1 hE => ?_)
  replace hT := hT.go hE (Nat.le_of_ble_eq_true rfl)
  replace hq := hq.go hE (Nat.le_of_ble_eq_true rfl) (Nat.le_of_ble_eq_true rfl)
  replace hX := hX.go hE
  clear hE
  refine s_putF (L' := Ly_142) hX hq.ni (show FI RX9 18 9 8 RX9 TX9 9 from ⟨rfl, by decide, fw_X9, wd_fl_X9_18⟩) fp_X9 rfl rfl rfl (fun _ => ⟨rfl, rfl⟩) (f := .inr none) rfl rfl rfl dX9_init_25 ?_
  refine s_aload_n hX dX9_init_28 rfl ?_
  refine s_aload_n hX dX9_init_29 rfl ?_
  refine s_putF (L' := Ly_143) hX hq.ni (show FI RX9 21 9 0 RX9 TX9 9 from ⟨rfl, by decide, fw_X9, wd_fl_X9_21⟩) fp_X9 rfl rfl rfl (fun _ => ⟨rfl, rfl⟩) (f := .inr none) rfl rfl rfl dX9_init_30 ?_
  refine s_aload_n hX dX9_init_33 rfl ?_
  refine s_aload_n hX dX9_init_34 rfl ?_
  refine s_putF (L' := Ly_144) hX hq.ni (show FI RX9 25 9 1 RX9 TX9 9 from ⟨rfl, by decide, fw_X9, wd_fl_X9_25⟩) fp_X9 rfl rfl rfl (fun _ => ⟨rfl, rfl⟩) (f := .inr none) rfl rfl rfl dX9_init_35 ?_
  refine s_aload_n hX dX9_init_38 rfl ?_
  refine s_aload_n hX dX9_init_39 rfl ?_
  refine s_putF (L' := Ly_145) hX hq.ni (show FI RX9 29 9 2 RX9 TX9 9 from ⟨rfl, by decide, fw_X9, wd_fl_X9_29⟩) fp_X9 rfl rfl rfl (fun _ => ⟨rfl, rfl⟩) (f := .inr none) rfl rfl rfl dX9_init_40 ?_
  exact s_vretn hX hq rfl dX9_init_43 h)
theorem mi_X9 : MI yX9_init cX9_init 4 3 := ⟨wd_co_X9_init, wd_im_X9_init, wd_in_X9, rfl, by decide +kernel, by decide⟩
def Ly_146 : List DS := lay 66 [(c_xx, .inl (11, [.inr (some c_tape), .inr (some c_land), .inr (some c_draft), .inr (some c_reader), .inr (some c_deeds), .inr (some c_marks), .inl true, .inr (some c_history), .inr (some c_debts), .inr (some c_game), .inr (some c_songs), .inr none]))]
def Ly_147 : List DS := lay 67 [(c_xx, .inl (11, [.inr (some c_tape), .inr (some c_land), .inr (some c_draft), .inr (some c_reader), .inr (some c_deeds), .inr (some c_marks), .inl true, .inr (some c_history), .inr (some c_debts), .inr (some c_game), .inr (some c_songs), .inr none])), (c_juneDay, .inl (4, [.inr none, .inr none, .inr none, .inr none, .inr none]))]
def Ly_148 : List DS := lay 68 [(c_xx, .inl (11, [.inr (some c_tape), .inr (some c_land), .inr (some c_draft), .inr (some c_reader), .inr (some c_deeds), .inr (some c_marks), .inl true, .inr (some c_history), .inr (some c_debts), .inr (some c_game), .inr (some c_songs), .inr none])), (c_juneDay, .inl (4, [.inr none, .inr none, .inr none, .inr none, .inr none]))]
def Ly_149 : List DS := lay 68 [(c_xx, .inl (11, [.inr (some c_tape), .inr (some c_land), .inr (some c_draft), .inr (some c_reader), .inr (some c_deeds), .inr (some c_marks), .inl true, .inr (some c_history), .inr (some c_debts), .inr (some c_game), .inr (some c_songs), .inr none])), (c_juneDay, .inl (4, [.inr none, .inr none, .inr none, .inr (some c_juneDay_purse), .inr none]))]
def Ly_150 : List DS := lay 69 [(c_xx, .inl (11, [.inr (some c_tape), .inr (some c_land), .inr (some c_draft), .inr (some c_reader), .inr (some c_deeds), .inr (some c_marks), .inl true, .inr (some c_history), .inr (some c_debts), .inr (some c_game), .inr (some c_songs), .inr none])), (c_juneDay, .inl (4, [.inr none, .inr none, .inr none, .inr (some c_juneDay_purse), .inr none]))]
def Ly_151 : List DS := lay 69 [(c_xx, .inl (11, [.inr (some c_tape), .inr (some c_land), .inr (some c_draft), .inr (some c_reader), .inr (some c_deeds), .inr (some c_marks), .inl true, .inr (some c_history), .inr (some c_debts), .inr (some c_game), .inr (some c_songs), .inr none])), (c_juneDay, .inl (4, [.inr none, .inr none, .inr none, .inr (some c_juneDay_purse), .inr (some c_juneDay_due)]))]
def Ly_152 : List DS := lay 69 [(c_xx, .inl (11, [.inr (some c_tape), .inr (some c_land), .inr (some c_draft), .inr (some c_reader), .inr (some c_deeds), .inr (some c_marks), .inl true, .inr (some c_history), .inr (some c_debts), .inr (some c_game), .inr (some c_songs), .inr none])), (c_juneDay, .inl (4, [.inr (some c_land), .inr none, .inr none, .inr (some c_juneDay_purse), .inr (some c_juneDay_due)]))]
def Ly_153 : List DS := lay 69 [(c_xx, .inl (11, [.inr (some c_tape), .inr (some c_land), .inr (some c_draft), .inr (some c_reader), .inr (some c_deeds), .inr (some c_marks), .inl true, .inr (some c_history), .inr (some c_debts), .inr (some c_game), .inr (some c_songs), .inr none])), (c_juneDay, .inl (4, [.inr (some c_land), .inr (some c_deeds), .inr none, .inr (some c_juneDay_purse), .inr (some c_juneDay_due)]))]
def Ly_154 : List DS := lay 69 [(c_xx, .inl (11, [.inr (some c_tape), .inr (some c_land), .inr (some c_draft), .inr (some c_reader), .inr (some c_deeds), .inr (some c_marks), .inl true, .inr (some c_history), .inr (some c_debts), .inr (some c_game), .inr (some c_songs), .inr none]))]
def v_juneDay (M : Mem) (Q : Mem → Prop) : Prop := Q M
set_option maxHeartbeats 1000000 in
theorem n_juneDay {M : Mem} {Q : Mem → Prop} (hz : Z0 67 M) (h : v_juneDay M Q) : CNE yX4_init cX4_init 4 1 2 42 Ly_147 Ly_154 [vr c_juneDay, vr c_land, vr c_deeds, vr c_debts] M Q := mk_ne (lv0 := [some (vr c_juneDay), some (vr c_land), some (vr c_deeds), some (vr c_debts)]) (by decide +kernel) rfl rfl rfl (Nat.le_of_ble_eq_true rfl) (fun X ad0 hX hT hq => by
  refine s_aload_n hX dX4_init_0 rfl ?_
  refine s_obj hX (tb_m3 9 rfl rfl) wd_im_objectInit wd_co_objectInit rfl (Nat.le_of_ble_eq_true rfl) (Nat.le_of_ble_eq_true rfl) dX4_init_1 ?_
  refine s_aload_n hX dX4_init_4 rfl ?_
  refine s_bipush (v := nI 6) hX dX4_init_5 rfl ?_
  refine s_nwi (n := 6) (L' := Ly_148) hX (hz.mono (Nat.le_of_ble_eq_true rfl)) rfl (by decide) rfl rfl rfl (Nat.le_of_ble_eq_true rfl) (Nat.le_of_ble_eq_true rfl) dX4_init_7 rfl (fun X1 hE => ?_)
  replace hT := hT.go hE (Nat.le_of_ble_eq_true rfl)
  replace hq := hq.go hE (Nat.le_of_ble_eq_true rfl) (Nat.le_of_ble_eq_true rfl)
  replace hX := hX.go hE
  clear hE
  refine s_putF (L' := Ly_149) hX hq.ni (show FI RX4 9 4 3 RX4 TX4 5 from ⟨rfl, by decide, fw_X4, wd_fl_X4_9⟩) fp_X4 rfl rfl rfl (fun _ => ⟨rfl, rfl⟩) (f := .inr none) rfl rfl rfl dX4_init_9 ?_
  refine s_aload_n hX dX4_init_12 rfl ?_
  refine s_bipush (v := nI 36) hX dX4_init_13 rfl ?_
  refine s_nwi (n := 36) (L' := Ly_150) hX (hz.mono (Nat.le_of_ble_eq_true rfl)) rfl (by decide) rfl rfl rfl (Nat.le_of_ble_eq_true rfl) (Nat.le_of_ble_eq_true rfl) dX4_init_15 rfl (fun X1 hE => ?_)
  replace hT := hT.go hE (Nat.le_of_ble_eq_true rfl)
  replace hq := hq.go hE (Nat.le_of_ble_eq_true rfl) (Nat.le_of_ble_eq_true rfl)
  replace hX := hX.go hE
  clear hE
  refine s_putF (L' := Ly_151) hX hq.ni (show FI RX4 15 4 4 RX4 TX4 5 from ⟨rfl, by decide, fw_X4, wd_fl_X4_15⟩) fp_X4 rfl rfl rfl (fun _ => ⟨rfl, rfl⟩) (f := .inr none) rfl rfl rfl dX4_init_17 ?_
  refine s_aload_n hX dX4_init_20 rfl ?_
  refine s_aload_n hX dX4_init_21 rfl ?_
  refine s_putF (L' := Ly_152) hX hq.ni (show FI RX4 18 4 0 RX4 TX4 5 from ⟨rfl, by decide, fw_X4, wd_fl_X4_18⟩) fp_X4 rfl rfl rfl (fun _ => ⟨rfl, rfl⟩) (f := .inr none) rfl rfl rfl dX4_init_22 ?_
  refine s_aload_n hX dX4_init_25 rfl ?_
  refine s_aload_n hX dX4_init_26 rfl ?_
  refine s_putF (L' := Ly_153) hX hq.ni (show FI RX4 22 4 1 RX4 TX4 5 from ⟨rfl, by decide, fw_X4, wd_fl_X4_22⟩) fp_X4 rfl rfl rfl (fun _ => ⟨rfl, rfl⟩) (f := .inr none) rfl rfl rfl dX4_init_27 ?_
  refine s_aload_n hX dX4_init_30 rfl ?_
  refine s_aload_n hX dX4_init_31 rfl ?_
  refine s_putF (L' := Ly_154) hX hq.ni (show FI RX4 26 4 2 RX4 TX4 5 from ⟨rfl, by decide, fw_X4, wd_fl_X4_26⟩) fp_X4 rfl rfl rfl (fun _ => ⟨rfl, rfl⟩) (f := .inr none) rfl rfl rfl dX4_init_32 ?_
  exact s_vretn hX hq rfl dX4_init_35 h)
theorem mi_X4 : MI yX4_init cX4_init 4 3 := ⟨wd_co_X4_init, wd_im_X4_init, wd_in_X4, rfl, by decide +kernel, by decide⟩
def Ly_155 : List DS := lay 69 []
def v_xx (M : Mem) (Q : Mem → Prop) : Prop := v_tape M (fun M1 => Z0 4 M1 ∧ v_land M1 (fun M2 => Z0 15 M2 ∧ v_draft M2 (fun M3 => Z0 26 M3 ∧ v_reader M3 (fun M4 => Z0 31 M4 ∧ v_deeds M4 (fun M5 => Z0 34 M5 ∧ v_mark0 M5 (fun M6 => Z0 38 M6 ∧ v_mark1 M6 (fun M7 => Z0 41 M7 ∧ v_mark2 M7 (fun M8 => Z0 44 M8 ∧ v_mark3 M8 (fun M9 => Z0 47 M9 ∧ v_history M9 (fun M10 => Z0 51 M10 ∧ v_debts M10 (fun M11 => Z0 59 M11 ∧ v_game M11 (fun M12 => Z0 62 M12 ∧ v_songs M12 (fun M13 => Z0 66 M13 ∧ v_juneDay M13 (fun M14 => Z0 69 M14 ∧ Q M14))))))))))))))
set_option maxHeartbeats 1000000 in
theorem n_xx {M : Mem} {Q : Mem → Prop} (hz : Z0 1 M) (h : v_xx M Q) : CNE yX11_init cX11_init 2 6 68 7795 Ly_0 Ly_155 [vr c_xx] M Q := mk_ne (lv0 := [some (vr c_xx), none]) (by decide +kernel) rfl rfl rfl (Nat.le_of_ble_eq_true rfl) (fun X ad0 hX hT hq => by
  refine s_aload_n hX dX11_init_0 rfl ?_
  refine s_obj hX (tb_m1 31 rfl rfl) wd_im_objectInit wd_co_objectInit rfl (Nat.le_of_ble_eq_true rfl) (Nat.le_of_ble_eq_true rfl) dX11_init_1 ?_
  refine s_aload_n hX dX11_init_4 rfl ?_
  refine s_nw (ci := 10) (fs := [.inr none, .inl true, .inl true, .inl true, .inl true, .inl true, .inl false, .inl true, .inl true, .inr none]) (L' := Ly_1) hX (hz.mono (Nat.le_of_ble_eq_true rfl)) rfl fp_X10 fw_X10 wd_cl_X11_7 wd_it_X10 wd_in_X10 rfl rfl rfl rfl rfl rfl (Nat.le_of_ble_eq_true rfl) (Nat.le_of_ble_eq_true rfl) dX11_init_5 rfl (fun X1 hE => ?_)
  replace hT := hT.go hE (Nat.le_of_ble_eq_true rfl)
  replace hq := hq.go hE (Nat.le_of_ble_eq_true rfl) (Nat.le_of_ble_eq_true rfl)
  replace hX := hX.go hE
  clear hE
  refine s_dup hX dX11_init_8 rfl ?_
  refine s_cne (as := []) (rest := [vr c_tape, vr c_xx]) (Qn := _) hX hT (n_tape (hz.mono (Nat.le_of_ble_eq_true rfl)) h) mi_X10 wd_ml_X11_9 dX11_init_9 rfl (Nat.le_of_ble_eq_true rfl) rfl (by decide) ⟨Nat.le_of_ble_eq_true rfl, Nat.le_of_ble_eq_true rfl⟩ rfl rfl (fun X1 M1 hE h => ?_)
  replace hT := hT.go hE (Nat.le_of_ble_eq_true rfl)
  replace hq := hq.go hE (Nat.le_of_ble_eq_true rfl) (Nat.le_of_ble_eq_true rfl)
  replace hX := hX.go hE
  clear hE
  obtain ⟨hz, h⟩ := h
  refine s_putF (L' := Ly_6) hX hq.ni (show FI RX11 10 11 0 RX11 TX11 12 from ⟨rfl, by decide, fw_X11, wd_fl_X11_10⟩) fp_X11 rfl rfl rfl (fun _ => ⟨rfl, rfl⟩) (f := .inr none) rfl rfl rfl dX11_init_12 ?_
  refine s_aload_n hX dX11_init_15 rfl ?_
  refine s_nw (ci := 5) (fs := [.inl true, .inl true, .inl true, .inl true, .inl true, .inr none, .inr none, .inr none, .inr none, .inr none, .inr none, .inl true, .inr none, .inr none]) (L' := Ly_7) hX (hz.mono (Nat.le_of_ble_eq_true rfl)) rfl fp_X5 fw_X5 wd_cl_X11_16 wd_it_X5 wd_in_X5 rfl rfl rfl rfl rfl rfl (Nat.le_of_ble_eq_true rfl) (Nat.le_of_ble_eq_true rfl) dX11_init_16 rfl (fun X1 hE => ?_)
  replace hT := hT.go hE (Nat.le_of_ble_eq_true rfl)
  replace hq := hq.go hE (Nat.le_of_ble_eq_true rfl) (Nat.le_of_ble_eq_true rfl)
  replace hX := hX.go hE
  clear hE
  refine s_dup hX dX11_init_19 rfl ?_
  refine s_cne (as := []) (rest := [vr c_land, vr c_xx]) (Qn := _) hX hT (n_land (hz.mono (Nat.le_of_ble_eq_true rfl)) h) mi_X5 wd_ml_X11_18 dX11_init_20 rfl (Nat.le_of_ble_eq_true rfl) rfl (by decide) ⟨Nat.le_of_ble_eq_true rfl, Nat.le_of_ble_eq_true rfl⟩ rfl rfl (fun X1 M2 hE h => ?_)
  replace hT := hT.go hE (Nat.le_of_ble_eq_true rfl)
  replace hq := hq.go hE (Nat.le_of_ble_eq_true rfl) (Nat.le_of_ble_eq_true rfl)
  replace hX := hX.go hE
  clear hE
  obtain ⟨hz, h⟩ := h
  refine s_putF (L' := Ly_30) hX hq.ni (show FI RX11 19 11 1 RX11 TX11 12 from ⟨rfl, by decide, fw_X11, wd_fl_X11_19⟩) fp_X11 rfl rfl rfl (fun _ => ⟨rfl, rfl⟩) (f := .inr none) rfl rfl rfl dX11_init_23 ?_
  refine s_aload_n hX dX11_init_26 rfl ?_
  refine s_nw (ci := 5) (fs := [.inl true, .inl true, .inl true, .inl true, .inl true, .inr none, .inr none, .inr none, .inr none, .inr none, .inr none, .inl true, .inr none, .inr none]) (L' := Ly_31) hX (hz.mono (Nat.le_of_ble_eq_true rfl)) rfl fp_X5 fw_X5 wd_cl_X11_16 wd_it_X5 wd_in_X5 rfl rfl rfl rfl rfl rfl (Nat.le_of_ble_eq_true rfl) (Nat.le_of_ble_eq_true rfl) dX11_init_27 rfl (fun X1 hE => ?_)
  replace hT := hT.go hE (Nat.le_of_ble_eq_true rfl)
  replace hq := hq.go hE (Nat.le_of_ble_eq_true rfl) (Nat.le_of_ble_eq_true rfl)
  replace hX := hX.go hE
  clear hE
  refine s_dup hX dX11_init_30 rfl ?_
  refine s_cne (as := []) (rest := [vr c_draft, vr c_xx]) (Qn := _) hX hT (n_draft (hz.mono (Nat.le_of_ble_eq_true rfl)) h) mi_X5 wd_ml_X11_18 dX11_init_31 rfl (Nat.le_of_ble_eq_true rfl) rfl (by decide) ⟨Nat.le_of_ble_eq_true rfl, Nat.le_of_ble_eq_true rfl⟩ rfl rfl (fun X1 M3 hE h => ?_)
  replace hT := hT.go hE (Nat.le_of_ble_eq_true rfl)
  replace hq := hq.go hE (Nat.le_of_ble_eq_true rfl) (Nat.le_of_ble_eq_true rfl)
  replace hX := hX.go hE
  clear hE
  obtain ⟨hz, h⟩ := h
  refine s_putF (L' := Ly_54) hX hq.ni (show FI RX11 23 11 2 RX11 TX11 12 from ⟨rfl, by decide, fw_X11, wd_fl_X11_23⟩) fp_X11 rfl rfl rfl (fun _ => ⟨rfl, rfl⟩) (f := .inr none) rfl rfl rfl dX11_init_34 ?_
  refine s_aload_n hX dX11_init_37 rfl ?_
  refine s_nw (ci := 8) (fs := [.inr none, .inr none, .inr none, .inr none, .inr none, .inr none, .inl true, .inl true, .inl true, .inl true, .inl true]) (L' := Ly_55) hX (hz.mono (Nat.le_of_ble_eq_true rfl)) rfl fp_X8 fw_X8 wd_cl_X11_26 wd_it_X8 wd_in_X8 rfl rfl rfl rfl rfl rfl (Nat.le_of_ble_eq_true rfl) (Nat.le_of_ble_eq_true rfl) dX11_init_38 rfl (fun X1 hE => ?_)
  replace hT := hT.go hE (Nat.le_of_ble_eq_true rfl)
  replace hq := hq.go hE (Nat.le_of_ble_eq_true rfl) (Nat.le_of_ble_eq_true rfl)
  replace hX := hX.go hE
  clear hE
  refine s_dup hX dX11_init_41 rfl ?_
  refine s_aload_n hX dX11_init_42 rfl ?_
  refine s_getr hX (show FI RX11 10 11 0 RX11 TX11 12 from ⟨rfl, by decide, fw_X11, wd_fl_X11_10⟩) (r := c_tape) (fs := [.inr (some c_tape), .inr (some c_land), .inr (some c_draft), .inr none, .inr none, .inr none, .inl true, .inr none, .inr none, .inr none, .inr none, .inr none]) rfl rfl dX11_init_43 ?_
  refine s_aload_n hX dX11_init_46 rfl ?_
  refine s_getr hX (show FI RX11 23 11 2 RX11 TX11 12 from ⟨rfl, by decide, fw_X11, wd_fl_X11_23⟩) (r := c_draft) (fs := [.inr (some c_tape), .inr (some c_land), .inr (some c_draft), .inr none, .inr none, .inr none, .inl true, .inr none, .inr none, .inr none, .inr none, .inr none]) rfl rfl dX11_init_47 ?_
  refine s_cne (as := [vr c_tape, vr c_draft]) (rest := [vr c_reader, vr c_xx]) (Qn := _) hX hT (n_reader (hz.mono (Nat.le_of_ble_eq_true rfl)) h) mi_X8 wd_ml_X11_28 dX11_init_50 rfl (Nat.le_of_ble_eq_true rfl) rfl (by decide) ⟨Nat.le_of_ble_eq_true rfl, Nat.le_of_ble_eq_true rfl⟩ rfl rfl (fun X1 M4 hE h => ?_)
  replace hT := hT.go hE (Nat.le_of_ble_eq_true rfl)
  replace hq := hq.go hE (Nat.le_of_ble_eq_true rfl) (Nat.le_of_ble_eq_true rfl)
  replace hX := hX.go hE
  clear hE
  obtain ⟨hz, h⟩ := h
  refine s_putF (L' := Ly_68) hX hq.ni (show FI RX11 31 11 3 RX11 TX11 12 from ⟨rfl, by decide, fw_X11, wd_fl_X11_31⟩) fp_X11 rfl rfl rfl (fun _ => ⟨rfl, rfl⟩) (f := .inr none) rfl rfl rfl dX11_init_53 ?_
  refine s_aload_n hX dX11_init_56 rfl ?_
  refine s_nw (ci := 1) (fs := [.inr none, .inl true, .inr none]) (L' := Ly_69) hX (hz.mono (Nat.le_of_ble_eq_true rfl)) rfl fp_X1 fw_X1 wd_cl_X11_35 wd_it_X1 wd_in_X1 rfl rfl rfl rfl rfl rfl (Nat.le_of_ble_eq_true rfl) (Nat.le_of_ble_eq_true rfl) dX11_init_57 rfl (fun X1 hE => ?_)
  replace hT := hT.go hE (Nat.le_of_ble_eq_true rfl)
  replace hq := hq.go hE (Nat.le_of_ble_eq_true rfl) (Nat.le_of_ble_eq_true rfl)
  replace hX := hX.go hE
  clear hE
  refine s_dup hX dX11_init_60 rfl ?_
  refine s_cne (as := []) (rest := [vr c_deeds, vr c_xx]) (Qn := _) hX hT (n_deeds (hz.mono (Nat.le_of_ble_eq_true rfl)) h) mi_X1 wd_ml_X11_37 dX11_init_61 rfl (Nat.le_of_ble_eq_true rfl) rfl (by decide) ⟨Nat.le_of_ble_eq_true rfl, Nat.le_of_ble_eq_true rfl⟩ rfl rfl (fun X1 M5 hE h => ?_)
  replace hT := hT.go hE (Nat.le_of_ble_eq_true rfl)
  replace hq := hq.go hE (Nat.le_of_ble_eq_true rfl) (Nat.le_of_ble_eq_true rfl)
  replace hX := hX.go hE
  clear hE
  obtain ⟨hz, h⟩ := h
  refine s_putF (L' := Ly_74) hX hq.ni (show FI RX11 38 11 4 RX11 TX11 12 from ⟨rfl, by decide, fw_X11, wd_fl_X11_38⟩) fp_X11 rfl rfl rfl (fun _ => ⟨rfl, rfl⟩) (f := .inr none) rfl rfl rfl dX11_init_64 ?_
  refine s_aload_n hX dX11_init_67 rfl ?_
  refine s_iconst (v := (nI 4)) hX dX11_init_68 rfl ?_
  refine s_nwq (n := 4) (L' := Ly_75) hX hT (hz.mono (Nat.le_of_ble_eq_true rfl)) wd_cl_X11_35 rfl (by decide) rfl rfl rfl (Nat.le_of_ble_eq_true rfl) (Nat.le_of_ble_eq_true rfl) dX11_init_69 rfl (fun X1 hE => ?_)
  replace hT := hT.go hE (Nat.le_of_ble_eq_true rfl)
  replace hq := hq.go hE (Nat.le_of_ble_eq_true rfl) (Nat.le_of_ble_eq_true rfl)
  replace hX := hX.go hE
  clear hE
  refine s_putF (L' := Ly_76) hX hq.ni (show FI RX11 42 11 5 RX11 TX11 12 from ⟨rfl, by decide, fw_X11, wd_fl_X11_42⟩) fp_X11 rfl rfl rfl (fun _ => ⟨rfl, rfl⟩) (f := .inr none) rfl rfl rfl dX11_init_72 ?_
  refine s_iconst (v := (nI 0)) hX dX11_init_75 rfl ?_
  refine s_istore_n (lv' := [some (vr c_xx), some (vi (nI 0))]) hX dX11_init_76 rfl rfl (Nat.le_of_ble_eq_true rfl) ?_
  refine s_iload_n hX dX11_init_77 rfl ?_
  refine s_iconst (v := (nI 4)) hX dX11_init_78 rfl ?_
  refine s_icmp_ge (tgt := 101) hX dX11_init_79 (by decide) (fun c => absurd c (by decide)) (fun _ => ?_)
  refine s_aload_n hX dX11_init_82 rfl ?_
  refine s_getr hX (show FI RX11 42 11 5 RX11 TX11 12 from ⟨rfl, by decide, fw_X11, wd_fl_X11_42⟩) (r := c_marks) (fs := [.inr (some c_tape), .inr (some c_land), .inr (some c_draft), .inr (some c_reader), .inr (some c_deeds), .inr (some c_marks), .inl true, .inr none, .inr none, .inr none, .inr none, .inr none]) rfl rfl dX11_init_83 ?_
  refine s_iload_n hX dX11_init_86 rfl ?_
  refine s_nw (ci := 1) (fs := [.inr none, .inl true, .inr none]) (L' := Ly_77) hX (hz.mono (Nat.le_of_ble_eq_true rfl)) rfl fp_X1 fw_X1 wd_cl_X11_35 wd_it_X1 wd_in_X1 rfl rfl rfl rfl rfl rfl (Nat.le_of_ble_eq_true rfl) (Nat.le_of_ble_eq_true rfl) dX11_init_87 rfl (fun X1 hE => ?_)
  replace hT := hT.go hE (Nat.le_of_ble_eq_true rfl)
  replace hq := hq.go hE (Nat.le_of_ble_eq_true rfl) (Nat.le_of_ble_eq_true rfl)
  replace hX := hX.go hE
  clear hE
  refine s_dup hX dX11_init_90 rfl ?_
  refine s_cne (as := []) (rest := [vr c_mark0, vi (nI 0), vr c_marks]) (Qn := _) hX hT (n_mark0 (hz.mono (Nat.le_of_ble_eq_true rfl)) h) mi_X1 wd_ml_X11_37 dX11_init_91 rfl (Nat.le_of_ble_eq_true rfl) rfl (by decide) ⟨Nat.le_of_ble_eq_true rfl, Nat.le_of_ble_eq_true rfl⟩ rfl rfl (fun X1 M6 hE h => ?_)
  replace hT := hT.go hE (Nat.le_of_ble_eq_true rfl)
  replace hq := hq.go hE (Nat.le_of_ble_eq_true rfl) (Nat.le_of_ble_eq_true rfl)
  replace hX := hX.go hE
  clear hE
  obtain ⟨hz, h⟩ := h
  refine s_aast (L' := Ly_82) (n := 4) (i := 0) (rs := [none, none, none, none]) (fs := [.inr (some c_mark0_times), .inl true, .inr (some c_mark0_debt)]) hX rfl rfl rfl (by decide) (by decide) (by decide) rfl dX11_init_94 ?_
  refine s_iinc (v := nI 1) (lv' := [some (vr c_xx), some (vi (nI 1))]) hX dX11_init_95 rfl rfl rfl rfl ?_
  refine s_goto (tgt := 77) hX dX11_init_98 (by decide) ?_
  refine s_iload_n hX dX11_init_77 rfl ?_
  refine s_iconst (v := (nI 4)) hX dX11_init_78 rfl ?_
  refine s_icmp_ge (tgt := 101) hX dX11_init_79 (by decide) (fun c => absurd c (by decide)) (fun _ => ?_)
  refine s_aload_n hX dX11_init_82 rfl ?_
  refine s_getr hX (show FI RX11 42 11 5 RX11 TX11 12 from ⟨rfl, by decide, fw_X11, wd_fl_X11_42⟩) (r := c_marks) (fs := [.inr (some c_tape), .inr (some c_land), .inr (some c_draft), .inr (some c_reader), .inr (some c_deeds), .inr (some c_marks), .inl true, .inr none, .inr none, .inr none, .inr none, .inr none]) rfl rfl dX11_init_83 ?_
  refine s_iload_n hX dX11_init_86 rfl ?_
  refine s_nw (ci := 1) (fs := [.inr none, .inl true, .inr none]) (L' := Ly_83) hX (hz.mono (Nat.le_of_ble_eq_true rfl)) rfl fp_X1 fw_X1 wd_cl_X11_35 wd_it_X1 wd_in_X1 rfl rfl rfl rfl rfl rfl (Nat.le_of_ble_eq_true rfl) (Nat.le_of_ble_eq_true rfl) dX11_init_87 rfl (fun X1 hE => ?_)
  replace hT := hT.go hE (Nat.le_of_ble_eq_true rfl)
  replace hq := hq.go hE (Nat.le_of_ble_eq_true rfl) (Nat.le_of_ble_eq_true rfl)
  replace hX := hX.go hE
  clear hE
  refine s_dup hX dX11_init_90 rfl ?_
  refine s_cne (as := []) (rest := [vr c_mark1, vi (nI 1), vr c_marks]) (Qn := _) hX hT (n_mark1 (hz.mono (Nat.le_of_ble_eq_true rfl)) h) mi_X1 wd_ml_X11_37 dX11_init_91 rfl (Nat.le_of_ble_eq_true rfl) rfl (by decide) ⟨Nat.le_of_ble_eq_true rfl, Nat.le_of_ble_eq_true rfl⟩ rfl rfl (fun X1 M7 hE h => ?_)
  replace hT := hT.go hE (Nat.le_of_ble_eq_true rfl)
  replace hq := hq.go hE (Nat.le_of_ble_eq_true rfl) (Nat.le_of_ble_eq_true rfl)
  replace hX := hX.go hE
  clear hE
  obtain ⟨hz, h⟩ := h
  refine s_aast (L' := Ly_88) (n := 4) (i := 1) (rs := [some c_mark0, none, none, none]) (fs := [.inr (some c_mark1_times), .inl true, .inr (some c_mark1_debt)]) hX rfl rfl rfl (by decide) (by decide) (by decide) rfl dX11_init_94 ?_
  refine s_iinc (v := nI 2) (lv' := [some (vr c_xx), some (vi (nI 2))]) hX dX11_init_95 rfl rfl rfl rfl ?_
  refine s_goto (tgt := 77) hX dX11_init_98 (by decide) ?_
  refine s_iload_n hX dX11_init_77 rfl ?_
  refine s_iconst (v := (nI 4)) hX dX11_init_78 rfl ?_
  refine s_icmp_ge (tgt := 101) hX dX11_init_79 (by decide) (fun c => absurd c (by decide)) (fun _ => ?_)
  refine s_aload_n hX dX11_init_82 rfl ?_
  refine s_getr hX (show FI RX11 42 11 5 RX11 TX11 12 from ⟨rfl, by decide, fw_X11, wd_fl_X11_42⟩) (r := c_marks) (fs := [.inr (some c_tape), .inr (some c_land), .inr (some c_draft), .inr (some c_reader), .inr (some c_deeds), .inr (some c_marks), .inl true, .inr none, .inr none, .inr none, .inr none, .inr none]) rfl rfl dX11_init_83 ?_
  refine s_iload_n hX dX11_init_86 rfl ?_
  refine s_nw (ci := 1) (fs := [.inr none, .inl true, .inr none]) (L' := Ly_89) hX (hz.mono (Nat.le_of_ble_eq_true rfl)) rfl fp_X1 fw_X1 wd_cl_X11_35 wd_it_X1 wd_in_X1 rfl rfl rfl rfl rfl rfl (Nat.le_of_ble_eq_true rfl) (Nat.le_of_ble_eq_true rfl) dX11_init_87 rfl (fun X1 hE => ?_)
  replace hT := hT.go hE (Nat.le_of_ble_eq_true rfl)
  replace hq := hq.go hE (Nat.le_of_ble_eq_true rfl) (Nat.le_of_ble_eq_true rfl)
  replace hX := hX.go hE
  clear hE
  refine s_dup hX dX11_init_90 rfl ?_
  refine s_cne (as := []) (rest := [vr c_mark2, vi (nI 2), vr c_marks]) (Qn := _) hX hT (n_mark2 (hz.mono (Nat.le_of_ble_eq_true rfl)) h) mi_X1 wd_ml_X11_37 dX11_init_91 rfl (Nat.le_of_ble_eq_true rfl) rfl (by decide) ⟨Nat.le_of_ble_eq_true rfl, Nat.le_of_ble_eq_true rfl⟩ rfl rfl (fun X1 M8 hE h => ?_)
  replace hT := hT.go hE (Nat.le_of_ble_eq_true rfl)
  replace hq := hq.go hE (Nat.le_of_ble_eq_true rfl) (Nat.le_of_ble_eq_true rfl)
  replace hX := hX.go hE
  clear hE
  obtain ⟨hz, h⟩ := h
  refine s_aast (L' := Ly_94) (n := 4) (i := 2) (rs := [some c_mark0, some c_mark1, none, none]) (fs := [.inr (some c_mark2_times), .inl true, .inr (some c_mark2_debt)]) hX rfl rfl rfl (by decide) (by decide) (by decide) rfl dX11_init_94 ?_
  refine s_iinc (v := nI 3) (lv' := [some (vr c_xx), some (vi (nI 3))]) hX dX11_init_95 rfl rfl rfl rfl ?_
  refine s_goto (tgt := 77) hX dX11_init_98 (by decide) ?_
  refine s_iload_n hX dX11_init_77 rfl ?_
  refine s_iconst (v := (nI 4)) hX dX11_init_78 rfl ?_
  refine s_icmp_ge (tgt := 101) hX dX11_init_79 (by decide) (fun c => absurd c (by decide)) (fun _ => ?_)
  refine s_aload_n hX dX11_init_82 rfl ?_
  refine s_getr hX (show FI RX11 42 11 5 RX11 TX11 12 from ⟨rfl, by decide, fw_X11, wd_fl_X11_42⟩) (r := c_marks) (fs := [.inr (some c_tape), .inr (some c_land), .inr (some c_draft), .inr (some c_reader), .inr (some c_deeds), .inr (some c_marks), .inl true, .inr none, .inr none, .inr none, .inr none, .inr none]) rfl rfl dX11_init_83 ?_
  refine s_iload_n hX dX11_init_86 rfl ?_
  refine s_nw (ci := 1) (fs := [.inr none, .inl true, .inr none]) (L' := Ly_95) hX (hz.mono (Nat.le_of_ble_eq_true rfl)) rfl fp_X1 fw_X1 wd_cl_X11_35 wd_it_X1 wd_in_X1 rfl rfl rfl rfl rfl rfl (Nat.le_of_ble_eq_true rfl) (Nat.le_of_ble_eq_true rfl) dX11_init_87 rfl (fun X1 hE => ?_)
  replace hT := hT.go hE (Nat.le_of_ble_eq_true rfl)
  replace hq := hq.go hE (Nat.le_of_ble_eq_true rfl) (Nat.le_of_ble_eq_true rfl)
  replace hX := hX.go hE
  clear hE
  refine s_dup hX dX11_init_90 rfl ?_
  refine s_cne (as := []) (rest := [vr c_mark3, vi (nI 3), vr c_marks]) (Qn := _) hX hT (n_mark3 (hz.mono (Nat.le_of_ble_eq_true rfl)) h) mi_X1 wd_ml_X11_37 dX11_init_91 rfl (Nat.le_of_ble_eq_true rfl) rfl (by decide) ⟨Nat.le_of_ble_eq_true rfl, Nat.le_of_ble_eq_true rfl⟩ rfl rfl (fun X1 M9 hE h => ?_)
  replace hT := hT.go hE (Nat.le_of_ble_eq_true rfl)
  replace hq := hq.go hE (Nat.le_of_ble_eq_true rfl) (Nat.le_of_ble_eq_true rfl)
  replace hX := hX.go hE
  clear hE
  obtain ⟨hz, h⟩ := h
  refine s_aast (L' := Ly_100) (n := 4) (i := 3) (rs := [some c_mark0, some c_mark1, some c_mark2, none]) (fs := [.inr (some c_mark3_times), .inl true, .inr (some c_mark3_debt)]) hX rfl rfl rfl (by decide) (by decide) (by decide) rfl dX11_init_94 ?_
  refine s_iinc (v := nI 4) (lv' := [some (vr c_xx), some (vi (nI 4))]) hX dX11_init_95 rfl rfl rfl rfl ?_
  refine s_goto (tgt := 77) hX dX11_init_98 (by decide) ?_
  refine s_iload_n hX dX11_init_77 rfl ?_
  refine s_iconst (v := (nI 4)) hX dX11_init_78 rfl ?_
  refine s_icmp_ge (tgt := 101) hX dX11_init_79 (by decide) (fun _ => ?_) (fun c => absurd (by decide) c)
  refine s_aload_n hX dX11_init_101 rfl ?_
  refine s_nw (ci := 3) (fs := [.inl true, .inr none, .inr none, .inr none]) (L' := Ly_101) hX (hz.mono (Nat.le_of_ble_eq_true rfl)) rfl fp_X3 fw_X3 wd_cl_X11_46 wd_it_X3 wd_in_X3 rfl rfl rfl rfl rfl rfl (Nat.le_of_ble_eq_true rfl) (Nat.le_of_ble_eq_true rfl) dX11_init_102 rfl (fun X1 hE => ?_)
  replace hT := hT.go hE (Nat.le_of_ble_eq_true rfl)
  replace hq := hq.go hE (Nat.le_of_ble_eq_true rfl) (Nat.le_of_ble_eq_true rfl)
  replace hX := hX.go hE
  clear hE
  refine s_dup hX dX11_init_105 rfl ?_
  refine s_cnn (as := []) (rest := [vr c_history, vr c_xx]) (Qn := _) hX hT (n_history (hz.mono (Nat.le_of_ble_eq_true rfl)) h) mi_X3 dX11_init_106 rfl (Nat.le_of_ble_eq_true rfl) rfl (by decide) ⟨Nat.le_of_ble_eq_true rfl, Nat.le_of_ble_eq_true rfl⟩ rfl rfl (fun X1 M10 hE h => ?_)
  replace hT := hT.go hE (Nat.le_of_ble_eq_true rfl)
  replace hq := hq.go hE (Nat.le_of_ble_eq_true rfl) (Nat.le_of_ble_eq_true rfl)
  replace hX := hX.go hE
  clear hE
  obtain ⟨hz, h⟩ := h
  refine s_putF (L' := Ly_108) hX hq.ni (show FI RX11 49 11 7 RX11 TX11 12 from ⟨rfl, by decide, fw_X11, wd_fl_X11_49⟩) fp_X11 rfl rfl rfl (fun _ => ⟨rfl, rfl⟩) (f := .inr none) rfl rfl rfl dX11_init_109 ?_
  refine s_aload_n hX dX11_init_112 rfl ?_
  refine s_nw (ci := 0) (fs := [.inr none, .inr none, .inr none, .inr none, .inr none, .inr none, .inr none, .inr none, .inr none]) (L' := Ly_109) hX (hz.mono (Nat.le_of_ble_eq_true rfl)) rfl fp_X0 fw_X0 wd_cl_X11_53 wd_it_X0 wd_in_X0 rfl rfl rfl rfl rfl rfl (Nat.le_of_ble_eq_true rfl) (Nat.le_of_ble_eq_true rfl) dX11_init_113 rfl (fun X1 hE => ?_)
  replace hT := hT.go hE (Nat.le_of_ble_eq_true rfl)
  replace hq := hq.go hE (Nat.le_of_ble_eq_true rfl) (Nat.le_of_ble_eq_true rfl)
  replace hX := hX.go hE
  clear hE
  refine s_dup hX dX11_init_116 rfl ?_
  refine s_aload_n hX dX11_init_117 rfl ?_
  refine s_getr hX (show FI RX11 19 11 1 RX11 TX11 12 from ⟨rfl, by decide, fw_X11, wd_fl_X11_19⟩) (r := c_land) (fs := [.inr (some c_tape), .inr (some c_land), .inr (some c_draft), .inr (some c_reader), .inr (some c_deeds), .inr (some c_marks), .inl true, .inr (some c_history), .inr none, .inr none, .inr none, .inr none]) rfl rfl dX11_init_118 ?_
  refine s_aload_n hX dX11_init_121 rfl ?_
  refine s_getr hX (show FI RX11 38 11 4 RX11 TX11 12 from ⟨rfl, by decide, fw_X11, wd_fl_X11_38⟩) (r := c_deeds) (fs := [.inr (some c_tape), .inr (some c_land), .inr (some c_draft), .inr (some c_reader), .inr (some c_deeds), .inr (some c_marks), .inl true, .inr (some c_history), .inr none, .inr none, .inr none, .inr none]) rfl rfl dX11_init_122 ?_
  refine s_cne (as := [vr c_land, vr c_deeds]) (rest := [vr c_debts, vr c_xx]) (Qn := _) hX hT (n_debts (hz.mono (Nat.le_of_ble_eq_true rfl)) h) mi_X0 wd_ml_X11_55 dX11_init_125 rfl (Nat.le_of_ble_eq_true rfl) rfl (by decide) ⟨Nat.le_of_ble_eq_true rfl, Nat.le_of_ble_eq_true rfl⟩ rfl rfl (fun X1 M11 hE h => ?_)
  replace hT := hT.go hE (Nat.le_of_ble_eq_true rfl)
  replace hq := hq.go hE (Nat.le_of_ble_eq_true rfl) (Nat.le_of_ble_eq_true rfl)
  replace hX := hX.go hE
  clear hE
  obtain ⟨hz, h⟩ := h
  refine s_putF (L' := Ly_126) hX hq.ni (show FI RX11 58 11 8 RX11 TX11 12 from ⟨rfl, by decide, fw_X11, wd_fl_X11_58⟩) fp_X11 rfl rfl rfl (fun _ => ⟨rfl, rfl⟩) (f := .inr none) rfl rfl rfl dX11_init_128 ?_
  refine s_aload_n hX dX11_init_131 rfl ?_
  refine s_nw (ci := 2) (fs := [.inr none, .inr none, .inr none, .inl true, .inl true, .inl true, .inl true, .inl true, .inr none, .inr none]) (L' := Ly_127) hX (hz.mono (Nat.le_of_ble_eq_true rfl)) rfl fp_X2 fw_X2 wd_cl_X11_62 wd_it_X2 wd_in_X2 rfl rfl rfl rfl rfl rfl (Nat.le_of_ble_eq_true rfl) (Nat.le_of_ble_eq_true rfl) dX11_init_132 rfl (fun X1 hE => ?_)
  replace hT := hT.go hE (Nat.le_of_ble_eq_true rfl)
  replace hq := hq.go hE (Nat.le_of_ble_eq_true rfl) (Nat.le_of_ble_eq_true rfl)
  replace hX := hX.go hE
  clear hE
  refine s_dup hX dX11_init_135 rfl ?_
  refine s_aload_n hX dX11_init_136 rfl ?_
  refine s_getr hX (show FI RX11 19 11 1 RX11 TX11 12 from ⟨rfl, by decide, fw_X11, wd_fl_X11_19⟩) (r := c_land) (fs := [.inr (some c_tape), .inr (some c_land), .inr (some c_draft), .inr (some c_reader), .inr (some c_deeds), .inr (some c_marks), .inl true, .inr (some c_history), .inr (some c_debts), .inr none, .inr none, .inr none]) rfl rfl dX11_init_137 ?_
  refine s_aload_n hX dX11_init_140 rfl ?_
  refine s_getr hX (show FI RX11 38 11 4 RX11 TX11 12 from ⟨rfl, by decide, fw_X11, wd_fl_X11_38⟩) (r := c_deeds) (fs := [.inr (some c_tape), .inr (some c_land), .inr (some c_draft), .inr (some c_reader), .inr (some c_deeds), .inr (some c_marks), .inl true, .inr (some c_history), .inr (some c_debts), .inr none, .inr none, .inr none]) rfl rfl dX11_init_141 ?_
  refine s_aload_n hX dX11_init_144 rfl ?_
  refine s_getr hX (show FI RX11 58 11 8 RX11 TX11 12 from ⟨rfl, by decide, fw_X11, wd_fl_X11_58⟩) (r := c_debts) (fs := [.inr (some c_tape), .inr (some c_land), .inr (some c_draft), .inr (some c_reader), .inr (some c_deeds), .inr (some c_marks), .inl true, .inr (some c_history), .inr (some c_debts), .inr none, .inr none, .inr none]) rfl rfl dX11_init_145 ?_
  refine s_cne (as := [vr c_land, vr c_deeds, vr c_debts]) (rest := [vr c_game, vr c_xx]) (Qn := _) hX hT (n_game (hz.mono (Nat.le_of_ble_eq_true rfl)) h) mi_X2 wd_ml_X11_64 dX11_init_148 rfl (Nat.le_of_ble_eq_true rfl) rfl (by decide) ⟨Nat.le_of_ble_eq_true rfl, Nat.le_of_ble_eq_true rfl⟩ rfl rfl (fun X1 M12 hE h => ?_)
  replace hT := hT.go hE (Nat.le_of_ble_eq_true rfl)
  replace hq := hq.go hE (Nat.le_of_ble_eq_true rfl) (Nat.le_of_ble_eq_true rfl)
  replace hX := hX.go hE
  clear hE
  obtain ⟨hz, h⟩ := h
  refine s_putF (L' := Ly_135) hX hq.ni (show FI RX11 67 11 9 RX11 TX11 12 from ⟨rfl, by decide, fw_X11, wd_fl_X11_67⟩) fp_X11 rfl rfl rfl (fun _ => ⟨rfl, rfl⟩) (f := .inr none) rfl rfl rfl dX11_init_151 ?_
  refine s_aload_n hX dX11_init_154 rfl ?_
  refine s_nw (ci := 9) (fs := [.inr none, .inr none, .inr none, .inl true, .inl true, .inr none, .inl true, .inr none, .inr none]) (L' := Ly_136) hX (hz.mono (Nat.le_of_ble_eq_true rfl)) rfl fp_X9 fw_X9 wd_cl_X11_71 wd_it_X9 wd_in_X9 rfl rfl rfl rfl rfl rfl (Nat.le_of_ble_eq_true rfl) (Nat.le_of_ble_eq_true rfl) dX11_init_155 rfl (fun X1 hE => ?_)
  replace hT := hT.go hE (Nat.le_of_ble_eq_true rfl)
  replace hq := hq.go hE (Nat.le_of_ble_eq_true rfl) (Nat.le_of_ble_eq_true rfl)
  replace hX := hX.go hE
  clear hE
  refine s_dup hX dX11_init_158 rfl ?_
  refine s_aload_n hX dX11_init_159 rfl ?_
  refine s_getr hX (show FI RX11 19 11 1 RX11 TX11 12 from ⟨rfl, by decide, fw_X11, wd_fl_X11_19⟩) (r := c_land) (fs := [.inr (some c_tape), .inr (some c_land), .inr (some c_draft), .inr (some c_reader), .inr (some c_deeds), .inr (some c_marks), .inl true, .inr (some c_history), .inr (some c_debts), .inr (some c_game), .inr none, .inr none]) rfl rfl dX11_init_160 ?_
  refine s_aload_n hX dX11_init_163 rfl ?_
  refine s_getr hX (show FI RX11 38 11 4 RX11 TX11 12 from ⟨rfl, by decide, fw_X11, wd_fl_X11_38⟩) (r := c_deeds) (fs := [.inr (some c_tape), .inr (some c_land), .inr (some c_draft), .inr (some c_reader), .inr (some c_deeds), .inr (some c_marks), .inl true, .inr (some c_history), .inr (some c_debts), .inr (some c_game), .inr none, .inr none]) rfl rfl dX11_init_164 ?_
  refine s_aload_n hX dX11_init_167 rfl ?_
  refine s_getr hX (show FI RX11 58 11 8 RX11 TX11 12 from ⟨rfl, by decide, fw_X11, wd_fl_X11_58⟩) (r := c_debts) (fs := [.inr (some c_tape), .inr (some c_land), .inr (some c_draft), .inr (some c_reader), .inr (some c_deeds), .inr (some c_marks), .inl true, .inr (some c_history), .inr (some c_debts), .inr (some c_game), .inr none, .inr none]) rfl rfl dX11_init_168 ?_
  refine s_cne (as := [vr c_land, vr c_deeds, vr c_debts]) (rest := [vr c_songs, vr c_xx]) (Qn := _) hX hT (n_songs (hz.mono (Nat.le_of_ble_eq_true rfl)) h) mi_X9 wd_ml_X11_73 dX11_init_171 rfl (Nat.le_of_ble_eq_true rfl) rfl (by decide) ⟨Nat.le_of_ble_eq_true rfl, Nat.le_of_ble_eq_true rfl⟩ rfl rfl (fun X1 M13 hE h => ?_)
  replace hT := hT.go hE (Nat.le_of_ble_eq_true rfl)
  replace hq := hq.go hE (Nat.le_of_ble_eq_true rfl) (Nat.le_of_ble_eq_true rfl)
  replace hX := hX.go hE
  clear hE
  obtain ⟨hz, h⟩ := h
  refine s_putF (L' := Ly_146) hX hq.ni (show FI RX11 74 11 10 RX11 TX11 12 from ⟨rfl, by decide, fw_X11, wd_fl_X11_74⟩) fp_X11 rfl rfl rfl (fun _ => ⟨rfl, rfl⟩) (f := .inr none) rfl rfl rfl dX11_init_174 ?_
  refine s_aload_n hX dX11_init_177 rfl ?_
  refine s_nw (ci := 4) (fs := [.inr none, .inr none, .inr none, .inr none, .inr none]) (L' := Ly_147) hX (hz.mono (Nat.le_of_ble_eq_true rfl)) rfl fp_X4 fw_X4 wd_cl_X11_78 wd_it_X4 wd_in_X4 rfl rfl rfl rfl rfl rfl (Nat.le_of_ble_eq_true rfl) (Nat.le_of_ble_eq_true rfl) dX11_init_178 rfl (fun X1 hE => ?_)
  replace hT := hT.go hE (Nat.le_of_ble_eq_true rfl)
  replace hq := hq.go hE (Nat.le_of_ble_eq_true rfl) (Nat.le_of_ble_eq_true rfl)
  replace hX := hX.go hE
  clear hE
  refine s_dup hX dX11_init_181 rfl ?_
  refine s_aload_n hX dX11_init_182 rfl ?_
  refine s_getr hX (show FI RX11 19 11 1 RX11 TX11 12 from ⟨rfl, by decide, fw_X11, wd_fl_X11_19⟩) (r := c_land) (fs := [.inr (some c_tape), .inr (some c_land), .inr (some c_draft), .inr (some c_reader), .inr (some c_deeds), .inr (some c_marks), .inl true, .inr (some c_history), .inr (some c_debts), .inr (some c_game), .inr (some c_songs), .inr none]) rfl rfl dX11_init_183 ?_
  refine s_aload_n hX dX11_init_186 rfl ?_
  refine s_getr hX (show FI RX11 38 11 4 RX11 TX11 12 from ⟨rfl, by decide, fw_X11, wd_fl_X11_38⟩) (r := c_deeds) (fs := [.inr (some c_tape), .inr (some c_land), .inr (some c_draft), .inr (some c_reader), .inr (some c_deeds), .inr (some c_marks), .inl true, .inr (some c_history), .inr (some c_debts), .inr (some c_game), .inr (some c_songs), .inr none]) rfl rfl dX11_init_187 ?_
  refine s_aload_n hX dX11_init_190 rfl ?_
  refine s_getr hX (show FI RX11 58 11 8 RX11 TX11 12 from ⟨rfl, by decide, fw_X11, wd_fl_X11_58⟩) (r := c_debts) (fs := [.inr (some c_tape), .inr (some c_land), .inr (some c_draft), .inr (some c_reader), .inr (some c_deeds), .inr (some c_marks), .inl true, .inr (some c_history), .inr (some c_debts), .inr (some c_game), .inr (some c_songs), .inr none]) rfl rfl dX11_init_191 ?_
  refine s_cne (as := [vr c_land, vr c_deeds, vr c_debts]) (rest := [vr c_juneDay, vr c_xx]) (Qn := _) hX hT (n_juneDay (hz.mono (Nat.le_of_ble_eq_true rfl)) h) mi_X4 wd_ml_X11_80 dX11_init_194 rfl (Nat.le_of_ble_eq_true rfl) rfl (by decide) ⟨Nat.le_of_ble_eq_true rfl, Nat.le_of_ble_eq_true rfl⟩ rfl rfl (fun X1 M14 hE h => ?_)
  replace hT := hT.go hE (Nat.le_of_ble_eq_true rfl)
  replace hq := hq.go hE (Nat.le_of_ble_eq_true rfl) (Nat.le_of_ble_eq_true rfl)
  replace hX := hX.go hE
  clear hE
  obtain ⟨hz, h⟩ := h
  refine s_putF (L' := Ly_155) hX hq.ni (show FI RX11 81 11 11 RX11 TX11 12 from ⟨rfl, by decide, fw_X11, wd_fl_X11_81⟩) fp_X11 rfl rfl rfl (fun _ => ⟨rfl, rfl⟩) (f := .inr none) rfl rfl rfl dX11_init_197 ?_
  exact s_vretn hX hq rfl dX11_init_200 h)
