def w_Top_call_j68 (l1 : Int32) (l2 : Int32) (l3 : Int32) (l4 : Int32) (M : Mem) (Q : Bool → Mem → Prop) : Prop :=
  w_Hist_remember l1 l2 l4 M (fun M413 => (vp_in ((l1 * 24) + l2) 120 ∧ Q true (si M413 c_deeds_times (Int32.toNatClampNeg ((l1 * 24) + l2)) l3)))
set_option maxHeartbeats 4000000 in
theorem t_Top_call_j68 {X : Cx} (hX : Cok X cX11_call RX11 5 ((some .boolean)) 3 0 0) {Q : Bool → Mem → Prop} (hq : RI X 0 0 LY (bQ Q)) {l1 : Int32} {l2 : Int32} {l3 : Int32} {l4 : Int32} {M : Mem} (h : w_Top_call_j68 l1 l2 l3 l4 M Q) : Wat X 0 0 LY 68 [some (vr c_xx), some (vi l1), some (vi l2), some (vi l3), some (vi l4)] [] M := by
  refine s_aload_n hX dX11_call_68 rfl ?_
  refine s_getr hX fi_X11_49 ly_c_xx rfl dX11_call_69 ?_
  refine s_iload_n hX dX11_call_72 rfl ?_
  refine s_iload_n hX dX11_call_73 rfl ?_
  refine s_iload hX dX11_call_74 rfl ?_
  refine s_cvv (as := [vi l1, vi l2, vi l4]) (rest := []) hX (c_Hist_remember h) mv_Hist_remember wd_ml_X11_184 dX11_call_76 ly_c_history rfl rfl (Nat.le_of_ble_eq_true rfl) rfl (by decide) ⟨Nat.zero_le _, Nat.zero_le _⟩ (fun M413 h => ?_)
  refine s_aload_n hX dX11_call_79 rfl ?_
  refine s_getr hX fi_X11_38 ly_c_xx rfl dX11_call_80 ?_
  refine s_getr hX fi_X11_143 ly_c_deeds rfl dX11_call_83 ?_
  refine s_iload_n hX dX11_call_86 rfl ?_
  refine s_bipush (v := 24) hX dX11_call_87 rfl ?_
  refine s_imul hX dX11_call_89 ?_
  refine s_iload_n hX dX11_call_90 rfl ?_
  refine s_iadd hX dX11_call_91 ?_
  refine s_iload_n hX dX11_call_92 rfl ?_
  have hi := h.1
  replace h := h.2
  refine s_iast hX ly_c_deeds_times hi dX11_call_93 ?_
  refine s_iconst (v := 1) hX dX11_call_94 rfl ?_
  exact s_zret hX true hq rfl dX11_call_95 rfl h
def w_Top_call (a0 : Int32) (a1 : Int32) (a2 : Int32) (M : Mem) (Q : Bool → Mem → Prop) : Prop :=
  w_Top_isBird a0 M (fun b408 M407 => ((b408 = false → Q false M407) ∧ (b408 = true → w_Top_isHour a1 M407 (fun b410 M409 => ((b410 = false → Q false M409) ∧ (b410 = true → ((a2 < 0 → Q false M409) ∧ (¬ a2 < 0 → ((a2 ≤ 9 → (vp_in ((a0 * 24) + a1) 120 ∧ ∀ x411 : Int32, x411 = (M409.1 c_deeds_times (Int32.toNatClampNeg ((a0 * 24) + a1))) → ((x411 = a2 → Q false M409) ∧ (¬ x411 = a2 → ((¬ x411 = 0 → w_Top_call_j68 a0 a1 a2 x411 M409 Q) ∧ (x411 = 0 → w_Deeds_callCount M409 (fun r419 M418 => ((r419 < 30 → w_Top_call_j68 a0 a1 a2 x411 M418 Q) ∧ (¬ r419 < 30 → Q false M418))))))))) ∧ (¬ a2 ≤ 9 → Q false M409))))))))))
set_option maxHeartbeats 4000000 in
theorem t_Top_call {X : Cx} (hX : Cok X cX11_call RX11 5 ((some .boolean)) 3 0 0) {Q : Bool → Mem → Prop} (hq : RI X 0 0 LY (bQ Q)) {M : Mem} {a0 : Int32} {a1 : Int32} {a2 : Int32} (h : w_Top_call a0 a1 a2 M Q) : Wat X 0 0 LY 0 [some (vr c_xx), some (vi a0), some (vi a1), some (vi a2), none] [] M := by
  refine s_aload_n hX dX11_call_0 rfl ?_
  refine s_iload_n hX dX11_call_1 rfl ?_
  refine s_cvi (as := [vi a0]) (rest := []) hX (c_Top_isBird h) mv_Top_isBird wd_ml_X11_130 dX11_call_2 ly_c_xx rfl rfl (Nat.le_of_ble_eq_true rfl) rfl (by decide) ⟨Nat.zero_le _, Nat.zero_le _⟩ (fun b408_ M407 h => ?_)
  obtain ⟨b408, rfl, h⟩ := h
  refine s_if_eq (tgt := 25) hX dX11_call_5 (by decide) (fun c => ?_) (fun c => ?_)
  · replace h := h.1 (b2i_0 c)
    refine s_iconst (v := 0) hX dX11_call_25 rfl ?_
    exact s_zret hX false hq rfl dX11_call_26 rfl h
  · replace h := h.2 (b2i_1 c)
    refine s_iload_n hX dX11_call_8 rfl ?_
    refine s_csi (as := [vi a1]) (rest := []) hX (c_Top_isHour h) ms_Top_isHour wd_ml_X11_124 dX11_call_9 rfl (Nat.le_of_ble_eq_true rfl) rfl (by decide) ⟨Nat.zero_le _, Nat.zero_le _⟩ (fun b410_ M409 h => ?_)
    obtain ⟨b410, rfl, h⟩ := h
    refine s_if_eq (tgt := 25) hX dX11_call_12 (by decide) (fun c => ?_) (fun c => ?_)
    · replace h := h.1 (b2i_0 c)
      refine s_iconst (v := 0) hX dX11_call_25 rfl ?_
      exact s_zret hX false hq rfl dX11_call_26 rfl h
    · replace h := h.2 (b2i_1 c)
      refine s_iload_n hX dX11_call_15 rfl ?_
      refine s_if_lt (tgt := 25) hX dX11_call_16 (by decide) (fun c => ?_) (fun c => ?_)
      · replace h := h.1 c
        refine s_iconst (v := 0) hX dX11_call_25 rfl ?_
        exact s_zret hX false hq rfl dX11_call_26 rfl h
      · replace h := h.2 c
        refine s_iload_n hX dX11_call_19 rfl ?_
        refine s_bipush (v := 9) hX dX11_call_20 rfl ?_
        refine s_icmp_le (tgt := 27) hX dX11_call_22 (by decide) (fun c => ?_) (fun c => ?_)
        · replace h := h.1 c
          refine s_aload_n hX dX11_call_27 rfl ?_
          refine s_getr hX fi_X11_38 ly_c_xx rfl dX11_call_28 ?_
          refine s_getr hX fi_X11_143 ly_c_deeds rfl dX11_call_31 ?_
          refine s_iload_n hX dX11_call_34 rfl ?_
          refine s_bipush (v := 24) hX dX11_call_35 rfl ?_
          refine s_imul hX dX11_call_37 ?_
          refine s_iload_n hX dX11_call_38 rfl ?_
          refine s_iadd hX dX11_call_39 ?_
          have hi := h.1
          replace h := h.2
          refine s_ialdv (v := (M409.1 c_deeds_times (Int32.toNatClampNeg ((a0 * 24) + a1)))) hX ly_c_deeds_times hi dX11_call_40 rfl ?_
          refine s_nmi (fun x411 ex411 => ?_)
          replace h := h x411 ex411
          refine s_istore (lv' := [some (vr c_xx), some (vi a0), some (vi a1), some (vi a2), some (vi x411)]) hX dX11_call_41 rfl rfl (Nat.le_of_ble_eq_true rfl) ?_
          refine s_iload hX dX11_call_43 rfl ?_
          refine s_iload_n hX dX11_call_45 rfl ?_
          refine s_icmp_eq (tgt := 66) hX dX11_call_46 (by decide) (fun c => ?_) (fun c => ?_)
          · replace h := h.1 c
            refine s_iconst (v := 0) hX dX11_call_66 rfl ?_
            exact s_zret hX false hq rfl dX11_call_67 rfl h
          · replace h := h.2 c
            refine s_iload hX dX11_call_49 rfl ?_
            refine s_if_ne (tgt := 68) hX dX11_call_51 (by decide) (fun c => ?_) (fun c => ?_)
            · replace h := h.1 c
              exact t_Top_call_j68 hX hq h
            · replace h := h.2 c
              refine s_aload_n hX dX11_call_54 rfl ?_
              refine s_getr hX fi_X11_38 ly_c_xx rfl dX11_call_55 ?_
              refine s_cvi (as := []) (rest := []) hX (c_Deeds_callCount h) mv_Deeds_callCount wd_ml_X11_181 dX11_call_58 ly_c_deeds rfl rfl (Nat.le_of_ble_eq_true rfl) rfl (by decide) ⟨Nat.zero_le _, Nat.zero_le _⟩ (fun r419 M418 h => ?_)
              refine s_bipush (v := 30) hX dX11_call_61 rfl ?_
              refine s_icmp_lt (tgt := 68) hX dX11_call_63 (by decide) (fun c => ?_) (fun c => ?_)
              · replace h := h.1 c
                exact t_Top_call_j68 hX hq h
              · replace h := h.2 c
                refine s_iconst (v := 0) hX dX11_call_66 rfl ?_
                exact s_zret hX false hq rfl dX11_call_67 rfl h
        · replace h := h.2 c
          refine s_iconst (v := 0) hX dX11_call_25 rfl ?_
          exact s_zret hX false hq rfl dX11_call_26 rfl h
theorem c_Top_call {a0 : Int32} {a1 : Int32} {a2 : Int32} {M : Mem} {Q : Bool → Mem → Prop} (h : w_Top_call a0 a1 a2 M Q) : CI yX11_call cX11_call 5 ((some .boolean)) 3 0 0 LY LY [vr c_xx, vi a0, vi a1, vi a2] M (bQ Q) := mk_i rfl wd_co_X11_call rfl rfl (Nat.le_of_ble_eq_true rfl) (fun X hX hq => t_Top_call hX hq h)
theorem mv_Top_call : MV yX11_call cX11_call 5 ((some .boolean)) RX11 3 := ⟨wd_co_X11_call, wd_im_X11_call, wd_se_X11_call, wd_in_X11, by decide +kernel, by decide⟩
def w_Deeds_isShot (a0 : Int32) (M : Mem) (Q : Bool → Mem → Prop) : Prop :=
  (∃ bb : Bool, (if (((M.1 c_deeds Deeds_shot) >>> (a0 &&& 31)) &&& 1) = 0 then (0 : Int32) else 1) = b2i bb ∧ Q bb M)
set_option maxHeartbeats 4000000 in
theorem t_Deeds_isShot {X : Cx} (hX : Cok X cX1_isShot RX1 2 ((some .boolean)) 1 0 0) {Q : Bool → Mem → Prop} (hq : RI X 0 0 LY (bQ Q)) {M : Mem} {a0 : Int32} (h : w_Deeds_isShot a0 M Q) : Wat X 0 0 LY 0 [some (vr c_deeds), some (vi a0)] [] M := by
  refine s_aload_n hX dX1_isShot_0 rfl ?_
  refine s_getiv (v := (M.1 c_deeds Deeds_shot)) hX fi_X1_33 ly_c_deeds rfl dX1_isShot_1 rfl ?_
  refine s_iload_n hX dX1_isShot_4 rfl ?_
  refine s_ishr hX dX1_isShot_5 ?_
  refine s_iconst (v := 1) hX dX1_isShot_6 rfl ?_
  refine s_iand hX dX1_isShot_7 ?_
  have hJ : Wat X 0 0 LY 16 [some (vr c_deeds), some (vi a0)] [vi (if (((M.1 c_deeds Deeds_shot) >>> (a0 &&& 31)) &&& 1) = 0 then (0 : Int32) else 1)] M := by
    obtain ⟨bb, hbb, h⟩ := h
    exact s_zret hX bb hq rfl dX1_isShot_16 hbb h
  refine s_if_eq (tgt := 15) hX dX1_isShot_8 (by decide) (fun c => ?_) (fun c => ?_)
  · rw [if_pos c] at hJ
    refine s_iconst (v := 0) hX dX1_isShot_15 rfl ?_
    exact hJ
  · rw [if_neg c] at hJ
    refine s_iconst (v := 1) hX dX1_isShot_11 rfl ?_
    refine s_goto (tgt := 16) hX dX1_isShot_12 (by decide) ?_
    exact hJ
theorem c_Deeds_isShot {a0 : Int32} {M : Mem} {Q : Bool → Mem → Prop} (h : w_Deeds_isShot a0 M Q) : CI yX1_isShot cX1_isShot 2 ((some .boolean)) 1 0 0 LY LY [vr c_deeds, vi a0] M (bQ Q) := mk_i rfl wd_co_X1_isShot rfl rfl (Nat.le_of_ble_eq_true rfl) (fun X hX hq => t_Deeds_isShot hX hq h)
theorem mv_Deeds_isShot : MV yX1_isShot cX1_isShot 2 ((some .boolean)) RX1 1 := ⟨wd_co_X1_isShot, wd_im_X1_isShot, wd_se_X1_isShot, wd_in_X1, by decide +kernel, by decide⟩
def w_Top_shoot (a0 : Int32) (a1 : Int32) (M : Mem) (Q : Bool → Mem → Prop) : Prop :=
  w_Top_isBird a0 M (fun b421 M420 => ((b421 = false → Q false M420) ∧ (b421 = true → w_Deeds_isShot a0 M420 (fun b423 M422 => ((¬ (b2i b423) = a1 → w_Hist_remember a0 (-1) 0 M422 (fun M424 => Q true (si M424 c_deeds Deeds_shot ((M424.1 c_deeds Deeds_shot) ^^^ (1 <<< (a0 &&& 31)))))) ∧ ((b2i b423) = a1 → Q false M422))))))
set_option maxHeartbeats 4000000 in
theorem t_Top_shoot {X : Cx} (hX : Cok X cX11_shoot RX11 3 ((some .boolean)) 3 0 0) {Q : Bool → Mem → Prop} (hq : RI X 0 0 LY (bQ Q)) {M : Mem} {a0 : Int32} {a1 : Int32} (h : w_Top_shoot a0 a1 M Q) : Wat X 0 0 LY 0 [some (vr c_xx), some (vi a0), some (vi a1)] [] M := by
  refine s_aload_n hX dX11_shoot_0 rfl ?_
  refine s_iload_n hX dX11_shoot_1 rfl ?_
  refine s_cvi (as := [vi a0]) (rest := []) hX (c_Top_isBird h) mv_Top_isBird wd_ml_X11_130 dX11_shoot_2 ly_c_xx rfl rfl (Nat.le_of_ble_eq_true rfl) rfl (by decide) ⟨Nat.zero_le _, Nat.zero_le _⟩ (fun b421_ M420 h => ?_)
  obtain ⟨b421, rfl, h⟩ := h
  refine s_if_eq (tgt := 20) hX dX11_shoot_5 (by decide) (fun c => ?_) (fun c => ?_)
  · replace h := h.1 (b2i_0 c)
    refine s_iconst (v := 0) hX dX11_shoot_20 rfl ?_
    exact s_zret hX false hq rfl dX11_shoot_21 rfl h
  · replace h := h.2 (b2i_1 c)
    refine s_aload_n hX dX11_shoot_8 rfl ?_
    refine s_getr hX fi_X11_38 ly_c_xx rfl dX11_shoot_9 ?_
    refine s_iload_n hX dX11_shoot_12 rfl ?_
    refine s_cvi (as := [vi a0]) (rest := []) hX (c_Deeds_isShot h) mv_Deeds_isShot wd_ml_X11_188 dX11_shoot_13 ly_c_deeds rfl rfl (Nat.le_of_ble_eq_true rfl) rfl (by decide) ⟨Nat.zero_le _, Nat.zero_le _⟩ (fun b423_ M422 h => ?_)
    obtain ⟨b423, rfl, h⟩ := h
    refine s_iload_n hX dX11_shoot_16 rfl ?_
    refine s_icmp_ne (tgt := 22) hX dX11_shoot_17 (by decide) (fun c => ?_) (fun c => ?_)
    · replace h := h.1 c
      refine s_aload_n hX dX11_shoot_22 rfl ?_
      refine s_getr hX fi_X11_49 ly_c_xx rfl dX11_shoot_23 ?_
      refine s_iload_n hX dX11_shoot_26 rfl ?_
      refine s_iconst (v := (-1)) hX dX11_shoot_27 rfl ?_
      refine s_iconst (v := 0) hX dX11_shoot_28 rfl ?_
      refine s_cvv (as := [vi a0, vi (-1), vi 0]) (rest := []) hX (c_Hist_remember h) mv_Hist_remember wd_ml_X11_184 dX11_shoot_29 ly_c_history rfl rfl (Nat.le_of_ble_eq_true rfl) rfl (by decide) ⟨Nat.zero_le _, Nat.zero_le _⟩ (fun M424 h => ?_)
      refine s_aload_n hX dX11_shoot_32 rfl ?_
      refine s_getr hX fi_X11_38 ly_c_xx rfl dX11_shoot_33 ?_
      refine s_dup hX dX11_shoot_36 rfl ?_
      refine s_getiv (v := (M424.1 c_deeds Deeds_shot)) hX fi_X11_136 ly_c_deeds rfl dX11_shoot_37 rfl ?_
      refine s_iconst (v := 1) hX dX11_shoot_40 rfl ?_
      refine s_iload_n hX dX11_shoot_41 rfl ?_
      refine s_ishl hX dX11_shoot_42 ?_
      refine s_ixor hX dX11_shoot_43 ?_
      refine s_puti hX fi_X11_136 fp_X1 rfl (by decide +kernel) ly_c_deeds rfl dX11_shoot_44 ?_
      refine s_iconst (v := 1) hX dX11_shoot_47 rfl ?_
      exact s_zret hX true hq rfl dX11_shoot_48 rfl h
    · replace h := h.2 c
      refine s_iconst (v := 0) hX dX11_shoot_20 rfl ?_
      exact s_zret hX false hq rfl dX11_shoot_21 rfl h
theorem c_Top_shoot {a0 : Int32} {a1 : Int32} {M : Mem} {Q : Bool → Mem → Prop} (h : w_Top_shoot a0 a1 M Q) : CI yX11_shoot cX11_shoot 3 ((some .boolean)) 3 0 0 LY LY [vr c_xx, vi a0, vi a1] M (bQ Q) := mk_i rfl wd_co_X11_shoot rfl rfl (Nat.le_of_ble_eq_true rfl) (fun X hX hq => t_Top_shoot hX hq h)
theorem mv_Top_shoot : MV yX11_shoot cX11_shoot 3 ((some .boolean)) RX11 2 := ⟨wd_co_X11_shoot, wd_im_X11_shoot, wd_se_X11_shoot, wd_in_X11, by decide +kernel, by decide⟩
def w_Hist_takeBack (M : Mem) (Q : Bool → Mem → Prop) : Prop :=
  ((0 < (M.1 c_history Hist_size) → (vp_in ((M.1 c_history Hist_size) - 1) 20 ∧ ((¬ (M.1 c_history_hours (Int32.toNatClampNeg ((M.1 c_history Hist_size) - 1))) = (-1) → (vp_in ((M.1 c_history Hist_size) - 1) 20 ∧ (vp_in ((M.1 c_history Hist_size) - 1) 20 ∧ (vp_in ((M.1 c_history Hist_size) - 1) 20 ∧ (vp_in (((M.1 c_history_birds (Int32.toNatClampNeg ((M.1 c_history Hist_size) - 1))) * 24) + (M.1 c_history_hours (Int32.toNatClampNeg ((M.1 c_history Hist_size) - 1)))) 120 ∧ Q true (si (si M c_history Hist_size ((M.1 c_history Hist_size) - 1)) c_deeds_times (Int32.toNatClampNeg (((M.1 c_history_birds (Int32.toNatClampNeg ((M.1 c_history Hist_size) - 1))) * 24) + (M.1 c_history_hours (Int32.toNatClampNeg ((M.1 c_history Hist_size) - 1))))) (M.1 c_history_before (Int32.toNatClampNeg ((M.1 c_history Hist_size) - 1))))))))) ∧ ((M.1 c_history_hours (Int32.toNatClampNeg ((M.1 c_history Hist_size) - 1))) = (-1) → (vp_in ((M.1 c_history Hist_size) - 1) 20 ∧ Q true (si (si M c_history Hist_size ((M.1 c_history Hist_size) - 1)) c_deeds Deeds_shot ((M.1 c_deeds Deeds_shot) ^^^ (1 <<< ((M.1 c_history_birds (Int32.toNatClampNeg ((M.1 c_history Hist_size) - 1))) &&& 31))))))))) ∧ (¬ 0 < (M.1 c_history Hist_size) → Q false M))
set_option maxHeartbeats 4000000 in
theorem t_Hist_takeBack {X : Cx} (hX : Cok X cX3_takeBack RX3 2 ((some .boolean)) 1 0 0) {Q : Bool → Mem → Prop} (hq : RI X 0 0 LY (bQ Q)) {M : Mem} (h : w_Hist_takeBack M Q) : Wat X 0 0 LY 0 [some (vr c_history), some (vr c_deeds)] [] M := by
  refine s_aload_n hX dX3_takeBack_0 rfl ?_
  refine s_getiv (v := (M.1 c_history Hist_size)) hX fi_X3_21 ly_c_history rfl dX3_takeBack_1 rfl ?_
  refine s_if_gt (tgt := 9) hX dX3_takeBack_4 (by decide) (fun c => ?_) (fun c => ?_)
  · replace h := h.1 c
    refine s_aload_n hX dX3_takeBack_9 rfl ?_
    refine s_dup hX dX3_takeBack_10 rfl ?_
    refine s_getiv (v := (M.1 c_history Hist_size)) hX fi_X3_21 ly_c_history rfl dX3_takeBack_11 rfl ?_
    refine s_iconst (v := 1) hX dX3_takeBack_14 rfl ?_
    refine s_isub hX dX3_takeBack_15 ?_
    refine s_puti hX fi_X3_21 fp_X3 rfl (by decide +kernel) ly_c_history rfl dX3_takeBack_16 ?_
    refine s_aload_n hX dX3_takeBack_19 rfl ?_
    refine s_getr hX fi_X3_15 ly_c_history rfl dX3_takeBack_20 ?_
    refine s_aload_n hX dX3_takeBack_23 rfl ?_
    refine s_getiv (v := ((M.1 c_history Hist_size) - 1)) hX fi_X3_21 ly_c_history rfl dX3_takeBack_24 rfl ?_
    have hi := h.1
    replace h := h.2
    refine s_ialdv (v := (M.1 c_history_hours (Int32.toNatClampNeg ((M.1 c_history Hist_size) - 1)))) hX ly_c_history_hours hi dX3_takeBack_27 rfl ?_
    refine s_iconst (v := (-1)) hX dX3_takeBack_28 rfl ?_
    refine s_icmp_ne (tgt := 55) hX dX3_takeBack_29 (by decide) (fun c => ?_) (fun c => ?_)
    · replace h := h.1 c
      refine s_aload_n hX dX3_takeBack_55 rfl ?_
      refine s_getr hX fi_X3_33 ly_c_deeds rfl dX3_takeBack_56 ?_
      refine s_aload_n hX dX3_takeBack_59 rfl ?_
      refine s_getr hX fi_X3_11 ly_c_history rfl dX3_takeBack_60 ?_
      refine s_aload_n hX dX3_takeBack_63 rfl ?_
      refine s_getiv (v := ((M.1 c_history Hist_size) - 1)) hX fi_X3_21 ly_c_history rfl dX3_takeBack_64 rfl ?_
      have hi := h.1
      replace h := h.2
      refine s_ialdv (v := (M.1 c_history_birds (Int32.toNatClampNeg ((M.1 c_history Hist_size) - 1)))) hX ly_c_history_birds hi dX3_takeBack_67 rfl ?_
      refine s_bipush (v := 24) hX dX3_takeBack_68 rfl ?_
      refine s_imul hX dX3_takeBack_70 ?_
      refine s_aload_n hX dX3_takeBack_71 rfl ?_
      refine s_getr hX fi_X3_15 ly_c_history rfl dX3_takeBack_72 ?_
      refine s_aload_n hX dX3_takeBack_75 rfl ?_
      refine s_getiv (v := ((M.1 c_history Hist_size) - 1)) hX fi_X3_21 ly_c_history rfl dX3_takeBack_76 rfl ?_
      have hi := h.1
      replace h := h.2
      refine s_ialdv (v := (M.1 c_history_hours (Int32.toNatClampNeg ((M.1 c_history Hist_size) - 1)))) hX ly_c_history_hours hi dX3_takeBack_79 rfl ?_
      refine s_iadd hX dX3_takeBack_80 ?_
      refine s_aload_n hX dX3_takeBack_81 rfl ?_
      refine s_getr hX fi_X3_18 ly_c_history rfl dX3_takeBack_82 ?_
      refine s_aload_n hX dX3_takeBack_85 rfl ?_
      refine s_getiv (v := ((M.1 c_history Hist_size) - 1)) hX fi_X3_21 ly_c_history rfl dX3_takeBack_86 rfl ?_
      have hi := h.1
      replace h := h.2
      refine s_ialdv (v := (M.1 c_history_before (Int32.toNatClampNeg ((M.1 c_history Hist_size) - 1)))) hX ly_c_history_before hi dX3_takeBack_89 rfl ?_
      have hi := h.1
      replace h := h.2
      refine s_iast hX ly_c_deeds_times hi dX3_takeBack_90 ?_
      refine s_iconst (v := 1) hX dX3_takeBack_91 rfl ?_
      exact s_zret hX true hq rfl dX3_takeBack_92 rfl h
    · replace h := h.2 c
      refine s_aload_n hX dX3_takeBack_32 rfl ?_
      refine s_dup hX dX3_takeBack_33 rfl ?_
      refine s_getiv (v := (M.1 c_deeds Deeds_shot)) hX fi_X3_28 ly_c_deeds rfl dX3_takeBack_34 rfl ?_
      refine s_iconst (v := 1) hX dX3_takeBack_37 rfl ?_
      refine s_aload_n hX dX3_takeBack_38 rfl ?_
      refine s_getr hX fi_X3_11 ly_c_history rfl dX3_takeBack_39 ?_
      refine s_aload_n hX dX3_takeBack_42 rfl ?_
      refine s_getiv (v := ((M.1 c_history Hist_size) - 1)) hX fi_X3_21 ly_c_history rfl dX3_takeBack_43 rfl ?_
      have hi := h.1
      replace h := h.2
      refine s_ialdv (v := (M.1 c_history_birds (Int32.toNatClampNeg ((M.1 c_history Hist_size) - 1)))) hX ly_c_history_birds hi dX3_takeBack_46 rfl ?_
      refine s_ishl hX dX3_takeBack_47 ?_
      refine s_ixor hX dX3_takeBack_48 ?_
      refine s_puti hX fi_X3_28 fp_X1 rfl (by decide +kernel) ly_c_deeds rfl dX3_takeBack_49 ?_
      refine s_goto (tgt := 91) hX dX3_takeBack_52 (by decide) ?_
      refine s_iconst (v := 1) hX dX3_takeBack_91 rfl ?_
      exact s_zret hX true hq rfl dX3_takeBack_92 rfl h
  · replace h := h.2 c
    refine s_iconst (v := 0) hX dX3_takeBack_7 rfl ?_
    exact s_zret hX false hq rfl dX3_takeBack_8 rfl h
theorem c_Hist_takeBack {M : Mem} {Q : Bool → Mem → Prop} (h : w_Hist_takeBack M Q) : CI yX3_takeBack cX3_takeBack 2 ((some .boolean)) 1 0 0 LY LY [vr c_history, vr c_deeds] M (bQ Q) := mk_i rfl wd_co_X3_takeBack rfl rfl (Nat.le_of_ble_eq_true rfl) (fun X hX hq => t_Hist_takeBack hX hq h)
theorem mv_Hist_takeBack : MV yX3_takeBack cX3_takeBack 2 ((some .boolean)) RX3 1 := ⟨wd_co_X3_takeBack, wd_im_X3_takeBack, wd_se_X3_takeBack, wd_in_X3, by decide +kernel, by decide⟩
def w_Top_undo (M : Mem) (Q : Bool → Mem → Prop) : Prop :=
  w_Hist_takeBack M (fun b426 M425 => Q b426 M425)
set_option maxHeartbeats 4000000 in
theorem t_Top_undo {X : Cx} (hX : Cok X cX11_undo RX11 1 ((some .boolean)) 2 0 0) {Q : Bool → Mem → Prop} (hq : RI X 0 0 LY (bQ Q)) {M : Mem} (h : w_Top_undo M Q) : Wat X 0 0 LY 0 [some (vr c_xx)] [] M := by
  refine s_aload_n hX dX11_undo_0 rfl ?_
  refine s_getr hX fi_X11_49 ly_c_xx rfl dX11_undo_1 ?_
  refine s_aload_n hX dX11_undo_4 rfl ?_
  refine s_getr hX fi_X11_38 ly_c_xx rfl dX11_undo_5 ?_
  refine s_cvi (as := [vr c_deeds]) (rest := []) hX (c_Hist_takeBack h) mv_Hist_takeBack wd_ml_X11_191 dX11_undo_8 ly_c_history rfl rfl (Nat.le_of_ble_eq_true rfl) rfl (by decide) ⟨Nat.zero_le _, Nat.zero_le _⟩ (fun b426_ M425 h => ?_)
  obtain ⟨b426, rfl, h⟩ := h
  exact s_zret hX _ hq rfl dX11_undo_11 rfl h
theorem c_Top_undo {M : Mem} {Q : Bool → Mem → Prop} (h : w_Top_undo M Q) : CI yX11_undo cX11_undo 1 ((some .boolean)) 2 0 0 LY LY [vr c_xx] M (bQ Q) := mk_i rfl wd_co_X11_undo rfl rfl (Nat.le_of_ble_eq_true rfl) (fun X hX hq => t_Top_undo hX hq h)
theorem mv_Top_undo : MV yX11_undo cX11_undo 1 ((some .boolean)) RX11 0 := ⟨wd_co_X11_undo, wd_im_X11_undo, wd_se_X11_undo, wd_in_X11, by decide +kernel, by decide⟩
def w_Top_areHours (a0 : Int32) (a1 : Int32) (M : Mem) (Q : Bool → Mem → Prop) : Prop :=
  w_Top_isHour a0 M (fun b428 M427 => ((b428 = false → Q false M427) ∧ (b428 = true → w_Top_isHour a1 M427 (fun b430 M429 => ((b430 = false → Q false M429) ∧ (b430 = true → (∃ bb : Bool, (if a1 < a0 then (0 : Int32) else 1) = b2i bb ∧ Q bb M429)))))))
set_option maxHeartbeats 4000000 in
theorem t_Top_areHours {X : Cx} (hX : Cok X cX11_areHours RX11 2 ((some .boolean)) 2 0 0) {Q : Bool → Mem → Prop} (hq : RI X 0 0 LY (bQ Q)) {M : Mem} {a0 : Int32} {a1 : Int32} (h : w_Top_areHours a0 a1 M Q) : Wat X 0 0 LY 0 [some (vi a0), some (vi a1)] [] M := by
  refine s_iload_n hX dX11_areHours_0 rfl ?_
  refine s_csi (as := [vi a0]) (rest := []) hX (c_Top_isHour h) ms_Top_isHour wd_ml_X11_124 dX11_areHours_1 rfl (Nat.le_of_ble_eq_true rfl) rfl (by decide) ⟨Nat.zero_le _, Nat.zero_le _⟩ (fun b428_ M427 h => ?_)
  obtain ⟨b428, rfl, h⟩ := h
  refine s_if_eq (tgt := 23) hX dX11_areHours_4 (by decide) (fun c => ?_) (fun c => ?_)
  · replace h := h.1 (b2i_0 c)
    refine s_iconst (v := 0) hX dX11_areHours_23 rfl ?_
    exact s_zret hX false hq rfl dX11_areHours_24 rfl h
  · replace h := h.2 (b2i_1 c)
    refine s_iload_n hX dX11_areHours_7 rfl ?_
    refine s_csi (as := [vi a1]) (rest := []) hX (c_Top_isHour h) ms_Top_isHour wd_ml_X11_124 dX11_areHours_8 rfl (Nat.le_of_ble_eq_true rfl) rfl (by decide) ⟨Nat.zero_le _, Nat.zero_le _⟩ (fun b430_ M429 h => ?_)
    obtain ⟨b430, rfl, h⟩ := h
    refine s_if_eq (tgt := 23) hX dX11_areHours_11 (by decide) (fun c => ?_) (fun c => ?_)
    · replace h := h.1 (b2i_0 c)
      refine s_iconst (v := 0) hX dX11_areHours_23 rfl ?_
      exact s_zret hX false hq rfl dX11_areHours_24 rfl h
    · replace h := h.2 (b2i_1 c)
      refine s_iload_n hX dX11_areHours_14 rfl ?_
      refine s_iload_n hX dX11_areHours_15 rfl ?_
      have hJ : Wat X 0 0 LY 24 [some (vi a0), some (vi a1)] [vi (if a1 < a0 then (0 : Int32) else 1)] M429 := by
        obtain ⟨bb, hbb, h⟩ := h
        exact s_zret hX bb hq rfl dX11_areHours_24 hbb h
      refine s_icmp_gt (tgt := 23) hX dX11_areHours_16 (by decide) (fun c => ?_) (fun c => ?_)
      · rw [if_pos c] at hJ
        refine s_iconst (v := 0) hX dX11_areHours_23 rfl ?_
        exact hJ
      · rw [if_neg c] at hJ
        refine s_iconst (v := 1) hX dX11_areHours_19 rfl ?_
        refine s_goto (tgt := 24) hX dX11_areHours_20 (by decide) ?_
        exact hJ
theorem c_Top_areHours {a0 : Int32} {a1 : Int32} {M : Mem} {Q : Bool → Mem → Prop} (h : w_Top_areHours a0 a1 M Q) : CI yX11_areHours cX11_areHours 2 ((some .boolean)) 2 0 0 LY LY [vi a0, vi a1] M (bQ Q) := mk_i rfl wd_co_X11_areHours rfl rfl (Nat.le_of_ble_eq_true rfl) (fun X hX hq => t_Top_areHours hX hq h)
theorem ms_Top_areHours : MS yX11_areHours cX11_areHours 2 ((some .boolean)) 2 := ⟨wd_co_X11_areHours, wd_sm_X11_areHours, wd_in_X11, by decide +kernel, by decide⟩
def w_Game_standing_L39 (l1 : Int32) (l2 : Int32) (l3 : Int64) (l5 : Int32) (K : Int32 → Mem → Prop) (Q : Int64 → Mem → Prop) : Nat → Int32 → Int32 → Mem → Prop
  | 0, _, _, _ => False
  | n + 1, l6, l7, M => ((l2 < l7 → K l6 M) ∧ (¬ l2 < l7 → (vp_in ((l5 * 24) + l7) 144 ∧ (vp_in ((l5 * 24) + l1) 144 ∧ (((M.1 c_debts_at (Int32.toNatClampNeg ((l5 * 24) + l7))) = (M.1 c_debts_at (Int32.toNatClampNeg ((l5 * 24) + l1))) → w_Game_standing_L39 l1 l2 l3 l5 K Q n l6 (l7 + 1) M) ∧ (¬ (M.1 c_debts_at (Int32.toNatClampNeg ((l5 * 24) + l7))) = (M.1 c_debts_at (Int32.toNatClampNeg ((l5 * 24) + l1))) → w_Game_standing_L39 l1 l2 l3 l5 K Q n 64 (l7 + 1) M))))))
set_option maxHeartbeats 4000000 in
theorem t_Game_standing_L39 {X : Cx} (hX : Cok X cX2_standing RX2 8 ((some .long)) 1 0 0) {Q : Int64 → Mem → Prop} (hq : RL_ X 0 0 LY Q) {l1 : Int32} {l2 : Int32} {l3 : Int64} {l5 : Int32} {K : Int32 → Mem → Prop} (hK : ∀ (l6 : Int32) (M : Mem), K l6 M → Wat X 0 0 LY 89 [some (vr c_game), some (vi l1), some (vi l2), some (vl l3), none, some (vi l5), some (vi l6), none] [] M) : ∀ (n : Nat) (l6 : Int32) (l7 : Int32) (M : Mem), w_Game_standing_L39 l1 l2 l3 l5 K Q n l6 l7 M → Wat X 0 0 LY 39 [some (vr c_game), some (vi l1), some (vi l2), some (vl l3), none, some (vi l5), some (vi l6), some (vi l7)] [] M := by
  intro n
  induction n with
  | zero => intro _ _ _ h; exact h.elim
  | succ n ih =>
    intro l6 l7 M h
    refine s_iload hX dX2_standing_39 rfl ?_
    refine s_iload_n hX dX2_standing_41 rfl ?_
    refine s_icmp_gt (tgt := 89) hX dX2_standing_42 (by decide) (fun c => ?_) (fun c => ?_)
    · replace h := h.1 c
      refine s_mask [true, true, true, true, true, true, true, false] (lv' := [some (vr c_game), some (vi l1), some (vi l2), some (vl l3), none, some (vi l5), some (vi l6), none]) rfl rfl ?_
      exact hK _ _ h
    · replace h := h.2 c
      refine s_aload_n hX dX2_standing_45 rfl ?_
      refine s_getr hX fi_X2_27 ly_c_game rfl dX2_standing_46 ?_
      refine s_getr hX fi_X2_87 ly_c_debts rfl dX2_standing_49 ?_
      refine s_iload hX dX2_standing_52 rfl ?_
      refine s_bipush (v := 24) hX dX2_standing_54 rfl ?_
      refine s_imul hX dX2_standing_56 ?_
      refine s_iload hX dX2_standing_57 rfl ?_
      refine s_iadd hX dX2_standing_59 ?_
      have hi := h.1
      replace h := h.2
      refine s_ialdv (v := (M.1 c_debts_at (Int32.toNatClampNeg ((l5 * 24) + l7)))) hX ly_c_debts_at hi dX2_standing_60 rfl ?_
      refine s_aload_n hX dX2_standing_61 rfl ?_
      refine s_getr hX fi_X2_27 ly_c_game rfl dX2_standing_62 ?_
      refine s_getr hX fi_X2_87 ly_c_debts rfl dX2_standing_65 ?_
      refine s_iload hX dX2_standing_68 rfl ?_
      refine s_bipush (v := 24) hX dX2_standing_70 rfl ?_
      refine s_imul hX dX2_standing_72 ?_
      refine s_iload_n hX dX2_standing_73 rfl ?_
      refine s_iadd hX dX2_standing_74 ?_
      have hi := h.1
      replace h := h.2
      refine s_ialdv (v := (M.1 c_debts_at (Int32.toNatClampNeg ((l5 * 24) + l1)))) hX ly_c_debts_at hi dX2_standing_75 rfl ?_
      refine s_icmp_eq (tgt := 83) hX dX2_standing_76 (by decide) (fun c => ?_) (fun c => ?_)
      · replace h := h.1 c
        refine s_iinc (v := (l7 + 1)) (lv' := [some (vr c_game), some (vi l1), some (vi l2), some (vl l3), none, some (vi l5), some (vi l6), some (vi (l7 + 1))]) hX dX2_standing_83 rfl rfl rfl rfl ?_
        refine s_goto (tgt := 39) hX dX2_standing_86 (by decide) ?_
        exact ih _ _ _ h
      · replace h := h.2 c
        refine s_bipush (v := 64) hX dX2_standing_79 rfl ?_
        refine s_istore (lv' := [some (vr c_game), some (vi l1), some (vi l2), some (vl l3), none, some (vi l5), some (vi 64), some (vi l7)]) hX dX2_standing_81 rfl rfl (Nat.le_of_ble_eq_true rfl) ?_
        refine s_iinc (v := (l7 + 1)) (lv' := [some (vr c_game), some (vi l1), some (vi l2), some (vl l3), none, some (vi l5), some (vi 64), some (vi (l7 + 1))]) hX dX2_standing_83 rfl rfl rfl rfl ?_
        refine s_goto (tgt := 39) hX dX2_standing_86 (by decide) ?_
        exact ih _ _ _ h
def w_Game_standing_L5 (l1 : Int32) (l2 : Int32) (K : Int64 → Mem → Prop) (Q : Int64 → Mem → Prop) : Nat → Int64 → Int32 → Mem → Prop
  | 0, _, _, _ => False
  | n + 1, l3, l5, M => (((M.1 c_land Land_people) ≤ l5 → K l3 M) ∧ (¬ (M.1 c_land Land_people) ≤ l5 → (vp_in ((l5 * 24) + l1) 144 ∧ ∀ x434 : Int32, x434 = (M.1 c_debts_at (Int32.toNatClampNeg ((l5 * 24) + l1))) → (∃ n438, w_Game_standing_L39 l1 l2 l3 l5 (fun y436 M435 => ∀ x437 : Int64, x437 = ((l3 <<< (Int32.toInt64 (7 : Int32) &&& 63)) + (Int32.toInt64 y436)) → w_Game_standing_L5 l1 l2 K Q n x437 (l5 + 1) M435) Q n438 x434 (l1 + 1) M))))
set_option maxHeartbeats 4000000 in
theorem t_Game_standing_L5 {X : Cx} (hX : Cok X cX2_standing RX2 8 ((some .long)) 1 0 0) {Q : Int64 → Mem → Prop} (hq : RL_ X 0 0 LY Q) {l1 : Int32} {l2 : Int32} {K : Int64 → Mem → Prop} (hK : ∀ (l3 : Int64) (M : Mem), K l3 M → Wat X 0 0 LY 104 [none, none, none, some (vl l3), none, none, none, none] [] M) : ∀ (n : Nat) (l3 : Int64) (l5 : Int32) (M : Mem), w_Game_standing_L5 l1 l2 K Q n l3 l5 M → Wat X 0 0 LY 5 [some (vr c_game), some (vi l1), some (vi l2), some (vl l3), none, some (vi l5), none, none] [] M := by
  intro n
  induction n with
  | zero => intro _ _ _ h; exact h.elim
  | succ n ih =>
    intro l3 l5 M h
    refine s_iload hX dX2_standing_5 rfl ?_
    refine s_aload_n hX dX2_standing_7 rfl ?_
    refine s_getr hX fi_X2_19 ly_c_game rfl dX2_standing_8 ?_
    refine s_getiv (v := (M.1 c_land Land_people)) hX fi_X2_48 ly_c_land rfl dX2_standing_11 rfl ?_
    refine s_icmp_ge (tgt := 104) hX dX2_standing_14 (by decide) (fun c => ?_) (fun c => ?_)
    · replace h := h.1 c
      refine s_mask [false, false, false, true, true, false, true, true] (lv' := [none, none, none, some (vl l3), none, none, none, none]) rfl rfl ?_
      exact hK _ _ h
    · replace h := h.2 c
      refine s_aload_n hX dX2_standing_17 rfl ?_
      refine s_getr hX fi_X2_27 ly_c_game rfl dX2_standing_18 ?_
      refine s_getr hX fi_X2_87 ly_c_debts rfl dX2_standing_21 ?_
      refine s_iload hX dX2_standing_24 rfl ?_
      refine s_bipush (v := 24) hX dX2_standing_26 rfl ?_
      refine s_imul hX dX2_standing_28 ?_
      refine s_iload_n hX dX2_standing_29 rfl ?_
      refine s_iadd hX dX2_standing_30 ?_
      have hi := h.1
      replace h := h.2
      refine s_ialdv (v := (M.1 c_debts_at (Int32.toNatClampNeg ((l5 * 24) + l1)))) hX ly_c_debts_at hi dX2_standing_31 rfl ?_
      refine s_nmi (fun x434 ex434 => ?_)
      replace h := h x434 ex434
      refine s_istore (lv' := [some (vr c_game), some (vi l1), some (vi l2), some (vl l3), none, some (vi l5), some (vi x434), none]) hX dX2_standing_32 rfl rfl (Nat.le_of_ble_eq_true rfl) ?_
      refine s_iload_n hX dX2_standing_34 rfl ?_
      refine s_iconst (v := 1) hX dX2_standing_35 rfl ?_
      refine s_iadd hX dX2_standing_36 ?_
      refine s_istore (lv' := [some (vr c_game), some (vi l1), some (vi l2), some (vl l3), none, some (vi l5), some (vi x434), some (vi (l1 + 1))]) hX dX2_standing_37 rfl rfl (Nat.le_of_ble_eq_true rfl) ?_
      obtain ⟨n438, h⟩ := h
      refine t_Game_standing_L39 hX hq ?_ n438 _ _ _ h
      intro y436 M435 h
      refine s_lload_n hX dX2_standing_89 rfl ?_
      refine s_bipush (v := 7) hX dX2_standing_90 rfl ?_
      refine s_lshl hX dX2_standing_92 ?_
      refine s_iload hX dX2_standing_93 rfl ?_
      refine s_i2l hX dX2_standing_95 ?_
      refine s_ladd hX dX2_standing_96 ?_
      refine s_nml (fun x437 ex437 => ?_)
      replace h := h x437 ex437
      refine s_lstore_n (lv' := [some (vr c_game), some (vi l1), some (vi l2), some (vl x437), none, some (vi l5), some (vi y436), none]) hX dX2_standing_97 rfl rfl (Nat.le_of_ble_eq_true rfl) ?_
      refine s_iinc (v := (l5 + 1)) (lv' := [some (vr c_game), some (vi l1), some (vi l2), some (vl x437), none, some (vi (l5 + 1)), some (vi y436), none]) hX dX2_standing_98 rfl rfl rfl rfl ?_
      refine s_goto (tgt := 5) hX dX2_standing_101 (by decide) ?_
      refine s_mask [true, true, true, true, true, true, false, true] (lv' := [some (vr c_game), some (vi l1), some (vi l2), some (vl x437), none, some (vi (l5 + 1)), none, none]) rfl rfl ?_
      exact ih _ _ _ h
def w_Game_standing (a0 : Int32) (a1 : Int32) (M : Mem) (Q : Int64 → Mem → Prop) : Prop :=
  (∃ n441, w_Game_standing_L5 a0 a1 (fun y440 M439 => Q y440 M439) Q n441 0 0 M)
set_option maxHeartbeats 4000000 in
theorem t_Game_standing {X : Cx} (hX : Cok X cX2_standing RX2 8 ((some .long)) 1 0 0) {Q : Int64 → Mem → Prop} (hq : RL_ X 0 0 LY Q) {M : Mem} {a0 : Int32} {a1 : Int32} (h : w_Game_standing a0 a1 M Q) : Wat X 0 0 LY 0 [some (vr c_game), some (vi a0), some (vi a1), none, none, none, none, none] [] M := by
  refine s_lconst (v := 0) hX dX2_standing_0 rfl ?_
  refine s_lstore_n (lv' := [some (vr c_game), some (vi a0), some (vi a1), some (vl 0), none, none, none, none]) hX dX2_standing_1 rfl rfl (Nat.le_of_ble_eq_true rfl) ?_
  refine s_iconst (v := 0) hX dX2_standing_2 rfl ?_
  refine s_istore (lv' := [some (vr c_game), some (vi a0), some (vi a1), some (vl 0), none, some (vi 0), none, none]) hX dX2_standing_3 rfl rfl (Nat.le_of_ble_eq_true rfl) ?_
  obtain ⟨n441, h⟩ := h
  refine t_Game_standing_L5 hX hq ?_ n441 _ _ _ h
  intro y440 M439 h
  refine s_lload_n hX dX2_standing_104 rfl ?_
  exact s_lret hX hq rfl dX2_standing_105 h
theorem c_Game_standing {a0 : Int32} {a1 : Int32} {M : Mem} {Q : Int64 → Mem → Prop} (h : w_Game_standing a0 a1 M Q) : CL yX2_standing cX2_standing 8 ((some .long)) 1 0 0 LY LY [vr c_game, vi a0, vi a1] M Q := mk_l rfl wd_co_X2_standing rfl rfl (Nat.le_of_ble_eq_true rfl) (fun X hX hq => t_Game_standing hX hq h)
theorem mv_Game_standing : MV yX2_standing cX2_standing 8 ((some .long)) RX2 2 := ⟨wd_co_X2_standing, wd_im_X2_standing, wd_se_X2_standing, wd_in_X2, by decide +kernel, by decide⟩
def w_Debts_shareOf (a0 : Int32) (a1 : Int32) (M : Mem) (Q : Int32 → Mem → Prop) : Prop :=
  (vp_in a1 6 ∧ ∀ x449 : Int32, x449 = (M.1 c_debts_nearest (Int32.toNatClampNeg a1)) → ((¬ x449 = (-1) → Q (((a0 >>> (x449 &&& 31)) &&& 1) - ((a0 >>> (a1 &&& 31)) &&& 1)) M) ∧ (x449 = (-1) → Q 0 M)))
set_option maxHeartbeats 4000000 in
theorem t_Debts_shareOf {X : Cx} (hX : Cok X cX0_shareOf RX0 4 ((some .int)) 1 0 0) {Q : Int32 → Mem → Prop} (hq : RI X 0 0 LY Q) {M : Mem} {a0 : Int32} {a1 : Int32} (h : w_Debts_shareOf a0 a1 M Q) : Wat X 0 0 LY 0 [some (vr c_debts), some (vi a0), some (vi a1), none] [] M := by
  refine s_aload_n hX dX0_shareOf_0 rfl ?_
  refine s_getr hX fi_X0_18 ly_c_debts rfl dX0_shareOf_1 ?_
  refine s_iload_n hX dX0_shareOf_4 rfl ?_
  have hi := h.1
  replace h := h.2
  refine s_ialdv (v := (M.1 c_debts_nearest (Int32.toNatClampNeg a1))) hX ly_c_debts_nearest hi dX0_shareOf_5 rfl ?_
  refine s_nmi (fun x449 ex449 => ?_)
  replace h := h x449 ex449
  refine s_istore_n (lv' := [some (vr c_debts), some (vi a0), some (vi a1), some (vi x449)]) hX dX0_shareOf_6 rfl rfl (Nat.le_of_ble_eq_true rfl) ?_
  refine s_iload_n hX dX0_shareOf_7 rfl ?_
  refine s_iconst (v := (-1)) hX dX0_shareOf_8 rfl ?_
  refine s_icmp_ne (tgt := 16) hX dX0_shareOf_9 (by decide) (fun c => ?_) (fun c => ?_)
  · replace h := h.1 c
    refine s_iload_n hX dX0_shareOf_16 rfl ?_
    refine s_iload_n hX dX0_shareOf_17 rfl ?_
    refine s_ishr hX dX0_shareOf_18 ?_
    refine s_iconst (v := 1) hX dX0_shareOf_19 rfl ?_
    refine s_iand hX dX0_shareOf_20 ?_
    refine s_iload_n hX dX0_shareOf_21 rfl ?_
    refine s_iload_n hX dX0_shareOf_22 rfl ?_
    refine s_ishr hX dX0_shareOf_23 ?_
    refine s_iconst (v := 1) hX dX0_shareOf_24 rfl ?_
    refine s_iand hX dX0_shareOf_25 ?_
    refine s_isub hX dX0_shareOf_26 ?_
    exact s_iret hX hq rfl dX0_shareOf_27 h
  · replace h := h.2 c
    refine s_iconst (v := 0) hX dX0_shareOf_12 rfl ?_
    refine s_goto (tgt := 27) hX dX0_shareOf_13 (by decide) ?_
    exact s_iret hX hq rfl dX0_shareOf_27 h
theorem c_Debts_shareOf {a0 : Int32} {a1 : Int32} {M : Mem} {Q : Int32 → Mem → Prop} (h : w_Debts_shareOf a0 a1 M Q) : CI yX0_shareOf cX0_shareOf 4 ((some .int)) 1 0 0 LY LY [vr c_debts, vi a0, vi a1] M Q := mk_i rfl wd_co_X0_shareOf rfl rfl (Nat.le_of_ble_eq_true rfl) (fun X hX hq => t_Debts_shareOf hX hq h)
theorem mv_Debts_shareOf : MV yX0_shareOf cX0_shareOf 4 ((some .int)) RX0 2 := ⟨wd_co_X0_shareOf, wd_im_X0_shareOf, wd_se_X0_shareOf, wd_in_X0, by decide +kernel, by decide⟩
def w_Debts_gainOf_L62 (l1 : Int32) (l3 : Int32) (l4 : Int32) (l6 : Int32) (l7 : Int32) (l8 : Int32) (K : Int32 → Mem → Prop) (Q : Int32 → Mem → Prop) : Nat → Int32 → Int32 → Mem → Prop
  | 0, _, _, _ => False
  | n + 1, l5, l9, M => (((M.1 c_land Land_people) ≤ l9 → K l5 M) ∧ (¬ (M.1 c_land Land_people) ≤ l9 → ((l8 ≤ 0 → K l5 M) ∧ (¬ l8 ≤ 0 → w_Debts_shareOf l1 l9 M (fun r451 M450 => ((¬ r451 = 0 → w_Debts_pence l7 l6 l9 l8 M450 (fun r453 M452 => w_Debts_gainOf_L62 l1 l3 l4 l6 l7 l8 K Q n (l5 + (r451 * r453)) (l9 + 1) M452)) ∧ (r451 = 0 → w_Debts_gainOf_L62 l1 l3 l4 l6 l7 l8 K Q n (l5 + 0) (l9 + 1) M450)))))))
set_option maxHeartbeats 4000000 in
theorem t_Debts_gainOf_L62 {X : Cx} (hX : Cok X cX0_gainOf RX0 11 ((some .int)) 4 0 0) {Q : Int32 → Mem → Prop} (hq : RI X 0 0 LY Q) {l1 : Int32} {l3 : Int32} {l4 : Int32} {l6 : Int32} {l7 : Int32} {l8 : Int32} {K : Int32 → Mem → Prop} (hK : ∀ (l5 : Int32) (M : Mem), K l5 M → Wat X 0 0 LY 123 [some (vr c_debts), some (vi l1), none, some (vi l3), some (vi l4), some (vi l5), some (vi l6), some (vi l7), none, none, none] [] M) : ∀ (n : Nat) (l5 : Int32) (l9 : Int32) (M : Mem), w_Debts_gainOf_L62 l1 l3 l4 l6 l7 l8 K Q n l5 l9 M → Wat X 0 0 LY 62 [some (vr c_debts), some (vi l1), none, some (vi l3), some (vi l4), some (vi l5), some (vi l6), some (vi l7), some (vi l8), some (vi l9), none] [] M := by
  intro n
  induction n with
  | zero => intro _ _ _ h; exact h.elim
  | succ n ih =>
    intro l5 l9 M h
    refine s_iload hX dX0_gainOf_62 rfl ?_
    refine s_aload_n hX dX0_gainOf_64 rfl ?_
    refine s_getr hX fi_X0_33 ly_c_debts rfl dX0_gainOf_65 ?_
    refine s_getiv (v := (M.1 c_land Land_people)) hX fi_X0_58 ly_c_land rfl dX0_gainOf_68 rfl ?_
    refine s_icmp_ge (tgt := 123) hX dX0_gainOf_71 (by decide) (fun c => ?_) (fun c => ?_)
    · replace h := h.1 c
      refine s_mask [true, true, true, true, true, true, true, true, false, false, true] (lv' := [some (vr c_debts), some (vi l1), none, some (vi l3), some (vi l4), some (vi l5), some (vi l6), some (vi l7), none, none, none]) rfl rfl ?_
      exact hK _ _ h
    · replace h := h.2 c
      refine s_iload hX dX0_gainOf_74 rfl ?_
      refine s_if_le (tgt := 123) hX dX0_gainOf_76 (by decide) (fun c => ?_) (fun c => ?_)
      · replace h := h.1 c
        refine s_mask [true, true, true, true, true, true, true, true, false, false, true] (lv' := [some (vr c_debts), some (vi l1), none, some (vi l3), some (vi l4), some (vi l5), some (vi l6), some (vi l7), none, none, none]) rfl rfl ?_
        exact hK _ _ h
      · replace h := h.2 c
        refine s_aload_n hX dX0_gainOf_79 rfl ?_
        refine s_iload_n hX dX0_gainOf_80 rfl ?_
        refine s_iload hX dX0_gainOf_81 rfl ?_
        refine s_cvi (as := [vi l1, vi l9]) (rest := []) hX (c_Debts_shareOf h) mv_Debts_shareOf wd_ml_X0_118 dX0_gainOf_83 ly_c_debts rfl rfl (Nat.le_of_ble_eq_true rfl) rfl (by decide) ⟨Nat.zero_le _, Nat.zero_le _⟩ (fun r451 M450 h => ?_)
        refine s_istore (lv' := [some (vr c_debts), some (vi l1), none, some (vi l3), some (vi l4), some (vi l5), some (vi l6), some (vi l7), some (vi l8), some (vi l9), some (vi r451)]) hX dX0_gainOf_86 rfl rfl (Nat.le_of_ble_eq_true rfl) ?_
        refine s_iload hX dX0_gainOf_88 rfl ?_
        refine s_iload hX dX0_gainOf_90 rfl ?_
        refine s_if_ne (tgt := 99) hX dX0_gainOf_92 (by decide) (fun c => ?_) (fun c => ?_)
        · replace h := h.1 c
          refine s_iload hX dX0_gainOf_99 rfl ?_
          refine s_aload_n hX dX0_gainOf_101 rfl ?_
          refine s_iload hX dX0_gainOf_102 rfl ?_
          refine s_iload hX dX0_gainOf_104 rfl ?_
          refine s_iload hX dX0_gainOf_106 rfl ?_
          refine s_iload hX dX0_gainOf_108 rfl ?_
          refine s_cvi (as := [vi l7, vi l6, vi l9, vi l8]) (rest := [vi r451, vi l5]) hX (c_Debts_pence h) mv_Debts_pence wd_ml_X0_121 dX0_gainOf_110 ly_c_debts rfl rfl (Nat.le_of_ble_eq_true rfl) rfl (by decide) ⟨Nat.zero_le _, Nat.zero_le _⟩ (fun r453 M452 h => ?_)
          refine s_imul hX dX0_gainOf_113 ?_
          refine s_iadd hX dX0_gainOf_114 ?_
          refine s_istore (lv' := [some (vr c_debts), some (vi l1), none, some (vi l3), some (vi l4), some (vi (l5 + (r451 * r453))), some (vi l6), some (vi l7), some (vi l8), some (vi l9), some (vi r451)]) hX dX0_gainOf_115 rfl rfl (Nat.le_of_ble_eq_true rfl) ?_
          refine s_iinc (v := (l9 + 1)) (lv' := [some (vr c_debts), some (vi l1), none, some (vi l3), some (vi l4), some (vi (l5 + (r451 * r453))), some (vi l6), some (vi l7), some (vi l8), some (vi (l9 + 1)), some (vi r451)]) hX dX0_gainOf_117 rfl rfl rfl rfl ?_
          refine s_goto (tgt := 62) hX dX0_gainOf_120 (by decide) ?_
          refine s_mask [true, true, true, true, true, true, true, true, true, true, false] (lv' := [some (vr c_debts), some (vi l1), none, some (vi l3), some (vi l4), some (vi (l5 + (r451 * r453))), some (vi l6), some (vi l7), some (vi l8), some (vi (l9 + 1)), none]) rfl rfl ?_
          exact ih _ _ _ h
        · replace h := h.2 c
          refine s_iconst (v := 0) hX dX0_gainOf_95 rfl ?_
          refine s_goto (tgt := 114) hX dX0_gainOf_96 (by decide) ?_
          refine s_iadd hX dX0_gainOf_114 ?_
          refine s_istore (lv' := [some (vr c_debts), some (vi l1), none, some (vi l3), some (vi l4), some (vi (l5 + 0)), some (vi l6), some (vi l7), some (vi l8), some (vi l9), some (vi r451)]) hX dX0_gainOf_115 rfl rfl (Nat.le_of_ble_eq_true rfl) ?_
          refine s_iinc (v := (l9 + 1)) (lv' := [some (vr c_debts), some (vi l1), none, some (vi l3), some (vi l4), some (vi (l5 + 0)), some (vi l6), some (vi l7), some (vi l8), some (vi (l9 + 1)), some (vi r451)]) hX dX0_gainOf_117 rfl rfl rfl rfl ?_
          refine s_goto (tgt := 62) hX dX0_gainOf_120 (by decide) ?_
          refine s_mask [true, true, true, true, true, true, true, true, true, true, false] (lv' := [some (vr c_debts), some (vi l1), none, some (vi l3), some (vi l4), some (vi (l5 + 0)), some (vi l6), some (vi l7), some (vi l8), some (vi (l9 + 1)), none]) rfl rfl ?_
          exact ih _ _ _ h
def w_Debts_gainOf_L35 (l1 : Int32) (l3 : Int32) (l4 : Int32) (l6 : Int32) (K : Int32 → Mem → Prop) (Q : Int32 → Mem → Prop) : Nat → Int32 → Int32 → Mem → Prop
  | 0, _, _, _ => False
  | n + 1, l5, l7, M => (((M.1 c_land Land_birds) ≤ l7 → K l5 M) ∧ (¬ (M.1 c_land Land_birds) ≤ l7 → w_Debts_heard l7 l6 l4 M (fun r448 M447 => (∃ n456, w_Debts_gainOf_L62 l1 l3 l4 l6 l7 r448 (fun y455 M454 => w_Debts_gainOf_L35 l1 l3 l4 l6 K Q n y455 (l7 + 1) M454) Q n456 l5 0 M447))))
set_option maxHeartbeats 4000000 in
theorem t_Debts_gainOf_L35 {X : Cx} (hX : Cok X cX0_gainOf RX0 11 ((some .int)) 4 0 0) {Q : Int32 → Mem → Prop} (hq : RI X 0 0 LY Q) {l1 : Int32} {l3 : Int32} {l4 : Int32} {l6 : Int32} {K : Int32 → Mem → Prop} (hK : ∀ (l5 : Int32) (M : Mem), K l5 M → Wat X 0 0 LY 129 [some (vr c_debts), some (vi l1), none, some (vi l3), some (vi l4), some (vi l5), some (vi l6), none, none, none, none] [] M) : ∀ (n : Nat) (l5 : Int32) (l7 : Int32) (M : Mem), w_Debts_gainOf_L35 l1 l3 l4 l6 K Q n l5 l7 M → Wat X 0 0 LY 35 [some (vr c_debts), some (vi l1), none, some (vi l3), some (vi l4), some (vi l5), some (vi l6), some (vi l7), none, none, none] [] M := by
  intro n
  induction n with
  | zero => intro _ _ _ h; exact h.elim
  | succ n ih =>
    intro l5 l7 M h
    refine s_iload hX dX0_gainOf_35 rfl ?_
    refine s_aload_n hX dX0_gainOf_37 rfl ?_
    refine s_getr hX fi_X0_33 ly_c_debts rfl dX0_gainOf_38 ?_
    refine s_getiv (v := (M.1 c_land Land_birds)) hX fi_X0_111 ly_c_land rfl dX0_gainOf_41 rfl ?_
    refine s_icmp_ge (tgt := 129) hX dX0_gainOf_44 (by decide) (fun c => ?_) (fun c => ?_)
    · replace h := h.1 c
      refine s_mask [true, true, true, true, true, true, true, false, true, true, true] (lv' := [some (vr c_debts), some (vi l1), none, some (vi l3), some (vi l4), some (vi l5), some (vi l6), none, none, none, none]) rfl rfl ?_
      exact hK _ _ h
    · replace h := h.2 c
      refine s_aload_n hX dX0_gainOf_47 rfl ?_
      refine s_iload hX dX0_gainOf_48 rfl ?_
      refine s_iload hX dX0_gainOf_50 rfl ?_
      refine s_iload hX dX0_gainOf_52 rfl ?_
      refine s_cvi (as := [vi l7, vi l6, vi l4]) (rest := []) hX (c_Debts_heard h) mv_Debts_heard wd_ml_X0_114 dX0_gainOf_54 ly_c_debts rfl rfl (Nat.le_of_ble_eq_true rfl) rfl (by decide) ⟨Nat.zero_le _, Nat.zero_le _⟩ (fun r448 M447 h => ?_)
      refine s_istore (lv' := [some (vr c_debts), some (vi l1), none, some (vi l3), some (vi l4), some (vi l5), some (vi l6), some (vi l7), some (vi r448), none, none]) hX dX0_gainOf_57 rfl rfl (Nat.le_of_ble_eq_true rfl) ?_
      refine s_iconst (v := 0) hX dX0_gainOf_59 rfl ?_
      refine s_istore (lv' := [some (vr c_debts), some (vi l1), none, some (vi l3), some (vi l4), some (vi l5), some (vi l6), some (vi l7), some (vi r448), some (vi 0), none]) hX dX0_gainOf_60 rfl rfl (Nat.le_of_ble_eq_true rfl) ?_
      obtain ⟨n456, h⟩ := h
      refine t_Debts_gainOf_L62 hX hq ?_ n456 _ _ _ h
      intro y455 M454 h
      refine s_iinc (v := (l7 + 1)) (lv' := [some (vr c_debts), some (vi l1), none, some (vi l3), some (vi l4), some (vi y455), some (vi l6), some (vi (l7 + 1)), none, none, none]) hX dX0_gainOf_123 rfl rfl rfl rfl ?_
      refine s_goto (tgt := 35) hX dX0_gainOf_126 (by decide) ?_
      exact ih _ _ _ h
def w_Debts_gainOf_L6 (l1 : Int32) (l3 : Int32) (l4 : Int32) (K : Int32 → Mem → Prop) (Q : Int32 → Mem → Prop) : Nat → Int32 → Int32 → Mem → Prop
  | 0, _, _, _ => False
  | n + 1, l5, l6, M => ((l3 < l6 → K l5 M) ∧ (¬ l3 < l6 → w_Debts_isCalled l6 l4 M (fun b445 M444 => ((b445 = true → w_Debts_lookRound l6 M444 (fun M446 => (∃ n459, w_Debts_gainOf_L35 l1 l3 l4 l6 (fun y458 M457 => w_Debts_gainOf_L6 l1 l3 l4 K Q n y458 (l6 + 1) M457) Q n459 l5 0 M446))) ∧ (b445 = false → w_Debts_gainOf_L6 l1 l3 l4 K Q n l5 (l6 + 1) M444)))))
set_option maxHeartbeats 4000000 in
theorem t_Debts_gainOf_L6 {X : Cx} (hX : Cok X cX0_gainOf RX0 11 ((some .int)) 4 0 0) {Q : Int32 → Mem → Prop} (hq : RI X 0 0 LY Q) {l1 : Int32} {l3 : Int32} {l4 : Int32} {K : Int32 → Mem → Prop} (hK : ∀ (l5 : Int32) (M : Mem), K l5 M → Wat X 0 0 LY 135 [none, none, none, none, none, some (vi l5), none, none, none, none, none] [] M) : ∀ (n : Nat) (l5 : Int32) (l6 : Int32) (M : Mem), w_Debts_gainOf_L6 l1 l3 l4 K Q n l5 l6 M → Wat X 0 0 LY 6 [some (vr c_debts), some (vi l1), none, some (vi l3), some (vi l4), some (vi l5), some (vi l6), none, none, none, none] [] M := by
  intro n
  induction n with
  | zero => intro _ _ _ h; exact h.elim
  | succ n ih =>
    intro l5 l6 M h
    refine s_iload hX dX0_gainOf_6 rfl ?_
    refine s_iload_n hX dX0_gainOf_8 rfl ?_
    refine s_icmp_gt (tgt := 135) hX dX0_gainOf_9 (by decide) (fun c => ?_) (fun c => ?_)
    · replace h := h.1 c
      refine s_mask [false, false, true, false, false, true, false, true, true, true, true] (lv' := [none, none, none, none, none, some (vi l5), none, none, none, none, none]) rfl rfl ?_
      exact hK _ _ h
    · replace h := h.2 c
      refine s_aload_n hX dX0_gainOf_12 rfl ?_
      refine s_iload hX dX0_gainOf_13 rfl ?_
      refine s_iload hX dX0_gainOf_15 rfl ?_
      refine s_cvi (as := [vi l6, vi l4]) (rest := []) hX (c_Debts_isCalled h) mv_Debts_isCalled wd_ml_X0_104 dX0_gainOf_17 ly_c_debts rfl rfl (Nat.le_of_ble_eq_true rfl) rfl (by decide) ⟨Nat.zero_le _, Nat.zero_le _⟩ (fun b445_ M444 h => ?_)
      obtain ⟨b445, rfl, h⟩ := h
      refine s_if_ne (tgt := 26) hX dX0_gainOf_20 (by decide) (fun c => ?_) (fun c => ?_)
      · replace h := h.1 (b2i_1 c)
        refine s_aload_n hX dX0_gainOf_26 rfl ?_
        refine s_iload hX dX0_gainOf_27 rfl ?_
        refine s_cvv (as := [vi l6]) (rest := []) hX (c_Debts_lookRound h) mv_Debts_lookRound wd_ml_X0_107 dX0_gainOf_29 ly_c_debts rfl rfl (Nat.le_of_ble_eq_true rfl) rfl (by decide) ⟨Nat.zero_le _, Nat.zero_le _⟩ (fun M446 h => ?_)
        refine s_iconst (v := 0) hX dX0_gainOf_32 rfl ?_
        refine s_istore (lv' := [some (vr c_debts), some (vi l1), none, some (vi l3), some (vi l4), some (vi l5), some (vi l6), some (vi 0), none, none, none]) hX dX0_gainOf_33 rfl rfl (Nat.le_of_ble_eq_true rfl) ?_
        obtain ⟨n459, h⟩ := h
        refine t_Debts_gainOf_L35 hX hq ?_ n459 _ _ _ h
        intro y458 M457 h
        refine s_iinc (v := (l6 + 1)) (lv' := [some (vr c_debts), some (vi l1), none, some (vi l3), some (vi l4), some (vi y458), some (vi (l6 + 1)), none, none, none, none]) hX dX0_gainOf_129 rfl rfl rfl rfl ?_
        refine s_goto (tgt := 6) hX dX0_gainOf_132 (by decide) ?_
        exact ih _ _ _ h
      · replace h := h.2 (b2i_0 c)
        refine s_goto (tgt := 129) hX dX0_gainOf_23 (by decide) ?_
        refine s_iinc (v := (l6 + 1)) (lv' := [some (vr c_debts), some (vi l1), none, some (vi l3), some (vi l4), some (vi l5), some (vi (l6 + 1)), none, none, none, none]) hX dX0_gainOf_129 rfl rfl rfl rfl ?_
        refine s_goto (tgt := 6) hX dX0_gainOf_132 (by decide) ?_
        exact ih _ _ _ h
def w_Debts_gainOf (a0 : Int32) (a1 : Int32) (a2 : Int32) (a3 : Int32) (M : Mem) (Q : Int32 → Mem → Prop) : Prop :=
  (∃ n462, w_Debts_gainOf_L6 a0 a2 a3 (fun y461 M460 => Q y461 M460) Q n462 0 a1 M)
set_option maxHeartbeats 4000000 in
theorem t_Debts_gainOf {X : Cx} (hX : Cok X cX0_gainOf RX0 11 ((some .int)) 4 0 0) {Q : Int32 → Mem → Prop} (hq : RI X 0 0 LY Q) {M : Mem} {a0 : Int32} {a1 : Int32} {a2 : Int32} {a3 : Int32} (h : w_Debts_gainOf a0 a1 a2 a3 M Q) : Wat X 0 0 LY 0 [some (vr c_debts), some (vi a0), some (vi a1), some (vi a2), some (vi a3), none, none, none, none, none, none] [] M := by
  refine s_iconst (v := 0) hX dX0_gainOf_0 rfl ?_
  refine s_istore (lv' := [some (vr c_debts), some (vi a0), some (vi a1), some (vi a2), some (vi a3), some (vi 0), none, none, none, none, none]) hX dX0_gainOf_1 rfl rfl (Nat.le_of_ble_eq_true rfl) ?_
  refine s_iload_n hX dX0_gainOf_3 rfl ?_
  refine s_istore (lv' := [some (vr c_debts), some (vi a0), some (vi a1), some (vi a2), some (vi a3), some (vi 0), some (vi a1), none, none, none, none]) hX dX0_gainOf_4 rfl rfl (Nat.le_of_ble_eq_true rfl) ?_
  refine s_mask [true, true, false, true, true, true, true, true, true, true, true] (lv' := [some (vr c_debts), some (vi a0), none, some (vi a2), some (vi a3), some (vi 0), some (vi a1), none, none, none, none]) rfl rfl ?_
  obtain ⟨n462, h⟩ := h
  refine t_Debts_gainOf_L6 hX hq ?_ n462 _ _ _ h
  intro y461 M460 h
  refine s_iload hX dX0_gainOf_135 rfl ?_
  exact s_iret hX hq rfl dX0_gainOf_137 h
theorem c_Debts_gainOf {a0 : Int32} {a1 : Int32} {a2 : Int32} {a3 : Int32} {M : Mem} {Q : Int32 → Mem → Prop} (h : w_Debts_gainOf a0 a1 a2 a3 M Q) : CI yX0_gainOf cX0_gainOf 11 ((some .int)) 4 0 0 LY LY [vr c_debts, vi a0, vi a1, vi a2, vi a3] M Q := mk_i rfl wd_co_X0_gainOf rfl rfl (Nat.le_of_ble_eq_true rfl) (fun X hX hq => t_Debts_gainOf hX hq h)
theorem mv_Debts_gainOf : MV yX0_gainOf cX0_gainOf 11 ((some .int)) RX0 4 := ⟨wd_co_X0_gainOf, wd_im_X0_gainOf, wd_se_X0_gainOf, wd_in_X0, by decide +kernel, by decide⟩
def w_Debts_put_L18 (l1 : Int32) (l2 : Int32) (l3 : Int32) (l4 : Int32) (l5 : Int32) (K : Mem → Prop) (Q : Mem → Prop) : Nat → Int32 → Mem → Prop
  | 0, _, _ => False
  | n + 1, l6, M => ((l3 < l6 → K M) ∧ (¬ l3 < l6 → ((((l1 >>> (l5 &&& 31)) &&& 1) = 0 → K M) ∧ (¬ ((l1 >>> (l5 &&& 31)) &&& 1) = 0 → (vp_in ((l5 * 24) + l6) 144 ∧ w_Debts_put_L18 l1 l2 l3 l4 l5 K Q n (l6 + 1) (si M c_debts_at (Int32.toNatClampNeg ((l5 * 24) + l6)) l4))))))
set_option maxHeartbeats 4000000 in
theorem t_Debts_put_L18 {X : Cx} (hX : Cok X cX0_put RX0 7 none 1 0 0) {Q : Mem → Prop} (hq : RV X 0 0 LY Q) {l1 : Int32} {l2 : Int32} {l3 : Int32} {l4 : Int32} {l5 : Int32} {K : Mem → Prop} (hK : ∀ (M : Mem), K M → Wat X 0 0 LY 54 [some (vr c_debts), some (vi l1), some (vi l2), some (vi l3), some (vi l4), some (vi l5), none] [] M) : ∀ (n : Nat) (l6 : Int32) (M : Mem), w_Debts_put_L18 l1 l2 l3 l4 l5 K Q n l6 M → Wat X 0 0 LY 18 [some (vr c_debts), some (vi l1), some (vi l2), some (vi l3), some (vi l4), some (vi l5), some (vi l6)] [] M := by
  intro n
  induction n with
  | zero => intro _ _ h; exact h.elim
  | succ n ih =>
    intro l6 M h
    refine s_iload hX dX0_put_18 rfl ?_
    refine s_iload_n hX dX0_put_20 rfl ?_
    refine s_icmp_gt (tgt := 54) hX dX0_put_21 (by decide) (fun c => ?_) (fun c => ?_)
    · replace h := h.1 c
      refine s_mask [true, true, true, true, true, true, false] (lv' := [some (vr c_debts), some (vi l1), some (vi l2), some (vi l3), some (vi l4), some (vi l5), none]) rfl rfl ?_
      exact hK _ h
    · replace h := h.2 c
      refine s_iload_n hX dX0_put_24 rfl ?_
      refine s_iload hX dX0_put_25 rfl ?_
      refine s_ishr hX dX0_put_27 ?_
      refine s_iconst (v := 1) hX dX0_put_28 rfl ?_
      refine s_iand hX dX0_put_29 ?_
      refine s_if_eq (tgt := 54) hX dX0_put_30 (by decide) (fun c => ?_) (fun c => ?_)
      · replace h := h.1 c
        refine s_mask [true, true, true, true, true, true, false] (lv' := [some (vr c_debts), some (vi l1), some (vi l2), some (vi l3), some (vi l4), some (vi l5), none]) rfl rfl ?_
        exact hK _ h
      · replace h := h.2 c
        refine s_aload_n hX dX0_put_33 rfl ?_
        refine s_getr hX fi_X0_9 ly_c_debts rfl dX0_put_34 ?_
        refine s_iload hX dX0_put_37 rfl ?_
        refine s_bipush (v := 24) hX dX0_put_39 rfl ?_
        refine s_imul hX dX0_put_41 ?_
        refine s_iload hX dX0_put_42 rfl ?_
        refine s_iadd hX dX0_put_44 ?_
        refine s_iload hX dX0_put_45 rfl ?_
        have hi := h.1
        replace h := h.2
        refine s_iast hX ly_c_debts_at hi dX0_put_47 ?_
        refine s_iinc (v := (l6 + 1)) (lv' := [some (vr c_debts), some (vi l1), some (vi l2), some (vi l3), some (vi l4), some (vi l5), some (vi (l6 + 1))]) hX dX0_put_48 rfl rfl rfl rfl ?_
        refine s_goto (tgt := 18) hX dX0_put_51 (by decide) ?_
        exact ih _ _ h
def w_Debts_put_L3 (l1 : Int32) (l2 : Int32) (l3 : Int32) (l4 : Int32) (K : Mem → Prop) (Q : Mem → Prop) : Nat → Int32 → Mem → Prop
  | 0, _, _ => False
  | n + 1, l5, M => (((M.1 c_land Land_people) ≤ l5 → K M) ∧ (¬ (M.1 c_land Land_people) ≤ l5 → (∃ n466, w_Debts_put_L18 l1 l2 l3 l4 l5 (fun M465 => w_Debts_put_L3 l1 l2 l3 l4 K Q n (l5 + 1) M465) Q n466 l2 M)))
set_option maxHeartbeats 4000000 in
theorem t_Debts_put_L3 {X : Cx} (hX : Cok X cX0_put RX0 7 none 1 0 0) {Q : Mem → Prop} (hq : RV X 0 0 LY Q) {l1 : Int32} {l2 : Int32} {l3 : Int32} {l4 : Int32} {K : Mem → Prop} (hK : ∀ (M : Mem), K M → Wat X 0 0 LY 60 [none, none, none, none, none, none, none] [] M) : ∀ (n : Nat) (l5 : Int32) (M : Mem), w_Debts_put_L3 l1 l2 l3 l4 K Q n l5 M → Wat X 0 0 LY 3 [some (vr c_debts), some (vi l1), some (vi l2), some (vi l3), some (vi l4), some (vi l5), none] [] M := by
  intro n
  induction n with
  | zero => intro _ _ h; exact h.elim
  | succ n ih =>
    intro l5 M h
    refine s_iload hX dX0_put_3 rfl ?_
    refine s_aload_n hX dX0_put_5 rfl ?_
    refine s_getr hX fi_X0_33 ly_c_debts rfl dX0_put_6 ?_
    refine s_getiv (v := (M.1 c_land Land_people)) hX fi_X0_58 ly_c_land rfl dX0_put_9 rfl ?_
    refine s_icmp_ge (tgt := 60) hX dX0_put_12 (by decide) (fun c => ?_) (fun c => ?_)
    · replace h := h.1 c
      refine s_mask [false, false, false, false, false, false, true] (lv' := [none, none, none, none, none, none, none]) rfl rfl ?_
      exact hK _ h
    · replace h := h.2 c
      refine s_iload_n hX dX0_put_15 rfl ?_
      refine s_istore (lv' := [some (vr c_debts), some (vi l1), some (vi l2), some (vi l3), some (vi l4), some (vi l5), some (vi l2)]) hX dX0_put_16 rfl rfl (Nat.le_of_ble_eq_true rfl) ?_
      obtain ⟨n466, h⟩ := h
      refine t_Debts_put_L18 hX hq ?_ n466 _ _ h
      intro M465 h
      refine s_iinc (v := (l5 + 1)) (lv' := [some (vr c_debts), some (vi l1), some (vi l2), some (vi l3), some (vi l4), some (vi (l5 + 1)), none]) hX dX0_put_54 rfl rfl rfl rfl ?_
      refine s_goto (tgt := 3) hX dX0_put_57 (by decide) ?_
      exact ih _ _ h
def w_Debts_put (a0 : Int32) (a1 : Int32) (a2 : Int32) (a3 : Int32) (M : Mem) (Q : Mem → Prop) : Prop :=
  (∃ n468, w_Debts_put_L3 a0 a1 a2 a3 (fun M467 => Q M467) Q n468 0 M)
set_option maxHeartbeats 4000000 in
theorem t_Debts_put {X : Cx} (hX : Cok X cX0_put RX0 7 none 1 0 0) {Q : Mem → Prop} (hq : RV X 0 0 LY Q) {M : Mem} {a0 : Int32} {a1 : Int32} {a2 : Int32} {a3 : Int32} (h : w_Debts_put a0 a1 a2 a3 M Q) : Wat X 0 0 LY 0 [some (vr c_debts), some (vi a0), some (vi a1), some (vi a2), some (vi a3), none, none] [] M := by
  refine s_iconst (v := 0) hX dX0_put_0 rfl ?_
  refine s_istore (lv' := [some (vr c_debts), some (vi a0), some (vi a1), some (vi a2), some (vi a3), some (vi 0), none]) hX dX0_put_1 rfl rfl (Nat.le_of_ble_eq_true rfl) ?_
  obtain ⟨n468, h⟩ := h
  refine t_Debts_put_L3 hX hq ?_ n468 _ _ h
  intro M467 h
  exact s_vret hX hq rfl dX0_put_60 h
theorem c_Debts_put {a0 : Int32} {a1 : Int32} {a2 : Int32} {a3 : Int32} {M : Mem} {Q : Mem → Prop} (h : w_Debts_put a0 a1 a2 a3 M Q) : CV yX0_put cX0_put 7 none 1 0 0 LY LY [vr c_debts, vi a0, vi a1, vi a2, vi a3] M Q := mk_v rfl wd_co_X0_put rfl rfl (Nat.le_of_ble_eq_true rfl) (fun X hX hq => t_Debts_put hX hq h)
theorem mv_Debts_put : MV yX0_put cX0_put 7 none RX0 4 := ⟨wd_co_X0_put, wd_im_X0_put, wd_se_X0_put, wd_in_X0, by decide +kernel, by decide⟩
def w_Game_tryCells_j91 (R : Int32 → Mem → Prop) (K : Mem → Prop) (l1 : Int32) (l2 : Int32) (l3 : Int32) (l4 : Int32) (l5 : Int32) (l6 : Int32) (l7 : Int32) (l8 : Int32) (M : Mem) (Q : Mem → Prop) : Prop :=
  R (l6 + 1) (si (si (si M c_game Game_bestCell l7) c_game Game_bestBalance l8) c_game Game_bestSet l1)
set_option maxHeartbeats 4000000 in
theorem t_Game_tryCells_j91 {X : Cx} (hX : Cok X cX2_tryCells RX2 9 none 5 0 0) {Q : Mem → Prop} (hq : RV X 0 0 LY Q) {l1 : Int32} {l2 : Int32} {l3 : Int32} {l4 : Int32} {l5 : Int32} {R : Int32 → Mem → Prop} {K : Mem → Prop} (hR : ∀ (l6 : Int32) (M : Mem), R l6 M → Wat X 0 0 LY 18 [some (vr c_game), some (vi l1), some (vi l2), some (vi l3), some (vi l4), some (vi l5), some (vi l6), none, none] [] M) (hK : ∀ (M : Mem), K M → Wat X 0 0 LY 114 [some (vr c_game), some (vi l1), some (vi l2), some (vi l3), some (vi l4), some (vi l5), none, none, none] [] M) {l6 : Int32} {l7 : Int32} {l8 : Int32} {M : Mem} (h : w_Game_tryCells_j91 R K l1 l2 l3 l4 l5 l6 l7 l8 M Q) : Wat X 0 0 LY 91 [some (vr c_game), some (vi l1), some (vi l2), some (vi l3), some (vi l4), some (vi l5), some (vi l6), some (vi l7), some (vi l8)] [] M := by
  refine s_aload_n hX dX2_tryCells_91 rfl ?_
  refine s_iload hX dX2_tryCells_92 rfl ?_
  refine s_puti hX fi_X2_40 fp_X2 rfl (by decide +kernel) ly_c_game rfl dX2_tryCells_94 ?_
  refine s_aload_n hX dX2_tryCells_97 rfl ?_
  refine s_iload hX dX2_tryCells_98 rfl ?_
  refine s_puti hX fi_X2_96 fp_X2 rfl (by decide +kernel) ly_c_game rfl dX2_tryCells_100 ?_
  refine s_aload_n hX dX2_tryCells_103 rfl ?_
  refine s_iload_n hX dX2_tryCells_104 rfl ?_
  refine s_puti hX fi_X2_108 fp_X2 rfl (by decide +kernel) ly_c_game rfl dX2_tryCells_105 ?_
  refine s_iinc (v := (l6 + 1)) (lv' := [some (vr c_game), some (vi l1), some (vi l2), some (vi l3), some (vi l4), some (vi l5), some (vi (l6 + 1)), some (vi l7), some (vi l8)]) hX dX2_tryCells_108 rfl rfl rfl rfl ?_
  refine s_goto (tgt := 18) hX dX2_tryCells_111 (by decide) ?_
  refine s_mask [true, true, true, true, true, true, true, false, false] (lv' := [some (vr c_game), some (vi l1), some (vi l2), some (vi l3), some (vi l4), some (vi l5), some (vi (l6 + 1)), none, none]) rfl rfl ?_
  exact hR _ _ h
def w_Game_tryCells_L18 (l1 : Int32) (l2 : Int32) (l3 : Int32) (l4 : Int32) (l5 : Int32) (K : Mem → Prop) (Q : Mem → Prop) : Nat → Int32 → Mem → Prop
  | 0, _, _ => False
  | n + 1, l6, M => (((M.1 c_land Land_wide) ≤ l6 → K M) ∧ (¬ (M.1 c_land Land_wide) ≤ l6 → w_Debts_put l1 l2 l3 ((l5 * 8) + l6) M (fun M469 => w_Debts_gainOf l1 l2 l3 (M469.1 c_deeds Deeds_shot) M469 (fun r471 M470 => (((M470.1 c_game Game_bestCell) = (-1) → w_Game_tryCells_j91 (fun l6 M => w_Game_tryCells_L18 l1 l2 l3 l4 l5 K Q n l6 M) K l1 l2 l3 l4 l5 l6 ((l5 * 8) + l6) (l4 + r471) M470 Q) ∧ (¬ (M470.1 c_game Game_bestCell) = (-1) → (((l4 + r471) ≤ (M470.1 c_game Game_bestBalance) → w_Game_tryCells_L18 l1 l2 l3 l4 l5 K Q n (l6 + 1) M470) ∧ (¬ (l4 + r471) ≤ (M470.1 c_game Game_bestBalance) → w_Game_tryCells_j91 (fun l6 M => w_Game_tryCells_L18 l1 l2 l3 l4 l5 K Q n l6 M) K l1 l2 l3 l4 l5 l6 ((l5 * 8) + l6) (l4 + r471) M470 Q))))))))
set_option maxHeartbeats 4000000 in
theorem t_Game_tryCells_L18 {X : Cx} (hX : Cok X cX2_tryCells RX2 9 none 5 0 0) {Q : Mem → Prop} (hq : RV X 0 0 LY Q) {l1 : Int32} {l2 : Int32} {l3 : Int32} {l4 : Int32} {l5 : Int32} {K : Mem → Prop} (hK : ∀ (M : Mem), K M → Wat X 0 0 LY 114 [some (vr c_game), some (vi l1), some (vi l2), some (vi l3), some (vi l4), some (vi l5), none, none, none] [] M) : ∀ (n : Nat) (l6 : Int32) (M : Mem), w_Game_tryCells_L18 l1 l2 l3 l4 l5 K Q n l6 M → Wat X 0 0 LY 18 [some (vr c_game), some (vi l1), some (vi l2), some (vi l3), some (vi l4), some (vi l5), some (vi l6), none, none] [] M := by
  intro n
  induction n with
  | zero => intro _ _ h; exact h.elim
  | succ n ih =>
    intro l6 M h
    refine s_iload hX dX2_tryCells_18 rfl ?_
    refine s_aload_n hX dX2_tryCells_20 rfl ?_
    refine s_getr hX fi_X2_19 ly_c_game rfl dX2_tryCells_21 ?_
    refine s_getiv (v := (M.1 c_land Land_wide)) hX fi_X2_105 ly_c_land rfl dX2_tryCells_24 rfl ?_
    refine s_icmp_ge (tgt := 114) hX dX2_tryCells_27 (by decide) (fun c => ?_) (fun c => ?_)
    · replace h := h.1 c
      refine s_mask [true, true, true, true, true, true, false, true, true] (lv' := [some (vr c_game), some (vi l1), some (vi l2), some (vi l3), some (vi l4), some (vi l5), none, none, none]) rfl rfl ?_
      exact hK _ h
    · replace h := h.2 c
      refine s_iload hX dX2_tryCells_30 rfl ?_
      refine s_bipush (v := 8) hX dX2_tryCells_32 rfl ?_
      refine s_imul hX dX2_tryCells_34 ?_
      refine s_iload hX dX2_tryCells_35 rfl ?_
      refine s_iadd hX dX2_tryCells_37 ?_
      refine s_istore (lv' := [some (vr c_game), some (vi l1), some (vi l2), some (vi l3), some (vi l4), some (vi l5), some (vi l6), some (vi ((l5 * 8) + l6)), none]) hX dX2_tryCells_38 rfl rfl (Nat.le_of_ble_eq_true rfl) ?_
      refine s_aload_n hX dX2_tryCells_40 rfl ?_
      refine s_getr hX fi_X2_27 ly_c_game rfl dX2_tryCells_41 ?_
      refine s_iload_n hX dX2_tryCells_44 rfl ?_
      refine s_iload_n hX dX2_tryCells_45 rfl ?_
      refine s_iload_n hX dX2_tryCells_46 rfl ?_
      refine s_iload hX dX2_tryCells_47 rfl ?_
      refine s_cvv (as := [vi l1, vi l2, vi l3, vi ((l5 * 8) + l6)]) (rest := []) hX (c_Debts_put h) mv_Debts_put wd_ml_X2_99 dX2_tryCells_49 ly_c_debts rfl rfl (Nat.le_of_ble_eq_true rfl) rfl (by decide) ⟨Nat.zero_le _, Nat.zero_le _⟩ (fun M469 h => ?_)
      refine s_iload hX dX2_tryCells_52 rfl ?_
      refine s_aload_n hX dX2_tryCells_54 rfl ?_
      refine s_getr hX fi_X2_27 ly_c_game rfl dX2_tryCells_55 ?_
      refine s_iload_n hX dX2_tryCells_58 rfl ?_
      refine s_iload_n hX dX2_tryCells_59 rfl ?_
      refine s_iload_n hX dX2_tryCells_60 rfl ?_
      refine s_aload_n hX dX2_tryCells_61 rfl ?_
      refine s_getr hX fi_X2_23 ly_c_game rfl dX2_tryCells_62 ?_
      refine s_getiv (v := (M469.1 c_deeds Deeds_shot)) hX fi_X2_78 ly_c_deeds rfl dX2_tryCells_65 rfl ?_
      refine s_cvi (as := [vi l1, vi l2, vi l3, vi (M469.1 c_deeds Deeds_shot)]) (rest := [vi l4]) hX (c_Debts_gainOf h) mv_Debts_gainOf wd_ml_X2_83 dX2_tryCells_68 ly_c_debts rfl rfl (Nat.le_of_ble_eq_true rfl) rfl (by decide) ⟨Nat.zero_le _, Nat.zero_le _⟩ (fun r471 M470 h => ?_)
      refine s_iadd hX dX2_tryCells_71 ?_
      refine s_istore (lv' := [some (vr c_game), some (vi l1), some (vi l2), some (vi l3), some (vi l4), some (vi l5), some (vi l6), some (vi ((l5 * 8) + l6)), some (vi (l4 + r471))]) hX dX2_tryCells_72 rfl rfl (Nat.le_of_ble_eq_true rfl) ?_
      refine s_aload_n hX dX2_tryCells_74 rfl ?_
      refine s_getiv (v := (M470.1 c_game Game_bestCell)) hX fi_X2_40 ly_c_game rfl dX2_tryCells_75 rfl ?_
      refine s_iconst (v := (-1)) hX dX2_tryCells_78 rfl ?_
      refine s_icmp_eq (tgt := 91) hX dX2_tryCells_79 (by decide) (fun c => ?_) (fun c => ?_)
      · replace h := h.1 c
        exact t_Game_tryCells_j91 hX hq (fun _ _ h => ih _ _ h) hK h
      · replace h := h.2 c
        refine s_iload hX dX2_tryCells_82 rfl ?_
        refine s_aload_n hX dX2_tryCells_84 rfl ?_
        refine s_getiv (v := (M470.1 c_game Game_bestBalance)) hX fi_X2_96 ly_c_game rfl dX2_tryCells_85 rfl ?_
        refine s_icmp_le (tgt := 108) hX dX2_tryCells_88 (by decide) (fun c => ?_) (fun c => ?_)
        · replace h := h.1 c
          refine s_iinc (v := (l6 + 1)) (lv' := [some (vr c_game), some (vi l1), some (vi l2), some (vi l3), some (vi l4), some (vi l5), some (vi (l6 + 1)), some (vi ((l5 * 8) + l6)), some (vi (l4 + r471))]) hX dX2_tryCells_108 rfl rfl rfl rfl ?_
          refine s_goto (tgt := 18) hX dX2_tryCells_111 (by decide) ?_
          refine s_mask [true, true, true, true, true, true, true, false, false] (lv' := [some (vr c_game), some (vi l1), some (vi l2), some (vi l3), some (vi l4), some (vi l5), some (vi (l6 + 1)), none, none]) rfl rfl ?_
          exact ih _ _ h
        · replace h := h.2 c
          exact t_Game_tryCells_j91 hX hq (fun _ _ h => ih _ _ h) hK h
def w_Game_tryCells_L3 (l1 : Int32) (l2 : Int32) (l3 : Int32) (l4 : Int32) (K : Mem → Prop) (Q : Mem → Prop) : Nat → Int32 → Mem → Prop
  | 0, _, _ => False
  | n + 1, l5, M => (((M.1 c_land Land_deep) ≤ l5 → K M) ∧ (¬ (M.1 c_land Land_deep) ≤ l5 → (∃ n473, w_Game_tryCells_L18 l1 l2 l3 l4 l5 (fun M472 => w_Game_tryCells_L3 l1 l2 l3 l4 K Q n (l5 + 1) M472) Q n473 0 M)))
set_option maxHeartbeats 4000000 in
theorem t_Game_tryCells_L3 {X : Cx} (hX : Cok X cX2_tryCells RX2 9 none 5 0 0) {Q : Mem → Prop} (hq : RV X 0 0 LY Q) {l1 : Int32} {l2 : Int32} {l3 : Int32} {l4 : Int32} {K : Mem → Prop} (hK : ∀ (M : Mem), K M → Wat X 0 0 LY 120 [none, none, none, none, none, none, none, none, none] [] M) : ∀ (n : Nat) (l5 : Int32) (M : Mem), w_Game_tryCells_L3 l1 l2 l3 l4 K Q n l5 M → Wat X 0 0 LY 3 [some (vr c_game), some (vi l1), some (vi l2), some (vi l3), some (vi l4), some (vi l5), none, none, none] [] M := by
  intro n
  induction n with
  | zero => intro _ _ h; exact h.elim
  | succ n ih =>
    intro l5 M h
    refine s_iload hX dX2_tryCells_3 rfl ?_
    refine s_aload_n hX dX2_tryCells_5 rfl ?_
    refine s_getr hX fi_X2_19 ly_c_game rfl dX2_tryCells_6 ?_
    refine s_getiv (v := (M.1 c_land Land_deep)) hX fi_X2_102 ly_c_land rfl dX2_tryCells_9 rfl ?_
    refine s_icmp_ge (tgt := 120) hX dX2_tryCells_12 (by decide) (fun c => ?_) (fun c => ?_)
    · replace h := h.1 c
      refine s_mask [false, false, false, false, false, false, true, true, true] (lv' := [none, none, none, none, none, none, none, none, none]) rfl rfl ?_
      exact hK _ h
    · replace h := h.2 c
      refine s_iconst (v := 0) hX dX2_tryCells_15 rfl ?_
      refine s_istore (lv' := [some (vr c_game), some (vi l1), some (vi l2), some (vi l3), some (vi l4), some (vi l5), some (vi 0), none, none]) hX dX2_tryCells_16 rfl rfl (Nat.le_of_ble_eq_true rfl) ?_
      obtain ⟨n473, h⟩ := h
      refine t_Game_tryCells_L18 hX hq ?_ n473 _ _ h
      intro M472 h
      refine s_iinc (v := (l5 + 1)) (lv' := [some (vr c_game), some (vi l1), some (vi l2), some (vi l3), some (vi l4), some (vi (l5 + 1)), none, none, none]) hX dX2_tryCells_114 rfl rfl rfl rfl ?_
      refine s_goto (tgt := 3) hX dX2_tryCells_117 (by decide) ?_
      exact ih _ _ h
def w_Game_tryCells (a0 : Int32) (a1 : Int32) (a2 : Int32) (a3 : Int32) (M : Mem) (Q : Mem → Prop) : Prop :=
  (∃ n475, w_Game_tryCells_L3 a0 a1 a2 a3 (fun M474 => Q M474) Q n475 0 M)
set_option maxHeartbeats 4000000 in
theorem t_Game_tryCells {X : Cx} (hX : Cok X cX2_tryCells RX2 9 none 5 0 0) {Q : Mem → Prop} (hq : RV X 0 0 LY Q) {M : Mem} {a0 : Int32} {a1 : Int32} {a2 : Int32} {a3 : Int32} (h : w_Game_tryCells a0 a1 a2 a3 M Q) : Wat X 0 0 LY 0 [some (vr c_game), some (vi a0), some (vi a1), some (vi a2), some (vi a3), none, none, none, none] [] M := by
  refine s_iconst (v := 0) hX dX2_tryCells_0 rfl ?_
  refine s_istore (lv' := [some (vr c_game), some (vi a0), some (vi a1), some (vi a2), some (vi a3), some (vi 0), none, none, none]) hX dX2_tryCells_1 rfl rfl (Nat.le_of_ble_eq_true rfl) ?_
  obtain ⟨n475, h⟩ := h
  refine t_Game_tryCells_L3 hX hq ?_ n475 _ _ h
  intro M474 h
  exact s_vret hX hq rfl dX2_tryCells_120 h
theorem c_Game_tryCells {a0 : Int32} {a1 : Int32} {a2 : Int32} {a3 : Int32} {M : Mem} {Q : Mem → Prop} (h : w_Game_tryCells a0 a1 a2 a3 M Q) : CV yX2_tryCells cX2_tryCells 9 none 5 0 0 LY LY [vr c_game, vi a0, vi a1, vi a2, vi a3] M Q := mk_v rfl wd_co_X2_tryCells rfl rfl (Nat.le_of_ble_eq_true rfl) (fun X hX hq => t_Game_tryCells hX hq h)
theorem mv_Game_tryCells : MV yX2_tryCells cX2_tryCells 9 none RX2 4 := ⟨wd_co_X2_tryCells, wd_im_X2_tryCells, wd_se_X2_tryCells, wd_in_X2, by decide +kernel, by decide⟩
def w_Game_playRound_L5 (l1 : Int32) (l2 : Int32) (K : Int32 → Mem → Prop) (Q : Bool → Mem → Prop) : Nat → Int32 → Int32 → Mem → Prop
  | 0, _, _, _ => False
  | n + 1, l3, l4, M => (((M.1 c_land Land_people) ≤ l4 → K l3 M) ∧ (¬ (M.1 c_land Land_people) ≤ l4 → w_Debts_gainOf (1 <<< (l4 &&& 31)) l1 l2 (M.1 c_deeds Deeds_shot) M (fun r464 M463 => ((¬ (l4 * 24) < 0 ∧ ¬ (0 : Int32) < 0 ∧ ¬ (24 : Int32) < 0 ∧ Int32.toNatClampNeg (l4 * 24) + Int32.toNatClampNeg (24 : Int32) ≤ 144 ∧ Int32.toNatClampNeg (0 : Int32) + Int32.toNatClampNeg (24 : Int32) ≤ 24) ∧ w_Game_tryCells (1 <<< (l4 &&& 31)) l1 l2 0 (si (sa M463 c_game_path (va_cpy (M463.1 c_debts_at) (M463.1 c_game_path) (Int32.toNatClampNeg (l4 * 24)) (Int32.toNatClampNeg 0) (Int32.toNatClampNeg 24))) c_game Game_bestCell (-1)) (fun M476 => (((M476.1 c_game Game_bestBalance) ≤ r464 → ((¬ (0 : Int32) < 0 ∧ ¬ (l4 * 24) < 0 ∧ ¬ (24 : Int32) < 0 ∧ Int32.toNatClampNeg (0 : Int32) + Int32.toNatClampNeg (24 : Int32) ≤ 24 ∧ Int32.toNatClampNeg (l4 * 24) + Int32.toNatClampNeg (24 : Int32) ≤ 144) ∧ w_Game_playRound_L5 l1 l2 K Q n l3 (l4 + 1) (sa M476 c_debts_at (va_cpy (M476.1 c_game_path) (M476.1 c_debts_at) (Int32.toNatClampNeg 0) (Int32.toNatClampNeg (l4 * 24)) (Int32.toNatClampNeg 24))))) ∧ (¬ (M476.1 c_game Game_bestBalance) ≤ r464 → w_Debts_put (1 <<< (l4 &&& 31)) l1 l2 (M476.1 c_game Game_bestCell) M476 (fun M477 => w_Game_playRound_L5 l1 l2 K Q n 1 (l4 + 1) M477))))))))
set_option maxHeartbeats 4000000 in
theorem t_Game_playRound_L5 {X : Cx} (hX : Cok X cX2_playRound RX2 7 ((some .boolean)) 6 0 0) {Q : Bool → Mem → Prop} (hq : RI X 0 0 LY (bQ Q)) {l1 : Int32} {l2 : Int32} {K : Int32 → Mem → Prop} (hK : ∀ (l3 : Int32) (M : Mem), K l3 M → Wat X 0 0 LY 136 [none, none, none, some (vi l3), none, none, none] [] M) : ∀ (n : Nat) (l3 : Int32) (l4 : Int32) (M : Mem), w_Game_playRound_L5 l1 l2 K Q n l3 l4 M → Wat X 0 0 LY 5 [some (vr c_game), some (vi l1), some (vi l2), some (vi l3), some (vi l4), none, none] [] M := by
  intro n
  induction n with
  | zero => intro _ _ _ h; exact h.elim
  | succ n ih =>
    intro l3 l4 M h
    refine s_iload hX dX2_playRound_5 rfl ?_
    refine s_aload_n hX dX2_playRound_7 rfl ?_
    refine s_getr hX fi_X2_19 ly_c_game rfl dX2_playRound_8 ?_
    refine s_getiv (v := (M.1 c_land Land_people)) hX fi_X2_48 ly_c_land rfl dX2_playRound_11 rfl ?_
    refine s_icmp_ge (tgt := 136) hX dX2_playRound_14 (by decide) (fun c => ?_) (fun c => ?_)
    · replace h := h.1 c
      refine s_mask [false, false, false, true, false, true, true] (lv' := [none, none, none, some (vi l3), none, none, none]) rfl rfl ?_
      exact hK _ _ h
    · replace h := h.2 c
      refine s_iconst (v := 1) hX dX2_playRound_17 rfl ?_
      refine s_iload hX dX2_playRound_18 rfl ?_
      refine s_ishl hX dX2_playRound_20 ?_
      refine s_istore (lv' := [some (vr c_game), some (vi l1), some (vi l2), some (vi l3), some (vi l4), some (vi (1 <<< (l4 &&& 31))), none]) hX dX2_playRound_21 rfl rfl (Nat.le_of_ble_eq_true rfl) ?_
      refine s_aload_n hX dX2_playRound_23 rfl ?_
      refine s_getr hX fi_X2_27 ly_c_game rfl dX2_playRound_24 ?_
      refine s_iload hX dX2_playRound_27 rfl ?_
      refine s_iload_n hX dX2_playRound_29 rfl ?_
      refine s_iload_n hX dX2_playRound_30 rfl ?_
      refine s_aload_n hX dX2_playRound_31 rfl ?_
      refine s_getr hX fi_X2_23 ly_c_game rfl dX2_playRound_32 ?_
      refine s_getiv (v := (M.1 c_deeds Deeds_shot)) hX fi_X2_78 ly_c_deeds rfl dX2_playRound_35 rfl ?_
      refine s_cvi (as := [vi (1 <<< (l4 &&& 31)), vi l1, vi l2, vi (M.1 c_deeds Deeds_shot)]) (rest := []) hX (c_Debts_gainOf h) mv_Debts_gainOf wd_ml_X2_83 dX2_playRound_38 ly_c_debts rfl rfl (Nat.le_of_ble_eq_true rfl) rfl (by decide) ⟨Nat.zero_le _, Nat.zero_le _⟩ (fun r464 M463 h => ?_)
      refine s_istore (lv' := [some (vr c_game), some (vi l1), some (vi l2), some (vi l3), some (vi l4), some (vi (1 <<< (l4 &&& 31))), some (vi r464)]) hX dX2_playRound_41 rfl rfl (Nat.le_of_ble_eq_true rfl) ?_
      refine s_aload_n hX dX2_playRound_43 rfl ?_
      refine s_getr hX fi_X2_27 ly_c_game rfl dX2_playRound_44 ?_
      refine s_getr hX fi_X2_87 ly_c_debts rfl dX2_playRound_47 ?_
      refine s_iload hX dX2_playRound_50 rfl ?_
      refine s_bipush (v := 24) hX dX2_playRound_52 rfl ?_
      refine s_imul hX dX2_playRound_54 ?_
      refine s_aload_n hX dX2_playRound_55 rfl ?_
      refine s_getr hX fi_X2_9 ly_c_game rfl dX2_playRound_56 ?_
      refine s_iconst (v := 0) hX dX2_playRound_59 rfl ?_
      refine s_bipush (v := 24) hX dX2_playRound_60 rfl ?_
      obtain ⟨⟨h1, h2, h3, h4, h5⟩, h⟩ := h
      refine s_acopy hX ly_c_debts_at ly_c_game_path wd_ml_X2_90 rfl (by decide) (Nat.le_of_ble_eq_true rfl) h1 h2 h3 h4 h5 dX2_playRound_62 ?_
      refine s_aload_n hX dX2_playRound_65 rfl ?_
      refine s_iconst (v := (-1)) hX dX2_playRound_66 rfl ?_
      refine s_puti hX fi_X2_40 fp_X2 rfl (by decide +kernel) ly_c_game rfl dX2_playRound_67 ?_
      refine s_aload_n hX dX2_playRound_70 rfl ?_
      refine s_iload hX dX2_playRound_71 rfl ?_
      refine s_iload_n hX dX2_playRound_73 rfl ?_
      refine s_iload_n hX dX2_playRound_74 rfl ?_
      refine s_iconst (v := 0) hX dX2_playRound_75 rfl ?_
      refine s_cvv (as := [vi (1 <<< (l4 &&& 31)), vi l1, vi l2, vi 0]) (rest := []) hX (c_Game_tryCells h) mv_Game_tryCells wd_ml_X2_44 dX2_playRound_76 ly_c_game rfl rfl (Nat.le_of_ble_eq_true rfl) rfl (by decide) ⟨Nat.zero_le _, Nat.zero_le _⟩ (fun M476 h => ?_)
      refine s_aload_n hX dX2_playRound_79 rfl ?_
      refine s_getiv (v := (M476.1 c_game Game_bestBalance)) hX fi_X2_96 ly_c_game rfl dX2_playRound_80 rfl ?_
      refine s_iload hX dX2_playRound_83 rfl ?_
      refine s_icmp_le (tgt := 108) hX dX2_playRound_85 (by decide) (fun c => ?_) (fun c => ?_)
      · replace h := h.1 c
        refine s_aload_n hX dX2_playRound_108 rfl ?_
        refine s_getr hX fi_X2_9 ly_c_game rfl dX2_playRound_109 ?_
        refine s_iconst (v := 0) hX dX2_playRound_112 rfl ?_
        refine s_aload_n hX dX2_playRound_113 rfl ?_
        refine s_getr hX fi_X2_27 ly_c_game rfl dX2_playRound_114 ?_
        refine s_getr hX fi_X2_87 ly_c_debts rfl dX2_playRound_117 ?_
        refine s_iload hX dX2_playRound_120 rfl ?_
        refine s_bipush (v := 24) hX dX2_playRound_122 rfl ?_
        refine s_imul hX dX2_playRound_124 ?_
        refine s_bipush (v := 24) hX dX2_playRound_125 rfl ?_
        obtain ⟨⟨h1, h2, h3, h4, h5⟩, h⟩ := h
        refine s_acopy hX ly_c_game_path ly_c_debts_at wd_ml_X2_90 rfl (by decide) (Nat.le_of_ble_eq_true rfl) h1 h2 h3 h4 h5 dX2_playRound_127 ?_
        refine s_iinc (v := (l4 + 1)) (lv' := [some (vr c_game), some (vi l1), some (vi l2), some (vi l3), some (vi (l4 + 1)), some (vi (1 <<< (l4 &&& 31))), some (vi r464)]) hX dX2_playRound_130 rfl rfl rfl rfl ?_
        refine s_goto (tgt := 5) hX dX2_playRound_133 (by decide) ?_
        refine s_mask [true, true, true, true, true, false, false] (lv' := [some (vr c_game), some (vi l1), some (vi l2), some (vi l3), some (vi (l4 + 1)), none, none]) rfl rfl ?_
        exact ih _ _ _ h
      · replace h := h.2 c
        refine s_aload_n hX dX2_playRound_88 rfl ?_
        refine s_getr hX fi_X2_27 ly_c_game rfl dX2_playRound_89 ?_
        refine s_iload hX dX2_playRound_92 rfl ?_
        refine s_iload_n hX dX2_playRound_94 rfl ?_
        refine s_iload_n hX dX2_playRound_95 rfl ?_
        refine s_aload_n hX dX2_playRound_96 rfl ?_
        refine s_getiv (v := (M476.1 c_game Game_bestCell)) hX fi_X2_40 ly_c_game rfl dX2_playRound_97 rfl ?_
        refine s_cvv (as := [vi (1 <<< (l4 &&& 31)), vi l1, vi l2, vi (M476.1 c_game Game_bestCell)]) (rest := []) hX (c_Debts_put h) mv_Debts_put wd_ml_X2_99 dX2_playRound_100 ly_c_debts rfl rfl (Nat.le_of_ble_eq_true rfl) rfl (by decide) ⟨Nat.zero_le _, Nat.zero_le _⟩ (fun M477 h => ?_)
        refine s_iconst (v := 1) hX dX2_playRound_103 rfl ?_
        refine s_istore_n (lv' := [some (vr c_game), some (vi l1), some (vi l2), some (vi 1), some (vi l4), some (vi (1 <<< (l4 &&& 31))), some (vi r464)]) hX dX2_playRound_104 rfl rfl (Nat.le_of_ble_eq_true rfl) ?_
        refine s_goto (tgt := 130) hX dX2_playRound_105 (by decide) ?_
        refine s_iinc (v := (l4 + 1)) (lv' := [some (vr c_game), some (vi l1), some (vi l2), some (vi 1), some (vi (l4 + 1)), some (vi (1 <<< (l4 &&& 31))), some (vi r464)]) hX dX2_playRound_130 rfl rfl rfl rfl ?_
        refine s_goto (tgt := 5) hX dX2_playRound_133 (by decide) ?_
        refine s_mask [true, true, true, true, true, false, false] (lv' := [some (vr c_game), some (vi l1), some (vi l2), some (vi 1), some (vi (l4 + 1)), none, none]) rfl rfl ?_
        exact ih _ _ _ h
def w_Game_playRound (a0 : Int32) (a1 : Int32) (M : Mem) (Q : Bool → Mem → Prop) : Prop :=
  (∃ n480, w_Game_playRound_L5 a0 a1 (fun y479 M478 => (∃ bb : Bool, y479 = b2i bb ∧ Q bb M478)) Q n480 0 0 M)
set_option maxHeartbeats 4000000 in
theorem t_Game_playRound {X : Cx} (hX : Cok X cX2_playRound RX2 7 ((some .boolean)) 6 0 0) {Q : Bool → Mem → Prop} (hq : RI X 0 0 LY (bQ Q)) {M : Mem} {a0 : Int32} {a1 : Int32} (h : w_Game_playRound a0 a1 M Q) : Wat X 0 0 LY 0 [some (vr c_game), some (vi a0), some (vi a1), none, none, none, none] [] M := by
  refine s_iconst (v := 0) hX dX2_playRound_0 rfl ?_
  refine s_istore_n (lv' := [some (vr c_game), some (vi a0), some (vi a1), some (vi 0), none, none, none]) hX dX2_playRound_1 rfl rfl (Nat.le_of_ble_eq_true rfl) ?_
  refine s_iconst (v := 0) hX dX2_playRound_2 rfl ?_
  refine s_istore (lv' := [some (vr c_game), some (vi a0), some (vi a1), some (vi 0), some (vi 0), none, none]) hX dX2_playRound_3 rfl rfl (Nat.le_of_ble_eq_true rfl) ?_
  obtain ⟨n480, h⟩ := h
  refine t_Game_playRound_L5 hX hq ?_ n480 _ _ _ h
  intro y479 M478 h
  refine s_iload_n hX dX2_playRound_136 rfl ?_
  obtain ⟨bb, hbb, h⟩ := h
  exact s_zret hX bb hq rfl dX2_playRound_137 hbb h
theorem c_Game_playRound {a0 : Int32} {a1 : Int32} {M : Mem} {Q : Bool → Mem → Prop} (h : w_Game_playRound a0 a1 M Q) : CI yX2_playRound cX2_playRound 7 ((some .boolean)) 6 0 0 LY LY [vr c_game, vi a0, vi a1] M (bQ Q) := mk_i rfl wd_co_X2_playRound rfl rfl (Nat.le_of_ble_eq_true rfl) (fun X hX hq => t_Game_playRound hX hq h)
theorem mv_Game_playRound : MV yX2_playRound cX2_playRound 7 ((some .boolean)) RX2 2 := ⟨wd_co_X2_playRound, wd_im_X2_playRound, wd_se_X2_playRound, wd_in_X2, by decide +kernel, by decide⟩
def w_Game_wasSeen_L2 (l1 : Int32) (K : Mem → Prop) (Q : Bool → Mem → Prop) : Nat → Int32 → Mem → Prop
  | 0, _, _ => False
  | n + 1, l2, M => ((l1 ≤ l2 → K M) ∧ (¬ l1 ≤ l2 → (vp_in l2 51 ∧ (vp_in l1 51 ∧ ((¬ (lg_cmp (M.2 c_game_seen (Int32.toNatClampNeg l2)) (M.2 c_game_seen (Int32.toNatClampNeg l1))) = 0 → w_Game_wasSeen_L2 l1 K Q n (l2 + 1) M) ∧ ((lg_cmp (M.2 c_game_seen (Int32.toNatClampNeg l2)) (M.2 c_game_seen (Int32.toNatClampNeg l1))) = 0 → Q true M))))))
set_option maxHeartbeats 4000000 in
theorem t_Game_wasSeen_L2 {X : Cx} (hX : Cok X cX2_wasSeen RX2 3 ((some .boolean)) 1 0 0) {Q : Bool → Mem → Prop} (hq : RI X 0 0 LY (bQ Q)) {l1 : Int32} {K : Mem → Prop} (hK : ∀ (M : Mem), K M → Wat X 0 0 LY 31 [none, none, none] [] M) : ∀ (n : Nat) (l2 : Int32) (M : Mem), w_Game_wasSeen_L2 l1 K Q n l2 M → Wat X 0 0 LY 2 [some (vr c_game), some (vi l1), some (vi l2)] [] M := by
  intro n
  induction n with
  | zero => intro _ _ h; exact h.elim
  | succ n ih =>
    intro l2 M h
    refine s_iload_n hX dX2_wasSeen_2 rfl ?_
    refine s_iload_n hX dX2_wasSeen_3 rfl ?_
    refine s_icmp_ge (tgt := 31) hX dX2_wasSeen_4 (by decide) (fun c => ?_) (fun c => ?_)
    · replace h := h.1 c
      refine s_mask [false, false, false] (lv' := [none, none, none]) rfl rfl ?_
      exact hK _ h
    · replace h := h.2 c
      refine s_aload_n hX dX2_wasSeen_7 rfl ?_
      refine s_getr hX fi_X2_15 ly_c_game rfl dX2_wasSeen_8 ?_
      refine s_iload_n hX dX2_wasSeen_11 rfl ?_
      have hi := h.1
      replace h := h.2
      refine s_laldv (v := (M.2 c_game_seen (Int32.toNatClampNeg l2))) hX ly_c_game_seen hi dX2_wasSeen_12 rfl ?_
      refine s_aload_n hX dX2_wasSeen_13 rfl ?_
      refine s_getr hX fi_X2_15 ly_c_game rfl dX2_wasSeen_14 ?_
      refine s_iload_n hX dX2_wasSeen_17 rfl ?_
      have hi := h.1
      replace h := h.2
      refine s_laldv (v := (M.2 c_game_seen (Int32.toNatClampNeg l1))) hX ly_c_game_seen hi dX2_wasSeen_18 rfl ?_
      refine s_lcmp hX dX2_wasSeen_19 ?_
      refine s_if_ne (tgt := 25) hX dX2_wasSeen_20 (by decide) (fun c => ?_) (fun c => ?_)
      · replace h := h.1 c
        refine s_iinc (v := (l2 + 1)) (lv' := [some (vr c_game), some (vi l1), some (vi (l2 + 1))]) hX dX2_wasSeen_25 rfl rfl rfl rfl ?_
        refine s_goto (tgt := 2) hX dX2_wasSeen_28 (by decide) ?_
        exact ih _ _ h
      · replace h := h.2 c
        refine s_iconst (v := 1) hX dX2_wasSeen_23 rfl ?_
        exact s_zret hX true hq rfl dX2_wasSeen_24 rfl h
def w_Game_wasSeen (a0 : Int32) (M : Mem) (Q : Bool → Mem → Prop) : Prop :=
  (∃ n486, w_Game_wasSeen_L2 a0 (fun M485 => Q false M485) Q n486 0 M)
set_option maxHeartbeats 4000000 in
theorem t_Game_wasSeen {X : Cx} (hX : Cok X cX2_wasSeen RX2 3 ((some .boolean)) 1 0 0) {Q : Bool → Mem → Prop} (hq : RI X 0 0 LY (bQ Q)) {M : Mem} {a0 : Int32} (h : w_Game_wasSeen a0 M Q) : Wat X 0 0 LY 0 [some (vr c_game), some (vi a0), none] [] M := by
  refine s_iconst (v := 0) hX dX2_wasSeen_0 rfl ?_
  refine s_istore_n (lv' := [some (vr c_game), some (vi a0), some (vi 0)]) hX dX2_wasSeen_1 rfl rfl (Nat.le_of_ble_eq_true rfl) ?_
  obtain ⟨n486, h⟩ := h
  refine t_Game_wasSeen_L2 hX hq ?_ n486 _ _ h
  intro M485 h
  refine s_iconst (v := 0) hX dX2_wasSeen_31 rfl ?_
  exact s_zret hX false hq rfl dX2_wasSeen_32 rfl h
theorem c_Game_wasSeen {a0 : Int32} {M : Mem} {Q : Bool → Mem → Prop} (h : w_Game_wasSeen a0 M Q) : CI yX2_wasSeen cX2_wasSeen 3 ((some .boolean)) 1 0 0 LY LY [vr c_game, vi a0] M (bQ Q) := mk_i rfl wd_co_X2_wasSeen rfl rfl (Nat.le_of_ble_eq_true rfl) (fun X hX hq => t_Game_wasSeen hX hq h)
theorem mv_Game_wasSeen : MV yX2_wasSeen cX2_wasSeen 3 ((some .boolean)) RX2 1 := ⟨wd_co_X2_wasSeen, wd_im_X2_wasSeen, wd_se_X2_wasSeen, wd_in_X2, by decide +kernel, by decide⟩
def w_Game_play_L29 (l1 : Int32) (l2 : Int32) (K : Mem → Prop) (Q : Mem → Prop) : Nat → Mem → Prop
  | 0, _ => False
  | n + 1, M => ((50 < (M.1 c_game Game_rounds) → K M) ∧ (¬ 50 < (M.1 c_game Game_rounds) → w_Game_playRound l1 l2 M (fun b482 M481 => ((b482 = true → w_Game_standing l1 l2 M481 (fun r484 M483 => (vp_in (M481.1 c_game Game_rounds) 51 ∧ w_Game_wasSeen (M483.1 c_game Game_rounds) (sl M483 c_game_seen (Int32.toNatClampNeg (M481.1 c_game Game_rounds)) r484) (fun b488 M487 => ((b488 = false → w_Game_play_L29 l1 l2 K Q n (si M487 c_game Game_rounds ((M487.1 c_game Game_rounds) + 1))) ∧ (b488 = true → Q M487)))))) ∧ (b482 = false → Q (si M481 c_game Game_rest 1))))))
set_option maxHeartbeats 4000000 in
theorem t_Game_play_L29 {X : Cx} (hX : Cok X cX2_play RX2 3 none 7 0 0) {Q : Mem → Prop} (hq : RV X 0 0 LY Q) {l1 : Int32} {l2 : Int32} {K : Mem → Prop} (hK : ∀ (M : Mem), K M → Wat X 0 0 LY 93 [some (vr c_game), none, none] [] M) : ∀ (n : Nat) (M : Mem), w_Game_play_L29 l1 l2 K Q n M → Wat X 0 0 LY 29 [some (vr c_game), some (vi l1), some (vi l2)] [] M := by
  intro n
  induction n with
  | zero => intro _ h; exact h.elim
  | succ n ih =>
    intro M h
    refine s_aload_n hX dX2_play_29 rfl ?_
    refine s_getiv (v := (M.1 c_game Game_rounds)) hX fi_X2_67 ly_c_game rfl dX2_play_30 rfl ?_
    refine s_bipush (v := 50) hX dX2_play_33 rfl ?_
    refine s_icmp_gt (tgt := 93) hX dX2_play_35 (by decide) (fun c => ?_) (fun c => ?_)
    · replace h := h.1 c
      refine s_mask [true, false, false] (lv' := [some (vr c_game), none, none]) rfl rfl ?_
      exact hK _ h
    · replace h := h.2 c
      refine s_aload_n hX dX2_play_38 rfl ?_
      refine s_iload_n hX dX2_play_39 rfl ?_
      refine s_iload_n hX dX2_play_40 rfl ?_
      refine s_cvi (as := [vi l1, vi l2]) (rest := []) hX (c_Game_playRound h) mv_Game_playRound wd_ml_X2_70 dX2_play_41 ly_c_game rfl rfl (Nat.le_of_ble_eq_true rfl) rfl (by decide) ⟨Nat.zero_le _, Nat.zero_le _⟩ (fun b482_ M481 h => ?_)
      obtain ⟨b482, rfl, h⟩ := h
      refine s_if_ne (tgt := 53) hX dX2_play_44 (by decide) (fun c => ?_) (fun c => ?_)
      · replace h := h.1 (b2i_1 c)
        refine s_aload_n hX dX2_play_53 rfl ?_
        refine s_getr hX fi_X2_15 ly_c_game rfl dX2_play_54 ?_
        refine s_aload_n hX dX2_play_57 rfl ?_
        refine s_getiv (v := (M481.1 c_game Game_rounds)) hX fi_X2_67 ly_c_game rfl dX2_play_58 rfl ?_
        refine s_aload_n hX dX2_play_61 rfl ?_
        refine s_iload_n hX dX2_play_62 rfl ?_
        refine s_iload_n hX dX2_play_63 rfl ?_
        refine s_cvl (as := [vi l1, vi l2]) (rest := [vi (M481.1 c_game Game_rounds), vr c_game_seen]) hX (c_Game_standing h) mv_Game_standing wd_ml_X2_59 dX2_play_64 ly_c_game rfl rfl (Nat.le_of_ble_eq_true rfl) rfl (by decide) ⟨Nat.zero_le _, Nat.zero_le _⟩ (fun r484 M483 h => ?_)
        have hi := h.1
        replace h := h.2
        refine s_last hX ly_c_game_seen hi dX2_play_67 ?_
        refine s_aload_n hX dX2_play_68 rfl ?_
        refine s_aload_n hX dX2_play_69 rfl ?_
        refine s_getiv (v := (M483.1 c_game Game_rounds)) hX fi_X2_67 ly_c_game rfl dX2_play_70 rfl ?_
        refine s_cvi (as := [vi (M483.1 c_game Game_rounds)]) (rest := []) hX (c_Game_wasSeen h) mv_Game_wasSeen wd_ml_X2_74 dX2_play_73 ly_c_game rfl rfl (Nat.le_of_ble_eq_true rfl) rfl (by decide) ⟨Nat.zero_le _, Nat.zero_le _⟩ (fun b488_ M487 h => ?_)
        obtain ⟨b488, rfl, h⟩ := h
        refine s_if_eq (tgt := 80) hX dX2_play_76 (by decide) (fun c => ?_) (fun c => ?_)
        · replace h := h.1 (b2i_0 c)
          refine s_aload_n hX dX2_play_80 rfl ?_
          refine s_dup hX dX2_play_81 rfl ?_
          refine s_getiv (v := (M487.1 c_game Game_rounds)) hX fi_X2_67 ly_c_game rfl dX2_play_82 rfl ?_
          refine s_iconst (v := 1) hX dX2_play_85 rfl ?_
          refine s_iadd hX dX2_play_86 ?_
          refine s_puti hX fi_X2_67 fp_X2 rfl (by decide +kernel) ly_c_game rfl dX2_play_87 ?_
          refine s_goto (tgt := 29) hX dX2_play_90 (by decide) ?_
          exact ih _ h
        · replace h := h.2 (b2i_1 c)
          exact s_vret hX hq rfl dX2_play_79 h
      · replace h := h.2 (b2i_0 c)
        refine s_aload_n hX dX2_play_47 rfl ?_
        refine s_iconst (v := 1) hX dX2_play_48 rfl ?_
        refine s_putz hX fi_X2_63 fp_X2 rfl (by decide +kernel) ⟨rfl, rfl⟩ ly_c_game rfl dX2_play_49 ?_
        exact s_vret hX hq rfl dX2_play_52 h
def w_Game_play (a0 : Int32) (a1 : Int32) (M : Mem) (Q : Mem → Prop) : Prop :=
  w_Debts_allAsTold M (fun M433 => w_Game_standing a0 a1 M433 (fun r443 M442 => (vp_in 0 51 ∧ (∃ n490, w_Game_play_L29 a0 a1 (fun M489 => Q (si M489 c_game Game_rounds 50)) Q n490 (si (si (sl M442 c_game_seen (Int32.toNatClampNeg 0) r443) c_game Game_rest 0) c_game Game_rounds 1)))))
set_option maxHeartbeats 4000000 in
theorem t_Game_play {X : Cx} (hX : Cok X cX2_play RX2 3 none 7 0 0) {Q : Mem → Prop} (hq : RV X 0 0 LY Q) {M : Mem} {a0 : Int32} {a1 : Int32} (h : w_Game_play a0 a1 M Q) : Wat X 0 0 LY 0 [some (vr c_game), some (vi a0), some (vi a1)] [] M := by
  refine s_aload_n hX dX2_play_0 rfl ?_
  refine s_getr hX fi_X2_27 ly_c_game rfl dX2_play_1 ?_
  refine s_cvv (as := []) (rest := []) hX (c_Debts_allAsTold h) mv_Debts_allAsTold wd_ml_X2_31 dX2_play_4 ly_c_debts rfl rfl (Nat.le_of_ble_eq_true rfl) rfl (by decide) ⟨Nat.zero_le _, Nat.zero_le _⟩ (fun M433 h => ?_)
  refine s_aload_n hX dX2_play_7 rfl ?_
  refine s_getr hX fi_X2_15 ly_c_game rfl dX2_play_8 ?_
  refine s_iconst (v := 0) hX dX2_play_11 rfl ?_
  refine s_aload_n hX dX2_play_12 rfl ?_
  refine s_iload_n hX dX2_play_13 rfl ?_
  refine s_iload_n hX dX2_play_14 rfl ?_
  refine s_cvl (as := [vi a0, vi a1]) (rest := [vi 0, vr c_game_seen]) hX (c_Game_standing h) mv_Game_standing wd_ml_X2_59 dX2_play_15 ly_c_game rfl rfl (Nat.le_of_ble_eq_true rfl) rfl (by decide) ⟨Nat.zero_le _, Nat.zero_le _⟩ (fun r443 M442 h => ?_)
  have hi := h.1
  replace h := h.2
  refine s_last hX ly_c_game_seen hi dX2_play_18 ?_
  refine s_aload_n hX dX2_play_19 rfl ?_
  refine s_iconst (v := 0) hX dX2_play_20 rfl ?_
  refine s_putz hX fi_X2_63 fp_X2 rfl (by decide +kernel) ⟨rfl, rfl⟩ ly_c_game rfl dX2_play_21 ?_
  refine s_aload_n hX dX2_play_24 rfl ?_
  refine s_iconst (v := 1) hX dX2_play_25 rfl ?_
  refine s_puti hX fi_X2_67 fp_X2 rfl (by decide +kernel) ly_c_game rfl dX2_play_26 ?_
  obtain ⟨n490, h⟩ := h
  refine t_Game_play_L29 hX hq ?_ n490 _ h
  intro M489 h
  refine s_aload_n hX dX2_play_93 rfl ?_
  refine s_bipush (v := 50) hX dX2_play_94 rfl ?_
  refine s_puti hX fi_X2_67 fp_X2 rfl (by decide +kernel) ly_c_game rfl dX2_play_96 ?_
  exact s_vret hX hq rfl dX2_play_99 h
theorem c_Game_play {a0 : Int32} {a1 : Int32} {M : Mem} {Q : Mem → Prop} (h : w_Game_play a0 a1 M Q) : CV yX2_play cX2_play 3 none 7 0 0 LY LY [vr c_game, vi a0, vi a1] M Q := mk_v rfl wd_co_X2_play rfl rfl (Nat.le_of_ble_eq_true rfl) (fun X hX hq => t_Game_play hX hq h)
theorem mv_Game_play : MV yX2_play cX2_play 3 none RX2 2 := ⟨wd_co_X2_play, wd_im_X2_play, wd_se_X2_play, wd_in_X2, by decide +kernel, by decide⟩
def w_Top_played (a0 : Int32) (a1 : Int32) (a2 : Int32) (M : Mem) (Q : Int32 → Mem → Prop) : Prop :=
  w_Top_areHours a0 a1 M (fun b432 M431 => ((b432 = false → Q (-1) M431) ∧ (b432 = true → ((a2 < 0 → Q (-1) M431) ∧ (¬ a2 < 0 → ((a2 < (2 + (M431.1 c_land Land_people)) → w_Game_play a0 a1 M431 (fun M491 => ((¬ a2 = 0 → ((¬ a2 = 1 → (vp_in (((a2 - 2) * 24) + a0) 144 ∧ Q (M491.1 c_debts_at (Int32.toNatClampNeg (((a2 - 2) * 24) + a0))) M491)) ∧ (a2 = 1 → Q (if (M491.1 c_game Game_rest) = 0 then (0 : Int32) else 1) M491))) ∧ (a2 = 0 → Q (M491.1 c_game Game_rounds) M491)))) ∧ (¬ a2 < (2 + (M431.1 c_land Land_people)) → Q (-1) M431)))))))
set_option maxHeartbeats 4000000 in
theorem t_Top_played {X : Cx} (hX : Cok X cX11_played RX11 4 ((some .int)) 8 0 0) {Q : Int32 → Mem → Prop} (hq : RI X 0 0 LY Q) {M : Mem} {a0 : Int32} {a1 : Int32} {a2 : Int32} (h : w_Top_played a0 a1 a2 M Q) : Wat X 0 0 LY 0 [some (vr c_xx), some (vi a0), some (vi a1), some (vi a2)] [] M := by
  refine s_iload_n hX dX11_played_0 rfl ?_
  refine s_iload_n hX dX11_played_1 rfl ?_
  refine s_csi (as := [vi a0, vi a1]) (rest := []) hX (c_Top_areHours h) ms_Top_areHours wd_ml_X11_195 dX11_played_2 rfl (Nat.le_of_ble_eq_true rfl) rfl (by decide) ⟨Nat.zero_le _, Nat.zero_le _⟩ (fun b432_ M431 h => ?_)
  obtain ⟨b432, rfl, h⟩ := h
  refine s_if_eq (tgt := 25) hX dX11_played_5 (by decide) (fun c => ?_) (fun c => ?_)
  · replace h := h.1 (b2i_0 c)
    refine s_iconst (v := (-1)) hX dX11_played_25 rfl ?_
    exact s_iret hX hq rfl dX11_played_26 h
  · replace h := h.2 (b2i_1 c)
    refine s_iload_n hX dX11_played_8 rfl ?_
    refine s_if_lt (tgt := 25) hX dX11_played_9 (by decide) (fun c => ?_) (fun c => ?_)
    · replace h := h.1 c
      refine s_iconst (v := (-1)) hX dX11_played_25 rfl ?_
      exact s_iret hX hq rfl dX11_played_26 h
    · replace h := h.2 c
      refine s_iload_n hX dX11_played_12 rfl ?_
      refine s_iconst (v := 2) hX dX11_played_13 rfl ?_
      refine s_aload_n hX dX11_played_14 rfl ?_
      refine s_getr hX fi_X11_19 ly_c_xx rfl dX11_played_15 ?_
      refine s_getiv (v := (M431.1 c_land Land_people)) hX fi_X11_210 ly_c_land rfl dX11_played_18 rfl ?_
      refine s_iadd hX dX11_played_21 ?_
      refine s_icmp_lt (tgt := 27) hX dX11_played_22 (by decide) (fun c => ?_) (fun c => ?_)
      · replace h := h.1 c
        refine s_aload_n hX dX11_played_27 rfl ?_
        refine s_getr hX fi_X11_67 ly_c_xx rfl dX11_played_28 ?_
        refine s_iload_n hX dX11_played_31 rfl ?_
        refine s_iload_n hX dX11_played_32 rfl ?_
        refine s_cvv (as := [vi a0, vi a1]) (rest := []) hX (c_Game_play h) mv_Game_play wd_ml_X11_213 dX11_played_33 ly_c_game rfl rfl (Nat.le_of_ble_eq_true rfl) rfl (by decide) ⟨Nat.zero_le _, Nat.zero_le _⟩ (fun M491 h => ?_)
        refine s_iload_n hX dX11_played_36 rfl ?_
        refine s_if_ne (tgt := 48) hX dX11_played_37 (by decide) (fun c => ?_) (fun c => ?_)
        · replace h := h.1 c
          refine s_iload_n hX dX11_played_48 rfl ?_
          refine s_iconst (v := 1) hX dX11_played_49 rfl ?_
          refine s_icmp_ne (tgt := 69) hX dX11_played_50 (by decide) (fun c => ?_) (fun c => ?_)
          · replace h := h.1 c
            refine s_aload_n hX dX11_played_69 rfl ?_
            refine s_getr hX fi_X11_58 ly_c_xx rfl dX11_played_70 ?_
            refine s_getr hX fi_X11_224 ly_c_debts rfl dX11_played_73 ?_
            refine s_iload_n hX dX11_played_76 rfl ?_
            refine s_iconst (v := 2) hX dX11_played_77 rfl ?_
            refine s_isub hX dX11_played_78 ?_
            refine s_bipush (v := 24) hX dX11_played_79 rfl ?_
            refine s_imul hX dX11_played_81 ?_
            refine s_iload_n hX dX11_played_82 rfl ?_
            refine s_iadd hX dX11_played_83 ?_
            have hi := h.1
            replace h := h.2
            refine s_ialdv (v := (M491.1 c_debts_at (Int32.toNatClampNeg (((a2 - 2) * 24) + a0)))) hX ly_c_debts_at hi dX11_played_84 rfl ?_
            exact s_iret hX hq rfl dX11_played_85 h
          · replace h := h.2 c
            refine s_aload_n hX dX11_played_53 rfl ?_
            refine s_getr hX fi_X11_67 ly_c_xx rfl dX11_played_54 ?_
            refine s_getiv (v := (M491.1 c_game Game_rest)) hX fi_X11_220 ly_c_game rfl dX11_played_57 rfl ?_
            have hJ : Wat X 0 0 LY 68 [some (vr c_xx), some (vi a0), some (vi a1), some (vi a2)] [vi (if (M491.1 c_game Game_rest) = 0 then (0 : Int32) else 1)] M491 := by
              exact s_iret hX hq rfl dX11_played_68 h
            refine s_if_eq (tgt := 67) hX dX11_played_60 (by decide) (fun c => ?_) (fun c => ?_)
            · rw [if_pos c] at hJ
              refine s_iconst (v := 0) hX dX11_played_67 rfl ?_
              exact hJ
            · rw [if_neg c] at hJ
              refine s_iconst (v := 1) hX dX11_played_63 rfl ?_
              refine s_goto (tgt := 68) hX dX11_played_64 (by decide) ?_
              exact hJ
        · replace h := h.2 c
          refine s_aload_n hX dX11_played_40 rfl ?_
          refine s_getr hX fi_X11_67 ly_c_xx rfl dX11_played_41 ?_
          refine s_getiv (v := (M491.1 c_game Game_rounds)) hX fi_X11_217 ly_c_game rfl dX11_played_44 rfl ?_
          exact s_iret hX hq rfl dX11_played_47 h
      · replace h := h.2 c
        refine s_iconst (v := (-1)) hX dX11_played_25 rfl ?_
        exact s_iret hX hq rfl dX11_played_26 h
theorem c_Top_played {a0 : Int32} {a1 : Int32} {a2 : Int32} {M : Mem} {Q : Int32 → Mem → Prop} (h : w_Top_played a0 a1 a2 M Q) : CI yX11_played cX11_played 4 ((some .int)) 8 0 0 LY LY [vr c_xx, vi a0, vi a1, vi a2] M Q := mk_i rfl wd_co_X11_played rfl rfl (Nat.le_of_ble_eq_true rfl) (fun X hX hq => t_Top_played hX hq h)
theorem mv_Top_played : MV yX11_played cX11_played 4 ((some .int)) RX11 3 := ⟨wd_co_X11_played, wd_im_X11_played, wd_se_X11_played, wd_in_X11, by decide +kernel, by decide⟩
def w_Top_balanceAsTold (a0 : Int32) (a1 : Int32) (M : Mem) (Q : Int32 → Mem → Prop) : Prop :=
  w_Debts_allAsTold M (fun M492 => w_Debts_gainOf (1 <<< (a0 &&& 31)) 0 23 a1 M492 (fun r494 M493 => Q r494 M493))
set_option maxHeartbeats 4000000 in
theorem t_Top_balanceAsTold {X : Cx} (hX : Cok X cX11_balanceAsTold RX11 3 ((some .int)) 5 0 0) {Q : Int32 → Mem → Prop} (hq : RI X 0 0 LY Q) {M : Mem} {a0 : Int32} {a1 : Int32} (h : w_Top_balanceAsTold a0 a1 M Q) : Wat X 0 0 LY 0 [some (vr c_xx), some (vi a0), some (vi a1)] [] M := by
  refine s_aload_n hX dX11_balanceAsTold_0 rfl ?_
  refine s_getr hX fi_X11_58 ly_c_xx rfl dX11_balanceAsTold_1 ?_
  refine s_cvv (as := []) (rest := []) hX (c_Debts_allAsTold h) mv_Debts_allAsTold wd_ml_X11_146 dX11_balanceAsTold_4 ly_c_debts rfl rfl (Nat.le_of_ble_eq_true rfl) rfl (by decide) ⟨Nat.zero_le _, Nat.zero_le _⟩ (fun M492 h => ?_)
  refine s_aload_n hX dX11_balanceAsTold_7 rfl ?_
  refine s_getr hX fi_X11_58 ly_c_xx rfl dX11_balanceAsTold_8 ?_
  refine s_iconst (v := 1) hX dX11_balanceAsTold_11 rfl ?_
  refine s_iload_n hX dX11_balanceAsTold_12 rfl ?_
  refine s_ishl hX dX11_balanceAsTold_13 ?_
  refine s_iconst (v := 0) hX dX11_balanceAsTold_14 rfl ?_
  refine s_bipush (v := 23) hX dX11_balanceAsTold_15 rfl ?_
  refine s_iload_n hX dX11_balanceAsTold_17 rfl ?_
  refine s_cvi (as := [vi (1 <<< (a0 &&& 31)), vi 0, vi 23, vi a1]) (rest := []) hX (c_Debts_gainOf h) mv_Debts_gainOf wd_ml_X11_290 dX11_balanceAsTold_18 ly_c_debts rfl rfl (Nat.le_of_ble_eq_true rfl) rfl (by decide) ⟨Nat.zero_le _, Nat.zero_le _⟩ (fun r494 M493 h => ?_)
  exact s_iret hX hq rfl dX11_balanceAsTold_21 h
theorem c_Top_balanceAsTold {a0 : Int32} {a1 : Int32} {M : Mem} {Q : Int32 → Mem → Prop} (h : w_Top_balanceAsTold a0 a1 M Q) : CI yX11_balanceAsTold cX11_balanceAsTold 3 ((some .int)) 5 0 0 LY LY [vr c_xx, vi a0, vi a1] M Q := mk_i rfl wd_co_X11_balanceAsTold rfl rfl (Nat.le_of_ble_eq_true rfl) (fun X hX hq => t_Top_balanceAsTold hX hq h)
theorem mv_Top_balanceAsTold : MV yX11_balanceAsTold cX11_balanceAsTold 3 ((some .int)) RX11 2 := ⟨wd_co_X11_balanceAsTold, wd_im_X11_balanceAsTold, wd_se_X11_balanceAsTold, wd_in_X11, by decide +kernel, by decide⟩
def w_Top_netted_L4 (K : Int32 → Mem → Prop) (Q : Int32 → Mem → Prop) : Nat → Int32 → Int32 → Mem → Prop
  | 0, _, _, _ => False
  | n + 1, l1, l2, M => (((M.1 c_land Land_people) ≤ l2 → K l1 M) ∧ (¬ (M.1 c_land Land_people) ≤ l2 → w_Top_balanceAsTold l2 (M.1 c_deeds Deeds_shot) M (fun r496 M495 => ∀ x497 : Int32, x497 = (l1 + (if (0 : Int32) < r496 then r496 else 0)) → w_Top_netted_L4 K Q n x497 (l2 + 1) M495)))
set_option maxHeartbeats 4000000 in
theorem t_Top_netted_L4 {X : Cx} (hX : Cok X cX11_netted RX11 3 ((some .int)) 6 0 0) {Q : Int32 → Mem → Prop} (hq : RI X 0 0 LY Q) {K : Int32 → Mem → Prop} (hK : ∀ (l1 : Int32) (M : Mem), K l1 M → Wat X 0 0 LY 40 [none, some (vi l1), none] [] M) : ∀ (n : Nat) (l1 : Int32) (l2 : Int32) (M : Mem), w_Top_netted_L4 K Q n l1 l2 M → Wat X 0 0 LY 4 [some (vr c_xx), some (vi l1), some (vi l2)] [] M := by
  intro n
  induction n with
  | zero => intro _ _ _ h; exact h.elim
  | succ n ih =>
    intro l1 l2 M h
    refine s_iload_n hX dX11_netted_4 rfl ?_
    refine s_aload_n hX dX11_netted_5 rfl ?_
    refine s_getr hX fi_X11_19 ly_c_xx rfl dX11_netted_6 ?_
    refine s_getiv (v := (M.1 c_land Land_people)) hX fi_X11_210 ly_c_land rfl dX11_netted_9 rfl ?_
    refine s_icmp_ge (tgt := 40) hX dX11_netted_12 (by decide) (fun c => ?_) (fun c => ?_)
    · replace h := h.1 c
      refine s_mask [false, true, false] (lv' := [none, some (vi l1), none]) rfl rfl ?_
      exact hK _ _ h
    · replace h := h.2 c
      refine s_iload_n hX dX11_netted_15 rfl ?_
      refine s_iconst (v := 0) hX dX11_netted_16 rfl ?_
      refine s_aload_n hX dX11_netted_17 rfl ?_
      refine s_iload_n hX dX11_netted_18 rfl ?_
      refine s_aload_n hX dX11_netted_19 rfl ?_
      refine s_getr hX fi_X11_38 ly_c_xx rfl dX11_netted_20 ?_
      refine s_getiv (v := (M.1 c_deeds Deeds_shot)) hX fi_X11_136 ly_c_deeds rfl dX11_netted_23 rfl ?_
      refine s_cvi (as := [vi l2, vi (M.1 c_deeds Deeds_shot)]) (rest := [vi 0, vi l1]) hX (c_Top_balanceAsTold h) mv_Top_balanceAsTold wd_ml_X11_177 dX11_netted_26 ly_c_xx rfl rfl (Nat.le_of_ble_eq_true rfl) rfl (by decide) ⟨Nat.zero_le _, Nat.zero_le _⟩ (fun r496 M495 h => ?_)
      refine s_mmax hX wd_ml_X11_235 rfl (by decide) (Nat.le_of_ble_eq_true rfl) ⟨Nat.zero_le _, Nat.zero_le _⟩ dX11_netted_29 ?_
      refine s_iadd hX dX11_netted_32 ?_
      refine s_nmi (fun x497 ex497 => ?_)
      replace h := h x497 ex497
      refine s_istore_n (lv' := [some (vr c_xx), some (vi x497), some (vi l2)]) hX dX11_netted_33 rfl rfl (Nat.le_of_ble_eq_true rfl) ?_
      refine s_iinc (v := (l2 + 1)) (lv' := [some (vr c_xx), some (vi x497), some (vi (l2 + 1))]) hX dX11_netted_34 rfl rfl rfl rfl ?_
      refine s_goto (tgt := 4) hX dX11_netted_37 (by decide) ?_
      exact ih _ _ _ h
def w_Top_netted (M : Mem) (Q : Int32 → Mem → Prop) : Prop :=
  (∃ n500, w_Top_netted_L4 (fun y499 M498 => Q y499 M498) Q n500 0 0 M)
set_option maxHeartbeats 4000000 in
theorem t_Top_netted {X : Cx} (hX : Cok X cX11_netted RX11 3 ((some .int)) 6 0 0) {Q : Int32 → Mem → Prop} (hq : RI X 0 0 LY Q) {M : Mem} (h : w_Top_netted M Q) : Wat X 0 0 LY 0 [some (vr c_xx), none, none] [] M := by
  refine s_iconst (v := 0) hX dX11_netted_0 rfl ?_
  refine s_istore_n (lv' := [some (vr c_xx), some (vi 0), none]) hX dX11_netted_1 rfl rfl (Nat.le_of_ble_eq_true rfl) ?_
  refine s_iconst (v := 0) hX dX11_netted_2 rfl ?_
  refine s_istore_n (lv' := [some (vr c_xx), some (vi 0), some (vi 0)]) hX dX11_netted_3 rfl rfl (Nat.le_of_ble_eq_true rfl) ?_
  obtain ⟨n500, h⟩ := h
  refine t_Top_netted_L4 hX hq ?_ n500 _ _ _ h
  intro y499 M498 h
  refine s_iload_n hX dX11_netted_40 rfl ?_
  exact s_iret hX hq rfl dX11_netted_41 h
theorem c_Top_netted {M : Mem} {Q : Int32 → Mem → Prop} (h : w_Top_netted M Q) : CI yX11_netted cX11_netted 3 ((some .int)) 6 0 0 LY LY [vr c_xx] M Q := mk_i rfl wd_co_X11_netted rfl rfl (Nat.le_of_ble_eq_true rfl) (fun X hX hq => t_Top_netted hX hq h)
theorem mv_Top_netted : MV yX11_netted cX11_netted 3 ((some .int)) RX11 0 := ⟨wd_co_X11_netted, wd_im_X11_netted, wd_se_X11_netted, wd_in_X11, by decide +kernel, by decide⟩
def w_Top_told (a0 : Int32) (a1 : Int32) (M : Mem) (Q : Bool → Mem → Prop) : Prop :=
  w_Top_isPerson a0 M (fun b502 M501 => ((b502 = false → Q false M501) ∧ (b502 = true → ((a1 < (-1) → Q false M501) ∧ (¬ a1 < (-1) → ((a1 ≤ 9999 → (vp_in a0 6 ∧ Q true (si M501 c_deeds_debt (Int32.toNatClampNeg a0) a1))) ∧ (¬ a1 ≤ 9999 → Q false M501)))))))
set_option maxHeartbeats 4000000 in
theorem t_Top_told {X : Cx} (hX : Cok X cX11_told RX11 3 ((some .boolean)) 2 0 0) {Q : Bool → Mem → Prop} (hq : RI X 0 0 LY (bQ Q)) {M : Mem} {a0 : Int32} {a1 : Int32} (h : w_Top_told a0 a1 M Q) : Wat X 0 0 LY 0 [some (vr c_xx), some (vi a0), some (vi a1)] [] M := by
  refine s_aload_n hX dX11_told_0 rfl ?_
  refine s_iload_n hX dX11_told_1 rfl ?_
  refine s_cvi (as := [vi a0]) (rest := []) hX (c_Top_isPerson h) mv_Top_isPerson wd_ml_X11_113 dX11_told_2 ly_c_xx rfl rfl (Nat.le_of_ble_eq_true rfl) rfl (by decide) ⟨Nat.zero_le _, Nat.zero_le _⟩ (fun b502_ M501 h => ?_)
  obtain ⟨b502, rfl, h⟩ := h
  refine s_if_eq (tgt := 20) hX dX11_told_5 (by decide) (fun c => ?_) (fun c => ?_)
  · replace h := h.1 (b2i_0 c)
    refine s_iconst (v := 0) hX dX11_told_20 rfl ?_
    exact s_zret hX false hq rfl dX11_told_21 rfl h
  · replace h := h.2 (b2i_1 c)
    refine s_iload_n hX dX11_told_8 rfl ?_
    refine s_iconst (v := (-1)) hX dX11_told_9 rfl ?_
    refine s_icmp_lt (tgt := 20) hX dX11_told_10 (by decide) (fun c => ?_) (fun c => ?_)
    · replace h := h.1 c
      refine s_iconst (v := 0) hX dX11_told_20 rfl ?_
      exact s_zret hX false hq rfl dX11_told_21 rfl h
    · replace h := h.2 c
      refine s_iload_n hX dX11_told_13 rfl ?_
      refine s_sipush (v := 9999) hX dX11_told_14 rfl ?_
      refine s_icmp_le (tgt := 22) hX dX11_told_17 (by decide) (fun c => ?_) (fun c => ?_)
      · replace h := h.1 c
        refine s_aload_n hX dX11_told_22 rfl ?_
        refine s_getr hX fi_X11_38 ly_c_xx rfl dX11_told_23 ?_
        refine s_getr hX fi_X11_242 ly_c_deeds rfl dX11_told_26 ?_
        refine s_iload_n hX dX11_told_29 rfl ?_
        refine s_iload_n hX dX11_told_30 rfl ?_
        have hi := h.1
        replace h := h.2
        refine s_iast hX ly_c_deeds_debt hi dX11_told_31 ?_
        refine s_iconst (v := 1) hX dX11_told_32 rfl ?_
        exact s_zret hX true hq rfl dX11_told_33 rfl h
      · replace h := h.2 c
        refine s_iconst (v := 0) hX dX11_told_20 rfl ?_
        exact s_zret hX false hq rfl dX11_told_21 rfl h
theorem c_Top_told {a0 : Int32} {a1 : Int32} {M : Mem} {Q : Bool → Mem → Prop} (h : w_Top_told a0 a1 M Q) : CI yX11_told cX11_told 3 ((some .boolean)) 2 0 0 LY LY [vr c_xx, vi a0, vi a1] M (bQ Q) := mk_i rfl wd_co_X11_told rfl rfl (Nat.le_of_ble_eq_true rfl) (fun X hX hq => t_Top_told hX hq h)
theorem mv_Top_told : MV yX11_told cX11_told 3 ((some .boolean)) RX11 2 := ⟨wd_co_X11_told, wd_im_X11_told, wd_se_X11_told, wd_in_X11, by decide +kernel, by decide⟩
def w_Songs_priceAt (a0 : Int32) (a1 : Int32) (a2 : Int32) (M : Mem) (Q : Int32 → Mem → Prop) : Prop :=
  Q ((((a0 * 6) + a1) * 6) + a2) M
set_option maxHeartbeats 4000000 in
theorem t_Songs_priceAt {X : Cx} (hX : Cok X cX9_priceAt RX9 3 ((some .int)) 1 0 0) {Q : Int32 → Mem → Prop} (hq : RI X 0 0 LY Q) {M : Mem} {a0 : Int32} {a1 : Int32} {a2 : Int32} (h : w_Songs_priceAt a0 a1 a2 M Q) : Wat X 0 0 LY 0 [some (vi a0), some (vi a1), some (vi a2)] [] M := by
  refine s_iload_n hX dX9_priceAt_0 rfl ?_
  refine s_bipush (v := 6) hX dX9_priceAt_1 rfl ?_
  refine s_imul hX dX9_priceAt_3 ?_
  refine s_iload_n hX dX9_priceAt_4 rfl ?_
  refine s_iadd hX dX9_priceAt_5 ?_
  refine s_bipush (v := 6) hX dX9_priceAt_6 rfl ?_
  refine s_imul hX dX9_priceAt_8 ?_
  refine s_iload_n hX dX9_priceAt_9 rfl ?_
  refine s_iadd hX dX9_priceAt_10 ?_
  exact s_iret hX hq rfl dX9_priceAt_11 h
theorem c_Songs_priceAt {a0 : Int32} {a1 : Int32} {a2 : Int32} {M : Mem} {Q : Int32 → Mem → Prop} (h : w_Songs_priceAt a0 a1 a2 M Q) : CI yX9_priceAt cX9_priceAt 3 ((some .int)) 1 0 0 LY LY [vi a0, vi a1, vi a2] M Q := mk_i rfl wd_co_X9_priceAt rfl rfl (Nat.le_of_ble_eq_true rfl) (fun X hX hq => t_Songs_priceAt hX hq h)
theorem ms_Songs_priceAt : MS yX9_priceAt cX9_priceAt 3 ((some .int)) 3 := ⟨wd_co_X9_priceAt, wd_sm_X9_priceAt, wd_in_X9, by decide +kernel, by decide⟩
def w_Songs_findPrices_L38 (l1 : Int32) (l2 : Int32) (l3 : Int32) (K : Mem → Prop) (Q : Mem → Prop) : Nat → Int32 → Mem → Prop
  | 0, _, _ => False
  | n + 1, l4, M => (((M.1 c_land Land_people) ≤ l4 → K M) ∧ (¬ (M.1 c_land Land_people) ≤ l4 → w_Songs_priceAt l2 l3 l4 M (fun r508 M507 => w_Debts_pence l2 l1 l4 l3 M507 (fun r510 M509 => (vp_in r508 180 ∧ w_Songs_findPrices_L38 l1 l2 l3 K Q n (l4 + 1) (si M509 c_songs_price (Int32.toNatClampNeg r508) r510))))))
set_option maxHeartbeats 4000000 in
theorem t_Songs_findPrices_L38 {X : Cx} (hX : Cok X cX9_findPrices RX9 5 none 4 0 0) {Q : Mem → Prop} (hq : RV X 0 0 LY Q) {l1 : Int32} {l2 : Int32} {l3 : Int32} {K : Mem → Prop} (hK : ∀ (M : Mem), K M → Wat X 0 0 LY 80 [some (vr c_songs), some (vi l1), some (vi l2), some (vi l3), none] [] M) : ∀ (n : Nat) (l4 : Int32) (M : Mem), w_Songs_findPrices_L38 l1 l2 l3 K Q n l4 M → Wat X 0 0 LY 38 [some (vr c_songs), some (vi l1), some (vi l2), some (vi l3), some (vi l4)] [] M := by
  intro n
  induction n with
  | zero => intro _ _ h; exact h.elim
  | succ n ih =>
    intro l4 M h
    refine s_iload hX dX9_findPrices_38 rfl ?_
    refine s_aload_n hX dX9_findPrices_40 rfl ?_
    refine s_getr hX fi_X9_21 ly_c_songs rfl dX9_findPrices_41 ?_
    refine s_getiv (v := (M.1 c_land Land_people)) hX fi_X9_73 ly_c_land rfl dX9_findPrices_44 rfl ?_
    refine s_icmp_ge (tgt := 80) hX dX9_findPrices_47 (by decide) (fun c => ?_) (fun c => ?_)
    · replace h := h.1 c
      refine s_mask [true, true, true, true, false] (lv' := [some (vr c_songs), some (vi l1), some (vi l2), some (vi l3), none]) rfl rfl ?_
      exact hK _ h
    · replace h := h.2 c
      refine s_aload_n hX dX9_findPrices_50 rfl ?_
      refine s_getr hX fi_X9_15 ly_c_songs rfl dX9_findPrices_51 ?_
      refine s_iload_n hX dX9_findPrices_54 rfl ?_
      refine s_iload_n hX dX9_findPrices_55 rfl ?_
      refine s_iload hX dX9_findPrices_56 rfl ?_
      refine s_csi (as := [vi l2, vi l3, vi l4]) (rest := [vr c_songs_price]) hX (c_Songs_priceAt h) ms_Songs_priceAt wd_ml_X9_76 dX9_findPrices_58 rfl (Nat.le_of_ble_eq_true rfl) rfl (by decide) ⟨Nat.zero_le _, Nat.zero_le _⟩ (fun r508 M507 h => ?_)
      refine s_aload_n hX dX9_findPrices_61 rfl ?_
      refine s_getr hX fi_X9_29 ly_c_songs rfl dX9_findPrices_62 ?_
      refine s_iload_n hX dX9_findPrices_65 rfl ?_
      refine s_iload_n hX dX9_findPrices_66 rfl ?_
      refine s_iload hX dX9_findPrices_67 rfl ?_
      refine s_iload_n hX dX9_findPrices_69 rfl ?_
      refine s_cvi (as := [vi l2, vi l1, vi l4, vi l3]) (rest := [vi r508, vr c_songs_price]) hX (c_Debts_pence h) mv_Debts_pence wd_ml_X9_96 dX9_findPrices_70 ly_c_debts rfl rfl (Nat.le_of_ble_eq_true rfl) rfl (by decide) ⟨Nat.zero_le _, Nat.zero_le _⟩ (fun r510 M509 h => ?_)
      have hi := h.1
      replace h := h.2
      refine s_iast hX ly_c_songs_price hi dX9_findPrices_73 ?_
      refine s_iinc (v := (l4 + 1)) (lv' := [some (vr c_songs), some (vi l1), some (vi l2), some (vi l3), some (vi (l4 + 1))]) hX dX9_findPrices_74 rfl rfl rfl rfl ?_
      refine s_goto (tgt := 38) hX dX9_findPrices_77 (by decide) ?_
      exact ih _ _ h
def w_Songs_findPrices_L30 (l1 : Int32) (l2 : Int32) (K : Mem → Prop) (Q : Mem → Prop) : Nat → Int32 → Mem → Prop
  | 0, _, _ => False
  | n + 1, l3, M => ((5 < l3 → K M) ∧ (¬ 5 < l3 → (∃ n512, w_Songs_findPrices_L38 l1 l2 l3 (fun M511 => w_Songs_findPrices_L30 l1 l2 K Q n (l3 + 1) M511) Q n512 0 M)))
set_option maxHeartbeats 4000000 in
theorem t_Songs_findPrices_L30 {X : Cx} (hX : Cok X cX9_findPrices RX9 5 none 4 0 0) {Q : Mem → Prop} (hq : RV X 0 0 LY Q) {l1 : Int32} {l2 : Int32} {K : Mem → Prop} (hK : ∀ (M : Mem), K M → Wat X 0 0 LY 86 [some (vr c_songs), some (vi l1), some (vi l2), none, none] [] M) : ∀ (n : Nat) (l3 : Int32) (M : Mem), w_Songs_findPrices_L30 l1 l2 K Q n l3 M → Wat X 0 0 LY 30 [some (vr c_songs), some (vi l1), some (vi l2), some (vi l3), none] [] M := by
  intro n
  induction n with
  | zero => intro _ _ h; exact h.elim
  | succ n ih =>
    intro l3 M h
    refine s_iload_n hX dX9_findPrices_30 rfl ?_
    refine s_iconst (v := 5) hX dX9_findPrices_31 rfl ?_
    refine s_icmp_gt (tgt := 86) hX dX9_findPrices_32 (by decide) (fun c => ?_) (fun c => ?_)
    · replace h := h.1 c
      refine s_mask [true, true, true, false, true] (lv' := [some (vr c_songs), some (vi l1), some (vi l2), none, none]) rfl rfl ?_
      exact hK _ h
    · replace h := h.2 c
      refine s_iconst (v := 0) hX dX9_findPrices_35 rfl ?_
      refine s_istore (lv' := [some (vr c_songs), some (vi l1), some (vi l2), some (vi l3), some (vi 0)]) hX dX9_findPrices_36 rfl rfl (Nat.le_of_ble_eq_true rfl) ?_
      obtain ⟨n512, h⟩ := h
      refine t_Songs_findPrices_L38 hX hq ?_ n512 _ _ h
      intro M511 h
      refine s_iinc (v := (l3 + 1)) (lv' := [some (vr c_songs), some (vi l1), some (vi l2), some (vi (l3 + 1)), none]) hX dX9_findPrices_80 rfl rfl rfl rfl ?_
      refine s_goto (tgt := 30) hX dX9_findPrices_83 (by decide) ?_
      exact ih _ _ h
def w_Songs_findPrices_L17 (l1 : Int32) (K : Mem → Prop) (Q : Mem → Prop) : Nat → Int32 → Mem → Prop
  | 0, _, _ => False
  | n + 1, l2, M => (((M.1 c_land Land_birds) ≤ l2 → K M) ∧ (¬ (M.1 c_land Land_birds) ≤ l2 → (∃ n514, w_Songs_findPrices_L30 l1 l2 (fun M513 => w_Songs_findPrices_L17 l1 K Q n (l2 + 1) M513) Q n514 0 M)))
set_option maxHeartbeats 4000000 in
theorem t_Songs_findPrices_L17 {X : Cx} (hX : Cok X cX9_findPrices RX9 5 none 4 0 0) {Q : Mem → Prop} (hq : RV X 0 0 LY Q) {l1 : Int32} {K : Mem → Prop} (hK : ∀ (M : Mem), K M → Wat X 0 0 LY 92 [none, none, none, none, none] [] M) : ∀ (n : Nat) (l2 : Int32) (M : Mem), w_Songs_findPrices_L17 l1 K Q n l2 M → Wat X 0 0 LY 17 [some (vr c_songs), some (vi l1), some (vi l2), none, none] [] M := by
  intro n
  induction n with
  | zero => intro _ _ h; exact h.elim
  | succ n ih =>
    intro l2 M h
    refine s_iload_n hX dX9_findPrices_17 rfl ?_
    refine s_aload_n hX dX9_findPrices_18 rfl ?_
    refine s_getr hX fi_X9_21 ly_c_songs rfl dX9_findPrices_19 ?_
    refine s_getiv (v := (M.1 c_land Land_birds)) hX fi_X9_68 ly_c_land rfl dX9_findPrices_22 rfl ?_
    refine s_icmp_ge (tgt := 92) hX dX9_findPrices_25 (by decide) (fun c => ?_) (fun c => ?_)
    · replace h := h.1 c
      refine s_mask [false, false, false, true, true] (lv' := [none, none, none, none, none]) rfl rfl ?_
      exact hK _ h
    · replace h := h.2 c
      refine s_iconst (v := 0) hX dX9_findPrices_28 rfl ?_
      refine s_istore_n (lv' := [some (vr c_songs), some (vi l1), some (vi l2), some (vi 0), none]) hX dX9_findPrices_29 rfl rfl (Nat.le_of_ble_eq_true rfl) ?_
      obtain ⟨n514, h⟩ := h
      refine t_Songs_findPrices_L30 hX hq ?_ n514 _ _ h
      intro M513 h
      refine s_iinc (v := (l2 + 1)) (lv' := [some (vr c_songs), some (vi l1), some (vi (l2 + 1)), none, none]) hX dX9_findPrices_86 rfl rfl rfl rfl ?_
      refine s_goto (tgt := 17) hX dX9_findPrices_89 (by decide) ?_
      exact ih _ _ h
def w_Songs_findPrices (a0 : Int32) (M : Mem) (Q : Mem → Prop) : Prop :=
  w_Debts_allAsTold M (fun M505 => w_Debts_lookRound a0 M505 (fun M506 => (∃ n516, w_Songs_findPrices_L17 a0 (fun M515 => Q M515) Q n516 0 M506)))
set_option maxHeartbeats 4000000 in
theorem t_Songs_findPrices {X : Cx} (hX : Cok X cX9_findPrices RX9 5 none 4 0 0) {Q : Mem → Prop} (hq : RV X 0 0 LY Q) {M : Mem} {a0 : Int32} (h : w_Songs_findPrices a0 M Q) : Wat X 0 0 LY 0 [some (vr c_songs), some (vi a0), none, none, none] [] M := by
  refine s_aload_n hX dX9_findPrices_0 rfl ?_
  refine s_getr hX fi_X9_29 ly_c_songs rfl dX9_findPrices_1 ?_
  refine s_cvv (as := []) (rest := []) hX (c_Debts_allAsTold h) mv_Debts_allAsTold wd_ml_X9_63 dX9_findPrices_4 ly_c_debts rfl rfl (Nat.le_of_ble_eq_true rfl) rfl (by decide) ⟨Nat.zero_le _, Nat.zero_le _⟩ (fun M505 h => ?_)
  refine s_aload_n hX dX9_findPrices_7 rfl ?_
  refine s_getr hX fi_X9_29 ly_c_songs rfl dX9_findPrices_8 ?_
  refine s_iload_n hX dX9_findPrices_11 rfl ?_
  refine s_cvv (as := [vi a0]) (rest := []) hX (c_Debts_lookRound h) mv_Debts_lookRound wd_ml_X9_93 dX9_findPrices_12 ly_c_debts rfl rfl (Nat.le_of_ble_eq_true rfl) rfl (by decide) ⟨Nat.zero_le _, Nat.zero_le _⟩ (fun M506 h => ?_)
  refine s_iconst (v := 0) hX dX9_findPrices_15 rfl ?_
  refine s_istore_n (lv' := [some (vr c_songs), some (vi a0), some (vi 0), none, none]) hX dX9_findPrices_16 rfl rfl (Nat.le_of_ble_eq_true rfl) ?_
  obtain ⟨n516, h⟩ := h
  refine t_Songs_findPrices_L17 hX hq ?_ n516 _ _ h
  intro M515 h
  exact s_vret hX hq rfl dX9_findPrices_92 h
theorem c_Songs_findPrices {a0 : Int32} {M : Mem} {Q : Mem → Prop} (h : w_Songs_findPrices a0 M Q) : CV yX9_findPrices cX9_findPrices 5 none 4 0 0 LY LY [vr c_songs, vi a0] M Q := mk_v rfl wd_co_X9_findPrices rfl rfl (Nat.le_of_ble_eq_true rfl) (fun X hX hq => t_Songs_findPrices hX hq h)
theorem mv_Songs_findPrices : MV yX9_findPrices cX9_findPrices 5 none RX9 1 := ⟨wd_co_X9_findPrices, wd_im_X9_findPrices, wd_se_X9_findPrices, wd_in_X9, by decide +kernel, by decide⟩
def w_Songs_pay_L5 (l1 : Int32) (l2 : Int32) (K : Int32 → Mem → Prop) (Q : Bool → Mem → Prop) : Nat → Int32 → Int32 → Mem → Prop
  | 0, _, _, _ => False
  | n + 1, l3, l4, M => (((M.1 c_land Land_people) ≤ l4 → K l3 M) ∧ (¬ (M.1 c_land Land_people) ≤ l4 → (vp_in l4 6 ∧ (((M.1 c_deeds_debt (Int32.toNatClampNeg l4)) = (-1) → w_Songs_pay_L5 l1 l2 K Q n l3 (l4 + 1) M) ∧ (¬ (M.1 c_deeds_debt (Int32.toNatClampNeg l4)) = (-1) → (vp_in l4 6 ∧ w_Songs_priceAt l1 l2 l4 M (fun r522 M521 => (vp_in r522 180 ∧ (vp_in l4 6 ∧ ((l3 = 0 → w_Songs_pay_L5 l1 l2 K Q n 0 (l4 + 1) (si M521 c_songs_left (Int32.toNatClampNeg l4) ((M.1 c_songs_left (Int32.toNatClampNeg l4)) - (M521.1 c_songs_price (Int32.toNatClampNeg r522))))) ∧ (¬ l3 = 0 → (vp_in l4 6 ∧ ∀ x523 : Int32, x523 = (if ((si M521 c_songs_left (Int32.toNatClampNeg l4) ((M.1 c_songs_left (Int32.toNatClampNeg l4)) - (M521.1 c_songs_price (Int32.toNatClampNeg r522)))).1 c_songs_left (Int32.toNatClampNeg l4)) < 0 then (0 : Int32) else 1) → w_Songs_pay_L5 l1 l2 K Q n x523 (l4 + 1) (si M521 c_songs_left (Int32.toNatClampNeg l4) ((M.1 c_songs_left (Int32.toNatClampNeg l4)) - (M521.1 c_songs_price (Int32.toNatClampNeg r522))))))))))))))))
set_option maxHeartbeats 4000000 in
theorem t_Songs_pay_L5 {X : Cx} (hX : Cok X cX9_pay RX9 5 ((some .boolean)) 2 0 0) {Q : Bool → Mem → Prop} (hq : RI X 0 0 LY (bQ Q)) {l1 : Int32} {l2 : Int32} {K : Int32 → Mem → Prop} (hK : ∀ (l3 : Int32) (M : Mem), K l3 M → Wat X 0 0 LY 79 [none, none, none, some (vi l3), none] [] M) : ∀ (n : Nat) (l3 : Int32) (l4 : Int32) (M : Mem), w_Songs_pay_L5 l1 l2 K Q n l3 l4 M → Wat X 0 0 LY 5 [some (vr c_songs), some (vi l1), some (vi l2), some (vi l3), some (vi l4)] [] M := by
  intro n
  induction n with
  | zero => intro _ _ _ h; exact h.elim
  | succ n ih =>
    intro l3 l4 M h
    refine s_iload hX dX9_pay_5 rfl ?_
    refine s_aload_n hX dX9_pay_7 rfl ?_
    refine s_getr hX fi_X9_21 ly_c_songs rfl dX9_pay_8 ?_
    refine s_getiv (v := (M.1 c_land Land_people)) hX fi_X9_73 ly_c_land rfl dX9_pay_11 rfl ?_
    refine s_icmp_ge (tgt := 79) hX dX9_pay_14 (by decide) (fun c => ?_) (fun c => ?_)
    · replace h := h.1 c
      refine s_mask [false, false, false, true, false] (lv' := [none, none, none, some (vi l3), none]) rfl rfl ?_
      exact hK _ _ h
    · replace h := h.2 c
      refine s_aload_n hX dX9_pay_17 rfl ?_
      refine s_getr hX fi_X9_25 ly_c_songs rfl dX9_pay_18 ?_
      refine s_getr hX fi_X9_45 ly_c_deeds rfl dX9_pay_21 ?_
      refine s_iload hX dX9_pay_24 rfl ?_
      have hi := h.1
      replace h := h.2
      refine s_ialdv (v := (M.1 c_deeds_debt (Int32.toNatClampNeg l4))) hX ly_c_deeds_debt hi dX9_pay_26 rfl ?_
      refine s_iconst (v := (-1)) hX dX9_pay_27 rfl ?_
      refine s_icmp_eq (tgt := 73) hX dX9_pay_28 (by decide) (fun c => ?_) (fun c => ?_)
      · replace h := h.1 c
        refine s_iinc (v := (l4 + 1)) (lv' := [some (vr c_songs), some (vi l1), some (vi l2), some (vi l3), some (vi (l4 + 1))]) hX dX9_pay_73 rfl rfl rfl rfl ?_
        refine s_goto (tgt := 5) hX dX9_pay_76 (by decide) ?_
        exact ih _ _ _ h
      · replace h := h.2 c
        refine s_aload_n hX dX9_pay_31 rfl ?_
        refine s_getr hX fi_X9_18 ly_c_songs rfl dX9_pay_32 ?_
        refine s_iload hX dX9_pay_35 rfl ?_
        refine s_dup2 hX dX9_pay_37 rfl rfl ?_
        have hi := h.1
        replace h := h.2
        refine s_ialdv (v := (M.1 c_songs_left (Int32.toNatClampNeg l4))) hX ly_c_songs_left hi dX9_pay_38 rfl ?_
        refine s_aload_n hX dX9_pay_39 rfl ?_
        refine s_getr hX fi_X9_15 ly_c_songs rfl dX9_pay_40 ?_
        refine s_iload_n hX dX9_pay_43 rfl ?_
        refine s_iload_n hX dX9_pay_44 rfl ?_
        refine s_iload hX dX9_pay_45 rfl ?_
        refine s_csi (as := [vi l1, vi l2, vi l4]) (rest := [vr c_songs_price, vi (M.1 c_songs_left (Int32.toNatClampNeg l4)), vi l4, vr c_songs_left]) hX (c_Songs_priceAt h) ms_Songs_priceAt wd_ml_X9_76 dX9_pay_47 rfl (Nat.le_of_ble_eq_true rfl) rfl (by decide) ⟨Nat.zero_le _, Nat.zero_le _⟩ (fun r522 M521 h => ?_)
        have hi := h.1
        replace h := h.2
        refine s_ialdv (v := (M521.1 c_songs_price (Int32.toNatClampNeg r522))) hX ly_c_songs_price hi dX9_pay_50 rfl ?_
        refine s_isub hX dX9_pay_51 ?_
        have hi := h.1
        replace h := h.2
        refine s_iast hX ly_c_songs_left hi dX9_pay_52 ?_
        refine s_iload_n hX dX9_pay_53 rfl ?_
        refine s_if_eq (tgt := 71) hX dX9_pay_54 (by decide) (fun c => ?_) (fun c => ?_)
        · replace h := h.1 c
          refine s_iconst (v := 0) hX dX9_pay_71 rfl ?_
          refine s_istore_n (lv' := [some (vr c_songs), some (vi l1), some (vi l2), some (vi 0), some (vi l4)]) hX dX9_pay_72 rfl rfl (Nat.le_of_ble_eq_true rfl) ?_
          refine s_iinc (v := (l4 + 1)) (lv' := [some (vr c_songs), some (vi l1), some (vi l2), some (vi 0), some (vi (l4 + 1))]) hX dX9_pay_73 rfl rfl rfl rfl ?_
          refine s_goto (tgt := 5) hX dX9_pay_76 (by decide) ?_
          exact ih _ _ _ h
        · replace h := h.2 c
          refine s_aload_n hX dX9_pay_57 rfl ?_
          refine s_getr hX fi_X9_18 ly_c_songs rfl dX9_pay_58 ?_
          refine s_iload hX dX9_pay_61 rfl ?_
          have hi := h.1
          replace h := h.2
          refine s_ialdv (v := ((si M521 c_songs_left (Int32.toNatClampNeg l4) ((M.1 c_songs_left (Int32.toNatClampNeg l4)) - (M521.1 c_songs_price (Int32.toNatClampNeg r522)))).1 c_songs_left (Int32.toNatClampNeg l4))) hX ly_c_songs_left hi dX9_pay_63 rfl ?_
          have hJ : Wat X 0 0 LY 72 [some (vr c_songs), some (vi l1), some (vi l2), some (vi l3), some (vi l4)] [vi (if ((si M521 c_songs_left (Int32.toNatClampNeg l4) ((M.1 c_songs_left (Int32.toNatClampNeg l4)) - (M521.1 c_songs_price (Int32.toNatClampNeg r522)))).1 c_songs_left (Int32.toNatClampNeg l4)) < 0 then (0 : Int32) else 1)] (si M521 c_songs_left (Int32.toNatClampNeg l4) ((M.1 c_songs_left (Int32.toNatClampNeg l4)) - (M521.1 c_songs_price (Int32.toNatClampNeg r522)))) := by
            refine s_nmi (fun x523 ex523 => ?_)
            replace h := h x523 ex523
            refine s_istore_n (lv' := [some (vr c_songs), some (vi l1), some (vi l2), some (vi x523), some (vi l4)]) hX dX9_pay_72 rfl rfl (Nat.le_of_ble_eq_true rfl) ?_
            refine s_iinc (v := (l4 + 1)) (lv' := [some (vr c_songs), some (vi l1), some (vi l2), some (vi x523), some (vi (l4 + 1))]) hX dX9_pay_73 rfl rfl rfl rfl ?_
            refine s_goto (tgt := 5) hX dX9_pay_76 (by decide) ?_
            exact ih _ _ _ h
          refine s_if_lt (tgt := 71) hX dX9_pay_64 (by decide) (fun c => ?_) (fun c => ?_)
          · rw [if_pos c] at hJ
            refine s_iconst (v := 0) hX dX9_pay_71 rfl ?_
            exact hJ
          · rw [if_neg c] at hJ
            refine s_iconst (v := 1) hX dX9_pay_67 rfl ?_
            refine s_goto (tgt := 72) hX dX9_pay_68 (by decide) ?_
            exact hJ
def w_Songs_pay (a0 : Int32) (a1 : Int32) (M : Mem) (Q : Bool → Mem → Prop) : Prop :=
  (∃ n526, w_Songs_pay_L5 a0 a1 (fun y525 M524 => (∃ bb : Bool, y525 = b2i bb ∧ Q bb M524)) Q n526 1 0 M)
set_option maxHeartbeats 4000000 in
theorem t_Songs_pay {X : Cx} (hX : Cok X cX9_pay RX9 5 ((some .boolean)) 2 0 0) {Q : Bool → Mem → Prop} (hq : RI X 0 0 LY (bQ Q)) {M : Mem} {a0 : Int32} {a1 : Int32} (h : w_Songs_pay a0 a1 M Q) : Wat X 0 0 LY 0 [some (vr c_songs), some (vi a0), some (vi a1), none, none] [] M := by
  refine s_iconst (v := 1) hX dX9_pay_0 rfl ?_
  refine s_istore_n (lv' := [some (vr c_songs), some (vi a0), some (vi a1), some (vi 1), none]) hX dX9_pay_1 rfl rfl (Nat.le_of_ble_eq_true rfl) ?_
  refine s_iconst (v := 0) hX dX9_pay_2 rfl ?_
  refine s_istore (lv' := [some (vr c_songs), some (vi a0), some (vi a1), some (vi 1), some (vi 0)]) hX dX9_pay_3 rfl rfl (Nat.le_of_ble_eq_true rfl) ?_
  obtain ⟨n526, h⟩ := h
  refine t_Songs_pay_L5 hX hq ?_ n526 _ _ _ h
  intro y525 M524 h
  refine s_iload_n hX dX9_pay_79 rfl ?_
  obtain ⟨bb, hbb, h⟩ := h
  exact s_zret hX bb hq rfl dX9_pay_80 hbb h
theorem c_Songs_pay {a0 : Int32} {a1 : Int32} {M : Mem} {Q : Bool → Mem → Prop} (h : w_Songs_pay a0 a1 M Q) : CI yX9_pay cX9_pay 5 ((some .boolean)) 2 0 0 LY LY [vr c_songs, vi a0, vi a1] M (bQ Q) := mk_i rfl wd_co_X9_pay rfl rfl (Nat.le_of_ble_eq_true rfl) (fun X hX hq => t_Songs_pay hX hq h)
theorem mv_Songs_pay : MV yX9_pay cX9_pay 5 ((some .boolean)) RX9 2 := ⟨wd_co_X9_pay, wd_im_X9_pay, wd_se_X9_pay, wd_in_X9, by decide +kernel, by decide⟩
def w_Songs_takeBack_L2 (l1 : Int32) (l2 : Int32) (K : Mem → Prop) (Q : Mem → Prop) : Nat → Int32 → Mem → Prop
  | 0, _, _ => False
  | n + 1, l3, M => (((M.1 c_land Land_people) ≤ l3 → K M) ∧ (¬ (M.1 c_land Land_people) ≤ l3 → (vp_in l3 6 ∧ (((M.1 c_deeds_debt (Int32.toNatClampNeg l3)) = (-1) → w_Songs_takeBack_L2 l1 l2 K Q n (l3 + 1) M) ∧ (¬ (M.1 c_deeds_debt (Int32.toNatClampNeg l3)) = (-1) → (vp_in l3 6 ∧ w_Songs_priceAt l1 l2 l3 M (fun r530 M529 => (vp_in r530 180 ∧ (vp_in l3 6 ∧ w_Songs_takeBack_L2 l1 l2 K Q n (l3 + 1) (si M529 c_songs_left (Int32.toNatClampNeg l3) ((M.1 c_songs_left (Int32.toNatClampNeg l3)) + (M529.1 c_songs_price (Int32.toNatClampNeg r530)))))))))))))
set_option maxHeartbeats 4000000 in
theorem t_Songs_takeBack_L2 {X : Cx} (hX : Cok X cX9_takeBack RX9 4 none 2 0 0) {Q : Mem → Prop} (hq : RV X 0 0 LY Q) {l1 : Int32} {l2 : Int32} {K : Mem → Prop} (hK : ∀ (M : Mem), K M → Wat X 0 0 LY 52 [none, none, none, none] [] M) : ∀ (n : Nat) (l3 : Int32) (M : Mem), w_Songs_takeBack_L2 l1 l2 K Q n l3 M → Wat X 0 0 LY 2 [some (vr c_songs), some (vi l1), some (vi l2), some (vi l3)] [] M := by
  intro n
  induction n with
  | zero => intro _ _ h; exact h.elim
  | succ n ih =>
    intro l3 M h
    refine s_iload_n hX dX9_takeBack_2 rfl ?_
    refine s_aload_n hX dX9_takeBack_3 rfl ?_
    refine s_getr hX fi_X9_21 ly_c_songs rfl dX9_takeBack_4 ?_
    refine s_getiv (v := (M.1 c_land Land_people)) hX fi_X9_73 ly_c_land rfl dX9_takeBack_7 rfl ?_
    refine s_icmp_ge (tgt := 52) hX dX9_takeBack_10 (by decide) (fun c => ?_) (fun c => ?_)
    · replace h := h.1 c
      refine s_mask [false, false, false, false] (lv' := [none, none, none, none]) rfl rfl ?_
      exact hK _ h
    · replace h := h.2 c
      refine s_aload_n hX dX9_takeBack_13 rfl ?_
      refine s_getr hX fi_X9_25 ly_c_songs rfl dX9_takeBack_14 ?_
      refine s_getr hX fi_X9_45 ly_c_deeds rfl dX9_takeBack_17 ?_
      refine s_iload_n hX dX9_takeBack_20 rfl ?_
      have hi := h.1
      replace h := h.2
      refine s_ialdv (v := (M.1 c_deeds_debt (Int32.toNatClampNeg l3))) hX ly_c_deeds_debt hi dX9_takeBack_21 rfl ?_
      refine s_iconst (v := (-1)) hX dX9_takeBack_22 rfl ?_
      refine s_icmp_eq (tgt := 46) hX dX9_takeBack_23 (by decide) (fun c => ?_) (fun c => ?_)
      · replace h := h.1 c
        refine s_iinc (v := (l3 + 1)) (lv' := [some (vr c_songs), some (vi l1), some (vi l2), some (vi (l3 + 1))]) hX dX9_takeBack_46 rfl rfl rfl rfl ?_
        refine s_goto (tgt := 2) hX dX9_takeBack_49 (by decide) ?_
        exact ih _ _ h
      · replace h := h.2 c
        refine s_aload_n hX dX9_takeBack_26 rfl ?_
        refine s_getr hX fi_X9_18 ly_c_songs rfl dX9_takeBack_27 ?_
        refine s_iload_n hX dX9_takeBack_30 rfl ?_
        refine s_dup2 hX dX9_takeBack_31 rfl rfl ?_
        have hi := h.1
        replace h := h.2
        refine s_ialdv (v := (M.1 c_songs_left (Int32.toNatClampNeg l3))) hX ly_c_songs_left hi dX9_takeBack_32 rfl ?_
        refine s_aload_n hX dX9_takeBack_33 rfl ?_
        refine s_getr hX fi_X9_15 ly_c_songs rfl dX9_takeBack_34 ?_
        refine s_iload_n hX dX9_takeBack_37 rfl ?_
        refine s_iload_n hX dX9_takeBack_38 rfl ?_
        refine s_iload_n hX dX9_takeBack_39 rfl ?_
        refine s_csi (as := [vi l1, vi l2, vi l3]) (rest := [vr c_songs_price, vi (M.1 c_songs_left (Int32.toNatClampNeg l3)), vi l3, vr c_songs_left]) hX (c_Songs_priceAt h) ms_Songs_priceAt wd_ml_X9_76 dX9_takeBack_40 rfl (Nat.le_of_ble_eq_true rfl) rfl (by decide) ⟨Nat.zero_le _, Nat.zero_le _⟩ (fun r530 M529 h => ?_)
        have hi := h.1
        replace h := h.2
        refine s_ialdv (v := (M529.1 c_songs_price (Int32.toNatClampNeg r530))) hX ly_c_songs_price hi dX9_takeBack_43 rfl ?_
        refine s_iadd hX dX9_takeBack_44 ?_
        have hi := h.1
        replace h := h.2
        refine s_iast hX ly_c_songs_left hi dX9_takeBack_45 ?_
        refine s_iinc (v := (l3 + 1)) (lv' := [some (vr c_songs), some (vi l1), some (vi l2), some (vi (l3 + 1))]) hX dX9_takeBack_46 rfl rfl rfl rfl ?_
        refine s_goto (tgt := 2) hX dX9_takeBack_49 (by decide) ?_
        exact ih _ _ h
def w_Songs_takeBack (a0 : Int32) (a1 : Int32) (M : Mem) (Q : Mem → Prop) : Prop :=
  (∃ n532, w_Songs_takeBack_L2 a0 a1 (fun M531 => Q M531) Q n532 0 M)
set_option maxHeartbeats 4000000 in
theorem t_Songs_takeBack {X : Cx} (hX : Cok X cX9_takeBack RX9 4 none 2 0 0) {Q : Mem → Prop} (hq : RV X 0 0 LY Q) {M : Mem} {a0 : Int32} {a1 : Int32} (h : w_Songs_takeBack a0 a1 M Q) : Wat X 0 0 LY 0 [some (vr c_songs), some (vi a0), some (vi a1), none] [] M := by
  refine s_iconst (v := 0) hX dX9_takeBack_0 rfl ?_
  refine s_istore_n (lv' := [some (vr c_songs), some (vi a0), some (vi a1), some (vi 0)]) hX dX9_takeBack_1 rfl rfl (Nat.le_of_ble_eq_true rfl) ?_
  obtain ⟨n532, h⟩ := h
  refine t_Songs_takeBack_L2 hX hq ?_ n532 _ _ h
  intro M531 h
  exact s_vret hX hq rfl dX9_takeBack_52 h
theorem c_Songs_takeBack {a0 : Int32} {a1 : Int32} {M : Mem} {Q : Mem → Prop} (h : w_Songs_takeBack a0 a1 M Q) : CV yX9_takeBack cX9_takeBack 4 none 2 0 0 LY LY [vr c_songs, vi a0, vi a1] M Q := mk_v rfl wd_co_X9_takeBack rfl rfl (Nat.le_of_ble_eq_true rfl) (fun X hX hq => t_Songs_takeBack hX hq h)
theorem mv_Songs_takeBack : MV yX9_takeBack cX9_takeBack 4 none RX9 2 := ⟨wd_co_X9_takeBack, wd_im_X9_takeBack, wd_se_X9_takeBack, wd_in_X9, by decide +kernel, by decide⟩
def w_Songs_isAllPaid_L2 (K : Mem → Prop) (Q : Bool → Mem → Prop) : Nat → Int32 → Mem → Prop
  | 0, _, _ => False
  | n + 1, l1, M => (((M.1 c_land Land_people) ≤ l1 → K M) ∧ (¬ (M.1 c_land Land_people) ≤ l1 → (vp_in l1 6 ∧ (((M.1 c_deeds_debt (Int32.toNatClampNeg l1)) = (-1) → w_Songs_isAllPaid_L2 K Q n (l1 + 1) M) ∧ (¬ (M.1 c_deeds_debt (Int32.toNatClampNeg l1)) = (-1) → (vp_in l1 6 ∧ (((M.1 c_songs_left (Int32.toNatClampNeg l1)) = 0 → w_Songs_isAllPaid_L2 K Q n (l1 + 1) M) ∧ (¬ (M.1 c_songs_left (Int32.toNatClampNeg l1)) = 0 → Q false M))))))))
set_option maxHeartbeats 4000000 in
theorem t_Songs_isAllPaid_L2 {X : Cx} (hX : Cok X cX9_isAllPaid RX9 2 ((some .boolean)) 1 0 0) {Q : Bool → Mem → Prop} (hq : RI X 0 0 LY (bQ Q)) {K : Mem → Prop} (hK : ∀ (M : Mem), K M → Wat X 0 0 LY 43 [none, none] [] M) : ∀ (n : Nat) (l1 : Int32) (M : Mem), w_Songs_isAllPaid_L2 K Q n l1 M → Wat X 0 0 LY 2 [some (vr c_songs), some (vi l1)] [] M := by
  intro n
  induction n with
  | zero => intro _ _ h; exact h.elim
  | succ n ih =>
    intro l1 M h
    refine s_iload_n hX dX9_isAllPaid_2 rfl ?_
    refine s_aload_n hX dX9_isAllPaid_3 rfl ?_
    refine s_getr hX fi_X9_21 ly_c_songs rfl dX9_isAllPaid_4 ?_
    refine s_getiv (v := (M.1 c_land Land_people)) hX fi_X9_73 ly_c_land rfl dX9_isAllPaid_7 rfl ?_
    refine s_icmp_ge (tgt := 43) hX dX9_isAllPaid_10 (by decide) (fun c => ?_) (fun c => ?_)
    · replace h := h.1 c
      refine s_mask [false, false] (lv' := [none, none]) rfl rfl ?_
      exact hK _ h
    · replace h := h.2 c
      refine s_aload_n hX dX9_isAllPaid_13 rfl ?_
      refine s_getr hX fi_X9_25 ly_c_songs rfl dX9_isAllPaid_14 ?_
      refine s_getr hX fi_X9_45 ly_c_deeds rfl dX9_isAllPaid_17 ?_
      refine s_iload_n hX dX9_isAllPaid_20 rfl ?_
      have hi := h.1
      replace h := h.2
      refine s_ialdv (v := (M.1 c_deeds_debt (Int32.toNatClampNeg l1))) hX ly_c_deeds_debt hi dX9_isAllPaid_21 rfl ?_
      refine s_iconst (v := (-1)) hX dX9_isAllPaid_22 rfl ?_
      refine s_icmp_eq (tgt := 37) hX dX9_isAllPaid_23 (by decide) (fun c => ?_) (fun c => ?_)
      · replace h := h.1 c
        refine s_iinc (v := (l1 + 1)) (lv' := [some (vr c_songs), some (vi (l1 + 1))]) hX dX9_isAllPaid_37 rfl rfl rfl rfl ?_
        refine s_goto (tgt := 2) hX dX9_isAllPaid_40 (by decide) ?_
        exact ih _ _ h
      · replace h := h.2 c
        refine s_aload_n hX dX9_isAllPaid_26 rfl ?_
        refine s_getr hX fi_X9_18 ly_c_songs rfl dX9_isAllPaid_27 ?_
        refine s_iload_n hX dX9_isAllPaid_30 rfl ?_
        have hi := h.1
        replace h := h.2
        refine s_ialdv (v := (M.1 c_songs_left (Int32.toNatClampNeg l1))) hX ly_c_songs_left hi dX9_isAllPaid_31 rfl ?_
        refine s_if_eq (tgt := 37) hX dX9_isAllPaid_32 (by decide) (fun c => ?_) (fun c => ?_)
        · replace h := h.1 c
          refine s_iinc (v := (l1 + 1)) (lv' := [some (vr c_songs), some (vi (l1 + 1))]) hX dX9_isAllPaid_37 rfl rfl rfl rfl ?_
          refine s_goto (tgt := 2) hX dX9_isAllPaid_40 (by decide) ?_
          exact ih _ _ h
        · replace h := h.2 c
          refine s_iconst (v := 0) hX dX9_isAllPaid_35 rfl ?_
          exact s_zret hX false hq rfl dX9_isAllPaid_36 rfl h
def w_Songs_isAllPaid (M : Mem) (Q : Bool → Mem → Prop) : Prop :=
  (∃ n539, w_Songs_isAllPaid_L2 (fun M538 => Q true M538) Q n539 0 M)
set_option maxHeartbeats 4000000 in
theorem t_Songs_isAllPaid {X : Cx} (hX : Cok X cX9_isAllPaid RX9 2 ((some .boolean)) 1 0 0) {Q : Bool → Mem → Prop} (hq : RI X 0 0 LY (bQ Q)) {M : Mem} (h : w_Songs_isAllPaid M Q) : Wat X 0 0 LY 0 [some (vr c_songs), none] [] M := by
  refine s_iconst (v := 0) hX dX9_isAllPaid_0 rfl ?_
  refine s_istore_n (lv' := [some (vr c_songs), some (vi 0)]) hX dX9_isAllPaid_1 rfl rfl (Nat.le_of_ble_eq_true rfl) ?_
  obtain ⟨n539, h⟩ := h
  refine t_Songs_isAllPaid_L2 hX hq ?_ n539 _ _ h
  intro M538 h
  refine s_iconst (v := 1) hX dX9_isAllPaid_43 rfl ?_
  exact s_zret hX true hq rfl dX9_isAllPaid_44 rfl h
theorem c_Songs_isAllPaid {M : Mem} {Q : Bool → Mem → Prop} (h : w_Songs_isAllPaid M Q) : CI yX9_isAllPaid cX9_isAllPaid 2 ((some .boolean)) 1 0 0 LY LY [vr c_songs] M (bQ Q) := mk_i rfl wd_co_X9_isAllPaid rfl rfl (Nat.le_of_ble_eq_true rfl) (fun X hX hq => t_Songs_isAllPaid hX hq h)
theorem mv_Songs_isAllPaid : MV yX9_isAllPaid cX9_isAllPaid 2 ((some .boolean)) RX9 0 := ⟨wd_co_X9_isAllPaid, wd_im_X9_isAllPaid, wd_se_X9_isAllPaid, wd_in_X9, by decide +kernel, by decide⟩
theorem mv_Songs_singFrom : MV yX9_singFrom cX9_singFrom 5 ((some .boolean)) RX9 1 := ⟨wd_co_X9_singFrom, wd_im_X9_singFrom, wd_se_X9_singFrom, wd_in_X9, by decide +kernel, by decide⟩
def w_Songs_singFrom_j113 (r_Songs_singFrom : Int32 → Mem → (Bool → Mem → Prop) → Prop) (R : Int32 → Mem → Prop) (K : Mem → Prop) (l1 : Int32) (l2 : Int32) (l3 : Int32) (M : Mem) (Q : Bool → Mem → Prop) : Prop :=
  w_Songs_takeBack l1 l3 M (fun M533 => R (l3 + 1) M533)
set_option maxHeartbeats 4000000 in
theorem t_Songs_singFrom_j113 {lv0 : Nat} {X : Cx} (hX : Cok X cX9_singFrom RX9 5 ((some .boolean)) (lv0 + 1) 0 0) {Q : Bool → Mem → Prop} (hq : RI X 0 0 LY (bQ Q)) {r_Songs_singFrom : Int32 → Mem → (Bool → Mem → Prop) → Prop} (hlv0 : 2 ≤ lv0) (hr_Songs_singFrom : ∀ (a0 : Int32) M Q, r_Songs_singFrom a0 M Q → CI yX9_singFrom cX9_singFrom 5 ((some .boolean)) lv0 0 0 LY LY [vr c_songs, vi a0] M (bQ Q)) {l1 : Int32} {l2 : Int32} {R : Int32 → Mem → Prop} {K : Mem → Prop} (hR : ∀ (l3 : Int32) (M : Mem), R l3 M → Wat X 0 0 LY 76 [some (vr c_songs), some (vi l1), some (vi l2), some (vi l3), none] [] M) (hK : ∀ (M : Mem), K M → Wat X 0 0 LY 125 [none, none, none, none, none] [] M) {l3 : Int32} {M : Mem} (h : w_Songs_singFrom_j113 r_Songs_singFrom R K l1 l2 l3 M Q) : Wat X 0 0 LY 113 [some (vr c_songs), some (vi l1), some (vi l2), some (vi l3), none] [] M := by
  refine s_aload_n hX dX9_singFrom_113 rfl ?_
  refine s_iload_n hX dX9_singFrom_114 rfl ?_
  refine s_iload_n hX dX9_singFrom_115 rfl ?_
  refine s_cvv (as := [vi l1, vi l3]) (rest := []) hX (c_Songs_takeBack h) mv_Songs_takeBack wd_ml_X9_110 dX9_singFrom_116 ly_c_songs rfl rfl (Nat.le_of_ble_eq_true rfl) rfl (by omega) ⟨Nat.zero_le _, Nat.zero_le _⟩ (fun M533 h => ?_)
  refine s_iinc (v := (l3 + 1)) (lv' := [some (vr c_songs), some (vi l1), some (vi l2), some (vi (l3 + 1)), none]) hX dX9_singFrom_119 rfl rfl rfl rfl ?_
  refine s_goto (tgt := 76) hX dX9_singFrom_122 (by decide) ?_
  exact hR _ _ h
def w_Songs_singFrom_L76 (r_Songs_singFrom : Int32 → Mem → (Bool → Mem → Prop) → Prop) (l1 : Int32) (l2 : Int32) (K : Mem → Prop) (Q : Bool → Mem → Prop) : Nat → Int32 → Mem → Prop
  | 0, _, _ => False
  | n + 1, l3, M => ((l2 < l3 → K M) ∧ (¬ l2 < l3 → (vp_in l1 5 ∧ w_Songs_pay l1 l3 (si M c_songs_row (Int32.toNatClampNeg l1) l3) (fun b528 M527 => ((b528 = false → w_Songs_singFrom_j113 r_Songs_singFrom (fun l3 M => w_Songs_singFrom_L76 r_Songs_singFrom l1 l2 K Q n l3 M) K l1 l2 l3 M527 Q) ∧ (b528 = true → r_Songs_singFrom (l1 + 1) M527 (fun b535 M534 => ((b535 = false → w_Songs_singFrom_j113 r_Songs_singFrom (fun l3 M => w_Songs_singFrom_L76 r_Songs_singFrom l1 l2 K Q n l3 M) K l1 l2 l3 M534 Q) ∧ (b535 = true → Q true M534)))))))))
set_option maxHeartbeats 4000000 in
theorem t_Songs_singFrom_L76 {lv0 : Nat} {X : Cx} (hX : Cok X cX9_singFrom RX9 5 ((some .boolean)) (lv0 + 1) 0 0) {Q : Bool → Mem → Prop} (hq : RI X 0 0 LY (bQ Q)) {r_Songs_singFrom : Int32 → Mem → (Bool → Mem → Prop) → Prop} (hlv0 : 2 ≤ lv0) (hr_Songs_singFrom : ∀ (a0 : Int32) M Q, r_Songs_singFrom a0 M Q → CI yX9_singFrom cX9_singFrom 5 ((some .boolean)) lv0 0 0 LY LY [vr c_songs, vi a0] M (bQ Q)) {l1 : Int32} {l2 : Int32} {K : Mem → Prop} (hK : ∀ (M : Mem), K M → Wat X 0 0 LY 125 [none, none, none, none, none] [] M) : ∀ (n : Nat) (l3 : Int32) (M : Mem), w_Songs_singFrom_L76 r_Songs_singFrom l1 l2 K Q n l3 M → Wat X 0 0 LY 76 [some (vr c_songs), some (vi l1), some (vi l2), some (vi l3), none] [] M := by
  intro n
  induction n with
  | zero => intro _ _ h; exact h.elim
  | succ n ih =>
    intro l3 M h
    refine s_iload_n hX dX9_singFrom_76 rfl ?_
    refine s_iload_n hX dX9_singFrom_77 rfl ?_
    refine s_icmp_gt (tgt := 125) hX dX9_singFrom_78 (by decide) (fun c => ?_) (fun c => ?_)
    · replace h := h.1 c
      refine s_mask [false, false, false, false, true] (lv' := [none, none, none, none, none]) rfl rfl ?_
      exact hK _ h
    · replace h := h.2 c
      refine s_aload_n hX dX9_singFrom_81 rfl ?_
      refine s_getr hX fi_X9_9 ly_c_songs rfl dX9_singFrom_82 ?_
      refine s_iload_n hX dX9_singFrom_85 rfl ?_
      refine s_iload_n hX dX9_singFrom_86 rfl ?_
      have hi := h.1
      replace h := h.2
      refine s_iast hX ly_c_songs_row hi dX9_singFrom_87 ?_
      refine s_aload_n hX dX9_singFrom_88 rfl ?_
      refine s_iload_n hX dX9_singFrom_89 rfl ?_
      refine s_iload_n hX dX9_singFrom_90 rfl ?_
      refine s_cvi (as := [vi l1, vi l3]) (rest := []) hX (c_Songs_pay h) mv_Songs_pay wd_ml_X9_107 dX9_singFrom_91 ly_c_songs rfl rfl (Nat.le_of_ble_eq_true rfl) rfl (by omega) ⟨Nat.zero_le _, Nat.zero_le _⟩ (fun b528_ M527 h => ?_)
      obtain ⟨b528, rfl, h⟩ := h
      refine s_istore (lv' := [some (vr c_songs), some (vi l1), some (vi l2), some (vi l3), some (vi (b2i b528))]) hX dX9_singFrom_94 rfl rfl (Nat.le_of_ble_eq_true rfl) ?_
      refine s_iload hX dX9_singFrom_96 rfl ?_
      refine s_if_eq (tgt := 113) hX dX9_singFrom_98 (by decide) (fun c => ?_) (fun c => ?_)
      · replace h := h.1 (b2i_0 c)
        refine s_mask [true, true, true, true, false] (lv' := [some (vr c_songs), some (vi l1), some (vi l2), some (vi l3), none]) rfl rfl ?_
        exact t_Songs_singFrom_j113 hX hq hlv0 hr_Songs_singFrom (fun _ _ h => ih _ _ h) hK h
      · replace h := h.2 (b2i_1 c)
        refine s_aload_n hX dX9_singFrom_101 rfl ?_
        refine s_iload_n hX dX9_singFrom_102 rfl ?_
        refine s_iconst (v := 1) hX dX9_singFrom_103 rfl ?_
        refine s_iadd hX dX9_singFrom_104 ?_
        refine s_cvi (as := [vi (l1 + 1)]) (rest := []) hX (hr_Songs_singFrom _ _ _ h) mv_Songs_singFrom wd_ml_X9_59 dX9_singFrom_105 ly_c_songs rfl rfl (Nat.le_of_ble_eq_true rfl) rfl (Nat.lt_succ_self _) ⟨Nat.zero_le _, Nat.zero_le _⟩ (fun b535_ M534 h => ?_)
        obtain ⟨b535, rfl, h⟩ := h
        refine s_if_eq (tgt := 113) hX dX9_singFrom_108 (by decide) (fun c => ?_) (fun c => ?_)
        · replace h := h.1 (b2i_0 c)
          refine s_mask [true, true, true, true, false] (lv' := [some (vr c_songs), some (vi l1), some (vi l2), some (vi l3), none]) rfl rfl ?_
          exact t_Songs_singFrom_j113 hX hq hlv0 hr_Songs_singFrom (fun _ _ h => ih _ _ h) hK h
        · replace h := h.2 (b2i_1 c)
          refine s_iconst (v := 1) hX dX9_singFrom_111 rfl ?_
          exact s_zret hX true hq rfl dX9_singFrom_112 rfl h
def w_Songs_singFrom_j30 (r_Songs_singFrom : Int32 → Mem → (Bool → Mem → Prop) → Prop) (l2 : Int32) (s1 : Int32) (s2 : Int32) (M : Mem) (Q : Bool → Mem → Prop) : Prop :=
  ((l2 = 0 → Q false (si M c_songs Songs_found (s1 + s2))) ∧ (¬ l2 = 0 → (∃ bb : Bool, (if ((s1 + s2) - 1) = (M.1 c_songs Songs_wanted) then (1 : Int32) else 0) = b2i bb ∧ Q bb (si M c_songs Songs_found (s1 + s2)))))
set_option maxHeartbeats 4000000 in
theorem t_Songs_singFrom_j30 {lv0 : Nat} {X : Cx} (hX : Cok X cX9_singFrom RX9 5 ((some .boolean)) (lv0 + 1) 0 0) {Q : Bool → Mem → Prop} (hq : RI X 0 0 LY (bQ Q)) {r_Songs_singFrom : Int32 → Mem → (Bool → Mem → Prop) → Prop} (hlv0 : 2 ≤ lv0) (hr_Songs_singFrom : ∀ (a0 : Int32) M Q, r_Songs_singFrom a0 M Q → CI yX9_singFrom cX9_singFrom 5 ((some .boolean)) lv0 0 0 LY LY [vr c_songs, vi a0] M (bQ Q)) {l2 : Int32} {s1 : Int32} {s2 : Int32} {M : Mem} (h : w_Songs_singFrom_j30 r_Songs_singFrom l2 s1 s2 M Q) : Wat X 0 0 LY 30 [some (vr c_songs), none, some (vi l2), none, none] [vi s2, vi s1, vr c_songs] M := by
  refine s_iadd hX dX9_singFrom_30 ?_
  refine s_puti hX fi_X9_37 fp_X9 rfl (by decide +kernel) ly_c_songs rfl dX9_singFrom_31 ?_
  refine s_iload_n hX dX9_singFrom_34 rfl ?_
  refine s_if_eq (tgt := 55) hX dX9_singFrom_35 (by decide) (fun c => ?_) (fun c => ?_)
  · replace h := h.1 c
    refine s_iconst (v := 0) hX dX9_singFrom_55 rfl ?_
    exact s_zret hX false hq rfl dX9_singFrom_56 rfl h
  · replace h := h.2 c
    refine s_aload_n hX dX9_singFrom_38 rfl ?_
    refine s_getiv (v := (s1 + s2)) hX fi_X9_37 ly_c_songs rfl dX9_singFrom_39 rfl ?_
    refine s_iconst (v := 1) hX dX9_singFrom_42 rfl ?_
    refine s_isub hX dX9_singFrom_43 ?_
    refine s_aload_n hX dX9_singFrom_44 rfl ?_
    refine s_getiv (v := (M.1 c_songs Songs_wanted)) hX fi_X9_56 ly_c_songs rfl dX9_singFrom_45 rfl ?_
    have hJ : Wat X 0 0 LY 56 [some (vr c_songs), none, some (vi l2), none, none] [vi (if ((s1 + s2) - 1) = (M.1 c_songs Songs_wanted) then (1 : Int32) else 0)] (si M c_songs Songs_found (s1 + s2)) := by
      obtain ⟨bb, hbb, h⟩ := h
      exact s_zret hX bb hq rfl dX9_singFrom_56 hbb h
    refine s_icmp_ne (tgt := 55) hX dX9_singFrom_48 (by decide) (fun c => ?_) (fun c => ?_)
    · rw [if_neg c] at hJ
      refine s_iconst (v := 0) hX dX9_singFrom_55 rfl ?_
      exact hJ
    · rw [if_pos c] at hJ
      refine s_iconst (v := 1) hX dX9_singFrom_51 rfl ?_
      refine s_goto (tgt := 56) hX dX9_singFrom_52 (by decide) ?_
      exact hJ
def w_Songs_singFrom_body (r_Songs_singFrom : Int32 → Mem → (Bool → Mem → Prop) → Prop) (a0 : Int32) (M : Mem) (Q : Bool → Mem → Prop) : Prop :=
  ((a0 < (M.1 c_land Land_birds) → w_Deeds_isShot a0 M (fun b519 M518 => ∀ x520 : Int32, x520 = (if b519 = true then (0 : Int32) else 5) → (∃ n537, w_Songs_singFrom_L76 r_Songs_singFrom a0 x520 (fun M536 => Q false M536) Q n537 0 M518))) ∧ (¬ a0 < (M.1 c_land Land_birds) → w_Songs_isAllPaid M (fun b541 M540 => w_Songs_singFrom_j30 r_Songs_singFrom (b2i b541) (M540.1 c_songs Songs_found) (if b541 = true then (1 : Int32) else 0) M540 Q)))
set_option maxHeartbeats 4000000 in
theorem t_Songs_singFrom {lv0 : Nat} {X : Cx} (hX : Cok X cX9_singFrom RX9 5 ((some .boolean)) (lv0 + 1) 0 0) {Q : Bool → Mem → Prop} (hq : RI X 0 0 LY (bQ Q)) {r_Songs_singFrom : Int32 → Mem → (Bool → Mem → Prop) → Prop} (hlv0 : 2 ≤ lv0) (hr_Songs_singFrom : ∀ (a0 : Int32) M Q, r_Songs_singFrom a0 M Q → CI yX9_singFrom cX9_singFrom 5 ((some .boolean)) lv0 0 0 LY LY [vr c_songs, vi a0] M (bQ Q)) {M : Mem} {a0 : Int32} (h : w_Songs_singFrom_body r_Songs_singFrom  a0 M Q) : Wat X 0 0 LY 0 [some (vr c_songs), some (vi a0), none, none, none] [] M := by
  refine s_iload_n hX dX9_singFrom_0 rfl ?_
  refine s_aload_n hX dX9_singFrom_1 rfl ?_
  refine s_getr hX fi_X9_21 ly_c_songs rfl dX9_singFrom_2 ?_
  refine s_getiv (v := (M.1 c_land Land_birds)) hX fi_X9_68 ly_c_land rfl dX9_singFrom_5 rfl ?_
  refine s_icmp_lt (tgt := 57) hX dX9_singFrom_8 (by decide) (fun c => ?_) (fun c => ?_)
  · replace h := h.1 c
    refine s_aload_n hX dX9_singFrom_57 rfl ?_
    refine s_getr hX fi_X9_25 ly_c_songs rfl dX9_singFrom_58 ?_
    refine s_iload_n hX dX9_singFrom_61 rfl ?_
    refine s_cvi (as := [vi a0]) (rest := []) hX (c_Deeds_isShot h) mv_Deeds_isShot wd_ml_X9_104 dX9_singFrom_62 ly_c_deeds rfl rfl (Nat.le_of_ble_eq_true rfl) rfl (by omega) ⟨Nat.zero_le _, Nat.zero_le _⟩ (fun b519_ M518 h => ?_)
    obtain ⟨b519, rfl, h⟩ := h
    have hJ : Wat X 0 0 LY 73 [some (vr c_songs), some (vi a0), none, none, none] [vi (if b519 = true then (0 : Int32) else 5)] M518 := by
      refine s_nmi (fun x520 ex520 => ?_)
      replace h := h x520 ex520
      refine s_istore_n (lv' := [some (vr c_songs), some (vi a0), some (vi x520), none, none]) hX dX9_singFrom_73 rfl rfl (Nat.le_of_ble_eq_true rfl) ?_
      refine s_iconst (v := 0) hX dX9_singFrom_74 rfl ?_
      refine s_istore_n (lv' := [some (vr c_songs), some (vi a0), some (vi x520), some (vi 0), none]) hX dX9_singFrom_75 rfl rfl (Nat.le_of_ble_eq_true rfl) ?_
      obtain ⟨n537, h⟩ := h
      refine t_Songs_singFrom_L76 hX hq hlv0 hr_Songs_singFrom ?_ n537 _ _ h
      intro M536 h
      refine s_iconst (v := 0) hX dX9_singFrom_125 rfl ?_
      exact s_zret hX false hq rfl dX9_singFrom_126 rfl h
    refine s_if_eq (tgt := 72) hX dX9_singFrom_65 (by decide) (fun c => ?_) (fun c => ?_)
    · rw [if_neg (by simp [b2i_0 c])] at hJ
      refine s_iconst (v := 5) hX dX9_singFrom_72 rfl ?_
      exact hJ
    · rw [if_pos (by simp [b2i_1 c])] at hJ
      refine s_iconst (v := 0) hX dX9_singFrom_68 rfl ?_
      refine s_goto (tgt := 73) hX dX9_singFrom_69 (by decide) ?_
      exact hJ
  · replace h := h.2 c
    refine s_aload_n hX dX9_singFrom_11 rfl ?_
    refine s_cvi (as := []) (rest := []) hX (c_Songs_isAllPaid h) mv_Songs_isAllPaid wd_ml_X9_100 dX9_singFrom_12 ly_c_songs rfl rfl (Nat.le_of_ble_eq_true rfl) rfl (by omega) ⟨Nat.zero_le _, Nat.zero_le _⟩ (fun b541_ M540 h => ?_)
    obtain ⟨b541, rfl, h⟩ := h
    refine s_istore_n (lv' := [some (vr c_songs), some (vi a0), some (vi (b2i b541)), none, none]) hX dX9_singFrom_15 rfl rfl (Nat.le_of_ble_eq_true rfl) ?_
    refine s_aload_n hX dX9_singFrom_16 rfl ?_
    refine s_dup hX dX9_singFrom_17 rfl ?_
    refine s_getiv (v := (M540.1 c_songs Songs_found)) hX fi_X9_37 ly_c_songs rfl dX9_singFrom_18 rfl ?_
    refine s_iload_n hX dX9_singFrom_21 rfl ?_
    have hJ : Wat X 0 0 LY 30 [some (vr c_songs), some (vi a0), some (vi (b2i b541)), none, none] [vi (if b541 = true then (1 : Int32) else 0), vi (M540.1 c_songs Songs_found), vr c_songs] M540 := by
      refine s_mask [true, false, true, true, true] (lv' := [some (vr c_songs), none, some (vi (b2i b541)), none, none]) rfl rfl ?_
      exact t_Songs_singFrom_j30 hX hq hlv0 hr_Songs_singFrom h
    refine s_if_eq (tgt := 29) hX dX9_singFrom_22 (by decide) (fun c => ?_) (fun c => ?_)
    · rw [if_neg (by simp [b2i_0 c])] at hJ
      refine s_iconst (v := 0) hX dX9_singFrom_29 rfl ?_
      exact hJ
    · rw [if_pos (by simp [b2i_1 c])] at hJ
      refine s_iconst (v := 1) hX dX9_singFrom_25 rfl ?_
      refine s_goto (tgt := 30) hX dX9_singFrom_26 (by decide) ?_
      exact hJ
def wg_Songs_singFrom : Nat → (Int32 → Mem → (Bool → Mem → Prop) → Prop)
  | 0 => (fun _ _ _ => False)
  | n + 1 => (fun a0 M Q => w_Songs_singFrom_body (wg_Songs_singFrom n) a0 M Q)
def w_Songs_singFrom (n : Nat) (a0 : Int32) (M : Mem) (Q : Bool → Mem → Prop) : Prop := wg_Songs_singFrom n a0 M Q
theorem cg_Songs_singFrom : ∀ n : Nat, (∀ (a0 : Int32) M Q, w_Songs_singFrom n a0 M Q → CI yX9_singFrom cX9_singFrom 5 ((some .boolean)) (2 + n) 0 0 LY LY [vr c_songs, vi a0] M (bQ Q)) := by
  intro n
  induction n with
  | zero => exact fun _ _ _ h => h.elim
  | succ n ih => exact fun a0 M Q h => mk_i rfl wd_co_X9_singFrom rfl rfl (Nat.le_of_ble_eq_true rfl) (fun X hX hq => t_Songs_singFrom hX hq (Nat.le_add_right 2 n) (ih) h)
theorem c_Songs_singFrom (n : Nat) {a0 : Int32} {M : Mem} {Q : Bool → Mem → Prop} (h : w_Songs_singFrom n a0 M Q) : CI yX9_singFrom cX9_singFrom 5 ((some .boolean)) (2 + n) 0 0 LY LY [vr c_songs, vi a0] M (bQ Q) := (cg_Songs_singFrom n) _ _ _ h
def w_Songs_findRow (a0 : Int32) (a1 : Int32) (M : Mem) (Q : Bool → Mem → Prop) : Prop :=
  w_Songs_findPrices a0 M (fun M517 => (∃ n544, n544 ≤ 64 ∧ w_Songs_singFrom n544 0 (si (si (sa M517 c_songs_left (va_cpy (M517.1 c_deeds_debt) (M517.1 c_songs_left) (Int32.toNatClampNeg 0) (Int32.toNatClampNeg 0) (Int32.toNatClampNeg 6))) c_songs Songs_found 0) c_songs Songs_wanted a1) (fun b543 M542 => Q b543 M542)))
set_option maxHeartbeats 4000000 in
theorem t_Songs_findRow {X : Cx} (hX : Cok X cX9_findRow RX9 3 ((some .boolean)) 67 0 0) {Q : Bool → Mem → Prop} (hq : RI X 0 0 LY (bQ Q)) {M : Mem} {a0 : Int32} {a1 : Int32} (h : w_Songs_findRow a0 a1 M Q) : Wat X 0 0 LY 0 [some (vr c_songs), some (vi a0), some (vi a1)] [] M := by
  refine s_aload_n hX dX9_findRow_0 rfl ?_
  refine s_iload_n hX dX9_findRow_1 rfl ?_
  refine s_cvv (as := [vi a0]) (rest := []) hX (c_Songs_findPrices h) mv_Songs_findPrices wd_ml_X9_41 dX9_findRow_2 ly_c_songs rfl rfl (Nat.le_of_ble_eq_true rfl) rfl (by decide) ⟨Nat.zero_le _, Nat.zero_le _⟩ (fun M517 h => ?_)
  refine s_aload_n hX dX9_findRow_5 rfl ?_
  refine s_getr hX fi_X9_25 ly_c_songs rfl dX9_findRow_6 ?_
  refine s_getr hX fi_X9_45 ly_c_deeds rfl dX9_findRow_9 ?_
  refine s_iconst (v := 0) hX dX9_findRow_12 rfl ?_
  refine s_aload_n hX dX9_findRow_13 rfl ?_
  refine s_getr hX fi_X9_18 ly_c_songs rfl dX9_findRow_14 ?_
  refine s_iconst (v := 0) hX dX9_findRow_17 rfl ?_
  refine s_bipush (v := 6) hX dX9_findRow_18 rfl ?_
  refine s_acopy hX ly_c_deeds_debt ly_c_songs_left wd_ml_X9_50 rfl (by decide) (Nat.le_of_ble_eq_true rfl) (by decide) (by decide) (by decide) (by decide) (by decide) dX9_findRow_20 ?_
  refine s_aload_n hX dX9_findRow_23 rfl ?_
  refine s_iconst (v := 0) hX dX9_findRow_24 rfl ?_
  refine s_puti hX fi_X9_37 fp_X9 rfl (by decide +kernel) ly_c_songs rfl dX9_findRow_25 ?_
  refine s_aload_n hX dX9_findRow_28 rfl ?_
  refine s_iload_n hX dX9_findRow_29 rfl ?_
  refine s_puti hX fi_X9_56 fp_X9 rfl (by decide +kernel) ly_c_songs rfl dX9_findRow_30 ?_
  refine s_aload_n hX dX9_findRow_33 rfl ?_
  refine s_iconst (v := 0) hX dX9_findRow_34 rfl ?_
  obtain ⟨n544, hn, h⟩ := h
  refine s_cvi (as := [vi 0]) (rest := []) hX (c_Songs_singFrom n544 h) mv_Songs_singFrom wd_ml_X9_59 dX9_findRow_35 ly_c_songs rfl rfl (Nat.le_of_ble_eq_true rfl) rfl (by omega) ⟨Nat.zero_le _, Nat.zero_le _⟩ (fun b543_ M542 h => ?_)
  obtain ⟨b543, rfl, h⟩ := h
  exact s_zret hX _ hq rfl dX9_findRow_38 rfl h
theorem c_Songs_findRow {a0 : Int32} {a1 : Int32} {M : Mem} {Q : Bool → Mem → Prop} (h : w_Songs_findRow a0 a1 M Q) : CI yX9_findRow cX9_findRow 3 ((some .boolean)) 67 0 0 LY LY [vr c_songs, vi a0, vi a1] M (bQ Q) := mk_i rfl wd_co_X9_findRow rfl rfl (Nat.le_of_ble_eq_true rfl) (fun X hX hq => t_Songs_findRow hX hq h)
theorem mv_Songs_findRow : MV yX9_findRow cX9_findRow 3 ((some .boolean)) RX9 2 := ⟨wd_co_X9_findRow, wd_im_X9_findRow, wd_se_X9_findRow, wd_in_X9, by decide +kernel, by decide⟩
