def w_Mo_netted_L18 (K : Int32 → Mem → Prop) (Q : Int32 → Mem → Prop) : Nat → Int32 → Int32 → Mem → Prop
  | 0, _, _, _ => False
  | n + 1, l1, l2, M => w_Mo_persons M (fun r1151 M1150 => ((r1151 ≤ l2 → K l1 M1150) ∧ (¬ r1151 ≤ l2 → w_Mo_balanceOf l2 M1150 (fun r1153 M1152 => ((r1153 ≤ 0 → w_Mo_netted_L18 K Q n (l1 + 0) (l2 + 1) M1152) ∧ (¬ r1153 ≤ 0 → w_Mo_balanceOf l2 M1152 (fun r1155 M1154 => w_Mo_netted_L18 K Q n (l1 + r1155) (l2 + 1) M1154)))))))
set_option maxHeartbeats 4000000 in
theorem t_Mo_netted_L18 {X : Cx} (hX : Cok X cX12_netted RX12 3 ((some .int)) 7 0 0) {Q : Int32 → Mem → Prop} (hq : RI X 0 0 LY Q) {K : Int32 → Mem → Prop} (hK : ∀ (l1 : Int32) (M : Mem), K l1 M → Wat X 0 0 LY 52 [none, some (vi l1), none] [] M) : ∀ (n : Nat) (l1 : Int32) (l2 : Int32) (M : Mem), w_Mo_netted_L18 K Q n l1 l2 M → Wat X 0 0 LY 18 [some (vr c_mo), some (vi l1), some (vi l2)] [] M := by
  intro n
  induction n with
  | zero => intro _ _ _ h; exact h.elim
  | succ n ih =>
    intro l1 l2 M h
    refine s_iload_n hX dX12_netted_18 rfl ?_
    refine s_aload_n hX dX12_netted_19 rfl ?_
    refine s_cvi (as := []) (rest := [vi l2]) hX (c_Mo_persons h) mv_Mo_persons wd_ml_X12_226 dX12_netted_20 ly_c_mo rfl rfl (Nat.le_of_ble_eq_true rfl) rfl (by decide) ⟨Nat.zero_le _, Nat.zero_le _⟩ (fun r1151 M1150 h => ?_)
    refine s_icmp_ge (tgt := 52) hX dX12_netted_23 (by decide) (fun c => ?_) (fun c => ?_)
    · replace h := h.1 c
      refine s_mask [false, true, false] (lv' := [none, some (vi l1), none]) rfl rfl ?_
      exact hK _ _ h
    · replace h := h.2 c
      refine s_iload_n hX dX12_netted_26 rfl ?_
      refine s_aload_n hX dX12_netted_27 rfl ?_
      refine s_iload_n hX dX12_netted_28 rfl ?_
      refine s_cvi (as := [vi l2]) (rest := [vi l1]) hX (c_Mo_balanceOf h) mv_Mo_balanceOf wd_ml_X12_367 dX12_netted_29 ly_c_mo rfl rfl (Nat.le_of_ble_eq_true rfl) rfl (by decide) ⟨Nat.zero_le _, Nat.zero_le _⟩ (fun r1153 M1152 h => ?_)
      refine s_if_le (tgt := 43) hX dX12_netted_32 (by decide) (fun c => ?_) (fun c => ?_)
      · replace h := h.1 c
        refine s_iconst (v := 0) hX dX12_netted_43 rfl ?_
        refine s_iadd hX dX12_netted_44 ?_
        refine s_istore_n (lv' := [some (vr c_mo), some (vi (l1 + 0)), some (vi l2)]) hX dX12_netted_45 rfl rfl (Nat.le_of_ble_eq_true rfl) ?_
        refine s_iinc (v := (l2 + 1)) (lv' := [some (vr c_mo), some (vi (l1 + 0)), some (vi (l2 + 1))]) hX dX12_netted_46 rfl rfl rfl rfl ?_
        refine s_goto (tgt := 18) hX dX12_netted_49 (by decide) ?_
        exact ih _ _ _ h
      · replace h := h.2 c
        refine s_aload_n hX dX12_netted_35 rfl ?_
        refine s_iload_n hX dX12_netted_36 rfl ?_
        refine s_cvi (as := [vi l2]) (rest := [vi l1]) hX (c_Mo_balanceOf h) mv_Mo_balanceOf wd_ml_X12_367 dX12_netted_37 ly_c_mo rfl rfl (Nat.le_of_ble_eq_true rfl) rfl (by decide) ⟨Nat.zero_le _, Nat.zero_le _⟩ (fun r1155 M1154 h => ?_)
        refine s_goto (tgt := 44) hX dX12_netted_40 (by decide) ?_
        refine s_iadd hX dX12_netted_44 ?_
        refine s_istore_n (lv' := [some (vr c_mo), some (vi (l1 + r1155)), some (vi l2)]) hX dX12_netted_45 rfl rfl (Nat.le_of_ble_eq_true rfl) ?_
        refine s_iinc (v := (l2 + 1)) (lv' := [some (vr c_mo), some (vi (l1 + r1155)), some (vi (l2 + 1))]) hX dX12_netted_46 rfl rfl rfl rfl ?_
        refine s_goto (tgt := 18) hX dX12_netted_49 (by decide) ?_
        exact ih _ _ _ h
def w_Mo_netted (M : Mem) (Q : Int32 → Mem → Prop) : Prop :=
  w_Mo_standsAsTold (si M c_mo Mo_thrown 0) (fun M1148 => w_Mo_findOwes 0 M1148 (fun M1149 => (∃ n1158, w_Mo_netted_L18 (fun y1157 M1156 => Q y1157 M1156) Q n1158 0 0 M1149)))
set_option maxHeartbeats 4000000 in
theorem t_Mo_netted {X : Cx} (hX : Cok X cX12_netted RX12 3 ((some .int)) 7 0 0) {Q : Int32 → Mem → Prop} (hq : RI X 0 0 LY Q) {M : Mem} (h : w_Mo_netted M Q) : Wat X 0 0 LY 0 [some (vr c_mo), none, none] [] M := by
  refine s_aload_n hX dX12_netted_0 rfl ?_
  refine s_iconst (v := 0) hX dX12_netted_1 rfl ?_
  refine s_puti hX fi_X12_1 fp_X12 rfl (by decide +kernel) ly_c_mo rfl dX12_netted_2 ?_
  refine s_aload_n hX dX12_netted_5 rfl ?_
  refine s_cvv (as := []) (rest := []) hX (c_Mo_standsAsTold h) mv_Mo_standsAsTold wd_ml_X12_314 dX12_netted_6 ly_c_mo rfl rfl (Nat.le_of_ble_eq_true rfl) rfl (by decide) ⟨Nat.zero_le _, Nat.zero_le _⟩ (fun M1148 h => ?_)
  refine s_aload_n hX dX12_netted_9 rfl ?_
  refine s_iconst (v := 0) hX dX12_netted_10 rfl ?_
  refine s_cvv (as := [vi 0]) (rest := []) hX (c_Mo_findOwes h) mv_Mo_findOwes wd_ml_X12_364 dX12_netted_11 ly_c_mo rfl rfl (Nat.le_of_ble_eq_true rfl) rfl (by decide) ⟨Nat.zero_le _, Nat.zero_le _⟩ (fun M1149 h => ?_)
  refine s_iconst (v := 0) hX dX12_netted_14 rfl ?_
  refine s_istore_n (lv' := [some (vr c_mo), some (vi 0), none]) hX dX12_netted_15 rfl rfl (Nat.le_of_ble_eq_true rfl) ?_
  refine s_iconst (v := 0) hX dX12_netted_16 rfl ?_
  refine s_istore_n (lv' := [some (vr c_mo), some (vi 0), some (vi 0)]) hX dX12_netted_17 rfl rfl (Nat.le_of_ble_eq_true rfl) ?_
  obtain ⟨n1158, h⟩ := h
  refine t_Mo_netted_L18 hX hq ?_ n1158 _ _ _ h
  intro y1157 M1156 h
  refine s_iload_n hX dX12_netted_52 rfl ?_
  exact s_iret hX hq rfl dX12_netted_53 h
theorem c_Mo_netted {M : Mem} {Q : Int32 → Mem → Prop} (h : w_Mo_netted M Q) : CI yX12_netted cX12_netted 3 ((some .int)) 7 0 0 LY LY [vr c_mo] M Q := mk_i rfl wd_co_X12_netted rfl rfl (Nat.le_of_ble_eq_true rfl) (fun X hX hq => t_Mo_netted hX hq h)
theorem mv_Mo_netted : MV yX12_netted cX12_netted 3 ((some .int)) RX12 0 := ⟨wd_co_X12_netted, wd_im_X12_netted, wd_se_X12_netted, wd_in_X12, by decide +kernel, by decide⟩
def w_Mo_without_j30 (l1 : Int32) (l2 : Int32) (s1 : Int32) (M : Mem) (Q : Int32 → Mem → Prop) : Prop :=
  ((s1 ≤ 0 → w_Mo_standsAsTold (si M c_mo Mo_thrown s1) (fun M1161 => w_Mo_findOwes 0 M1161 (fun M1162 => w_Mo_balanceOf l2 M1162 (fun r1164 M1163 => w_Mo_findOwes (1 <<< (l1 &&& 31)) M1163 (fun M1165 => w_Mo_balanceOf l2 M1165 (fun r1167 M1166 => Q (r1167 - r1164) M1166)))))) ∧ (¬ s1 ≤ 0 → Q 0 (si M c_mo Mo_thrown s1)))
set_option maxHeartbeats 4000000 in
theorem t_Mo_without_j30 {X : Cx} (hX : Cok X cX12_without RX12 4 ((some .int)) 7 0 0) {Q : Int32 → Mem → Prop} (hq : RI X 0 0 LY Q) {l1 : Int32} {l2 : Int32} {s1 : Int32} {M : Mem} (h : w_Mo_without_j30 l1 l2 s1 M Q) : Wat X 0 0 LY 30 [some (vr c_mo), some (vi l1), some (vi l2), none] [vi s1, vr c_mo] M := by
  refine s_puti hX fi_X12_1 fp_X12 rfl (by decide +kernel) ly_c_mo rfl dX12_without_30 ?_
  refine s_aload_n hX dX12_without_33 rfl ?_
  refine s_getiv (v := s1) hX fi_X12_1 ly_c_mo rfl dX12_without_34 rfl ?_
  refine s_if_le (tgt := 42) hX dX12_without_37 (by decide) (fun c => ?_) (fun c => ?_)
  · replace h := h.1 c
    refine s_aload_n hX dX12_without_42 rfl ?_
    refine s_cvv (as := []) (rest := []) hX (c_Mo_standsAsTold h) mv_Mo_standsAsTold wd_ml_X12_314 dX12_without_43 ly_c_mo rfl rfl (Nat.le_of_ble_eq_true rfl) rfl (by decide) ⟨Nat.zero_le _, Nat.zero_le _⟩ (fun M1161 h => ?_)
    refine s_aload_n hX dX12_without_46 rfl ?_
    refine s_iconst (v := 0) hX dX12_without_47 rfl ?_
    refine s_cvv (as := [vi 0]) (rest := []) hX (c_Mo_findOwes h) mv_Mo_findOwes wd_ml_X12_364 dX12_without_48 ly_c_mo rfl rfl (Nat.le_of_ble_eq_true rfl) rfl (by decide) ⟨Nat.zero_le _, Nat.zero_le _⟩ (fun M1162 h => ?_)
    refine s_aload_n hX dX12_without_51 rfl ?_
    refine s_iload_n hX dX12_without_52 rfl ?_
    refine s_cvi (as := [vi l2]) (rest := []) hX (c_Mo_balanceOf h) mv_Mo_balanceOf wd_ml_X12_367 dX12_without_53 ly_c_mo rfl rfl (Nat.le_of_ble_eq_true rfl) rfl (by decide) ⟨Nat.zero_le _, Nat.zero_le _⟩ (fun r1164 M1163 h => ?_)
    refine s_istore_n (lv' := [some (vr c_mo), some (vi l1), some (vi l2), some (vi r1164)]) hX dX12_without_56 rfl rfl (Nat.le_of_ble_eq_true rfl) ?_
    refine s_aload_n hX dX12_without_57 rfl ?_
    refine s_iconst (v := 1) hX dX12_without_58 rfl ?_
    refine s_iload_n hX dX12_without_59 rfl ?_
    refine s_ishl hX dX12_without_60 ?_
    refine s_cvv (as := [vi (1 <<< (l1 &&& 31))]) (rest := []) hX (c_Mo_findOwes h) mv_Mo_findOwes wd_ml_X12_364 dX12_without_61 ly_c_mo rfl rfl (Nat.le_of_ble_eq_true rfl) rfl (by decide) ⟨Nat.zero_le _, Nat.zero_le _⟩ (fun M1165 h => ?_)
    refine s_aload_n hX dX12_without_64 rfl ?_
    refine s_iload_n hX dX12_without_65 rfl ?_
    refine s_cvi (as := [vi l2]) (rest := []) hX (c_Mo_balanceOf h) mv_Mo_balanceOf wd_ml_X12_367 dX12_without_66 ly_c_mo rfl rfl (Nat.le_of_ble_eq_true rfl) rfl (by decide) ⟨Nat.zero_le _, Nat.zero_le _⟩ (fun r1167 M1166 h => ?_)
    refine s_iload_n hX dX12_without_69 rfl ?_
    refine s_isub hX dX12_without_70 ?_
    exact s_iret hX hq rfl dX12_without_71 h
  · replace h := h.2 c
    refine s_iconst (v := 0) hX dX12_without_40 rfl ?_
    exact s_iret hX hq rfl dX12_without_41 h
def w_Mo_without_j29 (l1 : Int32) (l2 : Int32) (M : Mem) (Q : Int32 → Mem → Prop) : Prop :=
  w_Mo_without_j30 l1 l2 1 M Q
set_option maxHeartbeats 4000000 in
theorem t_Mo_without_j29 {X : Cx} (hX : Cok X cX12_without RX12 4 ((some .int)) 7 0 0) {Q : Int32 → Mem → Prop} (hq : RI X 0 0 LY Q) {l1 : Int32} {l2 : Int32} {M : Mem} (h : w_Mo_without_j29 l1 l2 M Q) : Wat X 0 0 LY 29 [some (vr c_mo), some (vi l1), some (vi l2), none] [vr c_mo] M := by
  refine s_iconst (v := 1) hX dX12_without_29 rfl ?_
  exact t_Mo_without_j30 hX hq h
def w_Mo_without (a0 : Int32) (a1 : Int32) (M : Mem) (Q : Int32 → Mem → Prop) : Prop :=
  w_Mo_isBird a0 M (fun b1160 M1159 => ((b1160 = false → w_Mo_without_j29 a0 a1 M1159 Q) ∧ (b1160 = true → w_Mo_isPerson a1 M1159 (fun b1169 M1168 => ((b1169 = false → w_Mo_without_j29 a0 a1 M1168 Q) ∧ (b1169 = true → w_Mo_isShot a0 M1168 (fun b1171 M1170 => w_Mo_without_j30 a0 a1 (if b1171 = true then (1 : Int32) else 0) M1170 Q)))))))
set_option maxHeartbeats 4000000 in
theorem t_Mo_without {X : Cx} (hX : Cok X cX12_without RX12 4 ((some .int)) 7 0 0) {Q : Int32 → Mem → Prop} (hq : RI X 0 0 LY Q) {M : Mem} {a0 : Int32} {a1 : Int32} (h : w_Mo_without a0 a1 M Q) : Wat X 0 0 LY 0 [some (vr c_mo), some (vi a0), some (vi a1), none] [] M := by
  refine s_aload_n hX dX12_without_0 rfl ?_
  refine s_aload_n hX dX12_without_1 rfl ?_
  refine s_iload_n hX dX12_without_2 rfl ?_
  refine s_cvi (as := [vi a0]) (rest := [vr c_mo]) hX (c_Mo_isBird h) mv_Mo_isBird wd_ml_X12_361 dX12_without_3 ly_c_mo rfl rfl (Nat.le_of_ble_eq_true rfl) rfl (by decide) ⟨Nat.zero_le _, Nat.zero_le _⟩ (fun b1160_ M1159 h => ?_)
  obtain ⟨b1160, rfl, h⟩ := h
  refine s_if_eq (tgt := 29) hX dX12_without_6 (by decide) (fun c => ?_) (fun c => ?_)
  · replace h := h.1 (b2i_0 c)
    exact t_Mo_without_j29 hX hq h
  · replace h := h.2 (b2i_1 c)
    refine s_aload_n hX dX12_without_9 rfl ?_
    refine s_iload_n hX dX12_without_10 rfl ?_
    refine s_cvi (as := [vi a1]) (rest := [vr c_mo]) hX (c_Mo_isPerson h) mv_Mo_isPerson wd_ml_X12_352 dX12_without_11 ly_c_mo rfl rfl (Nat.le_of_ble_eq_true rfl) rfl (by decide) ⟨Nat.zero_le _, Nat.zero_le _⟩ (fun b1169_ M1168 h => ?_)
    obtain ⟨b1169, rfl, h⟩ := h
    refine s_if_eq (tgt := 29) hX dX12_without_14 (by decide) (fun c => ?_) (fun c => ?_)
    · replace h := h.1 (b2i_0 c)
      exact t_Mo_without_j29 hX hq h
    · replace h := h.2 (b2i_1 c)
      refine s_aload_n hX dX12_without_17 rfl ?_
      refine s_iload_n hX dX12_without_18 rfl ?_
      refine s_cvi (as := [vi a0]) (rest := [vr c_mo]) hX (c_Mo_isShot h) mv_Mo_isShot wd_ml_X12_342 dX12_without_19 ly_c_mo rfl rfl (Nat.le_of_ble_eq_true rfl) rfl (by decide) ⟨Nat.zero_le _, Nat.zero_le _⟩ (fun b1171_ M1170 h => ?_)
      obtain ⟨b1171, rfl, h⟩ := h
      have hJ : Wat X 0 0 LY 30 [some (vr c_mo), some (vi a0), some (vi a1), none] [vi (if b1171 = true then (1 : Int32) else 0), vr c_mo] M1170 := by
        exact t_Mo_without_j30 hX hq h
      refine s_if_ne (tgt := 29) hX dX12_without_22 (by decide) (fun c => ?_) (fun c => ?_)
      · rw [if_pos (by simp [b2i_1 c])] at hJ
        refine s_iconst (v := 1) hX dX12_without_29 rfl ?_
        exact hJ
      · rw [if_neg (by simp [b2i_0 c])] at hJ
        refine s_iconst (v := 0) hX dX12_without_25 rfl ?_
        refine s_goto (tgt := 30) hX dX12_without_26 (by decide) ?_
        exact hJ
theorem c_Mo_without {a0 : Int32} {a1 : Int32} {M : Mem} {Q : Int32 → Mem → Prop} (h : w_Mo_without a0 a1 M Q) : CI yX12_without cX12_without 4 ((some .int)) 7 0 0 LY LY [vr c_mo, vi a0, vi a1] M Q := mk_i rfl wd_co_X12_without rfl rfl (Nat.le_of_ble_eq_true rfl) (fun X hX hq => t_Mo_without hX hq h)
theorem mv_Mo_without : MV yX12_without cX12_without 4 ((some .int)) RX12 2 := ⟨wd_co_X12_without, wd_im_X12_without, wd_se_X12_without, wd_in_X12, by decide +kernel, by decide⟩
def w_Mo_told (a0 : Int32) (a1 : Int32) (M : Mem) (Q : Bool → Mem → Prop) : Prop :=
  w_Mo_isPerson a0 (si M c_mo Mo_thrown 0) (fun b1173 M1172 => ((b1173 = false → Q false M1172) ∧ (b1173 = true → w_Mo_within a1 (-1) 9999 M1172 (fun b1175 M1174 => ((b1175 = true → (vp_in (121 + a0) 3200 ∧ Q true (si M1174 c_mo_state (Int32.toNatClampNeg (121 + a0)) a1))) ∧ (b1175 = false → Q false M1174))))))
set_option maxHeartbeats 4000000 in
theorem t_Mo_told {X : Cx} (hX : Cok X cX12_told RX12 3 ((some .boolean)) 3 0 0) {Q : Bool → Mem → Prop} (hq : RI X 0 0 LY (bQ Q)) {M : Mem} {a0 : Int32} {a1 : Int32} (h : w_Mo_told a0 a1 M Q) : Wat X 0 0 LY 0 [some (vr c_mo), some (vi a0), some (vi a1)] [] M := by
  refine s_aload_n hX dX12_told_0 rfl ?_
  refine s_iconst (v := 0) hX dX12_told_1 rfl ?_
  refine s_puti hX fi_X12_1 fp_X12 rfl (by decide +kernel) ly_c_mo rfl dX12_told_2 ?_
  refine s_aload_n hX dX12_told_5 rfl ?_
  refine s_iload_n hX dX12_told_6 rfl ?_
  refine s_cvi (as := [vi a0]) (rest := []) hX (c_Mo_isPerson h) mv_Mo_isPerson wd_ml_X12_352 dX12_told_7 ly_c_mo rfl rfl (Nat.le_of_ble_eq_true rfl) rfl (by decide) ⟨Nat.zero_le _, Nat.zero_le _⟩ (fun b1173_ M1172 h => ?_)
  obtain ⟨b1173, rfl, h⟩ := h
  refine s_if_eq (tgt := 24) hX dX12_told_10 (by decide) (fun c => ?_) (fun c => ?_)
  · replace h := h.1 (b2i_0 c)
    refine s_iconst (v := 0) hX dX12_told_24 rfl ?_
    exact s_zret hX false hq rfl dX12_told_25 rfl h
  · replace h := h.2 (b2i_1 c)
    refine s_iload_n hX dX12_told_13 rfl ?_
    refine s_iconst (v := (-1)) hX dX12_told_14 rfl ?_
    refine s_sipush (v := 9999) hX dX12_told_15 rfl ?_
    refine s_csi (as := [vi a1, vi (-1), vi 9999]) (rest := []) hX (c_Mo_within h) ms_Mo_within wd_ml_X12_355 dX12_told_18 rfl (Nat.le_of_ble_eq_true rfl) rfl (by decide) ⟨Nat.zero_le _, Nat.zero_le _⟩ (fun b1175_ M1174 h => ?_)
    obtain ⟨b1175, rfl, h⟩ := h
    refine s_if_ne (tgt := 26) hX dX12_told_21 (by decide) (fun c => ?_) (fun c => ?_)
    · replace h := h.1 (b2i_1 c)
      refine s_aload_n hX dX12_told_26 rfl ?_
      refine s_getr hX fi_X12_115 ly_c_mo rfl dX12_told_27 ?_
      refine s_bipush (v := 121) hX dX12_told_30 rfl ?_
      refine s_iload_n hX dX12_told_32 rfl ?_
      refine s_iadd hX dX12_told_33 ?_
      refine s_iload_n hX dX12_told_34 rfl ?_
      have hi := h.1
      replace h := h.2
      refine s_iast hX ly_c_mo_state hi dX12_told_35 ?_
      refine s_iconst (v := 1) hX dX12_told_36 rfl ?_
      exact s_zret hX true hq rfl dX12_told_37 rfl h
    · replace h := h.2 (b2i_0 c)
      refine s_iconst (v := 0) hX dX12_told_24 rfl ?_
      exact s_zret hX false hq rfl dX12_told_25 rfl h
theorem c_Mo_told {a0 : Int32} {a1 : Int32} {M : Mem} {Q : Bool → Mem → Prop} (h : w_Mo_told a0 a1 M Q) : CI yX12_told cX12_told 3 ((some .boolean)) 3 0 0 LY LY [vr c_mo, vi a0, vi a1] M (bQ Q) := mk_i rfl wd_co_X12_told rfl rfl (Nat.le_of_ble_eq_true rfl) (fun X hX hq => t_Mo_told hX hq h)
theorem mv_Mo_told : MV yX12_told cX12_told 3 ((some .boolean)) RX12 2 := ⟨wd_co_X12_told, wd_im_X12_told, wd_se_X12_told, wd_in_X12, by decide +kernel, by decide⟩
def w_Mo_findHour_j58 (R : Int32 → Mem → Prop) (K : Mem → Prop) (l1 : Int32) (l2 : Int32) (l3 : Int32) (l4 : Int32) (s0 : Int32) (M : Mem) (Q : Mem → Prop) : Prop :=
  ((0 ≤ s0 → w_Mo_pence l2 l1 l4 s0 l3 M (fun r1184 M1183 => (vp_in (((36 * l2) + (6 * l3)) + l4) 180 ∧ R (l4 + 1) (si M1183 c_mo_owesBy (Int32.toNatClampNeg (((36 * l2) + (6 * l3)) + l4)) r1184)))) ∧ (¬ 0 ≤ s0 → (vp_in (((36 * l2) + (6 * l3)) + l4) 180 ∧ R (l4 + 1) (si M c_mo_owesBy (Int32.toNatClampNeg (((36 * l2) + (6 * l3)) + l4)) 0))))
set_option maxHeartbeats 4000000 in
theorem t_Mo_findHour_j58 {X : Cx} (hX : Cok X cX12_findHour RX12 6 none 6 0 0) {Q : Mem → Prop} (hq : RV X 0 0 LY Q) {l1 : Int32} {l2 : Int32} {l3 : Int32} {R : Int32 → Mem → Prop} {K : Mem → Prop} (hR : ∀ (l4 : Int32) (M : Mem), R l4 M → Wat X 0 0 LY 25 [some (vr c_mo), some (vi l1), some (vi l2), some (vi l3), some (vi l4), none] [] M) (hK : ∀ (M : Mem), K M → Wat X 0 0 LY 103 [some (vr c_mo), some (vi l1), some (vi l2), some (vi l3), none, none] [] M) {l4 : Int32} {s0 : Int32} {M : Mem} (h : w_Mo_findHour_j58 R K l1 l2 l3 l4 s0 M Q) : Wat X 0 0 LY 58 [some (vr c_mo), some (vi l1), some (vi l2), some (vi l3), some (vi l4), none] [vi s0] M := by
  refine s_istore (lv' := [some (vr c_mo), some (vi l1), some (vi l2), some (vi l3), some (vi l4), some (vi s0)]) hX dX12_findHour_58 rfl rfl (Nat.le_of_ble_eq_true rfl) ?_
  refine s_aload_n hX dX12_findHour_60 rfl ?_
  refine s_getr hX fi_X12_137 ly_c_mo rfl dX12_findHour_61 ?_
  refine s_bipush (v := 36) hX dX12_findHour_64 rfl ?_
  refine s_iload_n hX dX12_findHour_66 rfl ?_
  refine s_imul hX dX12_findHour_67 ?_
  refine s_bipush (v := 6) hX dX12_findHour_68 rfl ?_
  refine s_iload_n hX dX12_findHour_70 rfl ?_
  refine s_imul hX dX12_findHour_71 ?_
  refine s_iadd hX dX12_findHour_72 ?_
  refine s_iload hX dX12_findHour_73 rfl ?_
  refine s_iadd hX dX12_findHour_75 ?_
  refine s_iload hX dX12_findHour_76 rfl ?_
  refine s_if_ge (tgt := 85) hX dX12_findHour_78 (by decide) (fun c => ?_) (fun c => ?_)
  · replace h := h.1 c
    refine s_aload_n hX dX12_findHour_85 rfl ?_
    refine s_iload_n hX dX12_findHour_86 rfl ?_
    refine s_iload_n hX dX12_findHour_87 rfl ?_
    refine s_iload hX dX12_findHour_88 rfl ?_
    refine s_iload hX dX12_findHour_90 rfl ?_
    refine s_iload_n hX dX12_findHour_92 rfl ?_
    refine s_cvi (as := [vi l2, vi l1, vi l4, vi s0, vi l3]) (rest := [vi (((36 * l2) + (6 * l3)) + l4), vr c_mo_owesBy]) hX (c_Mo_pence h) mv_Mo_pence wd_ml_X12_348 dX12_findHour_93 ly_c_mo rfl rfl (Nat.le_of_ble_eq_true rfl) rfl (by decide) ⟨Nat.zero_le _, Nat.zero_le _⟩ (fun r1184 M1183 h => ?_)
    have hi := h.1
    replace h := h.2
    refine s_iast hX ly_c_mo_owesBy hi dX12_findHour_96 ?_
    refine s_iinc (v := (l4 + 1)) (lv' := [some (vr c_mo), some (vi l1), some (vi l2), some (vi l3), some (vi (l4 + 1)), some (vi s0)]) hX dX12_findHour_97 rfl rfl rfl rfl ?_
    refine s_goto (tgt := 25) hX dX12_findHour_100 (by decide) ?_
    refine s_mask [true, true, true, true, true, false] (lv' := [some (vr c_mo), some (vi l1), some (vi l2), some (vi l3), some (vi (l4 + 1)), none]) rfl rfl ?_
    exact hR _ _ h
  · replace h := h.2 c
    refine s_iconst (v := 0) hX dX12_findHour_81 rfl ?_
    refine s_goto (tgt := 96) hX dX12_findHour_82 (by decide) ?_
    have hi := h.1
    replace h := h.2
    refine s_iast hX ly_c_mo_owesBy hi dX12_findHour_96 ?_
    refine s_iinc (v := (l4 + 1)) (lv' := [some (vr c_mo), some (vi l1), some (vi l2), some (vi l3), some (vi (l4 + 1)), some (vi s0)]) hX dX12_findHour_97 rfl rfl rfl rfl ?_
    refine s_goto (tgt := 25) hX dX12_findHour_100 (by decide) ?_
    refine s_mask [true, true, true, true, true, false] (lv' := [some (vr c_mo), some (vi l1), some (vi l2), some (vi l3), some (vi (l4 + 1)), none]) rfl rfl ?_
    exact hR _ _ h
def w_Mo_findHour_j57 (R : Int32 → Mem → Prop) (K : Mem → Prop) (l1 : Int32) (l2 : Int32) (l3 : Int32) (l4 : Int32) (M : Mem) (Q : Mem → Prop) : Prop :=
  w_Mo_findHour_j58 (fun l4 M => R l4 M) K l1 l2 l3 l4 (-1) M Q
set_option maxHeartbeats 4000000 in
theorem t_Mo_findHour_j57 {X : Cx} (hX : Cok X cX12_findHour RX12 6 none 6 0 0) {Q : Mem → Prop} (hq : RV X 0 0 LY Q) {l1 : Int32} {l2 : Int32} {l3 : Int32} {R : Int32 → Mem → Prop} {K : Mem → Prop} (hR : ∀ (l4 : Int32) (M : Mem), R l4 M → Wat X 0 0 LY 25 [some (vr c_mo), some (vi l1), some (vi l2), some (vi l3), some (vi l4), none] [] M) (hK : ∀ (M : Mem), K M → Wat X 0 0 LY 103 [some (vr c_mo), some (vi l1), some (vi l2), some (vi l3), none, none] [] M) {l4 : Int32} {M : Mem} (h : w_Mo_findHour_j57 R K l1 l2 l3 l4 M Q) : Wat X 0 0 LY 57 [some (vr c_mo), some (vi l1), some (vi l2), some (vi l3), some (vi l4), none] [] M := by
  refine s_iconst (v := (-1)) hX dX12_findHour_57 rfl ?_
  exact t_Mo_findHour_j58 hX hq (fun _ _ h => hR _ _ h) hK h
def w_Mo_findHour_L25 (l1 : Int32) (l2 : Int32) (l3 : Int32) (K : Mem → Prop) (Q : Mem → Prop) : Nat → Int32 → Mem → Prop
  | 0, _, _ => False
  | n + 1, l4, M => w_Mo_persons M (fun r1182 M1181 => ((r1182 ≤ l4 → K M1181) ∧ (¬ r1182 ≤ l4 → ((l3 ≤ 0 → w_Mo_findHour_j57 (fun l4 M => w_Mo_findHour_L25 l1 l2 l3 K Q n l4 M) K l1 l2 l3 l4 M1181 Q) ∧ (¬ l3 ≤ 0 → w_Mo_isShot l2 M1181 (fun b1186 M1185 => ((b1186 = true → w_Mo_findHour_j57 (fun l4 M => w_Mo_findHour_L25 l1 l2 l3 K Q n l4 M) K l1 l2 l3 l4 M1185 Q) ∧ (b1186 = false → w_Mo_creditor l2 l1 l4 M1185 (fun r1188 M1187 => w_Mo_findHour_j58 (fun l4 M => w_Mo_findHour_L25 l1 l2 l3 K Q n l4 M) K l1 l2 l3 l4 r1188 M1187 Q)))))))))
set_option maxHeartbeats 4000000 in
theorem t_Mo_findHour_L25 {X : Cx} (hX : Cok X cX12_findHour RX12 6 none 6 0 0) {Q : Mem → Prop} (hq : RV X 0 0 LY Q) {l1 : Int32} {l2 : Int32} {l3 : Int32} {K : Mem → Prop} (hK : ∀ (M : Mem), K M → Wat X 0 0 LY 103 [some (vr c_mo), some (vi l1), some (vi l2), some (vi l3), none, none] [] M) : ∀ (n : Nat) (l4 : Int32) (M : Mem), w_Mo_findHour_L25 l1 l2 l3 K Q n l4 M → Wat X 0 0 LY 25 [some (vr c_mo), some (vi l1), some (vi l2), some (vi l3), some (vi l4), none] [] M := by
  intro n
  induction n with
  | zero => intro _ _ h; exact h.elim
  | succ n ih =>
    intro l4 M h
    refine s_iload hX dX12_findHour_25 rfl ?_
    refine s_aload_n hX dX12_findHour_27 rfl ?_
    refine s_cvi (as := []) (rest := [vi l4]) hX (c_Mo_persons h) mv_Mo_persons wd_ml_X12_226 dX12_findHour_28 ly_c_mo rfl rfl (Nat.le_of_ble_eq_true rfl) rfl (by decide) ⟨Nat.zero_le _, Nat.zero_le _⟩ (fun r1182 M1181 h => ?_)
    refine s_icmp_ge (tgt := 103) hX dX12_findHour_31 (by decide) (fun c => ?_) (fun c => ?_)
    · replace h := h.1 c
      refine s_mask [true, true, true, true, false, true] (lv' := [some (vr c_mo), some (vi l1), some (vi l2), some (vi l3), none, none]) rfl rfl ?_
      exact hK _ h
    · replace h := h.2 c
      refine s_iload_n hX dX12_findHour_34 rfl ?_
      refine s_if_le (tgt := 57) hX dX12_findHour_35 (by decide) (fun c => ?_) (fun c => ?_)
      · replace h := h.1 c
        exact t_Mo_findHour_j57 hX hq (fun _ _ h => ih _ _ h) hK h
      · replace h := h.2 c
        refine s_aload_n hX dX12_findHour_38 rfl ?_
        refine s_iload_n hX dX12_findHour_39 rfl ?_
        refine s_cvi (as := [vi l2]) (rest := []) hX (c_Mo_isShot h) mv_Mo_isShot wd_ml_X12_342 dX12_findHour_40 ly_c_mo rfl rfl (Nat.le_of_ble_eq_true rfl) rfl (by decide) ⟨Nat.zero_le _, Nat.zero_le _⟩ (fun b1186_ M1185 h => ?_)
        obtain ⟨b1186, rfl, h⟩ := h
        refine s_if_ne (tgt := 57) hX dX12_findHour_43 (by decide) (fun c => ?_) (fun c => ?_)
        · replace h := h.1 (b2i_1 c)
          exact t_Mo_findHour_j57 hX hq (fun _ _ h => ih _ _ h) hK h
        · replace h := h.2 (b2i_0 c)
          refine s_aload_n hX dX12_findHour_46 rfl ?_
          refine s_iload_n hX dX12_findHour_47 rfl ?_
          refine s_iload_n hX dX12_findHour_48 rfl ?_
          refine s_iload hX dX12_findHour_49 rfl ?_
          refine s_cvi (as := [vi l2, vi l1, vi l4]) (rest := []) hX (c_Mo_creditor h) mv_Mo_creditor wd_ml_X12_345 dX12_findHour_51 ly_c_mo rfl rfl (Nat.le_of_ble_eq_true rfl) rfl (by decide) ⟨Nat.zero_le _, Nat.zero_le _⟩ (fun r1188 M1187 h => ?_)
          refine s_goto (tgt := 58) hX dX12_findHour_54 (by decide) ?_
          exact t_Mo_findHour_j58 hX hq (fun _ _ h => ih _ _ h) hK h
def w_Mo_findHour_L16 (l1 : Int32) (l2 : Int32) (K : Mem → Prop) (Q : Mem → Prop) : Nat → Int32 → Mem → Prop
  | 0, _, _ => False
  | n + 1, l3, M => ((6 ≤ l3 → K M) ∧ (¬ 6 ≤ l3 → (∃ n1190, w_Mo_findHour_L25 l1 l2 l3 (fun M1189 => w_Mo_findHour_L16 l1 l2 K Q n (l3 + 1) M1189) Q n1190 0 M)))
set_option maxHeartbeats 4000000 in
theorem t_Mo_findHour_L16 {X : Cx} (hX : Cok X cX12_findHour RX12 6 none 6 0 0) {Q : Mem → Prop} (hq : RV X 0 0 LY Q) {l1 : Int32} {l2 : Int32} {K : Mem → Prop} (hK : ∀ (M : Mem), K M → Wat X 0 0 LY 109 [some (vr c_mo), some (vi l1), some (vi l2), none, none, none] [] M) : ∀ (n : Nat) (l3 : Int32) (M : Mem), w_Mo_findHour_L16 l1 l2 K Q n l3 M → Wat X 0 0 LY 16 [some (vr c_mo), some (vi l1), some (vi l2), some (vi l3), none, none] [] M := by
  intro n
  induction n with
  | zero => intro _ _ h; exact h.elim
  | succ n ih =>
    intro l3 M h
    refine s_iload_n hX dX12_findHour_16 rfl ?_
    refine s_bipush (v := 6) hX dX12_findHour_17 rfl ?_
    refine s_icmp_ge (tgt := 109) hX dX12_findHour_19 (by decide) (fun c => ?_) (fun c => ?_)
    · replace h := h.1 c
      refine s_mask [true, true, true, false, true, true] (lv' := [some (vr c_mo), some (vi l1), some (vi l2), none, none, none]) rfl rfl ?_
      exact hK _ h
    · replace h := h.2 c
      refine s_iconst (v := 0) hX dX12_findHour_22 rfl ?_
      refine s_istore (lv' := [some (vr c_mo), some (vi l1), some (vi l2), some (vi l3), some (vi 0), none]) hX dX12_findHour_23 rfl rfl (Nat.le_of_ble_eq_true rfl) ?_
      obtain ⟨n1190, h⟩ := h
      refine t_Mo_findHour_L25 hX hq ?_ n1190 _ _ h
      intro M1189 h
      refine s_iinc (v := (l3 + 1)) (lv' := [some (vr c_mo), some (vi l1), some (vi l2), some (vi (l3 + 1)), none, none]) hX dX12_findHour_103 rfl rfl rfl rfl ?_
      refine s_goto (tgt := 16) hX dX12_findHour_106 (by decide) ?_
      exact ih _ _ h
def w_Mo_findHour_L6 (l1 : Int32) (K : Mem → Prop) (Q : Mem → Prop) : Nat → Int32 → Mem → Prop
  | 0, _, _ => False
  | n + 1, l2, M => w_Mo_birds M (fun r1180 M1179 => ((r1180 ≤ l2 → K M1179) ∧ (¬ r1180 ≤ l2 → (∃ n1192, w_Mo_findHour_L16 l1 l2 (fun M1191 => w_Mo_findHour_L6 l1 K Q n (l2 + 1) M1191) Q n1192 0 M1179))))
set_option maxHeartbeats 4000000 in
theorem t_Mo_findHour_L6 {X : Cx} (hX : Cok X cX12_findHour RX12 6 none 6 0 0) {Q : Mem → Prop} (hq : RV X 0 0 LY Q) {l1 : Int32} {K : Mem → Prop} (hK : ∀ (M : Mem), K M → Wat X 0 0 LY 115 [none, none, none, none, none, none] [] M) : ∀ (n : Nat) (l2 : Int32) (M : Mem), w_Mo_findHour_L6 l1 K Q n l2 M → Wat X 0 0 LY 6 [some (vr c_mo), some (vi l1), some (vi l2), none, none, none] [] M := by
  intro n
  induction n with
  | zero => intro _ _ h; exact h.elim
  | succ n ih =>
    intro l2 M h
    refine s_iload_n hX dX12_findHour_6 rfl ?_
    refine s_aload_n hX dX12_findHour_7 rfl ?_
    refine s_cvi (as := []) (rest := [vi l2]) hX (c_Mo_birds h) mv_Mo_birds wd_ml_X12_311 dX12_findHour_8 ly_c_mo rfl rfl (Nat.le_of_ble_eq_true rfl) rfl (by decide) ⟨Nat.zero_le _, Nat.zero_le _⟩ (fun r1180 M1179 h => ?_)
    refine s_icmp_ge (tgt := 115) hX dX12_findHour_11 (by decide) (fun c => ?_) (fun c => ?_)
    · replace h := h.1 c
      refine s_mask [false, false, false, true, true, true] (lv' := [none, none, none, none, none, none]) rfl rfl ?_
      exact hK _ h
    · replace h := h.2 c
      refine s_iconst (v := 0) hX dX12_findHour_14 rfl ?_
      refine s_istore_n (lv' := [some (vr c_mo), some (vi l1), some (vi l2), some (vi 0), none, none]) hX dX12_findHour_15 rfl rfl (Nat.le_of_ble_eq_true rfl) ?_
      obtain ⟨n1192, h⟩ := h
      refine t_Mo_findHour_L16 hX hq ?_ n1192 _ _ h
      intro M1191 h
      refine s_iinc (v := (l2 + 1)) (lv' := [some (vr c_mo), some (vi l1), some (vi (l2 + 1)), none, none, none]) hX dX12_findHour_109 rfl rfl rfl rfl ?_
      refine s_goto (tgt := 6) hX dX12_findHour_112 (by decide) ?_
      exact ih _ _ h
def w_Mo_findHour (a0 : Int32) (M : Mem) (Q : Mem → Prop) : Prop :=
  w_Mo_standsAsTold M (fun M1178 => (∃ n1194, w_Mo_findHour_L6 a0 (fun M1193 => Q M1193) Q n1194 0 M1178))
set_option maxHeartbeats 4000000 in
theorem t_Mo_findHour {X : Cx} (hX : Cok X cX12_findHour RX12 6 none 6 0 0) {Q : Mem → Prop} (hq : RV X 0 0 LY Q) {M : Mem} {a0 : Int32} (h : w_Mo_findHour a0 M Q) : Wat X 0 0 LY 0 [some (vr c_mo), some (vi a0), none, none, none, none] [] M := by
  refine s_aload_n hX dX12_findHour_0 rfl ?_
  refine s_cvv (as := []) (rest := []) hX (c_Mo_standsAsTold h) mv_Mo_standsAsTold wd_ml_X12_314 dX12_findHour_1 ly_c_mo rfl rfl (Nat.le_of_ble_eq_true rfl) rfl (by decide) ⟨Nat.zero_le _, Nat.zero_le _⟩ (fun M1178 h => ?_)
  refine s_iconst (v := 0) hX dX12_findHour_4 rfl ?_
  refine s_istore_n (lv' := [some (vr c_mo), some (vi a0), some (vi 0), none, none, none]) hX dX12_findHour_5 rfl rfl (Nat.le_of_ble_eq_true rfl) ?_
  obtain ⟨n1194, h⟩ := h
  refine t_Mo_findHour_L6 hX hq ?_ n1194 _ _ h
  intro M1193 h
  exact s_vret hX hq rfl dX12_findHour_115 h
theorem c_Mo_findHour {a0 : Int32} {M : Mem} {Q : Mem → Prop} (h : w_Mo_findHour a0 M Q) : CV yX12_findHour cX12_findHour 6 none 6 0 0 LY LY [vr c_mo, vi a0] M Q := mk_v rfl wd_co_X12_findHour rfl rfl (Nat.le_of_ble_eq_true rfl) (fun X hX hq => t_Mo_findHour hX hq h)
theorem mv_Mo_findHour : MV yX12_findHour cX12_findHour 6 none RX12 1 := ⟨wd_co_X12_findHour, wd_im_X12_findHour, wd_se_X12_findHour, wd_in_X12, by decide +kernel, by decide⟩
theorem mv_Mo_sings : MV yX12_sings cX12_sings 7 none RX12 2 := ⟨wd_co_X12_sings, wd_im_X12_sings, wd_se_X12_sings, wd_in_X12, by decide +kernel, by decide⟩
def w_Mo_sings_j196 (r_Mo_sings : Int32 → Int32 → Mem → (Mem → Prop) → Prop) (R : Int32 → Mem → Prop) (K : Mem → Prop) (l1 : Int32) (l2 : Int32) (l3 : Int32) (s0 : Int32) (s1 : Int32) (M : Mem) (Q : Mem → Prop) : Prop :=
  ((s1 ≤ s0 → K M) ∧ (¬ s1 ≤ s0 → (vp_in l1 5 ∧ r_Mo_sings (l1 + 1) l2 (si M c_mo_sung (Int32.toNatClampNeg l1) l3) (fun M1200 => R (l3 + 1) M1200))))
set_option maxHeartbeats 4000000 in
theorem t_Mo_sings_j196 {lv0 : Nat} {X : Cx} (hX : Cok X cX12_sings RX12 7 none (lv0 + 1) 0 0) {Q : Mem → Prop} (hq : RV X 0 0 LY Q) {r_Mo_sings : Int32 → Int32 → Mem → (Mem → Prop) → Prop} (hlv0 : 1 ≤ lv0) (hr_Mo_sings : ∀ (a0 : Int32) (a1 : Int32) M Q, r_Mo_sings a0 a1 M Q → CV yX12_sings cX12_sings 7 none lv0 0 0 LY LY [vr c_mo, vi a0, vi a1] M Q) {l1 : Int32} {l2 : Int32} {R : Int32 → Mem → Prop} {K : Mem → Prop} (hR : ∀ (l3 : Int32) (M : Mem), R l3 M → Wat X 0 0 LY 181 [some (vr c_mo), some (vi l1), some (vi l2), some (vi l3), none, none, none] [] M) (hK : ∀ (M : Mem), K M → Wat X 0 0 LY 220 [none, none, none, none, none, none, none] [] M) {l3 : Int32} {s0 : Int32} {s1 : Int32} {M : Mem} (h : w_Mo_sings_j196 r_Mo_sings R K l1 l2 l3 s0 s1 M Q) : Wat X 0 0 LY 196 [some (vr c_mo), some (vi l1), some (vi l2), some (vi l3), none, none, none] [vi s1, vi s0] M := by
  refine s_icmp_ge (tgt := 220) hX dX12_sings_196 (by decide) (fun c => ?_) (fun c => ?_)
  · replace h := h.1 c
    refine s_mask [false, false, false, false, true, true, true] (lv' := [none, none, none, none, none, none, none]) rfl rfl ?_
    exact hK _ h
  · replace h := h.2 c
    refine s_aload_n hX dX12_sings_199 rfl ?_
    refine s_getr hX fi_X12_140 ly_c_mo rfl dX12_sings_200 ?_
    refine s_iload_n hX dX12_sings_203 rfl ?_
    refine s_iload_n hX dX12_sings_204 rfl ?_
    have hi := h.1
    replace h := h.2
    refine s_iast hX ly_c_mo_sung hi dX12_sings_205 ?_
    refine s_aload_n hX dX12_sings_206 rfl ?_
    refine s_iload_n hX dX12_sings_207 rfl ?_
    refine s_iconst (v := 1) hX dX12_sings_208 rfl ?_
    refine s_iadd hX dX12_sings_209 ?_
    refine s_iload_n hX dX12_sings_210 rfl ?_
    refine s_cvv (as := [vi (l1 + 1), vi l2]) (rest := []) hX (hr_Mo_sings _ _ _ _ h) mv_Mo_sings wd_ml_X12_413 dX12_sings_211 ly_c_mo rfl rfl (Nat.le_of_ble_eq_true rfl) rfl (Nat.lt_succ_self _) ⟨Nat.zero_le _, Nat.zero_le _⟩ (fun M1200 h => ?_)
    refine s_iinc (v := (l3 + 1)) (lv' := [some (vr c_mo), some (vi l1), some (vi l2), some (vi (l3 + 1)), none, none, none]) hX dX12_sings_214 rfl rfl rfl rfl ?_
    refine s_goto (tgt := 181) hX dX12_sings_217 (by decide) ?_
    exact hR _ _ h
def w_Mo_sings_L181 (r_Mo_sings : Int32 → Int32 → Mem → (Mem → Prop) → Prop) (l1 : Int32) (l2 : Int32) (K : Mem → Prop) (Q : Mem → Prop) : Nat → Int32 → Mem → Prop
  | 0, _, _ => False
  | n + 1, l3, M => w_Mo_isShot l1 M (fun b1199 M1198 => w_Mo_sings_j196 r_Mo_sings (fun l3 M => w_Mo_sings_L181 r_Mo_sings l1 l2 K Q n l3 M) K l1 l2 l3 l3 (if b1199 = true then (1 : Int32) else 6) M1198 Q)
set_option maxHeartbeats 4000000 in
theorem t_Mo_sings_L181 {lv0 : Nat} {X : Cx} (hX : Cok X cX12_sings RX12 7 none (lv0 + 1) 0 0) {Q : Mem → Prop} (hq : RV X 0 0 LY Q) {r_Mo_sings : Int32 → Int32 → Mem → (Mem → Prop) → Prop} (hlv0 : 1 ≤ lv0) (hr_Mo_sings : ∀ (a0 : Int32) (a1 : Int32) M Q, r_Mo_sings a0 a1 M Q → CV yX12_sings cX12_sings 7 none lv0 0 0 LY LY [vr c_mo, vi a0, vi a1] M Q) {l1 : Int32} {l2 : Int32} {K : Mem → Prop} (hK : ∀ (M : Mem), K M → Wat X 0 0 LY 220 [none, none, none, none, none, none, none] [] M) : ∀ (n : Nat) (l3 : Int32) (M : Mem), w_Mo_sings_L181 r_Mo_sings l1 l2 K Q n l3 M → Wat X 0 0 LY 181 [some (vr c_mo), some (vi l1), some (vi l2), some (vi l3), none, none, none] [] M := by
  intro n
  induction n with
  | zero => intro _ _ h; exact h.elim
  | succ n ih =>
    intro l3 M h
    refine s_iload_n hX dX12_sings_181 rfl ?_
    refine s_aload_n hX dX12_sings_182 rfl ?_
    refine s_iload_n hX dX12_sings_183 rfl ?_
    refine s_cvi (as := [vi l1]) (rest := [vi l3]) hX (c_Mo_isShot h) mv_Mo_isShot wd_ml_X12_342 dX12_sings_184 ly_c_mo rfl rfl (Nat.le_of_ble_eq_true rfl) rfl (by omega) ⟨Nat.zero_le _, Nat.zero_le _⟩ (fun b1199_ M1198 h => ?_)
    obtain ⟨b1199, rfl, h⟩ := h
    have hJ : Wat X 0 0 LY 196 [some (vr c_mo), some (vi l1), some (vi l2), some (vi l3), none, none, none] [vi (if b1199 = true then (1 : Int32) else 6), vi l3] M1198 := by
      exact t_Mo_sings_j196 hX hq hlv0 hr_Mo_sings (fun _ _ h => ih _ _ h) hK h
    refine s_if_eq (tgt := 194) hX dX12_sings_187 (by decide) (fun c => ?_) (fun c => ?_)
    · rw [if_neg (by simp [b2i_0 c])] at hJ
      refine s_bipush (v := 6) hX dX12_sings_194 rfl ?_
      exact hJ
    · rw [if_pos (by simp [b2i_1 c])] at hJ
      refine s_iconst (v := 1) hX dX12_sings_190 rfl ?_
      refine s_goto (tgt := 196) hX dX12_sings_191 (by decide) ?_
      exact hJ
def w_Mo_sings_L28 (r_Mo_sings : Int32 → Int32 → Mem → (Mem → Prop) → Prop) (l2 : Int32) (l3 : Int32) (l4 : Int32) (K : Int32 → Mem → Prop) (Q : Mem → Prop) : Nat → Int32 → Int32 → Mem → Prop
  | 0, _, _, _ => False
  | n + 1, l5, l6, M => w_Mo_birds M (fun r1206 M1205 => ((r1206 ≤ l6 → K l5 M1205) ∧ (¬ r1206 ≤ l6 → (vp_in l6 5 ∧ (vp_in (((36 * l6) + (6 * (M1205.1 c_mo_sung (Int32.toNatClampNeg l6)))) + l4) 180 ∧ ∀ x1207 : Int32, x1207 = (l5 + (M1205.1 c_mo_owesBy (Int32.toNatClampNeg (((36 * l6) + (6 * (M1205.1 c_mo_sung (Int32.toNatClampNeg l6)))) + l4)))) → w_Mo_sings_L28 r_Mo_sings l2 l3 l4 K Q n x1207 (l6 + 1) M1205)))))
set_option maxHeartbeats 4000000 in
theorem t_Mo_sings_L28 {lv0 : Nat} {X : Cx} (hX : Cok X cX12_sings RX12 7 none (lv0 + 1) 0 0) {Q : Mem → Prop} (hq : RV X 0 0 LY Q) {r_Mo_sings : Int32 → Int32 → Mem → (Mem → Prop) → Prop} (hlv0 : 1 ≤ lv0) (hr_Mo_sings : ∀ (a0 : Int32) (a1 : Int32) M Q, r_Mo_sings a0 a1 M Q → CV yX12_sings cX12_sings 7 none lv0 0 0 LY LY [vr c_mo, vi a0, vi a1] M Q) {l2 : Int32} {l3 : Int32} {l4 : Int32} {K : Int32 → Mem → Prop} (hK : ∀ (l5 : Int32) (M : Mem), K l5 M → Wat X 0 0 LY 72 [some (vr c_mo), none, some (vi l2), some (vi l3), some (vi l4), some (vi l5), none] [] M) : ∀ (n : Nat) (l5 : Int32) (l6 : Int32) (M : Mem), w_Mo_sings_L28 r_Mo_sings l2 l3 l4 K Q n l5 l6 M → Wat X 0 0 LY 28 [some (vr c_mo), none, some (vi l2), some (vi l3), some (vi l4), some (vi l5), some (vi l6)] [] M := by
  intro n
  induction n with
  | zero => intro _ _ _ h; exact h.elim
  | succ n ih =>
    intro l5 l6 M h
    refine s_iload hX dX12_sings_28 rfl ?_
    refine s_aload_n hX dX12_sings_30 rfl ?_
    refine s_cvi (as := []) (rest := [vi l6]) hX (c_Mo_birds h) mv_Mo_birds wd_ml_X12_311 dX12_sings_31 ly_c_mo rfl rfl (Nat.le_of_ble_eq_true rfl) rfl (by omega) ⟨Nat.zero_le _, Nat.zero_le _⟩ (fun r1206 M1205 h => ?_)
    refine s_icmp_ge (tgt := 72) hX dX12_sings_34 (by decide) (fun c => ?_) (fun c => ?_)
    · replace h := h.1 c
      refine s_mask [true, true, true, true, true, true, false] (lv' := [some (vr c_mo), none, some (vi l2), some (vi l3), some (vi l4), some (vi l5), none]) rfl rfl ?_
      exact hK _ _ h
    · replace h := h.2 c
      refine s_iload hX dX12_sings_37 rfl ?_
      refine s_aload_n hX dX12_sings_39 rfl ?_
      refine s_getr hX fi_X12_137 ly_c_mo rfl dX12_sings_40 ?_
      refine s_bipush (v := 36) hX dX12_sings_43 rfl ?_
      refine s_iload hX dX12_sings_45 rfl ?_
      refine s_imul hX dX12_sings_47 ?_
      refine s_bipush (v := 6) hX dX12_sings_48 rfl ?_
      refine s_aload_n hX dX12_sings_50 rfl ?_
      refine s_getr hX fi_X12_140 ly_c_mo rfl dX12_sings_51 ?_
      refine s_iload hX dX12_sings_54 rfl ?_
      have hi := h.1
      replace h := h.2
      refine s_ialdv (v := (M1205.1 c_mo_sung (Int32.toNatClampNeg l6))) hX ly_c_mo_sung hi dX12_sings_56 rfl ?_
      refine s_imul hX dX12_sings_57 ?_
      refine s_iadd hX dX12_sings_58 ?_
      refine s_iload hX dX12_sings_59 rfl ?_
      refine s_iadd hX dX12_sings_61 ?_
      have hi := h.1
      replace h := h.2
      refine s_ialdv (v := (M1205.1 c_mo_owesBy (Int32.toNatClampNeg (((36 * l6) + (6 * (M1205.1 c_mo_sung (Int32.toNatClampNeg l6)))) + l4)))) hX ly_c_mo_owesBy hi dX12_sings_62 rfl ?_
      refine s_iadd hX dX12_sings_63 ?_
      refine s_nmi (fun x1207 ex1207 => ?_)
      replace h := h x1207 ex1207
      refine s_istore (lv' := [some (vr c_mo), none, some (vi l2), some (vi l3), some (vi l4), some (vi x1207), some (vi l6)]) hX dX12_sings_64 rfl rfl (Nat.le_of_ble_eq_true rfl) ?_
      refine s_iinc (v := (l6 + 1)) (lv' := [some (vr c_mo), none, some (vi l2), some (vi l3), some (vi l4), some (vi x1207), some (vi (l6 + 1))]) hX dX12_sings_66 rfl rfl rfl rfl ?_
      refine s_goto (tgt := 28) hX dX12_sings_69 (by decide) ?_
      exact ih _ _ _ h
def w_Mo_sings_L13 (r_Mo_sings : Int32 → Int32 → Mem → (Mem → Prop) → Prop) (l2 : Int32) (K : Int32 → Mem → Prop) (Q : Mem → Prop) : Nat → Int32 → Int32 → Mem → Prop
  | 0, _, _, _ => False
  | n + 1, l3, l4, M => w_Mo_persons M (fun r1204 M1203 => ((r1204 ≤ l4 → K l3 M1203) ∧ (¬ r1204 ≤ l4 → (∃ n1211, w_Mo_sings_L28 r_Mo_sings l2 l3 l4 (fun y1209 M1208 => ((l3 = 0 → w_Mo_sings_L13 r_Mo_sings l2 K Q n 0 (l4 + 1) M1208) ∧ (¬ l3 = 0 → (vp_in (121 + l4) 3200 ∧ (((M1208.1 c_mo_state (Int32.toNatClampNeg (121 + l4))) < 0 → w_Mo_sings_L13 r_Mo_sings l2 K Q n 1 (l4 + 1) M1208) ∧ (¬ (M1208.1 c_mo_state (Int32.toNatClampNeg (121 + l4))) < 0 → (vp_in (121 + l4) 3200 ∧ ∀ x1210 : Int32, x1210 = (if (M1208.1 c_mo_state (Int32.toNatClampNeg (121 + l4))) = y1209 then (1 : Int32) else 0) → w_Mo_sings_L13 r_Mo_sings l2 K Q n x1210 (l4 + 1) M1208))))))) Q n1211 0 0 M1203))))
set_option maxHeartbeats 4000000 in
theorem t_Mo_sings_L13 {lv0 : Nat} {X : Cx} (hX : Cok X cX12_sings RX12 7 none (lv0 + 1) 0 0) {Q : Mem → Prop} (hq : RV X 0 0 LY Q) {r_Mo_sings : Int32 → Int32 → Mem → (Mem → Prop) → Prop} (hlv0 : 1 ≤ lv0) (hr_Mo_sings : ∀ (a0 : Int32) (a1 : Int32) M Q, r_Mo_sings a0 a1 M Q → CV yX12_sings cX12_sings 7 none lv0 0 0 LY LY [vr c_mo, vi a0, vi a1] M Q) {l2 : Int32} {K : Int32 → Mem → Prop} (hK : ∀ (l3 : Int32) (M : Mem), K l3 M → Wat X 0 0 LY 116 [some (vr c_mo), none, some (vi l2), some (vi l3), none, none, none] [] M) : ∀ (n : Nat) (l3 : Int32) (l4 : Int32) (M : Mem), w_Mo_sings_L13 r_Mo_sings l2 K Q n l3 l4 M → Wat X 0 0 LY 13 [some (vr c_mo), none, some (vi l2), some (vi l3), some (vi l4), none, none] [] M := by
  intro n
  induction n with
  | zero => intro _ _ _ h; exact h.elim
  | succ n ih =>
    intro l3 l4 M h
    refine s_iload hX dX12_sings_13 rfl ?_
    refine s_aload_n hX dX12_sings_15 rfl ?_
    refine s_cvi (as := []) (rest := [vi l4]) hX (c_Mo_persons h) mv_Mo_persons wd_ml_X12_226 dX12_sings_16 ly_c_mo rfl rfl (Nat.le_of_ble_eq_true rfl) rfl (by omega) ⟨Nat.zero_le _, Nat.zero_le _⟩ (fun r1204 M1203 h => ?_)
    refine s_icmp_ge (tgt := 116) hX dX12_sings_19 (by decide) (fun c => ?_) (fun c => ?_)
    · replace h := h.1 c
      refine s_mask [true, true, true, true, false, true, true] (lv' := [some (vr c_mo), none, some (vi l2), some (vi l3), none, none, none]) rfl rfl ?_
      exact hK _ _ h
    · replace h := h.2 c
      refine s_iconst (v := 0) hX dX12_sings_22 rfl ?_
      refine s_istore (lv' := [some (vr c_mo), none, some (vi l2), some (vi l3), some (vi l4), some (vi 0), none]) hX dX12_sings_23 rfl rfl (Nat.le_of_ble_eq_true rfl) ?_
      refine s_iconst (v := 0) hX dX12_sings_25 rfl ?_
      refine s_istore (lv' := [some (vr c_mo), none, some (vi l2), some (vi l3), some (vi l4), some (vi 0), some (vi 0)]) hX dX12_sings_26 rfl rfl (Nat.le_of_ble_eq_true rfl) ?_
      obtain ⟨n1211, h⟩ := h
      refine t_Mo_sings_L28 hX hq hlv0 hr_Mo_sings ?_ n1211 _ _ _ h
      intro y1209 M1208 h
      refine s_iload_n hX dX12_sings_72 rfl ?_
      refine s_if_eq (tgt := 108) hX dX12_sings_73 (by decide) (fun c => ?_) (fun c => ?_)
      · replace h := h.1 c
        refine s_iconst (v := 0) hX dX12_sings_108 rfl ?_
        refine s_istore_n (lv' := [some (vr c_mo), none, some (vi l2), some (vi 0), some (vi l4), some (vi y1209), none]) hX dX12_sings_109 rfl rfl (Nat.le_of_ble_eq_true rfl) ?_
        refine s_iinc (v := (l4 + 1)) (lv' := [some (vr c_mo), none, some (vi l2), some (vi 0), some (vi (l4 + 1)), some (vi y1209), none]) hX dX12_sings_110 rfl rfl rfl rfl ?_
        refine s_goto (tgt := 13) hX dX12_sings_113 (by decide) ?_
        refine s_mask [true, true, true, true, true, false, true] (lv' := [some (vr c_mo), none, some (vi l2), some (vi 0), some (vi (l4 + 1)), none, none]) rfl rfl ?_
        exact ih _ _ _ h
      · replace h := h.2 c
        refine s_aload_n hX dX12_sings_76 rfl ?_
        refine s_getr hX fi_X12_115 ly_c_mo rfl dX12_sings_77 ?_
        refine s_bipush (v := 121) hX dX12_sings_80 rfl ?_
        refine s_iload hX dX12_sings_82 rfl ?_
        refine s_iadd hX dX12_sings_84 ?_
        have hi := h.1
        replace h := h.2
        refine s_ialdv (v := (M1208.1 c_mo_state (Int32.toNatClampNeg (121 + l4)))) hX ly_c_mo_state hi dX12_sings_85 rfl ?_
        refine s_if_lt (tgt := 104) hX dX12_sings_86 (by decide) (fun c => ?_) (fun c => ?_)
        · replace h := h.1 c
          refine s_iconst (v := 1) hX dX12_sings_104 rfl ?_
          refine s_goto (tgt := 109) hX dX12_sings_105 (by decide) ?_
          refine s_istore_n (lv' := [some (vr c_mo), none, some (vi l2), some (vi 1), some (vi l4), some (vi y1209), none]) hX dX12_sings_109 rfl rfl (Nat.le_of_ble_eq_true rfl) ?_
          refine s_iinc (v := (l4 + 1)) (lv' := [some (vr c_mo), none, some (vi l2), some (vi 1), some (vi (l4 + 1)), some (vi y1209), none]) hX dX12_sings_110 rfl rfl rfl rfl ?_
          refine s_goto (tgt := 13) hX dX12_sings_113 (by decide) ?_
          refine s_mask [true, true, true, true, true, false, true] (lv' := [some (vr c_mo), none, some (vi l2), some (vi 1), some (vi (l4 + 1)), none, none]) rfl rfl ?_
          exact ih _ _ _ h
        · replace h := h.2 c
          refine s_aload_n hX dX12_sings_89 rfl ?_
          refine s_getr hX fi_X12_115 ly_c_mo rfl dX12_sings_90 ?_
          refine s_bipush (v := 121) hX dX12_sings_93 rfl ?_
          refine s_iload hX dX12_sings_95 rfl ?_
          refine s_iadd hX dX12_sings_97 ?_
          have hi := h.1
          replace h := h.2
          refine s_ialdv (v := (M1208.1 c_mo_state (Int32.toNatClampNeg (121 + l4)))) hX ly_c_mo_state hi dX12_sings_98 rfl ?_
          refine s_iload hX dX12_sings_99 rfl ?_
          have hJ : Wat X 0 0 LY 109 [some (vr c_mo), none, some (vi l2), some (vi l3), some (vi l4), some (vi y1209), none] [vi (if (M1208.1 c_mo_state (Int32.toNatClampNeg (121 + l4))) = y1209 then (1 : Int32) else 0)] M1208 := by
            refine s_nmi (fun x1210 ex1210 => ?_)
            replace h := h x1210 ex1210
            refine s_istore_n (lv' := [some (vr c_mo), none, some (vi l2), some (vi x1210), some (vi l4), some (vi y1209), none]) hX dX12_sings_109 rfl rfl (Nat.le_of_ble_eq_true rfl) ?_
            refine s_iinc (v := (l4 + 1)) (lv' := [some (vr c_mo), none, some (vi l2), some (vi x1210), some (vi (l4 + 1)), some (vi y1209), none]) hX dX12_sings_110 rfl rfl rfl rfl ?_
            refine s_goto (tgt := 13) hX dX12_sings_113 (by decide) ?_
            refine s_mask [true, true, true, true, true, false, true] (lv' := [some (vr c_mo), none, some (vi l2), some (vi x1210), some (vi (l4 + 1)), none, none]) rfl rfl ?_
            exact ih _ _ _ h
          refine s_icmp_ne (tgt := 108) hX dX12_sings_101 (by decide) (fun c => ?_) (fun c => ?_)
          · rw [if_neg c] at hJ
            refine s_iconst (v := 0) hX dX12_sings_108 rfl ?_
            exact hJ
          · rw [if_pos c] at hJ
            refine s_iconst (v := 1) hX dX12_sings_104 rfl ?_
            refine s_goto (tgt := 109) hX dX12_sings_105 (by decide) ?_
            exact hJ
def w_Mo_sings_L119 (r_Mo_sings : Int32 → Int32 → Mem → (Mem → Prop) → Prop) (l2 : Int32) (l3 : Int32) (K : Mem → Prop) (Q : Mem → Prop) : Nat → Int32 → Mem → Prop
  | 0, _, _ => False
  | n + 1, l4, M => w_Mo_birds M (fun r1215 M1214 => ((r1215 ≤ l4 → K M1214) ∧ (¬ r1215 ≤ l4 → ((l3 = 0 → K M1214) ∧ (¬ l3 = 0 → ((¬ (M1214.1 c_mo Mo_rowsMany) = l2 → K M1214) ∧ ((M1214.1 c_mo Mo_rowsMany) = l2 → (vp_in l4 5 ∧ (vp_in l4 5 ∧ w_Mo_sings_L119 r_Mo_sings l2 l3 K Q n (l4 + 1) (si M1214 c_mo_asked (Int32.toNatClampNeg l4) (M1214.1 c_mo_sung (Int32.toNatClampNeg l4))))))))))))
set_option maxHeartbeats 4000000 in
theorem t_Mo_sings_L119 {lv0 : Nat} {X : Cx} (hX : Cok X cX12_sings RX12 7 none (lv0 + 1) 0 0) {Q : Mem → Prop} (hq : RV X 0 0 LY Q) {r_Mo_sings : Int32 → Int32 → Mem → (Mem → Prop) → Prop} (hlv0 : 1 ≤ lv0) (hr_Mo_sings : ∀ (a0 : Int32) (a1 : Int32) M Q, r_Mo_sings a0 a1 M Q → CV yX12_sings cX12_sings 7 none lv0 0 0 LY LY [vr c_mo, vi a0, vi a1] M Q) {l2 : Int32} {l3 : Int32} {K : Mem → Prop} (hK : ∀ (M : Mem), K M → Wat X 0 0 LY 160 [some (vr c_mo), none, none, some (vi l3), none, none, none] [] M) : ∀ (n : Nat) (l4 : Int32) (M : Mem), w_Mo_sings_L119 r_Mo_sings l2 l3 K Q n l4 M → Wat X 0 0 LY 119 [some (vr c_mo), none, some (vi l2), some (vi l3), some (vi l4), none, none] [] M := by
  intro n
  induction n with
  | zero => intro _ _ h; exact h.elim
  | succ n ih =>
    intro l4 M h
    refine s_iload hX dX12_sings_119 rfl ?_
    refine s_aload_n hX dX12_sings_121 rfl ?_
    refine s_cvi (as := []) (rest := [vi l4]) hX (c_Mo_birds h) mv_Mo_birds wd_ml_X12_311 dX12_sings_122 ly_c_mo rfl rfl (Nat.le_of_ble_eq_true rfl) rfl (by omega) ⟨Nat.zero_le _, Nat.zero_le _⟩ (fun r1215 M1214 h => ?_)
    refine s_icmp_ge (tgt := 160) hX dX12_sings_125 (by decide) (fun c => ?_) (fun c => ?_)
    · replace h := h.1 c
      refine s_mask [true, true, false, true, false, true, true] (lv' := [some (vr c_mo), none, none, some (vi l3), none, none, none]) rfl rfl ?_
      exact hK _ h
    · replace h := h.2 c
      refine s_iload_n hX dX12_sings_128 rfl ?_
      refine s_if_eq (tgt := 160) hX dX12_sings_129 (by decide) (fun c => ?_) (fun c => ?_)
      · replace h := h.1 c
        refine s_mask [true, true, false, true, false, true, true] (lv' := [some (vr c_mo), none, none, some (vi l3), none, none, none]) rfl rfl ?_
        exact hK _ h
      · replace h := h.2 c
        refine s_aload_n hX dX12_sings_132 rfl ?_
        refine s_getiv (v := (M1214.1 c_mo Mo_rowsMany)) hX fi_X12_410 ly_c_mo rfl dX12_sings_133 rfl ?_
        refine s_iload_n hX dX12_sings_136 rfl ?_
        refine s_icmp_ne (tgt := 160) hX dX12_sings_137 (by decide) (fun c => ?_) (fun c => ?_)
        · replace h := h.1 c
          refine s_mask [true, true, false, true, false, true, true] (lv' := [some (vr c_mo), none, none, some (vi l3), none, none, none]) rfl rfl ?_
          exact hK _ h
        · replace h := h.2 c
          refine s_aload_n hX dX12_sings_140 rfl ?_
          refine s_getr hX fi_X12_143 ly_c_mo rfl dX12_sings_141 ?_
          refine s_iload hX dX12_sings_144 rfl ?_
          refine s_aload_n hX dX12_sings_146 rfl ?_
          refine s_getr hX fi_X12_140 ly_c_mo rfl dX12_sings_147 ?_
          refine s_iload hX dX12_sings_150 rfl ?_
          have hi := h.1
          replace h := h.2
          refine s_ialdv (v := (M1214.1 c_mo_sung (Int32.toNatClampNeg l4))) hX ly_c_mo_sung hi dX12_sings_152 rfl ?_
          have hi := h.1
          replace h := h.2
          refine s_iast hX ly_c_mo_asked hi dX12_sings_153 ?_
          refine s_iinc (v := (l4 + 1)) (lv' := [some (vr c_mo), none, some (vi l2), some (vi l3), some (vi (l4 + 1)), none, none]) hX dX12_sings_154 rfl rfl rfl rfl ?_
          refine s_goto (tgt := 119) hX dX12_sings_157 (by decide) ?_
          exact ih _ _ h
def w_Mo_sings_j160 (r_Mo_sings : Int32 → Int32 → Mem → (Mem → Prop) → Prop) (l3 : Int32) (M : Mem) (Q : Mem → Prop) : Prop :=
  Q (si M c_mo Mo_rowsMany ((M.1 c_mo Mo_rowsMany) + (if l3 = 0 then (0 : Int32) else 1)))
set_option maxHeartbeats 4000000 in
theorem t_Mo_sings_j160 {lv0 : Nat} {X : Cx} (hX : Cok X cX12_sings RX12 7 none (lv0 + 1) 0 0) {Q : Mem → Prop} (hq : RV X 0 0 LY Q) {r_Mo_sings : Int32 → Int32 → Mem → (Mem → Prop) → Prop} (hlv0 : 1 ≤ lv0) (hr_Mo_sings : ∀ (a0 : Int32) (a1 : Int32) M Q, r_Mo_sings a0 a1 M Q → CV yX12_sings cX12_sings 7 none lv0 0 0 LY LY [vr c_mo, vi a0, vi a1] M Q) {l3 : Int32} {M : Mem} (h : w_Mo_sings_j160 r_Mo_sings l3 M Q) : Wat X 0 0 LY 160 [some (vr c_mo), none, none, some (vi l3), none, none, none] [] M := by
  refine s_aload_n hX dX12_sings_160 rfl ?_
  refine s_dup hX dX12_sings_161 rfl ?_
  refine s_getiv (v := (M.1 c_mo Mo_rowsMany)) hX fi_X12_410 ly_c_mo rfl dX12_sings_162 rfl ?_
  refine s_iload_n hX dX12_sings_165 rfl ?_
  have hJ : Wat X 0 0 LY 174 [some (vr c_mo), none, none, some (vi l3), none, none, none] [vi (if l3 = 0 then (0 : Int32) else 1), vi (M.1 c_mo Mo_rowsMany), vr c_mo] M := by
    refine s_iadd hX dX12_sings_174 ?_
    refine s_puti hX fi_X12_410 fp_X12 rfl (by decide +kernel) ly_c_mo rfl dX12_sings_175 ?_
    exact s_vret hX hq rfl dX12_sings_178 h
  refine s_if_eq (tgt := 173) hX dX12_sings_166 (by decide) (fun c => ?_) (fun c => ?_)
  · rw [if_pos c] at hJ
    refine s_iconst (v := 0) hX dX12_sings_173 rfl ?_
    exact hJ
  · rw [if_neg c] at hJ
    refine s_iconst (v := 1) hX dX12_sings_169 rfl ?_
    refine s_goto (tgt := 174) hX dX12_sings_170 (by decide) ?_
    exact hJ
def w_Mo_sings_body (r_Mo_sings : Int32 → Int32 → Mem → (Mem → Prop) → Prop) (a0 : Int32) (a1 : Int32) (M : Mem) (Q : Mem → Prop) : Prop :=
  w_Mo_birds M (fun r1197 M1196 => ((¬ a0 = r1197 → (∃ n1202, w_Mo_sings_L181 r_Mo_sings a0 a1 (fun M1201 => Q M1201) Q n1202 0 M1196)) ∧ (a0 = r1197 → (∃ n1218, w_Mo_sings_L13 r_Mo_sings a1 (fun y1213 M1212 => (∃ n1217, w_Mo_sings_L119 r_Mo_sings a1 y1213 (fun M1216 => w_Mo_sings_j160 r_Mo_sings y1213 M1216 Q) Q n1217 0 M1212)) Q n1218 1 0 M1196))))
set_option maxHeartbeats 4000000 in
theorem t_Mo_sings {lv0 : Nat} {X : Cx} (hX : Cok X cX12_sings RX12 7 none (lv0 + 1) 0 0) {Q : Mem → Prop} (hq : RV X 0 0 LY Q) {r_Mo_sings : Int32 → Int32 → Mem → (Mem → Prop) → Prop} (hlv0 : 1 ≤ lv0) (hr_Mo_sings : ∀ (a0 : Int32) (a1 : Int32) M Q, r_Mo_sings a0 a1 M Q → CV yX12_sings cX12_sings 7 none lv0 0 0 LY LY [vr c_mo, vi a0, vi a1] M Q) {M : Mem} {a0 : Int32} {a1 : Int32} (h : w_Mo_sings_body r_Mo_sings  a0 a1 M Q) : Wat X 0 0 LY 0 [some (vr c_mo), some (vi a0), some (vi a1), none, none, none, none] [] M := by
  refine s_iload_n hX dX12_sings_0 rfl ?_
  refine s_aload_n hX dX12_sings_1 rfl ?_
  refine s_cvi (as := []) (rest := [vi a0]) hX (c_Mo_birds h) mv_Mo_birds wd_ml_X12_311 dX12_sings_2 ly_c_mo rfl rfl (Nat.le_of_ble_eq_true rfl) rfl (by omega) ⟨Nat.zero_le _, Nat.zero_le _⟩ (fun r1197 M1196 h => ?_)
  refine s_icmp_ne (tgt := 179) hX dX12_sings_5 (by decide) (fun c => ?_) (fun c => ?_)
  · replace h := h.1 c
    refine s_iconst (v := 0) hX dX12_sings_179 rfl ?_
    refine s_istore_n (lv' := [some (vr c_mo), some (vi a0), some (vi a1), some (vi 0), none, none, none]) hX dX12_sings_180 rfl rfl (Nat.le_of_ble_eq_true rfl) ?_
    obtain ⟨n1202, h⟩ := h
    refine t_Mo_sings_L181 hX hq hlv0 hr_Mo_sings ?_ n1202 _ _ h
    intro M1201 h
    exact s_vret hX hq rfl dX12_sings_220 h
  · replace h := h.2 c
    refine s_iconst (v := 1) hX dX12_sings_8 rfl ?_
    refine s_istore_n (lv' := [some (vr c_mo), some (vi a0), some (vi a1), some (vi 1), none, none, none]) hX dX12_sings_9 rfl rfl (Nat.le_of_ble_eq_true rfl) ?_
    refine s_iconst (v := 0) hX dX12_sings_10 rfl ?_
    refine s_istore (lv' := [some (vr c_mo), some (vi a0), some (vi a1), some (vi 1), some (vi 0), none, none]) hX dX12_sings_11 rfl rfl (Nat.le_of_ble_eq_true rfl) ?_
    refine s_mask [true, false, true, true, true, true, true] (lv' := [some (vr c_mo), none, some (vi a1), some (vi 1), some (vi 0), none, none]) rfl rfl ?_
    obtain ⟨n1218, h⟩ := h
    refine t_Mo_sings_L13 hX hq hlv0 hr_Mo_sings ?_ n1218 _ _ _ h
    intro y1213 M1212 h
    refine s_iconst (v := 0) hX dX12_sings_116 rfl ?_
    refine s_istore (lv' := [some (vr c_mo), none, some (vi a1), some (vi y1213), some (vi 0), none, none]) hX dX12_sings_117 rfl rfl (Nat.le_of_ble_eq_true rfl) ?_
    obtain ⟨n1217, h⟩ := h
    refine t_Mo_sings_L119 hX hq hlv0 hr_Mo_sings ?_ n1217 _ _ h
    intro M1216 h
    exact t_Mo_sings_j160 hX hq hlv0 hr_Mo_sings h
def wg_Mo_sings : Nat → (Int32 → Int32 → Mem → (Mem → Prop) → Prop)
  | 0 => (fun _ _ _ _ => False)
  | n + 1 => (fun a0 a1 M Q => w_Mo_sings_body (wg_Mo_sings n) a0 a1 M Q)
def w_Mo_sings (n : Nat) (a0 : Int32) (a1 : Int32) (M : Mem) (Q : Mem → Prop) : Prop := wg_Mo_sings n a0 a1 M Q
theorem cg_Mo_sings : ∀ n : Nat, (∀ (a0 : Int32) (a1 : Int32) M Q, w_Mo_sings n a0 a1 M Q → CV yX12_sings cX12_sings 7 none (1 + n) 0 0 LY LY [vr c_mo, vi a0, vi a1] M Q) := by
  intro n
  induction n with
  | zero => exact fun _ _ _ _ h => h.elim
  | succ n ih => exact fun a0 a1 M Q h => mk_v rfl wd_co_X12_sings rfl rfl (Nat.le_of_ble_eq_true rfl) (fun X hX hq => t_Mo_sings hX hq (Nat.le_add_right 1 n) (ih) h)
theorem c_Mo_sings (n : Nat) {a0 : Int32} {a1 : Int32} {M : Mem} {Q : Mem → Prop} (h : w_Mo_sings n a0 a1 M Q) : CV yX12_sings cX12_sings 7 none (1 + n) 0 0 LY LY [vr c_mo, vi a0, vi a1] M Q := (cg_Mo_sings n) _ _ _ _ h
def w_Mo_sang (a0 : Int32) (M : Mem) (Q : Int32 → Mem → Prop) : Prop :=
  w_Mo_isHour a0 (si M c_mo Mo_thrown 0) (fun b1177 M1176 => ((b1177 = true → w_Mo_findHour a0 M1176 (fun M1195 => (∃ n1220, n1220 ≤ 64 ∧ w_Mo_sings n1220 0 (-1) (si M1195 c_mo Mo_rowsMany 0) (fun M1219 => Q (M1219.1 c_mo Mo_rowsMany) M1219)))) ∧ (b1177 = false → Q (-1) M1176)))
set_option maxHeartbeats 4000000 in
theorem t_Mo_sang {X : Cx} (hX : Cok X cX12_sang RX12 2 ((some .int)) 66 0 0) {Q : Int32 → Mem → Prop} (hq : RI X 0 0 LY Q) {M : Mem} {a0 : Int32} (h : w_Mo_sang a0 M Q) : Wat X 0 0 LY 0 [some (vr c_mo), some (vi a0)] [] M := by
  refine s_aload_n hX dX12_sang_0 rfl ?_
  refine s_iconst (v := 0) hX dX12_sang_1 rfl ?_
  refine s_puti hX fi_X12_1 fp_X12 rfl (by decide +kernel) ly_c_mo rfl dX12_sang_2 ?_
  refine s_iload_n hX dX12_sang_5 rfl ?_
  refine s_csi (as := [vi a0]) (rest := []) hX (c_Mo_isHour h) ms_Mo_isHour wd_ml_X12_358 dX12_sang_6 rfl (Nat.le_of_ble_eq_true rfl) rfl (by decide) ⟨Nat.zero_le _, Nat.zero_le _⟩ (fun b1177_ M1176 h => ?_)
  obtain ⟨b1177, rfl, h⟩ := h
  refine s_if_ne (tgt := 14) hX dX12_sang_9 (by decide) (fun c => ?_) (fun c => ?_)
  · replace h := h.1 (b2i_1 c)
    refine s_aload_n hX dX12_sang_14 rfl ?_
    refine s_iload_n hX dX12_sang_15 rfl ?_
    refine s_cvv (as := [vi a0]) (rest := []) hX (c_Mo_findHour h) mv_Mo_findHour wd_ml_X12_416 dX12_sang_16 ly_c_mo rfl rfl (Nat.le_of_ble_eq_true rfl) rfl (by decide) ⟨Nat.zero_le _, Nat.zero_le _⟩ (fun M1195 h => ?_)
    refine s_aload_n hX dX12_sang_19 rfl ?_
    refine s_iconst (v := 0) hX dX12_sang_20 rfl ?_
    refine s_puti hX fi_X12_410 fp_X12 rfl (by decide +kernel) ly_c_mo rfl dX12_sang_21 ?_
    refine s_aload_n hX dX12_sang_24 rfl ?_
    refine s_iconst (v := 0) hX dX12_sang_25 rfl ?_
    refine s_iconst (v := (-1)) hX dX12_sang_26 rfl ?_
    obtain ⟨n1220, hn, h⟩ := h
    refine s_cvv (as := [vi 0, vi (-1)]) (rest := []) hX (c_Mo_sings n1220 h) mv_Mo_sings wd_ml_X12_413 dX12_sang_27 ly_c_mo rfl rfl (Nat.le_of_ble_eq_true rfl) rfl (by omega) ⟨Nat.zero_le _, Nat.zero_le _⟩ (fun M1219 h => ?_)
    refine s_aload_n hX dX12_sang_30 rfl ?_
    refine s_getiv (v := (M1219.1 c_mo Mo_rowsMany)) hX fi_X12_410 ly_c_mo rfl dX12_sang_31 rfl ?_
    exact s_iret hX hq rfl dX12_sang_34 h
  · replace h := h.2 (b2i_0 c)
    refine s_iconst (v := (-1)) hX dX12_sang_12 rfl ?_
    exact s_iret hX hq rfl dX12_sang_13 h
theorem c_Mo_sang {a0 : Int32} {M : Mem} {Q : Int32 → Mem → Prop} (h : w_Mo_sang a0 M Q) : CI yX12_sang cX12_sang 2 ((some .int)) 66 0 0 LY LY [vr c_mo, vi a0] M Q := mk_i rfl wd_co_X12_sang rfl rfl (Nat.le_of_ble_eq_true rfl) (fun X hX hq => t_Mo_sang hX hq h)
theorem mv_Mo_sang : MV yX12_sang cX12_sang 2 ((some .int)) RX12 1 := ⟨wd_co_X12_sang, wd_im_X12_sang, wd_se_X12_sang, wd_in_X12, by decide +kernel, by decide⟩
def w_Mo_song (a0 : Int32) (a1 : Int32) (a2 : Int32) (M : Mem) (Q : Int32 → Mem → Prop) : Prop :=
  w_Mo_isHour a0 (si M c_mo Mo_thrown 0) (fun b1222 M1221 => ((b1222 = false → Q (-1) M1221) ∧ (b1222 = true → ((a1 < 0 → Q (-1) M1221) ∧ (¬ a1 < 0 → w_Mo_isBird a2 M1221 (fun b1224 M1223 => ((b1224 = false → Q (-1) M1223) ∧ (b1224 = true → w_Mo_isShot a2 M1223 (fun b1226 M1225 => ((b1226 = false → w_Mo_findHour a0 M1225 (fun M1227 => (∃ n1229, n1229 ≤ 64 ∧ w_Mo_sings n1229 0 a1 (si M1227 c_mo Mo_rowsMany 0) (fun M1228 => (((M1228.1 c_mo Mo_rowsMany) ≤ a1 → Q (-1) M1228) ∧ (¬ (M1228.1 c_mo Mo_rowsMany) ≤ a1 → (vp_in a2 5 ∧ Q (M1228.1 c_mo_asked (Int32.toNatClampNeg a2)) M1228))))))) ∧ (b1226 = true → Q (-1) M1225)))))))))))
set_option maxHeartbeats 4000000 in
theorem t_Mo_song {X : Cx} (hX : Cok X cX12_song RX12 4 ((some .int)) 66 0 0) {Q : Int32 → Mem → Prop} (hq : RI X 0 0 LY Q) {M : Mem} {a0 : Int32} {a1 : Int32} {a2 : Int32} (h : w_Mo_song a0 a1 a2 M Q) : Wat X 0 0 LY 0 [some (vr c_mo), some (vi a0), some (vi a1), some (vi a2)] [] M := by
  refine s_aload_n hX dX12_song_0 rfl ?_
  refine s_iconst (v := 0) hX dX12_song_1 rfl ?_
  refine s_puti hX fi_X12_1 fp_X12 rfl (by decide +kernel) ly_c_mo rfl dX12_song_2 ?_
  refine s_iload_n hX dX12_song_5 rfl ?_
  refine s_csi (as := [vi a0]) (rest := []) hX (c_Mo_isHour h) ms_Mo_isHour wd_ml_X12_358 dX12_song_6 rfl (Nat.le_of_ble_eq_true rfl) rfl (by decide) ⟨Nat.zero_le _, Nat.zero_le _⟩ (fun b1222_ M1221 h => ?_)
  obtain ⟨b1222, rfl, h⟩ := h
  refine s_if_eq (tgt := 32) hX dX12_song_9 (by decide) (fun c => ?_) (fun c => ?_)
  · replace h := h.1 (b2i_0 c)
    refine s_iconst (v := (-1)) hX dX12_song_32 rfl ?_
    exact s_iret hX hq rfl dX12_song_33 h
  · replace h := h.2 (b2i_1 c)
    refine s_iload_n hX dX12_song_12 rfl ?_
    refine s_if_lt (tgt := 32) hX dX12_song_13 (by decide) (fun c => ?_) (fun c => ?_)
    · replace h := h.1 c
      refine s_iconst (v := (-1)) hX dX12_song_32 rfl ?_
      exact s_iret hX hq rfl dX12_song_33 h
    · replace h := h.2 c
      refine s_aload_n hX dX12_song_16 rfl ?_
      refine s_iload_n hX dX12_song_17 rfl ?_
      refine s_cvi (as := [vi a2]) (rest := []) hX (c_Mo_isBird h) mv_Mo_isBird wd_ml_X12_361 dX12_song_18 ly_c_mo rfl rfl (Nat.le_of_ble_eq_true rfl) rfl (by decide) ⟨Nat.zero_le _, Nat.zero_le _⟩ (fun b1224_ M1223 h => ?_)
      obtain ⟨b1224, rfl, h⟩ := h
      refine s_if_eq (tgt := 32) hX dX12_song_21 (by decide) (fun c => ?_) (fun c => ?_)
      · replace h := h.1 (b2i_0 c)
        refine s_iconst (v := (-1)) hX dX12_song_32 rfl ?_
        exact s_iret hX hq rfl dX12_song_33 h
      · replace h := h.2 (b2i_1 c)
        refine s_aload_n hX dX12_song_24 rfl ?_
        refine s_iload_n hX dX12_song_25 rfl ?_
        refine s_cvi (as := [vi a2]) (rest := []) hX (c_Mo_isShot h) mv_Mo_isShot wd_ml_X12_342 dX12_song_26 ly_c_mo rfl rfl (Nat.le_of_ble_eq_true rfl) rfl (by decide) ⟨Nat.zero_le _, Nat.zero_le _⟩ (fun b1226_ M1225 h => ?_)
        obtain ⟨b1226, rfl, h⟩ := h
        refine s_if_eq (tgt := 34) hX dX12_song_29 (by decide) (fun c => ?_) (fun c => ?_)
        · replace h := h.1 (b2i_0 c)
          refine s_aload_n hX dX12_song_34 rfl ?_
          refine s_iload_n hX dX12_song_35 rfl ?_
          refine s_cvv (as := [vi a0]) (rest := []) hX (c_Mo_findHour h) mv_Mo_findHour wd_ml_X12_416 dX12_song_36 ly_c_mo rfl rfl (Nat.le_of_ble_eq_true rfl) rfl (by decide) ⟨Nat.zero_le _, Nat.zero_le _⟩ (fun M1227 h => ?_)
          refine s_aload_n hX dX12_song_39 rfl ?_
          refine s_iconst (v := 0) hX dX12_song_40 rfl ?_
          refine s_puti hX fi_X12_410 fp_X12 rfl (by decide +kernel) ly_c_mo rfl dX12_song_41 ?_
          refine s_aload_n hX dX12_song_44 rfl ?_
          refine s_iconst (v := 0) hX dX12_song_45 rfl ?_
          refine s_iload_n hX dX12_song_46 rfl ?_
          obtain ⟨n1229, hn, h⟩ := h
          refine s_cvv (as := [vi 0, vi a1]) (rest := []) hX (c_Mo_sings n1229 h) mv_Mo_sings wd_ml_X12_413 dX12_song_47 ly_c_mo rfl rfl (Nat.le_of_ble_eq_true rfl) rfl (by omega) ⟨Nat.zero_le _, Nat.zero_le _⟩ (fun M1228 h => ?_)
          refine s_iload_n hX dX12_song_50 rfl ?_
          refine s_aload_n hX dX12_song_51 rfl ?_
          refine s_getiv (v := (M1228.1 c_mo Mo_rowsMany)) hX fi_X12_410 ly_c_mo rfl dX12_song_52 rfl ?_
          refine s_icmp_ge (tgt := 67) hX dX12_song_55 (by decide) (fun c => ?_) (fun c => ?_)
          · replace h := h.1 c
            refine s_iconst (v := (-1)) hX dX12_song_67 rfl ?_
            exact s_iret hX hq rfl dX12_song_68 h
          · replace h := h.2 c
            refine s_aload_n hX dX12_song_58 rfl ?_
            refine s_getr hX fi_X12_143 ly_c_mo rfl dX12_song_59 ?_
            refine s_iload_n hX dX12_song_62 rfl ?_
            have hi := h.1
            replace h := h.2
            refine s_ialdv (v := (M1228.1 c_mo_asked (Int32.toNatClampNeg a2))) hX ly_c_mo_asked hi dX12_song_63 rfl ?_
            refine s_goto (tgt := 68) hX dX12_song_64 (by decide) ?_
            exact s_iret hX hq rfl dX12_song_68 h
        · replace h := h.2 (b2i_1 c)
          refine s_iconst (v := (-1)) hX dX12_song_32 rfl ?_
          exact s_iret hX hq rfl dX12_song_33 h
theorem c_Mo_song {a0 : Int32} {a1 : Int32} {a2 : Int32} {M : Mem} {Q : Int32 → Mem → Prop} (h : w_Mo_song a0 a1 a2 M Q) : CI yX12_song cX12_song 4 ((some .int)) 66 0 0 LY LY [vr c_mo, vi a0, vi a1, vi a2] M Q := mk_i rfl wd_co_X12_song rfl rfl (Nat.le_of_ble_eq_true rfl) (fun X hX hq => t_Mo_song hX hq h)
theorem mv_Mo_song : MV yX12_song cX12_song 4 ((some .int)) RX12 3 := ⟨wd_co_X12_song, wd_im_X12_song, wd_se_X12_song, wd_in_X12, by decide +kernel, by decide⟩
def w_Mo_wooden_L78 (l1 : Int32) (l2 : Int32) (l3 : Int32) (l4 : Int32) (l5 : Int32) (l6 : Int32) (K : Int32 → Mem → Prop) (Q : Int32 → Mem → Prop) : Nat → Int32 → Int32 → Mem → Prop
  | 0, _, _, _ => False
  | n + 1, l7, l8, M => ((6 ≤ l8 → K l7 M) ∧ (¬ 6 ≤ l8 → (vp_in ((6 * l6) + l8) 36 ∧ ∀ x1238 : Int32, x1238 = (l7 + (M.1 c_mo_owes (Int32.toNatClampNeg ((6 * l6) + l8)))) → w_Mo_wooden_L78 l1 l2 l3 l4 l5 l6 K Q n x1238 (l8 + 1) M)))
set_option maxHeartbeats 4000000 in
theorem t_Mo_wooden_L78 {X : Cx} (hX : Cok X cX12_wooden RX12 9 ((some .int)) 7 0 0) {Q : Int32 → Mem → Prop} (hq : RI X 0 0 LY Q) {l1 : Int32} {l2 : Int32} {l3 : Int32} {l4 : Int32} {l5 : Int32} {l6 : Int32} {K : Int32 → Mem → Prop} (hK : ∀ (l7 : Int32) (M : Mem), K l7 M → Wat X 0 0 LY 109 [some (vr c_mo), some (vi l1), some (vi l2), some (vi l3), some (vi l4), some (vi l5), some (vi l6), some (vi l7), none] [] M) : ∀ (n : Nat) (l7 : Int32) (l8 : Int32) (M : Mem), w_Mo_wooden_L78 l1 l2 l3 l4 l5 l6 K Q n l7 l8 M → Wat X 0 0 LY 78 [some (vr c_mo), some (vi l1), some (vi l2), some (vi l3), some (vi l4), some (vi l5), some (vi l6), some (vi l7), some (vi l8)] [] M := by
  intro n
  induction n with
  | zero => intro _ _ _ h; exact h.elim
  | succ n ih =>
    intro l7 l8 M h
    refine s_iload hX dX12_wooden_78 rfl ?_
    refine s_bipush (v := 6) hX dX12_wooden_80 rfl ?_
    refine s_icmp_ge (tgt := 109) hX dX12_wooden_82 (by decide) (fun c => ?_) (fun c => ?_)
    · replace h := h.1 c
      refine s_mask [true, true, true, true, true, true, true, true, false] (lv' := [some (vr c_mo), some (vi l1), some (vi l2), some (vi l3), some (vi l4), some (vi l5), some (vi l6), some (vi l7), none]) rfl rfl ?_
      exact hK _ _ h
    · replace h := h.2 c
      refine s_iload hX dX12_wooden_85 rfl ?_
      refine s_aload_n hX dX12_wooden_87 rfl ?_
      refine s_getr hX fi_X12_131 ly_c_mo rfl dX12_wooden_88 ?_
      refine s_bipush (v := 6) hX dX12_wooden_91 rfl ?_
      refine s_iload hX dX12_wooden_93 rfl ?_
      refine s_imul hX dX12_wooden_95 ?_
      refine s_iload hX dX12_wooden_96 rfl ?_
      refine s_iadd hX dX12_wooden_98 ?_
      have hi := h.1
      replace h := h.2
      refine s_ialdv (v := (M.1 c_mo_owes (Int32.toNatClampNeg ((6 * l6) + l8)))) hX ly_c_mo_owes hi dX12_wooden_99 rfl ?_
      refine s_iadd hX dX12_wooden_100 ?_
      refine s_nmi (fun x1238 ex1238 => ?_)
      replace h := h x1238 ex1238
      refine s_istore (lv' := [some (vr c_mo), some (vi l1), some (vi l2), some (vi l3), some (vi l4), some (vi l5), some (vi l6), some (vi x1238), some (vi l8)]) hX dX12_wooden_101 rfl rfl (Nat.le_of_ble_eq_true rfl) ?_
      refine s_iinc (v := (l8 + 1)) (lv' := [some (vr c_mo), some (vi l1), some (vi l2), some (vi l3), some (vi l4), some (vi l5), some (vi l6), some (vi x1238), some (vi (l8 + 1))]) hX dX12_wooden_103 rfl rfl rfl rfl ?_
      refine s_goto (tgt := 78) hX dX12_wooden_106 (by decide) ?_
      exact ih _ _ _ h
def w_Mo_wooden_L63 (l1 : Int32) (l2 : Int32) (l3 : Int32) (l4 : Int32) (K : Int32 → Mem → Prop) (Q : Int32 → Mem → Prop) : Nat → Int32 → Int32 → Mem → Prop
  | 0, _, _, _ => False
  | n + 1, l5, l6, M => w_Mo_persons M (fun r1237 M1236 => ((r1237 ≤ l6 → K l5 M1236) ∧ (¬ r1237 ≤ l6 → (∃ n1242, w_Mo_wooden_L78 l1 l2 l3 l4 l5 l6 (fun y1240 M1239 => ((l5 = 0 → w_Mo_wooden_L63 l1 l2 l3 l4 K Q n 0 (l6 + 1) M1239) ∧ (¬ l5 = 0 → (vp_in (121 + l6) 3200 ∧ (((M1239.1 c_mo_state (Int32.toNatClampNeg (121 + l6))) < 0 → w_Mo_wooden_L63 l1 l2 l3 l4 K Q n 1 (l6 + 1) M1239) ∧ (¬ (M1239.1 c_mo_state (Int32.toNatClampNeg (121 + l6))) < 0 → (vp_in (121 + l6) 3200 ∧ ∀ x1241 : Int32, x1241 = (if (M1239.1 c_mo_state (Int32.toNatClampNeg (121 + l6))) = y1240 then (1 : Int32) else 0) → w_Mo_wooden_L63 l1 l2 l3 l4 K Q n x1241 (l6 + 1) M1239))))))) Q n1242 0 0 M1236))))
set_option maxHeartbeats 4000000 in
theorem t_Mo_wooden_L63 {X : Cx} (hX : Cok X cX12_wooden RX12 9 ((some .int)) 7 0 0) {Q : Int32 → Mem → Prop} (hq : RI X 0 0 LY Q) {l1 : Int32} {l2 : Int32} {l3 : Int32} {l4 : Int32} {K : Int32 → Mem → Prop} (hK : ∀ (l5 : Int32) (M : Mem), K l5 M → Wat X 0 0 LY 155 [some (vr c_mo), some (vi l1), some (vi l2), some (vi l3), some (vi l4), some (vi l5), none, none, none] [] M) : ∀ (n : Nat) (l5 : Int32) (l6 : Int32) (M : Mem), w_Mo_wooden_L63 l1 l2 l3 l4 K Q n l5 l6 M → Wat X 0 0 LY 63 [some (vr c_mo), some (vi l1), some (vi l2), some (vi l3), some (vi l4), some (vi l5), some (vi l6), none, none] [] M := by
  intro n
  induction n with
  | zero => intro _ _ _ h; exact h.elim
  | succ n ih =>
    intro l5 l6 M h
    refine s_iload hX dX12_wooden_63 rfl ?_
    refine s_aload_n hX dX12_wooden_65 rfl ?_
    refine s_cvi (as := []) (rest := [vi l6]) hX (c_Mo_persons h) mv_Mo_persons wd_ml_X12_226 dX12_wooden_66 ly_c_mo rfl rfl (Nat.le_of_ble_eq_true rfl) rfl (by decide) ⟨Nat.zero_le _, Nat.zero_le _⟩ (fun r1237 M1236 h => ?_)
    refine s_icmp_ge (tgt := 155) hX dX12_wooden_69 (by decide) (fun c => ?_) (fun c => ?_)
    · replace h := h.1 c
      refine s_mask [true, true, true, true, true, true, false, true, true] (lv' := [some (vr c_mo), some (vi l1), some (vi l2), some (vi l3), some (vi l4), some (vi l5), none, none, none]) rfl rfl ?_
      exact hK _ _ h
    · replace h := h.2 c
      refine s_iconst (v := 0) hX dX12_wooden_72 rfl ?_
      refine s_istore (lv' := [some (vr c_mo), some (vi l1), some (vi l2), some (vi l3), some (vi l4), some (vi l5), some (vi l6), some (vi 0), none]) hX dX12_wooden_73 rfl rfl (Nat.le_of_ble_eq_true rfl) ?_
      refine s_iconst (v := 0) hX dX12_wooden_75 rfl ?_
      refine s_istore (lv' := [some (vr c_mo), some (vi l1), some (vi l2), some (vi l3), some (vi l4), some (vi l5), some (vi l6), some (vi 0), some (vi 0)]) hX dX12_wooden_76 rfl rfl (Nat.le_of_ble_eq_true rfl) ?_
      obtain ⟨n1242, h⟩ := h
      refine t_Mo_wooden_L78 hX hq ?_ n1242 _ _ _ h
      intro y1240 M1239 h
      refine s_iload hX dX12_wooden_109 rfl ?_
      refine s_if_eq (tgt := 146) hX dX12_wooden_111 (by decide) (fun c => ?_) (fun c => ?_)
      · replace h := h.1 c
        refine s_iconst (v := 0) hX dX12_wooden_146 rfl ?_
        refine s_istore (lv' := [some (vr c_mo), some (vi l1), some (vi l2), some (vi l3), some (vi l4), some (vi 0), some (vi l6), some (vi y1240), none]) hX dX12_wooden_147 rfl rfl (Nat.le_of_ble_eq_true rfl) ?_
        refine s_iinc (v := (l6 + 1)) (lv' := [some (vr c_mo), some (vi l1), some (vi l2), some (vi l3), some (vi l4), some (vi 0), some (vi (l6 + 1)), some (vi y1240), none]) hX dX12_wooden_149 rfl rfl rfl rfl ?_
        refine s_goto (tgt := 63) hX dX12_wooden_152 (by decide) ?_
        refine s_mask [true, true, true, true, true, true, true, false, true] (lv' := [some (vr c_mo), some (vi l1), some (vi l2), some (vi l3), some (vi l4), some (vi 0), some (vi (l6 + 1)), none, none]) rfl rfl ?_
        exact ih _ _ _ h
      · replace h := h.2 c
        refine s_aload_n hX dX12_wooden_114 rfl ?_
        refine s_getr hX fi_X12_115 ly_c_mo rfl dX12_wooden_115 ?_
        refine s_bipush (v := 121) hX dX12_wooden_118 rfl ?_
        refine s_iload hX dX12_wooden_120 rfl ?_
        refine s_iadd hX dX12_wooden_122 ?_
        have hi := h.1
        replace h := h.2
        refine s_ialdv (v := (M1239.1 c_mo_state (Int32.toNatClampNeg (121 + l6)))) hX ly_c_mo_state hi dX12_wooden_123 rfl ?_
        refine s_if_lt (tgt := 142) hX dX12_wooden_124 (by decide) (fun c => ?_) (fun c => ?_)
        · replace h := h.1 c
          refine s_iconst (v := 1) hX dX12_wooden_142 rfl ?_
          refine s_goto (tgt := 147) hX dX12_wooden_143 (by decide) ?_
          refine s_istore (lv' := [some (vr c_mo), some (vi l1), some (vi l2), some (vi l3), some (vi l4), some (vi 1), some (vi l6), some (vi y1240), none]) hX dX12_wooden_147 rfl rfl (Nat.le_of_ble_eq_true rfl) ?_
          refine s_iinc (v := (l6 + 1)) (lv' := [some (vr c_mo), some (vi l1), some (vi l2), some (vi l3), some (vi l4), some (vi 1), some (vi (l6 + 1)), some (vi y1240), none]) hX dX12_wooden_149 rfl rfl rfl rfl ?_
          refine s_goto (tgt := 63) hX dX12_wooden_152 (by decide) ?_
          refine s_mask [true, true, true, true, true, true, true, false, true] (lv' := [some (vr c_mo), some (vi l1), some (vi l2), some (vi l3), some (vi l4), some (vi 1), some (vi (l6 + 1)), none, none]) rfl rfl ?_
          exact ih _ _ _ h
        · replace h := h.2 c
          refine s_aload_n hX dX12_wooden_127 rfl ?_
          refine s_getr hX fi_X12_115 ly_c_mo rfl dX12_wooden_128 ?_
          refine s_bipush (v := 121) hX dX12_wooden_131 rfl ?_
          refine s_iload hX dX12_wooden_133 rfl ?_
          refine s_iadd hX dX12_wooden_135 ?_
          have hi := h.1
          replace h := h.2
          refine s_ialdv (v := (M1239.1 c_mo_state (Int32.toNatClampNeg (121 + l6)))) hX ly_c_mo_state hi dX12_wooden_136 rfl ?_
          refine s_iload hX dX12_wooden_137 rfl ?_
          have hJ : Wat X 0 0 LY 147 [some (vr c_mo), some (vi l1), some (vi l2), some (vi l3), some (vi l4), some (vi l5), some (vi l6), some (vi y1240), none] [vi (if (M1239.1 c_mo_state (Int32.toNatClampNeg (121 + l6))) = y1240 then (1 : Int32) else 0)] M1239 := by
            refine s_nmi (fun x1241 ex1241 => ?_)
            replace h := h x1241 ex1241
            refine s_istore (lv' := [some (vr c_mo), some (vi l1), some (vi l2), some (vi l3), some (vi l4), some (vi x1241), some (vi l6), some (vi y1240), none]) hX dX12_wooden_147 rfl rfl (Nat.le_of_ble_eq_true rfl) ?_
            refine s_iinc (v := (l6 + 1)) (lv' := [some (vr c_mo), some (vi l1), some (vi l2), some (vi l3), some (vi l4), some (vi x1241), some (vi (l6 + 1)), some (vi y1240), none]) hX dX12_wooden_149 rfl rfl rfl rfl ?_
            refine s_goto (tgt := 63) hX dX12_wooden_152 (by decide) ?_
            refine s_mask [true, true, true, true, true, true, true, false, true] (lv' := [some (vr c_mo), some (vi l1), some (vi l2), some (vi l3), some (vi l4), some (vi x1241), some (vi (l6 + 1)), none, none]) rfl rfl ?_
            exact ih _ _ _ h
          refine s_icmp_ne (tgt := 146) hX dX12_wooden_139 (by decide) (fun c => ?_) (fun c => ?_)
          · rw [if_neg c] at hJ
            refine s_iconst (v := 0) hX dX12_wooden_146 rfl ?_
            exact hJ
          · rw [if_pos c] at hJ
            refine s_iconst (v := 1) hX dX12_wooden_142 rfl ?_
            refine s_goto (tgt := 147) hX dX12_wooden_143 (by decide) ?_
            exact hJ
def w_Mo_wooden_j170 (R : Int32 → Int32 → Int32 → Mem → Prop) (K : Int32 → Int32 → Mem → Prop) (l1 : Int32) (l3 : Int32) (l4 : Int32) (l5 : Int32) (s0 : Int32) (M : Mem) (Q : Int32 → Mem → Prop) : Prop :=
  ∀ x1245 : Int32, x1245 = (l3 + (if l5 = 0 then (0 : Int32) else 1)) → R s0 x1245 (l4 + 1) M
set_option maxHeartbeats 4000000 in
theorem t_Mo_wooden_j170 {X : Cx} (hX : Cok X cX12_wooden RX12 9 ((some .int)) 7 0 0) {Q : Int32 → Mem → Prop} (hq : RI X 0 0 LY Q) {l1 : Int32} {R : Int32 → Int32 → Int32 → Mem → Prop} {K : Int32 → Int32 → Mem → Prop} (hR : ∀ (l2 : Int32) (l3 : Int32) (l4 : Int32) (M : Mem), R l2 l3 l4 M → Wat X 0 0 LY 27 [some (vr c_mo), some (vi l1), some (vi l2), some (vi l3), some (vi l4), none, none, none, none] [] M) (hK : ∀ (l2 : Int32) (l3 : Int32) (M : Mem), K l2 l3 M → Wat X 0 0 LY 190 [none, some (vi l1), some (vi l2), some (vi l3), none, none, none, none, none] [] M) {l3 : Int32} {l4 : Int32} {l5 : Int32} {s0 : Int32} {M : Mem} (h : w_Mo_wooden_j170 R K l1 l3 l4 l5 s0 M Q) : Wat X 0 0 LY 170 [some (vr c_mo), some (vi l1), none, some (vi l3), some (vi l4), some (vi l5), none, none, none] [vi s0] M := by
  refine s_istore_n (lv' := [some (vr c_mo), some (vi l1), some (vi s0), some (vi l3), some (vi l4), some (vi l5), none, none, none]) hX dX12_wooden_170 rfl rfl (Nat.le_of_ble_eq_true rfl) ?_
  refine s_iload_n hX dX12_wooden_171 rfl ?_
  refine s_iload hX dX12_wooden_172 rfl ?_
  have hJ : Wat X 0 0 LY 182 [some (vr c_mo), some (vi l1), some (vi s0), some (vi l3), some (vi l4), some (vi l5), none, none, none] [vi (if l5 = 0 then (0 : Int32) else 1), vi l3] M := by
    refine s_iadd hX dX12_wooden_182 ?_
    refine s_nmi (fun x1245 ex1245 => ?_)
    replace h := h x1245 ex1245
    refine s_istore_n (lv' := [some (vr c_mo), some (vi l1), some (vi s0), some (vi x1245), some (vi l4), some (vi l5), none, none, none]) hX dX12_wooden_183 rfl rfl (Nat.le_of_ble_eq_true rfl) ?_
    refine s_iinc (v := (l4 + 1)) (lv' := [some (vr c_mo), some (vi l1), some (vi s0), some (vi x1245), some (vi (l4 + 1)), some (vi l5), none, none, none]) hX dX12_wooden_184 rfl rfl rfl rfl ?_
    refine s_goto (tgt := 27) hX dX12_wooden_187 (by decide) ?_
    refine s_mask [true, true, true, true, true, false, true, true, true] (lv' := [some (vr c_mo), some (vi l1), some (vi s0), some (vi x1245), some (vi (l4 + 1)), none, none, none, none]) rfl rfl ?_
    exact hR _ _ _ _ h
  refine s_if_eq (tgt := 181) hX dX12_wooden_174 (by decide) (fun c => ?_) (fun c => ?_)
  · rw [if_pos c] at hJ
    refine s_iconst (v := 0) hX dX12_wooden_181 rfl ?_
    exact hJ
  · rw [if_neg c] at hJ
    refine s_iconst (v := 1) hX dX12_wooden_177 rfl ?_
    refine s_goto (tgt := 182) hX dX12_wooden_178 (by decide) ?_
    exact hJ
def w_Mo_wooden_j169 (R : Int32 → Int32 → Int32 → Mem → Prop) (K : Int32 → Int32 → Mem → Prop) (l1 : Int32) (l2 : Int32) (l3 : Int32) (l4 : Int32) (l5 : Int32) (M : Mem) (Q : Int32 → Mem → Prop) : Prop :=
  w_Mo_wooden_j170 (fun l2 l3 l4 M => R l2 l3 l4 M) K l1 l3 l4 l5 l2 M Q
set_option maxHeartbeats 4000000 in
theorem t_Mo_wooden_j169 {X : Cx} (hX : Cok X cX12_wooden RX12 9 ((some .int)) 7 0 0) {Q : Int32 → Mem → Prop} (hq : RI X 0 0 LY Q) {l1 : Int32} {R : Int32 → Int32 → Int32 → Mem → Prop} {K : Int32 → Int32 → Mem → Prop} (hR : ∀ (l2 : Int32) (l3 : Int32) (l4 : Int32) (M : Mem), R l2 l3 l4 M → Wat X 0 0 LY 27 [some (vr c_mo), some (vi l1), some (vi l2), some (vi l3), some (vi l4), none, none, none, none] [] M) (hK : ∀ (l2 : Int32) (l3 : Int32) (M : Mem), K l2 l3 M → Wat X 0 0 LY 190 [none, some (vi l1), some (vi l2), some (vi l3), none, none, none, none, none] [] M) {l2 : Int32} {l3 : Int32} {l4 : Int32} {l5 : Int32} {M : Mem} (h : w_Mo_wooden_j169 R K l1 l2 l3 l4 l5 M Q) : Wat X 0 0 LY 169 [some (vr c_mo), some (vi l1), some (vi l2), some (vi l3), some (vi l4), some (vi l5), none, none, none] [] M := by
  refine s_iload_n hX dX12_wooden_169 rfl ?_
  refine s_mask [true, true, false, true, true, true, true, true, true] (lv' := [some (vr c_mo), some (vi l1), none, some (vi l3), some (vi l4), some (vi l5), none, none, none]) rfl rfl ?_
  exact t_Mo_wooden_j170 hX hq (fun _ _ _ _ h => hR _ _ _ _ h) hK h
def w_Mo_wooden_L27 (l1 : Int32) (K : Int32 → Int32 → Mem → Prop) (Q : Int32 → Mem → Prop) : Nat → Int32 → Int32 → Int32 → Mem → Prop
  | 0, _, _, _, _ => False
  | n + 1, l2, l3, l4, M => w_Mo_birds M (fun r1234 M1233 => (((1 <<< (r1234 &&& 31)) ≤ l4 → K l2 l3 M1233) ∧ (¬ (1 <<< (r1234 &&& 31)) ≤ l4 → (vp_in 120 3200 ∧ ((¬ (l4 &&& (M1233.1 c_mo_state (Int32.toNatClampNeg 120))) = 0 → w_Mo_wooden_L27 l1 K Q n l2 l3 (l4 + 1) M1233) ∧ ((l4 &&& (M1233.1 c_mo_state (Int32.toNatClampNeg 120))) = 0 → w_Mo_findOwes l4 M1233 (fun M1235 => (∃ n1246, w_Mo_wooden_L63 l1 l2 l3 l4 (fun y1244 M1243 => ((y1244 = 0 → w_Mo_wooden_j169 (fun l2 l3 l4 M => w_Mo_wooden_L27 l1 K Q n l2 l3 l4 M) K l1 l2 l3 l4 y1244 M1243 Q) ∧ (¬ y1244 = 0 → w_Mo_wooden_j170 (fun l2 l3 l4 M => w_Mo_wooden_L27 l1 K Q n l2 l3 l4 M) K l1 l3 l4 y1244 (if 0 ≤ l2 then l2 else l4) M1243 Q))) Q n1246 1 0 M1235))))))))
set_option maxHeartbeats 4000000 in
theorem t_Mo_wooden_L27 {X : Cx} (hX : Cok X cX12_wooden RX12 9 ((some .int)) 7 0 0) {Q : Int32 → Mem → Prop} (hq : RI X 0 0 LY Q) {l1 : Int32} {K : Int32 → Int32 → Mem → Prop} (hK : ∀ (l2 : Int32) (l3 : Int32) (M : Mem), K l2 l3 M → Wat X 0 0 LY 190 [none, some (vi l1), some (vi l2), some (vi l3), none, none, none, none, none] [] M) : ∀ (n : Nat) (l2 : Int32) (l3 : Int32) (l4 : Int32) (M : Mem), w_Mo_wooden_L27 l1 K Q n l2 l3 l4 M → Wat X 0 0 LY 27 [some (vr c_mo), some (vi l1), some (vi l2), some (vi l3), some (vi l4), none, none, none, none] [] M := by
  intro n
  induction n with
  | zero => intro _ _ _ _ h; exact h.elim
  | succ n ih =>
    intro l2 l3 l4 M h
    refine s_iload hX dX12_wooden_27 rfl ?_
    refine s_iconst (v := 1) hX dX12_wooden_29 rfl ?_
    refine s_aload_n hX dX12_wooden_30 rfl ?_
    refine s_cvi (as := []) (rest := [vi 1, vi l4]) hX (c_Mo_birds h) mv_Mo_birds wd_ml_X12_311 dX12_wooden_31 ly_c_mo rfl rfl (Nat.le_of_ble_eq_true rfl) rfl (by decide) ⟨Nat.zero_le _, Nat.zero_le _⟩ (fun r1234 M1233 h => ?_)
    refine s_ishl hX dX12_wooden_34 ?_
    refine s_icmp_ge (tgt := 190) hX dX12_wooden_35 (by decide) (fun c => ?_) (fun c => ?_)
    · replace h := h.1 c
      refine s_mask [false, true, true, true, false, true, true, true, true] (lv' := [none, some (vi l1), some (vi l2), some (vi l3), none, none, none, none, none]) rfl rfl ?_
      exact hK _ _ _ h
    · replace h := h.2 c
      refine s_iload hX dX12_wooden_38 rfl ?_
      refine s_aload_n hX dX12_wooden_40 rfl ?_
      refine s_getr hX fi_X12_115 ly_c_mo rfl dX12_wooden_41 ?_
      refine s_bipush (v := 120) hX dX12_wooden_44 rfl ?_
      have hi := h.1
      replace h := h.2
      refine s_ialdv (v := (M1233.1 c_mo_state (Int32.toNatClampNeg 120))) hX ly_c_mo_state hi dX12_wooden_46 rfl ?_
      refine s_iand hX dX12_wooden_47 ?_
      refine s_if_ne (tgt := 184) hX dX12_wooden_48 (by decide) (fun c => ?_) (fun c => ?_)
      · replace h := h.1 c
        refine s_iinc (v := (l4 + 1)) (lv' := [some (vr c_mo), some (vi l1), some (vi l2), some (vi l3), some (vi (l4 + 1)), none, none, none, none]) hX dX12_wooden_184 rfl rfl rfl rfl ?_
        refine s_goto (tgt := 27) hX dX12_wooden_187 (by decide) ?_
        exact ih _ _ _ _ h
      · replace h := h.2 c
        refine s_aload_n hX dX12_wooden_51 rfl ?_
        refine s_iload hX dX12_wooden_52 rfl ?_
        refine s_cvv (as := [vi l4]) (rest := []) hX (c_Mo_findOwes h) mv_Mo_findOwes wd_ml_X12_364 dX12_wooden_54 ly_c_mo rfl rfl (Nat.le_of_ble_eq_true rfl) rfl (by decide) ⟨Nat.zero_le _, Nat.zero_le _⟩ (fun M1235 h => ?_)
        refine s_iconst (v := 1) hX dX12_wooden_57 rfl ?_
        refine s_istore (lv' := [some (vr c_mo), some (vi l1), some (vi l2), some (vi l3), some (vi l4), some (vi 1), none, none, none]) hX dX12_wooden_58 rfl rfl (Nat.le_of_ble_eq_true rfl) ?_
        refine s_iconst (v := 0) hX dX12_wooden_60 rfl ?_
        refine s_istore (lv' := [some (vr c_mo), some (vi l1), some (vi l2), some (vi l3), some (vi l4), some (vi 1), some (vi 0), none, none]) hX dX12_wooden_61 rfl rfl (Nat.le_of_ble_eq_true rfl) ?_
        obtain ⟨n1246, h⟩ := h
        refine t_Mo_wooden_L63 hX hq ?_ n1246 _ _ _ h
        intro y1244 M1243 h
        refine s_iload hX dX12_wooden_155 rfl ?_
        refine s_if_eq (tgt := 169) hX dX12_wooden_157 (by decide) (fun c => ?_) (fun c => ?_)
        · replace h := h.1 c
          exact t_Mo_wooden_j169 hX hq (fun _ _ _ _ h => ih _ _ _ _ h) hK h
        · replace h := h.2 c
          refine s_iload_n hX dX12_wooden_160 rfl ?_
          have hJ : Wat X 0 0 LY 170 [some (vr c_mo), some (vi l1), some (vi l2), some (vi l3), some (vi l4), some (vi y1244), none, none, none] [vi (if 0 ≤ l2 then l2 else l4)] M1243 := by
            refine s_mask [true, true, false, true, true, true, true, true, true] (lv' := [some (vr c_mo), some (vi l1), none, some (vi l3), some (vi l4), some (vi y1244), none, none, none]) rfl rfl ?_
            exact t_Mo_wooden_j170 hX hq (fun _ _ _ _ h => ih _ _ _ _ h) hK h
          refine s_if_ge (tgt := 169) hX dX12_wooden_161 (by decide) (fun c => ?_) (fun c => ?_)
          · rw [if_pos c] at hJ
            refine s_iload_n hX dX12_wooden_169 rfl ?_
            exact hJ
          · rw [if_neg c] at hJ
            refine s_iload hX dX12_wooden_164 rfl ?_
            refine s_goto (tgt := 170) hX dX12_wooden_166 (by decide) ?_
            exact hJ
def w_Mo_wooden (a0 : Int32) (M : Mem) (Q : Int32 → Mem → Prop) : Prop :=
  w_Mo_within a0 0 1 (si M c_mo Mo_thrown 0) (fun b1231 M1230 => ((b1231 = true → w_Mo_standsAsTold M1230 (fun M1232 => (∃ n1250, w_Mo_wooden_L27 a0 (fun y1248 y1249 M1247 => Q (if a0 = 0 then y1249 else y1248) M1247) Q n1250 (-1) 0 0 M1232))) ∧ (b1231 = false → Q (-1) M1230)))
set_option maxHeartbeats 4000000 in
theorem t_Mo_wooden {X : Cx} (hX : Cok X cX12_wooden RX12 9 ((some .int)) 7 0 0) {Q : Int32 → Mem → Prop} (hq : RI X 0 0 LY Q) {M : Mem} {a0 : Int32} (h : w_Mo_wooden a0 M Q) : Wat X 0 0 LY 0 [some (vr c_mo), some (vi a0), none, none, none, none, none, none, none] [] M := by
  refine s_aload_n hX dX12_wooden_0 rfl ?_
  refine s_iconst (v := 0) hX dX12_wooden_1 rfl ?_
  refine s_puti hX fi_X12_1 fp_X12 rfl (by decide +kernel) ly_c_mo rfl dX12_wooden_2 ?_
  refine s_iload_n hX dX12_wooden_5 rfl ?_
  refine s_iconst (v := 0) hX dX12_wooden_6 rfl ?_
  refine s_iconst (v := 1) hX dX12_wooden_7 rfl ?_
  refine s_csi (as := [vi a0, vi 0, vi 1]) (rest := []) hX (c_Mo_within h) ms_Mo_within wd_ml_X12_355 dX12_wooden_8 rfl (Nat.le_of_ble_eq_true rfl) rfl (by decide) ⟨Nat.zero_le _, Nat.zero_le _⟩ (fun b1231_ M1230 h => ?_)
  obtain ⟨b1231, rfl, h⟩ := h
  refine s_if_ne (tgt := 16) hX dX12_wooden_11 (by decide) (fun c => ?_) (fun c => ?_)
  · replace h := h.1 (b2i_1 c)
    refine s_aload_n hX dX12_wooden_16 rfl ?_
    refine s_cvv (as := []) (rest := []) hX (c_Mo_standsAsTold h) mv_Mo_standsAsTold wd_ml_X12_314 dX12_wooden_17 ly_c_mo rfl rfl (Nat.le_of_ble_eq_true rfl) rfl (by decide) ⟨Nat.zero_le _, Nat.zero_le _⟩ (fun M1232 h => ?_)
    refine s_iconst (v := (-1)) hX dX12_wooden_20 rfl ?_
    refine s_istore_n (lv' := [some (vr c_mo), some (vi a0), some (vi (-1)), none, none, none, none, none, none]) hX dX12_wooden_21 rfl rfl (Nat.le_of_ble_eq_true rfl) ?_
    refine s_iconst (v := 0) hX dX12_wooden_22 rfl ?_
    refine s_istore_n (lv' := [some (vr c_mo), some (vi a0), some (vi (-1)), some (vi 0), none, none, none, none, none]) hX dX12_wooden_23 rfl rfl (Nat.le_of_ble_eq_true rfl) ?_
    refine s_iconst (v := 0) hX dX12_wooden_24 rfl ?_
    refine s_istore (lv' := [some (vr c_mo), some (vi a0), some (vi (-1)), some (vi 0), some (vi 0), none, none, none, none]) hX dX12_wooden_25 rfl rfl (Nat.le_of_ble_eq_true rfl) ?_
    obtain ⟨n1250, h⟩ := h
    refine t_Mo_wooden_L27 hX hq ?_ n1250 _ _ _ _ h
    intro y1248 y1249 M1247 h
    refine s_iload_n hX dX12_wooden_190 rfl ?_
    have hJ : Wat X 0 0 LY 199 [none, some (vi a0), some (vi y1248), some (vi y1249), none, none, none, none, none] [vi (if a0 = 0 then y1249 else y1248)] M1247 := by
      exact s_iret hX hq rfl dX12_wooden_199 h
    refine s_if_ne (tgt := 198) hX dX12_wooden_191 (by decide) (fun c => ?_) (fun c => ?_)
    · rw [if_neg c] at hJ
      refine s_iload_n hX dX12_wooden_198 rfl ?_
      exact hJ
    · rw [if_pos c] at hJ
      refine s_iload_n hX dX12_wooden_194 rfl ?_
      refine s_goto (tgt := 199) hX dX12_wooden_195 (by decide) ?_
      exact hJ
  · replace h := h.2 (b2i_0 c)
    refine s_iconst (v := (-1)) hX dX12_wooden_14 rfl ?_
    exact s_iret hX hq rfl dX12_wooden_15 h
theorem c_Mo_wooden {a0 : Int32} {M : Mem} {Q : Int32 → Mem → Prop} (h : w_Mo_wooden a0 M Q) : CI yX12_wooden cX12_wooden 9 ((some .int)) 7 0 0 LY LY [vr c_mo, vi a0] M Q := mk_i rfl wd_co_X12_wooden rfl rfl (Nat.le_of_ble_eq_true rfl) (fun X hX hq => t_Mo_wooden hX hq h)
theorem mv_Mo_wooden : MV yX12_wooden cX12_wooden 9 ((some .int)) RX12 1 := ⟨wd_co_X12_wooden, wd_im_X12_wooden, wd_se_X12_wooden, wd_in_X12, by decide +kernel, by decide⟩
def w_Mo_findJune_j95 (R : Int32 → Mem → Prop) (K : Mem → Prop) (l1 : Int32) (l2 : Int32) (s0 : Int32) (M : Mem) (Q : Mem → Prop) : Prop :=
  (vp_in ((6 * l1) + l2) 36 ∧ (vp_in ((6 * l1) + l2) 36 ∧ (vp_in ((6 * l2) + l1) 36 ∧ (vp_in ((6 * l2) + l1) 36 ∧ R (l2 + 1) (si (si M c_mo_owes (Int32.toNatClampNeg ((6 * l1) + l2)) ((M.1 c_mo_owes (Int32.toNatClampNeg ((6 * l1) + l2))) - s0)) c_mo_owes (Int32.toNatClampNeg ((6 * l2) + l1)) (((si M c_mo_owes (Int32.toNatClampNeg ((6 * l1) + l2)) ((M.1 c_mo_owes (Int32.toNatClampNeg ((6 * l1) + l2))) - s0)).1 c_mo_owes (Int32.toNatClampNeg ((6 * l2) + l1))) - s0))))))
set_option maxHeartbeats 4000000 in
theorem t_Mo_findJune_j95 {X : Cx} (hX : Cok X cX12_findJune RX12 5 none 7 0 0) {Q : Mem → Prop} (hq : RV X 0 0 LY Q) {l1 : Int32} {R : Int32 → Mem → Prop} {K : Mem → Prop} (hR : ∀ (l2 : Int32) (M : Mem), R l2 M → Wat X 0 0 LY 40 [some (vr c_mo), some (vi l1), some (vi l2), none, none] [] M) (hK : ∀ (M : Mem), K M → Wat X 0 0 LY 132 [some (vr c_mo), some (vi l1), none, none, none] [] M) {l2 : Int32} {s0 : Int32} {M : Mem} (h : w_Mo_findJune_j95 R K l1 l2 s0 M Q) : Wat X 0 0 LY 95 [some (vr c_mo), some (vi l1), some (vi l2), none, none] [vi s0] M := by
  refine s_istore_n (lv' := [some (vr c_mo), some (vi l1), some (vi l2), some (vi s0), none]) hX dX12_findJune_95 rfl rfl (Nat.le_of_ble_eq_true rfl) ?_
  refine s_aload_n hX dX12_findJune_96 rfl ?_
  refine s_getr hX fi_X12_131 ly_c_mo rfl dX12_findJune_97 ?_
  refine s_bipush (v := 6) hX dX12_findJune_100 rfl ?_
  refine s_iload_n hX dX12_findJune_102 rfl ?_
  refine s_imul hX dX12_findJune_103 ?_
  refine s_iload_n hX dX12_findJune_104 rfl ?_
  refine s_iadd hX dX12_findJune_105 ?_
  refine s_dup2 hX dX12_findJune_106 rfl rfl ?_
  have hi := h.1
  replace h := h.2
  refine s_ialdv (v := (M.1 c_mo_owes (Int32.toNatClampNeg ((6 * l1) + l2)))) hX ly_c_mo_owes hi dX12_findJune_107 rfl ?_
  refine s_iload_n hX dX12_findJune_108 rfl ?_
  refine s_isub hX dX12_findJune_109 ?_
  have hi := h.1
  replace h := h.2
  refine s_iast hX ly_c_mo_owes hi dX12_findJune_110 ?_
  refine s_aload_n hX dX12_findJune_111 rfl ?_
  refine s_getr hX fi_X12_131 ly_c_mo rfl dX12_findJune_112 ?_
  refine s_bipush (v := 6) hX dX12_findJune_115 rfl ?_
  refine s_iload_n hX dX12_findJune_117 rfl ?_
  refine s_imul hX dX12_findJune_118 ?_
  refine s_iload_n hX dX12_findJune_119 rfl ?_
  refine s_iadd hX dX12_findJune_120 ?_
  refine s_dup2 hX dX12_findJune_121 rfl rfl ?_
  have hi := h.1
  replace h := h.2
  refine s_ialdv (v := ((si M c_mo_owes (Int32.toNatClampNeg ((6 * l1) + l2)) ((M.1 c_mo_owes (Int32.toNatClampNeg ((6 * l1) + l2))) - s0)).1 c_mo_owes (Int32.toNatClampNeg ((6 * l2) + l1)))) hX ly_c_mo_owes hi dX12_findJune_122 rfl ?_
  refine s_iload_n hX dX12_findJune_123 rfl ?_
  refine s_isub hX dX12_findJune_124 ?_
  have hi := h.1
  replace h := h.2
  refine s_iast hX ly_c_mo_owes hi dX12_findJune_125 ?_
  refine s_iinc (v := (l2 + 1)) (lv' := [some (vr c_mo), some (vi l1), some (vi (l2 + 1)), some (vi s0), none]) hX dX12_findJune_126 rfl rfl rfl rfl ?_
  refine s_goto (tgt := 40) hX dX12_findJune_129 (by decide) ?_
  refine s_mask [true, true, true, false, true] (lv' := [some (vr c_mo), some (vi l1), some (vi (l2 + 1)), none, none]) rfl rfl ?_
  exact hR _ _ h
def w_Mo_findJune_L40 (l1 : Int32) (K : Mem → Prop) (Q : Mem → Prop) : Nat → Int32 → Mem → Prop
  | 0, _, _ => False
  | n + 1, l2, M => ((l1 ≤ l2 → K M) ∧ (¬ l1 ≤ l2 → (vp_in ((6 * l1) + l2) 36 ∧ (vp_in ((6 * l2) + l1) 36 ∧ (((M.1 c_mo_owes (Int32.toNatClampNeg ((6 * l2) + l1))) ≤ (M.1 c_mo_owes (Int32.toNatClampNeg ((6 * l1) + l2))) → (vp_in ((6 * l2) + l1) 36 ∧ w_Mo_findJune_j95 (fun l2 M => w_Mo_findJune_L40 l1 K Q n l2 M) K l1 l2 (M.1 c_mo_owes (Int32.toNatClampNeg ((6 * l2) + l1))) M Q)) ∧ (¬ (M.1 c_mo_owes (Int32.toNatClampNeg ((6 * l2) + l1))) ≤ (M.1 c_mo_owes (Int32.toNatClampNeg ((6 * l1) + l2))) → (vp_in ((6 * l1) + l2) 36 ∧ w_Mo_findJune_j95 (fun l2 M => w_Mo_findJune_L40 l1 K Q n l2 M) K l1 l2 (M.1 c_mo_owes (Int32.toNatClampNeg ((6 * l1) + l2))) M Q)))))))
set_option maxHeartbeats 4000000 in
theorem t_Mo_findJune_L40 {X : Cx} (hX : Cok X cX12_findJune RX12 5 none 7 0 0) {Q : Mem → Prop} (hq : RV X 0 0 LY Q) {l1 : Int32} {K : Mem → Prop} (hK : ∀ (M : Mem), K M → Wat X 0 0 LY 132 [some (vr c_mo), some (vi l1), none, none, none] [] M) : ∀ (n : Nat) (l2 : Int32) (M : Mem), w_Mo_findJune_L40 l1 K Q n l2 M → Wat X 0 0 LY 40 [some (vr c_mo), some (vi l1), some (vi l2), none, none] [] M := by
  intro n
  induction n with
  | zero => intro _ _ h; exact h.elim
  | succ n ih =>
    intro l2 M h
    refine s_iload_n hX dX12_findJune_40 rfl ?_
    refine s_iload_n hX dX12_findJune_41 rfl ?_
    refine s_icmp_ge (tgt := 132) hX dX12_findJune_42 (by decide) (fun c => ?_) (fun c => ?_)
    · replace h := h.1 c
      refine s_mask [true, true, false, true, true] (lv' := [some (vr c_mo), some (vi l1), none, none, none]) rfl rfl ?_
      exact hK _ h
    · replace h := h.2 c
      refine s_aload_n hX dX12_findJune_45 rfl ?_
      refine s_getr hX fi_X12_131 ly_c_mo rfl dX12_findJune_46 ?_
      refine s_bipush (v := 6) hX dX12_findJune_49 rfl ?_
      refine s_iload_n hX dX12_findJune_51 rfl ?_
      refine s_imul hX dX12_findJune_52 ?_
      refine s_iload_n hX dX12_findJune_53 rfl ?_
      refine s_iadd hX dX12_findJune_54 ?_
      have hi := h.1
      replace h := h.2
      refine s_ialdv (v := (M.1 c_mo_owes (Int32.toNatClampNeg ((6 * l1) + l2)))) hX ly_c_mo_owes hi dX12_findJune_55 rfl ?_
      refine s_aload_n hX dX12_findJune_56 rfl ?_
      refine s_getr hX fi_X12_131 ly_c_mo rfl dX12_findJune_57 ?_
      refine s_bipush (v := 6) hX dX12_findJune_60 rfl ?_
      refine s_iload_n hX dX12_findJune_62 rfl ?_
      refine s_imul hX dX12_findJune_63 ?_
      refine s_iload_n hX dX12_findJune_64 rfl ?_
      refine s_iadd hX dX12_findJune_65 ?_
      have hi := h.1
      replace h := h.2
      refine s_ialdv (v := (M.1 c_mo_owes (Int32.toNatClampNeg ((6 * l2) + l1)))) hX ly_c_mo_owes hi dX12_findJune_66 rfl ?_
      refine s_icmp_ge (tgt := 84) hX dX12_findJune_67 (by decide) (fun c => ?_) (fun c => ?_)
      · replace h := h.1 c
        refine s_aload_n hX dX12_findJune_84 rfl ?_
        refine s_getr hX fi_X12_131 ly_c_mo rfl dX12_findJune_85 ?_
        refine s_bipush (v := 6) hX dX12_findJune_88 rfl ?_
        refine s_iload_n hX dX12_findJune_90 rfl ?_
        refine s_imul hX dX12_findJune_91 ?_
        refine s_iload_n hX dX12_findJune_92 rfl ?_
        refine s_iadd hX dX12_findJune_93 ?_
        have hi := h.1
        replace h := h.2
        refine s_ialdv (v := (M.1 c_mo_owes (Int32.toNatClampNeg ((6 * l2) + l1)))) hX ly_c_mo_owes hi dX12_findJune_94 rfl ?_
        exact t_Mo_findJune_j95 hX hq (fun _ _ h => ih _ _ h) hK h
      · replace h := h.2 c
        refine s_aload_n hX dX12_findJune_70 rfl ?_
        refine s_getr hX fi_X12_131 ly_c_mo rfl dX12_findJune_71 ?_
        refine s_bipush (v := 6) hX dX12_findJune_74 rfl ?_
        refine s_iload_n hX dX12_findJune_76 rfl ?_
        refine s_imul hX dX12_findJune_77 ?_
        refine s_iload_n hX dX12_findJune_78 rfl ?_
        refine s_iadd hX dX12_findJune_79 ?_
        have hi := h.1
        replace h := h.2
        refine s_ialdv (v := (M.1 c_mo_owes (Int32.toNatClampNeg ((6 * l1) + l2)))) hX ly_c_mo_owes hi dX12_findJune_80 rfl ?_
        refine s_goto (tgt := 95) hX dX12_findJune_81 (by decide) ?_
        exact t_Mo_findJune_j95 hX hq (fun _ _ h => ih _ _ h) hK h
def w_Mo_findJune_L11 (K : Mem → Prop) (Q : Mem → Prop) : Nat → Int32 → Mem → Prop
  | 0, _, _ => False
  | n + 1, l1, M => w_Mo_persons M (fun r1254 M1253 => ((r1254 ≤ l1 → K M1253) ∧ (¬ r1254 ≤ l1 → (vp_in ((7 + (2 * l1)) + 1) 360 ∧ (vp_in l1 6 ∧ (∃ n1256, w_Mo_findJune_L40 l1 (fun M1255 => w_Mo_findJune_L11 K Q n (l1 + 1) M1255) Q n1256 0 (si M1253 c_mo_purse (Int32.toNatClampNeg l1) (M1253.1 c_mo_lands (Int32.toNatClampNeg ((7 + (2 * l1)) + 1))))))))))
set_option maxHeartbeats 4000000 in
theorem t_Mo_findJune_L11 {X : Cx} (hX : Cok X cX12_findJune RX12 5 none 7 0 0) {Q : Mem → Prop} (hq : RV X 0 0 LY Q) {K : Mem → Prop} (hK : ∀ (M : Mem), K M → Wat X 0 0 LY 138 [some (vr c_mo), none, none, none, none] [] M) : ∀ (n : Nat) (l1 : Int32) (M : Mem), w_Mo_findJune_L11 K Q n l1 M → Wat X 0 0 LY 11 [some (vr c_mo), some (vi l1), none, none, none] [] M := by
  intro n
  induction n with
  | zero => intro _ _ h; exact h.elim
  | succ n ih =>
    intro l1 M h
    refine s_iload_n hX dX12_findJune_11 rfl ?_
    refine s_aload_n hX dX12_findJune_12 rfl ?_
    refine s_cvi (as := []) (rest := [vi l1]) hX (c_Mo_persons h) mv_Mo_persons wd_ml_X12_226 dX12_findJune_13 ly_c_mo rfl rfl (Nat.le_of_ble_eq_true rfl) rfl (by decide) ⟨Nat.zero_le _, Nat.zero_le _⟩ (fun r1254 M1253 h => ?_)
    refine s_icmp_ge (tgt := 138) hX dX12_findJune_16 (by decide) (fun c => ?_) (fun c => ?_)
    · replace h := h.1 c
      refine s_mask [true, false, true, true, true] (lv' := [some (vr c_mo), none, none, none, none]) rfl rfl ?_
      exact hK _ h
    · replace h := h.2 c
      refine s_aload_n hX dX12_findJune_19 rfl ?_
      refine s_getr hX fi_X12_146 ly_c_mo rfl dX12_findJune_20 ?_
      refine s_iload_n hX dX12_findJune_23 rfl ?_
      refine s_aload_n hX dX12_findJune_24 rfl ?_
      refine s_getr hX fi_X12_85 ly_c_mo rfl dX12_findJune_25 ?_
      refine s_bipush (v := 7) hX dX12_findJune_28 rfl ?_
      refine s_iconst (v := 2) hX dX12_findJune_30 rfl ?_
      refine s_iload_n hX dX12_findJune_31 rfl ?_
      refine s_imul hX dX12_findJune_32 ?_
      refine s_iadd hX dX12_findJune_33 ?_
      refine s_iconst (v := 1) hX dX12_findJune_34 rfl ?_
      refine s_iadd hX dX12_findJune_35 ?_
      have hi := h.1
      replace h := h.2
      refine s_ialdv (v := (M1253.1 c_mo_lands (Int32.toNatClampNeg ((7 + (2 * l1)) + 1)))) hX ly_c_mo_lands hi dX12_findJune_36 rfl ?_
      have hi := h.1
      replace h := h.2
      refine s_iast hX ly_c_mo_purse hi dX12_findJune_37 ?_
      refine s_iconst (v := 0) hX dX12_findJune_38 rfl ?_
      refine s_istore_n (lv' := [some (vr c_mo), some (vi l1), some (vi 0), none, none]) hX dX12_findJune_39 rfl rfl (Nat.le_of_ble_eq_true rfl) ?_
      obtain ⟨n1256, h⟩ := h
      refine t_Mo_findJune_L40 hX hq ?_ n1256 _ _ h
      intro M1255 h
      refine s_iinc (v := (l1 + 1)) (lv' := [some (vr c_mo), some (vi (l1 + 1)), none, none, none]) hX dX12_findJune_132 rfl rfl rfl rfl ?_
      refine s_goto (tgt := 11) hX dX12_findJune_135 (by decide) ?_
      exact ih _ _ h
def w_Mo_findJune_j206 (R : Int32 → Int32 → Mem → Prop) (K : Int32 → Mem → Prop) (l1 : Int32) (l2 : Int32) (l3 : Int32) (s0 : Int32) (M : Mem) (Q : Mem → Prop) : Prop :=
  (vp_in ((6 * l2) + l3) 36 ∧ (vp_in ((6 * l2) + l3) 36 ∧ (vp_in l2 6 ∧ (vp_in l2 6 ∧ (vp_in l3 6 ∧ (vp_in l3 6 ∧ ((¬ l1 = 0 → R 1 (l3 + 1) (si (si (si M c_mo_owes (Int32.toNatClampNeg ((6 * l2) + l3)) ((M.1 c_mo_owes (Int32.toNatClampNeg ((6 * l2) + l3))) - s0)) c_mo_purse (Int32.toNatClampNeg l2) ((M.1 c_mo_purse (Int32.toNatClampNeg l2)) - s0)) c_mo_purse (Int32.toNatClampNeg l3) (((si (si M c_mo_owes (Int32.toNatClampNeg ((6 * l2) + l3)) ((M.1 c_mo_owes (Int32.toNatClampNeg ((6 * l2) + l3))) - s0)) c_mo_purse (Int32.toNatClampNeg l2) ((M.1 c_mo_purse (Int32.toNatClampNeg l2)) - s0)).1 c_mo_purse (Int32.toNatClampNeg l3)) + s0))) ∧ (l1 = 0 → ∀ x1262 : Int32, x1262 = (if s0 ≤ 0 then (0 : Int32) else 1) → R x1262 (l3 + 1) (si (si (si M c_mo_owes (Int32.toNatClampNeg ((6 * l2) + l3)) ((M.1 c_mo_owes (Int32.toNatClampNeg ((6 * l2) + l3))) - s0)) c_mo_purse (Int32.toNatClampNeg l2) ((M.1 c_mo_purse (Int32.toNatClampNeg l2)) - s0)) c_mo_purse (Int32.toNatClampNeg l3) (((si (si M c_mo_owes (Int32.toNatClampNeg ((6 * l2) + l3)) ((M.1 c_mo_owes (Int32.toNatClampNeg ((6 * l2) + l3))) - s0)) c_mo_purse (Int32.toNatClampNeg l2) ((M.1 c_mo_purse (Int32.toNatClampNeg l2)) - s0)).1 c_mo_purse (Int32.toNatClampNeg l3)) + s0))))))))))
set_option maxHeartbeats 4000000 in
theorem t_Mo_findJune_j206 {X : Cx} (hX : Cok X cX12_findJune RX12 5 none 7 0 0) {Q : Mem → Prop} (hq : RV X 0 0 LY Q) {l2 : Int32} {R : Int32 → Int32 → Mem → Prop} {K : Int32 → Mem → Prop} (hR : ∀ (l1 : Int32) (l3 : Int32) (M : Mem), R l1 l3 M → Wat X 0 0 LY 158 [some (vr c_mo), some (vi l1), some (vi l2), some (vi l3), none] [] M) (hK : ∀ (l1 : Int32) (M : Mem), K l1 M → Wat X 0 0 LY 267 [some (vr c_mo), some (vi l1), some (vi l2), none, none] [] M) {l1 : Int32} {l3 : Int32} {s0 : Int32} {M : Mem} (h : w_Mo_findJune_j206 R K l1 l2 l3 s0 M Q) : Wat X 0 0 LY 206 [some (vr c_mo), some (vi l1), some (vi l2), some (vi l3), none] [vi s0] M := by
  refine s_istore (lv' := [some (vr c_mo), some (vi l1), some (vi l2), some (vi l3), some (vi s0)]) hX dX12_findJune_206 rfl rfl (Nat.le_of_ble_eq_true rfl) ?_
  refine s_aload_n hX dX12_findJune_208 rfl ?_
  refine s_getr hX fi_X12_131 ly_c_mo rfl dX12_findJune_209 ?_
  refine s_bipush (v := 6) hX dX12_findJune_212 rfl ?_
  refine s_iload_n hX dX12_findJune_214 rfl ?_
  refine s_imul hX dX12_findJune_215 ?_
  refine s_iload_n hX dX12_findJune_216 rfl ?_
  refine s_iadd hX dX12_findJune_217 ?_
  refine s_dup2 hX dX12_findJune_218 rfl rfl ?_
  have hi := h.1
  replace h := h.2
  refine s_ialdv (v := (M.1 c_mo_owes (Int32.toNatClampNeg ((6 * l2) + l3)))) hX ly_c_mo_owes hi dX12_findJune_219 rfl ?_
  refine s_iload hX dX12_findJune_220 rfl ?_
  refine s_isub hX dX12_findJune_222 ?_
  have hi := h.1
  replace h := h.2
  refine s_iast hX ly_c_mo_owes hi dX12_findJune_223 ?_
  refine s_aload_n hX dX12_findJune_224 rfl ?_
  refine s_getr hX fi_X12_146 ly_c_mo rfl dX12_findJune_225 ?_
  refine s_iload_n hX dX12_findJune_228 rfl ?_
  refine s_dup2 hX dX12_findJune_229 rfl rfl ?_
  have hi := h.1
  replace h := h.2
  refine s_ialdv (v := (M.1 c_mo_purse (Int32.toNatClampNeg l2))) hX ly_c_mo_purse hi dX12_findJune_230 rfl ?_
  refine s_iload hX dX12_findJune_231 rfl ?_
  refine s_isub hX dX12_findJune_233 ?_
  have hi := h.1
  replace h := h.2
  refine s_iast hX ly_c_mo_purse hi dX12_findJune_234 ?_
  refine s_aload_n hX dX12_findJune_235 rfl ?_
  refine s_getr hX fi_X12_146 ly_c_mo rfl dX12_findJune_236 ?_
  refine s_iload_n hX dX12_findJune_239 rfl ?_
  refine s_dup2 hX dX12_findJune_240 rfl rfl ?_
  have hi := h.1
  replace h := h.2
  refine s_ialdv (v := ((si (si M c_mo_owes (Int32.toNatClampNeg ((6 * l2) + l3)) ((M.1 c_mo_owes (Int32.toNatClampNeg ((6 * l2) + l3))) - s0)) c_mo_purse (Int32.toNatClampNeg l2) ((M.1 c_mo_purse (Int32.toNatClampNeg l2)) - s0)).1 c_mo_purse (Int32.toNatClampNeg l3))) hX ly_c_mo_purse hi dX12_findJune_241 rfl ?_
  refine s_iload hX dX12_findJune_242 rfl ?_
  refine s_iadd hX dX12_findJune_244 ?_
  have hi := h.1
  replace h := h.2
  refine s_iast hX ly_c_mo_purse hi dX12_findJune_245 ?_
  refine s_iload_n hX dX12_findJune_246 rfl ?_
  refine s_if_ne (tgt := 255) hX dX12_findJune_247 (by decide) (fun c => ?_) (fun c => ?_)
  · replace h := h.1 c
    refine s_iconst (v := 1) hX dX12_findJune_255 rfl ?_
    refine s_goto (tgt := 260) hX dX12_findJune_256 (by decide) ?_
    refine s_istore_n (lv' := [some (vr c_mo), some (vi 1), some (vi l2), some (vi l3), some (vi s0)]) hX dX12_findJune_260 rfl rfl (Nat.le_of_ble_eq_true rfl) ?_
    refine s_iinc (v := (l3 + 1)) (lv' := [some (vr c_mo), some (vi 1), some (vi l2), some (vi (l3 + 1)), some (vi s0)]) hX dX12_findJune_261 rfl rfl rfl rfl ?_
    refine s_goto (tgt := 158) hX dX12_findJune_264 (by decide) ?_
    refine s_mask [true, true, true, true, false] (lv' := [some (vr c_mo), some (vi 1), some (vi l2), some (vi (l3 + 1)), none]) rfl rfl ?_
    exact hR _ _ _ h
  · replace h := h.2 c
    refine s_iload hX dX12_findJune_250 rfl ?_
    have hJ : Wat X 0 0 LY 260 [some (vr c_mo), some (vi l1), some (vi l2), some (vi l3), some (vi s0)] [vi (if s0 ≤ 0 then (0 : Int32) else 1)] (si (si (si M c_mo_owes (Int32.toNatClampNeg ((6 * l2) + l3)) ((M.1 c_mo_owes (Int32.toNatClampNeg ((6 * l2) + l3))) - s0)) c_mo_purse (Int32.toNatClampNeg l2) ((M.1 c_mo_purse (Int32.toNatClampNeg l2)) - s0)) c_mo_purse (Int32.toNatClampNeg l3) (((si (si M c_mo_owes (Int32.toNatClampNeg ((6 * l2) + l3)) ((M.1 c_mo_owes (Int32.toNatClampNeg ((6 * l2) + l3))) - s0)) c_mo_purse (Int32.toNatClampNeg l2) ((M.1 c_mo_purse (Int32.toNatClampNeg l2)) - s0)).1 c_mo_purse (Int32.toNatClampNeg l3)) + s0)) := by
      refine s_nmi (fun x1262 ex1262 => ?_)
      replace h := h x1262 ex1262
      refine s_istore_n (lv' := [some (vr c_mo), some (vi x1262), some (vi l2), some (vi l3), some (vi s0)]) hX dX12_findJune_260 rfl rfl (Nat.le_of_ble_eq_true rfl) ?_
      refine s_iinc (v := (l3 + 1)) (lv' := [some (vr c_mo), some (vi x1262), some (vi l2), some (vi (l3 + 1)), some (vi s0)]) hX dX12_findJune_261 rfl rfl rfl rfl ?_
      refine s_goto (tgt := 158) hX dX12_findJune_264 (by decide) ?_
      refine s_mask [true, true, true, true, false] (lv' := [some (vr c_mo), some (vi x1262), some (vi l2), some (vi (l3 + 1)), none]) rfl rfl ?_
      exact hR _ _ _ h
    refine s_if_le (tgt := 259) hX dX12_findJune_252 (by decide) (fun c => ?_) (fun c => ?_)
    · rw [if_pos c] at hJ
      refine s_iconst (v := 0) hX dX12_findJune_259 rfl ?_
      exact hJ
    · rw [if_neg c] at hJ
      refine s_iconst (v := 1) hX dX12_findJune_255 rfl ?_
      refine s_goto (tgt := 260) hX dX12_findJune_256 (by decide) ?_
      exact hJ
def w_Mo_findJune_L158 (l2 : Int32) (K : Int32 → Mem → Prop) (Q : Mem → Prop) : Nat → Int32 → Int32 → Mem → Prop
  | 0, _, _, _ => False
  | n + 1, l1, l3, M => w_Mo_persons M (fun r1261 M1260 => ((r1261 ≤ l3 → K l1 M1260) ∧ (¬ r1261 ≤ l3 → (vp_in ((6 * l2) + l3) 36 ∧ (vp_in l2 6 ∧ (((M1260.1 c_mo_purse (Int32.toNatClampNeg l2)) ≤ (M1260.1 c_mo_owes (Int32.toNatClampNeg ((6 * l2) + l3))) → (vp_in l2 6 ∧ w_Mo_findJune_j206 (fun l1 l3 M => w_Mo_findJune_L158 l2 K Q n l1 l3 M) K l1 l2 l3 (M1260.1 c_mo_purse (Int32.toNatClampNeg l2)) M1260 Q)) ∧ (¬ (M1260.1 c_mo_purse (Int32.toNatClampNeg l2)) ≤ (M1260.1 c_mo_owes (Int32.toNatClampNeg ((6 * l2) + l3))) → (vp_in ((6 * l2) + l3) 36 ∧ w_Mo_findJune_j206 (fun l1 l3 M => w_Mo_findJune_L158 l2 K Q n l1 l3 M) K l1 l2 l3 (M1260.1 c_mo_owes (Int32.toNatClampNeg ((6 * l2) + l3))) M1260 Q))))))))
set_option maxHeartbeats 4000000 in
theorem t_Mo_findJune_L158 {X : Cx} (hX : Cok X cX12_findJune RX12 5 none 7 0 0) {Q : Mem → Prop} (hq : RV X 0 0 LY Q) {l2 : Int32} {K : Int32 → Mem → Prop} (hK : ∀ (l1 : Int32) (M : Mem), K l1 M → Wat X 0 0 LY 267 [some (vr c_mo), some (vi l1), some (vi l2), none, none] [] M) : ∀ (n : Nat) (l1 : Int32) (l3 : Int32) (M : Mem), w_Mo_findJune_L158 l2 K Q n l1 l3 M → Wat X 0 0 LY 158 [some (vr c_mo), some (vi l1), some (vi l2), some (vi l3), none] [] M := by
  intro n
  induction n with
  | zero => intro _ _ _ h; exact h.elim
  | succ n ih =>
    intro l1 l3 M h
    refine s_iload_n hX dX12_findJune_158 rfl ?_
    refine s_aload_n hX dX12_findJune_159 rfl ?_
    refine s_cvi (as := []) (rest := [vi l3]) hX (c_Mo_persons h) mv_Mo_persons wd_ml_X12_226 dX12_findJune_160 ly_c_mo rfl rfl (Nat.le_of_ble_eq_true rfl) rfl (by decide) ⟨Nat.zero_le _, Nat.zero_le _⟩ (fun r1261 M1260 h => ?_)
    refine s_icmp_ge (tgt := 267) hX dX12_findJune_163 (by decide) (fun c => ?_) (fun c => ?_)
    · replace h := h.1 c
      refine s_mask [true, true, true, false, true] (lv' := [some (vr c_mo), some (vi l1), some (vi l2), none, none]) rfl rfl ?_
      exact hK _ _ h
    · replace h := h.2 c
      refine s_aload_n hX dX12_findJune_166 rfl ?_
      refine s_getr hX fi_X12_131 ly_c_mo rfl dX12_findJune_167 ?_
      refine s_bipush (v := 6) hX dX12_findJune_170 rfl ?_
      refine s_iload_n hX dX12_findJune_172 rfl ?_
      refine s_imul hX dX12_findJune_173 ?_
      refine s_iload_n hX dX12_findJune_174 rfl ?_
      refine s_iadd hX dX12_findJune_175 ?_
      have hi := h.1
      replace h := h.2
      refine s_ialdv (v := (M1260.1 c_mo_owes (Int32.toNatClampNeg ((6 * l2) + l3)))) hX ly_c_mo_owes hi dX12_findJune_176 rfl ?_
      refine s_aload_n hX dX12_findJune_177 rfl ?_
      refine s_getr hX fi_X12_146 ly_c_mo rfl dX12_findJune_178 ?_
      refine s_iload_n hX dX12_findJune_181 rfl ?_
      have hi := h.1
      replace h := h.2
      refine s_ialdv (v := (M1260.1 c_mo_purse (Int32.toNatClampNeg l2))) hX ly_c_mo_purse hi dX12_findJune_182 rfl ?_
      refine s_icmp_ge (tgt := 200) hX dX12_findJune_183 (by decide) (fun c => ?_) (fun c => ?_)
      · replace h := h.1 c
        refine s_aload_n hX dX12_findJune_200 rfl ?_
        refine s_getr hX fi_X12_146 ly_c_mo rfl dX12_findJune_201 ?_
        refine s_iload_n hX dX12_findJune_204 rfl ?_
        have hi := h.1
        replace h := h.2
        refine s_ialdv (v := (M1260.1 c_mo_purse (Int32.toNatClampNeg l2))) hX ly_c_mo_purse hi dX12_findJune_205 rfl ?_
        exact t_Mo_findJune_j206 hX hq (fun _ _ _ h => ih _ _ _ h) hK h
      · replace h := h.2 c
        refine s_aload_n hX dX12_findJune_186 rfl ?_
        refine s_getr hX fi_X12_131 ly_c_mo rfl dX12_findJune_187 ?_
        refine s_bipush (v := 6) hX dX12_findJune_190 rfl ?_
        refine s_iload_n hX dX12_findJune_192 rfl ?_
        refine s_imul hX dX12_findJune_193 ?_
        refine s_iload_n hX dX12_findJune_194 rfl ?_
        refine s_iadd hX dX12_findJune_195 ?_
        have hi := h.1
        replace h := h.2
        refine s_ialdv (v := (M1260.1 c_mo_owes (Int32.toNatClampNeg ((6 * l2) + l3)))) hX ly_c_mo_owes hi dX12_findJune_196 rfl ?_
        refine s_goto (tgt := 206) hX dX12_findJune_197 (by decide) ?_
        exact t_Mo_findJune_j206 hX hq (fun _ _ _ h => ih _ _ _ h) hK h
def w_Mo_findJune_L148 (K : Int32 → Mem → Prop) (Q : Mem → Prop) : Nat → Int32 → Int32 → Mem → Prop
  | 0, _, _, _ => False
  | n + 1, l1, l2, M => w_Mo_persons M (fun r1259 M1258 => ((r1259 ≤ l2 → K l1 M1258) ∧ (¬ r1259 ≤ l2 → (∃ n1265, w_Mo_findJune_L158 l2 (fun y1264 M1263 => w_Mo_findJune_L148 K Q n y1264 (l2 + 1) M1263) Q n1265 l1 0 M1258))))
set_option maxHeartbeats 4000000 in
theorem t_Mo_findJune_L148 {X : Cx} (hX : Cok X cX12_findJune RX12 5 none 7 0 0) {Q : Mem → Prop} (hq : RV X 0 0 LY Q) {K : Int32 → Mem → Prop} (hK : ∀ (l1 : Int32) (M : Mem), K l1 M → Wat X 0 0 LY 273 [some (vr c_mo), some (vi l1), none, none, none] [] M) : ∀ (n : Nat) (l1 : Int32) (l2 : Int32) (M : Mem), w_Mo_findJune_L148 K Q n l1 l2 M → Wat X 0 0 LY 148 [some (vr c_mo), some (vi l1), some (vi l2), none, none] [] M := by
  intro n
  induction n with
  | zero => intro _ _ _ h; exact h.elim
  | succ n ih =>
    intro l1 l2 M h
    refine s_iload_n hX dX12_findJune_148 rfl ?_
    refine s_aload_n hX dX12_findJune_149 rfl ?_
    refine s_cvi (as := []) (rest := [vi l2]) hX (c_Mo_persons h) mv_Mo_persons wd_ml_X12_226 dX12_findJune_150 ly_c_mo rfl rfl (Nat.le_of_ble_eq_true rfl) rfl (by decide) ⟨Nat.zero_le _, Nat.zero_le _⟩ (fun r1259 M1258 h => ?_)
    refine s_icmp_ge (tgt := 273) hX dX12_findJune_153 (by decide) (fun c => ?_) (fun c => ?_)
    · replace h := h.1 c
      refine s_mask [true, true, false, true, true] (lv' := [some (vr c_mo), some (vi l1), none, none, none]) rfl rfl ?_
      exact hK _ _ h
    · replace h := h.2 c
      refine s_iconst (v := 0) hX dX12_findJune_156 rfl ?_
      refine s_istore_n (lv' := [some (vr c_mo), some (vi l1), some (vi l2), some (vi 0), none]) hX dX12_findJune_157 rfl rfl (Nat.le_of_ble_eq_true rfl) ?_
      obtain ⟨n1265, h⟩ := h
      refine t_Mo_findJune_L158 hX hq ?_ n1265 _ _ _ h
      intro y1264 M1263 h
      refine s_iinc (v := (l2 + 1)) (lv' := [some (vr c_mo), some (vi y1264), some (vi (l2 + 1)), none, none]) hX dX12_findJune_267 rfl rfl rfl rfl ?_
      refine s_goto (tgt := 148) hX dX12_findJune_270 (by decide) ?_
      exact ih _ _ _ h
def w_Mo_findJune_L140 (K : Mem → Prop) (Q : Mem → Prop) : Nat → Int32 → Mem → Prop
  | 0, _, _ => False
  | n + 1, l1, M => ((l1 = 0 → K M) ∧ (¬ l1 = 0 → (∃ n1268, w_Mo_findJune_L148 (fun y1267 M1266 => w_Mo_findJune_L140 K Q n y1267 M1266) Q n1268 0 0 M)))
set_option maxHeartbeats 4000000 in
theorem t_Mo_findJune_L140 {X : Cx} (hX : Cok X cX12_findJune RX12 5 none 7 0 0) {Q : Mem → Prop} (hq : RV X 0 0 LY Q) {K : Mem → Prop} (hK : ∀ (M : Mem), K M → Wat X 0 0 LY 276 [none, none, none, none, none] [] M) : ∀ (n : Nat) (l1 : Int32) (M : Mem), w_Mo_findJune_L140 K Q n l1 M → Wat X 0 0 LY 140 [some (vr c_mo), some (vi l1), none, none, none] [] M := by
  intro n
  induction n with
  | zero => intro _ _ h; exact h.elim
  | succ n ih =>
    intro l1 M h
    refine s_iload_n hX dX12_findJune_140 rfl ?_
    refine s_if_eq (tgt := 276) hX dX12_findJune_141 (by decide) (fun c => ?_) (fun c => ?_)
    · replace h := h.1 c
      refine s_mask [false, false, true, true, true] (lv' := [none, none, none, none, none]) rfl rfl ?_
      exact hK _ h
    · replace h := h.2 c
      refine s_iconst (v := 0) hX dX12_findJune_144 rfl ?_
      refine s_istore_n (lv' := [some (vr c_mo), some (vi 0), none, none, none]) hX dX12_findJune_145 rfl rfl (Nat.le_of_ble_eq_true rfl) ?_
      refine s_iconst (v := 0) hX dX12_findJune_146 rfl ?_
      refine s_istore_n (lv' := [some (vr c_mo), some (vi 0), some (vi 0), none, none]) hX dX12_findJune_147 rfl rfl (Nat.le_of_ble_eq_true rfl) ?_
      obtain ⟨n1268, h⟩ := h
      refine t_Mo_findJune_L148 hX hq ?_ n1268 _ _ _ h
      intro y1267 M1266 h
      refine s_goto (tgt := 140) hX dX12_findJune_273 (by decide) ?_
      exact ih _ _ h
def w_Mo_findJune (M : Mem) (Q : Mem → Prop) : Prop :=
  w_Mo_standsAsTold M (fun M1251 => w_Mo_findOwes 0 M1251 (fun M1252 => (∃ n1271, w_Mo_findJune_L11 (fun M1257 => (∃ n1270, w_Mo_findJune_L140 (fun M1269 => Q M1269) Q n1270 1 M1257)) Q n1271 0 M1252)))
set_option maxHeartbeats 4000000 in
theorem t_Mo_findJune {X : Cx} (hX : Cok X cX12_findJune RX12 5 none 7 0 0) {Q : Mem → Prop} (hq : RV X 0 0 LY Q) {M : Mem} (h : w_Mo_findJune M Q) : Wat X 0 0 LY 0 [some (vr c_mo), none, none, none, none] [] M := by
  refine s_aload_n hX dX12_findJune_0 rfl ?_
  refine s_cvv (as := []) (rest := []) hX (c_Mo_standsAsTold h) mv_Mo_standsAsTold wd_ml_X12_314 dX12_findJune_1 ly_c_mo rfl rfl (Nat.le_of_ble_eq_true rfl) rfl (by decide) ⟨Nat.zero_le _, Nat.zero_le _⟩ (fun M1251 h => ?_)
  refine s_aload_n hX dX12_findJune_4 rfl ?_
  refine s_iconst (v := 0) hX dX12_findJune_5 rfl ?_
  refine s_cvv (as := [vi 0]) (rest := []) hX (c_Mo_findOwes h) mv_Mo_findOwes wd_ml_X12_364 dX12_findJune_6 ly_c_mo rfl rfl (Nat.le_of_ble_eq_true rfl) rfl (by decide) ⟨Nat.zero_le _, Nat.zero_le _⟩ (fun M1252 h => ?_)
  refine s_iconst (v := 0) hX dX12_findJune_9 rfl ?_
  refine s_istore_n (lv' := [some (vr c_mo), some (vi 0), none, none, none]) hX dX12_findJune_10 rfl rfl (Nat.le_of_ble_eq_true rfl) ?_
  obtain ⟨n1271, h⟩ := h
  refine t_Mo_findJune_L11 hX hq ?_ n1271 _ _ h
  intro M1257 h
  refine s_iconst (v := 1) hX dX12_findJune_138 rfl ?_
  refine s_istore_n (lv' := [some (vr c_mo), some (vi 1), none, none, none]) hX dX12_findJune_139 rfl rfl (Nat.le_of_ble_eq_true rfl) ?_
  obtain ⟨n1270, h⟩ := h
  refine t_Mo_findJune_L140 hX hq ?_ n1270 _ _ h
  intro M1269 h
  exact s_vret hX hq rfl dX12_findJune_276 h
theorem c_Mo_findJune {M : Mem} {Q : Mem → Prop} (h : w_Mo_findJune M Q) : CV yX12_findJune cX12_findJune 5 none 7 0 0 LY LY [vr c_mo] M Q := mk_v rfl wd_co_X12_findJune rfl rfl (Nat.le_of_ble_eq_true rfl) (fun X hX hq => t_Mo_findJune hX hq h)
theorem mv_Mo_findJune : MV yX12_findJune cX12_findJune 5 none RX12 0 := ⟨wd_co_X12_findJune, wd_im_X12_findJune, wd_se_X12_findJune, wd_in_X12, by decide +kernel, by decide⟩
def w_Mo_june_L40 (l1 : Int32) (l3 : Int32) (K : Int32 → Mem → Prop) (Q : Int32 → Mem → Prop) : Nat → Int32 → Int32 → Mem → Prop
  | 0, _, _, _ => False
  | n + 1, l2, l4, M => w_Mo_persons M (fun r1276 M1275 => ((r1276 ≤ l4 → K l2 M1275) ∧ (¬ r1276 ≤ l4 → (vp_in ((6 * l3) + l4) 36 ∧ (((M1275.1 c_mo_owes (Int32.toNatClampNeg ((6 * l3) + l4))) ≤ 0 → w_Mo_june_L40 l1 l3 K Q n (l2 ||| 0) (l4 + 1) M1275) ∧ (¬ (M1275.1 c_mo_owes (Int32.toNatClampNeg ((6 * l3) + l4))) ≤ 0 → w_Mo_june_L40 l1 l3 K Q n (l2 ||| (1 <<< (l3 &&& 31))) (l4 + 1) M1275))))))
set_option maxHeartbeats 4000000 in
theorem t_Mo_june_L40 {X : Cx} (hX : Cok X cX12_june RX12 5 ((some .int)) 8 0 0) {Q : Int32 → Mem → Prop} (hq : RI X 0 0 LY Q) {l1 : Int32} {l3 : Int32} {K : Int32 → Mem → Prop} (hK : ∀ (l2 : Int32) (M : Mem), K l2 M → Wat X 0 0 LY 80 [some (vr c_mo), some (vi l1), some (vi l2), some (vi l3), none] [] M) : ∀ (n : Nat) (l2 : Int32) (l4 : Int32) (M : Mem), w_Mo_june_L40 l1 l3 K Q n l2 l4 M → Wat X 0 0 LY 40 [some (vr c_mo), some (vi l1), some (vi l2), some (vi l3), some (vi l4)] [] M := by
  intro n
  induction n with
  | zero => intro _ _ _ h; exact h.elim
  | succ n ih =>
    intro l2 l4 M h
    refine s_iload hX dX12_june_40 rfl ?_
    refine s_aload_n hX dX12_june_42 rfl ?_
    refine s_cvi (as := []) (rest := [vi l4]) hX (c_Mo_persons h) mv_Mo_persons wd_ml_X12_226 dX12_june_43 ly_c_mo rfl rfl (Nat.le_of_ble_eq_true rfl) rfl (by decide) ⟨Nat.zero_le _, Nat.zero_le _⟩ (fun r1276 M1275 h => ?_)
    refine s_icmp_ge (tgt := 80) hX dX12_june_46 (by decide) (fun c => ?_) (fun c => ?_)
    · replace h := h.1 c
      refine s_mask [true, true, true, true, false] (lv' := [some (vr c_mo), some (vi l1), some (vi l2), some (vi l3), none]) rfl rfl ?_
      exact hK _ _ h
    · replace h := h.2 c
      refine s_iload_n hX dX12_june_49 rfl ?_
      refine s_aload_n hX dX12_june_50 rfl ?_
      refine s_getr hX fi_X12_131 ly_c_mo rfl dX12_june_51 ?_
      refine s_bipush (v := 6) hX dX12_june_54 rfl ?_
      refine s_iload_n hX dX12_june_56 rfl ?_
      refine s_imul hX dX12_june_57 ?_
      refine s_iload hX dX12_june_58 rfl ?_
      refine s_iadd hX dX12_june_60 ?_
      have hi := h.1
      replace h := h.2
      refine s_ialdv (v := (M1275.1 c_mo_owes (Int32.toNatClampNeg ((6 * l3) + l4)))) hX ly_c_mo_owes hi dX12_june_61 rfl ?_
      refine s_if_le (tgt := 71) hX dX12_june_62 (by decide) (fun c => ?_) (fun c => ?_)
      · replace h := h.1 c
        refine s_iconst (v := 0) hX dX12_june_71 rfl ?_
        refine s_ior hX dX12_june_72 ?_
        refine s_istore_n (lv' := [some (vr c_mo), some (vi l1), some (vi (l2 ||| 0)), some (vi l3), some (vi l4)]) hX dX12_june_73 rfl rfl (Nat.le_of_ble_eq_true rfl) ?_
        refine s_iinc (v := (l4 + 1)) (lv' := [some (vr c_mo), some (vi l1), some (vi (l2 ||| 0)), some (vi l3), some (vi (l4 + 1))]) hX dX12_june_74 rfl rfl rfl rfl ?_
        refine s_goto (tgt := 40) hX dX12_june_77 (by decide) ?_
        exact ih _ _ _ h
      · replace h := h.2 c
        refine s_iconst (v := 1) hX dX12_june_65 rfl ?_
        refine s_iload_n hX dX12_june_66 rfl ?_
        refine s_ishl hX dX12_june_67 ?_
        refine s_goto (tgt := 72) hX dX12_june_68 (by decide) ?_
        refine s_ior hX dX12_june_72 ?_
        refine s_istore_n (lv' := [some (vr c_mo), some (vi l1), some (vi (l2 ||| (1 <<< (l3 &&& 31)))), some (vi l3), some (vi l4)]) hX dX12_june_73 rfl rfl (Nat.le_of_ble_eq_true rfl) ?_
        refine s_iinc (v := (l4 + 1)) (lv' := [some (vr c_mo), some (vi l1), some (vi (l2 ||| (1 <<< (l3 &&& 31)))), some (vi l3), some (vi (l4 + 1))]) hX dX12_june_74 rfl rfl rfl rfl ?_
        refine s_goto (tgt := 40) hX dX12_june_77 (by decide) ?_
        exact ih _ _ _ h
def w_Mo_june_L29 (l1 : Int32) (K : Int32 → Mem → Prop) (Q : Int32 → Mem → Prop) : Nat → Int32 → Int32 → Mem → Prop
  | 0, _, _, _ => False
  | n + 1, l2, l3, M => w_Mo_persons M (fun r1274 M1273 => ((r1274 ≤ l3 → K l2 M1273) ∧ (¬ r1274 ≤ l3 → (∃ n1279, w_Mo_june_L40 l1 l3 (fun y1278 M1277 => w_Mo_june_L29 l1 K Q n y1278 (l3 + 1) M1277) Q n1279 l2 0 M1273))))
set_option maxHeartbeats 4000000 in
theorem t_Mo_june_L29 {X : Cx} (hX : Cok X cX12_june RX12 5 ((some .int)) 8 0 0) {Q : Int32 → Mem → Prop} (hq : RI X 0 0 LY Q) {l1 : Int32} {K : Int32 → Mem → Prop} (hK : ∀ (l2 : Int32) (M : Mem), K l2 M → Wat X 0 0 LY 86 [some (vr c_mo), some (vi l1), some (vi l2), none, none] [] M) : ∀ (n : Nat) (l2 : Int32) (l3 : Int32) (M : Mem), w_Mo_june_L29 l1 K Q n l2 l3 M → Wat X 0 0 LY 29 [some (vr c_mo), some (vi l1), some (vi l2), some (vi l3), none] [] M := by
  intro n
  induction n with
  | zero => intro _ _ _ h; exact h.elim
  | succ n ih =>
    intro l2 l3 M h
    refine s_iload_n hX dX12_june_29 rfl ?_
    refine s_aload_n hX dX12_june_30 rfl ?_
    refine s_cvi (as := []) (rest := [vi l3]) hX (c_Mo_persons h) mv_Mo_persons wd_ml_X12_226 dX12_june_31 ly_c_mo rfl rfl (Nat.le_of_ble_eq_true rfl) rfl (by decide) ⟨Nat.zero_le _, Nat.zero_le _⟩ (fun r1274 M1273 h => ?_)
    refine s_icmp_ge (tgt := 86) hX dX12_june_34 (by decide) (fun c => ?_) (fun c => ?_)
    · replace h := h.1 c
      refine s_mask [true, true, true, false, true] (lv' := [some (vr c_mo), some (vi l1), some (vi l2), none, none]) rfl rfl ?_
      exact hK _ _ h
    · replace h := h.2 c
      refine s_iconst (v := 0) hX dX12_june_37 rfl ?_
      refine s_istore (lv' := [some (vr c_mo), some (vi l1), some (vi l2), some (vi l3), some (vi 0)]) hX dX12_june_38 rfl rfl (Nat.le_of_ble_eq_true rfl) ?_
      obtain ⟨n1279, h⟩ := h
      refine t_Mo_june_L40 hX hq ?_ n1279 _ _ _ h
      intro y1278 M1277 h
      refine s_iinc (v := (l3 + 1)) (lv' := [some (vr c_mo), some (vi l1), some (vi y1278), some (vi (l3 + 1)), none]) hX dX12_june_80 rfl rfl rfl rfl ?_
      refine s_goto (tgt := 29) hX dX12_june_83 (by decide) ?_
      exact ih _ _ _ h
def w_Mo_june_j21 (l1 : Int32) (M : Mem) (Q : Int32 → Mem → Prop) : Prop :=
  w_Mo_findJune M (fun M1272 => (∃ n1282, w_Mo_june_L29 l1 (fun y1281 M1280 => ((¬ l1 = (-1) → (vp_in l1 6 ∧ Q (M1280.1 c_mo_purse (Int32.toNatClampNeg l1)) M1280)) ∧ (l1 = (-1) → Q y1281 M1280))) Q n1282 0 0 M1272))
set_option maxHeartbeats 4000000 in
theorem t_Mo_june_j21 {X : Cx} (hX : Cok X cX12_june RX12 5 ((some .int)) 8 0 0) {Q : Int32 → Mem → Prop} (hq : RI X 0 0 LY Q) {l1 : Int32} {M : Mem} (h : w_Mo_june_j21 l1 M Q) : Wat X 0 0 LY 21 [some (vr c_mo), some (vi l1), none, none, none] [] M := by
  refine s_aload_n hX dX12_june_21 rfl ?_
  refine s_cvv (as := []) (rest := []) hX (c_Mo_findJune h) mv_Mo_findJune wd_ml_X12_419 dX12_june_22 ly_c_mo rfl rfl (Nat.le_of_ble_eq_true rfl) rfl (by decide) ⟨Nat.zero_le _, Nat.zero_le _⟩ (fun M1272 h => ?_)
  refine s_iconst (v := 0) hX dX12_june_25 rfl ?_
  refine s_istore_n (lv' := [some (vr c_mo), some (vi l1), some (vi 0), none, none]) hX dX12_june_26 rfl rfl (Nat.le_of_ble_eq_true rfl) ?_
  refine s_iconst (v := 0) hX dX12_june_27 rfl ?_
  refine s_istore_n (lv' := [some (vr c_mo), some (vi l1), some (vi 0), some (vi 0), none]) hX dX12_june_28 rfl rfl (Nat.le_of_ble_eq_true rfl) ?_
  obtain ⟨n1282, h⟩ := h
  refine t_Mo_june_L29 hX hq ?_ n1282 _ _ _ h
  intro y1281 M1280 h
  refine s_iload_n hX dX12_june_86 rfl ?_
  refine s_iconst (v := (-1)) hX dX12_june_87 rfl ?_
  refine s_icmp_ne (tgt := 95) hX dX12_june_88 (by decide) (fun c => ?_) (fun c => ?_)
  · replace h := h.1 c
    refine s_aload_n hX dX12_june_95 rfl ?_
    refine s_getr hX fi_X12_146 ly_c_mo rfl dX12_june_96 ?_
    refine s_iload_n hX dX12_june_99 rfl ?_
    have hi := h.1
    replace h := h.2
    refine s_ialdv (v := (M1280.1 c_mo_purse (Int32.toNatClampNeg l1))) hX ly_c_mo_purse hi dX12_june_100 rfl ?_
    exact s_iret hX hq rfl dX12_june_101 h
  · replace h := h.2 c
    refine s_iload_n hX dX12_june_91 rfl ?_
    refine s_goto (tgt := 101) hX dX12_june_92 (by decide) ?_
    exact s_iret hX hq rfl dX12_june_101 h
def w_Mo_june (a0 : Int32) (M : Mem) (Q : Int32 → Mem → Prop) : Prop :=
  ((a0 = (-1) → w_Mo_june_j21 a0 (si M c_mo Mo_thrown 0) Q) ∧ (¬ a0 = (-1) → w_Mo_isPerson a0 (si M c_mo Mo_thrown 0) (fun b1284 M1283 => ((b1284 = true → w_Mo_june_j21 a0 M1283 Q) ∧ (b1284 = false → Q (-2) M1283)))))
set_option maxHeartbeats 4000000 in
theorem t_Mo_june {X : Cx} (hX : Cok X cX12_june RX12 5 ((some .int)) 8 0 0) {Q : Int32 → Mem → Prop} (hq : RI X 0 0 LY Q) {M : Mem} {a0 : Int32} (h : w_Mo_june a0 M Q) : Wat X 0 0 LY 0 [some (vr c_mo), some (vi a0), none, none, none] [] M := by
  refine s_aload_n hX dX12_june_0 rfl ?_
  refine s_iconst (v := 0) hX dX12_june_1 rfl ?_
  refine s_puti hX fi_X12_1 fp_X12 rfl (by decide +kernel) ly_c_mo rfl dX12_june_2 ?_
  refine s_iload_n hX dX12_june_5 rfl ?_
  refine s_iconst (v := (-1)) hX dX12_june_6 rfl ?_
  refine s_icmp_eq (tgt := 21) hX dX12_june_7 (by decide) (fun c => ?_) (fun c => ?_)
  · replace h := h.1 c
    exact t_Mo_june_j21 hX hq h
  · replace h := h.2 c
    refine s_aload_n hX dX12_june_10 rfl ?_
    refine s_iload_n hX dX12_june_11 rfl ?_
    refine s_cvi (as := [vi a0]) (rest := []) hX (c_Mo_isPerson h) mv_Mo_isPerson wd_ml_X12_352 dX12_june_12 ly_c_mo rfl rfl (Nat.le_of_ble_eq_true rfl) rfl (by decide) ⟨Nat.zero_le _, Nat.zero_le _⟩ (fun b1284_ M1283 h => ?_)
    obtain ⟨b1284, rfl, h⟩ := h
    refine s_if_ne (tgt := 21) hX dX12_june_15 (by decide) (fun c => ?_) (fun c => ?_)
    · replace h := h.1 (b2i_1 c)
      exact t_Mo_june_j21 hX hq h
    · replace h := h.2 (b2i_0 c)
      refine s_bipush (v := (-2)) hX dX12_june_18 rfl ?_
      exact s_iret hX hq rfl dX12_june_20 h
theorem c_Mo_june {a0 : Int32} {M : Mem} {Q : Int32 → Mem → Prop} (h : w_Mo_june a0 M Q) : CI yX12_june cX12_june 5 ((some .int)) 8 0 0 LY LY [vr c_mo, vi a0] M Q := mk_i rfl wd_co_X12_june rfl rfl (Nat.le_of_ble_eq_true rfl) (fun X hX hq => t_Mo_june hX hq h)
theorem mv_Mo_june : MV yX12_june cX12_june 5 ((some .int)) RX12 1 := ⟨wd_co_X12_june, wd_im_X12_june, wd_se_X12_june, wd_in_X12, by decide +kernel, by decide⟩
def w_Mo_mark_j29 (l1 : Int32) (l2 : Int32) (M : Mem) (Q : Bool → Mem → Prop) : Prop :=
  ((l2 = 0 → (vp_in l1 4 ∧ w_Mo_copies 0 (1 + l1) 128 (si M c_mo_isMarked (Int32.toNatClampNeg l1) (vp_nar .boolean 1)) (fun M1287 => Q true M1287))) ∧ (¬ l2 = 0 → w_Mo_copies (1 + l1) 0 128 M (fun M1288 => Q true (si M1288 c_mo Mo_undos 0))))
set_option maxHeartbeats 4000000 in
theorem t_Mo_mark_j29 {X : Cx} (hX : Cok X cX12_mark RX12 3 ((some .boolean)) 2 0 0) {Q : Bool → Mem → Prop} (hq : RI X 0 0 LY (bQ Q)) {l1 : Int32} {l2 : Int32} {M : Mem} (h : w_Mo_mark_j29 l1 l2 M Q) : Wat X 0 0 LY 29 [some (vr c_mo), some (vi l1), some (vi l2)] [] M := by
  refine s_iload_n hX dX12_mark_29 rfl ?_
  refine s_if_eq (tgt := 52) hX dX12_mark_30 (by decide) (fun c => ?_) (fun c => ?_)
  · replace h := h.1 c
    refine s_aload_n hX dX12_mark_52 rfl ?_
    refine s_getr hX fi_X12_118 ly_c_mo rfl dX12_mark_53 ?_
    refine s_iload_n hX dX12_mark_56 rfl ?_
    refine s_iconst (v := 1) hX dX12_mark_57 rfl ?_
    have hi := h.1
    replace h := h.2
    refine s_zast hX ly_c_mo_isMarked hi dX12_mark_58 ?_
    refine s_aload_n hX dX12_mark_59 rfl ?_
    refine s_iconst (v := 0) hX dX12_mark_60 rfl ?_
    refine s_iconst (v := 1) hX dX12_mark_61 rfl ?_
    refine s_iload_n hX dX12_mark_62 rfl ?_
    refine s_iadd hX dX12_mark_63 ?_
    refine s_sipush (v := 128) hX dX12_mark_64 rfl ?_
    refine s_cvv (as := [vi 0, vi (1 + l1), vi 128]) (rest := []) hX (c_Mo_copies h) mv_Mo_copies wd_ml_X12_307 dX12_mark_67 ly_c_mo rfl rfl (Nat.le_of_ble_eq_true rfl) rfl (by decide) ⟨Nat.zero_le _, Nat.zero_le _⟩ (fun M1287 h => ?_)
    refine s_iconst (v := 1) hX dX12_mark_70 rfl ?_
    exact s_zret hX true hq rfl dX12_mark_71 rfl h
  · replace h := h.2 c
    refine s_aload_n hX dX12_mark_33 rfl ?_
    refine s_iconst (v := 1) hX dX12_mark_34 rfl ?_
    refine s_iload_n hX dX12_mark_35 rfl ?_
    refine s_iadd hX dX12_mark_36 ?_
    refine s_iconst (v := 0) hX dX12_mark_37 rfl ?_
    refine s_sipush (v := 128) hX dX12_mark_38 rfl ?_
    refine s_cvv (as := [vi (1 + l1), vi 0, vi 128]) (rest := []) hX (c_Mo_copies h) mv_Mo_copies wd_ml_X12_307 dX12_mark_41 ly_c_mo rfl rfl (Nat.le_of_ble_eq_true rfl) rfl (by decide) ⟨Nat.zero_le _, Nat.zero_le _⟩ (fun M1288 h => ?_)
    refine s_aload_n hX dX12_mark_44 rfl ?_
    refine s_iconst (v := 0) hX dX12_mark_45 rfl ?_
    refine s_puti hX fi_X12_230 fp_X12 rfl (by decide +kernel) ly_c_mo rfl dX12_mark_46 ?_
    refine s_goto (tgt := 70) hX dX12_mark_49 (by decide) ?_
    refine s_iconst (v := 1) hX dX12_mark_70 rfl ?_
    exact s_zret hX true hq rfl dX12_mark_71 rfl h
def w_Mo_mark (a0 : Int32) (a1 : Int32) (M : Mem) (Q : Bool → Mem → Prop) : Prop :=
  w_Mo_within a0 0 3 (si M c_mo Mo_thrown 0) (fun b1286 M1285 => ((b1286 = false → Q false M1285) ∧ (b1286 = true → ((a1 = 0 → w_Mo_mark_j29 a0 a1 M1285 Q) ∧ (¬ a1 = 0 → (vp_in a0 4 ∧ ((¬ (M1285.1 c_mo_isMarked (Int32.toNatClampNeg a0)) = 0 → w_Mo_mark_j29 a0 a1 M1285 Q) ∧ ((M1285.1 c_mo_isMarked (Int32.toNatClampNeg a0)) = 0 → Q false M1285))))))))
set_option maxHeartbeats 4000000 in
theorem t_Mo_mark {X : Cx} (hX : Cok X cX12_mark RX12 3 ((some .boolean)) 2 0 0) {Q : Bool → Mem → Prop} (hq : RI X 0 0 LY (bQ Q)) {M : Mem} {a0 : Int32} {a1 : Int32} (h : w_Mo_mark a0 a1 M Q) : Wat X 0 0 LY 0 [some (vr c_mo), some (vi a0), some (vi a1)] [] M := by
  refine s_aload_n hX dX12_mark_0 rfl ?_
  refine s_iconst (v := 0) hX dX12_mark_1 rfl ?_
  refine s_puti hX fi_X12_1 fp_X12 rfl (by decide +kernel) ly_c_mo rfl dX12_mark_2 ?_
  refine s_iload_n hX dX12_mark_5 rfl ?_
  refine s_iconst (v := 0) hX dX12_mark_6 rfl ?_
  refine s_iconst (v := 3) hX dX12_mark_7 rfl ?_
  refine s_csi (as := [vi a0, vi 0, vi 3]) (rest := []) hX (c_Mo_within h) ms_Mo_within wd_ml_X12_355 dX12_mark_8 rfl (Nat.le_of_ble_eq_true rfl) rfl (by decide) ⟨Nat.zero_le _, Nat.zero_le _⟩ (fun b1286_ M1285 h => ?_)
  obtain ⟨b1286, rfl, h⟩ := h
  refine s_if_eq (tgt := 27) hX dX12_mark_11 (by decide) (fun c => ?_) (fun c => ?_)
  · replace h := h.1 (b2i_0 c)
    refine s_iconst (v := 0) hX dX12_mark_27 rfl ?_
    exact s_zret hX false hq rfl dX12_mark_28 rfl h
  · replace h := h.2 (b2i_1 c)
    refine s_iload_n hX dX12_mark_14 rfl ?_
    refine s_if_eq (tgt := 29) hX dX12_mark_15 (by decide) (fun c => ?_) (fun c => ?_)
    · replace h := h.1 c
      exact t_Mo_mark_j29 hX hq h
    · replace h := h.2 c
      refine s_aload_n hX dX12_mark_18 rfl ?_
      refine s_getr hX fi_X12_118 ly_c_mo rfl dX12_mark_19 ?_
      refine s_iload_n hX dX12_mark_22 rfl ?_
      have hi := h.1
      replace h := h.2
      refine s_zaldv (v := (M1285.1 c_mo_isMarked (Int32.toNatClampNeg a0))) hX ly_c_mo_isMarked hi dX12_mark_23 rfl ?_
      refine s_if_ne (tgt := 29) hX dX12_mark_24 (by decide) (fun c => ?_) (fun c => ?_)
      · replace h := h.1 c
        exact t_Mo_mark_j29 hX hq h
      · replace h := h.2 c
        refine s_iconst (v := 0) hX dX12_mark_27 rfl ?_
        exact s_zret hX false hq rfl dX12_mark_28 rfl h
theorem c_Mo_mark {a0 : Int32} {a1 : Int32} {M : Mem} {Q : Bool → Mem → Prop} (h : w_Mo_mark a0 a1 M Q) : CI yX12_mark cX12_mark 3 ((some .boolean)) 2 0 0 LY LY [vr c_mo, vi a0, vi a1] M (bQ Q) := mk_i rfl wd_co_X12_mark rfl rfl (Nat.le_of_ble_eq_true rfl) (fun X hX hq => t_Mo_mark hX hq h)
theorem mv_Mo_mark : MV yX12_mark cX12_mark 3 ((some .boolean)) RX12 2 := ⟨wd_co_X12_mark, wd_im_X12_mark, wd_se_X12_mark, wd_in_X12, by decide +kernel, by decide⟩
def w_Mo_count_L102 (K : Int32 → Mem → Prop) (Q : Int32 → Mem → Prop) : Nat → Int32 → Int32 → Mem → Prop
  | 0, _, _, _ => False
  | n + 1, l2, l3, M => w_Mo_persons M (fun r1298 M1297 => ((r1298 ≤ l3 → K l2 M1297) ∧ (¬ r1298 ≤ l3 → (vp_in (121 + l3) 3200 ∧ ∀ x1299 : Int32, x1299 = (l2 + (if (M1297.1 c_mo_state (Int32.toNatClampNeg (121 + l3))) < 0 then (0 : Int32) else 1)) → w_Mo_count_L102 K Q n x1299 (l3 + 1) M1297))))
set_option maxHeartbeats 4000000 in
theorem t_Mo_count_L102 {X : Cx} (hX : Cok X cX12_count RX12 4 ((some .int)) 2 0 0) {Q : Int32 → Mem → Prop} (hq : RI X 0 0 LY Q) {K : Int32 → Mem → Prop} (hK : ∀ (l2 : Int32) (M : Mem), K l2 M → Wat X 0 0 LY 136 [none, none, some (vi l2), none] [] M) : ∀ (n : Nat) (l2 : Int32) (l3 : Int32) (M : Mem), w_Mo_count_L102 K Q n l2 l3 M → Wat X 0 0 LY 102 [some (vr c_mo), none, some (vi l2), some (vi l3)] [] M := by
  intro n
  induction n with
  | zero => intro _ _ _ h; exact h.elim
  | succ n ih =>
    intro l2 l3 M h
    refine s_iload_n hX dX12_count_102 rfl ?_
    refine s_aload_n hX dX12_count_103 rfl ?_
    refine s_cvi (as := []) (rest := [vi l3]) hX (c_Mo_persons h) mv_Mo_persons wd_ml_X12_226 dX12_count_104 ly_c_mo rfl rfl (Nat.le_of_ble_eq_true rfl) rfl (by decide) ⟨Nat.zero_le _, Nat.zero_le _⟩ (fun r1298 M1297 h => ?_)
    refine s_icmp_ge (tgt := 136) hX dX12_count_107 (by decide) (fun c => ?_) (fun c => ?_)
    · replace h := h.1 c
      refine s_mask [false, true, true, false] (lv' := [none, none, some (vi l2), none]) rfl rfl ?_
      exact hK _ _ h
    · replace h := h.2 c
      refine s_iload_n hX dX12_count_110 rfl ?_
      refine s_aload_n hX dX12_count_111 rfl ?_
      refine s_getr hX fi_X12_115 ly_c_mo rfl dX12_count_112 ?_
      refine s_bipush (v := 121) hX dX12_count_115 rfl ?_
      refine s_iload_n hX dX12_count_117 rfl ?_
      refine s_iadd hX dX12_count_118 ?_
      have hi := h.1
      replace h := h.2
      refine s_ialdv (v := (M1297.1 c_mo_state (Int32.toNatClampNeg (121 + l3)))) hX ly_c_mo_state hi dX12_count_119 rfl ?_
      have hJ : Wat X 0 0 LY 128 [some (vr c_mo), none, some (vi l2), some (vi l3)] [vi (if (M1297.1 c_mo_state (Int32.toNatClampNeg (121 + l3))) < 0 then (0 : Int32) else 1), vi l2] M1297 := by
        refine s_iadd hX dX12_count_128 ?_
        refine s_nmi (fun x1299 ex1299 => ?_)
        replace h := h x1299 ex1299
        refine s_istore_n (lv' := [some (vr c_mo), none, some (vi x1299), some (vi l3)]) hX dX12_count_129 rfl rfl (Nat.le_of_ble_eq_true rfl) ?_
        refine s_iinc (v := (l3 + 1)) (lv' := [some (vr c_mo), none, some (vi x1299), some (vi (l3 + 1))]) hX dX12_count_130 rfl rfl rfl rfl ?_
        refine s_goto (tgt := 102) hX dX12_count_133 (by decide) ?_
        exact ih _ _ _ h
      refine s_if_lt (tgt := 127) hX dX12_count_120 (by decide) (fun c => ?_) (fun c => ?_)
      · rw [if_pos c] at hJ
        refine s_iconst (v := 0) hX dX12_count_127 rfl ?_
        exact hJ
      · rw [if_neg c] at hJ
        refine s_iconst (v := 1) hX dX12_count_123 rfl ?_
        refine s_goto (tgt := 128) hX dX12_count_124 (by decide) ?_
        exact hJ
def w_Mo_count (a0 : Int32) (M : Mem) (Q : Int32 → Mem → Prop) : Prop :=
  ((a0 = 0 → (vp_in 0 360 ∧ Q (M.1 c_mo_lands (Int32.toNatClampNeg 0)) (si M c_mo Mo_thrown 0))) ∧ (a0 = 1 → (vp_in 1 360 ∧ Q (M.1 c_mo_lands (Int32.toNatClampNeg 1)) (si M c_mo Mo_thrown 0))) ∧ (a0 = 2 → w_Mo_persons (si M c_mo Mo_thrown 0) (fun r1290 M1289 => Q r1290 M1289)) ∧ (a0 = 3 → w_Mo_birds (si M c_mo Mo_thrown 0) (fun r1292 M1291 => Q r1292 M1291)) ∧ (a0 = 4 → w_Mo_callsTold (si M c_mo Mo_thrown 0) (fun r1294 M1293 => Q r1294 M1293)) ∧ (a0 = 5 → (vp_in 120 3200 ∧ w_Mo_bits (M.1 c_mo_state (Int32.toNatClampNeg 120)) (si M c_mo Mo_thrown 0) (fun r1296 M1295 => Q r1296 M1295))) ∧ (a0 = 6 → (∃ n1302, w_Mo_count_L102 (fun y1301 M1300 => Q y1301 M1300) Q n1302 0 0 (si M c_mo Mo_thrown 0))) ∧ (a0 = 7 → Q (M.1 c_mo Mo_undos) (si M c_mo Mo_thrown 0)) ∧ (a0 = 8 → Q (M.1 c_mo Mo_taped) (si M c_mo Mo_thrown 0)) ∧ (¬ a0 = 0 → ¬ a0 = 1 → ¬ a0 = 2 → ¬ a0 = 3 → ¬ a0 = 4 → ¬ a0 = 5 → ¬ a0 = 6 → ¬ a0 = 7 → ¬ a0 = 8 → Q (-1) (si M c_mo Mo_thrown 0)))
set_option maxHeartbeats 4000000 in
theorem t_Mo_count {X : Cx} (hX : Cok X cX12_count RX12 4 ((some .int)) 2 0 0) {Q : Int32 → Mem → Prop} (hq : RI X 0 0 LY Q) {M : Mem} {a0 : Int32} (h : w_Mo_count a0 M Q) : Wat X 0 0 LY 0 [some (vr c_mo), some (vi a0), none, none] [] M := by
  refine s_aload_n hX dX12_count_0 rfl ?_
  refine s_iconst (v := 0) hX dX12_count_1 rfl ?_
  refine s_puti hX fi_X12_1 fp_X12 rfl (by decide +kernel) ly_c_mo rfl dX12_count_2 ?_
  refine s_iconst (v := 0) hX dX12_count_5 rfl ?_
  refine s_istore_n (lv' := [some (vr c_mo), some (vi a0), some (vi 0), none]) hX dX12_count_6 rfl rfl (Nat.le_of_ble_eq_true rfl) ?_
  refine s_iload_n hX dX12_count_7 rfl ?_
  by_cases c0 : a0 = 0
  · replace h := h.1 c0
    refine s_tableIn (tgt := 60) (off := 52) hX dX12_count_8 (by rw [c0]; decide) (by rw [c0]; decide) (by rw [c0]; rfl) (by decide) ?_
    refine s_aload_n hX dX12_count_60 rfl ?_
    refine s_getr hX fi_X12_85 ly_c_mo rfl dX12_count_61 ?_
    refine s_iconst (v := 0) hX dX12_count_64 rfl ?_
    have hi := h.1
    replace h := h.2
    refine s_ialdv (v := (M.1 c_mo_lands (Int32.toNatClampNeg 0))) hX ly_c_mo_lands hi dX12_count_65 rfl ?_
    exact s_iret hX hq rfl dX12_count_66 h
  by_cases c1 : a0 = 1
  · replace h := h.2.1 c1
    refine s_tableIn (tgt := 67) (off := 59) hX dX12_count_8 (by rw [c1]; decide) (by rw [c1]; decide) (by rw [c1]; rfl) (by decide) ?_
    refine s_aload_n hX dX12_count_67 rfl ?_
    refine s_getr hX fi_X12_85 ly_c_mo rfl dX12_count_68 ?_
    refine s_iconst (v := 1) hX dX12_count_71 rfl ?_
    have hi := h.1
    replace h := h.2
    refine s_ialdv (v := (M.1 c_mo_lands (Int32.toNatClampNeg 1))) hX ly_c_mo_lands hi dX12_count_72 rfl ?_
    exact s_iret hX hq rfl dX12_count_73 h
  by_cases c2 : a0 = 2
  · replace h := h.2.2.1 c2
    refine s_tableIn (tgt := 74) (off := 66) hX dX12_count_8 (by rw [c2]; decide) (by rw [c2]; decide) (by rw [c2]; rfl) (by decide) ?_
    refine s_aload_n hX dX12_count_74 rfl ?_
    refine s_cvi (as := []) (rest := []) hX (c_Mo_persons h) mv_Mo_persons wd_ml_X12_226 dX12_count_75 ly_c_mo rfl rfl (Nat.le_of_ble_eq_true rfl) rfl (by decide) ⟨Nat.zero_le _, Nat.zero_le _⟩ (fun r1290 M1289 h => ?_)
    exact s_iret hX hq rfl dX12_count_78 h
  by_cases c3 : a0 = 3
  · replace h := h.2.2.2.1 c3
    refine s_tableIn (tgt := 79) (off := 71) hX dX12_count_8 (by rw [c3]; decide) (by rw [c3]; decide) (by rw [c3]; rfl) (by decide) ?_
    refine s_aload_n hX dX12_count_79 rfl ?_
    refine s_cvi (as := []) (rest := []) hX (c_Mo_birds h) mv_Mo_birds wd_ml_X12_311 dX12_count_80 ly_c_mo rfl rfl (Nat.le_of_ble_eq_true rfl) rfl (by decide) ⟨Nat.zero_le _, Nat.zero_le _⟩ (fun r1292 M1291 h => ?_)
    exact s_iret hX hq rfl dX12_count_83 h
  by_cases c4 : a0 = 4
  · replace h := h.2.2.2.2.1 c4
    refine s_tableIn (tgt := 84) (off := 76) hX dX12_count_8 (by rw [c4]; decide) (by rw [c4]; decide) (by rw [c4]; rfl) (by decide) ?_
    refine s_aload_n hX dX12_count_84 rfl ?_
    refine s_cvi (as := []) (rest := []) hX (c_Mo_callsTold h) mv_Mo_callsTold wd_ml_X12_370 dX12_count_85 ly_c_mo rfl rfl (Nat.le_of_ble_eq_true rfl) rfl (by decide) ⟨Nat.zero_le _, Nat.zero_le _⟩ (fun r1294 M1293 h => ?_)
    exact s_iret hX hq rfl dX12_count_88 h
  by_cases c5 : a0 = 5
  · replace h := h.2.2.2.2.2.1 c5
    refine s_tableIn (tgt := 89) (off := 81) hX dX12_count_8 (by rw [c5]; decide) (by rw [c5]; decide) (by rw [c5]; rfl) (by decide) ?_
    refine s_aload_n hX dX12_count_89 rfl ?_
    refine s_getr hX fi_X12_115 ly_c_mo rfl dX12_count_90 ?_
    refine s_bipush (v := 120) hX dX12_count_93 rfl ?_
    have hi := h.1
    replace h := h.2
    refine s_ialdv (v := (M.1 c_mo_state (Int32.toNatClampNeg 120))) hX ly_c_mo_state hi dX12_count_95 rfl ?_
    refine s_csi (as := [vi (M.1 c_mo_state (Int32.toNatClampNeg 120))]) (rest := []) hX (c_Mo_bits h) ms_Mo_bits wd_ml_X12_404 dX12_count_96 rfl (Nat.le_of_ble_eq_true rfl) rfl (by decide) ⟨Nat.zero_le _, Nat.zero_le _⟩ (fun r1296 M1295 h => ?_)
    exact s_iret hX hq rfl dX12_count_99 h
  by_cases c6 : a0 = 6
  · replace h := h.2.2.2.2.2.2.1 c6
    refine s_tableIn (tgt := 100) (off := 92) hX dX12_count_8 (by rw [c6]; decide) (by rw [c6]; decide) (by rw [c6]; rfl) (by decide) ?_
    refine s_iconst (v := 0) hX dX12_count_100 rfl ?_
    refine s_istore_n (lv' := [some (vr c_mo), some (vi a0), some (vi 0), some (vi 0)]) hX dX12_count_101 rfl rfl (Nat.le_of_ble_eq_true rfl) ?_
    refine s_mask [true, false, true, true] (lv' := [some (vr c_mo), none, some (vi 0), some (vi 0)]) rfl rfl ?_
    obtain ⟨n1302, h⟩ := h
    refine t_Mo_count_L102 hX hq ?_ n1302 _ _ _ h
    intro y1301 M1300 h
    refine s_iload_n hX dX12_count_136 rfl ?_
    exact s_iret hX hq rfl dX12_count_137 h
  by_cases c7 : a0 = 7
  · replace h := h.2.2.2.2.2.2.2.1 c7
    refine s_tableIn (tgt := 138) (off := 130) hX dX12_count_8 (by rw [c7]; decide) (by rw [c7]; decide) (by rw [c7]; rfl) (by decide) ?_
    refine s_aload_n hX dX12_count_138 rfl ?_
    refine s_getiv (v := (M.1 c_mo Mo_undos)) hX fi_X12_230 ly_c_mo rfl dX12_count_139 rfl ?_
    exact s_iret hX hq rfl dX12_count_142 h
  by_cases c8 : a0 = 8
  · replace h := h.2.2.2.2.2.2.2.2.1 c8
    refine s_tableIn (tgt := 143) (off := 135) hX dX12_count_8 (by rw [c8]; decide) (by rw [c8]; decide) (by rw [c8]; rfl) (by decide) ?_
    refine s_aload_n hX dX12_count_143 rfl ?_
    refine s_getiv (v := (M.1 c_mo Mo_taped)) hX fi_X12_11 ly_c_mo rfl dX12_count_144 rfl ?_
    exact s_iret hX hq rfl dX12_count_147 h
  replace h := h.2.2.2.2.2.2.2.2.2 c0 c1 c2 c3 c4 c5 c6 c7 c8
  have n0 := lv_neT (a := 0) c0 rfl
  have n1 := lv_neT (a := 1) c1 rfl
  have n2 := lv_neT (a := 2) c2 rfl
  have n3 := lv_neT (a := 3) c3 rfl
  have n4 := lv_neT (a := 4) c4 rfl
  have n5 := lv_neT (a := 5) c5 rfl
  have n6 := lv_neT (a := 6) c6 rfl
  have n7 := lv_neT (a := 7) c7 rfl
  have n8 := lv_neT (a := 8) c8 rfl
  refine s_tableOut (tgt := 148) hX dX12_count_8 (by omega) (by decide) ?_
  refine s_iconst (v := (-1)) hX dX12_count_148 rfl ?_
  exact s_iret hX hq rfl dX12_count_149 h
theorem c_Mo_count {a0 : Int32} {M : Mem} {Q : Int32 → Mem → Prop} (h : w_Mo_count a0 M Q) : CI yX12_count cX12_count 4 ((some .int)) 2 0 0 LY LY [vr c_mo, vi a0] M Q := mk_i rfl wd_co_X12_count rfl rfl (Nat.le_of_ble_eq_true rfl) (fun X hX hq => t_Mo_count hX hq h)
theorem mv_Mo_count : MV yX12_count cX12_count 4 ((some .int)) RX12 1 := ⟨wd_co_X12_count, wd_im_X12_count, wd_se_X12_count, wd_in_X12, by decide +kernel, by decide⟩
def w_Game_gainOutside (a0 : Int32) (a1 : Int32) (a2 : Int32) (M : Mem) (Q : Int32 → Mem → Prop) : Prop :=
  w_Debts_gainOf a0 0 (a1 - 1) (M.1 c_deeds Deeds_shot) M (fun r1305 M1304 => w_Debts_gainOf a0 (a2 + 1) 23 (M1304.1 c_deeds Deeds_shot) M1304 (fun r1307 M1306 => Q (r1305 + r1307) M1306))
set_option maxHeartbeats 4000000 in
theorem t_Game_gainOutside {X : Cx} (hX : Cok X cX2_gainOutside RX2 4 ((some .int)) 5 0 0) {Q : Int32 → Mem → Prop} (hq : RI X 0 0 LY Q) {M : Mem} {a0 : Int32} {a1 : Int32} {a2 : Int32} (h : w_Game_gainOutside a0 a1 a2 M Q) : Wat X 0 0 LY 0 [some (vr c_game), some (vi a0), some (vi a1), some (vi a2)] [] M := by
  refine s_aload_n hX dX2_gainOutside_0 rfl ?_
  refine s_getr hX fi_X2_27 ly_c_game rfl dX2_gainOutside_1 ?_
  refine s_iload_n hX dX2_gainOutside_4 rfl ?_
  refine s_iconst (v := 0) hX dX2_gainOutside_5 rfl ?_
  refine s_iload_n hX dX2_gainOutside_6 rfl ?_
  refine s_iconst (v := 1) hX dX2_gainOutside_7 rfl ?_
  refine s_isub hX dX2_gainOutside_8 ?_
  refine s_aload_n hX dX2_gainOutside_9 rfl ?_
  refine s_getr hX fi_X2_23 ly_c_game rfl dX2_gainOutside_10 ?_
  refine s_getiv (v := (M.1 c_deeds Deeds_shot)) hX fi_X2_78 ly_c_deeds rfl dX2_gainOutside_13 rfl ?_
  refine s_cvi (as := [vi a0, vi 0, vi (a1 - 1), vi (M.1 c_deeds Deeds_shot)]) (rest := []) hX (c_Debts_gainOf h) mv_Debts_gainOf wd_ml_X2_83 dX2_gainOutside_16 ly_c_debts rfl rfl (Nat.le_of_ble_eq_true rfl) rfl (by decide) ⟨Nat.zero_le _, Nat.zero_le _⟩ (fun r1305 M1304 h => ?_)
  refine s_aload_n hX dX2_gainOutside_19 rfl ?_
  refine s_getr hX fi_X2_27 ly_c_game rfl dX2_gainOutside_20 ?_
  refine s_iload_n hX dX2_gainOutside_23 rfl ?_
  refine s_iload_n hX dX2_gainOutside_24 rfl ?_
  refine s_iconst (v := 1) hX dX2_gainOutside_25 rfl ?_
  refine s_iadd hX dX2_gainOutside_26 ?_
  refine s_bipush (v := 23) hX dX2_gainOutside_27 rfl ?_
  refine s_aload_n hX dX2_gainOutside_29 rfl ?_
  refine s_getr hX fi_X2_23 ly_c_game rfl dX2_gainOutside_30 ?_
  refine s_getiv (v := (M1304.1 c_deeds Deeds_shot)) hX fi_X2_78 ly_c_deeds rfl dX2_gainOutside_33 rfl ?_
  refine s_cvi (as := [vi a0, vi (a2 + 1), vi 23, vi (M1304.1 c_deeds Deeds_shot)]) (rest := [vi r1305]) hX (c_Debts_gainOf h) mv_Debts_gainOf wd_ml_X2_83 dX2_gainOutside_36 ly_c_debts rfl rfl (Nat.le_of_ble_eq_true rfl) rfl (by decide) ⟨Nat.zero_le _, Nat.zero_le _⟩ (fun r1307 M1306 h => ?_)
  refine s_iadd hX dX2_gainOutside_39 ?_
  exact s_iret hX hq rfl dX2_gainOutside_40 h
theorem c_Game_gainOutside {a0 : Int32} {a1 : Int32} {a2 : Int32} {M : Mem} {Q : Int32 → Mem → Prop} (h : w_Game_gainOutside a0 a1 a2 M Q) : CI yX2_gainOutside cX2_gainOutside 4 ((some .int)) 5 0 0 LY LY [vr c_game, vi a0, vi a1, vi a2] M Q := mk_i rfl wd_co_X2_gainOutside rfl rfl (Nat.le_of_ble_eq_true rfl) (fun X hX hq => t_Game_gainOutside hX hq h)
theorem mv_Game_gainOutside : MV yX2_gainOutside cX2_gainOutside 4 ((some .int)) RX2 3 := ⟨wd_co_X2_gainOutside, wd_im_X2_gainOutside, wd_se_X2_gainOutside, wd_in_X2, by decide +kernel, by decide⟩
def w_Game_standOf (a0 : Int32) (a1 : Int32) (a2 : Int32) (M : Mem) (Q : Mem → Prop) : Prop :=
  w_Debts_allAsTold M (fun M1303 => w_Game_gainOutside (1 <<< (a0 &&& 31)) a1 a2 M1303 (fun r1309 M1308 => w_Game_tryCells (1 <<< (a0 &&& 31)) a1 a2 r1309 (si M1308 c_game Game_bestCell (-1)) (fun M1310 => Q M1310)))
set_option maxHeartbeats 4000000 in
theorem t_Game_standOf {X : Cx} (hX : Cok X cX2_standOf RX2 6 none 6 0 0) {Q : Mem → Prop} (hq : RV X 0 0 LY Q) {M : Mem} {a0 : Int32} {a1 : Int32} {a2 : Int32} (h : w_Game_standOf a0 a1 a2 M Q) : Wat X 0 0 LY 0 [some (vr c_game), some (vi a0), some (vi a1), some (vi a2), none, none] [] M := by
  refine s_aload_n hX dX2_standOf_0 rfl ?_
  refine s_getr hX fi_X2_27 ly_c_game rfl dX2_standOf_1 ?_
  refine s_cvv (as := []) (rest := []) hX (c_Debts_allAsTold h) mv_Debts_allAsTold wd_ml_X2_31 dX2_standOf_4 ly_c_debts rfl rfl (Nat.le_of_ble_eq_true rfl) rfl (by decide) ⟨Nat.zero_le _, Nat.zero_le _⟩ (fun M1303 h => ?_)
  refine s_iconst (v := 1) hX dX2_standOf_7 rfl ?_
  refine s_iload_n hX dX2_standOf_8 rfl ?_
  refine s_ishl hX dX2_standOf_9 ?_
  refine s_istore (lv' := [some (vr c_game), some (vi a0), some (vi a1), some (vi a2), some (vi (1 <<< (a0 &&& 31))), none]) hX dX2_standOf_10 rfl rfl (Nat.le_of_ble_eq_true rfl) ?_
  refine s_aload_n hX dX2_standOf_12 rfl ?_
  refine s_iload hX dX2_standOf_13 rfl ?_
  refine s_iload_n hX dX2_standOf_15 rfl ?_
  refine s_iload_n hX dX2_standOf_16 rfl ?_
  refine s_cvi (as := [vi (1 <<< (a0 &&& 31)), vi a1, vi a2]) (rest := []) hX (c_Game_gainOutside h) mv_Game_gainOutside wd_ml_X2_36 dX2_standOf_17 ly_c_game rfl rfl (Nat.le_of_ble_eq_true rfl) rfl (by decide) ⟨Nat.zero_le _, Nat.zero_le _⟩ (fun r1309 M1308 h => ?_)
  refine s_istore (lv' := [some (vr c_game), some (vi a0), some (vi a1), some (vi a2), some (vi (1 <<< (a0 &&& 31))), some (vi r1309)]) hX dX2_standOf_20 rfl rfl (Nat.le_of_ble_eq_true rfl) ?_
  refine s_aload_n hX dX2_standOf_22 rfl ?_
  refine s_iconst (v := (-1)) hX dX2_standOf_23 rfl ?_
  refine s_puti hX fi_X2_40 fp_X2 rfl (by decide +kernel) ly_c_game rfl dX2_standOf_24 ?_
  refine s_aload_n hX dX2_standOf_27 rfl ?_
  refine s_iload hX dX2_standOf_28 rfl ?_
  refine s_iload_n hX dX2_standOf_30 rfl ?_
  refine s_iload_n hX dX2_standOf_31 rfl ?_
  refine s_iload hX dX2_standOf_32 rfl ?_
  refine s_cvv (as := [vi (1 <<< (a0 &&& 31)), vi a1, vi a2, vi r1309]) (rest := []) hX (c_Game_tryCells h) mv_Game_tryCells wd_ml_X2_44 dX2_standOf_34 ly_c_game rfl rfl (Nat.le_of_ble_eq_true rfl) rfl (by decide) ⟨Nat.zero_le _, Nat.zero_le _⟩ (fun M1310 h => ?_)
  exact s_vret hX hq rfl dX2_standOf_37 h
theorem c_Game_standOf {a0 : Int32} {a1 : Int32} {a2 : Int32} {M : Mem} {Q : Mem → Prop} (h : w_Game_standOf a0 a1 a2 M Q) : CV yX2_standOf cX2_standOf 6 none 6 0 0 LY LY [vr c_game, vi a0, vi a1, vi a2] M Q := mk_v rfl wd_co_X2_standOf rfl rfl (Nat.le_of_ble_eq_true rfl) (fun X hX hq => t_Game_standOf hX hq h)
theorem mv_Game_standOf : MV yX2_standOf cX2_standOf 6 none RX2 3 := ⟨wd_co_X2_standOf, wd_im_X2_standOf, wd_se_X2_standOf, wd_in_X2, by decide +kernel, by decide⟩
def w_Game_picnicOf_L8 (l1 : Int32) (l2 : Int32) (l3 : Int32) (K : Mem → Prop) (Q : Mem → Prop) : Nat → Int32 → Mem → Prop
  | 0, _, _ => False
  | n + 1, l4, M => (((1 <<< ((M.1 c_land Land_people) &&& 31)) ≤ l4 → K M) ∧ (¬ (1 <<< ((M.1 c_land Land_people) &&& 31)) ≤ l4 → w_Jint_bitCount l4 M (fun r1312 M1311 => ((¬ r1312 = l1 → w_Game_picnicOf_L8 l1 l2 l3 K Q n (l4 + 1) M1311) ∧ (r1312 = l1 → w_Debts_allAsTold M1311 (fun M1313 => w_Game_gainOutside l4 l2 l3 M1313 (fun r1315 M1314 => w_Game_tryCells l4 l2 l3 r1315 M1314 (fun M1316 => w_Game_picnicOf_L8 l1 l2 l3 K Q n (l4 + 1) M1316))))))))
set_option maxHeartbeats 4000000 in
theorem t_Game_picnicOf_L8 {X : Cx} (hX : Cok X cX2_picnicOf RX2 5 none 6 0 0) {Q : Mem → Prop} (hq : RV X 0 0 LY Q) {l1 : Int32} {l2 : Int32} {l3 : Int32} {K : Mem → Prop} (hK : ∀ (M : Mem), K M → Wat X 0 0 LY 60 [none, none, none, none, none] [] M) : ∀ (n : Nat) (l4 : Int32) (M : Mem), w_Game_picnicOf_L8 l1 l2 l3 K Q n l4 M → Wat X 0 0 LY 8 [some (vr c_game), some (vi l1), some (vi l2), some (vi l3), some (vi l4)] [] M := by
  intro n
  induction n with
  | zero => intro _ _ h; exact h.elim
  | succ n ih =>
    intro l4 M h
    refine s_iload hX dX2_picnicOf_8 rfl ?_
    refine s_iconst (v := 1) hX dX2_picnicOf_10 rfl ?_
    refine s_aload_n hX dX2_picnicOf_11 rfl ?_
    refine s_getr hX fi_X2_19 ly_c_game rfl dX2_picnicOf_12 ?_
    refine s_getiv (v := (M.1 c_land Land_people)) hX fi_X2_48 ly_c_land rfl dX2_picnicOf_15 rfl ?_
    refine s_ishl hX dX2_picnicOf_18 ?_
    refine s_icmp_ge (tgt := 60) hX dX2_picnicOf_19 (by decide) (fun c => ?_) (fun c => ?_)
    · replace h := h.1 c
      refine s_mask [false, false, false, false, false] (lv' := [none, none, none, none, none]) rfl rfl ?_
      exact hK _ h
    · replace h := h.2 c
      refine s_iload hX dX2_picnicOf_22 rfl ?_
      refine s_csi (as := [vi l4]) (rest := []) hX (c_Jint_bitCount h) ms_Jint_bitCount wd_ml_X2_53 dX2_picnicOf_24 rfl (Nat.le_of_ble_eq_true rfl) rfl (by decide) ⟨Nat.zero_le _, Nat.zero_le _⟩ (fun r1312 M1311 h => ?_)
      refine s_iload_n hX dX2_picnicOf_27 rfl ?_
      refine s_icmp_ne (tgt := 54) hX dX2_picnicOf_28 (by decide) (fun c => ?_) (fun c => ?_)
      · replace h := h.1 c
        refine s_iinc (v := (l4 + 1)) (lv' := [some (vr c_game), some (vi l1), some (vi l2), some (vi l3), some (vi (l4 + 1))]) hX dX2_picnicOf_54 rfl rfl rfl rfl ?_
        refine s_goto (tgt := 8) hX dX2_picnicOf_57 (by decide) ?_
        exact ih _ _ h
      · replace h := h.2 c
        refine s_aload_n hX dX2_picnicOf_31 rfl ?_
        refine s_getr hX fi_X2_27 ly_c_game rfl dX2_picnicOf_32 ?_
        refine s_cvv (as := []) (rest := []) hX (c_Debts_allAsTold h) mv_Debts_allAsTold wd_ml_X2_31 dX2_picnicOf_35 ly_c_debts rfl rfl (Nat.le_of_ble_eq_true rfl) rfl (by decide) ⟨Nat.zero_le _, Nat.zero_le _⟩ (fun M1313 h => ?_)
        refine s_aload_n hX dX2_picnicOf_38 rfl ?_
        refine s_iload hX dX2_picnicOf_39 rfl ?_
        refine s_iload_n hX dX2_picnicOf_41 rfl ?_
        refine s_iload_n hX dX2_picnicOf_42 rfl ?_
        refine s_aload_n hX dX2_picnicOf_43 rfl ?_
        refine s_iload hX dX2_picnicOf_44 rfl ?_
        refine s_iload_n hX dX2_picnicOf_46 rfl ?_
        refine s_iload_n hX dX2_picnicOf_47 rfl ?_
        refine s_cvi (as := [vi l4, vi l2, vi l3]) (rest := [vi l3, vi l2, vi l4, vr c_game]) hX (c_Game_gainOutside h) mv_Game_gainOutside wd_ml_X2_36 dX2_picnicOf_48 ly_c_game rfl rfl (Nat.le_of_ble_eq_true rfl) rfl (by decide) ⟨Nat.zero_le _, Nat.zero_le _⟩ (fun r1315 M1314 h => ?_)
        refine s_cvv (as := [vi l4, vi l2, vi l3, vi r1315]) (rest := []) hX (c_Game_tryCells h) mv_Game_tryCells wd_ml_X2_44 dX2_picnicOf_51 ly_c_game rfl rfl (Nat.le_of_ble_eq_true rfl) rfl (by decide) ⟨Nat.zero_le _, Nat.zero_le _⟩ (fun M1316 h => ?_)
        refine s_iinc (v := (l4 + 1)) (lv' := [some (vr c_game), some (vi l1), some (vi l2), some (vi l3), some (vi (l4 + 1))]) hX dX2_picnicOf_54 rfl rfl rfl rfl ?_
        refine s_goto (tgt := 8) hX dX2_picnicOf_57 (by decide) ?_
        exact ih _ _ h
def w_Game_picnicOf (a0 : Int32) (a1 : Int32) (a2 : Int32) (M : Mem) (Q : Mem → Prop) : Prop :=
  (∃ n1318, w_Game_picnicOf_L8 a0 a1 a2 (fun M1317 => Q M1317) Q n1318 0 (si M c_game Game_bestCell (-1)))
set_option maxHeartbeats 4000000 in
theorem t_Game_picnicOf {X : Cx} (hX : Cok X cX2_picnicOf RX2 5 none 6 0 0) {Q : Mem → Prop} (hq : RV X 0 0 LY Q) {M : Mem} {a0 : Int32} {a1 : Int32} {a2 : Int32} (h : w_Game_picnicOf a0 a1 a2 M Q) : Wat X 0 0 LY 0 [some (vr c_game), some (vi a0), some (vi a1), some (vi a2), none] [] M := by
  refine s_aload_n hX dX2_picnicOf_0 rfl ?_
  refine s_iconst (v := (-1)) hX dX2_picnicOf_1 rfl ?_
  refine s_puti hX fi_X2_40 fp_X2 rfl (by decide +kernel) ly_c_game rfl dX2_picnicOf_2 ?_
  refine s_iconst (v := 0) hX dX2_picnicOf_5 rfl ?_
  refine s_istore (lv' := [some (vr c_game), some (vi a0), some (vi a1), some (vi a2), some (vi 0)]) hX dX2_picnicOf_6 rfl rfl (Nat.le_of_ble_eq_true rfl) ?_
  obtain ⟨n1318, h⟩ := h
  refine t_Game_picnicOf_L8 hX hq ?_ n1318 _ _ h
  intro M1317 h
  exact s_vret hX hq rfl dX2_picnicOf_60 h
theorem c_Game_picnicOf {a0 : Int32} {a1 : Int32} {a2 : Int32} {M : Mem} {Q : Mem → Prop} (h : w_Game_picnicOf a0 a1 a2 M Q) : CV yX2_picnicOf cX2_picnicOf 5 none 6 0 0 LY LY [vr c_game, vi a0, vi a1, vi a2] M Q := mk_v rfl wd_co_X2_picnicOf rfl rfl (Nat.le_of_ble_eq_true rfl) (fun X hX hq => t_Game_picnicOf hX hq h)
theorem mv_Game_picnicOf : MV yX2_picnicOf cX2_picnicOf 5 none RX2 3 := ⟨wd_co_X2_picnicOf, wd_im_X2_picnicOf, wd_se_X2_picnicOf, wd_in_X2, by decide +kernel, by decide⟩
