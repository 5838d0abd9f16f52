def w_Mo_takeCell (M : Mem) (Q : Int32 → Mem → Prop) : Prop :=
  (vp_in 180 360 ∧ w_Mo_takeAfter 2 0 ((M.1 c_mo_lands (Int32.toNatClampNeg 180)) - 1) M (fun r821 M820 => (vp_in 181 360 ∧ w_Mo_takeNumber 0 ((M820.1 c_mo_lands (Int32.toNatClampNeg 181)) - 1) M820 (fun r823 M822 => Q ((8 * r823) + r821) M822))))
set_option maxHeartbeats 4000000 in
theorem t_Mo_takeCell {X : Cx} (hX : Cok X cX12_takeCell RX12 3 ((some .int)) 5 0 0) {Q : Int32 → Mem → Prop} (hq : RI X 0 0 LY Q) {M : Mem} (h : w_Mo_takeCell M Q) : Wat X 0 0 LY 0 [some (vr c_mo), none, none] [] M := by
  refine s_aload_n hX dX12_takeCell_0 rfl ?_
  refine s_iconst (v := 2) hX dX12_takeCell_1 rfl ?_
  refine s_iconst (v := 0) hX dX12_takeCell_2 rfl ?_
  refine s_aload_n hX dX12_takeCell_3 rfl ?_
  refine s_getr hX fi_X12_85 ly_c_mo rfl dX12_takeCell_4 ?_
  refine s_sipush (v := 180) hX dX12_takeCell_7 rfl ?_
  have hi := h.1
  replace h := h.2
  refine s_ialdv (v := (M.1 c_mo_lands (Int32.toNatClampNeg 180))) hX ly_c_mo_lands hi dX12_takeCell_10 rfl ?_
  refine s_iconst (v := 1) hX dX12_takeCell_11 rfl ?_
  refine s_isub hX dX12_takeCell_12 ?_
  refine s_cvi (as := [vi 2, vi 0, vi ((M.1 c_mo_lands (Int32.toNatClampNeg 180)) - 1)]) (rest := []) hX (c_Mo_takeAfter h) mv_Mo_takeAfter wd_ml_X12_251 dX12_takeCell_13 ly_c_mo rfl rfl (Nat.le_of_ble_eq_true rfl) rfl (by decide) ⟨Nat.zero_le _, Nat.zero_le _⟩ (fun r821 M820 h => ?_)
  refine s_istore_n (lv' := [some (vr c_mo), some (vi r821), none]) hX dX12_takeCell_16 rfl rfl (Nat.le_of_ble_eq_true rfl) ?_
  refine s_aload_n hX dX12_takeCell_17 rfl ?_
  refine s_iconst (v := 0) hX dX12_takeCell_18 rfl ?_
  refine s_aload_n hX dX12_takeCell_19 rfl ?_
  refine s_getr hX fi_X12_85 ly_c_mo rfl dX12_takeCell_20 ?_
  refine s_sipush (v := 181) hX dX12_takeCell_23 rfl ?_
  have hi := h.1
  replace h := h.2
  refine s_ialdv (v := (M820.1 c_mo_lands (Int32.toNatClampNeg 181))) hX ly_c_mo_lands hi dX12_takeCell_26 rfl ?_
  refine s_iconst (v := 1) hX dX12_takeCell_27 rfl ?_
  refine s_isub hX dX12_takeCell_28 ?_
  refine s_cvi (as := [vi 0, vi ((M820.1 c_mo_lands (Int32.toNatClampNeg 181)) - 1)]) (rest := []) hX (c_Mo_takeNumber h) mv_Mo_takeNumber wd_ml_X12_197 dX12_takeCell_29 ly_c_mo rfl rfl (Nat.le_of_ble_eq_true rfl) rfl (by decide) ⟨Nat.zero_le _, Nat.zero_le _⟩ (fun r823 M822 h => ?_)
  refine s_istore_n (lv' := [some (vr c_mo), some (vi r821), some (vi r823)]) hX dX12_takeCell_32 rfl rfl (Nat.le_of_ble_eq_true rfl) ?_
  refine s_bipush (v := 8) hX dX12_takeCell_33 rfl ?_
  refine s_iload_n hX dX12_takeCell_35 rfl ?_
  refine s_imul hX dX12_takeCell_36 ?_
  refine s_iload_n hX dX12_takeCell_37 rfl ?_
  refine s_iadd hX dX12_takeCell_38 ?_
  exact s_iret hX hq rfl dX12_takeCell_39 h
theorem c_Mo_takeCell {M : Mem} {Q : Int32 → Mem → Prop} (h : w_Mo_takeCell M Q) : CI yX12_takeCell cX12_takeCell 3 ((some .int)) 5 0 0 LY LY [vr c_mo] M Q := mk_i rfl wd_co_X12_takeCell rfl rfl (Nat.le_of_ble_eq_true rfl) (fun X hX hq => t_Mo_takeCell hX hq h)
theorem mv_Mo_takeCell : MV yX12_takeCell cX12_takeCell 3 ((some .int)) RX12 0 := ⟨wd_co_X12_takeCell, wd_im_X12_takeCell, wd_se_X12_takeCell, wd_in_X12, by decide +kernel, by decide⟩
def w_Mo_readBird (M : Mem) (Q : Mem → Prop) : Prop :=
  (vp_in 183 360 ∧ ∀ x812 : Int32, x812 = (M.1 c_mo_lands (Int32.toNatClampNeg 183)) → ((¬ x812 = 5 → w_Mo_readName (6 + x812) M (fun M819 => w_Mo_takeCell M819 (fun r825 M824 => (vp_in (343 + x812) 360 ∧ (vp_in 183 360 ∧ (vp_in 183 360 ∧ Q (si (si M824 c_mo_lands (Int32.toNatClampNeg (343 + x812)) r825) c_mo_lands (Int32.toNatClampNeg 183) (((si M824 c_mo_lands (Int32.toNatClampNeg (343 + x812)) r825).1 c_mo_lands (Int32.toNatClampNeg 183)) + 1)))))))) ∧ (x812 = 5 → w_Mo_wrong 5 M (fun M826 => Q M826))))
set_option maxHeartbeats 4000000 in
theorem t_Mo_readBird {X : Cx} (hX : Cok X cX12_readBird RX12 2 none 6 0 0) {Q : Mem → Prop} (hq : RV X 0 0 LY Q) {M : Mem} (h : w_Mo_readBird M Q) : Wat X 0 0 LY 0 [some (vr c_mo), none] [] M := by
  refine s_aload_n hX dX12_readBird_0 rfl ?_
  refine s_getr hX fi_X12_85 ly_c_mo rfl dX12_readBird_1 ?_
  refine s_sipush (v := 183) hX dX12_readBird_4 rfl ?_
  have hi := h.1
  replace h := h.2
  refine s_ialdv (v := (M.1 c_mo_lands (Int32.toNatClampNeg 183))) hX ly_c_mo_lands hi dX12_readBird_7 rfl ?_
  refine s_nmi (fun x812 ex812 => ?_)
  replace h := h x812 ex812
  refine s_istore_n (lv' := [some (vr c_mo), some (vi x812)]) hX dX12_readBird_8 rfl rfl (Nat.le_of_ble_eq_true rfl) ?_
  refine s_iload_n hX dX12_readBird_9 rfl ?_
  refine s_iconst (v := 5) hX dX12_readBird_10 rfl ?_
  refine s_icmp_ne (tgt := 20) hX dX12_readBird_11 (by decide) (fun c => ?_) (fun c => ?_)
  · replace h := h.1 c
    refine s_aload_n hX dX12_readBird_20 rfl ?_
    refine s_bipush (v := 6) hX dX12_readBird_21 rfl ?_
    refine s_iload_n hX dX12_readBird_23 rfl ?_
    refine s_iadd hX dX12_readBird_24 ?_
    refine s_cvv (as := [vi (6 + x812)]) (rest := []) hX (c_Mo_readName h) mv_Mo_readName wd_ml_X12_262 dX12_readBird_25 ly_c_mo rfl rfl (Nat.le_of_ble_eq_true rfl) rfl (by decide) ⟨Nat.zero_le _, Nat.zero_le _⟩ (fun M819 h => ?_)
    refine s_aload_n hX dX12_readBird_28 rfl ?_
    refine s_getr hX fi_X12_85 ly_c_mo rfl dX12_readBird_29 ?_
    refine s_sipush (v := 343) hX dX12_readBird_32 rfl ?_
    refine s_iload_n hX dX12_readBird_35 rfl ?_
    refine s_iadd hX dX12_readBird_36 ?_
    refine s_aload_n hX dX12_readBird_37 rfl ?_
    refine s_cvi (as := []) (rest := [vi (343 + x812), vr c_mo_lands]) hX (c_Mo_takeCell h) mv_Mo_takeCell wd_ml_X12_265 dX12_readBird_38 ly_c_mo rfl rfl (Nat.le_of_ble_eq_true rfl) rfl (by decide) ⟨Nat.zero_le _, Nat.zero_le _⟩ (fun r825 M824 h => ?_)
    have hi := h.1
    replace h := h.2
    refine s_iast hX ly_c_mo_lands hi dX12_readBird_41 ?_
    refine s_aload_n hX dX12_readBird_42 rfl ?_
    refine s_getr hX fi_X12_85 ly_c_mo rfl dX12_readBird_43 ?_
    refine s_sipush (v := 183) hX dX12_readBird_46 rfl ?_
    refine s_dup2 hX dX12_readBird_49 rfl rfl ?_
    have hi := h.1
    replace h := h.2
    refine s_ialdv (v := ((si M824 c_mo_lands (Int32.toNatClampNeg (343 + x812)) r825).1 c_mo_lands (Int32.toNatClampNeg 183))) hX ly_c_mo_lands hi dX12_readBird_50 rfl ?_
    refine s_iconst (v := 1) hX dX12_readBird_51 rfl ?_
    refine s_iadd hX dX12_readBird_52 ?_
    have hi := h.1
    replace h := h.2
    refine s_iast hX ly_c_mo_lands hi dX12_readBird_53 ?_
    exact s_vret hX hq rfl dX12_readBird_54 h
  · replace h := h.2 c
    refine s_aload_n hX dX12_readBird_14 rfl ?_
    refine s_iconst (v := 5) hX dX12_readBird_15 rfl ?_
    refine s_cvv (as := [vi 5]) (rest := []) hX (c_Mo_wrong h) mv_Mo_wrong wd_ml_X12_185 dX12_readBird_16 ly_c_mo rfl rfl (Nat.le_of_ble_eq_true rfl) rfl (by decide) ⟨Nat.zero_le _, Nat.zero_le _⟩ (fun M826 h => ?_)
    exact s_vret hX hq rfl dX12_readBird_19 h
theorem c_Mo_readBird {M : Mem} {Q : Mem → Prop} (h : w_Mo_readBird M Q) : CV yX12_readBird cX12_readBird 2 none 6 0 0 LY LY [vr c_mo] M Q := mk_v rfl wd_co_X12_readBird rfl rfl (Nat.le_of_ble_eq_true rfl) (fun X hX hq => t_Mo_readBird hX hq h)
theorem mv_Mo_readBird : MV yX12_readBird cX12_readBird 2 none RX12 0 := ⟨wd_co_X12_readBird, wd_im_X12_readBird, wd_se_X12_readBird, wd_in_X12, by decide +kernel, by decide⟩
def w_Mo_takeHour_mo_goes (a0 : Int32) (a1 : Int32) (a2 : Int32) (M : Mem) (Q : Int32 → Mem → Prop) : Prop :=
  w_Mo_takeWord 5 M (fun M830 => w_Mo_takeNumber a0 23 M830 (fun r832 M831 => ((¬ (M831.1 c_mo Mo_fault) = 0 → Q r832 M831) ∧ ((M831.1 c_mo Mo_fault) = 0 → (vp_in (a1 + r832) 144 ∧ (((M831.1 c_mo_goes (Int32.toNatClampNeg (a1 + r832))) = a2 → Q r832 M831) ∧ (¬ (M831.1 c_mo_goes (Int32.toNatClampNeg (a1 + r832))) = a2 → w_Mo_wrong 3 (si M831 c_mo Mo_at ((M831.1 c_mo Mo_at) - 1)) (fun M833 => Q r832 M833))))))))
set_option maxHeartbeats 4000000 in
theorem t_Mo_takeHour_mo_goes {X : Cx} (hX : Cok X cX12_takeHour RX12 6 ((some .int)) 4 0 0) {Q : Int32 → Mem → Prop} (hq : RI X 0 0 LY Q) {M : Mem} {a0 : Int32} {a1 : Int32} {a2 : Int32} (h : w_Mo_takeHour_mo_goes a0 a1 a2 M Q) : Wat X 0 0 LY 0 [some (vr c_mo), some (vi a0), some (vr c_mo_goes), some (vi a1), some (vi a2), none] [] M := by
  refine s_aload_n hX dX12_takeHour_0 rfl ?_
  refine s_iconst (v := 5) hX dX12_takeHour_1 rfl ?_
  refine s_cvv (as := [vi 5]) (rest := []) hX (c_Mo_takeWord h) mv_Mo_takeWord wd_ml_X12_194 dX12_takeHour_2 ly_c_mo rfl rfl (Nat.le_of_ble_eq_true rfl) rfl (by decide) ⟨Nat.zero_le _, Nat.zero_le _⟩ (fun M830 h => ?_)
  refine s_aload_n hX dX12_takeHour_5 rfl ?_
  refine s_iload_n hX dX12_takeHour_6 rfl ?_
  refine s_bipush (v := 23) hX dX12_takeHour_7 rfl ?_
  refine s_cvi (as := [vi a0, vi 23]) (rest := []) hX (c_Mo_takeNumber h) mv_Mo_takeNumber wd_ml_X12_197 dX12_takeHour_9 ly_c_mo rfl rfl (Nat.le_of_ble_eq_true rfl) rfl (by decide) ⟨Nat.zero_le _, Nat.zero_le _⟩ (fun r832 M831 h => ?_)
  refine s_istore (lv' := [some (vr c_mo), some (vi a0), some (vr c_mo_goes), some (vi a1), some (vi a2), some (vi r832)]) hX dX12_takeHour_12 rfl rfl (Nat.le_of_ble_eq_true rfl) ?_
  refine s_aload_n hX dX12_takeHour_14 rfl ?_
  refine s_getiv (v := (M831.1 c_mo Mo_fault)) hX fi_X12_179 ly_c_mo rfl dX12_takeHour_15 rfl ?_
  refine s_if_ne (tgt := 47) hX dX12_takeHour_18 (by decide) (fun c => ?_) (fun c => ?_)
  · replace h := h.1 c
    refine s_iload hX dX12_takeHour_47 rfl ?_
    exact s_iret hX hq rfl dX12_takeHour_49 h
  · replace h := h.2 c
    refine s_aload_n hX dX12_takeHour_21 rfl ?_
    refine s_iload_n hX dX12_takeHour_22 rfl ?_
    refine s_iload hX dX12_takeHour_23 rfl ?_
    refine s_iadd hX dX12_takeHour_25 ?_
    have hi := h.1
    replace h := h.2
    refine s_ialdv (v := (M831.1 c_mo_goes (Int32.toNatClampNeg (a1 + r832)))) hX ly_c_mo_goes hi dX12_takeHour_26 rfl ?_
    refine s_iload hX dX12_takeHour_27 rfl ?_
    refine s_icmp_eq (tgt := 47) hX dX12_takeHour_29 (by decide) (fun c => ?_) (fun c => ?_)
    · replace h := h.1 c
      refine s_iload hX dX12_takeHour_47 rfl ?_
      exact s_iret hX hq rfl dX12_takeHour_49 h
    · replace h := h.2 c
      refine s_aload_n hX dX12_takeHour_32 rfl ?_
      refine s_dup hX dX12_takeHour_33 rfl ?_
      refine s_getiv (v := (M831.1 c_mo Mo_at)) hX fi_X12_176 ly_c_mo rfl dX12_takeHour_34 rfl ?_
      refine s_iconst (v := 1) hX dX12_takeHour_37 rfl ?_
      refine s_isub hX dX12_takeHour_38 ?_
      refine s_puti hX fi_X12_176 fp_X12 rfl (by decide +kernel) ly_c_mo rfl dX12_takeHour_39 ?_
      refine s_aload_n hX dX12_takeHour_42 rfl ?_
      refine s_iconst (v := 3) hX dX12_takeHour_43 rfl ?_
      refine s_cvv (as := [vi 3]) (rest := []) hX (c_Mo_wrong h) mv_Mo_wrong wd_ml_X12_185 dX12_takeHour_44 ly_c_mo rfl rfl (Nat.le_of_ble_eq_true rfl) rfl (by decide) ⟨Nat.zero_le _, Nat.zero_le _⟩ (fun M833 h => ?_)
      refine s_iload hX dX12_takeHour_47 rfl ?_
      exact s_iret hX hq rfl dX12_takeHour_49 h
theorem c_Mo_takeHour_mo_goes {a0 : Int32} {a1 : Int32} {a2 : Int32} {M : Mem} {Q : Int32 → Mem → Prop} (h : w_Mo_takeHour_mo_goes a0 a1 a2 M Q) : CI yX12_takeHour cX12_takeHour 6 ((some .int)) 4 0 0 LY LY [vr c_mo, vi a0, vr c_mo_goes, vi a1, vi a2] M Q := mk_i rfl wd_co_X12_takeHour rfl rfl (Nat.le_of_ble_eq_true rfl) (fun X hX hq => t_Mo_takeHour_mo_goes hX hq h)
theorem mv_Mo_takeHour_mo_goes : MV yX12_takeHour cX12_takeHour 6 ((some .int)) RX12 4 := ⟨wd_co_X12_takeHour, wd_im_X12_takeHour, wd_se_X12_takeHour, wd_in_X12, by decide +kernel, by decide⟩
def w_Mo_readGo_j72 (l1 : Int32) (l2 : Int32) (s0 : Int32) (M : Mem) (Q : Mem → Prop) : Prop :=
  ((¬ (M.1 c_mo Mo_fault) = 0 → Q M) ∧ ((M.1 c_mo Mo_fault) = 0 → (vp_in ((24 * l1) + l2) 144 ∧ Q (si (si M c_mo_goes (Int32.toNatClampNeg ((24 * l1) + l2)) s0) c_mo Mo_goesMany ((M.1 c_mo Mo_goesMany) + 1)))))
set_option maxHeartbeats 4000000 in
theorem t_Mo_readGo_j72 {X : Cx} (hX : Cok X cX12_readGo RX12 4 none 6 0 0) {Q : Mem → Prop} (hq : RV X 0 0 LY Q) {l1 : Int32} {l2 : Int32} {s0 : Int32} {M : Mem} (h : w_Mo_readGo_j72 l1 l2 s0 M Q) : Wat X 0 0 LY 72 [some (vr c_mo), some (vi l1), some (vi l2), none] [vi s0] M := by
  refine s_istore_n (lv' := [some (vr c_mo), some (vi l1), some (vi l2), some (vi s0)]) hX dX12_readGo_72 rfl rfl (Nat.le_of_ble_eq_true rfl) ?_
  refine s_aload_n hX dX12_readGo_73 rfl ?_
  refine s_getiv (v := (M.1 c_mo Mo_fault)) hX fi_X12_179 ly_c_mo rfl dX12_readGo_74 rfl ?_
  refine s_if_ne (tgt := 102) hX dX12_readGo_77 (by decide) (fun c => ?_) (fun c => ?_)
  · replace h := h.1 c
    exact s_vret hX hq rfl dX12_readGo_102 h
  · replace h := h.2 c
    refine s_aload_n hX dX12_readGo_80 rfl ?_
    refine s_getr hX fi_X12_91 ly_c_mo rfl dX12_readGo_81 ?_
    refine s_bipush (v := 24) hX dX12_readGo_84 rfl ?_
    refine s_iload_n hX dX12_readGo_86 rfl ?_
    refine s_imul hX dX12_readGo_87 ?_
    refine s_iload_n hX dX12_readGo_88 rfl ?_
    refine s_iadd hX dX12_readGo_89 ?_
    refine s_iload_n hX dX12_readGo_90 rfl ?_
    have hi := h.1
    replace h := h.2
    refine s_iast hX ly_c_mo_goes hi dX12_readGo_91 ?_
    refine s_aload_n hX dX12_readGo_92 rfl ?_
    refine s_dup hX dX12_readGo_93 rfl ?_
    refine s_getiv (v := (M.1 c_mo Mo_goesMany)) hX fi_X12_210 ly_c_mo rfl dX12_readGo_94 rfl ?_
    refine s_iconst (v := 1) hX dX12_readGo_97 rfl ?_
    refine s_iadd hX dX12_readGo_98 ?_
    refine s_puti hX fi_X12_210 fp_X12 rfl (by decide +kernel) ly_c_mo rfl dX12_readGo_99 ?_
    exact s_vret hX hq rfl dX12_readGo_102 h
def w_Mo_readGo_j56 (l1 : Int32) (s0 : Int32) (M : Mem) (Q : Mem → Prop) : Prop :=
  (((M.1 c_mo Mo_fault) ≤ 0 → w_Mo_takeCell M (fun r837 M836 => w_Mo_readGo_j72 l1 s0 r837 M836 Q)) ∧ (¬ (M.1 c_mo Mo_fault) ≤ 0 → w_Mo_readGo_j72 l1 s0 0 M Q))
set_option maxHeartbeats 4000000 in
theorem t_Mo_readGo_j56 {X : Cx} (hX : Cok X cX12_readGo RX12 4 none 6 0 0) {Q : Mem → Prop} (hq : RV X 0 0 LY Q) {l1 : Int32} {s0 : Int32} {M : Mem} (h : w_Mo_readGo_j56 l1 s0 M Q) : Wat X 0 0 LY 56 [some (vr c_mo), some (vi l1), none, none] [vi s0] M := by
  refine s_istore_n (lv' := [some (vr c_mo), some (vi l1), some (vi s0), none]) hX dX12_readGo_56 rfl rfl (Nat.le_of_ble_eq_true rfl) ?_
  refine s_aload_n hX dX12_readGo_57 rfl ?_
  refine s_getiv (v := (M.1 c_mo Mo_fault)) hX fi_X12_179 ly_c_mo rfl dX12_readGo_58 rfl ?_
  refine s_if_le (tgt := 68) hX dX12_readGo_61 (by decide) (fun c => ?_) (fun c => ?_)
  · replace h := h.1 c
    refine s_aload_n hX dX12_readGo_68 rfl ?_
    refine s_cvi (as := []) (rest := []) hX (c_Mo_takeCell h) mv_Mo_takeCell wd_ml_X12_265 dX12_readGo_69 ly_c_mo rfl rfl (Nat.le_of_ble_eq_true rfl) rfl (by decide) ⟨Nat.zero_le _, Nat.zero_le _⟩ (fun r837 M836 h => ?_)
    exact t_Mo_readGo_j72 hX hq h
  · replace h := h.2 c
    refine s_iconst (v := 0) hX dX12_readGo_64 rfl ?_
    refine s_goto (tgt := 72) hX dX12_readGo_65 (by decide) ?_
    exact t_Mo_readGo_j72 hX hq h
def w_Mo_readGo (M : Mem) (Q : Mem → Prop) : Prop :=
  ((¬ (M.1 c_mo Mo_goesMany) = 20 → w_Mo_takeTold 0 (si M c_mo Mo_at ((M.1 c_mo Mo_at) + 1)) (fun r829 M828 => (((M828.1 c_mo Mo_fault) ≤ 0 → w_Mo_takeHour_mo_goes 1 (24 * r829) (-1) M828 (fun r835 M834 => w_Mo_readGo_j56 r829 r835 M834 Q)) ∧ (¬ (M828.1 c_mo Mo_fault) ≤ 0 → w_Mo_readGo_j56 r829 0 M828 Q)))) ∧ ((M.1 c_mo Mo_goesMany) = 20 → w_Mo_wrong 5 M (fun M838 => Q M838)))
set_option maxHeartbeats 4000000 in
theorem t_Mo_readGo {X : Cx} (hX : Cok X cX12_readGo RX12 4 none 6 0 0) {Q : Mem → Prop} (hq : RV X 0 0 LY Q) {M : Mem} (h : w_Mo_readGo M Q) : Wat X 0 0 LY 0 [some (vr c_mo), none, none, none] [] M := by
  refine s_aload_n hX dX12_readGo_0 rfl ?_
  refine s_getiv (v := (M.1 c_mo Mo_goesMany)) hX fi_X12_210 ly_c_mo rfl dX12_readGo_1 rfl ?_
  refine s_bipush (v := 20) hX dX12_readGo_4 rfl ?_
  refine s_icmp_ne (tgt := 15) hX dX12_readGo_6 (by decide) (fun c => ?_) (fun c => ?_)
  · replace h := h.1 c
    refine s_aload_n hX dX12_readGo_15 rfl ?_
    refine s_dup hX dX12_readGo_16 rfl ?_
    refine s_getiv (v := (M.1 c_mo Mo_at)) hX fi_X12_176 ly_c_mo rfl dX12_readGo_17 rfl ?_
    refine s_iconst (v := 1) hX dX12_readGo_20 rfl ?_
    refine s_iadd hX dX12_readGo_21 ?_
    refine s_puti hX fi_X12_176 fp_X12 rfl (by decide +kernel) ly_c_mo rfl dX12_readGo_22 ?_
    refine s_aload_n hX dX12_readGo_25 rfl ?_
    refine s_iconst (v := 0) hX dX12_readGo_26 rfl ?_
    refine s_cvi (as := [vi 0]) (rest := []) hX (c_Mo_takeTold h) mv_Mo_takeTold wd_ml_X12_268 dX12_readGo_27 ly_c_mo rfl rfl (Nat.le_of_ble_eq_true rfl) rfl (by decide) ⟨Nat.zero_le _, Nat.zero_le _⟩ (fun r829 M828 h => ?_)
    refine s_istore_n (lv' := [some (vr c_mo), some (vi r829), none, none]) hX dX12_readGo_30 rfl rfl (Nat.le_of_ble_eq_true rfl) ?_
    refine s_aload_n hX dX12_readGo_31 rfl ?_
    refine s_getiv (v := (M828.1 c_mo Mo_fault)) hX fi_X12_179 ly_c_mo rfl dX12_readGo_32 rfl ?_
    refine s_if_le (tgt := 42) hX dX12_readGo_35 (by decide) (fun c => ?_) (fun c => ?_)
    · replace h := h.1 c
      refine s_aload_n hX dX12_readGo_42 rfl ?_
      refine s_iconst (v := 1) hX dX12_readGo_43 rfl ?_
      refine s_aload_n hX dX12_readGo_44 rfl ?_
      refine s_getr hX fi_X12_91 ly_c_mo rfl dX12_readGo_45 ?_
      refine s_bipush (v := 24) hX dX12_readGo_48 rfl ?_
      refine s_iload_n hX dX12_readGo_50 rfl ?_
      refine s_imul hX dX12_readGo_51 ?_
      refine s_iconst (v := (-1)) hX dX12_readGo_52 rfl ?_
      refine s_cvi (as := [vi 1, vr c_mo_goes, vi (24 * r829), vi (-1)]) (rest := []) hX (c_Mo_takeHour_mo_goes h) mv_Mo_takeHour_mo_goes wd_ml_X12_272 dX12_readGo_53 ly_c_mo rfl rfl (Nat.le_of_ble_eq_true rfl) rfl (by decide) ⟨Nat.zero_le _, Nat.zero_le _⟩ (fun r835 M834 h => ?_)
      exact t_Mo_readGo_j56 hX hq h
    · replace h := h.2 c
      refine s_iconst (v := 0) hX dX12_readGo_38 rfl ?_
      refine s_goto (tgt := 56) hX dX12_readGo_39 (by decide) ?_
      exact t_Mo_readGo_j56 hX hq h
  · replace h := h.2 c
    refine s_aload_n hX dX12_readGo_9 rfl ?_
    refine s_iconst (v := 5) hX dX12_readGo_10 rfl ?_
    refine s_cvv (as := [vi 5]) (rest := []) hX (c_Mo_wrong h) mv_Mo_wrong wd_ml_X12_185 dX12_readGo_11 ly_c_mo rfl rfl (Nat.le_of_ble_eq_true rfl) rfl (by decide) ⟨Nat.zero_le _, Nat.zero_le _⟩ (fun M838 h => ?_)
    exact s_vret hX hq rfl dX12_readGo_14 h
theorem c_Mo_readGo {M : Mem} {Q : Mem → Prop} (h : w_Mo_readGo M Q) : CV yX12_readGo cX12_readGo 4 none 6 0 0 LY LY [vr c_mo] M Q := mk_v rfl wd_co_X12_readGo rfl rfl (Nat.le_of_ble_eq_true rfl) (fun X hX hq => t_Mo_readGo hX hq h)
theorem mv_Mo_readGo : MV yX12_readGo cX12_readGo 4 none RX12 0 := ⟨wd_co_X12_readGo, wd_im_X12_readGo, wd_se_X12_readGo, wd_in_X12, by decide +kernel, by decide⟩
def w_Mo_readPerson_L30 (l1 : Int32) (K : Int32 → Mem → Prop) (Q : Mem → Prop) : Nat → Int32 → Int32 → Mem → Prop
  | 0, _, _, _ => False
  | n + 1, l2, l3, M => ((5 ≤ l3 → K l2 M) ∧ (¬ 5 ≤ l3 → w_Mo_isWord (12 + l3) M (fun b843 M842 => ∀ x844 : Int32, x844 = (if b843 = true then l3 else l2) → w_Mo_readPerson_L30 l1 K Q n x844 (l3 + 1) M842)))
set_option maxHeartbeats 4000000 in
theorem t_Mo_readPerson_L30 {X : Cx} (hX : Cok X cX12_readPerson RX12 4 none 6 0 0) {Q : Mem → Prop} (hq : RV X 0 0 LY Q) {l1 : Int32} {K : Int32 → Mem → Prop} (hK : ∀ (l2 : Int32) (M : Mem), K l2 M → Wat X 0 0 LY 58 [some (vr c_mo), some (vi l1), some (vi l2), none] [] M) : ∀ (n : Nat) (l2 : Int32) (l3 : Int32) (M : Mem), w_Mo_readPerson_L30 l1 K Q n l2 l3 M → Wat X 0 0 LY 30 [some (vr c_mo), some (vi l1), some (vi l2), some (vi l3)] [] M := by
  intro n
  induction n with
  | zero => intro _ _ _ h; exact h.elim
  | succ n ih =>
    intro l2 l3 M h
    refine s_iload_n hX dX12_readPerson_30 rfl ?_
    refine s_iconst (v := 5) hX dX12_readPerson_31 rfl ?_
    refine s_icmp_ge (tgt := 58) hX dX12_readPerson_32 (by decide) (fun c => ?_) (fun c => ?_)
    · replace h := h.1 c
      refine s_mask [true, true, true, false] (lv' := [some (vr c_mo), some (vi l1), some (vi l2), none]) rfl rfl ?_
      exact hK _ _ h
    · replace h := h.2 c
      refine s_aload_n hX dX12_readPerson_35 rfl ?_
      refine s_bipush (v := 12) hX dX12_readPerson_36 rfl ?_
      refine s_iload_n hX dX12_readPerson_38 rfl ?_
      refine s_iadd hX dX12_readPerson_39 ?_
      refine s_cvi (as := [vi (12 + l3)]) (rest := []) hX (c_Mo_isWord h) mv_Mo_isWord wd_ml_X12_188 dX12_readPerson_40 ly_c_mo rfl rfl (Nat.le_of_ble_eq_true rfl) rfl (by decide) ⟨Nat.zero_le _, Nat.zero_le _⟩ (fun b843_ M842 h => ?_)
      obtain ⟨b843, rfl, h⟩ := h
      have hJ : Wat X 0 0 LY 51 [some (vr c_mo), some (vi l1), some (vi l2), some (vi l3)] [vi (if b843 = true then l3 else l2)] M842 := by
        refine s_nmi (fun x844 ex844 => ?_)
        replace h := h x844 ex844
        refine s_istore_n (lv' := [some (vr c_mo), some (vi l1), some (vi x844), some (vi l3)]) hX dX12_readPerson_51 rfl rfl (Nat.le_of_ble_eq_true rfl) ?_
        refine s_iinc (v := (l3 + 1)) (lv' := [some (vr c_mo), some (vi l1), some (vi x844), some (vi (l3 + 1))]) hX dX12_readPerson_52 rfl rfl rfl rfl ?_
        refine s_goto (tgt := 30) hX dX12_readPerson_55 (by decide) ?_
        exact ih _ _ _ h
      refine s_if_eq (tgt := 50) hX dX12_readPerson_43 (by decide) (fun c => ?_) (fun c => ?_)
      · rw [if_neg (by simp [b2i_0 c])] at hJ
        refine s_iload_n hX dX12_readPerson_50 rfl ?_
        exact hJ
      · rw [if_pos (by simp [b2i_1 c])] at hJ
        refine s_iload_n hX dX12_readPerson_46 rfl ?_
        refine s_goto (tgt := 51) hX dX12_readPerson_47 (by decide) ?_
        exact hJ
def w_Mo_readPerson (M : Mem) (Q : Mem → Prop) : Prop :=
  (vp_in 182 360 ∧ ∀ x840 : Int32, x840 = (M.1 c_mo_lands (Int32.toNatClampNeg 182)) → ((¬ x840 = 6 → w_Mo_readName x840 M (fun M841 => (∃ n852, w_Mo_readPerson_L30 x840 (fun y846 M845 => ((0 ≤ y846 → (vp_in (187 + (2 * x840)) 360 ∧ w_Mo_takeCell (si (si M845 c_mo Mo_at ((M845.1 c_mo Mo_at) + 1)) c_mo_lands (Int32.toNatClampNeg (187 + (2 * x840))) y846) (fun r848 M847 => (vp_in (24 * x840) 144 ∧ w_Mo_takeAfter 3 0 9999 (si M847 c_mo_goes (Int32.toNatClampNeg (24 * x840)) r848) (fun r850 M849 => (vp_in ((187 + (2 * x840)) + 1) 360 ∧ (vp_in 182 360 ∧ (vp_in 182 360 ∧ Q (si (si M849 c_mo_lands (Int32.toNatClampNeg ((187 + (2 * x840)) + 1)) r850) c_mo_lands (Int32.toNatClampNeg 182) (((si M849 c_mo_lands (Int32.toNatClampNeg ((187 + (2 * x840)) + 1)) r850).1 c_mo_lands (Int32.toNatClampNeg 182)) + 1)))))))))) ∧ (¬ 0 ≤ y846 → w_Mo_wrong 1 M845 (fun M851 => Q M851)))) Q n852 (-1) 0 M841))) ∧ (x840 = 6 → w_Mo_wrong 5 M (fun M853 => Q M853))))
set_option maxHeartbeats 4000000 in
theorem t_Mo_readPerson {X : Cx} (hX : Cok X cX12_readPerson RX12 4 none 6 0 0) {Q : Mem → Prop} (hq : RV X 0 0 LY Q) {M : Mem} (h : w_Mo_readPerson M Q) : Wat X 0 0 LY 0 [some (vr c_mo), none, none, none] [] M := by
  refine s_aload_n hX dX12_readPerson_0 rfl ?_
  refine s_getr hX fi_X12_85 ly_c_mo rfl dX12_readPerson_1 ?_
  refine s_sipush (v := 182) hX dX12_readPerson_4 rfl ?_
  have hi := h.1
  replace h := h.2
  refine s_ialdv (v := (M.1 c_mo_lands (Int32.toNatClampNeg 182))) hX ly_c_mo_lands hi dX12_readPerson_7 rfl ?_
  refine s_nmi (fun x840 ex840 => ?_)
  replace h := h x840 ex840
  refine s_istore_n (lv' := [some (vr c_mo), some (vi x840), none, none]) hX dX12_readPerson_8 rfl rfl (Nat.le_of_ble_eq_true rfl) ?_
  refine s_iload_n hX dX12_readPerson_9 rfl ?_
  refine s_bipush (v := 6) hX dX12_readPerson_10 rfl ?_
  refine s_icmp_ne (tgt := 21) hX dX12_readPerson_12 (by decide) (fun c => ?_) (fun c => ?_)
  · replace h := h.1 c
    refine s_aload_n hX dX12_readPerson_21 rfl ?_
    refine s_iload_n hX dX12_readPerson_22 rfl ?_
    refine s_cvv (as := [vi x840]) (rest := []) hX (c_Mo_readName h) mv_Mo_readName wd_ml_X12_262 dX12_readPerson_23 ly_c_mo rfl rfl (Nat.le_of_ble_eq_true rfl) rfl (by decide) ⟨Nat.zero_le _, Nat.zero_le _⟩ (fun M841 h => ?_)
    refine s_iconst (v := (-1)) hX dX12_readPerson_26 rfl ?_
    refine s_istore_n (lv' := [some (vr c_mo), some (vi x840), some (vi (-1)), none]) hX dX12_readPerson_27 rfl rfl (Nat.le_of_ble_eq_true rfl) ?_
    refine s_iconst (v := 0) hX dX12_readPerson_28 rfl ?_
    refine s_istore_n (lv' := [some (vr c_mo), some (vi x840), some (vi (-1)), some (vi 0)]) hX dX12_readPerson_29 rfl rfl (Nat.le_of_ble_eq_true rfl) ?_
    obtain ⟨n852, h⟩ := h
    refine t_Mo_readPerson_L30 hX hq ?_ n852 _ _ _ h
    intro y846 M845 h
    refine s_iload_n hX dX12_readPerson_58 rfl ?_
    refine s_if_ge (tgt := 68) hX dX12_readPerson_59 (by decide) (fun c => ?_) (fun c => ?_)
    · replace h := h.1 c
      refine s_aload_n hX dX12_readPerson_68 rfl ?_
      refine s_dup hX dX12_readPerson_69 rfl ?_
      refine s_getiv (v := (M845.1 c_mo Mo_at)) hX fi_X12_176 ly_c_mo rfl dX12_readPerson_70 rfl ?_
      refine s_iconst (v := 1) hX dX12_readPerson_73 rfl ?_
      refine s_iadd hX dX12_readPerson_74 ?_
      refine s_puti hX fi_X12_176 fp_X12 rfl (by decide +kernel) ly_c_mo rfl dX12_readPerson_75 ?_
      refine s_aload_n hX dX12_readPerson_78 rfl ?_
      refine s_getr hX fi_X12_85 ly_c_mo rfl dX12_readPerson_79 ?_
      refine s_sipush (v := 187) hX dX12_readPerson_82 rfl ?_
      refine s_iconst (v := 2) hX dX12_readPerson_85 rfl ?_
      refine s_iload_n hX dX12_readPerson_86 rfl ?_
      refine s_imul hX dX12_readPerson_87 ?_
      refine s_iadd hX dX12_readPerson_88 ?_
      refine s_iload_n hX dX12_readPerson_89 rfl ?_
      have hi := h.1
      replace h := h.2
      refine s_iast hX ly_c_mo_lands hi dX12_readPerson_90 ?_
      refine s_aload_n hX dX12_readPerson_91 rfl ?_
      refine s_getr hX fi_X12_91 ly_c_mo rfl dX12_readPerson_92 ?_
      refine s_bipush (v := 24) hX dX12_readPerson_95 rfl ?_
      refine s_iload_n hX dX12_readPerson_97 rfl ?_
      refine s_imul hX dX12_readPerson_98 ?_
      refine s_aload_n hX dX12_readPerson_99 rfl ?_
      refine s_cvi (as := []) (rest := [vi (24 * x840), vr c_mo_goes]) hX (c_Mo_takeCell h) mv_Mo_takeCell wd_ml_X12_265 dX12_readPerson_100 ly_c_mo rfl rfl (Nat.le_of_ble_eq_true rfl) rfl (by decide) ⟨Nat.zero_le _, Nat.zero_le _⟩ (fun r848 M847 h => ?_)
      have hi := h.1
      replace h := h.2
      refine s_iast hX ly_c_mo_goes hi dX12_readPerson_103 ?_
      refine s_aload_n hX dX12_readPerson_104 rfl ?_
      refine s_getr hX fi_X12_85 ly_c_mo rfl dX12_readPerson_105 ?_
      refine s_sipush (v := 187) hX dX12_readPerson_108 rfl ?_
      refine s_iconst (v := 2) hX dX12_readPerson_111 rfl ?_
      refine s_iload_n hX dX12_readPerson_112 rfl ?_
      refine s_imul hX dX12_readPerson_113 ?_
      refine s_iadd hX dX12_readPerson_114 ?_
      refine s_iconst (v := 1) hX dX12_readPerson_115 rfl ?_
      refine s_iadd hX dX12_readPerson_116 ?_
      refine s_aload_n hX dX12_readPerson_117 rfl ?_
      refine s_iconst (v := 3) hX dX12_readPerson_118 rfl ?_
      refine s_iconst (v := 0) hX dX12_readPerson_119 rfl ?_
      refine s_sipush (v := 9999) hX dX12_readPerson_120 rfl ?_
      refine s_cvi (as := [vi 3, vi 0, vi 9999]) (rest := [vi ((187 + (2 * x840)) + 1), vr c_mo_lands]) hX (c_Mo_takeAfter h) mv_Mo_takeAfter wd_ml_X12_251 dX12_readPerson_123 ly_c_mo rfl rfl (Nat.le_of_ble_eq_true rfl) rfl (by decide) ⟨Nat.zero_le _, Nat.zero_le _⟩ (fun r850 M849 h => ?_)
      have hi := h.1
      replace h := h.2
      refine s_iast hX ly_c_mo_lands hi dX12_readPerson_126 ?_
      refine s_aload_n hX dX12_readPerson_127 rfl ?_
      refine s_getr hX fi_X12_85 ly_c_mo rfl dX12_readPerson_128 ?_
      refine s_sipush (v := 182) hX dX12_readPerson_131 rfl ?_
      refine s_dup2 hX dX12_readPerson_134 rfl rfl ?_
      have hi := h.1
      replace h := h.2
      refine s_ialdv (v := ((si M849 c_mo_lands (Int32.toNatClampNeg ((187 + (2 * x840)) + 1)) r850).1 c_mo_lands (Int32.toNatClampNeg 182))) hX ly_c_mo_lands hi dX12_readPerson_135 rfl ?_
      refine s_iconst (v := 1) hX dX12_readPerson_136 rfl ?_
      refine s_iadd hX dX12_readPerson_137 ?_
      have hi := h.1
      replace h := h.2
      refine s_iast hX ly_c_mo_lands hi dX12_readPerson_138 ?_
      exact s_vret hX hq rfl dX12_readPerson_139 h
    · replace h := h.2 c
      refine s_aload_n hX dX12_readPerson_62 rfl ?_
      refine s_iconst (v := 1) hX dX12_readPerson_63 rfl ?_
      refine s_cvv (as := [vi 1]) (rest := []) hX (c_Mo_wrong h) mv_Mo_wrong wd_ml_X12_185 dX12_readPerson_64 ly_c_mo rfl rfl (Nat.le_of_ble_eq_true rfl) rfl (by decide) ⟨Nat.zero_le _, Nat.zero_le _⟩ (fun M851 h => ?_)
      exact s_vret hX hq rfl dX12_readPerson_67 h
  · replace h := h.2 c
    refine s_aload_n hX dX12_readPerson_15 rfl ?_
    refine s_iconst (v := 5) hX dX12_readPerson_16 rfl ?_
    refine s_cvv (as := [vi 5]) (rest := []) hX (c_Mo_wrong h) mv_Mo_wrong wd_ml_X12_185 dX12_readPerson_17 ly_c_mo rfl rfl (Nat.le_of_ble_eq_true rfl) rfl (by decide) ⟨Nat.zero_le _, Nat.zero_le _⟩ (fun M853 h => ?_)
    exact s_vret hX hq rfl dX12_readPerson_20 h
theorem c_Mo_readPerson {M : Mem} {Q : Mem → Prop} (h : w_Mo_readPerson M Q) : CV yX12_readPerson cX12_readPerson 4 none 6 0 0 LY LY [vr c_mo] M Q := mk_v rfl wd_co_X12_readPerson rfl rfl (Nat.le_of_ble_eq_true rfl) (fun X hX hq => t_Mo_readPerson hX hq h)
theorem mv_Mo_readPerson : MV yX12_readPerson cX12_readPerson 4 none RX12 0 := ⟨wd_co_X12_readPerson, wd_im_X12_readPerson, wd_se_X12_readPerson, wd_in_X12, by decide +kernel, by decide⟩
def w_Mo_readLine (M : Mem) (Q : Mem → Prop) : Prop :=
  w_Mo_isWord 1 M (fun b695 M694 => ((b695 = false → w_Mo_isWord 4 M694 (fun b697 M696 => ((b697 = false → w_Mo_isWord 6 M696 (fun b699 M698 => ((b699 = false → w_Mo_isWord 7 M698 (fun b701 M700 => ((b701 = false → w_Mo_isWord 11 M700 (fun b703 M702 => ((b703 = false → w_Mo_readLaw M702 (fun M776 => Q M776)) ∧ (b703 = true → w_Mo_readHear M702 (fun M780 => Q M780))))) ∧ (b701 = true → w_Mo_readCall M700 (fun M811 => Q M811))))) ∧ (b699 = true → w_Mo_readBird M698 (fun M827 => Q M827))))) ∧ (b697 = true → w_Mo_readGo M696 (fun M839 => Q M839))))) ∧ (b695 = true → w_Mo_readPerson M694 (fun M854 => Q M854))))
set_option maxHeartbeats 4000000 in
theorem t_Mo_readLine {X : Cx} (hX : Cok X cX12_readLine RX12 1 none 68 0 0) {Q : Mem → Prop} (hq : RV X 0 0 LY Q) {M : Mem} (h : w_Mo_readLine M Q) : Wat X 0 0 LY 0 [some (vr c_mo)] [] M := by
  refine s_aload_n hX dX12_readLine_0 rfl ?_
  refine s_iconst (v := 1) hX dX12_readLine_1 rfl ?_
  refine s_cvi (as := [vi 1]) (rest := []) hX (c_Mo_isWord h) mv_Mo_isWord wd_ml_X12_188 dX12_readLine_2 ly_c_mo rfl rfl (Nat.le_of_ble_eq_true rfl) rfl (by decide) ⟨Nat.zero_le _, Nat.zero_le _⟩ (fun b695_ M694 h => ?_)
  obtain ⟨b695, rfl, h⟩ := h
  refine s_if_eq (tgt := 15) hX dX12_readLine_5 (by decide) (fun c => ?_) (fun c => ?_)
  · replace h := h.1 (b2i_0 c)
    refine s_aload_n hX dX12_readLine_15 rfl ?_
    refine s_iconst (v := 4) hX dX12_readLine_16 rfl ?_
    refine s_cvi (as := [vi 4]) (rest := []) hX (c_Mo_isWord h) mv_Mo_isWord wd_ml_X12_188 dX12_readLine_17 ly_c_mo rfl rfl (Nat.le_of_ble_eq_true rfl) rfl (by decide) ⟨Nat.zero_le _, Nat.zero_le _⟩ (fun b697_ M696 h => ?_)
    obtain ⟨b697, rfl, h⟩ := h
    refine s_if_eq (tgt := 30) hX dX12_readLine_20 (by decide) (fun c => ?_) (fun c => ?_)
    · replace h := h.1 (b2i_0 c)
      refine s_aload_n hX dX12_readLine_30 rfl ?_
      refine s_bipush (v := 6) hX dX12_readLine_31 rfl ?_
      refine s_cvi (as := [vi 6]) (rest := []) hX (c_Mo_isWord h) mv_Mo_isWord wd_ml_X12_188 dX12_readLine_33 ly_c_mo rfl rfl (Nat.le_of_ble_eq_true rfl) rfl (by decide) ⟨Nat.zero_le _, Nat.zero_le _⟩ (fun b699_ M698 h => ?_)
      obtain ⟨b699, rfl, h⟩ := h
      refine s_if_eq (tgt := 46) hX dX12_readLine_36 (by decide) (fun c => ?_) (fun c => ?_)
      · replace h := h.1 (b2i_0 c)
        refine s_aload_n hX dX12_readLine_46 rfl ?_
        refine s_bipush (v := 7) hX dX12_readLine_47 rfl ?_
        refine s_cvi (as := [vi 7]) (rest := []) hX (c_Mo_isWord h) mv_Mo_isWord wd_ml_X12_188 dX12_readLine_49 ly_c_mo rfl rfl (Nat.le_of_ble_eq_true rfl) rfl (by decide) ⟨Nat.zero_le _, Nat.zero_le _⟩ (fun b701_ M700 h => ?_)
        obtain ⟨b701, rfl, h⟩ := h
        refine s_if_eq (tgt := 62) hX dX12_readLine_52 (by decide) (fun c => ?_) (fun c => ?_)
        · replace h := h.1 (b2i_0 c)
          refine s_aload_n hX dX12_readLine_62 rfl ?_
          refine s_bipush (v := 11) hX dX12_readLine_63 rfl ?_
          refine s_cvi (as := [vi 11]) (rest := []) hX (c_Mo_isWord h) mv_Mo_isWord wd_ml_X12_188 dX12_readLine_65 ly_c_mo rfl rfl (Nat.le_of_ble_eq_true rfl) rfl (by decide) ⟨Nat.zero_le _, Nat.zero_le _⟩ (fun b703_ M702 h => ?_)
          obtain ⟨b703, rfl, h⟩ := h
          refine s_if_eq (tgt := 78) hX dX12_readLine_68 (by decide) (fun c => ?_) (fun c => ?_)
          · replace h := h.1 (b2i_0 c)
            refine s_aload_n hX dX12_readLine_78 rfl ?_
            refine s_cvv (as := []) (rest := []) hX (c_Mo_readLaw h) mv_Mo_readLaw wd_ml_X12_248 dX12_readLine_79 ly_c_mo rfl rfl (Nat.le_of_ble_eq_true rfl) rfl (by decide) ⟨Nat.zero_le _, Nat.zero_le _⟩ (fun M776 h => ?_)
            exact s_vret hX hq rfl dX12_readLine_82 h
          · replace h := h.2 (b2i_1 c)
            refine s_aload_n hX dX12_readLine_71 rfl ?_
            refine s_cvv (as := []) (rest := []) hX (c_Mo_readHear h) mv_Mo_readHear wd_ml_X12_245 dX12_readLine_72 ly_c_mo rfl rfl (Nat.le_of_ble_eq_true rfl) rfl (by decide) ⟨Nat.zero_le _, Nat.zero_le _⟩ (fun M780 h => ?_)
            refine s_goto (tgt := 82) hX dX12_readLine_75 (by decide) ?_
            exact s_vret hX hq rfl dX12_readLine_82 h
        · replace h := h.2 (b2i_1 c)
          refine s_aload_n hX dX12_readLine_55 rfl ?_
          refine s_cvv (as := []) (rest := []) hX (c_Mo_readCall h) mv_Mo_readCall wd_ml_X12_242 dX12_readLine_56 ly_c_mo rfl rfl (Nat.le_of_ble_eq_true rfl) rfl (by decide) ⟨Nat.zero_le _, Nat.zero_le _⟩ (fun M811 h => ?_)
          refine s_goto (tgt := 82) hX dX12_readLine_59 (by decide) ?_
          exact s_vret hX hq rfl dX12_readLine_82 h
      · replace h := h.2 (b2i_1 c)
        refine s_aload_n hX dX12_readLine_39 rfl ?_
        refine s_cvv (as := []) (rest := []) hX (c_Mo_readBird h) mv_Mo_readBird wd_ml_X12_239 dX12_readLine_40 ly_c_mo rfl rfl (Nat.le_of_ble_eq_true rfl) rfl (by decide) ⟨Nat.zero_le _, Nat.zero_le _⟩ (fun M827 h => ?_)
        refine s_goto (tgt := 82) hX dX12_readLine_43 (by decide) ?_
        exact s_vret hX hq rfl dX12_readLine_82 h
    · replace h := h.2 (b2i_1 c)
      refine s_aload_n hX dX12_readLine_23 rfl ?_
      refine s_cvv (as := []) (rest := []) hX (c_Mo_readGo h) mv_Mo_readGo wd_ml_X12_236 dX12_readLine_24 ly_c_mo rfl rfl (Nat.le_of_ble_eq_true rfl) rfl (by decide) ⟨Nat.zero_le _, Nat.zero_le _⟩ (fun M839 h => ?_)
      refine s_goto (tgt := 82) hX dX12_readLine_27 (by decide) ?_
      exact s_vret hX hq rfl dX12_readLine_82 h
  · replace h := h.2 (b2i_1 c)
    refine s_aload_n hX dX12_readLine_8 rfl ?_
    refine s_cvv (as := []) (rest := []) hX (c_Mo_readPerson h) mv_Mo_readPerson wd_ml_X12_233 dX12_readLine_9 ly_c_mo rfl rfl (Nat.le_of_ble_eq_true rfl) rfl (by decide) ⟨Nat.zero_le _, Nat.zero_le _⟩ (fun M854 h => ?_)
    refine s_goto (tgt := 82) hX dX12_readLine_12 (by decide) ?_
    exact s_vret hX hq rfl dX12_readLine_82 h
theorem c_Mo_readLine {M : Mem} {Q : Mem → Prop} (h : w_Mo_readLine M Q) : CV yX12_readLine cX12_readLine 1 none 68 0 0 LY LY [vr c_mo] M Q := mk_v rfl wd_co_X12_readLine rfl rfl (Nat.le_of_ble_eq_true rfl) (fun X hX hq => t_Mo_readLine hX hq h)
theorem mv_Mo_readLine : MV yX12_readLine cX12_readLine 1 none RX12 0 := ⟨wd_co_X12_readLine, wd_im_X12_readLine, wd_se_X12_readLine, wd_in_X12, by decide +kernel, by decide⟩
def w_Mo_persons (M : Mem) (Q : Int32 → Mem → Prop) : Prop :=
  (vp_in 2 360 ∧ Q (M.1 c_mo_lands (Int32.toNatClampNeg 2)) M)
set_option maxHeartbeats 4000000 in
theorem t_Mo_persons {X : Cx} (hX : Cok X cX12_persons RX12 1 ((some .int)) 1 0 0) {Q : Int32 → Mem → Prop} (hq : RI X 0 0 LY Q) {M : Mem} (h : w_Mo_persons M Q) : Wat X 0 0 LY 0 [some (vr c_mo)] [] M := by
  refine s_aload_n hX dX12_persons_0 rfl ?_
  refine s_getr hX fi_X12_85 ly_c_mo rfl dX12_persons_1 ?_
  refine s_iconst (v := 2) hX dX12_persons_4 rfl ?_
  have hi := h.1
  replace h := h.2
  refine s_ialdv (v := (M.1 c_mo_lands (Int32.toNatClampNeg 2))) hX ly_c_mo_lands hi dX12_persons_5 rfl ?_
  exact s_iret hX hq rfl dX12_persons_6 h
theorem c_Mo_persons {M : Mem} {Q : Int32 → Mem → Prop} (h : w_Mo_persons M Q) : CI yX12_persons cX12_persons 1 ((some .int)) 1 0 0 LY LY [vr c_mo] M Q := mk_i rfl wd_co_X12_persons rfl rfl (Nat.le_of_ble_eq_true rfl) (fun X hX hq => t_Mo_persons hX hq h)
theorem mv_Mo_persons : MV yX12_persons cX12_persons 1 ((some .int)) RX12 0 := ⟨wd_co_X12_persons, wd_im_X12_persons, wd_se_X12_persons, wd_in_X12, by decide +kernel, by decide⟩
def w_Mo_hills_L43 (K : Mem → Prop) (Q : Int32 → Mem → Prop) : Nat → Int32 → Mem → Prop
  | 0, _, _ => False
  | n + 1, l1, M => ((120 ≤ l1 → K M) ∧ (¬ 120 ≤ l1 → (vp_in l1 120 ∧ w_Mo_hills_L43 K Q n (l1 + 1) (si M c_mo_readCalls (Int32.toNatClampNeg l1) 0))))
set_option maxHeartbeats 4000000 in
theorem t_Mo_hills_L43 {X : Cx} (hX : Cok X cX12_hills RX12 4 ((some .int)) 69 0 0) {Q : Int32 → Mem → Prop} (hq : RI X 0 0 LY Q) {K : Mem → Prop} (hK : ∀ (M : Mem), K M → Wat X 0 0 LY 62 [some (vr c_mo), none, none, none] [] M) : ∀ (n : Nat) (l1 : Int32) (M : Mem), w_Mo_hills_L43 K Q n l1 M → Wat X 0 0 LY 43 [some (vr c_mo), some (vi l1), none, none] [] M := by
  intro n
  induction n with
  | zero => intro _ _ h; exact h.elim
  | succ n ih =>
    intro l1 M h
    refine s_iload_n hX dX12_hills_43 rfl ?_
    refine s_bipush (v := 120) hX dX12_hills_44 rfl ?_
    refine s_icmp_ge (tgt := 62) hX dX12_hills_46 (by decide) (fun c => ?_) (fun c => ?_)
    · replace h := h.1 c
      refine s_mask [true, false, true, true] (lv' := [some (vr c_mo), none, none, none]) rfl rfl ?_
      exact hK _ h
    · replace h := h.2 c
      refine s_aload_n hX dX12_hills_49 rfl ?_
      refine s_getr hX fi_X12_88 ly_c_mo rfl dX12_hills_50 ?_
      refine s_iload_n hX dX12_hills_53 rfl ?_
      refine s_iconst (v := 0) hX dX12_hills_54 rfl ?_
      have hi := h.1
      replace h := h.2
      refine s_iast hX ly_c_mo_readCalls hi dX12_hills_55 ?_
      refine s_iinc (v := (l1 + 1)) (lv' := [some (vr c_mo), some (vi (l1 + 1)), none, none]) hX dX12_hills_56 rfl rfl rfl rfl ?_
      refine s_goto (tgt := 43) hX dX12_hills_59 (by decide) ?_
      exact ih _ _ h
def w_Mo_hills_L64 (K : Mem → Prop) (Q : Int32 → Mem → Prop) : Nat → Int32 → Mem → Prop
  | 0, _, _ => False
  | n + 1, l1, M => ((144 ≤ l1 → K M) ∧ (¬ 144 ≤ l1 → (vp_in l1 144 ∧ w_Mo_hills_L64 K Q n (l1 + 1) (si M c_mo_goes (Int32.toNatClampNeg l1) (-1)))))
set_option maxHeartbeats 4000000 in
theorem t_Mo_hills_L64 {X : Cx} (hX : Cok X cX12_hills RX12 4 ((some .int)) 69 0 0) {Q : Int32 → Mem → Prop} (hq : RI X 0 0 LY Q) {K : Mem → Prop} (hK : ∀ (M : Mem), K M → Wat X 0 0 LY 84 [some (vr c_mo), none, none, none] [] M) : ∀ (n : Nat) (l1 : Int32) (M : Mem), w_Mo_hills_L64 K Q n l1 M → Wat X 0 0 LY 64 [some (vr c_mo), some (vi l1), none, none] [] M := by
  intro n
  induction n with
  | zero => intro _ _ h; exact h.elim
  | succ n ih =>
    intro l1 M h
    refine s_iload_n hX dX12_hills_64 rfl ?_
    refine s_sipush (v := 144) hX dX12_hills_65 rfl ?_
    refine s_icmp_ge (tgt := 84) hX dX12_hills_68 (by decide) (fun c => ?_) (fun c => ?_)
    · replace h := h.1 c
      refine s_mask [true, false, true, true] (lv' := [some (vr c_mo), none, none, none]) rfl rfl ?_
      exact hK _ h
    · replace h := h.2 c
      refine s_aload_n hX dX12_hills_71 rfl ?_
      refine s_getr hX fi_X12_91 ly_c_mo rfl dX12_hills_72 ?_
      refine s_iload_n hX dX12_hills_75 rfl ?_
      refine s_iconst (v := (-1)) hX dX12_hills_76 rfl ?_
      have hi := h.1
      replace h := h.2
      refine s_iast hX ly_c_mo_goes hi dX12_hills_77 ?_
      refine s_iinc (v := (l1 + 1)) (lv' := [some (vr c_mo), some (vi (l1 + 1)), none, none]) hX dX12_hills_78 rfl rfl rfl rfl ?_
      refine s_goto (tgt := 64) hX dX12_hills_81 (by decide) ?_
      exact ih _ _ h
def w_Mo_hills_L125 (K : Mem → Prop) (Q : Int32 → Mem → Prop) : Nat → Mem → Prop
  | 0, _ => False
  | n + 1, M => ((¬ (M.1 c_mo Mo_fault) = 0 → K M) ∧ ((M.1 c_mo Mo_fault) = 0 → (vp_in (M.1 c_mo Mo_at) 1002 ∧ (((M.1 c_mo_sort (Int32.toNatClampNeg (M.1 c_mo Mo_at))) = 0 → K M) ∧ (¬ (M.1 c_mo_sort (Int32.toNatClampNeg (M.1 c_mo Mo_at))) = 0 → w_Mo_readLine M (fun M855 => w_Mo_takeSign 59 M855 (fun M856 => w_Mo_hills_L125 K Q n M856)))))))
set_option maxHeartbeats 4000000 in
theorem t_Mo_hills_L125 {X : Cx} (hX : Cok X cX12_hills RX12 4 ((some .int)) 69 0 0) {Q : Int32 → Mem → Prop} (hq : RI X 0 0 LY Q) {K : Mem → Prop} (hK : ∀ (M : Mem), K M → Wat X 0 0 LY 157 [some (vr c_mo), none, none, none] [] M) : ∀ (n : Nat) (M : Mem), w_Mo_hills_L125 K Q n M → Wat X 0 0 LY 125 [some (vr c_mo), none, none, none] [] M := by
  intro n
  induction n with
  | zero => intro _ h; exact h.elim
  | succ n ih =>
    intro M h
    refine s_aload_n hX dX12_hills_125 rfl ?_
    refine s_getiv (v := (M.1 c_mo Mo_fault)) hX fi_X12_179 ly_c_mo rfl dX12_hills_126 rfl ?_
    refine s_if_ne (tgt := 157) hX dX12_hills_129 (by decide) (fun c => ?_) (fun c => ?_)
    · replace h := h.1 c
      exact hK _ h
    · replace h := h.2 c
      refine s_aload_n hX dX12_hills_132 rfl ?_
      refine s_getr hX fi_X12_24 ly_c_mo rfl dX12_hills_133 ?_
      refine s_aload_n hX dX12_hills_136 rfl ?_
      refine s_getiv (v := (M.1 c_mo Mo_at)) hX fi_X12_176 ly_c_mo rfl dX12_hills_137 rfl ?_
      have hi := h.1
      replace h := h.2
      refine s_ialdv (v := (M.1 c_mo_sort (Int32.toNatClampNeg (M.1 c_mo Mo_at)))) hX ly_c_mo_sort hi dX12_hills_140 rfl ?_
      refine s_if_eq (tgt := 157) hX dX12_hills_141 (by decide) (fun c => ?_) (fun c => ?_)
      · replace h := h.1 c
        exact hK _ h
      · replace h := h.2 c
        refine s_aload_n hX dX12_hills_144 rfl ?_
        refine s_cvv (as := []) (rest := []) hX (c_Mo_readLine h) mv_Mo_readLine wd_ml_X12_223 dX12_hills_145 ly_c_mo rfl rfl (Nat.le_of_ble_eq_true rfl) rfl (by decide) ⟨Nat.zero_le _, Nat.zero_le _⟩ (fun M855 h => ?_)
        refine s_aload_n hX dX12_hills_148 rfl ?_
        refine s_bipush (v := 59) hX dX12_hills_149 rfl ?_
        refine s_cvv (as := [vi 59]) (rest := []) hX (c_Mo_takeSign h) mv_Mo_takeSign wd_ml_X12_220 dX12_hills_151 ly_c_mo rfl rfl (Nat.le_of_ble_eq_true rfl) rfl (by decide) ⟨Nat.zero_le _, Nat.zero_le _⟩ (fun M856 h => ?_)
        refine s_goto (tgt := 125) hX dX12_hills_154 (by decide) ?_
        exact ih _ h
def w_Mo_hills_L171 (K : Mem → Prop) (Q : Int32 → Mem → Prop) : Nat → Int32 → Mem → Prop
  | 0, _, _ => False
  | n + 1, l1, M => ((180 ≤ l1 → K M) ∧ (¬ 180 ≤ l1 → (vp_in (180 + l1) 360 ∧ (vp_in l1 360 ∧ w_Mo_hills_L171 K Q n (l1 + 1) (si M c_mo_lands (Int32.toNatClampNeg l1) (M.1 c_mo_lands (Int32.toNatClampNeg (180 + l1))))))))
set_option maxHeartbeats 4000000 in
theorem t_Mo_hills_L171 {X : Cx} (hX : Cok X cX12_hills RX12 4 ((some .int)) 69 0 0) {Q : Int32 → Mem → Prop} (hq : RI X 0 0 LY Q) {K : Mem → Prop} (hK : ∀ (M : Mem), K M → Wat X 0 0 LY 200 [some (vr c_mo), none, none, none] [] M) : ∀ (n : Nat) (l1 : Int32) (M : Mem), w_Mo_hills_L171 K Q n l1 M → Wat X 0 0 LY 171 [some (vr c_mo), some (vi l1), none, none] [] M := by
  intro n
  induction n with
  | zero => intro _ _ h; exact h.elim
  | succ n ih =>
    intro l1 M h
    refine s_iload_n hX dX12_hills_171 rfl ?_
    refine s_sipush (v := 180) hX dX12_hills_172 rfl ?_
    refine s_icmp_ge (tgt := 200) hX dX12_hills_175 (by decide) (fun c => ?_) (fun c => ?_)
    · replace h := h.1 c
      refine s_mask [true, false, true, true] (lv' := [some (vr c_mo), none, none, none]) rfl rfl ?_
      exact hK _ h
    · replace h := h.2 c
      refine s_aload_n hX dX12_hills_178 rfl ?_
      refine s_getr hX fi_X12_85 ly_c_mo rfl dX12_hills_179 ?_
      refine s_iload_n hX dX12_hills_182 rfl ?_
      refine s_aload_n hX dX12_hills_183 rfl ?_
      refine s_getr hX fi_X12_85 ly_c_mo rfl dX12_hills_184 ?_
      refine s_sipush (v := 180) hX dX12_hills_187 rfl ?_
      refine s_iload_n hX dX12_hills_190 rfl ?_
      refine s_iadd hX dX12_hills_191 ?_
      have hi := h.1
      replace h := h.2
      refine s_ialdv (v := (M.1 c_mo_lands (Int32.toNatClampNeg (180 + l1)))) hX ly_c_mo_lands hi dX12_hills_192 rfl ?_
      have hi := h.1
      replace h := h.2
      refine s_iast hX ly_c_mo_lands hi dX12_hills_193 ?_
      refine s_iinc (v := (l1 + 1)) (lv' := [some (vr c_mo), some (vi (l1 + 1)), none, none]) hX dX12_hills_194 rfl rfl rfl rfl ?_
      refine s_goto (tgt := 171) hX dX12_hills_197 (by decide) ?_
      exact ih _ _ h
def w_Mo_hills_L202 (K : Mem → Prop) (Q : Int32 → Mem → Prop) : Nat → Int32 → Mem → Prop
  | 0, _, _ => False
  | n + 1, l1, M => (((M.1 c_mo Mo_codes) ≤ l1 → K M) ∧ (¬ (M.1 c_mo Mo_codes) ≤ l1 → (vp_in (1100 + l1) 2200 ∧ (vp_in l1 2200 ∧ (vp_in (1100 + l1) 2200 ∧ (vp_in l1 2200 ∧ w_Mo_hills_L202 K Q n (l1 + 1) (si (si M c_mo_op (Int32.toNatClampNeg l1) (M.1 c_mo_op (Int32.toNatClampNeg (1100 + l1)))) c_mo_arg (Int32.toNatClampNeg l1) (M.1 c_mo_arg (Int32.toNatClampNeg (1100 + l1))))))))))
set_option maxHeartbeats 4000000 in
theorem t_Mo_hills_L202 {X : Cx} (hX : Cok X cX12_hills RX12 4 ((some .int)) 69 0 0) {Q : Int32 → Mem → Prop} (hq : RI X 0 0 LY Q) {K : Mem → Prop} (hK : ∀ (M : Mem), K M → Wat X 0 0 LY 248 [some (vr c_mo), none, none, none] [] M) : ∀ (n : Nat) (l1 : Int32) (M : Mem), w_Mo_hills_L202 K Q n l1 M → Wat X 0 0 LY 202 [some (vr c_mo), some (vi l1), none, none] [] M := by
  intro n
  induction n with
  | zero => intro _ _ h; exact h.elim
  | succ n ih =>
    intro l1 M h
    refine s_iload_n hX dX12_hills_202 rfl ?_
    refine s_aload_n hX dX12_hills_203 rfl ?_
    refine s_getiv (v := (M.1 c_mo Mo_codes)) hX fi_X12_207 ly_c_mo rfl dX12_hills_204 rfl ?_
    refine s_icmp_ge (tgt := 248) hX dX12_hills_207 (by decide) (fun c => ?_) (fun c => ?_)
    · replace h := h.1 c
      refine s_mask [true, false, true, true] (lv' := [some (vr c_mo), none, none, none]) rfl rfl ?_
      exact hK _ h
    · replace h := h.2 c
      refine s_aload_n hX dX12_hills_210 rfl ?_
      refine s_getr hX fi_X12_94 ly_c_mo rfl dX12_hills_211 ?_
      refine s_iload_n hX dX12_hills_214 rfl ?_
      refine s_aload_n hX dX12_hills_215 rfl ?_
      refine s_getr hX fi_X12_94 ly_c_mo rfl dX12_hills_216 ?_
      refine s_sipush (v := 1100) hX dX12_hills_219 rfl ?_
      refine s_iload_n hX dX12_hills_222 rfl ?_
      refine s_iadd hX dX12_hills_223 ?_
      have hi := h.1
      replace h := h.2
      refine s_ialdv (v := (M.1 c_mo_op (Int32.toNatClampNeg (1100 + l1)))) hX ly_c_mo_op hi dX12_hills_224 rfl ?_
      have hi := h.1
      replace h := h.2
      refine s_iast hX ly_c_mo_op hi dX12_hills_225 ?_
      refine s_aload_n hX dX12_hills_226 rfl ?_
      refine s_getr hX fi_X12_97 ly_c_mo rfl dX12_hills_227 ?_
      refine s_iload_n hX dX12_hills_230 rfl ?_
      refine s_aload_n hX dX12_hills_231 rfl ?_
      refine s_getr hX fi_X12_97 ly_c_mo rfl dX12_hills_232 ?_
      refine s_sipush (v := 1100) hX dX12_hills_235 rfl ?_
      refine s_iload_n hX dX12_hills_238 rfl ?_
      refine s_iadd hX dX12_hills_239 ?_
      have hi := h.1
      replace h := h.2
      refine s_ialdv (v := (M.1 c_mo_arg (Int32.toNatClampNeg (1100 + l1)))) hX ly_c_mo_arg hi dX12_hills_240 rfl ?_
      have hi := h.1
      replace h := h.2
      refine s_iast hX ly_c_mo_arg hi dX12_hills_241 ?_
      refine s_iinc (v := (l1 + 1)) (lv' := [some (vr c_mo), some (vi (l1 + 1)), none, none]) hX dX12_hills_242 rfl rfl rfl rfl ?_
      refine s_goto (tgt := 202) hX dX12_hills_245 (by decide) ?_
      exact ih _ _ h
def w_Mo_hills_L260 (l1 : Int32) (K : Mem → Prop) (Q : Int32 → Mem → Prop) : Nat → Int32 → Mem → Prop
  | 0, _, _ => False
  | n + 1, l2, M => ((24 ≤ l2 → K M) ∧ (¬ 24 ≤ l2 → (vp_in ((24 * l1) + l2) 144 ∧ (((M.1 c_mo_goes (Int32.toNatClampNeg ((24 * l1) + l2))) < 0 → (vp_in ((19 + ((24 * l1) + l2)) - 1) 360 ∧ (vp_in (19 + ((24 * l1) + l2)) 360 ∧ w_Mo_hills_L260 l1 K Q n (l2 + 1) (si M c_mo_lands (Int32.toNatClampNeg (19 + ((24 * l1) + l2))) (M.1 c_mo_lands (Int32.toNatClampNeg ((19 + ((24 * l1) + l2)) - 1))))))) ∧ (¬ (M.1 c_mo_goes (Int32.toNatClampNeg ((24 * l1) + l2))) < 0 → (vp_in ((24 * l1) + l2) 144 ∧ (vp_in (19 + ((24 * l1) + l2)) 360 ∧ w_Mo_hills_L260 l1 K Q n (l2 + 1) (si M c_mo_lands (Int32.toNatClampNeg (19 + ((24 * l1) + l2))) (M.1 c_mo_goes (Int32.toNatClampNeg ((24 * l1) + l2)))))))))))
set_option maxHeartbeats 4000000 in
theorem t_Mo_hills_L260 {X : Cx} (hX : Cok X cX12_hills RX12 4 ((some .int)) 69 0 0) {Q : Int32 → Mem → Prop} (hq : RI X 0 0 LY Q) {l1 : Int32} {K : Mem → Prop} (hK : ∀ (M : Mem), K M → Wat X 0 0 LY 317 [some (vr c_mo), some (vi l1), none, none] [] M) : ∀ (n : Nat) (l2 : Int32) (M : Mem), w_Mo_hills_L260 l1 K Q n l2 M → Wat X 0 0 LY 260 [some (vr c_mo), some (vi l1), some (vi l2), none] [] M := by
  intro n
  induction n with
  | zero => intro _ _ h; exact h.elim
  | succ n ih =>
    intro l2 M h
    refine s_iload_n hX dX12_hills_260 rfl ?_
    refine s_bipush (v := 24) hX dX12_hills_261 rfl ?_
    refine s_icmp_ge (tgt := 317) hX dX12_hills_263 (by decide) (fun c => ?_) (fun c => ?_)
    · replace h := h.1 c
      refine s_mask [true, true, false, true] (lv' := [some (vr c_mo), some (vi l1), none, none]) rfl rfl ?_
      exact hK _ h
    · replace h := h.2 c
      refine s_bipush (v := 24) hX dX12_hills_266 rfl ?_
      refine s_iload_n hX dX12_hills_268 rfl ?_
      refine s_imul hX dX12_hills_269 ?_
      refine s_iload_n hX dX12_hills_270 rfl ?_
      refine s_iadd hX dX12_hills_271 ?_
      refine s_istore_n (lv' := [some (vr c_mo), some (vi l1), some (vi l2), some (vi ((24 * l1) + l2))]) hX dX12_hills_272 rfl rfl (Nat.le_of_ble_eq_true rfl) ?_
      refine s_aload_n hX dX12_hills_273 rfl ?_
      refine s_getr hX fi_X12_85 ly_c_mo rfl dX12_hills_274 ?_
      refine s_bipush (v := 19) hX dX12_hills_277 rfl ?_
      refine s_iload_n hX dX12_hills_279 rfl ?_
      refine s_iadd hX dX12_hills_280 ?_
      refine s_aload_n hX dX12_hills_281 rfl ?_
      refine s_getr hX fi_X12_91 ly_c_mo rfl dX12_hills_282 ?_
      refine s_iload_n hX dX12_hills_285 rfl ?_
      have hi := h.1
      replace h := h.2
      refine s_ialdv (v := (M.1 c_mo_goes (Int32.toNatClampNeg ((24 * l1) + l2)))) hX ly_c_mo_goes hi dX12_hills_286 rfl ?_
      refine s_if_lt (tgt := 299) hX dX12_hills_287 (by decide) (fun c => ?_) (fun c => ?_)
      · replace h := h.1 c
        refine s_aload_n hX dX12_hills_299 rfl ?_
        refine s_getr hX fi_X12_85 ly_c_mo rfl dX12_hills_300 ?_
        refine s_bipush (v := 19) hX dX12_hills_303 rfl ?_
        refine s_iload_n hX dX12_hills_305 rfl ?_
        refine s_iadd hX dX12_hills_306 ?_
        refine s_iconst (v := 1) hX dX12_hills_307 rfl ?_
        refine s_isub hX dX12_hills_308 ?_
        have hi := h.1
        replace h := h.2
        refine s_ialdv (v := (M.1 c_mo_lands (Int32.toNatClampNeg ((19 + ((24 * l1) + l2)) - 1)))) hX ly_c_mo_lands hi dX12_hills_309 rfl ?_
        have hi := h.1
        replace h := h.2
        refine s_iast hX ly_c_mo_lands hi dX12_hills_310 ?_
        refine s_iinc (v := (l2 + 1)) (lv' := [some (vr c_mo), some (vi l1), some (vi (l2 + 1)), some (vi ((24 * l1) + l2))]) hX dX12_hills_311 rfl rfl rfl rfl ?_
        refine s_goto (tgt := 260) hX dX12_hills_314 (by decide) ?_
        refine s_mask [true, true, true, false] (lv' := [some (vr c_mo), some (vi l1), some (vi (l2 + 1)), none]) rfl rfl ?_
        exact ih _ _ h
      · replace h := h.2 c
        refine s_aload_n hX dX12_hills_290 rfl ?_
        refine s_getr hX fi_X12_91 ly_c_mo rfl dX12_hills_291 ?_
        refine s_iload_n hX dX12_hills_294 rfl ?_
        have hi := h.1
        replace h := h.2
        refine s_ialdv (v := (M.1 c_mo_goes (Int32.toNatClampNeg ((24 * l1) + l2)))) hX ly_c_mo_goes hi dX12_hills_295 rfl ?_
        refine s_goto (tgt := 310) hX dX12_hills_296 (by decide) ?_
        have hi := h.1
        replace h := h.2
        refine s_iast hX ly_c_mo_lands hi dX12_hills_310 ?_
        refine s_iinc (v := (l2 + 1)) (lv' := [some (vr c_mo), some (vi l1), some (vi (l2 + 1)), some (vi ((24 * l1) + l2))]) hX dX12_hills_311 rfl rfl rfl rfl ?_
        refine s_goto (tgt := 260) hX dX12_hills_314 (by decide) ?_
        refine s_mask [true, true, true, false] (lv' := [some (vr c_mo), some (vi l1), some (vi (l2 + 1)), none]) rfl rfl ?_
        exact ih _ _ h
def w_Mo_hills_L250 (K : Mem → Prop) (Q : Int32 → Mem → Prop) : Nat → Int32 → Mem → Prop
  | 0, _, _ => False
  | n + 1, l1, M => w_Mo_persons M (fun r861 M860 => ((r861 ≤ l1 → K M860) ∧ (¬ r861 ≤ l1 → (∃ n863, w_Mo_hills_L260 l1 (fun M862 => w_Mo_hills_L250 K Q n (l1 + 1) M862) Q n863 0 M860))))
set_option maxHeartbeats 4000000 in
theorem t_Mo_hills_L250 {X : Cx} (hX : Cok X cX12_hills RX12 4 ((some .int)) 69 0 0) {Q : Int32 → Mem → Prop} (hq : RI X 0 0 LY Q) {K : Mem → Prop} (hK : ∀ (M : Mem), K M → Wat X 0 0 LY 323 [some (vr c_mo), none, none, none] [] M) : ∀ (n : Nat) (l1 : Int32) (M : Mem), w_Mo_hills_L250 K Q n l1 M → Wat X 0 0 LY 250 [some (vr c_mo), some (vi l1), none, none] [] M := by
  intro n
  induction n with
  | zero => intro _ _ h; exact h.elim
  | succ n ih =>
    intro l1 M h
    refine s_iload_n hX dX12_hills_250 rfl ?_
    refine s_aload_n hX dX12_hills_251 rfl ?_
    refine s_cvi (as := []) (rest := [vi l1]) hX (c_Mo_persons h) mv_Mo_persons wd_ml_X12_226 dX12_hills_252 ly_c_mo rfl rfl (Nat.le_of_ble_eq_true rfl) rfl (by decide) ⟨Nat.zero_le _, Nat.zero_le _⟩ (fun r861 M860 h => ?_)
    refine s_icmp_ge (tgt := 323) hX dX12_hills_255 (by decide) (fun c => ?_) (fun c => ?_)
    · replace h := h.1 c
      refine s_mask [true, false, true, true] (lv' := [some (vr c_mo), none, none, none]) rfl rfl ?_
      exact hK _ h
    · replace h := h.2 c
      refine s_iconst (v := 0) hX dX12_hills_258 rfl ?_
      refine s_istore_n (lv' := [some (vr c_mo), some (vi l1), some (vi 0), none]) hX dX12_hills_259 rfl rfl (Nat.le_of_ble_eq_true rfl) ?_
      obtain ⟨n863, h⟩ := h
      refine t_Mo_hills_L260 hX hq ?_ n863 _ _ h
      intro M862 h
      refine s_iinc (v := (l1 + 1)) (lv' := [some (vr c_mo), some (vi (l1 + 1)), none, none]) hX dX12_hills_317 rfl rfl rfl rfl ?_
      refine s_goto (tgt := 250) hX dX12_hills_320 (by decide) ?_
      exact ih _ _ h
def w_Mo_hills_L325 (K : Mem → Prop) (Q : Int32 → Mem → Prop) : Nat → Int32 → Mem → Prop
  | 0, _, _ => False
  | n + 1, l1, M => ((128 ≤ l1 → K M) ∧ (¬ 128 ≤ l1 → ((120 ≤ l1 → ((l1 < 121 → (vp_in l1 3200 ∧ w_Mo_hills_L325 K Q n (l1 + 1) (si M c_mo_state (Int32.toNatClampNeg l1) 0))) ∧ (¬ l1 < 121 → ((127 ≤ l1 → (vp_in l1 3200 ∧ w_Mo_hills_L325 K Q n (l1 + 1) (si M c_mo_state (Int32.toNatClampNeg l1) 0))) ∧ (¬ 127 ≤ l1 → (vp_in l1 3200 ∧ w_Mo_hills_L325 K Q n (l1 + 1) (si M c_mo_state (Int32.toNatClampNeg l1) (-1)))))))) ∧ (¬ 120 ≤ l1 → (vp_in l1 120 ∧ (vp_in l1 3200 ∧ w_Mo_hills_L325 K Q n (l1 + 1) (si M c_mo_state (Int32.toNatClampNeg l1) (M.1 c_mo_readCalls (Int32.toNatClampNeg l1)))))))))
set_option maxHeartbeats 4000000 in
theorem t_Mo_hills_L325 {X : Cx} (hX : Cok X cX12_hills RX12 4 ((some .int)) 69 0 0) {Q : Int32 → Mem → Prop} (hq : RI X 0 0 LY Q) {K : Mem → Prop} (hK : ∀ (M : Mem), K M → Wat X 0 0 LY 376 [some (vr c_mo), none, none, none] [] M) : ∀ (n : Nat) (l1 : Int32) (M : Mem), w_Mo_hills_L325 K Q n l1 M → Wat X 0 0 LY 325 [some (vr c_mo), some (vi l1), none, none] [] M := by
  intro n
  induction n with
  | zero => intro _ _ h; exact h.elim
  | succ n ih =>
    intro l1 M h
    refine s_iload_n hX dX12_hills_325 rfl ?_
    refine s_sipush (v := 128) hX dX12_hills_326 rfl ?_
    refine s_icmp_ge (tgt := 376) hX dX12_hills_329 (by decide) (fun c => ?_) (fun c => ?_)
    · replace h := h.1 c
      refine s_mask [true, false, true, true] (lv' := [some (vr c_mo), none, none, none]) rfl rfl ?_
      exact hK _ h
    · replace h := h.2 c
      refine s_aload_n hX dX12_hills_332 rfl ?_
      refine s_getr hX fi_X12_115 ly_c_mo rfl dX12_hills_333 ?_
      refine s_iload_n hX dX12_hills_336 rfl ?_
      refine s_iload_n hX dX12_hills_337 rfl ?_
      refine s_bipush (v := 120) hX dX12_hills_338 rfl ?_
      refine s_icmp_ge (tgt := 352) hX dX12_hills_340 (by decide) (fun c => ?_) (fun c => ?_)
      · replace h := h.1 c
        refine s_iload_n hX dX12_hills_352 rfl ?_
        refine s_bipush (v := 121) hX dX12_hills_353 rfl ?_
        refine s_icmp_lt (tgt := 368) hX dX12_hills_355 (by decide) (fun c => ?_) (fun c => ?_)
        · replace h := h.1 c
          refine s_iconst (v := 0) hX dX12_hills_368 rfl ?_
          have hi := h.1
          replace h := h.2
          refine s_iast hX ly_c_mo_state hi dX12_hills_369 ?_
          refine s_iinc (v := (l1 + 1)) (lv' := [some (vr c_mo), some (vi (l1 + 1)), none, none]) hX dX12_hills_370 rfl rfl rfl rfl ?_
          refine s_goto (tgt := 325) hX dX12_hills_373 (by decide) ?_
          exact ih _ _ h
        · replace h := h.2 c
          refine s_iload_n hX dX12_hills_358 rfl ?_
          refine s_bipush (v := 127) hX dX12_hills_359 rfl ?_
          refine s_icmp_ge (tgt := 368) hX dX12_hills_361 (by decide) (fun c => ?_) (fun c => ?_)
          · replace h := h.1 c
            refine s_iconst (v := 0) hX dX12_hills_368 rfl ?_
            have hi := h.1
            replace h := h.2
            refine s_iast hX ly_c_mo_state hi dX12_hills_369 ?_
            refine s_iinc (v := (l1 + 1)) (lv' := [some (vr c_mo), some (vi (l1 + 1)), none, none]) hX dX12_hills_370 rfl rfl rfl rfl ?_
            refine s_goto (tgt := 325) hX dX12_hills_373 (by decide) ?_
            exact ih _ _ h
          · replace h := h.2 c
            refine s_iconst (v := (-1)) hX dX12_hills_364 rfl ?_
            refine s_goto (tgt := 369) hX dX12_hills_365 (by decide) ?_
            have hi := h.1
            replace h := h.2
            refine s_iast hX ly_c_mo_state hi dX12_hills_369 ?_
            refine s_iinc (v := (l1 + 1)) (lv' := [some (vr c_mo), some (vi (l1 + 1)), none, none]) hX dX12_hills_370 rfl rfl rfl rfl ?_
            refine s_goto (tgt := 325) hX dX12_hills_373 (by decide) ?_
            exact ih _ _ h
      · replace h := h.2 c
        refine s_aload_n hX dX12_hills_343 rfl ?_
        refine s_getr hX fi_X12_88 ly_c_mo rfl dX12_hills_344 ?_
        refine s_iload_n hX dX12_hills_347 rfl ?_
        have hi := h.1
        replace h := h.2
        refine s_ialdv (v := (M.1 c_mo_readCalls (Int32.toNatClampNeg l1))) hX ly_c_mo_readCalls hi dX12_hills_348 rfl ?_
        refine s_goto (tgt := 369) hX dX12_hills_349 (by decide) ?_
        have hi := h.1
        replace h := h.2
        refine s_iast hX ly_c_mo_state hi dX12_hills_369 ?_
        refine s_iinc (v := (l1 + 1)) (lv' := [some (vr c_mo), some (vi (l1 + 1)), none, none]) hX dX12_hills_370 rfl rfl rfl rfl ?_
        refine s_goto (tgt := 325) hX dX12_hills_373 (by decide) ?_
        exact ih _ _ h
def w_Mo_hills_L383 (K : Mem → Prop) (Q : Int32 → Mem → Prop) : Nat → Int32 → Mem → Prop
  | 0, _, _ => False
  | n + 1, l1, M => ((4 ≤ l1 → K M) ∧ (¬ 4 ≤ l1 → (vp_in l1 4 ∧ w_Mo_hills_L383 K Q n (l1 + 1) (si M c_mo_isMarked (Int32.toNatClampNeg l1) (vp_nar .boolean 0)))))
set_option maxHeartbeats 4000000 in
theorem t_Mo_hills_L383 {X : Cx} (hX : Cok X cX12_hills RX12 4 ((some .int)) 69 0 0) {Q : Int32 → Mem → Prop} (hq : RI X 0 0 LY Q) {K : Mem → Prop} (hK : ∀ (M : Mem), K M → Wat X 0 0 LY 401 [none, none, none, none] [] M) : ∀ (n : Nat) (l1 : Int32) (M : Mem), w_Mo_hills_L383 K Q n l1 M → Wat X 0 0 LY 383 [some (vr c_mo), some (vi l1), none, none] [] M := by
  intro n
  induction n with
  | zero => intro _ _ h; exact h.elim
  | succ n ih =>
    intro l1 M h
    refine s_iload_n hX dX12_hills_383 rfl ?_
    refine s_iconst (v := 4) hX dX12_hills_384 rfl ?_
    refine s_icmp_ge (tgt := 401) hX dX12_hills_385 (by decide) (fun c => ?_) (fun c => ?_)
    · replace h := h.1 c
      refine s_mask [false, false, true, true] (lv' := [none, none, none, none]) rfl rfl ?_
      exact hK _ h
    · replace h := h.2 c
      refine s_aload_n hX dX12_hills_388 rfl ?_
      refine s_getr hX fi_X12_118 ly_c_mo rfl dX12_hills_389 ?_
      refine s_iload_n hX dX12_hills_392 rfl ?_
      refine s_iconst (v := 0) hX dX12_hills_393 rfl ?_
      have hi := h.1
      replace h := h.2
      refine s_zast hX ly_c_mo_isMarked hi dX12_hills_394 ?_
      refine s_iinc (v := (l1 + 1)) (lv' := [some (vr c_mo), some (vi (l1 + 1)), none, none]) hX dX12_hills_395 rfl rfl rfl rfl ?_
      refine s_goto (tgt := 383) hX dX12_hills_398 (by decide) ?_
      exact ih _ _ h
def w_Mo_hills_j157 (M : Mem) (Q : Int32 → Mem → Prop) : Prop :=
  (((M.1 c_mo Mo_fault) ≤ 0 → (∃ n871, w_Mo_hills_L171 (fun M858 => (∃ n870, w_Mo_hills_L202 (fun M859 => (∃ n869, w_Mo_hills_L250 (fun M864 => (∃ n868, w_Mo_hills_L325 (fun M865 => (∃ n867, w_Mo_hills_L383 (fun M866 => Q 0 M866) Q n867 0 (si M865 c_mo Mo_undos 0))) Q n868 0 M864)) Q n869 0 M859)) Q n870 0 M858)) Q n871 0 M)) ∧ (¬ (M.1 c_mo Mo_fault) ≤ 0 → Q (M.1 c_mo Mo_fault) M))
set_option maxHeartbeats 4000000 in
theorem t_Mo_hills_j157 {X : Cx} (hX : Cok X cX12_hills RX12 4 ((some .int)) 69 0 0) {Q : Int32 → Mem → Prop} (hq : RI X 0 0 LY Q) {M : Mem} (h : w_Mo_hills_j157 M Q) : Wat X 0 0 LY 157 [some (vr c_mo), none, none, none] [] M := by
  refine s_aload_n hX dX12_hills_157 rfl ?_
  refine s_getiv (v := (M.1 c_mo Mo_fault)) hX fi_X12_179 ly_c_mo rfl dX12_hills_158 rfl ?_
  refine s_if_le (tgt := 169) hX dX12_hills_161 (by decide) (fun c => ?_) (fun c => ?_)
  · replace h := h.1 c
    refine s_iconst (v := 0) hX dX12_hills_169 rfl ?_
    refine s_istore_n (lv' := [some (vr c_mo), some (vi 0), none, none]) hX dX12_hills_170 rfl rfl (Nat.le_of_ble_eq_true rfl) ?_
    obtain ⟨n871, h⟩ := h
    refine t_Mo_hills_L171 hX hq ?_ n871 _ _ h
    intro M858 h
    refine s_iconst (v := 0) hX dX12_hills_200 rfl ?_
    refine s_istore_n (lv' := [some (vr c_mo), some (vi 0), none, none]) hX dX12_hills_201 rfl rfl (Nat.le_of_ble_eq_true rfl) ?_
    obtain ⟨n870, h⟩ := h
    refine t_Mo_hills_L202 hX hq ?_ n870 _ _ h
    intro M859 h
    refine s_iconst (v := 0) hX dX12_hills_248 rfl ?_
    refine s_istore_n (lv' := [some (vr c_mo), some (vi 0), none, none]) hX dX12_hills_249 rfl rfl (Nat.le_of_ble_eq_true rfl) ?_
    obtain ⟨n869, h⟩ := h
    refine t_Mo_hills_L250 hX hq ?_ n869 _ _ h
    intro M864 h
    refine s_iconst (v := 0) hX dX12_hills_323 rfl ?_
    refine s_istore_n (lv' := [some (vr c_mo), some (vi 0), none, none]) hX dX12_hills_324 rfl rfl (Nat.le_of_ble_eq_true rfl) ?_
    obtain ⟨n868, h⟩ := h
    refine t_Mo_hills_L325 hX hq ?_ n868 _ _ h
    intro M865 h
    refine s_aload_n hX dX12_hills_376 rfl ?_
    refine s_iconst (v := 0) hX dX12_hills_377 rfl ?_
    refine s_puti hX fi_X12_230 fp_X12 rfl (by decide +kernel) ly_c_mo rfl dX12_hills_378 ?_
    refine s_iconst (v := 0) hX dX12_hills_381 rfl ?_
    refine s_istore_n (lv' := [some (vr c_mo), some (vi 0), none, none]) hX dX12_hills_382 rfl rfl (Nat.le_of_ble_eq_true rfl) ?_
    obtain ⟨n867, h⟩ := h
    refine t_Mo_hills_L383 hX hq ?_ n867 _ _ h
    intro M866 h
    refine s_iconst (v := 0) hX dX12_hills_401 rfl ?_
    exact s_iret hX hq rfl dX12_hills_402 h
  · replace h := h.2 c
    refine s_aload_n hX dX12_hills_164 rfl ?_
    refine s_getiv (v := (M.1 c_mo Mo_fault)) hX fi_X12_179 ly_c_mo rfl dX12_hills_165 rfl ?_
    exact s_iret hX hq rfl dX12_hills_168 h
def w_Mo_hills (M : Mem) (Q : Int32 → Mem → Prop) : Prop :=
  w_Mo_cutAll (si M c_mo Mo_thrown 0) (fun M674 => w_Mo_standsAsAlways 180 (si (si (si (si (si M674 c_mo Mo_codes 0) c_mo Mo_namesMany 0) c_mo Mo_goesMany 0) c_mo Mo_callsMany 0) c_mo Mo_hasHear 0) (fun M675 => (∃ n874, w_Mo_hills_L43 (fun M676 => (∃ n873, w_Mo_hills_L64 (fun M677 => w_Mo_takeWord 0 M677 (fun M683 => w_Mo_takeNumber 2 8 M683 (fun r687 M686 => (vp_in 180 360 ∧ w_Mo_takeNumber 2 8 (si M686 c_mo_lands (Int32.toNatClampNeg 180) r687) (fun r689 M688 => (vp_in 181 360 ∧ w_Mo_takeSign 59 (si M688 c_mo_lands (Int32.toNatClampNeg 181) r689) (fun M693 => (∃ n872, w_Mo_hills_L125 (fun M857 => w_Mo_hills_j157 M857 Q) Q n872 M693)))))))) Q n873 0 M676)) Q n874 0 M675)))
set_option maxHeartbeats 4000000 in
theorem t_Mo_hills {X : Cx} (hX : Cok X cX12_hills RX12 4 ((some .int)) 69 0 0) {Q : Int32 → Mem → Prop} (hq : RI X 0 0 LY Q) {M : Mem} (h : w_Mo_hills M Q) : Wat X 0 0 LY 0 [some (vr c_mo), none, none, none] [] M := by
  refine s_aload_n hX dX12_hills_0 rfl ?_
  refine s_iconst (v := 0) hX dX12_hills_1 rfl ?_
  refine s_puti hX fi_X12_1 fp_X12 rfl (by decide +kernel) ly_c_mo rfl dX12_hills_2 ?_
  refine s_aload_n hX dX12_hills_5 rfl ?_
  refine s_cvv (as := []) (rest := []) hX (c_Mo_cutAll h) mv_Mo_cutAll wd_ml_X12_204 dX12_hills_6 ly_c_mo rfl rfl (Nat.le_of_ble_eq_true rfl) rfl (by decide) ⟨Nat.zero_le _, Nat.zero_le _⟩ (fun M674 h => ?_)
  refine s_aload_n hX dX12_hills_9 rfl ?_
  refine s_iconst (v := 0) hX dX12_hills_10 rfl ?_
  refine s_puti hX fi_X12_207 fp_X12 rfl (by decide +kernel) ly_c_mo rfl dX12_hills_11 ?_
  refine s_aload_n hX dX12_hills_14 rfl ?_
  refine s_iconst (v := 0) hX dX12_hills_15 rfl ?_
  refine s_puti hX fi_X12_201 fp_X12 rfl (by decide +kernel) ly_c_mo rfl dX12_hills_16 ?_
  refine s_aload_n hX dX12_hills_19 rfl ?_
  refine s_iconst (v := 0) hX dX12_hills_20 rfl ?_
  refine s_puti hX fi_X12_210 fp_X12 rfl (by decide +kernel) ly_c_mo rfl dX12_hills_21 ?_
  refine s_aload_n hX dX12_hills_24 rfl ?_
  refine s_iconst (v := 0) hX dX12_hills_25 rfl ?_
  refine s_puti hX fi_X12_213 fp_X12 rfl (by decide +kernel) ly_c_mo rfl dX12_hills_26 ?_
  refine s_aload_n hX dX12_hills_29 rfl ?_
  refine s_iconst (v := 0) hX dX12_hills_30 rfl ?_
  refine s_putz hX fi_X12_216 fp_X12 rfl (by decide +kernel) ⟨rfl, rfl⟩ ly_c_mo rfl dX12_hills_31 ?_
  refine s_aload_n hX dX12_hills_34 rfl ?_
  refine s_sipush (v := 180) hX dX12_hills_35 rfl ?_
  refine s_cvv (as := [vi 180]) (rest := []) hX (c_Mo_standsAsAlways h) mv_Mo_standsAsAlways wd_ml_X12_149 dX12_hills_38 ly_c_mo rfl rfl (Nat.le_of_ble_eq_true rfl) rfl (by decide) ⟨Nat.zero_le _, Nat.zero_le _⟩ (fun M675 h => ?_)
  refine s_iconst (v := 0) hX dX12_hills_41 rfl ?_
  refine s_istore_n (lv' := [some (vr c_mo), some (vi 0), none, none]) hX dX12_hills_42 rfl rfl (Nat.le_of_ble_eq_true rfl) ?_
  obtain ⟨n874, h⟩ := h
  refine t_Mo_hills_L43 hX hq ?_ n874 _ _ h
  intro M676 h
  refine s_iconst (v := 0) hX dX12_hills_62 rfl ?_
  refine s_istore_n (lv' := [some (vr c_mo), some (vi 0), none, none]) hX dX12_hills_63 rfl rfl (Nat.le_of_ble_eq_true rfl) ?_
  obtain ⟨n873, h⟩ := h
  refine t_Mo_hills_L64 hX hq ?_ n873 _ _ h
  intro M677 h
  refine s_aload_n hX dX12_hills_84 rfl ?_
  refine s_iconst (v := 0) hX dX12_hills_85 rfl ?_
  refine s_cvv (as := [vi 0]) (rest := []) hX (c_Mo_takeWord h) mv_Mo_takeWord wd_ml_X12_194 dX12_hills_86 ly_c_mo rfl rfl (Nat.le_of_ble_eq_true rfl) rfl (by decide) ⟨Nat.zero_le _, Nat.zero_le _⟩ (fun M683 h => ?_)
  refine s_aload_n hX dX12_hills_89 rfl ?_
  refine s_getr hX fi_X12_85 ly_c_mo rfl dX12_hills_90 ?_
  refine s_sipush (v := 180) hX dX12_hills_93 rfl ?_
  refine s_aload_n hX dX12_hills_96 rfl ?_
  refine s_iconst (v := 2) hX dX12_hills_97 rfl ?_
  refine s_bipush (v := 8) hX dX12_hills_98 rfl ?_
  refine s_cvi (as := [vi 2, vi 8]) (rest := [vi 180, vr c_mo_lands]) hX (c_Mo_takeNumber h) mv_Mo_takeNumber wd_ml_X12_197 dX12_hills_100 ly_c_mo rfl rfl (Nat.le_of_ble_eq_true rfl) rfl (by decide) ⟨Nat.zero_le _, Nat.zero_le _⟩ (fun r687 M686 h => ?_)
  have hi := h.1
  replace h := h.2
  refine s_iast hX ly_c_mo_lands hi dX12_hills_103 ?_
  refine s_aload_n hX dX12_hills_104 rfl ?_
  refine s_getr hX fi_X12_85 ly_c_mo rfl dX12_hills_105 ?_
  refine s_sipush (v := 181) hX dX12_hills_108 rfl ?_
  refine s_aload_n hX dX12_hills_111 rfl ?_
  refine s_iconst (v := 2) hX dX12_hills_112 rfl ?_
  refine s_bipush (v := 8) hX dX12_hills_113 rfl ?_
  refine s_cvi (as := [vi 2, vi 8]) (rest := [vi 181, vr c_mo_lands]) hX (c_Mo_takeNumber h) mv_Mo_takeNumber wd_ml_X12_197 dX12_hills_115 ly_c_mo rfl rfl (Nat.le_of_ble_eq_true rfl) rfl (by decide) ⟨Nat.zero_le _, Nat.zero_le _⟩ (fun r689 M688 h => ?_)
  have hi := h.1
  replace h := h.2
  refine s_iast hX ly_c_mo_lands hi dX12_hills_118 ?_
  refine s_aload_n hX dX12_hills_119 rfl ?_
  refine s_bipush (v := 59) hX dX12_hills_120 rfl ?_
  refine s_cvv (as := [vi 59]) (rest := []) hX (c_Mo_takeSign h) mv_Mo_takeSign wd_ml_X12_220 dX12_hills_122 ly_c_mo rfl rfl (Nat.le_of_ble_eq_true rfl) rfl (by decide) ⟨Nat.zero_le _, Nat.zero_le _⟩ (fun M693 h => ?_)
  obtain ⟨n872, h⟩ := h
  refine t_Mo_hills_L125 hX hq ?_ n872 _ h
  intro M857 h
  exact t_Mo_hills_j157 hX hq h
theorem c_Mo_hills {M : Mem} {Q : Int32 → Mem → Prop} (h : w_Mo_hills M Q) : CI yX12_hills cX12_hills 4 ((some .int)) 69 0 0 LY LY [vr c_mo] M Q := mk_i rfl wd_co_X12_hills rfl rfl (Nat.le_of_ble_eq_true rfl) (fun X hX hq => t_Mo_hills hX hq h)
theorem mv_Mo_hills : MV yX12_hills cX12_hills 4 ((some .int)) RX12 0 := ⟨wd_co_X12_hills, wd_im_X12_hills, wd_se_X12_hills, wd_in_X12, by decide +kernel, by decide⟩
def w_Mo_isPerson (a0 : Int32) (M : Mem) (Q : Bool → Mem → Prop) : Prop :=
  ((a0 < 0 → Q false M) ∧ (¬ a0 < 0 → w_Mo_persons M (fun r876 M875 => (∃ bb : Bool, (if r876 ≤ a0 then (0 : Int32) else 1) = b2i bb ∧ Q bb M875))))
set_option maxHeartbeats 4000000 in
theorem t_Mo_isPerson {X : Cx} (hX : Cok X cX12_isPerson RX12 2 ((some .boolean)) 2 0 0) {Q : Bool → Mem → Prop} (hq : RI X 0 0 LY (bQ Q)) {M : Mem} {a0 : Int32} (h : w_Mo_isPerson a0 M Q) : Wat X 0 0 LY 0 [some (vr c_mo), some (vi a0)] [] M := by
  refine s_iload_n hX dX12_isPerson_0 rfl ?_
  refine s_if_lt (tgt := 16) hX dX12_isPerson_1 (by decide) (fun c => ?_) (fun c => ?_)
  · replace h := h.1 c
    refine s_iconst (v := 0) hX dX12_isPerson_16 rfl ?_
    exact s_zret hX false hq rfl dX12_isPerson_17 rfl h
  · replace h := h.2 c
    refine s_iload_n hX dX12_isPerson_4 rfl ?_
    refine s_aload_n hX dX12_isPerson_5 rfl ?_
    refine s_cvi (as := []) (rest := [vi a0]) hX (c_Mo_persons h) mv_Mo_persons wd_ml_X12_226 dX12_isPerson_6 ly_c_mo rfl rfl (Nat.le_of_ble_eq_true rfl) rfl (by decide) ⟨Nat.zero_le _, Nat.zero_le _⟩ (fun r876 M875 h => ?_)
    have hJ : Wat X 0 0 LY 17 [some (vr c_mo), some (vi a0)] [vi (if r876 ≤ a0 then (0 : Int32) else 1)] M875 := by
      obtain ⟨bb, hbb, h⟩ := h
      exact s_zret hX bb hq rfl dX12_isPerson_17 hbb h
    refine s_icmp_ge (tgt := 16) hX dX12_isPerson_9 (by decide) (fun c => ?_) (fun c => ?_)
    · rw [if_pos c] at hJ
      refine s_iconst (v := 0) hX dX12_isPerson_16 rfl ?_
      exact hJ
    · rw [if_neg c] at hJ
      refine s_iconst (v := 1) hX dX12_isPerson_12 rfl ?_
      refine s_goto (tgt := 17) hX dX12_isPerson_13 (by decide) ?_
      exact hJ
theorem c_Mo_isPerson {a0 : Int32} {M : Mem} {Q : Bool → Mem → Prop} (h : w_Mo_isPerson a0 M Q) : CI yX12_isPerson cX12_isPerson 2 ((some .boolean)) 2 0 0 LY LY [vr c_mo, vi a0] M (bQ Q) := mk_i rfl wd_co_X12_isPerson rfl rfl (Nat.le_of_ble_eq_true rfl) (fun X hX hq => t_Mo_isPerson hX hq h)
theorem mv_Mo_isPerson : MV yX12_isPerson cX12_isPerson 2 ((some .boolean)) RX12 1 := ⟨wd_co_X12_isPerson, wd_im_X12_isPerson, wd_se_X12_isPerson, wd_in_X12, by decide +kernel, by decide⟩
def w_Mo_within (a0 : Int32) (a1 : Int32) (a2 : Int32) (M : Mem) (Q : Bool → Mem → Prop) : Prop :=
  ((a0 < a1 → Q false M) ∧ (¬ a0 < a1 → (∃ bb : Bool, (if a2 < a0 then (0 : Int32) else 1) = b2i bb ∧ Q bb M)))
set_option maxHeartbeats 4000000 in
theorem t_Mo_within {X : Cx} (hX : Cok X cX12_within RX12 3 ((some .boolean)) 1 0 0) {Q : Bool → Mem → Prop} (hq : RI X 0 0 LY (bQ Q)) {M : Mem} {a0 : Int32} {a1 : Int32} {a2 : Int32} (h : w_Mo_within a0 a1 a2 M Q) : Wat X 0 0 LY 0 [some (vi a0), some (vi a1), some (vi a2)] [] M := by
  refine s_iload_n hX dX12_within_0 rfl ?_
  refine s_iload_n hX dX12_within_1 rfl ?_
  refine s_icmp_lt (tgt := 14) hX dX12_within_2 (by decide) (fun c => ?_) (fun c => ?_)
  · replace h := h.1 c
    refine s_iconst (v := 0) hX dX12_within_14 rfl ?_
    exact s_zret hX false hq rfl dX12_within_15 rfl h
  · replace h := h.2 c
    refine s_iload_n hX dX12_within_5 rfl ?_
    refine s_iload_n hX dX12_within_6 rfl ?_
    have hJ : Wat X 0 0 LY 15 [some (vi a0), some (vi a1), some (vi a2)] [vi (if a2 < a0 then (0 : Int32) else 1)] M := by
      obtain ⟨bb, hbb, h⟩ := h
      exact s_zret hX bb hq rfl dX12_within_15 hbb h
    refine s_icmp_gt (tgt := 14) hX dX12_within_7 (by decide) (fun c => ?_) (fun c => ?_)
    · rw [if_pos c] at hJ
      refine s_iconst (v := 0) hX dX12_within_14 rfl ?_
      exact hJ
    · rw [if_neg c] at hJ
      refine s_iconst (v := 1) hX dX12_within_10 rfl ?_
      refine s_goto (tgt := 15) hX dX12_within_11 (by decide) ?_
      exact hJ
theorem c_Mo_within {a0 : Int32} {a1 : Int32} {a2 : Int32} {M : Mem} {Q : Bool → Mem → Prop} (h : w_Mo_within a0 a1 a2 M Q) : CI yX12_within cX12_within 3 ((some .boolean)) 1 0 0 LY LY [vi a0, vi a1, vi a2] M (bQ Q) := mk_i rfl wd_co_X12_within rfl rfl (Nat.le_of_ble_eq_true rfl) (fun X hX hq => t_Mo_within hX hq h)
theorem ms_Mo_within : MS yX12_within cX12_within 3 ((some .boolean)) 3 := ⟨wd_co_X12_within, wd_sm_X12_within, wd_in_X12, by decide +kernel, by decide⟩
def w_Mo_person (a0 : Int32) (a1 : Int32) (M : Mem) (Q : Int32 → Mem → Prop) : Prop :=
  w_Mo_isPerson a0 (si M c_mo Mo_thrown 0) (fun b878 M877 => ((b878 = false → Q (-1) M877) ∧ (b878 = true → w_Mo_within a1 0 1 M877 (fun b880 M879 => ((b880 = false → Q (-1) M879) ∧ (b880 = true → (vp_in ((7 + (2 * a0)) + a1) 360 ∧ Q (M879.1 c_mo_lands (Int32.toNatClampNeg ((7 + (2 * a0)) + a1))) M879)))))))
set_option maxHeartbeats 4000000 in
theorem t_Mo_person {X : Cx} (hX : Cok X cX12_person RX12 3 ((some .int)) 3 0 0) {Q : Int32 → Mem → Prop} (hq : RI X 0 0 LY Q) {M : Mem} {a0 : Int32} {a1 : Int32} (h : w_Mo_person a0 a1 M Q) : Wat X 0 0 LY 0 [some (vr c_mo), some (vi a0), some (vi a1)] [] M := by
  refine s_aload_n hX dX12_person_0 rfl ?_
  refine s_iconst (v := 0) hX dX12_person_1 rfl ?_
  refine s_puti hX fi_X12_1 fp_X12 rfl (by decide +kernel) ly_c_mo rfl dX12_person_2 ?_
  refine s_aload_n hX dX12_person_5 rfl ?_
  refine s_iload_n hX dX12_person_6 rfl ?_
  refine s_cvi (as := [vi a0]) (rest := []) hX (c_Mo_isPerson h) mv_Mo_isPerson wd_ml_X12_352 dX12_person_7 ly_c_mo rfl rfl (Nat.le_of_ble_eq_true rfl) rfl (by decide) ⟨Nat.zero_le _, Nat.zero_le _⟩ (fun b878_ M877 h => ?_)
  obtain ⟨b878, rfl, h⟩ := h
  refine s_if_eq (tgt := 38) hX dX12_person_10 (by decide) (fun c => ?_) (fun c => ?_)
  · replace h := h.1 (b2i_0 c)
    refine s_iconst (v := (-1)) hX dX12_person_38 rfl ?_
    exact s_iret hX hq rfl dX12_person_39 h
  · replace h := h.2 (b2i_1 c)
    refine s_iload_n hX dX12_person_13 rfl ?_
    refine s_iconst (v := 0) hX dX12_person_14 rfl ?_
    refine s_iconst (v := 1) hX dX12_person_15 rfl ?_
    refine s_csi (as := [vi a1, vi 0, vi 1]) (rest := []) hX (c_Mo_within h) ms_Mo_within wd_ml_X12_355 dX12_person_16 rfl (Nat.le_of_ble_eq_true rfl) rfl (by decide) ⟨Nat.zero_le _, Nat.zero_le _⟩ (fun b880_ M879 h => ?_)
    obtain ⟨b880, rfl, h⟩ := h
    refine s_if_eq (tgt := 38) hX dX12_person_19 (by decide) (fun c => ?_) (fun c => ?_)
    · replace h := h.1 (b2i_0 c)
      refine s_iconst (v := (-1)) hX dX12_person_38 rfl ?_
      exact s_iret hX hq rfl dX12_person_39 h
    · replace h := h.2 (b2i_1 c)
      refine s_aload_n hX dX12_person_22 rfl ?_
      refine s_getr hX fi_X12_85 ly_c_mo rfl dX12_person_23 ?_
      refine s_bipush (v := 7) hX dX12_person_26 rfl ?_
      refine s_iconst (v := 2) hX dX12_person_28 rfl ?_
      refine s_iload_n hX dX12_person_29 rfl ?_
      refine s_imul hX dX12_person_30 ?_
      refine s_iadd hX dX12_person_31 ?_
      refine s_iload_n hX dX12_person_32 rfl ?_
      refine s_iadd hX dX12_person_33 ?_
      have hi := h.1
      replace h := h.2
      refine s_ialdv (v := (M879.1 c_mo_lands (Int32.toNatClampNeg ((7 + (2 * a0)) + a1)))) hX ly_c_mo_lands hi dX12_person_34 rfl ?_
      refine s_goto (tgt := 39) hX dX12_person_35 (by decide) ?_
      exact s_iret hX hq rfl dX12_person_39 h
theorem c_Mo_person {a0 : Int32} {a1 : Int32} {M : Mem} {Q : Int32 → Mem → Prop} (h : w_Mo_person a0 a1 M Q) : CI yX12_person cX12_person 3 ((some .int)) 3 0 0 LY LY [vr c_mo, vi a0, vi a1] M Q := mk_i rfl wd_co_X12_person rfl rfl (Nat.le_of_ble_eq_true rfl) (fun X hX hq => t_Mo_person hX hq h)
theorem mv_Mo_person : MV yX12_person cX12_person 3 ((some .int)) RX12 2 := ⟨wd_co_X12_person, wd_im_X12_person, wd_se_X12_person, wd_in_X12, by decide +kernel, by decide⟩
def w_Mo_isHour (a0 : Int32) (M : Mem) (Q : Bool → Mem → Prop) : Prop :=
  ((a0 < 0 → Q false M) ∧ (¬ a0 < 0 → (∃ bb : Bool, (if 24 ≤ a0 then (0 : Int32) else 1) = b2i bb ∧ Q bb M)))
set_option maxHeartbeats 4000000 in
theorem t_Mo_isHour {X : Cx} (hX : Cok X cX12_isHour RX12 1 ((some .boolean)) 1 0 0) {Q : Bool → Mem → Prop} (hq : RI X 0 0 LY (bQ Q)) {M : Mem} {a0 : Int32} (h : w_Mo_isHour a0 M Q) : Wat X 0 0 LY 0 [some (vi a0)] [] M := by
  refine s_iload_n hX dX12_isHour_0 rfl ?_
  refine s_if_lt (tgt := 14) hX dX12_isHour_1 (by decide) (fun c => ?_) (fun c => ?_)
  · replace h := h.1 c
    refine s_iconst (v := 0) hX dX12_isHour_14 rfl ?_
    exact s_zret hX false hq rfl dX12_isHour_15 rfl h
  · replace h := h.2 c
    refine s_iload_n hX dX12_isHour_4 rfl ?_
    refine s_bipush (v := 24) hX dX12_isHour_5 rfl ?_
    have hJ : Wat X 0 0 LY 15 [some (vi a0)] [vi (if 24 ≤ a0 then (0 : Int32) else 1)] M := by
      obtain ⟨bb, hbb, h⟩ := h
      exact s_zret hX bb hq rfl dX12_isHour_15 hbb h
    refine s_icmp_ge (tgt := 14) hX dX12_isHour_7 (by decide) (fun c => ?_) (fun c => ?_)
    · rw [if_pos c] at hJ
      refine s_iconst (v := 0) hX dX12_isHour_14 rfl ?_
      exact hJ
    · rw [if_neg c] at hJ
      refine s_iconst (v := 1) hX dX12_isHour_10 rfl ?_
      refine s_goto (tgt := 15) hX dX12_isHour_11 (by decide) ?_
      exact hJ
theorem c_Mo_isHour {a0 : Int32} {M : Mem} {Q : Bool → Mem → Prop} (h : w_Mo_isHour a0 M Q) : CI yX12_isHour cX12_isHour 1 ((some .boolean)) 1 0 0 LY LY [vi a0] M (bQ Q) := mk_i rfl wd_co_X12_isHour rfl rfl (Nat.le_of_ble_eq_true rfl) (fun X hX hq => t_Mo_isHour hX hq h)
theorem ms_Mo_isHour : MS yX12_isHour cX12_isHour 1 ((some .boolean)) 1 := ⟨wd_co_X12_isHour, wd_sm_X12_isHour, wd_in_X12, by decide +kernel, by decide⟩
def w_Mo_place (a0 : Int32) (a1 : Int32) (M : Mem) (Q : Int32 → Mem → Prop) : Prop :=
  w_Mo_isPerson a0 (si M c_mo Mo_thrown 0) (fun b882 M881 => ((b882 = false → Q (-1) M881) ∧ (b882 = true → w_Mo_isHour a1 M881 (fun b884 M883 => ((b884 = false → Q (-1) M883) ∧ (b884 = true → (vp_in ((19 + (24 * a0)) + a1) 360 ∧ Q (M883.1 c_mo_lands (Int32.toNatClampNeg ((19 + (24 * a0)) + a1))) M883)))))))
set_option maxHeartbeats 4000000 in
theorem t_Mo_place {X : Cx} (hX : Cok X cX12_place RX12 3 ((some .int)) 3 0 0) {Q : Int32 → Mem → Prop} (hq : RI X 0 0 LY Q) {M : Mem} {a0 : Int32} {a1 : Int32} (h : w_Mo_place a0 a1 M Q) : Wat X 0 0 LY 0 [some (vr c_mo), some (vi a0), some (vi a1)] [] M := by
  refine s_aload_n hX dX12_place_0 rfl ?_
  refine s_iconst (v := 0) hX dX12_place_1 rfl ?_
  refine s_puti hX fi_X12_1 fp_X12 rfl (by decide +kernel) ly_c_mo rfl dX12_place_2 ?_
  refine s_aload_n hX dX12_place_5 rfl ?_
  refine s_iload_n hX dX12_place_6 rfl ?_
  refine s_cvi (as := [vi a0]) (rest := []) hX (c_Mo_isPerson h) mv_Mo_isPerson wd_ml_X12_352 dX12_place_7 ly_c_mo rfl rfl (Nat.le_of_ble_eq_true rfl) rfl (by decide) ⟨Nat.zero_le _, Nat.zero_le _⟩ (fun b882_ M881 h => ?_)
  obtain ⟨b882, rfl, h⟩ := h
  refine s_if_eq (tgt := 37) hX dX12_place_10 (by decide) (fun c => ?_) (fun c => ?_)
  · replace h := h.1 (b2i_0 c)
    refine s_iconst (v := (-1)) hX dX12_place_37 rfl ?_
    exact s_iret hX hq rfl dX12_place_38 h
  · replace h := h.2 (b2i_1 c)
    refine s_iload_n hX dX12_place_13 rfl ?_
    refine s_csi (as := [vi a1]) (rest := []) hX (c_Mo_isHour h) ms_Mo_isHour wd_ml_X12_358 dX12_place_14 rfl (Nat.le_of_ble_eq_true rfl) rfl (by decide) ⟨Nat.zero_le _, Nat.zero_le _⟩ (fun b884_ M883 h => ?_)
    obtain ⟨b884, rfl, h⟩ := h
    refine s_if_eq (tgt := 37) hX dX12_place_17 (by decide) (fun c => ?_) (fun c => ?_)
    · replace h := h.1 (b2i_0 c)
      refine s_iconst (v := (-1)) hX dX12_place_37 rfl ?_
      exact s_iret hX hq rfl dX12_place_38 h
    · replace h := h.2 (b2i_1 c)
      refine s_aload_n hX dX12_place_20 rfl ?_
      refine s_getr hX fi_X12_85 ly_c_mo rfl dX12_place_21 ?_
      refine s_bipush (v := 19) hX dX12_place_24 rfl ?_
      refine s_bipush (v := 24) hX dX12_place_26 rfl ?_
      refine s_iload_n hX dX12_place_28 rfl ?_
      refine s_imul hX dX12_place_29 ?_
      refine s_iadd hX dX12_place_30 ?_
      refine s_iload_n hX dX12_place_31 rfl ?_
      refine s_iadd hX dX12_place_32 ?_
      have hi := h.1
      replace h := h.2
      refine s_ialdv (v := (M883.1 c_mo_lands (Int32.toNatClampNeg ((19 + (24 * a0)) + a1)))) hX ly_c_mo_lands hi dX12_place_33 rfl ?_
      refine s_goto (tgt := 38) hX dX12_place_34 (by decide) ?_
      exact s_iret hX hq rfl dX12_place_38 h
theorem c_Mo_place {a0 : Int32} {a1 : Int32} {M : Mem} {Q : Int32 → Mem → Prop} (h : w_Mo_place a0 a1 M Q) : CI yX12_place cX12_place 3 ((some .int)) 3 0 0 LY LY [vr c_mo, vi a0, vi a1] M Q := mk_i rfl wd_co_X12_place rfl rfl (Nat.le_of_ble_eq_true rfl) (fun X hX hq => t_Mo_place hX hq h)
theorem mv_Mo_place : MV yX12_place cX12_place 3 ((some .int)) RX12 2 := ⟨wd_co_X12_place, wd_im_X12_place, wd_se_X12_place, wd_in_X12, by decide +kernel, by decide⟩
def w_Mo_birds (M : Mem) (Q : Int32 → Mem → Prop) : Prop :=
  (vp_in 3 360 ∧ Q (M.1 c_mo_lands (Int32.toNatClampNeg 3)) M)
set_option maxHeartbeats 4000000 in
theorem t_Mo_birds {X : Cx} (hX : Cok X cX12_birds RX12 1 ((some .int)) 1 0 0) {Q : Int32 → Mem → Prop} (hq : RI X 0 0 LY Q) {M : Mem} (h : w_Mo_birds M Q) : Wat X 0 0 LY 0 [some (vr c_mo)] [] M := by
  refine s_aload_n hX dX12_birds_0 rfl ?_
  refine s_getr hX fi_X12_85 ly_c_mo rfl dX12_birds_1 ?_
  refine s_iconst (v := 3) hX dX12_birds_4 rfl ?_
  have hi := h.1
  replace h := h.2
  refine s_ialdv (v := (M.1 c_mo_lands (Int32.toNatClampNeg 3))) hX ly_c_mo_lands hi dX12_birds_5 rfl ?_
  exact s_iret hX hq rfl dX12_birds_6 h
theorem c_Mo_birds {M : Mem} {Q : Int32 → Mem → Prop} (h : w_Mo_birds M Q) : CI yX12_birds cX12_birds 1 ((some .int)) 1 0 0 LY LY [vr c_mo] M Q := mk_i rfl wd_co_X12_birds rfl rfl (Nat.le_of_ble_eq_true rfl) (fun X hX hq => t_Mo_birds hX hq h)
theorem mv_Mo_birds : MV yX12_birds cX12_birds 1 ((some .int)) RX12 0 := ⟨wd_co_X12_birds, wd_im_X12_birds, wd_se_X12_birds, wd_in_X12, by decide +kernel, by decide⟩
def w_Mo_isBird (a0 : Int32) (M : Mem) (Q : Bool → Mem → Prop) : Prop :=
  ((a0 < 0 → Q false M) ∧ (¬ a0 < 0 → w_Mo_birds M (fun r886 M885 => (∃ bb : Bool, (if r886 ≤ a0 then (0 : Int32) else 1) = b2i bb ∧ Q bb M885))))
set_option maxHeartbeats 4000000 in
theorem t_Mo_isBird {X : Cx} (hX : Cok X cX12_isBird RX12 2 ((some .boolean)) 2 0 0) {Q : Bool → Mem → Prop} (hq : RI X 0 0 LY (bQ Q)) {M : Mem} {a0 : Int32} (h : w_Mo_isBird a0 M Q) : Wat X 0 0 LY 0 [some (vr c_mo), some (vi a0)] [] M := by
  refine s_iload_n hX dX12_isBird_0 rfl ?_
  refine s_if_lt (tgt := 16) hX dX12_isBird_1 (by decide) (fun c => ?_) (fun c => ?_)
  · replace h := h.1 c
    refine s_iconst (v := 0) hX dX12_isBird_16 rfl ?_
    exact s_zret hX false hq rfl dX12_isBird_17 rfl h
  · replace h := h.2 c
    refine s_iload_n hX dX12_isBird_4 rfl ?_
    refine s_aload_n hX dX12_isBird_5 rfl ?_
    refine s_cvi (as := []) (rest := [vi a0]) hX (c_Mo_birds h) mv_Mo_birds wd_ml_X12_311 dX12_isBird_6 ly_c_mo rfl rfl (Nat.le_of_ble_eq_true rfl) rfl (by decide) ⟨Nat.zero_le _, Nat.zero_le _⟩ (fun r886 M885 h => ?_)
    have hJ : Wat X 0 0 LY 17 [some (vr c_mo), some (vi a0)] [vi (if r886 ≤ a0 then (0 : Int32) else 1)] M885 := by
      obtain ⟨bb, hbb, h⟩ := h
      exact s_zret hX bb hq rfl dX12_isBird_17 hbb h
    refine s_icmp_ge (tgt := 16) hX dX12_isBird_9 (by decide) (fun c => ?_) (fun c => ?_)
    · rw [if_pos c] at hJ
      refine s_iconst (v := 0) hX dX12_isBird_16 rfl ?_
      exact hJ
    · rw [if_neg c] at hJ
      refine s_iconst (v := 1) hX dX12_isBird_12 rfl ?_
      refine s_goto (tgt := 17) hX dX12_isBird_13 (by decide) ?_
      exact hJ
theorem c_Mo_isBird {a0 : Int32} {M : Mem} {Q : Bool → Mem → Prop} (h : w_Mo_isBird a0 M Q) : CI yX12_isBird cX12_isBird 2 ((some .boolean)) 2 0 0 LY LY [vr c_mo, vi a0] M (bQ Q) := mk_i rfl wd_co_X12_isBird rfl rfl (Nat.le_of_ble_eq_true rfl) (fun X hX hq => t_Mo_isBird hX hq h)
theorem mv_Mo_isBird : MV yX12_isBird cX12_isBird 2 ((some .boolean)) RX12 1 := ⟨wd_co_X12_isBird, wd_im_X12_isBird, wd_se_X12_isBird, wd_in_X12, by decide +kernel, by decide⟩
def w_Mo_isShot (a0 : Int32) (M : Mem) (Q : Bool → Mem → Prop) : Prop :=
  (vp_in 120 3200 ∧ (∃ bb : Bool, (if (((M.1 c_mo_state (Int32.toNatClampNeg 120)) >>> (a0 &&& 31)) &&& 1) = 1 then (1 : Int32) else 0) = b2i bb ∧ Q bb M))
set_option maxHeartbeats 4000000 in
theorem t_Mo_isShot {X : Cx} (hX : Cok X cX12_isShot RX12 2 ((some .boolean)) 1 0 0) {Q : Bool → Mem → Prop} (hq : RI X 0 0 LY (bQ Q)) {M : Mem} {a0 : Int32} (h : w_Mo_isShot a0 M Q) : Wat X 0 0 LY 0 [some (vr c_mo), some (vi a0)] [] M := by
  refine s_aload_n hX dX12_isShot_0 rfl ?_
  refine s_getr hX fi_X12_115 ly_c_mo rfl dX12_isShot_1 ?_
  refine s_bipush (v := 120) hX dX12_isShot_4 rfl ?_
  have hi := h.1
  replace h := h.2
  refine s_ialdv (v := (M.1 c_mo_state (Int32.toNatClampNeg 120))) hX ly_c_mo_state hi dX12_isShot_6 rfl ?_
  refine s_iload_n hX dX12_isShot_7 rfl ?_
  refine s_ishr hX dX12_isShot_8 ?_
  refine s_iconst (v := 1) hX dX12_isShot_9 rfl ?_
  refine s_iand hX dX12_isShot_10 ?_
  refine s_iconst (v := 1) hX dX12_isShot_11 rfl ?_
  have hJ : Wat X 0 0 LY 20 [some (vr c_mo), some (vi a0)] [vi (if (((M.1 c_mo_state (Int32.toNatClampNeg 120)) >>> (a0 &&& 31)) &&& 1) = 1 then (1 : Int32) else 0)] M := by
    obtain ⟨bb, hbb, h⟩ := h
    exact s_zret hX bb hq rfl dX12_isShot_20 hbb h
  refine s_icmp_ne (tgt := 19) hX dX12_isShot_12 (by decide) (fun c => ?_) (fun c => ?_)
  · rw [if_neg c] at hJ
    refine s_iconst (v := 0) hX dX12_isShot_19 rfl ?_
    exact hJ
  · rw [if_pos c] at hJ
    refine s_iconst (v := 1) hX dX12_isShot_15 rfl ?_
    refine s_goto (tgt := 20) hX dX12_isShot_16 (by decide) ?_
    exact hJ
theorem c_Mo_isShot {a0 : Int32} {M : Mem} {Q : Bool → Mem → Prop} (h : w_Mo_isShot a0 M Q) : CI yX12_isShot cX12_isShot 2 ((some .boolean)) 1 0 0 LY LY [vr c_mo, vi a0] M (bQ Q) := mk_i rfl wd_co_X12_isShot rfl rfl (Nat.le_of_ble_eq_true rfl) (fun X hX hq => t_Mo_isShot hX hq h)
theorem mv_Mo_isShot : MV yX12_isShot cX12_isShot 2 ((some .boolean)) RX12 1 := ⟨wd_co_X12_isShot, wd_im_X12_isShot, wd_se_X12_isShot, wd_in_X12, by decide +kernel, by decide⟩
def w_Mo_bird_L29 (l1 : Int32) (l2 : Int32) (K : Int32 → Mem → Prop) (Q : Int32 → Mem → Prop) : Nat → Int32 → Int32 → Mem → Prop
  | 0, _, _, _ => False
  | n + 1, l3, l4, M => ((24 ≤ l4 → K l3 M) ∧ (¬ 24 ≤ l4 → (vp_in ((24 * l1) + l4) 3200 ∧ ∀ x891 : Int32, x891 = (l3 + (M.1 c_mo_state (Int32.toNatClampNeg ((24 * l1) + l4)))) → w_Mo_bird_L29 l1 l2 K Q n x891 (l4 + 1) M)))
set_option maxHeartbeats 4000000 in
theorem t_Mo_bird_L29 {X : Cx} (hX : Cok X cX12_bird RX12 5 ((some .int)) 3 0 0) {Q : Int32 → Mem → Prop} (hq : RI X 0 0 LY Q) {l1 : Int32} {l2 : Int32} {K : Int32 → Mem → Prop} (hK : ∀ (l3 : Int32) (M : Mem), K l3 M → Wat X 0 0 LY 57 [some (vr c_mo), some (vi l1), some (vi l2), some (vi l3), none] [] M) : ∀ (n : Nat) (l3 : Int32) (l4 : Int32) (M : Mem), w_Mo_bird_L29 l1 l2 K Q n l3 l4 M → Wat X 0 0 LY 29 [some (vr c_mo), some (vi l1), some (vi l2), some (vi l3), some (vi l4)] [] M := by
  intro n
  induction n with
  | zero => intro _ _ _ h; exact h.elim
  | succ n ih =>
    intro l3 l4 M h
    refine s_iload hX dX12_bird_29 rfl ?_
    refine s_bipush (v := 24) hX dX12_bird_31 rfl ?_
    refine s_icmp_ge (tgt := 57) hX dX12_bird_33 (by decide) (fun c => ?_) (fun c => ?_)
    · replace h := h.1 c
      refine s_mask [true, true, true, true, false] (lv' := [some (vr c_mo), some (vi l1), some (vi l2), some (vi l3), none]) rfl rfl ?_
      exact hK _ _ h
    · replace h := h.2 c
      refine s_iload_n hX dX12_bird_36 rfl ?_
      refine s_aload_n hX dX12_bird_37 rfl ?_
      refine s_getr hX fi_X12_115 ly_c_mo rfl dX12_bird_38 ?_
      refine s_bipush (v := 24) hX dX12_bird_41 rfl ?_
      refine s_iload_n hX dX12_bird_43 rfl ?_
      refine s_imul hX dX12_bird_44 ?_
      refine s_iload hX dX12_bird_45 rfl ?_
      refine s_iadd hX dX12_bird_47 ?_
      have hi := h.1
      replace h := h.2
      refine s_ialdv (v := (M.1 c_mo_state (Int32.toNatClampNeg ((24 * l1) + l4)))) hX ly_c_mo_state hi dX12_bird_48 rfl ?_
      refine s_iadd hX dX12_bird_49 ?_
      refine s_nmi (fun x891 ex891 => ?_)
      replace h := h x891 ex891
      refine s_istore_n (lv' := [some (vr c_mo), some (vi l1), some (vi l2), some (vi x891), some (vi l4)]) hX dX12_bird_50 rfl rfl (Nat.le_of_ble_eq_true rfl) ?_
      refine s_iinc (v := (l4 + 1)) (lv' := [some (vr c_mo), some (vi l1), some (vi l2), some (vi x891), some (vi (l4 + 1))]) hX dX12_bird_51 rfl rfl rfl rfl ?_
      refine s_goto (tgt := 29) hX dX12_bird_54 (by decide) ?_
      exact ih _ _ _ h
def w_Mo_bird (a0 : Int32) (a1 : Int32) (M : Mem) (Q : Int32 → Mem → Prop) : Prop :=
  w_Mo_isBird a0 (si M c_mo Mo_thrown 0) (fun b888 M887 => ((b888 = false → Q (-1) M887) ∧ (b888 = true → w_Mo_within a1 0 2 M887 (fun b890 M889 => ((b890 = true → (∃ n896, w_Mo_bird_L29 a0 a1 (fun y893 M892 => ((¬ a1 = 0 → ((¬ a1 = 1 → Q y893 M892) ∧ (a1 = 1 → w_Mo_isShot a0 M892 (fun b895 M894 => ((b895 = false → Q 0 M894) ∧ (b895 = true → Q 1 M894)))))) ∧ (a1 = 0 → (vp_in (163 + a0) 360 ∧ Q (M892.1 c_mo_lands (Int32.toNatClampNeg (163 + a0))) M892)))) Q n896 0 0 M889)) ∧ (b890 = false → Q (-1) M889))))))
set_option maxHeartbeats 4000000 in
theorem t_Mo_bird {X : Cx} (hX : Cok X cX12_bird RX12 5 ((some .int)) 3 0 0) {Q : Int32 → Mem → Prop} (hq : RI X 0 0 LY Q) {M : Mem} {a0 : Int32} {a1 : Int32} (h : w_Mo_bird a0 a1 M Q) : Wat X 0 0 LY 0 [some (vr c_mo), some (vi a0), some (vi a1), none, none] [] M := by
  refine s_aload_n hX dX12_bird_0 rfl ?_
  refine s_iconst (v := 0) hX dX12_bird_1 rfl ?_
  refine s_puti hX fi_X12_1 fp_X12 rfl (by decide +kernel) ly_c_mo rfl dX12_bird_2 ?_
  refine s_aload_n hX dX12_bird_5 rfl ?_
  refine s_iload_n hX dX12_bird_6 rfl ?_
  refine s_cvi (as := [vi a0]) (rest := []) hX (c_Mo_isBird h) mv_Mo_isBird wd_ml_X12_361 dX12_bird_7 ly_c_mo rfl rfl (Nat.le_of_ble_eq_true rfl) rfl (by decide) ⟨Nat.zero_le _, Nat.zero_le _⟩ (fun b888_ M887 h => ?_)
  obtain ⟨b888, rfl, h⟩ := h
  refine s_if_eq (tgt := 22) hX dX12_bird_10 (by decide) (fun c => ?_) (fun c => ?_)
  · replace h := h.1 (b2i_0 c)
    refine s_iconst (v := (-1)) hX dX12_bird_22 rfl ?_
    exact s_iret hX hq rfl dX12_bird_23 h
  · replace h := h.2 (b2i_1 c)
    refine s_iload_n hX dX12_bird_13 rfl ?_
    refine s_iconst (v := 0) hX dX12_bird_14 rfl ?_
    refine s_iconst (v := 2) hX dX12_bird_15 rfl ?_
    refine s_csi (as := [vi a1, vi 0, vi 2]) (rest := []) hX (c_Mo_within h) ms_Mo_within wd_ml_X12_355 dX12_bird_16 rfl (Nat.le_of_ble_eq_true rfl) rfl (by decide) ⟨Nat.zero_le _, Nat.zero_le _⟩ (fun b890_ M889 h => ?_)
    obtain ⟨b890, rfl, h⟩ := h
    refine s_if_ne (tgt := 24) hX dX12_bird_19 (by decide) (fun c => ?_) (fun c => ?_)
    · replace h := h.1 (b2i_1 c)
      refine s_iconst (v := 0) hX dX12_bird_24 rfl ?_
      refine s_istore_n (lv' := [some (vr c_mo), some (vi a0), some (vi a1), some (vi 0), none]) hX dX12_bird_25 rfl rfl (Nat.le_of_ble_eq_true rfl) ?_
      refine s_iconst (v := 0) hX dX12_bird_26 rfl ?_
      refine s_istore (lv' := [some (vr c_mo), some (vi a0), some (vi a1), some (vi 0), some (vi 0)]) hX dX12_bird_27 rfl rfl (Nat.le_of_ble_eq_true rfl) ?_
      obtain ⟨n896, h⟩ := h
      refine t_Mo_bird_L29 hX hq ?_ n896 _ _ _ h
      intro y893 M892 h
      refine s_iload_n hX dX12_bird_57 rfl ?_
      refine s_if_ne (tgt := 74) hX dX12_bird_58 (by decide) (fun c => ?_) (fun c => ?_)
      · replace h := h.1 c
        refine s_iload_n hX dX12_bird_74 rfl ?_
        refine s_iconst (v := 1) hX dX12_bird_75 rfl ?_
        refine s_icmp_ne (tgt := 95) hX dX12_bird_76 (by decide) (fun c => ?_) (fun c => ?_)
        · replace h := h.1 c
          refine s_iload_n hX dX12_bird_95 rfl ?_
          exact s_iret hX hq rfl dX12_bird_96 h
        · replace h := h.2 c
          refine s_aload_n hX dX12_bird_79 rfl ?_
          refine s_iload_n hX dX12_bird_80 rfl ?_
          refine s_cvi (as := [vi a0]) (rest := []) hX (c_Mo_isShot h) mv_Mo_isShot wd_ml_X12_342 dX12_bird_81 ly_c_mo rfl rfl (Nat.le_of_ble_eq_true rfl) rfl (by decide) ⟨Nat.zero_le _, Nat.zero_le _⟩ (fun b895_ M894 h => ?_)
          obtain ⟨b895, rfl, h⟩ := h
          refine s_if_eq (tgt := 91) hX dX12_bird_84 (by decide) (fun c => ?_) (fun c => ?_)
          · replace h := h.1 (b2i_0 c)
            refine s_iconst (v := 0) hX dX12_bird_91 rfl ?_
            refine s_goto (tgt := 96) hX dX12_bird_92 (by decide) ?_
            exact s_iret hX hq rfl dX12_bird_96 h
          · replace h := h.2 (b2i_1 c)
            refine s_iconst (v := 1) hX dX12_bird_87 rfl ?_
            refine s_goto (tgt := 96) hX dX12_bird_88 (by decide) ?_
            exact s_iret hX hq rfl dX12_bird_96 h
      · replace h := h.2 c
        refine s_aload_n hX dX12_bird_61 rfl ?_
        refine s_getr hX fi_X12_85 ly_c_mo rfl dX12_bird_62 ?_
        refine s_sipush (v := 163) hX dX12_bird_65 rfl ?_
        refine s_iload_n hX dX12_bird_68 rfl ?_
        refine s_iadd hX dX12_bird_69 ?_
        have hi := h.1
        replace h := h.2
        refine s_ialdv (v := (M892.1 c_mo_lands (Int32.toNatClampNeg (163 + a0)))) hX ly_c_mo_lands hi dX12_bird_70 rfl ?_
        refine s_goto (tgt := 96) hX dX12_bird_71 (by decide) ?_
        exact s_iret hX hq rfl dX12_bird_96 h
    · replace h := h.2 (b2i_0 c)
      refine s_iconst (v := (-1)) hX dX12_bird_22 rfl ?_
      exact s_iret hX hq rfl dX12_bird_23 h
theorem c_Mo_bird {a0 : Int32} {a1 : Int32} {M : Mem} {Q : Int32 → Mem → Prop} (h : w_Mo_bird a0 a1 M Q) : CI yX12_bird cX12_bird 5 ((some .int)) 3 0 0 LY LY [vr c_mo, vi a0, vi a1] M Q := mk_i rfl wd_co_X12_bird rfl rfl (Nat.le_of_ble_eq_true rfl) (fun X hX hq => t_Mo_bird hX hq h)
theorem mv_Mo_bird : MV yX12_bird cX12_bird 5 ((some .int)) RX12 2 := ⟨wd_co_X12_bird, wd_im_X12_bird, wd_se_X12_bird, wd_in_X12, by decide +kernel, by decide⟩
def w_Mo_calls (a0 : Int32) (a1 : Int32) (M : Mem) (Q : Int32 → Mem → Prop) : Prop :=
  w_Mo_isBird a0 (si M c_mo Mo_thrown 0) (fun b898 M897 => ((b898 = false → Q (-1) M897) ∧ (b898 = true → w_Mo_isHour a1 M897 (fun b900 M899 => ((b900 = false → Q (-1) M899) ∧ (b900 = true → (vp_in ((24 * a0) + a1) 3200 ∧ Q (M899.1 c_mo_state (Int32.toNatClampNeg ((24 * a0) + a1))) M899)))))))
set_option maxHeartbeats 4000000 in
theorem t_Mo_calls {X : Cx} (hX : Cok X cX12_calls RX12 3 ((some .int)) 3 0 0) {Q : Int32 → Mem → Prop} (hq : RI X 0 0 LY Q) {M : Mem} {a0 : Int32} {a1 : Int32} (h : w_Mo_calls a0 a1 M Q) : Wat X 0 0 LY 0 [some (vr c_mo), some (vi a0), some (vi a1)] [] M := by
  refine s_aload_n hX dX12_calls_0 rfl ?_
  refine s_iconst (v := 0) hX dX12_calls_1 rfl ?_
  refine s_puti hX fi_X12_1 fp_X12 rfl (by decide +kernel) ly_c_mo rfl dX12_calls_2 ?_
  refine s_aload_n hX dX12_calls_5 rfl ?_
  refine s_iload_n hX dX12_calls_6 rfl ?_
  refine s_cvi (as := [vi a0]) (rest := []) hX (c_Mo_isBird h) mv_Mo_isBird wd_ml_X12_361 dX12_calls_7 ly_c_mo rfl rfl (Nat.le_of_ble_eq_true rfl) rfl (by decide) ⟨Nat.zero_le _, Nat.zero_le _⟩ (fun b898_ M897 h => ?_)
  obtain ⟨b898, rfl, h⟩ := h
  refine s_if_eq (tgt := 34) hX dX12_calls_10 (by decide) (fun c => ?_) (fun c => ?_)
  · replace h := h.1 (b2i_0 c)
    refine s_iconst (v := (-1)) hX dX12_calls_34 rfl ?_
    exact s_iret hX hq rfl dX12_calls_35 h
  · replace h := h.2 (b2i_1 c)
    refine s_iload_n hX dX12_calls_13 rfl ?_
    refine s_csi (as := [vi a1]) (rest := []) hX (c_Mo_isHour h) ms_Mo_isHour wd_ml_X12_358 dX12_calls_14 rfl (Nat.le_of_ble_eq_true rfl) rfl (by decide) ⟨Nat.zero_le _, Nat.zero_le _⟩ (fun b900_ M899 h => ?_)
    obtain ⟨b900, rfl, h⟩ := h
    refine s_if_eq (tgt := 34) hX dX12_calls_17 (by decide) (fun c => ?_) (fun c => ?_)
    · replace h := h.1 (b2i_0 c)
      refine s_iconst (v := (-1)) hX dX12_calls_34 rfl ?_
      exact s_iret hX hq rfl dX12_calls_35 h
    · replace h := h.2 (b2i_1 c)
      refine s_aload_n hX dX12_calls_20 rfl ?_
      refine s_getr hX fi_X12_115 ly_c_mo rfl dX12_calls_21 ?_
      refine s_bipush (v := 24) hX dX12_calls_24 rfl ?_
      refine s_iload_n hX dX12_calls_26 rfl ?_
      refine s_imul hX dX12_calls_27 ?_
      refine s_iload_n hX dX12_calls_28 rfl ?_
      refine s_iadd hX dX12_calls_29 ?_
      have hi := h.1
      replace h := h.2
      refine s_ialdv (v := (M899.1 c_mo_state (Int32.toNatClampNeg ((24 * a0) + a1)))) hX ly_c_mo_state hi dX12_calls_30 rfl ?_
      refine s_goto (tgt := 35) hX dX12_calls_31 (by decide) ?_
      exact s_iret hX hq rfl dX12_calls_35 h
theorem c_Mo_calls {a0 : Int32} {a1 : Int32} {M : Mem} {Q : Int32 → Mem → Prop} (h : w_Mo_calls a0 a1 M Q) : CI yX12_calls cX12_calls 3 ((some .int)) 3 0 0 LY LY [vr c_mo, vi a0, vi a1] M Q := mk_i rfl wd_co_X12_calls rfl rfl (Nat.le_of_ble_eq_true rfl) (fun X hX hq => t_Mo_calls hX hq h)
theorem mv_Mo_calls : MV yX12_calls cX12_calls 3 ((some .int)) RX12 2 := ⟨wd_co_X12_calls, wd_im_X12_calls, wd_se_X12_calls, wd_in_X12, by decide +kernel, by decide⟩
def w_Mo_standsAsTold_L2 (K : Mem → Prop) (Q : Mem → Prop) : Nat → Int32 → Mem → Prop
  | 0, _, _ => False
  | n + 1, l1, M => ((6 ≤ l1 → K M) ∧ (¬ 6 ≤ l1 → (vp_in l1 6 ∧ w_Mo_standsAsTold_L2 K Q n (l1 + 1) (si M c_mo_standing (Int32.toNatClampNeg l1) (-1)))))
set_option maxHeartbeats 4000000 in
theorem t_Mo_standsAsTold_L2 {X : Cx} (hX : Cok X cX12_standsAsTold RX12 2 none 1 0 0) {Q : Mem → Prop} (hq : RV X 0 0 LY Q) {K : Mem → Prop} (hK : ∀ (M : Mem), K M → Wat X 0 0 LY 21 [some (vr c_mo), none] [] M) : ∀ (n : Nat) (l1 : Int32) (M : Mem), w_Mo_standsAsTold_L2 K Q n l1 M → Wat X 0 0 LY 2 [some (vr c_mo), some (vi l1)] [] M := by
  intro n
  induction n with
  | zero => intro _ _ h; exact h.elim
  | succ n ih =>
    intro l1 M h
    refine s_iload_n hX dX12_standsAsTold_2 rfl ?_
    refine s_bipush (v := 6) hX dX12_standsAsTold_3 rfl ?_
    refine s_icmp_ge (tgt := 21) hX dX12_standsAsTold_5 (by decide) (fun c => ?_) (fun c => ?_)
    · replace h := h.1 c
      refine s_mask [true, false] (lv' := [some (vr c_mo), none]) rfl rfl ?_
      exact hK _ h
    · replace h := h.2 c
      refine s_aload_n hX dX12_standsAsTold_8 rfl ?_
      refine s_getr hX fi_X12_122 ly_c_mo rfl dX12_standsAsTold_9 ?_
      refine s_iload_n hX dX12_standsAsTold_12 rfl ?_
      refine s_iconst (v := (-1)) hX dX12_standsAsTold_13 rfl ?_
      have hi := h.1
      replace h := h.2
      refine s_iast hX ly_c_mo_standing hi dX12_standsAsTold_14 ?_
      refine s_iinc (v := (l1 + 1)) (lv' := [some (vr c_mo), some (vi (l1 + 1))]) hX dX12_standsAsTold_15 rfl rfl rfl rfl ?_
      refine s_goto (tgt := 2) hX dX12_standsAsTold_18 (by decide) ?_
      exact ih _ _ h
def w_Mo_standsAsTold (M : Mem) (Q : Mem → Prop) : Prop :=
  (∃ n908, w_Mo_standsAsTold_L2 (fun M907 => Q (si (si M907 c_mo Mo_standFrom 24) c_mo Mo_standTo (-1))) Q n908 0 M)
set_option maxHeartbeats 4000000 in
theorem t_Mo_standsAsTold {X : Cx} (hX : Cok X cX12_standsAsTold RX12 2 none 1 0 0) {Q : Mem → Prop} (hq : RV X 0 0 LY Q) {M : Mem} (h : w_Mo_standsAsTold M Q) : Wat X 0 0 LY 0 [some (vr c_mo), none] [] M := by
  refine s_iconst (v := 0) hX dX12_standsAsTold_0 rfl ?_
  refine s_istore_n (lv' := [some (vr c_mo), some (vi 0)]) hX dX12_standsAsTold_1 rfl rfl (Nat.le_of_ble_eq_true rfl) ?_
  obtain ⟨n908, h⟩ := h
  refine t_Mo_standsAsTold_L2 hX hq ?_ n908 _ _ h
  intro M907 h
  refine s_aload_n hX dX12_standsAsTold_21 rfl ?_
  refine s_bipush (v := 24) hX dX12_standsAsTold_22 rfl ?_
  refine s_puti hX fi_X12_125 fp_X12 rfl (by decide +kernel) ly_c_mo rfl dX12_standsAsTold_24 ?_
  refine s_aload_n hX dX12_standsAsTold_27 rfl ?_
  refine s_iconst (v := (-1)) hX dX12_standsAsTold_28 rfl ?_
  refine s_puti hX fi_X12_128 fp_X12 rfl (by decide +kernel) ly_c_mo rfl dX12_standsAsTold_29 ?_
  exact s_vret hX hq rfl dX12_standsAsTold_32 h
theorem c_Mo_standsAsTold {M : Mem} {Q : Mem → Prop} (h : w_Mo_standsAsTold M Q) : CV yX12_standsAsTold cX12_standsAsTold 2 none 1 0 0 LY LY [vr c_mo] M Q := mk_v rfl wd_co_X12_standsAsTold rfl rfl (Nat.le_of_ble_eq_true rfl) (fun X hX hq => t_Mo_standsAsTold hX hq h)
theorem mv_Mo_standsAsTold : MV yX12_standsAsTold cX12_standsAsTold 2 none RX12 0 := ⟨wd_co_X12_standsAsTold, wd_im_X12_standsAsTold, wd_se_X12_standsAsTold, wd_in_X12, by decide +kernel, by decide⟩
def w_Mo_placeAt_j34 (l1 : Int32) (l2 : Int32) (M : Mem) (Q : Int32 → Mem → Prop) : Prop :=
  (vp_in ((19 + (24 * l1)) + l2) 360 ∧ Q (M.1 c_mo_lands (Int32.toNatClampNeg ((19 + (24 * l1)) + l2))) M)
set_option maxHeartbeats 4000000 in
theorem t_Mo_placeAt_j34 {X : Cx} (hX : Cok X cX12_placeAt RX12 3 ((some .int)) 1 0 0) {Q : Int32 → Mem → Prop} (hq : RI X 0 0 LY Q) {l1 : Int32} {l2 : Int32} {M : Mem} (h : w_Mo_placeAt_j34 l1 l2 M Q) : Wat X 0 0 LY 34 [some (vr c_mo), some (vi l1), some (vi l2)] [] M := by
  refine s_aload_n hX dX12_placeAt_34 rfl ?_
  refine s_getr hX fi_X12_85 ly_c_mo rfl dX12_placeAt_35 ?_
  refine s_bipush (v := 19) hX dX12_placeAt_38 rfl ?_
  refine s_bipush (v := 24) hX dX12_placeAt_40 rfl ?_
  refine s_iload_n hX dX12_placeAt_42 rfl ?_
  refine s_imul hX dX12_placeAt_43 ?_
  refine s_iadd hX dX12_placeAt_44 ?_
  refine s_iload_n hX dX12_placeAt_45 rfl ?_
  refine s_iadd hX dX12_placeAt_46 ?_
  have hi := h.1
  replace h := h.2
  refine s_ialdv (v := (M.1 c_mo_lands (Int32.toNatClampNeg ((19 + (24 * l1)) + l2)))) hX ly_c_mo_lands hi dX12_placeAt_47 rfl ?_
  exact s_iret hX hq rfl dX12_placeAt_48 h
def w_Mo_placeAt (a0 : Int32) (a1 : Int32) (M : Mem) (Q : Int32 → Mem → Prop) : Prop :=
  ((a1 < (M.1 c_mo Mo_standFrom) → w_Mo_placeAt_j34 a0 a1 M Q) ∧ (¬ a1 < (M.1 c_mo Mo_standFrom) → (((M.1 c_mo Mo_standTo) < a1 → w_Mo_placeAt_j34 a0 a1 M Q) ∧ (¬ (M.1 c_mo Mo_standTo) < a1 → (vp_in a0 6 ∧ (((M.1 c_mo_standing (Int32.toNatClampNeg a0)) < 0 → w_Mo_placeAt_j34 a0 a1 M Q) ∧ (¬ (M.1 c_mo_standing (Int32.toNatClampNeg a0)) < 0 → (vp_in a0 6 ∧ Q (M.1 c_mo_standing (Int32.toNatClampNeg a0)) M))))))))
set_option maxHeartbeats 4000000 in
theorem t_Mo_placeAt {X : Cx} (hX : Cok X cX12_placeAt RX12 3 ((some .int)) 1 0 0) {Q : Int32 → Mem → Prop} (hq : RI X 0 0 LY Q) {M : Mem} {a0 : Int32} {a1 : Int32} (h : w_Mo_placeAt a0 a1 M Q) : Wat X 0 0 LY 0 [some (vr c_mo), some (vi a0), some (vi a1)] [] M := by
  refine s_iload_n hX dX12_placeAt_0 rfl ?_
  refine s_aload_n hX dX12_placeAt_1 rfl ?_
  refine s_getiv (v := (M.1 c_mo Mo_standFrom)) hX fi_X12_125 ly_c_mo rfl dX12_placeAt_2 rfl ?_
  refine s_icmp_lt (tgt := 34) hX dX12_placeAt_5 (by decide) (fun c => ?_) (fun c => ?_)
  · replace h := h.1 c
    exact t_Mo_placeAt_j34 hX hq h
  · replace h := h.2 c
    refine s_iload_n hX dX12_placeAt_8 rfl ?_
    refine s_aload_n hX dX12_placeAt_9 rfl ?_
    refine s_getiv (v := (M.1 c_mo Mo_standTo)) hX fi_X12_128 ly_c_mo rfl dX12_placeAt_10 rfl ?_
    refine s_icmp_gt (tgt := 34) hX dX12_placeAt_13 (by decide) (fun c => ?_) (fun c => ?_)
    · replace h := h.1 c
      exact t_Mo_placeAt_j34 hX hq h
    · replace h := h.2 c
      refine s_aload_n hX dX12_placeAt_16 rfl ?_
      refine s_getr hX fi_X12_122 ly_c_mo rfl dX12_placeAt_17 ?_
      refine s_iload_n hX dX12_placeAt_20 rfl ?_
      have hi := h.1
      replace h := h.2
      refine s_ialdv (v := (M.1 c_mo_standing (Int32.toNatClampNeg a0))) hX ly_c_mo_standing hi dX12_placeAt_21 rfl ?_
      refine s_if_lt (tgt := 34) hX dX12_placeAt_22 (by decide) (fun c => ?_) (fun c => ?_)
      · replace h := h.1 c
        exact t_Mo_placeAt_j34 hX hq h
      · replace h := h.2 c
        refine s_aload_n hX dX12_placeAt_25 rfl ?_
        refine s_getr hX fi_X12_122 ly_c_mo rfl dX12_placeAt_26 ?_
        refine s_iload_n hX dX12_placeAt_29 rfl ?_
        have hi := h.1
        replace h := h.2
        refine s_ialdv (v := (M.1 c_mo_standing (Int32.toNatClampNeg a0))) hX ly_c_mo_standing hi dX12_placeAt_30 rfl ?_
        refine s_goto (tgt := 48) hX dX12_placeAt_31 (by decide) ?_
        exact s_iret hX hq rfl dX12_placeAt_48 h
theorem c_Mo_placeAt {a0 : Int32} {a1 : Int32} {M : Mem} {Q : Int32 → Mem → Prop} (h : w_Mo_placeAt a0 a1 M Q) : CI yX12_placeAt cX12_placeAt 3 ((some .int)) 1 0 0 LY LY [vr c_mo, vi a0, vi a1] M Q := mk_i rfl wd_co_X12_placeAt rfl rfl (Nat.le_of_ble_eq_true rfl) (fun X hX hq => t_Mo_placeAt hX hq h)
theorem mv_Mo_placeAt : MV yX12_placeAt cX12_placeAt 3 ((some .int)) RX12 2 := ⟨wd_co_X12_placeAt, wd_im_X12_placeAt, wd_se_X12_placeAt, wd_in_X12, by decide +kernel, by decide⟩
def w_Mo_apart_j30 (l3 : Int32) (s0 : Int32) (M : Mem) (Q : Int32 → Mem → Prop) : Prop :=
  Q (s0 + (if 0 ≤ l3 then l3 else (-l3))) M
set_option maxHeartbeats 4000000 in
theorem t_Mo_apart_j30 {X : Cx} (hX : Cok X cX12_apart RX12 4 ((some .int)) 1 0 0) {Q : Int32 → Mem → Prop} (hq : RI X 0 0 LY Q) {l3 : Int32} {s0 : Int32} {M : Mem} (h : w_Mo_apart_j30 l3 s0 M Q) : Wat X 0 0 LY 30 [none, none, none, some (vi l3)] [vi s0] M := by
  refine s_iload_n hX dX12_apart_30 rfl ?_
  have hJ : Wat X 0 0 LY 40 [none, none, none, some (vi l3)] [vi (if 0 ≤ l3 then l3 else (-l3)), vi s0] M := by
    refine s_iadd hX dX12_apart_40 ?_
    exact s_iret hX hq rfl dX12_apart_41 h
  refine s_if_ge (tgt := 39) hX dX12_apart_31 (by decide) (fun c => ?_) (fun c => ?_)
  · rw [if_pos c] at hJ
    refine s_iload_n hX dX12_apart_39 rfl ?_
    exact hJ
  · rw [if_neg c] at hJ
    refine s_iload_n hX dX12_apart_34 rfl ?_
    refine s_ineg hX dX12_apart_35 ?_
    refine s_goto (tgt := 40) hX dX12_apart_36 (by decide) ?_
    exact hJ
def w_Mo_apart (a0 : Int32) (a1 : Int32) (M : Mem) (Q : Int32 → Mem → Prop) : Prop :=
  ∀ x916 : Int32, x916 = ((a0 - a0 / 8 * 8) - (a1 - a1 / 8 * 8)) → w_Mo_apart_j30 ((a0 / 8) - (a1 / 8)) (if 0 ≤ x916 then x916 else (-x916)) M Q
set_option maxHeartbeats 4000000 in
theorem t_Mo_apart {X : Cx} (hX : Cok X cX12_apart RX12 4 ((some .int)) 1 0 0) {Q : Int32 → Mem → Prop} (hq : RI X 0 0 LY Q) {M : Mem} {a0 : Int32} {a1 : Int32} (h : w_Mo_apart a0 a1 M Q) : Wat X 0 0 LY 0 [some (vi a0), some (vi a1), none, none] [] M := by
  refine s_iload_n hX dX12_apart_0 rfl ?_
  refine s_bipush (v := 8) hX dX12_apart_1 rfl ?_
  refine s_irem hX dX12_apart_3 (by decide) ?_
  refine s_iload_n hX dX12_apart_4 rfl ?_
  refine s_bipush (v := 8) hX dX12_apart_5 rfl ?_
  refine s_irem hX dX12_apart_7 (by decide) ?_
  refine s_isub hX dX12_apart_8 ?_
  refine s_nmi (fun x916 ex916 => ?_)
  replace h := h x916 ex916
  refine s_istore_n (lv' := [some (vi a0), some (vi a1), some (vi x916), none]) hX dX12_apart_9 rfl rfl (Nat.le_of_ble_eq_true rfl) ?_
  refine s_iload_n hX dX12_apart_10 rfl ?_
  refine s_bipush (v := 8) hX dX12_apart_11 rfl ?_
  refine s_idiv hX dX12_apart_13 (by decide) ?_
  refine s_iload_n hX dX12_apart_14 rfl ?_
  refine s_bipush (v := 8) hX dX12_apart_15 rfl ?_
  refine s_idiv hX dX12_apart_17 (by decide) ?_
  refine s_isub hX dX12_apart_18 ?_
  refine s_istore_n (lv' := [some (vi a0), some (vi a1), some (vi x916), some (vi ((a0 / 8) - (a1 / 8)))]) hX dX12_apart_19 rfl rfl (Nat.le_of_ble_eq_true rfl) ?_
  refine s_iload_n hX dX12_apart_20 rfl ?_
  have hJ : Wat X 0 0 LY 30 [some (vi a0), some (vi a1), some (vi x916), some (vi ((a0 / 8) - (a1 / 8)))] [vi (if 0 ≤ x916 then x916 else (-x916))] M := by
    refine s_mask [false, false, false, true] (lv' := [none, none, none, some (vi ((a0 / 8) - (a1 / 8)))]) rfl rfl ?_
    exact t_Mo_apart_j30 hX hq h
  refine s_if_ge (tgt := 29) hX dX12_apart_21 (by decide) (fun c => ?_) (fun c => ?_)
  · rw [if_pos c] at hJ
    refine s_iload_n hX dX12_apart_29 rfl ?_
    exact hJ
  · rw [if_neg c] at hJ
    refine s_iload_n hX dX12_apart_24 rfl ?_
    refine s_ineg hX dX12_apart_25 ?_
    refine s_goto (tgt := 30) hX dX12_apart_26 (by decide) ?_
    exact hJ
theorem c_Mo_apart {a0 : Int32} {a1 : Int32} {M : Mem} {Q : Int32 → Mem → Prop} (h : w_Mo_apart a0 a1 M Q) : CI yX12_apart cX12_apart 4 ((some .int)) 1 0 0 LY LY [vi a0, vi a1] M Q := mk_i rfl wd_co_X12_apart rfl rfl (Nat.le_of_ble_eq_true rfl) (fun X hX hq => t_Mo_apart hX hq h)
theorem ms_Mo_apart : MS yX12_apart cX12_apart 4 ((some .int)) 2 := ⟨wd_co_X12_apart, wd_sm_X12_apart, wd_in_X12, by decide +kernel, by decide⟩
def w_Mo_kindOf (a0 : Int32) (M : Mem) (Q : Int32 → Mem → Prop) : Prop :=
  (vp_in (7 + (2 * a0)) 360 ∧ Q (M.1 c_mo_lands (Int32.toNatClampNeg (7 + (2 * a0)))) M)
set_option maxHeartbeats 4000000 in
theorem t_Mo_kindOf {X : Cx} (hX : Cok X cX12_kindOf RX12 2 ((some .int)) 1 0 0) {Q : Int32 → Mem → Prop} (hq : RI X 0 0 LY Q) {M : Mem} {a0 : Int32} (h : w_Mo_kindOf a0 M Q) : Wat X 0 0 LY 0 [some (vr c_mo), some (vi a0)] [] M := by
  refine s_aload_n hX dX12_kindOf_0 rfl ?_
  refine s_getr hX fi_X12_85 ly_c_mo rfl dX12_kindOf_1 ?_
  refine s_bipush (v := 7) hX dX12_kindOf_4 rfl ?_
  refine s_iconst (v := 2) hX dX12_kindOf_6 rfl ?_
  refine s_iload_n hX dX12_kindOf_7 rfl ?_
  refine s_imul hX dX12_kindOf_8 ?_
  refine s_iadd hX dX12_kindOf_9 ?_
  have hi := h.1
  replace h := h.2
  refine s_ialdv (v := (M.1 c_mo_lands (Int32.toNatClampNeg (7 + (2 * a0))))) hX ly_c_mo_lands hi dX12_kindOf_10 rfl ?_
  exact s_iret hX hq rfl dX12_kindOf_11 h
theorem c_Mo_kindOf {a0 : Int32} {M : Mem} {Q : Int32 → Mem → Prop} (h : w_Mo_kindOf a0 M Q) : CI yX12_kindOf cX12_kindOf 2 ((some .int)) 1 0 0 LY LY [vr c_mo, vi a0] M Q := mk_i rfl wd_co_X12_kindOf rfl rfl (Nat.le_of_ble_eq_true rfl) (fun X hX hq => t_Mo_kindOf hX hq h)
theorem mv_Mo_kindOf : MV yX12_kindOf cX12_kindOf 2 ((some .int)) RX12 1 := ⟨wd_co_X12_kindOf, wd_im_X12_kindOf, wd_se_X12_kindOf, wd_in_X12, by decide +kernel, by decide⟩
def w_Mo_both (a0 : Int32) (a1 : Int32) (a2 : Int32) (M : Mem) (Q : Int32 → Mem → Prop) : Prop :=
  ((a0 = 4 → Q (a1 + a2) M) ∧ (a0 = 5 → Q (a1 - a2) M) ∧ (a0 = 6 → Q (a1 * a2) M) ∧ (a0 = 7 → Q (if a2 ≤ a1 then (0 : Int32) else 1) M) ∧ (a0 = 8 → Q (if a1 = a2 then (1 : Int32) else 0) M) ∧ (a0 = 9 → ((a1 = 0 → Q 0 M) ∧ (¬ a1 = 0 → Q (if a2 = 0 then (0 : Int32) else 1) M))) ∧ (¬ a0 = 4 → ¬ a0 = 5 → ¬ a0 = 6 → ¬ a0 = 7 → ¬ a0 = 8 → ¬ a0 = 9 → ((¬ a1 = 0 → Q 1 M) ∧ (a1 = 0 → Q (if a2 = 0 then (0 : Int32) else 1) M))))
set_option maxHeartbeats 4000000 in
theorem t_Mo_both {X : Cx} (hX : Cok X cX12_both RX12 3 ((some .int)) 1 0 0) {Q : Int32 → Mem → Prop} (hq : RI X 0 0 LY Q) {M : Mem} {a0 : Int32} {a1 : Int32} {a2 : Int32} (h : w_Mo_both a0 a1 a2 M Q) : Wat X 0 0 LY 0 [some (vi a0), some (vi a1), some (vi a2)] [] M := by
  refine s_iload_n hX dX12_both_0 rfl ?_
  by_cases c0 : a0 = 4
  · replace h := h.1 c0
    refine s_tableIn (tgt := 40) (off := 39) hX dX12_both_1 (by rw [c0]; decide) (by rw [c0]; decide) (by rw [c0]; rfl) (by decide) ?_
    refine s_iload_n hX dX12_both_40 rfl ?_
    refine s_iload_n hX dX12_both_41 rfl ?_
    refine s_iadd hX dX12_both_42 ?_
    exact s_iret hX hq rfl dX12_both_43 h
  by_cases c1 : a0 = 5
  · replace h := h.2.1 c1
    refine s_tableIn (tgt := 44) (off := 43) hX dX12_both_1 (by rw [c1]; decide) (by rw [c1]; decide) (by rw [c1]; rfl) (by decide) ?_
    refine s_iload_n hX dX12_both_44 rfl ?_
    refine s_iload_n hX dX12_both_45 rfl ?_
    refine s_isub hX dX12_both_46 ?_
    exact s_iret hX hq rfl dX12_both_47 h
  by_cases c2 : a0 = 6
  · replace h := h.2.2.1 c2
    refine s_tableIn (tgt := 48) (off := 47) hX dX12_both_1 (by rw [c2]; decide) (by rw [c2]; decide) (by rw [c2]; rfl) (by decide) ?_
    refine s_iload_n hX dX12_both_48 rfl ?_
    refine s_iload_n hX dX12_both_49 rfl ?_
    refine s_imul hX dX12_both_50 ?_
    exact s_iret hX hq rfl dX12_both_51 h
  by_cases c3 : a0 = 7
  · replace h := h.2.2.2.1 c3
    refine s_tableIn (tgt := 52) (off := 51) hX dX12_both_1 (by rw [c3]; decide) (by rw [c3]; decide) (by rw [c3]; rfl) (by decide) ?_
    refine s_iload_n hX dX12_both_52 rfl ?_
    refine s_iload_n hX dX12_both_53 rfl ?_
    have hJ : Wat X 0 0 LY 62 [some (vi a0), some (vi a1), some (vi a2)] [vi (if a2 ≤ a1 then (0 : Int32) else 1)] M := by
      exact s_iret hX hq rfl dX12_both_62 h
    refine s_icmp_ge (tgt := 61) hX dX12_both_54 (by decide) (fun c => ?_) (fun c => ?_)
    · rw [if_pos c] at hJ
      refine s_iconst (v := 0) hX dX12_both_61 rfl ?_
      exact hJ
    · rw [if_neg c] at hJ
      refine s_iconst (v := 1) hX dX12_both_57 rfl ?_
      refine s_goto (tgt := 62) hX dX12_both_58 (by decide) ?_
      exact hJ
  by_cases c4 : a0 = 8
  · replace h := h.2.2.2.2.1 c4
    refine s_tableIn (tgt := 63) (off := 62) hX dX12_both_1 (by rw [c4]; decide) (by rw [c4]; decide) (by rw [c4]; rfl) (by decide) ?_
    refine s_iload_n hX dX12_both_63 rfl ?_
    refine s_iload_n hX dX12_both_64 rfl ?_
    have hJ : Wat X 0 0 LY 73 [some (vi a0), some (vi a1), some (vi a2)] [vi (if a1 = a2 then (1 : Int32) else 0)] M := by
      exact s_iret hX hq rfl dX12_both_73 h
    refine s_icmp_ne (tgt := 72) hX dX12_both_65 (by decide) (fun c => ?_) (fun c => ?_)
    · rw [if_neg c] at hJ
      refine s_iconst (v := 0) hX dX12_both_72 rfl ?_
      exact hJ
    · rw [if_pos c] at hJ
      refine s_iconst (v := 1) hX dX12_both_68 rfl ?_
      refine s_goto (tgt := 73) hX dX12_both_69 (by decide) ?_
      exact hJ
  by_cases c5 : a0 = 9
  · replace h := h.2.2.2.2.2.1 c5
    refine s_tableIn (tgt := 74) (off := 73) hX dX12_both_1 (by rw [c5]; decide) (by rw [c5]; decide) (by rw [c5]; rfl) (by decide) ?_
    refine s_iload_n hX dX12_both_74 rfl ?_
    refine s_if_eq (tgt := 86) hX dX12_both_75 (by decide) (fun c => ?_) (fun c => ?_)
    · replace h := h.1 c
      refine s_iconst (v := 0) hX dX12_both_86 rfl ?_
      exact s_iret hX hq rfl dX12_both_87 h
    · replace h := h.2 c
      refine s_iload_n hX dX12_both_78 rfl ?_
      have hJ : Wat X 0 0 LY 87 [some (vi a0), some (vi a1), some (vi a2)] [vi (if a2 = 0 then (0 : Int32) else 1)] M := by
        exact s_iret hX hq rfl dX12_both_87 h
      refine s_if_eq (tgt := 86) hX dX12_both_79 (by decide) (fun c => ?_) (fun c => ?_)
      · rw [if_pos c] at hJ
        refine s_iconst (v := 0) hX dX12_both_86 rfl ?_
        exact hJ
      · rw [if_neg c] at hJ
        refine s_iconst (v := 1) hX dX12_both_82 rfl ?_
        refine s_goto (tgt := 87) hX dX12_both_83 (by decide) ?_
        exact hJ
  replace h := h.2.2.2.2.2.2 c0 c1 c2 c3 c4 c5
  have n0 := lv_neT (a := 4) c0 rfl
  have n1 := lv_neT (a := 5) c1 rfl
  have n2 := lv_neT (a := 6) c2 rfl
  have n3 := lv_neT (a := 7) c3 rfl
  have n4 := lv_neT (a := 8) c4 rfl
  have n5 := lv_neT (a := 9) c5 rfl
  refine s_tableOut (tgt := 88) hX dX12_both_1 (by omega) (by decide) ?_
  refine s_iload_n hX dX12_both_88 rfl ?_
  refine s_if_ne (tgt := 96) hX dX12_both_89 (by decide) (fun c => ?_) (fun c => ?_)
  · replace h := h.1 c
    refine s_iconst (v := 1) hX dX12_both_96 rfl ?_
    refine s_goto (tgt := 101) hX dX12_both_97 (by decide) ?_
    exact s_iret hX hq rfl dX12_both_101 h
  · replace h := h.2 c
    refine s_iload_n hX dX12_both_92 rfl ?_
    have hJ : Wat X 0 0 LY 101 [some (vi a0), some (vi a1), some (vi a2)] [vi (if a2 = 0 then (0 : Int32) else 1)] M := by
      exact s_iret hX hq rfl dX12_both_101 h
    refine s_if_eq (tgt := 100) hX dX12_both_93 (by decide) (fun c => ?_) (fun c => ?_)
    · rw [if_pos c] at hJ
      refine s_iconst (v := 0) hX dX12_both_100 rfl ?_
      exact hJ
    · rw [if_neg c] at hJ
      refine s_iconst (v := 1) hX dX12_both_96 rfl ?_
      refine s_goto (tgt := 101) hX dX12_both_97 (by decide) ?_
      exact hJ
theorem c_Mo_both {a0 : Int32} {a1 : Int32} {a2 : Int32} {M : Mem} {Q : Int32 → Mem → Prop} (h : w_Mo_both a0 a1 a2 M Q) : CI yX12_both cX12_both 3 ((some .int)) 1 0 0 LY LY [vi a0, vi a1, vi a2] M Q := mk_i rfl wd_co_X12_both rfl rfl (Nat.le_of_ble_eq_true rfl) (fun X hX hq => t_Mo_both hX hq h)
theorem ms_Mo_both : MS yX12_both cX12_both 3 ((some .int)) 3 := ⟨wd_co_X12_both, wd_sm_X12_both, wd_in_X12, by decide +kernel, by decide⟩
def w_Mo_worthAt_j33 (R : Int32 → Int32 → Mem → Prop) (K : Mem → Prop) (l2 : Int32) (l3 : Int32) (l4 : Int32) (M : Mem) (Q : Int32 → Mem → Prop) : Prop :=
  ((¬ l4 = 1 → (vp_in l3 2200 ∧ (vp_in (M.1 c_mo_arg (Int32.toNatClampNeg l3)) 6 ∧ (vp_in l2 1100 ∧ R (l2 + 1) (l3 + 1) (si M c_mo_pile (Int32.toNatClampNeg l2) (M.1 c_mo_facts (Int32.toNatClampNeg (M.1 c_mo_arg (Int32.toNatClampNeg l3))))))))) ∧ (l4 = 1 → (vp_in l3 2200 ∧ (vp_in l2 1100 ∧ R (l2 + 1) (l3 + 1) (si M c_mo_pile (Int32.toNatClampNeg l2) (M.1 c_mo_arg (Int32.toNatClampNeg l3)))))))
set_option maxHeartbeats 4000000 in
theorem t_Mo_worthAt_j33 {X : Cx} (hX : Cok X cX12_worthAt RX12 5 ((some .int)) 2 0 0) {Q : Int32 → Mem → Prop} (hq : RI X 0 0 LY Q) {R : Int32 → Int32 → Mem → Prop} {K : Mem → Prop} (hR : ∀ (l2 : Int32) (l3 : Int32) (M : Mem), R l2 l3 M → Wat X 0 0 LY 4 [some (vr c_mo), none, some (vi l2), some (vi l3), none] [] M) (hK : ∀ (M : Mem), K M → Wat X 0 0 LY 140 [some (vr c_mo), none, none, none, none] [] M) {l2 : Int32} {l3 : Int32} {l4 : Int32} {M : Mem} (h : w_Mo_worthAt_j33 R K l2 l3 l4 M Q) : Wat X 0 0 LY 33 [some (vr c_mo), none, some (vi l2), some (vi l3), some (vi l4)] [] M := by
  refine s_aload_n hX dX12_worthAt_33 rfl ?_
  refine s_getr hX fi_X12_112 ly_c_mo rfl dX12_worthAt_34 ?_
  refine s_iload_n hX dX12_worthAt_37 rfl ?_
  refine s_iload hX dX12_worthAt_38 rfl ?_
  refine s_iconst (v := 1) hX dX12_worthAt_40 rfl ?_
  refine s_icmp_ne (tgt := 53) hX dX12_worthAt_41 (by decide) (fun c => ?_) (fun c => ?_)
  · replace h := h.1 c
    refine s_aload_n hX dX12_worthAt_53 rfl ?_
    refine s_getr hX fi_X12_109 ly_c_mo rfl dX12_worthAt_54 ?_
    refine s_aload_n hX dX12_worthAt_57 rfl ?_
    refine s_getr hX fi_X12_97 ly_c_mo rfl dX12_worthAt_58 ?_
    refine s_iload_n hX dX12_worthAt_61 rfl ?_
    have hi := h.1
    replace h := h.2
    refine s_ialdv (v := (M.1 c_mo_arg (Int32.toNatClampNeg l3))) hX ly_c_mo_arg hi dX12_worthAt_62 rfl ?_
    have hi := h.1
    replace h := h.2
    refine s_ialdv (v := (M.1 c_mo_facts (Int32.toNatClampNeg (M.1 c_mo_arg (Int32.toNatClampNeg l3))))) hX ly_c_mo_facts hi dX12_worthAt_63 rfl ?_
    have hi := h.1
    replace h := h.2
    refine s_iast hX ly_c_mo_pile hi dX12_worthAt_64 ?_
    refine s_iinc (v := (l2 + 1)) (lv' := [some (vr c_mo), none, some (vi (l2 + 1)), some (vi l3), some (vi l4)]) hX dX12_worthAt_65 rfl rfl rfl rfl ?_
    refine s_goto (tgt := 134) hX dX12_worthAt_68 (by decide) ?_
    refine s_iinc (v := (l3 + 1)) (lv' := [some (vr c_mo), none, some (vi (l2 + 1)), some (vi (l3 + 1)), some (vi l4)]) hX dX12_worthAt_134 rfl rfl rfl rfl ?_
    refine s_goto (tgt := 4) hX dX12_worthAt_137 (by decide) ?_
    refine s_mask [true, true, true, true, false] (lv' := [some (vr c_mo), none, some (vi (l2 + 1)), some (vi (l3 + 1)), none]) rfl rfl ?_
    exact hR _ _ _ h
  · replace h := h.2 c
    refine s_aload_n hX dX12_worthAt_44 rfl ?_
    refine s_getr hX fi_X12_97 ly_c_mo rfl dX12_worthAt_45 ?_
    refine s_iload_n hX dX12_worthAt_48 rfl ?_
    have hi := h.1
    replace h := h.2
    refine s_ialdv (v := (M.1 c_mo_arg (Int32.toNatClampNeg l3))) hX ly_c_mo_arg hi dX12_worthAt_49 rfl ?_
    refine s_goto (tgt := 64) hX dX12_worthAt_50 (by decide) ?_
    have hi := h.1
    replace h := h.2
    refine s_iast hX ly_c_mo_pile hi dX12_worthAt_64 ?_
    refine s_iinc (v := (l2 + 1)) (lv' := [some (vr c_mo), none, some (vi (l2 + 1)), some (vi l3), some (vi l4)]) hX dX12_worthAt_65 rfl rfl rfl rfl ?_
    refine s_goto (tgt := 134) hX dX12_worthAt_68 (by decide) ?_
    refine s_iinc (v := (l3 + 1)) (lv' := [some (vr c_mo), none, some (vi (l2 + 1)), some (vi (l3 + 1)), some (vi l4)]) hX dX12_worthAt_134 rfl rfl rfl rfl ?_
    refine s_goto (tgt := 4) hX dX12_worthAt_137 (by decide) ?_
    refine s_mask [true, true, true, true, false] (lv' := [some (vr c_mo), none, some (vi (l2 + 1)), some (vi (l3 + 1)), none]) rfl rfl ?_
    exact hR _ _ _ h
def w_Mo_worthAt_L4 (K : Mem → Prop) (Q : Int32 → Mem → Prop) : Nat → Int32 → Int32 → Mem → Prop
  | 0, _, _, _ => False
  | n + 1, l2, l3, M => (vp_in l3 2200 ∧ (((M.1 c_mo_op (Int32.toNatClampNeg l3)) = 0 → K M) ∧ (¬ (M.1 c_mo_op (Int32.toNatClampNeg l3)) = 0 → (vp_in l3 2200 ∧ ∀ x925 : Int32, x925 = (M.1 c_mo_op (Int32.toNatClampNeg l3)) → ((x925 = 1 → w_Mo_worthAt_j33 (fun l2 l3 M => w_Mo_worthAt_L4 K Q n l2 l3 M) K l2 l3 x925 M Q) ∧ (¬ x925 = 1 → ((¬ x925 = 2 → ((¬ x925 = 3 → (vp_in ((l2 + (-1)) - 1) 1100 ∧ (vp_in (l2 + (-1)) 1100 ∧ w_Mo_both x925 (M.1 c_mo_pile (Int32.toNatClampNeg ((l2 + (-1)) - 1))) (M.1 c_mo_pile (Int32.toNatClampNeg (l2 + (-1)))) M (fun r927 M926 => (vp_in ((l2 + (-1)) - 1) 1100 ∧ w_Mo_worthAt_L4 K Q n (l2 + (-1)) (l3 + 1) (si M926 c_mo_pile (Int32.toNatClampNeg ((l2 + (-1)) - 1)) r927)))))) ∧ (x925 = 3 → (vp_in (l2 - 1) 1100 ∧ (vp_in (l2 - 1) 1100 ∧ w_Mo_worthAt_L4 K Q n l2 (l3 + 1) (si M c_mo_pile (Int32.toNatClampNeg (l2 - 1)) (if (M.1 c_mo_pile (Int32.toNatClampNeg (l2 - 1))) = 0 then (1 : Int32) else 0))))))) ∧ (x925 = 2 → w_Mo_worthAt_j33 (fun l2 l3 M => w_Mo_worthAt_L4 K Q n l2 l3 M) K l2 l3 x925 M Q))))))))
set_option maxHeartbeats 4000000 in
theorem t_Mo_worthAt_L4 {X : Cx} (hX : Cok X cX12_worthAt RX12 5 ((some .int)) 2 0 0) {Q : Int32 → Mem → Prop} (hq : RI X 0 0 LY Q) {K : Mem → Prop} (hK : ∀ (M : Mem), K M → Wat X 0 0 LY 140 [some (vr c_mo), none, none, none, none] [] M) : ∀ (n : Nat) (l2 : Int32) (l3 : Int32) (M : Mem), w_Mo_worthAt_L4 K Q n l2 l3 M → Wat X 0 0 LY 4 [some (vr c_mo), none, some (vi l2), some (vi l3), none] [] M := by
  intro n
  induction n with
  | zero => intro _ _ _ h; exact h.elim
  | succ n ih =>
    intro l2 l3 M h
    refine s_aload_n hX dX12_worthAt_4 rfl ?_
    refine s_getr hX fi_X12_94 ly_c_mo rfl dX12_worthAt_5 ?_
    refine s_iload_n hX dX12_worthAt_8 rfl ?_
    have hi := h.1
    replace h := h.2
    refine s_ialdv (v := (M.1 c_mo_op (Int32.toNatClampNeg l3))) hX ly_c_mo_op hi dX12_worthAt_9 rfl ?_
    refine s_if_eq (tgt := 140) hX dX12_worthAt_10 (by decide) (fun c => ?_) (fun c => ?_)
    · replace h := h.1 c
      refine s_mask [true, true, false, false, true] (lv' := [some (vr c_mo), none, none, none, none]) rfl rfl ?_
      exact hK _ h
    · replace h := h.2 c
      refine s_aload_n hX dX12_worthAt_13 rfl ?_
      refine s_getr hX fi_X12_94 ly_c_mo rfl dX12_worthAt_14 ?_
      refine s_iload_n hX dX12_worthAt_17 rfl ?_
      have hi := h.1
      replace h := h.2
      refine s_ialdv (v := (M.1 c_mo_op (Int32.toNatClampNeg l3))) hX ly_c_mo_op hi dX12_worthAt_18 rfl ?_
      refine s_nmi (fun x925 ex925 => ?_)
      replace h := h x925 ex925
      refine s_istore (lv' := [some (vr c_mo), none, some (vi l2), some (vi l3), some (vi x925)]) hX dX12_worthAt_19 rfl rfl (Nat.le_of_ble_eq_true rfl) ?_
      refine s_iload hX dX12_worthAt_21 rfl ?_
      refine s_iconst (v := 1) hX dX12_worthAt_23 rfl ?_
      refine s_icmp_eq (tgt := 33) hX dX12_worthAt_24 (by decide) (fun c => ?_) (fun c => ?_)
      · replace h := h.1 c
        exact t_Mo_worthAt_j33 hX hq (fun _ _ _ h => ih _ _ _ h) hK h
      · replace h := h.2 c
        refine s_iload hX dX12_worthAt_27 rfl ?_
        refine s_iconst (v := 2) hX dX12_worthAt_29 rfl ?_
        refine s_icmp_ne (tgt := 71) hX dX12_worthAt_30 (by decide) (fun c => ?_) (fun c => ?_)
        · replace h := h.1 c
          refine s_iload hX dX12_worthAt_71 rfl ?_
          refine s_iconst (v := 3) hX dX12_worthAt_73 rfl ?_
          refine s_icmp_ne (tgt := 104) hX dX12_worthAt_74 (by decide) (fun c => ?_) (fun c => ?_)
          · replace h := h.1 c
            refine s_iinc (v := (l2 + (-1))) (lv' := [some (vr c_mo), none, some (vi (l2 + (-1))), some (vi l3), some (vi x925)]) hX dX12_worthAt_104 rfl rfl rfl rfl ?_
            refine s_aload_n hX dX12_worthAt_107 rfl ?_
            refine s_getr hX fi_X12_112 ly_c_mo rfl dX12_worthAt_108 ?_
            refine s_iload_n hX dX12_worthAt_111 rfl ?_
            refine s_iconst (v := 1) hX dX12_worthAt_112 rfl ?_
            refine s_isub hX dX12_worthAt_113 ?_
            refine s_iload hX dX12_worthAt_114 rfl ?_
            refine s_aload_n hX dX12_worthAt_116 rfl ?_
            refine s_getr hX fi_X12_112 ly_c_mo rfl dX12_worthAt_117 ?_
            refine s_iload_n hX dX12_worthAt_120 rfl ?_
            refine s_iconst (v := 1) hX dX12_worthAt_121 rfl ?_
            refine s_isub hX dX12_worthAt_122 ?_
            have hi := h.1
            replace h := h.2
            refine s_ialdv (v := (M.1 c_mo_pile (Int32.toNatClampNeg ((l2 + (-1)) - 1)))) hX ly_c_mo_pile hi dX12_worthAt_123 rfl ?_
            refine s_aload_n hX dX12_worthAt_124 rfl ?_
            refine s_getr hX fi_X12_112 ly_c_mo rfl dX12_worthAt_125 ?_
            refine s_iload_n hX dX12_worthAt_128 rfl ?_
            have hi := h.1
            replace h := h.2
            refine s_ialdv (v := (M.1 c_mo_pile (Int32.toNatClampNeg (l2 + (-1))))) hX ly_c_mo_pile hi dX12_worthAt_129 rfl ?_
            refine s_csi (as := [vi x925, vi (M.1 c_mo_pile (Int32.toNatClampNeg ((l2 + (-1)) - 1))), vi (M.1 c_mo_pile (Int32.toNatClampNeg (l2 + (-1))))]) (rest := [vi ((l2 + (-1)) - 1), vr c_mo_pile]) hX (c_Mo_both h) ms_Mo_both wd_ml_X12_304 dX12_worthAt_130 rfl (Nat.le_of_ble_eq_true rfl) rfl (by decide) ⟨Nat.zero_le _, Nat.zero_le _⟩ (fun r927 M926 h => ?_)
            have hi := h.1
            replace h := h.2
            refine s_iast hX ly_c_mo_pile hi dX12_worthAt_133 ?_
            refine s_iinc (v := (l3 + 1)) (lv' := [some (vr c_mo), none, some (vi (l2 + (-1))), some (vi (l3 + 1)), some (vi x925)]) hX dX12_worthAt_134 rfl rfl rfl rfl ?_
            refine s_goto (tgt := 4) hX dX12_worthAt_137 (by decide) ?_
            refine s_mask [true, true, true, true, false] (lv' := [some (vr c_mo), none, some (vi (l2 + (-1))), some (vi (l3 + 1)), none]) rfl rfl ?_
            exact ih _ _ _ h
          · replace h := h.2 c
            refine s_aload_n hX dX12_worthAt_77 rfl ?_
            refine s_getr hX fi_X12_112 ly_c_mo rfl dX12_worthAt_78 ?_
            refine s_iload_n hX dX12_worthAt_81 rfl ?_
            refine s_iconst (v := 1) hX dX12_worthAt_82 rfl ?_
            refine s_isub hX dX12_worthAt_83 ?_
            refine s_aload_n hX dX12_worthAt_84 rfl ?_
            refine s_getr hX fi_X12_112 ly_c_mo rfl dX12_worthAt_85 ?_
            refine s_iload_n hX dX12_worthAt_88 rfl ?_
            refine s_iconst (v := 1) hX dX12_worthAt_89 rfl ?_
            refine s_isub hX dX12_worthAt_90 ?_
            have hi := h.1
            replace h := h.2
            refine s_ialdv (v := (M.1 c_mo_pile (Int32.toNatClampNeg (l2 - 1)))) hX ly_c_mo_pile hi dX12_worthAt_91 rfl ?_
            have hJ : Wat X 0 0 LY 100 [some (vr c_mo), none, some (vi l2), some (vi l3), some (vi x925)] [vi (if (M.1 c_mo_pile (Int32.toNatClampNeg (l2 - 1))) = 0 then (1 : Int32) else 0), vi (l2 - 1), vr c_mo_pile] M := by
              have hi := h.1
              replace h := h.2
              refine s_iast hX ly_c_mo_pile hi dX12_worthAt_100 ?_
              refine s_goto (tgt := 134) hX dX12_worthAt_101 (by decide) ?_
              refine s_iinc (v := (l3 + 1)) (lv' := [some (vr c_mo), none, some (vi l2), some (vi (l3 + 1)), some (vi x925)]) hX dX12_worthAt_134 rfl rfl rfl rfl ?_
              refine s_goto (tgt := 4) hX dX12_worthAt_137 (by decide) ?_
              refine s_mask [true, true, true, true, false] (lv' := [some (vr c_mo), none, some (vi l2), some (vi (l3 + 1)), none]) rfl rfl ?_
              exact ih _ _ _ h
            refine s_if_ne (tgt := 99) hX dX12_worthAt_92 (by decide) (fun c => ?_) (fun c => ?_)
            · rw [if_neg c] at hJ
              refine s_iconst (v := 0) hX dX12_worthAt_99 rfl ?_
              exact hJ
            · rw [if_pos c] at hJ
              refine s_iconst (v := 1) hX dX12_worthAt_95 rfl ?_
              refine s_goto (tgt := 100) hX dX12_worthAt_96 (by decide) ?_
              exact hJ
        · replace h := h.2 c
          exact t_Mo_worthAt_j33 hX hq (fun _ _ _ h => ih _ _ _ h) hK h
def w_Mo_worthAt (a0 : Int32) (M : Mem) (Q : Int32 → Mem → Prop) : Prop :=
  (∃ n929, w_Mo_worthAt_L4 (fun M928 => (vp_in 0 1100 ∧ Q (M928.1 c_mo_pile (Int32.toNatClampNeg 0)) M928)) Q n929 0 a0 M)
set_option maxHeartbeats 4000000 in
theorem t_Mo_worthAt {X : Cx} (hX : Cok X cX12_worthAt RX12 5 ((some .int)) 2 0 0) {Q : Int32 → Mem → Prop} (hq : RI X 0 0 LY Q) {M : Mem} {a0 : Int32} (h : w_Mo_worthAt a0 M Q) : Wat X 0 0 LY 0 [some (vr c_mo), some (vi a0), none, none, none] [] M := by
  refine s_iconst (v := 0) hX dX12_worthAt_0 rfl ?_
  refine s_istore_n (lv' := [some (vr c_mo), some (vi a0), some (vi 0), none, none]) hX dX12_worthAt_1 rfl rfl (Nat.le_of_ble_eq_true rfl) ?_
  refine s_iload_n hX dX12_worthAt_2 rfl ?_
  refine s_istore_n (lv' := [some (vr c_mo), some (vi a0), some (vi 0), some (vi a0), none]) hX dX12_worthAt_3 rfl rfl (Nat.le_of_ble_eq_true rfl) ?_
  refine s_mask [true, false, true, true, true] (lv' := [some (vr c_mo), none, some (vi 0), some (vi a0), none]) rfl rfl ?_
  obtain ⟨n929, h⟩ := h
  refine t_Mo_worthAt_L4 hX hq ?_ n929 _ _ _ h
  intro M928 h
  refine s_aload_n hX dX12_worthAt_140 rfl ?_
  refine s_getr hX fi_X12_112 ly_c_mo rfl dX12_worthAt_141 ?_
  refine s_iconst (v := 0) hX dX12_worthAt_144 rfl ?_
  have hi := h.1
  replace h := h.2
  refine s_ialdv (v := (M928.1 c_mo_pile (Int32.toNatClampNeg 0))) hX ly_c_mo_pile hi dX12_worthAt_145 rfl ?_
  exact s_iret hX hq rfl dX12_worthAt_146 h
theorem c_Mo_worthAt {a0 : Int32} {M : Mem} {Q : Int32 → Mem → Prop} (h : w_Mo_worthAt a0 M Q) : CI yX12_worthAt cX12_worthAt 5 ((some .int)) 2 0 0 LY LY [vr c_mo, vi a0] M Q := mk_i rfl wd_co_X12_worthAt rfl rfl (Nat.le_of_ble_eq_true rfl) (fun X hX hq => t_Mo_worthAt hX hq h)
theorem mv_Mo_worthAt : MV yX12_worthAt cX12_worthAt 5 ((some .int)) RX12 1 := ⟨wd_co_X12_worthAt, wd_im_X12_worthAt, wd_se_X12_worthAt, wd_in_X12, by decide +kernel, by decide⟩
def w_Mo_clip (a0 : Int32) (a1 : Int32) (M : Mem) (Q : Int32 → Mem → Prop) : Prop :=
  ((0 ≤ a0 → ((a0 ≤ a1 → Q a0 M) ∧ (¬ a0 ≤ a1 → Q a1 M))) ∧ (¬ 0 ≤ a0 → Q 0 M))
set_option maxHeartbeats 4000000 in
theorem t_Mo_clip {X : Cx} (hX : Cok X cX12_clip RX12 3 ((some .int)) 1 0 0) {Q : Int32 → Mem → Prop} (hq : RI X 0 0 LY Q) {M : Mem} {a0 : Int32} {a1 : Int32} (h : w_Mo_clip a0 a1 M Q) : Wat X 0 0 LY 0 [some (vr c_mo), some (vi a0), some (vi a1)] [] M := by
  refine s_iload_n hX dX12_clip_0 rfl ?_
  refine s_if_ge (tgt := 8) hX dX12_clip_1 (by decide) (fun c => ?_) (fun c => ?_)
  · replace h := h.1 c
    refine s_iload_n hX dX12_clip_8 rfl ?_
    refine s_iload_n hX dX12_clip_9 rfl ?_
    refine s_icmp_le (tgt := 17) hX dX12_clip_10 (by decide) (fun c => ?_) (fun c => ?_)
    · replace h := h.1 c
      refine s_iload_n hX dX12_clip_17 rfl ?_
      exact s_iret hX hq rfl dX12_clip_18 h
    · replace h := h.2 c
      refine s_iload_n hX dX12_clip_13 rfl ?_
      refine s_goto (tgt := 18) hX dX12_clip_14 (by decide) ?_
      exact s_iret hX hq rfl dX12_clip_18 h
  · replace h := h.2 c
    refine s_iconst (v := 0) hX dX12_clip_4 rfl ?_
    refine s_goto (tgt := 18) hX dX12_clip_5 (by decide) ?_
    exact s_iret hX hq rfl dX12_clip_18 h
theorem c_Mo_clip {a0 : Int32} {a1 : Int32} {M : Mem} {Q : Int32 → Mem → Prop} (h : w_Mo_clip a0 a1 M Q) : CI yX12_clip cX12_clip 3 ((some .int)) 1 0 0 LY LY [vr c_mo, vi a0, vi a1] M Q := mk_i rfl wd_co_X12_clip rfl rfl (Nat.le_of_ble_eq_true rfl) (fun X hX hq => t_Mo_clip hX hq h)
theorem mv_Mo_clip : MV yX12_clip cX12_clip 3 ((some .int)) RX12 2 := ⟨wd_co_X12_clip, wd_im_X12_clip, wd_se_X12_clip, wd_in_X12, by decide +kernel, by decide⟩
def w_Mo_pence_j96 (l3 : Int32) (l5 : Int32) (l6 : Int32) (l7 : Int32) (M : Mem) (Q : Int32 → Mem → Prop) : Prop :=
  w_Mo_kindOf l3 M (fun r920 M919 => ((¬ r920 = 2 → ((¬ r920 = 3 → ((¬ r920 = 4 → Q (l7 * l5) M919) ∧ (r920 = 4 → ((l6 < 3 → Q (l7 * l5) M919) ∧ (¬ l6 < 3 → Q 0 M919))))) ∧ (r920 = 3 → Q (2 * (l7 * l5)) M919))) ∧ (r920 = 2 → Q ((l7 * l5) / 2) M919)))
set_option maxHeartbeats 4000000 in
theorem t_Mo_pence_j96 {X : Cx} (hX : Cok X cX12_pence RX12 9 ((some .int)) 3 0 0) {Q : Int32 → Mem → Prop} (hq : RI X 0 0 LY Q) {l3 : Int32} {l5 : Int32} {l6 : Int32} {l7 : Int32} {M : Mem} (h : w_Mo_pence_j96 l3 l5 l6 l7 M Q) : Wat X 0 0 LY 96 [some (vr c_mo), none, none, some (vi l3), none, some (vi l5), some (vi l6), some (vi l7), none] [] M := by
  refine s_iload hX dX12_pence_96 rfl ?_
  refine s_iload hX dX12_pence_98 rfl ?_
  refine s_imul hX dX12_pence_100 ?_
  refine s_istore (lv' := [some (vr c_mo), none, none, some (vi l3), none, some (vi l5), some (vi l6), some (vi (l7 * l5)), none]) hX dX12_pence_101 rfl rfl (Nat.le_of_ble_eq_true rfl) ?_
  refine s_aload_n hX dX12_pence_103 rfl ?_
  refine s_iload_n hX dX12_pence_104 rfl ?_
  refine s_cvi (as := [vi l3]) (rest := []) hX (c_Mo_kindOf h) mv_Mo_kindOf wd_ml_X12_332 dX12_pence_105 ly_c_mo rfl rfl (Nat.le_of_ble_eq_true rfl) rfl (by decide) ⟨Nat.zero_le _, Nat.zero_le _⟩ (fun r920 M919 h => ?_)
  refine s_istore (lv' := [some (vr c_mo), none, none, some (vi l3), none, some (vi l5), some (vi l6), some (vi (l7 * l5)), some (vi r920)]) hX dX12_pence_108 rfl rfl (Nat.le_of_ble_eq_true rfl) ?_
  refine s_iload hX dX12_pence_110 rfl ?_
  refine s_iconst (v := 2) hX dX12_pence_112 rfl ?_
  refine s_icmp_ne (tgt := 123) hX dX12_pence_113 (by decide) (fun c => ?_) (fun c => ?_)
  · replace h := h.1 c
    refine s_iload hX dX12_pence_123 rfl ?_
    refine s_iconst (v := 3) hX dX12_pence_125 rfl ?_
    refine s_icmp_ne (tgt := 136) hX dX12_pence_126 (by decide) (fun c => ?_) (fun c => ?_)
    · replace h := h.1 c
      refine s_iload hX dX12_pence_136 rfl ?_
      refine s_iconst (v := 4) hX dX12_pence_138 rfl ?_
      refine s_icmp_ne (tgt := 152) hX dX12_pence_139 (by decide) (fun c => ?_) (fun c => ?_)
      · replace h := h.1 c
        refine s_iload hX dX12_pence_152 rfl ?_
        exact s_iret hX hq rfl dX12_pence_154 h
      · replace h := h.2 c
        refine s_iload hX dX12_pence_142 rfl ?_
        refine s_iconst (v := 3) hX dX12_pence_144 rfl ?_
        refine s_icmp_lt (tgt := 152) hX dX12_pence_145 (by decide) (fun c => ?_) (fun c => ?_)
        · replace h := h.1 c
          refine s_iload hX dX12_pence_152 rfl ?_
          exact s_iret hX hq rfl dX12_pence_154 h
        · replace h := h.2 c
          refine s_iconst (v := 0) hX dX12_pence_148 rfl ?_
          refine s_goto (tgt := 154) hX dX12_pence_149 (by decide) ?_
          exact s_iret hX hq rfl dX12_pence_154 h
    · replace h := h.2 c
      refine s_iconst (v := 2) hX dX12_pence_129 rfl ?_
      refine s_iload hX dX12_pence_130 rfl ?_
      refine s_imul hX dX12_pence_132 ?_
      refine s_goto (tgt := 154) hX dX12_pence_133 (by decide) ?_
      exact s_iret hX hq rfl dX12_pence_154 h
  · replace h := h.2 c
    refine s_iload hX dX12_pence_116 rfl ?_
    refine s_iconst (v := 2) hX dX12_pence_118 rfl ?_
    refine s_idiv hX dX12_pence_119 (by decide) ?_
    refine s_goto (tgt := 154) hX dX12_pence_120 (by decide) ?_
    exact s_iret hX hq rfl dX12_pence_154 h
def w_Mo_pence (a0 : Int32) (a1 : Int32) (a2 : Int32) (a3 : Int32) (a4 : Int32) (M : Mem) (Q : Int32 → Mem → Prop) : Prop :=
  w_Mo_placeAt a2 a1 M (fun r913 M912 => w_Mo_placeAt a3 a1 M912 (fun r915 M914 => w_Mo_apart r913 r915 M914 (fun r918 M917 => (vp_in 5 360 ∧ (((M917.1 c_mo_lands (Int32.toNatClampNeg 5)) < 0 → w_Mo_pence_j96 a2 a4 r918 1 M917 Q) ∧ (¬ (M917.1 c_mo_lands (Int32.toNatClampNeg 5)) < 0 → (vp_in 0 6 ∧ w_Mo_placeAt a2 a1 (si M917 c_mo_facts (Int32.toNatClampNeg 0) a1) (fun r922 M921 => (vp_in (163 + a0) 360 ∧ w_Mo_apart r922 (M921.1 c_mo_lands (Int32.toNatClampNeg (163 + a0))) M921 (fun r924 M923 => (vp_in 1 6 ∧ (vp_in 2 6 ∧ (vp_in 3 6 ∧ (vp_in 5 360 ∧ w_Mo_worthAt (M923.1 c_mo_lands (Int32.toNatClampNeg 5)) (si (si (si M923 c_mo_facts (Int32.toNatClampNeg 1) r924) c_mo_facts (Int32.toNatClampNeg 2) r918) c_mo_facts (Int32.toNatClampNeg 3) a4) (fun r931 M930 => w_Mo_clip r931 99 M930 (fun r933 M932 => w_Mo_pence_j96 a2 a4 r918 r933 M932 Q))))))))))))))))
set_option maxHeartbeats 4000000 in
theorem t_Mo_pence {X : Cx} (hX : Cok X cX12_pence RX12 9 ((some .int)) 3 0 0) {Q : Int32 → Mem → Prop} (hq : RI X 0 0 LY Q) {M : Mem} {a0 : Int32} {a1 : Int32} {a2 : Int32} {a3 : Int32} {a4 : Int32} (h : w_Mo_pence a0 a1 a2 a3 a4 M Q) : Wat X 0 0 LY 0 [some (vr c_mo), some (vi a0), some (vi a1), some (vi a2), some (vi a3), some (vi a4), none, none, none] [] M := by
  refine s_aload_n hX dX12_pence_0 rfl ?_
  refine s_iload_n hX dX12_pence_1 rfl ?_
  refine s_iload_n hX dX12_pence_2 rfl ?_
  refine s_cvi (as := [vi a2, vi a1]) (rest := []) hX (c_Mo_placeAt h) mv_Mo_placeAt wd_ml_X12_317 dX12_pence_3 ly_c_mo rfl rfl (Nat.le_of_ble_eq_true rfl) rfl (by decide) ⟨Nat.zero_le _, Nat.zero_le _⟩ (fun r913 M912 h => ?_)
  refine s_aload_n hX dX12_pence_6 rfl ?_
  refine s_iload hX dX12_pence_7 rfl ?_
  refine s_iload_n hX dX12_pence_9 rfl ?_
  refine s_cvi (as := [vi a3, vi a1]) (rest := [vi r913]) hX (c_Mo_placeAt h) mv_Mo_placeAt wd_ml_X12_317 dX12_pence_10 ly_c_mo rfl rfl (Nat.le_of_ble_eq_true rfl) rfl (by decide) ⟨Nat.zero_le _, Nat.zero_le _⟩ (fun r915 M914 h => ?_)
  refine s_csi (as := [vi r913, vi r915]) (rest := []) hX (c_Mo_apart h) ms_Mo_apart wd_ml_X12_329 dX12_pence_13 rfl (Nat.le_of_ble_eq_true rfl) rfl (by decide) ⟨Nat.zero_le _, Nat.zero_le _⟩ (fun r918 M917 h => ?_)
  refine s_istore (lv' := [some (vr c_mo), some (vi a0), some (vi a1), some (vi a2), some (vi a3), some (vi a4), some (vi r918), none, none]) hX dX12_pence_16 rfl rfl (Nat.le_of_ble_eq_true rfl) ?_
  refine s_iconst (v := 1) hX dX12_pence_18 rfl ?_
  refine s_istore (lv' := [some (vr c_mo), some (vi a0), some (vi a1), some (vi a2), some (vi a3), some (vi a4), some (vi r918), some (vi 1), none]) hX dX12_pence_19 rfl rfl (Nat.le_of_ble_eq_true rfl) ?_
  refine s_aload_n hX dX12_pence_21 rfl ?_
  refine s_getr hX fi_X12_85 ly_c_mo rfl dX12_pence_22 ?_
  refine s_iconst (v := 5) hX dX12_pence_25 rfl ?_
  have hi := h.1
  replace h := h.2
  refine s_ialdv (v := (M917.1 c_mo_lands (Int32.toNatClampNeg 5))) hX ly_c_mo_lands hi dX12_pence_26 rfl ?_
  refine s_if_lt (tgt := 96) hX dX12_pence_27 (by decide) (fun c => ?_) (fun c => ?_)
  · replace h := h.1 c
    refine s_mask [true, false, false, true, false, true, true, true, true] (lv' := [some (vr c_mo), none, none, some (vi a2), none, some (vi a4), some (vi r918), some (vi 1), none]) rfl rfl ?_
    exact t_Mo_pence_j96 hX hq h
  · replace h := h.2 c
    refine s_aload_n hX dX12_pence_30 rfl ?_
    refine s_getr hX fi_X12_109 ly_c_mo rfl dX12_pence_31 ?_
    refine s_iconst (v := 0) hX dX12_pence_34 rfl ?_
    refine s_iload_n hX dX12_pence_35 rfl ?_
    have hi := h.1
    replace h := h.2
    refine s_iast hX ly_c_mo_facts hi dX12_pence_36 ?_
    refine s_aload_n hX dX12_pence_37 rfl ?_
    refine s_getr hX fi_X12_109 ly_c_mo rfl dX12_pence_38 ?_
    refine s_iconst (v := 1) hX dX12_pence_41 rfl ?_
    refine s_aload_n hX dX12_pence_42 rfl ?_
    refine s_iload_n hX dX12_pence_43 rfl ?_
    refine s_iload_n hX dX12_pence_44 rfl ?_
    refine s_cvi (as := [vi a2, vi a1]) (rest := [vi 1, vr c_mo_facts]) hX (c_Mo_placeAt h) mv_Mo_placeAt wd_ml_X12_317 dX12_pence_45 ly_c_mo rfl rfl (Nat.le_of_ble_eq_true rfl) rfl (by decide) ⟨Nat.zero_le _, Nat.zero_le _⟩ (fun r922 M921 h => ?_)
    refine s_aload_n hX dX12_pence_48 rfl ?_
    refine s_getr hX fi_X12_85 ly_c_mo rfl dX12_pence_49 ?_
    refine s_sipush (v := 163) hX dX12_pence_52 rfl ?_
    refine s_iload_n hX dX12_pence_55 rfl ?_
    refine s_iadd hX dX12_pence_56 ?_
    have hi := h.1
    replace h := h.2
    refine s_ialdv (v := (M921.1 c_mo_lands (Int32.toNatClampNeg (163 + a0)))) hX ly_c_mo_lands hi dX12_pence_57 rfl ?_
    refine s_csi (as := [vi r922, vi (M921.1 c_mo_lands (Int32.toNatClampNeg (163 + a0)))]) (rest := [vi 1, vr c_mo_facts]) hX (c_Mo_apart h) ms_Mo_apart wd_ml_X12_329 dX12_pence_58 rfl (Nat.le_of_ble_eq_true rfl) rfl (by decide) ⟨Nat.zero_le _, Nat.zero_le _⟩ (fun r924 M923 h => ?_)
    have hi := h.1
    replace h := h.2
    refine s_iast hX ly_c_mo_facts hi dX12_pence_61 ?_
    refine s_aload_n hX dX12_pence_62 rfl ?_
    refine s_getr hX fi_X12_109 ly_c_mo rfl dX12_pence_63 ?_
    refine s_iconst (v := 2) hX dX12_pence_66 rfl ?_
    refine s_iload hX dX12_pence_67 rfl ?_
    have hi := h.1
    replace h := h.2
    refine s_iast hX ly_c_mo_facts hi dX12_pence_69 ?_
    refine s_aload_n hX dX12_pence_70 rfl ?_
    refine s_getr hX fi_X12_109 ly_c_mo rfl dX12_pence_71 ?_
    refine s_iconst (v := 3) hX dX12_pence_74 rfl ?_
    refine s_iload hX dX12_pence_75 rfl ?_
    have hi := h.1
    replace h := h.2
    refine s_iast hX ly_c_mo_facts hi dX12_pence_77 ?_
    refine s_aload_n hX dX12_pence_78 rfl ?_
    refine s_aload_n hX dX12_pence_79 rfl ?_
    refine s_aload_n hX dX12_pence_80 rfl ?_
    refine s_getr hX fi_X12_85 ly_c_mo rfl dX12_pence_81 ?_
    refine s_iconst (v := 5) hX dX12_pence_84 rfl ?_
    have hi := h.1
    replace h := h.2
    refine s_ialdv (v := (M923.1 c_mo_lands (Int32.toNatClampNeg 5))) hX ly_c_mo_lands hi dX12_pence_85 rfl ?_
    refine s_cvi (as := [vi (M923.1 c_mo_lands (Int32.toNatClampNeg 5))]) (rest := [vr c_mo]) hX (c_Mo_worthAt h) mv_Mo_worthAt wd_ml_X12_320 dX12_pence_86 ly_c_mo rfl rfl (Nat.le_of_ble_eq_true rfl) rfl (by decide) ⟨Nat.zero_le _, Nat.zero_le _⟩ (fun r931 M930 h => ?_)
    refine s_bipush (v := 99) hX dX12_pence_89 rfl ?_
    refine s_cvi (as := [vi r931, vi 99]) (rest := []) hX (c_Mo_clip h) mv_Mo_clip wd_ml_X12_323 dX12_pence_91 ly_c_mo rfl rfl (Nat.le_of_ble_eq_true rfl) rfl (by decide) ⟨Nat.zero_le _, Nat.zero_le _⟩ (fun r933 M932 h => ?_)
    refine s_istore (lv' := [some (vr c_mo), some (vi a0), some (vi a1), some (vi a2), some (vi a3), some (vi a4), some (vi r918), some (vi r933), none]) hX dX12_pence_94 rfl rfl (Nat.le_of_ble_eq_true rfl) ?_
    refine s_mask [true, false, false, true, false, true, true, true, true] (lv' := [some (vr c_mo), none, none, some (vi a2), none, some (vi a4), some (vi r918), some (vi r933), none]) rfl rfl ?_
    exact t_Mo_pence_j96 hX hq h
theorem c_Mo_pence {a0 : Int32} {a1 : Int32} {a2 : Int32} {a3 : Int32} {a4 : Int32} {M : Mem} {Q : Int32 → Mem → Prop} (h : w_Mo_pence a0 a1 a2 a3 a4 M Q) : CI yX12_pence cX12_pence 9 ((some .int)) 3 0 0 LY LY [vr c_mo, vi a0, vi a1, vi a2, vi a3, vi a4] M Q := mk_i rfl wd_co_X12_pence rfl rfl (Nat.le_of_ble_eq_true rfl) (fun X hX hq => t_Mo_pence hX hq h)
theorem mv_Mo_pence : MV yX12_pence cX12_pence 9 ((some .int)) RX12 5 := ⟨wd_co_X12_pence, wd_im_X12_pence, wd_se_X12_pence, wd_in_X12, by decide +kernel, by decide⟩
def w_Mo_hears (a0 : Int32) (a1 : Int32) (a2 : Int32) (M : Mem) (Q : Bool → Mem → Prop) : Prop :=
  w_Mo_kindOf a2 M (fun r937 M936 => ((r937 = 1 → Q false M936) ∧ (¬ r937 = 1 → w_Mo_placeAt a2 a1 M936 (fun r939 M938 => (vp_in (163 + a0) 360 ∧ w_Mo_apart r939 (M938.1 c_mo_lands (Int32.toNatClampNeg (163 + a0))) M938 (fun r941 M940 => (vp_in 4 360 ∧ (∃ bb : Bool, (if (M940.1 c_mo_lands (Int32.toNatClampNeg 4)) < r941 then (0 : Int32) else 1) = b2i bb ∧ Q bb M940))))))))
set_option maxHeartbeats 4000000 in
theorem t_Mo_hears {X : Cx} (hX : Cok X cX12_hears RX12 4 ((some .boolean)) 2 0 0) {Q : Bool → Mem → Prop} (hq : RI X 0 0 LY (bQ Q)) {M : Mem} {a0 : Int32} {a1 : Int32} {a2 : Int32} (h : w_Mo_hears a0 a1 a2 M Q) : Wat X 0 0 LY 0 [some (vr c_mo), some (vi a0), some (vi a1), some (vi a2)] [] M := by
  refine s_aload_n hX dX12_hears_0 rfl ?_
  refine s_iload_n hX dX12_hears_1 rfl ?_
  refine s_cvi (as := [vi a2]) (rest := []) hX (c_Mo_kindOf h) mv_Mo_kindOf wd_ml_X12_332 dX12_hears_2 ly_c_mo rfl rfl (Nat.le_of_ble_eq_true rfl) rfl (by decide) ⟨Nat.zero_le _, Nat.zero_le _⟩ (fun r937 M936 h => ?_)
  refine s_iconst (v := 1) hX dX12_hears_5 rfl ?_
  refine s_icmp_eq (tgt := 41) hX dX12_hears_6 (by decide) (fun c => ?_) (fun c => ?_)
  · replace h := h.1 c
    refine s_iconst (v := 0) hX dX12_hears_41 rfl ?_
    exact s_zret hX false hq rfl dX12_hears_42 rfl h
  · replace h := h.2 c
    refine s_aload_n hX dX12_hears_9 rfl ?_
    refine s_iload_n hX dX12_hears_10 rfl ?_
    refine s_iload_n hX dX12_hears_11 rfl ?_
    refine s_cvi (as := [vi a2, vi a1]) (rest := []) hX (c_Mo_placeAt h) mv_Mo_placeAt wd_ml_X12_317 dX12_hears_12 ly_c_mo rfl rfl (Nat.le_of_ble_eq_true rfl) rfl (by decide) ⟨Nat.zero_le _, Nat.zero_le _⟩ (fun r939 M938 h => ?_)
    refine s_aload_n hX dX12_hears_15 rfl ?_
    refine s_getr hX fi_X12_85 ly_c_mo rfl dX12_hears_16 ?_
    refine s_sipush (v := 163) hX dX12_hears_19 rfl ?_
    refine s_iload_n hX dX12_hears_22 rfl ?_
    refine s_iadd hX dX12_hears_23 ?_
    have hi := h.1
    replace h := h.2
    refine s_ialdv (v := (M938.1 c_mo_lands (Int32.toNatClampNeg (163 + a0)))) hX ly_c_mo_lands hi dX12_hears_24 rfl ?_
    refine s_csi (as := [vi r939, vi (M938.1 c_mo_lands (Int32.toNatClampNeg (163 + a0)))]) (rest := []) hX (c_Mo_apart h) ms_Mo_apart wd_ml_X12_329 dX12_hears_25 rfl (Nat.le_of_ble_eq_true rfl) rfl (by decide) ⟨Nat.zero_le _, Nat.zero_le _⟩ (fun r941 M940 h => ?_)
    refine s_aload_n hX dX12_hears_28 rfl ?_
    refine s_getr hX fi_X12_85 ly_c_mo rfl dX12_hears_29 ?_
    refine s_iconst (v := 4) hX dX12_hears_32 rfl ?_
    have hi := h.1
    replace h := h.2
    refine s_ialdv (v := (M940.1 c_mo_lands (Int32.toNatClampNeg 4))) hX ly_c_mo_lands hi dX12_hears_33 rfl ?_
    have hJ : Wat X 0 0 LY 42 [some (vr c_mo), some (vi a0), some (vi a1), some (vi a2)] [vi (if (M940.1 c_mo_lands (Int32.toNatClampNeg 4)) < r941 then (0 : Int32) else 1)] M940 := by
      obtain ⟨bb, hbb, h⟩ := h
      exact s_zret hX bb hq rfl dX12_hears_42 hbb h
    refine s_icmp_gt (tgt := 41) hX dX12_hears_34 (by decide) (fun c => ?_) (fun c => ?_)
    · rw [if_pos c] at hJ
      refine s_iconst (v := 0) hX dX12_hears_41 rfl ?_
      exact hJ
    · rw [if_neg c] at hJ
      refine s_iconst (v := 1) hX dX12_hears_37 rfl ?_
      refine s_goto (tgt := 42) hX dX12_hears_38 (by decide) ?_
      exact hJ
theorem c_Mo_hears {a0 : Int32} {a1 : Int32} {a2 : Int32} {M : Mem} {Q : Bool → Mem → Prop} (h : w_Mo_hears a0 a1 a2 M Q) : CI yX12_hears cX12_hears 4 ((some .boolean)) 2 0 0 LY LY [vr c_mo, vi a0, vi a1, vi a2] M (bQ Q) := mk_i rfl wd_co_X12_hears rfl rfl (Nat.le_of_ble_eq_true rfl) (fun X hX hq => t_Mo_hears hX hq h)
theorem mv_Mo_hears : MV yX12_hears cX12_hears 4 ((some .boolean)) RX12 3 := ⟨wd_co_X12_hears, wd_im_X12_hears, wd_se_X12_hears, wd_in_X12, by decide +kernel, by decide⟩
def w_Mo_fogAt (a0 : Int32) (a1 : Int32) (M : Mem) (Q : Int32 → Mem → Prop) : Prop :=
  (vp_in 6 360 ∧ ((0 ≤ (M.1 c_mo_lands (Int32.toNatClampNeg 6)) → (vp_in 0 6 ∧ w_Mo_placeAt a0 a1 (si M c_mo_facts (Int32.toNatClampNeg 0) a1) (fun r945 M944 => (vp_in 4 6 ∧ w_Mo_placeAt a0 a1 (si M944 c_mo_facts (Int32.toNatClampNeg 4) (r945 - r945 / 8 * 8)) (fun r947 M946 => (vp_in 5 6 ∧ (vp_in 6 360 ∧ w_Mo_worthAt (M946.1 c_mo_lands (Int32.toNatClampNeg 6)) (si M946 c_mo_facts (Int32.toNatClampNeg 5) (r947 / 8)) (fun r949 M948 => w_Mo_clip r949 14 M948 (fun r951 M950 => Q r951 M950))))))))) ∧ (¬ 0 ≤ (M.1 c_mo_lands (Int32.toNatClampNeg 6)) → Q 14 M)))
set_option maxHeartbeats 4000000 in
theorem t_Mo_fogAt {X : Cx} (hX : Cok X cX12_fogAt RX12 3 ((some .int)) 3 0 0) {Q : Int32 → Mem → Prop} (hq : RI X 0 0 LY Q) {M : Mem} {a0 : Int32} {a1 : Int32} (h : w_Mo_fogAt a0 a1 M Q) : Wat X 0 0 LY 0 [some (vr c_mo), some (vi a0), some (vi a1)] [] M := by
  refine s_aload_n hX dX12_fogAt_0 rfl ?_
  refine s_getr hX fi_X12_85 ly_c_mo rfl dX12_fogAt_1 ?_
  refine s_bipush (v := 6) hX dX12_fogAt_4 rfl ?_
  have hi := h.1
  replace h := h.2
  refine s_ialdv (v := (M.1 c_mo_lands (Int32.toNatClampNeg 6))) hX ly_c_mo_lands hi dX12_fogAt_6 rfl ?_
  refine s_if_ge (tgt := 13) hX dX12_fogAt_7 (by decide) (fun c => ?_) (fun c => ?_)
  · replace h := h.1 c
    refine s_aload_n hX dX12_fogAt_13 rfl ?_
    refine s_getr hX fi_X12_109 ly_c_mo rfl dX12_fogAt_14 ?_
    refine s_iconst (v := 0) hX dX12_fogAt_17 rfl ?_
    refine s_iload_n hX dX12_fogAt_18 rfl ?_
    have hi := h.1
    replace h := h.2
    refine s_iast hX ly_c_mo_facts hi dX12_fogAt_19 ?_
    refine s_aload_n hX dX12_fogAt_20 rfl ?_
    refine s_getr hX fi_X12_109 ly_c_mo rfl dX12_fogAt_21 ?_
    refine s_iconst (v := 4) hX dX12_fogAt_24 rfl ?_
    refine s_aload_n hX dX12_fogAt_25 rfl ?_
    refine s_iload_n hX dX12_fogAt_26 rfl ?_
    refine s_iload_n hX dX12_fogAt_27 rfl ?_
    refine s_cvi (as := [vi a0, vi a1]) (rest := [vi 4, vr c_mo_facts]) hX (c_Mo_placeAt h) mv_Mo_placeAt wd_ml_X12_317 dX12_fogAt_28 ly_c_mo rfl rfl (Nat.le_of_ble_eq_true rfl) rfl (by decide) ⟨Nat.zero_le _, Nat.zero_le _⟩ (fun r945 M944 h => ?_)
    refine s_bipush (v := 8) hX dX12_fogAt_31 rfl ?_
    refine s_irem hX dX12_fogAt_33 (by decide) ?_
    have hi := h.1
    replace h := h.2
    refine s_iast hX ly_c_mo_facts hi dX12_fogAt_34 ?_
    refine s_aload_n hX dX12_fogAt_35 rfl ?_
    refine s_getr hX fi_X12_109 ly_c_mo rfl dX12_fogAt_36 ?_
    refine s_iconst (v := 5) hX dX12_fogAt_39 rfl ?_
    refine s_aload_n hX dX12_fogAt_40 rfl ?_
    refine s_iload_n hX dX12_fogAt_41 rfl ?_
    refine s_iload_n hX dX12_fogAt_42 rfl ?_
    refine s_cvi (as := [vi a0, vi a1]) (rest := [vi 5, vr c_mo_facts]) hX (c_Mo_placeAt h) mv_Mo_placeAt wd_ml_X12_317 dX12_fogAt_43 ly_c_mo rfl rfl (Nat.le_of_ble_eq_true rfl) rfl (by decide) ⟨Nat.zero_le _, Nat.zero_le _⟩ (fun r947 M946 h => ?_)
    refine s_bipush (v := 8) hX dX12_fogAt_46 rfl ?_
    refine s_idiv hX dX12_fogAt_48 (by decide) ?_
    have hi := h.1
    replace h := h.2
    refine s_iast hX ly_c_mo_facts hi dX12_fogAt_49 ?_
    refine s_aload_n hX dX12_fogAt_50 rfl ?_
    refine s_aload_n hX dX12_fogAt_51 rfl ?_
    refine s_aload_n hX dX12_fogAt_52 rfl ?_
    refine s_getr hX fi_X12_85 ly_c_mo rfl dX12_fogAt_53 ?_
    refine s_bipush (v := 6) hX dX12_fogAt_56 rfl ?_
    have hi := h.1
    replace h := h.2
    refine s_ialdv (v := (M946.1 c_mo_lands (Int32.toNatClampNeg 6))) hX ly_c_mo_lands hi dX12_fogAt_58 rfl ?_
    refine s_cvi (as := [vi (M946.1 c_mo_lands (Int32.toNatClampNeg 6))]) (rest := [vr c_mo]) hX (c_Mo_worthAt h) mv_Mo_worthAt wd_ml_X12_320 dX12_fogAt_59 ly_c_mo rfl rfl (Nat.le_of_ble_eq_true rfl) rfl (by decide) ⟨Nat.zero_le _, Nat.zero_le _⟩ (fun r949 M948 h => ?_)
    refine s_bipush (v := 14) hX dX12_fogAt_62 rfl ?_
    refine s_cvi (as := [vi r949, vi 14]) (rest := []) hX (c_Mo_clip h) mv_Mo_clip wd_ml_X12_323 dX12_fogAt_64 ly_c_mo rfl rfl (Nat.le_of_ble_eq_true rfl) rfl (by decide) ⟨Nat.zero_le _, Nat.zero_le _⟩ (fun r951 M950 h => ?_)
    exact s_iret hX hq rfl dX12_fogAt_67 h
  · replace h := h.2 c
    refine s_bipush (v := 14) hX dX12_fogAt_10 rfl ?_
    exact s_iret hX hq rfl dX12_fogAt_12 h
theorem c_Mo_fogAt {a0 : Int32} {a1 : Int32} {M : Mem} {Q : Int32 → Mem → Prop} (h : w_Mo_fogAt a0 a1 M Q) : CI yX12_fogAt cX12_fogAt 3 ((some .int)) 3 0 0 LY LY [vr c_mo, vi a0, vi a1] M Q := mk_i rfl wd_co_X12_fogAt rfl rfl (Nat.le_of_ble_eq_true rfl) (fun X hX hq => t_Mo_fogAt hX hq h)
theorem mv_Mo_fogAt : MV yX12_fogAt cX12_fogAt 3 ((some .int)) RX12 2 := ⟨wd_co_X12_fogAt, wd_im_X12_fogAt, wd_se_X12_fogAt, wd_in_X12, by decide +kernel, by decide⟩
