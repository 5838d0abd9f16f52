def w_Mo_isWord (a0 : Int32) (M : Mem) (Q : Bool → Mem → Prop) : Prop :=
  ((¬ (M.1 c_mo Mo_fault) = 0 → Q false M) ∧ ((M.1 c_mo Mo_fault) = 0 → (vp_in (M.1 c_mo Mo_at) 1002 ∧ ((¬ (M.1 c_mo_sort (Int32.toNatClampNeg (M.1 c_mo Mo_at))) = 1 → Q false M) ∧ ((M.1 c_mo_sort (Int32.toNatClampNeg (M.1 c_mo Mo_at))) = 1 → (vp_in (M.1 c_mo Mo_at) 1002 ∧ (vp_in a0 24 ∧ (∃ bb : Bool, (if (lg_cmp (M.2 c_mo_value (Int32.toNatClampNeg (M.1 c_mo Mo_at))) (M.2 c_mo_words (Int32.toNatClampNeg a0))) = 0 then (1 : Int32) else 0) = b2i bb ∧ Q bb M))))))))
set_option maxHeartbeats 4000000 in
theorem t_Mo_isWord {X : Cx} (hX : Cok X cX12_isWord RX12 2 ((some .boolean)) 1 0 0) {Q : Bool → Mem → Prop} (hq : RI X 0 0 LY (bQ Q)) {M : Mem} {a0 : Int32} (h : w_Mo_isWord a0 M Q) : Wat X 0 0 LY 0 [some (vr c_mo), some (vi a0)] [] M := by
  refine s_aload_n hX dX12_isWord_0 rfl ?_
  refine s_getiv (v := (M.1 c_mo Mo_fault)) hX fi_X12_179 ly_c_mo rfl dX12_isWord_1 rfl ?_
  refine s_if_ne (tgt := 43) hX dX12_isWord_4 (by decide) (fun c => ?_) (fun c => ?_)
  · replace h := h.1 c
    refine s_iconst (v := 0) hX dX12_isWord_43 rfl ?_
    exact s_zret hX false hq rfl dX12_isWord_44 rfl h
  · replace h := h.2 c
    refine s_aload_n hX dX12_isWord_7 rfl ?_
    refine s_getr hX fi_X12_24 ly_c_mo rfl dX12_isWord_8 ?_
    refine s_aload_n hX dX12_isWord_11 rfl ?_
    refine s_getiv (v := (M.1 c_mo Mo_at)) hX fi_X12_176 ly_c_mo rfl dX12_isWord_12 rfl ?_
    have hi := h.1
    replace h := h.2
    refine s_ialdv (v := (M.1 c_mo_sort (Int32.toNatClampNeg (M.1 c_mo Mo_at)))) hX ly_c_mo_sort hi dX12_isWord_15 rfl ?_
    refine s_iconst (v := 1) hX dX12_isWord_16 rfl ?_
    refine s_icmp_ne (tgt := 43) hX dX12_isWord_17 (by decide) (fun c => ?_) (fun c => ?_)
    · replace h := h.1 c
      refine s_iconst (v := 0) hX dX12_isWord_43 rfl ?_
      exact s_zret hX false hq rfl dX12_isWord_44 rfl h
    · replace h := h.2 c
      refine s_aload_n hX dX12_isWord_20 rfl ?_
      refine s_getr hX fi_X12_30 ly_c_mo rfl dX12_isWord_21 ?_
      refine s_aload_n hX dX12_isWord_24 rfl ?_
      refine s_getiv (v := (M.1 c_mo Mo_at)) hX fi_X12_176 ly_c_mo rfl dX12_isWord_25 rfl ?_
      have hi := h.1
      replace h := h.2
      refine s_laldv (v := (M.2 c_mo_value (Int32.toNatClampNeg (M.1 c_mo Mo_at)))) hX ly_c_mo_value hi dX12_isWord_28 rfl ?_
      refine s_aload_n hX dX12_isWord_29 rfl ?_
      refine s_getr hX fi_X12_82 ly_c_mo rfl dX12_isWord_30 ?_
      refine s_iload_n hX dX12_isWord_33 rfl ?_
      have hi := h.1
      replace h := h.2
      refine s_laldv (v := (M.2 c_mo_words (Int32.toNatClampNeg a0))) hX ly_c_mo_words hi dX12_isWord_34 rfl ?_
      refine s_lcmp hX dX12_isWord_35 ?_
      have hJ : Wat X 0 0 LY 44 [some (vr c_mo), some (vi a0)] [vi (if (lg_cmp (M.2 c_mo_value (Int32.toNatClampNeg (M.1 c_mo Mo_at))) (M.2 c_mo_words (Int32.toNatClampNeg a0))) = 0 then (1 : Int32) else 0)] M := by
        obtain ⟨bb, hbb, h⟩ := h
        exact s_zret hX bb hq rfl dX12_isWord_44 hbb h
      refine s_if_ne (tgt := 43) hX dX12_isWord_36 (by decide) (fun c => ?_) (fun c => ?_)
      · rw [if_neg c] at hJ
        refine s_iconst (v := 0) hX dX12_isWord_43 rfl ?_
        exact hJ
      · rw [if_pos c] at hJ
        refine s_iconst (v := 1) hX dX12_isWord_39 rfl ?_
        refine s_goto (tgt := 44) hX dX12_isWord_40 (by decide) ?_
        exact hJ
theorem c_Mo_isWord {a0 : Int32} {M : Mem} {Q : Bool → Mem → Prop} (h : w_Mo_isWord a0 M Q) : CI yX12_isWord cX12_isWord 2 ((some .boolean)) 1 0 0 LY LY [vr c_mo, vi a0] M (bQ Q) := mk_i rfl wd_co_X12_isWord rfl rfl (Nat.le_of_ble_eq_true rfl) (fun X hX hq => t_Mo_isWord hX hq h)
theorem mv_Mo_isWord : MV yX12_isWord cX12_isWord 2 ((some .boolean)) RX12 1 := ⟨wd_co_X12_isWord, wd_im_X12_isWord, wd_se_X12_isWord, wd_in_X12, by decide +kernel, by decide⟩
def w_Mo_hasWord (a0 : Int32) (M : Mem) (Q : Bool → Mem → Prop) : Prop :=
  w_Mo_isWord a0 M (fun b679 M678 => Q b679 (si M678 c_mo Mo_at ((M678.1 c_mo Mo_at) + (if b679 = true then (1 : Int32) else 0))))
set_option maxHeartbeats 4000000 in
theorem t_Mo_hasWord {X : Cx} (hX : Cok X cX12_hasWord RX12 3 ((some .boolean)) 2 0 0) {Q : Bool → Mem → Prop} (hq : RI X 0 0 LY (bQ Q)) {M : Mem} {a0 : Int32} (h : w_Mo_hasWord a0 M Q) : Wat X 0 0 LY 0 [some (vr c_mo), some (vi a0), none] [] M := by
  refine s_aload_n hX dX12_hasWord_0 rfl ?_
  refine s_iload_n hX dX12_hasWord_1 rfl ?_
  refine s_cvi (as := [vi a0]) (rest := []) hX (c_Mo_isWord h) mv_Mo_isWord wd_ml_X12_188 dX12_hasWord_2 ly_c_mo rfl rfl (Nat.le_of_ble_eq_true rfl) rfl (by decide) ⟨Nat.zero_le _, Nat.zero_le _⟩ (fun b679_ M678 h => ?_)
  obtain ⟨b679, rfl, h⟩ := h
  refine s_istore_n (lv' := [some (vr c_mo), some (vi a0), some (vi (b2i b679))]) hX dX12_hasWord_5 rfl rfl (Nat.le_of_ble_eq_true rfl) ?_
  refine s_aload_n hX dX12_hasWord_6 rfl ?_
  refine s_dup hX dX12_hasWord_7 rfl ?_
  refine s_getiv (v := (M678.1 c_mo Mo_at)) hX fi_X12_176 ly_c_mo rfl dX12_hasWord_8 rfl ?_
  refine s_iload_n hX dX12_hasWord_11 rfl ?_
  have hJ : Wat X 0 0 LY 20 [some (vr c_mo), some (vi a0), some (vi (b2i b679))] [vi (if b679 = true then (1 : Int32) else 0), vi (M678.1 c_mo Mo_at), vr c_mo] M678 := by
    refine s_iadd hX dX12_hasWord_20 ?_
    refine s_puti hX fi_X12_176 fp_X12 rfl (by decide +kernel) ly_c_mo rfl dX12_hasWord_21 ?_
    refine s_iload_n hX dX12_hasWord_24 rfl ?_
    exact s_zret hX _ hq rfl dX12_hasWord_25 rfl h
  refine s_if_eq (tgt := 19) hX dX12_hasWord_12 (by decide) (fun c => ?_) (fun c => ?_)
  · rw [if_neg (by simp [b2i_0 c])] at hJ
    refine s_iconst (v := 0) hX dX12_hasWord_19 rfl ?_
    exact hJ
  · rw [if_pos (by simp [b2i_1 c])] at hJ
    refine s_iconst (v := 1) hX dX12_hasWord_15 rfl ?_
    refine s_goto (tgt := 20) hX dX12_hasWord_16 (by decide) ?_
    exact hJ
theorem c_Mo_hasWord {a0 : Int32} {M : Mem} {Q : Bool → Mem → Prop} (h : w_Mo_hasWord a0 M Q) : CI yX12_hasWord cX12_hasWord 3 ((some .boolean)) 2 0 0 LY LY [vr c_mo, vi a0] M (bQ Q) := mk_i rfl wd_co_X12_hasWord rfl rfl (Nat.le_of_ble_eq_true rfl) (fun X hX hq => t_Mo_hasWord hX hq h)
theorem mv_Mo_hasWord : MV yX12_hasWord cX12_hasWord 3 ((some .boolean)) RX12 1 := ⟨wd_co_X12_hasWord, wd_im_X12_hasWord, wd_se_X12_hasWord, wd_in_X12, by decide +kernel, by decide⟩
def w_Mo_wrong (a0 : Int32) (M : Mem) (Q : Mem → Prop) : Prop :=
  ((¬ (M.1 c_mo Mo_fault) = 0 → Q M) ∧ ((M.1 c_mo Mo_fault) = 0 → (vp_in (M.1 c_mo Mo_at) 1002 ∧ Q (si M c_mo Mo_fault (a0 + (16 * (M.1 c_mo_place (Int32.toNatClampNeg (M.1 c_mo Mo_at)))))))))
set_option maxHeartbeats 4000000 in
theorem t_Mo_wrong {X : Cx} (hX : Cok X cX12_wrong RX12 2 none 1 0 0) {Q : Mem → Prop} (hq : RV X 0 0 LY Q) {M : Mem} {a0 : Int32} (h : w_Mo_wrong a0 M Q) : Wat X 0 0 LY 0 [some (vr c_mo), some (vi a0)] [] M := by
  refine s_aload_n hX dX12_wrong_0 rfl ?_
  refine s_getiv (v := (M.1 c_mo Mo_fault)) hX fi_X12_179 ly_c_mo rfl dX12_wrong_1 rfl ?_
  refine s_if_ne (tgt := 25) hX dX12_wrong_4 (by decide) (fun c => ?_) (fun c => ?_)
  · replace h := h.1 c
    exact s_vret hX hq rfl dX12_wrong_25 h
  · replace h := h.2 c
    refine s_aload_n hX dX12_wrong_7 rfl ?_
    refine s_iload_n hX dX12_wrong_8 rfl ?_
    refine s_bipush (v := 16) hX dX12_wrong_9 rfl ?_
    refine s_aload_n hX dX12_wrong_11 rfl ?_
    refine s_getr hX fi_X12_27 ly_c_mo rfl dX12_wrong_12 ?_
    refine s_aload_n hX dX12_wrong_15 rfl ?_
    refine s_getiv (v := (M.1 c_mo Mo_at)) hX fi_X12_176 ly_c_mo rfl dX12_wrong_16 rfl ?_
    have hi := h.1
    replace h := h.2
    refine s_ialdv (v := (M.1 c_mo_place (Int32.toNatClampNeg (M.1 c_mo Mo_at)))) hX ly_c_mo_place hi dX12_wrong_19 rfl ?_
    refine s_imul hX dX12_wrong_20 ?_
    refine s_iadd hX dX12_wrong_21 ?_
    refine s_puti hX fi_X12_179 fp_X12 rfl (by decide +kernel) ly_c_mo rfl dX12_wrong_22 ?_
    exact s_vret hX hq rfl dX12_wrong_25 h
theorem c_Mo_wrong {a0 : Int32} {M : Mem} {Q : Mem → Prop} (h : w_Mo_wrong a0 M Q) : CV yX12_wrong cX12_wrong 2 none 1 0 0 LY LY [vr c_mo, vi a0] M Q := mk_v rfl wd_co_X12_wrong rfl rfl (Nat.le_of_ble_eq_true rfl) (fun X hX hq => t_Mo_wrong hX hq h)
theorem mv_Mo_wrong : MV yX12_wrong cX12_wrong 2 none RX12 1 := ⟨wd_co_X12_wrong, wd_im_X12_wrong, wd_se_X12_wrong, wd_in_X12, by decide +kernel, by decide⟩
def w_Mo_takeWord (a0 : Int32) (M : Mem) (Q : Mem → Prop) : Prop :=
  w_Mo_hasWord a0 M (fun b681 M680 => ((b681 = true → Q M680) ∧ (b681 = false → w_Mo_wrong 1 M680 (fun M682 => Q M682))))
set_option maxHeartbeats 4000000 in
theorem t_Mo_takeWord {X : Cx} (hX : Cok X cX12_takeWord RX12 2 none 3 0 0) {Q : Mem → Prop} (hq : RV X 0 0 LY Q) {M : Mem} {a0 : Int32} (h : w_Mo_takeWord a0 M Q) : Wat X 0 0 LY 0 [some (vr c_mo), some (vi a0)] [] M := by
  refine s_aload_n hX dX12_takeWord_0 rfl ?_
  refine s_iload_n hX dX12_takeWord_1 rfl ?_
  refine s_cvi (as := [vi a0]) (rest := []) hX (c_Mo_hasWord h) mv_Mo_hasWord wd_ml_X12_191 dX12_takeWord_2 ly_c_mo rfl rfl (Nat.le_of_ble_eq_true rfl) rfl (by decide) ⟨Nat.zero_le _, Nat.zero_le _⟩ (fun b681_ M680 h => ?_)
  obtain ⟨b681, rfl, h⟩ := h
  refine s_if_ne (tgt := 13) hX dX12_takeWord_5 (by decide) (fun c => ?_) (fun c => ?_)
  · replace h := h.1 (b2i_1 c)
    exact s_vret hX hq rfl dX12_takeWord_13 h
  · replace h := h.2 (b2i_0 c)
    refine s_aload_n hX dX12_takeWord_8 rfl ?_
    refine s_iconst (v := 1) hX dX12_takeWord_9 rfl ?_
    refine s_cvv (as := [vi 1]) (rest := []) hX (c_Mo_wrong h) mv_Mo_wrong wd_ml_X12_185 dX12_takeWord_10 ly_c_mo rfl rfl (Nat.le_of_ble_eq_true rfl) rfl (by decide) ⟨Nat.zero_le _, Nat.zero_le _⟩ (fun M682 h => ?_)
    exact s_vret hX hq rfl dX12_takeWord_13 h
theorem c_Mo_takeWord {a0 : Int32} {M : Mem} {Q : Mem → Prop} (h : w_Mo_takeWord a0 M Q) : CV yX12_takeWord cX12_takeWord 2 none 3 0 0 LY LY [vr c_mo, vi a0] M Q := mk_v rfl wd_co_X12_takeWord rfl rfl (Nat.le_of_ble_eq_true rfl) (fun X hX hq => t_Mo_takeWord hX hq h)
theorem mv_Mo_takeWord : MV yX12_takeWord cX12_takeWord 2 none RX12 1 := ⟨wd_co_X12_takeWord, wd_im_X12_takeWord, wd_se_X12_takeWord, wd_in_X12, by decide +kernel, by decide⟩
def w_Mo_takeNumber_j70 (M : Mem) (Q : Int32 → Mem → Prop) : Prop :=
  (((M.1 c_mo Mo_fault) ≤ 0 → (vp_in (((M.1 c_mo Mo_at) + 1) - 1) 1002 ∧ Q (Int64.toInt32 (M.2 c_mo_value (Int32.toNatClampNeg (((M.1 c_mo Mo_at) + 1) - 1)))) (si M c_mo Mo_at ((M.1 c_mo Mo_at) + 1)))) ∧ (¬ (M.1 c_mo Mo_fault) ≤ 0 → Q 0 M))
set_option maxHeartbeats 4000000 in
theorem t_Mo_takeNumber_j70 {X : Cx} (hX : Cok X cX12_takeNumber RX12 3 ((some .int)) 2 0 0) {Q : Int32 → Mem → Prop} (hq : RI X 0 0 LY Q) {M : Mem} (h : w_Mo_takeNumber_j70 M Q) : Wat X 0 0 LY 70 [some (vr c_mo), none, none] [] M := by
  refine s_aload_n hX dX12_takeNumber_70 rfl ?_
  refine s_getiv (v := (M.1 c_mo Mo_fault)) hX fi_X12_179 ly_c_mo rfl dX12_takeNumber_71 rfl ?_
  refine s_if_le (tgt := 79) hX dX12_takeNumber_74 (by decide) (fun c => ?_) (fun c => ?_)
  · replace h := h.1 c
    refine s_aload_n hX dX12_takeNumber_79 rfl ?_
    refine s_dup hX dX12_takeNumber_80 rfl ?_
    refine s_getiv (v := (M.1 c_mo Mo_at)) hX fi_X12_176 ly_c_mo rfl dX12_takeNumber_81 rfl ?_
    refine s_iconst (v := 1) hX dX12_takeNumber_84 rfl ?_
    refine s_iadd hX dX12_takeNumber_85 ?_
    refine s_puti hX fi_X12_176 fp_X12 rfl (by decide +kernel) ly_c_mo rfl dX12_takeNumber_86 ?_
    refine s_aload_n hX dX12_takeNumber_89 rfl ?_
    refine s_getr hX fi_X12_30 ly_c_mo rfl dX12_takeNumber_90 ?_
    refine s_aload_n hX dX12_takeNumber_93 rfl ?_
    refine s_getiv (v := ((M.1 c_mo Mo_at) + 1)) hX fi_X12_176 ly_c_mo rfl dX12_takeNumber_94 rfl ?_
    refine s_iconst (v := 1) hX dX12_takeNumber_97 rfl ?_
    refine s_isub hX dX12_takeNumber_98 ?_
    have hi := h.1
    replace h := h.2
    refine s_laldv (v := (M.2 c_mo_value (Int32.toNatClampNeg (((M.1 c_mo Mo_at) + 1) - 1)))) hX ly_c_mo_value hi dX12_takeNumber_99 rfl ?_
    refine s_l2i hX dX12_takeNumber_100 ?_
    exact s_iret hX hq rfl dX12_takeNumber_101 h
  · replace h := h.2 c
    refine s_iconst (v := 0) hX dX12_takeNumber_77 rfl ?_
    exact s_iret hX hq rfl dX12_takeNumber_78 h
def w_Mo_takeNumber_j65 (M : Mem) (Q : Int32 → Mem → Prop) : Prop :=
  w_Mo_wrong 4 M (fun M684 => w_Mo_takeNumber_j70 M684 Q)
set_option maxHeartbeats 4000000 in
theorem t_Mo_takeNumber_j65 {X : Cx} (hX : Cok X cX12_takeNumber RX12 3 ((some .int)) 2 0 0) {Q : Int32 → Mem → Prop} (hq : RI X 0 0 LY Q) {M : Mem} (h : w_Mo_takeNumber_j65 M Q) : Wat X 0 0 LY 65 [some (vr c_mo), none, none] [] M := by
  refine s_aload_n hX dX12_takeNumber_65 rfl ?_
  refine s_iconst (v := 4) hX dX12_takeNumber_66 rfl ?_
  refine s_cvv (as := [vi 4]) (rest := []) hX (c_Mo_wrong h) mv_Mo_wrong wd_ml_X12_185 dX12_takeNumber_67 ly_c_mo rfl rfl (Nat.le_of_ble_eq_true rfl) rfl (by decide) ⟨Nat.zero_le _, Nat.zero_le _⟩ (fun M684 h => ?_)
  exact t_Mo_takeNumber_j70 hX hq h
def w_Mo_takeNumber_j28 (l1 : Int32) (l2 : Int32) (M : Mem) (Q : Int32 → Mem → Prop) : Prop :=
  ((¬ (M.1 c_mo Mo_fault) = 0 → w_Mo_takeNumber_j70 M Q) ∧ ((M.1 c_mo Mo_fault) = 0 → (vp_in (M.1 c_mo Mo_at) 1002 ∧ (((lg_cmp (M.2 c_mo_value (Int32.toNatClampNeg (M.1 c_mo Mo_at))) (Int32.toInt64 l1)) < 0 → w_Mo_takeNumber_j65 M Q) ∧ (¬ (lg_cmp (M.2 c_mo_value (Int32.toNatClampNeg (M.1 c_mo Mo_at))) (Int32.toInt64 l1)) < 0 → (vp_in (M.1 c_mo Mo_at) 1002 ∧ (((lg_cmp (M.2 c_mo_value (Int32.toNatClampNeg (M.1 c_mo Mo_at))) (Int32.toInt64 l2)) ≤ 0 → w_Mo_takeNumber_j70 M Q) ∧ (¬ (lg_cmp (M.2 c_mo_value (Int32.toNatClampNeg (M.1 c_mo Mo_at))) (Int32.toInt64 l2)) ≤ 0 → w_Mo_takeNumber_j65 M Q))))))))
set_option maxHeartbeats 4000000 in
theorem t_Mo_takeNumber_j28 {X : Cx} (hX : Cok X cX12_takeNumber RX12 3 ((some .int)) 2 0 0) {Q : Int32 → Mem → Prop} (hq : RI X 0 0 LY Q) {l1 : Int32} {l2 : Int32} {M : Mem} (h : w_Mo_takeNumber_j28 l1 l2 M Q) : Wat X 0 0 LY 28 [some (vr c_mo), some (vi l1), some (vi l2)] [] M := by
  refine s_aload_n hX dX12_takeNumber_28 rfl ?_
  refine s_getiv (v := (M.1 c_mo Mo_fault)) hX fi_X12_179 ly_c_mo rfl dX12_takeNumber_29 rfl ?_
  refine s_if_ne (tgt := 70) hX dX12_takeNumber_32 (by decide) (fun c => ?_) (fun c => ?_)
  · replace h := h.1 c
    refine s_mask [true, false, false] (lv' := [some (vr c_mo), none, none]) rfl rfl ?_
    exact t_Mo_takeNumber_j70 hX hq h
  · replace h := h.2 c
    refine s_aload_n hX dX12_takeNumber_35 rfl ?_
    refine s_getr hX fi_X12_30 ly_c_mo rfl dX12_takeNumber_36 ?_
    refine s_aload_n hX dX12_takeNumber_39 rfl ?_
    refine s_getiv (v := (M.1 c_mo Mo_at)) hX fi_X12_176 ly_c_mo rfl dX12_takeNumber_40 rfl ?_
    have hi := h.1
    replace h := h.2
    refine s_laldv (v := (M.2 c_mo_value (Int32.toNatClampNeg (M.1 c_mo Mo_at)))) hX ly_c_mo_value hi dX12_takeNumber_43 rfl ?_
    refine s_iload_n hX dX12_takeNumber_44 rfl ?_
    refine s_i2l hX dX12_takeNumber_45 ?_
    refine s_lcmp hX dX12_takeNumber_46 ?_
    refine s_if_lt (tgt := 65) hX dX12_takeNumber_47 (by decide) (fun c => ?_) (fun c => ?_)
    · replace h := h.1 c
      refine s_mask [true, false, false] (lv' := [some (vr c_mo), none, none]) rfl rfl ?_
      exact t_Mo_takeNumber_j65 hX hq h
    · replace h := h.2 c
      refine s_aload_n hX dX12_takeNumber_50 rfl ?_
      refine s_getr hX fi_X12_30 ly_c_mo rfl dX12_takeNumber_51 ?_
      refine s_aload_n hX dX12_takeNumber_54 rfl ?_
      refine s_getiv (v := (M.1 c_mo Mo_at)) hX fi_X12_176 ly_c_mo rfl dX12_takeNumber_55 rfl ?_
      have hi := h.1
      replace h := h.2
      refine s_laldv (v := (M.2 c_mo_value (Int32.toNatClampNeg (M.1 c_mo Mo_at)))) hX ly_c_mo_value hi dX12_takeNumber_58 rfl ?_
      refine s_iload_n hX dX12_takeNumber_59 rfl ?_
      refine s_i2l hX dX12_takeNumber_60 ?_
      refine s_lcmp hX dX12_takeNumber_61 ?_
      refine s_if_le (tgt := 70) hX dX12_takeNumber_62 (by decide) (fun c => ?_) (fun c => ?_)
      · replace h := h.1 c
        refine s_mask [true, false, false] (lv' := [some (vr c_mo), none, none]) rfl rfl ?_
        exact t_Mo_takeNumber_j70 hX hq h
      · replace h := h.2 c
        refine s_mask [true, false, false] (lv' := [some (vr c_mo), none, none]) rfl rfl ?_
        exact t_Mo_takeNumber_j65 hX hq h
def w_Mo_takeNumber (a0 : Int32) (a1 : Int32) (M : Mem) (Q : Int32 → Mem → Prop) : Prop :=
  ((¬ (M.1 c_mo Mo_fault) = 0 → w_Mo_takeNumber_j28 a0 a1 M Q) ∧ ((M.1 c_mo Mo_fault) = 0 → (vp_in (M.1 c_mo Mo_at) 1002 ∧ (((M.1 c_mo_sort (Int32.toNatClampNeg (M.1 c_mo Mo_at))) = 2 → w_Mo_takeNumber_j28 a0 a1 M Q) ∧ (¬ (M.1 c_mo_sort (Int32.toNatClampNeg (M.1 c_mo Mo_at))) = 2 → w_Mo_wrong 1 M (fun M685 => w_Mo_takeNumber_j70 M685 Q))))))
set_option maxHeartbeats 4000000 in
theorem t_Mo_takeNumber {X : Cx} (hX : Cok X cX12_takeNumber RX12 3 ((some .int)) 2 0 0) {Q : Int32 → Mem → Prop} (hq : RI X 0 0 LY Q) {M : Mem} {a0 : Int32} {a1 : Int32} (h : w_Mo_takeNumber a0 a1 M Q) : Wat X 0 0 LY 0 [some (vr c_mo), some (vi a0), some (vi a1)] [] M := by
  refine s_aload_n hX dX12_takeNumber_0 rfl ?_
  refine s_getiv (v := (M.1 c_mo Mo_fault)) hX fi_X12_179 ly_c_mo rfl dX12_takeNumber_1 rfl ?_
  refine s_if_ne (tgt := 28) hX dX12_takeNumber_4 (by decide) (fun c => ?_) (fun c => ?_)
  · replace h := h.1 c
    exact t_Mo_takeNumber_j28 hX hq h
  · replace h := h.2 c
    refine s_aload_n hX dX12_takeNumber_7 rfl ?_
    refine s_getr hX fi_X12_24 ly_c_mo rfl dX12_takeNumber_8 ?_
    refine s_aload_n hX dX12_takeNumber_11 rfl ?_
    refine s_getiv (v := (M.1 c_mo Mo_at)) hX fi_X12_176 ly_c_mo rfl dX12_takeNumber_12 rfl ?_
    have hi := h.1
    replace h := h.2
    refine s_ialdv (v := (M.1 c_mo_sort (Int32.toNatClampNeg (M.1 c_mo Mo_at)))) hX ly_c_mo_sort hi dX12_takeNumber_15 rfl ?_
    refine s_iconst (v := 2) hX dX12_takeNumber_16 rfl ?_
    refine s_icmp_eq (tgt := 28) hX dX12_takeNumber_17 (by decide) (fun c => ?_) (fun c => ?_)
    · replace h := h.1 c
      exact t_Mo_takeNumber_j28 hX hq h
    · replace h := h.2 c
      refine s_aload_n hX dX12_takeNumber_20 rfl ?_
      refine s_iconst (v := 1) hX dX12_takeNumber_21 rfl ?_
      refine s_cvv (as := [vi 1]) (rest := []) hX (c_Mo_wrong h) mv_Mo_wrong wd_ml_X12_185 dX12_takeNumber_22 ly_c_mo rfl rfl (Nat.le_of_ble_eq_true rfl) rfl (by decide) ⟨Nat.zero_le _, Nat.zero_le _⟩ (fun M685 h => ?_)
      refine s_goto (tgt := 70) hX dX12_takeNumber_25 (by decide) ?_
      refine s_mask [true, false, false] (lv' := [some (vr c_mo), none, none]) rfl rfl ?_
      exact t_Mo_takeNumber_j70 hX hq h
theorem c_Mo_takeNumber {a0 : Int32} {a1 : Int32} {M : Mem} {Q : Int32 → Mem → Prop} (h : w_Mo_takeNumber a0 a1 M Q) : CI yX12_takeNumber cX12_takeNumber 3 ((some .int)) 2 0 0 LY LY [vr c_mo, vi a0, vi a1] M Q := mk_i rfl wd_co_X12_takeNumber rfl rfl (Nat.le_of_ble_eq_true rfl) (fun X hX hq => t_Mo_takeNumber hX hq h)
theorem mv_Mo_takeNumber : MV yX12_takeNumber cX12_takeNumber 3 ((some .int)) RX12 2 := ⟨wd_co_X12_takeNumber, wd_im_X12_takeNumber, wd_se_X12_takeNumber, wd_in_X12, by decide +kernel, by decide⟩
def w_Mo_isSign (a0 : Int32) (M : Mem) (Q : Bool → Mem → Prop) : Prop :=
  ((¬ (M.1 c_mo Mo_fault) = 0 → Q false M) ∧ ((M.1 c_mo Mo_fault) = 0 → (vp_in (M.1 c_mo Mo_at) 1002 ∧ ((¬ (M.1 c_mo_sort (Int32.toNatClampNeg (M.1 c_mo Mo_at))) = 3 → Q false M) ∧ ((M.1 c_mo_sort (Int32.toNatClampNeg (M.1 c_mo Mo_at))) = 3 → (vp_in (M.1 c_mo Mo_at) 1002 ∧ (∃ bb : Bool, (if (lg_cmp (M.2 c_mo_value (Int32.toNatClampNeg (M.1 c_mo Mo_at))) (Int32.toInt64 a0)) = 0 then (1 : Int32) else 0) = b2i bb ∧ Q bb M)))))))
set_option maxHeartbeats 4000000 in
theorem t_Mo_isSign {X : Cx} (hX : Cok X cX12_isSign RX12 2 ((some .boolean)) 1 0 0) {Q : Bool → Mem → Prop} (hq : RI X 0 0 LY (bQ Q)) {M : Mem} {a0 : Int32} (h : w_Mo_isSign a0 M Q) : Wat X 0 0 LY 0 [some (vr c_mo), some (vi a0)] [] M := by
  refine s_aload_n hX dX12_isSign_0 rfl ?_
  refine s_getiv (v := (M.1 c_mo Mo_fault)) hX fi_X12_179 ly_c_mo rfl dX12_isSign_1 rfl ?_
  refine s_if_ne (tgt := 39) hX dX12_isSign_4 (by decide) (fun c => ?_) (fun c => ?_)
  · replace h := h.1 c
    refine s_iconst (v := 0) hX dX12_isSign_39 rfl ?_
    exact s_zret hX false hq rfl dX12_isSign_40 rfl h
  · replace h := h.2 c
    refine s_aload_n hX dX12_isSign_7 rfl ?_
    refine s_getr hX fi_X12_24 ly_c_mo rfl dX12_isSign_8 ?_
    refine s_aload_n hX dX12_isSign_11 rfl ?_
    refine s_getiv (v := (M.1 c_mo Mo_at)) hX fi_X12_176 ly_c_mo rfl dX12_isSign_12 rfl ?_
    have hi := h.1
    replace h := h.2
    refine s_ialdv (v := (M.1 c_mo_sort (Int32.toNatClampNeg (M.1 c_mo Mo_at)))) hX ly_c_mo_sort hi dX12_isSign_15 rfl ?_
    refine s_iconst (v := 3) hX dX12_isSign_16 rfl ?_
    refine s_icmp_ne (tgt := 39) hX dX12_isSign_17 (by decide) (fun c => ?_) (fun c => ?_)
    · replace h := h.1 c
      refine s_iconst (v := 0) hX dX12_isSign_39 rfl ?_
      exact s_zret hX false hq rfl dX12_isSign_40 rfl h
    · replace h := h.2 c
      refine s_aload_n hX dX12_isSign_20 rfl ?_
      refine s_getr hX fi_X12_30 ly_c_mo rfl dX12_isSign_21 ?_
      refine s_aload_n hX dX12_isSign_24 rfl ?_
      refine s_getiv (v := (M.1 c_mo Mo_at)) hX fi_X12_176 ly_c_mo rfl dX12_isSign_25 rfl ?_
      have hi := h.1
      replace h := h.2
      refine s_laldv (v := (M.2 c_mo_value (Int32.toNatClampNeg (M.1 c_mo Mo_at)))) hX ly_c_mo_value hi dX12_isSign_28 rfl ?_
      refine s_iload_n hX dX12_isSign_29 rfl ?_
      refine s_i2l hX dX12_isSign_30 ?_
      refine s_lcmp hX dX12_isSign_31 ?_
      have hJ : Wat X 0 0 LY 40 [some (vr c_mo), some (vi a0)] [vi (if (lg_cmp (M.2 c_mo_value (Int32.toNatClampNeg (M.1 c_mo Mo_at))) (Int32.toInt64 a0)) = 0 then (1 : Int32) else 0)] M := by
        obtain ⟨bb, hbb, h⟩ := h
        exact s_zret hX bb hq rfl dX12_isSign_40 hbb h
      refine s_if_ne (tgt := 39) hX dX12_isSign_32 (by decide) (fun c => ?_) (fun c => ?_)
      · rw [if_neg c] at hJ
        refine s_iconst (v := 0) hX dX12_isSign_39 rfl ?_
        exact hJ
      · rw [if_pos c] at hJ
        refine s_iconst (v := 1) hX dX12_isSign_35 rfl ?_
        refine s_goto (tgt := 40) hX dX12_isSign_36 (by decide) ?_
        exact hJ
theorem c_Mo_isSign {a0 : Int32} {M : Mem} {Q : Bool → Mem → Prop} (h : w_Mo_isSign a0 M Q) : CI yX12_isSign cX12_isSign 2 ((some .boolean)) 1 0 0 LY LY [vr c_mo, vi a0] M (bQ Q) := mk_i rfl wd_co_X12_isSign rfl rfl (Nat.le_of_ble_eq_true rfl) (fun X hX hq => t_Mo_isSign hX hq h)
theorem mv_Mo_isSign : MV yX12_isSign cX12_isSign 2 ((some .boolean)) RX12 1 := ⟨wd_co_X12_isSign, wd_im_X12_isSign, wd_se_X12_isSign, wd_in_X12, by decide +kernel, by decide⟩
def w_Mo_takeSign (a0 : Int32) (M : Mem) (Q : Mem → Prop) : Prop :=
  w_Mo_isSign a0 M (fun b691 M690 => ((b691 = false → w_Mo_wrong 1 M690 (fun M692 => Q M692)) ∧ (b691 = true → Q (si M690 c_mo Mo_at ((M690.1 c_mo Mo_at) + 1)))))
set_option maxHeartbeats 4000000 in
theorem t_Mo_takeSign {X : Cx} (hX : Cok X cX12_takeSign RX12 2 none 2 0 0) {Q : Mem → Prop} (hq : RV X 0 0 LY Q) {M : Mem} {a0 : Int32} (h : w_Mo_takeSign a0 M Q) : Wat X 0 0 LY 0 [some (vr c_mo), some (vi a0)] [] M := by
  refine s_aload_n hX dX12_takeSign_0 rfl ?_
  refine s_iload_n hX dX12_takeSign_1 rfl ?_
  refine s_cvi (as := [vi a0]) (rest := []) hX (c_Mo_isSign h) mv_Mo_isSign wd_ml_X12_182 dX12_takeSign_2 ly_c_mo rfl rfl (Nat.le_of_ble_eq_true rfl) rfl (by decide) ⟨Nat.zero_le _, Nat.zero_le _⟩ (fun b691_ M690 h => ?_)
  obtain ⟨b691, rfl, h⟩ := h
  refine s_if_eq (tgt := 21) hX dX12_takeSign_5 (by decide) (fun c => ?_) (fun c => ?_)
  · replace h := h.1 (b2i_0 c)
    refine s_aload_n hX dX12_takeSign_21 rfl ?_
    refine s_iconst (v := 1) hX dX12_takeSign_22 rfl ?_
    refine s_cvv (as := [vi 1]) (rest := []) hX (c_Mo_wrong h) mv_Mo_wrong wd_ml_X12_185 dX12_takeSign_23 ly_c_mo rfl rfl (Nat.le_of_ble_eq_true rfl) rfl (by decide) ⟨Nat.zero_le _, Nat.zero_le _⟩ (fun M692 h => ?_)
    exact s_vret hX hq rfl dX12_takeSign_26 h
  · replace h := h.2 (b2i_1 c)
    refine s_aload_n hX dX12_takeSign_8 rfl ?_
    refine s_dup hX dX12_takeSign_9 rfl ?_
    refine s_getiv (v := (M690.1 c_mo Mo_at)) hX fi_X12_176 ly_c_mo rfl dX12_takeSign_10 rfl ?_
    refine s_iconst (v := 1) hX dX12_takeSign_13 rfl ?_
    refine s_iadd hX dX12_takeSign_14 ?_
    refine s_puti hX fi_X12_176 fp_X12 rfl (by decide +kernel) ly_c_mo rfl dX12_takeSign_15 ?_
    refine s_goto (tgt := 26) hX dX12_takeSign_18 (by decide) ?_
    exact s_vret hX hq rfl dX12_takeSign_26 h
theorem c_Mo_takeSign {a0 : Int32} {M : Mem} {Q : Mem → Prop} (h : w_Mo_takeSign a0 M Q) : CV yX12_takeSign cX12_takeSign 2 none 2 0 0 LY LY [vr c_mo, vi a0] M Q := mk_v rfl wd_co_X12_takeSign rfl rfl (Nat.le_of_ble_eq_true rfl) (fun X hX hq => t_Mo_takeSign hX hq h)
theorem mv_Mo_takeSign : MV yX12_takeSign cX12_takeSign 2 none RX12 1 := ⟨wd_co_X12_takeSign, wd_im_X12_takeSign, wd_se_X12_takeSign, wd_in_X12, by decide +kernel, by decide⟩
def w_Mo_emit (a0 : Int32) (a1 : Int32) (M : Mem) (Q : Mem → Prop) : Prop :=
  (vp_in (1100 + (M.1 c_mo Mo_codes)) 2200 ∧ (vp_in (1100 + (M.1 c_mo Mo_codes)) 2200 ∧ Q (si (si (si M c_mo_op (Int32.toNatClampNeg (1100 + (M.1 c_mo Mo_codes))) a0) c_mo_arg (Int32.toNatClampNeg (1100 + (M.1 c_mo Mo_codes))) a1) c_mo Mo_codes ((M.1 c_mo Mo_codes) + 1))))
set_option maxHeartbeats 4000000 in
theorem t_Mo_emit {X : Cx} (hX : Cok X cX12_emit RX12 3 none 1 0 0) {Q : Mem → Prop} (hq : RV X 0 0 LY Q) {M : Mem} {a0 : Int32} {a1 : Int32} (h : w_Mo_emit a0 a1 M Q) : Wat X 0 0 LY 0 [some (vr c_mo), some (vi a0), some (vi a1)] [] M := by
  refine s_aload_n hX dX12_emit_0 rfl ?_
  refine s_getr hX fi_X12_94 ly_c_mo rfl dX12_emit_1 ?_
  refine s_sipush (v := 1100) hX dX12_emit_4 rfl ?_
  refine s_aload_n hX dX12_emit_7 rfl ?_
  refine s_getiv (v := (M.1 c_mo Mo_codes)) hX fi_X12_207 ly_c_mo rfl dX12_emit_8 rfl ?_
  refine s_iadd hX dX12_emit_11 ?_
  refine s_iload_n hX dX12_emit_12 rfl ?_
  have hi := h.1
  replace h := h.2
  refine s_iast hX ly_c_mo_op hi dX12_emit_13 ?_
  refine s_aload_n hX dX12_emit_14 rfl ?_
  refine s_getr hX fi_X12_97 ly_c_mo rfl dX12_emit_15 ?_
  refine s_sipush (v := 1100) hX dX12_emit_18 rfl ?_
  refine s_aload_n hX dX12_emit_21 rfl ?_
  refine s_getiv (v := (M.1 c_mo Mo_codes)) hX fi_X12_207 ly_c_mo rfl dX12_emit_22 rfl ?_
  refine s_iadd hX dX12_emit_25 ?_
  refine s_iload_n hX dX12_emit_26 rfl ?_
  have hi := h.1
  replace h := h.2
  refine s_iast hX ly_c_mo_arg hi dX12_emit_27 ?_
  refine s_aload_n hX dX12_emit_28 rfl ?_
  refine s_dup hX dX12_emit_29 rfl ?_
  refine s_getiv (v := (M.1 c_mo Mo_codes)) hX fi_X12_207 ly_c_mo rfl dX12_emit_30 rfl ?_
  refine s_iconst (v := 1) hX dX12_emit_33 rfl ?_
  refine s_iadd hX dX12_emit_34 ?_
  refine s_puti hX fi_X12_207 fp_X12 rfl (by decide +kernel) ly_c_mo rfl dX12_emit_35 ?_
  exact s_vret hX hq rfl dX12_emit_38 h
theorem c_Mo_emit {a0 : Int32} {a1 : Int32} {M : Mem} {Q : Mem → Prop} (h : w_Mo_emit a0 a1 M Q) : CV yX12_emit cX12_emit 3 none 1 0 0 LY LY [vr c_mo, vi a0, vi a1] M Q := mk_v rfl wd_co_X12_emit rfl rfl (Nat.le_of_ble_eq_true rfl) (fun X hX hq => t_Mo_emit hX hq h)
theorem mv_Mo_emit : MV yX12_emit cX12_emit 3 none RX12 2 := ⟨wd_co_X12_emit, wd_im_X12_emit, wd_se_X12_emit, wd_in_X12, by decide +kernel, by decide⟩
def w_Mo_hasSign (a0 : Int32) (M : Mem) (Q : Bool → Mem → Prop) : Prop :=
  w_Mo_isSign a0 M (fun b721 M720 => Q b721 (si M720 c_mo Mo_at ((M720.1 c_mo Mo_at) + (if b721 = true then (1 : Int32) else 0))))
set_option maxHeartbeats 4000000 in
theorem t_Mo_hasSign {X : Cx} (hX : Cok X cX12_hasSign RX12 3 ((some .boolean)) 2 0 0) {Q : Bool → Mem → Prop} (hq : RI X 0 0 LY (bQ Q)) {M : Mem} {a0 : Int32} (h : w_Mo_hasSign a0 M Q) : Wat X 0 0 LY 0 [some (vr c_mo), some (vi a0), none] [] M := by
  refine s_aload_n hX dX12_hasSign_0 rfl ?_
  refine s_iload_n hX dX12_hasSign_1 rfl ?_
  refine s_cvi (as := [vi a0]) (rest := []) hX (c_Mo_isSign h) mv_Mo_isSign wd_ml_X12_182 dX12_hasSign_2 ly_c_mo rfl rfl (Nat.le_of_ble_eq_true rfl) rfl (by decide) ⟨Nat.zero_le _, Nat.zero_le _⟩ (fun b721_ M720 h => ?_)
  obtain ⟨b721, rfl, h⟩ := h
  refine s_istore_n (lv' := [some (vr c_mo), some (vi a0), some (vi (b2i b721))]) hX dX12_hasSign_5 rfl rfl (Nat.le_of_ble_eq_true rfl) ?_
  refine s_aload_n hX dX12_hasSign_6 rfl ?_
  refine s_dup hX dX12_hasSign_7 rfl ?_
  refine s_getiv (v := (M720.1 c_mo Mo_at)) hX fi_X12_176 ly_c_mo rfl dX12_hasSign_8 rfl ?_
  refine s_iload_n hX dX12_hasSign_11 rfl ?_
  have hJ : Wat X 0 0 LY 20 [some (vr c_mo), some (vi a0), some (vi (b2i b721))] [vi (if b721 = true then (1 : Int32) else 0), vi (M720.1 c_mo Mo_at), vr c_mo] M720 := by
    refine s_iadd hX dX12_hasSign_20 ?_
    refine s_puti hX fi_X12_176 fp_X12 rfl (by decide +kernel) ly_c_mo rfl dX12_hasSign_21 ?_
    refine s_iload_n hX dX12_hasSign_24 rfl ?_
    exact s_zret hX _ hq rfl dX12_hasSign_25 rfl h
  refine s_if_eq (tgt := 19) hX dX12_hasSign_12 (by decide) (fun c => ?_) (fun c => ?_)
  · rw [if_neg (by simp [b2i_0 c])] at hJ
    refine s_iconst (v := 0) hX dX12_hasSign_19 rfl ?_
    exact hJ
  · rw [if_pos (by simp [b2i_1 c])] at hJ
    refine s_iconst (v := 1) hX dX12_hasSign_15 rfl ?_
    refine s_goto (tgt := 20) hX dX12_hasSign_16 (by decide) ?_
    exact hJ
theorem c_Mo_hasSign {a0 : Int32} {M : Mem} {Q : Bool → Mem → Prop} (h : w_Mo_hasSign a0 M Q) : CI yX12_hasSign cX12_hasSign 3 ((some .boolean)) 2 0 0 LY LY [vr c_mo, vi a0] M (bQ Q) := mk_i rfl wd_co_X12_hasSign rfl rfl (Nat.le_of_ble_eq_true rfl) (fun X hX hq => t_Mo_hasSign hX hq h)
theorem mv_Mo_hasSign : MV yX12_hasSign cX12_hasSign 3 ((some .boolean)) RX12 1 := ⟨wd_co_X12_hasSign, wd_im_X12_hasSign, wd_se_X12_hasSign, wd_in_X12, by decide +kernel, by decide⟩
def w_Mo_factHere_j36 (R : Int32 → Int32 → Mem → Prop) (K : Int32 → Mem → Prop) (l1 : Int32) (l2 : Int32) (s0 : Int32) (M : Mem) (Q : Int32 → Mem → Prop) : Prop :=
  ((s0 = 0 → R l1 (l2 + 1) M) ∧ (¬ s0 = 0 → (vp_in l2 6 ∧ w_Mo_isWord (M.1 c_mo_factWords (Int32.toNatClampNeg l2)) M (fun b747 M746 => ∀ x748 : Int32, x748 = (if b747 = true then l2 else l1) → R x748 (l2 + 1) M746))))
set_option maxHeartbeats 4000000 in
theorem t_Mo_factHere_j36 {X : Cx} (hX : Cok X cX12_factHere RX12 4 ((some .int)) 2 0 0) {Q : Int32 → Mem → Prop} (hq : RI X 0 0 LY Q) {R : Int32 → Int32 → Mem → Prop} {K : Int32 → Mem → Prop} (hR : ∀ (l1 : Int32) (l2 : Int32) (M : Mem), R l1 l2 M → Wat X 0 0 LY 4 [some (vr c_mo), some (vi l1), some (vi l2), none] [] M) (hK : ∀ (l1 : Int32) (M : Mem), K l1 M → Wat X 0 0 LY 66 [none, some (vi l1), none, none] [] M) {l1 : Int32} {l2 : Int32} {s0 : Int32} {M : Mem} (h : w_Mo_factHere_j36 R K l1 l2 s0 M Q) : Wat X 0 0 LY 36 [some (vr c_mo), some (vi l1), some (vi l2), none] [vi s0] M := by
  refine s_istore_n (lv' := [some (vr c_mo), some (vi l1), some (vi l2), some (vi s0)]) hX dX12_factHere_36 rfl rfl (Nat.le_of_ble_eq_true rfl) ?_
  refine s_iload_n hX dX12_factHere_37 rfl ?_
  refine s_if_eq (tgt := 58) hX dX12_factHere_38 (by decide) (fun c => ?_) (fun c => ?_)
  · replace h := h.1 c
    refine s_iload_n hX dX12_factHere_58 rfl ?_
    refine s_istore_n (lv' := [some (vr c_mo), some (vi l1), some (vi l2), some (vi s0)]) hX dX12_factHere_59 rfl rfl (Nat.le_of_ble_eq_true rfl) ?_
    refine s_iinc (v := (l2 + 1)) (lv' := [some (vr c_mo), some (vi l1), some (vi (l2 + 1)), some (vi s0)]) hX dX12_factHere_60 rfl rfl rfl rfl ?_
    refine s_goto (tgt := 4) hX dX12_factHere_63 (by decide) ?_
    refine s_mask [true, true, true, false] (lv' := [some (vr c_mo), some (vi l1), some (vi (l2 + 1)), none]) rfl rfl ?_
    exact hR _ _ _ h
  · replace h := h.2 c
    refine s_aload_n hX dX12_factHere_41 rfl ?_
    refine s_aload_n hX dX12_factHere_42 rfl ?_
    refine s_getr hX fi_X12_106 ly_c_mo rfl dX12_factHere_43 ?_
    refine s_iload_n hX dX12_factHere_46 rfl ?_
    have hi := h.1
    replace h := h.2
    refine s_ialdv (v := (M.1 c_mo_factWords (Int32.toNatClampNeg l2))) hX ly_c_mo_factWords hi dX12_factHere_47 rfl ?_
    refine s_cvi (as := [vi (M.1 c_mo_factWords (Int32.toNatClampNeg l2))]) (rest := []) hX (c_Mo_isWord h) mv_Mo_isWord wd_ml_X12_188 dX12_factHere_48 ly_c_mo rfl rfl (Nat.le_of_ble_eq_true rfl) rfl (by decide) ⟨Nat.zero_le _, Nat.zero_le _⟩ (fun b747_ M746 h => ?_)
    obtain ⟨b747, rfl, h⟩ := h
    have hJ : Wat X 0 0 LY 59 [some (vr c_mo), some (vi l1), some (vi l2), some (vi s0)] [vi (if b747 = true then l2 else l1)] M746 := by
      refine s_nmi (fun x748 ex748 => ?_)
      replace h := h x748 ex748
      refine s_istore_n (lv' := [some (vr c_mo), some (vi x748), some (vi l2), some (vi s0)]) hX dX12_factHere_59 rfl rfl (Nat.le_of_ble_eq_true rfl) ?_
      refine s_iinc (v := (l2 + 1)) (lv' := [some (vr c_mo), some (vi x748), some (vi (l2 + 1)), some (vi s0)]) hX dX12_factHere_60 rfl rfl rfl rfl ?_
      refine s_goto (tgt := 4) hX dX12_factHere_63 (by decide) ?_
      refine s_mask [true, true, true, false] (lv' := [some (vr c_mo), some (vi x748), some (vi (l2 + 1)), none]) rfl rfl ?_
      exact hR _ _ _ h
    refine s_if_eq (tgt := 58) hX dX12_factHere_51 (by decide) (fun c => ?_) (fun c => ?_)
    · rw [if_neg (by simp [b2i_0 c])] at hJ
      refine s_iload_n hX dX12_factHere_58 rfl ?_
      exact hJ
    · rw [if_pos (by simp [b2i_1 c])] at hJ
      refine s_iload_n hX dX12_factHere_54 rfl ?_
      refine s_goto (tgt := 59) hX dX12_factHere_55 (by decide) ?_
      exact hJ
def w_Mo_factHere_j31 (R : Int32 → Int32 → Mem → Prop) (K : Int32 → Mem → Prop) (l1 : Int32) (l2 : Int32) (M : Mem) (Q : Int32 → Mem → Prop) : Prop :=
  w_Mo_factHere_j36 (fun l1 l2 M => R l1 l2 M) K l1 l2 1 M Q
set_option maxHeartbeats 4000000 in
theorem t_Mo_factHere_j31 {X : Cx} (hX : Cok X cX12_factHere RX12 4 ((some .int)) 2 0 0) {Q : Int32 → Mem → Prop} (hq : RI X 0 0 LY Q) {R : Int32 → Int32 → Mem → Prop} {K : Int32 → Mem → Prop} (hR : ∀ (l1 : Int32) (l2 : Int32) (M : Mem), R l1 l2 M → Wat X 0 0 LY 4 [some (vr c_mo), some (vi l1), some (vi l2), none] [] M) (hK : ∀ (l1 : Int32) (M : Mem), K l1 M → Wat X 0 0 LY 66 [none, some (vi l1), none, none] [] M) {l1 : Int32} {l2 : Int32} {M : Mem} (h : w_Mo_factHere_j31 R K l1 l2 M Q) : Wat X 0 0 LY 31 [some (vr c_mo), some (vi l1), some (vi l2), none] [] M := by
  refine s_iconst (v := 1) hX dX12_factHere_31 rfl ?_
  refine s_goto (tgt := 36) hX dX12_factHere_32 (by decide) ?_
  exact t_Mo_factHere_j36 hX hq (fun _ _ _ h => hR _ _ _ h) hK h
def w_Mo_factHere_j24 (R : Int32 → Int32 → Mem → Prop) (K : Int32 → Mem → Prop) (l1 : Int32) (l2 : Int32) (s0 : Int32) (M : Mem) (Q : Int32 → Mem → Prop) : Prop :=
  w_Mo_factHere_j36 (fun l1 l2 M => R l1 l2 M) K l1 l2 (if s0 = (M.1 c_mo Mo_ofFog) then (0 : Int32) else 1) M Q
set_option maxHeartbeats 4000000 in
theorem t_Mo_factHere_j24 {X : Cx} (hX : Cok X cX12_factHere RX12 4 ((some .int)) 2 0 0) {Q : Int32 → Mem → Prop} (hq : RI X 0 0 LY Q) {R : Int32 → Int32 → Mem → Prop} {K : Int32 → Mem → Prop} (hR : ∀ (l1 : Int32) (l2 : Int32) (M : Mem), R l1 l2 M → Wat X 0 0 LY 4 [some (vr c_mo), some (vi l1), some (vi l2), none] [] M) (hK : ∀ (l1 : Int32) (M : Mem), K l1 M → Wat X 0 0 LY 66 [none, some (vi l1), none, none] [] M) {l1 : Int32} {l2 : Int32} {s0 : Int32} {M : Mem} (h : w_Mo_factHere_j24 R K l1 l2 s0 M Q) : Wat X 0 0 LY 24 [some (vr c_mo), some (vi l1), some (vi l2), none] [vi s0] M := by
  refine s_aload_n hX dX12_factHere_24 rfl ?_
  refine s_getiv (v := (M.1 c_mo Mo_ofFog)) hX fi_X12_276 ly_c_mo rfl dX12_factHere_25 rfl ?_
  have hJ : Wat X 0 0 LY 36 [some (vr c_mo), some (vi l1), some (vi l2), none] [vi (if s0 = (M.1 c_mo Mo_ofFog) then (0 : Int32) else 1)] M := by
    exact t_Mo_factHere_j36 hX hq (fun _ _ _ h => hR _ _ _ h) hK h
  refine s_icmp_eq (tgt := 35) hX dX12_factHere_28 (by decide) (fun c => ?_) (fun c => ?_)
  · rw [if_pos c] at hJ
    refine s_iconst (v := 0) hX dX12_factHere_35 rfl ?_
    exact hJ
  · rw [if_neg c] at hJ
    refine s_iconst (v := 1) hX dX12_factHere_31 rfl ?_
    refine s_goto (tgt := 36) hX dX12_factHere_32 (by decide) ?_
    exact hJ
def w_Mo_factHere_L4 (K : Int32 → Mem → Prop) (Q : Int32 → Mem → Prop) : Nat → Int32 → Int32 → Mem → Prop
  | 0, _, _, _ => False
  | n + 1, l1, l2, M => ((6 ≤ l2 → K l1 M) ∧ (¬ 6 ≤ l2 → ((l2 = 0 → w_Mo_factHere_j31 (fun l1 l2 M => w_Mo_factHere_L4 K Q n l1 l2 M) K l1 l2 M Q) ∧ (¬ l2 = 0 → w_Mo_factHere_j24 (fun l1 l2 M => w_Mo_factHere_L4 K Q n l1 l2 M) K l1 l2 (if 4 ≤ l2 then (0 : Int32) else 1) M Q))))
set_option maxHeartbeats 4000000 in
theorem t_Mo_factHere_L4 {X : Cx} (hX : Cok X cX12_factHere RX12 4 ((some .int)) 2 0 0) {Q : Int32 → Mem → Prop} (hq : RI X 0 0 LY Q) {K : Int32 → Mem → Prop} (hK : ∀ (l1 : Int32) (M : Mem), K l1 M → Wat X 0 0 LY 66 [none, some (vi l1), none, none] [] M) : ∀ (n : Nat) (l1 : Int32) (l2 : Int32) (M : Mem), w_Mo_factHere_L4 K Q n l1 l2 M → Wat X 0 0 LY 4 [some (vr c_mo), some (vi l1), some (vi l2), none] [] M := by
  intro n
  induction n with
  | zero => intro _ _ _ h; exact h.elim
  | succ n ih =>
    intro l1 l2 M h
    refine s_iload_n hX dX12_factHere_4 rfl ?_
    refine s_bipush (v := 6) hX dX12_factHere_5 rfl ?_
    refine s_icmp_ge (tgt := 66) hX dX12_factHere_7 (by decide) (fun c => ?_) (fun c => ?_)
    · replace h := h.1 c
      refine s_mask [false, true, false, true] (lv' := [none, some (vi l1), none, none]) rfl rfl ?_
      exact hK _ _ h
    · replace h := h.2 c
      refine s_iload_n hX dX12_factHere_10 rfl ?_
      refine s_if_eq (tgt := 31) hX dX12_factHere_11 (by decide) (fun c => ?_) (fun c => ?_)
      · replace h := h.1 c
        exact t_Mo_factHere_j31 hX hq (fun _ _ _ h => ih _ _ _ h) hK h
      · replace h := h.2 c
        refine s_iload_n hX dX12_factHere_14 rfl ?_
        refine s_iconst (v := 4) hX dX12_factHere_15 rfl ?_
        have hJ : Wat X 0 0 LY 24 [some (vr c_mo), some (vi l1), some (vi l2), none] [vi (if 4 ≤ l2 then (0 : Int32) else 1)] M := by
          exact t_Mo_factHere_j24 hX hq (fun _ _ _ h => ih _ _ _ h) hK h
        refine s_icmp_ge (tgt := 23) hX dX12_factHere_16 (by decide) (fun c => ?_) (fun c => ?_)
        · rw [if_pos c] at hJ
          refine s_iconst (v := 0) hX dX12_factHere_23 rfl ?_
          exact hJ
        · rw [if_neg c] at hJ
          refine s_iconst (v := 1) hX dX12_factHere_19 rfl ?_
          refine s_goto (tgt := 24) hX dX12_factHere_20 (by decide) ?_
          exact hJ
def w_Mo_factHere (M : Mem) (Q : Int32 → Mem → Prop) : Prop :=
  (∃ n751, w_Mo_factHere_L4 (fun y750 M749 => Q y750 M749) Q n751 (-1) 0 M)
set_option maxHeartbeats 4000000 in
theorem t_Mo_factHere {X : Cx} (hX : Cok X cX12_factHere RX12 4 ((some .int)) 2 0 0) {Q : Int32 → Mem → Prop} (hq : RI X 0 0 LY Q) {M : Mem} (h : w_Mo_factHere M Q) : Wat X 0 0 LY 0 [some (vr c_mo), none, none, none] [] M := by
  refine s_iconst (v := (-1)) hX dX12_factHere_0 rfl ?_
  refine s_istore_n (lv' := [some (vr c_mo), some (vi (-1)), none, none]) hX dX12_factHere_1 rfl rfl (Nat.le_of_ble_eq_true rfl) ?_
  refine s_iconst (v := 0) hX dX12_factHere_2 rfl ?_
  refine s_istore_n (lv' := [some (vr c_mo), some (vi (-1)), some (vi 0), none]) hX dX12_factHere_3 rfl rfl (Nat.le_of_ble_eq_true rfl) ?_
  obtain ⟨n751, h⟩ := h
  refine t_Mo_factHere_L4 hX hq ?_ n751 _ _ _ h
  intro y750 M749 h
  refine s_iload_n hX dX12_factHere_66 rfl ?_
  exact s_iret hX hq rfl dX12_factHere_67 h
theorem c_Mo_factHere {M : Mem} {Q : Int32 → Mem → Prop} (h : w_Mo_factHere M Q) : CI yX12_factHere cX12_factHere 4 ((some .int)) 2 0 0 LY LY [vr c_mo] M Q := mk_i rfl wd_co_X12_factHere rfl rfl (Nat.le_of_ble_eq_true rfl) (fun X hX hq => t_Mo_factHere hX hq h)
theorem mv_Mo_factHere : MV yX12_factHere cX12_factHere 4 ((some .int)) RX12 0 := ⟨wd_co_X12_factHere, wd_im_X12_factHere, wd_se_X12_factHere, wd_in_X12, by decide +kernel, by decide⟩
theorem mv_Mo_all : MV yX12_all cX12_all 3 none RX12 1 := ⟨wd_co_X12_all, wd_im_X12_all, wd_se_X12_all, wd_in_X12, by decide +kernel, by decide⟩
theorem mv_Mo_test : MV yX12_test cX12_test 3 none RX12 1 := ⟨wd_co_X12_test, wd_im_X12_test, wd_se_X12_test, wd_in_X12, by decide +kernel, by decide⟩
theorem mv_Mo_sums : MV yX12_sums cX12_sums 3 none RX12 1 := ⟨wd_co_X12_sums, wd_im_X12_sums, wd_se_X12_sums, wd_in_X12, by decide +kernel, by decide⟩
theorem mv_Mo_products : MV yX12_products cX12_products 2 none RX12 1 := ⟨wd_co_X12_products, wd_im_X12_products, wd_se_X12_products, wd_in_X12, by decide +kernel, by decide⟩
theorem mv_Mo_takePart : MV yX12_takePart cX12_takePart 4 none RX12 1 := ⟨wd_co_X12_takePart, wd_im_X12_takePart, wd_se_X12_takePart, wd_in_X12, by decide +kernel, by decide⟩
def w_Mo_all_j57 (r_Mo_all : Int32 → Mem → (Mem → Prop) → Prop) (r_Mo_test : Int32 → Mem → (Mem → Prop) → Prop) (r_Mo_sums : Int32 → Mem → (Mem → Prop) → Prop) (r_Mo_products : Int32 → Mem → (Mem → Prop) → Prop) (r_Mo_takePart : Int32 → Mem → (Mem → Prop) → Prop) (R : Mem → Prop) (K : Mem → Prop) (l1 : Int32) (s1 : Int32) (M : Mem) (Q : Mem → Prop) : Prop :=
  w_Mo_emit s1 0 M (fun M712 => R M712)
set_option maxHeartbeats 4000000 in
theorem t_Mo_all_j57 {lv0 : Nat} {X : Cx} (hX : Cok X cX12_all RX12 3 none (lv0 + 1) 0 0) {Q : Mem → Prop} (hq : RV X 0 0 LY Q) {r_Mo_all : Int32 → Mem → (Mem → Prop) → Prop} {r_Mo_test : Int32 → Mem → (Mem → Prop) → Prop} {r_Mo_sums : Int32 → Mem → (Mem → Prop) → Prop} {r_Mo_products : Int32 → Mem → (Mem → Prop) → Prop} {r_Mo_takePart : Int32 → Mem → (Mem → Prop) → Prop} (hlv0 : 2 ≤ lv0) (hr_Mo_all : ∀ (a0 : Int32) M Q, r_Mo_all a0 M Q → CV yX12_all cX12_all 3 none lv0 0 0 LY LY [vr c_mo, vi a0] M Q) (hr_Mo_test : ∀ (a0 : Int32) M Q, r_Mo_test a0 M Q → CV yX12_test cX12_test 3 none lv0 0 0 LY LY [vr c_mo, vi a0] M Q) (hr_Mo_sums : ∀ (a0 : Int32) M Q, r_Mo_sums a0 M Q → CV yX12_sums cX12_sums 3 none lv0 0 0 LY LY [vr c_mo, vi a0] M Q) (hr_Mo_products : ∀ (a0 : Int32) M Q, r_Mo_products a0 M Q → CV yX12_products cX12_products 2 none lv0 0 0 LY LY [vr c_mo, vi a0] M Q) (hr_Mo_takePart : ∀ (a0 : Int32) M Q, r_Mo_takePart a0 M Q → CV yX12_takePart cX12_takePart 4 none lv0 0 0 LY LY [vr c_mo, vi a0] M Q) {l1 : Int32} {R : Mem → Prop} {K : Mem → Prop} (hR : ∀ (M : Mem), R M → Wat X 0 0 LY 5 [some (vr c_mo), some (vi l1), none] [] M) (hK : ∀ (M : Mem), K M → Wat X 0 0 LY 64 [none, none, none] [] M) {s1 : Int32} {M : Mem} (h : w_Mo_all_j57 r_Mo_all r_Mo_test r_Mo_sums r_Mo_products r_Mo_takePart R K l1 s1 M Q) : Wat X 0 0 LY 57 [some (vr c_mo), some (vi l1), none] [vi s1, vr c_mo] M := by
  refine s_iconst (v := 0) hX dX12_all_57 rfl ?_
  refine s_cvv (as := [vi s1, vi 0]) (rest := []) hX (c_Mo_emit h) mv_Mo_emit wd_ml_X12_282 dX12_all_58 ly_c_mo rfl rfl (Nat.le_of_ble_eq_true rfl) rfl (by omega) ⟨Nat.zero_le _, Nat.zero_le _⟩ (fun M712 h => ?_)
  refine s_goto (tgt := 5) hX dX12_all_61 (by decide) ?_
  exact hR _ h
def w_Mo_all_j23 (r_Mo_all : Int32 → Mem → (Mem → Prop) → Prop) (r_Mo_test : Int32 → Mem → (Mem → Prop) → Prop) (r_Mo_sums : Int32 → Mem → (Mem → Prop) → Prop) (r_Mo_products : Int32 → Mem → (Mem → Prop) → Prop) (r_Mo_takePart : Int32 → Mem → (Mem → Prop) → Prop) (R : Mem → Prop) (K : Mem → Prop) (l1 : Int32) (M : Mem) (Q : Mem → Prop) : Prop :=
  w_Mo_isWord 18 M (fun b710 M709 => r_Mo_test l1 (si M709 c_mo Mo_at ((M709.1 c_mo Mo_at) + 1)) (fun M711 => w_Mo_all_j57 r_Mo_all r_Mo_test r_Mo_sums r_Mo_products r_Mo_takePart (fun M => R M) K l1 (if b710 = true then (9 : Int32) else 10) M711 Q))
set_option maxHeartbeats 4000000 in
theorem t_Mo_all_j23 {lv0 : Nat} {X : Cx} (hX : Cok X cX12_all RX12 3 none (lv0 + 1) 0 0) {Q : Mem → Prop} (hq : RV X 0 0 LY Q) {r_Mo_all : Int32 → Mem → (Mem → Prop) → Prop} {r_Mo_test : Int32 → Mem → (Mem → Prop) → Prop} {r_Mo_sums : Int32 → Mem → (Mem → Prop) → Prop} {r_Mo_products : Int32 → Mem → (Mem → Prop) → Prop} {r_Mo_takePart : Int32 → Mem → (Mem → Prop) → Prop} (hlv0 : 2 ≤ lv0) (hr_Mo_all : ∀ (a0 : Int32) M Q, r_Mo_all a0 M Q → CV yX12_all cX12_all 3 none lv0 0 0 LY LY [vr c_mo, vi a0] M Q) (hr_Mo_test : ∀ (a0 : Int32) M Q, r_Mo_test a0 M Q → CV yX12_test cX12_test 3 none lv0 0 0 LY LY [vr c_mo, vi a0] M Q) (hr_Mo_sums : ∀ (a0 : Int32) M Q, r_Mo_sums a0 M Q → CV yX12_sums cX12_sums 3 none lv0 0 0 LY LY [vr c_mo, vi a0] M Q) (hr_Mo_products : ∀ (a0 : Int32) M Q, r_Mo_products a0 M Q → CV yX12_products cX12_products 2 none lv0 0 0 LY LY [vr c_mo, vi a0] M Q) (hr_Mo_takePart : ∀ (a0 : Int32) M Q, r_Mo_takePart a0 M Q → CV yX12_takePart cX12_takePart 4 none lv0 0 0 LY LY [vr c_mo, vi a0] M Q) {l1 : Int32} {R : Mem → Prop} {K : Mem → Prop} (hR : ∀ (M : Mem), R M → Wat X 0 0 LY 5 [some (vr c_mo), some (vi l1), none] [] M) (hK : ∀ (M : Mem), K M → Wat X 0 0 LY 64 [none, none, none] [] M) {M : Mem} (h : w_Mo_all_j23 r_Mo_all r_Mo_test r_Mo_sums r_Mo_products r_Mo_takePart R K l1 M Q) : Wat X 0 0 LY 23 [some (vr c_mo), some (vi l1), none] [] M := by
  refine s_aload_n hX dX12_all_23 rfl ?_
  refine s_bipush (v := 18) hX dX12_all_24 rfl ?_
  refine s_cvi (as := [vi 18]) (rest := []) hX (c_Mo_isWord h) mv_Mo_isWord wd_ml_X12_188 dX12_all_26 ly_c_mo rfl rfl (Nat.le_of_ble_eq_true rfl) rfl (by omega) ⟨Nat.zero_le _, Nat.zero_le _⟩ (fun b710_ M709 h => ?_)
  obtain ⟨b710, rfl, h⟩ := h
  refine s_istore_n (lv' := [some (vr c_mo), some (vi l1), some (vi (b2i b710))]) hX dX12_all_29 rfl rfl (Nat.le_of_ble_eq_true rfl) ?_
  refine s_aload_n hX dX12_all_30 rfl ?_
  refine s_dup hX dX12_all_31 rfl ?_
  refine s_getiv (v := (M709.1 c_mo Mo_at)) hX fi_X12_176 ly_c_mo rfl dX12_all_32 rfl ?_
  refine s_iconst (v := 1) hX dX12_all_35 rfl ?_
  refine s_iadd hX dX12_all_36 ?_
  refine s_puti hX fi_X12_176 fp_X12 rfl (by decide +kernel) ly_c_mo rfl dX12_all_37 ?_
  refine s_aload_n hX dX12_all_40 rfl ?_
  refine s_iload_n hX dX12_all_41 rfl ?_
  refine s_cvv (as := [vi l1]) (rest := []) hX (hr_Mo_test _ _ _ h) mv_Mo_test wd_ml_X12_286 dX12_all_42 ly_c_mo rfl rfl (Nat.le_of_ble_eq_true rfl) rfl (Nat.lt_succ_self _) ⟨Nat.zero_le _, Nat.zero_le _⟩ (fun M711 h => ?_)
  refine s_aload_n hX dX12_all_45 rfl ?_
  refine s_iload_n hX dX12_all_46 rfl ?_
  have hJ : Wat X 0 0 LY 57 [some (vr c_mo), some (vi l1), some (vi (b2i b710))] [vi (if b710 = true then (9 : Int32) else 10), vr c_mo] M711 := by
    refine s_mask [true, true, false] (lv' := [some (vr c_mo), some (vi l1), none]) rfl rfl ?_
    exact t_Mo_all_j57 hX hq hlv0 hr_Mo_all hr_Mo_test hr_Mo_sums hr_Mo_products hr_Mo_takePart (fun _ h => hR _ h) hK h
  refine s_if_eq (tgt := 55) hX dX12_all_47 (by decide) (fun c => ?_) (fun c => ?_)
  · rw [if_neg (by simp [b2i_0 c])] at hJ
    refine s_bipush (v := 10) hX dX12_all_55 rfl ?_
    exact hJ
  · rw [if_pos (by simp [b2i_1 c])] at hJ
    refine s_bipush (v := 9) hX dX12_all_50 rfl ?_
    refine s_goto (tgt := 57) hX dX12_all_52 (by decide) ?_
    exact hJ
def w_Mo_all_L5 (r_Mo_all : Int32 → Mem → (Mem → Prop) → Prop) (r_Mo_test : Int32 → Mem → (Mem → Prop) → Prop) (r_Mo_sums : Int32 → Mem → (Mem → Prop) → Prop) (r_Mo_products : Int32 → Mem → (Mem → Prop) → Prop) (r_Mo_takePart : Int32 → Mem → (Mem → Prop) → Prop) (l1 : Int32) (K : Mem → Prop) (Q : Mem → Prop) : Nat → Mem → Prop
  | 0, _ => False
  | n + 1, M => w_Mo_isWord 18 M (fun b708 M707 => ((b708 = true → w_Mo_all_j23 r_Mo_all r_Mo_test r_Mo_sums r_Mo_products r_Mo_takePart (fun M => w_Mo_all_L5 r_Mo_all r_Mo_test r_Mo_sums r_Mo_products r_Mo_takePart l1 K Q n M) K l1 M707 Q) ∧ (b708 = false → w_Mo_isWord 19 M707 (fun b714 M713 => ((b714 = false → K M713) ∧ (b714 = true → w_Mo_all_j23 r_Mo_all r_Mo_test r_Mo_sums r_Mo_products r_Mo_takePart (fun M => w_Mo_all_L5 r_Mo_all r_Mo_test r_Mo_sums r_Mo_products r_Mo_takePart l1 K Q n M) K l1 M713 Q))))))
set_option maxHeartbeats 4000000 in
theorem t_Mo_all_L5 {lv0 : Nat} {X : Cx} (hX : Cok X cX12_all RX12 3 none (lv0 + 1) 0 0) {Q : Mem → Prop} (hq : RV X 0 0 LY Q) {r_Mo_all : Int32 → Mem → (Mem → Prop) → Prop} {r_Mo_test : Int32 → Mem → (Mem → Prop) → Prop} {r_Mo_sums : Int32 → Mem → (Mem → Prop) → Prop} {r_Mo_products : Int32 → Mem → (Mem → Prop) → Prop} {r_Mo_takePart : Int32 → Mem → (Mem → Prop) → Prop} (hlv0 : 2 ≤ lv0) (hr_Mo_all : ∀ (a0 : Int32) M Q, r_Mo_all a0 M Q → CV yX12_all cX12_all 3 none lv0 0 0 LY LY [vr c_mo, vi a0] M Q) (hr_Mo_test : ∀ (a0 : Int32) M Q, r_Mo_test a0 M Q → CV yX12_test cX12_test 3 none lv0 0 0 LY LY [vr c_mo, vi a0] M Q) (hr_Mo_sums : ∀ (a0 : Int32) M Q, r_Mo_sums a0 M Q → CV yX12_sums cX12_sums 3 none lv0 0 0 LY LY [vr c_mo, vi a0] M Q) (hr_Mo_products : ∀ (a0 : Int32) M Q, r_Mo_products a0 M Q → CV yX12_products cX12_products 2 none lv0 0 0 LY LY [vr c_mo, vi a0] M Q) (hr_Mo_takePart : ∀ (a0 : Int32) M Q, r_Mo_takePart a0 M Q → CV yX12_takePart cX12_takePart 4 none lv0 0 0 LY LY [vr c_mo, vi a0] M Q) {l1 : Int32} {K : Mem → Prop} (hK : ∀ (M : Mem), K M → Wat X 0 0 LY 64 [none, none, none] [] M) : ∀ (n : Nat) (M : Mem), w_Mo_all_L5 r_Mo_all r_Mo_test r_Mo_sums r_Mo_products r_Mo_takePart l1 K Q n M → Wat X 0 0 LY 5 [some (vr c_mo), some (vi l1), none] [] M := by
  intro n
  induction n with
  | zero => intro _ h; exact h.elim
  | succ n ih =>
    intro M h
    refine s_aload_n hX dX12_all_5 rfl ?_
    refine s_bipush (v := 18) hX dX12_all_6 rfl ?_
    refine s_cvi (as := [vi 18]) (rest := []) hX (c_Mo_isWord h) mv_Mo_isWord wd_ml_X12_188 dX12_all_8 ly_c_mo rfl rfl (Nat.le_of_ble_eq_true rfl) rfl (by omega) ⟨Nat.zero_le _, Nat.zero_le _⟩ (fun b708_ M707 h => ?_)
    obtain ⟨b708, rfl, h⟩ := h
    refine s_if_ne (tgt := 23) hX dX12_all_11 (by decide) (fun c => ?_) (fun c => ?_)
    · replace h := h.1 (b2i_1 c)
      exact t_Mo_all_j23 hX hq hlv0 hr_Mo_all hr_Mo_test hr_Mo_sums hr_Mo_products hr_Mo_takePart (fun _ h => ih _ h) hK h
    · replace h := h.2 (b2i_0 c)
      refine s_aload_n hX dX12_all_14 rfl ?_
      refine s_bipush (v := 19) hX dX12_all_15 rfl ?_
      refine s_cvi (as := [vi 19]) (rest := []) hX (c_Mo_isWord h) mv_Mo_isWord wd_ml_X12_188 dX12_all_17 ly_c_mo rfl rfl (Nat.le_of_ble_eq_true rfl) rfl (by omega) ⟨Nat.zero_le _, Nat.zero_le _⟩ (fun b714_ M713 h => ?_)
      obtain ⟨b714, rfl, h⟩ := h
      refine s_if_eq (tgt := 64) hX dX12_all_20 (by decide) (fun c => ?_) (fun c => ?_)
      · replace h := h.1 (b2i_0 c)
        refine s_mask [false, false, true] (lv' := [none, none, none]) rfl rfl ?_
        exact hK _ h
      · replace h := h.2 (b2i_1 c)
        exact t_Mo_all_j23 hX hq hlv0 hr_Mo_all hr_Mo_test hr_Mo_sums hr_Mo_products hr_Mo_takePart (fun _ h => ih _ h) hK h
def w_Mo_all_body (r_Mo_all : Int32 → Mem → (Mem → Prop) → Prop) (r_Mo_test : Int32 → Mem → (Mem → Prop) → Prop) (r_Mo_sums : Int32 → Mem → (Mem → Prop) → Prop) (r_Mo_products : Int32 → Mem → (Mem → Prop) → Prop) (r_Mo_takePart : Int32 → Mem → (Mem → Prop) → Prop) (a0 : Int32) (M : Mem) (Q : Mem → Prop) : Prop :=
  r_Mo_test a0 M (fun M706 => (∃ n716, w_Mo_all_L5 r_Mo_all r_Mo_test r_Mo_sums r_Mo_products r_Mo_takePart a0 (fun M715 => Q M715) Q n716 M706))
set_option maxHeartbeats 4000000 in
theorem t_Mo_all {lv0 : Nat} {X : Cx} (hX : Cok X cX12_all RX12 3 none (lv0 + 1) 0 0) {Q : Mem → Prop} (hq : RV X 0 0 LY Q) {r_Mo_all : Int32 → Mem → (Mem → Prop) → Prop} {r_Mo_test : Int32 → Mem → (Mem → Prop) → Prop} {r_Mo_sums : Int32 → Mem → (Mem → Prop) → Prop} {r_Mo_products : Int32 → Mem → (Mem → Prop) → Prop} {r_Mo_takePart : Int32 → Mem → (Mem → Prop) → Prop} (hlv0 : 2 ≤ lv0) (hr_Mo_all : ∀ (a0 : Int32) M Q, r_Mo_all a0 M Q → CV yX12_all cX12_all 3 none lv0 0 0 LY LY [vr c_mo, vi a0] M Q) (hr_Mo_test : ∀ (a0 : Int32) M Q, r_Mo_test a0 M Q → CV yX12_test cX12_test 3 none lv0 0 0 LY LY [vr c_mo, vi a0] M Q) (hr_Mo_sums : ∀ (a0 : Int32) M Q, r_Mo_sums a0 M Q → CV yX12_sums cX12_sums 3 none lv0 0 0 LY LY [vr c_mo, vi a0] M Q) (hr_Mo_products : ∀ (a0 : Int32) M Q, r_Mo_products a0 M Q → CV yX12_products cX12_products 2 none lv0 0 0 LY LY [vr c_mo, vi a0] M Q) (hr_Mo_takePart : ∀ (a0 : Int32) M Q, r_Mo_takePart a0 M Q → CV yX12_takePart cX12_takePart 4 none lv0 0 0 LY LY [vr c_mo, vi a0] M Q) {M : Mem} {a0 : Int32} (h : w_Mo_all_body r_Mo_all r_Mo_test r_Mo_sums r_Mo_products r_Mo_takePart  a0 M Q) : Wat X 0 0 LY 0 [some (vr c_mo), some (vi a0), none] [] M := by
  refine s_aload_n hX dX12_all_0 rfl ?_
  refine s_iload_n hX dX12_all_1 rfl ?_
  refine s_cvv (as := [vi a0]) (rest := []) hX (hr_Mo_test _ _ _ h) mv_Mo_test wd_ml_X12_286 dX12_all_2 ly_c_mo rfl rfl (Nat.le_of_ble_eq_true rfl) rfl (Nat.lt_succ_self _) ⟨Nat.zero_le _, Nat.zero_le _⟩ (fun M706 h => ?_)
  obtain ⟨n716, h⟩ := h
  refine t_Mo_all_L5 hX hq hlv0 hr_Mo_all hr_Mo_test hr_Mo_sums hr_Mo_products hr_Mo_takePart ?_ n716 _ h
  intro M715 h
  exact s_vret hX hq rfl dX12_all_64 h
def w_Mo_test_j47 (r_Mo_all : Int32 → Mem → (Mem → Prop) → Prop) (r_Mo_test : Int32 → Mem → (Mem → Prop) → Prop) (r_Mo_sums : Int32 → Mem → (Mem → Prop) → Prop) (r_Mo_products : Int32 → Mem → (Mem → Prop) → Prop) (r_Mo_takePart : Int32 → Mem → (Mem → Prop) → Prop) (s1 : Int32) (M : Mem) (Q : Mem → Prop) : Prop :=
  w_Mo_emit s1 0 M (fun M725 => Q M725)
set_option maxHeartbeats 4000000 in
theorem t_Mo_test_j47 {lv0 : Nat} {X : Cx} (hX : Cok X cX12_test RX12 3 none (lv0 + 1) 0 0) {Q : Mem → Prop} (hq : RV X 0 0 LY Q) {r_Mo_all : Int32 → Mem → (Mem → Prop) → Prop} {r_Mo_test : Int32 → Mem → (Mem → Prop) → Prop} {r_Mo_sums : Int32 → Mem → (Mem → Prop) → Prop} {r_Mo_products : Int32 → Mem → (Mem → Prop) → Prop} {r_Mo_takePart : Int32 → Mem → (Mem → Prop) → Prop} (hlv0 : 2 ≤ lv0) (hr_Mo_all : ∀ (a0 : Int32) M Q, r_Mo_all a0 M Q → CV yX12_all cX12_all 3 none lv0 0 0 LY LY [vr c_mo, vi a0] M Q) (hr_Mo_test : ∀ (a0 : Int32) M Q, r_Mo_test a0 M Q → CV yX12_test cX12_test 3 none lv0 0 0 LY LY [vr c_mo, vi a0] M Q) (hr_Mo_sums : ∀ (a0 : Int32) M Q, r_Mo_sums a0 M Q → CV yX12_sums cX12_sums 3 none lv0 0 0 LY LY [vr c_mo, vi a0] M Q) (hr_Mo_products : ∀ (a0 : Int32) M Q, r_Mo_products a0 M Q → CV yX12_products cX12_products 2 none lv0 0 0 LY LY [vr c_mo, vi a0] M Q) (hr_Mo_takePart : ∀ (a0 : Int32) M Q, r_Mo_takePart a0 M Q → CV yX12_takePart cX12_takePart 4 none lv0 0 0 LY LY [vr c_mo, vi a0] M Q) {s1 : Int32} {M : Mem} (h : w_Mo_test_j47 r_Mo_all r_Mo_test r_Mo_sums r_Mo_products r_Mo_takePart s1 M Q) : Wat X 0 0 LY 47 [none, none, none] [vi s1, vr c_mo] M := by
  refine s_iconst (v := 0) hX dX12_test_47 rfl ?_
  refine s_cvv (as := [vi s1, vi 0]) (rest := []) hX (c_Mo_emit h) mv_Mo_emit wd_ml_X12_282 dX12_test_48 ly_c_mo rfl rfl (Nat.le_of_ble_eq_true rfl) rfl (by omega) ⟨Nat.zero_le _, Nat.zero_le _⟩ (fun M725 h => ?_)
  exact s_vret hX hq rfl dX12_test_51 h
def w_Mo_test_j30 (r_Mo_all : Int32 → Mem → (Mem → Prop) → Prop) (r_Mo_test : Int32 → Mem → (Mem → Prop) → Prop) (r_Mo_sums : Int32 → Mem → (Mem → Prop) → Prop) (r_Mo_products : Int32 → Mem → (Mem → Prop) → Prop) (r_Mo_takePart : Int32 → Mem → (Mem → Prop) → Prop) (l1 : Int32) (l2 : Int32) (M : Mem) (Q : Mem → Prop) : Prop :=
  r_Mo_sums l1 M (fun M724 => w_Mo_test_j47 r_Mo_all r_Mo_test r_Mo_sums r_Mo_products r_Mo_takePart (if l2 = 0 then (8 : Int32) else 7) M724 Q)
set_option maxHeartbeats 4000000 in
theorem t_Mo_test_j30 {lv0 : Nat} {X : Cx} (hX : Cok X cX12_test RX12 3 none (lv0 + 1) 0 0) {Q : Mem → Prop} (hq : RV X 0 0 LY Q) {r_Mo_all : Int32 → Mem → (Mem → Prop) → Prop} {r_Mo_test : Int32 → Mem → (Mem → Prop) → Prop} {r_Mo_sums : Int32 → Mem → (Mem → Prop) → Prop} {r_Mo_products : Int32 → Mem → (Mem → Prop) → Prop} {r_Mo_takePart : Int32 → Mem → (Mem → Prop) → Prop} (hlv0 : 2 ≤ lv0) (hr_Mo_all : ∀ (a0 : Int32) M Q, r_Mo_all a0 M Q → CV yX12_all cX12_all 3 none lv0 0 0 LY LY [vr c_mo, vi a0] M Q) (hr_Mo_test : ∀ (a0 : Int32) M Q, r_Mo_test a0 M Q → CV yX12_test cX12_test 3 none lv0 0 0 LY LY [vr c_mo, vi a0] M Q) (hr_Mo_sums : ∀ (a0 : Int32) M Q, r_Mo_sums a0 M Q → CV yX12_sums cX12_sums 3 none lv0 0 0 LY LY [vr c_mo, vi a0] M Q) (hr_Mo_products : ∀ (a0 : Int32) M Q, r_Mo_products a0 M Q → CV yX12_products cX12_products 2 none lv0 0 0 LY LY [vr c_mo, vi a0] M Q) (hr_Mo_takePart : ∀ (a0 : Int32) M Q, r_Mo_takePart a0 M Q → CV yX12_takePart cX12_takePart 4 none lv0 0 0 LY LY [vr c_mo, vi a0] M Q) {l1 : Int32} {l2 : Int32} {M : Mem} (h : w_Mo_test_j30 r_Mo_all r_Mo_test r_Mo_sums r_Mo_products r_Mo_takePart l1 l2 M Q) : Wat X 0 0 LY 30 [some (vr c_mo), some (vi l1), some (vi l2)] [] M := by
  refine s_aload_n hX dX12_test_30 rfl ?_
  refine s_iload_n hX dX12_test_31 rfl ?_
  refine s_cvv (as := [vi l1]) (rest := []) hX (hr_Mo_sums _ _ _ h) mv_Mo_sums wd_ml_X12_289 dX12_test_32 ly_c_mo rfl rfl (Nat.le_of_ble_eq_true rfl) rfl (Nat.lt_succ_self _) ⟨Nat.zero_le _, Nat.zero_le _⟩ (fun M724 h => ?_)
  refine s_aload_n hX dX12_test_35 rfl ?_
  refine s_iload_n hX dX12_test_36 rfl ?_
  have hJ : Wat X 0 0 LY 47 [some (vr c_mo), some (vi l1), some (vi l2)] [vi (if l2 = 0 then (8 : Int32) else 7), vr c_mo] M724 := by
    refine s_mask [false, false, false] (lv' := [none, none, none]) rfl rfl ?_
    exact t_Mo_test_j47 hX hq hlv0 hr_Mo_all hr_Mo_test hr_Mo_sums hr_Mo_products hr_Mo_takePart h
  refine s_if_eq (tgt := 45) hX dX12_test_37 (by decide) (fun c => ?_) (fun c => ?_)
  · rw [if_pos c] at hJ
    refine s_bipush (v := 8) hX dX12_test_45 rfl ?_
    exact hJ
  · rw [if_neg c] at hJ
    refine s_bipush (v := 7) hX dX12_test_40 rfl ?_
    refine s_goto (tgt := 47) hX dX12_test_42 (by decide) ?_
    exact hJ
def w_Mo_test_body (r_Mo_all : Int32 → Mem → (Mem → Prop) → Prop) (r_Mo_test : Int32 → Mem → (Mem → Prop) → Prop) (r_Mo_sums : Int32 → Mem → (Mem → Prop) → Prop) (r_Mo_products : Int32 → Mem → (Mem → Prop) → Prop) (r_Mo_takePart : Int32 → Mem → (Mem → Prop) → Prop) (a0 : Int32) (M : Mem) (Q : Mem → Prop) : Prop :=
  r_Mo_sums a0 M (fun M717 => w_Mo_isSign 60 M717 (fun b719 M718 => w_Mo_hasSign 60 M718 (fun b723 M722 => ((b723 = true → w_Mo_test_j30 r_Mo_all r_Mo_test r_Mo_sums r_Mo_products r_Mo_takePart a0 (b2i b719) M722 Q) ∧ (b723 = false → w_Mo_hasSign 61 M722 (fun b727 M726 => ((b727 = false → Q M726) ∧ (b727 = true → w_Mo_test_j30 r_Mo_all r_Mo_test r_Mo_sums r_Mo_products r_Mo_takePart a0 (b2i b719) M726 Q))))))))
set_option maxHeartbeats 4000000 in
theorem t_Mo_test {lv0 : Nat} {X : Cx} (hX : Cok X cX12_test RX12 3 none (lv0 + 1) 0 0) {Q : Mem → Prop} (hq : RV X 0 0 LY Q) {r_Mo_all : Int32 → Mem → (Mem → Prop) → Prop} {r_Mo_test : Int32 → Mem → (Mem → Prop) → Prop} {r_Mo_sums : Int32 → Mem → (Mem → Prop) → Prop} {r_Mo_products : Int32 → Mem → (Mem → Prop) → Prop} {r_Mo_takePart : Int32 → Mem → (Mem → Prop) → Prop} (hlv0 : 2 ≤ lv0) (hr_Mo_all : ∀ (a0 : Int32) M Q, r_Mo_all a0 M Q → CV yX12_all cX12_all 3 none lv0 0 0 LY LY [vr c_mo, vi a0] M Q) (hr_Mo_test : ∀ (a0 : Int32) M Q, r_Mo_test a0 M Q → CV yX12_test cX12_test 3 none lv0 0 0 LY LY [vr c_mo, vi a0] M Q) (hr_Mo_sums : ∀ (a0 : Int32) M Q, r_Mo_sums a0 M Q → CV yX12_sums cX12_sums 3 none lv0 0 0 LY LY [vr c_mo, vi a0] M Q) (hr_Mo_products : ∀ (a0 : Int32) M Q, r_Mo_products a0 M Q → CV yX12_products cX12_products 2 none lv0 0 0 LY LY [vr c_mo, vi a0] M Q) (hr_Mo_takePart : ∀ (a0 : Int32) M Q, r_Mo_takePart a0 M Q → CV yX12_takePart cX12_takePart 4 none lv0 0 0 LY LY [vr c_mo, vi a0] M Q) {M : Mem} {a0 : Int32} (h : w_Mo_test_body r_Mo_all r_Mo_test r_Mo_sums r_Mo_products r_Mo_takePart  a0 M Q) : Wat X 0 0 LY 0 [some (vr c_mo), some (vi a0), none] [] M := by
  refine s_aload_n hX dX12_test_0 rfl ?_
  refine s_iload_n hX dX12_test_1 rfl ?_
  refine s_cvv (as := [vi a0]) (rest := []) hX (hr_Mo_sums _ _ _ h) mv_Mo_sums wd_ml_X12_289 dX12_test_2 ly_c_mo rfl rfl (Nat.le_of_ble_eq_true rfl) rfl (Nat.lt_succ_self _) ⟨Nat.zero_le _, Nat.zero_le _⟩ (fun M717 h => ?_)
  refine s_aload_n hX dX12_test_5 rfl ?_
  refine s_bipush (v := 60) hX dX12_test_6 rfl ?_
  refine s_cvi (as := [vi 60]) (rest := []) hX (c_Mo_isSign h) mv_Mo_isSign wd_ml_X12_182 dX12_test_8 ly_c_mo rfl rfl (Nat.le_of_ble_eq_true rfl) rfl (by omega) ⟨Nat.zero_le _, Nat.zero_le _⟩ (fun b719_ M718 h => ?_)
  obtain ⟨b719, rfl, h⟩ := h
  refine s_istore_n (lv' := [some (vr c_mo), some (vi a0), some (vi (b2i b719))]) hX dX12_test_11 rfl rfl (Nat.le_of_ble_eq_true rfl) ?_
  refine s_aload_n hX dX12_test_12 rfl ?_
  refine s_bipush (v := 60) hX dX12_test_13 rfl ?_
  refine s_cvi (as := [vi 60]) (rest := []) hX (c_Mo_hasSign h) mv_Mo_hasSign wd_ml_X12_292 dX12_test_15 ly_c_mo rfl rfl (Nat.le_of_ble_eq_true rfl) rfl (by omega) ⟨Nat.zero_le _, Nat.zero_le _⟩ (fun b723_ M722 h => ?_)
  obtain ⟨b723, rfl, h⟩ := h
  refine s_if_ne (tgt := 30) hX dX12_test_18 (by decide) (fun c => ?_) (fun c => ?_)
  · replace h := h.1 (b2i_1 c)
    exact t_Mo_test_j30 hX hq hlv0 hr_Mo_all hr_Mo_test hr_Mo_sums hr_Mo_products hr_Mo_takePart h
  · replace h := h.2 (b2i_0 c)
    refine s_aload_n hX dX12_test_21 rfl ?_
    refine s_bipush (v := 61) hX dX12_test_22 rfl ?_
    refine s_cvi (as := [vi 61]) (rest := []) hX (c_Mo_hasSign h) mv_Mo_hasSign wd_ml_X12_292 dX12_test_24 ly_c_mo rfl rfl (Nat.le_of_ble_eq_true rfl) rfl (by omega) ⟨Nat.zero_le _, Nat.zero_le _⟩ (fun b727_ M726 h => ?_)
    obtain ⟨b727, rfl, h⟩ := h
    refine s_if_eq (tgt := 51) hX dX12_test_27 (by decide) (fun c => ?_) (fun c => ?_)
    · replace h := h.1 (b2i_0 c)
      exact s_vret hX hq rfl dX12_test_51 h
    · replace h := h.2 (b2i_1 c)
      exact t_Mo_test_j30 hX hq hlv0 hr_Mo_all hr_Mo_test hr_Mo_sums hr_Mo_products hr_Mo_takePart h
def w_Mo_sums_j55 (r_Mo_all : Int32 → Mem → (Mem → Prop) → Prop) (r_Mo_test : Int32 → Mem → (Mem → Prop) → Prop) (r_Mo_sums : Int32 → Mem → (Mem → Prop) → Prop) (r_Mo_products : Int32 → Mem → (Mem → Prop) → Prop) (r_Mo_takePart : Int32 → Mem → (Mem → Prop) → Prop) (R : Mem → Prop) (K : Mem → Prop) (l1 : Int32) (s1 : Int32) (M : Mem) (Q : Mem → Prop) : Prop :=
  w_Mo_emit s1 0 M (fun M734 => R M734)
set_option maxHeartbeats 4000000 in
theorem t_Mo_sums_j55 {lv0 : Nat} {X : Cx} (hX : Cok X cX12_sums RX12 3 none (lv0 + 1) 0 0) {Q : Mem → Prop} (hq : RV X 0 0 LY Q) {r_Mo_all : Int32 → Mem → (Mem → Prop) → Prop} {r_Mo_test : Int32 → Mem → (Mem → Prop) → Prop} {r_Mo_sums : Int32 → Mem → (Mem → Prop) → Prop} {r_Mo_products : Int32 → Mem → (Mem → Prop) → Prop} {r_Mo_takePart : Int32 → Mem → (Mem → Prop) → Prop} (hlv0 : 2 ≤ lv0) (hr_Mo_all : ∀ (a0 : Int32) M Q, r_Mo_all a0 M Q → CV yX12_all cX12_all 3 none lv0 0 0 LY LY [vr c_mo, vi a0] M Q) (hr_Mo_test : ∀ (a0 : Int32) M Q, r_Mo_test a0 M Q → CV yX12_test cX12_test 3 none lv0 0 0 LY LY [vr c_mo, vi a0] M Q) (hr_Mo_sums : ∀ (a0 : Int32) M Q, r_Mo_sums a0 M Q → CV yX12_sums cX12_sums 3 none lv0 0 0 LY LY [vr c_mo, vi a0] M Q) (hr_Mo_products : ∀ (a0 : Int32) M Q, r_Mo_products a0 M Q → CV yX12_products cX12_products 2 none lv0 0 0 LY LY [vr c_mo, vi a0] M Q) (hr_Mo_takePart : ∀ (a0 : Int32) M Q, r_Mo_takePart a0 M Q → CV yX12_takePart cX12_takePart 4 none lv0 0 0 LY LY [vr c_mo, vi a0] M Q) {l1 : Int32} {R : Mem → Prop} {K : Mem → Prop} (hR : ∀ (M : Mem), R M → Wat X 0 0 LY 5 [some (vr c_mo), some (vi l1), none] [] M) (hK : ∀ (M : Mem), K M → Wat X 0 0 LY 62 [none, none, none] [] M) {s1 : Int32} {M : Mem} (h : w_Mo_sums_j55 r_Mo_all r_Mo_test r_Mo_sums r_Mo_products r_Mo_takePart R K l1 s1 M Q) : Wat X 0 0 LY 55 [some (vr c_mo), some (vi l1), none] [vi s1, vr c_mo] M := by
  refine s_iconst (v := 0) hX dX12_sums_55 rfl ?_
  refine s_cvv (as := [vi s1, vi 0]) (rest := []) hX (c_Mo_emit h) mv_Mo_emit wd_ml_X12_282 dX12_sums_56 ly_c_mo rfl rfl (Nat.le_of_ble_eq_true rfl) rfl (by omega) ⟨Nat.zero_le _, Nat.zero_le _⟩ (fun M734 h => ?_)
  refine s_goto (tgt := 5) hX dX12_sums_59 (by decide) ?_
  exact hR _ h
def w_Mo_sums_j23 (r_Mo_all : Int32 → Mem → (Mem → Prop) → Prop) (r_Mo_test : Int32 → Mem → (Mem → Prop) → Prop) (r_Mo_sums : Int32 → Mem → (Mem → Prop) → Prop) (r_Mo_products : Int32 → Mem → (Mem → Prop) → Prop) (r_Mo_takePart : Int32 → Mem → (Mem → Prop) → Prop) (R : Mem → Prop) (K : Mem → Prop) (l1 : Int32) (M : Mem) (Q : Mem → Prop) : Prop :=
  w_Mo_isSign 43 M (fun b732 M731 => r_Mo_products l1 (si M731 c_mo Mo_at ((M731.1 c_mo Mo_at) + 1)) (fun M733 => w_Mo_sums_j55 r_Mo_all r_Mo_test r_Mo_sums r_Mo_products r_Mo_takePart (fun M => R M) K l1 (if b732 = true then (4 : Int32) else 5) M733 Q))
set_option maxHeartbeats 4000000 in
theorem t_Mo_sums_j23 {lv0 : Nat} {X : Cx} (hX : Cok X cX12_sums RX12 3 none (lv0 + 1) 0 0) {Q : Mem → Prop} (hq : RV X 0 0 LY Q) {r_Mo_all : Int32 → Mem → (Mem → Prop) → Prop} {r_Mo_test : Int32 → Mem → (Mem → Prop) → Prop} {r_Mo_sums : Int32 → Mem → (Mem → Prop) → Prop} {r_Mo_products : Int32 → Mem → (Mem → Prop) → Prop} {r_Mo_takePart : Int32 → Mem → (Mem → Prop) → Prop} (hlv0 : 2 ≤ lv0) (hr_Mo_all : ∀ (a0 : Int32) M Q, r_Mo_all a0 M Q → CV yX12_all cX12_all 3 none lv0 0 0 LY LY [vr c_mo, vi a0] M Q) (hr_Mo_test : ∀ (a0 : Int32) M Q, r_Mo_test a0 M Q → CV yX12_test cX12_test 3 none lv0 0 0 LY LY [vr c_mo, vi a0] M Q) (hr_Mo_sums : ∀ (a0 : Int32) M Q, r_Mo_sums a0 M Q → CV yX12_sums cX12_sums 3 none lv0 0 0 LY LY [vr c_mo, vi a0] M Q) (hr_Mo_products : ∀ (a0 : Int32) M Q, r_Mo_products a0 M Q → CV yX12_products cX12_products 2 none lv0 0 0 LY LY [vr c_mo, vi a0] M Q) (hr_Mo_takePart : ∀ (a0 : Int32) M Q, r_Mo_takePart a0 M Q → CV yX12_takePart cX12_takePart 4 none lv0 0 0 LY LY [vr c_mo, vi a0] M Q) {l1 : Int32} {R : Mem → Prop} {K : Mem → Prop} (hR : ∀ (M : Mem), R M → Wat X 0 0 LY 5 [some (vr c_mo), some (vi l1), none] [] M) (hK : ∀ (M : Mem), K M → Wat X 0 0 LY 62 [none, none, none] [] M) {M : Mem} (h : w_Mo_sums_j23 r_Mo_all r_Mo_test r_Mo_sums r_Mo_products r_Mo_takePart R K l1 M Q) : Wat X 0 0 LY 23 [some (vr c_mo), some (vi l1), none] [] M := by
  refine s_aload_n hX dX12_sums_23 rfl ?_
  refine s_bipush (v := 43) hX dX12_sums_24 rfl ?_
  refine s_cvi (as := [vi 43]) (rest := []) hX (c_Mo_isSign h) mv_Mo_isSign wd_ml_X12_182 dX12_sums_26 ly_c_mo rfl rfl (Nat.le_of_ble_eq_true rfl) rfl (by omega) ⟨Nat.zero_le _, Nat.zero_le _⟩ (fun b732_ M731 h => ?_)
  obtain ⟨b732, rfl, h⟩ := h
  refine s_istore_n (lv' := [some (vr c_mo), some (vi l1), some (vi (b2i b732))]) hX dX12_sums_29 rfl rfl (Nat.le_of_ble_eq_true rfl) ?_
  refine s_aload_n hX dX12_sums_30 rfl ?_
  refine s_dup hX dX12_sums_31 rfl ?_
  refine s_getiv (v := (M731.1 c_mo Mo_at)) hX fi_X12_176 ly_c_mo rfl dX12_sums_32 rfl ?_
  refine s_iconst (v := 1) hX dX12_sums_35 rfl ?_
  refine s_iadd hX dX12_sums_36 ?_
  refine s_puti hX fi_X12_176 fp_X12 rfl (by decide +kernel) ly_c_mo rfl dX12_sums_37 ?_
  refine s_aload_n hX dX12_sums_40 rfl ?_
  refine s_iload_n hX dX12_sums_41 rfl ?_
  refine s_cvv (as := [vi l1]) (rest := []) hX (hr_Mo_products _ _ _ h) mv_Mo_products wd_ml_X12_295 dX12_sums_42 ly_c_mo rfl rfl (Nat.le_of_ble_eq_true rfl) rfl (Nat.lt_succ_self _) ⟨Nat.zero_le _, Nat.zero_le _⟩ (fun M733 h => ?_)
  refine s_aload_n hX dX12_sums_45 rfl ?_
  refine s_iload_n hX dX12_sums_46 rfl ?_
  have hJ : Wat X 0 0 LY 55 [some (vr c_mo), some (vi l1), some (vi (b2i b732))] [vi (if b732 = true then (4 : Int32) else 5), vr c_mo] M733 := by
    refine s_mask [true, true, false] (lv' := [some (vr c_mo), some (vi l1), none]) rfl rfl ?_
    exact t_Mo_sums_j55 hX hq hlv0 hr_Mo_all hr_Mo_test hr_Mo_sums hr_Mo_products hr_Mo_takePart (fun _ h => hR _ h) hK h
  refine s_if_eq (tgt := 54) hX dX12_sums_47 (by decide) (fun c => ?_) (fun c => ?_)
  · rw [if_neg (by simp [b2i_0 c])] at hJ
    refine s_iconst (v := 5) hX dX12_sums_54 rfl ?_
    exact hJ
  · rw [if_pos (by simp [b2i_1 c])] at hJ
    refine s_iconst (v := 4) hX dX12_sums_50 rfl ?_
    refine s_goto (tgt := 55) hX dX12_sums_51 (by decide) ?_
    exact hJ
def w_Mo_sums_L5 (r_Mo_all : Int32 → Mem → (Mem → Prop) → Prop) (r_Mo_test : Int32 → Mem → (Mem → Prop) → Prop) (r_Mo_sums : Int32 → Mem → (Mem → Prop) → Prop) (r_Mo_products : Int32 → Mem → (Mem → Prop) → Prop) (r_Mo_takePart : Int32 → Mem → (Mem → Prop) → Prop) (l1 : Int32) (K : Mem → Prop) (Q : Mem → Prop) : Nat → Mem → Prop
  | 0, _ => False
  | n + 1, M => w_Mo_isSign 43 M (fun b730 M729 => ((b730 = true → w_Mo_sums_j23 r_Mo_all r_Mo_test r_Mo_sums r_Mo_products r_Mo_takePart (fun M => w_Mo_sums_L5 r_Mo_all r_Mo_test r_Mo_sums r_Mo_products r_Mo_takePart l1 K Q n M) K l1 M729 Q) ∧ (b730 = false → w_Mo_isSign 45 M729 (fun b736 M735 => ((b736 = false → K M735) ∧ (b736 = true → w_Mo_sums_j23 r_Mo_all r_Mo_test r_Mo_sums r_Mo_products r_Mo_takePart (fun M => w_Mo_sums_L5 r_Mo_all r_Mo_test r_Mo_sums r_Mo_products r_Mo_takePart l1 K Q n M) K l1 M735 Q))))))
set_option maxHeartbeats 4000000 in
theorem t_Mo_sums_L5 {lv0 : Nat} {X : Cx} (hX : Cok X cX12_sums RX12 3 none (lv0 + 1) 0 0) {Q : Mem → Prop} (hq : RV X 0 0 LY Q) {r_Mo_all : Int32 → Mem → (Mem → Prop) → Prop} {r_Mo_test : Int32 → Mem → (Mem → Prop) → Prop} {r_Mo_sums : Int32 → Mem → (Mem → Prop) → Prop} {r_Mo_products : Int32 → Mem → (Mem → Prop) → Prop} {r_Mo_takePart : Int32 → Mem → (Mem → Prop) → Prop} (hlv0 : 2 ≤ lv0) (hr_Mo_all : ∀ (a0 : Int32) M Q, r_Mo_all a0 M Q → CV yX12_all cX12_all 3 none lv0 0 0 LY LY [vr c_mo, vi a0] M Q) (hr_Mo_test : ∀ (a0 : Int32) M Q, r_Mo_test a0 M Q → CV yX12_test cX12_test 3 none lv0 0 0 LY LY [vr c_mo, vi a0] M Q) (hr_Mo_sums : ∀ (a0 : Int32) M Q, r_Mo_sums a0 M Q → CV yX12_sums cX12_sums 3 none lv0 0 0 LY LY [vr c_mo, vi a0] M Q) (hr_Mo_products : ∀ (a0 : Int32) M Q, r_Mo_products a0 M Q → CV yX12_products cX12_products 2 none lv0 0 0 LY LY [vr c_mo, vi a0] M Q) (hr_Mo_takePart : ∀ (a0 : Int32) M Q, r_Mo_takePart a0 M Q → CV yX12_takePart cX12_takePart 4 none lv0 0 0 LY LY [vr c_mo, vi a0] M Q) {l1 : Int32} {K : Mem → Prop} (hK : ∀ (M : Mem), K M → Wat X 0 0 LY 62 [none, none, none] [] M) : ∀ (n : Nat) (M : Mem), w_Mo_sums_L5 r_Mo_all r_Mo_test r_Mo_sums r_Mo_products r_Mo_takePart l1 K Q n M → Wat X 0 0 LY 5 [some (vr c_mo), some (vi l1), none] [] M := by
  intro n
  induction n with
  | zero => intro _ h; exact h.elim
  | succ n ih =>
    intro M h
    refine s_aload_n hX dX12_sums_5 rfl ?_
    refine s_bipush (v := 43) hX dX12_sums_6 rfl ?_
    refine s_cvi (as := [vi 43]) (rest := []) hX (c_Mo_isSign h) mv_Mo_isSign wd_ml_X12_182 dX12_sums_8 ly_c_mo rfl rfl (Nat.le_of_ble_eq_true rfl) rfl (by omega) ⟨Nat.zero_le _, Nat.zero_le _⟩ (fun b730_ M729 h => ?_)
    obtain ⟨b730, rfl, h⟩ := h
    refine s_if_ne (tgt := 23) hX dX12_sums_11 (by decide) (fun c => ?_) (fun c => ?_)
    · replace h := h.1 (b2i_1 c)
      exact t_Mo_sums_j23 hX hq hlv0 hr_Mo_all hr_Mo_test hr_Mo_sums hr_Mo_products hr_Mo_takePart (fun _ h => ih _ h) hK h
    · replace h := h.2 (b2i_0 c)
      refine s_aload_n hX dX12_sums_14 rfl ?_
      refine s_bipush (v := 45) hX dX12_sums_15 rfl ?_
      refine s_cvi (as := [vi 45]) (rest := []) hX (c_Mo_isSign h) mv_Mo_isSign wd_ml_X12_182 dX12_sums_17 ly_c_mo rfl rfl (Nat.le_of_ble_eq_true rfl) rfl (by omega) ⟨Nat.zero_le _, Nat.zero_le _⟩ (fun b736_ M735 h => ?_)
      obtain ⟨b736, rfl, h⟩ := h
      refine s_if_eq (tgt := 62) hX dX12_sums_20 (by decide) (fun c => ?_) (fun c => ?_)
      · replace h := h.1 (b2i_0 c)
        refine s_mask [false, false, true] (lv' := [none, none, none]) rfl rfl ?_
        exact hK _ h
      · replace h := h.2 (b2i_1 c)
        exact t_Mo_sums_j23 hX hq hlv0 hr_Mo_all hr_Mo_test hr_Mo_sums hr_Mo_products hr_Mo_takePart (fun _ h => ih _ h) hK h
def w_Mo_sums_body (r_Mo_all : Int32 → Mem → (Mem → Prop) → Prop) (r_Mo_test : Int32 → Mem → (Mem → Prop) → Prop) (r_Mo_sums : Int32 → Mem → (Mem → Prop) → Prop) (r_Mo_products : Int32 → Mem → (Mem → Prop) → Prop) (r_Mo_takePart : Int32 → Mem → (Mem → Prop) → Prop) (a0 : Int32) (M : Mem) (Q : Mem → Prop) : Prop :=
  r_Mo_products a0 M (fun M728 => (∃ n738, w_Mo_sums_L5 r_Mo_all r_Mo_test r_Mo_sums r_Mo_products r_Mo_takePart a0 (fun M737 => Q M737) Q n738 M728))
set_option maxHeartbeats 4000000 in
theorem t_Mo_sums {lv0 : Nat} {X : Cx} (hX : Cok X cX12_sums RX12 3 none (lv0 + 1) 0 0) {Q : Mem → Prop} (hq : RV X 0 0 LY Q) {r_Mo_all : Int32 → Mem → (Mem → Prop) → Prop} {r_Mo_test : Int32 → Mem → (Mem → Prop) → Prop} {r_Mo_sums : Int32 → Mem → (Mem → Prop) → Prop} {r_Mo_products : Int32 → Mem → (Mem → Prop) → Prop} {r_Mo_takePart : Int32 → Mem → (Mem → Prop) → Prop} (hlv0 : 2 ≤ lv0) (hr_Mo_all : ∀ (a0 : Int32) M Q, r_Mo_all a0 M Q → CV yX12_all cX12_all 3 none lv0 0 0 LY LY [vr c_mo, vi a0] M Q) (hr_Mo_test : ∀ (a0 : Int32) M Q, r_Mo_test a0 M Q → CV yX12_test cX12_test 3 none lv0 0 0 LY LY [vr c_mo, vi a0] M Q) (hr_Mo_sums : ∀ (a0 : Int32) M Q, r_Mo_sums a0 M Q → CV yX12_sums cX12_sums 3 none lv0 0 0 LY LY [vr c_mo, vi a0] M Q) (hr_Mo_products : ∀ (a0 : Int32) M Q, r_Mo_products a0 M Q → CV yX12_products cX12_products 2 none lv0 0 0 LY LY [vr c_mo, vi a0] M Q) (hr_Mo_takePart : ∀ (a0 : Int32) M Q, r_Mo_takePart a0 M Q → CV yX12_takePart cX12_takePart 4 none lv0 0 0 LY LY [vr c_mo, vi a0] M Q) {M : Mem} {a0 : Int32} (h : w_Mo_sums_body r_Mo_all r_Mo_test r_Mo_sums r_Mo_products r_Mo_takePart  a0 M Q) : Wat X 0 0 LY 0 [some (vr c_mo), some (vi a0), none] [] M := by
  refine s_aload_n hX dX12_sums_0 rfl ?_
  refine s_iload_n hX dX12_sums_1 rfl ?_
  refine s_cvv (as := [vi a0]) (rest := []) hX (hr_Mo_products _ _ _ h) mv_Mo_products wd_ml_X12_295 dX12_sums_2 ly_c_mo rfl rfl (Nat.le_of_ble_eq_true rfl) rfl (Nat.lt_succ_self _) ⟨Nat.zero_le _, Nat.zero_le _⟩ (fun M728 h => ?_)
  obtain ⟨n738, h⟩ := h
  refine t_Mo_sums_L5 hX hq hlv0 hr_Mo_all hr_Mo_test hr_Mo_sums hr_Mo_products hr_Mo_takePart ?_ n738 _ h
  intro M737 h
  exact s_vret hX hq rfl dX12_sums_62 h
def w_Mo_products_L5 (r_Mo_all : Int32 → Mem → (Mem → Prop) → Prop) (r_Mo_test : Int32 → Mem → (Mem → Prop) → Prop) (r_Mo_sums : Int32 → Mem → (Mem → Prop) → Prop) (r_Mo_products : Int32 → Mem → (Mem → Prop) → Prop) (r_Mo_takePart : Int32 → Mem → (Mem → Prop) → Prop) (l1 : Int32) (K : Mem → Prop) (Q : Mem → Prop) : Nat → Mem → Prop
  | 0, _ => False
  | n + 1, M => w_Mo_hasSign 42 M (fun b741 M740 => ((b741 = false → K M740) ∧ (b741 = true → r_Mo_takePart l1 M740 (fun M742 => w_Mo_emit 6 0 M742 (fun M743 => w_Mo_products_L5 r_Mo_all r_Mo_test r_Mo_sums r_Mo_products r_Mo_takePart l1 K Q n M743)))))
set_option maxHeartbeats 4000000 in
theorem t_Mo_products_L5 {lv0 : Nat} {X : Cx} (hX : Cok X cX12_products RX12 2 none (lv0 + 1) 0 0) {Q : Mem → Prop} (hq : RV X 0 0 LY Q) {r_Mo_all : Int32 → Mem → (Mem → Prop) → Prop} {r_Mo_test : Int32 → Mem → (Mem → Prop) → Prop} {r_Mo_sums : Int32 → Mem → (Mem → Prop) → Prop} {r_Mo_products : Int32 → Mem → (Mem → Prop) → Prop} {r_Mo_takePart : Int32 → Mem → (Mem → Prop) → Prop} (hlv0 : 2 ≤ lv0) (hr_Mo_all : ∀ (a0 : Int32) M Q, r_Mo_all a0 M Q → CV yX12_all cX12_all 3 none lv0 0 0 LY LY [vr c_mo, vi a0] M Q) (hr_Mo_test : ∀ (a0 : Int32) M Q, r_Mo_test a0 M Q → CV yX12_test cX12_test 3 none lv0 0 0 LY LY [vr c_mo, vi a0] M Q) (hr_Mo_sums : ∀ (a0 : Int32) M Q, r_Mo_sums a0 M Q → CV yX12_sums cX12_sums 3 none lv0 0 0 LY LY [vr c_mo, vi a0] M Q) (hr_Mo_products : ∀ (a0 : Int32) M Q, r_Mo_products a0 M Q → CV yX12_products cX12_products 2 none lv0 0 0 LY LY [vr c_mo, vi a0] M Q) (hr_Mo_takePart : ∀ (a0 : Int32) M Q, r_Mo_takePart a0 M Q → CV yX12_takePart cX12_takePart 4 none lv0 0 0 LY LY [vr c_mo, vi a0] M Q) {l1 : Int32} {K : Mem → Prop} (hK : ∀ (M : Mem), K M → Wat X 0 0 LY 29 [none, none] [] M) : ∀ (n : Nat) (M : Mem), w_Mo_products_L5 r_Mo_all r_Mo_test r_Mo_sums r_Mo_products r_Mo_takePart l1 K Q n M → Wat X 0 0 LY 5 [some (vr c_mo), some (vi l1)] [] M := by
  intro n
  induction n with
  | zero => intro _ h; exact h.elim
  | succ n ih =>
    intro M h
    refine s_aload_n hX dX12_products_5 rfl ?_
    refine s_bipush (v := 42) hX dX12_products_6 rfl ?_
    refine s_cvi (as := [vi 42]) (rest := []) hX (c_Mo_hasSign h) mv_Mo_hasSign wd_ml_X12_292 dX12_products_8 ly_c_mo rfl rfl (Nat.le_of_ble_eq_true rfl) rfl (by omega) ⟨Nat.zero_le _, Nat.zero_le _⟩ (fun b741_ M740 h => ?_)
    obtain ⟨b741, rfl, h⟩ := h
    refine s_if_eq (tgt := 29) hX dX12_products_11 (by decide) (fun c => ?_) (fun c => ?_)
    · replace h := h.1 (b2i_0 c)
      refine s_mask [false, false] (lv' := [none, none]) rfl rfl ?_
      exact hK _ h
    · replace h := h.2 (b2i_1 c)
      refine s_aload_n hX dX12_products_14 rfl ?_
      refine s_iload_n hX dX12_products_15 rfl ?_
      refine s_cvv (as := [vi l1]) (rest := []) hX (hr_Mo_takePart _ _ _ h) mv_Mo_takePart wd_ml_X12_298 dX12_products_16 ly_c_mo rfl rfl (Nat.le_of_ble_eq_true rfl) rfl (Nat.lt_succ_self _) ⟨Nat.zero_le _, Nat.zero_le _⟩ (fun M742 h => ?_)
      refine s_aload_n hX dX12_products_19 rfl ?_
      refine s_bipush (v := 6) hX dX12_products_20 rfl ?_
      refine s_iconst (v := 0) hX dX12_products_22 rfl ?_
      refine s_cvv (as := [vi 6, vi 0]) (rest := []) hX (c_Mo_emit h) mv_Mo_emit wd_ml_X12_282 dX12_products_23 ly_c_mo rfl rfl (Nat.le_of_ble_eq_true rfl) rfl (by omega) ⟨Nat.zero_le _, Nat.zero_le _⟩ (fun M743 h => ?_)
      refine s_goto (tgt := 5) hX dX12_products_26 (by decide) ?_
      exact ih _ h
def w_Mo_products_body (r_Mo_all : Int32 → Mem → (Mem → Prop) → Prop) (r_Mo_test : Int32 → Mem → (Mem → Prop) → Prop) (r_Mo_sums : Int32 → Mem → (Mem → Prop) → Prop) (r_Mo_products : Int32 → Mem → (Mem → Prop) → Prop) (r_Mo_takePart : Int32 → Mem → (Mem → Prop) → Prop) (a0 : Int32) (M : Mem) (Q : Mem → Prop) : Prop :=
  r_Mo_takePart a0 M (fun M739 => (∃ n745, w_Mo_products_L5 r_Mo_all r_Mo_test r_Mo_sums r_Mo_products r_Mo_takePart a0 (fun M744 => Q M744) Q n745 M739))
set_option maxHeartbeats 4000000 in
theorem t_Mo_products {lv0 : Nat} {X : Cx} (hX : Cok X cX12_products RX12 2 none (lv0 + 1) 0 0) {Q : Mem → Prop} (hq : RV X 0 0 LY Q) {r_Mo_all : Int32 → Mem → (Mem → Prop) → Prop} {r_Mo_test : Int32 → Mem → (Mem → Prop) → Prop} {r_Mo_sums : Int32 → Mem → (Mem → Prop) → Prop} {r_Mo_products : Int32 → Mem → (Mem → Prop) → Prop} {r_Mo_takePart : Int32 → Mem → (Mem → Prop) → Prop} (hlv0 : 2 ≤ lv0) (hr_Mo_all : ∀ (a0 : Int32) M Q, r_Mo_all a0 M Q → CV yX12_all cX12_all 3 none lv0 0 0 LY LY [vr c_mo, vi a0] M Q) (hr_Mo_test : ∀ (a0 : Int32) M Q, r_Mo_test a0 M Q → CV yX12_test cX12_test 3 none lv0 0 0 LY LY [vr c_mo, vi a0] M Q) (hr_Mo_sums : ∀ (a0 : Int32) M Q, r_Mo_sums a0 M Q → CV yX12_sums cX12_sums 3 none lv0 0 0 LY LY [vr c_mo, vi a0] M Q) (hr_Mo_products : ∀ (a0 : Int32) M Q, r_Mo_products a0 M Q → CV yX12_products cX12_products 2 none lv0 0 0 LY LY [vr c_mo, vi a0] M Q) (hr_Mo_takePart : ∀ (a0 : Int32) M Q, r_Mo_takePart a0 M Q → CV yX12_takePart cX12_takePart 4 none lv0 0 0 LY LY [vr c_mo, vi a0] M Q) {M : Mem} {a0 : Int32} (h : w_Mo_products_body r_Mo_all r_Mo_test r_Mo_sums r_Mo_products r_Mo_takePart  a0 M Q) : Wat X 0 0 LY 0 [some (vr c_mo), some (vi a0)] [] M := by
  refine s_aload_n hX dX12_products_0 rfl ?_
  refine s_iload_n hX dX12_products_1 rfl ?_
  refine s_cvv (as := [vi a0]) (rest := []) hX (hr_Mo_takePart _ _ _ h) mv_Mo_takePart wd_ml_X12_298 dX12_products_2 ly_c_mo rfl rfl (Nat.le_of_ble_eq_true rfl) rfl (Nat.lt_succ_self _) ⟨Nat.zero_le _, Nat.zero_le _⟩ (fun M739 h => ?_)
  obtain ⟨n745, h⟩ := h
  refine t_Mo_products_L5 hX hq hlv0 hr_Mo_all hr_Mo_test hr_Mo_sums hr_Mo_products hr_Mo_takePart ?_ n745 _ h
  intro M744 h
  exact s_vret hX hq rfl dX12_products_29 h
def w_Mo_takePart_j162 (r_Mo_all : Int32 → Mem → (Mem → Prop) → Prop) (r_Mo_test : Int32 → Mem → (Mem → Prop) → Prop) (r_Mo_sums : Int32 → Mem → (Mem → Prop) → Prop) (r_Mo_products : Int32 → Mem → (Mem → Prop) → Prop) (r_Mo_takePart : Int32 → Mem → (Mem → Prop) → Prop) (s1 : Int32) (s2 : Int32) (M : Mem) (Q : Mem → Prop) : Prop :=
  w_Mo_emit s1 s2 M (fun M758 => Q (si M758 c_mo Mo_at ((M758.1 c_mo Mo_at) + 1)))
set_option maxHeartbeats 4000000 in
theorem t_Mo_takePart_j162 {lv0 : Nat} {X : Cx} (hX : Cok X cX12_takePart RX12 4 none (lv0 + 1) 0 0) {Q : Mem → Prop} (hq : RV X 0 0 LY Q) {r_Mo_all : Int32 → Mem → (Mem → Prop) → Prop} {r_Mo_test : Int32 → Mem → (Mem → Prop) → Prop} {r_Mo_sums : Int32 → Mem → (Mem → Prop) → Prop} {r_Mo_products : Int32 → Mem → (Mem → Prop) → Prop} {r_Mo_takePart : Int32 → Mem → (Mem → Prop) → Prop} (hlv0 : 2 ≤ lv0) (hr_Mo_all : ∀ (a0 : Int32) M Q, r_Mo_all a0 M Q → CV yX12_all cX12_all 3 none lv0 0 0 LY LY [vr c_mo, vi a0] M Q) (hr_Mo_test : ∀ (a0 : Int32) M Q, r_Mo_test a0 M Q → CV yX12_test cX12_test 3 none lv0 0 0 LY LY [vr c_mo, vi a0] M Q) (hr_Mo_sums : ∀ (a0 : Int32) M Q, r_Mo_sums a0 M Q → CV yX12_sums cX12_sums 3 none lv0 0 0 LY LY [vr c_mo, vi a0] M Q) (hr_Mo_products : ∀ (a0 : Int32) M Q, r_Mo_products a0 M Q → CV yX12_products cX12_products 2 none lv0 0 0 LY LY [vr c_mo, vi a0] M Q) (hr_Mo_takePart : ∀ (a0 : Int32) M Q, r_Mo_takePart a0 M Q → CV yX12_takePart cX12_takePart 4 none lv0 0 0 LY LY [vr c_mo, vi a0] M Q) {s1 : Int32} {s2 : Int32} {M : Mem} (h : w_Mo_takePart_j162 r_Mo_all r_Mo_test r_Mo_sums r_Mo_products r_Mo_takePart s1 s2 M Q) : Wat X 0 0 LY 162 [some (vr c_mo), none, none, none] [vi s2, vi s1, vr c_mo] M := by
  refine s_cvv (as := [vi s1, vi s2]) (rest := []) hX (c_Mo_emit h) mv_Mo_emit wd_ml_X12_282 dX12_takePart_162 ly_c_mo rfl rfl (Nat.le_of_ble_eq_true rfl) rfl (by omega) ⟨Nat.zero_le _, Nat.zero_le _⟩ (fun M758 h => ?_)
  refine s_aload_n hX dX12_takePart_165 rfl ?_
  refine s_dup hX dX12_takePart_166 rfl ?_
  refine s_getiv (v := (M758.1 c_mo Mo_at)) hX fi_X12_176 ly_c_mo rfl dX12_takePart_167 rfl ?_
  refine s_iconst (v := 1) hX dX12_takePart_170 rfl ?_
  refine s_iadd hX dX12_takePart_171 ?_
  refine s_puti hX fi_X12_176 fp_X12 rfl (by decide +kernel) ly_c_mo rfl dX12_takePart_172 ?_
  exact s_vret hX hq rfl dX12_takePart_175 h
def w_Mo_takePart_j144 (r_Mo_all : Int32 → Mem → (Mem → Prop) → Prop) (r_Mo_test : Int32 → Mem → (Mem → Prop) → Prop) (r_Mo_sums : Int32 → Mem → (Mem → Prop) → Prop) (r_Mo_products : Int32 → Mem → (Mem → Prop) → Prop) (r_Mo_takePart : Int32 → Mem → (Mem → Prop) → Prop) (l2 : Int32) (l3 : Int32) (s1 : Int32) (M : Mem) (Q : Mem → Prop) : Prop :=
  ((l2 = 0 → w_Mo_takePart_j162 r_Mo_all r_Mo_test r_Mo_sums r_Mo_products r_Mo_takePart s1 l3 M Q) ∧ (¬ l2 = 0 → (vp_in (M.1 c_mo Mo_at) 1002 ∧ w_Mo_takePart_j162 r_Mo_all r_Mo_test r_Mo_sums r_Mo_products r_Mo_takePart s1 (Int64.toInt32 (M.2 c_mo_value (Int32.toNatClampNeg (M.1 c_mo Mo_at)))) M Q)))
set_option maxHeartbeats 4000000 in
theorem t_Mo_takePart_j144 {lv0 : Nat} {X : Cx} (hX : Cok X cX12_takePart RX12 4 none (lv0 + 1) 0 0) {Q : Mem → Prop} (hq : RV X 0 0 LY Q) {r_Mo_all : Int32 → Mem → (Mem → Prop) → Prop} {r_Mo_test : Int32 → Mem → (Mem → Prop) → Prop} {r_Mo_sums : Int32 → Mem → (Mem → Prop) → Prop} {r_Mo_products : Int32 → Mem → (Mem → Prop) → Prop} {r_Mo_takePart : Int32 → Mem → (Mem → Prop) → Prop} (hlv0 : 2 ≤ lv0) (hr_Mo_all : ∀ (a0 : Int32) M Q, r_Mo_all a0 M Q → CV yX12_all cX12_all 3 none lv0 0 0 LY LY [vr c_mo, vi a0] M Q) (hr_Mo_test : ∀ (a0 : Int32) M Q, r_Mo_test a0 M Q → CV yX12_test cX12_test 3 none lv0 0 0 LY LY [vr c_mo, vi a0] M Q) (hr_Mo_sums : ∀ (a0 : Int32) M Q, r_Mo_sums a0 M Q → CV yX12_sums cX12_sums 3 none lv0 0 0 LY LY [vr c_mo, vi a0] M Q) (hr_Mo_products : ∀ (a0 : Int32) M Q, r_Mo_products a0 M Q → CV yX12_products cX12_products 2 none lv0 0 0 LY LY [vr c_mo, vi a0] M Q) (hr_Mo_takePart : ∀ (a0 : Int32) M Q, r_Mo_takePart a0 M Q → CV yX12_takePart cX12_takePart 4 none lv0 0 0 LY LY [vr c_mo, vi a0] M Q) {l2 : Int32} {l3 : Int32} {s1 : Int32} {M : Mem} (h : w_Mo_takePart_j144 r_Mo_all r_Mo_test r_Mo_sums r_Mo_products r_Mo_takePart l2 l3 s1 M Q) : Wat X 0 0 LY 144 [some (vr c_mo), none, some (vi l2), some (vi l3)] [vi s1, vr c_mo] M := by
  refine s_iload_n hX dX12_takePart_144 rfl ?_
  refine s_if_eq (tgt := 161) hX dX12_takePart_145 (by decide) (fun c => ?_) (fun c => ?_)
  · replace h := h.1 c
    refine s_iload_n hX dX12_takePart_161 rfl ?_
    refine s_mask [true, true, false, false] (lv' := [some (vr c_mo), none, none, none]) rfl rfl ?_
    exact t_Mo_takePart_j162 hX hq hlv0 hr_Mo_all hr_Mo_test hr_Mo_sums hr_Mo_products hr_Mo_takePart h
  · replace h := h.2 c
    refine s_aload_n hX dX12_takePart_148 rfl ?_
    refine s_getr hX fi_X12_30 ly_c_mo rfl dX12_takePart_149 ?_
    refine s_aload_n hX dX12_takePart_152 rfl ?_
    refine s_getiv (v := (M.1 c_mo Mo_at)) hX fi_X12_176 ly_c_mo rfl dX12_takePart_153 rfl ?_
    have hi := h.1
    replace h := h.2
    refine s_laldv (v := (M.2 c_mo_value (Int32.toNatClampNeg (M.1 c_mo Mo_at)))) hX ly_c_mo_value hi dX12_takePart_156 rfl ?_
    refine s_l2i hX dX12_takePart_157 ?_
    refine s_goto (tgt := 162) hX dX12_takePart_158 (by decide) ?_
    refine s_mask [true, true, false, false] (lv' := [some (vr c_mo), none, none, none]) rfl rfl ?_
    exact t_Mo_takePart_j162 hX hq hlv0 hr_Mo_all hr_Mo_test hr_Mo_sums hr_Mo_products hr_Mo_takePart h
def w_Mo_takePart_j76 (r_Mo_all : Int32 → Mem → (Mem → Prop) → Prop) (r_Mo_test : Int32 → Mem → (Mem → Prop) → Prop) (r_Mo_sums : Int32 → Mem → (Mem → Prop) → Prop) (r_Mo_products : Int32 → Mem → (Mem → Prop) → Prop) (r_Mo_takePart : Int32 → Mem → (Mem → Prop) → Prop) (l1 : Int32) (l2 : Int32) (l3 : Int32) (M : Mem) (Q : Mem → Prop) : Prop :=
  (((M.1 c_mo Mo_fault) ≤ 0 → w_Mo_hasWord 17 M (fun b755 M754 => ((b755 = false → w_Mo_hasSign 40 M754 (fun b757 M756 => ((b757 = false → w_Mo_takePart_j144 r_Mo_all r_Mo_test r_Mo_sums r_Mo_products r_Mo_takePart l2 l3 (if l2 = 0 then (2 : Int32) else 1) M756 Q) ∧ (b757 = true → r_Mo_all (l1 + 1) M756 (fun M759 => w_Mo_takeSign 41 M759 (fun M760 => Q M760)))))) ∧ (b755 = true → r_Mo_takePart (l1 + 1) M754 (fun M761 => w_Mo_emit 3 0 M761 (fun M762 => Q M762)))))) ∧ (¬ (M.1 c_mo Mo_fault) ≤ 0 → Q M))
set_option maxHeartbeats 4000000 in
theorem t_Mo_takePart_j76 {lv0 : Nat} {X : Cx} (hX : Cok X cX12_takePart RX12 4 none (lv0 + 1) 0 0) {Q : Mem → Prop} (hq : RV X 0 0 LY Q) {r_Mo_all : Int32 → Mem → (Mem → Prop) → Prop} {r_Mo_test : Int32 → Mem → (Mem → Prop) → Prop} {r_Mo_sums : Int32 → Mem → (Mem → Prop) → Prop} {r_Mo_products : Int32 → Mem → (Mem → Prop) → Prop} {r_Mo_takePart : Int32 → Mem → (Mem → Prop) → Prop} (hlv0 : 2 ≤ lv0) (hr_Mo_all : ∀ (a0 : Int32) M Q, r_Mo_all a0 M Q → CV yX12_all cX12_all 3 none lv0 0 0 LY LY [vr c_mo, vi a0] M Q) (hr_Mo_test : ∀ (a0 : Int32) M Q, r_Mo_test a0 M Q → CV yX12_test cX12_test 3 none lv0 0 0 LY LY [vr c_mo, vi a0] M Q) (hr_Mo_sums : ∀ (a0 : Int32) M Q, r_Mo_sums a0 M Q → CV yX12_sums cX12_sums 3 none lv0 0 0 LY LY [vr c_mo, vi a0] M Q) (hr_Mo_products : ∀ (a0 : Int32) M Q, r_Mo_products a0 M Q → CV yX12_products cX12_products 2 none lv0 0 0 LY LY [vr c_mo, vi a0] M Q) (hr_Mo_takePart : ∀ (a0 : Int32) M Q, r_Mo_takePart a0 M Q → CV yX12_takePart cX12_takePart 4 none lv0 0 0 LY LY [vr c_mo, vi a0] M Q) {l1 : Int32} {l2 : Int32} {l3 : Int32} {M : Mem} (h : w_Mo_takePart_j76 r_Mo_all r_Mo_test r_Mo_sums r_Mo_products r_Mo_takePart l1 l2 l3 M Q) : Wat X 0 0 LY 76 [some (vr c_mo), some (vi l1), some (vi l2), some (vi l3)] [] M := by
  refine s_aload_n hX dX12_takePart_76 rfl ?_
  refine s_getiv (v := (M.1 c_mo Mo_fault)) hX fi_X12_179 ly_c_mo rfl dX12_takePart_77 rfl ?_
  refine s_if_le (tgt := 84) hX dX12_takePart_80 (by decide) (fun c => ?_) (fun c => ?_)
  · replace h := h.1 c
    refine s_aload_n hX dX12_takePart_84 rfl ?_
    refine s_bipush (v := 17) hX dX12_takePart_85 rfl ?_
    refine s_cvi (as := [vi 17]) (rest := []) hX (c_Mo_hasWord h) mv_Mo_hasWord wd_ml_X12_191 dX12_takePart_87 ly_c_mo rfl rfl (Nat.le_of_ble_eq_true rfl) rfl (by omega) ⟨Nat.zero_le _, Nat.zero_le _⟩ (fun b755_ M754 h => ?_)
    obtain ⟨b755, rfl, h⟩ := h
    refine s_if_eq (tgt := 109) hX dX12_takePart_90 (by decide) (fun c => ?_) (fun c => ?_)
    · replace h := h.1 (b2i_0 c)
      refine s_aload_n hX dX12_takePart_109 rfl ?_
      refine s_bipush (v := 40) hX dX12_takePart_110 rfl ?_
      refine s_cvi (as := [vi 40]) (rest := []) hX (c_Mo_hasSign h) mv_Mo_hasSign wd_ml_X12_292 dX12_takePart_112 ly_c_mo rfl rfl (Nat.le_of_ble_eq_true rfl) rfl (by omega) ⟨Nat.zero_le _, Nat.zero_le _⟩ (fun b757_ M756 h => ?_)
      obtain ⟨b757, rfl, h⟩ := h
      refine s_if_eq (tgt := 134) hX dX12_takePart_115 (by decide) (fun c => ?_) (fun c => ?_)
      · replace h := h.1 (b2i_0 c)
        refine s_aload_n hX dX12_takePart_134 rfl ?_
        refine s_iload_n hX dX12_takePart_135 rfl ?_
        have hJ : Wat X 0 0 LY 144 [some (vr c_mo), some (vi l1), some (vi l2), some (vi l3)] [vi (if l2 = 0 then (2 : Int32) else 1), vr c_mo] M756 := by
          refine s_mask [true, false, true, true] (lv' := [some (vr c_mo), none, some (vi l2), some (vi l3)]) rfl rfl ?_
          exact t_Mo_takePart_j144 hX hq hlv0 hr_Mo_all hr_Mo_test hr_Mo_sums hr_Mo_products hr_Mo_takePart h
        refine s_if_eq (tgt := 143) hX dX12_takePart_136 (by decide) (fun c => ?_) (fun c => ?_)
        · rw [if_pos c] at hJ
          refine s_iconst (v := 2) hX dX12_takePart_143 rfl ?_
          exact hJ
        · rw [if_neg c] at hJ
          refine s_iconst (v := 1) hX dX12_takePart_139 rfl ?_
          refine s_goto (tgt := 144) hX dX12_takePart_140 (by decide) ?_
          exact hJ
      · replace h := h.2 (b2i_1 c)
        refine s_aload_n hX dX12_takePart_118 rfl ?_
        refine s_iload_n hX dX12_takePart_119 rfl ?_
        refine s_iconst (v := 1) hX dX12_takePart_120 rfl ?_
        refine s_iadd hX dX12_takePart_121 ?_
        refine s_cvv (as := [vi (l1 + 1)]) (rest := []) hX (hr_Mo_all _ _ _ h) mv_Mo_all wd_ml_X12_279 dX12_takePart_122 ly_c_mo rfl rfl (Nat.le_of_ble_eq_true rfl) rfl (Nat.lt_succ_self _) ⟨Nat.zero_le _, Nat.zero_le _⟩ (fun M759 h => ?_)
        refine s_aload_n hX dX12_takePart_125 rfl ?_
        refine s_bipush (v := 41) hX dX12_takePart_126 rfl ?_
        refine s_cvv (as := [vi 41]) (rest := []) hX (c_Mo_takeSign h) mv_Mo_takeSign wd_ml_X12_220 dX12_takePart_128 ly_c_mo rfl rfl (Nat.le_of_ble_eq_true rfl) rfl (by omega) ⟨Nat.zero_le _, Nat.zero_le _⟩ (fun M760 h => ?_)
        refine s_goto (tgt := 175) hX dX12_takePart_131 (by decide) ?_
        exact s_vret hX hq rfl dX12_takePart_175 h
    · replace h := h.2 (b2i_1 c)
      refine s_aload_n hX dX12_takePart_93 rfl ?_
      refine s_iload_n hX dX12_takePart_94 rfl ?_
      refine s_iconst (v := 1) hX dX12_takePart_95 rfl ?_
      refine s_iadd hX dX12_takePart_96 ?_
      refine s_cvv (as := [vi (l1 + 1)]) (rest := []) hX (hr_Mo_takePart _ _ _ h) mv_Mo_takePart wd_ml_X12_298 dX12_takePart_97 ly_c_mo rfl rfl (Nat.le_of_ble_eq_true rfl) rfl (Nat.lt_succ_self _) ⟨Nat.zero_le _, Nat.zero_le _⟩ (fun M761 h => ?_)
      refine s_aload_n hX dX12_takePart_100 rfl ?_
      refine s_iconst (v := 3) hX dX12_takePart_101 rfl ?_
      refine s_iconst (v := 0) hX dX12_takePart_102 rfl ?_
      refine s_cvv (as := [vi 3, vi 0]) (rest := []) hX (c_Mo_emit h) mv_Mo_emit wd_ml_X12_282 dX12_takePart_103 ly_c_mo rfl rfl (Nat.le_of_ble_eq_true rfl) rfl (by omega) ⟨Nat.zero_le _, Nat.zero_le _⟩ (fun M762 h => ?_)
      refine s_goto (tgt := 175) hX dX12_takePart_106 (by decide) ?_
      exact s_vret hX hq rfl dX12_takePart_175 h
  · replace h := h.2 c
    exact s_vret hX hq rfl dX12_takePart_83 h
def w_Mo_takePart_j66 (r_Mo_all : Int32 → Mem → (Mem → Prop) → Prop) (r_Mo_test : Int32 → Mem → (Mem → Prop) → Prop) (r_Mo_sums : Int32 → Mem → (Mem → Prop) → Prop) (r_Mo_products : Int32 → Mem → (Mem → Prop) → Prop) (r_Mo_takePart : Int32 → Mem → (Mem → Prop) → Prop) (l1 : Int32) (l2 : Int32) (l3 : Int32) (M : Mem) (Q : Mem → Prop) : Prop :=
  ((¬ l1 = 5 → w_Mo_takePart_j76 r_Mo_all r_Mo_test r_Mo_sums r_Mo_products r_Mo_takePart l1 l2 l3 M Q) ∧ (l1 = 5 → w_Mo_wrong 5 M (fun M763 => w_Mo_takePart_j76 r_Mo_all r_Mo_test r_Mo_sums r_Mo_products r_Mo_takePart l1 l2 l3 M763 Q)))
set_option maxHeartbeats 4000000 in
theorem t_Mo_takePart_j66 {lv0 : Nat} {X : Cx} (hX : Cok X cX12_takePart RX12 4 none (lv0 + 1) 0 0) {Q : Mem → Prop} (hq : RV X 0 0 LY Q) {r_Mo_all : Int32 → Mem → (Mem → Prop) → Prop} {r_Mo_test : Int32 → Mem → (Mem → Prop) → Prop} {r_Mo_sums : Int32 → Mem → (Mem → Prop) → Prop} {r_Mo_products : Int32 → Mem → (Mem → Prop) → Prop} {r_Mo_takePart : Int32 → Mem → (Mem → Prop) → Prop} (hlv0 : 2 ≤ lv0) (hr_Mo_all : ∀ (a0 : Int32) M Q, r_Mo_all a0 M Q → CV yX12_all cX12_all 3 none lv0 0 0 LY LY [vr c_mo, vi a0] M Q) (hr_Mo_test : ∀ (a0 : Int32) M Q, r_Mo_test a0 M Q → CV yX12_test cX12_test 3 none lv0 0 0 LY LY [vr c_mo, vi a0] M Q) (hr_Mo_sums : ∀ (a0 : Int32) M Q, r_Mo_sums a0 M Q → CV yX12_sums cX12_sums 3 none lv0 0 0 LY LY [vr c_mo, vi a0] M Q) (hr_Mo_products : ∀ (a0 : Int32) M Q, r_Mo_products a0 M Q → CV yX12_products cX12_products 2 none lv0 0 0 LY LY [vr c_mo, vi a0] M Q) (hr_Mo_takePart : ∀ (a0 : Int32) M Q, r_Mo_takePart a0 M Q → CV yX12_takePart cX12_takePart 4 none lv0 0 0 LY LY [vr c_mo, vi a0] M Q) {l1 : Int32} {l2 : Int32} {l3 : Int32} {M : Mem} (h : w_Mo_takePart_j66 r_Mo_all r_Mo_test r_Mo_sums r_Mo_products r_Mo_takePart l1 l2 l3 M Q) : Wat X 0 0 LY 66 [some (vr c_mo), some (vi l1), some (vi l2), some (vi l3)] [] M := by
  refine s_iload_n hX dX12_takePart_66 rfl ?_
  refine s_iconst (v := 5) hX dX12_takePart_67 rfl ?_
  refine s_icmp_ne (tgt := 76) hX dX12_takePart_68 (by decide) (fun c => ?_) (fun c => ?_)
  · replace h := h.1 c
    exact t_Mo_takePart_j76 hX hq hlv0 hr_Mo_all hr_Mo_test hr_Mo_sums hr_Mo_products hr_Mo_takePart h
  · replace h := h.2 c
    refine s_aload_n hX dX12_takePart_71 rfl ?_
    refine s_iconst (v := 5) hX dX12_takePart_72 rfl ?_
    refine s_cvv (as := [vi 5]) (rest := []) hX (c_Mo_wrong h) mv_Mo_wrong wd_ml_X12_185 dX12_takePart_73 ly_c_mo rfl rfl (Nat.le_of_ble_eq_true rfl) rfl (by omega) ⟨Nat.zero_le _, Nat.zero_le _⟩ (fun M763 h => ?_)
    exact t_Mo_takePart_j76 hX hq hlv0 hr_Mo_all hr_Mo_test hr_Mo_sums hr_Mo_products hr_Mo_takePart h
def w_Mo_takePart_j26 (r_Mo_all : Int32 → Mem → (Mem → Prop) → Prop) (r_Mo_test : Int32 → Mem → (Mem → Prop) → Prop) (r_Mo_sums : Int32 → Mem → (Mem → Prop) → Prop) (r_Mo_products : Int32 → Mem → (Mem → Prop) → Prop) (r_Mo_takePart : Int32 → Mem → (Mem → Prop) → Prop) (l1 : Int32) (s0 : Int32) (M : Mem) (Q : Mem → Prop) : Prop :=
  w_Mo_factHere M (fun r753 M752 => ((0 ≤ r753 → w_Mo_takePart_j66 r_Mo_all r_Mo_test r_Mo_sums r_Mo_products r_Mo_takePart l1 s0 r753 M752 Q) ∧ (¬ 0 ≤ r753 → ((¬ s0 = 0 → w_Mo_takePart_j66 r_Mo_all r_Mo_test r_Mo_sums r_Mo_products r_Mo_takePart l1 s0 r753 M752 Q) ∧ (s0 = 0 → w_Mo_isSign 40 M752 (fun b765 M764 => ((b765 = true → w_Mo_takePart_j66 r_Mo_all r_Mo_test r_Mo_sums r_Mo_products r_Mo_takePart l1 s0 r753 M764 Q) ∧ (b765 = false → w_Mo_isWord 17 M764 (fun b767 M766 => ((b767 = true → w_Mo_takePart_j66 r_Mo_all r_Mo_test r_Mo_sums r_Mo_products r_Mo_takePart l1 s0 r753 M766 Q) ∧ (b767 = false → w_Mo_wrong 1 M766 (fun M768 => w_Mo_takePart_j76 r_Mo_all r_Mo_test r_Mo_sums r_Mo_products r_Mo_takePart l1 s0 r753 M768 Q))))))))))))
set_option maxHeartbeats 4000000 in
theorem t_Mo_takePart_j26 {lv0 : Nat} {X : Cx} (hX : Cok X cX12_takePart RX12 4 none (lv0 + 1) 0 0) {Q : Mem → Prop} (hq : RV X 0 0 LY Q) {r_Mo_all : Int32 → Mem → (Mem → Prop) → Prop} {r_Mo_test : Int32 → Mem → (Mem → Prop) → Prop} {r_Mo_sums : Int32 → Mem → (Mem → Prop) → Prop} {r_Mo_products : Int32 → Mem → (Mem → Prop) → Prop} {r_Mo_takePart : Int32 → Mem → (Mem → Prop) → Prop} (hlv0 : 2 ≤ lv0) (hr_Mo_all : ∀ (a0 : Int32) M Q, r_Mo_all a0 M Q → CV yX12_all cX12_all 3 none lv0 0 0 LY LY [vr c_mo, vi a0] M Q) (hr_Mo_test : ∀ (a0 : Int32) M Q, r_Mo_test a0 M Q → CV yX12_test cX12_test 3 none lv0 0 0 LY LY [vr c_mo, vi a0] M Q) (hr_Mo_sums : ∀ (a0 : Int32) M Q, r_Mo_sums a0 M Q → CV yX12_sums cX12_sums 3 none lv0 0 0 LY LY [vr c_mo, vi a0] M Q) (hr_Mo_products : ∀ (a0 : Int32) M Q, r_Mo_products a0 M Q → CV yX12_products cX12_products 2 none lv0 0 0 LY LY [vr c_mo, vi a0] M Q) (hr_Mo_takePart : ∀ (a0 : Int32) M Q, r_Mo_takePart a0 M Q → CV yX12_takePart cX12_takePart 4 none lv0 0 0 LY LY [vr c_mo, vi a0] M Q) {l1 : Int32} {s0 : Int32} {M : Mem} (h : w_Mo_takePart_j26 r_Mo_all r_Mo_test r_Mo_sums r_Mo_products r_Mo_takePart l1 s0 M Q) : Wat X 0 0 LY 26 [some (vr c_mo), some (vi l1), none, none] [vi s0] M := by
  refine s_istore_n (lv' := [some (vr c_mo), some (vi l1), some (vi s0), none]) hX dX12_takePart_26 rfl rfl (Nat.le_of_ble_eq_true rfl) ?_
  refine s_aload_n hX dX12_takePart_27 rfl ?_
  refine s_cvi (as := []) (rest := []) hX (c_Mo_factHere h) mv_Mo_factHere wd_ml_X12_301 dX12_takePart_28 ly_c_mo rfl rfl (Nat.le_of_ble_eq_true rfl) rfl (by omega) ⟨Nat.zero_le _, Nat.zero_le _⟩ (fun r753 M752 h => ?_)
  refine s_istore_n (lv' := [some (vr c_mo), some (vi l1), some (vi s0), some (vi r753)]) hX dX12_takePart_31 rfl rfl (Nat.le_of_ble_eq_true rfl) ?_
  refine s_iload_n hX dX12_takePart_32 rfl ?_
  refine s_if_ge (tgt := 66) hX dX12_takePart_33 (by decide) (fun c => ?_) (fun c => ?_)
  · replace h := h.1 c
    exact t_Mo_takePart_j66 hX hq hlv0 hr_Mo_all hr_Mo_test hr_Mo_sums hr_Mo_products hr_Mo_takePart h
  · replace h := h.2 c
    refine s_iload_n hX dX12_takePart_36 rfl ?_
    refine s_if_ne (tgt := 66) hX dX12_takePart_37 (by decide) (fun c => ?_) (fun c => ?_)
    · replace h := h.1 c
      exact t_Mo_takePart_j66 hX hq hlv0 hr_Mo_all hr_Mo_test hr_Mo_sums hr_Mo_products hr_Mo_takePart h
    · replace h := h.2 c
      refine s_aload_n hX dX12_takePart_40 rfl ?_
      refine s_bipush (v := 40) hX dX12_takePart_41 rfl ?_
      refine s_cvi (as := [vi 40]) (rest := []) hX (c_Mo_isSign h) mv_Mo_isSign wd_ml_X12_182 dX12_takePart_43 ly_c_mo rfl rfl (Nat.le_of_ble_eq_true rfl) rfl (by omega) ⟨Nat.zero_le _, Nat.zero_le _⟩ (fun b765_ M764 h => ?_)
      obtain ⟨b765, rfl, h⟩ := h
      refine s_if_ne (tgt := 66) hX dX12_takePart_46 (by decide) (fun c => ?_) (fun c => ?_)
      · replace h := h.1 (b2i_1 c)
        exact t_Mo_takePart_j66 hX hq hlv0 hr_Mo_all hr_Mo_test hr_Mo_sums hr_Mo_products hr_Mo_takePart h
      · replace h := h.2 (b2i_0 c)
        refine s_aload_n hX dX12_takePart_49 rfl ?_
        refine s_bipush (v := 17) hX dX12_takePart_50 rfl ?_
        refine s_cvi (as := [vi 17]) (rest := []) hX (c_Mo_isWord h) mv_Mo_isWord wd_ml_X12_188 dX12_takePart_52 ly_c_mo rfl rfl (Nat.le_of_ble_eq_true rfl) rfl (by omega) ⟨Nat.zero_le _, Nat.zero_le _⟩ (fun b767_ M766 h => ?_)
        obtain ⟨b767, rfl, h⟩ := h
        refine s_if_ne (tgt := 66) hX dX12_takePart_55 (by decide) (fun c => ?_) (fun c => ?_)
        · replace h := h.1 (b2i_1 c)
          exact t_Mo_takePart_j66 hX hq hlv0 hr_Mo_all hr_Mo_test hr_Mo_sums hr_Mo_products hr_Mo_takePart h
        · replace h := h.2 (b2i_0 c)
          refine s_aload_n hX dX12_takePart_58 rfl ?_
          refine s_iconst (v := 1) hX dX12_takePart_59 rfl ?_
          refine s_cvv (as := [vi 1]) (rest := []) hX (c_Mo_wrong h) mv_Mo_wrong wd_ml_X12_185 dX12_takePart_60 ly_c_mo rfl rfl (Nat.le_of_ble_eq_true rfl) rfl (by omega) ⟨Nat.zero_le _, Nat.zero_le _⟩ (fun M768 h => ?_)
          refine s_goto (tgt := 76) hX dX12_takePart_63 (by decide) ?_
          exact t_Mo_takePart_j76 hX hq hlv0 hr_Mo_all hr_Mo_test hr_Mo_sums hr_Mo_products hr_Mo_takePart h
def w_Mo_takePart_body (r_Mo_all : Int32 → Mem → (Mem → Prop) → Prop) (r_Mo_test : Int32 → Mem → (Mem → Prop) → Prop) (r_Mo_sums : Int32 → Mem → (Mem → Prop) → Prop) (r_Mo_products : Int32 → Mem → (Mem → Prop) → Prop) (r_Mo_takePart : Int32 → Mem → (Mem → Prop) → Prop) (a0 : Int32) (M : Mem) (Q : Mem → Prop) : Prop :=
  (((M.1 c_mo Mo_fault) ≤ 0 → (vp_in (M.1 c_mo Mo_at) 1002 ∧ w_Mo_takePart_j26 r_Mo_all r_Mo_test r_Mo_sums r_Mo_products r_Mo_takePart a0 (if (M.1 c_mo_sort (Int32.toNatClampNeg (M.1 c_mo Mo_at))) = 2 then (1 : Int32) else 0) M Q)) ∧ (¬ (M.1 c_mo Mo_fault) ≤ 0 → Q M))
set_option maxHeartbeats 4000000 in
theorem t_Mo_takePart {lv0 : Nat} {X : Cx} (hX : Cok X cX12_takePart RX12 4 none (lv0 + 1) 0 0) {Q : Mem → Prop} (hq : RV X 0 0 LY Q) {r_Mo_all : Int32 → Mem → (Mem → Prop) → Prop} {r_Mo_test : Int32 → Mem → (Mem → Prop) → Prop} {r_Mo_sums : Int32 → Mem → (Mem → Prop) → Prop} {r_Mo_products : Int32 → Mem → (Mem → Prop) → Prop} {r_Mo_takePart : Int32 → Mem → (Mem → Prop) → Prop} (hlv0 : 2 ≤ lv0) (hr_Mo_all : ∀ (a0 : Int32) M Q, r_Mo_all a0 M Q → CV yX12_all cX12_all 3 none lv0 0 0 LY LY [vr c_mo, vi a0] M Q) (hr_Mo_test : ∀ (a0 : Int32) M Q, r_Mo_test a0 M Q → CV yX12_test cX12_test 3 none lv0 0 0 LY LY [vr c_mo, vi a0] M Q) (hr_Mo_sums : ∀ (a0 : Int32) M Q, r_Mo_sums a0 M Q → CV yX12_sums cX12_sums 3 none lv0 0 0 LY LY [vr c_mo, vi a0] M Q) (hr_Mo_products : ∀ (a0 : Int32) M Q, r_Mo_products a0 M Q → CV yX12_products cX12_products 2 none lv0 0 0 LY LY [vr c_mo, vi a0] M Q) (hr_Mo_takePart : ∀ (a0 : Int32) M Q, r_Mo_takePart a0 M Q → CV yX12_takePart cX12_takePart 4 none lv0 0 0 LY LY [vr c_mo, vi a0] M Q) {M : Mem} {a0 : Int32} (h : w_Mo_takePart_body r_Mo_all r_Mo_test r_Mo_sums r_Mo_products r_Mo_takePart  a0 M Q) : Wat X 0 0 LY 0 [some (vr c_mo), some (vi a0), none, none] [] M := by
  refine s_aload_n hX dX12_takePart_0 rfl ?_
  refine s_getiv (v := (M.1 c_mo Mo_fault)) hX fi_X12_179 ly_c_mo rfl dX12_takePart_1 rfl ?_
  refine s_if_le (tgt := 8) hX dX12_takePart_4 (by decide) (fun c => ?_) (fun c => ?_)
  · replace h := h.1 c
    refine s_aload_n hX dX12_takePart_8 rfl ?_
    refine s_getr hX fi_X12_24 ly_c_mo rfl dX12_takePart_9 ?_
    refine s_aload_n hX dX12_takePart_12 rfl ?_
    refine s_getiv (v := (M.1 c_mo Mo_at)) hX fi_X12_176 ly_c_mo rfl dX12_takePart_13 rfl ?_
    have hi := h.1
    replace h := h.2
    refine s_ialdv (v := (M.1 c_mo_sort (Int32.toNatClampNeg (M.1 c_mo Mo_at)))) hX ly_c_mo_sort hi dX12_takePart_16 rfl ?_
    refine s_iconst (v := 2) hX dX12_takePart_17 rfl ?_
    have hJ : Wat X 0 0 LY 26 [some (vr c_mo), some (vi a0), none, none] [vi (if (M.1 c_mo_sort (Int32.toNatClampNeg (M.1 c_mo Mo_at))) = 2 then (1 : Int32) else 0)] M := by
      exact t_Mo_takePart_j26 hX hq hlv0 hr_Mo_all hr_Mo_test hr_Mo_sums hr_Mo_products hr_Mo_takePart h
    refine s_icmp_ne (tgt := 25) hX dX12_takePart_18 (by decide) (fun c => ?_) (fun c => ?_)
    · rw [if_neg c] at hJ
      refine s_iconst (v := 0) hX dX12_takePart_25 rfl ?_
      exact hJ
    · rw [if_pos c] at hJ
      refine s_iconst (v := 1) hX dX12_takePart_21 rfl ?_
      refine s_goto (tgt := 26) hX dX12_takePart_22 (by decide) ?_
      exact hJ
  · replace h := h.2 c
    exact s_vret hX hq rfl dX12_takePart_7 h
def wg_Mo_all : Nat → (Int32 → Mem → (Mem → Prop) → Prop) × (Int32 → Mem → (Mem → Prop) → Prop) × (Int32 → Mem → (Mem → Prop) → Prop) × (Int32 → Mem → (Mem → Prop) → Prop) × (Int32 → Mem → (Mem → Prop) → Prop)
  | 0 => (fun _ _ _ => False, fun _ _ _ => False, fun _ _ _ => False, fun _ _ _ => False, fun _ _ _ => False)
  | n + 1 => (fun a0 M Q => w_Mo_all_body (wg_Mo_all n).1 (wg_Mo_all n).2.1 (wg_Mo_all n).2.2.1 (wg_Mo_all n).2.2.2.1 (wg_Mo_all n).2.2.2.2 a0 M Q, fun a0 M Q => w_Mo_test_body (wg_Mo_all n).1 (wg_Mo_all n).2.1 (wg_Mo_all n).2.2.1 (wg_Mo_all n).2.2.2.1 (wg_Mo_all n).2.2.2.2 a0 M Q, fun a0 M Q => w_Mo_sums_body (wg_Mo_all n).1 (wg_Mo_all n).2.1 (wg_Mo_all n).2.2.1 (wg_Mo_all n).2.2.2.1 (wg_Mo_all n).2.2.2.2 a0 M Q, fun a0 M Q => w_Mo_products_body (wg_Mo_all n).1 (wg_Mo_all n).2.1 (wg_Mo_all n).2.2.1 (wg_Mo_all n).2.2.2.1 (wg_Mo_all n).2.2.2.2 a0 M Q, fun a0 M Q => w_Mo_takePart_body (wg_Mo_all n).1 (wg_Mo_all n).2.1 (wg_Mo_all n).2.2.1 (wg_Mo_all n).2.2.2.1 (wg_Mo_all n).2.2.2.2 a0 M Q)
def w_Mo_all (n : Nat) (a0 : Int32) (M : Mem) (Q : Mem → Prop) : Prop := (wg_Mo_all n).1 a0 M Q
def w_Mo_test (n : Nat) (a0 : Int32) (M : Mem) (Q : Mem → Prop) : Prop := (wg_Mo_all n).2.1 a0 M Q
def w_Mo_sums (n : Nat) (a0 : Int32) (M : Mem) (Q : Mem → Prop) : Prop := (wg_Mo_all n).2.2.1 a0 M Q
def w_Mo_products (n : Nat) (a0 : Int32) (M : Mem) (Q : Mem → Prop) : Prop := (wg_Mo_all n).2.2.2.1 a0 M Q
def w_Mo_takePart (n : Nat) (a0 : Int32) (M : Mem) (Q : Mem → Prop) : Prop := (wg_Mo_all n).2.2.2.2 a0 M Q
theorem cg_Mo_all : ∀ n : Nat, (∀ (a0 : Int32) M Q, w_Mo_all n a0 M Q → CV yX12_all cX12_all 3 none (2 + n) 0 0 LY LY [vr c_mo, vi a0] M Q) ∧ (∀ (a0 : Int32) M Q, w_Mo_test n a0 M Q → CV yX12_test cX12_test 3 none (2 + n) 0 0 LY LY [vr c_mo, vi a0] M Q) ∧ (∀ (a0 : Int32) M Q, w_Mo_sums n a0 M Q → CV yX12_sums cX12_sums 3 none (2 + n) 0 0 LY LY [vr c_mo, vi a0] M Q) ∧ (∀ (a0 : Int32) M Q, w_Mo_products n a0 M Q → CV yX12_products cX12_products 2 none (2 + n) 0 0 LY LY [vr c_mo, vi a0] M Q) ∧ (∀ (a0 : Int32) M Q, w_Mo_takePart n a0 M Q → CV yX12_takePart cX12_takePart 4 none (2 + n) 0 0 LY LY [vr c_mo, vi a0] M Q) := by
  intro n
  induction n with
  | zero => exact ⟨fun _ _ _ h => h.elim, fun _ _ _ h => h.elim, fun _ _ _ h => h.elim, fun _ _ _ h => h.elim, fun _ _ _ h => h.elim⟩
  | succ n ih => exact ⟨fun a0 M Q h => mk_v rfl wd_co_X12_all rfl rfl (Nat.le_of_ble_eq_true rfl) (fun X hX hq => t_Mo_all hX hq (Nat.le_add_right 2 n) (ih.1) (ih.2.1) (ih.2.2.1) (ih.2.2.2.1) (ih.2.2.2.2) h), fun a0 M Q h => mk_v rfl wd_co_X12_test rfl rfl (Nat.le_of_ble_eq_true rfl) (fun X hX hq => t_Mo_test hX hq (Nat.le_add_right 2 n) (ih.1) (ih.2.1) (ih.2.2.1) (ih.2.2.2.1) (ih.2.2.2.2) h), fun a0 M Q h => mk_v rfl wd_co_X12_sums rfl rfl (Nat.le_of_ble_eq_true rfl) (fun X hX hq => t_Mo_sums hX hq (Nat.le_add_right 2 n) (ih.1) (ih.2.1) (ih.2.2.1) (ih.2.2.2.1) (ih.2.2.2.2) h), fun a0 M Q h => mk_v rfl wd_co_X12_products rfl rfl (Nat.le_of_ble_eq_true rfl) (fun X hX hq => t_Mo_products hX hq (Nat.le_add_right 2 n) (ih.1) (ih.2.1) (ih.2.2.1) (ih.2.2.2.1) (ih.2.2.2.2) h), fun a0 M Q h => mk_v rfl wd_co_X12_takePart rfl rfl (Nat.le_of_ble_eq_true rfl) (fun X hX hq => t_Mo_takePart hX hq (Nat.le_add_right 2 n) (ih.1) (ih.2.1) (ih.2.2.1) (ih.2.2.2.1) (ih.2.2.2.2) h)⟩
theorem c_Mo_all (n : Nat) {a0 : Int32} {M : Mem} {Q : Mem → Prop} (h : w_Mo_all n a0 M Q) : CV yX12_all cX12_all 3 none (2 + n) 0 0 LY LY [vr c_mo, vi a0] M Q := (cg_Mo_all n).1 _ _ _ h
theorem c_Mo_test (n : Nat) {a0 : Int32} {M : Mem} {Q : Mem → Prop} (h : w_Mo_test n a0 M Q) : CV yX12_test cX12_test 3 none (2 + n) 0 0 LY LY [vr c_mo, vi a0] M Q := (cg_Mo_all n).2.1 _ _ _ h
theorem c_Mo_sums (n : Nat) {a0 : Int32} {M : Mem} {Q : Mem → Prop} (h : w_Mo_sums n a0 M Q) : CV yX12_sums cX12_sums 3 none (2 + n) 0 0 LY LY [vr c_mo, vi a0] M Q := (cg_Mo_all n).2.2.1 _ _ _ h
theorem c_Mo_products (n : Nat) {a0 : Int32} {M : Mem} {Q : Mem → Prop} (h : w_Mo_products n a0 M Q) : CV yX12_products cX12_products 2 none (2 + n) 0 0 LY LY [vr c_mo, vi a0] M Q := (cg_Mo_all n).2.2.2.1 _ _ _ h
theorem c_Mo_takePart (n : Nat) {a0 : Int32} {M : Mem} {Q : Mem → Prop} (h : w_Mo_takePart n a0 M Q) : CV yX12_takePart cX12_takePart 4 none (2 + n) 0 0 LY LY [vr c_mo, vi a0] M Q := (cg_Mo_all n).2.2.2.2 _ _ _ h
def w_Mo_readLaw_j47 (s0 : Int32) (s1 : Int32) (M : Mem) (Q : Mem → Prop) : Prop :=
  (vp_in (s0 + s1) 360 ∧ (((M.1 c_mo_lands (Int32.toNatClampNeg (s0 + s1))) < 0 → (vp_in (s0 + s1) 360 ∧ (∃ n771, n771 ≤ 64 ∧ w_Mo_all n771 0 (si (si M c_mo Mo_at ((M.1 c_mo Mo_at) + 1)) c_mo_lands (Int32.toNatClampNeg (s0 + s1)) (M.1 c_mo Mo_codes)) (fun M769 => w_Mo_emit 0 0 M769 (fun M770 => Q M770))))) ∧ (¬ (M.1 c_mo_lands (Int32.toNatClampNeg (s0 + s1))) < 0 → w_Mo_wrong 3 M (fun M772 => Q M772))))
set_option maxHeartbeats 4000000 in
theorem t_Mo_readLaw_j47 {X : Cx} (hX : Cok X cX12_readLaw RX12 2 none 67 0 0) {Q : Mem → Prop} (hq : RV X 0 0 LY Q) {s0 : Int32} {s1 : Int32} {M : Mem} (h : w_Mo_readLaw_j47 s0 s1 M Q) : Wat X 0 0 LY 47 [some (vr c_mo), none] [vi s1, vi s0] M := by
  refine s_iadd hX dX12_readLaw_47 ?_
  refine s_istore_n (lv' := [some (vr c_mo), some (vi (s0 + s1))]) hX dX12_readLaw_48 rfl rfl (Nat.le_of_ble_eq_true rfl) ?_
  refine s_aload_n hX dX12_readLaw_49 rfl ?_
  refine s_getr hX fi_X12_85 ly_c_mo rfl dX12_readLaw_50 ?_
  refine s_iload_n hX dX12_readLaw_53 rfl ?_
  have hi := h.1
  replace h := h.2
  refine s_ialdv (v := (M.1 c_mo_lands (Int32.toNatClampNeg (s0 + s1)))) hX ly_c_mo_lands hi dX12_readLaw_54 rfl ?_
  refine s_if_lt (tgt := 64) hX dX12_readLaw_55 (by decide) (fun c => ?_) (fun c => ?_)
  · replace h := h.1 c
    refine s_aload_n hX dX12_readLaw_64 rfl ?_
    refine s_dup hX dX12_readLaw_65 rfl ?_
    refine s_getiv (v := (M.1 c_mo Mo_at)) hX fi_X12_176 ly_c_mo rfl dX12_readLaw_66 rfl ?_
    refine s_iconst (v := 1) hX dX12_readLaw_69 rfl ?_
    refine s_iadd hX dX12_readLaw_70 ?_
    refine s_puti hX fi_X12_176 fp_X12 rfl (by decide +kernel) ly_c_mo rfl dX12_readLaw_71 ?_
    refine s_aload_n hX dX12_readLaw_74 rfl ?_
    refine s_getr hX fi_X12_85 ly_c_mo rfl dX12_readLaw_75 ?_
    refine s_iload_n hX dX12_readLaw_78 rfl ?_
    refine s_aload_n hX dX12_readLaw_79 rfl ?_
    refine s_getiv (v := (M.1 c_mo Mo_codes)) hX fi_X12_207 ly_c_mo rfl dX12_readLaw_80 rfl ?_
    have hi := h.1
    replace h := h.2
    refine s_iast hX ly_c_mo_lands hi dX12_readLaw_83 ?_
    refine s_aload_n hX dX12_readLaw_84 rfl ?_
    refine s_iconst (v := 0) hX dX12_readLaw_85 rfl ?_
    obtain ⟨n771, hn, h⟩ := h
    refine s_cvv (as := [vi 0]) (rest := []) hX (c_Mo_all n771 h) mv_Mo_all wd_ml_X12_279 dX12_readLaw_86 ly_c_mo rfl rfl (Nat.le_of_ble_eq_true rfl) rfl (by omega) ⟨Nat.zero_le _, Nat.zero_le _⟩ (fun M769 h => ?_)
    refine s_aload_n hX dX12_readLaw_89 rfl ?_
    refine s_iconst (v := 0) hX dX12_readLaw_90 rfl ?_
    refine s_iconst (v := 0) hX dX12_readLaw_91 rfl ?_
    refine s_cvv (as := [vi 0, vi 0]) (rest := []) hX (c_Mo_emit h) mv_Mo_emit wd_ml_X12_282 dX12_readLaw_92 ly_c_mo rfl rfl (Nat.le_of_ble_eq_true rfl) rfl (by decide) ⟨Nat.zero_le _, Nat.zero_le _⟩ (fun M770 h => ?_)
    exact s_vret hX hq rfl dX12_readLaw_95 h
  · replace h := h.2 c
    refine s_aload_n hX dX12_readLaw_58 rfl ?_
    refine s_iconst (v := 3) hX dX12_readLaw_59 rfl ?_
    refine s_cvv (as := [vi 3]) (rest := []) hX (c_Mo_wrong h) mv_Mo_wrong wd_ml_X12_185 dX12_readLaw_60 ly_c_mo rfl rfl (Nat.le_of_ble_eq_true rfl) rfl (by decide) ⟨Nat.zero_le _, Nat.zero_le _⟩ (fun M772 h => ?_)
    exact s_vret hX hq rfl dX12_readLaw_63 h
def w_Mo_readLaw_j32 (M : Mem) (Q : Mem → Prop) : Prop :=
  w_Mo_readLaw_j47 185 (if (M.1 c_mo Mo_ofFog) = 0 then (0 : Int32) else 1) M Q
set_option maxHeartbeats 4000000 in
theorem t_Mo_readLaw_j32 {X : Cx} (hX : Cok X cX12_readLaw RX12 2 none 67 0 0) {Q : Mem → Prop} (hq : RV X 0 0 LY Q) {M : Mem} (h : w_Mo_readLaw_j32 M Q) : Wat X 0 0 LY 32 [some (vr c_mo), none] [] M := by
  refine s_sipush (v := 185) hX dX12_readLaw_32 rfl ?_
  refine s_aload_n hX dX12_readLaw_35 rfl ?_
  refine s_getiv (v := (M.1 c_mo Mo_ofFog)) hX fi_X12_276 ly_c_mo rfl dX12_readLaw_36 rfl ?_
  have hJ : Wat X 0 0 LY 47 [some (vr c_mo), none] [vi (if (M.1 c_mo Mo_ofFog) = 0 then (0 : Int32) else 1), vi 185] M := by
    exact t_Mo_readLaw_j47 hX hq h
  refine s_if_eq (tgt := 46) hX dX12_readLaw_39 (by decide) (fun c => ?_) (fun c => ?_)
  · rw [if_pos c] at hJ
    refine s_iconst (v := 0) hX dX12_readLaw_46 rfl ?_
    exact hJ
  · rw [if_neg c] at hJ
    refine s_iconst (v := 1) hX dX12_readLaw_42 rfl ?_
    refine s_goto (tgt := 47) hX dX12_readLaw_43 (by decide) ?_
    exact hJ
def w_Mo_readLaw (M : Mem) (Q : Mem → Prop) : Prop :=
  w_Mo_isWord 10 M (fun b705 M704 => ((¬ (b2i b705) = 0 → w_Mo_readLaw_j32 (si M704 c_mo Mo_ofFog (b2i b705)) Q) ∧ ((b2i b705) = 0 → w_Mo_isWord 9 (si M704 c_mo Mo_ofFog (b2i b705)) (fun b774 M773 => ((b774 = true → w_Mo_readLaw_j32 M773 Q) ∧ (b774 = false → w_Mo_wrong 1 M773 (fun M775 => Q M775)))))))
set_option maxHeartbeats 4000000 in
theorem t_Mo_readLaw {X : Cx} (hX : Cok X cX12_readLaw RX12 2 none 67 0 0) {Q : Mem → Prop} (hq : RV X 0 0 LY Q) {M : Mem} (h : w_Mo_readLaw M Q) : Wat X 0 0 LY 0 [some (vr c_mo), none] [] M := by
  refine s_aload_n hX dX12_readLaw_0 rfl ?_
  refine s_aload_n hX dX12_readLaw_1 rfl ?_
  refine s_bipush (v := 10) hX dX12_readLaw_2 rfl ?_
  refine s_cvi (as := [vi 10]) (rest := [vr c_mo]) hX (c_Mo_isWord h) mv_Mo_isWord wd_ml_X12_188 dX12_readLaw_4 ly_c_mo rfl rfl (Nat.le_of_ble_eq_true rfl) rfl (by decide) ⟨Nat.zero_le _, Nat.zero_le _⟩ (fun b705_ M704 h => ?_)
  obtain ⟨b705, rfl, h⟩ := h
  refine s_putz hX fi_X12_276 fp_X12 rfl (by decide +kernel) (nz_b2i _) ly_c_mo rfl dX12_readLaw_7 ?_
  refine s_aload_n hX dX12_readLaw_10 rfl ?_
  refine s_getiv (v := (b2i b705)) hX fi_X12_276 ly_c_mo rfl dX12_readLaw_11 rfl ?_
  refine s_if_ne (tgt := 32) hX dX12_readLaw_14 (by decide) (fun c => ?_) (fun c => ?_)
  · replace h := h.1 c
    exact t_Mo_readLaw_j32 hX hq h
  · replace h := h.2 c
    refine s_aload_n hX dX12_readLaw_17 rfl ?_
    refine s_bipush (v := 9) hX dX12_readLaw_18 rfl ?_
    refine s_cvi (as := [vi 9]) (rest := []) hX (c_Mo_isWord h) mv_Mo_isWord wd_ml_X12_188 dX12_readLaw_20 ly_c_mo rfl rfl (Nat.le_of_ble_eq_true rfl) rfl (by decide) ⟨Nat.zero_le _, Nat.zero_le _⟩ (fun b774_ M773 h => ?_)
    obtain ⟨b774, rfl, h⟩ := h
    refine s_if_ne (tgt := 32) hX dX12_readLaw_23 (by decide) (fun c => ?_) (fun c => ?_)
    · replace h := h.1 (b2i_1 c)
      exact t_Mo_readLaw_j32 hX hq h
    · replace h := h.2 (b2i_0 c)
      refine s_aload_n hX dX12_readLaw_26 rfl ?_
      refine s_iconst (v := 1) hX dX12_readLaw_27 rfl ?_
      refine s_cvv (as := [vi 1]) (rest := []) hX (c_Mo_wrong h) mv_Mo_wrong wd_ml_X12_185 dX12_readLaw_28 ly_c_mo rfl rfl (Nat.le_of_ble_eq_true rfl) rfl (by decide) ⟨Nat.zero_le _, Nat.zero_le _⟩ (fun M775 h => ?_)
      exact s_vret hX hq rfl dX12_readLaw_31 h
theorem c_Mo_readLaw {M : Mem} {Q : Mem → Prop} (h : w_Mo_readLaw M Q) : CV yX12_readLaw cX12_readLaw 2 none 67 0 0 LY LY [vr c_mo] M Q := mk_v rfl wd_co_X12_readLaw rfl rfl (Nat.le_of_ble_eq_true rfl) (fun X hX hq => t_Mo_readLaw hX hq h)
theorem mv_Mo_readLaw : MV yX12_readLaw cX12_readLaw 2 none RX12 0 := ⟨wd_co_X12_readLaw, wd_im_X12_readLaw, wd_se_X12_readLaw, wd_in_X12, by decide +kernel, by decide⟩
def w_Mo_readHear (M : Mem) (Q : Mem → Prop) : Prop :=
  (((M.1 c_mo Mo_hasHear) = 0 → w_Mo_takeNumber 0 14 (si (si M c_mo Mo_hasHear 1) c_mo Mo_at ((M.1 c_mo Mo_at) + 1)) (fun r778 M777 => (vp_in 184 360 ∧ Q (si M777 c_mo_lands (Int32.toNatClampNeg 184) r778)))) ∧ (¬ (M.1 c_mo Mo_hasHear) = 0 → w_Mo_wrong 3 M (fun M779 => Q M779)))
set_option maxHeartbeats 4000000 in
theorem t_Mo_readHear {X : Cx} (hX : Cok X cX12_readHear RX12 1 none 3 0 0) {Q : Mem → Prop} (hq : RV X 0 0 LY Q) {M : Mem} (h : w_Mo_readHear M Q) : Wat X 0 0 LY 0 [some (vr c_mo)] [] M := by
  refine s_aload_n hX dX12_readHear_0 rfl ?_
  refine s_getiv (v := (M.1 c_mo Mo_hasHear)) hX fi_X12_216 ly_c_mo rfl dX12_readHear_1 rfl ?_
  refine s_if_eq (tgt := 13) hX dX12_readHear_4 (by decide) (fun c => ?_) (fun c => ?_)
  · replace h := h.1 c
    refine s_aload_n hX dX12_readHear_13 rfl ?_
    refine s_iconst (v := 1) hX dX12_readHear_14 rfl ?_
    refine s_putz hX fi_X12_216 fp_X12 rfl (by decide +kernel) ⟨rfl, rfl⟩ ly_c_mo rfl dX12_readHear_15 ?_
    refine s_aload_n hX dX12_readHear_18 rfl ?_
    refine s_dup hX dX12_readHear_19 rfl ?_
    refine s_getiv (v := (M.1 c_mo Mo_at)) hX fi_X12_176 ly_c_mo rfl dX12_readHear_20 rfl ?_
    refine s_iconst (v := 1) hX dX12_readHear_23 rfl ?_
    refine s_iadd hX dX12_readHear_24 ?_
    refine s_puti hX fi_X12_176 fp_X12 rfl (by decide +kernel) ly_c_mo rfl dX12_readHear_25 ?_
    refine s_aload_n hX dX12_readHear_28 rfl ?_
    refine s_getr hX fi_X12_85 ly_c_mo rfl dX12_readHear_29 ?_
    refine s_sipush (v := 184) hX dX12_readHear_32 rfl ?_
    refine s_aload_n hX dX12_readHear_35 rfl ?_
    refine s_iconst (v := 0) hX dX12_readHear_36 rfl ?_
    refine s_bipush (v := 14) hX dX12_readHear_37 rfl ?_
    refine s_cvi (as := [vi 0, vi 14]) (rest := [vi 184, vr c_mo_lands]) hX (c_Mo_takeNumber h) mv_Mo_takeNumber wd_ml_X12_197 dX12_readHear_39 ly_c_mo rfl rfl (Nat.le_of_ble_eq_true rfl) rfl (by decide) ⟨Nat.zero_le _, Nat.zero_le _⟩ (fun r778 M777 h => ?_)
    have hi := h.1
    replace h := h.2
    refine s_iast hX ly_c_mo_lands hi dX12_readHear_42 ?_
    exact s_vret hX hq rfl dX12_readHear_43 h
  · replace h := h.2 c
    refine s_aload_n hX dX12_readHear_7 rfl ?_
    refine s_iconst (v := 3) hX dX12_readHear_8 rfl ?_
    refine s_cvv (as := [vi 3]) (rest := []) hX (c_Mo_wrong h) mv_Mo_wrong wd_ml_X12_185 dX12_readHear_9 ly_c_mo rfl rfl (Nat.le_of_ble_eq_true rfl) rfl (by decide) ⟨Nat.zero_le _, Nat.zero_le _⟩ (fun M779 h => ?_)
    exact s_vret hX hq rfl dX12_readHear_12 h
theorem c_Mo_readHear {M : Mem} {Q : Mem → Prop} (h : w_Mo_readHear M Q) : CV yX12_readHear cX12_readHear 1 none 3 0 0 LY LY [vr c_mo] M Q := mk_v rfl wd_co_X12_readHear rfl rfl (Nat.le_of_ble_eq_true rfl) (fun X hX hq => t_Mo_readHear hX hq h)
theorem mv_Mo_readHear : MV yX12_readHear cX12_readHear 1 none RX12 0 := ⟨wd_co_X12_readHear, wd_im_X12_readHear, wd_se_X12_readHear, wd_in_X12, by decide +kernel, by decide⟩
def w_Mo_isName_L28 (K : Int32 → Mem → Prop) (Q : Bool → Mem → Prop) : Nat → Int32 → Int32 → Mem → Prop
  | 0, _, _, _ => False
  | n + 1, l1, l2, M => ((20 ≤ l2 → K l1 M) ∧ (¬ 20 ≤ l2 → ((l1 = 0 → w_Mo_isName_L28 K Q n 0 (l2 + 1) M) ∧ (¬ l1 = 0 → (vp_in (M.1 c_mo Mo_at) 1002 ∧ (vp_in l2 24 ∧ ∀ x781 : Int32, x781 = (if (lg_cmp (M.2 c_mo_value (Int32.toNatClampNeg (M.1 c_mo Mo_at))) (M.2 c_mo_words (Int32.toNatClampNeg l2))) = 0 then (0 : Int32) else 1) → w_Mo_isName_L28 K Q n x781 (l2 + 1) M))))))
set_option maxHeartbeats 4000000 in
theorem t_Mo_isName_L28 {X : Cx} (hX : Cok X cX12_isName RX12 3 ((some .boolean)) 1 0 0) {Q : Bool → Mem → Prop} (hq : RI X 0 0 LY (bQ Q)) {K : Int32 → Mem → Prop} (hK : ∀ (l1 : Int32) (M : Mem), K l1 M → Wat X 0 0 LY 69 [none, some (vi l1), none] [] M) : ∀ (n : Nat) (l1 : Int32) (l2 : Int32) (M : Mem), w_Mo_isName_L28 K Q n l1 l2 M → Wat X 0 0 LY 28 [some (vr c_mo), some (vi l1), some (vi l2)] [] M := by
  intro n
  induction n with
  | zero => intro _ _ _ h; exact h.elim
  | succ n ih =>
    intro l1 l2 M h
    refine s_iload_n hX dX12_isName_28 rfl ?_
    refine s_bipush (v := 20) hX dX12_isName_29 rfl ?_
    refine s_icmp_ge (tgt := 69) hX dX12_isName_31 (by decide) (fun c => ?_) (fun c => ?_)
    · replace h := h.1 c
      refine s_mask [false, true, false] (lv' := [none, some (vi l1), none]) rfl rfl ?_
      exact hK _ _ h
    · replace h := h.2 c
      refine s_iload_n hX dX12_isName_34 rfl ?_
      refine s_if_eq (tgt := 61) hX dX12_isName_35 (by decide) (fun c => ?_) (fun c => ?_)
      · replace h := h.1 c
        refine s_iconst (v := 0) hX dX12_isName_61 rfl ?_
        refine s_istore_n (lv' := [some (vr c_mo), some (vi 0), some (vi l2)]) hX dX12_isName_62 rfl rfl (Nat.le_of_ble_eq_true rfl) ?_
        refine s_iinc (v := (l2 + 1)) (lv' := [some (vr c_mo), some (vi 0), some (vi (l2 + 1))]) hX dX12_isName_63 rfl rfl rfl rfl ?_
        refine s_goto (tgt := 28) hX dX12_isName_66 (by decide) ?_
        exact ih _ _ _ h
      · replace h := h.2 c
        refine s_aload_n hX dX12_isName_38 rfl ?_
        refine s_getr hX fi_X12_30 ly_c_mo rfl dX12_isName_39 ?_
        refine s_aload_n hX dX12_isName_42 rfl ?_
        refine s_getiv (v := (M.1 c_mo Mo_at)) hX fi_X12_176 ly_c_mo rfl dX12_isName_43 rfl ?_
        have hi := h.1
        replace h := h.2
        refine s_laldv (v := (M.2 c_mo_value (Int32.toNatClampNeg (M.1 c_mo Mo_at)))) hX ly_c_mo_value hi dX12_isName_46 rfl ?_
        refine s_aload_n hX dX12_isName_47 rfl ?_
        refine s_getr hX fi_X12_82 ly_c_mo rfl dX12_isName_48 ?_
        refine s_iload_n hX dX12_isName_51 rfl ?_
        have hi := h.1
        replace h := h.2
        refine s_laldv (v := (M.2 c_mo_words (Int32.toNatClampNeg l2))) hX ly_c_mo_words hi dX12_isName_52 rfl ?_
        refine s_lcmp hX dX12_isName_53 ?_
        have hJ : Wat X 0 0 LY 62 [some (vr c_mo), some (vi l1), some (vi l2)] [vi (if (lg_cmp (M.2 c_mo_value (Int32.toNatClampNeg (M.1 c_mo Mo_at))) (M.2 c_mo_words (Int32.toNatClampNeg l2))) = 0 then (0 : Int32) else 1)] M := by
          refine s_nmi (fun x781 ex781 => ?_)
          replace h := h x781 ex781
          refine s_istore_n (lv' := [some (vr c_mo), some (vi x781), some (vi l2)]) hX dX12_isName_62 rfl rfl (Nat.le_of_ble_eq_true rfl) ?_
          refine s_iinc (v := (l2 + 1)) (lv' := [some (vr c_mo), some (vi x781), some (vi (l2 + 1))]) hX dX12_isName_63 rfl rfl rfl rfl ?_
          refine s_goto (tgt := 28) hX dX12_isName_66 (by decide) ?_
          exact ih _ _ _ h
        refine s_if_eq (tgt := 61) hX dX12_isName_54 (by decide) (fun c => ?_) (fun c => ?_)
        · rw [if_pos c] at hJ
          refine s_iconst (v := 0) hX dX12_isName_61 rfl ?_
          exact hJ
        · rw [if_neg c] at hJ
          refine s_iconst (v := 1) hX dX12_isName_57 rfl ?_
          refine s_goto (tgt := 62) hX dX12_isName_58 (by decide) ?_
          exact hJ
def w_Mo_isName (M : Mem) (Q : Bool → Mem → Prop) : Prop :=
  ((¬ (M.1 c_mo Mo_fault) = 0 → (∃ n784, w_Mo_isName_L28 (fun y783 M782 => (∃ bb : Bool, y783 = b2i bb ∧ Q bb M782)) Q n784 0 0 M)) ∧ ((M.1 c_mo Mo_fault) = 0 → (vp_in (M.1 c_mo Mo_at) 1002 ∧ ∀ x785 : Int32, x785 = (if (M.1 c_mo_sort (Int32.toNatClampNeg (M.1 c_mo Mo_at))) = 1 then (1 : Int32) else 0) → (∃ n788, w_Mo_isName_L28 (fun y787 M786 => (∃ bb : Bool, y787 = b2i bb ∧ Q bb M786)) Q n788 x785 0 M))))
set_option maxHeartbeats 4000000 in
theorem t_Mo_isName {X : Cx} (hX : Cok X cX12_isName RX12 3 ((some .boolean)) 1 0 0) {Q : Bool → Mem → Prop} (hq : RI X 0 0 LY (bQ Q)) {M : Mem} (h : w_Mo_isName M Q) : Wat X 0 0 LY 0 [some (vr c_mo), none, none] [] M := by
  refine s_aload_n hX dX12_isName_0 rfl ?_
  refine s_getiv (v := (M.1 c_mo Mo_fault)) hX fi_X12_179 ly_c_mo rfl dX12_isName_1 rfl ?_
  refine s_if_ne (tgt := 24) hX dX12_isName_4 (by decide) (fun c => ?_) (fun c => ?_)
  · replace h := h.1 c
    refine s_iconst (v := 0) hX dX12_isName_24 rfl ?_
    refine s_istore_n (lv' := [some (vr c_mo), some (vi 0), none]) hX dX12_isName_25 rfl rfl (Nat.le_of_ble_eq_true rfl) ?_
    refine s_iconst (v := 0) hX dX12_isName_26 rfl ?_
    refine s_istore_n (lv' := [some (vr c_mo), some (vi 0), some (vi 0)]) hX dX12_isName_27 rfl rfl (Nat.le_of_ble_eq_true rfl) ?_
    obtain ⟨n784, h⟩ := h
    refine t_Mo_isName_L28 hX hq ?_ n784 _ _ _ h
    intro y783 M782 h
    refine s_iload_n hX dX12_isName_69 rfl ?_
    obtain ⟨bb, hbb, h⟩ := h
    exact s_zret hX bb hq rfl dX12_isName_70 hbb h
  · replace h := h.2 c
    refine s_aload_n hX dX12_isName_7 rfl ?_
    refine s_getr hX fi_X12_24 ly_c_mo rfl dX12_isName_8 ?_
    refine s_aload_n hX dX12_isName_11 rfl ?_
    refine s_getiv (v := (M.1 c_mo Mo_at)) hX fi_X12_176 ly_c_mo rfl dX12_isName_12 rfl ?_
    have hi := h.1
    replace h := h.2
    refine s_ialdv (v := (M.1 c_mo_sort (Int32.toNatClampNeg (M.1 c_mo Mo_at)))) hX ly_c_mo_sort hi dX12_isName_15 rfl ?_
    refine s_iconst (v := 1) hX dX12_isName_16 rfl ?_
    have hJ : Wat X 0 0 LY 25 [some (vr c_mo), none, none] [vi (if (M.1 c_mo_sort (Int32.toNatClampNeg (M.1 c_mo Mo_at))) = 1 then (1 : Int32) else 0)] M := by
      refine s_nmi (fun x785 ex785 => ?_)
      replace h := h x785 ex785
      refine s_istore_n (lv' := [some (vr c_mo), some (vi x785), none]) hX dX12_isName_25 rfl rfl (Nat.le_of_ble_eq_true rfl) ?_
      refine s_iconst (v := 0) hX dX12_isName_26 rfl ?_
      refine s_istore_n (lv' := [some (vr c_mo), some (vi x785), some (vi 0)]) hX dX12_isName_27 rfl rfl (Nat.le_of_ble_eq_true rfl) ?_
      obtain ⟨n788, h⟩ := h
      refine t_Mo_isName_L28 hX hq ?_ n788 _ _ _ h
      intro y787 M786 h
      refine s_iload_n hX dX12_isName_69 rfl ?_
      obtain ⟨bb, hbb, h⟩ := h
      exact s_zret hX bb hq rfl dX12_isName_70 hbb h
    refine s_icmp_ne (tgt := 24) hX dX12_isName_17 (by decide) (fun c => ?_) (fun c => ?_)
    · rw [if_neg c] at hJ
      refine s_iconst (v := 0) hX dX12_isName_24 rfl ?_
      exact hJ
    · rw [if_pos c] at hJ
      refine s_iconst (v := 1) hX dX12_isName_20 rfl ?_
      refine s_goto (tgt := 25) hX dX12_isName_21 (by decide) ?_
      exact hJ
theorem c_Mo_isName {M : Mem} {Q : Bool → Mem → Prop} (h : w_Mo_isName M Q) : CI yX12_isName cX12_isName 3 ((some .boolean)) 1 0 0 LY LY [vr c_mo] M (bQ Q) := mk_i rfl wd_co_X12_isName rfl rfl (Nat.le_of_ble_eq_true rfl) (fun X hX hq => t_Mo_isName hX hq h)
theorem mv_Mo_isName : MV yX12_isName cX12_isName 3 ((some .boolean)) RX12 0 := ⟨wd_co_X12_isName, wd_im_X12_isName, wd_se_X12_isName, wd_in_X12, by decide +kernel, by decide⟩
def w_Mo_find_L2 (K : Mem → Prop) (Q : Int32 → Mem → Prop) : Nat → Int32 → Mem → Prop
  | 0, _, _ => False
  | n + 1, l1, M => (((M.1 c_mo Mo_namesMany) ≤ l1 → K M) ∧ (¬ (M.1 c_mo Mo_namesMany) ≤ l1 → (vp_in l1 11 ∧ (vp_in (M.1 c_mo Mo_at) 1002 ∧ ((¬ (lg_cmp (M.2 c_mo_names (Int32.toNatClampNeg l1)) (M.2 c_mo_value (Int32.toNatClampNeg (M.1 c_mo Mo_at)))) = 0 → w_Mo_find_L2 K Q n (l1 + 1) M) ∧ ((lg_cmp (M.2 c_mo_names (Int32.toNatClampNeg l1)) (M.2 c_mo_value (Int32.toNatClampNeg (M.1 c_mo Mo_at)))) = 0 → (vp_in l1 11 ∧ Q (M.1 c_mo_nameOf (Int32.toNatClampNeg l1)) M)))))))
set_option maxHeartbeats 4000000 in
theorem t_Mo_find_L2 {X : Cx} (hX : Cok X cX12_find RX12 2 ((some .int)) 1 0 0) {Q : Int32 → Mem → Prop} (hq : RI X 0 0 LY Q) {K : Mem → Prop} (hK : ∀ (M : Mem), K M → Wat X 0 0 LY 42 [none, none] [] M) : ∀ (n : Nat) (l1 : Int32) (M : Mem), w_Mo_find_L2 K Q n l1 M → Wat X 0 0 LY 2 [some (vr c_mo), some (vi l1)] [] M := by
  intro n
  induction n with
  | zero => intro _ _ h; exact h.elim
  | succ n ih =>
    intro l1 M h
    refine s_iload_n hX dX12_find_2 rfl ?_
    refine s_aload_n hX dX12_find_3 rfl ?_
    refine s_getiv (v := (M.1 c_mo Mo_namesMany)) hX fi_X12_201 ly_c_mo rfl dX12_find_4 rfl ?_
    refine s_icmp_ge (tgt := 42) hX dX12_find_7 (by decide) (fun c => ?_) (fun c => ?_)
    · replace h := h.1 c
      refine s_mask [false, false] (lv' := [none, none]) rfl rfl ?_
      exact hK _ h
    · replace h := h.2 c
      refine s_aload_n hX dX12_find_10 rfl ?_
      refine s_getr hX fi_X12_100 ly_c_mo rfl dX12_find_11 ?_
      refine s_iload_n hX dX12_find_14 rfl ?_
      have hi := h.1
      replace h := h.2
      refine s_laldv (v := (M.2 c_mo_names (Int32.toNatClampNeg l1))) hX ly_c_mo_names hi dX12_find_15 rfl ?_
      refine s_aload_n hX dX12_find_16 rfl ?_
      refine s_getr hX fi_X12_30 ly_c_mo rfl dX12_find_17 ?_
      refine s_aload_n hX dX12_find_20 rfl ?_
      refine s_getiv (v := (M.1 c_mo Mo_at)) hX fi_X12_176 ly_c_mo rfl dX12_find_21 rfl ?_
      have hi := h.1
      replace h := h.2
      refine s_laldv (v := (M.2 c_mo_value (Int32.toNatClampNeg (M.1 c_mo Mo_at)))) hX ly_c_mo_value hi dX12_find_24 rfl ?_
      refine s_lcmp hX dX12_find_25 ?_
      refine s_if_ne (tgt := 36) hX dX12_find_26 (by decide) (fun c => ?_) (fun c => ?_)
      · replace h := h.1 c
        refine s_iinc (v := (l1 + 1)) (lv' := [some (vr c_mo), some (vi (l1 + 1))]) hX dX12_find_36 rfl rfl rfl rfl ?_
        refine s_goto (tgt := 2) hX dX12_find_39 (by decide) ?_
        exact ih _ _ h
      · replace h := h.2 c
        refine s_aload_n hX dX12_find_29 rfl ?_
        refine s_getr hX fi_X12_103 ly_c_mo rfl dX12_find_30 ?_
        refine s_iload_n hX dX12_find_33 rfl ?_
        have hi := h.1
        replace h := h.2
        refine s_ialdv (v := (M.1 c_mo_nameOf (Int32.toNatClampNeg l1))) hX ly_c_mo_nameOf hi dX12_find_34 rfl ?_
        exact s_iret hX hq rfl dX12_find_35 h
def w_Mo_find (M : Mem) (Q : Int32 → Mem → Prop) : Prop :=
  (∃ n792, w_Mo_find_L2 (fun M791 => Q (-1) M791) Q n792 0 M)
set_option maxHeartbeats 4000000 in
theorem t_Mo_find {X : Cx} (hX : Cok X cX12_find RX12 2 ((some .int)) 1 0 0) {Q : Int32 → Mem → Prop} (hq : RI X 0 0 LY Q) {M : Mem} (h : w_Mo_find M Q) : Wat X 0 0 LY 0 [some (vr c_mo), none] [] M := by
  refine s_iconst (v := 0) hX dX12_find_0 rfl ?_
  refine s_istore_n (lv' := [some (vr c_mo), some (vi 0)]) hX dX12_find_1 rfl rfl (Nat.le_of_ble_eq_true rfl) ?_
  obtain ⟨n792, h⟩ := h
  refine t_Mo_find_L2 hX hq ?_ n792 _ _ h
  intro M791 h
  refine s_iconst (v := (-1)) hX dX12_find_42 rfl ?_
  exact s_iret hX hq rfl dX12_find_43 h
theorem c_Mo_find {M : Mem} {Q : Int32 → Mem → Prop} (h : w_Mo_find M Q) : CI yX12_find cX12_find 2 ((some .int)) 1 0 0 LY LY [vr c_mo] M Q := mk_i rfl wd_co_X12_find rfl rfl (Nat.le_of_ble_eq_true rfl) (fun X hX hq => t_Mo_find hX hq h)
theorem mv_Mo_find : MV yX12_find cX12_find 2 ((some .int)) RX12 0 := ⟨wd_co_X12_find, wd_im_X12_find, wd_se_X12_find, wd_in_X12, by decide +kernel, by decide⟩
def w_Mo_takeTold_j67 (l1 : Int32) (l2 : Int32) (s1 : Int32) (s2 : Int32) (M : Mem) (Q : Int32 → Mem → Prop) : Prop :=
  Q (if l1 = 0 then l2 else (l2 - 6)) (si M c_mo Mo_at (s1 + s2))
set_option maxHeartbeats 4000000 in
theorem t_Mo_takeTold_j67 {X : Cx} (hX : Cok X cX12_takeTold RX12 3 ((some .int)) 2 0 0) {Q : Int32 → Mem → Prop} (hq : RI X 0 0 LY Q) {l1 : Int32} {l2 : Int32} {s1 : Int32} {s2 : Int32} {M : Mem} (h : w_Mo_takeTold_j67 l1 l2 s1 s2 M Q) : Wat X 0 0 LY 67 [none, some (vi l1), some (vi l2)] [vi s2, vi s1, vr c_mo] M := by
  refine s_iadd hX dX12_takeTold_67 ?_
  refine s_puti hX fi_X12_176 fp_X12 rfl (by decide +kernel) ly_c_mo rfl dX12_takeTold_68 ?_
  refine s_iload_n hX dX12_takeTold_71 rfl ?_
  have hJ : Wat X 0 0 LY 83 [none, some (vi l1), some (vi l2)] [vi (if l1 = 0 then l2 else (l2 - 6))] (si M c_mo Mo_at (s1 + s2)) := by
    exact s_iret hX hq rfl dX12_takeTold_83 h
  refine s_if_eq (tgt := 82) hX dX12_takeTold_72 (by decide) (fun c => ?_) (fun c => ?_)
  · rw [if_pos c] at hJ
    refine s_iload_n hX dX12_takeTold_82 rfl ?_
    exact hJ
  · rw [if_neg c] at hJ
    refine s_iload_n hX dX12_takeTold_75 rfl ?_
    refine s_bipush (v := 6) hX dX12_takeTold_76 rfl ?_
    refine s_isub hX dX12_takeTold_78 ?_
    refine s_goto (tgt := 83) hX dX12_takeTold_79 (by decide) ?_
    exact hJ
def w_Mo_takeTold_j50 (l1 : Int32) (l2 : Int32) (M : Mem) (Q : Int32 → Mem → Prop) : Prop :=
  w_Mo_takeTold_j67 l1 l2 (M.1 c_mo Mo_at) (if (M.1 c_mo Mo_fault) ≤ 0 then (1 : Int32) else 0) M Q
set_option maxHeartbeats 4000000 in
theorem t_Mo_takeTold_j50 {X : Cx} (hX : Cok X cX12_takeTold RX12 3 ((some .int)) 2 0 0) {Q : Int32 → Mem → Prop} (hq : RI X 0 0 LY Q) {l1 : Int32} {l2 : Int32} {M : Mem} (h : w_Mo_takeTold_j50 l1 l2 M Q) : Wat X 0 0 LY 50 [some (vr c_mo), some (vi l1), some (vi l2)] [] M := by
  refine s_aload_n hX dX12_takeTold_50 rfl ?_
  refine s_dup hX dX12_takeTold_51 rfl ?_
  refine s_getiv (v := (M.1 c_mo Mo_at)) hX fi_X12_176 ly_c_mo rfl dX12_takeTold_52 rfl ?_
  refine s_aload_n hX dX12_takeTold_55 rfl ?_
  refine s_getiv (v := (M.1 c_mo Mo_fault)) hX fi_X12_179 ly_c_mo rfl dX12_takeTold_56 rfl ?_
  have hJ : Wat X 0 0 LY 67 [some (vr c_mo), some (vi l1), some (vi l2)] [vi (if (M.1 c_mo Mo_fault) ≤ 0 then (1 : Int32) else 0), vi (M.1 c_mo Mo_at), vr c_mo] M := by
    refine s_mask [false, true, true] (lv' := [none, some (vi l1), some (vi l2)]) rfl rfl ?_
    exact t_Mo_takeTold_j67 hX hq h
  refine s_if_le (tgt := 66) hX dX12_takeTold_59 (by decide) (fun c => ?_) (fun c => ?_)
  · rw [if_pos c] at hJ
    refine s_iconst (v := 1) hX dX12_takeTold_66 rfl ?_
    exact hJ
  · rw [if_neg c] at hJ
    refine s_iconst (v := 0) hX dX12_takeTold_62 rfl ?_
    refine s_goto (tgt := 67) hX dX12_takeTold_63 (by decide) ?_
    exact hJ
def w_Mo_takeTold_j45 (l1 : Int32) (l2 : Int32) (M : Mem) (Q : Int32 → Mem → Prop) : Prop :=
  w_Mo_wrong 2 M (fun M795 => w_Mo_takeTold_j50 l1 l2 M795 Q)
set_option maxHeartbeats 4000000 in
theorem t_Mo_takeTold_j45 {X : Cx} (hX : Cok X cX12_takeTold RX12 3 ((some .int)) 2 0 0) {Q : Int32 → Mem → Prop} (hq : RI X 0 0 LY Q) {l1 : Int32} {l2 : Int32} {M : Mem} (h : w_Mo_takeTold_j45 l1 l2 M Q) : Wat X 0 0 LY 45 [some (vr c_mo), some (vi l1), some (vi l2)] [] M := by
  refine s_aload_n hX dX12_takeTold_45 rfl ?_
  refine s_iconst (v := 2) hX dX12_takeTold_46 rfl ?_
  refine s_cvv (as := [vi 2]) (rest := []) hX (c_Mo_wrong h) mv_Mo_wrong wd_ml_X12_185 dX12_takeTold_47 ly_c_mo rfl rfl (Nat.le_of_ble_eq_true rfl) rfl (by decide) ⟨Nat.zero_le _, Nat.zero_le _⟩ (fun M795 h => ?_)
  exact t_Mo_takeTold_j50 hX hq h
def w_Mo_takeTold_j41 (l1 : Int32) (l2 : Int32) (s0 : Int32) (M : Mem) (Q : Int32 → Mem → Prop) : Prop :=
  ((s0 = l1 → w_Mo_takeTold_j50 l1 l2 M Q) ∧ (¬ s0 = l1 → w_Mo_takeTold_j45 l1 l2 M Q))
set_option maxHeartbeats 4000000 in
theorem t_Mo_takeTold_j41 {X : Cx} (hX : Cok X cX12_takeTold RX12 3 ((some .int)) 2 0 0) {Q : Int32 → Mem → Prop} (hq : RI X 0 0 LY Q) {l1 : Int32} {l2 : Int32} {s0 : Int32} {M : Mem} (h : w_Mo_takeTold_j41 l1 l2 s0 M Q) : Wat X 0 0 LY 41 [some (vr c_mo), some (vi l1), some (vi l2)] [vi s0] M := by
  refine s_iload_n hX dX12_takeTold_41 rfl ?_
  refine s_icmp_eq (tgt := 50) hX dX12_takeTold_42 (by decide) (fun c => ?_) (fun c => ?_)
  · replace h := h.1 c
    exact t_Mo_takeTold_j50 hX hq h
  · replace h := h.2 c
    exact t_Mo_takeTold_j45 hX hq h
def w_Mo_takeTold_j14 (l1 : Int32) (l2 : Int32) (M : Mem) (Q : Int32 → Mem → Prop) : Prop :=
  ((¬ (M.1 c_mo Mo_fault) = 0 → w_Mo_takeTold_j50 l1 l2 M Q) ∧ ((M.1 c_mo Mo_fault) = 0 → w_Mo_find M (fun r794 M793 => ((r794 < 0 → w_Mo_takeTold_j45 l1 r794 M793 Q) ∧ (¬ r794 < 0 → w_Mo_takeTold_j41 l1 r794 (if r794 < 6 then (0 : Int32) else 1) M793 Q)))))
set_option maxHeartbeats 4000000 in
theorem t_Mo_takeTold_j14 {X : Cx} (hX : Cok X cX12_takeTold RX12 3 ((some .int)) 2 0 0) {Q : Int32 → Mem → Prop} (hq : RI X 0 0 LY Q) {l1 : Int32} {l2 : Int32} {M : Mem} (h : w_Mo_takeTold_j14 l1 l2 M Q) : Wat X 0 0 LY 14 [some (vr c_mo), some (vi l1), some (vi l2)] [] M := by
  refine s_aload_n hX dX12_takeTold_14 rfl ?_
  refine s_getiv (v := (M.1 c_mo Mo_fault)) hX fi_X12_179 ly_c_mo rfl dX12_takeTold_15 rfl ?_
  refine s_if_ne (tgt := 50) hX dX12_takeTold_18 (by decide) (fun c => ?_) (fun c => ?_)
  · replace h := h.1 c
    exact t_Mo_takeTold_j50 hX hq h
  · replace h := h.2 c
    refine s_aload_n hX dX12_takeTold_21 rfl ?_
    refine s_cvi (as := []) (rest := []) hX (c_Mo_find h) mv_Mo_find wd_ml_X12_259 dX12_takeTold_22 ly_c_mo rfl rfl (Nat.le_of_ble_eq_true rfl) rfl (by decide) ⟨Nat.zero_le _, Nat.zero_le _⟩ (fun r794 M793 h => ?_)
    refine s_istore_n (lv' := [some (vr c_mo), some (vi l1), some (vi r794)]) hX dX12_takeTold_25 rfl rfl (Nat.le_of_ble_eq_true rfl) ?_
    refine s_iload_n hX dX12_takeTold_26 rfl ?_
    refine s_if_lt (tgt := 45) hX dX12_takeTold_27 (by decide) (fun c => ?_) (fun c => ?_)
    · replace h := h.1 c
      exact t_Mo_takeTold_j45 hX hq h
    · replace h := h.2 c
      refine s_iload_n hX dX12_takeTold_30 rfl ?_
      refine s_bipush (v := 6) hX dX12_takeTold_31 rfl ?_
      have hJ : Wat X 0 0 LY 41 [some (vr c_mo), some (vi l1), some (vi r794)] [vi (if r794 < 6 then (0 : Int32) else 1)] M793 := by
        exact t_Mo_takeTold_j41 hX hq h
      refine s_icmp_lt (tgt := 40) hX dX12_takeTold_33 (by decide) (fun c => ?_) (fun c => ?_)
      · rw [if_pos c] at hJ
        refine s_iconst (v := 0) hX dX12_takeTold_40 rfl ?_
        exact hJ
      · rw [if_neg c] at hJ
        refine s_iconst (v := 1) hX dX12_takeTold_36 rfl ?_
        refine s_goto (tgt := 41) hX dX12_takeTold_37 (by decide) ?_
        exact hJ
def w_Mo_takeTold (a0 : Int32) (M : Mem) (Q : Int32 → Mem → Prop) : Prop :=
  w_Mo_isName M (fun b790 M789 => ((b790 = true → w_Mo_takeTold_j14 a0 (-1) M789 Q) ∧ (b790 = false → w_Mo_wrong 1 M789 (fun M796 => w_Mo_takeTold_j14 a0 (-1) M796 Q))))
set_option maxHeartbeats 4000000 in
theorem t_Mo_takeTold {X : Cx} (hX : Cok X cX12_takeTold RX12 3 ((some .int)) 2 0 0) {Q : Int32 → Mem → Prop} (hq : RI X 0 0 LY Q) {M : Mem} {a0 : Int32} (h : w_Mo_takeTold a0 M Q) : Wat X 0 0 LY 0 [some (vr c_mo), some (vi a0), none] [] M := by
  refine s_iconst (v := (-1)) hX dX12_takeTold_0 rfl ?_
  refine s_istore_n (lv' := [some (vr c_mo), some (vi a0), some (vi (-1))]) hX dX12_takeTold_1 rfl rfl (Nat.le_of_ble_eq_true rfl) ?_
  refine s_aload_n hX dX12_takeTold_2 rfl ?_
  refine s_cvi (as := []) (rest := []) hX (c_Mo_isName h) mv_Mo_isName wd_ml_X12_255 dX12_takeTold_3 ly_c_mo rfl rfl (Nat.le_of_ble_eq_true rfl) rfl (by decide) ⟨Nat.zero_le _, Nat.zero_le _⟩ (fun b790_ M789 h => ?_)
  obtain ⟨b790, rfl, h⟩ := h
  refine s_if_ne (tgt := 14) hX dX12_takeTold_6 (by decide) (fun c => ?_) (fun c => ?_)
  · replace h := h.1 (b2i_1 c)
    exact t_Mo_takeTold_j14 hX hq h
  · replace h := h.2 (b2i_0 c)
    refine s_aload_n hX dX12_takeTold_9 rfl ?_
    refine s_iconst (v := 1) hX dX12_takeTold_10 rfl ?_
    refine s_cvv (as := [vi 1]) (rest := []) hX (c_Mo_wrong h) mv_Mo_wrong wd_ml_X12_185 dX12_takeTold_11 ly_c_mo rfl rfl (Nat.le_of_ble_eq_true rfl) rfl (by decide) ⟨Nat.zero_le _, Nat.zero_le _⟩ (fun M796 h => ?_)
    exact t_Mo_takeTold_j14 hX hq h
theorem c_Mo_takeTold {a0 : Int32} {M : Mem} {Q : Int32 → Mem → Prop} (h : w_Mo_takeTold a0 M Q) : CI yX12_takeTold cX12_takeTold 3 ((some .int)) 2 0 0 LY LY [vr c_mo, vi a0] M Q := mk_i rfl wd_co_X12_takeTold rfl rfl (Nat.le_of_ble_eq_true rfl) (fun X hX hq => t_Mo_takeTold hX hq h)
theorem mv_Mo_takeTold : MV yX12_takeTold cX12_takeTold 3 ((some .int)) RX12 1 := ⟨wd_co_X12_takeTold, wd_im_X12_takeTold, wd_se_X12_takeTold, wd_in_X12, by decide +kernel, by decide⟩
def w_Mo_takeHour (a0 : Int32) (a1 : Int32) (a2 : Int32) (M : Mem) (Q : Int32 → Mem → Prop) : Prop :=
  w_Mo_takeWord 5 M (fun M799 => w_Mo_takeNumber a0 23 M799 (fun r801 M800 => ((¬ (M800.1 c_mo Mo_fault) = 0 → Q r801 M800) ∧ ((M800.1 c_mo Mo_fault) = 0 → (vp_in (a1 + r801) 120 ∧ (((M800.1 c_mo_readCalls (Int32.toNatClampNeg (a1 + r801))) = a2 → Q r801 M800) ∧ (¬ (M800.1 c_mo_readCalls (Int32.toNatClampNeg (a1 + r801))) = a2 → w_Mo_wrong 3 (si M800 c_mo Mo_at ((M800.1 c_mo Mo_at) - 1)) (fun M802 => Q r801 M802))))))))
set_option maxHeartbeats 4000000 in
theorem t_Mo_takeHour {X : Cx} (hX : Cok X cX12_takeHour RX12 6 ((some .int)) 4 0 0) {Q : Int32 → Mem → Prop} (hq : RI X 0 0 LY Q) {M : Mem} {a0 : Int32} {a1 : Int32} {a2 : Int32} (h : w_Mo_takeHour a0 a1 a2 M Q) : Wat X 0 0 LY 0 [some (vr c_mo), some (vi a0), some (vr c_mo_readCalls), some (vi a1), some (vi a2), none] [] M := by
  refine s_aload_n hX dX12_takeHour_0 rfl ?_
  refine s_iconst (v := 5) hX dX12_takeHour_1 rfl ?_
  refine s_cvv (as := [vi 5]) (rest := []) hX (c_Mo_takeWord h) mv_Mo_takeWord wd_ml_X12_194 dX12_takeHour_2 ly_c_mo rfl rfl (Nat.le_of_ble_eq_true rfl) rfl (by decide) ⟨Nat.zero_le _, Nat.zero_le _⟩ (fun M799 h => ?_)
  refine s_aload_n hX dX12_takeHour_5 rfl ?_
  refine s_iload_n hX dX12_takeHour_6 rfl ?_
  refine s_bipush (v := 23) hX dX12_takeHour_7 rfl ?_
  refine s_cvi (as := [vi a0, vi 23]) (rest := []) hX (c_Mo_takeNumber h) mv_Mo_takeNumber wd_ml_X12_197 dX12_takeHour_9 ly_c_mo rfl rfl (Nat.le_of_ble_eq_true rfl) rfl (by decide) ⟨Nat.zero_le _, Nat.zero_le _⟩ (fun r801 M800 h => ?_)
  refine s_istore (lv' := [some (vr c_mo), some (vi a0), some (vr c_mo_readCalls), some (vi a1), some (vi a2), some (vi r801)]) hX dX12_takeHour_12 rfl rfl (Nat.le_of_ble_eq_true rfl) ?_
  refine s_aload_n hX dX12_takeHour_14 rfl ?_
  refine s_getiv (v := (M800.1 c_mo Mo_fault)) hX fi_X12_179 ly_c_mo rfl dX12_takeHour_15 rfl ?_
  refine s_if_ne (tgt := 47) hX dX12_takeHour_18 (by decide) (fun c => ?_) (fun c => ?_)
  · replace h := h.1 c
    refine s_iload hX dX12_takeHour_47 rfl ?_
    exact s_iret hX hq rfl dX12_takeHour_49 h
  · replace h := h.2 c
    refine s_aload_n hX dX12_takeHour_21 rfl ?_
    refine s_iload_n hX dX12_takeHour_22 rfl ?_
    refine s_iload hX dX12_takeHour_23 rfl ?_
    refine s_iadd hX dX12_takeHour_25 ?_
    have hi := h.1
    replace h := h.2
    refine s_ialdv (v := (M800.1 c_mo_readCalls (Int32.toNatClampNeg (a1 + r801)))) hX ly_c_mo_readCalls hi dX12_takeHour_26 rfl ?_
    refine s_iload hX dX12_takeHour_27 rfl ?_
    refine s_icmp_eq (tgt := 47) hX dX12_takeHour_29 (by decide) (fun c => ?_) (fun c => ?_)
    · replace h := h.1 c
      refine s_iload hX dX12_takeHour_47 rfl ?_
      exact s_iret hX hq rfl dX12_takeHour_49 h
    · replace h := h.2 c
      refine s_aload_n hX dX12_takeHour_32 rfl ?_
      refine s_dup hX dX12_takeHour_33 rfl ?_
      refine s_getiv (v := (M800.1 c_mo Mo_at)) hX fi_X12_176 ly_c_mo rfl dX12_takeHour_34 rfl ?_
      refine s_iconst (v := 1) hX dX12_takeHour_37 rfl ?_
      refine s_isub hX dX12_takeHour_38 ?_
      refine s_puti hX fi_X12_176 fp_X12 rfl (by decide +kernel) ly_c_mo rfl dX12_takeHour_39 ?_
      refine s_aload_n hX dX12_takeHour_42 rfl ?_
      refine s_iconst (v := 3) hX dX12_takeHour_43 rfl ?_
      refine s_cvv (as := [vi 3]) (rest := []) hX (c_Mo_wrong h) mv_Mo_wrong wd_ml_X12_185 dX12_takeHour_44 ly_c_mo rfl rfl (Nat.le_of_ble_eq_true rfl) rfl (by decide) ⟨Nat.zero_le _, Nat.zero_le _⟩ (fun M802 h => ?_)
      refine s_iload hX dX12_takeHour_47 rfl ?_
      exact s_iret hX hq rfl dX12_takeHour_49 h
theorem c_Mo_takeHour {a0 : Int32} {a1 : Int32} {a2 : Int32} {M : Mem} {Q : Int32 → Mem → Prop} (h : w_Mo_takeHour a0 a1 a2 M Q) : CI yX12_takeHour cX12_takeHour 6 ((some .int)) 4 0 0 LY LY [vr c_mo, vi a0, vr c_mo_readCalls, vi a1, vi a2] M Q := mk_i rfl wd_co_X12_takeHour rfl rfl (Nat.le_of_ble_eq_true rfl) (fun X hX hq => t_Mo_takeHour hX hq h)
theorem mv_Mo_takeHour : MV yX12_takeHour cX12_takeHour 6 ((some .int)) RX12 4 := ⟨wd_co_X12_takeHour, wd_im_X12_takeHour, wd_se_X12_takeHour, wd_in_X12, by decide +kernel, by decide⟩
def w_Mo_takeAfter (a0 : Int32) (a1 : Int32) (a2 : Int32) (M : Mem) (Q : Int32 → Mem → Prop) : Prop :=
  w_Mo_takeWord a0 M (fun M805 => w_Mo_takeNumber a1 a2 M805 (fun r807 M806 => Q r807 M806))
set_option maxHeartbeats 4000000 in
theorem t_Mo_takeAfter {X : Cx} (hX : Cok X cX12_takeAfter RX12 4 ((some .int)) 4 0 0) {Q : Int32 → Mem → Prop} (hq : RI X 0 0 LY Q) {M : Mem} {a0 : Int32} {a1 : Int32} {a2 : Int32} (h : w_Mo_takeAfter a0 a1 a2 M Q) : Wat X 0 0 LY 0 [some (vr c_mo), some (vi a0), some (vi a1), some (vi a2)] [] M := by
  refine s_aload_n hX dX12_takeAfter_0 rfl ?_
  refine s_iload_n hX dX12_takeAfter_1 rfl ?_
  refine s_cvv (as := [vi a0]) (rest := []) hX (c_Mo_takeWord h) mv_Mo_takeWord wd_ml_X12_194 dX12_takeAfter_2 ly_c_mo rfl rfl (Nat.le_of_ble_eq_true rfl) rfl (by decide) ⟨Nat.zero_le _, Nat.zero_le _⟩ (fun M805 h => ?_)
  refine s_aload_n hX dX12_takeAfter_5 rfl ?_
  refine s_iload_n hX dX12_takeAfter_6 rfl ?_
  refine s_iload_n hX dX12_takeAfter_7 rfl ?_
  refine s_cvi (as := [vi a1, vi a2]) (rest := []) hX (c_Mo_takeNumber h) mv_Mo_takeNumber wd_ml_X12_197 dX12_takeAfter_8 ly_c_mo rfl rfl (Nat.le_of_ble_eq_true rfl) rfl (by decide) ⟨Nat.zero_le _, Nat.zero_le _⟩ (fun r807 M806 h => ?_)
  exact s_iret hX hq rfl dX12_takeAfter_11 h
theorem c_Mo_takeAfter {a0 : Int32} {a1 : Int32} {a2 : Int32} {M : Mem} {Q : Int32 → Mem → Prop} (h : w_Mo_takeAfter a0 a1 a2 M Q) : CI yX12_takeAfter cX12_takeAfter 4 ((some .int)) 4 0 0 LY LY [vr c_mo, vi a0, vi a1, vi a2] M Q := mk_i rfl wd_co_X12_takeAfter rfl rfl (Nat.le_of_ble_eq_true rfl) (fun X hX hq => t_Mo_takeAfter hX hq h)
theorem mv_Mo_takeAfter : MV yX12_takeAfter cX12_takeAfter 4 ((some .int)) RX12 3 := ⟨wd_co_X12_takeAfter, wd_im_X12_takeAfter, wd_se_X12_takeAfter, wd_in_X12, by decide +kernel, by decide⟩
def w_Mo_readCall_j56 (l1 : Int32) (s0 : Int32) (M : Mem) (Q : Mem → Prop) : Prop :=
  w_Mo_takeAfter 8 1 9 M (fun r809 M808 => ((¬ (M808.1 c_mo Mo_fault) = 0 → Q M808) ∧ ((M808.1 c_mo Mo_fault) = 0 → (vp_in ((24 * l1) + s0) 120 ∧ Q (si (si M808 c_mo_readCalls (Int32.toNatClampNeg ((24 * l1) + s0)) r809) c_mo Mo_callsMany ((M808.1 c_mo Mo_callsMany) + 1))))))
set_option maxHeartbeats 4000000 in
theorem t_Mo_readCall_j56 {X : Cx} (hX : Cok X cX12_readCall RX12 4 none 5 0 0) {Q : Mem → Prop} (hq : RV X 0 0 LY Q) {l1 : Int32} {s0 : Int32} {M : Mem} (h : w_Mo_readCall_j56 l1 s0 M Q) : Wat X 0 0 LY 56 [some (vr c_mo), some (vi l1), none, none] [vi s0] M := by
  refine s_istore_n (lv' := [some (vr c_mo), some (vi l1), some (vi s0), none]) hX dX12_readCall_56 rfl rfl (Nat.le_of_ble_eq_true rfl) ?_
  refine s_aload_n hX dX12_readCall_57 rfl ?_
  refine s_bipush (v := 8) hX dX12_readCall_58 rfl ?_
  refine s_iconst (v := 1) hX dX12_readCall_60 rfl ?_
  refine s_bipush (v := 9) hX dX12_readCall_61 rfl ?_
  refine s_cvi (as := [vi 8, vi 1, vi 9]) (rest := []) hX (c_Mo_takeAfter h) mv_Mo_takeAfter wd_ml_X12_251 dX12_readCall_63 ly_c_mo rfl rfl (Nat.le_of_ble_eq_true rfl) rfl (by decide) ⟨Nat.zero_le _, Nat.zero_le _⟩ (fun r809 M808 h => ?_)
  refine s_istore_n (lv' := [some (vr c_mo), some (vi l1), some (vi s0), some (vi r809)]) hX dX12_readCall_66 rfl rfl (Nat.le_of_ble_eq_true rfl) ?_
  refine s_aload_n hX dX12_readCall_67 rfl ?_
  refine s_getiv (v := (M808.1 c_mo Mo_fault)) hX fi_X12_179 ly_c_mo rfl dX12_readCall_68 rfl ?_
  refine s_if_ne (tgt := 96) hX dX12_readCall_71 (by decide) (fun c => ?_) (fun c => ?_)
  · replace h := h.1 c
    exact s_vret hX hq rfl dX12_readCall_96 h
  · replace h := h.2 c
    refine s_aload_n hX dX12_readCall_74 rfl ?_
    refine s_getr hX fi_X12_88 ly_c_mo rfl dX12_readCall_75 ?_
    refine s_bipush (v := 24) hX dX12_readCall_78 rfl ?_
    refine s_iload_n hX dX12_readCall_80 rfl ?_
    refine s_imul hX dX12_readCall_81 ?_
    refine s_iload_n hX dX12_readCall_82 rfl ?_
    refine s_iadd hX dX12_readCall_83 ?_
    refine s_iload_n hX dX12_readCall_84 rfl ?_
    have hi := h.1
    replace h := h.2
    refine s_iast hX ly_c_mo_readCalls hi dX12_readCall_85 ?_
    refine s_aload_n hX dX12_readCall_86 rfl ?_
    refine s_dup hX dX12_readCall_87 rfl ?_
    refine s_getiv (v := (M808.1 c_mo Mo_callsMany)) hX fi_X12_213 ly_c_mo rfl dX12_readCall_88 rfl ?_
    refine s_iconst (v := 1) hX dX12_readCall_91 rfl ?_
    refine s_iadd hX dX12_readCall_92 ?_
    refine s_puti hX fi_X12_213 fp_X12 rfl (by decide +kernel) ly_c_mo rfl dX12_readCall_93 ?_
    exact s_vret hX hq rfl dX12_readCall_96 h
def w_Mo_readCall (M : Mem) (Q : Mem → Prop) : Prop :=
  ((¬ (M.1 c_mo Mo_callsMany) = 30 → w_Mo_takeTold 1 (si M c_mo Mo_at ((M.1 c_mo Mo_at) + 1)) (fun r798 M797 => (((M797.1 c_mo Mo_fault) ≤ 0 → w_Mo_takeHour 0 (24 * r798) 0 M797 (fun r804 M803 => w_Mo_readCall_j56 r798 r804 M803 Q)) ∧ (¬ (M797.1 c_mo Mo_fault) ≤ 0 → w_Mo_readCall_j56 r798 0 M797 Q)))) ∧ ((M.1 c_mo Mo_callsMany) = 30 → w_Mo_wrong 5 M (fun M810 => Q M810)))
set_option maxHeartbeats 4000000 in
theorem t_Mo_readCall {X : Cx} (hX : Cok X cX12_readCall RX12 4 none 5 0 0) {Q : Mem → Prop} (hq : RV X 0 0 LY Q) {M : Mem} (h : w_Mo_readCall M Q) : Wat X 0 0 LY 0 [some (vr c_mo), none, none, none] [] M := by
  refine s_aload_n hX dX12_readCall_0 rfl ?_
  refine s_getiv (v := (M.1 c_mo Mo_callsMany)) hX fi_X12_213 ly_c_mo rfl dX12_readCall_1 rfl ?_
  refine s_bipush (v := 30) hX dX12_readCall_4 rfl ?_
  refine s_icmp_ne (tgt := 15) hX dX12_readCall_6 (by decide) (fun c => ?_) (fun c => ?_)
  · replace h := h.1 c
    refine s_aload_n hX dX12_readCall_15 rfl ?_
    refine s_dup hX dX12_readCall_16 rfl ?_
    refine s_getiv (v := (M.1 c_mo Mo_at)) hX fi_X12_176 ly_c_mo rfl dX12_readCall_17 rfl ?_
    refine s_iconst (v := 1) hX dX12_readCall_20 rfl ?_
    refine s_iadd hX dX12_readCall_21 ?_
    refine s_puti hX fi_X12_176 fp_X12 rfl (by decide +kernel) ly_c_mo rfl dX12_readCall_22 ?_
    refine s_aload_n hX dX12_readCall_25 rfl ?_
    refine s_iconst (v := 1) hX dX12_readCall_26 rfl ?_
    refine s_cvi (as := [vi 1]) (rest := []) hX (c_Mo_takeTold h) mv_Mo_takeTold wd_ml_X12_268 dX12_readCall_27 ly_c_mo rfl rfl (Nat.le_of_ble_eq_true rfl) rfl (by decide) ⟨Nat.zero_le _, Nat.zero_le _⟩ (fun r798 M797 h => ?_)
    refine s_istore_n (lv' := [some (vr c_mo), some (vi r798), none, none]) hX dX12_readCall_30 rfl rfl (Nat.le_of_ble_eq_true rfl) ?_
    refine s_aload_n hX dX12_readCall_31 rfl ?_
    refine s_getiv (v := (M797.1 c_mo Mo_fault)) hX fi_X12_179 ly_c_mo rfl dX12_readCall_32 rfl ?_
    refine s_if_le (tgt := 42) hX dX12_readCall_35 (by decide) (fun c => ?_) (fun c => ?_)
    · replace h := h.1 c
      refine s_aload_n hX dX12_readCall_42 rfl ?_
      refine s_iconst (v := 0) hX dX12_readCall_43 rfl ?_
      refine s_aload_n hX dX12_readCall_44 rfl ?_
      refine s_getr hX fi_X12_88 ly_c_mo rfl dX12_readCall_45 ?_
      refine s_bipush (v := 24) hX dX12_readCall_48 rfl ?_
      refine s_iload_n hX dX12_readCall_50 rfl ?_
      refine s_imul hX dX12_readCall_51 ?_
      refine s_iconst (v := 0) hX dX12_readCall_52 rfl ?_
      refine s_cvi (as := [vi 0, vr c_mo_readCalls, vi (24 * r798), vi 0]) (rest := []) hX (c_Mo_takeHour h) mv_Mo_takeHour wd_ml_X12_272 dX12_readCall_53 ly_c_mo rfl rfl (Nat.le_of_ble_eq_true rfl) rfl (by decide) ⟨Nat.zero_le _, Nat.zero_le _⟩ (fun r804 M803 h => ?_)
      exact t_Mo_readCall_j56 hX hq h
    · replace h := h.2 c
      refine s_iconst (v := 0) hX dX12_readCall_38 rfl ?_
      refine s_goto (tgt := 56) hX dX12_readCall_39 (by decide) ?_
      exact t_Mo_readCall_j56 hX hq h
  · replace h := h.2 c
    refine s_aload_n hX dX12_readCall_9 rfl ?_
    refine s_iconst (v := 5) hX dX12_readCall_10 rfl ?_
    refine s_cvv (as := [vi 5]) (rest := []) hX (c_Mo_wrong h) mv_Mo_wrong wd_ml_X12_185 dX12_readCall_11 ly_c_mo rfl rfl (Nat.le_of_ble_eq_true rfl) rfl (by decide) ⟨Nat.zero_le _, Nat.zero_le _⟩ (fun M810 h => ?_)
    exact s_vret hX hq rfl dX12_readCall_14 h
theorem c_Mo_readCall {M : Mem} {Q : Mem → Prop} (h : w_Mo_readCall M Q) : CV yX12_readCall cX12_readCall 4 none 5 0 0 LY LY [vr c_mo] M Q := mk_v rfl wd_co_X12_readCall rfl rfl (Nat.le_of_ble_eq_true rfl) (fun X hX hq => t_Mo_readCall hX hq h)
theorem mv_Mo_readCall : MV yX12_readCall cX12_readCall 4 none RX12 0 := ⟨wd_co_X12_readCall, wd_im_X12_readCall, wd_se_X12_readCall, wd_in_X12, by decide +kernel, by decide⟩
def w_Mo_readName_j37 (l1 : Int32) (M : Mem) (Q : Mem → Prop) : Prop :=
  ((¬ (M.1 c_mo Mo_fault) = 0 → Q M) ∧ ((M.1 c_mo Mo_fault) = 0 → (vp_in (M.1 c_mo Mo_at) 1002 ∧ (vp_in (M.1 c_mo Mo_namesMany) 11 ∧ (vp_in (M.1 c_mo Mo_namesMany) 11 ∧ Q (si (si (si (sl M c_mo_names (Int32.toNatClampNeg (M.1 c_mo Mo_namesMany)) (M.2 c_mo_value (Int32.toNatClampNeg (M.1 c_mo Mo_at)))) c_mo_nameOf (Int32.toNatClampNeg (M.1 c_mo Mo_namesMany)) l1) c_mo Mo_namesMany ((M.1 c_mo Mo_namesMany) + 1)) c_mo Mo_at ((M.1 c_mo Mo_at) + 1)))))))
set_option maxHeartbeats 4000000 in
theorem t_Mo_readName_j37 {X : Cx} (hX : Cok X cX12_readName RX12 2 none 2 0 0) {Q : Mem → Prop} (hq : RV X 0 0 LY Q) {l1 : Int32} {M : Mem} (h : w_Mo_readName_j37 l1 M Q) : Wat X 0 0 LY 37 [some (vr c_mo), some (vi l1)] [] M := by
  refine s_aload_n hX dX12_readName_37 rfl ?_
  refine s_getiv (v := (M.1 c_mo Mo_fault)) hX fi_X12_179 ly_c_mo rfl dX12_readName_38 rfl ?_
  refine s_if_ne (tgt := 92) hX dX12_readName_41 (by decide) (fun c => ?_) (fun c => ?_)
  · replace h := h.1 c
    exact s_vret hX hq rfl dX12_readName_92 h
  · replace h := h.2 c
    refine s_aload_n hX dX12_readName_44 rfl ?_
    refine s_getr hX fi_X12_100 ly_c_mo rfl dX12_readName_45 ?_
    refine s_aload_n hX dX12_readName_48 rfl ?_
    refine s_getiv (v := (M.1 c_mo Mo_namesMany)) hX fi_X12_201 ly_c_mo rfl dX12_readName_49 rfl ?_
    refine s_aload_n hX dX12_readName_52 rfl ?_
    refine s_getr hX fi_X12_30 ly_c_mo rfl dX12_readName_53 ?_
    refine s_aload_n hX dX12_readName_56 rfl ?_
    refine s_getiv (v := (M.1 c_mo Mo_at)) hX fi_X12_176 ly_c_mo rfl dX12_readName_57 rfl ?_
    have hi := h.1
    replace h := h.2
    refine s_laldv (v := (M.2 c_mo_value (Int32.toNatClampNeg (M.1 c_mo Mo_at)))) hX ly_c_mo_value hi dX12_readName_60 rfl ?_
    have hi := h.1
    replace h := h.2
    refine s_last hX ly_c_mo_names hi dX12_readName_61 ?_
    refine s_aload_n hX dX12_readName_62 rfl ?_
    refine s_getr hX fi_X12_103 ly_c_mo rfl dX12_readName_63 ?_
    refine s_aload_n hX dX12_readName_66 rfl ?_
    refine s_getiv (v := (M.1 c_mo Mo_namesMany)) hX fi_X12_201 ly_c_mo rfl dX12_readName_67 rfl ?_
    refine s_iload_n hX dX12_readName_70 rfl ?_
    have hi := h.1
    replace h := h.2
    refine s_iast hX ly_c_mo_nameOf hi dX12_readName_71 ?_
    refine s_aload_n hX dX12_readName_72 rfl ?_
    refine s_dup hX dX12_readName_73 rfl ?_
    refine s_getiv (v := (M.1 c_mo Mo_namesMany)) hX fi_X12_201 ly_c_mo rfl dX12_readName_74 rfl ?_
    refine s_iconst (v := 1) hX dX12_readName_77 rfl ?_
    refine s_iadd hX dX12_readName_78 ?_
    refine s_puti hX fi_X12_201 fp_X12 rfl (by decide +kernel) ly_c_mo rfl dX12_readName_79 ?_
    refine s_aload_n hX dX12_readName_82 rfl ?_
    refine s_dup hX dX12_readName_83 rfl ?_
    refine s_getiv (v := (M.1 c_mo Mo_at)) hX fi_X12_176 ly_c_mo rfl dX12_readName_84 rfl ?_
    refine s_iconst (v := 1) hX dX12_readName_87 rfl ?_
    refine s_iadd hX dX12_readName_88 ?_
    refine s_puti hX fi_X12_176 fp_X12 rfl (by decide +kernel) ly_c_mo rfl dX12_readName_89 ?_
    exact s_vret hX hq rfl dX12_readName_92 h
def w_Mo_readName (a0 : Int32) (M : Mem) (Q : Mem → Prop) : Prop :=
  w_Mo_isName (si M c_mo Mo_at ((M.1 c_mo Mo_at) + 1)) (fun b814 M813 => ((b814 = true → w_Mo_find M813 (fun r816 M815 => ((r816 < 0 → w_Mo_readName_j37 a0 M815 Q) ∧ (¬ r816 < 0 → w_Mo_wrong 3 M815 (fun M817 => w_Mo_readName_j37 a0 M817 Q))))) ∧ (b814 = false → w_Mo_wrong 1 M813 (fun M818 => w_Mo_readName_j37 a0 M818 Q))))
set_option maxHeartbeats 4000000 in
theorem t_Mo_readName {X : Cx} (hX : Cok X cX12_readName RX12 2 none 2 0 0) {Q : Mem → Prop} (hq : RV X 0 0 LY Q) {M : Mem} {a0 : Int32} (h : w_Mo_readName a0 M Q) : Wat X 0 0 LY 0 [some (vr c_mo), some (vi a0)] [] M := by
  refine s_aload_n hX dX12_readName_0 rfl ?_
  refine s_dup hX dX12_readName_1 rfl ?_
  refine s_getiv (v := (M.1 c_mo Mo_at)) hX fi_X12_176 ly_c_mo rfl dX12_readName_2 rfl ?_
  refine s_iconst (v := 1) hX dX12_readName_5 rfl ?_
  refine s_iadd hX dX12_readName_6 ?_
  refine s_puti hX fi_X12_176 fp_X12 rfl (by decide +kernel) ly_c_mo rfl dX12_readName_7 ?_
  refine s_aload_n hX dX12_readName_10 rfl ?_
  refine s_cvi (as := []) (rest := []) hX (c_Mo_isName h) mv_Mo_isName wd_ml_X12_255 dX12_readName_11 ly_c_mo rfl rfl (Nat.le_of_ble_eq_true rfl) rfl (by decide) ⟨Nat.zero_le _, Nat.zero_le _⟩ (fun b814_ M813 h => ?_)
  obtain ⟨b814, rfl, h⟩ := h
  refine s_if_ne (tgt := 25) hX dX12_readName_14 (by decide) (fun c => ?_) (fun c => ?_)
  · replace h := h.1 (b2i_1 c)
    refine s_aload_n hX dX12_readName_25 rfl ?_
    refine s_cvi (as := []) (rest := []) hX (c_Mo_find h) mv_Mo_find wd_ml_X12_259 dX12_readName_26 ly_c_mo rfl rfl (Nat.le_of_ble_eq_true rfl) rfl (by decide) ⟨Nat.zero_le _, Nat.zero_le _⟩ (fun r816 M815 h => ?_)
    refine s_if_lt (tgt := 37) hX dX12_readName_29 (by decide) (fun c => ?_) (fun c => ?_)
    · replace h := h.1 c
      exact t_Mo_readName_j37 hX hq h
    · replace h := h.2 c
      refine s_aload_n hX dX12_readName_32 rfl ?_
      refine s_iconst (v := 3) hX dX12_readName_33 rfl ?_
      refine s_cvv (as := [vi 3]) (rest := []) hX (c_Mo_wrong h) mv_Mo_wrong wd_ml_X12_185 dX12_readName_34 ly_c_mo rfl rfl (Nat.le_of_ble_eq_true rfl) rfl (by decide) ⟨Nat.zero_le _, Nat.zero_le _⟩ (fun M817 h => ?_)
      exact t_Mo_readName_j37 hX hq h
  · replace h := h.2 (b2i_0 c)
    refine s_aload_n hX dX12_readName_17 rfl ?_
    refine s_iconst (v := 1) hX dX12_readName_18 rfl ?_
    refine s_cvv (as := [vi 1]) (rest := []) hX (c_Mo_wrong h) mv_Mo_wrong wd_ml_X12_185 dX12_readName_19 ly_c_mo rfl rfl (Nat.le_of_ble_eq_true rfl) rfl (by decide) ⟨Nat.zero_le _, Nat.zero_le _⟩ (fun M818 h => ?_)
    refine s_goto (tgt := 37) hX dX12_readName_22 (by decide) ?_
    exact t_Mo_readName_j37 hX hq h
theorem c_Mo_readName {a0 : Int32} {M : Mem} {Q : Mem → Prop} (h : w_Mo_readName a0 M Q) : CV yX12_readName cX12_readName 2 none 2 0 0 LY LY [vr c_mo, vi a0] M Q := mk_v rfl wd_co_X12_readName rfl rfl (Nat.le_of_ble_eq_true rfl) (fun X hX hq => t_Mo_readName hX hq h)
theorem mv_Mo_readName : MV yX12_readName cX12_readName 2 none RX12 1 := ⟨wd_co_X12_readName, wd_im_X12_readName, wd_se_X12_readName, wd_in_X12, by decide +kernel, by decide⟩
