def w_Rd_readBird (M : Mem) (Q : Bool → Mem → Prop) : Prop :=
  (((M.1 c_draft Land_birds) < 5 → w_Tape_step M (fun b149 M148 => w_Rd_isNewName M148 (fun b151 M150 => ((b151 = true → (vp_in (M.1 c_draft Land_birds) 5 ∧ w_Tape_step (sl M150 c_reader_birdNames (Int32.toNatClampNeg (M.1 c_draft Land_birds)) (M150.2 c_tape Tape_word)) (fun b153 M152 => w_Rd_takeKeyword 2 M152 (fun b155 M154 => ((b155 = false → Q false M154) ∧ (b155 = true → w_Rd_takeCell M154 (fun b157 M156 => ((b157 = true → (vp_in (M.1 c_draft Land_birds) 5 ∧ w_Rd_takeEnd (si (si M156 c_draft_bush (Int32.toNatClampNeg (M.1 c_draft Land_birds)) (M156.1 c_reader Rd_cell)) c_draft Land_birds ((M156.1 c_draft Land_birds) + 1)) (fun b159 M158 => Q b159 M158))) ∧ (b157 = false → Q false M156))))))))) ∧ (b151 = false → Q false M150))))) ∧ (¬ (M.1 c_draft Land_birds) < 5 → w_Tape_fail 5 M (fun b161 M160 => Q b161 M160)))
set_option maxHeartbeats 4000000 in
theorem t_Rd_readBird {X : Cx} (hX : Cok X cX8_readBird RX8 2 ((some .boolean)) 4 0 0) {Q : Bool → Mem → Prop} (hq : RI X 0 0 LY (bQ Q)) {M : Mem} (h : w_Rd_readBird M Q) : Wat X 0 0 LY 0 [some (vr c_reader), none] [] M := by
  refine s_aload_n hX dX8_readBird_0 rfl ?_
  refine s_getr hX fi_X8_26 ly_c_reader rfl dX8_readBird_1 ?_
  refine s_getiv (v := (M.1 c_draft Land_birds)) hX fi_X8_166 ly_c_draft rfl dX8_readBird_4 rfl ?_
  refine s_istore_n (lv' := [some (vr c_reader), some (vi (M.1 c_draft Land_birds))]) hX dX8_readBird_7 rfl rfl (Nat.le_of_ble_eq_true rfl) ?_
  refine s_iload_n hX dX8_readBird_8 rfl ?_
  refine s_iconst (v := 5) hX dX8_readBird_9 rfl ?_
  refine s_icmp_lt (tgt := 22) hX dX8_readBird_10 (by decide) (fun c => ?_) (fun c => ?_)
  · replace h := h.1 c
    refine s_aload_n hX dX8_readBird_22 rfl ?_
    refine s_getr hX fi_X8_22 ly_c_reader rfl dX8_readBird_23 ?_
    refine s_cvi (as := []) (rest := []) hX (c_Tape_step h) mv_Tape_step wd_ml_X8_96 dX8_readBird_26 ly_c_tape rfl rfl (Nat.le_of_ble_eq_true rfl) rfl (by decide) ⟨Nat.zero_le _, Nat.zero_le _⟩ (fun b149_ M148 h => ?_)
    obtain ⟨b149, rfl, h⟩ := h
    refine s_pop hX dX8_readBird_29 rfl ?_
    refine s_aload_n hX dX8_readBird_30 rfl ?_
    refine s_cvi (as := []) (rest := []) hX (c_Rd_isNewName h) mv_Rd_isNewName wd_ml_X8_140 dX8_readBird_31 ly_c_reader rfl rfl (Nat.le_of_ble_eq_true rfl) rfl (by decide) ⟨Nat.zero_le _, Nat.zero_le _⟩ (fun b151_ M150 h => ?_)
    obtain ⟨b151, rfl, h⟩ := h
    refine s_if_ne (tgt := 39) hX dX8_readBird_34 (by decide) (fun c => ?_) (fun c => ?_)
    · replace h := h.1 (b2i_1 c)
      refine s_aload_n hX dX8_readBird_39 rfl ?_
      refine s_getr hX fi_X8_15 ly_c_reader rfl dX8_readBird_40 ?_
      refine s_iload_n hX dX8_readBird_43 rfl ?_
      refine s_aload_n hX dX8_readBird_44 rfl ?_
      refine s_getr hX fi_X8_22 ly_c_reader rfl dX8_readBird_45 ?_
      refine s_getlv (v := (M150.2 c_tape Tape_word)) hX fi_X8_143 ly_c_tape rfl dX8_readBird_48 rfl ?_
      have hi := h.1
      replace h := h.2
      refine s_last hX ly_c_reader_birdNames hi dX8_readBird_51 ?_
      refine s_aload_n hX dX8_readBird_52 rfl ?_
      refine s_getr hX fi_X8_22 ly_c_reader rfl dX8_readBird_53 ?_
      refine s_cvi (as := []) (rest := []) hX (c_Tape_step h) mv_Tape_step wd_ml_X8_96 dX8_readBird_56 ly_c_tape rfl rfl (Nat.le_of_ble_eq_true rfl) rfl (by decide) ⟨Nat.zero_le _, Nat.zero_le _⟩ (fun b153_ M152 h => ?_)
      obtain ⟨b153, rfl, h⟩ := h
      refine s_pop hX dX8_readBird_59 rfl ?_
      refine s_aload_n hX dX8_readBird_60 rfl ?_
      refine s_iconst (v := 2) hX dX8_readBird_61 rfl ?_
      refine s_cvi (as := [vi 2]) (rest := []) hX (c_Rd_takeKeyword h) mv_Rd_takeKeyword wd_ml_X8_82 dX8_readBird_62 ly_c_reader rfl rfl (Nat.le_of_ble_eq_true rfl) rfl (by decide) ⟨Nat.zero_le _, Nat.zero_le _⟩ (fun b155_ M154 h => ?_)
      obtain ⟨b155, rfl, h⟩ := h
      refine s_if_eq (tgt := 75) hX dX8_readBird_65 (by decide) (fun c => ?_) (fun c => ?_)
      · replace h := h.1 (b2i_0 c)
        refine s_iconst (v := 0) hX dX8_readBird_75 rfl ?_
        exact s_zret hX false hq rfl dX8_readBird_76 rfl h
      · replace h := h.2 (b2i_1 c)
        refine s_aload_n hX dX8_readBird_68 rfl ?_
        refine s_cvi (as := []) (rest := []) hX (c_Rd_takeCell h) mv_Rd_takeCell wd_ml_X8_150 dX8_readBird_69 ly_c_reader rfl rfl (Nat.le_of_ble_eq_true rfl) rfl (by decide) ⟨Nat.zero_le _, Nat.zero_le _⟩ (fun b157_ M156 h => ?_)
        obtain ⟨b157, rfl, h⟩ := h
        refine s_if_ne (tgt := 77) hX dX8_readBird_72 (by decide) (fun c => ?_) (fun c => ?_)
        · replace h := h.1 (b2i_1 c)
          refine s_aload_n hX dX8_readBird_77 rfl ?_
          refine s_getr hX fi_X8_26 ly_c_reader rfl dX8_readBird_78 ?_
          refine s_getr hX fi_X8_169 ly_c_draft rfl dX8_readBird_81 ?_
          refine s_iload_n hX dX8_readBird_84 rfl ?_
          refine s_aload_n hX dX8_readBird_85 rfl ?_
          refine s_getiv (v := (M156.1 c_reader Rd_cell)) hX fi_X8_153 ly_c_reader rfl dX8_readBird_86 rfl ?_
          have hi := h.1
          replace h := h.2
          refine s_iast hX ly_c_draft_bush hi dX8_readBird_89 ?_
          refine s_aload_n hX dX8_readBird_90 rfl ?_
          refine s_getr hX fi_X8_26 ly_c_reader rfl dX8_readBird_91 ?_
          refine s_dup hX dX8_readBird_94 rfl ?_
          refine s_getiv (v := (M156.1 c_draft Land_birds)) hX fi_X8_166 ly_c_draft rfl dX8_readBird_95 rfl ?_
          refine s_iconst (v := 1) hX dX8_readBird_98 rfl ?_
          refine s_iadd hX dX8_readBird_99 ?_
          refine s_puti hX fi_X8_166 fp_X5 rfl (by decide +kernel) ly_c_draft rfl dX8_readBird_100 ?_
          refine s_aload_n hX dX8_readBird_103 rfl ?_
          refine s_cvi (as := []) (rest := []) hX (c_Rd_takeEnd h) mv_Rd_takeEnd wd_ml_X8_102 dX8_readBird_104 ly_c_reader rfl rfl (Nat.le_of_ble_eq_true rfl) rfl (by decide) ⟨Nat.zero_le _, Nat.zero_le _⟩ (fun b159_ M158 h => ?_)
          obtain ⟨b159, rfl, h⟩ := h
          exact s_zret hX _ hq rfl dX8_readBird_107 rfl h
        · replace h := h.2 (b2i_0 c)
          refine s_iconst (v := 0) hX dX8_readBird_75 rfl ?_
          exact s_zret hX false hq rfl dX8_readBird_76 rfl h
    · replace h := h.2 (b2i_0 c)
      refine s_iconst (v := 0) hX dX8_readBird_37 rfl ?_
      exact s_zret hX false hq rfl dX8_readBird_38 rfl h
  · replace h := h.2 c
    refine s_aload_n hX dX8_readBird_13 rfl ?_
    refine s_getr hX fi_X8_22 ly_c_reader rfl dX8_readBird_14 ?_
    refine s_iconst (v := 5) hX dX8_readBird_17 rfl ?_
    refine s_cvi (as := [vi 5]) (rest := []) hX (c_Tape_fail h) mv_Tape_fail wd_ml_X8_134 dX8_readBird_18 ly_c_tape rfl rfl (Nat.le_of_ble_eq_true rfl) rfl (by decide) ⟨Nat.zero_le _, Nat.zero_le _⟩ (fun b161_ M160 h => ?_)
    obtain ⟨b161, rfl, h⟩ := h
    exact s_zret hX _ hq rfl dX8_readBird_21 rfl h
theorem c_Rd_readBird {M : Mem} {Q : Bool → Mem → Prop} (h : w_Rd_readBird M Q) : CI yX8_readBird cX8_readBird 2 ((some .boolean)) 4 0 0 LY LY [vr c_reader] M (bQ Q) := mk_i rfl wd_co_X8_readBird rfl rfl (Nat.le_of_ble_eq_true rfl) (fun X hX hq => t_Rd_readBird hX hq h)
theorem mv_Rd_readBird : MV yX8_readBird cX8_readBird 2 ((some .boolean)) RX8 0 := ⟨wd_co_X8_readBird, wd_im_X8_readBird, wd_se_X8_readBird, wd_in_X8, by decide +kernel, by decide⟩
def w_Rd_isKnown_reader_birdNames (a0 : Int32) (M : Mem) (Q : Bool → Mem → Prop) : Prop :=
  w_Tape_isName M (fun b167 M166 => ((b167 = true → w_Rd_indexOf_reader_birdNames a0 M166 (fun r169 M168 => ((¬ r169 = (-1) → Q true (si M168 c_reader Rd_found r169)) ∧ (r169 = (-1) → w_Tape_fail 2 (si M168 c_reader Rd_found r169) (fun b171 M170 => (∃ bb : Bool, (if b171 = true then (1 : Int32) else 0) = b2i bb ∧ Q bb M170)))))) ∧ (b167 = false → w_Tape_fail 1 M166 (fun b173 M172 => Q b173 M172))))
set_option maxHeartbeats 4000000 in
theorem t_Rd_isKnown_reader_birdNames {X : Cx} (hX : Cok X cX8_isKnown RX8 3 ((some .boolean)) 2 0 0) {Q : Bool → Mem → Prop} (hq : RI X 0 0 LY (bQ Q)) {M : Mem} {a0 : Int32} (h : w_Rd_isKnown_reader_birdNames a0 M Q) : Wat X 0 0 LY 0 [some (vr c_reader), some (vr c_reader_birdNames), some (vi a0)] [] M := by
  refine s_aload_n hX dX8_isKnown_0 rfl ?_
  refine s_getr hX fi_X8_22 ly_c_reader rfl dX8_isKnown_1 ?_
  refine s_cvi (as := []) (rest := []) hX (c_Tape_isName h) mv_Tape_isName wd_ml_X8_198 dX8_isKnown_4 ly_c_tape rfl rfl (Nat.le_of_ble_eq_true rfl) rfl (by decide) ⟨Nat.zero_le _, Nat.zero_le _⟩ (fun b167_ M166 h => ?_)
  obtain ⟨b167, rfl, h⟩ := h
  refine s_if_ne (tgt := 19) hX dX8_isKnown_7 (by decide) (fun c => ?_) (fun c => ?_)
  · replace h := h.1 (b2i_1 c)
    refine s_aload_n hX dX8_isKnown_19 rfl ?_
    refine s_aload_n hX dX8_isKnown_20 rfl ?_
    refine s_aload_n hX dX8_isKnown_21 rfl ?_
    refine s_iload_n hX dX8_isKnown_22 rfl ?_
    refine s_cvi (as := [vr c_reader_birdNames, vi a0]) (rest := [vr c_reader]) hX (c_Rd_indexOf_reader_birdNames h) mv_Rd_indexOf_reader_birdNames wd_ml_X8_201 dX8_isKnown_23 ly_c_reader rfl rfl (Nat.le_of_ble_eq_true rfl) rfl (by decide) ⟨Nat.zero_le _, Nat.zero_le _⟩ (fun r169 M168 h => ?_)
    refine s_puti hX fi_X8_163 fp_X8 rfl (by decide +kernel) ly_c_reader rfl dX8_isKnown_26 ?_
    refine s_aload_n hX dX8_isKnown_29 rfl ?_
    refine s_getiv (v := r169) hX fi_X8_163 ly_c_reader rfl dX8_isKnown_30 rfl ?_
    refine s_iconst (v := (-1)) hX dX8_isKnown_33 rfl ?_
    refine s_icmp_ne (tgt := 48) hX dX8_isKnown_34 (by decide) (fun c => ?_) (fun c => ?_)
    · replace h := h.1 c
      refine s_iconst (v := 1) hX dX8_isKnown_48 rfl ?_
      refine s_goto (tgt := 53) hX dX8_isKnown_49 (by decide) ?_
      exact s_zret hX true hq rfl dX8_isKnown_53 rfl h
    · replace h := h.2 c
      refine s_aload_n hX dX8_isKnown_37 rfl ?_
      refine s_getr hX fi_X8_22 ly_c_reader rfl dX8_isKnown_38 ?_
      refine s_iconst (v := 2) hX dX8_isKnown_41 rfl ?_
      refine s_cvi (as := [vi 2]) (rest := []) hX (c_Tape_fail h) mv_Tape_fail wd_ml_X8_134 dX8_isKnown_42 ly_c_tape rfl rfl (Nat.le_of_ble_eq_true rfl) rfl (by decide) ⟨Nat.zero_le _, Nat.zero_le _⟩ (fun b171_ M170 h => ?_)
      obtain ⟨b171, rfl, h⟩ := h
      have hJ : Wat X 0 0 LY 53 [some (vr c_reader), some (vr c_reader_birdNames), some (vi a0)] [vi (if b171 = true then (1 : Int32) else 0)] M170 := by
        obtain ⟨bb, hbb, h⟩ := h
        exact s_zret hX bb hq rfl dX8_isKnown_53 hbb h
      refine s_if_eq (tgt := 52) hX dX8_isKnown_45 (by decide) (fun c => ?_) (fun c => ?_)
      · rw [if_neg (by simp [b2i_0 c])] at hJ
        refine s_iconst (v := 0) hX dX8_isKnown_52 rfl ?_
        exact hJ
      · rw [if_pos (by simp [b2i_1 c])] at hJ
        refine s_iconst (v := 1) hX dX8_isKnown_48 rfl ?_
        refine s_goto (tgt := 53) hX dX8_isKnown_49 (by decide) ?_
        exact hJ
  · replace h := h.2 (b2i_0 c)
    refine s_aload_n hX dX8_isKnown_10 rfl ?_
    refine s_getr hX fi_X8_22 ly_c_reader rfl dX8_isKnown_11 ?_
    refine s_iconst (v := 1) hX dX8_isKnown_14 rfl ?_
    refine s_cvi (as := [vi 1]) (rest := []) hX (c_Tape_fail h) mv_Tape_fail wd_ml_X8_134 dX8_isKnown_15 ly_c_tape rfl rfl (Nat.le_of_ble_eq_true rfl) rfl (by decide) ⟨Nat.zero_le _, Nat.zero_le _⟩ (fun b173_ M172 h => ?_)
    obtain ⟨b173, rfl, h⟩ := h
    exact s_zret hX _ hq rfl dX8_isKnown_18 rfl h
theorem c_Rd_isKnown_reader_birdNames {a0 : Int32} {M : Mem} {Q : Bool → Mem → Prop} (h : w_Rd_isKnown_reader_birdNames a0 M Q) : CI yX8_isKnown cX8_isKnown 3 ((some .boolean)) 2 0 0 LY LY [vr c_reader, vr c_reader_birdNames, vi a0] M (bQ Q) := mk_i rfl wd_co_X8_isKnown rfl rfl (Nat.le_of_ble_eq_true rfl) (fun X hX hq => t_Rd_isKnown_reader_birdNames hX hq h)
theorem mv_Rd_isKnown_reader_birdNames : MV yX8_isKnown cX8_isKnown 3 ((some .boolean)) RX8 2 := ⟨wd_co_X8_isKnown, wd_im_X8_isKnown, wd_se_X8_isKnown, wd_in_X8, by decide +kernel, by decide⟩
def w_Rd_readCall (M : Mem) (Q : Bool → Mem → Prop) : Prop :=
  (((M.1 c_reader Rd_callCount) < 30 → w_Tape_step (si M c_reader Rd_callCount ((M.1 c_reader Rd_callCount) + 1)) (fun b165 M164 => w_Rd_isKnown_reader_birdNames (M164.1 c_draft Land_birds) M164 (fun b175 M174 => ((b175 = true → w_Tape_step M174 (fun b177 M176 => w_Rd_takeKeyword 5 M176 (fun b179 M178 => ((b179 = false → Q false M178) ∧ (b179 = true → w_Rd_isNumber 0 23 M178 (fun b181 M180 => ((b181 = true → ∀ x182 : Int32, x182 = (((M174.1 c_reader Rd_found) * 24) + (M180.1 c_tape Tape_number)) → (vp_in x182 120 ∧ (((M180.1 c_draft_times (Int32.toNatClampNeg x182)) = 0 → w_Tape_step M180 (fun b184 M183 => w_Rd_takeKeyword 8 M183 (fun b186 M185 => ((b186 = false → Q false M185) ∧ (b186 = true → w_Rd_isNumber 1 9 M185 (fun b188 M187 => ((b188 = true → (vp_in x182 120 ∧ w_Tape_step (si M187 c_draft_times (Int32.toNatClampNeg x182) (M187.1 c_tape Tape_number)) (fun b190 M189 => ((b190 = false → Q false M189) ∧ (b190 = true → w_Rd_takeEnd M189 (fun b192 M191 => (∃ bb : Bool, (if b192 = true then (1 : Int32) else 0) = b2i bb ∧ Q bb M191))))))) ∧ (b188 = false → Q false M187)))))))) ∧ (¬ (M180.1 c_draft_times (Int32.toNatClampNeg x182)) = 0 → w_Tape_fail 3 M180 (fun b194 M193 => Q b194 M193))))) ∧ (b181 = false → Q false M180)))))))) ∧ (b175 = false → Q false M174))))) ∧ (¬ (M.1 c_reader Rd_callCount) < 30 → w_Tape_fail 5 M (fun b196 M195 => Q b196 M195)))
set_option maxHeartbeats 4000000 in
theorem t_Rd_readCall {X : Cx} (hX : Cok X cX8_readCall RX8 3 ((some .boolean)) 4 0 0) {Q : Bool → Mem → Prop} (hq : RI X 0 0 LY (bQ Q)) {M : Mem} (h : w_Rd_readCall M Q) : Wat X 0 0 LY 0 [some (vr c_reader), none, none] [] M := by
  refine s_aload_n hX dX8_readCall_0 rfl ?_
  refine s_getiv (v := (M.1 c_reader Rd_callCount)) hX fi_X8_54 ly_c_reader rfl dX8_readCall_1 rfl ?_
  refine s_bipush (v := 30) hX dX8_readCall_4 rfl ?_
  refine s_icmp_lt (tgt := 18) hX dX8_readCall_6 (by decide) (fun c => ?_) (fun c => ?_)
  · replace h := h.1 c
    refine s_aload_n hX dX8_readCall_18 rfl ?_
    refine s_dup hX dX8_readCall_19 rfl ?_
    refine s_getiv (v := (M.1 c_reader Rd_callCount)) hX fi_X8_54 ly_c_reader rfl dX8_readCall_20 rfl ?_
    refine s_iconst (v := 1) hX dX8_readCall_23 rfl ?_
    refine s_iadd hX dX8_readCall_24 ?_
    refine s_puti hX fi_X8_54 fp_X8 rfl (by decide +kernel) ly_c_reader rfl dX8_readCall_25 ?_
    refine s_aload_n hX dX8_readCall_28 rfl ?_
    refine s_getr hX fi_X8_22 ly_c_reader rfl dX8_readCall_29 ?_
    refine s_cvi (as := []) (rest := []) hX (c_Tape_step h) mv_Tape_step wd_ml_X8_96 dX8_readCall_32 ly_c_tape rfl rfl (Nat.le_of_ble_eq_true rfl) rfl (by decide) ⟨Nat.zero_le _, Nat.zero_le _⟩ (fun b165_ M164 h => ?_)
    obtain ⟨b165, rfl, h⟩ := h
    refine s_pop hX dX8_readCall_35 rfl ?_
    refine s_aload_n hX dX8_readCall_36 rfl ?_
    refine s_aload_n hX dX8_readCall_37 rfl ?_
    refine s_getr hX fi_X8_15 ly_c_reader rfl dX8_readCall_38 ?_
    refine s_aload_n hX dX8_readCall_41 rfl ?_
    refine s_getr hX fi_X8_26 ly_c_reader rfl dX8_readCall_42 ?_
    refine s_getiv (v := (M164.1 c_draft Land_birds)) hX fi_X8_166 ly_c_draft rfl dX8_readCall_45 rfl ?_
    refine s_cvi (as := [vr c_reader_birdNames, vi (M164.1 c_draft Land_birds)]) (rest := []) hX (c_Rd_isKnown_reader_birdNames h) mv_Rd_isKnown_reader_birdNames wd_ml_X8_159 dX8_readCall_48 ly_c_reader rfl rfl (Nat.le_of_ble_eq_true rfl) rfl (by decide) ⟨Nat.zero_le _, Nat.zero_le _⟩ (fun b175_ M174 h => ?_)
    obtain ⟨b175, rfl, h⟩ := h
    refine s_if_ne (tgt := 56) hX dX8_readCall_51 (by decide) (fun c => ?_) (fun c => ?_)
    · replace h := h.1 (b2i_1 c)
      refine s_aload_n hX dX8_readCall_56 rfl ?_
      refine s_getiv (v := (M174.1 c_reader Rd_found)) hX fi_X8_163 ly_c_reader rfl dX8_readCall_57 rfl ?_
      refine s_istore_n (lv' := [some (vr c_reader), some (vi (M174.1 c_reader Rd_found)), none]) hX dX8_readCall_60 rfl rfl (Nat.le_of_ble_eq_true rfl) ?_
      refine s_aload_n hX dX8_readCall_61 rfl ?_
      refine s_getr hX fi_X8_22 ly_c_reader rfl dX8_readCall_62 ?_
      refine s_cvi (as := []) (rest := []) hX (c_Tape_step h) mv_Tape_step wd_ml_X8_96 dX8_readCall_65 ly_c_tape rfl rfl (Nat.le_of_ble_eq_true rfl) rfl (by decide) ⟨Nat.zero_le _, Nat.zero_le _⟩ (fun b177_ M176 h => ?_)
      obtain ⟨b177, rfl, h⟩ := h
      refine s_pop hX dX8_readCall_68 rfl ?_
      refine s_aload_n hX dX8_readCall_69 rfl ?_
      refine s_iconst (v := 5) hX dX8_readCall_70 rfl ?_
      refine s_cvi (as := [vi 5]) (rest := []) hX (c_Rd_takeKeyword h) mv_Rd_takeKeyword wd_ml_X8_82 dX8_readCall_71 ly_c_reader rfl rfl (Nat.le_of_ble_eq_true rfl) rfl (by decide) ⟨Nat.zero_le _, Nat.zero_le _⟩ (fun b179_ M178 h => ?_)
      obtain ⟨b179, rfl, h⟩ := h
      refine s_if_eq (tgt := 87) hX dX8_readCall_74 (by decide) (fun c => ?_) (fun c => ?_)
      · replace h := h.1 (b2i_0 c)
        refine s_iconst (v := 0) hX dX8_readCall_87 rfl ?_
        exact s_zret hX false hq rfl dX8_readCall_88 rfl h
      · replace h := h.2 (b2i_1 c)
        refine s_aload_n hX dX8_readCall_77 rfl ?_
        refine s_iconst (v := 0) hX dX8_readCall_78 rfl ?_
        refine s_bipush (v := 23) hX dX8_readCall_79 rfl ?_
        refine s_cvi (as := [vi 0, vi 23]) (rest := []) hX (c_Rd_isNumber h) mv_Rd_isNumber wd_ml_X8_86 dX8_readCall_81 ly_c_reader rfl rfl (Nat.le_of_ble_eq_true rfl) rfl (by decide) ⟨Nat.zero_le _, Nat.zero_le _⟩ (fun b181_ M180 h => ?_)
        obtain ⟨b181, rfl, h⟩ := h
        refine s_if_ne (tgt := 89) hX dX8_readCall_84 (by decide) (fun c => ?_) (fun c => ?_)
        · replace h := h.1 (b2i_1 c)
          refine s_iload_n hX dX8_readCall_89 rfl ?_
          refine s_bipush (v := 24) hX dX8_readCall_90 rfl ?_
          refine s_imul hX dX8_readCall_92 ?_
          refine s_aload_n hX dX8_readCall_93 rfl ?_
          refine s_getr hX fi_X8_22 ly_c_reader rfl dX8_readCall_94 ?_
          refine s_getiv (v := (M180.1 c_tape Tape_number)) hX fi_X8_90 ly_c_tape rfl dX8_readCall_97 rfl ?_
          refine s_iadd hX dX8_readCall_100 ?_
          refine s_nmi (fun x182 ex182 => ?_)
          replace h := h x182 ex182
          refine s_istore_n (lv' := [some (vr c_reader), some (vi (M174.1 c_reader Rd_found)), some (vi x182)]) hX dX8_readCall_101 rfl rfl (Nat.le_of_ble_eq_true rfl) ?_
          refine s_aload_n hX dX8_readCall_102 rfl ?_
          refine s_getr hX fi_X8_26 ly_c_reader rfl dX8_readCall_103 ?_
          refine s_getr hX fi_X8_172 ly_c_draft rfl dX8_readCall_106 ?_
          refine s_iload_n hX dX8_readCall_109 rfl ?_
          have hi := h.1
          replace h := h.2
          refine s_ialdv (v := (M180.1 c_draft_times (Int32.toNatClampNeg x182))) hX ly_c_draft_times hi dX8_readCall_110 rfl ?_
          refine s_if_eq (tgt := 123) hX dX8_readCall_111 (by decide) (fun c => ?_) (fun c => ?_)
          · replace h := h.1 c
            refine s_aload_n hX dX8_readCall_123 rfl ?_
            refine s_getr hX fi_X8_22 ly_c_reader rfl dX8_readCall_124 ?_
            refine s_cvi (as := []) (rest := []) hX (c_Tape_step h) mv_Tape_step wd_ml_X8_96 dX8_readCall_127 ly_c_tape rfl rfl (Nat.le_of_ble_eq_true rfl) rfl (by decide) ⟨Nat.zero_le _, Nat.zero_le _⟩ (fun b184_ M183 h => ?_)
            obtain ⟨b184, rfl, h⟩ := h
            refine s_pop hX dX8_readCall_130 rfl ?_
            refine s_aload_n hX dX8_readCall_131 rfl ?_
            refine s_bipush (v := 8) hX dX8_readCall_132 rfl ?_
            refine s_cvi (as := [vi 8]) (rest := []) hX (c_Rd_takeKeyword h) mv_Rd_takeKeyword wd_ml_X8_82 dX8_readCall_134 ly_c_reader rfl rfl (Nat.le_of_ble_eq_true rfl) rfl (by decide) ⟨Nat.zero_le _, Nat.zero_le _⟩ (fun b186_ M185 h => ?_)
            obtain ⟨b186, rfl, h⟩ := h
            refine s_if_eq (tgt := 150) hX dX8_readCall_137 (by decide) (fun c => ?_) (fun c => ?_)
            · replace h := h.1 (b2i_0 c)
              refine s_iconst (v := 0) hX dX8_readCall_150 rfl ?_
              exact s_zret hX false hq rfl dX8_readCall_151 rfl h
            · replace h := h.2 (b2i_1 c)
              refine s_aload_n hX dX8_readCall_140 rfl ?_
              refine s_iconst (v := 1) hX dX8_readCall_141 rfl ?_
              refine s_bipush (v := 9) hX dX8_readCall_142 rfl ?_
              refine s_cvi (as := [vi 1, vi 9]) (rest := []) hX (c_Rd_isNumber h) mv_Rd_isNumber wd_ml_X8_86 dX8_readCall_144 ly_c_reader rfl rfl (Nat.le_of_ble_eq_true rfl) rfl (by decide) ⟨Nat.zero_le _, Nat.zero_le _⟩ (fun b188_ M187 h => ?_)
              obtain ⟨b188, rfl, h⟩ := h
              refine s_if_ne (tgt := 152) hX dX8_readCall_147 (by decide) (fun c => ?_) (fun c => ?_)
              · replace h := h.1 (b2i_1 c)
                refine s_aload_n hX dX8_readCall_152 rfl ?_
                refine s_getr hX fi_X8_26 ly_c_reader rfl dX8_readCall_153 ?_
                refine s_getr hX fi_X8_172 ly_c_draft rfl dX8_readCall_156 ?_
                refine s_iload_n hX dX8_readCall_159 rfl ?_
                refine s_aload_n hX dX8_readCall_160 rfl ?_
                refine s_getr hX fi_X8_22 ly_c_reader rfl dX8_readCall_161 ?_
                refine s_getiv (v := (M187.1 c_tape Tape_number)) hX fi_X8_90 ly_c_tape rfl dX8_readCall_164 rfl ?_
                have hi := h.1
                replace h := h.2
                refine s_iast hX ly_c_draft_times hi dX8_readCall_167 ?_
                refine s_aload_n hX dX8_readCall_168 rfl ?_
                refine s_getr hX fi_X8_22 ly_c_reader rfl dX8_readCall_169 ?_
                refine s_cvi (as := []) (rest := []) hX (c_Tape_step h) mv_Tape_step wd_ml_X8_96 dX8_readCall_172 ly_c_tape rfl rfl (Nat.le_of_ble_eq_true rfl) rfl (by decide) ⟨Nat.zero_le _, Nat.zero_le _⟩ (fun b190_ M189 h => ?_)
                obtain ⟨b190, rfl, h⟩ := h
                refine s_if_eq (tgt := 189) hX dX8_readCall_175 (by decide) (fun c => ?_) (fun c => ?_)
                · replace h := h.1 (b2i_0 c)
                  refine s_iconst (v := 0) hX dX8_readCall_189 rfl ?_
                  exact s_zret hX false hq rfl dX8_readCall_190 rfl h
                · replace h := h.2 (b2i_1 c)
                  refine s_aload_n hX dX8_readCall_178 rfl ?_
                  refine s_cvi (as := []) (rest := []) hX (c_Rd_takeEnd h) mv_Rd_takeEnd wd_ml_X8_102 dX8_readCall_179 ly_c_reader rfl rfl (Nat.le_of_ble_eq_true rfl) rfl (by decide) ⟨Nat.zero_le _, Nat.zero_le _⟩ (fun b192_ M191 h => ?_)
                  obtain ⟨b192, rfl, h⟩ := h
                  have hJ : Wat X 0 0 LY 190 [some (vr c_reader), some (vi (M174.1 c_reader Rd_found)), some (vi x182)] [vi (if b192 = true then (1 : Int32) else 0)] M191 := by
                    obtain ⟨bb, hbb, h⟩ := h
                    exact s_zret hX bb hq rfl dX8_readCall_190 hbb h
                  refine s_if_eq (tgt := 189) hX dX8_readCall_182 (by decide) (fun c => ?_) (fun c => ?_)
                  · rw [if_neg (by simp [b2i_0 c])] at hJ
                    refine s_iconst (v := 0) hX dX8_readCall_189 rfl ?_
                    exact hJ
                  · rw [if_pos (by simp [b2i_1 c])] at hJ
                    refine s_iconst (v := 1) hX dX8_readCall_185 rfl ?_
                    refine s_goto (tgt := 190) hX dX8_readCall_186 (by decide) ?_
                    exact hJ
              · replace h := h.2 (b2i_0 c)
                refine s_iconst (v := 0) hX dX8_readCall_150 rfl ?_
                exact s_zret hX false hq rfl dX8_readCall_151 rfl h
          · replace h := h.2 c
            refine s_aload_n hX dX8_readCall_114 rfl ?_
            refine s_getr hX fi_X8_22 ly_c_reader rfl dX8_readCall_115 ?_
            refine s_iconst (v := 3) hX dX8_readCall_118 rfl ?_
            refine s_cvi (as := [vi 3]) (rest := []) hX (c_Tape_fail h) mv_Tape_fail wd_ml_X8_134 dX8_readCall_119 ly_c_tape rfl rfl (Nat.le_of_ble_eq_true rfl) rfl (by decide) ⟨Nat.zero_le _, Nat.zero_le _⟩ (fun b194_ M193 h => ?_)
            obtain ⟨b194, rfl, h⟩ := h
            exact s_zret hX _ hq rfl dX8_readCall_122 rfl h
        · replace h := h.2 (b2i_0 c)
          refine s_iconst (v := 0) hX dX8_readCall_87 rfl ?_
          exact s_zret hX false hq rfl dX8_readCall_88 rfl h
    · replace h := h.2 (b2i_0 c)
      refine s_iconst (v := 0) hX dX8_readCall_54 rfl ?_
      exact s_zret hX false hq rfl dX8_readCall_55 rfl h
  · replace h := h.2 c
    refine s_aload_n hX dX8_readCall_9 rfl ?_
    refine s_getr hX fi_X8_22 ly_c_reader rfl dX8_readCall_10 ?_
    refine s_iconst (v := 5) hX dX8_readCall_13 rfl ?_
    refine s_cvi (as := [vi 5]) (rest := []) hX (c_Tape_fail h) mv_Tape_fail wd_ml_X8_134 dX8_readCall_14 ly_c_tape rfl rfl (Nat.le_of_ble_eq_true rfl) rfl (by decide) ⟨Nat.zero_le _, Nat.zero_le _⟩ (fun b196_ M195 h => ?_)
    obtain ⟨b196, rfl, h⟩ := h
    exact s_zret hX _ hq rfl dX8_readCall_17 rfl h
theorem c_Rd_readCall {M : Mem} {Q : Bool → Mem → Prop} (h : w_Rd_readCall M Q) : CI yX8_readCall cX8_readCall 3 ((some .boolean)) 4 0 0 LY LY [vr c_reader] M (bQ Q) := mk_i rfl wd_co_X8_readCall rfl rfl (Nat.le_of_ble_eq_true rfl) (fun X hX hq => t_Rd_readCall hX hq h)
theorem mv_Rd_readCall : MV yX8_readCall cX8_readCall 3 ((some .boolean)) RX8 0 := ⟨wd_co_X8_readCall, wd_im_X8_readCall, wd_se_X8_readCall, wd_in_X8, by decide +kernel, by decide⟩
def w_LRd_stepHere (a0 : Int32) (M : Mem) (Q : Int32 → Mem → Prop) : Prop :=
  ((a0 = 0 → ((¬ (M.1 c_tape Tape_keyword) = 18 → ((¬ (M.1 c_tape Tape_keyword) = 19 → Q 0 M) ∧ ((M.1 c_tape Tape_keyword) = 19 → Q (-12) M))) ∧ ((M.1 c_tape Tape_keyword) = 18 → Q (-11) M))) ∧ (a0 = 1 → ((¬ (M.1 c_tape Tape_token) = 60 → ((¬ (M.1 c_tape Tape_token) = 61 → Q 0 M) ∧ ((M.1 c_tape Tape_token) = 61 → Q (-10) M))) ∧ ((M.1 c_tape Tape_token) = 60 → Q (-9) M))) ∧ (a0 = 2 → ((¬ (M.1 c_tape Tape_token) = 43 → ((¬ (M.1 c_tape Tape_token) = 45 → Q 0 M) ∧ ((M.1 c_tape Tape_token) = 45 → Q (-8) M))) ∧ ((M.1 c_tape Tape_token) = 43 → Q (-7) M))) ∧ (¬ a0 = 0 → ¬ a0 = 1 → ¬ a0 = 2 → Q (if (M.1 c_tape Tape_token) = 42 then ((-6) : Int32) else 0) M))
set_option maxHeartbeats 4000000 in
theorem t_LRd_stepHere {X : Cx} (hX : Cok X cX7_stepHere RX7 2 ((some .int)) 1 0 0) {Q : Int32 → Mem → Prop} (hq : RI X 0 0 LY Q) {M : Mem} {a0 : Int32} (h : w_LRd_stepHere a0 M Q) : Wat X 0 0 LY 0 [some (vr c_laws), some (vi a0)] [] M := by
  refine s_iload_n hX dX7_stepHere_0 rfl ?_
  by_cases c0 : a0 = 0
  · replace h := h.1 c0
    refine s_tableIn (tgt := 28) (off := 27) hX dX7_stepHere_1 (by rw [c0]; decide) (by rw [c0]; decide) (by rw [c0]; rfl) (by decide) ?_
    refine s_aload_n hX dX7_stepHere_28 rfl ?_
    refine s_getr hX fi_X7_9 ly_c_laws rfl dX7_stepHere_29 ?_
    refine s_getiv (v := (M.1 c_tape Tape_keyword)) hX fi_X7_43 ly_c_tape rfl dX7_stepHere_32 rfl ?_
    refine s_bipush (v := 18) hX dX7_stepHere_35 rfl ?_
    refine s_icmp_ne (tgt := 45) hX dX7_stepHere_37 (by decide) (fun c => ?_) (fun c => ?_)
    · replace h := h.1 c
      refine s_aload_n hX dX7_stepHere_45 rfl ?_
      refine s_getr hX fi_X7_9 ly_c_laws rfl dX7_stepHere_46 ?_
      refine s_getiv (v := (M.1 c_tape Tape_keyword)) hX fi_X7_43 ly_c_tape rfl dX7_stepHere_49 rfl ?_
      refine s_bipush (v := 19) hX dX7_stepHere_52 rfl ?_
      refine s_icmp_ne (tgt := 62) hX dX7_stepHere_54 (by decide) (fun c => ?_) (fun c => ?_)
      · replace h := h.1 c
        refine s_iconst (v := 0) hX dX7_stepHere_62 rfl ?_
        exact s_iret hX hq rfl dX7_stepHere_63 h
      · replace h := h.2 c
        refine s_bipush (v := (-12)) hX dX7_stepHere_57 rfl ?_
        refine s_goto (tgt := 63) hX dX7_stepHere_59 (by decide) ?_
        exact s_iret hX hq rfl dX7_stepHere_63 h
    · replace h := h.2 c
      refine s_bipush (v := (-11)) hX dX7_stepHere_40 rfl ?_
      refine s_goto (tgt := 63) hX dX7_stepHere_42 (by decide) ?_
      exact s_iret hX hq rfl dX7_stepHere_63 h
  by_cases c1 : a0 = 1
  · replace h := h.2.1 c1
    refine s_tableIn (tgt := 64) (off := 63) hX dX7_stepHere_1 (by rw [c1]; decide) (by rw [c1]; decide) (by rw [c1]; rfl) (by decide) ?_
    refine s_aload_n hX dX7_stepHere_64 rfl ?_
    refine s_getr hX fi_X7_9 ly_c_laws rfl dX7_stepHere_65 ?_
    refine s_getiv (v := (M.1 c_tape Tape_token)) hX fi_X7_49 ly_c_tape rfl dX7_stepHere_68 rfl ?_
    refine s_bipush (v := 60) hX dX7_stepHere_71 rfl ?_
    refine s_icmp_ne (tgt := 81) hX dX7_stepHere_73 (by decide) (fun c => ?_) (fun c => ?_)
    · replace h := h.1 c
      refine s_aload_n hX dX7_stepHere_81 rfl ?_
      refine s_getr hX fi_X7_9 ly_c_laws rfl dX7_stepHere_82 ?_
      refine s_getiv (v := (M.1 c_tape Tape_token)) hX fi_X7_49 ly_c_tape rfl dX7_stepHere_85 rfl ?_
      refine s_bipush (v := 61) hX dX7_stepHere_88 rfl ?_
      refine s_icmp_ne (tgt := 98) hX dX7_stepHere_90 (by decide) (fun c => ?_) (fun c => ?_)
      · replace h := h.1 c
        refine s_iconst (v := 0) hX dX7_stepHere_98 rfl ?_
        exact s_iret hX hq rfl dX7_stepHere_99 h
      · replace h := h.2 c
        refine s_bipush (v := (-10)) hX dX7_stepHere_93 rfl ?_
        refine s_goto (tgt := 99) hX dX7_stepHere_95 (by decide) ?_
        exact s_iret hX hq rfl dX7_stepHere_99 h
    · replace h := h.2 c
      refine s_bipush (v := (-9)) hX dX7_stepHere_76 rfl ?_
      refine s_goto (tgt := 99) hX dX7_stepHere_78 (by decide) ?_
      exact s_iret hX hq rfl dX7_stepHere_99 h
  by_cases c2 : a0 = 2
  · replace h := h.2.2.1 c2
    refine s_tableIn (tgt := 100) (off := 99) hX dX7_stepHere_1 (by rw [c2]; decide) (by rw [c2]; decide) (by rw [c2]; rfl) (by decide) ?_
    refine s_aload_n hX dX7_stepHere_100 rfl ?_
    refine s_getr hX fi_X7_9 ly_c_laws rfl dX7_stepHere_101 ?_
    refine s_getiv (v := (M.1 c_tape Tape_token)) hX fi_X7_49 ly_c_tape rfl dX7_stepHere_104 rfl ?_
    refine s_bipush (v := 43) hX dX7_stepHere_107 rfl ?_
    refine s_icmp_ne (tgt := 117) hX dX7_stepHere_109 (by decide) (fun c => ?_) (fun c => ?_)
    · replace h := h.1 c
      refine s_aload_n hX dX7_stepHere_117 rfl ?_
      refine s_getr hX fi_X7_9 ly_c_laws rfl dX7_stepHere_118 ?_
      refine s_getiv (v := (M.1 c_tape Tape_token)) hX fi_X7_49 ly_c_tape rfl dX7_stepHere_121 rfl ?_
      refine s_bipush (v := 45) hX dX7_stepHere_124 rfl ?_
      refine s_icmp_ne (tgt := 134) hX dX7_stepHere_126 (by decide) (fun c => ?_) (fun c => ?_)
      · replace h := h.1 c
        refine s_iconst (v := 0) hX dX7_stepHere_134 rfl ?_
        exact s_iret hX hq rfl dX7_stepHere_135 h
      · replace h := h.2 c
        refine s_bipush (v := (-8)) hX dX7_stepHere_129 rfl ?_
        refine s_goto (tgt := 135) hX dX7_stepHere_131 (by decide) ?_
        exact s_iret hX hq rfl dX7_stepHere_135 h
    · replace h := h.2 c
      refine s_bipush (v := (-7)) hX dX7_stepHere_112 rfl ?_
      refine s_goto (tgt := 135) hX dX7_stepHere_114 (by decide) ?_
      exact s_iret hX hq rfl dX7_stepHere_135 h
  replace h := h.2.2.2 c0 c1 c2
  have n0 := lv_neT (a := 0) c0 rfl
  have n1 := lv_neT (a := 1) c1 rfl
  have n2 := lv_neT (a := 2) c2 rfl
  refine s_tableOut (tgt := 136) hX dX7_stepHere_1 (by omega) (by decide) ?_
  refine s_aload_n hX dX7_stepHere_136 rfl ?_
  refine s_getr hX fi_X7_9 ly_c_laws rfl dX7_stepHere_137 ?_
  refine s_getiv (v := (M.1 c_tape Tape_token)) hX fi_X7_49 ly_c_tape rfl dX7_stepHere_140 rfl ?_
  refine s_bipush (v := 42) hX dX7_stepHere_143 rfl ?_
  have hJ : Wat X 0 0 LY 154 [some (vr c_laws), some (vi a0)] [vi (if (M.1 c_tape Tape_token) = 42 then ((-6) : Int32) else 0)] M := by
    exact s_iret hX hq rfl dX7_stepHere_154 h
  refine s_icmp_ne (tgt := 153) hX dX7_stepHere_145 (by decide) (fun c => ?_) (fun c => ?_)
  · rw [if_neg c] at hJ
    refine s_iconst (v := 0) hX dX7_stepHere_153 rfl ?_
    exact hJ
  · rw [if_pos c] at hJ
    refine s_bipush (v := (-6)) hX dX7_stepHere_148 rfl ?_
    refine s_goto (tgt := 154) hX dX7_stepHere_150 (by decide) ?_
    exact hJ
theorem c_LRd_stepHere {a0 : Int32} {M : Mem} {Q : Int32 → Mem → Prop} (h : w_LRd_stepHere a0 M Q) : CI yX7_stepHere cX7_stepHere 2 ((some .int)) 1 0 0 LY LY [vr c_laws, vi a0] M Q := mk_i rfl wd_co_X7_stepHere rfl rfl (Nat.le_of_ble_eq_true rfl) (fun X hX hq => t_LRd_stepHere hX hq h)
theorem mv_LRd_stepHere : MV yX7_stepHere cX7_stepHere 2 ((some .int)) RX7 1 := ⟨wd_co_X7_stepHere, wd_im_X7_stepHere, wd_se_X7_stepHere, wd_in_X7, by decide +kernel, by decide⟩
def w_LRd_factHere (M : Mem) (Q : Int32 → Mem → Prop) : Prop :=
  (((M.1 c_tape Tape_keyword) = 5 → Q (-1) M) ∧ ((M.1 c_tape Tape_keyword) = 6 → Q 0 M) ∧ ((M.1 c_tape Tape_keyword) = 7 → Q 0 M) ∧ ((M.1 c_tape Tape_keyword) = 8 → Q (if (M.1 c_laws LRd_owing) = 0 then (0 : Int32) else (-4)) M) ∧ ((M.1 c_tape Tape_keyword) = 9 → Q 0 M) ∧ ((M.1 c_tape Tape_keyword) = 10 → Q 0 M) ∧ ((M.1 c_tape Tape_keyword) = 11 → Q 0 M) ∧ ((M.1 c_tape Tape_keyword) = 12 → Q 0 M) ∧ ((M.1 c_tape Tape_keyword) = 13 → Q 0 M) ∧ ((M.1 c_tape Tape_keyword) = 14 → Q 0 M) ∧ ((M.1 c_tape Tape_keyword) = 15 → Q 0 M) ∧ ((M.1 c_tape Tape_keyword) = 16 → Q 0 M) ∧ ((M.1 c_tape Tape_keyword) = 17 → Q 0 M) ∧ ((M.1 c_tape Tape_keyword) = 18 → Q 0 M) ∧ ((M.1 c_tape Tape_keyword) = 19 → Q 0 M) ∧ ((M.1 c_tape Tape_keyword) = 20 → Q (if (M.1 c_laws LRd_owing) = 0 then (0 : Int32) else (-2)) M) ∧ ((M.1 c_tape Tape_keyword) = 21 → Q (if (M.1 c_laws LRd_owing) = 0 then (0 : Int32) else (-3)) M) ∧ ((M.1 c_tape Tape_keyword) = 22 → Q (if (M.1 c_laws LRd_owing) = 0 then ((-2) : Int32) else 0) M) ∧ ((M.1 c_tape Tape_keyword) = 23 → Q (if (M.1 c_laws LRd_owing) = 0 then ((-3) : Int32) else 0) M) ∧ (¬ (M.1 c_tape Tape_keyword) = 5 → ¬ (M.1 c_tape Tape_keyword) = 6 → ¬ (M.1 c_tape Tape_keyword) = 7 → ¬ (M.1 c_tape Tape_keyword) = 8 → ¬ (M.1 c_tape Tape_keyword) = 9 → ¬ (M.1 c_tape Tape_keyword) = 10 → ¬ (M.1 c_tape Tape_keyword) = 11 → ¬ (M.1 c_tape Tape_keyword) = 12 → ¬ (M.1 c_tape Tape_keyword) = 13 → ¬ (M.1 c_tape Tape_keyword) = 14 → ¬ (M.1 c_tape Tape_keyword) = 15 → ¬ (M.1 c_tape Tape_keyword) = 16 → ¬ (M.1 c_tape Tape_keyword) = 17 → ¬ (M.1 c_tape Tape_keyword) = 18 → ¬ (M.1 c_tape Tape_keyword) = 19 → ¬ (M.1 c_tape Tape_keyword) = 20 → ¬ (M.1 c_tape Tape_keyword) = 21 → ¬ (M.1 c_tape Tape_keyword) = 22 → ¬ (M.1 c_tape Tape_keyword) = 23 → Q 0 M))
set_option maxHeartbeats 4000000 in
theorem t_LRd_factHere {X : Cx} (hX : Cok X cX7_factHere RX7 1 ((some .int)) 1 0 0) {Q : Int32 → Mem → Prop} (hq : RI X 0 0 LY Q) {M : Mem} (h : w_LRd_factHere M Q) : Wat X 0 0 LY 0 [some (vr c_laws)] [] M := by
  refine s_aload_n hX dX7_factHere_0 rfl ?_
  refine s_getr hX fi_X7_9 ly_c_laws rfl dX7_factHere_1 ?_
  refine s_getiv (v := (M.1 c_tape Tape_keyword)) hX fi_X7_43 ly_c_tape rfl dX7_factHere_4 rfl ?_
  by_cases c0 : (M.1 c_tape Tape_keyword) = 5
  · replace h := h.1 c0
    refine s_tableIn (tgt := 96) (off := 89) hX dX7_factHere_7 (by rw [c0]; decide) (by rw [c0]; decide) (by rw [c0]; rfl) (by decide) ?_
    refine s_iconst (v := (-1)) hX dX7_factHere_96 rfl ?_
    exact s_iret hX hq rfl dX7_factHere_97 h
  by_cases c1 : (M.1 c_tape Tape_keyword) = 6
  · replace h := h.2.1 c1
    refine s_tableIn (tgt := 168) (off := 161) hX dX7_factHere_7 (by rw [c1]; decide) (by rw [c1]; decide) (by rw [c1]; rfl) (by decide) ?_
    refine s_iconst (v := 0) hX dX7_factHere_168 rfl ?_
    exact s_iret hX hq rfl dX7_factHere_169 h
  by_cases c2 : (M.1 c_tape Tape_keyword) = 7
  · replace h := h.2.2.1 c2
    refine s_tableIn (tgt := 168) (off := 161) hX dX7_factHere_7 (by rw [c2]; decide) (by rw [c2]; decide) (by rw [c2]; rfl) (by decide) ?_
    refine s_iconst (v := 0) hX dX7_factHere_168 rfl ?_
    exact s_iret hX hq rfl dX7_factHere_169 h
  by_cases c3 : (M.1 c_tape Tape_keyword) = 8
  · replace h := h.2.2.2.1 c3
    refine s_tableIn (tgt := 126) (off := 119) hX dX7_factHere_7 (by rw [c3]; decide) (by rw [c3]; decide) (by rw [c3]; rfl) (by decide) ?_
    refine s_aload_n hX dX7_factHere_126 rfl ?_
    refine s_getiv (v := (M.1 c_laws LRd_owing)) hX fi_X7_64 ly_c_laws rfl dX7_factHere_127 rfl ?_
    have hJ : Wat X 0 0 LY 139 [some (vr c_laws)] [vi (if (M.1 c_laws LRd_owing) = 0 then (0 : Int32) else (-4))] M := by
      exact s_iret hX hq rfl dX7_factHere_139 h
    refine s_if_eq (tgt := 138) hX dX7_factHere_130 (by decide) (fun c => ?_) (fun c => ?_)
    · rw [if_pos c] at hJ
      refine s_iconst (v := 0) hX dX7_factHere_138 rfl ?_
      exact hJ
    · rw [if_neg c] at hJ
      refine s_bipush (v := (-4)) hX dX7_factHere_133 rfl ?_
      refine s_goto (tgt := 139) hX dX7_factHere_135 (by decide) ?_
      exact hJ
  by_cases c4 : (M.1 c_tape Tape_keyword) = 9
  · replace h := h.2.2.2.2.1 c4
    refine s_tableIn (tgt := 168) (off := 161) hX dX7_factHere_7 (by rw [c4]; decide) (by rw [c4]; decide) (by rw [c4]; rfl) (by decide) ?_
    refine s_iconst (v := 0) hX dX7_factHere_168 rfl ?_
    exact s_iret hX hq rfl dX7_factHere_169 h
  by_cases c5 : (M.1 c_tape Tape_keyword) = 10
  · replace h := h.2.2.2.2.2.1 c5
    refine s_tableIn (tgt := 168) (off := 161) hX dX7_factHere_7 (by rw [c5]; decide) (by rw [c5]; decide) (by rw [c5]; rfl) (by decide) ?_
    refine s_iconst (v := 0) hX dX7_factHere_168 rfl ?_
    exact s_iret hX hq rfl dX7_factHere_169 h
  by_cases c6 : (M.1 c_tape Tape_keyword) = 11
  · replace h := h.2.2.2.2.2.2.1 c6
    refine s_tableIn (tgt := 168) (off := 161) hX dX7_factHere_7 (by rw [c6]; decide) (by rw [c6]; decide) (by rw [c6]; rfl) (by decide) ?_
    refine s_iconst (v := 0) hX dX7_factHere_168 rfl ?_
    exact s_iret hX hq rfl dX7_factHere_169 h
  by_cases c7 : (M.1 c_tape Tape_keyword) = 12
  · replace h := h.2.2.2.2.2.2.2.1 c7
    refine s_tableIn (tgt := 168) (off := 161) hX dX7_factHere_7 (by rw [c7]; decide) (by rw [c7]; decide) (by rw [c7]; rfl) (by decide) ?_
    refine s_iconst (v := 0) hX dX7_factHere_168 rfl ?_
    exact s_iret hX hq rfl dX7_factHere_169 h
  by_cases c8 : (M.1 c_tape Tape_keyword) = 13
  · replace h := h.2.2.2.2.2.2.2.2.1 c8
    refine s_tableIn (tgt := 168) (off := 161) hX dX7_factHere_7 (by rw [c8]; decide) (by rw [c8]; decide) (by rw [c8]; rfl) (by decide) ?_
    refine s_iconst (v := 0) hX dX7_factHere_168 rfl ?_
    exact s_iret hX hq rfl dX7_factHere_169 h
  by_cases c9 : (M.1 c_tape Tape_keyword) = 14
  · replace h := h.2.2.2.2.2.2.2.2.2.1 c9
    refine s_tableIn (tgt := 168) (off := 161) hX dX7_factHere_7 (by rw [c9]; decide) (by rw [c9]; decide) (by rw [c9]; rfl) (by decide) ?_
    refine s_iconst (v := 0) hX dX7_factHere_168 rfl ?_
    exact s_iret hX hq rfl dX7_factHere_169 h
  by_cases c10 : (M.1 c_tape Tape_keyword) = 15
  · replace h := h.2.2.2.2.2.2.2.2.2.2.1 c10
    refine s_tableIn (tgt := 168) (off := 161) hX dX7_factHere_7 (by rw [c10]; decide) (by rw [c10]; decide) (by rw [c10]; rfl) (by decide) ?_
    refine s_iconst (v := 0) hX dX7_factHere_168 rfl ?_
    exact s_iret hX hq rfl dX7_factHere_169 h
  by_cases c11 : (M.1 c_tape Tape_keyword) = 16
  · replace h := h.2.2.2.2.2.2.2.2.2.2.2.1 c11
    refine s_tableIn (tgt := 168) (off := 161) hX dX7_factHere_7 (by rw [c11]; decide) (by rw [c11]; decide) (by rw [c11]; rfl) (by decide) ?_
    refine s_iconst (v := 0) hX dX7_factHere_168 rfl ?_
    exact s_iret hX hq rfl dX7_factHere_169 h
  by_cases c12 : (M.1 c_tape Tape_keyword) = 17
  · replace h := h.2.2.2.2.2.2.2.2.2.2.2.2.1 c12
    refine s_tableIn (tgt := 168) (off := 161) hX dX7_factHere_7 (by rw [c12]; decide) (by rw [c12]; decide) (by rw [c12]; rfl) (by decide) ?_
    refine s_iconst (v := 0) hX dX7_factHere_168 rfl ?_
    exact s_iret hX hq rfl dX7_factHere_169 h
  by_cases c13 : (M.1 c_tape Tape_keyword) = 18
  · replace h := h.2.2.2.2.2.2.2.2.2.2.2.2.2.1 c13
    refine s_tableIn (tgt := 168) (off := 161) hX dX7_factHere_7 (by rw [c13]; decide) (by rw [c13]; decide) (by rw [c13]; rfl) (by decide) ?_
    refine s_iconst (v := 0) hX dX7_factHere_168 rfl ?_
    exact s_iret hX hq rfl dX7_factHere_169 h
  by_cases c14 : (M.1 c_tape Tape_keyword) = 19
  · replace h := h.2.2.2.2.2.2.2.2.2.2.2.2.2.2.1 c14
    refine s_tableIn (tgt := 168) (off := 161) hX dX7_factHere_7 (by rw [c14]; decide) (by rw [c14]; decide) (by rw [c14]; rfl) (by decide) ?_
    refine s_iconst (v := 0) hX dX7_factHere_168 rfl ?_
    exact s_iret hX hq rfl dX7_factHere_169 h
  by_cases c15 : (M.1 c_tape Tape_keyword) = 20
  · replace h := h.2.2.2.2.2.2.2.2.2.2.2.2.2.2.2.1 c15
    refine s_tableIn (tgt := 98) (off := 91) hX dX7_factHere_7 (by rw [c15]; decide) (by rw [c15]; decide) (by rw [c15]; rfl) (by decide) ?_
    refine s_aload_n hX dX7_factHere_98 rfl ?_
    refine s_getiv (v := (M.1 c_laws LRd_owing)) hX fi_X7_64 ly_c_laws rfl dX7_factHere_99 rfl ?_
    have hJ : Wat X 0 0 LY 111 [some (vr c_laws)] [vi (if (M.1 c_laws LRd_owing) = 0 then (0 : Int32) else (-2))] M := by
      exact s_iret hX hq rfl dX7_factHere_111 h
    refine s_if_eq (tgt := 110) hX dX7_factHere_102 (by decide) (fun c => ?_) (fun c => ?_)
    · rw [if_pos c] at hJ
      refine s_iconst (v := 0) hX dX7_factHere_110 rfl ?_
      exact hJ
    · rw [if_neg c] at hJ
      refine s_bipush (v := (-2)) hX dX7_factHere_105 rfl ?_
      refine s_goto (tgt := 111) hX dX7_factHere_107 (by decide) ?_
      exact hJ
  by_cases c16 : (M.1 c_tape Tape_keyword) = 21
  · replace h := h.2.2.2.2.2.2.2.2.2.2.2.2.2.2.2.2.1 c16
    refine s_tableIn (tgt := 112) (off := 105) hX dX7_factHere_7 (by rw [c16]; decide) (by rw [c16]; decide) (by rw [c16]; rfl) (by decide) ?_
    refine s_aload_n hX dX7_factHere_112 rfl ?_
    refine s_getiv (v := (M.1 c_laws LRd_owing)) hX fi_X7_64 ly_c_laws rfl dX7_factHere_113 rfl ?_
    have hJ : Wat X 0 0 LY 125 [some (vr c_laws)] [vi (if (M.1 c_laws LRd_owing) = 0 then (0 : Int32) else (-3))] M := by
      exact s_iret hX hq rfl dX7_factHere_125 h
    refine s_if_eq (tgt := 124) hX dX7_factHere_116 (by decide) (fun c => ?_) (fun c => ?_)
    · rw [if_pos c] at hJ
      refine s_iconst (v := 0) hX dX7_factHere_124 rfl ?_
      exact hJ
    · rw [if_neg c] at hJ
      refine s_bipush (v := (-3)) hX dX7_factHere_119 rfl ?_
      refine s_goto (tgt := 125) hX dX7_factHere_121 (by decide) ?_
      exact hJ
  by_cases c17 : (M.1 c_tape Tape_keyword) = 22
  · replace h := h.2.2.2.2.2.2.2.2.2.2.2.2.2.2.2.2.2.1 c17
    refine s_tableIn (tgt := 140) (off := 133) hX dX7_factHere_7 (by rw [c17]; decide) (by rw [c17]; decide) (by rw [c17]; rfl) (by decide) ?_
    refine s_aload_n hX dX7_factHere_140 rfl ?_
    refine s_getiv (v := (M.1 c_laws LRd_owing)) hX fi_X7_64 ly_c_laws rfl dX7_factHere_141 rfl ?_
    have hJ : Wat X 0 0 LY 153 [some (vr c_laws)] [vi (if (M.1 c_laws LRd_owing) = 0 then ((-2) : Int32) else 0)] M := by
      exact s_iret hX hq rfl dX7_factHere_153 h
    refine s_if_eq (tgt := 151) hX dX7_factHere_144 (by decide) (fun c => ?_) (fun c => ?_)
    · rw [if_pos c] at hJ
      refine s_bipush (v := (-2)) hX dX7_factHere_151 rfl ?_
      exact hJ
    · rw [if_neg c] at hJ
      refine s_iconst (v := 0) hX dX7_factHere_147 rfl ?_
      refine s_goto (tgt := 153) hX dX7_factHere_148 (by decide) ?_
      exact hJ
  by_cases c18 : (M.1 c_tape Tape_keyword) = 23
  · replace h := h.2.2.2.2.2.2.2.2.2.2.2.2.2.2.2.2.2.2.1 c18
    refine s_tableIn (tgt := 154) (off := 147) hX dX7_factHere_7 (by rw [c18]; decide) (by rw [c18]; decide) (by rw [c18]; rfl) (by decide) ?_
    refine s_aload_n hX dX7_factHere_154 rfl ?_
    refine s_getiv (v := (M.1 c_laws LRd_owing)) hX fi_X7_64 ly_c_laws rfl dX7_factHere_155 rfl ?_
    have hJ : Wat X 0 0 LY 167 [some (vr c_laws)] [vi (if (M.1 c_laws LRd_owing) = 0 then ((-3) : Int32) else 0)] M := by
      exact s_iret hX hq rfl dX7_factHere_167 h
    refine s_if_eq (tgt := 165) hX dX7_factHere_158 (by decide) (fun c => ?_) (fun c => ?_)
    · rw [if_pos c] at hJ
      refine s_bipush (v := (-3)) hX dX7_factHere_165 rfl ?_
      exact hJ
    · rw [if_neg c] at hJ
      refine s_iconst (v := 0) hX dX7_factHere_161 rfl ?_
      refine s_goto (tgt := 167) hX dX7_factHere_162 (by decide) ?_
      exact hJ
  replace h := h.2.2.2.2.2.2.2.2.2.2.2.2.2.2.2.2.2.2.2 c0 c1 c2 c3 c4 c5 c6 c7 c8 c9 c10 c11 c12 c13 c14 c15 c16 c17 c18
  have n0 := lv_neT (a := 5) c0 rfl
  have n1 := lv_neT (a := 6) c1 rfl
  have n2 := lv_neT (a := 7) c2 rfl
  have n3 := lv_neT (a := 8) c3 rfl
  have n4 := lv_neT (a := 9) c4 rfl
  have n5 := lv_neT (a := 10) c5 rfl
  have n6 := lv_neT (a := 11) c6 rfl
  have n7 := lv_neT (a := 12) c7 rfl
  have n8 := lv_neT (a := 13) c8 rfl
  have n9 := lv_neT (a := 14) c9 rfl
  have n10 := lv_neT (a := 15) c10 rfl
  have n11 := lv_neT (a := 16) c11 rfl
  have n12 := lv_neT (a := 17) c12 rfl
  have n13 := lv_neT (a := 18) c13 rfl
  have n14 := lv_neT (a := 19) c14 rfl
  have n15 := lv_neT (a := 20) c15 rfl
  have n16 := lv_neT (a := 21) c16 rfl
  have n17 := lv_neT (a := 22) c17 rfl
  have n18 := lv_neT (a := 23) c18 rfl
  refine s_tableOut (tgt := 168) hX dX7_factHere_7 (by omega) (by decide) ?_
  refine s_iconst (v := 0) hX dX7_factHere_168 rfl ?_
  exact s_iret hX hq rfl dX7_factHere_169 h
theorem c_LRd_factHere {M : Mem} {Q : Int32 → Mem → Prop} (h : w_LRd_factHere M Q) : CI yX7_factHere cX7_factHere 1 ((some .int)) 1 0 0 LY LY [vr c_laws] M Q := mk_i rfl wd_co_X7_factHere rfl rfl (Nat.le_of_ble_eq_true rfl) (fun X hX hq => t_LRd_factHere hX hq h)
theorem mv_LRd_factHere : MV yX7_factHere cX7_factHere 1 ((some .int)) RX7 0 := ⟨wd_co_X7_factHere, wd_im_X7_factHere, wd_se_X7_factHere, wd_in_X7, by decide +kernel, by decide⟩
theorem mv_LRd_readLevel : MV yX7_readLevel cX7_readLevel 5 ((some .boolean)) RX7 2 := ⟨wd_co_X7_readLevel, wd_im_X7_readLevel, wd_se_X7_readLevel, wd_in_X7, by decide +kernel, by decide⟩
theorem mv_LRd_readPart : MV yX7_readPart cX7_readPart 4 ((some .boolean)) RX7 1 := ⟨wd_co_X7_readPart, wd_im_X7_readPart, wd_se_X7_readPart, wd_in_X7, by decide +kernel, by decide⟩
def w_LRd_readLevel_L33 (r_LRd_readLevel : Int32 → Int32 → Mem → (Bool → Mem → Prop) → Prop) (r_LRd_readPart : Int32 → Mem → (Bool → Mem → Prop) → Prop) (l1 : Int32) (l2 : Int32) (K : Mem → Prop) (Q : Bool → Mem → Prop) : Nat → Int32 → Int32 → Mem → Prop
  | 0, _, _, _ => False
  | n + 1, l3, l4, M => ((1000 ≤ l4 → K M) ∧ (¬ 1000 ≤ l4 → ((l3 = 0 → K M) ∧ (¬ l3 = 0 → w_Tape_step M (fun b208 M207 => r_LRd_readLevel (l1 + 1) l2 M207 (fun b210 M209 => ((b210 = true → w_Land_addStep l3 M209 (fun M211 => ((¬ l1 = 1 → w_LRd_stepHere l1 M211 (fun r213 M212 => w_LRd_readLevel_L33 r_LRd_readLevel r_LRd_readPart l1 l2 K Q n r213 (l4 + 1) M212)) ∧ (l1 = 1 → w_LRd_readLevel_L33 r_LRd_readLevel r_LRd_readPart l1 l2 K Q n 0 (l4 + 1) M211)))) ∧ (b210 = false → Q false M209))))))))
set_option maxHeartbeats 4000000 in
theorem t_LRd_readLevel_L33 {lv0 : Nat} {X : Cx} (hX : Cok X cX7_readLevel RX7 5 ((some .boolean)) (lv0 + 1) 0 0) {Q : Bool → Mem → Prop} (hq : RI X 0 0 LY (bQ Q)) {r_LRd_readLevel : Int32 → Int32 → Mem → (Bool → Mem → Prop) → Prop} {r_LRd_readPart : Int32 → Mem → (Bool → Mem → Prop) → Prop} (hlv0 : 2 ≤ lv0) (hr_LRd_readLevel : ∀ (a0 : Int32) (a1 : Int32) M Q, r_LRd_readLevel a0 a1 M Q → CI yX7_readLevel cX7_readLevel 5 ((some .boolean)) lv0 0 0 LY LY [vr c_laws, vi a0, vi a1] M (bQ Q)) (hr_LRd_readPart : ∀ (a0 : Int32) M Q, r_LRd_readPart a0 M Q → CI yX7_readPart cX7_readPart 4 ((some .boolean)) lv0 0 0 LY LY [vr c_laws, vi a0] M (bQ Q)) {l1 : Int32} {l2 : Int32} {K : Mem → Prop} (hK : ∀ (M : Mem), K M → Wat X 0 0 LY 95 [none, none, none, none, none] [] M) : ∀ (n : Nat) (l3 : Int32) (l4 : Int32) (M : Mem), w_LRd_readLevel_L33 r_LRd_readLevel r_LRd_readPart l1 l2 K Q n l3 l4 M → Wat X 0 0 LY 33 [some (vr c_laws), some (vi l1), some (vi l2), some (vi l3), some (vi l4)] [] M := by
  intro n
  induction n with
  | zero => intro _ _ _ h; exact h.elim
  | succ n ih =>
    intro l3 l4 M h
    refine s_iload hX dX7_readLevel_33 rfl ?_
    refine s_sipush (v := 1000) hX dX7_readLevel_35 rfl ?_
    refine s_icmp_ge (tgt := 95) hX dX7_readLevel_38 (by decide) (fun c => ?_) (fun c => ?_)
    · replace h := h.1 c
      refine s_mask [false, false, false, false, false] (lv' := [none, none, none, none, none]) rfl rfl ?_
      exact hK _ h
    · replace h := h.2 c
      refine s_iload_n hX dX7_readLevel_41 rfl ?_
      refine s_if_eq (tgt := 95) hX dX7_readLevel_42 (by decide) (fun c => ?_) (fun c => ?_)
      · replace h := h.1 c
        refine s_mask [false, false, false, false, false] (lv' := [none, none, none, none, none]) rfl rfl ?_
        exact hK _ h
      · replace h := h.2 c
        refine s_aload_n hX dX7_readLevel_45 rfl ?_
        refine s_getr hX fi_X7_9 ly_c_laws rfl dX7_readLevel_46 ?_
        refine s_cvi (as := []) (rest := []) hX (c_Tape_step h) mv_Tape_step wd_ml_X7_31 dX7_readLevel_49 ly_c_tape rfl rfl (Nat.le_of_ble_eq_true rfl) rfl (by omega) ⟨Nat.zero_le _, Nat.zero_le _⟩ (fun b208_ M207 h => ?_)
        obtain ⟨b208, rfl, h⟩ := h
        refine s_pop hX dX7_readLevel_52 rfl ?_
        refine s_aload_n hX dX7_readLevel_53 rfl ?_
        refine s_iload_n hX dX7_readLevel_54 rfl ?_
        refine s_iconst (v := 1) hX dX7_readLevel_55 rfl ?_
        refine s_iadd hX dX7_readLevel_56 ?_
        refine s_iload_n hX dX7_readLevel_57 rfl ?_
        refine s_cvi (as := [vi (l1 + 1), vi l2]) (rest := []) hX (hr_LRd_readLevel _ _ _ _ h) mv_LRd_readLevel wd_ml_X7_23 dX7_readLevel_58 ly_c_laws rfl rfl (Nat.le_of_ble_eq_true rfl) rfl (Nat.lt_succ_self _) ⟨Nat.zero_le _, Nat.zero_le _⟩ (fun b210_ M209 h => ?_)
        obtain ⟨b210, rfl, h⟩ := h
        refine s_if_ne (tgt := 66) hX dX7_readLevel_61 (by decide) (fun c => ?_) (fun c => ?_)
        · replace h := h.1 (b2i_1 c)
          refine s_aload_n hX dX7_readLevel_66 rfl ?_
          refine s_getr hX fi_X7_15 ly_c_laws rfl dX7_readLevel_67 ?_
          refine s_iload_n hX dX7_readLevel_70 rfl ?_
          refine s_cvv (as := [vi l3]) (rest := []) hX (c_Land_addStep h) mv_Land_addStep wd_ml_X7_37 dX7_readLevel_71 ly_c_draft rfl rfl (Nat.le_of_ble_eq_true rfl) rfl (by omega) ⟨Nat.zero_le _, Nat.zero_le _⟩ (fun M211 h => ?_)
          refine s_iload_n hX dX7_readLevel_74 rfl ?_
          refine s_iconst (v := 1) hX dX7_readLevel_75 rfl ?_
          refine s_icmp_ne (tgt := 83) hX dX7_readLevel_76 (by decide) (fun c => ?_) (fun c => ?_)
          · replace h := h.1 c
            refine s_aload_n hX dX7_readLevel_83 rfl ?_
            refine s_iload_n hX dX7_readLevel_84 rfl ?_
            refine s_cvi (as := [vi l1]) (rest := []) hX (c_LRd_stepHere h) mv_LRd_stepHere wd_ml_X7_27 dX7_readLevel_85 ly_c_laws rfl rfl (Nat.le_of_ble_eq_true rfl) rfl (by omega) ⟨Nat.zero_le _, Nat.zero_le _⟩ (fun r213 M212 h => ?_)
            refine s_istore_n (lv' := [some (vr c_laws), some (vi l1), some (vi l2), some (vi r213), some (vi l4)]) hX dX7_readLevel_88 rfl rfl (Nat.le_of_ble_eq_true rfl) ?_
            refine s_iinc (v := (l4 + 1)) (lv' := [some (vr c_laws), some (vi l1), some (vi l2), some (vi r213), some (vi (l4 + 1))]) hX dX7_readLevel_89 rfl rfl rfl rfl ?_
            refine s_goto (tgt := 33) hX dX7_readLevel_92 (by decide) ?_
            exact ih _ _ _ h
          · replace h := h.2 c
            refine s_iconst (v := 0) hX dX7_readLevel_79 rfl ?_
            refine s_goto (tgt := 88) hX dX7_readLevel_80 (by decide) ?_
            refine s_istore_n (lv' := [some (vr c_laws), some (vi l1), some (vi l2), some (vi 0), some (vi l4)]) hX dX7_readLevel_88 rfl rfl (Nat.le_of_ble_eq_true rfl) ?_
            refine s_iinc (v := (l4 + 1)) (lv' := [some (vr c_laws), some (vi l1), some (vi l2), some (vi 0), some (vi (l4 + 1))]) hX dX7_readLevel_89 rfl rfl rfl rfl ?_
            refine s_goto (tgt := 33) hX dX7_readLevel_92 (by decide) ?_
            exact ih _ _ _ h
        · replace h := h.2 (b2i_0 c)
          refine s_iconst (v := 0) hX dX7_readLevel_64 rfl ?_
          exact s_zret hX false hq rfl dX7_readLevel_65 rfl h
def w_LRd_readLevel_body (r_LRd_readLevel : Int32 → Int32 → Mem → (Bool → Mem → Prop) → Prop) (r_LRd_readPart : Int32 → Mem → (Bool → Mem → Prop) → Prop) (a0 : Int32) (a1 : Int32) (M : Mem) (Q : Bool → Mem → Prop) : Prop :=
  ((a0 < 4 → r_LRd_readLevel (a0 + 1) a1 M (fun b204 M203 => ((b204 = true → w_LRd_stepHere a0 M203 (fun r206 M205 => (∃ n215, w_LRd_readLevel_L33 r_LRd_readLevel r_LRd_readPart a0 a1 (fun M214 => Q true M214) Q n215 r206 0 M205))) ∧ (b204 = false → Q false M203)))) ∧ (¬ a0 < 4 → r_LRd_readPart a1 M (fun b217 M216 => Q b217 M216)))
set_option maxHeartbeats 4000000 in
theorem t_LRd_readLevel {lv0 : Nat} {X : Cx} (hX : Cok X cX7_readLevel RX7 5 ((some .boolean)) (lv0 + 1) 0 0) {Q : Bool → Mem → Prop} (hq : RI X 0 0 LY (bQ Q)) {r_LRd_readLevel : Int32 → Int32 → Mem → (Bool → Mem → Prop) → Prop} {r_LRd_readPart : Int32 → Mem → (Bool → Mem → Prop) → Prop} (hlv0 : 2 ≤ lv0) (hr_LRd_readLevel : ∀ (a0 : Int32) (a1 : Int32) M Q, r_LRd_readLevel a0 a1 M Q → CI yX7_readLevel cX7_readLevel 5 ((some .boolean)) lv0 0 0 LY LY [vr c_laws, vi a0, vi a1] M (bQ Q)) (hr_LRd_readPart : ∀ (a0 : Int32) M Q, r_LRd_readPart a0 M Q → CI yX7_readPart cX7_readPart 4 ((some .boolean)) lv0 0 0 LY LY [vr c_laws, vi a0] M (bQ Q)) {M : Mem} {a0 : Int32} {a1 : Int32} (h : w_LRd_readLevel_body r_LRd_readLevel r_LRd_readPart  a0 a1 M Q) : Wat X 0 0 LY 0 [some (vr c_laws), some (vi a0), some (vi a1), none, none] [] M := by
  refine s_iload_n hX dX7_readLevel_0 rfl ?_
  refine s_iconst (v := 4) hX dX7_readLevel_1 rfl ?_
  refine s_icmp_lt (tgt := 11) hX dX7_readLevel_2 (by decide) (fun c => ?_) (fun c => ?_)
  · replace h := h.1 c
    refine s_aload_n hX dX7_readLevel_11 rfl ?_
    refine s_iload_n hX dX7_readLevel_12 rfl ?_
    refine s_iconst (v := 1) hX dX7_readLevel_13 rfl ?_
    refine s_iadd hX dX7_readLevel_14 ?_
    refine s_iload_n hX dX7_readLevel_15 rfl ?_
    refine s_cvi (as := [vi (a0 + 1), vi a1]) (rest := []) hX (hr_LRd_readLevel _ _ _ _ h) mv_LRd_readLevel wd_ml_X7_23 dX7_readLevel_16 ly_c_laws rfl rfl (Nat.le_of_ble_eq_true rfl) rfl (Nat.lt_succ_self _) ⟨Nat.zero_le _, Nat.zero_le _⟩ (fun b204_ M203 h => ?_)
    obtain ⟨b204, rfl, h⟩ := h
    refine s_if_ne (tgt := 24) hX dX7_readLevel_19 (by decide) (fun c => ?_) (fun c => ?_)
    · replace h := h.1 (b2i_1 c)
      refine s_aload_n hX dX7_readLevel_24 rfl ?_
      refine s_iload_n hX dX7_readLevel_25 rfl ?_
      refine s_cvi (as := [vi a0]) (rest := []) hX (c_LRd_stepHere h) mv_LRd_stepHere wd_ml_X7_27 dX7_readLevel_26 ly_c_laws rfl rfl (Nat.le_of_ble_eq_true rfl) rfl (by omega) ⟨Nat.zero_le _, Nat.zero_le _⟩ (fun r206 M205 h => ?_)
      refine s_istore_n (lv' := [some (vr c_laws), some (vi a0), some (vi a1), some (vi r206), none]) hX dX7_readLevel_29 rfl rfl (Nat.le_of_ble_eq_true rfl) ?_
      refine s_iconst (v := 0) hX dX7_readLevel_30 rfl ?_
      refine s_istore (lv' := [some (vr c_laws), some (vi a0), some (vi a1), some (vi r206), some (vi 0)]) hX dX7_readLevel_31 rfl rfl (Nat.le_of_ble_eq_true rfl) ?_
      obtain ⟨n215, h⟩ := h
      refine t_LRd_readLevel_L33 hX hq hlv0 hr_LRd_readLevel hr_LRd_readPart ?_ n215 _ _ _ h
      intro M214 h
      refine s_iconst (v := 1) hX dX7_readLevel_95 rfl ?_
      exact s_zret hX true hq rfl dX7_readLevel_96 rfl h
    · replace h := h.2 (b2i_0 c)
      refine s_iconst (v := 0) hX dX7_readLevel_22 rfl ?_
      exact s_zret hX false hq rfl dX7_readLevel_23 rfl h
  · replace h := h.2 c
    refine s_aload_n hX dX7_readLevel_5 rfl ?_
    refine s_iload_n hX dX7_readLevel_6 rfl ?_
    refine s_cvi (as := [vi a1]) (rest := []) hX (hr_LRd_readPart _ _ _ h) mv_LRd_readPart wd_ml_X7_19 dX7_readLevel_7 ly_c_laws rfl rfl (Nat.le_of_ble_eq_true rfl) rfl (Nat.lt_succ_self _) ⟨Nat.zero_le _, Nat.zero_le _⟩ (fun b217_ M216 h => ?_)
    obtain ⟨b217, rfl, h⟩ := h
    exact s_zret hX _ hq rfl dX7_readLevel_10 rfl h
def w_LRd_readPart_j195 (r_LRd_readLevel : Int32 → Int32 → Mem → (Bool → Mem → Prop) → Prop) (r_LRd_readPart : Int32 → Mem → (Bool → Mem → Prop) → Prop) (s1 : Int32) (M : Mem) (Q : Bool → Mem → Prop) : Prop :=
  w_Land_addStep s1 M (fun M220 => w_Tape_step M220 (fun b222 M221 => Q b222 M221))
set_option maxHeartbeats 4000000 in
theorem t_LRd_readPart_j195 {lv0 : Nat} {X : Cx} (hX : Cok X cX7_readPart RX7 4 ((some .boolean)) (lv0 + 1) 0 0) {Q : Bool → Mem → Prop} (hq : RI X 0 0 LY (bQ Q)) {r_LRd_readLevel : Int32 → Int32 → Mem → (Bool → Mem → Prop) → Prop} {r_LRd_readPart : Int32 → Mem → (Bool → Mem → Prop) → Prop} (hlv0 : 2 ≤ lv0) (hr_LRd_readLevel : ∀ (a0 : Int32) (a1 : Int32) M Q, r_LRd_readLevel a0 a1 M Q → CI yX7_readLevel cX7_readLevel 5 ((some .boolean)) lv0 0 0 LY LY [vr c_laws, vi a0, vi a1] M (bQ Q)) (hr_LRd_readPart : ∀ (a0 : Int32) M Q, r_LRd_readPart a0 M Q → CI yX7_readPart cX7_readPart 4 ((some .boolean)) lv0 0 0 LY LY [vr c_laws, vi a0] M (bQ Q)) {s1 : Int32} {M : Mem} (h : w_LRd_readPart_j195 r_LRd_readLevel r_LRd_readPart s1 M Q) : Wat X 0 0 LY 195 [some (vr c_laws), none, none, none] [vi s1, vr c_draft] M := by
  refine s_cvv (as := [vi s1]) (rest := []) hX (c_Land_addStep h) mv_Land_addStep wd_ml_X7_37 dX7_readPart_195 ly_c_draft rfl rfl (Nat.le_of_ble_eq_true rfl) rfl (by omega) ⟨Nat.zero_le _, Nat.zero_le _⟩ (fun M220 h => ?_)
  refine s_aload_n hX dX7_readPart_198 rfl ?_
  refine s_getr hX fi_X7_9 ly_c_laws rfl dX7_readPart_199 ?_
  refine s_cvi (as := []) (rest := []) hX (c_Tape_step h) mv_Tape_step wd_ml_X7_31 dX7_readPart_202 ly_c_tape rfl rfl (Nat.le_of_ble_eq_true rfl) rfl (by omega) ⟨Nat.zero_le _, Nat.zero_le _⟩ (fun b222_ M221 h => ?_)
  obtain ⟨b222, rfl, h⟩ := h
  exact s_zret hX _ hq rfl dX7_readPart_205 rfl h
def w_LRd_readPart_j63 (r_LRd_readLevel : Int32 → Int32 → Mem → (Bool → Mem → Prop) → Prop) (r_LRd_readPart : Int32 → Mem → (Bool → Mem → Prop) → Prop) (l1 : Int32) (l2 : Int32) (l3 : Int32) (M : Mem) (Q : Bool → Mem → Prop) : Prop :=
  ((l1 < 5 → ((l3 = 0 → ((¬ (M.1 c_tape Tape_token) = 40 → w_LRd_readPart_j195 r_LRd_readLevel r_LRd_readPart (if l2 = 0 then (M.1 c_tape Tape_number) else l2) M Q) ∧ ((M.1 c_tape Tape_token) = 40 → w_Tape_step M (fun b224 M223 => r_LRd_readLevel 0 (l1 + 1) M223 (fun b226 M225 => ((b226 = true → ((¬ (M225.1 c_tape Tape_token) = 41 → w_Tape_fail 1 M225 (fun b228 M227 => Q b228 M227)) ∧ ((M225.1 c_tape Tape_token) = 41 → w_Tape_step M225 (fun b230 M229 => Q b230 M229)))) ∧ (b226 = false → Q false M225))))))) ∧ (¬ l3 = 0 → w_Tape_step M (fun b232 M231 => r_LRd_readPart (l1 + 1) M231 (fun b234 M233 => ((b234 = true → w_Land_addStep (-5) M233 (fun M235 => Q true M235)) ∧ (b234 = false → Q false M233))))))) ∧ (¬ l1 < 5 → w_Tape_fail 5 M (fun b237 M236 => Q b237 M236)))
set_option maxHeartbeats 4000000 in
theorem t_LRd_readPart_j63 {lv0 : Nat} {X : Cx} (hX : Cok X cX7_readPart RX7 4 ((some .boolean)) (lv0 + 1) 0 0) {Q : Bool → Mem → Prop} (hq : RI X 0 0 LY (bQ Q)) {r_LRd_readLevel : Int32 → Int32 → Mem → (Bool → Mem → Prop) → Prop} {r_LRd_readPart : Int32 → Mem → (Bool → Mem → Prop) → Prop} (hlv0 : 2 ≤ lv0) (hr_LRd_readLevel : ∀ (a0 : Int32) (a1 : Int32) M Q, r_LRd_readLevel a0 a1 M Q → CI yX7_readLevel cX7_readLevel 5 ((some .boolean)) lv0 0 0 LY LY [vr c_laws, vi a0, vi a1] M (bQ Q)) (hr_LRd_readPart : ∀ (a0 : Int32) M Q, r_LRd_readPart a0 M Q → CI yX7_readPart cX7_readPart 4 ((some .boolean)) lv0 0 0 LY LY [vr c_laws, vi a0] M (bQ Q)) {l1 : Int32} {l2 : Int32} {l3 : Int32} {M : Mem} (h : w_LRd_readPart_j63 r_LRd_readLevel r_LRd_readPart l1 l2 l3 M Q) : Wat X 0 0 LY 63 [some (vr c_laws), some (vi l1), some (vi l2), some (vi l3)] [] M := by
  refine s_iload_n hX dX7_readPart_63 rfl ?_
  refine s_iconst (v := 5) hX dX7_readPart_64 rfl ?_
  refine s_icmp_lt (tgt := 77) hX dX7_readPart_65 (by decide) (fun c => ?_) (fun c => ?_)
  · replace h := h.1 c
    refine s_iload_n hX dX7_readPart_77 rfl ?_
    refine s_if_eq (tgt := 112) hX dX7_readPart_78 (by decide) (fun c => ?_) (fun c => ?_)
    · replace h := h.1 c
      refine s_aload_n hX dX7_readPart_112 rfl ?_
      refine s_getr hX fi_X7_9 ly_c_laws rfl dX7_readPart_113 ?_
      refine s_getiv (v := (M.1 c_tape Tape_token)) hX fi_X7_49 ly_c_tape rfl dX7_readPart_116 rfl ?_
      refine s_bipush (v := 40) hX dX7_readPart_119 rfl ?_
      refine s_icmp_ne (tgt := 176) hX dX7_readPart_121 (by decide) (fun c => ?_) (fun c => ?_)
      · replace h := h.1 c
        refine s_aload_n hX dX7_readPart_176 rfl ?_
        refine s_getr hX fi_X7_15 ly_c_laws rfl dX7_readPart_177 ?_
        refine s_iload_n hX dX7_readPart_180 rfl ?_
        have hJ : Wat X 0 0 LY 195 [some (vr c_laws), some (vi l1), some (vi l2), some (vi l3)] [vi (if l2 = 0 then (M.1 c_tape Tape_number) else l2), vr c_draft] M := by
          refine s_mask [true, false, false, false] (lv' := [some (vr c_laws), none, none, none]) rfl rfl ?_
          exact t_LRd_readPart_j195 hX hq hlv0 hr_LRd_readLevel hr_LRd_readPart h
        refine s_if_eq (tgt := 188) hX dX7_readPart_181 (by decide) (fun c => ?_) (fun c => ?_)
        · rw [if_pos c] at hJ
          refine s_aload_n hX dX7_readPart_188 rfl ?_
          refine s_getr hX fi_X7_9 ly_c_laws rfl dX7_readPart_189 ?_
          refine s_getiv (v := (M.1 c_tape Tape_number)) hX fi_X7_61 ly_c_tape rfl dX7_readPart_192 rfl ?_
          exact hJ
        · rw [if_neg c] at hJ
          refine s_iload_n hX dX7_readPart_184 rfl ?_
          refine s_goto (tgt := 195) hX dX7_readPart_185 (by decide) ?_
          exact hJ
      · replace h := h.2 c
        refine s_aload_n hX dX7_readPart_124 rfl ?_
        refine s_getr hX fi_X7_9 ly_c_laws rfl dX7_readPart_125 ?_
        refine s_cvi (as := []) (rest := []) hX (c_Tape_step h) mv_Tape_step wd_ml_X7_31 dX7_readPart_128 ly_c_tape rfl rfl (Nat.le_of_ble_eq_true rfl) rfl (by omega) ⟨Nat.zero_le _, Nat.zero_le _⟩ (fun b224_ M223 h => ?_)
        obtain ⟨b224, rfl, h⟩ := h
        refine s_pop hX dX7_readPart_131 rfl ?_
        refine s_aload_n hX dX7_readPart_132 rfl ?_
        refine s_iconst (v := 0) hX dX7_readPart_133 rfl ?_
        refine s_iload_n hX dX7_readPart_134 rfl ?_
        refine s_iconst (v := 1) hX dX7_readPart_135 rfl ?_
        refine s_iadd hX dX7_readPart_136 ?_
        refine s_cvi (as := [vi 0, vi (l1 + 1)]) (rest := []) hX (hr_LRd_readLevel _ _ _ _ h) mv_LRd_readLevel wd_ml_X7_23 dX7_readPart_137 ly_c_laws rfl rfl (Nat.le_of_ble_eq_true rfl) rfl (Nat.lt_succ_self _) ⟨Nat.zero_le _, Nat.zero_le _⟩ (fun b226_ M225 h => ?_)
        obtain ⟨b226, rfl, h⟩ := h
        refine s_if_ne (tgt := 145) hX dX7_readPart_140 (by decide) (fun c => ?_) (fun c => ?_)
        · replace h := h.1 (b2i_1 c)
          refine s_aload_n hX dX7_readPart_145 rfl ?_
          refine s_getr hX fi_X7_9 ly_c_laws rfl dX7_readPart_146 ?_
          refine s_getiv (v := (M225.1 c_tape Tape_token)) hX fi_X7_49 ly_c_tape rfl dX7_readPart_149 rfl ?_
          refine s_bipush (v := 41) hX dX7_readPart_152 rfl ?_
          refine s_icmp_ne (tgt := 167) hX dX7_readPart_154 (by decide) (fun c => ?_) (fun c => ?_)
          · replace h := h.1 c
            refine s_aload_n hX dX7_readPart_167 rfl ?_
            refine s_getr hX fi_X7_9 ly_c_laws rfl dX7_readPart_168 ?_
            refine s_iconst (v := 1) hX dX7_readPart_171 rfl ?_
            refine s_cvi (as := [vi 1]) (rest := []) hX (c_Tape_fail h) mv_Tape_fail wd_ml_X7_58 dX7_readPart_172 ly_c_tape rfl rfl (Nat.le_of_ble_eq_true rfl) rfl (by omega) ⟨Nat.zero_le _, Nat.zero_le _⟩ (fun b228_ M227 h => ?_)
            obtain ⟨b228, rfl, h⟩ := h
            exact s_zret hX _ hq rfl dX7_readPart_175 rfl h
          · replace h := h.2 c
            refine s_aload_n hX dX7_readPart_157 rfl ?_
            refine s_getr hX fi_X7_9 ly_c_laws rfl dX7_readPart_158 ?_
            refine s_cvi (as := []) (rest := []) hX (c_Tape_step h) mv_Tape_step wd_ml_X7_31 dX7_readPart_161 ly_c_tape rfl rfl (Nat.le_of_ble_eq_true rfl) rfl (by omega) ⟨Nat.zero_le _, Nat.zero_le _⟩ (fun b230_ M229 h => ?_)
            obtain ⟨b230, rfl, h⟩ := h
            refine s_goto (tgt := 175) hX dX7_readPart_164 (by decide) ?_
            exact s_zret hX _ hq rfl dX7_readPart_175 rfl h
        · replace h := h.2 (b2i_0 c)
          refine s_iconst (v := 0) hX dX7_readPart_143 rfl ?_
          exact s_zret hX false hq rfl dX7_readPart_144 rfl h
    · replace h := h.2 c
      refine s_aload_n hX dX7_readPart_81 rfl ?_
      refine s_getr hX fi_X7_9 ly_c_laws rfl dX7_readPart_82 ?_
      refine s_cvi (as := []) (rest := []) hX (c_Tape_step h) mv_Tape_step wd_ml_X7_31 dX7_readPart_85 ly_c_tape rfl rfl (Nat.le_of_ble_eq_true rfl) rfl (by omega) ⟨Nat.zero_le _, Nat.zero_le _⟩ (fun b232_ M231 h => ?_)
      obtain ⟨b232, rfl, h⟩ := h
      refine s_pop hX dX7_readPart_88 rfl ?_
      refine s_aload_n hX dX7_readPart_89 rfl ?_
      refine s_iload_n hX dX7_readPart_90 rfl ?_
      refine s_iconst (v := 1) hX dX7_readPart_91 rfl ?_
      refine s_iadd hX dX7_readPart_92 ?_
      refine s_cvi (as := [vi (l1 + 1)]) (rest := []) hX (hr_LRd_readPart _ _ _ h) mv_LRd_readPart wd_ml_X7_19 dX7_readPart_93 ly_c_laws rfl rfl (Nat.le_of_ble_eq_true rfl) rfl (Nat.lt_succ_self _) ⟨Nat.zero_le _, Nat.zero_le _⟩ (fun b234_ M233 h => ?_)
      obtain ⟨b234, rfl, h⟩ := h
      refine s_if_ne (tgt := 101) hX dX7_readPart_96 (by decide) (fun c => ?_) (fun c => ?_)
      · replace h := h.1 (b2i_1 c)
        refine s_aload_n hX dX7_readPart_101 rfl ?_
        refine s_getr hX fi_X7_15 ly_c_laws rfl dX7_readPart_102 ?_
        refine s_bipush (v := (-5)) hX dX7_readPart_105 rfl ?_
        refine s_cvv (as := [vi (-5)]) (rest := []) hX (c_Land_addStep h) mv_Land_addStep wd_ml_X7_37 dX7_readPart_107 ly_c_draft rfl rfl (Nat.le_of_ble_eq_true rfl) rfl (by omega) ⟨Nat.zero_le _, Nat.zero_le _⟩ (fun M235 h => ?_)
        refine s_iconst (v := 1) hX dX7_readPart_110 rfl ?_
        exact s_zret hX true hq rfl dX7_readPart_111 rfl h
      · replace h := h.2 (b2i_0 c)
        refine s_iconst (v := 0) hX dX7_readPart_99 rfl ?_
        exact s_zret hX false hq rfl dX7_readPart_100 rfl h
  · replace h := h.2 c
    refine s_aload_n hX dX7_readPart_68 rfl ?_
    refine s_getr hX fi_X7_9 ly_c_laws rfl dX7_readPart_69 ?_
    refine s_iconst (v := 5) hX dX7_readPart_72 rfl ?_
    refine s_cvi (as := [vi 5]) (rest := []) hX (c_Tape_fail h) mv_Tape_fail wd_ml_X7_58 dX7_readPart_73 ly_c_tape rfl rfl (Nat.le_of_ble_eq_true rfl) rfl (by omega) ⟨Nat.zero_le _, Nat.zero_le _⟩ (fun b237_ M236 h => ?_)
    obtain ⟨b237, rfl, h⟩ := h
    exact s_zret hX _ hq rfl dX7_readPart_76 rfl h
def w_LRd_readPart_j22 (r_LRd_readLevel : Int32 → Int32 → Mem → (Bool → Mem → Prop) → Prop) (r_LRd_readPart : Int32 → Mem → (Bool → Mem → Prop) → Prop) (l1 : Int32) (l2 : Int32) (s0 : Int32) (M : Mem) (Q : Bool → Mem → Prop) : Prop :=
  (((M.1 c_tape Tape_token) = 3 → w_LRd_readPart_j63 r_LRd_readLevel r_LRd_readPart l1 l2 s0 M Q) ∧ (¬ (M.1 c_tape Tape_token) = 3 → (((M.1 c_tape Tape_token) = 40 → w_LRd_readPart_j63 r_LRd_readLevel r_LRd_readPart l1 l2 s0 M Q) ∧ (¬ (M.1 c_tape Tape_token) = 40 → ((¬ s0 = 0 → w_LRd_readPart_j63 r_LRd_readLevel r_LRd_readPart l1 l2 s0 M Q) ∧ (s0 = 0 → ((¬ l2 = 0 → w_LRd_readPart_j63 r_LRd_readLevel r_LRd_readPart l1 l2 s0 M Q) ∧ (l2 = 0 → w_Tape_fail 1 M (fun b239 M238 => Q b239 M238)))))))))
set_option maxHeartbeats 4000000 in
theorem t_LRd_readPart_j22 {lv0 : Nat} {X : Cx} (hX : Cok X cX7_readPart RX7 4 ((some .boolean)) (lv0 + 1) 0 0) {Q : Bool → Mem → Prop} (hq : RI X 0 0 LY (bQ Q)) {r_LRd_readLevel : Int32 → Int32 → Mem → (Bool → Mem → Prop) → Prop} {r_LRd_readPart : Int32 → Mem → (Bool → Mem → Prop) → Prop} (hlv0 : 2 ≤ lv0) (hr_LRd_readLevel : ∀ (a0 : Int32) (a1 : Int32) M Q, r_LRd_readLevel a0 a1 M Q → CI yX7_readLevel cX7_readLevel 5 ((some .boolean)) lv0 0 0 LY LY [vr c_laws, vi a0, vi a1] M (bQ Q)) (hr_LRd_readPart : ∀ (a0 : Int32) M Q, r_LRd_readPart a0 M Q → CI yX7_readPart cX7_readPart 4 ((some .boolean)) lv0 0 0 LY LY [vr c_laws, vi a0] M (bQ Q)) {l1 : Int32} {l2 : Int32} {s0 : Int32} {M : Mem} (h : w_LRd_readPart_j22 r_LRd_readLevel r_LRd_readPart l1 l2 s0 M Q) : Wat X 0 0 LY 22 [some (vr c_laws), some (vi l1), some (vi l2), none] [vi s0] M := by
  refine s_istore_n (lv' := [some (vr c_laws), some (vi l1), some (vi l2), some (vi s0)]) hX dX7_readPart_22 rfl rfl (Nat.le_of_ble_eq_true rfl) ?_
  refine s_aload_n hX dX7_readPart_23 rfl ?_
  refine s_getr hX fi_X7_9 ly_c_laws rfl dX7_readPart_24 ?_
  refine s_getiv (v := (M.1 c_tape Tape_token)) hX fi_X7_49 ly_c_tape rfl dX7_readPart_27 rfl ?_
  refine s_iconst (v := 3) hX dX7_readPart_30 rfl ?_
  refine s_icmp_eq (tgt := 63) hX dX7_readPart_31 (by decide) (fun c => ?_) (fun c => ?_)
  · replace h := h.1 c
    exact t_LRd_readPart_j63 hX hq hlv0 hr_LRd_readLevel hr_LRd_readPart h
  · replace h := h.2 c
    refine s_aload_n hX dX7_readPart_34 rfl ?_
    refine s_getr hX fi_X7_9 ly_c_laws rfl dX7_readPart_35 ?_
    refine s_getiv (v := (M.1 c_tape Tape_token)) hX fi_X7_49 ly_c_tape rfl dX7_readPart_38 rfl ?_
    refine s_bipush (v := 40) hX dX7_readPart_41 rfl ?_
    refine s_icmp_eq (tgt := 63) hX dX7_readPart_43 (by decide) (fun c => ?_) (fun c => ?_)
    · replace h := h.1 c
      exact t_LRd_readPart_j63 hX hq hlv0 hr_LRd_readLevel hr_LRd_readPart h
    · replace h := h.2 c
      refine s_iload_n hX dX7_readPart_46 rfl ?_
      refine s_if_ne (tgt := 63) hX dX7_readPart_47 (by decide) (fun c => ?_) (fun c => ?_)
      · replace h := h.1 c
        exact t_LRd_readPart_j63 hX hq hlv0 hr_LRd_readLevel hr_LRd_readPart h
      · replace h := h.2 c
        refine s_iload_n hX dX7_readPart_50 rfl ?_
        refine s_if_ne (tgt := 63) hX dX7_readPart_51 (by decide) (fun c => ?_) (fun c => ?_)
        · replace h := h.1 c
          exact t_LRd_readPart_j63 hX hq hlv0 hr_LRd_readLevel hr_LRd_readPart h
        · replace h := h.2 c
          refine s_aload_n hX dX7_readPart_54 rfl ?_
          refine s_getr hX fi_X7_9 ly_c_laws rfl dX7_readPart_55 ?_
          refine s_iconst (v := 1) hX dX7_readPart_58 rfl ?_
          refine s_cvi (as := [vi 1]) (rest := []) hX (c_Tape_fail h) mv_Tape_fail wd_ml_X7_58 dX7_readPart_59 ly_c_tape rfl rfl (Nat.le_of_ble_eq_true rfl) rfl (by omega) ⟨Nat.zero_le _, Nat.zero_le _⟩ (fun b239_ M238 h => ?_)
          obtain ⟨b239, rfl, h⟩ := h
          exact s_zret hX _ hq rfl dX7_readPart_62 rfl h
def w_LRd_readPart_body (r_LRd_readLevel : Int32 → Int32 → Mem → (Bool → Mem → Prop) → Prop) (r_LRd_readPart : Int32 → Mem → (Bool → Mem → Prop) → Prop) (a0 : Int32) (M : Mem) (Q : Bool → Mem → Prop) : Prop :=
  w_LRd_factHere M (fun r219 M218 => w_LRd_readPart_j22 r_LRd_readLevel r_LRd_readPart a0 r219 (if (M218.1 c_tape Tape_keyword) = 17 then (1 : Int32) else 0) M218 Q)
set_option maxHeartbeats 4000000 in
theorem t_LRd_readPart {lv0 : Nat} {X : Cx} (hX : Cok X cX7_readPart RX7 4 ((some .boolean)) (lv0 + 1) 0 0) {Q : Bool → Mem → Prop} (hq : RI X 0 0 LY (bQ Q)) {r_LRd_readLevel : Int32 → Int32 → Mem → (Bool → Mem → Prop) → Prop} {r_LRd_readPart : Int32 → Mem → (Bool → Mem → Prop) → Prop} (hlv0 : 2 ≤ lv0) (hr_LRd_readLevel : ∀ (a0 : Int32) (a1 : Int32) M Q, r_LRd_readLevel a0 a1 M Q → CI yX7_readLevel cX7_readLevel 5 ((some .boolean)) lv0 0 0 LY LY [vr c_laws, vi a0, vi a1] M (bQ Q)) (hr_LRd_readPart : ∀ (a0 : Int32) M Q, r_LRd_readPart a0 M Q → CI yX7_readPart cX7_readPart 4 ((some .boolean)) lv0 0 0 LY LY [vr c_laws, vi a0] M (bQ Q)) {M : Mem} {a0 : Int32} (h : w_LRd_readPart_body r_LRd_readLevel r_LRd_readPart  a0 M Q) : Wat X 0 0 LY 0 [some (vr c_laws), some (vi a0), none, none] [] M := by
  refine s_aload_n hX dX7_readPart_0 rfl ?_
  refine s_cvi (as := []) (rest := []) hX (c_LRd_factHere h) mv_LRd_factHere wd_ml_X7_52 dX7_readPart_1 ly_c_laws rfl rfl (Nat.le_of_ble_eq_true rfl) rfl (by omega) ⟨Nat.zero_le _, Nat.zero_le _⟩ (fun r219 M218 h => ?_)
  refine s_istore_n (lv' := [some (vr c_laws), some (vi a0), some (vi r219), none]) hX dX7_readPart_4 rfl rfl (Nat.le_of_ble_eq_true rfl) ?_
  refine s_aload_n hX dX7_readPart_5 rfl ?_
  refine s_getr hX fi_X7_9 ly_c_laws rfl dX7_readPart_6 ?_
  refine s_getiv (v := (M218.1 c_tape Tape_keyword)) hX fi_X7_43 ly_c_tape rfl dX7_readPart_9 rfl ?_
  refine s_bipush (v := 17) hX dX7_readPart_12 rfl ?_
  have hJ : Wat X 0 0 LY 22 [some (vr c_laws), some (vi a0), some (vi r219), none] [vi (if (M218.1 c_tape Tape_keyword) = 17 then (1 : Int32) else 0)] M218 := by
    exact t_LRd_readPart_j22 hX hq hlv0 hr_LRd_readLevel hr_LRd_readPart h
  refine s_icmp_ne (tgt := 21) hX dX7_readPart_14 (by decide) (fun c => ?_) (fun c => ?_)
  · rw [if_neg c] at hJ
    refine s_iconst (v := 0) hX dX7_readPart_21 rfl ?_
    exact hJ
  · rw [if_pos c] at hJ
    refine s_iconst (v := 1) hX dX7_readPart_17 rfl ?_
    refine s_goto (tgt := 22) hX dX7_readPart_18 (by decide) ?_
    exact hJ
def wg_LRd_readLevel : Nat → (Int32 → Int32 → Mem → (Bool → Mem → Prop) → Prop) × (Int32 → Mem → (Bool → Mem → Prop) → Prop)
  | 0 => (fun _ _ _ _ => False, fun _ _ _ => False)
  | n + 1 => (fun a0 a1 M Q => w_LRd_readLevel_body (wg_LRd_readLevel n).1 (wg_LRd_readLevel n).2 a0 a1 M Q, fun a0 M Q => w_LRd_readPart_body (wg_LRd_readLevel n).1 (wg_LRd_readLevel n).2 a0 M Q)
def w_LRd_readLevel (n : Nat) (a0 : Int32) (a1 : Int32) (M : Mem) (Q : Bool → Mem → Prop) : Prop := (wg_LRd_readLevel n).1 a0 a1 M Q
def w_LRd_readPart (n : Nat) (a0 : Int32) (M : Mem) (Q : Bool → Mem → Prop) : Prop := (wg_LRd_readLevel n).2 a0 M Q
theorem cg_LRd_readLevel : ∀ n : Nat, (∀ (a0 : Int32) (a1 : Int32) M Q, w_LRd_readLevel n a0 a1 M Q → CI yX7_readLevel cX7_readLevel 5 ((some .boolean)) (2 + n) 0 0 LY LY [vr c_laws, vi a0, vi a1] M (bQ Q)) ∧ (∀ (a0 : Int32) M Q, w_LRd_readPart n a0 M Q → CI yX7_readPart cX7_readPart 4 ((some .boolean)) (2 + n) 0 0 LY LY [vr c_laws, vi a0] M (bQ Q)) := by
  intro n
  induction n with
  | zero => exact ⟨fun _ _ _ _ h => h.elim, fun _ _ _ h => h.elim⟩
  | succ n ih => exact ⟨fun a0 a1 M Q h => mk_i rfl wd_co_X7_readLevel rfl rfl (Nat.le_of_ble_eq_true rfl) (fun X hX hq => t_LRd_readLevel hX hq (Nat.le_add_right 2 n) (ih.1) (ih.2) h), fun a0 M Q h => mk_i rfl wd_co_X7_readPart rfl rfl (Nat.le_of_ble_eq_true rfl) (fun X hX hq => t_LRd_readPart hX hq (Nat.le_add_right 2 n) (ih.1) (ih.2) h)⟩
theorem c_LRd_readLevel (n : Nat) {a0 : Int32} {a1 : Int32} {M : Mem} {Q : Bool → Mem → Prop} (h : w_LRd_readLevel n a0 a1 M Q) : CI yX7_readLevel cX7_readLevel 5 ((some .boolean)) (2 + n) 0 0 LY LY [vr c_laws, vi a0, vi a1] M (bQ Q) := (cg_LRd_readLevel n).1 _ _ _ _ h
theorem c_LRd_readPart (n : Nat) {a0 : Int32} {M : Mem} {Q : Bool → Mem → Prop} (h : w_LRd_readPart n a0 M Q) : CI yX7_readPart cX7_readPart 4 ((some .boolean)) (2 + n) 0 0 LY LY [vr c_laws, vi a0] M (bQ Q) := (cg_LRd_readLevel n).2 _ _ _ h
def w_Rd_readLaw_j60 (s1 : Int32) (M : Mem) (Q : Bool → Mem → Prop) : Prop :=
  (s1 &&& 1 = s1 ∧ (∃ n244, n244 ≤ 64 ∧ w_LRd_readLevel n244 0 0 (si M c_laws LRd_owing s1) (fun b241 M240 => ((b241 = true → w_Rd_takeEnd (si M240 c_draft_owe Law_to (M240.1 c_draft Land_codeLength)) (fun b243 M242 => Q b243 M242)) ∧ (b241 = false → Q false M240)))))
set_option maxHeartbeats 4000000 in
theorem t_Rd_readLaw_j60 {X : Cx} (hX : Cok X cX8_readLaw RX8 2 ((some .boolean)) 67 0 0) {Q : Bool → Mem → Prop} (hq : RI X 0 0 LY (bQ Q)) {s1 : Int32} {M : Mem} (h : w_Rd_readLaw_j60 s1 M Q) : Wat X 0 0 LY 60 [some (vr c_reader), some (vr c_draft_owe)] [vi s1, vr c_laws] M := by
  have hz := h.1
  replace h := h.2
  refine s_putz hX fi_X8_186 fp_X7 rfl (by decide +kernel) (nz_of hz) ly_c_laws rfl dX8_readLaw_60 ?_
  refine s_aload_n hX dX8_readLaw_63 rfl ?_
  refine s_getr hX fi_X8_35 ly_c_reader rfl dX8_readLaw_64 ?_
  refine s_iconst (v := 0) hX dX8_readLaw_67 rfl ?_
  refine s_iconst (v := 0) hX dX8_readLaw_68 rfl ?_
  obtain ⟨n244, hn, h⟩ := h
  refine s_cvi (as := [vi 0, vi 0]) (rest := []) hX (c_LRd_readLevel n244 h) mv_LRd_readLevel wd_ml_X8_189 dX8_readLaw_69 ly_c_laws rfl rfl (Nat.le_of_ble_eq_true rfl) rfl (by omega) ⟨Nat.zero_le _, Nat.zero_le _⟩ (fun b241_ M240 h => ?_)
  obtain ⟨b241, rfl, h⟩ := h
  refine s_if_ne (tgt := 77) hX dX8_readLaw_72 (by decide) (fun c => ?_) (fun c => ?_)
  · replace h := h.1 (b2i_1 c)
    refine s_aload_n hX dX8_readLaw_77 rfl ?_
    refine s_aload_n hX dX8_readLaw_78 rfl ?_
    refine s_getr hX fi_X8_26 ly_c_reader rfl dX8_readLaw_79 ?_
    refine s_getiv (v := (M240.1 c_draft Land_codeLength)) hX fi_X8_180 ly_c_draft rfl dX8_readLaw_82 rfl ?_
    refine s_puti hX fi_X8_192 fp_X6 rfl (by decide +kernel) ly_c_draft_owe rfl dX8_readLaw_85 ?_
    refine s_aload_n hX dX8_readLaw_88 rfl ?_
    refine s_cvi (as := []) (rest := []) hX (c_Rd_takeEnd h) mv_Rd_takeEnd wd_ml_X8_102 dX8_readLaw_89 ly_c_reader rfl rfl (Nat.le_of_ble_eq_true rfl) rfl (by decide) ⟨Nat.zero_le _, Nat.zero_le _⟩ (fun b243_ M242 h => ?_)
    obtain ⟨b243, rfl, h⟩ := h
    exact s_zret hX _ hq rfl dX8_readLaw_92 rfl h
  · replace h := h.2 (b2i_0 c)
    refine s_iconst (v := 0) hX dX8_readLaw_75 rfl ?_
    exact s_zret hX false hq rfl dX8_readLaw_76 rfl h
def w_Rd_readLaw (M : Mem) (Q : Bool → Mem → Prop) : Prop :=
  (((M.1 c_draft_owe Law_isTold) = 0 → w_Tape_step M (fun b202 M201 => w_Rd_readLaw_j60 1 (si (si M201 c_draft_owe Law_isTold 1) c_draft_owe Law_from (M201.1 c_draft Land_codeLength)) Q)) ∧ (¬ (M.1 c_draft_owe Law_isTold) = 0 → w_Tape_fail 3 M (fun b246 M245 => Q b246 M245)))
set_option maxHeartbeats 4000000 in
theorem t_Rd_readLaw {X : Cx} (hX : Cok X cX8_readLaw RX8 2 ((some .boolean)) 67 0 0) {Q : Bool → Mem → Prop} (hq : RI X 0 0 LY (bQ Q)) {M : Mem} (h : w_Rd_readLaw M Q) : Wat X 0 0 LY 0 [some (vr c_reader), some (vr c_draft_owe)] [] M := by
  refine s_aload_n hX dX8_readLaw_0 rfl ?_
  refine s_getiv (v := (M.1 c_draft_owe Law_isTold)) hX fi_X8_175 ly_c_draft_owe rfl dX8_readLaw_1 rfl ?_
  refine s_if_eq (tgt := 16) hX dX8_readLaw_4 (by decide) (fun c => ?_) (fun c => ?_)
  · replace h := h.1 c
    refine s_aload_n hX dX8_readLaw_16 rfl ?_
    refine s_getr hX fi_X8_22 ly_c_reader rfl dX8_readLaw_17 ?_
    refine s_cvi (as := []) (rest := []) hX (c_Tape_step h) mv_Tape_step wd_ml_X8_96 dX8_readLaw_20 ly_c_tape rfl rfl (Nat.le_of_ble_eq_true rfl) rfl (by decide) ⟨Nat.zero_le _, Nat.zero_le _⟩ (fun b202_ M201 h => ?_)
    obtain ⟨b202, rfl, h⟩ := h
    refine s_pop hX dX8_readLaw_23 rfl ?_
    refine s_aload_n hX dX8_readLaw_24 rfl ?_
    refine s_iconst (v := 1) hX dX8_readLaw_25 rfl ?_
    refine s_putz hX fi_X8_175 fp_X6 rfl (by decide +kernel) ⟨rfl, rfl⟩ ly_c_draft_owe rfl dX8_readLaw_26 ?_
    refine s_aload_n hX dX8_readLaw_29 rfl ?_
    refine s_aload_n hX dX8_readLaw_30 rfl ?_
    refine s_getr hX fi_X8_26 ly_c_reader rfl dX8_readLaw_31 ?_
    refine s_getiv (v := (M201.1 c_draft Land_codeLength)) hX fi_X8_180 ly_c_draft rfl dX8_readLaw_34 rfl ?_
    refine s_puti hX fi_X8_183 fp_X6 rfl (by decide +kernel) ly_c_draft_owe rfl dX8_readLaw_37 ?_
    refine s_aload_n hX dX8_readLaw_40 rfl ?_
    refine s_getr hX fi_X8_35 ly_c_reader rfl dX8_readLaw_41 ?_
    refine s_aload_n hX dX8_readLaw_44 rfl ?_
    refine s_aload_n hX dX8_readLaw_45 rfl ?_
    refine s_getr hX fi_X8_26 ly_c_reader rfl dX8_readLaw_46 ?_
    refine s_getr hX fi_X8_120 ly_c_draft rfl dX8_readLaw_49 ?_
    refine s_acmp_same (tgt := 59) hX dX8_readLaw_52 (by decide) ?_
    refine s_iconst (v := 1) hX dX8_readLaw_55 rfl ?_
    refine s_goto (tgt := 60) hX dX8_readLaw_56 (by decide) ?_
    exact t_Rd_readLaw_j60 hX hq h
  · replace h := h.2 c
    refine s_aload_n hX dX8_readLaw_7 rfl ?_
    refine s_getr hX fi_X8_22 ly_c_reader rfl dX8_readLaw_8 ?_
    refine s_iconst (v := 3) hX dX8_readLaw_11 rfl ?_
    refine s_cvi (as := [vi 3]) (rest := []) hX (c_Tape_fail h) mv_Tape_fail wd_ml_X8_134 dX8_readLaw_12 ly_c_tape rfl rfl (Nat.le_of_ble_eq_true rfl) rfl (by decide) ⟨Nat.zero_le _, Nat.zero_le _⟩ (fun b246_ M245 h => ?_)
    obtain ⟨b246, rfl, h⟩ := h
    exact s_zret hX _ hq rfl dX8_readLaw_15 rfl h
theorem c_Rd_readLaw {M : Mem} {Q : Bool → Mem → Prop} (h : w_Rd_readLaw M Q) : CI yX8_readLaw cX8_readLaw 2 ((some .boolean)) 67 0 0 LY LY [vr c_reader, vr c_draft_owe] M (bQ Q) := mk_i rfl wd_co_X8_readLaw rfl rfl (Nat.le_of_ble_eq_true rfl) (fun X hX hq => t_Rd_readLaw hX hq h)
theorem mv_Rd_readLaw : MV yX8_readLaw cX8_readLaw 2 ((some .boolean)) RX8 1 := ⟨wd_co_X8_readLaw, wd_im_X8_readLaw, wd_se_X8_readLaw, wd_in_X8, by decide +kernel, by decide⟩
def w_Rd_readLaw_draft_fog_j60 (s1 : Int32) (M : Mem) (Q : Bool → Mem → Prop) : Prop :=
  (s1 &&& 1 = s1 ∧ (∃ n255, n255 ≤ 64 ∧ w_LRd_readLevel n255 0 0 (si M c_laws LRd_owing s1) (fun b252 M251 => ((b252 = true → w_Rd_takeEnd (si M251 c_draft_fog Law_to (M251.1 c_draft Land_codeLength)) (fun b254 M253 => Q b254 M253)) ∧ (b252 = false → Q false M251)))))
set_option maxHeartbeats 4000000 in
theorem t_Rd_readLaw_draft_fog_j60 {X : Cx} (hX : Cok X cX8_readLaw RX8 2 ((some .boolean)) 67 0 0) {Q : Bool → Mem → Prop} (hq : RI X 0 0 LY (bQ Q)) {s1 : Int32} {M : Mem} (h : w_Rd_readLaw_draft_fog_j60 s1 M Q) : Wat X 0 0 LY 60 [some (vr c_reader), some (vr c_draft_fog)] [vi s1, vr c_laws] M := by
  have hz := h.1
  replace h := h.2
  refine s_putz hX fi_X8_186 fp_X7 rfl (by decide +kernel) (nz_of hz) ly_c_laws rfl dX8_readLaw_60 ?_
  refine s_aload_n hX dX8_readLaw_63 rfl ?_
  refine s_getr hX fi_X8_35 ly_c_reader rfl dX8_readLaw_64 ?_
  refine s_iconst (v := 0) hX dX8_readLaw_67 rfl ?_
  refine s_iconst (v := 0) hX dX8_readLaw_68 rfl ?_
  obtain ⟨n255, hn, h⟩ := h
  refine s_cvi (as := [vi 0, vi 0]) (rest := []) hX (c_LRd_readLevel n255 h) mv_LRd_readLevel wd_ml_X8_189 dX8_readLaw_69 ly_c_laws rfl rfl (Nat.le_of_ble_eq_true rfl) rfl (by omega) ⟨Nat.zero_le _, Nat.zero_le _⟩ (fun b252_ M251 h => ?_)
  obtain ⟨b252, rfl, h⟩ := h
  refine s_if_ne (tgt := 77) hX dX8_readLaw_72 (by decide) (fun c => ?_) (fun c => ?_)
  · replace h := h.1 (b2i_1 c)
    refine s_aload_n hX dX8_readLaw_77 rfl ?_
    refine s_aload_n hX dX8_readLaw_78 rfl ?_
    refine s_getr hX fi_X8_26 ly_c_reader rfl dX8_readLaw_79 ?_
    refine s_getiv (v := (M251.1 c_draft Land_codeLength)) hX fi_X8_180 ly_c_draft rfl dX8_readLaw_82 rfl ?_
    refine s_puti hX fi_X8_192 fp_X6 rfl (by decide +kernel) ly_c_draft_fog rfl dX8_readLaw_85 ?_
    refine s_aload_n hX dX8_readLaw_88 rfl ?_
    refine s_cvi (as := []) (rest := []) hX (c_Rd_takeEnd h) mv_Rd_takeEnd wd_ml_X8_102 dX8_readLaw_89 ly_c_reader rfl rfl (Nat.le_of_ble_eq_true rfl) rfl (by decide) ⟨Nat.zero_le _, Nat.zero_le _⟩ (fun b254_ M253 h => ?_)
    obtain ⟨b254, rfl, h⟩ := h
    exact s_zret hX _ hq rfl dX8_readLaw_92 rfl h
  · replace h := h.2 (b2i_0 c)
    refine s_iconst (v := 0) hX dX8_readLaw_75 rfl ?_
    exact s_zret hX false hq rfl dX8_readLaw_76 rfl h
def w_Rd_readLaw_draft_fog (M : Mem) (Q : Bool → Mem → Prop) : Prop :=
  (((M.1 c_draft_fog Law_isTold) = 0 → w_Tape_step M (fun b250 M249 => w_Rd_readLaw_draft_fog_j60 0 (si (si M249 c_draft_fog Law_isTold 1) c_draft_fog Law_from (M249.1 c_draft Land_codeLength)) Q)) ∧ (¬ (M.1 c_draft_fog Law_isTold) = 0 → w_Tape_fail 3 M (fun b257 M256 => Q b257 M256)))
set_option maxHeartbeats 4000000 in
theorem t_Rd_readLaw_draft_fog {X : Cx} (hX : Cok X cX8_readLaw RX8 2 ((some .boolean)) 67 0 0) {Q : Bool → Mem → Prop} (hq : RI X 0 0 LY (bQ Q)) {M : Mem} (h : w_Rd_readLaw_draft_fog M Q) : Wat X 0 0 LY 0 [some (vr c_reader), some (vr c_draft_fog)] [] M := by
  refine s_aload_n hX dX8_readLaw_0 rfl ?_
  refine s_getiv (v := (M.1 c_draft_fog Law_isTold)) hX fi_X8_175 ly_c_draft_fog rfl dX8_readLaw_1 rfl ?_
  refine s_if_eq (tgt := 16) hX dX8_readLaw_4 (by decide) (fun c => ?_) (fun c => ?_)
  · replace h := h.1 c
    refine s_aload_n hX dX8_readLaw_16 rfl ?_
    refine s_getr hX fi_X8_22 ly_c_reader rfl dX8_readLaw_17 ?_
    refine s_cvi (as := []) (rest := []) hX (c_Tape_step h) mv_Tape_step wd_ml_X8_96 dX8_readLaw_20 ly_c_tape rfl rfl (Nat.le_of_ble_eq_true rfl) rfl (by decide) ⟨Nat.zero_le _, Nat.zero_le _⟩ (fun b250_ M249 h => ?_)
    obtain ⟨b250, rfl, h⟩ := h
    refine s_pop hX dX8_readLaw_23 rfl ?_
    refine s_aload_n hX dX8_readLaw_24 rfl ?_
    refine s_iconst (v := 1) hX dX8_readLaw_25 rfl ?_
    refine s_putz hX fi_X8_175 fp_X6 rfl (by decide +kernel) ⟨rfl, rfl⟩ ly_c_draft_fog rfl dX8_readLaw_26 ?_
    refine s_aload_n hX dX8_readLaw_29 rfl ?_
    refine s_aload_n hX dX8_readLaw_30 rfl ?_
    refine s_getr hX fi_X8_26 ly_c_reader rfl dX8_readLaw_31 ?_
    refine s_getiv (v := (M249.1 c_draft Land_codeLength)) hX fi_X8_180 ly_c_draft rfl dX8_readLaw_34 rfl ?_
    refine s_puti hX fi_X8_183 fp_X6 rfl (by decide +kernel) ly_c_draft_fog rfl dX8_readLaw_37 ?_
    refine s_aload_n hX dX8_readLaw_40 rfl ?_
    refine s_getr hX fi_X8_35 ly_c_reader rfl dX8_readLaw_41 ?_
    refine s_aload_n hX dX8_readLaw_44 rfl ?_
    refine s_aload_n hX dX8_readLaw_45 rfl ?_
    refine s_getr hX fi_X8_26 ly_c_reader rfl dX8_readLaw_46 ?_
    refine s_getr hX fi_X8_120 ly_c_draft rfl dX8_readLaw_49 ?_
    refine s_acmp_diff (tgt := 59) hX ly_c_draft_fog ly_c_draft_owe (by decide) dX8_readLaw_52 (by decide) ?_
    refine s_iconst (v := 0) hX dX8_readLaw_59 rfl ?_
    exact t_Rd_readLaw_draft_fog_j60 hX hq h
  · replace h := h.2 c
    refine s_aload_n hX dX8_readLaw_7 rfl ?_
    refine s_getr hX fi_X8_22 ly_c_reader rfl dX8_readLaw_8 ?_
    refine s_iconst (v := 3) hX dX8_readLaw_11 rfl ?_
    refine s_cvi (as := [vi 3]) (rest := []) hX (c_Tape_fail h) mv_Tape_fail wd_ml_X8_134 dX8_readLaw_12 ly_c_tape rfl rfl (Nat.le_of_ble_eq_true rfl) rfl (by decide) ⟨Nat.zero_le _, Nat.zero_le _⟩ (fun b257_ M256 h => ?_)
    obtain ⟨b257, rfl, h⟩ := h
    exact s_zret hX _ hq rfl dX8_readLaw_15 rfl h
theorem c_Rd_readLaw_draft_fog {M : Mem} {Q : Bool → Mem → Prop} (h : w_Rd_readLaw_draft_fog M Q) : CI yX8_readLaw cX8_readLaw 2 ((some .boolean)) 67 0 0 LY LY [vr c_reader, vr c_draft_fog] M (bQ Q) := mk_i rfl wd_co_X8_readLaw rfl rfl (Nat.le_of_ble_eq_true rfl) (fun X hX hq => t_Rd_readLaw_draft_fog hX hq h)
theorem mv_Rd_readLaw_draft_fog : MV yX8_readLaw cX8_readLaw 2 ((some .boolean)) RX8 1 := ⟨wd_co_X8_readLaw, wd_im_X8_readLaw, wd_se_X8_readLaw, wd_in_X8, by decide +kernel, by decide⟩
def w_Rd_readHear (M : Mem) (Q : Bool → Mem → Prop) : Prop :=
  (((M.1 c_reader Rd_hearIsTold) = 0 → w_Tape_step (si M c_reader Rd_hearIsTold 1) (fun b261 M260 => w_Rd_isNumber 0 14 M260 (fun b263 M262 => ((b263 = true → w_Tape_step (si M262 c_draft Land_hear (M262.1 c_tape Tape_number)) (fun b265 M264 => ((b265 = false → Q false M264) ∧ (b265 = true → w_Rd_takeEnd M264 (fun b267 M266 => (∃ bb : Bool, (if b267 = true then (1 : Int32) else 0) = b2i bb ∧ Q bb M266)))))) ∧ (b263 = false → Q false M262))))) ∧ (¬ (M.1 c_reader Rd_hearIsTold) = 0 → w_Tape_fail 3 M (fun b269 M268 => Q b269 M268)))
set_option maxHeartbeats 4000000 in
theorem t_Rd_readHear {X : Cx} (hX : Cok X cX8_readHear RX8 1 ((some .boolean)) 4 0 0) {Q : Bool → Mem → Prop} (hq : RI X 0 0 LY (bQ Q)) {M : Mem} (h : w_Rd_readHear M Q) : Wat X 0 0 LY 0 [some (vr c_reader)] [] M := by
  refine s_aload_n hX dX8_readHear_0 rfl ?_
  refine s_getiv (v := (M.1 c_reader Rd_hearIsTold)) hX fi_X8_57 ly_c_reader rfl dX8_readHear_1 rfl ?_
  refine s_if_eq (tgt := 16) hX dX8_readHear_4 (by decide) (fun c => ?_) (fun c => ?_)
  · replace h := h.1 c
    refine s_aload_n hX dX8_readHear_16 rfl ?_
    refine s_iconst (v := 1) hX dX8_readHear_17 rfl ?_
    refine s_putz hX fi_X8_57 fp_X8 rfl (by decide +kernel) ⟨rfl, rfl⟩ ly_c_reader rfl dX8_readHear_18 ?_
    refine s_aload_n hX dX8_readHear_21 rfl ?_
    refine s_getr hX fi_X8_22 ly_c_reader rfl dX8_readHear_22 ?_
    refine s_cvi (as := []) (rest := []) hX (c_Tape_step h) mv_Tape_step wd_ml_X8_96 dX8_readHear_25 ly_c_tape rfl rfl (Nat.le_of_ble_eq_true rfl) rfl (by decide) ⟨Nat.zero_le _, Nat.zero_le _⟩ (fun b261_ M260 h => ?_)
    obtain ⟨b261, rfl, h⟩ := h
    refine s_pop hX dX8_readHear_28 rfl ?_
    refine s_aload_n hX dX8_readHear_29 rfl ?_
    refine s_iconst (v := 0) hX dX8_readHear_30 rfl ?_
    refine s_bipush (v := 14) hX dX8_readHear_31 rfl ?_
    refine s_cvi (as := [vi 0, vi 14]) (rest := []) hX (c_Rd_isNumber h) mv_Rd_isNumber wd_ml_X8_86 dX8_readHear_33 ly_c_reader rfl rfl (Nat.le_of_ble_eq_true rfl) rfl (by decide) ⟨Nat.zero_le _, Nat.zero_le _⟩ (fun b263_ M262 h => ?_)
    obtain ⟨b263, rfl, h⟩ := h
    refine s_if_ne (tgt := 41) hX dX8_readHear_36 (by decide) (fun c => ?_) (fun c => ?_)
    · replace h := h.1 (b2i_1 c)
      refine s_aload_n hX dX8_readHear_41 rfl ?_
      refine s_getr hX fi_X8_26 ly_c_reader rfl dX8_readHear_42 ?_
      refine s_aload_n hX dX8_readHear_45 rfl ?_
      refine s_getr hX fi_X8_22 ly_c_reader rfl dX8_readHear_46 ?_
      refine s_getiv (v := (M262.1 c_tape Tape_number)) hX fi_X8_90 ly_c_tape rfl dX8_readHear_49 rfl ?_
      refine s_puti hX fi_X8_195 fp_X5 rfl (by decide +kernel) ly_c_draft rfl dX8_readHear_52 ?_
      refine s_aload_n hX dX8_readHear_55 rfl ?_
      refine s_getr hX fi_X8_22 ly_c_reader rfl dX8_readHear_56 ?_
      refine s_cvi (as := []) (rest := []) hX (c_Tape_step h) mv_Tape_step wd_ml_X8_96 dX8_readHear_59 ly_c_tape rfl rfl (Nat.le_of_ble_eq_true rfl) rfl (by decide) ⟨Nat.zero_le _, Nat.zero_le _⟩ (fun b265_ M264 h => ?_)
      obtain ⟨b265, rfl, h⟩ := h
      refine s_if_eq (tgt := 76) hX dX8_readHear_62 (by decide) (fun c => ?_) (fun c => ?_)
      · replace h := h.1 (b2i_0 c)
        refine s_iconst (v := 0) hX dX8_readHear_76 rfl ?_
        exact s_zret hX false hq rfl dX8_readHear_77 rfl h
      · replace h := h.2 (b2i_1 c)
        refine s_aload_n hX dX8_readHear_65 rfl ?_
        refine s_cvi (as := []) (rest := []) hX (c_Rd_takeEnd h) mv_Rd_takeEnd wd_ml_X8_102 dX8_readHear_66 ly_c_reader rfl rfl (Nat.le_of_ble_eq_true rfl) rfl (by decide) ⟨Nat.zero_le _, Nat.zero_le _⟩ (fun b267_ M266 h => ?_)
        obtain ⟨b267, rfl, h⟩ := h
        have hJ : Wat X 0 0 LY 77 [some (vr c_reader)] [vi (if b267 = true then (1 : Int32) else 0)] M266 := by
          obtain ⟨bb, hbb, h⟩ := h
          exact s_zret hX bb hq rfl dX8_readHear_77 hbb h
        refine s_if_eq (tgt := 76) hX dX8_readHear_69 (by decide) (fun c => ?_) (fun c => ?_)
        · rw [if_neg (by simp [b2i_0 c])] at hJ
          refine s_iconst (v := 0) hX dX8_readHear_76 rfl ?_
          exact hJ
        · rw [if_pos (by simp [b2i_1 c])] at hJ
          refine s_iconst (v := 1) hX dX8_readHear_72 rfl ?_
          refine s_goto (tgt := 77) hX dX8_readHear_73 (by decide) ?_
          exact hJ
    · replace h := h.2 (b2i_0 c)
      refine s_iconst (v := 0) hX dX8_readHear_39 rfl ?_
      exact s_zret hX false hq rfl dX8_readHear_40 rfl h
  · replace h := h.2 c
    refine s_aload_n hX dX8_readHear_7 rfl ?_
    refine s_getr hX fi_X8_22 ly_c_reader rfl dX8_readHear_8 ?_
    refine s_iconst (v := 3) hX dX8_readHear_11 rfl ?_
    refine s_cvi (as := [vi 3]) (rest := []) hX (c_Tape_fail h) mv_Tape_fail wd_ml_X8_134 dX8_readHear_12 ly_c_tape rfl rfl (Nat.le_of_ble_eq_true rfl) rfl (by decide) ⟨Nat.zero_le _, Nat.zero_le _⟩ (fun b269_ M268 h => ?_)
    obtain ⟨b269, rfl, h⟩ := h
    exact s_zret hX _ hq rfl dX8_readHear_15 rfl h
theorem c_Rd_readHear {M : Mem} {Q : Bool → Mem → Prop} (h : w_Rd_readHear M Q) : CI yX8_readHear cX8_readHear 1 ((some .boolean)) 4 0 0 LY LY [vr c_reader] M (bQ Q) := mk_i rfl wd_co_X8_readHear rfl rfl (Nat.le_of_ble_eq_true rfl) (fun X hX hq => t_Rd_readHear hX hq h)
theorem mv_Rd_readHear : MV yX8_readHear cX8_readHear 1 ((some .boolean)) RX8 0 := ⟨wd_co_X8_readHear, wd_im_X8_readHear, wd_se_X8_readHear, wd_in_X8, by decide +kernel, by decide⟩
def w_Rd_readLine (M : Mem) (Q : Bool → Mem → Prop) : Prop :=
  (((M.1 c_tape Tape_keyword) = 1 → w_Rd_readPerson M (fun b108 M107 => Q b108 M107)) ∧ ((M.1 c_tape Tape_keyword) = 2 → w_Tape_fail 1 M (fun b110 M109 => Q b110 M109)) ∧ ((M.1 c_tape Tape_keyword) = 3 → w_Tape_fail 1 M (fun b112 M111 => Q b112 M111)) ∧ ((M.1 c_tape Tape_keyword) = 4 → w_Rd_readGo M (fun b145 M144 => Q b145 M144)) ∧ ((M.1 c_tape Tape_keyword) = 5 → w_Tape_fail 1 M (fun b147 M146 => Q b147 M146)) ∧ ((M.1 c_tape Tape_keyword) = 6 → w_Rd_readBird M (fun b163 M162 => Q b163 M162)) ∧ ((M.1 c_tape Tape_keyword) = 7 → w_Rd_readCall M (fun b198 M197 => Q b198 M197)) ∧ ((M.1 c_tape Tape_keyword) = 8 → w_Tape_fail 1 M (fun b200 M199 => Q b200 M199)) ∧ ((M.1 c_tape Tape_keyword) = 9 → w_Rd_readLaw M (fun b248 M247 => Q b248 M247)) ∧ ((M.1 c_tape Tape_keyword) = 10 → w_Rd_readLaw_draft_fog M (fun b259 M258 => Q b259 M258)) ∧ ((M.1 c_tape Tape_keyword) = 11 → w_Rd_readHear M (fun b271 M270 => Q b271 M270)) ∧ (¬ (M.1 c_tape Tape_keyword) = 1 → ¬ (M.1 c_tape Tape_keyword) = 2 → ¬ (M.1 c_tape Tape_keyword) = 3 → ¬ (M.1 c_tape Tape_keyword) = 4 → ¬ (M.1 c_tape Tape_keyword) = 5 → ¬ (M.1 c_tape Tape_keyword) = 6 → ¬ (M.1 c_tape Tape_keyword) = 7 → ¬ (M.1 c_tape Tape_keyword) = 8 → ¬ (M.1 c_tape Tape_keyword) = 9 → ¬ (M.1 c_tape Tape_keyword) = 10 → ¬ (M.1 c_tape Tape_keyword) = 11 → w_Tape_fail 1 M (fun b273 M272 => Q b273 M272)))
set_option maxHeartbeats 4000000 in
theorem t_Rd_readLine {X : Cx} (hX : Cok X cX8_readLine RX8 1 ((some .boolean)) 68 0 0) {Q : Bool → Mem → Prop} (hq : RI X 0 0 LY (bQ Q)) {M : Mem} (h : w_Rd_readLine M Q) : Wat X 0 0 LY 0 [some (vr c_reader)] [] M := by
  refine s_aload_n hX dX8_readLine_0 rfl ?_
  refine s_getr hX fi_X8_22 ly_c_reader rfl dX8_readLine_1 ?_
  refine s_getiv (v := (M.1 c_tape Tape_keyword)) hX fi_X8_105 ly_c_tape rfl dX8_readLine_4 rfl ?_
  by_cases c0 : (M.1 c_tape Tape_keyword) = 1
  · replace h := h.1 c0
    refine s_tableIn (tgt := 64) (off := 57) hX dX8_readLine_7 (by rw [c0]; decide) (by rw [c0]; decide) (by rw [c0]; rfl) (by decide) ?_
    refine s_aload_n hX dX8_readLine_64 rfl ?_
    refine s_cvi (as := []) (rest := []) hX (c_Rd_readPerson h) mv_Rd_readPerson wd_ml_X8_108 dX8_readLine_65 ly_c_reader rfl rfl (Nat.le_of_ble_eq_true rfl) rfl (by decide) ⟨Nat.zero_le _, Nat.zero_le _⟩ (fun b108_ M107 h => ?_)
    obtain ⟨b108, rfl, h⟩ := h
    exact s_zret hX _ hq rfl dX8_readLine_68 rfl h
  by_cases c1 : (M.1 c_tape Tape_keyword) = 2
  · replace h := h.2.1 c1
    refine s_tableIn (tgt := 113) (off := 106) hX dX8_readLine_7 (by rw [c1]; decide) (by rw [c1]; decide) (by rw [c1]; rfl) (by decide) ?_
    refine s_aload_n hX dX8_readLine_113 rfl ?_
    refine s_getr hX fi_X8_22 ly_c_reader rfl dX8_readLine_114 ?_
    refine s_iconst (v := 1) hX dX8_readLine_117 rfl ?_
    refine s_cvi (as := [vi 1]) (rest := []) hX (c_Tape_fail h) mv_Tape_fail wd_ml_X8_134 dX8_readLine_118 ly_c_tape rfl rfl (Nat.le_of_ble_eq_true rfl) rfl (by decide) ⟨Nat.zero_le _, Nat.zero_le _⟩ (fun b110_ M109 h => ?_)
    obtain ⟨b110, rfl, h⟩ := h
    exact s_zret hX _ hq rfl dX8_readLine_121 rfl h
  by_cases c2 : (M.1 c_tape Tape_keyword) = 3
  · replace h := h.2.2.1 c2
    refine s_tableIn (tgt := 113) (off := 106) hX dX8_readLine_7 (by rw [c2]; decide) (by rw [c2]; decide) (by rw [c2]; rfl) (by decide) ?_
    refine s_aload_n hX dX8_readLine_113 rfl ?_
    refine s_getr hX fi_X8_22 ly_c_reader rfl dX8_readLine_114 ?_
    refine s_iconst (v := 1) hX dX8_readLine_117 rfl ?_
    refine s_cvi (as := [vi 1]) (rest := []) hX (c_Tape_fail h) mv_Tape_fail wd_ml_X8_134 dX8_readLine_118 ly_c_tape rfl rfl (Nat.le_of_ble_eq_true rfl) rfl (by decide) ⟨Nat.zero_le _, Nat.zero_le _⟩ (fun b112_ M111 h => ?_)
    obtain ⟨b112, rfl, h⟩ := h
    exact s_zret hX _ hq rfl dX8_readLine_121 rfl h
  by_cases c3 : (M.1 c_tape Tape_keyword) = 4
  · replace h := h.2.2.2.1 c3
    refine s_tableIn (tgt := 69) (off := 62) hX dX8_readLine_7 (by rw [c3]; decide) (by rw [c3]; decide) (by rw [c3]; rfl) (by decide) ?_
    refine s_aload_n hX dX8_readLine_69 rfl ?_
    refine s_cvi (as := []) (rest := []) hX (c_Rd_readGo h) mv_Rd_readGo wd_ml_X8_111 dX8_readLine_70 ly_c_reader rfl rfl (Nat.le_of_ble_eq_true rfl) rfl (by decide) ⟨Nat.zero_le _, Nat.zero_le _⟩ (fun b145_ M144 h => ?_)
    obtain ⟨b145, rfl, h⟩ := h
    exact s_zret hX _ hq rfl dX8_readLine_73 rfl h
  by_cases c4 : (M.1 c_tape Tape_keyword) = 5
  · replace h := h.2.2.2.2.1 c4
    refine s_tableIn (tgt := 113) (off := 106) hX dX8_readLine_7 (by rw [c4]; decide) (by rw [c4]; decide) (by rw [c4]; rfl) (by decide) ?_
    refine s_aload_n hX dX8_readLine_113 rfl ?_
    refine s_getr hX fi_X8_22 ly_c_reader rfl dX8_readLine_114 ?_
    refine s_iconst (v := 1) hX dX8_readLine_117 rfl ?_
    refine s_cvi (as := [vi 1]) (rest := []) hX (c_Tape_fail h) mv_Tape_fail wd_ml_X8_134 dX8_readLine_118 ly_c_tape rfl rfl (Nat.le_of_ble_eq_true rfl) rfl (by decide) ⟨Nat.zero_le _, Nat.zero_le _⟩ (fun b147_ M146 h => ?_)
    obtain ⟨b147, rfl, h⟩ := h
    exact s_zret hX _ hq rfl dX8_readLine_121 rfl h
  by_cases c5 : (M.1 c_tape Tape_keyword) = 6
  · replace h := h.2.2.2.2.2.1 c5
    refine s_tableIn (tgt := 74) (off := 67) hX dX8_readLine_7 (by rw [c5]; decide) (by rw [c5]; decide) (by rw [c5]; rfl) (by decide) ?_
    refine s_aload_n hX dX8_readLine_74 rfl ?_
    refine s_cvi (as := []) (rest := []) hX (c_Rd_readBird h) mv_Rd_readBird wd_ml_X8_114 dX8_readLine_75 ly_c_reader rfl rfl (Nat.le_of_ble_eq_true rfl) rfl (by decide) ⟨Nat.zero_le _, Nat.zero_le _⟩ (fun b163_ M162 h => ?_)
    obtain ⟨b163, rfl, h⟩ := h
    exact s_zret hX _ hq rfl dX8_readLine_78 rfl h
  by_cases c6 : (M.1 c_tape Tape_keyword) = 7
  · replace h := h.2.2.2.2.2.2.1 c6
    refine s_tableIn (tgt := 79) (off := 72) hX dX8_readLine_7 (by rw [c6]; decide) (by rw [c6]; decide) (by rw [c6]; rfl) (by decide) ?_
    refine s_aload_n hX dX8_readLine_79 rfl ?_
    refine s_cvi (as := []) (rest := []) hX (c_Rd_readCall h) mv_Rd_readCall wd_ml_X8_117 dX8_readLine_80 ly_c_reader rfl rfl (Nat.le_of_ble_eq_true rfl) rfl (by decide) ⟨Nat.zero_le _, Nat.zero_le _⟩ (fun b198_ M197 h => ?_)
    obtain ⟨b198, rfl, h⟩ := h
    exact s_zret hX _ hq rfl dX8_readLine_83 rfl h
  by_cases c7 : (M.1 c_tape Tape_keyword) = 8
  · replace h := h.2.2.2.2.2.2.2.1 c7
    refine s_tableIn (tgt := 113) (off := 106) hX dX8_readLine_7 (by rw [c7]; decide) (by rw [c7]; decide) (by rw [c7]; rfl) (by decide) ?_
    refine s_aload_n hX dX8_readLine_113 rfl ?_
    refine s_getr hX fi_X8_22 ly_c_reader rfl dX8_readLine_114 ?_
    refine s_iconst (v := 1) hX dX8_readLine_117 rfl ?_
    refine s_cvi (as := [vi 1]) (rest := []) hX (c_Tape_fail h) mv_Tape_fail wd_ml_X8_134 dX8_readLine_118 ly_c_tape rfl rfl (Nat.le_of_ble_eq_true rfl) rfl (by decide) ⟨Nat.zero_le _, Nat.zero_le _⟩ (fun b200_ M199 h => ?_)
    obtain ⟨b200, rfl, h⟩ := h
    exact s_zret hX _ hq rfl dX8_readLine_121 rfl h
  by_cases c8 : (M.1 c_tape Tape_keyword) = 9
  · replace h := h.2.2.2.2.2.2.2.2.1 c8
    refine s_tableIn (tgt := 84) (off := 77) hX dX8_readLine_7 (by rw [c8]; decide) (by rw [c8]; decide) (by rw [c8]; rfl) (by decide) ?_
    refine s_aload_n hX dX8_readLine_84 rfl ?_
    refine s_aload_n hX dX8_readLine_85 rfl ?_
    refine s_getr hX fi_X8_26 ly_c_reader rfl dX8_readLine_86 ?_
    refine s_getr hX fi_X8_120 ly_c_draft rfl dX8_readLine_89 ?_
    refine s_cvi (as := [vr c_draft_owe]) (rest := []) hX (c_Rd_readLaw h) mv_Rd_readLaw wd_ml_X8_124 dX8_readLine_92 ly_c_reader rfl rfl (Nat.le_of_ble_eq_true rfl) rfl (by decide) ⟨Nat.zero_le _, Nat.zero_le _⟩ (fun b248_ M247 h => ?_)
    obtain ⟨b248, rfl, h⟩ := h
    exact s_zret hX _ hq rfl dX8_readLine_95 rfl h
  by_cases c9 : (M.1 c_tape Tape_keyword) = 10
  · replace h := h.2.2.2.2.2.2.2.2.2.1 c9
    refine s_tableIn (tgt := 96) (off := 89) hX dX8_readLine_7 (by rw [c9]; decide) (by rw [c9]; decide) (by rw [c9]; rfl) (by decide) ?_
    refine s_aload_n hX dX8_readLine_96 rfl ?_
    refine s_aload_n hX dX8_readLine_97 rfl ?_
    refine s_getr hX fi_X8_26 ly_c_reader rfl dX8_readLine_98 ?_
    refine s_getr hX fi_X8_128 ly_c_draft rfl dX8_readLine_101 ?_
    refine s_cvi (as := [vr c_draft_fog]) (rest := []) hX (c_Rd_readLaw_draft_fog h) mv_Rd_readLaw_draft_fog wd_ml_X8_124 dX8_readLine_104 ly_c_reader rfl rfl (Nat.le_of_ble_eq_true rfl) rfl (by decide) ⟨Nat.zero_le _, Nat.zero_le _⟩ (fun b259_ M258 h => ?_)
    obtain ⟨b259, rfl, h⟩ := h
    exact s_zret hX _ hq rfl dX8_readLine_107 rfl h
  by_cases c10 : (M.1 c_tape Tape_keyword) = 11
  · replace h := h.2.2.2.2.2.2.2.2.2.2.1 c10
    refine s_tableIn (tgt := 108) (off := 101) hX dX8_readLine_7 (by rw [c10]; decide) (by rw [c10]; decide) (by rw [c10]; rfl) (by decide) ?_
    refine s_aload_n hX dX8_readLine_108 rfl ?_
    refine s_cvi (as := []) (rest := []) hX (c_Rd_readHear h) mv_Rd_readHear wd_ml_X8_131 dX8_readLine_109 ly_c_reader rfl rfl (Nat.le_of_ble_eq_true rfl) rfl (by decide) ⟨Nat.zero_le _, Nat.zero_le _⟩ (fun b271_ M270 h => ?_)
    obtain ⟨b271, rfl, h⟩ := h
    exact s_zret hX _ hq rfl dX8_readLine_112 rfl h
  replace h := h.2.2.2.2.2.2.2.2.2.2.2 c0 c1 c2 c3 c4 c5 c6 c7 c8 c9 c10
  have n0 := lv_neT (a := 1) c0 rfl
  have n1 := lv_neT (a := 2) c1 rfl
  have n2 := lv_neT (a := 3) c2 rfl
  have n3 := lv_neT (a := 4) c3 rfl
  have n4 := lv_neT (a := 5) c4 rfl
  have n5 := lv_neT (a := 6) c5 rfl
  have n6 := lv_neT (a := 7) c6 rfl
  have n7 := lv_neT (a := 8) c7 rfl
  have n8 := lv_neT (a := 9) c8 rfl
  have n9 := lv_neT (a := 10) c9 rfl
  have n10 := lv_neT (a := 11) c10 rfl
  refine s_tableOut (tgt := 113) hX dX8_readLine_7 (by omega) (by decide) ?_
  refine s_aload_n hX dX8_readLine_113 rfl ?_
  refine s_getr hX fi_X8_22 ly_c_reader rfl dX8_readLine_114 ?_
  refine s_iconst (v := 1) hX dX8_readLine_117 rfl ?_
  refine s_cvi (as := [vi 1]) (rest := []) hX (c_Tape_fail h) mv_Tape_fail wd_ml_X8_134 dX8_readLine_118 ly_c_tape rfl rfl (Nat.le_of_ble_eq_true rfl) rfl (by decide) ⟨Nat.zero_le _, Nat.zero_le _⟩ (fun b273_ M272 h => ?_)
  obtain ⟨b273, rfl, h⟩ := h
  exact s_zret hX _ hq rfl dX8_readLine_121 rfl h
theorem c_Rd_readLine {M : Mem} {Q : Bool → Mem → Prop} (h : w_Rd_readLine M Q) : CI yX8_readLine cX8_readLine 1 ((some .boolean)) 68 0 0 LY LY [vr c_reader] M (bQ Q) := mk_i rfl wd_co_X8_readLine rfl rfl (Nat.le_of_ble_eq_true rfl) (fun X hX hq => t_Rd_readLine hX hq h)
theorem mv_Rd_readLine : MV yX8_readLine cX8_readLine 1 ((some .boolean)) RX8 0 := ⟨wd_co_X8_readLine, wd_im_X8_readLine, wd_se_X8_readLine, wd_in_X8, by decide +kernel, by decide⟩
def w_Rd_walkAll_L17 (l1 : Int32) (K : Mem → Prop) (Q : Mem → Prop) : Nat → Int32 → Int32 → Mem → Prop
  | 0, _, _, _ => False
  | n + 1, l2, l3, M => ((24 ≤ l3 → K M) ∧ (¬ 24 ≤ l3 → (vp_in ((l1 * 24) + l3) 144 ∧ (((M.1 c_reader_goes (Int32.toNatClampNeg ((l1 * 24) + l3))) = (-1) → (vp_in ((l1 * 24) + l3) 144 ∧ w_Rd_walkAll_L17 l1 K Q n l2 (l3 + 1) (si M c_draft_place (Int32.toNatClampNeg ((l1 * 24) + l3)) l2))) ∧ (¬ (M.1 c_reader_goes (Int32.toNatClampNeg ((l1 * 24) + l3))) = (-1) → (vp_in ((l1 * 24) + l3) 144 ∧ ∀ x277 : Int32, x277 = (M.1 c_reader_goes (Int32.toNatClampNeg ((l1 * 24) + l3))) → (vp_in ((l1 * 24) + l3) 144 ∧ w_Rd_walkAll_L17 l1 K Q n x277 (l3 + 1) (si M c_draft_place (Int32.toNatClampNeg ((l1 * 24) + l3)) x277))))))))
set_option maxHeartbeats 4000000 in
theorem t_Rd_walkAll_L17 {X : Cx} (hX : Cok X cX8_walkAll RX8 5 none 1 0 0) {Q : Mem → Prop} (hq : RV X 0 0 LY Q) {l1 : Int32} {K : Mem → Prop} (hK : ∀ (M : Mem), K M → Wat X 0 0 LY 67 [some (vr c_reader), some (vi l1), none, none, none] [] M) : ∀ (n : Nat) (l2 : Int32) (l3 : Int32) (M : Mem), w_Rd_walkAll_L17 l1 K Q n l2 l3 M → Wat X 0 0 LY 17 [some (vr c_reader), some (vi l1), some (vi l2), some (vi l3), none] [] M := by
  intro n
  induction n with
  | zero => intro _ _ _ h; exact h.elim
  | succ n ih =>
    intro l2 l3 M h
    refine s_iload_n hX dX8_walkAll_17 rfl ?_
    refine s_bipush (v := 24) hX dX8_walkAll_18 rfl ?_
    refine s_icmp_ge (tgt := 67) hX dX8_walkAll_20 (by decide) (fun c => ?_) (fun c => ?_)
    · replace h := h.1 c
      refine s_mask [true, true, false, false, true] (lv' := [some (vr c_reader), some (vi l1), none, none, none]) rfl rfl ?_
      exact hK _ h
    · replace h := h.2 c
      refine s_iload_n hX dX8_walkAll_23 rfl ?_
      refine s_bipush (v := 24) hX dX8_walkAll_24 rfl ?_
      refine s_imul hX dX8_walkAll_26 ?_
      refine s_iload_n hX dX8_walkAll_27 rfl ?_
      refine s_iadd hX dX8_walkAll_28 ?_
      refine s_istore (lv' := [some (vr c_reader), some (vi l1), some (vi l2), some (vi l3), some (vi ((l1 * 24) + l3))]) hX dX8_walkAll_29 rfl rfl (Nat.le_of_ble_eq_true rfl) ?_
      refine s_aload_n hX dX8_walkAll_31 rfl ?_
      refine s_getr hX fi_X8_18 ly_c_reader rfl dX8_walkAll_32 ?_
      refine s_iload hX dX8_walkAll_35 rfl ?_
      have hi := h.1
      replace h := h.2
      refine s_ialdv (v := (M.1 c_reader_goes (Int32.toNatClampNeg ((l1 * 24) + l3)))) hX ly_c_reader_goes hi dX8_walkAll_37 rfl ?_
      refine s_iconst (v := (-1)) hX dX8_walkAll_38 rfl ?_
      refine s_icmp_eq (tgt := 50) hX dX8_walkAll_39 (by decide) (fun c => ?_) (fun c => ?_)
      · replace h := h.1 c
        refine s_aload_n hX dX8_walkAll_50 rfl ?_
        refine s_getr hX fi_X8_26 ly_c_reader rfl dX8_walkAll_51 ?_
        refine s_getr hX fi_X8_205 ly_c_draft rfl dX8_walkAll_54 ?_
        refine s_iload hX dX8_walkAll_57 rfl ?_
        refine s_iload_n hX dX8_walkAll_59 rfl ?_
        have hi := h.1
        replace h := h.2
        refine s_iast hX ly_c_draft_place hi dX8_walkAll_60 ?_
        refine s_iinc (v := (l3 + 1)) (lv' := [some (vr c_reader), some (vi l1), some (vi l2), some (vi (l3 + 1)), some (vi ((l1 * 24) + l3))]) hX dX8_walkAll_61 rfl rfl rfl rfl ?_
        refine s_goto (tgt := 17) hX dX8_walkAll_64 (by decide) ?_
        refine s_mask [true, true, true, true, false] (lv' := [some (vr c_reader), some (vi l1), some (vi l2), some (vi (l3 + 1)), none]) rfl rfl ?_
        exact ih _ _ _ h
      · replace h := h.2 c
        refine s_aload_n hX dX8_walkAll_42 rfl ?_
        refine s_getr hX fi_X8_18 ly_c_reader rfl dX8_walkAll_43 ?_
        refine s_iload hX dX8_walkAll_46 rfl ?_
        have hi := h.1
        replace h := h.2
        refine s_ialdv (v := (M.1 c_reader_goes (Int32.toNatClampNeg ((l1 * 24) + l3)))) hX ly_c_reader_goes hi dX8_walkAll_48 rfl ?_
        refine s_nmi (fun x277 ex277 => ?_)
        replace h := h x277 ex277
        refine s_istore_n (lv' := [some (vr c_reader), some (vi l1), some (vi x277), some (vi l3), some (vi ((l1 * 24) + l3))]) hX dX8_walkAll_49 rfl rfl (Nat.le_of_ble_eq_true rfl) ?_
        refine s_aload_n hX dX8_walkAll_50 rfl ?_
        refine s_getr hX fi_X8_26 ly_c_reader rfl dX8_walkAll_51 ?_
        refine s_getr hX fi_X8_205 ly_c_draft rfl dX8_walkAll_54 ?_
        refine s_iload hX dX8_walkAll_57 rfl ?_
        refine s_iload_n hX dX8_walkAll_59 rfl ?_
        have hi := h.1
        replace h := h.2
        refine s_iast hX ly_c_draft_place hi dX8_walkAll_60 ?_
        refine s_iinc (v := (l3 + 1)) (lv' := [some (vr c_reader), some (vi l1), some (vi x277), some (vi (l3 + 1)), some (vi ((l1 * 24) + l3))]) hX dX8_walkAll_61 rfl rfl rfl rfl ?_
        refine s_goto (tgt := 17) hX dX8_walkAll_64 (by decide) ?_
        refine s_mask [true, true, true, true, false] (lv' := [some (vr c_reader), some (vi l1), some (vi x277), some (vi (l3 + 1)), none]) rfl rfl ?_
        exact ih _ _ _ h
def w_Rd_walkAll_L2 (K : Mem → Prop) (Q : Mem → Prop) : Nat → Int32 → Mem → Prop
  | 0, _, _ => False
  | n + 1, l1, M => (((M.1 c_draft Land_people) ≤ l1 → K M) ∧ (¬ (M.1 c_draft Land_people) ≤ l1 → (∃ n279, w_Rd_walkAll_L17 l1 (fun M278 => w_Rd_walkAll_L2 K Q n (l1 + 1) M278) Q n279 0 0 M)))
set_option maxHeartbeats 4000000 in
theorem t_Rd_walkAll_L2 {X : Cx} (hX : Cok X cX8_walkAll RX8 5 none 1 0 0) {Q : Mem → Prop} (hq : RV X 0 0 LY Q) {K : Mem → Prop} (hK : ∀ (M : Mem), K M → Wat X 0 0 LY 73 [none, none, none, none, none] [] M) : ∀ (n : Nat) (l1 : Int32) (M : Mem), w_Rd_walkAll_L2 K Q n l1 M → Wat X 0 0 LY 2 [some (vr c_reader), some (vi l1), none, none, none] [] M := by
  intro n
  induction n with
  | zero => intro _ _ h; exact h.elim
  | succ n ih =>
    intro l1 M h
    refine s_iload_n hX dX8_walkAll_2 rfl ?_
    refine s_aload_n hX dX8_walkAll_3 rfl ?_
    refine s_getr hX fi_X8_26 ly_c_reader rfl dX8_walkAll_4 ?_
    refine s_getiv (v := (M.1 c_draft Land_people)) hX fi_X8_137 ly_c_draft rfl dX8_walkAll_7 rfl ?_
    refine s_icmp_ge (tgt := 73) hX dX8_walkAll_10 (by decide) (fun c => ?_) (fun c => ?_)
    · replace h := h.1 c
      refine s_mask [false, false, true, true, true] (lv' := [none, none, none, none, none]) rfl rfl ?_
      exact hK _ h
    · replace h := h.2 c
      refine s_iconst (v := 0) hX dX8_walkAll_13 rfl ?_
      refine s_istore_n (lv' := [some (vr c_reader), some (vi l1), some (vi 0), none, none]) hX dX8_walkAll_14 rfl rfl (Nat.le_of_ble_eq_true rfl) ?_
      refine s_iconst (v := 0) hX dX8_walkAll_15 rfl ?_
      refine s_istore_n (lv' := [some (vr c_reader), some (vi l1), some (vi 0), some (vi 0), none]) hX dX8_walkAll_16 rfl rfl (Nat.le_of_ble_eq_true rfl) ?_
      obtain ⟨n279, h⟩ := h
      refine t_Rd_walkAll_L17 hX hq ?_ n279 _ _ _ h
      intro M278 h
      refine s_iinc (v := (l1 + 1)) (lv' := [some (vr c_reader), some (vi (l1 + 1)), none, none, none]) hX dX8_walkAll_67 rfl rfl rfl rfl ?_
      refine s_goto (tgt := 2) hX dX8_walkAll_70 (by decide) ?_
      exact ih _ _ h
def w_Rd_walkAll (M : Mem) (Q : Mem → Prop) : Prop :=
  (∃ n281, w_Rd_walkAll_L2 (fun M280 => Q M280) Q n281 0 M)
set_option maxHeartbeats 4000000 in
theorem t_Rd_walkAll {X : Cx} (hX : Cok X cX8_walkAll RX8 5 none 1 0 0) {Q : Mem → Prop} (hq : RV X 0 0 LY Q) {M : Mem} (h : w_Rd_walkAll M Q) : Wat X 0 0 LY 0 [some (vr c_reader), none, none, none, none] [] M := by
  refine s_iconst (v := 0) hX dX8_walkAll_0 rfl ?_
  refine s_istore_n (lv' := [some (vr c_reader), some (vi 0), none, none, none]) hX dX8_walkAll_1 rfl rfl (Nat.le_of_ble_eq_true rfl) ?_
  obtain ⟨n281, h⟩ := h
  refine t_Rd_walkAll_L2 hX hq ?_ n281 _ _ h
  intro M280 h
  exact s_vret hX hq rfl dX8_walkAll_73 h
theorem c_Rd_walkAll {M : Mem} {Q : Mem → Prop} (h : w_Rd_walkAll M Q) : CV yX8_walkAll cX8_walkAll 5 none 1 0 0 LY LY [vr c_reader] M Q := mk_v rfl wd_co_X8_walkAll rfl rfl (Nat.le_of_ble_eq_true rfl) (fun X hX hq => t_Rd_walkAll hX hq h)
theorem mv_Rd_walkAll : MV yX8_walkAll cX8_walkAll 5 none RX8 0 := ⟨wd_co_X8_walkAll, wd_im_X8_walkAll, wd_se_X8_walkAll, wd_in_X8, by decide +kernel, by decide⟩
def w_Rd_read_L54 (K : Mem → Prop) (Q : Int32 → Mem → Prop) : Nat → Int32 → Mem → Prop
  | 0, _, _ => False
  | n + 1, l1, M => ((1000 ≤ l1 → K M) ∧ (¬ 1000 ≤ l1 → (((M.1 c_tape Tape_token) = 0 → K M) ∧ (¬ (M.1 c_tape Tape_token) = 0 → w_Rd_readLine M (fun b275 M274 => ((b275 = true → w_Rd_read_L54 K Q n (l1 + 1) M274) ∧ (b275 = false → Q (M274.1 c_tape Tape_fault) M274)))))))
set_option maxHeartbeats 4000000 in
theorem t_Rd_read_L54 {X : Cx} (hX : Cok X cX8_read RX8 2 ((some .int)) 69 0 0) {Q : Int32 → Mem → Prop} (hq : RI X 0 0 LY Q) {K : Mem → Prop} (hK : ∀ (M : Mem), K M → Wat X 0 0 LY 92 [some (vr c_reader), none] [] M) : ∀ (n : Nat) (l1 : Int32) (M : Mem), w_Rd_read_L54 K Q n l1 M → Wat X 0 0 LY 54 [some (vr c_reader), some (vi l1)] [] M := by
  intro n
  induction n with
  | zero => intro _ _ h; exact h.elim
  | succ n ih =>
    intro l1 M h
    refine s_iload_n hX dX8_read_54 rfl ?_
    refine s_sipush (v := 1000) hX dX8_read_55 rfl ?_
    refine s_icmp_ge (tgt := 92) hX dX8_read_58 (by decide) (fun c => ?_) (fun c => ?_)
    · replace h := h.1 c
      refine s_mask [true, false] (lv' := [some (vr c_reader), none]) rfl rfl ?_
      exact hK _ h
    · replace h := h.2 c
      refine s_aload_n hX dX8_read_61 rfl ?_
      refine s_getr hX fi_X8_22 ly_c_reader rfl dX8_read_62 ?_
      refine s_getiv (v := (M.1 c_tape Tape_token)) hX fi_X8_73 ly_c_tape rfl dX8_read_65 rfl ?_
      refine s_if_eq (tgt := 92) hX dX8_read_68 (by decide) (fun c => ?_) (fun c => ?_)
      · replace h := h.1 c
        refine s_mask [true, false] (lv' := [some (vr c_reader), none]) rfl rfl ?_
        exact hK _ h
      · replace h := h.2 c
        refine s_aload_n hX dX8_read_71 rfl ?_
        refine s_cvi (as := []) (rest := []) hX (c_Rd_readLine h) mv_Rd_readLine wd_ml_X8_76 dX8_read_72 ly_c_reader rfl rfl (Nat.le_of_ble_eq_true rfl) rfl (by decide) ⟨Nat.zero_le _, Nat.zero_le _⟩ (fun b275_ M274 h => ?_)
        obtain ⟨b275, rfl, h⟩ := h
        refine s_if_ne (tgt := 86) hX dX8_read_75 (by decide) (fun c => ?_) (fun c => ?_)
        · replace h := h.1 (b2i_1 c)
          refine s_iinc (v := (l1 + 1)) (lv' := [some (vr c_reader), some (vi (l1 + 1))]) hX dX8_read_86 rfl rfl rfl rfl ?_
          refine s_goto (tgt := 54) hX dX8_read_89 (by decide) ?_
          exact ih _ _ h
        · replace h := h.2 (b2i_0 c)
          refine s_aload_n hX dX8_read_78 rfl ?_
          refine s_getr hX fi_X8_22 ly_c_reader rfl dX8_read_79 ?_
          refine s_getiv (v := (M274.1 c_tape Tape_fault)) hX fi_X8_70 ly_c_tape rfl dX8_read_82 rfl ?_
          exact s_iret hX hq rfl dX8_read_85 h
def w_Rd_read_j92 (M : Mem) (Q : Int32 → Mem → Prop) : Prop :=
  w_Rd_walkAll M (fun M282 => Q 0 M282)
set_option maxHeartbeats 4000000 in
theorem t_Rd_read_j92 {X : Cx} (hX : Cok X cX8_read RX8 2 ((some .int)) 69 0 0) {Q : Int32 → Mem → Prop} (hq : RI X 0 0 LY Q) {M : Mem} (h : w_Rd_read_j92 M Q) : Wat X 0 0 LY 92 [some (vr c_reader), none] [] M := by
  refine s_aload_n hX dX8_read_92 rfl ?_
  refine s_cvv (as := []) (rest := []) hX (c_Rd_walkAll h) mv_Rd_walkAll wd_ml_X8_79 dX8_read_93 ly_c_reader rfl rfl (Nat.le_of_ble_eq_true rfl) rfl (by decide) ⟨Nat.zero_le _, Nat.zero_le _⟩ (fun M282 h => ?_)
  refine s_iconst (v := 0) hX dX8_read_96 rfl ?_
  exact s_iret hX hq rfl dX8_read_97 h
def w_Rd_read (M : Mem) (Q : Int32 → Mem → Prop) : Prop :=
  w_Land_clear M (fun M14 => w_Jarr_fill_reader_goes (-1) M14 (fun M17 => w_Tape_rewind (si (si (si M17 c_reader Rd_goCount 0) c_reader Rd_callCount 0) c_reader Rd_hearIsTold 0) (fun M34 => w_Rd_readHills M34 (fun b60 M59 => ((b60 = true → (∃ n283, w_Rd_read_L54 (fun M276 => w_Rd_read_j92 M276 Q) Q n283 0 M59)) ∧ (b60 = false → Q (M59.1 c_tape Tape_fault) M59))))))
set_option maxHeartbeats 4000000 in
theorem t_Rd_read {X : Cx} (hX : Cok X cX8_read RX8 2 ((some .int)) 69 0 0) {Q : Int32 → Mem → Prop} (hq : RI X 0 0 LY Q) {M : Mem} (h : w_Rd_read M Q) : Wat X 0 0 LY 0 [some (vr c_reader), none] [] M := by
  refine s_aload_n hX dX8_read_0 rfl ?_
  refine s_getr hX fi_X8_26 ly_c_reader rfl dX8_read_1 ?_
  refine s_cvv (as := []) (rest := []) hX (c_Land_clear h) mv_Land_clear wd_ml_X8_39 dX8_read_4 ly_c_draft rfl rfl (Nat.le_of_ble_eq_true rfl) rfl (by decide) ⟨Nat.zero_le _, Nat.zero_le _⟩ (fun M14 h => ?_)
  refine s_aload_n hX dX8_read_7 rfl ?_
  refine s_getr hX fi_X8_18 ly_c_reader rfl dX8_read_8 ?_
  refine s_iconst (v := (-1)) hX dX8_read_11 rfl ?_
  refine s_csv (as := [vr c_reader_goes, vi (-1)]) (rest := []) hX (c_Jarr_fill_reader_goes h) ms_Jarr_fill_reader_goes wd_ml_X8_44 dX8_read_12 rfl (Nat.le_of_ble_eq_true rfl) rfl (by decide) ⟨Nat.zero_le _, Nat.zero_le _⟩ (fun M17 h => ?_)
  refine s_aload_n hX dX8_read_15 rfl ?_
  refine s_iconst (v := 0) hX dX8_read_16 rfl ?_
  refine s_puti hX fi_X8_50 fp_X8 rfl (by decide +kernel) ly_c_reader rfl dX8_read_17 ?_
  refine s_aload_n hX dX8_read_20 rfl ?_
  refine s_iconst (v := 0) hX dX8_read_21 rfl ?_
  refine s_puti hX fi_X8_54 fp_X8 rfl (by decide +kernel) ly_c_reader rfl dX8_read_22 ?_
  refine s_aload_n hX dX8_read_25 rfl ?_
  refine s_iconst (v := 0) hX dX8_read_26 rfl ?_
  refine s_putz hX fi_X8_57 fp_X8 rfl (by decide +kernel) ⟨rfl, rfl⟩ ly_c_reader rfl dX8_read_27 ?_
  refine s_aload_n hX dX8_read_30 rfl ?_
  refine s_getr hX fi_X8_22 ly_c_reader rfl dX8_read_31 ?_
  refine s_cvv (as := []) (rest := []) hX (c_Tape_rewind h) mv_Tape_rewind wd_ml_X8_61 dX8_read_34 ly_c_tape rfl rfl (Nat.le_of_ble_eq_true rfl) rfl (by decide) ⟨Nat.zero_le _, Nat.zero_le _⟩ (fun M34 h => ?_)
  refine s_aload_n hX dX8_read_37 rfl ?_
  refine s_cvi (as := []) (rest := []) hX (c_Rd_readHills h) mv_Rd_readHills wd_ml_X8_66 dX8_read_38 ly_c_reader rfl rfl (Nat.le_of_ble_eq_true rfl) rfl (by decide) ⟨Nat.zero_le _, Nat.zero_le _⟩ (fun b60_ M59 h => ?_)
  obtain ⟨b60, rfl, h⟩ := h
  refine s_if_ne (tgt := 52) hX dX8_read_41 (by decide) (fun c => ?_) (fun c => ?_)
  · replace h := h.1 (b2i_1 c)
    refine s_iconst (v := 0) hX dX8_read_52 rfl ?_
    refine s_istore_n (lv' := [some (vr c_reader), some (vi 0)]) hX dX8_read_53 rfl rfl (Nat.le_of_ble_eq_true rfl) ?_
    obtain ⟨n283, h⟩ := h
    refine t_Rd_read_L54 hX hq ?_ n283 _ _ h
    intro M276 h
    exact t_Rd_read_j92 hX hq h
  · replace h := h.2 (b2i_0 c)
    refine s_aload_n hX dX8_read_44 rfl ?_
    refine s_getr hX fi_X8_22 ly_c_reader rfl dX8_read_45 ?_
    refine s_getiv (v := (M59.1 c_tape Tape_fault)) hX fi_X8_70 ly_c_tape rfl dX8_read_48 rfl ?_
    exact s_iret hX hq rfl dX8_read_51 h
theorem c_Rd_read {M : Mem} {Q : Int32 → Mem → Prop} (h : w_Rd_read M Q) : CI yX8_read cX8_read 2 ((some .int)) 69 0 0 LY LY [vr c_reader] M Q := mk_i rfl wd_co_X8_read rfl rfl (Nat.le_of_ble_eq_true rfl) (fun X hX hq => t_Rd_read hX hq h)
theorem mv_Rd_read : MV yX8_read cX8_read 2 ((some .int)) RX8 0 := ⟨wd_co_X8_read, wd_im_X8_read, wd_se_X8_read, wd_in_X8, by decide +kernel, by decide⟩
def w_Law_copyFrom (M : Mem) (Q : Mem → Prop) : Prop :=
  ((M.1 c_draft_owe Law_isTold) &&& 1 = (M.1 c_draft_owe Law_isTold) ∧ Q (si (si (si M c_land_owe Law_isTold (M.1 c_draft_owe Law_isTold)) c_land_owe Law_from (M.1 c_draft_owe Law_from)) c_land_owe Law_to (M.1 c_draft_owe Law_to)))
set_option maxHeartbeats 4000000 in
theorem t_Law_copyFrom {X : Cx} (hX : Cok X cX6_copyFrom RX6 2 none 1 0 0) {Q : Mem → Prop} (hq : RV X 0 0 LY Q) {M : Mem} (h : w_Law_copyFrom M Q) : Wat X 0 0 LY 0 [some (vr c_land_owe), some (vr c_draft_owe)] [] M := by
  refine s_aload_n hX dX6_copyFrom_0 rfl ?_
  refine s_aload_n hX dX6_copyFrom_1 rfl ?_
  refine s_getiv (v := (M.1 c_draft_owe Law_isTold)) hX fi_X6_16 ly_c_draft_owe rfl dX6_copyFrom_2 rfl ?_
  have hz := h.1
  replace h := h.2
  refine s_putz hX fi_X6_16 fp_X6 rfl (by decide +kernel) (nz_of hz) ly_c_land_owe rfl dX6_copyFrom_5 ?_
  refine s_aload_n hX dX6_copyFrom_8 rfl ?_
  refine s_aload_n hX dX6_copyFrom_9 rfl ?_
  refine s_getiv (v := (M.1 c_draft_owe Law_from)) hX fi_X6_20 ly_c_draft_owe rfl dX6_copyFrom_10 rfl ?_
  refine s_puti hX fi_X6_20 fp_X6 rfl (by decide +kernel) ly_c_land_owe rfl dX6_copyFrom_13 ?_
  refine s_aload_n hX dX6_copyFrom_16 rfl ?_
  refine s_aload_n hX dX6_copyFrom_17 rfl ?_
  refine s_getiv (v := (M.1 c_draft_owe Law_to)) hX fi_X6_24 ly_c_draft_owe rfl dX6_copyFrom_18 rfl ?_
  refine s_puti hX fi_X6_24 fp_X6 rfl (by decide +kernel) ly_c_land_owe rfl dX6_copyFrom_21 ?_
  exact s_vret hX hq rfl dX6_copyFrom_24 h
theorem c_Law_copyFrom {M : Mem} {Q : Mem → Prop} (h : w_Law_copyFrom M Q) : CV yX6_copyFrom cX6_copyFrom 2 none 1 0 0 LY LY [vr c_land_owe, vr c_draft_owe] M Q := mk_v rfl wd_co_X6_copyFrom rfl rfl (Nat.le_of_ble_eq_true rfl) (fun X hX hq => t_Law_copyFrom hX hq h)
theorem mv_Law_copyFrom : MV yX6_copyFrom cX6_copyFrom 2 none RX6 1 := ⟨wd_co_X6_copyFrom, wd_im_X6_copyFrom, wd_se_X6_copyFrom, wd_in_X6, by decide +kernel, by decide⟩
def w_Law_copyFrom_draft_fog (M : Mem) (Q : Mem → Prop) : Prop :=
  ((M.1 c_draft_fog Law_isTold) &&& 1 = (M.1 c_draft_fog Law_isTold) ∧ Q (si (si (si M c_land_fog Law_isTold (M.1 c_draft_fog Law_isTold)) c_land_fog Law_from (M.1 c_draft_fog Law_from)) c_land_fog Law_to (M.1 c_draft_fog Law_to)))
set_option maxHeartbeats 4000000 in
theorem t_Law_copyFrom_draft_fog {X : Cx} (hX : Cok X cX6_copyFrom RX6 2 none 1 0 0) {Q : Mem → Prop} (hq : RV X 0 0 LY Q) {M : Mem} (h : w_Law_copyFrom_draft_fog M Q) : Wat X 0 0 LY 0 [some (vr c_land_fog), some (vr c_draft_fog)] [] M := by
  refine s_aload_n hX dX6_copyFrom_0 rfl ?_
  refine s_aload_n hX dX6_copyFrom_1 rfl ?_
  refine s_getiv (v := (M.1 c_draft_fog Law_isTold)) hX fi_X6_16 ly_c_draft_fog rfl dX6_copyFrom_2 rfl ?_
  have hz := h.1
  replace h := h.2
  refine s_putz hX fi_X6_16 fp_X6 rfl (by decide +kernel) (nz_of hz) ly_c_land_fog rfl dX6_copyFrom_5 ?_
  refine s_aload_n hX dX6_copyFrom_8 rfl ?_
  refine s_aload_n hX dX6_copyFrom_9 rfl ?_
  refine s_getiv (v := (M.1 c_draft_fog Law_from)) hX fi_X6_20 ly_c_draft_fog rfl dX6_copyFrom_10 rfl ?_
  refine s_puti hX fi_X6_20 fp_X6 rfl (by decide +kernel) ly_c_land_fog rfl dX6_copyFrom_13 ?_
  refine s_aload_n hX dX6_copyFrom_16 rfl ?_
  refine s_aload_n hX dX6_copyFrom_17 rfl ?_
  refine s_getiv (v := (M.1 c_draft_fog Law_to)) hX fi_X6_24 ly_c_draft_fog rfl dX6_copyFrom_18 rfl ?_
  refine s_puti hX fi_X6_24 fp_X6 rfl (by decide +kernel) ly_c_land_fog rfl dX6_copyFrom_21 ?_
  exact s_vret hX hq rfl dX6_copyFrom_24 h
theorem c_Law_copyFrom_draft_fog {M : Mem} {Q : Mem → Prop} (h : w_Law_copyFrom_draft_fog M Q) : CV yX6_copyFrom cX6_copyFrom 2 none 1 0 0 LY LY [vr c_land_fog, vr c_draft_fog] M Q := mk_v rfl wd_co_X6_copyFrom rfl rfl (Nat.le_of_ble_eq_true rfl) (fun X hX hq => t_Law_copyFrom_draft_fog hX hq h)
theorem mv_Law_copyFrom_draft_fog : MV yX6_copyFrom cX6_copyFrom 2 none RX6 1 := ⟨wd_co_X6_copyFrom, wd_im_X6_copyFrom, wd_se_X6_copyFrom, wd_in_X6, by decide +kernel, by decide⟩
def w_Land_copyFrom (M : Mem) (Q : Mem → Prop) : Prop :=
  w_Law_copyFrom (si (sa (sa (sa (sa (sa (sa (si (si (si (si (si M c_land Land_wide (M.1 c_draft Land_wide)) c_land Land_deep (M.1 c_draft Land_deep)) c_land Land_people (M.1 c_draft Land_people)) c_land Land_birds (M.1 c_draft Land_birds)) c_land Land_hear (M.1 c_draft Land_hear)) c_land_kind (va_cpy (M.1 c_draft_kind) (M.1 c_land_kind) (Int32.toNatClampNeg 0) (Int32.toNatClampNeg 0) (Int32.toNatClampNeg 6))) c_land_purse (va_cpy (M.1 c_draft_purse) (M.1 c_land_purse) (Int32.toNatClampNeg 0) (Int32.toNatClampNeg 0) (Int32.toNatClampNeg 6))) c_land_place (va_cpy (M.1 c_draft_place) (M.1 c_land_place) (Int32.toNatClampNeg 0) (Int32.toNatClampNeg 0) (Int32.toNatClampNeg 144))) c_land_bush (va_cpy (M.1 c_draft_bush) (M.1 c_land_bush) (Int32.toNatClampNeg 0) (Int32.toNatClampNeg 0) (Int32.toNatClampNeg 5))) c_land_times (va_cpy (M.1 c_draft_times) (M.1 c_land_times) (Int32.toNatClampNeg 0) (Int32.toNatClampNeg 0) (Int32.toNatClampNeg 120))) c_land_code (va_cpy (M.1 c_draft_code) (M.1 c_land_code) (Int32.toNatClampNeg 0) (Int32.toNatClampNeg 0) (Int32.toNatClampNeg 1024))) c_land Land_codeLength (M.1 c_draft Land_codeLength)) (fun M286 => w_Law_copyFrom_draft_fog M286 (fun M287 => Q M287))
set_option maxHeartbeats 4000000 in
theorem t_Land_copyFrom {X : Cx} (hX : Cok X cX5_copyFrom RX5 2 none 2 0 0) {Q : Mem → Prop} (hq : RV X 0 0 LY Q) {M : Mem} (h : w_Land_copyFrom M Q) : Wat X 0 0 LY 0 [some (vr c_land), some (vr c_draft)] [] M := by
  refine s_aload_n hX dX5_copyFrom_0 rfl ?_
  refine s_aload_n hX dX5_copyFrom_1 rfl ?_
  refine s_getiv (v := (M.1 c_draft Land_wide)) hX fi_X5_45 ly_c_draft rfl dX5_copyFrom_2 rfl ?_
  refine s_puti hX fi_X5_45 fp_X5 rfl (by decide +kernel) ly_c_land rfl dX5_copyFrom_5 ?_
  refine s_aload_n hX dX5_copyFrom_8 rfl ?_
  refine s_aload_n hX dX5_copyFrom_9 rfl ?_
  refine s_getiv (v := (M.1 c_draft Land_deep)) hX fi_X5_49 ly_c_draft rfl dX5_copyFrom_10 rfl ?_
  refine s_puti hX fi_X5_49 fp_X5 rfl (by decide +kernel) ly_c_land rfl dX5_copyFrom_13 ?_
  refine s_aload_n hX dX5_copyFrom_16 rfl ?_
  refine s_aload_n hX dX5_copyFrom_17 rfl ?_
  refine s_getiv (v := (M.1 c_draft Land_people)) hX fi_X5_52 ly_c_draft rfl dX5_copyFrom_18 rfl ?_
  refine s_puti hX fi_X5_52 fp_X5 rfl (by decide +kernel) ly_c_land rfl dX5_copyFrom_21 ?_
  refine s_aload_n hX dX5_copyFrom_24 rfl ?_
  refine s_aload_n hX dX5_copyFrom_25 rfl ?_
  refine s_getiv (v := (M.1 c_draft Land_birds)) hX fi_X5_55 ly_c_draft rfl dX5_copyFrom_26 rfl ?_
  refine s_puti hX fi_X5_55 fp_X5 rfl (by decide +kernel) ly_c_land rfl dX5_copyFrom_29 ?_
  refine s_aload_n hX dX5_copyFrom_32 rfl ?_
  refine s_aload_n hX dX5_copyFrom_33 rfl ?_
  refine s_getiv (v := (M.1 c_draft Land_hear)) hX fi_X5_58 ly_c_draft rfl dX5_copyFrom_34 rfl ?_
  refine s_puti hX fi_X5_58 fp_X5 rfl (by decide +kernel) ly_c_land rfl dX5_copyFrom_37 ?_
  refine s_aload_n hX dX5_copyFrom_40 rfl ?_
  refine s_getr hX fi_X5_9 ly_c_draft rfl dX5_copyFrom_41 ?_
  refine s_iconst (v := 0) hX dX5_copyFrom_44 rfl ?_
  refine s_aload_n hX dX5_copyFrom_45 rfl ?_
  refine s_getr hX fi_X5_9 ly_c_land rfl dX5_copyFrom_46 ?_
  refine s_iconst (v := 0) hX dX5_copyFrom_49 rfl ?_
  refine s_bipush (v := 6) hX dX5_copyFrom_50 rfl ?_
  refine s_acopy hX ly_c_draft_kind ly_c_land_kind wd_ml_X5_88 rfl (by decide) (Nat.le_of_ble_eq_true rfl) (by decide) (by decide) (by decide) (by decide) (by decide) dX5_copyFrom_52 ?_
  refine s_aload_n hX dX5_copyFrom_55 rfl ?_
  refine s_getr hX fi_X5_15 ly_c_draft rfl dX5_copyFrom_56 ?_
  refine s_iconst (v := 0) hX dX5_copyFrom_59 rfl ?_
  refine s_aload_n hX dX5_copyFrom_60 rfl ?_
  refine s_getr hX fi_X5_15 ly_c_land rfl dX5_copyFrom_61 ?_
  refine s_iconst (v := 0) hX dX5_copyFrom_64 rfl ?_
  refine s_bipush (v := 6) hX dX5_copyFrom_65 rfl ?_
  refine s_acopy hX ly_c_draft_purse ly_c_land_purse wd_ml_X5_88 rfl (by decide) (Nat.le_of_ble_eq_true rfl) (by decide) (by decide) (by decide) (by decide) (by decide) dX5_copyFrom_67 ?_
  refine s_aload_n hX dX5_copyFrom_70 rfl ?_
  refine s_getr hX fi_X5_18 ly_c_draft rfl dX5_copyFrom_71 ?_
  refine s_iconst (v := 0) hX dX5_copyFrom_74 rfl ?_
  refine s_aload_n hX dX5_copyFrom_75 rfl ?_
  refine s_getr hX fi_X5_18 ly_c_land rfl dX5_copyFrom_76 ?_
  refine s_iconst (v := 0) hX dX5_copyFrom_79 rfl ?_
  refine s_sipush (v := 144) hX dX5_copyFrom_80 rfl ?_
  refine s_acopy hX ly_c_draft_place ly_c_land_place wd_ml_X5_88 rfl (by decide) (Nat.le_of_ble_eq_true rfl) (by decide) (by decide) (by decide) (by decide) (by decide) dX5_copyFrom_83 ?_
  refine s_aload_n hX dX5_copyFrom_86 rfl ?_
  refine s_getr hX fi_X5_21 ly_c_draft rfl dX5_copyFrom_87 ?_
  refine s_iconst (v := 0) hX dX5_copyFrom_90 rfl ?_
  refine s_aload_n hX dX5_copyFrom_91 rfl ?_
  refine s_getr hX fi_X5_21 ly_c_land rfl dX5_copyFrom_92 ?_
  refine s_iconst (v := 0) hX dX5_copyFrom_95 rfl ?_
  refine s_iconst (v := 5) hX dX5_copyFrom_96 rfl ?_
  refine s_acopy hX ly_c_draft_bush ly_c_land_bush wd_ml_X5_88 rfl (by decide) (Nat.le_of_ble_eq_true rfl) (by decide) (by decide) (by decide) (by decide) (by decide) dX5_copyFrom_97 ?_
  refine s_aload_n hX dX5_copyFrom_100 rfl ?_
  refine s_getr hX fi_X5_24 ly_c_draft rfl dX5_copyFrom_101 ?_
  refine s_iconst (v := 0) hX dX5_copyFrom_104 rfl ?_
  refine s_aload_n hX dX5_copyFrom_105 rfl ?_
  refine s_getr hX fi_X5_24 ly_c_land rfl dX5_copyFrom_106 ?_
  refine s_iconst (v := 0) hX dX5_copyFrom_109 rfl ?_
  refine s_bipush (v := 120) hX dX5_copyFrom_110 rfl ?_
  refine s_acopy hX ly_c_draft_times ly_c_land_times wd_ml_X5_88 rfl (by decide) (Nat.le_of_ble_eq_true rfl) (by decide) (by decide) (by decide) (by decide) (by decide) dX5_copyFrom_112 ?_
  refine s_aload_n hX dX5_copyFrom_115 rfl ?_
  refine s_getr hX fi_X5_27 ly_c_draft rfl dX5_copyFrom_116 ?_
  refine s_iconst (v := 0) hX dX5_copyFrom_119 rfl ?_
  refine s_aload_n hX dX5_copyFrom_120 rfl ?_
  refine s_getr hX fi_X5_27 ly_c_land rfl dX5_copyFrom_121 ?_
  refine s_iconst (v := 0) hX dX5_copyFrom_124 rfl ?_
  refine s_sipush (v := 1024) hX dX5_copyFrom_125 rfl ?_
  refine s_acopy hX ly_c_draft_code ly_c_land_code wd_ml_X5_88 rfl (by decide) (Nat.le_of_ble_eq_true rfl) (by decide) (by decide) (by decide) (by decide) (by decide) dX5_copyFrom_128 ?_
  refine s_aload_n hX dX5_copyFrom_131 rfl ?_
  refine s_aload_n hX dX5_copyFrom_132 rfl ?_
  refine s_getiv (v := (M.1 c_draft Land_codeLength)) hX fi_X5_67 ly_c_draft rfl dX5_copyFrom_133 rfl ?_
  refine s_puti hX fi_X5_67 fp_X5 rfl (by decide +kernel) ly_c_land rfl dX5_copyFrom_136 ?_
  refine s_aload_n hX dX5_copyFrom_139 rfl ?_
  refine s_getr hX fi_X5_35 ly_c_land rfl dX5_copyFrom_140 ?_
  refine s_aload_n hX dX5_copyFrom_143 rfl ?_
  refine s_getr hX fi_X5_35 ly_c_draft rfl dX5_copyFrom_144 ?_
  refine s_cvv (as := [vr c_draft_owe]) (rest := []) hX (c_Law_copyFrom h) mv_Law_copyFrom wd_ml_X5_94 dX5_copyFrom_147 ly_c_land_owe rfl rfl (Nat.le_of_ble_eq_true rfl) rfl (by decide) ⟨Nat.zero_le _, Nat.zero_le _⟩ (fun M286 h => ?_)
  refine s_aload_n hX dX5_copyFrom_150 rfl ?_
  refine s_getr hX fi_X5_39 ly_c_land rfl dX5_copyFrom_151 ?_
  refine s_aload_n hX dX5_copyFrom_154 rfl ?_
  refine s_getr hX fi_X5_39 ly_c_draft rfl dX5_copyFrom_155 ?_
  refine s_cvv (as := [vr c_draft_fog]) (rest := []) hX (c_Law_copyFrom_draft_fog h) mv_Law_copyFrom_draft_fog wd_ml_X5_94 dX5_copyFrom_158 ly_c_land_fog rfl rfl (Nat.le_of_ble_eq_true rfl) rfl (by decide) ⟨Nat.zero_le _, Nat.zero_le _⟩ (fun M287 h => ?_)
  exact s_vret hX hq rfl dX5_copyFrom_161 h
theorem c_Land_copyFrom {M : Mem} {Q : Mem → Prop} (h : w_Land_copyFrom M Q) : CV yX5_copyFrom cX5_copyFrom 2 none 2 0 0 LY LY [vr c_land, vr c_draft] M Q := mk_v rfl wd_co_X5_copyFrom rfl rfl (Nat.le_of_ble_eq_true rfl) (fun X hX hq => t_Land_copyFrom hX hq h)
theorem mv_Land_copyFrom : MV yX5_copyFrom cX5_copyFrom 2 none RX5 1 := ⟨wd_co_X5_copyFrom, wd_im_X5_copyFrom, wd_se_X5_copyFrom, wd_in_X5, by decide +kernel, by decide⟩
def w_Jarr_fill_deeds_debt_L5 (l1 : Int32) (l3 : Int32) (K : Mem → Prop) (Q : Mem → Prop) : Nat → Int32 → Mem → Prop
  | 0, _, _ => False
  | n + 1, l2, M => ((l3 ≤ l2 → K M) ∧ (¬ l3 ≤ l2 → (vp_in l2 6 ∧ w_Jarr_fill_deeds_debt_L5 l1 l3 K Q n (l2 + 1) (si M c_deeds_debt (Int32.toNatClampNeg l2) l1))))
set_option maxHeartbeats 4000000 in
theorem t_Jarr_fill_deeds_debt_L5 {X : Cx} (hX : Cok X cJ7_fill_53178 RJ7 4 none 1 0 0) {Q : Mem → Prop} (hq : RV X 0 0 LY Q) {l1 : Int32} {l3 : Int32} {K : Mem → Prop} (hK : ∀ (M : Mem), K M → Wat X 0 0 LY 20 [none, none, none, none] [] M) : ∀ (n : Nat) (l2 : Int32) (M : Mem), w_Jarr_fill_deeds_debt_L5 l1 l3 K Q n l2 M → Wat X 0 0 LY 5 [some (vr c_deeds_debt), some (vi l1), some (vi l2), some (vi l3)] [] M := by
  intro n
  induction n with
  | zero => intro _ _ h; exact h.elim
  | succ n ih =>
    intro l2 M h
    refine s_iload_n hX dJ7_fill_53178_5 rfl ?_
    refine s_iload_n hX dJ7_fill_53178_6 rfl ?_
    refine s_icmp_ge (tgt := 20) hX dJ7_fill_53178_7 (by decide) (fun c => ?_) (fun c => ?_)
    · replace h := h.1 c
      refine s_mask [false, false, false, false] (lv' := [none, none, none, none]) rfl rfl ?_
      exact hK _ h
    · replace h := h.2 c
      refine s_aload_n hX dJ7_fill_53178_10 rfl ?_
      refine s_iload_n hX dJ7_fill_53178_11 rfl ?_
      refine s_iload_n hX dJ7_fill_53178_12 rfl ?_
      have hi := h.1
      replace h := h.2
      refine s_iast hX ly_c_deeds_debt hi dJ7_fill_53178_13 ?_
      refine s_iinc (v := (l2 + 1)) (lv' := [some (vr c_deeds_debt), some (vi l1), some (vi (l2 + 1)), some (vi l3)]) hX dJ7_fill_53178_14 rfl rfl rfl rfl ?_
      refine s_goto (tgt := 5) hX dJ7_fill_53178_17 (by decide) ?_
      exact ih _ _ h
def w_Jarr_fill_deeds_debt (a0 : Int32) (M : Mem) (Q : Mem → Prop) : Prop :=
  (∃ n290, w_Jarr_fill_deeds_debt_L5 a0 6 (fun M289 => Q M289) Q n290 0 M)
set_option maxHeartbeats 4000000 in
theorem t_Jarr_fill_deeds_debt {X : Cx} (hX : Cok X cJ7_fill_53178 RJ7 4 none 1 0 0) {Q : Mem → Prop} (hq : RV X 0 0 LY Q) {M : Mem} {a0 : Int32} (h : w_Jarr_fill_deeds_debt a0 M Q) : Wat X 0 0 LY 0 [some (vr c_deeds_debt), some (vi a0), none, none] [] M := by
  refine s_iconst (v := 0) hX dJ7_fill_53178_0 rfl ?_
  refine s_istore_n (lv' := [some (vr c_deeds_debt), some (vi a0), some (vi 0), none]) hX dJ7_fill_53178_1 rfl rfl (Nat.le_of_ble_eq_true rfl) ?_
  refine s_aload_n hX dJ7_fill_53178_2 rfl ?_
  refine s_alen (v := 6) hX ly_c_deeds_debt (by decide) rfl dJ7_fill_53178_3 ?_
  refine s_istore_n (lv' := [some (vr c_deeds_debt), some (vi a0), some (vi 0), some (vi 6)]) hX dJ7_fill_53178_4 rfl rfl (Nat.le_of_ble_eq_true rfl) ?_
  obtain ⟨n290, h⟩ := h
  refine t_Jarr_fill_deeds_debt_L5 hX hq ?_ n290 _ _ h
  intro M289 h
  exact s_vret hX hq rfl dJ7_fill_53178_20 h
theorem c_Jarr_fill_deeds_debt {a0 : Int32} {M : Mem} {Q : Mem → Prop} (h : w_Jarr_fill_deeds_debt a0 M Q) : CV yJ7_fill_53178 cJ7_fill_53178 4 none 1 0 0 LY LY [vr c_deeds_debt, vi a0] M Q := mk_v rfl wd_co_J7_fill_53178 rfl rfl (Nat.le_of_ble_eq_true rfl) (fun X hX hq => t_Jarr_fill_deeds_debt hX hq h)
theorem ms_Jarr_fill_deeds_debt : MS yJ7_fill_53178 cJ7_fill_53178 4 none 2 := ⟨wd_co_J7_fill_53178, wd_sm_J7_fill_53178, wd_in_J7, by decide +kernel, by decide⟩
def w_Deeds_begin (M : Mem) (Q : Mem → Prop) : Prop :=
  w_Jarr_fill_deeds_debt (-1) (si (sa M c_deeds_times (va_cpy (M.1 c_land_times) (M.1 c_deeds_times) (Int32.toNatClampNeg 0) (Int32.toNatClampNeg 0) (Int32.toNatClampNeg 120))) c_deeds Deeds_shot 0) (fun M291 => Q M291)
set_option maxHeartbeats 4000000 in
theorem t_Deeds_begin {X : Cx} (hX : Cok X cX1_begin RX1 2 none 2 0 0) {Q : Mem → Prop} (hq : RV X 0 0 LY Q) {M : Mem} (h : w_Deeds_begin M Q) : Wat X 0 0 LY 0 [some (vr c_deeds), some (vr c_land)] [] M := by
  refine s_aload_n hX dX1_begin_0 rfl ?_
  refine s_getr hX fi_X1_24 ly_c_land rfl dX1_begin_1 ?_
  refine s_iconst (v := 0) hX dX1_begin_4 rfl ?_
  refine s_aload_n hX dX1_begin_5 rfl ?_
  refine s_getr hX fi_X1_9 ly_c_deeds rfl dX1_begin_6 ?_
  refine s_iconst (v := 0) hX dX1_begin_9 rfl ?_
  refine s_bipush (v := 120) hX dX1_begin_10 rfl ?_
  refine s_acopy hX ly_c_land_times ly_c_deeds_times wd_ml_X1_27 rfl (by decide) (Nat.le_of_ble_eq_true rfl) (by decide) (by decide) (by decide) (by decide) (by decide) dX1_begin_12 ?_
  refine s_aload_n hX dX1_begin_15 rfl ?_
  refine s_iconst (v := 0) hX dX1_begin_16 rfl ?_
  refine s_puti hX fi_X1_33 fp_X1 rfl (by decide +kernel) ly_c_deeds rfl dX1_begin_17 ?_
  refine s_aload_n hX dX1_begin_20 rfl ?_
  refine s_getr hX fi_X1_15 ly_c_deeds rfl dX1_begin_21 ?_
  refine s_iconst (v := (-1)) hX dX1_begin_24 rfl ?_
  refine s_csv (as := [vr c_deeds_debt, vi (-1)]) (rest := []) hX (c_Jarr_fill_deeds_debt h) ms_Jarr_fill_deeds_debt wd_ml_X1_18 dX1_begin_25 rfl (Nat.le_of_ble_eq_true rfl) rfl (by decide) ⟨Nat.zero_le _, Nat.zero_le _⟩ (fun M291 h => ?_)
  exact s_vret hX hq rfl dX1_begin_28 h
theorem c_Deeds_begin {M : Mem} {Q : Mem → Prop} (h : w_Deeds_begin M Q) : CV yX1_begin cX1_begin 2 none 2 0 0 LY LY [vr c_deeds, vr c_land] M Q := mk_v rfl wd_co_X1_begin rfl rfl (Nat.le_of_ble_eq_true rfl) (fun X hX hq => t_Deeds_begin hX hq h)
theorem mv_Deeds_begin : MV yX1_begin cX1_begin 2 none RX1 1 := ⟨wd_co_X1_begin, wd_im_X1_begin, wd_se_X1_begin, wd_in_X1, by decide +kernel, by decide⟩
def w_Jarr_fill_debts_reach_L5 (l1 : Int32) (l3 : Int32) (K : Mem → Prop) (Q : Mem → Prop) : Nat → Int32 → Mem → Prop
  | 0, _, _ => False
  | n + 1, l2, M => ((l3 ≤ l2 → K M) ∧ (¬ l3 ≤ l2 → (vp_in l2 1536 ∧ w_Jarr_fill_debts_reach_L5 l1 l3 K Q n (l2 + 1) (si M c_debts_reach (Int32.toNatClampNeg l2) l1))))
set_option maxHeartbeats 4000000 in
theorem t_Jarr_fill_debts_reach_L5 {X : Cx} (hX : Cok X cJ7_fill_53178 RJ7 4 none 1 0 0) {Q : Mem → Prop} (hq : RV X 0 0 LY Q) {l1 : Int32} {l3 : Int32} {K : Mem → Prop} (hK : ∀ (M : Mem), K M → Wat X 0 0 LY 20 [none, none, none, none] [] M) : ∀ (n : Nat) (l2 : Int32) (M : Mem), w_Jarr_fill_debts_reach_L5 l1 l3 K Q n l2 M → Wat X 0 0 LY 5 [some (vr c_debts_reach), some (vi l1), some (vi l2), some (vi l3)] [] M := by
  intro n
  induction n with
  | zero => intro _ _ h; exact h.elim
  | succ n ih =>
    intro l2 M h
    refine s_iload_n hX dJ7_fill_53178_5 rfl ?_
    refine s_iload_n hX dJ7_fill_53178_6 rfl ?_
    refine s_icmp_ge (tgt := 20) hX dJ7_fill_53178_7 (by decide) (fun c => ?_) (fun c => ?_)
    · replace h := h.1 c
      refine s_mask [false, false, false, false] (lv' := [none, none, none, none]) rfl rfl ?_
      exact hK _ h
    · replace h := h.2 c
      refine s_aload_n hX dJ7_fill_53178_10 rfl ?_
      refine s_iload_n hX dJ7_fill_53178_11 rfl ?_
      refine s_iload_n hX dJ7_fill_53178_12 rfl ?_
      have hi := h.1
      replace h := h.2
      refine s_iast hX ly_c_debts_reach hi dJ7_fill_53178_13 ?_
      refine s_iinc (v := (l2 + 1)) (lv' := [some (vr c_debts_reach), some (vi l1), some (vi (l2 + 1)), some (vi l3)]) hX dJ7_fill_53178_14 rfl rfl rfl rfl ?_
      refine s_goto (tgt := 5) hX dJ7_fill_53178_17 (by decide) ?_
      exact ih _ _ h
def w_Jarr_fill_debts_reach (a0 : Int32) (M : Mem) (Q : Mem → Prop) : Prop :=
  (∃ n294, w_Jarr_fill_debts_reach_L5 a0 1536 (fun M293 => Q M293) Q n294 0 M)
set_option maxHeartbeats 4000000 in
theorem t_Jarr_fill_debts_reach {X : Cx} (hX : Cok X cJ7_fill_53178 RJ7 4 none 1 0 0) {Q : Mem → Prop} (hq : RV X 0 0 LY Q) {M : Mem} {a0 : Int32} (h : w_Jarr_fill_debts_reach a0 M Q) : Wat X 0 0 LY 0 [some (vr c_debts_reach), some (vi a0), none, none] [] M := by
  refine s_iconst (v := 0) hX dJ7_fill_53178_0 rfl ?_
  refine s_istore_n (lv' := [some (vr c_debts_reach), some (vi a0), some (vi 0), none]) hX dJ7_fill_53178_1 rfl rfl (Nat.le_of_ble_eq_true rfl) ?_
  refine s_aload_n hX dJ7_fill_53178_2 rfl ?_
  refine s_alen (v := 1536) hX ly_c_debts_reach (by decide) rfl dJ7_fill_53178_3 ?_
  refine s_istore_n (lv' := [some (vr c_debts_reach), some (vi a0), some (vi 0), some (vi 1536)]) hX dJ7_fill_53178_4 rfl rfl (Nat.le_of_ble_eq_true rfl) ?_
  obtain ⟨n294, h⟩ := h
  refine t_Jarr_fill_debts_reach_L5 hX hq ?_ n294 _ _ h
  intro M293 h
  exact s_vret hX hq rfl dJ7_fill_53178_20 h
theorem c_Jarr_fill_debts_reach {a0 : Int32} {M : Mem} {Q : Mem → Prop} (h : w_Jarr_fill_debts_reach a0 M Q) : CV yJ7_fill_53178 cJ7_fill_53178 4 none 1 0 0 LY LY [vr c_debts_reach, vi a0] M Q := mk_v rfl wd_co_J7_fill_53178 rfl rfl (Nat.le_of_ble_eq_true rfl) (fun X hX hq => t_Jarr_fill_debts_reach hX hq h)
theorem ms_Jarr_fill_debts_reach : MS yJ7_fill_53178 cJ7_fill_53178 4 none 2 := ⟨wd_co_J7_fill_53178, wd_sm_J7_fill_53178, wd_in_J7, by decide +kernel, by decide⟩
def w_Jarr_fill_debts_rateKey_L5 (l1 : Int32) (l3 : Int32) (K : Mem → Prop) (Q : Mem → Prop) : Nat → Int32 → Mem → Prop
  | 0, _, _ => False
  | n + 1, l2, M => ((l3 ≤ l2 → K M) ∧ (¬ l3 ≤ l2 → (vp_in l2 512 ∧ w_Jarr_fill_debts_rateKey_L5 l1 l3 K Q n (l2 + 1) (si M c_debts_rateKey (Int32.toNatClampNeg l2) l1))))
set_option maxHeartbeats 4000000 in
theorem t_Jarr_fill_debts_rateKey_L5 {X : Cx} (hX : Cok X cJ7_fill_53178 RJ7 4 none 1 0 0) {Q : Mem → Prop} (hq : RV X 0 0 LY Q) {l1 : Int32} {l3 : Int32} {K : Mem → Prop} (hK : ∀ (M : Mem), K M → Wat X 0 0 LY 20 [none, none, none, none] [] M) : ∀ (n : Nat) (l2 : Int32) (M : Mem), w_Jarr_fill_debts_rateKey_L5 l1 l3 K Q n l2 M → Wat X 0 0 LY 5 [some (vr c_debts_rateKey), some (vi l1), some (vi l2), some (vi l3)] [] M := by
  intro n
  induction n with
  | zero => intro _ _ h; exact h.elim
  | succ n ih =>
    intro l2 M h
    refine s_iload_n hX dJ7_fill_53178_5 rfl ?_
    refine s_iload_n hX dJ7_fill_53178_6 rfl ?_
    refine s_icmp_ge (tgt := 20) hX dJ7_fill_53178_7 (by decide) (fun c => ?_) (fun c => ?_)
    · replace h := h.1 c
      refine s_mask [false, false, false, false] (lv' := [none, none, none, none]) rfl rfl ?_
      exact hK _ h
    · replace h := h.2 c
      refine s_aload_n hX dJ7_fill_53178_10 rfl ?_
      refine s_iload_n hX dJ7_fill_53178_11 rfl ?_
      refine s_iload_n hX dJ7_fill_53178_12 rfl ?_
      have hi := h.1
      replace h := h.2
      refine s_iast hX ly_c_debts_rateKey hi dJ7_fill_53178_13 ?_
      refine s_iinc (v := (l2 + 1)) (lv' := [some (vr c_debts_rateKey), some (vi l1), some (vi (l2 + 1)), some (vi l3)]) hX dJ7_fill_53178_14 rfl rfl rfl rfl ?_
      refine s_goto (tgt := 5) hX dJ7_fill_53178_17 (by decide) ?_
      exact ih _ _ h
def w_Jarr_fill_debts_rateKey (a0 : Int32) (M : Mem) (Q : Mem → Prop) : Prop :=
  (∃ n297, w_Jarr_fill_debts_rateKey_L5 a0 512 (fun M296 => Q M296) Q n297 0 M)
set_option maxHeartbeats 4000000 in
theorem t_Jarr_fill_debts_rateKey {X : Cx} (hX : Cok X cJ7_fill_53178 RJ7 4 none 1 0 0) {Q : Mem → Prop} (hq : RV X 0 0 LY Q) {M : Mem} {a0 : Int32} (h : w_Jarr_fill_debts_rateKey a0 M Q) : Wat X 0 0 LY 0 [some (vr c_debts_rateKey), some (vi a0), none, none] [] M := by
  refine s_iconst (v := 0) hX dJ7_fill_53178_0 rfl ?_
  refine s_istore_n (lv' := [some (vr c_debts_rateKey), some (vi a0), some (vi 0), none]) hX dJ7_fill_53178_1 rfl rfl (Nat.le_of_ble_eq_true rfl) ?_
  refine s_aload_n hX dJ7_fill_53178_2 rfl ?_
  refine s_alen (v := 512) hX ly_c_debts_rateKey (by decide) rfl dJ7_fill_53178_3 ?_
  refine s_istore_n (lv' := [some (vr c_debts_rateKey), some (vi a0), some (vi 0), some (vi 512)]) hX dJ7_fill_53178_4 rfl rfl (Nat.le_of_ble_eq_true rfl) ?_
  obtain ⟨n297, h⟩ := h
  refine t_Jarr_fill_debts_rateKey_L5 hX hq ?_ n297 _ _ h
  intro M296 h
  exact s_vret hX hq rfl dJ7_fill_53178_20 h
theorem c_Jarr_fill_debts_rateKey {a0 : Int32} {M : Mem} {Q : Mem → Prop} (h : w_Jarr_fill_debts_rateKey a0 M Q) : CV yJ7_fill_53178 cJ7_fill_53178 4 none 1 0 0 LY LY [vr c_debts_rateKey, vi a0] M Q := mk_v rfl wd_co_J7_fill_53178 rfl rfl (Nat.le_of_ble_eq_true rfl) (fun X hX hq => t_Jarr_fill_debts_rateKey hX hq h)
theorem ms_Jarr_fill_debts_rateKey : MS yJ7_fill_53178 cJ7_fill_53178 4 none 2 := ⟨wd_co_J7_fill_53178, wd_sm_J7_fill_53178, wd_in_J7, by decide +kernel, by decide⟩
def w_Debts_forget (M : Mem) (Q : Mem → Prop) : Prop :=
  w_Jarr_fill_debts_reach (-1) M (fun M295 => w_Jarr_fill_debts_rateKey (-1) M295 (fun M298 => Q M298))
set_option maxHeartbeats 4000000 in
theorem t_Debts_forget {X : Cx} (hX : Cok X cX0_forget RX0 1 none 2 0 0) {Q : Mem → Prop} (hq : RV X 0 0 LY Q) {M : Mem} (h : w_Debts_forget M Q) : Wat X 0 0 LY 0 [some (vr c_debts)] [] M := by
  refine s_aload_n hX dX0_forget_0 rfl ?_
  refine s_getr hX fi_X0_24 ly_c_debts rfl dX0_forget_1 ?_
  refine s_iconst (v := (-1)) hX dX0_forget_4 rfl ?_
  refine s_csv (as := [vr c_debts_reach, vi (-1)]) (rest := []) hX (c_Jarr_fill_debts_reach h) ms_Jarr_fill_debts_reach wd_ml_X0_41 dX0_forget_5 rfl (Nat.le_of_ble_eq_true rfl) rfl (by decide) ⟨Nat.zero_le _, Nat.zero_le _⟩ (fun M295 h => ?_)
  refine s_aload_n hX dX0_forget_8 rfl ?_
  refine s_getr hX fi_X0_27 ly_c_debts rfl dX0_forget_9 ?_
  refine s_iconst (v := (-1)) hX dX0_forget_12 rfl ?_
  refine s_csv (as := [vr c_debts_rateKey, vi (-1)]) (rest := []) hX (c_Jarr_fill_debts_rateKey h) ms_Jarr_fill_debts_rateKey wd_ml_X0_41 dX0_forget_13 rfl (Nat.le_of_ble_eq_true rfl) rfl (by decide) ⟨Nat.zero_le _, Nat.zero_le _⟩ (fun M298 h => ?_)
  exact s_vret hX hq rfl dX0_forget_16 h
theorem c_Debts_forget {M : Mem} {Q : Mem → Prop} (h : w_Debts_forget M Q) : CV yX0_forget cX0_forget 1 none 2 0 0 LY LY [vr c_debts] M Q := mk_v rfl wd_co_X0_forget rfl rfl (Nat.le_of_ble_eq_true rfl) (fun X hX hq => t_Debts_forget hX hq h)
theorem mv_Debts_forget : MV yX0_forget cX0_forget 1 none RX0 0 := ⟨wd_co_X0_forget, wd_im_X0_forget, wd_se_X0_forget, wd_in_X0, by decide +kernel, by decide⟩
def w_Top_hills (M : Mem) (Q : Int32 → Mem → Prop) : Prop :=
  w_Rd_read M (fun r285 M284 => ((¬ r285 = 0 → Q r285 (si M284 c_tape Tape_length 0)) ∧ (r285 = 0 → w_Land_copyFrom (si M284 c_tape Tape_length 0) (fun M288 => w_Deeds_begin M288 (fun M292 => w_Debts_forget (si (si M292 c_history Hist_size 0) c_xx Top_laid 0) (fun M299 => Q r285 M299))))))
set_option maxHeartbeats 4000000 in
theorem t_Top_hills {X : Cx} (hX : Cok X cX11_hills RX11 2 ((some .int)) 70 0 0) {Q : Int32 → Mem → Prop} (hq : RI X 0 0 LY Q) {M : Mem} (h : w_Top_hills M Q) : Wat X 0 0 LY 0 [some (vr c_xx), none] [] M := by
  refine s_aload_n hX dX11_hills_0 rfl ?_
  refine s_getr hX fi_X11_31 ly_c_xx rfl dX11_hills_1 ?_
  refine s_cvi (as := []) (rest := []) hX (c_Rd_read h) mv_Rd_read wd_ml_X11_93 dX11_hills_4 ly_c_reader rfl rfl (Nat.le_of_ble_eq_true rfl) rfl (by decide) ⟨Nat.zero_le _, Nat.zero_le _⟩ (fun r285 M284 h => ?_)
  refine s_istore_n (lv' := [some (vr c_xx), some (vi r285)]) hX dX11_hills_7 rfl rfl (Nat.le_of_ble_eq_true rfl) ?_
  refine s_aload_n hX dX11_hills_8 rfl ?_
  refine s_getr hX fi_X11_10 ly_c_xx rfl dX11_hills_9 ?_
  refine s_iconst (v := 0) hX dX11_hills_12 rfl ?_
  refine s_puti hX fi_X11_89 fp_X10 rfl (by decide +kernel) ly_c_tape rfl dX11_hills_13 ?_
  refine s_iload_n hX dX11_hills_16 rfl ?_
  refine s_if_ne (tgt := 62) hX dX11_hills_17 (by decide) (fun c => ?_) (fun c => ?_)
  · replace h := h.1 c
    refine s_iload_n hX dX11_hills_62 rfl ?_
    exact s_iret hX hq rfl dX11_hills_63 h
  · replace h := h.2 c
    refine s_aload_n hX dX11_hills_20 rfl ?_
    refine s_getr hX fi_X11_19 ly_c_xx rfl dX11_hills_21 ?_
    refine s_aload_n hX dX11_hills_24 rfl ?_
    refine s_getr hX fi_X11_23 ly_c_xx rfl dX11_hills_25 ?_
    refine s_cvv (as := [vr c_draft]) (rest := []) hX (c_Land_copyFrom h) mv_Land_copyFrom wd_ml_X11_97 dX11_hills_28 ly_c_land rfl rfl (Nat.le_of_ble_eq_true rfl) rfl (by decide) ⟨Nat.zero_le _, Nat.zero_le _⟩ (fun M288 h => ?_)
    refine s_aload_n hX dX11_hills_31 rfl ?_
    refine s_getr hX fi_X11_38 ly_c_xx rfl dX11_hills_32 ?_
    refine s_aload_n hX dX11_hills_35 rfl ?_
    refine s_getr hX fi_X11_19 ly_c_xx rfl dX11_hills_36 ?_
    refine s_cvv (as := [vr c_land]) (rest := []) hX (c_Deeds_begin h) mv_Deeds_begin wd_ml_X11_101 dX11_hills_39 ly_c_deeds rfl rfl (Nat.le_of_ble_eq_true rfl) rfl (by decide) ⟨Nat.zero_le _, Nat.zero_le _⟩ (fun M292 h => ?_)
    refine s_aload_n hX dX11_hills_42 rfl ?_
    refine s_getr hX fi_X11_49 ly_c_xx rfl dX11_hills_43 ?_
    refine s_iconst (v := 0) hX dX11_hills_46 rfl ?_
    refine s_puti hX fi_X11_104 fp_X3 rfl (by decide +kernel) ly_c_history rfl dX11_hills_47 ?_
    refine s_aload_n hX dX11_hills_50 rfl ?_
    refine s_iconst (v := 0) hX dX11_hills_51 rfl ?_
    refine s_puti hX fi_X11_107 fp_X11 rfl (by decide +kernel) ly_c_xx rfl dX11_hills_52 ?_
    refine s_aload_n hX dX11_hills_55 rfl ?_
    refine s_getr hX fi_X11_58 ly_c_xx rfl dX11_hills_56 ?_
    refine s_cvv (as := []) (rest := []) hX (c_Debts_forget h) mv_Debts_forget wd_ml_X11_110 dX11_hills_59 ly_c_debts rfl rfl (Nat.le_of_ble_eq_true rfl) rfl (by decide) ⟨Nat.zero_le _, Nat.zero_le _⟩ (fun M299 h => ?_)
    refine s_iload_n hX dX11_hills_62 rfl ?_
    exact s_iret hX hq rfl dX11_hills_63 h
theorem c_Top_hills {M : Mem} {Q : Int32 → Mem → Prop} (h : w_Top_hills M Q) : CI yX11_hills cX11_hills 2 ((some .int)) 70 0 0 LY LY [vr c_xx] M Q := mk_i rfl wd_co_X11_hills rfl rfl (Nat.le_of_ble_eq_true rfl) (fun X hX hq => t_Top_hills hX hq h)
theorem mv_Top_hills : MV yX11_hills cX11_hills 2 ((some .int)) RX11 0 := ⟨wd_co_X11_hills, wd_im_X11_hills, wd_se_X11_hills, wd_in_X11, by decide +kernel, by decide⟩
def w_Top_isPerson (a0 : Int32) (M : Mem) (Q : Bool → Mem → Prop) : Prop :=
  ((a0 < 0 → Q false M) ∧ (¬ a0 < 0 → (∃ bb : Bool, (if (M.1 c_land Land_people) ≤ a0 then (0 : Int32) else 1) = b2i bb ∧ Q bb M)))
set_option maxHeartbeats 4000000 in
theorem t_Top_isPerson {X : Cx} (hX : Cok X cX11_isPerson RX11 2 ((some .boolean)) 1 0 0) {Q : Bool → Mem → Prop} (hq : RI X 0 0 LY (bQ Q)) {M : Mem} {a0 : Int32} (h : w_Top_isPerson a0 M Q) : Wat X 0 0 LY 0 [some (vr c_xx), some (vi a0)] [] M := by
  refine s_iload_n hX dX11_isPerson_0 rfl ?_
  refine s_if_lt (tgt := 19) hX dX11_isPerson_1 (by decide) (fun c => ?_) (fun c => ?_)
  · replace h := h.1 c
    refine s_iconst (v := 0) hX dX11_isPerson_19 rfl ?_
    exact s_zret hX false hq rfl dX11_isPerson_20 rfl h
  · replace h := h.2 c
    refine s_iload_n hX dX11_isPerson_4 rfl ?_
    refine s_aload_n hX dX11_isPerson_5 rfl ?_
    refine s_getr hX fi_X11_19 ly_c_xx rfl dX11_isPerson_6 ?_
    refine s_getiv (v := (M.1 c_land Land_people)) hX fi_X11_210 ly_c_land rfl dX11_isPerson_9 rfl ?_
    have hJ : Wat X 0 0 LY 20 [some (vr c_xx), some (vi a0)] [vi (if (M.1 c_land Land_people) ≤ a0 then (0 : Int32) else 1)] M := by
      obtain ⟨bb, hbb, h⟩ := h
      exact s_zret hX bb hq rfl dX11_isPerson_20 hbb h
    refine s_icmp_ge (tgt := 19) hX dX11_isPerson_12 (by decide) (fun c => ?_) (fun c => ?_)
    · rw [if_pos c] at hJ
      refine s_iconst (v := 0) hX dX11_isPerson_19 rfl ?_
      exact hJ
    · rw [if_neg c] at hJ
      refine s_iconst (v := 1) hX dX11_isPerson_15 rfl ?_
      refine s_goto (tgt := 20) hX dX11_isPerson_16 (by decide) ?_
      exact hJ
theorem c_Top_isPerson {a0 : Int32} {M : Mem} {Q : Bool → Mem → Prop} (h : w_Top_isPerson a0 M Q) : CI yX11_isPerson cX11_isPerson 2 ((some .boolean)) 1 0 0 LY LY [vr c_xx, vi a0] M (bQ Q) := mk_i rfl wd_co_X11_isPerson rfl rfl (Nat.le_of_ble_eq_true rfl) (fun X hX hq => t_Top_isPerson hX hq h)
theorem mv_Top_isPerson : MV yX11_isPerson cX11_isPerson 2 ((some .boolean)) RX11 1 := ⟨wd_co_X11_isPerson, wd_im_X11_isPerson, wd_se_X11_isPerson, wd_in_X11, by decide +kernel, by decide⟩
def w_Top_person (a0 : Int32) (a1 : Int32) (M : Mem) (Q : Int32 → Mem → Prop) : Prop :=
  w_Top_isPerson a0 M (fun b301 M300 => ((b301 = true → ((a1 = 0 → (vp_in a0 6 ∧ Q (M300.1 c_land_kind (Int32.toNatClampNeg a0)) M300)) ∧ (a1 = 1 → (vp_in a0 6 ∧ Q (M300.1 c_land_purse (Int32.toNatClampNeg a0)) M300)) ∧ (¬ a1 = 0 → ¬ a1 = 1 → Q (-1) M300))) ∧ (b301 = false → Q (-1) M300)))
set_option maxHeartbeats 4000000 in
theorem t_Top_person {X : Cx} (hX : Cok X cX11_person RX11 3 ((some .int)) 2 0 0) {Q : Int32 → Mem → Prop} (hq : RI X 0 0 LY Q) {M : Mem} {a0 : Int32} {a1 : Int32} (h : w_Top_person a0 a1 M Q) : Wat X 0 0 LY 0 [some (vr c_xx), some (vi a0), some (vi a1)] [] M := by
  refine s_aload_n hX dX11_person_0 rfl ?_
  refine s_iload_n hX dX11_person_1 rfl ?_
  refine s_cvi (as := [vi a0]) (rest := []) hX (c_Top_isPerson h) mv_Top_isPerson wd_ml_X11_113 dX11_person_2 ly_c_xx rfl rfl (Nat.le_of_ble_eq_true rfl) rfl (by decide) ⟨Nat.zero_le _, Nat.zero_le _⟩ (fun b301_ M300 h => ?_)
  obtain ⟨b301, rfl, h⟩ := h
  refine s_if_ne (tgt := 10) hX dX11_person_5 (by decide) (fun c => ?_) (fun c => ?_)
  · replace h := h.1 (b2i_1 c)
    refine s_iload_n hX dX11_person_10 rfl ?_
    by_cases c0 : a1 = 0
    · replace h := h.1 c0
      refine s_lookup (tgt := 36) (off := 25) hX dX11_person_11 (by decide) (by rw [c0]; rfl) (by decide) ?_
      refine s_aload_n hX dX11_person_36 rfl ?_
      refine s_getr hX fi_X11_19 ly_c_xx rfl dX11_person_37 ?_
      refine s_getr hX fi_X11_117 ly_c_land rfl dX11_person_40 ?_
      refine s_iload_n hX dX11_person_43 rfl ?_
      have hi := h.1
      replace h := h.2
      refine s_ialdv (v := (M300.1 c_land_kind (Int32.toNatClampNeg a0))) hX ly_c_land_kind hi dX11_person_44 rfl ?_
      exact s_iret hX hq rfl dX11_person_45 h
    by_cases c1 : a1 = 1
    · replace h := h.2.1 c1
      refine s_lookup (tgt := 46) (off := 35) hX dX11_person_11 (by decide) (by rw [c1]; rfl) (by decide) ?_
      refine s_aload_n hX dX11_person_46 rfl ?_
      refine s_getr hX fi_X11_19 ly_c_xx rfl dX11_person_47 ?_
      refine s_getr hX fi_X11_121 ly_c_land rfl dX11_person_50 ?_
      refine s_iload_n hX dX11_person_53 rfl ?_
      have hi := h.1
      replace h := h.2
      refine s_ialdv (v := (M300.1 c_land_purse (Int32.toNatClampNeg a0))) hX ly_c_land_purse hi dX11_person_54 rfl ?_
      exact s_iret hX hq rfl dX11_person_55 h
    replace h := h.2.2 c0 c1
    refine s_lookup (tgt := 56) (off := 45) hX dX11_person_11 (by decide) (by show Op.lookupswitch.offset [(0, 25), (1, 35)] 45 _ = _; rw [lv_osw (a := 0) c0 rfl]; rw [lv_osw (a := 1) c1 rfl]; rfl) (by decide) ?_
    refine s_iconst (v := (-1)) hX dX11_person_56 rfl ?_
    exact s_iret hX hq rfl dX11_person_57 h
  · replace h := h.2 (b2i_0 c)
    refine s_iconst (v := (-1)) hX dX11_person_8 rfl ?_
    exact s_iret hX hq rfl dX11_person_9 h
theorem c_Top_person {a0 : Int32} {a1 : Int32} {M : Mem} {Q : Int32 → Mem → Prop} (h : w_Top_person a0 a1 M Q) : CI yX11_person cX11_person 3 ((some .int)) 2 0 0 LY LY [vr c_xx, vi a0, vi a1] M Q := mk_i rfl wd_co_X11_person rfl rfl (Nat.le_of_ble_eq_true rfl) (fun X hX hq => t_Top_person hX hq h)
theorem mv_Top_person : MV yX11_person cX11_person 3 ((some .int)) RX11 2 := ⟨wd_co_X11_person, wd_im_X11_person, wd_se_X11_person, wd_in_X11, by decide +kernel, by decide⟩
