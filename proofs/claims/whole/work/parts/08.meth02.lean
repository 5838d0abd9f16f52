def w_Top_isHour (a0 : Int32) (M : Mem) (Q : Bool → Mem → Prop) : Prop :=
  ((a0 < 0 → Q false M) ∧ (¬ a0 < 0 → (∃ bb : Bool, (if 24 ≤ a0 then (0 : Int32) else 1) = b2i bb ∧ Q bb M)))
set_option maxHeartbeats 4000000 in
theorem t_Top_isHour {X : Cx} (hX : Cok X cX11_isHour RX11 1 ((some .boolean)) 1 0 0) {Q : Bool → Mem → Prop} (hq : RI X 0 0 LY (bQ Q)) {M : Mem} {a0 : Int32} (h : w_Top_isHour a0 M Q) : Wat X 0 0 LY 0 [some (vi a0)] [] M := by
  refine s_iload_n hX dX11_isHour_0 rfl ?_
  refine s_if_lt (tgt := 14) hX dX11_isHour_1 (by decide) (fun c => ?_) (fun c => ?_)
  · replace h := h.1 c
    refine s_iconst (v := 0) hX dX11_isHour_14 rfl ?_
    exact s_zret hX false hq rfl dX11_isHour_15 rfl h
  · replace h := h.2 c
    refine s_iload_n hX dX11_isHour_4 rfl ?_
    refine s_bipush (v := 24) hX dX11_isHour_5 rfl ?_
    have hJ : Wat X 0 0 LY 15 [some (vi a0)] [vi (if 24 ≤ a0 then (0 : Int32) else 1)] M := by
      obtain ⟨bb, hbb, h⟩ := h
      exact s_zret hX bb hq rfl dX11_isHour_15 hbb h
    refine s_icmp_ge (tgt := 14) hX dX11_isHour_7 (by decide) (fun c => ?_) (fun c => ?_)
    · rw [if_pos c] at hJ
      refine s_iconst (v := 0) hX dX11_isHour_14 rfl ?_
      exact hJ
    · rw [if_neg c] at hJ
      refine s_iconst (v := 1) hX dX11_isHour_10 rfl ?_
      refine s_goto (tgt := 15) hX dX11_isHour_11 (by decide) ?_
      exact hJ
theorem c_Top_isHour {a0 : Int32} {M : Mem} {Q : Bool → Mem → Prop} (h : w_Top_isHour a0 M Q) : CI yX11_isHour cX11_isHour 1 ((some .boolean)) 1 0 0 LY LY [vi a0] M (bQ Q) := mk_i rfl wd_co_X11_isHour rfl rfl (Nat.le_of_ble_eq_true rfl) (fun X hX hq => t_Top_isHour hX hq h)
theorem ms_Top_isHour : MS yX11_isHour cX11_isHour 1 ((some .boolean)) 1 := ⟨wd_co_X11_isHour, wd_sm_X11_isHour, wd_in_X11, by decide +kernel, by decide⟩
def w_Top_place (a0 : Int32) (a1 : Int32) (M : Mem) (Q : Int32 → Mem → Prop) : Prop :=
  w_Top_isPerson a0 M (fun b303 M302 => ((b303 = false → Q (-1) M302) ∧ (b303 = true → w_Top_isHour a1 M302 (fun b305 M304 => ((b305 = true → (vp_in ((a0 * 24) + a1) 144 ∧ Q (M304.1 c_land_place (Int32.toNatClampNeg ((a0 * 24) + a1))) M304)) ∧ (b305 = false → Q (-1) M304))))))
set_option maxHeartbeats 4000000 in
theorem t_Top_place {X : Cx} (hX : Cok X cX11_place RX11 3 ((some .int)) 2 0 0) {Q : Int32 → Mem → Prop} (hq : RI X 0 0 LY Q) {M : Mem} {a0 : Int32} {a1 : Int32} (h : w_Top_place a0 a1 M Q) : Wat X 0 0 LY 0 [some (vr c_xx), some (vi a0), some (vi a1)] [] M := by
  refine s_aload_n hX dX11_place_0 rfl ?_
  refine s_iload_n hX dX11_place_1 rfl ?_
  refine s_cvi (as := [vi a0]) (rest := []) hX (c_Top_isPerson h) mv_Top_isPerson wd_ml_X11_113 dX11_place_2 ly_c_xx rfl rfl (Nat.le_of_ble_eq_true rfl) rfl (by decide) ⟨Nat.zero_le _, Nat.zero_le _⟩ (fun b303_ M302 h => ?_)
  obtain ⟨b303, rfl, h⟩ := h
  refine s_if_eq (tgt := 15) hX dX11_place_5 (by decide) (fun c => ?_) (fun c => ?_)
  · replace h := h.1 (b2i_0 c)
    refine s_iconst (v := (-1)) hX dX11_place_15 rfl ?_
    exact s_iret hX hq rfl dX11_place_16 h
  · replace h := h.2 (b2i_1 c)
    refine s_iload_n hX dX11_place_8 rfl ?_
    refine s_csi (as := [vi a1]) (rest := []) hX (c_Top_isHour h) ms_Top_isHour wd_ml_X11_124 dX11_place_9 rfl (Nat.le_of_ble_eq_true rfl) rfl (by decide) ⟨Nat.zero_le _, Nat.zero_le _⟩ (fun b305_ M304 h => ?_)
    obtain ⟨b305, rfl, h⟩ := h
    refine s_if_ne (tgt := 17) hX dX11_place_12 (by decide) (fun c => ?_) (fun c => ?_)
    · replace h := h.1 (b2i_1 c)
      refine s_aload_n hX dX11_place_17 rfl ?_
      refine s_getr hX fi_X11_19 ly_c_xx rfl dX11_place_18 ?_
      refine s_getr hX fi_X11_127 ly_c_land rfl dX11_place_21 ?_
      refine s_iload_n hX dX11_place_24 rfl ?_
      refine s_bipush (v := 24) hX dX11_place_25 rfl ?_
      refine s_imul hX dX11_place_27 ?_
      refine s_iload_n hX dX11_place_28 rfl ?_
      refine s_iadd hX dX11_place_29 ?_
      have hi := h.1
      replace h := h.2
      refine s_ialdv (v := (M304.1 c_land_place (Int32.toNatClampNeg ((a0 * 24) + a1)))) hX ly_c_land_place hi dX11_place_30 rfl ?_
      exact s_iret hX hq rfl dX11_place_31 h
    · replace h := h.2 (b2i_0 c)
      refine s_iconst (v := (-1)) hX dX11_place_15 rfl ?_
      exact s_iret hX hq rfl dX11_place_16 h
theorem c_Top_place {a0 : Int32} {a1 : Int32} {M : Mem} {Q : Int32 → Mem → Prop} (h : w_Top_place a0 a1 M Q) : CI yX11_place cX11_place 3 ((some .int)) 2 0 0 LY LY [vr c_xx, vi a0, vi a1] M Q := mk_i rfl wd_co_X11_place rfl rfl (Nat.le_of_ble_eq_true rfl) (fun X hX hq => t_Top_place hX hq h)
theorem mv_Top_place : MV yX11_place cX11_place 3 ((some .int)) RX11 2 := ⟨wd_co_X11_place, wd_im_X11_place, wd_se_X11_place, wd_in_X11, by decide +kernel, by decide⟩
def w_Top_isBird (a0 : Int32) (M : Mem) (Q : Bool → Mem → Prop) : Prop :=
  ((a0 < 0 → Q false M) ∧ (¬ a0 < 0 → (∃ bb : Bool, (if (M.1 c_land Land_birds) ≤ a0 then (0 : Int32) else 1) = b2i bb ∧ Q bb M)))
set_option maxHeartbeats 4000000 in
theorem t_Top_isBird {X : Cx} (hX : Cok X cX11_isBird RX11 2 ((some .boolean)) 1 0 0) {Q : Bool → Mem → Prop} (hq : RI X 0 0 LY (bQ Q)) {M : Mem} {a0 : Int32} (h : w_Top_isBird a0 M Q) : Wat X 0 0 LY 0 [some (vr c_xx), some (vi a0)] [] M := by
  refine s_iload_n hX dX11_isBird_0 rfl ?_
  refine s_if_lt (tgt := 19) hX dX11_isBird_1 (by decide) (fun c => ?_) (fun c => ?_)
  · replace h := h.1 c
    refine s_iconst (v := 0) hX dX11_isBird_19 rfl ?_
    exact s_zret hX false hq rfl dX11_isBird_20 rfl h
  · replace h := h.2 c
    refine s_iload_n hX dX11_isBird_4 rfl ?_
    refine s_aload_n hX dX11_isBird_5 rfl ?_
    refine s_getr hX fi_X11_19 ly_c_xx rfl dX11_isBird_6 ?_
    refine s_getiv (v := (M.1 c_land Land_birds)) hX fi_X11_279 ly_c_land rfl dX11_isBird_9 rfl ?_
    have hJ : Wat X 0 0 LY 20 [some (vr c_xx), some (vi a0)] [vi (if (M.1 c_land Land_birds) ≤ a0 then (0 : Int32) else 1)] M := by
      obtain ⟨bb, hbb, h⟩ := h
      exact s_zret hX bb hq rfl dX11_isBird_20 hbb h
    refine s_icmp_ge (tgt := 19) hX dX11_isBird_12 (by decide) (fun c => ?_) (fun c => ?_)
    · rw [if_pos c] at hJ
      refine s_iconst (v := 0) hX dX11_isBird_19 rfl ?_
      exact hJ
    · rw [if_neg c] at hJ
      refine s_iconst (v := 1) hX dX11_isBird_15 rfl ?_
      refine s_goto (tgt := 20) hX dX11_isBird_16 (by decide) ?_
      exact hJ
theorem c_Top_isBird {a0 : Int32} {M : Mem} {Q : Bool → Mem → Prop} (h : w_Top_isBird a0 M Q) : CI yX11_isBird cX11_isBird 2 ((some .boolean)) 1 0 0 LY LY [vr c_xx, vi a0] M (bQ Q) := mk_i rfl wd_co_X11_isBird rfl rfl (Nat.le_of_ble_eq_true rfl) (fun X hX hq => t_Top_isBird hX hq h)
theorem mv_Top_isBird : MV yX11_isBird cX11_isBird 2 ((some .boolean)) RX11 1 := ⟨wd_co_X11_isBird, wd_im_X11_isBird, wd_se_X11_isBird, wd_in_X11, by decide +kernel, by decide⟩
def w_Deeds_timesOfDay_L4 (l1 : Int32) (K : Int32 → Mem → Prop) (Q : Int32 → Mem → Prop) : Nat → Int32 → Int32 → Mem → Prop
  | 0, _, _, _ => False
  | n + 1, l2, l3, M => ((24 ≤ l3 → K l2 M) ∧ (¬ 24 ≤ l3 → (vp_in ((l1 * 24) + l3) 120 ∧ ∀ x308 : Int32, x308 = (l2 + (M.1 c_deeds_times (Int32.toNatClampNeg ((l1 * 24) + l3)))) → w_Deeds_timesOfDay_L4 l1 K Q n x308 (l3 + 1) M)))
set_option maxHeartbeats 4000000 in
theorem t_Deeds_timesOfDay_L4 {X : Cx} (hX : Cok X cX1_timesOfDay RX1 4 ((some .int)) 1 0 0) {Q : Int32 → Mem → Prop} (hq : RI X 0 0 LY Q) {l1 : Int32} {K : Int32 → Mem → Prop} (hK : ∀ (l2 : Int32) (M : Mem), K l2 M → Wat X 0 0 LY 30 [none, none, some (vi l2), none] [] M) : ∀ (n : Nat) (l2 : Int32) (l3 : Int32) (M : Mem), w_Deeds_timesOfDay_L4 l1 K Q n l2 l3 M → Wat X 0 0 LY 4 [some (vr c_deeds), some (vi l1), some (vi l2), some (vi l3)] [] M := by
  intro n
  induction n with
  | zero => intro _ _ _ h; exact h.elim
  | succ n ih =>
    intro l2 l3 M h
    refine s_iload_n hX dX1_timesOfDay_4 rfl ?_
    refine s_bipush (v := 24) hX dX1_timesOfDay_5 rfl ?_
    refine s_icmp_ge (tgt := 30) hX dX1_timesOfDay_7 (by decide) (fun c => ?_) (fun c => ?_)
    · replace h := h.1 c
      refine s_mask [false, false, true, false] (lv' := [none, none, some (vi l2), none]) rfl rfl ?_
      exact hK _ _ h
    · replace h := h.2 c
      refine s_iload_n hX dX1_timesOfDay_10 rfl ?_
      refine s_aload_n hX dX1_timesOfDay_11 rfl ?_
      refine s_getr hX fi_X1_9 ly_c_deeds rfl dX1_timesOfDay_12 ?_
      refine s_iload_n hX dX1_timesOfDay_15 rfl ?_
      refine s_bipush (v := 24) hX dX1_timesOfDay_16 rfl ?_
      refine s_imul hX dX1_timesOfDay_18 ?_
      refine s_iload_n hX dX1_timesOfDay_19 rfl ?_
      refine s_iadd hX dX1_timesOfDay_20 ?_
      have hi := h.1
      replace h := h.2
      refine s_ialdv (v := (M.1 c_deeds_times (Int32.toNatClampNeg ((l1 * 24) + l3)))) hX ly_c_deeds_times hi dX1_timesOfDay_21 rfl ?_
      refine s_iadd hX dX1_timesOfDay_22 ?_
      refine s_nmi (fun x308 ex308 => ?_)
      replace h := h x308 ex308
      refine s_istore_n (lv' := [some (vr c_deeds), some (vi l1), some (vi x308), some (vi l3)]) hX dX1_timesOfDay_23 rfl rfl (Nat.le_of_ble_eq_true rfl) ?_
      refine s_iinc (v := (l3 + 1)) (lv' := [some (vr c_deeds), some (vi l1), some (vi x308), some (vi (l3 + 1))]) hX dX1_timesOfDay_24 rfl rfl rfl rfl ?_
      refine s_goto (tgt := 4) hX dX1_timesOfDay_27 (by decide) ?_
      exact ih _ _ _ h
def w_Deeds_timesOfDay (a0 : Int32) (M : Mem) (Q : Int32 → Mem → Prop) : Prop :=
  (∃ n311, w_Deeds_timesOfDay_L4 a0 (fun y310 M309 => Q y310 M309) Q n311 0 0 M)
set_option maxHeartbeats 4000000 in
theorem t_Deeds_timesOfDay {X : Cx} (hX : Cok X cX1_timesOfDay RX1 4 ((some .int)) 1 0 0) {Q : Int32 → Mem → Prop} (hq : RI X 0 0 LY Q) {M : Mem} {a0 : Int32} (h : w_Deeds_timesOfDay a0 M Q) : Wat X 0 0 LY 0 [some (vr c_deeds), some (vi a0), none, none] [] M := by
  refine s_iconst (v := 0) hX dX1_timesOfDay_0 rfl ?_
  refine s_istore_n (lv' := [some (vr c_deeds), some (vi a0), some (vi 0), none]) hX dX1_timesOfDay_1 rfl rfl (Nat.le_of_ble_eq_true rfl) ?_
  refine s_iconst (v := 0) hX dX1_timesOfDay_2 rfl ?_
  refine s_istore_n (lv' := [some (vr c_deeds), some (vi a0), some (vi 0), some (vi 0)]) hX dX1_timesOfDay_3 rfl rfl (Nat.le_of_ble_eq_true rfl) ?_
  obtain ⟨n311, h⟩ := h
  refine t_Deeds_timesOfDay_L4 hX hq ?_ n311 _ _ _ h
  intro y310 M309 h
  refine s_iload_n hX dX1_timesOfDay_30 rfl ?_
  exact s_iret hX hq rfl dX1_timesOfDay_31 h
theorem c_Deeds_timesOfDay {a0 : Int32} {M : Mem} {Q : Int32 → Mem → Prop} (h : w_Deeds_timesOfDay a0 M Q) : CI yX1_timesOfDay cX1_timesOfDay 4 ((some .int)) 1 0 0 LY LY [vr c_deeds, vi a0] M Q := mk_i rfl wd_co_X1_timesOfDay rfl rfl (Nat.le_of_ble_eq_true rfl) (fun X hX hq => t_Deeds_timesOfDay hX hq h)
theorem mv_Deeds_timesOfDay : MV yX1_timesOfDay cX1_timesOfDay 4 ((some .int)) RX1 1 := ⟨wd_co_X1_timesOfDay, wd_im_X1_timesOfDay, wd_se_X1_timesOfDay, wd_in_X1, by decide +kernel, by decide⟩
def w_Top_bird (a0 : Int32) (a1 : Int32) (M : Mem) (Q : Int32 → Mem → Prop) : Prop :=
  w_Top_isBird a0 M (fun b307 M306 => ((b307 = true → ((a1 = 0 → (vp_in a0 5 ∧ Q (M306.1 c_land_bush (Int32.toNatClampNeg a0)) M306)) ∧ (a1 = 1 → Q (((M306.1 c_deeds Deeds_shot) >>> (a0 &&& 31)) &&& 1) M306) ∧ (a1 = 2 → w_Deeds_timesOfDay a0 M306 (fun r313 M312 => Q r313 M312)) ∧ (¬ a1 = 0 → ¬ a1 = 1 → ¬ a1 = 2 → Q (-1) M306))) ∧ (b307 = false → Q (-1) M306)))
set_option maxHeartbeats 4000000 in
theorem t_Top_bird {X : Cx} (hX : Cok X cX11_bird RX11 3 ((some .int)) 2 0 0) {Q : Int32 → Mem → Prop} (hq : RI X 0 0 LY Q) {M : Mem} {a0 : Int32} {a1 : Int32} (h : w_Top_bird a0 a1 M Q) : Wat X 0 0 LY 0 [some (vr c_xx), some (vi a0), some (vi a1)] [] M := by
  refine s_aload_n hX dX11_bird_0 rfl ?_
  refine s_iload_n hX dX11_bird_1 rfl ?_
  refine s_cvi (as := [vi a0]) (rest := []) hX (c_Top_isBird h) mv_Top_isBird wd_ml_X11_130 dX11_bird_2 ly_c_xx rfl rfl (Nat.le_of_ble_eq_true rfl) rfl (by decide) ⟨Nat.zero_le _, Nat.zero_le _⟩ (fun b307_ M306 h => ?_)
  obtain ⟨b307, rfl, h⟩ := h
  refine s_if_ne (tgt := 10) hX dX11_bird_5 (by decide) (fun c => ?_) (fun c => ?_)
  · replace h := h.1 (b2i_1 c)
    refine s_iload_n hX dX11_bird_10 rfl ?_
    by_cases c0 : a1 = 0
    · replace h := h.1 c0
      refine s_tableIn (tgt := 36) (off := 25) hX dX11_bird_11 (by rw [c0]; decide) (by rw [c0]; decide) (by rw [c0]; rfl) (by decide) ?_
      refine s_aload_n hX dX11_bird_36 rfl ?_
      refine s_getr hX fi_X11_19 ly_c_xx rfl dX11_bird_37 ?_
      refine s_getr hX fi_X11_133 ly_c_land rfl dX11_bird_40 ?_
      refine s_iload_n hX dX11_bird_43 rfl ?_
      have hi := h.1
      replace h := h.2
      refine s_ialdv (v := (M306.1 c_land_bush (Int32.toNatClampNeg a0))) hX ly_c_land_bush hi dX11_bird_44 rfl ?_
      exact s_iret hX hq rfl dX11_bird_45 h
    by_cases c1 : a1 = 1
    · replace h := h.2.1 c1
      refine s_tableIn (tgt := 46) (off := 35) hX dX11_bird_11 (by rw [c1]; decide) (by rw [c1]; decide) (by rw [c1]; rfl) (by decide) ?_
      refine s_aload_n hX dX11_bird_46 rfl ?_
      refine s_getr hX fi_X11_38 ly_c_xx rfl dX11_bird_47 ?_
      refine s_getiv (v := (M306.1 c_deeds Deeds_shot)) hX fi_X11_136 ly_c_deeds rfl dX11_bird_50 rfl ?_
      refine s_iload_n hX dX11_bird_53 rfl ?_
      refine s_ishr hX dX11_bird_54 ?_
      refine s_iconst (v := 1) hX dX11_bird_55 rfl ?_
      refine s_iand hX dX11_bird_56 ?_
      exact s_iret hX hq rfl dX11_bird_57 h
    by_cases c2 : a1 = 2
    · replace h := h.2.2.1 c2
      refine s_tableIn (tgt := 58) (off := 47) hX dX11_bird_11 (by rw [c2]; decide) (by rw [c2]; decide) (by rw [c2]; rfl) (by decide) ?_
      refine s_aload_n hX dX11_bird_58 rfl ?_
      refine s_getr hX fi_X11_38 ly_c_xx rfl dX11_bird_59 ?_
      refine s_iload_n hX dX11_bird_62 rfl ?_
      refine s_cvi (as := [vi a0]) (rest := []) hX (c_Deeds_timesOfDay h) mv_Deeds_timesOfDay wd_ml_X11_139 dX11_bird_63 ly_c_deeds rfl rfl (Nat.le_of_ble_eq_true rfl) rfl (by decide) ⟨Nat.zero_le _, Nat.zero_le _⟩ (fun r313 M312 h => ?_)
      exact s_iret hX hq rfl dX11_bird_66 h
    replace h := h.2.2.2 c0 c1 c2
    have n0 := lv_neT (a := 0) c0 rfl
    have n1 := lv_neT (a := 1) c1 rfl
    have n2 := lv_neT (a := 2) c2 rfl
    refine s_tableOut (tgt := 67) hX dX11_bird_11 (by omega) (by decide) ?_
    refine s_iconst (v := (-1)) hX dX11_bird_67 rfl ?_
    exact s_iret hX hq rfl dX11_bird_68 h
  · replace h := h.2 (b2i_0 c)
    refine s_iconst (v := (-1)) hX dX11_bird_8 rfl ?_
    exact s_iret hX hq rfl dX11_bird_9 h
theorem c_Top_bird {a0 : Int32} {a1 : Int32} {M : Mem} {Q : Int32 → Mem → Prop} (h : w_Top_bird a0 a1 M Q) : CI yX11_bird cX11_bird 3 ((some .int)) 2 0 0 LY LY [vr c_xx, vi a0, vi a1] M Q := mk_i rfl wd_co_X11_bird rfl rfl (Nat.le_of_ble_eq_true rfl) (fun X hX hq => t_Top_bird hX hq h)
theorem mv_Top_bird : MV yX11_bird cX11_bird 3 ((some .int)) RX11 2 := ⟨wd_co_X11_bird, wd_im_X11_bird, wd_se_X11_bird, wd_in_X11, by decide +kernel, by decide⟩
def w_Top_calls (a0 : Int32) (a1 : Int32) (M : Mem) (Q : Int32 → Mem → Prop) : Prop :=
  w_Top_isBird a0 M (fun b315 M314 => ((b315 = false → Q (-1) M314) ∧ (b315 = true → w_Top_isHour a1 M314 (fun b317 M316 => ((b317 = true → (vp_in ((a0 * 24) + a1) 120 ∧ Q (M316.1 c_deeds_times (Int32.toNatClampNeg ((a0 * 24) + a1))) M316)) ∧ (b317 = false → Q (-1) M316))))))
set_option maxHeartbeats 4000000 in
theorem t_Top_calls {X : Cx} (hX : Cok X cX11_calls RX11 3 ((some .int)) 2 0 0) {Q : Int32 → Mem → Prop} (hq : RI X 0 0 LY Q) {M : Mem} {a0 : Int32} {a1 : Int32} (h : w_Top_calls a0 a1 M Q) : Wat X 0 0 LY 0 [some (vr c_xx), some (vi a0), some (vi a1)] [] M := by
  refine s_aload_n hX dX11_calls_0 rfl ?_
  refine s_iload_n hX dX11_calls_1 rfl ?_
  refine s_cvi (as := [vi a0]) (rest := []) hX (c_Top_isBird h) mv_Top_isBird wd_ml_X11_130 dX11_calls_2 ly_c_xx rfl rfl (Nat.le_of_ble_eq_true rfl) rfl (by decide) ⟨Nat.zero_le _, Nat.zero_le _⟩ (fun b315_ M314 h => ?_)
  obtain ⟨b315, rfl, h⟩ := h
  refine s_if_eq (tgt := 15) hX dX11_calls_5 (by decide) (fun c => ?_) (fun c => ?_)
  · replace h := h.1 (b2i_0 c)
    refine s_iconst (v := (-1)) hX dX11_calls_15 rfl ?_
    exact s_iret hX hq rfl dX11_calls_16 h
  · replace h := h.2 (b2i_1 c)
    refine s_iload_n hX dX11_calls_8 rfl ?_
    refine s_csi (as := [vi a1]) (rest := []) hX (c_Top_isHour h) ms_Top_isHour wd_ml_X11_124 dX11_calls_9 rfl (Nat.le_of_ble_eq_true rfl) rfl (by decide) ⟨Nat.zero_le _, Nat.zero_le _⟩ (fun b317_ M316 h => ?_)
    obtain ⟨b317, rfl, h⟩ := h
    refine s_if_ne (tgt := 17) hX dX11_calls_12 (by decide) (fun c => ?_) (fun c => ?_)
    · replace h := h.1 (b2i_1 c)
      refine s_aload_n hX dX11_calls_17 rfl ?_
      refine s_getr hX fi_X11_38 ly_c_xx rfl dX11_calls_18 ?_
      refine s_getr hX fi_X11_143 ly_c_deeds rfl dX11_calls_21 ?_
      refine s_iload_n hX dX11_calls_24 rfl ?_
      refine s_bipush (v := 24) hX dX11_calls_25 rfl ?_
      refine s_imul hX dX11_calls_27 ?_
      refine s_iload_n hX dX11_calls_28 rfl ?_
      refine s_iadd hX dX11_calls_29 ?_
      have hi := h.1
      replace h := h.2
      refine s_ialdv (v := (M316.1 c_deeds_times (Int32.toNatClampNeg ((a0 * 24) + a1)))) hX ly_c_deeds_times hi dX11_calls_30 rfl ?_
      exact s_iret hX hq rfl dX11_calls_31 h
    · replace h := h.2 (b2i_0 c)
      refine s_iconst (v := (-1)) hX dX11_calls_15 rfl ?_
      exact s_iret hX hq rfl dX11_calls_16 h
theorem c_Top_calls {a0 : Int32} {a1 : Int32} {M : Mem} {Q : Int32 → Mem → Prop} (h : w_Top_calls a0 a1 M Q) : CI yX11_calls cX11_calls 3 ((some .int)) 2 0 0 LY LY [vr c_xx, vi a0, vi a1] M Q := mk_i rfl wd_co_X11_calls rfl rfl (Nat.le_of_ble_eq_true rfl) (fun X hX hq => t_Top_calls hX hq h)
theorem mv_Top_calls : MV yX11_calls cX11_calls 3 ((some .int)) RX11 2 := ⟨wd_co_X11_calls, wd_im_X11_calls, wd_se_X11_calls, wd_in_X11, by decide +kernel, by decide⟩
def w_Debts_allAsTold (M : Mem) (Q : Mem → Prop) : Prop :=
  Q (sa M c_debts_at (va_cpy (M.1 c_land_place) (M.1 c_debts_at) (Int32.toNatClampNeg 0) (Int32.toNatClampNeg 0) (Int32.toNatClampNeg 144)))
set_option maxHeartbeats 4000000 in
theorem t_Debts_allAsTold {X : Cx} (hX : Cok X cX0_allAsTold RX0 1 none 1 0 0) {Q : Mem → Prop} (hq : RV X 0 0 LY Q) {M : Mem} (h : w_Debts_allAsTold M Q) : Wat X 0 0 LY 0 [some (vr c_debts)] [] M := by
  refine s_aload_n hX dX0_allAsTold_0 rfl ?_
  refine s_getr hX fi_X0_33 ly_c_debts rfl dX0_allAsTold_1 ?_
  refine s_getr hX fi_X0_47 ly_c_land rfl dX0_allAsTold_4 ?_
  refine s_iconst (v := 0) hX dX0_allAsTold_7 rfl ?_
  refine s_aload_n hX dX0_allAsTold_8 rfl ?_
  refine s_getr hX fi_X0_9 ly_c_debts rfl dX0_allAsTold_9 ?_
  refine s_iconst (v := 0) hX dX0_allAsTold_12 rfl ?_
  refine s_sipush (v := 144) hX dX0_allAsTold_13 rfl ?_
  refine s_acopy hX ly_c_land_place ly_c_debts_at wd_ml_X0_52 rfl (by decide) (Nat.le_of_ble_eq_true rfl) (by decide) (by decide) (by decide) (by decide) (by decide) dX0_allAsTold_16 ?_
  exact s_vret hX hq rfl dX0_allAsTold_19 h
theorem c_Debts_allAsTold {M : Mem} {Q : Mem → Prop} (h : w_Debts_allAsTold M Q) : CV yX0_allAsTold cX0_allAsTold 1 none 1 0 0 LY LY [vr c_debts] M Q := mk_v rfl wd_co_X0_allAsTold rfl rfl (Nat.le_of_ble_eq_true rfl) (fun X hX hq => t_Debts_allAsTold hX hq h)
theorem mv_Debts_allAsTold : MV yX0_allAsTold cX0_allAsTold 1 none RX0 0 := ⟨wd_co_X0_allAsTold, wd_im_X0_allAsTold, wd_se_X0_allAsTold, wd_in_X0, by decide +kernel, by decide⟩
def w_Law_joined (a0 : Int32) (a1 : Int32) (a2 : Int32) (M : Mem) (Q : Int32 → Mem → Prop) : Prop :=
  ((a0 = (-11) → ((a1 = 0 → Q 0 M) ∧ (¬ a1 = 0 → Q (if a2 = 0 then (0 : Int32) else 1) M))) ∧ (a0 = (-10) → Q (if a1 = a2 then (1 : Int32) else 0) M) ∧ (a0 = (-9) → Q (if a2 ≤ a1 then (0 : Int32) else 1) M) ∧ (a0 = (-8) → Q (a1 - a2) M) ∧ (a0 = (-7) → Q (a1 + a2) M) ∧ (a0 = (-6) → Q (a1 * a2) M) ∧ (¬ a0 = (-11) → ¬ a0 = (-10) → ¬ a0 = (-9) → ¬ a0 = (-8) → ¬ a0 = (-7) → ¬ a0 = (-6) → ((¬ a1 = 0 → Q 1 M) ∧ (a1 = 0 → Q (if a2 = 0 then (0 : Int32) else 1) M))))
set_option maxHeartbeats 4000000 in
theorem t_Law_joined {X : Cx} (hX : Cok X cX6_joined RX6 3 ((some .int)) 1 0 0) {Q : Int32 → Mem → Prop} (hq : RI X 0 0 LY Q) {M : Mem} {a0 : Int32} {a1 : Int32} {a2 : Int32} (h : w_Law_joined a0 a1 a2 M Q) : Wat X 0 0 LY 0 [some (vi a0), some (vi a1), some (vi a2)] [] M := by
  refine s_iload_n hX dX6_joined_0 rfl ?_
  by_cases c0 : a0 = (-11)
  · replace h := h.1 c0
    refine s_tableIn (tgt := 74) (off := 73) hX dX6_joined_1 (by rw [c0]; decide) (by rw [c0]; decide) (by rw [c0]; rfl) (by decide) ?_
    refine s_iload_n hX dX6_joined_74 rfl ?_
    refine s_if_eq (tgt := 86) hX dX6_joined_75 (by decide) (fun c => ?_) (fun c => ?_)
    · replace h := h.1 c
      refine s_iconst (v := 0) hX dX6_joined_86 rfl ?_
      exact s_iret hX hq rfl dX6_joined_87 h
    · replace h := h.2 c
      refine s_iload_n hX dX6_joined_78 rfl ?_
      have hJ : Wat X 0 0 LY 87 [some (vi a0), some (vi a1), some (vi a2)] [vi (if a2 = 0 then (0 : Int32) else 1)] M := by
        exact s_iret hX hq rfl dX6_joined_87 h
      refine s_if_eq (tgt := 86) hX dX6_joined_79 (by decide) (fun c => ?_) (fun c => ?_)
      · rw [if_pos c] at hJ
        refine s_iconst (v := 0) hX dX6_joined_86 rfl ?_
        exact hJ
      · rw [if_neg c] at hJ
        refine s_iconst (v := 1) hX dX6_joined_82 rfl ?_
        refine s_goto (tgt := 87) hX dX6_joined_83 (by decide) ?_
        exact hJ
  by_cases c1 : a0 = (-10)
  · replace h := h.2.1 c1
    refine s_tableIn (tgt := 63) (off := 62) hX dX6_joined_1 (by rw [c1]; decide) (by rw [c1]; decide) (by rw [c1]; rfl) (by decide) ?_
    refine s_iload_n hX dX6_joined_63 rfl ?_
    refine s_iload_n hX dX6_joined_64 rfl ?_
    have hJ : Wat X 0 0 LY 73 [some (vi a0), some (vi a1), some (vi a2)] [vi (if a1 = a2 then (1 : Int32) else 0)] M := by
      exact s_iret hX hq rfl dX6_joined_73 h
    refine s_icmp_ne (tgt := 72) hX dX6_joined_65 (by decide) (fun c => ?_) (fun c => ?_)
    · rw [if_neg c] at hJ
      refine s_iconst (v := 0) hX dX6_joined_72 rfl ?_
      exact hJ
    · rw [if_pos c] at hJ
      refine s_iconst (v := 1) hX dX6_joined_68 rfl ?_
      refine s_goto (tgt := 73) hX dX6_joined_69 (by decide) ?_
      exact hJ
  by_cases c2 : a0 = (-9)
  · replace h := h.2.2.1 c2
    refine s_tableIn (tgt := 52) (off := 51) hX dX6_joined_1 (by rw [c2]; decide) (by rw [c2]; decide) (by rw [c2]; rfl) (by decide) ?_
    refine s_iload_n hX dX6_joined_52 rfl ?_
    refine s_iload_n hX dX6_joined_53 rfl ?_
    have hJ : Wat X 0 0 LY 62 [some (vi a0), some (vi a1), some (vi a2)] [vi (if a2 ≤ a1 then (0 : Int32) else 1)] M := by
      exact s_iret hX hq rfl dX6_joined_62 h
    refine s_icmp_ge (tgt := 61) hX dX6_joined_54 (by decide) (fun c => ?_) (fun c => ?_)
    · rw [if_pos c] at hJ
      refine s_iconst (v := 0) hX dX6_joined_61 rfl ?_
      exact hJ
    · rw [if_neg c] at hJ
      refine s_iconst (v := 1) hX dX6_joined_57 rfl ?_
      refine s_goto (tgt := 62) hX dX6_joined_58 (by decide) ?_
      exact hJ
  by_cases c3 : a0 = (-8)
  · replace h := h.2.2.2.1 c3
    refine s_tableIn (tgt := 48) (off := 47) hX dX6_joined_1 (by rw [c3]; decide) (by rw [c3]; decide) (by rw [c3]; rfl) (by decide) ?_
    refine s_iload_n hX dX6_joined_48 rfl ?_
    refine s_iload_n hX dX6_joined_49 rfl ?_
    refine s_isub hX dX6_joined_50 ?_
    exact s_iret hX hq rfl dX6_joined_51 h
  by_cases c4 : a0 = (-7)
  · replace h := h.2.2.2.2.1 c4
    refine s_tableIn (tgt := 44) (off := 43) hX dX6_joined_1 (by rw [c4]; decide) (by rw [c4]; decide) (by rw [c4]; rfl) (by decide) ?_
    refine s_iload_n hX dX6_joined_44 rfl ?_
    refine s_iload_n hX dX6_joined_45 rfl ?_
    refine s_iadd hX dX6_joined_46 ?_
    exact s_iret hX hq rfl dX6_joined_47 h
  by_cases c5 : a0 = (-6)
  · replace h := h.2.2.2.2.2.1 c5
    refine s_tableIn (tgt := 40) (off := 39) hX dX6_joined_1 (by rw [c5]; decide) (by rw [c5]; decide) (by rw [c5]; rfl) (by decide) ?_
    refine s_iload_n hX dX6_joined_40 rfl ?_
    refine s_iload_n hX dX6_joined_41 rfl ?_
    refine s_imul hX dX6_joined_42 ?_
    exact s_iret hX hq rfl dX6_joined_43 h
  replace h := h.2.2.2.2.2.2 c0 c1 c2 c3 c4 c5
  have n0 := lv_neT (a := -11) c0 rfl
  have n1 := lv_neT (a := -10) c1 rfl
  have n2 := lv_neT (a := -9) c2 rfl
  have n3 := lv_neT (a := -8) c3 rfl
  have n4 := lv_neT (a := -7) c4 rfl
  have n5 := lv_neT (a := -6) c5 rfl
  refine s_tableOut (tgt := 88) hX dX6_joined_1 (by omega) (by decide) ?_
  refine s_iload_n hX dX6_joined_88 rfl ?_
  refine s_if_ne (tgt := 96) hX dX6_joined_89 (by decide) (fun c => ?_) (fun c => ?_)
  · replace h := h.1 c
    refine s_iconst (v := 1) hX dX6_joined_96 rfl ?_
    refine s_goto (tgt := 101) hX dX6_joined_97 (by decide) ?_
    exact s_iret hX hq rfl dX6_joined_101 h
  · replace h := h.2 c
    refine s_iload_n hX dX6_joined_92 rfl ?_
    have hJ : Wat X 0 0 LY 101 [some (vi a0), some (vi a1), some (vi a2)] [vi (if a2 = 0 then (0 : Int32) else 1)] M := by
      exact s_iret hX hq rfl dX6_joined_101 h
    refine s_if_eq (tgt := 100) hX dX6_joined_93 (by decide) (fun c => ?_) (fun c => ?_)
    · rw [if_pos c] at hJ
      refine s_iconst (v := 0) hX dX6_joined_100 rfl ?_
      exact hJ
    · rw [if_neg c] at hJ
      refine s_iconst (v := 1) hX dX6_joined_96 rfl ?_
      refine s_goto (tgt := 101) hX dX6_joined_97 (by decide) ?_
      exact hJ
theorem c_Law_joined {a0 : Int32} {a1 : Int32} {a2 : Int32} {M : Mem} {Q : Int32 → Mem → Prop} (h : w_Law_joined a0 a1 a2 M Q) : CI yX6_joined cX6_joined 3 ((some .int)) 1 0 0 LY LY [vi a0, vi a1, vi a2] M Q := mk_i rfl wd_co_X6_joined rfl rfl (Nat.le_of_ble_eq_true rfl) (fun X hX hq => t_Law_joined hX hq h)
theorem ms_Law_joined : MS yX6_joined cX6_joined 3 ((some .int)) 3 := ⟨wd_co_X6_joined, wd_sm_X6_joined, wd_in_X6, by decide +kernel, by decide⟩
def w_Law_laid (a0 : Int32) (a1 : Int32) (a2 : Int32) (a3 : Int32) (a4 : Int32) (M : Mem) (Q : Int32 → Mem → Prop) : Prop :=
  ((a0 = (-4) → Q a4 M) ∧ (a0 = (-3) → Q a3 M) ∧ (a0 = (-2) → Q a2 M) ∧ (a0 = (-1) → Q a1 M) ∧ (¬ a0 = (-4) → ¬ a0 = (-3) → ¬ a0 = (-2) → ¬ a0 = (-1) → Q a0 M))
set_option maxHeartbeats 4000000 in
theorem t_Law_laid {X : Cx} (hX : Cok X cX6_laid RX6 5 ((some .int)) 1 0 0) {Q : Int32 → Mem → Prop} (hq : RI X 0 0 LY Q) {M : Mem} {a0 : Int32} {a1 : Int32} {a2 : Int32} {a3 : Int32} {a4 : Int32} (h : w_Law_laid a0 a1 a2 a3 a4 M Q) : Wat X 0 0 LY 0 [some (vi a0), some (vi a1), some (vi a2), some (vi a3), some (vi a4)] [] M := by
  refine s_iload_n hX dX6_laid_0 rfl ?_
  by_cases c0 : a0 = (-4)
  · replace h := h.1 c0
    refine s_tableIn (tgt := 38) (off := 37) hX dX6_laid_1 (by rw [c0]; decide) (by rw [c0]; decide) (by rw [c0]; rfl) (by decide) ?_
    refine s_iload hX dX6_laid_38 rfl ?_
    exact s_iret hX hq rfl dX6_laid_40 h
  by_cases c1 : a0 = (-3)
  · replace h := h.2.1 c1
    refine s_tableIn (tgt := 36) (off := 35) hX dX6_laid_1 (by rw [c1]; decide) (by rw [c1]; decide) (by rw [c1]; rfl) (by decide) ?_
    refine s_iload_n hX dX6_laid_36 rfl ?_
    exact s_iret hX hq rfl dX6_laid_37 h
  by_cases c2 : a0 = (-2)
  · replace h := h.2.2.1 c2
    refine s_tableIn (tgt := 34) (off := 33) hX dX6_laid_1 (by rw [c2]; decide) (by rw [c2]; decide) (by rw [c2]; rfl) (by decide) ?_
    refine s_iload_n hX dX6_laid_34 rfl ?_
    exact s_iret hX hq rfl dX6_laid_35 h
  by_cases c3 : a0 = (-1)
  · replace h := h.2.2.2.1 c3
    refine s_tableIn (tgt := 32) (off := 31) hX dX6_laid_1 (by rw [c3]; decide) (by rw [c3]; decide) (by rw [c3]; rfl) (by decide) ?_
    refine s_iload_n hX dX6_laid_32 rfl ?_
    exact s_iret hX hq rfl dX6_laid_33 h
  replace h := h.2.2.2.2 c0 c1 c2 c3
  have n0 := lv_neT (a := -4) c0 rfl
  have n1 := lv_neT (a := -3) c1 rfl
  have n2 := lv_neT (a := -2) c2 rfl
  have n3 := lv_neT (a := -1) c3 rfl
  refine s_tableOut (tgt := 41) hX dX6_laid_1 (by omega) (by decide) ?_
  refine s_iload_n hX dX6_laid_41 rfl ?_
  exact s_iret hX hq rfl dX6_laid_42 h
theorem c_Law_laid {a0 : Int32} {a1 : Int32} {a2 : Int32} {a3 : Int32} {a4 : Int32} {M : Mem} {Q : Int32 → Mem → Prop} (h : w_Law_laid a0 a1 a2 a3 a4 M Q) : CI yX6_laid cX6_laid 5 ((some .int)) 1 0 0 LY LY [vi a0, vi a1, vi a2, vi a3, vi a4] M Q := mk_i rfl wd_co_X6_laid rfl rfl (Nat.le_of_ble_eq_true rfl) (fun X hX hq => t_Law_laid hX hq h)
theorem ms_Law_laid : MS yX6_laid cX6_laid 5 ((some .int)) 5 := ⟨wd_co_X6_laid, wd_sm_X6_laid, wd_in_X6, by decide +kernel, by decide⟩
def w_Law_value_L9 (l1 : Int32) (l2 : Int32) (l3 : Int32) (l4 : Int32) (K : Int32 → Mem → Prop) (Q : Int32 → Mem → Prop) : Nat → Int32 → Int32 → Mem → Prop
  | 0, _, _, _ => False
  | n + 1, l5, l6, M => ((l6 < 0 → K l5 M) ∧ (¬ l6 < 0 → (((M.1 c_land_fog Law_to) ≤ l6 → K l5 M) ∧ (¬ (M.1 c_land_fog Law_to) ≤ l6 → ((1024 ≤ l6 → K l5 M) ∧ (¬ 1024 ≤ l6 → (vp_in l6 1024 ∧ ∀ x326 : Int32, x326 = (M.1 c_land_code (Int32.toNatClampNeg l6)) → ((x326 ≤ (-5) → ((¬ x326 = (-5) → ((l5 ≤ 1 → w_Law_value_L9 l1 l2 l3 l4 K Q n l5 (l6 + 1) M) ∧ (¬ l5 ≤ 1 → (vp_in ((l5 + (-1)) - 1) 32 ∧ (vp_in (l5 + (-1)) 32 ∧ w_Law_joined x326 (M.1 c_land_fog_stack (Int32.toNatClampNeg ((l5 + (-1)) - 1))) (M.1 c_land_fog_stack (Int32.toNatClampNeg (l5 + (-1)))) M (fun r328 M327 => (vp_in ((l5 + (-1)) - 1) 32 ∧ w_Law_value_L9 l1 l2 l3 l4 K Q n (l5 + (-1)) (l6 + 1) (si M327 c_land_fog_stack (Int32.toNatClampNeg ((l5 + (-1)) - 1)) r328)))))))) ∧ (x326 = (-5) → ((l5 ≤ 0 → w_Law_value_L9 l1 l2 l3 l4 K Q n l5 (l6 + 1) M) ∧ (¬ l5 ≤ 0 → (vp_in (l5 - 1) 32 ∧ (vp_in (l5 - 1) 32 ∧ w_Law_value_L9 l1 l2 l3 l4 K Q n l5 (l6 + 1) (si M c_land_fog_stack (Int32.toNatClampNeg (l5 - 1)) (if (M.1 c_land_fog_stack (Int32.toNatClampNeg (l5 - 1))) = 0 then (1 : Int32) else 0))))))))) ∧ (¬ x326 ≤ (-5) → ((32 ≤ l5 → w_Law_value_L9 l1 l2 l3 l4 K Q n l5 (l6 + 1) M) ∧ (¬ 32 ≤ l5 → w_Law_laid x326 l1 l2 l3 l4 M (fun r330 M329 => (vp_in l5 32 ∧ w_Law_value_L9 l1 l2 l3 l4 K Q n (l5 + 1) (l6 + 1) (si M329 c_land_fog_stack (Int32.toNatClampNeg l5) r330))))))))))))))
set_option maxHeartbeats 4000000 in
theorem t_Law_value_L9 {X : Cx} (hX : Cok X cX6_value RX6 8 ((some .int)) 2 0 0) {Q : Int32 → Mem → Prop} (hq : RI X 0 0 LY Q) {l1 : Int32} {l2 : Int32} {l3 : Int32} {l4 : Int32} {K : Int32 → Mem → Prop} (hK : ∀ (l5 : Int32) (M : Mem), K l5 M → Wat X 0 0 LY 165 [some (vr c_land_fog), none, none, none, none, some (vi l5), none, none] [] M) : ∀ (n : Nat) (l5 : Int32) (l6 : Int32) (M : Mem), w_Law_value_L9 l1 l2 l3 l4 K Q n l5 l6 M → Wat X 0 0 LY 9 [some (vr c_land_fog), some (vi l1), some (vi l2), some (vi l3), some (vi l4), some (vi l5), some (vi l6), none] [] M := by
  intro n
  induction n with
  | zero => intro _ _ _ h; exact h.elim
  | succ n ih =>
    intro l5 l6 M h
    refine s_iload hX dX6_value_9 rfl ?_
    refine s_if_lt (tgt := 165) hX dX6_value_11 (by decide) (fun c => ?_) (fun c => ?_)
    · replace h := h.1 c
      refine s_mask [true, false, false, false, false, true, false, true] (lv' := [some (vr c_land_fog), none, none, none, none, some (vi l5), none, none]) rfl rfl ?_
      exact hK _ _ h
    · replace h := h.2 c
      refine s_iload hX dX6_value_14 rfl ?_
      refine s_aload_n hX dX6_value_16 rfl ?_
      refine s_getiv (v := (M.1 c_land_fog Law_to)) hX fi_X6_24 ly_c_land_fog rfl dX6_value_17 rfl ?_
      refine s_icmp_ge (tgt := 165) hX dX6_value_20 (by decide) (fun c => ?_) (fun c => ?_)
      · replace h := h.1 c
        refine s_mask [true, false, false, false, false, true, false, true] (lv' := [some (vr c_land_fog), none, none, none, none, some (vi l5), none, none]) rfl rfl ?_
        exact hK _ _ h
      · replace h := h.2 c
        refine s_iload hX dX6_value_23 rfl ?_
        refine s_aload_n hX dX6_value_25 rfl ?_
        refine s_getr hX fi_X6_13 ly_c_land_fog rfl dX6_value_26 ?_
        refine s_alen (v := 1024) hX ly_c_land_code (by decide) rfl dX6_value_29 ?_
        refine s_icmp_ge (tgt := 165) hX dX6_value_30 (by decide) (fun c => ?_) (fun c => ?_)
        · replace h := h.1 c
          refine s_mask [true, false, false, false, false, true, false, true] (lv' := [some (vr c_land_fog), none, none, none, none, some (vi l5), none, none]) rfl rfl ?_
          exact hK _ _ h
        · replace h := h.2 c
          refine s_aload_n hX dX6_value_33 rfl ?_
          refine s_getr hX fi_X6_13 ly_c_land_fog rfl dX6_value_34 ?_
          refine s_iload hX dX6_value_37 rfl ?_
          have hi := h.1
          replace h := h.2
          refine s_ialdv (v := (M.1 c_land_code (Int32.toNatClampNeg l6))) hX ly_c_land_code hi dX6_value_39 rfl ?_
          refine s_nmi (fun x326 ex326 => ?_)
          replace h := h x326 ex326
          refine s_istore (lv' := [some (vr c_land_fog), some (vi l1), some (vi l2), some (vi l3), some (vi l4), some (vi l5), some (vi l6), some (vi x326)]) hX dX6_value_40 rfl rfl (Nat.le_of_ble_eq_true rfl) ?_
          refine s_iload hX dX6_value_42 rfl ?_
          refine s_bipush (v := (-5)) hX dX6_value_44 rfl ?_
          refine s_icmp_le (tgt := 79) hX dX6_value_46 (by decide) (fun c => ?_) (fun c => ?_)
          · replace h := h.1 c
            refine s_iload hX dX6_value_79 rfl ?_
            refine s_bipush (v := (-5)) hX dX6_value_81 rfl ?_
            refine s_icmp_ne (tgt := 120) hX dX6_value_83 (by decide) (fun c => ?_) (fun c => ?_)
            · replace h := h.1 c
              refine s_iload hX dX6_value_120 rfl ?_
              refine s_iconst (v := 1) hX dX6_value_122 rfl ?_
              refine s_icmp_le (tgt := 159) hX dX6_value_123 (by decide) (fun c => ?_) (fun c => ?_)
              · replace h := h.1 c
                refine s_iinc (v := (l6 + 1)) (lv' := [some (vr c_land_fog), some (vi l1), some (vi l2), some (vi l3), some (vi l4), some (vi l5), some (vi (l6 + 1)), some (vi x326)]) hX dX6_value_159 rfl rfl rfl rfl ?_
                refine s_goto (tgt := 9) hX dX6_value_162 (by decide) ?_
                refine s_mask [true, true, true, true, true, true, true, false] (lv' := [some (vr c_land_fog), some (vi l1), some (vi l2), some (vi l3), some (vi l4), some (vi l5), some (vi (l6 + 1)), none]) rfl rfl ?_
                exact ih _ _ _ h
              · replace h := h.2 c
                refine s_iinc (v := (l5 + (-1))) (lv' := [some (vr c_land_fog), some (vi l1), some (vi l2), some (vi l3), some (vi l4), some (vi (l5 + (-1))), some (vi l6), some (vi x326)]) hX dX6_value_126 rfl rfl rfl rfl ?_
                refine s_aload_n hX dX6_value_129 rfl ?_
                refine s_getr hX fi_X6_9 ly_c_land_fog rfl dX6_value_130 ?_
                refine s_iload hX dX6_value_133 rfl ?_
                refine s_iconst (v := 1) hX dX6_value_135 rfl ?_
                refine s_isub hX dX6_value_136 ?_
                refine s_iload hX dX6_value_137 rfl ?_
                refine s_aload_n hX dX6_value_139 rfl ?_
                refine s_getr hX fi_X6_9 ly_c_land_fog rfl dX6_value_140 ?_
                refine s_iload hX dX6_value_143 rfl ?_
                refine s_iconst (v := 1) hX dX6_value_145 rfl ?_
                refine s_isub hX dX6_value_146 ?_
                have hi := h.1
                replace h := h.2
                refine s_ialdv (v := (M.1 c_land_fog_stack (Int32.toNatClampNeg ((l5 + (-1)) - 1)))) hX ly_c_land_fog_stack hi dX6_value_147 rfl ?_
                refine s_aload_n hX dX6_value_148 rfl ?_
                refine s_getr hX fi_X6_9 ly_c_land_fog rfl dX6_value_149 ?_
                refine s_iload hX dX6_value_152 rfl ?_
                have hi := h.1
                replace h := h.2
                refine s_ialdv (v := (M.1 c_land_fog_stack (Int32.toNatClampNeg (l5 + (-1))))) hX ly_c_land_fog_stack hi dX6_value_154 rfl ?_
                refine s_csi (as := [vi x326, vi (M.1 c_land_fog_stack (Int32.toNatClampNeg ((l5 + (-1)) - 1))), vi (M.1 c_land_fog_stack (Int32.toNatClampNeg (l5 + (-1))))]) (rest := [vi ((l5 + (-1)) - 1), vr c_land_fog_stack]) hX (c_Law_joined h) ms_Law_joined wd_ml_X6_31 dX6_value_155 rfl (Nat.le_of_ble_eq_true rfl) rfl (by decide) ⟨Nat.zero_le _, Nat.zero_le _⟩ (fun r328 M327 h => ?_)
                have hi := h.1
                replace h := h.2
                refine s_iast hX ly_c_land_fog_stack hi dX6_value_158 ?_
                refine s_iinc (v := (l6 + 1)) (lv' := [some (vr c_land_fog), some (vi l1), some (vi l2), some (vi l3), some (vi l4), some (vi (l5 + (-1))), some (vi (l6 + 1)), some (vi x326)]) hX dX6_value_159 rfl rfl rfl rfl ?_
                refine s_goto (tgt := 9) hX dX6_value_162 (by decide) ?_
                refine s_mask [true, true, true, true, true, true, true, false] (lv' := [some (vr c_land_fog), some (vi l1), some (vi l2), some (vi l3), some (vi l4), some (vi (l5 + (-1))), some (vi (l6 + 1)), none]) rfl rfl ?_
                exact ih _ _ _ h
            · replace h := h.2 c
              refine s_iload hX dX6_value_86 rfl ?_
              refine s_if_le (tgt := 159) hX dX6_value_88 (by decide) (fun c => ?_) (fun c => ?_)
              · replace h := h.1 c
                refine s_iinc (v := (l6 + 1)) (lv' := [some (vr c_land_fog), some (vi l1), some (vi l2), some (vi l3), some (vi l4), some (vi l5), some (vi (l6 + 1)), some (vi x326)]) hX dX6_value_159 rfl rfl rfl rfl ?_
                refine s_goto (tgt := 9) hX dX6_value_162 (by decide) ?_
                refine s_mask [true, true, true, true, true, true, true, false] (lv' := [some (vr c_land_fog), some (vi l1), some (vi l2), some (vi l3), some (vi l4), some (vi l5), some (vi (l6 + 1)), none]) rfl rfl ?_
                exact ih _ _ _ h
              · replace h := h.2 c
                refine s_aload_n hX dX6_value_91 rfl ?_
                refine s_getr hX fi_X6_9 ly_c_land_fog rfl dX6_value_92 ?_
                refine s_iload hX dX6_value_95 rfl ?_
                refine s_iconst (v := 1) hX dX6_value_97 rfl ?_
                refine s_isub hX dX6_value_98 ?_
                refine s_aload_n hX dX6_value_99 rfl ?_
                refine s_getr hX fi_X6_9 ly_c_land_fog rfl dX6_value_100 ?_
                refine s_iload hX dX6_value_103 rfl ?_
                refine s_iconst (v := 1) hX dX6_value_105 rfl ?_
                refine s_isub hX dX6_value_106 ?_
                have hi := h.1
                replace h := h.2
                refine s_ialdv (v := (M.1 c_land_fog_stack (Int32.toNatClampNeg (l5 - 1)))) hX ly_c_land_fog_stack hi dX6_value_107 rfl ?_
                have hJ : Wat X 0 0 LY 116 [some (vr c_land_fog), some (vi l1), some (vi l2), some (vi l3), some (vi l4), some (vi l5), some (vi l6), some (vi x326)] [vi (if (M.1 c_land_fog_stack (Int32.toNatClampNeg (l5 - 1))) = 0 then (1 : Int32) else 0), vi (l5 - 1), vr c_land_fog_stack] M := by
                  have hi := h.1
                  replace h := h.2
                  refine s_iast hX ly_c_land_fog_stack hi dX6_value_116 ?_
                  refine s_goto (tgt := 159) hX dX6_value_117 (by decide) ?_
                  refine s_iinc (v := (l6 + 1)) (lv' := [some (vr c_land_fog), some (vi l1), some (vi l2), some (vi l3), some (vi l4), some (vi l5), some (vi (l6 + 1)), some (vi x326)]) hX dX6_value_159 rfl rfl rfl rfl ?_
                  refine s_goto (tgt := 9) hX dX6_value_162 (by decide) ?_
                  refine s_mask [true, true, true, true, true, true, true, false] (lv' := [some (vr c_land_fog), some (vi l1), some (vi l2), some (vi l3), some (vi l4), some (vi l5), some (vi (l6 + 1)), none]) rfl rfl ?_
                  exact ih _ _ _ h
                refine s_if_ne (tgt := 115) hX dX6_value_108 (by decide) (fun c => ?_) (fun c => ?_)
                · rw [if_neg c] at hJ
                  refine s_iconst (v := 0) hX dX6_value_115 rfl ?_
                  exact hJ
                · rw [if_pos c] at hJ
                  refine s_iconst (v := 1) hX dX6_value_111 rfl ?_
                  refine s_goto (tgt := 116) hX dX6_value_112 (by decide) ?_
                  exact hJ
          · replace h := h.2 c
            refine s_iload hX dX6_value_49 rfl ?_
            refine s_bipush (v := 32) hX dX6_value_51 rfl ?_
            refine s_icmp_ge (tgt := 159) hX dX6_value_53 (by decide) (fun c => ?_) (fun c => ?_)
            · replace h := h.1 c
              refine s_iinc (v := (l6 + 1)) (lv' := [some (vr c_land_fog), some (vi l1), some (vi l2), some (vi l3), some (vi l4), some (vi l5), some (vi (l6 + 1)), some (vi x326)]) hX dX6_value_159 rfl rfl rfl rfl ?_
              refine s_goto (tgt := 9) hX dX6_value_162 (by decide) ?_
              refine s_mask [true, true, true, true, true, true, true, false] (lv' := [some (vr c_land_fog), some (vi l1), some (vi l2), some (vi l3), some (vi l4), some (vi l5), some (vi (l6 + 1)), none]) rfl rfl ?_
              exact ih _ _ _ h
            · replace h := h.2 c
              refine s_aload_n hX dX6_value_56 rfl ?_
              refine s_getr hX fi_X6_9 ly_c_land_fog rfl dX6_value_57 ?_
              refine s_iload hX dX6_value_60 rfl ?_
              refine s_iload hX dX6_value_62 rfl ?_
              refine s_iload_n hX dX6_value_64 rfl ?_
              refine s_iload_n hX dX6_value_65 rfl ?_
              refine s_iload_n hX dX6_value_66 rfl ?_
              refine s_iload hX dX6_value_67 rfl ?_
              refine s_csi (as := [vi x326, vi l1, vi l2, vi l3, vi l4]) (rest := [vi l5, vr c_land_fog_stack]) hX (c_Law_laid h) ms_Law_laid wd_ml_X6_27 dX6_value_69 rfl (Nat.le_of_ble_eq_true rfl) rfl (by decide) ⟨Nat.zero_le _, Nat.zero_le _⟩ (fun r330 M329 h => ?_)
              have hi := h.1
              replace h := h.2
              refine s_iast hX ly_c_land_fog_stack hi dX6_value_72 ?_
              refine s_iinc (v := (l5 + 1)) (lv' := [some (vr c_land_fog), some (vi l1), some (vi l2), some (vi l3), some (vi l4), some (vi (l5 + 1)), some (vi l6), some (vi x326)]) hX dX6_value_73 rfl rfl rfl rfl ?_
              refine s_goto (tgt := 159) hX dX6_value_76 (by decide) ?_
              refine s_iinc (v := (l6 + 1)) (lv' := [some (vr c_land_fog), some (vi l1), some (vi l2), some (vi l3), some (vi l4), some (vi (l5 + 1)), some (vi (l6 + 1)), some (vi x326)]) hX dX6_value_159 rfl rfl rfl rfl ?_
              refine s_goto (tgt := 9) hX dX6_value_162 (by decide) ?_
              refine s_mask [true, true, true, true, true, true, true, false] (lv' := [some (vr c_land_fog), some (vi l1), some (vi l2), some (vi l3), some (vi l4), some (vi (l5 + 1)), some (vi (l6 + 1)), none]) rfl rfl ?_
              exact ih _ _ _ h
def w_Law_value_j165 (l5 : Int32) (M : Mem) (Q : Int32 → Mem → Prop) : Prop :=
  ((l5 ≤ 0 → Q 0 M) ∧ (¬ l5 ≤ 0 → (vp_in 0 32 ∧ Q (M.1 c_land_fog_stack (Int32.toNatClampNeg 0)) M)))
set_option maxHeartbeats 4000000 in
theorem t_Law_value_j165 {X : Cx} (hX : Cok X cX6_value RX6 8 ((some .int)) 2 0 0) {Q : Int32 → Mem → Prop} (hq : RI X 0 0 LY Q) {l5 : Int32} {M : Mem} (h : w_Law_value_j165 l5 M Q) : Wat X 0 0 LY 165 [some (vr c_land_fog), none, none, none, none, some (vi l5), none, none] [] M := by
  refine s_iload hX dX6_value_165 rfl ?_
  refine s_if_le (tgt := 179) hX dX6_value_167 (by decide) (fun c => ?_) (fun c => ?_)
  · replace h := h.1 c
    refine s_iconst (v := 0) hX dX6_value_179 rfl ?_
    exact s_iret hX hq rfl dX6_value_180 h
  · replace h := h.2 c
    refine s_aload_n hX dX6_value_170 rfl ?_
    refine s_getr hX fi_X6_9 ly_c_land_fog rfl dX6_value_171 ?_
    refine s_iconst (v := 0) hX dX6_value_174 rfl ?_
    have hi := h.1
    replace h := h.2
    refine s_ialdv (v := (M.1 c_land_fog_stack (Int32.toNatClampNeg 0))) hX ly_c_land_fog_stack hi dX6_value_175 rfl ?_
    refine s_goto (tgt := 180) hX dX6_value_176 (by decide) ?_
    exact s_iret hX hq rfl dX6_value_180 h
def w_Law_value (a0 : Int32) (a1 : Int32) (a2 : Int32) (a3 : Int32) (M : Mem) (Q : Int32 → Mem → Prop) : Prop :=
  (∃ n333, w_Law_value_L9 a0 a1 a2 a3 (fun y332 M331 => w_Law_value_j165 y332 M331 Q) Q n333 0 (M.1 c_land_fog Law_from) M)
set_option maxHeartbeats 4000000 in
theorem t_Law_value {X : Cx} (hX : Cok X cX6_value RX6 8 ((some .int)) 2 0 0) {Q : Int32 → Mem → Prop} (hq : RI X 0 0 LY Q) {M : Mem} {a0 : Int32} {a1 : Int32} {a2 : Int32} {a3 : Int32} (h : w_Law_value a0 a1 a2 a3 M Q) : Wat X 0 0 LY 0 [some (vr c_land_fog), some (vi a0), some (vi a1), some (vi a2), some (vi a3), none, none, none] [] M := by
  refine s_iconst (v := 0) hX dX6_value_0 rfl ?_
  refine s_istore (lv' := [some (vr c_land_fog), some (vi a0), some (vi a1), some (vi a2), some (vi a3), some (vi 0), none, none]) hX dX6_value_1 rfl rfl (Nat.le_of_ble_eq_true rfl) ?_
  refine s_aload_n hX dX6_value_3 rfl ?_
  refine s_getiv (v := (M.1 c_land_fog Law_from)) hX fi_X6_20 ly_c_land_fog rfl dX6_value_4 rfl ?_
  refine s_istore (lv' := [some (vr c_land_fog), some (vi a0), some (vi a1), some (vi a2), some (vi a3), some (vi 0), some (vi (M.1 c_land_fog Law_from)), none]) hX dX6_value_7 rfl rfl (Nat.le_of_ble_eq_true rfl) ?_
  obtain ⟨n333, h⟩ := h
  refine t_Law_value_L9 hX hq ?_ n333 _ _ _ h
  intro y332 M331 h
  exact t_Law_value_j165 hX hq h
theorem c_Law_value {a0 : Int32} {a1 : Int32} {a2 : Int32} {a3 : Int32} {M : Mem} {Q : Int32 → Mem → Prop} (h : w_Law_value a0 a1 a2 a3 M Q) : CI yX6_value cX6_value 8 ((some .int)) 2 0 0 LY LY [vr c_land_fog, vi a0, vi a1, vi a2, vi a3] M Q := mk_i rfl wd_co_X6_value rfl rfl (Nat.le_of_ble_eq_true rfl) (fun X hX hq => t_Law_value hX hq h)
theorem mv_Law_value : MV yX6_value cX6_value 8 ((some .int)) RX6 4 := ⟨wd_co_X6_value, wd_im_X6_value, wd_se_X6_value, wd_in_X6, by decide +kernel, by decide⟩
def w_Debts_within (a0 : Int32) (a1 : Int32) (M : Mem) (Q : Int32 → Mem → Prop) : Prop :=
  Q (if (0 : Int32) < (if a1 < a0 then a1 else a0) then (if a1 < a0 then a1 else a0) else 0) M
set_option maxHeartbeats 4000000 in
theorem t_Debts_within {X : Cx} (hX : Cok X cX0_within RX0 2 ((some .int)) 1 0 0) {Q : Int32 → Mem → Prop} (hq : RI X 0 0 LY Q) {M : Mem} {a0 : Int32} {a1 : Int32} (h : w_Debts_within a0 a1 M Q) : Wat X 0 0 LY 0 [some (vi a0), some (vi a1)] [] M := by
  refine s_iconst (v := 0) hX dX0_within_0 rfl ?_
  refine s_iload_n hX dX0_within_1 rfl ?_
  refine s_iload_n hX dX0_within_2 rfl ?_
  refine s_mmin hX wd_ml_X0_127 rfl (by decide) (Nat.le_of_ble_eq_true rfl) ⟨Nat.zero_le _, Nat.zero_le _⟩ dX0_within_3 ?_
  refine s_mmax hX wd_ml_X0_132 rfl (by decide) (Nat.le_of_ble_eq_true rfl) ⟨Nat.zero_le _, Nat.zero_le _⟩ dX0_within_6 ?_
  exact s_iret hX hq rfl dX0_within_9 h
theorem c_Debts_within {a0 : Int32} {a1 : Int32} {M : Mem} {Q : Int32 → Mem → Prop} (h : w_Debts_within a0 a1 M Q) : CI yX0_within cX0_within 2 ((some .int)) 1 0 0 LY LY [vi a0, vi a1] M Q := mk_i rfl wd_co_X0_within rfl rfl (Nat.le_of_ble_eq_true rfl) (fun X hX hq => t_Debts_within hX hq h)
theorem ms_Debts_within : MS yX0_within cX0_within 2 ((some .int)) 2 := ⟨wd_co_X0_within, wd_sm_X0_within, wd_in_X0, by decide +kernel, by decide⟩
def w_Debts_far_j30 (l3 : Int32) (s0 : Int32) (M : Mem) (Q : Int32 → Mem → Prop) : Prop :=
  Q (s0 + (if 0 ≤ l3 then l3 else (-l3))) M
set_option maxHeartbeats 4000000 in
theorem t_Debts_far_j30 {X : Cx} (hX : Cok X cX0_far RX0 4 ((some .int)) 1 0 0) {Q : Int32 → Mem → Prop} (hq : RI X 0 0 LY Q) {l3 : Int32} {s0 : Int32} {M : Mem} (h : w_Debts_far_j30 l3 s0 M Q) : Wat X 0 0 LY 30 [none, none, none, some (vi l3)] [vi s0] M := by
  refine s_iload_n hX dX0_far_30 rfl ?_
  have hJ : Wat X 0 0 LY 40 [none, none, none, some (vi l3)] [vi (if 0 ≤ l3 then l3 else (-l3)), vi s0] M := by
    refine s_iadd hX dX0_far_40 ?_
    exact s_iret hX hq rfl dX0_far_41 h
  refine s_if_ge (tgt := 39) hX dX0_far_31 (by decide) (fun c => ?_) (fun c => ?_)
  · rw [if_pos c] at hJ
    refine s_iload_n hX dX0_far_39 rfl ?_
    exact hJ
  · rw [if_neg c] at hJ
    refine s_iload_n hX dX0_far_34 rfl ?_
    refine s_ineg hX dX0_far_35 ?_
    refine s_goto (tgt := 40) hX dX0_far_36 (by decide) ?_
    exact hJ
def w_Debts_far (a0 : Int32) (a1 : Int32) (M : Mem) (Q : Int32 → Mem → Prop) : Prop :=
  ∀ x339 : Int32, x339 = ((a0 - a0 / 8 * 8) - (a1 - a1 / 8 * 8)) → w_Debts_far_j30 ((a0 / 8) - (a1 / 8)) (if 0 ≤ x339 then x339 else (-x339)) M Q
set_option maxHeartbeats 4000000 in
theorem t_Debts_far {X : Cx} (hX : Cok X cX0_far RX0 4 ((some .int)) 1 0 0) {Q : Int32 → Mem → Prop} (hq : RI X 0 0 LY Q) {M : Mem} {a0 : Int32} {a1 : Int32} (h : w_Debts_far a0 a1 M Q) : Wat X 0 0 LY 0 [some (vi a0), some (vi a1), none, none] [] M := by
  refine s_iload_n hX dX0_far_0 rfl ?_
  refine s_bipush (v := 8) hX dX0_far_1 rfl ?_
  refine s_irem hX dX0_far_3 (by decide) ?_
  refine s_iload_n hX dX0_far_4 rfl ?_
  refine s_bipush (v := 8) hX dX0_far_5 rfl ?_
  refine s_irem hX dX0_far_7 (by decide) ?_
  refine s_isub hX dX0_far_8 ?_
  refine s_nmi (fun x339 ex339 => ?_)
  replace h := h x339 ex339
  refine s_istore_n (lv' := [some (vi a0), some (vi a1), some (vi x339), none]) hX dX0_far_9 rfl rfl (Nat.le_of_ble_eq_true rfl) ?_
  refine s_iload_n hX dX0_far_10 rfl ?_
  refine s_bipush (v := 8) hX dX0_far_11 rfl ?_
  refine s_idiv hX dX0_far_13 (by decide) ?_
  refine s_iload_n hX dX0_far_14 rfl ?_
  refine s_bipush (v := 8) hX dX0_far_15 rfl ?_
  refine s_idiv hX dX0_far_17 (by decide) ?_
  refine s_isub hX dX0_far_18 ?_
  refine s_istore_n (lv' := [some (vi a0), some (vi a1), some (vi x339), some (vi ((a0 / 8) - (a1 / 8)))]) hX dX0_far_19 rfl rfl (Nat.le_of_ble_eq_true rfl) ?_
  refine s_iload_n hX dX0_far_20 rfl ?_
  have hJ : Wat X 0 0 LY 30 [some (vi a0), some (vi a1), some (vi x339), some (vi ((a0 / 8) - (a1 / 8)))] [vi (if 0 ≤ x339 then x339 else (-x339))] M := by
    refine s_mask [false, false, false, true] (lv' := [none, none, none, some (vi ((a0 / 8) - (a1 / 8)))]) rfl rfl ?_
    exact t_Debts_far_j30 hX hq h
  refine s_if_ge (tgt := 29) hX dX0_far_21 (by decide) (fun c => ?_) (fun c => ?_)
  · rw [if_pos c] at hJ
    refine s_iload_n hX dX0_far_29 rfl ?_
    exact hJ
  · rw [if_neg c] at hJ
    refine s_iload_n hX dX0_far_24 rfl ?_
    refine s_ineg hX dX0_far_25 ?_
    refine s_goto (tgt := 30) hX dX0_far_26 (by decide) ?_
    exact hJ
theorem c_Debts_far {a0 : Int32} {a1 : Int32} {M : Mem} {Q : Int32 → Mem → Prop} (h : w_Debts_far a0 a1 M Q) : CI yX0_far cX0_far 4 ((some .int)) 1 0 0 LY LY [vi a0, vi a1] M Q := mk_i rfl wd_co_X0_far rfl rfl (Nat.le_of_ble_eq_true rfl) (fun X hX hq => t_Debts_far hX hq h)
theorem ms_Debts_far : MS yX0_far cX0_far 4 ((some .int)) 2 := ⟨wd_co_X0_far, wd_sm_X0_far, wd_in_X0, by decide +kernel, by decide⟩
def w_Debts_meet (a0 : Int32) (a1 : Int32) (a2 : Int32) (M : Mem) (Q : Mem → Prop) : Prop :=
  (vp_in a0 6 ∧ (((M.1 c_debts_gap (Int32.toNatClampNeg a0)) ≤ a2 → Q M) ∧ (¬ (M.1 c_debts_gap (Int32.toNatClampNeg a0)) ≤ a2 → (vp_in a0 6 ∧ (vp_in a0 6 ∧ Q (si (si M c_debts_nearest (Int32.toNatClampNeg a0) a1) c_debts_gap (Int32.toNatClampNeg a0) a2))))))
set_option maxHeartbeats 4000000 in
theorem t_Debts_meet {X : Cx} (hX : Cok X cX0_meet RX0 4 none 1 0 0) {Q : Mem → Prop} (hq : RV X 0 0 LY Q) {M : Mem} {a0 : Int32} {a1 : Int32} {a2 : Int32} (h : w_Debts_meet a0 a1 a2 M Q) : Wat X 0 0 LY 0 [some (vr c_debts), some (vi a0), some (vi a1), some (vi a2)] [] M := by
  refine s_iload_n hX dX0_meet_0 rfl ?_
  refine s_aload_n hX dX0_meet_1 rfl ?_
  refine s_getr hX fi_X0_21 ly_c_debts rfl dX0_meet_2 ?_
  refine s_iload_n hX dX0_meet_5 rfl ?_
  have hi := h.1
  replace h := h.2
  refine s_ialdv (v := (M.1 c_debts_gap (Int32.toNatClampNeg a0))) hX ly_c_debts_gap hi dX0_meet_6 rfl ?_
  refine s_icmp_ge (tgt := 24) hX dX0_meet_7 (by decide) (fun c => ?_) (fun c => ?_)
  · replace h := h.1 c
    exact s_vret hX hq rfl dX0_meet_24 h
  · replace h := h.2 c
    refine s_aload_n hX dX0_meet_10 rfl ?_
    refine s_getr hX fi_X0_18 ly_c_debts rfl dX0_meet_11 ?_
    refine s_iload_n hX dX0_meet_14 rfl ?_
    refine s_iload_n hX dX0_meet_15 rfl ?_
    have hi := h.1
    replace h := h.2
    refine s_iast hX ly_c_debts_nearest hi dX0_meet_16 ?_
    refine s_aload_n hX dX0_meet_17 rfl ?_
    refine s_getr hX fi_X0_21 ly_c_debts rfl dX0_meet_18 ?_
    refine s_iload_n hX dX0_meet_21 rfl ?_
    refine s_iload_n hX dX0_meet_22 rfl ?_
    have hi := h.1
    replace h := h.2
    refine s_iast hX ly_c_debts_gap hi dX0_meet_23 ?_
    exact s_vret hX hq rfl dX0_meet_24 h
theorem c_Debts_meet {a0 : Int32} {a1 : Int32} {a2 : Int32} {M : Mem} {Q : Mem → Prop} (h : w_Debts_meet a0 a1 a2 M Q) : CV yX0_meet cX0_meet 4 none 1 0 0 LY LY [vr c_debts, vi a0, vi a1, vi a2] M Q := mk_v rfl wd_co_X0_meet rfl rfl (Nat.le_of_ble_eq_true rfl) (fun X hX hq => t_Debts_meet hX hq h)
theorem mv_Debts_meet : MV yX0_meet cX0_meet 4 none RX0 3 := ⟨wd_co_X0_meet, wd_im_X0_meet, wd_se_X0_meet, wd_in_X0, by decide +kernel, by decide⟩
def w_Debts_lookRound_j76 (R : Int32 → Mem → Prop) (K : Mem → Prop) (l1 : Int32) (l2 : Int32) (l4 : Int32) (M : Mem) (Q : Mem → Prop) : Prop :=
  (vp_in l2 6 ∧ (vp_in l4 1536 ∧ (vp_in l2 6 ∧ R (l2 + 1) (si (si M c_debts_nearest (Int32.toNatClampNeg l2) (-1)) c_debts_gap (Int32.toNatClampNeg l2) ((M.1 c_debts_reach (Int32.toNatClampNeg l4)) + 1)))))
set_option maxHeartbeats 4000000 in
theorem t_Debts_lookRound_j76 {X : Cx} (hX : Cok X cX0_lookRound RX0 5 none 3 0 0) {Q : Mem → Prop} (hq : RV X 0 0 LY Q) {l1 : Int32} {R : Int32 → Mem → Prop} {K : Mem → Prop} (hR : ∀ (l2 : Int32) (M : Mem), R l2 M → Wat X 0 0 LY 2 [some (vr c_debts), some (vi l1), some (vi l2), none, none] [] M) (hK : ∀ (M : Mem), K M → Wat X 0 0 LY 104 [some (vr c_debts), some (vi l1), none, none, none] [] M) {l2 : Int32} {l4 : Int32} {M : Mem} (h : w_Debts_lookRound_j76 R K l1 l2 l4 M Q) : Wat X 0 0 LY 76 [some (vr c_debts), some (vi l1), some (vi l2), none, some (vi l4)] [] M := by
  refine s_aload_n hX dX0_lookRound_76 rfl ?_
  refine s_getr hX fi_X0_18 ly_c_debts rfl dX0_lookRound_77 ?_
  refine s_iload_n hX dX0_lookRound_80 rfl ?_
  refine s_iconst (v := (-1)) hX dX0_lookRound_81 rfl ?_
  have hi := h.1
  replace h := h.2
  refine s_iast hX ly_c_debts_nearest hi dX0_lookRound_82 ?_
  refine s_aload_n hX dX0_lookRound_83 rfl ?_
  refine s_getr hX fi_X0_21 ly_c_debts rfl dX0_lookRound_84 ?_
  refine s_iload_n hX dX0_lookRound_87 rfl ?_
  refine s_aload_n hX dX0_lookRound_88 rfl ?_
  refine s_getr hX fi_X0_24 ly_c_debts rfl dX0_lookRound_89 ?_
  refine s_iload hX dX0_lookRound_92 rfl ?_
  have hi := h.1
  replace h := h.2
  refine s_ialdv (v := (M.1 c_debts_reach (Int32.toNatClampNeg l4))) hX ly_c_debts_reach hi dX0_lookRound_94 rfl ?_
  refine s_iconst (v := 1) hX dX0_lookRound_95 rfl ?_
  refine s_iadd hX dX0_lookRound_96 ?_
  have hi := h.1
  replace h := h.2
  refine s_iast hX ly_c_debts_gap hi dX0_lookRound_97 ?_
  refine s_iinc (v := (l2 + 1)) (lv' := [some (vr c_debts), some (vi l1), some (vi (l2 + 1)), none, some (vi l4)]) hX dX0_lookRound_98 rfl rfl rfl rfl ?_
  refine s_goto (tgt := 2) hX dX0_lookRound_101 (by decide) ?_
  refine s_mask [true, true, true, true, false] (lv' := [some (vr c_debts), some (vi l1), some (vi (l2 + 1)), none, none]) rfl rfl ?_
  exact hR _ _ h
def w_Debts_lookRound_L2 (l1 : Int32) (K : Mem → Prop) (Q : Mem → Prop) : Nat → Int32 → Mem → Prop
  | 0, _, _ => False
  | n + 1, l2, M => (((M.1 c_land Land_people) ≤ l2 → K M) ∧ (¬ (M.1 c_land Land_people) ≤ l2 → (vp_in ((l2 * 24) + l1) 144 ∧ ∀ x325 : Int32, x325 = (M.1 c_debts_at (Int32.toNatClampNeg ((l2 * 24) + l1))) → (vp_in ((l1 * 64) + x325) 1536 ∧ ((¬ (M.1 c_debts_reach (Int32.toNatClampNeg ((l1 * 64) + x325))) = (-1) → w_Debts_lookRound_j76 (fun l2 M => w_Debts_lookRound_L2 l1 K Q n l2 M) K l1 l2 ((l1 * 64) + x325) M Q) ∧ ((M.1 c_debts_reach (Int32.toNatClampNeg ((l1 * 64) + x325))) = (-1) → w_Law_value l1 (x325 - x325 / 8 * 8) (x325 / 8) 0 M (fun r335 M334 => w_Debts_within r335 14 M334 (fun r337 M336 => (vp_in ((l1 * 64) + x325) 1536 ∧ w_Debts_lookRound_j76 (fun l2 M => w_Debts_lookRound_L2 l1 K Q n l2 M) K l1 l2 ((l1 * 64) + x325) (si M336 c_debts_reach (Int32.toNatClampNeg ((l1 * 64) + x325)) r337) Q)))))))))
set_option maxHeartbeats 4000000 in
theorem t_Debts_lookRound_L2 {X : Cx} (hX : Cok X cX0_lookRound RX0 5 none 3 0 0) {Q : Mem → Prop} (hq : RV X 0 0 LY Q) {l1 : Int32} {K : Mem → Prop} (hK : ∀ (M : Mem), K M → Wat X 0 0 LY 104 [some (vr c_debts), some (vi l1), none, none, none] [] M) : ∀ (n : Nat) (l2 : Int32) (M : Mem), w_Debts_lookRound_L2 l1 K Q n l2 M → Wat X 0 0 LY 2 [some (vr c_debts), some (vi l1), some (vi l2), none, none] [] M := by
  intro n
  induction n with
  | zero => intro _ _ h; exact h.elim
  | succ n ih =>
    intro l2 M h
    refine s_iload_n hX dX0_lookRound_2 rfl ?_
    refine s_aload_n hX dX0_lookRound_3 rfl ?_
    refine s_getr hX fi_X0_33 ly_c_debts rfl dX0_lookRound_4 ?_
    refine s_getiv (v := (M.1 c_land Land_people)) hX fi_X0_58 ly_c_land rfl dX0_lookRound_7 rfl ?_
    refine s_icmp_ge (tgt := 104) hX dX0_lookRound_10 (by decide) (fun c => ?_) (fun c => ?_)
    · replace h := h.1 c
      refine s_mask [true, true, false, true, true] (lv' := [some (vr c_debts), some (vi l1), none, none, none]) rfl rfl ?_
      exact hK _ h
    · replace h := h.2 c
      refine s_aload_n hX dX0_lookRound_13 rfl ?_
      refine s_getr hX fi_X0_9 ly_c_debts rfl dX0_lookRound_14 ?_
      refine s_iload_n hX dX0_lookRound_17 rfl ?_
      refine s_bipush (v := 24) hX dX0_lookRound_18 rfl ?_
      refine s_imul hX dX0_lookRound_20 ?_
      refine s_iload_n hX dX0_lookRound_21 rfl ?_
      refine s_iadd hX dX0_lookRound_22 ?_
      have hi := h.1
      replace h := h.2
      refine s_ialdv (v := (M.1 c_debts_at (Int32.toNatClampNeg ((l2 * 24) + l1)))) hX ly_c_debts_at hi dX0_lookRound_23 rfl ?_
      refine s_nmi (fun x325 ex325 => ?_)
      replace h := h x325 ex325
      refine s_istore_n (lv' := [some (vr c_debts), some (vi l1), some (vi l2), some (vi x325), none]) hX dX0_lookRound_24 rfl rfl (Nat.le_of_ble_eq_true rfl) ?_
      refine s_iload_n hX dX0_lookRound_25 rfl ?_
      refine s_bipush (v := 64) hX dX0_lookRound_26 rfl ?_
      refine s_imul hX dX0_lookRound_28 ?_
      refine s_iload_n hX dX0_lookRound_29 rfl ?_
      refine s_iadd hX dX0_lookRound_30 ?_
      refine s_istore (lv' := [some (vr c_debts), some (vi l1), some (vi l2), some (vi x325), some (vi ((l1 * 64) + x325))]) hX dX0_lookRound_31 rfl rfl (Nat.le_of_ble_eq_true rfl) ?_
      refine s_aload_n hX dX0_lookRound_33 rfl ?_
      refine s_getr hX fi_X0_24 ly_c_debts rfl dX0_lookRound_34 ?_
      refine s_iload hX dX0_lookRound_37 rfl ?_
      have hi := h.1
      replace h := h.2
      refine s_ialdv (v := (M.1 c_debts_reach (Int32.toNatClampNeg ((l1 * 64) + x325)))) hX ly_c_debts_reach hi dX0_lookRound_39 rfl ?_
      refine s_iconst (v := (-1)) hX dX0_lookRound_40 rfl ?_
      refine s_icmp_ne (tgt := 76) hX dX0_lookRound_41 (by decide) (fun c => ?_) (fun c => ?_)
      · replace h := h.1 c
        refine s_mask [true, true, true, false, true] (lv' := [some (vr c_debts), some (vi l1), some (vi l2), none, some (vi ((l1 * 64) + x325))]) rfl rfl ?_
        exact t_Debts_lookRound_j76 hX hq (fun _ _ h => ih _ _ h) hK h
      · replace h := h.2 c
        refine s_aload_n hX dX0_lookRound_44 rfl ?_
        refine s_getr hX fi_X0_24 ly_c_debts rfl dX0_lookRound_45 ?_
        refine s_iload hX dX0_lookRound_48 rfl ?_
        refine s_aload_n hX dX0_lookRound_50 rfl ?_
        refine s_getr hX fi_X0_33 ly_c_debts rfl dX0_lookRound_51 ?_
        refine s_getr hX fi_X0_67 ly_c_land rfl dX0_lookRound_54 ?_
        refine s_iload_n hX dX0_lookRound_57 rfl ?_
        refine s_iload_n hX dX0_lookRound_58 rfl ?_
        refine s_bipush (v := 8) hX dX0_lookRound_59 rfl ?_
        refine s_irem hX dX0_lookRound_61 (by decide) ?_
        refine s_iload_n hX dX0_lookRound_62 rfl ?_
        refine s_bipush (v := 8) hX dX0_lookRound_63 rfl ?_
        refine s_idiv hX dX0_lookRound_65 (by decide) ?_
        refine s_iconst (v := 0) hX dX0_lookRound_66 rfl ?_
        refine s_cvi (as := [vi l1, vi (x325 - x325 / 8 * 8), vi (x325 / 8), vi 0]) (rest := [vi ((l1 * 64) + x325), vr c_debts_reach]) hX (c_Law_value h) mv_Law_value wd_ml_X0_71 dX0_lookRound_67 ly_c_land_fog rfl rfl (Nat.le_of_ble_eq_true rfl) rfl (by decide) ⟨Nat.zero_le _, Nat.zero_le _⟩ (fun r335 M334 h => ?_)
        refine s_bipush (v := 14) hX dX0_lookRound_70 rfl ?_
        refine s_csi (as := [vi r335, vi 14]) (rest := [vi ((l1 * 64) + x325), vr c_debts_reach]) hX (c_Debts_within h) ms_Debts_within wd_ml_X0_77 dX0_lookRound_72 rfl (Nat.le_of_ble_eq_true rfl) rfl (by decide) ⟨Nat.zero_le _, Nat.zero_le _⟩ (fun r337 M336 h => ?_)
        have hi := h.1
        replace h := h.2
        refine s_iast hX ly_c_debts_reach hi dX0_lookRound_75 ?_
        refine s_mask [true, true, true, false, true] (lv' := [some (vr c_debts), some (vi l1), some (vi l2), none, some (vi ((l1 * 64) + x325))]) rfl rfl ?_
        exact t_Debts_lookRound_j76 hX hq (fun _ _ h => ih _ _ h) hK h
def w_Debts_lookRound_L121 (l1 : Int32) (l2 : Int32) (K : Mem → Prop) (Q : Mem → Prop) : Nat → Int32 → Mem → Prop
  | 0, _, _ => False
  | n + 1, l3, M => (((M.1 c_land Land_people) ≤ l3 → K M) ∧ (¬ (M.1 c_land Land_people) ≤ l3 → (vp_in ((l2 * 24) + l1) 144 ∧ (vp_in ((l3 * 24) + l1) 144 ∧ w_Debts_far (M.1 c_debts_at (Int32.toNatClampNeg ((l2 * 24) + l1))) (M.1 c_debts_at (Int32.toNatClampNeg ((l3 * 24) + l1))) M (fun r341 M340 => w_Debts_meet l2 l3 r341 M340 (fun M342 => w_Debts_meet l3 l2 r341 M342 (fun M343 => w_Debts_lookRound_L121 l1 l2 K Q n (l3 + 1) M343)))))))
set_option maxHeartbeats 4000000 in
theorem t_Debts_lookRound_L121 {X : Cx} (hX : Cok X cX0_lookRound RX0 5 none 3 0 0) {Q : Mem → Prop} (hq : RV X 0 0 LY Q) {l1 : Int32} {l2 : Int32} {K : Mem → Prop} (hK : ∀ (M : Mem), K M → Wat X 0 0 LY 181 [some (vr c_debts), some (vi l1), some (vi l2), none, none] [] M) : ∀ (n : Nat) (l3 : Int32) (M : Mem), w_Debts_lookRound_L121 l1 l2 K Q n l3 M → Wat X 0 0 LY 121 [some (vr c_debts), some (vi l1), some (vi l2), some (vi l3), none] [] M := by
  intro n
  induction n with
  | zero => intro _ _ h; exact h.elim
  | succ n ih =>
    intro l3 M h
    refine s_iload_n hX dX0_lookRound_121 rfl ?_
    refine s_aload_n hX dX0_lookRound_122 rfl ?_
    refine s_getr hX fi_X0_33 ly_c_debts rfl dX0_lookRound_123 ?_
    refine s_getiv (v := (M.1 c_land Land_people)) hX fi_X0_58 ly_c_land rfl dX0_lookRound_126 rfl ?_
    refine s_icmp_ge (tgt := 181) hX dX0_lookRound_129 (by decide) (fun c => ?_) (fun c => ?_)
    · replace h := h.1 c
      refine s_mask [true, true, true, false, true] (lv' := [some (vr c_debts), some (vi l1), some (vi l2), none, none]) rfl rfl ?_
      exact hK _ h
    · replace h := h.2 c
      refine s_aload_n hX dX0_lookRound_132 rfl ?_
      refine s_getr hX fi_X0_9 ly_c_debts rfl dX0_lookRound_133 ?_
      refine s_iload_n hX dX0_lookRound_136 rfl ?_
      refine s_bipush (v := 24) hX dX0_lookRound_137 rfl ?_
      refine s_imul hX dX0_lookRound_139 ?_
      refine s_iload_n hX dX0_lookRound_140 rfl ?_
      refine s_iadd hX dX0_lookRound_141 ?_
      have hi := h.1
      replace h := h.2
      refine s_ialdv (v := (M.1 c_debts_at (Int32.toNatClampNeg ((l2 * 24) + l1)))) hX ly_c_debts_at hi dX0_lookRound_142 rfl ?_
      refine s_aload_n hX dX0_lookRound_143 rfl ?_
      refine s_getr hX fi_X0_9 ly_c_debts rfl dX0_lookRound_144 ?_
      refine s_iload_n hX dX0_lookRound_147 rfl ?_
      refine s_bipush (v := 24) hX dX0_lookRound_148 rfl ?_
      refine s_imul hX dX0_lookRound_150 ?_
      refine s_iload_n hX dX0_lookRound_151 rfl ?_
      refine s_iadd hX dX0_lookRound_152 ?_
      have hi := h.1
      replace h := h.2
      refine s_ialdv (v := (M.1 c_debts_at (Int32.toNatClampNeg ((l3 * 24) + l1)))) hX ly_c_debts_at hi dX0_lookRound_153 rfl ?_
      refine s_csi (as := [vi (M.1 c_debts_at (Int32.toNatClampNeg ((l2 * 24) + l1))), vi (M.1 c_debts_at (Int32.toNatClampNeg ((l3 * 24) + l1)))]) (rest := []) hX (c_Debts_far h) ms_Debts_far wd_ml_X0_81 dX0_lookRound_154 rfl (Nat.le_of_ble_eq_true rfl) rfl (by decide) ⟨Nat.zero_le _, Nat.zero_le _⟩ (fun r341 M340 h => ?_)
      refine s_istore (lv' := [some (vr c_debts), some (vi l1), some (vi l2), some (vi l3), some (vi r341)]) hX dX0_lookRound_157 rfl rfl (Nat.le_of_ble_eq_true rfl) ?_
      refine s_aload_n hX dX0_lookRound_159 rfl ?_
      refine s_iload_n hX dX0_lookRound_160 rfl ?_
      refine s_iload_n hX dX0_lookRound_161 rfl ?_
      refine s_iload hX dX0_lookRound_162 rfl ?_
      refine s_cvv (as := [vi l2, vi l3, vi r341]) (rest := []) hX (c_Debts_meet h) mv_Debts_meet wd_ml_X0_84 dX0_lookRound_164 ly_c_debts rfl rfl (Nat.le_of_ble_eq_true rfl) rfl (by decide) ⟨Nat.zero_le _, Nat.zero_le _⟩ (fun M342 h => ?_)
      refine s_aload_n hX dX0_lookRound_167 rfl ?_
      refine s_iload_n hX dX0_lookRound_168 rfl ?_
      refine s_iload_n hX dX0_lookRound_169 rfl ?_
      refine s_iload hX dX0_lookRound_170 rfl ?_
      refine s_cvv (as := [vi l3, vi l2, vi r341]) (rest := []) hX (c_Debts_meet h) mv_Debts_meet wd_ml_X0_84 dX0_lookRound_172 ly_c_debts rfl rfl (Nat.le_of_ble_eq_true rfl) rfl (by decide) ⟨Nat.zero_le _, Nat.zero_le _⟩ (fun M343 h => ?_)
      refine s_iinc (v := (l3 + 1)) (lv' := [some (vr c_debts), some (vi l1), some (vi l2), some (vi (l3 + 1)), some (vi r341)]) hX dX0_lookRound_175 rfl rfl rfl rfl ?_
      refine s_goto (tgt := 121) hX dX0_lookRound_178 (by decide) ?_
      refine s_mask [true, true, true, true, false] (lv' := [some (vr c_debts), some (vi l1), some (vi l2), some (vi (l3 + 1)), none]) rfl rfl ?_
      exact ih _ _ h
def w_Debts_lookRound_L106 (l1 : Int32) (K : Mem → Prop) (Q : Mem → Prop) : Nat → Int32 → Mem → Prop
  | 0, _, _ => False
  | n + 1, l2, M => (((M.1 c_land Land_people) ≤ l2 → K M) ∧ (¬ (M.1 c_land Land_people) ≤ l2 → (∃ n345, w_Debts_lookRound_L121 l1 l2 (fun M344 => w_Debts_lookRound_L106 l1 K Q n (l2 + 1) M344) Q n345 (l2 + 1) M)))
set_option maxHeartbeats 4000000 in
theorem t_Debts_lookRound_L106 {X : Cx} (hX : Cok X cX0_lookRound RX0 5 none 3 0 0) {Q : Mem → Prop} (hq : RV X 0 0 LY Q) {l1 : Int32} {K : Mem → Prop} (hK : ∀ (M : Mem), K M → Wat X 0 0 LY 187 [none, none, none, none, none] [] M) : ∀ (n : Nat) (l2 : Int32) (M : Mem), w_Debts_lookRound_L106 l1 K Q n l2 M → Wat X 0 0 LY 106 [some (vr c_debts), some (vi l1), some (vi l2), none, none] [] M := by
  intro n
  induction n with
  | zero => intro _ _ h; exact h.elim
  | succ n ih =>
    intro l2 M h
    refine s_iload_n hX dX0_lookRound_106 rfl ?_
    refine s_aload_n hX dX0_lookRound_107 rfl ?_
    refine s_getr hX fi_X0_33 ly_c_debts rfl dX0_lookRound_108 ?_
    refine s_getiv (v := (M.1 c_land Land_people)) hX fi_X0_58 ly_c_land rfl dX0_lookRound_111 rfl ?_
    refine s_icmp_ge (tgt := 187) hX dX0_lookRound_114 (by decide) (fun c => ?_) (fun c => ?_)
    · replace h := h.1 c
      refine s_mask [false, false, false, true, true] (lv' := [none, none, none, none, none]) rfl rfl ?_
      exact hK _ h
    · replace h := h.2 c
      refine s_iload_n hX dX0_lookRound_117 rfl ?_
      refine s_iconst (v := 1) hX dX0_lookRound_118 rfl ?_
      refine s_iadd hX dX0_lookRound_119 ?_
      refine s_istore_n (lv' := [some (vr c_debts), some (vi l1), some (vi l2), some (vi (l2 + 1)), none]) hX dX0_lookRound_120 rfl rfl (Nat.le_of_ble_eq_true rfl) ?_
      obtain ⟨n345, h⟩ := h
      refine t_Debts_lookRound_L121 hX hq ?_ n345 _ _ h
      intro M344 h
      refine s_iinc (v := (l2 + 1)) (lv' := [some (vr c_debts), some (vi l1), some (vi (l2 + 1)), none, none]) hX dX0_lookRound_181 rfl rfl rfl rfl ?_
      refine s_goto (tgt := 106) hX dX0_lookRound_184 (by decide) ?_
      exact ih _ _ h
def w_Debts_lookRound (a0 : Int32) (M : Mem) (Q : Mem → Prop) : Prop :=
  (∃ n348, w_Debts_lookRound_L2 a0 (fun M338 => (∃ n347, w_Debts_lookRound_L106 a0 (fun M346 => Q M346) Q n347 0 M338)) Q n348 0 M)
set_option maxHeartbeats 4000000 in
theorem t_Debts_lookRound {X : Cx} (hX : Cok X cX0_lookRound RX0 5 none 3 0 0) {Q : Mem → Prop} (hq : RV X 0 0 LY Q) {M : Mem} {a0 : Int32} (h : w_Debts_lookRound a0 M Q) : Wat X 0 0 LY 0 [some (vr c_debts), some (vi a0), none, none, none] [] M := by
  refine s_iconst (v := 0) hX dX0_lookRound_0 rfl ?_
  refine s_istore_n (lv' := [some (vr c_debts), some (vi a0), some (vi 0), none, none]) hX dX0_lookRound_1 rfl rfl (Nat.le_of_ble_eq_true rfl) ?_
  obtain ⟨n348, h⟩ := h
  refine t_Debts_lookRound_L2 hX hq ?_ n348 _ _ h
  intro M338 h
  refine s_iconst (v := 0) hX dX0_lookRound_104 rfl ?_
  refine s_istore_n (lv' := [some (vr c_debts), some (vi a0), some (vi 0), none, none]) hX dX0_lookRound_105 rfl rfl (Nat.le_of_ble_eq_true rfl) ?_
  obtain ⟨n347, h⟩ := h
  refine t_Debts_lookRound_L106 hX hq ?_ n347 _ _ h
  intro M346 h
  exact s_vret hX hq rfl dX0_lookRound_187 h
theorem c_Debts_lookRound {a0 : Int32} {M : Mem} {Q : Mem → Prop} (h : w_Debts_lookRound a0 M Q) : CV yX0_lookRound cX0_lookRound 5 none 3 0 0 LY LY [vr c_debts, vi a0] M Q := mk_v rfl wd_co_X0_lookRound rfl rfl (Nat.le_of_ble_eq_true rfl) (fun X hX hq => t_Debts_lookRound hX hq h)
theorem mv_Debts_lookRound : MV yX0_lookRound cX0_lookRound 5 none RX0 1 := ⟨wd_co_X0_lookRound, wd_im_X0_lookRound, wd_se_X0_lookRound, wd_in_X0, by decide +kernel, by decide⟩
def w_Debts_heard (a0 : Int32) (a1 : Int32) (a2 : Int32) (M : Mem) (Q : Int32 → Mem → Prop) : Prop :=
  ((((a2 >>> (a0 &&& 31)) &&& 1) = 0 → (vp_in ((a0 * 24) + a1) 120 ∧ Q (M.1 c_deeds_times (Int32.toNatClampNeg ((a0 * 24) + a1))) M)) ∧ (¬ ((a2 >>> (a0 &&& 31)) &&& 1) = 0 → Q 0 M))
set_option maxHeartbeats 4000000 in
theorem t_Debts_heard {X : Cx} (hX : Cok X cX0_heard RX0 4 ((some .int)) 1 0 0) {Q : Int32 → Mem → Prop} (hq : RI X 0 0 LY Q) {M : Mem} {a0 : Int32} {a1 : Int32} {a2 : Int32} (h : w_Debts_heard a0 a1 a2 M Q) : Wat X 0 0 LY 0 [some (vr c_debts), some (vi a0), some (vi a1), some (vi a2)] [] M := by
  refine s_iload_n hX dX0_heard_0 rfl ?_
  refine s_iload_n hX dX0_heard_1 rfl ?_
  refine s_ishr hX dX0_heard_2 ?_
  refine s_iconst (v := 1) hX dX0_heard_3 rfl ?_
  refine s_iand hX dX0_heard_4 ?_
  refine s_if_eq (tgt := 12) hX dX0_heard_5 (by decide) (fun c => ?_) (fun c => ?_)
  · replace h := h.1 c
    refine s_aload_n hX dX0_heard_12 rfl ?_
    refine s_getr hX fi_X0_37 ly_c_debts rfl dX0_heard_13 ?_
    refine s_getr hX fi_X0_62 ly_c_deeds rfl dX0_heard_16 ?_
    refine s_iload_n hX dX0_heard_19 rfl ?_
    refine s_bipush (v := 24) hX dX0_heard_20 rfl ?_
    refine s_imul hX dX0_heard_22 ?_
    refine s_iload_n hX dX0_heard_23 rfl ?_
    refine s_iadd hX dX0_heard_24 ?_
    have hi := h.1
    replace h := h.2
    refine s_ialdv (v := (M.1 c_deeds_times (Int32.toNatClampNeg ((a0 * 24) + a1)))) hX ly_c_deeds_times hi dX0_heard_25 rfl ?_
    exact s_iret hX hq rfl dX0_heard_26 h
  · replace h := h.2 c
    refine s_iconst (v := 0) hX dX0_heard_8 rfl ?_
    refine s_goto (tgt := 26) hX dX0_heard_9 (by decide) ?_
    exact s_iret hX hq rfl dX0_heard_26 h
theorem c_Debts_heard {a0 : Int32} {a1 : Int32} {a2 : Int32} {M : Mem} {Q : Int32 → Mem → Prop} (h : w_Debts_heard a0 a1 a2 M Q) : CI yX0_heard cX0_heard 4 ((some .int)) 1 0 0 LY LY [vr c_debts, vi a0, vi a1, vi a2] M Q := mk_i rfl wd_co_X0_heard rfl rfl (Nat.le_of_ble_eq_true rfl) (fun X hX hq => t_Debts_heard hX hq h)
theorem mv_Debts_heard : MV yX0_heard cX0_heard 4 ((some .int)) RX0 3 := ⟨wd_co_X0_heard, wd_im_X0_heard, wd_se_X0_heard, wd_in_X0, by decide +kernel, by decide⟩
def w_Debts_hears (a0 : Int32) (a1 : Int32) (M : Mem) (Q : Bool → Mem → Prop) : Prop :=
  (((M.1 c_land Land_hear) < a1 → Q false M) ∧ (¬ (M.1 c_land Land_hear) < a1 → (vp_in a0 6 ∧ (∃ bb : Bool, (if (M.1 c_land_kind (Int32.toNatClampNeg a0)) = 1 then (0 : Int32) else 1) = b2i bb ∧ Q bb M))))
set_option maxHeartbeats 4000000 in
theorem t_Debts_hears {X : Cx} (hX : Cok X cX0_hears RX0 3 ((some .boolean)) 1 0 0) {Q : Bool → Mem → Prop} (hq : RI X 0 0 LY (bQ Q)) {M : Mem} {a0 : Int32} {a1 : Int32} (h : w_Debts_hears a0 a1 M Q) : Wat X 0 0 LY 0 [some (vr c_debts), some (vi a0), some (vi a1)] [] M := by
  refine s_iload_n hX dX0_hears_0 rfl ?_
  refine s_aload_n hX dX0_hears_1 rfl ?_
  refine s_getr hX fi_X0_33 ly_c_debts rfl dX0_hears_2 ?_
  refine s_getiv (v := (M.1 c_land Land_hear)) hX fi_X0_95 ly_c_land rfl dX0_hears_5 rfl ?_
  refine s_icmp_gt (tgt := 28) hX dX0_hears_8 (by decide) (fun c => ?_) (fun c => ?_)
  · replace h := h.1 c
    refine s_iconst (v := 0) hX dX0_hears_28 rfl ?_
    exact s_zret hX false hq rfl dX0_hears_29 rfl h
  · replace h := h.2 c
    refine s_aload_n hX dX0_hears_11 rfl ?_
    refine s_getr hX fi_X0_33 ly_c_debts rfl dX0_hears_12 ?_
    refine s_getr hX fi_X0_98 ly_c_land rfl dX0_hears_15 ?_
    refine s_iload_n hX dX0_hears_18 rfl ?_
    have hi := h.1
    replace h := h.2
    refine s_ialdv (v := (M.1 c_land_kind (Int32.toNatClampNeg a0))) hX ly_c_land_kind hi dX0_hears_19 rfl ?_
    refine s_iconst (v := 1) hX dX0_hears_20 rfl ?_
    have hJ : Wat X 0 0 LY 29 [some (vr c_debts), some (vi a0), some (vi a1)] [vi (if (M.1 c_land_kind (Int32.toNatClampNeg a0)) = 1 then (0 : Int32) else 1)] M := by
      obtain ⟨bb, hbb, h⟩ := h
      exact s_zret hX bb hq rfl dX0_hears_29 hbb h
    refine s_icmp_eq (tgt := 28) hX dX0_hears_21 (by decide) (fun c => ?_) (fun c => ?_)
    · rw [if_pos c] at hJ
      refine s_iconst (v := 0) hX dX0_hears_28 rfl ?_
      exact hJ
    · rw [if_neg c] at hJ
      refine s_iconst (v := 1) hX dX0_hears_24 rfl ?_
      refine s_goto (tgt := 29) hX dX0_hears_25 (by decide) ?_
      exact hJ
theorem c_Debts_hears {a0 : Int32} {a1 : Int32} {M : Mem} {Q : Bool → Mem → Prop} (h : w_Debts_hears a0 a1 M Q) : CI yX0_hears cX0_hears 3 ((some .boolean)) 1 0 0 LY LY [vr c_debts, vi a0, vi a1] M (bQ Q) := mk_i rfl wd_co_X0_hears rfl rfl (Nat.le_of_ble_eq_true rfl) (fun X hX hq => t_Debts_hears hX hq h)
theorem mv_Debts_hears : MV yX0_hears cX0_hears 3 ((some .boolean)) RX0 2 := ⟨wd_co_X0_hears, wd_im_X0_hears, wd_se_X0_hears, wd_in_X0, by decide +kernel, by decide⟩
def w_Law_value_land_owe_L9 (l1 : Int32) (l2 : Int32) (l3 : Int32) (l4 : Int32) (K : Int32 → Mem → Prop) (Q : Int32 → Mem → Prop) : Nat → Int32 → Int32 → Mem → Prop
  | 0, _, _, _ => False
  | n + 1, l5, l6, M => ((l6 < 0 → K l5 M) ∧ (¬ l6 < 0 → (((M.1 c_land_owe Law_to) ≤ l6 → K l5 M) ∧ (¬ (M.1 c_land_owe Law_to) ≤ l6 → ((1024 ≤ l6 → K l5 M) ∧ (¬ 1024 ≤ l6 → (vp_in l6 1024 ∧ ∀ x359 : Int32, x359 = (M.1 c_land_code (Int32.toNatClampNeg l6)) → ((x359 ≤ (-5) → ((¬ x359 = (-5) → ((l5 ≤ 1 → w_Law_value_land_owe_L9 l1 l2 l3 l4 K Q n l5 (l6 + 1) M) ∧ (¬ l5 ≤ 1 → (vp_in ((l5 + (-1)) - 1) 32 ∧ (vp_in (l5 + (-1)) 32 ∧ w_Law_joined x359 (M.1 c_land_owe_stack (Int32.toNatClampNeg ((l5 + (-1)) - 1))) (M.1 c_land_owe_stack (Int32.toNatClampNeg (l5 + (-1)))) M (fun r361 M360 => (vp_in ((l5 + (-1)) - 1) 32 ∧ w_Law_value_land_owe_L9 l1 l2 l3 l4 K Q n (l5 + (-1)) (l6 + 1) (si M360 c_land_owe_stack (Int32.toNatClampNeg ((l5 + (-1)) - 1)) r361)))))))) ∧ (x359 = (-5) → ((l5 ≤ 0 → w_Law_value_land_owe_L9 l1 l2 l3 l4 K Q n l5 (l6 + 1) M) ∧ (¬ l5 ≤ 0 → (vp_in (l5 - 1) 32 ∧ (vp_in (l5 - 1) 32 ∧ w_Law_value_land_owe_L9 l1 l2 l3 l4 K Q n l5 (l6 + 1) (si M c_land_owe_stack (Int32.toNatClampNeg (l5 - 1)) (if (M.1 c_land_owe_stack (Int32.toNatClampNeg (l5 - 1))) = 0 then (1 : Int32) else 0))))))))) ∧ (¬ x359 ≤ (-5) → ((32 ≤ l5 → w_Law_value_land_owe_L9 l1 l2 l3 l4 K Q n l5 (l6 + 1) M) ∧ (¬ 32 ≤ l5 → w_Law_laid x359 l1 l2 l3 l4 M (fun r363 M362 => (vp_in l5 32 ∧ w_Law_value_land_owe_L9 l1 l2 l3 l4 K Q n (l5 + 1) (l6 + 1) (si M362 c_land_owe_stack (Int32.toNatClampNeg l5) r363))))))))))))))
set_option maxHeartbeats 4000000 in
theorem t_Law_value_land_owe_L9 {X : Cx} (hX : Cok X cX6_value RX6 8 ((some .int)) 2 0 0) {Q : Int32 → Mem → Prop} (hq : RI X 0 0 LY Q) {l1 : Int32} {l2 : Int32} {l3 : Int32} {l4 : Int32} {K : Int32 → Mem → Prop} (hK : ∀ (l5 : Int32) (M : Mem), K l5 M → Wat X 0 0 LY 165 [some (vr c_land_owe), none, none, none, none, some (vi l5), none, none] [] M) : ∀ (n : Nat) (l5 : Int32) (l6 : Int32) (M : Mem), w_Law_value_land_owe_L9 l1 l2 l3 l4 K Q n l5 l6 M → Wat X 0 0 LY 9 [some (vr c_land_owe), some (vi l1), some (vi l2), some (vi l3), some (vi l4), some (vi l5), some (vi l6), none] [] M := by
  intro n
  induction n with
  | zero => intro _ _ _ h; exact h.elim
  | succ n ih =>
    intro l5 l6 M h
    refine s_iload hX dX6_value_9 rfl ?_
    refine s_if_lt (tgt := 165) hX dX6_value_11 (by decide) (fun c => ?_) (fun c => ?_)
    · replace h := h.1 c
      refine s_mask [true, false, false, false, false, true, false, true] (lv' := [some (vr c_land_owe), none, none, none, none, some (vi l5), none, none]) rfl rfl ?_
      exact hK _ _ h
    · replace h := h.2 c
      refine s_iload hX dX6_value_14 rfl ?_
      refine s_aload_n hX dX6_value_16 rfl ?_
      refine s_getiv (v := (M.1 c_land_owe Law_to)) hX fi_X6_24 ly_c_land_owe rfl dX6_value_17 rfl ?_
      refine s_icmp_ge (tgt := 165) hX dX6_value_20 (by decide) (fun c => ?_) (fun c => ?_)
      · replace h := h.1 c
        refine s_mask [true, false, false, false, false, true, false, true] (lv' := [some (vr c_land_owe), none, none, none, none, some (vi l5), none, none]) rfl rfl ?_
        exact hK _ _ h
      · replace h := h.2 c
        refine s_iload hX dX6_value_23 rfl ?_
        refine s_aload_n hX dX6_value_25 rfl ?_
        refine s_getr hX fi_X6_13 ly_c_land_owe rfl dX6_value_26 ?_
        refine s_alen (v := 1024) hX ly_c_land_code (by decide) rfl dX6_value_29 ?_
        refine s_icmp_ge (tgt := 165) hX dX6_value_30 (by decide) (fun c => ?_) (fun c => ?_)
        · replace h := h.1 c
          refine s_mask [true, false, false, false, false, true, false, true] (lv' := [some (vr c_land_owe), none, none, none, none, some (vi l5), none, none]) rfl rfl ?_
          exact hK _ _ h
        · replace h := h.2 c
          refine s_aload_n hX dX6_value_33 rfl ?_
          refine s_getr hX fi_X6_13 ly_c_land_owe rfl dX6_value_34 ?_
          refine s_iload hX dX6_value_37 rfl ?_
          have hi := h.1
          replace h := h.2
          refine s_ialdv (v := (M.1 c_land_code (Int32.toNatClampNeg l6))) hX ly_c_land_code hi dX6_value_39 rfl ?_
          refine s_nmi (fun x359 ex359 => ?_)
          replace h := h x359 ex359
          refine s_istore (lv' := [some (vr c_land_owe), some (vi l1), some (vi l2), some (vi l3), some (vi l4), some (vi l5), some (vi l6), some (vi x359)]) hX dX6_value_40 rfl rfl (Nat.le_of_ble_eq_true rfl) ?_
          refine s_iload hX dX6_value_42 rfl ?_
          refine s_bipush (v := (-5)) hX dX6_value_44 rfl ?_
          refine s_icmp_le (tgt := 79) hX dX6_value_46 (by decide) (fun c => ?_) (fun c => ?_)
          · replace h := h.1 c
            refine s_iload hX dX6_value_79 rfl ?_
            refine s_bipush (v := (-5)) hX dX6_value_81 rfl ?_
            refine s_icmp_ne (tgt := 120) hX dX6_value_83 (by decide) (fun c => ?_) (fun c => ?_)
            · replace h := h.1 c
              refine s_iload hX dX6_value_120 rfl ?_
              refine s_iconst (v := 1) hX dX6_value_122 rfl ?_
              refine s_icmp_le (tgt := 159) hX dX6_value_123 (by decide) (fun c => ?_) (fun c => ?_)
              · replace h := h.1 c
                refine s_iinc (v := (l6 + 1)) (lv' := [some (vr c_land_owe), some (vi l1), some (vi l2), some (vi l3), some (vi l4), some (vi l5), some (vi (l6 + 1)), some (vi x359)]) hX dX6_value_159 rfl rfl rfl rfl ?_
                refine s_goto (tgt := 9) hX dX6_value_162 (by decide) ?_
                refine s_mask [true, true, true, true, true, true, true, false] (lv' := [some (vr c_land_owe), some (vi l1), some (vi l2), some (vi l3), some (vi l4), some (vi l5), some (vi (l6 + 1)), none]) rfl rfl ?_
                exact ih _ _ _ h
              · replace h := h.2 c
                refine s_iinc (v := (l5 + (-1))) (lv' := [some (vr c_land_owe), some (vi l1), some (vi l2), some (vi l3), some (vi l4), some (vi (l5 + (-1))), some (vi l6), some (vi x359)]) hX dX6_value_126 rfl rfl rfl rfl ?_
                refine s_aload_n hX dX6_value_129 rfl ?_
                refine s_getr hX fi_X6_9 ly_c_land_owe rfl dX6_value_130 ?_
                refine s_iload hX dX6_value_133 rfl ?_
                refine s_iconst (v := 1) hX dX6_value_135 rfl ?_
                refine s_isub hX dX6_value_136 ?_
                refine s_iload hX dX6_value_137 rfl ?_
                refine s_aload_n hX dX6_value_139 rfl ?_
                refine s_getr hX fi_X6_9 ly_c_land_owe rfl dX6_value_140 ?_
                refine s_iload hX dX6_value_143 rfl ?_
                refine s_iconst (v := 1) hX dX6_value_145 rfl ?_
                refine s_isub hX dX6_value_146 ?_
                have hi := h.1
                replace h := h.2
                refine s_ialdv (v := (M.1 c_land_owe_stack (Int32.toNatClampNeg ((l5 + (-1)) - 1)))) hX ly_c_land_owe_stack hi dX6_value_147 rfl ?_
                refine s_aload_n hX dX6_value_148 rfl ?_
                refine s_getr hX fi_X6_9 ly_c_land_owe rfl dX6_value_149 ?_
                refine s_iload hX dX6_value_152 rfl ?_
                have hi := h.1
                replace h := h.2
                refine s_ialdv (v := (M.1 c_land_owe_stack (Int32.toNatClampNeg (l5 + (-1))))) hX ly_c_land_owe_stack hi dX6_value_154 rfl ?_
                refine s_csi (as := [vi x359, vi (M.1 c_land_owe_stack (Int32.toNatClampNeg ((l5 + (-1)) - 1))), vi (M.1 c_land_owe_stack (Int32.toNatClampNeg (l5 + (-1))))]) (rest := [vi ((l5 + (-1)) - 1), vr c_land_owe_stack]) hX (c_Law_joined h) ms_Law_joined wd_ml_X6_31 dX6_value_155 rfl (Nat.le_of_ble_eq_true rfl) rfl (by decide) ⟨Nat.zero_le _, Nat.zero_le _⟩ (fun r361 M360 h => ?_)
                have hi := h.1
                replace h := h.2
                refine s_iast hX ly_c_land_owe_stack hi dX6_value_158 ?_
                refine s_iinc (v := (l6 + 1)) (lv' := [some (vr c_land_owe), some (vi l1), some (vi l2), some (vi l3), some (vi l4), some (vi (l5 + (-1))), some (vi (l6 + 1)), some (vi x359)]) hX dX6_value_159 rfl rfl rfl rfl ?_
                refine s_goto (tgt := 9) hX dX6_value_162 (by decide) ?_
                refine s_mask [true, true, true, true, true, true, true, false] (lv' := [some (vr c_land_owe), some (vi l1), some (vi l2), some (vi l3), some (vi l4), some (vi (l5 + (-1))), some (vi (l6 + 1)), none]) rfl rfl ?_
                exact ih _ _ _ h
            · replace h := h.2 c
              refine s_iload hX dX6_value_86 rfl ?_
              refine s_if_le (tgt := 159) hX dX6_value_88 (by decide) (fun c => ?_) (fun c => ?_)
              · replace h := h.1 c
                refine s_iinc (v := (l6 + 1)) (lv' := [some (vr c_land_owe), some (vi l1), some (vi l2), some (vi l3), some (vi l4), some (vi l5), some (vi (l6 + 1)), some (vi x359)]) hX dX6_value_159 rfl rfl rfl rfl ?_
                refine s_goto (tgt := 9) hX dX6_value_162 (by decide) ?_
                refine s_mask [true, true, true, true, true, true, true, false] (lv' := [some (vr c_land_owe), some (vi l1), some (vi l2), some (vi l3), some (vi l4), some (vi l5), some (vi (l6 + 1)), none]) rfl rfl ?_
                exact ih _ _ _ h
              · replace h := h.2 c
                refine s_aload_n hX dX6_value_91 rfl ?_
                refine s_getr hX fi_X6_9 ly_c_land_owe rfl dX6_value_92 ?_
                refine s_iload hX dX6_value_95 rfl ?_
                refine s_iconst (v := 1) hX dX6_value_97 rfl ?_
                refine s_isub hX dX6_value_98 ?_
                refine s_aload_n hX dX6_value_99 rfl ?_
                refine s_getr hX fi_X6_9 ly_c_land_owe rfl dX6_value_100 ?_
                refine s_iload hX dX6_value_103 rfl ?_
                refine s_iconst (v := 1) hX dX6_value_105 rfl ?_
                refine s_isub hX dX6_value_106 ?_
                have hi := h.1
                replace h := h.2
                refine s_ialdv (v := (M.1 c_land_owe_stack (Int32.toNatClampNeg (l5 - 1)))) hX ly_c_land_owe_stack hi dX6_value_107 rfl ?_
                have hJ : Wat X 0 0 LY 116 [some (vr c_land_owe), some (vi l1), some (vi l2), some (vi l3), some (vi l4), some (vi l5), some (vi l6), some (vi x359)] [vi (if (M.1 c_land_owe_stack (Int32.toNatClampNeg (l5 - 1))) = 0 then (1 : Int32) else 0), vi (l5 - 1), vr c_land_owe_stack] M := by
                  have hi := h.1
                  replace h := h.2
                  refine s_iast hX ly_c_land_owe_stack hi dX6_value_116 ?_
                  refine s_goto (tgt := 159) hX dX6_value_117 (by decide) ?_
                  refine s_iinc (v := (l6 + 1)) (lv' := [some (vr c_land_owe), some (vi l1), some (vi l2), some (vi l3), some (vi l4), some (vi l5), some (vi (l6 + 1)), some (vi x359)]) hX dX6_value_159 rfl rfl rfl rfl ?_
                  refine s_goto (tgt := 9) hX dX6_value_162 (by decide) ?_
                  refine s_mask [true, true, true, true, true, true, true, false] (lv' := [some (vr c_land_owe), some (vi l1), some (vi l2), some (vi l3), some (vi l4), some (vi l5), some (vi (l6 + 1)), none]) rfl rfl ?_
                  exact ih _ _ _ h
                refine s_if_ne (tgt := 115) hX dX6_value_108 (by decide) (fun c => ?_) (fun c => ?_)
                · rw [if_neg c] at hJ
                  refine s_iconst (v := 0) hX dX6_value_115 rfl ?_
                  exact hJ
                · rw [if_pos c] at hJ
                  refine s_iconst (v := 1) hX dX6_value_111 rfl ?_
                  refine s_goto (tgt := 116) hX dX6_value_112 (by decide) ?_
                  exact hJ
          · replace h := h.2 c
            refine s_iload hX dX6_value_49 rfl ?_
            refine s_bipush (v := 32) hX dX6_value_51 rfl ?_
            refine s_icmp_ge (tgt := 159) hX dX6_value_53 (by decide) (fun c => ?_) (fun c => ?_)
            · replace h := h.1 c
              refine s_iinc (v := (l6 + 1)) (lv' := [some (vr c_land_owe), some (vi l1), some (vi l2), some (vi l3), some (vi l4), some (vi l5), some (vi (l6 + 1)), some (vi x359)]) hX dX6_value_159 rfl rfl rfl rfl ?_
              refine s_goto (tgt := 9) hX dX6_value_162 (by decide) ?_
              refine s_mask [true, true, true, true, true, true, true, false] (lv' := [some (vr c_land_owe), some (vi l1), some (vi l2), some (vi l3), some (vi l4), some (vi l5), some (vi (l6 + 1)), none]) rfl rfl ?_
              exact ih _ _ _ h
            · replace h := h.2 c
              refine s_aload_n hX dX6_value_56 rfl ?_
              refine s_getr hX fi_X6_9 ly_c_land_owe rfl dX6_value_57 ?_
              refine s_iload hX dX6_value_60 rfl ?_
              refine s_iload hX dX6_value_62 rfl ?_
              refine s_iload_n hX dX6_value_64 rfl ?_
              refine s_iload_n hX dX6_value_65 rfl ?_
              refine s_iload_n hX dX6_value_66 rfl ?_
              refine s_iload hX dX6_value_67 rfl ?_
              refine s_csi (as := [vi x359, vi l1, vi l2, vi l3, vi l4]) (rest := [vi l5, vr c_land_owe_stack]) hX (c_Law_laid h) ms_Law_laid wd_ml_X6_27 dX6_value_69 rfl (Nat.le_of_ble_eq_true rfl) rfl (by decide) ⟨Nat.zero_le _, Nat.zero_le _⟩ (fun r363 M362 h => ?_)
              have hi := h.1
              replace h := h.2
              refine s_iast hX ly_c_land_owe_stack hi dX6_value_72 ?_
              refine s_iinc (v := (l5 + 1)) (lv' := [some (vr c_land_owe), some (vi l1), some (vi l2), some (vi l3), some (vi l4), some (vi (l5 + 1)), some (vi l6), some (vi x359)]) hX dX6_value_73 rfl rfl rfl rfl ?_
              refine s_goto (tgt := 159) hX dX6_value_76 (by decide) ?_
              refine s_iinc (v := (l6 + 1)) (lv' := [some (vr c_land_owe), some (vi l1), some (vi l2), some (vi l3), some (vi l4), some (vi (l5 + 1)), some (vi (l6 + 1)), some (vi x359)]) hX dX6_value_159 rfl rfl rfl rfl ?_
              refine s_goto (tgt := 9) hX dX6_value_162 (by decide) ?_
              refine s_mask [true, true, true, true, true, true, true, false] (lv' := [some (vr c_land_owe), some (vi l1), some (vi l2), some (vi l3), some (vi l4), some (vi (l5 + 1)), some (vi (l6 + 1)), none]) rfl rfl ?_
              exact ih _ _ _ h
def w_Law_value_land_owe_j165 (l5 : Int32) (M : Mem) (Q : Int32 → Mem → Prop) : Prop :=
  ((l5 ≤ 0 → Q 0 M) ∧ (¬ l5 ≤ 0 → (vp_in 0 32 ∧ Q (M.1 c_land_owe_stack (Int32.toNatClampNeg 0)) M)))
set_option maxHeartbeats 4000000 in
theorem t_Law_value_land_owe_j165 {X : Cx} (hX : Cok X cX6_value RX6 8 ((some .int)) 2 0 0) {Q : Int32 → Mem → Prop} (hq : RI X 0 0 LY Q) {l5 : Int32} {M : Mem} (h : w_Law_value_land_owe_j165 l5 M Q) : Wat X 0 0 LY 165 [some (vr c_land_owe), none, none, none, none, some (vi l5), none, none] [] M := by
  refine s_iload hX dX6_value_165 rfl ?_
  refine s_if_le (tgt := 179) hX dX6_value_167 (by decide) (fun c => ?_) (fun c => ?_)
  · replace h := h.1 c
    refine s_iconst (v := 0) hX dX6_value_179 rfl ?_
    exact s_iret hX hq rfl dX6_value_180 h
  · replace h := h.2 c
    refine s_aload_n hX dX6_value_170 rfl ?_
    refine s_getr hX fi_X6_9 ly_c_land_owe rfl dX6_value_171 ?_
    refine s_iconst (v := 0) hX dX6_value_174 rfl ?_
    have hi := h.1
    replace h := h.2
    refine s_ialdv (v := (M.1 c_land_owe_stack (Int32.toNatClampNeg 0))) hX ly_c_land_owe_stack hi dX6_value_175 rfl ?_
    refine s_goto (tgt := 180) hX dX6_value_176 (by decide) ?_
    exact s_iret hX hq rfl dX6_value_180 h
def w_Law_value_land_owe (a0 : Int32) (a1 : Int32) (a2 : Int32) (a3 : Int32) (M : Mem) (Q : Int32 → Mem → Prop) : Prop :=
  (∃ n366, w_Law_value_land_owe_L9 a0 a1 a2 a3 (fun y365 M364 => w_Law_value_land_owe_j165 y365 M364 Q) Q n366 0 (M.1 c_land_owe Law_from) M)
set_option maxHeartbeats 4000000 in
theorem t_Law_value_land_owe {X : Cx} (hX : Cok X cX6_value RX6 8 ((some .int)) 2 0 0) {Q : Int32 → Mem → Prop} (hq : RI X 0 0 LY Q) {M : Mem} {a0 : Int32} {a1 : Int32} {a2 : Int32} {a3 : Int32} (h : w_Law_value_land_owe a0 a1 a2 a3 M Q) : Wat X 0 0 LY 0 [some (vr c_land_owe), some (vi a0), some (vi a1), some (vi a2), some (vi a3), none, none, none] [] M := by
  refine s_iconst (v := 0) hX dX6_value_0 rfl ?_
  refine s_istore (lv' := [some (vr c_land_owe), some (vi a0), some (vi a1), some (vi a2), some (vi a3), some (vi 0), none, none]) hX dX6_value_1 rfl rfl (Nat.le_of_ble_eq_true rfl) ?_
  refine s_aload_n hX dX6_value_3 rfl ?_
  refine s_getiv (v := (M.1 c_land_owe Law_from)) hX fi_X6_20 ly_c_land_owe rfl dX6_value_4 rfl ?_
  refine s_istore (lv' := [some (vr c_land_owe), some (vi a0), some (vi a1), some (vi a2), some (vi a3), some (vi 0), some (vi (M.1 c_land_owe Law_from)), none]) hX dX6_value_7 rfl rfl (Nat.le_of_ble_eq_true rfl) ?_
  obtain ⟨n366, h⟩ := h
  refine t_Law_value_land_owe_L9 hX hq ?_ n366 _ _ _ h
  intro y365 M364 h
  exact t_Law_value_land_owe_j165 hX hq h
theorem c_Law_value_land_owe {a0 : Int32} {a1 : Int32} {a2 : Int32} {a3 : Int32} {M : Mem} {Q : Int32 → Mem → Prop} (h : w_Law_value_land_owe a0 a1 a2 a3 M Q) : CI yX6_value cX6_value 8 ((some .int)) 2 0 0 LY LY [vr c_land_owe, vi a0, vi a1, vi a2, vi a3] M Q := mk_i rfl wd_co_X6_value rfl rfl (Nat.le_of_ble_eq_true rfl) (fun X hX hq => t_Law_value_land_owe hX hq h)
theorem mv_Law_value_land_owe : MV yX6_value cX6_value 8 ((some .int)) RX6 4 := ⟨wd_co_X6_value, wd_im_X6_value, wd_se_X6_value, wd_in_X6, by decide +kernel, by decide⟩
def w_Debts_pence_j139 (l3 : Int32) (l4 : Int32) (l6 : Int32) (l8 : Int32) (M : Mem) (Q : Int32 → Mem → Prop) : Prop :=
  (vp_in l8 512 ∧ ∀ x358 : Int32, x358 = ((M.1 c_debts_rate (Int32.toNatClampNeg l8)) * l4) → (vp_in l3 6 ∧ (((M.1 c_land_kind (Int32.toNatClampNeg l3)) = 2 → Q (x358 / 2) M) ∧ ((M.1 c_land_kind (Int32.toNatClampNeg l3)) = 3 → Q (x358 * 2) M) ∧ ((M.1 c_land_kind (Int32.toNatClampNeg l3)) = 4 → Q (if l6 < 3 then x358 else 0) M) ∧ (¬ (M.1 c_land_kind (Int32.toNatClampNeg l3)) = 2 → ¬ (M.1 c_land_kind (Int32.toNatClampNeg l3)) = 3 → ¬ (M.1 c_land_kind (Int32.toNatClampNeg l3)) = 4 → Q x358 M))))
set_option maxHeartbeats 4000000 in
theorem t_Debts_pence_j139 {X : Cx} (hX : Cok X cX0_pence RX0 10 ((some .int)) 3 0 0) {Q : Int32 → Mem → Prop} (hq : RI X 0 0 LY Q) {l3 : Int32} {l4 : Int32} {l6 : Int32} {l8 : Int32} {M : Mem} (h : w_Debts_pence_j139 l3 l4 l6 l8 M Q) : Wat X 0 0 LY 139 [some (vr c_debts), none, none, some (vi l3), some (vi l4), none, some (vi l6), none, some (vi l8), none] [] M := by
  refine s_aload_n hX dX0_pence_139 rfl ?_
  refine s_getr hX fi_X0_30 ly_c_debts rfl dX0_pence_140 ?_
  refine s_iload hX dX0_pence_143 rfl ?_
  have hi := h.1
  replace h := h.2
  refine s_ialdv (v := (M.1 c_debts_rate (Int32.toNatClampNeg l8))) hX ly_c_debts_rate hi dX0_pence_145 rfl ?_
  refine s_iload hX dX0_pence_146 rfl ?_
  refine s_imul hX dX0_pence_148 ?_
  refine s_nmi (fun x358 ex358 => ?_)
  replace h := h x358 ex358
  refine s_istore (lv' := [some (vr c_debts), none, none, some (vi l3), some (vi l4), none, some (vi l6), none, some (vi l8), some (vi x358)]) hX dX0_pence_149 rfl rfl (Nat.le_of_ble_eq_true rfl) ?_
  refine s_aload_n hX dX0_pence_151 rfl ?_
  refine s_getr hX fi_X0_33 ly_c_debts rfl dX0_pence_152 ?_
  refine s_getr hX fi_X0_98 ly_c_land rfl dX0_pence_155 ?_
  refine s_iload_n hX dX0_pence_158 rfl ?_
  have hi := h.1
  replace h := h.2
  refine s_ialdv (v := (M.1 c_land_kind (Int32.toNatClampNeg l3))) hX ly_c_land_kind hi dX0_pence_159 rfl ?_
  by_cases c0 : (M.1 c_land_kind (Int32.toNatClampNeg l3)) = 2
  · replace h := h.1 c0
    refine s_tableIn (tgt := 188) (off := 28) hX dX0_pence_160 (by rw [c0]; decide) (by rw [c0]; decide) (by rw [c0]; rfl) (by decide) ?_
    refine s_iload hX dX0_pence_188 rfl ?_
    refine s_iconst (v := 2) hX dX0_pence_190 rfl ?_
    refine s_idiv hX dX0_pence_191 (by decide) ?_
    exact s_iret hX hq rfl dX0_pence_192 h
  by_cases c1 : (M.1 c_land_kind (Int32.toNatClampNeg l3)) = 3
  · replace h := h.2.1 c1
    refine s_tableIn (tgt := 193) (off := 33) hX dX0_pence_160 (by rw [c1]; decide) (by rw [c1]; decide) (by rw [c1]; rfl) (by decide) ?_
    refine s_iload hX dX0_pence_193 rfl ?_
    refine s_iconst (v := 2) hX dX0_pence_195 rfl ?_
    refine s_imul hX dX0_pence_196 ?_
    exact s_iret hX hq rfl dX0_pence_197 h
  by_cases c2 : (M.1 c_land_kind (Int32.toNatClampNeg l3)) = 4
  · replace h := h.2.2.1 c2
    refine s_tableIn (tgt := 198) (off := 38) hX dX0_pence_160 (by rw [c2]; decide) (by rw [c2]; decide) (by rw [c2]; rfl) (by decide) ?_
    refine s_iload hX dX0_pence_198 rfl ?_
    refine s_iconst (v := 3) hX dX0_pence_200 rfl ?_
    have hJ : Wat X 0 0 LY 210 [some (vr c_debts), none, none, some (vi l3), some (vi l4), none, some (vi l6), none, some (vi l8), some (vi x358)] [vi (if l6 < 3 then x358 else 0)] M := by
      exact s_iret hX hq rfl dX0_pence_210 h
    refine s_icmp_lt (tgt := 208) hX dX0_pence_201 (by decide) (fun c => ?_) (fun c => ?_)
    · rw [if_pos c] at hJ
      refine s_iload hX dX0_pence_208 rfl ?_
      exact hJ
    · rw [if_neg c] at hJ
      refine s_iconst (v := 0) hX dX0_pence_204 rfl ?_
      refine s_goto (tgt := 210) hX dX0_pence_205 (by decide) ?_
      exact hJ
  replace h := h.2.2.2 c0 c1 c2
  have n0 := lv_neT (a := 2) c0 rfl
  have n1 := lv_neT (a := 3) c1 rfl
  have n2 := lv_neT (a := 4) c2 rfl
  refine s_tableOut (tgt := 211) hX dX0_pence_160 (by omega) (by decide) ?_
  refine s_iload hX dX0_pence_211 rfl ?_
  exact s_iret hX hq rfl dX0_pence_213 h
def w_Debts_pence (a0 : Int32) (a1 : Int32) (a2 : Int32) (a3 : Int32) (M : Mem) (Q : Int32 → Mem → Prop) : Prop :=
  (vp_in ((a2 * 24) + a1) 144 ∧ (vp_in a0 5 ∧ w_Debts_far (M.1 c_debts_at (Int32.toNatClampNeg ((a2 * 24) + a1))) (M.1 c_land_bush (Int32.toNatClampNeg a0)) M (fun r353 M352 => ((a3 ≤ 0 → Q 0 M352) ∧ (¬ a3 ≤ 0 → (vp_in a2 6 ∧ (((M352.1 c_debts_nearest (Int32.toNatClampNeg a2)) = (-1) → Q 0 M352) ∧ (¬ (M352.1 c_debts_nearest (Int32.toNatClampNeg a2)) = (-1) → w_Debts_hears a2 r353 M352 (fun b355 M354 => ((b355 = true → (vp_in a2 6 ∧ ∀ x356 : Int32, x356 = (M354.1 c_debts_gap (Int32.toNatClampNeg a2)) → ∀ x357 : Int32, x357 = ((((((a1 * 10) + a3) * 15) + r353) * 15) + x356) → (vp_in (x357 - x357 / 512 * 512) 512 ∧ (((M354.1 c_debts_rateKey (Int32.toNatClampNeg (x357 - x357 / 512 * 512))) = x357 → w_Debts_pence_j139 a2 a3 x356 (x357 - x357 / 512 * 512) M354 Q) ∧ (¬ (M354.1 c_debts_rateKey (Int32.toNatClampNeg (x357 - x357 / 512 * 512))) = x357 → (vp_in (x357 - x357 / 512 * 512) 512 ∧ w_Law_value_land_owe a1 r353 x356 a3 (si M354 c_debts_rateKey (Int32.toNatClampNeg (x357 - x357 / 512 * 512)) x357) (fun r368 M367 => w_Debts_within r368 99 M367 (fun r370 M369 => (vp_in (x357 - x357 / 512 * 512) 512 ∧ w_Debts_pence_j139 a2 a3 x356 (x357 - x357 / 512 * 512) (si M369 c_debts_rate (Int32.toNatClampNeg (x357 - x357 / 512 * 512)) r370) Q))))))))) ∧ (b355 = false → Q 0 M354)))))))))))
set_option maxHeartbeats 4000000 in
theorem t_Debts_pence {X : Cx} (hX : Cok X cX0_pence RX0 10 ((some .int)) 3 0 0) {Q : Int32 → Mem → Prop} (hq : RI X 0 0 LY Q) {M : Mem} {a0 : Int32} {a1 : Int32} {a2 : Int32} {a3 : Int32} (h : w_Debts_pence a0 a1 a2 a3 M Q) : Wat X 0 0 LY 0 [some (vr c_debts), some (vi a0), some (vi a1), some (vi a2), some (vi a3), none, none, none, none, none] [] M := by
  refine s_aload_n hX dX0_pence_0 rfl ?_
  refine s_getr hX fi_X0_9 ly_c_debts rfl dX0_pence_1 ?_
  refine s_iload_n hX dX0_pence_4 rfl ?_
  refine s_bipush (v := 24) hX dX0_pence_5 rfl ?_
  refine s_imul hX dX0_pence_7 ?_
  refine s_iload_n hX dX0_pence_8 rfl ?_
  refine s_iadd hX dX0_pence_9 ?_
  have hi := h.1
  replace h := h.2
  refine s_ialdv (v := (M.1 c_debts_at (Int32.toNatClampNeg ((a2 * 24) + a1)))) hX ly_c_debts_at hi dX0_pence_10 rfl ?_
  refine s_aload_n hX dX0_pence_11 rfl ?_
  refine s_getr hX fi_X0_33 ly_c_debts rfl dX0_pence_12 ?_
  refine s_getr hX fi_X0_88 ly_c_land rfl dX0_pence_15 ?_
  refine s_iload_n hX dX0_pence_18 rfl ?_
  have hi := h.1
  replace h := h.2
  refine s_ialdv (v := (M.1 c_land_bush (Int32.toNatClampNeg a0))) hX ly_c_land_bush hi dX0_pence_19 rfl ?_
  refine s_csi (as := [vi (M.1 c_debts_at (Int32.toNatClampNeg ((a2 * 24) + a1))), vi (M.1 c_land_bush (Int32.toNatClampNeg a0))]) (rest := []) hX (c_Debts_far h) ms_Debts_far wd_ml_X0_81 dX0_pence_20 rfl (Nat.le_of_ble_eq_true rfl) rfl (by decide) ⟨Nat.zero_le _, Nat.zero_le _⟩ (fun r353 M352 h => ?_)
  refine s_istore (lv' := [some (vr c_debts), some (vi a0), some (vi a1), some (vi a2), some (vi a3), some (vi r353), none, none, none, none]) hX dX0_pence_23 rfl rfl (Nat.le_of_ble_eq_true rfl) ?_
  refine s_iload hX dX0_pence_25 rfl ?_
  refine s_if_le (tgt := 50) hX dX0_pence_27 (by decide) (fun c => ?_) (fun c => ?_)
  · replace h := h.1 c
    refine s_iconst (v := 0) hX dX0_pence_50 rfl ?_
    exact s_iret hX hq rfl dX0_pence_51 h
  · replace h := h.2 c
    refine s_aload_n hX dX0_pence_30 rfl ?_
    refine s_getr hX fi_X0_18 ly_c_debts rfl dX0_pence_31 ?_
    refine s_iload_n hX dX0_pence_34 rfl ?_
    have hi := h.1
    replace h := h.2
    refine s_ialdv (v := (M352.1 c_debts_nearest (Int32.toNatClampNeg a2))) hX ly_c_debts_nearest hi dX0_pence_35 rfl ?_
    refine s_iconst (v := (-1)) hX dX0_pence_36 rfl ?_
    refine s_icmp_eq (tgt := 50) hX dX0_pence_37 (by decide) (fun c => ?_) (fun c => ?_)
    · replace h := h.1 c
      refine s_iconst (v := 0) hX dX0_pence_50 rfl ?_
      exact s_iret hX hq rfl dX0_pence_51 h
    · replace h := h.2 c
      refine s_aload_n hX dX0_pence_40 rfl ?_
      refine s_iload_n hX dX0_pence_41 rfl ?_
      refine s_iload hX dX0_pence_42 rfl ?_
      refine s_cvi (as := [vi a2, vi r353]) (rest := []) hX (c_Debts_hears h) mv_Debts_hears wd_ml_X0_91 dX0_pence_44 ly_c_debts rfl rfl (Nat.le_of_ble_eq_true rfl) rfl (by decide) ⟨Nat.zero_le _, Nat.zero_le _⟩ (fun b355_ M354 h => ?_)
      obtain ⟨b355, rfl, h⟩ := h
      refine s_if_ne (tgt := 52) hX dX0_pence_47 (by decide) (fun c => ?_) (fun c => ?_)
      · replace h := h.1 (b2i_1 c)
        refine s_aload_n hX dX0_pence_52 rfl ?_
        refine s_getr hX fi_X0_21 ly_c_debts rfl dX0_pence_53 ?_
        refine s_iload_n hX dX0_pence_56 rfl ?_
        have hi := h.1
        replace h := h.2
        refine s_ialdv (v := (M354.1 c_debts_gap (Int32.toNatClampNeg a2))) hX ly_c_debts_gap hi dX0_pence_57 rfl ?_
        refine s_nmi (fun x356 ex356 => ?_)
        replace h := h x356 ex356
        refine s_istore (lv' := [some (vr c_debts), some (vi a0), some (vi a1), some (vi a2), some (vi a3), some (vi r353), some (vi x356), none, none, none]) hX dX0_pence_58 rfl rfl (Nat.le_of_ble_eq_true rfl) ?_
        refine s_iload_n hX dX0_pence_60 rfl ?_
        refine s_bipush (v := 10) hX dX0_pence_61 rfl ?_
        refine s_imul hX dX0_pence_63 ?_
        refine s_iload hX dX0_pence_64 rfl ?_
        refine s_iadd hX dX0_pence_66 ?_
        refine s_bipush (v := 15) hX dX0_pence_67 rfl ?_
        refine s_imul hX dX0_pence_69 ?_
        refine s_iload hX dX0_pence_70 rfl ?_
        refine s_iadd hX dX0_pence_72 ?_
        refine s_bipush (v := 15) hX dX0_pence_73 rfl ?_
        refine s_imul hX dX0_pence_75 ?_
        refine s_iload hX dX0_pence_76 rfl ?_
        refine s_iadd hX dX0_pence_78 ?_
        refine s_nmi (fun x357 ex357 => ?_)
        replace h := h x357 ex357
        refine s_istore (lv' := [some (vr c_debts), some (vi a0), some (vi a1), some (vi a2), some (vi a3), some (vi r353), some (vi x356), some (vi x357), none, none]) hX dX0_pence_79 rfl rfl (Nat.le_of_ble_eq_true rfl) ?_
        refine s_iload hX dX0_pence_81 rfl ?_
        refine s_sipush (v := 512) hX dX0_pence_83 rfl ?_
        refine s_irem hX dX0_pence_86 (by decide) ?_
        refine s_istore (lv' := [some (vr c_debts), some (vi a0), some (vi a1), some (vi a2), some (vi a3), some (vi r353), some (vi x356), some (vi x357), some (vi (x357 - x357 / 512 * 512)), none]) hX dX0_pence_87 rfl rfl (Nat.le_of_ble_eq_true rfl) ?_
        refine s_aload_n hX dX0_pence_89 rfl ?_
        refine s_getr hX fi_X0_27 ly_c_debts rfl dX0_pence_90 ?_
        refine s_iload hX dX0_pence_93 rfl ?_
        have hi := h.1
        replace h := h.2
        refine s_ialdv (v := (M354.1 c_debts_rateKey (Int32.toNatClampNeg (x357 - x357 / 512 * 512)))) hX ly_c_debts_rateKey hi dX0_pence_95 rfl ?_
        refine s_iload hX dX0_pence_96 rfl ?_
        refine s_icmp_eq (tgt := 139) hX dX0_pence_98 (by decide) (fun c => ?_) (fun c => ?_)
        · replace h := h.1 c
          refine s_mask [true, false, false, true, true, false, true, false, true, true] (lv' := [some (vr c_debts), none, none, some (vi a2), some (vi a3), none, some (vi x356), none, some (vi (x357 - x357 / 512 * 512)), none]) rfl rfl ?_
          exact t_Debts_pence_j139 hX hq h
        · replace h := h.2 c
          refine s_aload_n hX dX0_pence_101 rfl ?_
          refine s_getr hX fi_X0_27 ly_c_debts rfl dX0_pence_102 ?_
          refine s_iload hX dX0_pence_105 rfl ?_
          refine s_iload hX dX0_pence_107 rfl ?_
          have hi := h.1
          replace h := h.2
          refine s_iast hX ly_c_debts_rateKey hi dX0_pence_109 ?_
          refine s_aload_n hX dX0_pence_110 rfl ?_
          refine s_getr hX fi_X0_30 ly_c_debts rfl dX0_pence_111 ?_
          refine s_iload hX dX0_pence_114 rfl ?_
          refine s_aload_n hX dX0_pence_116 rfl ?_
          refine s_getr hX fi_X0_33 ly_c_debts rfl dX0_pence_117 ?_
          refine s_getr hX fi_X0_101 ly_c_land rfl dX0_pence_120 ?_
          refine s_iload_n hX dX0_pence_123 rfl ?_
          refine s_iload hX dX0_pence_124 rfl ?_
          refine s_iload hX dX0_pence_126 rfl ?_
          refine s_iload hX dX0_pence_128 rfl ?_
          refine s_cvi (as := [vi a1, vi r353, vi x356, vi a3]) (rest := [vi (x357 - x357 / 512 * 512), vr c_debts_rate]) hX (c_Law_value_land_owe h) mv_Law_value_land_owe wd_ml_X0_71 dX0_pence_130 ly_c_land_owe rfl rfl (Nat.le_of_ble_eq_true rfl) rfl (by decide) ⟨Nat.zero_le _, Nat.zero_le _⟩ (fun r368 M367 h => ?_)
          refine s_bipush (v := 99) hX dX0_pence_133 rfl ?_
          refine s_csi (as := [vi r368, vi 99]) (rest := [vi (x357 - x357 / 512 * 512), vr c_debts_rate]) hX (c_Debts_within h) ms_Debts_within wd_ml_X0_77 dX0_pence_135 rfl (Nat.le_of_ble_eq_true rfl) rfl (by decide) ⟨Nat.zero_le _, Nat.zero_le _⟩ (fun r370 M369 h => ?_)
          have hi := h.1
          replace h := h.2
          refine s_iast hX ly_c_debts_rate hi dX0_pence_138 ?_
          refine s_mask [true, false, false, true, true, false, true, false, true, true] (lv' := [some (vr c_debts), none, none, some (vi a2), some (vi a3), none, some (vi x356), none, some (vi (x357 - x357 / 512 * 512)), none]) rfl rfl ?_
          exact t_Debts_pence_j139 hX hq h
      · replace h := h.2 (b2i_0 c)
        refine s_iconst (v := 0) hX dX0_pence_50 rfl ?_
        exact s_iret hX hq rfl dX0_pence_51 h
theorem c_Debts_pence {a0 : Int32} {a1 : Int32} {a2 : Int32} {a3 : Int32} {M : Mem} {Q : Int32 → Mem → Prop} (h : w_Debts_pence a0 a1 a2 a3 M Q) : CI yX0_pence cX0_pence 10 ((some .int)) 3 0 0 LY LY [vr c_debts, vi a0, vi a1, vi a2, vi a3] M Q := mk_i rfl wd_co_X0_pence rfl rfl (Nat.le_of_ble_eq_true rfl) (fun X hX hq => t_Debts_pence hX hq h)
theorem mv_Debts_pence : MV yX0_pence cX0_pence 10 ((some .int)) RX0 4 := ⟨wd_co_X0_pence, wd_im_X0_pence, wd_se_X0_pence, wd_in_X0, by decide +kernel, by decide⟩
def w_Debts_creditor (a0 : Int32) (a1 : Int32) (a2 : Int32) (M : Mem) (Q : Int32 → Mem → Prop) : Prop :=
  (vp_in ((a2 * 24) + a1) 144 ∧ (vp_in a0 5 ∧ w_Debts_far (M.1 c_debts_at (Int32.toNatClampNeg ((a2 * 24) + a1))) (M.1 c_land_bush (Int32.toNatClampNeg a0)) M (fun r374 M373 => w_Debts_hears a2 r374 M373 (fun b376 M375 => ((b376 = false → Q (-1) M375) ∧ (b376 = true → (vp_in a2 6 ∧ Q (M375.1 c_debts_nearest (Int32.toNatClampNeg a2)) M375)))))))
set_option maxHeartbeats 4000000 in
theorem t_Debts_creditor {X : Cx} (hX : Cok X cX0_creditor RX0 5 ((some .int)) 2 0 0) {Q : Int32 → Mem → Prop} (hq : RI X 0 0 LY Q) {M : Mem} {a0 : Int32} {a1 : Int32} {a2 : Int32} (h : w_Debts_creditor a0 a1 a2 M Q) : Wat X 0 0 LY 0 [some (vr c_debts), some (vi a0), some (vi a1), some (vi a2), none] [] M := by
  refine s_aload_n hX dX0_creditor_0 rfl ?_
  refine s_getr hX fi_X0_9 ly_c_debts rfl dX0_creditor_1 ?_
  refine s_iload_n hX dX0_creditor_4 rfl ?_
  refine s_bipush (v := 24) hX dX0_creditor_5 rfl ?_
  refine s_imul hX dX0_creditor_7 ?_
  refine s_iload_n hX dX0_creditor_8 rfl ?_
  refine s_iadd hX dX0_creditor_9 ?_
  have hi := h.1
  replace h := h.2
  refine s_ialdv (v := (M.1 c_debts_at (Int32.toNatClampNeg ((a2 * 24) + a1)))) hX ly_c_debts_at hi dX0_creditor_10 rfl ?_
  refine s_aload_n hX dX0_creditor_11 rfl ?_
  refine s_getr hX fi_X0_33 ly_c_debts rfl dX0_creditor_12 ?_
  refine s_getr hX fi_X0_88 ly_c_land rfl dX0_creditor_15 ?_
  refine s_iload_n hX dX0_creditor_18 rfl ?_
  have hi := h.1
  replace h := h.2
  refine s_ialdv (v := (M.1 c_land_bush (Int32.toNatClampNeg a0))) hX ly_c_land_bush hi dX0_creditor_19 rfl ?_
  refine s_csi (as := [vi (M.1 c_debts_at (Int32.toNatClampNeg ((a2 * 24) + a1))), vi (M.1 c_land_bush (Int32.toNatClampNeg a0))]) (rest := []) hX (c_Debts_far h) ms_Debts_far wd_ml_X0_81 dX0_creditor_20 rfl (Nat.le_of_ble_eq_true rfl) rfl (by decide) ⟨Nat.zero_le _, Nat.zero_le _⟩ (fun r374 M373 h => ?_)
  refine s_istore (lv' := [some (vr c_debts), some (vi a0), some (vi a1), some (vi a2), some (vi r374)]) hX dX0_creditor_23 rfl rfl (Nat.le_of_ble_eq_true rfl) ?_
  refine s_aload_n hX dX0_creditor_25 rfl ?_
  refine s_iload_n hX dX0_creditor_26 rfl ?_
  refine s_iload hX dX0_creditor_27 rfl ?_
  refine s_cvi (as := [vi a2, vi r374]) (rest := []) hX (c_Debts_hears h) mv_Debts_hears wd_ml_X0_91 dX0_creditor_29 ly_c_debts rfl rfl (Nat.le_of_ble_eq_true rfl) rfl (by decide) ⟨Nat.zero_le _, Nat.zero_le _⟩ (fun b376_ M375 h => ?_)
  obtain ⟨b376, rfl, h⟩ := h
  refine s_if_eq (tgt := 44) hX dX0_creditor_32 (by decide) (fun c => ?_) (fun c => ?_)
  · replace h := h.1 (b2i_0 c)
    refine s_iconst (v := (-1)) hX dX0_creditor_44 rfl ?_
    exact s_iret hX hq rfl dX0_creditor_45 h
  · replace h := h.2 (b2i_1 c)
    refine s_aload_n hX dX0_creditor_35 rfl ?_
    refine s_getr hX fi_X0_18 ly_c_debts rfl dX0_creditor_36 ?_
    refine s_iload_n hX dX0_creditor_39 rfl ?_
    have hi := h.1
    replace h := h.2
    refine s_ialdv (v := (M375.1 c_debts_nearest (Int32.toNatClampNeg a2))) hX ly_c_debts_nearest hi dX0_creditor_40 rfl ?_
    refine s_goto (tgt := 45) hX dX0_creditor_41 (by decide) ?_
    exact s_iret hX hq rfl dX0_creditor_45 h
theorem c_Debts_creditor {a0 : Int32} {a1 : Int32} {a2 : Int32} {M : Mem} {Q : Int32 → Mem → Prop} (h : w_Debts_creditor a0 a1 a2 M Q) : CI yX0_creditor cX0_creditor 5 ((some .int)) 2 0 0 LY LY [vr c_debts, vi a0, vi a1, vi a2] M Q := mk_i rfl wd_co_X0_creditor rfl rfl (Nat.le_of_ble_eq_true rfl) (fun X hX hq => t_Debts_creditor hX hq h)
theorem mv_Debts_creditor : MV yX0_creditor cX0_creditor 5 ((some .int)) RX0 3 := ⟨wd_co_X0_creditor, wd_im_X0_creditor, wd_se_X0_creditor, wd_in_X0, by decide +kernel, by decide⟩
def w_Top_entry (a0 : Int32) (a1 : Int32) (a2 : Int32) (a3 : Int32) (M : Mem) (Q : Int32 → Mem → Prop) : Prop :=
  w_Top_isBird a0 M (fun b319 M318 => ((b319 = false → Q (-1) M318) ∧ (b319 = true → w_Top_isHour a1 M318 (fun b321 M320 => ((b321 = false → Q (-1) M320) ∧ (b321 = true → w_Top_isPerson a2 M320 (fun b323 M322 => ((b323 = true → w_Debts_allAsTold M322 (fun M324 => w_Debts_lookRound a1 M324 (fun M349 => w_Debts_heard a0 a1 (M349.1 c_deeds Deeds_shot) M349 (fun r351 M350 => ((a3 = 0 → w_Debts_pence a0 a1 a2 r351 M350 (fun r372 M371 => Q r372 M371)) ∧ (¬ a3 = 0 → ((r351 ≤ 0 → Q (-1) M350) ∧ (¬ r351 ≤ 0 → w_Debts_creditor a0 a1 a2 M350 (fun r378 M377 => Q r378 M377))))))))) ∧ (b323 = false → Q (-1) M322)))))))))
set_option maxHeartbeats 4000000 in
theorem t_Top_entry {X : Cx} (hX : Cok X cX11_entry RX11 6 ((some .int)) 4 0 0) {Q : Int32 → Mem → Prop} (hq : RI X 0 0 LY Q) {M : Mem} {a0 : Int32} {a1 : Int32} {a2 : Int32} {a3 : Int32} (h : w_Top_entry a0 a1 a2 a3 M Q) : Wat X 0 0 LY 0 [some (vr c_xx), some (vi a0), some (vi a1), some (vi a2), some (vi a3), none] [] M := by
  refine s_aload_n hX dX11_entry_0 rfl ?_
  refine s_iload_n hX dX11_entry_1 rfl ?_
  refine s_cvi (as := [vi a0]) (rest := []) hX (c_Top_isBird h) mv_Top_isBird wd_ml_X11_130 dX11_entry_2 ly_c_xx rfl rfl (Nat.le_of_ble_eq_true rfl) rfl (by decide) ⟨Nat.zero_le _, Nat.zero_le _⟩ (fun b319_ M318 h => ?_)
  obtain ⟨b319, rfl, h⟩ := h
  refine s_if_eq (tgt := 23) hX dX11_entry_5 (by decide) (fun c => ?_) (fun c => ?_)
  · replace h := h.1 (b2i_0 c)
    refine s_iconst (v := (-1)) hX dX11_entry_23 rfl ?_
    exact s_iret hX hq rfl dX11_entry_24 h
  · replace h := h.2 (b2i_1 c)
    refine s_iload_n hX dX11_entry_8 rfl ?_
    refine s_csi (as := [vi a1]) (rest := []) hX (c_Top_isHour h) ms_Top_isHour wd_ml_X11_124 dX11_entry_9 rfl (Nat.le_of_ble_eq_true rfl) rfl (by decide) ⟨Nat.zero_le _, Nat.zero_le _⟩ (fun b321_ M320 h => ?_)
    obtain ⟨b321, rfl, h⟩ := h
    refine s_if_eq (tgt := 23) hX dX11_entry_12 (by decide) (fun c => ?_) (fun c => ?_)
    · replace h := h.1 (b2i_0 c)
      refine s_iconst (v := (-1)) hX dX11_entry_23 rfl ?_
      exact s_iret hX hq rfl dX11_entry_24 h
    · replace h := h.2 (b2i_1 c)
      refine s_aload_n hX dX11_entry_15 rfl ?_
      refine s_iload_n hX dX11_entry_16 rfl ?_
      refine s_cvi (as := [vi a2]) (rest := []) hX (c_Top_isPerson h) mv_Top_isPerson wd_ml_X11_113 dX11_entry_17 ly_c_xx rfl rfl (Nat.le_of_ble_eq_true rfl) rfl (by decide) ⟨Nat.zero_le _, Nat.zero_le _⟩ (fun b323_ M322 h => ?_)
      obtain ⟨b323, rfl, h⟩ := h
      refine s_if_ne (tgt := 25) hX dX11_entry_20 (by decide) (fun c => ?_) (fun c => ?_)
      · replace h := h.1 (b2i_1 c)
        refine s_aload_n hX dX11_entry_25 rfl ?_
        refine s_getr hX fi_X11_58 ly_c_xx rfl dX11_entry_26 ?_
        refine s_cvv (as := []) (rest := []) hX (c_Debts_allAsTold h) mv_Debts_allAsTold wd_ml_X11_146 dX11_entry_29 ly_c_debts rfl rfl (Nat.le_of_ble_eq_true rfl) rfl (by decide) ⟨Nat.zero_le _, Nat.zero_le _⟩ (fun M324 h => ?_)
        refine s_aload_n hX dX11_entry_32 rfl ?_
        refine s_getr hX fi_X11_58 ly_c_xx rfl dX11_entry_33 ?_
        refine s_iload_n hX dX11_entry_36 rfl ?_
        refine s_cvv (as := [vi a1]) (rest := []) hX (c_Debts_lookRound h) mv_Debts_lookRound wd_ml_X11_149 dX11_entry_37 ly_c_debts rfl rfl (Nat.le_of_ble_eq_true rfl) rfl (by decide) ⟨Nat.zero_le _, Nat.zero_le _⟩ (fun M349 h => ?_)
        refine s_aload_n hX dX11_entry_40 rfl ?_
        refine s_getr hX fi_X11_58 ly_c_xx rfl dX11_entry_41 ?_
        refine s_iload_n hX dX11_entry_44 rfl ?_
        refine s_iload_n hX dX11_entry_45 rfl ?_
        refine s_aload_n hX dX11_entry_46 rfl ?_
        refine s_getr hX fi_X11_38 ly_c_xx rfl dX11_entry_47 ?_
        refine s_getiv (v := (M349.1 c_deeds Deeds_shot)) hX fi_X11_136 ly_c_deeds rfl dX11_entry_50 rfl ?_
        refine s_cvi (as := [vi a0, vi a1, vi (M349.1 c_deeds Deeds_shot)]) (rest := []) hX (c_Debts_heard h) mv_Debts_heard wd_ml_X11_153 dX11_entry_53 ly_c_debts rfl rfl (Nat.le_of_ble_eq_true rfl) rfl (by decide) ⟨Nat.zero_le _, Nat.zero_le _⟩ (fun r351 M350 h => ?_)
        refine s_istore (lv' := [some (vr c_xx), some (vi a0), some (vi a1), some (vi a2), some (vi a3), some (vi r351)]) hX dX11_entry_56 rfl rfl (Nat.le_of_ble_eq_true rfl) ?_
        refine s_iload hX dX11_entry_58 rfl ?_
        refine s_if_eq (tgt := 83) hX dX11_entry_60 (by decide) (fun c => ?_) (fun c => ?_)
        · replace h := h.1 c
          refine s_aload_n hX dX11_entry_83 rfl ?_
          refine s_getr hX fi_X11_58 ly_c_xx rfl dX11_entry_84 ?_
          refine s_iload_n hX dX11_entry_87 rfl ?_
          refine s_iload_n hX dX11_entry_88 rfl ?_
          refine s_iload_n hX dX11_entry_89 rfl ?_
          refine s_iload hX dX11_entry_90 rfl ?_
          refine s_cvi (as := [vi a0, vi a1, vi a2, vi r351]) (rest := []) hX (c_Debts_pence h) mv_Debts_pence wd_ml_X11_160 dX11_entry_92 ly_c_debts rfl rfl (Nat.le_of_ble_eq_true rfl) rfl (by decide) ⟨Nat.zero_le _, Nat.zero_le _⟩ (fun r372 M371 h => ?_)
          exact s_iret hX hq rfl dX11_entry_95 h
        · replace h := h.2 c
          refine s_iload hX dX11_entry_63 rfl ?_
          refine s_if_le (tgt := 81) hX dX11_entry_65 (by decide) (fun c => ?_) (fun c => ?_)
          · replace h := h.1 c
            refine s_iconst (v := (-1)) hX dX11_entry_81 rfl ?_
            exact s_iret hX hq rfl dX11_entry_82 h
          · replace h := h.2 c
            refine s_aload_n hX dX11_entry_68 rfl ?_
            refine s_getr hX fi_X11_58 ly_c_xx rfl dX11_entry_69 ?_
            refine s_iload_n hX dX11_entry_72 rfl ?_
            refine s_iload_n hX dX11_entry_73 rfl ?_
            refine s_iload_n hX dX11_entry_74 rfl ?_
            refine s_cvi (as := [vi a0, vi a1, vi a2]) (rest := []) hX (c_Debts_creditor h) mv_Debts_creditor wd_ml_X11_157 dX11_entry_75 ly_c_debts rfl rfl (Nat.le_of_ble_eq_true rfl) rfl (by decide) ⟨Nat.zero_le _, Nat.zero_le _⟩ (fun r378 M377 h => ?_)
            refine s_goto (tgt := 82) hX dX11_entry_78 (by decide) ?_
            exact s_iret hX hq rfl dX11_entry_82 h
      · replace h := h.2 (b2i_0 c)
        refine s_iconst (v := (-1)) hX dX11_entry_23 rfl ?_
        exact s_iret hX hq rfl dX11_entry_24 h
theorem c_Top_entry {a0 : Int32} {a1 : Int32} {a2 : Int32} {a3 : Int32} {M : Mem} {Q : Int32 → Mem → Prop} (h : w_Top_entry a0 a1 a2 a3 M Q) : CI yX11_entry cX11_entry 6 ((some .int)) 4 0 0 LY LY [vr c_xx, vi a0, vi a1, vi a2, vi a3] M Q := mk_i rfl wd_co_X11_entry rfl rfl (Nat.le_of_ble_eq_true rfl) (fun X hX hq => t_Top_entry hX hq h)
theorem mv_Top_entry : MV yX11_entry cX11_entry 6 ((some .int)) RX11 4 := ⟨wd_co_X11_entry, wd_im_X11_entry, wd_se_X11_entry, wd_in_X11, by decide +kernel, by decide⟩
def w_Jarr_fill_debts_sums_L5 (l1 : Int32) (l3 : Int32) (K : Mem → Prop) (Q : Mem → Prop) : Nat → Int32 → Mem → Prop
  | 0, _, _ => False
  | n + 1, l2, M => ((l3 ≤ l2 → K M) ∧ (¬ l3 ≤ l2 → (vp_in l2 36 ∧ w_Jarr_fill_debts_sums_L5 l1 l3 K Q n (l2 + 1) (si M c_debts_sums (Int32.toNatClampNeg l2) l1))))
set_option maxHeartbeats 4000000 in
theorem t_Jarr_fill_debts_sums_L5 {X : Cx} (hX : Cok X cJ7_fill_53178 RJ7 4 none 1 0 0) {Q : Mem → Prop} (hq : RV X 0 0 LY Q) {l1 : Int32} {l3 : Int32} {K : Mem → Prop} (hK : ∀ (M : Mem), K M → Wat X 0 0 LY 20 [none, none, none, none] [] M) : ∀ (n : Nat) (l2 : Int32) (M : Mem), w_Jarr_fill_debts_sums_L5 l1 l3 K Q n l2 M → Wat X 0 0 LY 5 [some (vr c_debts_sums), some (vi l1), some (vi l2), some (vi l3)] [] M := by
  intro n
  induction n with
  | zero => intro _ _ h; exact h.elim
  | succ n ih =>
    intro l2 M h
    refine s_iload_n hX dJ7_fill_53178_5 rfl ?_
    refine s_iload_n hX dJ7_fill_53178_6 rfl ?_
    refine s_icmp_ge (tgt := 20) hX dJ7_fill_53178_7 (by decide) (fun c => ?_) (fun c => ?_)
    · replace h := h.1 c
      refine s_mask [false, false, false, false] (lv' := [none, none, none, none]) rfl rfl ?_
      exact hK _ h
    · replace h := h.2 c
      refine s_aload_n hX dJ7_fill_53178_10 rfl ?_
      refine s_iload_n hX dJ7_fill_53178_11 rfl ?_
      refine s_iload_n hX dJ7_fill_53178_12 rfl ?_
      have hi := h.1
      replace h := h.2
      refine s_iast hX ly_c_debts_sums hi dJ7_fill_53178_13 ?_
      refine s_iinc (v := (l2 + 1)) (lv' := [some (vr c_debts_sums), some (vi l1), some (vi (l2 + 1)), some (vi l3)]) hX dJ7_fill_53178_14 rfl rfl rfl rfl ?_
      refine s_goto (tgt := 5) hX dJ7_fill_53178_17 (by decide) ?_
      exact ih _ _ h
def w_Jarr_fill_debts_sums (a0 : Int32) (M : Mem) (Q : Mem → Prop) : Prop :=
  (∃ n385, w_Jarr_fill_debts_sums_L5 a0 36 (fun M384 => Q M384) Q n385 0 M)
set_option maxHeartbeats 4000000 in
theorem t_Jarr_fill_debts_sums {X : Cx} (hX : Cok X cJ7_fill_53178 RJ7 4 none 1 0 0) {Q : Mem → Prop} (hq : RV X 0 0 LY Q) {M : Mem} {a0 : Int32} (h : w_Jarr_fill_debts_sums a0 M Q) : Wat X 0 0 LY 0 [some (vr c_debts_sums), some (vi a0), none, none] [] M := by
  refine s_iconst (v := 0) hX dJ7_fill_53178_0 rfl ?_
  refine s_istore_n (lv' := [some (vr c_debts_sums), some (vi a0), some (vi 0), none]) hX dJ7_fill_53178_1 rfl rfl (Nat.le_of_ble_eq_true rfl) ?_
  refine s_aload_n hX dJ7_fill_53178_2 rfl ?_
  refine s_alen (v := 36) hX ly_c_debts_sums (by decide) rfl dJ7_fill_53178_3 ?_
  refine s_istore_n (lv' := [some (vr c_debts_sums), some (vi a0), some (vi 0), some (vi 36)]) hX dJ7_fill_53178_4 rfl rfl (Nat.le_of_ble_eq_true rfl) ?_
  obtain ⟨n385, h⟩ := h
  refine t_Jarr_fill_debts_sums_L5 hX hq ?_ n385 _ _ h
  intro M384 h
  exact s_vret hX hq rfl dJ7_fill_53178_20 h
theorem c_Jarr_fill_debts_sums {a0 : Int32} {M : Mem} {Q : Mem → Prop} (h : w_Jarr_fill_debts_sums a0 M Q) : CV yJ7_fill_53178 cJ7_fill_53178 4 none 1 0 0 LY LY [vr c_debts_sums, vi a0] M Q := mk_v rfl wd_co_J7_fill_53178 rfl rfl (Nat.le_of_ble_eq_true rfl) (fun X hX hq => t_Jarr_fill_debts_sums hX hq h)
theorem ms_Jarr_fill_debts_sums : MS yJ7_fill_53178 cJ7_fill_53178 4 none 2 := ⟨wd_co_J7_fill_53178, wd_sm_J7_fill_53178, wd_in_J7, by decide +kernel, by decide⟩
def w_Debts_isCalled_L2 (l1 : Int32) (l2 : Int32) (K : Mem → Prop) (Q : Bool → Mem → Prop) : Nat → Int32 → Mem → Prop
  | 0, _, _ => False
  | n + 1, l3, M => (((M.1 c_land Land_birds) ≤ l3 → K M) ∧ (¬ (M.1 c_land Land_birds) ≤ l3 → w_Debts_heard l3 l1 l2 M (fun r388 M387 => ((r388 ≤ 0 → w_Debts_isCalled_L2 l1 l2 K Q n (l3 + 1) M387) ∧ (¬ r388 ≤ 0 → Q true M387)))))
set_option maxHeartbeats 4000000 in
theorem t_Debts_isCalled_L2 {X : Cx} (hX : Cok X cX0_isCalled RX0 4 ((some .boolean)) 2 0 0) {Q : Bool → Mem → Prop} (hq : RI X 0 0 LY (bQ Q)) {l1 : Int32} {l2 : Int32} {K : Mem → Prop} (hK : ∀ (M : Mem), K M → Wat X 0 0 LY 31 [none, none, none, none] [] M) : ∀ (n : Nat) (l3 : Int32) (M : Mem), w_Debts_isCalled_L2 l1 l2 K Q n l3 M → Wat X 0 0 LY 2 [some (vr c_debts), some (vi l1), some (vi l2), some (vi l3)] [] M := by
  intro n
  induction n with
  | zero => intro _ _ h; exact h.elim
  | succ n ih =>
    intro l3 M h
    refine s_iload_n hX dX0_isCalled_2 rfl ?_
    refine s_aload_n hX dX0_isCalled_3 rfl ?_
    refine s_getr hX fi_X0_33 ly_c_debts rfl dX0_isCalled_4 ?_
    refine s_getiv (v := (M.1 c_land Land_birds)) hX fi_X0_111 ly_c_land rfl dX0_isCalled_7 rfl ?_
    refine s_icmp_ge (tgt := 31) hX dX0_isCalled_10 (by decide) (fun c => ?_) (fun c => ?_)
    · replace h := h.1 c
      refine s_mask [false, false, false, false] (lv' := [none, none, none, none]) rfl rfl ?_
      exact hK _ h
    · replace h := h.2 c
      refine s_aload_n hX dX0_isCalled_13 rfl ?_
      refine s_iload_n hX dX0_isCalled_14 rfl ?_
      refine s_iload_n hX dX0_isCalled_15 rfl ?_
      refine s_iload_n hX dX0_isCalled_16 rfl ?_
      refine s_cvi (as := [vi l3, vi l1, vi l2]) (rest := []) hX (c_Debts_heard h) mv_Debts_heard wd_ml_X0_114 dX0_isCalled_17 ly_c_debts rfl rfl (Nat.le_of_ble_eq_true rfl) rfl (by decide) ⟨Nat.zero_le _, Nat.zero_le _⟩ (fun r388 M387 h => ?_)
      refine s_if_le (tgt := 25) hX dX0_isCalled_20 (by decide) (fun c => ?_) (fun c => ?_)
      · replace h := h.1 c
        refine s_iinc (v := (l3 + 1)) (lv' := [some (vr c_debts), some (vi l1), some (vi l2), some (vi (l3 + 1))]) hX dX0_isCalled_25 rfl rfl rfl rfl ?_
        refine s_goto (tgt := 2) hX dX0_isCalled_28 (by decide) ?_
        exact ih _ _ h
      · replace h := h.2 c
        refine s_iconst (v := 1) hX dX0_isCalled_23 rfl ?_
        exact s_zret hX true hq rfl dX0_isCalled_24 rfl h
def w_Debts_isCalled (a0 : Int32) (a1 : Int32) (M : Mem) (Q : Bool → Mem → Prop) : Prop :=
  (∃ n390, w_Debts_isCalled_L2 a0 a1 (fun M389 => Q false M389) Q n390 0 M)
set_option maxHeartbeats 4000000 in
theorem t_Debts_isCalled {X : Cx} (hX : Cok X cX0_isCalled RX0 4 ((some .boolean)) 2 0 0) {Q : Bool → Mem → Prop} (hq : RI X 0 0 LY (bQ Q)) {M : Mem} {a0 : Int32} {a1 : Int32} (h : w_Debts_isCalled a0 a1 M Q) : Wat X 0 0 LY 0 [some (vr c_debts), some (vi a0), some (vi a1), none] [] M := by
  refine s_iconst (v := 0) hX dX0_isCalled_0 rfl ?_
  refine s_istore_n (lv' := [some (vr c_debts), some (vi a0), some (vi a1), some (vi 0)]) hX dX0_isCalled_1 rfl rfl (Nat.le_of_ble_eq_true rfl) ?_
  obtain ⟨n390, h⟩ := h
  refine t_Debts_isCalled_L2 hX hq ?_ n390 _ _ h
  intro M389 h
  refine s_iconst (v := 0) hX dX0_isCalled_31 rfl ?_
  exact s_zret hX false hq rfl dX0_isCalled_32 rfl h
theorem c_Debts_isCalled {a0 : Int32} {a1 : Int32} {M : Mem} {Q : Bool → Mem → Prop} (h : w_Debts_isCalled a0 a1 M Q) : CI yX0_isCalled cX0_isCalled 4 ((some .boolean)) 2 0 0 LY LY [vr c_debts, vi a0, vi a1] M (bQ Q) := mk_i rfl wd_co_X0_isCalled rfl rfl (Nat.le_of_ble_eq_true rfl) (fun X hX hq => t_Debts_isCalled hX hq h)
theorem mv_Debts_isCalled : MV yX0_isCalled cX0_isCalled 4 ((some .boolean)) RX0 2 := ⟨wd_co_X0_isCalled, wd_im_X0_isCalled, wd_se_X0_isCalled, wd_in_X0, by decide +kernel, by decide⟩
def w_Debts_addEntries_L3 (l1 : Int32) (l2 : Int32) (l3 : Int32) (K : Mem → Prop) (Q : Mem → Prop) : Nat → Int32 → Mem → Prop
  | 0, _, _ => False
  | n + 1, l4, M => (((M.1 c_land Land_people) ≤ l4 → K M) ∧ (¬ (M.1 c_land Land_people) ≤ l4 → (vp_in l4 6 ∧ ∀ x396 : Int32, x396 = (M.1 c_debts_nearest (Int32.toNatClampNeg l4)) → ((x396 = (-1) → w_Debts_addEntries_L3 l1 l2 l3 K Q n (l4 + 1) M) ∧ (¬ x396 = (-1) → (vp_in ((l4 * 6) + x396) 36 ∧ w_Debts_pence l1 l2 l4 l3 M (fun r398 M397 => (vp_in ((l4 * 6) + x396) 36 ∧ w_Debts_addEntries_L3 l1 l2 l3 K Q n (l4 + 1) (si M397 c_debts_sums (Int32.toNatClampNeg ((l4 * 6) + x396)) ((M.1 c_debts_sums (Int32.toNatClampNeg ((l4 * 6) + x396))) + r398))))))))))
set_option maxHeartbeats 4000000 in
theorem t_Debts_addEntries_L3 {X : Cx} (hX : Cok X cX0_addEntries RX0 6 none 4 0 0) {Q : Mem → Prop} (hq : RV X 0 0 LY Q) {l1 : Int32} {l2 : Int32} {l3 : Int32} {K : Mem → Prop} (hK : ∀ (M : Mem), K M → Wat X 0 0 LY 61 [none, none, none, none, none, none] [] M) : ∀ (n : Nat) (l4 : Int32) (M : Mem), w_Debts_addEntries_L3 l1 l2 l3 K Q n l4 M → Wat X 0 0 LY 3 [some (vr c_debts), some (vi l1), some (vi l2), some (vi l3), some (vi l4), none] [] M := by
  intro n
  induction n with
  | zero => intro _ _ h; exact h.elim
  | succ n ih =>
    intro l4 M h
    refine s_iload hX dX0_addEntries_3 rfl ?_
    refine s_aload_n hX dX0_addEntries_5 rfl ?_
    refine s_getr hX fi_X0_33 ly_c_debts rfl dX0_addEntries_6 ?_
    refine s_getiv (v := (M.1 c_land Land_people)) hX fi_X0_58 ly_c_land rfl dX0_addEntries_9 rfl ?_
    refine s_icmp_ge (tgt := 61) hX dX0_addEntries_12 (by decide) (fun c => ?_) (fun c => ?_)
    · replace h := h.1 c
      refine s_mask [false, false, false, false, false, true] (lv' := [none, none, none, none, none, none]) rfl rfl ?_
      exact hK _ h
    · replace h := h.2 c
      refine s_aload_n hX dX0_addEntries_15 rfl ?_
      refine s_getr hX fi_X0_18 ly_c_debts rfl dX0_addEntries_16 ?_
      refine s_iload hX dX0_addEntries_19 rfl ?_
      have hi := h.1
      replace h := h.2
      refine s_ialdv (v := (M.1 c_debts_nearest (Int32.toNatClampNeg l4))) hX ly_c_debts_nearest hi dX0_addEntries_21 rfl ?_
      refine s_nmi (fun x396 ex396 => ?_)
      replace h := h x396 ex396
      refine s_istore (lv' := [some (vr c_debts), some (vi l1), some (vi l2), some (vi l3), some (vi l4), some (vi x396)]) hX dX0_addEntries_22 rfl rfl (Nat.le_of_ble_eq_true rfl) ?_
      refine s_iload hX dX0_addEntries_24 rfl ?_
      refine s_iconst (v := (-1)) hX dX0_addEntries_26 rfl ?_
      refine s_icmp_eq (tgt := 55) hX dX0_addEntries_27 (by decide) (fun c => ?_) (fun c => ?_)
      · replace h := h.1 c
        refine s_iinc (v := (l4 + 1)) (lv' := [some (vr c_debts), some (vi l1), some (vi l2), some (vi l3), some (vi (l4 + 1)), some (vi x396)]) hX dX0_addEntries_55 rfl rfl rfl rfl ?_
        refine s_goto (tgt := 3) hX dX0_addEntries_58 (by decide) ?_
        refine s_mask [true, true, true, true, true, false] (lv' := [some (vr c_debts), some (vi l1), some (vi l2), some (vi l3), some (vi (l4 + 1)), none]) rfl rfl ?_
        exact ih _ _ h
      · replace h := h.2 c
        refine s_aload_n hX dX0_addEntries_30 rfl ?_
        refine s_getr hX fi_X0_15 ly_c_debts rfl dX0_addEntries_31 ?_
        refine s_iload hX dX0_addEntries_34 rfl ?_
        refine s_bipush (v := 6) hX dX0_addEntries_36 rfl ?_
        refine s_imul hX dX0_addEntries_38 ?_
        refine s_iload hX dX0_addEntries_39 rfl ?_
        refine s_iadd hX dX0_addEntries_41 ?_
        refine s_dup2 hX dX0_addEntries_42 rfl rfl ?_
        have hi := h.1
        replace h := h.2
        refine s_ialdv (v := (M.1 c_debts_sums (Int32.toNatClampNeg ((l4 * 6) + x396)))) hX ly_c_debts_sums hi dX0_addEntries_43 rfl ?_
        refine s_aload_n hX dX0_addEntries_44 rfl ?_
        refine s_iload_n hX dX0_addEntries_45 rfl ?_
        refine s_iload_n hX dX0_addEntries_46 rfl ?_
        refine s_iload hX dX0_addEntries_47 rfl ?_
        refine s_iload_n hX dX0_addEntries_49 rfl ?_
        refine s_cvi (as := [vi l1, vi l2, vi l4, vi l3]) (rest := [vi (M.1 c_debts_sums (Int32.toNatClampNeg ((l4 * 6) + x396))), vi ((l4 * 6) + x396), vr c_debts_sums]) hX (c_Debts_pence h) mv_Debts_pence wd_ml_X0_121 dX0_addEntries_50 ly_c_debts rfl rfl (Nat.le_of_ble_eq_true rfl) rfl (by decide) ⟨Nat.zero_le _, Nat.zero_le _⟩ (fun r398 M397 h => ?_)
        refine s_iadd hX dX0_addEntries_53 ?_
        have hi := h.1
        replace h := h.2
        refine s_iast hX ly_c_debts_sums hi dX0_addEntries_54 ?_
        refine s_iinc (v := (l4 + 1)) (lv' := [some (vr c_debts), some (vi l1), some (vi l2), some (vi l3), some (vi (l4 + 1)), some (vi x396)]) hX dX0_addEntries_55 rfl rfl rfl rfl ?_
        refine s_goto (tgt := 3) hX dX0_addEntries_58 (by decide) ?_
        refine s_mask [true, true, true, true, true, false] (lv' := [some (vr c_debts), some (vi l1), some (vi l2), some (vi l3), some (vi (l4 + 1)), none]) rfl rfl ?_
        exact ih _ _ h
def w_Debts_addEntries (a0 : Int32) (a1 : Int32) (a2 : Int32) (M : Mem) (Q : Mem → Prop) : Prop :=
  (∃ n400, w_Debts_addEntries_L3 a0 a1 a2 (fun M399 => Q M399) Q n400 0 M)
set_option maxHeartbeats 4000000 in
theorem t_Debts_addEntries {X : Cx} (hX : Cok X cX0_addEntries RX0 6 none 4 0 0) {Q : Mem → Prop} (hq : RV X 0 0 LY Q) {M : Mem} {a0 : Int32} {a1 : Int32} {a2 : Int32} (h : w_Debts_addEntries a0 a1 a2 M Q) : Wat X 0 0 LY 0 [some (vr c_debts), some (vi a0), some (vi a1), some (vi a2), none, none] [] M := by
  refine s_iconst (v := 0) hX dX0_addEntries_0 rfl ?_
  refine s_istore (lv' := [some (vr c_debts), some (vi a0), some (vi a1), some (vi a2), some (vi 0), none]) hX dX0_addEntries_1 rfl rfl (Nat.le_of_ble_eq_true rfl) ?_
  obtain ⟨n400, h⟩ := h
  refine t_Debts_addEntries_L3 hX hq ?_ n400 _ _ h
  intro M399 h
  exact s_vret hX hq rfl dX0_addEntries_61 h
theorem c_Debts_addEntries {a0 : Int32} {a1 : Int32} {a2 : Int32} {M : Mem} {Q : Mem → Prop} (h : w_Debts_addEntries a0 a1 a2 M Q) : CV yX0_addEntries cX0_addEntries 6 none 4 0 0 LY LY [vr c_debts, vi a0, vi a1, vi a2] M Q := mk_v rfl wd_co_X0_addEntries rfl rfl (Nat.le_of_ble_eq_true rfl) (fun X hX hq => t_Debts_addEntries hX hq h)
theorem mv_Debts_addEntries : MV yX0_addEntries cX0_addEntries 6 none RX0 3 := ⟨wd_co_X0_addEntries, wd_im_X0_addEntries, wd_se_X0_addEntries, wd_in_X0, by decide +kernel, by decide⟩
def w_Debts_tally_L32 (l1 : Int32) (l2 : Int32) (K : Mem → Prop) (Q : Mem → Prop) : Nat → Int32 → Mem → Prop
  | 0, _, _ => False
  | n + 1, l3, M => (((M.1 c_land Land_birds) ≤ l3 → K M) ∧ (¬ (M.1 c_land Land_birds) ≤ l3 → w_Debts_heard l3 l2 l1 M (fun r395 M394 => w_Debts_addEntries l3 l2 r395 M394 (fun M401 => w_Debts_tally_L32 l1 l2 K Q n (l3 + 1) M401))))
set_option maxHeartbeats 4000000 in
theorem t_Debts_tally_L32 {X : Cx} (hX : Cok X cX0_tally RX0 4 none 5 0 0) {Q : Mem → Prop} (hq : RV X 0 0 LY Q) {l1 : Int32} {l2 : Int32} {K : Mem → Prop} (hK : ∀ (M : Mem), K M → Wat X 0 0 LY 62 [some (vr c_debts), some (vi l1), some (vi l2), none] [] M) : ∀ (n : Nat) (l3 : Int32) (M : Mem), w_Debts_tally_L32 l1 l2 K Q n l3 M → Wat X 0 0 LY 32 [some (vr c_debts), some (vi l1), some (vi l2), some (vi l3)] [] M := by
  intro n
  induction n with
  | zero => intro _ _ h; exact h.elim
  | succ n ih =>
    intro l3 M h
    refine s_iload_n hX dX0_tally_32 rfl ?_
    refine s_aload_n hX dX0_tally_33 rfl ?_
    refine s_getr hX fi_X0_33 ly_c_debts rfl dX0_tally_34 ?_
    refine s_getiv (v := (M.1 c_land Land_birds)) hX fi_X0_111 ly_c_land rfl dX0_tally_37 rfl ?_
    refine s_icmp_ge (tgt := 62) hX dX0_tally_40 (by decide) (fun c => ?_) (fun c => ?_)
    · replace h := h.1 c
      refine s_mask [true, true, true, false] (lv' := [some (vr c_debts), some (vi l1), some (vi l2), none]) rfl rfl ?_
      exact hK _ h
    · replace h := h.2 c
      refine s_aload_n hX dX0_tally_43 rfl ?_
      refine s_iload_n hX dX0_tally_44 rfl ?_
      refine s_iload_n hX dX0_tally_45 rfl ?_
      refine s_aload_n hX dX0_tally_46 rfl ?_
      refine s_iload_n hX dX0_tally_47 rfl ?_
      refine s_iload_n hX dX0_tally_48 rfl ?_
      refine s_iload_n hX dX0_tally_49 rfl ?_
      refine s_cvi (as := [vi l3, vi l2, vi l1]) (rest := [vi l2, vi l3, vr c_debts]) hX (c_Debts_heard h) mv_Debts_heard wd_ml_X0_114 dX0_tally_50 ly_c_debts rfl rfl (Nat.le_of_ble_eq_true rfl) rfl (by decide) ⟨Nat.zero_le _, Nat.zero_le _⟩ (fun r395 M394 h => ?_)
      refine s_cvv (as := [vi l3, vi l2, vi r395]) (rest := []) hX (c_Debts_addEntries h) mv_Debts_addEntries wd_ml_X0_124 dX0_tally_53 ly_c_debts rfl rfl (Nat.le_of_ble_eq_true rfl) rfl (by decide) ⟨Nat.zero_le _, Nat.zero_le _⟩ (fun M401 h => ?_)
      refine s_iinc (v := (l3 + 1)) (lv' := [some (vr c_debts), some (vi l1), some (vi l2), some (vi (l3 + 1))]) hX dX0_tally_56 rfl rfl rfl rfl ?_
      refine s_goto (tgt := 32) hX dX0_tally_59 (by decide) ?_
      exact ih _ _ h
def w_Debts_tally_L10 (l1 : Int32) (K : Mem → Prop) (Q : Mem → Prop) : Nat → Int32 → Mem → Prop
  | 0, _, _ => False
  | n + 1, l2, M => ((24 ≤ l2 → K M) ∧ (¬ 24 ≤ l2 → w_Debts_isCalled l2 l1 M (fun b392 M391 => ((b392 = false → w_Debts_tally_L10 l1 K Q n (l2 + 1) M391) ∧ (b392 = true → w_Debts_lookRound l2 M391 (fun M393 => (∃ n403, w_Debts_tally_L32 l1 l2 (fun M402 => w_Debts_tally_L10 l1 K Q n (l2 + 1) M402) Q n403 0 M393)))))))
set_option maxHeartbeats 4000000 in
theorem t_Debts_tally_L10 {X : Cx} (hX : Cok X cX0_tally RX0 4 none 5 0 0) {Q : Mem → Prop} (hq : RV X 0 0 LY Q) {l1 : Int32} {K : Mem → Prop} (hK : ∀ (M : Mem), K M → Wat X 0 0 LY 68 [none, none, none, none] [] M) : ∀ (n : Nat) (l2 : Int32) (M : Mem), w_Debts_tally_L10 l1 K Q n l2 M → Wat X 0 0 LY 10 [some (vr c_debts), some (vi l1), some (vi l2), none] [] M := by
  intro n
  induction n with
  | zero => intro _ _ h; exact h.elim
  | succ n ih =>
    intro l2 M h
    refine s_iload_n hX dX0_tally_10 rfl ?_
    refine s_bipush (v := 24) hX dX0_tally_11 rfl ?_
    refine s_icmp_ge (tgt := 68) hX dX0_tally_13 (by decide) (fun c => ?_) (fun c => ?_)
    · replace h := h.1 c
      refine s_mask [false, false, false, true] (lv' := [none, none, none, none]) rfl rfl ?_
      exact hK _ h
    · replace h := h.2 c
      refine s_aload_n hX dX0_tally_16 rfl ?_
      refine s_iload_n hX dX0_tally_17 rfl ?_
      refine s_iload_n hX dX0_tally_18 rfl ?_
      refine s_cvi (as := [vi l2, vi l1]) (rest := []) hX (c_Debts_isCalled h) mv_Debts_isCalled wd_ml_X0_104 dX0_tally_19 ly_c_debts rfl rfl (Nat.le_of_ble_eq_true rfl) rfl (by decide) ⟨Nat.zero_le _, Nat.zero_le _⟩ (fun b392_ M391 h => ?_)
      obtain ⟨b392, rfl, h⟩ := h
      refine s_if_eq (tgt := 62) hX dX0_tally_22 (by decide) (fun c => ?_) (fun c => ?_)
      · replace h := h.1 (b2i_0 c)
        refine s_iinc (v := (l2 + 1)) (lv' := [some (vr c_debts), some (vi l1), some (vi (l2 + 1)), none]) hX dX0_tally_62 rfl rfl rfl rfl ?_
        refine s_goto (tgt := 10) hX dX0_tally_65 (by decide) ?_
        exact ih _ _ h
      · replace h := h.2 (b2i_1 c)
        refine s_aload_n hX dX0_tally_25 rfl ?_
        refine s_iload_n hX dX0_tally_26 rfl ?_
        refine s_cvv (as := [vi l2]) (rest := []) hX (c_Debts_lookRound h) mv_Debts_lookRound wd_ml_X0_107 dX0_tally_27 ly_c_debts rfl rfl (Nat.le_of_ble_eq_true rfl) rfl (by decide) ⟨Nat.zero_le _, Nat.zero_le _⟩ (fun M393 h => ?_)
        refine s_iconst (v := 0) hX dX0_tally_30 rfl ?_
        refine s_istore_n (lv' := [some (vr c_debts), some (vi l1), some (vi l2), some (vi 0)]) hX dX0_tally_31 rfl rfl (Nat.le_of_ble_eq_true rfl) ?_
        obtain ⟨n403, h⟩ := h
        refine t_Debts_tally_L32 hX hq ?_ n403 _ _ h
        intro M402 h
        refine s_iinc (v := (l2 + 1)) (lv' := [some (vr c_debts), some (vi l1), some (vi (l2 + 1)), none]) hX dX0_tally_62 rfl rfl rfl rfl ?_
        refine s_goto (tgt := 10) hX dX0_tally_65 (by decide) ?_
        exact ih _ _ h
def w_Debts_tally (a0 : Int32) (M : Mem) (Q : Mem → Prop) : Prop :=
  w_Jarr_fill_debts_sums 0 M (fun M386 => (∃ n405, w_Debts_tally_L10 a0 (fun M404 => Q M404) Q n405 0 M386))
set_option maxHeartbeats 4000000 in
theorem t_Debts_tally {X : Cx} (hX : Cok X cX0_tally RX0 4 none 5 0 0) {Q : Mem → Prop} (hq : RV X 0 0 LY Q) {M : Mem} {a0 : Int32} (h : w_Debts_tally a0 M Q) : Wat X 0 0 LY 0 [some (vr c_debts), some (vi a0), none, none] [] M := by
  refine s_aload_n hX dX0_tally_0 rfl ?_
  refine s_getr hX fi_X0_15 ly_c_debts rfl dX0_tally_1 ?_
  refine s_iconst (v := 0) hX dX0_tally_4 rfl ?_
  refine s_csv (as := [vr c_debts_sums, vi 0]) (rest := []) hX (c_Jarr_fill_debts_sums h) ms_Jarr_fill_debts_sums wd_ml_X0_41 dX0_tally_5 rfl (Nat.le_of_ble_eq_true rfl) rfl (by decide) ⟨Nat.zero_le _, Nat.zero_le _⟩ (fun M386 h => ?_)
  refine s_iconst (v := 0) hX dX0_tally_8 rfl ?_
  refine s_istore_n (lv' := [some (vr c_debts), some (vi a0), some (vi 0), none]) hX dX0_tally_9 rfl rfl (Nat.le_of_ble_eq_true rfl) ?_
  obtain ⟨n405, h⟩ := h
  refine t_Debts_tally_L10 hX hq ?_ n405 _ _ h
  intro M404 h
  exact s_vret hX hq rfl dX0_tally_68 h
theorem c_Debts_tally {a0 : Int32} {M : Mem} {Q : Mem → Prop} (h : w_Debts_tally a0 M Q) : CV yX0_tally cX0_tally 4 none 5 0 0 LY LY [vr c_debts, vi a0] M Q := mk_v rfl wd_co_X0_tally rfl rfl (Nat.le_of_ble_eq_true rfl) (fun X hX hq => t_Debts_tally hX hq h)
theorem mv_Debts_tally : MV yX0_tally cX0_tally 4 none RX0 1 := ⟨wd_co_X0_tally, wd_im_X0_tally, wd_se_X0_tally, wd_in_X0, by decide +kernel, by decide⟩
def w_Top_owed (a0 : Int32) (a1 : Int32) (M : Mem) (Q : Int32 → Mem → Prop) : Prop :=
  w_Top_isPerson a0 M (fun b380 M379 => ((b380 = false → Q (-1) M379) ∧ (b380 = true → w_Top_isPerson a1 M379 (fun b382 M381 => ((b382 = false → Q (-1) M381) ∧ (b382 = true → ((¬ a0 = a1 → w_Debts_allAsTold M381 (fun M383 => w_Debts_tally (M383.1 c_deeds Deeds_shot) M383 (fun M406 => (vp_in ((a0 * 6) + a1) 36 ∧ Q (M406.1 c_debts_sums (Int32.toNatClampNeg ((a0 * 6) + a1))) M406)))) ∧ (a0 = a1 → Q (-1) M381))))))))
set_option maxHeartbeats 4000000 in
theorem t_Top_owed {X : Cx} (hX : Cok X cX11_owed RX11 3 ((some .int)) 6 0 0) {Q : Int32 → Mem → Prop} (hq : RI X 0 0 LY Q) {M : Mem} {a0 : Int32} {a1 : Int32} (h : w_Top_owed a0 a1 M Q) : Wat X 0 0 LY 0 [some (vr c_xx), some (vi a0), some (vi a1)] [] M := by
  refine s_aload_n hX dX11_owed_0 rfl ?_
  refine s_iload_n hX dX11_owed_1 rfl ?_
  refine s_cvi (as := [vi a0]) (rest := []) hX (c_Top_isPerson h) mv_Top_isPerson wd_ml_X11_113 dX11_owed_2 ly_c_xx rfl rfl (Nat.le_of_ble_eq_true rfl) rfl (by decide) ⟨Nat.zero_le _, Nat.zero_le _⟩ (fun b380_ M379 h => ?_)
  obtain ⟨b380, rfl, h⟩ := h
  refine s_if_eq (tgt := 21) hX dX11_owed_5 (by decide) (fun c => ?_) (fun c => ?_)
  · replace h := h.1 (b2i_0 c)
    refine s_iconst (v := (-1)) hX dX11_owed_21 rfl ?_
    exact s_iret hX hq rfl dX11_owed_22 h
  · replace h := h.2 (b2i_1 c)
    refine s_aload_n hX dX11_owed_8 rfl ?_
    refine s_iload_n hX dX11_owed_9 rfl ?_
    refine s_cvi (as := [vi a1]) (rest := []) hX (c_Top_isPerson h) mv_Top_isPerson wd_ml_X11_113 dX11_owed_10 ly_c_xx rfl rfl (Nat.le_of_ble_eq_true rfl) rfl (by decide) ⟨Nat.zero_le _, Nat.zero_le _⟩ (fun b382_ M381 h => ?_)
    obtain ⟨b382, rfl, h⟩ := h
    refine s_if_eq (tgt := 21) hX dX11_owed_13 (by decide) (fun c => ?_) (fun c => ?_)
    · replace h := h.1 (b2i_0 c)
      refine s_iconst (v := (-1)) hX dX11_owed_21 rfl ?_
      exact s_iret hX hq rfl dX11_owed_22 h
    · replace h := h.2 (b2i_1 c)
      refine s_iload_n hX dX11_owed_16 rfl ?_
      refine s_iload_n hX dX11_owed_17 rfl ?_
      refine s_icmp_ne (tgt := 23) hX dX11_owed_18 (by decide) (fun c => ?_) (fun c => ?_)
      · replace h := h.1 c
        refine s_aload_n hX dX11_owed_23 rfl ?_
        refine s_getr hX fi_X11_58 ly_c_xx rfl dX11_owed_24 ?_
        refine s_cvv (as := []) (rest := []) hX (c_Debts_allAsTold h) mv_Debts_allAsTold wd_ml_X11_146 dX11_owed_27 ly_c_debts rfl rfl (Nat.le_of_ble_eq_true rfl) rfl (by decide) ⟨Nat.zero_le _, Nat.zero_le _⟩ (fun M383 h => ?_)
        refine s_aload_n hX dX11_owed_30 rfl ?_
        refine s_getr hX fi_X11_58 ly_c_xx rfl dX11_owed_31 ?_
        refine s_aload_n hX dX11_owed_34 rfl ?_
        refine s_getr hX fi_X11_38 ly_c_xx rfl dX11_owed_35 ?_
        refine s_getiv (v := (M383.1 c_deeds Deeds_shot)) hX fi_X11_136 ly_c_deeds rfl dX11_owed_38 rfl ?_
        refine s_cvv (as := [vi (M383.1 c_deeds Deeds_shot)]) (rest := []) hX (c_Debts_tally h) mv_Debts_tally wd_ml_X11_164 dX11_owed_41 ly_c_debts rfl rfl (Nat.le_of_ble_eq_true rfl) rfl (by decide) ⟨Nat.zero_le _, Nat.zero_le _⟩ (fun M406 h => ?_)
        refine s_aload_n hX dX11_owed_44 rfl ?_
        refine s_getr hX fi_X11_58 ly_c_xx rfl dX11_owed_45 ?_
        refine s_getr hX fi_X11_167 ly_c_debts rfl dX11_owed_48 ?_
        refine s_iload_n hX dX11_owed_51 rfl ?_
        refine s_bipush (v := 6) hX dX11_owed_52 rfl ?_
        refine s_imul hX dX11_owed_54 ?_
        refine s_iload_n hX dX11_owed_55 rfl ?_
        refine s_iadd hX dX11_owed_56 ?_
        have hi := h.1
        replace h := h.2
        refine s_ialdv (v := (M406.1 c_debts_sums (Int32.toNatClampNeg ((a0 * 6) + a1)))) hX ly_c_debts_sums hi dX11_owed_57 rfl ?_
        exact s_iret hX hq rfl dX11_owed_58 h
      · replace h := h.2 c
        refine s_iconst (v := (-1)) hX dX11_owed_21 rfl ?_
        exact s_iret hX hq rfl dX11_owed_22 h
theorem c_Top_owed {a0 : Int32} {a1 : Int32} {M : Mem} {Q : Int32 → Mem → Prop} (h : w_Top_owed a0 a1 M Q) : CI yX11_owed cX11_owed 3 ((some .int)) 6 0 0 LY LY [vr c_xx, vi a0, vi a1] M Q := mk_i rfl wd_co_X11_owed rfl rfl (Nat.le_of_ble_eq_true rfl) (fun X hX hq => t_Top_owed hX hq h)
theorem mv_Top_owed : MV yX11_owed cX11_owed 3 ((some .int)) RX11 2 := ⟨wd_co_X11_owed, wd_im_X11_owed, wd_se_X11_owed, wd_in_X11, by decide +kernel, by decide⟩
def w_Hist_dropOldest (M : Mem) (Q : Mem → Prop) : Prop :=
  Q (sa (sa (sa (si M c_history Hist_size 19) c_history_birds (va_cpy (M.1 c_history_birds) (M.1 c_history_birds) (Int32.toNatClampNeg 1) (Int32.toNatClampNeg 0) (Int32.toNatClampNeg 19))) c_history_hours (va_cpy (M.1 c_history_hours) (M.1 c_history_hours) (Int32.toNatClampNeg 1) (Int32.toNatClampNeg 0) (Int32.toNatClampNeg 19))) c_history_before (va_cpy (M.1 c_history_before) (M.1 c_history_before) (Int32.toNatClampNeg 1) (Int32.toNatClampNeg 0) (Int32.toNatClampNeg 19)))
set_option maxHeartbeats 4000000 in
theorem t_Hist_dropOldest {X : Cx} (hX : Cok X cX3_dropOldest RX3 1 none 1 0 0) {Q : Mem → Prop} (hq : RV X 0 0 LY Q) {M : Mem} (h : w_Hist_dropOldest M Q) : Wat X 0 0 LY 0 [some (vr c_history)] [] M := by
  refine s_aload_n hX dX3_dropOldest_0 rfl ?_
  refine s_bipush (v := 19) hX dX3_dropOldest_1 rfl ?_
  refine s_puti hX fi_X3_21 fp_X3 rfl (by decide +kernel) ly_c_history rfl dX3_dropOldest_3 ?_
  refine s_aload_n hX dX3_dropOldest_6 rfl ?_
  refine s_getr hX fi_X3_11 ly_c_history rfl dX3_dropOldest_7 ?_
  refine s_iconst (v := 1) hX dX3_dropOldest_10 rfl ?_
  refine s_aload_n hX dX3_dropOldest_11 rfl ?_
  refine s_getr hX fi_X3_11 ly_c_history rfl dX3_dropOldest_12 ?_
  refine s_iconst (v := 0) hX dX3_dropOldest_15 rfl ?_
  refine s_aload_n hX dX3_dropOldest_16 rfl ?_
  refine s_getiv (v := 19) hX fi_X3_21 ly_c_history rfl dX3_dropOldest_17 rfl ?_
  refine s_acopy hX ly_c_history_birds ly_c_history_birds wd_ml_X3_36 rfl (by decide) (Nat.le_of_ble_eq_true rfl) (by decide) (by decide) (by decide) (by decide) (by decide) dX3_dropOldest_20 ?_
  refine s_aload_n hX dX3_dropOldest_23 rfl ?_
  refine s_getr hX fi_X3_15 ly_c_history rfl dX3_dropOldest_24 ?_
  refine s_iconst (v := 1) hX dX3_dropOldest_27 rfl ?_
  refine s_aload_n hX dX3_dropOldest_28 rfl ?_
  refine s_getr hX fi_X3_15 ly_c_history rfl dX3_dropOldest_29 ?_
  refine s_iconst (v := 0) hX dX3_dropOldest_32 rfl ?_
  refine s_aload_n hX dX3_dropOldest_33 rfl ?_
  refine s_getiv (v := 19) hX fi_X3_21 ly_c_history rfl dX3_dropOldest_34 rfl ?_
  refine s_acopy hX ly_c_history_hours ly_c_history_hours wd_ml_X3_36 rfl (by decide) (Nat.le_of_ble_eq_true rfl) (by decide) (by decide) (by decide) (by decide) (by decide) dX3_dropOldest_37 ?_
  refine s_aload_n hX dX3_dropOldest_40 rfl ?_
  refine s_getr hX fi_X3_18 ly_c_history rfl dX3_dropOldest_41 ?_
  refine s_iconst (v := 1) hX dX3_dropOldest_44 rfl ?_
  refine s_aload_n hX dX3_dropOldest_45 rfl ?_
  refine s_getr hX fi_X3_18 ly_c_history rfl dX3_dropOldest_46 ?_
  refine s_iconst (v := 0) hX dX3_dropOldest_49 rfl ?_
  refine s_aload_n hX dX3_dropOldest_50 rfl ?_
  refine s_getiv (v := 19) hX fi_X3_21 ly_c_history rfl dX3_dropOldest_51 rfl ?_
  refine s_acopy hX ly_c_history_before ly_c_history_before wd_ml_X3_36 rfl (by decide) (Nat.le_of_ble_eq_true rfl) (by decide) (by decide) (by decide) (by decide) (by decide) dX3_dropOldest_54 ?_
  exact s_vret hX hq rfl dX3_dropOldest_57 h
theorem c_Hist_dropOldest {M : Mem} {Q : Mem → Prop} (h : w_Hist_dropOldest M Q) : CV yX3_dropOldest cX3_dropOldest 1 none 1 0 0 LY LY [vr c_history] M Q := mk_v rfl wd_co_X3_dropOldest rfl rfl (Nat.le_of_ble_eq_true rfl) (fun X hX hq => t_Hist_dropOldest hX hq h)
theorem mv_Hist_dropOldest : MV yX3_dropOldest cX3_dropOldest 1 none RX3 0 := ⟨wd_co_X3_dropOldest, wd_im_X3_dropOldest, wd_se_X3_dropOldest, wd_in_X3, by decide +kernel, by decide⟩
def w_Hist_remember_j13 (l1 : Int32) (l2 : Int32) (l3 : Int32) (M : Mem) (Q : Mem → Prop) : Prop :=
  (vp_in (M.1 c_history Hist_size) 20 ∧ (vp_in (M.1 c_history Hist_size) 20 ∧ (vp_in (M.1 c_history Hist_size) 20 ∧ Q (si (si (si (si M c_history_birds (Int32.toNatClampNeg (M.1 c_history Hist_size)) l1) c_history_hours (Int32.toNatClampNeg (M.1 c_history Hist_size)) l2) c_history_before (Int32.toNatClampNeg (M.1 c_history Hist_size)) l3) c_history Hist_size ((M.1 c_history Hist_size) + 1)))))
set_option maxHeartbeats 4000000 in
theorem t_Hist_remember_j13 {X : Cx} (hX : Cok X cX3_remember RX3 4 none 2 0 0) {Q : Mem → Prop} (hq : RV X 0 0 LY Q) {l1 : Int32} {l2 : Int32} {l3 : Int32} {M : Mem} (h : w_Hist_remember_j13 l1 l2 l3 M Q) : Wat X 0 0 LY 13 [some (vr c_history), some (vi l1), some (vi l2), some (vi l3)] [] M := by
  refine s_aload_n hX dX3_remember_13 rfl ?_
  refine s_getr hX fi_X3_11 ly_c_history rfl dX3_remember_14 ?_
  refine s_aload_n hX dX3_remember_17 rfl ?_
  refine s_getiv (v := (M.1 c_history Hist_size)) hX fi_X3_21 ly_c_history rfl dX3_remember_18 rfl ?_
  refine s_iload_n hX dX3_remember_21 rfl ?_
  have hi := h.1
  replace h := h.2
  refine s_iast hX ly_c_history_birds hi dX3_remember_22 ?_
  refine s_aload_n hX dX3_remember_23 rfl ?_
  refine s_getr hX fi_X3_15 ly_c_history rfl dX3_remember_24 ?_
  refine s_aload_n hX dX3_remember_27 rfl ?_
  refine s_getiv (v := (M.1 c_history Hist_size)) hX fi_X3_21 ly_c_history rfl dX3_remember_28 rfl ?_
  refine s_iload_n hX dX3_remember_31 rfl ?_
  have hi := h.1
  replace h := h.2
  refine s_iast hX ly_c_history_hours hi dX3_remember_32 ?_
  refine s_aload_n hX dX3_remember_33 rfl ?_
  refine s_getr hX fi_X3_18 ly_c_history rfl dX3_remember_34 ?_
  refine s_aload_n hX dX3_remember_37 rfl ?_
  refine s_getiv (v := (M.1 c_history Hist_size)) hX fi_X3_21 ly_c_history rfl dX3_remember_38 rfl ?_
  refine s_iload_n hX dX3_remember_41 rfl ?_
  have hi := h.1
  replace h := h.2
  refine s_iast hX ly_c_history_before hi dX3_remember_42 ?_
  refine s_aload_n hX dX3_remember_43 rfl ?_
  refine s_dup hX dX3_remember_44 rfl ?_
  refine s_getiv (v := (M.1 c_history Hist_size)) hX fi_X3_21 ly_c_history rfl dX3_remember_45 rfl ?_
  refine s_iconst (v := 1) hX dX3_remember_48 rfl ?_
  refine s_iadd hX dX3_remember_49 ?_
  refine s_puti hX fi_X3_21 fp_X3 rfl (by decide +kernel) ly_c_history rfl dX3_remember_50 ?_
  exact s_vret hX hq rfl dX3_remember_53 h
def w_Hist_remember (a0 : Int32) (a1 : Int32) (a2 : Int32) (M : Mem) (Q : Mem → Prop) : Prop :=
  (((M.1 c_history Hist_size) < 20 → w_Hist_remember_j13 a0 a1 a2 M Q) ∧ (¬ (M.1 c_history Hist_size) < 20 → w_Hist_dropOldest M (fun M412 => w_Hist_remember_j13 a0 a1 a2 M412 Q)))
set_option maxHeartbeats 4000000 in
theorem t_Hist_remember {X : Cx} (hX : Cok X cX3_remember RX3 4 none 2 0 0) {Q : Mem → Prop} (hq : RV X 0 0 LY Q) {M : Mem} {a0 : Int32} {a1 : Int32} {a2 : Int32} (h : w_Hist_remember a0 a1 a2 M Q) : Wat X 0 0 LY 0 [some (vr c_history), some (vi a0), some (vi a1), some (vi a2)] [] M := by
  refine s_aload_n hX dX3_remember_0 rfl ?_
  refine s_getiv (v := (M.1 c_history Hist_size)) hX fi_X3_21 ly_c_history rfl dX3_remember_1 rfl ?_
  refine s_bipush (v := 20) hX dX3_remember_4 rfl ?_
  refine s_icmp_lt (tgt := 13) hX dX3_remember_6 (by decide) (fun c => ?_) (fun c => ?_)
  · replace h := h.1 c
    exact t_Hist_remember_j13 hX hq h
  · replace h := h.2 c
    refine s_aload_n hX dX3_remember_9 rfl ?_
    refine s_cvv (as := []) (rest := []) hX (c_Hist_dropOldest h) mv_Hist_dropOldest wd_ml_X3_25 dX3_remember_10 ly_c_history rfl rfl (Nat.le_of_ble_eq_true rfl) rfl (by decide) ⟨Nat.zero_le _, Nat.zero_le _⟩ (fun M412 h => ?_)
    exact t_Hist_remember_j13 hX hq h
theorem c_Hist_remember {a0 : Int32} {a1 : Int32} {a2 : Int32} {M : Mem} {Q : Mem → Prop} (h : w_Hist_remember a0 a1 a2 M Q) : CV yX3_remember cX3_remember 4 none 2 0 0 LY LY [vr c_history, vi a0, vi a1, vi a2] M Q := mk_v rfl wd_co_X3_remember rfl rfl (Nat.le_of_ble_eq_true rfl) (fun X hX hq => t_Hist_remember hX hq h)
theorem mv_Hist_remember : MV yX3_remember cX3_remember 4 none RX3 3 := ⟨wd_co_X3_remember, wd_im_X3_remember, wd_se_X3_remember, wd_in_X3, by decide +kernel, by decide⟩
def w_Deeds_callCount_L4 (K : Int32 → Mem → Prop) (Q : Int32 → Mem → Prop) : Nat → Int32 → Int32 → Mem → Prop
  | 0, _, _, _ => False
  | n + 1, l1, l2, M => ((120 ≤ l2 → K l1 M) ∧ (¬ 120 ≤ l2 → (vp_in l2 120 ∧ ∀ x414 : Int32, x414 = (l1 + (if (M.1 c_deeds_times (Int32.toNatClampNeg l2)) = 0 then (0 : Int32) else 1)) → w_Deeds_callCount_L4 K Q n x414 (l2 + 1) M)))
set_option maxHeartbeats 4000000 in
theorem t_Deeds_callCount_L4 {X : Cx} (hX : Cok X cX1_callCount RX1 3 ((some .int)) 1 0 0) {Q : Int32 → Mem → Prop} (hq : RI X 0 0 LY Q) {K : Int32 → Mem → Prop} (hK : ∀ (l1 : Int32) (M : Mem), K l1 M → Wat X 0 0 LY 36 [none, some (vi l1), none] [] M) : ∀ (n : Nat) (l1 : Int32) (l2 : Int32) (M : Mem), w_Deeds_callCount_L4 K Q n l1 l2 M → Wat X 0 0 LY 4 [some (vr c_deeds), some (vi l1), some (vi l2)] [] M := by
  intro n
  induction n with
  | zero => intro _ _ _ h; exact h.elim
  | succ n ih =>
    intro l1 l2 M h
    refine s_iload_n hX dX1_callCount_4 rfl ?_
    refine s_aload_n hX dX1_callCount_5 rfl ?_
    refine s_getr hX fi_X1_9 ly_c_deeds rfl dX1_callCount_6 ?_
    refine s_alen (v := 120) hX ly_c_deeds_times (by decide) rfl dX1_callCount_9 ?_
    refine s_icmp_ge (tgt := 36) hX dX1_callCount_10 (by decide) (fun c => ?_) (fun c => ?_)
    · replace h := h.1 c
      refine s_mask [false, true, false] (lv' := [none, some (vi l1), none]) rfl rfl ?_
      exact hK _ _ h
    · replace h := h.2 c
      refine s_iload_n hX dX1_callCount_13 rfl ?_
      refine s_aload_n hX dX1_callCount_14 rfl ?_
      refine s_getr hX fi_X1_9 ly_c_deeds rfl dX1_callCount_15 ?_
      refine s_iload_n hX dX1_callCount_18 rfl ?_
      have hi := h.1
      replace h := h.2
      refine s_ialdv (v := (M.1 c_deeds_times (Int32.toNatClampNeg l2))) hX ly_c_deeds_times hi dX1_callCount_19 rfl ?_
      have hJ : Wat X 0 0 LY 28 [some (vr c_deeds), some (vi l1), some (vi l2)] [vi (if (M.1 c_deeds_times (Int32.toNatClampNeg l2)) = 0 then (0 : Int32) else 1), vi l1] M := by
        refine s_iadd hX dX1_callCount_28 ?_
        refine s_nmi (fun x414 ex414 => ?_)
        replace h := h x414 ex414
        refine s_istore_n (lv' := [some (vr c_deeds), some (vi x414), some (vi l2)]) hX dX1_callCount_29 rfl rfl (Nat.le_of_ble_eq_true rfl) ?_
        refine s_iinc (v := (l2 + 1)) (lv' := [some (vr c_deeds), some (vi x414), some (vi (l2 + 1))]) hX dX1_callCount_30 rfl rfl rfl rfl ?_
        refine s_goto (tgt := 4) hX dX1_callCount_33 (by decide) ?_
        exact ih _ _ _ h
      refine s_if_eq (tgt := 27) hX dX1_callCount_20 (by decide) (fun c => ?_) (fun c => ?_)
      · rw [if_pos c] at hJ
        refine s_iconst (v := 0) hX dX1_callCount_27 rfl ?_
        exact hJ
      · rw [if_neg c] at hJ
        refine s_iconst (v := 1) hX dX1_callCount_23 rfl ?_
        refine s_goto (tgt := 28) hX dX1_callCount_24 (by decide) ?_
        exact hJ
def w_Deeds_callCount (M : Mem) (Q : Int32 → Mem → Prop) : Prop :=
  (∃ n417, w_Deeds_callCount_L4 (fun y416 M415 => Q y416 M415) Q n417 0 0 M)
set_option maxHeartbeats 4000000 in
theorem t_Deeds_callCount {X : Cx} (hX : Cok X cX1_callCount RX1 3 ((some .int)) 1 0 0) {Q : Int32 → Mem → Prop} (hq : RI X 0 0 LY Q) {M : Mem} (h : w_Deeds_callCount M Q) : Wat X 0 0 LY 0 [some (vr c_deeds), none, none] [] M := by
  refine s_iconst (v := 0) hX dX1_callCount_0 rfl ?_
  refine s_istore_n (lv' := [some (vr c_deeds), some (vi 0), none]) hX dX1_callCount_1 rfl rfl (Nat.le_of_ble_eq_true rfl) ?_
  refine s_iconst (v := 0) hX dX1_callCount_2 rfl ?_
  refine s_istore_n (lv' := [some (vr c_deeds), some (vi 0), some (vi 0)]) hX dX1_callCount_3 rfl rfl (Nat.le_of_ble_eq_true rfl) ?_
  obtain ⟨n417, h⟩ := h
  refine t_Deeds_callCount_L4 hX hq ?_ n417 _ _ _ h
  intro y416 M415 h
  refine s_iload_n hX dX1_callCount_36 rfl ?_
  exact s_iret hX hq rfl dX1_callCount_37 h
theorem c_Deeds_callCount {M : Mem} {Q : Int32 → Mem → Prop} (h : w_Deeds_callCount M Q) : CI yX1_callCount cX1_callCount 3 ((some .int)) 1 0 0 LY LY [vr c_deeds] M Q := mk_i rfl wd_co_X1_callCount rfl rfl (Nat.le_of_ble_eq_true rfl) (fun X hX hq => t_Deeds_callCount hX hq h)
theorem mv_Deeds_callCount : MV yX1_callCount cX1_callCount 3 ((some .int)) RX1 0 := ⟨wd_co_X1_callCount, wd_im_X1_callCount, wd_se_X1_callCount, wd_in_X1, by decide +kernel, by decide⟩
