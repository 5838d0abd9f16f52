def w_Tape_addBytes_j48 (R : Int32 → Mem → Prop) (K : Mem → Prop) (l1 : Int64) (l3 : Int32) (l4 : Int32) (M : Mem) (Q : Mem → Prop) : Prop :=
  (vp_in (M.1 c_tape Tape_length) 1000 ∧ R (l3 + (-8)) (si (si M c_tape_signs (Int32.toNatClampNeg (M.1 c_tape Tape_length)) (vp_nar .char (Int32.toUInt32 l4 % 65536).toInt32)) c_tape Tape_length ((M.1 c_tape Tape_length) + 1)))
set_option maxHeartbeats 4000000 in
theorem t_Tape_addBytes_j48 {X : Cx} (hX : Cok X cX10_addBytes RX10 5 none 1 0 0) {Q : Mem → Prop} (hq : RV X 0 0 LY Q) {l1 : Int64} {R : Int32 → Mem → Prop} {K : Mem → Prop} (hR : ∀ (l3 : Int32) (M : Mem), R l3 M → Wat X 0 0 LY 3 [some (vr c_tape), some (vl l1), none, some (vi l3), none] [] M) (hK : ∀ (M : Mem), K M → Wat X 0 0 LY 76 [none, none, none, none, none] [] M) {l3 : Int32} {l4 : Int32} {M : Mem} (h : w_Tape_addBytes_j48 R K l1 l3 l4 M Q) : Wat X 0 0 LY 48 [some (vr c_tape), some (vl l1), none, some (vi l3), some (vi l4)] [] M := by
  refine s_aload_n hX dX10_addBytes_48 rfl ?_
  refine s_getr hX fi_X10_9 ly_c_tape rfl dX10_addBytes_49 ?_
  refine s_aload_n hX dX10_addBytes_52 rfl ?_
  refine s_getiv (v := (M.1 c_tape Tape_length)) hX fi_X10_33 ly_c_tape rfl dX10_addBytes_53 rfl ?_
  refine s_iload hX dX10_addBytes_56 rfl ?_
  refine s_i2c hX dX10_addBytes_58 ?_
  have hi := h.1
  replace h := h.2
  refine s_cast hX ly_c_tape_signs hi dX10_addBytes_59 ?_
  refine s_aload_n hX dX10_addBytes_60 rfl ?_
  refine s_dup hX dX10_addBytes_61 rfl ?_
  refine s_getiv (v := (M.1 c_tape Tape_length)) hX fi_X10_33 ly_c_tape rfl dX10_addBytes_62 rfl ?_
  refine s_iconst (v := 1) hX dX10_addBytes_65 rfl ?_
  refine s_iadd hX dX10_addBytes_66 ?_
  refine s_puti hX fi_X10_33 fp_X10 rfl (by decide +kernel) ly_c_tape rfl dX10_addBytes_67 ?_
  refine s_iinc (v := (l3 + (-8))) (lv' := [some (vr c_tape), some (vl l1), none, some (vi (l3 + (-8))), some (vi l4)]) hX dX10_addBytes_70 rfl rfl rfl rfl ?_
  refine s_goto (tgt := 3) hX dX10_addBytes_73 (by decide) ?_
  refine s_mask [true, true, true, true, false] (lv' := [some (vr c_tape), some (vl l1), none, some (vi (l3 + (-8))), none]) rfl rfl ?_
  exact hR _ _ h
def w_Tape_addBytes_L3 (l1 : Int64) (K : Mem → Prop) (Q : Mem → Prop) : Nat → Int32 → Mem → Prop
  | 0, _, _ => False
  | n + 1, l3, M => ((l3 < 0 → K M) ∧ (¬ l3 < 0 → ∀ x1 : Int32, x1 = (Int64.toInt32 ((Int64.toUInt64 l1 >>> (Int64.toUInt64 (Int32.toInt64 l3) &&& Int64.toUInt64 63)).toInt64 &&& 255)) → ((1000 ≤ (M.1 c_tape Tape_length) → w_Tape_addBytes_L3 l1 K Q n (l3 + (-8)) M) ∧ (¬ 1000 ≤ (M.1 c_tape Tape_length) → ((x1 = 10 → w_Tape_addBytes_j48 (fun l3 M => w_Tape_addBytes_L3 l1 K Q n l3 M) K l1 l3 x1 M Q) ∧ (¬ x1 = 10 → ((x1 < 32 → w_Tape_addBytes_L3 l1 K Q n (l3 + (-8)) M) ∧ (¬ x1 < 32 → ((126 < x1 → w_Tape_addBytes_L3 l1 K Q n (l3 + (-8)) M) ∧ (¬ 126 < x1 → w_Tape_addBytes_j48 (fun l3 M => w_Tape_addBytes_L3 l1 K Q n l3 M) K l1 l3 x1 M Q))))))))))
set_option maxHeartbeats 4000000 in
theorem t_Tape_addBytes_L3 {X : Cx} (hX : Cok X cX10_addBytes RX10 5 none 1 0 0) {Q : Mem → Prop} (hq : RV X 0 0 LY Q) {l1 : Int64} {K : Mem → Prop} (hK : ∀ (M : Mem), K M → Wat X 0 0 LY 76 [none, none, none, none, none] [] M) : ∀ (n : Nat) (l3 : Int32) (M : Mem), w_Tape_addBytes_L3 l1 K Q n l3 M → Wat X 0 0 LY 3 [some (vr c_tape), some (vl l1), none, some (vi l3), none] [] M := by
  intro n
  induction n with
  | zero => intro _ _ h; exact h.elim
  | succ n ih =>
    intro l3 M h
    refine s_iload_n hX dX10_addBytes_3 rfl ?_
    refine s_if_lt (tgt := 76) hX dX10_addBytes_4 (by decide) (fun c => ?_) (fun c => ?_)
    · replace h := h.1 c
      refine s_mask [false, false, true, false, true] (lv' := [none, none, none, none, none]) rfl rfl ?_
      exact hK _ h
    · replace h := h.2 c
      refine s_lload_n hX dX10_addBytes_7 rfl ?_
      refine s_iload_n hX dX10_addBytes_8 rfl ?_
      refine s_lushr hX dX10_addBytes_9 ?_
      refine s_ldc2 hX wd_cj_X10_31 dX10_addBytes_10 ?_
      refine s_land hX dX10_addBytes_13 ?_
      refine s_l2i hX dX10_addBytes_14 ?_
      refine s_nmi (fun x1 ex1 => ?_)
      replace h := h x1 ex1
      refine s_istore (lv' := [some (vr c_tape), some (vl l1), none, some (vi l3), some (vi x1)]) hX dX10_addBytes_15 rfl rfl (Nat.le_of_ble_eq_true rfl) ?_
      refine s_aload_n hX dX10_addBytes_17 rfl ?_
      refine s_getiv (v := (M.1 c_tape Tape_length)) hX fi_X10_33 ly_c_tape rfl dX10_addBytes_18 rfl ?_
      refine s_sipush (v := 1000) hX dX10_addBytes_21 rfl ?_
      refine s_icmp_ge (tgt := 70) hX dX10_addBytes_24 (by decide) (fun c => ?_) (fun c => ?_)
      · replace h := h.1 c
        refine s_iinc (v := (l3 + (-8))) (lv' := [some (vr c_tape), some (vl l1), none, some (vi (l3 + (-8))), some (vi x1)]) hX dX10_addBytes_70 rfl rfl rfl rfl ?_
        refine s_goto (tgt := 3) hX dX10_addBytes_73 (by decide) ?_
        refine s_mask [true, true, true, true, false] (lv' := [some (vr c_tape), some (vl l1), none, some (vi (l3 + (-8))), none]) rfl rfl ?_
        exact ih _ _ h
      · replace h := h.2 c
        refine s_iload hX dX10_addBytes_27 rfl ?_
        refine s_bipush (v := 10) hX dX10_addBytes_29 rfl ?_
        refine s_icmp_eq (tgt := 48) hX dX10_addBytes_31 (by decide) (fun c => ?_) (fun c => ?_)
        · replace h := h.1 c
          exact t_Tape_addBytes_j48 hX hq (fun _ _ h => ih _ _ h) hK h
        · replace h := h.2 c
          refine s_iload hX dX10_addBytes_34 rfl ?_
          refine s_bipush (v := 32) hX dX10_addBytes_36 rfl ?_
          refine s_icmp_lt (tgt := 70) hX dX10_addBytes_38 (by decide) (fun c => ?_) (fun c => ?_)
          · replace h := h.1 c
            refine s_iinc (v := (l3 + (-8))) (lv' := [some (vr c_tape), some (vl l1), none, some (vi (l3 + (-8))), some (vi x1)]) hX dX10_addBytes_70 rfl rfl rfl rfl ?_
            refine s_goto (tgt := 3) hX dX10_addBytes_73 (by decide) ?_
            refine s_mask [true, true, true, true, false] (lv' := [some (vr c_tape), some (vl l1), none, some (vi (l3 + (-8))), none]) rfl rfl ?_
            exact ih _ _ h
          · replace h := h.2 c
            refine s_iload hX dX10_addBytes_41 rfl ?_
            refine s_bipush (v := 126) hX dX10_addBytes_43 rfl ?_
            refine s_icmp_gt (tgt := 70) hX dX10_addBytes_45 (by decide) (fun c => ?_) (fun c => ?_)
            · replace h := h.1 c
              refine s_iinc (v := (l3 + (-8))) (lv' := [some (vr c_tape), some (vl l1), none, some (vi (l3 + (-8))), some (vi x1)]) hX dX10_addBytes_70 rfl rfl rfl rfl ?_
              refine s_goto (tgt := 3) hX dX10_addBytes_73 (by decide) ?_
              refine s_mask [true, true, true, true, false] (lv' := [some (vr c_tape), some (vl l1), none, some (vi (l3 + (-8))), none]) rfl rfl ?_
              exact ih _ _ h
            · replace h := h.2 c
              exact t_Tape_addBytes_j48 hX hq (fun _ _ h => ih _ _ h) hK h
def w_Tape_addBytes (a0 : Int64) (M : Mem) (Q : Mem → Prop) : Prop :=
  (∃ n3, w_Tape_addBytes_L3 a0 (fun M2 => Q M2) Q n3 56 M)
set_option maxHeartbeats 4000000 in
theorem t_Tape_addBytes {X : Cx} (hX : Cok X cX10_addBytes RX10 5 none 1 0 0) {Q : Mem → Prop} (hq : RV X 0 0 LY Q) {M : Mem} {a0 : Int64} (h : w_Tape_addBytes a0 M Q) : Wat X 0 0 LY 0 [some (vr c_tape), some (vl a0), none, none, none] [] M := by
  refine s_bipush (v := 56) hX dX10_addBytes_0 rfl ?_
  refine s_istore_n (lv' := [some (vr c_tape), some (vl a0), none, some (vi 56), none]) hX dX10_addBytes_2 rfl rfl (Nat.le_of_ble_eq_true rfl) ?_
  obtain ⟨n3, h⟩ := h
  refine t_Tape_addBytes_L3 hX hq ?_ n3 _ _ h
  intro M2 h
  exact s_vret hX hq rfl dX10_addBytes_76 h
theorem c_Tape_addBytes {a0 : Int64} {M : Mem} {Q : Mem → Prop} (h : w_Tape_addBytes a0 M Q) : CV yX10_addBytes cX10_addBytes 5 none 1 0 0 LY LY [vr c_tape, vl a0] M Q := mk_v rfl wd_co_X10_addBytes rfl rfl (Nat.le_of_ble_eq_true rfl) (fun X hX hq => t_Tape_addBytes hX hq h)
theorem mv_Tape_addBytes : MV yX10_addBytes cX10_addBytes 5 none RX10 1 := ⟨wd_co_X10_addBytes, wd_im_X10_addBytes, wd_se_X10_addBytes, wd_in_X10, by decide +kernel, by decide⟩
def w_Top_feed (a0 : Int64) (a1 : Int64) (a2 : Int64) (M : Mem) (Q : Int32 → Mem → Prop) : Prop :=
  w_Tape_addBytes a0 M (fun M4 => w_Tape_addBytes a1 M4 (fun M5 => w_Tape_addBytes a2 M5 (fun M6 => Q (M6.1 c_tape Tape_length) M6)))
set_option maxHeartbeats 4000000 in
theorem t_Top_feed {X : Cx} (hX : Cok X cX11_feed RX11 7 ((some .int)) 2 0 0) {Q : Int32 → Mem → Prop} (hq : RI X 0 0 LY Q) {M : Mem} {a0 : Int64} {a1 : Int64} {a2 : Int64} (h : w_Top_feed a0 a1 a2 M Q) : Wat X 0 0 LY 0 [some (vr c_xx), some (vl a0), none, some (vl a1), none, some (vl a2), none] [] M := by
  refine s_aload_n hX dX11_feed_0 rfl ?_
  refine s_getr hX fi_X11_10 ly_c_xx rfl dX11_feed_1 ?_
  refine s_lload_n hX dX11_feed_4 rfl ?_
  refine s_cvv (as := [vl a0]) (rest := []) hX (c_Tape_addBytes h) mv_Tape_addBytes wd_ml_X11_85 dX11_feed_5 ly_c_tape rfl rfl (Nat.le_of_ble_eq_true rfl) rfl (by decide) ⟨Nat.zero_le _, Nat.zero_le _⟩ (fun M4 h => ?_)
  refine s_aload_n hX dX11_feed_8 rfl ?_
  refine s_getr hX fi_X11_10 ly_c_xx rfl dX11_feed_9 ?_
  refine s_lload_n hX dX11_feed_12 rfl ?_
  refine s_cvv (as := [vl a1]) (rest := []) hX (c_Tape_addBytes h) mv_Tape_addBytes wd_ml_X11_85 dX11_feed_13 ly_c_tape rfl rfl (Nat.le_of_ble_eq_true rfl) rfl (by decide) ⟨Nat.zero_le _, Nat.zero_le _⟩ (fun M5 h => ?_)
  refine s_aload_n hX dX11_feed_16 rfl ?_
  refine s_getr hX fi_X11_10 ly_c_xx rfl dX11_feed_17 ?_
  refine s_lload hX dX11_feed_20 rfl ?_
  refine s_cvv (as := [vl a2]) (rest := []) hX (c_Tape_addBytes h) mv_Tape_addBytes wd_ml_X11_85 dX11_feed_22 ly_c_tape rfl rfl (Nat.le_of_ble_eq_true rfl) rfl (by decide) ⟨Nat.zero_le _, Nat.zero_le _⟩ (fun M6 h => ?_)
  refine s_aload_n hX dX11_feed_25 rfl ?_
  refine s_getr hX fi_X11_10 ly_c_xx rfl dX11_feed_26 ?_
  refine s_getiv (v := (M6.1 c_tape Tape_length)) hX fi_X11_89 ly_c_tape rfl dX11_feed_29 rfl ?_
  exact s_iret hX hq rfl dX11_feed_32 h
theorem c_Top_feed {a0 : Int64} {a1 : Int64} {a2 : Int64} {M : Mem} {Q : Int32 → Mem → Prop} (h : w_Top_feed a0 a1 a2 M Q) : CI yX11_feed cX11_feed 7 ((some .int)) 2 0 0 LY LY [vr c_xx, vl a0, vl a1, vl a2] M Q := mk_i rfl wd_co_X11_feed rfl rfl (Nat.le_of_ble_eq_true rfl) (fun X hX hq => t_Top_feed hX hq h)
theorem mv_Top_feed : MV yX11_feed cX11_feed 7 ((some .int)) RX11 3 := ⟨wd_co_X11_feed, wd_im_X11_feed, wd_se_X11_feed, wd_in_X11, by decide +kernel, by decide⟩
def w_Jarr_fill_L5 (l1 : Int32) (l3 : Int32) (K : Mem → Prop) (Q : Mem → Prop) : Nat → Int32 → Mem → Prop
  | 0, _, _ => False
  | n + 1, l2, M => ((l3 ≤ l2 → K M) ∧ (¬ l3 ≤ l2 → (vp_in l2 120 ∧ w_Jarr_fill_L5 l1 l3 K Q n (l2 + 1) (si M c_draft_times (Int32.toNatClampNeg l2) l1))))
set_option maxHeartbeats 4000000 in
theorem t_Jarr_fill_L5 {X : Cx} (hX : Cok X cJ7_fill_53178 RJ7 4 none 1 0 0) {Q : Mem → Prop} (hq : RV X 0 0 LY Q) {l1 : Int32} {l3 : Int32} {K : Mem → Prop} (hK : ∀ (M : Mem), K M → Wat X 0 0 LY 20 [none, none, none, none] [] M) : ∀ (n : Nat) (l2 : Int32) (M : Mem), w_Jarr_fill_L5 l1 l3 K Q n l2 M → Wat X 0 0 LY 5 [some (vr c_draft_times), some (vi l1), some (vi l2), some (vi l3)] [] M := by
  intro n
  induction n with
  | zero => intro _ _ h; exact h.elim
  | succ n ih =>
    intro l2 M h
    refine s_iload_n hX dJ7_fill_53178_5 rfl ?_
    refine s_iload_n hX dJ7_fill_53178_6 rfl ?_
    refine s_icmp_ge (tgt := 20) hX dJ7_fill_53178_7 (by decide) (fun c => ?_) (fun c => ?_)
    · replace h := h.1 c
      refine s_mask [false, false, false, false] (lv' := [none, none, none, none]) rfl rfl ?_
      exact hK _ h
    · replace h := h.2 c
      refine s_aload_n hX dJ7_fill_53178_10 rfl ?_
      refine s_iload_n hX dJ7_fill_53178_11 rfl ?_
      refine s_iload_n hX dJ7_fill_53178_12 rfl ?_
      have hi := h.1
      replace h := h.2
      refine s_iast hX ly_c_draft_times hi dJ7_fill_53178_13 ?_
      refine s_iinc (v := (l2 + 1)) (lv' := [some (vr c_draft_times), some (vi l1), some (vi (l2 + 1)), some (vi l3)]) hX dJ7_fill_53178_14 rfl rfl rfl rfl ?_
      refine s_goto (tgt := 5) hX dJ7_fill_53178_17 (by decide) ?_
      exact ih _ _ h
def w_Jarr_fill (a0 : Int32) (M : Mem) (Q : Mem → Prop) : Prop :=
  (∃ n8, w_Jarr_fill_L5 a0 120 (fun M7 => Q M7) Q n8 0 M)
set_option maxHeartbeats 4000000 in
theorem t_Jarr_fill {X : Cx} (hX : Cok X cJ7_fill_53178 RJ7 4 none 1 0 0) {Q : Mem → Prop} (hq : RV X 0 0 LY Q) {M : Mem} {a0 : Int32} (h : w_Jarr_fill a0 M Q) : Wat X 0 0 LY 0 [some (vr c_draft_times), some (vi a0), none, none] [] M := by
  refine s_iconst (v := 0) hX dJ7_fill_53178_0 rfl ?_
  refine s_istore_n (lv' := [some (vr c_draft_times), some (vi a0), some (vi 0), none]) hX dJ7_fill_53178_1 rfl rfl (Nat.le_of_ble_eq_true rfl) ?_
  refine s_aload_n hX dJ7_fill_53178_2 rfl ?_
  refine s_alen (v := 120) hX ly_c_draft_times (by decide) rfl dJ7_fill_53178_3 ?_
  refine s_istore_n (lv' := [some (vr c_draft_times), some (vi a0), some (vi 0), some (vi 120)]) hX dJ7_fill_53178_4 rfl rfl (Nat.le_of_ble_eq_true rfl) ?_
  obtain ⟨n8, h⟩ := h
  refine t_Jarr_fill_L5 hX hq ?_ n8 _ _ h
  intro M7 h
  exact s_vret hX hq rfl dJ7_fill_53178_20 h
theorem c_Jarr_fill {a0 : Int32} {M : Mem} {Q : Mem → Prop} (h : w_Jarr_fill a0 M Q) : CV yJ7_fill_53178 cJ7_fill_53178 4 none 1 0 0 LY LY [vr c_draft_times, vi a0] M Q := mk_v rfl wd_co_J7_fill_53178 rfl rfl (Nat.le_of_ble_eq_true rfl) (fun X hX hq => t_Jarr_fill hX hq h)
theorem ms_Jarr_fill : MS yJ7_fill_53178 cJ7_fill_53178 4 none 2 := ⟨wd_co_J7_fill_53178, wd_sm_J7_fill_53178, wd_in_J7, by decide +kernel, by decide⟩
def w_Land_addStep (a0 : Int32) (M : Mem) (Q : Mem → Prop) : Prop :=
  (((M.1 c_draft Land_codeLength) < 0 → Q M) ∧ (¬ (M.1 c_draft Land_codeLength) < 0 → ((1024 ≤ (M.1 c_draft Land_codeLength) → Q M) ∧ (¬ 1024 ≤ (M.1 c_draft Land_codeLength) → (vp_in (M.1 c_draft Land_codeLength) 1024 ∧ Q (si (si M c_draft_code (Int32.toNatClampNeg (M.1 c_draft Land_codeLength)) a0) c_draft Land_codeLength ((M.1 c_draft Land_codeLength) + 1)))))))
set_option maxHeartbeats 4000000 in
theorem t_Land_addStep {X : Cx} (hX : Cok X cX5_addStep RX5 2 none 1 0 0) {Q : Mem → Prop} (hq : RV X 0 0 LY Q) {M : Mem} {a0 : Int32} (h : w_Land_addStep a0 M Q) : Wat X 0 0 LY 0 [some (vr c_draft), some (vi a0)] [] M := by
  refine s_aload_n hX dX5_addStep_0 rfl ?_
  refine s_getiv (v := (M.1 c_draft Land_codeLength)) hX fi_X5_67 ly_c_draft rfl dX5_addStep_1 rfl ?_
  refine s_if_lt (tgt := 37) hX dX5_addStep_4 (by decide) (fun c => ?_) (fun c => ?_)
  · replace h := h.1 c
    exact s_vret hX hq rfl dX5_addStep_37 h
  · replace h := h.2 c
    refine s_aload_n hX dX5_addStep_7 rfl ?_
    refine s_getiv (v := (M.1 c_draft Land_codeLength)) hX fi_X5_67 ly_c_draft rfl dX5_addStep_8 rfl ?_
    refine s_sipush (v := 1024) hX dX5_addStep_11 rfl ?_
    refine s_icmp_ge (tgt := 37) hX dX5_addStep_14 (by decide) (fun c => ?_) (fun c => ?_)
    · replace h := h.1 c
      exact s_vret hX hq rfl dX5_addStep_37 h
    · replace h := h.2 c
      refine s_aload_n hX dX5_addStep_17 rfl ?_
      refine s_getr hX fi_X5_27 ly_c_draft rfl dX5_addStep_18 ?_
      refine s_aload_n hX dX5_addStep_21 rfl ?_
      refine s_getiv (v := (M.1 c_draft Land_codeLength)) hX fi_X5_67 ly_c_draft rfl dX5_addStep_22 rfl ?_
      refine s_iload_n hX dX5_addStep_25 rfl ?_
      have hi := h.1
      replace h := h.2
      refine s_iast hX ly_c_draft_code hi dX5_addStep_26 ?_
      refine s_aload_n hX dX5_addStep_27 rfl ?_
      refine s_dup hX dX5_addStep_28 rfl ?_
      refine s_getiv (v := (M.1 c_draft Land_codeLength)) hX fi_X5_67 ly_c_draft rfl dX5_addStep_29 rfl ?_
      refine s_iconst (v := 1) hX dX5_addStep_32 rfl ?_
      refine s_iadd hX dX5_addStep_33 ?_
      refine s_puti hX fi_X5_67 fp_X5 rfl (by decide +kernel) ly_c_draft rfl dX5_addStep_34 ?_
      exact s_vret hX hq rfl dX5_addStep_37 h
theorem c_Land_addStep {a0 : Int32} {M : Mem} {Q : Mem → Prop} (h : w_Land_addStep a0 M Q) : CV yX5_addStep cX5_addStep 2 none 1 0 0 LY LY [vr c_draft, vi a0] M Q := mk_v rfl wd_co_X5_addStep rfl rfl (Nat.le_of_ble_eq_true rfl) (fun X hX hq => t_Land_addStep hX hq h)
theorem mv_Land_addStep : MV yX5_addStep cX5_addStep 2 none RX5 1 := ⟨wd_co_X5_addStep, wd_im_X5_addStep, wd_se_X5_addStep, wd_in_X5, by decide +kernel, by decide⟩
def w_Land_holdUntold (a0 : Int32) (M : Mem) (Q : Mem → Prop) : Prop :=
  w_Land_addStep a0 (si (si M c_draft_owe Law_isTold 0) c_draft_owe Law_from (M.1 c_draft Land_codeLength)) (fun M10 => Q (si M10 c_draft_owe Law_to (M10.1 c_draft Land_codeLength)))
set_option maxHeartbeats 4000000 in
theorem t_Land_holdUntold {X : Cx} (hX : Cok X cX5_holdUntold RX5 3 none 2 0 0) {Q : Mem → Prop} (hq : RV X 0 0 LY Q) {M : Mem} {a0 : Int32} (h : w_Land_holdUntold a0 M Q) : Wat X 0 0 LY 0 [some (vr c_draft), some (vr c_draft_owe), some (vi a0)] [] M := by
  refine s_aload_n hX dX5_holdUntold_0 rfl ?_
  refine s_iconst (v := 0) hX dX5_holdUntold_1 rfl ?_
  refine s_putz hX fi_X5_74 fp_X6 rfl (by decide +kernel) ⟨rfl, rfl⟩ ly_c_draft_owe rfl dX5_holdUntold_2 ?_
  refine s_aload_n hX dX5_holdUntold_5 rfl ?_
  refine s_aload_n hX dX5_holdUntold_6 rfl ?_
  refine s_getiv (v := (M.1 c_draft Land_codeLength)) hX fi_X5_67 ly_c_draft rfl dX5_holdUntold_7 rfl ?_
  refine s_puti hX fi_X5_78 fp_X6 rfl (by decide +kernel) ly_c_draft_owe rfl dX5_holdUntold_10 ?_
  refine s_aload_n hX dX5_holdUntold_13 rfl ?_
  refine s_iload_n hX dX5_holdUntold_14 rfl ?_
  refine s_cvv (as := [vi a0]) (rest := []) hX (c_Land_addStep h) mv_Land_addStep wd_ml_X5_81 dX5_holdUntold_15 ly_c_draft rfl rfl (Nat.le_of_ble_eq_true rfl) rfl (by decide) ⟨Nat.zero_le _, Nat.zero_le _⟩ (fun M10 h => ?_)
  refine s_aload_n hX dX5_holdUntold_18 rfl ?_
  refine s_aload_n hX dX5_holdUntold_19 rfl ?_
  refine s_getiv (v := (M10.1 c_draft Land_codeLength)) hX fi_X5_67 ly_c_draft rfl dX5_holdUntold_20 rfl ?_
  refine s_puti hX fi_X5_85 fp_X6 rfl (by decide +kernel) ly_c_draft_owe rfl dX5_holdUntold_23 ?_
  exact s_vret hX hq rfl dX5_holdUntold_26 h
theorem c_Land_holdUntold {a0 : Int32} {M : Mem} {Q : Mem → Prop} (h : w_Land_holdUntold a0 M Q) : CV yX5_holdUntold cX5_holdUntold 3 none 2 0 0 LY LY [vr c_draft, vr c_draft_owe, vi a0] M Q := mk_v rfl wd_co_X5_holdUntold rfl rfl (Nat.le_of_ble_eq_true rfl) (fun X hX hq => t_Land_holdUntold hX hq h)
theorem mv_Land_holdUntold : MV yX5_holdUntold cX5_holdUntold 3 none RX5 2 := ⟨wd_co_X5_holdUntold, wd_im_X5_holdUntold, wd_se_X5_holdUntold, wd_in_X5, by decide +kernel, by decide⟩
def w_Land_holdUntold_draft_fog (a0 : Int32) (M : Mem) (Q : Mem → Prop) : Prop :=
  w_Land_addStep a0 (si (si M c_draft_fog Law_isTold 0) c_draft_fog Law_from (M.1 c_draft Land_codeLength)) (fun M12 => Q (si M12 c_draft_fog Law_to (M12.1 c_draft Land_codeLength)))
set_option maxHeartbeats 4000000 in
theorem t_Land_holdUntold_draft_fog {X : Cx} (hX : Cok X cX5_holdUntold RX5 3 none 2 0 0) {Q : Mem → Prop} (hq : RV X 0 0 LY Q) {M : Mem} {a0 : Int32} (h : w_Land_holdUntold_draft_fog a0 M Q) : Wat X 0 0 LY 0 [some (vr c_draft), some (vr c_draft_fog), some (vi a0)] [] M := by
  refine s_aload_n hX dX5_holdUntold_0 rfl ?_
  refine s_iconst (v := 0) hX dX5_holdUntold_1 rfl ?_
  refine s_putz hX fi_X5_74 fp_X6 rfl (by decide +kernel) ⟨rfl, rfl⟩ ly_c_draft_fog rfl dX5_holdUntold_2 ?_
  refine s_aload_n hX dX5_holdUntold_5 rfl ?_
  refine s_aload_n hX dX5_holdUntold_6 rfl ?_
  refine s_getiv (v := (M.1 c_draft Land_codeLength)) hX fi_X5_67 ly_c_draft rfl dX5_holdUntold_7 rfl ?_
  refine s_puti hX fi_X5_78 fp_X6 rfl (by decide +kernel) ly_c_draft_fog rfl dX5_holdUntold_10 ?_
  refine s_aload_n hX dX5_holdUntold_13 rfl ?_
  refine s_iload_n hX dX5_holdUntold_14 rfl ?_
  refine s_cvv (as := [vi a0]) (rest := []) hX (c_Land_addStep h) mv_Land_addStep wd_ml_X5_81 dX5_holdUntold_15 ly_c_draft rfl rfl (Nat.le_of_ble_eq_true rfl) rfl (by decide) ⟨Nat.zero_le _, Nat.zero_le _⟩ (fun M12 h => ?_)
  refine s_aload_n hX dX5_holdUntold_18 rfl ?_
  refine s_aload_n hX dX5_holdUntold_19 rfl ?_
  refine s_getiv (v := (M12.1 c_draft Land_codeLength)) hX fi_X5_67 ly_c_draft rfl dX5_holdUntold_20 rfl ?_
  refine s_puti hX fi_X5_85 fp_X6 rfl (by decide +kernel) ly_c_draft_fog rfl dX5_holdUntold_23 ?_
  exact s_vret hX hq rfl dX5_holdUntold_26 h
theorem c_Land_holdUntold_draft_fog {a0 : Int32} {M : Mem} {Q : Mem → Prop} (h : w_Land_holdUntold_draft_fog a0 M Q) : CV yX5_holdUntold cX5_holdUntold 3 none 2 0 0 LY LY [vr c_draft, vr c_draft_fog, vi a0] M Q := mk_v rfl wd_co_X5_holdUntold rfl rfl (Nat.le_of_ble_eq_true rfl) (fun X hX hq => t_Land_holdUntold_draft_fog hX hq h)
theorem mv_Land_holdUntold_draft_fog : MV yX5_holdUntold cX5_holdUntold 3 none RX5 2 := ⟨wd_co_X5_holdUntold, wd_im_X5_holdUntold, wd_se_X5_holdUntold, wd_in_X5, by decide +kernel, by decide⟩
def w_Land_clear (M : Mem) (Q : Mem → Prop) : Prop :=
  w_Jarr_fill 0 (si (si (si (si (si M c_draft Land_wide 2) c_draft Land_deep 2) c_draft Land_people 0) c_draft Land_birds 0) c_draft Land_hear 14) (fun M9 => w_Land_holdUntold 1 (si M9 c_draft Land_codeLength 0) (fun M11 => w_Land_holdUntold_draft_fog 14 M11 (fun M13 => Q M13)))
set_option maxHeartbeats 4000000 in
theorem t_Land_clear {X : Cx} (hX : Cok X cX5_clear RX5 1 none 3 0 0) {Q : Mem → Prop} (hq : RV X 0 0 LY Q) {M : Mem} (h : w_Land_clear M Q) : Wat X 0 0 LY 0 [some (vr c_draft)] [] M := by
  refine s_aload_n hX dX5_clear_0 rfl ?_
  refine s_iconst (v := 2) hX dX5_clear_1 rfl ?_
  refine s_puti hX fi_X5_45 fp_X5 rfl (by decide +kernel) ly_c_draft rfl dX5_clear_2 ?_
  refine s_aload_n hX dX5_clear_5 rfl ?_
  refine s_iconst (v := 2) hX dX5_clear_6 rfl ?_
  refine s_puti hX fi_X5_49 fp_X5 rfl (by decide +kernel) ly_c_draft rfl dX5_clear_7 ?_
  refine s_aload_n hX dX5_clear_10 rfl ?_
  refine s_iconst (v := 0) hX dX5_clear_11 rfl ?_
  refine s_puti hX fi_X5_52 fp_X5 rfl (by decide +kernel) ly_c_draft rfl dX5_clear_12 ?_
  refine s_aload_n hX dX5_clear_15 rfl ?_
  refine s_iconst (v := 0) hX dX5_clear_16 rfl ?_
  refine s_puti hX fi_X5_55 fp_X5 rfl (by decide +kernel) ly_c_draft rfl dX5_clear_17 ?_
  refine s_aload_n hX dX5_clear_20 rfl ?_
  refine s_bipush (v := 14) hX dX5_clear_21 rfl ?_
  refine s_puti hX fi_X5_58 fp_X5 rfl (by decide +kernel) ly_c_draft rfl dX5_clear_23 ?_
  refine s_aload_n hX dX5_clear_26 rfl ?_
  refine s_getr hX fi_X5_24 ly_c_draft rfl dX5_clear_27 ?_
  refine s_iconst (v := 0) hX dX5_clear_30 rfl ?_
  refine s_csv (as := [vr c_draft_times, vi 0]) (rest := []) hX (c_Jarr_fill h) ms_Jarr_fill wd_ml_X5_61 dX5_clear_31 rfl (Nat.le_of_ble_eq_true rfl) rfl (by decide) ⟨Nat.zero_le _, Nat.zero_le _⟩ (fun M9 h => ?_)
  refine s_aload_n hX dX5_clear_34 rfl ?_
  refine s_iconst (v := 0) hX dX5_clear_35 rfl ?_
  refine s_puti hX fi_X5_67 fp_X5 rfl (by decide +kernel) ly_c_draft rfl dX5_clear_36 ?_
  refine s_aload_n hX dX5_clear_39 rfl ?_
  refine s_aload_n hX dX5_clear_40 rfl ?_
  refine s_getr hX fi_X5_35 ly_c_draft rfl dX5_clear_41 ?_
  refine s_iconst (v := 1) hX dX5_clear_44 rfl ?_
  refine s_cvv (as := [vr c_draft_owe, vi 1]) (rest := []) hX (c_Land_holdUntold h) mv_Land_holdUntold wd_ml_X5_70 dX5_clear_45 ly_c_draft rfl rfl (Nat.le_of_ble_eq_true rfl) rfl (by decide) ⟨Nat.zero_le _, Nat.zero_le _⟩ (fun M11 h => ?_)
  refine s_aload_n hX dX5_clear_48 rfl ?_
  refine s_aload_n hX dX5_clear_49 rfl ?_
  refine s_getr hX fi_X5_39 ly_c_draft rfl dX5_clear_50 ?_
  refine s_bipush (v := 14) hX dX5_clear_53 rfl ?_
  refine s_cvv (as := [vr c_draft_fog, vi 14]) (rest := []) hX (c_Land_holdUntold_draft_fog h) mv_Land_holdUntold_draft_fog wd_ml_X5_70 dX5_clear_55 ly_c_draft rfl rfl (Nat.le_of_ble_eq_true rfl) rfl (by decide) ⟨Nat.zero_le _, Nat.zero_le _⟩ (fun M13 h => ?_)
  exact s_vret hX hq rfl dX5_clear_58 h
theorem c_Land_clear {M : Mem} {Q : Mem → Prop} (h : w_Land_clear M Q) : CV yX5_clear cX5_clear 1 none 3 0 0 LY LY [vr c_draft] M Q := mk_v rfl wd_co_X5_clear rfl rfl (Nat.le_of_ble_eq_true rfl) (fun X hX hq => t_Land_clear hX hq h)
theorem mv_Land_clear : MV yX5_clear cX5_clear 1 none RX5 0 := ⟨wd_co_X5_clear, wd_im_X5_clear, wd_se_X5_clear, wd_in_X5, by decide +kernel, by decide⟩
def w_Jarr_fill_reader_goes_L5 (l1 : Int32) (l3 : Int32) (K : Mem → Prop) (Q : Mem → Prop) : Nat → Int32 → Mem → Prop
  | 0, _, _ => False
  | n + 1, l2, M => ((l3 ≤ l2 → K M) ∧ (¬ l3 ≤ l2 → (vp_in l2 144 ∧ w_Jarr_fill_reader_goes_L5 l1 l3 K Q n (l2 + 1) (si M c_reader_goes (Int32.toNatClampNeg l2) l1))))
set_option maxHeartbeats 4000000 in
theorem t_Jarr_fill_reader_goes_L5 {X : Cx} (hX : Cok X cJ7_fill_53178 RJ7 4 none 1 0 0) {Q : Mem → Prop} (hq : RV X 0 0 LY Q) {l1 : Int32} {l3 : Int32} {K : Mem → Prop} (hK : ∀ (M : Mem), K M → Wat X 0 0 LY 20 [none, none, none, none] [] M) : ∀ (n : Nat) (l2 : Int32) (M : Mem), w_Jarr_fill_reader_goes_L5 l1 l3 K Q n l2 M → Wat X 0 0 LY 5 [some (vr c_reader_goes), some (vi l1), some (vi l2), some (vi l3)] [] M := by
  intro n
  induction n with
  | zero => intro _ _ h; exact h.elim
  | succ n ih =>
    intro l2 M h
    refine s_iload_n hX dJ7_fill_53178_5 rfl ?_
    refine s_iload_n hX dJ7_fill_53178_6 rfl ?_
    refine s_icmp_ge (tgt := 20) hX dJ7_fill_53178_7 (by decide) (fun c => ?_) (fun c => ?_)
    · replace h := h.1 c
      refine s_mask [false, false, false, false] (lv' := [none, none, none, none]) rfl rfl ?_
      exact hK _ h
    · replace h := h.2 c
      refine s_aload_n hX dJ7_fill_53178_10 rfl ?_
      refine s_iload_n hX dJ7_fill_53178_11 rfl ?_
      refine s_iload_n hX dJ7_fill_53178_12 rfl ?_
      have hi := h.1
      replace h := h.2
      refine s_iast hX ly_c_reader_goes hi dJ7_fill_53178_13 ?_
      refine s_iinc (v := (l2 + 1)) (lv' := [some (vr c_reader_goes), some (vi l1), some (vi (l2 + 1)), some (vi l3)]) hX dJ7_fill_53178_14 rfl rfl rfl rfl ?_
      refine s_goto (tgt := 5) hX dJ7_fill_53178_17 (by decide) ?_
      exact ih _ _ h
def w_Jarr_fill_reader_goes (a0 : Int32) (M : Mem) (Q : Mem → Prop) : Prop :=
  (∃ n16, w_Jarr_fill_reader_goes_L5 a0 144 (fun M15 => Q M15) Q n16 0 M)
set_option maxHeartbeats 4000000 in
theorem t_Jarr_fill_reader_goes {X : Cx} (hX : Cok X cJ7_fill_53178 RJ7 4 none 1 0 0) {Q : Mem → Prop} (hq : RV X 0 0 LY Q) {M : Mem} {a0 : Int32} (h : w_Jarr_fill_reader_goes a0 M Q) : Wat X 0 0 LY 0 [some (vr c_reader_goes), some (vi a0), none, none] [] M := by
  refine s_iconst (v := 0) hX dJ7_fill_53178_0 rfl ?_
  refine s_istore_n (lv' := [some (vr c_reader_goes), some (vi a0), some (vi 0), none]) hX dJ7_fill_53178_1 rfl rfl (Nat.le_of_ble_eq_true rfl) ?_
  refine s_aload_n hX dJ7_fill_53178_2 rfl ?_
  refine s_alen (v := 144) hX ly_c_reader_goes (by decide) rfl dJ7_fill_53178_3 ?_
  refine s_istore_n (lv' := [some (vr c_reader_goes), some (vi a0), some (vi 0), some (vi 144)]) hX dJ7_fill_53178_4 rfl rfl (Nat.le_of_ble_eq_true rfl) ?_
  obtain ⟨n16, h⟩ := h
  refine t_Jarr_fill_reader_goes_L5 hX hq ?_ n16 _ _ h
  intro M15 h
  exact s_vret hX hq rfl dJ7_fill_53178_20 h
theorem c_Jarr_fill_reader_goes {a0 : Int32} {M : Mem} {Q : Mem → Prop} (h : w_Jarr_fill_reader_goes a0 M Q) : CV yJ7_fill_53178 cJ7_fill_53178 4 none 1 0 0 LY LY [vr c_reader_goes, vi a0] M Q := mk_v rfl wd_co_J7_fill_53178 rfl rfl (Nat.le_of_ble_eq_true rfl) (fun X hX hq => t_Jarr_fill_reader_goes hX hq h)
theorem ms_Jarr_fill_reader_goes : MS yJ7_fill_53178 cJ7_fill_53178 4 none 2 := ⟨wd_co_J7_fill_53178, wd_sm_J7_fill_53178, wd_in_J7, by decide +kernel, by decide⟩
def w_Tape_isSign (a0 : Int32) (M : Mem) (Q : Bool → Mem → Prop) : Prop :=
  ((a0 = 40 → Q true M) ∧ (a0 = 41 → Q true M) ∧ (a0 = 42 → Q true M) ∧ (a0 = 43 → Q true M) ∧ (a0 = 44 → Q false M) ∧ (a0 = 45 → Q true M) ∧ (a0 = 46 → Q false M) ∧ (a0 = 47 → Q false M) ∧ (a0 = 48 → Q false M) ∧ (a0 = 49 → Q false M) ∧ (a0 = 50 → Q false M) ∧ (a0 = 51 → Q false M) ∧ (a0 = 52 → Q false M) ∧ (a0 = 53 → Q false M) ∧ (a0 = 54 → Q false M) ∧ (a0 = 55 → Q false M) ∧ (a0 = 56 → Q false M) ∧ (a0 = 57 → Q false M) ∧ (a0 = 58 → Q false M) ∧ (a0 = 59 → Q true M) ∧ (a0 = 60 → Q true M) ∧ (a0 = 61 → Q true M) ∧ (¬ a0 = 40 → ¬ a0 = 41 → ¬ a0 = 42 → ¬ a0 = 43 → ¬ a0 = 44 → ¬ a0 = 45 → ¬ a0 = 46 → ¬ a0 = 47 → ¬ a0 = 48 → ¬ a0 = 49 → ¬ a0 = 50 → ¬ a0 = 51 → ¬ a0 = 52 → ¬ a0 = 53 → ¬ a0 = 54 → ¬ a0 = 55 → ¬ a0 = 56 → ¬ a0 = 57 → ¬ a0 = 58 → ¬ a0 = 59 → ¬ a0 = 60 → ¬ a0 = 61 → Q false M))
set_option maxHeartbeats 4000000 in
theorem t_Tape_isSign {X : Cx} (hX : Cok X cX10_isSign RX10 1 ((some .boolean)) 1 0 0) {Q : Bool → Mem → Prop} (hq : RI X 0 0 LY (bQ Q)) {M : Mem} {a0 : Int32} (h : w_Tape_isSign a0 M Q) : Wat X 0 0 LY 0 [some (vi a0)] [] M := by
  refine s_iload_n hX dX10_isSign_0 rfl ?_
  by_cases c0 : a0 = 40
  · replace h := h.1 c0
    refine s_tableIn (tgt := 104) (off := 103) hX dX10_isSign_1 (by rw [c0]; decide) (by rw [c0]; decide) (by rw [c0]; rfl) (by decide) ?_
    refine s_iconst (v := 1) hX dX10_isSign_104 rfl ?_
    exact s_zret hX true hq rfl dX10_isSign_105 rfl h
  by_cases c1 : a0 = 41
  · replace h := h.2.1 c1
    refine s_tableIn (tgt := 104) (off := 103) hX dX10_isSign_1 (by rw [c1]; decide) (by rw [c1]; decide) (by rw [c1]; rfl) (by decide) ?_
    refine s_iconst (v := 1) hX dX10_isSign_104 rfl ?_
    exact s_zret hX true hq rfl dX10_isSign_105 rfl h
  by_cases c2 : a0 = 42
  · replace h := h.2.2.1 c2
    refine s_tableIn (tgt := 104) (off := 103) hX dX10_isSign_1 (by rw [c2]; decide) (by rw [c2]; decide) (by rw [c2]; rfl) (by decide) ?_
    refine s_iconst (v := 1) hX dX10_isSign_104 rfl ?_
    exact s_zret hX true hq rfl dX10_isSign_105 rfl h
  by_cases c3 : a0 = 43
  · replace h := h.2.2.2.1 c3
    refine s_tableIn (tgt := 104) (off := 103) hX dX10_isSign_1 (by rw [c3]; decide) (by rw [c3]; decide) (by rw [c3]; rfl) (by decide) ?_
    refine s_iconst (v := 1) hX dX10_isSign_104 rfl ?_
    exact s_zret hX true hq rfl dX10_isSign_105 rfl h
  by_cases c4 : a0 = 44
  · replace h := h.2.2.2.2.1 c4
    refine s_tableIn (tgt := 106) (off := 105) hX dX10_isSign_1 (by rw [c4]; decide) (by rw [c4]; decide) (by rw [c4]; rfl) (by decide) ?_
    refine s_iconst (v := 0) hX dX10_isSign_106 rfl ?_
    exact s_zret hX false hq rfl dX10_isSign_107 rfl h
  by_cases c5 : a0 = 45
  · replace h := h.2.2.2.2.2.1 c5
    refine s_tableIn (tgt := 104) (off := 103) hX dX10_isSign_1 (by rw [c5]; decide) (by rw [c5]; decide) (by rw [c5]; rfl) (by decide) ?_
    refine s_iconst (v := 1) hX dX10_isSign_104 rfl ?_
    exact s_zret hX true hq rfl dX10_isSign_105 rfl h
  by_cases c6 : a0 = 46
  · replace h := h.2.2.2.2.2.2.1 c6
    refine s_tableIn (tgt := 106) (off := 105) hX dX10_isSign_1 (by rw [c6]; decide) (by rw [c6]; decide) (by rw [c6]; rfl) (by decide) ?_
    refine s_iconst (v := 0) hX dX10_isSign_106 rfl ?_
    exact s_zret hX false hq rfl dX10_isSign_107 rfl h
  by_cases c7 : a0 = 47
  · replace h := h.2.2.2.2.2.2.2.1 c7
    refine s_tableIn (tgt := 106) (off := 105) hX dX10_isSign_1 (by rw [c7]; decide) (by rw [c7]; decide) (by rw [c7]; rfl) (by decide) ?_
    refine s_iconst (v := 0) hX dX10_isSign_106 rfl ?_
    exact s_zret hX false hq rfl dX10_isSign_107 rfl h
  by_cases c8 : a0 = 48
  · replace h := h.2.2.2.2.2.2.2.2.1 c8
    refine s_tableIn (tgt := 106) (off := 105) hX dX10_isSign_1 (by rw [c8]; decide) (by rw [c8]; decide) (by rw [c8]; rfl) (by decide) ?_
    refine s_iconst (v := 0) hX dX10_isSign_106 rfl ?_
    exact s_zret hX false hq rfl dX10_isSign_107 rfl h
  by_cases c9 : a0 = 49
  · replace h := h.2.2.2.2.2.2.2.2.2.1 c9
    refine s_tableIn (tgt := 106) (off := 105) hX dX10_isSign_1 (by rw [c9]; decide) (by rw [c9]; decide) (by rw [c9]; rfl) (by decide) ?_
    refine s_iconst (v := 0) hX dX10_isSign_106 rfl ?_
    exact s_zret hX false hq rfl dX10_isSign_107 rfl h
  by_cases c10 : a0 = 50
  · replace h := h.2.2.2.2.2.2.2.2.2.2.1 c10
    refine s_tableIn (tgt := 106) (off := 105) hX dX10_isSign_1 (by rw [c10]; decide) (by rw [c10]; decide) (by rw [c10]; rfl) (by decide) ?_
    refine s_iconst (v := 0) hX dX10_isSign_106 rfl ?_
    exact s_zret hX false hq rfl dX10_isSign_107 rfl h
  by_cases c11 : a0 = 51
  · replace h := h.2.2.2.2.2.2.2.2.2.2.2.1 c11
    refine s_tableIn (tgt := 106) (off := 105) hX dX10_isSign_1 (by rw [c11]; decide) (by rw [c11]; decide) (by rw [c11]; rfl) (by decide) ?_
    refine s_iconst (v := 0) hX dX10_isSign_106 rfl ?_
    exact s_zret hX false hq rfl dX10_isSign_107 rfl h
  by_cases c12 : a0 = 52
  · replace h := h.2.2.2.2.2.2.2.2.2.2.2.2.1 c12
    refine s_tableIn (tgt := 106) (off := 105) hX dX10_isSign_1 (by rw [c12]; decide) (by rw [c12]; decide) (by rw [c12]; rfl) (by decide) ?_
    refine s_iconst (v := 0) hX dX10_isSign_106 rfl ?_
    exact s_zret hX false hq rfl dX10_isSign_107 rfl h
  by_cases c13 : a0 = 53
  · replace h := h.2.2.2.2.2.2.2.2.2.2.2.2.2.1 c13
    refine s_tableIn (tgt := 106) (off := 105) hX dX10_isSign_1 (by rw [c13]; decide) (by rw [c13]; decide) (by rw [c13]; rfl) (by decide) ?_
    refine s_iconst (v := 0) hX dX10_isSign_106 rfl ?_
    exact s_zret hX false hq rfl dX10_isSign_107 rfl h
  by_cases c14 : a0 = 54
  · replace h := h.2.2.2.2.2.2.2.2.2.2.2.2.2.2.1 c14
    refine s_tableIn (tgt := 106) (off := 105) hX dX10_isSign_1 (by rw [c14]; decide) (by rw [c14]; decide) (by rw [c14]; rfl) (by decide) ?_
    refine s_iconst (v := 0) hX dX10_isSign_106 rfl ?_
    exact s_zret hX false hq rfl dX10_isSign_107 rfl h
  by_cases c15 : a0 = 55
  · replace h := h.2.2.2.2.2.2.2.2.2.2.2.2.2.2.2.1 c15
    refine s_tableIn (tgt := 106) (off := 105) hX dX10_isSign_1 (by rw [c15]; decide) (by rw [c15]; decide) (by rw [c15]; rfl) (by decide) ?_
    refine s_iconst (v := 0) hX dX10_isSign_106 rfl ?_
    exact s_zret hX false hq rfl dX10_isSign_107 rfl h
  by_cases c16 : a0 = 56
  · replace h := h.2.2.2.2.2.2.2.2.2.2.2.2.2.2.2.2.1 c16
    refine s_tableIn (tgt := 106) (off := 105) hX dX10_isSign_1 (by rw [c16]; decide) (by rw [c16]; decide) (by rw [c16]; rfl) (by decide) ?_
    refine s_iconst (v := 0) hX dX10_isSign_106 rfl ?_
    exact s_zret hX false hq rfl dX10_isSign_107 rfl h
  by_cases c17 : a0 = 57
  · replace h := h.2.2.2.2.2.2.2.2.2.2.2.2.2.2.2.2.2.1 c17
    refine s_tableIn (tgt := 106) (off := 105) hX dX10_isSign_1 (by rw [c17]; decide) (by rw [c17]; decide) (by rw [c17]; rfl) (by decide) ?_
    refine s_iconst (v := 0) hX dX10_isSign_106 rfl ?_
    exact s_zret hX false hq rfl dX10_isSign_107 rfl h
  by_cases c18 : a0 = 58
  · replace h := h.2.2.2.2.2.2.2.2.2.2.2.2.2.2.2.2.2.2.1 c18
    refine s_tableIn (tgt := 106) (off := 105) hX dX10_isSign_1 (by rw [c18]; decide) (by rw [c18]; decide) (by rw [c18]; rfl) (by decide) ?_
    refine s_iconst (v := 0) hX dX10_isSign_106 rfl ?_
    exact s_zret hX false hq rfl dX10_isSign_107 rfl h
  by_cases c19 : a0 = 59
  · replace h := h.2.2.2.2.2.2.2.2.2.2.2.2.2.2.2.2.2.2.2.1 c19
    refine s_tableIn (tgt := 104) (off := 103) hX dX10_isSign_1 (by rw [c19]; decide) (by rw [c19]; decide) (by rw [c19]; rfl) (by decide) ?_
    refine s_iconst (v := 1) hX dX10_isSign_104 rfl ?_
    exact s_zret hX true hq rfl dX10_isSign_105 rfl h
  by_cases c20 : a0 = 60
  · replace h := h.2.2.2.2.2.2.2.2.2.2.2.2.2.2.2.2.2.2.2.2.1 c20
    refine s_tableIn (tgt := 104) (off := 103) hX dX10_isSign_1 (by rw [c20]; decide) (by rw [c20]; decide) (by rw [c20]; rfl) (by decide) ?_
    refine s_iconst (v := 1) hX dX10_isSign_104 rfl ?_
    exact s_zret hX true hq rfl dX10_isSign_105 rfl h
  by_cases c21 : a0 = 61
  · replace h := h.2.2.2.2.2.2.2.2.2.2.2.2.2.2.2.2.2.2.2.2.2.1 c21
    refine s_tableIn (tgt := 104) (off := 103) hX dX10_isSign_1 (by rw [c21]; decide) (by rw [c21]; decide) (by rw [c21]; rfl) (by decide) ?_
    refine s_iconst (v := 1) hX dX10_isSign_104 rfl ?_
    exact s_zret hX true hq rfl dX10_isSign_105 rfl h
  replace h := h.2.2.2.2.2.2.2.2.2.2.2.2.2.2.2.2.2.2.2.2.2.2 c0 c1 c2 c3 c4 c5 c6 c7 c8 c9 c10 c11 c12 c13 c14 c15 c16 c17 c18 c19 c20 c21
  have n0 := lv_neT (a := 40) c0 rfl
  have n1 := lv_neT (a := 41) c1 rfl
  have n2 := lv_neT (a := 42) c2 rfl
  have n3 := lv_neT (a := 43) c3 rfl
  have n4 := lv_neT (a := 44) c4 rfl
  have n5 := lv_neT (a := 45) c5 rfl
  have n6 := lv_neT (a := 46) c6 rfl
  have n7 := lv_neT (a := 47) c7 rfl
  have n8 := lv_neT (a := 48) c8 rfl
  have n9 := lv_neT (a := 49) c9 rfl
  have n10 := lv_neT (a := 50) c10 rfl
  have n11 := lv_neT (a := 51) c11 rfl
  have n12 := lv_neT (a := 52) c12 rfl
  have n13 := lv_neT (a := 53) c13 rfl
  have n14 := lv_neT (a := 54) c14 rfl
  have n15 := lv_neT (a := 55) c15 rfl
  have n16 := lv_neT (a := 56) c16 rfl
  have n17 := lv_neT (a := 57) c17 rfl
  have n18 := lv_neT (a := 58) c18 rfl
  have n19 := lv_neT (a := 59) c19 rfl
  have n20 := lv_neT (a := 60) c20 rfl
  have n21 := lv_neT (a := 61) c21 rfl
  refine s_tableOut (tgt := 106) hX dX10_isSign_1 (by omega) (by decide) ?_
  refine s_iconst (v := 0) hX dX10_isSign_106 rfl ?_
  exact s_zret hX false hq rfl dX10_isSign_107 rfl h
theorem c_Tape_isSign {a0 : Int32} {M : Mem} {Q : Bool → Mem → Prop} (h : w_Tape_isSign a0 M Q) : CI yX10_isSign cX10_isSign 1 ((some .boolean)) 1 0 0 LY LY [vi a0] M (bQ Q) := mk_i rfl wd_co_X10_isSign rfl rfl (Nat.le_of_ble_eq_true rfl) (fun X hX hq => t_Tape_isSign hX hq h)
theorem ms_Tape_isSign : MS yX10_isSign cX10_isSign 1 ((some .boolean)) 1 := ⟨wd_co_X10_isSign, wd_sm_X10_isSign, wd_in_X10, by decide +kernel, by decide⟩
def w_Tape_readNumber_j76 (M : Mem) (Q : Mem → Prop) : Prop :=
  Q (si M c_tape Tape_token (if 4 < ((M.1 c_tape Tape_next) - (M.1 c_tape Tape_place)) then (1 : Int32) else 3))
set_option maxHeartbeats 4000000 in
theorem t_Tape_readNumber_j76 {X : Cx} (hX : Cok X cX10_readNumber RX10 1 none 1 0 0) {Q : Mem → Prop} (hq : RV X 0 0 LY Q) {M : Mem} (h : w_Tape_readNumber_j76 M Q) : Wat X 0 0 LY 76 [some (vr c_tape)] [] M := by
  refine s_aload_n hX dX10_readNumber_76 rfl ?_
  refine s_aload_n hX dX10_readNumber_77 rfl ?_
  refine s_getiv (v := (M.1 c_tape Tape_next)) hX fi_X10_36 ly_c_tape rfl dX10_readNumber_78 rfl ?_
  refine s_aload_n hX dX10_readNumber_81 rfl ?_
  refine s_getiv (v := (M.1 c_tape Tape_place)) hX fi_X10_43 ly_c_tape rfl dX10_readNumber_82 rfl ?_
  refine s_isub hX dX10_readNumber_85 ?_
  refine s_iconst (v := 4) hX dX10_readNumber_86 rfl ?_
  have hJ : Wat X 0 0 LY 95 [some (vr c_tape)] [vi (if 4 < ((M.1 c_tape Tape_next) - (M.1 c_tape Tape_place)) then (1 : Int32) else 3), vr c_tape] M := by
    refine s_puti hX fi_X10_59 fp_X10 rfl (by decide +kernel) ly_c_tape rfl dX10_readNumber_95 ?_
    exact s_vret hX hq rfl dX10_readNumber_98 h
  refine s_icmp_gt (tgt := 94) hX dX10_readNumber_87 (by decide) (fun c => ?_) (fun c => ?_)
  · rw [if_pos c] at hJ
    refine s_iconst (v := 1) hX dX10_readNumber_94 rfl ?_
    exact hJ
  · rw [if_neg c] at hJ
    refine s_iconst (v := 3) hX dX10_readNumber_90 rfl ?_
    refine s_goto (tgt := 95) hX dX10_readNumber_91 (by decide) ?_
    exact hJ
def w_Tape_readNumber_L0 (K : Mem → Prop) (Q : Mem → Prop) : Nat → Mem → Prop
  | 0, _ => False
  | n + 1, M => (((M.1 c_tape Tape_length) ≤ (M.1 c_tape Tape_next) → K M) ∧ (¬ (M.1 c_tape Tape_length) ≤ (M.1 c_tape Tape_next) → (vp_in (M.1 c_tape Tape_next) 1000 ∧ (((M.1 c_tape_signs (Int32.toNatClampNeg (M.1 c_tape Tape_next))) < 48 → K M) ∧ (¬ (M.1 c_tape_signs (Int32.toNatClampNeg (M.1 c_tape Tape_next))) < 48 → (vp_in (M.1 c_tape Tape_next) 1000 ∧ ((57 < (M.1 c_tape_signs (Int32.toNatClampNeg (M.1 c_tape Tape_next))) → K M) ∧ (¬ 57 < (M.1 c_tape_signs (Int32.toNatClampNeg (M.1 c_tape Tape_next))) → (vp_in (M.1 c_tape Tape_next) 1000 ∧ w_Tape_readNumber_L0 K Q n (si (si M c_tape Tape_number (((M.1 c_tape Tape_number) * 10) + ((M.1 c_tape_signs (Int32.toNatClampNeg (M.1 c_tape Tape_next))) - 48))) c_tape Tape_next ((M.1 c_tape Tape_next) + 1)))))))))))
set_option maxHeartbeats 4000000 in
theorem t_Tape_readNumber_L0 {X : Cx} (hX : Cok X cX10_readNumber RX10 1 none 1 0 0) {Q : Mem → Prop} (hq : RV X 0 0 LY Q) {K : Mem → Prop} (hK : ∀ (M : Mem), K M → Wat X 0 0 LY 76 [some (vr c_tape)] [] M) : ∀ (n : Nat) (M : Mem), w_Tape_readNumber_L0 K Q n M → Wat X 0 0 LY 0 [some (vr c_tape)] [] M := by
  intro n
  induction n with
  | zero => intro _ h; exact h.elim
  | succ n ih =>
    intro M h
    refine s_aload_n hX dX10_readNumber_0 rfl ?_
    refine s_getiv (v := (M.1 c_tape Tape_next)) hX fi_X10_36 ly_c_tape rfl dX10_readNumber_1 rfl ?_
    refine s_aload_n hX dX10_readNumber_4 rfl ?_
    refine s_getiv (v := (M.1 c_tape Tape_length)) hX fi_X10_33 ly_c_tape rfl dX10_readNumber_5 rfl ?_
    refine s_icmp_ge (tgt := 76) hX dX10_readNumber_8 (by decide) (fun c => ?_) (fun c => ?_)
    · replace h := h.1 c
      exact hK _ h
    · replace h := h.2 c
      refine s_aload_n hX dX10_readNumber_11 rfl ?_
      refine s_getr hX fi_X10_9 ly_c_tape rfl dX10_readNumber_12 ?_
      refine s_aload_n hX dX10_readNumber_15 rfl ?_
      refine s_getiv (v := (M.1 c_tape Tape_next)) hX fi_X10_36 ly_c_tape rfl dX10_readNumber_16 rfl ?_
      have hi := h.1
      replace h := h.2
      refine s_caldv (v := (M.1 c_tape_signs (Int32.toNatClampNeg (M.1 c_tape Tape_next)))) hX ly_c_tape_signs hi dX10_readNumber_19 rfl ?_
      refine s_bipush (v := 48) hX dX10_readNumber_20 rfl ?_
      refine s_icmp_lt (tgt := 76) hX dX10_readNumber_22 (by decide) (fun c => ?_) (fun c => ?_)
      · replace h := h.1 c
        exact hK _ h
      · replace h := h.2 c
        refine s_aload_n hX dX10_readNumber_25 rfl ?_
        refine s_getr hX fi_X10_9 ly_c_tape rfl dX10_readNumber_26 ?_
        refine s_aload_n hX dX10_readNumber_29 rfl ?_
        refine s_getiv (v := (M.1 c_tape Tape_next)) hX fi_X10_36 ly_c_tape rfl dX10_readNumber_30 rfl ?_
        have hi := h.1
        replace h := h.2
        refine s_caldv (v := (M.1 c_tape_signs (Int32.toNatClampNeg (M.1 c_tape Tape_next)))) hX ly_c_tape_signs hi dX10_readNumber_33 rfl ?_
        refine s_bipush (v := 57) hX dX10_readNumber_34 rfl ?_
        refine s_icmp_gt (tgt := 76) hX dX10_readNumber_36 (by decide) (fun c => ?_) (fun c => ?_)
        · replace h := h.1 c
          exact hK _ h
        · replace h := h.2 c
          refine s_aload_n hX dX10_readNumber_39 rfl ?_
          refine s_aload_n hX dX10_readNumber_40 rfl ?_
          refine s_getiv (v := (M.1 c_tape Tape_number)) hX fi_X10_49 ly_c_tape rfl dX10_readNumber_41 rfl ?_
          refine s_bipush (v := 10) hX dX10_readNumber_44 rfl ?_
          refine s_imul hX dX10_readNumber_46 ?_
          refine s_aload_n hX dX10_readNumber_47 rfl ?_
          refine s_getr hX fi_X10_9 ly_c_tape rfl dX10_readNumber_48 ?_
          refine s_aload_n hX dX10_readNumber_51 rfl ?_
          refine s_getiv (v := (M.1 c_tape Tape_next)) hX fi_X10_36 ly_c_tape rfl dX10_readNumber_52 rfl ?_
          have hi := h.1
          replace h := h.2
          refine s_caldv (v := (M.1 c_tape_signs (Int32.toNatClampNeg (M.1 c_tape Tape_next)))) hX ly_c_tape_signs hi dX10_readNumber_55 rfl ?_
          refine s_bipush (v := 48) hX dX10_readNumber_56 rfl ?_
          refine s_isub hX dX10_readNumber_58 ?_
          refine s_iadd hX dX10_readNumber_59 ?_
          refine s_puti hX fi_X10_49 fp_X10 rfl (by decide +kernel) ly_c_tape rfl dX10_readNumber_60 ?_
          refine s_aload_n hX dX10_readNumber_63 rfl ?_
          refine s_dup hX dX10_readNumber_64 rfl ?_
          refine s_getiv (v := (M.1 c_tape Tape_next)) hX fi_X10_36 ly_c_tape rfl dX10_readNumber_65 rfl ?_
          refine s_iconst (v := 1) hX dX10_readNumber_68 rfl ?_
          refine s_iadd hX dX10_readNumber_69 ?_
          refine s_puti hX fi_X10_36 fp_X10 rfl (by decide +kernel) ly_c_tape rfl dX10_readNumber_70 ?_
          refine s_goto (tgt := 0) hX dX10_readNumber_73 (by decide) ?_
          exact ih _ h
def w_Tape_readNumber (M : Mem) (Q : Mem → Prop) : Prop :=
  (((M.1 c_tape Tape_length) ≤ (M.1 c_tape Tape_next) → w_Tape_readNumber_j76 M Q) ∧ (¬ (M.1 c_tape Tape_length) ≤ (M.1 c_tape Tape_next) → (vp_in (M.1 c_tape Tape_next) 1000 ∧ (((M.1 c_tape_signs (Int32.toNatClampNeg (M.1 c_tape Tape_next))) < 48 → w_Tape_readNumber_j76 M Q) ∧ (¬ (M.1 c_tape_signs (Int32.toNatClampNeg (M.1 c_tape Tape_next))) < 48 → (vp_in (M.1 c_tape Tape_next) 1000 ∧ ((57 < (M.1 c_tape_signs (Int32.toNatClampNeg (M.1 c_tape Tape_next))) → w_Tape_readNumber_j76 M Q) ∧ (¬ 57 < (M.1 c_tape_signs (Int32.toNatClampNeg (M.1 c_tape Tape_next))) → (vp_in (M.1 c_tape Tape_next) 1000 ∧ (∃ n21, w_Tape_readNumber_L0 (fun M20 => w_Tape_readNumber_j76 M20 Q) Q n21 (si (si M c_tape Tape_number (((M.1 c_tape Tape_number) * 10) + ((M.1 c_tape_signs (Int32.toNatClampNeg (M.1 c_tape Tape_next))) - 48))) c_tape Tape_next ((M.1 c_tape Tape_next) + 1))))))))))))
set_option maxHeartbeats 4000000 in
theorem t_Tape_readNumber {X : Cx} (hX : Cok X cX10_readNumber RX10 1 none 1 0 0) {Q : Mem → Prop} (hq : RV X 0 0 LY Q) {M : Mem} (h : w_Tape_readNumber M Q) : Wat X 0 0 LY 0 [some (vr c_tape)] [] M := by
  refine s_aload_n hX dX10_readNumber_0 rfl ?_
  refine s_getiv (v := (M.1 c_tape Tape_next)) hX fi_X10_36 ly_c_tape rfl dX10_readNumber_1 rfl ?_
  refine s_aload_n hX dX10_readNumber_4 rfl ?_
  refine s_getiv (v := (M.1 c_tape Tape_length)) hX fi_X10_33 ly_c_tape rfl dX10_readNumber_5 rfl ?_
  refine s_icmp_ge (tgt := 76) hX dX10_readNumber_8 (by decide) (fun c => ?_) (fun c => ?_)
  · replace h := h.1 c
    exact t_Tape_readNumber_j76 hX hq h
  · replace h := h.2 c
    refine s_aload_n hX dX10_readNumber_11 rfl ?_
    refine s_getr hX fi_X10_9 ly_c_tape rfl dX10_readNumber_12 ?_
    refine s_aload_n hX dX10_readNumber_15 rfl ?_
    refine s_getiv (v := (M.1 c_tape Tape_next)) hX fi_X10_36 ly_c_tape rfl dX10_readNumber_16 rfl ?_
    have hi := h.1
    replace h := h.2
    refine s_caldv (v := (M.1 c_tape_signs (Int32.toNatClampNeg (M.1 c_tape Tape_next)))) hX ly_c_tape_signs hi dX10_readNumber_19 rfl ?_
    refine s_bipush (v := 48) hX dX10_readNumber_20 rfl ?_
    refine s_icmp_lt (tgt := 76) hX dX10_readNumber_22 (by decide) (fun c => ?_) (fun c => ?_)
    · replace h := h.1 c
      exact t_Tape_readNumber_j76 hX hq h
    · replace h := h.2 c
      refine s_aload_n hX dX10_readNumber_25 rfl ?_
      refine s_getr hX fi_X10_9 ly_c_tape rfl dX10_readNumber_26 ?_
      refine s_aload_n hX dX10_readNumber_29 rfl ?_
      refine s_getiv (v := (M.1 c_tape Tape_next)) hX fi_X10_36 ly_c_tape rfl dX10_readNumber_30 rfl ?_
      have hi := h.1
      replace h := h.2
      refine s_caldv (v := (M.1 c_tape_signs (Int32.toNatClampNeg (M.1 c_tape Tape_next)))) hX ly_c_tape_signs hi dX10_readNumber_33 rfl ?_
      refine s_bipush (v := 57) hX dX10_readNumber_34 rfl ?_
      refine s_icmp_gt (tgt := 76) hX dX10_readNumber_36 (by decide) (fun c => ?_) (fun c => ?_)
      · replace h := h.1 c
        exact t_Tape_readNumber_j76 hX hq h
      · replace h := h.2 c
        refine s_aload_n hX dX10_readNumber_39 rfl ?_
        refine s_aload_n hX dX10_readNumber_40 rfl ?_
        refine s_getiv (v := (M.1 c_tape Tape_number)) hX fi_X10_49 ly_c_tape rfl dX10_readNumber_41 rfl ?_
        refine s_bipush (v := 10) hX dX10_readNumber_44 rfl ?_
        refine s_imul hX dX10_readNumber_46 ?_
        refine s_aload_n hX dX10_readNumber_47 rfl ?_
        refine s_getr hX fi_X10_9 ly_c_tape rfl dX10_readNumber_48 ?_
        refine s_aload_n hX dX10_readNumber_51 rfl ?_
        refine s_getiv (v := (M.1 c_tape Tape_next)) hX fi_X10_36 ly_c_tape rfl dX10_readNumber_52 rfl ?_
        have hi := h.1
        replace h := h.2
        refine s_caldv (v := (M.1 c_tape_signs (Int32.toNatClampNeg (M.1 c_tape Tape_next)))) hX ly_c_tape_signs hi dX10_readNumber_55 rfl ?_
        refine s_bipush (v := 48) hX dX10_readNumber_56 rfl ?_
        refine s_isub hX dX10_readNumber_58 ?_
        refine s_iadd hX dX10_readNumber_59 ?_
        refine s_puti hX fi_X10_49 fp_X10 rfl (by decide +kernel) ly_c_tape rfl dX10_readNumber_60 ?_
        refine s_aload_n hX dX10_readNumber_63 rfl ?_
        refine s_dup hX dX10_readNumber_64 rfl ?_
        refine s_getiv (v := (M.1 c_tape Tape_next)) hX fi_X10_36 ly_c_tape rfl dX10_readNumber_65 rfl ?_
        refine s_iconst (v := 1) hX dX10_readNumber_68 rfl ?_
        refine s_iadd hX dX10_readNumber_69 ?_
        refine s_puti hX fi_X10_36 fp_X10 rfl (by decide +kernel) ly_c_tape rfl dX10_readNumber_70 ?_
        refine s_goto (tgt := 0) hX dX10_readNumber_73 (by decide) ?_
        obtain ⟨n21, h⟩ := h
        refine t_Tape_readNumber_L0 hX hq ?_ n21 _ h
        intro M20 h
        exact t_Tape_readNumber_j76 hX hq h
theorem c_Tape_readNumber {M : Mem} {Q : Mem → Prop} (h : w_Tape_readNumber M Q) : CV yX10_readNumber cX10_readNumber 1 none 1 0 0 LY LY [vr c_tape] M Q := mk_v rfl wd_co_X10_readNumber rfl rfl (Nat.le_of_ble_eq_true rfl) (fun X hX hq => t_Tape_readNumber hX hq h)
theorem mv_Tape_readNumber : MV yX10_readNumber cX10_readNumber 1 none RX10 0 := ⟨wd_co_X10_readNumber, wd_im_X10_readNumber, wd_se_X10_readNumber, wd_in_X10, by decide +kernel, by decide⟩
def w_Tape_readWord_L103 (K : Mem → Prop) (Q : Mem → Prop) : Nat → Int32 → Mem → Prop
  | 0, _, _ => False
  | n + 1, l1, M => ((24 ≤ l1 → K M) ∧ (¬ 24 ≤ l1 → ((¬ (M.1 c_tape Tape_token) = 2 → K M) ∧ ((M.1 c_tape Tape_token) = 2 → (vp_in l1 24 ∧ ((¬ (lg_cmp (M.2 c_tape_keywords (Int32.toNatClampNeg l1)) (M.2 c_tape Tape_word)) = 0 → w_Tape_readWord_L103 K Q n (l1 + 1) M) ∧ ((lg_cmp (M.2 c_tape_keywords (Int32.toNatClampNeg l1)) (M.2 c_tape Tape_word)) = 0 → w_Tape_readWord_L103 K Q n (l1 + 1) (si M c_tape Tape_keyword l1))))))))
set_option maxHeartbeats 4000000 in
theorem t_Tape_readWord_L103 {X : Cx} (hX : Cok X cX10_readWord RX10 2 none 1 0 0) {Q : Mem → Prop} (hq : RV X 0 0 LY Q) {K : Mem → Prop} (hK : ∀ (M : Mem), K M → Wat X 0 0 LY 142 [none, none] [] M) : ∀ (n : Nat) (l1 : Int32) (M : Mem), w_Tape_readWord_L103 K Q n l1 M → Wat X 0 0 LY 103 [some (vr c_tape), some (vi l1)] [] M := by
  intro n
  induction n with
  | zero => intro _ _ h; exact h.elim
  | succ n ih =>
    intro l1 M h
    refine s_iload_n hX dX10_readWord_103 rfl ?_
    refine s_bipush (v := 24) hX dX10_readWord_104 rfl ?_
    refine s_icmp_ge (tgt := 142) hX dX10_readWord_106 (by decide) (fun c => ?_) (fun c => ?_)
    · replace h := h.1 c
      refine s_mask [false, false] (lv' := [none, none]) rfl rfl ?_
      exact hK _ h
    · replace h := h.2 c
      refine s_aload_n hX dX10_readWord_109 rfl ?_
      refine s_getiv (v := (M.1 c_tape Tape_token)) hX fi_X10_59 ly_c_tape rfl dX10_readWord_110 rfl ?_
      refine s_iconst (v := 2) hX dX10_readWord_113 rfl ?_
      refine s_icmp_ne (tgt := 142) hX dX10_readWord_114 (by decide) (fun c => ?_) (fun c => ?_)
      · replace h := h.1 c
        refine s_mask [false, false] (lv' := [none, none]) rfl rfl ?_
        exact hK _ h
      · replace h := h.2 c
        refine s_aload_n hX dX10_readWord_117 rfl ?_
        refine s_getr hX fi_X10_15 ly_c_tape rfl dX10_readWord_118 ?_
        refine s_iload_n hX dX10_readWord_121 rfl ?_
        have hi := h.1
        replace h := h.2
        refine s_laldv (v := (M.2 c_tape_keywords (Int32.toNatClampNeg l1))) hX ly_c_tape_keywords hi dX10_readWord_122 rfl ?_
        refine s_aload_n hX dX10_readWord_123 rfl ?_
        refine s_getlv (v := (M.2 c_tape Tape_word)) hX fi_X10_55 ly_c_tape rfl dX10_readWord_124 rfl ?_
        refine s_lcmp hX dX10_readWord_127 ?_
        refine s_if_ne (tgt := 136) hX dX10_readWord_128 (by decide) (fun c => ?_) (fun c => ?_)
        · replace h := h.1 c
          refine s_iinc (v := (l1 + 1)) (lv' := [some (vr c_tape), some (vi (l1 + 1))]) hX dX10_readWord_136 rfl rfl rfl rfl ?_
          refine s_goto (tgt := 103) hX dX10_readWord_139 (by decide) ?_
          exact ih _ _ h
        · replace h := h.2 c
          refine s_aload_n hX dX10_readWord_131 rfl ?_
          refine s_iload_n hX dX10_readWord_132 rfl ?_
          refine s_puti hX fi_X10_52 fp_X10 rfl (by decide +kernel) ly_c_tape rfl dX10_readWord_133 ?_
          refine s_iinc (v := (l1 + 1)) (lv' := [some (vr c_tape), some (vi (l1 + 1))]) hX dX10_readWord_136 rfl rfl rfl rfl ?_
          refine s_goto (tgt := 103) hX dX10_readWord_139 (by decide) ?_
          exact ih _ _ h
def w_Tape_readWord_j78 (M : Mem) (Q : Mem → Prop) : Prop :=
  (∃ n24, w_Tape_readWord_L103 (fun M23 => Q M23) Q n24 0 (si M c_tape Tape_token (if 8 < ((M.1 c_tape Tape_next) - (M.1 c_tape Tape_place)) then (1 : Int32) else 2)))
set_option maxHeartbeats 4000000 in
theorem t_Tape_readWord_j78 {X : Cx} (hX : Cok X cX10_readWord RX10 2 none 1 0 0) {Q : Mem → Prop} (hq : RV X 0 0 LY Q) {M : Mem} (h : w_Tape_readWord_j78 M Q) : Wat X 0 0 LY 78 [some (vr c_tape), none] [] M := by
  refine s_aload_n hX dX10_readWord_78 rfl ?_
  refine s_aload_n hX dX10_readWord_79 rfl ?_
  refine s_getiv (v := (M.1 c_tape Tape_next)) hX fi_X10_36 ly_c_tape rfl dX10_readWord_80 rfl ?_
  refine s_aload_n hX dX10_readWord_83 rfl ?_
  refine s_getiv (v := (M.1 c_tape Tape_place)) hX fi_X10_43 ly_c_tape rfl dX10_readWord_84 rfl ?_
  refine s_isub hX dX10_readWord_87 ?_
  refine s_bipush (v := 8) hX dX10_readWord_88 rfl ?_
  have hJ : Wat X 0 0 LY 98 [some (vr c_tape), none] [vi (if 8 < ((M.1 c_tape Tape_next) - (M.1 c_tape Tape_place)) then (1 : Int32) else 2), vr c_tape] M := by
    refine s_puti hX fi_X10_59 fp_X10 rfl (by decide +kernel) ly_c_tape rfl dX10_readWord_98 ?_
    refine s_iconst (v := 0) hX dX10_readWord_101 rfl ?_
    refine s_istore_n (lv' := [some (vr c_tape), some (vi 0)]) hX dX10_readWord_102 rfl rfl (Nat.le_of_ble_eq_true rfl) ?_
    obtain ⟨n24, h⟩ := h
    refine t_Tape_readWord_L103 hX hq ?_ n24 _ _ h
    intro M23 h
    exact s_vret hX hq rfl dX10_readWord_142 h
  refine s_icmp_gt (tgt := 97) hX dX10_readWord_90 (by decide) (fun c => ?_) (fun c => ?_)
  · rw [if_pos c] at hJ
    refine s_iconst (v := 1) hX dX10_readWord_97 rfl ?_
    exact hJ
  · rw [if_neg c] at hJ
    refine s_iconst (v := 2) hX dX10_readWord_93 rfl ?_
    refine s_goto (tgt := 98) hX dX10_readWord_94 (by decide) ?_
    exact hJ
def w_Tape_readWord_L0 (K : Mem → Prop) (Q : Mem → Prop) : Nat → Mem → Prop
  | 0, _ => False
  | n + 1, M => (((M.1 c_tape Tape_length) ≤ (M.1 c_tape Tape_next) → K M) ∧ (¬ (M.1 c_tape Tape_length) ≤ (M.1 c_tape Tape_next) → (vp_in (M.1 c_tape Tape_next) 1000 ∧ (((M.1 c_tape_signs (Int32.toNatClampNeg (M.1 c_tape Tape_next))) < 97 → K M) ∧ (¬ (M.1 c_tape_signs (Int32.toNatClampNeg (M.1 c_tape Tape_next))) < 97 → (vp_in (M.1 c_tape Tape_next) 1000 ∧ ((122 < (M.1 c_tape_signs (Int32.toNatClampNeg (M.1 c_tape Tape_next))) → K M) ∧ (¬ 122 < (M.1 c_tape_signs (Int32.toNatClampNeg (M.1 c_tape Tape_next))) → (vp_in (M.1 c_tape Tape_next) 1000 ∧ w_Tape_readWord_L0 K Q n (si (sl M c_tape Tape_word (((M.2 c_tape Tape_word) <<< (Int32.toInt64 (5 : Int32) &&& 63)) + (Int32.toInt64 (((M.1 c_tape_signs (Int32.toNatClampNeg (M.1 c_tape Tape_next))) - 97) + 1)))) c_tape Tape_next ((M.1 c_tape Tape_next) + 1)))))))))))
set_option maxHeartbeats 4000000 in
theorem t_Tape_readWord_L0 {X : Cx} (hX : Cok X cX10_readWord RX10 2 none 1 0 0) {Q : Mem → Prop} (hq : RV X 0 0 LY Q) {K : Mem → Prop} (hK : ∀ (M : Mem), K M → Wat X 0 0 LY 78 [some (vr c_tape), none] [] M) : ∀ (n : Nat) (M : Mem), w_Tape_readWord_L0 K Q n M → Wat X 0 0 LY 0 [some (vr c_tape), none] [] M := by
  intro n
  induction n with
  | zero => intro _ h; exact h.elim
  | succ n ih =>
    intro M h
    refine s_aload_n hX dX10_readWord_0 rfl ?_
    refine s_getiv (v := (M.1 c_tape Tape_next)) hX fi_X10_36 ly_c_tape rfl dX10_readWord_1 rfl ?_
    refine s_aload_n hX dX10_readWord_4 rfl ?_
    refine s_getiv (v := (M.1 c_tape Tape_length)) hX fi_X10_33 ly_c_tape rfl dX10_readWord_5 rfl ?_
    refine s_icmp_ge (tgt := 78) hX dX10_readWord_8 (by decide) (fun c => ?_) (fun c => ?_)
    · replace h := h.1 c
      exact hK _ h
    · replace h := h.2 c
      refine s_aload_n hX dX10_readWord_11 rfl ?_
      refine s_getr hX fi_X10_9 ly_c_tape rfl dX10_readWord_12 ?_
      refine s_aload_n hX dX10_readWord_15 rfl ?_
      refine s_getiv (v := (M.1 c_tape Tape_next)) hX fi_X10_36 ly_c_tape rfl dX10_readWord_16 rfl ?_
      have hi := h.1
      replace h := h.2
      refine s_caldv (v := (M.1 c_tape_signs (Int32.toNatClampNeg (M.1 c_tape Tape_next)))) hX ly_c_tape_signs hi dX10_readWord_19 rfl ?_
      refine s_bipush (v := 97) hX dX10_readWord_20 rfl ?_
      refine s_icmp_lt (tgt := 78) hX dX10_readWord_22 (by decide) (fun c => ?_) (fun c => ?_)
      · replace h := h.1 c
        exact hK _ h
      · replace h := h.2 c
        refine s_aload_n hX dX10_readWord_25 rfl ?_
        refine s_getr hX fi_X10_9 ly_c_tape rfl dX10_readWord_26 ?_
        refine s_aload_n hX dX10_readWord_29 rfl ?_
        refine s_getiv (v := (M.1 c_tape Tape_next)) hX fi_X10_36 ly_c_tape rfl dX10_readWord_30 rfl ?_
        have hi := h.1
        replace h := h.2
        refine s_caldv (v := (M.1 c_tape_signs (Int32.toNatClampNeg (M.1 c_tape Tape_next)))) hX ly_c_tape_signs hi dX10_readWord_33 rfl ?_
        refine s_bipush (v := 122) hX dX10_readWord_34 rfl ?_
        refine s_icmp_gt (tgt := 78) hX dX10_readWord_36 (by decide) (fun c => ?_) (fun c => ?_)
        · replace h := h.1 c
          exact hK _ h
        · replace h := h.2 c
          refine s_aload_n hX dX10_readWord_39 rfl ?_
          refine s_aload_n hX dX10_readWord_40 rfl ?_
          refine s_getlv (v := (M.2 c_tape Tape_word)) hX fi_X10_55 ly_c_tape rfl dX10_readWord_41 rfl ?_
          refine s_iconst (v := 5) hX dX10_readWord_44 rfl ?_
          refine s_lshl hX dX10_readWord_45 ?_
          refine s_aload_n hX dX10_readWord_46 rfl ?_
          refine s_getr hX fi_X10_9 ly_c_tape rfl dX10_readWord_47 ?_
          refine s_aload_n hX dX10_readWord_50 rfl ?_
          refine s_getiv (v := (M.1 c_tape Tape_next)) hX fi_X10_36 ly_c_tape rfl dX10_readWord_51 rfl ?_
          have hi := h.1
          replace h := h.2
          refine s_caldv (v := (M.1 c_tape_signs (Int32.toNatClampNeg (M.1 c_tape Tape_next)))) hX ly_c_tape_signs hi dX10_readWord_54 rfl ?_
          refine s_bipush (v := 97) hX dX10_readWord_55 rfl ?_
          refine s_isub hX dX10_readWord_57 ?_
          refine s_iconst (v := 1) hX dX10_readWord_58 rfl ?_
          refine s_iadd hX dX10_readWord_59 ?_
          refine s_i2l hX dX10_readWord_60 ?_
          refine s_ladd hX dX10_readWord_61 ?_
          refine s_putl hX fi_X10_55 fp_X10 rfl (by decide +kernel) ly_c_tape rfl dX10_readWord_62 ?_
          refine s_aload_n hX dX10_readWord_65 rfl ?_
          refine s_dup hX dX10_readWord_66 rfl ?_
          refine s_getiv (v := (M.1 c_tape Tape_next)) hX fi_X10_36 ly_c_tape rfl dX10_readWord_67 rfl ?_
          refine s_iconst (v := 1) hX dX10_readWord_70 rfl ?_
          refine s_iadd hX dX10_readWord_71 ?_
          refine s_puti hX fi_X10_36 fp_X10 rfl (by decide +kernel) ly_c_tape rfl dX10_readWord_72 ?_
          refine s_goto (tgt := 0) hX dX10_readWord_75 (by decide) ?_
          exact ih _ h
def w_Tape_readWord (M : Mem) (Q : Mem → Prop) : Prop :=
  (((M.1 c_tape Tape_length) ≤ (M.1 c_tape Tape_next) → w_Tape_readWord_j78 M Q) ∧ (¬ (M.1 c_tape Tape_length) ≤ (M.1 c_tape Tape_next) → (vp_in (M.1 c_tape Tape_next) 1000 ∧ (((M.1 c_tape_signs (Int32.toNatClampNeg (M.1 c_tape Tape_next))) < 97 → w_Tape_readWord_j78 M Q) ∧ (¬ (M.1 c_tape_signs (Int32.toNatClampNeg (M.1 c_tape Tape_next))) < 97 → (vp_in (M.1 c_tape Tape_next) 1000 ∧ ((122 < (M.1 c_tape_signs (Int32.toNatClampNeg (M.1 c_tape Tape_next))) → w_Tape_readWord_j78 M Q) ∧ (¬ 122 < (M.1 c_tape_signs (Int32.toNatClampNeg (M.1 c_tape Tape_next))) → (vp_in (M.1 c_tape Tape_next) 1000 ∧ (∃ n26, w_Tape_readWord_L0 (fun M25 => w_Tape_readWord_j78 M25 Q) Q n26 (si (sl M c_tape Tape_word (((M.2 c_tape Tape_word) <<< (Int32.toInt64 (5 : Int32) &&& 63)) + (Int32.toInt64 (((M.1 c_tape_signs (Int32.toNatClampNeg (M.1 c_tape Tape_next))) - 97) + 1)))) c_tape Tape_next ((M.1 c_tape Tape_next) + 1))))))))))))
set_option maxHeartbeats 4000000 in
theorem t_Tape_readWord {X : Cx} (hX : Cok X cX10_readWord RX10 2 none 1 0 0) {Q : Mem → Prop} (hq : RV X 0 0 LY Q) {M : Mem} (h : w_Tape_readWord M Q) : Wat X 0 0 LY 0 [some (vr c_tape), none] [] M := by
  refine s_aload_n hX dX10_readWord_0 rfl ?_
  refine s_getiv (v := (M.1 c_tape Tape_next)) hX fi_X10_36 ly_c_tape rfl dX10_readWord_1 rfl ?_
  refine s_aload_n hX dX10_readWord_4 rfl ?_
  refine s_getiv (v := (M.1 c_tape Tape_length)) hX fi_X10_33 ly_c_tape rfl dX10_readWord_5 rfl ?_
  refine s_icmp_ge (tgt := 78) hX dX10_readWord_8 (by decide) (fun c => ?_) (fun c => ?_)
  · replace h := h.1 c
    exact t_Tape_readWord_j78 hX hq h
  · replace h := h.2 c
    refine s_aload_n hX dX10_readWord_11 rfl ?_
    refine s_getr hX fi_X10_9 ly_c_tape rfl dX10_readWord_12 ?_
    refine s_aload_n hX dX10_readWord_15 rfl ?_
    refine s_getiv (v := (M.1 c_tape Tape_next)) hX fi_X10_36 ly_c_tape rfl dX10_readWord_16 rfl ?_
    have hi := h.1
    replace h := h.2
    refine s_caldv (v := (M.1 c_tape_signs (Int32.toNatClampNeg (M.1 c_tape Tape_next)))) hX ly_c_tape_signs hi dX10_readWord_19 rfl ?_
    refine s_bipush (v := 97) hX dX10_readWord_20 rfl ?_
    refine s_icmp_lt (tgt := 78) hX dX10_readWord_22 (by decide) (fun c => ?_) (fun c => ?_)
    · replace h := h.1 c
      exact t_Tape_readWord_j78 hX hq h
    · replace h := h.2 c
      refine s_aload_n hX dX10_readWord_25 rfl ?_
      refine s_getr hX fi_X10_9 ly_c_tape rfl dX10_readWord_26 ?_
      refine s_aload_n hX dX10_readWord_29 rfl ?_
      refine s_getiv (v := (M.1 c_tape Tape_next)) hX fi_X10_36 ly_c_tape rfl dX10_readWord_30 rfl ?_
      have hi := h.1
      replace h := h.2
      refine s_caldv (v := (M.1 c_tape_signs (Int32.toNatClampNeg (M.1 c_tape Tape_next)))) hX ly_c_tape_signs hi dX10_readWord_33 rfl ?_
      refine s_bipush (v := 122) hX dX10_readWord_34 rfl ?_
      refine s_icmp_gt (tgt := 78) hX dX10_readWord_36 (by decide) (fun c => ?_) (fun c => ?_)
      · replace h := h.1 c
        exact t_Tape_readWord_j78 hX hq h
      · replace h := h.2 c
        refine s_aload_n hX dX10_readWord_39 rfl ?_
        refine s_aload_n hX dX10_readWord_40 rfl ?_
        refine s_getlv (v := (M.2 c_tape Tape_word)) hX fi_X10_55 ly_c_tape rfl dX10_readWord_41 rfl ?_
        refine s_iconst (v := 5) hX dX10_readWord_44 rfl ?_
        refine s_lshl hX dX10_readWord_45 ?_
        refine s_aload_n hX dX10_readWord_46 rfl ?_
        refine s_getr hX fi_X10_9 ly_c_tape rfl dX10_readWord_47 ?_
        refine s_aload_n hX dX10_readWord_50 rfl ?_
        refine s_getiv (v := (M.1 c_tape Tape_next)) hX fi_X10_36 ly_c_tape rfl dX10_readWord_51 rfl ?_
        have hi := h.1
        replace h := h.2
        refine s_caldv (v := (M.1 c_tape_signs (Int32.toNatClampNeg (M.1 c_tape Tape_next)))) hX ly_c_tape_signs hi dX10_readWord_54 rfl ?_
        refine s_bipush (v := 97) hX dX10_readWord_55 rfl ?_
        refine s_isub hX dX10_readWord_57 ?_
        refine s_iconst (v := 1) hX dX10_readWord_58 rfl ?_
        refine s_iadd hX dX10_readWord_59 ?_
        refine s_i2l hX dX10_readWord_60 ?_
        refine s_ladd hX dX10_readWord_61 ?_
        refine s_putl hX fi_X10_55 fp_X10 rfl (by decide +kernel) ly_c_tape rfl dX10_readWord_62 ?_
        refine s_aload_n hX dX10_readWord_65 rfl ?_
        refine s_dup hX dX10_readWord_66 rfl ?_
        refine s_getiv (v := (M.1 c_tape Tape_next)) hX fi_X10_36 ly_c_tape rfl dX10_readWord_67 rfl ?_
        refine s_iconst (v := 1) hX dX10_readWord_70 rfl ?_
        refine s_iadd hX dX10_readWord_71 ?_
        refine s_puti hX fi_X10_36 fp_X10 rfl (by decide +kernel) ly_c_tape rfl dX10_readWord_72 ?_
        refine s_goto (tgt := 0) hX dX10_readWord_75 (by decide) ?_
        obtain ⟨n26, h⟩ := h
        refine t_Tape_readWord_L0 hX hq ?_ n26 _ h
        intro M25 h
        exact t_Tape_readWord_j78 hX hq h
theorem c_Tape_readWord {M : Mem} {Q : Mem → Prop} (h : w_Tape_readWord M Q) : CV yX10_readWord cX10_readWord 2 none 1 0 0 LY LY [vr c_tape] M Q := mk_v rfl wd_co_X10_readWord rfl rfl (Nat.le_of_ble_eq_true rfl) (fun X hX hq => t_Tape_readWord hX hq h)
theorem mv_Tape_readWord : MV yX10_readWord cX10_readWord 2 none RX10 0 := ⟨wd_co_X10_readWord, wd_im_X10_readWord, wd_se_X10_readWord, wd_in_X10, by decide +kernel, by decide⟩
def w_Tape_step_j157 (l1 : Int32) (M : Mem) (Q : Bool → Mem → Prop) : Prop :=
  w_Tape_isSign l1 M (fun b19 M18 => Q true (si (si M18 c_tape Tape_token (if b19 = true then l1 else 1)) c_tape Tape_next ((M18.1 c_tape Tape_next) + 1)))
set_option maxHeartbeats 4000000 in
theorem t_Tape_step_j157 {X : Cx} (hX : Cok X cX10_step RX10 2 ((some .boolean)) 2 0 0) {Q : Bool → Mem → Prop} (hq : RI X 0 0 LY (bQ Q)) {l1 : Int32} {M : Mem} (h : w_Tape_step_j157 l1 M Q) : Wat X 0 0 LY 157 [some (vr c_tape), some (vi l1)] [] M := by
  refine s_aload_n hX dX10_step_157 rfl ?_
  refine s_iload_n hX dX10_step_158 rfl ?_
  refine s_csi (as := [vi l1]) (rest := [vr c_tape]) hX (c_Tape_isSign h) ms_Tape_isSign wd_ml_X10_68 dX10_step_159 rfl (Nat.le_of_ble_eq_true rfl) rfl (by decide) ⟨Nat.zero_le _, Nat.zero_le _⟩ (fun b19_ M18 h => ?_)
  obtain ⟨b19, rfl, h⟩ := h
  have hJ : Wat X 0 0 LY 170 [some (vr c_tape), some (vi l1)] [vi (if b19 = true then l1 else 1), vr c_tape] M18 := by
    refine s_puti hX fi_X10_59 fp_X10 rfl (by decide +kernel) ly_c_tape rfl dX10_step_170 ?_
    refine s_aload_n hX dX10_step_173 rfl ?_
    refine s_dup hX dX10_step_174 rfl ?_
    refine s_getiv (v := (M18.1 c_tape Tape_next)) hX fi_X10_36 ly_c_tape rfl dX10_step_175 rfl ?_
    refine s_iconst (v := 1) hX dX10_step_178 rfl ?_
    refine s_iadd hX dX10_step_179 ?_
    refine s_puti hX fi_X10_36 fp_X10 rfl (by decide +kernel) ly_c_tape rfl dX10_step_180 ?_
    refine s_iconst (v := 1) hX dX10_step_183 rfl ?_
    exact s_zret hX true hq rfl dX10_step_184 rfl h
  refine s_if_eq (tgt := 169) hX dX10_step_162 (by decide) (fun c => ?_) (fun c => ?_)
  · rw [if_neg (by simp [b2i_0 c])] at hJ
    refine s_iconst (v := 1) hX dX10_step_169 rfl ?_
    exact hJ
  · rw [if_pos (by simp [b2i_1 c])] at hJ
    refine s_iload_n hX dX10_step_165 rfl ?_
    refine s_goto (tgt := 170) hX dX10_step_166 (by decide) ?_
    exact hJ
def w_Tape_step_j138 (l1 : Int32) (M : Mem) (Q : Bool → Mem → Prop) : Prop :=
  ((l1 < 48 → w_Tape_step_j157 l1 M Q) ∧ (¬ l1 < 48 → ((57 < l1 → w_Tape_step_j157 l1 M Q) ∧ (¬ 57 < l1 → w_Tape_readNumber M (fun M22 => Q true M22)))))
set_option maxHeartbeats 4000000 in
theorem t_Tape_step_j138 {X : Cx} (hX : Cok X cX10_step RX10 2 ((some .boolean)) 2 0 0) {Q : Bool → Mem → Prop} (hq : RI X 0 0 LY (bQ Q)) {l1 : Int32} {M : Mem} (h : w_Tape_step_j138 l1 M Q) : Wat X 0 0 LY 138 [some (vr c_tape), some (vi l1)] [] M := by
  refine s_iload_n hX dX10_step_138 rfl ?_
  refine s_bipush (v := 48) hX dX10_step_139 rfl ?_
  refine s_icmp_lt (tgt := 157) hX dX10_step_141 (by decide) (fun c => ?_) (fun c => ?_)
  · replace h := h.1 c
    exact t_Tape_step_j157 hX hq h
  · replace h := h.2 c
    refine s_iload_n hX dX10_step_144 rfl ?_
    refine s_bipush (v := 57) hX dX10_step_145 rfl ?_
    refine s_icmp_gt (tgt := 157) hX dX10_step_147 (by decide) (fun c => ?_) (fun c => ?_)
    · replace h := h.1 c
      exact t_Tape_step_j157 hX hq h
    · replace h := h.2 c
      refine s_aload_n hX dX10_step_150 rfl ?_
      refine s_cvv (as := []) (rest := []) hX (c_Tape_readNumber h) mv_Tape_readNumber wd_ml_X10_65 dX10_step_151 ly_c_tape rfl rfl (Nat.le_of_ble_eq_true rfl) rfl (by decide) ⟨Nat.zero_le _, Nat.zero_le _⟩ (fun M22 h => ?_)
      refine s_goto (tgt := 183) hX dX10_step_154 (by decide) ?_
      refine s_iconst (v := 1) hX dX10_step_183 rfl ?_
      exact s_zret hX true hq rfl dX10_step_184 rfl h
def w_Tape_step_j99 (s0 : Int32) (M : Mem) (Q : Bool → Mem → Prop) : Prop :=
  (((M.1 c_tape Tape_next) < (M.1 c_tape Tape_length) → ((s0 < 97 → w_Tape_step_j138 s0 M Q) ∧ (¬ s0 < 97 → ((122 < s0 → w_Tape_step_j138 s0 M Q) ∧ (¬ 122 < s0 → w_Tape_readWord M (fun M27 => Q true M27)))))) ∧ (¬ (M.1 c_tape Tape_next) < (M.1 c_tape Tape_length) → Q true (si M c_tape Tape_token 0)))
set_option maxHeartbeats 4000000 in
theorem t_Tape_step_j99 {X : Cx} (hX : Cok X cX10_step RX10 2 ((some .boolean)) 2 0 0) {Q : Bool → Mem → Prop} (hq : RI X 0 0 LY (bQ Q)) {s0 : Int32} {M : Mem} (h : w_Tape_step_j99 s0 M Q) : Wat X 0 0 LY 99 [some (vr c_tape), none] [vi s0] M := by
  refine s_istore_n (lv' := [some (vr c_tape), some (vi s0)]) hX dX10_step_99 rfl rfl (Nat.le_of_ble_eq_true rfl) ?_
  refine s_aload_n hX dX10_step_100 rfl ?_
  refine s_getiv (v := (M.1 c_tape Tape_next)) hX fi_X10_36 ly_c_tape rfl dX10_step_101 rfl ?_
  refine s_aload_n hX dX10_step_104 rfl ?_
  refine s_getiv (v := (M.1 c_tape Tape_length)) hX fi_X10_33 ly_c_tape rfl dX10_step_105 rfl ?_
  refine s_icmp_lt (tgt := 119) hX dX10_step_108 (by decide) (fun c => ?_) (fun c => ?_)
  · replace h := h.1 c
    refine s_iload_n hX dX10_step_119 rfl ?_
    refine s_bipush (v := 97) hX dX10_step_120 rfl ?_
    refine s_icmp_lt (tgt := 138) hX dX10_step_122 (by decide) (fun c => ?_) (fun c => ?_)
    · replace h := h.1 c
      exact t_Tape_step_j138 hX hq h
    · replace h := h.2 c
      refine s_iload_n hX dX10_step_125 rfl ?_
      refine s_bipush (v := 122) hX dX10_step_126 rfl ?_
      refine s_icmp_gt (tgt := 138) hX dX10_step_128 (by decide) (fun c => ?_) (fun c => ?_)
      · replace h := h.1 c
        exact t_Tape_step_j138 hX hq h
      · replace h := h.2 c
        refine s_aload_n hX dX10_step_131 rfl ?_
        refine s_cvv (as := []) (rest := []) hX (c_Tape_readWord h) mv_Tape_readWord wd_ml_X10_62 dX10_step_132 ly_c_tape rfl rfl (Nat.le_of_ble_eq_true rfl) rfl (by decide) ⟨Nat.zero_le _, Nat.zero_le _⟩ (fun M27 h => ?_)
        refine s_goto (tgt := 183) hX dX10_step_135 (by decide) ?_
        refine s_iconst (v := 1) hX dX10_step_183 rfl ?_
        exact s_zret hX true hq rfl dX10_step_184 rfl h
  · replace h := h.2 c
    refine s_aload_n hX dX10_step_111 rfl ?_
    refine s_iconst (v := 0) hX dX10_step_112 rfl ?_
    refine s_puti hX fi_X10_59 fp_X10 rfl (by decide +kernel) ly_c_tape rfl dX10_step_113 ?_
    refine s_goto (tgt := 183) hX dX10_step_116 (by decide) ?_
    refine s_iconst (v := 1) hX dX10_step_183 rfl ?_
    exact s_zret hX true hq rfl dX10_step_184 rfl h
def w_Tape_step_j52 (M : Mem) (Q : Bool → Mem → Prop) : Prop :=
  (((M.1 c_tape Tape_length) ≤ (M.1 c_tape Tape_next) → w_Tape_step_j99 0 (sl (si (si (si M c_tape Tape_place (M.1 c_tape Tape_next)) c_tape Tape_number 0) c_tape Tape_keyword (-1)) c_tape Tape_word 0) Q) ∧ (¬ (M.1 c_tape Tape_length) ≤ (M.1 c_tape Tape_next) → (vp_in (M.1 c_tape Tape_next) 1000 ∧ w_Tape_step_j99 (M.1 c_tape_signs (Int32.toNatClampNeg (M.1 c_tape Tape_next))) (sl (si (si (si M c_tape Tape_place (M.1 c_tape Tape_next)) c_tape Tape_number 0) c_tape Tape_keyword (-1)) c_tape Tape_word 0) Q)))
set_option maxHeartbeats 4000000 in
theorem t_Tape_step_j52 {X : Cx} (hX : Cok X cX10_step RX10 2 ((some .boolean)) 2 0 0) {Q : Bool → Mem → Prop} (hq : RI X 0 0 LY (bQ Q)) {M : Mem} (h : w_Tape_step_j52 M Q) : Wat X 0 0 LY 52 [some (vr c_tape), none] [] M := by
  refine s_aload_n hX dX10_step_52 rfl ?_
  refine s_aload_n hX dX10_step_53 rfl ?_
  refine s_getiv (v := (M.1 c_tape Tape_next)) hX fi_X10_36 ly_c_tape rfl dX10_step_54 rfl ?_
  refine s_puti hX fi_X10_43 fp_X10 rfl (by decide +kernel) ly_c_tape rfl dX10_step_57 ?_
  refine s_aload_n hX dX10_step_60 rfl ?_
  refine s_iconst (v := 0) hX dX10_step_61 rfl ?_
  refine s_puti hX fi_X10_49 fp_X10 rfl (by decide +kernel) ly_c_tape rfl dX10_step_62 ?_
  refine s_aload_n hX dX10_step_65 rfl ?_
  refine s_iconst (v := (-1)) hX dX10_step_66 rfl ?_
  refine s_puti hX fi_X10_52 fp_X10 rfl (by decide +kernel) ly_c_tape rfl dX10_step_67 ?_
  refine s_aload_n hX dX10_step_70 rfl ?_
  refine s_lconst (v := 0) hX dX10_step_71 rfl ?_
  refine s_putl hX fi_X10_55 fp_X10 rfl (by decide +kernel) ly_c_tape rfl dX10_step_72 ?_
  refine s_aload_n hX dX10_step_75 rfl ?_
  refine s_getiv (v := (M.1 c_tape Tape_next)) hX fi_X10_36 ly_c_tape rfl dX10_step_76 rfl ?_
  refine s_aload_n hX dX10_step_79 rfl ?_
  refine s_getiv (v := (M.1 c_tape Tape_length)) hX fi_X10_33 ly_c_tape rfl dX10_step_80 rfl ?_
  refine s_icmp_ge (tgt := 98) hX dX10_step_83 (by decide) (fun c => ?_) (fun c => ?_)
  · replace h := h.1 c
    refine s_iconst (v := 0) hX dX10_step_98 rfl ?_
    exact t_Tape_step_j99 hX hq h
  · replace h := h.2 c
    refine s_aload_n hX dX10_step_86 rfl ?_
    refine s_getr hX fi_X10_9 ly_c_tape rfl dX10_step_87 ?_
    refine s_aload_n hX dX10_step_90 rfl ?_
    refine s_getiv (v := (M.1 c_tape Tape_next)) hX fi_X10_36 ly_c_tape rfl dX10_step_91 rfl ?_
    have hi := h.1
    replace h := h.2
    refine s_caldv (v := (M.1 c_tape_signs (Int32.toNatClampNeg (M.1 c_tape Tape_next)))) hX ly_c_tape_signs hi dX10_step_94 rfl ?_
    refine s_goto (tgt := 99) hX dX10_step_95 (by decide) ?_
    exact t_Tape_step_j99 hX hq h
def w_Tape_step_L0 (K : Mem → Prop) (Q : Bool → Mem → Prop) : Nat → Mem → Prop
  | 0, _ => False
  | n + 1, M => (((M.1 c_tape Tape_length) ≤ (M.1 c_tape Tape_next) → K M) ∧ (¬ (M.1 c_tape Tape_length) ≤ (M.1 c_tape Tape_next) → (vp_in (M.1 c_tape Tape_next) 1000 ∧ (((M.1 c_tape_signs (Int32.toNatClampNeg (M.1 c_tape Tape_next))) = 32 → w_Tape_step_L0 K Q n (si M c_tape Tape_next ((M.1 c_tape Tape_next) + 1))) ∧ (¬ (M.1 c_tape_signs (Int32.toNatClampNeg (M.1 c_tape Tape_next))) = 32 → (vp_in (M.1 c_tape Tape_next) 1000 ∧ ((¬ (M.1 c_tape_signs (Int32.toNatClampNeg (M.1 c_tape Tape_next))) = 10 → K M) ∧ ((M.1 c_tape_signs (Int32.toNatClampNeg (M.1 c_tape Tape_next))) = 10 → w_Tape_step_L0 K Q n (si M c_tape Tape_next ((M.1 c_tape Tape_next) + 1))))))))))
set_option maxHeartbeats 4000000 in
theorem t_Tape_step_L0 {X : Cx} (hX : Cok X cX10_step RX10 2 ((some .boolean)) 2 0 0) {Q : Bool → Mem → Prop} (hq : RI X 0 0 LY (bQ Q)) {K : Mem → Prop} (hK : ∀ (M : Mem), K M → Wat X 0 0 LY 52 [some (vr c_tape), none] [] M) : ∀ (n : Nat) (M : Mem), w_Tape_step_L0 K Q n M → Wat X 0 0 LY 0 [some (vr c_tape), none] [] M := by
  intro n
  induction n with
  | zero => intro _ h; exact h.elim
  | succ n ih =>
    intro M h
    refine s_aload_n hX dX10_step_0 rfl ?_
    refine s_getiv (v := (M.1 c_tape Tape_next)) hX fi_X10_36 ly_c_tape rfl dX10_step_1 rfl ?_
    refine s_aload_n hX dX10_step_4 rfl ?_
    refine s_getiv (v := (M.1 c_tape Tape_length)) hX fi_X10_33 ly_c_tape rfl dX10_step_5 rfl ?_
    refine s_icmp_ge (tgt := 52) hX dX10_step_8 (by decide) (fun c => ?_) (fun c => ?_)
    · replace h := h.1 c
      exact hK _ h
    · replace h := h.2 c
      refine s_aload_n hX dX10_step_11 rfl ?_
      refine s_getr hX fi_X10_9 ly_c_tape rfl dX10_step_12 ?_
      refine s_aload_n hX dX10_step_15 rfl ?_
      refine s_getiv (v := (M.1 c_tape Tape_next)) hX fi_X10_36 ly_c_tape rfl dX10_step_16 rfl ?_
      have hi := h.1
      replace h := h.2
      refine s_caldv (v := (M.1 c_tape_signs (Int32.toNatClampNeg (M.1 c_tape Tape_next)))) hX ly_c_tape_signs hi dX10_step_19 rfl ?_
      refine s_bipush (v := 32) hX dX10_step_20 rfl ?_
      refine s_icmp_eq (tgt := 39) hX dX10_step_22 (by decide) (fun c => ?_) (fun c => ?_)
      · replace h := h.1 c
        refine s_aload_n hX dX10_step_39 rfl ?_
        refine s_dup hX dX10_step_40 rfl ?_
        refine s_getiv (v := (M.1 c_tape Tape_next)) hX fi_X10_36 ly_c_tape rfl dX10_step_41 rfl ?_
        refine s_iconst (v := 1) hX dX10_step_44 rfl ?_
        refine s_iadd hX dX10_step_45 ?_
        refine s_puti hX fi_X10_36 fp_X10 rfl (by decide +kernel) ly_c_tape rfl dX10_step_46 ?_
        refine s_goto (tgt := 0) hX dX10_step_49 (by decide) ?_
        exact ih _ h
      · replace h := h.2 c
        refine s_aload_n hX dX10_step_25 rfl ?_
        refine s_getr hX fi_X10_9 ly_c_tape rfl dX10_step_26 ?_
        refine s_aload_n hX dX10_step_29 rfl ?_
        refine s_getiv (v := (M.1 c_tape Tape_next)) hX fi_X10_36 ly_c_tape rfl dX10_step_30 rfl ?_
        have hi := h.1
        replace h := h.2
        refine s_caldv (v := (M.1 c_tape_signs (Int32.toNatClampNeg (M.1 c_tape Tape_next)))) hX ly_c_tape_signs hi dX10_step_33 rfl ?_
        refine s_bipush (v := 10) hX dX10_step_34 rfl ?_
        refine s_icmp_ne (tgt := 52) hX dX10_step_36 (by decide) (fun c => ?_) (fun c => ?_)
        · replace h := h.1 c
          exact hK _ h
        · replace h := h.2 c
          refine s_aload_n hX dX10_step_39 rfl ?_
          refine s_dup hX dX10_step_40 rfl ?_
          refine s_getiv (v := (M.1 c_tape Tape_next)) hX fi_X10_36 ly_c_tape rfl dX10_step_41 rfl ?_
          refine s_iconst (v := 1) hX dX10_step_44 rfl ?_
          refine s_iadd hX dX10_step_45 ?_
          refine s_puti hX fi_X10_36 fp_X10 rfl (by decide +kernel) ly_c_tape rfl dX10_step_46 ?_
          refine s_goto (tgt := 0) hX dX10_step_49 (by decide) ?_
          exact ih _ h
def w_Tape_step (M : Mem) (Q : Bool → Mem → Prop) : Prop :=
  (((M.1 c_tape Tape_length) ≤ (M.1 c_tape Tape_next) → w_Tape_step_j52 M Q) ∧ (¬ (M.1 c_tape Tape_length) ≤ (M.1 c_tape Tape_next) → (vp_in (M.1 c_tape Tape_next) 1000 ∧ (((M.1 c_tape_signs (Int32.toNatClampNeg (M.1 c_tape Tape_next))) = 32 → (∃ n29, w_Tape_step_L0 (fun M28 => w_Tape_step_j52 M28 Q) Q n29 (si M c_tape Tape_next ((M.1 c_tape Tape_next) + 1)))) ∧ (¬ (M.1 c_tape_signs (Int32.toNatClampNeg (M.1 c_tape Tape_next))) = 32 → (vp_in (M.1 c_tape Tape_next) 1000 ∧ ((¬ (M.1 c_tape_signs (Int32.toNatClampNeg (M.1 c_tape Tape_next))) = 10 → w_Tape_step_j52 M Q) ∧ ((M.1 c_tape_signs (Int32.toNatClampNeg (M.1 c_tape Tape_next))) = 10 → (∃ n31, w_Tape_step_L0 (fun M30 => w_Tape_step_j52 M30 Q) Q n31 (si M c_tape Tape_next ((M.1 c_tape Tape_next) + 1)))))))))))
set_option maxHeartbeats 4000000 in
theorem t_Tape_step {X : Cx} (hX : Cok X cX10_step RX10 2 ((some .boolean)) 2 0 0) {Q : Bool → Mem → Prop} (hq : RI X 0 0 LY (bQ Q)) {M : Mem} (h : w_Tape_step M Q) : Wat X 0 0 LY 0 [some (vr c_tape), none] [] M := by
  refine s_aload_n hX dX10_step_0 rfl ?_
  refine s_getiv (v := (M.1 c_tape Tape_next)) hX fi_X10_36 ly_c_tape rfl dX10_step_1 rfl ?_
  refine s_aload_n hX dX10_step_4 rfl ?_
  refine s_getiv (v := (M.1 c_tape Tape_length)) hX fi_X10_33 ly_c_tape rfl dX10_step_5 rfl ?_
  refine s_icmp_ge (tgt := 52) hX dX10_step_8 (by decide) (fun c => ?_) (fun c => ?_)
  · replace h := h.1 c
    exact t_Tape_step_j52 hX hq h
  · replace h := h.2 c
    refine s_aload_n hX dX10_step_11 rfl ?_
    refine s_getr hX fi_X10_9 ly_c_tape rfl dX10_step_12 ?_
    refine s_aload_n hX dX10_step_15 rfl ?_
    refine s_getiv (v := (M.1 c_tape Tape_next)) hX fi_X10_36 ly_c_tape rfl dX10_step_16 rfl ?_
    have hi := h.1
    replace h := h.2
    refine s_caldv (v := (M.1 c_tape_signs (Int32.toNatClampNeg (M.1 c_tape Tape_next)))) hX ly_c_tape_signs hi dX10_step_19 rfl ?_
    refine s_bipush (v := 32) hX dX10_step_20 rfl ?_
    refine s_icmp_eq (tgt := 39) hX dX10_step_22 (by decide) (fun c => ?_) (fun c => ?_)
    · replace h := h.1 c
      refine s_aload_n hX dX10_step_39 rfl ?_
      refine s_dup hX dX10_step_40 rfl ?_
      refine s_getiv (v := (M.1 c_tape Tape_next)) hX fi_X10_36 ly_c_tape rfl dX10_step_41 rfl ?_
      refine s_iconst (v := 1) hX dX10_step_44 rfl ?_
      refine s_iadd hX dX10_step_45 ?_
      refine s_puti hX fi_X10_36 fp_X10 rfl (by decide +kernel) ly_c_tape rfl dX10_step_46 ?_
      refine s_goto (tgt := 0) hX dX10_step_49 (by decide) ?_
      obtain ⟨n29, h⟩ := h
      refine t_Tape_step_L0 hX hq ?_ n29 _ h
      intro M28 h
      exact t_Tape_step_j52 hX hq h
    · replace h := h.2 c
      refine s_aload_n hX dX10_step_25 rfl ?_
      refine s_getr hX fi_X10_9 ly_c_tape rfl dX10_step_26 ?_
      refine s_aload_n hX dX10_step_29 rfl ?_
      refine s_getiv (v := (M.1 c_tape Tape_next)) hX fi_X10_36 ly_c_tape rfl dX10_step_30 rfl ?_
      have hi := h.1
      replace h := h.2
      refine s_caldv (v := (M.1 c_tape_signs (Int32.toNatClampNeg (M.1 c_tape Tape_next)))) hX ly_c_tape_signs hi dX10_step_33 rfl ?_
      refine s_bipush (v := 10) hX dX10_step_34 rfl ?_
      refine s_icmp_ne (tgt := 52) hX dX10_step_36 (by decide) (fun c => ?_) (fun c => ?_)
      · replace h := h.1 c
        exact t_Tape_step_j52 hX hq h
      · replace h := h.2 c
        refine s_aload_n hX dX10_step_39 rfl ?_
        refine s_dup hX dX10_step_40 rfl ?_
        refine s_getiv (v := (M.1 c_tape Tape_next)) hX fi_X10_36 ly_c_tape rfl dX10_step_41 rfl ?_
        refine s_iconst (v := 1) hX dX10_step_44 rfl ?_
        refine s_iadd hX dX10_step_45 ?_
        refine s_puti hX fi_X10_36 fp_X10 rfl (by decide +kernel) ly_c_tape rfl dX10_step_46 ?_
        refine s_goto (tgt := 0) hX dX10_step_49 (by decide) ?_
        obtain ⟨n31, h⟩ := h
        refine t_Tape_step_L0 hX hq ?_ n31 _ h
        intro M30 h
        exact t_Tape_step_j52 hX hq h
theorem c_Tape_step {M : Mem} {Q : Bool → Mem → Prop} (h : w_Tape_step M Q) : CI yX10_step cX10_step 2 ((some .boolean)) 2 0 0 LY LY [vr c_tape] M (bQ Q) := mk_i rfl wd_co_X10_step rfl rfl (Nat.le_of_ble_eq_true rfl) (fun X hX hq => t_Tape_step hX hq h)
theorem mv_Tape_step : MV yX10_step cX10_step 2 ((some .boolean)) RX10 0 := ⟨wd_co_X10_step, wd_im_X10_step, wd_se_X10_step, wd_in_X10, by decide +kernel, by decide⟩
def w_Tape_rewind (M : Mem) (Q : Mem → Prop) : Prop :=
  w_Tape_step (si M c_tape Tape_next 0) (fun b33 M32 => Q M32)
set_option maxHeartbeats 4000000 in
theorem t_Tape_rewind {X : Cx} (hX : Cok X cX10_rewind RX10 1 none 3 0 0) {Q : Mem → Prop} (hq : RV X 0 0 LY Q) {M : Mem} (h : w_Tape_rewind M Q) : Wat X 0 0 LY 0 [some (vr c_tape)] [] M := by
  refine s_aload_n hX dX10_rewind_0 rfl ?_
  refine s_iconst (v := 0) hX dX10_rewind_1 rfl ?_
  refine s_puti hX fi_X10_36 fp_X10 rfl (by decide +kernel) ly_c_tape rfl dX10_rewind_2 ?_
  refine s_aload_n hX dX10_rewind_5 rfl ?_
  refine s_cvi (as := []) (rest := []) hX (c_Tape_step h) mv_Tape_step wd_ml_X10_39 dX10_rewind_6 ly_c_tape rfl rfl (Nat.le_of_ble_eq_true rfl) rfl (by decide) ⟨Nat.zero_le _, Nat.zero_le _⟩ (fun b33_ M32 h => ?_)
  obtain ⟨b33, rfl, h⟩ := h
  refine s_pop hX dX10_rewind_9 rfl ?_
  exact s_vret hX hq rfl dX10_rewind_10 h
theorem c_Tape_rewind {M : Mem} {Q : Mem → Prop} (h : w_Tape_rewind M Q) : CV yX10_rewind cX10_rewind 1 none 3 0 0 LY LY [vr c_tape] M Q := mk_v rfl wd_co_X10_rewind rfl rfl (Nat.le_of_ble_eq_true rfl) (fun X hX hq => t_Tape_rewind hX hq h)
theorem mv_Tape_rewind : MV yX10_rewind cX10_rewind 1 none RX10 0 := ⟨wd_co_X10_rewind, wd_im_X10_rewind, wd_se_X10_rewind, wd_in_X10, by decide +kernel, by decide⟩
def w_Tape_fail (a0 : Int32) (M : Mem) (Q : Bool → Mem → Prop) : Prop :=
  Q false (si M c_tape Tape_fault (a0 + (16 * (M.1 c_tape Tape_place))))
set_option maxHeartbeats 4000000 in
theorem t_Tape_fail {X : Cx} (hX : Cok X cX10_fail RX10 2 ((some .boolean)) 1 0 0) {Q : Bool → Mem → Prop} (hq : RI X 0 0 LY (bQ Q)) {M : Mem} {a0 : Int32} (h : w_Tape_fail a0 M Q) : Wat X 0 0 LY 0 [some (vr c_tape), some (vi a0)] [] M := by
  refine s_aload_n hX dX10_fail_0 rfl ?_
  refine s_iload_n hX dX10_fail_1 rfl ?_
  refine s_bipush (v := 16) hX dX10_fail_2 rfl ?_
  refine s_aload_n hX dX10_fail_4 rfl ?_
  refine s_getiv (v := (M.1 c_tape Tape_place)) hX fi_X10_43 ly_c_tape rfl dX10_fail_5 rfl ?_
  refine s_imul hX dX10_fail_8 ?_
  refine s_iadd hX dX10_fail_9 ?_
  refine s_puti hX fi_X10_46 fp_X10 rfl (by decide +kernel) ly_c_tape rfl dX10_fail_10 ?_
  refine s_iconst (v := 0) hX dX10_fail_13 rfl ?_
  exact s_zret hX false hq rfl dX10_fail_14 rfl h
theorem c_Tape_fail {a0 : Int32} {M : Mem} {Q : Bool → Mem → Prop} (h : w_Tape_fail a0 M Q) : CI yX10_fail cX10_fail 2 ((some .boolean)) 1 0 0 LY LY [vr c_tape, vi a0] M (bQ Q) := mk_i rfl wd_co_X10_fail rfl rfl (Nat.le_of_ble_eq_true rfl) (fun X hX hq => t_Tape_fail hX hq h)
theorem mv_Tape_fail : MV yX10_fail cX10_fail 2 ((some .boolean)) RX10 1 := ⟨wd_co_X10_fail, wd_im_X10_fail, wd_se_X10_fail, wd_in_X10, by decide +kernel, by decide⟩
def w_Rd_takeKeyword (a0 : Int32) (M : Mem) (Q : Bool → Mem → Prop) : Prop :=
  ((¬ (M.1 c_tape Tape_keyword) = a0 → w_Tape_fail 1 M (fun b36 M35 => Q b36 M35)) ∧ ((M.1 c_tape Tape_keyword) = a0 → w_Tape_step M (fun b38 M37 => Q b38 M37)))
set_option maxHeartbeats 4000000 in
theorem t_Rd_takeKeyword {X : Cx} (hX : Cok X cX8_takeKeyword RX8 2 ((some .boolean)) 3 0 0) {Q : Bool → Mem → Prop} (hq : RI X 0 0 LY (bQ Q)) {M : Mem} {a0 : Int32} (h : w_Rd_takeKeyword a0 M Q) : Wat X 0 0 LY 0 [some (vr c_reader), some (vi a0)] [] M := by
  refine s_aload_n hX dX8_takeKeyword_0 rfl ?_
  refine s_getr hX fi_X8_22 ly_c_reader rfl dX8_takeKeyword_1 ?_
  refine s_getiv (v := (M.1 c_tape Tape_keyword)) hX fi_X8_105 ly_c_tape rfl dX8_takeKeyword_4 rfl ?_
  refine s_iload_n hX dX8_takeKeyword_7 rfl ?_
  refine s_icmp_ne (tgt := 21) hX dX8_takeKeyword_8 (by decide) (fun c => ?_) (fun c => ?_)
  · replace h := h.1 c
    refine s_aload_n hX dX8_takeKeyword_21 rfl ?_
    refine s_getr hX fi_X8_22 ly_c_reader rfl dX8_takeKeyword_22 ?_
    refine s_iconst (v := 1) hX dX8_takeKeyword_25 rfl ?_
    refine s_cvi (as := [vi 1]) (rest := []) hX (c_Tape_fail h) mv_Tape_fail wd_ml_X8_134 dX8_takeKeyword_26 ly_c_tape rfl rfl (Nat.le_of_ble_eq_true rfl) rfl (by decide) ⟨Nat.zero_le _, Nat.zero_le _⟩ (fun b36_ M35 h => ?_)
    obtain ⟨b36, rfl, h⟩ := h
    exact s_zret hX _ hq rfl dX8_takeKeyword_29 rfl h
  · replace h := h.2 c
    refine s_aload_n hX dX8_takeKeyword_11 rfl ?_
    refine s_getr hX fi_X8_22 ly_c_reader rfl dX8_takeKeyword_12 ?_
    refine s_cvi (as := []) (rest := []) hX (c_Tape_step h) mv_Tape_step wd_ml_X8_96 dX8_takeKeyword_15 ly_c_tape rfl rfl (Nat.le_of_ble_eq_true rfl) rfl (by decide) ⟨Nat.zero_le _, Nat.zero_le _⟩ (fun b38_ M37 h => ?_)
    obtain ⟨b38, rfl, h⟩ := h
    refine s_goto (tgt := 29) hX dX8_takeKeyword_18 (by decide) ?_
    exact s_zret hX _ hq rfl dX8_takeKeyword_29 rfl h
theorem c_Rd_takeKeyword {a0 : Int32} {M : Mem} {Q : Bool → Mem → Prop} (h : w_Rd_takeKeyword a0 M Q) : CI yX8_takeKeyword cX8_takeKeyword 2 ((some .boolean)) 3 0 0 LY LY [vr c_reader, vi a0] M (bQ Q) := mk_i rfl wd_co_X8_takeKeyword rfl rfl (Nat.le_of_ble_eq_true rfl) (fun X hX hq => t_Rd_takeKeyword hX hq h)
theorem mv_Rd_takeKeyword : MV yX8_takeKeyword cX8_takeKeyword 2 ((some .boolean)) RX8 1 := ⟨wd_co_X8_takeKeyword, wd_im_X8_takeKeyword, wd_se_X8_takeKeyword, wd_in_X8, by decide +kernel, by decide⟩
def w_Rd_isNumber_j42 (M : Mem) (Q : Bool → Mem → Prop) : Prop :=
  w_Tape_fail 4 M (fun b42 M41 => (∃ bb : Bool, (if b42 = true then (1 : Int32) else 0) = b2i bb ∧ Q bb M41))
set_option maxHeartbeats 4000000 in
theorem t_Rd_isNumber_j42 {X : Cx} (hX : Cok X cX8_isNumber RX8 3 ((some .boolean)) 2 0 0) {Q : Bool → Mem → Prop} (hq : RI X 0 0 LY (bQ Q)) {M : Mem} (h : w_Rd_isNumber_j42 M Q) : Wat X 0 0 LY 42 [some (vr c_reader), none, none] [] M := by
  refine s_aload_n hX dX8_isNumber_42 rfl ?_
  refine s_getr hX fi_X8_22 ly_c_reader rfl dX8_isNumber_43 ?_
  refine s_iconst (v := 4) hX dX8_isNumber_46 rfl ?_
  refine s_cvi (as := [vi 4]) (rest := []) hX (c_Tape_fail h) mv_Tape_fail wd_ml_X8_134 dX8_isNumber_47 ly_c_tape rfl rfl (Nat.le_of_ble_eq_true rfl) rfl (by decide) ⟨Nat.zero_le _, Nat.zero_le _⟩ (fun b42_ M41 h => ?_)
  obtain ⟨b42, rfl, h⟩ := h
  have hJ : Wat X 0 0 LY 58 [some (vr c_reader), none, none] [vi (if b42 = true then (1 : Int32) else 0)] M41 := by
    obtain ⟨bb, hbb, h⟩ := h
    exact s_zret hX bb hq rfl dX8_isNumber_58 hbb h
  refine s_if_eq (tgt := 57) hX dX8_isNumber_50 (by decide) (fun c => ?_) (fun c => ?_)
  · rw [if_neg (by simp [b2i_0 c])] at hJ
    refine s_iconst (v := 0) hX dX8_isNumber_57 rfl ?_
    exact hJ
  · rw [if_pos (by simp [b2i_1 c])] at hJ
    refine s_iconst (v := 1) hX dX8_isNumber_53 rfl ?_
    refine s_goto (tgt := 58) hX dX8_isNumber_54 (by decide) ?_
    exact hJ
def w_Rd_isNumber (a0 : Int32) (a1 : Int32) (M : Mem) (Q : Bool → Mem → Prop) : Prop :=
  (((M.1 c_tape Tape_token) = 3 → (((M.1 c_tape Tape_number) < a0 → w_Rd_isNumber_j42 M Q) ∧ (¬ (M.1 c_tape Tape_number) < a0 → (((M.1 c_tape Tape_number) ≤ a1 → Q true M) ∧ (¬ (M.1 c_tape Tape_number) ≤ a1 → w_Rd_isNumber_j42 M Q))))) ∧ (¬ (M.1 c_tape Tape_token) = 3 → w_Tape_fail 1 M (fun b44 M43 => Q b44 M43)))
set_option maxHeartbeats 4000000 in
theorem t_Rd_isNumber {X : Cx} (hX : Cok X cX8_isNumber RX8 3 ((some .boolean)) 2 0 0) {Q : Bool → Mem → Prop} (hq : RI X 0 0 LY (bQ Q)) {M : Mem} {a0 : Int32} {a1 : Int32} (h : w_Rd_isNumber a0 a1 M Q) : Wat X 0 0 LY 0 [some (vr c_reader), some (vi a0), some (vi a1)] [] M := by
  refine s_aload_n hX dX8_isNumber_0 rfl ?_
  refine s_getr hX fi_X8_22 ly_c_reader rfl dX8_isNumber_1 ?_
  refine s_getiv (v := (M.1 c_tape Tape_token)) hX fi_X8_73 ly_c_tape rfl dX8_isNumber_4 rfl ?_
  refine s_iconst (v := 3) hX dX8_isNumber_7 rfl ?_
  refine s_icmp_eq (tgt := 20) hX dX8_isNumber_8 (by decide) (fun c => ?_) (fun c => ?_)
  · replace h := h.1 c
    refine s_aload_n hX dX8_isNumber_20 rfl ?_
    refine s_getr hX fi_X8_22 ly_c_reader rfl dX8_isNumber_21 ?_
    refine s_getiv (v := (M.1 c_tape Tape_number)) hX fi_X8_90 ly_c_tape rfl dX8_isNumber_24 rfl ?_
    refine s_iload_n hX dX8_isNumber_27 rfl ?_
    refine s_icmp_lt (tgt := 42) hX dX8_isNumber_28 (by decide) (fun c => ?_) (fun c => ?_)
    · replace h := h.1 c
      refine s_mask [true, false, false] (lv' := [some (vr c_reader), none, none]) rfl rfl ?_
      exact t_Rd_isNumber_j42 hX hq h
    · replace h := h.2 c
      refine s_aload_n hX dX8_isNumber_31 rfl ?_
      refine s_getr hX fi_X8_22 ly_c_reader rfl dX8_isNumber_32 ?_
      refine s_getiv (v := (M.1 c_tape Tape_number)) hX fi_X8_90 ly_c_tape rfl dX8_isNumber_35 rfl ?_
      refine s_iload_n hX dX8_isNumber_38 rfl ?_
      refine s_icmp_le (tgt := 53) hX dX8_isNumber_39 (by decide) (fun c => ?_) (fun c => ?_)
      · replace h := h.1 c
        refine s_iconst (v := 1) hX dX8_isNumber_53 rfl ?_
        refine s_goto (tgt := 58) hX dX8_isNumber_54 (by decide) ?_
        exact s_zret hX true hq rfl dX8_isNumber_58 rfl h
      · replace h := h.2 c
        refine s_mask [true, false, false] (lv' := [some (vr c_reader), none, none]) rfl rfl ?_
        exact t_Rd_isNumber_j42 hX hq h
  · replace h := h.2 c
    refine s_aload_n hX dX8_isNumber_11 rfl ?_
    refine s_getr hX fi_X8_22 ly_c_reader rfl dX8_isNumber_12 ?_
    refine s_iconst (v := 1) hX dX8_isNumber_15 rfl ?_
    refine s_cvi (as := [vi 1]) (rest := []) hX (c_Tape_fail h) mv_Tape_fail wd_ml_X8_134 dX8_isNumber_16 ly_c_tape rfl rfl (Nat.le_of_ble_eq_true rfl) rfl (by decide) ⟨Nat.zero_le _, Nat.zero_le _⟩ (fun b44_ M43 h => ?_)
    obtain ⟨b44, rfl, h⟩ := h
    exact s_zret hX _ hq rfl dX8_isNumber_19 rfl h
theorem c_Rd_isNumber {a0 : Int32} {a1 : Int32} {M : Mem} {Q : Bool → Mem → Prop} (h : w_Rd_isNumber a0 a1 M Q) : CI yX8_isNumber cX8_isNumber 3 ((some .boolean)) 2 0 0 LY LY [vr c_reader, vi a0, vi a1] M (bQ Q) := mk_i rfl wd_co_X8_isNumber rfl rfl (Nat.le_of_ble_eq_true rfl) (fun X hX hq => t_Rd_isNumber hX hq h)
theorem mv_Rd_isNumber : MV yX8_isNumber cX8_isNumber 3 ((some .boolean)) RX8 2 := ⟨wd_co_X8_isNumber, wd_im_X8_isNumber, wd_se_X8_isNumber, wd_in_X8, by decide +kernel, by decide⟩
def w_Rd_takeEnd (M : Mem) (Q : Bool → Mem → Prop) : Prop :=
  ((¬ (M.1 c_tape Tape_token) = 59 → w_Tape_fail 1 M (fun b54 M53 => Q b54 M53)) ∧ ((M.1 c_tape Tape_token) = 59 → w_Tape_step M (fun b56 M55 => Q b56 M55)))
set_option maxHeartbeats 4000000 in
theorem t_Rd_takeEnd {X : Cx} (hX : Cok X cX8_takeEnd RX8 1 ((some .boolean)) 3 0 0) {Q : Bool → Mem → Prop} (hq : RI X 0 0 LY (bQ Q)) {M : Mem} (h : w_Rd_takeEnd M Q) : Wat X 0 0 LY 0 [some (vr c_reader)] [] M := by
  refine s_aload_n hX dX8_takeEnd_0 rfl ?_
  refine s_getr hX fi_X8_22 ly_c_reader rfl dX8_takeEnd_1 ?_
  refine s_getiv (v := (M.1 c_tape Tape_token)) hX fi_X8_73 ly_c_tape rfl dX8_takeEnd_4 rfl ?_
  refine s_bipush (v := 59) hX dX8_takeEnd_7 rfl ?_
  refine s_icmp_ne (tgt := 22) hX dX8_takeEnd_9 (by decide) (fun c => ?_) (fun c => ?_)
  · replace h := h.1 c
    refine s_aload_n hX dX8_takeEnd_22 rfl ?_
    refine s_getr hX fi_X8_22 ly_c_reader rfl dX8_takeEnd_23 ?_
    refine s_iconst (v := 1) hX dX8_takeEnd_26 rfl ?_
    refine s_cvi (as := [vi 1]) (rest := []) hX (c_Tape_fail h) mv_Tape_fail wd_ml_X8_134 dX8_takeEnd_27 ly_c_tape rfl rfl (Nat.le_of_ble_eq_true rfl) rfl (by decide) ⟨Nat.zero_le _, Nat.zero_le _⟩ (fun b54_ M53 h => ?_)
    obtain ⟨b54, rfl, h⟩ := h
    exact s_zret hX _ hq rfl dX8_takeEnd_30 rfl h
  · replace h := h.2 c
    refine s_aload_n hX dX8_takeEnd_12 rfl ?_
    refine s_getr hX fi_X8_22 ly_c_reader rfl dX8_takeEnd_13 ?_
    refine s_cvi (as := []) (rest := []) hX (c_Tape_step h) mv_Tape_step wd_ml_X8_96 dX8_takeEnd_16 ly_c_tape rfl rfl (Nat.le_of_ble_eq_true rfl) rfl (by decide) ⟨Nat.zero_le _, Nat.zero_le _⟩ (fun b56_ M55 h => ?_)
    obtain ⟨b56, rfl, h⟩ := h
    refine s_goto (tgt := 30) hX dX8_takeEnd_19 (by decide) ?_
    exact s_zret hX _ hq rfl dX8_takeEnd_30 rfl h
theorem c_Rd_takeEnd {M : Mem} {Q : Bool → Mem → Prop} (h : w_Rd_takeEnd M Q) : CI yX8_takeEnd cX8_takeEnd 1 ((some .boolean)) 3 0 0 LY LY [vr c_reader] M (bQ Q) := mk_i rfl wd_co_X8_takeEnd rfl rfl (Nat.le_of_ble_eq_true rfl) (fun X hX hq => t_Rd_takeEnd hX hq h)
theorem mv_Rd_takeEnd : MV yX8_takeEnd cX8_takeEnd 1 ((some .boolean)) RX8 0 := ⟨wd_co_X8_takeEnd, wd_im_X8_takeEnd, wd_se_X8_takeEnd, wd_in_X8, by decide +kernel, by decide⟩
def w_Rd_readHills (M : Mem) (Q : Bool → Mem → Prop) : Prop :=
  w_Rd_takeKeyword 0 M (fun b40 M39 => ((b40 = false → Q false M39) ∧ (b40 = true → w_Rd_isNumber 2 8 M39 (fun b46 M45 => ((b46 = true → w_Tape_step (si M45 c_draft Land_wide (M45.1 c_tape Tape_number)) (fun b48 M47 => w_Rd_isNumber 2 8 M47 (fun b50 M49 => ((b50 = true → w_Tape_step (si M49 c_draft Land_deep (M49.1 c_tape Tape_number)) (fun b52 M51 => ((b52 = false → Q false M51) ∧ (b52 = true → w_Rd_takeEnd M51 (fun b58 M57 => (∃ bb : Bool, (if b58 = true then (1 : Int32) else 0) = b2i bb ∧ Q bb M57)))))) ∧ (b50 = false → Q false M49))))) ∧ (b46 = false → Q false M45))))))
set_option maxHeartbeats 4000000 in
theorem t_Rd_readHills {X : Cx} (hX : Cok X cX8_readHills RX8 1 ((some .boolean)) 4 0 0) {Q : Bool → Mem → Prop} (hq : RI X 0 0 LY (bQ Q)) {M : Mem} (h : w_Rd_readHills M Q) : Wat X 0 0 LY 0 [some (vr c_reader)] [] M := by
  refine s_aload_n hX dX8_readHills_0 rfl ?_
  refine s_iconst (v := 0) hX dX8_readHills_1 rfl ?_
  refine s_cvi (as := [vi 0]) (rest := []) hX (c_Rd_takeKeyword h) mv_Rd_takeKeyword wd_ml_X8_82 dX8_readHills_2 ly_c_reader rfl rfl (Nat.le_of_ble_eq_true rfl) rfl (by decide) ⟨Nat.zero_le _, Nat.zero_le _⟩ (fun b40_ M39 h => ?_)
  obtain ⟨b40, rfl, h⟩ := h
  refine s_if_eq (tgt := 18) hX dX8_readHills_5 (by decide) (fun c => ?_) (fun c => ?_)
  · replace h := h.1 (b2i_0 c)
    refine s_iconst (v := 0) hX dX8_readHills_18 rfl ?_
    exact s_zret hX false hq rfl dX8_readHills_19 rfl h
  · replace h := h.2 (b2i_1 c)
    refine s_aload_n hX dX8_readHills_8 rfl ?_
    refine s_iconst (v := 2) hX dX8_readHills_9 rfl ?_
    refine s_bipush (v := 8) hX dX8_readHills_10 rfl ?_
    refine s_cvi (as := [vi 2, vi 8]) (rest := []) hX (c_Rd_isNumber h) mv_Rd_isNumber wd_ml_X8_86 dX8_readHills_12 ly_c_reader rfl rfl (Nat.le_of_ble_eq_true rfl) rfl (by decide) ⟨Nat.zero_le _, Nat.zero_le _⟩ (fun b46_ M45 h => ?_)
    obtain ⟨b46, rfl, h⟩ := h
    refine s_if_ne (tgt := 20) hX dX8_readHills_15 (by decide) (fun c => ?_) (fun c => ?_)
    · replace h := h.1 (b2i_1 c)
      refine s_aload_n hX dX8_readHills_20 rfl ?_
      refine s_getr hX fi_X8_26 ly_c_reader rfl dX8_readHills_21 ?_
      refine s_aload_n hX dX8_readHills_24 rfl ?_
      refine s_getr hX fi_X8_22 ly_c_reader rfl dX8_readHills_25 ?_
      refine s_getiv (v := (M45.1 c_tape Tape_number)) hX fi_X8_90 ly_c_tape rfl dX8_readHills_28 rfl ?_
      refine s_puti hX fi_X8_93 fp_X5 rfl (by decide +kernel) ly_c_draft rfl dX8_readHills_31 ?_
      refine s_aload_n hX dX8_readHills_34 rfl ?_
      refine s_getr hX fi_X8_22 ly_c_reader rfl dX8_readHills_35 ?_
      refine s_cvi (as := []) (rest := []) hX (c_Tape_step h) mv_Tape_step wd_ml_X8_96 dX8_readHills_38 ly_c_tape rfl rfl (Nat.le_of_ble_eq_true rfl) rfl (by decide) ⟨Nat.zero_le _, Nat.zero_le _⟩ (fun b48_ M47 h => ?_)
      obtain ⟨b48, rfl, h⟩ := h
      refine s_pop hX dX8_readHills_41 rfl ?_
      refine s_aload_n hX dX8_readHills_42 rfl ?_
      refine s_iconst (v := 2) hX dX8_readHills_43 rfl ?_
      refine s_bipush (v := 8) hX dX8_readHills_44 rfl ?_
      refine s_cvi (as := [vi 2, vi 8]) (rest := []) hX (c_Rd_isNumber h) mv_Rd_isNumber wd_ml_X8_86 dX8_readHills_46 ly_c_reader rfl rfl (Nat.le_of_ble_eq_true rfl) rfl (by decide) ⟨Nat.zero_le _, Nat.zero_le _⟩ (fun b50_ M49 h => ?_)
      obtain ⟨b50, rfl, h⟩ := h
      refine s_if_ne (tgt := 54) hX dX8_readHills_49 (by decide) (fun c => ?_) (fun c => ?_)
      · replace h := h.1 (b2i_1 c)
        refine s_aload_n hX dX8_readHills_54 rfl ?_
        refine s_getr hX fi_X8_26 ly_c_reader rfl dX8_readHills_55 ?_
        refine s_aload_n hX dX8_readHills_58 rfl ?_
        refine s_getr hX fi_X8_22 ly_c_reader rfl dX8_readHills_59 ?_
        refine s_getiv (v := (M49.1 c_tape Tape_number)) hX fi_X8_90 ly_c_tape rfl dX8_readHills_62 rfl ?_
        refine s_puti hX fi_X8_99 fp_X5 rfl (by decide +kernel) ly_c_draft rfl dX8_readHills_65 ?_
        refine s_aload_n hX dX8_readHills_68 rfl ?_
        refine s_getr hX fi_X8_22 ly_c_reader rfl dX8_readHills_69 ?_
        refine s_cvi (as := []) (rest := []) hX (c_Tape_step h) mv_Tape_step wd_ml_X8_96 dX8_readHills_72 ly_c_tape rfl rfl (Nat.le_of_ble_eq_true rfl) rfl (by decide) ⟨Nat.zero_le _, Nat.zero_le _⟩ (fun b52_ M51 h => ?_)
        obtain ⟨b52, rfl, h⟩ := h
        refine s_if_eq (tgt := 89) hX dX8_readHills_75 (by decide) (fun c => ?_) (fun c => ?_)
        · replace h := h.1 (b2i_0 c)
          refine s_iconst (v := 0) hX dX8_readHills_89 rfl ?_
          exact s_zret hX false hq rfl dX8_readHills_90 rfl h
        · replace h := h.2 (b2i_1 c)
          refine s_aload_n hX dX8_readHills_78 rfl ?_
          refine s_cvi (as := []) (rest := []) hX (c_Rd_takeEnd h) mv_Rd_takeEnd wd_ml_X8_102 dX8_readHills_79 ly_c_reader rfl rfl (Nat.le_of_ble_eq_true rfl) rfl (by decide) ⟨Nat.zero_le _, Nat.zero_le _⟩ (fun b58_ M57 h => ?_)
          obtain ⟨b58, rfl, h⟩ := h
          have hJ : Wat X 0 0 LY 90 [some (vr c_reader)] [vi (if b58 = true then (1 : Int32) else 0)] M57 := by
            obtain ⟨bb, hbb, h⟩ := h
            exact s_zret hX bb hq rfl dX8_readHills_90 hbb h
          refine s_if_eq (tgt := 89) hX dX8_readHills_82 (by decide) (fun c => ?_) (fun c => ?_)
          · rw [if_neg (by simp [b2i_0 c])] at hJ
            refine s_iconst (v := 0) hX dX8_readHills_89 rfl ?_
            exact hJ
          · rw [if_pos (by simp [b2i_1 c])] at hJ
            refine s_iconst (v := 1) hX dX8_readHills_85 rfl ?_
            refine s_goto (tgt := 90) hX dX8_readHills_86 (by decide) ?_
            exact hJ
      · replace h := h.2 (b2i_0 c)
        refine s_iconst (v := 0) hX dX8_readHills_52 rfl ?_
        exact s_zret hX false hq rfl dX8_readHills_53 rfl h
    · replace h := h.2 (b2i_0 c)
      refine s_iconst (v := 0) hX dX8_readHills_18 rfl ?_
      exact s_zret hX false hq rfl dX8_readHills_19 rfl h
theorem c_Rd_readHills {M : Mem} {Q : Bool → Mem → Prop} (h : w_Rd_readHills M Q) : CI yX8_readHills cX8_readHills 1 ((some .boolean)) 4 0 0 LY LY [vr c_reader] M (bQ Q) := mk_i rfl wd_co_X8_readHills rfl rfl (Nat.le_of_ble_eq_true rfl) (fun X hX hq => t_Rd_readHills hX hq h)
theorem mv_Rd_readHills : MV yX8_readHills cX8_readHills 1 ((some .boolean)) RX8 0 := ⟨wd_co_X8_readHills, wd_im_X8_readHills, wd_se_X8_readHills, wd_in_X8, by decide +kernel, by decide⟩
def w_Tape_isName (M : Mem) (Q : Bool → Mem → Prop) : Prop :=
  ((¬ (M.1 c_tape Tape_token) = 2 → Q false M) ∧ ((M.1 c_tape Tape_token) = 2 → (((M.1 c_tape Tape_keyword) = (-1) → Q true M) ∧ (¬ (M.1 c_tape Tape_keyword) = (-1) → (∃ bb : Bool, (if (M.1 c_tape Tape_keyword) < 20 then (0 : Int32) else 1) = b2i bb ∧ Q bb M)))))
set_option maxHeartbeats 4000000 in
theorem t_Tape_isName {X : Cx} (hX : Cok X cX10_isName RX10 1 ((some .boolean)) 1 0 0) {Q : Bool → Mem → Prop} (hq : RI X 0 0 LY (bQ Q)) {M : Mem} (h : w_Tape_isName M Q) : Wat X 0 0 LY 0 [some (vr c_tape)] [] M := by
  refine s_aload_n hX dX10_isName_0 rfl ?_
  refine s_getiv (v := (M.1 c_tape Tape_token)) hX fi_X10_59 ly_c_tape rfl dX10_isName_1 rfl ?_
  refine s_iconst (v := 2) hX dX10_isName_4 rfl ?_
  refine s_icmp_ne (tgt := 29) hX dX10_isName_5 (by decide) (fun c => ?_) (fun c => ?_)
  · replace h := h.1 c
    refine s_iconst (v := 0) hX dX10_isName_29 rfl ?_
    exact s_zret hX false hq rfl dX10_isName_30 rfl h
  · replace h := h.2 c
    refine s_aload_n hX dX10_isName_8 rfl ?_
    refine s_getiv (v := (M.1 c_tape Tape_keyword)) hX fi_X10_52 ly_c_tape rfl dX10_isName_9 rfl ?_
    refine s_iconst (v := (-1)) hX dX10_isName_12 rfl ?_
    refine s_icmp_eq (tgt := 25) hX dX10_isName_13 (by decide) (fun c => ?_) (fun c => ?_)
    · replace h := h.1 c
      refine s_iconst (v := 1) hX dX10_isName_25 rfl ?_
      refine s_goto (tgt := 30) hX dX10_isName_26 (by decide) ?_
      exact s_zret hX true hq rfl dX10_isName_30 rfl h
    · replace h := h.2 c
      refine s_aload_n hX dX10_isName_16 rfl ?_
      refine s_getiv (v := (M.1 c_tape Tape_keyword)) hX fi_X10_52 ly_c_tape rfl dX10_isName_17 rfl ?_
      refine s_bipush (v := 20) hX dX10_isName_20 rfl ?_
      have hJ : Wat X 0 0 LY 30 [some (vr c_tape)] [vi (if (M.1 c_tape Tape_keyword) < 20 then (0 : Int32) else 1)] M := by
        obtain ⟨bb, hbb, h⟩ := h
        exact s_zret hX bb hq rfl dX10_isName_30 hbb h
      refine s_icmp_lt (tgt := 29) hX dX10_isName_22 (by decide) (fun c => ?_) (fun c => ?_)
      · rw [if_pos c] at hJ
        refine s_iconst (v := 0) hX dX10_isName_29 rfl ?_
        exact hJ
      · rw [if_neg c] at hJ
        refine s_iconst (v := 1) hX dX10_isName_25 rfl ?_
        refine s_goto (tgt := 30) hX dX10_isName_26 (by decide) ?_
        exact hJ
theorem c_Tape_isName {M : Mem} {Q : Bool → Mem → Prop} (h : w_Tape_isName M Q) : CI yX10_isName cX10_isName 1 ((some .boolean)) 1 0 0 LY LY [vr c_tape] M (bQ Q) := mk_i rfl wd_co_X10_isName rfl rfl (Nat.le_of_ble_eq_true rfl) (fun X hX hq => t_Tape_isName hX hq h)
theorem mv_Tape_isName : MV yX10_isName cX10_isName 1 ((some .boolean)) RX10 0 := ⟨wd_co_X10_isName, wd_im_X10_isName, wd_se_X10_isName, wd_in_X10, by decide +kernel, by decide⟩
def w_Rd_indexOf_L2 (l2 : Int32) (K : Mem → Prop) (Q : Int32 → Mem → Prop) : Nat → Int32 → Mem → Prop
  | 0, _, _ => False
  | n + 1, l3, M => ((l2 ≤ l3 → K M) ∧ (¬ l2 ≤ l3 → ((6 ≤ l3 → K M) ∧ (¬ 6 ≤ l3 → (vp_in l3 6 ∧ ((¬ (lg_cmp (M.2 c_reader_peopleNames (Int32.toNatClampNeg l3)) (M.2 c_tape Tape_word)) = 0 → w_Rd_indexOf_L2 l2 K Q n (l3 + 1) M) ∧ ((lg_cmp (M.2 c_reader_peopleNames (Int32.toNatClampNeg l3)) (M.2 c_tape Tape_word)) = 0 → Q l3 M)))))))
set_option maxHeartbeats 4000000 in
theorem t_Rd_indexOf_L2 {X : Cx} (hX : Cok X cX8_indexOf RX8 4 ((some .int)) 1 0 0) {Q : Int32 → Mem → Prop} (hq : RI X 0 0 LY Q) {l2 : Int32} {K : Mem → Prop} (hK : ∀ (M : Mem), K M → Wat X 0 0 LY 35 [none, none, none, none] [] M) : ∀ (n : Nat) (l3 : Int32) (M : Mem), w_Rd_indexOf_L2 l2 K Q n l3 M → Wat X 0 0 LY 2 [some (vr c_reader), some (vr c_reader_peopleNames), some (vi l2), some (vi l3)] [] M := by
  intro n
  induction n with
  | zero => intro _ _ h; exact h.elim
  | succ n ih =>
    intro l3 M h
    refine s_iload_n hX dX8_indexOf_2 rfl ?_
    refine s_iload_n hX dX8_indexOf_3 rfl ?_
    refine s_icmp_ge (tgt := 35) hX dX8_indexOf_4 (by decide) (fun c => ?_) (fun c => ?_)
    · replace h := h.1 c
      refine s_mask [false, false, false, false] (lv' := [none, none, none, none]) rfl rfl ?_
      exact hK _ h
    · replace h := h.2 c
      refine s_iload_n hX dX8_indexOf_7 rfl ?_
      refine s_aload_n hX dX8_indexOf_8 rfl ?_
      refine s_alen (v := 6) hX ly_c_reader_peopleNames (by decide) rfl dX8_indexOf_9 ?_
      refine s_icmp_ge (tgt := 35) hX dX8_indexOf_10 (by decide) (fun c => ?_) (fun c => ?_)
      · replace h := h.1 c
        refine s_mask [false, false, false, false] (lv' := [none, none, none, none]) rfl rfl ?_
        exact hK _ h
      · replace h := h.2 c
        refine s_aload_n hX dX8_indexOf_13 rfl ?_
        refine s_iload_n hX dX8_indexOf_14 rfl ?_
        have hi := h.1
        replace h := h.2
        refine s_laldv (v := (M.2 c_reader_peopleNames (Int32.toNatClampNeg l3))) hX ly_c_reader_peopleNames hi dX8_indexOf_15 rfl ?_
        refine s_aload_n hX dX8_indexOf_16 rfl ?_
        refine s_getr hX fi_X8_22 ly_c_reader rfl dX8_indexOf_17 ?_
        refine s_getlv (v := (M.2 c_tape Tape_word)) hX fi_X8_143 ly_c_tape rfl dX8_indexOf_20 rfl ?_
        refine s_lcmp hX dX8_indexOf_23 ?_
        refine s_if_ne (tgt := 29) hX dX8_indexOf_24 (by decide) (fun c => ?_) (fun c => ?_)
        · replace h := h.1 c
          refine s_iinc (v := (l3 + 1)) (lv' := [some (vr c_reader), some (vr c_reader_peopleNames), some (vi l2), some (vi (l3 + 1))]) hX dX8_indexOf_29 rfl rfl rfl rfl ?_
          refine s_goto (tgt := 2) hX dX8_indexOf_32 (by decide) ?_
          exact ih _ _ h
        · replace h := h.2 c
          refine s_iload_n hX dX8_indexOf_27 rfl ?_
          exact s_iret hX hq rfl dX8_indexOf_28 h
def w_Rd_indexOf (a0 : Int32) (M : Mem) (Q : Int32 → Mem → Prop) : Prop :=
  (∃ n66, w_Rd_indexOf_L2 a0 (fun M65 => Q (-1) M65) Q n66 0 M)
set_option maxHeartbeats 4000000 in
theorem t_Rd_indexOf {X : Cx} (hX : Cok X cX8_indexOf RX8 4 ((some .int)) 1 0 0) {Q : Int32 → Mem → Prop} (hq : RI X 0 0 LY Q) {M : Mem} {a0 : Int32} (h : w_Rd_indexOf a0 M Q) : Wat X 0 0 LY 0 [some (vr c_reader), some (vr c_reader_peopleNames), some (vi a0), none] [] M := by
  refine s_iconst (v := 0) hX dX8_indexOf_0 rfl ?_
  refine s_istore_n (lv' := [some (vr c_reader), some (vr c_reader_peopleNames), some (vi a0), some (vi 0)]) hX dX8_indexOf_1 rfl rfl (Nat.le_of_ble_eq_true rfl) ?_
  obtain ⟨n66, h⟩ := h
  refine t_Rd_indexOf_L2 hX hq ?_ n66 _ _ h
  intro M65 h
  refine s_iconst (v := (-1)) hX dX8_indexOf_35 rfl ?_
  exact s_iret hX hq rfl dX8_indexOf_36 h
theorem c_Rd_indexOf {a0 : Int32} {M : Mem} {Q : Int32 → Mem → Prop} (h : w_Rd_indexOf a0 M Q) : CI yX8_indexOf cX8_indexOf 4 ((some .int)) 1 0 0 LY LY [vr c_reader, vr c_reader_peopleNames, vi a0] M Q := mk_i rfl wd_co_X8_indexOf rfl rfl (Nat.le_of_ble_eq_true rfl) (fun X hX hq => t_Rd_indexOf hX hq h)
theorem mv_Rd_indexOf : MV yX8_indexOf cX8_indexOf 4 ((some .int)) RX8 2 := ⟨wd_co_X8_indexOf, wd_im_X8_indexOf, wd_se_X8_indexOf, wd_in_X8, by decide +kernel, by decide⟩
def w_Rd_indexOf_reader_birdNames_L2 (l2 : Int32) (K : Mem → Prop) (Q : Int32 → Mem → Prop) : Nat → Int32 → Mem → Prop
  | 0, _, _ => False
  | n + 1, l3, M => ((l2 ≤ l3 → K M) ∧ (¬ l2 ≤ l3 → ((5 ≤ l3 → K M) ∧ (¬ 5 ≤ l3 → (vp_in l3 5 ∧ ((¬ (lg_cmp (M.2 c_reader_birdNames (Int32.toNatClampNeg l3)) (M.2 c_tape Tape_word)) = 0 → w_Rd_indexOf_reader_birdNames_L2 l2 K Q n (l3 + 1) M) ∧ ((lg_cmp (M.2 c_reader_birdNames (Int32.toNatClampNeg l3)) (M.2 c_tape Tape_word)) = 0 → Q l3 M)))))))
set_option maxHeartbeats 4000000 in
theorem t_Rd_indexOf_reader_birdNames_L2 {X : Cx} (hX : Cok X cX8_indexOf RX8 4 ((some .int)) 1 0 0) {Q : Int32 → Mem → Prop} (hq : RI X 0 0 LY Q) {l2 : Int32} {K : Mem → Prop} (hK : ∀ (M : Mem), K M → Wat X 0 0 LY 35 [none, none, none, none] [] M) : ∀ (n : Nat) (l3 : Int32) (M : Mem), w_Rd_indexOf_reader_birdNames_L2 l2 K Q n l3 M → Wat X 0 0 LY 2 [some (vr c_reader), some (vr c_reader_birdNames), some (vi l2), some (vi l3)] [] M := by
  intro n
  induction n with
  | zero => intro _ _ h; exact h.elim
  | succ n ih =>
    intro l3 M h
    refine s_iload_n hX dX8_indexOf_2 rfl ?_
    refine s_iload_n hX dX8_indexOf_3 rfl ?_
    refine s_icmp_ge (tgt := 35) hX dX8_indexOf_4 (by decide) (fun c => ?_) (fun c => ?_)
    · replace h := h.1 c
      refine s_mask [false, false, false, false] (lv' := [none, none, none, none]) rfl rfl ?_
      exact hK _ h
    · replace h := h.2 c
      refine s_iload_n hX dX8_indexOf_7 rfl ?_
      refine s_aload_n hX dX8_indexOf_8 rfl ?_
      refine s_alen (v := 5) hX ly_c_reader_birdNames (by decide) rfl dX8_indexOf_9 ?_
      refine s_icmp_ge (tgt := 35) hX dX8_indexOf_10 (by decide) (fun c => ?_) (fun c => ?_)
      · replace h := h.1 c
        refine s_mask [false, false, false, false] (lv' := [none, none, none, none]) rfl rfl ?_
        exact hK _ h
      · replace h := h.2 c
        refine s_aload_n hX dX8_indexOf_13 rfl ?_
        refine s_iload_n hX dX8_indexOf_14 rfl ?_
        have hi := h.1
        replace h := h.2
        refine s_laldv (v := (M.2 c_reader_birdNames (Int32.toNatClampNeg l3))) hX ly_c_reader_birdNames hi dX8_indexOf_15 rfl ?_
        refine s_aload_n hX dX8_indexOf_16 rfl ?_
        refine s_getr hX fi_X8_22 ly_c_reader rfl dX8_indexOf_17 ?_
        refine s_getlv (v := (M.2 c_tape Tape_word)) hX fi_X8_143 ly_c_tape rfl dX8_indexOf_20 rfl ?_
        refine s_lcmp hX dX8_indexOf_23 ?_
        refine s_if_ne (tgt := 29) hX dX8_indexOf_24 (by decide) (fun c => ?_) (fun c => ?_)
        · replace h := h.1 c
          refine s_iinc (v := (l3 + 1)) (lv' := [some (vr c_reader), some (vr c_reader_birdNames), some (vi l2), some (vi (l3 + 1))]) hX dX8_indexOf_29 rfl rfl rfl rfl ?_
          refine s_goto (tgt := 2) hX dX8_indexOf_32 (by decide) ?_
          exact ih _ _ h
        · replace h := h.2 c
          refine s_iload_n hX dX8_indexOf_27 rfl ?_
          exact s_iret hX hq rfl dX8_indexOf_28 h
def w_Rd_indexOf_reader_birdNames (a0 : Int32) (M : Mem) (Q : Int32 → Mem → Prop) : Prop :=
  (∃ n72, w_Rd_indexOf_reader_birdNames_L2 a0 (fun M71 => Q (-1) M71) Q n72 0 M)
set_option maxHeartbeats 4000000 in
theorem t_Rd_indexOf_reader_birdNames {X : Cx} (hX : Cok X cX8_indexOf RX8 4 ((some .int)) 1 0 0) {Q : Int32 → Mem → Prop} (hq : RI X 0 0 LY Q) {M : Mem} {a0 : Int32} (h : w_Rd_indexOf_reader_birdNames a0 M Q) : Wat X 0 0 LY 0 [some (vr c_reader), some (vr c_reader_birdNames), some (vi a0), none] [] M := by
  refine s_iconst (v := 0) hX dX8_indexOf_0 rfl ?_
  refine s_istore_n (lv' := [some (vr c_reader), some (vr c_reader_birdNames), some (vi a0), some (vi 0)]) hX dX8_indexOf_1 rfl rfl (Nat.le_of_ble_eq_true rfl) ?_
  obtain ⟨n72, h⟩ := h
  refine t_Rd_indexOf_reader_birdNames_L2 hX hq ?_ n72 _ _ h
  intro M71 h
  refine s_iconst (v := (-1)) hX dX8_indexOf_35 rfl ?_
  exact s_iret hX hq rfl dX8_indexOf_36 h
theorem c_Rd_indexOf_reader_birdNames {a0 : Int32} {M : Mem} {Q : Int32 → Mem → Prop} (h : w_Rd_indexOf_reader_birdNames a0 M Q) : CI yX8_indexOf cX8_indexOf 4 ((some .int)) 1 0 0 LY LY [vr c_reader, vr c_reader_birdNames, vi a0] M Q := mk_i rfl wd_co_X8_indexOf rfl rfl (Nat.le_of_ble_eq_true rfl) (fun X hX hq => t_Rd_indexOf_reader_birdNames hX hq h)
theorem mv_Rd_indexOf_reader_birdNames : MV yX8_indexOf cX8_indexOf 4 ((some .int)) RX8 2 := ⟨wd_co_X8_indexOf, wd_im_X8_indexOf, wd_se_X8_indexOf, wd_in_X8, by decide +kernel, by decide⟩
def w_Rd_isNewName_j62 (s0 : Int32) (M : Mem) (Q : Bool → Mem → Prop) : Prop :=
  ((s0 = 0 → Q true M) ∧ (¬ s0 = 0 → w_Tape_fail 3 M (fun b70 M69 => (∃ bb : Bool, (if b70 = true then (1 : Int32) else 0) = b2i bb ∧ Q bb M69))))
set_option maxHeartbeats 4000000 in
theorem t_Rd_isNewName_j62 {X : Cx} (hX : Cok X cX8_isNewName RX8 2 ((some .boolean)) 2 0 0) {Q : Bool → Mem → Prop} (hq : RI X 0 0 LY (bQ Q)) {s0 : Int32} {M : Mem} (h : w_Rd_isNewName_j62 s0 M Q) : Wat X 0 0 LY 62 [some (vr c_reader), none] [vi s0] M := by
  refine s_istore_n (lv' := [some (vr c_reader), some (vi s0)]) hX dX8_isNewName_62 rfl rfl (Nat.le_of_ble_eq_true rfl) ?_
  refine s_iload_n hX dX8_isNewName_63 rfl ?_
  refine s_if_eq (tgt := 78) hX dX8_isNewName_64 (by decide) (fun c => ?_) (fun c => ?_)
  · replace h := h.1 c
    refine s_iconst (v := 1) hX dX8_isNewName_78 rfl ?_
    refine s_goto (tgt := 83) hX dX8_isNewName_79 (by decide) ?_
    exact s_zret hX true hq rfl dX8_isNewName_83 rfl h
  · replace h := h.2 c
    refine s_aload_n hX dX8_isNewName_67 rfl ?_
    refine s_getr hX fi_X8_22 ly_c_reader rfl dX8_isNewName_68 ?_
    refine s_iconst (v := 3) hX dX8_isNewName_71 rfl ?_
    refine s_cvi (as := [vi 3]) (rest := []) hX (c_Tape_fail h) mv_Tape_fail wd_ml_X8_134 dX8_isNewName_72 ly_c_tape rfl rfl (Nat.le_of_ble_eq_true rfl) rfl (by decide) ⟨Nat.zero_le _, Nat.zero_le _⟩ (fun b70_ M69 h => ?_)
    obtain ⟨b70, rfl, h⟩ := h
    have hJ : Wat X 0 0 LY 83 [some (vr c_reader), some (vi s0)] [vi (if b70 = true then (1 : Int32) else 0)] M69 := by
      obtain ⟨bb, hbb, h⟩ := h
      exact s_zret hX bb hq rfl dX8_isNewName_83 hbb h
    refine s_if_eq (tgt := 82) hX dX8_isNewName_75 (by decide) (fun c => ?_) (fun c => ?_)
    · rw [if_neg (by simp [b2i_0 c])] at hJ
      refine s_iconst (v := 0) hX dX8_isNewName_82 rfl ?_
      exact hJ
    · rw [if_pos (by simp [b2i_1 c])] at hJ
      refine s_iconst (v := 1) hX dX8_isNewName_78 rfl ?_
      refine s_goto (tgt := 83) hX dX8_isNewName_79 (by decide) ?_
      exact hJ
def w_Rd_isNewName_j57 (M : Mem) (Q : Bool → Mem → Prop) : Prop :=
  w_Rd_isNewName_j62 1 M Q
set_option maxHeartbeats 4000000 in
theorem t_Rd_isNewName_j57 {X : Cx} (hX : Cok X cX8_isNewName RX8 2 ((some .boolean)) 2 0 0) {Q : Bool → Mem → Prop} (hq : RI X 0 0 LY (bQ Q)) {M : Mem} (h : w_Rd_isNewName_j57 M Q) : Wat X 0 0 LY 57 [some (vr c_reader), none] [] M := by
  refine s_iconst (v := 1) hX dX8_isNewName_57 rfl ?_
  refine s_goto (tgt := 62) hX dX8_isNewName_58 (by decide) ?_
  exact t_Rd_isNewName_j62 hX hq h
def w_Rd_isNewName (M : Mem) (Q : Bool → Mem → Prop) : Prop :=
  w_Tape_isName M (fun b64 M63 => ((b64 = true → w_Rd_indexOf (M63.1 c_draft Land_people) M63 (fun r68 M67 => ((¬ r68 = (-1) → w_Rd_isNewName_j57 M67 Q) ∧ (r68 = (-1) → w_Rd_indexOf_reader_birdNames (M67.1 c_draft Land_birds) M67 (fun r74 M73 => w_Rd_isNewName_j62 (if r74 = (-1) then (0 : Int32) else 1) M73 Q))))) ∧ (b64 = false → w_Tape_fail 1 M63 (fun b76 M75 => Q b76 M75))))
set_option maxHeartbeats 4000000 in
theorem t_Rd_isNewName {X : Cx} (hX : Cok X cX8_isNewName RX8 2 ((some .boolean)) 2 0 0) {Q : Bool → Mem → Prop} (hq : RI X 0 0 LY (bQ Q)) {M : Mem} (h : w_Rd_isNewName M Q) : Wat X 0 0 LY 0 [some (vr c_reader), none] [] M := by
  refine s_aload_n hX dX8_isNewName_0 rfl ?_
  refine s_getr hX fi_X8_22 ly_c_reader rfl dX8_isNewName_1 ?_
  refine s_cvi (as := []) (rest := []) hX (c_Tape_isName h) mv_Tape_isName wd_ml_X8_198 dX8_isNewName_4 ly_c_tape rfl rfl (Nat.le_of_ble_eq_true rfl) rfl (by decide) ⟨Nat.zero_le _, Nat.zero_le _⟩ (fun b64_ M63 h => ?_)
  obtain ⟨b64, rfl, h⟩ := h
  refine s_if_ne (tgt := 19) hX dX8_isNewName_7 (by decide) (fun c => ?_) (fun c => ?_)
  · replace h := h.1 (b2i_1 c)
    refine s_aload_n hX dX8_isNewName_19 rfl ?_
    refine s_aload_n hX dX8_isNewName_20 rfl ?_
    refine s_getr hX fi_X8_9 ly_c_reader rfl dX8_isNewName_21 ?_
    refine s_aload_n hX dX8_isNewName_24 rfl ?_
    refine s_getr hX fi_X8_26 ly_c_reader rfl dX8_isNewName_25 ?_
    refine s_getiv (v := (M63.1 c_draft Land_people)) hX fi_X8_137 ly_c_draft rfl dX8_isNewName_28 rfl ?_
    refine s_cvi (as := [vr c_reader_peopleNames, vi (M63.1 c_draft Land_people)]) (rest := []) hX (c_Rd_indexOf h) mv_Rd_indexOf wd_ml_X8_201 dX8_isNewName_31 ly_c_reader rfl rfl (Nat.le_of_ble_eq_true rfl) rfl (by decide) ⟨Nat.zero_le _, Nat.zero_le _⟩ (fun r68 M67 h => ?_)
    refine s_iconst (v := (-1)) hX dX8_isNewName_34 rfl ?_
    refine s_icmp_ne (tgt := 57) hX dX8_isNewName_35 (by decide) (fun c => ?_) (fun c => ?_)
    · replace h := h.1 c
      exact t_Rd_isNewName_j57 hX hq h
    · replace h := h.2 c
      refine s_aload_n hX dX8_isNewName_38 rfl ?_
      refine s_aload_n hX dX8_isNewName_39 rfl ?_
      refine s_getr hX fi_X8_15 ly_c_reader rfl dX8_isNewName_40 ?_
      refine s_aload_n hX dX8_isNewName_43 rfl ?_
      refine s_getr hX fi_X8_26 ly_c_reader rfl dX8_isNewName_44 ?_
      refine s_getiv (v := (M67.1 c_draft Land_birds)) hX fi_X8_166 ly_c_draft rfl dX8_isNewName_47 rfl ?_
      refine s_cvi (as := [vr c_reader_birdNames, vi (M67.1 c_draft Land_birds)]) (rest := []) hX (c_Rd_indexOf_reader_birdNames h) mv_Rd_indexOf_reader_birdNames wd_ml_X8_201 dX8_isNewName_50 ly_c_reader rfl rfl (Nat.le_of_ble_eq_true rfl) rfl (by decide) ⟨Nat.zero_le _, Nat.zero_le _⟩ (fun r74 M73 h => ?_)
      refine s_iconst (v := (-1)) hX dX8_isNewName_53 rfl ?_
      have hJ : Wat X 0 0 LY 62 [some (vr c_reader), none] [vi (if r74 = (-1) then (0 : Int32) else 1)] M73 := by
        exact t_Rd_isNewName_j62 hX hq h
      refine s_icmp_eq (tgt := 61) hX dX8_isNewName_54 (by decide) (fun c => ?_) (fun c => ?_)
      · rw [if_pos c] at hJ
        refine s_iconst (v := 0) hX dX8_isNewName_61 rfl ?_
        exact hJ
      · rw [if_neg c] at hJ
        refine s_iconst (v := 1) hX dX8_isNewName_57 rfl ?_
        refine s_goto (tgt := 62) hX dX8_isNewName_58 (by decide) ?_
        exact hJ
  · replace h := h.2 (b2i_0 c)
    refine s_aload_n hX dX8_isNewName_10 rfl ?_
    refine s_getr hX fi_X8_22 ly_c_reader rfl dX8_isNewName_11 ?_
    refine s_iconst (v := 1) hX dX8_isNewName_14 rfl ?_
    refine s_cvi (as := [vi 1]) (rest := []) hX (c_Tape_fail h) mv_Tape_fail wd_ml_X8_134 dX8_isNewName_15 ly_c_tape rfl rfl (Nat.le_of_ble_eq_true rfl) rfl (by decide) ⟨Nat.zero_le _, Nat.zero_le _⟩ (fun b76_ M75 h => ?_)
    obtain ⟨b76, rfl, h⟩ := h
    exact s_zret hX _ hq rfl dX8_isNewName_18 rfl h
theorem c_Rd_isNewName {M : Mem} {Q : Bool → Mem → Prop} (h : w_Rd_isNewName M Q) : CI yX8_isNewName cX8_isNewName 2 ((some .boolean)) 2 0 0 LY LY [vr c_reader] M (bQ Q) := mk_i rfl wd_co_X8_isNewName rfl rfl (Nat.le_of_ble_eq_true rfl) (fun X hX hq => t_Rd_isNewName hX hq h)
theorem mv_Rd_isNewName : MV yX8_isNewName cX8_isNewName 2 ((some .boolean)) RX8 0 := ⟨wd_co_X8_isNewName, wd_im_X8_isNewName, wd_se_X8_isNewName, wd_in_X8, by decide +kernel, by decide⟩
def w_Rd_takeCell (M : Mem) (Q : Bool → Mem → Prop) : Prop :=
  w_Rd_isNumber 0 ((M.1 c_draft Land_wide) - 1) M (fun b88 M87 => ((b88 = true → w_Tape_step M87 (fun b90 M89 => w_Rd_isNumber 0 ((M89.1 c_draft Land_deep) - 1) M89 (fun b92 M91 => ((b92 = true → w_Tape_step (si M91 c_reader Rd_cell (((M91.1 c_tape Tape_number) * 8) + (M87.1 c_tape Tape_number))) (fun b94 M93 => Q b94 M93)) ∧ (b92 = false → Q false M91))))) ∧ (b88 = false → Q false M87)))
set_option maxHeartbeats 4000000 in
theorem t_Rd_takeCell {X : Cx} (hX : Cok X cX8_takeCell RX8 2 ((some .boolean)) 3 0 0) {Q : Bool → Mem → Prop} (hq : RI X 0 0 LY (bQ Q)) {M : Mem} (h : w_Rd_takeCell M Q) : Wat X 0 0 LY 0 [some (vr c_reader), none] [] M := by
  refine s_aload_n hX dX8_takeCell_0 rfl ?_
  refine s_iconst (v := 0) hX dX8_takeCell_1 rfl ?_
  refine s_aload_n hX dX8_takeCell_2 rfl ?_
  refine s_getr hX fi_X8_26 ly_c_reader rfl dX8_takeCell_3 ?_
  refine s_getiv (v := (M.1 c_draft Land_wide)) hX fi_X8_93 ly_c_draft rfl dX8_takeCell_6 rfl ?_
  refine s_iconst (v := 1) hX dX8_takeCell_9 rfl ?_
  refine s_isub hX dX8_takeCell_10 ?_
  refine s_cvi (as := [vi 0, vi ((M.1 c_draft Land_wide) - 1)]) (rest := []) hX (c_Rd_isNumber h) mv_Rd_isNumber wd_ml_X8_86 dX8_takeCell_11 ly_c_reader rfl rfl (Nat.le_of_ble_eq_true rfl) rfl (by decide) ⟨Nat.zero_le _, Nat.zero_le _⟩ (fun b88_ M87 h => ?_)
  obtain ⟨b88, rfl, h⟩ := h
  refine s_if_ne (tgt := 19) hX dX8_takeCell_14 (by decide) (fun c => ?_) (fun c => ?_)
  · replace h := h.1 (b2i_1 c)
    refine s_aload_n hX dX8_takeCell_19 rfl ?_
    refine s_getr hX fi_X8_22 ly_c_reader rfl dX8_takeCell_20 ?_
    refine s_getiv (v := (M87.1 c_tape Tape_number)) hX fi_X8_90 ly_c_tape rfl dX8_takeCell_23 rfl ?_
    refine s_istore_n (lv' := [some (vr c_reader), some (vi (M87.1 c_tape Tape_number))]) hX dX8_takeCell_26 rfl rfl (Nat.le_of_ble_eq_true rfl) ?_
    refine s_aload_n hX dX8_takeCell_27 rfl ?_
    refine s_getr hX fi_X8_22 ly_c_reader rfl dX8_takeCell_28 ?_
    refine s_cvi (as := []) (rest := []) hX (c_Tape_step h) mv_Tape_step wd_ml_X8_96 dX8_takeCell_31 ly_c_tape rfl rfl (Nat.le_of_ble_eq_true rfl) rfl (by decide) ⟨Nat.zero_le _, Nat.zero_le _⟩ (fun b90_ M89 h => ?_)
    obtain ⟨b90, rfl, h⟩ := h
    refine s_pop hX dX8_takeCell_34 rfl ?_
    refine s_aload_n hX dX8_takeCell_35 rfl ?_
    refine s_iconst (v := 0) hX dX8_takeCell_36 rfl ?_
    refine s_aload_n hX dX8_takeCell_37 rfl ?_
    refine s_getr hX fi_X8_26 ly_c_reader rfl dX8_takeCell_38 ?_
    refine s_getiv (v := (M89.1 c_draft Land_deep)) hX fi_X8_99 ly_c_draft rfl dX8_takeCell_41 rfl ?_
    refine s_iconst (v := 1) hX dX8_takeCell_44 rfl ?_
    refine s_isub hX dX8_takeCell_45 ?_
    refine s_cvi (as := [vi 0, vi ((M89.1 c_draft Land_deep) - 1)]) (rest := []) hX (c_Rd_isNumber h) mv_Rd_isNumber wd_ml_X8_86 dX8_takeCell_46 ly_c_reader rfl rfl (Nat.le_of_ble_eq_true rfl) rfl (by decide) ⟨Nat.zero_le _, Nat.zero_le _⟩ (fun b92_ M91 h => ?_)
    obtain ⟨b92, rfl, h⟩ := h
    refine s_if_ne (tgt := 54) hX dX8_takeCell_49 (by decide) (fun c => ?_) (fun c => ?_)
    · replace h := h.1 (b2i_1 c)
      refine s_aload_n hX dX8_takeCell_54 rfl ?_
      refine s_aload_n hX dX8_takeCell_55 rfl ?_
      refine s_getr hX fi_X8_22 ly_c_reader rfl dX8_takeCell_56 ?_
      refine s_getiv (v := (M91.1 c_tape Tape_number)) hX fi_X8_90 ly_c_tape rfl dX8_takeCell_59 rfl ?_
      refine s_bipush (v := 8) hX dX8_takeCell_62 rfl ?_
      refine s_imul hX dX8_takeCell_64 ?_
      refine s_iload_n hX dX8_takeCell_65 rfl ?_
      refine s_iadd hX dX8_takeCell_66 ?_
      refine s_puti hX fi_X8_153 fp_X8 rfl (by decide +kernel) ly_c_reader rfl dX8_takeCell_67 ?_
      refine s_aload_n hX dX8_takeCell_70 rfl ?_
      refine s_getr hX fi_X8_22 ly_c_reader rfl dX8_takeCell_71 ?_
      refine s_cvi (as := []) (rest := []) hX (c_Tape_step h) mv_Tape_step wd_ml_X8_96 dX8_takeCell_74 ly_c_tape rfl rfl (Nat.le_of_ble_eq_true rfl) rfl (by decide) ⟨Nat.zero_le _, Nat.zero_le _⟩ (fun b94_ M93 h => ?_)
      obtain ⟨b94, rfl, h⟩ := h
      exact s_zret hX _ hq rfl dX8_takeCell_77 rfl h
    · replace h := h.2 (b2i_0 c)
      refine s_iconst (v := 0) hX dX8_takeCell_52 rfl ?_
      exact s_zret hX false hq rfl dX8_takeCell_53 rfl h
  · replace h := h.2 (b2i_0 c)
    refine s_iconst (v := 0) hX dX8_takeCell_17 rfl ?_
    exact s_zret hX false hq rfl dX8_takeCell_18 rfl h
theorem c_Rd_takeCell {M : Mem} {Q : Bool → Mem → Prop} (h : w_Rd_takeCell M Q) : CI yX8_takeCell cX8_takeCell 2 ((some .boolean)) 3 0 0 LY LY [vr c_reader] M (bQ Q) := mk_i rfl wd_co_X8_takeCell rfl rfl (Nat.le_of_ble_eq_true rfl) (fun X hX hq => t_Rd_takeCell hX hq h)
theorem mv_Rd_takeCell : MV yX8_takeCell cX8_takeCell 2 ((some .boolean)) RX8 0 := ⟨wd_co_X8_takeCell, wd_im_X8_takeCell, wd_se_X8_takeCell, wd_in_X8, by decide +kernel, by decide⟩
def w_Rd_readPerson_j85 (M : Mem) (Q : Bool → Mem → Prop) : Prop :=
  w_Tape_fail 1 M (fun b82 M81 => Q b82 M81)
set_option maxHeartbeats 4000000 in
theorem t_Rd_readPerson_j85 {X : Cx} (hX : Cok X cX8_readPerson RX8 2 ((some .boolean)) 4 0 0) {Q : Bool → Mem → Prop} (hq : RI X 0 0 LY (bQ Q)) {M : Mem} (h : w_Rd_readPerson_j85 M Q) : Wat X 0 0 LY 85 [some (vr c_reader), none] [] M := by
  refine s_aload_n hX dX8_readPerson_85 rfl ?_
  refine s_getr hX fi_X8_22 ly_c_reader rfl dX8_readPerson_86 ?_
  refine s_iconst (v := 1) hX dX8_readPerson_89 rfl ?_
  refine s_cvi (as := [vi 1]) (rest := []) hX (c_Tape_fail h) mv_Tape_fail wd_ml_X8_134 dX8_readPerson_90 ly_c_tape rfl rfl (Nat.le_of_ble_eq_true rfl) rfl (by decide) ⟨Nat.zero_le _, Nat.zero_le _⟩ (fun b82_ M81 h => ?_)
  obtain ⟨b82, rfl, h⟩ := h
  exact s_zret hX _ hq rfl dX8_readPerson_93 rfl h
def w_Rd_readPerson (M : Mem) (Q : Bool → Mem → Prop) : Prop :=
  (((M.1 c_draft Land_people) < 6 → w_Tape_step M (fun b62 M61 => w_Rd_isNewName M61 (fun b78 M77 => ((b78 = true → (vp_in (M.1 c_draft Land_people) 6 ∧ w_Tape_step (sl M77 c_reader_peopleNames (Int32.toNatClampNeg (M.1 c_draft Land_people)) (M77.2 c_tape Tape_word)) (fun b80 M79 => (((M79.1 c_tape Tape_keyword) < 12 → w_Rd_readPerson_j85 M79 Q) ∧ (¬ (M79.1 c_tape Tape_keyword) < 12 → (((M79.1 c_tape Tape_keyword) ≤ 16 → (vp_in (M.1 c_draft Land_people) 6 ∧ w_Tape_step (si M79 c_draft_kind (Int32.toNatClampNeg (M.1 c_draft Land_people)) (((M79.1 c_tape Tape_keyword) - 12) + 0)) (fun b84 M83 => w_Rd_takeKeyword 2 M83 (fun b86 M85 => ((b86 = false → Q false M85) ∧ (b86 = true → w_Rd_takeCell M85 (fun b96 M95 => ((b96 = true → (vp_in ((M.1 c_draft Land_people) * 24) 144 ∧ w_Rd_takeKeyword 3 (si M95 c_reader_goes (Int32.toNatClampNeg ((M.1 c_draft Land_people) * 24)) (M95.1 c_reader Rd_cell)) (fun b98 M97 => ((b98 = false → Q false M97) ∧ (b98 = true → w_Rd_isNumber 0 9999 M97 (fun b100 M99 => ((b100 = true → (vp_in (M.1 c_draft Land_people) 6 ∧ w_Tape_step (si (si M99 c_draft_purse (Int32.toNatClampNeg (M.1 c_draft Land_people)) (M99.1 c_tape Tape_number)) c_draft Land_people ((M99.1 c_draft Land_people) + 1)) (fun b102 M101 => ((b102 = false → Q false M101) ∧ (b102 = true → w_Rd_takeEnd M101 (fun b104 M103 => (∃ bb : Bool, (if b104 = true then (1 : Int32) else 0) = b2i bb ∧ Q bb M103))))))) ∧ (b100 = false → Q false M99)))))))) ∧ (b96 = false → Q false M95))))))))) ∧ (¬ (M79.1 c_tape Tape_keyword) ≤ 16 → w_Rd_readPerson_j85 M79 Q))))))) ∧ (b78 = false → Q false M77))))) ∧ (¬ (M.1 c_draft Land_people) < 6 → w_Tape_fail 5 M (fun b106 M105 => Q b106 M105)))
set_option maxHeartbeats 4000000 in
theorem t_Rd_readPerson {X : Cx} (hX : Cok X cX8_readPerson RX8 2 ((some .boolean)) 4 0 0) {Q : Bool → Mem → Prop} (hq : RI X 0 0 LY (bQ Q)) {M : Mem} (h : w_Rd_readPerson M Q) : Wat X 0 0 LY 0 [some (vr c_reader), none] [] M := by
  refine s_aload_n hX dX8_readPerson_0 rfl ?_
  refine s_getr hX fi_X8_26 ly_c_reader rfl dX8_readPerson_1 ?_
  refine s_getiv (v := (M.1 c_draft Land_people)) hX fi_X8_137 ly_c_draft rfl dX8_readPerson_4 rfl ?_
  refine s_istore_n (lv' := [some (vr c_reader), some (vi (M.1 c_draft Land_people))]) hX dX8_readPerson_7 rfl rfl (Nat.le_of_ble_eq_true rfl) ?_
  refine s_iload_n hX dX8_readPerson_8 rfl ?_
  refine s_bipush (v := 6) hX dX8_readPerson_9 rfl ?_
  refine s_icmp_lt (tgt := 23) hX dX8_readPerson_11 (by decide) (fun c => ?_) (fun c => ?_)
  · replace h := h.1 c
    refine s_aload_n hX dX8_readPerson_23 rfl ?_
    refine s_getr hX fi_X8_22 ly_c_reader rfl dX8_readPerson_24 ?_
    refine s_cvi (as := []) (rest := []) hX (c_Tape_step h) mv_Tape_step wd_ml_X8_96 dX8_readPerson_27 ly_c_tape rfl rfl (Nat.le_of_ble_eq_true rfl) rfl (by decide) ⟨Nat.zero_le _, Nat.zero_le _⟩ (fun b62_ M61 h => ?_)
    obtain ⟨b62, rfl, h⟩ := h
    refine s_pop hX dX8_readPerson_30 rfl ?_
    refine s_aload_n hX dX8_readPerson_31 rfl ?_
    refine s_cvi (as := []) (rest := []) hX (c_Rd_isNewName h) mv_Rd_isNewName wd_ml_X8_140 dX8_readPerson_32 ly_c_reader rfl rfl (Nat.le_of_ble_eq_true rfl) rfl (by decide) ⟨Nat.zero_le _, Nat.zero_le _⟩ (fun b78_ M77 h => ?_)
    obtain ⟨b78, rfl, h⟩ := h
    refine s_if_ne (tgt := 40) hX dX8_readPerson_35 (by decide) (fun c => ?_) (fun c => ?_)
    · replace h := h.1 (b2i_1 c)
      refine s_aload_n hX dX8_readPerson_40 rfl ?_
      refine s_getr hX fi_X8_9 ly_c_reader rfl dX8_readPerson_41 ?_
      refine s_iload_n hX dX8_readPerson_44 rfl ?_
      refine s_aload_n hX dX8_readPerson_45 rfl ?_
      refine s_getr hX fi_X8_22 ly_c_reader rfl dX8_readPerson_46 ?_
      refine s_getlv (v := (M77.2 c_tape Tape_word)) hX fi_X8_143 ly_c_tape rfl dX8_readPerson_49 rfl ?_
      have hi := h.1
      replace h := h.2
      refine s_last hX ly_c_reader_peopleNames hi dX8_readPerson_52 ?_
      refine s_aload_n hX dX8_readPerson_53 rfl ?_
      refine s_getr hX fi_X8_22 ly_c_reader rfl dX8_readPerson_54 ?_
      refine s_cvi (as := []) (rest := []) hX (c_Tape_step h) mv_Tape_step wd_ml_X8_96 dX8_readPerson_57 ly_c_tape rfl rfl (Nat.le_of_ble_eq_true rfl) rfl (by decide) ⟨Nat.zero_le _, Nat.zero_le _⟩ (fun b80_ M79 h => ?_)
      obtain ⟨b80, rfl, h⟩ := h
      refine s_pop hX dX8_readPerson_60 rfl ?_
      refine s_aload_n hX dX8_readPerson_61 rfl ?_
      refine s_getr hX fi_X8_22 ly_c_reader rfl dX8_readPerson_62 ?_
      refine s_getiv (v := (M79.1 c_tape Tape_keyword)) hX fi_X8_105 ly_c_tape rfl dX8_readPerson_65 rfl ?_
      refine s_bipush (v := 12) hX dX8_readPerson_68 rfl ?_
      refine s_icmp_lt (tgt := 85) hX dX8_readPerson_70 (by decide) (fun c => ?_) (fun c => ?_)
      · replace h := h.1 c
        refine s_mask [true, false] (lv' := [some (vr c_reader), none]) rfl rfl ?_
        exact t_Rd_readPerson_j85 hX hq h
      · replace h := h.2 c
        refine s_aload_n hX dX8_readPerson_73 rfl ?_
        refine s_getr hX fi_X8_22 ly_c_reader rfl dX8_readPerson_74 ?_
        refine s_getiv (v := (M79.1 c_tape Tape_keyword)) hX fi_X8_105 ly_c_tape rfl dX8_readPerson_77 rfl ?_
        refine s_bipush (v := 16) hX dX8_readPerson_80 rfl ?_
        refine s_icmp_le (tgt := 94) hX dX8_readPerson_82 (by decide) (fun c => ?_) (fun c => ?_)
        · replace h := h.1 c
          refine s_aload_n hX dX8_readPerson_94 rfl ?_
          refine s_getr hX fi_X8_26 ly_c_reader rfl dX8_readPerson_95 ?_
          refine s_getr hX fi_X8_147 ly_c_draft rfl dX8_readPerson_98 ?_
          refine s_iload_n hX dX8_readPerson_101 rfl ?_
          refine s_aload_n hX dX8_readPerson_102 rfl ?_
          refine s_getr hX fi_X8_22 ly_c_reader rfl dX8_readPerson_103 ?_
          refine s_getiv (v := (M79.1 c_tape Tape_keyword)) hX fi_X8_105 ly_c_tape rfl dX8_readPerson_106 rfl ?_
          refine s_bipush (v := 12) hX dX8_readPerson_109 rfl ?_
          refine s_isub hX dX8_readPerson_111 ?_
          refine s_iconst (v := 0) hX dX8_readPerson_112 rfl ?_
          refine s_iadd hX dX8_readPerson_113 ?_
          have hi := h.1
          replace h := h.2
          refine s_iast hX ly_c_draft_kind hi dX8_readPerson_114 ?_
          refine s_aload_n hX dX8_readPerson_115 rfl ?_
          refine s_getr hX fi_X8_22 ly_c_reader rfl dX8_readPerson_116 ?_
          refine s_cvi (as := []) (rest := []) hX (c_Tape_step h) mv_Tape_step wd_ml_X8_96 dX8_readPerson_119 ly_c_tape rfl rfl (Nat.le_of_ble_eq_true rfl) rfl (by decide) ⟨Nat.zero_le _, Nat.zero_le _⟩ (fun b84_ M83 h => ?_)
          obtain ⟨b84, rfl, h⟩ := h
          refine s_pop hX dX8_readPerson_122 rfl ?_
          refine s_aload_n hX dX8_readPerson_123 rfl ?_
          refine s_iconst (v := 2) hX dX8_readPerson_124 rfl ?_
          refine s_cvi (as := [vi 2]) (rest := []) hX (c_Rd_takeKeyword h) mv_Rd_takeKeyword wd_ml_X8_82 dX8_readPerson_125 ly_c_reader rfl rfl (Nat.le_of_ble_eq_true rfl) rfl (by decide) ⟨Nat.zero_le _, Nat.zero_le _⟩ (fun b86_ M85 h => ?_)
          obtain ⟨b86, rfl, h⟩ := h
          refine s_if_eq (tgt := 138) hX dX8_readPerson_128 (by decide) (fun c => ?_) (fun c => ?_)
          · replace h := h.1 (b2i_0 c)
            refine s_iconst (v := 0) hX dX8_readPerson_138 rfl ?_
            exact s_zret hX false hq rfl dX8_readPerson_139 rfl h
          · replace h := h.2 (b2i_1 c)
            refine s_aload_n hX dX8_readPerson_131 rfl ?_
            refine s_cvi (as := []) (rest := []) hX (c_Rd_takeCell h) mv_Rd_takeCell wd_ml_X8_150 dX8_readPerson_132 ly_c_reader rfl rfl (Nat.le_of_ble_eq_true rfl) rfl (by decide) ⟨Nat.zero_le _, Nat.zero_le _⟩ (fun b96_ M95 h => ?_)
            obtain ⟨b96, rfl, h⟩ := h
            refine s_if_ne (tgt := 140) hX dX8_readPerson_135 (by decide) (fun c => ?_) (fun c => ?_)
            · replace h := h.1 (b2i_1 c)
              refine s_aload_n hX dX8_readPerson_140 rfl ?_
              refine s_getr hX fi_X8_18 ly_c_reader rfl dX8_readPerson_141 ?_
              refine s_iload_n hX dX8_readPerson_144 rfl ?_
              refine s_bipush (v := 24) hX dX8_readPerson_145 rfl ?_
              refine s_imul hX dX8_readPerson_147 ?_
              refine s_aload_n hX dX8_readPerson_148 rfl ?_
              refine s_getiv (v := (M95.1 c_reader Rd_cell)) hX fi_X8_153 ly_c_reader rfl dX8_readPerson_149 rfl ?_
              have hi := h.1
              replace h := h.2
              refine s_iast hX ly_c_reader_goes hi dX8_readPerson_152 ?_
              refine s_aload_n hX dX8_readPerson_153 rfl ?_
              refine s_iconst (v := 3) hX dX8_readPerson_154 rfl ?_
              refine s_cvi (as := [vi 3]) (rest := []) hX (c_Rd_takeKeyword h) mv_Rd_takeKeyword wd_ml_X8_82 dX8_readPerson_155 ly_c_reader rfl rfl (Nat.le_of_ble_eq_true rfl) rfl (by decide) ⟨Nat.zero_le _, Nat.zero_le _⟩ (fun b98_ M97 h => ?_)
              obtain ⟨b98, rfl, h⟩ := h
              refine s_if_eq (tgt := 172) hX dX8_readPerson_158 (by decide) (fun c => ?_) (fun c => ?_)
              · replace h := h.1 (b2i_0 c)
                refine s_iconst (v := 0) hX dX8_readPerson_172 rfl ?_
                exact s_zret hX false hq rfl dX8_readPerson_173 rfl h
              · replace h := h.2 (b2i_1 c)
                refine s_aload_n hX dX8_readPerson_161 rfl ?_
                refine s_iconst (v := 0) hX dX8_readPerson_162 rfl ?_
                refine s_sipush (v := 9999) hX dX8_readPerson_163 rfl ?_
                refine s_cvi (as := [vi 0, vi 9999]) (rest := []) hX (c_Rd_isNumber h) mv_Rd_isNumber wd_ml_X8_86 dX8_readPerson_166 ly_c_reader rfl rfl (Nat.le_of_ble_eq_true rfl) rfl (by decide) ⟨Nat.zero_le _, Nat.zero_le _⟩ (fun b100_ M99 h => ?_)
                obtain ⟨b100, rfl, h⟩ := h
                refine s_if_ne (tgt := 174) hX dX8_readPerson_169 (by decide) (fun c => ?_) (fun c => ?_)
                · replace h := h.1 (b2i_1 c)
                  refine s_aload_n hX dX8_readPerson_174 rfl ?_
                  refine s_getr hX fi_X8_26 ly_c_reader rfl dX8_readPerson_175 ?_
                  refine s_getr hX fi_X8_156 ly_c_draft rfl dX8_readPerson_178 ?_
                  refine s_iload_n hX dX8_readPerson_181 rfl ?_
                  refine s_aload_n hX dX8_readPerson_182 rfl ?_
                  refine s_getr hX fi_X8_22 ly_c_reader rfl dX8_readPerson_183 ?_
                  refine s_getiv (v := (M99.1 c_tape Tape_number)) hX fi_X8_90 ly_c_tape rfl dX8_readPerson_186 rfl ?_
                  have hi := h.1
                  replace h := h.2
                  refine s_iast hX ly_c_draft_purse hi dX8_readPerson_189 ?_
                  refine s_aload_n hX dX8_readPerson_190 rfl ?_
                  refine s_getr hX fi_X8_26 ly_c_reader rfl dX8_readPerson_191 ?_
                  refine s_dup hX dX8_readPerson_194 rfl ?_
                  refine s_getiv (v := (M99.1 c_draft Land_people)) hX fi_X8_137 ly_c_draft rfl dX8_readPerson_195 rfl ?_
                  refine s_iconst (v := 1) hX dX8_readPerson_198 rfl ?_
                  refine s_iadd hX dX8_readPerson_199 ?_
                  refine s_puti hX fi_X8_137 fp_X5 rfl (by decide +kernel) ly_c_draft rfl dX8_readPerson_200 ?_
                  refine s_aload_n hX dX8_readPerson_203 rfl ?_
                  refine s_getr hX fi_X8_22 ly_c_reader rfl dX8_readPerson_204 ?_
                  refine s_cvi (as := []) (rest := []) hX (c_Tape_step h) mv_Tape_step wd_ml_X8_96 dX8_readPerson_207 ly_c_tape rfl rfl (Nat.le_of_ble_eq_true rfl) rfl (by decide) ⟨Nat.zero_le _, Nat.zero_le _⟩ (fun b102_ M101 h => ?_)
                  obtain ⟨b102, rfl, h⟩ := h
                  refine s_if_eq (tgt := 224) hX dX8_readPerson_210 (by decide) (fun c => ?_) (fun c => ?_)
                  · replace h := h.1 (b2i_0 c)
                    refine s_iconst (v := 0) hX dX8_readPerson_224 rfl ?_
                    exact s_zret hX false hq rfl dX8_readPerson_225 rfl h
                  · replace h := h.2 (b2i_1 c)
                    refine s_aload_n hX dX8_readPerson_213 rfl ?_
                    refine s_cvi (as := []) (rest := []) hX (c_Rd_takeEnd h) mv_Rd_takeEnd wd_ml_X8_102 dX8_readPerson_214 ly_c_reader rfl rfl (Nat.le_of_ble_eq_true rfl) rfl (by decide) ⟨Nat.zero_le _, Nat.zero_le _⟩ (fun b104_ M103 h => ?_)
                    obtain ⟨b104, rfl, h⟩ := h
                    have hJ : Wat X 0 0 LY 225 [some (vr c_reader), some (vi (M.1 c_draft Land_people))] [vi (if b104 = true then (1 : Int32) else 0)] M103 := by
                      obtain ⟨bb, hbb, h⟩ := h
                      exact s_zret hX bb hq rfl dX8_readPerson_225 hbb h
                    refine s_if_eq (tgt := 224) hX dX8_readPerson_217 (by decide) (fun c => ?_) (fun c => ?_)
                    · rw [if_neg (by simp [b2i_0 c])] at hJ
                      refine s_iconst (v := 0) hX dX8_readPerson_224 rfl ?_
                      exact hJ
                    · rw [if_pos (by simp [b2i_1 c])] at hJ
                      refine s_iconst (v := 1) hX dX8_readPerson_220 rfl ?_
                      refine s_goto (tgt := 225) hX dX8_readPerson_221 (by decide) ?_
                      exact hJ
                · replace h := h.2 (b2i_0 c)
                  refine s_iconst (v := 0) hX dX8_readPerson_172 rfl ?_
                  exact s_zret hX false hq rfl dX8_readPerson_173 rfl h
            · replace h := h.2 (b2i_0 c)
              refine s_iconst (v := 0) hX dX8_readPerson_138 rfl ?_
              exact s_zret hX false hq rfl dX8_readPerson_139 rfl h
        · replace h := h.2 c
          refine s_mask [true, false] (lv' := [some (vr c_reader), none]) rfl rfl ?_
          exact t_Rd_readPerson_j85 hX hq h
    · replace h := h.2 (b2i_0 c)
      refine s_iconst (v := 0) hX dX8_readPerson_38 rfl ?_
      exact s_zret hX false hq rfl dX8_readPerson_39 rfl h
  · replace h := h.2 c
    refine s_aload_n hX dX8_readPerson_14 rfl ?_
    refine s_getr hX fi_X8_22 ly_c_reader rfl dX8_readPerson_15 ?_
    refine s_iconst (v := 5) hX dX8_readPerson_18 rfl ?_
    refine s_cvi (as := [vi 5]) (rest := []) hX (c_Tape_fail h) mv_Tape_fail wd_ml_X8_134 dX8_readPerson_19 ly_c_tape rfl rfl (Nat.le_of_ble_eq_true rfl) rfl (by decide) ⟨Nat.zero_le _, Nat.zero_le _⟩ (fun b106_ M105 h => ?_)
    obtain ⟨b106, rfl, h⟩ := h
    exact s_zret hX _ hq rfl dX8_readPerson_22 rfl h
theorem c_Rd_readPerson {M : Mem} {Q : Bool → Mem → Prop} (h : w_Rd_readPerson M Q) : CI yX8_readPerson cX8_readPerson 2 ((some .boolean)) 4 0 0 LY LY [vr c_reader] M (bQ Q) := mk_i rfl wd_co_X8_readPerson rfl rfl (Nat.le_of_ble_eq_true rfl) (fun X hX hq => t_Rd_readPerson hX hq h)
theorem mv_Rd_readPerson : MV yX8_readPerson cX8_readPerson 2 ((some .boolean)) RX8 0 := ⟨wd_co_X8_readPerson, wd_im_X8_readPerson, wd_se_X8_readPerson, wd_in_X8, by decide +kernel, by decide⟩
def w_Rd_isKnown (a0 : Int32) (M : Mem) (Q : Bool → Mem → Prop) : Prop :=
  w_Tape_isName M (fun b116 M115 => ((b116 = true → w_Rd_indexOf a0 M115 (fun r118 M117 => ((¬ r118 = (-1) → Q true (si M117 c_reader Rd_found r118)) ∧ (r118 = (-1) → w_Tape_fail 2 (si M117 c_reader Rd_found r118) (fun b120 M119 => (∃ bb : Bool, (if b120 = true then (1 : Int32) else 0) = b2i bb ∧ Q bb M119)))))) ∧ (b116 = false → w_Tape_fail 1 M115 (fun b122 M121 => Q b122 M121))))
set_option maxHeartbeats 4000000 in
theorem t_Rd_isKnown {X : Cx} (hX : Cok X cX8_isKnown RX8 3 ((some .boolean)) 2 0 0) {Q : Bool → Mem → Prop} (hq : RI X 0 0 LY (bQ Q)) {M : Mem} {a0 : Int32} (h : w_Rd_isKnown a0 M Q) : Wat X 0 0 LY 0 [some (vr c_reader), some (vr c_reader_peopleNames), some (vi a0)] [] M := by
  refine s_aload_n hX dX8_isKnown_0 rfl ?_
  refine s_getr hX fi_X8_22 ly_c_reader rfl dX8_isKnown_1 ?_
  refine s_cvi (as := []) (rest := []) hX (c_Tape_isName h) mv_Tape_isName wd_ml_X8_198 dX8_isKnown_4 ly_c_tape rfl rfl (Nat.le_of_ble_eq_true rfl) rfl (by decide) ⟨Nat.zero_le _, Nat.zero_le _⟩ (fun b116_ M115 h => ?_)
  obtain ⟨b116, rfl, h⟩ := h
  refine s_if_ne (tgt := 19) hX dX8_isKnown_7 (by decide) (fun c => ?_) (fun c => ?_)
  · replace h := h.1 (b2i_1 c)
    refine s_aload_n hX dX8_isKnown_19 rfl ?_
    refine s_aload_n hX dX8_isKnown_20 rfl ?_
    refine s_aload_n hX dX8_isKnown_21 rfl ?_
    refine s_iload_n hX dX8_isKnown_22 rfl ?_
    refine s_cvi (as := [vr c_reader_peopleNames, vi a0]) (rest := [vr c_reader]) hX (c_Rd_indexOf h) mv_Rd_indexOf wd_ml_X8_201 dX8_isKnown_23 ly_c_reader rfl rfl (Nat.le_of_ble_eq_true rfl) rfl (by decide) ⟨Nat.zero_le _, Nat.zero_le _⟩ (fun r118 M117 h => ?_)
    refine s_puti hX fi_X8_163 fp_X8 rfl (by decide +kernel) ly_c_reader rfl dX8_isKnown_26 ?_
    refine s_aload_n hX dX8_isKnown_29 rfl ?_
    refine s_getiv (v := r118) hX fi_X8_163 ly_c_reader rfl dX8_isKnown_30 rfl ?_
    refine s_iconst (v := (-1)) hX dX8_isKnown_33 rfl ?_
    refine s_icmp_ne (tgt := 48) hX dX8_isKnown_34 (by decide) (fun c => ?_) (fun c => ?_)
    · replace h := h.1 c
      refine s_iconst (v := 1) hX dX8_isKnown_48 rfl ?_
      refine s_goto (tgt := 53) hX dX8_isKnown_49 (by decide) ?_
      exact s_zret hX true hq rfl dX8_isKnown_53 rfl h
    · replace h := h.2 c
      refine s_aload_n hX dX8_isKnown_37 rfl ?_
      refine s_getr hX fi_X8_22 ly_c_reader rfl dX8_isKnown_38 ?_
      refine s_iconst (v := 2) hX dX8_isKnown_41 rfl ?_
      refine s_cvi (as := [vi 2]) (rest := []) hX (c_Tape_fail h) mv_Tape_fail wd_ml_X8_134 dX8_isKnown_42 ly_c_tape rfl rfl (Nat.le_of_ble_eq_true rfl) rfl (by decide) ⟨Nat.zero_le _, Nat.zero_le _⟩ (fun b120_ M119 h => ?_)
      obtain ⟨b120, rfl, h⟩ := h
      have hJ : Wat X 0 0 LY 53 [some (vr c_reader), some (vr c_reader_peopleNames), some (vi a0)] [vi (if b120 = true then (1 : Int32) else 0)] M119 := by
        obtain ⟨bb, hbb, h⟩ := h
        exact s_zret hX bb hq rfl dX8_isKnown_53 hbb h
      refine s_if_eq (tgt := 52) hX dX8_isKnown_45 (by decide) (fun c => ?_) (fun c => ?_)
      · rw [if_neg (by simp [b2i_0 c])] at hJ
        refine s_iconst (v := 0) hX dX8_isKnown_52 rfl ?_
        exact hJ
      · rw [if_pos (by simp [b2i_1 c])] at hJ
        refine s_iconst (v := 1) hX dX8_isKnown_48 rfl ?_
        refine s_goto (tgt := 53) hX dX8_isKnown_49 (by decide) ?_
        exact hJ
  · replace h := h.2 (b2i_0 c)
    refine s_aload_n hX dX8_isKnown_10 rfl ?_
    refine s_getr hX fi_X8_22 ly_c_reader rfl dX8_isKnown_11 ?_
    refine s_iconst (v := 1) hX dX8_isKnown_14 rfl ?_
    refine s_cvi (as := [vi 1]) (rest := []) hX (c_Tape_fail h) mv_Tape_fail wd_ml_X8_134 dX8_isKnown_15 ly_c_tape rfl rfl (Nat.le_of_ble_eq_true rfl) rfl (by decide) ⟨Nat.zero_le _, Nat.zero_le _⟩ (fun b122_ M121 h => ?_)
    obtain ⟨b122, rfl, h⟩ := h
    exact s_zret hX _ hq rfl dX8_isKnown_18 rfl h
theorem c_Rd_isKnown {a0 : Int32} {M : Mem} {Q : Bool → Mem → Prop} (h : w_Rd_isKnown a0 M Q) : CI yX8_isKnown cX8_isKnown 3 ((some .boolean)) 2 0 0 LY LY [vr c_reader, vr c_reader_peopleNames, vi a0] M (bQ Q) := mk_i rfl wd_co_X8_isKnown rfl rfl (Nat.le_of_ble_eq_true rfl) (fun X hX hq => t_Rd_isKnown hX hq h)
theorem mv_Rd_isKnown : MV yX8_isKnown cX8_isKnown 3 ((some .boolean)) RX8 2 := ⟨wd_co_X8_isKnown, wd_im_X8_isKnown, wd_se_X8_isKnown, wd_in_X8, by decide +kernel, by decide⟩
def w_Rd_readGo (M : Mem) (Q : Bool → Mem → Prop) : Prop :=
  (((M.1 c_reader Rd_goCount) < 20 → w_Tape_step (si M c_reader Rd_goCount ((M.1 c_reader Rd_goCount) + 1)) (fun b114 M113 => w_Rd_isKnown (M113.1 c_draft Land_people) M113 (fun b124 M123 => ((b124 = true → w_Tape_step M123 (fun b126 M125 => w_Rd_takeKeyword 5 M125 (fun b128 M127 => ((b128 = false → Q false M127) ∧ (b128 = true → w_Rd_isNumber 1 23 M127 (fun b130 M129 => ((b130 = true → ∀ x131 : Int32, x131 = (((M123.1 c_reader Rd_found) * 24) + (M129.1 c_tape Tape_number)) → (vp_in x131 144 ∧ (((M129.1 c_reader_goes (Int32.toNatClampNeg x131)) = (-1) → w_Tape_step M129 (fun b133 M132 => w_Rd_takeKeyword 2 M132 (fun b135 M134 => ((b135 = false → Q false M134) ∧ (b135 = true → w_Rd_takeCell M134 (fun b137 M136 => ((b137 = true → (vp_in x131 144 ∧ w_Rd_takeEnd (si M136 c_reader_goes (Int32.toNatClampNeg x131) (M136.1 c_reader Rd_cell)) (fun b139 M138 => Q b139 M138))) ∧ (b137 = false → Q false M136)))))))) ∧ (¬ (M129.1 c_reader_goes (Int32.toNatClampNeg x131)) = (-1) → w_Tape_fail 3 M129 (fun b141 M140 => Q b141 M140))))) ∧ (b130 = false → Q false M129)))))))) ∧ (b124 = false → Q false M123))))) ∧ (¬ (M.1 c_reader Rd_goCount) < 20 → w_Tape_fail 5 M (fun b143 M142 => Q b143 M142)))
set_option maxHeartbeats 4000000 in
theorem t_Rd_readGo {X : Cx} (hX : Cok X cX8_readGo RX8 3 ((some .boolean)) 4 0 0) {Q : Bool → Mem → Prop} (hq : RI X 0 0 LY (bQ Q)) {M : Mem} (h : w_Rd_readGo M Q) : Wat X 0 0 LY 0 [some (vr c_reader), none, none] [] M := by
  refine s_aload_n hX dX8_readGo_0 rfl ?_
  refine s_getiv (v := (M.1 c_reader Rd_goCount)) hX fi_X8_50 ly_c_reader rfl dX8_readGo_1 rfl ?_
  refine s_bipush (v := 20) hX dX8_readGo_4 rfl ?_
  refine s_icmp_lt (tgt := 18) hX dX8_readGo_6 (by decide) (fun c => ?_) (fun c => ?_)
  · replace h := h.1 c
    refine s_aload_n hX dX8_readGo_18 rfl ?_
    refine s_dup hX dX8_readGo_19 rfl ?_
    refine s_getiv (v := (M.1 c_reader Rd_goCount)) hX fi_X8_50 ly_c_reader rfl dX8_readGo_20 rfl ?_
    refine s_iconst (v := 1) hX dX8_readGo_23 rfl ?_
    refine s_iadd hX dX8_readGo_24 ?_
    refine s_puti hX fi_X8_50 fp_X8 rfl (by decide +kernel) ly_c_reader rfl dX8_readGo_25 ?_
    refine s_aload_n hX dX8_readGo_28 rfl ?_
    refine s_getr hX fi_X8_22 ly_c_reader rfl dX8_readGo_29 ?_
    refine s_cvi (as := []) (rest := []) hX (c_Tape_step h) mv_Tape_step wd_ml_X8_96 dX8_readGo_32 ly_c_tape rfl rfl (Nat.le_of_ble_eq_true rfl) rfl (by decide) ⟨Nat.zero_le _, Nat.zero_le _⟩ (fun b114_ M113 h => ?_)
    obtain ⟨b114, rfl, h⟩ := h
    refine s_pop hX dX8_readGo_35 rfl ?_
    refine s_aload_n hX dX8_readGo_36 rfl ?_
    refine s_aload_n hX dX8_readGo_37 rfl ?_
    refine s_getr hX fi_X8_9 ly_c_reader rfl dX8_readGo_38 ?_
    refine s_aload_n hX dX8_readGo_41 rfl ?_
    refine s_getr hX fi_X8_26 ly_c_reader rfl dX8_readGo_42 ?_
    refine s_getiv (v := (M113.1 c_draft Land_people)) hX fi_X8_137 ly_c_draft rfl dX8_readGo_45 rfl ?_
    refine s_cvi (as := [vr c_reader_peopleNames, vi (M113.1 c_draft Land_people)]) (rest := []) hX (c_Rd_isKnown h) mv_Rd_isKnown wd_ml_X8_159 dX8_readGo_48 ly_c_reader rfl rfl (Nat.le_of_ble_eq_true rfl) rfl (by decide) ⟨Nat.zero_le _, Nat.zero_le _⟩ (fun b124_ M123 h => ?_)
    obtain ⟨b124, rfl, h⟩ := h
    refine s_if_ne (tgt := 56) hX dX8_readGo_51 (by decide) (fun c => ?_) (fun c => ?_)
    · replace h := h.1 (b2i_1 c)
      refine s_aload_n hX dX8_readGo_56 rfl ?_
      refine s_getiv (v := (M123.1 c_reader Rd_found)) hX fi_X8_163 ly_c_reader rfl dX8_readGo_57 rfl ?_
      refine s_istore_n (lv' := [some (vr c_reader), some (vi (M123.1 c_reader Rd_found)), none]) hX dX8_readGo_60 rfl rfl (Nat.le_of_ble_eq_true rfl) ?_
      refine s_aload_n hX dX8_readGo_61 rfl ?_
      refine s_getr hX fi_X8_22 ly_c_reader rfl dX8_readGo_62 ?_
      refine s_cvi (as := []) (rest := []) hX (c_Tape_step h) mv_Tape_step wd_ml_X8_96 dX8_readGo_65 ly_c_tape rfl rfl (Nat.le_of_ble_eq_true rfl) rfl (by decide) ⟨Nat.zero_le _, Nat.zero_le _⟩ (fun b126_ M125 h => ?_)
      obtain ⟨b126, rfl, h⟩ := h
      refine s_pop hX dX8_readGo_68 rfl ?_
      refine s_aload_n hX dX8_readGo_69 rfl ?_
      refine s_iconst (v := 5) hX dX8_readGo_70 rfl ?_
      refine s_cvi (as := [vi 5]) (rest := []) hX (c_Rd_takeKeyword h) mv_Rd_takeKeyword wd_ml_X8_82 dX8_readGo_71 ly_c_reader rfl rfl (Nat.le_of_ble_eq_true rfl) rfl (by decide) ⟨Nat.zero_le _, Nat.zero_le _⟩ (fun b128_ M127 h => ?_)
      obtain ⟨b128, rfl, h⟩ := h
      refine s_if_eq (tgt := 87) hX dX8_readGo_74 (by decide) (fun c => ?_) (fun c => ?_)
      · replace h := h.1 (b2i_0 c)
        refine s_iconst (v := 0) hX dX8_readGo_87 rfl ?_
        exact s_zret hX false hq rfl dX8_readGo_88 rfl h
      · replace h := h.2 (b2i_1 c)
        refine s_aload_n hX dX8_readGo_77 rfl ?_
        refine s_iconst (v := 1) hX dX8_readGo_78 rfl ?_
        refine s_bipush (v := 23) hX dX8_readGo_79 rfl ?_
        refine s_cvi (as := [vi 1, vi 23]) (rest := []) hX (c_Rd_isNumber h) mv_Rd_isNumber wd_ml_X8_86 dX8_readGo_81 ly_c_reader rfl rfl (Nat.le_of_ble_eq_true rfl) rfl (by decide) ⟨Nat.zero_le _, Nat.zero_le _⟩ (fun b130_ M129 h => ?_)
        obtain ⟨b130, rfl, h⟩ := h
        refine s_if_ne (tgt := 89) hX dX8_readGo_84 (by decide) (fun c => ?_) (fun c => ?_)
        · replace h := h.1 (b2i_1 c)
          refine s_iload_n hX dX8_readGo_89 rfl ?_
          refine s_bipush (v := 24) hX dX8_readGo_90 rfl ?_
          refine s_imul hX dX8_readGo_92 ?_
          refine s_aload_n hX dX8_readGo_93 rfl ?_
          refine s_getr hX fi_X8_22 ly_c_reader rfl dX8_readGo_94 ?_
          refine s_getiv (v := (M129.1 c_tape Tape_number)) hX fi_X8_90 ly_c_tape rfl dX8_readGo_97 rfl ?_
          refine s_iadd hX dX8_readGo_100 ?_
          refine s_nmi (fun x131 ex131 => ?_)
          replace h := h x131 ex131
          refine s_istore_n (lv' := [some (vr c_reader), some (vi (M123.1 c_reader Rd_found)), some (vi x131)]) hX dX8_readGo_101 rfl rfl (Nat.le_of_ble_eq_true rfl) ?_
          refine s_aload_n hX dX8_readGo_102 rfl ?_
          refine s_getr hX fi_X8_18 ly_c_reader rfl dX8_readGo_103 ?_
          refine s_iload_n hX dX8_readGo_106 rfl ?_
          have hi := h.1
          replace h := h.2
          refine s_ialdv (v := (M129.1 c_reader_goes (Int32.toNatClampNeg x131))) hX ly_c_reader_goes hi dX8_readGo_107 rfl ?_
          refine s_iconst (v := (-1)) hX dX8_readGo_108 rfl ?_
          refine s_icmp_eq (tgt := 121) hX dX8_readGo_109 (by decide) (fun c => ?_) (fun c => ?_)
          · replace h := h.1 c
            refine s_aload_n hX dX8_readGo_121 rfl ?_
            refine s_getr hX fi_X8_22 ly_c_reader rfl dX8_readGo_122 ?_
            refine s_cvi (as := []) (rest := []) hX (c_Tape_step h) mv_Tape_step wd_ml_X8_96 dX8_readGo_125 ly_c_tape rfl rfl (Nat.le_of_ble_eq_true rfl) rfl (by decide) ⟨Nat.zero_le _, Nat.zero_le _⟩ (fun b133_ M132 h => ?_)
            obtain ⟨b133, rfl, h⟩ := h
            refine s_pop hX dX8_readGo_128 rfl ?_
            refine s_aload_n hX dX8_readGo_129 rfl ?_
            refine s_iconst (v := 2) hX dX8_readGo_130 rfl ?_
            refine s_cvi (as := [vi 2]) (rest := []) hX (c_Rd_takeKeyword h) mv_Rd_takeKeyword wd_ml_X8_82 dX8_readGo_131 ly_c_reader rfl rfl (Nat.le_of_ble_eq_true rfl) rfl (by decide) ⟨Nat.zero_le _, Nat.zero_le _⟩ (fun b135_ M134 h => ?_)
            obtain ⟨b135, rfl, h⟩ := h
            refine s_if_eq (tgt := 144) hX dX8_readGo_134 (by decide) (fun c => ?_) (fun c => ?_)
            · replace h := h.1 (b2i_0 c)
              refine s_iconst (v := 0) hX dX8_readGo_144 rfl ?_
              exact s_zret hX false hq rfl dX8_readGo_145 rfl h
            · replace h := h.2 (b2i_1 c)
              refine s_aload_n hX dX8_readGo_137 rfl ?_
              refine s_cvi (as := []) (rest := []) hX (c_Rd_takeCell h) mv_Rd_takeCell wd_ml_X8_150 dX8_readGo_138 ly_c_reader rfl rfl (Nat.le_of_ble_eq_true rfl) rfl (by decide) ⟨Nat.zero_le _, Nat.zero_le _⟩ (fun b137_ M136 h => ?_)
              obtain ⟨b137, rfl, h⟩ := h
              refine s_if_ne (tgt := 146) hX dX8_readGo_141 (by decide) (fun c => ?_) (fun c => ?_)
              · replace h := h.1 (b2i_1 c)
                refine s_aload_n hX dX8_readGo_146 rfl ?_
                refine s_getr hX fi_X8_18 ly_c_reader rfl dX8_readGo_147 ?_
                refine s_iload_n hX dX8_readGo_150 rfl ?_
                refine s_aload_n hX dX8_readGo_151 rfl ?_
                refine s_getiv (v := (M136.1 c_reader Rd_cell)) hX fi_X8_153 ly_c_reader rfl dX8_readGo_152 rfl ?_
                have hi := h.1
                replace h := h.2
                refine s_iast hX ly_c_reader_goes hi dX8_readGo_155 ?_
                refine s_aload_n hX dX8_readGo_156 rfl ?_
                refine s_cvi (as := []) (rest := []) hX (c_Rd_takeEnd h) mv_Rd_takeEnd wd_ml_X8_102 dX8_readGo_157 ly_c_reader rfl rfl (Nat.le_of_ble_eq_true rfl) rfl (by decide) ⟨Nat.zero_le _, Nat.zero_le _⟩ (fun b139_ M138 h => ?_)
                obtain ⟨b139, rfl, h⟩ := h
                exact s_zret hX _ hq rfl dX8_readGo_160 rfl h
              · replace h := h.2 (b2i_0 c)
                refine s_iconst (v := 0) hX dX8_readGo_144 rfl ?_
                exact s_zret hX false hq rfl dX8_readGo_145 rfl h
          · replace h := h.2 c
            refine s_aload_n hX dX8_readGo_112 rfl ?_
            refine s_getr hX fi_X8_22 ly_c_reader rfl dX8_readGo_113 ?_
            refine s_iconst (v := 3) hX dX8_readGo_116 rfl ?_
            refine s_cvi (as := [vi 3]) (rest := []) hX (c_Tape_fail h) mv_Tape_fail wd_ml_X8_134 dX8_readGo_117 ly_c_tape rfl rfl (Nat.le_of_ble_eq_true rfl) rfl (by decide) ⟨Nat.zero_le _, Nat.zero_le _⟩ (fun b141_ M140 h => ?_)
            obtain ⟨b141, rfl, h⟩ := h
            exact s_zret hX _ hq rfl dX8_readGo_120 rfl h
        · replace h := h.2 (b2i_0 c)
          refine s_iconst (v := 0) hX dX8_readGo_87 rfl ?_
          exact s_zret hX false hq rfl dX8_readGo_88 rfl h
    · replace h := h.2 (b2i_0 c)
      refine s_iconst (v := 0) hX dX8_readGo_54 rfl ?_
      exact s_zret hX false hq rfl dX8_readGo_55 rfl h
  · replace h := h.2 c
    refine s_aload_n hX dX8_readGo_9 rfl ?_
    refine s_getr hX fi_X8_22 ly_c_reader rfl dX8_readGo_10 ?_
    refine s_iconst (v := 5) hX dX8_readGo_13 rfl ?_
    refine s_cvi (as := [vi 5]) (rest := []) hX (c_Tape_fail h) mv_Tape_fail wd_ml_X8_134 dX8_readGo_14 ly_c_tape rfl rfl (Nat.le_of_ble_eq_true rfl) rfl (by decide) ⟨Nat.zero_le _, Nat.zero_le _⟩ (fun b143_ M142 h => ?_)
    obtain ⟨b143, rfl, h⟩ := h
    exact s_zret hX _ hq rfl dX8_readGo_17 rfl h
theorem c_Rd_readGo {M : Mem} {Q : Bool → Mem → Prop} (h : w_Rd_readGo M Q) : CI yX8_readGo cX8_readGo 3 ((some .boolean)) 4 0 0 LY LY [vr c_reader] M (bQ Q) := mk_i rfl wd_co_X8_readGo rfl rfl (Nat.le_of_ble_eq_true rfl) (fun X hX hq => t_Rd_readGo hX hq h)
theorem mv_Rd_readGo : MV yX8_readGo cX8_readGo 3 ((some .boolean)) RX8 0 := ⟨wd_co_X8_readGo, wd_im_X8_readGo, wd_se_X8_readGo, wd_in_X8, by decide +kernel, by decide⟩
