def w_Mo_nearestTo_L18 (l1 : Int32) (l2 : Int32) (K : Int32 → Mem → Prop) (Q : Int32 → Mem → Prop) : Nat → Int32 → Int32 → Int32 → Mem → Prop
  | 0, _, _, _, _ => False
  | n + 1, l4, l5, l6, M => w_Mo_persons M (fun r955 M954 => ((r955 ≤ l6 → K l4 M954) ∧ (¬ r955 ≤ l6 → w_Mo_placeAt l1 l2 M954 (fun r957 M956 => w_Mo_placeAt l6 l2 M956 (fun r959 M958 => w_Mo_apart r957 r959 M958 (fun r961 M960 => ((l6 = l1 → w_Mo_nearestTo_L18 l1 l2 K Q n l4 l5 (l6 + 1) M960) ∧ (¬ l6 = l1 → ((l5 ≤ r961 → w_Mo_nearestTo_L18 l1 l2 K Q n l4 l5 (l6 + 1) M960) ∧ (¬ l5 ≤ r961 → w_Mo_nearestTo_L18 l1 l2 K Q n l6 r961 (l6 + 1) M960))))))))))
set_option maxHeartbeats 4000000 in
theorem t_Mo_nearestTo_L18 {X : Cx} (hX : Cok X cX12_nearestTo RX12 8 ((some .int)) 4 0 0) {Q : Int32 → Mem → Prop} (hq : RI X 0 0 LY Q) {l1 : Int32} {l2 : Int32} {K : Int32 → Mem → Prop} (hK : ∀ (l4 : Int32) (M : Mem), K l4 M → Wat X 0 0 LY 72 [none, none, none, none, some (vi l4), none, none, none] [] M) : ∀ (n : Nat) (l4 : Int32) (l5 : Int32) (l6 : Int32) (M : Mem), w_Mo_nearestTo_L18 l1 l2 K Q n l4 l5 l6 M → Wat X 0 0 LY 18 [some (vr c_mo), some (vi l1), some (vi l2), none, some (vi l4), some (vi l5), some (vi l6), none] [] M := by
  intro n
  induction n with
  | zero => intro _ _ _ _ h; exact h.elim
  | succ n ih =>
    intro l4 l5 l6 M h
    refine s_iload hX dX12_nearestTo_18 rfl ?_
    refine s_aload_n hX dX12_nearestTo_20 rfl ?_
    refine s_cvi (as := []) (rest := [vi l6]) hX (c_Mo_persons h) mv_Mo_persons wd_ml_X12_226 dX12_nearestTo_21 ly_c_mo rfl rfl (Nat.le_of_ble_eq_true rfl) rfl (by decide) ⟨Nat.zero_le _, Nat.zero_le _⟩ (fun r955 M954 h => ?_)
    refine s_icmp_ge (tgt := 72) hX dX12_nearestTo_24 (by decide) (fun c => ?_) (fun c => ?_)
    · replace h := h.1 c
      refine s_mask [false, false, false, true, true, false, false, true] (lv' := [none, none, none, none, some (vi l4), none, none, none]) rfl rfl ?_
      exact hK _ _ h
    · replace h := h.2 c
      refine s_aload_n hX dX12_nearestTo_27 rfl ?_
      refine s_iload_n hX dX12_nearestTo_28 rfl ?_
      refine s_iload_n hX dX12_nearestTo_29 rfl ?_
      refine s_cvi (as := [vi l1, vi l2]) (rest := []) hX (c_Mo_placeAt h) mv_Mo_placeAt wd_ml_X12_317 dX12_nearestTo_30 ly_c_mo rfl rfl (Nat.le_of_ble_eq_true rfl) rfl (by decide) ⟨Nat.zero_le _, Nat.zero_le _⟩ (fun r957 M956 h => ?_)
      refine s_aload_n hX dX12_nearestTo_33 rfl ?_
      refine s_iload hX dX12_nearestTo_34 rfl ?_
      refine s_iload_n hX dX12_nearestTo_36 rfl ?_
      refine s_cvi (as := [vi l6, vi l2]) (rest := [vi r957]) hX (c_Mo_placeAt h) mv_Mo_placeAt wd_ml_X12_317 dX12_nearestTo_37 ly_c_mo rfl rfl (Nat.le_of_ble_eq_true rfl) rfl (by decide) ⟨Nat.zero_le _, Nat.zero_le _⟩ (fun r959 M958 h => ?_)
      refine s_csi (as := [vi r957, vi r959]) (rest := []) hX (c_Mo_apart h) ms_Mo_apart wd_ml_X12_329 dX12_nearestTo_40 rfl (Nat.le_of_ble_eq_true rfl) rfl (by decide) ⟨Nat.zero_le _, Nat.zero_le _⟩ (fun r961 M960 h => ?_)
      refine s_istore (lv' := [some (vr c_mo), some (vi l1), some (vi l2), none, some (vi l4), some (vi l5), some (vi l6), some (vi r961)]) hX dX12_nearestTo_43 rfl rfl (Nat.le_of_ble_eq_true rfl) ?_
      refine s_iload hX dX12_nearestTo_45 rfl ?_
      refine s_iload_n hX dX12_nearestTo_47 rfl ?_
      refine s_icmp_eq (tgt := 66) hX dX12_nearestTo_48 (by decide) (fun c => ?_) (fun c => ?_)
      · replace h := h.1 c
        refine s_iinc (v := (l6 + 1)) (lv' := [some (vr c_mo), some (vi l1), some (vi l2), none, some (vi l4), some (vi l5), some (vi (l6 + 1)), some (vi r961)]) hX dX12_nearestTo_66 rfl rfl rfl rfl ?_
        refine s_goto (tgt := 18) hX dX12_nearestTo_69 (by decide) ?_
        refine s_mask [true, true, true, true, true, true, true, false] (lv' := [some (vr c_mo), some (vi l1), some (vi l2), none, some (vi l4), some (vi l5), some (vi (l6 + 1)), none]) rfl rfl ?_
        exact ih _ _ _ _ h
      · replace h := h.2 c
        refine s_iload hX dX12_nearestTo_51 rfl ?_
        refine s_iload hX dX12_nearestTo_53 rfl ?_
        refine s_icmp_ge (tgt := 66) hX dX12_nearestTo_55 (by decide) (fun c => ?_) (fun c => ?_)
        · replace h := h.1 c
          refine s_iinc (v := (l6 + 1)) (lv' := [some (vr c_mo), some (vi l1), some (vi l2), none, some (vi l4), some (vi l5), some (vi (l6 + 1)), some (vi r961)]) hX dX12_nearestTo_66 rfl rfl rfl rfl ?_
          refine s_goto (tgt := 18) hX dX12_nearestTo_69 (by decide) ?_
          refine s_mask [true, true, true, true, true, true, true, false] (lv' := [some (vr c_mo), some (vi l1), some (vi l2), none, some (vi l4), some (vi l5), some (vi (l6 + 1)), none]) rfl rfl ?_
          exact ih _ _ _ _ h
        · replace h := h.2 c
          refine s_iload hX dX12_nearestTo_58 rfl ?_
          refine s_istore (lv' := [some (vr c_mo), some (vi l1), some (vi l2), none, some (vi l6), some (vi l5), some (vi l6), some (vi r961)]) hX dX12_nearestTo_60 rfl rfl (Nat.le_of_ble_eq_true rfl) ?_
          refine s_iload hX dX12_nearestTo_62 rfl ?_
          refine s_istore (lv' := [some (vr c_mo), some (vi l1), some (vi l2), none, some (vi l6), some (vi r961), some (vi l6), some (vi r961)]) hX dX12_nearestTo_64 rfl rfl (Nat.le_of_ble_eq_true rfl) ?_
          refine s_iinc (v := (l6 + 1)) (lv' := [some (vr c_mo), some (vi l1), some (vi l2), none, some (vi l6), some (vi r961), some (vi (l6 + 1)), some (vi r961)]) hX dX12_nearestTo_66 rfl rfl rfl rfl ?_
          refine s_goto (tgt := 18) hX dX12_nearestTo_69 (by decide) ?_
          refine s_mask [true, true, true, true, true, true, true, false] (lv' := [some (vr c_mo), some (vi l1), some (vi l2), none, some (vi l6), some (vi r961), some (vi (l6 + 1)), none]) rfl rfl ?_
          exact ih _ _ _ _ h
def w_Mo_nearestTo (a0 : Int32) (a1 : Int32) (M : Mem) (Q : Int32 → Mem → Prop) : Prop :=
  w_Mo_fogAt a0 a1 M (fun r953 M952 => (∃ n964, w_Mo_nearestTo_L18 a0 a1 (fun y963 M962 => Q y963 M962) Q n964 (-1) (r953 + 1) 0 M952))
set_option maxHeartbeats 4000000 in
theorem t_Mo_nearestTo {X : Cx} (hX : Cok X cX12_nearestTo RX12 8 ((some .int)) 4 0 0) {Q : Int32 → Mem → Prop} (hq : RI X 0 0 LY Q) {M : Mem} {a0 : Int32} {a1 : Int32} (h : w_Mo_nearestTo a0 a1 M Q) : Wat X 0 0 LY 0 [some (vr c_mo), some (vi a0), some (vi a1), none, none, none, none, none] [] M := by
  refine s_aload_n hX dX12_nearestTo_0 rfl ?_
  refine s_iload_n hX dX12_nearestTo_1 rfl ?_
  refine s_iload_n hX dX12_nearestTo_2 rfl ?_
  refine s_cvi (as := [vi a0, vi a1]) (rest := []) hX (c_Mo_fogAt h) mv_Mo_fogAt wd_ml_X12_326 dX12_nearestTo_3 ly_c_mo rfl rfl (Nat.le_of_ble_eq_true rfl) rfl (by decide) ⟨Nat.zero_le _, Nat.zero_le _⟩ (fun r953 M952 h => ?_)
  refine s_istore_n (lv' := [some (vr c_mo), some (vi a0), some (vi a1), some (vi r953), none, none, none, none]) hX dX12_nearestTo_6 rfl rfl (Nat.le_of_ble_eq_true rfl) ?_
  refine s_iconst (v := (-1)) hX dX12_nearestTo_7 rfl ?_
  refine s_istore (lv' := [some (vr c_mo), some (vi a0), some (vi a1), some (vi r953), some (vi (-1)), none, none, none]) hX dX12_nearestTo_8 rfl rfl (Nat.le_of_ble_eq_true rfl) ?_
  refine s_iload_n hX dX12_nearestTo_10 rfl ?_
  refine s_iconst (v := 1) hX dX12_nearestTo_11 rfl ?_
  refine s_iadd hX dX12_nearestTo_12 ?_
  refine s_istore (lv' := [some (vr c_mo), some (vi a0), some (vi a1), some (vi r953), some (vi (-1)), some (vi (r953 + 1)), none, none]) hX dX12_nearestTo_13 rfl rfl (Nat.le_of_ble_eq_true rfl) ?_
  refine s_iconst (v := 0) hX dX12_nearestTo_15 rfl ?_
  refine s_istore (lv' := [some (vr c_mo), some (vi a0), some (vi a1), some (vi r953), some (vi (-1)), some (vi (r953 + 1)), some (vi 0), none]) hX dX12_nearestTo_16 rfl rfl (Nat.le_of_ble_eq_true rfl) ?_
  refine s_mask [true, true, true, false, true, true, true, true] (lv' := [some (vr c_mo), some (vi a0), some (vi a1), none, some (vi (-1)), some (vi (r953 + 1)), some (vi 0), none]) rfl rfl ?_
  obtain ⟨n964, h⟩ := h
  refine t_Mo_nearestTo_L18 hX hq ?_ n964 _ _ _ _ h
  intro y963 M962 h
  refine s_iload hX dX12_nearestTo_72 rfl ?_
  exact s_iret hX hq rfl dX12_nearestTo_74 h
theorem c_Mo_nearestTo {a0 : Int32} {a1 : Int32} {M : Mem} {Q : Int32 → Mem → Prop} (h : w_Mo_nearestTo a0 a1 M Q) : CI yX12_nearestTo cX12_nearestTo 8 ((some .int)) 4 0 0 LY LY [vr c_mo, vi a0, vi a1] M Q := mk_i rfl wd_co_X12_nearestTo rfl rfl (Nat.le_of_ble_eq_true rfl) (fun X hX hq => t_Mo_nearestTo hX hq h)
theorem mv_Mo_nearestTo : MV yX12_nearestTo cX12_nearestTo 8 ((some .int)) RX12 2 := ⟨wd_co_X12_nearestTo, wd_im_X12_nearestTo, wd_se_X12_nearestTo, wd_in_X12, by decide +kernel, by decide⟩
def w_Mo_creditor (a0 : Int32) (a1 : Int32) (a2 : Int32) (M : Mem) (Q : Int32 → Mem → Prop) : Prop :=
  w_Mo_hears a0 a1 a2 M (fun b943 M942 => ((b943 = false → Q (-1) M942) ∧ (b943 = true → w_Mo_nearestTo a2 a1 M942 (fun r966 M965 => Q r966 M965))))
set_option maxHeartbeats 4000000 in
theorem t_Mo_creditor {X : Cx} (hX : Cok X cX12_creditor RX12 4 ((some .int)) 5 0 0) {Q : Int32 → Mem → Prop} (hq : RI X 0 0 LY Q) {M : Mem} {a0 : Int32} {a1 : Int32} {a2 : Int32} (h : w_Mo_creditor a0 a1 a2 M Q) : Wat X 0 0 LY 0 [some (vr c_mo), some (vi a0), some (vi a1), some (vi a2)] [] M := by
  refine s_aload_n hX dX12_creditor_0 rfl ?_
  refine s_iload_n hX dX12_creditor_1 rfl ?_
  refine s_iload_n hX dX12_creditor_2 rfl ?_
  refine s_iload_n hX dX12_creditor_3 rfl ?_
  refine s_cvi (as := [vi a0, vi a1, vi a2]) (rest := []) hX (c_Mo_hears h) mv_Mo_hears wd_ml_X12_335 dX12_creditor_4 ly_c_mo rfl rfl (Nat.le_of_ble_eq_true rfl) rfl (by decide) ⟨Nat.zero_le _, Nat.zero_le _⟩ (fun b943_ M942 h => ?_)
  obtain ⟨b943, rfl, h⟩ := h
  refine s_if_eq (tgt := 19) hX dX12_creditor_7 (by decide) (fun c => ?_) (fun c => ?_)
  · replace h := h.1 (b2i_0 c)
    refine s_iconst (v := (-1)) hX dX12_creditor_19 rfl ?_
    exact s_iret hX hq rfl dX12_creditor_20 h
  · replace h := h.2 (b2i_1 c)
    refine s_aload_n hX dX12_creditor_10 rfl ?_
    refine s_iload_n hX dX12_creditor_11 rfl ?_
    refine s_iload_n hX dX12_creditor_12 rfl ?_
    refine s_cvi (as := [vi a2, vi a1]) (rest := []) hX (c_Mo_nearestTo h) mv_Mo_nearestTo wd_ml_X12_339 dX12_creditor_13 ly_c_mo rfl rfl (Nat.le_of_ble_eq_true rfl) rfl (by decide) ⟨Nat.zero_le _, Nat.zero_le _⟩ (fun r966 M965 h => ?_)
    refine s_goto (tgt := 20) hX dX12_creditor_16 (by decide) ?_
    exact s_iret hX hq rfl dX12_creditor_20 h
theorem c_Mo_creditor {a0 : Int32} {a1 : Int32} {a2 : Int32} {M : Mem} {Q : Int32 → Mem → Prop} (h : w_Mo_creditor a0 a1 a2 M Q) : CI yX12_creditor cX12_creditor 4 ((some .int)) 5 0 0 LY LY [vr c_mo, vi a0, vi a1, vi a2] M Q := mk_i rfl wd_co_X12_creditor rfl rfl (Nat.le_of_ble_eq_true rfl) (fun X hX hq => t_Mo_creditor hX hq h)
theorem mv_Mo_creditor : MV yX12_creditor cX12_creditor 4 ((some .int)) RX12 3 := ⟨wd_co_X12_creditor, wd_im_X12_creditor, wd_se_X12_creditor, wd_in_X12, by decide +kernel, by decide⟩
def w_Mo_entry_j75 (l1 : Int32) (l2 : Int32) (l3 : Int32) (l4 : Int32) (l5 : Int32) (s0 : Int32) (M : Mem) (Q : Int32 → Mem → Prop) : Prop :=
  ((l4 = 0 → ((0 ≤ s0 → w_Mo_pence l1 l2 l3 s0 l5 M (fun r935 M934 => Q r935 M934)) ∧ (¬ 0 ≤ s0 → Q 0 M))) ∧ (¬ l4 = 0 → Q s0 M))
set_option maxHeartbeats 4000000 in
theorem t_Mo_entry_j75 {X : Cx} (hX : Cok X cX12_entry RX12 7 ((some .int)) 6 0 0) {Q : Int32 → Mem → Prop} (hq : RI X 0 0 LY Q) {l1 : Int32} {l2 : Int32} {l3 : Int32} {l4 : Int32} {l5 : Int32} {s0 : Int32} {M : Mem} (h : w_Mo_entry_j75 l1 l2 l3 l4 l5 s0 M Q) : Wat X 0 0 LY 75 [some (vr c_mo), some (vi l1), some (vi l2), some (vi l3), some (vi l4), some (vi l5), none] [vi s0] M := by
  refine s_istore (lv' := [some (vr c_mo), some (vi l1), some (vi l2), some (vi l3), some (vi l4), some (vi l5), some (vi s0)]) hX dX12_entry_75 rfl rfl (Nat.le_of_ble_eq_true rfl) ?_
  refine s_iload hX dX12_entry_77 rfl ?_
  refine s_if_eq (tgt := 87) hX dX12_entry_79 (by decide) (fun c => ?_) (fun c => ?_)
  · replace h := h.1 c
    refine s_iload hX dX12_entry_87 rfl ?_
    refine s_if_ge (tgt := 96) hX dX12_entry_89 (by decide) (fun c => ?_) (fun c => ?_)
    · replace h := h.1 c
      refine s_aload_n hX dX12_entry_96 rfl ?_
      refine s_iload_n hX dX12_entry_97 rfl ?_
      refine s_iload_n hX dX12_entry_98 rfl ?_
      refine s_iload_n hX dX12_entry_99 rfl ?_
      refine s_iload hX dX12_entry_100 rfl ?_
      refine s_iload hX dX12_entry_102 rfl ?_
      refine s_cvi (as := [vi l1, vi l2, vi l3, vi s0, vi l5]) (rest := []) hX (c_Mo_pence h) mv_Mo_pence wd_ml_X12_348 dX12_entry_104 ly_c_mo rfl rfl (Nat.le_of_ble_eq_true rfl) rfl (by decide) ⟨Nat.zero_le _, Nat.zero_le _⟩ (fun r935 M934 h => ?_)
      exact s_iret hX hq rfl dX12_entry_107 h
    · replace h := h.2 c
      refine s_iconst (v := 0) hX dX12_entry_92 rfl ?_
      refine s_goto (tgt := 107) hX dX12_entry_93 (by decide) ?_
      exact s_iret hX hq rfl dX12_entry_107 h
  · replace h := h.2 c
    refine s_iload hX dX12_entry_82 rfl ?_
    refine s_goto (tgt := 107) hX dX12_entry_84 (by decide) ?_
    exact s_iret hX hq rfl dX12_entry_107 h
def w_Mo_entry_j57 (l1 : Int32) (l2 : Int32) (l3 : Int32) (l4 : Int32) (s0 : Int32) (M : Mem) (Q : Int32 → Mem → Prop) : Prop :=
  ((s0 ≤ 0 → w_Mo_entry_j75 l1 l2 l3 l4 s0 (-1) M Q) ∧ (¬ s0 ≤ 0 → w_Mo_creditor l1 l2 l3 M (fun r968 M967 => w_Mo_entry_j75 l1 l2 l3 l4 s0 r968 M967 Q)))
set_option maxHeartbeats 4000000 in
theorem t_Mo_entry_j57 {X : Cx} (hX : Cok X cX12_entry RX12 7 ((some .int)) 6 0 0) {Q : Int32 → Mem → Prop} (hq : RI X 0 0 LY Q) {l1 : Int32} {l2 : Int32} {l3 : Int32} {l4 : Int32} {s0 : Int32} {M : Mem} (h : w_Mo_entry_j57 l1 l2 l3 l4 s0 M Q) : Wat X 0 0 LY 57 [some (vr c_mo), some (vi l1), some (vi l2), some (vi l3), some (vi l4), none, none] [vi s0] M := by
  refine s_istore (lv' := [some (vr c_mo), some (vi l1), some (vi l2), some (vi l3), some (vi l4), some (vi s0), none]) hX dX12_entry_57 rfl rfl (Nat.le_of_ble_eq_true rfl) ?_
  refine s_iload hX dX12_entry_59 rfl ?_
  refine s_if_le (tgt := 74) hX dX12_entry_61 (by decide) (fun c => ?_) (fun c => ?_)
  · replace h := h.1 c
    refine s_iconst (v := (-1)) hX dX12_entry_74 rfl ?_
    exact t_Mo_entry_j75 hX hq h
  · replace h := h.2 c
    refine s_aload_n hX dX12_entry_64 rfl ?_
    refine s_iload_n hX dX12_entry_65 rfl ?_
    refine s_iload_n hX dX12_entry_66 rfl ?_
    refine s_iload_n hX dX12_entry_67 rfl ?_
    refine s_cvi (as := [vi l1, vi l2, vi l3]) (rest := []) hX (c_Mo_creditor h) mv_Mo_creditor wd_ml_X12_345 dX12_entry_68 ly_c_mo rfl rfl (Nat.le_of_ble_eq_true rfl) rfl (by decide) ⟨Nat.zero_le _, Nat.zero_le _⟩ (fun r968 M967 h => ?_)
    refine s_goto (tgt := 75) hX dX12_entry_71 (by decide) ?_
    exact t_Mo_entry_j75 hX hq h
def w_Mo_entry (a0 : Int32) (a1 : Int32) (a2 : Int32) (a3 : Int32) (M : Mem) (Q : Int32 → Mem → Prop) : Prop :=
  w_Mo_isBird a0 (si M c_mo Mo_thrown 0) (fun b902 M901 => ((b902 = false → Q (-1) M901) ∧ (b902 = true → w_Mo_isHour a1 M901 (fun b904 M903 => ((b904 = false → Q (-1) M903) ∧ (b904 = true → w_Mo_isPerson a2 M903 (fun b906 M905 => ((b906 = true → w_Mo_standsAsTold M905 (fun M909 => w_Mo_isShot a0 M909 (fun b911 M910 => ((b911 = false → (vp_in ((24 * a0) + a1) 3200 ∧ w_Mo_entry_j57 a0 a1 a2 a3 (M910.1 c_mo_state (Int32.toNatClampNeg ((24 * a0) + a1))) M910 Q)) ∧ (b911 = true → w_Mo_entry_j57 a0 a1 a2 a3 0 M910 Q))))) ∧ (b906 = false → Q (-1) M905)))))))))
set_option maxHeartbeats 4000000 in
theorem t_Mo_entry {X : Cx} (hX : Cok X cX12_entry RX12 7 ((some .int)) 6 0 0) {Q : Int32 → Mem → Prop} (hq : RI X 0 0 LY Q) {M : Mem} {a0 : Int32} {a1 : Int32} {a2 : Int32} {a3 : Int32} (h : w_Mo_entry a0 a1 a2 a3 M Q) : Wat X 0 0 LY 0 [some (vr c_mo), some (vi a0), some (vi a1), some (vi a2), some (vi a3), none, none] [] M := by
  refine s_aload_n hX dX12_entry_0 rfl ?_
  refine s_iconst (v := 0) hX dX12_entry_1 rfl ?_
  refine s_puti hX fi_X12_1 fp_X12 rfl (by decide +kernel) ly_c_mo rfl dX12_entry_2 ?_
  refine s_aload_n hX dX12_entry_5 rfl ?_
  refine s_iload_n hX dX12_entry_6 rfl ?_
  refine s_cvi (as := [vi a0]) (rest := []) hX (c_Mo_isBird h) mv_Mo_isBird wd_ml_X12_361 dX12_entry_7 ly_c_mo rfl rfl (Nat.le_of_ble_eq_true rfl) rfl (by decide) ⟨Nat.zero_le _, Nat.zero_le _⟩ (fun b902_ M901 h => ?_)
  obtain ⟨b902, rfl, h⟩ := h
  refine s_if_eq (tgt := 28) hX dX12_entry_10 (by decide) (fun c => ?_) (fun c => ?_)
  · replace h := h.1 (b2i_0 c)
    refine s_iconst (v := (-1)) hX dX12_entry_28 rfl ?_
    exact s_iret hX hq rfl dX12_entry_29 h
  · replace h := h.2 (b2i_1 c)
    refine s_iload_n hX dX12_entry_13 rfl ?_
    refine s_csi (as := [vi a1]) (rest := []) hX (c_Mo_isHour h) ms_Mo_isHour wd_ml_X12_358 dX12_entry_14 rfl (Nat.le_of_ble_eq_true rfl) rfl (by decide) ⟨Nat.zero_le _, Nat.zero_le _⟩ (fun b904_ M903 h => ?_)
    obtain ⟨b904, rfl, h⟩ := h
    refine s_if_eq (tgt := 28) hX dX12_entry_17 (by decide) (fun c => ?_) (fun c => ?_)
    · replace h := h.1 (b2i_0 c)
      refine s_iconst (v := (-1)) hX dX12_entry_28 rfl ?_
      exact s_iret hX hq rfl dX12_entry_29 h
    · replace h := h.2 (b2i_1 c)
      refine s_aload_n hX dX12_entry_20 rfl ?_
      refine s_iload_n hX dX12_entry_21 rfl ?_
      refine s_cvi (as := [vi a2]) (rest := []) hX (c_Mo_isPerson h) mv_Mo_isPerson wd_ml_X12_352 dX12_entry_22 ly_c_mo rfl rfl (Nat.le_of_ble_eq_true rfl) rfl (by decide) ⟨Nat.zero_le _, Nat.zero_le _⟩ (fun b906_ M905 h => ?_)
      obtain ⟨b906, rfl, h⟩ := h
      refine s_if_ne (tgt := 30) hX dX12_entry_25 (by decide) (fun c => ?_) (fun c => ?_)
      · replace h := h.1 (b2i_1 c)
        refine s_aload_n hX dX12_entry_30 rfl ?_
        refine s_cvv (as := []) (rest := []) hX (c_Mo_standsAsTold h) mv_Mo_standsAsTold wd_ml_X12_314 dX12_entry_31 ly_c_mo rfl rfl (Nat.le_of_ble_eq_true rfl) rfl (by decide) ⟨Nat.zero_le _, Nat.zero_le _⟩ (fun M909 h => ?_)
        refine s_aload_n hX dX12_entry_34 rfl ?_
        refine s_iload_n hX dX12_entry_35 rfl ?_
        refine s_cvi (as := [vi a0]) (rest := []) hX (c_Mo_isShot h) mv_Mo_isShot wd_ml_X12_342 dX12_entry_36 ly_c_mo rfl rfl (Nat.le_of_ble_eq_true rfl) rfl (by decide) ⟨Nat.zero_le _, Nat.zero_le _⟩ (fun b911_ M910 h => ?_)
        obtain ⟨b911, rfl, h⟩ := h
        refine s_if_eq (tgt := 46) hX dX12_entry_39 (by decide) (fun c => ?_) (fun c => ?_)
        · replace h := h.1 (b2i_0 c)
          refine s_aload_n hX dX12_entry_46 rfl ?_
          refine s_getr hX fi_X12_115 ly_c_mo rfl dX12_entry_47 ?_
          refine s_bipush (v := 24) hX dX12_entry_50 rfl ?_
          refine s_iload_n hX dX12_entry_52 rfl ?_
          refine s_imul hX dX12_entry_53 ?_
          refine s_iload_n hX dX12_entry_54 rfl ?_
          refine s_iadd hX dX12_entry_55 ?_
          have hi := h.1
          replace h := h.2
          refine s_ialdv (v := (M910.1 c_mo_state (Int32.toNatClampNeg ((24 * a0) + a1)))) hX ly_c_mo_state hi dX12_entry_56 rfl ?_
          exact t_Mo_entry_j57 hX hq h
        · replace h := h.2 (b2i_1 c)
          refine s_iconst (v := 0) hX dX12_entry_42 rfl ?_
          refine s_goto (tgt := 57) hX dX12_entry_43 (by decide) ?_
          exact t_Mo_entry_j57 hX hq h
      · replace h := h.2 (b2i_0 c)
        refine s_iconst (v := (-1)) hX dX12_entry_28 rfl ?_
        exact s_iret hX hq rfl dX12_entry_29 h
theorem c_Mo_entry {a0 : Int32} {a1 : Int32} {a2 : Int32} {a3 : Int32} {M : Mem} {Q : Int32 → Mem → Prop} (h : w_Mo_entry a0 a1 a2 a3 M Q) : CI yX12_entry cX12_entry 7 ((some .int)) 6 0 0 LY LY [vr c_mo, vi a0, vi a1, vi a2, vi a3] M Q := mk_i rfl wd_co_X12_entry rfl rfl (Nat.le_of_ble_eq_true rfl) (fun X hX hq => t_Mo_entry hX hq h)
theorem mv_Mo_entry : MV yX12_entry cX12_entry 7 ((some .int)) RX12 4 := ⟨wd_co_X12_entry, wd_im_X12_entry, wd_se_X12_entry, wd_in_X12, by decide +kernel, by decide⟩
def w_Mo_findOwes_L2 (l1 : Int32) (K : Mem → Prop) (Q : Mem → Prop) : Nat → Int32 → Mem → Prop
  | 0, _, _ => False
  | n + 1, l2, M => ((36 ≤ l2 → K M) ∧ (¬ 36 ≤ l2 → (vp_in l2 36 ∧ w_Mo_findOwes_L2 l1 K Q n (l2 + 1) (si M c_mo_owes (Int32.toNatClampNeg l2) 0))))
set_option maxHeartbeats 4000000 in
theorem t_Mo_findOwes_L2 {X : Cx} (hX : Cok X cX12_findOwes RX12 7 none 6 0 0) {Q : Mem → Prop} (hq : RV X 0 0 LY Q) {l1 : Int32} {K : Mem → Prop} (hK : ∀ (M : Mem), K M → Wat X 0 0 LY 21 [some (vr c_mo), some (vi l1), none, none, none, none, none] [] M) : ∀ (n : Nat) (l2 : Int32) (M : Mem), w_Mo_findOwes_L2 l1 K Q n l2 M → Wat X 0 0 LY 2 [some (vr c_mo), some (vi l1), some (vi l2), none, none, none, none] [] M := by
  intro n
  induction n with
  | zero => intro _ _ h; exact h.elim
  | succ n ih =>
    intro l2 M h
    refine s_iload_n hX dX12_findOwes_2 rfl ?_
    refine s_bipush (v := 36) hX dX12_findOwes_3 rfl ?_
    refine s_icmp_ge (tgt := 21) hX dX12_findOwes_5 (by decide) (fun c => ?_) (fun c => ?_)
    · replace h := h.1 c
      refine s_mask [true, true, false, true, true, true, true] (lv' := [some (vr c_mo), some (vi l1), none, none, none, none, none]) rfl rfl ?_
      exact hK _ h
    · replace h := h.2 c
      refine s_aload_n hX dX12_findOwes_8 rfl ?_
      refine s_getr hX fi_X12_131 ly_c_mo rfl dX12_findOwes_9 ?_
      refine s_iload_n hX dX12_findOwes_12 rfl ?_
      refine s_iconst (v := 0) hX dX12_findOwes_13 rfl ?_
      have hi := h.1
      replace h := h.2
      refine s_iast hX ly_c_mo_owes hi dX12_findOwes_14 ?_
      refine s_iinc (v := (l2 + 1)) (lv' := [some (vr c_mo), some (vi l1), some (vi (l2 + 1)), none, none, none, none]) hX dX12_findOwes_15 rfl rfl rfl rfl ?_
      refine s_goto (tgt := 2) hX dX12_findOwes_18 (by decide) ?_
      exact ih _ _ h
def w_Mo_findOwes_L76 (l1 : Int32) (l2 : Int32) (l3 : Int32) (l4 : Int32) (K : Mem → Prop) (Q : Mem → Prop) : Nat → Int32 → Mem → Prop
  | 0, _, _ => False
  | n + 1, l5, M => w_Mo_persons M (fun r980 M979 => ((r980 ≤ l5 → K M979) ∧ (¬ r980 ≤ l5 → ((l4 ≤ 0 → K M979) ∧ (¬ l4 ≤ 0 → w_Mo_creditor l2 l3 l5 M979 (fun r982 M981 => ((r982 < 0 → w_Mo_findOwes_L76 l1 l2 l3 l4 K Q n (l5 + 1) M981) ∧ (¬ r982 < 0 → (vp_in ((6 * l5) + r982) 36 ∧ w_Mo_pence l2 l3 l5 r982 l4 M981 (fun r984 M983 => (vp_in ((6 * l5) + r982) 36 ∧ w_Mo_findOwes_L76 l1 l2 l3 l4 K Q n (l5 + 1) (si M983 c_mo_owes (Int32.toNatClampNeg ((6 * l5) + r982)) ((M981.1 c_mo_owes (Int32.toNatClampNeg ((6 * l5) + r982))) + r984)))))))))))))
set_option maxHeartbeats 4000000 in
theorem t_Mo_findOwes_L76 {X : Cx} (hX : Cok X cX12_findOwes RX12 7 none 6 0 0) {Q : Mem → Prop} (hq : RV X 0 0 LY Q) {l1 : Int32} {l2 : Int32} {l3 : Int32} {l4 : Int32} {K : Mem → Prop} (hK : ∀ (M : Mem), K M → Wat X 0 0 LY 139 [some (vr c_mo), some (vi l1), some (vi l2), some (vi l3), none, none, none] [] M) : ∀ (n : Nat) (l5 : Int32) (M : Mem), w_Mo_findOwes_L76 l1 l2 l3 l4 K Q n l5 M → Wat X 0 0 LY 76 [some (vr c_mo), some (vi l1), some (vi l2), some (vi l3), some (vi l4), some (vi l5), none] [] M := by
  intro n
  induction n with
  | zero => intro _ _ h; exact h.elim
  | succ n ih =>
    intro l5 M h
    refine s_iload hX dX12_findOwes_76 rfl ?_
    refine s_aload_n hX dX12_findOwes_78 rfl ?_
    refine s_cvi (as := []) (rest := [vi l5]) hX (c_Mo_persons h) mv_Mo_persons wd_ml_X12_226 dX12_findOwes_79 ly_c_mo rfl rfl (Nat.le_of_ble_eq_true rfl) rfl (by decide) ⟨Nat.zero_le _, Nat.zero_le _⟩ (fun r980 M979 h => ?_)
    refine s_icmp_ge (tgt := 139) hX dX12_findOwes_82 (by decide) (fun c => ?_) (fun c => ?_)
    · replace h := h.1 c
      refine s_mask [true, true, true, true, false, false, true] (lv' := [some (vr c_mo), some (vi l1), some (vi l2), some (vi l3), none, none, none]) rfl rfl ?_
      exact hK _ h
    · replace h := h.2 c
      refine s_iload hX dX12_findOwes_85 rfl ?_
      refine s_if_le (tgt := 139) hX dX12_findOwes_87 (by decide) (fun c => ?_) (fun c => ?_)
      · replace h := h.1 c
        refine s_mask [true, true, true, true, false, false, true] (lv' := [some (vr c_mo), some (vi l1), some (vi l2), some (vi l3), none, none, none]) rfl rfl ?_
        exact hK _ h
      · replace h := h.2 c
        refine s_aload_n hX dX12_findOwes_90 rfl ?_
        refine s_iload_n hX dX12_findOwes_91 rfl ?_
        refine s_iload_n hX dX12_findOwes_92 rfl ?_
        refine s_iload hX dX12_findOwes_93 rfl ?_
        refine s_cvi (as := [vi l2, vi l3, vi l5]) (rest := []) hX (c_Mo_creditor h) mv_Mo_creditor wd_ml_X12_345 dX12_findOwes_95 ly_c_mo rfl rfl (Nat.le_of_ble_eq_true rfl) rfl (by decide) ⟨Nat.zero_le _, Nat.zero_le _⟩ (fun r982 M981 h => ?_)
        refine s_istore (lv' := [some (vr c_mo), some (vi l1), some (vi l2), some (vi l3), some (vi l4), some (vi l5), some (vi r982)]) hX dX12_findOwes_98 rfl rfl (Nat.le_of_ble_eq_true rfl) ?_
        refine s_iload hX dX12_findOwes_100 rfl ?_
        refine s_if_lt (tgt := 133) hX dX12_findOwes_102 (by decide) (fun c => ?_) (fun c => ?_)
        · replace h := h.1 c
          refine s_iinc (v := (l5 + 1)) (lv' := [some (vr c_mo), some (vi l1), some (vi l2), some (vi l3), some (vi l4), some (vi (l5 + 1)), some (vi r982)]) hX dX12_findOwes_133 rfl rfl rfl rfl ?_
          refine s_goto (tgt := 76) hX dX12_findOwes_136 (by decide) ?_
          refine s_mask [true, true, true, true, true, true, false] (lv' := [some (vr c_mo), some (vi l1), some (vi l2), some (vi l3), some (vi l4), some (vi (l5 + 1)), none]) rfl rfl ?_
          exact ih _ _ h
        · replace h := h.2 c
          refine s_aload_n hX dX12_findOwes_105 rfl ?_
          refine s_getr hX fi_X12_131 ly_c_mo rfl dX12_findOwes_106 ?_
          refine s_bipush (v := 6) hX dX12_findOwes_109 rfl ?_
          refine s_iload hX dX12_findOwes_111 rfl ?_
          refine s_imul hX dX12_findOwes_113 ?_
          refine s_iload hX dX12_findOwes_114 rfl ?_
          refine s_iadd hX dX12_findOwes_116 ?_
          refine s_dup2 hX dX12_findOwes_117 rfl rfl ?_
          have hi := h.1
          replace h := h.2
          refine s_ialdv (v := (M981.1 c_mo_owes (Int32.toNatClampNeg ((6 * l5) + r982)))) hX ly_c_mo_owes hi dX12_findOwes_118 rfl ?_
          refine s_aload_n hX dX12_findOwes_119 rfl ?_
          refine s_iload_n hX dX12_findOwes_120 rfl ?_
          refine s_iload_n hX dX12_findOwes_121 rfl ?_
          refine s_iload hX dX12_findOwes_122 rfl ?_
          refine s_iload hX dX12_findOwes_124 rfl ?_
          refine s_iload hX dX12_findOwes_126 rfl ?_
          refine s_cvi (as := [vi l2, vi l3, vi l5, vi r982, vi l4]) (rest := [vi (M981.1 c_mo_owes (Int32.toNatClampNeg ((6 * l5) + r982))), vi ((6 * l5) + r982), vr c_mo_owes]) hX (c_Mo_pence h) mv_Mo_pence wd_ml_X12_348 dX12_findOwes_128 ly_c_mo rfl rfl (Nat.le_of_ble_eq_true rfl) rfl (by decide) ⟨Nat.zero_le _, Nat.zero_le _⟩ (fun r984 M983 h => ?_)
          refine s_iadd hX dX12_findOwes_131 ?_
          have hi := h.1
          replace h := h.2
          refine s_iast hX ly_c_mo_owes hi dX12_findOwes_132 ?_
          refine s_iinc (v := (l5 + 1)) (lv' := [some (vr c_mo), some (vi l1), some (vi l2), some (vi l3), some (vi l4), some (vi (l5 + 1)), some (vi r982)]) hX dX12_findOwes_133 rfl rfl rfl rfl ?_
          refine s_goto (tgt := 76) hX dX12_findOwes_136 (by decide) ?_
          refine s_mask [true, true, true, true, true, true, false] (lv' := [some (vr c_mo), some (vi l1), some (vi l2), some (vi l3), some (vi l4), some (vi (l5 + 1)), none]) rfl rfl ?_
          exact ih _ _ h
def w_Mo_findOwes_L33 (l1 : Int32) (l2 : Int32) (K : Mem → Prop) (Q : Mem → Prop) : Nat → Int32 → Mem → Prop
  | 0, _, _ => False
  | n + 1, l3, M => ((24 ≤ l3 → K M) ∧ (¬ 24 ≤ l3 → w_Mo_isShot l2 M (fun b978 M977 => ((b978 = true → (∃ n986, w_Mo_findOwes_L76 l1 l2 l3 0 (fun M985 => w_Mo_findOwes_L33 l1 l2 K Q n (l3 + 1) M985) Q n986 0 M977)) ∧ (b978 = false → ((¬ ((l1 >>> (l2 &&& 31)) &&& 1) = 1 → (vp_in ((24 * l2) + l3) 3200 ∧ ∀ x987 : Int32, x987 = (M977.1 c_mo_state (Int32.toNatClampNeg ((24 * l2) + l3))) → (∃ n989, w_Mo_findOwes_L76 l1 l2 l3 x987 (fun M988 => w_Mo_findOwes_L33 l1 l2 K Q n (l3 + 1) M988) Q n989 0 M977))) ∧ (((l1 >>> (l2 &&& 31)) &&& 1) = 1 → (∃ n991, w_Mo_findOwes_L76 l1 l2 l3 0 (fun M990 => w_Mo_findOwes_L33 l1 l2 K Q n (l3 + 1) M990) Q n991 0 M977))))))))
set_option maxHeartbeats 4000000 in
theorem t_Mo_findOwes_L33 {X : Cx} (hX : Cok X cX12_findOwes RX12 7 none 6 0 0) {Q : Mem → Prop} (hq : RV X 0 0 LY Q) {l1 : Int32} {l2 : Int32} {K : Mem → Prop} (hK : ∀ (M : Mem), K M → Wat X 0 0 LY 145 [some (vr c_mo), some (vi l1), some (vi l2), none, none, none, none] [] M) : ∀ (n : Nat) (l3 : Int32) (M : Mem), w_Mo_findOwes_L33 l1 l2 K Q n l3 M → Wat X 0 0 LY 33 [some (vr c_mo), some (vi l1), some (vi l2), some (vi l3), none, none, none] [] M := by
  intro n
  induction n with
  | zero => intro _ _ h; exact h.elim
  | succ n ih =>
    intro l3 M h
    refine s_iload_n hX dX12_findOwes_33 rfl ?_
    refine s_bipush (v := 24) hX dX12_findOwes_34 rfl ?_
    refine s_icmp_ge (tgt := 145) hX dX12_findOwes_36 (by decide) (fun c => ?_) (fun c => ?_)
    · replace h := h.1 c
      refine s_mask [true, true, true, false, true, true, true] (lv' := [some (vr c_mo), some (vi l1), some (vi l2), none, none, none, none]) rfl rfl ?_
      exact hK _ h
    · replace h := h.2 c
      refine s_aload_n hX dX12_findOwes_39 rfl ?_
      refine s_iload_n hX dX12_findOwes_40 rfl ?_
      refine s_cvi (as := [vi l2]) (rest := []) hX (c_Mo_isShot h) mv_Mo_isShot wd_ml_X12_342 dX12_findOwes_41 ly_c_mo rfl rfl (Nat.le_of_ble_eq_true rfl) rfl (by decide) ⟨Nat.zero_le _, Nat.zero_le _⟩ (fun b978_ M977 h => ?_)
      obtain ⟨b978, rfl, h⟩ := h
      refine s_if_ne (tgt := 56) hX dX12_findOwes_44 (by decide) (fun c => ?_) (fun c => ?_)
      · replace h := h.1 (b2i_1 c)
        refine s_iconst (v := 0) hX dX12_findOwes_56 rfl ?_
        refine s_goto (tgt := 71) hX dX12_findOwes_57 (by decide) ?_
        refine s_istore (lv' := [some (vr c_mo), some (vi l1), some (vi l2), some (vi l3), some (vi 0), none, none]) hX dX12_findOwes_71 rfl rfl (Nat.le_of_ble_eq_true rfl) ?_
        refine s_iconst (v := 0) hX dX12_findOwes_73 rfl ?_
        refine s_istore (lv' := [some (vr c_mo), some (vi l1), some (vi l2), some (vi l3), some (vi 0), some (vi 0), none]) hX dX12_findOwes_74 rfl rfl (Nat.le_of_ble_eq_true rfl) ?_
        obtain ⟨n986, h⟩ := h
        refine t_Mo_findOwes_L76 hX hq ?_ n986 _ _ h
        intro M985 h
        refine s_iinc (v := (l3 + 1)) (lv' := [some (vr c_mo), some (vi l1), some (vi l2), some (vi (l3 + 1)), none, none, none]) hX dX12_findOwes_139 rfl rfl rfl rfl ?_
        refine s_goto (tgt := 33) hX dX12_findOwes_142 (by decide) ?_
        exact ih _ _ h
      · replace h := h.2 (b2i_0 c)
        refine s_iload_n hX dX12_findOwes_47 rfl ?_
        refine s_iload_n hX dX12_findOwes_48 rfl ?_
        refine s_ishr hX dX12_findOwes_49 ?_
        refine s_iconst (v := 1) hX dX12_findOwes_50 rfl ?_
        refine s_iand hX dX12_findOwes_51 ?_
        refine s_iconst (v := 1) hX dX12_findOwes_52 rfl ?_
        refine s_icmp_ne (tgt := 60) hX dX12_findOwes_53 (by decide) (fun c => ?_) (fun c => ?_)
        · replace h := h.1 c
          refine s_aload_n hX dX12_findOwes_60 rfl ?_
          refine s_getr hX fi_X12_115 ly_c_mo rfl dX12_findOwes_61 ?_
          refine s_bipush (v := 24) hX dX12_findOwes_64 rfl ?_
          refine s_iload_n hX dX12_findOwes_66 rfl ?_
          refine s_imul hX dX12_findOwes_67 ?_
          refine s_iload_n hX dX12_findOwes_68 rfl ?_
          refine s_iadd hX dX12_findOwes_69 ?_
          have hi := h.1
          replace h := h.2
          refine s_ialdv (v := (M977.1 c_mo_state (Int32.toNatClampNeg ((24 * l2) + l3)))) hX ly_c_mo_state hi dX12_findOwes_70 rfl ?_
          refine s_nmi (fun x987 ex987 => ?_)
          replace h := h x987 ex987
          refine s_istore (lv' := [some (vr c_mo), some (vi l1), some (vi l2), some (vi l3), some (vi x987), none, none]) hX dX12_findOwes_71 rfl rfl (Nat.le_of_ble_eq_true rfl) ?_
          refine s_iconst (v := 0) hX dX12_findOwes_73 rfl ?_
          refine s_istore (lv' := [some (vr c_mo), some (vi l1), some (vi l2), some (vi l3), some (vi x987), some (vi 0), none]) hX dX12_findOwes_74 rfl rfl (Nat.le_of_ble_eq_true rfl) ?_
          obtain ⟨n989, h⟩ := h
          refine t_Mo_findOwes_L76 hX hq ?_ n989 _ _ h
          intro M988 h
          refine s_iinc (v := (l3 + 1)) (lv' := [some (vr c_mo), some (vi l1), some (vi l2), some (vi (l3 + 1)), none, none, none]) hX dX12_findOwes_139 rfl rfl rfl rfl ?_
          refine s_goto (tgt := 33) hX dX12_findOwes_142 (by decide) ?_
          exact ih _ _ h
        · replace h := h.2 c
          refine s_iconst (v := 0) hX dX12_findOwes_56 rfl ?_
          refine s_goto (tgt := 71) hX dX12_findOwes_57 (by decide) ?_
          refine s_istore (lv' := [some (vr c_mo), some (vi l1), some (vi l2), some (vi l3), some (vi 0), none, none]) hX dX12_findOwes_71 rfl rfl (Nat.le_of_ble_eq_true rfl) ?_
          refine s_iconst (v := 0) hX dX12_findOwes_73 rfl ?_
          refine s_istore (lv' := [some (vr c_mo), some (vi l1), some (vi l2), some (vi l3), some (vi 0), some (vi 0), none]) hX dX12_findOwes_74 rfl rfl (Nat.le_of_ble_eq_true rfl) ?_
          obtain ⟨n991, h⟩ := h
          refine t_Mo_findOwes_L76 hX hq ?_ n991 _ _ h
          intro M990 h
          refine s_iinc (v := (l3 + 1)) (lv' := [some (vr c_mo), some (vi l1), some (vi l2), some (vi (l3 + 1)), none, none, none]) hX dX12_findOwes_139 rfl rfl rfl rfl ?_
          refine s_goto (tgt := 33) hX dX12_findOwes_142 (by decide) ?_
          exact ih _ _ h
def w_Mo_findOwes_L23 (l1 : Int32) (K : Mem → Prop) (Q : Mem → Prop) : Nat → Int32 → Mem → Prop
  | 0, _, _ => False
  | n + 1, l2, M => w_Mo_birds M (fun r976 M975 => ((r976 ≤ l2 → K M975) ∧ (¬ r976 ≤ l2 → (∃ n993, w_Mo_findOwes_L33 l1 l2 (fun M992 => w_Mo_findOwes_L23 l1 K Q n (l2 + 1) M992) Q n993 0 M975))))
set_option maxHeartbeats 4000000 in
theorem t_Mo_findOwes_L23 {X : Cx} (hX : Cok X cX12_findOwes RX12 7 none 6 0 0) {Q : Mem → Prop} (hq : RV X 0 0 LY Q) {l1 : Int32} {K : Mem → Prop} (hK : ∀ (M : Mem), K M → Wat X 0 0 LY 151 [none, none, none, none, none, none, none] [] M) : ∀ (n : Nat) (l2 : Int32) (M : Mem), w_Mo_findOwes_L23 l1 K Q n l2 M → Wat X 0 0 LY 23 [some (vr c_mo), some (vi l1), some (vi l2), none, none, none, none] [] M := by
  intro n
  induction n with
  | zero => intro _ _ h; exact h.elim
  | succ n ih =>
    intro l2 M h
    refine s_iload_n hX dX12_findOwes_23 rfl ?_
    refine s_aload_n hX dX12_findOwes_24 rfl ?_
    refine s_cvi (as := []) (rest := [vi l2]) hX (c_Mo_birds h) mv_Mo_birds wd_ml_X12_311 dX12_findOwes_25 ly_c_mo rfl rfl (Nat.le_of_ble_eq_true rfl) rfl (by decide) ⟨Nat.zero_le _, Nat.zero_le _⟩ (fun r976 M975 h => ?_)
    refine s_icmp_ge (tgt := 151) hX dX12_findOwes_28 (by decide) (fun c => ?_) (fun c => ?_)
    · replace h := h.1 c
      refine s_mask [false, false, false, true, true, true, true] (lv' := [none, none, none, none, none, none, none]) rfl rfl ?_
      exact hK _ h
    · replace h := h.2 c
      refine s_iconst (v := 0) hX dX12_findOwes_31 rfl ?_
      refine s_istore_n (lv' := [some (vr c_mo), some (vi l1), some (vi l2), some (vi 0), none, none, none]) hX dX12_findOwes_32 rfl rfl (Nat.le_of_ble_eq_true rfl) ?_
      obtain ⟨n993, h⟩ := h
      refine t_Mo_findOwes_L33 hX hq ?_ n993 _ _ h
      intro M992 h
      refine s_iinc (v := (l2 + 1)) (lv' := [some (vr c_mo), some (vi l1), some (vi (l2 + 1)), none, none, none, none]) hX dX12_findOwes_145 rfl rfl rfl rfl ?_
      refine s_goto (tgt := 23) hX dX12_findOwes_148 (by decide) ?_
      exact ih _ _ h
def w_Mo_findOwes (a0 : Int32) (M : Mem) (Q : Mem → Prop) : Prop :=
  (∃ n996, w_Mo_findOwes_L2 a0 (fun M974 => (∃ n995, w_Mo_findOwes_L23 a0 (fun M994 => Q M994) Q n995 0 M974)) Q n996 0 M)
set_option maxHeartbeats 4000000 in
theorem t_Mo_findOwes {X : Cx} (hX : Cok X cX12_findOwes RX12 7 none 6 0 0) {Q : Mem → Prop} (hq : RV X 0 0 LY Q) {M : Mem} {a0 : Int32} (h : w_Mo_findOwes a0 M Q) : Wat X 0 0 LY 0 [some (vr c_mo), some (vi a0), none, none, none, none, none] [] M := by
  refine s_iconst (v := 0) hX dX12_findOwes_0 rfl ?_
  refine s_istore_n (lv' := [some (vr c_mo), some (vi a0), some (vi 0), none, none, none, none]) hX dX12_findOwes_1 rfl rfl (Nat.le_of_ble_eq_true rfl) ?_
  obtain ⟨n996, h⟩ := h
  refine t_Mo_findOwes_L2 hX hq ?_ n996 _ _ h
  intro M974 h
  refine s_iconst (v := 0) hX dX12_findOwes_21 rfl ?_
  refine s_istore_n (lv' := [some (vr c_mo), some (vi a0), some (vi 0), none, none, none, none]) hX dX12_findOwes_22 rfl rfl (Nat.le_of_ble_eq_true rfl) ?_
  obtain ⟨n995, h⟩ := h
  refine t_Mo_findOwes_L23 hX hq ?_ n995 _ _ h
  intro M994 h
  exact s_vret hX hq rfl dX12_findOwes_151 h
theorem c_Mo_findOwes {a0 : Int32} {M : Mem} {Q : Mem → Prop} (h : w_Mo_findOwes a0 M Q) : CV yX12_findOwes cX12_findOwes 7 none 6 0 0 LY LY [vr c_mo, vi a0] M Q := mk_v rfl wd_co_X12_findOwes rfl rfl (Nat.le_of_ble_eq_true rfl) (fun X hX hq => t_Mo_findOwes hX hq h)
theorem mv_Mo_findOwes : MV yX12_findOwes cX12_findOwes 7 none RX12 1 := ⟨wd_co_X12_findOwes, wd_im_X12_findOwes, wd_se_X12_findOwes, wd_in_X12, by decide +kernel, by decide⟩
def w_Mo_owed (a0 : Int32) (a1 : Int32) (M : Mem) (Q : Int32 → Mem → Prop) : Prop :=
  w_Mo_isPerson a0 (si M c_mo Mo_thrown 0) (fun b970 M969 => ((b970 = false → Q (-1) M969) ∧ (b970 = true → w_Mo_isPerson a1 M969 (fun b972 M971 => ((b972 = false → Q (-1) M971) ∧ (b972 = true → ((¬ a0 = a1 → w_Mo_standsAsTold M971 (fun M973 => w_Mo_findOwes 0 M973 (fun M997 => (vp_in ((6 * a0) + a1) 36 ∧ Q (M997.1 c_mo_owes (Int32.toNatClampNeg ((6 * a0) + a1))) M997)))) ∧ (a0 = a1 → Q (-1) M971))))))))
set_option maxHeartbeats 4000000 in
theorem t_Mo_owed {X : Cx} (hX : Cok X cX12_owed RX12 3 ((some .int)) 7 0 0) {Q : Int32 → Mem → Prop} (hq : RI X 0 0 LY Q) {M : Mem} {a0 : Int32} {a1 : Int32} (h : w_Mo_owed a0 a1 M Q) : Wat X 0 0 LY 0 [some (vr c_mo), some (vi a0), some (vi a1)] [] M := by
  refine s_aload_n hX dX12_owed_0 rfl ?_
  refine s_iconst (v := 0) hX dX12_owed_1 rfl ?_
  refine s_puti hX fi_X12_1 fp_X12 rfl (by decide +kernel) ly_c_mo rfl dX12_owed_2 ?_
  refine s_aload_n hX dX12_owed_5 rfl ?_
  refine s_iload_n hX dX12_owed_6 rfl ?_
  refine s_cvi (as := [vi a0]) (rest := []) hX (c_Mo_isPerson h) mv_Mo_isPerson wd_ml_X12_352 dX12_owed_7 ly_c_mo rfl rfl (Nat.le_of_ble_eq_true rfl) rfl (by decide) ⟨Nat.zero_le _, Nat.zero_le _⟩ (fun b970_ M969 h => ?_)
  obtain ⟨b970, rfl, h⟩ := h
  refine s_if_eq (tgt := 26) hX dX12_owed_10 (by decide) (fun c => ?_) (fun c => ?_)
  · replace h := h.1 (b2i_0 c)
    refine s_iconst (v := (-1)) hX dX12_owed_26 rfl ?_
    exact s_iret hX hq rfl dX12_owed_27 h
  · replace h := h.2 (b2i_1 c)
    refine s_aload_n hX dX12_owed_13 rfl ?_
    refine s_iload_n hX dX12_owed_14 rfl ?_
    refine s_cvi (as := [vi a1]) (rest := []) hX (c_Mo_isPerson h) mv_Mo_isPerson wd_ml_X12_352 dX12_owed_15 ly_c_mo rfl rfl (Nat.le_of_ble_eq_true rfl) rfl (by decide) ⟨Nat.zero_le _, Nat.zero_le _⟩ (fun b972_ M971 h => ?_)
    obtain ⟨b972, rfl, h⟩ := h
    refine s_if_eq (tgt := 26) hX dX12_owed_18 (by decide) (fun c => ?_) (fun c => ?_)
    · replace h := h.1 (b2i_0 c)
      refine s_iconst (v := (-1)) hX dX12_owed_26 rfl ?_
      exact s_iret hX hq rfl dX12_owed_27 h
    · replace h := h.2 (b2i_1 c)
      refine s_iload_n hX dX12_owed_21 rfl ?_
      refine s_iload_n hX dX12_owed_22 rfl ?_
      refine s_icmp_ne (tgt := 28) hX dX12_owed_23 (by decide) (fun c => ?_) (fun c => ?_)
      · replace h := h.1 c
        refine s_aload_n hX dX12_owed_28 rfl ?_
        refine s_cvv (as := []) (rest := []) hX (c_Mo_standsAsTold h) mv_Mo_standsAsTold wd_ml_X12_314 dX12_owed_29 ly_c_mo rfl rfl (Nat.le_of_ble_eq_true rfl) rfl (by decide) ⟨Nat.zero_le _, Nat.zero_le _⟩ (fun M973 h => ?_)
        refine s_aload_n hX dX12_owed_32 rfl ?_
        refine s_iconst (v := 0) hX dX12_owed_33 rfl ?_
        refine s_cvv (as := [vi 0]) (rest := []) hX (c_Mo_findOwes h) mv_Mo_findOwes wd_ml_X12_364 dX12_owed_34 ly_c_mo rfl rfl (Nat.le_of_ble_eq_true rfl) rfl (by decide) ⟨Nat.zero_le _, Nat.zero_le _⟩ (fun M997 h => ?_)
        refine s_aload_n hX dX12_owed_37 rfl ?_
        refine s_getr hX fi_X12_131 ly_c_mo rfl dX12_owed_38 ?_
        refine s_bipush (v := 6) hX dX12_owed_41 rfl ?_
        refine s_iload_n hX dX12_owed_43 rfl ?_
        refine s_imul hX dX12_owed_44 ?_
        refine s_iload_n hX dX12_owed_45 rfl ?_
        refine s_iadd hX dX12_owed_46 ?_
        have hi := h.1
        replace h := h.2
        refine s_ialdv (v := (M997.1 c_mo_owes (Int32.toNatClampNeg ((6 * a0) + a1)))) hX ly_c_mo_owes hi dX12_owed_47 rfl ?_
        exact s_iret hX hq rfl dX12_owed_48 h
      · replace h := h.2 c
        refine s_iconst (v := (-1)) hX dX12_owed_26 rfl ?_
        exact s_iret hX hq rfl dX12_owed_27 h
theorem c_Mo_owed {a0 : Int32} {a1 : Int32} {M : Mem} {Q : Int32 → Mem → Prop} (h : w_Mo_owed a0 a1 M Q) : CI yX12_owed cX12_owed 3 ((some .int)) 7 0 0 LY LY [vr c_mo, vi a0, vi a1] M Q := mk_i rfl wd_co_X12_owed rfl rfl (Nat.le_of_ble_eq_true rfl) (fun X hX hq => t_Mo_owed hX hq h)
theorem mv_Mo_owed : MV yX12_owed cX12_owed 3 ((some .int)) RX12 2 := ⟨wd_co_X12_owed, wd_im_X12_owed, wd_se_X12_owed, wd_in_X12, by decide +kernel, by decide⟩
def w_Mo_balanceOf_L4 (l1 : Int32) (K : Int32 → Mem → Prop) (Q : Int32 → Mem → Prop) : Nat → Int32 → Int32 → Mem → Prop
  | 0, _, _, _ => False
  | n + 1, l2, l3, M => ((6 ≤ l3 → K l2 M) ∧ (¬ 6 ≤ l3 → (vp_in ((6 * l3) + l1) 36 ∧ (vp_in ((6 * l1) + l3) 36 ∧ ∀ x1002 : Int32, x1002 = (l2 + ((M.1 c_mo_owes (Int32.toNatClampNeg ((6 * l3) + l1))) - (M.1 c_mo_owes (Int32.toNatClampNeg ((6 * l1) + l3))))) → w_Mo_balanceOf_L4 l1 K Q n x1002 (l3 + 1) M))))
set_option maxHeartbeats 4000000 in
theorem t_Mo_balanceOf_L4 {X : Cx} (hX : Cok X cX12_balanceOf RX12 4 ((some .int)) 1 0 0) {Q : Int32 → Mem → Prop} (hq : RI X 0 0 LY Q) {l1 : Int32} {K : Int32 → Mem → Prop} (hK : ∀ (l2 : Int32) (M : Mem), K l2 M → Wat X 0 0 LY 42 [none, none, some (vi l2), none] [] M) : ∀ (n : Nat) (l2 : Int32) (l3 : Int32) (M : Mem), w_Mo_balanceOf_L4 l1 K Q n l2 l3 M → Wat X 0 0 LY 4 [some (vr c_mo), some (vi l1), some (vi l2), some (vi l3)] [] M := by
  intro n
  induction n with
  | zero => intro _ _ _ h; exact h.elim
  | succ n ih =>
    intro l2 l3 M h
    refine s_iload_n hX dX12_balanceOf_4 rfl ?_
    refine s_bipush (v := 6) hX dX12_balanceOf_5 rfl ?_
    refine s_icmp_ge (tgt := 42) hX dX12_balanceOf_7 (by decide) (fun c => ?_) (fun c => ?_)
    · replace h := h.1 c
      refine s_mask [false, false, true, false] (lv' := [none, none, some (vi l2), none]) rfl rfl ?_
      exact hK _ _ h
    · replace h := h.2 c
      refine s_iload_n hX dX12_balanceOf_10 rfl ?_
      refine s_aload_n hX dX12_balanceOf_11 rfl ?_
      refine s_getr hX fi_X12_131 ly_c_mo rfl dX12_balanceOf_12 ?_
      refine s_bipush (v := 6) hX dX12_balanceOf_15 rfl ?_
      refine s_iload_n hX dX12_balanceOf_17 rfl ?_
      refine s_imul hX dX12_balanceOf_18 ?_
      refine s_iload_n hX dX12_balanceOf_19 rfl ?_
      refine s_iadd hX dX12_balanceOf_20 ?_
      have hi := h.1
      replace h := h.2
      refine s_ialdv (v := (M.1 c_mo_owes (Int32.toNatClampNeg ((6 * l3) + l1)))) hX ly_c_mo_owes hi dX12_balanceOf_21 rfl ?_
      refine s_aload_n hX dX12_balanceOf_22 rfl ?_
      refine s_getr hX fi_X12_131 ly_c_mo rfl dX12_balanceOf_23 ?_
      refine s_bipush (v := 6) hX dX12_balanceOf_26 rfl ?_
      refine s_iload_n hX dX12_balanceOf_28 rfl ?_
      refine s_imul hX dX12_balanceOf_29 ?_
      refine s_iload_n hX dX12_balanceOf_30 rfl ?_
      refine s_iadd hX dX12_balanceOf_31 ?_
      have hi := h.1
      replace h := h.2
      refine s_ialdv (v := (M.1 c_mo_owes (Int32.toNatClampNeg ((6 * l1) + l3)))) hX ly_c_mo_owes hi dX12_balanceOf_32 rfl ?_
      refine s_isub hX dX12_balanceOf_33 ?_
      refine s_iadd hX dX12_balanceOf_34 ?_
      refine s_nmi (fun x1002 ex1002 => ?_)
      replace h := h x1002 ex1002
      refine s_istore_n (lv' := [some (vr c_mo), some (vi l1), some (vi x1002), some (vi l3)]) hX dX12_balanceOf_35 rfl rfl (Nat.le_of_ble_eq_true rfl) ?_
      refine s_iinc (v := (l3 + 1)) (lv' := [some (vr c_mo), some (vi l1), some (vi x1002), some (vi (l3 + 1))]) hX dX12_balanceOf_36 rfl rfl rfl rfl ?_
      refine s_goto (tgt := 4) hX dX12_balanceOf_39 (by decide) ?_
      exact ih _ _ _ h
def w_Mo_balanceOf (a0 : Int32) (M : Mem) (Q : Int32 → Mem → Prop) : Prop :=
  (∃ n1005, w_Mo_balanceOf_L4 a0 (fun y1004 M1003 => Q y1004 M1003) Q n1005 0 0 M)
set_option maxHeartbeats 4000000 in
theorem t_Mo_balanceOf {X : Cx} (hX : Cok X cX12_balanceOf RX12 4 ((some .int)) 1 0 0) {Q : Int32 → Mem → Prop} (hq : RI X 0 0 LY Q) {M : Mem} {a0 : Int32} (h : w_Mo_balanceOf a0 M Q) : Wat X 0 0 LY 0 [some (vr c_mo), some (vi a0), none, none] [] M := by
  refine s_iconst (v := 0) hX dX12_balanceOf_0 rfl ?_
  refine s_istore_n (lv' := [some (vr c_mo), some (vi a0), some (vi 0), none]) hX dX12_balanceOf_1 rfl rfl (Nat.le_of_ble_eq_true rfl) ?_
  refine s_iconst (v := 0) hX dX12_balanceOf_2 rfl ?_
  refine s_istore_n (lv' := [some (vr c_mo), some (vi a0), some (vi 0), some (vi 0)]) hX dX12_balanceOf_3 rfl rfl (Nat.le_of_ble_eq_true rfl) ?_
  obtain ⟨n1005, h⟩ := h
  refine t_Mo_balanceOf_L4 hX hq ?_ n1005 _ _ _ h
  intro y1004 M1003 h
  refine s_iload_n hX dX12_balanceOf_42 rfl ?_
  exact s_iret hX hq rfl dX12_balanceOf_43 h
theorem c_Mo_balanceOf {a0 : Int32} {M : Mem} {Q : Int32 → Mem → Prop} (h : w_Mo_balanceOf a0 M Q) : CI yX12_balanceOf cX12_balanceOf 4 ((some .int)) 1 0 0 LY LY [vr c_mo, vi a0] M Q := mk_i rfl wd_co_X12_balanceOf rfl rfl (Nat.le_of_ble_eq_true rfl) (fun X hX hq => t_Mo_balanceOf hX hq h)
theorem mv_Mo_balanceOf : MV yX12_balanceOf cX12_balanceOf 4 ((some .int)) RX12 1 := ⟨wd_co_X12_balanceOf, wd_im_X12_balanceOf, wd_se_X12_balanceOf, wd_in_X12, by decide +kernel, by decide⟩
def w_Mo_balance_j14 (l1 : Int32) (s1 : Int32) (M : Mem) (Q : Int32 → Mem → Prop) : Prop :=
  ((s1 ≤ 0 → w_Mo_standsAsTold (si M c_mo Mo_thrown s1) (fun M1000 => w_Mo_findOwes 0 M1000 (fun M1001 => w_Mo_balanceOf l1 M1001 (fun r1007 M1006 => Q r1007 M1006)))) ∧ (¬ s1 ≤ 0 → Q 0 (si M c_mo Mo_thrown s1)))
set_option maxHeartbeats 4000000 in
theorem t_Mo_balance_j14 {X : Cx} (hX : Cok X cX12_balance RX12 2 ((some .int)) 7 0 0) {Q : Int32 → Mem → Prop} (hq : RI X 0 0 LY Q) {l1 : Int32} {s1 : Int32} {M : Mem} (h : w_Mo_balance_j14 l1 s1 M Q) : Wat X 0 0 LY 14 [some (vr c_mo), some (vi l1)] [vi s1, vr c_mo] M := by
  refine s_puti hX fi_X12_1 fp_X12 rfl (by decide +kernel) ly_c_mo rfl dX12_balance_14 ?_
  refine s_aload_n hX dX12_balance_17 rfl ?_
  refine s_getiv (v := s1) hX fi_X12_1 ly_c_mo rfl dX12_balance_18 rfl ?_
  refine s_if_le (tgt := 26) hX dX12_balance_21 (by decide) (fun c => ?_) (fun c => ?_)
  · replace h := h.1 c
    refine s_aload_n hX dX12_balance_26 rfl ?_
    refine s_cvv (as := []) (rest := []) hX (c_Mo_standsAsTold h) mv_Mo_standsAsTold wd_ml_X12_314 dX12_balance_27 ly_c_mo rfl rfl (Nat.le_of_ble_eq_true rfl) rfl (by decide) ⟨Nat.zero_le _, Nat.zero_le _⟩ (fun M1000 h => ?_)
    refine s_aload_n hX dX12_balance_30 rfl ?_
    refine s_iconst (v := 0) hX dX12_balance_31 rfl ?_
    refine s_cvv (as := [vi 0]) (rest := []) hX (c_Mo_findOwes h) mv_Mo_findOwes wd_ml_X12_364 dX12_balance_32 ly_c_mo rfl rfl (Nat.le_of_ble_eq_true rfl) rfl (by decide) ⟨Nat.zero_le _, Nat.zero_le _⟩ (fun M1001 h => ?_)
    refine s_aload_n hX dX12_balance_35 rfl ?_
    refine s_iload_n hX dX12_balance_36 rfl ?_
    refine s_cvi (as := [vi l1]) (rest := []) hX (c_Mo_balanceOf h) mv_Mo_balanceOf wd_ml_X12_367 dX12_balance_37 ly_c_mo rfl rfl (Nat.le_of_ble_eq_true rfl) rfl (by decide) ⟨Nat.zero_le _, Nat.zero_le _⟩ (fun r1007 M1006 h => ?_)
    exact s_iret hX hq rfl dX12_balance_40 h
  · replace h := h.2 c
    refine s_iconst (v := 0) hX dX12_balance_24 rfl ?_
    exact s_iret hX hq rfl dX12_balance_25 h
def w_Mo_balance (a0 : Int32) (M : Mem) (Q : Int32 → Mem → Prop) : Prop :=
  w_Mo_isPerson a0 M (fun b999 M998 => w_Mo_balance_j14 a0 (if b999 = true then (0 : Int32) else 1) M998 Q)
set_option maxHeartbeats 4000000 in
theorem t_Mo_balance {X : Cx} (hX : Cok X cX12_balance RX12 2 ((some .int)) 7 0 0) {Q : Int32 → Mem → Prop} (hq : RI X 0 0 LY Q) {M : Mem} {a0 : Int32} (h : w_Mo_balance a0 M Q) : Wat X 0 0 LY 0 [some (vr c_mo), some (vi a0)] [] M := by
  refine s_aload_n hX dX12_balance_0 rfl ?_
  refine s_aload_n hX dX12_balance_1 rfl ?_
  refine s_iload_n hX dX12_balance_2 rfl ?_
  refine s_cvi (as := [vi a0]) (rest := [vr c_mo]) hX (c_Mo_isPerson h) mv_Mo_isPerson wd_ml_X12_352 dX12_balance_3 ly_c_mo rfl rfl (Nat.le_of_ble_eq_true rfl) rfl (by decide) ⟨Nat.zero_le _, Nat.zero_le _⟩ (fun b999_ M998 h => ?_)
  obtain ⟨b999, rfl, h⟩ := h
  have hJ : Wat X 0 0 LY 14 [some (vr c_mo), some (vi a0)] [vi (if b999 = true then (0 : Int32) else 1), vr c_mo] M998 := by
    exact t_Mo_balance_j14 hX hq h
  refine s_if_eq (tgt := 13) hX dX12_balance_6 (by decide) (fun c => ?_) (fun c => ?_)
  · rw [if_neg (by simp [b2i_0 c])] at hJ
    refine s_iconst (v := 1) hX dX12_balance_13 rfl ?_
    exact hJ
  · rw [if_pos (by simp [b2i_1 c])] at hJ
    refine s_iconst (v := 0) hX dX12_balance_9 rfl ?_
    refine s_goto (tgt := 14) hX dX12_balance_10 (by decide) ?_
    exact hJ
theorem c_Mo_balance {a0 : Int32} {M : Mem} {Q : Int32 → Mem → Prop} (h : w_Mo_balance a0 M Q) : CI yX12_balance cX12_balance 2 ((some .int)) 7 0 0 LY LY [vr c_mo, vi a0] M Q := mk_i rfl wd_co_X12_balance rfl rfl (Nat.le_of_ble_eq_true rfl) (fun X hX hq => t_Mo_balance hX hq h)
theorem mv_Mo_balance : MV yX12_balance cX12_balance 2 ((some .int)) RX12 1 := ⟨wd_co_X12_balance, wd_im_X12_balance, wd_se_X12_balance, wd_in_X12, by decide +kernel, by decide⟩
def w_Mo_copies_L3 (l1 : Int32) (l2 : Int32) (l3 : Int32) (K : Mem → Prop) (Q : Mem → Prop) : Nat → Int32 → Mem → Prop
  | 0, _, _ => False
  | n + 1, l4, M => ((l3 ≤ l4 → K M) ∧ (¬ l3 ≤ l4 → (vp_in ((128 * l1) + l4) 3200 ∧ (vp_in ((128 * l2) + l4) 3200 ∧ w_Mo_copies_L3 l1 l2 l3 K Q n (l4 + 1) (si M c_mo_state (Int32.toNatClampNeg ((128 * l2) + l4)) (M.1 c_mo_state (Int32.toNatClampNeg ((128 * l1) + l4))))))))
set_option maxHeartbeats 4000000 in
theorem t_Mo_copies_L3 {X : Cx} (hX : Cok X cX12_copies RX12 5 none 1 0 0) {Q : Mem → Prop} (hq : RV X 0 0 LY Q) {l1 : Int32} {l2 : Int32} {l3 : Int32} {K : Mem → Prop} (hK : ∀ (M : Mem), K M → Wat X 0 0 LY 41 [none, none, none, none, none] [] M) : ∀ (n : Nat) (l4 : Int32) (M : Mem), w_Mo_copies_L3 l1 l2 l3 K Q n l4 M → Wat X 0 0 LY 3 [some (vr c_mo), some (vi l1), some (vi l2), some (vi l3), some (vi l4)] [] M := by
  intro n
  induction n with
  | zero => intro _ _ h; exact h.elim
  | succ n ih =>
    intro l4 M h
    refine s_iload hX dX12_copies_3 rfl ?_
    refine s_iload_n hX dX12_copies_5 rfl ?_
    refine s_icmp_ge (tgt := 41) hX dX12_copies_6 (by decide) (fun c => ?_) (fun c => ?_)
    · replace h := h.1 c
      refine s_mask [false, false, false, false, false] (lv' := [none, none, none, none, none]) rfl rfl ?_
      exact hK _ h
    · replace h := h.2 c
      refine s_aload_n hX dX12_copies_9 rfl ?_
      refine s_getr hX fi_X12_115 ly_c_mo rfl dX12_copies_10 ?_
      refine s_sipush (v := 128) hX dX12_copies_13 rfl ?_
      refine s_iload_n hX dX12_copies_16 rfl ?_
      refine s_imul hX dX12_copies_17 ?_
      refine s_iload hX dX12_copies_18 rfl ?_
      refine s_iadd hX dX12_copies_20 ?_
      refine s_aload_n hX dX12_copies_21 rfl ?_
      refine s_getr hX fi_X12_115 ly_c_mo rfl dX12_copies_22 ?_
      refine s_sipush (v := 128) hX dX12_copies_25 rfl ?_
      refine s_iload_n hX dX12_copies_28 rfl ?_
      refine s_imul hX dX12_copies_29 ?_
      refine s_iload hX dX12_copies_30 rfl ?_
      refine s_iadd hX dX12_copies_32 ?_
      have hi := h.1
      replace h := h.2
      refine s_ialdv (v := (M.1 c_mo_state (Int32.toNatClampNeg ((128 * l1) + l4)))) hX ly_c_mo_state hi dX12_copies_33 rfl ?_
      have hi := h.1
      replace h := h.2
      refine s_iast hX ly_c_mo_state hi dX12_copies_34 ?_
      refine s_iinc (v := (l4 + 1)) (lv' := [some (vr c_mo), some (vi l1), some (vi l2), some (vi l3), some (vi (l4 + 1))]) hX dX12_copies_35 rfl rfl rfl rfl ?_
      refine s_goto (tgt := 3) hX dX12_copies_38 (by decide) ?_
      exact ih _ _ h
def w_Mo_copies (a0 : Int32) (a1 : Int32) (a2 : Int32) (M : Mem) (Q : Mem → Prop) : Prop :=
  (∃ n1015, w_Mo_copies_L3 a0 a1 a2 (fun M1014 => Q M1014) Q n1015 0 M)
set_option maxHeartbeats 4000000 in
theorem t_Mo_copies {X : Cx} (hX : Cok X cX12_copies RX12 5 none 1 0 0) {Q : Mem → Prop} (hq : RV X 0 0 LY Q) {M : Mem} {a0 : Int32} {a1 : Int32} {a2 : Int32} (h : w_Mo_copies a0 a1 a2 M Q) : Wat X 0 0 LY 0 [some (vr c_mo), some (vi a0), some (vi a1), some (vi a2), none] [] M := by
  refine s_iconst (v := 0) hX dX12_copies_0 rfl ?_
  refine s_istore (lv' := [some (vr c_mo), some (vi a0), some (vi a1), some (vi a2), some (vi 0)]) hX dX12_copies_1 rfl rfl (Nat.le_of_ble_eq_true rfl) ?_
  obtain ⟨n1015, h⟩ := h
  refine t_Mo_copies_L3 hX hq ?_ n1015 _ _ h
  intro M1014 h
  exact s_vret hX hq rfl dX12_copies_41 h
theorem c_Mo_copies {a0 : Int32} {a1 : Int32} {a2 : Int32} {M : Mem} {Q : Mem → Prop} (h : w_Mo_copies a0 a1 a2 M Q) : CV yX12_copies cX12_copies 5 none 1 0 0 LY LY [vr c_mo, vi a0, vi a1, vi a2] M Q := mk_v rfl wd_co_X12_copies rfl rfl (Nat.le_of_ble_eq_true rfl) (fun X hX hq => t_Mo_copies hX hq h)
theorem mv_Mo_copies : MV yX12_copies cX12_copies 5 none RX12 3 := ⟨wd_co_X12_copies, wd_im_X12_copies, wd_se_X12_copies, wd_in_X12, by decide +kernel, by decide⟩
def w_Mo_keeps_j47 (M : Mem) (Q : Mem → Prop) : Prop :=
  w_Mo_copies 0 (5 + (M.1 c_mo Mo_undos)) 121 M (fun M1016 => Q (si M1016 c_mo Mo_undos ((M1016.1 c_mo Mo_undos) + 1)))
set_option maxHeartbeats 4000000 in
theorem t_Mo_keeps_j47 {X : Cx} (hX : Cok X cX12_keeps RX12 2 none 2 0 0) {Q : Mem → Prop} (hq : RV X 0 0 LY Q) {M : Mem} (h : w_Mo_keeps_j47 M Q) : Wat X 0 0 LY 47 [some (vr c_mo), none] [] M := by
  refine s_aload_n hX dX12_keeps_47 rfl ?_
  refine s_iconst (v := 0) hX dX12_keeps_48 rfl ?_
  refine s_iconst (v := 5) hX dX12_keeps_49 rfl ?_
  refine s_aload_n hX dX12_keeps_50 rfl ?_
  refine s_getiv (v := (M.1 c_mo Mo_undos)) hX fi_X12_230 ly_c_mo rfl dX12_keeps_51 rfl ?_
  refine s_iadd hX dX12_keeps_54 ?_
  refine s_bipush (v := 121) hX dX12_keeps_55 rfl ?_
  refine s_cvv (as := [vi 0, vi (5 + (M.1 c_mo Mo_undos)), vi 121]) (rest := []) hX (c_Mo_copies h) mv_Mo_copies wd_ml_X12_307 dX12_keeps_57 ly_c_mo rfl rfl (Nat.le_of_ble_eq_true rfl) rfl (by decide) ⟨Nat.zero_le _, Nat.zero_le _⟩ (fun M1016 h => ?_)
  refine s_aload_n hX dX12_keeps_60 rfl ?_
  refine s_dup hX dX12_keeps_61 rfl ?_
  refine s_getiv (v := (M1016.1 c_mo Mo_undos)) hX fi_X12_230 ly_c_mo rfl dX12_keeps_62 rfl ?_
  refine s_iconst (v := 1) hX dX12_keeps_65 rfl ?_
  refine s_iadd hX dX12_keeps_66 ?_
  refine s_puti hX fi_X12_230 fp_X12 rfl (by decide +kernel) ly_c_mo rfl dX12_keeps_67 ?_
  exact s_vret hX hq rfl dX12_keeps_70 h
def w_Mo_keeps_L11 (K : Mem → Prop) (Q : Mem → Prop) : Nat → Int32 → Mem → Prop
  | 0, _, _ => False
  | n + 1, l1, M => ((20 ≤ l1 → K M) ∧ (¬ 20 ≤ l1 → w_Mo_copies (5 + l1) ((5 + l1) - 1) 121 M (fun M1017 => w_Mo_keeps_L11 K Q n (l1 + 1) M1017)))
set_option maxHeartbeats 4000000 in
theorem t_Mo_keeps_L11 {X : Cx} (hX : Cok X cX12_keeps RX12 2 none 2 0 0) {Q : Mem → Prop} (hq : RV X 0 0 LY Q) {K : Mem → Prop} (hK : ∀ (M : Mem), K M → Wat X 0 0 LY 37 [some (vr c_mo), none] [] M) : ∀ (n : Nat) (l1 : Int32) (M : Mem), w_Mo_keeps_L11 K Q n l1 M → Wat X 0 0 LY 11 [some (vr c_mo), some (vi l1)] [] M := by
  intro n
  induction n with
  | zero => intro _ _ h; exact h.elim
  | succ n ih =>
    intro l1 M h
    refine s_iload_n hX dX12_keeps_11 rfl ?_
    refine s_bipush (v := 20) hX dX12_keeps_12 rfl ?_
    refine s_icmp_ge (tgt := 37) hX dX12_keeps_14 (by decide) (fun c => ?_) (fun c => ?_)
    · replace h := h.1 c
      refine s_mask [true, false] (lv' := [some (vr c_mo), none]) rfl rfl ?_
      exact hK _ h
    · replace h := h.2 c
      refine s_aload_n hX dX12_keeps_17 rfl ?_
      refine s_iconst (v := 5) hX dX12_keeps_18 rfl ?_
      refine s_iload_n hX dX12_keeps_19 rfl ?_
      refine s_iadd hX dX12_keeps_20 ?_
      refine s_iconst (v := 5) hX dX12_keeps_21 rfl ?_
      refine s_iload_n hX dX12_keeps_22 rfl ?_
      refine s_iadd hX dX12_keeps_23 ?_
      refine s_iconst (v := 1) hX dX12_keeps_24 rfl ?_
      refine s_isub hX dX12_keeps_25 ?_
      refine s_bipush (v := 121) hX dX12_keeps_26 rfl ?_
      refine s_cvv (as := [vi (5 + l1), vi ((5 + l1) - 1), vi 121]) (rest := []) hX (c_Mo_copies h) mv_Mo_copies wd_ml_X12_307 dX12_keeps_28 ly_c_mo rfl rfl (Nat.le_of_ble_eq_true rfl) rfl (by decide) ⟨Nat.zero_le _, Nat.zero_le _⟩ (fun M1017 h => ?_)
      refine s_iinc (v := (l1 + 1)) (lv' := [some (vr c_mo), some (vi (l1 + 1))]) hX dX12_keeps_31 rfl rfl rfl rfl ?_
      refine s_goto (tgt := 11) hX dX12_keeps_34 (by decide) ?_
      exact ih _ _ h
def w_Mo_keeps (M : Mem) (Q : Mem → Prop) : Prop :=
  ((¬ (M.1 c_mo Mo_undos) = 20 → w_Mo_keeps_j47 M Q) ∧ ((M.1 c_mo Mo_undos) = 20 → (∃ n1019, w_Mo_keeps_L11 (fun M1018 => w_Mo_keeps_j47 (si M1018 c_mo Mo_undos ((M1018.1 c_mo Mo_undos) - 1)) Q) Q n1019 1 M)))
set_option maxHeartbeats 4000000 in
theorem t_Mo_keeps {X : Cx} (hX : Cok X cX12_keeps RX12 2 none 2 0 0) {Q : Mem → Prop} (hq : RV X 0 0 LY Q) {M : Mem} (h : w_Mo_keeps M Q) : Wat X 0 0 LY 0 [some (vr c_mo), none] [] M := by
  refine s_aload_n hX dX12_keeps_0 rfl ?_
  refine s_getiv (v := (M.1 c_mo Mo_undos)) hX fi_X12_230 ly_c_mo rfl dX12_keeps_1 rfl ?_
  refine s_bipush (v := 20) hX dX12_keeps_4 rfl ?_
  refine s_icmp_ne (tgt := 47) hX dX12_keeps_6 (by decide) (fun c => ?_) (fun c => ?_)
  · replace h := h.1 c
    exact t_Mo_keeps_j47 hX hq h
  · replace h := h.2 c
    refine s_iconst (v := 1) hX dX12_keeps_9 rfl ?_
    refine s_istore_n (lv' := [some (vr c_mo), some (vi 1)]) hX dX12_keeps_10 rfl rfl (Nat.le_of_ble_eq_true rfl) ?_
    obtain ⟨n1019, h⟩ := h
    refine t_Mo_keeps_L11 hX hq ?_ n1019 _ _ h
    intro M1018 h
    refine s_aload_n hX dX12_keeps_37 rfl ?_
    refine s_dup hX dX12_keeps_38 rfl ?_
    refine s_getiv (v := (M1018.1 c_mo Mo_undos)) hX fi_X12_230 ly_c_mo rfl dX12_keeps_39 rfl ?_
    refine s_iconst (v := 1) hX dX12_keeps_42 rfl ?_
    refine s_isub hX dX12_keeps_43 ?_
    refine s_puti hX fi_X12_230 fp_X12 rfl (by decide +kernel) ly_c_mo rfl dX12_keeps_44 ?_
    exact t_Mo_keeps_j47 hX hq h
theorem c_Mo_keeps {M : Mem} {Q : Mem → Prop} (h : w_Mo_keeps M Q) : CV yX12_keeps cX12_keeps 2 none 2 0 0 LY LY [vr c_mo] M Q := mk_v rfl wd_co_X12_keeps rfl rfl (Nat.le_of_ble_eq_true rfl) (fun X hX hq => t_Mo_keeps hX hq h)
theorem mv_Mo_keeps : MV yX12_keeps cX12_keeps 2 none RX12 0 := ⟨wd_co_X12_keeps, wd_im_X12_keeps, wd_se_X12_keeps, wd_in_X12, by decide +kernel, by decide⟩
def w_Mo_callsTold_L4 (K : Int32 → Mem → Prop) (Q : Int32 → Mem → Prop) : Nat → Int32 → Int32 → Mem → Prop
  | 0, _, _, _ => False
  | n + 1, l1, l2, M => ((120 ≤ l2 → K l1 M) ∧ (¬ 120 ≤ l2 → (vp_in l2 3200 ∧ ∀ x1021 : Int32, x1021 = (l1 + (if (M.1 c_mo_state (Int32.toNatClampNeg l2)) ≤ 0 then (0 : Int32) else 1)) → w_Mo_callsTold_L4 K Q n x1021 (l2 + 1) M)))
set_option maxHeartbeats 4000000 in
theorem t_Mo_callsTold_L4 {X : Cx} (hX : Cok X cX12_callsTold RX12 3 ((some .int)) 1 0 0) {Q : Int32 → Mem → Prop} (hq : RI X 0 0 LY Q) {K : Int32 → Mem → Prop} (hK : ∀ (l1 : Int32) (M : Mem), K l1 M → Wat X 0 0 LY 33 [none, some (vi l1), none] [] M) : ∀ (n : Nat) (l1 : Int32) (l2 : Int32) (M : Mem), w_Mo_callsTold_L4 K Q n l1 l2 M → Wat X 0 0 LY 4 [some (vr c_mo), some (vi l1), some (vi l2)] [] M := by
  intro n
  induction n with
  | zero => intro _ _ _ h; exact h.elim
  | succ n ih =>
    intro l1 l2 M h
    refine s_iload_n hX dX12_callsTold_4 rfl ?_
    refine s_bipush (v := 120) hX dX12_callsTold_5 rfl ?_
    refine s_icmp_ge (tgt := 33) hX dX12_callsTold_7 (by decide) (fun c => ?_) (fun c => ?_)
    · replace h := h.1 c
      refine s_mask [false, true, false] (lv' := [none, some (vi l1), none]) rfl rfl ?_
      exact hK _ _ h
    · replace h := h.2 c
      refine s_iload_n hX dX12_callsTold_10 rfl ?_
      refine s_aload_n hX dX12_callsTold_11 rfl ?_
      refine s_getr hX fi_X12_115 ly_c_mo rfl dX12_callsTold_12 ?_
      refine s_iload_n hX dX12_callsTold_15 rfl ?_
      have hi := h.1
      replace h := h.2
      refine s_ialdv (v := (M.1 c_mo_state (Int32.toNatClampNeg l2))) hX ly_c_mo_state hi dX12_callsTold_16 rfl ?_
      have hJ : Wat X 0 0 LY 25 [some (vr c_mo), some (vi l1), some (vi l2)] [vi (if (M.1 c_mo_state (Int32.toNatClampNeg l2)) ≤ 0 then (0 : Int32) else 1), vi l1] M := by
        refine s_iadd hX dX12_callsTold_25 ?_
        refine s_nmi (fun x1021 ex1021 => ?_)
        replace h := h x1021 ex1021
        refine s_istore_n (lv' := [some (vr c_mo), some (vi x1021), some (vi l2)]) hX dX12_callsTold_26 rfl rfl (Nat.le_of_ble_eq_true rfl) ?_
        refine s_iinc (v := (l2 + 1)) (lv' := [some (vr c_mo), some (vi x1021), some (vi (l2 + 1))]) hX dX12_callsTold_27 rfl rfl rfl rfl ?_
        refine s_goto (tgt := 4) hX dX12_callsTold_30 (by decide) ?_
        exact ih _ _ _ h
      refine s_if_le (tgt := 24) hX dX12_callsTold_17 (by decide) (fun c => ?_) (fun c => ?_)
      · rw [if_pos c] at hJ
        refine s_iconst (v := 0) hX dX12_callsTold_24 rfl ?_
        exact hJ
      · rw [if_neg c] at hJ
        refine s_iconst (v := 1) hX dX12_callsTold_20 rfl ?_
        refine s_goto (tgt := 25) hX dX12_callsTold_21 (by decide) ?_
        exact hJ
def w_Mo_callsTold (M : Mem) (Q : Int32 → Mem → Prop) : Prop :=
  (∃ n1024, w_Mo_callsTold_L4 (fun y1023 M1022 => Q y1023 M1022) Q n1024 0 0 M)
set_option maxHeartbeats 4000000 in
theorem t_Mo_callsTold {X : Cx} (hX : Cok X cX12_callsTold RX12 3 ((some .int)) 1 0 0) {Q : Int32 → Mem → Prop} (hq : RI X 0 0 LY Q) {M : Mem} (h : w_Mo_callsTold M Q) : Wat X 0 0 LY 0 [some (vr c_mo), none, none] [] M := by
  refine s_iconst (v := 0) hX dX12_callsTold_0 rfl ?_
  refine s_istore_n (lv' := [some (vr c_mo), some (vi 0), none]) hX dX12_callsTold_1 rfl rfl (Nat.le_of_ble_eq_true rfl) ?_
  refine s_iconst (v := 0) hX dX12_callsTold_2 rfl ?_
  refine s_istore_n (lv' := [some (vr c_mo), some (vi 0), some (vi 0)]) hX dX12_callsTold_3 rfl rfl (Nat.le_of_ble_eq_true rfl) ?_
  obtain ⟨n1024, h⟩ := h
  refine t_Mo_callsTold_L4 hX hq ?_ n1024 _ _ _ h
  intro y1023 M1022 h
  refine s_iload_n hX dX12_callsTold_33 rfl ?_
  exact s_iret hX hq rfl dX12_callsTold_34 h
theorem c_Mo_callsTold {M : Mem} {Q : Int32 → Mem → Prop} (h : w_Mo_callsTold M Q) : CI yX12_callsTold cX12_callsTold 3 ((some .int)) 1 0 0 LY LY [vr c_mo] M Q := mk_i rfl wd_co_X12_callsTold rfl rfl (Nat.le_of_ble_eq_true rfl) (fun X hX hq => t_Mo_callsTold hX hq h)
theorem mv_Mo_callsTold : MV yX12_callsTold cX12_callsTold 3 ((some .int)) RX12 0 := ⟨wd_co_X12_callsTold, wd_im_X12_callsTold, wd_se_X12_callsTold, wd_in_X12, by decide +kernel, by decide⟩
def w_Mo_call_j70 (l1 : Int32) (l2 : Int32) (l3 : Int32) (M : Mem) (Q : Bool → Mem → Prop) : Prop :=
  w_Mo_keeps M (fun M1020 => (vp_in ((24 * l1) + l2) 3200 ∧ Q true (si M1020 c_mo_state (Int32.toNatClampNeg ((24 * l1) + l2)) l3)))
set_option maxHeartbeats 4000000 in
theorem t_Mo_call_j70 {X : Cx} (hX : Cok X cX12_call RX12 4 ((some .boolean)) 3 0 0) {Q : Bool → Mem → Prop} (hq : RI X 0 0 LY (bQ Q)) {l1 : Int32} {l2 : Int32} {l3 : Int32} {M : Mem} (h : w_Mo_call_j70 l1 l2 l3 M Q) : Wat X 0 0 LY 70 [some (vr c_mo), some (vi l1), some (vi l2), some (vi l3)] [] M := by
  refine s_aload_n hX dX12_call_70 rfl ?_
  refine s_cvv (as := []) (rest := []) hX (c_Mo_keeps h) mv_Mo_keeps wd_ml_X12_373 dX12_call_71 ly_c_mo rfl rfl (Nat.le_of_ble_eq_true rfl) rfl (by decide) ⟨Nat.zero_le _, Nat.zero_le _⟩ (fun M1020 h => ?_)
  refine s_aload_n hX dX12_call_74 rfl ?_
  refine s_getr hX fi_X12_115 ly_c_mo rfl dX12_call_75 ?_
  refine s_bipush (v := 24) hX dX12_call_78 rfl ?_
  refine s_iload_n hX dX12_call_80 rfl ?_
  refine s_imul hX dX12_call_81 ?_
  refine s_iload_n hX dX12_call_82 rfl ?_
  refine s_iadd hX dX12_call_83 ?_
  refine s_iload_n hX dX12_call_84 rfl ?_
  have hi := h.1
  replace h := h.2
  refine s_iast hX ly_c_mo_state hi dX12_call_85 ?_
  refine s_iconst (v := 1) hX dX12_call_86 rfl ?_
  exact s_zret hX true hq rfl dX12_call_87 rfl h
def w_Mo_call (a0 : Int32) (a1 : Int32) (a2 : Int32) (M : Mem) (Q : Bool → Mem → Prop) : Prop :=
  w_Mo_isBird a0 (si M c_mo Mo_thrown 0) (fun b1009 M1008 => ((b1009 = false → Q false M1008) ∧ (b1009 = true → w_Mo_isHour a1 M1008 (fun b1011 M1010 => ((b1011 = false → Q false M1010) ∧ (b1011 = true → w_Mo_within a2 0 9 M1010 (fun b1013 M1012 => ((b1013 = false → Q false M1012) ∧ (b1013 = true → (vp_in ((24 * a0) + a1) 3200 ∧ (((M1012.1 c_mo_state (Int32.toNatClampNeg ((24 * a0) + a1))) = a2 → Q false M1012) ∧ (¬ (M1012.1 c_mo_state (Int32.toNatClampNeg ((24 * a0) + a1))) = a2 → (vp_in ((24 * a0) + a1) 3200 ∧ ((¬ (M1012.1 c_mo_state (Int32.toNatClampNeg ((24 * a0) + a1))) = 0 → w_Mo_call_j70 a0 a1 a2 M1012 Q) ∧ ((M1012.1 c_mo_state (Int32.toNatClampNeg ((24 * a0) + a1))) = 0 → w_Mo_callsTold M1012 (fun r1026 M1025 => ((¬ r1026 = 30 → w_Mo_call_j70 a0 a1 a2 M1025 Q) ∧ (r1026 = 30 → Q false M1025))))))))))))))))))
set_option maxHeartbeats 4000000 in
theorem t_Mo_call {X : Cx} (hX : Cok X cX12_call RX12 4 ((some .boolean)) 3 0 0) {Q : Bool → Mem → Prop} (hq : RI X 0 0 LY (bQ Q)) {M : Mem} {a0 : Int32} {a1 : Int32} {a2 : Int32} (h : w_Mo_call a0 a1 a2 M Q) : Wat X 0 0 LY 0 [some (vr c_mo), some (vi a0), some (vi a1), some (vi a2)] [] M := by
  refine s_aload_n hX dX12_call_0 rfl ?_
  refine s_iconst (v := 0) hX dX12_call_1 rfl ?_
  refine s_puti hX fi_X12_1 fp_X12 rfl (by decide +kernel) ly_c_mo rfl dX12_call_2 ?_
  refine s_aload_n hX dX12_call_5 rfl ?_
  refine s_iload_n hX dX12_call_6 rfl ?_
  refine s_cvi (as := [vi a0]) (rest := []) hX (c_Mo_isBird h) mv_Mo_isBird wd_ml_X12_361 dX12_call_7 ly_c_mo rfl rfl (Nat.le_of_ble_eq_true rfl) rfl (by decide) ⟨Nat.zero_le _, Nat.zero_le _⟩ (fun b1009_ M1008 h => ?_)
  obtain ⟨b1009, rfl, h⟩ := h
  refine s_if_eq (tgt := 68) hX dX12_call_10 (by decide) (fun c => ?_) (fun c => ?_)
  · replace h := h.1 (b2i_0 c)
    refine s_iconst (v := 0) hX dX12_call_68 rfl ?_
    exact s_zret hX false hq rfl dX12_call_69 rfl h
  · replace h := h.2 (b2i_1 c)
    refine s_iload_n hX dX12_call_13 rfl ?_
    refine s_csi (as := [vi a1]) (rest := []) hX (c_Mo_isHour h) ms_Mo_isHour wd_ml_X12_358 dX12_call_14 rfl (Nat.le_of_ble_eq_true rfl) rfl (by decide) ⟨Nat.zero_le _, Nat.zero_le _⟩ (fun b1011_ M1010 h => ?_)
    obtain ⟨b1011, rfl, h⟩ := h
    refine s_if_eq (tgt := 68) hX dX12_call_17 (by decide) (fun c => ?_) (fun c => ?_)
    · replace h := h.1 (b2i_0 c)
      refine s_iconst (v := 0) hX dX12_call_68 rfl ?_
      exact s_zret hX false hq rfl dX12_call_69 rfl h
    · replace h := h.2 (b2i_1 c)
      refine s_iload_n hX dX12_call_20 rfl ?_
      refine s_iconst (v := 0) hX dX12_call_21 rfl ?_
      refine s_bipush (v := 9) hX dX12_call_22 rfl ?_
      refine s_csi (as := [vi a2, vi 0, vi 9]) (rest := []) hX (c_Mo_within h) ms_Mo_within wd_ml_X12_355 dX12_call_24 rfl (Nat.le_of_ble_eq_true rfl) rfl (by decide) ⟨Nat.zero_le _, Nat.zero_le _⟩ (fun b1013_ M1012 h => ?_)
      obtain ⟨b1013, rfl, h⟩ := h
      refine s_if_eq (tgt := 68) hX dX12_call_27 (by decide) (fun c => ?_) (fun c => ?_)
      · replace h := h.1 (b2i_0 c)
        refine s_iconst (v := 0) hX dX12_call_68 rfl ?_
        exact s_zret hX false hq rfl dX12_call_69 rfl h
      · replace h := h.2 (b2i_1 c)
        refine s_aload_n hX dX12_call_30 rfl ?_
        refine s_getr hX fi_X12_115 ly_c_mo rfl dX12_call_31 ?_
        refine s_bipush (v := 24) hX dX12_call_34 rfl ?_
        refine s_iload_n hX dX12_call_36 rfl ?_
        refine s_imul hX dX12_call_37 ?_
        refine s_iload_n hX dX12_call_38 rfl ?_
        refine s_iadd hX dX12_call_39 ?_
        have hi := h.1
        replace h := h.2
        refine s_ialdv (v := (M1012.1 c_mo_state (Int32.toNatClampNeg ((24 * a0) + a1)))) hX ly_c_mo_state hi dX12_call_40 rfl ?_
        refine s_iload_n hX dX12_call_41 rfl ?_
        refine s_icmp_eq (tgt := 68) hX dX12_call_42 (by decide) (fun c => ?_) (fun c => ?_)
        · replace h := h.1 c
          refine s_iconst (v := 0) hX dX12_call_68 rfl ?_
          exact s_zret hX false hq rfl dX12_call_69 rfl h
        · replace h := h.2 c
          refine s_aload_n hX dX12_call_45 rfl ?_
          refine s_getr hX fi_X12_115 ly_c_mo rfl dX12_call_46 ?_
          refine s_bipush (v := 24) hX dX12_call_49 rfl ?_
          refine s_iload_n hX dX12_call_51 rfl ?_
          refine s_imul hX dX12_call_52 ?_
          refine s_iload_n hX dX12_call_53 rfl ?_
          refine s_iadd hX dX12_call_54 ?_
          have hi := h.1
          replace h := h.2
          refine s_ialdv (v := (M1012.1 c_mo_state (Int32.toNatClampNeg ((24 * a0) + a1)))) hX ly_c_mo_state hi dX12_call_55 rfl ?_
          refine s_if_ne (tgt := 70) hX dX12_call_56 (by decide) (fun c => ?_) (fun c => ?_)
          · replace h := h.1 c
            exact t_Mo_call_j70 hX hq h
          · replace h := h.2 c
            refine s_aload_n hX dX12_call_59 rfl ?_
            refine s_cvi (as := []) (rest := []) hX (c_Mo_callsTold h) mv_Mo_callsTold wd_ml_X12_370 dX12_call_60 ly_c_mo rfl rfl (Nat.le_of_ble_eq_true rfl) rfl (by decide) ⟨Nat.zero_le _, Nat.zero_le _⟩ (fun r1026 M1025 h => ?_)
            refine s_bipush (v := 30) hX dX12_call_63 rfl ?_
            refine s_icmp_ne (tgt := 70) hX dX12_call_65 (by decide) (fun c => ?_) (fun c => ?_)
            · replace h := h.1 c
              exact t_Mo_call_j70 hX hq h
            · replace h := h.2 c
              refine s_iconst (v := 0) hX dX12_call_68 rfl ?_
              exact s_zret hX false hq rfl dX12_call_69 rfl h
theorem c_Mo_call {a0 : Int32} {a1 : Int32} {a2 : Int32} {M : Mem} {Q : Bool → Mem → Prop} (h : w_Mo_call a0 a1 a2 M Q) : CI yX12_call cX12_call 4 ((some .boolean)) 3 0 0 LY LY [vr c_mo, vi a0, vi a1, vi a2] M (bQ Q) := mk_i rfl wd_co_X12_call rfl rfl (Nat.le_of_ble_eq_true rfl) (fun X hX hq => t_Mo_call hX hq h)
theorem mv_Mo_call : MV yX12_call cX12_call 4 ((some .boolean)) RX12 3 := ⟨wd_co_X12_call, wd_im_X12_call, wd_se_X12_call, wd_in_X12, by decide +kernel, by decide⟩
def w_Mo_shoot (a0 : Int32) (a1 : Int32) (M : Mem) (Q : Bool → Mem → Prop) : Prop :=
  w_Mo_isBird a0 (si M c_mo Mo_thrown 0) (fun b1028 M1027 => ((b1028 = false → Q false M1027) ∧ (b1028 = true → w_Mo_isShot a0 M1027 (fun b1030 M1029 => ((¬ (b2i b1030) = a1 → w_Mo_keeps M1029 (fun M1031 => (vp_in 120 3200 ∧ (vp_in 120 3200 ∧ Q true (si M1031 c_mo_state (Int32.toNatClampNeg 120) ((M1031.1 c_mo_state (Int32.toNatClampNeg 120)) ^^^ (1 <<< (a0 &&& 31)))))))) ∧ ((b2i b1030) = a1 → Q false M1029))))))
set_option maxHeartbeats 4000000 in
theorem t_Mo_shoot {X : Cx} (hX : Cok X cX12_shoot RX12 3 ((some .boolean)) 3 0 0) {Q : Bool → Mem → Prop} (hq : RI X 0 0 LY (bQ Q)) {M : Mem} {a0 : Int32} {a1 : Int32} (h : w_Mo_shoot a0 a1 M Q) : Wat X 0 0 LY 0 [some (vr c_mo), some (vi a0), some (vi a1)] [] M := by
  refine s_aload_n hX dX12_shoot_0 rfl ?_
  refine s_iconst (v := 0) hX dX12_shoot_1 rfl ?_
  refine s_puti hX fi_X12_1 fp_X12 rfl (by decide +kernel) ly_c_mo rfl dX12_shoot_2 ?_
  refine s_aload_n hX dX12_shoot_5 rfl ?_
  refine s_iload_n hX dX12_shoot_6 rfl ?_
  refine s_cvi (as := [vi a0]) (rest := []) hX (c_Mo_isBird h) mv_Mo_isBird wd_ml_X12_361 dX12_shoot_7 ly_c_mo rfl rfl (Nat.le_of_ble_eq_true rfl) rfl (by decide) ⟨Nat.zero_le _, Nat.zero_le _⟩ (fun b1028_ M1027 h => ?_)
  obtain ⟨b1028, rfl, h⟩ := h
  refine s_if_eq (tgt := 22) hX dX12_shoot_10 (by decide) (fun c => ?_) (fun c => ?_)
  · replace h := h.1 (b2i_0 c)
    refine s_iconst (v := 0) hX dX12_shoot_22 rfl ?_
    exact s_zret hX false hq rfl dX12_shoot_23 rfl h
  · replace h := h.2 (b2i_1 c)
    refine s_aload_n hX dX12_shoot_13 rfl ?_
    refine s_iload_n hX dX12_shoot_14 rfl ?_
    refine s_cvi (as := [vi a0]) (rest := []) hX (c_Mo_isShot h) mv_Mo_isShot wd_ml_X12_342 dX12_shoot_15 ly_c_mo rfl rfl (Nat.le_of_ble_eq_true rfl) rfl (by decide) ⟨Nat.zero_le _, Nat.zero_le _⟩ (fun b1030_ M1029 h => ?_)
    obtain ⟨b1030, rfl, h⟩ := h
    refine s_iload_n hX dX12_shoot_18 rfl ?_
    refine s_icmp_ne (tgt := 24) hX dX12_shoot_19 (by decide) (fun c => ?_) (fun c => ?_)
    · replace h := h.1 c
      refine s_aload_n hX dX12_shoot_24 rfl ?_
      refine s_cvv (as := []) (rest := []) hX (c_Mo_keeps h) mv_Mo_keeps wd_ml_X12_373 dX12_shoot_25 ly_c_mo rfl rfl (Nat.le_of_ble_eq_true rfl) rfl (by decide) ⟨Nat.zero_le _, Nat.zero_le _⟩ (fun M1031 h => ?_)
      refine s_aload_n hX dX12_shoot_28 rfl ?_
      refine s_getr hX fi_X12_115 ly_c_mo rfl dX12_shoot_29 ?_
      refine s_bipush (v := 120) hX dX12_shoot_32 rfl ?_
      refine s_dup2 hX dX12_shoot_34 rfl rfl ?_
      have hi := h.1
      replace h := h.2
      refine s_ialdv (v := (M1031.1 c_mo_state (Int32.toNatClampNeg 120))) hX ly_c_mo_state hi dX12_shoot_35 rfl ?_
      refine s_iconst (v := 1) hX dX12_shoot_36 rfl ?_
      refine s_iload_n hX dX12_shoot_37 rfl ?_
      refine s_ishl hX dX12_shoot_38 ?_
      refine s_ixor hX dX12_shoot_39 ?_
      have hi := h.1
      replace h := h.2
      refine s_iast hX ly_c_mo_state hi dX12_shoot_40 ?_
      refine s_iconst (v := 1) hX dX12_shoot_41 rfl ?_
      exact s_zret hX true hq rfl dX12_shoot_42 rfl h
    · replace h := h.2 c
      refine s_iconst (v := 0) hX dX12_shoot_22 rfl ?_
      exact s_zret hX false hq rfl dX12_shoot_23 rfl h
theorem c_Mo_shoot {a0 : Int32} {a1 : Int32} {M : Mem} {Q : Bool → Mem → Prop} (h : w_Mo_shoot a0 a1 M Q) : CI yX12_shoot cX12_shoot 3 ((some .boolean)) 3 0 0 LY LY [vr c_mo, vi a0, vi a1] M (bQ Q) := mk_i rfl wd_co_X12_shoot rfl rfl (Nat.le_of_ble_eq_true rfl) (fun X hX hq => t_Mo_shoot hX hq h)
theorem mv_Mo_shoot : MV yX12_shoot cX12_shoot 3 ((some .boolean)) RX12 2 := ⟨wd_co_X12_shoot, wd_im_X12_shoot, wd_se_X12_shoot, wd_in_X12, by decide +kernel, by decide⟩
def w_Mo_undo (M : Mem) (Q : Bool → Mem → Prop) : Prop :=
  ((¬ (M.1 c_mo Mo_undos) = 0 → w_Mo_copies (5 + ((M.1 c_mo Mo_undos) - 1)) 0 121 (si (si M c_mo Mo_thrown 0) c_mo Mo_undos ((M.1 c_mo Mo_undos) - 1)) (fun M1032 => Q true M1032)) ∧ ((M.1 c_mo Mo_undos) = 0 → Q false (si M c_mo Mo_thrown 0)))
set_option maxHeartbeats 4000000 in
theorem t_Mo_undo {X : Cx} (hX : Cok X cX12_undo RX12 1 ((some .boolean)) 2 0 0) {Q : Bool → Mem → Prop} (hq : RI X 0 0 LY (bQ Q)) {M : Mem} (h : w_Mo_undo M Q) : Wat X 0 0 LY 0 [some (vr c_mo)] [] M := by
  refine s_aload_n hX dX12_undo_0 rfl ?_
  refine s_iconst (v := 0) hX dX12_undo_1 rfl ?_
  refine s_puti hX fi_X12_1 fp_X12 rfl (by decide +kernel) ly_c_mo rfl dX12_undo_2 ?_
  refine s_aload_n hX dX12_undo_5 rfl ?_
  refine s_getiv (v := (M.1 c_mo Mo_undos)) hX fi_X12_230 ly_c_mo rfl dX12_undo_6 rfl ?_
  refine s_if_ne (tgt := 14) hX dX12_undo_9 (by decide) (fun c => ?_) (fun c => ?_)
  · replace h := h.1 c
    refine s_aload_n hX dX12_undo_14 rfl ?_
    refine s_dup hX dX12_undo_15 rfl ?_
    refine s_getiv (v := (M.1 c_mo Mo_undos)) hX fi_X12_230 ly_c_mo rfl dX12_undo_16 rfl ?_
    refine s_iconst (v := 1) hX dX12_undo_19 rfl ?_
    refine s_isub hX dX12_undo_20 ?_
    refine s_puti hX fi_X12_230 fp_X12 rfl (by decide +kernel) ly_c_mo rfl dX12_undo_21 ?_
    refine s_aload_n hX dX12_undo_24 rfl ?_
    refine s_iconst (v := 5) hX dX12_undo_25 rfl ?_
    refine s_aload_n hX dX12_undo_26 rfl ?_
    refine s_getiv (v := ((M.1 c_mo Mo_undos) - 1)) hX fi_X12_230 ly_c_mo rfl dX12_undo_27 rfl ?_
    refine s_iadd hX dX12_undo_30 ?_
    refine s_iconst (v := 0) hX dX12_undo_31 rfl ?_
    refine s_bipush (v := 121) hX dX12_undo_32 rfl ?_
    refine s_cvv (as := [vi (5 + ((M.1 c_mo Mo_undos) - 1)), vi 0, vi 121]) (rest := []) hX (c_Mo_copies h) mv_Mo_copies wd_ml_X12_307 dX12_undo_34 ly_c_mo rfl rfl (Nat.le_of_ble_eq_true rfl) rfl (by decide) ⟨Nat.zero_le _, Nat.zero_le _⟩ (fun M1032 h => ?_)
    refine s_iconst (v := 1) hX dX12_undo_37 rfl ?_
    exact s_zret hX true hq rfl dX12_undo_38 rfl h
  · replace h := h.2 c
    refine s_iconst (v := 0) hX dX12_undo_12 rfl ?_
    exact s_zret hX false hq rfl dX12_undo_13 rfl h
theorem c_Mo_undo {M : Mem} {Q : Bool → Mem → Prop} (h : w_Mo_undo M Q) : CI yX12_undo cX12_undo 1 ((some .boolean)) 2 0 0 LY LY [vr c_mo] M (bQ Q) := mk_i rfl wd_co_X12_undo rfl rfl (Nat.le_of_ble_eq_true rfl) (fun X hX hq => t_Mo_undo hX hq h)
theorem mv_Mo_undo : MV yX12_undo cX12_undo 1 ((some .boolean)) RX12 0 := ⟨wd_co_X12_undo, wd_im_X12_undo, wd_se_X12_undo, wd_in_X12, by decide +kernel, by decide⟩
def w_Mo_standsIn (a0 : Int32) (a1 : Int32) (M : Mem) (Q : Mem → Prop) : Prop :=
  w_Mo_standsAsTold M (fun M1035 => Q (si (si M1035 c_mo Mo_standFrom a0) c_mo Mo_standTo a1))
set_option maxHeartbeats 4000000 in
theorem t_Mo_standsIn {X : Cx} (hX : Cok X cX12_standsIn RX12 3 none 2 0 0) {Q : Mem → Prop} (hq : RV X 0 0 LY Q) {M : Mem} {a0 : Int32} {a1 : Int32} (h : w_Mo_standsIn a0 a1 M Q) : Wat X 0 0 LY 0 [some (vr c_mo), some (vi a0), some (vi a1)] [] M := by
  refine s_aload_n hX dX12_standsIn_0 rfl ?_
  refine s_cvv (as := []) (rest := []) hX (c_Mo_standsAsTold h) mv_Mo_standsAsTold wd_ml_X12_314 dX12_standsIn_1 ly_c_mo rfl rfl (Nat.le_of_ble_eq_true rfl) rfl (by decide) ⟨Nat.zero_le _, Nat.zero_le _⟩ (fun M1035 h => ?_)
  refine s_aload_n hX dX12_standsIn_4 rfl ?_
  refine s_iload_n hX dX12_standsIn_5 rfl ?_
  refine s_puti hX fi_X12_125 fp_X12 rfl (by decide +kernel) ly_c_mo rfl dX12_standsIn_6 ?_
  refine s_aload_n hX dX12_standsIn_9 rfl ?_
  refine s_iload_n hX dX12_standsIn_10 rfl ?_
  refine s_puti hX fi_X12_128 fp_X12 rfl (by decide +kernel) ly_c_mo rfl dX12_standsIn_11 ?_
  exact s_vret hX hq rfl dX12_standsIn_14 h
theorem c_Mo_standsIn {a0 : Int32} {a1 : Int32} {M : Mem} {Q : Mem → Prop} (h : w_Mo_standsIn a0 a1 M Q) : CV yX12_standsIn cX12_standsIn 3 none 2 0 0 LY LY [vr c_mo, vi a0, vi a1] M Q := mk_v rfl wd_co_X12_standsIn rfl rfl (Nat.le_of_ble_eq_true rfl) (fun X hX hq => t_Mo_standsIn hX hq h)
theorem mv_Mo_standsIn : MV yX12_standsIn cX12_standsIn 3 none RX12 2 := ⟨wd_co_X12_standsIn, wd_im_X12_standsIn, wd_se_X12_standsIn, wd_in_X12, by decide +kernel, by decide⟩
def w_Mo_isCell (a0 : Int32) (M : Mem) (Q : Bool → Mem → Prop) : Prop :=
  (vp_in 0 360 ∧ (((M.1 c_mo_lands (Int32.toNatClampNeg 0)) ≤ (a0 - a0 / 8 * 8) → Q false M) ∧ (¬ (M.1 c_mo_lands (Int32.toNatClampNeg 0)) ≤ (a0 - a0 / 8 * 8) → (vp_in 1 360 ∧ (∃ bb : Bool, (if (M.1 c_mo_lands (Int32.toNatClampNeg 1)) ≤ (a0 / 8) then (0 : Int32) else 1) = b2i bb ∧ Q bb M)))))
set_option maxHeartbeats 4000000 in
theorem t_Mo_isCell {X : Cx} (hX : Cok X cX12_isCell RX12 2 ((some .boolean)) 1 0 0) {Q : Bool → Mem → Prop} (hq : RI X 0 0 LY (bQ Q)) {M : Mem} {a0 : Int32} (h : w_Mo_isCell a0 M Q) : Wat X 0 0 LY 0 [some (vr c_mo), some (vi a0)] [] M := by
  refine s_iload_n hX dX12_isCell_0 rfl ?_
  refine s_bipush (v := 8) hX dX12_isCell_1 rfl ?_
  refine s_irem hX dX12_isCell_3 (by decide) ?_
  refine s_aload_n hX dX12_isCell_4 rfl ?_
  refine s_getr hX fi_X12_85 ly_c_mo rfl dX12_isCell_5 ?_
  refine s_iconst (v := 0) hX dX12_isCell_8 rfl ?_
  have hi := h.1
  replace h := h.2
  refine s_ialdv (v := (M.1 c_mo_lands (Int32.toNatClampNeg 0))) hX ly_c_mo_lands hi dX12_isCell_9 rfl ?_
  refine s_icmp_ge (tgt := 30) hX dX12_isCell_10 (by decide) (fun c => ?_) (fun c => ?_)
  · replace h := h.1 c
    refine s_iconst (v := 0) hX dX12_isCell_30 rfl ?_
    exact s_zret hX false hq rfl dX12_isCell_31 rfl h
  · replace h := h.2 c
    refine s_iload_n hX dX12_isCell_13 rfl ?_
    refine s_bipush (v := 8) hX dX12_isCell_14 rfl ?_
    refine s_idiv hX dX12_isCell_16 (by decide) ?_
    refine s_aload_n hX dX12_isCell_17 rfl ?_
    refine s_getr hX fi_X12_85 ly_c_mo rfl dX12_isCell_18 ?_
    refine s_iconst (v := 1) hX dX12_isCell_21 rfl ?_
    have hi := h.1
    replace h := h.2
    refine s_ialdv (v := (M.1 c_mo_lands (Int32.toNatClampNeg 1))) hX ly_c_mo_lands hi dX12_isCell_22 rfl ?_
    have hJ : Wat X 0 0 LY 31 [some (vr c_mo), some (vi a0)] [vi (if (M.1 c_mo_lands (Int32.toNatClampNeg 1)) ≤ (a0 / 8) then (0 : Int32) else 1)] M := by
      obtain ⟨bb, hbb, h⟩ := h
      exact s_zret hX bb hq rfl dX12_isCell_31 hbb h
    refine s_icmp_ge (tgt := 30) hX dX12_isCell_23 (by decide) (fun c => ?_) (fun c => ?_)
    · rw [if_pos c] at hJ
      refine s_iconst (v := 0) hX dX12_isCell_30 rfl ?_
      exact hJ
    · rw [if_neg c] at hJ
      refine s_iconst (v := 1) hX dX12_isCell_26 rfl ?_
      refine s_goto (tgt := 31) hX dX12_isCell_27 (by decide) ?_
      exact hJ
theorem c_Mo_isCell {a0 : Int32} {M : Mem} {Q : Bool → Mem → Prop} (h : w_Mo_isCell a0 M Q) : CI yX12_isCell cX12_isCell 2 ((some .boolean)) 1 0 0 LY LY [vr c_mo, vi a0] M (bQ Q) := mk_i rfl wd_co_X12_isCell rfl rfl (Nat.le_of_ble_eq_true rfl) (fun X hX hq => t_Mo_isCell hX hq h)
theorem mv_Mo_isCell : MV yX12_isCell cX12_isCell 2 ((some .boolean)) RX12 1 := ⟨wd_co_X12_isCell, wd_im_X12_isCell, wd_se_X12_isCell, wd_in_X12, by decide +kernel, by decide⟩
def w_Mo_findStand_j64 (R : Int32 → Mem → Prop) (K : Mem → Prop) (l1 : Int32) (l2 : Int32) (l3 : Int32) (M : Mem) (Q : Mem → Prop) : Prop :=
  w_Mo_balanceOf l1 (si M c_mo Mo_bestCell l3) (fun r1042 M1041 => R (l3 + 1) (si M1041 c_mo Mo_bestBalance r1042))
set_option maxHeartbeats 4000000 in
theorem t_Mo_findStand_j64 {X : Cx} (hX : Cok X cX12_findStand RX12 4 none 7 0 0) {Q : Mem → Prop} (hq : RV X 0 0 LY Q) {l1 : Int32} {l2 : Int32} {R : Int32 → Mem → Prop} {K : Mem → Prop} (hR : ∀ (l3 : Int32) (M : Mem), R l3 M → Wat X 0 0 LY 19 [some (vr c_mo), some (vi l1), some (vi l2), some (vi l3)] [] M) (hK : ∀ (M : Mem), K M → Wat X 0 0 LY 84 [some (vr c_mo), some (vi l1), some (vi l2), none] [] M) {l3 : Int32} {M : Mem} (h : w_Mo_findStand_j64 R K l1 l2 l3 M Q) : Wat X 0 0 LY 64 [some (vr c_mo), some (vi l1), some (vi l2), some (vi l3)] [] M := by
  refine s_aload_n hX dX12_findStand_64 rfl ?_
  refine s_iload_n hX dX12_findStand_65 rfl ?_
  refine s_puti hX fi_X12_376 fp_X12 rfl (by decide +kernel) ly_c_mo rfl dX12_findStand_66 ?_
  refine s_aload_n hX dX12_findStand_69 rfl ?_
  refine s_aload_n hX dX12_findStand_70 rfl ?_
  refine s_iload_n hX dX12_findStand_71 rfl ?_
  refine s_cvi (as := [vi l1]) (rest := [vr c_mo]) hX (c_Mo_balanceOf h) mv_Mo_balanceOf wd_ml_X12_367 dX12_findStand_72 ly_c_mo rfl rfl (Nat.le_of_ble_eq_true rfl) rfl (by decide) ⟨Nat.zero_le _, Nat.zero_le _⟩ (fun r1042 M1041 h => ?_)
  refine s_puti hX fi_X12_379 fp_X12 rfl (by decide +kernel) ly_c_mo rfl dX12_findStand_75 ?_
  refine s_iinc (v := (l3 + 1)) (lv' := [some (vr c_mo), some (vi l1), some (vi l2), some (vi (l3 + 1))]) hX dX12_findStand_78 rfl rfl rfl rfl ?_
  refine s_goto (tgt := 19) hX dX12_findStand_81 (by decide) ?_
  exact hR _ _ h
def w_Mo_findStand_L19 (l1 : Int32) (l2 : Int32) (K : Mem → Prop) (Q : Mem → Prop) : Nat → Int32 → Mem → Prop
  | 0, _, _ => False
  | n + 1, l3, M => ((64 ≤ l3 → K M) ∧ (¬ 64 ≤ l3 → w_Mo_isCell l3 M (fun b1039 M1038 => ((b1039 = false → w_Mo_findStand_L19 l1 l2 K Q n (l3 + 1) M1038) ∧ (b1039 = true → (vp_in l1 6 ∧ w_Mo_findOwes 0 (si M1038 c_mo_standing (Int32.toNatClampNeg l1) l3) (fun M1040 => (((M1040.1 c_mo Mo_bestCell) < 0 → w_Mo_findStand_j64 (fun l3 M => w_Mo_findStand_L19 l1 l2 K Q n l3 M) K l1 l2 l3 M1040 Q) ∧ (¬ (M1040.1 c_mo Mo_bestCell) < 0 → w_Mo_balanceOf l1 M1040 (fun r1044 M1043 => ((r1044 ≤ (M1043.1 c_mo Mo_bestBalance) → w_Mo_findStand_L19 l1 l2 K Q n (l3 + 1) M1043) ∧ (¬ r1044 ≤ (M1043.1 c_mo Mo_bestBalance) → w_Mo_findStand_j64 (fun l3 M => w_Mo_findStand_L19 l1 l2 K Q n l3 M) K l1 l2 l3 M1043 Q))))))))))))
set_option maxHeartbeats 4000000 in
theorem t_Mo_findStand_L19 {X : Cx} (hX : Cok X cX12_findStand RX12 4 none 7 0 0) {Q : Mem → Prop} (hq : RV X 0 0 LY Q) {l1 : Int32} {l2 : Int32} {K : Mem → Prop} (hK : ∀ (M : Mem), K M → Wat X 0 0 LY 84 [some (vr c_mo), some (vi l1), some (vi l2), none] [] M) : ∀ (n : Nat) (l3 : Int32) (M : Mem), w_Mo_findStand_L19 l1 l2 K Q n l3 M → Wat X 0 0 LY 19 [some (vr c_mo), some (vi l1), some (vi l2), some (vi l3)] [] M := by
  intro n
  induction n with
  | zero => intro _ _ h; exact h.elim
  | succ n ih =>
    intro l3 M h
    refine s_iload_n hX dX12_findStand_19 rfl ?_
    refine s_bipush (v := 64) hX dX12_findStand_20 rfl ?_
    refine s_icmp_ge (tgt := 84) hX dX12_findStand_22 (by decide) (fun c => ?_) (fun c => ?_)
    · replace h := h.1 c
      refine s_mask [true, true, true, false] (lv' := [some (vr c_mo), some (vi l1), some (vi l2), none]) rfl rfl ?_
      exact hK _ h
    · replace h := h.2 c
      refine s_aload_n hX dX12_findStand_25 rfl ?_
      refine s_iload_n hX dX12_findStand_26 rfl ?_
      refine s_cvi (as := [vi l3]) (rest := []) hX (c_Mo_isCell h) mv_Mo_isCell wd_ml_X12_382 dX12_findStand_27 ly_c_mo rfl rfl (Nat.le_of_ble_eq_true rfl) rfl (by decide) ⟨Nat.zero_le _, Nat.zero_le _⟩ (fun b1039_ M1038 h => ?_)
      obtain ⟨b1039, rfl, h⟩ := h
      refine s_if_eq (tgt := 78) hX dX12_findStand_30 (by decide) (fun c => ?_) (fun c => ?_)
      · replace h := h.1 (b2i_0 c)
        refine s_iinc (v := (l3 + 1)) (lv' := [some (vr c_mo), some (vi l1), some (vi l2), some (vi (l3 + 1))]) hX dX12_findStand_78 rfl rfl rfl rfl ?_
        refine s_goto (tgt := 19) hX dX12_findStand_81 (by decide) ?_
        exact ih _ _ h
      · replace h := h.2 (b2i_1 c)
        refine s_aload_n hX dX12_findStand_33 rfl ?_
        refine s_getr hX fi_X12_122 ly_c_mo rfl dX12_findStand_34 ?_
        refine s_iload_n hX dX12_findStand_37 rfl ?_
        refine s_iload_n hX dX12_findStand_38 rfl ?_
        have hi := h.1
        replace h := h.2
        refine s_iast hX ly_c_mo_standing hi dX12_findStand_39 ?_
        refine s_aload_n hX dX12_findStand_40 rfl ?_
        refine s_iconst (v := 0) hX dX12_findStand_41 rfl ?_
        refine s_cvv (as := [vi 0]) (rest := []) hX (c_Mo_findOwes h) mv_Mo_findOwes wd_ml_X12_364 dX12_findStand_42 ly_c_mo rfl rfl (Nat.le_of_ble_eq_true rfl) rfl (by decide) ⟨Nat.zero_le _, Nat.zero_le _⟩ (fun M1040 h => ?_)
        refine s_aload_n hX dX12_findStand_45 rfl ?_
        refine s_getiv (v := (M1040.1 c_mo Mo_bestCell)) hX fi_X12_376 ly_c_mo rfl dX12_findStand_46 rfl ?_
        refine s_if_lt (tgt := 64) hX dX12_findStand_49 (by decide) (fun c => ?_) (fun c => ?_)
        · replace h := h.1 c
          exact t_Mo_findStand_j64 hX hq (fun _ _ h => ih _ _ h) hK h
        · replace h := h.2 c
          refine s_aload_n hX dX12_findStand_52 rfl ?_
          refine s_iload_n hX dX12_findStand_53 rfl ?_
          refine s_cvi (as := [vi l1]) (rest := []) hX (c_Mo_balanceOf h) mv_Mo_balanceOf wd_ml_X12_367 dX12_findStand_54 ly_c_mo rfl rfl (Nat.le_of_ble_eq_true rfl) rfl (by decide) ⟨Nat.zero_le _, Nat.zero_le _⟩ (fun r1044 M1043 h => ?_)
          refine s_aload_n hX dX12_findStand_57 rfl ?_
          refine s_getiv (v := (M1043.1 c_mo Mo_bestBalance)) hX fi_X12_379 ly_c_mo rfl dX12_findStand_58 rfl ?_
          refine s_icmp_le (tgt := 78) hX dX12_findStand_61 (by decide) (fun c => ?_) (fun c => ?_)
          · replace h := h.1 c
            refine s_iinc (v := (l3 + 1)) (lv' := [some (vr c_mo), some (vi l1), some (vi l2), some (vi (l3 + 1))]) hX dX12_findStand_78 rfl rfl rfl rfl ?_
            refine s_goto (tgt := 19) hX dX12_findStand_81 (by decide) ?_
            exact ih _ _ h
          · replace h := h.2 c
            exact t_Mo_findStand_j64 hX hq (fun _ _ h => ih _ _ h) hK h
def w_Mo_findStand (a0 : Int32) (M : Mem) (Q : Mem → Prop) : Prop :=
  (vp_in a0 6 ∧ ∀ x1037 : Int32, x1037 = (M.1 c_mo_standing (Int32.toNatClampNeg a0)) → (∃ n1046, w_Mo_findStand_L19 a0 x1037 (fun M1045 => (vp_in a0 6 ∧ Q (si M1045 c_mo_standing (Int32.toNatClampNeg a0) x1037))) Q n1046 0 (si (si M c_mo Mo_bestCell (-1)) c_mo Mo_bestBalance 0)))
set_option maxHeartbeats 4000000 in
theorem t_Mo_findStand {X : Cx} (hX : Cok X cX12_findStand RX12 4 none 7 0 0) {Q : Mem → Prop} (hq : RV X 0 0 LY Q) {M : Mem} {a0 : Int32} (h : w_Mo_findStand a0 M Q) : Wat X 0 0 LY 0 [some (vr c_mo), some (vi a0), none, none] [] M := by
  refine s_aload_n hX dX12_findStand_0 rfl ?_
  refine s_getr hX fi_X12_122 ly_c_mo rfl dX12_findStand_1 ?_
  refine s_iload_n hX dX12_findStand_4 rfl ?_
  have hi := h.1
  replace h := h.2
  refine s_ialdv (v := (M.1 c_mo_standing (Int32.toNatClampNeg a0))) hX ly_c_mo_standing hi dX12_findStand_5 rfl ?_
  refine s_nmi (fun x1037 ex1037 => ?_)
  replace h := h x1037 ex1037
  refine s_istore_n (lv' := [some (vr c_mo), some (vi a0), some (vi x1037), none]) hX dX12_findStand_6 rfl rfl (Nat.le_of_ble_eq_true rfl) ?_
  refine s_aload_n hX dX12_findStand_7 rfl ?_
  refine s_iconst (v := (-1)) hX dX12_findStand_8 rfl ?_
  refine s_puti hX fi_X12_376 fp_X12 rfl (by decide +kernel) ly_c_mo rfl dX12_findStand_9 ?_
  refine s_aload_n hX dX12_findStand_12 rfl ?_
  refine s_iconst (v := 0) hX dX12_findStand_13 rfl ?_
  refine s_puti hX fi_X12_379 fp_X12 rfl (by decide +kernel) ly_c_mo rfl dX12_findStand_14 ?_
  refine s_iconst (v := 0) hX dX12_findStand_17 rfl ?_
  refine s_istore_n (lv' := [some (vr c_mo), some (vi a0), some (vi x1037), some (vi 0)]) hX dX12_findStand_18 rfl rfl (Nat.le_of_ble_eq_true rfl) ?_
  obtain ⟨n1046, h⟩ := h
  refine t_Mo_findStand_L19 hX hq ?_ n1046 _ _ h
  intro M1045 h
  refine s_aload_n hX dX12_findStand_84 rfl ?_
  refine s_getr hX fi_X12_122 ly_c_mo rfl dX12_findStand_85 ?_
  refine s_iload_n hX dX12_findStand_88 rfl ?_
  refine s_iload_n hX dX12_findStand_89 rfl ?_
  have hi := h.1
  replace h := h.2
  refine s_iast hX ly_c_mo_standing hi dX12_findStand_90 ?_
  exact s_vret hX hq rfl dX12_findStand_91 h
theorem c_Mo_findStand {a0 : Int32} {M : Mem} {Q : Mem → Prop} (h : w_Mo_findStand a0 M Q) : CV yX12_findStand cX12_findStand 4 none 7 0 0 LY LY [vr c_mo, vi a0] M Q := mk_v rfl wd_co_X12_findStand rfl rfl (Nat.le_of_ble_eq_true rfl) (fun X hX hq => t_Mo_findStand hX hq h)
theorem mv_Mo_findStand : MV yX12_findStand cX12_findStand 4 none RX12 1 := ⟨wd_co_X12_findStand, wd_im_X12_findStand, wd_se_X12_findStand, wd_in_X12, by decide +kernel, by decide⟩
def w_Mo_areHours (a0 : Int32) (a1 : Int32) (M : Mem) (Q : Bool → Mem → Prop) : Prop :=
  w_Mo_isHour a0 M (fun b1049 M1048 => ((b1049 = false → Q false M1048) ∧ (b1049 = true → w_Mo_isHour a1 M1048 (fun b1051 M1050 => ((b1051 = false → Q false M1050) ∧ (b1051 = true → (∃ bb : Bool, (if a1 < a0 then (0 : Int32) else 1) = b2i bb ∧ Q bb M1050)))))))
set_option maxHeartbeats 4000000 in
theorem t_Mo_areHours {X : Cx} (hX : Cok X cX12_areHours RX12 2 ((some .boolean)) 2 0 0) {Q : Bool → Mem → Prop} (hq : RI X 0 0 LY (bQ Q)) {M : Mem} {a0 : Int32} {a1 : Int32} (h : w_Mo_areHours a0 a1 M Q) : Wat X 0 0 LY 0 [some (vi a0), some (vi a1)] [] M := by
  refine s_iload_n hX dX12_areHours_0 rfl ?_
  refine s_csi (as := [vi a0]) (rest := []) hX (c_Mo_isHour h) ms_Mo_isHour wd_ml_X12_358 dX12_areHours_1 rfl (Nat.le_of_ble_eq_true rfl) rfl (by decide) ⟨Nat.zero_le _, Nat.zero_le _⟩ (fun b1049_ M1048 h => ?_)
  obtain ⟨b1049, rfl, h⟩ := h
  refine s_if_eq (tgt := 23) hX dX12_areHours_4 (by decide) (fun c => ?_) (fun c => ?_)
  · replace h := h.1 (b2i_0 c)
    refine s_iconst (v := 0) hX dX12_areHours_23 rfl ?_
    exact s_zret hX false hq rfl dX12_areHours_24 rfl h
  · replace h := h.2 (b2i_1 c)
    refine s_iload_n hX dX12_areHours_7 rfl ?_
    refine s_csi (as := [vi a1]) (rest := []) hX (c_Mo_isHour h) ms_Mo_isHour wd_ml_X12_358 dX12_areHours_8 rfl (Nat.le_of_ble_eq_true rfl) rfl (by decide) ⟨Nat.zero_le _, Nat.zero_le _⟩ (fun b1051_ M1050 h => ?_)
    obtain ⟨b1051, rfl, h⟩ := h
    refine s_if_eq (tgt := 23) hX dX12_areHours_11 (by decide) (fun c => ?_) (fun c => ?_)
    · replace h := h.1 (b2i_0 c)
      refine s_iconst (v := 0) hX dX12_areHours_23 rfl ?_
      exact s_zret hX false hq rfl dX12_areHours_24 rfl h
    · replace h := h.2 (b2i_1 c)
      refine s_iload_n hX dX12_areHours_14 rfl ?_
      refine s_iload_n hX dX12_areHours_15 rfl ?_
      have hJ : Wat X 0 0 LY 24 [some (vi a0), some (vi a1)] [vi (if a1 < a0 then (0 : Int32) else 1)] M1050 := by
        obtain ⟨bb, hbb, h⟩ := h
        exact s_zret hX bb hq rfl dX12_areHours_24 hbb h
      refine s_icmp_gt (tgt := 23) hX dX12_areHours_16 (by decide) (fun c => ?_) (fun c => ?_)
      · rw [if_pos c] at hJ
        refine s_iconst (v := 0) hX dX12_areHours_23 rfl ?_
        exact hJ
      · rw [if_neg c] at hJ
        refine s_iconst (v := 1) hX dX12_areHours_19 rfl ?_
        refine s_goto (tgt := 24) hX dX12_areHours_20 (by decide) ?_
        exact hJ
theorem c_Mo_areHours {a0 : Int32} {a1 : Int32} {M : Mem} {Q : Bool → Mem → Prop} (h : w_Mo_areHours a0 a1 M Q) : CI yX12_areHours cX12_areHours 2 ((some .boolean)) 2 0 0 LY LY [vi a0, vi a1] M (bQ Q) := mk_i rfl wd_co_X12_areHours rfl rfl (Nat.le_of_ble_eq_true rfl) (fun X hX hq => t_Mo_areHours hX hq h)
theorem ms_Mo_areHours : MS yX12_areHours cX12_areHours 2 ((some .boolean)) 2 := ⟨wd_co_X12_areHours, wd_sm_X12_areHours, wd_in_X12, by decide +kernel, by decide⟩
def w_Mo_stand_j32 (l1 : Int32) (l2 : Int32) (l3 : Int32) (l4 : Int32) (s1 : Int32) (M : Mem) (Q : Int32 → Mem → Prop) : Prop :=
  ((s1 ≤ 0 → w_Mo_standsIn l2 l3 (si M c_mo Mo_thrown s1) (fun M1036 => w_Mo_findStand l1 M1036 (fun M1047 => Q (if l4 = 0 then (M1047.1 c_mo Mo_bestCell) else (M1047.1 c_mo Mo_bestBalance)) M1047))) ∧ (¬ s1 ≤ 0 → Q 0 (si M c_mo Mo_thrown s1)))
set_option maxHeartbeats 4000000 in
theorem t_Mo_stand_j32 {X : Cx} (hX : Cok X cX12_stand RX12 5 ((some .int)) 8 0 0) {Q : Int32 → Mem → Prop} (hq : RI X 0 0 LY Q) {l1 : Int32} {l2 : Int32} {l3 : Int32} {l4 : Int32} {s1 : Int32} {M : Mem} (h : w_Mo_stand_j32 l1 l2 l3 l4 s1 M Q) : Wat X 0 0 LY 32 [some (vr c_mo), some (vi l1), some (vi l2), some (vi l3), some (vi l4)] [vi s1, vr c_mo] M := by
  refine s_puti hX fi_X12_1 fp_X12 rfl (by decide +kernel) ly_c_mo rfl dX12_stand_32 ?_
  refine s_aload_n hX dX12_stand_35 rfl ?_
  refine s_getiv (v := s1) hX fi_X12_1 ly_c_mo rfl dX12_stand_36 rfl ?_
  refine s_if_le (tgt := 44) hX dX12_stand_39 (by decide) (fun c => ?_) (fun c => ?_)
  · replace h := h.1 c
    refine s_aload_n hX dX12_stand_44 rfl ?_
    refine s_iload_n hX dX12_stand_45 rfl ?_
    refine s_iload_n hX dX12_stand_46 rfl ?_
    refine s_cvv (as := [vi l2, vi l3]) (rest := []) hX (c_Mo_standsIn h) mv_Mo_standsIn wd_ml_X12_389 dX12_stand_47 ly_c_mo rfl rfl (Nat.le_of_ble_eq_true rfl) rfl (by decide) ⟨Nat.zero_le _, Nat.zero_le _⟩ (fun M1036 h => ?_)
    refine s_aload_n hX dX12_stand_50 rfl ?_
    refine s_iload_n hX dX12_stand_51 rfl ?_
    refine s_cvv (as := [vi l1]) (rest := []) hX (c_Mo_findStand h) mv_Mo_findStand wd_ml_X12_392 dX12_stand_52 ly_c_mo rfl rfl (Nat.le_of_ble_eq_true rfl) rfl (by decide) ⟨Nat.zero_le _, Nat.zero_le _⟩ (fun M1047 h => ?_)
    refine s_iload hX dX12_stand_55 rfl ?_
    have hJ : Wat X 0 0 LY 71 [some (vr c_mo), some (vi l1), some (vi l2), some (vi l3), some (vi l4)] [vi (if l4 = 0 then (M1047.1 c_mo Mo_bestCell) else (M1047.1 c_mo Mo_bestBalance))] M1047 := by
      exact s_iret hX hq rfl dX12_stand_71 h
    refine s_if_ne (tgt := 67) hX dX12_stand_57 (by decide) (fun c => ?_) (fun c => ?_)
    · rw [if_neg c] at hJ
      refine s_aload_n hX dX12_stand_67 rfl ?_
      refine s_getiv (v := (M1047.1 c_mo Mo_bestBalance)) hX fi_X12_379 ly_c_mo rfl dX12_stand_68 rfl ?_
      exact hJ
    · rw [if_pos c] at hJ
      refine s_aload_n hX dX12_stand_60 rfl ?_
      refine s_getiv (v := (M1047.1 c_mo Mo_bestCell)) hX fi_X12_376 ly_c_mo rfl dX12_stand_61 rfl ?_
      refine s_goto (tgt := 71) hX dX12_stand_64 (by decide) ?_
      exact hJ
  · replace h := h.2 c
    refine s_iconst (v := 0) hX dX12_stand_42 rfl ?_
    exact s_iret hX hq rfl dX12_stand_43 h
def w_Mo_stand_j31 (l1 : Int32) (l2 : Int32) (l3 : Int32) (l4 : Int32) (M : Mem) (Q : Int32 → Mem → Prop) : Prop :=
  w_Mo_stand_j32 l1 l2 l3 l4 1 M Q
set_option maxHeartbeats 4000000 in
theorem t_Mo_stand_j31 {X : Cx} (hX : Cok X cX12_stand RX12 5 ((some .int)) 8 0 0) {Q : Int32 → Mem → Prop} (hq : RI X 0 0 LY Q) {l1 : Int32} {l2 : Int32} {l3 : Int32} {l4 : Int32} {M : Mem} (h : w_Mo_stand_j31 l1 l2 l3 l4 M Q) : Wat X 0 0 LY 31 [some (vr c_mo), some (vi l1), some (vi l2), some (vi l3), some (vi l4)] [vr c_mo] M := by
  refine s_iconst (v := 1) hX dX12_stand_31 rfl ?_
  exact t_Mo_stand_j32 hX hq h
def w_Mo_stand (a0 : Int32) (a1 : Int32) (a2 : Int32) (a3 : Int32) (M : Mem) (Q : Int32 → Mem → Prop) : Prop :=
  w_Mo_isPerson a0 M (fun b1034 M1033 => ((b1034 = false → w_Mo_stand_j31 a0 a1 a2 a3 M1033 Q) ∧ (b1034 = true → w_Mo_areHours a1 a2 M1033 (fun b1053 M1052 => ((b1053 = false → w_Mo_stand_j31 a0 a1 a2 a3 M1052 Q) ∧ (b1053 = true → w_Mo_within a3 0 1 M1052 (fun b1055 M1054 => w_Mo_stand_j32 a0 a1 a2 a3 (if b1055 = true then (0 : Int32) else 1) M1054 Q)))))))
set_option maxHeartbeats 4000000 in
theorem t_Mo_stand {X : Cx} (hX : Cok X cX12_stand RX12 5 ((some .int)) 8 0 0) {Q : Int32 → Mem → Prop} (hq : RI X 0 0 LY Q) {M : Mem} {a0 : Int32} {a1 : Int32} {a2 : Int32} {a3 : Int32} (h : w_Mo_stand a0 a1 a2 a3 M Q) : Wat X 0 0 LY 0 [some (vr c_mo), some (vi a0), some (vi a1), some (vi a2), some (vi a3)] [] M := by
  refine s_aload_n hX dX12_stand_0 rfl ?_
  refine s_aload_n hX dX12_stand_1 rfl ?_
  refine s_iload_n hX dX12_stand_2 rfl ?_
  refine s_cvi (as := [vi a0]) (rest := [vr c_mo]) hX (c_Mo_isPerson h) mv_Mo_isPerson wd_ml_X12_352 dX12_stand_3 ly_c_mo rfl rfl (Nat.le_of_ble_eq_true rfl) rfl (by decide) ⟨Nat.zero_le _, Nat.zero_le _⟩ (fun b1034_ M1033 h => ?_)
  obtain ⟨b1034, rfl, h⟩ := h
  refine s_if_eq (tgt := 31) hX dX12_stand_6 (by decide) (fun c => ?_) (fun c => ?_)
  · replace h := h.1 (b2i_0 c)
    exact t_Mo_stand_j31 hX hq h
  · replace h := h.2 (b2i_1 c)
    refine s_iload_n hX dX12_stand_9 rfl ?_
    refine s_iload_n hX dX12_stand_10 rfl ?_
    refine s_csi (as := [vi a1, vi a2]) (rest := [vr c_mo]) hX (c_Mo_areHours h) ms_Mo_areHours wd_ml_X12_385 dX12_stand_11 rfl (Nat.le_of_ble_eq_true rfl) rfl (by decide) ⟨Nat.zero_le _, Nat.zero_le _⟩ (fun b1053_ M1052 h => ?_)
    obtain ⟨b1053, rfl, h⟩ := h
    refine s_if_eq (tgt := 31) hX dX12_stand_14 (by decide) (fun c => ?_) (fun c => ?_)
    · replace h := h.1 (b2i_0 c)
      exact t_Mo_stand_j31 hX hq h
    · replace h := h.2 (b2i_1 c)
      refine s_iload hX dX12_stand_17 rfl ?_
      refine s_iconst (v := 0) hX dX12_stand_19 rfl ?_
      refine s_iconst (v := 1) hX dX12_stand_20 rfl ?_
      refine s_csi (as := [vi a3, vi 0, vi 1]) (rest := [vr c_mo]) hX (c_Mo_within h) ms_Mo_within wd_ml_X12_355 dX12_stand_21 rfl (Nat.le_of_ble_eq_true rfl) rfl (by decide) ⟨Nat.zero_le _, Nat.zero_le _⟩ (fun b1055_ M1054 h => ?_)
      obtain ⟨b1055, rfl, h⟩ := h
      have hJ : Wat X 0 0 LY 32 [some (vr c_mo), some (vi a0), some (vi a1), some (vi a2), some (vi a3)] [vi (if b1055 = true then (0 : Int32) else 1), vr c_mo] M1054 := by
        exact t_Mo_stand_j32 hX hq h
      refine s_if_eq (tgt := 31) hX dX12_stand_24 (by decide) (fun c => ?_) (fun c => ?_)
      · rw [if_neg (by simp [b2i_0 c])] at hJ
        refine s_iconst (v := 1) hX dX12_stand_31 rfl ?_
        exact hJ
      · rw [if_pos (by simp [b2i_1 c])] at hJ
        refine s_iconst (v := 0) hX dX12_stand_27 rfl ?_
        refine s_goto (tgt := 32) hX dX12_stand_28 (by decide) ?_
        exact hJ
theorem c_Mo_stand {a0 : Int32} {a1 : Int32} {a2 : Int32} {a3 : Int32} {M : Mem} {Q : Int32 → Mem → Prop} (h : w_Mo_stand a0 a1 a2 a3 M Q) : CI yX12_stand cX12_stand 5 ((some .int)) 8 0 0 LY LY [vr c_mo, vi a0, vi a1, vi a2, vi a3] M Q := mk_i rfl wd_co_X12_stand rfl rfl (Nat.le_of_ble_eq_true rfl) (fun X hX hq => t_Mo_stand hX hq h)
theorem mv_Mo_stand : MV yX12_stand cX12_stand 5 ((some .int)) RX12 4 := ⟨wd_co_X12_stand, wd_im_X12_stand, wd_se_X12_stand, wd_in_X12, by decide +kernel, by decide⟩
def w_Mo_writes_L2 (l1 : Int32) (K : Mem → Prop) (Q : Mem → Prop) : Nat → Int32 → Mem → Prop
  | 0, _, _ => False
  | n + 1, l2, M => ((6 ≤ l2 → K M) ∧ (¬ 6 ≤ l2 → (vp_in l2 6 ∧ (vp_in ((6 * l1) + l2) 306 ∧ w_Mo_writes_L2 l1 K Q n (l2 + 1) (si M c_mo_rows (Int32.toNatClampNeg ((6 * l1) + l2)) (M.1 c_mo_standing (Int32.toNatClampNeg l2)))))))
set_option maxHeartbeats 4000000 in
theorem t_Mo_writes_L2 {X : Cx} (hX : Cok X cX12_writes RX12 3 none 1 0 0) {Q : Mem → Prop} (hq : RV X 0 0 LY Q) {l1 : Int32} {K : Mem → Prop} (hK : ∀ (M : Mem), K M → Wat X 0 0 LY 31 [none, none, none] [] M) : ∀ (n : Nat) (l2 : Int32) (M : Mem), w_Mo_writes_L2 l1 K Q n l2 M → Wat X 0 0 LY 2 [some (vr c_mo), some (vi l1), some (vi l2)] [] M := by
  intro n
  induction n with
  | zero => intro _ _ h; exact h.elim
  | succ n ih =>
    intro l2 M h
    refine s_iload_n hX dX12_writes_2 rfl ?_
    refine s_bipush (v := 6) hX dX12_writes_3 rfl ?_
    refine s_icmp_ge (tgt := 31) hX dX12_writes_5 (by decide) (fun c => ?_) (fun c => ?_)
    · replace h := h.1 c
      refine s_mask [false, false, false] (lv' := [none, none, none]) rfl rfl ?_
      exact hK _ h
    · replace h := h.2 c
      refine s_aload_n hX dX12_writes_8 rfl ?_
      refine s_getr hX fi_X12_134 ly_c_mo rfl dX12_writes_9 ?_
      refine s_bipush (v := 6) hX dX12_writes_12 rfl ?_
      refine s_iload_n hX dX12_writes_14 rfl ?_
      refine s_imul hX dX12_writes_15 ?_
      refine s_iload_n hX dX12_writes_16 rfl ?_
      refine s_iadd hX dX12_writes_17 ?_
      refine s_aload_n hX dX12_writes_18 rfl ?_
      refine s_getr hX fi_X12_122 ly_c_mo rfl dX12_writes_19 ?_
      refine s_iload_n hX dX12_writes_22 rfl ?_
      have hi := h.1
      replace h := h.2
      refine s_ialdv (v := (M.1 c_mo_standing (Int32.toNatClampNeg l2))) hX ly_c_mo_standing hi dX12_writes_23 rfl ?_
      have hi := h.1
      replace h := h.2
      refine s_iast hX ly_c_mo_rows hi dX12_writes_24 ?_
      refine s_iinc (v := (l2 + 1)) (lv' := [some (vr c_mo), some (vi l1), some (vi (l2 + 1))]) hX dX12_writes_25 rfl rfl rfl rfl ?_
      refine s_goto (tgt := 2) hX dX12_writes_28 (by decide) ?_
      exact ih _ _ h
def w_Mo_writes (a0 : Int32) (M : Mem) (Q : Mem → Prop) : Prop :=
  (∃ n1072, w_Mo_writes_L2 a0 (fun M1071 => Q M1071) Q n1072 0 M)
set_option maxHeartbeats 4000000 in
theorem t_Mo_writes {X : Cx} (hX : Cok X cX12_writes RX12 3 none 1 0 0) {Q : Mem → Prop} (hq : RV X 0 0 LY Q) {M : Mem} {a0 : Int32} (h : w_Mo_writes a0 M Q) : Wat X 0 0 LY 0 [some (vr c_mo), some (vi a0), none] [] M := by
  refine s_iconst (v := 0) hX dX12_writes_0 rfl ?_
  refine s_istore_n (lv' := [some (vr c_mo), some (vi a0), some (vi 0)]) hX dX12_writes_1 rfl rfl (Nat.le_of_ble_eq_true rfl) ?_
  obtain ⟨n1072, h⟩ := h
  refine t_Mo_writes_L2 hX hq ?_ n1072 _ _ h
  intro M1071 h
  exact s_vret hX hq rfl dX12_writes_31 h
theorem c_Mo_writes {a0 : Int32} {M : Mem} {Q : Mem → Prop} (h : w_Mo_writes a0 M Q) : CV yX12_writes cX12_writes 3 none 1 0 0 LY LY [vr c_mo, vi a0] M Q := mk_v rfl wd_co_X12_writes rfl rfl (Nat.le_of_ble_eq_true rfl) (fun X hX hq => t_Mo_writes hX hq h)
theorem mv_Mo_writes : MV yX12_writes cX12_writes 3 none RX12 1 := ⟨wd_co_X12_writes, wd_im_X12_writes, wd_se_X12_writes, wd_in_X12, by decide +kernel, by decide⟩
def w_Mo_wasSo_L15 (l1 : Int32) (l2 : Int32) (l3 : Int32) (K : Int32 → Mem → Prop) (Q : Bool → Mem → Prop) : Nat → Int32 → Int32 → Mem → Prop
  | 0, _, _, _ => False
  | n + 1, l4, l5, M => w_Mo_persons M (fun r1083 M1082 => ((r1083 ≤ l5 → K l4 M1082) ∧ (¬ r1083 ≤ l5 → ((l4 = 0 → w_Mo_wasSo_L15 l1 l2 l3 K Q n 0 (l5 + 1) M1082) ∧ (¬ l4 = 0 → (vp_in ((6 * l3) + l5) 306 ∧ (vp_in l5 6 ∧ ∀ x1084 : Int32, x1084 = (if (M1082.1 c_mo_rows (Int32.toNatClampNeg ((6 * l3) + l5))) = (M1082.1 c_mo_standing (Int32.toNatClampNeg l5)) then (1 : Int32) else 0) → w_Mo_wasSo_L15 l1 l2 l3 K Q n x1084 (l5 + 1) M1082)))))))
set_option maxHeartbeats 4000000 in
theorem t_Mo_wasSo_L15 {X : Cx} (hX : Cok X cX12_wasSo RX12 6 ((some .boolean)) 2 0 0) {Q : Bool → Mem → Prop} (hq : RI X 0 0 LY (bQ Q)) {l1 : Int32} {l2 : Int32} {l3 : Int32} {K : Int32 → Mem → Prop} (hK : ∀ (l4 : Int32) (M : Mem), K l4 M → Wat X 0 0 LY 64 [some (vr c_mo), some (vi l1), some (vi l2), some (vi l3), some (vi l4), none] [] M) : ∀ (n : Nat) (l4 : Int32) (l5 : Int32) (M : Mem), w_Mo_wasSo_L15 l1 l2 l3 K Q n l4 l5 M → Wat X 0 0 LY 15 [some (vr c_mo), some (vi l1), some (vi l2), some (vi l3), some (vi l4), some (vi l5)] [] M := by
  intro n
  induction n with
  | zero => intro _ _ _ h; exact h.elim
  | succ n ih =>
    intro l4 l5 M h
    refine s_iload hX dX12_wasSo_15 rfl ?_
    refine s_aload_n hX dX12_wasSo_17 rfl ?_
    refine s_cvi (as := []) (rest := [vi l5]) hX (c_Mo_persons h) mv_Mo_persons wd_ml_X12_226 dX12_wasSo_18 ly_c_mo rfl rfl (Nat.le_of_ble_eq_true rfl) rfl (by decide) ⟨Nat.zero_le _, Nat.zero_le _⟩ (fun r1083 M1082 h => ?_)
    refine s_icmp_ge (tgt := 64) hX dX12_wasSo_21 (by decide) (fun c => ?_) (fun c => ?_)
    · replace h := h.1 c
      refine s_mask [true, true, true, true, true, false] (lv' := [some (vr c_mo), some (vi l1), some (vi l2), some (vi l3), some (vi l4), none]) rfl rfl ?_
      exact hK _ _ h
    · replace h := h.2 c
      refine s_iload hX dX12_wasSo_24 rfl ?_
      refine s_if_eq (tgt := 55) hX dX12_wasSo_26 (by decide) (fun c => ?_) (fun c => ?_)
      · replace h := h.1 c
        refine s_iconst (v := 0) hX dX12_wasSo_55 rfl ?_
        refine s_istore (lv' := [some (vr c_mo), some (vi l1), some (vi l2), some (vi l3), some (vi 0), some (vi l5)]) hX dX12_wasSo_56 rfl rfl (Nat.le_of_ble_eq_true rfl) ?_
        refine s_iinc (v := (l5 + 1)) (lv' := [some (vr c_mo), some (vi l1), some (vi l2), some (vi l3), some (vi 0), some (vi (l5 + 1))]) hX dX12_wasSo_58 rfl rfl rfl rfl ?_
        refine s_goto (tgt := 15) hX dX12_wasSo_61 (by decide) ?_
        exact ih _ _ _ h
      · replace h := h.2 c
        refine s_aload_n hX dX12_wasSo_29 rfl ?_
        refine s_getr hX fi_X12_134 ly_c_mo rfl dX12_wasSo_30 ?_
        refine s_bipush (v := 6) hX dX12_wasSo_33 rfl ?_
        refine s_iload_n hX dX12_wasSo_35 rfl ?_
        refine s_imul hX dX12_wasSo_36 ?_
        refine s_iload hX dX12_wasSo_37 rfl ?_
        refine s_iadd hX dX12_wasSo_39 ?_
        have hi := h.1
        replace h := h.2
        refine s_ialdv (v := (M1082.1 c_mo_rows (Int32.toNatClampNeg ((6 * l3) + l5)))) hX ly_c_mo_rows hi dX12_wasSo_40 rfl ?_
        refine s_aload_n hX dX12_wasSo_41 rfl ?_
        refine s_getr hX fi_X12_122 ly_c_mo rfl dX12_wasSo_42 ?_
        refine s_iload hX dX12_wasSo_45 rfl ?_
        have hi := h.1
        replace h := h.2
        refine s_ialdv (v := (M1082.1 c_mo_standing (Int32.toNatClampNeg l5))) hX ly_c_mo_standing hi dX12_wasSo_47 rfl ?_
        have hJ : Wat X 0 0 LY 56 [some (vr c_mo), some (vi l1), some (vi l2), some (vi l3), some (vi l4), some (vi l5)] [vi (if (M1082.1 c_mo_rows (Int32.toNatClampNeg ((6 * l3) + l5))) = (M1082.1 c_mo_standing (Int32.toNatClampNeg l5)) then (1 : Int32) else 0)] M1082 := by
          refine s_nmi (fun x1084 ex1084 => ?_)
          replace h := h x1084 ex1084
          refine s_istore (lv' := [some (vr c_mo), some (vi l1), some (vi l2), some (vi l3), some (vi x1084), some (vi l5)]) hX dX12_wasSo_56 rfl rfl (Nat.le_of_ble_eq_true rfl) ?_
          refine s_iinc (v := (l5 + 1)) (lv' := [some (vr c_mo), some (vi l1), some (vi l2), some (vi l3), some (vi x1084), some (vi (l5 + 1))]) hX dX12_wasSo_58 rfl rfl rfl rfl ?_
          refine s_goto (tgt := 15) hX dX12_wasSo_61 (by decide) ?_
          exact ih _ _ _ h
        refine s_icmp_ne (tgt := 55) hX dX12_wasSo_48 (by decide) (fun c => ?_) (fun c => ?_)
        · rw [if_neg c] at hJ
          refine s_iconst (v := 0) hX dX12_wasSo_55 rfl ?_
          exact hJ
        · rw [if_pos c] at hJ
          refine s_iconst (v := 1) hX dX12_wasSo_51 rfl ?_
          refine s_goto (tgt := 56) hX dX12_wasSo_52 (by decide) ?_
          exact hJ
def w_Mo_wasSo_L4 (l1 : Int32) (K : Int32 → Mem → Prop) (Q : Bool → Mem → Prop) : Nat → Int32 → Int32 → Mem → Prop
  | 0, _, _, _ => False
  | n + 1, l2, l3, M => ((l1 ≤ l3 → K l2 M) ∧ (¬ l1 ≤ l3 → (∃ n1088, w_Mo_wasSo_L15 l1 l2 l3 (fun y1086 M1085 => ((¬ l2 = 0 → w_Mo_wasSo_L4 l1 K Q n 1 (l3 + 1) M1085) ∧ (l2 = 0 → ∀ x1087 : Int32, x1087 = (if y1086 = 0 then (0 : Int32) else 1) → w_Mo_wasSo_L4 l1 K Q n x1087 (l3 + 1) M1085))) Q n1088 1 0 M)))
set_option maxHeartbeats 4000000 in
theorem t_Mo_wasSo_L4 {X : Cx} (hX : Cok X cX12_wasSo RX12 6 ((some .boolean)) 2 0 0) {Q : Bool → Mem → Prop} (hq : RI X 0 0 LY (bQ Q)) {l1 : Int32} {K : Int32 → Mem → Prop} (hK : ∀ (l2 : Int32) (M : Mem), K l2 M → Wat X 0 0 LY 85 [none, none, some (vi l2), none, none, none] [] M) : ∀ (n : Nat) (l2 : Int32) (l3 : Int32) (M : Mem), w_Mo_wasSo_L4 l1 K Q n l2 l3 M → Wat X 0 0 LY 4 [some (vr c_mo), some (vi l1), some (vi l2), some (vi l3), none, none] [] M := by
  intro n
  induction n with
  | zero => intro _ _ _ h; exact h.elim
  | succ n ih =>
    intro l2 l3 M h
    refine s_iload_n hX dX12_wasSo_4 rfl ?_
    refine s_iload_n hX dX12_wasSo_5 rfl ?_
    refine s_icmp_ge (tgt := 85) hX dX12_wasSo_6 (by decide) (fun c => ?_) (fun c => ?_)
    · replace h := h.1 c
      refine s_mask [false, false, true, false, true, true] (lv' := [none, none, some (vi l2), none, none, none]) rfl rfl ?_
      exact hK _ _ h
    · replace h := h.2 c
      refine s_iconst (v := 1) hX dX12_wasSo_9 rfl ?_
      refine s_istore (lv' := [some (vr c_mo), some (vi l1), some (vi l2), some (vi l3), some (vi 1), none]) hX dX12_wasSo_10 rfl rfl (Nat.le_of_ble_eq_true rfl) ?_
      refine s_iconst (v := 0) hX dX12_wasSo_12 rfl ?_
      refine s_istore (lv' := [some (vr c_mo), some (vi l1), some (vi l2), some (vi l3), some (vi 1), some (vi 0)]) hX dX12_wasSo_13 rfl rfl (Nat.le_of_ble_eq_true rfl) ?_
      obtain ⟨n1088, h⟩ := h
      refine t_Mo_wasSo_L15 hX hq ?_ n1088 _ _ _ h
      intro y1086 M1085 h
      refine s_iload_n hX dX12_wasSo_64 rfl ?_
      refine s_if_ne (tgt := 73) hX dX12_wasSo_65 (by decide) (fun c => ?_) (fun c => ?_)
      · replace h := h.1 c
        refine s_iconst (v := 1) hX dX12_wasSo_73 rfl ?_
        refine s_goto (tgt := 78) hX dX12_wasSo_74 (by decide) ?_
        refine s_istore_n (lv' := [some (vr c_mo), some (vi l1), some (vi 1), some (vi l3), some (vi y1086), none]) hX dX12_wasSo_78 rfl rfl (Nat.le_of_ble_eq_true rfl) ?_
        refine s_iinc (v := (l3 + 1)) (lv' := [some (vr c_mo), some (vi l1), some (vi 1), some (vi (l3 + 1)), some (vi y1086), none]) hX dX12_wasSo_79 rfl rfl rfl rfl ?_
        refine s_goto (tgt := 4) hX dX12_wasSo_82 (by decide) ?_
        refine s_mask [true, true, true, true, false, true] (lv' := [some (vr c_mo), some (vi l1), some (vi 1), some (vi (l3 + 1)), none, none]) rfl rfl ?_
        exact ih _ _ _ h
      · replace h := h.2 c
        refine s_iload hX dX12_wasSo_68 rfl ?_
        have hJ : Wat X 0 0 LY 78 [some (vr c_mo), some (vi l1), some (vi l2), some (vi l3), some (vi y1086), none] [vi (if y1086 = 0 then (0 : Int32) else 1)] M1085 := by
          refine s_nmi (fun x1087 ex1087 => ?_)
          replace h := h x1087 ex1087
          refine s_istore_n (lv' := [some (vr c_mo), some (vi l1), some (vi x1087), some (vi l3), some (vi y1086), none]) hX dX12_wasSo_78 rfl rfl (Nat.le_of_ble_eq_true rfl) ?_
          refine s_iinc (v := (l3 + 1)) (lv' := [some (vr c_mo), some (vi l1), some (vi x1087), some (vi (l3 + 1)), some (vi y1086), none]) hX dX12_wasSo_79 rfl rfl rfl rfl ?_
          refine s_goto (tgt := 4) hX dX12_wasSo_82 (by decide) ?_
          refine s_mask [true, true, true, true, false, true] (lv' := [some (vr c_mo), some (vi l1), some (vi x1087), some (vi (l3 + 1)), none, none]) rfl rfl ?_
          exact ih _ _ _ h
        refine s_if_eq (tgt := 77) hX dX12_wasSo_70 (by decide) (fun c => ?_) (fun c => ?_)
        · rw [if_pos c] at hJ
          refine s_iconst (v := 0) hX dX12_wasSo_77 rfl ?_
          exact hJ
        · rw [if_neg c] at hJ
          refine s_iconst (v := 1) hX dX12_wasSo_73 rfl ?_
          refine s_goto (tgt := 78) hX dX12_wasSo_74 (by decide) ?_
          exact hJ
def w_Mo_wasSo (a0 : Int32) (M : Mem) (Q : Bool → Mem → Prop) : Prop :=
  (∃ n1091, w_Mo_wasSo_L4 a0 (fun y1090 M1089 => (∃ bb : Bool, y1090 = b2i bb ∧ Q bb M1089)) Q n1091 0 0 M)
set_option maxHeartbeats 4000000 in
theorem t_Mo_wasSo {X : Cx} (hX : Cok X cX12_wasSo RX12 6 ((some .boolean)) 2 0 0) {Q : Bool → Mem → Prop} (hq : RI X 0 0 LY (bQ Q)) {M : Mem} {a0 : Int32} (h : w_Mo_wasSo a0 M Q) : Wat X 0 0 LY 0 [some (vr c_mo), some (vi a0), none, none, none, none] [] M := by
  refine s_iconst (v := 0) hX dX12_wasSo_0 rfl ?_
  refine s_istore_n (lv' := [some (vr c_mo), some (vi a0), some (vi 0), none, none, none]) hX dX12_wasSo_1 rfl rfl (Nat.le_of_ble_eq_true rfl) ?_
  refine s_iconst (v := 0) hX dX12_wasSo_2 rfl ?_
  refine s_istore_n (lv' := [some (vr c_mo), some (vi a0), some (vi 0), some (vi 0), none, none]) hX dX12_wasSo_3 rfl rfl (Nat.le_of_ble_eq_true rfl) ?_
  obtain ⟨n1091, h⟩ := h
  refine t_Mo_wasSo_L4 hX hq ?_ n1091 _ _ _ h
  intro y1090 M1089 h
  refine s_iload_n hX dX12_wasSo_85 rfl ?_
  obtain ⟨bb, hbb, h⟩ := h
  exact s_zret hX bb hq rfl dX12_wasSo_86 hbb h
theorem c_Mo_wasSo {a0 : Int32} {M : Mem} {Q : Bool → Mem → Prop} (h : w_Mo_wasSo a0 M Q) : CI yX12_wasSo cX12_wasSo 6 ((some .boolean)) 2 0 0 LY LY [vr c_mo, vi a0] M (bQ Q) := mk_i rfl wd_co_X12_wasSo rfl rfl (Nat.le_of_ble_eq_true rfl) (fun X hX hq => t_Mo_wasSo hX hq h)
theorem mv_Mo_wasSo : MV yX12_wasSo cX12_wasSo 6 ((some .boolean)) RX12 1 := ⟨wd_co_X12_wasSo, wd_im_X12_wasSo, wd_se_X12_wasSo, wd_in_X12, by decide +kernel, by decide⟩
def w_Mo_findPlayed_L35 (l1 : Int32) (l2 : Int32) (l3 : Int32) (K : Int32 → Mem → Prop) (Q : Int32 → Mem → Prop) : Nat → Int32 → Int32 → Mem → Prop
  | 0, _, _, _ => False
  | n + 1, l4, l5, M => ((l2 < l5 → K l4 M) ∧ (¬ l2 < l5 → (vp_in ((19 + (24 * l3)) + l5) 360 ∧ ∀ x1066 : Int32, x1066 = (if (M.1 c_mo_lands (Int32.toNatClampNeg ((19 + (24 * l3)) + l5))) = l4 then l4 else (-1)) → w_Mo_findPlayed_L35 l1 l2 l3 K Q n x1066 (l5 + 1) M)))
set_option maxHeartbeats 4000000 in
theorem t_Mo_findPlayed_L35 {X : Cx} (hX : Cok X cX12_findPlayed RX12 7 ((some .int)) 8 0 0) {Q : Int32 → Mem → Prop} (hq : RI X 0 0 LY Q) {l1 : Int32} {l2 : Int32} {l3 : Int32} {K : Int32 → Mem → Prop} (hK : ∀ (l4 : Int32) (M : Mem), K l4 M → Wat X 0 0 LY 75 [some (vr c_mo), some (vi l1), some (vi l2), some (vi l3), some (vi l4), none, none] [] M) : ∀ (n : Nat) (l4 : Int32) (l5 : Int32) (M : Mem), w_Mo_findPlayed_L35 l1 l2 l3 K Q n l4 l5 M → Wat X 0 0 LY 35 [some (vr c_mo), some (vi l1), some (vi l2), some (vi l3), some (vi l4), some (vi l5), none] [] M := by
  intro n
  induction n with
  | zero => intro _ _ _ h; exact h.elim
  | succ n ih =>
    intro l4 l5 M h
    refine s_iload hX dX12_findPlayed_35 rfl ?_
    refine s_iload_n hX dX12_findPlayed_37 rfl ?_
    refine s_icmp_gt (tgt := 75) hX dX12_findPlayed_38 (by decide) (fun c => ?_) (fun c => ?_)
    · replace h := h.1 c
      refine s_mask [true, true, true, true, true, false, true] (lv' := [some (vr c_mo), some (vi l1), some (vi l2), some (vi l3), some (vi l4), none, none]) rfl rfl ?_
      exact hK _ _ h
    · replace h := h.2 c
      refine s_aload_n hX dX12_findPlayed_41 rfl ?_
      refine s_getr hX fi_X12_85 ly_c_mo rfl dX12_findPlayed_42 ?_
      refine s_bipush (v := 19) hX dX12_findPlayed_45 rfl ?_
      refine s_bipush (v := 24) hX dX12_findPlayed_47 rfl ?_
      refine s_iload_n hX dX12_findPlayed_49 rfl ?_
      refine s_imul hX dX12_findPlayed_50 ?_
      refine s_iadd hX dX12_findPlayed_51 ?_
      refine s_iload hX dX12_findPlayed_52 rfl ?_
      refine s_iadd hX dX12_findPlayed_54 ?_
      have hi := h.1
      replace h := h.2
      refine s_ialdv (v := (M.1 c_mo_lands (Int32.toNatClampNeg ((19 + (24 * l3)) + l5)))) hX ly_c_mo_lands hi dX12_findPlayed_55 rfl ?_
      refine s_iload hX dX12_findPlayed_56 rfl ?_
      have hJ : Wat X 0 0 LY 67 [some (vr c_mo), some (vi l1), some (vi l2), some (vi l3), some (vi l4), some (vi l5), none] [vi (if (M.1 c_mo_lands (Int32.toNatClampNeg ((19 + (24 * l3)) + l5))) = l4 then l4 else (-1))] M := by
        refine s_nmi (fun x1066 ex1066 => ?_)
        replace h := h x1066 ex1066
        refine s_istore (lv' := [some (vr c_mo), some (vi l1), some (vi l2), some (vi l3), some (vi x1066), some (vi l5), none]) hX dX12_findPlayed_67 rfl rfl (Nat.le_of_ble_eq_true rfl) ?_
        refine s_iinc (v := (l5 + 1)) (lv' := [some (vr c_mo), some (vi l1), some (vi l2), some (vi l3), some (vi x1066), some (vi (l5 + 1)), none]) hX dX12_findPlayed_69 rfl rfl rfl rfl ?_
        refine s_goto (tgt := 35) hX dX12_findPlayed_72 (by decide) ?_
        exact ih _ _ _ h
      refine s_icmp_ne (tgt := 66) hX dX12_findPlayed_58 (by decide) (fun c => ?_) (fun c => ?_)
      · rw [if_neg c] at hJ
        refine s_iconst (v := (-1)) hX dX12_findPlayed_66 rfl ?_
        exact hJ
      · rw [if_pos c] at hJ
        refine s_iload hX dX12_findPlayed_61 rfl ?_
        refine s_goto (tgt := 67) hX dX12_findPlayed_63 (by decide) ?_
        exact hJ
def w_Mo_findPlayed_L8 (l1 : Int32) (l2 : Int32) (K : Mem → Prop) (Q : Int32 → Mem → Prop) : Nat → Int32 → Mem → Prop
  | 0, _, _ => False
  | n + 1, l3, M => w_Mo_persons M (fun r1064 M1063 => ((r1064 ≤ l3 → K M1063) ∧ (¬ r1064 ≤ l3 → (vp_in ((19 + (24 * l3)) + l1) 360 ∧ ∀ x1065 : Int32, x1065 = (M1063.1 c_mo_lands (Int32.toNatClampNeg ((19 + (24 * l3)) + l1))) → (∃ n1069, w_Mo_findPlayed_L35 l1 l2 l3 (fun y1068 M1067 => (vp_in l3 6 ∧ w_Mo_findPlayed_L8 l1 l2 K Q n (l3 + 1) (si M1067 c_mo_standing (Int32.toNatClampNeg l3) y1068))) Q n1069 x1065 l1 M1063)))))
set_option maxHeartbeats 4000000 in
theorem t_Mo_findPlayed_L8 {X : Cx} (hX : Cok X cX12_findPlayed RX12 7 ((some .int)) 8 0 0) {Q : Int32 → Mem → Prop} (hq : RI X 0 0 LY Q) {l1 : Int32} {l2 : Int32} {K : Mem → Prop} (hK : ∀ (M : Mem), K M → Wat X 0 0 LY 89 [some (vr c_mo), none, none, none, none, none, none] [] M) : ∀ (n : Nat) (l3 : Int32) (M : Mem), w_Mo_findPlayed_L8 l1 l2 K Q n l3 M → Wat X 0 0 LY 8 [some (vr c_mo), some (vi l1), some (vi l2), some (vi l3), none, none, none] [] M := by
  intro n
  induction n with
  | zero => intro _ _ h; exact h.elim
  | succ n ih =>
    intro l3 M h
    refine s_iload_n hX dX12_findPlayed_8 rfl ?_
    refine s_aload_n hX dX12_findPlayed_9 rfl ?_
    refine s_cvi (as := []) (rest := [vi l3]) hX (c_Mo_persons h) mv_Mo_persons wd_ml_X12_226 dX12_findPlayed_10 ly_c_mo rfl rfl (Nat.le_of_ble_eq_true rfl) rfl (by decide) ⟨Nat.zero_le _, Nat.zero_le _⟩ (fun r1064 M1063 h => ?_)
    refine s_icmp_ge (tgt := 89) hX dX12_findPlayed_13 (by decide) (fun c => ?_) (fun c => ?_)
    · replace h := h.1 c
      refine s_mask [true, false, false, false, true, true, true] (lv' := [some (vr c_mo), none, none, none, none, none, none]) rfl rfl ?_
      exact hK _ h
    · replace h := h.2 c
      refine s_aload_n hX dX12_findPlayed_16 rfl ?_
      refine s_getr hX fi_X12_85 ly_c_mo rfl dX12_findPlayed_17 ?_
      refine s_bipush (v := 19) hX dX12_findPlayed_20 rfl ?_
      refine s_bipush (v := 24) hX dX12_findPlayed_22 rfl ?_
      refine s_iload_n hX dX12_findPlayed_24 rfl ?_
      refine s_imul hX dX12_findPlayed_25 ?_
      refine s_iadd hX dX12_findPlayed_26 ?_
      refine s_iload_n hX dX12_findPlayed_27 rfl ?_
      refine s_iadd hX dX12_findPlayed_28 ?_
      have hi := h.1
      replace h := h.2
      refine s_ialdv (v := (M1063.1 c_mo_lands (Int32.toNatClampNeg ((19 + (24 * l3)) + l1)))) hX ly_c_mo_lands hi dX12_findPlayed_29 rfl ?_
      refine s_nmi (fun x1065 ex1065 => ?_)
      replace h := h x1065 ex1065
      refine s_istore (lv' := [some (vr c_mo), some (vi l1), some (vi l2), some (vi l3), some (vi x1065), none, none]) hX dX12_findPlayed_30 rfl rfl (Nat.le_of_ble_eq_true rfl) ?_
      refine s_iload_n hX dX12_findPlayed_32 rfl ?_
      refine s_istore (lv' := [some (vr c_mo), some (vi l1), some (vi l2), some (vi l3), some (vi x1065), some (vi l1), none]) hX dX12_findPlayed_33 rfl rfl (Nat.le_of_ble_eq_true rfl) ?_
      obtain ⟨n1069, h⟩ := h
      refine t_Mo_findPlayed_L35 hX hq ?_ n1069 _ _ _ h
      intro y1068 M1067 h
      refine s_aload_n hX dX12_findPlayed_75 rfl ?_
      refine s_getr hX fi_X12_122 ly_c_mo rfl dX12_findPlayed_76 ?_
      refine s_iload_n hX dX12_findPlayed_79 rfl ?_
      refine s_iload hX dX12_findPlayed_80 rfl ?_
      have hi := h.1
      replace h := h.2
      refine s_iast hX ly_c_mo_standing hi dX12_findPlayed_82 ?_
      refine s_iinc (v := (l3 + 1)) (lv' := [some (vr c_mo), some (vi l1), some (vi l2), some (vi (l3 + 1)), some (vi y1068), none, none]) hX dX12_findPlayed_83 rfl rfl rfl rfl ?_
      refine s_goto (tgt := 8) hX dX12_findPlayed_86 (by decide) ?_
      refine s_mask [true, true, true, true, false, true, true] (lv' := [some (vr c_mo), some (vi l1), some (vi l2), some (vi (l3 + 1)), none, none, none]) rfl rfl ?_
      exact ih _ _ h
def w_Mo_findPlayed_L108 (l3 : Int32) (K : Int32 → Mem → Prop) (Q : Int32 → Mem → Prop) : Nat → Int32 → Int32 → Mem → Prop
  | 0, _, _, _ => False
  | n + 1, l4, l5, M => w_Mo_persons M (fun r1075 M1074 => ((r1075 ≤ l5 → K l4 M1074) ∧ (¬ r1075 ≤ l5 → w_Mo_findOwes 0 M1074 (fun M1076 => w_Mo_balanceOf l5 M1076 (fun r1078 M1077 => w_Mo_findStand l5 M1077 (fun M1079 => (((M1079.1 c_mo Mo_bestBalance) ≤ r1078 → w_Mo_findPlayed_L108 l3 K Q n l4 (l5 + 1) M1079) ∧ (¬ (M1079.1 c_mo Mo_bestBalance) ≤ r1078 → (vp_in l5 6 ∧ w_Mo_findPlayed_L108 l3 K Q n 1 (l5 + 1) (si M1079 c_mo_standing (Int32.toNatClampNeg l5) (M1079.1 c_mo Mo_bestCell)))))))))))
set_option maxHeartbeats 4000000 in
theorem t_Mo_findPlayed_L108 {X : Cx} (hX : Cok X cX12_findPlayed RX12 7 ((some .int)) 8 0 0) {Q : Int32 → Mem → Prop} (hq : RI X 0 0 LY Q) {l3 : Int32} {K : Int32 → Mem → Prop} (hK : ∀ (l4 : Int32) (M : Mem), K l4 M → Wat X 0 0 LY 165 [some (vr c_mo), none, none, some (vi l3), some (vi l4), none, none] [] M) : ∀ (n : Nat) (l4 : Int32) (l5 : Int32) (M : Mem), w_Mo_findPlayed_L108 l3 K Q n l4 l5 M → Wat X 0 0 LY 108 [some (vr c_mo), none, none, some (vi l3), some (vi l4), some (vi l5), none] [] M := by
  intro n
  induction n with
  | zero => intro _ _ _ h; exact h.elim
  | succ n ih =>
    intro l4 l5 M h
    refine s_iload hX dX12_findPlayed_108 rfl ?_
    refine s_aload_n hX dX12_findPlayed_110 rfl ?_
    refine s_cvi (as := []) (rest := [vi l5]) hX (c_Mo_persons h) mv_Mo_persons wd_ml_X12_226 dX12_findPlayed_111 ly_c_mo rfl rfl (Nat.le_of_ble_eq_true rfl) rfl (by decide) ⟨Nat.zero_le _, Nat.zero_le _⟩ (fun r1075 M1074 h => ?_)
    refine s_icmp_ge (tgt := 165) hX dX12_findPlayed_114 (by decide) (fun c => ?_) (fun c => ?_)
    · replace h := h.1 c
      refine s_mask [true, true, true, true, true, false, true] (lv' := [some (vr c_mo), none, none, some (vi l3), some (vi l4), none, none]) rfl rfl ?_
      exact hK _ _ h
    · replace h := h.2 c
      refine s_aload_n hX dX12_findPlayed_117 rfl ?_
      refine s_iconst (v := 0) hX dX12_findPlayed_118 rfl ?_
      refine s_cvv (as := [vi 0]) (rest := []) hX (c_Mo_findOwes h) mv_Mo_findOwes wd_ml_X12_364 dX12_findPlayed_119 ly_c_mo rfl rfl (Nat.le_of_ble_eq_true rfl) rfl (by decide) ⟨Nat.zero_le _, Nat.zero_le _⟩ (fun M1076 h => ?_)
      refine s_aload_n hX dX12_findPlayed_122 rfl ?_
      refine s_iload hX dX12_findPlayed_123 rfl ?_
      refine s_cvi (as := [vi l5]) (rest := []) hX (c_Mo_balanceOf h) mv_Mo_balanceOf wd_ml_X12_367 dX12_findPlayed_125 ly_c_mo rfl rfl (Nat.le_of_ble_eq_true rfl) rfl (by decide) ⟨Nat.zero_le _, Nat.zero_le _⟩ (fun r1078 M1077 h => ?_)
      refine s_istore (lv' := [some (vr c_mo), none, none, some (vi l3), some (vi l4), some (vi l5), some (vi r1078)]) hX dX12_findPlayed_128 rfl rfl (Nat.le_of_ble_eq_true rfl) ?_
      refine s_aload_n hX dX12_findPlayed_130 rfl ?_
      refine s_iload hX dX12_findPlayed_131 rfl ?_
      refine s_cvv (as := [vi l5]) (rest := []) hX (c_Mo_findStand h) mv_Mo_findStand wd_ml_X12_392 dX12_findPlayed_133 ly_c_mo rfl rfl (Nat.le_of_ble_eq_true rfl) rfl (by decide) ⟨Nat.zero_le _, Nat.zero_le _⟩ (fun M1079 h => ?_)
      refine s_aload_n hX dX12_findPlayed_136 rfl ?_
      refine s_getiv (v := (M1079.1 c_mo Mo_bestBalance)) hX fi_X12_379 ly_c_mo rfl dX12_findPlayed_137 rfl ?_
      refine s_iload hX dX12_findPlayed_140 rfl ?_
      refine s_icmp_le (tgt := 159) hX dX12_findPlayed_142 (by decide) (fun c => ?_) (fun c => ?_)
      · replace h := h.1 c
        refine s_iinc (v := (l5 + 1)) (lv' := [some (vr c_mo), none, none, some (vi l3), some (vi l4), some (vi (l5 + 1)), some (vi r1078)]) hX dX12_findPlayed_159 rfl rfl rfl rfl ?_
        refine s_goto (tgt := 108) hX dX12_findPlayed_162 (by decide) ?_
        refine s_mask [true, true, true, true, true, true, false] (lv' := [some (vr c_mo), none, none, some (vi l3), some (vi l4), some (vi (l5 + 1)), none]) rfl rfl ?_
        exact ih _ _ _ h
      · replace h := h.2 c
        refine s_aload_n hX dX12_findPlayed_145 rfl ?_
        refine s_getr hX fi_X12_122 ly_c_mo rfl dX12_findPlayed_146 ?_
        refine s_iload hX dX12_findPlayed_149 rfl ?_
        refine s_aload_n hX dX12_findPlayed_151 rfl ?_
        refine s_getiv (v := (M1079.1 c_mo Mo_bestCell)) hX fi_X12_376 ly_c_mo rfl dX12_findPlayed_152 rfl ?_
        have hi := h.1
        replace h := h.2
        refine s_iast hX ly_c_mo_standing hi dX12_findPlayed_155 ?_
        refine s_iconst (v := 1) hX dX12_findPlayed_156 rfl ?_
        refine s_istore (lv' := [some (vr c_mo), none, none, some (vi l3), some (vi 1), some (vi l5), some (vi r1078)]) hX dX12_findPlayed_157 rfl rfl (Nat.le_of_ble_eq_true rfl) ?_
        refine s_iinc (v := (l5 + 1)) (lv' := [some (vr c_mo), none, none, some (vi l3), some (vi 1), some (vi (l5 + 1)), some (vi r1078)]) hX dX12_findPlayed_159 rfl rfl rfl rfl ?_
        refine s_goto (tgt := 108) hX dX12_findPlayed_162 (by decide) ?_
        refine s_mask [true, true, true, true, true, true, false] (lv' := [some (vr c_mo), none, none, some (vi l3), some (vi 1), some (vi (l5 + 1)), none]) rfl rfl ?_
        exact ih _ _ _ h
def w_Mo_findPlayed_L96 (K : Mem → Prop) (Q : Int32 → Mem → Prop) : Nat → Int32 → Mem → Prop
  | 0, _, _ => False
  | n + 1, l3, M => ((50 < l3 → K M) ∧ (¬ 50 < l3 → (∃ n1095, w_Mo_findPlayed_L108 l3 (fun y1081 M1080 => ((¬ y1081 = 0 → w_Mo_wasSo l3 M1080 (fun b1093 M1092 => ((b1093 = false → w_Mo_writes l3 M1092 (fun M1094 => w_Mo_findPlayed_L96 K Q n (l3 + 1) M1094)) ∧ (b1093 = true → Q (-l3) M1092)))) ∧ (y1081 = 0 → Q l3 M1080))) Q n1095 0 0 M)))
set_option maxHeartbeats 4000000 in
theorem t_Mo_findPlayed_L96 {X : Cx} (hX : Cok X cX12_findPlayed RX12 7 ((some .int)) 8 0 0) {Q : Int32 → Mem → Prop} (hq : RI X 0 0 LY Q) {K : Mem → Prop} (hK : ∀ (M : Mem), K M → Wat X 0 0 LY 194 [none, none, none, none, none, none, none] [] M) : ∀ (n : Nat) (l3 : Int32) (M : Mem), w_Mo_findPlayed_L96 K Q n l3 M → Wat X 0 0 LY 96 [some (vr c_mo), none, none, some (vi l3), none, none, none] [] M := by
  intro n
  induction n with
  | zero => intro _ _ h; exact h.elim
  | succ n ih =>
    intro l3 M h
    refine s_iload_n hX dX12_findPlayed_96 rfl ?_
    refine s_bipush (v := 50) hX dX12_findPlayed_97 rfl ?_
    refine s_icmp_gt (tgt := 194) hX dX12_findPlayed_99 (by decide) (fun c => ?_) (fun c => ?_)
    · replace h := h.1 c
      refine s_mask [false, true, true, false, true, true, true] (lv' := [none, none, none, none, none, none, none]) rfl rfl ?_
      exact hK _ h
    · replace h := h.2 c
      refine s_iconst (v := 0) hX dX12_findPlayed_102 rfl ?_
      refine s_istore (lv' := [some (vr c_mo), none, none, some (vi l3), some (vi 0), none, none]) hX dX12_findPlayed_103 rfl rfl (Nat.le_of_ble_eq_true rfl) ?_
      refine s_iconst (v := 0) hX dX12_findPlayed_105 rfl ?_
      refine s_istore (lv' := [some (vr c_mo), none, none, some (vi l3), some (vi 0), some (vi 0), none]) hX dX12_findPlayed_106 rfl rfl (Nat.le_of_ble_eq_true rfl) ?_
      obtain ⟨n1095, h⟩ := h
      refine t_Mo_findPlayed_L108 hX hq ?_ n1095 _ _ _ h
      intro y1081 M1080 h
      refine s_iload hX dX12_findPlayed_165 rfl ?_
      refine s_if_ne (tgt := 172) hX dX12_findPlayed_167 (by decide) (fun c => ?_) (fun c => ?_)
      · replace h := h.1 c
        refine s_aload_n hX dX12_findPlayed_172 rfl ?_
        refine s_iload_n hX dX12_findPlayed_173 rfl ?_
        refine s_cvi (as := [vi l3]) (rest := []) hX (c_Mo_wasSo h) mv_Mo_wasSo wd_ml_X12_398 dX12_findPlayed_174 ly_c_mo rfl rfl (Nat.le_of_ble_eq_true rfl) rfl (by decide) ⟨Nat.zero_le _, Nat.zero_le _⟩ (fun b1093_ M1092 h => ?_)
        obtain ⟨b1093, rfl, h⟩ := h
        refine s_if_eq (tgt := 183) hX dX12_findPlayed_177 (by decide) (fun c => ?_) (fun c => ?_)
        · replace h := h.1 (b2i_0 c)
          refine s_aload_n hX dX12_findPlayed_183 rfl ?_
          refine s_iload_n hX dX12_findPlayed_184 rfl ?_
          refine s_cvv (as := [vi l3]) (rest := []) hX (c_Mo_writes h) mv_Mo_writes wd_ml_X12_395 dX12_findPlayed_185 ly_c_mo rfl rfl (Nat.le_of_ble_eq_true rfl) rfl (by decide) ⟨Nat.zero_le _, Nat.zero_le _⟩ (fun M1094 h => ?_)
          refine s_iinc (v := (l3 + 1)) (lv' := [some (vr c_mo), none, none, some (vi (l3 + 1)), some (vi y1081), none, none]) hX dX12_findPlayed_188 rfl rfl rfl rfl ?_
          refine s_goto (tgt := 96) hX dX12_findPlayed_191 (by decide) ?_
          refine s_mask [true, true, true, true, false, true, true] (lv' := [some (vr c_mo), none, none, some (vi (l3 + 1)), none, none, none]) rfl rfl ?_
          exact ih _ _ h
        · replace h := h.2 (b2i_1 c)
          refine s_iload_n hX dX12_findPlayed_180 rfl ?_
          refine s_ineg hX dX12_findPlayed_181 ?_
          exact s_iret hX hq rfl dX12_findPlayed_182 h
      · replace h := h.2 c
        refine s_iload_n hX dX12_findPlayed_170 rfl ?_
        exact s_iret hX hq rfl dX12_findPlayed_171 h
def w_Mo_findPlayed (a0 : Int32) (a1 : Int32) (M : Mem) (Q : Int32 → Mem → Prop) : Prop :=
  w_Mo_standsIn a0 a1 M (fun M1062 => (∃ n1098, w_Mo_findPlayed_L8 a0 a1 (fun M1070 => w_Mo_writes 0 M1070 (fun M1073 => (∃ n1097, w_Mo_findPlayed_L96 (fun M1096 => Q (-50) M1096) Q n1097 1 M1073))) Q n1098 0 M1062))
set_option maxHeartbeats 4000000 in
theorem t_Mo_findPlayed {X : Cx} (hX : Cok X cX12_findPlayed RX12 7 ((some .int)) 8 0 0) {Q : Int32 → Mem → Prop} (hq : RI X 0 0 LY Q) {M : Mem} {a0 : Int32} {a1 : Int32} (h : w_Mo_findPlayed a0 a1 M Q) : Wat X 0 0 LY 0 [some (vr c_mo), some (vi a0), some (vi a1), none, none, none, none] [] M := by
  refine s_aload_n hX dX12_findPlayed_0 rfl ?_
  refine s_iload_n hX dX12_findPlayed_1 rfl ?_
  refine s_iload_n hX dX12_findPlayed_2 rfl ?_
  refine s_cvv (as := [vi a0, vi a1]) (rest := []) hX (c_Mo_standsIn h) mv_Mo_standsIn wd_ml_X12_389 dX12_findPlayed_3 ly_c_mo rfl rfl (Nat.le_of_ble_eq_true rfl) rfl (by decide) ⟨Nat.zero_le _, Nat.zero_le _⟩ (fun M1062 h => ?_)
  refine s_iconst (v := 0) hX dX12_findPlayed_6 rfl ?_
  refine s_istore_n (lv' := [some (vr c_mo), some (vi a0), some (vi a1), some (vi 0), none, none, none]) hX dX12_findPlayed_7 rfl rfl (Nat.le_of_ble_eq_true rfl) ?_
  obtain ⟨n1098, h⟩ := h
  refine t_Mo_findPlayed_L8 hX hq ?_ n1098 _ _ h
  intro M1070 h
  refine s_aload_n hX dX12_findPlayed_89 rfl ?_
  refine s_iconst (v := 0) hX dX12_findPlayed_90 rfl ?_
  refine s_cvv (as := [vi 0]) (rest := []) hX (c_Mo_writes h) mv_Mo_writes wd_ml_X12_395 dX12_findPlayed_91 ly_c_mo rfl rfl (Nat.le_of_ble_eq_true rfl) rfl (by decide) ⟨Nat.zero_le _, Nat.zero_le _⟩ (fun M1073 h => ?_)
  refine s_iconst (v := 1) hX dX12_findPlayed_94 rfl ?_
  refine s_istore_n (lv' := [some (vr c_mo), none, none, some (vi 1), none, none, none]) hX dX12_findPlayed_95 rfl rfl (Nat.le_of_ble_eq_true rfl) ?_
  obtain ⟨n1097, h⟩ := h
  refine t_Mo_findPlayed_L96 hX hq ?_ n1097 _ _ h
  intro M1096 h
  refine s_bipush (v := (-50)) hX dX12_findPlayed_194 rfl ?_
  exact s_iret hX hq rfl dX12_findPlayed_196 h
theorem c_Mo_findPlayed {a0 : Int32} {a1 : Int32} {M : Mem} {Q : Int32 → Mem → Prop} (h : w_Mo_findPlayed a0 a1 M Q) : CI yX12_findPlayed cX12_findPlayed 7 ((some .int)) 8 0 0 LY LY [vr c_mo, vi a0, vi a1] M Q := mk_i rfl wd_co_X12_findPlayed rfl rfl (Nat.le_of_ble_eq_true rfl) (fun X hX hq => t_Mo_findPlayed hX hq h)
theorem mv_Mo_findPlayed : MV yX12_findPlayed cX12_findPlayed 7 ((some .int)) RX12 2 := ⟨wd_co_X12_findPlayed, wd_im_X12_findPlayed, wd_se_X12_findPlayed, wd_in_X12, by decide +kernel, by decide⟩
def w_Mo_played_j54 (l3 : Int32) (l4 : Int32) (s0 : Int32) (M : Mem) (Q : Int32 → Mem → Prop) : Prop :=
  w_Mo_standsAsTold M (fun M1103 => ((¬ l3 = 0 → ((¬ l3 = 1 → Q s0 M1103) ∧ (l3 = 1 → ((l4 ≤ 0 → Q 0 M1103) ∧ (¬ l4 ≤ 0 → Q 1 M1103))))) ∧ (l3 = 0 → ((0 ≤ l4 → Q l4 M1103) ∧ (¬ 0 ≤ l4 → Q (-l4) M1103)))))
set_option maxHeartbeats 4000000 in
theorem t_Mo_played_j54 {X : Cx} (hX : Cok X cX12_played RX12 6 ((some .int)) 9 0 0) {Q : Int32 → Mem → Prop} (hq : RI X 0 0 LY Q) {l3 : Int32} {l4 : Int32} {s0 : Int32} {M : Mem} (h : w_Mo_played_j54 l3 l4 s0 M Q) : Wat X 0 0 LY 54 [some (vr c_mo), none, none, some (vi l3), some (vi l4), none] [vi s0] M := by
  refine s_istore (lv' := [some (vr c_mo), none, none, some (vi l3), some (vi l4), some (vi s0)]) hX dX12_played_54 rfl rfl (Nat.le_of_ble_eq_true rfl) ?_
  refine s_aload_n hX dX12_played_56 rfl ?_
  refine s_cvv (as := []) (rest := []) hX (c_Mo_standsAsTold h) mv_Mo_standsAsTold wd_ml_X12_314 dX12_played_57 ly_c_mo rfl rfl (Nat.le_of_ble_eq_true rfl) rfl (by decide) ⟨Nat.zero_le _, Nat.zero_le _⟩ (fun M1103 h => ?_)
  refine s_iload_n hX dX12_played_60 rfl ?_
  refine s_if_ne (tgt := 80) hX dX12_played_61 (by decide) (fun c => ?_) (fun c => ?_)
  · replace h := h.1 c
    refine s_iload_n hX dX12_played_80 rfl ?_
    refine s_iconst (v := 1) hX dX12_played_81 rfl ?_
    refine s_icmp_ne (tgt := 98) hX dX12_played_82 (by decide) (fun c => ?_) (fun c => ?_)
    · replace h := h.1 c
      refine s_iload hX dX12_played_98 rfl ?_
      exact s_iret hX hq rfl dX12_played_100 h
    · replace h := h.2 c
      refine s_iload hX dX12_played_85 rfl ?_
      refine s_if_le (tgt := 94) hX dX12_played_87 (by decide) (fun c => ?_) (fun c => ?_)
      · replace h := h.1 c
        refine s_iconst (v := 0) hX dX12_played_94 rfl ?_
        refine s_goto (tgt := 100) hX dX12_played_95 (by decide) ?_
        exact s_iret hX hq rfl dX12_played_100 h
      · replace h := h.2 c
        refine s_iconst (v := 1) hX dX12_played_90 rfl ?_
        refine s_goto (tgt := 100) hX dX12_played_91 (by decide) ?_
        exact s_iret hX hq rfl dX12_played_100 h
  · replace h := h.2 c
    refine s_iload hX dX12_played_64 rfl ?_
    refine s_if_ge (tgt := 75) hX dX12_played_66 (by decide) (fun c => ?_) (fun c => ?_)
    · replace h := h.1 c
      refine s_iload hX dX12_played_75 rfl ?_
      refine s_goto (tgt := 100) hX dX12_played_77 (by decide) ?_
      exact s_iret hX hq rfl dX12_played_100 h
    · replace h := h.2 c
      refine s_iload hX dX12_played_69 rfl ?_
      refine s_ineg hX dX12_played_71 ?_
      refine s_goto (tgt := 100) hX dX12_played_72 (by decide) ?_
      exact s_iret hX hq rfl dX12_played_100 h
def w_Mo_played (a0 : Int32) (a1 : Int32) (a2 : Int32) (M : Mem) (Q : Int32 → Mem → Prop) : Prop :=
  w_Mo_areHours a0 a1 (si M c_mo Mo_thrown 0) (fun b1057 M1056 => ((b1057 = false → Q (-1) M1056) ∧ (b1057 = true → w_Mo_persons M1056 (fun r1059 M1058 => w_Mo_within a2 0 (1 + r1059) M1058 (fun b1061 M1060 => ((b1061 = true → w_Mo_findPlayed a0 a1 M1060 (fun r1100 M1099 => ((2 ≤ a2 → w_Mo_placeAt (a2 - 2) a0 M1099 (fun r1102 M1101 => w_Mo_played_j54 a2 r1100 r1102 M1101 Q)) ∧ (¬ 2 ≤ a2 → w_Mo_played_j54 a2 r1100 (-1) M1099 Q)))) ∧ (b1061 = false → Q (-1) M1060)))))))
set_option maxHeartbeats 4000000 in
theorem t_Mo_played {X : Cx} (hX : Cok X cX12_played RX12 6 ((some .int)) 9 0 0) {Q : Int32 → Mem → Prop} (hq : RI X 0 0 LY Q) {M : Mem} {a0 : Int32} {a1 : Int32} {a2 : Int32} (h : w_Mo_played a0 a1 a2 M Q) : Wat X 0 0 LY 0 [some (vr c_mo), some (vi a0), some (vi a1), some (vi a2), none, none] [] M := by
  refine s_aload_n hX dX12_played_0 rfl ?_
  refine s_iconst (v := 0) hX dX12_played_1 rfl ?_
  refine s_puti hX fi_X12_1 fp_X12 rfl (by decide +kernel) ly_c_mo rfl dX12_played_2 ?_
  refine s_iload_n hX dX12_played_5 rfl ?_
  refine s_iload_n hX dX12_played_6 rfl ?_
  refine s_csi (as := [vi a0, vi a1]) (rest := []) hX (c_Mo_areHours h) ms_Mo_areHours wd_ml_X12_385 dX12_played_7 rfl (Nat.le_of_ble_eq_true rfl) rfl (by decide) ⟨Nat.zero_le _, Nat.zero_le _⟩ (fun b1057_ M1056 h => ?_)
  obtain ⟨b1057, rfl, h⟩ := h
  refine s_if_eq (tgt := 27) hX dX12_played_10 (by decide) (fun c => ?_) (fun c => ?_)
  · replace h := h.1 (b2i_0 c)
    refine s_iconst (v := (-1)) hX dX12_played_27 rfl ?_
    exact s_iret hX hq rfl dX12_played_28 h
  · replace h := h.2 (b2i_1 c)
    refine s_iload_n hX dX12_played_13 rfl ?_
    refine s_iconst (v := 0) hX dX12_played_14 rfl ?_
    refine s_iconst (v := 1) hX dX12_played_15 rfl ?_
    refine s_aload_n hX dX12_played_16 rfl ?_
    refine s_cvi (as := []) (rest := [vi 1, vi 0, vi a2]) hX (c_Mo_persons h) mv_Mo_persons wd_ml_X12_226 dX12_played_17 ly_c_mo rfl rfl (Nat.le_of_ble_eq_true rfl) rfl (by decide) ⟨Nat.zero_le _, Nat.zero_le _⟩ (fun r1059 M1058 h => ?_)
    refine s_iadd hX dX12_played_20 ?_
    refine s_csi (as := [vi a2, vi 0, vi (1 + r1059)]) (rest := []) hX (c_Mo_within h) ms_Mo_within wd_ml_X12_355 dX12_played_21 rfl (Nat.le_of_ble_eq_true rfl) rfl (by decide) ⟨Nat.zero_le _, Nat.zero_le _⟩ (fun b1061_ M1060 h => ?_)
    obtain ⟨b1061, rfl, h⟩ := h
    refine s_if_ne (tgt := 29) hX dX12_played_24 (by decide) (fun c => ?_) (fun c => ?_)
    · replace h := h.1 (b2i_1 c)
      refine s_aload_n hX dX12_played_29 rfl ?_
      refine s_iload_n hX dX12_played_30 rfl ?_
      refine s_iload_n hX dX12_played_31 rfl ?_
      refine s_cvi (as := [vi a0, vi a1]) (rest := []) hX (c_Mo_findPlayed h) mv_Mo_findPlayed wd_ml_X12_401 dX12_played_32 ly_c_mo rfl rfl (Nat.le_of_ble_eq_true rfl) rfl (by decide) ⟨Nat.zero_le _, Nat.zero_le _⟩ (fun r1100 M1099 h => ?_)
      refine s_istore (lv' := [some (vr c_mo), some (vi a0), some (vi a1), some (vi a2), some (vi r1100), none]) hX dX12_played_35 rfl rfl (Nat.le_of_ble_eq_true rfl) ?_
      refine s_iload_n hX dX12_played_37 rfl ?_
      refine s_iconst (v := 2) hX dX12_played_38 rfl ?_
      refine s_icmp_ge (tgt := 46) hX dX12_played_39 (by decide) (fun c => ?_) (fun c => ?_)
      · replace h := h.1 c
        refine s_aload_n hX dX12_played_46 rfl ?_
        refine s_iload_n hX dX12_played_47 rfl ?_
        refine s_iconst (v := 2) hX dX12_played_48 rfl ?_
        refine s_isub hX dX12_played_49 ?_
        refine s_iload_n hX dX12_played_50 rfl ?_
        refine s_cvi (as := [vi (a2 - 2), vi a0]) (rest := []) hX (c_Mo_placeAt h) mv_Mo_placeAt wd_ml_X12_317 dX12_played_51 ly_c_mo rfl rfl (Nat.le_of_ble_eq_true rfl) rfl (by decide) ⟨Nat.zero_le _, Nat.zero_le _⟩ (fun r1102 M1101 h => ?_)
        refine s_mask [true, false, false, true, true, true] (lv' := [some (vr c_mo), none, none, some (vi a2), some (vi r1100), none]) rfl rfl ?_
        exact t_Mo_played_j54 hX hq h
      · replace h := h.2 c
        refine s_iconst (v := (-1)) hX dX12_played_42 rfl ?_
        refine s_goto (tgt := 54) hX dX12_played_43 (by decide) ?_
        refine s_mask [true, false, false, true, true, true] (lv' := [some (vr c_mo), none, none, some (vi a2), some (vi r1100), none]) rfl rfl ?_
        exact t_Mo_played_j54 hX hq h
    · replace h := h.2 (b2i_0 c)
      refine s_iconst (v := (-1)) hX dX12_played_27 rfl ?_
      exact s_iret hX hq rfl dX12_played_28 h
theorem c_Mo_played {a0 : Int32} {a1 : Int32} {a2 : Int32} {M : Mem} {Q : Int32 → Mem → Prop} (h : w_Mo_played a0 a1 a2 M Q) : CI yX12_played cX12_played 6 ((some .int)) 9 0 0 LY LY [vr c_mo, vi a0, vi a1, vi a2] M Q := mk_i rfl wd_co_X12_played rfl rfl (Nat.le_of_ble_eq_true rfl) (fun X hX hq => t_Mo_played hX hq h)
theorem mv_Mo_played : MV yX12_played cX12_played 6 ((some .int)) RX12 3 := ⟨wd_co_X12_played, wd_im_X12_played, wd_se_X12_played, wd_in_X12, by decide +kernel, by decide⟩
def w_Mo_bits_L4 (l0 : Int32) (K : Int32 → Mem → Prop) (Q : Int32 → Mem → Prop) : Nat → Int32 → Int32 → Mem → Prop
  | 0, _, _, _ => False
  | n + 1, l1, l2, M => ((6 ≤ l2 → K l1 M) ∧ (¬ 6 ≤ l2 → ∀ x1110 : Int32, x1110 = (l1 + ((l0 >>> (l2 &&& 31)) &&& 1)) → w_Mo_bits_L4 l0 K Q n x1110 (l2 + 1) M))
set_option maxHeartbeats 4000000 in
theorem t_Mo_bits_L4 {X : Cx} (hX : Cok X cX12_bits RX12 3 ((some .int)) 1 0 0) {Q : Int32 → Mem → Prop} (hq : RI X 0 0 LY Q) {l0 : Int32} {K : Int32 → Mem → Prop} (hK : ∀ (l1 : Int32) (M : Mem), K l1 M → Wat X 0 0 LY 24 [none, some (vi l1), none] [] M) : ∀ (n : Nat) (l1 : Int32) (l2 : Int32) (M : Mem), w_Mo_bits_L4 l0 K Q n l1 l2 M → Wat X 0 0 LY 4 [some (vi l0), some (vi l1), some (vi l2)] [] M := by
  intro n
  induction n with
  | zero => intro _ _ _ h; exact h.elim
  | succ n ih =>
    intro l1 l2 M h
    refine s_iload_n hX dX12_bits_4 rfl ?_
    refine s_bipush (v := 6) hX dX12_bits_5 rfl ?_
    refine s_icmp_ge (tgt := 24) hX dX12_bits_7 (by decide) (fun c => ?_) (fun c => ?_)
    · replace h := h.1 c
      refine s_mask [false, true, false] (lv' := [none, some (vi l1), none]) rfl rfl ?_
      exact hK _ _ h
    · replace h := h.2 c
      refine s_iload_n hX dX12_bits_10 rfl ?_
      refine s_iload_n hX dX12_bits_11 rfl ?_
      refine s_iload_n hX dX12_bits_12 rfl ?_
      refine s_ishr hX dX12_bits_13 ?_
      refine s_iconst (v := 1) hX dX12_bits_14 rfl ?_
      refine s_iand hX dX12_bits_15 ?_
      refine s_iadd hX dX12_bits_16 ?_
      refine s_nmi (fun x1110 ex1110 => ?_)
      replace h := h x1110 ex1110
      refine s_istore_n (lv' := [some (vi l0), some (vi x1110), some (vi l2)]) hX dX12_bits_17 rfl rfl (Nat.le_of_ble_eq_true rfl) ?_
      refine s_iinc (v := (l2 + 1)) (lv' := [some (vi l0), some (vi x1110), some (vi (l2 + 1))]) hX dX12_bits_18 rfl rfl rfl rfl ?_
      refine s_goto (tgt := 4) hX dX12_bits_21 (by decide) ?_
      exact ih _ _ _ h
def w_Mo_bits (a0 : Int32) (M : Mem) (Q : Int32 → Mem → Prop) : Prop :=
  (∃ n1113, w_Mo_bits_L4 a0 (fun y1112 M1111 => Q y1112 M1111) Q n1113 0 0 M)
set_option maxHeartbeats 4000000 in
theorem t_Mo_bits {X : Cx} (hX : Cok X cX12_bits RX12 3 ((some .int)) 1 0 0) {Q : Int32 → Mem → Prop} (hq : RI X 0 0 LY Q) {M : Mem} {a0 : Int32} (h : w_Mo_bits a0 M Q) : Wat X 0 0 LY 0 [some (vi a0), none, none] [] M := by
  refine s_iconst (v := 0) hX dX12_bits_0 rfl ?_
  refine s_istore_n (lv' := [some (vi a0), some (vi 0), none]) hX dX12_bits_1 rfl rfl (Nat.le_of_ble_eq_true rfl) ?_
  refine s_iconst (v := 0) hX dX12_bits_2 rfl ?_
  refine s_istore_n (lv' := [some (vi a0), some (vi 0), some (vi 0)]) hX dX12_bits_3 rfl rfl (Nat.le_of_ble_eq_true rfl) ?_
  obtain ⟨n1113, h⟩ := h
  refine t_Mo_bits_L4 hX hq ?_ n1113 _ _ _ h
  intro y1112 M1111 h
  refine s_iload_n hX dX12_bits_24 rfl ?_
  exact s_iret hX hq rfl dX12_bits_25 h
theorem c_Mo_bits {a0 : Int32} {M : Mem} {Q : Int32 → Mem → Prop} (h : w_Mo_bits a0 M Q) : CI yX12_bits cX12_bits 3 ((some .int)) 1 0 0 LY LY [vi a0] M Q := mk_i rfl wd_co_X12_bits rfl rfl (Nat.le_of_ble_eq_true rfl) (fun X hX hq => t_Mo_bits hX hq h)
theorem ms_Mo_bits : MS yX12_bits cX12_bits 3 ((some .int)) 1 := ⟨wd_co_X12_bits, wd_sm_X12_bits, wd_in_X12, by decide +kernel, by decide⟩
def w_Mo_sumOf_L4 (l1 : Int32) (K : Int32 → Mem → Prop) (Q : Int32 → Mem → Prop) : Nat → Int32 → Int32 → Mem → Prop
  | 0, _, _, _ => False
  | n + 1, l2, l3, M => w_Mo_persons M (fun r1124 M1123 => ((r1124 ≤ l3 → K l2 M1123) ∧ (¬ r1124 ≤ l3 → ((¬ ((l1 >>> (l3 &&& 31)) &&& 1) = 1 → w_Mo_sumOf_L4 l1 K Q n (l2 + 0) (l3 + 1) M1123) ∧ (((l1 >>> (l3 &&& 31)) &&& 1) = 1 → w_Mo_balanceOf l3 M1123 (fun r1126 M1125 => w_Mo_sumOf_L4 l1 K Q n (l2 + r1126) (l3 + 1) M1125))))))
set_option maxHeartbeats 4000000 in
theorem t_Mo_sumOf_L4 {X : Cx} (hX : Cok X cX12_sumOf RX12 4 ((some .int)) 2 0 0) {Q : Int32 → Mem → Prop} (hq : RI X 0 0 LY Q) {l1 : Int32} {K : Int32 → Mem → Prop} (hK : ∀ (l2 : Int32) (M : Mem), K l2 M → Wat X 0 0 LY 39 [none, none, some (vi l2), none] [] M) : ∀ (n : Nat) (l2 : Int32) (l3 : Int32) (M : Mem), w_Mo_sumOf_L4 l1 K Q n l2 l3 M → Wat X 0 0 LY 4 [some (vr c_mo), some (vi l1), some (vi l2), some (vi l3)] [] M := by
  intro n
  induction n with
  | zero => intro _ _ _ h; exact h.elim
  | succ n ih =>
    intro l2 l3 M h
    refine s_iload_n hX dX12_sumOf_4 rfl ?_
    refine s_aload_n hX dX12_sumOf_5 rfl ?_
    refine s_cvi (as := []) (rest := [vi l3]) hX (c_Mo_persons h) mv_Mo_persons wd_ml_X12_226 dX12_sumOf_6 ly_c_mo rfl rfl (Nat.le_of_ble_eq_true rfl) rfl (by decide) ⟨Nat.zero_le _, Nat.zero_le _⟩ (fun r1124 M1123 h => ?_)
    refine s_icmp_ge (tgt := 39) hX dX12_sumOf_9 (by decide) (fun c => ?_) (fun c => ?_)
    · replace h := h.1 c
      refine s_mask [false, false, true, false] (lv' := [none, none, some (vi l2), none]) rfl rfl ?_
      exact hK _ _ h
    · replace h := h.2 c
      refine s_iload_n hX dX12_sumOf_12 rfl ?_
      refine s_iload_n hX dX12_sumOf_13 rfl ?_
      refine s_iload_n hX dX12_sumOf_14 rfl ?_
      refine s_ishr hX dX12_sumOf_15 ?_
      refine s_iconst (v := 1) hX dX12_sumOf_16 rfl ?_
      refine s_iand hX dX12_sumOf_17 ?_
      refine s_iconst (v := 1) hX dX12_sumOf_18 rfl ?_
      refine s_icmp_ne (tgt := 30) hX dX12_sumOf_19 (by decide) (fun c => ?_) (fun c => ?_)
      · replace h := h.1 c
        refine s_iconst (v := 0) hX dX12_sumOf_30 rfl ?_
        refine s_iadd hX dX12_sumOf_31 ?_
        refine s_istore_n (lv' := [some (vr c_mo), some (vi l1), some (vi (l2 + 0)), some (vi l3)]) hX dX12_sumOf_32 rfl rfl (Nat.le_of_ble_eq_true rfl) ?_
        refine s_iinc (v := (l3 + 1)) (lv' := [some (vr c_mo), some (vi l1), some (vi (l2 + 0)), some (vi (l3 + 1))]) hX dX12_sumOf_33 rfl rfl rfl rfl ?_
        refine s_goto (tgt := 4) hX dX12_sumOf_36 (by decide) ?_
        exact ih _ _ _ h
      · replace h := h.2 c
        refine s_aload_n hX dX12_sumOf_22 rfl ?_
        refine s_iload_n hX dX12_sumOf_23 rfl ?_
        refine s_cvi (as := [vi l3]) (rest := [vi l2]) hX (c_Mo_balanceOf h) mv_Mo_balanceOf wd_ml_X12_367 dX12_sumOf_24 ly_c_mo rfl rfl (Nat.le_of_ble_eq_true rfl) rfl (by decide) ⟨Nat.zero_le _, Nat.zero_le _⟩ (fun r1126 M1125 h => ?_)
        refine s_goto (tgt := 31) hX dX12_sumOf_27 (by decide) ?_
        refine s_iadd hX dX12_sumOf_31 ?_
        refine s_istore_n (lv' := [some (vr c_mo), some (vi l1), some (vi (l2 + r1126)), some (vi l3)]) hX dX12_sumOf_32 rfl rfl (Nat.le_of_ble_eq_true rfl) ?_
        refine s_iinc (v := (l3 + 1)) (lv' := [some (vr c_mo), some (vi l1), some (vi (l2 + r1126)), some (vi (l3 + 1))]) hX dX12_sumOf_33 rfl rfl rfl rfl ?_
        refine s_goto (tgt := 4) hX dX12_sumOf_36 (by decide) ?_
        exact ih _ _ _ h
def w_Mo_sumOf (a0 : Int32) (M : Mem) (Q : Int32 → Mem → Prop) : Prop :=
  (∃ n1129, w_Mo_sumOf_L4 a0 (fun y1128 M1127 => Q y1128 M1127) Q n1129 0 0 M)
set_option maxHeartbeats 4000000 in
theorem t_Mo_sumOf {X : Cx} (hX : Cok X cX12_sumOf RX12 4 ((some .int)) 2 0 0) {Q : Int32 → Mem → Prop} (hq : RI X 0 0 LY Q) {M : Mem} {a0 : Int32} (h : w_Mo_sumOf a0 M Q) : Wat X 0 0 LY 0 [some (vr c_mo), some (vi a0), none, none] [] M := by
  refine s_iconst (v := 0) hX dX12_sumOf_0 rfl ?_
  refine s_istore_n (lv' := [some (vr c_mo), some (vi a0), some (vi 0), none]) hX dX12_sumOf_1 rfl rfl (Nat.le_of_ble_eq_true rfl) ?_
  refine s_iconst (v := 0) hX dX12_sumOf_2 rfl ?_
  refine s_istore_n (lv' := [some (vr c_mo), some (vi a0), some (vi 0), some (vi 0)]) hX dX12_sumOf_3 rfl rfl (Nat.le_of_ble_eq_true rfl) ?_
  obtain ⟨n1129, h⟩ := h
  refine t_Mo_sumOf_L4 hX hq ?_ n1129 _ _ _ h
  intro y1128 M1127 h
  refine s_iload_n hX dX12_sumOf_39 rfl ?_
  exact s_iret hX hq rfl dX12_sumOf_40 h
theorem c_Mo_sumOf {a0 : Int32} {M : Mem} {Q : Int32 → Mem → Prop} (h : w_Mo_sumOf a0 M Q) : CI yX12_sumOf cX12_sumOf 4 ((some .int)) 2 0 0 LY LY [vr c_mo, vi a0] M Q := mk_i rfl wd_co_X12_sumOf rfl rfl (Nat.le_of_ble_eq_true rfl) (fun X hX hq => t_Mo_sumOf hX hq h)
theorem mv_Mo_sumOf : MV yX12_sumOf cX12_sumOf 4 ((some .int)) RX12 1 := ⟨wd_co_X12_sumOf, wd_im_X12_sumOf, wd_se_X12_sumOf, wd_in_X12, by decide +kernel, by decide⟩
def w_Mo_picnic_L108 (l1 : Int32) (l2 : Int32) (l3 : Int32) (l4 : Int32) (l5 : Int32) (l6 : Int32) (l7 : Int32) (l8 : Int32) (l9 : Int32) (K : Mem → Prop) (Q : Int32 → Mem → Prop) : Nat → Int32 → Mem → Prop
  | 0, _, _ => False
  | n + 1, l10, M => w_Mo_persons M (fun r1120 M1119 => ((r1120 ≤ l10 → K M1119) ∧ (¬ r1120 ≤ l10 → (vp_in l10 6 ∧ w_Mo_picnic_L108 l1 l2 l3 l4 l5 l6 l7 l8 l9 K Q n (l10 + 1) (si M1119 c_mo_standing (Int32.toNatClampNeg l10) (if ((l8 >>> (l10 &&& 31)) &&& 1) = 1 then l9 else (-1)))))))
set_option maxHeartbeats 4000000 in
theorem t_Mo_picnic_L108 {X : Cx} (hX : Cok X cX12_picnic RX12 11 ((some .int)) 7 0 0) {Q : Int32 → Mem → Prop} (hq : RI X 0 0 LY Q) {l1 : Int32} {l2 : Int32} {l3 : Int32} {l4 : Int32} {l5 : Int32} {l6 : Int32} {l7 : Int32} {l8 : Int32} {l9 : Int32} {K : Mem → Prop} (hK : ∀ (M : Mem), K M → Wat X 0 0 LY 147 [some (vr c_mo), some (vi l1), some (vi l2), some (vi l3), some (vi l4), some (vi l5), some (vi l6), some (vi l7), some (vi l8), some (vi l9), none] [] M) : ∀ (n : Nat) (l10 : Int32) (M : Mem), w_Mo_picnic_L108 l1 l2 l3 l4 l5 l6 l7 l8 l9 K Q n l10 M → Wat X 0 0 LY 108 [some (vr c_mo), some (vi l1), some (vi l2), some (vi l3), some (vi l4), some (vi l5), some (vi l6), some (vi l7), some (vi l8), some (vi l9), some (vi l10)] [] M := by
  intro n
  induction n with
  | zero => intro _ _ h; exact h.elim
  | succ n ih =>
    intro l10 M h
    refine s_iload hX dX12_picnic_108 rfl ?_
    refine s_aload_n hX dX12_picnic_110 rfl ?_
    refine s_cvi (as := []) (rest := [vi l10]) hX (c_Mo_persons h) mv_Mo_persons wd_ml_X12_226 dX12_picnic_111 ly_c_mo rfl rfl (Nat.le_of_ble_eq_true rfl) rfl (by decide) ⟨Nat.zero_le _, Nat.zero_le _⟩ (fun r1120 M1119 h => ?_)
    refine s_icmp_ge (tgt := 147) hX dX12_picnic_114 (by decide) (fun c => ?_) (fun c => ?_)
    · replace h := h.1 c
      refine s_mask [true, true, true, true, true, true, true, true, true, true, false] (lv' := [some (vr c_mo), some (vi l1), some (vi l2), some (vi l3), some (vi l4), some (vi l5), some (vi l6), some (vi l7), some (vi l8), some (vi l9), none]) rfl rfl ?_
      exact hK _ h
    · replace h := h.2 c
      refine s_aload_n hX dX12_picnic_117 rfl ?_
      refine s_getr hX fi_X12_122 ly_c_mo rfl dX12_picnic_118 ?_
      refine s_iload hX dX12_picnic_121 rfl ?_
      refine s_iload hX dX12_picnic_123 rfl ?_
      refine s_iload hX dX12_picnic_125 rfl ?_
      refine s_ishr hX dX12_picnic_127 ?_
      refine s_iconst (v := 1) hX dX12_picnic_128 rfl ?_
      refine s_iand hX dX12_picnic_129 ?_
      refine s_iconst (v := 1) hX dX12_picnic_130 rfl ?_
      have hJ : Wat X 0 0 LY 140 [some (vr c_mo), some (vi l1), some (vi l2), some (vi l3), some (vi l4), some (vi l5), some (vi l6), some (vi l7), some (vi l8), some (vi l9), some (vi l10)] [vi (if ((l8 >>> (l10 &&& 31)) &&& 1) = 1 then l9 else (-1)), vi l10, vr c_mo_standing] M1119 := by
        have hi := h.1
        replace h := h.2
        refine s_iast hX ly_c_mo_standing hi dX12_picnic_140 ?_
        refine s_iinc (v := (l10 + 1)) (lv' := [some (vr c_mo), some (vi l1), some (vi l2), some (vi l3), some (vi l4), some (vi l5), some (vi l6), some (vi l7), some (vi l8), some (vi l9), some (vi (l10 + 1))]) hX dX12_picnic_141 rfl rfl rfl rfl ?_
        refine s_goto (tgt := 108) hX dX12_picnic_144 (by decide) ?_
        exact ih _ _ h
      refine s_icmp_ne (tgt := 139) hX dX12_picnic_131 (by decide) (fun c => ?_) (fun c => ?_)
      · rw [if_neg c] at hJ
        refine s_iconst (v := (-1)) hX dX12_picnic_139 rfl ?_
        exact hJ
      · rw [if_pos c] at hJ
        refine s_iload hX dX12_picnic_134 rfl ?_
        refine s_goto (tgt := 140) hX dX12_picnic_136 (by decide) ?_
        exact hJ
def w_Mo_picnic_L74 (l1 : Int32) (l2 : Int32) (l3 : Int32) (l4 : Int32) (l8 : Int32) (K : Int32 → Int32 → Int32 → Mem → Prop) (Q : Int32 → Mem → Prop) : Nat → Int32 → Int32 → Int32 → Int32 → Mem → Prop
  | 0, _, _, _, _, _ => False
  | n + 1, l5, l6, l7, l9, M => ((64 ≤ l9 → K l5 l6 l7 M) ∧ (¬ 64 ≤ l9 → w_Mo_bits l8 M (fun r1115 M1114 => ((¬ r1115 = l1 → K l5 l6 l7 M1114) ∧ (r1115 = l1 → w_Mo_isCell l9 M1114 (fun b1117 M1116 => ((b1117 = false → w_Mo_picnic_L74 l1 l2 l3 l4 l8 K Q n l5 l6 l7 (l9 + 1) M1116) ∧ (b1117 = true → w_Mo_standsIn l2 l3 M1116 (fun M1118 => (∃ n1132, w_Mo_picnic_L108 l1 l2 l3 l4 l5 l6 l7 l8 l9 (fun M1121 => w_Mo_findOwes 0 M1121 (fun M1122 => w_Mo_sumOf l8 M1122 (fun r1131 M1130 => ((l5 < 0 → w_Mo_picnic_L74 l1 l2 l3 l4 l8 K Q n l8 l9 r1131 (l9 + 1) M1130) ∧ (¬ l5 < 0 → ((r1131 ≤ l7 → w_Mo_picnic_L74 l1 l2 l3 l4 l8 K Q n l5 l6 l7 (l9 + 1) M1130) ∧ (¬ r1131 ≤ l7 → w_Mo_picnic_L74 l1 l2 l3 l4 l8 K Q n l8 l9 r1131 (l9 + 1) M1130))))))) Q n1132 0 M1118))))))))))
set_option maxHeartbeats 4000000 in
theorem t_Mo_picnic_L74 {X : Cx} (hX : Cok X cX12_picnic RX12 11 ((some .int)) 7 0 0) {Q : Int32 → Mem → Prop} (hq : RI X 0 0 LY Q) {l1 : Int32} {l2 : Int32} {l3 : Int32} {l4 : Int32} {l8 : Int32} {K : Int32 → Int32 → Int32 → Mem → Prop} (hK : ∀ (l5 : Int32) (l6 : Int32) (l7 : Int32) (M : Mem), K l5 l6 l7 M → Wat X 0 0 LY 190 [some (vr c_mo), some (vi l1), some (vi l2), some (vi l3), some (vi l4), some (vi l5), some (vi l6), some (vi l7), some (vi l8), none, none] [] M) : ∀ (n : Nat) (l5 : Int32) (l6 : Int32) (l7 : Int32) (l9 : Int32) (M : Mem), w_Mo_picnic_L74 l1 l2 l3 l4 l8 K Q n l5 l6 l7 l9 M → Wat X 0 0 LY 74 [some (vr c_mo), some (vi l1), some (vi l2), some (vi l3), some (vi l4), some (vi l5), some (vi l6), some (vi l7), some (vi l8), some (vi l9), none] [] M := by
  intro n
  induction n with
  | zero => intro _ _ _ _ _ h; exact h.elim
  | succ n ih =>
    intro l5 l6 l7 l9 M h
    refine s_iload hX dX12_picnic_74 rfl ?_
    refine s_bipush (v := 64) hX dX12_picnic_76 rfl ?_
    refine s_icmp_ge (tgt := 190) hX dX12_picnic_78 (by decide) (fun c => ?_) (fun c => ?_)
    · replace h := h.1 c
      refine s_mask [true, true, true, true, true, true, true, true, true, false, true] (lv' := [some (vr c_mo), some (vi l1), some (vi l2), some (vi l3), some (vi l4), some (vi l5), some (vi l6), some (vi l7), some (vi l8), none, none]) rfl rfl ?_
      exact hK _ _ _ _ h
    · replace h := h.2 c
      refine s_iload hX dX12_picnic_81 rfl ?_
      refine s_csi (as := [vi l8]) (rest := []) hX (c_Mo_bits h) ms_Mo_bits wd_ml_X12_404 dX12_picnic_83 rfl (Nat.le_of_ble_eq_true rfl) rfl (by decide) ⟨Nat.zero_le _, Nat.zero_le _⟩ (fun r1115 M1114 h => ?_)
      refine s_iload_n hX dX12_picnic_86 rfl ?_
      refine s_icmp_ne (tgt := 190) hX dX12_picnic_87 (by decide) (fun c => ?_) (fun c => ?_)
      · replace h := h.1 c
        refine s_mask [true, true, true, true, true, true, true, true, true, false, true] (lv' := [some (vr c_mo), some (vi l1), some (vi l2), some (vi l3), some (vi l4), some (vi l5), some (vi l6), some (vi l7), some (vi l8), none, none]) rfl rfl ?_
        exact hK _ _ _ _ h
      · replace h := h.2 c
        refine s_aload_n hX dX12_picnic_90 rfl ?_
        refine s_iload hX dX12_picnic_91 rfl ?_
        refine s_cvi (as := [vi l9]) (rest := []) hX (c_Mo_isCell h) mv_Mo_isCell wd_ml_X12_382 dX12_picnic_93 ly_c_mo rfl rfl (Nat.le_of_ble_eq_true rfl) rfl (by decide) ⟨Nat.zero_le _, Nat.zero_le _⟩ (fun b1117_ M1116 h => ?_)
        obtain ⟨b1117, rfl, h⟩ := h
        refine s_if_eq (tgt := 184) hX dX12_picnic_96 (by decide) (fun c => ?_) (fun c => ?_)
        · replace h := h.1 (b2i_0 c)
          refine s_iinc (v := (l9 + 1)) (lv' := [some (vr c_mo), some (vi l1), some (vi l2), some (vi l3), some (vi l4), some (vi l5), some (vi l6), some (vi l7), some (vi l8), some (vi (l9 + 1)), none]) hX dX12_picnic_184 rfl rfl rfl rfl ?_
          refine s_goto (tgt := 74) hX dX12_picnic_187 (by decide) ?_
          exact ih _ _ _ _ _ h
        · replace h := h.2 (b2i_1 c)
          refine s_aload_n hX dX12_picnic_99 rfl ?_
          refine s_iload_n hX dX12_picnic_100 rfl ?_
          refine s_iload_n hX dX12_picnic_101 rfl ?_
          refine s_cvv (as := [vi l2, vi l3]) (rest := []) hX (c_Mo_standsIn h) mv_Mo_standsIn wd_ml_X12_389 dX12_picnic_102 ly_c_mo rfl rfl (Nat.le_of_ble_eq_true rfl) rfl (by decide) ⟨Nat.zero_le _, Nat.zero_le _⟩ (fun M1118 h => ?_)
          refine s_iconst (v := 0) hX dX12_picnic_105 rfl ?_
          refine s_istore (lv' := [some (vr c_mo), some (vi l1), some (vi l2), some (vi l3), some (vi l4), some (vi l5), some (vi l6), some (vi l7), some (vi l8), some (vi l9), some (vi 0)]) hX dX12_picnic_106 rfl rfl (Nat.le_of_ble_eq_true rfl) ?_
          obtain ⟨n1132, h⟩ := h
          refine t_Mo_picnic_L108 hX hq ?_ n1132 _ _ h
          intro M1121 h
          refine s_aload_n hX dX12_picnic_147 rfl ?_
          refine s_iconst (v := 0) hX dX12_picnic_148 rfl ?_
          refine s_cvv (as := [vi 0]) (rest := []) hX (c_Mo_findOwes h) mv_Mo_findOwes wd_ml_X12_364 dX12_picnic_149 ly_c_mo rfl rfl (Nat.le_of_ble_eq_true rfl) rfl (by decide) ⟨Nat.zero_le _, Nat.zero_le _⟩ (fun M1122 h => ?_)
          refine s_aload_n hX dX12_picnic_152 rfl ?_
          refine s_iload hX dX12_picnic_153 rfl ?_
          refine s_cvi (as := [vi l8]) (rest := []) hX (c_Mo_sumOf h) mv_Mo_sumOf wd_ml_X12_407 dX12_picnic_155 ly_c_mo rfl rfl (Nat.le_of_ble_eq_true rfl) rfl (by decide) ⟨Nat.zero_le _, Nat.zero_le _⟩ (fun r1131 M1130 h => ?_)
          refine s_istore (lv' := [some (vr c_mo), some (vi l1), some (vi l2), some (vi l3), some (vi l4), some (vi l5), some (vi l6), some (vi l7), some (vi l8), some (vi l9), some (vi r1131)]) hX dX12_picnic_158 rfl rfl (Nat.le_of_ble_eq_true rfl) ?_
          refine s_iload hX dX12_picnic_160 rfl ?_
          refine s_if_lt (tgt := 172) hX dX12_picnic_162 (by decide) (fun c => ?_) (fun c => ?_)
          · replace h := h.1 c
            refine s_iload hX dX12_picnic_172 rfl ?_
            refine s_istore (lv' := [some (vr c_mo), some (vi l1), some (vi l2), some (vi l3), some (vi l4), some (vi l8), some (vi l6), some (vi l7), some (vi l8), some (vi l9), some (vi r1131)]) hX dX12_picnic_174 rfl rfl (Nat.le_of_ble_eq_true rfl) ?_
            refine s_iload hX dX12_picnic_176 rfl ?_
            refine s_istore (lv' := [some (vr c_mo), some (vi l1), some (vi l2), some (vi l3), some (vi l4), some (vi l8), some (vi l9), some (vi l7), some (vi l8), some (vi l9), some (vi r1131)]) hX dX12_picnic_178 rfl rfl (Nat.le_of_ble_eq_true rfl) ?_
            refine s_iload hX dX12_picnic_180 rfl ?_
            refine s_istore (lv' := [some (vr c_mo), some (vi l1), some (vi l2), some (vi l3), some (vi l4), some (vi l8), some (vi l9), some (vi r1131), some (vi l8), some (vi l9), some (vi r1131)]) hX dX12_picnic_182 rfl rfl (Nat.le_of_ble_eq_true rfl) ?_
            refine s_iinc (v := (l9 + 1)) (lv' := [some (vr c_mo), some (vi l1), some (vi l2), some (vi l3), some (vi l4), some (vi l8), some (vi l9), some (vi r1131), some (vi l8), some (vi (l9 + 1)), some (vi r1131)]) hX dX12_picnic_184 rfl rfl rfl rfl ?_
            refine s_goto (tgt := 74) hX dX12_picnic_187 (by decide) ?_
            refine s_mask [true, true, true, true, true, true, true, true, true, true, false] (lv' := [some (vr c_mo), some (vi l1), some (vi l2), some (vi l3), some (vi l4), some (vi l8), some (vi l9), some (vi r1131), some (vi l8), some (vi (l9 + 1)), none]) rfl rfl ?_
            exact ih _ _ _ _ _ h
          · replace h := h.2 c
            refine s_iload hX dX12_picnic_165 rfl ?_
            refine s_iload hX dX12_picnic_167 rfl ?_
            refine s_icmp_le (tgt := 184) hX dX12_picnic_169 (by decide) (fun c => ?_) (fun c => ?_)
            · replace h := h.1 c
              refine s_iinc (v := (l9 + 1)) (lv' := [some (vr c_mo), some (vi l1), some (vi l2), some (vi l3), some (vi l4), some (vi l5), some (vi l6), some (vi l7), some (vi l8), some (vi (l9 + 1)), some (vi r1131)]) hX dX12_picnic_184 rfl rfl rfl rfl ?_
              refine s_goto (tgt := 74) hX dX12_picnic_187 (by decide) ?_
              refine s_mask [true, true, true, true, true, true, true, true, true, true, false] (lv' := [some (vr c_mo), some (vi l1), some (vi l2), some (vi l3), some (vi l4), some (vi l5), some (vi l6), some (vi l7), some (vi l8), some (vi (l9 + 1)), none]) rfl rfl ?_
              exact ih _ _ _ _ _ h
            · replace h := h.2 c
              refine s_iload hX dX12_picnic_172 rfl ?_
              refine s_istore (lv' := [some (vr c_mo), some (vi l1), some (vi l2), some (vi l3), some (vi l4), some (vi l8), some (vi l6), some (vi l7), some (vi l8), some (vi l9), some (vi r1131)]) hX dX12_picnic_174 rfl rfl (Nat.le_of_ble_eq_true rfl) ?_
              refine s_iload hX dX12_picnic_176 rfl ?_
              refine s_istore (lv' := [some (vr c_mo), some (vi l1), some (vi l2), some (vi l3), some (vi l4), some (vi l8), some (vi l9), some (vi l7), some (vi l8), some (vi l9), some (vi r1131)]) hX dX12_picnic_178 rfl rfl (Nat.le_of_ble_eq_true rfl) ?_
              refine s_iload hX dX12_picnic_180 rfl ?_
              refine s_istore (lv' := [some (vr c_mo), some (vi l1), some (vi l2), some (vi l3), some (vi l4), some (vi l8), some (vi l9), some (vi r1131), some (vi l8), some (vi l9), some (vi r1131)]) hX dX12_picnic_182 rfl rfl (Nat.le_of_ble_eq_true rfl) ?_
              refine s_iinc (v := (l9 + 1)) (lv' := [some (vr c_mo), some (vi l1), some (vi l2), some (vi l3), some (vi l4), some (vi l8), some (vi l9), some (vi r1131), some (vi l8), some (vi (l9 + 1)), some (vi r1131)]) hX dX12_picnic_184 rfl rfl rfl rfl ?_
              refine s_goto (tgt := 74) hX dX12_picnic_187 (by decide) ?_
              refine s_mask [true, true, true, true, true, true, true, true, true, true, false] (lv' := [some (vr c_mo), some (vi l1), some (vi l2), some (vi l3), some (vi l4), some (vi l8), some (vi l9), some (vi r1131), some (vi l8), some (vi (l9 + 1)), none]) rfl rfl ?_
              exact ih _ _ _ _ _ h
def w_Mo_picnic_L60 (l1 : Int32) (l2 : Int32) (l3 : Int32) (l4 : Int32) (K : Int32 → Int32 → Int32 → Mem → Prop) (Q : Int32 → Mem → Prop) : Nat → Int32 → Int32 → Int32 → Int32 → Mem → Prop
  | 0, _, _, _, _, _ => False
  | n + 1, l5, l6, l7, l8, M => w_Mo_persons M (fun r1109 M1108 => (((1 <<< (r1109 &&& 31)) ≤ l8 → K l5 l6 l7 M1108) ∧ (¬ (1 <<< (r1109 &&& 31)) ≤ l8 → (∃ n1137, w_Mo_picnic_L74 l1 l2 l3 l4 l8 (fun y1134 y1135 y1136 M1133 => w_Mo_picnic_L60 l1 l2 l3 l4 K Q n y1134 y1135 y1136 (l8 + 1) M1133) Q n1137 l5 l6 l7 0 M1108))))
set_option maxHeartbeats 4000000 in
theorem t_Mo_picnic_L60 {X : Cx} (hX : Cok X cX12_picnic RX12 11 ((some .int)) 7 0 0) {Q : Int32 → Mem → Prop} (hq : RI X 0 0 LY Q) {l1 : Int32} {l2 : Int32} {l3 : Int32} {l4 : Int32} {K : Int32 → Int32 → Int32 → Mem → Prop} (hK : ∀ (l5 : Int32) (l6 : Int32) (l7 : Int32) (M : Mem), K l5 l6 l7 M → Wat X 0 0 LY 196 [some (vr c_mo), none, none, none, some (vi l4), some (vi l5), some (vi l6), some (vi l7), none, none, none] [] M) : ∀ (n : Nat) (l5 : Int32) (l6 : Int32) (l7 : Int32) (l8 : Int32) (M : Mem), w_Mo_picnic_L60 l1 l2 l3 l4 K Q n l5 l6 l7 l8 M → Wat X 0 0 LY 60 [some (vr c_mo), some (vi l1), some (vi l2), some (vi l3), some (vi l4), some (vi l5), some (vi l6), some (vi l7), some (vi l8), none, none] [] M := by
  intro n
  induction n with
  | zero => intro _ _ _ _ _ h; exact h.elim
  | succ n ih =>
    intro l5 l6 l7 l8 M h
    refine s_iload hX dX12_picnic_60 rfl ?_
    refine s_iconst (v := 1) hX dX12_picnic_62 rfl ?_
    refine s_aload_n hX dX12_picnic_63 rfl ?_
    refine s_cvi (as := []) (rest := [vi 1, vi l8]) hX (c_Mo_persons h) mv_Mo_persons wd_ml_X12_226 dX12_picnic_64 ly_c_mo rfl rfl (Nat.le_of_ble_eq_true rfl) rfl (by decide) ⟨Nat.zero_le _, Nat.zero_le _⟩ (fun r1109 M1108 h => ?_)
    refine s_ishl hX dX12_picnic_67 ?_
    refine s_icmp_ge (tgt := 196) hX dX12_picnic_68 (by decide) (fun c => ?_) (fun c => ?_)
    · replace h := h.1 c
      refine s_mask [true, false, false, false, true, true, true, true, false, true, true] (lv' := [some (vr c_mo), none, none, none, some (vi l4), some (vi l5), some (vi l6), some (vi l7), none, none, none]) rfl rfl ?_
      exact hK _ _ _ _ h
    · replace h := h.2 c
      refine s_iconst (v := 0) hX dX12_picnic_71 rfl ?_
      refine s_istore (lv' := [some (vr c_mo), some (vi l1), some (vi l2), some (vi l3), some (vi l4), some (vi l5), some (vi l6), some (vi l7), some (vi l8), some (vi 0), none]) hX dX12_picnic_72 rfl rfl (Nat.le_of_ble_eq_true rfl) ?_
      obtain ⟨n1137, h⟩ := h
      refine t_Mo_picnic_L74 hX hq ?_ n1137 _ _ _ _ _ h
      intro y1134 y1135 y1136 M1133 h
      refine s_iinc (v := (l8 + 1)) (lv' := [some (vr c_mo), some (vi l1), some (vi l2), some (vi l3), some (vi l4), some (vi y1134), some (vi y1135), some (vi y1136), some (vi (l8 + 1)), none, none]) hX dX12_picnic_190 rfl rfl rfl rfl ?_
      refine s_goto (tgt := 60) hX dX12_picnic_193 (by decide) ?_
      exact ih _ _ _ _ _ h
def w_Mo_picnic_j36 (l1 : Int32) (l2 : Int32) (l3 : Int32) (l4 : Int32) (s1 : Int32) (M : Mem) (Q : Int32 → Mem → Prop) : Prop :=
  ((s1 ≤ 0 → (∃ n1143, w_Mo_picnic_L60 l1 l2 l3 l4 (fun y1139 y1140 y1141 M1138 => w_Mo_standsAsTold M1138 (fun M1142 => ((¬ l4 = 0 → ((¬ l4 = 1 → Q y1141 M1142) ∧ (l4 = 1 → Q y1140 M1142))) ∧ (l4 = 0 → Q y1139 M1142)))) Q n1143 (-1) (-1) 0 1 (si M c_mo Mo_thrown s1))) ∧ (¬ s1 ≤ 0 → Q 0 (si M c_mo Mo_thrown s1)))
set_option maxHeartbeats 4000000 in
theorem t_Mo_picnic_j36 {X : Cx} (hX : Cok X cX12_picnic RX12 11 ((some .int)) 7 0 0) {Q : Int32 → Mem → Prop} (hq : RI X 0 0 LY Q) {l1 : Int32} {l2 : Int32} {l3 : Int32} {l4 : Int32} {s1 : Int32} {M : Mem} (h : w_Mo_picnic_j36 l1 l2 l3 l4 s1 M Q) : Wat X 0 0 LY 36 [some (vr c_mo), some (vi l1), some (vi l2), some (vi l3), some (vi l4), none, none, none, none, none, none] [vi s1, vr c_mo] M := by
  refine s_puti hX fi_X12_1 fp_X12 rfl (by decide +kernel) ly_c_mo rfl dX12_picnic_36 ?_
  refine s_aload_n hX dX12_picnic_39 rfl ?_
  refine s_getiv (v := s1) hX fi_X12_1 ly_c_mo rfl dX12_picnic_40 rfl ?_
  refine s_if_le (tgt := 48) hX dX12_picnic_43 (by decide) (fun c => ?_) (fun c => ?_)
  · replace h := h.1 c
    refine s_iconst (v := (-1)) hX dX12_picnic_48 rfl ?_
    refine s_istore (lv' := [some (vr c_mo), some (vi l1), some (vi l2), some (vi l3), some (vi l4), some (vi (-1)), none, none, none, none, none]) hX dX12_picnic_49 rfl rfl (Nat.le_of_ble_eq_true rfl) ?_
    refine s_iconst (v := (-1)) hX dX12_picnic_51 rfl ?_
    refine s_istore (lv' := [some (vr c_mo), some (vi l1), some (vi l2), some (vi l3), some (vi l4), some (vi (-1)), some (vi (-1)), none, none, none, none]) hX dX12_picnic_52 rfl rfl (Nat.le_of_ble_eq_true rfl) ?_
    refine s_iconst (v := 0) hX dX12_picnic_54 rfl ?_
    refine s_istore (lv' := [some (vr c_mo), some (vi l1), some (vi l2), some (vi l3), some (vi l4), some (vi (-1)), some (vi (-1)), some (vi 0), none, none, none]) hX dX12_picnic_55 rfl rfl (Nat.le_of_ble_eq_true rfl) ?_
    refine s_iconst (v := 1) hX dX12_picnic_57 rfl ?_
    refine s_istore (lv' := [some (vr c_mo), some (vi l1), some (vi l2), some (vi l3), some (vi l4), some (vi (-1)), some (vi (-1)), some (vi 0), some (vi 1), none, none]) hX dX12_picnic_58 rfl rfl (Nat.le_of_ble_eq_true rfl) ?_
    obtain ⟨n1143, h⟩ := h
    refine t_Mo_picnic_L60 hX hq ?_ n1143 _ _ _ _ _ h
    intro y1139 y1140 y1141 M1138 h
    refine s_aload_n hX dX12_picnic_196 rfl ?_
    refine s_cvv (as := []) (rest := []) hX (c_Mo_standsAsTold h) mv_Mo_standsAsTold wd_ml_X12_314 dX12_picnic_197 ly_c_mo rfl rfl (Nat.le_of_ble_eq_true rfl) rfl (by decide) ⟨Nat.zero_le _, Nat.zero_le _⟩ (fun M1142 h => ?_)
    refine s_iload hX dX12_picnic_200 rfl ?_
    refine s_if_ne (tgt := 210) hX dX12_picnic_202 (by decide) (fun c => ?_) (fun c => ?_)
    · replace h := h.1 c
      refine s_iload hX dX12_picnic_210 rfl ?_
      refine s_iconst (v := 1) hX dX12_picnic_212 rfl ?_
      refine s_icmp_ne (tgt := 221) hX dX12_picnic_213 (by decide) (fun c => ?_) (fun c => ?_)
      · replace h := h.1 c
        refine s_iload hX dX12_picnic_221 rfl ?_
        exact s_iret hX hq rfl dX12_picnic_223 h
      · replace h := h.2 c
        refine s_iload hX dX12_picnic_216 rfl ?_
        refine s_goto (tgt := 223) hX dX12_picnic_218 (by decide) ?_
        exact s_iret hX hq rfl dX12_picnic_223 h
    · replace h := h.2 c
      refine s_iload hX dX12_picnic_205 rfl ?_
      refine s_goto (tgt := 223) hX dX12_picnic_207 (by decide) ?_
      exact s_iret hX hq rfl dX12_picnic_223 h
  · replace h := h.2 c
    refine s_iconst (v := 0) hX dX12_picnic_46 rfl ?_
    exact s_iret hX hq rfl dX12_picnic_47 h
def w_Mo_picnic_j35 (l1 : Int32) (l2 : Int32) (l3 : Int32) (l4 : Int32) (M : Mem) (Q : Int32 → Mem → Prop) : Prop :=
  w_Mo_picnic_j36 l1 l2 l3 l4 1 M Q
set_option maxHeartbeats 4000000 in
theorem t_Mo_picnic_j35 {X : Cx} (hX : Cok X cX12_picnic RX12 11 ((some .int)) 7 0 0) {Q : Int32 → Mem → Prop} (hq : RI X 0 0 LY Q) {l1 : Int32} {l2 : Int32} {l3 : Int32} {l4 : Int32} {M : Mem} (h : w_Mo_picnic_j35 l1 l2 l3 l4 M Q) : Wat X 0 0 LY 35 [some (vr c_mo), some (vi l1), some (vi l2), some (vi l3), some (vi l4), none, none, none, none, none, none] [vr c_mo] M := by
  refine s_iconst (v := 1) hX dX12_picnic_35 rfl ?_
  exact t_Mo_picnic_j36 hX hq h
def w_Mo_picnic (a0 : Int32) (a1 : Int32) (a2 : Int32) (a3 : Int32) (M : Mem) (Q : Int32 → Mem → Prop) : Prop :=
  w_Mo_persons M (fun r1105 M1104 => w_Mo_within a0 1 r1105 M1104 (fun b1107 M1106 => ((b1107 = false → w_Mo_picnic_j35 a0 a1 a2 a3 M1106 Q) ∧ (b1107 = true → w_Mo_areHours a1 a2 M1106 (fun b1145 M1144 => ((b1145 = false → w_Mo_picnic_j35 a0 a1 a2 a3 M1144 Q) ∧ (b1145 = true → w_Mo_within a3 0 2 M1144 (fun b1147 M1146 => w_Mo_picnic_j36 a0 a1 a2 a3 (if b1147 = true then (0 : Int32) else 1) M1146 Q))))))))
set_option maxHeartbeats 4000000 in
theorem t_Mo_picnic {X : Cx} (hX : Cok X cX12_picnic RX12 11 ((some .int)) 7 0 0) {Q : Int32 → Mem → Prop} (hq : RI X 0 0 LY Q) {M : Mem} {a0 : Int32} {a1 : Int32} {a2 : Int32} {a3 : Int32} (h : w_Mo_picnic a0 a1 a2 a3 M Q) : Wat X 0 0 LY 0 [some (vr c_mo), some (vi a0), some (vi a1), some (vi a2), some (vi a3), none, none, none, none, none, none] [] M := by
  refine s_aload_n hX dX12_picnic_0 rfl ?_
  refine s_iload_n hX dX12_picnic_1 rfl ?_
  refine s_iconst (v := 1) hX dX12_picnic_2 rfl ?_
  refine s_aload_n hX dX12_picnic_3 rfl ?_
  refine s_cvi (as := []) (rest := [vi 1, vi a0, vr c_mo]) hX (c_Mo_persons h) mv_Mo_persons wd_ml_X12_226 dX12_picnic_4 ly_c_mo rfl rfl (Nat.le_of_ble_eq_true rfl) rfl (by decide) ⟨Nat.zero_le _, Nat.zero_le _⟩ (fun r1105 M1104 h => ?_)
  refine s_csi (as := [vi a0, vi 1, vi r1105]) (rest := [vr c_mo]) hX (c_Mo_within h) ms_Mo_within wd_ml_X12_355 dX12_picnic_7 rfl (Nat.le_of_ble_eq_true rfl) rfl (by decide) ⟨Nat.zero_le _, Nat.zero_le _⟩ (fun b1107_ M1106 h => ?_)
  obtain ⟨b1107, rfl, h⟩ := h
  refine s_if_eq (tgt := 35) hX dX12_picnic_10 (by decide) (fun c => ?_) (fun c => ?_)
  · replace h := h.1 (b2i_0 c)
    exact t_Mo_picnic_j35 hX hq h
  · replace h := h.2 (b2i_1 c)
    refine s_iload_n hX dX12_picnic_13 rfl ?_
    refine s_iload_n hX dX12_picnic_14 rfl ?_
    refine s_csi (as := [vi a1, vi a2]) (rest := [vr c_mo]) hX (c_Mo_areHours h) ms_Mo_areHours wd_ml_X12_385 dX12_picnic_15 rfl (Nat.le_of_ble_eq_true rfl) rfl (by decide) ⟨Nat.zero_le _, Nat.zero_le _⟩ (fun b1145_ M1144 h => ?_)
    obtain ⟨b1145, rfl, h⟩ := h
    refine s_if_eq (tgt := 35) hX dX12_picnic_18 (by decide) (fun c => ?_) (fun c => ?_)
    · replace h := h.1 (b2i_0 c)
      exact t_Mo_picnic_j35 hX hq h
    · replace h := h.2 (b2i_1 c)
      refine s_iload hX dX12_picnic_21 rfl ?_
      refine s_iconst (v := 0) hX dX12_picnic_23 rfl ?_
      refine s_iconst (v := 2) hX dX12_picnic_24 rfl ?_
      refine s_csi (as := [vi a3, vi 0, vi 2]) (rest := [vr c_mo]) hX (c_Mo_within h) ms_Mo_within wd_ml_X12_355 dX12_picnic_25 rfl (Nat.le_of_ble_eq_true rfl) rfl (by decide) ⟨Nat.zero_le _, Nat.zero_le _⟩ (fun b1147_ M1146 h => ?_)
      obtain ⟨b1147, rfl, h⟩ := h
      have hJ : Wat X 0 0 LY 36 [some (vr c_mo), some (vi a0), some (vi a1), some (vi a2), some (vi a3), none, none, none, none, none, none] [vi (if b1147 = true then (0 : Int32) else 1), vr c_mo] M1146 := by
        exact t_Mo_picnic_j36 hX hq h
      refine s_if_eq (tgt := 35) hX dX12_picnic_28 (by decide) (fun c => ?_) (fun c => ?_)
      · rw [if_neg (by simp [b2i_0 c])] at hJ
        refine s_iconst (v := 1) hX dX12_picnic_35 rfl ?_
        exact hJ
      · rw [if_pos (by simp [b2i_1 c])] at hJ
        refine s_iconst (v := 0) hX dX12_picnic_31 rfl ?_
        refine s_goto (tgt := 36) hX dX12_picnic_32 (by decide) ?_
        exact hJ
theorem c_Mo_picnic {a0 : Int32} {a1 : Int32} {a2 : Int32} {a3 : Int32} {M : Mem} {Q : Int32 → Mem → Prop} (h : w_Mo_picnic a0 a1 a2 a3 M Q) : CI yX12_picnic cX12_picnic 11 ((some .int)) 7 0 0 LY LY [vr c_mo, vi a0, vi a1, vi a2, vi a3] M Q := mk_i rfl wd_co_X12_picnic rfl rfl (Nat.le_of_ble_eq_true rfl) (fun X hX hq => t_Mo_picnic hX hq h)
theorem mv_Mo_picnic : MV yX12_picnic cX12_picnic 11 ((some .int)) RX12 4 := ⟨wd_co_X12_picnic, wd_im_X12_picnic, wd_se_X12_picnic, wd_in_X12, by decide +kernel, by decide⟩
