def w_Songs_countRows (a0 : Int32) (M : Mem) (Q : Int32 → Mem → Prop) : Prop :=
  w_Songs_findRow a0 (-1) M (fun b546 M545 => Q (M545.1 c_songs Songs_found) M545)
set_option maxHeartbeats 4000000 in
theorem t_Songs_countRows {X : Cx} (hX : Cok X cX9_countRows RX9 2 ((some .int)) 68 0 0) {Q : Int32 → Mem → Prop} (hq : RI X 0 0 LY Q) {M : Mem} {a0 : Int32} (h : w_Songs_countRows a0 M Q) : Wat X 0 0 LY 0 [some (vr c_songs), some (vi a0)] [] M := by
  refine s_aload_n hX dX9_countRows_0 rfl ?_
  refine s_iload_n hX dX9_countRows_1 rfl ?_
  refine s_iconst (v := (-1)) hX dX9_countRows_2 rfl ?_
  refine s_cvi (as := [vi a0, vi (-1)]) (rest := []) hX (c_Songs_findRow h) mv_Songs_findRow wd_ml_X9_33 dX9_countRows_3 ly_c_songs rfl rfl (Nat.le_of_ble_eq_true rfl) rfl (by decide) ⟨Nat.zero_le _, Nat.zero_le _⟩ (fun b546_ M545 h => ?_)
  obtain ⟨b546, rfl, h⟩ := h
  refine s_pop hX dX9_countRows_6 rfl ?_
  refine s_aload_n hX dX9_countRows_7 rfl ?_
  refine s_getiv (v := (M545.1 c_songs Songs_found)) hX fi_X9_37 ly_c_songs rfl dX9_countRows_8 rfl ?_
  exact s_iret hX hq rfl dX9_countRows_11 h
theorem c_Songs_countRows {a0 : Int32} {M : Mem} {Q : Int32 → Mem → Prop} (h : w_Songs_countRows a0 M Q) : CI yX9_countRows cX9_countRows 2 ((some .int)) 68 0 0 LY LY [vr c_songs, vi a0] M Q := mk_i rfl wd_co_X9_countRows rfl rfl (Nat.le_of_ble_eq_true rfl) (fun X hX hq => t_Songs_countRows hX hq h)
theorem mv_Songs_countRows : MV yX9_countRows cX9_countRows 2 ((some .int)) RX9 1 := ⟨wd_co_X9_countRows, wd_im_X9_countRows, wd_se_X9_countRows, wd_in_X9, by decide +kernel, by decide⟩
def w_Top_sang (a0 : Int32) (M : Mem) (Q : Int32 → Mem → Prop) : Prop :=
  w_Top_isHour a0 M (fun b504 M503 => ((b504 = true → w_Songs_countRows a0 M503 (fun r548 M547 => Q r548 M547)) ∧ (b504 = false → Q (-1) M503)))
set_option maxHeartbeats 4000000 in
theorem t_Top_sang {X : Cx} (hX : Cok X cX11_sang RX11 2 ((some .int)) 69 0 0) {Q : Int32 → Mem → Prop} (hq : RI X 0 0 LY Q) {M : Mem} {a0 : Int32} (h : w_Top_sang a0 M Q) : Wat X 0 0 LY 0 [some (vr c_xx), some (vi a0)] [] M := by
  refine s_iload_n hX dX11_sang_0 rfl ?_
  refine s_csi (as := [vi a0]) (rest := []) hX (c_Top_isHour h) ms_Top_isHour wd_ml_X11_124 dX11_sang_1 rfl (Nat.le_of_ble_eq_true rfl) rfl (by decide) ⟨Nat.zero_le _, Nat.zero_le _⟩ (fun b504_ M503 h => ?_)
  obtain ⟨b504, rfl, h⟩ := h
  refine s_if_ne (tgt := 9) hX dX11_sang_4 (by decide) (fun c => ?_) (fun c => ?_)
  · replace h := h.1 (b2i_1 c)
    refine s_aload_n hX dX11_sang_9 rfl ?_
    refine s_getr hX fi_X11_74 ly_c_xx rfl dX11_sang_10 ?_
    refine s_iload_n hX dX11_sang_13 rfl ?_
    refine s_cvi (as := [vi a0]) (rest := []) hX (c_Songs_countRows h) mv_Songs_countRows wd_ml_X11_245 dX11_sang_14 ly_c_songs rfl rfl (Nat.le_of_ble_eq_true rfl) rfl (by decide) ⟨Nat.zero_le _, Nat.zero_le _⟩ (fun r548 M547 h => ?_)
    exact s_iret hX hq rfl dX11_sang_17 h
  · replace h := h.2 (b2i_0 c)
    refine s_iconst (v := (-1)) hX dX11_sang_7 rfl ?_
    exact s_iret hX hq rfl dX11_sang_8 h
theorem c_Top_sang {a0 : Int32} {M : Mem} {Q : Int32 → Mem → Prop} (h : w_Top_sang a0 M Q) : CI yX11_sang cX11_sang 2 ((some .int)) 69 0 0 LY LY [vr c_xx, vi a0] M Q := mk_i rfl wd_co_X11_sang rfl rfl (Nat.le_of_ble_eq_true rfl) (fun X hX hq => t_Top_sang hX hq h)
theorem mv_Top_sang : MV yX11_sang cX11_sang 2 ((some .int)) RX11 1 := ⟨wd_co_X11_sang, wd_im_X11_sang, wd_se_X11_sang, wd_in_X11, by decide +kernel, by decide⟩
def w_Top_song (a0 : Int32) (a1 : Int32) (a2 : Int32) (M : Mem) (Q : Int32 → Mem → Prop) : Prop :=
  w_Top_isHour a0 M (fun b550 M549 => ((b550 = false → Q (-1) M549) ∧ (b550 = true → ((a1 < 0 → Q (-1) M549) ∧ (¬ a1 < 0 → w_Top_isBird a2 M549 (fun b552 M551 => ((b552 = false → Q (-1) M551) ∧ (b552 = true → w_Deeds_isShot a2 M551 (fun b554 M553 => ((b554 = false → w_Songs_findRow a0 a1 M553 (fun b556 M555 => ((b556 = false → Q (-1) M555) ∧ (b556 = true → (vp_in a2 5 ∧ Q (M555.1 c_songs_row (Int32.toNatClampNeg a2)) M555))))) ∧ (b554 = true → Q (-1) M553)))))))))))
set_option maxHeartbeats 4000000 in
theorem t_Top_song {X : Cx} (hX : Cok X cX11_song RX11 4 ((some .int)) 68 0 0) {Q : Int32 → Mem → Prop} (hq : RI X 0 0 LY Q) {M : Mem} {a0 : Int32} {a1 : Int32} {a2 : Int32} (h : w_Top_song a0 a1 a2 M Q) : Wat X 0 0 LY 0 [some (vr c_xx), some (vi a0), some (vi a1), some (vi a2)] [] M := by
  refine s_iload_n hX dX11_song_0 rfl ?_
  refine s_csi (as := [vi a0]) (rest := []) hX (c_Top_isHour h) ms_Top_isHour wd_ml_X11_124 dX11_song_1 rfl (Nat.le_of_ble_eq_true rfl) rfl (by decide) ⟨Nat.zero_le _, Nat.zero_le _⟩ (fun b550_ M549 h => ?_)
  obtain ⟨b550, rfl, h⟩ := h
  refine s_if_eq (tgt := 30) hX dX11_song_4 (by decide) (fun c => ?_) (fun c => ?_)
  · replace h := h.1 (b2i_0 c)
    refine s_iconst (v := (-1)) hX dX11_song_30 rfl ?_
    exact s_iret hX hq rfl dX11_song_31 h
  · replace h := h.2 (b2i_1 c)
    refine s_iload_n hX dX11_song_7 rfl ?_
    refine s_if_lt (tgt := 30) hX dX11_song_8 (by decide) (fun c => ?_) (fun c => ?_)
    · replace h := h.1 c
      refine s_iconst (v := (-1)) hX dX11_song_30 rfl ?_
      exact s_iret hX hq rfl dX11_song_31 h
    · replace h := h.2 c
      refine s_aload_n hX dX11_song_11 rfl ?_
      refine s_iload_n hX dX11_song_12 rfl ?_
      refine s_cvi (as := [vi a2]) (rest := []) hX (c_Top_isBird h) mv_Top_isBird wd_ml_X11_130 dX11_song_13 ly_c_xx rfl rfl (Nat.le_of_ble_eq_true rfl) rfl (by decide) ⟨Nat.zero_le _, Nat.zero_le _⟩ (fun b552_ M551 h => ?_)
      obtain ⟨b552, rfl, h⟩ := h
      refine s_if_eq (tgt := 30) hX dX11_song_16 (by decide) (fun c => ?_) (fun c => ?_)
      · replace h := h.1 (b2i_0 c)
        refine s_iconst (v := (-1)) hX dX11_song_30 rfl ?_
        exact s_iret hX hq rfl dX11_song_31 h
      · replace h := h.2 (b2i_1 c)
        refine s_aload_n hX dX11_song_19 rfl ?_
        refine s_getr hX fi_X11_38 ly_c_xx rfl dX11_song_20 ?_
        refine s_iload_n hX dX11_song_23 rfl ?_
        refine s_cvi (as := [vi a2]) (rest := []) hX (c_Deeds_isShot h) mv_Deeds_isShot wd_ml_X11_188 dX11_song_24 ly_c_deeds rfl rfl (Nat.le_of_ble_eq_true rfl) rfl (by decide) ⟨Nat.zero_le _, Nat.zero_le _⟩ (fun b554_ M553 h => ?_)
        obtain ⟨b554, rfl, h⟩ := h
        refine s_if_eq (tgt := 32) hX dX11_song_27 (by decide) (fun c => ?_) (fun c => ?_)
        · replace h := h.1 (b2i_0 c)
          refine s_aload_n hX dX11_song_32 rfl ?_
          refine s_getr hX fi_X11_74 ly_c_xx rfl dX11_song_33 ?_
          refine s_iload_n hX dX11_song_36 rfl ?_
          refine s_iload_n hX dX11_song_37 rfl ?_
          refine s_cvi (as := [vi a0, vi a1]) (rest := []) hX (c_Songs_findRow h) mv_Songs_findRow wd_ml_X11_248 dX11_song_38 ly_c_songs rfl rfl (Nat.le_of_ble_eq_true rfl) rfl (by decide) ⟨Nat.zero_le _, Nat.zero_le _⟩ (fun b556_ M555 h => ?_)
          obtain ⟨b556, rfl, h⟩ := h
          refine s_if_eq (tgt := 56) hX dX11_song_41 (by decide) (fun c => ?_) (fun c => ?_)
          · replace h := h.1 (b2i_0 c)
            refine s_iconst (v := (-1)) hX dX11_song_56 rfl ?_
            exact s_iret hX hq rfl dX11_song_57 h
          · replace h := h.2 (b2i_1 c)
            refine s_aload_n hX dX11_song_44 rfl ?_
            refine s_getr hX fi_X11_74 ly_c_xx rfl dX11_song_45 ?_
            refine s_getr hX fi_X11_251 ly_c_songs rfl dX11_song_48 ?_
            refine s_iload_n hX dX11_song_51 rfl ?_
            have hi := h.1
            replace h := h.2
            refine s_ialdv (v := (M555.1 c_songs_row (Int32.toNatClampNeg a2))) hX ly_c_songs_row hi dX11_song_52 rfl ?_
            refine s_goto (tgt := 57) hX dX11_song_53 (by decide) ?_
            exact s_iret hX hq rfl dX11_song_57 h
        · replace h := h.2 (b2i_1 c)
          refine s_iconst (v := (-1)) hX dX11_song_30 rfl ?_
          exact s_iret hX hq rfl dX11_song_31 h
theorem c_Top_song {a0 : Int32} {a1 : Int32} {a2 : Int32} {M : Mem} {Q : Int32 → Mem → Prop} (h : w_Top_song a0 a1 a2 M Q) : CI yX11_song cX11_song 4 ((some .int)) 68 0 0 LY LY [vr c_xx, vi a0, vi a1, vi a2] M Q := mk_i rfl wd_co_X11_song rfl rfl (Nat.le_of_ble_eq_true rfl) (fun X hX hq => t_Top_song hX hq h)
theorem mv_Top_song : MV yX11_song cX11_song 4 ((some .int)) RX11 3 := ⟨wd_co_X11_song, wd_im_X11_song, wd_se_X11_song, wd_in_X11, by decide +kernel, by decide⟩
def w_Debts_penceOfDay_L5 (l1 : Int32) (l2 : Int32) (K : Int32 → Mem → Prop) (Q : Int32 → Mem → Prop) : Nat → Int32 → Int32 → Mem → Prop
  | 0, _, _, _ => False
  | n + 1, l3, l4, M => ((24 ≤ l4 → K l3 M) ∧ (¬ 24 ≤ l4 → (vp_in ((l1 * 24) + l4) 120 ∧ ∀ x560 : Int32, x560 = (M.1 c_deeds_times (Int32.toNatClampNeg ((l1 * 24) + l4))) → ((x560 ≤ 0 → w_Debts_penceOfDay_L5 l1 l2 K Q n l3 (l4 + 1) M) ∧ (¬ x560 ≤ 0 → w_Debts_lookRound l4 M (fun M561 => w_Debts_pence l1 l4 l2 x560 M561 (fun r563 M562 => w_Debts_penceOfDay_L5 l1 l2 K Q n (l3 + r563) (l4 + 1) M562)))))))
set_option maxHeartbeats 4000000 in
theorem t_Debts_penceOfDay_L5 {X : Cx} (hX : Cok X cX0_penceOfDay RX0 6 ((some .int)) 4 0 0) {Q : Int32 → Mem → Prop} (hq : RI X 0 0 LY Q) {l1 : Int32} {l2 : Int32} {K : Int32 → Mem → Prop} (hK : ∀ (l3 : Int32) (M : Mem), K l3 M → Wat X 0 0 LY 59 [none, none, none, some (vi l3), none, none] [] M) : ∀ (n : Nat) (l3 : Int32) (l4 : Int32) (M : Mem), w_Debts_penceOfDay_L5 l1 l2 K Q n l3 l4 M → Wat X 0 0 LY 5 [some (vr c_debts), some (vi l1), some (vi l2), some (vi l3), some (vi l4), none] [] M := by
  intro n
  induction n with
  | zero => intro _ _ _ h; exact h.elim
  | succ n ih =>
    intro l3 l4 M h
    refine s_iload hX dX0_penceOfDay_5 rfl ?_
    refine s_bipush (v := 24) hX dX0_penceOfDay_7 rfl ?_
    refine s_icmp_ge (tgt := 59) hX dX0_penceOfDay_9 (by decide) (fun c => ?_) (fun c => ?_)
    · replace h := h.1 c
      refine s_mask [false, false, false, true, false, true] (lv' := [none, none, none, some (vi l3), none, none]) rfl rfl ?_
      exact hK _ _ h
    · replace h := h.2 c
      refine s_aload_n hX dX0_penceOfDay_12 rfl ?_
      refine s_getr hX fi_X0_37 ly_c_debts rfl dX0_penceOfDay_13 ?_
      refine s_getr hX fi_X0_62 ly_c_deeds rfl dX0_penceOfDay_16 ?_
      refine s_iload_n hX dX0_penceOfDay_19 rfl ?_
      refine s_bipush (v := 24) hX dX0_penceOfDay_20 rfl ?_
      refine s_imul hX dX0_penceOfDay_22 ?_
      refine s_iload hX dX0_penceOfDay_23 rfl ?_
      refine s_iadd hX dX0_penceOfDay_25 ?_
      have hi := h.1
      replace h := h.2
      refine s_ialdv (v := (M.1 c_deeds_times (Int32.toNatClampNeg ((l1 * 24) + l4)))) hX ly_c_deeds_times hi dX0_penceOfDay_26 rfl ?_
      refine s_nmi (fun x560 ex560 => ?_)
      replace h := h x560 ex560
      refine s_istore (lv' := [some (vr c_debts), some (vi l1), some (vi l2), some (vi l3), some (vi l4), some (vi x560)]) hX dX0_penceOfDay_27 rfl rfl (Nat.le_of_ble_eq_true rfl) ?_
      refine s_iload hX dX0_penceOfDay_29 rfl ?_
      refine s_if_le (tgt := 53) hX dX0_penceOfDay_31 (by decide) (fun c => ?_) (fun c => ?_)
      · replace h := h.1 c
        refine s_iinc (v := (l4 + 1)) (lv' := [some (vr c_debts), some (vi l1), some (vi l2), some (vi l3), some (vi (l4 + 1)), some (vi x560)]) hX dX0_penceOfDay_53 rfl rfl rfl rfl ?_
        refine s_goto (tgt := 5) hX dX0_penceOfDay_56 (by decide) ?_
        refine s_mask [true, true, true, true, true, false] (lv' := [some (vr c_debts), some (vi l1), some (vi l2), some (vi l3), some (vi (l4 + 1)), none]) rfl rfl ?_
        exact ih _ _ _ h
      · replace h := h.2 c
        refine s_aload_n hX dX0_penceOfDay_34 rfl ?_
        refine s_iload hX dX0_penceOfDay_35 rfl ?_
        refine s_cvv (as := [vi l4]) (rest := []) hX (c_Debts_lookRound h) mv_Debts_lookRound wd_ml_X0_107 dX0_penceOfDay_37 ly_c_debts rfl rfl (Nat.le_of_ble_eq_true rfl) rfl (by decide) ⟨Nat.zero_le _, Nat.zero_le _⟩ (fun M561 h => ?_)
        refine s_iload_n hX dX0_penceOfDay_40 rfl ?_
        refine s_aload_n hX dX0_penceOfDay_41 rfl ?_
        refine s_iload_n hX dX0_penceOfDay_42 rfl ?_
        refine s_iload hX dX0_penceOfDay_43 rfl ?_
        refine s_iload_n hX dX0_penceOfDay_45 rfl ?_
        refine s_iload hX dX0_penceOfDay_46 rfl ?_
        refine s_cvi (as := [vi l1, vi l4, vi l2, vi x560]) (rest := [vi l3]) hX (c_Debts_pence h) mv_Debts_pence wd_ml_X0_121 dX0_penceOfDay_48 ly_c_debts rfl rfl (Nat.le_of_ble_eq_true rfl) rfl (by decide) ⟨Nat.zero_le _, Nat.zero_le _⟩ (fun r563 M562 h => ?_)
        refine s_iadd hX dX0_penceOfDay_51 ?_
        refine s_istore_n (lv' := [some (vr c_debts), some (vi l1), some (vi l2), some (vi (l3 + r563)), some (vi l4), some (vi x560)]) hX dX0_penceOfDay_52 rfl rfl (Nat.le_of_ble_eq_true rfl) ?_
        refine s_iinc (v := (l4 + 1)) (lv' := [some (vr c_debts), some (vi l1), some (vi l2), some (vi (l3 + r563)), some (vi (l4 + 1)), some (vi x560)]) hX dX0_penceOfDay_53 rfl rfl rfl rfl ?_
        refine s_goto (tgt := 5) hX dX0_penceOfDay_56 (by decide) ?_
        refine s_mask [true, true, true, true, true, false] (lv' := [some (vr c_debts), some (vi l1), some (vi l2), some (vi (l3 + r563)), some (vi (l4 + 1)), none]) rfl rfl ?_
        exact ih _ _ _ h
def w_Debts_penceOfDay (a0 : Int32) (a1 : Int32) (M : Mem) (Q : Int32 → Mem → Prop) : Prop :=
  (∃ n566, w_Debts_penceOfDay_L5 a0 a1 (fun y565 M564 => Q y565 M564) Q n566 0 0 M)
set_option maxHeartbeats 4000000 in
theorem t_Debts_penceOfDay {X : Cx} (hX : Cok X cX0_penceOfDay RX0 6 ((some .int)) 4 0 0) {Q : Int32 → Mem → Prop} (hq : RI X 0 0 LY Q) {M : Mem} {a0 : Int32} {a1 : Int32} (h : w_Debts_penceOfDay a0 a1 M Q) : Wat X 0 0 LY 0 [some (vr c_debts), some (vi a0), some (vi a1), none, none, none] [] M := by
  refine s_iconst (v := 0) hX dX0_penceOfDay_0 rfl ?_
  refine s_istore_n (lv' := [some (vr c_debts), some (vi a0), some (vi a1), some (vi 0), none, none]) hX dX0_penceOfDay_1 rfl rfl (Nat.le_of_ble_eq_true rfl) ?_
  refine s_iconst (v := 0) hX dX0_penceOfDay_2 rfl ?_
  refine s_istore (lv' := [some (vr c_debts), some (vi a0), some (vi a1), some (vi 0), some (vi 0), none]) hX dX0_penceOfDay_3 rfl rfl (Nat.le_of_ble_eq_true rfl) ?_
  obtain ⟨n566, h⟩ := h
  refine t_Debts_penceOfDay_L5 hX hq ?_ n566 _ _ _ h
  intro y565 M564 h
  refine s_iload_n hX dX0_penceOfDay_59 rfl ?_
  exact s_iret hX hq rfl dX0_penceOfDay_60 h
theorem c_Debts_penceOfDay {a0 : Int32} {a1 : Int32} {M : Mem} {Q : Int32 → Mem → Prop} (h : w_Debts_penceOfDay a0 a1 M Q) : CI yX0_penceOfDay cX0_penceOfDay 6 ((some .int)) 4 0 0 LY LY [vr c_debts, vi a0, vi a1] M Q := mk_i rfl wd_co_X0_penceOfDay rfl rfl (Nat.le_of_ble_eq_true rfl) (fun X hX hq => t_Debts_penceOfDay hX hq h)
theorem mv_Debts_penceOfDay : MV yX0_penceOfDay cX0_penceOfDay 6 ((some .int)) RX0 2 := ⟨wd_co_X0_penceOfDay, wd_im_X0_penceOfDay, wd_se_X0_penceOfDay, wd_in_X0, by decide +kernel, by decide⟩
def w_Songs_isRightWithout_L18 (l1 : Int32) (l2 : Int32) (K : Int32 → Mem → Prop) (Q : Bool → Mem → Prop) : Nat → Int32 → Int32 → Mem → Prop
  | 0, _, _, _ => False
  | n + 1, l3, l4, M => (((M.1 c_land Land_birds) ≤ l4 → K l3 M) ∧ (¬ (M.1 c_land Land_birds) ≤ l4 → ((((l1 >>> (l4 &&& 31)) &&& 1) = 0 → w_Songs_priceAt l4 0 l2 M (fun r573 M572 => (vp_in r573 180 ∧ ∀ x574 : Int32, x574 = (l3 + (M572.1 c_songs_price (Int32.toNatClampNeg r573))) → w_Songs_isRightWithout_L18 l1 l2 K Q n x574 (l4 + 1) M572))) ∧ (¬ ((l1 >>> (l4 &&& 31)) &&& 1) = 0 → w_Songs_isRightWithout_L18 l1 l2 K Q n (l3 + 0) (l4 + 1) M))))
set_option maxHeartbeats 4000000 in
theorem t_Songs_isRightWithout_L18 {X : Cx} (hX : Cok X cX9_isRightWithout RX9 5 ((some .boolean)) 2 0 0) {Q : Bool → Mem → Prop} (hq : RI X 0 0 LY (bQ Q)) {l1 : Int32} {l2 : Int32} {K : Int32 → Mem → Prop} (hK : ∀ (l3 : Int32) (M : Mem), K l3 M → Wat X 0 0 LY 64 [some (vr c_songs), some (vi l1), some (vi l2), some (vi l3), none] [] M) : ∀ (n : Nat) (l3 : Int32) (l4 : Int32) (M : Mem), w_Songs_isRightWithout_L18 l1 l2 K Q n l3 l4 M → Wat X 0 0 LY 18 [some (vr c_songs), some (vi l1), some (vi l2), some (vi l3), some (vi l4)] [] M := by
  intro n
  induction n with
  | zero => intro _ _ _ h; exact h.elim
  | succ n ih =>
    intro l3 l4 M h
    refine s_iload hX dX9_isRightWithout_18 rfl ?_
    refine s_aload_n hX dX9_isRightWithout_20 rfl ?_
    refine s_getr hX fi_X9_21 ly_c_songs rfl dX9_isRightWithout_21 ?_
    refine s_getiv (v := (M.1 c_land Land_birds)) hX fi_X9_68 ly_c_land rfl dX9_isRightWithout_24 rfl ?_
    refine s_icmp_ge (tgt := 64) hX dX9_isRightWithout_27 (by decide) (fun c => ?_) (fun c => ?_)
    · replace h := h.1 c
      refine s_mask [true, true, true, true, false] (lv' := [some (vr c_songs), some (vi l1), some (vi l2), some (vi l3), none]) rfl rfl ?_
      exact hK _ _ h
    · replace h := h.2 c
      refine s_iload_n hX dX9_isRightWithout_30 rfl ?_
      refine s_iload_n hX dX9_isRightWithout_31 rfl ?_
      refine s_iload hX dX9_isRightWithout_32 rfl ?_
      refine s_ishr hX dX9_isRightWithout_34 ?_
      refine s_iconst (v := 1) hX dX9_isRightWithout_35 rfl ?_
      refine s_iand hX dX9_isRightWithout_36 ?_
      refine s_if_eq (tgt := 44) hX dX9_isRightWithout_37 (by decide) (fun c => ?_) (fun c => ?_)
      · replace h := h.1 c
        refine s_aload_n hX dX9_isRightWithout_44 rfl ?_
        refine s_getr hX fi_X9_15 ly_c_songs rfl dX9_isRightWithout_45 ?_
        refine s_iload hX dX9_isRightWithout_48 rfl ?_
        refine s_iconst (v := 0) hX dX9_isRightWithout_50 rfl ?_
        refine s_iload_n hX dX9_isRightWithout_51 rfl ?_
        refine s_csi (as := [vi l4, vi 0, vi l2]) (rest := [vr c_songs_price, vi l3]) hX (c_Songs_priceAt h) ms_Songs_priceAt wd_ml_X9_76 dX9_isRightWithout_52 rfl (Nat.le_of_ble_eq_true rfl) rfl (by decide) ⟨Nat.zero_le _, Nat.zero_le _⟩ (fun r573 M572 h => ?_)
        have hi := h.1
        replace h := h.2
        refine s_ialdv (v := (M572.1 c_songs_price (Int32.toNatClampNeg r573))) hX ly_c_songs_price hi dX9_isRightWithout_55 rfl ?_
        refine s_iadd hX dX9_isRightWithout_56 ?_
        refine s_nmi (fun x574 ex574 => ?_)
        replace h := h x574 ex574
        refine s_istore_n (lv' := [some (vr c_songs), some (vi l1), some (vi l2), some (vi x574), some (vi l4)]) hX dX9_isRightWithout_57 rfl rfl (Nat.le_of_ble_eq_true rfl) ?_
        refine s_iinc (v := (l4 + 1)) (lv' := [some (vr c_songs), some (vi l1), some (vi l2), some (vi x574), some (vi (l4 + 1))]) hX dX9_isRightWithout_58 rfl rfl rfl rfl ?_
        refine s_goto (tgt := 18) hX dX9_isRightWithout_61 (by decide) ?_
        exact ih _ _ _ h
      · replace h := h.2 c
        refine s_iconst (v := 0) hX dX9_isRightWithout_40 rfl ?_
        refine s_goto (tgt := 56) hX dX9_isRightWithout_41 (by decide) ?_
        refine s_iadd hX dX9_isRightWithout_56 ?_
        refine s_istore_n (lv' := [some (vr c_songs), some (vi l1), some (vi l2), some (vi (l3 + 0)), some (vi l4)]) hX dX9_isRightWithout_57 rfl rfl (Nat.le_of_ble_eq_true rfl) ?_
        refine s_iinc (v := (l4 + 1)) (lv' := [some (vr c_songs), some (vi l1), some (vi l2), some (vi (l3 + 0)), some (vi (l4 + 1))]) hX dX9_isRightWithout_58 rfl rfl rfl rfl ?_
        refine s_goto (tgt := 18) hX dX9_isRightWithout_61 (by decide) ?_
        exact ih _ _ _ h
def w_Songs_isRightWithout_L2 (l1 : Int32) (K : Mem → Prop) (Q : Bool → Mem → Prop) : Nat → Int32 → Mem → Prop
  | 0, _, _ => False
  | n + 1, l2, M => (((M.1 c_land Land_people) ≤ l2 → K M) ∧ (¬ (M.1 c_land Land_people) ≤ l2 → (∃ n577, w_Songs_isRightWithout_L18 l1 l2 (fun y576 M575 => (vp_in l2 6 ∧ (((M575.1 c_deeds_debt (Int32.toNatClampNeg l2)) = (-1) → w_Songs_isRightWithout_L2 l1 K Q n (l2 + 1) M575) ∧ (¬ (M575.1 c_deeds_debt (Int32.toNatClampNeg l2)) = (-1) → (vp_in l2 6 ∧ (((M575.1 c_deeds_debt (Int32.toNatClampNeg l2)) = y576 → w_Songs_isRightWithout_L2 l1 K Q n (l2 + 1) M575) ∧ (¬ (M575.1 c_deeds_debt (Int32.toNatClampNeg l2)) = y576 → Q false M575))))))) Q n577 0 0 M)))
set_option maxHeartbeats 4000000 in
theorem t_Songs_isRightWithout_L2 {X : Cx} (hX : Cok X cX9_isRightWithout RX9 5 ((some .boolean)) 2 0 0) {Q : Bool → Mem → Prop} (hq : RI X 0 0 LY (bQ Q)) {l1 : Int32} {K : Mem → Prop} (hK : ∀ (M : Mem), K M → Wat X 0 0 LY 98 [none, none, none, none, none] [] M) : ∀ (n : Nat) (l2 : Int32) (M : Mem), w_Songs_isRightWithout_L2 l1 K Q n l2 M → Wat X 0 0 LY 2 [some (vr c_songs), some (vi l1), some (vi l2), none, none] [] M := by
  intro n
  induction n with
  | zero => intro _ _ h; exact h.elim
  | succ n ih =>
    intro l2 M h
    refine s_iload_n hX dX9_isRightWithout_2 rfl ?_
    refine s_aload_n hX dX9_isRightWithout_3 rfl ?_
    refine s_getr hX fi_X9_21 ly_c_songs rfl dX9_isRightWithout_4 ?_
    refine s_getiv (v := (M.1 c_land Land_people)) hX fi_X9_73 ly_c_land rfl dX9_isRightWithout_7 rfl ?_
    refine s_icmp_ge (tgt := 98) hX dX9_isRightWithout_10 (by decide) (fun c => ?_) (fun c => ?_)
    · replace h := h.1 c
      refine s_mask [false, false, false, true, true] (lv' := [none, none, none, none, none]) rfl rfl ?_
      exact hK _ h
    · replace h := h.2 c
      refine s_iconst (v := 0) hX dX9_isRightWithout_13 rfl ?_
      refine s_istore_n (lv' := [some (vr c_songs), some (vi l1), some (vi l2), some (vi 0), none]) hX dX9_isRightWithout_14 rfl rfl (Nat.le_of_ble_eq_true rfl) ?_
      refine s_iconst (v := 0) hX dX9_isRightWithout_15 rfl ?_
      refine s_istore (lv' := [some (vr c_songs), some (vi l1), some (vi l2), some (vi 0), some (vi 0)]) hX dX9_isRightWithout_16 rfl rfl (Nat.le_of_ble_eq_true rfl) ?_
      obtain ⟨n577, h⟩ := h
      refine t_Songs_isRightWithout_L18 hX hq ?_ n577 _ _ _ h
      intro y576 M575 h
      refine s_aload_n hX dX9_isRightWithout_64 rfl ?_
      refine s_getr hX fi_X9_25 ly_c_songs rfl dX9_isRightWithout_65 ?_
      refine s_getr hX fi_X9_45 ly_c_deeds rfl dX9_isRightWithout_68 ?_
      refine s_iload_n hX dX9_isRightWithout_71 rfl ?_
      have hi := h.1
      replace h := h.2
      refine s_ialdv (v := (M575.1 c_deeds_debt (Int32.toNatClampNeg l2))) hX ly_c_deeds_debt hi dX9_isRightWithout_72 rfl ?_
      refine s_iconst (v := (-1)) hX dX9_isRightWithout_73 rfl ?_
      refine s_icmp_eq (tgt := 92) hX dX9_isRightWithout_74 (by decide) (fun c => ?_) (fun c => ?_)
      · replace h := h.1 c
        refine s_iinc (v := (l2 + 1)) (lv' := [some (vr c_songs), some (vi l1), some (vi (l2 + 1)), some (vi y576), none]) hX dX9_isRightWithout_92 rfl rfl rfl rfl ?_
        refine s_goto (tgt := 2) hX dX9_isRightWithout_95 (by decide) ?_
        refine s_mask [true, true, true, false, true] (lv' := [some (vr c_songs), some (vi l1), some (vi (l2 + 1)), none, none]) rfl rfl ?_
        exact ih _ _ h
      · replace h := h.2 c
        refine s_aload_n hX dX9_isRightWithout_77 rfl ?_
        refine s_getr hX fi_X9_25 ly_c_songs rfl dX9_isRightWithout_78 ?_
        refine s_getr hX fi_X9_45 ly_c_deeds rfl dX9_isRightWithout_81 ?_
        refine s_iload_n hX dX9_isRightWithout_84 rfl ?_
        have hi := h.1
        replace h := h.2
        refine s_ialdv (v := (M575.1 c_deeds_debt (Int32.toNatClampNeg l2))) hX ly_c_deeds_debt hi dX9_isRightWithout_85 rfl ?_
        refine s_iload_n hX dX9_isRightWithout_86 rfl ?_
        refine s_icmp_eq (tgt := 92) hX dX9_isRightWithout_87 (by decide) (fun c => ?_) (fun c => ?_)
        · replace h := h.1 c
          refine s_iinc (v := (l2 + 1)) (lv' := [some (vr c_songs), some (vi l1), some (vi (l2 + 1)), some (vi y576), none]) hX dX9_isRightWithout_92 rfl rfl rfl rfl ?_
          refine s_goto (tgt := 2) hX dX9_isRightWithout_95 (by decide) ?_
          refine s_mask [true, true, true, false, true] (lv' := [some (vr c_songs), some (vi l1), some (vi (l2 + 1)), none, none]) rfl rfl ?_
          exact ih _ _ h
        · replace h := h.2 c
          refine s_iconst (v := 0) hX dX9_isRightWithout_90 rfl ?_
          exact s_zret hX false hq rfl dX9_isRightWithout_91 rfl h
def w_Songs_isRightWithout (a0 : Int32) (M : Mem) (Q : Bool → Mem → Prop) : Prop :=
  (∃ n579, w_Songs_isRightWithout_L2 a0 (fun M578 => Q true M578) Q n579 0 M)
set_option maxHeartbeats 4000000 in
theorem t_Songs_isRightWithout {X : Cx} (hX : Cok X cX9_isRightWithout RX9 5 ((some .boolean)) 2 0 0) {Q : Bool → Mem → Prop} (hq : RI X 0 0 LY (bQ Q)) {M : Mem} {a0 : Int32} (h : w_Songs_isRightWithout a0 M Q) : Wat X 0 0 LY 0 [some (vr c_songs), some (vi a0), none, none, none] [] M := by
  refine s_iconst (v := 0) hX dX9_isRightWithout_0 rfl ?_
  refine s_istore_n (lv' := [some (vr c_songs), some (vi a0), some (vi 0), none, none]) hX dX9_isRightWithout_1 rfl rfl (Nat.le_of_ble_eq_true rfl) ?_
  obtain ⟨n579, h⟩ := h
  refine t_Songs_isRightWithout_L2 hX hq ?_ n579 _ _ h
  intro M578 h
  refine s_iconst (v := 1) hX dX9_isRightWithout_98 rfl ?_
  exact s_zret hX true hq rfl dX9_isRightWithout_99 rfl h
theorem c_Songs_isRightWithout {a0 : Int32} {M : Mem} {Q : Bool → Mem → Prop} (h : w_Songs_isRightWithout a0 M Q) : CI yX9_isRightWithout cX9_isRightWithout 5 ((some .boolean)) 2 0 0 LY LY [vr c_songs, vi a0] M (bQ Q) := mk_i rfl wd_co_X9_isRightWithout rfl rfl (Nat.le_of_ble_eq_true rfl) (fun X hX hq => t_Songs_isRightWithout hX hq h)
theorem mv_Songs_isRightWithout : MV yX9_isRightWithout cX9_isRightWithout 5 ((some .boolean)) RX9 1 := ⟨wd_co_X9_isRightWithout, wd_im_X9_isRightWithout, wd_se_X9_isRightWithout, wd_in_X9, by decide +kernel, by decide⟩
def w_Songs_findWooden_L22 (l1 : Int32) (K : Mem → Prop) (Q : Mem → Prop) : Nat → Int32 → Mem → Prop
  | 0, _, _ => False
  | n + 1, l2, M => (((M.1 c_land Land_people) ≤ l2 → K M) ∧ (¬ (M.1 c_land Land_people) ≤ l2 → w_Songs_priceAt l1 0 l2 M (fun r559 M558 => w_Debts_penceOfDay l1 l2 M558 (fun r568 M567 => (vp_in r559 180 ∧ w_Songs_findWooden_L22 l1 K Q n (l2 + 1) (si M567 c_songs_price (Int32.toNatClampNeg r559) r568))))))
set_option maxHeartbeats 4000000 in
theorem t_Songs_findWooden_L22 {X : Cx} (hX : Cok X cX9_findWooden RX9 3 none 5 0 0) {Q : Mem → Prop} (hq : RV X 0 0 LY Q) {l1 : Int32} {K : Mem → Prop} (hK : ∀ (M : Mem), K M → Wat X 0 0 LY 59 [some (vr c_songs), some (vi l1), none] [] M) : ∀ (n : Nat) (l2 : Int32) (M : Mem), w_Songs_findWooden_L22 l1 K Q n l2 M → Wat X 0 0 LY 22 [some (vr c_songs), some (vi l1), some (vi l2)] [] M := by
  intro n
  induction n with
  | zero => intro _ _ h; exact h.elim
  | succ n ih =>
    intro l2 M h
    refine s_iload_n hX dX9_findWooden_22 rfl ?_
    refine s_aload_n hX dX9_findWooden_23 rfl ?_
    refine s_getr hX fi_X9_21 ly_c_songs rfl dX9_findWooden_24 ?_
    refine s_getiv (v := (M.1 c_land Land_people)) hX fi_X9_73 ly_c_land rfl dX9_findWooden_27 rfl ?_
    refine s_icmp_ge (tgt := 59) hX dX9_findWooden_30 (by decide) (fun c => ?_) (fun c => ?_)
    · replace h := h.1 c
      refine s_mask [true, true, false] (lv' := [some (vr c_songs), some (vi l1), none]) rfl rfl ?_
      exact hK _ h
    · replace h := h.2 c
      refine s_aload_n hX dX9_findWooden_33 rfl ?_
      refine s_getr hX fi_X9_15 ly_c_songs rfl dX9_findWooden_34 ?_
      refine s_iload_n hX dX9_findWooden_37 rfl ?_
      refine s_iconst (v := 0) hX dX9_findWooden_38 rfl ?_
      refine s_iload_n hX dX9_findWooden_39 rfl ?_
      refine s_csi (as := [vi l1, vi 0, vi l2]) (rest := [vr c_songs_price]) hX (c_Songs_priceAt h) ms_Songs_priceAt wd_ml_X9_76 dX9_findWooden_40 rfl (Nat.le_of_ble_eq_true rfl) rfl (by decide) ⟨Nat.zero_le _, Nat.zero_le _⟩ (fun r559 M558 h => ?_)
      refine s_aload_n hX dX9_findWooden_43 rfl ?_
      refine s_getr hX fi_X9_29 ly_c_songs rfl dX9_findWooden_44 ?_
      refine s_iload_n hX dX9_findWooden_47 rfl ?_
      refine s_iload_n hX dX9_findWooden_48 rfl ?_
      refine s_cvi (as := [vi l1, vi l2]) (rest := [vi r559, vr c_songs_price]) hX (c_Debts_penceOfDay h) mv_Debts_penceOfDay wd_ml_X9_80 dX9_findWooden_49 ly_c_debts rfl rfl (Nat.le_of_ble_eq_true rfl) rfl (by decide) ⟨Nat.zero_le _, Nat.zero_le _⟩ (fun r568 M567 h => ?_)
      have hi := h.1
      replace h := h.2
      refine s_iast hX ly_c_songs_price hi dX9_findWooden_52 ?_
      refine s_iinc (v := (l2 + 1)) (lv' := [some (vr c_songs), some (vi l1), some (vi (l2 + 1))]) hX dX9_findWooden_53 rfl rfl rfl rfl ?_
      refine s_goto (tgt := 22) hX dX9_findWooden_56 (by decide) ?_
      exact ih _ _ h
def w_Songs_findWooden_L9 (K : Mem → Prop) (Q : Mem → Prop) : Nat → Int32 → Mem → Prop
  | 0, _, _ => False
  | n + 1, l1, M => (((M.1 c_land Land_birds) ≤ l1 → K M) ∧ (¬ (M.1 c_land Land_birds) ≤ l1 → (∃ n570, w_Songs_findWooden_L22 l1 (fun M569 => w_Songs_findWooden_L9 K Q n (l1 + 1) M569) Q n570 0 M)))
set_option maxHeartbeats 4000000 in
theorem t_Songs_findWooden_L9 {X : Cx} (hX : Cok X cX9_findWooden RX9 3 none 5 0 0) {Q : Mem → Prop} (hq : RV X 0 0 LY Q) {K : Mem → Prop} (hK : ∀ (M : Mem), K M → Wat X 0 0 LY 65 [some (vr c_songs), none, none] [] M) : ∀ (n : Nat) (l1 : Int32) (M : Mem), w_Songs_findWooden_L9 K Q n l1 M → Wat X 0 0 LY 9 [some (vr c_songs), some (vi l1), none] [] M := by
  intro n
  induction n with
  | zero => intro _ _ h; exact h.elim
  | succ n ih =>
    intro l1 M h
    refine s_iload_n hX dX9_findWooden_9 rfl ?_
    refine s_aload_n hX dX9_findWooden_10 rfl ?_
    refine s_getr hX fi_X9_21 ly_c_songs rfl dX9_findWooden_11 ?_
    refine s_getiv (v := (M.1 c_land Land_birds)) hX fi_X9_68 ly_c_land rfl dX9_findWooden_14 rfl ?_
    refine s_icmp_ge (tgt := 65) hX dX9_findWooden_17 (by decide) (fun c => ?_) (fun c => ?_)
    · replace h := h.1 c
      refine s_mask [true, false, true] (lv' := [some (vr c_songs), none, none]) rfl rfl ?_
      exact hK _ h
    · replace h := h.2 c
      refine s_iconst (v := 0) hX dX9_findWooden_20 rfl ?_
      refine s_istore_n (lv' := [some (vr c_songs), some (vi l1), some (vi 0)]) hX dX9_findWooden_21 rfl rfl (Nat.le_of_ble_eq_true rfl) ?_
      obtain ⟨n570, h⟩ := h
      refine t_Songs_findWooden_L22 hX hq ?_ n570 _ _ h
      intro M569 h
      refine s_iinc (v := (l1 + 1)) (lv' := [some (vr c_songs), some (vi (l1 + 1)), none]) hX dX9_findWooden_59 rfl rfl rfl rfl ?_
      refine s_goto (tgt := 9) hX dX9_findWooden_62 (by decide) ?_
      exact ih _ _ h
def w_Songs_findWooden_L77 (K : Mem → Prop) (Q : Mem → Prop) : Nat → Int32 → Mem → Prop
  | 0, _, _ => False
  | n + 1, l1, M => (((1 <<< ((M.1 c_land Land_birds) &&& 31)) ≤ l1 → K M) ∧ (¬ (1 <<< ((M.1 c_land Land_birds) &&& 31)) ≤ l1 → ((¬ (l1 &&& (M.1 c_deeds Deeds_shot)) = 0 → w_Songs_findWooden_L77 K Q n (l1 + 1) M) ∧ ((l1 &&& (M.1 c_deeds Deeds_shot)) = 0 → w_Songs_isRightWithout (l1 ||| (M.1 c_deeds Deeds_shot)) M (fun b581 M580 => ((b581 = false → w_Songs_findWooden_L77 K Q n (l1 + 1) M580) ∧ (b581 = true → w_Songs_findWooden_L77 K Q n (l1 + 1) (si (si M580 c_songs Songs_leastSet (if (M580.1 c_songs Songs_found) = 0 then l1 else (M580.1 c_songs Songs_leastSet))) c_songs Songs_found ((M580.1 c_songs Songs_found) + 1)))))))))
set_option maxHeartbeats 4000000 in
theorem t_Songs_findWooden_L77 {X : Cx} (hX : Cok X cX9_findWooden RX9 3 none 5 0 0) {Q : Mem → Prop} (hq : RV X 0 0 LY Q) {K : Mem → Prop} (hK : ∀ (M : Mem), K M → Wat X 0 0 LY 153 [none, none, none] [] M) : ∀ (n : Nat) (l1 : Int32) (M : Mem), w_Songs_findWooden_L77 K Q n l1 M → Wat X 0 0 LY 77 [some (vr c_songs), some (vi l1), none] [] M := by
  intro n
  induction n with
  | zero => intro _ _ h; exact h.elim
  | succ n ih =>
    intro l1 M h
    refine s_iload_n hX dX9_findWooden_77 rfl ?_
    refine s_iconst (v := 1) hX dX9_findWooden_78 rfl ?_
    refine s_aload_n hX dX9_findWooden_79 rfl ?_
    refine s_getr hX fi_X9_21 ly_c_songs rfl dX9_findWooden_80 ?_
    refine s_getiv (v := (M.1 c_land Land_birds)) hX fi_X9_68 ly_c_land rfl dX9_findWooden_83 rfl ?_
    refine s_ishl hX dX9_findWooden_86 ?_
    refine s_icmp_ge (tgt := 153) hX dX9_findWooden_87 (by decide) (fun c => ?_) (fun c => ?_)
    · replace h := h.1 c
      refine s_mask [false, false, true] (lv' := [none, none, none]) rfl rfl ?_
      exact hK _ h
    · replace h := h.2 c
      refine s_iload_n hX dX9_findWooden_90 rfl ?_
      refine s_aload_n hX dX9_findWooden_91 rfl ?_
      refine s_getr hX fi_X9_25 ly_c_songs rfl dX9_findWooden_92 ?_
      refine s_getiv (v := (M.1 c_deeds Deeds_shot)) hX fi_X9_87 ly_c_deeds rfl dX9_findWooden_95 rfl ?_
      refine s_iand hX dX9_findWooden_98 ?_
      refine s_if_ne (tgt := 147) hX dX9_findWooden_99 (by decide) (fun c => ?_) (fun c => ?_)
      · replace h := h.1 c
        refine s_iinc (v := (l1 + 1)) (lv' := [some (vr c_songs), some (vi (l1 + 1)), none]) hX dX9_findWooden_147 rfl rfl rfl rfl ?_
        refine s_goto (tgt := 77) hX dX9_findWooden_150 (by decide) ?_
        exact ih _ _ h
      · replace h := h.2 c
        refine s_aload_n hX dX9_findWooden_102 rfl ?_
        refine s_iload_n hX dX9_findWooden_103 rfl ?_
        refine s_aload_n hX dX9_findWooden_104 rfl ?_
        refine s_getr hX fi_X9_25 ly_c_songs rfl dX9_findWooden_105 ?_
        refine s_getiv (v := (M.1 c_deeds Deeds_shot)) hX fi_X9_87 ly_c_deeds rfl dX9_findWooden_108 rfl ?_
        refine s_ior hX dX9_findWooden_111 ?_
        refine s_cvi (as := [vi (l1 ||| (M.1 c_deeds Deeds_shot))]) (rest := []) hX (c_Songs_isRightWithout h) mv_Songs_isRightWithout wd_ml_X9_90 dX9_findWooden_112 ly_c_songs rfl rfl (Nat.le_of_ble_eq_true rfl) rfl (by decide) ⟨Nat.zero_le _, Nat.zero_le _⟩ (fun b581_ M580 h => ?_)
        obtain ⟨b581, rfl, h⟩ := h
        refine s_if_eq (tgt := 147) hX dX9_findWooden_115 (by decide) (fun c => ?_) (fun c => ?_)
        · replace h := h.1 (b2i_0 c)
          refine s_iinc (v := (l1 + 1)) (lv' := [some (vr c_songs), some (vi (l1 + 1)), none]) hX dX9_findWooden_147 rfl rfl rfl rfl ?_
          refine s_goto (tgt := 77) hX dX9_findWooden_150 (by decide) ?_
          exact ih _ _ h
        · replace h := h.2 (b2i_1 c)
          refine s_aload_n hX dX9_findWooden_118 rfl ?_
          refine s_aload_n hX dX9_findWooden_119 rfl ?_
          refine s_getiv (v := (M580.1 c_songs Songs_found)) hX fi_X9_37 ly_c_songs rfl dX9_findWooden_120 rfl ?_
          have hJ : Wat X 0 0 LY 134 [some (vr c_songs), some (vi l1), none] [vi (if (M580.1 c_songs Songs_found) = 0 then l1 else (M580.1 c_songs Songs_leastSet)), vr c_songs] M580 := by
            refine s_puti hX fi_X9_84 fp_X9 rfl (by decide +kernel) ly_c_songs rfl dX9_findWooden_134 ?_
            refine s_aload_n hX dX9_findWooden_137 rfl ?_
            refine s_dup hX dX9_findWooden_138 rfl ?_
            refine s_getiv (v := (M580.1 c_songs Songs_found)) hX fi_X9_37 ly_c_songs rfl dX9_findWooden_139 rfl ?_
            refine s_iconst (v := 1) hX dX9_findWooden_142 rfl ?_
            refine s_iadd hX dX9_findWooden_143 ?_
            refine s_puti hX fi_X9_37 fp_X9 rfl (by decide +kernel) ly_c_songs rfl dX9_findWooden_144 ?_
            refine s_iinc (v := (l1 + 1)) (lv' := [some (vr c_songs), some (vi (l1 + 1)), none]) hX dX9_findWooden_147 rfl rfl rfl rfl ?_
            refine s_goto (tgt := 77) hX dX9_findWooden_150 (by decide) ?_
            exact ih _ _ h
          refine s_if_ne (tgt := 130) hX dX9_findWooden_123 (by decide) (fun c => ?_) (fun c => ?_)
          · rw [if_neg c] at hJ
            refine s_aload_n hX dX9_findWooden_130 rfl ?_
            refine s_getiv (v := (M580.1 c_songs Songs_leastSet)) hX fi_X9_84 ly_c_songs rfl dX9_findWooden_131 rfl ?_
            exact hJ
          · rw [if_pos c] at hJ
            refine s_iload_n hX dX9_findWooden_126 rfl ?_
            refine s_goto (tgt := 134) hX dX9_findWooden_127 (by decide) ?_
            exact hJ
def w_Songs_findWooden (M : Mem) (Q : Mem → Prop) : Prop :=
  w_Debts_allAsTold M (fun M557 => (∃ n584, w_Songs_findWooden_L9 (fun M571 => (∃ n583, w_Songs_findWooden_L77 (fun M582 => Q M582) Q n583 0 (si (si M571 c_songs Songs_found 0) c_songs Songs_leastSet (-1)))) Q n584 0 M557))
set_option maxHeartbeats 4000000 in
theorem t_Songs_findWooden {X : Cx} (hX : Cok X cX9_findWooden RX9 3 none 5 0 0) {Q : Mem → Prop} (hq : RV X 0 0 LY Q) {M : Mem} (h : w_Songs_findWooden M Q) : Wat X 0 0 LY 0 [some (vr c_songs), none, none] [] M := by
  refine s_aload_n hX dX9_findWooden_0 rfl ?_
  refine s_getr hX fi_X9_29 ly_c_songs rfl dX9_findWooden_1 ?_
  refine s_cvv (as := []) (rest := []) hX (c_Debts_allAsTold h) mv_Debts_allAsTold wd_ml_X9_63 dX9_findWooden_4 ly_c_debts rfl rfl (Nat.le_of_ble_eq_true rfl) rfl (by decide) ⟨Nat.zero_le _, Nat.zero_le _⟩ (fun M557 h => ?_)
  refine s_iconst (v := 0) hX dX9_findWooden_7 rfl ?_
  refine s_istore_n (lv' := [some (vr c_songs), some (vi 0), none]) hX dX9_findWooden_8 rfl rfl (Nat.le_of_ble_eq_true rfl) ?_
  obtain ⟨n584, h⟩ := h
  refine t_Songs_findWooden_L9 hX hq ?_ n584 _ _ h
  intro M571 h
  refine s_aload_n hX dX9_findWooden_65 rfl ?_
  refine s_iconst (v := 0) hX dX9_findWooden_66 rfl ?_
  refine s_puti hX fi_X9_37 fp_X9 rfl (by decide +kernel) ly_c_songs rfl dX9_findWooden_67 ?_
  refine s_aload_n hX dX9_findWooden_70 rfl ?_
  refine s_iconst (v := (-1)) hX dX9_findWooden_71 rfl ?_
  refine s_puti hX fi_X9_84 fp_X9 rfl (by decide +kernel) ly_c_songs rfl dX9_findWooden_72 ?_
  refine s_iconst (v := 0) hX dX9_findWooden_75 rfl ?_
  refine s_istore_n (lv' := [some (vr c_songs), some (vi 0), none]) hX dX9_findWooden_76 rfl rfl (Nat.le_of_ble_eq_true rfl) ?_
  obtain ⟨n583, h⟩ := h
  refine t_Songs_findWooden_L77 hX hq ?_ n583 _ _ h
  intro M582 h
  exact s_vret hX hq rfl dX9_findWooden_153 h
theorem c_Songs_findWooden {M : Mem} {Q : Mem → Prop} (h : w_Songs_findWooden M Q) : CV yX9_findWooden cX9_findWooden 3 none 5 0 0 LY LY [vr c_songs] M Q := mk_v rfl wd_co_X9_findWooden rfl rfl (Nat.le_of_ble_eq_true rfl) (fun X hX hq => t_Songs_findWooden hX hq h)
theorem mv_Songs_findWooden : MV yX9_findWooden cX9_findWooden 3 none RX9 0 := ⟨wd_co_X9_findWooden, wd_im_X9_findWooden, wd_se_X9_findWooden, wd_in_X9, by decide +kernel, by decide⟩
def w_Top_wooden (a0 : Int32) (M : Mem) (Q : Int32 → Mem → Prop) : Prop :=
  ((a0 < 0 → Q (-1) M) ∧ (¬ a0 < 0 → ((a0 ≤ 1 → w_Songs_findWooden M (fun M585 => Q (if a0 = 0 then (M585.1 c_songs Songs_found) else (M585.1 c_songs Songs_leastSet)) M585)) ∧ (¬ a0 ≤ 1 → Q (-1) M))))
set_option maxHeartbeats 4000000 in
theorem t_Top_wooden {X : Cx} (hX : Cok X cX11_wooden RX11 2 ((some .int)) 6 0 0) {Q : Int32 → Mem → Prop} (hq : RI X 0 0 LY Q) {M : Mem} {a0 : Int32} (h : w_Top_wooden a0 M Q) : Wat X 0 0 LY 0 [some (vr c_xx), some (vi a0)] [] M := by
  refine s_iload_n hX dX11_wooden_0 rfl ?_
  refine s_if_lt (tgt := 9) hX dX11_wooden_1 (by decide) (fun c => ?_) (fun c => ?_)
  · replace h := h.1 c
    refine s_iconst (v := (-1)) hX dX11_wooden_9 rfl ?_
    exact s_iret hX hq rfl dX11_wooden_10 h
  · replace h := h.2 c
    refine s_iload_n hX dX11_wooden_4 rfl ?_
    refine s_iconst (v := 1) hX dX11_wooden_5 rfl ?_
    refine s_icmp_le (tgt := 11) hX dX11_wooden_6 (by decide) (fun c => ?_) (fun c => ?_)
    · replace h := h.1 c
      refine s_aload_n hX dX11_wooden_11 rfl ?_
      refine s_getr hX fi_X11_74 ly_c_xx rfl dX11_wooden_12 ?_
      refine s_cvv (as := []) (rest := []) hX (c_Songs_findWooden h) mv_Songs_findWooden wd_ml_X11_254 dX11_wooden_15 ly_c_songs rfl rfl (Nat.le_of_ble_eq_true rfl) rfl (by decide) ⟨Nat.zero_le _, Nat.zero_le _⟩ (fun M585 h => ?_)
      refine s_iload_n hX dX11_wooden_18 rfl ?_
      have hJ : Wat X 0 0 LY 39 [some (vr c_xx), some (vi a0)] [vi (if a0 = 0 then (M585.1 c_songs Songs_found) else (M585.1 c_songs Songs_leastSet))] M585 := by
        exact s_iret hX hq rfl dX11_wooden_39 h
      refine s_if_ne (tgt := 32) hX dX11_wooden_19 (by decide) (fun c => ?_) (fun c => ?_)
      · rw [if_neg c] at hJ
        refine s_aload_n hX dX11_wooden_32 rfl ?_
        refine s_getr hX fi_X11_74 ly_c_xx rfl dX11_wooden_33 ?_
        refine s_getiv (v := (M585.1 c_songs Songs_leastSet)) hX fi_X11_260 ly_c_songs rfl dX11_wooden_36 rfl ?_
        exact hJ
      · rw [if_pos c] at hJ
        refine s_aload_n hX dX11_wooden_22 rfl ?_
        refine s_getr hX fi_X11_74 ly_c_xx rfl dX11_wooden_23 ?_
        refine s_getiv (v := (M585.1 c_songs Songs_found)) hX fi_X11_257 ly_c_songs rfl dX11_wooden_26 rfl ?_
        refine s_goto (tgt := 39) hX dX11_wooden_29 (by decide) ?_
        exact hJ
    · replace h := h.2 c
      refine s_iconst (v := (-1)) hX dX11_wooden_9 rfl ?_
      exact s_iret hX hq rfl dX11_wooden_10 h
theorem c_Top_wooden {a0 : Int32} {M : Mem} {Q : Int32 → Mem → Prop} (h : w_Top_wooden a0 M Q) : CI yX11_wooden cX11_wooden 2 ((some .int)) 6 0 0 LY LY [vr c_xx, vi a0] M Q := mk_i rfl wd_co_X11_wooden rfl rfl (Nat.le_of_ble_eq_true rfl) (fun X hX hq => t_Top_wooden hX hq h)
theorem mv_Top_wooden : MV yX11_wooden cX11_wooden 2 ((some .int)) RX11 1 := ⟨wd_co_X11_wooden, wd_im_X11_wooden, wd_se_X11_wooden, wd_in_X11, by decide +kernel, by decide⟩
def w_June_payRound_L17 (l2 : Int32) (K : Int32 → Mem → Prop) (Q : Bool → Mem → Prop) : Nat → Int32 → Int32 → Mem → Prop
  | 0, _, _, _ => False
  | n + 1, l1, l3, M => (((M.1 c_land Land_people) ≤ l3 → K l1 M) ∧ (¬ (M.1 c_land Land_people) ≤ l3 → (vp_in l2 6 ∧ (vp_in ((l2 * 6) + l3) 36 ∧ ∀ x592 : Int32, x592 = (if (M.1 c_juneDay_due (Int32.toNatClampNeg ((l2 * 6) + l3))) < (M.1 c_juneDay_purse (Int32.toNatClampNeg l2)) then (M.1 c_juneDay_due (Int32.toNatClampNeg ((l2 * 6) + l3))) else (M.1 c_juneDay_purse (Int32.toNatClampNeg l2))) → ((x592 ≤ 0 → w_June_payRound_L17 l2 K Q n l1 (l3 + 1) M) ∧ (¬ x592 ≤ 0 → (vp_in l2 6 ∧ (vp_in l2 6 ∧ (vp_in l3 6 ∧ (vp_in l3 6 ∧ (vp_in ((l2 * 6) + l3) 36 ∧ (vp_in ((l2 * 6) + l3) 36 ∧ w_June_payRound_L17 l2 K Q n 1 (l3 + 1) (si (si (si M c_juneDay_purse (Int32.toNatClampNeg l2) ((M.1 c_juneDay_purse (Int32.toNatClampNeg l2)) - x592)) c_juneDay_purse (Int32.toNatClampNeg l3) (((si M c_juneDay_purse (Int32.toNatClampNeg l2) ((M.1 c_juneDay_purse (Int32.toNatClampNeg l2)) - x592)).1 c_juneDay_purse (Int32.toNatClampNeg l3)) + x592)) c_juneDay_due (Int32.toNatClampNeg ((l2 * 6) + l3)) ((M.1 c_juneDay_due (Int32.toNatClampNeg ((l2 * 6) + l3))) - x592))))))))))))))
set_option maxHeartbeats 4000000 in
theorem t_June_payRound_L17 {X : Cx} (hX : Cok X cX4_payRound RX4 5 ((some .boolean)) 1 0 0) {Q : Bool → Mem → Prop} (hq : RI X 0 0 LY (bQ Q)) {l2 : Int32} {K : Int32 → Mem → Prop} (hK : ∀ (l1 : Int32) (M : Mem), K l1 M → Wat X 0 0 LY 101 [some (vr c_juneDay), some (vi l1), some (vi l2), none, none] [] M) : ∀ (n : Nat) (l1 : Int32) (l3 : Int32) (M : Mem), w_June_payRound_L17 l2 K Q n l1 l3 M → Wat X 0 0 LY 17 [some (vr c_juneDay), some (vi l1), some (vi l2), some (vi l3), none] [] M := by
  intro n
  induction n with
  | zero => intro _ _ _ h; exact h.elim
  | succ n ih =>
    intro l1 l3 M h
    refine s_iload_n hX dX4_payRound_17 rfl ?_
    refine s_aload_n hX dX4_payRound_18 rfl ?_
    refine s_getr hX fi_X4_18 ly_c_juneDay rfl dX4_payRound_19 ?_
    refine s_getiv (v := (M.1 c_land Land_people)) hX fi_X4_45 ly_c_land rfl dX4_payRound_22 rfl ?_
    refine s_icmp_ge (tgt := 101) hX dX4_payRound_25 (by decide) (fun c => ?_) (fun c => ?_)
    · replace h := h.1 c
      refine s_mask [true, true, true, false, true] (lv' := [some (vr c_juneDay), some (vi l1), some (vi l2), none, none]) rfl rfl ?_
      exact hK _ _ h
    · replace h := h.2 c
      refine s_aload_n hX dX4_payRound_28 rfl ?_
      refine s_getr hX fi_X4_9 ly_c_juneDay rfl dX4_payRound_29 ?_
      refine s_iload_n hX dX4_payRound_32 rfl ?_
      have hi := h.1
      replace h := h.2
      refine s_ialdv (v := (M.1 c_juneDay_purse (Int32.toNatClampNeg l2))) hX ly_c_juneDay_purse hi dX4_payRound_33 rfl ?_
      refine s_aload_n hX dX4_payRound_34 rfl ?_
      refine s_getr hX fi_X4_15 ly_c_juneDay rfl dX4_payRound_35 ?_
      refine s_iload_n hX dX4_payRound_38 rfl ?_
      refine s_bipush (v := 6) hX dX4_payRound_39 rfl ?_
      refine s_imul hX dX4_payRound_41 ?_
      refine s_iload_n hX dX4_payRound_42 rfl ?_
      refine s_iadd hX dX4_payRound_43 ?_
      have hi := h.1
      replace h := h.2
      refine s_ialdv (v := (M.1 c_juneDay_due (Int32.toNatClampNeg ((l2 * 6) + l3)))) hX ly_c_juneDay_due hi dX4_payRound_44 rfl ?_
      refine s_mmin hX wd_ml_X4_65 rfl (by decide) (Nat.le_of_ble_eq_true rfl) ⟨Nat.zero_le _, Nat.zero_le _⟩ dX4_payRound_45 ?_
      refine s_nmi (fun x592 ex592 => ?_)
      replace h := h x592 ex592
      refine s_istore (lv' := [some (vr c_juneDay), some (vi l1), some (vi l2), some (vi l3), some (vi x592)]) hX dX4_payRound_48 rfl rfl (Nat.le_of_ble_eq_true rfl) ?_
      refine s_iload hX dX4_payRound_50 rfl ?_
      refine s_if_le (tgt := 95) hX dX4_payRound_52 (by decide) (fun c => ?_) (fun c => ?_)
      · replace h := h.1 c
        refine s_iinc (v := (l3 + 1)) (lv' := [some (vr c_juneDay), some (vi l1), some (vi l2), some (vi (l3 + 1)), some (vi x592)]) hX dX4_payRound_95 rfl rfl rfl rfl ?_
        refine s_goto (tgt := 17) hX dX4_payRound_98 (by decide) ?_
        refine s_mask [true, true, true, true, false] (lv' := [some (vr c_juneDay), some (vi l1), some (vi l2), some (vi (l3 + 1)), none]) rfl rfl ?_
        exact ih _ _ _ h
      · replace h := h.2 c
        refine s_aload_n hX dX4_payRound_55 rfl ?_
        refine s_getr hX fi_X4_9 ly_c_juneDay rfl dX4_payRound_56 ?_
        refine s_iload_n hX dX4_payRound_59 rfl ?_
        refine s_dup2 hX dX4_payRound_60 rfl rfl ?_
        have hi := h.1
        replace h := h.2
        refine s_ialdv (v := (M.1 c_juneDay_purse (Int32.toNatClampNeg l2))) hX ly_c_juneDay_purse hi dX4_payRound_61 rfl ?_
        refine s_iload hX dX4_payRound_62 rfl ?_
        refine s_isub hX dX4_payRound_64 ?_
        have hi := h.1
        replace h := h.2
        refine s_iast hX ly_c_juneDay_purse hi dX4_payRound_65 ?_
        refine s_aload_n hX dX4_payRound_66 rfl ?_
        refine s_getr hX fi_X4_9 ly_c_juneDay rfl dX4_payRound_67 ?_
        refine s_iload_n hX dX4_payRound_70 rfl ?_
        refine s_dup2 hX dX4_payRound_71 rfl rfl ?_
        have hi := h.1
        replace h := h.2
        refine s_ialdv (v := ((si M c_juneDay_purse (Int32.toNatClampNeg l2) ((M.1 c_juneDay_purse (Int32.toNatClampNeg l2)) - x592)).1 c_juneDay_purse (Int32.toNatClampNeg l3))) hX ly_c_juneDay_purse hi dX4_payRound_72 rfl ?_
        refine s_iload hX dX4_payRound_73 rfl ?_
        refine s_iadd hX dX4_payRound_75 ?_
        have hi := h.1
        replace h := h.2
        refine s_iast hX ly_c_juneDay_purse hi dX4_payRound_76 ?_
        refine s_aload_n hX dX4_payRound_77 rfl ?_
        refine s_getr hX fi_X4_15 ly_c_juneDay rfl dX4_payRound_78 ?_
        refine s_iload_n hX dX4_payRound_81 rfl ?_
        refine s_bipush (v := 6) hX dX4_payRound_82 rfl ?_
        refine s_imul hX dX4_payRound_84 ?_
        refine s_iload_n hX dX4_payRound_85 rfl ?_
        refine s_iadd hX dX4_payRound_86 ?_
        refine s_dup2 hX dX4_payRound_87 rfl rfl ?_
        have hi := h.1
        replace h := h.2
        refine s_ialdv (v := (M.1 c_juneDay_due (Int32.toNatClampNeg ((l2 * 6) + l3)))) hX ly_c_juneDay_due hi dX4_payRound_88 rfl ?_
        refine s_iload hX dX4_payRound_89 rfl ?_
        refine s_isub hX dX4_payRound_91 ?_
        have hi := h.1
        replace h := h.2
        refine s_iast hX ly_c_juneDay_due hi dX4_payRound_92 ?_
        refine s_iconst (v := 1) hX dX4_payRound_93 rfl ?_
        refine s_istore_n (lv' := [some (vr c_juneDay), some (vi 1), some (vi l2), some (vi l3), some (vi x592)]) hX dX4_payRound_94 rfl rfl (Nat.le_of_ble_eq_true rfl) ?_
        refine s_iinc (v := (l3 + 1)) (lv' := [some (vr c_juneDay), some (vi 1), some (vi l2), some (vi (l3 + 1)), some (vi x592)]) hX dX4_payRound_95 rfl rfl rfl rfl ?_
        refine s_goto (tgt := 17) hX dX4_payRound_98 (by decide) ?_
        refine s_mask [true, true, true, true, false] (lv' := [some (vr c_juneDay), some (vi 1), some (vi l2), some (vi (l3 + 1)), none]) rfl rfl ?_
        exact ih _ _ _ h
def w_June_payRound_L4 (K : Int32 → Mem → Prop) (Q : Bool → Mem → Prop) : Nat → Int32 → Int32 → Mem → Prop
  | 0, _, _, _ => False
  | n + 1, l1, l2, M => (((M.1 c_land Land_people) ≤ l2 → K l1 M) ∧ (¬ (M.1 c_land Land_people) ≤ l2 → (∃ n595, w_June_payRound_L17 l2 (fun y594 M593 => w_June_payRound_L4 K Q n y594 (l2 + 1) M593) Q n595 l1 0 M)))
set_option maxHeartbeats 4000000 in
theorem t_June_payRound_L4 {X : Cx} (hX : Cok X cX4_payRound RX4 5 ((some .boolean)) 1 0 0) {Q : Bool → Mem → Prop} (hq : RI X 0 0 LY (bQ Q)) {K : Int32 → Mem → Prop} (hK : ∀ (l1 : Int32) (M : Mem), K l1 M → Wat X 0 0 LY 107 [none, some (vi l1), none, none, none] [] M) : ∀ (n : Nat) (l1 : Int32) (l2 : Int32) (M : Mem), w_June_payRound_L4 K Q n l1 l2 M → Wat X 0 0 LY 4 [some (vr c_juneDay), some (vi l1), some (vi l2), none, none] [] M := by
  intro n
  induction n with
  | zero => intro _ _ _ h; exact h.elim
  | succ n ih =>
    intro l1 l2 M h
    refine s_iload_n hX dX4_payRound_4 rfl ?_
    refine s_aload_n hX dX4_payRound_5 rfl ?_
    refine s_getr hX fi_X4_18 ly_c_juneDay rfl dX4_payRound_6 ?_
    refine s_getiv (v := (M.1 c_land Land_people)) hX fi_X4_45 ly_c_land rfl dX4_payRound_9 rfl ?_
    refine s_icmp_ge (tgt := 107) hX dX4_payRound_12 (by decide) (fun c => ?_) (fun c => ?_)
    · replace h := h.1 c
      refine s_mask [false, true, false, true, true] (lv' := [none, some (vi l1), none, none, none]) rfl rfl ?_
      exact hK _ _ h
    · replace h := h.2 c
      refine s_iconst (v := 0) hX dX4_payRound_15 rfl ?_
      refine s_istore_n (lv' := [some (vr c_juneDay), some (vi l1), some (vi l2), some (vi 0), none]) hX dX4_payRound_16 rfl rfl (Nat.le_of_ble_eq_true rfl) ?_
      obtain ⟨n595, h⟩ := h
      refine t_June_payRound_L17 hX hq ?_ n595 _ _ _ h
      intro y594 M593 h
      refine s_iinc (v := (l2 + 1)) (lv' := [some (vr c_juneDay), some (vi y594), some (vi (l2 + 1)), none, none]) hX dX4_payRound_101 rfl rfl rfl rfl ?_
      refine s_goto (tgt := 4) hX dX4_payRound_104 (by decide) ?_
      exact ih _ _ _ h
def w_June_payRound (M : Mem) (Q : Bool → Mem → Prop) : Prop :=
  (∃ n598, w_June_payRound_L4 (fun y597 M596 => (∃ bb : Bool, y597 = b2i bb ∧ Q bb M596)) Q n598 0 0 M)
set_option maxHeartbeats 4000000 in
theorem t_June_payRound {X : Cx} (hX : Cok X cX4_payRound RX4 5 ((some .boolean)) 1 0 0) {Q : Bool → Mem → Prop} (hq : RI X 0 0 LY (bQ Q)) {M : Mem} (h : w_June_payRound M Q) : Wat X 0 0 LY 0 [some (vr c_juneDay), none, none, none, none] [] M := by
  refine s_iconst (v := 0) hX dX4_payRound_0 rfl ?_
  refine s_istore_n (lv' := [some (vr c_juneDay), some (vi 0), none, none, none]) hX dX4_payRound_1 rfl rfl (Nat.le_of_ble_eq_true rfl) ?_
  refine s_iconst (v := 0) hX dX4_payRound_2 rfl ?_
  refine s_istore_n (lv' := [some (vr c_juneDay), some (vi 0), some (vi 0), none, none]) hX dX4_payRound_3 rfl rfl (Nat.le_of_ble_eq_true rfl) ?_
  obtain ⟨n598, h⟩ := h
  refine t_June_payRound_L4 hX hq ?_ n598 _ _ _ h
  intro y597 M596 h
  refine s_iload_n hX dX4_payRound_107 rfl ?_
  obtain ⟨bb, hbb, h⟩ := h
  exact s_zret hX bb hq rfl dX4_payRound_108 hbb h
theorem c_June_payRound {M : Mem} {Q : Bool → Mem → Prop} (h : w_June_payRound M Q) : CI yX4_payRound cX4_payRound 5 ((some .boolean)) 1 0 0 LY LY [vr c_juneDay] M (bQ Q) := mk_i rfl wd_co_X4_payRound rfl rfl (Nat.le_of_ble_eq_true rfl) (fun X hX hq => t_June_payRound hX hq h)
theorem mv_June_payRound : MV yX4_payRound cX4_payRound 5 ((some .boolean)) RX4 0 := ⟨wd_co_X4_payRound, wd_im_X4_payRound, wd_se_X4_payRound, wd_in_X4, by decide +kernel, by decide⟩
def w_June_collect_L51 (l1 : Int32) (K : Mem → Prop) (Q : Mem → Prop) : Nat → Int32 → Mem → Prop
  | 0, _, _ => False
  | n + 1, l2, M => (((M.1 c_land Land_people) ≤ l2 → K M) ∧ (¬ (M.1 c_land Land_people) ≤ l2 → (vp_in ((l1 * 6) + l2) 36 ∧ ∀ x588 : Int32, x588 = (M.1 c_debts_sums (Int32.toNatClampNeg ((l1 * 6) + l2))) → (vp_in ((l2 * 6) + l1) 36 ∧ (vp_in ((l1 * 6) + l2) 36 ∧ w_June_collect_L51 l1 K Q n (l2 + 1) (si M c_juneDay_due (Int32.toNatClampNeg ((l1 * 6) + l2)) (if (0 : Int32) < (x588 - (M.1 c_debts_sums (Int32.toNatClampNeg ((l2 * 6) + l1)))) then (x588 - (M.1 c_debts_sums (Int32.toNatClampNeg ((l2 * 6) + l1)))) else 0)))))))
set_option maxHeartbeats 4000000 in
theorem t_June_collect_L51 {X : Cx} (hX : Cok X cX4_collect RX4 4 none 6 0 0) {Q : Mem → Prop} (hq : RV X 0 0 LY Q) {l1 : Int32} {K : Mem → Prop} (hK : ∀ (M : Mem), K M → Wat X 0 0 LY 114 [some (vr c_juneDay), some (vi l1), none, none] [] M) : ∀ (n : Nat) (l2 : Int32) (M : Mem), w_June_collect_L51 l1 K Q n l2 M → Wat X 0 0 LY 51 [some (vr c_juneDay), some (vi l1), some (vi l2), none] [] M := by
  intro n
  induction n with
  | zero => intro _ _ h; exact h.elim
  | succ n ih =>
    intro l2 M h
    refine s_iload_n hX dX4_collect_51 rfl ?_
    refine s_aload_n hX dX4_collect_52 rfl ?_
    refine s_getr hX fi_X4_18 ly_c_juneDay rfl dX4_collect_53 ?_
    refine s_getiv (v := (M.1 c_land Land_people)) hX fi_X4_45 ly_c_land rfl dX4_collect_56 rfl ?_
    refine s_icmp_ge (tgt := 114) hX dX4_collect_59 (by decide) (fun c => ?_) (fun c => ?_)
    · replace h := h.1 c
      refine s_mask [true, true, false, true] (lv' := [some (vr c_juneDay), some (vi l1), none, none]) rfl rfl ?_
      exact hK _ h
    · replace h := h.2 c
      refine s_aload_n hX dX4_collect_62 rfl ?_
      refine s_getr hX fi_X4_26 ly_c_juneDay rfl dX4_collect_63 ?_
      refine s_getr hX fi_X4_51 ly_c_debts rfl dX4_collect_66 ?_
      refine s_iload_n hX dX4_collect_69 rfl ?_
      refine s_bipush (v := 6) hX dX4_collect_70 rfl ?_
      refine s_imul hX dX4_collect_72 ?_
      refine s_iload_n hX dX4_collect_73 rfl ?_
      refine s_iadd hX dX4_collect_74 ?_
      have hi := h.1
      replace h := h.2
      refine s_ialdv (v := (M.1 c_debts_sums (Int32.toNatClampNeg ((l1 * 6) + l2)))) hX ly_c_debts_sums hi dX4_collect_75 rfl ?_
      refine s_nmi (fun x588 ex588 => ?_)
      replace h := h x588 ex588
      refine s_istore_n (lv' := [some (vr c_juneDay), some (vi l1), some (vi l2), some (vi x588)]) hX dX4_collect_76 rfl rfl (Nat.le_of_ble_eq_true rfl) ?_
      refine s_aload_n hX dX4_collect_77 rfl ?_
      refine s_getr hX fi_X4_15 ly_c_juneDay rfl dX4_collect_78 ?_
      refine s_iload_n hX dX4_collect_81 rfl ?_
      refine s_bipush (v := 6) hX dX4_collect_82 rfl ?_
      refine s_imul hX dX4_collect_84 ?_
      refine s_iload_n hX dX4_collect_85 rfl ?_
      refine s_iadd hX dX4_collect_86 ?_
      refine s_iconst (v := 0) hX dX4_collect_87 rfl ?_
      refine s_iload_n hX dX4_collect_88 rfl ?_
      refine s_aload_n hX dX4_collect_89 rfl ?_
      refine s_getr hX fi_X4_26 ly_c_juneDay rfl dX4_collect_90 ?_
      refine s_getr hX fi_X4_51 ly_c_debts rfl dX4_collect_93 ?_
      refine s_iload_n hX dX4_collect_96 rfl ?_
      refine s_bipush (v := 6) hX dX4_collect_97 rfl ?_
      refine s_imul hX dX4_collect_99 ?_
      refine s_iload_n hX dX4_collect_100 rfl ?_
      refine s_iadd hX dX4_collect_101 ?_
      have hi := h.1
      replace h := h.2
      refine s_ialdv (v := (M.1 c_debts_sums (Int32.toNatClampNeg ((l2 * 6) + l1)))) hX ly_c_debts_sums hi dX4_collect_102 rfl ?_
      refine s_isub hX dX4_collect_103 ?_
      refine s_mmax hX wd_ml_X4_54 rfl (by decide) (Nat.le_of_ble_eq_true rfl) ⟨Nat.zero_le _, Nat.zero_le _⟩ dX4_collect_104 ?_
      have hi := h.1
      replace h := h.2
      refine s_iast hX ly_c_juneDay_due hi dX4_collect_107 ?_
      refine s_iinc (v := (l2 + 1)) (lv' := [some (vr c_juneDay), some (vi l1), some (vi (l2 + 1)), some (vi x588)]) hX dX4_collect_108 rfl rfl rfl rfl ?_
      refine s_goto (tgt := 51) hX dX4_collect_111 (by decide) ?_
      refine s_mask [true, true, true, false] (lv' := [some (vr c_juneDay), some (vi l1), some (vi (l2 + 1)), none]) rfl rfl ?_
      exact ih _ _ h
def w_June_collect_L23 (K : Mem → Prop) (Q : Mem → Prop) : Nat → Int32 → Mem → Prop
  | 0, _, _ => False
  | n + 1, l1, M => (((M.1 c_land Land_people) ≤ l1 → K M) ∧ (¬ (M.1 c_land Land_people) ≤ l1 → (vp_in l1 6 ∧ (vp_in l1 6 ∧ (∃ n590, w_June_collect_L51 l1 (fun M589 => w_June_collect_L23 K Q n (l1 + 1) M589) Q n590 0 (si M c_juneDay_purse (Int32.toNatClampNeg l1) (M.1 c_land_purse (Int32.toNatClampNeg l1))))))))
set_option maxHeartbeats 4000000 in
theorem t_June_collect_L23 {X : Cx} (hX : Cok X cX4_collect RX4 4 none 6 0 0) {Q : Mem → Prop} (hq : RV X 0 0 LY Q) {K : Mem → Prop} (hK : ∀ (M : Mem), K M → Wat X 0 0 LY 120 [some (vr c_juneDay), none, none, none] [] M) : ∀ (n : Nat) (l1 : Int32) (M : Mem), w_June_collect_L23 K Q n l1 M → Wat X 0 0 LY 23 [some (vr c_juneDay), some (vi l1), none, none] [] M := by
  intro n
  induction n with
  | zero => intro _ _ h; exact h.elim
  | succ n ih =>
    intro l1 M h
    refine s_iload_n hX dX4_collect_23 rfl ?_
    refine s_aload_n hX dX4_collect_24 rfl ?_
    refine s_getr hX fi_X4_18 ly_c_juneDay rfl dX4_collect_25 ?_
    refine s_getiv (v := (M.1 c_land Land_people)) hX fi_X4_45 ly_c_land rfl dX4_collect_28 rfl ?_
    refine s_icmp_ge (tgt := 120) hX dX4_collect_31 (by decide) (fun c => ?_) (fun c => ?_)
    · replace h := h.1 c
      refine s_mask [true, false, true, true] (lv' := [some (vr c_juneDay), none, none, none]) rfl rfl ?_
      exact hK _ h
    · replace h := h.2 c
      refine s_aload_n hX dX4_collect_34 rfl ?_
      refine s_getr hX fi_X4_9 ly_c_juneDay rfl dX4_collect_35 ?_
      refine s_iload_n hX dX4_collect_38 rfl ?_
      refine s_aload_n hX dX4_collect_39 rfl ?_
      refine s_getr hX fi_X4_18 ly_c_juneDay rfl dX4_collect_40 ?_
      refine s_getr hX fi_X4_50 ly_c_land rfl dX4_collect_43 ?_
      refine s_iload_n hX dX4_collect_46 rfl ?_
      have hi := h.1
      replace h := h.2
      refine s_ialdv (v := (M.1 c_land_purse (Int32.toNatClampNeg l1))) hX ly_c_land_purse hi dX4_collect_47 rfl ?_
      have hi := h.1
      replace h := h.2
      refine s_iast hX ly_c_juneDay_purse hi dX4_collect_48 ?_
      refine s_iconst (v := 0) hX dX4_collect_49 rfl ?_
      refine s_istore_n (lv' := [some (vr c_juneDay), some (vi l1), some (vi 0), none]) hX dX4_collect_50 rfl rfl (Nat.le_of_ble_eq_true rfl) ?_
      obtain ⟨n590, h⟩ := h
      refine t_June_collect_L51 hX hq ?_ n590 _ _ h
      intro M589 h
      refine s_iinc (v := (l1 + 1)) (lv' := [some (vr c_juneDay), some (vi (l1 + 1)), none, none]) hX dX4_collect_114 rfl rfl rfl rfl ?_
      refine s_goto (tgt := 23) hX dX4_collect_117 (by decide) ?_
      exact ih _ _ h
def w_June_collect_L124 (K : Mem → Prop) (Q : Mem → Prop) : Nat → Int32 → Int32 → Mem → Prop
  | 0, _, _, _ => False
  | n + 1, l1, l2, M => ((1000000 ≤ l2 → K M) ∧ (¬ 1000000 ≤ l2 → ((l1 = 0 → K M) ∧ (¬ l1 = 0 → w_June_payRound M (fun b600 M599 => w_June_collect_L124 K Q n (b2i b600) (l2 + 1) M599)))))
set_option maxHeartbeats 4000000 in
theorem t_June_collect_L124 {X : Cx} (hX : Cok X cX4_collect RX4 4 none 6 0 0) {Q : Mem → Prop} (hq : RV X 0 0 LY Q) {K : Mem → Prop} (hK : ∀ (M : Mem), K M → Wat X 0 0 LY 145 [none, none, none, none] [] M) : ∀ (n : Nat) (l1 : Int32) (l2 : Int32) (M : Mem), w_June_collect_L124 K Q n l1 l2 M → Wat X 0 0 LY 124 [some (vr c_juneDay), some (vi l1), some (vi l2), none] [] M := by
  intro n
  induction n with
  | zero => intro _ _ _ h; exact h.elim
  | succ n ih =>
    intro l1 l2 M h
    refine s_iload_n hX dX4_collect_124 rfl ?_
    refine s_ldc hX wd_ci_X4_60 dX4_collect_125 ?_
    refine s_icmp_ge (tgt := 145) hX dX4_collect_127 (by decide) (fun c => ?_) (fun c => ?_)
    · replace h := h.1 c
      refine s_mask [false, false, false, true] (lv' := [none, none, none, none]) rfl rfl ?_
      exact hK _ h
    · replace h := h.2 c
      refine s_iload_n hX dX4_collect_130 rfl ?_
      refine s_if_eq (tgt := 145) hX dX4_collect_131 (by decide) (fun c => ?_) (fun c => ?_)
      · replace h := h.1 c
        refine s_mask [false, false, false, true] (lv' := [none, none, none, none]) rfl rfl ?_
        exact hK _ h
      · replace h := h.2 c
        refine s_aload_n hX dX4_collect_134 rfl ?_
        refine s_cvi (as := []) (rest := []) hX (c_June_payRound h) mv_June_payRound wd_ml_X4_61 dX4_collect_135 ly_c_juneDay rfl rfl (Nat.le_of_ble_eq_true rfl) rfl (by decide) ⟨Nat.zero_le _, Nat.zero_le _⟩ (fun b600_ M599 h => ?_)
        obtain ⟨b600, rfl, h⟩ := h
        refine s_istore_n (lv' := [some (vr c_juneDay), some (vi (b2i b600)), some (vi l2), none]) hX dX4_collect_138 rfl rfl (Nat.le_of_ble_eq_true rfl) ?_
        refine s_iinc (v := (l2 + 1)) (lv' := [some (vr c_juneDay), some (vi (b2i b600)), some (vi (l2 + 1)), none]) hX dX4_collect_139 rfl rfl rfl rfl ?_
        refine s_goto (tgt := 124) hX dX4_collect_142 (by decide) ?_
        exact ih _ _ _ h
def w_June_collect (M : Mem) (Q : Mem → Prop) : Prop :=
  w_Debts_allAsTold M (fun M586 => w_Debts_tally (M586.1 c_deeds Deeds_shot) M586 (fun M587 => (∃ n603, w_June_collect_L23 (fun M591 => (∃ n602, w_June_collect_L124 (fun M601 => Q M601) Q n602 1 0 M591)) Q n603 0 M587)))
set_option maxHeartbeats 4000000 in
theorem t_June_collect {X : Cx} (hX : Cok X cX4_collect RX4 4 none 6 0 0) {Q : Mem → Prop} (hq : RV X 0 0 LY Q) {M : Mem} (h : w_June_collect M Q) : Wat X 0 0 LY 0 [some (vr c_juneDay), none, none, none] [] M := by
  refine s_aload_n hX dX4_collect_0 rfl ?_
  refine s_getr hX fi_X4_26 ly_c_juneDay rfl dX4_collect_1 ?_
  refine s_cvv (as := []) (rest := []) hX (c_Debts_allAsTold h) mv_Debts_allAsTold wd_ml_X4_30 dX4_collect_4 ly_c_debts rfl rfl (Nat.le_of_ble_eq_true rfl) rfl (by decide) ⟨Nat.zero_le _, Nat.zero_le _⟩ (fun M586 h => ?_)
  refine s_aload_n hX dX4_collect_7 rfl ?_
  refine s_getr hX fi_X4_26 ly_c_juneDay rfl dX4_collect_8 ?_
  refine s_aload_n hX dX4_collect_11 rfl ?_
  refine s_getr hX fi_X4_22 ly_c_juneDay rfl dX4_collect_12 ?_
  refine s_getiv (v := (M586.1 c_deeds Deeds_shot)) hX fi_X4_35 ly_c_deeds rfl dX4_collect_15 rfl ?_
  refine s_cvv (as := [vi (M586.1 c_deeds Deeds_shot)]) (rest := []) hX (c_Debts_tally h) mv_Debts_tally wd_ml_X4_41 dX4_collect_18 ly_c_debts rfl rfl (Nat.le_of_ble_eq_true rfl) rfl (by decide) ⟨Nat.zero_le _, Nat.zero_le _⟩ (fun M587 h => ?_)
  refine s_iconst (v := 0) hX dX4_collect_21 rfl ?_
  refine s_istore_n (lv' := [some (vr c_juneDay), some (vi 0), none, none]) hX dX4_collect_22 rfl rfl (Nat.le_of_ble_eq_true rfl) ?_
  obtain ⟨n603, h⟩ := h
  refine t_June_collect_L23 hX hq ?_ n603 _ _ h
  intro M591 h
  refine s_iconst (v := 1) hX dX4_collect_120 rfl ?_
  refine s_istore_n (lv' := [some (vr c_juneDay), some (vi 1), none, none]) hX dX4_collect_121 rfl rfl (Nat.le_of_ble_eq_true rfl) ?_
  refine s_iconst (v := 0) hX dX4_collect_122 rfl ?_
  refine s_istore_n (lv' := [some (vr c_juneDay), some (vi 1), some (vi 0), none]) hX dX4_collect_123 rfl rfl (Nat.le_of_ble_eq_true rfl) ?_
  obtain ⟨n602, h⟩ := h
  refine t_June_collect_L124 hX hq ?_ n602 _ _ _ h
  intro M601 h
  exact s_vret hX hq rfl dX4_collect_145 h
theorem c_June_collect {M : Mem} {Q : Mem → Prop} (h : w_June_collect M Q) : CV yX4_collect cX4_collect 4 none 6 0 0 LY LY [vr c_juneDay] M Q := mk_v rfl wd_co_X4_collect rfl rfl (Nat.le_of_ble_eq_true rfl) (fun X hX hq => t_June_collect hX hq h)
theorem mv_June_collect : MV yX4_collect cX4_collect 4 none RX4 0 := ⟨wd_co_X4_collect, wd_im_X4_collect, wd_se_X4_collect, wd_in_X4, by decide +kernel, by decide⟩
def w_June_ruined_L17 (l2 : Int32) (K : Int32 → Mem → Prop) (Q : Int32 → Mem → Prop) : Nat → Int32 → Int32 → Mem → Prop
  | 0, _, _, _ => False
  | n + 1, l1, l3, M => (((M.1 c_land Land_people) ≤ l3 → K l1 M) ∧ (¬ (M.1 c_land Land_people) ≤ l3 → (vp_in ((l2 * 6) + l3) 36 ∧ (((M.1 c_juneDay_due (Int32.toNatClampNeg ((l2 * 6) + l3))) ≤ 0 → w_June_ruined_L17 l2 K Q n (l1 ||| 0) (l3 + 1) M) ∧ (¬ (M.1 c_juneDay_due (Int32.toNatClampNeg ((l2 * 6) + l3))) ≤ 0 → w_June_ruined_L17 l2 K Q n (l1 ||| (1 <<< (l2 &&& 31))) (l3 + 1) M)))))
set_option maxHeartbeats 4000000 in
theorem t_June_ruined_L17 {X : Cx} (hX : Cok X cX4_ruined RX4 4 ((some .int)) 1 0 0) {Q : Int32 → Mem → Prop} (hq : RI X 0 0 LY Q) {l2 : Int32} {K : Int32 → Mem → Prop} (hK : ∀ (l1 : Int32) (M : Mem), K l1 M → Wat X 0 0 LY 58 [some (vr c_juneDay), some (vi l1), some (vi l2), none] [] M) : ∀ (n : Nat) (l1 : Int32) (l3 : Int32) (M : Mem), w_June_ruined_L17 l2 K Q n l1 l3 M → Wat X 0 0 LY 17 [some (vr c_juneDay), some (vi l1), some (vi l2), some (vi l3)] [] M := by
  intro n
  induction n with
  | zero => intro _ _ _ h; exact h.elim
  | succ n ih =>
    intro l1 l3 M h
    refine s_iload_n hX dX4_ruined_17 rfl ?_
    refine s_aload_n hX dX4_ruined_18 rfl ?_
    refine s_getr hX fi_X4_18 ly_c_juneDay rfl dX4_ruined_19 ?_
    refine s_getiv (v := (M.1 c_land Land_people)) hX fi_X4_45 ly_c_land rfl dX4_ruined_22 rfl ?_
    refine s_icmp_ge (tgt := 58) hX dX4_ruined_25 (by decide) (fun c => ?_) (fun c => ?_)
    · replace h := h.1 c
      refine s_mask [true, true, true, false] (lv' := [some (vr c_juneDay), some (vi l1), some (vi l2), none]) rfl rfl ?_
      exact hK _ _ h
    · replace h := h.2 c
      refine s_iload_n hX dX4_ruined_28 rfl ?_
      refine s_aload_n hX dX4_ruined_29 rfl ?_
      refine s_getr hX fi_X4_15 ly_c_juneDay rfl dX4_ruined_30 ?_
      refine s_iload_n hX dX4_ruined_33 rfl ?_
      refine s_bipush (v := 6) hX dX4_ruined_34 rfl ?_
      refine s_imul hX dX4_ruined_36 ?_
      refine s_iload_n hX dX4_ruined_37 rfl ?_
      refine s_iadd hX dX4_ruined_38 ?_
      have hi := h.1
      replace h := h.2
      refine s_ialdv (v := (M.1 c_juneDay_due (Int32.toNatClampNeg ((l2 * 6) + l3)))) hX ly_c_juneDay_due hi dX4_ruined_39 rfl ?_
      refine s_if_le (tgt := 49) hX dX4_ruined_40 (by decide) (fun c => ?_) (fun c => ?_)
      · replace h := h.1 c
        refine s_iconst (v := 0) hX dX4_ruined_49 rfl ?_
        refine s_ior hX dX4_ruined_50 ?_
        refine s_istore_n (lv' := [some (vr c_juneDay), some (vi (l1 ||| 0)), some (vi l2), some (vi l3)]) hX dX4_ruined_51 rfl rfl (Nat.le_of_ble_eq_true rfl) ?_
        refine s_iinc (v := (l3 + 1)) (lv' := [some (vr c_juneDay), some (vi (l1 ||| 0)), some (vi l2), some (vi (l3 + 1))]) hX dX4_ruined_52 rfl rfl rfl rfl ?_
        refine s_goto (tgt := 17) hX dX4_ruined_55 (by decide) ?_
        exact ih _ _ _ h
      · replace h := h.2 c
        refine s_iconst (v := 1) hX dX4_ruined_43 rfl ?_
        refine s_iload_n hX dX4_ruined_44 rfl ?_
        refine s_ishl hX dX4_ruined_45 ?_
        refine s_goto (tgt := 50) hX dX4_ruined_46 (by decide) ?_
        refine s_ior hX dX4_ruined_50 ?_
        refine s_istore_n (lv' := [some (vr c_juneDay), some (vi (l1 ||| (1 <<< (l2 &&& 31)))), some (vi l2), some (vi l3)]) hX dX4_ruined_51 rfl rfl (Nat.le_of_ble_eq_true rfl) ?_
        refine s_iinc (v := (l3 + 1)) (lv' := [some (vr c_juneDay), some (vi (l1 ||| (1 <<< (l2 &&& 31)))), some (vi l2), some (vi (l3 + 1))]) hX dX4_ruined_52 rfl rfl rfl rfl ?_
        refine s_goto (tgt := 17) hX dX4_ruined_55 (by decide) ?_
        exact ih _ _ _ h
def w_June_ruined_L4 (K : Int32 → Mem → Prop) (Q : Int32 → Mem → Prop) : Nat → Int32 → Int32 → Mem → Prop
  | 0, _, _, _ => False
  | n + 1, l1, l2, M => (((M.1 c_land Land_people) ≤ l2 → K l1 M) ∧ (¬ (M.1 c_land Land_people) ≤ l2 → (∃ n607, w_June_ruined_L17 l2 (fun y606 M605 => w_June_ruined_L4 K Q n y606 (l2 + 1) M605) Q n607 l1 0 M)))
set_option maxHeartbeats 4000000 in
theorem t_June_ruined_L4 {X : Cx} (hX : Cok X cX4_ruined RX4 4 ((some .int)) 1 0 0) {Q : Int32 → Mem → Prop} (hq : RI X 0 0 LY Q) {K : Int32 → Mem → Prop} (hK : ∀ (l1 : Int32) (M : Mem), K l1 M → Wat X 0 0 LY 64 [none, some (vi l1), none, none] [] M) : ∀ (n : Nat) (l1 : Int32) (l2 : Int32) (M : Mem), w_June_ruined_L4 K Q n l1 l2 M → Wat X 0 0 LY 4 [some (vr c_juneDay), some (vi l1), some (vi l2), none] [] M := by
  intro n
  induction n with
  | zero => intro _ _ _ h; exact h.elim
  | succ n ih =>
    intro l1 l2 M h
    refine s_iload_n hX dX4_ruined_4 rfl ?_
    refine s_aload_n hX dX4_ruined_5 rfl ?_
    refine s_getr hX fi_X4_18 ly_c_juneDay rfl dX4_ruined_6 ?_
    refine s_getiv (v := (M.1 c_land Land_people)) hX fi_X4_45 ly_c_land rfl dX4_ruined_9 rfl ?_
    refine s_icmp_ge (tgt := 64) hX dX4_ruined_12 (by decide) (fun c => ?_) (fun c => ?_)
    · replace h := h.1 c
      refine s_mask [false, true, false, true] (lv' := [none, some (vi l1), none, none]) rfl rfl ?_
      exact hK _ _ h
    · replace h := h.2 c
      refine s_iconst (v := 0) hX dX4_ruined_15 rfl ?_
      refine s_istore_n (lv' := [some (vr c_juneDay), some (vi l1), some (vi l2), some (vi 0)]) hX dX4_ruined_16 rfl rfl (Nat.le_of_ble_eq_true rfl) ?_
      obtain ⟨n607, h⟩ := h
      refine t_June_ruined_L17 hX hq ?_ n607 _ _ _ h
      intro y606 M605 h
      refine s_iinc (v := (l2 + 1)) (lv' := [some (vr c_juneDay), some (vi y606), some (vi (l2 + 1)), none]) hX dX4_ruined_58 rfl rfl rfl rfl ?_
      refine s_goto (tgt := 4) hX dX4_ruined_61 (by decide) ?_
      exact ih _ _ _ h
def w_June_ruined (M : Mem) (Q : Int32 → Mem → Prop) : Prop :=
  (∃ n610, w_June_ruined_L4 (fun y609 M608 => Q y609 M608) Q n610 0 0 M)
set_option maxHeartbeats 4000000 in
theorem t_June_ruined {X : Cx} (hX : Cok X cX4_ruined RX4 4 ((some .int)) 1 0 0) {Q : Int32 → Mem → Prop} (hq : RI X 0 0 LY Q) {M : Mem} (h : w_June_ruined M Q) : Wat X 0 0 LY 0 [some (vr c_juneDay), none, none, none] [] M := by
  refine s_iconst (v := 0) hX dX4_ruined_0 rfl ?_
  refine s_istore_n (lv' := [some (vr c_juneDay), some (vi 0), none, none]) hX dX4_ruined_1 rfl rfl (Nat.le_of_ble_eq_true rfl) ?_
  refine s_iconst (v := 0) hX dX4_ruined_2 rfl ?_
  refine s_istore_n (lv' := [some (vr c_juneDay), some (vi 0), some (vi 0), none]) hX dX4_ruined_3 rfl rfl (Nat.le_of_ble_eq_true rfl) ?_
  obtain ⟨n610, h⟩ := h
  refine t_June_ruined_L4 hX hq ?_ n610 _ _ _ h
  intro y609 M608 h
  refine s_iload_n hX dX4_ruined_64 rfl ?_
  exact s_iret hX hq rfl dX4_ruined_65 h
theorem c_June_ruined {M : Mem} {Q : Int32 → Mem → Prop} (h : w_June_ruined M Q) : CI yX4_ruined cX4_ruined 4 ((some .int)) 1 0 0 LY LY [vr c_juneDay] M Q := mk_i rfl wd_co_X4_ruined rfl rfl (Nat.le_of_ble_eq_true rfl) (fun X hX hq => t_June_ruined hX hq h)
theorem mv_June_ruined : MV yX4_ruined cX4_ruined 4 ((some .int)) RX4 0 := ⟨wd_co_X4_ruined, wd_im_X4_ruined, wd_se_X4_ruined, wd_in_X4, by decide +kernel, by decide⟩
def w_Top_june_j16 (l1 : Int32) (M : Mem) (Q : Int32 → Mem → Prop) : Prop :=
  w_June_collect M (fun M604 => ((¬ l1 = (-1) → (vp_in l1 6 ∧ Q (M604.1 c_juneDay_purse (Int32.toNatClampNeg l1)) M604)) ∧ (l1 = (-1) → w_June_ruined M604 (fun r612 M611 => Q r612 M611))))
set_option maxHeartbeats 4000000 in
theorem t_Top_june_j16 {X : Cx} (hX : Cok X cX11_june RX11 2 ((some .int)) 7 0 0) {Q : Int32 → Mem → Prop} (hq : RI X 0 0 LY Q) {l1 : Int32} {M : Mem} (h : w_Top_june_j16 l1 M Q) : Wat X 0 0 LY 16 [some (vr c_xx), some (vi l1)] [] M := by
  refine s_aload_n hX dX11_june_16 rfl ?_
  refine s_getr hX fi_X11_81 ly_c_xx rfl dX11_june_17 ?_
  refine s_cvv (as := []) (rest := []) hX (c_June_collect h) mv_June_collect wd_ml_X11_263 dX11_june_20 ly_c_juneDay rfl rfl (Nat.le_of_ble_eq_true rfl) rfl (by decide) ⟨Nat.zero_le _, Nat.zero_le _⟩ (fun M604 h => ?_)
  refine s_iload_n hX dX11_june_23 rfl ?_
  refine s_iconst (v := (-1)) hX dX11_june_24 rfl ?_
  refine s_icmp_ne (tgt := 38) hX dX11_june_25 (by decide) (fun c => ?_) (fun c => ?_)
  · replace h := h.1 c
    refine s_aload_n hX dX11_june_38 rfl ?_
    refine s_getr hX fi_X11_81 ly_c_xx rfl dX11_june_39 ?_
    refine s_getr hX fi_X11_269 ly_c_juneDay rfl dX11_june_42 ?_
    refine s_iload_n hX dX11_june_45 rfl ?_
    have hi := h.1
    replace h := h.2
    refine s_ialdv (v := (M604.1 c_juneDay_purse (Int32.toNatClampNeg l1))) hX ly_c_juneDay_purse hi dX11_june_46 rfl ?_
    exact s_iret hX hq rfl dX11_june_47 h
  · replace h := h.2 c
    refine s_aload_n hX dX11_june_28 rfl ?_
    refine s_getr hX fi_X11_81 ly_c_xx rfl dX11_june_29 ?_
    refine s_cvi (as := []) (rest := []) hX (c_June_ruined h) mv_June_ruined wd_ml_X11_266 dX11_june_32 ly_c_juneDay rfl rfl (Nat.le_of_ble_eq_true rfl) rfl (by decide) ⟨Nat.zero_le _, Nat.zero_le _⟩ (fun r612 M611 h => ?_)
    refine s_goto (tgt := 47) hX dX11_june_35 (by decide) ?_
    exact s_iret hX hq rfl dX11_june_47 h
def w_Top_june (a0 : Int32) (M : Mem) (Q : Int32 → Mem → Prop) : Prop :=
  ((a0 = (-1) → w_Top_june_j16 a0 M Q) ∧ (¬ a0 = (-1) → w_Top_isPerson a0 M (fun b614 M613 => ((b614 = true → w_Top_june_j16 a0 M613 Q) ∧ (b614 = false → Q (-2) M613)))))
set_option maxHeartbeats 4000000 in
theorem t_Top_june {X : Cx} (hX : Cok X cX11_june RX11 2 ((some .int)) 7 0 0) {Q : Int32 → Mem → Prop} (hq : RI X 0 0 LY Q) {M : Mem} {a0 : Int32} (h : w_Top_june a0 M Q) : Wat X 0 0 LY 0 [some (vr c_xx), some (vi a0)] [] M := by
  refine s_iload_n hX dX11_june_0 rfl ?_
  refine s_iconst (v := (-1)) hX dX11_june_1 rfl ?_
  refine s_icmp_eq (tgt := 16) hX dX11_june_2 (by decide) (fun c => ?_) (fun c => ?_)
  · replace h := h.1 c
    exact t_Top_june_j16 hX hq h
  · replace h := h.2 c
    refine s_aload_n hX dX11_june_5 rfl ?_
    refine s_iload_n hX dX11_june_6 rfl ?_
    refine s_cvi (as := [vi a0]) (rest := []) hX (c_Top_isPerson h) mv_Top_isPerson wd_ml_X11_113 dX11_june_7 ly_c_xx rfl rfl (Nat.le_of_ble_eq_true rfl) rfl (by decide) ⟨Nat.zero_le _, Nat.zero_le _⟩ (fun b614_ M613 h => ?_)
    obtain ⟨b614, rfl, h⟩ := h
    refine s_if_ne (tgt := 16) hX dX11_june_10 (by decide) (fun c => ?_) (fun c => ?_)
    · replace h := h.1 (b2i_1 c)
      exact t_Top_june_j16 hX hq h
    · replace h := h.2 (b2i_0 c)
      refine s_bipush (v := (-2)) hX dX11_june_13 rfl ?_
      exact s_iret hX hq rfl dX11_june_15 h
theorem c_Top_june {a0 : Int32} {M : Mem} {Q : Int32 → Mem → Prop} (h : w_Top_june a0 M Q) : CI yX11_june cX11_june 2 ((some .int)) 7 0 0 LY LY [vr c_xx, vi a0] M Q := mk_i rfl wd_co_X11_june rfl rfl (Nat.le_of_ble_eq_true rfl) (fun X hX hq => t_Top_june hX hq h)
theorem mv_Top_june : MV yX11_june cX11_june 2 ((some .int)) RX11 1 := ⟨wd_co_X11_june, wd_im_X11_june, wd_se_X11_june, wd_in_X11, by decide +kernel, by decide⟩
def w_Deeds_copyFrom (M : Mem) (Q : Mem → Prop) : Prop :=
  Q (sa (si (sa M c_deeds_times (va_cpy (M.1 c_mark0_times) (M.1 c_deeds_times) (Int32.toNatClampNeg 0) (Int32.toNatClampNeg 0) (Int32.toNatClampNeg 120))) c_deeds Deeds_shot (M.1 c_mark0 Deeds_shot)) c_deeds_debt (va_cpy (M.1 c_mark0_debt) (M.1 c_deeds_debt) (Int32.toNatClampNeg 0) (Int32.toNatClampNeg 0) (Int32.toNatClampNeg 6)))
set_option maxHeartbeats 4000000 in
theorem t_Deeds_copyFrom {X : Cx} (hX : Cok X cX1_copyFrom RX1 2 none 1 0 0) {Q : Mem → Prop} (hq : RV X 0 0 LY Q) {M : Mem} (h : w_Deeds_copyFrom M Q) : Wat X 0 0 LY 0 [some (vr c_deeds), some (vr c_mark0)] [] M := by
  refine s_aload_n hX dX1_copyFrom_0 rfl ?_
  refine s_getr hX fi_X1_9 ly_c_mark0 rfl dX1_copyFrom_1 ?_
  refine s_iconst (v := 0) hX dX1_copyFrom_4 rfl ?_
  refine s_aload_n hX dX1_copyFrom_5 rfl ?_
  refine s_getr hX fi_X1_9 ly_c_deeds rfl dX1_copyFrom_6 ?_
  refine s_iconst (v := 0) hX dX1_copyFrom_9 rfl ?_
  refine s_bipush (v := 120) hX dX1_copyFrom_10 rfl ?_
  refine s_acopy hX ly_c_mark0_times ly_c_deeds_times wd_ml_X1_27 rfl (by decide) (Nat.le_of_ble_eq_true rfl) (by decide) (by decide) (by decide) (by decide) (by decide) dX1_copyFrom_12 ?_
  refine s_aload_n hX dX1_copyFrom_15 rfl ?_
  refine s_aload_n hX dX1_copyFrom_16 rfl ?_
  refine s_getiv (v := (M.1 c_mark0 Deeds_shot)) hX fi_X1_33 ly_c_mark0 rfl dX1_copyFrom_17 rfl ?_
  refine s_puti hX fi_X1_33 fp_X1 rfl (by decide +kernel) ly_c_deeds rfl dX1_copyFrom_20 ?_
  refine s_aload_n hX dX1_copyFrom_23 rfl ?_
  refine s_getr hX fi_X1_15 ly_c_mark0 rfl dX1_copyFrom_24 ?_
  refine s_iconst (v := 0) hX dX1_copyFrom_27 rfl ?_
  refine s_aload_n hX dX1_copyFrom_28 rfl ?_
  refine s_getr hX fi_X1_15 ly_c_deeds rfl dX1_copyFrom_29 ?_
  refine s_iconst (v := 0) hX dX1_copyFrom_32 rfl ?_
  refine s_bipush (v := 6) hX dX1_copyFrom_33 rfl ?_
  refine s_acopy hX ly_c_mark0_debt ly_c_deeds_debt wd_ml_X1_27 rfl (by decide) (Nat.le_of_ble_eq_true rfl) (by decide) (by decide) (by decide) (by decide) (by decide) dX1_copyFrom_35 ?_
  exact s_vret hX hq rfl dX1_copyFrom_38 h
theorem c_Deeds_copyFrom {M : Mem} {Q : Mem → Prop} (h : w_Deeds_copyFrom M Q) : CV yX1_copyFrom cX1_copyFrom 2 none 1 0 0 LY LY [vr c_deeds, vr c_mark0] M Q := mk_v rfl wd_co_X1_copyFrom rfl rfl (Nat.le_of_ble_eq_true rfl) (fun X hX hq => t_Deeds_copyFrom hX hq h)
theorem mv_Deeds_copyFrom : MV yX1_copyFrom cX1_copyFrom 2 none RX1 1 := ⟨wd_co_X1_copyFrom, wd_im_X1_copyFrom, wd_se_X1_copyFrom, wd_in_X1, by decide +kernel, by decide⟩
def w_Deeds_copyFrom_mark1 (M : Mem) (Q : Mem → Prop) : Prop :=
  Q (sa (si (sa M c_deeds_times (va_cpy (M.1 c_mark1_times) (M.1 c_deeds_times) (Int32.toNatClampNeg 0) (Int32.toNatClampNeg 0) (Int32.toNatClampNeg 120))) c_deeds Deeds_shot (M.1 c_mark1 Deeds_shot)) c_deeds_debt (va_cpy (M.1 c_mark1_debt) (M.1 c_deeds_debt) (Int32.toNatClampNeg 0) (Int32.toNatClampNeg 0) (Int32.toNatClampNeg 6)))
set_option maxHeartbeats 4000000 in
theorem t_Deeds_copyFrom_mark1 {X : Cx} (hX : Cok X cX1_copyFrom RX1 2 none 1 0 0) {Q : Mem → Prop} (hq : RV X 0 0 LY Q) {M : Mem} (h : w_Deeds_copyFrom_mark1 M Q) : Wat X 0 0 LY 0 [some (vr c_deeds), some (vr c_mark1)] [] M := by
  refine s_aload_n hX dX1_copyFrom_0 rfl ?_
  refine s_getr hX fi_X1_9 ly_c_mark1 rfl dX1_copyFrom_1 ?_
  refine s_iconst (v := 0) hX dX1_copyFrom_4 rfl ?_
  refine s_aload_n hX dX1_copyFrom_5 rfl ?_
  refine s_getr hX fi_X1_9 ly_c_deeds rfl dX1_copyFrom_6 ?_
  refine s_iconst (v := 0) hX dX1_copyFrom_9 rfl ?_
  refine s_bipush (v := 120) hX dX1_copyFrom_10 rfl ?_
  refine s_acopy hX ly_c_mark1_times ly_c_deeds_times wd_ml_X1_27 rfl (by decide) (Nat.le_of_ble_eq_true rfl) (by decide) (by decide) (by decide) (by decide) (by decide) dX1_copyFrom_12 ?_
  refine s_aload_n hX dX1_copyFrom_15 rfl ?_
  refine s_aload_n hX dX1_copyFrom_16 rfl ?_
  refine s_getiv (v := (M.1 c_mark1 Deeds_shot)) hX fi_X1_33 ly_c_mark1 rfl dX1_copyFrom_17 rfl ?_
  refine s_puti hX fi_X1_33 fp_X1 rfl (by decide +kernel) ly_c_deeds rfl dX1_copyFrom_20 ?_
  refine s_aload_n hX dX1_copyFrom_23 rfl ?_
  refine s_getr hX fi_X1_15 ly_c_mark1 rfl dX1_copyFrom_24 ?_
  refine s_iconst (v := 0) hX dX1_copyFrom_27 rfl ?_
  refine s_aload_n hX dX1_copyFrom_28 rfl ?_
  refine s_getr hX fi_X1_15 ly_c_deeds rfl dX1_copyFrom_29 ?_
  refine s_iconst (v := 0) hX dX1_copyFrom_32 rfl ?_
  refine s_bipush (v := 6) hX dX1_copyFrom_33 rfl ?_
  refine s_acopy hX ly_c_mark1_debt ly_c_deeds_debt wd_ml_X1_27 rfl (by decide) (Nat.le_of_ble_eq_true rfl) (by decide) (by decide) (by decide) (by decide) (by decide) dX1_copyFrom_35 ?_
  exact s_vret hX hq rfl dX1_copyFrom_38 h
theorem c_Deeds_copyFrom_mark1 {M : Mem} {Q : Mem → Prop} (h : w_Deeds_copyFrom_mark1 M Q) : CV yX1_copyFrom cX1_copyFrom 2 none 1 0 0 LY LY [vr c_deeds, vr c_mark1] M Q := mk_v rfl wd_co_X1_copyFrom rfl rfl (Nat.le_of_ble_eq_true rfl) (fun X hX hq => t_Deeds_copyFrom_mark1 hX hq h)
theorem mv_Deeds_copyFrom_mark1 : MV yX1_copyFrom cX1_copyFrom 2 none RX1 1 := ⟨wd_co_X1_copyFrom, wd_im_X1_copyFrom, wd_se_X1_copyFrom, wd_in_X1, by decide +kernel, by decide⟩
def w_Deeds_copyFrom_mark2 (M : Mem) (Q : Mem → Prop) : Prop :=
  Q (sa (si (sa M c_deeds_times (va_cpy (M.1 c_mark2_times) (M.1 c_deeds_times) (Int32.toNatClampNeg 0) (Int32.toNatClampNeg 0) (Int32.toNatClampNeg 120))) c_deeds Deeds_shot (M.1 c_mark2 Deeds_shot)) c_deeds_debt (va_cpy (M.1 c_mark2_debt) (M.1 c_deeds_debt) (Int32.toNatClampNeg 0) (Int32.toNatClampNeg 0) (Int32.toNatClampNeg 6)))
set_option maxHeartbeats 4000000 in
theorem t_Deeds_copyFrom_mark2 {X : Cx} (hX : Cok X cX1_copyFrom RX1 2 none 1 0 0) {Q : Mem → Prop} (hq : RV X 0 0 LY Q) {M : Mem} (h : w_Deeds_copyFrom_mark2 M Q) : Wat X 0 0 LY 0 [some (vr c_deeds), some (vr c_mark2)] [] M := by
  refine s_aload_n hX dX1_copyFrom_0 rfl ?_
  refine s_getr hX fi_X1_9 ly_c_mark2 rfl dX1_copyFrom_1 ?_
  refine s_iconst (v := 0) hX dX1_copyFrom_4 rfl ?_
  refine s_aload_n hX dX1_copyFrom_5 rfl ?_
  refine s_getr hX fi_X1_9 ly_c_deeds rfl dX1_copyFrom_6 ?_
  refine s_iconst (v := 0) hX dX1_copyFrom_9 rfl ?_
  refine s_bipush (v := 120) hX dX1_copyFrom_10 rfl ?_
  refine s_acopy hX ly_c_mark2_times ly_c_deeds_times wd_ml_X1_27 rfl (by decide) (Nat.le_of_ble_eq_true rfl) (by decide) (by decide) (by decide) (by decide) (by decide) dX1_copyFrom_12 ?_
  refine s_aload_n hX dX1_copyFrom_15 rfl ?_
  refine s_aload_n hX dX1_copyFrom_16 rfl ?_
  refine s_getiv (v := (M.1 c_mark2 Deeds_shot)) hX fi_X1_33 ly_c_mark2 rfl dX1_copyFrom_17 rfl ?_
  refine s_puti hX fi_X1_33 fp_X1 rfl (by decide +kernel) ly_c_deeds rfl dX1_copyFrom_20 ?_
  refine s_aload_n hX dX1_copyFrom_23 rfl ?_
  refine s_getr hX fi_X1_15 ly_c_mark2 rfl dX1_copyFrom_24 ?_
  refine s_iconst (v := 0) hX dX1_copyFrom_27 rfl ?_
  refine s_aload_n hX dX1_copyFrom_28 rfl ?_
  refine s_getr hX fi_X1_15 ly_c_deeds rfl dX1_copyFrom_29 ?_
  refine s_iconst (v := 0) hX dX1_copyFrom_32 rfl ?_
  refine s_bipush (v := 6) hX dX1_copyFrom_33 rfl ?_
  refine s_acopy hX ly_c_mark2_debt ly_c_deeds_debt wd_ml_X1_27 rfl (by decide) (Nat.le_of_ble_eq_true rfl) (by decide) (by decide) (by decide) (by decide) (by decide) dX1_copyFrom_35 ?_
  exact s_vret hX hq rfl dX1_copyFrom_38 h
theorem c_Deeds_copyFrom_mark2 {M : Mem} {Q : Mem → Prop} (h : w_Deeds_copyFrom_mark2 M Q) : CV yX1_copyFrom cX1_copyFrom 2 none 1 0 0 LY LY [vr c_deeds, vr c_mark2] M Q := mk_v rfl wd_co_X1_copyFrom rfl rfl (Nat.le_of_ble_eq_true rfl) (fun X hX hq => t_Deeds_copyFrom_mark2 hX hq h)
theorem mv_Deeds_copyFrom_mark2 : MV yX1_copyFrom cX1_copyFrom 2 none RX1 1 := ⟨wd_co_X1_copyFrom, wd_im_X1_copyFrom, wd_se_X1_copyFrom, wd_in_X1, by decide +kernel, by decide⟩
def w_Deeds_copyFrom_mark3 (M : Mem) (Q : Mem → Prop) : Prop :=
  Q (sa (si (sa M c_deeds_times (va_cpy (M.1 c_mark3_times) (M.1 c_deeds_times) (Int32.toNatClampNeg 0) (Int32.toNatClampNeg 0) (Int32.toNatClampNeg 120))) c_deeds Deeds_shot (M.1 c_mark3 Deeds_shot)) c_deeds_debt (va_cpy (M.1 c_mark3_debt) (M.1 c_deeds_debt) (Int32.toNatClampNeg 0) (Int32.toNatClampNeg 0) (Int32.toNatClampNeg 6)))
set_option maxHeartbeats 4000000 in
theorem t_Deeds_copyFrom_mark3 {X : Cx} (hX : Cok X cX1_copyFrom RX1 2 none 1 0 0) {Q : Mem → Prop} (hq : RV X 0 0 LY Q) {M : Mem} (h : w_Deeds_copyFrom_mark3 M Q) : Wat X 0 0 LY 0 [some (vr c_deeds), some (vr c_mark3)] [] M := by
  refine s_aload_n hX dX1_copyFrom_0 rfl ?_
  refine s_getr hX fi_X1_9 ly_c_mark3 rfl dX1_copyFrom_1 ?_
  refine s_iconst (v := 0) hX dX1_copyFrom_4 rfl ?_
  refine s_aload_n hX dX1_copyFrom_5 rfl ?_
  refine s_getr hX fi_X1_9 ly_c_deeds rfl dX1_copyFrom_6 ?_
  refine s_iconst (v := 0) hX dX1_copyFrom_9 rfl ?_
  refine s_bipush (v := 120) hX dX1_copyFrom_10 rfl ?_
  refine s_acopy hX ly_c_mark3_times ly_c_deeds_times wd_ml_X1_27 rfl (by decide) (Nat.le_of_ble_eq_true rfl) (by decide) (by decide) (by decide) (by decide) (by decide) dX1_copyFrom_12 ?_
  refine s_aload_n hX dX1_copyFrom_15 rfl ?_
  refine s_aload_n hX dX1_copyFrom_16 rfl ?_
  refine s_getiv (v := (M.1 c_mark3 Deeds_shot)) hX fi_X1_33 ly_c_mark3 rfl dX1_copyFrom_17 rfl ?_
  refine s_puti hX fi_X1_33 fp_X1 rfl (by decide +kernel) ly_c_deeds rfl dX1_copyFrom_20 ?_
  refine s_aload_n hX dX1_copyFrom_23 rfl ?_
  refine s_getr hX fi_X1_15 ly_c_mark3 rfl dX1_copyFrom_24 ?_
  refine s_iconst (v := 0) hX dX1_copyFrom_27 rfl ?_
  refine s_aload_n hX dX1_copyFrom_28 rfl ?_
  refine s_getr hX fi_X1_15 ly_c_deeds rfl dX1_copyFrom_29 ?_
  refine s_iconst (v := 0) hX dX1_copyFrom_32 rfl ?_
  refine s_bipush (v := 6) hX dX1_copyFrom_33 rfl ?_
  refine s_acopy hX ly_c_mark3_debt ly_c_deeds_debt wd_ml_X1_27 rfl (by decide) (Nat.le_of_ble_eq_true rfl) (by decide) (by decide) (by decide) (by decide) (by decide) dX1_copyFrom_35 ?_
  exact s_vret hX hq rfl dX1_copyFrom_38 h
theorem c_Deeds_copyFrom_mark3 {M : Mem} {Q : Mem → Prop} (h : w_Deeds_copyFrom_mark3 M Q) : CV yX1_copyFrom cX1_copyFrom 2 none 1 0 0 LY LY [vr c_deeds, vr c_mark3] M Q := mk_v rfl wd_co_X1_copyFrom rfl rfl (Nat.le_of_ble_eq_true rfl) (fun X hX hq => t_Deeds_copyFrom_mark3 hX hq h)
theorem mv_Deeds_copyFrom_mark3 : MV yX1_copyFrom cX1_copyFrom 2 none RX1 1 := ⟨wd_co_X1_copyFrom, wd_im_X1_copyFrom, wd_se_X1_copyFrom, wd_in_X1, by decide +kernel, by decide⟩
def w_Deeds_copyFrom_deeds (M : Mem) (Q : Mem → Prop) : Prop :=
  Q (sa (si (sa M c_mark0_times (va_cpy (M.1 c_deeds_times) (M.1 c_mark0_times) (Int32.toNatClampNeg 0) (Int32.toNatClampNeg 0) (Int32.toNatClampNeg 120))) c_mark0 Deeds_shot (M.1 c_deeds Deeds_shot)) c_mark0_debt (va_cpy (M.1 c_deeds_debt) (M.1 c_mark0_debt) (Int32.toNatClampNeg 0) (Int32.toNatClampNeg 0) (Int32.toNatClampNeg 6)))
set_option maxHeartbeats 4000000 in
theorem t_Deeds_copyFrom_deeds {X : Cx} (hX : Cok X cX1_copyFrom RX1 2 none 1 0 0) {Q : Mem → Prop} (hq : RV X 0 0 LY Q) {M : Mem} (h : w_Deeds_copyFrom_deeds M Q) : Wat X 0 0 LY 0 [some (vr c_mark0), some (vr c_deeds)] [] M := by
  refine s_aload_n hX dX1_copyFrom_0 rfl ?_
  refine s_getr hX fi_X1_9 ly_c_deeds rfl dX1_copyFrom_1 ?_
  refine s_iconst (v := 0) hX dX1_copyFrom_4 rfl ?_
  refine s_aload_n hX dX1_copyFrom_5 rfl ?_
  refine s_getr hX fi_X1_9 ly_c_mark0 rfl dX1_copyFrom_6 ?_
  refine s_iconst (v := 0) hX dX1_copyFrom_9 rfl ?_
  refine s_bipush (v := 120) hX dX1_copyFrom_10 rfl ?_
  refine s_acopy hX ly_c_deeds_times ly_c_mark0_times wd_ml_X1_27 rfl (by decide) (Nat.le_of_ble_eq_true rfl) (by decide) (by decide) (by decide) (by decide) (by decide) dX1_copyFrom_12 ?_
  refine s_aload_n hX dX1_copyFrom_15 rfl ?_
  refine s_aload_n hX dX1_copyFrom_16 rfl ?_
  refine s_getiv (v := (M.1 c_deeds Deeds_shot)) hX fi_X1_33 ly_c_deeds rfl dX1_copyFrom_17 rfl ?_
  refine s_puti hX fi_X1_33 fp_X1 rfl (by decide +kernel) ly_c_mark0 rfl dX1_copyFrom_20 ?_
  refine s_aload_n hX dX1_copyFrom_23 rfl ?_
  refine s_getr hX fi_X1_15 ly_c_deeds rfl dX1_copyFrom_24 ?_
  refine s_iconst (v := 0) hX dX1_copyFrom_27 rfl ?_
  refine s_aload_n hX dX1_copyFrom_28 rfl ?_
  refine s_getr hX fi_X1_15 ly_c_mark0 rfl dX1_copyFrom_29 ?_
  refine s_iconst (v := 0) hX dX1_copyFrom_32 rfl ?_
  refine s_bipush (v := 6) hX dX1_copyFrom_33 rfl ?_
  refine s_acopy hX ly_c_deeds_debt ly_c_mark0_debt wd_ml_X1_27 rfl (by decide) (Nat.le_of_ble_eq_true rfl) (by decide) (by decide) (by decide) (by decide) (by decide) dX1_copyFrom_35 ?_
  exact s_vret hX hq rfl dX1_copyFrom_38 h
theorem c_Deeds_copyFrom_deeds {M : Mem} {Q : Mem → Prop} (h : w_Deeds_copyFrom_deeds M Q) : CV yX1_copyFrom cX1_copyFrom 2 none 1 0 0 LY LY [vr c_mark0, vr c_deeds] M Q := mk_v rfl wd_co_X1_copyFrom rfl rfl (Nat.le_of_ble_eq_true rfl) (fun X hX hq => t_Deeds_copyFrom_deeds hX hq h)
theorem mv_Deeds_copyFrom_deeds : MV yX1_copyFrom cX1_copyFrom 2 none RX1 1 := ⟨wd_co_X1_copyFrom, wd_im_X1_copyFrom, wd_se_X1_copyFrom, wd_in_X1, by decide +kernel, by decide⟩
def w_Deeds_copyFrom_deeds_ (M : Mem) (Q : Mem → Prop) : Prop :=
  Q (sa (si (sa M c_mark1_times (va_cpy (M.1 c_deeds_times) (M.1 c_mark1_times) (Int32.toNatClampNeg 0) (Int32.toNatClampNeg 0) (Int32.toNatClampNeg 120))) c_mark1 Deeds_shot (M.1 c_deeds Deeds_shot)) c_mark1_debt (va_cpy (M.1 c_deeds_debt) (M.1 c_mark1_debt) (Int32.toNatClampNeg 0) (Int32.toNatClampNeg 0) (Int32.toNatClampNeg 6)))
set_option maxHeartbeats 4000000 in
theorem t_Deeds_copyFrom_deeds_ {X : Cx} (hX : Cok X cX1_copyFrom RX1 2 none 1 0 0) {Q : Mem → Prop} (hq : RV X 0 0 LY Q) {M : Mem} (h : w_Deeds_copyFrom_deeds_ M Q) : Wat X 0 0 LY 0 [some (vr c_mark1), some (vr c_deeds)] [] M := by
  refine s_aload_n hX dX1_copyFrom_0 rfl ?_
  refine s_getr hX fi_X1_9 ly_c_deeds rfl dX1_copyFrom_1 ?_
  refine s_iconst (v := 0) hX dX1_copyFrom_4 rfl ?_
  refine s_aload_n hX dX1_copyFrom_5 rfl ?_
  refine s_getr hX fi_X1_9 ly_c_mark1 rfl dX1_copyFrom_6 ?_
  refine s_iconst (v := 0) hX dX1_copyFrom_9 rfl ?_
  refine s_bipush (v := 120) hX dX1_copyFrom_10 rfl ?_
  refine s_acopy hX ly_c_deeds_times ly_c_mark1_times wd_ml_X1_27 rfl (by decide) (Nat.le_of_ble_eq_true rfl) (by decide) (by decide) (by decide) (by decide) (by decide) dX1_copyFrom_12 ?_
  refine s_aload_n hX dX1_copyFrom_15 rfl ?_
  refine s_aload_n hX dX1_copyFrom_16 rfl ?_
  refine s_getiv (v := (M.1 c_deeds Deeds_shot)) hX fi_X1_33 ly_c_deeds rfl dX1_copyFrom_17 rfl ?_
  refine s_puti hX fi_X1_33 fp_X1 rfl (by decide +kernel) ly_c_mark1 rfl dX1_copyFrom_20 ?_
  refine s_aload_n hX dX1_copyFrom_23 rfl ?_
  refine s_getr hX fi_X1_15 ly_c_deeds rfl dX1_copyFrom_24 ?_
  refine s_iconst (v := 0) hX dX1_copyFrom_27 rfl ?_
  refine s_aload_n hX dX1_copyFrom_28 rfl ?_
  refine s_getr hX fi_X1_15 ly_c_mark1 rfl dX1_copyFrom_29 ?_
  refine s_iconst (v := 0) hX dX1_copyFrom_32 rfl ?_
  refine s_bipush (v := 6) hX dX1_copyFrom_33 rfl ?_
  refine s_acopy hX ly_c_deeds_debt ly_c_mark1_debt wd_ml_X1_27 rfl (by decide) (Nat.le_of_ble_eq_true rfl) (by decide) (by decide) (by decide) (by decide) (by decide) dX1_copyFrom_35 ?_
  exact s_vret hX hq rfl dX1_copyFrom_38 h
theorem c_Deeds_copyFrom_deeds_ {M : Mem} {Q : Mem → Prop} (h : w_Deeds_copyFrom_deeds_ M Q) : CV yX1_copyFrom cX1_copyFrom 2 none 1 0 0 LY LY [vr c_mark1, vr c_deeds] M Q := mk_v rfl wd_co_X1_copyFrom rfl rfl (Nat.le_of_ble_eq_true rfl) (fun X hX hq => t_Deeds_copyFrom_deeds_ hX hq h)
theorem mv_Deeds_copyFrom_deeds_ : MV yX1_copyFrom cX1_copyFrom 2 none RX1 1 := ⟨wd_co_X1_copyFrom, wd_im_X1_copyFrom, wd_se_X1_copyFrom, wd_in_X1, by decide +kernel, by decide⟩
def w_Deeds_copyFrom_deeds__ (M : Mem) (Q : Mem → Prop) : Prop :=
  Q (sa (si (sa M c_mark2_times (va_cpy (M.1 c_deeds_times) (M.1 c_mark2_times) (Int32.toNatClampNeg 0) (Int32.toNatClampNeg 0) (Int32.toNatClampNeg 120))) c_mark2 Deeds_shot (M.1 c_deeds Deeds_shot)) c_mark2_debt (va_cpy (M.1 c_deeds_debt) (M.1 c_mark2_debt) (Int32.toNatClampNeg 0) (Int32.toNatClampNeg 0) (Int32.toNatClampNeg 6)))
set_option maxHeartbeats 4000000 in
theorem t_Deeds_copyFrom_deeds__ {X : Cx} (hX : Cok X cX1_copyFrom RX1 2 none 1 0 0) {Q : Mem → Prop} (hq : RV X 0 0 LY Q) {M : Mem} (h : w_Deeds_copyFrom_deeds__ M Q) : Wat X 0 0 LY 0 [some (vr c_mark2), some (vr c_deeds)] [] M := by
  refine s_aload_n hX dX1_copyFrom_0 rfl ?_
  refine s_getr hX fi_X1_9 ly_c_deeds rfl dX1_copyFrom_1 ?_
  refine s_iconst (v := 0) hX dX1_copyFrom_4 rfl ?_
  refine s_aload_n hX dX1_copyFrom_5 rfl ?_
  refine s_getr hX fi_X1_9 ly_c_mark2 rfl dX1_copyFrom_6 ?_
  refine s_iconst (v := 0) hX dX1_copyFrom_9 rfl ?_
  refine s_bipush (v := 120) hX dX1_copyFrom_10 rfl ?_
  refine s_acopy hX ly_c_deeds_times ly_c_mark2_times wd_ml_X1_27 rfl (by decide) (Nat.le_of_ble_eq_true rfl) (by decide) (by decide) (by decide) (by decide) (by decide) dX1_copyFrom_12 ?_
  refine s_aload_n hX dX1_copyFrom_15 rfl ?_
  refine s_aload_n hX dX1_copyFrom_16 rfl ?_
  refine s_getiv (v := (M.1 c_deeds Deeds_shot)) hX fi_X1_33 ly_c_deeds rfl dX1_copyFrom_17 rfl ?_
  refine s_puti hX fi_X1_33 fp_X1 rfl (by decide +kernel) ly_c_mark2 rfl dX1_copyFrom_20 ?_
  refine s_aload_n hX dX1_copyFrom_23 rfl ?_
  refine s_getr hX fi_X1_15 ly_c_deeds rfl dX1_copyFrom_24 ?_
  refine s_iconst (v := 0) hX dX1_copyFrom_27 rfl ?_
  refine s_aload_n hX dX1_copyFrom_28 rfl ?_
  refine s_getr hX fi_X1_15 ly_c_mark2 rfl dX1_copyFrom_29 ?_
  refine s_iconst (v := 0) hX dX1_copyFrom_32 rfl ?_
  refine s_bipush (v := 6) hX dX1_copyFrom_33 rfl ?_
  refine s_acopy hX ly_c_deeds_debt ly_c_mark2_debt wd_ml_X1_27 rfl (by decide) (Nat.le_of_ble_eq_true rfl) (by decide) (by decide) (by decide) (by decide) (by decide) dX1_copyFrom_35 ?_
  exact s_vret hX hq rfl dX1_copyFrom_38 h
theorem c_Deeds_copyFrom_deeds__ {M : Mem} {Q : Mem → Prop} (h : w_Deeds_copyFrom_deeds__ M Q) : CV yX1_copyFrom cX1_copyFrom 2 none 1 0 0 LY LY [vr c_mark2, vr c_deeds] M Q := mk_v rfl wd_co_X1_copyFrom rfl rfl (Nat.le_of_ble_eq_true rfl) (fun X hX hq => t_Deeds_copyFrom_deeds__ hX hq h)
theorem mv_Deeds_copyFrom_deeds__ : MV yX1_copyFrom cX1_copyFrom 2 none RX1 1 := ⟨wd_co_X1_copyFrom, wd_im_X1_copyFrom, wd_se_X1_copyFrom, wd_in_X1, by decide +kernel, by decide⟩
def w_Deeds_copyFrom_deeds___ (M : Mem) (Q : Mem → Prop) : Prop :=
  Q (sa (si (sa M c_mark3_times (va_cpy (M.1 c_deeds_times) (M.1 c_mark3_times) (Int32.toNatClampNeg 0) (Int32.toNatClampNeg 0) (Int32.toNatClampNeg 120))) c_mark3 Deeds_shot (M.1 c_deeds Deeds_shot)) c_mark3_debt (va_cpy (M.1 c_deeds_debt) (M.1 c_mark3_debt) (Int32.toNatClampNeg 0) (Int32.toNatClampNeg 0) (Int32.toNatClampNeg 6)))
set_option maxHeartbeats 4000000 in
theorem t_Deeds_copyFrom_deeds___ {X : Cx} (hX : Cok X cX1_copyFrom RX1 2 none 1 0 0) {Q : Mem → Prop} (hq : RV X 0 0 LY Q) {M : Mem} (h : w_Deeds_copyFrom_deeds___ M Q) : Wat X 0 0 LY 0 [some (vr c_mark3), some (vr c_deeds)] [] M := by
  refine s_aload_n hX dX1_copyFrom_0 rfl ?_
  refine s_getr hX fi_X1_9 ly_c_deeds rfl dX1_copyFrom_1 ?_
  refine s_iconst (v := 0) hX dX1_copyFrom_4 rfl ?_
  refine s_aload_n hX dX1_copyFrom_5 rfl ?_
  refine s_getr hX fi_X1_9 ly_c_mark3 rfl dX1_copyFrom_6 ?_
  refine s_iconst (v := 0) hX dX1_copyFrom_9 rfl ?_
  refine s_bipush (v := 120) hX dX1_copyFrom_10 rfl ?_
  refine s_acopy hX ly_c_deeds_times ly_c_mark3_times wd_ml_X1_27 rfl (by decide) (Nat.le_of_ble_eq_true rfl) (by decide) (by decide) (by decide) (by decide) (by decide) dX1_copyFrom_12 ?_
  refine s_aload_n hX dX1_copyFrom_15 rfl ?_
  refine s_aload_n hX dX1_copyFrom_16 rfl ?_
  refine s_getiv (v := (M.1 c_deeds Deeds_shot)) hX fi_X1_33 ly_c_deeds rfl dX1_copyFrom_17 rfl ?_
  refine s_puti hX fi_X1_33 fp_X1 rfl (by decide +kernel) ly_c_mark3 rfl dX1_copyFrom_20 ?_
  refine s_aload_n hX dX1_copyFrom_23 rfl ?_
  refine s_getr hX fi_X1_15 ly_c_deeds rfl dX1_copyFrom_24 ?_
  refine s_iconst (v := 0) hX dX1_copyFrom_27 rfl ?_
  refine s_aload_n hX dX1_copyFrom_28 rfl ?_
  refine s_getr hX fi_X1_15 ly_c_mark3 rfl dX1_copyFrom_29 ?_
  refine s_iconst (v := 0) hX dX1_copyFrom_32 rfl ?_
  refine s_bipush (v := 6) hX dX1_copyFrom_33 rfl ?_
  refine s_acopy hX ly_c_deeds_debt ly_c_mark3_debt wd_ml_X1_27 rfl (by decide) (Nat.le_of_ble_eq_true rfl) (by decide) (by decide) (by decide) (by decide) (by decide) dX1_copyFrom_35 ?_
  exact s_vret hX hq rfl dX1_copyFrom_38 h
theorem c_Deeds_copyFrom_deeds___ {M : Mem} {Q : Mem → Prop} (h : w_Deeds_copyFrom_deeds___ M Q) : CV yX1_copyFrom cX1_copyFrom 2 none 1 0 0 LY LY [vr c_mark3, vr c_deeds] M Q := mk_v rfl wd_co_X1_copyFrom rfl rfl (Nat.le_of_ble_eq_true rfl) (fun X hX hq => t_Deeds_copyFrom_deeds___ hX hq h)
theorem mv_Deeds_copyFrom_deeds___ : MV yX1_copyFrom cX1_copyFrom 2 none RX1 1 := ⟨wd_co_X1_copyFrom, wd_im_X1_copyFrom, wd_se_X1_copyFrom, wd_in_X1, by decide +kernel, by decide⟩
def w_Top_mark (a0 : Int32) (a1 : Int32) (M : Mem) (Q : Bool → Mem → Prop) : Prop :=
  ((a0 < 0 → Q false M) ∧ (¬ a0 < 0 → ((a0 < 4 → ((¬ a1 = 0 → ((¬ (((M.1 c_xx Top_laid) >>> (a0 &&& 31)) &&& 1) = 0 → (vp_in a0 4 ∧ (a0 = nI 0 → w_Deeds_copyFrom M (fun M615 => Q true (si M615 c_history Hist_size 0))) ∧ (a0 = nI 1 → w_Deeds_copyFrom_mark1 M (fun M616 => Q true (si M616 c_history Hist_size 0))) ∧ (a0 = nI 2 → w_Deeds_copyFrom_mark2 M (fun M617 => Q true (si M617 c_history Hist_size 0))) ∧ (a0 = nI 3 → w_Deeds_copyFrom_mark3 M (fun M618 => Q true (si M618 c_history Hist_size 0))))) ∧ ((((M.1 c_xx Top_laid) >>> (a0 &&& 31)) &&& 1) = 0 → Q false M))) ∧ (a1 = 0 → (vp_in a0 4 ∧ (a0 = nI 0 → w_Deeds_copyFrom_deeds M (fun M619 => Q true (si M619 c_xx Top_laid ((M619.1 c_xx Top_laid) ||| (1 <<< (a0 &&& 31)))))) ∧ (a0 = nI 1 → w_Deeds_copyFrom_deeds_ M (fun M620 => Q true (si M620 c_xx Top_laid ((M620.1 c_xx Top_laid) ||| (1 <<< (a0 &&& 31)))))) ∧ (a0 = nI 2 → w_Deeds_copyFrom_deeds__ M (fun M621 => Q true (si M621 c_xx Top_laid ((M621.1 c_xx Top_laid) ||| (1 <<< (a0 &&& 31)))))) ∧ (a0 = nI 3 → w_Deeds_copyFrom_deeds___ M (fun M622 => Q true (si M622 c_xx Top_laid ((M622.1 c_xx Top_laid) ||| (1 <<< (a0 &&& 31)))))))))) ∧ (¬ a0 < 4 → Q false M))))
set_option maxHeartbeats 4000000 in
theorem t_Top_mark {X : Cx} (hX : Cok X cX11_mark RX11 3 ((some .boolean)) 2 0 0) {Q : Bool → Mem → Prop} (hq : RI X 0 0 LY (bQ Q)) {M : Mem} {a0 : Int32} {a1 : Int32} (h : w_Top_mark a0 a1 M Q) : Wat X 0 0 LY 0 [some (vr c_xx), some (vi a0), some (vi a1)] [] M := by
  refine s_iload_n hX dX11_mark_0 rfl ?_
  refine s_if_lt (tgt := 9) hX dX11_mark_1 (by decide) (fun c => ?_) (fun c => ?_)
  · replace h := h.1 c
    refine s_iconst (v := 0) hX dX11_mark_9 rfl ?_
    exact s_zret hX false hq rfl dX11_mark_10 rfl h
  · replace h := h.2 c
    refine s_iload_n hX dX11_mark_4 rfl ?_
    refine s_iconst (v := 4) hX dX11_mark_5 rfl ?_
    refine s_icmp_lt (tgt := 11) hX dX11_mark_6 (by decide) (fun c => ?_) (fun c => ?_)
    · replace h := h.1 c
      refine s_iload_n hX dX11_mark_11 rfl ?_
      refine s_if_ne (tgt := 42) hX dX11_mark_12 (by decide) (fun c => ?_) (fun c => ?_)
      · replace h := h.1 c
        refine s_aload_n hX dX11_mark_42 rfl ?_
        refine s_getiv (v := (M.1 c_xx Top_laid)) hX fi_X11_107 ly_c_xx rfl dX11_mark_43 rfl ?_
        refine s_iload_n hX dX11_mark_46 rfl ?_
        refine s_ishr hX dX11_mark_47 ?_
        refine s_iconst (v := 1) hX dX11_mark_48 rfl ?_
        refine s_iand hX dX11_mark_49 ?_
        refine s_if_ne (tgt := 55) hX dX11_mark_50 (by decide) (fun c => ?_) (fun c => ?_)
        · replace h := h.1 c
          refine s_aload_n hX dX11_mark_55 rfl ?_
          refine s_getr hX fi_X11_38 ly_c_xx rfl dX11_mark_56 ?_
          refine s_aload_n hX dX11_mark_59 rfl ?_
          refine s_getr hX fi_X11_42 ly_c_xx rfl dX11_mark_60 ?_
          refine s_iload_n hX dX11_mark_63 rfl ?_
          have hi := h.1
          replace h := h.2
          refine s_aald hX ly_c_marks hi dX11_mark_64 ?_
          obtain ⟨jj, hj, ej⟩ := vp_in_of hi (by decide)
          rw [show Int32.toNatClampNeg a0 = jj by rw [ej]; exact nI_clamp (by omega)]
          match jj, hj with
          | 0, _ =>
            replace h := h.1 ej
            show Wat X 0 0 LY 65 [some (vr c_xx), some (vi a0), some (vi a1)] [vr c_mark0, vr c_deeds] M
            refine s_cvv (as := [vr c_mark0]) (rest := []) hX (c_Deeds_copyFrom h) mv_Deeds_copyFrom wd_ml_X11_270 dX11_mark_65 ly_c_deeds rfl rfl (Nat.le_of_ble_eq_true rfl) rfl (by decide) ⟨Nat.zero_le _, Nat.zero_le _⟩ (fun M615 h => ?_)
            refine s_aload_n hX dX11_mark_68 rfl ?_
            refine s_getr hX fi_X11_49 ly_c_xx rfl dX11_mark_69 ?_
            refine s_iconst (v := 0) hX dX11_mark_72 rfl ?_
            refine s_puti hX fi_X11_104 fp_X3 rfl (by decide +kernel) ly_c_history rfl dX11_mark_73 ?_
            refine s_iconst (v := 1) hX dX11_mark_76 rfl ?_
            exact s_zret hX true hq rfl dX11_mark_77 rfl h
          | 1, _ =>
            replace h := h.2.1 ej
            show Wat X 0 0 LY 65 [some (vr c_xx), some (vi a0), some (vi a1)] [vr c_mark1, vr c_deeds] M
            refine s_cvv (as := [vr c_mark1]) (rest := []) hX (c_Deeds_copyFrom_mark1 h) mv_Deeds_copyFrom_mark1 wd_ml_X11_270 dX11_mark_65 ly_c_deeds rfl rfl (Nat.le_of_ble_eq_true rfl) rfl (by decide) ⟨Nat.zero_le _, Nat.zero_le _⟩ (fun M616 h => ?_)
            refine s_aload_n hX dX11_mark_68 rfl ?_
            refine s_getr hX fi_X11_49 ly_c_xx rfl dX11_mark_69 ?_
            refine s_iconst (v := 0) hX dX11_mark_72 rfl ?_
            refine s_puti hX fi_X11_104 fp_X3 rfl (by decide +kernel) ly_c_history rfl dX11_mark_73 ?_
            refine s_iconst (v := 1) hX dX11_mark_76 rfl ?_
            exact s_zret hX true hq rfl dX11_mark_77 rfl h
          | 2, _ =>
            replace h := h.2.2.1 ej
            show Wat X 0 0 LY 65 [some (vr c_xx), some (vi a0), some (vi a1)] [vr c_mark2, vr c_deeds] M
            refine s_cvv (as := [vr c_mark2]) (rest := []) hX (c_Deeds_copyFrom_mark2 h) mv_Deeds_copyFrom_mark2 wd_ml_X11_270 dX11_mark_65 ly_c_deeds rfl rfl (Nat.le_of_ble_eq_true rfl) rfl (by decide) ⟨Nat.zero_le _, Nat.zero_le _⟩ (fun M617 h => ?_)
            refine s_aload_n hX dX11_mark_68 rfl ?_
            refine s_getr hX fi_X11_49 ly_c_xx rfl dX11_mark_69 ?_
            refine s_iconst (v := 0) hX dX11_mark_72 rfl ?_
            refine s_puti hX fi_X11_104 fp_X3 rfl (by decide +kernel) ly_c_history rfl dX11_mark_73 ?_
            refine s_iconst (v := 1) hX dX11_mark_76 rfl ?_
            exact s_zret hX true hq rfl dX11_mark_77 rfl h
          | 3, _ =>
            replace h := h.2.2.2 ej
            show Wat X 0 0 LY 65 [some (vr c_xx), some (vi a0), some (vi a1)] [vr c_mark3, vr c_deeds] M
            refine s_cvv (as := [vr c_mark3]) (rest := []) hX (c_Deeds_copyFrom_mark3 h) mv_Deeds_copyFrom_mark3 wd_ml_X11_270 dX11_mark_65 ly_c_deeds rfl rfl (Nat.le_of_ble_eq_true rfl) rfl (by decide) ⟨Nat.zero_le _, Nat.zero_le _⟩ (fun M618 h => ?_)
            refine s_aload_n hX dX11_mark_68 rfl ?_
            refine s_getr hX fi_X11_49 ly_c_xx rfl dX11_mark_69 ?_
            refine s_iconst (v := 0) hX dX11_mark_72 rfl ?_
            refine s_puti hX fi_X11_104 fp_X3 rfl (by decide +kernel) ly_c_history rfl dX11_mark_73 ?_
            refine s_iconst (v := 1) hX dX11_mark_76 rfl ?_
            exact s_zret hX true hq rfl dX11_mark_77 rfl h
          | (jj + 4), hj => exact absurd hj (by omega)
        · replace h := h.2 c
          refine s_iconst (v := 0) hX dX11_mark_53 rfl ?_
          exact s_zret hX false hq rfl dX11_mark_54 rfl h
      · replace h := h.2 c
        refine s_aload_n hX dX11_mark_15 rfl ?_
        refine s_getr hX fi_X11_42 ly_c_xx rfl dX11_mark_16 ?_
        refine s_iload_n hX dX11_mark_19 rfl ?_
        have hi := h.1
        replace h := h.2
        refine s_aald hX ly_c_marks hi dX11_mark_20 ?_
        obtain ⟨jj, hj, ej⟩ := vp_in_of hi (by decide)
        rw [show Int32.toNatClampNeg a0 = jj by rw [ej]; exact nI_clamp (by omega)]
        match jj, hj with
        | 0, _ =>
          replace h := h.1 ej
          show Wat X 0 0 LY 21 [some (vr c_xx), some (vi a0), some (vi a1)] [vr c_mark0] M
          refine s_aload_n hX dX11_mark_21 rfl ?_
          refine s_getr hX fi_X11_38 ly_c_xx rfl dX11_mark_22 ?_
          refine s_cvv (as := [vr c_deeds]) (rest := []) hX (c_Deeds_copyFrom_deeds h) mv_Deeds_copyFrom_deeds wd_ml_X11_270 dX11_mark_25 ly_c_mark0 rfl rfl (Nat.le_of_ble_eq_true rfl) rfl (by decide) ⟨Nat.zero_le _, Nat.zero_le _⟩ (fun M619 h => ?_)
          refine s_aload_n hX dX11_mark_28 rfl ?_
          refine s_dup hX dX11_mark_29 rfl ?_
          refine s_getiv (v := (M619.1 c_xx Top_laid)) hX fi_X11_107 ly_c_xx rfl dX11_mark_30 rfl ?_
          refine s_iconst (v := 1) hX dX11_mark_33 rfl ?_
          refine s_iload_n hX dX11_mark_34 rfl ?_
          refine s_ishl hX dX11_mark_35 ?_
          refine s_ior hX dX11_mark_36 ?_
          refine s_puti hX fi_X11_107 fp_X11 rfl (by decide +kernel) ly_c_xx rfl dX11_mark_37 ?_
          refine s_iconst (v := 1) hX dX11_mark_40 rfl ?_
          exact s_zret hX true hq rfl dX11_mark_41 rfl h
        | 1, _ =>
          replace h := h.2.1 ej
          show Wat X 0 0 LY 21 [some (vr c_xx), some (vi a0), some (vi a1)] [vr c_mark1] M
          refine s_aload_n hX dX11_mark_21 rfl ?_
          refine s_getr hX fi_X11_38 ly_c_xx rfl dX11_mark_22 ?_
          refine s_cvv (as := [vr c_deeds]) (rest := []) hX (c_Deeds_copyFrom_deeds_ h) mv_Deeds_copyFrom_deeds_ wd_ml_X11_270 dX11_mark_25 ly_c_mark1 rfl rfl (Nat.le_of_ble_eq_true rfl) rfl (by decide) ⟨Nat.zero_le _, Nat.zero_le _⟩ (fun M620 h => ?_)
          refine s_aload_n hX dX11_mark_28 rfl ?_
          refine s_dup hX dX11_mark_29 rfl ?_
          refine s_getiv (v := (M620.1 c_xx Top_laid)) hX fi_X11_107 ly_c_xx rfl dX11_mark_30 rfl ?_
          refine s_iconst (v := 1) hX dX11_mark_33 rfl ?_
          refine s_iload_n hX dX11_mark_34 rfl ?_
          refine s_ishl hX dX11_mark_35 ?_
          refine s_ior hX dX11_mark_36 ?_
          refine s_puti hX fi_X11_107 fp_X11 rfl (by decide +kernel) ly_c_xx rfl dX11_mark_37 ?_
          refine s_iconst (v := 1) hX dX11_mark_40 rfl ?_
          exact s_zret hX true hq rfl dX11_mark_41 rfl h
        | 2, _ =>
          replace h := h.2.2.1 ej
          show Wat X 0 0 LY 21 [some (vr c_xx), some (vi a0), some (vi a1)] [vr c_mark2] M
          refine s_aload_n hX dX11_mark_21 rfl ?_
          refine s_getr hX fi_X11_38 ly_c_xx rfl dX11_mark_22 ?_
          refine s_cvv (as := [vr c_deeds]) (rest := []) hX (c_Deeds_copyFrom_deeds__ h) mv_Deeds_copyFrom_deeds__ wd_ml_X11_270 dX11_mark_25 ly_c_mark2 rfl rfl (Nat.le_of_ble_eq_true rfl) rfl (by decide) ⟨Nat.zero_le _, Nat.zero_le _⟩ (fun M621 h => ?_)
          refine s_aload_n hX dX11_mark_28 rfl ?_
          refine s_dup hX dX11_mark_29 rfl ?_
          refine s_getiv (v := (M621.1 c_xx Top_laid)) hX fi_X11_107 ly_c_xx rfl dX11_mark_30 rfl ?_
          refine s_iconst (v := 1) hX dX11_mark_33 rfl ?_
          refine s_iload_n hX dX11_mark_34 rfl ?_
          refine s_ishl hX dX11_mark_35 ?_
          refine s_ior hX dX11_mark_36 ?_
          refine s_puti hX fi_X11_107 fp_X11 rfl (by decide +kernel) ly_c_xx rfl dX11_mark_37 ?_
          refine s_iconst (v := 1) hX dX11_mark_40 rfl ?_
          exact s_zret hX true hq rfl dX11_mark_41 rfl h
        | 3, _ =>
          replace h := h.2.2.2 ej
          show Wat X 0 0 LY 21 [some (vr c_xx), some (vi a0), some (vi a1)] [vr c_mark3] M
          refine s_aload_n hX dX11_mark_21 rfl ?_
          refine s_getr hX fi_X11_38 ly_c_xx rfl dX11_mark_22 ?_
          refine s_cvv (as := [vr c_deeds]) (rest := []) hX (c_Deeds_copyFrom_deeds___ h) mv_Deeds_copyFrom_deeds___ wd_ml_X11_270 dX11_mark_25 ly_c_mark3 rfl rfl (Nat.le_of_ble_eq_true rfl) rfl (by decide) ⟨Nat.zero_le _, Nat.zero_le _⟩ (fun M622 h => ?_)
          refine s_aload_n hX dX11_mark_28 rfl ?_
          refine s_dup hX dX11_mark_29 rfl ?_
          refine s_getiv (v := (M622.1 c_xx Top_laid)) hX fi_X11_107 ly_c_xx rfl dX11_mark_30 rfl ?_
          refine s_iconst (v := 1) hX dX11_mark_33 rfl ?_
          refine s_iload_n hX dX11_mark_34 rfl ?_
          refine s_ishl hX dX11_mark_35 ?_
          refine s_ior hX dX11_mark_36 ?_
          refine s_puti hX fi_X11_107 fp_X11 rfl (by decide +kernel) ly_c_xx rfl dX11_mark_37 ?_
          refine s_iconst (v := 1) hX dX11_mark_40 rfl ?_
          exact s_zret hX true hq rfl dX11_mark_41 rfl h
        | (jj + 4), hj => exact absurd hj (by omega)
    · replace h := h.2 c
      refine s_iconst (v := 0) hX dX11_mark_9 rfl ?_
      exact s_zret hX false hq rfl dX11_mark_10 rfl h
theorem c_Top_mark {a0 : Int32} {a1 : Int32} {M : Mem} {Q : Bool → Mem → Prop} (h : w_Top_mark a0 a1 M Q) : CI yX11_mark cX11_mark 3 ((some .boolean)) 2 0 0 LY LY [vr c_xx, vi a0, vi a1] M (bQ Q) := mk_i rfl wd_co_X11_mark rfl rfl (Nat.le_of_ble_eq_true rfl) (fun X hX hq => t_Top_mark hX hq h)
theorem mv_Top_mark : MV yX11_mark cX11_mark 3 ((some .boolean)) RX11 2 := ⟨wd_co_X11_mark, wd_im_X11_mark, wd_se_X11_mark, wd_in_X11, by decide +kernel, by decide⟩
def w_Jint_bitCount (a0 : Int32) (M : Mem) (Q : Int32 → Mem → Prop) : Prop :=
  ∀ x625 : Int32, x625 = (a0 - ((Int32.toUInt32 a0 >>> (Int32.toUInt32 1 &&& Int32.toUInt32 31)).toInt32 &&& 1431655765)) → ∀ x626 : Int32, x626 = ((x625 &&& 858993459) + ((Int32.toUInt32 x625 >>> (Int32.toUInt32 2 &&& Int32.toUInt32 31)).toInt32 &&& 858993459)) → ∀ x627 : Int32, x627 = ((x626 + (Int32.toUInt32 x626 >>> (Int32.toUInt32 4 &&& Int32.toUInt32 31)).toInt32) &&& 252645135) → ∀ x628 : Int32, x628 = (x627 + (Int32.toUInt32 x627 >>> (Int32.toUInt32 8 &&& Int32.toUInt32 31)).toInt32) → ∀ x629 : Int32, x629 = (x628 + (Int32.toUInt32 x628 >>> (Int32.toUInt32 16 &&& Int32.toUInt32 31)).toInt32) → Q (x629 &&& 63) M
set_option maxHeartbeats 4000000 in
theorem t_Jint_bitCount {X : Cx} (hX : Cok X cJ6_bitCount_0f7a4 RJ6 1 ((some .int)) 1 0 0) {Q : Int32 → Mem → Prop} (hq : RI X 0 0 LY Q) {M : Mem} {a0 : Int32} (h : w_Jint_bitCount a0 M Q) : Wat X 0 0 LY 0 [some (vi a0)] [] M := by
  refine s_iload_n hX dJ6_bitCount_0f7a4_0 rfl ?_
  refine s_iload_n hX dJ6_bitCount_0f7a4_1 rfl ?_
  refine s_iconst (v := 1) hX dJ6_bitCount_0f7a4_2 rfl ?_
  refine s_iushr hX dJ6_bitCount_0f7a4_3 ?_
  refine s_ldcw hX wd_ci_J6_265 dJ6_bitCount_0f7a4_4 ?_
  refine s_iand hX dJ6_bitCount_0f7a4_7 ?_
  refine s_isub hX dJ6_bitCount_0f7a4_8 ?_
  refine s_nmi (fun x625 ex625 => ?_)
  replace h := h x625 ex625
  refine s_istore_n (lv' := [some (vi x625)]) hX dJ6_bitCount_0f7a4_9 rfl rfl (Nat.le_of_ble_eq_true rfl) ?_
  refine s_iload_n hX dJ6_bitCount_0f7a4_10 rfl ?_
  refine s_ldcw hX wd_ci_J6_266 dJ6_bitCount_0f7a4_11 ?_
  refine s_iand hX dJ6_bitCount_0f7a4_14 ?_
  refine s_iload_n hX dJ6_bitCount_0f7a4_15 rfl ?_
  refine s_iconst (v := 2) hX dJ6_bitCount_0f7a4_16 rfl ?_
  refine s_iushr hX dJ6_bitCount_0f7a4_17 ?_
  refine s_ldcw hX wd_ci_J6_266 dJ6_bitCount_0f7a4_18 ?_
  refine s_iand hX dJ6_bitCount_0f7a4_21 ?_
  refine s_iadd hX dJ6_bitCount_0f7a4_22 ?_
  refine s_nmi (fun x626 ex626 => ?_)
  replace h := h x626 ex626
  refine s_istore_n (lv' := [some (vi x626)]) hX dJ6_bitCount_0f7a4_23 rfl rfl (Nat.le_of_ble_eq_true rfl) ?_
  refine s_iload_n hX dJ6_bitCount_0f7a4_24 rfl ?_
  refine s_iload_n hX dJ6_bitCount_0f7a4_25 rfl ?_
  refine s_iconst (v := 4) hX dJ6_bitCount_0f7a4_26 rfl ?_
  refine s_iushr hX dJ6_bitCount_0f7a4_27 ?_
  refine s_iadd hX dJ6_bitCount_0f7a4_28 ?_
  refine s_ldcw hX wd_ci_J6_267 dJ6_bitCount_0f7a4_29 ?_
  refine s_iand hX dJ6_bitCount_0f7a4_32 ?_
  refine s_nmi (fun x627 ex627 => ?_)
  replace h := h x627 ex627
  refine s_istore_n (lv' := [some (vi x627)]) hX dJ6_bitCount_0f7a4_33 rfl rfl (Nat.le_of_ble_eq_true rfl) ?_
  refine s_iload_n hX dJ6_bitCount_0f7a4_34 rfl ?_
  refine s_iload_n hX dJ6_bitCount_0f7a4_35 rfl ?_
  refine s_bipush (v := 8) hX dJ6_bitCount_0f7a4_36 rfl ?_
  refine s_iushr hX dJ6_bitCount_0f7a4_38 ?_
  refine s_iadd hX dJ6_bitCount_0f7a4_39 ?_
  refine s_nmi (fun x628 ex628 => ?_)
  replace h := h x628 ex628
  refine s_istore_n (lv' := [some (vi x628)]) hX dJ6_bitCount_0f7a4_40 rfl rfl (Nat.le_of_ble_eq_true rfl) ?_
  refine s_iload_n hX dJ6_bitCount_0f7a4_41 rfl ?_
  refine s_iload_n hX dJ6_bitCount_0f7a4_42 rfl ?_
  refine s_bipush (v := 16) hX dJ6_bitCount_0f7a4_43 rfl ?_
  refine s_iushr hX dJ6_bitCount_0f7a4_45 ?_
  refine s_iadd hX dJ6_bitCount_0f7a4_46 ?_
  refine s_nmi (fun x629 ex629 => ?_)
  replace h := h x629 ex629
  refine s_istore_n (lv' := [some (vi x629)]) hX dJ6_bitCount_0f7a4_47 rfl rfl (Nat.le_of_ble_eq_true rfl) ?_
  refine s_iload_n hX dJ6_bitCount_0f7a4_48 rfl ?_
  refine s_bipush (v := 63) hX dJ6_bitCount_0f7a4_49 rfl ?_
  refine s_iand hX dJ6_bitCount_0f7a4_51 ?_
  exact s_iret hX hq rfl dJ6_bitCount_0f7a4_52 h
theorem c_Jint_bitCount {a0 : Int32} {M : Mem} {Q : Int32 → Mem → Prop} (h : w_Jint_bitCount a0 M Q) : CI yJ6_bitCount_0f7a4 cJ6_bitCount_0f7a4 1 ((some .int)) 1 0 0 LY LY [vi a0] M Q := mk_i rfl wd_co_J6_bitCount_0f7a4 rfl rfl (Nat.le_of_ble_eq_true rfl) (fun X hX hq => t_Jint_bitCount hX hq h)
theorem ms_Jint_bitCount : MS yJ6_bitCount_0f7a4 cJ6_bitCount_0f7a4 1 ((some .int)) 1 := ⟨wd_co_J6_bitCount_0f7a4, wd_sm_J6_bitCount_0f7a4, wd_in_J6, by decide +kernel, by decide⟩
def w_Deeds_debtCount_L4 (K : Int32 → Mem → Prop) (Q : Int32 → Mem → Prop) : Nat → Int32 → Int32 → Mem → Prop
  | 0, _, _, _ => False
  | n + 1, l1, l2, M => ((6 ≤ l2 → K l1 M) ∧ (¬ 6 ≤ l2 → (vp_in l2 6 ∧ ∀ x632 : Int32, x632 = (l1 + (if (M.1 c_deeds_debt (Int32.toNatClampNeg l2)) = (-1) then (0 : Int32) else 1)) → w_Deeds_debtCount_L4 K Q n x632 (l2 + 1) M)))
set_option maxHeartbeats 4000000 in
theorem t_Deeds_debtCount_L4 {X : Cx} (hX : Cok X cX1_debtCount RX1 3 ((some .int)) 1 0 0) {Q : Int32 → Mem → Prop} (hq : RI X 0 0 LY Q) {K : Int32 → Mem → Prop} (hK : ∀ (l1 : Int32) (M : Mem), K l1 M → Wat X 0 0 LY 34 [none, some (vi l1), none] [] M) : ∀ (n : Nat) (l1 : Int32) (l2 : Int32) (M : Mem), w_Deeds_debtCount_L4 K Q n l1 l2 M → Wat X 0 0 LY 4 [some (vr c_deeds), some (vi l1), some (vi l2)] [] M := by
  intro n
  induction n with
  | zero => intro _ _ _ h; exact h.elim
  | succ n ih =>
    intro l1 l2 M h
    refine s_iload_n hX dX1_debtCount_4 rfl ?_
    refine s_bipush (v := 6) hX dX1_debtCount_5 rfl ?_
    refine s_icmp_ge (tgt := 34) hX dX1_debtCount_7 (by decide) (fun c => ?_) (fun c => ?_)
    · replace h := h.1 c
      refine s_mask [false, true, false] (lv' := [none, some (vi l1), none]) rfl rfl ?_
      exact hK _ _ h
    · replace h := h.2 c
      refine s_iload_n hX dX1_debtCount_10 rfl ?_
      refine s_aload_n hX dX1_debtCount_11 rfl ?_
      refine s_getr hX fi_X1_15 ly_c_deeds rfl dX1_debtCount_12 ?_
      refine s_iload_n hX dX1_debtCount_15 rfl ?_
      have hi := h.1
      replace h := h.2
      refine s_ialdv (v := (M.1 c_deeds_debt (Int32.toNatClampNeg l2))) hX ly_c_deeds_debt hi dX1_debtCount_16 rfl ?_
      refine s_iconst (v := (-1)) hX dX1_debtCount_17 rfl ?_
      have hJ : Wat X 0 0 LY 26 [some (vr c_deeds), some (vi l1), some (vi l2)] [vi (if (M.1 c_deeds_debt (Int32.toNatClampNeg l2)) = (-1) then (0 : Int32) else 1), vi l1] M := by
        refine s_iadd hX dX1_debtCount_26 ?_
        refine s_nmi (fun x632 ex632 => ?_)
        replace h := h x632 ex632
        refine s_istore_n (lv' := [some (vr c_deeds), some (vi x632), some (vi l2)]) hX dX1_debtCount_27 rfl rfl (Nat.le_of_ble_eq_true rfl) ?_
        refine s_iinc (v := (l2 + 1)) (lv' := [some (vr c_deeds), some (vi x632), some (vi (l2 + 1))]) hX dX1_debtCount_28 rfl rfl rfl rfl ?_
        refine s_goto (tgt := 4) hX dX1_debtCount_31 (by decide) ?_
        exact ih _ _ _ h
      refine s_icmp_eq (tgt := 25) hX dX1_debtCount_18 (by decide) (fun c => ?_) (fun c => ?_)
      · rw [if_pos c] at hJ
        refine s_iconst (v := 0) hX dX1_debtCount_25 rfl ?_
        exact hJ
      · rw [if_neg c] at hJ
        refine s_iconst (v := 1) hX dX1_debtCount_21 rfl ?_
        refine s_goto (tgt := 26) hX dX1_debtCount_22 (by decide) ?_
        exact hJ
def w_Deeds_debtCount (M : Mem) (Q : Int32 → Mem → Prop) : Prop :=
  (∃ n635, w_Deeds_debtCount_L4 (fun y634 M633 => Q y634 M633) Q n635 0 0 M)
set_option maxHeartbeats 4000000 in
theorem t_Deeds_debtCount {X : Cx} (hX : Cok X cX1_debtCount RX1 3 ((some .int)) 1 0 0) {Q : Int32 → Mem → Prop} (hq : RI X 0 0 LY Q) {M : Mem} (h : w_Deeds_debtCount M Q) : Wat X 0 0 LY 0 [some (vr c_deeds), none, none] [] M := by
  refine s_iconst (v := 0) hX dX1_debtCount_0 rfl ?_
  refine s_istore_n (lv' := [some (vr c_deeds), some (vi 0), none]) hX dX1_debtCount_1 rfl rfl (Nat.le_of_ble_eq_true rfl) ?_
  refine s_iconst (v := 0) hX dX1_debtCount_2 rfl ?_
  refine s_istore_n (lv' := [some (vr c_deeds), some (vi 0), some (vi 0)]) hX dX1_debtCount_3 rfl rfl (Nat.le_of_ble_eq_true rfl) ?_
  obtain ⟨n635, h⟩ := h
  refine t_Deeds_debtCount_L4 hX hq ?_ n635 _ _ _ h
  intro y634 M633 h
  refine s_iload_n hX dX1_debtCount_34 rfl ?_
  exact s_iret hX hq rfl dX1_debtCount_35 h
theorem c_Deeds_debtCount {M : Mem} {Q : Int32 → Mem → Prop} (h : w_Deeds_debtCount M Q) : CI yX1_debtCount cX1_debtCount 3 ((some .int)) 1 0 0 LY LY [vr c_deeds] M Q := mk_i rfl wd_co_X1_debtCount rfl rfl (Nat.le_of_ble_eq_true rfl) (fun X hX hq => t_Deeds_debtCount hX hq h)
theorem mv_Deeds_debtCount : MV yX1_debtCount cX1_debtCount 3 ((some .int)) RX1 0 := ⟨wd_co_X1_debtCount, wd_im_X1_debtCount, wd_se_X1_debtCount, wd_in_X1, by decide +kernel, by decide⟩
def w_Top_count (a0 : Int32) (M : Mem) (Q : Int32 → Mem → Prop) : Prop :=
  ((a0 = 0 → Q (M.1 c_land Land_wide) M) ∧ (a0 = 1 → Q (M.1 c_land Land_deep) M) ∧ (a0 = 2 → Q (M.1 c_land Land_people) M) ∧ (a0 = 3 → Q (M.1 c_land Land_birds) M) ∧ (a0 = 4 → w_Deeds_callCount M (fun r624 M623 => Q r624 M623)) ∧ (a0 = 5 → w_Jint_bitCount (M.1 c_deeds Deeds_shot) M (fun r631 M630 => Q r631 M630)) ∧ (a0 = 6 → w_Deeds_debtCount M (fun r637 M636 => Q r637 M636)) ∧ (a0 = 7 → Q (M.1 c_history Hist_size) M) ∧ (a0 = 8 → Q (M.1 c_tape Tape_length) M) ∧ (¬ a0 = 0 → ¬ a0 = 1 → ¬ a0 = 2 → ¬ a0 = 3 → ¬ a0 = 4 → ¬ a0 = 5 → ¬ a0 = 6 → ¬ a0 = 7 → ¬ a0 = 8 → Q (-1) M))
set_option maxHeartbeats 4000000 in
theorem t_Top_count {X : Cx} (hX : Cok X cX11_count RX11 2 ((some .int)) 2 0 0) {Q : Int32 → Mem → Prop} (hq : RI X 0 0 LY Q) {M : Mem} {a0 : Int32} (h : w_Top_count a0 M Q) : Wat X 0 0 LY 0 [some (vr c_xx), some (vi a0)] [] M := by
  refine s_iload_n hX dX11_count_0 rfl ?_
  by_cases c0 : a0 = 0
  · replace h := h.1 c0
    refine s_tableIn (tgt := 52) (off := 51) hX dX11_count_1 (by rw [c0]; decide) (by rw [c0]; decide) (by rw [c0]; rfl) (by decide) ?_
    refine s_aload_n hX dX11_count_52 rfl ?_
    refine s_getr hX fi_X11_19 ly_c_xx rfl dX11_count_53 ?_
    refine s_getiv (v := (M.1 c_land Land_wide)) hX fi_X11_273 ly_c_land rfl dX11_count_56 rfl ?_
    exact s_iret hX hq rfl dX11_count_59 h
  by_cases c1 : a0 = 1
  · replace h := h.2.1 c1
    refine s_tableIn (tgt := 60) (off := 59) hX dX11_count_1 (by rw [c1]; decide) (by rw [c1]; decide) (by rw [c1]; rfl) (by decide) ?_
    refine s_aload_n hX dX11_count_60 rfl ?_
    refine s_getr hX fi_X11_19 ly_c_xx rfl dX11_count_61 ?_
    refine s_getiv (v := (M.1 c_land Land_deep)) hX fi_X11_276 ly_c_land rfl dX11_count_64 rfl ?_
    exact s_iret hX hq rfl dX11_count_67 h
  by_cases c2 : a0 = 2
  · replace h := h.2.2.1 c2
    refine s_tableIn (tgt := 68) (off := 67) hX dX11_count_1 (by rw [c2]; decide) (by rw [c2]; decide) (by rw [c2]; rfl) (by decide) ?_
    refine s_aload_n hX dX11_count_68 rfl ?_
    refine s_getr hX fi_X11_19 ly_c_xx rfl dX11_count_69 ?_
    refine s_getiv (v := (M.1 c_land Land_people)) hX fi_X11_210 ly_c_land rfl dX11_count_72 rfl ?_
    exact s_iret hX hq rfl dX11_count_75 h
  by_cases c3 : a0 = 3
  · replace h := h.2.2.2.1 c3
    refine s_tableIn (tgt := 76) (off := 75) hX dX11_count_1 (by rw [c3]; decide) (by rw [c3]; decide) (by rw [c3]; rfl) (by decide) ?_
    refine s_aload_n hX dX11_count_76 rfl ?_
    refine s_getr hX fi_X11_19 ly_c_xx rfl dX11_count_77 ?_
    refine s_getiv (v := (M.1 c_land Land_birds)) hX fi_X11_279 ly_c_land rfl dX11_count_80 rfl ?_
    exact s_iret hX hq rfl dX11_count_83 h
  by_cases c4 : a0 = 4
  · replace h := h.2.2.2.2.1 c4
    refine s_tableIn (tgt := 84) (off := 83) hX dX11_count_1 (by rw [c4]; decide) (by rw [c4]; decide) (by rw [c4]; rfl) (by decide) ?_
    refine s_aload_n hX dX11_count_84 rfl ?_
    refine s_getr hX fi_X11_38 ly_c_xx rfl dX11_count_85 ?_
    refine s_cvi (as := []) (rest := []) hX (c_Deeds_callCount h) mv_Deeds_callCount wd_ml_X11_181 dX11_count_88 ly_c_deeds rfl rfl (Nat.le_of_ble_eq_true rfl) rfl (by decide) ⟨Nat.zero_le _, Nat.zero_le _⟩ (fun r624 M623 h => ?_)
    exact s_iret hX hq rfl dX11_count_91 h
  by_cases c5 : a0 = 5
  · replace h := h.2.2.2.2.2.1 c5
    refine s_tableIn (tgt := 92) (off := 91) hX dX11_count_1 (by rw [c5]; decide) (by rw [c5]; decide) (by rw [c5]; rfl) (by decide) ?_
    refine s_aload_n hX dX11_count_92 rfl ?_
    refine s_getr hX fi_X11_38 ly_c_xx rfl dX11_count_93 ?_
    refine s_getiv (v := (M.1 c_deeds Deeds_shot)) hX fi_X11_136 ly_c_deeds rfl dX11_count_96 rfl ?_
    refine s_csi (as := [vi (M.1 c_deeds Deeds_shot)]) (rest := []) hX (c_Jint_bitCount h) ms_Jint_bitCount wd_ml_X11_282 dX11_count_99 rfl (Nat.le_of_ble_eq_true rfl) rfl (by decide) ⟨Nat.zero_le _, Nat.zero_le _⟩ (fun r631 M630 h => ?_)
    exact s_iret hX hq rfl dX11_count_102 h
  by_cases c6 : a0 = 6
  · replace h := h.2.2.2.2.2.2.1 c6
    refine s_tableIn (tgt := 103) (off := 102) hX dX11_count_1 (by rw [c6]; decide) (by rw [c6]; decide) (by rw [c6]; rfl) (by decide) ?_
    refine s_aload_n hX dX11_count_103 rfl ?_
    refine s_getr hX fi_X11_38 ly_c_xx rfl dX11_count_104 ?_
    refine s_cvi (as := []) (rest := []) hX (c_Deeds_debtCount h) mv_Deeds_debtCount wd_ml_X11_287 dX11_count_107 ly_c_deeds rfl rfl (Nat.le_of_ble_eq_true rfl) rfl (by decide) ⟨Nat.zero_le _, Nat.zero_le _⟩ (fun r637 M636 h => ?_)
    exact s_iret hX hq rfl dX11_count_110 h
  by_cases c7 : a0 = 7
  · replace h := h.2.2.2.2.2.2.2.1 c7
    refine s_tableIn (tgt := 111) (off := 110) hX dX11_count_1 (by rw [c7]; decide) (by rw [c7]; decide) (by rw [c7]; rfl) (by decide) ?_
    refine s_aload_n hX dX11_count_111 rfl ?_
    refine s_getr hX fi_X11_49 ly_c_xx rfl dX11_count_112 ?_
    refine s_getiv (v := (M.1 c_history Hist_size)) hX fi_X11_104 ly_c_history rfl dX11_count_115 rfl ?_
    exact s_iret hX hq rfl dX11_count_118 h
  by_cases c8 : a0 = 8
  · replace h := h.2.2.2.2.2.2.2.2.1 c8
    refine s_tableIn (tgt := 119) (off := 118) hX dX11_count_1 (by rw [c8]; decide) (by rw [c8]; decide) (by rw [c8]; rfl) (by decide) ?_
    refine s_aload_n hX dX11_count_119 rfl ?_
    refine s_getr hX fi_X11_10 ly_c_xx rfl dX11_count_120 ?_
    refine s_getiv (v := (M.1 c_tape Tape_length)) hX fi_X11_89 ly_c_tape rfl dX11_count_123 rfl ?_
    exact s_iret hX hq rfl dX11_count_126 h
  replace h := h.2.2.2.2.2.2.2.2.2 c0 c1 c2 c3 c4 c5 c6 c7 c8
  have n0 := lv_neT (a := 0) c0 rfl
  have n1 := lv_neT (a := 1) c1 rfl
  have n2 := lv_neT (a := 2) c2 rfl
  have n3 := lv_neT (a := 3) c3 rfl
  have n4 := lv_neT (a := 4) c4 rfl
  have n5 := lv_neT (a := 5) c5 rfl
  have n6 := lv_neT (a := 6) c6 rfl
  have n7 := lv_neT (a := 7) c7 rfl
  have n8 := lv_neT (a := 8) c8 rfl
  refine s_tableOut (tgt := 127) hX dX11_count_1 (by omega) (by decide) ?_
  refine s_iconst (v := (-1)) hX dX11_count_127 rfl ?_
  exact s_iret hX hq rfl dX11_count_128 h
theorem c_Top_count {a0 : Int32} {M : Mem} {Q : Int32 → Mem → Prop} (h : w_Top_count a0 M Q) : CI yX11_count cX11_count 2 ((some .int)) 2 0 0 LY LY [vr c_xx, vi a0] M Q := mk_i rfl wd_co_X11_count rfl rfl (Nat.le_of_ble_eq_true rfl) (fun X hX hq => t_Top_count hX hq h)
theorem mv_Top_count : MV yX11_count cX11_count 2 ((some .int)) RX11 1 := ⟨wd_co_X11_count, wd_im_X11_count, wd_se_X11_count, wd_in_X11, by decide +kernel, by decide⟩
def w_Mo_thrown (M : Mem) (Q : Int32 → Mem → Prop) : Prop :=
  Q (M.1 c_mo Mo_thrown) M
set_option maxHeartbeats 4000000 in
theorem t_Mo_thrown {X : Cx} (hX : Cok X cX12_thrown RX12 1 ((some .int)) 1 0 0) {Q : Int32 → Mem → Prop} (hq : RI X 0 0 LY Q) {M : Mem} (h : w_Mo_thrown M Q) : Wat X 0 0 LY 0 [some (vr c_mo)] [] M := by
  refine s_aload_n hX dX12_thrown_0 rfl ?_
  refine s_getiv (v := (M.1 c_mo Mo_thrown)) hX fi_X12_1 ly_c_mo rfl dX12_thrown_1 rfl ?_
  exact s_iret hX hq rfl dX12_thrown_4 h
theorem c_Mo_thrown {M : Mem} {Q : Int32 → Mem → Prop} (h : w_Mo_thrown M Q) : CI yX12_thrown cX12_thrown 1 ((some .int)) 1 0 0 LY LY [vr c_mo] M Q := mk_i rfl wd_co_X12_thrown rfl rfl (Nat.le_of_ble_eq_true rfl) (fun X hX hq => t_Mo_thrown hX hq h)
theorem mv_Mo_thrown : MV yX12_thrown cX12_thrown 1 ((some .int)) RX12 0 := ⟨wd_co_X12_thrown, wd_im_X12_thrown, wd_se_X12_thrown, wd_in_X12, by decide +kernel, by decide⟩
def w_Mo_lay_j38 (R : Int32 → Mem → Prop) (K : Mem → Prop) (l1 : Int64) (l3 : Int32) (l4 : Int32) (M : Mem) (Q : Mem → Prop) : Prop :=
  ((1000 ≤ (M.1 c_mo Mo_taped) → R (l3 + (-8)) M) ∧ (¬ 1000 ≤ (M.1 c_mo Mo_taped) → (vp_in (M.1 c_mo Mo_taped) 1000 ∧ R (l3 + (-8)) (si (si M c_mo_tape (Int32.toNatClampNeg (M.1 c_mo Mo_taped)) l4) c_mo Mo_taped ((M.1 c_mo Mo_taped) + 1)))))
set_option maxHeartbeats 4000000 in
theorem t_Mo_lay_j38 {X : Cx} (hX : Cok X cX12_lay RX12 5 none 1 0 0) {Q : Mem → Prop} (hq : RV X 0 0 LY Q) {l1 : Int64} {R : Int32 → Mem → Prop} {K : Mem → Prop} (hR : ∀ (l3 : Int32) (M : Mem), R l3 M → Wat X 0 0 LY 3 [some (vr c_mo), some (vl l1), none, some (vi l3), none] [] M) (hK : ∀ (M : Mem), K M → Wat X 0 0 LY 75 [none, none, none, none, none] [] M) {l3 : Int32} {l4 : Int32} {M : Mem} (h : w_Mo_lay_j38 R K l1 l3 l4 M Q) : Wat X 0 0 LY 38 [some (vr c_mo), some (vl l1), none, some (vi l3), some (vi l4)] [] M := by
  refine s_aload_n hX dX12_lay_38 rfl ?_
  refine s_getiv (v := (M.1 c_mo Mo_taped)) hX fi_X12_11 ly_c_mo rfl dX12_lay_39 rfl ?_
  refine s_sipush (v := 1000) hX dX12_lay_42 rfl ?_
  refine s_icmp_ge (tgt := 69) hX dX12_lay_45 (by decide) (fun c => ?_) (fun c => ?_)
  · replace h := h.1 c
    refine s_iinc (v := (l3 + (-8))) (lv' := [some (vr c_mo), some (vl l1), none, some (vi (l3 + (-8))), some (vi l4)]) hX dX12_lay_69 rfl rfl rfl rfl ?_
    refine s_goto (tgt := 3) hX dX12_lay_72 (by decide) ?_
    refine s_mask [true, true, true, true, false] (lv' := [some (vr c_mo), some (vl l1), none, some (vi (l3 + (-8))), none]) rfl rfl ?_
    exact hR _ _ h
  · replace h := h.2 c
    refine s_aload_n hX dX12_lay_48 rfl ?_
    refine s_getr hX fi_X12_14 ly_c_mo rfl dX12_lay_49 ?_
    refine s_aload_n hX dX12_lay_52 rfl ?_
    refine s_getiv (v := (M.1 c_mo Mo_taped)) hX fi_X12_11 ly_c_mo rfl dX12_lay_53 rfl ?_
    refine s_iload hX dX12_lay_56 rfl ?_
    have hi := h.1
    replace h := h.2
    refine s_iast hX ly_c_mo_tape hi dX12_lay_58 ?_
    refine s_aload_n hX dX12_lay_59 rfl ?_
    refine s_dup hX dX12_lay_60 rfl ?_
    refine s_getiv (v := (M.1 c_mo Mo_taped)) hX fi_X12_11 ly_c_mo rfl dX12_lay_61 rfl ?_
    refine s_iconst (v := 1) hX dX12_lay_64 rfl ?_
    refine s_iadd hX dX12_lay_65 ?_
    refine s_puti hX fi_X12_11 fp_X12 rfl (by decide +kernel) ly_c_mo rfl dX12_lay_66 ?_
    refine s_iinc (v := (l3 + (-8))) (lv' := [some (vr c_mo), some (vl l1), none, some (vi (l3 + (-8))), some (vi l4)]) hX dX12_lay_69 rfl rfl rfl rfl ?_
    refine s_goto (tgt := 3) hX dX12_lay_72 (by decide) ?_
    refine s_mask [true, true, true, true, false] (lv' := [some (vr c_mo), some (vl l1), none, some (vi (l3 + (-8))), none]) rfl rfl ?_
    exact hR _ _ h
def w_Mo_lay_L3 (l1 : Int64) (K : Mem → Prop) (Q : Mem → Prop) : Nat → Int32 → Mem → Prop
  | 0, _, _ => False
  | n + 1, l3, M => ((l3 < 0 → K M) ∧ (¬ l3 < 0 → ∀ x638 : Int32, x638 = ((Int64.toInt32 (l1 >>> (Int32.toInt64 l3 &&& 63))) &&& 255) → ((x638 = 10 → w_Mo_lay_j38 (fun l3 M => w_Mo_lay_L3 l1 K Q n l3 M) K l1 l3 x638 M Q) ∧ (¬ x638 = 10 → ((x638 < 32 → w_Mo_lay_L3 l1 K Q n (l3 + (-8)) M) ∧ (¬ x638 < 32 → ((126 < x638 → w_Mo_lay_L3 l1 K Q n (l3 + (-8)) M) ∧ (¬ 126 < x638 → w_Mo_lay_j38 (fun l3 M => w_Mo_lay_L3 l1 K Q n l3 M) K l1 l3 x638 M Q))))))))
set_option maxHeartbeats 4000000 in
theorem t_Mo_lay_L3 {X : Cx} (hX : Cok X cX12_lay RX12 5 none 1 0 0) {Q : Mem → Prop} (hq : RV X 0 0 LY Q) {l1 : Int64} {K : Mem → Prop} (hK : ∀ (M : Mem), K M → Wat X 0 0 LY 75 [none, none, none, none, none] [] M) : ∀ (n : Nat) (l3 : Int32) (M : Mem), w_Mo_lay_L3 l1 K Q n l3 M → Wat X 0 0 LY 3 [some (vr c_mo), some (vl l1), none, some (vi l3), none] [] M := by
  intro n
  induction n with
  | zero => intro _ _ h; exact h.elim
  | succ n ih =>
    intro l3 M h
    refine s_iload_n hX dX12_lay_3 rfl ?_
    refine s_if_lt (tgt := 75) hX dX12_lay_4 (by decide) (fun c => ?_) (fun c => ?_)
    · replace h := h.1 c
      refine s_mask [false, false, true, false, true] (lv' := [none, none, none, none, none]) rfl rfl ?_
      exact hK _ h
    · replace h := h.2 c
      refine s_lload_n hX dX12_lay_7 rfl ?_
      refine s_iload_n hX dX12_lay_8 rfl ?_
      refine s_lshr hX dX12_lay_9 ?_
      refine s_l2i hX dX12_lay_10 ?_
      refine s_sipush (v := 255) hX dX12_lay_11 rfl ?_
      refine s_iand hX dX12_lay_14 ?_
      refine s_nmi (fun x638 ex638 => ?_)
      replace h := h x638 ex638
      refine s_istore (lv' := [some (vr c_mo), some (vl l1), none, some (vi l3), some (vi x638)]) hX dX12_lay_15 rfl rfl (Nat.le_of_ble_eq_true rfl) ?_
      refine s_iload hX dX12_lay_17 rfl ?_
      refine s_bipush (v := 10) hX dX12_lay_19 rfl ?_
      refine s_icmp_eq (tgt := 38) hX dX12_lay_21 (by decide) (fun c => ?_) (fun c => ?_)
      · replace h := h.1 c
        exact t_Mo_lay_j38 hX hq (fun _ _ h => ih _ _ h) hK h
      · replace h := h.2 c
        refine s_iload hX dX12_lay_24 rfl ?_
        refine s_bipush (v := 32) hX dX12_lay_26 rfl ?_
        refine s_icmp_lt (tgt := 69) hX dX12_lay_28 (by decide) (fun c => ?_) (fun c => ?_)
        · replace h := h.1 c
          refine s_iinc (v := (l3 + (-8))) (lv' := [some (vr c_mo), some (vl l1), none, some (vi (l3 + (-8))), some (vi x638)]) hX dX12_lay_69 rfl rfl rfl rfl ?_
          refine s_goto (tgt := 3) hX dX12_lay_72 (by decide) ?_
          refine s_mask [true, true, true, true, false] (lv' := [some (vr c_mo), some (vl l1), none, some (vi (l3 + (-8))), none]) rfl rfl ?_
          exact ih _ _ h
        · replace h := h.2 c
          refine s_iload hX dX12_lay_31 rfl ?_
          refine s_bipush (v := 126) hX dX12_lay_33 rfl ?_
          refine s_icmp_gt (tgt := 69) hX dX12_lay_35 (by decide) (fun c => ?_) (fun c => ?_)
          · replace h := h.1 c
            refine s_iinc (v := (l3 + (-8))) (lv' := [some (vr c_mo), some (vl l1), none, some (vi (l3 + (-8))), some (vi x638)]) hX dX12_lay_69 rfl rfl rfl rfl ?_
            refine s_goto (tgt := 3) hX dX12_lay_72 (by decide) ?_
            refine s_mask [true, true, true, true, false] (lv' := [some (vr c_mo), some (vl l1), none, some (vi (l3 + (-8))), none]) rfl rfl ?_
            exact ih _ _ h
          · replace h := h.2 c
            exact t_Mo_lay_j38 hX hq (fun _ _ h => ih _ _ h) hK h
def w_Mo_lay (a0 : Int64) (M : Mem) (Q : Mem → Prop) : Prop :=
  (∃ n640, w_Mo_lay_L3 a0 (fun M639 => Q M639) Q n640 56 M)
set_option maxHeartbeats 4000000 in
theorem t_Mo_lay {X : Cx} (hX : Cok X cX12_lay RX12 5 none 1 0 0) {Q : Mem → Prop} (hq : RV X 0 0 LY Q) {M : Mem} {a0 : Int64} (h : w_Mo_lay a0 M Q) : Wat X 0 0 LY 0 [some (vr c_mo), some (vl a0), none, none, none] [] M := by
  refine s_bipush (v := 56) hX dX12_lay_0 rfl ?_
  refine s_istore_n (lv' := [some (vr c_mo), some (vl a0), none, some (vi 56), none]) hX dX12_lay_2 rfl rfl (Nat.le_of_ble_eq_true rfl) ?_
  obtain ⟨n640, h⟩ := h
  refine t_Mo_lay_L3 hX hq ?_ n640 _ _ h
  intro M639 h
  exact s_vret hX hq rfl dX12_lay_75 h
theorem c_Mo_lay {a0 : Int64} {M : Mem} {Q : Mem → Prop} (h : w_Mo_lay a0 M Q) : CV yX12_lay cX12_lay 5 none 1 0 0 LY LY [vr c_mo, vl a0] M Q := mk_v rfl wd_co_X12_lay rfl rfl (Nat.le_of_ble_eq_true rfl) (fun X hX hq => t_Mo_lay hX hq h)
theorem mv_Mo_lay : MV yX12_lay cX12_lay 5 none RX12 1 := ⟨wd_co_X12_lay, wd_im_X12_lay, wd_se_X12_lay, wd_in_X12, by decide +kernel, by decide⟩
def w_Mo_feed (a0 : Int64) (a1 : Int64) (a2 : Int64) (M : Mem) (Q : Int32 → Mem → Prop) : Prop :=
  w_Mo_lay a0 (si M c_mo Mo_thrown 0) (fun M641 => w_Mo_lay a1 M641 (fun M642 => w_Mo_lay a2 M642 (fun M643 => Q (M643.1 c_mo Mo_taped) M643)))
set_option maxHeartbeats 4000000 in
theorem t_Mo_feed {X : Cx} (hX : Cok X cX12_feed RX12 7 ((some .int)) 2 0 0) {Q : Int32 → Mem → Prop} (hq : RI X 0 0 LY Q) {M : Mem} {a0 : Int64} {a1 : Int64} {a2 : Int64} (h : w_Mo_feed a0 a1 a2 M Q) : Wat X 0 0 LY 0 [some (vr c_mo), some (vl a0), none, some (vl a1), none, some (vl a2), none] [] M := by
  refine s_aload_n hX dX12_feed_0 rfl ?_
  refine s_iconst (v := 0) hX dX12_feed_1 rfl ?_
  refine s_puti hX fi_X12_1 fp_X12 rfl (by decide +kernel) ly_c_mo rfl dX12_feed_2 ?_
  refine s_aload_n hX dX12_feed_5 rfl ?_
  refine s_lload_n hX dX12_feed_6 rfl ?_
  refine s_cvv (as := [vl a0]) (rest := []) hX (c_Mo_lay h) mv_Mo_lay wd_ml_X12_7 dX12_feed_7 ly_c_mo rfl rfl (Nat.le_of_ble_eq_true rfl) rfl (by decide) ⟨Nat.zero_le _, Nat.zero_le _⟩ (fun M641 h => ?_)
  refine s_aload_n hX dX12_feed_10 rfl ?_
  refine s_lload_n hX dX12_feed_11 rfl ?_
  refine s_cvv (as := [vl a1]) (rest := []) hX (c_Mo_lay h) mv_Mo_lay wd_ml_X12_7 dX12_feed_12 ly_c_mo rfl rfl (Nat.le_of_ble_eq_true rfl) rfl (by decide) ⟨Nat.zero_le _, Nat.zero_le _⟩ (fun M642 h => ?_)
  refine s_aload_n hX dX12_feed_15 rfl ?_
  refine s_lload hX dX12_feed_16 rfl ?_
  refine s_cvv (as := [vl a2]) (rest := []) hX (c_Mo_lay h) mv_Mo_lay wd_ml_X12_7 dX12_feed_18 ly_c_mo rfl rfl (Nat.le_of_ble_eq_true rfl) rfl (by decide) ⟨Nat.zero_le _, Nat.zero_le _⟩ (fun M643 h => ?_)
  refine s_aload_n hX dX12_feed_21 rfl ?_
  refine s_getiv (v := (M643.1 c_mo Mo_taped)) hX fi_X12_11 ly_c_mo rfl dX12_feed_22 rfl ?_
  exact s_iret hX hq rfl dX12_feed_25 h
theorem c_Mo_feed {a0 : Int64} {a1 : Int64} {a2 : Int64} {M : Mem} {Q : Int32 → Mem → Prop} (h : w_Mo_feed a0 a1 a2 M Q) : CI yX12_feed cX12_feed 7 ((some .int)) 2 0 0 LY LY [vr c_mo, vl a0, vl a1, vl a2] M Q := mk_i rfl wd_co_X12_feed rfl rfl (Nat.le_of_ble_eq_true rfl) (fun X hX hq => t_Mo_feed hX hq h)
theorem mv_Mo_feed : MV yX12_feed cX12_feed 7 ((some .int)) RX12 3 := ⟨wd_co_X12_feed, wd_im_X12_feed, wd_se_X12_feed, wd_in_X12, by decide +kernel, by decide⟩
def w_Mo_standsAsAlways_L2 (l1 : Int32) (K : Mem → Prop) (Q : Mem → Prop) : Nat → Int32 → Mem → Prop
  | 0, _, _ => False
  | n + 1, l2, M => ((180 ≤ l2 → K M) ∧ (¬ 180 ≤ l2 → (vp_in (l1 + l2) 360 ∧ w_Mo_standsAsAlways_L2 l1 K Q n (l2 + 1) (si M c_mo_lands (Int32.toNatClampNeg (l1 + l2)) 0))))
set_option maxHeartbeats 4000000 in
theorem t_Mo_standsAsAlways_L2 {X : Cx} (hX : Cok X cX12_standsAsAlways RX12 3 none 1 0 0) {Q : Mem → Prop} (hq : RV X 0 0 LY Q) {l1 : Int32} {K : Mem → Prop} (hK : ∀ (M : Mem), K M → Wat X 0 0 LY 24 [some (vr c_mo), some (vi l1), none] [] M) : ∀ (n : Nat) (l2 : Int32) (M : Mem), w_Mo_standsAsAlways_L2 l1 K Q n l2 M → Wat X 0 0 LY 2 [some (vr c_mo), some (vi l1), some (vi l2)] [] M := by
  intro n
  induction n with
  | zero => intro _ _ h; exact h.elim
  | succ n ih =>
    intro l2 M h
    refine s_iload_n hX dX12_standsAsAlways_2 rfl ?_
    refine s_sipush (v := 180) hX dX12_standsAsAlways_3 rfl ?_
    refine s_icmp_ge (tgt := 24) hX dX12_standsAsAlways_6 (by decide) (fun c => ?_) (fun c => ?_)
    · replace h := h.1 c
      refine s_mask [true, true, false] (lv' := [some (vr c_mo), some (vi l1), none]) rfl rfl ?_
      exact hK _ h
    · replace h := h.2 c
      refine s_aload_n hX dX12_standsAsAlways_9 rfl ?_
      refine s_getr hX fi_X12_85 ly_c_mo rfl dX12_standsAsAlways_10 ?_
      refine s_iload_n hX dX12_standsAsAlways_13 rfl ?_
      refine s_iload_n hX dX12_standsAsAlways_14 rfl ?_
      refine s_iadd hX dX12_standsAsAlways_15 ?_
      refine s_iconst (v := 0) hX dX12_standsAsAlways_16 rfl ?_
      have hi := h.1
      replace h := h.2
      refine s_iast hX ly_c_mo_lands hi dX12_standsAsAlways_17 ?_
      refine s_iinc (v := (l2 + 1)) (lv' := [some (vr c_mo), some (vi l1), some (vi (l2 + 1))]) hX dX12_standsAsAlways_18 rfl rfl rfl rfl ?_
      refine s_goto (tgt := 2) hX dX12_standsAsAlways_21 (by decide) ?_
      exact ih _ _ h
def w_Mo_standsAsAlways (a0 : Int32) (M : Mem) (Q : Mem → Prop) : Prop :=
  (∃ n645, w_Mo_standsAsAlways_L2 a0 (fun M644 => (vp_in (a0 + 4) 360 ∧ (vp_in (a0 + 5) 360 ∧ (vp_in ((a0 + 5) + 1) 360 ∧ Q (si (si (si M644 c_mo_lands (Int32.toNatClampNeg (a0 + 4)) 14) c_mo_lands (Int32.toNatClampNeg (a0 + 5)) (-1)) c_mo_lands (Int32.toNatClampNeg ((a0 + 5) + 1)) (-1)))))) Q n645 0 M)
set_option maxHeartbeats 4000000 in
theorem t_Mo_standsAsAlways {X : Cx} (hX : Cok X cX12_standsAsAlways RX12 3 none 1 0 0) {Q : Mem → Prop} (hq : RV X 0 0 LY Q) {M : Mem} {a0 : Int32} (h : w_Mo_standsAsAlways a0 M Q) : Wat X 0 0 LY 0 [some (vr c_mo), some (vi a0), none] [] M := by
  refine s_iconst (v := 0) hX dX12_standsAsAlways_0 rfl ?_
  refine s_istore_n (lv' := [some (vr c_mo), some (vi a0), some (vi 0)]) hX dX12_standsAsAlways_1 rfl rfl (Nat.le_of_ble_eq_true rfl) ?_
  obtain ⟨n645, h⟩ := h
  refine t_Mo_standsAsAlways_L2 hX hq ?_ n645 _ _ h
  intro M644 h
  refine s_aload_n hX dX12_standsAsAlways_24 rfl ?_
  refine s_getr hX fi_X12_85 ly_c_mo rfl dX12_standsAsAlways_25 ?_
  refine s_iload_n hX dX12_standsAsAlways_28 rfl ?_
  refine s_iconst (v := 4) hX dX12_standsAsAlways_29 rfl ?_
  refine s_iadd hX dX12_standsAsAlways_30 ?_
  refine s_bipush (v := 14) hX dX12_standsAsAlways_31 rfl ?_
  have hi := h.1
  replace h := h.2
  refine s_iast hX ly_c_mo_lands hi dX12_standsAsAlways_33 ?_
  refine s_aload_n hX dX12_standsAsAlways_34 rfl ?_
  refine s_getr hX fi_X12_85 ly_c_mo rfl dX12_standsAsAlways_35 ?_
  refine s_iload_n hX dX12_standsAsAlways_38 rfl ?_
  refine s_iconst (v := 5) hX dX12_standsAsAlways_39 rfl ?_
  refine s_iadd hX dX12_standsAsAlways_40 ?_
  refine s_iconst (v := (-1)) hX dX12_standsAsAlways_41 rfl ?_
  have hi := h.1
  replace h := h.2
  refine s_iast hX ly_c_mo_lands hi dX12_standsAsAlways_42 ?_
  refine s_aload_n hX dX12_standsAsAlways_43 rfl ?_
  refine s_getr hX fi_X12_85 ly_c_mo rfl dX12_standsAsAlways_44 ?_
  refine s_iload_n hX dX12_standsAsAlways_47 rfl ?_
  refine s_iconst (v := 5) hX dX12_standsAsAlways_48 rfl ?_
  refine s_iadd hX dX12_standsAsAlways_49 ?_
  refine s_iconst (v := 1) hX dX12_standsAsAlways_50 rfl ?_
  refine s_iadd hX dX12_standsAsAlways_51 ?_
  refine s_iconst (v := (-1)) hX dX12_standsAsAlways_52 rfl ?_
  have hi := h.1
  replace h := h.2
  refine s_iast hX ly_c_mo_lands hi dX12_standsAsAlways_53 ?_
  exact s_vret hX hq rfl dX12_standsAsAlways_54 h
theorem c_Mo_standsAsAlways {a0 : Int32} {M : Mem} {Q : Mem → Prop} (h : w_Mo_standsAsAlways a0 M Q) : CV yX12_standsAsAlways cX12_standsAsAlways 3 none 1 0 0 LY LY [vr c_mo, vi a0] M Q := mk_v rfl wd_co_X12_standsAsAlways rfl rfl (Nat.le_of_ble_eq_true rfl) (fun X hX hq => t_Mo_standsAsAlways hX hq h)
theorem mv_Mo_standsAsAlways : MV yX12_standsAsAlways cX12_standsAsAlways 3 none RX12 1 := ⟨wd_co_X12_standsAsAlways, wd_im_X12_standsAsAlways, wd_se_X12_standsAsAlways, wd_in_X12, by decide +kernel, by decide⟩
def w_Mo_isLetter (a0 : Int32) (M : Mem) (Q : Bool → Mem → Prop) : Prop :=
  ((a0 < 97 → Q false M) ∧ (¬ a0 < 97 → (∃ bb : Bool, (if 122 < a0 then (0 : Int32) else 1) = b2i bb ∧ Q bb M)))
set_option maxHeartbeats 4000000 in
theorem t_Mo_isLetter {X : Cx} (hX : Cok X cX12_isLetter RX12 1 ((some .boolean)) 1 0 0) {Q : Bool → Mem → Prop} (hq : RI X 0 0 LY (bQ Q)) {M : Mem} {a0 : Int32} (h : w_Mo_isLetter a0 M Q) : Wat X 0 0 LY 0 [some (vi a0)] [] M := by
  refine s_iload_n hX dX12_isLetter_0 rfl ?_
  refine s_bipush (v := 97) hX dX12_isLetter_1 rfl ?_
  refine s_icmp_lt (tgt := 16) hX dX12_isLetter_3 (by decide) (fun c => ?_) (fun c => ?_)
  · replace h := h.1 c
    refine s_iconst (v := 0) hX dX12_isLetter_16 rfl ?_
    exact s_zret hX false hq rfl dX12_isLetter_17 rfl h
  · replace h := h.2 c
    refine s_iload_n hX dX12_isLetter_6 rfl ?_
    refine s_bipush (v := 122) hX dX12_isLetter_7 rfl ?_
    have hJ : Wat X 0 0 LY 17 [some (vi a0)] [vi (if 122 < a0 then (0 : Int32) else 1)] M := by
      obtain ⟨bb, hbb, h⟩ := h
      exact s_zret hX bb hq rfl dX12_isLetter_17 hbb h
    refine s_icmp_gt (tgt := 16) hX dX12_isLetter_9 (by decide) (fun c => ?_) (fun c => ?_)
    · rw [if_pos c] at hJ
      refine s_iconst (v := 0) hX dX12_isLetter_16 rfl ?_
      exact hJ
    · rw [if_neg c] at hJ
      refine s_iconst (v := 1) hX dX12_isLetter_12 rfl ?_
      refine s_goto (tgt := 17) hX dX12_isLetter_13 (by decide) ?_
      exact hJ
theorem c_Mo_isLetter {a0 : Int32} {M : Mem} {Q : Bool → Mem → Prop} (h : w_Mo_isLetter a0 M Q) : CI yX12_isLetter cX12_isLetter 1 ((some .boolean)) 1 0 0 LY LY [vi a0] M (bQ Q) := mk_i rfl wd_co_X12_isLetter rfl rfl (Nat.le_of_ble_eq_true rfl) (fun X hX hq => t_Mo_isLetter hX hq h)
theorem ms_Mo_isLetter : MS yX12_isLetter cX12_isLetter 1 ((some .boolean)) 1 := ⟨wd_co_X12_isLetter, wd_sm_X12_isLetter, wd_in_X12, by decide +kernel, by decide⟩
def w_Mo_isDigit (a0 : Int32) (M : Mem) (Q : Bool → Mem → Prop) : Prop :=
  ((a0 < 48 → Q false M) ∧ (¬ a0 < 48 → (∃ bb : Bool, (if 57 < a0 then (0 : Int32) else 1) = b2i bb ∧ Q bb M)))
set_option maxHeartbeats 4000000 in
theorem t_Mo_isDigit {X : Cx} (hX : Cok X cX12_isDigit RX12 1 ((some .boolean)) 1 0 0) {Q : Bool → Mem → Prop} (hq : RI X 0 0 LY (bQ Q)) {M : Mem} {a0 : Int32} (h : w_Mo_isDigit a0 M Q) : Wat X 0 0 LY 0 [some (vi a0)] [] M := by
  refine s_iload_n hX dX12_isDigit_0 rfl ?_
  refine s_bipush (v := 48) hX dX12_isDigit_1 rfl ?_
  refine s_icmp_lt (tgt := 16) hX dX12_isDigit_3 (by decide) (fun c => ?_) (fun c => ?_)
  · replace h := h.1 c
    refine s_iconst (v := 0) hX dX12_isDigit_16 rfl ?_
    exact s_zret hX false hq rfl dX12_isDigit_17 rfl h
  · replace h := h.2 c
    refine s_iload_n hX dX12_isDigit_6 rfl ?_
    refine s_bipush (v := 57) hX dX12_isDigit_7 rfl ?_
    have hJ : Wat X 0 0 LY 17 [some (vi a0)] [vi (if 57 < a0 then (0 : Int32) else 1)] M := by
      obtain ⟨bb, hbb, h⟩ := h
      exact s_zret hX bb hq rfl dX12_isDigit_17 hbb h
    refine s_icmp_gt (tgt := 16) hX dX12_isDigit_9 (by decide) (fun c => ?_) (fun c => ?_)
    · rw [if_pos c] at hJ
      refine s_iconst (v := 0) hX dX12_isDigit_16 rfl ?_
      exact hJ
    · rw [if_neg c] at hJ
      refine s_iconst (v := 1) hX dX12_isDigit_12 rfl ?_
      refine s_goto (tgt := 17) hX dX12_isDigit_13 (by decide) ?_
      exact hJ
theorem c_Mo_isDigit {a0 : Int32} {M : Mem} {Q : Bool → Mem → Prop} (h : w_Mo_isDigit a0 M Q) : CI yX12_isDigit cX12_isDigit 1 ((some .boolean)) 1 0 0 LY LY [vi a0] M (bQ Q) := mk_i rfl wd_co_X12_isDigit rfl rfl (Nat.le_of_ble_eq_true rfl) (fun X hX hq => t_Mo_isDigit hX hq h)
theorem ms_Mo_isDigit : MS yX12_isDigit cX12_isDigit 1 ((some .boolean)) 1 := ⟨wd_co_X12_isDigit, wd_sm_X12_isDigit, wd_in_X12, by decide +kernel, by decide⟩
def w_Mo_isSignOf (a0 : Int32) (M : Mem) (Q : Bool → Mem → Prop) : Prop :=
  ((a0 = 40 → Q true M) ∧ (¬ a0 = 40 → ((a0 = 41 → Q true M) ∧ (¬ a0 = 41 → ((a0 = 59 → Q true M) ∧ (¬ a0 = 59 → ((a0 = 61 → Q true M) ∧ (¬ a0 = 61 → ((a0 = 60 → Q true M) ∧ (¬ a0 = 60 → ((a0 = 43 → Q true M) ∧ (¬ a0 = 43 → ((a0 = 45 → Q true M) ∧ (¬ a0 = 45 → (∃ bb : Bool, (if a0 = 42 then (1 : Int32) else 0) = b2i bb ∧ Q bb M)))))))))))))))
set_option maxHeartbeats 4000000 in
theorem t_Mo_isSignOf {X : Cx} (hX : Cok X cX12_isSignOf RX12 1 ((some .boolean)) 1 0 0) {Q : Bool → Mem → Prop} (hq : RI X 0 0 LY (bQ Q)) {M : Mem} {a0 : Int32} (h : w_Mo_isSignOf a0 M Q) : Wat X 0 0 LY 0 [some (vi a0)] [] M := by
  refine s_iload_n hX dX12_isSignOf_0 rfl ?_
  refine s_bipush (v := 40) hX dX12_isSignOf_1 rfl ?_
  refine s_icmp_eq (tgt := 48) hX dX12_isSignOf_3 (by decide) (fun c => ?_) (fun c => ?_)
  · replace h := h.1 c
    refine s_iconst (v := 1) hX dX12_isSignOf_48 rfl ?_
    refine s_goto (tgt := 53) hX dX12_isSignOf_49 (by decide) ?_
    exact s_zret hX true hq rfl dX12_isSignOf_53 rfl h
  · replace h := h.2 c
    refine s_iload_n hX dX12_isSignOf_6 rfl ?_
    refine s_bipush (v := 41) hX dX12_isSignOf_7 rfl ?_
    refine s_icmp_eq (tgt := 48) hX dX12_isSignOf_9 (by decide) (fun c => ?_) (fun c => ?_)
    · replace h := h.1 c
      refine s_iconst (v := 1) hX dX12_isSignOf_48 rfl ?_
      refine s_goto (tgt := 53) hX dX12_isSignOf_49 (by decide) ?_
      exact s_zret hX true hq rfl dX12_isSignOf_53 rfl h
    · replace h := h.2 c
      refine s_iload_n hX dX12_isSignOf_12 rfl ?_
      refine s_bipush (v := 59) hX dX12_isSignOf_13 rfl ?_
      refine s_icmp_eq (tgt := 48) hX dX12_isSignOf_15 (by decide) (fun c => ?_) (fun c => ?_)
      · replace h := h.1 c
        refine s_iconst (v := 1) hX dX12_isSignOf_48 rfl ?_
        refine s_goto (tgt := 53) hX dX12_isSignOf_49 (by decide) ?_
        exact s_zret hX true hq rfl dX12_isSignOf_53 rfl h
      · replace h := h.2 c
        refine s_iload_n hX dX12_isSignOf_18 rfl ?_
        refine s_bipush (v := 61) hX dX12_isSignOf_19 rfl ?_
        refine s_icmp_eq (tgt := 48) hX dX12_isSignOf_21 (by decide) (fun c => ?_) (fun c => ?_)
        · replace h := h.1 c
          refine s_iconst (v := 1) hX dX12_isSignOf_48 rfl ?_
          refine s_goto (tgt := 53) hX dX12_isSignOf_49 (by decide) ?_
          exact s_zret hX true hq rfl dX12_isSignOf_53 rfl h
        · replace h := h.2 c
          refine s_iload_n hX dX12_isSignOf_24 rfl ?_
          refine s_bipush (v := 60) hX dX12_isSignOf_25 rfl ?_
          refine s_icmp_eq (tgt := 48) hX dX12_isSignOf_27 (by decide) (fun c => ?_) (fun c => ?_)
          · replace h := h.1 c
            refine s_iconst (v := 1) hX dX12_isSignOf_48 rfl ?_
            refine s_goto (tgt := 53) hX dX12_isSignOf_49 (by decide) ?_
            exact s_zret hX true hq rfl dX12_isSignOf_53 rfl h
          · replace h := h.2 c
            refine s_iload_n hX dX12_isSignOf_30 rfl ?_
            refine s_bipush (v := 43) hX dX12_isSignOf_31 rfl ?_
            refine s_icmp_eq (tgt := 48) hX dX12_isSignOf_33 (by decide) (fun c => ?_) (fun c => ?_)
            · replace h := h.1 c
              refine s_iconst (v := 1) hX dX12_isSignOf_48 rfl ?_
              refine s_goto (tgt := 53) hX dX12_isSignOf_49 (by decide) ?_
              exact s_zret hX true hq rfl dX12_isSignOf_53 rfl h
            · replace h := h.2 c
              refine s_iload_n hX dX12_isSignOf_36 rfl ?_
              refine s_bipush (v := 45) hX dX12_isSignOf_37 rfl ?_
              refine s_icmp_eq (tgt := 48) hX dX12_isSignOf_39 (by decide) (fun c => ?_) (fun c => ?_)
              · replace h := h.1 c
                refine s_iconst (v := 1) hX dX12_isSignOf_48 rfl ?_
                refine s_goto (tgt := 53) hX dX12_isSignOf_49 (by decide) ?_
                exact s_zret hX true hq rfl dX12_isSignOf_53 rfl h
              · replace h := h.2 c
                refine s_iload_n hX dX12_isSignOf_42 rfl ?_
                refine s_bipush (v := 42) hX dX12_isSignOf_43 rfl ?_
                have hJ : Wat X 0 0 LY 53 [some (vi a0)] [vi (if a0 = 42 then (1 : Int32) else 0)] M := by
                  obtain ⟨bb, hbb, h⟩ := h
                  exact s_zret hX bb hq rfl dX12_isSignOf_53 hbb h
                refine s_icmp_ne (tgt := 52) hX dX12_isSignOf_45 (by decide) (fun c => ?_) (fun c => ?_)
                · rw [if_neg c] at hJ
                  refine s_iconst (v := 0) hX dX12_isSignOf_52 rfl ?_
                  exact hJ
                · rw [if_pos c] at hJ
                  refine s_iconst (v := 1) hX dX12_isSignOf_48 rfl ?_
                  refine s_goto (tgt := 53) hX dX12_isSignOf_49 (by decide) ?_
                  exact hJ
theorem c_Mo_isSignOf {a0 : Int32} {M : Mem} {Q : Bool → Mem → Prop} (h : w_Mo_isSignOf a0 M Q) : CI yX12_isSignOf cX12_isSignOf 1 ((some .boolean)) 1 0 0 LY LY [vi a0] M (bQ Q) := mk_i rfl wd_co_X12_isSignOf rfl rfl (Nat.le_of_ble_eq_true rfl) (fun X hX hq => t_Mo_isSignOf hX hq h)
theorem ms_Mo_isSignOf : MS yX12_isSignOf cX12_isSignOf 1 ((some .boolean)) 1 := ⟨wd_co_X12_isSignOf, wd_sm_X12_isSignOf, wd_in_X12, by decide +kernel, by decide⟩
def w_Mo_rank (a0 : Int32) (M : Mem) (Q : Int32 → Mem → Prop) : Prop :=
  w_Mo_isLetter a0 M (fun b663 M662 => Q (if b663 = true then (a0 - 96) else (a0 - 21)) M662)
set_option maxHeartbeats 4000000 in
theorem t_Mo_rank {X : Cx} (hX : Cok X cX12_rank RX12 1 ((some .int)) 2 0 0) {Q : Int32 → Mem → Prop} (hq : RI X 0 0 LY Q) {M : Mem} {a0 : Int32} (h : w_Mo_rank a0 M Q) : Wat X 0 0 LY 0 [some (vi a0)] [] M := by
  refine s_iload_n hX dX12_rank_0 rfl ?_
  refine s_csi (as := [vi a0]) (rest := []) hX (c_Mo_isLetter h) ms_Mo_isLetter wd_ml_X12_153 dX12_rank_1 rfl (Nat.le_of_ble_eq_true rfl) rfl (by decide) ⟨Nat.zero_le _, Nat.zero_le _⟩ (fun b663_ M662 h => ?_)
  obtain ⟨b663, rfl, h⟩ := h
  have hJ : Wat X 0 0 LY 18 [some (vi a0)] [vi (if b663 = true then (a0 - 96) else (a0 - 21))] M662 := by
    exact s_iret hX hq rfl dX12_rank_18 h
  refine s_if_eq (tgt := 14) hX dX12_rank_4 (by decide) (fun c => ?_) (fun c => ?_)
  · rw [if_neg (by simp [b2i_0 c])] at hJ
    refine s_iload_n hX dX12_rank_14 rfl ?_
    refine s_bipush (v := 21) hX dX12_rank_15 rfl ?_
    refine s_isub hX dX12_rank_17 ?_
    exact hJ
  · rw [if_pos (by simp [b2i_1 c])] at hJ
    refine s_iload_n hX dX12_rank_7 rfl ?_
    refine s_bipush (v := 96) hX dX12_rank_8 rfl ?_
    refine s_isub hX dX12_rank_10 ?_
    refine s_goto (tgt := 18) hX dX12_rank_11 (by decide) ?_
    exact hJ
theorem c_Mo_rank {a0 : Int32} {M : Mem} {Q : Int32 → Mem → Prop} (h : w_Mo_rank a0 M Q) : CI yX12_rank cX12_rank 1 ((some .int)) 2 0 0 LY LY [vi a0] M Q := mk_i rfl wd_co_X12_rank rfl rfl (Nat.le_of_ble_eq_true rfl) (fun X hX hq => t_Mo_rank hX hq h)
theorem ms_Mo_rank : MS yX12_rank cX12_rank 1 ((some .int)) 1 := ⟨wd_co_X12_rank, wd_sm_X12_rank, wd_in_X12, by decide +kernel, by decide⟩
def w_Mo_cutAll_L159 (l1 : Int32) (l4 : Int32) (K : Int32 → Int64 → Mem → Prop) (Q : Mem → Prop) : Nat → Int32 → Int64 → Mem → Prop
  | 0, _, _, _ => False
  | n + 1, l2, l5, M => (((M.1 c_mo Mo_size) ≤ l2 → K l2 l5 M) ∧ (¬ (M.1 c_mo Mo_size) ≤ l2 → (vp_in l2 1000 ∧ w_Mo_isDigit (M.1 c_mo_tape (Int32.toNatClampNeg l2)) M (fun b654 M653 => ((b654 = false → K l2 l5 M653) ∧ (b654 = true → ((4 ≤ (l2 - l4) → w_Mo_cutAll_L159 l1 l4 K Q n (l2 + 1) l5 M653) ∧ (¬ 4 ≤ (l2 - l4) → (vp_in l2 1000 ∧ ∀ x655 : Int64, x655 = (((10 * l5) + (Int32.toInt64 (M653.1 c_mo_tape (Int32.toNatClampNeg l2)))) - 48) → w_Mo_cutAll_L159 l1 l4 K Q n (l2 + 1) x655 M653)))))))))
set_option maxHeartbeats 4000000 in
theorem t_Mo_cutAll_L159 {X : Cx} (hX : Cok X cX12_cutAll RX12 7 none 3 0 0) {Q : Mem → Prop} (hq : RV X 0 0 LY Q) {l1 : Int32} {l4 : Int32} {K : Int32 → Int64 → Mem → Prop} (hK : ∀ (l2 : Int32) (l5 : Int64) (M : Mem), K l2 l5 M → Wat X 0 0 LY 218 [some (vr c_mo), some (vi l1), some (vi l2), none, some (vi l4), some (vl l5), none] [] M) : ∀ (n : Nat) (l2 : Int32) (l5 : Int64) (M : Mem), w_Mo_cutAll_L159 l1 l4 K Q n l2 l5 M → Wat X 0 0 LY 159 [some (vr c_mo), some (vi l1), some (vi l2), none, some (vi l4), some (vl l5), none] [] M := by
  intro n
  induction n with
  | zero => intro _ _ _ h; exact h.elim
  | succ n ih =>
    intro l2 l5 M h
    refine s_iload_n hX dX12_cutAll_159 rfl ?_
    refine s_aload_n hX dX12_cutAll_160 rfl ?_
    refine s_getiv (v := (M.1 c_mo Mo_size)) hX fi_X12_157 ly_c_mo rfl dX12_cutAll_161 rfl ?_
    refine s_icmp_ge (tgt := 218) hX dX12_cutAll_164 (by decide) (fun c => ?_) (fun c => ?_)
    · replace h := h.1 c
      exact hK _ _ _ h
    · replace h := h.2 c
      refine s_aload_n hX dX12_cutAll_167 rfl ?_
      refine s_getr hX fi_X12_14 ly_c_mo rfl dX12_cutAll_168 ?_
      refine s_iload_n hX dX12_cutAll_171 rfl ?_
      have hi := h.1
      replace h := h.2
      refine s_ialdv (v := (M.1 c_mo_tape (Int32.toNatClampNeg l2))) hX ly_c_mo_tape hi dX12_cutAll_172 rfl ?_
      refine s_csi (as := [vi (M.1 c_mo_tape (Int32.toNatClampNeg l2))]) (rest := []) hX (c_Mo_isDigit h) ms_Mo_isDigit wd_ml_X12_166 dX12_cutAll_173 rfl (Nat.le_of_ble_eq_true rfl) rfl (by decide) ⟨Nat.zero_le _, Nat.zero_le _⟩ (fun b654_ M653 h => ?_)
      obtain ⟨b654, rfl, h⟩ := h
      refine s_if_eq (tgt := 218) hX dX12_cutAll_176 (by decide) (fun c => ?_) (fun c => ?_)
      · replace h := h.1 (b2i_0 c)
        exact hK _ _ _ h
      · replace h := h.2 (b2i_1 c)
        refine s_iload_n hX dX12_cutAll_179 rfl ?_
        refine s_iload hX dX12_cutAll_180 rfl ?_
        refine s_isub hX dX12_cutAll_182 ?_
        refine s_iconst (v := 4) hX dX12_cutAll_183 rfl ?_
        refine s_icmp_ge (tgt := 208) hX dX12_cutAll_184 (by decide) (fun c => ?_) (fun c => ?_)
        · replace h := h.1 c
          refine s_lload hX dX12_cutAll_208 rfl ?_
          refine s_lstore (lv' := [some (vr c_mo), some (vi l1), some (vi l2), none, some (vi l4), some (vl l5), none]) hX dX12_cutAll_210 rfl rfl (Nat.le_of_ble_eq_true rfl) ?_
          refine s_iinc (v := (l2 + 1)) (lv' := [some (vr c_mo), some (vi l1), some (vi (l2 + 1)), none, some (vi l4), some (vl l5), none]) hX dX12_cutAll_212 rfl rfl rfl rfl ?_
          refine s_goto (tgt := 159) hX dX12_cutAll_215 (by decide) ?_
          exact ih _ _ _ h
        · replace h := h.2 c
          refine s_ldc2 hX wd_cj_X12_169 dX12_cutAll_187 ?_
          refine s_lload hX dX12_cutAll_190 rfl ?_
          refine s_lmul hX dX12_cutAll_192 ?_
          refine s_aload_n hX dX12_cutAll_193 rfl ?_
          refine s_getr hX fi_X12_14 ly_c_mo rfl dX12_cutAll_194 ?_
          refine s_iload_n hX dX12_cutAll_197 rfl ?_
          have hi := h.1
          replace h := h.2
          refine s_ialdv (v := (M653.1 c_mo_tape (Int32.toNatClampNeg l2))) hX ly_c_mo_tape hi dX12_cutAll_198 rfl ?_
          refine s_i2l hX dX12_cutAll_199 ?_
          refine s_ladd hX dX12_cutAll_200 ?_
          refine s_ldc2 hX wd_cj_X12_171 dX12_cutAll_201 ?_
          refine s_lsub hX dX12_cutAll_204 ?_
          refine s_goto (tgt := 210) hX dX12_cutAll_205 (by decide) ?_
          refine s_nml (fun x655 ex655 => ?_)
          replace h := h x655 ex655
          refine s_lstore (lv' := [some (vr c_mo), some (vi l1), some (vi l2), none, some (vi l4), some (vl x655), none]) hX dX12_cutAll_210 rfl rfl (Nat.le_of_ble_eq_true rfl) ?_
          refine s_iinc (v := (l2 + 1)) (lv' := [some (vr c_mo), some (vi l1), some (vi (l2 + 1)), none, some (vi l4), some (vl x655), none]) hX dX12_cutAll_212 rfl rfl rfl rfl ?_
          refine s_goto (tgt := 159) hX dX12_cutAll_215 (by decide) ?_
          exact ih _ _ _ h
def w_Mo_cutAll_j218 (R : Int32 → Int32 → Mem → Prop) (K : Int32 → Mem → Prop) (l1 : Int32) (l2 : Int32) (l4 : Int32) (l5 : Int64) (M : Mem) (Q : Mem → Prop) : Prop :=
  (vp_in l1 1002 ∧ (vp_in l1 1002 ∧ R (l1 + 1) l2 (sl (si M c_mo_sort (Int32.toNatClampNeg l1) (if (l2 - l4) ≤ 4 then (2 : Int32) else 4)) c_mo_value (Int32.toNatClampNeg l1) l5)))
set_option maxHeartbeats 4000000 in
theorem t_Mo_cutAll_j218 {X : Cx} (hX : Cok X cX12_cutAll RX12 7 none 3 0 0) {Q : Mem → Prop} (hq : RV X 0 0 LY Q) {R : Int32 → Int32 → Mem → Prop} {K : Int32 → Mem → Prop} (hR : ∀ (l1 : Int32) (l2 : Int32) (M : Mem), R l1 l2 M → Wat X 0 0 LY 17 [some (vr c_mo), some (vi l1), some (vi l2), none, none, none, none] [] M) (hK : ∀ (l1 : Int32) (M : Mem), K l1 M → Wat X 0 0 LY 279 [some (vr c_mo), some (vi l1), none, none, none, none, none] [] M) {l1 : Int32} {l2 : Int32} {l4 : Int32} {l5 : Int64} {M : Mem} (h : w_Mo_cutAll_j218 R K l1 l2 l4 l5 M Q) : Wat X 0 0 LY 218 [some (vr c_mo), some (vi l1), some (vi l2), none, some (vi l4), some (vl l5), none] [] M := by
  refine s_aload_n hX dX12_cutAll_218 rfl ?_
  refine s_getr hX fi_X12_24 ly_c_mo rfl dX12_cutAll_219 ?_
  refine s_iload_n hX dX12_cutAll_222 rfl ?_
  refine s_iload_n hX dX12_cutAll_223 rfl ?_
  refine s_iload hX dX12_cutAll_224 rfl ?_
  refine s_isub hX dX12_cutAll_226 ?_
  refine s_iconst (v := 4) hX dX12_cutAll_227 rfl ?_
  have hJ : Wat X 0 0 LY 236 [some (vr c_mo), some (vi l1), some (vi l2), none, some (vi l4), some (vl l5), none] [vi (if (l2 - l4) ≤ 4 then (2 : Int32) else 4), vi l1, vr c_mo_sort] M := by
    have hi := h.1
    replace h := h.2
    refine s_iast hX ly_c_mo_sort hi dX12_cutAll_236 ?_
    refine s_goto (tgt := 265) hX dX12_cutAll_237 (by decide) ?_
    refine s_aload_n hX dX12_cutAll_265 rfl ?_
    refine s_getr hX fi_X12_30 ly_c_mo rfl dX12_cutAll_266 ?_
    refine s_iload_n hX dX12_cutAll_269 rfl ?_
    refine s_lload hX dX12_cutAll_270 rfl ?_
    have hi := h.1
    replace h := h.2
    refine s_last hX ly_c_mo_value hi dX12_cutAll_272 ?_
    refine s_iinc (v := (l1 + 1)) (lv' := [some (vr c_mo), some (vi (l1 + 1)), some (vi l2), none, some (vi l4), some (vl l5), none]) hX dX12_cutAll_273 rfl rfl rfl rfl ?_
    refine s_goto (tgt := 17) hX dX12_cutAll_276 (by decide) ?_
    refine s_mask [true, true, true, true, false, false, true] (lv' := [some (vr c_mo), some (vi (l1 + 1)), some (vi l2), none, none, none, none]) rfl rfl ?_
    exact hR _ _ _ h
  refine s_icmp_le (tgt := 235) hX dX12_cutAll_228 (by decide) (fun c => ?_) (fun c => ?_)
  · rw [if_pos c] at hJ
    refine s_iconst (v := 2) hX dX12_cutAll_235 rfl ?_
    exact hJ
  · rw [if_neg c] at hJ
    refine s_iconst (v := 4) hX dX12_cutAll_231 rfl ?_
    refine s_goto (tgt := 236) hX dX12_cutAll_232 (by decide) ?_
    exact hJ
def w_Mo_cutAll_L70 (l1 : Int32) (l4 : Int32) (K : Int32 → Int64 → Mem → Prop) (Q : Mem → Prop) : Nat → Int32 → Int64 → Mem → Prop
  | 0, _, _, _ => False
  | n + 1, l2, l5, M => (((M.1 c_mo Mo_size) ≤ l2 → K l2 l5 M) ∧ (¬ (M.1 c_mo Mo_size) ≤ l2 → (vp_in l2 1000 ∧ w_Mo_isLetter (M.1 c_mo_tape (Int32.toNatClampNeg l2)) M (fun b661 M660 => ((b661 = false → K l2 l5 M660) ∧ (b661 = true → ((8 ≤ (l2 - l4) → w_Mo_cutAll_L70 l1 l4 K Q n (l2 + 1) l5 M660) ∧ (¬ 8 ≤ (l2 - l4) → (vp_in l2 1000 ∧ w_Mo_rank (M660.1 c_mo_tape (Int32.toNatClampNeg l2)) M660 (fun r665 M664 => ∀ x666 : Int64, x666 = ((37 * l5) + (Int32.toInt64 r665)) → w_Mo_cutAll_L70 l1 l4 K Q n (l2 + 1) x666 M664))))))))))
set_option maxHeartbeats 4000000 in
theorem t_Mo_cutAll_L70 {X : Cx} (hX : Cok X cX12_cutAll RX12 7 none 3 0 0) {Q : Mem → Prop} (hq : RV X 0 0 LY Q) {l1 : Int32} {l4 : Int32} {K : Int32 → Int64 → Mem → Prop} (hK : ∀ (l2 : Int32) (l5 : Int64) (M : Mem), K l2 l5 M → Wat X 0 0 LY 129 [some (vr c_mo), some (vi l1), some (vi l2), none, some (vi l4), some (vl l5), none] [] M) : ∀ (n : Nat) (l2 : Int32) (l5 : Int64) (M : Mem), w_Mo_cutAll_L70 l1 l4 K Q n l2 l5 M → Wat X 0 0 LY 70 [some (vr c_mo), some (vi l1), some (vi l2), none, some (vi l4), some (vl l5), none] [] M := by
  intro n
  induction n with
  | zero => intro _ _ _ h; exact h.elim
  | succ n ih =>
    intro l2 l5 M h
    refine s_iload_n hX dX12_cutAll_70 rfl ?_
    refine s_aload_n hX dX12_cutAll_71 rfl ?_
    refine s_getiv (v := (M.1 c_mo Mo_size)) hX fi_X12_157 ly_c_mo rfl dX12_cutAll_72 rfl ?_
    refine s_icmp_ge (tgt := 129) hX dX12_cutAll_75 (by decide) (fun c => ?_) (fun c => ?_)
    · replace h := h.1 c
      exact hK _ _ _ h
    · replace h := h.2 c
      refine s_aload_n hX dX12_cutAll_78 rfl ?_
      refine s_getr hX fi_X12_14 ly_c_mo rfl dX12_cutAll_79 ?_
      refine s_iload_n hX dX12_cutAll_82 rfl ?_
      have hi := h.1
      replace h := h.2
      refine s_ialdv (v := (M.1 c_mo_tape (Int32.toNatClampNeg l2))) hX ly_c_mo_tape hi dX12_cutAll_83 rfl ?_
      refine s_csi (as := [vi (M.1 c_mo_tape (Int32.toNatClampNeg l2))]) (rest := []) hX (c_Mo_isLetter h) ms_Mo_isLetter wd_ml_X12_153 dX12_cutAll_84 rfl (Nat.le_of_ble_eq_true rfl) rfl (by decide) ⟨Nat.zero_le _, Nat.zero_le _⟩ (fun b661_ M660 h => ?_)
      obtain ⟨b661, rfl, h⟩ := h
      refine s_if_eq (tgt := 129) hX dX12_cutAll_87 (by decide) (fun c => ?_) (fun c => ?_)
      · replace h := h.1 (b2i_0 c)
        exact hK _ _ _ h
      · replace h := h.2 (b2i_1 c)
        refine s_iload_n hX dX12_cutAll_90 rfl ?_
        refine s_iload hX dX12_cutAll_91 rfl ?_
        refine s_isub hX dX12_cutAll_93 ?_
        refine s_bipush (v := 8) hX dX12_cutAll_94 rfl ?_
        refine s_icmp_ge (tgt := 119) hX dX12_cutAll_96 (by decide) (fun c => ?_) (fun c => ?_)
        · replace h := h.1 c
          refine s_lload hX dX12_cutAll_119 rfl ?_
          refine s_lstore (lv' := [some (vr c_mo), some (vi l1), some (vi l2), none, some (vi l4), some (vl l5), none]) hX dX12_cutAll_121 rfl rfl (Nat.le_of_ble_eq_true rfl) ?_
          refine s_iinc (v := (l2 + 1)) (lv' := [some (vr c_mo), some (vi l1), some (vi (l2 + 1)), none, some (vi l4), some (vl l5), none]) hX dX12_cutAll_123 rfl rfl rfl rfl ?_
          refine s_goto (tgt := 70) hX dX12_cutAll_126 (by decide) ?_
          exact ih _ _ _ h
        · replace h := h.2 c
          refine s_ldc2 hX wd_cj_X12_160 dX12_cutAll_99 ?_
          refine s_lload hX dX12_cutAll_102 rfl ?_
          refine s_lmul hX dX12_cutAll_104 ?_
          refine s_aload_n hX dX12_cutAll_105 rfl ?_
          refine s_getr hX fi_X12_14 ly_c_mo rfl dX12_cutAll_106 ?_
          refine s_iload_n hX dX12_cutAll_109 rfl ?_
          have hi := h.1
          replace h := h.2
          refine s_ialdv (v := (M660.1 c_mo_tape (Int32.toNatClampNeg l2))) hX ly_c_mo_tape hi dX12_cutAll_110 rfl ?_
          refine s_csi (as := [vi (M660.1 c_mo_tape (Int32.toNatClampNeg l2))]) (rest := [vl (37 * l5)]) hX (c_Mo_rank h) ms_Mo_rank wd_ml_X12_162 dX12_cutAll_111 rfl (Nat.le_of_ble_eq_true rfl) rfl (by decide) ⟨Nat.zero_le _, Nat.zero_le _⟩ (fun r665 M664 h => ?_)
          refine s_i2l hX dX12_cutAll_114 ?_
          refine s_ladd hX dX12_cutAll_115 ?_
          refine s_goto (tgt := 121) hX dX12_cutAll_116 (by decide) ?_
          refine s_nml (fun x666 ex666 => ?_)
          replace h := h x666 ex666
          refine s_lstore (lv' := [some (vr c_mo), some (vi l1), some (vi l2), none, some (vi l4), some (vl x666), none]) hX dX12_cutAll_121 rfl rfl (Nat.le_of_ble_eq_true rfl) ?_
          refine s_iinc (v := (l2 + 1)) (lv' := [some (vr c_mo), some (vi l1), some (vi (l2 + 1)), none, some (vi l4), some (vl x666), none]) hX dX12_cutAll_123 rfl rfl rfl rfl ?_
          refine s_goto (tgt := 70) hX dX12_cutAll_126 (by decide) ?_
          exact ih _ _ _ h
def w_Mo_cutAll_j129 (R : Int32 → Int32 → Mem → Prop) (K : Int32 → Mem → Prop) (l1 : Int32) (l2 : Int32) (l4 : Int32) (l5 : Int64) (M : Mem) (Q : Mem → Prop) : Prop :=
  (vp_in l1 1002 ∧ (vp_in l1 1002 ∧ R (l1 + 1) l2 (sl (si M c_mo_sort (Int32.toNatClampNeg l1) (if (l2 - l4) ≤ 8 then (1 : Int32) else 4)) c_mo_value (Int32.toNatClampNeg l1) l5)))
set_option maxHeartbeats 4000000 in
theorem t_Mo_cutAll_j129 {X : Cx} (hX : Cok X cX12_cutAll RX12 7 none 3 0 0) {Q : Mem → Prop} (hq : RV X 0 0 LY Q) {R : Int32 → Int32 → Mem → Prop} {K : Int32 → Mem → Prop} (hR : ∀ (l1 : Int32) (l2 : Int32) (M : Mem), R l1 l2 M → Wat X 0 0 LY 17 [some (vr c_mo), some (vi l1), some (vi l2), none, none, none, none] [] M) (hK : ∀ (l1 : Int32) (M : Mem), K l1 M → Wat X 0 0 LY 279 [some (vr c_mo), some (vi l1), none, none, none, none, none] [] M) {l1 : Int32} {l2 : Int32} {l4 : Int32} {l5 : Int64} {M : Mem} (h : w_Mo_cutAll_j129 R K l1 l2 l4 l5 M Q) : Wat X 0 0 LY 129 [some (vr c_mo), some (vi l1), some (vi l2), none, some (vi l4), some (vl l5), none] [] M := by
  refine s_aload_n hX dX12_cutAll_129 rfl ?_
  refine s_getr hX fi_X12_24 ly_c_mo rfl dX12_cutAll_130 ?_
  refine s_iload_n hX dX12_cutAll_133 rfl ?_
  refine s_iload_n hX dX12_cutAll_134 rfl ?_
  refine s_iload hX dX12_cutAll_135 rfl ?_
  refine s_isub hX dX12_cutAll_137 ?_
  refine s_bipush (v := 8) hX dX12_cutAll_138 rfl ?_
  have hJ : Wat X 0 0 LY 148 [some (vr c_mo), some (vi l1), some (vi l2), none, some (vi l4), some (vl l5), none] [vi (if (l2 - l4) ≤ 8 then (1 : Int32) else 4), vi l1, vr c_mo_sort] M := by
    have hi := h.1
    replace h := h.2
    refine s_iast hX ly_c_mo_sort hi dX12_cutAll_148 ?_
    refine s_goto (tgt := 265) hX dX12_cutAll_149 (by decide) ?_
    refine s_aload_n hX dX12_cutAll_265 rfl ?_
    refine s_getr hX fi_X12_30 ly_c_mo rfl dX12_cutAll_266 ?_
    refine s_iload_n hX dX12_cutAll_269 rfl ?_
    refine s_lload hX dX12_cutAll_270 rfl ?_
    have hi := h.1
    replace h := h.2
    refine s_last hX ly_c_mo_value hi dX12_cutAll_272 ?_
    refine s_iinc (v := (l1 + 1)) (lv' := [some (vr c_mo), some (vi (l1 + 1)), some (vi l2), none, some (vi l4), some (vl l5), none]) hX dX12_cutAll_273 rfl rfl rfl rfl ?_
    refine s_goto (tgt := 17) hX dX12_cutAll_276 (by decide) ?_
    refine s_mask [true, true, true, true, false, false, true] (lv' := [some (vr c_mo), some (vi (l1 + 1)), some (vi l2), none, none, none, none]) rfl rfl ?_
    exact hR _ _ _ h
  refine s_icmp_le (tgt := 147) hX dX12_cutAll_140 (by decide) (fun c => ?_) (fun c => ?_)
  · rw [if_pos c] at hJ
    refine s_iconst (v := 1) hX dX12_cutAll_147 rfl ?_
    exact hJ
  · rw [if_neg c] at hJ
    refine s_iconst (v := 4) hX dX12_cutAll_143 rfl ?_
    refine s_goto (tgt := 148) hX dX12_cutAll_144 (by decide) ?_
    exact hJ
def w_Mo_cutAll_L17 (K : Int32 → Mem → Prop) (Q : Mem → Prop) : Nat → Int32 → Int32 → Mem → Prop
  | 0, _, _, _ => False
  | n + 1, l1, l2, M => (((M.1 c_mo Mo_size) ≤ l2 → K l1 M) ∧ (¬ (M.1 c_mo Mo_size) ≤ l2 → (vp_in l2 1000 ∧ ∀ x646 : Int32, x646 = (M.1 c_mo_tape (Int32.toNatClampNeg l2)) → ((x646 = 10 → w_Mo_cutAll_L17 K Q n l1 (l2 + 1) M) ∧ (¬ x646 = 10 → ((¬ x646 = 32 → (vp_in l1 1002 ∧ w_Mo_isLetter x646 (si M c_mo_place (Int32.toNatClampNeg l1) l2) (fun b648 M647 => ((b648 = false → w_Mo_isDigit x646 M647 (fun b650 M649 => ((b650 = false → w_Mo_isSignOf x646 M649 (fun b652 M651 => (vp_in l1 1002 ∧ (vp_in l1 1002 ∧ w_Mo_cutAll_L17 K Q n (l1 + 1) (l2 + 1) (sl (si M651 c_mo_sort (Int32.toNatClampNeg l1) (if b652 = true then (3 : Int32) else 4)) c_mo_value (Int32.toNatClampNeg l1) (Int32.toInt64 x646)))))) ∧ (b650 = true → (∃ n659, w_Mo_cutAll_L159 l1 l2 (fun y657 y658 M656 => w_Mo_cutAll_j218 (fun l1 l2 M => w_Mo_cutAll_L17 K Q n l1 l2 M) K l1 y657 l2 y658 M656 Q) Q n659 l2 0 M649))))) ∧ (b648 = true → (∃ n670, w_Mo_cutAll_L70 l1 l2 (fun y668 y669 M667 => w_Mo_cutAll_j129 (fun l1 l2 M => w_Mo_cutAll_L17 K Q n l1 l2 M) K l1 y668 l2 y669 M667 Q) Q n670 l2 0 M647)))))) ∧ (x646 = 32 → w_Mo_cutAll_L17 K Q n l1 (l2 + 1) M)))))))
set_option maxHeartbeats 4000000 in
theorem t_Mo_cutAll_L17 {X : Cx} (hX : Cok X cX12_cutAll RX12 7 none 3 0 0) {Q : Mem → Prop} (hq : RV X 0 0 LY Q) {K : Int32 → Mem → Prop} (hK : ∀ (l1 : Int32) (M : Mem), K l1 M → Wat X 0 0 LY 279 [some (vr c_mo), some (vi l1), none, none, none, none, none] [] M) : ∀ (n : Nat) (l1 : Int32) (l2 : Int32) (M : Mem), w_Mo_cutAll_L17 K Q n l1 l2 M → Wat X 0 0 LY 17 [some (vr c_mo), some (vi l1), some (vi l2), none, none, none, none] [] M := by
  intro n
  induction n with
  | zero => intro _ _ _ h; exact h.elim
  | succ n ih =>
    intro l1 l2 M h
    refine s_iload_n hX dX12_cutAll_17 rfl ?_
    refine s_aload_n hX dX12_cutAll_18 rfl ?_
    refine s_getiv (v := (M.1 c_mo Mo_size)) hX fi_X12_157 ly_c_mo rfl dX12_cutAll_19 rfl ?_
    refine s_icmp_ge (tgt := 279) hX dX12_cutAll_22 (by decide) (fun c => ?_) (fun c => ?_)
    · replace h := h.1 c
      refine s_mask [true, true, false, true, true, true, true] (lv' := [some (vr c_mo), some (vi l1), none, none, none, none, none]) rfl rfl ?_
      exact hK _ _ h
    · replace h := h.2 c
      refine s_aload_n hX dX12_cutAll_25 rfl ?_
      refine s_getr hX fi_X12_14 ly_c_mo rfl dX12_cutAll_26 ?_
      refine s_iload_n hX dX12_cutAll_29 rfl ?_
      have hi := h.1
      replace h := h.2
      refine s_ialdv (v := (M.1 c_mo_tape (Int32.toNatClampNeg l2))) hX ly_c_mo_tape hi dX12_cutAll_30 rfl ?_
      refine s_nmi (fun x646 ex646 => ?_)
      replace h := h x646 ex646
      refine s_istore_n (lv' := [some (vr c_mo), some (vi l1), some (vi l2), some (vi x646), none, none, none]) hX dX12_cutAll_31 rfl rfl (Nat.le_of_ble_eq_true rfl) ?_
      refine s_iload_n hX dX12_cutAll_32 rfl ?_
      refine s_bipush (v := 10) hX dX12_cutAll_33 rfl ?_
      refine s_icmp_eq (tgt := 44) hX dX12_cutAll_35 (by decide) (fun c => ?_) (fun c => ?_)
      · replace h := h.1 c
        refine s_iinc (v := (l2 + 1)) (lv' := [some (vr c_mo), some (vi l1), some (vi (l2 + 1)), some (vi x646), none, none, none]) hX dX12_cutAll_44 rfl rfl rfl rfl ?_
        refine s_goto (tgt := 17) hX dX12_cutAll_47 (by decide) ?_
        refine s_mask [true, true, true, false, true, true, true] (lv' := [some (vr c_mo), some (vi l1), some (vi (l2 + 1)), none, none, none, none]) rfl rfl ?_
        exact ih _ _ _ h
      · replace h := h.2 c
        refine s_iload_n hX dX12_cutAll_38 rfl ?_
        refine s_bipush (v := 32) hX dX12_cutAll_39 rfl ?_
        refine s_icmp_ne (tgt := 50) hX dX12_cutAll_41 (by decide) (fun c => ?_) (fun c => ?_)
        · replace h := h.1 c
          refine s_iload_n hX dX12_cutAll_50 rfl ?_
          refine s_istore (lv' := [some (vr c_mo), some (vi l1), some (vi l2), some (vi x646), some (vi l2), none, none]) hX dX12_cutAll_51 rfl rfl (Nat.le_of_ble_eq_true rfl) ?_
          refine s_lconst (v := 0) hX dX12_cutAll_53 rfl ?_
          refine s_lstore (lv' := [some (vr c_mo), some (vi l1), some (vi l2), some (vi x646), some (vi l2), some (vl 0), none]) hX dX12_cutAll_54 rfl rfl (Nat.le_of_ble_eq_true rfl) ?_
          refine s_aload_n hX dX12_cutAll_56 rfl ?_
          refine s_getr hX fi_X12_27 ly_c_mo rfl dX12_cutAll_57 ?_
          refine s_iload_n hX dX12_cutAll_60 rfl ?_
          refine s_iload_n hX dX12_cutAll_61 rfl ?_
          have hi := h.1
          replace h := h.2
          refine s_iast hX ly_c_mo_place hi dX12_cutAll_62 ?_
          refine s_iload_n hX dX12_cutAll_63 rfl ?_
          refine s_csi (as := [vi x646]) (rest := []) hX (c_Mo_isLetter h) ms_Mo_isLetter wd_ml_X12_153 dX12_cutAll_64 rfl (Nat.le_of_ble_eq_true rfl) rfl (by decide) ⟨Nat.zero_le _, Nat.zero_le _⟩ (fun b648_ M647 h => ?_)
          obtain ⟨b648, rfl, h⟩ := h
          refine s_if_eq (tgt := 152) hX dX12_cutAll_67 (by decide) (fun c => ?_) (fun c => ?_)
          · replace h := h.1 (b2i_0 c)
            refine s_iload_n hX dX12_cutAll_152 rfl ?_
            refine s_csi (as := [vi x646]) (rest := []) hX (c_Mo_isDigit h) ms_Mo_isDigit wd_ml_X12_166 dX12_cutAll_153 rfl (Nat.le_of_ble_eq_true rfl) rfl (by decide) ⟨Nat.zero_le _, Nat.zero_le _⟩ (fun b650_ M649 h => ?_)
            obtain ⟨b650, rfl, h⟩ := h
            refine s_if_eq (tgt := 240) hX dX12_cutAll_156 (by decide) (fun c => ?_) (fun c => ?_)
            · replace h := h.1 (b2i_0 c)
              refine s_iload_n hX dX12_cutAll_240 rfl ?_
              refine s_i2l hX dX12_cutAll_241 ?_
              refine s_lstore (lv' := [some (vr c_mo), some (vi l1), some (vi l2), some (vi x646), some (vi l2), some (vl (Int32.toInt64 x646)), none]) hX dX12_cutAll_242 rfl rfl (Nat.le_of_ble_eq_true rfl) ?_
              refine s_aload_n hX dX12_cutAll_244 rfl ?_
              refine s_getr hX fi_X12_24 ly_c_mo rfl dX12_cutAll_245 ?_
              refine s_iload_n hX dX12_cutAll_248 rfl ?_
              refine s_iload_n hX dX12_cutAll_249 rfl ?_
              refine s_csi (as := [vi x646]) (rest := [vi l1, vr c_mo_sort]) hX (c_Mo_isSignOf h) ms_Mo_isSignOf wd_ml_X12_173 dX12_cutAll_250 rfl (Nat.le_of_ble_eq_true rfl) rfl (by decide) ⟨Nat.zero_le _, Nat.zero_le _⟩ (fun b652_ M651 h => ?_)
              obtain ⟨b652, rfl, h⟩ := h
              have hJ : Wat X 0 0 LY 261 [some (vr c_mo), some (vi l1), some (vi l2), some (vi x646), some (vi l2), some (vl (Int32.toInt64 x646)), none] [vi (if b652 = true then (3 : Int32) else 4), vi l1, vr c_mo_sort] M651 := by
                have hi := h.1
                replace h := h.2
                refine s_iast hX ly_c_mo_sort hi dX12_cutAll_261 ?_
                refine s_iinc (v := (l2 + 1)) (lv' := [some (vr c_mo), some (vi l1), some (vi (l2 + 1)), some (vi x646), some (vi l2), some (vl (Int32.toInt64 x646)), none]) hX dX12_cutAll_262 rfl rfl rfl rfl ?_
                refine s_aload_n hX dX12_cutAll_265 rfl ?_
                refine s_getr hX fi_X12_30 ly_c_mo rfl dX12_cutAll_266 ?_
                refine s_iload_n hX dX12_cutAll_269 rfl ?_
                refine s_lload hX dX12_cutAll_270 rfl ?_
                have hi := h.1
                replace h := h.2
                refine s_last hX ly_c_mo_value hi dX12_cutAll_272 ?_
                refine s_iinc (v := (l1 + 1)) (lv' := [some (vr c_mo), some (vi (l1 + 1)), some (vi (l2 + 1)), some (vi x646), some (vi l2), some (vl (Int32.toInt64 x646)), none]) hX dX12_cutAll_273 rfl rfl rfl rfl ?_
                refine s_goto (tgt := 17) hX dX12_cutAll_276 (by decide) ?_
                refine s_mask [true, true, true, false, false, false, true] (lv' := [some (vr c_mo), some (vi (l1 + 1)), some (vi (l2 + 1)), none, none, none, none]) rfl rfl ?_
                exact ih _ _ _ h
              refine s_if_eq (tgt := 260) hX dX12_cutAll_253 (by decide) (fun c => ?_) (fun c => ?_)
              · rw [if_neg (by simp [b2i_0 c])] at hJ
                refine s_iconst (v := 4) hX dX12_cutAll_260 rfl ?_
                exact hJ
              · rw [if_pos (by simp [b2i_1 c])] at hJ
                refine s_iconst (v := 3) hX dX12_cutAll_256 rfl ?_
                refine s_goto (tgt := 261) hX dX12_cutAll_257 (by decide) ?_
                exact hJ
            · replace h := h.2 (b2i_1 c)
              refine s_mask [true, true, true, false, true, true, true] (lv' := [some (vr c_mo), some (vi l1), some (vi l2), none, some (vi l2), some (vl 0), none]) rfl rfl ?_
              obtain ⟨n659, h⟩ := h
              refine t_Mo_cutAll_L159 hX hq ?_ n659 _ _ _ h
              intro y657 y658 M656 h
              exact t_Mo_cutAll_j218 hX hq (fun _ _ _ h => ih _ _ _ h) hK h
          · replace h := h.2 (b2i_1 c)
            refine s_mask [true, true, true, false, true, true, true] (lv' := [some (vr c_mo), some (vi l1), some (vi l2), none, some (vi l2), some (vl 0), none]) rfl rfl ?_
            obtain ⟨n670, h⟩ := h
            refine t_Mo_cutAll_L70 hX hq ?_ n670 _ _ _ h
            intro y668 y669 M667 h
            exact t_Mo_cutAll_j129 hX hq (fun _ _ _ h => ih _ _ _ h) hK h
        · replace h := h.2 c
          refine s_iinc (v := (l2 + 1)) (lv' := [some (vr c_mo), some (vi l1), some (vi (l2 + 1)), some (vi x646), none, none, none]) hX dX12_cutAll_44 rfl rfl rfl rfl ?_
          refine s_goto (tgt := 17) hX dX12_cutAll_47 (by decide) ?_
          refine s_mask [true, true, true, false, true, true, true] (lv' := [some (vr c_mo), some (vi l1), some (vi (l2 + 1)), none, none, none, none]) rfl rfl ?_
          exact ih _ _ _ h
def w_Mo_cutAll (M : Mem) (Q : Mem → Prop) : Prop :=
  (∃ n673, w_Mo_cutAll_L17 (fun y672 M671 => (vp_in y672 1002 ∧ (vp_in y672 1002 ∧ Q (si (si (si (si M671 c_mo_sort (Int32.toNatClampNeg y672) 0) c_mo_place (Int32.toNatClampNeg y672) (M671.1 c_mo Mo_size)) c_mo Mo_at 0) c_mo Mo_fault 0)))) Q n673 0 0 (si (si M c_mo Mo_size (M.1 c_mo Mo_taped)) c_mo Mo_taped 0))
set_option maxHeartbeats 4000000 in
theorem t_Mo_cutAll {X : Cx} (hX : Cok X cX12_cutAll RX12 7 none 3 0 0) {Q : Mem → Prop} (hq : RV X 0 0 LY Q) {M : Mem} (h : w_Mo_cutAll M Q) : Wat X 0 0 LY 0 [some (vr c_mo), none, none, none, none, none, none] [] M := by
  refine s_aload_n hX dX12_cutAll_0 rfl ?_
  refine s_aload_n hX dX12_cutAll_1 rfl ?_
  refine s_getiv (v := (M.1 c_mo Mo_taped)) hX fi_X12_11 ly_c_mo rfl dX12_cutAll_2 rfl ?_
  refine s_puti hX fi_X12_157 fp_X12 rfl (by decide +kernel) ly_c_mo rfl dX12_cutAll_5 ?_
  refine s_aload_n hX dX12_cutAll_8 rfl ?_
  refine s_iconst (v := 0) hX dX12_cutAll_9 rfl ?_
  refine s_puti hX fi_X12_11 fp_X12 rfl (by decide +kernel) ly_c_mo rfl dX12_cutAll_10 ?_
  refine s_iconst (v := 0) hX dX12_cutAll_13 rfl ?_
  refine s_istore_n (lv' := [some (vr c_mo), some (vi 0), none, none, none, none, none]) hX dX12_cutAll_14 rfl rfl (Nat.le_of_ble_eq_true rfl) ?_
  refine s_iconst (v := 0) hX dX12_cutAll_15 rfl ?_
  refine s_istore_n (lv' := [some (vr c_mo), some (vi 0), some (vi 0), none, none, none, none]) hX dX12_cutAll_16 rfl rfl (Nat.le_of_ble_eq_true rfl) ?_
  obtain ⟨n673, h⟩ := h
  refine t_Mo_cutAll_L17 hX hq ?_ n673 _ _ _ h
  intro y672 M671 h
  refine s_aload_n hX dX12_cutAll_279 rfl ?_
  refine s_getr hX fi_X12_24 ly_c_mo rfl dX12_cutAll_280 ?_
  refine s_iload_n hX dX12_cutAll_283 rfl ?_
  refine s_iconst (v := 0) hX dX12_cutAll_284 rfl ?_
  have hi := h.1
  replace h := h.2
  refine s_iast hX ly_c_mo_sort hi dX12_cutAll_285 ?_
  refine s_aload_n hX dX12_cutAll_286 rfl ?_
  refine s_getr hX fi_X12_27 ly_c_mo rfl dX12_cutAll_287 ?_
  refine s_iload_n hX dX12_cutAll_290 rfl ?_
  refine s_aload_n hX dX12_cutAll_291 rfl ?_
  refine s_getiv (v := (M671.1 c_mo Mo_size)) hX fi_X12_157 ly_c_mo rfl dX12_cutAll_292 rfl ?_
  have hi := h.1
  replace h := h.2
  refine s_iast hX ly_c_mo_place hi dX12_cutAll_295 ?_
  refine s_aload_n hX dX12_cutAll_296 rfl ?_
  refine s_iconst (v := 0) hX dX12_cutAll_297 rfl ?_
  refine s_puti hX fi_X12_176 fp_X12 rfl (by decide +kernel) ly_c_mo rfl dX12_cutAll_298 ?_
  refine s_aload_n hX dX12_cutAll_301 rfl ?_
  refine s_iconst (v := 0) hX dX12_cutAll_302 rfl ?_
  refine s_puti hX fi_X12_179 fp_X12 rfl (by decide +kernel) ly_c_mo rfl dX12_cutAll_303 ?_
  exact s_vret hX hq rfl dX12_cutAll_306 h
theorem c_Mo_cutAll {M : Mem} {Q : Mem → Prop} (h : w_Mo_cutAll M Q) : CV yX12_cutAll cX12_cutAll 7 none 3 0 0 LY LY [vr c_mo] M Q := mk_v rfl wd_co_X12_cutAll rfl rfl (Nat.le_of_ble_eq_true rfl) (fun X hX hq => t_Mo_cutAll hX hq h)
theorem mv_Mo_cutAll : MV yX12_cutAll cX12_cutAll 7 none RX12 0 := ⟨wd_co_X12_cutAll, wd_im_X12_cutAll, wd_se_X12_cutAll, wd_in_X12, by decide +kernel, by decide⟩
