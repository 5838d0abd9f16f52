/-! String.length and String.charAt on the tape's text -/
def cAt (j : Nat) : Int32 := ((kb j &&& 255).toUInt32 % 65536).toInt32
theorem cAt_nar : ∀ j, j < 108 → narrow .char (.int (cAt j)) = .int (cAt j) := by decide +kernel
theorem c_coder : CT yJ0_coder_7d493 cJ0_coder_7d493 1 (some .byte) 1 [vr 96] 0 := mk_t (by decide +kernel) rfl rfl (Nat.le_of_ble_eq_true rfl) (fun X hX hT hq => by
  refine s_gcs hX hT dJ0_coder_7d493_0 ?_
  refine s_if_eq (tgt := 13) hX dJ0_coder_7d493_3 (by decide) (fun c => absurd c (by decide)) (fun _ => ?_)
  refine s_aload_n hX dJ0_coder_7d493_6 rfl ?_
  refine s_gco hX hT dJ0_coder_7d493_7 ?_
  refine s_goto (tgt := 14) hX dJ0_coder_7d493_10 (by decide) ?_
  exact s_bret hX hq rfl rfl dJ0_coder_7d493_14 rfl)
theorem c_isLatin1 : CT yJ0_isLatin1_aae02 cJ0_isLatin1_aae02 1 (some .boolean) 1 [vr 96] 1 := mk_t (by decide +kernel) rfl rfl (Nat.le_of_ble_eq_true rfl) (fun X hX hT hq => by
  refine s_gcs hX hT dJ0_isLatin1_aae02_0 ?_
  refine s_if_eq (tgt := 17) hX dJ0_isLatin1_aae02_3 (by decide) (fun c => absurd c (by decide)) (fun _ => ?_)
  refine s_aload_n hX dJ0_isLatin1_aae02_6 rfl ?_
  refine s_gco hX hT dJ0_isLatin1_aae02_7 ?_
  refine s_if_ne (tgt := 17) hX dJ0_isLatin1_aae02_10 (by decide) (fun c => absurd rfl c) (fun _ => ?_)
  refine s_iconst (v := 1) hX dJ0_isLatin1_aae02_13 rfl ?_
  refine s_goto (tgt := 18) hX dJ0_isLatin1_aae02_14 (by decide) ?_
  exact s_bret hX hq rfl rfl dJ0_isLatin1_aae02_18 rfl)
theorem c_ckI {j : Nat} (hj : j < 108) {r : Option Nat} : CT yJ3_checkIndex_8e157 cJ3_checkIndex_8e157 3 (some .int) 1 [vi (nI j), vi 108, vq r] (nI j) := mk_t (lv0 := [some (vi (nI j)), some (vi 108), some (vq r)]) (by decide +kernel) rfl rfl (by cases r <;> exact Nat.le_of_ble_eq_true rfl) (fun X hX hT hq => by
  refine s_iload_n hX dJ3_checkIndex_8e157_0 rfl ?_
  refine s_if_lt (tgt := 9) hX dJ3_checkIndex_8e157_1 (by decide) (fun c => absurd c (nI_pos (by omega))) (fun _ => ?_)
  refine s_iload_n hX dJ3_checkIndex_8e157_4 rfl ?_
  refine s_iload_n hX dJ3_checkIndex_8e157_5 rfl ?_
  refine s_icmp_lt (tgt := 16) hX dJ3_checkIndex_8e157_6 (by decide) (fun _ => ?_) (fun c => absurd (nI_lt (b := 108) hj (by decide)) c)
  refine s_iload_n hX dJ3_checkIndex_8e157_16 rfl ?_
  exact s_iret hX hq rfl dJ3_checkIndex_8e157_17 rfl)
theorem ms_ckI : MS yJ3_checkIndex_8e157 cJ3_checkIndex_8e157 3 (some .int) 3 := ⟨wd_co_J3_checkIndex_8e157, wd_sm_J3_checkIndex_8e157, wd_in_J3, by decide +kernel, by decide⟩
theorem c_ck0 {j : Nat} (hj : j < 108) : CTv yJ0_checkIndex_df160 cJ0_checkIndex_df160 2 2 [vi (nI j), vi 108] := mk_tv (by decide +kernel) rfl rfl (Nat.le_of_ble_eq_true rfl) (fun X hX hT hq => by
  refine s_iload_n hX dJ0_checkIndex_df160_0 rfl ?_
  refine s_iload_n hX dJ0_checkIndex_df160_1 rfl ?_
  refine s_gfm hX hT dJ0_checkIndex_df160_2 (fun r => ?_)
  refine s_cts (as := [vi (nI j), vi 108, vq r]) (rest := []) hX hT (c_ckI hj) ms_ckI wd_ml_J0_1059 dJ0_checkIndex_df160_5 rfl (Nat.le_of_ble_eq_true rfl) rfl (by decide) ⟨Nat.le_refl _, Nat.le_refl _⟩ ?_
  refine s_pop hX dJ0_checkIndex_df160_8 rfl ?_
  exact s_vret hX hq rfl dJ0_checkIndex_df160_9 trivial)
theorem ms_ck0 : MS yJ0_checkIndex_df160 cJ0_checkIndex_df160 2 none 2 := ⟨wd_co_J0_checkIndex_df160, wd_sm_J0_checkIndex_df160, wd_in_J0, by decide +kernel, by decide⟩
theorem c_ch1 {j : Nat} (hj : j < 108) : CT yJ1_charAt_3b067 cJ1_charAt_3b067 2 (some .char) 3 [vr 97, vi (nI j)] (cAt j) := mk_t (by decide +kernel) rfl rfl (Nat.le_of_ble_eq_true rfl) (fun X hX hT hq => by
  refine s_iload_n hX dJ1_charAt_3b067_0 rfl ?_
  refine s_aload_n hX dJ1_charAt_3b067_1 rfl ?_
  refine s_bln hX hT dJ1_charAt_3b067_2 ?_
  refine s_ctw (as := [vi (nI j), vi 108]) (rest := []) hX hT (c_ck0 hj) ms_ck0 wd_ml_J1_9 dJ1_charAt_3b067_3 rfl (Nat.le_of_ble_eq_true rfl) rfl (by decide) ⟨Nat.le_refl _, Nat.le_refl _⟩ ?_
  refine s_aload_n hX dJ1_charAt_3b067_6 rfl ?_
  refine s_iload_n hX dJ1_charAt_3b067_7 rfl ?_
  refine s_bld hX hT hj dJ1_charAt_3b067_8 ?_
  refine s_sipush (v := 255) hX dJ1_charAt_3b067_9 rfl ?_
  refine s_iand hX dJ1_charAt_3b067_12 ?_
  refine s_i2c hX dJ1_charAt_3b067_13 ?_
  exact s_bret (x := cAt j) hX hq rfl (cAt_nar j hj) dJ1_charAt_3b067_14 rfl)
theorem ms_ch1 : MS yJ1_charAt_3b067 cJ1_charAt_3b067 2 (some .char) 2 := ⟨wd_co_J1_charAt_3b067, wd_sm_J1_charAt_3b067, wd_in_J1, by decide +kernel, by decide⟩
theorem mv_coder : MV yJ0_coder_7d493 cJ0_coder_7d493 1 (some .byte) strN 0 := ⟨wd_co_J0_coder_7d493, wd_im_J0_coder_7d493, wd_se_J0_coder_7d493, wd_in_J0, by decide +kernel, by decide⟩
theorem mv_isLatin1 : MV yJ0_isLatin1_aae02 cJ0_isLatin1_aae02 1 (some .boolean) strN 0 := ⟨wd_co_J0_isLatin1_aae02, wd_im_J0_isLatin1_aae02, wd_se_J0_isLatin1_aae02, wd_in_J0, by decide +kernel, by decide⟩
theorem mv_len : MV yJ0_length_8abf5 cJ0_length_8abf5 1 (some .int) strN 0 := ⟨wd_co_J0_length_8abf5, wd_im_J0_length_8abf5, wd_se_J0_length_8abf5, wd_in_J0, by decide +kernel, by decide⟩
theorem mv_ch : MV yJ0_charAt_5068e cJ0_charAt_5068e 2 (some .char) strN 1 := ⟨wd_co_J0_charAt_5068e, wd_im_J0_charAt_5068e, wd_se_J0_charAt_5068e, wd_in_J0, by decide +kernel, by decide⟩
theorem c_len : CT yJ0_length_8abf5 cJ0_length_8abf5 1 (some .int) 2 [vr 96] 108 := mk_t (by decide +kernel) rfl rfl (Nat.le_of_ble_eq_true rfl) (fun X hX hT hq => by
  refine s_aload_n hX dJ0_length_8abf5_0 rfl ?_
  refine s_gva hX hT dJ0_length_8abf5_1 ?_
  refine s_bln hX hT dJ0_length_8abf5_4 ?_
  refine s_aload_n hX dJ0_length_8abf5_5 rfl ?_
  refine s_ctv (as := []) (rest := [vi 108]) hX hT c_coder mv_coder wd_ml_J0_335 dJ0_length_8abf5_6 rfl (Nat.le_of_ble_eq_true rfl) rfl (by decide) ⟨Nat.le_refl _, Nat.le_refl _⟩ ?_
  refine s_ishr hX dJ0_length_8abf5_9 ?_
  exact s_iret hX hq rfl dJ0_length_8abf5_10 (by decide))
theorem c_ch {j : Nat} (hj : j < 108) : CT yJ0_charAt_5068e cJ0_charAt_5068e 2 (some .char) 4 [vr 96, vi (nI j)] (cAt j) := mk_t (by decide +kernel) rfl rfl (Nat.le_of_ble_eq_true rfl) (fun X hX hT hq => by
  refine s_aload_n hX dJ0_charAt_5068e_0 rfl ?_
  refine s_ctv (as := []) (rest := []) hX hT c_isLatin1 mv_isLatin1 wd_ml_J0_492 dJ0_charAt_5068e_1 rfl (Nat.le_of_ble_eq_true rfl) rfl (by decide) ⟨Nat.le_refl _, Nat.le_refl _⟩ ?_
  refine s_if_eq (tgt := 16) hX dJ0_charAt_5068e_4 (by decide) (fun c => absurd c (by decide)) (fun _ => ?_)
  refine s_aload_n hX dJ0_charAt_5068e_7 rfl ?_
  refine s_gva hX hT dJ0_charAt_5068e_8 ?_
  refine s_iload_n hX dJ0_charAt_5068e_11 rfl ?_
  refine s_cts (as := [vr 97, vi (nI j)]) (rest := []) hX hT (c_ch1 hj) ms_ch1 wd_ml_J0_495 dJ0_charAt_5068e_12 rfl (Nat.le_of_ble_eq_true rfl) rfl (by decide) ⟨Nat.le_refl _, Nat.le_refl _⟩ ?_
  exact s_bret hX hq rfl (cAt_nar j hj) dJ0_charAt_5068e_15 rfl)
