/-! the law's first steps: all is made -/
theorem TXl.go {X X' : Cx} {a b : Nat} (h : TXl X) (hE : XE a b X X') : TXl X' := by
  obtain ⟨p, l, e, R, s, m, args, below, meth, c, Q, D, cA, ad, A⟩ := X
  obtain ⟨ad', rfl, hA⟩ := hE
  exact h
theorem LQ.go {X X' : Cx} {a b : Nat} (h : LQ X) (hE : XE a b X X') : LQ X' := by
  obtain ⟨p, l, e, R, s, m, args, below, meth, c, Q, D, cA, ad, A⟩ := X
  obtain ⟨ad', rfl, hA⟩ := hE
  exact h
theorem SCR.go {X X' : Cx} {a b n : Nat} {f : Nat → Int32} (h : SCR X n f) (hE : XE a b X X') (hb : b ≤ 95) : SCR X' n f := by
  obtain ⟨p, l, e, R, s, m, args, below, meth, c, Q, D, cA, ad, A⟩ := X
  obtain ⟨ad', rfl, hA⟩ := hE
  have e1 : ad' 95 = ad 95 := hA 95 (Or.inr hb)
  obtain ⟨h1, h2, h3⟩ := h
  exact ⟨by rw [e1]; exact h1, by rw [e1]; exact h2, by rw [e1]; exact h3⟩
theorem mi_X11 : MI yX11_init cX11_init 2 0 := ⟨wd_co_X11_init, wd_im_X11_init, wd_in_X11, rfl, by decide +kernel, by decide⟩
theorem mi_X12 : MI yX12_init cX12_init 2 0 := ⟨wd_co_X12_init, wd_im_X12_init, wd_in_X12, rfl, by decide +kernel, by decide⟩
set_option maxRecDepth 20000 in
set_option maxHeartbeats 2000000 in
theorem g_pro {X : Cx} {n : Nat} {f : Nat → Int32} (hX : Cok X cL_law RL 7 (some .boolean) 1000 601024 7293034) (hT : TE X) (hT2 : TXl X) (hq : LQ X) (hS : SCR X n f) (hn : n ≤ 3584) (h : v_xx mz (fun M1 => Z0 69 M1 ∧ v_mo M1 (fun M2 => Z0 94 M2 ∧ Rel M2))) : Wat X 0 0 [] 0 [some (vr 95), none, none, none, none, none, none] [] mz := by
  have hz : Z0 0 mz := fun _ _ => ⟨rfl, rfl⟩
  refine s_nw (ci := 11) (fs := [.inr none, .inr none, .inr none, .inr none, .inr none, .inr none, .inl true, .inr none, .inr none, .inr none, .inr none, .inr none]) (L' := Ly_0) hX hz rfl fp_X11 fw_X11 wd_cl_L_8 wd_it_X11 wd_in_X11 rfl rfl rfl rfl rfl rfl (Nat.le_of_ble_eq_true rfl) (Nat.le_of_ble_eq_true rfl) dL_law_0 rfl (fun X1 hE => ?_)
  replace hS := hS.go hE (Nat.le_of_ble_eq_true rfl)
  replace hT2 := hT2.go hE
  replace hq := hq.go hE
  replace hT := hT.go hE (Nat.le_of_ble_eq_true rfl)
  replace hX := hX.go hE
  clear hE
  refine s_dup hX dL_law_3 rfl ?_
  refine s_cne (as := []) (rest := [vr c_xx]) hX hT (n_xx (hz.mono (Nat.le_of_ble_eq_true rfl)) h) mi_X11 wd_ml_L_26 dL_law_4 rfl (Nat.le_of_ble_eq_true rfl) rfl (by decide) ⟨(Nat.le_of_ble_eq_true rfl), (Nat.le_of_ble_eq_true rfl)⟩ rfl rfl (fun X1 M1 hE h => ?_)
  obtain ⟨hz, h⟩ := h
  replace hS := hS.go hE (Nat.le_of_ble_eq_true rfl)
  replace hT2 := hT2.go hE
  replace hq := hq.go hE
  replace hT := hT.go hE (Nat.le_of_ble_eq_true rfl)
  replace hX := hX.go hE
  clear hE
  refine s_astore_n (lv' := [some (vr 95), some (vr c_xx), none, none, none, none, none]) hX dL_law_7 rfl rfl (Nat.le_of_ble_eq_true rfl) ?_
  refine s_nw (ci := 12) (fs := [.inl true, .inr none, .inl true, .inl true, .inr none, .inr none, .inr none, .inl true, .inl true, .inr none, .inr none, .inr none, .inr none, .inr none, .inr none, .inl true, .inr none, .inr none, .inl true, .inl true, .inl true, .inl true, .inl true, .inr none, .inr none, .inr none, .inr none, .inl true, .inr none, .inr none, .inl true, .inl true, .inr none, .inl true, .inl true, .inr none, .inr none, .inr none, .inr none, .inl true, .inr none]) (L' := Lm_0) hX (hz.mono (Nat.le_of_ble_eq_true rfl)) rfl fp_X12 fw_X12 wd_cl_L_27 wd_it_X12 wd_in_X12 rfl rfl rfl rfl rfl rfl (Nat.le_of_ble_eq_true rfl) (Nat.le_of_ble_eq_true rfl) dL_law_8 rfl (fun X1 hE => ?_)
  replace hS := hS.go hE (Nat.le_of_ble_eq_true rfl)
  replace hT2 := hT2.go hE
  replace hq := hq.go hE
  replace hT := hT.go hE (Nat.le_of_ble_eq_true rfl)
  replace hX := hX.go hE
  clear hE
  refine s_dup hX dL_law_11 rfl ?_
  refine s_cne (as := []) (rest := [vr c_mo]) hX hT (n_mo (hz.mono (Nat.le_of_ble_eq_true rfl)) h) mi_X12 wd_ml_L_29 dL_law_12 rfl (Nat.le_of_ble_eq_true rfl) rfl (by decide) ⟨(Nat.le_of_ble_eq_true rfl), (Nat.le_of_ble_eq_true rfl)⟩ rfl rfl (fun X1 M2 hE h => ?_)
  obtain ⟨hz, h⟩ := h
  replace hS := hS.go hE (Nat.le_of_ble_eq_true rfl)
  replace hT2 := hT2.go hE
  replace hq := hq.go hE
  replace hT := hT.go hE (Nat.le_of_ble_eq_true rfl)
  replace hX := hX.go hE
  clear hE
  refine s_astore_n (lv' := [some (vr 95), some (vr c_xx), some (vr c_mo), none, none, none, none]) hX dL_law_15 rfl rfl (Nat.le_of_ble_eq_true rfl) ?_
  refine s_iconst (v := nI 1) hX dL_law_16 rfl ?_
  refine s_nwl (n := 1) (L' := LY) hX (hz.mono (Nat.le_of_ble_eq_true rfl)) rfl (by decide) rfl rfl rfl (Nat.le_of_ble_eq_true rfl) (Nat.le_of_ble_eq_true rfl) dL_law_17 rfl (fun X1 hE => ?_)
  replace hS := hS.go hE (Nat.le_of_ble_eq_true rfl)
  replace hT2 := hT2.go hE
  replace hq := hq.go hE
  replace hT := hT.go hE (Nat.le_of_ble_eq_true rfl)
  replace hX := hX.go hE
  clear hE
  refine s_astore_n (lv' := [some (vr 95), some (vr c_xx), some (vr c_mo), some (vr c_outc), none, none, none]) hX dL_law_19 rfl rfl (Nat.le_of_ble_eq_true rfl) ?_
  refine s_iconst (v := nI 0) hX dL_law_20 rfl ?_
  refine s_istore (lv' := lvL 0) hX dL_law_21 rfl rfl (Nat.le_of_ble_eq_true rfl) ?_
  exact g_law hX hq hT2 hS hn (Nat.le_of_ble_eq_true rfl) (Nat.le_of_ble_eq_true rfl) h
