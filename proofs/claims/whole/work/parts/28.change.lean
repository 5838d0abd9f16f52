/-! the class's changes -/
abbrev DC3 : List Nat := [c_land, c_land_kind, c_land_purse, c_land_place, c_land_bush, c_land_code, c_land_owe, c_land_fog, c_debts_reach, c_debts_rateKey, c_debts_rate]
theorem LC_DC3 : ∀ k ∈ LC, k ∈ DC3 := by decide
theorem DX.mkd {l : Land} {d d' : Deeds} {M M' : Mem} {L : List Nat} (h : DX l d M) (hF : Fr L M M') (hd : ∀ k ∈ DC3, k ∉ L) (hT : XT d' M') (hs : M'.1 c_deeds Deeds_shot = nI (dshot d')) (h32 : dshot d' < 32) : DX l d' M' :=
  ⟨h.1, h.2.1.fr hF (fun k hk => hd k (LC_DC3 k hk)), h.2.2.1.fr hF (hd _ (by decide)), h.2.2.2.1.fr hF (hd _ (by decide)) (hd _ (by decide)), hT, hs, h32⟩
abbrev MKs : List Nat := [c_xx, c_mark0, c_mark0_times, c_mark0_debt, c_mark1, c_mark1_times, c_mark1_debt, c_mark2, c_mark2_times, c_mark2_debt, c_mark3, c_mark3_times, c_mark3_debt]
theorem mk_in2 {k : Nat} (hk : k < 4) : 35 + 3 * k ∈ MKs ∧ 36 + 3 * k ∈ MKs ∧ 37 + 3 * k ∈ MKs := by
  have : ∀ j : Fin 4, 35 + 3 * j.val ∈ MKs ∧ 36 + 3 * j.val ∈ MKs ∧ 37 + 3 * j.val ∈ MKs := by decide
  exact this ⟨k, hk⟩
theorem XMk.fr {l : Land} {mk : Nat → Option Deeds} {M M' : Mem} {L : List Nat} (h : XMk l mk M) (hF : Fr L M M') (hd : ∀ k ∈ MKs, k ∉ L) : XMk l mk M' := by
  obtain ⟨laid, h2, h3, h4⟩ := h
  have e : ∀ k ∈ MKs, M'.1 k = M.1 k := fun k hk => hF.1 k (hd k hk)
  exact ⟨laid, by rw [e _ (by decide)]; exact h2, h3, fun k hk => ⟨(h4 k hk).1, fun d hd => ⟨((h4 k hk).2 d hd).1, ((h4 k hk).2 d hd).2.fr (e _ (mk_in2 hk).1) (e _ (mk_in2 hk).2.1) (e _ (mk_in2 hk).2.2)⟩⟩⟩
theorem XTp.fr {t : List Nat} {M M' : Mem} {L : List Nat} (h : XTp t M) (hF : Fr L M M') (hd : ∀ k ∈ [c_tape, c_tape_signs], k ∉ L) : XTp t M' := by
  unfold XTp; rw [hF.1 _ (hd _ (by decide)), hF.1 _ (hd _ (by decide))]; exact h
theorem XK.fr {M M' : Mem} {L : List Nat} (h : XK M) (hF : Fr L M M') : XK M' := by
  unfold XK; rw [hF.2]; exact h
theorem XHs.fr {d : Deeds} {hs : List Snap} {M M' : Mem} {L : List Nat} (h : XHs d hs M) (hF : Fr L M M') (hd : ∀ k ∈ [c_history, c_history_birds, c_history_hours, c_history_before], k ∉ L) : XHs d hs M' :=
  ⟨by rw [hF.1 _ (hd _ (by decide))]; exact h.1, h.2.1, h.2.2.fr (fun j _ => by rw [hF.1 _ (hd _ (by decide)), hF.1 _ (hd _ (by decide)), hF.1 _ (hd _ (by decide))]; exact ⟨rfl, rfl, rfl⟩)⟩
def keepH (hs : List Snap) : List Snap := if hs.length < 20 then hs else hs.dropLast
theorem keepH_len {hs : List Snap} (h : hs.length ≤ 20) : (keepH hs).length < 20 := by
  unfold keepH
  split
  · assumption
  · rw [List.length_dropLast]; omega
abbrev SHs : List Nat := [c_history, c_history_birds, c_history_hours, c_history_before]
theorem x_rem13 {d : Deeds} {hs : List Snap} {a b c : Int32} {M : Mem} {Q : Mem → Prop} (h1 : M.1 c_history Hist_size = nI hs.length) (h2 : hs.length < 20) (h3 : HX (snp d) hs M) (k : ∀ M', Fr SHs M M' → M'.1 c_history Hist_size = nI (hs.length + 1) → HX (snp d) hs M' → M'.1 c_history_birds hs.length = a → M'.1 c_history_hours hs.length = b → M'.1 c_history_before hs.length = c → Q M') : w_Hist_remember_j13 a b c M Q := by
  unfold w_Hist_remember_j13
  rw [h1, nI_clamp (by omega), nI_1]
  have v : vp_in (nI hs.length) 20 := vp_in_nI h2 (by decide)
  refine ⟨v, v, v, k _ ((((fr_si (by decide)).trans (fr_si (by decide))).trans (fr_si (by decide))).trans (fr_si (by decide))) ?_ (h3.fr (fun j hj => ⟨?_, ?_, ?_⟩)) ?_ ?_ ?_⟩
  · rw [si_same, up_s]
  · rw [si_ne _ _ _ (by decide), si_ne _ _ _ (by decide), si_ne _ _ _ (by decide), si_same, up_n (by omega)]
  · rw [si_ne _ _ _ (by decide), si_ne _ _ _ (by decide), si_same, up_n (by omega), si_ne _ _ _ (by decide)]
  · rw [si_ne _ _ _ (by decide), si_same, up_n (by omega), si_ne _ _ _ (by decide), si_ne _ _ _ (by decide)]
  · rw [si_ne _ _ _ (by decide), si_ne _ _ _ (by decide), si_ne _ _ _ (by decide), si_same, up_s]
  · rw [si_ne _ _ _ (by decide), si_ne _ _ _ (by decide), si_same, up_s]
  · rw [si_ne _ _ _ (by decide), si_same, up_s]
theorem x_remember {d : Deeds} {hs : List Snap} {a b c : Int32} {M : Mem} {Q : Mem → Prop} (h : XHs d hs M) (k : ∀ M', Fr SHs M M' → M'.1 c_history Hist_size = nI ((keepH hs).length + 1) → HX (snp d) (keepH hs) M' → M'.1 c_history_birds (keepH hs).length = a → M'.1 c_history_hours (keepH hs).length = b → M'.1 c_history_before (keepH hs).length = c → Q M') : w_Hist_remember a b c M Q := by
  obtain ⟨h1, h2, h3⟩ := h
  unfold w_Hist_remember
  rw [h1]
  refine br_lt (b := 20) (by omega) (by decide) (fun q => ?_) (fun q => ?_)
  · have e : keepH hs = hs := if_pos q
    rw [e] at k
    exact x_rem13 h1 q h3 k
  · have e : keepH hs = hs.dropLast := if_neg (by omega)
    have el : hs.dropLast.length = 19 := by rw [List.length_dropLast]; omega
    rw [e] at k
    unfold w_Hist_dropOldest
    rw [show Int32.toNatClampNeg 0 = 0 from rfl, show Int32.toNatClampNeg 1 = 1 from rfl, show Int32.toNatClampNeg 19 = 19 from rfl]
    generalize hM1 : sa (sa (sa (si M c_history Hist_size 19) c_history_birds (va_cpy (M.1 c_history_birds) (M.1 c_history_birds) 1 0 19)) c_history_hours (va_cpy (M.1 c_history_hours) (M.1 c_history_hours) 1 0 19)) c_history_before (va_cpy (M.1 c_history_before) (M.1 c_history_before) 1 0 19) = M1
    have hF1 : Fr SHs M M1 := by rw [← hM1]; exact (((fr_si (by decide)).trans (fr_sa (by decide))).trans (fr_sa (by decide))).trans (fr_sa (by decide))
    have c1 : ∀ (f : Nat → Int32) j, j < 19 → va_cpy f f 1 0 19 j = f (j + 1) := fun f j hj => by rw [cpy_in0 (Nat.zero_le j) (by omega), Nat.sub_zero, Nat.add_comm]
    refine x_rem13 (hs := hs.dropLast) ?_ (by omega) (h3.drop h2 (fun j hj => ⟨?_, ?_, ?_⟩)) (fun M2 hF2 => k M2 (hF1.trans hF2))
    · rw [el, ← hM1, sa_ne _ _ (by decide), sa_ne _ _ (by decide), sa_ne _ _ (by decide), si_same, up_s]; rfl
    · rw [← hM1, sa_ne _ _ (by decide), sa_ne _ _ (by decide), sa_same, c1 _ j hj]
    · rw [← hM1, sa_ne _ _ (by decide), sa_same, c1 _ j hj]
    · rw [← hM1, sa_same, c1 _ j hj]
/-! to call -/
def callOk (l : Land) (d : Deeds) (a h v : Int32) : Bool := inR (lnb l) a && (inR 24 h && (inR 10 v && (!decide (nI (dtimes d (anI a * 24 + anI h)) = v) && (decide (dtimes d (anI a * 24 + anI h) ≠ 0) || decide (fb_ct (fun i => decide (dtimes d i ≠ 0)) 120 < 30)))))
def callN (σ : St) (a h v : Int32) : St := if callOk (sL σ) (sD σ) a h v then (sT σ, sL σ, (un (dtimes (sD σ)) (anI a * 24 + anI h) (anI v), dshot (sD σ), ddebt (sD σ)), sM σ, snp (sD σ) :: keepH (sH σ)) else σ
theorem nz_un {t : Nat → Nat} {i v : Nat} (hi : i < 120) (h : nzT t) (hc : t i ≠ 0 ∨ fb_ct (fun i => decide (t i ≠ 0)) 120 < 30) : nzT (un t i v) := by
  unfold nzT at h ⊢
  have e : (fun k => decide (un t i v k ≠ 0)) = fun k => if k = i then decide (v ≠ 0) else decide (t k ≠ 0) := by
    funext k
    unfold un
    split <;> rfl
  have h1 := fb_ct_upd (fun k => decide (t k ≠ 0)) (decide (v ≠ 0)) hi
  rw [e]
  by_cases c : t i = 0
  · rw [if_neg (by simp [c])] at h1
    have : (if decide (v ≠ 0) = true then 1 else 0) ≤ 1 := by split <;> omega
    rcases hc with hc | hc
    · exact absurd c hc
    · omega
  · rw [if_pos (by simp [c])] at h1
    have : (if decide (v ≠ 0) = true then 1 else 0) ≤ 1 := by split <;> omega
    omega
theorem un_un {t : Nat → Nat} {i v : Nat} : un (un t i v) i (t i) = t := by
  funext k
  unfold un
  split
  · rename_i e; rw [e]
  · rfl
theorem x_call68 {σ : St} {a h v : Nat} {x : Int32} {M : Mem} {Q : Bool → Mem → Prop} (hX : XRep σ M) (ha : a < lnb (sL σ)) (hh : h < 24) (hv : v ≤ 9) (hx : x = nI (dtimes (sD σ) (a * 24 + h))) (hc : dtimes (sD σ) (a * 24 + h) ≠ 0 ∨ fb_ct (fun i => decide (dtimes (sD σ) i ≠ 0)) 120 < 30)
    (k : ∀ M', Fr2 SCL M M' → XRep (sT σ, sL σ, (un (dtimes (sD σ)) (a * 24 + h) v, dshot (sD σ), ddebt (sD σ)), sM σ, snp (sD σ) :: keepH (sH σ)) M' → Q true M') : w_Top_call_j68 (nI a) (nI h) (nI v) x M Q := by
  have hnb := hX.1.1.2.2.2.1
  obtain ⟨hD, hg, hB, hM, hH, hT, hK⟩ := hX
  have hkl := keepH_len hH.2.1
  unfold w_Top_call_j68
  refine x_remember hH (fun M1 hF1 g1 g2 g3 g4 g5 => ?_)
  have ea : nI a * 24 + nI h = nI (a * 24 + h) := by simp only [fa_lit, pk_mul, nI_add]
  rw [ea, nI_clamp (by omega)]
  refine ⟨vp_in_nI (by omega) (by decide), ?_⟩
  generalize hM2 : si M1 c_deeds_times (a * 24 + h) (nI v) = M2
  have hF2 : Fr [c_deeds_times] M1 M2 := by rw [← hM2]; exact fr_si (by decide)
  have hF : Fr [c_history, c_history_birds, c_history_hours, c_history_before, c_deeds_times] M M2 := (hF1.mono (by decide)).trans (hF2.mono (by decide))
  have ht : ∀ i, i < 120 → M2.1 c_deeds_times i = nI (un (dtimes (sD σ)) (a * 24 + h) v i) ∧ un (dtimes (sD σ)) (a * 24 + h) v i ≤ 9 := by
    intro i hi
    rw [← hM2, si_same]
    by_cases c : i = a * 24 + h
    · subst c; rw [up_s, un_s]; exact ⟨rfl, hv⟩
    · rw [up_n c, un_n c, hF1.1 _ (by decide)]; exact hD.2.2.2.2.1 i hi
  refine k M2 (hF.mono (by decide)).two ⟨hD.mkd hF (by decide) ht (by rw [hF.1 _ (by decide)]; exact hD.2.2.2.2.2.1) hD.2.2.2.2.2.2, ⟨⟨fun i hi => (ht i hi).2, hg.1.2.1, nz_un (by omega) hg.1.2.2 hc⟩, hg.2⟩, ?_, hM.fr hF (by decide), ⟨?_, ?_, ?_, hg.1, ?_⟩, hT.fr hF (by decide), hK.fr hF⟩
  · exact fun p hp => ⟨by rw [hF.1 _ (by decide)]; exact (hB p hp).1, (hB p hp).2⟩
  · rw [hF2.1 _ (by decide)]; exact g1
  · show (snp (sD σ) :: keepH (sH σ)).length ≤ 20
    rw [List.length_cons]; omega
  · refine ⟨a, by omega, by rw [hF2.1 _ (by decide)]; exact g3, Or.inr ⟨h, dtimes (sD σ) (a * 24 + h), hh, by rw [hF2.1 _ (by decide)]; exact g4, by rw [hF2.1 _ (by decide), ← hx]; exact g5, ?_, rfl⟩⟩
    exact un_un.symm
  · exact g2.fr (fun j _ => by rw [hF2.1 _ (by decide), hF2.1 _ (by decide), hF2.1 _ (by decide)]; exact ⟨rfl, rfl, rfl⟩)
theorem x_Tcall {σ : St} {a h v : Int32} {M : Mem} {Q : Bool → Mem → Prop} (hX : XRep σ M) (k : ∀ M', Fr2 SCL M M' → XRep (callN σ a h v) M' → Q (callOk (sL σ) (sD σ) a h v) M') : w_Top_call a h v M Q := by
  have hnb := hX.1.1.2.2.2.1
  have k0 : callOk (sL σ) (sD σ) a h v = false → Q false M := fun e => by
    have := k M Fr2.rfl (by unfold callN; rw [e]; exact hX)
    rw [e] at this; exact this
  unfold w_Top_call
  refine x_isBird hX.1.2.1 ⟨fun h1 => k0 (by unfold callOk; rw [h1]; rfl), fun h1 => x_isHour ⟨fun h2 => k0 (by unfold callOk; rw [h1, h2]; rfl), fun h2 => ⟨fun h3 => k0 (by unfold callOk; rw [h1, h2, inR, decide_eq_true h3]; rfl), fun h3 => ⟨fun h4 => ?_, fun h4 => k0 (by
    have : ¬ v < nI 10 := fun z => h4 (by
      obtain ⟨j, hj, rfl⟩ := nI_of h3
      have := (nI_ltI hj (by decide)).mp z
      exact (nI_leI (b := 9) hj (by decide)).mpr (by omega))
    unfold callOk
    rw [h1, h2, inR, decide_eq_false this, Bool.and_false]; rfl)⟩⟩⟩⟩
  obtain ⟨a, ha, rfl⟩ := inR_true (by omega) h1
  obtain ⟨h, hh, rfl⟩ := inR_true (by omega) h2
  obtain ⟨v, hv0, rfl⟩ := nI_of h3
  have hv : v ≤ 9 := (nI_leI (b := 9) hv0 (by decide)).mp h4
  have hin : inR 10 (nI v) = true := inR_nI (by decide) (by omega)
  have ea : nI a * 24 + nI h = nI (a * 24 + h) := by simp only [fa_lit, pk_mul, nI_add]
  have hTT := hX.1.2.2.2.2.1 (a * 24 + h) (by omega)
  unfold callN callOk at k
  unfold callOk at k0
  rw [h1, h2, hin] at k k0
  unfold anI at k k0
  rw [nI_clamp (by omega), nI_clamp (by omega)] at k k0
  rw [nI_clamp (n := v) (by omega)] at k
  rw [ea, nI_clamp (by omega), hTT.1]
  refine ⟨vp_in_nI (by omega) (by decide), fun x ex => ?_⟩
  subst ex
  refine ⟨fun e => k0 ?_, fun e => ?_⟩
  · rw [decide_eq_true e]; rfl
  · rw [decide_eq_false e] at k k0
    refine br_ne (b := 0) (by omega) (by decide) (fun e0 => ?_) (fun e0 => ?_)
    · rw [decide_eq_true e0] at k
      exact x_call68 hX ha hh hv rfl (Or.inl e0) k
    · refine x_callCount hX.1.2.2.2.2.1 (br_lt (b := 30) ?_ (by decide) (fun e1 => ?_) (fun e1 => k0 ?_))
      · have := fb_ct_le (fun i => decide (dtimes (sD σ) i ≠ 0)) 120
        omega
      · rw [decide_eq_true e1, Bool.or_true] at k
        exact x_call68 hX ha hh hv rfl (Or.inr e1) k
      · rw [decide_eq_false (Nat.not_lt.mpr e1), e0]; rfl
