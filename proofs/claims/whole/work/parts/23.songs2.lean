def XDb (ds : Deeds) (M : Mem) : Prop := ∀ p, p < 6 → M.1 c_deeds_debt p = ddebt ds p ∧ (ddebt ds p = -1 ∨ ∃ n, n ≤ 9999 ∧ ddebt ds p = nI n)
theorem XDb.fr {ds : Deeds} {M M' : Mem} {L : List Nat} (h : XDb ds M) (hF : Fr L M M') (hd : c_deeds_debt ∉ L) : XDb ds M' := by
  unfold XDb; rw [hF.1 _ hd]; exact h
def dlD (ds : Deeds) : Nat → Option Nat := fun p => if ddebt ds p = -1 then none else some (ddebt ds p).toNatClampNeg
theorem dlD_some {ds : Deeds} {M : Mem} (h : XDb ds M) {p d : Nat} (hp : p < 6) (hd : dlD ds p = some d) : d ≤ 9999 ∧ ddebt ds p = nI d := by
  unfold dlD at hd
  split at hd
  · cases hd
  · rename_i hn
    rcases (h p hp).2 with e | ⟨n, h1, h2⟩
    · exact absurd e hn
    · rw [h2, nI_clamp (by omega)] at hd
      cases hd
      exact ⟨h1, h2⟩
theorem TLD_of {l : Land} {ds : Deeds} {M : Mem} (hl : LOK l) (h : XDb ds M) : TLD l (dlD ds) M := fun p hp => by
  have hnp := hl.2.2.1
  rw [(h p (by omega)).1]
  unfold dlD
  split
  · rename_i e; exact ⟨fun _ => rfl, fun _ => e⟩
  · rename_i e; exact ⟨fun z => absurd z e, fun z => by cases z⟩
def prH (l : Land) (h : Nat) : Nat → Nat → Nat → Nat := fun b t p => pnc l (lplace l) b h p t
abbrev SFP : List Nat := [c_songs_price, c_debts_at, c_debts_reach, c_debts_nearest, c_debts_gap, c_land_fog_stack, c_debts_rateKey, c_debts_rate, c_land_owe_stack]
theorem x_findPrices {l : Land} {ds : Deeds} {h : Nat} {M : Mem} {Q : Mem → Prop} (hD : DX l ds M) (hh : h < 24) (k : ∀ M', Fr SFP M M' → DX l ds M' → PRp l (prH l h) M' → Q M') : w_Songs_findPrices (nI h) M Q := by
  have hl := hD.1
  have hnp := hl.2.2.1
  have hnb := hl.2.2.2.1
  unfold w_Songs_findPrices
  refine x_allAsTold hl hD.2.1 (fun M1 hF1 hA1 => ?_)
  have hD1 := hD.fr hF1 (by decide)
  refine x_lookRound hl hD1.2.1 hD1.2.2.1 hA1 hh (fun M2 hF2 hR2 hN2 => ?_)
  have hD2 := hD1.sg hF2 (by decide) hR2 (hD1.2.2.2.1.fr hF2 (by decide) (by decide))
  have hA2 := hA1.fr hF2 (by decide)
  -- what holds all the while; and the prices that stand
  have inv : ∀ (P : Nat → Nat → Nat → Prop) (M' : Mem), (Fr SFP M M' ∧ DX l ds M' ∧ XAt l (lplace l) M' ∧ XNear l (lplace l) h M' ∧ ∀ b t p, b < lnb l → t ≤ 5 → p < lnp l → P b t p → M'.1 c_songs_price ((b * 6 + t) * 6 + p) = nI (prH l h b t p)) ↔ (Fr SFP M M' ∧ DX l ds M' ∧ XAt l (lplace l) M' ∧ XNear l (lplace l) h M' ∧ ∀ b t p, b < lnb l → t ≤ 5 → p < lnp l → P b t p → M'.1 c_songs_price ((b * 6 + t) * 6 + p) = nI (prH l h b t p)) := fun _ _ => Iff.rfl
  refine for_loop (fun n b (M3 : Mem) => w_Songs_findPrices_L17 (nI h) (fun M515 => Q M515) Q n (nI b) M3) (fun b0 M3 => Fr SFP M M3 ∧ DX l ds M3 ∧ XAt l (lplace l) M3 ∧ XNear l (lplace l) h M3 ∧ ∀ b t p, b < lnb l → t ≤ 5 → p < lnp l → b < b0 → M3.1 c_songs_price ((b * 6 + t) * 6 + p) = nI (prH l h b t p)) (lnb l) 0 M2 (Nat.zero_le _) ⟨(hF1.mono (by decide)).trans (hF2.mono (by decide)), hD2, hA2, hN2, fun b t p _ _ _ hb => absurd hb (Nat.not_lt_zero b)⟩ ?_ ?_
  · intro n M3 ⟨hF3, hD3, hA3, hN3, hs⟩
    unfold w_Songs_findPrices_L17
    rw [hD3.2.1.2.2.1]
    exact br_le (by omega) (by omega) (fun _ => k M3 hF3 hD3 (fun b t p hb ht hp => ⟨hs b t p hb ht hp hb, pnc_le (by omega)⟩)) (fun q => absurd q (by omega))
  · intro n b0 M3 _ hb0 ⟨hF3, hD3, hA3, hN3, hs⟩ kk
    unfold w_Songs_findPrices_L17
    rw [hD3.2.1.2.2.1, nI_1]
    refine br_le (by omega) (by omega) (fun q => absurd q (by omega)) (fun _ => ?_)
    refine for_loop (fun n t (M4 : Mem) => w_Songs_findPrices_L30 (nI h) (nI b0) (fun M513 => w_Songs_findPrices_L17 (nI h) (fun M515 => Q M515) Q _ (nI (b0 + 1)) M513) Q n (nI t) M4) (fun t0 M4 => Fr SFP M M4 ∧ DX l ds M4 ∧ XAt l (lplace l) M4 ∧ XNear l (lplace l) h M4 ∧ ∀ b t p, b < lnb l → t ≤ 5 → p < lnp l → (b < b0 ∨ b = b0 ∧ t < t0) → M4.1 c_songs_price ((b * 6 + t) * 6 + p) = nI (prH l h b t p)) 6 0 M3 (Nat.zero_le _) ⟨hF3, hD3, hA3, hN3, fun b t p h1 h2 h3 h4 => hs b t p h1 h2 h3 (by omega)⟩ ?_ ?_
    · intro n4 M4 ⟨hF4, hD4, hA4, hN4, hs4⟩
      unfold w_Songs_findPrices_L30
      exact br_lt (a := 5) (b := 6) (by decide) (by decide) (fun _ => kk M4 ⟨hF4, hD4, hA4, hN4, fun b t p h1 h2 h3 h4 => hs4 b t p h1 h2 h3 (by omega)⟩) (fun q => absurd q (by omega))
    · intro n4 t0 M4 _ ht0 ⟨hF4, hD4, hA4, hN4, hs4⟩ kk4
      unfold w_Songs_findPrices_L30
      refine br_lt (a := 5) (by decide) (by omega) (fun q => absurd q (by omega)) (fun _ => ?_)
      rw [nI_1]
      refine for_loop (fun n p (M5 : Mem) => w_Songs_findPrices_L38 (nI h) (nI b0) (nI t0) (fun M511 => w_Songs_findPrices_L30 (nI h) (nI b0) (fun M513 => w_Songs_findPrices_L17 (nI h) (fun M515 => Q M515) Q _ (nI (b0 + 1)) M513) Q n4 (nI (t0 + 1)) M511) Q n (nI p) M5) (fun p0 M5 => Fr SFP M M5 ∧ DX l ds M5 ∧ XAt l (lplace l) M5 ∧ XNear l (lplace l) h M5 ∧ ∀ b t p, b < lnb l → t ≤ 5 → p < lnp l → (b < b0 ∨ b = b0 ∧ (t < t0 ∨ t = t0 ∧ p < p0)) → M5.1 c_songs_price ((b * 6 + t) * 6 + p) = nI (prH l h b t p)) (lnp l) 0 M4 (Nat.zero_le _) ⟨hF4, hD4, hA4, hN4, fun b t p h1 h2 h3 h4 => hs4 b t p h1 h2 h3 (by omega)⟩ ?_ ?_
      · intro n5 M5 ⟨hF5, hD5, hA5, hN5, hs5⟩
        unfold w_Songs_findPrices_L38
        rw [hD5.2.1.2.1]
        exact br_le (by omega) (by omega) (fun _ => kk4 M5 ⟨hF5, hD5, hA5, hN5, fun b t p h1 h2 h3 h4 => hs5 b t p h1 h2 h3 (by omega)⟩) (fun q => absurd q (by omega))
      · intro n5 p0 M5 _ hp0 ⟨hF5, hD5, hA5, hN5, hs5⟩ kk5
        unfold w_Songs_findPrices_L38
        rw [hD5.2.1.2.1]
        refine br_le (by omega) (by omega) (fun q => absurd q (by omega)) (fun _ => x_priceAt (x_pence hl hD5.2.1 hD5.2.2.2.1 hA5 hN5 hb0 hh hp0 (by omega) (fun M6 hF6 hK6 => ⟨vp_in_nI (by omega) (by decide), ?_⟩)))
        rw [nI_1, nI_clamp (by omega)]
        have hF7 : Fr [c_songs_price] M6 (si M6 c_songs_price ((b0 * 6 + t0) * 6 + p0) (nI (pnc l (lplace l) b0 h p0 t0))) := fr_si (by decide)
        have hD6 := hD5.sg hF6 (by decide) (hD5.2.2.1.fr hF6 (by decide)) hK6
        refine kk5 _ ⟨(hF5.trans (hF6.mono (by decide))).trans (hF7.mono (by decide)), hD6.fr hF7 (by decide), (hA5.fr hF6 (by decide)).fr hF7 (by decide), (hN5.fr hF6 (by decide) (by decide)).fr hF7 (by decide) (by decide), fun b t p h1 h2 h3 h4 => ?_⟩
        rw [si_same]
        by_cases e : (b * 6 + t) * 6 + p = (b0 * 6 + t0) * 6 + p0
        · have : b = b0 := by omega
          have : t = t0 := by omega
          have : p = p0 := by omega
          subst b; subst t; subst p
          exact up_s
        · rw [up_n e, hF6.1 _ (by decide)]
          refine hs5 b t p h1 h2 h3 ?_
          rcases h4 with h4 | ⟨hb, h4 | ⟨h4, h5⟩⟩
          · exact Or.inl h4
          · exact Or.inr ⟨hb, Or.inl h4⟩
          · refine Or.inr ⟨hb, Or.inr ⟨h4, ?_⟩⟩
            have : p ≠ p0 := by
              intro z
              exact e (by rw [hb, h4, z])
            omega
def vrD (l : Land) (ds : Deeds) (h : Nat) : List (List Nat) := vrw (prH l h) (mxS ds) (lnp l) (lnb l) 0 (dlD ds)
abbrev SFR : List Nat := [c_songs, c_songs_row, c_songs_left, c_songs_price, c_debts_at, c_debts_reach, c_debts_nearest, c_debts_gap, c_land_fog_stack, c_debts_rateKey, c_debts_rate, c_land_owe_stack]
theorem x_findRow {l : Land} {ds : Deeds} {h w : Nat} {M : Mem} {Q : Bool → Mem → Prop} (hD : DX l ds M) (hB : XDb ds M) (hh : h < 24) (hw : w < 2 ^ 32)
    (kT : ∀ M', Fr SFR M M' → DX l ds M' → w < (vrD l ds h).length → (∀ j, j < lnb l → M'.1 c_songs_row j = nI (((vrD l ds h).getD w []).getD j 0)) → Q true M')
    (kF : ∀ M', Fr SFR M M' → DX l ds M' → (vrD l ds h).length ≤ w → M'.1 c_songs Songs_found = nI (vrD l ds h).length → Q false M') : w_Songs_findRow (nI h) (nI w) M Q := by
  have hl := hD.1
  have hnp := hl.2.2.1
  have hnb := hl.2.2.2.1
  unfold w_Songs_findRow
  refine x_findPrices hD hh (fun M1 hF1 hD1 hP1 => ?_)
  rw [show Int32.toNatClampNeg 0 = 0 from rfl, show Int32.toNatClampNeg 6 = 6 from rfl]
  generalize hM2 : si (si (sa M1 c_songs_left (va_cpy (M1.1 c_deeds_debt) (M1.1 c_songs_left) 0 0 6)) c_songs Songs_found 0) c_songs Songs_wanted (nI w) = M2
  have hF2 : Fr [c_songs, c_songs_left] M1 M2 := by rw [← hM2]; exact ((fr_sa (by decide)).trans (fr_si (by decide))).trans (fr_si (by decide))
  have hD2 := hD1.fr hF2 (by decide)
  have hB1 := hB.fr hF1 (by decide)
  have hB2 := hB1.fr hF2 (by decide)
  have h6 : (6 : Nat) ^ lnb l ≤ 6 ^ 5 := Nat.pow_le_pow_right (by decide) hnb
  have hFz : Fr SFR M M2 := (hF1.mono (by decide)).trans (hF2.mono (by decide))
  refine ⟨64, Nat.le_refl _, x_singFrom (pr := prH l h) (w := w) hl hw (lnb l) 0 64 0 (dlD ds) M2 _ rfl (by omega) ⟨hD2.2.1, hP1.fr hF2 (by decide), ⟨hD2.2.2.2.2.2.1, hD2.2.2.2.2.2.2⟩, ?_⟩ (TLD_of hl hB2) (fun p d hp hd => (dlD_some hB2 (by omega) hd).1) (fun p d hp hd => ?_) ?_ (Nat.zero_le _) (by omega) (fun M3 hF3 hlt hrow _ => ?_) (fun M3 hF3 hle hS3 hfo _ _ => ?_)⟩
  · rw [← hM2, si_same, up_s]
  · rw [← hM2, si_ne _ _ _ (by decide), si_ne _ _ _ (by decide), sa_same, cpy_in0 (Nat.zero_le p) (by omega), Nat.sub_zero, Nat.zero_add, (hB1 p (by omega)).1, (dlD_some hB2 (by omega) hd).2]
    unfold dlN; rw [hd]; rfl
  · rw [← hM2, si_same, up_n (by decide), si_same, up_s]; rfl
  · rw [Nat.zero_add] at hlt
    refine kT M3 (hFz.trans (hF3.mono (by decide))) (hD2.fr hF3 (by decide)) hlt (fun j hj => ?_)
    have := hrow j hj
    rw [Nat.zero_add, Nat.sub_zero] at this
    exact this
  · rw [Nat.zero_add] at hle hfo
    exact kF M3 (hFz.trans (hF3.mono (by decide))) (hD2.fr hF3 (by decide)) hle hfo
theorem vrD_len {l : Land} {ds : Deeds} {h : Nat} (hl : LOK l) : (vrD l ds h).length ≤ 7776 := by
  have h1 := vrw_len (pr := prH l h) (mx := mxS ds) (np := lnp l) (fun b => by unfold mxS; split <;> omega) (lnb l) 0 (dlD ds)
  have h2 : (6 : Nat) ^ lnb l ≤ 6 ^ 5 := Nat.pow_le_pow_right (by decide) hl.2.2.2.1
  exact Nat.le_trans h1 h2
theorem x_countRows {l : Land} {ds : Deeds} {h : Nat} {M : Mem} {Q : Int32 → Mem → Prop} (hD : DX l ds M) (hB : XDb ds M) (hh : h < 24) (k : ∀ M', Fr SFR M M' → DX l ds M' → Q (nI (vrD l ds h).length) M') : w_Songs_countRows (nI h) M Q := by
  have h7 := vrD_len (ds := ds) (h := h) hD.1
  unfold w_Songs_countRows
  rw [show (-1 : Int32) = nI 4294967295 from by decide]
  refine x_findRow (w := 4294967295) hD hB hh (by decide) (fun M1 _ _ hlt _ => absurd hlt (by omega)) (fun M1 hF1 hD1 _ hfo => ?_)
  rw [hfo]
  exact k M1 hF1 hD1
