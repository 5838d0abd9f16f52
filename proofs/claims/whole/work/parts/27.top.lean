/-! the class's questions, from the whole state -/
theorem x_timesOfDay {ds : Deeds} {b : Nat} {M : Mem} {Q : Int32 → Mem → Prop} (hT : XT ds M) (hb : b < 5) (k : Q (nI (fb_sm (fun h => dtimes ds (b * 24 + h)) 24)) M) : w_Deeds_timesOfDay (nI b) M Q := by
  unfold w_Deeds_timesOfDay
  refine for_loop (fun n i (M1 : Mem) => w_Deeds_timesOfDay_L4 (nI b) (fun y310 M309 => Q y310 M309) Q n (nI (fb_sm (fun h => dtimes ds (b * 24 + h)) i)) (nI i) M1) (fun i M1 => M1 = M) 24 0 M (Nat.zero_le _) rfl ?_ ?_
  · intro n M1 e
    subst e
    exact br_le (a := 24) (b := 24) (by decide) (by decide) (fun _ => k) (fun q => absurd q (by omega))
  · intro n i M1 _ hi e kk
    subst e
    have kk := kk M1 rfl
    rw [fb_sm_succ] at kk
    have ea : nI b * 24 + nI i = nI (b * 24 + i) := by simp only [fa_lit, pk_mul, nI_add]
    refine br_le (a := 24) (by decide) (by omega) (fun q => absurd q (by omega)) (fun _ => ?_)
    rw [ea, nI_clamp (by omega), (hT (b * 24 + i) (by omega)).1, nI_1]
    refine ⟨vp_in_nI (by omega) (by decide), fun x ex => ?_⟩
    rw [nI_add] at ex
    subst ex
    exact kk
theorem x_callCount {ds : Deeds} {M : Mem} {Q : Int32 → Mem → Prop} (hT : XT ds M) (k : Q (nI (fb_ct (fun i => decide (dtimes ds i ≠ 0)) 120)) M) : w_Deeds_callCount M Q := by
  unfold w_Deeds_callCount
  refine for_loop (fun n i (M1 : Mem) => w_Deeds_callCount_L4 (fun y M2 => Q y M2) Q n (nI (fb_ct (fun i => decide (dtimes ds i ≠ 0)) i)) (nI i) M1) (fun i M1 => M1 = M) 120 0 M (Nat.zero_le _) rfl ?_ ?_
  · intro n M1 e
    subst e
    exact br_le (a := 120) (b := 120) (by decide) (by decide) (fun _ => k) (fun q => absurd q (by omega))
  · intro n i M1 _ hi e kk
    subst e
    have kk := kk M1 rfl
    rw [fb_ct_succ] at kk
    obtain ⟨t1, t2⟩ := hT i hi
    refine br_le (a := 120) (by decide) (by omega) (fun q => absurd q (by omega)) (fun _ => ?_)
    rw [nI_clamp (by omega), t1, nI_1]
    refine ⟨vp_in_nI hi (by decide), fun x ex => ?_⟩
    subst ex
    by_cases c : dtimes ds i = 0
    · rw [if_neg (by simp [c])] at kk
      rw [c, if_pos (show nI 0 = 0 from rfl), Int32.add_zero]
      exact kk
    · have c' : ¬ nI (dtimes ds i) = (0 : Int32) := fun z => c (ni_inj (b := 0) (by omega) (by decide) z)
      rw [if_pos (by simp [c])] at kk
      rw [if_neg c', nI_1]
      exact kk
theorem x_debtCount {ds : Deeds} {M : Mem} {Q : Int32 → Mem → Prop} (hB : XDb ds M) (k : Q (nI (fb_ct (fun i => decide (ddebt ds i ≠ -1)) 6)) M) : w_Deeds_debtCount M Q := by
  unfold w_Deeds_debtCount
  refine for_loop (fun n i (M1 : Mem) => w_Deeds_debtCount_L4 (fun y M2 => Q y M2) Q n (nI (fb_ct (fun i => decide (ddebt ds i ≠ -1)) i)) (nI i) M1) (fun i M1 => M1 = M) 6 0 M (Nat.zero_le _) rfl ?_ ?_
  · intro n M1 e
    subst e
    exact br_le (a := 6) (b := 6) (by decide) (by decide) (fun _ => k) (fun q => absurd q (by omega))
  · intro n i M1 _ hi e kk
    subst e
    have kk := kk M1 rfl
    rw [fb_ct_succ] at kk
    refine br_le (a := 6) (by decide) (by omega) (fun q => absurd q (by omega)) (fun _ => ?_)
    rw [nI_clamp (by omega), (hB i hi).1, nI_1]
    refine ⟨vp_in_nI hi (by decide), fun x ex => ?_⟩
    subst ex
    by_cases c : ddebt ds i = -1
    · rw [if_neg (by simp [c])] at kk
      rw [if_pos c, Int32.add_zero]
      exact kk
    · rw [if_pos (by simp [c])] at kk
      rw [if_neg c, nI_1]
      exact kk
def birdR (l : Land) (d : Deeds) (a w : Int32) : Int32 := if inR (lnb l) a then (if w = 0 then nI (lbush l (anI a)) else if w = 1 then bitI (dshot d) (anI a) else if w = 2 then nI (fb_sm (fun h => dtimes d (anI a * 24 + h)) 24) else -1) else -1
theorem x_Tbird {σ : St} {a w : Int32} {M : Mem} {Q : Int32 → Mem → Prop} (hX : XRep σ M) (k : ∀ M', Fr2 SCL M M' → XRep σ M' → Q (birdR (sL σ) (sD σ) a w) M') : w_Top_bird a w M Q := by
  have hL := hX.1.2.1
  have hnb := hX.1.1.2.2.2.1
  have hsh := hX.1.2.2.2.2.2
  have k := k M Fr2.rfl hX
  unfold birdR at k
  unfold w_Top_bird
  refine x_isBird hL ⟨fun h => ?_, fun h => ?_⟩
  · obtain ⟨p, hp, rfl⟩ := inR_true (by omega) h
    rw [h, if_pos rfl] at k
    unfold anI at k
    rw [nI_clamp (by omega)] at k ⊢
    have v : vp_in (nI p) 5 := vp_in_nI (by omega) (by decide)
    refine ⟨fun e => ⟨v, ?_⟩, fun e => ?_, fun e => ?_, fun e1 e2 e3 => ?_⟩
    · rw [if_pos e] at k; rw [hL.2.2.2.2.2.2.2.1 p hp]; exact k
    · rw [if_neg (by rw [e]; decide), if_pos e] at k; rw [hsh.1, bit_at (by omega) (by omega)]; exact k
    · rw [if_neg (by rw [e]; decide), if_neg (by rw [e]; decide), if_pos e] at k; exact x_timesOfDay hX.1.2.2.2.2.1 (by omega) k
    · rw [if_neg e1, if_neg e2, if_neg e3] at k; exact k
  · rw [h] at k; exact k
def entryR (l : Land) (d : Deeds) (a h p w : Int32) : Int32 := if inR (lnb l) a then (if inR 24 h then (if inR (lnp l) p then (if w = 0 then nI (pnc l (lplace l) (anI a) (anI h) (anI p) (tms d (dshot d) (anI a) (anI h))) else if tms d (dshot d) (anI a) (anI h) = 0 then -1 else oI (cred l (lplace l) (anI a) (anI h) (anI p))) else -1) else -1) else -1
theorem x_Tentry {σ : St} {a h p w : Int32} {M : Mem} {Q : Int32 → Mem → Prop} (hX : XRep σ M) (k : ∀ M', Fr2 SCL M M' → XRep σ M' → Q (entryR (sL σ) (sD σ) a h p w) M') : w_Top_entry a h p w M Q := by
  have hD := hX.1
  have hl := hD.1
  have hL := hD.2.1
  have hnb := hl.2.2.2.1
  have hnp := hl.2.2.1
  have hsh := hD.2.2.2.2.2
  have k0 := k M Fr2.rfl hX
  unfold w_Top_entry
  refine x_isBird hL ⟨fun h1 => ?_, fun h1 => x_isHour ⟨fun h2 => ?_, fun h2 => x_isPerson hL ⟨fun h3 => ?_, fun h3 => ?_⟩⟩⟩
  · rw [entryR, h1] at k0; exact k0
  · rw [entryR, h1, h2] at k0; exact k0
  · obtain ⟨a, ha, rfl⟩ := inR_true (by omega) h1
    obtain ⟨h, hh, rfl⟩ := inR_true (by omega) h2
    obtain ⟨p, hp, rfl⟩ := inR_true (by omega) h3
    clear k0
    unfold entryR at k
    rw [h1, h2, h3, if_pos rfl, if_pos rfl, if_pos rfl] at k
    unfold anI at k
    rw [nI_clamp (by omega), nI_clamp (by omega), nI_clamp (by omega)] at k
    refine x_allAsTold hl hL (fun M1 hF1 hA1 => ?_)
    have hD1 := hD.fr hF1 (by decide)
    refine x_lookRound hl hD1.2.1 hD1.2.2.1 hA1 hh (fun M2 hF2 hR2 hN2 => ?_)
    have hD2 := hD1.sg hF2 (by decide) hR2 (hD1.2.2.2.1.fr hF2 (by decide) (by decide))
    have hA2 := hA1.fr hF2 (by decide)
    rw [hD2.2.2.2.2.2.1]
    refine x_heard hD2.2.2.2.2.1 (by omega) hh (by omega) ?_
    have h9 := tms_le (s := dshot (sD σ)) hD2.2.2.2.2.1 (show a < 5 by omega) hh
    refine ⟨fun e => ?_, fun e => ?_⟩
    · rw [if_pos e] at k
      refine x_pence hl hD2.2.1 hD2.2.2.2.1 hA2 hN2 ha hh hp h9 (fun M3 hF3 hK3 => k M3 ?_ ?_)
      · exact ((hF1.mono (by decide)).trans ((hF2.mono (by decide)).trans (hF3.mono (by decide)))).two
      · exact ((hX.go hF1 (by decide) hD1).go hF2 (by decide) hD2).go hF3 (by decide) (hD2.sg hF3 (by decide) (hD2.2.2.1.fr hF3 (by decide)) hK3)
    · rw [if_neg e] at k
      have kz := k M2 (((hF1.mono (by decide)).trans (hF2.mono (by decide))).two) ((hX.go hF1 (by decide) hD1).go hF2 (by decide) hD2)
      refine br_le (b := 0) (by omega) (by decide) (fun q => ?_) (fun q => ?_)
      · rw [if_pos (by omega)] at kz; exact kz
      · rw [if_neg (by omega)] at kz
        exact x_creditor hl hD2.2.1 hA2 hN2 ha hh hp kz
  · rw [entryR, h1, h2, h3] at k0; exact k0
def owedR (l : Land) (d : Deeds) (p q : Int32) : Int32 := if inR (lnp l) p then (if inR (lnp l) q then (if p = q then -1 else nI (owesN l (lplace l) d (dshot d) (anI p) (anI q))) else -1) else -1
theorem x_Towed {σ : St} {p q : Int32} {M : Mem} {Q : Int32 → Mem → Prop} (hX : XRep σ M) (k : ∀ M', Fr2 SCL M M' → XRep σ M' → Q (owedR (sL σ) (sD σ) p q) M') : w_Top_owed p q M Q := by
  have hD := hX.1
  have hl := hD.1
  have hL := hD.2.1
  have hnp := hl.2.2.1
  have hsh := hD.2.2.2.2.2
  have k0 := k M Fr2.rfl hX
  unfold w_Top_owed
  refine x_isPerson hL ⟨fun h1 => ?_, fun h1 => x_isPerson hL ⟨fun h2 => ?_, fun h2 => ⟨fun h3 => ?_, fun h3 => ?_⟩⟩⟩
  · rw [owedR, h1] at k0; exact k0
  · rw [owedR, h1, h2] at k0; exact k0
  · obtain ⟨p, hp, rfl⟩ := inR_true (by omega) h1
    obtain ⟨q, hq, rfl⟩ := inR_true (by omega) h2
    clear k0
    unfold owedR at k
    rw [h1, h2, if_pos rfl, if_pos rfl, if_neg h3] at k
    unfold anI at k
    rw [nI_clamp (by omega), nI_clamp (by omega)] at k
    refine x_allAsTold hl hL (fun M1 hF1 hA1 => ?_)
    have hD1 := hD.fr hF1 (by decide)
    rw [hD1.2.2.2.2.2.1]
    refine x_tally hl hD1.2.1 hD1.2.2.1 hD1.2.2.2.1 hA1 hD1.2.2.2.2.1 (by omega) (fun M2 hF2 hR2 hK2 hS2 => ?_)
    have hD2 := hD1.sg hF2 (by decide) hR2 hK2
    have ea : nI p * 6 + nI q = nI (p * 6 + q) := by simp only [fa_lit, pk_mul, nI_add]
    rw [ea, nI_clamp (by omega), hS2 p q (by omega) (by omega), talS_eq hp]
    refine ⟨vp_in_nI (by omega) (by decide), k M2 ?_ ?_⟩
    · exact ((hF1.mono (by decide)).trans (hF2.mono (by decide))).two
    · exact (hX.go hF1 (by decide) hD1).go hF2 (by decide) hD2
  · rw [owedR, h1, h2, if_pos rfl, if_pos rfl, if_pos h3] at k0; exact k0
def balN (l : Land) (d : Deeds) (sil p : Nat) : Int32 := gain l (lplace l) d (2 ^ p) sil 0 24
theorem x_balanceAsTold {σ : St} {p sil : Nat} {M : Mem} {Q : Int32 → Mem → Prop} (hX : XRep σ M) (hp : p < 6) (hs : sil < 2 ^ 31) (k : ∀ M', Fr2 SCL M M' → XRep σ M' → Q (balN (sL σ) (sD σ) sil p) M') : w_Top_balanceAsTold (nI p) (nI sil) M Q := by
  have hD := hX.1
  have hl := hD.1
  unfold w_Top_balanceAsTold
  refine x_allAsTold hl hD.2.1 (fun M1 hF1 hA1 => ?_)
  have hD1 := hD.fr hF1 (by decide)
  rw [shl1 (by omega)]
  have h2 : 2 ^ p ≤ 2 ^ 5 := Nat.pow_le_pow_right (by decide) (by omega)
  refine x_gainOf2 (set := 2 ^ p) (f := 0) (t := 23) hl hD1.2.1 hD1.2.2.1 hD1.2.2.2.1 hA1 hD1.2.2.2.2.1 (by omega) hs (by decide) (by decide) (fun M2 hF2 hR2 hK2 => k M2 ?_ ?_)
  · exact ((hF1.mono (by decide)).trans (hF2.mono (by decide))).two
  · exact (hX.go hF1 (by decide) hD1).go hF2 (by decide) (hD1.sg hF2 (by decide) hR2 hK2)
def netR (l : Land) (d : Deeds) : Int32 := sI (fun p => if 0 < balN l d (dshot d) p then balN l d (dshot d) p else 0) (lnp l)
theorem x_Tnetted {σ : St} {M : Mem} {Q : Int32 → Mem → Prop} (hX : XRep σ M) (k : ∀ M', Fr2 SCL M M' → XRep σ M' → Q (netR (sL σ) (sD σ)) M') : w_Top_netted M Q := by
  have hnp := hX.1.1.2.2.1
  unfold w_Top_netted
  refine for_loop (fun n i (M1 : Mem) => w_Top_netted_L4 (fun y M2 => Q y M2) Q n (sI (fun p => if 0 < balN (sL σ) (sD σ) (dshot (sD σ)) p then balN (sL σ) (sD σ) (dshot (sD σ)) p else 0) i) (nI i) M1) (fun i M1 => Fr2 SCL M M1 ∧ XRep σ M1) (lnp (sL σ)) 0 M (Nat.zero_le _) ⟨Fr2.rfl, hX⟩ ?_ ?_
  · intro n M1 ⟨hF, hX1⟩
    unfold w_Top_netted_L4
    rw [hX1.1.2.1.2.1]
    exact br_le (by omega) (by omega) (fun _ => k M1 hF hX1) (fun q => absurd q (by omega))
  · intro n i M1 _ hi ⟨hF, hX1⟩ kk
    have hsh := hX1.1.2.2.2.2.2
    rw [sI_succ] at kk
    unfold w_Top_netted_L4
    rw [hX1.1.2.1.2.1, hsh.1, nI_1]
    refine br_le (by omega) (by omega) (fun q => absurd q (by omega)) (fun _ => x_balanceAsTold hX1 (by omega) (by omega) (fun M2 hF2 hX2 x ex => ?_))
    subst ex
    exact kk M2 ⟨hF.trans hF2, hX2⟩
def cntR (σ : St) (a : Int32) : Int32 := if a = 0 then nI (lwide (sL σ)) else if a = 1 then nI (ldeep (sL σ)) else if a = 2 then nI (lnp (sL σ)) else if a = 3 then nI (lnb (sL σ)) else if a = 4 then nI (fb_ct (fun i => decide (dtimes (sD σ) i ≠ 0)) 120) else if a = 5 then nI (pcn (dshot (sD σ))) else if a = 6 then nI (fb_ct (fun i => decide (ddebt (sD σ) i ≠ -1)) 6) else if a = 7 then nI (sH σ).length else if a = 8 then nI (sT σ).length else -1
theorem x_Tcount {σ : St} {a : Int32} {M : Mem} {Q : Int32 → Mem → Prop} (hX : XRep σ M) (k : ∀ M', Fr2 SCL M M' → XRep σ M' → Q (cntR σ a) M') : w_Top_count a M Q := by
  have hL := hX.1.2.1
  have hsh := hX.1.2.2.2.2.2
  have k := k M Fr2.rfl hX
  unfold w_Top_count
  refine ⟨fun e => ?_, fun e => ?_, fun e => ?_, fun e => ?_, fun e => ?_, fun e => ?_, fun e => ?_, fun e => ?_, fun e => ?_, fun e0 e1 e2 e3 e4 e5 e6 e7 e8 => ?_⟩
  · subst e; rw [hL.1.1]; exact k
  · subst e; rw [hL.1.2]; exact k
  · subst e; rw [hL.2.1]; exact k
  · subst e; rw [hL.2.2.1]; exact k
  · subst e; exact x_callCount hX.1.2.2.2.2.1 k
  · subst e; rw [hsh.1]; exact x_bitCount (by omega) k
  · subst e; exact x_debtCount hX.2.2.1 k
  · subst e; rw [hX.2.2.2.2.1.1]; exact k
  · subst e; rw [hX.2.2.2.2.2.1.1]; exact k
  · rw [cntR, if_neg e0, if_neg e1, if_neg e2, if_neg e3, if_neg e4, if_neg e5, if_neg e6, if_neg e7, if_neg e8] at k; exact k
def sangR (l : Land) (d : Deeds) (h : Int32) : Int32 := if inR 24 h then nI (vrD l d (anI h)).length else -1
theorem x_Tsang {σ : St} {h : Int32} {M : Mem} {Q : Int32 → Mem → Prop} (hX : XRep σ M) (k : ∀ M', Fr2 SCL M M' → XRep σ M' → Q (sangR (sL σ) (sD σ) h) M') : w_Top_sang h M Q := by
  unfold w_Top_sang
  refine x_isHour ⟨fun h1 => ?_, fun h1 => ?_⟩
  · obtain ⟨h, hh, rfl⟩ := inR_true (by omega) h1
    unfold sangR at k
    rw [h1, if_pos rfl] at k
    unfold anI at k
    rw [nI_clamp (by omega)] at k
    exact x_countRows hX.1 hX.2.2.1 hh (fun M1 hF1 hD1 => k M1 (hF1.mono (by decide)).two (hX.go hF1 (by decide) hD1))
  · have := k M Fr2.rfl hX
    rw [sangR, h1] at this; exact this
def songR (l : Land) (d : Deeds) (h w b : Int32) : Int32 := if inR 24 h then (if w < 0 then -1 else if inR (lnb l) b then (if (dshot d).testBit (anI b) then -1 else if anI w < (vrD l d (anI h)).length then nI (((vrD l d (anI h)).getD (anI w) []).getD (anI b) 0) else -1) else -1) else -1
theorem x_Tsong {σ : St} {h w b : Int32} {M : Mem} {Q : Int32 → Mem → Prop} (hX : XRep σ M) (k : ∀ M', Fr2 SCL M M' → XRep σ M' → Q (songR (sL σ) (sD σ) h w b) M') : w_Top_song h w b M Q := by
  have hnb := hX.1.1.2.2.2.1
  have hsh := hX.1.2.2.2.2.2
  have k0 := k M Fr2.rfl hX
  unfold w_Top_song
  refine x_isHour ⟨fun h1 => ?_, fun h1 => ⟨fun h2 => ?_, fun h2 => x_isBird hX.1.2.1 ⟨fun h3 => ?_, fun h3 => ?_⟩⟩⟩
  · rw [songR, h1] at k0; exact k0
  · rw [songR, h1, if_pos rfl, if_pos h2] at k0; exact k0
  · rw [songR, h1, if_pos rfl, if_neg h2, h3] at k0; exact k0
  · obtain ⟨h, hh, rfl⟩ := inR_true (by omega) h1
    obtain ⟨w, hw, rfl⟩ := nI_of h2
    obtain ⟨b, hb, rfl⟩ := inR_true (by omega) h3
    unfold songR at k k0
    rw [h1, if_pos rfl, if_neg h2, h3, if_pos rfl] at k k0
    unfold anI at k k0
    rw [nI_clamp (by omega), nI_clamp hw, nI_clamp (by omega)] at k k0
    refine x_isShot hsh.1 hsh.2 (by omega) ⟨fun h4 => ?_, fun h4 => ?_⟩
    · rw [h4, if_neg (by decide)] at k
      refine x_findRow hX.1 hX.2.2.1 hh (Nat.lt_trans hw (by decide)) (fun M1 hF1 hD1 hlt hrow => ⟨fun q => absurd q (by decide), fun _ => ?_⟩) (fun M1 hF1 hD1 hle hfo => ⟨fun _ => ?_, fun q => absurd q (by decide)⟩)
      · rw [if_pos hlt] at k
        rw [nI_clamp (by omega), hrow b hb]
        exact ⟨vp_in_nI (by omega) (by decide), k M1 (hF1.mono (by decide)).two (hX.go hF1 (by decide) hD1)⟩
      · rw [if_neg (by omega)] at k
        exact k M1 (hF1.mono (by decide)).two (hX.go hF1 (by decide) hD1)
    · rw [h4, if_pos rfl] at k0; exact k0
theorem x_Twood {σ : St} {a : Int32} {M : Mem} {Q : Int32 → Mem → Prop} (hX : XRep σ M) (k : ∀ M', Fr2 SCL M M' → XRep σ M' → Q (woodR (sL σ) (sD σ) a) M') : w_Top_wooden a M Q :=
  x_Twooden hX.1 hX.2.2.1 (fun M1 hF1 hD1 => k M1 (hF1.mono (by decide)).two (hX.go hF1 (by decide) hD1))
def juneR (l : Land) (d : Deeds) (a : Int32) : Int32 := if a = -1 then nI (ruA (jend l d) (lnp l) (lnp l)) else if inR (lnp l) a then nI ((jend l d).1 (anI a)) else -2
theorem x_Tjune {σ : St} {a : Int32} {M : Mem} {Q : Int32 → Mem → Prop} (hX : XRep σ M) (k : ∀ M', Fr2 SCL M M' → XRep σ M' → Q (juneR (sL σ) (sD σ) a) M') : w_Top_june a M Q := by
  have hl := hX.1.1
  have hnp := hl.2.2.1
  unfold w_Top_june
  refine ⟨fun e => ?_, fun e => x_isPerson hX.1.2.1 ⟨fun h => ?_, fun h => ?_⟩⟩
  · unfold w_Top_june_j16
    refine x_collect hX.1 hX.nz (fun M1 hF1 hD1 hJ1 => ⟨fun q => absurd e q, fun _ => ?_⟩)
    have := k M1 (hF1.mono (by decide)).two (hX.go hF1 (by decide) hD1)
    rw [juneR, if_pos e] at this
    refine x_ruined hl hD1.2.1 hJ1 (fun i hi => ?_) this
    have h1 := (jgo_JB hnp (TD (j0 (sL σ) (sD σ)) + 1) (j0 (sL σ) (sD σ)) (j0_JB hl hX.1.t9 hX.nz)).2
    have h2 := j0_TD hl hX.1.t9 hX.nz
    have h3 := due_TD (s := jend (sL σ) (sD σ)) hi
    have h4 : TD (jend (sL σ) (sD σ)) ≤ TD (j0 (sL σ) (sD σ)) := h1
    omega
  · obtain ⟨p, hp, rfl⟩ := inR_true (by omega) h
    unfold w_Top_june_j16
    refine x_collect hX.1 hX.nz (fun M1 hF1 hD1 hJ1 => ⟨fun _ => ?_, fun q => absurd q e⟩)
    have := k M1 (hF1.mono (by decide)).two (hX.go hF1 (by decide) hD1)
    rw [juneR, if_neg e, h, if_pos rfl] at this
    unfold anI at this
    rw [nI_clamp (by omega)] at this ⊢
    rw [hJ1.1 p hp]
    exact ⟨vp_in_nI (by omega) (by decide), this⟩
  · have := k M Fr2.rfl hX
    rw [juneR, if_neg e, h] at this; exact this
def hrsB (f t : Int32) : Bool := inR 24 f && (inR 24 t && !decide (t < f))
theorem x_areHours {f t : Int32} {M : Mem} {Q : Bool → Mem → Prop} (k : Q (hrsB f t) M) : w_Top_areHours f t M Q := by
  unfold hrsB at k
  unfold w_Top_areHours
  refine x_isHour ⟨fun h1 => ?_, fun h1 => x_isHour ⟨fun h2 => ?_, fun h2 => ⟨!decide (t < f), ?_, ?_⟩⟩⟩
  · rw [h1] at k; exact k
  · rw [h1, h2] at k; exact k
  · by_cases c : t < f
    · rw [if_pos c, decide_eq_true c]; rfl
    · rw [if_neg c, decide_eq_false c]; rfl
  · rw [h1, h2] at k; exact k
theorem hrsB_true {f t : Int32} (h : hrsB f t = true) : ∃ a b, a ≤ b ∧ b < 24 ∧ f = nI a ∧ t = nI b := by
  unfold hrsB at h
  rw [Bool.and_eq_true, Bool.and_eq_true, Bool.not_eq_true', decide_eq_false_iff_not] at h
  obtain ⟨a, ha, rfl⟩ := inR_true (by omega) h.1
  obtain ⟨b, hb, rfl⟩ := inR_true (by omega) h.2.1
  have := h.2.2
  rw [nI_ltI (by omega) (by omega)] at this
  exact ⟨a, b, by omega, hb, rfl, rfl⟩
def playR (l : Land) (d : Deeds) (f t w : Int32) : Int32 := if hrsB f t then (if inR (2 + lnp l) w then (if w = 0 then nI (plGo l d (anI f) (anI t) 50 1).1 else if w = 1 then b2i (plGo l d (anI f) (anI t) 50 1).2.1 else nI (atS l (anI f) (anI t) (plS l d (anI f) (anI t) (plGo l d (anI f) (anI t) 50 1).2.2) ((anI w - 2) * 24 + anI f))) else -1) else -1
theorem x_Tplayed {σ : St} {f t w : Int32} {M : Mem} {Q : Int32 → Mem → Prop} (hX : XRep σ M) (k : ∀ M', Fr2 SCL M M' → XRep σ M' → Q (playR (sL σ) (sD σ) f t w) M') : w_Top_played f t w M Q := by
  have hnp := hX.1.1.2.2.1
  have k0 := k M Fr2.rfl hX
  unfold w_Top_played
  refine x_areHours ⟨fun h1 => ?_, fun h1 => ?_⟩
  · rw [playR, h1] at k0; exact k0
  · rw [hX.1.2.1.2.1, show (2 : Int32) + nI (lnp (sL σ)) = nI (2 + lnp (sL σ)) by simp only [fa_lit, nI_add]]
    refine ⟨fun h2 => ?_, fun h2 => ⟨fun h3 => ?_, fun h3 => ?_⟩⟩
    · rw [playR, h1, if_pos rfl, inR, decide_eq_true h2] at k0; exact k0
    · have hin : inR (2 + lnp (sL σ)) w = true := by rw [inR, decide_eq_false h2, decide_eq_true h3]; rfl
      obtain ⟨a, b, hab, hb, rfl, rfl⟩ := hrsB_true h1
      obtain ⟨w, hw, rfl⟩ := inR_true (by omega) hin
      clear k0
      unfold playR at k
      rw [h1, hin, if_pos rfl, if_pos rfl] at k
      unfold anI at k
      rw [nI_clamp (by omega), nI_clamp (by omega), nI_clamp (by omega)] at k
      refine x_play hX.1 hb hab (fun M1 hF1 hD1 hr hs hA => ?_)
      have kz := k M1 (hF1.mono (by decide)) (hX.go2 hF1 (by decide) hD1)
      refine ⟨fun e0 => ⟨fun e1 => ?_, fun e1 => ?_⟩, fun e0 => ?_⟩
      · rw [if_neg e0, if_neg e1] at kz
        have w0 : w ≠ 0 := fun z => e0 (by rw [z]; rfl)
        have w1 : w ≠ 1 := fun z => e1 (by rw [z]; rfl)
        have ea : (nI w - 2) * 24 + nI a = nI ((w - 2) * 24 + a) := by
          rw [show (2 : Int32) = nI 2 from rfl, pk_sub (by omega)]
          simp only [fa_lit, pk_mul, nI_add]
        rw [ea, nI_clamp (by omega), (hA (w - 2) a (by omega) (by omega)).1]
        exact ⟨vp_in_nI (by omega) (by decide), kz⟩
      · rw [if_neg e0, if_pos e1] at kz
        rw [hs]
        revert kz
        cases (plGo (sL σ) (sD σ) a b 50 1).2.1 <;> exact fun kz => kz
      · rw [if_pos e0] at kz
        rw [hr]; exact kz
    · rw [playR, h1, if_pos rfl, inR, decide_eq_false h3, Bool.and_false] at k0; exact k0
