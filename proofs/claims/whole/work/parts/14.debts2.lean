def XT (ds : Deeds) (M : Mem) : Prop := ∀ i, i < 120 → M.1 c_deeds_times i = nI (dtimes ds i) ∧ dtimes ds i ≤ 9
theorem XT.fr {ds : Deeds} {M M' : Mem} {L : List Nat} (h : XT ds M) (hF : Fr L M M') (hd : c_deeds_times ∉ L) : XT ds M' := by
  unfold XT; rw [hF.1 _ hd]; exact h
theorem tms_le {ds : Deeds} {M : Mem} (h : XT ds M) {s b hh : Nat} (hb : b < 5) (h24 : hh < 24) : tms ds s b hh ≤ 9 := by
  unfold tms
  split
  · omega
  · exact (h _ (by omega)).2
theorem x_heard {ds : Deeds} {b h sil : Nat} {M : Mem} {Q : Int32 → Mem → Prop} (hT : XT ds M) (hb : b < 5) (hh : h < 24) (hs : sil < 2 ^ 31) (k : Q (nI (tms ds sil b h)) M) : w_Debts_heard (nI b) (nI h) (nI sil) M Q := by
  unfold w_Debts_heard
  rw [bit_at hs (by omega)]
  unfold tms at k
  refine ⟨fun e => ?_, fun e => ?_⟩
  · rw [bitI_0] at e
    rw [e] at k
    simp only [fa_lit, pk_mul, nI_add]
    rw [nI_clamp (by omega), (hT _ (by omega)).1]
    exact ⟨vp_in_nI (by omega) (by decide), k⟩
  · rw [bitI_0, Bool.not_eq_false] at e
    rw [e] at k
    exact k
theorem x_hears {l : Land} {p d : Nat} {M : Mem} {Q : Bool → Mem → Prop} (hl : LOK l) (hL : XLand l M) (hp : p < lnp l) (hd : d < 64) (k : Q (decide (d ≤ lhear l) && decide (lkind l p ≠ 1)) M) : w_Debts_hears (nI p) (nI d) M Q := by
  have h14 := hl.2.2.2.2.1
  have hnp := hl.2.2.1
  have hk4 := (hl.2.2.2.2.2.1 p hp).1
  unfold w_Debts_hears
  rw [hL.2.2.2.1, nI_clamp (by omega), hL.2.2.2.2.1 p hp]
  refine br_lt (by omega) (by omega) (fun q => ?_) (fun q => ⟨vp_in_nI (by omega) (by decide), ?_⟩)
  · rw [decide_eq_false (by omega : ¬ d ≤ lhear l)] at k; exact k
  · rw [decide_eq_true (by omega : d ≤ lhear l)] at k
    by_cases e : lkind l p = 1
    · rw [e] at k ⊢
      exact ⟨false, rfl, k⟩
    · refine ⟨true, ?_, ?_⟩
      · rw [if_neg]
        · rfl
        · exact fun z => e (ni_inj (b := 1) (by omega) (by decide) z)
      · rw [decide_eq_true e] at k; exact k
theorem x_creditor {l : Land} {at_ : Nat → Nat} {b h p : Nat} {M : Mem} {Q : Int32 → Mem → Prop} (hl : LOK l) (hL : XLand l M) (hA : XAt l at_ M) (hN : XNear l at_ h M) (hb : b < lnb l) (hh : h < 24) (hp : p < lnp l) (k : Q (oI (cred l at_ b h p)) M) : w_Debts_creditor (nI b) (nI h) (nI p) M Q := by
  have hnp := hl.2.2.1
  have hnb := hl.2.2.2.1
  obtain ⟨e1, e2⟩ := hA p h hp hh
  have e3 := hl.2.2.2.2.2.2.2.1 b hb
  unfold w_Debts_creditor
  simp only [fa_lit, pk_mul, nI_add]
  rw [nI_clamp (by omega), nI_clamp (by omega), nI_clamp (by omega), e1, hL.2.2.2.2.2.2.2.1 b hb]
  refine ⟨vp_in_nI (by omega) (by decide), vp_in_nI (by omega) (by decide), x_far e2 e3 (x_hears hl hL hp (by have := dst_le e2 e3; omega) ?_)⟩
  unfold cred hrs at k
  refine ⟨fun q => ?_, fun q => ⟨vp_in_nI (by omega) (by decide), ?_⟩⟩
  · rw [q] at k; exact k
  · rw [q] at k
    rw [(hN.at hp).1]; exact k
abbrev SP : List Nat := [c_debts_rateKey, c_debts_rate, c_land_owe_stack]
theorem x_pence_j139 {l : Land} {p t g s r : Nat} {M : Mem} {Q : Int32 → Mem → Prop} (hl : LOK l) (hL : XLand l M) (hp : p < lnp l) (ht : t ≤ 9) (hg : g ≤ 15) (hs : s < 512) (hr : r ≤ 99) (hrate : M.1 c_debts_rate s = nI r) (k : Q (nI (kindp (lkind l p) g (r * t))) M) : w_Debts_pence_j139 (nI p) (nI t) (nI g) (nI s) M Q := by
  have hnp := hl.2.2.1
  have hk4 := (hl.2.2.2.2.2.1 p hp).1
  have hw : r * t ≤ 891 := Nat.mul_le_mul hr ht
  unfold w_Debts_pence_j139
  rw [nI_clamp (by omega), nI_clamp (by omega), hrate, hL.2.2.2.2.1 p hp, pk_mul]
  refine ⟨vp_in_nI hs (by decide), fun x ex => ⟨vp_in_nI (by omega) (by decide), ?_⟩⟩
  subst ex
  unfold kindp at k
  refine ⟨fun e => ?_, fun e => ?_, fun e => ?_, fun n2 n3 n4 => ?_⟩
  · have e := ni_inj (b := 2) (by omega) (by decide) e
    rw [if_pos e] at k
    rw [show nI (r * t) / 2 = nI (r * t / 2) from pk_div (by omega) (by decide) (by decide)]
    exact k
  · have e := ni_inj (b := 3) (by omega) (by decide) e
    rw [if_neg (by omega), if_pos e] at k
    rw [show nI (r * t) * 2 = nI (r * t * 2) from pk_mul _ 2]
    exact k
  · have e := ni_inj (b := 4) (by omega) (by decide) e
    rw [if_neg (by omega), if_neg (by omega), if_pos e] at k
    by_cases q : 3 ≤ g
    · rw [if_pos q] at k
      have hh : ¬ nI g < 3 := fun z => absurd ((nI_ltI (a := g) (b := 3) (by omega) (by decide)).mp z) (by omega)
      rw [if_neg hh]
      exact k
    · rw [if_neg q] at k
      have hh : nI g < 3 := (nI_ltI (a := g) (b := 3) (by omega) (by decide)).mpr (by omega)
      rw [if_pos hh]
      exact k
  · have m2 : lkind l p ≠ 2 := fun e => n2 (by rw [e]; rfl)
    have m3 : lkind l p ≠ 3 := fun e => n3 (by rw [e]; rfl)
    have m4 : lkind l p ≠ 4 := fun e => n4 (by rw [e]; rfl)
    rw [if_neg m2, if_neg m3, if_neg m4] at k
    exact k
theorem x_pence {l : Land} {at_ : Nat → Nat} {b h p t : Nat} {M : Mem} {Q : Int32 → Mem → Prop} (hl : LOK l) (hL : XLand l M) (hK : KC l M) (hA : XAt l at_ M) (hN : XNear l at_ h M) (hb : b < lnb l) (hh : h < 24) (hp : p < lnp l) (ht : t ≤ 9) (k : ∀ M', Fr SP M M' → KC l M' → Q (nI (pnc l at_ b h p t)) M') : w_Debts_pence (nI b) (nI h) (nI p) (nI t) M Q := by
  have hnp := hl.2.2.1
  have hnb := hl.2.2.2.1
  obtain ⟨e1, e2⟩ := hA p h hp hh
  have e3 := hl.2.2.2.2.2.2.2.1 b hb
  have hd := dst_le e2 e3
  obtain ⟨n1, n2⟩ := hN.at hp
  have hin6 : vp_in (nI p) 6 := vp_in_nI (by omega) (by decide)
  unfold w_Debts_pence
  have ea : nI p * 24 + nI h = nI (p * 24 + h) := by simp only [fa_lit, pk_mul, nI_add]
  rw [ea, nI_clamp (by omega), nI_clamp (by omega), nI_clamp (by omega), e1, hL.2.2.2.2.2.2.2.1 b hb]
  refine ⟨vp_in_nI (by omega) (by decide), vp_in_nI (by omega) (by decide), x_far e2 e3 ?_⟩
  unfold pnc at k
  refine br_le (b := 0) (by omega) (by decide) (fun q => ?_) (fun q => ⟨hin6, ?_⟩)
  · rw [if_pos (by omega)] at k; exact k M Fr.rfl hK
  rw [if_neg (by omega)] at k
  rw [n1]
  cases hne : (near l at_ h p).1 with
  | none =>
    refine ⟨fun _ => ?_, fun q => absurd rfl q⟩
    have : cred l at_ b h p = none := by unfold cred; rw [hne]; split <;> rfl
    rw [this] at k
    exact k M Fr.rfl hK
  | some e =>
    obtain ⟨s1, s2, s3, s4⟩ := near_some hne
    refine ⟨fun q => absurd q (ni_m1 (by omega)), fun _ => ?_⟩
    refine x_hears hl hL hp (by omega) ⟨fun hb1 => ?_, fun hb0 => ?_⟩
    rotate_left
    · have : cred l at_ b h p = none := by unfold cred hrs; rw [hb0]; rfl
      rw [this] at k
      exact k M Fr.rfl hK
    have hcr : cred l at_ b h p = some e := by unfold cred hrs; rw [hb1]; exact hne
    rw [hcr] at k
    simp only at k
    refine ⟨hin6, fun x ex => ?_⟩
    rw [n2] at ex
    subst ex
    generalize hgd : (near l at_ h p).2 = g at *
    generalize hdd : dst (at_ (p * 24 + h)) (lbush l b) = d at *
    intro x ex
    have ek : ((nI h * 10 + nI t) * 15 + nI d) * 15 + nI g = nI (((h * 10 + t) * 15 + d) * 15 + g) := by simp only [fa_lit, pk_mul, nI_add]
    rw [ek] at ex
    subst ex
    have es : nI (((h * 10 + t) * 15 + d) * 15 + g) - nI (((h * 10 + t) * 15 + d) * 15 + g) / 512 * 512 = nI ((((h * 10 + t) * 15 + d) * 15 + g) % 512) := pk_rem (by omega) (by decide) (by decide)
    rw [es]
    have hs : (((h * 10 + t) * 15 + d) * 15 + g) % 512 < 512 := Nat.mod_lt _ (by decide)
    have hkb : ((h * 10 + t) * 15 + d) * 15 + g < 2 ^ 31 := by omega
    generalize (((h * 10 + t) * 15 + d) * 15 + g) % 512 = s at hs ⊢
    have hins : vp_in (nI s) 512 := vp_in_nI hs (by decide)
    rw [nI_clamp (by omega)]
    refine ⟨hins, fun q => ?_, fun q => ⟨hins, ?_⟩⟩
    · rcases hK (by omega) s hs with r | ⟨h', t', a', g', q1, q2, q3, q4, q5, q6⟩
      · rw [r] at q; exact absurd q (ni_m1' hkb)
      · rw [q] at q5
        have q7 := ni_inj hkb (by omega) q5
        have a1 : h' = h := by omega
        have a2 : t' = t := by omega
        have a3 : a' = d := by omega
        have a4 : g' = g := by omega
        subst a1; subst a2; subst a3; subst a4
        exact x_pence_j139 hl hL hp ht (by omega) hs (ratev_le l _ _ _ _) q6 (k M Fr.rfl hK)
    · have hF1 : Fr SP M (si M c_debts_rateKey s (nI (((h * 10 + t) * 15 + d) * 15 + g))) := fr_si (by decide)
      have hL1 := hL.fr hF1 (by decide)
      obtain ⟨f, f1, f2, f3, f4⟩ := hL1.2.2.2.2.2.2.2.2.1
      refine x_valueO hl.2.2.2.2.2.2.2.2.1 f1 f2 f3 f4 (fun M2 hF2 => ?_)
      refine x_within (hi := 99) (by decide) ⟨hins, ?_⟩
      have hF3 : Fr SP M (si M2 c_debts_rate s (nI (clip (evL (lowe l) (nI h) (nI d) (nI g) (nI t)) 99))) := (hF1.trans (hF2.mono (by decide))).put _ _ _ (by decide)
      have hr2 : (si M2 c_debts_rate s (nI (clip (evL (lowe l) (nI h) (nI d) (nI g) (nI t)) 99))).1 c_debts_rate s = nI (ratev l h d g t) := by rw [si_same, up_s]; rfl
      refine x_pence_j139 hl (hL.fr hF3 (by decide)) hp ht (by omega) hs (ratev_le l _ _ _ _) hr2 (k _ hF3 (fun hz s' hs' => ?_))
      by_cases ess : s' = s
      · subst ess
        right
        refine ⟨h, t, d, g, hh, ht, hd, s4, ?_, hr2⟩
        rw [si_ne _ _ _ (by decide), hF2.1 _ (by decide), si_same, up_s]
      · rw [si_ne (k := c_debts_rate) (q := c_debts_rateKey) _ _ _ (by decide), hF2.1 c_debts_rateKey (by decide), si_same, up_n ess, si_same, up_n ess, hF2.1 c_debts_rate (by decide), si_ne (k := c_debts_rateKey) (q := c_debts_rate) _ _ _ (by decide)]
        exact hK hz s' hs'
theorem x_isCalled {l : Land} {ds : Deeds} {h sil : Nat} {M : Mem} {Q : Bool → Mem → Prop} (hl : LOK l) (hL : XLand l M) (hT : XT ds M) (hh : h < 24) (hs : sil < 2 ^ 31) (k1 : Q true M) (k0 : (∀ b, b < lnb l → tms ds sil b h = 0) → Q false M) : w_Debts_isCalled (nI h) (nI sil) M Q := by
  have hnb := hl.2.2.2.1
  unfold w_Debts_isCalled
  refine for_loop (fun n i (M1 : Mem) => w_Debts_isCalled_L2 (nI h) (nI sil) (fun M389 => Q false M389) Q n (nI i) M1) (fun i M1 => M1 = M ∧ ∀ b, b < i → tms ds sil b h = 0) (lnb l) 0 M (Nat.zero_le _) ⟨rfl, fun b hb => absurd hb (Nat.not_lt_zero b)⟩ ?_ ?_
  · intro n M1 ⟨e, hz⟩
    subst e
    unfold w_Debts_isCalled_L2
    rw [hL.2.2.1]
    exact br_le (by omega) (by omega) (fun _ => k0 hz) (fun q => absurd q (by omega))
  · intro n i M1 _ hi ⟨e, hz⟩ kk
    subst e
    unfold w_Debts_isCalled_L2
    rw [hL.2.2.1]
    refine br_le (by omega) (by omega) (fun q => absurd q (by omega)) (fun _ => x_heard hT (by omega) hh hs ?_)
    have h9 := tms_le hT (s := sil) (b := i) (hh := h) (by omega) hh
    refine br_le (b := 0) (by omega) (by decide) (fun q => ?_) (fun _ => k1)
    rw [nI_1]
    exact kk _ ⟨rfl, lt_s hz (by omega)⟩
theorem x_shareOf {l : Land} {at_ : Nat → Nat} {h p set : Nat} {M : Mem} {Q : Int32 → Mem → Prop} (hl : LOK l) (hN : XNear l at_ h M) (hp : p < lnp l) (hs : set < 2 ^ 31) (k : Q (shr set (near l at_ h p).1 p) M) : w_Debts_shareOf (nI set) (nI p) M Q := by
  have hnp := hl.2.2.1
  unfold w_Debts_shareOf
  rw [nI_clamp (by omega), (hN.at hp).1]
  refine ⟨vp_in_nI (by omega) (by decide), fun x ex => ?_⟩
  subst ex
  cases hne : (near l at_ h p).1 with
  | none => rw [hne] at k; exact ⟨fun q => absurd rfl q, fun _ => k⟩
  | some e =>
    rw [hne] at k
    obtain ⟨s1, -⟩ := near_some hne
    refine ⟨fun _ => ?_, fun q => absurd q (ni_m1 (by omega))⟩
    show Q ((nI set >>> (nI e &&& 31) &&& 1) - (nI set >>> (nI p &&& 31) &&& 1)) M
    rw [bit_at hs (by omega), bit_at hs (by omega)]
    exact k
abbrev SG : List Nat := [c_debts_reach, c_debts_nearest, c_debts_gap, c_land_fog_stack, c_debts_rateKey, c_debts_rate, c_land_owe_stack]
theorem x_gainOf {l : Land} {at_ : Nat → Nat} {ds : Deeds} {set fr to sil : Nat} {M : Mem} {Q : Int32 → Mem → Prop} (hl : LOK l) (hL : XLand l M) (hR : RC l M) (hK : KC l M) (hA : XAt l at_ M) (hT : XT ds M) (hset : set < 2 ^ 31) (hs : sil < 2 ^ 31) (hft : fr + to ≤ 24) (k : ∀ M', Fr SG M M' → RC l M' → KC l M' → Q (gain l at_ ds set sil fr to) M') : w_Debts_gainOf (nI set) (nI fr) (nI (fr + to) - 1) (nI sil) M Q := by
  have hnp := hl.2.2.1
  have hnb := hl.2.2.2.1
  have em : ∀ i, i ≤ 24 → (nI (fr + to) - 1 < nI (fr + i) ↔ to ≤ i) := by
    intro i hi
    rw [fa_lt, nI_toInt (by omega), show nI (fr + to) - 1 = nI (fr + to) - nI 1 from rfl, pk_sub_toInt (by omega) (by omega)]
    omega
  unfold w_Debts_gainOf
  refine for_loop (fun n i (M1 : Mem) => w_Debts_gainOf_L6 (nI set) (nI (fr + to) - 1) (nI sil) (fun y461 M460 => Q y461 M460) Q n (gain l at_ ds set sil fr i) (nI (fr + i)) M1)
    (fun i M1 => Fr SG M M1 ∧ RC l M1 ∧ KC l M1) to 0 M (Nat.zero_le _) ⟨Fr.rfl, hR, hK⟩ ?_ ?_
  · intro n M1 ⟨hF, hR1, hK1⟩
    unfold w_Debts_gainOf_L6
    rw [em to (by omega)]
    exact ⟨fun _ => k M1 hF hR1 hK1, fun q => absurd (Nat.le_refl _) q⟩
  · intro n i M1 _ hi ⟨hF, hR1, hK1⟩ kk
    have hL1 := hL.fr hF (by decide)
    have hA1 := hA.fr hF (by decide)
    have hT1 := hT.fr hF (by decide)
    unfold w_Debts_gainOf_L6
    rw [em i (by omega)]
    refine ⟨fun q => absurd q (by omega), fun _ => ?_⟩
    have ei : nI (fr + i) + 1 = nI (fr + (i + 1)) := nI_1 _
    rw [ei]
    refine x_isCalled hl hL1 hT1 (by omega) hs ⟨fun _ => ?_, fun q => absurd q (by decide)⟩ (fun hz => ⟨fun q => absurd q (by decide), fun _ => ?_⟩)
    · refine x_lookRound hl hL1 hR1 hA1 (by omega) (fun M2 hF2 hR2 hN2 => ?_)
      have hK2 := hK1.fr hF2 (by decide) (by decide)
      have hFz := hF.trans (hF2.mono (by decide))
      refine for_loop (fun n b (M3 : Mem) => w_Debts_gainOf_L35 (nI set) (nI (fr + to) - 1) (nI sil) (nI (fr + i)) (fun y458 M457 => w_Debts_gainOf_L6 (nI set) (nI (fr + to) - 1) (nI sil) (fun y461 M460 => Q y461 M460) Q _ y458 (nI (fr + (i + 1))) M457) Q n (gain l at_ ds set sil fr i + sI (fun b => sI (fun p => shr set (near l at_ (fr + i) p).1 p * nI (pnc l at_ b (fr + i) p (tms ds sil b (fr + i)))) (lnp l)) b) (nI b) M3)
        (fun b M3 => Fr SG M M3 ∧ RC l M3 ∧ KC l M3 ∧ XNear l at_ (fr + i) M3) (lnb l) 0 M2 (Nat.zero_le _) ⟨hFz, hR2, hK2, hN2⟩ ?_ ?_ |> fun z => by
          have e0 : gain l at_ ds set sil fr i + sI (fun b => sI (fun p => shr set (near l at_ (fr + i) p).1 p * nI (pnc l at_ b (fr + i) p (tms ds sil b (fr + i)))) (lnp l)) 0 = gain l at_ ds set sil fr i := Int32.add_zero _
          rw [e0] at z
          exact z
      · intro n3 M3 ⟨hF3, hR3, hK3, hN3⟩
        have hL3 := hL.fr hF3 (by decide)
        unfold w_Debts_gainOf_L35
        rw [hL3.2.2.1]
        exact br_le (by omega) (by omega) (fun _ => kk M3 ⟨hF3, hR3, hK3⟩) (fun q => absurd q (by omega))
      · intro n3 b M3 _ hb ⟨hF3, hR3, hK3, hN3⟩ kk3
        have hL3 := hL.fr hF3 (by decide)
        have hT3 := hT.fr hF3 (by decide)
        have h9 := tms_le hT3 (s := sil) (b := b) (hh := fr + i) (by omega) (by omega)
        unfold w_Debts_gainOf_L35
        rw [hL3.2.2.1]
        refine br_le (by omega) (by omega) (fun q => absurd q (by omega)) (fun _ => x_heard hT3 (by omega) (by omega) hs ?_)
        rw [nI_1]
        have fin : ∀ M4, Fr SG M M4 → RC l M4 → KC l M4 → XNear l at_ (fr + i) M4 → w_Debts_gainOf_L35 (nI set) (nI (fr + to) - 1) (nI sil) (nI (fr + i)) (fun y458 M457 => w_Debts_gainOf_L6 (nI set) (nI (fr + to) - 1) (nI sil) (fun y461 M460 => Q y461 M460) Q n y458 (nI (fr + (i + 1))) M457) Q n3 (gain l at_ ds set sil fr i + sI (fun b => sI (fun p => shr set (near l at_ (fr + i) p).1 p * nI (pnc l at_ b (fr + i) p (tms ds sil b (fr + i)))) (lnp l)) b + sI (fun p => shr set (near l at_ (fr + i) p).1 p * nI (pnc l at_ b (fr + i) p (tms ds sil b (fr + i)))) (lnp l)) (nI (b + 1)) M4 := by
          intro M4 a1 a2 a3 a4
          have z := kk3 M4 ⟨a1, a2, a3, a4⟩
          rw [sI_succ, ← Int32.add_assoc] at z
          exact z
        by_cases ht0 : tms ds sil b (fr + i) = 0
        · -- it does not call
          have ez : sI (fun p => shr set (near l at_ (fr + i) p).1 p * nI (pnc l at_ b (fr + i) p (tms ds sil b (fr + i)))) (lnp l) = 0 := by
            rw [sI_cong (g := fun _ => 0) (fun p _ => by rw [ht0]; unfold pnc; rw [if_pos rfl]; exact Int32.mul_zero), sI_zero]
          have z := fin M3 hF3 hR3 hK3 hN3
          rw [ez, Int32.add_zero] at z
          refine ⟨1, ?_⟩
          unfold w_Debts_gainOf_L62
          rw [hL3.2.1, ht0]
          refine ⟨fun _ => z, fun _ => ⟨fun _ => z, fun q => absurd (by decide) q⟩⟩
        · refine for_loop (fun n p (M4 : Mem) => w_Debts_gainOf_L62 (nI set) (nI (fr + to) - 1) (nI sil) (nI (fr + i)) (nI b) (nI (tms ds sil b (fr + i))) (fun y455 M454 => w_Debts_gainOf_L35 (nI set) (nI (fr + to) - 1) (nI sil) (nI (fr + i)) (fun y458 M457 => w_Debts_gainOf_L6 (nI set) (nI (fr + to) - 1) (nI sil) (fun y461 M460 => Q y461 M460) Q _ y458 (nI (fr + (i + 1))) M457) Q n3 y455 (nI (b + 1)) M454) Q n (gain l at_ ds set sil fr i + sI (fun b => sI (fun p => shr set (near l at_ (fr + i) p).1 p * nI (pnc l at_ b (fr + i) p (tms ds sil b (fr + i)))) (lnp l)) b + sI (fun p => shr set (near l at_ (fr + i) p).1 p * nI (pnc l at_ b (fr + i) p (tms ds sil b (fr + i)))) p) (nI p) M4)
            (fun p M4 => Fr SG M M4 ∧ RC l M4 ∧ KC l M4 ∧ XNear l at_ (fr + i) M4) (lnp l) 0 M3 (Nat.zero_le _) ⟨hF3, hR3, hK3, hN3⟩ ?_ ?_ |> fun z => by
              have e0 : ∀ x : Int32, x + sI (fun p => shr set (near l at_ (fr + i) p).1 p * nI (pnc l at_ b (fr + i) p (tms ds sil b (fr + i)))) 0 = x := fun x => Int32.add_zero _
              rw [e0] at z
              exact z
          · intro n4 M4 ⟨hF4, hR4, hK4, hN4⟩
            have hL4 := hL.fr hF4 (by decide)
            unfold w_Debts_gainOf_L62
            rw [hL4.2.1]
            exact br_le (by omega) (by omega) (fun _ => fin M4 hF4 hR4 hK4 hN4) (fun q => absurd q (by omega))
          · intro n4 p M4 _ hp ⟨hF4, hR4, hK4, hN4⟩ kk4
            have hL4 := hL.fr hF4 (by decide)
            have hA4 := hA.fr hF4 (by decide)
            unfold w_Debts_gainOf_L62
            rw [hL4.2.1]
            refine br_le (by omega) (by omega) (fun q => absurd q (by omega)) (fun _ => ?_)
            refine br_le (b := 0) (by omega) (by decide) (fun q => absurd q (by omega)) (fun _ => ?_)
            rw [nI_1]
            refine x_shareOf hl hN4 hp hset ⟨fun _ => ?_, fun q => ?_⟩
            · refine x_pence hl hL4 hK4 hA4 hN4 hb (by omega) hp h9 (fun M5 hF5 hK5 => ?_)
              have z := kk4 M5 ⟨hF4.trans (hF5.mono (by decide)), hR4.fr hF5 (by decide), hK5, hN4.fr hF5 (by decide) (by decide)⟩
              rw [sI_succ, ← Int32.add_assoc] at z
              exact z
            · have z := kk4 M4 ⟨hF4, hR4, hK4, hN4⟩
              rw [sI_succ, ← Int32.add_assoc, q, Int32.zero_mul] at z
              exact z
    · have z := kk M1 ⟨hF, hR1, hK1⟩
      have ez : gain l at_ ds set sil fr (i + 1) = gain l at_ ds set sil fr i := by
        unfold gain
        rw [sI_succ]
        have : gainH l at_ ds set sil (fr + i) = 0 := by
          unfold gainH
          rw [sI_cong (g := fun _ => 0) (fun b hb => ?_), sI_zero]
          rw [sI_cong (g := fun _ => 0) (fun p _ => by rw [hz b hb]; unfold pnc; rw [if_pos rfl]; exact Int32.mul_zero), sI_zero]
        rw [this, Int32.add_zero]
      rw [ez] at z
      exact z
