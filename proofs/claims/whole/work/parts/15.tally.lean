theorem fb_sm_swap (f : Nat → Nat → Nat) (m : Nat) : ∀ n, fb_sm (fun i => fb_sm (fun j => f i j) m) n = fb_sm (fun j => fb_sm (fun i => f i j) n) m
  | 0 => by rw [fb_sm_cong (f := fun j => fb_sm (fun i => f i j) 0) (g := fun _ => 0) (fun k _ => rfl), fb_sm_const, Nat.mul_zero]; rfl
  | n + 1 => by rw [fb_sm_succ, fb_sm_swap f m n, ← fb_sm_add]; exact fb_sm_cong (fun k _ => rfl)
theorem nI_sub1 {t : Nat} : nI (t + 1) - 1 = nI t := nI_pred t
theorem x_gainOf2 {l : Land} {at_ : Nat → Nat} {ds : Deeds} {set f t sil : Nat} {M : Mem} {Q : Int32 → Mem → Prop} (hl : LOK l) (hL : XLand l M) (hR : RC l M) (hK : KC l M) (hA : XAt l at_ M) (hT : XT ds M) (hset : set < 2 ^ 31) (hs : sil < 2 ^ 31) (ht : t < 24) (hf : f ≤ t + 1) (k : ∀ M', Fr SG M M' → RC l M' → KC l M' → Q (gain l at_ ds set sil f (t + 1 - f)) M') : w_Debts_gainOf (nI set) (nI f) (nI t) (nI sil) M Q := by
  have e := x_gainOf (fr := f) (to := t + 1 - f) hl hL hR hK hA hT hset hs (by omega) k
  rw [show f + (t + 1 - f) = t + 1 by omega, nI_sub1] at e
  exact e
theorem x_fill_sums {v : Int32} {M : Mem} {Q : Mem → Prop} (k : ∀ M', Fr [c_debts_sums] M M' → (∀ i, i < 36 → M'.1 c_debts_sums i = v) → Q M') : w_Jarr_fill_debts_sums v M Q := by
  unfold w_Jarr_fill_debts_sums
  refine for_loop (fun n i (M1 : Mem) => w_Jarr_fill_debts_sums_L5 v 36 (fun M384 => Q M384) Q n (nI i) M1) (fun i M1 => Fr [c_debts_sums] M M1 ∧ ∀ j, j < i → M1.1 c_debts_sums j = v) 36 0 M (Nat.zero_le _) ⟨Fr.rfl, fun j hj => absurd hj (Nat.not_lt_zero j)⟩ ?_ ?_
  · intro n M1 ⟨hF, hs⟩
    exact br_le (a := 36) (b := 36) (by decide) (by decide) (fun _ => k M1 hF hs) (fun q => absurd q (by omega))
  · intro n i M1 _ hi ⟨hF, hs⟩ kk
    refine br_le (a := 36) (by decide) (by omega) (fun q => absurd q (by omega)) (fun _ => ⟨vp_in_nI hi (by decide), ?_⟩)
    rw [nI_1, nI_clamp (by omega)]
    refine kk _ ⟨hF.put _ _ _ (by decide), fun j hj => ?_⟩
    rw [si_same]
    by_cases e : j = i
    · subst e; exact up_s
    · rw [up_n e]; exact hs j (by omega)
def XS (S : Nat → Nat → Nat) (M : Mem) : Prop := ∀ p q, p < 6 → q < 6 → M.1 c_debts_sums (p * 6 + q) = nI (S p q)
theorem XS.fr {S : Nat → Nat → Nat} {M M' : Mem} {L : List Nat} (h : XS S M) (hF : Fr L M M') (hd : c_debts_sums ∉ L) : XS S M' := by
  unfold XS; rw [hF.1 _ hd]; exact h
theorem XS.to {S S' : Nat → Nat → Nat} {M : Mem} (h : XS S M) (e : ∀ p q, p < 6 → q < 6 → S p q = S' p q) : XS S' M := fun p q hp hq => by rw [← e p q hp hq]; exact h p q hp hq
def addE (l : Land) (at_ : Nat → Nat) (b h t p q : Nat) : Nat := if p < lnp l then (if (near l at_ h p).1 = some q then pnc l at_ b h p t else 0) else 0
abbrev SE : List Nat := [c_debts_sums, c_debts_rateKey, c_debts_rate, c_land_owe_stack]
theorem x_addEntries {l : Land} {at_ : Nat → Nat} {b h t : Nat} {S : Nat → Nat → Nat} {M : Mem} {Q : Mem → Prop} (hl : LOK l) (hL : XLand l M) (hK : KC l M) (hA : XAt l at_ M) (hN : XNear l at_ h M) (hS : XS S M) (hb : b < lnb l) (hh : h < 24) (ht : t ≤ 9) (k : ∀ M', Fr SE M M' → KC l M' → XS (fun p q => S p q + addE l at_ b h t p q) M' → Q M') : w_Debts_addEntries (nI b) (nI h) (nI t) M Q := by
  have hnp := hl.2.2.1
  unfold w_Debts_addEntries
  refine for_loop (fun n i (M1 : Mem) => w_Debts_addEntries_L3 (nI b) (nI h) (nI t) (fun M399 => Q M399) Q n (nI i) M1) (fun i M1 => Fr SE M M1 ∧ KC l M1 ∧ XS (fun p q => if p < i then S p q + addE l at_ b h t p q else S p q) M1) (lnp l) 0 M (Nat.zero_le _) ⟨Fr.rfl, hK, hS.to (fun p q _ _ => by simp)⟩ ?_ ?_
  · intro n M1 ⟨hF, hK1, hs⟩
    have hL1 := hL.fr hF (by decide)
    unfold w_Debts_addEntries_L3
    rw [hL1.2.1]
    refine br_le (by omega) (by omega) (fun _ => k M1 hF hK1 (hs.to (fun p q _ _ => ?_))) (fun q => absurd q (by omega))
    by_cases c : p < lnp l
    · rw [if_pos c]
    · rw [if_neg c]; unfold addE; rw [if_neg c]; rfl
  · intro n i M1 _ hi ⟨hF, hK1, hs⟩ kk
    have hL1 := hL.fr hF (by decide)
    have hA1 := hA.fr hF (by decide)
    have hN1 := hN.fr hF (by decide) (by decide)
    unfold w_Debts_addEntries_L3
    rw [hL1.2.1]
    refine br_le (by omega) (by omega) (fun q => absurd q (by omega)) (fun _ => ⟨vp_in_nI (by omega) (by decide), fun x ex => ?_⟩)
    rw [nI_clamp (by omega), (hN1.at hi).1] at ex
    subst ex
    rw [nI_1]
    cases hne : (near l at_ h i).1 with
    | none =>
      refine ⟨fun _ => kk M1 ⟨hF, hK1, hs.to (fun p q _ _ => ?_)⟩, fun q => absurd rfl q⟩
      by_cases c : p = i
      · subst c
        rw [if_neg (Nat.lt_irrefl p), if_pos (Nat.lt_succ_self p)]
        unfold addE; rw [hne]; simp
      · by_cases c2 : p < i
        · rw [if_pos c2, if_pos (by omega)]
        · rw [if_neg c2, if_neg (by omega)]
    | some e =>
      obtain ⟨s1, s2, -⟩ := near_some hne
      refine ⟨fun q => absurd q (ni_m1 (by omega)), fun _ => ?_⟩
      have ea : nI i * 6 + oI (some e) = nI (i * 6 + e) := by show nI i * 6 + nI e = _; simp only [fa_lit, pk_mul, nI_add]
      rw [ea, nI_clamp (by omega)]
      refine ⟨vp_in_nI (by omega) (by decide), x_pence hl hL1 hK1 hA1 hN1 hb hh hi ht (fun M2 hF2 hK2 => ⟨vp_in_nI (by omega) (by decide), ?_⟩)⟩
      have hs2 := hs.fr hF2 (by decide)
      refine kk _ ⟨(hF.trans (hF2.mono (by decide))).put _ _ _ (by decide), hK2.fr (L := [c_debts_sums]) (fr_si (by decide)) (by decide) (by decide), fun p q hp hq => ?_⟩
      rw [si_same]
      by_cases c : p * 6 + q = i * 6 + e
      · have c1 : p = i := by omega
        have c2 : q = e := by omega
        subst c1; subst c2
        rw [up_s, hs p q hp hq]
        dsimp only
        rw [if_neg (Nat.lt_irrefl p), nI_add, if_pos (Nat.lt_succ_self p)]
        unfold addE
        rw [if_pos hi, if_pos hne]
      · rw [up_n c, hs2 p q hp hq]
        dsimp only
        by_cases c1 : p = i
        · subst c1
          rw [if_neg (Nat.lt_irrefl p), if_pos (Nat.lt_succ_self p)]
          unfold addE
          rw [if_pos hi, if_neg (by rw [hne]; intro z; exact c (by rw [Option.some.inj z])), Nat.add_zero]
        · by_cases c2 : p < i
          · rw [if_pos c2, if_pos (by omega)]
          · rw [if_neg c2, if_neg (by omega)]
def talS (l : Land) (at_ : Nat → Nat) (ds : Deeds) (sil p q : Nat) : Nat := fb_sm (fun h => fb_sm (fun b => addE l at_ b h (tms ds sil b h) p q) (lnb l)) 24
abbrev STL : List Nat := [c_debts_sums, c_debts_reach, c_debts_nearest, c_debts_gap, c_land_fog_stack, c_debts_rateKey, c_debts_rate, c_land_owe_stack]
theorem x_tally {l : Land} {at_ : Nat → Nat} {ds : Deeds} {sil : Nat} {M : Mem} {Q : Mem → Prop} (hl : LOK l) (hL : XLand l M) (hR : RC l M) (hK : KC l M) (hA : XAt l at_ M) (hT : XT ds M) (hs : sil < 2 ^ 31) (k : ∀ M', Fr STL M M' → RC l M' → KC l M' → XS (talS l at_ ds sil) M' → Q M') : w_Debts_tally (nI sil) M Q := by
  have hnb := hl.2.2.2.1
  unfold w_Debts_tally
  refine x_fill_sums (fun M0 hF0 h0 => ?_)
  refine for_loop (fun n i (M1 : Mem) => w_Debts_tally_L10 (nI sil) (fun M404 => Q M404) Q n (nI i) M1) (fun i M1 => Fr STL M M1 ∧ RC l M1 ∧ KC l M1 ∧ XS (fun p q => fb_sm (fun h => fb_sm (fun b => addE l at_ b h (tms ds sil b h) p q) (lnb l)) i) M1) 24 0 M0 (Nat.zero_le _) ⟨hF0.mono (by decide), hR.fr hF0 (by decide), hK.fr hF0 (by decide) (by decide), fun p q hp hq => h0 _ (by omega)⟩ ?_ ?_
  · intro n M1 ⟨hF, hR1, hK1, hs1⟩
    exact br_le (a := 24) (b := 24) (by decide) (by decide) (fun _ => k M1 hF hR1 hK1 hs1) (fun q => absurd q (by omega))
  · intro n i M1 _ hi ⟨hF, hR1, hK1, hs1⟩ kk
    have hL1 := hL.fr hF (by decide)
    have hA1 := hA.fr hF (by decide)
    have hT1 := hT.fr hF (by decide)
    refine br_le (a := 24) (by decide) (by omega) (fun q => absurd q (by omega)) (fun _ => ?_)
    rw [nI_1]
    refine x_isCalled hl hL1 hT1 hi hs ⟨fun q => absurd q (by decide), fun _ => ?_⟩ (fun hz => ⟨fun _ => kk M1 ⟨hF, hR1, hK1, hs1.to (fun p q _ _ => ?_)⟩, fun q => absurd q (by decide)⟩)
    · refine x_lookRound hl hL1 hR1 hA1 hi (fun M2 hF2 hR2 hN2 => ?_)
      have hFz := hF.trans (hF2.mono (L' := STL) (by decide))
      refine for_loop (fun n b (M3 : Mem) => w_Debts_tally_L32 (nI sil) (nI i) (fun M402 => w_Debts_tally_L10 (nI sil) (fun M404 => Q M404) Q _ (nI (i + 1)) M402) Q n (nI b) M3) (fun b M3 => Fr STL M M3 ∧ RC l M3 ∧ KC l M3 ∧ XNear l at_ i M3 ∧ XS (fun p q => fb_sm (fun h => fb_sm (fun b => addE l at_ b h (tms ds sil b h) p q) (lnb l)) i + fb_sm (fun b => addE l at_ b i (tms ds sil b i) p q) b) M3) (lnb l) 0 M2 (Nat.zero_le _) ⟨hFz, hR2, hK1.fr hF2 (by decide) (by decide), hN2, (hs1.fr hF2 (by decide)).to (fun p q _ _ => rfl)⟩ ?_ ?_
      · intro n3 M3 ⟨hF3, hR3, hK3, hN3, hs3⟩
        have hL3 := hL.fr hF3 (by decide)
        unfold w_Debts_tally_L32
        rw [hL3.2.2.1]
        exact br_le (by omega) (by omega) (fun _ => kk M3 ⟨hF3, hR3, hK3, hs3⟩) (fun q => absurd q (by omega))
      · intro n3 b M3 _ hb ⟨hF3, hR3, hK3, hN3, hs3⟩ kk3
        have hL3 := hL.fr hF3 (by decide)
        have hT3 := hT.fr hF3 (by decide)
        have hA3 := hA.fr hF3 (by decide)
        unfold w_Debts_tally_L32
        rw [hL3.2.2.1]
        refine br_le (by omega) (by omega) (fun q => absurd q (by omega)) (fun _ => x_heard hT3 (by omega) hi hs ?_)
        rw [nI_1]
        refine x_addEntries hl hL3 hK3 hA3 hN3 hs3 hb hi (tms_le hT3 (by omega) hi) (fun M4 hF4 hK4 hs4 => kk3 M4 ⟨hF3.trans (hF4.mono (by decide)), hR3.fr hF4 (by decide), hK4, hN3.fr hF4 (by decide) (by decide), hs4.to (fun p q _ _ => ?_)⟩)
        rw [fb_sm_succ (fun b => addE l at_ b i (tms ds sil b i) p q) b, Nat.add_assoc]
    · rw [fb_sm_succ]
      have : fb_sm (fun b => addE l at_ b i (tms ds sil b i) p q) (lnb l) = 0 := by
        rw [fb_sm_cong (g := fun _ => 0) (fun b hb => ?_), fb_sm_const, Nat.mul_zero]
        rw [hz b hb]; unfold addE pnc; simp
      rw [this, Nat.add_zero]
theorem cred_some {l : Land} {at_ : Nat → Nat} {b h p q : Nat} (hc : cred l at_ b h p = some q) : (near l at_ h p).1 = some q := by
  unfold cred at hc
  split at hc
  · exact hc
  · cases hc
theorem near_pnc {l : Land} {at_ : Nat → Nat} {b h p q t : Nat} : (if (near l at_ h p).1 = some q then pnc l at_ b h p t else 0) = if cred l at_ b h p = some q then pnc l at_ b h p t else 0 := by
  by_cases hc : cred l at_ b h p = some q
  · rw [if_pos hc, if_pos (cred_some hc)]
  · rw [if_neg hc]
    split
    · rename_i hn
      unfold pnc
      have : cred l at_ b h p = none := by
        unfold cred at hc ⊢
        split at hc
        · exact absurd hn hc
        · rename_i hh; rw [if_neg hh]
      rw [this]; simp
    · rfl
theorem talS_eq {l : Land} {at_ : Nat → Nat} {ds : Deeds} {sil p q : Nat} (hp : p < lnp l) : talS l at_ ds sil p q = owesN l at_ ds sil p q := by
  unfold talS owesN
  rw [fb_sm_swap]
  refine fb_sm_cong (fun b _ => fb_sm_cong (fun h _ => ?_))
  unfold addE
  rw [if_pos hp, near_pnc]
def podN (l : Land) (at_ : Nat → Nat) (ds : Deeds) (b p : Nat) : Nat := fb_sm (fun h => pnc l at_ b h p (dtimes ds (b * 24 + h))) 24
theorem x_penceOfDay {l : Land} {at_ : Nat → Nat} {ds : Deeds} {b p : Nat} {M : Mem} {Q : Int32 → Mem → Prop} (hl : LOK l) (hL : XLand l M) (hR : RC l M) (hK : KC l M) (hA : XAt l at_ M) (hT : XT ds M) (hb : b < lnb l) (hp : p < lnp l) (k : ∀ M', Fr SG M M' → RC l M' → KC l M' → Q (nI (podN l at_ ds b p)) M') : w_Debts_penceOfDay (nI b) (nI p) M Q := by
  have hnb := hl.2.2.2.1
  unfold w_Debts_penceOfDay
  refine for_loop (fun n i (M1 : Mem) => w_Debts_penceOfDay_L5 (nI b) (nI p) (fun y565 M564 => Q y565 M564) Q n (nI (fb_sm (fun h => pnc l at_ b h p (dtimes ds (b * 24 + h))) i)) (nI i) M1) (fun i M1 => Fr SG M M1 ∧ RC l M1 ∧ KC l M1) 24 0 M (Nat.zero_le _) ⟨Fr.rfl, hR, hK⟩ ?_ ?_
  · intro n M1 ⟨hF, hR1, hK1⟩
    exact br_le (a := 24) (b := 24) (by decide) (by decide) (fun _ => k M1 hF hR1 hK1) (fun q => absurd q (by omega))
  · intro n i M1 _ hi ⟨hF, hR1, hK1⟩ kk
    have hL1 := hL.fr hF (by decide)
    have hA1 := hA.fr hF (by decide)
    have hT1 := hT.fr hF (by decide)
    obtain ⟨t1, t2⟩ := hT1 (b * 24 + i) (by omega)
    refine br_le (a := 24) (by decide) (by omega) (fun q => absurd q (by omega)) (fun _ => ?_)
    have ea : nI b * 24 + nI i = nI (b * 24 + i) := by simp only [fa_lit, pk_mul, nI_add]
    rw [ea, nI_clamp (by omega), t1, nI_1]
    refine ⟨vp_in_nI (by omega) (by decide), fun x ex => ?_⟩
    subst ex
    refine br_le (b := 0) (by omega) (by decide) (fun q => ?_) (fun q => ?_)
    · have z := kk M1 ⟨hF, hR1, hK1⟩
      rw [fb_sm_succ, show dtimes ds (b * 24 + i) = 0 by omega] at z
      unfold pnc at z
      rw [if_pos rfl, Nat.add_zero] at z
      exact z
    · refine x_lookRound hl hL1 hR1 hA1 hi (fun M2 hF2 hR2 hN2 => ?_)
      have hL2 := hL1.fr hF2 (by decide)
      have hA2 := hA1.fr hF2 (by decide)
      refine x_pence hl hL2 (hK1.fr hF2 (by decide) (by decide)) hA2 hN2 hb hi hp t2 (fun M3 hF3 hK3 => ?_)
      rw [nI_add]
      exact kk M3 ⟨(hF.trans (hF2.mono (by decide))).trans (hF3.mono (by decide)), hR2.fr hF3 (by decide), hK3⟩
theorem x_allAsTold {l : Land} {M : Mem} {Q : Mem → Prop} (hl : LOK l) (hL : XLand l M) (k : ∀ M', Fr [c_debts_at] M M' → XAt l (lplace l) M' → Q M') : w_Debts_allAsTold M Q := by
  have hnp := hl.2.2.1
  refine k _ (fr_sa (by decide)) (fun p h hp hh => ⟨?_, hl.2.2.2.2.2.2.1 p h hp hh⟩)
  rw [sa_same]
  rw [pk_cpy_in (by rw [show Int32.toNatClampNeg 0 = 0 from rfl]; omega) (by rw [show Int32.toNatClampNeg 0 = 0 from rfl, show Int32.toNatClampNeg 144 = 144 from rfl]; omega)]
  rw [show Int32.toNatClampNeg 0 + (p * 24 + h - Int32.toNatClampNeg 0) = p * 24 + h by rw [show Int32.toNatClampNeg 0 = 0 from rfl]; omega]
  exact hL.2.2.2.2.2.2.1 p h hp hh
def putA (set f t c : Nat) (at_ : Nat → Nat) : Nat → Nat := fun i => if set.testBit (i / 24) = true ∧ f ≤ i % 24 ∧ i % 24 ≤ t then c else at_ i
theorem x_put {l : Land} {at_ : Nat → Nat} {set f t c : Nat} {M : Mem} {Q : Mem → Prop} (hl : LOK l) (hL : XLand l M) (hA : XAt l at_ M) (hset : set < 2 ^ 31) (ht : t < 24) (hf : f ≤ t + 1) (hc : c < 64) (k : ∀ M', Fr [c_debts_at] M M' → XAt l (putA set f t c at_) M' → Q M') : w_Debts_put (nI set) (nI f) (nI t) (nI c) M Q := by
  have hnp := hl.2.2.1
  have e1 : ∀ p h, h < 24 → (p * 24 + h) / 24 = p := by intro p h hh; omega
  have e2 : ∀ p h, h < 24 → (p * 24 + h) % 24 = h := by intro p h hh; omega
  unfold w_Debts_put
  refine for_loop (fun n i (M1 : Mem) => w_Debts_put_L3 (nI set) (nI f) (nI t) (nI c) (fun M467 => Q M467) Q n (nI i) M1) (fun i M1 => Fr [c_debts_at] M M1 ∧ ∀ p h, p < lnp l → h < 24 → M1.1 c_debts_at (p * 24 + h) = nI (if p < i then putA set f t c at_ (p * 24 + h) else at_ (p * 24 + h))) (lnp l) 0 M (Nat.zero_le _) ⟨Fr.rfl, fun p h hp hh => by simpa using (hA p h hp hh).1⟩ ?_ ?_
  · intro n M1 ⟨hF, hs⟩
    have hL1 := hL.fr hF (by decide)
    unfold w_Debts_put_L3
    rw [hL1.2.1]
    refine br_le (by omega) (by omega) (fun _ => k M1 hF (fun p h hp hh => ⟨?_, ?_⟩)) (fun q => absurd q (by omega))
    · have := hs p h hp hh; rw [if_pos hp] at this; exact this
    · unfold putA
      split
      · exact hc
      · exact (hA p h hp hh).2
  · intro n i M1 _ hi ⟨hF, hs⟩ kk
    have hL1 := hL.fr hF (by decide)
    unfold w_Debts_put_L3
    rw [hL1.2.1]
    refine br_le (by omega) (by omega) (fun q => absurd q (by omega)) (fun _ => ?_)
    rw [nI_1]
    by_cases hbit : set.testBit i = true
    · refine for_loop (fun n j (M2 : Mem) => w_Debts_put_L18 (nI set) (nI f) (nI t) (nI c) (nI i) (fun M465 => w_Debts_put_L3 (nI set) (nI f) (nI t) (nI c) (fun M467 => Q M467) Q _ (nI (i + 1)) M465) Q n (nI j) M2) (fun j M2 => Fr [c_debts_at] M M2 ∧ ∀ p h, p < lnp l → h < 24 → M2.1 c_debts_at (p * 24 + h) = nI (if p < i then putA set f t c at_ (p * 24 + h) else if p = i ∧ f ≤ h ∧ h < j then c else at_ (p * 24 + h))) (t + 1) f M1 hf ⟨hF, fun p h hp hh => ?_⟩ ?_ ?_
      · rw [hs p h hp hh]
        by_cases c1 : p < i
        · rw [if_pos c1, if_pos c1]
        · rw [if_neg c1, if_neg c1, if_neg (by omega)]
      · intro n2 M2 ⟨hF2, hs2⟩
        unfold w_Debts_put_L18
        refine br_lt (by omega) (by omega) (fun _ => kk M2 ⟨hF2, fun p h hp hh => ?_⟩) (fun q => absurd q (by omega))
        rw [hs2 p h hp hh]
        by_cases c1 : p < i
        · rw [if_pos c1, if_pos (by omega)]
        · rw [if_neg c1]
          by_cases c2 : p = i
          · subst c2
            rw [if_pos (by omega : p < p + 1)]
            unfold putA
            rw [e1 p h hh, e2 p h hh]
            congr 1
            by_cases c3 : f ≤ h ∧ h < t + 1
            · rw [if_pos ⟨rfl, c3⟩, if_pos ⟨hbit, c3.1, by omega⟩]
            · rw [if_neg (fun z => c3 z.2), if_neg (fun z => c3 ⟨z.2.1, by omega⟩)]
          · rw [if_neg (fun z => c2 z.1), if_neg (by omega)]
      · intro n2 j M2 hj1 hj ⟨hF2, hs2⟩ kk2
        unfold w_Debts_put_L18
        rw [bit_at hset (by omega)]
        refine br_lt (by omega) (by omega) (fun q => absurd q (by omega)) (fun _ => ⟨fun q => ?_, fun _ => ?_⟩)
        · rw [bitI_0, hbit] at q; cases q
        · have ea : nI i * 24 + nI j = nI (i * 24 + j) := by simp only [fa_lit, pk_mul, nI_add]
          rw [ea, nI_clamp (by omega), nI_1]
          refine ⟨vp_in_nI (by omega) (by decide), kk2 _ ⟨hF2.put _ _ _ (by decide), fun p h hp hh => ?_⟩⟩
          rw [si_same]
          by_cases c1 : p * 24 + h = i * 24 + j
          · have : p = i := by omega
            have : h = j := by omega
            subst p; subst h
            rw [up_s, if_neg (Nat.lt_irrefl i), if_pos ⟨rfl, hj1, by omega⟩]
          · rw [up_n c1, hs2 p h hp hh]
            by_cases c2 : p < i
            · rw [if_pos c2, if_pos c2]
            · rw [if_neg c2, if_neg c2]
              congr 1
              by_cases c3 : p = i ∧ f ≤ h ∧ h < j
              · rw [if_pos c3, if_pos ⟨c3.1, c3.2.1, by omega⟩]
              · rw [if_neg c3, if_neg (fun z => c3 ⟨z.1, z.2.1, by omega⟩)]
    · have hfin := kk M1 ⟨hF, fun p h hp hh => by
        rw [hs p h hp hh]
        by_cases c1 : p < i
        · rw [if_pos c1, if_pos (by omega)]
        · by_cases c2 : p = i
          · subst c2
            rw [if_neg c1, if_pos (by omega : p < p + 1)]
            unfold putA
            rw [e1 p h hh, if_neg (fun z => hbit z.1)]
          · rw [if_neg c1, if_neg (by omega)]⟩
      refine ⟨1, ?_⟩
      unfold w_Debts_put_L18
      rw [bit_at hset (by omega)]
      exact ⟨fun _ => hfin, fun _ => ⟨fun _ => hfin, fun q => absurd (bitI_0.mpr (by simpa using hbit)) q⟩⟩
