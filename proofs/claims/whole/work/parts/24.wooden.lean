/-! the wooden birds -/
def woS (l : Land) (ds : Deeds) (sil p : Nat) : Nat := fb_sm (fun b => if sil.testBit b then 0 else podN l (lplace l) ds b p) (lnb l)
def woP (l : Land) (ds : Deeds) (sil p : Nat) : Bool := decide (ddebt ds p = -1) || decide (ddebt ds p = nI (woS l ds sil p))
def woA (l : Land) (ds : Deeds) (sil : Nat) : Nat → Bool
  | 0 => true
  | n + 1 => woA l ds sil n && woP l ds sil n
def woR (l : Land) (ds : Deeds) (s : Nat) : Bool := decide (s &&& dshot ds = 0) && woA l ds (s ||| dshot ds) (lnp l)
def woL (l : Land) (ds : Deeds) : Nat → Int32
  | 0 => -1
  | n + 1 => if woR l ds n then (if fb_ct (woR l ds) n = 0 then nI n else woL l ds n) else woL l ds n
theorem woA_false {l : Land} {ds : Deeds} {sil i : Nat} (h : woP l ds sil i = false) : ∀ n, i < n → woA l ds sil n = false
  | 0, hn => absurd hn (Nat.not_lt_zero i)
  | n + 1, hn => by
    rw [woA]
    by_cases e : i = n
    · subst e; rw [h, Bool.and_false]
    · rw [woA_false h n (by omega), Bool.false_and]
def PW (l : Land) (ds : Deeds) (M : Mem) : Prop := ∀ b p, b < lnb l → p < lnp l → M.1 c_songs_price ((b * 6 + 0) * 6 + p) = nI (podN l (lplace l) ds b p)
theorem PW.fr {l : Land} {ds : Deeds} {M M' : Mem} {L : List Nat} (h : PW l ds M) (hF : Fr L M M') (hd : c_songs_price ∉ L) : PW l ds M' := by
  unfold PW; rw [hF.1 _ hd]; exact h
theorem x_isRightL {l : Land} {ds : Deeds} {sil i : Nat} {M : Mem} {K : Int32 → Mem → Prop} {Q : Bool → Mem → Prop} (hl : LOK l) (hL : XLand l M) (hP : PW l ds M) (hs : sil < 2 ^ 31) (hi : i < lnp l) (k : K (nI (woS l ds sil i)) M) : ∃ n, w_Songs_isRightWithout_L18 (nI sil) (nI i) K Q n 0 0 M := by
  have hnp := hl.2.2.1
  have hnb := hl.2.2.2.1
  refine for_loop (fun n j (M2 : Mem) => w_Songs_isRightWithout_L18 (nI sil) (nI i) K Q n (nI (fb_sm (fun b => if sil.testBit b then 0 else podN l (lplace l) ds b i) j)) (nI j) M2) (fun j M2 => M2 = M) (lnb l) 0 M (Nat.zero_le _) rfl ?_ ?_
  · intro n M1 e
    subst e
    unfold w_Songs_isRightWithout_L18
    rw [hL.2.2.1]
    exact br_le (by omega) (by omega) (fun _ => k) (fun q => absurd q (by omega))
  · intro n j M1 _ hj e kk
    subst e
    have kk := kk M1 rfl
    rw [fb_sm_succ] at kk
    unfold w_Songs_isRightWithout_L18
    rw [hL.2.2.1, bit_at hs (by omega)]
    refine br_le (by omega) (by omega) (fun q => absurd q (by omega)) (fun _ => ⟨fun q => ?_, fun q => ?_⟩)
    · rw [bitI_0] at q
      refine x_priceAt (b := j) (t := 0) (p := i) ⟨vp_in_nI (by omega) (by decide), fun x ex => ?_⟩
      rw [nI_clamp (by omega), hP j i hj hi, nI_add] at ex
      subst ex
      rw [q] at kk
      rw [nI_1]
      exact kk
    · rw [bitI_0, Bool.not_eq_false] at q
      rw [if_pos q, Nat.add_zero] at kk
      rw [nI_1, Int32.add_zero]
      exact kk
theorem x_isRight {l : Land} {ds : Deeds} {sil : Nat} {M : Mem} {Q : Bool → Mem → Prop} (hl : LOK l) (hL : XLand l M) (hB : XDb ds M) (hP : PW l ds M) (hs : sil < 2 ^ 31) (k : Q (woA l ds sil (lnp l)) M) : w_Songs_isRightWithout (nI sil) M Q := by
  have hnp := hl.2.2.1
  unfold w_Songs_isRightWithout
  refine for_loop (fun n i (M1 : Mem) => w_Songs_isRightWithout_L2 (nI sil) (fun M578 => Q true M578) Q n (nI i) M1) (fun i M1 => M1 = M ∧ woA l ds sil i = true) (lnp l) 0 M (Nat.zero_le _) ⟨rfl, rfl⟩ ?_ ?_
  · intro n M1 ⟨e, h1⟩
    subst e
    unfold w_Songs_isRightWithout_L2
    rw [hL.2.1]
    rw [h1] at k
    exact br_le (by omega) (by omega) (fun _ => k) (fun q => absurd q (by omega))
  · intro n i M1 _ hi ⟨e, h1⟩ kk
    subst e
    unfold w_Songs_isRightWithout_L2
    rw [hL.2.1]
    refine br_le (by omega) (by omega) (fun q => absurd q (by omega)) (fun _ => x_isRightL hl hL hP hs hi ?_)
    have hv : vp_in (nI i) 6 := vp_in_nI (by omega) (by decide)
    have e1 := (hB i (by omega)).1
    rw [nI_clamp (by omega), e1, nI_1]
    refine ⟨hv, fun q => kk M1 ⟨rfl, ?_⟩, fun q => ⟨hv, fun q2 => kk M1 ⟨rfl, ?_⟩, fun q2 => ?_⟩⟩
    · rw [woA, h1, woP, q]; rfl
    · rw [woA, h1, woP, q2]; simp
    · have : woP l ds sil i = false := by
        unfold woP
        rw [decide_eq_false q, decide_eq_false q2]; rfl
      rw [woA_false this _ hi] at k
      exact k
abbrev SWP : List Nat := [c_songs_price, c_debts_at, c_debts_reach, c_debts_nearest, c_debts_gap, c_land_fog_stack, c_debts_rateKey, c_debts_rate, c_land_owe_stack]
theorem x_woPrices {l : Land} {ds : Deeds} {M : Mem} {K : Mem → Prop} {Q : Mem → Prop} (hD : DX l ds M) (hA : XAt l (lplace l) M) (k : ∀ M', Fr SWP M M' → DX l ds M' → PW l ds M' → K M') : ∃ n, w_Songs_findWooden_L9 K Q n 0 M := by
  have hl := hD.1
  have hnp := hl.2.2.1
  have hnb := hl.2.2.2.1
  refine for_loop (fun n b (M1 : Mem) => w_Songs_findWooden_L9 K Q n (nI b) M1) (fun b0 M1 => Fr SWP M M1 ∧ DX l ds M1 ∧ XAt l (lplace l) M1 ∧ ∀ b p, b < b0 → p < lnp l → M1.1 c_songs_price ((b * 6 + 0) * 6 + p) = nI (podN l (lplace l) ds b p)) (lnb l) 0 M (Nat.zero_le _) ⟨Fr.rfl, hD, hA, fun b p hb => absurd hb (Nat.not_lt_zero b)⟩ ?_ ?_
  · intro n M1 ⟨hF, hD1, hA1, hs⟩
    unfold w_Songs_findWooden_L9
    rw [hD1.2.1.2.2.1]
    exact br_le (by omega) (by omega) (fun _ => k M1 hF hD1 hs) (fun q => absurd q (by omega))
  · intro n b0 M1 _ hb0 ⟨hF, hD1, hA1, hs⟩ kk
    unfold w_Songs_findWooden_L9
    rw [hD1.2.1.2.2.1]
    refine br_le (by omega) (by omega) (fun q => absurd q (by omega)) (fun _ => ?_)
    rw [nI_1]
    refine for_loop (fun m p (M2 : Mem) => w_Songs_findWooden_L22 (nI b0) (fun M569 => w_Songs_findWooden_L9 K Q n (nI (b0 + 1)) M569) Q m (nI p) M2) (fun p0 M2 => Fr SWP M M2 ∧ DX l ds M2 ∧ XAt l (lplace l) M2 ∧ ∀ b p, (b < b0 ∨ b = b0 ∧ p < p0) → p < lnp l → M2.1 c_songs_price ((b * 6 + 0) * 6 + p) = nI (podN l (lplace l) ds b p)) (lnp l) 0 M1 (Nat.zero_le _) ⟨hF, hD1, hA1, fun b p hb hp => hs b p (by omega) hp⟩ ?_ ?_
    · intro m M2 ⟨hF2, hD2, hA2, hs2⟩
      unfold w_Songs_findWooden_L22
      rw [hD2.2.1.2.1]
      exact br_le (by omega) (by omega) (fun _ => kk M2 ⟨hF2, hD2, hA2, fun b p hb hp => hs2 b p (by omega) hp⟩) (fun q => absurd q (by omega))
    · intro m p0 M2 _ hp0 ⟨hF2, hD2, hA2, hs2⟩ kk2
      unfold w_Songs_findWooden_L22
      rw [hD2.2.1.2.1]
      refine br_le (by omega) (by omega) (fun q => absurd q (by omega)) (fun _ => x_priceAt (b := b0) (t := 0) (p := p0) (x_penceOfDay hl hD2.2.1 hD2.2.2.1 hD2.2.2.2.1 hA2 hD2.2.2.2.2.1 hb0 hp0 (fun M3 hF3 hR3 hK3 => ⟨vp_in_nI (by omega) (by decide), ?_⟩)))
      rw [nI_1, nI_clamp (by omega)]
      generalize hM4 : si M3 c_songs_price ((b0 * 6 + 0) * 6 + p0) (nI (podN l (lplace l) ds b0 p0)) = M4
      have hF4 : Fr [c_songs_price] M3 M4 := by rw [← hM4]; exact fr_si (by decide)
      have hD3 := hD2.sg hF3 (by decide) hR3 hK3
      refine kk2 M4 ⟨(hF2.trans (hF3.mono (by decide))).trans (hF4.mono (by decide)), hD3.fr hF4 (by decide), (hA2.fr hF3 (by decide)).fr hF4 (by decide), fun b p hb hp => ?_⟩
      rw [← hM4, si_same]
      by_cases e : (b * 6 + 0) * 6 + p = (b0 * 6 + 0) * 6 + p0
      · have e1 : b = b0 := by omega
        have e2 : p = p0 := by omega
        subst e1; subst e2
        exact up_s
      · rw [up_n e, hF3.1 _ (by decide)]
        exact hs2 b p (by omega) hp
abbrev SWO : List Nat := [c_songs, c_songs_price, c_debts_at, c_debts_reach, c_debts_nearest, c_debts_gap, c_land_fog_stack, c_debts_rateKey, c_debts_rate, c_land_owe_stack]
theorem x_findWooden {l : Land} {ds : Deeds} {M : Mem} {Q : Mem → Prop} (hD : DX l ds M) (hB : XDb ds M) (k : ∀ M', Fr SWO M M' → DX l ds M' → M'.1 c_songs Songs_found = nI (fb_ct (woR l ds) (2 ^ lnb l)) → M'.1 c_songs Songs_leastSet = woL l ds (2 ^ lnb l) → Q M') : w_Songs_findWooden M Q := by
  have hl := hD.1
  have hnb := hl.2.2.2.1
  have h2 : 2 ^ lnb l ≤ 2 ^ 5 := Nat.pow_le_pow_right (by decide) hnb
  unfold w_Songs_findWooden
  refine x_allAsTold hl hD.2.1 (fun M0 hF0 hA0 => x_woPrices (hD.fr hF0 (by decide)) hA0 (fun M1 hF1 hD1 hP1 => ?_))
  generalize hM2 : si (si M1 c_songs Songs_found 0) c_songs Songs_leastSet (-1) = M2
  have hF2 : Fr [c_songs] M1 M2 := by rw [← hM2]; exact (fr_si (by decide)).trans (fr_si (by decide))
  have hFz : Fr SWO M M2 := ((hF0.mono (by decide)).trans (hF1.mono (by decide))).trans (hF2.mono (by decide))
  refine for_loop (fun n i (M3 : Mem) => w_Songs_findWooden_L77 (fun M582 => Q M582) Q n (nI i) M3) (fun i M3 => Fr SWO M M3 ∧ DX l ds M3 ∧ PW l ds M3 ∧ M3.1 c_songs Songs_found = nI (fb_ct (woR l ds) i) ∧ M3.1 c_songs Songs_leastSet = woL l ds i) (2 ^ lnb l) 0 M2 (Nat.zero_le _) ⟨hFz, hD1.fr hF2 (by decide), hP1.fr hF2 (by decide), ?_, ?_⟩ ?_ ?_
  · rw [← hM2, si_same, up_n (by decide), si_same, up_s]; rfl
  · rw [← hM2, si_same, up_s]; rfl
  · intro n M3 ⟨hF3, hD3, hP3, hf3, hs3⟩
    unfold w_Songs_findWooden_L77
    rw [hD3.2.1.2.2.1, shl1 (by omega)]
    exact br_le (by omega) (by omega) (fun _ => k M3 hF3 hD3 hf3 hs3) (fun q => absurd q (by omega))
  · intro n i M3 _ hi ⟨hF3, hD3, hP3, hf3, hs3⟩ kk
    have hsh : dshot ds < 32 := hD3.2.2.2.2.2.2
    have hor : i ||| dshot ds < 2 ^ 31 := Nat.or_lt_two_pow (by omega) (by omega)
    have hand : i &&& dshot ds ≤ i := Nat.and_le_left
    unfold w_Songs_findWooden_L77
    rw [hD3.2.1.2.2.1, shl1 (by omega), hD3.2.2.2.2.2.1, fa_and, fa_or, nI_1]
    refine br_le (by omega) (by omega) (fun q => absurd q (by omega)) (fun _ => br_ne (b := 0) (by omega) (by decide) (fun q => ?_) (fun q => ?_))
    · have hw : woR l ds i = false := by unfold woR; rw [decide_eq_false q]; rfl
      refine kk M3 ⟨hF3, hD3, hP3, ?_, ?_⟩
      · rw [fb_ct_succ, hw]; exact hf3
      · rw [woL, hw]; exact hs3
    · refine x_isRight hl hD3.2.1 (hB.fr hF3 (by decide)) hP3 hor ⟨fun hw => ?_, fun hw => ?_⟩
      · have hw : woR l ds i = false := by unfold woR; rw [hw, Bool.and_false]
        refine kk M3 ⟨hF3, hD3, hP3, ?_, ?_⟩
        · rw [fb_ct_succ, hw]; exact hf3
        · rw [woL, hw]; exact hs3
      · have hw : woR l ds i = true := by unfold woR; rw [hw, decide_eq_true q]; rfl
        have hct := fb_ct_le (woR l ds) i
        generalize hM4 : si (si M3 c_songs Songs_leastSet (if M3.1 c_songs Songs_found = 0 then nI i else M3.1 c_songs Songs_leastSet)) c_songs Songs_found (M3.1 c_songs Songs_found + 1) = M4
        have hF4 : Fr [c_songs] M3 M4 := by rw [← hM4]; exact (fr_si (by decide)).trans (fr_si (by decide))
        refine kk M4 ⟨hF3.trans (hF4.mono (by decide)), hD3.fr hF4 (by decide), hP3.fr hF4 (by decide), ?_, ?_⟩
        · rw [← hM4, si_same, up_s, hf3, nI_1, fb_ct_succ, hw]; rfl
        · rw [← hM4, si_same, up_n (by decide), si_same, up_s, hf3, hs3, woL, hw]
          by_cases c : fb_ct (woR l ds) i = 0
          · rw [c]; rfl
          · have c' : ¬ nI (fb_ct (woR l ds) i) = (0 : Int32) := fun z => c (ni_inj (b := 0) (by omega) (by decide) z)
            rw [if_neg c', if_pos rfl, if_neg c]
def woodR (l : Land) (ds : Deeds) (a : Int32) : Int32 := if a < 0 then -1 else if a ≤ 1 then (if a = 0 then nI (fb_ct (woR l ds) (2 ^ lnb l)) else woL l ds (2 ^ lnb l)) else -1
theorem x_Twooden {l : Land} {ds : Deeds} {a : Int32} {M : Mem} {Q : Int32 → Mem → Prop} (hD : DX l ds M) (hB : XDb ds M) (k : ∀ M', Fr SWO M M' → DX l ds M' → Q (woodR l ds a) M') : w_Top_wooden a M Q := by
  unfold w_Top_wooden
  refine ⟨fun h1 => ?_, fun h1 => ⟨fun h2 => x_findWooden hD hB (fun M' hF' hD' hf hs => ?_), fun h2 => ?_⟩⟩
  · have := k M Fr.rfl hD
    rw [woodR, if_pos h1] at this; exact this
  · have := k M' hF' hD'
    rw [woodR, if_neg h1, if_pos h2, ← hf, ← hs] at this; exact this
  · have := k M Fr.rfl hD
    rw [woodR, if_neg h1, if_neg h2] at this; exact this
