/-! the class's debts -/
theorem m8 {i : Nat} (h : i < 2 ^ 31) : nI i - nI i / 8 * 8 = nI (i % 8) := pk_rem h (by decide) (by decide)
theorem d8 {i : Nat} (h : i < 2 ^ 31) : nI i / 8 = nI (i / 8) := pk_div h (by decide) (by decide)
theorem absd {a b : Nat} (ha : a < 2 ^ 30) (hb : b < 2 ^ 30) : (if 0 ≤ nI a - nI b then nI a - nI b else -(nI a - nI b)) = nI (ab a b) := by
  have e := pk_sub_toInt ha hb
  have hz : (0 : Int32).toInt = 0 := rfl
  by_cases h : b ≤ a
  · rw [if_pos (by rw [fa_le, e, hz]; omega), pk_sub h]
    congr 1
    unfold ab; omega
  · rw [if_neg (by rw [fa_le, e, hz]; omega)]
    rw [show ab a b = b - a by unfold ab; omega, ← pk_sub (by omega)]
    exact Int32.neg_sub
theorem x_far {i j : Nat} {M : Mem} {Q : Int32 → Mem → Prop} (hi : i < 64) (hj : j < 64) (k : Q (nI (dst i j)) M) : w_Debts_far (nI i) (nI j) M Q := by
  intro x ex
  rw [m8 (by omega), m8 (by omega)] at ex
  subst ex
  show Q _ M
  rw [d8 (by omega), d8 (by omega), absd (by omega) (by omega), absd (by omega) (by omega), nI_add]
  exact k
theorem dst_comm (a b : Nat) : dst a b = dst b a := by unfold dst ab; omega
theorem s_l : ∀ n, n < 32 → ((nI n &&& 31).toBitVec.smod 32).toNat = n := by decide +kernel
theorem bit_at {s b : Nat} (hs : s < 2 ^ 31) (hb : b < 32) : (nI s >>> (nI b &&& 31)) &&& 1 = bitI s b := by
  rw [pk_shrN hs _ b (s_l b hb), pk_andN (by have := Nat.div_le_self s (2 ^ b); omega) 1 (by decide)]
  unfold bitI
  rw [Nat.testBit_eq_decide_div_mod_eq]
  rcases Nat.mod_two_eq_zero_or_one (s / 2 ^ b) with q | q
  · rw [show (2 : Nat) ^ 1 = 2 from rfl, q]; rfl
  · rw [show (2 : Nat) ^ 1 = 2 from rfl, q]; rfl
theorem bitI_0 {s b : Nat} : bitI s b = 0 ↔ s.testBit b = false := by
  unfold bitI
  cases s.testBit b <;> simp
theorem x_within {v : Int32} {hi : Nat} {M : Mem} {Q : Int32 → Mem → Prop} (hh : hi < 2 ^ 31) (k : Q (nI (clip v hi)) M) : w_Debts_within v (nI hi) M Q := by
  have e : (if (0 : Int32) < (if nI hi < v then nI hi else v) then (if nI hi < v then nI hi else v) else 0) = nI (clip v hi) := by
    unfold clip
    by_cases h1 : v < 0
    · rw [if_pos h1, if_neg (c := nI hi < v)]
      · rw [if_neg]
        · rfl
        · rw [fa_lt] at h1 ⊢; omega
      · rw [fa_lt] at h1 ⊢; rw [nI_toInt hh]; rw [show (0 : Int32).toInt = 0 from rfl] at h1; omega
    · rw [if_neg h1]
      obtain ⟨j, hj, rfl⟩ := nI_of h1
      by_cases h2 : nI hi < nI j
      · simp only [if_pos h2]
        by_cases h3 : hi = 0
        · subst h3; rfl
        · rw [if_pos]
          exact (nI_ltI (a := 0) (by omega) hh).mpr (by omega)
      · simp only [if_neg h2]
        rw [nI_clamp hj]
        by_cases h3 : j = 0
        · subst h3; rfl
        · rw [if_pos]
          exact (nI_ltI (a := 0) (by omega) hj).mpr (by omega)
  show Q _ M
  rw [e]; exact k
/-- how the hills lie in the class's cells -/
def XLaw (M : Mem) (k kc : Nat) (c : List Int32) : Prop := ∃ f, M.1 k Law_from = nI f ∧ M.1 k Law_to = nI (f + c.length) ∧ f + c.length ≤ 1024 ∧ ∀ i, i < c.length → M.1 kc (f + i) = c.getD i 0
def XLand (l : Land) (M : Mem) : Prop :=
  (M.1 c_land Land_wide = nI (lwide l) ∧ M.1 c_land Land_deep = nI (ldeep l)) ∧ M.1 c_land Land_people = nI (lnp l) ∧ M.1 c_land Land_birds = nI (lnb l) ∧ M.1 c_land Land_hear = nI (lhear l) ∧
  (∀ p, p < lnp l → M.1 c_land_kind p = nI (lkind l p)) ∧ (∀ p, p < lnp l → M.1 c_land_purse p = nI (lpurse l p)) ∧ (∀ p h, p < lnp l → h < 24 → M.1 c_land_place (p * 24 + h) = nI (lplace l (p * 24 + h))) ∧ (∀ b, b < lnb l → M.1 c_land_bush b = nI (lbush l b)) ∧
  XLaw M c_land_owe c_land_code (lowe l) ∧ XLaw M c_land_fog c_land_code (lfog l)
abbrev LC : List Nat := [c_land, c_land_kind, c_land_purse, c_land_place, c_land_bush, c_land_code, c_land_owe, c_land_fog]
theorem XLand.mv {l : Land} {M M' : Mem} (h : XLand l M) (e : ∀ k ∈ LC, M'.1 k = M.1 k) : XLand l M' := by
  have e1 := e c_land (by decide)
  have e2 := e c_land_kind (by decide)
  have e3 := e c_land_purse (by decide)
  have e4 := e c_land_place (by decide)
  have e5 := e c_land_bush (by decide)
  have e6 := e c_land_code (by decide)
  have e7 := e c_land_owe (by decide)
  have e8 := e c_land_fog (by decide)
  unfold XLand XLaw at h ⊢
  rw [e1, e2, e3, e4, e5, e6, e7, e8]
  exact h
theorem XLand.fr {l : Land} {M M' : Mem} {L : List Nat} (h : XLand l M) (hF : Fr L M M') (hd : ∀ k ∈ LC, k ∉ L) : XLand l M' := h.mv (fun k hk => hF.1 k (hd k hk))
def XAt (l : Land) (at_ : Nat → Nat) (M : Mem) : Prop := ∀ p h, p < lnp l → h < 24 → M.1 c_debts_at (p * 24 + h) = nI (at_ (p * 24 + h)) ∧ at_ (p * 24 + h) < 64
theorem XAt.fr {l : Land} {at_ : Nat → Nat} {M M' : Mem} {L : List Nat} (h : XAt l at_ M) (hF : Fr L M M') (hd : c_debts_at ∉ L) : XAt l at_ M' := by
  unfold XAt; rw [hF.1 _ hd]; exact h
/-- the kept answers of the laws are right -/
def RC (l : Land) (M : Mem) : Prop := 0 < lnp l → ∀ h c, h < 24 → c < 64 → M.1 c_debts_reach (h * 64 + c) = -1 ∨ M.1 c_debts_reach (h * 64 + c) = nI (fogv l h c)
def KC (l : Land) (M : Mem) : Prop := 0 < lnp l → ∀ s, s < 512 → M.1 c_debts_rateKey s = -1 ∨ ∃ h t a g, h < 24 ∧ t ≤ 9 ∧ a ≤ 14 ∧ g ≤ 14 ∧ M.1 c_debts_rateKey s = nI (((h * 10 + t) * 15 + a) * 15 + g) ∧ M.1 c_debts_rate s = nI (ratev l h a g t)
theorem RC.fr {l : Land} {M M' : Mem} {L : List Nat} (h : RC l M) (hF : Fr L M M') (hd : c_debts_reach ∉ L) : RC l M' := by
  unfold RC; rw [hF.1 _ hd]; exact h
theorem KC.fr {l : Land} {M M' : Mem} {L : List Nat} (h : KC l M) (hF : Fr L M M') (hd : c_debts_rateKey ∉ L) (hd2 : c_debts_rate ∉ L) : KC l M' := by
  unfold KC; rw [hF.1 _ hd, hF.1 _ hd2]; exact h
def NP (l : Land) (at_ : Nat → Nat) (h : Nat) (M : Mem) (p v : Nat) : Prop := M.1 c_debts_nearest p = oI (nrs (fun e => dst (at_ (p * 24 + h)) (at_ (e * 24 + h))) p (fogv l h (at_ (p * 24 + h)) + 1) v).1 ∧ M.1 c_debts_gap p = nI (nrs (fun e => dst (at_ (p * 24 + h)) (at_ (e * 24 + h))) p (fogv l h (at_ (p * 24 + h)) + 1) v).2
def NSt (l : Land) (at_ : Nat → Nat) (h : Nat) (c : Nat → Nat) (M : Mem) : Prop := ∀ p, p < lnp l → NP l at_ h M p (c p)
theorem NP.to {l : Land} {at_ : Nat → Nat} {h : Nat} {M : Mem} {p v w : Nat} (H : NP l at_ h M p v) (e : v = w) : NP l at_ h M p w := e ▸ H
theorem NP.skip {l : Land} {at_ : Nat → Nat} {h : Nat} {M : Mem} {p : Nat} (H : NP l at_ h M p p) : NP l at_ h M p (p + 1) := by
  unfold NP at *
  rw [nrs, if_neg (fun z => z.1 rfl)]
  exact H
theorem NP.mv {l : Land} {at_ : Nat → Nat} {h : Nat} {M M' : Mem} {p v : Nat} (H : NP l at_ h M p v) (e1 : M'.1 c_debts_nearest p = M.1 c_debts_nearest p) (e2 : M'.1 c_debts_gap p = M.1 c_debts_gap p) : NP l at_ h M' p v := by
  unfold NP; rw [e1, e2]; exact H
def XNear (l : Land) (at_ : Nat → Nat) (h : Nat) (M : Mem) : Prop := NSt l at_ h (fun _ => lnp l) M
theorem XNear.fr {l : Land} {at_ : Nat → Nat} {h : Nat} {M M' : Mem} {L : List Nat} (hN : XNear l at_ h M) (hF : Fr L M M') (hd : c_debts_nearest ∉ L) (hd2 : c_debts_gap ∉ L) : XNear l at_ h M' := by
  exact fun p hp => (hN p hp).mv (by rw [hF.1 _ hd]) (by rw [hF.1 _ hd2])
theorem XNear.at {l : Land} {at_ : Nat → Nat} {h p : Nat} {M : Mem} (hN : XNear l at_ h M) (hp : p < lnp l) : M.1 c_debts_nearest p = oI (near l at_ h p).1 ∧ M.1 c_debts_gap p = nI (near l at_ h p).2 := hN p hp
theorem x_meet {l : Land} {at_ : Nat → Nat} {h p e : Nat} {c : Nat → Nat} {M : Mem} {Q : Mem → Prop} (hnp : lnp l ≤ 6) (hp : p < lnp l) (he : c p = e) (hne : e ≠ p) (hd : dst (at_ (p * 24 + h)) (at_ (e * 24 + h)) < 64) (hN : NSt l at_ h c M) (k : ∀ M', Fr [c_debts_nearest, c_debts_gap] M M' → NSt l at_ h (fun q => if q = p then e + 1 else c q) M' → Q M') : w_Debts_meet (nI p) (nI e) (nI (dst (at_ (p * 24 + h)) (at_ (e * 24 + h)))) M Q := by
  have h31 : p < 2 ^ 31 := by omega
  have hin : vp_in (nI p) 6 := vp_in_nI (by omega) (by decide)
  obtain ⟨h1, h2⟩ := hN p hp
  rw [he] at h1 h2
  have hg : (nrs (fun e => dst (at_ (p * 24 + h)) (at_ (e * 24 + h))) p (fogv l h (at_ (p * 24 + h)) + 1) e).2 ≤ 15 := Nat.le_trans (nrs_le _ _ _ _) (by have := fogv_le l h (at_ (p * 24 + h)); omega)
  unfold w_Debts_meet
  rw [nI_clamp h31, h2]
  refine ⟨hin, br_le (by omega) (by omega) (fun q => ?_) (fun q => ?_)⟩
  · refine k M Fr.rfl (fun r hr => ?_)
    show NP l at_ h M r (if r = p then e + 1 else c r)
    by_cases hrp : r = p
    · subst hrp
      rw [if_pos rfl]
      unfold NP
      rw [nrs, if_neg (fun z => by have := z.2; omega)]
      exact ⟨h1, h2⟩
    · rw [if_neg hrp]; exact hN r hr
  · refine ⟨hin, hin, k _ ((fr_si (by decide)).trans (fr_si (by decide))) (fun r hr => ?_)⟩
    show NP l at_ h _ r (if r = p then e + 1 else c r)
    by_cases hrp : r = p
    · subst hrp
      rw [if_pos rfl]
      unfold NP
      rw [si_ne (k := c_debts_gap) (q := c_debts_nearest) _ _ _ (by decide), si_same, si_same, si_ne (k := c_debts_nearest) (q := c_debts_gap) _ _ _ (by decide), nrs, if_pos ⟨hne, q⟩, up_s, up_s]
      exact ⟨rfl, rfl⟩
    · rw [if_neg hrp]
      refine (hN r hr).mv ?_ ?_
      · rw [si_ne (k := c_debts_gap) (q := c_debts_nearest) _ _ _ (by decide), si_same, up_n hrp]
      · rw [si_same, up_n hrp, si_ne (k := c_debts_nearest) (q := c_debts_gap) _ _ _ (by decide)]
abbrev SLR : List Nat := [c_debts_reach, c_debts_nearest, c_debts_gap, c_land_fog_stack]
theorem x_lookRound {l : Land} {at_ : Nat → Nat} {h : Nat} {M : Mem} {Q : Mem → Prop} (hl : LOK l) (hL : XLand l M) (hC : RC l M) (hA : XAt l at_ M) (hh : h < 24) (k : ∀ M', Fr SLR M M' → RC l M' → XNear l at_ h M' → Q M') : w_Debts_lookRound (nI h) M Q := by
  have hnp : lnp l ≤ 6 := hl.2.2.1
  unfold w_Debts_lookRound
  refine for_loop (fun n i (M1 : Mem) => w_Debts_lookRound_L2 (nI h) (fun M338 => (∃ n347, w_Debts_lookRound_L106 (nI h) (fun M346 => Q M346) Q n347 0 M338)) Q n (nI i) M1)
    (fun i M1 => Fr SLR M M1 ∧ RC l M1 ∧ ∀ p, p < i → M1.1 c_debts_nearest p = -1 ∧ M1.1 c_debts_gap p = nI (fogv l h (at_ (p * 24 + h)) + 1)) (lnp l) 0 M (Nat.zero_le _) ⟨Fr.rfl, hC, fun p hp => absurd hp (Nat.not_lt_zero p)⟩ ?_ ?_
  · intro n M1 ⟨hF, hC1, hs⟩
    have hL1 := hL.fr hF (by decide)
    have hA1 := hA.fr hF (by decide)
    unfold w_Debts_lookRound_L2
    rw [hL1.2.1]
    refine br_le (by omega) (by omega) (fun _ => ?_) (fun q => absurd q (by omega))
    refine for_loop (fun n a (M2 : Mem) => w_Debts_lookRound_L106 (nI h) (fun M346 => Q M346) Q n (nI a) M2)
      (fun a M2 => Fr SLR M M2 ∧ RC l M2 ∧ NSt l at_ h (fun p => if p < a then lnp l else a) M2) (lnp l) 0 M1 (Nat.zero_le _) ⟨hF, hC1, fun p hp => ?_⟩ ?_ ?_
    · exact NP.to (v := 0) (hs p hp) (by simp)
    · intro n M2 ⟨hF2, hC2, hN⟩
      have hL2 := hL.fr hF2 (by decide)
      unfold w_Debts_lookRound_L106
      rw [hL2.2.1]
      refine br_le (by omega) (by omega) (fun _ => k M2 hF2 hC2 (fun p hp => (hN p hp).to (if_pos hp))) (fun q => absurd q (by omega))
    · intro n a M2 _ ha ⟨hF2, hC2, hN⟩ kk
      have hL2 := hL.fr hF2 (by decide)
      unfold w_Debts_lookRound_L106
      rw [hL2.2.1]
      refine br_le (by omega) (by omega) (fun q => absurd q (by omega)) (fun _ => ?_)
      rw [nI_1]
      refine for_loop (fun n o (M3 : Mem) => w_Debts_lookRound_L121 (nI h) (nI a) (fun M344 => w_Debts_lookRound_L106 (nI h) (fun M346 => Q M346) Q _ (nI (a + 1)) M344) Q n (nI o) M3)
        (fun o M3 => Fr SLR M M3 ∧ RC l M3 ∧ NSt l at_ h (fun p => if p < a then lnp l else if p = a then o else if p < o then a + 1 else a) M3) (lnp l) (a + 1) M2 (by omega) ⟨hF2, hC2, fun p hp => ?_⟩ ?_ ?_
      · have hz := hN p hp
        by_cases c1 : p < a
        · exact hz.to (by simp only [if_pos c1])
        · by_cases c2 : p = a
          · subst c2
            exact ((hz.to (w := p) (by simp)).skip).to (by simp)
          · exact hz.to (by simp only [if_neg c1, if_neg c2]; rw [if_neg (by omega)])
      · intro n3 M3 ⟨hF3, hC3, hN3⟩
        have hL3 := hL.fr hF3 (by decide)
        unfold w_Debts_lookRound_L121
        rw [hL3.2.1]
        refine br_le (by omega) (by omega) (fun _ => kk M3 ⟨hF3, hC3, fun p hp => ?_⟩) (fun q => absurd q (by omega))
        have hz := hN3 p hp
        by_cases c1 : p < a
        · exact hz.to (by simp only [if_pos c1]; rw [if_pos (by omega)])
        · by_cases c2 : p = a
          · subst c2
            exact hz.to (by simp)
          · exact hz.to (by simp only [if_neg c1, if_neg c2, if_pos hp]; rw [if_neg (by omega)])
      · intro n3 o M3 ho1 ho ⟨hF3, hC3, hN3⟩ kk3
        have hL3 := hL.fr hF3 (by decide)
        have hA3 := hA.fr hF3 (by decide)
        obtain ⟨e1, e2⟩ := hA3 a h ha hh
        obtain ⟨e3, e4⟩ := hA3 o h ho hh
        unfold w_Debts_lookRound_L121
        rw [hL3.2.1]
        refine br_le (by omega) (by omega) (fun q => absurd q (by omega)) (fun _ => ?_)
        simp only [fa_lit, pk_mul, nI_add]
        rw [nI_clamp (by omega), nI_clamp (by omega), e1, e3]
        refine ⟨vp_in_nI (by omega) (by decide), vp_in_nI (by omega) (by decide), x_far e2 e4 ?_⟩
        have hd1 := dst_le e2 e4
        refine x_meet hnp ha (c := _) (e := o) (by simp) (by omega) (by omega) hN3 (fun M4 hF4 hN4 => ?_)
        rw [dst_comm]
        have hd2 := dst_le e4 e2
        refine x_meet hnp ho (e := a) (by show (if o = a then o + 1 else if o < a then lnp l else if o = a then o else if o < o then a + 1 else a) = a; rw [if_neg (by omega), if_neg (by omega), if_neg (by omega), if_neg (by omega)]) (by omega) (by omega) hN4 (fun M5 hF5 hN5 => ?_)
        have hF6 := hF3.trans ((hF4.trans hF5).mono (by decide))
        refine kk3 M5 ⟨hF6, hC3.fr (hF4.trans hF5) (by decide), fun p hp => ?_⟩
        refine (hN5 p hp).to ?_
        show (if p = o then a + 1 else if p = a then o + 1 else if p < a then lnp l else if p = a then o else if p < o then a + 1 else a) = (if p < a then lnp l else if p = a then o + 1 else if p < o + 1 then a + 1 else a)
        (repeat' split) <;> omega
  · intro n i M1 _ hi ⟨hF, hC1, hs⟩ kk
    have hL1 := hL.fr hF (by decide)
    have hA1 := hA.fr hF (by decide)
    obtain ⟨e1, e2⟩ := hA1 i h hi hh
    obtain ⟨f, f1, f2, f3, f4⟩ := hL1.2.2.2.2.2.2.2.2.2
    unfold w_Debts_lookRound_L2
    rw [hL1.2.1]
    refine br_le (by omega) (by omega) (fun q => absurd q (by omega)) (fun _ => ?_)
    simp only [fa_lit, pk_mul, nI_add]
    rw [nI_clamp (by omega), e1]
    refine ⟨vp_in_nI (by omega) (by decide), fun x ex => ?_⟩
    subst ex
    simp only [nI_add]
    have e9 : h * 64 + at_ (i * 24 + h) < 1536 := by omega
    rw [nI_clamp (by omega)]
    have hin : vp_in (nI (h * 64 + at_ (i * 24 + h))) 1536 := vp_in_nI e9 (by decide)
    have hin6 : vp_in (nI i) 6 := vp_in_nI (by omega) (by decide)
    have fin : ∀ M2, Fr SLR M1 M2 → RC l M2 → (∀ p, p < i → M2.1 c_debts_nearest p = M1.1 c_debts_nearest p ∧ M2.1 c_debts_gap p = M1.1 c_debts_gap p) → M2.1 c_debts_reach (h * 64 + at_ (i * 24 + h)) = nI (fogv l h (at_ (i * 24 + h))) → w_Debts_lookRound_j76 (fun l2 M => w_Debts_lookRound_L2 (nI h) (fun M338 => (∃ n347, w_Debts_lookRound_L106 (nI h) (fun M346 => Q M346) Q n347 (nI 0) M338)) Q n l2 M) (fun M338 => (∃ n347, w_Debts_lookRound_L106 (nI h) (fun M346 => Q M346) Q n347 (nI 0) M338)) (nI h) (nI i) (nI (h * 64 + at_ (i * 24 + h))) M2 Q := by
      intro M2 hF2 hC2 hold hr
      unfold w_Debts_lookRound_j76
      rw [nI_clamp (by omega), nI_clamp (by omega), hr]
      refine ⟨hin6, hin, hin6, ?_⟩
      rw [nI_1, nI_1]
      refine kk _ ⟨((hF.trans hF2).put _ _ _ (by decide)).put _ _ _ (by decide), RC.fr hC2 (L := [c_debts_nearest, c_debts_gap]) ((fr_si (by decide)).trans (fr_si (by decide))) (by decide), fun p hp => ?_⟩
      rw [si_ne (k := c_debts_gap) (q := c_debts_nearest) _ _ _ (by decide), si_same, si_same, si_ne (k := c_debts_nearest) (q := c_debts_gap) _ _ _ (by decide)]
      by_cases hpi : p = i
      · subst hpi
        rw [up_s, up_s]
        exact ⟨rfl, rfl⟩
      · rw [up_n hpi, up_n hpi]
        obtain ⟨a1, a2⟩ := hold p (by omega)
        rw [a1, a2]
        exact hs p (by omega)
    rw [show nI (at_ (i * 24 + h)) - nI (at_ (i * 24 + h)) / nI 8 * nI 8 = nI (at_ (i * 24 + h) % 8) from m8 (by omega), show nI (at_ (i * 24 + h)) / nI 8 = nI (at_ (i * 24 + h) / 8) from d8 (by omega)]
    refine ⟨hin, fun q => ?_, fun q => ?_⟩
    · rcases hC1 (by omega) h (at_ (i * 24 + h)) hh e2 with r | r
      · exact absurd r q
      · exact fin M1 Fr.rfl hC1 (fun p _ => ⟨rfl, rfl⟩) r
    · refine x_valueF hl.2.2.2.2.2.2.2.2.2 f1 f2 f3 f4 (fun M2 hF2 => ?_)
      refine x_within (hi := 14) (by decide) ⟨hin, ?_⟩
      refine fin _ ((hF2.mono (by decide)).put _ _ _ (by decide)) (fun _ h' c' hh' hc' => ?_) (fun p _ => ?_) ?_
      · rw [si_same]
        by_cases e : h' * 64 + c' = h * 64 + at_ (i * 24 + h)
        · have : h' = h := by omega
          have : c' = at_ (i * 24 + h) := by omega
          subst h'; subst c'
          rw [up_s]; right; rfl
        · rw [up_n e, hF2.1 _ (by decide)]
          exact hC1 (by omega) h' c' hh' hc'
      · rw [si_ne _ _ _ (by decide), si_ne _ _ _ (by decide), hF2.1 _ (by decide), hF2.1 _ (by decide)]
        exact ⟨rfl, rfl⟩
      · rw [si_same, up_s]; rfl
