/-! the class's stands and picnics -/
theorem nrs_cong {d d' : Nat → Nat} {p g g' : Nat} (hg : g = g') : ∀ {n : Nat}, (∀ e, e < n → d e = d' e) → nrs d p g n = nrs d' p g' n
  | 0, _ => by rw [nrs, nrs, hg]
  | n + 1, h => by
    have ih := nrs_cong (p := p) hg (n := n) (fun e he => h e (by omega))
    rw [nrs, nrs, ih, h n (by omega)]
theorem near_cong {l : Land} {at_ at' : Nat → Nat} {h p : Nat} (hp : p < lnp l) (he : ∀ q, q < lnp l → at_ (q * 24 + h) = at' (q * 24 + h)) : near l at_ h p = near l at' h p := by
  unfold near
  rw [he p hp]
  exact nrs_cong rfl (fun e h1 => by rw [he e h1])
theorem cred_cong {l : Land} {at_ at' : Nat → Nat} {b h p : Nat} (hp : p < lnp l) (he : ∀ q, q < lnp l → at_ (q * 24 + h) = at' (q * 24 + h)) : cred l at_ b h p = cred l at' b h p := by
  unfold cred hrs
  rw [near_cong hp he, he p hp]
theorem pnc_cong {l : Land} {at_ at' : Nat → Nat} {b h p t : Nat} (hp : p < lnp l) (he : ∀ q, q < lnp l → at_ (q * 24 + h) = at' (q * 24 + h)) : pnc l at_ b h p t = pnc l at' b h p t := by
  unfold pnc
  rw [cred_cong hp he, near_cong hp he, he p hp]
theorem gainH_cong {l : Land} {at_ at' : Nat → Nat} {ds : Deeds} {set sil h : Nat} (he : ∀ q, q < lnp l → at_ (q * 24 + h) = at' (q * 24 + h)) : gainH l at_ ds set sil h = gainH l at' ds set sil h := by
  unfold gainH
  exact sI_cong (fun b _ => sI_cong (fun p hp => by rw [near_cong hp he, pnc_cong hp he]))
theorem gain_cong {l : Land} {at_ at' : Nat → Nat} {ds : Deeds} {set sil f n : Nat} (he : ∀ q h, q < lnp l → f ≤ h → h < f + n → at_ (q * 24 + h) = at' (q * 24 + h)) : gain l at_ ds set sil f n = gain l at' ds set sil f n := by
  unfold gain
  exact sI_cong (fun k hk => gainH_cong (fun q hq => he q (f + k) hq (by omega) (by omega)))
theorem gain_split {l : Land} {at_ : Nat → Nat} {ds : Deeds} {set sil f m n : Nat} : gain l at_ ds set sil f (m + n) = gain l at_ ds set sil f m + gain l at_ ds set sil (f + m) n := by
  unfold gain
  rw [sI_split]
  congr 1
  exact sI_cong (fun k _ => by rw [Nat.add_assoc])
theorem putA_out {set f t c p h : Nat} {at_ : Nat → Nat} (hh : h < 24) (ho : h < f ∨ t < h) : putA set f t c at_ (p * 24 + h) = at_ (p * 24 + h) := by
  unfold putA
  rw [if_neg]
  rw [show (p * 24 + h) % 24 = h by omega]
  omega
theorem putA_put (set f t c c' : Nat) (at_ : Nat → Nat) : putA set f t c (putA set f t c' at_) = putA set f t c at_ := by
  funext i
  unfold putA
  split
  · rfl
  · rfl
/-- the whole day, of hours within and without -/
theorem gain_day {l : Land} {at_ : Nat → Nat} {ds : Deeds} {set sil f t c : Nat} (hft : f ≤ t) (ht : t < 24) : gain l at_ ds set sil 0 f + gain l at_ ds set sil (t + 1) (24 - (t + 1)) + gain l (putA set f t c at_) ds set sil f (t + 1 - f) = gain l (putA set f t c at_) ds set sil 0 24 := by
  have e1 : gain l at_ ds set sil 0 f = gain l (putA set f t c at_) ds set sil 0 f := gain_cong (fun q h _ _ h2 => (putA_out (by omega) (by omega)).symm)
  have e2 : gain l at_ ds set sil (t + 1) (24 - (t + 1)) = gain l (putA set f t c at_) ds set sil (t + 1) (24 - (t + 1)) := gain_cong (fun q h _ h1 h2 => (putA_out (by omega) (by omega)).symm)
  have e3 : gain l (putA set f t c at_) ds set sil 0 24 = gain l (putA set f t c at_) ds set sil 0 (f + (t + 1 - f) + (24 - (t + 1))) := by congr 1; omega
  rw [e3, gain_split, gain_split, e1, e2]
  rw [show 0 + f = f by omega, show 0 + (f + (t + 1 - f)) = t + 1 by omega]
  rw [Int32.add_assoc, Int32.add_assoc, Int32.add_comm (gain l (putA set f t c at_) ds set sil (t + 1) (24 - (t + 1)))]
abbrev Bst : Type := Option (Nat × Int32 × Nat)
def isC (l : Land) (k : Nat) : Bool := decide (k % 8 < lwide l) && decide (k / 8 < ldeep l)
def tryS (l : Land) (g : Nat → Int32) (set : Nat) (s : Bst) (k : Nat) : Bst := if isC l k then (match s with
  | none => some (k, g k, set)
  | some (c, v, z) => if v < g k then some (k, g k, set) else some (c, v, z)) else s
def tryF (l : Land) (g : Nat → Int32) (set : Nat) (s : Bst) : Nat → Bst
  | 0 => s
  | n + 1 => tryS l g set (tryF l g set s n) n
theorem tryF_skip {l : Land} {g : Nat → Int32} {set : Nat} {s : Bst} {m : Nat} : ∀ n, (∀ k, m ≤ k → k < m + n → isC l k = false) → tryF l g set s (m + n) = tryF l g set s m
  | 0, _ => rfl
  | n + 1, h => by
    rw [← Nat.add_assoc, tryF]
    unfold tryS
    rw [h (m + n) (by omega) (by omega), if_neg (by decide), tryF_skip n (fun k h1 h2 => h k h1 (by omega))]
def GB (s : Bst) (M : Mem) : Prop := match s with
  | none => M.1 c_game Game_bestCell = -1
  | some (c, v, z) => M.1 c_game Game_bestCell = nI c ∧ c < 64 ∧ M.1 c_game Game_bestBalance = v ∧ M.1 c_game Game_bestSet = nI z
theorem GB.mv {s : Bst} {M M' : Mem} (h : GB s M) (e : M'.1 c_game = M.1 c_game) : GB s M' := by
  match s, h with
  | none, h => unfold GB at *; rw [e]; exact h
  | some (c, v, z), h => unfold GB at *; rw [e]; exact h
/-- the class's picture while it looks for the best -/
def DX (l : Land) (ds : Deeds) (M : Mem) : Prop := LOK l ∧ XLand l M ∧ RC l M ∧ KC l M ∧ XT ds M ∧ M.1 c_deeds Deeds_shot = nI (dshot ds) ∧ dshot ds < 32
abbrev ST : List Nat := [c_debts_at, c_game, c_debts_reach, c_debts_nearest, c_debts_gap, c_land_fog_stack, c_debts_rateKey, c_debts_rate, c_land_owe_stack]
abbrev DC2 : List Nat := [c_land, c_land_kind, c_land_purse, c_land_place, c_land_bush, c_land_code, c_land_owe, c_land_fog, c_deeds_times, c_deeds]
abbrev DC : List Nat := [c_land, c_land_kind, c_land_purse, c_land_place, c_land_bush, c_land_code, c_land_owe, c_land_fog, c_deeds_times, c_deeds, c_debts_reach, c_debts_rateKey, c_debts_rate]
theorem LC_DC2 : ∀ k ∈ LC, k ∈ DC2 := by decide
theorem DC2_DC : ∀ k ∈ DC2, k ∈ DC := by decide
theorem DX.sg {l : Land} {ds : Deeds} {M M' : Mem} {L : List Nat} (h : DX l ds M) (hF : Fr L M M') (hd : ∀ k ∈ DC2, k ∉ L) (hR : RC l M') (hK : KC l M') : DX l ds M' := by
  obtain ⟨h1, h2, h3, h4, h5, h6, h7⟩ := h
  exact ⟨h1, h2.fr hF (fun k hk => hd k (LC_DC2 k hk)), hR, hK, h5.fr hF (hd _ (by decide)), by rw [hF.1 _ (hd c_deeds (by decide))]; exact h6, h7⟩
theorem DX.fr {l : Land} {ds : Deeds} {M M' : Mem} {L : List Nat} (h : DX l ds M) (hF : Fr L M M') (hd : ∀ k ∈ DC, k ∉ L) : DX l ds M' := h.sg hF (fun k hk => hd k (DC2_DC k hk)) (h.2.2.1.fr hF (hd _ (by decide))) (h.2.2.2.1.fr hF (hd _ (by decide)) (hd _ (by decide)))
def Atv (l : Land) (set f t : Nat) (at_ : Nat → Nat) (M : Mem) : Prop := ∃ at1, XAt l at1 M ∧ ∀ c, putA set f t c at1 = putA set f t c at_
theorem x_tryCells {l : Land} {ds : Deeds} {at_ : Nat → Nat} {set f t : Nat} {out : Int32} {s0 : Bst} {M : Mem} {Q : Mem → Prop} (hD : DX l ds M) (hA : Atv l set f t at_ M) (hset : set < 2 ^ 31) (ht : t < 24) (hf : f ≤ t) (hG : GB s0 M)
    (k : ∀ M', Fr ST M M' → DX l ds M' → Atv l set f t at_ M' → GB (tryF l (fun k => out + gain l (putA set f t k at_) ds set (dshot ds) f (t + 1 - f)) set s0 64) M' → M'.1 c_game Game_rounds = M.1 c_game Game_rounds → M'.1 c_game Game_rest = M.1 c_game Game_rest → Q M') : w_Game_tryCells (nI set) (nI f) (nI t) out M Q := by
  have hl := hD.1
  have hw := hl.1
  have hd := hl.2.1
  generalize hg : (fun k => out + gain l (putA set f t k at_) ds set (dshot ds) f (t + 1 - f)) = g at k
  unfold w_Game_tryCells
  refine for_loop (fun n y (M1 : Mem) => w_Game_tryCells_L3 (nI set) (nI f) (nI t) out (fun M474 => Q M474) Q n (nI y) M1)
    (fun y M1 => Fr ST M M1 ∧ DX l ds M1 ∧ Atv l set f t at_ M1 ∧ GB (tryF l g set s0 (y * 8)) M1 ∧ M1.1 c_game Game_rounds = M.1 c_game Game_rounds ∧ M1.1 c_game Game_rest = M.1 c_game Game_rest) (ldeep l) 0 M (Nat.zero_le _) ⟨Fr.rfl, hD, hA, by rw [Nat.zero_mul]; exact hG, rfl, rfl⟩ ?_ ?_
  · intro n M1 ⟨hF, hD1, hA1, hG1, hr1, hr2⟩
    unfold w_Game_tryCells_L3
    rw [hD1.2.1.1.2]
    refine br_le (by omega) (by omega) (fun _ => k M1 hF hD1 hA1 ?_ hr1 hr2) (fun q => absurd q (by omega))
    have e : tryF l g set s0 64 = tryF l g set s0 (ldeep l * 8) := by
      rw [show 64 = ldeep l * 8 + (64 - ldeep l * 8) by omega]
      refine tryF_skip _ (fun k h1 h2 => ?_)
      unfold isC
      rw [decide_eq_false (by omega : ¬ k / 8 < ldeep l), Bool.and_false]
    rw [e]; exact hG1
  · intro n y M1 _ hy ⟨hF, hD1, hA1, hG1, hr1, hr2⟩ kk
    unfold w_Game_tryCells_L3
    rw [hD1.2.1.1.2]
    refine br_le (by omega) (by omega) (fun q => absurd q (by omega)) (fun _ => ?_)
    rw [nI_1]
    generalize hKK : (fun M472 => w_Game_tryCells_L3 (nI set) (nI f) (nI t) out (fun M474 => Q M474) Q n (nI (y + 1)) M472) = KK
    have kk2 : ∀ M', Fr ST M M' → DX l ds M' → Atv l set f t at_ M' → GB (tryF l g set s0 (y * 8 + lwide l)) M' → M'.1 c_game Game_rounds = M.1 c_game Game_rounds → M'.1 c_game Game_rest = M.1 c_game Game_rest → KK M' := by
      intro M' a1 a2 a3 a4 a5 a6
      rw [← hKK]
      refine kk M' ⟨a1, a2, a3, ?_, a5, a6⟩
      have e : tryF l g set s0 ((y + 1) * 8) = tryF l g set s0 (y * 8 + lwide l) := by
        rw [show (y + 1) * 8 = y * 8 + lwide l + (8 - lwide l) by omega]
        refine tryF_skip _ (fun k h1 h2 => ?_)
        unfold isC
        rw [decide_eq_false (by omega : ¬ k % 8 < lwide l), Bool.false_and]
      rw [e]; exact a4
    refine for_loop (fun n x (M2 : Mem) => w_Game_tryCells_L18 (nI set) (nI f) (nI t) out (nI y) KK Q n (nI x) M2)
      (fun x M2 => Fr ST M M2 ∧ DX l ds M2 ∧ Atv l set f t at_ M2 ∧ GB (tryF l g set s0 (y * 8 + x)) M2 ∧ M2.1 c_game Game_rounds = M.1 c_game Game_rounds ∧ M2.1 c_game Game_rest = M.1 c_game Game_rest) (lwide l) 0 M1 (Nat.zero_le _) ⟨hF, hD1, hA1, hG1, hr1, hr2⟩ ?_ ?_
    · intro n2 M2 ⟨hF2, hD2, hA2, hG2, q1, q2⟩
      unfold w_Game_tryCells_L18
      rw [hD2.2.1.1.1]
      exact br_le (by omega) (by omega) (fun _ => kk2 M2 hF2 hD2 hA2 hG2 q1 q2) (fun q => absurd q (by omega))
    · intro n2 x M2 _ hx ⟨hF2, hD2, hA2, hG2, q1, q2⟩ kk3
      unfold w_Game_tryCells_L18
      rw [hD2.2.1.1.1]
      refine br_le (by omega) (by omega) (fun q => absurd q (by omega)) (fun _ => ?_)
      have ec : nI y * 8 + nI x = nI (y * 8 + x) := by simp only [fa_lit, pk_mul, nI_add]
      rw [ec, nI_1]
      obtain ⟨at1, hA3, hA4⟩ := hA2
      refine x_put hl hD2.2.1 hA3 hset ht (by omega) (by omega) (fun M3 hF3 hA5 => ?_)
      have hD3 := hD2.fr hF3 (by decide)
      rw [hD3.2.2.2.2.2.1]
      refine x_gainOf2 hl hD3.2.1 hD3.2.2.1 hD3.2.2.2.1 hA5 hD3.2.2.2.2.1 hset (by have := hD3.2.2.2.2.2.2; omega) ht (by omega) (fun M4 hF4 hR4 hK4 => ?_)
      have hD4 := hD3.sg hF4 (by decide) hR4 hK4
      have hF5 : Fr ST M2 M4 := (hF3.mono (by decide)).trans (hF4.mono (by decide))
      have hgm : M4.1 c_game = M2.1 c_game := by rw [hF4.1 _ (by decide), hF3.1 _ (by decide)]
      have hG4 := hG2.mv hgm
      have ev : out + gain l (putA set f t (y * 8 + x) at1) ds set (dshot ds) f (t + 1 - f) = g (y * 8 + x) := by rw [← hg, hA4]
      rw [ev]
      have hA6 : Atv l set f t at_ M4 := ⟨_, hA5.fr hF4 (by decide), fun c => by rw [putA_put, hA4]⟩
      have hic : isC l (y * 8 + x) = true := by
        unfold isC
        rw [decide_eq_true (by omega : (y * 8 + x) % 8 < lwide l), decide_eq_true (by omega : (y * 8 + x) / 8 < ldeep l)]
        rfl
      have take : tryF l g set s0 (y * 8 + x + 1) = some (y * 8 + x, g (y * 8 + x), set) → w_Game_tryCells_j91 (fun l6 M => w_Game_tryCells_L18 (nI set) (nI f) (nI t) out (nI y) KK Q n2 l6 M) KK (nI set) (nI f) (nI t) out (nI y) (nI x) (nI (y * 8 + x)) (g (y * 8 + x)) M4 Q := by
        intro et
        unfold w_Game_tryCells_j91
        rw [nI_1]
        have hF6 : Fr [c_game] M4 (si (si (si M4 c_game Game_bestCell (nI (y * 8 + x))) c_game Game_bestBalance (g (y * 8 + x))) c_game Game_bestSet (nI set)) := ((fr_si (by decide)).trans (fr_si (by decide))).trans (fr_si (by decide))
        refine kk3 _ ⟨(hF2.trans hF5).trans (hF6.mono (by decide)), hD4.fr hF6 (by decide), ?_, ?_, ?_, ?_⟩
        · obtain ⟨a, b, c⟩ := hA6; exact ⟨a, b.fr hF6 (by decide), c⟩
        · show GB (tryF l g set s0 (y * 8 + x + 1)) _
          rw [et]
          refine ⟨?_, by omega, ?_, ?_⟩
          · rw [si_same, up_n (by decide), si_same, up_n (by decide), si_same, up_s]
          · rw [si_same, up_n (by decide), si_same, up_s]
          · rw [si_same, up_s]
        · rw [si_same, up_n (by decide), si_same, up_n (by decide), si_same, up_n (by decide), hgm]; exact q1
        · rw [si_same, up_n (by decide), si_same, up_n (by decide), si_same, up_n (by decide), hgm]; exact q2
      cases hs : tryF l g set s0 (y * 8 + x) with
      | none =>
        rw [hs] at hG4
        have eb : M4.1 c_game Game_bestCell = -1 := hG4
        rw [eb]
        exact ⟨fun _ => take (by rw [tryF, hs]; unfold tryS; rw [if_pos hic]), fun q => absurd rfl q⟩
      | some z =>
        obtain ⟨c, v, zz⟩ := z
        rw [hs] at hG4
        obtain ⟨b1, b2, b3, b4⟩ := hG4
        rw [b1, b3]
        refine ⟨fun q => absurd q (ni_m1 (by omega)), fun _ => ⟨fun q => ?_, fun q => take (by rw [tryF, hs]; unfold tryS; rw [if_pos hic]; simp only; rw [if_pos (fa_of_nle q)])⟩⟩
        refine kk3 M4 ⟨hF2.trans hF5, hD4, hA6, ?_, by rw [hgm]; exact q1, by rw [hgm]; exact q2⟩
        show GB (tryF l g set s0 (y * 8 + x + 1)) M4
        have et : tryF l g set s0 (y * 8 + x + 1) = some (c, v, zz) := by
          rw [tryF, hs]; unfold tryS; rw [if_pos hic]; simp only
          rw [if_neg (fun z => (fa_of_lt z).2.1 q)]
        rw [et]
        exact ⟨b1, b2, b3, b4⟩
theorem shl1 {p : Nat} (hp : p < 31) : (1 : Int32) <<< (nI p &&& 31) = nI (2 ^ p) := by
  have e := pk_shlN (n := 1) (nI p &&& 31) p (s_l p (by omega)) (by rw [Nat.one_mul]; exact Nat.pow_lt_pow_right (by decide) (by omega))
  rw [Nat.one_mul] at e
  exact e
theorem x_gainOutside {l : Land} {ds : Deeds} {at_ : Nat → Nat} {set f t : Nat} {M : Mem} {Q : Int32 → Mem → Prop} (hD : DX l ds M) (hA : XAt l at_ M) (hset : set < 2 ^ 31) (ht : t < 24) (hf : f ≤ t)
    (k : ∀ M', Fr SG M M' → DX l ds M' → Q (gain l at_ ds set (dshot ds) 0 f + gain l at_ ds set (dshot ds) (t + 1) (24 - (t + 1))) M') : w_Game_gainOutside (nI set) (nI f) (nI t) M Q := by
  have hl := hD.1
  have h32 := hD.2.2.2.2.2.2
  unfold w_Game_gainOutside
  rw [hD.2.2.2.2.2.1]
  have e1 : nI f - 1 = nI (0 + f) - 1 := by rw [Nat.zero_add]
  rw [e1]
  refine x_gainOf (fr := 0) (to := f) hl hD.2.1 hD.2.2.1 hD.2.2.2.1 hA hD.2.2.2.2.1 hset (by omega) (by omega) (fun M1 hF1 hR1 hK1 => ?_)
  have hD1 := hD.sg hF1 (by decide) hR1 hK1
  rw [hD1.2.2.2.2.2.1, nI_1]
  refine x_gainOf2 (t := 23) (f := t + 1) hl hD1.2.1 hD1.2.2.1 hD1.2.2.2.1 (hA.fr hF1 (by decide)) hD1.2.2.2.2.1 hset (by omega) (by decide) (by omega) (fun M2 hF2 hR2 hK2 => ?_)
  exact k M2 (hF1.trans hF2) (hD1.sg hF2 (by decide) hR2 hK2)
def stG (l : Land) (ds : Deeds) (set f t : Nat) : Nat → Int32 := fun k => gain l (putA set f t k (lplace l)) ds set (dshot ds) 0 24
theorem x_standOf {l : Land} {ds : Deeds} {p f t : Nat} {M : Mem} {Q : Mem → Prop} (hD : DX l ds M) (hp : p < 6) (ht : t < 24) (hf : f ≤ t)
    (k : ∀ M', Fr ST M M' → DX l ds M' → GB (tryF l (stG l ds (2 ^ p) f t) (2 ^ p) none 64) M' → Q M') : w_Game_standOf (nI p) (nI f) (nI t) M Q := by
  have h64 : 2 ^ p < 2 ^ 31 := Nat.pow_lt_pow_right (by decide) (by omega)
  unfold w_Game_standOf
  rw [shl1 (by omega)]
  refine x_allAsTold hD.1 hD.2.1 (fun M1 hF1 hA1 => ?_)
  have hD1 := hD.fr hF1 (by decide)
  refine x_gainOutside hD1 hA1 h64 ht hf (fun M2 hF2 hD2 => ?_)
  have hF3 : Fr [c_game] M2 (si M2 c_game Game_bestCell (-1)) := fr_si (by decide)
  refine x_tryCells (s0 := none) (at_ := lplace l) (hD2.fr hF3 (by decide)) ⟨_, (hA1.fr hF2 (by decide)).fr hF3 (by decide), fun _ => rfl⟩ h64 ht hf (by unfold GB; rw [si_same, up_s]) (fun M4 hF4 hD4 hA4 hG4 _ _ => ?_)
  refine k M4 ((((hF1.mono (by decide)).trans (hF2.mono (by decide))).trans (hF3.mono (by decide))).trans hF4) hD4 ?_
  have e : (fun k => gain l (lplace l) ds (2 ^ p) (dshot ds) 0 f + gain l (lplace l) ds (2 ^ p) (dshot ds) (t + 1) (24 - (t + 1)) + gain l (putA (2 ^ p) f t k (lplace l)) ds (2 ^ p) (dshot ds) f (t + 1 - f)) = stG l ds (2 ^ p) f t := by
    funext k
    exact gain_day hf ht
  rw [e] at hG4
  exact hG4
