theorem m_shoot {σ : St} {a v : Int32} {M : Mem} {Q : Bool → Mem → Prop} (hM : MRep σ M) (hl : LOK (sL σ)) (hH : (sH σ).length ≤ 20) (h32 : dshot (sD σ) < 32) (k : ∀ M', Fr2 SMO M M' → MRep (shootN σ a v) M' → Q (shootOk (sL σ) (sD σ) a v) M') : w_Mo_shoot a v M Q := by
  have hnb := hl.2.2.2.1
  have hM1 := hM.thr (v := 0)
  unfold w_Mo_shoot
  have hF1 : Fr2 SMO M (si M c_mo Mo_thrown 0) := fr2_si (by decide)
  generalize si M c_mo Mo_thrown 0 = M1 at hM1 hF1 ⊢
  have k0 : shootOk (sL σ) (sD σ) a v = false → Q false M1 := fun e => by
    have := k M1 hF1 (by unfold shootN; rw [e]; exact hM1)
    rw [e] at this; exact this
  refine m_isBird hM1.1 ⟨fun h1 => k0 (by unfold shootOk; rw [h1]; rfl), fun h1 => ?_⟩
  obtain ⟨a, ha, rfl⟩ := inR_true (by omega) h1
  unfold shootN shootOk at k
  unfold shootOk at k0
  rw [h1] at k k0
  unfold anI at k k0
  rw [nI_clamp (by omega)] at k k0
  refine m_isShot hM1.2.1 h32 (by omega) ⟨fun e => ?_, fun e => k0 (by rw [decide_eq_true e]; rfl)⟩
  rw [decide_eq_false e] at k
  obtain ⟨h1, h2, h3, h4, h5, h6⟩ := hM1
  refine m_keeps h4.1 hH h4.2 h2 (fun M2 hF2 f1 f2 f3 f4 => ?_)
  have es := f2 120 (by decide)
  have e2 := h2.1.2
  rw [Nat.mul_zero, Nat.zero_add] at e2
  rw [show Int32.toNatClampNeg 120 = 120 from rfl, es, e2, shl1 (by omega), fb_xorI]
  have vi : vp_in 120 3200 := vp_in_nI (n := 120) (by decide) (by decide)
  refine ⟨vi, vi, ?_⟩
  generalize hM3 : si M2 c_mo_state 120 (nI ((snp (sD σ)).2 ^^^ 2 ^ a)) = M3
  have hF3 : Fr [c_mo_state] M2 M3 := by rw [← hM3]; exact fr_si (by decide)
  have hF : Fr [c_mo, c_mo_state] M1 M3 := hF2.trans (hF3.mono (by decide))
  have es : ∀ i, i ≠ 120 → M3.1 c_mo_state i = M2.1 c_mo_state i := fun i hi => by rw [← hM3, si_same, up_n hi]
  have ec : M3.1 c_mo = M2.1 c_mo := hF3.1 _ (by decide)
  refine k M3 (hF1.trans (hF.mono (by decide)).two) ⟨h1.fr hF (by decide), ⟨⟨fun i hi => ?_, ?_⟩, fun p hp => ?_⟩, h3.st (fun i hi hi2 => ?_) (hF.1 _ (by decide)), ⟨by rw [ec]; exact f3, f4.fr (fun j i hj hi => es _ (by omega))⟩, h5.mv (by rw [ec]; exact f1 _ (by decide)) (hF.1 _ (by decide)), h6.fr hF.two (by decide)⟩
  · rw [es _ (by omega), f2 _ (by omega)]; exact h2.1.1 i hi
  · rw [Nat.mul_zero, Nat.zero_add, ← hM3, si_same, up_s]; rfl
  · rw [es _ (by omega), f2 _ (by omega)]; exact h2.2 p hp
  · rw [es _ (by omega)]; exact f2 i hi2
theorem m_undo {σ : St} {M : Mem} {Q : Bool → Mem → Prop} (hM : MRep σ M) (hH : (sH σ).length ≤ 20) (k : ∀ M', Fr2 SMO M M' → MRep (undoN σ) M' → Q (undoOk σ) M') : w_Mo_undo M Q := by
  have hM1 := hM.thr (v := 0)
  unfold w_Mo_undo
  rw [hM.2.2.2.1.1]
  have hF1 : Fr2 SMO M (si M c_mo Mo_thrown 0) := fr2_si (by decide)
  generalize si M c_mo Mo_thrown 0 = M1 at hM1 hF1 ⊢
  obtain ⟨h1, h2, h3, h4, h5, h6⟩ := hM1
  unfold undoN undoOk at k
  cases hs : sH σ with
  | nil =>
    rw [hs] at k
    exact ⟨fun q => absurd rfl q, fun _ => k M1 hF1 ⟨h1, h2, h3, h4, h5, h6⟩⟩
  | cons s r =>
    rw [hs] at k h4 hH
    rw [List.length_cons] at hH
    rw [List.length_cons, nI_pred, show (5 : Int32) + nI r.length = nI (5 + r.length) by simp only [fa_lit, nI_add]]
    refine br_ne (b := 0) (by omega) (by decide) (fun _ => ?_) (fun q => absurd q (by omega))
    generalize hM2 : si M1 c_mo Mo_undos (nI r.length) = M2
    have hF2 : Fr [c_mo] M1 M2 := by rw [← hM2]; exact fr_si (by decide)
    have e2 : M2.1 c_mo_state = M1.1 c_mo_state := hF2.1 _ (by decide)
    refine m_copies (t := 0) (n := 121) (by omega) (by decide) (by decide) (by omega) (fun M3 hF3 g1 g2 => ?_)
    have hF : Fr [c_mo, c_mo_state] M1 M3 := (hF2.mono (by decide)).trans (hF3.mono (by decide))
    have ec : M3.1 c_mo = M2.1 c_mo := hF3.1 _ (by decide)
    refine k M3 (hF1.trans (hF.mono (by decide)).two) ⟨h1.fr hF (by decide), ⟨h4.2.1.fr (fun i hi => ?_), fun p hp => ?_⟩, h3.st (fun i hi hi2 => ?_) (hF.1 _ (by decide)), ⟨?_, h4.2.2.fr (fun j i hj hi => ?_)⟩, h5.mv ?_ (hF.1 _ (by decide)), h6.fr hF.two (by decide)⟩
    · rw [g1 i hi, e2]
    · rw [g2 _ (by omega), e2]; exact h2.2 p hp
    · rw [g2 _ (by omega), e2]
    · rw [ec, ← hM2, si_same, up_s]; rfl
    · rw [g2 _ (by omega), e2]
    · rw [ec, ← hM2, si_same, up_n (by decide)]
theorem m_told {σ : St} {a v : Int32} {M : Mem} {Q : Bool → Mem → Prop} (hM : MRep σ M) (hl : LOK (sL σ)) (k : ∀ M', Fr2 SMO M M' → MRep (toldN σ a v) M' → Q (toldOk (sL σ) a v) M') : w_Mo_told a v M Q := by
  have hnp := hl.2.2.1
  have hM1 := hM.thr (v := 0)
  unfold w_Mo_told
  have hF1 : Fr2 SMO M (si M c_mo Mo_thrown 0) := fr2_si (by decide)
  generalize si M c_mo Mo_thrown 0 = M1 at hM1 hF1 ⊢
  have k0 : toldOk (sL σ) a v = false → Q false M1 := fun e => by
    have := k M1 hF1 (by unfold toldN; rw [e]; exact hM1)
    rw [e] at this; exact this
  refine m_isPerson hM1.1 ⟨fun h1 => k0 (by unfold toldOk; rw [h1]; rfl), fun h1 => m_within ⟨fun h2 => ?_, fun h2 => k0 (by unfold toldOk; rw [h1, h2]; rfl)⟩⟩
  have e : toldOk (sL σ) a v = true := by unfold toldOk; rw [h1, h2]; rfl
  unfold toldN at k
  rw [e, if_pos rfl] at k
  obtain ⟨p, hp, rfl⟩ := inR_true (by omega) h1
  unfold anI at k
  rw [nI_clamp (by omega)] at k
  rw [show (121 : Int32) + nI p = nI (121 + p) by simp only [fa_lit, nI_add], nI_clamp (by omega)]
  refine ⟨vp_in_nI (by omega) (by decide), ?_⟩
  obtain ⟨h1, h2, h3, h4, h5, h6⟩ := hM1
  generalize hM2 : si M1 c_mo_state (121 + p) v = M2
  have hF : Fr [c_mo_state] M1 M2 := by rw [← hM2]; exact fr_si (by decide)
  have es : ∀ i, i ≠ 121 + p → M2.1 c_mo_state i = M1.1 c_mo_state i := fun i hi => by rw [← hM2, si_same, up_n hi]
  have ec : M2.1 c_mo = M1.1 c_mo := hF.1 _ (by decide)
  refine k M2 (hF1.trans (hF.mono (by decide)).two) ⟨h1.fr hF (by decide), ⟨h2.1.fr (fun i hi => es _ (by omega)), fun q hq => ?_⟩, h3.st (fun i hi hi2 => es _ (by omega)) (hF.1 _ (by decide)), ⟨by rw [ec]; exact h4.1, h4.2.fr (fun j i hj hi => es _ (by omega))⟩, h5.mv (by rw [ec]) (hF.1 _ (by decide)), h6.fr hF.two (by decide)⟩
  rw [Nat.mul_zero, Nat.zero_add]
  show M2.1 c_mo_state (121 + q) = upd (ddebt (sD σ)) p v q
  by_cases c : q = p
  · subst c; rw [up_s, ← hM2, si_same, up_s]
  · rw [up_n c, es _ (by omega)]
    have := h2.2 q hq
    rw [Nat.mul_zero, Nat.zero_add] at this
    exact this
theorem m_mark29 {σ : St} {j : Nat} {w : Int32} {M M0 : Mem} {Q : Bool → Mem → Prop} (hM : MRep σ M) (hH : (sH σ).length ≤ 20) (hF0 : Fr2 SMO M0 M) (hj : j < 4)
    (kS : w = 0 → ∀ M', Fr2 SMO M0 M' → MRep (sT σ, sL σ, sD σ, (fun k => if k = j then some (sD σ) else sM σ k), sH σ) M' → Q true M')
    (kR : w ≠ 0 → ∃ d, sM σ j = some d ∧ ∀ M', Fr2 SMO M0 M' → MRep (sT σ, sL σ, d, sM σ, []) M' → Q true M') : w_Mo_mark_j29 (nI j) w M Q := by
  obtain ⟨h1, h2, h3, h4, h5, h6⟩ := hM
  unfold w_Mo_mark_j29
  rw [show (1 : Int32) + nI j = nI (1 + j) by simp only [fa_lit, nI_add], nI_clamp (by omega)]
  refine ⟨fun e => ⟨vp_in_nI hj (by decide), ?_⟩, fun e => ?_⟩
  · generalize hM1 : si M c_mo_isMarked j (vp_nar .boolean 1) = M1
    have hF1 : Fr [c_mo_isMarked] M M1 := by rw [← hM1]; exact fr_si (by decide)
    have e1 : M1.1 c_mo_state = M.1 c_mo_state := hF1.1 _ (by decide)
    refine m_copies (f := 0) (n := 128) (by decide) (by omega) (by decide) (by omega) (fun M2 hF2 g1 g2 => ?_)
    have hF : Fr [c_mo_isMarked, c_mo_state] M M2 := (hF1.mono (by decide)).trans (hF2.mono (by decide))
    have ec : M2.1 c_mo = M.1 c_mo := hF.1 _ (by decide)
    refine kS e M2 (hF0.trans (hF.mono (by decide)).two) ⟨h1.fr hF (by decide), h2.fr (fun i hi => ?_), fun i hi => ⟨?_, fun d hd => ?_⟩, ⟨by rw [ec]; exact h4.1, h4.2.fr (fun a i ha hi => ?_)⟩, h5.mv (by rw [ec]) (hF.1 _ (by decide)), h6.fr hF.two (by decide)⟩
    · rw [g2 _ (by omega), e1]
    · show M2.1 c_mo_isMarked i = b2i (if i = j then some (sD σ) else sM σ i).isSome
      rw [hF2.1 _ (by decide), ← hM1, si_same]
      by_cases c : i = j
      · subst c; rw [up_s, if_pos rfl]; rfl
      · rw [up_n c, if_neg c]; exact (h3 i hi).1
    · have hd : (if i = j then some (sD σ) else sM σ i) = some d := hd
      by_cases c : i = j
      · rw [if_pos c] at hd
        cases hd
        subst c
        exact h2.fr (fun x hx => by rw [g1 x hx, e1])
      · rw [if_neg c] at hd
        exact ((h3 i hi).2 d hd).fr (fun x hx => by rw [g2 _ (by omega), e1])
    · have hl2 : a < (sH σ).length := ha
      rw [g2 _ (by omega), e1]
  · obtain ⟨d, hd, k⟩ := kR e
    refine m_copies (t := 0) (n := 128) (by omega) (by decide) (by decide) (by omega) (fun M2 hF2 g1 g2 => ?_)
    generalize hM3 : si M2 c_mo Mo_undos 0 = M3
    have hF3 : Fr [c_mo] M2 M3 := by rw [← hM3]; exact fr_si (by decide)
    have hF : Fr [c_mo, c_mo_state] M M3 := (hF2.mono (by decide)).trans (hF3.mono (by decide))
    have e1 : M3.1 c_mo_state = M2.1 c_mo_state := hF3.1 _ (by decide)
    refine k M3 (hF0.trans (hF.mono (by decide)).two) ⟨h1.fr hF (by decide), ((h3 j hj).2 d hd).fr (fun i hi => by rw [e1]; exact g1 i hi), h3.st (fun i hi hi2 => by rw [e1]; exact g2 _ (by omega)) (hF.1 _ (by decide)), ⟨?_, trivial⟩, h5.mv ?_ (hF.1 _ (by decide)), h6.fr hF.two (by decide)⟩
    · rw [← hM3, si_same, up_s]; rfl
    · rw [← hM3, si_same, up_n (by decide), hF2.1 c_mo (by decide)]
theorem m_mark {σ : St} {a w : Int32} {M : Mem} {Q : Bool → Mem → Prop} (hM : MRep σ M) (hH : (sH σ).length ≤ 20) (k : ∀ M', Fr2 SMO M M' → MRep (markN σ a w) M' → Q (markOk (sM σ) a w) M') : w_Mo_mark a w M Q := by
  have hM1 := hM.thr (v := 0)
  unfold w_Mo_mark
  have hF1 : Fr2 SMO M (si M c_mo Mo_thrown 0) := fr2_si (by decide)
  generalize si M c_mo Mo_thrown 0 = M1 at hM1 hF1 ⊢
  have k0 : markOk (sM σ) a w = false → Q false M1 := fun e => by
    have := k M1 hF1 (by unfold markN; rw [e]; exact hM1)
    rw [e] at this; exact this
  refine m_within ⟨fun h => ?_, fun h => ?_⟩
  · have h := (within_inR (n := 3) (by decide)).symm.trans h
    exact k0 (by unfold markOk; rw [h]; rfl)
  · have hin := (within_inR (n := 3) (by decide)).symm.trans h
    obtain ⟨j, hj, rfl⟩ := inR_true (by decide) hin
    unfold markN markOk at k
    unfold markOk at k0
    unfold anI at k k0
    rw [hin, nI_clamp (by omega)] at k k0
    refine ⟨fun e => m_mark29 hM1 hH hF1 hj (fun _ => ?_) (fun z => absurd e z), fun e => ⟨vp_in_nI hj (by decide), ?_⟩⟩
    · rw [decide_eq_true e] at k
      rw [if_pos e] at k
      exact k
    · rw [decide_eq_false e] at k k0
      rw [nI_clamp (by omega), (hM1.2.2.1 j hj).1]
      cases hd : sM σ j with
      | none =>
        rw [hd] at k0
        exact ⟨fun q => absurd rfl q, fun _ => k0 rfl⟩
      | some d =>
        rw [hd] at k
        rw [if_neg e] at k
        exact ⟨fun _ => m_mark29 hM1 hH hF1 hj (fun z => absurd z e) (fun _ => ⟨d, hd, k⟩), fun q => absurd (show (1 : Int32) = 0 from q) (by decide)⟩
theorem m_persons {np : Nat} {M : Mem} {Q : Int32 → Mem → Prop} (hp : M.1 c_mo_lands 2 = nI np) (k : Q (nI np) M) : w_Mo_persons M Q := by
  unfold w_Mo_persons
  rw [show Int32.toNatClampNeg 2 = 2 from rfl, hp]; exact ⟨vp_in_nI (n := 2) (by decide) (by decide), k⟩
theorem m_birds {nb : Nat} {M : Mem} {Q : Int32 → Mem → Prop} (hp : M.1 c_mo_lands 3 = nI nb) (k : Q (nI nb) M) : w_Mo_birds M Q := by
  unfold w_Mo_birds
  rw [show Int32.toNatClampNeg 3 = 3 from rfl, hp]; exact ⟨vp_in_nI (n := 3) (by decide) (by decide), k⟩
theorem m_debtL {d : Deeds} {np : Nat} {M : Mem} {Q : Int32 → Mem → Prop} (hnp : np ≤ 6) (hp : M.1 c_mo_lands 2 = nI np) (h : MD 0 d M) (hd : ∀ p, p < 6 → ddebt d p = -1 ∨ ∃ n, n ≤ 9999 ∧ ddebt d p = nI n) (hd2 : ∀ p, np ≤ p → p < 6 → ddebt d p = -1) (k : Q (nI (fb_ct (fun i => decide (ddebt d i ≠ -1)) 6)) M) : ∃ n, w_Mo_count_L102 (fun y M' => Q y M') Q n 0 0 M := by
  have hct : fb_ct (fun i => decide (ddebt d i ≠ -1)) 6 = fb_ct (fun i => decide (ddebt d i ≠ -1)) np := by
    have e6 := fb_ct_split (fun i => decide (ddebt d i ≠ -1)) np (6 - np)
    rw [show np + (6 - np) = 6 by omega] at e6
    have e7 : fb_ct (fun k => decide (ddebt d (np + k) ≠ -1)) (6 - np) = 0 := fb_ct_zero.mpr (fun k hk => by rw [hd2 (np + k) (by omega) (by omega)]; rfl)
    rw [e6, e7, Nat.add_zero]
  rw [hct] at k
  refine for_loop (fun n i (M1 : Mem) => w_Mo_count_L102 (fun y M' => Q y M') Q n (nI (fb_ct (fun i => decide (ddebt d i ≠ -1)) i)) (nI i) M1) (fun i M1 => M1 = M) np 0 M (Nat.zero_le _) rfl ?_ ?_
  · intro n M1 e
    subst e
    unfold w_Mo_count_L102
    exact m_persons hp (br_le (by omega) (by omega) (fun _ => k) (fun q => absurd q (by omega)))
  · intro n i M1 _ hi e kk
    subst e
    have kk := kk M1 rfl
    rw [fb_ct_succ] at kk
    unfold w_Mo_count_L102
    have e1 := h.2 i (by omega)
    rw [Nat.mul_zero, Nat.zero_add] at e1
    refine m_persons hp ?_
    rw [show (121 : Int32) + nI i = nI (121 + i) by simp only [fa_lit, nI_add], nI_clamp (by omega), e1, nI_1]
    refine br_le (by omega) (by omega) (fun q => absurd q (by omega)) (fun _ => ⟨vp_in_nI (by omega) (by decide), fun x ex => ?_⟩)
    subst ex
    rcases hd i (by omega) with c | ⟨m, hm, c⟩
    · rw [if_neg (by simp [c])] at kk
      rw [c, if_pos (by decide), Int32.add_zero]
      exact kk
    · rw [c, if_pos (by rw [decide_eq_true_eq]; exact ni_m1 (by omega))] at kk
      rw [c, if_neg (ni_nneg (by omega)), nI_1]
      exact kk
theorem m_bits {n : Nat} {M : Mem} {Q : Int32 → Mem → Prop} (hn : n < 64) (k : Q (nI (pcn n)) M) : w_Mo_bits (nI n) M Q := by
  unfold w_Mo_bits
  have hb : ∀ i, i < 6 → bitI n i = nI (n / 2 ^ i % 2) := by
    intro i hi
    unfold bitI
    rw [Nat.testBit_eq_decide_div_mod_eq]
    have := Nat.mod_two_eq_zero_or_one (n / 2 ^ i)
    rcases this with e | e
    · rw [e]; rfl
    · rw [e]; rfl
  have hp : pcn n = fb_sm (fun i => n / 2 ^ i % 2) 6 := by
    unfold pcn
    show _ = 0 + n / 2 ^ 0 % 2 + n / 2 ^ 1 % 2 + n / 2 ^ 2 % 2 + n / 2 ^ 3 % 2 + n / 2 ^ 4 % 2 + n / 2 ^ 5 % 2
    rw [Nat.zero_add, Nat.pow_zero, Nat.div_one]
  rw [hp] at k
  refine for_loop (fun m i (M1 : Mem) => w_Mo_bits_L4 (nI n) (fun y M' => Q y M') Q m (nI (fb_sm (fun i => n / 2 ^ i % 2) i)) (nI i) M1) (fun i M1 => M1 = M) 6 0 M (Nat.zero_le _) rfl ?_ ?_
  · intro m M1 e
    subst e
    exact br_le (a := 6) (b := 6) (by decide) (by decide) (fun _ => k) (fun q => absurd q (by omega))
  · intro m i M1 _ hi e kk
    subst e
    have kk := kk M1 rfl
    rw [fb_sm_succ] at kk
    unfold w_Mo_bits_L4
    rw [bit_at (by omega) (by omega), hb i hi, nI_1]
    refine br_le (a := 6) (by decide) (by omega) (fun q => absurd q (by omega)) (fun _ x ex => ?_)
    subst ex
    rw [nI_add]
    exact kk
theorem m_count {σ : St} {a : Int32} {M : Mem} {Q : Int32 → Mem → Prop} (hM : MRep σ M) (hl : LOK (sL σ)) (hg : dgood (sL σ) (sD σ)) (k : ∀ M', Fr2 SMO M M' → MRep σ M' → Q (cntR σ a) M') : w_Mo_count a M Q := by
  have hM1 := hM.thr (v := 0)
  have hnp := hl.2.2.1
  have h32 : dshot (sD σ) < 32 := hg.1.2.1
  have k := k _ (fr2_si (by decide)) hM1
  have ez : ∀ j, j ≠ Mo_thrown → (si M c_mo Mo_thrown 0).1 c_mo j = M.1 c_mo j := fun j hj => by rw [si_same, up_n hj]
  have el : (si M c_mo Mo_thrown 0).1 c_mo_lands = M.1 c_mo_lands := si_ne _ _ _ (by decide)
  have es : (si M c_mo Mo_thrown 0).1 c_mo_state = M.1 c_mo_state := si_ne _ _ _ (by decide)
  unfold w_Mo_count
  rw [← el, ← es, ← ez Mo_undos (by decide), ← ez Mo_taped (by decide)]
  generalize si M c_mo Mo_thrown 0 = M1 at hM1 k ⊢
  have z0 : Int32.toNatClampNeg 0 = 0 := rfl
  have z1 : Int32.toNatClampNeg 1 = 1 := rfl
  have z2 : Int32.toNatClampNeg 120 = 120 := rfl
  rw [z0, z1, z2]
  have e120 := hM1.2.1.1.2
  rw [Nat.mul_zero, Nat.zero_add] at e120
  refine ⟨fun e => ?_, fun e => ?_, fun e => ?_, fun e => ?_, fun e => ?_, fun e => ?_, fun e => ?_, fun e => ?_, fun e => ?_, fun e0 e1 e2 e3 e4 e5 e6 e7 e8 => ?_⟩
  · subst e; rw [hM1.1.1.1]; exact ⟨vp_in_nI (n := 0) (by decide) (by decide), k⟩
  · subst e; rw [hM1.1.1.2]; exact ⟨vp_in_nI (n := 1) (by decide) (by decide), k⟩
  · subst e
    unfold w_Mo_persons
    rw [show Int32.toNatClampNeg 2 = 2 from rfl, hM1.1.2.1]; exact ⟨vp_in_nI (n := 2) (by decide) (by decide), k⟩
  · subst e
    unfold w_Mo_birds
    rw [show Int32.toNatClampNeg 3 = 3 from rfl, hM1.1.2.2.1]; exact ⟨vp_in_nI (n := 3) (by decide) (by decide), k⟩
  · subst e; exact m_callsTold hM1.2.1 hg.1.1 k
  · subst e; rw [e120]; exact ⟨vp_in_nI (n := 120) (by decide) (by decide), m_bits (by show dshot (sD σ) < 64; omega) k⟩
  · subst e; exact m_debtL hnp hM1.1.2.1 hM1.2.1 hg.2.1 hg.2.2 k
  · subst e; rw [hM1.2.2.2.1.1]; exact k
  · subst e; rw [hM1.2.2.2.2.1.1]; exact k
  · rw [cntR, if_neg e0, if_neg e1, if_neg e2, if_neg e3, if_neg e4, if_neg e5, if_neg e6, if_neg e7, if_neg e8] at k; exact k
theorem m_lay {x : Int64} {t : List Nat} {M : Mem} {Q : Mem → Prop} (h : MTp t M) (k : ∀ M', Fr [c_mo, c_mo_tape] M M' → (∀ j, j ≠ Mo_taped → M'.1 c_mo j = M.1 c_mo j) → MTp (layT x 8 t) M' → Q M') : w_Mo_lay x M Q := by
  unfold w_Mo_lay
  refine for_loop (fun n i (M1 : Mem) => w_Mo_lay_L3 x (fun M2 => Q M2) Q n (shI i) M1) (fun i M1 => Fr [c_mo, c_mo_tape] M M1 ∧ (∀ j, j ≠ Mo_taped → M1.1 c_mo j = M.1 c_mo j) ∧ MTp (layT x i t) M1) 8 0 M (Nat.zero_le _) ⟨Fr.rfl, fun _ _ => rfl, h⟩ ?_ ?_
  · intro n M1 ⟨hF, hj, h1⟩
    exact ⟨fun _ => k M1 hF hj h1, fun q => absurd (by decide) q⟩
  · intro n i M1 _ hi ⟨hF, hj, h1⟩ kk
    obtain ⟨e1, e2⟩ := bytN_eq x i
    rw [layT] at kk
    unfold w_Mo_lay_L3
    rw [shI_s hi]
    refine ⟨fun q => absurd q (shI_p hi), fun _ y ey => ?_⟩
    have ey : y = nI (bytN x i) := ey.trans e1
    generalize bytN x i = c at ey e2 kk
    generalize layT x i t = u at h1 kk
    subst ey
    have hu := h1.2.1
    unfold w_Mo_lay_j38
    rw [h1.1, nI_clamp (by omega), nI_1, shI_s hi]
    have kno : ¬ (okB c = true ∧ u.length < 1000) → w_Mo_lay_L3 x (fun M2 => Q M2) Q n (shI (i + 1)) M1 := fun z => kk M1 ⟨hF, hj, by
      unfold addS
      rw [if_neg (by simp only [Bool.and_eq_true, decide_eq_true_eq]; exact z)]
      exact h1⟩
    have kyes : okB c = true → u.length < 1000 → w_Mo_lay_L3 x (fun M2 => Q M2) Q n (shI (i + 1)) (si (si M1 c_mo_tape u.length (nI c)) c_mo Mo_taped (nI (u.length + 1))) := fun z1 z2 => kk _ ⟨(hF.put _ _ _ (by decide)).put _ _ _ (by decide), fun j hj2 => by rw [si_same, up_n hj2, si_ne _ _ _ (by decide)]; exact hj j hj2, by
      unfold addS
      rw [if_pos (by simp only [Bool.and_eq_true, decide_eq_true_eq]; exact ⟨z1, z2⟩)]
      refine ⟨?_, by rw [List.length_append]; show u.length + 1 ≤ 1000; omega, fun i hi => ?_⟩
      · rw [si_same, up_s, List.length_append]; rfl
      · rw [List.length_append] at hi
        have hi : i < u.length + 1 := hi
        rw [si_ne _ _ _ (by decide), si_same]
        by_cases e : i = u.length
        · subst e
          rw [up_s, getD_last]
        · rw [up_n e, getD_app (by omega)]; exact h1.2.2 i (by omega)⟩
    have kj : okB c = true → ((nI 1000 ≤ nI u.length → w_Mo_lay_L3 x (fun M2 => Q M2) Q n (shI (i + 1)) M1) ∧ (¬ nI 1000 ≤ nI u.length → vp_in (nI u.length) 1000 ∧ w_Mo_lay_L3 x (fun M2 => Q M2) Q n (shI (i + 1)) (si (si M1 c_mo_tape u.length (nI c)) c_mo Mo_taped (nI (u.length + 1))))) := fun z => br_le (by decide) (by omega) (fun q => kno (fun z => by omega)) (fun q => ⟨vp_in_nI q (by decide), kyes z q⟩)
    refine br_eq (b := 10) (by omega) (by decide) (fun q2 => kj (by unfold okB; rw [decide_eq_true q2]; rfl)) (fun q2 => br_lt (b := 32) (by omega) (by decide) (fun q3 => kno (fun z => ?_)) (fun q3 => br_lt (a := 126) (by decide) (by omega) (fun q4 => kno (fun z => ?_)) (fun q4 => kj ?_)))
    · rcases okB_S z.1 with z | z <;> omega
    · rcases okB_S z.1 with z | z <;> omega
    · unfold okB; rw [decide_eq_true q3, decide_eq_true q4, Bool.or_comm]; rfl
theorem m_feed {σ : St} {a b c : Int64} {M : Mem} {Q : Int32 → Mem → Prop} (hM : MRep σ M) (k : ∀ M', Fr2 SMO M M' → MRep (feedN σ a b c) M' → Q (nI (sT (feedN σ a b c)).length) M') : w_Mo_feed a b c M Q := by
  have hM1 := hM.thr (v := 0)
  unfold w_Mo_feed
  have hF1 : Fr2 SMO M (si M c_mo Mo_thrown 0) := fr2_si (by decide)
  generalize si M c_mo Mo_thrown 0 = M1 at hM1 hF1 ⊢
  obtain ⟨h1, h2, h3, h4, h5, h6⟩ := hM1
  refine m_lay h5 (fun M2 hF2 j2 t2 => m_lay t2 (fun M3 hF3 j3 t3 => m_lay t3 (fun M4 hF4 j4 t4 => ?_)))
  have hF := (hF2.trans hF3).trans hF4
  rw [t4.1]
  refine k M4 (hF1.trans (hF.mono (by decide)).two) ⟨h1.fr hF (by decide), h2.fr (fun i _ => by rw [hF.1 _ (by decide)]), h3.mv (hF.1 _ (by decide)) (hF.1 _ (by decide)), ⟨?_, h4.2.fr (fun j i _ _ => by rw [hF.1 _ (by decide)])⟩, t4, h6.fr hF.two (by decide)⟩
  rw [j4 _ (by decide), j3 _ (by decide), j2 _ (by decide)]; exact h4.1
