/-! the reference's wooden birds -/
theorem owF_sum {l : Land} {ds : Deeds} {sil p : Nat} (hl : LOK l) (hp : p < lnp l) : fb_sm (fun e => owF l (lplace l) ds sil p e) 6 = woS l ds sil p := by
  unfold owF woS
  rw [fb_sm_swap]
  refine fb_sm_cong (fun b _ => ?_)
  rw [fb_sm_swap]
  rw [fb_sm_cong (g := fun h => pnc l (lplace l) b h p (tms ds sil b h)) (fun h _ => one_debtor hl hp)]
  unfold tms
  by_cases c : sil.testBit b = true
  · rw [if_pos c, fb_sm_cong (g := fun _ => 0) (fun h _ => by rw [if_pos c]; unfold pnc; rw [if_pos rfl]), fb_sm_const]
  · rw [if_neg c]
    unfold podN
    exact fb_sm_cong (fun h _ => by rw [if_neg c])
theorem woL_sg {l : Land} {ds : Deeds} : ∀ n, n < 2 ^ 31 → (fb_ct (woR l ds) n = 0 → woL l ds n = -1) ∧ (fb_ct (woR l ds) n ≠ 0 → 0 ≤ woL l ds n)
  | 0, _ => ⟨fun _ => rfl, fun z => absurd rfl z⟩
  | n + 1, hn => by
    obtain ⟨i1, i2⟩ := woL_sg (l := l) (ds := ds) n (by omega)
    rw [fb_ct_succ, woL]
    by_cases c : woR l ds n = true
    · rw [c, if_pos rfl, if_pos rfl]
      refine ⟨fun z => by omega, fun _ => ?_⟩
      by_cases c2 : fb_ct (woR l ds) n = 0
      · rw [if_pos c2]; exact (nI_leI (a := 0) (by decide) (by omega)).mpr (Nat.zero_le n)
      · rw [if_neg c2]; exact i2 c2
    · rw [if_neg c, if_neg c, Nat.add_zero]; exact ⟨i1, i2⟩
theorem m_woSum {S : Nat → Nat → Nat} {p : Nat} {l1 l2 l3 l4 l5 : Int32} {M : Mem} {K Q : Int32 → Mem → Prop} (hS : MOw S M) (hp : p < 6) (k : K (nI (fb_sm (fun e => S p e) 6)) M) : ∃ n, w_Mo_wooden_L78 l1 l2 l3 l4 l5 (nI p) K Q n 0 0 M := by
  refine for_loop (fun n i (M1 : Mem) => w_Mo_wooden_L78 l1 l2 l3 l4 l5 (nI p) K Q n (nI (fb_sm (fun e => S p e) i)) (nI i) M1) (fun i M1 => M1 = M) 6 0 M (Nat.zero_le _) rfl ?_ ?_
  · intro n M1 e
    subst e
    exact br_le (a := 6) (b := 6) (by decide) (by decide) (fun _ => k) (fun q => absurd q (by omega))
  · intro n i M1 _ hi e kk
    subst e
    have kk := kk _ rfl
    rw [fb_sm_succ] at kk
    unfold w_Mo_wooden_L78
    have ea : 6 * nI p + nI i = nI (p * 6 + i) := by simp only [fa_lit, pk_mul, nI_add, Nat.mul_comm]
    rw [ea, nI_clamp (by omega), hS p i hp hi, nI_1]
    refine br_le (a := 6) (by decide) (by omega) (fun q => absurd q (by omega)) (fun _ => ⟨vp_in_nI (by omega) (by decide), fun x ex => ?_⟩)
    rw [nI_add] at ex
    subst ex
    exact kk
theorem m_woAll {σ : St} {sil : Nat} {l1 l2 l3 l4 : Int32} {M : Mem} {K Q : Int32 → Mem → Prop} (hM : MRep σ M) (hl : LOK (sL σ)) (hg : dgood (sL σ) (sD σ)) (hS : MOw (owF (sL σ) (lplace (sL σ)) (sD σ) sil) M) (k : K (b2i (woA (sL σ) (sD σ) sil (lnp (sL σ)))) M) : ∃ n, w_Mo_wooden_L63 l1 l2 l3 l4 K Q n 1 0 M := by
  have hnp := hl.2.2.1
  refine for_loop (fun n i (M1 : Mem) => w_Mo_wooden_L63 l1 l2 l3 l4 K Q n (b2i (woA (sL σ) (sD σ) sil i)) (nI i) M1) (fun i M1 => M1 = M) (lnp (sL σ)) 0 M (Nat.zero_le _) rfl ?_ ?_
  · intro n M1 e
    subst e
    unfold w_Mo_wooden_L63
    exact m_persons hM.1.2.1 (br_le (by omega) (by omega) (fun _ => k) (fun q => absurd q (by omega)))
  · intro n i M1 _ hi e kk
    subst e
    have kk := kk _ rfl
    rw [woA] at kk
    unfold w_Mo_wooden_L63
    have e1 := hM.2.1.2 i (by omega)
    rw [Nat.mul_zero, Nat.zero_add] at e1
    refine m_persons hM.1.2.1 (br_le (by omega) (by omega) (fun q => absurd q (by omega)) (fun _ => m_woSum hS (by omega) ?_))
    rw [show (121 : Int32) + nI i = nI (121 + i) by simp only [fa_lit, nI_add], nI_clamp (by omega), e1, nI_1, owF_sum hl hi]
    have vi : vp_in (nI (121 + i)) 3200 := vp_in_nI (by omega) (by decide)
    unfold woP at kk
    cases hwa : woA (sL σ) (sD σ) sil i with
    | false =>
      rw [hwa, Bool.false_and] at kk
      exact ⟨fun _ => kk, fun q => absurd rfl q⟩
    | true =>
      rw [hwa, Bool.true_and] at kk
      refine ⟨fun q => absurd q (by decide), fun _ => ⟨vi, fun q => ?_, fun q => ⟨vi, fun x ex => ?_⟩⟩⟩
      · rcases hg.2.1 i (by omega) with c | ⟨m, hm, c⟩
        · rw [decide_eq_true c] at kk; exact kk
        · rw [c] at q; exact absurd q (ni_nneg (by omega))
      · have c : ¬ ddebt (sD σ) i = -1 := fun z => q (by rw [z]; decide)
        rw [decide_eq_false c, Bool.false_or] at kk
        by_cases c2 : ddebt (sD σ) i = nI (woS (sL σ) (sD σ) sil i)
        · rw [decide_eq_true c2] at kk
          rw [if_pos c2] at ex
          subst ex; exact kk
        · rw [decide_eq_false c2] at kk
          rw [if_neg c2] at ex
          subst ex; exact kk
theorem m_wooden {σ : St} {a : Int32} {M : Mem} {Q : Int32 → Mem → Prop} (hM : MRep σ M) (hl : LOK (sL σ)) (hg : dgood (sL σ) (sD σ)) (k : ∀ M', Fr2 SMO M M' → MRep σ M' → Q (woodR (sL σ) (sD σ) a) M') : w_Mo_wooden a M Q := by
  have hnb := hl.2.2.2.1
  have h32 : dshot (sD σ) < 32 := hg.1.2.1
  have h2p : 2 ^ lnb (sL σ) ≤ 2 ^ 5 := Nat.pow_le_pow_right (by decide) hnb
  have hM1 := hM.thr (v := 0)
  unfold w_Mo_wooden
  have hF1 : Fr2 SMO M (si M c_mo Mo_thrown 0) := fr2_si (by decide)
  generalize si M c_mo Mo_thrown 0 = M1 at hM1 hF1 ⊢
  refine m_within ⟨fun h => ?_, fun h => ?_⟩
  · rw [Bool.and_eq_true, Bool.not_eq_true', decide_eq_false_iff_not, decide_eq_true_eq] at h
    unfold woodR at k
    rw [if_neg h.1, if_pos h.2] at k
    refine m_standsAsTold (fun M2 hf2 _ s1 s2 s3 => ?_)
    have hM2 := hM1.scr hf2
    have hA2 := MAt.told (M := M2) hl s1
    refine for_loop (fun n i (M3 : Mem) => w_Mo_wooden_L27 a (fun y1248 y1249 M1247 => Q (if a = 0 then y1249 else y1248) M1247) Q n (woL (sL σ) (sD σ) i) (nI (fb_ct (woR (sL σ) (sD σ)) i)) (nI i) M3) (fun i M3 => Fr SOW M2 M3) (2 ^ lnb (sL σ)) 0 M2 (Nat.zero_le _) Fr.rfl ?_ ?_
    · intro n M3 hF3
      have hf3 := MF.of hF3 (by decide) (by decide)
      have hM3 := hM2.scr hf3
      unfold w_Mo_wooden_L27
      refine m_birds hM3.1.2.2.1 ?_
      rw [shl1 (by omega)]
      exact br_le (by omega) (by omega) (fun _ => k M3 (hF1.trans (hf2.trans hf3).two) hM3) (fun q => absurd q (by omega))
    · intro n i M3 _ hi hF3 kk
      have hf3 := MF.of hF3 (by decide) (by decide)
      have hM3 := hM2.scr hf3
      have e1 := hM3.2.1.1.2
      rw [Nat.mul_zero, Nat.zero_add] at e1
      have e1 : M3.1 c_mo_state 120 = nI (dshot (sD σ)) := e1
      have hand : i &&& dshot (sD σ) ≤ i := Nat.and_le_left
      have hct := fb_ct_le (woR (sL σ) (sD σ)) i
      unfold w_Mo_wooden_L27
      refine m_birds hM3.1.2.2.1 ?_
      rw [shl1 (by omega), show Int32.toNatClampNeg 120 = 120 from rfl, e1, fa_and, nI_1]
      refine br_le (by omega) (by omega) (fun q => absurd q (by omega)) (fun _ => ⟨vp_in_nI (n := 120) (by decide) (by decide), br_ne (b := 0) (by omega) (by decide) (fun q => ?_) (fun q => ?_)⟩)
      · have hw : woR (sL σ) (sD σ) i = false := by unfold woR; rw [decide_eq_false q]; rfl
        have := kk M3 hF3
        rw [fb_ct_succ, woL, hw] at this; exact this
      · refine m_findOwes hl hM3.1 (hA2.fr hF3 (by decide)) hM3.2.1 hg.1.1 h32 (by omega) (fun M4 hF4 hS4 => ?_)
        have hf4 := MF.of hF4 (by decide) (by decide)
        have hM4 := hM3.scr hf4
        refine m_woAll hM4 hl hg hS4 ?_
        have kk := kk M4 (hF3.trans hF4)
        have hw : woR (sL σ) (sD σ) i = woA (sL σ) (sD σ) (dshot (sD σ) ||| i) (lnp (sL σ)) := by unfold woR; rw [decide_eq_true q, Nat.or_comm, Bool.true_and]
        rw [fb_ct_succ, woL, hw] at kk
        unfold w_Mo_wooden_j169 w_Mo_wooden_j170
        rw [nI_1]
        obtain ⟨g1, g2⟩ := woL_sg (l := sL σ) (ds := sD σ) i (by omega)
        cases hb : woA (sL σ) (sD σ) (dshot (sD σ) ||| i) (lnp (sL σ)) with
        | false =>
          rw [hb] at kk
          refine ⟨fun _ x ex => ?_, fun q => absurd rfl q⟩
          subst ex
          rw [if_neg (by decide), if_neg (by decide), Nat.add_zero] at kk
          show w_Mo_wooden_L27 a (fun y1248 y1249 M1247 => Q (if a = 0 then y1249 else y1248) M1247) Q n (woL (sL σ) (sD σ) i) (nI (fb_ct (woR (sL σ) (sD σ)) i) + 0) (nI (i + 1)) M4
          rw [Int32.add_zero]
          exact kk
        | true =>
          rw [hb] at kk
          refine ⟨fun q => absurd q (by decide), fun _ x ex => ?_⟩
          subst ex
          rw [if_pos rfl, if_pos rfl] at kk
          have e9 : (if 0 ≤ woL (sL σ) (sD σ) i then woL (sL σ) (sD σ) i else nI i) = if fb_ct (woR (sL σ) (sD σ)) i = 0 then nI i else woL (sL σ) (sD σ) i := by
            by_cases c : fb_ct (woR (sL σ) (sD σ)) i = 0
            · rw [if_pos c, g1 c]; rfl
            · rw [if_neg c, if_pos (g2 c)]
          rw [e9, show (if b2i true = 0 then (0 : Int32) else 1) = 1 from rfl, nI_1]
          exact kk
  · have k := k M1 hF1 hM1
    unfold woodR at k
    by_cases c : a < 0
    · rw [if_pos c] at k; exact k
    · rw [if_neg c] at k
      rw [decide_eq_false c, Bool.not_false, Bool.true_and, decide_eq_false_iff_not] at h
      rw [if_neg h] at k; exact k
