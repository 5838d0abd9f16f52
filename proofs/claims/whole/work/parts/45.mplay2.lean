theorem cstA_succ {at_ : Nat → Nat} {f p h : Nat} (hf : f ≤ h) : cstA at_ f p (h + 1) = (cstA at_ f p h && (at_ (p * 24 + h) == at_ (p * 24 + f))) := by
  unfold cstA
  rw [show h + 1 - f = (h - f) + 1 by omega, range_all_succ, show f + (h - f) = h by omega]
theorem m_still {l : Land} {f t p : Nat} {M : Mem} {K Q : Int32 → Mem → Prop} (hl : LOK l) (hL : ML l M) (hp : p < lnp l) (ht : t < 24) (hf : f ≤ t) (k : K (oI (st0 l f t p)) M) : ∃ n, w_Mo_findPlayed_L35 (nI f) (nI t) (nI p) K Q n (nI (lplace l (p * 24 + f))) (nI f) M := by
  have hnp := hl.2.2.1
  have h64 := fun h hh => hl.2.2.2.2.2.2.1 p h hp hh
  have key := for_loop (fun n i (M1 : Mem) => w_Mo_findPlayed_L35 (nI f) (nI t) (nI p) K Q n (if cstA (lplace l) f p i then nI (lplace l (p * 24 + f)) else -1) (nI i) M1) (fun i M1 => M1 = M) (t + 1) f M (by omega) rfl ?_ ?_
  · have e0 : cstA (lplace l) f p f = true := by unfold cstA; rw [Nat.sub_self]; rfl
    rw [e0, if_pos rfl] at key
    exact key
  · intro n M1 e
    subst e
    refine br_lt (by omega) (by omega) (fun _ => ?_) (fun q => absurd q (by omega))
    unfold st0 cst at k
    unfold cstA
    revert k
    cases (List.range (t + 1 - f)).all (fun k => lplace l (p * 24 + (f + k)) == lplace l (p * 24 + f)) with
    | true => intro k; exact k
    | false => intro k; exact k
  · intro n i M1 hi1 hi e kk
    subst e
    have kk := kk _ rfl
    rw [cstA_succ hi1] at kk
    unfold w_Mo_findPlayed_L35
    have ea : 19 + 24 * nI p + nI i = nI (19 + 24 * p + i) := by simp only [fa_lit, pk_mul, nI_add]
    have h1 := h64 i (by omega)
    have h2 := h64 f (by omega)
    rw [ea, nI_clamp (by omega), hL.2.2.2.2.2.2.1 p i hp (by omega), nI_1]
    refine br_lt (by omega) (by omega) (fun q => absurd q (by omega)) (fun _ => ⟨vp_in_nI (by omega) (by decide), fun x ex => ?_⟩)
    revert kk ex
    cases cstA (lplace l) f p i with
    | false =>
      intro kk ex
      have ex : x = if nI (lplace l (p * 24 + i)) = -1 then -1 else -1 := ex
      rw [ite_self] at ex
      subst ex; exact kk
    | true =>
      intro kk ex
      have ex : x = if nI (lplace l (p * 24 + i)) = nI (lplace l (p * 24 + f)) then nI (lplace l (p * 24 + f)) else -1 := ex
      rw [Bool.true_and] at kk
      by_cases c : lplace l (p * 24 + i) = lplace l (p * 24 + f)
      · rw [if_pos (by rw [c])] at ex
        rw [beq_iff_eq.mpr c, if_pos rfl] at kk
        subst ex; exact kk
      · rw [if_neg (fun z => c (ni_inj (by omega) (by omega) z))] at ex
        have : (lplace l (p * 24 + i) == lplace l (p * 24 + f)) = false := beq_eq_false_iff_ne.mpr c
        rw [this, if_neg (by decide)] at kk
        subst ex; exact kk
theorem st0_64 {l : Land} {f t p c : Nat} (hl : LOK l) (hp : p < lnp l) (hf : f < 24) (h : st0 l f t p = some c) : c < 64 := by
  unfold st0 at h
  split at h
  · cases h; exact hl.2.2.2.2.2.2.1 p f hp hf
  · cases h
def pR (x : Nat × Bool × Nat) : Int32 := if x.2.1 then nI x.1 else - nI x.1
theorem m_findPlayed {σ : St} {f t : Nat} {M : Mem} {Q : Int32 → Mem → Prop} (hM : MRep σ M) (hl : LOK (sL σ)) (hg : dgood (sL σ) (sD σ)) (ht : t < 24) (hf : f ≤ t) (k : ∀ M', MF M M' → MStd (sL σ) f t (plS (sL σ) (sD σ) f t (plGo (sL σ) (sD σ) f t 50 1).2.2) M' → Q (pR (plGo (sL σ) (sD σ) f t 50 1)) M') : w_Mo_findPlayed (nI f) (nI t) M Q := by
  have hnp := hl.2.2.1
  unfold w_Mo_findPlayed
  refine m_standsIn (fun M1 hf1 s1 s2 s3 _ => ?_)
  have hM1 := hM.scr hf1
  refine for_loop (fun n i (M2 : Mem) => w_Mo_findPlayed_L8 (nI f) (nI t) (fun M1070 => w_Mo_writes 0 M1070 (fun M1073 => (∃ n1097, w_Mo_findPlayed_L96 (fun M1096 => Q (-50) M1096) Q n1097 1 M1073))) Q n (nI i) M2) (fun i M2 => Fr [c_mo_standing] M1 M2 ∧ ∀ p, p < i → M2.1 c_mo_standing p = oI (st0 (sL σ) f t p)) (lnp (sL σ)) 0 M1 (Nat.zero_le _) ⟨Fr.rfl, fun p hp => absurd hp (Nat.not_lt_zero p)⟩ ?_ ?_
  · intro n M2 ⟨hF2, hs2⟩
    have hf2 := hf1.trans (MF.of hF2 (by decide) (by decide))
    have hM2 := hM.scr hf2
    have hS2 : MStd (sL σ) f t (st0 (sL σ) f t) M2 := ⟨by rw [hF2.1 _ (by decide)]; exact s1, by rw [hF2.1 _ (by decide)]; exact s2, fun p hp => ⟨hs2 p hp, fun c hc => st0_64 hl hp (by omega) hc⟩⟩
    unfold w_Mo_findPlayed_L8
    refine m_persons hM2.1.2.1 (br_le (by omega) (by omega) (fun _ => m_writes (r := 0) (by decide) (fun M3 hF3 w1 w2 => ?_)) (fun q => absurd q (by omega)))
    have hf3 := hf2.trans (MF.of hF3 (by decide) (by decide))
    have hS3 := hS2.fr hF3 (by decide)
    refine for_loop (fun n r (M4 : Mem) => w_Mo_findPlayed_L96 (fun M1096 => Q (-50) M1096) Q n (nI r) M4) (fun r M4 => MF M M4 ∧ MStd (sL σ) f t (plS (sL σ) (sD σ) f t (r - 1)) M4 ∧ MRw (sL σ) (plS (sL σ) (sD σ) f t) r M4 ∧ plGo (sL σ) (sD σ) f t 50 1 = plGo (sL σ) (sD σ) f t (51 - r) r) 51 1 M3 (by decide) ⟨hf3, hS3, fun i p hi hp => ?_, rfl⟩ ?_ ?_
    · have e0 : i = 0 := by omega
      subst e0
      rw [w1 p (by omega)]
      exact hS2.2.2 p hp
    · intro m M4 ⟨hf4, hS4, hR4, hgo⟩
      refine br_lt (a := 50) (b := 51) (by decide) (by decide) (fun _ => ?_) (fun q => absurd q (by omega))
      rw [hgo] at k
      exact k M4 hf4 hS4
    · intro m r M4 hr1 hr ⟨hf4, hS4, hR4, hgo⟩ kk
      unfold w_Mo_findPlayed_L96
      refine br_lt (a := 50) (by decide) (by omega) (fun q => absurd q (by omega)) (fun _ => m_round (hM.scr hf4) hl hg hS4 (by omega) ht (fun M5 hf5 hr5 hS5 => ?_))
      have hf5' := hf4.trans hf5
      have ep : plS (sL σ) (sD σ) f t r = (rd (sL σ) (sD σ) f t (plS (sL σ) (sD σ) f t (r - 1)) (lnp (sL σ))).1 := by
        obtain ⟨r', rfl⟩ : ∃ r', r = r' + 1 := ⟨r - 1, by omega⟩
        rfl
      rw [← ep] at hS5
      have egm : plGo (sL σ) (sD σ) f t (51 - r) r = if plM (sL σ) (sD σ) f t (r - 1) then (if seenS (sL σ) (sD σ) f t r then (r, false, r) else plGo (sL σ) (sD σ) f t (51 - (r + 1)) (r + 1)) else (r, true, r) := by
        obtain ⟨d, hd⟩ : ∃ d, 51 - r = d + 1 := ⟨50 - r, by omega⟩
        rw [hd, plGo, show 51 - (r + 1) = d by omega]
      rw [egm] at hgo
      have epm : (rd (sL σ) (sD σ) f t (plS (sL σ) (sD σ) f t (r - 1)) (lnp (sL σ))).2 = plM (sL σ) (sD σ) f t (r - 1) := rfl
      rw [epm, nI_1]
      have hR5 : MRw (sL σ) (plS (sL σ) (sD σ) f t) r M5 := fun i p hi hp => by rw [hr5]; exact hR4 i p hi hp
      cases hpm : plM (sL σ) (sD σ) f t (r - 1) with
      | false =>
        rw [hpm, if_neg (by decide)] at hgo
        rw [hgo] at k
        exact ⟨fun q => absurd rfl q, fun _ => k M5 hf5' hS5⟩
      | true =>
        rw [hpm, if_pos rfl] at hgo
        refine ⟨fun _ => m_wasSo hl (hM.scr hf5').1 hS5 hR5 (by omega) ⟨fun q => ?_, fun q => ?_⟩, fun q => absurd q (by decide)⟩
        · have q : seenS (sL σ) (sD σ) f t r = false := q
          rw [q, if_neg (by decide)] at hgo
          refine m_writes (by omega) (fun M6 hF6 w1 w2 => kk M6 ⟨hf5'.trans (MF.of hF6 (by decide) (by decide)), hS5.fr hF6 (by decide), fun i p hi hp => ?_, hgo⟩)
          by_cases c : i = r
          · subst c
            rw [w1 p (by omega)]; exact hS5.2.2 p hp
          · rw [w2 _ (by omega)]; exact hR5 i p (by omega) hp
        · have q : seenS (sL σ) (sD σ) f t r = true := q
          rw [q, if_pos rfl] at hgo
          rw [hgo] at k
          exact k M5 hf5' hS5
  · intro n i M2 _ hi ⟨hF2, hs2⟩ kk
    have hM2 := hM1.scr (MF.of hF2 (by decide) (by decide))
    unfold w_Mo_findPlayed_L8
    refine m_persons hM2.1.2.1 ?_
    have ea : 19 + 24 * nI i + nI f = nI (19 + 24 * i + f) := by simp only [fa_lit, pk_mul, nI_add]
    rw [ea, nI_clamp (by omega), hM2.1.2.2.2.2.2.2.1 i f hi (by omega), nI_1, nI_clamp (by omega)]
    refine br_le (by omega) (by omega) (fun q => absurd q (by omega)) (fun _ => ⟨vp_in_nI (by omega) (by decide), fun x ex => ?_⟩)
    subst ex
    refine m_still hl hM2.1 hi ht hf ⟨vp_in_nI (by omega) (by decide), kk _ ⟨hF2.put _ _ _ (by decide), fun p hp => ?_⟩⟩
    rw [si_same]
    by_cases c : p = i
    · subst c; rw [up_s]
    · rw [up_n c]; exact hs2 p (by omega)
theorem m_areHours {f t : Int32} {M : Mem} {Q : Bool → Mem → Prop} (k : Q (hrsB f t) M) : w_Mo_areHours f t M Q := by
  unfold hrsB at k
  unfold w_Mo_areHours
  refine m_isHour ⟨fun h1 => ?_, fun h1 => m_isHour ⟨fun h2 => ?_, fun h2 => ⟨!decide (t < f), ?_, ?_⟩⟩⟩
  · rw [h1] at k; exact k
  · rw [h1, h2] at k; exact k
  · by_cases c : t < f
    · rw [if_pos c, decide_eq_true c]; rfl
    · rw [if_neg c, decide_eq_false c]; rfl
  · rw [h1, h2] at k; exact k
theorem plGo_le {l : Land} {ds : Deeds} {f t : Nat} : ∀ k r, 1 ≤ r → r + k ≤ 51 → 1 ≤ (plGo l ds f t k r).1 ∧ (plGo l ds f t k r).1 ≤ 50
  | 0, _, _, _ => ⟨(by decide : 1 ≤ 50), (by decide : 50 ≤ 50)⟩
  | k + 1, r, h1, h2 => by
    rw [plGo]
    split
    · split
      · exact ⟨h1, by show r ≤ 50; omega⟩
      · exact plGo_le k (r + 1) (by omega) (by omega)
    · exact ⟨h1, by show r ≤ 50; omega⟩
