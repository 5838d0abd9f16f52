/-! the reference's questions of debts -/
theorem MRep.st {σ : St} {M : Mem} {b h : Nat} (hM : MRep σ M) (hb : b < 5) (hh : h < 24) : M.1 c_mo_state (b * 24 + h) = nI (dtimes (sD σ) (b * 24 + h)) := by
  have e1 := hM.2.1.1.1 (b * 24 + h) (by omega)
  rw [Nat.mul_zero, Nat.zero_add] at e1
  exact e1
theorem m_entry75 {σ : St} {a h p t : Nat} {w s0 : Int32} {M : Mem} {Q : Int32 → Mem → Prop} (hM : MRep σ M) (hl : LOK (sL σ)) (hA : MAt (sL σ) (lplace (sL σ)) M) (ha : a < lnb (sL σ)) (hp : p < lnp (sL σ)) (hh : h < 24) (ht : t ≤ 9) (c : Option Nat) (hs0 : s0 = oI c) (hc : ∀ e, c = some e → cred (sL σ) (lplace (sL σ)) a h p = some e ∧ t ≠ 0) (hn : c = none → pnc (sL σ) (lplace (sL σ)) a h p t = 0)
    (k : ∀ M', MF M M' → MRep σ M' → Q (if w = 0 then nI (pnc (sL σ) (lplace (sL σ)) a h p t) else s0) M') : w_Mo_entry_j75 (nI a) (nI h) (nI p) w (nI t) s0 M Q := by
  have hnp := hl.2.2.1
  unfold w_Mo_entry_j75
  refine ⟨fun e => ?_, fun e => ?_⟩
  · rw [if_pos e] at k
    cases c with
    | none =>
      rw [hs0]
      refine ⟨fun q => absurd q (show ¬ (0 : Int32) ≤ -1 by decide), fun _ => ?_⟩
      have := k M MF.rfl hM
      rw [hn rfl] at this; exact this
    | some e =>
      obtain ⟨c1, c2⟩ := hc e rfl
      have he := (cred_lt c1).1
      rw [hs0]
      refine ⟨fun _ => m_pence hl hM.1 hA ha hp hh c1 ht c2 (fun M' hF' => k M' (MF.of hF' (by decide) (by decide)) (hM.scr (MF.of hF' (by decide) (by decide)))), fun q => absurd ((nI_leI (a := 0) (by decide) (by omega)).mpr (Nat.zero_le e)) q⟩
  · have := k M MF.rfl hM
    rw [if_neg e] at this; exact this
theorem m_entry57 {σ : St} {a h p t : Nat} {w : Int32} {M : Mem} {Q : Int32 → Mem → Prop} (hM : MRep σ M) (hl : LOK (sL σ)) (hA : MAt (sL σ) (lplace (sL σ)) M) (ha : a < lnb (sL σ)) (hp : p < lnp (sL σ)) (hh : h < 24) (ht : t ≤ 9)
    (k : ∀ M', MF M M' → MRep σ M' → Q (if w = 0 then nI (pnc (sL σ) (lplace (sL σ)) a h p t) else if t = 0 then -1 else oI (cred (sL σ) (lplace (sL σ)) a h p)) M') : w_Mo_entry_j57 (nI a) (nI h) (nI p) w (nI t) M Q := by
  unfold w_Mo_entry_j57
  refine br_le (b := 0) (by omega) (by decide) (fun q => ?_) (fun q => ?_)
  · have t0 : t = 0 := by omega
    rw [if_pos t0] at k
    exact m_entry75 hM hl hA ha hp hh ht none rfl (fun e z => by cases z) (fun _ => by unfold pnc; rw [if_pos t0]) k
  · rw [if_neg (by omega : ¬ t = 0)] at k
    refine m_creditor hl hM.1 hA ha hp hh (fun M1 hF1 => ?_)
    have hf := MF.of hF1 (by decide) (by decide)
    refine m_entry75 (hM.scr hf) hl (hA.fr hF1 (by decide)) ha hp hh ht (cred (sL σ) (lplace (sL σ)) a h p) rfl (fun e z => ⟨z, by omega⟩) (fun z => by unfold pnc; rw [z]; simp) (fun M2 hf2 hM2 => k M2 (hf.trans hf2) hM2)
theorem m_entry {σ : St} {a h p w : Int32} {M : Mem} {Q : Int32 → Mem → Prop} (hM : MRep σ M) (hl : LOK (sL σ)) (hg : dgood (sL σ) (sD σ)) (k : ∀ M', Fr2 SMO M M' → MRep σ M' → Q (entryR (sL σ) (sD σ) a h p w) M') : w_Mo_entry a h p w M Q := by
  have hnb := hl.2.2.2.1
  have hnp := hl.2.2.1
  have h32 : dshot (sD σ) < 32 := hg.1.2.1
  have hM1 := hM.thr (v := 0)
  unfold w_Mo_entry
  have hF1 : Fr2 SMO M (si M c_mo Mo_thrown 0) := fr2_si (by decide)
  generalize si M c_mo Mo_thrown 0 = M1 at hM1 hF1 ⊢
  have k0 := k M1 hF1 hM1
  refine m_isBird hM1.1 ⟨fun h1 => ?_, fun h1 => m_isHour ⟨fun h2 => ?_, fun h2 => m_isPerson hM1.1 ⟨fun h3 => ?_, fun h3 => ?_⟩⟩⟩
  · rw [entryR, h1] at k0; exact k0
  · rw [entryR, h1, h2] at k0; exact k0
  · obtain ⟨a, ha, rfl⟩ := inR_true (by omega) h1
    obtain ⟨h, hh, rfl⟩ := inR_true (by omega) h2
    obtain ⟨p, hp, rfl⟩ := inR_true (by omega) h3
    clear k0
    unfold entryR at k
    rw [h1, h2, h3, if_pos rfl, if_pos rfl, if_pos rfl] at k
    unfold anI at k
    rw [nI_clamp (by omega), nI_clamp (by omega), nI_clamp (by omega)] at k
    refine m_standsAsTold (fun M2 hf2 _ s1 s2 s3 => ?_)
    have hM2 := hM1.scr hf2
    have hA2 := MAt.told (M := M2) hl s1
    have ea : 24 * nI a + nI h = nI (a * 24 + h) := by simp only [fa_lit, pk_mul, nI_add, Nat.mul_comm]
    have h9 : dtimes (sD σ) (a * 24 + h) ≤ 9 := hg.1.1 (a * 24 + h) (by omega)
    refine m_isShot hM2.2.1 h32 (by omega) ⟨fun q => ?_, fun q => ?_⟩
    · have et : tms (sD σ) (dshot (sD σ)) a h = dtimes (sD σ) (a * 24 + h) := by unfold tms; rw [q]; rfl
      rw [et] at k
      rw [ea, nI_clamp (by omega), hM2.st (by omega) hh]
      exact ⟨vp_in_nI (by omega) (by decide), m_entry57 hM2 hl hA2 ha hp hh h9 (fun M3 hf3 hM3 => k M3 (hF1.trans (hf2.trans hf3).two) hM3)⟩
    · have et : tms (sD σ) (dshot (sD σ)) a h = 0 := by unfold tms; rw [q]; rfl
      rw [et] at k
      exact m_entry57 (t := 0) hM2 hl hA2 ha hp hh (by decide) (fun M3 hf3 hM3 => k M3 (hF1.trans (hf2.trans hf3).two) hM3)
  · rw [entryR, h1, h2, h3] at k0; exact k0
theorem m_owed {σ : St} {p q : Int32} {M : Mem} {Q : Int32 → Mem → Prop} (hM : MRep σ M) (hl : LOK (sL σ)) (hg : dgood (sL σ) (sD σ)) (k : ∀ M', Fr2 SMO M M' → MRep σ M' → Q (owedR (sL σ) (sD σ) p q) M') : w_Mo_owed p q M Q := by
  have hnp := hl.2.2.1
  have hM1 := hM.thr (v := 0)
  unfold w_Mo_owed
  have hF1 : Fr2 SMO M (si M c_mo Mo_thrown 0) := fr2_si (by decide)
  generalize si M c_mo Mo_thrown 0 = M1 at hM1 hF1 ⊢
  have k0 := k M1 hF1 hM1
  refine m_isPerson hM1.1 ⟨fun h1 => ?_, fun h1 => m_isPerson hM1.1 ⟨fun h2 => ?_, fun h2 => ⟨fun h3 => ?_, fun h3 => ?_⟩⟩⟩
  · rw [owedR, h1] at k0; exact k0
  · rw [owedR, h1, h2] at k0; exact k0
  · obtain ⟨p, hp, rfl⟩ := inR_true (by omega) h1
    obtain ⟨q, hq, rfl⟩ := inR_true (by omega) h2
    clear k0
    unfold owedR at k
    rw [h1, h2, if_pos rfl, if_pos rfl, if_neg h3] at k
    unfold anI at k
    rw [nI_clamp (by omega), nI_clamp (by omega)] at k
    refine m_standsAsTold (fun M2 hf2 _ s1 s2 s3 => ?_)
    have hM2 := hM1.scr hf2
    refine m_findOwes (but := 0) hl hM2.1 (MAt.told hl s1) hM2.2.1 hg.1.1 hg.1.2.1 (by decide) (fun M3 hF3 hS3 => ?_)
    have hf3 := MF.of hF3 (by decide) (by decide)
    have ea : 6 * nI p + nI q = nI (p * 6 + q) := by simp only [fa_lit, pk_mul, nI_add, Nat.mul_comm]
    rw [ea, nI_clamp (by omega), hS3 p q (by omega) (by omega), Nat.or_zero, owF_in hp]
    exact ⟨vp_in_nI (by omega) (by decide), k M3 (hF1.trans (hf2.trans hf3).two) (hM2.scr hf3)⟩
  · rw [owedR, h1, h2, if_pos rfl, if_pos rfl, if_pos h3] at k0; exact k0
theorem m_netted {σ : St} {M : Mem} {Q : Int32 → Mem → Prop} (hM : MRep σ M) (hl : LOK (sL σ)) (hg : dgood (sL σ) (sD σ)) (k : ∀ M', Fr2 SMO M M' → MRep σ M' → Q (netR (sL σ) (sD σ)) M') : w_Mo_netted M Q := by
  have hnp := hl.2.2.1
  have hM1 := hM.thr (v := 0)
  unfold w_Mo_netted
  have hF1 : Fr2 SMO M (si M c_mo Mo_thrown 0) := fr2_si (by decide)
  generalize si M c_mo Mo_thrown 0 = M1 at hM1 hF1 ⊢
  refine m_standsAsTold (fun M2 hf2 _ s1 s2 s3 => ?_)
  have hM2 := hM1.scr hf2
  refine m_findOwes (but := 0) hl hM2.1 (MAt.told hl s1) hM2.2.1 hg.1.1 hg.1.2.1 (by decide) (fun M3 hF3 hS3 => ?_)
  have hf3 := MF.of hF3 (by decide) (by decide)
  have hM3 := hM2.scr hf3
  rw [Nat.or_zero] at hS3
  refine for_loop (fun n i (M4 : Mem) => w_Mo_netted_L18 (fun y M' => Q y M') Q n (sI (fun p => if 0 < balN (sL σ) (sD σ) (dshot (sD σ)) p then balN (sL σ) (sD σ) (dshot (sD σ)) p else 0) i) (nI i) M4) (fun i M4 => M4 = M3) (lnp (sL σ)) 0 M3 (Nat.zero_le _) rfl ?_ ?_
  · intro n M4 e
    subst e
    unfold w_Mo_netted_L18
    exact m_persons hM3.1.2.1 (br_le (by omega) (by omega) (fun _ => k _ (hF1.trans (hf2.trans hf3).two) hM3) (fun q => absurd q (by omega)))
  · intro n i M4 _ hi e kk
    subst e
    have kk := kk _ rfl
    rw [sI_succ] at kk
    unfold w_Mo_netted_L18
    refine m_persons hM3.1.2.1 (br_le (by omega) (by omega) (fun q => absurd q (by omega)) (fun _ => m_balance hl hS3 hi ⟨fun q => ?_, fun q => m_balance hl hS3 hi ?_⟩))
    · have q2 : ¬ 0 < balN (sL σ) (sD σ) (dshot (sD σ)) i := fun z => (fa_of_lt z).2.1 q
      rw [if_neg q2] at kk
      rw [nI_1]; exact kk
    · have q2 : 0 < balN (sL σ) (sD σ) (dshot (sD σ)) i := fa_of_nle q
      rw [if_pos q2] at kk
      rw [nI_1]; exact kk
