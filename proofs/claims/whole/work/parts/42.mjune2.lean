theorem owF_lt {l : Land} {ds : Deeds} {at_ : Nat → Nat} {sil p q : Nat} (hl : LOK l) (h9 : ∀ i, i < 120 → dtimes ds i ≤ 9) (hz : NZ ds) : owF l at_ ds sil p q < 2 ^ 31 := by
  by_cases c : p < lnp l
  · rw [owF_in c]
    have := owes_le (at_ := at_) (sil := sil) (p := p) (q := q) hl h9 hz
    omega
  · rw [owF_out c]; decide
abbrev SFJ : List Nat := [c_mo, c_mo_standing, c_mo_facts, c_mo_pile, c_mo_owes, c_mo_purse]
theorem m_findJune {σ : St} {M : Mem} {Q : Mem → Prop} (hM : MRep σ M) (hl : LOK (sL σ)) (hg : dgood (sL σ) (sD σ)) (k : ∀ M', MF M M' → MRep σ M' → MJX (sL σ) (jend (sL σ) (sD σ)) M' → Q M') : w_Mo_findJune M Q := by
  have hnp := hl.2.2.1
  have h9 : ∀ i, i < 120 → dtimes (sD σ) i ≤ 9 := hg.1.1
  have hz : NZ (sD σ) := hg.1.2.2
  unfold w_Mo_findJune
  refine m_standsAsTold (fun M1 hf1 _ s1 s2 s3 => ?_)
  have hM1 := hM.scr hf1
  refine m_findOwes (but := 0) hl hM1.1 (MAt.told hl s1) hM1.2.1 h9 hg.1.2.1 (by decide) (fun M2 hF2 hS2 => ?_)
  have hf2 := MF.of hF2 (by decide) (by decide)
  rw [Nat.or_zero] at hS2
  refine for_loop (fun n i (M3 : Mem) => w_Mo_findJune_L11 (fun M1257 => (∃ n1270, w_Mo_findJune_L140 (fun M1269 => Q M1269) Q n1270 1 M1257)) Q n (nI i) M3) (fun i M3 => Fr SMJ M2 M3 ∧ MOw (ntI (owF (sL σ) (lplace (sL σ)) (sD σ) (dshot (sD σ))) i 0) M3 ∧ ∀ p, p < i → M3.1 c_mo_purse p = nI (lpurse (sL σ) p)) (lnp (sL σ)) 0 M2 (Nat.zero_le _) ⟨Fr.rfl, hS2.to (fun p q _ _ => ?_), fun p hp => absurd hp (Nat.not_lt_zero p)⟩ ?_ ?_
  · unfold ntI; rw [if_neg (by omega)]
  · intro n M3 ⟨hF3, hS3, hp3⟩
    have hf3 := MF.of hF3 (by decide) (by decide)
    have hM3 := (hM1.scr hf2).scr hf3
    have hT := j0_TD hl h9 hz
    unfold w_Mo_findJune_L11
    refine m_persons hM3.1.2.1 (br_le (by omega) (by omega) (fun _ => ⟨TD (j0 (sL σ) (sD σ)) + 2, m_payLoop hl (B := 330759) (by decide) (TD (j0 (sL σ) (sD σ)) + 1) _ (j0 (sL σ) (sD σ)) M3 hM3.1 ⟨hp3, fun p q hp hq => ?_⟩ (j0_JB hl h9 hz) (by omega) (by omega) (fun M4 hF4 hJ4 => ?_)⟩) (fun q => absurd q (by omega)))
    · rw [hS3 p q (by omega) (by omega)]
      unfold ntI j0
      dsimp only
      rw [if_pos (Or.inl ⟨hp, hq⟩), dueS_at hp hq hnp, owF_in hp, owF_in hq]
    · have hf4 := MF.of hF4 (by decide) (by decide)
      exact k M4 (((hf1.trans hf2).trans hf3).trans hf4) (hM3.scr hf4) hJ4
  · intro n i M3 _ hi ⟨hF3, hS3, hp3⟩ kk
    have hf3 := MF.of hF3 (by decide) (by decide)
    have hM3 := (hM1.scr hf2).scr hf3
    unfold w_Mo_findJune_L11
    refine m_persons hM3.1.2.1 ?_
    rw [show (7 : Int32) + 2 * nI i + 1 = nI (7 + 2 * i + 1) by simp only [fa_lit, pk_mul, nI_add], nI_clamp (by omega), nI_clamp (by omega), hM3.1.2.2.2.2.2.1 i hi, nI_1]
    refine br_le (by omega) (by omega) (fun q => absurd q (by omega)) (fun _ => ⟨vp_in_nI (by omega) (by decide), vp_in_nI (by omega) (by decide), ?_⟩)
    generalize hM4 : si M3 c_mo_purse i (nI (lpurse (sL σ) i)) = M4
    have hF4 : Fr [c_mo_purse] M3 M4 := by rw [← hM4]; exact fr_si (by decide)
    refine m_netI (l := sL σ) (fun p q => owF_lt hl h9 hz) (by omega) (hS3.fr hF4 (by decide)) (fun M5 hF5 hS5 => kk M5 ⟨(hF3.trans (hF4.mono (by decide))).trans (hF5.mono (by decide)), hS5.to (fun p q _ _ => ?_), fun p hp => ?_⟩)
    · unfold ntI
      by_cases c : (p < i + 1 ∧ q < i + 1) ∨ (p = i + 1 ∧ q < 0) ∨ (q = i + 1 ∧ p < 0)
      · rw [if_pos c]
        by_cases c2 : (p < i ∧ q < i) ∨ (p = i ∧ q < i) ∨ (q = i ∧ p < i)
        · rw [if_pos c2]
        · have c3 : p = q := by omega
          subst c3
          rw [if_neg c2, owF_diag]
          exact owF_diag
      · rw [if_neg c, if_neg (by omega)]
    · rw [hF5.1 _ (by decide), ← hM4, si_same]
      by_cases c : p = i
      · subst c; rw [up_s]
      · rw [up_n c]; exact hp3 p (by omega)
theorem m_june21 {σ : St} {a : Int32} {M : Mem} {Q : Int32 → Mem → Prop} (hM : MRep σ M) (hl : LOK (sL σ)) (hg : dgood (sL σ) (sD σ)) (ha : a = -1 ∨ inR (lnp (sL σ)) a = true) (k : ∀ M', MF M M' → MRep σ M' → Q (juneR (sL σ) (sD σ) a) M') : w_Mo_june_j21 a M Q := by
  have hnp := hl.2.2.1
  have h9 : ∀ i, i < 120 → dtimes (sD σ) i ≤ 9 := hg.1.1
  have hz : NZ (sD σ) := hg.1.2.2
  unfold w_Mo_june_j21
  refine m_findJune hM hl hg (fun M1 hf1 hM1 hJ1 => ?_)
  have k := k M1 hf1 hM1
  have hB : ∀ i, i < 36 → (jend (sL σ) (sD σ)).2 i < 2 ^ 31 := by
    intro i hi
    have h1 := (jgo_JB hnp (TD (j0 (sL σ) (sD σ)) + 1) (j0 (sL σ) (sD σ)) (j0_JB hl h9 hz)).2
    have h2 := j0_TD hl h9 hz
    have h3 := due_TD (s := jend (sL σ) (sD σ)) hi
    have h4 : TD (jend (sL σ) (sD σ)) ≤ TD (j0 (sL σ) (sD σ)) := h1
    omega
  unfold juneR at k
  generalize jend (sL σ) (sD σ) = s at hJ1 hB k
  refine for_loop (fun n i (M2 : Mem) => w_Mo_june_L29 a (fun y1281 M1280 => ((¬ a = (-1) → (vp_in a 6 ∧ Q (M1280.1 c_mo_purse (Int32.toNatClampNeg a)) M1280)) ∧ (a = (-1) → Q y1281 M1280))) Q n (nI (ruA s (lnp (sL σ)) i)) (nI i) M2) (fun i M2 => M2 = M1) (lnp (sL σ)) 0 M1 (Nat.zero_le _) rfl ?_ ?_
  · intro n M2 e
    subst e
    unfold w_Mo_june_L29
    refine m_persons hM1.1.2.1 (br_le (by omega) (by omega) (fun _ => ⟨fun q => ?_, fun q => ?_⟩) (fun q => absurd q (by omega)))
    · rcases ha with e | e
      · exact absurd e q
      · rw [if_neg q, if_pos e] at k
        obtain ⟨p, hp, rfl⟩ := inR_true (by omega) e
        unfold anI at k
        rw [nI_clamp (by omega)] at k ⊢
        rw [hJ1.1 p hp]
        exact ⟨vp_in_nI (by omega) (by decide), k⟩
    · rw [if_pos q] at k; exact k
  · intro n i M2 _ hi e kk
    subst e
    have kk := kk _ rfl
    unfold w_Mo_june_L29
    refine m_persons hM1.1.2.1 (br_le (by omega) (by omega) (fun q => absurd q (by omega)) (fun _ => ?_))
    rw [nI_1]
    refine for_loop (fun m j (M3 : Mem) => w_Mo_june_L40 a (nI i) (fun y1278 M1277 => w_Mo_june_L29 a (fun y1281 M1280 => ((¬ a = (-1) → (vp_in a 6 ∧ Q (M1280.1 c_mo_purse (Int32.toNatClampNeg a)) M1280)) ∧ (a = (-1) → Q y1281 M1280))) Q n y1278 (nI (i + 1)) M1277) Q m (nI (ruL s i j (ruA s (lnp (sL σ)) i))) (nI j) M3) (fun j M3 => M3 = M2) (lnp (sL σ)) 0 M2 (Nat.zero_le _) rfl ?_ ?_
    · intro m M3 e
      subst e
      unfold w_Mo_june_L40
      exact m_persons hM1.1.2.1 (br_le (by omega) (by omega) (fun _ => kk) (fun q => absurd q (by omega)))
    · intro m j M3 _ hj e kk2
      subst e
      have kk2 := kk2 _ rfl
      rw [ruL] at kk2
      unfold w_Mo_june_L40
      have ea : 6 * nI i + nI j = nI (i * 6 + j) := by simp only [fa_lit, pk_mul, nI_add, Nat.mul_comm]
      refine m_persons hM1.1.2.1 ?_
      rw [ea, nI_clamp (by omega), hJ1.2 i j hi hj, nI_1, shl1 (by omega), fa_or]
      refine br_le (by omega) (by omega) (fun q => absurd q (by omega)) (fun _ => ⟨vp_in_nI (by omega) (by decide), br_le (b := 0) (hB _ (by omega)) (by decide) (fun q => ?_) (fun q => ?_)⟩)
      · rw [if_pos (by omega)] at kk2
        rw [Int32.or_zero]
        exact kk2
      · rw [if_neg (by omega)] at kk2
        exact kk2
theorem m_june {σ : St} {a : Int32} {M : Mem} {Q : Int32 → Mem → Prop} (hM : MRep σ M) (hl : LOK (sL σ)) (hg : dgood (sL σ) (sD σ)) (k : ∀ M', Fr2 SMO M M' → MRep σ M' → Q (juneR (sL σ) (sD σ) a) M') : w_Mo_june a M Q := by
  have hM1 := hM.thr (v := 0)
  unfold w_Mo_june
  have hF1 : Fr2 SMO M (si M c_mo Mo_thrown 0) := fr2_si (by decide)
  generalize si M c_mo Mo_thrown 0 = M1 at hM1 hF1 ⊢
  refine ⟨fun e => m_june21 hM1 hl hg (Or.inl e) (fun M2 hf2 hM2 => k M2 (hF1.trans hf2.two) hM2), fun e => m_isPerson hM1.1 ⟨fun h => m_june21 hM1 hl hg (Or.inr h) (fun M2 hf2 hM2 => k M2 (hF1.trans hf2.two) hM2), fun h => ?_⟩⟩
  have := k M1 hF1 hM1
  rw [juneR, if_neg e, h] at this; exact this
