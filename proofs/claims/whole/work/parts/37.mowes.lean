/-! what the reference counts as owed -/
abbrev SSC : List Nat := [c_mo, c_mo_standing, c_mo_facts, c_mo_pile, c_mo_owes, c_mo_rows, c_mo_owesBy, c_mo_sung, c_mo_asked, c_mo_purse]
def MF (M M' : Mem) : Prop := Fr SSC M M' ∧ M'.1 c_mo Mo_undos = M.1 c_mo Mo_undos ∧ M'.1 c_mo Mo_taped = M.1 c_mo Mo_taped ∧ M'.1 c_mo Mo_thrown = M.1 c_mo Mo_thrown
theorem MF.rfl {M : Mem} : MF M M := ⟨Fr.rfl, Eq.refl _, Eq.refl _, Eq.refl _⟩
theorem MF.trans {M M1 M2 : Mem} (h : MF M M1) (h2 : MF M1 M2) : MF M M2 := ⟨h.1.trans h2.1, h2.2.1.trans h.2.1, h2.2.2.1.trans h.2.2.1, h2.2.2.2.trans h.2.2.2⟩
theorem MF.of {M M1 : Mem} {L : List Nat} (h : Fr L M M1) (hs : ∀ k ∈ L, k ∈ SSC) (hc : c_mo ∉ L) : MF M M1 := ⟨h.mono hs, by rw [h.1 _ hc], by rw [h.1 _ hc], by rw [h.1 _ hc]⟩
theorem MRep.scr {σ : St} {M M' : Mem} (h : MRep σ M) (hF : MF M M') : MRep σ M' := h.mv (fun k hk => by
    have : ∀ k ∈ MCs, k ∉ SSC := by decide
    exact ⟨hF.1.1 k (this k hk), by rw [hF.1.2]⟩) hF.2.1 hF.2.2.1
theorem MF.two {M M' : Mem} (h : MF M M') : Fr2 SMO M M' := (h.1.mono (by decide)).two
theorem m_standsAsTold {M : Mem} {Q : Mem → Prop} (k : ∀ M', MF M M' → Fr [c_mo, c_mo_standing] M M' → M'.1 c_mo Mo_standFrom = 24 → M'.1 c_mo Mo_standTo = -1 → (∀ p, p < 6 → M'.1 c_mo_standing p = -1) → Q M') : w_Mo_standsAsTold M Q := by
  unfold w_Mo_standsAsTold
  refine for_loop (fun n i (M1 : Mem) => w_Mo_standsAsTold_L2 (fun M907 => Q (si (si M907 c_mo Mo_standFrom 24) c_mo Mo_standTo (-1))) Q n (nI i) M1) (fun i M1 => Fr [c_mo_standing] M M1 ∧ ∀ p, p < i → M1.1 c_mo_standing p = -1) 6 0 M (Nat.zero_le _) ⟨Fr.rfl, fun p hp => absurd hp (Nat.not_lt_zero p)⟩ ?_ ?_
  · intro n M1 ⟨hF, hs⟩
    refine br_le (a := 6) (b := 6) (by decide) (by decide) (fun _ => ?_) (fun q => absurd q (by omega))
    have hF2 : Fr [c_mo, c_mo_standing] M (si (si M1 c_mo Mo_standFrom 24) c_mo Mo_standTo (-1)) := (((hF.mono (by decide)).put _ _ _ (by decide)).put _ _ _ (by decide))
    refine k _ ⟨hF2.mono (by decide), ?_, ?_, ?_⟩ hF2 ?_ ?_ (fun p hp => ?_)
    · rw [si_same, up_n (by decide), si_same, up_n (by decide), hF.1 _ (by decide)]
    · rw [si_same, up_n (by decide), si_same, up_n (by decide), hF.1 _ (by decide)]
    · rw [si_same, up_n (by decide), si_same, up_n (by decide), hF.1 _ (by decide)]
    · rw [si_same, up_n (by decide), si_same, up_s]
    · rw [si_same, up_s]
    · rw [si_ne _ _ _ (by decide), si_ne _ _ _ (by decide)]; exact hs p hp
  · intro n i M1 _ hi ⟨hF, hs⟩ kk
    unfold w_Mo_standsAsTold_L2
    rw [nI_clamp (by omega), nI_1]
    refine br_le (a := 6) (by decide) (by omega) (fun q => absurd q (by omega)) (fun _ => ⟨vp_in_nI hi (by decide), kk _ ⟨hF.put _ _ _ (by decide), fun p hp => ?_⟩⟩)
    rw [si_same]
    by_cases c : p = i
    · subst c; rw [up_s]
    · rw [up_n c]; exact hs p (by omega)
theorem MAt.told {l : Land} {M : Mem} (hl : LOK l) (h1 : M.1 c_mo Mo_standFrom = 24) : MAt l (lplace l) M := by
  intro p h hp hh
  have hlt : nI h < M.1 c_mo Mo_standFrom := by rw [h1]; exact (nI_ltI (b := 24) (by omega) (by decide)).mpr hh
  exact ⟨hl.2.2.2.2.2.2.1 p h hp hh, fun z => absurd hlt z.1, fun _ => rfl⟩
def adC (l : Land) (at_ : Nat → Nat) (b h t p q : Nat) : Nat := if p < lnp l then (if cred l at_ b h p = some q then pnc l at_ b h p t else 0) else 0
def owF (l : Land) (at_ : Nat → Nat) (ds : Deeds) (sil p q : Nat) : Nat := fb_sm (fun b => fb_sm (fun h => adC l at_ b h (tms ds sil b h) p q) 24) (lnb l)
theorem owF_in {l : Land} {at_ : Nat → Nat} {ds : Deeds} {sil p q : Nat} (hp : p < lnp l) : owF l at_ ds sil p q = owesN l at_ ds sil p q := by
  unfold owF owesN adC
  exact fb_sm_cong (fun b _ => fb_sm_cong (fun h _ => if_pos hp))
theorem owF_out {l : Land} {at_ : Nat → Nat} {ds : Deeds} {sil p q : Nat} (hp : ¬ p < lnp l) : owF l at_ ds sil p q = 0 := by
  unfold owF adC
  rw [fb_sm_cong (g := fun _ => 0) (fun b _ => ?_), fb_sm_const, Nat.mul_zero]
  rw [fb_sm_cong (g := fun _ => 0) (fun h _ => if_neg hp), fb_sm_const, Nat.mul_zero]
def MOw (S : Nat → Nat → Nat) (M : Mem) : Prop := ∀ p q, p < 6 → q < 6 → M.1 c_mo_owes (p * 6 + q) = nI (S p q)
theorem MOw.to {S S' : Nat → Nat → Nat} {M : Mem} (h : MOw S M) (e : ∀ p q, p < 6 → q < 6 → S p q = S' p q) : MOw S' M := fun p q hp hq => by rw [← e p q hp hq]; exact h p q hp hq
theorem MOw.fr {S : Nat → Nat → Nat} {M M' : Mem} {L : List Nat} (h : MOw S M) (hF : Fr L M M') (hd : c_mo_owes ∉ L) : MOw S M' := by
  unfold MOw; rw [hF.1 _ hd]; exact h
abbrev SOW : List Nat := [c_mo_facts, c_mo_pile, c_mo_owes]
theorem m_owesP {l : Land} {at_ : Nat → Nat} {b h t : Nat} {l1 : Int32} {S : Nat → Nat → Nat} {M : Mem} {K Q : Mem → Prop} (hl : LOK l) (hL : ML l M) (hA : MAt l at_ M) (hS : MOw S M) (hb : b < lnb l) (hh : h < 24) (ht : t ≤ 9) (k : ∀ M', Fr SOW M M' → MOw (fun p q => S p q + adC l at_ b h t p q) M' → K M') : ∃ n, w_Mo_findOwes_L76 l1 (nI b) (nI h) (nI t) K Q n 0 M := by
  have hnp := hl.2.2.1
  by_cases t0 : t = 0
  · subst t0
    have kz : K M := k M Fr.rfl (hS.to (fun p q _ _ => by unfold adC pnc; simp))
    refine ⟨1, ?_⟩
    unfold w_Mo_findOwes_L76
    exact m_persons hL.2.1 ⟨fun _ => kz, fun _ => ⟨fun _ => kz, fun q => absurd (by decide) q⟩⟩
  · refine for_loop (fun n i (M1 : Mem) => w_Mo_findOwes_L76 l1 (nI b) (nI h) (nI t) K Q n (nI i) M1) (fun i M1 => Fr SOW M M1 ∧ MOw (fun p q => if p < i then S p q + adC l at_ b h t p q else S p q) M1) (lnp l) 0 M (Nat.zero_le _) ⟨Fr.rfl, hS.to (fun p q _ _ => by simp)⟩ ?_ ?_
    · intro n M1 ⟨hF, hs⟩
      have hL1 := hL.fr hF (by decide)
      unfold w_Mo_findOwes_L76
      refine m_persons hL1.2.1 (br_le (by omega) (by omega) (fun _ => k M1 hF (hs.to (fun p q _ _ => ?_))) (fun q => absurd q (by omega)))
      by_cases c : p < lnp l
      · rw [if_pos c]
      · rw [if_neg c]; unfold adC; rw [if_neg c]; rfl
    · intro n i M1 _ hi ⟨hF, hs⟩ kk
      have hL1 := hL.fr hF (by decide)
      have hA1 := hA.fr hF (by decide)
      unfold w_Mo_findOwes_L76
      refine m_persons hL1.2.1 (br_le (by omega) (by omega) (fun q => absurd q (by omega)) (fun _ => br_le (b := 0) (by omega) (by decide) (fun q => absurd q (by omega)) (fun _ => m_creditor hl hL1 hA1 hb hi hh (fun M2 hF2 => ?_))))
      have hL2 := hL1.fr hF2 (by decide)
      have hA2 := hA1.fr hF2 (by decide)
      have hs2 := hs.fr hF2 (by decide)
      have hFz : Fr SOW M M2 := hF.trans (hF2.mono (by decide))
      rw [nI_1]
      cases hc : cred l at_ b h i with
      | none =>
        refine ⟨fun _ => kk M2 ⟨hFz, hs2.to (fun p q _ _ => ?_)⟩, fun q => absurd (show (-1 : Int32) < 0 by decide) q⟩
        by_cases c : p = i
        · subst c
          rw [if_neg (Nat.lt_irrefl p), if_pos (Nat.lt_succ_self p)]
          unfold adC; rw [hc]; simp
        · by_cases c2 : p < i
          · rw [if_pos c2, if_pos (by omega)]
          · rw [if_neg c2, if_neg (by omega)]
      | some e =>
        obtain ⟨s1, s2, -⟩ := near_some (cred_some hc)
        have ea : 6 * nI i + oI (some e) = nI (i * 6 + e) := by show 6 * nI i + nI e = _; simp only [fa_lit, pk_mul, nI_add, Nat.mul_comm]
        rw [ea, nI_clamp (by omega)]
        have vi : vp_in (nI (i * 6 + e)) 36 := vp_in_nI (by omega) (by decide)
        refine ⟨fun q => absurd q (ni_nneg (by omega)), fun _ => ⟨vi, m_pence hl hL2 hA2 hb hi hh hc ht t0 (fun M3 hF3 => ⟨vi, kk _ ⟨(hFz.trans (hF3.mono (by decide))).put _ _ _ (by decide), fun p q hp hq => ?_⟩⟩)⟩⟩
        rw [si_same]
        by_cases c : p * 6 + q = i * 6 + e
        · have c1 : p = i := by omega
          have c2 : q = e := by omega
          subst c1; subst c2
          rw [up_s, hs2 p q hp hq]
          dsimp only
          rw [if_neg (Nat.lt_irrefl p), nI_add, if_pos (Nat.lt_succ_self p)]
          unfold adC
          rw [if_pos hi, if_pos hc]
        · rw [up_n c, hF3.1 _ (by decide), hs2 p q hp hq]
          dsimp only
          by_cases c1 : p = i
          · subst c1
            rw [if_neg (Nat.lt_irrefl p), if_pos (Nat.lt_succ_self p)]
            unfold adC
            rw [if_pos hi, if_neg (by rw [hc]; intro z; exact c (by rw [Option.some.inj z])), Nat.add_zero]
          · by_cases c2 : p < i
            · rw [if_pos c2, if_pos (by omega)]
            · rw [if_neg c2, if_neg (by omega)]
theorem tms_or {ds : Deeds} {a c b h : Nat} : tms ds (a ||| c) b h = if a.testBit b then 0 else if c.testBit b then 0 else dtimes ds (b * 24 + h) := by
  unfold tms
  rw [Nat.testBit_or]
  cases a.testBit b <;> cases c.testBit b <;> rfl
theorem m_owesH {l : Land} {at_ : Nat → Nat} {ds : Deeds} {b but : Nat} {S : Nat → Nat → Nat} {M : Mem} {K Q : Mem → Prop} (hl : LOK l) (hL : ML l M) (hA : MAt l at_ M) (hD : MD 0 ds M) (h9 : ∀ i, i < 120 → dtimes ds i ≤ 9) (h32 : dshot ds < 32) (hbut : but < 2 ^ 31) (hS : MOw S M) (hb : b < lnb l) (k : ∀ M', Fr SOW M M' → MOw (fun p q => S p q + fb_sm (fun h => adC l at_ b h (tms ds (dshot ds ||| but) b h) p q) 24) M' → K M') : ∃ n, w_Mo_findOwes_L33 (nI but) (nI b) K Q n 0 M := by
  have hnb := hl.2.2.2.1
  refine for_loop (fun n i (M1 : Mem) => w_Mo_findOwes_L33 (nI but) (nI b) K Q n (nI i) M1) (fun i M1 => Fr SOW M M1 ∧ MOw (fun p q => S p q + fb_sm (fun h => adC l at_ b h (tms ds (dshot ds ||| but) b h) p q) i) M1) 24 0 M (Nat.zero_le _) ⟨Fr.rfl, hS⟩ ?_ ?_
  · intro n M1 ⟨hF, hs⟩
    exact br_le (a := 24) (b := 24) (by decide) (by decide) (fun _ => k M1 hF hs) (fun q => absurd q (by omega))
  · intro n i M1 _ hi ⟨hF, hs⟩ kk
    have hL1 := hL.fr hF (by decide)
    have hA1 := hA.fr hF (by decide)
    have hD1 : MD 0 ds M1 := hD.fr (fun i _ => by rw [hF.1 _ (by decide)])
    have ht9 := h9 (b * 24 + i) (by omega)
    have e1 := hD1.1.1 (b * 24 + i) (by omega)
    rw [Nat.mul_zero, Nat.zero_add] at e1
    have e1 : M1.1 c_mo_state (b * 24 + i) = nI (dtimes ds (b * 24 + i)) := e1
    have ea : 24 * nI b + nI i = nI (b * 24 + i) := by simp only [fa_lit, pk_mul, nI_add, Nat.mul_comm]
    have go : ∀ t, t ≤ 9 → tms ds (dshot ds ||| but) b i = t → ∃ n2, w_Mo_findOwes_L76 (nI but) (nI b) (nI i) (nI t) (fun M985 => w_Mo_findOwes_L33 (nI but) (nI b) K Q n (nI (i + 1)) M985) Q n2 0 M1 := fun t ht et => m_owesP hl hL1 hA1 hs hb hi ht (fun M2 hF2 hs2 => kk M2 ⟨hF.trans hF2, hs2.to (fun p q _ _ => by rw [fb_sm_succ, et, Nat.add_assoc])⟩)
    unfold w_Mo_findOwes_L33
    rw [ea, nI_clamp (by omega), nI_1, bit_at hbut (by omega)]
    rw [tms_or] at go
    refine br_le (a := 24) (by decide) (by omega) (fun q => absurd q (by omega)) (fun _ => m_isShot hD1 h32 (by omega) ⟨fun q => ?_, fun q => ⟨fun q2 => ⟨vp_in_nI (by omega) (by decide), fun x ex => ?_⟩, fun q2 => ?_⟩⟩)
    · exact go 0 (by decide) (by rw [q]; rfl)
    · rw [e1] at ex
      subst ex
      refine go _ ht9 ?_
      have : but.testBit b = false := by
        unfold bitI at q2
        cases hbb : but.testBit b with
        | false => rfl
        | true => rw [hbb] at q2; exact absurd rfl q2
      rw [q, this]; rfl
    · refine go 0 (by decide) ?_
      have : but.testBit b = true := by
        unfold bitI at q2
        cases hbb : but.testBit b with
        | true => rfl
        | false => rw [hbb] at q2; exact absurd q2 (by decide)
      rw [q, this]; rfl
theorem m_findOwes {l : Land} {at_ : Nat → Nat} {ds : Deeds} {but : Nat} {M : Mem} {Q : Mem → Prop} (hl : LOK l) (hL : ML l M) (hA : MAt l at_ M) (hD : MD 0 ds M) (h9 : ∀ i, i < 120 → dtimes ds i ≤ 9) (h32 : dshot ds < 32) (hbut : but < 2 ^ 31) (k : ∀ M', Fr SOW M M' → MOw (owF l at_ ds (dshot ds ||| but)) M' → Q M') : w_Mo_findOwes (nI but) M Q := by
  have hnb := hl.2.2.2.1
  unfold w_Mo_findOwes
  refine for_loop (fun n i (M1 : Mem) => w_Mo_findOwes_L2 (nI but) (fun M974 => (∃ n995, w_Mo_findOwes_L23 (nI but) (fun M994 => Q M994) Q n995 0 M974)) Q n (nI i) M1) (fun i M1 => Fr SOW M M1 ∧ ∀ j, j < i → M1.1 c_mo_owes j = 0) 36 0 M (Nat.zero_le _) ⟨Fr.rfl, fun j hj => absurd hj (Nat.not_lt_zero j)⟩ ?_ ?_
  · intro n M1 ⟨hF, hs⟩
    refine br_le (a := 36) (b := 36) (by decide) (by decide) (fun _ => ?_) (fun q => absurd q (by omega))
    refine for_loop (fun n i (M2 : Mem) => w_Mo_findOwes_L23 (nI but) (fun M994 => Q M994) Q n (nI i) M2) (fun i M2 => Fr SOW M M2 ∧ MOw (fun p q => fb_sm (fun b => fb_sm (fun h => adC l at_ b h (tms ds (dshot ds ||| but) b h) p q) 24) i) M2) (lnb l) 0 M1 (Nat.zero_le _) ⟨hF, fun p q hp hq => hs _ (by omega)⟩ ?_ ?_
    · intro m M2 ⟨hF2, hs2⟩
      unfold w_Mo_findOwes_L23
      exact m_birds (hL.fr hF2 (by decide)).2.2.1 (br_le (by omega) (by omega) (fun _ => k M2 hF2 hs2) (fun q => absurd q (by omega)))
    · intro m i M2 _ hi ⟨hF2, hs2⟩ kk
      unfold w_Mo_findOwes_L23
      refine m_birds (hL.fr hF2 (by decide)).2.2.1 (br_le (by omega) (by omega) (fun q => absurd q (by omega)) (fun _ => ?_))
      rw [nI_1]
      exact m_owesH hl (hL.fr hF2 (by decide)) (hA.fr hF2 (by decide)) (hD.fr (fun i _ => by rw [hF2.1 _ (by decide)])) h9 h32 hbut hs2 hi (fun M3 hF3 hs3 => kk M3 ⟨hF2.trans hF3, hs3.to (fun p q _ _ => rfl)⟩)
  · intro n i M1 _ hi ⟨hF, hs⟩ kk
    unfold w_Mo_findOwes_L2
    rw [nI_clamp (by omega), nI_1]
    refine br_le (a := 36) (by decide) (by omega) (fun q => absurd q (by omega)) (fun _ => ⟨vp_in_nI hi (by decide), kk _ ⟨hF.put _ _ _ (by decide), fun j hj => ?_⟩⟩)
    rw [si_same]
    by_cases c : j = i
    · subst c; rw [up_s]
    · rw [up_n c]; exact hs j (by omega)
theorem m_balanceOf {S : Nat → Nat → Nat} {p : Nat} {M : Mem} {Q : Int32 → Mem → Prop} (hS : MOw S M) (hp : p < 6) (k : Q (sI (fun e => nI (S e p) - nI (S p e)) 6) M) : w_Mo_balanceOf (nI p) M Q := by
  unfold w_Mo_balanceOf
  refine for_loop (fun n i (M1 : Mem) => w_Mo_balanceOf_L4 (nI p) (fun y M2 => Q y M2) Q n (sI (fun e => nI (S e p) - nI (S p e)) i) (nI i) M1) (fun i M1 => M1 = M) 6 0 M (Nat.zero_le _) rfl ?_ ?_
  · intro n M1 e
    subst e
    exact br_le (a := 6) (b := 6) (by decide) (by decide) (fun _ => k) (fun q => absurd q (by omega))
  · intro n i M1 _ hi e kk
    subst e
    have kk := kk _ rfl
    rw [sI_succ] at kk
    unfold w_Mo_balanceOf_L4
    have ea : 6 * nI i + nI p = nI (i * 6 + p) := by simp only [fa_lit, pk_mul, nI_add, Nat.mul_comm]
    have eb : 6 * nI p + nI i = nI (p * 6 + i) := by simp only [fa_lit, pk_mul, nI_add, Nat.mul_comm]
    rw [ea, eb, nI_clamp (by omega), nI_clamp (by omega), hS i p hi hp, hS p i hp hi, nI_1]
    refine br_le (a := 6) (by decide) (by omega) (fun q => absurd q (by omega)) (fun _ => ⟨vp_in_nI (by omega) (by decide), vp_in_nI (by omega) (by decide), fun x ex => ?_⟩)
    subst ex
    exact kk
