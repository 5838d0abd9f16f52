/-! the reference's songs -/
def prM (l : Land) (ds : Deeds) (h b t p : Nat) : Nat := if (dshot ds).testBit b then 0 else prH l h b t p
def MBy (l : Land) (ds : Deeds) (h : Nat) (M : Mem) : Prop := ∀ b t p, b < lnb l → t ≤ 5 → p < lnp l → M.1 c_mo_owesBy (36 * b + 6 * t + p) = nI (prM l ds h b t p)
theorem m_hourP {σ : St} {h b t : Nat} {M : Mem} {K Q : Mem → Prop} (hM : MRep σ M) (hl : LOK (sL σ)) (h32 : dshot (sD σ) < 32) (hA : MAt (sL σ) (lplace (sL σ)) M) (hh : h < 24) (hb : b < lnb (sL σ)) (ht : t ≤ 5) (k : ∀ M', Fr [c_mo_owesBy, c_mo_facts, c_mo_pile] M M' → (∀ p, p < lnp (sL σ) → M'.1 c_mo_owesBy (36 * b + 6 * t + p) = nI (prM (sL σ) (sD σ) h b t p)) → (∀ i, i < 36 * b + 6 * t → M'.1 c_mo_owesBy i = M.1 c_mo_owesBy i) → K M') : ∃ n, w_Mo_findHour_L25 (nI h) (nI b) (nI t) K Q n 0 M := by
  have hnp := hl.2.2.1
  have hnb := hl.2.2.2.1
  refine for_loop (fun n i (M1 : Mem) => w_Mo_findHour_L25 (nI h) (nI b) (nI t) K Q n (nI i) M1) (fun i M1 => Fr [c_mo_owesBy, c_mo_facts, c_mo_pile] M M1 ∧ (∀ p, p < i → M1.1 c_mo_owesBy (36 * b + 6 * t + p) = nI (prM (sL σ) (sD σ) h b t p)) ∧ (∀ i, i < 36 * b + 6 * t → M1.1 c_mo_owesBy i = M.1 c_mo_owesBy i)) (lnp (sL σ)) 0 M (Nat.zero_le _) ⟨Fr.rfl, fun p hp => absurd hp (Nat.not_lt_zero p), fun _ _ => rfl⟩ ?_ ?_
  · intro n M1 ⟨hF, hs, ho⟩
    have hM1 := hM.scr (MF.of hF (by decide) (by decide))
    unfold w_Mo_findHour_L25
    exact m_persons hM1.1.2.1 (br_le (by omega) (by omega) (fun _ => k M1 hF hs ho) (fun q => absurd q (by omega)))
  · intro n i M1 _ hi ⟨hF, hs, ho⟩ kk
    have hM1 := hM.scr (MF.of hF (by decide) (by decide))
    have hA1 := hA.fr hF (by decide)
    have ea : 36 * nI b + 6 * nI t + nI i = nI (36 * b + 6 * t + i) := by simp only [fa_lit, pk_mul, nI_add]
    have vi : vp_in (nI (36 * b + 6 * t + i)) 180 := vp_in_nI (by omega) (by decide)
    have put : ∀ M2, Fr [c_mo_owesBy, c_mo_facts, c_mo_pile] M1 M2 → M2.1 c_mo_owesBy = M1.1 c_mo_owesBy → w_Mo_findHour_L25 (nI h) (nI b) (nI t) K Q n (nI (i + 1)) (si M2 c_mo_owesBy (36 * b + 6 * t + i) (nI (prM (sL σ) (sD σ) h b t i))) := by
      intro M2 hF2 e2
      refine kk _ ⟨(hF.trans hF2).put _ _ _ (by decide), fun p hp => ?_, fun j hj => ?_⟩
      · rw [si_same]
        by_cases c : p = i
        · subst c; rw [up_s]
        · rw [up_n (by omega), e2]; exact hs p (by omega)
      · rw [si_same, up_n (by omega), e2]; exact ho j hj
    have none_ : prM (sL σ) (sD σ) h b t i = 0 → w_Mo_findHour_j57 (fun l4 M => w_Mo_findHour_L25 (nI h) (nI b) (nI t) K Q n l4 M) K (nI h) (nI b) (nI t) (nI i) M1 Q := by
      intro z
      have pz := put M1 Fr.rfl rfl
      rw [z] at pz
      unfold w_Mo_findHour_j57 w_Mo_findHour_j58
      rw [ea, nI_clamp (by omega), nI_1]
      exact ⟨fun q => absurd q (by decide), fun _ => ⟨vi, pz⟩⟩
    unfold w_Mo_findHour_L25
    refine m_persons hM1.1.2.1 (br_le (by omega) (by omega) (fun q => absurd q (by omega)) (fun _ => br_le (b := 0) (by omega) (by decide) (fun q => none_ ?_) (fun q => m_isShot hM1.2.1 h32 (by omega) ⟨fun q2 => none_ ?_, fun q2 => m_creditor hl hM1.1 hA1 hb hi hh (fun M2 hF2 => ?_)⟩)))
    · have : t = 0 := by omega
      subst this
      unfold prM prH pnc
      split
      · rfl
      · rw [if_pos rfl]
    · unfold prM; rw [if_pos q2]
    · have ep : prM (sL σ) (sD σ) h b t i = pnc (sL σ) (lplace (sL σ)) b h i t := by unfold prM; rw [q2]; rfl
      unfold w_Mo_findHour_j58
      rw [ea, nI_clamp (by omega), nI_1]
      cases hc : cred (sL σ) (lplace (sL σ)) b h i with
      | none =>
        refine ⟨fun q => absurd q (show ¬ (0 : Int32) ≤ -1 by decide), fun _ => ⟨vi, ?_⟩⟩
        have pz := put M2 (hF2.mono (by decide)) (hF2.1 _ (by decide))
        have ez : pnc (sL σ) (lplace (sL σ)) b h i t = 0 := by unfold pnc; rw [hc]; simp
        rw [ep, ez] at pz
        exact pz
      | some e =>
        have he := (cred_lt hc).1
        have hM2 := hM1.scr (MF.of hF2 (by decide) (by decide))
        refine ⟨fun _ => m_pence hl hM2.1 (hA1.fr hF2 (by decide)) hb hi hh hc (by omega) (by omega) (fun M3 hF3 => ⟨vi, ?_⟩), fun q => absurd ((nI_leI (a := 0) (by decide) (by omega)).mpr (Nat.zero_le e)) q⟩
        have pz := put M3 ((hF2.mono (by decide)).trans (hF3.mono (by decide))) ((hF3.1 _ (by decide)).trans (hF2.1 _ (by decide)))
        rw [ep] at pz
        exact pz
theorem m_findHour {σ : St} {h : Nat} {M : Mem} {Q : Mem → Prop} (hM : MRep σ M) (hl : LOK (sL σ)) (h32 : dshot (sD σ) < 32) (hh : h < 24) (k : ∀ M', MF M M' → MRep σ M' → MBy (sL σ) (sD σ) h M' → Q M') : w_Mo_findHour (nI h) M Q := by
  have hnb := hl.2.2.2.1
  unfold w_Mo_findHour
  refine m_standsAsTold (fun M1 hf1 _ s1 s2 s3 => ?_)
  have hM1 := hM.scr hf1
  have hA1 := MAt.told (M := M1) hl s1
  refine for_loop (fun n i (M2 : Mem) => w_Mo_findHour_L6 (nI h) (fun M1193 => Q M1193) Q n (nI i) M2) (fun i M2 => Fr [c_mo_owesBy, c_mo_facts, c_mo_pile] M1 M2 ∧ ∀ b t p, b < i → t ≤ 5 → p < lnp (sL σ) → M2.1 c_mo_owesBy (36 * b + 6 * t + p) = nI (prM (sL σ) (sD σ) h b t p)) (lnb (sL σ)) 0 M1 (Nat.zero_le _) ⟨Fr.rfl, fun b t p hb => absurd hb (Nat.not_lt_zero b)⟩ ?_ ?_
  · intro n M2 ⟨hF2, hs2⟩
    have hf2 := MF.of hF2 (by decide) (by decide)
    unfold w_Mo_findHour_L6
    exact m_birds (hM1.scr hf2).1.2.2.1 (br_le (by omega) (by omega) (fun _ => k M2 (hf1.trans hf2) (hM1.scr hf2) hs2) (fun q => absurd q (by omega)))
  · intro n i M2 _ hi ⟨hF2, hs2⟩ kk
    have hf2 := MF.of hF2 (by decide) (by decide)
    have hnp := hl.2.2.1
    unfold w_Mo_findHour_L6
    refine m_birds (hM1.scr hf2).1.2.2.1 (br_le (by omega) (by omega) (fun q => absurd q (by omega)) (fun _ => ?_))
    rw [nI_1]
    refine for_loop (fun m j (M3 : Mem) => w_Mo_findHour_L16 (nI h) (nI i) (fun M1191 => w_Mo_findHour_L6 (nI h) (fun M1193 => Q M1193) Q n (nI (i + 1)) M1191) Q m (nI j) M3) (fun j M3 => Fr [c_mo_owesBy, c_mo_facts, c_mo_pile] M1 M3 ∧ ∀ b t p, (b < i ∨ b = i ∧ t < j) → t ≤ 5 → p < lnp (sL σ) → M3.1 c_mo_owesBy (36 * b + 6 * t + p) = nI (prM (sL σ) (sD σ) h b t p)) 6 0 M2 (Nat.zero_le _) ⟨hF2, fun b t p hb => hs2 b t p (by omega)⟩ ?_ ?_
    · intro m M3 ⟨hF3, hs3⟩
      exact br_le (a := 6) (b := 6) (by decide) (by decide) (fun _ => kk M3 ⟨hF3, fun b t p hb ht => hs3 b t p (by omega) ht⟩) (fun q => absurd q (by omega))
    · intro m j M3 _ hj ⟨hF3, hs3⟩ kk2
      have hf3 := MF.of hF3 (by decide) (by decide)
      unfold w_Mo_findHour_L16
      refine br_le (a := 6) (by decide) (by omega) (fun q => absurd q (by omega)) (fun _ => ?_)
      rw [nI_1]
      refine m_hourP (hM1.scr hf3) hl h32 (hA1.fr hF3 (by decide)) hh hi (by omega) (fun M4 hF4 hn ho => kk2 M4 ⟨hF3.trans hF4, fun b t p hb ht hp => ?_⟩)
      by_cases c : b = i ∧ t = j
      · obtain ⟨rfl, rfl⟩ := c
        exact hn p hp
      · rw [ho _ (by omega)]; exact hs3 b t p (by omega) ht hp
/-! all rows, and those that are right -/
def enu (mx : Nat → Nat) : Nat → Nat → List (List Nat)
  | 0, _ => [[]]
  | n + 1, b => (List.range (mx b + 1)).flatMap (fun t => (enu mx n (b + 1)).map (fun s => t :: s))
def psm (pr : Nat → Nat → Nat → Nat) (p : Nat) : Nat → List Nat → Nat
  | _, [] => 0
  | b, t :: s => pr b t p + psm pr p (b + 1) s
def rgt (pr : Nat → Nat → Nat → Nat) (np b : Nat) (dl : Nat → Option Nat) (s : List Nat) : Bool := (List.range np).all (fun p => match dl p with
  | none => true
  | some d => decide (psm pr p b s = d))
theorem rgt_iff {pr : Nat → Nat → Nat → Nat} {np b : Nat} {dl : Nat → Option Nat} {s : List Nat} : rgt pr np b dl s = true ↔ ∀ p d, p < np → dl p = some d → psm pr p b s = d := by
  unfold rgt
  rw [List.all_eq_true]
  constructor
  · intro h p d hp hd
    have := h p (List.mem_range.mpr hp)
    rw [hd] at this
    simpa using this
  · intro h p hp
    cases hd : dl p with
    | none => rfl
    | some d => simpa using h p d (List.mem_range.mp hp) hd
theorem rgt_cons {pr : Nat → Nat → Nat → Nat} {np b t : Nat} {dl : Nat → Option Nat} {s : List Nat} (hf : fitB np dl (pr b t) = true) : rgt pr np b dl (t :: s) = rgt pr np (b + 1) (dls dl (pr b t)) s := by
  rw [fitB_iff] at hf
  rw [Bool.eq_iff_iff, rgt_iff, rgt_iff]
  constructor
  · intro h p d hp hd
    unfold dls at hd
    cases hd0 : dl p with
    | none => rw [hd0] at hd; cases hd
    | some d0 =>
      rw [hd0] at hd
      cases hd
      have h1 : pr b t p + psm pr p (b + 1) s = d0 := h p d0 hp hd0
      show psm pr p (b + 1) s = d0 - pr b t p
      omega
  · intro h p d hp hd
    have h1 := h p (d - pr b t p) hp (by unfold dls; rw [hd]; rfl)
    have h2 := hf p d hp hd
    show pr b t p + psm pr p (b + 1) s = d
    omega
theorem rgt_no {pr : Nat → Nat → Nat → Nat} {np b t : Nat} {dl : Nat → Option Nat} {s : List Nat} (hf : ¬ fitB np dl (pr b t) = true) : rgt pr np b dl (t :: s) = false := by
  rw [Bool.eq_false_iff]
  intro h
  rw [rgt_iff] at h
  apply hf
  rw [fitB_iff]
  intro p d hp hd
  have h1 : pr b t p + psm pr p (b + 1) s = d := h p d hp hd
  omega
theorem vrw_filter {pr : Nat → Nat → Nat → Nat} {mx : Nat → Nat} {np : Nat} : ∀ n b dl, vrw pr mx np n b dl = (enu mx n b).filter (rgt pr np b dl)
  | 0, b, dl => by
    have e : rgt pr np b dl [] = zerB np dl := by
      rw [Bool.eq_iff_iff, rgt_iff, zerB_iff]
      exact ⟨fun h p d hp hd => (h p d hp hd).symm, fun h p d hp hd => (h p d hp hd).symm⟩
    rw [vrw, enu, List.filter_cons, e]
    rfl
  | n + 1, b, dl => by
    rw [vrw, enu, List.filter_flatMap]
    congr 1
    funext t
    rw [List.filter_map]
    by_cases hf : fitB np dl (pr b t) = true
    · rw [if_pos hf, vrw_filter n (b + 1)]
      congr 1
      exact List.filter_congr (fun s _ => (rgt_cons hf).symm)
    · rw [if_neg hf]
      symm
      rw [List.map_eq_nil_iff, List.filter_eq_nil_iff]
      intro s _
      show ¬ rgt pr np b dl (t :: s) = true
      rw [rgt_no hf]; decide
