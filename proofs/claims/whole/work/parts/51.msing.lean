/-! one row of songs in the reference -/
def SU (pre : List Nat) (M : Mem) : Prop := ∀ j, j < pre.length → M.1 c_mo_sung j = nI (pre.getD j 0) ∧ pre.getD j 0 ≤ 5
theorem psm_eq {pr : Nat → Nat → Nat → Nat} {p : Nat} : ∀ (s : List Nat) (b : Nat), psm pr p b s = fb_sm (fun e => pr (b + e) (s.getD e 0) p) s.length
  | [], _ => rfl
  | t :: s, b => by
    rw [psm, psm_eq s (b + 1), List.length_cons, Nat.add_comm s.length 1, fb_sm_split]
    have e1 : fb_sm (fun e => pr (b + e) ((t :: s).getD e 0) p) 1 = pr b t p := by show 0 + _ = _; rw [Nat.zero_add]; rfl
    rw [e1]
    congr 1
    refine fb_sm_cong (fun k _ => ?_)
    rw [show b + (1 + k) = b + 1 + k by omega, Nat.add_comm 1 k]
    rfl
theorem m_sgSum {σ : St} {h p : Nat} {r : Int32 → Int32 → Mem → (Mem → Prop) → Prop} {l2 l3 : Int32} {pre : List Nat} {M : Mem} {K : Int32 → Mem → Prop} {Q : Mem → Prop} (hM : MRep σ M) (hl : LOK (sL σ)) (hB : MBy (sL σ) (sD σ) h M) (hS : SU pre M) (hlen : pre.length = lnb (sL σ)) (hp : p < lnp (sL σ)) (k : K (nI (psm (prM (sL σ) (sD σ) h) p 0 pre)) M) : ∃ n, w_Mo_sings_L28 r l2 l3 (nI p) K Q n 0 0 M := by
  have hnp := hl.2.2.1
  have hnb := hl.2.2.2.1
  rw [psm_eq, hlen] at k
  refine for_loop (fun n i (M1 : Mem) => w_Mo_sings_L28 r l2 l3 (nI p) K Q n (nI (fb_sm (fun e => prM (sL σ) (sD σ) h (0 + e) (pre.getD e 0) p) i)) (nI i) M1) (fun i M1 => M1 = M) (lnb (sL σ)) 0 M (Nat.zero_le _) rfl ?_ ?_
  · intro n M1 e
    subst e
    unfold w_Mo_sings_L28
    exact m_birds hM.1.2.2.1 (br_le (by omega) (by omega) (fun _ => k) (fun q => absurd q (by omega)))
  · intro n i M1 _ hi e kk
    subst e
    have kk := kk _ rfl
    rw [fb_sm_succ, Nat.zero_add] at kk
    obtain ⟨u1, u2⟩ := hS i (by omega)
    unfold w_Mo_sings_L28
    refine m_birds hM.1.2.2.1 ?_
    rw [nI_clamp (show i < 2 ^ 31 by omega), u1]
    have ea : 36 * nI i + 6 * nI (pre.getD i 0) + nI p = nI (36 * i + 6 * pre.getD i 0 + p) := by simp only [fa_lit, pk_mul, nI_add]
    rw [ea, nI_clamp (by omega), hB i _ p hi u2 hp, nI_1]
    refine br_le (by omega) (by omega) (fun q => absurd q (by omega)) (fun _ => ⟨vp_in_nI (by omega) (by decide), vp_in_nI (by omega) (by decide), fun x ex => ?_⟩)
    rw [nI_add] at ex
    subst ex
    exact kk
theorem prM_le {l : Land} {ds : Deeds} {h b t p : Nat} (ht : t ≤ 9) : prM l ds h b t p ≤ 1782 := by
  unfold prM
  split
  · exact Nat.zero_le _
  · exact pnc_le ht
theorem m_sgAll {σ : St} {h : Nat} {r : Int32 → Int32 → Mem → (Mem → Prop) → Prop} {l2 : Int32} {pre : List Nat} {M : Mem} {K : Int32 → Mem → Prop} {Q : Mem → Prop} (hM : MRep σ M) (hl : LOK (sL σ)) (hg : dgood (sL σ) (sD σ)) (hB : MBy (sL σ) (sD σ) h M) (hS : SU pre M) (hlen : pre.length = lnb (sL σ)) (k : K (b2i (rgt (prM (sL σ) (sD σ) h) (lnp (sL σ)) 0 (dlD (sD σ)) pre)) M) : ∃ n, w_Mo_sings_L13 r l2 K Q n 1 0 M := by
  have hnp := hl.2.2.1
  have hnb := hl.2.2.2.1
  unfold rgt at k
  refine for_loop (fun n i (M1 : Mem) => w_Mo_sings_L13 r l2 K Q n (b2i ((List.range i).all (fun p => match dlD (sD σ) p with
    | none => true
    | some d => decide (psm (prM (sL σ) (sD σ) h) p 0 pre = d)))) (nI i) M1) (fun i M1 => M1 = M) (lnp (sL σ)) 0 M (Nat.zero_le _) rfl ?_ ?_
  · intro n M1 e
    subst e
    unfold w_Mo_sings_L13
    exact m_persons hM.1.2.1 (br_le (by omega) (by omega) (fun _ => k) (fun q => absurd q (by omega)))
  · intro n i M1 _ hi e kk
    subst e
    have kk := kk _ rfl
    rw [range_all_succ] at kk
    have e1 := hM.2.1.2 i (by omega)
    rw [Nat.mul_zero, Nat.zero_add] at e1
    unfold w_Mo_sings_L13
    refine m_persons hM.1.2.1 (br_le (by omega) (by omega) (fun q => absurd q (by omega)) (fun _ => m_sgSum hM hl hB hS hlen hi ?_))
    rw [show (121 : Int32) + nI i = nI (121 + i) by simp only [fa_lit, nI_add], nI_clamp (by omega), e1, nI_1]
    have vi : vp_in (nI (121 + i)) 3200 := vp_in_nI (by omega) (by decide)
    have hps : psm (prM (sL σ) (sD σ) h) i 0 pre ≤ 5 * 1782 := by
      rw [psm_eq]
      refine Nat.le_trans (fb_sm_bound (c := 1782) (fun k hk => prM_le (by have := (hS k hk).2; omega))) (Nat.mul_le_mul_right _ (by omega))
    generalize psm (prM (sL σ) (sD σ) h) i 0 pre = v at kk hps ⊢
    revert kk
    generalize (List.range i).all (fun p => match dlD (sD σ) p with
      | none => true
      | some d => decide (psm (prM (sL σ) (sD σ) h) p 0 pre = d)) = w0
    intro kk
    cases w0 with
    | false => exact ⟨fun _ => kk, fun q => absurd rfl q⟩
    | true =>
      rw [Bool.true_and] at kk
      refine ⟨fun q => absurd q (by decide), fun _ => ⟨vi, fun q => ?_, fun q => ⟨vi, fun x ex => ?_⟩⟩⟩
      · rcases hg.2.1 i (by omega) with c | ⟨d, hd, c⟩
        · have : dlD (sD σ) i = none := if_pos c
          rw [this] at kk; exact kk
        · rw [c] at q; exact absurd q (ni_nneg (by omega))
      · rcases hg.2.1 i (by omega) with c | ⟨d, hd, c⟩
        · rw [c] at q; exact absurd (by decide) q
        · have : dlD (sD σ) i = some d := by
            unfold dlD
            rw [c, if_neg (ni_m1 (by omega)), nI_clamp (by omega)]
          rw [this] at kk
          dsimp only at kk
          rw [c] at ex
          by_cases c2 : v = d
          · rw [decide_eq_true c2] at kk
            rw [if_pos (by rw [c2])] at ex
            subst ex; exact kk
          · rw [decide_eq_false c2] at kk
            rw [if_neg (fun z => c2 (ni_inj (by omega) (by omega) z).symm)] at ex
            subst ex; exact kk
theorem m_sgAsk {σ : St} {r : Int32 → Int32 → Mem → (Mem → Prop) → Prop} {wI : Int32} {ok : Bool} {pre : List Nat} {M : Mem} {K : Mem → Prop} {Q : Mem → Prop} (hM : MRep σ M) (hl : LOK (sL σ)) (hS : SU pre M) (hlen : pre.length = lnb (sL σ)) (k : ∀ M', Fr [c_mo_asked] M M' → (ok = true → M.1 c_mo Mo_rowsMany = wI → ∀ j, j < lnb (sL σ) → M'.1 c_mo_asked j = nI (pre.getD j 0)) → (¬ (ok = true ∧ M.1 c_mo Mo_rowsMany = wI) → M' = M) → K M') : ∃ n, w_Mo_sings_L119 r wI (b2i ok) K Q n 0 M := by
  have hnb := hl.2.2.2.1
  by_cases c : ok = true ∧ M.1 c_mo Mo_rowsMany = wI
  · refine for_loop (fun n i (M1 : Mem) => w_Mo_sings_L119 r wI (b2i ok) K Q n (nI i) M1) (fun i M1 => Fr [c_mo_asked] M M1 ∧ ∀ j, j < i → M1.1 c_mo_asked j = nI (pre.getD j 0)) (lnb (sL σ)) 0 M (Nat.zero_le _) ⟨Fr.rfl, fun j hj => absurd hj (Nat.not_lt_zero j)⟩ ?_ ?_
    · intro n M1 ⟨hF, hs⟩
      have hM1 := hM.scr (MF.of hF (by decide) (by decide))
      unfold w_Mo_sings_L119
      exact m_birds hM1.1.2.2.1 (br_le (by omega) (by omega) (fun _ => k M1 hF (fun _ _ => hs) (fun z => absurd c z)) (fun q => absurd q (by omega)))
    · intro n i M1 _ hi ⟨hF, hs⟩ kk
      have hM1 := hM.scr (MF.of hF (by decide) (by decide))
      unfold w_Mo_sings_L119
      refine m_birds hM1.1.2.2.1 ?_
      rw [nI_clamp (by omega), hF.1 c_mo_sung (by decide), (hS i (by omega)).1, hF.1 c_mo (by decide), c.2, nI_1]
      have vi : vp_in (nI i) 5 := vp_in_nI (by omega) (by decide)
      refine br_le (by omega) (by omega) (fun q => absurd q (by omega)) (fun _ => ⟨fun q => by rw [c.1] at q; exact absurd q (by decide), fun _ => ⟨fun q => absurd rfl q, fun _ => ⟨vi, vi, kk _ ⟨hF.put _ _ _ (by decide), fun j hj => ?_⟩⟩⟩⟩)
      rw [si_same]
      by_cases e : j = i
      · subst e; rw [up_s]
      · rw [up_n e]; exact hs j (by omega)
  · have kz : K M := k M Fr.rfl (fun a b => absurd ⟨a, b⟩ c) (fun _ => rfl)
    refine ⟨1, ?_⟩
    unfold w_Mo_sings_L119
    refine m_birds hM.1.2.2.1 ⟨fun _ => kz, fun _ => ⟨fun _ => kz, fun q => ⟨fun _ => kz, fun q2 => ?_⟩⟩⟩
    refine absurd ⟨?_, q2⟩ c
    cases ok with
    | true => rfl
    | false => exact absurd rfl q
