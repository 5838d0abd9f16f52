/-! the reference's play -/
theorem m_standsIn {a b : Int32} {M : Mem} {Q : Mem → Prop} (k : ∀ M', MF M M' → M'.1 c_mo Mo_standFrom = a → M'.1 c_mo Mo_standTo = b → (∀ p, p < 6 → M'.1 c_mo_standing p = -1) → M'.1 c_mo_rows = M.1 c_mo_rows → Q M') : w_Mo_standsIn a b M Q := by
  unfold w_Mo_standsIn
  refine m_standsAsTold (fun M1 hf1 hF1 s1 s2 s3 => ?_)
  have hf2 : MF M1 (si (si M1 c_mo Mo_standFrom a) c_mo Mo_standTo b) := ⟨(fr_si (by decide)).trans (fr_si (by decide)), by rw [si_same, up_n (by decide), si_same, up_n (by decide)], by rw [si_same, up_n (by decide), si_same, up_n (by decide)], by rw [si_same, up_n (by decide), si_same, up_n (by decide)]⟩
  refine k _ (hf1.trans hf2) ?_ ?_ (fun p hp => ?_) ?_
  · rw [si_same, up_n (by decide), si_same, up_s]
  · rw [si_same, up_s]
  · rw [si_ne _ _ _ (by decide), si_ne _ _ _ (by decide)]; exact s3 p hp
  · rw [si_ne _ _ _ (by decide), si_ne _ _ _ (by decide), hF1.1 _ (by decide)]
theorem m_writes {r : Nat} {M : Mem} {Q : Mem → Prop} (hr : r ≤ 50) (k : ∀ M', Fr [c_mo_rows] M M' → (∀ p, p < 6 → M'.1 c_mo_rows (6 * r + p) = M.1 c_mo_standing p) → (∀ i, i < 6 * r → M'.1 c_mo_rows i = M.1 c_mo_rows i) → Q M') : w_Mo_writes (nI r) M Q := by
  unfold w_Mo_writes
  refine for_loop (fun n i (M1 : Mem) => w_Mo_writes_L2 (nI r) (fun M2 => Q M2) Q n (nI i) M1) (fun i M1 => Fr [c_mo_rows] M M1 ∧ (∀ p, p < i → M1.1 c_mo_rows (6 * r + p) = M.1 c_mo_standing p) ∧ (∀ i, i < 6 * r → M1.1 c_mo_rows i = M.1 c_mo_rows i)) 6 0 M (Nat.zero_le _) ⟨Fr.rfl, fun p hp => absurd hp (Nat.not_lt_zero p), fun _ _ => rfl⟩ ?_ ?_
  · intro n M1 ⟨h1, h2, h3⟩
    exact br_le (a := 6) (b := 6) (by decide) (by decide) (fun _ => k M1 h1 h2 h3) (fun q => absurd q (by omega))
  · intro n i M1 _ hi ⟨h1, h2, h3⟩ kk
    unfold w_Mo_writes_L2
    have ea : 6 * nI r + nI i = nI (6 * r + i) := by simp only [fa_lit, pk_mul, nI_add]
    rw [ea, nI_clamp (by omega), nI_clamp (by omega), nI_1, h1.1 c_mo_standing (by decide)]
    refine br_le (a := 6) (by decide) (by omega) (fun q => absurd q (by omega)) (fun _ => ⟨vp_in_nI hi (by decide), vp_in_nI (by omega) (by decide), kk _ ⟨h1.put _ _ _ (by decide), fun p hp => ?_, fun j hj => ?_⟩⟩)
    · rw [si_same]
      by_cases c : p = i
      · subst c; rw [up_s]
      · rw [up_n (by omega)]; exact h2 p (by omega)
    · rw [si_same, up_n (by omega)]; exact h3 j hj
theorem oI_eq {a b : Option Nat} (ha : ∀ c, a = some c → c < 64) (hb : ∀ c, b = some c → c < 64) : oI a = oI b ↔ a = b := by
  constructor
  · intro h
    cases a with
    | none => cases b with
      | none => rfl
      | some y => exact absurd h (ni_m1' (by have := hb y rfl; omega))
    | some x => cases b with
      | none => exact absurd h (ni_m1 (by have := ha x rfl; omega))
      | some y => rw [ni_inj (by have := ha x rfl; omega) (by have := hb y rfl; omega) h]
  · intro h; rw [h]
/-- rows and standing of the play -/
def MRw (l : Land) (g : Nat → Nat → Option Nat) (n : Nat) (M : Mem) : Prop := ∀ i p, i < n → p < lnp l → M.1 c_mo_rows (6 * i + p) = oI (g i p) ∧ ∀ c, g i p = some c → c < 64
theorem range_all_succ {n : Nat} {q : Nat → Bool} : (List.range (n + 1)).all q = ((List.range n).all q && q n) := by
  rw [List.range_succ, List.all_append]; simp
theorem range_any_succ {n : Nat} {q : Nat → Bool} : (List.range (n + 1)).any q = ((List.range n).any q || q n) := by
  rw [List.range_succ, List.any_append]; simp
theorem m_wasSo {l : Land} {f t r : Nat} {g : Nat → Nat → Option Nat} {st : Nat → Option Nat} {M : Mem} {Q : Bool → Mem → Prop} (hl : LOK l) (hL : ML l M) (hS : MStd l f t st M) (hR : MRw l g r M) (hr : r ≤ 50) (k : Q ((List.range r).any (fun i => sameS l (g i) st)) M) : w_Mo_wasSo (nI r) M Q := by
  have hnp := hl.2.2.1
  unfold w_Mo_wasSo
  refine for_loop (fun n i (M1 : Mem) => w_Mo_wasSo_L4 (nI r) (fun y1090 M1089 => (∃ bb : Bool, y1090 = b2i bb ∧ Q bb M1089)) Q n (b2i ((List.range i).any (fun i => sameS l (g i) st))) (nI i) M1) (fun i M1 => M1 = M) r 0 M (Nat.zero_le _) rfl ?_ ?_
  · intro n M1 e
    subst e
    exact br_le (by omega) (by omega) (fun _ => ⟨_, rfl, k⟩) (fun q => absurd q (by omega))
  · intro n i M1 _ hi e kk
    subst e
    have kk := kk _ rfl
    rw [range_any_succ] at kk
    unfold w_Mo_wasSo_L4
    refine br_le (by omega) (by omega) (fun q => absurd q (by omega)) (fun _ => ?_)
    rw [nI_1]
    generalize (List.range i).any (fun i => sameS l (g i) st) = w0 at kk ⊢
    refine for_loop (fun m j (M2 : Mem) => w_Mo_wasSo_L15 (nI r) (b2i w0) (nI i) (fun y1086 M1085 => ((¬ b2i w0 = 0 → w_Mo_wasSo_L4 (nI r) (fun y1090 M1089 => (∃ bb : Bool, y1090 = b2i bb ∧ Q bb M1089)) Q n 1 (nI (i + 1)) M1085) ∧ (b2i w0 = 0 → ∀ x1087 : Int32, x1087 = (if y1086 = 0 then (0 : Int32) else 1) → w_Mo_wasSo_L4 (nI r) (fun y1090 M1089 => (∃ bb : Bool, y1090 = b2i bb ∧ Q bb M1089)) Q n x1087 (nI (i + 1)) M1085))) Q m (b2i ((List.range j).all (fun p => g i p == st p))) (nI j) M2) (fun j M2 => M2 = M1) (lnp l) 0 M1 (Nat.zero_le _) rfl ?_ ?_
    · intro m M2 e
      subst e
      unfold w_Mo_wasSo_L15
      refine m_persons hL.2.1 (br_le (by omega) (by omega) (fun _ => ⟨fun q => ?_, fun q x ex => ?_⟩) (fun q => absurd q (by omega)))
      · cases w0 with
        | false => exact absurd rfl q
        | true => exact kk
      · cases w0 with
        | true => exact absurd q (by decide)
        | false =>
          rw [Bool.false_or] at kk
          unfold sameS at kk
          revert kk ex
          cases (List.range (lnp l)).all (fun p => g i p == st p) with
          | true => intro ex kk; subst ex; exact kk
          | false => intro ex kk; subst ex; exact kk
    · intro m j M2 _ hj e kk2
      subst e
      have kk2 := kk2 _ rfl
      rw [range_all_succ] at kk2
      unfold w_Mo_wasSo_L15
      have ea : 6 * nI i + nI j = nI (6 * i + j) := by simp only [fa_lit, pk_mul, nI_add]
      obtain ⟨r1, r2⟩ := hR i j hi hj
      obtain ⟨s1, s2⟩ := hS.2.2 j hj
      have hoe := oI_eq r2 s2
      refine m_persons hL.2.1 ?_
      rw [ea, nI_clamp (by omega), nI_clamp (by omega), r1, s1, nI_1]
      refine br_le (by omega) (by omega) (fun q => absurd q (by omega)) (fun _ => ?_)
      revert kk2
      cases (List.range j).all (fun p => g i p == st p) with
      | false => intro kk2; exact ⟨fun _ => kk2, fun q => absurd rfl q⟩
      | true =>
        intro kk2
        rw [Bool.true_and] at kk2
        refine ⟨fun q => absurd q (by decide), fun _ => ⟨vp_in_nI (by omega) (by decide), vp_in_nI (by omega) (by decide), fun x ex => ?_⟩⟩
        by_cases c : g i j = st j
        · rw [if_pos (hoe.mpr c)] at ex
          rw [beq_iff_eq.mpr c] at kk2
          subst ex; exact kk2
        · rw [if_neg (fun z => c (hoe.mp z))] at ex
          have : (g i j == st j) = false := beq_eq_false_iff_ne.mpr c
          rw [this] at kk2
          subst ex; exact kk2
theorem m_round {σ : St} {f t : Nat} {l3 : Int32} {st : Nat → Option Nat} {M : Mem} {K : Int32 → Mem → Prop} {Q : Int32 → Mem → Prop} (hM : MRep σ M) (hl : LOK (sL σ)) (hg : dgood (sL σ) (sD σ)) (hS : MStd (sL σ) f t st M) (hf : f < 24) (ht : t < 24) (k : ∀ M', MF M M' → M'.1 c_mo_rows = M.1 c_mo_rows → MStd (sL σ) f t (rd (sL σ) (sD σ) f t st (lnp (sL σ))).1 M' → K (b2i (rd (sL σ) (sD σ) f t st (lnp (sL σ))).2) M') : ∃ n, w_Mo_findPlayed_L108 l3 K Q n 0 0 M := by
  have hnp := hl.2.2.1
  refine for_loop (fun n i (M1 : Mem) => w_Mo_findPlayed_L108 l3 K Q n (b2i (rd (sL σ) (sD σ) f t st i).2) (nI i) M1) (fun i M1 => MF M M1 ∧ M1.1 c_mo_rows = M.1 c_mo_rows ∧ MStd (sL σ) f t (rd (sL σ) (sD σ) f t st i).1 M1) (lnp (sL σ)) 0 M (Nat.zero_le _) ⟨MF.rfl, rfl, hS⟩ ?_ ?_
  · intro n M1 ⟨hf1, hr1, hS1⟩
    unfold w_Mo_findPlayed_L108
    exact m_persons (hM.scr hf1).1.2.1 (br_le (by omega) (by omega) (fun _ => k M1 hf1 hr1 hS1) (fun q => absurd q (by omega)))
  · intro n i M1 _ hi ⟨hf1, hr1, hS1⟩ kk
    have hM1 := hM.scr hf1
    rw [rd] at kk
    generalize rd (sL σ) (sD σ) f t st i = sr at hS1 kk ⊢
    unfold w_Mo_findPlayed_L108
    refine m_persons hM1.1.2.1 (br_le (by omega) (by omega) (fun q => absurd q (by omega)) (fun _ => m_findOwes (but := 0) hl hM1.1 (hS1.at hl (by omega) (by omega)) hM1.2.1 hg.1.1 hg.1.2.1 (by decide) (fun M2 hF2 hO2 => ?_)))
    rw [Nat.or_zero] at hO2
    have hf2 := MF.of hF2 (by decide) (by decide)
    refine m_balance hl hO2 hi (m_findStand (hM1.scr hf2) hl hg (hS1.fr hF2 (by decide)) hf ht hi (fun M3 hFS hst hM3 hS3 hb3 => ?_))
    obtain ⟨c, v, e1, e2, e3, e4⟩ := tryF_some (g := gP (sL σ) (sD σ) f t sr.1 i) (set := 2 ^ i) hl
    have erd : rdP (sL σ) (sD σ) f t sr.1 i = (c, v, 2 ^ i) := by
      unfold rdP
      rw [show (fun k => gain (sL σ) (putA (2 ^ i) f t k (atS (sL σ) f t sr.1)) (sD σ) (2 ^ i) (dshot (sD σ)) 0 24) = gP (sL σ) (sD σ) f t sr.1 i from rfl, e1]; rfl
    rw [e1] at hb3
    obtain ⟨b1, b2, b3⟩ : M3.1 c_mo Mo_bestCell = nI c ∧ c < 64 ∧ M3.1 c_mo Mo_bestBalance = v := hb3
    unfold rdG at kk
    rw [erd] at kk
    dsimp only at kk
    rw [b1, b3, nI_clamp (by omega), nI_1]
    have hf3 := (hf1.trans hf2).trans hFS.1
    have hr3 : M3.1 c_mo_rows = M.1 c_mo_rows := (hFS.2.2.2.2.trans (hF2.1 _ (by decide))).trans hr1
    refine ⟨fun q => ?_, fun q => ⟨vp_in_nI (by omega) (by decide), ?_⟩⟩
    · rw [decide_eq_false (fun z => (fa_of_lt z).2.1 q), if_neg (by decide)] at kk
      exact kk M3 ⟨hf3, hr3, hS3⟩
    · rw [decide_eq_true (fa_of_nle q), if_pos rfl] at kk
      have hd : FS (sL σ) f t i M3 (si M3 c_mo_standing i (nI c)) := FS.sd
      exact kk _ ⟨hf3.trans hd.1, hd.2.2.2.2.trans hr3, hS3.sd hd (by rw [si_same, up_s]) b2⟩
