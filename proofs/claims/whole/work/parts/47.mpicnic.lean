/-! the reference's picnic -/
def p5 (s : Bst) : Int32 := match s with
  | none => -1
  | some (_, _, z) => nI z
def p6 (s : Bst) : Int32 := match s with
  | none => -1
  | some (c, _, _) => nI c
def p7 (s : Bst) : Int32 := match s with
  | none => 0
  | some (_, v, _) => v
def BZ (s : Bst) : Prop := ∀ c v z, s = some (c, v, z) → z < 64
theorem BZ.step {l : Land} {g : Nat → Int32} {set k : Nat} {s : Bst} (hset : set < 64) (h : BZ s) : BZ (tryS l g set s k) := by
  intro c v z e
  unfold tryS at e
  split at e
  · cases s with
    | none => cases e; exact hset
    | some w =>
      obtain ⟨c0, v0, z0⟩ := w
      dsimp only at e
      split at e
      · cases e; exact hset
      · cases e; exact h _ _ _ rfl
  · exact h c v z e
theorem BZ.all {l : Land} {g : Nat → Int32} {set : Nat} {s : Bst} (hset : set < 64) (h : BZ s) : ∀ n, BZ (tryF l g set s n)
  | 0 => h
  | n + 1 => BZ.step hset (BZ.all hset h n)
def stB (set k : Nat) : Nat → Option Nat := fun p => if set.testBit p then some k else none
theorem atS_B {l : Land} {f t set k p h : Nat} (hh : h < 24) : atS l f t (stB set k) (p * 24 + h) = putA set f t k (lplace l) (p * 24 + h) := by
  unfold atS putA stB
  rw [show (p * 24 + h) / 24 = p by omega, show (p * 24 + h) % 24 = h by omega]
  by_cases c : set.testBit p = true
  · rw [if_pos c]
    dsimp only
    by_cases q : f ≤ h ∧ h ≤ t
    · rw [if_pos q, if_pos ⟨c, q⟩]
    · rw [if_neg q, if_neg (fun z => q z.2)]
  · rw [if_neg c, if_neg (fun z => c z.1)]
theorem m_picSt {l : Land} {set c : Nat} {l1 l2 l3 l4 l5 l6 l7 : Int32} {M : Mem} {K : Mem → Prop} {Q : Int32 → Mem → Prop} (hl : LOK l) (hL : ML l M) (hset : set < 2 ^ 31) (k : ∀ M', Fr [c_mo_standing] M M' → (∀ p, p < lnp l → M'.1 c_mo_standing p = oI (stB set c p)) → K M') : ∃ n, w_Mo_picnic_L108 l1 l2 l3 l4 l5 l6 l7 (nI set) (nI c) K Q n 0 M := by
  have hnp := hl.2.2.1
  refine for_loop (fun n i (M1 : Mem) => w_Mo_picnic_L108 l1 l2 l3 l4 l5 l6 l7 (nI set) (nI c) K Q n (nI i) M1) (fun i M1 => Fr [c_mo_standing] M M1 ∧ ∀ p, p < i → M1.1 c_mo_standing p = oI (stB set c p)) (lnp l) 0 M (Nat.zero_le _) ⟨Fr.rfl, fun p hp => absurd hp (Nat.not_lt_zero p)⟩ ?_ ?_
  · intro n M1 ⟨hF, hs⟩
    unfold w_Mo_picnic_L108
    exact m_persons (hL.fr hF (by decide)).2.1 (br_le (by omega) (by omega) (fun _ => k M1 hF hs) (fun q => absurd q (by omega)))
  · intro n i M1 _ hi ⟨hF, hs⟩ kk
    unfold w_Mo_picnic_L108
    refine m_persons (hL.fr hF (by decide)).2.1 ?_
    rw [bit_at hset (by omega), nI_clamp (by omega), nI_1]
    refine br_le (by omega) (by omega) (fun q => absurd q (by omega)) (fun _ => ⟨vp_in_nI (by omega) (by decide), kk _ ⟨hF.put _ _ _ (by decide), fun p hp => ?_⟩⟩)
    rw [si_same]
    by_cases e : p = i
    · subst e
      rw [up_s]
      unfold stB bitI
      cases set.testBit p <;> rfl
    · rw [up_n e]; exact hs p (by omega)
theorem m_picC {σ : St} {many f t set : Nat} {l4 : Int32} {bs : Bst} {M : Mem} {K : Int32 → Int32 → Int32 → Mem → Prop} {Q : Int32 → Mem → Prop} (hM : MRep σ M) (hl : LOK (sL σ)) (hg : dgood (sL σ) (sD σ)) (ht : t < 24) (hf : f ≤ t) (hset : set < 64) (hm : many ≤ 6) (hbs : BZ bs)
    (k : ∀ M', MF M M' → K (p5 (if pcn set = many then tryF (sL σ) (stG (sL σ) (sD σ) set f t) set bs 64 else bs)) (p6 (if pcn set = many then tryF (sL σ) (stG (sL σ) (sD σ) set f t) set bs 64 else bs)) (p7 (if pcn set = many then tryF (sL σ) (stG (sL σ) (sD σ) set f t) set bs 64 else bs)) M') : ∃ n, w_Mo_picnic_L74 (nI many) (nI f) (nI t) l4 (nI set) K Q n (p5 bs) (p6 bs) (p7 bs) 0 M := by
  have hpc := pcn_le set
  by_cases hmm : pcn set = many
  · rw [if_pos hmm] at k
    refine for_loop (fun n i (M1 : Mem) => w_Mo_picnic_L74 (nI many) (nI f) (nI t) l4 (nI set) K Q n (p5 (tryF (sL σ) (stG (sL σ) (sD σ) set f t) set bs i)) (p6 (tryF (sL σ) (stG (sL σ) (sD σ) set f t) set bs i)) (p7 (tryF (sL σ) (stG (sL σ) (sD σ) set f t) set bs i)) (nI i) M1) (fun i M1 => MF M M1) 64 0 M (Nat.zero_le _) MF.rfl ?_ ?_
    · intro n M1 hf1
      exact br_le (a := 64) (b := 64) (by decide) (by decide) (fun _ => k M1 hf1) (fun q => absurd q (by omega))
    · intro n i M1 _ hi hf1 kk
      have hM1 := hM.scr hf1
      have hz := BZ.all (l := sL σ) (g := stG (sL σ) (sD σ) set f t) hset hbs i
      rw [tryF] at kk
      generalize tryF (sL σ) (stG (sL σ) (sD σ) set f t) set bs i = s at kk hz ⊢
      unfold tryS at kk
      unfold w_Mo_picnic_L74
      refine br_le (a := 64) (by decide) (by omega) (fun q => absurd q (by omega)) (fun _ => m_bits hset (br_ne (by omega) (by omega) (fun q => absurd hmm q) (fun _ => m_isCell hl hM1.1 hi ⟨fun q => ?_, fun q => ?_⟩)))
      · rw [q, if_neg (by decide)] at kk
        rw [nI_1]; exact kk M1 hf1
      · rw [q, if_pos rfl] at kk
        refine m_standsIn (fun M2 hf2 s1 s2 s3 _ => ?_)
        have hM2 := hM1.scr hf2
        refine m_picSt hl hM2.1 (by omega) (fun M3 hF3 hs3 => ?_)
        have hf3 := MF.of hF3 (by decide) (by decide)
        have hM3 := hM2.scr hf3
        have hS3 : MStd (sL σ) f t (stB set i) M3 := ⟨by rw [hF3.1 _ (by decide)]; exact s1, by rw [hF3.1 _ (by decide)]; exact s2, fun p hp => ⟨hs3 p hp, fun c hc => by
          unfold stB at hc
          split at hc
          · cases hc; exact hi
          · cases hc⟩⟩
        refine m_findOwes (but := 0) hl hM3.1 (hS3.at hl (by omega) (by omega)) hM3.2.1 hg.1.1 hg.1.2.1 (by decide) (fun M4 hF4 hO4 => ?_)
        rw [Nat.or_zero] at hO4
        have hf4 := MF.of hF4 (by decide) (by decide)
        have hf14 := ((hf1.trans hf2).trans hf3).trans hf4
        refine m_sumOf hl (hM.scr hf14).1 hO4 (by omega) ?_
        have ev : sI (fun p => if set.testBit p then gain (sL σ) (atS (sL σ) f t (stB set i)) (sD σ) (2 ^ p) (dshot (sD σ)) 0 24 else 0) (lnp (sL σ)) = stG (sL σ) (sD σ) set f t i := by
          rw [gain_sum]
          unfold stG
          exact gain_cong (fun q h hq _ hh => atS_B (by omega))
        rw [ev, nI_1]
        have kk := kk M4 hf14
        cases s with
        | none => exact ⟨fun _ => kk, fun q => absurd (show (-1 : Int32) < 0 by decide) q⟩
        | some w =>
          obtain ⟨c, v, z⟩ := w
          have hz := hz c v z rfl
          dsimp only at kk
          refine ⟨fun q => absurd (show nI z < 0 from q) (ni_nneg (by omega)), fun _ => ⟨fun q => ?_, fun q => ?_⟩⟩
          · have q : stG (sL σ) (sD σ) set f t i ≤ v := q
            rw [if_neg (fun z => (fa_of_lt z).2.1 q)] at kk
            exact kk
          · have q : ¬ stG (sL σ) (sD σ) set f t i ≤ v := q
            rw [if_pos (fa_of_nle q)] at kk
            exact kk
  · rw [if_neg hmm] at k
    refine ⟨1, ?_⟩
    have kz := k M MF.rfl
    unfold w_Mo_picnic_L74
    exact br_le (a := 64) (b := 0) (by decide) (by decide) (fun q => absurd q (by omega)) (fun _ => m_bits hset (br_ne (by omega) (by omega) (fun _ => kz) (fun q => absurd q hmm)))
