theorem neg_nI {n : Nat} (h1 : 1 ≤ n) (h2 : n ≤ 50) : ¬ (0 : Int32) ≤ - nI n ∧ (- nI n) ≤ (0 : Int32) ∧ - - nI n = nI n := by
  have : ∀ j : Fin 51, 1 ≤ j.val → ¬ (0 : Int32) ≤ - nI j.val ∧ (- nI j.val) ≤ (0 : Int32) ∧ - - nI j.val = nI j.val := by decide
  exact this ⟨n, by omega⟩ h1
theorem m_played54 {σ : St} {w s0 : Int32} {x : Nat × Bool × Nat} {M : Mem} {Q : Int32 → Mem → Prop} (hx1 : 1 ≤ x.1) (hx2 : x.1 ≤ 50) (hM : MRep σ M) (k : ∀ M', MF M M' → MRep σ M' → Q (if w = 0 then nI x.1 else if w = 1 then b2i x.2.1 else s0) M') : w_Mo_played_j54 w (pR x) s0 M Q := by
  unfold w_Mo_played_j54
  refine m_standsAsTold (fun M1 hf1 _ s1 s2 s3 => ?_)
  have k := k M1 hf1 (hM.scr hf1)
  obtain ⟨r, b, g⟩ := x
  obtain ⟨n1, n2, n3⟩ := neg_nI hx1 hx2
  have p1 : (0 : Int32) ≤ nI r := (nI_leI (a := 0) (by decide) (by show r < 2 ^ 31; have : r ≤ 50 := hx2; omega)).mpr (Nat.zero_le r)
  have p2 : ¬ nI r ≤ (0 : Int32) := fun z => by
    have : r ≤ 50 := hx2
    have := (nI_leI (b := 0) (by omega) (by decide)).mp z
    have : 1 ≤ r := hx1
    omega
  refine ⟨fun e0 => ⟨fun e1 => ?_, fun e1 => ?_⟩, fun e0 => ?_⟩
  · rw [if_neg e0, if_neg e1] at k; exact k
  · rw [if_neg e0, if_pos e1] at k
    unfold pR
    cases b with
    | true => exact ⟨fun q => absurd q p2, fun _ => k⟩
    | false => exact ⟨fun _ => k, fun q => absurd n2 q⟩
  · rw [if_pos e0] at k
    unfold pR
    cases b with
    | true => exact ⟨fun _ => k, fun q => absurd p1 q⟩
    | false =>
      refine ⟨fun q => absurd q n1, fun _ => ?_⟩
      show Q (- - nI r) M1
      have n3 : - - nI r = nI r := n3
      rw [n3]; exact k
theorem m_played {σ : St} {f t w : Int32} {M : Mem} {Q : Int32 → Mem → Prop} (hM : MRep σ M) (hl : LOK (sL σ)) (hg : dgood (sL σ) (sD σ)) (k : ∀ M', Fr2 SMO M M' → MRep σ M' → Q (playR (sL σ) (sD σ) f t w) M') : w_Mo_played f t w M Q := by
  have hnp := hl.2.2.1
  have hM1 := hM.thr (v := 0)
  unfold w_Mo_played
  have hF1 : Fr2 SMO M (si M c_mo Mo_thrown 0) := fr2_si (by decide)
  generalize si M c_mo Mo_thrown 0 = M1 at hM1 hF1 ⊢
  have k0 := k M1 hF1 hM1
  refine m_areHours ⟨fun h1 => ?_, fun h1 => m_persons hM1.1.2.1 ?_⟩
  · rw [playR, h1] at k0; exact k0
  · rw [show (1 : Int32) + nI (lnp (sL σ)) = nI (1 + lnp (sL σ)) by simp only [fa_lit, nI_add]]
    refine m_within ?_
    rw [within_inR (by omega), show 1 + lnp (sL σ) + 1 = 2 + lnp (sL σ) by omega]
    refine ⟨fun hin => ?_, fun hin => ?_⟩
    · obtain ⟨a, b, hab, hb, rfl, rfl⟩ := hrsB_true h1
      obtain ⟨w, hw, rfl⟩ := inR_true (by omega) hin
      clear k0
      unfold playR at k
      rw [h1, hin, if_pos rfl, if_pos rfl] at k
      unfold anI at k
      rw [nI_clamp (by omega), nI_clamp (by omega), nI_clamp (by omega)] at k
      obtain ⟨x1, x2⟩ := plGo_le (l := sL σ) (ds := sD σ) (f := a) (t := b) 50 1 (by decide) (by decide)
      refine m_findPlayed hM1 hl hg hb hab (fun M2 hf2 hS2 => ?_)
      have hM2 := hM1.scr hf2
      refine br_le (a := 2) (by decide) (by omega) (fun q => ?_) (fun q => ?_)
      · rw [show (2 : Int32) = nI 2 from rfl, pk_sub q]
        refine m_placeAt hl hM2.1 (hS2.at hl (by omega) (by omega)) (by omega) (by omega) (m_played54 x1 x2 hM2 (fun M3 hf3 hM3 => ?_))
        exact k M3 (hF1.trans (hf2.trans hf3).two) hM3
      · refine m_played54 x1 x2 hM2 (fun M3 hf3 hM3 => ?_)
        have k := k M3 (hF1.trans (hf2.trans hf3).two) hM3
        have hw2 : w = 0 ∨ w = 1 := by omega
        rcases hw2 with e | e
        · subst e; exact k
        · subst e; exact k
    · rw [playR, h1, if_pos rfl, hin] at k0; exact k0
/-! the reference's picnic: the search -/
theorem m_sumOf {l : Land} {at_ : Nat → Nat} {ds : Deeds} {sil set : Nat} {M : Mem} {Q : Int32 → Mem → Prop} (hl : LOK l) (hL : ML l M) (hO : MOw (owF l at_ ds sil) M) (hset : set < 2 ^ 31) (k : Q (sI (fun p => if set.testBit p then gain l at_ ds (2 ^ p) sil 0 24 else 0) (lnp l)) M) : w_Mo_sumOf (nI set) M Q := by
  have hnp := hl.2.2.1
  unfold w_Mo_sumOf
  refine for_loop (fun n i (M1 : Mem) => w_Mo_sumOf_L4 (nI set) (fun y M2 => Q y M2) Q n (sI (fun p => if set.testBit p then gain l at_ ds (2 ^ p) sil 0 24 else 0) i) (nI i) M1) (fun i M1 => M1 = M) (lnp l) 0 M (Nat.zero_le _) rfl ?_ ?_
  · intro n M1 e
    subst e
    unfold w_Mo_sumOf_L4
    exact m_persons hL.2.1 (br_le (by omega) (by omega) (fun _ => k) (fun q => absurd q (by omega)))
  · intro n i M1 _ hi e kk
    subst e
    have kk := kk _ rfl
    rw [sI_succ] at kk
    unfold w_Mo_sumOf_L4
    refine m_persons hL.2.1 ?_
    rw [bit_at hset (by omega), nI_1]
    refine br_le (by omega) (by omega) (fun q => absurd q (by omega)) (fun _ => ⟨fun q => ?_, fun q => m_balance hl hO hi ?_⟩)
    · have : ¬ set.testBit i = true := fun z => q (by unfold bitI; rw [if_pos z])
      rw [if_neg this] at kk; exact kk
    · have : set.testBit i = true := by
        unfold bitI at q
        cases hb : set.testBit i with
        | true => rfl
        | false => rw [hb] at q; exact absurd q (by decide)
      rw [if_pos this] at kk; exact kk
/-- a set's gain is the sum of its people's -/
theorem shr_sum {set p np : Nat} {c : Option Nat} (hp : p < np) (hc : ∀ e, c = some e → e < np) : sI (fun r => if set.testBit r then shr (2 ^ r) c p else 0) np = shr set c p := by
  cases c with
  | none =>
    show sI (fun r => if set.testBit r then 0 else 0) np = 0
    rw [sI_cong (g := fun _ => 0) (fun r _ => ite_self _), sI_zero]
  | some e =>
    have he := hc e rfl
    have h1 : ∀ x, x < np → sI (fun r => if set.testBit r then bitI (2 ^ r) x else 0) np = bitI set x := by
      intro x hx
      rw [sI_one hx (fun r _ hr => ?_)]
      · rw [bit_pow, if_pos rfl]; rfl
      · rw [bit_pow, if_neg (Ne.symm hr), ite_self]
    show _ = bitI set e - bitI set p
    rw [← h1 e he, ← h1 p hp, ← sI_sub]
    refine sI_cong (fun r _ => ?_)
    show (if set.testBit r then bitI (2 ^ r) e - bitI (2 ^ r) p else 0) = _
    by_cases c : set.testBit r = true
    · rw [if_pos c, if_pos c, if_pos c]
    · rw [if_neg c, if_neg c, if_neg c]; rfl
theorem gain_sum {l : Land} {at_ : Nat → Nat} {ds : Deeds} {sil set f n : Nat} : sI (fun r => if set.testBit r then gain l at_ ds (2 ^ r) sil f n else 0) (lnp l) = gain l at_ ds set sil f n := by
  have h0 : ∀ (g : Nat → Nat → Int32) m (r : Nat), (if set.testBit r then sI (g r) m else 0) = sI (fun k => if set.testBit r then g r k else 0) m := by
    intro g m r
    by_cases c : set.testBit r = true
    · rw [if_pos c]; exact sI_cong (fun k _ => (if_pos c).symm)
    · rw [if_neg c, sI_cong (g := fun _ => 0) (fun k _ => if_neg c), sI_zero]
  unfold gain
  rw [sI_cong (fun r _ => h0 (fun r k => gainH l at_ ds (2 ^ r) sil (f + k)) n r), sI_swap]
  refine sI_cong (fun k _ => ?_)
  unfold gainH
  rw [sI_cong (fun r _ => h0 (fun r b => sI (fun p => shr (2 ^ r) (near l at_ (f + k) p).1 p * nI (pnc l at_ b (f + k) p (tms ds sil b (f + k)))) (lnp l)) (lnb l) r), sI_swap]
  refine sI_cong (fun b _ => ?_)
  rw [sI_cong (fun r _ => h0 (fun r p => shr (2 ^ r) (near l at_ (f + k) p).1 p * nI (pnc l at_ b (f + k) p (tms ds sil b (f + k)))) (lnp l) r), sI_swap]
  refine sI_cong (fun p hp => ?_)
  rw [← shr_sum (set := set) (c := (near l at_ (f + k) p).1) hp (fun e he => (near_some he).1), Int32.mul_comm, ← sI_mul]
  refine sI_cong (fun r _ => ?_)
  by_cases c : set.testBit r = true
  · rw [if_pos c, if_pos c, Int32.mul_comm]
  · rw [if_neg c, if_neg c, Int32.mul_zero]
