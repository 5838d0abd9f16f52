/-! hills: both sides -/
theorem m_hL125F {f : Nat} {K : Mem → Prop} {Q : Int32 → Mem → Prop} {M : Mem} (fk : fok f) (hf : M.1 c_mo Mo_fault = nI f) (k : K M) (n : Nat) : w_Mo_hills_L125 K Q (n + 1) M := ⟨fun _ => k, fun z => absurd z (nfz fk hf)⟩
def MEnd (t : List Nat) (N : Nat) (R : Nat ⊕ Dr) (M : Mem) (Q : Mem → Prop) : Prop := match R with
  | .inl f => fok f → ∀ M', MPF M M' → M'.1 c_mo Mo_fault = nI f → Q M'
  | .inr d => ∀ M' n, MPF M M' → MA t N n M' → MDr d n M' → Q M'
theorem m_lines {t : List Nat} {N : Nat} {M0 : Mem} {K : Mem → Prop} {Q : Int32 → Mem → Prop} : ∀ (k n : Nat) (d : Dr) (M : Mem), 1000 < k + n → MPF M0 M → MA t N n M → MDr d n M → GDr d → MEnd t N (aLines t k n d) M0 K → w_Mo_hills_L125 K Q (k + 1) M
  | 0, n, d, M, hk, _, hA, _, _, _ => absurd hA.n (by omega)
  | k + 1, n, d, M, hk, hP, hA, hD, hg, kk => by
    have hn := hA.n
    rw [aLines] at kk
    unfold w_Mo_hills_L125
    rw [hA.ft, hA.at, nI_clamp (by omega)]
    have so0 : M.1 c_mo_sort n = 0 ↔ kS t n = 0 := hA.so (s := 0) (by decide)
    refine ⟨fun z => absurd rfl z, fun _ => ⟨hA.v, fun z => ?_, fun z => ?_⟩⟩
    · rw [if_pos (so0.mp z)] at kk
      exact kk M n hP hA hD
    · have z : kS t n ≠ 0 := fun y => z (so0.mpr y)
      rw [if_neg z] at kk
      refine m_readLine hA z hg hD ?_
      cases e : aLine t n d with
      | inl f =>
        rw [e] at kk
        exact fun fk M1 a h => m_hL125F fk h (kk fk M1 (hP.trans a) h) k
      | inr x =>
        rw [e] at kk
        obtain ⟨g1, g2⟩ := hg.line e
        exact fun M1 a h1 h2 => m_lines k x.1 x.2 M1 (by omega) (hP.trans a) h1 h2 g1 kk
theorem m_stands180 {M : Mem} {Q : Mem → Prop} (k : ∀ M', Fr [c_mo_lands] M M' → (∀ i, i < 180 → M'.1 c_mo_lands i = M.1 c_mo_lands i) → (∀ i, 180 ≤ i → i < 360 → M'.1 c_mo_lands i = if i = 184 then 14 else if i = 185 ∨ i = 186 then -1 else 0) → Q M') : w_Mo_standsAsAlways 180 M Q := by
  unfold w_Mo_standsAsAlways
  refine for_loop (fun n i (M1 : Mem) => w_Mo_standsAsAlways_L2 180 (fun M644 => (vp_in (180 + 4) 360 ∧ (vp_in (180 + 5) 360 ∧ (vp_in ((180 + 5) + 1) 360 ∧ Q (si (si (si M644 c_mo_lands (Int32.toNatClampNeg (180 + 4)) 14) c_mo_lands (Int32.toNatClampNeg (180 + 5)) (-1)) c_mo_lands (Int32.toNatClampNeg ((180 + 5) + 1)) (-1)))))) Q n (nI i) M1) (fun i M1 => Fr [c_mo_lands] M M1 ∧ (∀ j, j < 180 → M1.1 c_mo_lands j = M.1 c_mo_lands j) ∧ ∀ j, j < i → M1.1 c_mo_lands (180 + j) = 0) 180 0 M (Nat.zero_le _) ⟨Fr.rfl, fun _ _ => rfl, fun j hj => absurd hj (Nat.not_lt_zero j)⟩ ?_ ?_
  · intro n M1 ⟨h1, h2, h3⟩
    refine br_le (a := 180) (b := 180) (by decide) (by decide) (fun _ => ?_) (fun q => absurd q (by omega))
    refine ⟨vp_in_nI (n := 184) (by decide) (by decide), vp_in_nI (n := 185) (by decide) (by decide), vp_in_nI (n := 186) (by decide) (by decide), ?_⟩
    rw [show Int32.toNatClampNeg (180 + 4) = 184 from rfl, show Int32.toNatClampNeg (180 + 5) = 185 from rfl, show Int32.toNatClampNeg (180 + 5 + 1) = 186 from rfl]
    refine k _ (((h1.put _ _ _ (by decide)).put _ _ _ (by decide)).put _ _ _ (by decide)) (fun i hi => ?_) (fun i hi hi2 => ?_)
    · rw [si_of (by omega), si_of (by omega), si_of (by omega)]; exact h2 i hi
    · by_cases c6 : i = 186
      · subst c6; rw [si_at]; rfl
      rw [si_of c6]
      by_cases c5 : i = 185
      · subst c5; rw [si_at]; rfl
      rw [si_of c5]
      by_cases c4 : i = 184
      · subst c4; rw [si_at]; rfl
      rw [si_of c4, if_neg c4, if_neg (by omega)]
      have := h3 (i - 180) (by omega)
      rw [show 180 + (i - 180) = i by omega] at this
      exact this
  · intro n i M1 _ hi ⟨h1, h2, h3⟩ kk
    have ei : 180 + nI i = nI (180 + i) := by simp only [fa_lit, nI_add]
    refine br_le (a := 180) (by decide) (by omega) (fun q => absurd q (by omega)) (fun _ => ?_)
    rw [ei, nI_clamp (by omega), nI_1]
    refine ⟨vp_in_nI (by omega) (by decide), kk _ ⟨h1.put _ _ _ (by decide), fun j hj => ?_, fun j hj => ?_⟩⟩
    · rw [si_of (by omega)]; exact h2 j hj
    · by_cases e : j = i
      · subst e; rw [si_at]
      · rw [si_of (by omega)]; exact h3 j (by omega)
theorem m_L43 {K : Mem → Prop} {Q : Int32 → Mem → Prop} {M : Mem} (k : ∀ M', Fr [c_mo_readCalls] M M' → (∀ i, i < 120 → M'.1 c_mo_readCalls i = 0) → K M') : ∃ n, w_Mo_hills_L43 K Q n 0 M := by
  refine for_loop (fun n i (M1 : Mem) => w_Mo_hills_L43 K Q n (nI i) M1) (fun i M1 => Fr [c_mo_readCalls] M M1 ∧ ∀ j, j < i → M1.1 c_mo_readCalls j = 0) 120 0 M (Nat.zero_le _) ⟨Fr.rfl, fun j hj => absurd hj (Nat.not_lt_zero j)⟩ ?_ ?_
  · intro n M1 ⟨h1, h2⟩
    exact br_le (a := 120) (b := 120) (by decide) (by decide) (fun _ => k M1 h1 h2) (fun q => absurd q (by omega))
  · intro n i M1 _ hi ⟨h1, h2⟩ kk
    refine br_le (a := 120) (by decide) (by omega) (fun q => absurd q (by omega)) (fun _ => ⟨vp_in_nI hi (by decide), ?_⟩)
    rw [nI_1, nI_clamp (by omega)]
    refine kk _ ⟨h1.put _ _ _ (by decide), fun j hj => ?_⟩
    by_cases e : j = i
    · subst e; rw [si_at]
    · rw [si_of e]; exact h2 j (by omega)
theorem m_L64 {K : Mem → Prop} {Q : Int32 → Mem → Prop} {M : Mem} (k : ∀ M', Fr [c_mo_goes] M M' → (∀ i, i < 144 → M'.1 c_mo_goes i = -1) → K M') : ∃ n, w_Mo_hills_L64 K Q n 0 M := by
  refine for_loop (fun n i (M1 : Mem) => w_Mo_hills_L64 K Q n (nI i) M1) (fun i M1 => Fr [c_mo_goes] M M1 ∧ ∀ j, j < i → M1.1 c_mo_goes j = -1) 144 0 M (Nat.zero_le _) ⟨Fr.rfl, fun j hj => absurd hj (Nat.not_lt_zero j)⟩ ?_ ?_
  · intro n M1 ⟨h1, h2⟩
    exact br_le (a := 144) (b := 144) (by decide) (by decide) (fun _ => k M1 h1 h2) (fun q => absurd q (by omega))
  · intro n i M1 _ hi ⟨h1, h2⟩ kk
    refine br_le (a := 144) (by decide) (by omega) (fun q => absurd q (by omega)) (fun _ => ⟨vp_in_nI hi (by decide), ?_⟩)
    rw [nI_1, nI_clamp (by omega)]
    refine kk _ ⟨h1.put _ _ _ (by decide), fun j hj => ?_⟩
    by_cases e : j = i
    · subst e; rw [si_at]
    · rw [si_of e]; exact h2 j (by omega)
theorem MLaw.pf {fog : Bool} {df : Int32} {i : Nat} {c : List Int32} {M M' : Mem} (h : MLaw fog df i c M) (e0 : M'.1 c_mo_lands i = M.1 c_mo_lands i) (e1 : ∀ j, j < 1100 → M'.1 c_mo_op j = M.1 c_mo_op j ∧ M'.1 c_mo_arg j = M.1 c_mo_arg j) : MLaw fog df i c M' := by
  rcases h with ⟨a, b⟩ | ⟨f, a, b, c1, c2, c3⟩
  · exact Or.inl ⟨by rw [e0]; exact a, b⟩
  · refine Or.inr ⟨f, by rw [e0]; exact a, b, fun j hj => ?_, ?_, c3⟩
    · rw [(e1 (f + j) (by omega)).1, (e1 (f + j) (by omega)).2]; exact c1 j hj
    · rw [(e1 _ b).1]; exact c2
theorem ML.pf {l : Land} {M M' : Mem} (h : ML l M) (hl : LOK l) (e0 : ∀ i, i < 180 → M'.1 c_mo_lands i = M.1 c_mo_lands i) (e1 : ∀ j, j < 1100 → M'.1 c_mo_op j = M.1 c_mo_op j ∧ M'.1 c_mo_arg j = M.1 c_mo_arg j) : ML l M' := by
  have hnp := hl.2.2.1
  have hnb := hl.2.2.2.1
  obtain ⟨⟨h1, h2⟩, h3, h4, h5, h6, h7, h8, h9, h10, h11⟩ := h
  refine ⟨⟨?_, ?_⟩, ?_, ?_, ?_, fun p hp => ?_, fun p hp => ?_, fun p z hp hz => ?_, fun b hb => ?_, h10.pf (e0 _ (by decide)) e1, h11.pf (e0 _ (by decide)) e1⟩
  · rw [e0 _ (by decide)]; exact h1
  · rw [e0 _ (by decide)]; exact h2
  · rw [e0 _ (by decide)]; exact h3
  · rw [e0 _ (by decide)]; exact h4
  · rw [e0 _ (by decide)]; exact h5
  · rw [e0 _ (by omega)]; exact h6 p hp
  · rw [e0 _ (by omega)]; exact h7 p hp
  · rw [e0 _ (by omega)]; exact h8 p z hp hz
  · rw [e0 _ (by omega)]; exact h9 b hb
theorem m_hills {σ : St} {M : Mem} {Q : Int32 → Mem → Prop} (hM : MRep σ M) (hl : LOK (sL σ)) (hok : ∀ i, i < (sT σ).length → (sT σ).getD i 0 < 127) (k : ∀ M', Fr2 SMO M M' → MRep (hillN σ) M' → Q (hillR (sT σ)) M') : w_Mo_hills M Q := by
  obtain ⟨m1, m2, m3, m4, m5, m6⟩ := hM
  unfold w_Mo_hills
  have h5 : MTp (sT σ) (si M c_mo Mo_thrown 0) := by unfold MTp; rw [si_of (by decide)]; exact m5
  refine m_cutAll h5 hok (fun N M1 f1 e1 t1 a1 z1 hT1 => ?_)
  have hlen := m5.2.1
  -- five counters
  have fa : Fr2 [c_mo] M1 (si (si (si (si (si M1 c_mo Mo_codes 0) c_mo Mo_namesMany 0) c_mo Mo_goesMany 0) c_mo Mo_callsMany 0) c_mo Mo_hasHear 0) := ((((fr2_si (by decide)).trans (fr2_si (by decide))).trans (fr2_si (by decide))).trans (fr2_si (by decide))).trans (fr2_si (by decide))
  have fb : ∀ j, j ∈ [Mo_codes, Mo_namesMany, Mo_goesMany, Mo_callsMany, Mo_hasHear] → (si (si (si (si (si M1 c_mo Mo_codes 0) c_mo Mo_namesMany 0) c_mo Mo_goesMany 0) c_mo Mo_callsMany 0) c_mo Mo_hasHear 0).1 c_mo j = 0 := by
    intro j hj
    simp only [List.mem_cons, List.not_mem_nil, or_false] at hj
    rcases hj with y | y | y | y | y
    · subst y; rw [si_of (by decide), si_of (by decide), si_of (by decide), si_of (by decide), si_at]
    · subst y; rw [si_of (by decide), si_of (by decide), si_of (by decide), si_at]
    · subst y; rw [si_of (by decide), si_of (by decide), si_at]
    · subst y; rw [si_of (by decide), si_at]
    · subst y; rw [si_at]
  have fc : ∀ j, j ∉ [Mo_codes, Mo_namesMany, Mo_goesMany, Mo_callsMany, Mo_hasHear] → (si (si (si (si (si M1 c_mo Mo_codes 0) c_mo Mo_namesMany 0) c_mo Mo_goesMany 0) c_mo Mo_callsMany 0) c_mo Mo_hasHear 0).1 c_mo j = M1.1 c_mo j := by
    intro j hj
    simp only [List.mem_cons, List.not_mem_nil, or_false, not_or] at hj
    rw [si_of hj.2.2.2.2, si_of hj.2.2.2.1, si_of hj.2.2.1, si_of hj.2.1, si_of hj.1]
  generalize si (si (si (si (si M1 c_mo Mo_codes 0) c_mo Mo_namesMany 0) c_mo Mo_goesMany 0) c_mo Mo_callsMany 0) c_mo Mo_hasHear 0 = M2 at fa fb fc
  refine m_stands180 (fun M3 f3 l3 z3 => m_L43 (fun M4 f4 r4 => m_L64 (fun M5 f5 g5 => ?_)))
  have F35 : Fr [c_mo_lands, c_mo_readCalls, c_mo_goes] M2 M5 := ((f3.mono (by decide)).trans (f4.mono (by decide))).trans (f5.mono (by decide))
  have ec : M5.1 c_mo = M2.1 c_mo := F35.1 _ (by decide)
  have eL : M5.1 c_mo_lands = M3.1 c_mo_lands := by rw [f5.1 _ (by decide), f4.1 _ (by decide)]
  have hA : MA (sT σ) N 0 M5 := by
    refine ⟨⟨hT1.1, hT1.2.1, fun n hn => ?_⟩, ?_, ⟨hlen, hok⟩, ?_, Nat.zero_le _, ?_⟩
    · unfold MTa
      rw [F35.1 c_mo_sort (by decide), F35.1 c_mo_place (by decide), F35.2, (fa c_mo_sort (by decide)).1, (fa c_mo_place (by decide)).1, (fa c_mo_value (by decide)).2]
      exact hT1.2.2 n hn
    · unfold MK
      rw [F35.1 c_mo_factWords (by decide), F35.2, (fa c_mo_factWords (by decide)).1, (fa c_mo_words (by decide)).2, (f1 c_mo_factWords (by decide)).1, (f1 c_mo_words (by decide)).2]
      exact m6
    · rw [ec, fc _ (by decide)]; exact a1
    · rw [ec, fc _ (by decide)]; exact z1
  have hD : MD0 (dr0 0 0) 0 M5 := by
    refine ⟨⟨?_, ?_, ?_, ?_, ?_⟩, ⟨?_, ?_, ?_⟩, fun p hp => absurd hp (Nat.not_lt_zero p), fun b hb => absurd hb (Nat.not_lt_zero b), fun i hi => g5 i hi, fun i hi => ?_, 0, ?_, Nat.le_refl _, ?_, ?_⟩
    · rw [eL, z3 _ (by decide) (by decide)]; rfl
    · rw [eL, z3 _ (by decide) (by decide)]; rfl
    · rw [eL, z3 _ (by decide) (by decide)]; rfl
    · rw [eL, z3 _ (by decide) (by decide)]; rfl
    · rw [eL, z3 _ (by decide) (by decide)]; rfl
    · rw [ec, fb _ (by decide)]; rfl
    · rw [ec, fb _ (by decide)]; rfl
    · rw [ec, fb _ (by decide)]; rfl
    · rw [f5.1 c_mo_readCalls (by decide)]; exact r4 i hi
    · rw [ec, fb _ (by decide)]; rfl
    · show M5.1 c_mo_lands 185 = -1
      rw [eL, z3 _ (by decide) (by decide)]; rfl
    · show M5.1 c_mo_lands 186 = -1
      rw [eL, z3 _ (by decide) (by decide)]; rfl
  have hN : ∀ w h, MN (dr0 w h) M5 := fun w h => by
    refine ⟨by rw [ec, fb _ (by decide)]; rfl, fun _ => 0, fun k hk => absurd hk (Nat.not_lt_zero k), fun i hi => ?_⟩
    rcases hi with y | y
    · exact absurd y (Nat.not_lt_zero _)
    · have y2 : i < 6 + 0 := y.2
      omega
  have FM : Fr2 (c_mo :: c_mo_lands :: c_mo_readCalls :: c_mo_goes :: CUT) M M5 := (((fr2_si (by decide)).trans (f1.mono (by decide))).trans (fa.mono (by decide))).trans (F35.two.mono (by decide))
  have lM : ∀ i, i < 180 → M5.1 c_mo_lands i = M.1 c_mo_lands i := fun i hi => by
    rw [eL, l3 i hi, (fa c_mo_lands (by decide)).1, (f1 c_mo_lands (by decide)).1]; rfl
  have uM : M5.1 c_mo Mo_undos = M.1 c_mo Mo_undos := by
    rw [ec, fc _ (by decide), e1 _ (by decide) (by decide) (by decide) (by decide), si_of (by decide)]
  have tM : M5.1 c_mo Mo_taped = 0 := by rw [ec, fc _ (by decide)]; exact t1
  -- what is asked of a fault
  have bad : ∀ f M', fok f → MPF M5 M' → M'.1 c_mo Mo_fault = nI f → aAll (sT σ) = .inl f → w_Mo_hills_j157 M' Q := by
    intro f M' fk hP hf e
    unfold w_Mo_hills_j157
    refine ⟨fun z => absurd z (nfp fk hf), fun _ => ?_⟩
    unfold hillN hillR at k
    rw [e] at k
    rw [hf]
    have fr : ∀ q, q ∉ MPc → q ∉ (c_mo :: c_mo_lands :: c_mo_readCalls :: c_mo_goes :: CUT) → M'.1 q = M.1 q ∧ M'.2 q = M.2 q := fun q h1 h2 => ⟨(hP.1 q h1).1.trans (FM q h2).1, (hP.1 q h1).2.trans (FM q h2).2⟩
    have es := (fr c_mo_state (by decide) (by decide)).1
    refine k M' ((FM.mono (by decide)).trans (hP.1.mono (by decide))) ⟨m1.pf hl (fun i hi => by rw [hP.2.1 i hi, lM i hi]) (fun j hj => ?_), m2.fr (fun i _ => by rw [es]), m3.mv es (fr c_mo_isMarked (by decide) (by decide)).1, ⟨?_, m4.2.fr (fun j i _ _ => by rw [es])⟩, ⟨?_, Nat.zero_le _, fun i hi => absurd hi (Nat.not_lt_zero i)⟩, ?_⟩
    · rw [(hP.2.2.1 j hj).1, (hP.2.2.1 j hj).2, (FM c_mo_op (by decide)).1, (FM c_mo_arg (by decide)).1]; exact ⟨rfl, rfl⟩
    · rw [hP.2.2.2.1, uM]; exact m4.1
    · rw [hP.2.2.2.2]; exact tM
    · unfold MK; rw [(fr c_mo_words (by decide) (by decide)).2, (fr c_mo_factWords (by decide) (by decide)).1]; exact m6
  have L1 : ∀ f M', fok f → MPF M5 M' → M'.1 c_mo Mo_fault = nI f → aAll (sT σ) = .inl f → w_Mo_takeSign 59 M' (fun M693 => (∃ n872, w_Mo_hills_L125 (fun M857 => w_Mo_hills_j157 M857 Q) Q n872 M693)) := fun f M' fk hP hf e => m_takeSignF (nfz fk hf) ⟨1, m_hL125F fk hf (bad f M' fk hP hf e) 0⟩
  have v180 := vp_in_nI (n := 180) (N := 360) (by decide) (by decide)
  have v181 := vp_in_nI (n := 181) (N := 360) (by decide) (by decide)
  have L2 : ∀ f M', fok f → MPF M5 M' → M'.1 c_mo Mo_fault = nI f → aAll (sT σ) = .inl f → w_Mo_takeNumber 2 8 M' (fun r689 M688 => (vp_in 181 360 ∧ w_Mo_takeSign 59 (si M688 c_mo_lands (Int32.toNatClampNeg 181) r689) (fun M693 => (∃ n872, w_Mo_hills_L125 (fun M857 => w_Mo_hills_j157 M857 Q) Q n872 M693)))) := fun f M' fk hP hf e => m_takeNumberF fk hf ⟨v181, L1 f _ fk (hP.ld (by decide)) hf e⟩
  refine m_takeWord (q := 0) hA (by decide) (fun f e fk M6 a6 h6 => m_takeNumberF fk h6 ⟨v180, L2 f _ fk ((MPF.rfl.fa a6).ld (by decide)) h6 ?_⟩) (fun e M6 a6 h6 => ?_)
  · unfold aAll; rw [e]; rfl
  refine m_takeNumber (lo := 2) (hi := 8) h6 (by decide) (by decide) (fun f e2 fk M7 a7 h7 => ⟨v180, L2 f _ fk (((MPF.rfl.fa a6).fa a7).ld (by decide)) h7 ?_⟩) (fun e2 M7 a7 h7 => ⟨v180, ?_⟩)
  · unfold aAll; rw [e]
    have e2 : cNum (sT σ) 2 8 1 = some f := e2
    rw [e2]; rfl
  have e2 : cNum (sT σ) 2 8 1 = none := e2
  have hP8 : MPF M5 (si M7 c_mo_lands 180 (nI (kV (sT σ) 1))) := ((MPF.rfl.fa a6).fa a7).ld (by decide)
  have hA8 : MA (sT σ) N 2 (si M7 c_mo_lands 180 (nI (kV (sT σ) 1))) := h7.fr (fr2_si (L := [c_mo_lands]) (by decide)) (by decide)
  have hN8 : ∀ w h, MN (dr0 w h) (si M7 c_mo_lands 180 (nI (kV (sT σ) 1))) := fun w h => (((hN w h).fa a6).fa a7).mv rfl rfl rfl
  have hD8 : MD0 (dr0 (kV (sT σ) 1) 0) 0 (si M7 c_mo_lands 180 (nI (kV (sT σ) 1))) := by
    obtain ⟨⟨b1, b2, b3, b4, b5⟩, q2, q3, q4, q5, q6, cl, q7, q8, q9, q10⟩ := (hD.fa a6).fa a7
    refine ⟨⟨si_at, ?_, ?_, ?_, ?_⟩, q2, fun p hp => absurd hp (Nat.not_lt_zero p), fun p hp => absurd hp (Nat.not_lt_zero p), q5, q6, cl, q7, q8, q9.mv (si_of (by decide)) (fun _ _ => ⟨rfl, rfl⟩) (Nat.le_refl _), q10.mv (si_of (by decide)) (fun _ _ => ⟨rfl, rfl⟩) (Nat.le_refl _)⟩
    · rw [si_of (by decide)]; exact b2
    · rw [si_of (by decide)]; exact b3
    · rw [si_of (by decide)]; exact b4
    · rw [si_of (by decide)]; exact b5
  show w_Mo_takeNumber 2 8 (si M7 c_mo_lands 180 (nI (kV (sT σ) 1))) _
  generalize si M7 c_mo_lands 180 (nI (kV (sT σ) 1)) = M8 at hP8 hA8 hN8 hD8
  refine m_takeNumber (lo := 2) (hi := 8) hA8 (by decide) (by decide) (fun f e3 fk M9 a9 h9 => ⟨v181, L1 f _ fk ((hP8.fa a9).ld (by decide)) h9 ?_⟩) (fun e3 M9 a9 h9 => ⟨v181, ?_⟩)
  · unfold aAll; rw [e, e2, e3]; rfl
  have hPa : MPF M5 (si M9 c_mo_lands 181 (nI (kV (sT σ) 2))) := (hP8.fa a9).ld (by decide)
  have hAa : MA (sT σ) N 3 (si M9 c_mo_lands 181 (nI (kV (sT σ) 2))) := h9.fr (fr2_si (L := [c_mo_lands]) (by decide)) (by decide)
  have hNa : ∀ w h, MN (dr0 w h) (si M9 c_mo_lands 181 (nI (kV (sT σ) 2))) := fun w h => ((hN8 w h).fa a9).mv rfl rfl rfl
  have hDa : MD0 (dr0 (kV (sT σ) 1) (kV (sT σ) 2)) 0 (si M9 c_mo_lands 181 (nI (kV (sT σ) 2))) := by
    obtain ⟨⟨b1, b2, b3, b4, b5⟩, q2, q3, q4, q5, q6, cl, q7, q8, q9, q10⟩ := hD8.fa a9
    refine ⟨⟨?_, si_at, ?_, ?_, ?_⟩, q2, fun p hp => absurd hp (Nat.not_lt_zero p), fun p hp => absurd hp (Nat.not_lt_zero p), q5, q6, cl, q7, q8, q9.mv (si_of (by decide)) (fun _ _ => ⟨rfl, rfl⟩) (Nat.le_refl _), q10.mv (si_of (by decide)) (fun _ _ => ⟨rfl, rfl⟩) (Nat.le_refl _)⟩
    · rw [si_of (by decide)]; exact b1
    · rw [si_of (by decide)]; exact b3
    · rw [si_of (by decide)]; exact b4
    · rw [si_of (by decide)]; exact b5
  show w_Mo_takeSign 59 (si M9 c_mo_lands 181 (nI (kV (sT σ) 2))) _
  generalize si M9 c_mo_lands 181 (nI (kV (sT σ) 2)) = Ma at hPa hAa hNa hDa
  refine m_takeSign (c := 59) hAa (by decide) (fun f e4 fk Mb ab hb => ⟨1, m_hL125F fk hb (bad f Mb fk (hPa.fa ab) hb ?_) 0⟩) (fun e4 Mb ab hb => ⟨1001, ?_⟩)
  · unfold aAll; rw [e, e2, e3, e4]; rfl
  have hgd : GDr (dr0 (kV (sT σ) 1) (kV (sT σ) 2)) := GDr.z (cNum_n e2).2 (cNum_n e3).2
  refine m_lines (M0 := M5) 1000 4 _ Mb (by decide) (hPa.fa ab) hb ⟨(hDa.fa ab).up (Nat.zero_le _), (hNa _ _).fa ab⟩ hgd ?_
  have ea : aAll (sT σ) = aLines (sT σ) 1000 4 (dr0 (kV (sT σ) 1) (kV (sT σ) 2)) := by unfold aAll; rw [e, e2, e3, e4]; rfl
  rw [← ea]
  cases er : aAll (sT σ) with
  | inl f => exact fun fk M' hP hf => bad f M' fk hP hf er
  | inr d =>
    unfold hillN hillR at k
    rw [er] at k
    intro M' n hP hA' hD'
    refine m_j157 (GDr.all er) hD'.1 hA'.n hA'.ft hA'.2.1 (by rw [hP.2.2.2.2]; exact tM) (fun M'' f2 hM2 => ?_)
    exact k M'' (((FM.mono (by decide)).trans (hP.1.mono (by decide))).trans f2) hM2
theorem r_hills {M : Mem} (h : Rel M) : w_Top_hills M (fun r M1 => w_Mo_hills M1 (fun r2 M2 => r = r2 ∧ Rel M2 ∧ M2.1 c_outc = M.1 c_outc ∧ M2.2 c_outc = M.2 c_outc)) := by
  obtain ⟨σ, hX, hM⟩ := h
  have hok : ∀ i, i < (sT σ).length → (sT σ).getD i 0 < 127 := fun i hi => XTp.lt127 hX.2.2.2.2.2.1 hi
  have hl := hX.1.1
  refine x_Thills hX (fun M1 hF1 hX1 => ?_)
  have hM1 := hM.cl hF1
  refine m_hills hM1 hl hok (fun M2 hF2 hM2 => ⟨rfl, ⟨hillN σ, hX1.mo hF2, hM2⟩, ?_, ?_⟩)
  · rw [(hF2 _ (by decide)).1, (hF1 _ (by decide)).1]
  · rw [(hF2 _ (by decide)).2, (hF1 _ (by decide)).2]
