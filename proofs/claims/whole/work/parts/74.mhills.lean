/-! hills: the reference -/
theorem m_readLaw {t : List Nat} {N n : Nat} {d : Dr} {M : Mem} {Q : Mem → Prop} (hA : MA t N n M) (hD : MDr d n M) (k : MRes t N (if kK t n = 9 then aLaw t false n d else if kK t n = 10 then aLaw t true n d else .inl (er t n 1)) M Q) : w_Mo_readLaw M (fun M1 => w_Mo_takeSign 59 M1 Q) := by
  unfold w_Mo_readLaw
  have hA1 : ∀ v, MA t N n (si M c_mo Mo_ofFog v) := fun v => hA.sl (by decide) (by decide)
  have hP1 : ∀ v, MPF M (si M c_mo Mo_ofFog v) := fun v => MPF.rfl.mo (by decide) (by decide)
  have hD1 : ∀ v, MDr d n (si M c_mo Mo_ofFog v) := fun v => ⟨hD.1.mv (fun k hk => by
      have : ∀ k ∈ MDc, k ≠ c_mo := by decide
      exact si_ne _ _ _ (this k hk)) (fun j hj => by
      have : ∀ j ∈ [Mo_goesMany, Mo_callsMany, Mo_hasHear, Mo_codes], j ≠ Mo_ofFog := by decide
      exact si_of (this j hj)), hD.2.mv (si_of (by decide)) rfl rfl⟩
  have kb : ∀ (R : RLn) v, MRes t N R M Q → MRes t N R (si M c_mo Mo_ofFog v) Q := fun R v k => by
    cases R with
    | inl f => exact fun fk M' a h => k fk M' ((hP1 v).trans a) h
    | inr x => exact fun M' a h1 h2 => k M' ((hP1 v).trans a) h1 h2
  refine m_isWord (q := 10) hA (by decide) ?_
  by_cases c : kK t n = 10
  · rw [if_neg (by omega), if_pos c] at k
    rw [decide_eq_true c]
    exact ⟨fun _ => m_lawT (fog := true) (hA1 _) (kK_ne0 c (by decide)) (hD1 _) si_at (kb _ _ k), fun y => absurd y (by decide)⟩
  · rw [decide_eq_false c]
    refine ⟨fun y => absurd rfl y, fun _ => ?_⟩
    refine m_isWord (q := 9) (hA1 _) (by decide) ?_
    by_cases c2 : kK t n = 9
    · rw [if_pos c2] at k
      rw [decide_eq_true c2]
      exact gT (m_lawT (fog := false) (hA1 _) (kK_ne0 c2 (by decide)) (hD1 _) si_at (kb _ _ k))
    · rw [if_neg c2, if_neg c] at k
      rw [decide_eq_false c2]
      exact gF (m_wrong (a := 1) (hA1 _) (by decide) (by decide) (fun fk M1 a1 h1 => m_endF fk h1 ((hP1 _).fa a1) k))
theorem m_readLine {t : List Nat} {N n : Nat} {d : Dr} {M : Mem} {Q : Mem → Prop} (hA : MA t N n M) (h0 : kS t n ≠ 0) (hg : GDr d) (hD : MDr d n M) (k : MRes t N (aLine t n d) M Q) : w_Mo_readLine M (fun M1 => w_Mo_takeSign 59 M1 Q) := by
  unfold aLine at k
  unfold w_Mo_readLine
  refine m_isWord (q := 1) hA (by decide) ?_
  by_cases c1 : kK t n = 1
  · rw [if_pos c1] at k; rw [decide_eq_true c1]; exact fT (m_readPerson hA h0 hg hD k)
  rw [if_neg c1] at k; rw [decide_eq_false c1]
  refine fF (m_isWord (q := 4) hA (by decide) ?_)
  by_cases c4 : kK t n = 4
  · rw [if_pos c4] at k; rw [decide_eq_true c4]; exact fT (m_readGo hA h0 hg hD k)
  rw [if_neg c4] at k; rw [decide_eq_false c4]
  refine fF (m_isWord (q := 6) hA (by decide) ?_)
  by_cases c6 : kK t n = 6
  · rw [if_pos c6] at k; rw [decide_eq_true c6]; exact fT (m_readBird hA h0 hg hD k)
  rw [if_neg c6] at k; rw [decide_eq_false c6]
  refine fF (m_isWord (q := 7) hA (by decide) ?_)
  by_cases c7 : kK t n = 7
  · rw [if_pos c7] at k; rw [decide_eq_true c7]; exact fT (m_readCall hA h0 hg hD k)
  rw [if_neg c7] at k; rw [decide_eq_false c7]
  refine fF (m_isWord (q := 11) hA (by decide) ?_)
  by_cases c11 : kK t n = 11
  · rw [if_neg (by omega), if_neg (by omega), if_pos c11] at k; rw [decide_eq_true c11]; exact fT (m_readHear hA h0 hD k)
  rw [if_neg c11] at k; rw [decide_eq_false c11]
  exact fF (m_readLaw hA hD k)
/-! what is copied when the text is right -/
theorem m_L171 {K : Mem → Prop} {Q : Int32 → Mem → Prop} {M : Mem} (k : ∀ M', Fr [c_mo_lands] M M' → (∀ i, i < 180 → M'.1 c_mo_lands i = M.1 c_mo_lands (180 + i)) → K M') : ∃ n, w_Mo_hills_L171 K Q n 0 M := by
  refine for_loop (fun n i (M1 : Mem) => w_Mo_hills_L171 K Q n (nI i) M1) (fun i M1 => Fr [c_mo_lands] M M1 ∧ (∀ j, j < i → M1.1 c_mo_lands j = M.1 c_mo_lands (180 + j)) ∧ ∀ j, 180 ≤ j → M1.1 c_mo_lands j = M.1 c_mo_lands j) 180 0 M (Nat.zero_le _) ⟨Fr.rfl, fun j hj => absurd hj (Nat.not_lt_zero j), fun _ _ => rfl⟩ ?_ ?_
  · intro n M1 ⟨h1, h2, h3⟩
    exact br_le (a := 180) (b := 180) (by decide) (by decide) (fun _ => k M1 h1 h2) (fun q => absurd q (by omega))
  · intro n i M1 _ hi ⟨h1, h2, h3⟩ kk
    have ei : 180 + nI i = nI (180 + i) := by simp only [fa_lit, nI_add]
    refine br_le (a := 180) (by decide) (by omega) (fun q => absurd q (by omega)) (fun _ => ?_)
    rw [ei, nI_clamp (by omega), nI_clamp (by omega), nI_1]
    refine ⟨vp_in_nI (by omega) (by decide), vp_in_nI (by omega) (by decide), kk _ ⟨h1.put _ _ _ (by decide), fun j hj => ?_, fun j hj => ?_⟩⟩
    · by_cases e : j = i
      · subst e; rw [si_at]; exact h3 _ (by omega)
      · rw [si_of e]; exact h2 j (by omega)
    · rw [si_of (by omega)]; exact h3 j hj
theorem m_L202 {cl : Nat} {K : Mem → Prop} {Q : Int32 → Mem → Prop} {M : Mem} (hc : M.1 c_mo Mo_codes = nI cl) (hl : cl ≤ 1000) (k : ∀ M', Fr [c_mo_op, c_mo_arg] M M' → (∀ i, i < cl → M'.1 c_mo_op i = M.1 c_mo_op (1100 + i) ∧ M'.1 c_mo_arg i = M.1 c_mo_arg (1100 + i)) → K M') : ∃ n, w_Mo_hills_L202 K Q n 0 M := by
  refine for_loop (fun n i (M1 : Mem) => w_Mo_hills_L202 K Q n (nI i) M1) (fun i M1 => Fr [c_mo_op, c_mo_arg] M M1 ∧ (∀ j, j < i → M1.1 c_mo_op j = M.1 c_mo_op (1100 + j) ∧ M1.1 c_mo_arg j = M.1 c_mo_arg (1100 + j)) ∧ ∀ j, 1100 ≤ j → M1.1 c_mo_op j = M.1 c_mo_op j ∧ M1.1 c_mo_arg j = M.1 c_mo_arg j) cl 0 M (Nat.zero_le _) ⟨Fr.rfl, fun j hj => absurd hj (Nat.not_lt_zero j), fun _ _ => ⟨rfl, rfl⟩⟩ ?_ ?_
  · intro n M1 ⟨h1, h2, h3⟩
    unfold w_Mo_hills_L202
    rw [h1.1 c_mo (by decide), hc]
    exact br_le (by omega) (by omega) (fun _ => k M1 h1 h2) (fun q => absurd q (by omega))
  · intro n i M1 _ hi ⟨h1, h2, h3⟩ kk
    have ei : 1100 + nI i = nI (1100 + i) := by simp only [fa_lit, nI_add]
    unfold w_Mo_hills_L202
    rw [h1.1 c_mo (by decide), hc, ei, nI_clamp (by omega), nI_clamp (by omega), nI_1]
    have v1 := vp_in_nI (n := 1100 + i) (N := 2200) (by omega) (by decide)
    have v2 := vp_in_nI (n := i) (N := 2200) (by omega) (by decide)
    refine br_le (by omega) (by omega) (fun q => absurd q (by omega)) (fun _ => ⟨v1, v2, v1, v2, kk _ ⟨(h1.put _ _ _ (by decide)).put _ _ _ (by decide), fun j hj => ?_, fun j hj => ?_⟩⟩)
    · show (si M1 c_mo_op i (M1.1 c_mo_op (1100 + i))).1 c_mo_op j = _ ∧ (si M1 c_mo_arg i (M1.1 c_mo_arg (1100 + i))).1 c_mo_arg j = _
      by_cases e : j = i
      · subst e; rw [si_at, si_at]; exact h3 _ (by omega)
      · rw [si_of e, si_of e]; exact h2 j (by omega)
    · show (si M1 c_mo_op i (M1.1 c_mo_op (1100 + i))).1 c_mo_op j = _ ∧ (si M1 c_mo_arg i (M1.1 c_mo_arg (1100 + i))).1 c_mo_arg j = _
      rw [si_of (by omega), si_of (by omega)]; exact h3 j hj
theorem oI_neg {x : Option Nat} (h : ∀ j, x = some j → j < 2 ^ 31) : oI x < 0 ↔ x = none := by
  cases x with
  | none => exact ⟨fun _ => rfl, fun _ => by decide⟩
  | some j => exact ⟨fun z => absurd z (ni_nneg (h j rfl)), fun z => nomatch z⟩
theorem m_L250 {d : Dr} {K : Mem → Prop} {Q : Int32 → Mem → Prop} {M : Mem} (hg : GDr d) (hp : M.1 c_mo_lands 2 = nI (rnp d)) (hgo : ∀ i, i < 144 → M.1 c_mo_goes i = oI (rgoes d i)) (k : ∀ M', Fr [c_mo_lands] M M' → (∀ p h, p < rnp d → h < 24 → M'.1 c_mo_lands (19 + 24 * p + h) = nI (walk (rgoes d) p h)) → (∀ i, i < 19 ∨ 163 ≤ i → M'.1 c_mo_lands i = M.1 c_mo_lands i) → K M') : ∃ n, w_Mo_hills_L250 K Q n 0 M := by
  have hnp := hg.1.2.2.1
  refine for_loop (fun n p (M1 : Mem) => w_Mo_hills_L250 K Q n (nI p) M1) (fun p M1 => Fr [c_mo_lands] M M1 ∧ (∀ q h, q < p → h < 24 → M1.1 c_mo_lands (19 + 24 * q + h) = nI (walk (rgoes d) q h)) ∧ ∀ i, i < 19 ∨ 163 ≤ i → M1.1 c_mo_lands i = M.1 c_mo_lands i) (rnp d) 0 M (Nat.zero_le _) ⟨Fr.rfl, fun q h hq => absurd hq (Nat.not_lt_zero q), fun _ _ => rfl⟩ ?_ ?_
  · intro n M1 ⟨h1, h2, h3⟩
    unfold w_Mo_hills_L250 w_Mo_persons
    rw [show Int32.toNatClampNeg 2 = 2 from rfl, h3 2 (by decide), hp]
    exact ⟨vp_in_nI (n := 2) (by decide) (by decide), br_le (by omega) (by omega) (fun _ => k M1 h1 h2 h3) (fun q => absurd q (by omega))⟩
  · intro n p M1 _ hpp ⟨h1, h2, h3⟩ kk
    unfold w_Mo_hills_L250 w_Mo_persons
    rw [show Int32.toNatClampNeg 2 = 2 from rfl, h3 2 (by decide), hp, nI_1]
    refine ⟨vp_in_nI (n := 2) (by decide) (by decide), br_le (by omega) (by omega) (fun q => absurd q (by omega)) (fun _ => ?_)⟩
    refine for_loop (fun m h (M2 : Mem) => w_Mo_hills_L260 (nI p) (fun M862 => w_Mo_hills_L250 K Q n (nI (p + 1)) M862) Q m (nI h) M2) (fun h M2 => Fr [c_mo_lands] M M2 ∧ (∀ q z, q < p → z < 24 → M2.1 c_mo_lands (19 + 24 * q + z) = nI (walk (rgoes d) q z)) ∧ (∀ z, z < h → M2.1 c_mo_lands (19 + 24 * p + z) = nI (walk (rgoes d) p z)) ∧ ∀ i, i < 19 ∨ 163 ≤ i → M2.1 c_mo_lands i = M.1 c_mo_lands i) 24 0 M1 (Nat.zero_le _) ⟨h1, h2, fun z hz => absurd hz (Nat.not_lt_zero z), h3⟩ ?_ ?_
    · intro m M2 ⟨g1, g2, g3, g4⟩
      refine br_le (a := 24) (b := 24) (by decide) (by decide) (fun _ => kk M2 ⟨g1, fun q z hq hz => ?_, g4⟩) (fun q => absurd q (by omega))
      by_cases e : q = p
      · subst e; exact g3 z hz
      · exact g2 q z (by omega) hz
    · intro m h M2 _ hh ⟨g1, g2, g3, g4⟩ kk2
      have e1 : 24 * nI p + nI h = nI (24 * p + h) := by simp only [fa_lit, pk_mul, nI_add]
      have e2 : 19 + nI (24 * p + h) = nI (19 + (24 * p + h)) := by simp only [fa_lit, nI_add]
      have e3 : nI (19 + (24 * p + h)) - 1 = nI (19 + (24 * p + h) - 1) := pk_sub (b := 1) (by omega)
      have eg : M2.1 c_mo_goes (24 * p + h) = oI (rgoes d (p * 24 + h)) := by rw [g1.1 c_mo_goes (by decide), Nat.mul_comm]; exact hgo _ (by omega)
      unfold w_Mo_hills_L260
      rw [e1, e2, e3, nI_clamp (by omega), nI_clamp (by omega), nI_clamp (by omega), eg, nI_1, oI_neg (fun j hj => by have := hg.2.2.2.1 _ j hj; omega)]
      have v1 := vp_in_nI (n := 24 * p + h) (N := 144) (by omega) (by decide)
      have v2 := vp_in_nI (n := 19 + (24 * p + h)) (N := 360) (by omega) (by decide)
      have v3 := vp_in_nI (n := 19 + (24 * p + h) - 1) (N := 360) (by omega) (by decide)
      have fin : ∀ v, v = nI (walk (rgoes d) p h) → w_Mo_hills_L260 (nI p) (fun M862 => w_Mo_hills_L250 K Q n (nI (p + 1)) M862) Q m (nI (h + 1)) (si M2 c_mo_lands (19 + (24 * p + h)) v) := fun v hv => by
        refine kk2 _ ⟨g1.put _ _ _ (by decide), fun q z hq hz => ?_, fun z hz => ?_, fun i hi => ?_⟩
        · rw [si_of (by omega)]; exact g2 q z hq hz
        · by_cases e : z = h
          · subst e; rw [show 19 + 24 * p + z = 19 + (24 * p + z) by omega, si_at]; exact hv
          · rw [si_of (by omega)]; exact g3 z (by omega)
        · rw [si_of (by omega)]; exact g4 i hi
      refine br_le (a := 24) (by decide) (by omega) (fun q => absurd q (by omega)) (fun _ => ⟨v1, fun c => ⟨v3, v2, fin _ ?_⟩, fun c => ⟨v1, v2, fin _ ?_⟩⟩)
      · match h, c, hh, g3 with
        | 0, c, _, _ =>
          rw [Nat.add_zero] at c
          exact absurd c (hg.2.1 p hpp).2.2.2
        | h + 1, c, hh, g3 =>
          rw [show 19 + (24 * p + (h + 1)) - 1 = 19 + 24 * p + h by omega, g3 h (by omega), walk, c]; rfl
      · cases e : rgoes d (p * 24 + h) with
        | none => exact absurd e c
        | some cc => rw [walk_s e]; rfl
theorem m_L325 {d : Dr} {K : Mem → Prop} {Q : Int32 → Mem → Prop} {M : Mem} (hr : ∀ i, i < 120 → M.1 c_mo_readCalls i = nI (rtimes d i)) (k : ∀ M', Fr [c_mo_state] M M' → MD 0 (finD d) M' → K M') : ∃ n, w_Mo_hills_L325 K Q n 0 M := by
  refine for_loop (fun n i (M1 : Mem) => w_Mo_hills_L325 K Q n (nI i) M1) (fun i M1 => Fr [c_mo_state] M M1 ∧ ∀ j, j < i → M1.1 c_mo_state j = if j < 120 then nI (rtimes d j) else if 121 ≤ j ∧ j < 127 then -1 else 0) 128 0 M (Nat.zero_le _) ⟨Fr.rfl, fun j hj => absurd hj (Nat.not_lt_zero j)⟩ ?_ ?_
  · intro n M1 ⟨h1, h2⟩
    refine br_le (a := 128) (b := 128) (by decide) (by decide) (fun _ => k M1 h1 ⟨⟨fun i hi => ?_, ?_⟩, fun p hp => ?_⟩) (fun q => absurd q (by omega))
    · rw [Nat.mul_zero, Nat.zero_add, h2 i (by omega), if_pos hi]; rfl
    · rw [Nat.mul_zero, Nat.zero_add, h2 120 (by decide), if_neg (by decide), if_neg (by decide)]; rfl
    · rw [Nat.mul_zero, Nat.zero_add, h2 (121 + p) (by omega), if_neg (by omega), if_pos (by omega)]; rfl
  · intro n i M1 _ hi ⟨h1, h2⟩ kk
    have v := vp_in_nI (n := i) (N := 3200) (by omega) (by decide)
    have fin : ∀ v, v = (if i < 120 then nI (rtimes d i) else if 121 ≤ i ∧ i < 127 then -1 else 0) → w_Mo_hills_L325 K Q n (nI i + 1) (si M1 c_mo_state (Int32.toNatClampNeg (nI i)) v) := fun v hv => by
      rw [nI_1, nI_clamp (by omega)]
      refine kk _ ⟨h1.put _ _ _ (by decide), fun j hj => ?_⟩
      by_cases e : j = i
      · subst e; rw [si_at]; exact hv
      · rw [si_of e]; exact h2 j (by omega)
    refine br_le (a := 128) (by decide) (by omega) (fun q => absurd q (by omega)) (fun _ => br_le (a := 120) (by decide) (by omega) (fun q => br_lt (b := 121) (by omega) (by decide) (fun q2 => ⟨v, fin 0 ?_⟩) (fun q2 => br_le (a := 127) (by decide) (by omega) (fun q3 => ⟨v, fin 0 ?_⟩) (fun q3 => ⟨v, fin (-1) ?_⟩))) (fun q => ⟨vp_in_nI (by omega) (by decide), v, fin _ ?_⟩))
    · rw [if_neg (by omega), if_neg (by omega)]
    · rw [if_neg (by omega), if_neg (by omega)]
    · rw [if_neg (by omega), if_pos (by omega)]
    · rw [if_pos (by omega), nI_clamp (by omega), h1.1 c_mo_readCalls (by decide)]; exact hr i (by omega)
theorem m_L383 {K : Mem → Prop} {Q : Int32 → Mem → Prop} {M : Mem} (k : ∀ M', Fr [c_mo_isMarked] M M' → (∀ i, i < 4 → M'.1 c_mo_isMarked i = 0) → K M') : ∃ n, w_Mo_hills_L383 K Q n 0 M := by
  refine for_loop (fun n i (M1 : Mem) => w_Mo_hills_L383 K Q n (nI i) M1) (fun i M1 => Fr [c_mo_isMarked] M M1 ∧ ∀ j, j < i → M1.1 c_mo_isMarked j = 0) 4 0 M (Nat.zero_le _) ⟨Fr.rfl, fun j hj => absurd hj (Nat.not_lt_zero j)⟩ ?_ ?_
  · intro n M1 ⟨h1, h2⟩
    exact br_le (a := 4) (b := 4) (by decide) (by decide) (fun _ => k M1 h1 h2) (fun q => absurd q (by omega))
  · intro n i M1 _ hi ⟨h1, h2⟩ kk
    refine br_le (a := 4) (by decide) (by omega) (fun q => absurd q (by omega)) (fun _ => ⟨vp_in_nI hi (by decide), ?_⟩)
    rw [nI_1, nI_clamp (by omega)]
    refine kk _ ⟨h1.put _ _ _ (by decide), fun j hj => ?_⟩
    by_cases e : j = i
    · subst e; rw [si_at]; decide
    · rw [si_of e]; exact h2 j (by omega)
theorem m_j157 {d : Dr} {n : Nat} {M : Mem} {Q : Int32 → Mem → Prop} (hg : GDr d) (hD : MD0 d n M) (hn : n ≤ 1000) (h0 : M.1 c_mo Mo_fault = 0) (hK : MK M) (ht : M.1 c_mo Mo_taped = 0) (k : ∀ M', Fr2 SMO M M' → MRep ([], finL d, finD d, (fun _ => none), []) M' → Q 0 M') : w_Mo_hills_j157 M Q := by
  obtain ⟨⟨b1, b2, b3, b4, b5⟩, b6, b7, b8, b9, b10, cl, b11, b12, b13, b14⟩ := hD
  have hnp := hg.1.2.2.1
  have hnb := hg.1.2.2.2.1
  unfold w_Mo_hills_j157
  rw [h0]
  refine ⟨fun _ => ?_, fun z => absurd (by decide) z⟩
  refine m_L171 (fun M1 f1 h1 => m_L202 (cl := cl) (by rw [f1.1 c_mo (by decide)]; exact b11) (by omega) (fun M2 f2 h2 => ?_))
  have e2 : M2.1 c_mo_lands = M1.1 c_mo_lands := f2.1 _ (by decide)
  refine m_L250 hg (by rw [e2, h1 2 (by decide)]; exact b3) (fun i hi => by rw [f2.1 c_mo_goes (by decide), f1.1 c_mo_goes (by decide)]; exact b9 i hi) (fun M3 f3 h3 g3 => ?_)
  refine m_L325 (d := d) (fun i hi => by rw [f3.1 c_mo_readCalls (by decide), f2.1 c_mo_readCalls (by decide), f1.1 c_mo_readCalls (by decide)]; exact b10 i hi) (fun M4 f4 h4 => ?_)
  refine m_L383 (fun M5 f5 h5 => ?_)
  have F5 : Fr [c_mo, c_mo_isMarked] M4 M5 := ((fr_si (by decide)).trans (f5.mono (by decide)))
  have F25 : Fr2 SMO M M5 := ((((f1.two.mono (by decide)).trans (f2.two.mono (by decide))).trans (f3.two.mono (by decide))).trans (f4.two.mono (by decide))).trans (F5.two.mono (by decide))
  have eL : M5.1 c_mo_lands = M3.1 c_mo_lands := by rw [F5.1 _ (by decide), f4.1 _ (by decide)]
  have eo : M5.1 c_mo_op = M2.1 c_mo_op ∧ M5.1 c_mo_arg = M2.1 c_mo_arg := by
    rw [F5.1 c_mo_op (by decide), f4.1 c_mo_op (by decide), f3.1 c_mo_op (by decide), F5.1 c_mo_arg (by decide), f4.1 c_mo_arg (by decide), f3.1 c_mo_arg (by decide)]; exact ⟨rfl, rfl⟩
  have lo : ∀ i, i < 180 → i < 19 ∨ 163 ≤ i → M5.1 c_mo_lands i = M.1 c_mo_lands (180 + i) := fun i hi h => by rw [eL, g3 i h, e2, h1 i hi]
  have op5 : ∀ i, i < cl → M5.1 c_mo_op i = M.1 c_mo_op (1100 + i) ∧ M5.1 c_mo_arg i = M.1 c_mo_arg (1100 + i) := fun i hi => by
    rw [eo.1, eo.2, (h2 i hi).1, (h2 i hi).2, f1.1 c_mo_op (by decide), f1.1 c_mo_arg (by decide)]; exact ⟨rfl, rfl⟩
  have law : ∀ (fog : Bool) (ix : Nat) (o : Option (List Int32)) (df : Int32), ix < 19 → MLw fog (180 + ix) o cl M → (∀ c, o = some c → fog = true → ∀ x ∈ c, x ≠ -4) → MLaw fog df ix (o.getD [df]) M5 := by
    intro fog ix o df hix hw h4
    cases o with
    | none => exact Or.inl ⟨by rw [lo ix (by omega) (Or.inl hix)]; exact hw, rfl⟩
    | some c =>
      obtain ⟨f, q1, q2, q3, q4⟩ := hw
      refine Or.inr ⟨f, by rw [lo ix (by omega) (Or.inl hix)]; exact q1, by show f + c.length < 1100; omega, fun j hj => ?_, ?_, fun hf j hj => ?_⟩
      · have hj : j < c.length := hj
        rw [(op5 (f + j) (by omega)).1, (op5 (f + j) (by omega)).2]; exact q3 j hj
      · show M5.1 c_mo_op (f + c.length) = 0
        rw [(op5 (f + c.length) (by omega)).1]; exact q4
      · have hj : j < c.length := hj
        refine h4 c rfl hf _ ?_
        show c.getD j 0 ∈ c
        rw [List.getD_eq_getElem?_getD, List.getElem?_eq_getElem hj]
        exact List.getElem_mem hj
  refine k M5 F25 ⟨⟨⟨?_, ?_⟩, ?_, ?_, ?_, fun p hp => ?_, fun p hp => ?_, fun p h hp hh => ?_, fun b hb => ?_, ?_, ?_⟩, ?_, fun j hj => ⟨?_, fun dd hdd => (nomatch hdd)⟩, ⟨?_, trivial⟩, ⟨?_, Nat.zero_le _, fun i hi => absurd hi (Nat.not_lt_zero i)⟩, ?_⟩
  · rw [lo 0 (by decide) (by decide)]; exact b1
  · rw [lo 1 (by decide) (by decide)]; exact b2
  · rw [lo 2 (by decide) (by decide)]; exact b3
  · rw [lo 3 (by decide) (by decide)]; exact b4
  · rw [lo 4 (by decide) (by decide)]; exact b5
  · have hp : p < rnp d := hp
    rw [lo _ (by omega) (by omega), show 180 + (7 + 2 * p) = 187 + 2 * p by omega]; exact (b7 p hp).1
  · have hp : p < rnp d := hp
    rw [lo _ (by omega) (by omega), show 180 + (7 + 2 * p + 1) = 187 + 2 * p + 1 by omega]; exact (b7 p hp).2
  · have hp : p < rnp d := hp
    have := h3 p h hp hh
    rw [eL, this]
    show _ = nI (lplace (finL d) (p * 24 + h))
    rw [finP hh]
  · have hb : b < rnb d := hb
    rw [lo _ (by omega) (by omega), show 180 + (163 + b) = 343 + b by omega]; exact b8 b hb
  · exact law false 5 (rowe d) 1 (by decide) b13 (fun _ _ hf => absurd hf (by decide))
  · exact law true 6 (rfog d) 14 (by decide) b14 (fun c hc _ => (hg.2.2.2.2.2.2.2 c hc).2)
  · exact h4.fr (fun i hi => by rw [F5.1 c_mo_state (by decide)])
  · rw [h5 j hj]; rfl
  · rw [f5.1 c_mo (by decide), si_at]; rfl
  · rw [f5.1 c_mo (by decide), si_of (by decide), f4.1 c_mo (by decide), f3.1 c_mo (by decide), f2.1 c_mo (by decide), f1.1 c_mo (by decide)]; exact ht
  · unfold MK
    rw [F5.2, f4.2, f3.2, f2.2, f1.2, F5.1 c_mo_factWords (by decide), f4.1 c_mo_factWords (by decide), f3.1 c_mo_factWords (by decide), f2.1 c_mo_factWords (by decide), f1.1 c_mo_factWords (by decide)]; exact hK
