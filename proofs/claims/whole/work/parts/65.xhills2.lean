/-! hills: the class -/
def finL (d : Dr) : Land := ((rwide d, rdeep d, rnp d, rnb d, rhear d), rkind d, rpurse d, (fun i => walk (rgoes d) (i / 24) (i % 24)), rbush d, (rowe d).getD [1], (rfog d).getD [14])
def finD (d : Dr) : Deeds := (rtimes d, 0, fun _ => -1)
def hillR (t : List Nat) : Int32 := match aAll t with
  | .inl f => nI f
  | .inr _ => 0
def hillN (σ : St) : St := match aAll (sT σ) with
  | .inl _ => ([], sL σ, sD σ, sM σ, sH σ)
  | .inr d => ([], finL d, finD d, (fun _ => none), [])
theorem walk_lt {d : Dr} (hg : GDr d) (p : Nat) (hp : p < rnp d) : ∀ h, walk (rgoes d) p h < 64
  | 0 => by
    have := (hg.2.1 p hp).2.2.2
    cases e : rgoes d (p * 24) with
    | none => exact absurd e this
    | some c => unfold walk; rw [e]; exact hg.2.2.2.1 _ c e
  | h + 1 => by
    rw [walk]
    cases e : rgoes d (p * 24 + (h + 1)) with
    | none => exact walk_lt hg p hp h
    | some c => exact hg.2.2.2.1 _ c e
theorem finP {d : Dr} {p h : Nat} (hh : h < 24) : lplace (finL d) (p * 24 + h) = walk (rgoes d) p h := by
  show walk (rgoes d) ((p * 24 + h) / 24) ((p * 24 + h) % 24) = _
  rw [show (p * 24 + h) / 24 = p by omega, show (p * 24 + h) % 24 = h by omega]
theorem finL_ok {d : Dr} (hg : GDr d) : LOK (finL d) := by
  refine ⟨hg.1.1, hg.1.2.1, hg.1.2.2.1, hg.1.2.2.2.1, hg.1.2.2.2.2.1, fun p hp => ⟨(hg.2.1 p hp).1, (hg.2.1 p hp).2.1⟩, fun p h hp hh => ?_, fun b hb => (hg.2.2.1 b hb).1, ?_, ?_⟩
  · rw [finP hh]; exact walk_lt hg p hp h
  · show wfc 0 ((rowe d).getD [1]) = true
    cases e : rowe d with
    | none => decide
    | some c => exact hg.2.2.2.2.2.2.1 c e
  · show wfc 0 ((rfog d).getD [14]) = true
    cases e : rfog d with
    | none => decide
    | some c => exact (hg.2.2.2.2.2.2.2 c e).1
theorem cpy0 {f g : Nat → Int32} {n j : Nat} (h : j < n) : va_cpy f g (Int32.toNatClampNeg 0) (Int32.toNatClampNeg 0) n j = f j := by
  rw [show Int32.toNatClampNeg 0 = 0 from rfl, pk_cpy_in (Nat.zero_le _) (by omega), Nat.zero_add, Nat.sub_zero]
theorem b2i_and (b : Bool) : b2i b &&& 1 = b2i b := by cases b <;> decide
abbrev LDC : List Nat := [c_land, c_land_kind, c_land_purse, c_land_place, c_land_bush, c_land_times, c_land_code, c_land_owe, c_land_fog]
theorem x_copyFrom {M : Mem} {Q : Mem → Prop} {b1 b2 : Bool} (h1 : M.1 c_draft_owe Law_isTold = b2i b1) (h2 : M.1 c_draft_fog Law_isTold = b2i b2)
    (k : ∀ M', Fr LDC M M' → (∀ j, j ∈ [Land_wide, Land_deep, Land_people, Land_birds, Land_hear] → M'.1 c_land j = M.1 c_draft j) → (∀ j, j < 6 → M'.1 c_land_kind j = M.1 c_draft_kind j ∧ M'.1 c_land_purse j = M.1 c_draft_purse j) → (∀ j, j < 144 → M'.1 c_land_place j = M.1 c_draft_place j) → (∀ j, j < 5 → M'.1 c_land_bush j = M.1 c_draft_bush j) → (∀ j, j < 120 → M'.1 c_land_times j = M.1 c_draft_times j) → (∀ j, j < 1024 → M'.1 c_land_code j = M.1 c_draft_code j) → (∀ j, j ∈ [Law_from, Law_to] → M'.1 c_land_owe j = M.1 c_draft_owe j ∧ M'.1 c_land_fog j = M.1 c_draft_fog j) → Q M') : w_Land_copyFrom M Q := by
  unfold w_Land_copyFrom w_Law_copyFrom w_Law_copyFrom_draft_fog
  generalize e1 : si (si (si (si (si M c_land Land_wide (M.1 c_draft Land_wide)) c_land Land_deep (M.1 c_draft Land_deep)) c_land Land_people (M.1 c_draft Land_people)) c_land Land_birds (M.1 c_draft Land_birds)) c_land Land_hear (M.1 c_draft Land_hear) = A
  have fA : Fr [c_land] M A := by rw [← e1]; exact ((((fr_si (by decide)).put _ _ _ (by decide)).put _ _ _ (by decide)).put _ _ _ (by decide)).put _ _ _ (by decide)
  have aA : ∀ j, j ∈ [Land_wide, Land_deep, Land_people, Land_birds, Land_hear] → A.1 c_land j = M.1 c_draft j := by
    intro j hj
    simp only [List.mem_cons, List.not_mem_nil, or_false] at hj
    rw [← e1]
    rcases hj with y | y | y | y | y
    · subst y; rw [si_of (by decide), si_of (by decide), si_of (by decide), si_of (by decide), si_at]
    · subst y; rw [si_of (by decide), si_of (by decide), si_of (by decide), si_at]
    · subst y; rw [si_of (by decide), si_of (by decide), si_at]
    · subst y; rw [si_of (by decide), si_at]
    · subst y; rw [si_at]
  clear e1
  generalize e2 : sa (sa (sa (sa (sa (sa A c_land_kind (va_cpy (M.1 c_draft_kind) (M.1 c_land_kind) (Int32.toNatClampNeg 0) (Int32.toNatClampNeg 0) (Int32.toNatClampNeg 6))) c_land_purse (va_cpy (M.1 c_draft_purse) (M.1 c_land_purse) (Int32.toNatClampNeg 0) (Int32.toNatClampNeg 0) (Int32.toNatClampNeg 6))) c_land_place (va_cpy (M.1 c_draft_place) (M.1 c_land_place) (Int32.toNatClampNeg 0) (Int32.toNatClampNeg 0) (Int32.toNatClampNeg 144))) c_land_bush (va_cpy (M.1 c_draft_bush) (M.1 c_land_bush) (Int32.toNatClampNeg 0) (Int32.toNatClampNeg 0) (Int32.toNatClampNeg 5))) c_land_times (va_cpy (M.1 c_draft_times) (M.1 c_land_times) (Int32.toNatClampNeg 0) (Int32.toNatClampNeg 0) (Int32.toNatClampNeg 120))) c_land_code (va_cpy (M.1 c_draft_code) (M.1 c_land_code) (Int32.toNatClampNeg 0) (Int32.toNatClampNeg 0) (Int32.toNatClampNeg 1024)) = B
  have fB : Fr LDC M B := by rw [← e2]; exact ((((((fA.mono (by decide)).arr _ _ (by decide)).arr _ _ (by decide)).arr _ _ (by decide)).arr _ _ (by decide)).arr _ _ (by decide)).arr _ _ (by decide)
  have bL : B.1 c_land = A.1 c_land := by rw [← e2, sa_ne _ _ (by decide), sa_ne _ _ (by decide), sa_ne _ _ (by decide), sa_ne _ _ (by decide), sa_ne _ _ (by decide), sa_ne _ _ (by decide)]
  have b1' : ∀ j, j < 6 → B.1 c_land_kind j = M.1 c_draft_kind j ∧ B.1 c_land_purse j = M.1 c_draft_purse j := fun j hj => by
    rw [← e2]
    constructor
    · rw [sa_ne _ _ (by decide), sa_ne _ _ (by decide), sa_ne _ _ (by decide), sa_ne _ _ (by decide), sa_ne _ _ (by decide), sa_same]; exact cpy0 hj
    · rw [sa_ne _ _ (by decide), sa_ne _ _ (by decide), sa_ne _ _ (by decide), sa_ne _ _ (by decide), sa_same]; exact cpy0 hj
  have b2' : ∀ j, j < 144 → B.1 c_land_place j = M.1 c_draft_place j := fun j hj => by
    rw [← e2, sa_ne _ _ (by decide), sa_ne _ _ (by decide), sa_ne _ _ (by decide), sa_same]; exact cpy0 hj
  have b3' : ∀ j, j < 5 → B.1 c_land_bush j = M.1 c_draft_bush j := fun j hj => by
    rw [← e2, sa_ne _ _ (by decide), sa_ne _ _ (by decide), sa_same]; exact cpy0 hj
  have b4' : ∀ j, j < 120 → B.1 c_land_times j = M.1 c_draft_times j := fun j hj => by
    rw [← e2, sa_ne _ _ (by decide), sa_same]; exact cpy0 hj
  have b5' : ∀ j, j < 1024 → B.1 c_land_code j = M.1 c_draft_code j := fun j hj => by
    rw [← e2, sa_same]; exact cpy0 hj
  clear e2
  have g1 : (si B c_land Land_codeLength (M.1 c_draft Land_codeLength)).1 c_draft_owe = M.1 c_draft_owe := by rw [si_ne _ _ _ (by decide), fB.1 _ (by decide)]
  have g2 : (si B c_land Land_codeLength (M.1 c_draft Land_codeLength)).1 c_draft_fog = M.1 c_draft_fog := by rw [si_ne _ _ _ (by decide), fB.1 _ (by decide)]
  rw [g1, h1]
  refine ⟨b2i_and _, ?_⟩
  dsimp only
  rw [si_ne _ _ _ (by decide), si_ne _ _ _ (by decide), si_ne _ _ _ (by decide), g2, h2]
  refine ⟨b2i_and _, k _ ?_ (fun j hj => ?_) (fun j hj => ?_) (fun j hj => ?_) (fun j hj => ?_) (fun j hj => ?_) (fun j hj => ?_) (fun j hj => ?_)⟩
  · exact ((((((fB.put _ _ _ (by decide)).put _ _ _ (by decide)).put _ _ _ (by decide)).put _ _ _ (by decide)).put _ _ _ (by decide)).put _ _ _ (by decide)).put _ _ _ (by decide)
  · have hne : j ≠ Land_codeLength := by
      intro y; rw [y] at hj; exact absurd hj (by decide)
    rw [si_ne _ _ _ (by decide), si_ne _ _ _ (by decide), si_ne _ _ _ (by decide), si_ne _ _ _ (by decide), si_ne _ _ _ (by decide), si_ne _ _ _ (by decide), si_of hne, bL]; exact aA j hj
  · rw [si_ne _ _ _ (by decide), si_ne _ _ _ (by decide), si_ne _ _ _ (by decide), si_ne _ _ _ (by decide), si_ne _ _ _ (by decide), si_ne _ _ _ (by decide), si_ne _ _ _ (by decide), si_ne _ _ _ (by decide), si_ne _ _ _ (by decide), si_ne _ _ _ (by decide), si_ne _ _ _ (by decide), si_ne _ _ _ (by decide), si_ne _ _ _ (by decide), si_ne _ _ _ (by decide)]; exact b1' j hj
  · rw [si_ne _ _ _ (by decide), si_ne _ _ _ (by decide), si_ne _ _ _ (by decide), si_ne _ _ _ (by decide), si_ne _ _ _ (by decide), si_ne _ _ _ (by decide), si_ne _ _ _ (by decide)]; exact b2' j hj
  · rw [si_ne _ _ _ (by decide), si_ne _ _ _ (by decide), si_ne _ _ _ (by decide), si_ne _ _ _ (by decide), si_ne _ _ _ (by decide), si_ne _ _ _ (by decide), si_ne _ _ _ (by decide)]; exact b3' j hj
  · rw [si_ne _ _ _ (by decide), si_ne _ _ _ (by decide), si_ne _ _ _ (by decide), si_ne _ _ _ (by decide), si_ne _ _ _ (by decide), si_ne _ _ _ (by decide), si_ne _ _ _ (by decide)]; exact b4' j hj
  · rw [si_ne _ _ _ (by decide), si_ne _ _ _ (by decide), si_ne _ _ _ (by decide), si_ne _ _ _ (by decide), si_ne _ _ _ (by decide), si_ne _ _ _ (by decide), si_ne _ _ _ (by decide)]; exact b5' j hj
  · simp only [List.mem_cons, List.not_mem_nil, or_false] at hj
    rcases hj with y | y
    · subst y
      refine ⟨?_, ?_⟩
      · rw [si_ne _ _ _ (by decide), si_ne _ _ _ (by decide), si_ne _ _ _ (by decide), si_of (by decide), si_at]
      · rw [si_of (by decide), si_at]
    · subst y
      refine ⟨?_, ?_⟩
      · rw [si_ne _ _ _ (by decide), si_ne _ _ _ (by decide), si_ne _ _ _ (by decide), si_at]
      · rw [si_at]
theorem x_begin {M : Mem} {Q : Mem → Prop} (k : ∀ M', Fr [c_deeds, c_deeds_times, c_deeds_debt] M M' → (∀ i, i < 120 → M'.1 c_deeds_times i = M.1 c_land_times i) → M'.1 c_deeds Deeds_shot = 0 → (∀ i, i < 6 → M'.1 c_deeds_debt i = -1) → Q M') : w_Deeds_begin M Q := by
  unfold w_Deeds_begin
  refine x_fill_deeds_debt (fun M1 f1 h1 => k M1 ?_ (fun i hi => ?_) ?_ h1)
  · exact (((fr_sa (by decide)).put _ _ _ (by decide)).trans (f1.mono (by decide)))
  · rw [f1.1 _ (by decide), si_ne _ _ _ (by decide), sa_same]; exact cpy0 hi
  · rw [f1.1 _ (by decide), si_at]
theorem XTp.emp {M : Mem} (h : M.1 c_tape Tape_length = nI 0) : XTp [] M := ⟨h, Nat.zero_le _, fun i hi => absurd hi (Nat.not_lt_zero i)⟩
theorem x_Thills {σ : St} {M : Mem} {Q : Int32 → Mem → Prop} (hX : XRep σ M) (k : ∀ M', Fr2 SCL M M' → XRep (hillN σ) M' → Q (hillR (sT σ)) M') : w_Top_hills M Q := by
  obtain ⟨hD, hgd, hB, hM, hH, hT, hK⟩ := hX
  unfold w_Top_hills
  refine x_read hT hK ?_
  unfold hillN hillR at k
  cases e : aAll (sT σ) with
  | inl f =>
    rw [e] at k
    intro M1 a1
    have f16 : f ≠ 0 ∧ f < 2 ^ 31 := aAll_pos hT.2.1 e
    have hF : Fr2 RDL M (si M1 c_tape Tape_length 0) := a1.trans (fr2_si (by decide))
    refine ⟨fun _ => k _ (hF.mono (by decide)) ⟨?_, hgd, ?_, ?_, ?_, XTp.emp si_at, ?_⟩, fun z => absurd z (nI_ne0 (by omega) f16.2)⟩
    · have fr : Fr RDL M ((si M1 c_tape Tape_length 0).1, M.2) := ⟨fun q hq => (hF q hq).1, rfl⟩
      exact (hD.fr fr (by decide)).one rfl
    · have fr : Fr RDL M ((si M1 c_tape Tape_length 0).1, M.2) := ⟨fun q hq => (hF q hq).1, rfl⟩
      have z := hB.fr fr (by decide)
      exact z
    · have fr : Fr RDL M ((si M1 c_tape Tape_length 0).1, M.2) := ⟨fun q hq => (hF q hq).1, rfl⟩
      have z := hM.fr fr (by decide)
      exact z
    · have fr : Fr RDL M ((si M1 c_tape Tape_length 0).1, M.2) := ⟨fun q hq => (hF q hq).1, rfl⟩
      have z := hH.fr fr (by decide)
      exact ⟨z.1, z.2.1, z.2.2.fr (fun _ _ => ⟨rfl, rfl, rfl⟩)⟩
    · unfold XK; rw [(hF c_tape_keywords (by decide)).2]; exact hK
  | inr d =>
    rw [e] at k
    have hg : GDr d := GDr.all e
    intro M1 n a1 hDr hn hpl
    refine ⟨fun z => absurd rfl z, fun _ => ?_⟩
    obtain ⟨⟨b1, b2, b3, b4, b5⟩, b6, b7, b8, b9, b10, cl, b11, b12, ⟨o1, fo, o2, o3, o4, o5⟩, ⟨g1, fg, g2, g3, g4, g5⟩⟩ := hDr.fr (M' := si M1 c_tape Tape_length 0) (fr2_si (L := [c_tape]) (by decide)) (by decide)
    have hF : Fr2 RDL M (si M1 c_tape Tape_length 0) := a1.trans (fr2_si (by decide))
    have hpl : ∀ p h, p < rnp d → h < 24 → (si M1 c_tape Tape_length 0).1 c_draft_place (p * 24 + h) = nI (walk (rgoes d) p h) := hpl
    have htl : (si M1 c_tape Tape_length 0).1 c_tape Tape_length = nI 0 := si_at
    generalize si M1 c_tape Tape_length 0 = M2 at b1 b2 b3 b4 b5 b6 b7 b8 b9 b10 b11 o1 o2 o3 o5 g1 g2 g3 g5 hF hpl htl
    refine x_copyFrom o1 g1 (fun M3 f3 l1 l2 l3 l4 l5 l6 l7 => x_begin (fun M4 f4 t4 s4 d4 => x_forget (l := finL d) (fun M5 f5 hR hK5 => ?_)))
    have f34 : Fr (LDC ++ [c_deeds, c_deeds_times, c_deeds_debt]) M2 M4 := (f3.mono (by decide)).trans (f4.mono (by decide))
    have f5' : Fr (c_history :: c_xx :: [c_debts_reach, c_debts_rateKey]) M4 M5 := (((fr_si (by decide)).put _ _ _ (by decide)).trans (f5.mono (by decide)))
    have e5 : ∀ q, q ∈ LDC → M5.1 q = M3.1 q := fun q hq => by
      have h1 : ∀ q ∈ LDC, q ∉ (c_history :: c_xx :: [c_debts_reach, c_debts_rateKey]) := by decide
      have h2 : ∀ q ∈ LDC, q ∉ [c_deeds, c_deeds_times, c_deeds_debt] := by decide
      rw [f5'.1 q (h1 q hq), f4.1 q (h2 q hq)]
    have hFf : Fr2 SCL M M5 := (hF.mono (by decide)).trans ((f34.two.mono (by decide)).trans (f5'.two.mono (by decide)))
    have hnp := hg.1.2.2.1
    have hnb := hg.1.2.2.2.1
    have xl : XLand (finL d) M5 := by
      refine ⟨⟨?_, ?_⟩, ?_, ?_, ?_, fun p hp => ?_, fun p hp => ?_, fun p h hp hh => ?_, fun b hb => ?_, ?_, ?_⟩
      · rw [e5 c_land (by decide), l1 _ (by decide)]; exact b1
      · rw [e5 c_land (by decide), l1 _ (by decide)]; exact b2
      · rw [e5 c_land (by decide), l1 _ (by decide)]; exact b3
      · rw [e5 c_land (by decide), l1 _ (by decide)]; exact b4
      · rw [e5 c_land (by decide), l1 _ (by decide)]; exact b5
      · have hp : p < rnp d := hp
        rw [e5 c_land_kind (by decide), (l2 p (by omega)).1]; exact (b7 p hp).1
      · have hp : p < rnp d := hp
        rw [e5 c_land_purse (by decide), (l2 p (by omega)).2]; exact (b7 p hp).2.1
      · have hp : p < rnp d := hp
        rw [e5 c_land_place (by decide), l3 _ (by omega), finP hh]; exact hpl p h hp hh
      · have hb : b < rnb d := hb
        rw [e5 c_land_bush (by decide), l4 _ (by omega)]; exact (b8 b hb).1
      · refine ⟨fo, ?_, ?_, ?_, fun i hi => ?_⟩
        · rw [e5 c_land_owe (by decide), (l7 _ (by decide)).1]; exact o2
        · rw [e5 c_land_owe (by decide), (l7 _ (by decide)).1]; exact o3
        · show fo + ((rowe d).getD [1]).length ≤ 1024; omega
        · have hi : i < ((rowe d).getD [1]).length := hi
          rw [e5 c_land_code (by decide), l6 _ (by omega)]; exact o5 i hi
      · refine ⟨fg, ?_, ?_, ?_, fun i hi => ?_⟩
        · rw [e5 c_land_fog (by decide), (l7 _ (by decide)).2]; exact g2
        · rw [e5 c_land_fog (by decide), (l7 _ (by decide)).2]; exact g3
        · show fg + ((rfog d).getD [14]).length ≤ 1024; omega
        · have hi : i < ((rfog d).getD [14]).length := hi
          rw [e5 c_land_code (by decide), l6 _ (by omega)]; exact g5 i hi
    have tT : ∀ i, i < 120 → M5.1 c_deeds_times i = nI (rtimes d i) := fun i hi => by
      rw [f5'.1 c_deeds_times (by decide), t4 i hi, l5 i hi]; exact b10 i hi
    have tS : M5.1 c_deeds Deeds_shot = nI 0 := by rw [f5'.1 c_deeds (by decide)]; exact s4
    have tD : ∀ i, i < 6 → M5.1 c_deeds_debt i = -1 := fun i hi => by rw [f5'.1 c_deeds_debt (by decide)]; exact d4 i hi
    have nz : fb_ct (fun i => decide (rtimes d i ≠ 0)) 120 ≤ 30 := Nat.le_trans hg.2.2.2.2.1.2 hg.1.2.2.2.2.2.2
    refine k M5 hFf ⟨⟨finL_ok hg, xl, hR, hK5, fun i hi => ⟨tT i hi, hg.2.2.2.2.1.1 i hi⟩, tS, by show (0 : Nat) < 32; decide⟩, ⟨⟨fun i hi => hg.2.2.2.2.1.1 i hi, by show (0 : Nat) < 32; decide, nz⟩, fun p _ => Or.inl rfl, fun p _ _ => rfl⟩, fun p hp => ⟨tD p hp, Or.inl rfl⟩, ⟨0, ?_, by decide, fun j hj => ⟨by rw [Nat.zero_testBit]; rfl, fun dd hdd => (nomatch hdd)⟩⟩, ⟨?_, Nat.zero_le _, trivial⟩, XTp.emp ?_, ?_⟩
    · rw [f5.1 c_xx (by decide), si_at]; rfl
    · rw [f5.1 c_history (by decide), si_ne _ _ _ (by decide), si_at]; rfl
    · rw [f5'.1 c_tape (by decide), f34.1 c_tape (by decide)]; exact htl
    · unfold XK; rw [f5'.2, f34.2, (hF c_tape_keywords (by decide)).2]; exact hK
