/-! the reference's reader: lines -/
def MRes (t : List Nat) (N : Nat) (R : RLn) (M : Mem) (Q : Mem → Prop) : Prop := match R with
  | .inl f => fok f → ∀ M', MPF M M' → M'.1 c_mo Mo_fault = nI f → Q M'
  | .inr x => ∀ M', MPF M M' → MA t N x.1 M' → MDr x.2 x.1 M' → Q M'
theorem m_endF {t : List Nat} {N f : Nat} {M0 M : Mem} {Q : Mem → Prop} (fk : fok f) (hf : M.1 c_mo Mo_fault = nI f) (hP : MPF M0 M) (k : MRes t N (.inl f) M0 Q) : w_Mo_takeSign 59 M Q := m_takeSignF (nfz fk hf) (k fk M hP hf)
theorem m_end {t : List Nat} {N n m : Nat} {d : Dr} {M0 M : Mem} {Q : Mem → Prop} (hA : MA t N n M) (hD : MD0 d m M) (hN : MN d M) (hm : m ≤ n + 1) (hP : MPF M0 M) (k : MRes t N (chk (cSg t 59 n) (.inr (n + 1, d))) M0 Q) : w_Mo_takeSign 59 M Q := by
  refine m_takeSign (c := 59) hA (by decide) (fun f e fk M1 a1 h1 => ?_) (fun e M1 a1 h1 => ?_)
  · rw [e] at k; exact k fk M1 (hP.fa a1) h1
  · rw [e] at k; exact k M1 (hP.fa a1) h1 ⟨(hD.fa a1).up hm, hN.fa a1⟩
theorem m_readHear {t : List Nat} {N n : Nat} {d : Dr} {M : Mem} {Q : Mem → Prop} (hA : MA t N n M) (h0 : kS t n ≠ 0) (hD : MDr d n M) (k : MRes t N (aHear t n d) M Q) : w_Mo_readHear M (fun M1 => w_Mo_takeSign 59 M1 Q) := by
  unfold aHear at k
  unfold w_Mo_readHear
  rw [hD.1.2.1.2.2]
  refine ⟨fun z => ?_, fun z => ?_⟩
  · have z : ¬ rht d = true := fun y => by rw [y] at z; exact absurd z (by decide)
    rw [if_neg z] at k
    have hA2 : MA t N (n + 1) (si (si M c_mo Mo_hasHear 1) c_mo Mo_at (M.1 c_mo Mo_at + 1)) := (hA.sl (j := Mo_hasHear) (v := 1) (by decide) (by decide)).nx (hA.lt h0) (by rw [hA.at]; exact nI_1 n)
    have hP2 : MPF M (si (si M c_mo Mo_hasHear 1) c_mo Mo_at (M.1 c_mo Mo_at + 1)) := (MPF.rfl.mo (by decide) (by decide)).mo (by decide) (by decide)
    have hD2 : MD0 (uHt d) n (si (si M c_mo Mo_hasHear 1) c_mo Mo_at (M.1 c_mo Mo_at + 1)) := hD.1.uHt.fa FA.at
    have hN2 : MN (uHt d) (si (si M c_mo Mo_hasHear 1) c_mo Mo_at (M.1 c_mo Mo_at + 1)) := MN.fa (M := si M c_mo Mo_hasHear 1) (hD.2.mv (si_of (by decide)) rfl rfl) FA.at
    generalize si (si M c_mo Mo_hasHear 1) c_mo Mo_at (M.1 c_mo Mo_at + 1) = M2 at hA2 hP2 hD2 hN2
    refine m_takeNumber (lo := 0) (hi := 14) hA2 (by decide) (by decide) (fun f e fk M3 a3 h3 => ⟨vp_in_nI (n := 184) (by decide) (by decide), ?_⟩) (fun e M3 a3 h3 => ⟨vp_in_nI (n := 184) (by decide) (by decide), ?_⟩)
    · rw [e] at k
      exact m_endF fk h3 ((hP2.fa a3).ld (by decide)) k
    · rw [e] at k
      exact m_end (h3.fr (fr2_si (L := [c_mo_lands]) (by decide)) (by decide)) ((hD2.fa a3).uHear) ((hN2.fa a3).mv rfl rfl rfl) (by omega) ((hP2.fa a3).ld (by decide)) k
  · have z : rht d = true := by
      cases e : rht d with
      | true => rfl
      | false => rw [e] at z; exact absurd rfl z
    rw [if_pos z] at k
    exact m_wrong (a := 3) hA (by decide) (by decide) (fun fk M1 a1 h1 => m_endF fk h1 (MPF.rfl.fa a1) k)
/-! names -/
def FN (M M' : Mem) : Prop := Fr2 [c_mo, c_mo_names, c_mo_nameOf] M M' ∧ ∀ j, j ≠ Mo_at → j ≠ Mo_fault → j ≠ Mo_namesMany → M'.1 c_mo j = M.1 c_mo j
theorem FA.fn {M M' : Mem} (h : FA M M') : FN M M' := ⟨h.1.mono (by decide), fun j a b _ => h.2 j a b⟩
theorem FN.trans {M M1 M2 : Mem} (h : FN M M1) (h2 : FN M1 M2) : FN M M2 := ⟨h.1.trans h2.1, fun j a b c => (h2.2 j a b c).trans (h.2 j a b c)⟩
theorem MPF.fn {M M1 M2 : Mem} (h : MPF M M1) (h2 : FN M1 M2) : MPF M M2 := h.trans ⟨h2.1.mono (by decide), fun i _ => by rw [(h2.1 c_mo_lands (by decide)).1], fun i _ => by rw [(h2.1 c_mo_op (by decide)).1, (h2.1 c_mo_arg (by decide)).1]; exact ⟨Eq.refl _, Eq.refl _⟩, h2.2 _ (by decide) (by decide) (by decide), h2.2 _ (by decide) (by decide) (by decide)⟩
theorem MD0.fn {d : Dr} {n : Nat} {M M' : Mem} (h : MD0 d n M) (hF : FN M M') : MD0 d n M' := h.mv (fun k hk => by
    have : ∀ k ∈ MDc, k ∉ [c_mo, c_mo_names, c_mo_nameOf] := by decide
    exact (hF.1 k (this k hk)).1) (fun j hj => by
    have : ∀ j ∈ [Mo_goesMany, Mo_callsMany, Mo_hasHear, Mo_codes], j ≠ Mo_at ∧ j ≠ Mo_fault ∧ j ≠ Mo_namesMany := by decide
    exact hF.2 j (this j hj).1 (this j hj).2.1 (this j hj).2.2)
/-- a new name -/
theorem MN.new {d d' : Dr} {id v : Nat} {w : List Nat} {M : Mem} (h : MN d M) (hg : GDr d) (hc : rnp d' + rnb d' = rnp d + rnb d + 1) (hv : ∀ i, vid d' i ↔ vid d i ∨ i = id) (hne : ¬ vid d id) (hm : rnm d' = uo (rnm d) id w) : MN d' (si (si (si (sl M c_mo_names (rnp d + rnb d) (lN (w37 w))) c_mo_nameOf (rnp d + rnb d) (nI id)) c_mo Mo_namesMany (nI (rnp d + rnb d + 1))) c_mo Mo_at (nI v)) := by
  obtain ⟨_, ord, h1, h2⟩ := h
  refine ⟨by rw [si_of (by decide), si_at, hc], uo ord (rnp d + rnb d) id, fun k hk => ?_, fun i hi => ?_⟩
  · rw [si_ne _ _ _ (by decide), si_ne _ _ _ (by decide), si_2, si_2, si_2, hv, hm]
    by_cases e : k = rnp d + rnb d
    · subst e
      rw [uo_s, uo_s, si_at, sl_at]
      exact ⟨Or.inr rfl, rfl, rfl⟩
    · rw [uo_n e, si_of e, sl_1, sl_of e]
      obtain ⟨g1, g2, g3⟩ := h1 k (by omega)
      have hne2 : ord k ≠ id := fun y => hne (by rw [← y]; exact g1)
      rw [uo_n hne2]
      exact ⟨Or.inl g1, g2, g3⟩
  · rcases (hv i).mp hi with y | y
    · obtain ⟨k, hk, e⟩ := h2 i y
      exact ⟨k, by omega, by rw [uo_n (by omega)]; exact e⟩
    · exact ⟨rnp d + rnb d, by omega, by rw [uo_s, y]⟩
theorem fI_none {d : Dr} {w : List Nat} : fI d w = none ↔ ¬ (fP d w ≠ none ∨ fB d w ≠ none) := by
  unfold fI
  cases fP d w with
  | some p => exact ⟨fun z => (nomatch z), fun z => absurd (Or.inl (fun y => (nomatch y))) z⟩
  | none =>
    cases fB d w with
    | some b => exact ⟨fun z => (nomatch z), fun z => absurd (Or.inr (fun y => (nomatch y))) z⟩
    | none => exact ⟨fun _ z => z.elim (fun y => y rfl) (fun y => y rfl), fun _ => rfl⟩
theorem m_readName {t : List Nat} {N n id : Nat} {d d' : Dr} {M : Mem} {Q : Mem → Prop} (hA : MA t N n M) (h0 : kS t n ≠ 0) (hg : GDr d) (hN : MN d M) (h10 : rnp d + rnb d < 11)
    (hc : rnp d' + rnb d' = rnp d + rnb d + 1) (hv : ∀ i, vid d' i ↔ vid d i ∨ i = id) (hne : ¬ vid d id) (hm : rnm d' = uo (rnm d) id (kW t (n + 1)))
    (kf : ∀ f, cNm t (n + 1) = some f → fok f → ∀ M', FN M M' → M'.1 c_mo Mo_fault = nI f → Q M')
    (kk : cNm t (n + 1) = none → (fP d (kW t (n + 1)) ≠ none ∨ fB d (kW t (n + 1)) ≠ none) → fok (er t (n + 1) 3) → ∀ M', FN M M' → M'.1 c_mo Mo_fault = nI (er t (n + 1) 3) → Q M')
    (ko : cNm t (n + 1) = none → ¬ (fP d (kW t (n + 1)) ≠ none ∨ fB d (kW t (n + 1)) ≠ none) → ∀ M', FN M M' → MA t N (n + 2) M' → MN d' M' → Q M') : w_Mo_readName (nI id) M Q := by
  unfold w_Mo_readName
  have hA1 : MA t N (n + 1) (si M c_mo Mo_at (M.1 c_mo Mo_at + 1)) := hA.nx (hA.lt h0) (by rw [hA.at]; exact nI_1 n)
  have hN1 : MN d (si M c_mo Mo_at (M.1 c_mo Mo_at + 1)) := hN.fa FA.at
  have a1 : FA M (si M c_mo Mo_at (M.1 c_mo Mo_at + 1)) := FA.at
  generalize si M c_mo Mo_at (M.1 c_mo Mo_at + 1) = M1 at hA1 hN1 a1
  have hn := hA1.n
  have j37 : ∀ f, fok f → ∀ M2 : Mem, M2.1 c_mo Mo_fault = nI f → Q M2 → w_Mo_readName_j37 (nI id) M2 Q := fun f fk M2 e q => ⟨fun _ => q, fun z => absurd z (nfz fk e)⟩
  refine m_isName hA1 ⟨fun z => ?_, fun z => ?_⟩
  · have z := of_decide_eq_true z
    have e0 : cNm t (n + 1) = none := if_pos z
    refine m_find hA1 z.1 hg hN1 ?_
    cases e : fI d (kW t (n + 1)) with
    | none =>
      have e2 := fI_none.mp e
      refine ⟨fun _ => ?_, fun y => absurd (by decide) y⟩
      unfold w_Mo_readName_j37
      rw [hA1.ft, hA1.at, hN1.1, nI_clamp (by omega), nI_clamp (by omega), nI_1, nI_1, hA1.tok.2.2.1 z.1]
      refine ⟨fun y => absurd rfl y, fun _ => ⟨hA1.v, vp_in_nI h10 (by decide), vp_in_nI h10 (by decide), ?_⟩⟩
      refine ko e0 e2 _ (a1.fn.trans ⟨(((fr2_sl (by decide)).trans (fr2_si (by decide))).trans (fr2_si (by decide))).trans (fr2_si (by decide)), fun j b1 b2 b3 => ?_⟩) ?_ (hN1.new hg hc hv hne hm)
      · rw [si_of b1, si_of b3]; rfl
      · have g1 := hA1.fr (M' := si (sl M1 c_mo_names (rnp d + rnb d) (lN (w37 (kW t (n + 1))))) c_mo_nameOf (rnp d + rnb d) (nI id)) ((fr2_sl (by decide)).trans (fr2_si (by decide)) : Fr2 [c_mo_names, c_mo_nameOf] M1 _) (by decide)
        exact (g1.sl (j := Mo_namesMany) (v := nI (rnp d + rnb d + 1)) (by decide) (by decide)).nx (hA1.lt (by rw [z.1]; decide)) rfl
    | some i =>
      have hi : i < 2 ^ 31 := by
        unfold fI at e
        have h3 := hg.1.2.2.1
        have h4 := hg.1.2.2.2.1
        cases eP : fP d (kW t (n + 1)) with
        | some p => rw [eP] at e; cases e; exact fP_lt h3 _ eP
        | none =>
          rw [eP] at e
          cases eB : fB d (kW t (n + 1)) with
          | some b => rw [eB] at e; cases e; have := (fnd_s eB).1; omega
          | none => rw [eB] at e; cases e
      have e2 : fP d (kW t (n + 1)) ≠ none ∨ fB d (kW t (n + 1)) ≠ none := Decidable.byContradiction (fun y => by rw [fI_none.mpr y] at e; cases e)
      refine ⟨fun y => absurd y (ni_nneg hi), fun _ => ?_⟩
      exact m_wrong (a := 3) hA1 (by decide) (by decide) (fun fk M2 a2 h2 => j37 _ fk M2 h2 (kk e0 e2 fk M2 (a1.trans a2).fn h2))
  · have z := of_decide_eq_false z
    exact m_wrong (a := 1) hA1 (by decide) (by decide) (fun fk M2 a2 h2 => j37 _ fk M2 h2 (kf _ (if_neg z) fk M2 (a1.trans a2).fn h2))
theorem m_takeToldP {t : List Nat} {N n : Nat} {d : Dr} {M : Mem} {Q : Int32 → Mem → Prop} (hA : MA t N n M) (hg : GDr d) (hN : MN d M)
    (kf : ∀ f, cNm t n = some f → fok f → ∀ r M', FA M M' → M'.1 c_mo Mo_fault = nI f → Q r M')
    (kn : cNm t n = none → fP d (kW t n) = none → fok (er t n 2) → ∀ r M', FA M M' → M'.1 c_mo Mo_fault = nI (er t n 2) → Q r M')
    (ko : cNm t n = none → ∀ p, fP d (kW t n) = some p → p < rnp d → ∀ M', FA M M' → MA t N (n + 1) M' → Q (nI p) M') : w_Mo_takeTold 0 M Q := by
  unfold w_Mo_takeTold
  have h3 := hg.1.2.2.1
  have h4 := hg.1.2.2.2.1
  have j50 : ∀ f, fok f → ∀ (r : Int32) (M2 : Mem), M2.1 c_mo Mo_fault = nI f → (∀ r M', FA M2 M' → M'.1 c_mo Mo_fault = nI f → Q r M') → w_Mo_takeTold_j50 0 r M2 Q := fun f fk r M2 e q => by
    unfold w_Mo_takeTold_j50 w_Mo_takeTold_j67
    exact q _ _ FA.at (by rw [si_of (by decide)]; exact e)
  refine m_isName hA ⟨fun z => ?_, fun z => ?_⟩
  · have z := of_decide_eq_true z
    have e0 : cNm t n = none := if_pos z
    unfold w_Mo_takeTold_j14
    rw [hA.ft]
    refine ⟨fun y => absurd rfl y, fun _ => m_find hA z.1 hg hN ?_⟩
    have bad : fP d (kW t n) = none → ∀ r, w_Mo_takeTold_j45 0 r M Q := fun e r => m_wrong (a := 2) hA (by decide) (by decide) (fun fk M2 a2 h2 => j50 _ fk r M2 h2 (fun r M3 a3 h3 => kn e0 e fk r M3 (a2.trans a3) h3))
    cases eP : fP d (kW t n) with
    | some p =>
      have hp := (fnd_s eP).1
      have e : fI d (kW t n) = some p := by unfold fI; rw [eP]
      rw [e]
      have n6 : nI p < 6 := (nI_ltI (b := 6) (by omega) (by decide)).mpr (by omega)
      refine ⟨fun y => absurd y (ni_nneg (by omega)), fun _ => ?_⟩
      show w_Mo_takeTold_j41 0 (nI p) (if nI p < 6 then (0 : Int32) else 1) M Q
      rw [if_pos n6]
      refine ⟨fun _ => ?_, fun y => absurd rfl y⟩
      unfold w_Mo_takeTold_j50 w_Mo_takeTold_j67
      rw [hA.ft, hA.at]
      exact ko e0 p eP hp _ FA.at (hA.nx (hA.lt (by rw [z.1]; decide)) (nI_1 n))
    | none =>
      cases eB : fB d (kW t n) with
      | none =>
        have e : fI d (kW t n) = none := by unfold fI; rw [eP, eB]
        rw [e]
        exact ⟨fun _ => bad eP _, fun y => absurd (by decide) y⟩
      | some b =>
        have hb := (fnd_s eB).1
        have e : fI d (kW t n) = some (6 + b) := by unfold fI; rw [eP, eB]
        rw [e]
        have n6 : ¬ nI (6 + b) < 6 := fun y => by have := (nI_ltI (b := 6) (by omega) (by decide)).mp y; omega
        refine ⟨fun y => absurd y (ni_nneg (by omega)), fun _ => ?_⟩
        show w_Mo_takeTold_j41 0 (nI (6 + b)) (if nI (6 + b) < 6 then (0 : Int32) else 1) M Q
        rw [if_neg n6]
        exact ⟨fun y => absurd y (by decide), fun _ => bad eP _⟩
  · have z := of_decide_eq_false z
    refine m_wrong (a := 1) hA (by decide) (by decide) (fun fk M2 a2 h2 => ⟨fun _ => j50 _ fk _ M2 h2 (fun r M3 a3 h3 => kf _ (if_neg z) fk r M3 (a2.trans a3) h3), fun y => absurd y (nfz fk h2)⟩)
theorem m_takeToldB {t : List Nat} {N n : Nat} {d : Dr} {M : Mem} {Q : Int32 → Mem → Prop} (hA : MA t N n M) (hg : GDr d) (hN : MN d M)
    (kf : ∀ f, cNm t n = some f → fok f → ∀ r M', FA M M' → M'.1 c_mo Mo_fault = nI f → Q r M')
    (kn : cNm t n = none → fB d (kW t n) = none → fok (er t n 2) → ∀ r M', FA M M' → M'.1 c_mo Mo_fault = nI (er t n 2) → Q r M')
    (ko : cNm t n = none → ∀ p, fB d (kW t n) = some p → p < rnb d → ∀ M', FA M M' → MA t N (n + 1) M' → Q (nI p) M') : w_Mo_takeTold 1 M Q := by
  unfold w_Mo_takeTold
  have h3 := hg.1.2.2.1
  have h4 := hg.1.2.2.2.1
  have j50 : ∀ f, fok f → ∀ (r : Int32) (M2 : Mem), M2.1 c_mo Mo_fault = nI f → (∀ r M', FA M2 M' → M'.1 c_mo Mo_fault = nI f → Q r M') → w_Mo_takeTold_j50 1 r M2 Q := fun f fk r M2 e q => by
    unfold w_Mo_takeTold_j50 w_Mo_takeTold_j67
    exact q _ _ FA.at (by rw [si_of (by decide)]; exact e)
  refine m_isName hA ⟨fun z => ?_, fun z => ?_⟩
  · have z := of_decide_eq_true z
    have e0 : cNm t n = none := if_pos z
    unfold w_Mo_takeTold_j14
    rw [hA.ft]
    refine ⟨fun y => absurd rfl y, fun _ => m_find hA z.1 hg hN ?_⟩
    have bad : fB d (kW t n) = none → ∀ r, w_Mo_takeTold_j45 1 r M Q := fun e r => m_wrong (a := 2) hA (by decide) (by decide) (fun fk M2 a2 h2 => j50 _ fk r M2 h2 (fun r M3 a3 h3 => kn e0 e fk r M3 (a2.trans a3) h3))
    cases eP : fP d (kW t n) with
    | some p =>
      have hp := fnd_s eP
      have eB : fB d (kW t n) = none := by
        cases eB : fB d (kW t n) with
        | none => rfl
        | some b =>
          have hb := fnd_s eB
          have := hg.2.2.2.2.2.1 p (6 + b) (Or.inl hp.1) (Or.inr ⟨by omega, by omega⟩) (hp.2.trans hb.2.symm)
          omega
      have e : fI d (kW t n) = some p := by unfold fI; rw [eP]
      rw [e]
      have n6 : nI p < 6 := (nI_ltI (b := 6) (by omega) (by decide)).mpr (by omega)
      refine ⟨fun y => absurd y (ni_nneg (by omega)), fun _ => ?_⟩
      show w_Mo_takeTold_j41 1 (nI p) (if nI p < 6 then (0 : Int32) else 1) M Q
      rw [if_pos n6]
      exact ⟨fun y => absurd y (by decide), fun _ => bad eB _⟩
    | none =>
      cases eB : fB d (kW t n) with
      | none =>
        have e : fI d (kW t n) = none := by unfold fI; rw [eP, eB]
        rw [e]
        exact ⟨fun _ => bad eB _, fun y => absurd (by decide) y⟩
      | some b =>
        have hb := (fnd_s eB).1
        have e : fI d (kW t n) = some (6 + b) := by unfold fI; rw [eP, eB]
        rw [e]
        have n6 : ¬ nI (6 + b) < 6 := fun y => by have := (nI_ltI (b := 6) (by omega) (by decide)).mp y; omega
        refine ⟨fun y => absurd y (ni_nneg (by omega)), fun _ => ?_⟩
        show w_Mo_takeTold_j41 1 (nI (6 + b)) (if nI (6 + b) < 6 then (0 : Int32) else 1) M Q
        rw [if_neg n6]
        refine ⟨fun _ => ?_, fun y => absurd rfl y⟩
        unfold w_Mo_takeTold_j50 w_Mo_takeTold_j67
        rw [hA.ft, hA.at]
        have eb : (if (1 : Int32) = 0 then nI (6 + b) else nI (6 + b) - 6) = nI b := by
          rw [if_neg (by decide), show (6 : Int32) = nI 6 from rfl, pk_sub (by omega), show 6 + b - 6 = b by omega]
        rw [eb]
        exact ko e0 b eB hb _ FA.at (hA.nx (hA.lt (by rw [z.1]; decide)) (nI_1 n))
  · have z := of_decide_eq_false z
    refine m_wrong (a := 1) hA (by decide) (by decide) (fun fk M2 a2 h2 => ⟨fun _ => j50 _ fk _ M2 h2 (fun r M3 a3 h3 => kf _ (if_neg z) fk r M3 (a2.trans a3) h3), fun y => absurd y (nfz fk h2)⟩)
