/-! the class's reader: lines -/
abbrev RDL : List Nat := [c_tape, c_draft, c_draft_kind, c_draft_purse, c_draft_place, c_draft_bush, c_draft_times, c_draft_code, c_draft_owe, c_draft_fog, c_reader, c_reader_peopleNames, c_reader_birdNames, c_reader_goes, c_laws]
def XRes (t : List Nat) (R : RLn) (M : Mem) (Q : Bool → Mem → Prop) : Prop := match R with
  | .inl f => ∀ M', Fr2 RDL M M' → M'.1 c_tape Tape_fault = nI f → Q false M'
  | .inr x => ∀ M', Fr2 RDL M M' → TK t x.1 M' → XDr x.2 x.1 M' → Q true M'
theorem fF {A B : Prop} (h : A) : (false = false → A) ∧ (false = true → B) := ⟨fun _ => h, fun z => nomatch z⟩
theorem fT {A B : Prop} (h : B) : (true = false → A) ∧ (true = true → B) := ⟨fun z => (nomatch z), fun _ => h⟩
theorem gF {A B : Prop} (h : A) : (false = true → B) ∧ (false = false → A) := ⟨fun z => (nomatch z), fun _ => h⟩
theorem gT {A B : Prop} (h : B) : (true = true → B) ∧ (true = false → A) := ⟨fun _ => h, fun z => nomatch z⟩
theorem tpF {M M' : Mem} (h : Fr2 [c_tape] M M') : Fr2 RDL M M' := h.mono (by decide)
theorem oI_n {x : Option Nat} (h : ∀ j, x = some j → j < 2 ^ 31) : oI x = -1 ↔ x = none := by
  cases x with
  | none => exact ⟨fun _ => rfl, fun _ => rfl⟩
  | some j => exact ⟨fun z => absurd z (ni_m1 (h j rfl)), fun z => nomatch z⟩
theorem fP_lt {d : Dr} {w : List Nat} (hn : rnp d ≤ 6) : ∀ j, fP d w = some j → j < 2 ^ 31 := fun j h => by have := (fnd_s h).1; omega
theorem fB_lt {d : Dr} {w : List Nat} (hn : rnb d ≤ 5) : ∀ j, fB d w = some j → j < 2 ^ 31 := fun j h => by have := (fnd_s h).1; omega
theorem x_isNewName {t : List Nat} {n m : Nat} {d : Dr} {M : Mem} {Q : Bool → Mem → Prop} (hT : TK t n M) (hD : XDr d m M) (hg : GDr d)
    (kf : ∀ f, cNm t n = some f → ∀ M', Fr2 [c_tape] M M' → M'.1 c_tape Tape_fault = nI f → Q false M')
    (kk : cNm t n = none → (fP d (kW t n) ≠ none ∨ fB d (kW t n) ≠ none) → ∀ M', Fr2 [c_tape] M M' → M'.1 c_tape Tape_fault = nI (er t n 3) → Q false M')
    (ko : cNm t n = none → ¬ (fP d (kW t n) ≠ none ∨ fB d (kW t n) ≠ none) → Q true M) : w_Rd_isNewName M Q := by
  unfold w_Rd_isNewName
  refine x_isName hT ⟨fun z => ?_, fun z => ?_⟩
  · have z := of_decide_eq_true z
    have e0 : cNm t n = none := if_pos z
    have kno : (fP d (kW t n) ≠ none ∨ fB d (kW t n) ≠ none) → ∀ s : Int32, ¬ s = 0 → w_Rd_isNewName_j62 s M Q := fun c s hs => ⟨fun y => absurd y hs, fun _ => x_fail (a := 3) hT (fun M' a b => ⟨false, rfl, kk e0 c M' a b⟩)⟩
    rw [hD.1.2.2.1]
    refine x_indexOf hT z.1 hg.1.2.2.1 (fun p hp => ⟨(hD.2.2.1 p hp).2.2, (hg.2.1 p hp).2.2.1⟩) ⟨fun c => kno (Or.inl fun y => c ((oI_n (fP_lt hg.1.2.2.1)).mpr y)) 1 (by decide), fun c => ?_⟩
    have c : fP d (kW t n) = none := (oI_n (fP_lt hg.1.2.2.1)).mp c
    rw [hD.1.2.2.2.1]
    refine x_indexOfB (f := fun b => rnm d (6 + b)) hT z.1 hg.1.2.2.2.1 (fun b hb => ⟨(hD.2.2.2.1 b hb).2, (hg.2.2.1 b hb).2⟩) ?_
    show w_Rd_isNewName_j62 (if oI (fB d (kW t n)) = -1 then (0 : Int32) else 1) M Q
    by_cases c2 : fB d (kW t n) = none
    · rw [if_pos ((oI_n (fB_lt hg.1.2.2.2.1)).mpr c2)]
      exact ⟨fun _ => ko e0 (fun y => y.elim (fun y => y c) (fun y => y c2)), fun y => absurd rfl y⟩
    · rw [if_neg (fun y => c2 ((oI_n (fB_lt hg.1.2.2.2.1)).mp y))]
      exact kno (Or.inr c2) 1 (by decide)
  · have z := of_decide_eq_false z
    exact x_fail (a := 1) hT (kf _ (if_neg z))
theorem x_isKnown {t : List Nat} {n m : Nat} {d : Dr} {M : Mem} {Q : Bool → Mem → Prop} (hT : TK t n M) (hD : XDr d m M) (hn : rnp d ≤ 6) (hok : ∀ p, p < rnp d → okw (rnm d p))
    (kf : ∀ f, cNm t n = some f → ∀ M', Fr2 [c_tape] M M' → M'.1 c_tape Tape_fault = nI f → Q false M')
    (kn : cNm t n = none → fP d (kW t n) = none → ∀ M', Fr2 [c_tape, c_reader] M M' → M'.1 c_tape Tape_fault = nI (er t n 2) → Q false M')
    (ko : cNm t n = none → ∀ p, fP d (kW t n) = some p → Q true (si M c_reader Rd_found (nI p))) : w_Rd_isKnown (nI (rnp d)) M Q := by
  unfold w_Rd_isKnown
  refine x_isName hT ⟨fun z => ?_, fun z => ?_⟩
  · have z := of_decide_eq_true z
    have e0 : cNm t n = none := if_pos z
    refine x_indexOf hT z.1 hn (fun p hp => ⟨(hD.2.2.1 p hp).2.2, hok p hp⟩) ?_
    cases e : fnd (rnm d) (kW t n) (rnp d) with
    | none => exact ⟨fun y => absurd rfl y, fun _ => x_fail (a := 2) (hT.fr (fr2_si (L := [c_reader]) (by decide)) (by decide)) (fun M' a b => ⟨false, rfl, kn e0 e M' ((fr2_si (by decide)).trans (a.mono (by decide))) b⟩)⟩
    | some p =>
      have hp := fP_lt hn p e
      exact ⟨fun _ => ko e0 p e, fun y => absurd y (ni_m1 hp)⟩
  · have z := of_decide_eq_false z
    exact x_fail (a := 1) hT (kf _ (if_neg z))
theorem x_isKnownB {t : List Nat} {n m : Nat} {d : Dr} {M : Mem} {Q : Bool → Mem → Prop} (hT : TK t n M) (hD : XDr d m M) (hn : rnb d ≤ 5) (hok : ∀ b, b < rnb d → okw (rnm d (6 + b)))
    (kf : ∀ f, cNm t n = some f → ∀ M', Fr2 [c_tape] M M' → M'.1 c_tape Tape_fault = nI f → Q false M')
    (kn : cNm t n = none → fB d (kW t n) = none → ∀ M', Fr2 [c_tape, c_reader] M M' → M'.1 c_tape Tape_fault = nI (er t n 2) → Q false M')
    (ko : cNm t n = none → ∀ p, fB d (kW t n) = some p → Q true (si M c_reader Rd_found (nI p))) : w_Rd_isKnown_reader_birdNames (nI (rnb d)) M Q := by
  unfold w_Rd_isKnown_reader_birdNames
  refine x_isName hT ⟨fun z => ?_, fun z => ?_⟩
  · have z := of_decide_eq_true z
    have e0 : cNm t n = none := if_pos z
    refine x_indexOfB (f := fun b => rnm d (6 + b)) hT z.1 hn (fun p hp => ⟨(hD.2.2.2.1 p hp).2, hok p hp⟩) ?_
    cases e : fnd (fun b => rnm d (6 + b)) (kW t n) (rnb d) with
    | none => exact ⟨fun y => absurd rfl y, fun _ => x_fail (a := 2) (hT.fr (fr2_si (L := [c_reader]) (by decide)) (by decide)) (fun M' a b => ⟨false, rfl, kn e0 e M' ((fr2_si (by decide)).trans (a.mono (by decide))) b⟩)⟩
    | some p =>
      have hp := fB_lt hn p e
      exact ⟨fun _ => ko e0 p e, fun y => absurd y (ni_m1 hp)⟩
  · have z := of_decide_eq_false z
    exact x_fail (a := 1) hT (kf _ (if_neg z))
theorem x_takeKw2 {t : List Nat} {n q : Nat} {M : Mem} {Q : Bool → Mem → Prop} (hT : TK t n M) (hq : q < 24) (kf : ∀ f, cKw t q n = some f → ∀ M', Fr2 [c_tape] M M' → M'.1 c_tape Tape_fault = nI f → Q false M') (ko : cKw t q n = none → ∀ M', Fr2 [c_tape] M M' → TK t (n + 1) M' → Q true M') : w_Rd_takeKeyword (nI q) M Q := by
  refine x_takeKw hT hq ?_
  cases e : cKw t q n with
  | none => exact ko e
  | some f => exact kf f e
theorem x_takeEnd2 {t : List Nat} {n : Nat} {M : Mem} {Q : Bool → Mem → Prop} (hT : TK t n M) (kf : ∀ f, cSg t 59 n = some f → ∀ M', Fr2 [c_tape] M M' → M'.1 c_tape Tape_fault = nI f → Q false M') (ko : cSg t 59 n = none → ∀ M', Fr2 [c_tape] M M' → TK t (n + 1) M' → Q true M') : w_Rd_takeEnd M Q := by
  refine x_takeEnd hT ?_
  cases e : cSg t 59 n with
  | none => exact ko e
  | some f => exact kf f e
theorem x_isNum2 {t : List Nat} {n lo hi : Nat} {M : Mem} {Q : Bool → Mem → Prop} (hT : TK t n M) (hlo : lo < 2 ^ 31) (hhi : hi < 2 ^ 31) (kf : ∀ f, cNum t lo hi n = some f → ∀ M', Fr2 [c_tape] M M' → M'.1 c_tape Tape_fault = nI f → Q false M') (ko : cNum t lo hi n = none → ∀ M', Fr2 [c_tape] M M' → TK t n M' → Q true M') : w_Rd_isNumber (nI lo) (nI hi) M Q := by
  refine x_isNum hT hlo hhi ?_
  cases e : cNum t lo hi n with
  | none => exact ko e
  | some f => exact kf f e
theorem num_ne0 {t : List Nat} {n : Nat} (h : kS t n = 2) : kS t n ≠ 0 := by rw [h]; decide
theorem x_takeCell {t : List Nat} {n m : Nat} {d : Dr} {M : Mem} {Q : Bool → Mem → Prop} (hT : TK t n M) (hD : XDr d m M) (hg : GDr d)
    (k1 : ∀ f, cNum t 0 (rwide d - 1) n = some f → ∀ M', Fr2 [c_tape] M M' → M'.1 c_tape Tape_fault = nI f → Q false M')
    (k2 : cNum t 0 (rwide d - 1) n = none → ∀ f, cNum t 0 (rdeep d - 1) (n + 1) = some f → ∀ M', Fr2 [c_tape] M M' → M'.1 c_tape Tape_fault = nI f → Q false M')
    (ko : cNum t 0 (rwide d - 1) n = none → cNum t 0 (rdeep d - 1) (n + 1) = none → ∀ M', Fr2 [c_tape, c_reader] M M' → XDr d m M' → M'.1 c_reader Rd_cell = nI (kV t (n + 1) * 8 + kV t n) → TK t (n + 2) M' → Q true M') : w_Rd_takeCell M Q := by
  unfold w_Rd_takeCell
  have hw := hg.1.1
  have hh := hg.1.2.1
  rw [hD.1.1, show nI (rwide d) - 1 = nI (rwide d - 1) from pk_sub (b := 1) (by omega)]
  refine x_isNum2 (lo := 0) hT (by decide) (by omega) (fun f e M1 a b => gF (k1 f e M1 a b)) (fun e M1 a hT1 => gT ?_)
  have n1 := cNum_n e
  refine x_step hT1 (num_ne0 n1.1) (fun M2 a2 hT2 => ?_)
  have hD2 := (hD.tp a).tp a2
  rw [hD2.1.2.1, show nI (rdeep d) - 1 = nI (rdeep d - 1) from pk_sub (b := 1) (by omega)]
  refine x_isNum2 (lo := 0) hT2 (by decide) (by omega) (fun f e2 M3 a3 b => gF (k2 e f e2 M3 ((a.trans a2).trans a3) b)) (fun e2 M3 a3 hT3 => gT ?_)
  have n2 := cNum_n e2
  rw [hT3.num n2.1, hT1.num n1.1]
  have ec : nI (kV t (n + 1)) * 8 + nI (kV t n) = nI (kV t (n + 1) * 8 + kV t n) := by simp only [fa_lit, pk_mul, nI_add]
  rw [ec]
  have hD4 := (hD2.tp a3).rd (j := Rd_cell) (v := nI (kV t (n + 1) * 8 + kV t n)) (by decide) (by decide) (by decide)
  refine x_step (hT3.fr (fr2_si (L := [c_reader]) (by decide)) (by decide)) (num_ne0 n2.1) (fun M5 a5 hT5 => ko e e2 M5 ?_ (hD4.tp a5) ?_ hT5)
  · exact ((((a.trans a2).trans a3).mono (by decide)).trans (fr2_si (by decide))).trans (a5.mono (by decide))
  · rw [(a5 c_reader (by decide)).1, si_at]
theorem x_endB {t : List Nat} {n m : Nat} {d : Dr} {M0 M : Mem} {Q : Bool → Mem → Prop} (hF : Fr2 RDL M0 M) (hT : TK t n M) (hD : XDr d m M) (hm : m ≤ n + 1) (k : XRes t (chk (cSg t 59 n) (.inr (n + 1, d))) M0 Q) : w_Rd_takeEnd M (fun b58 M57 => (∃ bb : Bool, (if b58 = true then (1 : Int32) else 0) = b2i bb ∧ Q bb M57)) := by
  refine x_takeEnd2 hT (fun f e M1 a b => ⟨false, rfl, ?_⟩) (fun e M1 a hT1 => ⟨true, rfl, ?_⟩)
  · rw [e] at k; exact k M1 (hF.trans (tpF a)) b
  · rw [e] at k; exact k M1 (hF.trans (tpF a)) hT1 ((hD.tp a).up hm)
theorem x_endC {t : List Nat} {n m : Nat} {d : Dr} {M0 M : Mem} {Q : Bool → Mem → Prop} (hF : Fr2 RDL M0 M) (hT : TK t n M) (hD : XDr d m M) (hm : m ≤ n + 1) (k : XRes t (chk (cSg t 59 n) (.inr (n + 1, d))) M0 Q) : w_Rd_takeEnd M (fun b58 M57 => Q b58 M57) := by
  refine x_takeEnd2 hT (fun f e M1 a b => ?_) (fun e M1 a hT1 => ?_)
  · rw [e] at k; exact k M1 (hF.trans (tpF a)) b
  · rw [e] at k; exact k M1 (hF.trans (tpF a)) hT1 ((hD.tp a).up hm)
theorem x_readHear {t : List Nat} {n : Nat} {d : Dr} {M : Mem} {Q : Bool → Mem → Prop} (hT : TK t n M) (h0 : kS t n ≠ 0) (hD : XDr d n M) (k : XRes t (aHear t n d) M Q) : w_Rd_readHear M Q := by
  unfold aHear at k
  unfold w_Rd_readHear
  rw [hD.2.1.2.2]
  refine ⟨fun z => ?_, fun z => ?_⟩
  · have z : ¬ rht d = true := fun y => by rw [y] at z; exact absurd z (by decide)
    rw [if_neg z] at k
    have hT1 := hT.fr (M' := si M c_reader Rd_hearIsTold 1) (fr2_si (L := [c_reader]) (by decide)) (by decide)
    have hD1 := hD.uHt
    have hF1 : Fr2 RDL M (si M c_reader Rd_hearIsTold 1) := fr2_si (by decide)
    generalize si M c_reader Rd_hearIsTold 1 = M1 at hT1 hD1 hF1
    refine x_step hT1 h0 (fun M2 a2 hT2 => ?_)
    refine x_isNum2 (lo := 0) (hi := 14) hT2 (by decide) (by decide) (fun f e M3 a3 b => gF ?_) (fun e M3 a3 hT3 => gT ?_)
    · rw [e] at k; exact k M3 ((hF1.trans (tpF a2)).trans (tpF a3)) b
    · have n1 := cNum_n e
      rw [e] at k
      rw [hT3.num n1.1]
      have hD4 := ((hD1.tp a2).tp a3).uHear (v := kV t (n + 1))
      have hF4 : Fr2 RDL M (si M3 c_draft Land_hear (nI (kV t (n + 1)))) := ((hF1.trans (tpF a2)).trans (tpF a3)).trans (fr2_si (by decide))
      refine x_step (hT3.fr (fr2_si (L := [c_draft]) (by decide)) (by decide)) (num_ne0 n1.1) (fun M5 a5 hT5 => fT ?_)
      exact x_endB (hF4.trans (tpF a5)) hT5 (hD4.tp a5) (by omega) k
  · have z : rht d = true := by
      cases e : rht d with
      | true => rfl
      | false => rw [e] at z; exact absurd rfl z
    rw [if_pos z] at k
    exact x_fail (a := 3) hT (fun M1 a b => k M1 (tpF a) b)
theorem x_readGo {t : List Nat} {n : Nat} {d : Dr} {M : Mem} {Q : Bool → Mem → Prop} (hT : TK t n M) (h0 : kS t n ≠ 0) (hD : XDr d n M) (hg : GDr d) (k : XRes t (aGo t n d) M Q) : w_Rd_readGo M Q := by
  have hgo := hg.1.2.2.2.2.2.1
  have hnp := hg.1.2.2.1
  unfold aGo at k
  unfold w_Rd_readGo
  rw [hD.2.1.1]
  refine br_lt (b := 20) (by omega) (by decide) (fun c => ?_) (fun c => ?_)
  · rw [if_neg (by omega)] at k
    rw [nI_1]
    have hT1 := hT.fr (M' := si M c_reader Rd_goCount (nI (rgo d + 1))) (fr2_si (L := [c_reader]) (by decide)) (by decide)
    have hD1 := hD.uGo
    have hF1 : Fr2 RDL M (si M c_reader Rd_goCount (nI (rgo d + 1))) := fr2_si (by decide)
    generalize si M c_reader Rd_goCount (nI (rgo d + 1)) = M1 at hT1 hD1 hF1
    refine x_step hT1 h0 (fun M2 a2 hT2 => ?_)
    have hD2 := hD1.tp a2
    have hF2 := hF1.trans (tpF a2)
    rw [hD2.1.2.2.1]
    refine x_isKnown hT2 hD2 hnp (fun p hp => (hg.2.1 p hp).2.2.1) (fun f e M3 a b => gF ?_) (fun e e2 M3 a b => gF ?_) (fun e p e2 => gT ?_)
    · rw [e] at k; exact k M3 (hF2.trans (tpF a)) b
    · have e2 : fP d (kW t (n + 1)) = none := e2
      rw [e, e2] at k; exact k M3 (hF2.trans (a.mono (by decide))) b
    have e2 : fP d (kW t (n + 1)) = some p := e2
    have hp := (fnd_s e2).1
    rw [e, e2] at k
    dsimp only at k
    have hT3 := hT2.fr (M' := si M2 c_reader Rd_found (nI p)) (fr2_si (L := [c_reader]) (by decide)) (by decide)
    have hD3 := hD2.rd (j := Rd_found) (v := nI p) (by decide) (by decide) (by decide)
    have hF3 : Fr2 RDL M (si M2 c_reader Rd_found (nI p)) := hF2.trans (fr2_si (by decide))
    have ef : (si M2 c_reader Rd_found (nI p)).1 c_reader Rd_found = nI p := si_at
    rw [ef]
    generalize si M2 c_reader Rd_found (nI p) = M3 at hT3 hD3 hF3
    refine x_step hT3 (by rw [(cNm_n e).1]; decide) (fun M4 a4 hT4 => ?_)
    have hD4 := hD3.tp a4
    have hF4 := hF3.trans (tpF a4)
    refine x_takeKw2 (q := 5) hT4 (by decide) (fun f e3 M5 a b => fF ?_) (fun e3 M5 a5 hT5 => fT ?_)
    · rw [e3] at k; exact k M5 (hF4.trans (tpF a)) b
    rw [e3] at k
    have hD5 := hD4.tp a5
    have hF5 := hF4.trans (tpF a5)
    refine x_isNum2 (lo := 1) (hi := 23) hT5 (by decide) (by decide) (fun f e4 M6 a b => gF ?_) (fun e4 M6 a6 hT6 => gT ?_)
    · rw [e4] at k; exact k M6 (hF5.trans (tpF a)) b
    rw [e4] at k
    have n4 : kS t (n + 3) = 2 ∧ 1 ≤ kV t (n + 3) ∧ kV t (n + 3) ≤ 23 := cNum_n e4
    have hD6 := hD5.tp a6
    have hF6 := hF5.trans (tpF a6)
    intro x ex
    have ex : x = nI (p * 24 + kV t (n + 3)) := by rw [ex, hT6.num n4.1]; simp only [fa_lit, pk_mul, nI_add]
    subst ex
    have e6 : M6.1 c_reader_goes (p * 24 + kV t (n + 3)) = oI (rgoes d (p * 24 + kV t (n + 3))) := hD6.2.2.2.2.1 _ (by omega)
    rw [nI_clamp (by omega), e6, oI_n (fun j hj => by have := hg.2.2.2.1 _ j hj; omega)]
    refine ⟨vp_in_nI (by omega) (by decide), fun c2 => ?_, fun c2 => ?_⟩
    · rw [if_neg (fun y => y c2)] at k
      refine x_step hT6 (num_ne0 n4.1) (fun M7 a7 hT7 => ?_)
      have hD7 := hD6.tp a7
      have hF7 := hF6.trans (tpF a7)
      refine x_takeKw2 (q := 2) hT7 (by decide) (fun f e5 M8 a b => fF ?_) (fun e5 M8 a8 hT8 => fT ?_)
      · rw [e5] at k; exact k M8 (hF7.trans (tpF a)) b
      rw [e5] at k
      have hD8 := hD7.tp a8
      have hF8 := hF7.trans (tpF a8)
      have hg1 : GDr (uGo d) := ⟨⟨hg.1.1, hg.1.2.1, hg.1.2.2.1, hg.1.2.2.2.1, hg.1.2.2.2.2.1, by show rgo d + 1 ≤ 20; omega, hg.1.2.2.2.2.2.2⟩, hg.2⟩
      refine x_takeCell hT8 hD8 hg1 (fun f e7 M9 a b => gF ?_) (fun e7 f e8 M9 a b => gF ?_) (fun e7 e8 M9 a9 hD9 hc hT9 => gT ?_)
      · have e7 : cNum t 0 (rwide d - 1) (n + 5) = some f := e7
        rw [e7] at k; exact k M9 (hF8.trans (tpF a)) b
      · have e7 : cNum t 0 (rwide d - 1) (n + 5) = none := e7
        have e8 : cNum t 0 (rdeep d - 1) (n + 6) = some f := e8
        rw [e7, e8] at k; exact k M9 (hF8.trans (tpF a)) b
      · have e7 : cNum t 0 (rwide d - 1) (n + 5) = none := e7
        have e8 : cNum t 0 (rdeep d - 1) (n + 6) = none := e8
        rw [e7, e8] at k
        refine ⟨vp_in_nI (by omega) (by decide), ?_⟩
        rw [hc]
        have hF9 := hF8.trans (a9.mono (by decide))
        exact x_endC (hF9.trans (fr2_si (by decide))) (hT9.fr (fr2_si (L := [c_reader_goes]) (by decide)) (by decide)) (hD9.uGoes) (by omega) k
    · rw [if_pos c2] at k
      exact x_fail (a := 3) hT6 (fun M7 a b => k M7 (hF6.trans (tpF a)) b)
  · rw [if_pos (by omega)] at k
    exact x_fail (a := 5) hT (fun M1 a b => k M1 (tpF a) b)
