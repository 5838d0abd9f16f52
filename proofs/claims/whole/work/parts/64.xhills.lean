/-! the class's reader: the whole text -/
def walk (g : Nat → Option Nat) (p : Nat) : Nat → Nat
  | 0 => (g (p * 24)).getD 0
  | h + 1 => (g (p * 24 + (h + 1))).getD (walk g p h)
def hereI (g : Nat → Option Nat) (p : Nat) : Nat → Int32
  | 0 => 0
  | h + 1 => nI (walk g p h)
theorem walk_n {g : Nat → Option Nat} {p h : Nat} (e : g (p * 24 + h) = none) : nI (walk g p h) = hereI g p h := by
  match h, e with
  | 0, e => unfold walk hereI; rw [Nat.add_zero] at e; rw [e]; rfl
  | h + 1, e => unfold hereI; rw [walk, e]; rfl
theorem walk_s {g : Nat → Option Nat} {p h c : Nat} (e : g (p * 24 + h) = some c) : walk g p h = c := by
  match h, e with
  | 0, e => unfold walk; rw [Nat.add_zero] at e; rw [e]; rfl
  | h + 1, e => rw [walk, e]; rfl
theorem x_walkAll {d : Dr} {n : Nat} {M : Mem} {Q : Mem → Prop} (hD : XDr d n M) (hg : GDr d) (k : ∀ M', Fr [c_draft_place] M M' → (∀ p h, p < rnp d → h < 24 → M'.1 c_draft_place (p * 24 + h) = nI (walk (rgoes d) p h)) → Q M') : w_Rd_walkAll M Q := by
  have hnp := hg.1.2.2.1
  unfold w_Rd_walkAll
  refine for_loop (fun m p (M1 : Mem) => w_Rd_walkAll_L2 (fun M280 => Q M280) Q m (nI p) M1) (fun p M1 => Fr [c_draft_place] M M1 ∧ ∀ q h, q < p → h < 24 → M1.1 c_draft_place (q * 24 + h) = nI (walk (rgoes d) q h)) (rnp d) 0 M (Nat.zero_le _) ⟨Fr.rfl, fun q h hq => absurd hq (Nat.not_lt_zero q)⟩ ?_ ?_
  · intro m M1 ⟨hF, h1⟩
    unfold w_Rd_walkAll_L2
    rw [hF.1 c_draft (by decide), hD.1.2.2.1]
    exact br_le (by omega) (by omega) (fun _ => k M1 hF h1) (fun q => absurd q (by omega))
  · intro m p M1 _ hp ⟨hF, h1⟩ kk
    unfold w_Rd_walkAll_L2
    rw [hF.1 c_draft (by decide), hD.1.2.2.1, nI_1]
    refine br_le (by omega) (by omega) (fun q => absurd q (by omega)) (fun _ => ?_)
    refine for_loop (fun m2 h (M2 : Mem) => w_Rd_walkAll_L17 (nI p) (fun M278 => w_Rd_walkAll_L2 (fun M280 => Q M280) Q m (nI (p + 1)) M278) Q m2 (hereI (rgoes d) p h) (nI h) M2) (fun h M2 => Fr [c_draft_place] M M2 ∧ (∀ q z, q < p → z < 24 → M2.1 c_draft_place (q * 24 + z) = nI (walk (rgoes d) q z)) ∧ ∀ z, z < h → M2.1 c_draft_place (p * 24 + z) = nI (walk (rgoes d) p z)) 24 0 M1 (Nat.zero_le _) ⟨hF, h1, fun z hz => absurd hz (Nat.not_lt_zero z)⟩ ?_ ?_
    · intro m2 M2 ⟨g1, g2, g3⟩
      refine br_le (a := 24) (b := 24) (by decide) (by decide) (fun _ => kk M2 ⟨g1, fun q z hq hz => ?_⟩) (fun q => absurd q (by omega))
      by_cases e : q = p
      · subst e; exact g3 z hz
      · exact g2 q z (by omega) hz
    · intro m2 h M2 _ hh ⟨g1, g2, g3⟩ kk2
      have ei : nI p * 24 + nI h = nI (p * 24 + h) := by simp only [fa_lit, pk_mul, nI_add]
      have eg : M2.1 c_reader_goes (p * 24 + h) = oI (rgoes d (p * 24 + h)) := by rw [g1.1 c_reader_goes (by decide)]; exact hD.2.2.2.2.1 _ (by omega)
      unfold w_Rd_walkAll_L17
      rw [ei, nI_clamp (by omega), eg, nI_1, oI_n (fun j hj => by have := hg.2.2.2.1 _ j hj; omega)]
      have vi := vp_in_nI (n := p * 24 + h) (N := 144) (by omega) (by decide)
      have fin : ∀ v, v = nI (walk (rgoes d) p h) → Fr [c_draft_place] M (si M2 c_draft_place (p * 24 + h) v) ∧ (∀ q z, q < p → z < 24 → (si M2 c_draft_place (p * 24 + h) v).1 c_draft_place (q * 24 + z) = nI (walk (rgoes d) q z)) ∧ ∀ z, z < h + 1 → (si M2 c_draft_place (p * 24 + h) v).1 c_draft_place (p * 24 + z) = nI (walk (rgoes d) p z) := fun v hv => by
        refine ⟨g1.put _ _ _ (by decide), fun q z hq hz => ?_, fun z hz => ?_⟩
        · rw [si_of (by omega)]; exact g2 q z hq hz
        · by_cases e : z = h
          · subst e; rw [si_at]; exact hv
          · rw [si_of (by omega)]; exact g3 z (by omega)
      refine br_le (a := 24) (by decide) (by omega) (fun q => absurd q (by omega)) (fun _ => ⟨vi, fun c => ⟨vi, ?_⟩, fun c => ⟨vi, fun x ex => ⟨vi, ?_⟩⟩⟩)
      · have e := walk_n c
        have := kk2 _ (fin (hereI (rgoes d) p h) e.symm)
        have e3 : hereI (rgoes d) p (h + 1) = hereI (rgoes d) p h := e
        rw [e3] at this
        exact this
      · cases e : rgoes d (p * 24 + h) with
        | none => exact absurd e c
        | some cc =>
          have e2 := walk_s e
          have ex : x = nI (walk (rgoes d) p h) := by rw [ex, e, e2]; rfl
          subst ex
          exact kk2 _ (fin _ rfl)
/-! the draft made empty -/
theorem x_fillT {v : Int32} {M : Mem} {Q : Mem → Prop} (k : ∀ M', Fr [c_draft_times] M M' → (∀ i, i < 120 → M'.1 c_draft_times i = v) → Q M') : w_Jarr_fill v M Q := by
  unfold w_Jarr_fill
  refine for_loop (fun n i (M1 : Mem) => w_Jarr_fill_L5 v 120 (fun M384 => Q M384) Q n (nI i) M1) (fun i M1 => Fr [c_draft_times] M M1 ∧ ∀ j, j < i → M1.1 c_draft_times j = v) 120 0 M (Nat.zero_le _) ⟨Fr.rfl, fun j hj => absurd hj (Nat.not_lt_zero j)⟩ ?_ ?_
  · intro n M1 ⟨hF, hs⟩
    exact br_le (a := 120) (b := 120) (by decide) (by decide) (fun _ => k M1 hF hs) (fun q => absurd q (by omega))
  · intro n i M1 _ hi ⟨hF, hs⟩ kk
    refine br_le (a := 120) (by decide) (by omega) (fun q => absurd q (by omega)) (fun _ => ⟨vp_in_nI hi (by decide), ?_⟩)
    rw [nI_1, nI_clamp (by omega)]
    refine kk _ ⟨hF.put _ _ _ (by decide), fun j hj => ?_⟩
    rw [si_same]
    by_cases e : j = i
    · subst e; exact up_s
    · rw [up_n e]; exact hs j (by omega)
theorem x_holdO {cl : Nat} {x : Int32} {M : Mem} {Q : Mem → Prop} (hc : M.1 c_draft Land_codeLength = nI cl) (hl : cl < 1024) (k : ∀ M', Fr [c_draft_owe, c_draft, c_draft_code] M M' → (∀ j, j ≠ Land_codeLength → M'.1 c_draft j = M.1 c_draft j) → (∀ i, i < cl → M'.1 c_draft_code i = M.1 c_draft_code i) → M'.1 c_draft_code cl = x → M'.1 c_draft Land_codeLength = nI (cl + 1) → M'.1 c_draft_owe Law_isTold = 0 → M'.1 c_draft_owe Law_from = nI cl → M'.1 c_draft_owe Law_to = nI (cl + 1) → Q M') : w_Land_holdUntold x M Q := by
  unfold w_Land_holdUntold w_Land_addStep
  have e0 : (si (si M c_draft_owe Law_isTold 0) c_draft_owe Law_from (M.1 c_draft Land_codeLength)).1 c_draft Land_codeLength = nI cl := by
    rw [si_ne _ _ _ (by decide), si_ne _ _ _ (by decide)]; exact hc
  rw [e0]
  refine ⟨fun z => absurd z (ni_nneg (by omega)), fun _ => br_le (a := 1024) (by decide) (by omega) (fun z => absurd z (by omega)) (fun _ => ⟨vp_in_nI hl (by decide), ?_⟩)⟩
  rw [nI_clamp (by omega), nI_1, hc]
  refine k _ ((((((fr_si (by decide)).put _ _ _ (by decide)).put _ _ _ (by decide)).put _ _ _ (by decide)).put _ _ _ (by decide))) (fun j hj => ?_) (fun i hi => ?_) ?_ ?_ ?_ ?_ ?_
  · rw [si_ne _ _ _ (by decide), si_of hj, si_ne _ _ _ (by decide), si_ne _ _ _ (by decide), si_ne _ _ _ (by decide)]
  · rw [si_ne _ _ _ (by decide), si_ne _ _ _ (by decide), si_of (by omega), si_ne _ _ _ (by decide), si_ne _ _ _ (by decide)]
  · rw [si_ne _ _ _ (by decide), si_ne _ _ _ (by decide), si_at]
  · rw [si_ne _ _ _ (by decide), si_at]
  · rw [si_of (by decide), si_ne _ _ _ (by decide), si_ne _ _ _ (by decide), si_of (by decide), si_at]
  · rw [si_of (by decide), si_ne _ _ _ (by decide), si_ne _ _ _ (by decide), si_at]
  · rw [si_at, si_at]
theorem x_holdF {cl : Nat} {x : Int32} {M : Mem} {Q : Mem → Prop} (hc : M.1 c_draft Land_codeLength = nI cl) (hl : cl < 1024) (k : ∀ M', Fr [c_draft_fog, c_draft, c_draft_code] M M' → (∀ j, j ≠ Land_codeLength → M'.1 c_draft j = M.1 c_draft j) → (∀ i, i < cl → M'.1 c_draft_code i = M.1 c_draft_code i) → M'.1 c_draft_code cl = x → M'.1 c_draft Land_codeLength = nI (cl + 1) → M'.1 c_draft_fog Law_isTold = 0 → M'.1 c_draft_fog Law_from = nI cl → M'.1 c_draft_fog Law_to = nI (cl + 1) → Q M') : w_Land_holdUntold_draft_fog x M Q := by
  unfold w_Land_holdUntold_draft_fog w_Land_addStep
  have e0 : (si (si M c_draft_fog Law_isTold 0) c_draft_fog Law_from (M.1 c_draft Land_codeLength)).1 c_draft Land_codeLength = nI cl := by
    rw [si_ne _ _ _ (by decide), si_ne _ _ _ (by decide)]; exact hc
  rw [e0]
  refine ⟨fun z => absurd z (ni_nneg (by omega)), fun _ => br_le (a := 1024) (by decide) (by omega) (fun z => absurd z (by omega)) (fun _ => ⟨vp_in_nI hl (by decide), ?_⟩)⟩
  rw [nI_clamp (by omega), nI_1, hc]
  refine k _ ((((((fr_si (by decide)).put _ _ _ (by decide)).put _ _ _ (by decide)).put _ _ _ (by decide)).put _ _ _ (by decide))) (fun j hj => ?_) (fun i hi => ?_) ?_ ?_ ?_ ?_ ?_
  · rw [si_ne _ _ _ (by decide), si_of hj, si_ne _ _ _ (by decide), si_ne _ _ _ (by decide), si_ne _ _ _ (by decide)]
  · rw [si_ne _ _ _ (by decide), si_ne _ _ _ (by decide), si_of (by omega), si_ne _ _ _ (by decide), si_ne _ _ _ (by decide)]
  · rw [si_ne _ _ _ (by decide), si_ne _ _ _ (by decide), si_at]
  · rw [si_ne _ _ _ (by decide), si_at]
  · rw [si_of (by decide), si_ne _ _ _ (by decide), si_ne _ _ _ (by decide), si_of (by decide), si_at]
  · rw [si_of (by decide), si_ne _ _ _ (by decide), si_ne _ _ _ (by decide), si_at]
  · rw [si_at, si_at]
theorem x_clear {M : Mem} {Q : Mem → Prop} (k : ∀ M', Fr2 RDL M M' → M'.1 c_tape = M.1 c_tape → (M'.1 c_draft Land_wide = nI 2 ∧ M'.1 c_draft Land_deep = nI 2 ∧ M'.1 c_draft Land_people = nI 0 ∧ M'.1 c_draft Land_birds = nI 0 ∧ M'.1 c_draft Land_hear = nI 14) → (∀ i, i < 120 → M'.1 c_draft_times i = 0) → XLs (dr0 2 2) 0 M' → Q M') : w_Land_clear M Q := by
  unfold w_Land_clear
  have f0 : Fr2 RDL M (si (si (si (si (si M c_draft Land_wide 2) c_draft Land_deep 2) c_draft Land_people 0) c_draft Land_birds 0) c_draft Land_hear 14) := ((((fr2_si (by decide)).trans (fr2_si (by decide))).trans (fr2_si (by decide))).trans (fr2_si (by decide))).trans (fr2_si (by decide))
  have d0 : (si (si (si (si (si M c_draft Land_wide 2) c_draft Land_deep 2) c_draft Land_people 0) c_draft Land_birds 0) c_draft Land_hear 14).1 c_draft Land_wide = nI 2 ∧ (si (si (si (si (si M c_draft Land_wide 2) c_draft Land_deep 2) c_draft Land_people 0) c_draft Land_birds 0) c_draft Land_hear 14).1 c_draft Land_deep = nI 2 ∧ (si (si (si (si (si M c_draft Land_wide 2) c_draft Land_deep 2) c_draft Land_people 0) c_draft Land_birds 0) c_draft Land_hear 14).1 c_draft Land_people = nI 0 ∧ (si (si (si (si (si M c_draft Land_wide 2) c_draft Land_deep 2) c_draft Land_people 0) c_draft Land_birds 0) c_draft Land_hear 14).1 c_draft Land_birds = nI 0 ∧ (si (si (si (si (si M c_draft Land_wide 2) c_draft Land_deep 2) c_draft Land_people 0) c_draft Land_birds 0) c_draft Land_hear 14).1 c_draft Land_hear = nI 14 := by
    refine ⟨?_, ?_, ?_, ?_, ?_⟩
    · rw [si_of (by decide), si_of (by decide), si_of (by decide), si_of (by decide), si_at]; rfl
    · rw [si_of (by decide), si_of (by decide), si_of (by decide), si_at]; rfl
    · rw [si_of (by decide), si_of (by decide), si_at]; rfl
    · rw [si_of (by decide), si_at]; rfl
    · rw [si_at]; rfl
  have f0t : (si (si (si (si (si M c_draft Land_wide 2) c_draft Land_deep 2) c_draft Land_people 0) c_draft Land_birds 0) c_draft Land_hear 14).1 c_tape = M.1 c_tape := rfl
  generalize si (si (si (si (si M c_draft Land_wide 2) c_draft Land_deep 2) c_draft Land_people 0) c_draft Land_birds 0) c_draft Land_hear 14 = M0 at f0 d0 f0t
  refine x_fillT (fun M1 f1 t1 => ?_)
  refine x_holdO (cl := 0) si_at (by decide) (fun M2 f2 a2 b2 c2 l2 o1 o2 o3 => ?_)
  refine x_holdF (cl := 1) l2 (by decide) (fun M3 f3 a3 b3 c3 l3 p1 p2 p3 => ?_)
  have ed : ∀ j, j ≠ Land_codeLength → M3.1 c_draft j = M0.1 c_draft j := fun j hj => by
    rw [a3 j hj, a2 j hj, si_of hj, f1.1 c_draft (by decide)]
  have eo : M3.1 c_draft_owe = M2.1 c_draft_owe := f3.1 _ (by decide)
  refine k M3 (((f0.trans (f1.two.mono (by decide))).trans (fr2_si (by decide))).trans ((f2.two.mono (by decide)).trans (f3.two.mono (by decide)))) ?_ ⟨?_, ?_, ?_, ?_, ?_⟩ (fun i hi => ?_) ⟨2, l3, by decide, ⟨by rw [eo]; exact o1, 0, by rw [eo]; exact o2, by rw [eo]; exact o3, by decide, fun i hi => ?_⟩, ⟨p1, 1, p2, p3, by decide, fun i hi => ?_⟩⟩
  · rw [f3.1 c_tape (by decide), f2.1 c_tape (by decide), si_ne _ _ _ (by decide), f1.1 c_tape (by decide)]; exact f0t
  · rw [ed _ (by decide)]; exact d0.1
  · rw [ed _ (by decide)]; exact d0.2.1
  · rw [ed _ (by decide)]; exact d0.2.2.1
  · rw [ed _ (by decide)]; exact d0.2.2.2.1
  · rw [ed _ (by decide)]; exact d0.2.2.2.2
  · rw [f3.1 c_draft_times (by decide), f2.1 c_draft_times (by decide), si_ne _ _ _ (by decide)]; exact t1 i hi
  · have hi : i < 1 := hi
    have : i = 0 := by omega
    subst this
    rw [b3 _ (by decide)]; exact c2
  · have hi : i < 1 := hi
    have : i = 0 := by omega
    subst this
    exact c3
theorem x_readLine {t : List Nat} {n : Nat} {d : Dr} {M : Mem} {Q : Bool → Mem → Prop} (hT : TK t n M) (h0 : kS t n ≠ 0) (hD : XDr d n M) (hg : GDr d) (k : XRes t (aLine t n d) M Q) : w_Rd_readLine M Q := by
  unfold aLine at k
  have kq : ∀ q : Nat, q < 24 → M.1 c_tape Tape_keyword = nI q → kK t n = q := fun q hq e => (hT.kweq hq).mp e
  have bad : XRes t (.inl (er t n 1)) M Q → w_Tape_fail 1 M (fun b110 M109 => Q b110 M109) := fun k => x_fail (a := 1) hT (fun M1 a b => k M1 (tpF a) b)
  unfold w_Rd_readLine
  refine ⟨fun e => ?_, fun e => ?_, fun e => ?_, fun e => ?_, fun e => ?_, fun e => ?_, fun e => ?_, fun e => ?_, fun e => ?_, fun e => ?_, fun e => ?_, fun e1 e2 e3 e4 e5 e6 e7 e8 e9 e10 e11 => ?_⟩
  · rw [kq 1 (by decide) e] at k; exact x_readPerson hT h0 hD hg k
  · rw [kq 2 (by decide) e] at k; exact bad k
  · rw [kq 3 (by decide) e] at k; exact bad k
  · rw [kq 4 (by decide) e] at k; exact x_readGo hT h0 hD hg k
  · rw [kq 5 (by decide) e] at k; exact bad k
  · rw [kq 6 (by decide) e] at k; exact x_readBird hT h0 hD hg k
  · rw [kq 7 (by decide) e] at k; exact x_readCall hT h0 hD hg k
  · rw [kq 8 (by decide) e] at k; exact bad k
  · rw [kq 9 (by decide) e] at k; exact x_readLawO hT h0 hD k
  · rw [kq 10 (by decide) e] at k; exact x_readLawF hT h0 hD k
  · rw [kq 11 (by decide) e] at k; exact x_readHear hT h0 hD k
  · rw [if_neg (fun y => e1 ((hT.kweq (by decide)).mpr y)), if_neg (fun y => e4 ((hT.kweq (by decide)).mpr y)), if_neg (fun y => e6 ((hT.kweq (by decide)).mpr y)), if_neg (fun y => e7 ((hT.kweq (by decide)).mpr y)), if_neg (fun y => e9 ((hT.kweq (by decide)).mpr y)), if_neg (fun y => e10 ((hT.kweq (by decide)).mpr y)), if_neg (fun y => e11 ((hT.kweq (by decide)).mpr y))] at k
    exact bad k
def XEnd (R : Nat ⊕ Dr) (M : Mem) (Q : Int32 → Mem → Prop) : Prop := match R with
  | .inl f => ∀ M', Fr2 RDL M M' → Q (nI f) M'
  | .inr d => ∀ M' n, Fr2 RDL M M' → XDr d n M' → n ≤ 1000 → (∀ p h, p < rnp d → h < 24 → M'.1 c_draft_place (p * 24 + h) = nI (walk (rgoes d) p h)) → Q 0 M'
theorem x_j92 {t : List Nat} {n : Nat} {d : Dr} {M0 M : Mem} {Q : Int32 → Mem → Prop} (hF : Fr2 RDL M0 M) (hT : TK t n M) (hD : XDr d n M) (hg : GDr d) (k : XEnd (.inr d) M0 Q) : w_Rd_read_j92 M Q := by
  unfold w_Rd_read_j92
  exact x_walkAll hD hg (fun M1 a1 h1 => k M1 n (hF.trans (a1.two.mono (by decide))) (hD.fr a1.two (by decide)) hT.len h1)
theorem x_lines {t : List Nat} {M0 : Mem} {Q : Int32 → Mem → Prop} : ∀ (K i n : Nat) (d : Dr) (M : Mem), i + K = 1000 → Fr2 RDL M0 M → TK t n M → XDr d n M → GDr d → XEnd (aLines t K n d) M0 Q → w_Rd_read_L54 (fun M276 => w_Rd_read_j92 M276 Q) Q (K + 1) (nI i) M
  | 0, i, n, d, M, hi, hF, hT, hD, hg, k => by
    rw [aLines] at k
    exact br_le (a := 1000) (by decide) (by omega) (fun _ => x_j92 hF hT hD hg k) (fun z => absurd z (by omega))
  | K + 1, i, n, d, M, hi, hF, hT, hD, hg, k => by
    rw [aLines] at k
    refine br_le (a := 1000) (by decide) (by omega) (fun z => absurd z (by omega)) (fun _ => ⟨fun z => ?_, fun z => ?_⟩)
    · rw [if_pos (hT.soeq.1.mp z)] at k
      exact x_j92 hF hT hD hg k
    · have z : kS t n ≠ 0 := fun y => z (hT.soeq.1.mpr y)
      rw [if_neg z] at k
      refine x_readLine hT z hD hg ?_
      cases e : aLine t n d with
      | inl f =>
        rw [e] at k
        intro M1 a b
        exact gF (by rw [b]; exact k M1 (hF.trans a))
      | inr x =>
        rw [e] at k
        intro M1 a hT1 hD1
        refine gT ?_
        rw [nI_1]
        exact x_lines K (i + 1) x.1 x.2 M1 (by omega) (hF.trans a) hT1 hD1 (hg.line e).1 k
theorem x_read {t : List Nat} {M : Mem} {Q : Int32 → Mem → Prop} (hp : XTp t M) (hK : XK M) (k : XEnd (aAll t) M Q) : w_Rd_read M Q := by
  unfold aAll at k
  unfold w_Rd_read
  refine x_clear (fun M1 f1 f1t d1 t1 l1 => x_fill_reader_goes (fun M2 f2 g2 => ?_))
  have fa : Fr2 [c_reader, c_tape] M2 (si (si (si (si M2 c_reader Rd_goCount 0) c_reader Rd_callCount 0) c_reader Rd_hearIsTold 0) c_tape Tape_next 0) := (((fr2_si (by decide)).trans (fr2_si (by decide))).trans (fr2_si (by decide))).trans (fr2_si (by decide))
  have c3 : (si (si (si (si M2 c_reader Rd_goCount 0) c_reader Rd_callCount 0) c_reader Rd_hearIsTold 0) c_tape Tape_next 0).1 c_reader Rd_goCount = nI 0 ∧ (si (si (si (si M2 c_reader Rd_goCount 0) c_reader Rd_callCount 0) c_reader Rd_hearIsTold 0) c_tape Tape_next 0).1 c_reader Rd_callCount = nI 0 ∧ (si (si (si (si M2 c_reader Rd_goCount 0) c_reader Rd_callCount 0) c_reader Rd_hearIsTold 0) c_tape Tape_next 0).1 c_reader Rd_hearIsTold = b2i false := by
    refine ⟨?_, ?_, ?_⟩
    · rw [si_ne _ _ _ (by decide), si_of (by decide), si_of (by decide), si_at]; rfl
    · rw [si_ne _ _ _ (by decide), si_of (by decide), si_at]; rfl
    · rw [si_ne _ _ _ (by decide), si_at]; rfl
  have n3 : (si (si (si (si M2 c_reader Rd_goCount 0) c_reader Rd_callCount 0) c_reader Rd_hearIsTold 0) c_tape Tape_next 0).1 c_tape Tape_next = nI 0 := si_at
  have tl : (si (si (si (si M2 c_reader Rd_goCount 0) c_reader Rd_callCount 0) c_reader Rd_hearIsTold 0) c_tape Tape_next 0).1 c_tape Tape_length = M2.1 c_tape Tape_length := by
    rw [si_of (by decide), si_ne _ _ _ (by decide), si_ne _ _ _ (by decide), si_ne _ _ _ (by decide)]
  unfold w_Tape_rewind
  generalize si (si (si (si M2 c_reader Rd_goCount 0) c_reader Rd_callCount 0) c_reader Rd_hearIsTold 0) c_tape Tape_next 0 = M3 at fa c3 n3 tl
  have hF3 : Fr2 RDL M M3 := (f1.trans (f2.two.mono (by decide))).trans (fa.mono (by decide))
  have tl1 : M1.1 c_tape Tape_length = M.1 c_tape Tape_length := by rw [f1t]
  have hp3 : XTp t M3 := hp.ct (by rw [tl, f2.1 c_tape (by decide)]; exact tl1) (hF3 c_tape_signs (by decide)).1
  have hK3 : XK M3 := by unfold XK; rw [(hF3 c_tape_keywords (by decide)).2]; exact hK
  have hD3 : XDr (dr0 2 2) 0 M3 := by
    have e : ∀ kk, kk ∉ [c_reader, c_tape] → kk ∉ [c_reader_goes] → M3.1 kk = M1.1 kk := fun kk h1 h2 => by rw [(fa kk h1).1, f2.1 kk h2]
    refine ⟨?_, c3, fun p hp => absurd hp (Nat.not_lt_zero p), fun p hp => absurd hp (Nat.not_lt_zero p), fun i hi => ?_, fun i hi => ?_, ?_⟩
    · rw [e c_draft (by decide) (by decide)]; exact d1
    · rw [(fa c_reader_goes (by decide)).1]; exact g2 i hi
    · rw [e c_draft_times (by decide) (by decide)]; exact t1 i hi
    · unfold XLs XLw at l1 ⊢
      rw [e c_draft (by decide) (by decide), e c_draft_owe (by decide) (by decide), e c_draft_fog (by decide) (by decide), e c_draft_code (by decide) (by decide)]
      exact l1
  refine x_stepI hp3 hK3 (Nat.zero_le _) n3 (fun M4 a4 hp4 hI4 => ?_)
  have hT4 : TK t 0 M4 := ⟨hp4, hK3.two a4, Rch.z, hI4⟩
  have hD4 := hD3.tp a4
  have hF4 := hF3.trans (tpF a4)
  unfold w_Rd_readHills
  refine x_takeKw2 (q := 0) hT4 (by decide) (fun f e M5 a b => fF (gF ?_)) (fun e M5 a5 hT5 => fT ?_)
  · rw [e] at k; rw [b]; exact k M5 (hF4.trans (tpF a))
  rw [e] at k
  refine x_isNum2 (lo := 2) (hi := 8) hT5 (by decide) (by decide) (fun f e2 M6 a b => gF (gF ?_)) (fun e2 M6 a6 hT6 => gT ?_)
  · have e2 : cNum t 2 8 1 = some f := e2
    rw [e2] at k; rw [b]; exact k M6 ((hF4.trans (tpF a5)).trans (tpF a))
  have e2 : cNum t 2 8 1 = none := e2
  rw [e2] at k
  have n2 := cNum_n e2
  have hD6 := (hD4.tp a5).tp a6
  have env : M6.1 c_tape Tape_number = nI (kV t 1) := hT6.num n2.1
  rw [env]
  have hD7 : XDr (dr0 (kV t 1) 2) 0 (si M6 c_draft Land_wide (nI (kV t 1))) := by
    obtain ⟨⟨b1, b2, b3, b4, b5⟩, g2, g3, g4, g5, g6, cl, g7, g8⟩ := hD6
    refine ⟨⟨si_at, ?_, ?_, ?_, ?_⟩, g2, g3, g4, g5, g6, cl, ?_, g8⟩
    · rw [si_of (by decide)]; exact b2
    · rw [si_of (by decide)]; exact b3
    · rw [si_of (by decide)]; exact b4
    · rw [si_of (by decide)]; exact b5
    · rw [si_of (by decide)]; exact g7
  have hF7 : Fr2 RDL M (si M6 c_draft Land_wide (nI (kV t 1))) := ((hF4.trans (tpF a5)).trans (tpF a6)).trans (fr2_si (by decide))
  refine x_step (hT6.fr (fr2_si (L := [c_draft]) (by decide)) (by decide)) (num_ne0 n2.1) (fun M8 a8 hT8 => ?_)
  have hD8 := hD7.tp a8
  have hF8 := hF7.trans (tpF a8)
  refine x_isNum2 (lo := 2) (hi := 8) hT8 (by decide) (by decide) (fun f e3 M9 a b => gF (gF ?_)) (fun e3 M9 a9 hT9 => gT ?_)
  · have e3 : cNum t 2 8 2 = some f := e3
    rw [e3] at k; rw [b]; exact k M9 (hF8.trans (tpF a))
  have e3 : cNum t 2 8 2 = none := e3
  rw [e3] at k
  have n3 := cNum_n e3
  have env : M9.1 c_tape Tape_number = nI (kV t 2) := hT9.num n3.1
  rw [env]
  have hDa : XDr (dr0 (kV t 1) (kV t 2)) 0 (si M9 c_draft Land_deep (nI (kV t 2))) := by
    obtain ⟨⟨b1, b2, b3, b4, b5⟩, g2, g3, g4, g5, g6, cl, g7, g8⟩ := hD8.tp a9
    refine ⟨⟨?_, si_at, ?_, ?_, ?_⟩, g2, g3, g4, g5, g6, cl, ?_, g8⟩
    · rw [si_of (by decide)]; exact b1
    · rw [si_of (by decide)]; exact b3
    · rw [si_of (by decide)]; exact b4
    · rw [si_of (by decide)]; exact b5
    · rw [si_of (by decide)]; exact g7
  have hFa : Fr2 RDL M (si M9 c_draft Land_deep (nI (kV t 2))) := (hF8.trans (tpF a9)).trans (fr2_si (by decide))
  refine x_step (hT9.fr (fr2_si (L := [c_draft]) (by decide)) (by decide)) (num_ne0 n3.1) (fun Mb ab hTb => fT ?_)
  have hDb := hDa.tp ab
  have hFb := hFa.trans (tpF ab)
  refine x_takeEnd2 hTb (fun f e4 Mc a b => ⟨false, rfl, gF ?_⟩) (fun e4 Mc ac hTc => ⟨true, rfl, gT ⟨1001, ?_⟩⟩)
  · have e4 : cSg t 59 3 = some f := e4
    rw [e4] at k; rw [b]; exact k Mc (hFb.trans (tpF a))
  · have e4 : cSg t 59 3 = none := e4
    rw [e4] at k
    exact x_lines 1000 0 4 _ Mc (by decide) (hFb.trans (tpF ac)) hTc ((hDb.tp ac).up (Nat.zero_le _)) (GDr.z n2.2 n3.2) k
