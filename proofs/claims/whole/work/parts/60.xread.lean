/-! the class's reader: small steps -/
def TK (t : List Nat) (n : Nat) (M : Mem) : Prop := XTp t M ∧ XK M ∧ Rch t n ∧ TI t (pos t n) M
theorem TK.tok {t : List Nat} {n : Nat} {M : Mem} (h : TK t n M) : M.1 c_tape Tape_token = ctok (kS t n) (kC t n) := h.2.2.2.2.2.1
theorem TK.kw {t : List Nat} {n : Nat} {M : Mem} (h : TK t n M) : M.1 c_tape Tape_keyword = ckw (kK t n) := h.2.2.2.2.2.2.1
theorem TK.word {t : List Nat} {n : Nat} {M : Mem} (h : TK t n M) (hs : kS t n = 1) : M.2 c_tape Tape_word = lN (w5 (kW t n)) := h.2.2.2.2.2.2.2.1 hs
theorem TK.num {t : List Nat} {n : Nat} {M : Mem} (h : TK t n M) (hs : kS t n = 2) : M.1 c_tape Tape_number = nI (kV t n) := h.2.2.2.2.2.2.2.2 hs
theorem TK.plc {t : List Nat} {n : Nat} {M : Mem} (h : TK t n M) : M.1 c_tape Tape_place = nI (kP t n) := h.2.2.2.2.1
theorem TK.fr {t : List Nat} {n : Nat} {M M' : Mem} {L : List Nat} (h : TK t n M) (hF : Fr2 L M M') (hd : ∀ k ∈ [c_tape, c_tape_signs, c_tape_keywords], k ∉ L) : TK t n M' := by
  obtain ⟨h1, h2, h3, h4⟩ := h
  have e1 := hF c_tape (hd _ (by decide))
  have e2 := hF c_tape_signs (hd _ (by decide))
  have e3 := hF c_tape_keywords (hd _ (by decide))
  refine ⟨h1.ct (by rw [e1.1]) e2.1, ?_, h3, ?_⟩
  · unfold XK; rw [e3.2]; exact h2
  · unfold TI; rw [e1.1, e1.2]; exact h4
theorem TK.len {t : List Nat} {n : Nat} {M : Mem} (h : TK t n M) : n ≤ 1000 := Nat.le_trans h.2.2.1.len h.1.2.1
theorem x_step {t : List Nat} {n : Nat} {M : Mem} {Q : Bool → Mem → Prop} (hT : TK t n M) (h0 : kS t n ≠ 0) (k : ∀ M', Fr2 [c_tape] M M' → TK t (n + 1) M' → Q true M') : w_Tape_step M Q :=
  x_stepI hT.1 hT.2.1 (pos_le (n + 1)) hT.2.2.2.1 (fun M' a b c => k M' a ⟨b, hT.2.1.two a, hT.2.2.1.s h0, c⟩)
theorem x_fail {t : List Nat} {n a : Nat} {M : Mem} {Q : Bool → Mem → Prop} (hT : TK t n M) (k : ∀ M', Fr2 [c_tape] M M' → M'.1 c_tape Tape_fault = nI (er t n a) → Q false M') : w_Tape_fail (nI a) M Q := by
  unfold w_Tape_fail
  refine k _ (fr2_si (by decide)) ?_
  rw [si_at, hT.plc]
  unfold er
  simp only [fa_lit, pk_mul, nI_add]
def PC (t : List Nat) (o : Option Nat) (n : Nat) (M : Mem) (Q : Bool → Mem → Prop) : Prop := match o with
  | some f => ∀ M', Fr2 [c_tape] M M' → M'.1 c_tape Tape_fault = nI f → Q false M'
  | none => ∀ M', Fr2 [c_tape] M M' → TK t n M' → Q true M'
theorem ckw_eq {k q : Nat} (hk : k ≤ 24) (hq : q < 24) : ckw k = nI q ↔ k = q := by
  unfold ckw
  by_cases c : k < 24
  · rw [if_pos c, nI_eq (by omega) (by omega)]
  · rw [if_neg c]
    exact ⟨fun z => absurd z (ni_m1' (by omega)), fun z => by omega⟩
theorem kK_le {t : List Nat} {n : Nat} : kK t n ≤ 24 := by
  unfold kK; split
  · exact kwI_le
  · exact Nat.le_refl _
theorem kK_ne0 {t : List Nat} {n q : Nat} (h : kK t n = q) (hq : q < 24) : kS t n ≠ 0 := by rw [kK_lt (by omega)]; decide
theorem TK.kweq {t : List Nat} {n q : Nat} {M : Mem} (h : TK t n M) (hq : q < 24) : M.1 c_tape Tape_keyword = nI q ↔ kK t n = q := by rw [h.kw, ckw_eq kK_le hq]
theorem TK.chr {t : List Nat} {n : Nat} {M : Mem} (h : TK t n M) (hs : kS t n ≠ 0) : kC t n = 10 ∨ 32 ≤ kC t n ∧ kC t n ≤ 126 := (h.1.2.2 (kP t n) (kS_pos hs).1).2
theorem TK.sgeq {t : List Nat} {n c : Nat} {M : Mem} (h : TK t n M) (hc : 4 ≤ c) (hc2 : c < 127) : M.1 c_tape Tape_token = nI c ↔ kS t n = 3 ∧ kC t n = c := by
  rw [h.tok]
  unfold ctok
  by_cases s0 : kS t n = 0
  · rw [if_pos s0, show (0 : Int32) = nI 0 from rfl, nI_eq (by decide) (by omega)]
    exact ⟨fun z => by omega, fun z => by omega⟩
  · rw [if_neg s0]
    have hch := h.chr s0
    by_cases s1 : kS t n = 1
    · rw [if_pos s1, show (2 : Int32) = nI 2 from rfl, nI_eq (by decide) (by omega)]
      exact ⟨fun z => by omega, fun z => by omega⟩
    · rw [if_neg s1]
      by_cases s2 : kS t n = 2
      · rw [if_pos s2, show (3 : Int32) = nI 3 from rfl, nI_eq (by decide) (by omega)]
        exact ⟨fun z => by omega, fun z => by omega⟩
      · rw [if_neg s2]
        by_cases s3 : kS t n = 3
        · rw [if_pos s3, nI_eq (by omega) (by omega)]
          exact ⟨fun z => ⟨s3, z⟩, fun z => z.2⟩
        · rw [if_neg s3, show (1 : Int32) = nI 1 from rfl, nI_eq (by decide) (by omega)]
          exact ⟨fun z => by omega, fun z => absurd z.1 s3⟩
theorem TK.soeq {t : List Nat} {n : Nat} {M : Mem} (h : TK t n M) : (M.1 c_tape Tape_token = 0 ↔ kS t n = 0) ∧ (M.1 c_tape Tape_token = 2 ↔ kS t n = 1) ∧ (M.1 c_tape Tape_token = 3 ↔ kS t n = 2) := by
  rw [h.tok]
  unfold ctok
  by_cases s0 : kS t n = 0
  · rw [if_pos s0, s0]; decide
  · rw [if_neg s0]
    have hch := h.chr s0
    by_cases s1 : kS t n = 1
    · rw [if_pos s1, s1]; decide
    · rw [if_neg s1]
      by_cases s2 : kS t n = 2
      · rw [if_pos s2, s2]; decide
      · rw [if_neg s2]
        by_cases s3 : kS t n = 3
        · rw [if_pos s3, s3, show (0 : Int32) = nI 0 from rfl, show (2 : Int32) = nI 2 from rfl, show (3 : Int32) = nI 3 from rfl, nI_eq (by omega) (by decide), nI_eq (by omega) (by decide), nI_eq (by omega) (by decide)]
          omega
        · rw [if_neg s3]
          exact ⟨⟨fun z => absurd z (by decide), fun z => absurd z s0⟩, ⟨fun z => absurd z (by decide), fun z => absurd z s1⟩, ⟨fun z => absurd z (by decide), fun z => absurd z s2⟩⟩
theorem x_takeKw {t : List Nat} {n q : Nat} {M : Mem} {Q : Bool → Mem → Prop} (hT : TK t n M) (hq : q < 24) (k : PC t (cKw t q n) (n + 1) M Q) : w_Rd_takeKeyword (nI q) M Q := by
  unfold w_Rd_takeKeyword
  rw [hT.kweq hq]
  unfold cKw at k
  refine ⟨fun z => ?_, fun z => ?_⟩
  · rw [if_neg z] at k
    exact x_fail (a := 1) hT k
  · rw [if_pos z] at k
    exact x_step hT (kK_ne0 z hq) k
theorem x_takeEnd {t : List Nat} {n : Nat} {M : Mem} {Q : Bool → Mem → Prop} (hT : TK t n M) (k : PC t (cSg t 59 n) (n + 1) M Q) : w_Rd_takeEnd M Q := by
  unfold w_Rd_takeEnd
  rw [show (59 : Int32) = nI 59 from rfl, hT.sgeq (by decide) (by decide)]
  unfold cSg at k
  refine ⟨fun z => ?_, fun z => ?_⟩
  · rw [if_neg z] at k
    exact x_fail (a := 1) hT k
  · rw [if_pos z] at k
    exact x_step hT (by rw [z.1]; decide) k
theorem x_isNum {t : List Nat} {n lo hi : Nat} {M : Mem} {Q : Bool → Mem → Prop} (hT : TK t n M) (hlo : lo < 2 ^ 31) (hhi : hi < 2 ^ 31) (k : PC t (cNum t lo hi n) n M Q) : w_Rd_isNumber (nI lo) (nI hi) M Q := by
  unfold w_Rd_isNumber
  rw [hT.soeq.2.2]
  unfold cNum at k
  refine ⟨fun z => ?_, fun z => ?_⟩
  · rw [if_pos z] at k
    have v := vV_lt z
    rw [hT.num z]
    have kf : ¬ (lo ≤ kV t n ∧ kV t n ≤ hi) → w_Rd_isNumber_j42 M Q := fun c => by
      rw [if_neg c] at k
      exact x_fail (a := 4) hT (fun M' a b => ⟨false, rfl, k M' a b⟩)
    refine br_lt (by omega) (by omega) (fun c => kf (by omega)) (fun c => br_le (by omega) (by omega) (fun c2 => ?_) (fun c2 => kf (by omega)))
    rw [if_pos ⟨c, c2⟩] at k
    exact k M Fr2.rfl hT
  · rw [if_neg z] at k
    exact x_fail (a := 1) hT k
theorem x_isName {t : List Nat} {n : Nat} {M : Mem} {Q : Bool → Mem → Prop} (hT : TK t n M) (k : Q (decide (kS t n = 1 ∧ 20 ≤ kK t n)) M) : w_Tape_isName M Q := by
  unfold w_Tape_isName
  rw [hT.soeq.2.1, hT.kw]
  have hk := kK_le (t := t) (n := n)
  refine ⟨fun z => ?_, fun z => ?_⟩
  · rw [decide_eq_false (fun c => z c.1)] at k; exact k
  · unfold ckw
    by_cases c : kK t n < 24
    · rw [if_pos c]
      refine ⟨fun y => absurd y (ni_m1 (by omega)), fun _ => ⟨decide (kS t n = 1 ∧ 20 ≤ kK t n), ?_, k⟩⟩
      rw [show (20 : Int32) = nI 20 from rfl]
      by_cases c2 : kK t n < 20
      · rw [if_pos ((nI_ltI (b := 20) (by omega) (by decide)).mpr c2), decide_eq_false (by omega)]; rfl
      · rw [if_neg (fun y => c2 ((nI_ltI (b := 20) (by omega) (by decide)).mp y)), decide_eq_true ⟨z, by omega⟩]; rfl
    · rw [if_neg c]
      rw [decide_eq_true ⟨z, by omega⟩] at k
      exact ⟨fun _ => k, fun y => absurd rfl y⟩
theorem x_indexOf {t : List Nat} {n np : Nat} {f : Nat → List Nat} {M : Mem} {Q : Int32 → Mem → Prop} (hT : TK t n M) (hs : kS t n = 1) (hn : np ≤ 6) (hf : ∀ p, p < np → M.2 c_reader_peopleNames p = lN (w5 (f p)) ∧ okw (f p)) (k : Q (oI (fnd f (kW t n) np)) M) : w_Rd_indexOf (nI np) M Q := by
  have hle := fa_first_le (fun p => decide (f p = kW t n)) np
  have hno := fa_first_no (fun p => decide (f p = kW t n)) np
  have hye := fa_first_yes (fun p => decide (f p = kW t n)) np
  unfold fnd at k
  generalize fa_first (fun p => decide (f p = kW t n)) np = j at hle hno hye k
  refine for_loop (fun m i (M1 : Mem) => w_Rd_indexOf_L2 (nI np) (fun M65 => Q (-1) M65) Q m (nI i) M1) (fun i M1 => M1 = M) j 0 M (Nat.zero_le _) rfl ?_ ?_
  · intro m M1 e
    subst e
    refine br_le (by omega) (by omega) (fun c => ?_) (fun c => br_le (a := 6) (by decide) (by omega) (fun c2 => absurd c2 (by omega)) (fun _ => ⟨vp_in_nI (by omega) (by decide), ?_⟩))
    · rw [if_neg (by omega)] at k; exact k
    · rw [nI_clamp (by omega), (hf j c).1, hT.word hs, lg_0, l5_iff (hf j c).2 (kW_ok hs)]
      rw [if_pos c] at k
      exact ⟨fun z => absurd (of_decide_eq_true (hye c)) z, fun _ => k⟩
  · intro m i M1 _ hi e kk
    subst e
    refine br_le (by omega) (by omega) (fun c => absurd c (by omega)) (fun c => br_le (a := 6) (by decide) (by omega) (fun c2 => absurd c2 (by omega)) (fun _ => ⟨vp_in_nI (by omega) (by decide), ?_⟩))
    rw [nI_clamp (by omega), (hf i c).1, hT.word hs, lg_0, l5_iff (hf i c).2 (kW_ok hs), nI_1]
    exact ⟨fun _ => kk M1 rfl, fun z => absurd z (of_decide_eq_false (hno i hi))⟩
theorem x_indexOfB {t : List Nat} {n np : Nat} {f : Nat → List Nat} {M : Mem} {Q : Int32 → Mem → Prop} (hT : TK t n M) (hs : kS t n = 1) (hn : np ≤ 5) (hf : ∀ p, p < np → M.2 c_reader_birdNames p = lN (w5 (f p)) ∧ okw (f p)) (k : Q (oI (fnd f (kW t n) np)) M) : w_Rd_indexOf_reader_birdNames (nI np) M Q := by
  have hle := fa_first_le (fun p => decide (f p = kW t n)) np
  have hno := fa_first_no (fun p => decide (f p = kW t n)) np
  have hye := fa_first_yes (fun p => decide (f p = kW t n)) np
  unfold fnd at k
  generalize fa_first (fun p => decide (f p = kW t n)) np = j at hle hno hye k
  refine for_loop (fun m i (M1 : Mem) => w_Rd_indexOf_reader_birdNames_L2 (nI np) (fun M65 => Q (-1) M65) Q m (nI i) M1) (fun i M1 => M1 = M) j 0 M (Nat.zero_le _) rfl ?_ ?_
  · intro m M1 e
    subst e
    refine br_le (by omega) (by omega) (fun c => ?_) (fun c => br_le (a := 5) (by decide) (by omega) (fun c2 => absurd c2 (by omega)) (fun _ => ⟨vp_in_nI (by omega) (by decide), ?_⟩))
    · rw [if_neg (by omega)] at k; exact k
    · rw [nI_clamp (by omega), (hf j c).1, hT.word hs, lg_0, l5_iff (hf j c).2 (kW_ok hs)]
      rw [if_pos c] at k
      exact ⟨fun z => absurd (of_decide_eq_true (hye c)) z, fun _ => k⟩
  · intro m i M1 _ hi e kk
    subst e
    refine br_le (by omega) (by omega) (fun c => absurd c (by omega)) (fun c => br_le (a := 5) (by decide) (by omega) (fun c2 => absurd c2 (by omega)) (fun _ => ⟨vp_in_nI (by omega) (by decide), ?_⟩))
    rw [nI_clamp (by omega), (hf i c).1, hT.word hs, lg_0, l5_iff (hf i c).2 (kW_ok hs), nI_1]
    exact ⟨fun _ => kk M1 rfl, fun z => absurd z (of_decide_eq_false (hno i hi))⟩
/-! the draft in the class's cells -/
def XLw (k : Nat) (o : Option (List Int32)) (df : Int32) (cl : Nat) (M : Mem) : Prop := M.1 k Law_isTold = b2i o.isSome ∧ ∃ f, M.1 k Law_from = nI f ∧ M.1 k Law_to = nI (f + (o.getD [df]).length) ∧ f + (o.getD [df]).length ≤ cl ∧ ∀ i, i < (o.getD [df]).length → M.1 c_draft_code (f + i) = (o.getD [df]).getD i 0
def XLs (d : Dr) (n : Nat) (M : Mem) : Prop := ∃ cl, M.1 c_draft Land_codeLength = nI cl ∧ cl ≤ n + 2 ∧ XLw c_draft_owe (rowe d) 1 cl M ∧ XLw c_draft_fog (rfog d) 14 cl M
def XDr (d : Dr) (n : Nat) (M : Mem) : Prop :=
  (M.1 c_draft Land_wide = nI (rwide d) ∧ M.1 c_draft Land_deep = nI (rdeep d) ∧ M.1 c_draft Land_people = nI (rnp d) ∧ M.1 c_draft Land_birds = nI (rnb d) ∧ M.1 c_draft Land_hear = nI (rhear d)) ∧
  (M.1 c_reader Rd_goCount = nI (rgo d) ∧ M.1 c_reader Rd_callCount = nI (rca d) ∧ M.1 c_reader Rd_hearIsTold = b2i (rht d)) ∧
  (∀ p, p < rnp d → M.1 c_draft_kind p = nI (rkind d p) ∧ M.1 c_draft_purse p = nI (rpurse d p) ∧ M.2 c_reader_peopleNames p = lN (w5 (rnm d p))) ∧
  (∀ b, b < rnb d → M.1 c_draft_bush b = nI (rbush d b) ∧ M.2 c_reader_birdNames b = lN (w5 (rnm d (6 + b)))) ∧
  (∀ i, i < 144 → M.1 c_reader_goes i = oI (rgoes d i)) ∧
  (∀ i, i < 120 → M.1 c_draft_times i = nI (rtimes d i)) ∧ XLs d n M
abbrev DRc : List Nat := [c_draft, c_draft_kind, c_draft_purse, c_draft_bush, c_draft_times, c_draft_code, c_draft_owe, c_draft_fog, c_reader, c_reader_peopleNames, c_reader_birdNames, c_reader_goes]
theorem XDr.mv {d : Dr} {n : Nat} {M M' : Mem} (h : XDr d n M) (e : ∀ k ∈ DRc, M'.1 k = M.1 k ∧ M'.2 k = M.2 k) : XDr d n M' := by
  unfold XDr XLs XLw at h ⊢
  rw [(e c_draft (by decide)).1, (e c_draft_kind (by decide)).1, (e c_draft_purse (by decide)).1, (e c_draft_bush (by decide)).1, (e c_draft_times (by decide)).1, (e c_draft_code (by decide)).1, (e c_draft_owe (by decide)).1, (e c_draft_fog (by decide)).1, (e c_reader (by decide)).1, (e c_reader_peopleNames (by decide)).2, (e c_reader_birdNames (by decide)).2, (e c_reader_goes (by decide)).1]
  exact h
theorem XDr.fr {d : Dr} {n : Nat} {M M' : Mem} {L : List Nat} (h : XDr d n M) (hF : Fr2 L M M') (hd : ∀ k ∈ DRc, k ∉ L) : XDr d n M' := h.mv (fun k hk => hF k (hd k hk))
theorem XDr.tp {d : Dr} {n : Nat} {M M' : Mem} (h : XDr d n M) (hF : Fr2 [c_tape] M M') : XDr d n M' := h.fr hF (by decide)
theorem XDr.up {d : Dr} {n n' : Nat} {M : Mem} (h : XDr d n M) (hn : n ≤ n') : XDr d n' M := by
  obtain ⟨h1, h2, h3, h4, h5, h6, cl, h7, h8, h9⟩ := h
  exact ⟨h1, h2, h3, h4, h5, h6, cl, h7, by omega, h9⟩
/-- a slot of the reader that is no part of it, or one of its counters -/
theorem XDr.rd {d : Dr} {n j : Nat} {v : Int32} {M : Mem} (h : XDr d n M) (h1 : j ≠ Rd_goCount) (h2 : j ≠ Rd_callCount) (h3 : j ≠ Rd_hearIsTold) : XDr d n (si M c_reader j v) := by
  obtain ⟨a1, ⟨b1, b2, b3⟩, a3⟩ := h
  refine ⟨a1, ⟨?_, ?_, ?_⟩, a3⟩
  · rw [si_of (Ne.symm h1)]; exact b1
  · rw [si_of (Ne.symm h2)]; exact b2
  · rw [si_of (Ne.symm h3)]; exact b3
theorem XDr.uGo {d : Dr} {n : Nat} {M : Mem} (h : XDr d n M) : XDr (uGo d) n (si M c_reader Rd_goCount (nI (rgo d + 1))) := by
  obtain ⟨a1, ⟨b1, b2, b3⟩, a3⟩ := h
  refine ⟨a1, ⟨si_at, ?_, ?_⟩, a3⟩
  · rw [si_of (by decide)]; exact b2
  · rw [si_of (by decide)]; exact b3
theorem XDr.uCa {d : Dr} {n : Nat} {M : Mem} (h : XDr d n M) : XDr (uCa d) n (si M c_reader Rd_callCount (nI (rca d + 1))) := by
  obtain ⟨a1, ⟨b1, b2, b3⟩, a3⟩ := h
  refine ⟨a1, ⟨?_, si_at, ?_⟩, a3⟩
  · rw [si_of (by decide)]; exact b1
  · rw [si_of (by decide)]; exact b3
theorem XDr.uHt {d : Dr} {n : Nat} {M : Mem} (h : XDr d n M) : XDr (uHt d) n (si M c_reader Rd_hearIsTold 1) := by
  obtain ⟨a1, ⟨b1, b2, b3⟩, a3⟩ := h
  refine ⟨a1, ⟨?_, ?_, si_at⟩, a3⟩
  · rw [si_of (by decide)]; exact b1
  · rw [si_of (by decide)]; exact b2
theorem XDr.uHear {d : Dr} {n v : Nat} {M : Mem} (h : XDr d n M) : XDr (uHear d v) n (si M c_draft Land_hear (nI v)) := by
  obtain ⟨⟨b1, b2, b3, b4, b5⟩, a2, a3, a4, a5, a6, cl, a7, a8⟩ := h
  refine ⟨⟨?_, ?_, ?_, ?_, si_at⟩, a2, a3, a4, a5, a6, cl, ?_, a8⟩
  · rw [si_of (by decide)]; exact b1
  · rw [si_of (by decide)]; exact b2
  · rw [si_of (by decide)]; exact b3
  · rw [si_of (by decide)]; exact b4
  · rw [si_of (by decide)]; exact a7
theorem XDr.uGoes {d : Dr} {n i c : Nat} {M : Mem} (h : XDr d n M) : XDr (uGoes d i c) n (si M c_reader_goes i (nI c)) := by
  obtain ⟨a1, a2, a3, a4, a5, a6⟩ := h
  refine ⟨a1, a2, a3, a4, fun j hj => ?_, a6⟩
  show _ = oI (uo (rgoes d) i (some c) j)
  by_cases q : j = i
  · subst q; rw [si_at, uo_s]; rfl
  · rw [si_of q, uo_n q]; exact a5 j hj
theorem XDr.uTimes {d : Dr} {n i v : Nat} {M : Mem} (h : XDr d n M) : XDr (uTimes d i v) n (si M c_draft_times i (nI v)) := by
  obtain ⟨a1, a2, a3, a4, a5, a6, a7⟩ := h
  refine ⟨a1, a2, a3, a4, a5, fun j hj => ?_, a7⟩
  show _ = nI (un (rtimes d) i v j)
  unfold un
  by_cases q : j = i
  · subst q; rw [si_at, if_pos rfl]
  · rw [si_of q, if_neg q]; exact a6 j hj
theorem XDr.nm {d : Dr} {n : Nat} {v : Int64} {M : Mem} (h : XDr d n M) : XDr d n (sl M c_reader_peopleNames (rnp d) v) := by
  obtain ⟨a1, a2, a3, a4⟩ := h
  refine ⟨a1, a2, fun p hp => ?_, a4⟩
  rw [sl_of (by omega)]; exact a3 p hp
theorem XDr.nb {d : Dr} {n : Nat} {v : Int64} {M : Mem} (h : XDr d n M) : XDr d n (sl M c_reader_birdNames (rnb d) v) := by
  obtain ⟨a1, a2, a3, a4, a5⟩ := h
  refine ⟨a1, a2, a3, fun p hp => ?_, a5⟩
  rw [sl_of (by omega)]; exact a4 p hp
theorem XDr.kd {d : Dr} {n : Nat} {v : Int32} {M : Mem} (h : XDr d n M) : XDr d n (si M c_draft_kind (rnp d) v) := by
  obtain ⟨a1, a2, a3, a4⟩ := h
  refine ⟨a1, a2, fun p hp => ?_, a4⟩
  rw [si_of (by omega)]; exact a3 p hp
theorem XDr.ps {d : Dr} {n : Nat} {v : Int32} {M : Mem} (h : XDr d n M) : XDr d n (si M c_draft_purse (rnp d) v) := by
  obtain ⟨a1, a2, a3, a4⟩ := h
  refine ⟨a1, a2, fun p hp => ?_, a4⟩
  rw [si_of (k := c_draft_purse) (by omega)]; exact a3 p hp
theorem XDr.bs {d : Dr} {n : Nat} {v : Int32} {M : Mem} (h : XDr d n M) : XDr d n (si M c_draft_bush (rnb d) v) := by
  obtain ⟨a1, a2, a3, a4, a5⟩ := h
  refine ⟨a1, a2, a3, fun p hp => ?_, a5⟩
  rw [si_of (by omega)]; exact a4 p hp
theorem XDr.uNp {d : Dr} {n k v : Nat} {w : List Nat} {M : Mem} (h : XDr d n M) (h1 : M.1 c_draft_kind (rnp d) = nI k) (h2 : M.1 c_draft_purse (rnp d) = nI v) (h3 : M.2 c_reader_peopleNames (rnp d) = lN (w5 w)) (h6 : rnp d < 6) : XDr (uNp d w k v) n (si M c_draft Land_people (nI (rnp d + 1))) := by
  obtain ⟨⟨b1, b2, b3, b4, b5⟩, a2, a3, a4, a5, a6, cl, a7, a8⟩ := h
  refine ⟨⟨?_, ?_, si_at, ?_, ?_⟩, a2, fun p hp => ?_, fun b hb => ?_, a5, a6, cl, ?_, a8⟩
  · rw [si_of (by decide)]; exact b1
  · rw [si_of (by decide)]; exact b2
  · rw [si_of (by decide)]; exact b4
  · rw [si_of (by decide)]; exact b5
  · have hp : p < rnp d + 1 := hp
    show M.1 c_draft_kind p = nI (uo (rkind d) (rnp d) k p) ∧ M.1 c_draft_purse p = nI (uo (rpurse d) (rnp d) v p) ∧ M.2 c_reader_peopleNames p = lN (w5 (uo (rnm d) (rnp d) w p))
    by_cases q : p = rnp d
    · subst q; rw [uo_s, uo_s, uo_s]; exact ⟨h1, h2, h3⟩
    · rw [uo_n q, uo_n q, uo_n q]; exact a3 p (by omega)
  · show M.1 c_draft_bush b = nI (rbush d b) ∧ M.2 c_reader_birdNames b = lN (w5 (uo (rnm d) (rnp d) w (6 + b)))
    rw [uo_n (by omega)]; exact a4 b hb
  · rw [si_of (by decide)]; exact a7
theorem XDr.uNb {d : Dr} {n c : Nat} {w : List Nat} {M : Mem} (h : XDr d n M) (h1 : M.1 c_draft_bush (rnb d) = nI c) (h3 : M.2 c_reader_birdNames (rnb d) = lN (w5 w)) (h6 : rnp d ≤ 6) : XDr (uNb d w c) n (si M c_draft Land_birds (nI (rnb d + 1))) := by
  obtain ⟨⟨b1, b2, b3, b4, b5⟩, a2, a3, a4, a5, a6, cl, a7, a8⟩ := h
  refine ⟨⟨?_, ?_, ?_, si_at, ?_⟩, a2, fun p hp => ?_, fun b hb => ?_, a5, a6, cl, ?_, a8⟩
  · rw [si_of (by decide)]; exact b1
  · rw [si_of (by decide)]; exact b2
  · rw [si_of (by decide)]; exact b3
  · rw [si_of (by decide)]; exact b5
  · have hp : p < rnp d := hp
    show M.1 c_draft_kind p = nI (rkind d p) ∧ M.1 c_draft_purse p = nI (rpurse d p) ∧ M.2 c_reader_peopleNames p = lN (w5 (uo (rnm d) (6 + rnb d) w p))
    rw [uo_n (by omega)]; exact a3 p hp
  · have hb : b < rnb d + 1 := hb
    show M.1 c_draft_bush b = nI (uo (rbush d) (rnb d) c b) ∧ M.2 c_reader_birdNames b = lN (w5 (uo (rnm d) (6 + rnb d) w (6 + b)))
    by_cases q : b = rnb d
    · subst q; rw [uo_s, uo_s]; exact ⟨h1, h3⟩
    · rw [uo_n q, uo_n (by omega)]; exact a4 b (by omega)
  · rw [si_of (by decide)]; exact a7
