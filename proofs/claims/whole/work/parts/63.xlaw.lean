/-! the class's reader: laws -/
def FC (f : Nat) (M M' : Mem) : Prop := Fr2 [c_tape, c_draft, c_draft_code] M M' ∧ (∀ j, j ≠ Land_codeLength → M'.1 c_draft j = M.1 c_draft j) ∧ ∀ i, i < f → M'.1 c_draft_code i = M.1 c_draft_code i
theorem FC.rfl {f : Nat} {M : Mem} : FC f M M := ⟨Fr2.rfl, fun _ _ => Eq.refl _, fun _ _ => Eq.refl _⟩
theorem FC.trans {f : Nat} {M M1 M2 : Mem} (h : FC f M M1) (h2 : FC f M1 M2) : FC f M M2 := ⟨h.1.trans h2.1, fun j hj => (h2.2.1 j hj).trans (h.2.1 j hj), fun i hi => (h2.2.2 i hi).trans (h.2.2 i hi)⟩
theorem FC.tp {f : Nat} {M M1 M2 : Mem} (h : FC f M M1) (h2 : Fr2 [c_tape] M1 M2) : FC f M M2 := h.trans ⟨h2.mono (by decide), fun j _ => by rw [(h2 c_draft (by decide)).1], fun i _ => by rw [(h2 c_draft_code (by decide)).1]⟩
def XCo (f : Nat) (c : List Int32) (M : Mem) : Prop := M.1 c_draft Land_codeLength = nI (f + c.length) ∧ ∀ i, i < c.length → M.1 c_draft_code (f + i) = c.getD i 0
theorem XCo.tp {f : Nat} {c : List Int32} {M M' : Mem} (h : XCo f c M) (hF : Fr2 [c_tape] M M') : XCo f c M' := by
  unfold XCo; rw [(hF c_draft (by decide)).1, (hF c_draft_code (by decide)).1]; exact h
theorem x_addStep {t : List Nat} {f n : Nat} {c : List Int32} {x : Int32} {M : Mem} {Q : Mem → Prop} (hC : XCo f c M) (hT : TK t n M) (hl : f + c.length < 1024) (k : ∀ M', FC f M M' → XCo f (c ++ [x]) M' → TK t n M' → Q M') : w_Land_addStep x M Q := by
  unfold w_Land_addStep
  rw [hC.1]
  refine ⟨fun z => absurd z (ni_nneg (by omega)), fun _ => br_le (a := 1024) (by decide) (by omega) (fun z => absurd z (by omega)) (fun _ => ⟨vp_in_nI hl (by decide), ?_⟩)⟩
  rw [nI_clamp (by omega), nI_1]
  refine k _ ⟨(fr2_si (by decide)).trans (fr2_si (by decide)), fun j hj => ?_, fun i hi => ?_⟩ ⟨?_, fun i hi => ?_⟩ (hT.fr ((fr2_si (by decide)).trans (fr2_si (by decide)) : Fr2 [c_draft, c_draft_code] M _) (by decide))
  · rw [si_of hj, si_ne _ _ _ (by decide)]
  · rw [si_ne _ _ _ (by decide), si_of (by omega)]
  · rw [si_at, List.length_append]; rfl
  · rw [si_ne _ _ _ (by decide)]
    rw [List.length_append] at hi
    have hi : i < c.length + 1 := hi
    by_cases e : i = c.length
    · subst e
      rw [si_at, List.getD_eq_getElem?_getD, List.getElem?_append_right (Nat.le_refl _), Nat.sub_self]; rfl
    · rw [si_of (by omega), List.getD_eq_getElem?_getD, List.getElem?_append_left (by omega), ← List.getD_eq_getElem?_getD]
      exact hC.2 i (by omega)
def LR (t : List Nat) (f : Nat) (R : RE) (M : Mem) (Q : Bool → Mem → Prop) : Prop := match R with
  | .inl e => ∀ M', FC f M M' → M'.1 c_tape Tape_fault = nI e → Q false M'
  | .inr x => ∀ M', FC f M M' → TK t x.1 M' → XCo f x.2 M' → Q true M'
theorem x_stepHere {t : List Nat} {n lv : Nat} {M : Mem} {Q : Int32 → Mem → Prop} (hT : TK t n M) (hl : lv ≤ 3) (k : Q (opAt t lv n) M) : w_LRd_stepHere (nI lv) M Q := by
  unfold opAt at k
  have s := fun (c : Nat) (h1 : 4 ≤ c) (h2 : c < 127) => hT.sgeq (c := c) h1 h2
  unfold w_LRd_stepHere
  rw [show (18 : Int32) = nI 18 from rfl, show (19 : Int32) = nI 19 from rfl, hT.kweq (by decide), hT.kweq (by decide), show (60 : Int32) = nI 60 from rfl, show (61 : Int32) = nI 61 from rfl, show (43 : Int32) = nI 43 from rfl, show (45 : Int32) = nI 45 from rfl, show (42 : Int32) = nI 42 from rfl, s 60 (by decide) (by decide), s 61 (by decide) (by decide), s 43 (by decide) (by decide), s 45 (by decide) (by decide)]
  refine ⟨fun z => ?_, fun z => ?_, fun z => ?_, fun z0 z1 z2 => ?_⟩
  · have z : lv = 0 := ni_inj (by omega) (by decide) z
    rw [if_pos z] at k
    refine ⟨fun a => ?_, fun a => ?_⟩
    · rw [if_neg a] at k
      exact ⟨fun b => by rw [if_neg b] at k; exact k, fun b => by rw [if_pos b] at k; exact k⟩
    · rw [if_pos a] at k; exact k
  · have z : lv = 1 := ni_inj (by omega) (by decide) z
    rw [if_neg (by omega), if_pos z] at k
    refine ⟨fun a => ?_, fun a => ?_⟩
    · rw [if_neg a] at k
      exact ⟨fun b => by rw [if_neg b] at k; exact k, fun b => by rw [if_pos b] at k; exact k⟩
    · rw [if_pos a] at k; exact k
  · have z : lv = 2 := ni_inj (by omega) (by decide) z
    rw [if_neg (by omega), if_neg (by omega), if_pos z] at k
    refine ⟨fun a => ?_, fun a => ?_⟩
    · rw [if_neg a] at k
      exact ⟨fun b => by rw [if_neg b] at k; exact k, fun b => by rw [if_pos b] at k; exact k⟩
    · rw [if_pos a] at k; exact k
  · have n0 : lv ≠ 0 := fun y => z0 (by rw [y]; rfl)
    have n1 : lv ≠ 1 := fun y => z1 (by rw [y]; rfl)
    have n2 : lv ≠ 2 := fun y => z2 (by rw [y]; rfl)
    rw [if_neg n0, if_neg n1, if_neg n2] at k
    by_cases a : kS t n = 3 ∧ kC t n = 42
    · rw [if_pos ((s 42 (by decide) (by decide)).mpr a)]
      rw [if_pos a] at k; exact k
    · rw [if_neg (fun y => a ((s 42 (by decide) (by decide)).mp y))]
      rw [if_neg a] at k; exact k
theorem x_factHere {t : List Nat} {n : Nat} {fog : Bool} {M : Mem} {Q : Int32 → Mem → Prop} (hT : TK t n M) (ho : M.1 c_laws LRd_owing = b2i (!fog)) (k : Q (fctQ fog (kK t n)) M) : w_LRd_factHere M Q := by
  have go : ∀ q, q < 24 → ∀ v, fctQ fog q = v → M.1 c_tape Tape_keyword = nI q → Q v M := fun q hq v hv e => by
    have := (hT.kweq hq).mp e
    rw [this, hv] at k; exact k
  unfold w_LRd_factHere
  rw [ho]
  refine ⟨go 5 (by decide) _ (by cases fog <;> rfl), go 6 (by decide) _ (by cases fog <;> rfl), go 7 (by decide) _ (by cases fog <;> rfl), go 8 (by decide) _ (by cases fog <;> rfl), go 9 (by decide) _ (by cases fog <;> rfl), go 10 (by decide) _ (by cases fog <;> rfl), go 11 (by decide) _ (by cases fog <;> rfl), go 12 (by decide) _ (by cases fog <;> rfl), go 13 (by decide) _ (by cases fog <;> rfl), go 14 (by decide) _ (by cases fog <;> rfl), go 15 (by decide) _ (by cases fog <;> rfl), go 16 (by decide) _ (by cases fog <;> rfl), go 17 (by decide) _ (by cases fog <;> rfl), go 18 (by decide) _ (by cases fog <;> rfl), go 19 (by decide) _ (by cases fog <;> rfl), go 20 (by decide) _ (by cases fog <;> rfl), go 21 (by decide) _ (by cases fog <;> rfl), go 22 (by decide) _ (by cases fog <;> rfl), go 23 (by decide) _ (by cases fog <;> rfl), ?_⟩
  intro n5 n6 n7 n8 n9 n10 n11 n12 n13 n14 n15 n16 n17 n18 n19 n20 n21 n22 n23
  have : fctQ fog (kK t n) = 0 := by
    unfold fctQ
    rw [if_neg (fun y => n5 ((hT.kweq (by decide)).mpr y)), if_neg (fun y => n20 ((hT.kweq (by decide)).mpr y)), if_neg (fun y => n21 ((hT.kweq (by decide)).mpr y)), if_neg (fun y => n8 ((hT.kweq (by decide)).mpr y)), if_neg (fun y => n22 ((hT.kweq (by decide)).mpr y)), if_neg (fun y => n23 ((hT.kweq (by decide)).mpr y))]
  rw [this] at k; exact k
theorem x_lp {t : List Nat} {fog : Bool} {f lv dp : Nat} {g : Nat → List Int32 → RE} {rl : Int32 → Int32 → Mem → (Bool → Mem → Prop) → Prop} {rp : Int32 → Mem → (Bool → Mem → Prop) → Prop} {M0 : Mem} {Q : Bool → Mem → Prop} (hlv : lv ≤ 3)
    (hr : ∀ n c M Q, TK t n M → M.1 c_laws LRd_owing = b2i (!fog) → XCo f c M → f + c.length ≤ n + 2 → LR t f (g n c) M Q → rl (nI (lv + 1)) (nI dp) M Q)
    (hgd : ∀ n c x, g n c = .inr x → n < x.1 ∧ n + x.2.length ≤ x.1 + c.length) : ∀ (k i n : Nat) (c : List Int32) (M : Mem), i + k = 1000 → TK t n M → M.1 c_laws LRd_owing = b2i (!fog) → XCo f c M → f + c.length ≤ n + 2 → FC f M0 M → LR t f (lp t g lv k n c) M0 Q → w_LRd_readLevel_L33 rl rp (nI lv) (nI dp) (fun M214 => Q true M214) Q (k + 2) (opAt t lv n) (nI i) M
  | 0, i, n, c, M, hi, hT, ho, hC, hb, hF, k => by
    rw [lp] at k
    exact br_le (a := 1000) (by decide) (by omega) (fun _ => k M hF hT hC) (fun z => absurd z (by omega))
  | K + 1, i, n, c, M, hi, hT, ho, hC, hb, hF, k => by
    rw [lp] at k
    refine br_le (a := 1000) (by decide) (by omega) (fun z => absurd z (by omega)) (fun _ => ⟨fun z => ?_, fun z => ?_⟩)
    · rw [if_pos z] at k; exact k M hF hT hC
    · rw [if_neg z] at k
      refine x_step hT (op_bin z).1 (fun M1 a1 hT1 => ?_)
      rw [nI_1]
      have hF1 := hF.tp a1
      have ho1 : M1.1 c_laws LRd_owing = b2i (!fog) := by rw [(a1 c_laws (by decide)).1]; exact ho
      refine hr (n + 1) c M1 _ hT1 ho1 (hC.tp a1) (by omega) ?_
      cases e : g (n + 1) c with
      | inl er => exact fun M2 a b => gF (by rw [e] at k; exact k M2 (hF1.trans a) b)
      | inr x =>
        intro M2 a2 hT2 hC2
        refine gT ?_
        rw [e] at k
        obtain ⟨g1, g2⟩ := hgd _ _ _ e
        have hx := hT2.len
        refine x_addStep (x := opAt t lv n) hC2 hT2 (by omega) (fun M3 a3 hC3 hT3 => ?_)
        have hF3 := (hF1.trans a2).trans a3
        have ho3 : M3.1 c_laws LRd_owing = b2i (!fog) := by rw [(a3.1 c_laws (by decide)).1, (a2.1 c_laws (by decide)).1]; exact ho1
        rw [nI_1]
        refine ⟨fun z2 => ?_, fun z2 => ?_⟩
        · have z3 : ¬ lv = 1 := fun y => z2 (by rw [y]; rfl)
          have k : LR t f (lp t g lv K x.1 (x.2 ++ [opAt t lv n])) M0 Q := by
            have k : LR t f (if lv = 1 then (.inr (x.1, x.2 ++ [opAt t lv n]) : RE) else lp t g lv K x.1 (x.2 ++ [opAt t lv n])) M0 Q := k
            rw [if_neg z3] at k; exact k
          refine x_stepHere hT3 hlv ?_
          exact x_lp hlv hr hgd K (i + 1) x.1 _ M3 (by omega) hT3 ho3 hC3 (by rw [List.length_append]; show f + (x.2.length + 1) ≤ x.1 + 2; omega) hF3 k
        · have z3 : lv = 1 := ni_inj (by omega) (by decide) z2
          have k : LR t f (.inr (x.1, x.2 ++ [opAt t lv n])) M0 Q := by
            have k : LR t f (if lv = 1 then (.inr (x.1, x.2 ++ [opAt t lv n]) : RE) else lp t g lv K x.1 (x.2 ++ [opAt t lv n])) M0 Q := k
            rw [if_pos z3] at k; exact k
          exact ⟨fun _ => k M3 hF3 hT3 hC3, fun _ => ⟨fun _ => k M3 hF3 hT3 hC3, fun y => absurd rfl y⟩⟩
theorem x_LRd {t : List Nat} {fog : Bool} {f : Nat} : ∀ (F : Nat), (∀ m lv dp n c M Q, F ≤ m → lv ≤ 4 → dp ≤ 5 → 6 * (5 - dp) + (5 - lv) + 1 ≤ F → TK t n M → M.1 c_laws LRd_owing = b2i (!fog) → XCo f c M → f + c.length ≤ n + 2 → LR t f (aE t fog F lv dp n c) M Q → w_LRd_readLevel m (nI lv) (nI dp) M Q) ∧ (∀ m dp n c M Q, F ≤ m → dp ≤ 5 → 6 * (5 - dp) + 1 ≤ F → TK t n M → M.1 c_laws LRd_owing = b2i (!fog) → XCo f c M → f + c.length ≤ n + 2 → LR t f (aE t fog F 5 dp n c) M Q → w_LRd_readPart m (nI dp) M Q)
  | 0 => ⟨fun m lv dp n c M Q _ _ _ h => absurd h (by omega), fun m dp n c M Q _ _ h => absurd h (by omega)⟩
  | F + 1 => by
    have ih := x_LRd (t := t) (fog := fog) (f := f) F
    constructor
    · intro m lv dp n c M Q hm hlv hdp hmu hT ho hC hb k
      obtain ⟨m, rfl⟩ : ∃ m', m = m' + 1 := ⟨m - 1, by omega⟩
      rw [aE, if_neg (by omega)] at k
      show w_LRd_readLevel_body (wg_LRd_readLevel m).1 (wg_LRd_readLevel m).2 (nI lv) (nI dp) M Q
      unfold w_LRd_readLevel_body
      refine br_lt (b := 4) (by omega) (by decide) (fun z => ?_) (fun z => ?_)
      · rw [if_neg (by omega)] at k
        rw [nI_1]
        refine ih.1 m (lv + 1) dp n c M _ (by omega) (by omega) hdp (by omega) hT ho hC hb ?_
        cases e : aE t fog F (lv + 1) dp n c with
        | inl er => exact fun M1 a b => gF (by rw [e] at k; exact k M1 a b)
        | inr x =>
          intro M1 a1 hT1 hC1
          refine gT (x_stepHere hT1 (by omega) ⟨1000 + 2, ?_⟩)
          rw [e] at k
          have gd := aE_good F (lv + 1) dp n c x (by omega) e
          refine x_lp (fog := fog) (g := aE t fog F (lv + 1) dp) (by omega) (fun n c M Q hT ho hC hb k => ih.1 m (lv + 1) dp n c M Q (by omega) (by omega) hdp (by omega) hT ho hC hb k) (fun n c x h => ⟨(aE_good F (lv + 1) dp n c x (by omega) h).1, (aE_good F (lv + 1) dp n c x (by omega) h).2.1⟩) 1000 0 x.1 x.2 M1 (by omega) hT1 ?_ hC1 ?_ a1 k
          · rw [(a1.1 c_laws (by decide)).1]; exact ho
          · have := gd.2.1; omega
      · rw [if_pos (by omega)] at k
        exact ih.2 m dp n c M _ (by omega) hdp (by omega) hT ho hC hb k
    · intro m dp n c M Q hm hdp hmu hT ho hC hb k
      obtain ⟨m, rfl⟩ : ∃ m', m = m' + 1 := ⟨m - 1, by omega⟩
      rw [aE, if_pos rfl] at k
      have hn := hT.len
      show w_LRd_readPart_body (wg_LRd_readLevel m).1 (wg_LRd_readLevel m).2 (nI dp) M Q
      unfold w_LRd_readPart_body
      refine x_factHere hT ho ?_
      unfold aPt at k
      have s40 := hT.sgeq (c := 40) (by decide) (by decide)
      have h17 : M.1 c_tape Tape_keyword = 17 ↔ kK t n = 17 := hT.kweq (q := 17) (by decide)
      have kj : (kS t n = 2 ∨ (kS t n = 3 ∧ kC t n = 40) ∨ kK t n = 17 ∨ fctQ fog (kK t n) ≠ 0) → w_LRd_readPart_j63 (wg_LRd_readLevel m).1 (wg_LRd_readLevel m).2 (nI dp) (fctQ fog (kK t n)) (if (M.1 c_tape Tape_keyword) = 17 then (1 : Int32) else 0) M Q := by
        intro C
        rw [if_pos C] at k
        unfold w_LRd_readPart_j63
        refine br_lt (b := 5) (by omega) (by decide) (fun z => ?_) (fun z => ?_)
        · rw [if_neg (by omega)] at k
          rw [nI_1]
          by_cases q : kK t n = 17
          · rw [if_pos q] at k
            rw [if_pos (h17.mpr q)]
            refine ⟨fun y => absurd y (by decide), fun _ => ?_⟩
            refine x_step hT (kK_ne0 q (by decide)) (fun M1 a1 hT1 => ?_)
            refine ih.2 m (dp + 1) (n + 1) c M1 _ (by omega) (by omega) (by omega) hT1 (by rw [(a1 c_laws (by decide)).1]; exact ho) (hC.tp a1) (by omega) ?_
            cases e : aE t fog F 5 (dp + 1) (n + 1) c with
            | inl er => exact fun M2 a b => gF (by rw [e] at k; exact k M2 ((FC.rfl.tp a1).trans a) b)
            | inr x =>
              intro M2 a2 hT2 hC2
              rw [e] at k
              have gd := (aE_good F 5 (dp + 1) (n + 1) c x (by omega) e).2.1
              have hx := hT2.len
              exact gT (x_addStep (x := -5) hC2 hT2 (by omega) (fun M3 a3 hC3 hT3 => k M3 (((FC.rfl.tp a1).trans a2).trans a3) hT3 hC3))
          · rw [if_neg q] at k
            rw [if_neg (fun y => q (h17.mp y))]
            refine ⟨fun _ => ⟨fun y => ?_, fun y => ?_⟩, fun y => absurd rfl y⟩
            · have y : ¬ (kS t n = 3 ∧ kC t n = 40) := fun x => y (s40.mpr x)
              rw [if_neg y] at k
              have ev : (if fctQ fog (kK t n) = 0 then M.1 c_tape Tape_number else fctQ fog (kK t n)) = (if fctQ fog (kK t n) = 0 then nI (kV t n) else fctQ fog (kK t n)) := by
                by_cases f0 : fctQ fog (kK t n) = 0
                · rw [if_pos f0, if_pos f0]
                  refine hT.num ?_
                  rcases C with x | x | x | x
                  · exact x
                  · exact absurd x y
                  · exact absurd x q
                  · exact absurd f0 x
                · rw [if_neg f0, if_neg f0]
              rw [ev]
              have s0 : kS t n ≠ 0 := by
                rcases C with x | x | x | x
                · rw [x]; decide
                · exact absurd x y
                · exact absurd x q
                · exact kK_ne0 rfl (fct_rng x).2.2.2
              refine x_addStep hC hT (by omega) (fun M1 a1 hC1 hT1 => x_step hT1 s0 (fun M2 a2 hT2 => k M2 (a1.tp a2) hT2 (hC1.tp a2)))
            · have y := s40.mp y
              rw [if_pos y] at k
              refine x_step hT (by rw [y.1]; decide) (fun M1 a1 hT1 => ?_)
              refine ih.1 m 0 (dp + 1) (n + 1) c M1 _ (by omega) (by omega) (by omega) (by omega) hT1 (by rw [(a1 c_laws (by decide)).1]; exact ho) (hC.tp a1) (by omega) ?_
              cases e : aE t fog F 0 (dp + 1) (n + 1) c with
              | inl er => exact fun M2 a b => gF (by rw [e] at k; exact k M2 ((FC.rfl.tp a1).trans a) b)
              | inr x =>
                intro M2 a2 hT2 hC2
                rw [e] at k
                have k : LR t f (chk (cSg t 41 x.1) (.inr (x.1 + 1, x.2))) M Q := k
                have s41 := hT2.sgeq (c := 41) (by decide) (by decide)
                unfold cSg at k
                refine gT ⟨fun w => ?_, fun w => ?_⟩
                · rw [if_neg (fun v => w (s41.mpr v))] at k
                  exact x_fail (a := 1) hT2 (fun M3 a b => k M3 (((FC.rfl.tp a1).trans a2).tp a) b)
                · have w := s41.mp w
                  rw [if_pos w] at k
                  exact x_step hT2 (by rw [w.1]; decide) (fun M3 a3 hT3 => k M3 (((FC.rfl.tp a1).trans a2).tp a3) hT3 (hC2.tp a3))
        · rw [if_pos (by omega)] at k
          exact x_fail (a := 5) hT (fun M1 a b => k M1 (FC.rfl.tp a) b)
      unfold w_LRd_readPart_j22
      refine ⟨fun z => kj (Or.inl (hT.soeq.2.2.mp z)), fun z => ⟨fun z2 => kj (Or.inr (Or.inl (s40.mp z2))), fun z2 => ⟨fun z3 => kj (Or.inr (Or.inr (Or.inl ?_))), fun z3 => ⟨fun z4 => kj (Or.inr (Or.inr (Or.inr z4))), fun z4 => ?_⟩⟩⟩⟩
      · exact Decidable.byContradiction (fun y => z3 (if_neg (fun x => y (h17.mp x))))
      · have nC : ¬ (kS t n = 2 ∨ (kS t n = 3 ∧ kC t n = 40) ∨ kK t n = 17 ∨ fctQ fog (kK t n) ≠ 0) := by
          rintro (y | y | y | y)
          · exact z (hT.soeq.2.2.mpr y)
          · exact z2 (s40.mpr y)
          · rw [if_pos (h17.mpr y)] at z3; exact absurd z3 (by decide)
          · exact y z4
        rw [if_neg nC] at k
        exact x_fail (a := 1) hT (fun M1 a b => k M1 (FC.rfl.tp a) b)
theorem x_readLawO {t : List Nat} {n : Nat} {d : Dr} {M : Mem} {Q : Bool → Mem → Prop} (hT : TK t n M) (h0 : kS t n ≠ 0) (hD : XDr d n M) (k : XRes t (aLaw t false n d) M Q) : w_Rd_readLaw M Q := by
  unfold aLaw at k
  unfold w_Rd_readLaw
  obtain ⟨cl0, q1, q2, q3, q4⟩ := hD.2.2.2.2.2.2
  rw [q3.1]
  refine ⟨fun z => ?_, fun z => ?_⟩
  · have z : rowe d = none := by
      cases e : rowe d with
      | none => rfl
      | some c => rw [e] at z; exact absurd (show (1 : Int32) = 0 from z) (by decide)
    rw [if_neg (fun y => y z)] at k
    refine x_step hT h0 (fun M1 a1 hT1 => ?_)
    have hD1 := hD.tp a1
    obtain ⟨cl, p1, p2, p3, p4⟩ := hD1.2.2.2.2.2.2
    rw [p1]
    unfold w_Rd_readLaw_j60
    have hF2 : Fr2 [c_draft_owe, c_laws] M1 (si (si (si M1 c_draft_owe Law_isTold 1) c_draft_owe Law_from (nI cl)) c_laws LRd_owing 1) := ((fr2_si (by decide)).trans (fr2_si (by decide))).trans (fr2_si (by decide))
    have i1 : (si (si (si M1 c_draft_owe Law_isTold 1) c_draft_owe Law_from (nI cl)) c_laws LRd_owing 1).1 c_draft_owe Law_isTold = 1 := by
      rw [si_ne _ _ _ (by decide), si_of (by decide), si_at]
    have i2 : (si (si (si M1 c_draft_owe Law_isTold 1) c_draft_owe Law_from (nI cl)) c_laws LRd_owing 1).1 c_draft_owe Law_from = nI cl := by
      rw [si_ne _ _ _ (by decide), si_at]
    have i3 : (si (si (si M1 c_draft_owe Law_isTold 1) c_draft_owe Law_from (nI cl)) c_laws LRd_owing 1).1 c_laws LRd_owing = b2i (!false) := by rw [si_at]; rfl
    generalize si (si (si M1 c_draft_owe Law_isTold 1) c_draft_owe Law_from (nI cl)) c_laws LRd_owing 1 = M2 at hF2 i1 i2 i3
    have hT2 := hT1.fr hF2 (by decide)
    have hC2 : XCo cl [] M2 := ⟨by rw [(hF2 c_draft (by decide)).1]; exact p1, fun i hi => absurd hi (Nat.not_lt_zero i)⟩
    have hFm : Fr2 RDL M M2 := (tpF a1).trans (hF2.mono (by decide))
    refine ⟨by decide, 36, by decide, (x_LRd (fog := false) 36).1 36 0 0 (n + 1) [] M2 _ (by decide) (by decide) (by decide) (by decide) hT2 i3 hC2 (by show cl + 0 ≤ n + 1 + 2; omega) ?_⟩
    cases e : aE t false 36 0 0 (n + 1) [] with
    | inl er => exact fun M3 a b => gF (by rw [e] at k; exact k M3 (hFm.trans (a.1.mono (by decide))) b)
    | inr x =>
      intro M3 a3 hT3 hC3
      refine gT ?_
      rw [e] at k
      obtain ⟨l1, l2, l3, l4⟩ := law_wf e
      rw [hC3.1]
      have hFe : Fr2 RDL M (si M3 c_draft_owe Law_to (nI (cl + x.2.length))) := (hFm.trans (a3.1.mono (by decide))).trans (fr2_si (by decide))
      refine x_endC (m := x.1) hFe (hT3.fr (fr2_si (L := [c_draft_owe]) (by decide)) (by decide)) (d := uLaw false d x.2) ?_ (by omega) k
      have m1 : ∀ kk, kk ∈ DRc → kk ≠ c_draft_owe → kk ≠ c_draft → kk ≠ c_draft_code → (si M3 c_draft_owe Law_to (nI (cl + x.2.length))).1 kk = M1.1 kk ∧ M3.2 kk = M1.2 kk := fun kk hk hne hn2 hn3 => by
        have c1 : kk ∉ [c_tape, c_draft, c_draft_code] := by
          have : kk ≠ c_tape := fun y => by rw [y] at hk; exact absurd hk (by decide)
          simp only [List.mem_cons, List.not_mem_nil, or_false]; intro y; rcases y with y | y | y
          · exact this y
          · exact hn2 y
          · exact hn3 y
        have c2 : kk ∉ [c_draft_owe, c_laws] := by
          have : kk ≠ c_laws := fun y => by rw [y] at hk; exact absurd hk (by decide)
          simp only [List.mem_cons, List.not_mem_nil, or_false]; intro y; rcases y with y | y
          · exact hne y
          · exact this y
        rw [si_ne _ _ _ hne, (a3.1 kk c1).1, (hF2 kk c2).1, (a3.1 kk c1).2, (hF2 kk c2).2]
        exact ⟨rfl, rfl⟩
      have md : ∀ j, j ≠ Land_codeLength → (si M3 c_draft_owe Law_to (nI (cl + x.2.length))).1 c_draft j = M1.1 c_draft j := fun j hj => by
        rw [si_ne _ _ _ (by decide), a3.2.1 j hj, (hF2 c_draft (by decide)).1]
      have mc : ∀ i, i < cl → (si M3 c_draft_owe Law_to (nI (cl + x.2.length))).1 c_draft_code i = M1.1 c_draft_code i := fun i hi => by
        rw [si_ne _ _ _ (by decide), a3.2.2 i hi, (hF2 c_draft_code (by decide)).1]
      obtain ⟨⟨b1, b2, b3, b4, b5⟩, b6, b7, b8, b9, b10, _⟩ := hD1
      refine ⟨⟨?_, ?_, ?_, ?_, ?_⟩, ?_, ?_, ?_, ?_, ?_, cl + x.2.length, ?_, by omega, ?_, ?_⟩
      · rw [md _ (by decide)]; exact b1
      · rw [md _ (by decide)]; exact b2
      · rw [md _ (by decide)]; exact b3
      · rw [md _ (by decide)]; exact b4
      · rw [md _ (by decide)]; exact b5
      · rw [(m1 c_reader (by decide) (by decide) (by decide) (by decide)).1]; exact b6
      · intro p hp
        rw [(m1 c_draft_kind (by decide) (by decide) (by decide) (by decide)).1, (m1 c_draft_purse (by decide) (by decide) (by decide) (by decide)).1, si_2, (m1 c_reader_peopleNames (by decide) (by decide) (by decide) (by decide)).2]; exact b7 p hp
      · intro p hp
        rw [(m1 c_draft_bush (by decide) (by decide) (by decide) (by decide)).1, si_2, (m1 c_reader_birdNames (by decide) (by decide) (by decide) (by decide)).2]; exact b8 p hp
      · rw [(m1 c_reader_goes (by decide) (by decide) (by decide) (by decide)).1]; exact b9
      · rw [(m1 c_draft_times (by decide) (by decide) (by decide) (by decide)).1]; exact b10
      · rw [si_ne _ _ _ (by decide)]; exact hC3.1
      · refine ⟨?_, cl, ?_, ?_, Nat.le_refl _, fun i hi => ?_⟩
        · rw [si_of (by decide), (a3.1 c_draft_owe (by decide)).1]; exact i1
        · rw [si_of (by decide), (a3.1 c_draft_owe (by decide)).1]; exact i2
        · rw [si_at]; rfl
        · rw [si_ne _ _ _ (by decide)]; exact hC3.2 i hi
      · obtain ⟨o1, f, o2, o3, o4, o5⟩ := p4
        have eo := (m1 c_draft_fog (by decide) (by decide) (by decide) (by decide)).1
        refine ⟨by rw [eo]; exact o1, f, by rw [eo]; exact o2, by rw [eo]; exact o3, Nat.le_trans o4 (Nat.le_add_right _ _), fun i hi => ?_⟩
        have hi : i < ((rfog d).getD [14]).length := hi
        rw [mc _ (by omega)]; exact o5 i hi
  · have z : rlaw false d ≠ none := fun y => by
      have y : rowe d = none := y
      rw [y] at z; exact absurd rfl z
    rw [if_pos z] at k
    exact x_fail (a := 3) hT (fun M1 a b => k M1 (tpF a) b)
theorem x_readLawF {t : List Nat} {n : Nat} {d : Dr} {M : Mem} {Q : Bool → Mem → Prop} (hT : TK t n M) (h0 : kS t n ≠ 0) (hD : XDr d n M) (k : XRes t (aLaw t true n d) M Q) : w_Rd_readLaw_draft_fog M Q := by
  unfold aLaw at k
  unfold w_Rd_readLaw_draft_fog
  obtain ⟨cl0, q1, q2, q3, q4⟩ := hD.2.2.2.2.2.2
  rw [q4.1]
  refine ⟨fun z => ?_, fun z => ?_⟩
  · have z : rfog d = none := by
      cases e : rfog d with
      | none => rfl
      | some c => rw [e] at z; exact absurd (show (1 : Int32) = 0 from z) (by decide)
    rw [if_neg (fun y => y z)] at k
    refine x_step hT h0 (fun M1 a1 hT1 => ?_)
    have hD1 := hD.tp a1
    obtain ⟨cl, p1, p2, p3, p4⟩ := hD1.2.2.2.2.2.2
    rw [p1]
    unfold w_Rd_readLaw_draft_fog_j60
    have hF2 : Fr2 [c_draft_fog, c_laws] M1 (si (si (si M1 c_draft_fog Law_isTold 1) c_draft_fog Law_from (nI cl)) c_laws LRd_owing 0) := ((fr2_si (by decide)).trans (fr2_si (by decide))).trans (fr2_si (by decide))
    have i1 : (si (si (si M1 c_draft_fog Law_isTold 1) c_draft_fog Law_from (nI cl)) c_laws LRd_owing 0).1 c_draft_fog Law_isTold = 1 := by
      rw [si_ne _ _ _ (by decide), si_of (by decide), si_at]
    have i2 : (si (si (si M1 c_draft_fog Law_isTold 1) c_draft_fog Law_from (nI cl)) c_laws LRd_owing 0).1 c_draft_fog Law_from = nI cl := by
      rw [si_ne _ _ _ (by decide), si_at]
    have i3 : (si (si (si M1 c_draft_fog Law_isTold 1) c_draft_fog Law_from (nI cl)) c_laws LRd_owing 0).1 c_laws LRd_owing = b2i (!true) := by rw [si_at]; rfl
    generalize si (si (si M1 c_draft_fog Law_isTold 1) c_draft_fog Law_from (nI cl)) c_laws LRd_owing 0 = M2 at hF2 i1 i2 i3
    have hT2 := hT1.fr hF2 (by decide)
    have hC2 : XCo cl [] M2 := ⟨by rw [(hF2 c_draft (by decide)).1]; exact p1, fun i hi => absurd hi (Nat.not_lt_zero i)⟩
    have hFm : Fr2 RDL M M2 := (tpF a1).trans (hF2.mono (by decide))
    refine ⟨by decide, 36, by decide, (x_LRd (fog := true) 36).1 36 0 0 (n + 1) [] M2 _ (by decide) (by decide) (by decide) (by decide) hT2 i3 hC2 (by show cl + 0 ≤ n + 1 + 2; omega) ?_⟩
    cases e : aE t true 36 0 0 (n + 1) [] with
    | inl er => exact fun M3 a b => gF (by rw [e] at k; exact k M3 (hFm.trans (a.1.mono (by decide))) b)
    | inr x =>
      intro M3 a3 hT3 hC3
      refine gT ?_
      rw [e] at k
      obtain ⟨l1, l2, l3, l4⟩ := law_wf e
      rw [hC3.1]
      have hFe : Fr2 RDL M (si M3 c_draft_fog Law_to (nI (cl + x.2.length))) := (hFm.trans (a3.1.mono (by decide))).trans (fr2_si (by decide))
      refine x_endC (m := x.1) hFe (hT3.fr (fr2_si (L := [c_draft_fog]) (by decide)) (by decide)) (d := uLaw true d x.2) ?_ (by omega) k
      have m1 : ∀ kk, kk ∈ DRc → kk ≠ c_draft_fog → kk ≠ c_draft → kk ≠ c_draft_code → (si M3 c_draft_fog Law_to (nI (cl + x.2.length))).1 kk = M1.1 kk ∧ M3.2 kk = M1.2 kk := fun kk hk hne hn2 hn3 => by
        have c1 : kk ∉ [c_tape, c_draft, c_draft_code] := by
          have : kk ≠ c_tape := fun y => by rw [y] at hk; exact absurd hk (by decide)
          simp only [List.mem_cons, List.not_mem_nil, or_false]; intro y; rcases y with y | y | y
          · exact this y
          · exact hn2 y
          · exact hn3 y
        have c2 : kk ∉ [c_draft_fog, c_laws] := by
          have : kk ≠ c_laws := fun y => by rw [y] at hk; exact absurd hk (by decide)
          simp only [List.mem_cons, List.not_mem_nil, or_false]; intro y; rcases y with y | y
          · exact hne y
          · exact this y
        rw [si_ne _ _ _ hne, (a3.1 kk c1).1, (hF2 kk c2).1, (a3.1 kk c1).2, (hF2 kk c2).2]
        exact ⟨rfl, rfl⟩
      have md : ∀ j, j ≠ Land_codeLength → (si M3 c_draft_fog Law_to (nI (cl + x.2.length))).1 c_draft j = M1.1 c_draft j := fun j hj => by
        rw [si_ne _ _ _ (by decide), a3.2.1 j hj, (hF2 c_draft (by decide)).1]
      have mc : ∀ i, i < cl → (si M3 c_draft_fog Law_to (nI (cl + x.2.length))).1 c_draft_code i = M1.1 c_draft_code i := fun i hi => by
        rw [si_ne _ _ _ (by decide), a3.2.2 i hi, (hF2 c_draft_code (by decide)).1]
      obtain ⟨⟨b1, b2, b3, b4, b5⟩, b6, b7, b8, b9, b10, _⟩ := hD1
      refine ⟨⟨?_, ?_, ?_, ?_, ?_⟩, ?_, ?_, ?_, ?_, ?_, cl + x.2.length, ?_, by omega, ?_, ?_⟩
      · rw [md _ (by decide)]; exact b1
      · rw [md _ (by decide)]; exact b2
      · rw [md _ (by decide)]; exact b3
      · rw [md _ (by decide)]; exact b4
      · rw [md _ (by decide)]; exact b5
      · rw [(m1 c_reader (by decide) (by decide) (by decide) (by decide)).1]; exact b6
      · intro p hp
        rw [(m1 c_draft_kind (by decide) (by decide) (by decide) (by decide)).1, (m1 c_draft_purse (by decide) (by decide) (by decide) (by decide)).1, si_2, (m1 c_reader_peopleNames (by decide) (by decide) (by decide) (by decide)).2]; exact b7 p hp
      · intro p hp
        rw [(m1 c_draft_bush (by decide) (by decide) (by decide) (by decide)).1, si_2, (m1 c_reader_birdNames (by decide) (by decide) (by decide) (by decide)).2]; exact b8 p hp
      · rw [(m1 c_reader_goes (by decide) (by decide) (by decide) (by decide)).1]; exact b9
      · rw [(m1 c_draft_times (by decide) (by decide) (by decide) (by decide)).1]; exact b10
      · rw [si_ne _ _ _ (by decide)]; exact hC3.1
      · obtain ⟨o1, f, o2, o3, o4, o5⟩ := p3
        have eo := (m1 c_draft_owe (by decide) (by decide) (by decide) (by decide)).1
        refine ⟨by rw [eo]; exact o1, f, by rw [eo]; exact o2, by rw [eo]; exact o3, Nat.le_trans o4 (Nat.le_add_right _ _), fun i hi => ?_⟩
        have hi : i < ((rowe d).getD [1]).length := hi
        rw [mc _ (by omega)]; exact o5 i hi
      · refine ⟨?_, cl, ?_, ?_, Nat.le_refl _, fun i hi => ?_⟩
        · rw [si_of (by decide), (a3.1 c_draft_fog (by decide)).1]; exact i1
        · rw [si_of (by decide), (a3.1 c_draft_fog (by decide)).1]; exact i2
        · rw [si_at]; rfl
        · rw [si_ne _ _ _ (by decide)]; exact hC3.2 i hi
  · have z : rlaw true d ≠ none := fun y => by
      have y : rfog d = none := y
      rw [y] at z; exact absurd rfl z
    rw [if_pos z] at k
    exact x_fail (a := 3) hT (fun M1 a b => k M1 (tpF a) b)
