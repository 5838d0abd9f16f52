/-! the language: pure -/
def er (t : List Nat) (n k : Nat) : Nat := k + 16 * kP t n
def chk {α : Type} (o : Option Nat) (r : Nat ⊕ α) : Nat ⊕ α := match o with
  | some f => .inl f
  | none => r
theorem chk_inr {α : Type} {o : Option Nat} {r : Nat ⊕ α} {x : α} (h : chk o r = .inr x) : o = none ∧ r = .inr x := by
  cases o with
  | none => exact ⟨rfl, h⟩
  | some f => cases h
theorem ite_inr {α : Type} {c : Prop} [Decidable c] {f : Nat} {r : Nat ⊕ α} {x : α} (h : (if c then .inl f else r) = .inr x) : ¬ c ∧ r = .inr x := by
  by_cases hc : c
  · rw [if_pos hc] at h; cases h
  · rw [if_neg hc] at h; exact ⟨hc, h⟩
theorem ite_inr' {α : Type} {c : Prop} [Decidable c] {f : Nat} {r : Nat ⊕ α} {x : α} (h : (if c then r else .inl f) = .inr x) : c ∧ r = .inr x := by
  by_cases hc : c
  · rw [if_pos hc] at h; exact ⟨hc, h⟩
  · rw [if_neg hc] at h; cases h
def cKw (t : List Nat) (q n : Nat) : Option Nat := if kK t n = q then none else some (er t n 1)
def cNum (t : List Nat) (lo hi n : Nat) : Option Nat := if kS t n = 2 then (if lo ≤ kV t n ∧ kV t n ≤ hi then none else some (er t n 4)) else some (er t n 1)
def cSg (t : List Nat) (c n : Nat) : Option Nat := if kS t n = 3 ∧ kC t n = c then none else some (er t n 1)
def cNm (t : List Nat) (n : Nat) : Option Nat := if kS t n = 1 ∧ 20 ≤ kK t n then none else some (er t n 1)
theorem cKw_n {t : List Nat} {q n : Nat} (h : cKw t q n = none) : kK t n = q := by
  unfold cKw at h; split at h
  · assumption
  · cases h
theorem cNum_n {t : List Nat} {lo hi n : Nat} (h : cNum t lo hi n = none) : kS t n = 2 ∧ lo ≤ kV t n ∧ kV t n ≤ hi := by
  unfold cNum at h; split at h
  · rename_i c; split at h
    · rename_i c2; exact ⟨c, c2.1, c2.2⟩
    · cases h
  · cases h
theorem cSg_n {t : List Nat} {c n : Nat} (h : cSg t c n = none) : kS t n = 3 ∧ kC t n = c := by
  unfold cSg at h; split at h
  · assumption
  · cases h
theorem cNm_n {t : List Nat} {n : Nat} (h : cNm t n = none) : kS t n = 1 ∧ 20 ≤ kK t n := by
  unfold cNm at h; split at h
  · assumption
  · cases h
/-! laws -/
abbrev RE : Type := Nat ⊕ (Nat × List Int32)
def sg (t : List Nat) (c n : Nat) : Prop := kS t n = 3 ∧ kC t n = c
def opAt (t : List Nat) (lv n : Nat) : Int32 := if lv = 0 then (if kK t n = 18 then -11 else if kK t n = 19 then -12 else 0) else if lv = 1 then (if kS t n = 3 ∧ kC t n = 60 then -9 else if kS t n = 3 ∧ kC t n = 61 then -10 else 0) else if lv = 2 then (if kS t n = 3 ∧ kC t n = 43 then -7 else if kS t n = 3 ∧ kC t n = 45 then -8 else 0) else (if kS t n = 3 ∧ kC t n = 42 then -6 else 0)
def fctQ (fog : Bool) (q : Nat) : Int32 := if q = 5 then -1 else if q = 20 then (if fog then 0 else -2) else if q = 21 then (if fog then 0 else -3) else if q = 8 then (if fog then 0 else -4) else if q = 22 then (if fog then -2 else 0) else if q = 23 then (if fog then -3 else 0) else 0
def lp (t : List Nat) (g : Nat → List Int32 → RE) (lv : Nat) : Nat → Nat → List Int32 → RE
  | 0, n, c => .inr (n, c)
  | k + 1, n, c => if opAt t lv n = 0 then .inr (n, c) else match g (n + 1) c with
    | .inl e => .inl e
    | .inr x => if lv = 1 then .inr (x.1, x.2 ++ [opAt t lv n]) else lp t g lv k x.1 (x.2 ++ [opAt t lv n])
def aPt (t : List Nat) (fog : Bool) (g : Nat → Nat → Nat → List Int32 → RE) (dp n : Nat) (c : List Int32) : RE :=
  if kS t n = 2 ∨ (kS t n = 3 ∧ kC t n = 40) ∨ kK t n = 17 ∨ fctQ fog (kK t n) ≠ 0 then
    (if 5 ≤ dp then .inl (er t n 5) else
      if kK t n = 17 then (match g 5 (dp + 1) (n + 1) c with
        | .inl e => .inl e
        | .inr x => .inr (x.1, x.2 ++ [-5]))
      else if kS t n = 3 ∧ kC t n = 40 then (match g 0 (dp + 1) (n + 1) c with
        | .inl e => .inl e
        | .inr x => chk (cSg t 41 x.1) (.inr (x.1 + 1, x.2)))
      else .inr (n + 1, c ++ [if fctQ fog (kK t n) = 0 then nI (kV t n) else fctQ fog (kK t n)]))
  else .inl (er t n 1)
def aE (t : List Nat) (fog : Bool) : Nat → Nat → Nat → Nat → List Int32 → RE
  | 0, _, _, _, _ => .inl 0
  | F + 1, lv, dp, n, c => if lv = 5 then aPt t fog (aE t fog F) dp n c else if lv = 4 then aE t fog F 5 dp n c else match aE t fog F (lv + 1) dp n c with
    | .inl e => .inl e
    | .inr x => lp t (aE t fog F (lv + 1) dp) lv 1000 x.1 x.2
/-- what a piece of a law does to the height -/
def pc (fog : Bool) (b : Nat) (e : List Int32) : Prop := (∀ h r, h + b ≤ 31 → wfc h (e ++ r) = wfc (h + 1) r) ∧ (fog = true → ∀ x ∈ e, x ≠ -4)
def goodE (fog : Bool) (b n : Nat) (c : List Int32) (x : Nat × List Int32) : Prop := n < x.1 ∧ n + x.2.length ≤ x.1 + c.length ∧ ∃ e, x.2 = c ++ e ∧ pc fog b e
theorem op_bin {t : List Nat} {lv n : Nat} (h : opAt t lv n ≠ 0) : kS t n ≠ 0 ∧ ¬ -5 < opAt t lv n ∧ ¬ opAt t lv n = -5 ∧ opAt t lv n ≠ -4 := by
  have k1 : ∀ q, q < 24 → kK t n = q → kS t n ≠ 0 := fun q hq z => by rw [kK_lt (by omega)]; decide
  unfold opAt at h ⊢
  by_cases c0 : lv = 0
  · simp only [if_pos c0] at h ⊢
    by_cases a : kK t n = 18
    · rw [if_pos a]; exact ⟨k1 18 (by decide) a, by decide, by decide, by decide⟩
    · simp only [if_neg a] at h ⊢
      by_cases b : kK t n = 19
      · rw [if_pos b]; exact ⟨k1 19 (by decide) b, by decide, by decide, by decide⟩
      · rw [if_neg b] at h; exact absurd rfl h
  · simp only [if_neg c0] at h ⊢
    have s3 : ∀ {c : Nat}, kS t n = 3 ∧ kC t n = c → kS t n ≠ 0 := fun z => by rw [z.1]; decide
    by_cases c1 : lv = 1
    · simp only [if_pos c1] at h ⊢
      by_cases a : kS t n = 3 ∧ kC t n = 60
      · rw [if_pos a]; exact ⟨s3 a, by decide, by decide, by decide⟩
      · simp only [if_neg a] at h ⊢
        by_cases b : kS t n = 3 ∧ kC t n = 61
        · rw [if_pos b]; exact ⟨s3 b, by decide, by decide, by decide⟩
        · rw [if_neg b] at h; exact absurd rfl h
    · simp only [if_neg c1] at h ⊢
      by_cases c2 : lv = 2
      · simp only [if_pos c2] at h ⊢
        by_cases a : kS t n = 3 ∧ kC t n = 43
        · rw [if_pos a]; exact ⟨s3 a, by decide, by decide, by decide⟩
        · simp only [if_neg a] at h ⊢
          by_cases b : kS t n = 3 ∧ kC t n = 45
          · rw [if_pos b]; exact ⟨s3 b, by decide, by decide, by decide⟩
          · rw [if_neg b] at h; exact absurd rfl h
      · simp only [if_neg c2] at h ⊢
        by_cases a : kS t n = 3 ∧ kC t n = 42
        · rw [if_pos a]; exact ⟨s3 a, by decide, by decide, by decide⟩
        · rw [if_neg a] at h; exact absurd rfl h
theorem fct_rng {fog : Bool} {q : Nat} (h : fctQ fog q ≠ 0) : -5 < fctQ fog q ∧ ¬ -1 < fctQ fog q ∧ (fog = true → fctQ fog q ≠ -4) ∧ q < 24 := by
  unfold fctQ at h ⊢
  cases fog
  · by_cases a1 : q = 5
    · subst a1; decide
    by_cases a2 : q = 20
    · subst a2; decide
    by_cases a3 : q = 21
    · subst a3; decide
    by_cases a4 : q = 8
    · subst a4; decide
    by_cases a5 : q = 22
    · subst a5; exact absurd rfl h
    by_cases a6 : q = 23
    · subst a6; exact absurd rfl h
    · rw [if_neg a1, if_neg a2, if_neg a3, if_neg a4, if_neg a5, if_neg a6] at h; exact absurd rfl h
  · by_cases a1 : q = 5
    · subst a1; decide
    by_cases a2 : q = 20
    · subst a2; exact absurd rfl h
    by_cases a3 : q = 21
    · subst a3; exact absurd rfl h
    by_cases a4 : q = 8
    · subst a4; exact absurd rfl h
    by_cases a5 : q = 22
    · subst a5; decide
    by_cases a6 : q = 23
    · subst a6; decide
    · rw [if_neg a1, if_neg a2, if_neg a3, if_neg a4, if_neg a5, if_neg a6] at h; exact absurd rfl h
theorem pc_lay {fog : Bool} {b : Nat} {x : Int32} (h : -5 < x) (h4 : fog = true → x ≠ -4) : pc fog b [x] := by
  refine ⟨fun k r hk => ?_, fun hf y hy => ?_⟩
  · show wfc k (x :: r) = _
    rw [wfc, if_pos h, decide_eq_true (by omega)]; rfl
  · rw [List.mem_singleton] at hy; subst hy; exact h4 hf
theorem pc_mono {fog : Bool} {b b' : Nat} {e : List Int32} (h : pc fog b e) (hb : b ≤ b') : pc fog b' e := ⟨fun k r hk => h.1 k r (by omega), h.2⟩
theorem pc_not {fog : Bool} {b : Nat} {e : List Int32} (h : pc fog b e) : pc fog b (e ++ [-5]) := by
  refine ⟨fun k r hk => ?_, fun hf y hy => ?_⟩
  · rw [List.append_assoc, h.1 k _ hk]
    show wfc (k + 1) (-5 :: r) = _
    rw [wfc, if_neg (by decide), if_pos rfl, decide_eq_true (by omega)]; rfl
  · rw [List.mem_append, List.mem_singleton] at hy
    rcases hy with z | z
    · exact h.2 hf y z
    · subst z; decide
theorem pc_bin {fog : Bool} {b : Nat} {e1 e2 : List Int32} {x : Int32} (h1 : pc fog (b + 1) e1) (h2 : pc fog b e2) (n1 : ¬ -5 < x) (n2 : ¬ x = -5) (n4 : x ≠ -4) : pc fog (b + 1) (e1 ++ (e2 ++ [x])) := by
  refine ⟨fun k r hk => ?_, fun hf y hy => ?_⟩
  · rw [List.append_assoc, h1.1 k _ hk, List.append_assoc, h2.1 (k + 1) _ (by omega)]
    show wfc (k + 1 + 1) (x :: r) = _
    rw [wfc, if_neg n1, if_neg n2, decide_eq_true (by omega)]; rfl
  · rw [List.mem_append, List.mem_append, List.mem_singleton] at hy
    rcases hy with z | z | z
    · exact h1.2 hf y z
    · exact h2.2 hf y z
    · subst z; exact n4
theorem lp_good {t : List Nat} {fog : Bool} {g : Nat → List Int32 → RE} {lv b n0 : Nat} {c0 : List Int32} (hg : ∀ n c x, g n c = .inr x → goodE fog b n c x) : ∀ (k n : Nat) (c : List Int32) (x : Nat × List Int32), goodE fog (b + 1) n0 c0 (n, c) → lp t g lv k n c = .inr x → goodE fog (b + 1) n0 c0 x
  | 0, n, c, x, h0, h => by
    rw [lp] at h; cases h; exact h0
  | k + 1, n, c, x, h0, h => by
    rw [lp] at h
    by_cases ho : opAt t lv n = 0
    · rw [if_pos ho] at h; cases h; exact h0
    · rw [if_neg ho] at h
      obtain ⟨o1, o2, o3, o4⟩ := op_bin ho
      cases e : g (n + 1) c with
      | inl f => rw [e] at h; cases h
      | inr y =>
        rw [e] at h
        obtain ⟨g1, g2, e2, g3, g4⟩ := hg _ _ _ e
        obtain ⟨f1, f2, e1, f3, f4⟩ := h0
        have f3 : c = c0 ++ e1 := f3
        have hn : goodE fog (b + 1) n0 c0 (y.1, y.2 ++ [opAt t lv n]) := by
          refine ⟨?_, ?_, e1 ++ (e2 ++ [opAt t lv n]), ?_, pc_bin f4 g4 o2 o3 o4⟩
          · show n0 < y.1; have f1 : n0 < n := f1; omega
          · show n0 + (y.2 ++ [opAt t lv n]).length ≤ y.1 + c0.length
            rw [List.length_append, List.length_singleton]
            have f2 : n0 + c.length ≤ n + c0.length := f2
            omega
          · show y.2 ++ [opAt t lv n] = _
            rw [g3, f3, List.append_assoc, List.append_assoc]
        have h : (if lv = 1 then (.inr (y.1, y.2 ++ [opAt t lv n]) : RE) else lp t g lv k y.1 (y.2 ++ [opAt t lv n])) = .inr x := h
        by_cases l1 : lv = 1
        · rw [if_pos l1] at h; cases h; exact hn
        · rw [if_neg l1] at h; exact lp_good hg k _ _ _ hn h
/-- how high it may grow at a level and a depth -/
def bE (lv dp : Nat) : Nat := 4 * (5 - dp) + (4 - lv)
theorem aE_good {t : List Nat} {fog : Bool} : ∀ (F lv dp n : Nat) (c : List Int32) (x : Nat × List Int32), lv ≤ 5 → aE t fog F lv dp n c = .inr x → goodE fog (bE lv dp) n c x
  | 0, lv, dp, n, c, x, _, h => by rw [aE] at h; cases h
  | F + 1, lv, dp, n, c, x, hl, h => by
    rw [aE] at h
    by_cases l5 : lv = 5
    · rw [if_pos l5] at h
      subst l5
      unfold aPt at h
      obtain ⟨h1, h⟩ := ite_inr' h
      obtain ⟨h2, h⟩ := ite_inr h
      by_cases q : kK t n = 17
      · rw [if_pos q] at h
        cases e : aE t fog F 5 (dp + 1) (n + 1) c with
        | inl f => rw [e] at h; cases h
        | inr y =>
          rw [e] at h
          cases h
          obtain ⟨g1, g2, e2, g3, g4⟩ := aE_good F 5 (dp + 1) (n + 1) c y (by omega) e
          refine ⟨by show n < y.1; omega, ?_, e2 ++ [-5], ?_, pc_not (pc_mono g4 (by unfold bE; omega))⟩
          · show n + (y.2 ++ [-5]).length ≤ y.1 + c.length
            rw [List.length_append, List.length_singleton]; omega
          · show y.2 ++ [-5] = _
            rw [g3, List.append_assoc]
      · rw [if_neg q] at h
        by_cases q2 : kS t n = 3 ∧ kC t n = 40
        · rw [if_pos q2] at h
          cases e : aE t fog F 0 (dp + 1) (n + 1) c with
          | inl f => rw [e] at h; cases h
          | inr y =>
            rw [e] at h
            obtain ⟨_, h⟩ := chk_inr h
            cases h
            obtain ⟨g1, g2, e2, g3, g4⟩ := aE_good F 0 (dp + 1) (n + 1) c y (by omega) e
            refine ⟨by show n < y.1 + 1; omega, by show n + y.2.length ≤ y.1 + 1 + c.length; omega, e2, g3, pc_mono g4 (by unfold bE; omega)⟩
        · rw [if_neg q2] at h
          cases h
          refine ⟨by show n < n + 1; omega, ?_, [if fctQ fog (kK t n) = 0 then nI (kV t n) else fctQ fog (kK t n)], rfl, ?_⟩
          · show n + (c ++ [if fctQ fog (kK t n) = 0 then nI (kV t n) else fctQ fog (kK t n)]).length ≤ n + 1 + c.length
            rw [List.length_append, List.length_singleton]; omega
          · by_cases f0 : fctQ fog (kK t n) = 0
            · rw [if_pos f0]
              have s2 : kS t n = 2 := by
                rcases h1 with z | z | z | z
                · exact z
                · exact absurd z q2
                · exact absurd z q
                · exact absurd f0 z
              have v9 := vV_lt s2
              exact pc_lay (nI_m5 (by omega)) (fun _ z => nI_nm4 (by omega) z)
            · rw [if_neg f0]
              obtain ⟨r1, r2, r3, r4⟩ := fct_rng f0
              exact pc_lay r1 r3
    · rw [if_neg l5] at h
      by_cases l4 : lv = 4
      · rw [if_pos l4] at h
        obtain ⟨g1, g2, e2, g3, g4⟩ := aE_good F 5 dp n c x (by omega) h
        exact ⟨g1, g2, e2, g3, pc_mono g4 (by unfold bE; omega)⟩
      · rw [if_neg l4] at h
        cases e : aE t fog F (lv + 1) dp n c with
        | inl f => rw [e] at h; cases h
        | inr y =>
          rw [e] at h
          have hb : bE lv dp = bE (lv + 1) dp + 1 := by unfold bE; omega
          have h0 := aE_good F (lv + 1) dp n c y (by omega) e
          rw [hb]
          refine lp_good (fun n c x => aE_good F (lv + 1) dp n c x (by omega)) 1000 y.1 y.2 x ?_ h
          obtain ⟨g1, g2, e2, g3, g4⟩ := h0
          exact ⟨g1, g2, e2, g3, pc_mono g4 (by omega)⟩
