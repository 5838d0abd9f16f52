/-! the tape cut into tokens: pure -/
def isB (c : Nat) : Bool := decide (c = 32) || decide (c = 10)
def isL (c : Nat) : Bool := decide (97 ≤ c) && decide (c ≤ 122)
def isG (c : Nat) : Bool := decide (48 ≤ c) && decide (c ≤ 57)
def isS (c : Nat) : Bool := [40, 41, 42, 43, 45, 59, 60, 61].contains c
theorem isB_t {c : Nat} : isB c = true ↔ c = 32 ∨ c = 10 := by
  unfold isB; rw [Bool.or_eq_true, decide_eq_true_eq, decide_eq_true_eq]
theorem isL_t {c : Nat} : isL c = true ↔ 97 ≤ c ∧ c ≤ 122 := by
  unfold isL; rw [Bool.and_eq_true, decide_eq_true_eq, decide_eq_true_eq]
theorem isG_t {c : Nat} : isG c = true ↔ 48 ≤ c ∧ c ≤ 57 := by
  unfold isG; rw [Bool.and_eq_true, decide_eq_true_eq, decide_eq_true_eq]
theorem bf_n {b : Bool} (h : ¬ b = true) : b = false := by cases b with
  | false => rfl
  | true => exact absurd rfl h
def rn (P : Nat → Bool) (t : List Nat) (i : Nat) : Nat := i + ((t.drop i).takeWhile P).length
theorem drop_gD {t : List Nat} {i : Nat} (h : i < t.length) : t.drop i = t.getD i 0 :: t.drop (i + 1) := by
  rw [List.drop_eq_getElem_cons h, List.getD_eq_getElem?_getD, List.getElem?_eq_getElem h]; rfl
theorem rn_go {P : Nat → Bool} {t : List Nat} {i : Nat} (h : i < t.length) (hp : P (t.getD i 0) = true) : rn P t i = rn P t (i + 1) := by
  unfold rn
  rw [drop_gD h, List.takeWhile_cons_of_pos hp, List.length_cons]; omega
theorem rn_no {P : Nat → Bool} {t : List Nat} {i : Nat} (h : i < t.length) (hp : P (t.getD i 0) = false) : rn P t i = i := by
  unfold rn
  rw [drop_gD h, List.takeWhile_cons_of_neg (by rw [hp]; decide)]; rfl
theorem rn_end {P : Nat → Bool} {t : List Nat} {i : Nat} (h : t.length ≤ i) : rn P t i = i := by
  unfold rn; rw [List.drop_eq_nil_of_le h]; rfl
theorem rn_ge {P : Nat → Bool} {t : List Nat} {i : Nat} : i ≤ rn P t i := Nat.le_add_right _ _
theorem rn_le {P : Nat → Bool} {t : List Nat} : ∀ {n i : Nat}, t.length - i ≤ n → i ≤ t.length → rn P t i ≤ t.length
  | 0, i, h, h2 => by rw [rn_end (by omega)]; exact h2
  | n + 1, i, h, h2 => by
    by_cases c : i < t.length
    · by_cases p : P (t.getD i 0) = true
      · rw [rn_go c p]; exact rn_le (n := n) (by omega) (by omega)
      · rw [rn_no c (bf_n p)]; exact h2
    · rw [rn_end (by omega)]; exact h2
theorem rn_stop {P : Nat → Bool} {t : List Nat} : ∀ {n i : Nat}, t.length - i ≤ n → rn P t i < t.length → P (t.getD (rn P t i) 0) = false
  | 0, i, h, h2 => by rw [rn_end (by omega)] at h2; omega
  | n + 1, i, h, h2 => by
    by_cases c : i < t.length
    · by_cases p : P (t.getD i 0) = true
      · rw [rn_go c p] at h2 ⊢; exact rn_stop (n := n) (by omega) h2
      · rw [rn_no c (bf_n p)]; exact bf_n p
    · rw [rn_end (by omega)] at h2; omega
theorem rn_in {P : Nat → Bool} {t : List Nat} : ∀ {n i j : Nat}, j - i ≤ n → i ≤ j → j < rn P t i → j < t.length ∧ P (t.getD j 0) = true
  | n, i, j, h, h1, h2 => by
    have c : i < t.length := Nat.lt_of_not_le (fun z => by rw [rn_end z] at h2; omega)
    have p : P (t.getD i 0) = true := by
      by_cases p : P (t.getD i 0) = true
      · exact p
      · rw [rn_no c (bf_n p)] at h2; omega
    by_cases e : i = j
    · subst e; exact ⟨c, p⟩
    · match n, h with
      | 0, h => omega
      | n + 1, h => rw [rn_go c p] at h2; exact rn_in (n := n) (by omega) (by omega) h2
theorem rn_out {P : Nat → Bool} {t : List Nat} {i : Nat} : t.length ≤ rn P t i ∨ P (t.getD (rn P t i) 0) = false := by
  by_cases c : rn P t i < t.length
  · exact Or.inr (rn_stop (Nat.le_refl _) c)
  · exact Or.inl (by omega)
def sub (t : List Nat) (i e : Nat) : List Nat := (t.drop i).take (e - i)
theorem sub_0 {t : List Nat} {i : Nat} : sub t i i = [] := by unfold sub; rw [Nat.sub_self]; rfl
theorem sub_s {t : List Nat} {p j : Nat} (h : p ≤ j) (hl : j < t.length) : sub t p (j + 1) = sub t p j ++ [t.getD j 0] := by
  unfold sub
  have h2 : j - p < (t.drop p).length := by rw [List.length_drop]; omega
  rw [show j + 1 - p = (j - p) + 1 by omega, List.take_succ_eq_append_getElem h2, List.getElem_drop]
  congr 2
  rw [List.getD_eq_getElem?_getD, List.getElem?_eq_getElem hl]
  simp only [show p + (j - p) = j by omega, Option.getD_some]
theorem sub_len {t : List Nat} {p j : Nat} (hl : j ≤ t.length) : (sub t p j).length = j - p := by
  unfold sub
  rw [List.length_take, List.length_drop]; omega
theorem sub_mem {t : List Nat} {p j c : Nat} (h : p ≤ j) (hl : j ≤ t.length) (hc : c ∈ sub t p j) : ∃ k, p ≤ k ∧ k < j ∧ c = t.getD k 0 := by
  unfold sub at hc
  obtain ⟨k, hk, e⟩ := List.getElem_of_mem hc
  have hk2 := hk
  rw [List.length_take, List.length_drop] at hk2
  refine ⟨p + k, by omega, by omega, ?_⟩
  rw [← e, List.getElem_take, List.getElem_drop, List.getD_eq_getElem?_getD, List.getElem?_eq_getElem (by omega)]; rfl
def lts (l : List Nat) : List Nat := l.map (fun c => c - 96)
def dgs (l : List Nat) : Nat := l.foldl (fun a c => a * 10 + (c - 48)) 0
theorem lts_s {l : List Nat} {c : Nat} : lts (l ++ [c]) = lts l ++ [c - 96] := by unfold lts; rw [List.map_append]; rfl
theorem dgs_s {l : List Nat} {c : Nat} : dgs (l ++ [c]) = dgs l * 10 + (c - 48) := by unfold dgs; rw [List.foldl_append]; rfl
theorem w5_s {l : List Nat} {c : Nat} : w5 (l ++ [c]) = w5 l * 32 + c := by unfold w5; rw [List.foldl_append]; rfl
theorem w37_s {l : List Nat} {c : Nat} : w37 (l ++ [c]) = 37 * w37 l + c := by unfold w37; rw [List.foldl_append]; rfl
/-! tokens -/
def tP (t : List Nat) (i : Nat) : Nat := rn isB t i
def tC (t : List Nat) (i : Nat) : Nat := t.getD (tP t i) 0
def tE (t : List Nat) (i : Nat) : Nat := if tP t i < t.length then (if isL (tC t i) then rn isL t (tP t i) else if isG (tC t i) then rn isG t (tP t i) else tP t i + 1) else tP t i
def tS (t : List Nat) (i : Nat) : Nat := if tP t i < t.length then (if isL (tC t i) then (if tE t i - tP t i ≤ 8 then 1 else 4) else if isG (tC t i) then (if tE t i - tP t i ≤ 4 then 2 else 4) else if isS (tC t i) then 3 else 4) else 0
def tW (t : List Nat) (i : Nat) : List Nat := lts (sub t (tP t i) (tE t i))
def tV (t : List Nat) (i : Nat) : Nat := dgs (sub t (tP t i) (tE t i))
def pos (t : List Nat) : Nat → Nat
  | 0 => 0
  | n + 1 => tE t (pos t n)
def kS (t : List Nat) (n : Nat) : Nat := tS t (pos t n)
def kP (t : List Nat) (n : Nat) : Nat := tP t (pos t n)
def kC (t : List Nat) (n : Nat) : Nat := tC t (pos t n)
def kW (t : List Nat) (n : Nat) : List Nat := tW t (pos t n)
def kV (t : List Nat) (n : Nat) : Nat := tV t (pos t n)
def kwI (w : List Nat) : Nat := fa_first (fun i => decide (KW.getD i [] = w)) 24
def kK (t : List Nat) (n : Nat) : Nat := if kS t n = 1 then kwI (kW t n) else 24
theorem tP_le {t : List Nat} {i : Nat} (h : i ≤ t.length) : tP t i ≤ t.length := rn_le (Nat.le_refl _) h
theorem tE_ge {t : List Nat} {i : Nat} (h : tP t i < t.length) : tP t i < tE t i := by
  unfold tE
  rw [if_pos h]
  split
  · rename_i c
    rw [rn_go h c]; exact Nat.lt_of_lt_of_le (Nat.lt_succ_self _) rn_ge
  · split
    · rename_i c
      rw [rn_go h c]; exact Nat.lt_of_lt_of_le (Nat.lt_succ_self _) rn_ge
    · omega
theorem tE_le {t : List Nat} {i : Nat} (h : i ≤ t.length) : tE t i ≤ t.length := by
  have := tP_le h
  unfold tE
  split
  · rename_i c
    split
    · exact rn_le (Nat.le_refl _) this
    · split
      · exact rn_le (Nat.le_refl _) this
      · omega
  · exact this
theorem pos_le {t : List Nat} : ∀ n, pos t n ≤ t.length
  | 0 => Nat.zero_le _
  | n + 1 => tE_le (pos_le n)
theorem tS_0 {t : List Nat} {i : Nat} : tS t i = 0 ↔ ¬ tP t i < t.length := by
  unfold tS
  by_cases c : tP t i < t.length
  · rw [if_pos c]
    refine ⟨fun z => ?_, fun z => absurd c z⟩
    split at z
    · split at z <;> omega
    · split at z
      · split at z <;> omega
      · split at z <;> omega
  · rw [if_neg c]; exact ⟨fun _ => c, fun _ => rfl⟩
theorem kS_pos {t : List Nat} {n : Nat} (h : kS t n ≠ 0) : kP t n < t.length ∧ kP t n < pos t (n + 1) ∧ pos t n ≤ kP t n := by
  have c : tP t (pos t n) < t.length := Decidable.byContradiction (fun z => h (tS_0.mpr z))
  exact ⟨c, tE_ge c, rn_ge⟩
/-- all tokens before the n-th are there -/
def Rch (t : List Nat) (n : Nat) : Prop := ∀ m, m < n → kS t m ≠ 0
theorem Rch.z {t : List Nat} : Rch t 0 := fun m h => absurd h (Nat.not_lt_zero m)
theorem Rch.s {t : List Nat} {n : Nat} (h : Rch t n) (h2 : kS t n ≠ 0) : Rch t (n + 1) := fun m hm => by
  by_cases e : m = n
  · subst e; exact h2
  · exact h m (by omega)
theorem Rch.le {t : List Nat} : ∀ {n : Nat}, Rch t n → n ≤ pos t n
  | 0, _ => Nat.zero_le _
  | n + 1, h => by
    have h1 := Rch.le (n := n) (fun m hm => h m (by omega))
    have := kS_pos (h n (by omega))
    omega
theorem Rch.len {t : List Nat} {n : Nat} (h : Rch t n) : n ≤ t.length := Nat.le_trans h.le (pos_le n)
/-! words as numbers -/
theorem fr32 : ∀ (a b : List Nat), (∀ c ∈ a, 1 ≤ c ∧ c ≤ 26) → (∀ c ∈ b, 1 ≤ c ∧ c ≤ 26) → a.foldr (fun c x => x * 32 + c) 0 = b.foldr (fun c x => x * 32 + c) 0 → a = b
  | [], [], _, _, _ => rfl
  | [], c :: b, _, hb, h => by
    have := hb c List.mem_cons_self
    simp only [List.foldr_nil, List.foldr_cons] at h; omega
  | c :: a, [], ha, _, h => by
    have := ha c List.mem_cons_self
    simp only [List.foldr_nil, List.foldr_cons] at h; omega
  | c :: a, e :: b, ha, hb, h => by
    have h1 := ha c List.mem_cons_self
    have h2 := hb e List.mem_cons_self
    simp only [List.foldr_cons] at h
    have e1 : c = e := by omega
    have e2 := fr32 a b (fun x hx => ha x (List.mem_cons_of_mem _ hx)) (fun x hx => hb x (List.mem_cons_of_mem _ hx)) (by omega)
    rw [e1, e2]
theorem fr37 : ∀ (a b : List Nat), (∀ c ∈ a, 1 ≤ c ∧ c ≤ 26) → (∀ c ∈ b, 1 ≤ c ∧ c ≤ 26) → a.foldr (fun c x => 37 * x + c) 0 = b.foldr (fun c x => 37 * x + c) 0 → a = b
  | [], [], _, _, _ => rfl
  | [], c :: b, _, hb, h => by
    have := hb c List.mem_cons_self
    simp only [List.foldr_nil, List.foldr_cons] at h; omega
  | c :: a, [], ha, _, h => by
    have := ha c List.mem_cons_self
    simp only [List.foldr_nil, List.foldr_cons] at h; omega
  | c :: a, e :: b, ha, hb, h => by
    have h1 := ha c List.mem_cons_self
    have h2 := hb e List.mem_cons_self
    simp only [List.foldr_cons] at h
    have e1 : c = e := by omega
    have e2 := fr37 a b (fun x hx => ha x (List.mem_cons_of_mem _ hx)) (fun x hx => hb x (List.mem_cons_of_mem _ hx)) (by omega)
    rw [e1, e2]
def ltr (w : List Nat) : Prop := ∀ c ∈ w, 1 ≤ c ∧ c ≤ 26
theorem w5_inj {a b : List Nat} (ha : ltr a) (hb : ltr b) (h : w5 a = w5 b) : a = b := by
  unfold w5 at h
  rw [← List.foldr_reverse, ← List.foldr_reverse] at h
  have := fr32 a.reverse b.reverse (fun c hc => ha c (List.mem_reverse.mp hc)) (fun c hc => hb c (List.mem_reverse.mp hc)) h
  rw [← List.reverse_reverse (as := a), this, List.reverse_reverse]
theorem w37_inj {a b : List Nat} (ha : ltr a) (hb : ltr b) (h : w37 a = w37 b) : a = b := by
  unfold w37 at h
  rw [← List.foldr_reverse, ← List.foldr_reverse] at h
  have := fr37 a.reverse b.reverse (fun c hc => ha c (List.mem_reverse.mp hc)) (fun c hc => hb c (List.mem_reverse.mp hc)) h
  rw [← List.reverse_reverse (as := a), this, List.reverse_reverse]
theorem fr_b : ∀ (a : List Nat), (∀ c ∈ a, 1 ≤ c ∧ c ≤ 26) → a.foldr (fun c x => x * 32 + c) 0 < 37 ^ a.length ∧ a.foldr (fun c x => 37 * x + c) 0 < 37 ^ a.length
  | [], _ => ⟨by decide, by decide⟩
  | c :: a, ha => by
    have h1 := ha c List.mem_cons_self
    have h2 := fr_b a (fun x hx => ha x (List.mem_cons_of_mem _ hx))
    simp only [List.foldr_cons, List.length_cons, Nat.pow_succ]
    omega
theorem w_b {a : List Nat} (ha : ltr a) (hl : a.length ≤ 8) : w5 a < 2 ^ 62 ∧ w37 a < 2 ^ 62 := by
  unfold w5 w37
  rw [← List.foldr_reverse, ← List.foldr_reverse]
  have := fr_b a.reverse (fun c hc => ha c (List.mem_reverse.mp hc))
  have h2 : 37 ^ a.reverse.length ≤ 37 ^ 8 := Nat.pow_le_pow_right (by decide) (by rw [List.length_reverse]; exact hl)
  omega
theorem lN_inj {a b : Nat} (ha : a < 2 ^ 62) (hb : b < 2 ^ 62) (h : lN a = lN b) : a = b := by
  have h2 : BitVec.ofNat 64 a = BitVec.ofNat 64 b := congrArg Int64.toBitVec h
  have h3 := congrArg BitVec.toNat h2
  rw [BitVec.toNat_ofNat, BitVec.toNat_ofNat, Nat.mod_eq_of_lt (by omega), Nat.mod_eq_of_lt (by omega)] at h3
  exact h3
def okw (w : List Nat) : Prop := ltr w ∧ w.length ≤ 8
theorem l5_iff {a b : List Nat} (ha : okw a) (hb : okw b) : lN (w5 a) = lN (w5 b) ↔ a = b := ⟨fun h => w5_inj ha.1 hb.1 (lN_inj (w_b ha.1 ha.2).1 (w_b hb.1 hb.2).1 h), fun h => by rw [h]⟩
theorem l37_iff {a b : List Nat} (ha : okw a) (hb : okw b) : lN (w37 a) = lN (w37 b) ↔ a = b := ⟨fun h => w37_inj ha.1 hb.1 (lN_inj (w_b ha.1 ha.2).2 (w_b hb.1 hb.2).2 h), fun h => by rw [h]⟩
theorem KW_ok {q : Nat} (h : q < 24) : okw (KW.getD q []) := by
  have : ∀ q : Fin 24, (∀ c ∈ KW.getD q.val [], 1 ≤ c ∧ c ≤ 26) ∧ (KW.getD q.val []).length ≤ 8 := by decide
  exact this ⟨q, h⟩
theorem KW_inj {p q : Nat} (hp : p < 24) (hq : q < 24) (h : KW.getD p [] = KW.getD q []) : p = q := by
  have : ∀ p q : Fin 24, KW.getD p.val [] = KW.getD q.val [] → p.val = q.val := by decide +kernel
  exact this ⟨p, hp⟩ ⟨q, hq⟩ h
theorem kwI_le {w : List Nat} : kwI w ≤ 24 := fa_first_le _ 24
theorem kwI_iff {w : List Nat} {q : Nat} (hq : q < 24) : kwI w = q ↔ KW.getD q [] = w := by
  constructor
  · intro h
    have := fa_first_yes (fun i => decide (KW.getD i [] = w)) 24 (by unfold kwI at h; omega)
    unfold kwI at h
    rw [h] at this
    exact of_decide_eq_true this
  · intro h
    have h1 : ¬ q < kwI w := fun z => by
      have := fa_first_no (fun i => decide (KW.getD i [] = w)) 24 q z
      exact absurd h (of_decide_eq_false this)
    have h2 := fa_first_yes (fun i => decide (KW.getD i [] = w)) 24 (by unfold kwI at h1; omega)
    have h3 : KW.getD (kwI w) [] = w := of_decide_eq_true h2
    exact KW_inj (by omega) hq (h3.trans h.symm)
theorem tW_ok {t : List Nat} {i : Nat} (h : tS t i = 1) : okw (tW t i) := by
  have h0 : tP t i < t.length := Decidable.byContradiction (fun z => by rw [tS_0.mpr z] at h; exact absurd h (by decide))
  have hL : isL (tC t i) = true ∧ tE t i - tP t i ≤ 8 := by
    unfold tS at h
    rw [if_pos h0] at h
    split at h
    · rename_i c
      split at h
      · rename_i c2; exact ⟨c, c2⟩
      · omega
    · split at h
      · split at h <;> omega
      · split at h <;> omega
  have e : tE t i = rn isL t (tP t i) := by unfold tE; rw [if_pos h0, if_pos hL.1]
  have hle : tE t i ≤ t.length := by rw [e]; exact rn_le (Nat.le_refl _) (by omega)
  refine ⟨fun c hc => ?_, ?_⟩
  · unfold tW lts at hc
    obtain ⟨x, hx, rfl⟩ := List.mem_map.mp hc
    obtain ⟨k, h1, h2, rfl⟩ := sub_mem (Nat.le_of_lt (tE_ge h0)) hle hx
    rw [e] at h2
    have := isL_t.mp (rn_in (Nat.le_refl _) h1 h2).2
    omega
  · unfold tW lts
    rw [List.length_map, sub_len hle]; exact hL.2
theorem kW_ok {t : List Nat} {n : Nat} (h : kS t n = 1) : okw (kW t n) := tW_ok h
theorem kK_lt {t : List Nat} {n : Nat} (h : kK t n < 24) : kS t n = 1 := by
  unfold kK at h
  split at h
  · assumption
  · omega
theorem kK_iff {t : List Nat} {n q : Nat} (hq : q < 24) : kK t n = q ↔ kS t n = 1 ∧ KW.getD q [] = kW t n := by
  unfold kK
  by_cases c : kS t n = 1
  · rw [if_pos c, kwI_iff hq]; exact ⟨fun h => ⟨c, h⟩, fun h => h.2⟩
  · rw [if_neg c]; exact ⟨fun h => by omega, fun h => absurd h.1 c⟩
