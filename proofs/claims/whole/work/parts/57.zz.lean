/-! small numbers -/
theorem dg_b : ∀ (a : List Nat), (∀ c ∈ a, 48 ≤ c ∧ c ≤ 57) → a.foldr (fun c x => x * 10 + (c - 48)) 0 < 10 ^ a.length
  | [], _ => by decide
  | c :: a, ha => by
    have h1 := ha c List.mem_cons_self
    have h2 := dg_b a (fun x hx => ha x (List.mem_cons_of_mem _ hx))
    simp only [List.foldr_cons, List.length_cons, Nat.pow_succ]
    omega
theorem dgs_b {a : List Nat} (ha : ∀ c ∈ a, 48 ≤ c ∧ c ≤ 57) (hl : a.length ≤ 4) : dgs a ≤ 9999 := by
  unfold dgs
  rw [← List.foldr_reverse]
  have := dg_b a.reverse (fun c hc => ha c (List.mem_reverse.mp hc))
  have h2 : 10 ^ a.reverse.length ≤ 10 ^ 4 := Nat.pow_le_pow_right (by decide) (by rw [List.length_reverse]; exact hl)
  omega
theorem tV_lt {t : List Nat} {i : Nat} (h : tS t i = 2) : tV t i ≤ 9999 := by
  have h0 : tP t i < t.length := Decidable.byContradiction (fun z => by rw [tS_0.mpr z] at h; exact absurd h (by decide))
  have hL : isL (tC t i) = false ∧ isG (tC t i) = true ∧ tE t i - tP t i ≤ 4 := by
    unfold tS at h
    rw [if_pos h0] at h
    split at h
    · split at h <;> omega
    · rename_i c0
      split at h
      · rename_i c
        split at h
        · rename_i c2; exact ⟨bf_n c0, c, c2⟩
        · omega
      · split at h <;> omega
  have e : tE t i = rn isG t (tP t i) := by unfold tE; rw [if_pos h0, hL.1, hL.2.1]; rfl
  have hle : tE t i ≤ t.length := by rw [e]; exact rn_le (Nat.le_refl _) (by omega)
  unfold tV
  refine dgs_b (fun c hc => ?_) (by rw [sub_len hle]; exact hL.2.2)
  obtain ⟨k, h1, h2, rfl⟩ := sub_mem (Nat.le_of_lt (tE_ge h0)) hle hc
  rw [e] at h2
  exact isG_t.mp (rn_in (Nat.le_refl _) h1 h2).2
theorem vV_lt {t : List Nat} {n : Nat} (h : kS t n = 2) : kV t n ≤ 9999 := tV_lt h
theorem nI_m5 {n : Nat} (h : n < 2 ^ 31) : -5 < nI n := by
  rw [fa_lt, nI_toInt h, show (-5 : Int32).toInt = -5 from rfl]; omega
theorem nI_nm4 {n : Nat} (h : n < 2 ^ 31) : ¬ nI n = -4 := by
  rw [fa_eq, nI_toInt h, show (-4 : Int32).toInt = -4 from rfl]; omega
