/-! what is made: the tape's table is the table of words; debts of the day are not known -/
theorem kwF_KW : ∀ i, i < 24 → kwF 108 i = lN (w5 (KW.getD i [])) := by decide +kernel
theorem z_fill_deeds_debt {v : Int32} {M : Mem} {Q : Mem → Prop} (k : ∀ M', Fr [c_deeds_debt] M M' → (∀ i, i < 6 → M'.1 c_deeds_debt i = v) → Q M') : w_Jarr_fill_deeds_debt_deeds_debt v M Q := by
  unfold w_Jarr_fill_deeds_debt_deeds_debt
  refine for_loop (fun n i (M1 : Mem) => w_Jarr_fill_deeds_debt_L5_deeds_debt v 6 (fun M384 => Q M384) Q n (nI i) M1) (fun i M1 => Fr [c_deeds_debt] M M1 ∧ ∀ j, j < i → M1.1 c_deeds_debt j = v) 6 0 M (Nat.zero_le _) ⟨Fr.rfl, fun j hj => absurd hj (Nat.not_lt_zero j)⟩ ?_ ?_
  · intro n M1 ⟨hF, hs⟩
    exact br_le (a := 6) (b := 6) (by decide) (by decide) (fun _ => k M1 hF hs) (fun q => absurd q (by omega))
  · intro n i M1 _ hi ⟨hF, hs⟩ kk
    refine br_le (a := 6) (by decide) (by omega) (fun q => absurd q (by omega)) (fun _ => ⟨vp_in_nI hi (by decide), ?_⟩)
    rw [nI_1, nI_clamp (by omega)]
    refine kk _ ⟨hF.put _ _ _ (by decide), fun j hj => ?_⟩
    rw [si_same]
    by_cases e : j = i
    · subst e; exact up_s
    · rw [up_n e]; exact hs j (by omega)
theorem z_fill_mark0_debt {v : Int32} {M : Mem} {Q : Mem → Prop} (k : ∀ M', Fr [c_mark0_debt] M M' → (∀ i, i < 6 → M'.1 c_mark0_debt i = v) → Q M') : w_Jarr_fill_deeds_debt_mark0_debt v M Q := by
  unfold w_Jarr_fill_deeds_debt_mark0_debt
  refine for_loop (fun n i (M1 : Mem) => w_Jarr_fill_deeds_debt_L5_mark0_debt v 6 (fun M384 => Q M384) Q n (nI i) M1) (fun i M1 => Fr [c_mark0_debt] M M1 ∧ ∀ j, j < i → M1.1 c_mark0_debt j = v) 6 0 M (Nat.zero_le _) ⟨Fr.rfl, fun j hj => absurd hj (Nat.not_lt_zero j)⟩ ?_ ?_
  · intro n M1 ⟨hF, hs⟩
    exact br_le (a := 6) (b := 6) (by decide) (by decide) (fun _ => k M1 hF hs) (fun q => absurd q (by omega))
  · intro n i M1 _ hi ⟨hF, hs⟩ kk
    refine br_le (a := 6) (by decide) (by omega) (fun q => absurd q (by omega)) (fun _ => ⟨vp_in_nI hi (by decide), ?_⟩)
    rw [nI_1, nI_clamp (by omega)]
    refine kk _ ⟨hF.put _ _ _ (by decide), fun j hj => ?_⟩
    rw [si_same]
    by_cases e : j = i
    · subst e; exact up_s
    · rw [up_n e]; exact hs j (by omega)
theorem z_fill_mark1_debt {v : Int32} {M : Mem} {Q : Mem → Prop} (k : ∀ M', Fr [c_mark1_debt] M M' → (∀ i, i < 6 → M'.1 c_mark1_debt i = v) → Q M') : w_Jarr_fill_deeds_debt_mark1_debt v M Q := by
  unfold w_Jarr_fill_deeds_debt_mark1_debt
  refine for_loop (fun n i (M1 : Mem) => w_Jarr_fill_deeds_debt_L5_mark1_debt v 6 (fun M384 => Q M384) Q n (nI i) M1) (fun i M1 => Fr [c_mark1_debt] M M1 ∧ ∀ j, j < i → M1.1 c_mark1_debt j = v) 6 0 M (Nat.zero_le _) ⟨Fr.rfl, fun j hj => absurd hj (Nat.not_lt_zero j)⟩ ?_ ?_
  · intro n M1 ⟨hF, hs⟩
    exact br_le (a := 6) (b := 6) (by decide) (by decide) (fun _ => k M1 hF hs) (fun q => absurd q (by omega))
  · intro n i M1 _ hi ⟨hF, hs⟩ kk
    refine br_le (a := 6) (by decide) (by omega) (fun q => absurd q (by omega)) (fun _ => ⟨vp_in_nI hi (by decide), ?_⟩)
    rw [nI_1, nI_clamp (by omega)]
    refine kk _ ⟨hF.put _ _ _ (by decide), fun j hj => ?_⟩
    rw [si_same]
    by_cases e : j = i
    · subst e; exact up_s
    · rw [up_n e]; exact hs j (by omega)
theorem z_fill_mark2_debt {v : Int32} {M : Mem} {Q : Mem → Prop} (k : ∀ M', Fr [c_mark2_debt] M M' → (∀ i, i < 6 → M'.1 c_mark2_debt i = v) → Q M') : w_Jarr_fill_deeds_debt_mark2_debt v M Q := by
  unfold w_Jarr_fill_deeds_debt_mark2_debt
  refine for_loop (fun n i (M1 : Mem) => w_Jarr_fill_deeds_debt_L5_mark2_debt v 6 (fun M384 => Q M384) Q n (nI i) M1) (fun i M1 => Fr [c_mark2_debt] M M1 ∧ ∀ j, j < i → M1.1 c_mark2_debt j = v) 6 0 M (Nat.zero_le _) ⟨Fr.rfl, fun j hj => absurd hj (Nat.not_lt_zero j)⟩ ?_ ?_
  · intro n M1 ⟨hF, hs⟩
    exact br_le (a := 6) (b := 6) (by decide) (by decide) (fun _ => k M1 hF hs) (fun q => absurd q (by omega))
  · intro n i M1 _ hi ⟨hF, hs⟩ kk
    refine br_le (a := 6) (by decide) (by omega) (fun q => absurd q (by omega)) (fun _ => ⟨vp_in_nI hi (by decide), ?_⟩)
    rw [nI_1, nI_clamp (by omega)]
    refine kk _ ⟨hF.put _ _ _ (by decide), fun j hj => ?_⟩
    rw [si_same]
    by_cases e : j = i
    · subst e; exact up_s
    · rw [up_n e]; exact hs j (by omega)
theorem z_fill_mark3_debt {v : Int32} {M : Mem} {Q : Mem → Prop} (k : ∀ M', Fr [c_mark3_debt] M M' → (∀ i, i < 6 → M'.1 c_mark3_debt i = v) → Q M') : w_Jarr_fill_deeds_debt_mark3_debt v M Q := by
  unfold w_Jarr_fill_deeds_debt_mark3_debt
  refine for_loop (fun n i (M1 : Mem) => w_Jarr_fill_deeds_debt_L5_mark3_debt v 6 (fun M384 => Q M384) Q n (nI i) M1) (fun i M1 => Fr [c_mark3_debt] M M1 ∧ ∀ j, j < i → M1.1 c_mark3_debt j = v) 6 0 M (Nat.zero_le _) ⟨Fr.rfl, fun j hj => absurd hj (Nat.not_lt_zero j)⟩ ?_ ?_
  · intro n M1 ⟨hF, hs⟩
    exact br_le (a := 6) (b := 6) (by decide) (by decide) (fun _ => k M1 hF hs) (fun q => absurd q (by omega))
  · intro n i M1 _ hi ⟨hF, hs⟩ kk
    refine br_le (a := 6) (by decide) (by omega) (fun q => absurd q (by omega)) (fun _ => ⟨vp_in_nI hi (by decide), ?_⟩)
    rw [nI_1, nI_clamp (by omega)]
    refine kk _ ⟨hF.put _ _ _ (by decide), fun j hj => ?_⟩
    rw [si_same]
    by_cases e : j = i
    · subst e; exact up_s
    · rw [up_n e]; exact hs j (by omega)
