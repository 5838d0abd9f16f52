/-! hills: small pieces of the class -/
theorem x_fill_debts_reach {v : Int32} {M : Mem} {Q : Mem → Prop} (k : ∀ M', Fr [c_debts_reach] M M' → (∀ i, i < 1536 → M'.1 c_debts_reach i = v) → Q M') : w_Jarr_fill_debts_reach v M Q := by
  unfold w_Jarr_fill_debts_reach
  refine for_loop (fun n i (M1 : Mem) => w_Jarr_fill_debts_reach_L5 v 1536 (fun M384 => Q M384) Q n (nI i) M1) (fun i M1 => Fr [c_debts_reach] M M1 ∧ ∀ j, j < i → M1.1 c_debts_reach j = v) 1536 0 M (Nat.zero_le _) ⟨Fr.rfl, fun j hj => absurd hj (Nat.not_lt_zero j)⟩ ?_ ?_
  · intro n M1 ⟨hF, hs⟩
    exact br_le (a := 1536) (b := 1536) (by decide) (by decide) (fun _ => k M1 hF hs) (fun q => absurd q (by omega))
  · intro n i M1 _ hi ⟨hF, hs⟩ kk
    refine br_le (a := 1536) (by decide) (by omega) (fun q => absurd q (by omega)) (fun _ => ⟨vp_in_nI hi (by decide), ?_⟩)
    rw [nI_1, nI_clamp (by omega)]
    refine kk _ ⟨hF.put _ _ _ (by decide), fun j hj => ?_⟩
    rw [si_same]
    by_cases e : j = i
    · subst e; exact up_s
    · rw [up_n e]; exact hs j (by omega)
theorem x_fill_debts_rateKey {v : Int32} {M : Mem} {Q : Mem → Prop} (k : ∀ M', Fr [c_debts_rateKey] M M' → (∀ i, i < 512 → M'.1 c_debts_rateKey i = v) → Q M') : w_Jarr_fill_debts_rateKey v M Q := by
  unfold w_Jarr_fill_debts_rateKey
  refine for_loop (fun n i (M1 : Mem) => w_Jarr_fill_debts_rateKey_L5 v 512 (fun M384 => Q M384) Q n (nI i) M1) (fun i M1 => Fr [c_debts_rateKey] M M1 ∧ ∀ j, j < i → M1.1 c_debts_rateKey j = v) 512 0 M (Nat.zero_le _) ⟨Fr.rfl, fun j hj => absurd hj (Nat.not_lt_zero j)⟩ ?_ ?_
  · intro n M1 ⟨hF, hs⟩
    exact br_le (a := 512) (b := 512) (by decide) (by decide) (fun _ => k M1 hF hs) (fun q => absurd q (by omega))
  · intro n i M1 _ hi ⟨hF, hs⟩ kk
    refine br_le (a := 512) (by decide) (by omega) (fun q => absurd q (by omega)) (fun _ => ⟨vp_in_nI hi (by decide), ?_⟩)
    rw [nI_1, nI_clamp (by omega)]
    refine kk _ ⟨hF.put _ _ _ (by decide), fun j hj => ?_⟩
    rw [si_same]
    by_cases e : j = i
    · subst e; exact up_s
    · rw [up_n e]; exact hs j (by omega)
theorem x_fill_deeds_debt {v : Int32} {M : Mem} {Q : Mem → Prop} (k : ∀ M', Fr [c_deeds_debt] M M' → (∀ i, i < 6 → M'.1 c_deeds_debt i = v) → Q M') : w_Jarr_fill_deeds_debt v M Q := by
  unfold w_Jarr_fill_deeds_debt
  refine for_loop (fun n i (M1 : Mem) => w_Jarr_fill_deeds_debt_L5 v 6 (fun M384 => Q M384) Q n (nI i) M1) (fun i M1 => Fr [c_deeds_debt] M M1 ∧ ∀ j, j < i → M1.1 c_deeds_debt j = v) 6 0 M (Nat.zero_le _) ⟨Fr.rfl, fun j hj => absurd hj (Nat.not_lt_zero j)⟩ ?_ ?_
  · intro n M1 ⟨hF, hs⟩
    exact br_le (a := 6) (b := 6) (by decide) (by decide) (fun _ => k M1 hF hs) (fun q => absurd q (by omega))
  · intro n i M1 _ hi ⟨hF, hs⟩ kk
    refine br_le (a := 6) (by decide) (by omega) (fun q => absurd q (by omega)) (fun _ => ⟨vp_in_nI hi (by decide), ?_⟩)
    rw [nI_1, nI_clamp (by omega)]
    refine kk _ ⟨hF.put _ _ _ (by decide), fun j hj => ?_⟩
    rw [si_same]
    by_cases e : j = i
    · subst e; exact up_s
    · rw [up_n e]; exact hs j (by omega)
theorem x_fill_reader_goes {v : Int32} {M : Mem} {Q : Mem → Prop} (k : ∀ M', Fr [c_reader_goes] M M' → (∀ i, i < 144 → M'.1 c_reader_goes i = v) → Q M') : w_Jarr_fill_reader_goes v M Q := by
  unfold w_Jarr_fill_reader_goes
  refine for_loop (fun n i (M1 : Mem) => w_Jarr_fill_reader_goes_L5 v 144 (fun M384 => Q M384) Q n (nI i) M1) (fun i M1 => Fr [c_reader_goes] M M1 ∧ ∀ j, j < i → M1.1 c_reader_goes j = v) 144 0 M (Nat.zero_le _) ⟨Fr.rfl, fun j hj => absurd hj (Nat.not_lt_zero j)⟩ ?_ ?_
  · intro n M1 ⟨hF, hs⟩
    exact br_le (a := 144) (b := 144) (by decide) (by decide) (fun _ => k M1 hF hs) (fun q => absurd q (by omega))
  · intro n i M1 _ hi ⟨hF, hs⟩ kk
    refine br_le (a := 144) (by decide) (by omega) (fun q => absurd q (by omega)) (fun _ => ⟨vp_in_nI hi (by decide), ?_⟩)
    rw [nI_1, nI_clamp (by omega)]
    refine kk _ ⟨hF.put _ _ _ (by decide), fun j hj => ?_⟩
    rw [si_same]
    by_cases e : j = i
    · subst e; exact up_s
    · rw [up_n e]; exact hs j (by omega)
theorem x_forget {l : Land} {M : Mem} {Q : Mem → Prop} (k : ∀ M', Fr [c_debts_reach, c_debts_rateKey] M M' → RC l M' → KC l M' → Q M') : w_Debts_forget M Q := by
  unfold w_Debts_forget
  refine x_fill_debts_reach (fun M1 hF1 h1 => x_fill_debts_rateKey (fun M2 hF2 h2 => k M2 ((hF1.mono (by decide)).trans (hF2.mono (by decide))) (fun _ h c hh hc => Or.inl ?_) (fun _ s hs => Or.inl (h2 s hs))))
  rw [hF2.1 _ (by decide)]
  exact h1 _ (by omega)
