/-! what is made: both lands are cleared -/
theorem zland_fillT {v : Int32} {M : Mem} {Q : Mem → Prop} (k : ∀ M', Fr [c_land_times] M M' → (∀ i, i < 120 → M'.1 c_land_times i = v) → Q M') : w_Jarr_fill_land v M Q := by
  unfold w_Jarr_fill_land
  refine for_loop (fun n i (M1 : Mem) => w_Jarr_fill_L5_land v 120 (fun M384 => Q M384) Q n (nI i) M1) (fun i M1 => Fr [c_land_times] M M1 ∧ ∀ j, j < i → M1.1 c_land_times j = v) 120 0 M (Nat.zero_le _) ⟨Fr.rfl, fun j hj => absurd hj (Nat.not_lt_zero j)⟩ ?_ ?_
  · intro n M1 ⟨hF, hs⟩
    exact br_le (a := 120) (b := 120) (by decide) (by decide) (fun _ => k M1 hF hs) (fun q => absurd q (by omega))
  · intro n i M1 _ hi ⟨hF, hs⟩ kk
    refine br_le (a := 120) (by decide) (by omega) (fun q => absurd q (by omega)) (fun _ => ⟨vp_in_nI hi (by decide), ?_⟩)
    rw [nI_1, nI_clamp (by omega)]
    refine kk _ ⟨hF.put _ _ _ (by decide), fun j hj => ?_⟩
    rw [si_same]
    by_cases e : j = i
    · subst e; exact up_s
    · rw [up_n e]; exact hs j (by omega)
theorem zland_holdO {cl : Nat} {x : Int32} {M : Mem} {Q : Mem → Prop} (hc : M.1 c_land Land_codeLength = nI cl) (hl : cl < 1024) (k : ∀ M', Fr [c_land_owe, c_land, c_land_code] M M' → (∀ j, j ≠ Land_codeLength → M'.1 c_land j = M.1 c_land j) → (∀ i, i < cl → M'.1 c_land_code i = M.1 c_land_code i) → M'.1 c_land_code cl = x → M'.1 c_land Land_codeLength = nI (cl + 1) → M'.1 c_land_owe Law_isTold = 0 → M'.1 c_land_owe Law_from = nI cl → M'.1 c_land_owe Law_to = nI (cl + 1) → Q M') : w_Land_holdUntold_land x M Q := by
  unfold w_Land_holdUntold_land w_Land_addStep_land
  have e0 : (si (si M c_land_owe Law_isTold 0) c_land_owe Law_from (M.1 c_land Land_codeLength)).1 c_land Land_codeLength = nI cl := by
    rw [si_ne _ _ _ (by decide), si_ne _ _ _ (by decide)]; exact hc
  rw [e0]
  refine ⟨fun z => absurd z (ni_nneg (by omega)), fun _ => br_le (a := 1024) (by decide) (by omega) (fun z => absurd z (by omega)) (fun _ => ⟨vp_in_nI hl (by decide), ?_⟩)⟩
  rw [nI_clamp (by omega), nI_1, hc]
  refine k _ ((((((fr_si (by decide)).put _ _ _ (by decide)).put _ _ _ (by decide)).put _ _ _ (by decide)).put _ _ _ (by decide))) (fun j hj => ?_) (fun i hi => ?_) ?_ ?_ ?_ ?_ ?_
  · rw [si_ne _ _ _ (by decide), si_of hj, si_ne _ _ _ (by decide), si_ne _ _ _ (by decide), si_ne _ _ _ (by decide)]
  · rw [si_ne _ _ _ (by decide), si_ne _ _ _ (by decide), si_of (by omega), si_ne _ _ _ (by decide), si_ne _ _ _ (by decide)]
  · rw [si_ne _ _ _ (by decide), si_ne _ _ _ (by decide), si_at]
  · rw [si_ne _ _ _ (by decide), si_at]
  · rw [si_of (by decide), si_ne _ _ _ (by decide), si_ne _ _ _ (by decide), si_of (by decide), si_at]
  · rw [si_of (by decide), si_ne _ _ _ (by decide), si_ne _ _ _ (by decide), si_at]
  · rw [si_at, si_at]
theorem zland_holdF {cl : Nat} {x : Int32} {M : Mem} {Q : Mem → Prop} (hc : M.1 c_land Land_codeLength = nI cl) (hl : cl < 1024) (k : ∀ M', Fr [c_land_fog, c_land, c_land_code] M M' → (∀ j, j ≠ Land_codeLength → M'.1 c_land j = M.1 c_land j) → (∀ i, i < cl → M'.1 c_land_code i = M.1 c_land_code i) → M'.1 c_land_code cl = x → M'.1 c_land Land_codeLength = nI (cl + 1) → M'.1 c_land_fog Law_isTold = 0 → M'.1 c_land_fog Law_from = nI cl → M'.1 c_land_fog Law_to = nI (cl + 1) → Q M') : w_Land_holdUntold_draft_fog_land x M Q := by
  unfold w_Land_holdUntold_draft_fog_land w_Land_addStep_land
  have e0 : (si (si M c_land_fog Law_isTold 0) c_land_fog Law_from (M.1 c_land Land_codeLength)).1 c_land Land_codeLength = nI cl := by
    rw [si_ne _ _ _ (by decide), si_ne _ _ _ (by decide)]; exact hc
  rw [e0]
  refine ⟨fun z => absurd z (ni_nneg (by omega)), fun _ => br_le (a := 1024) (by decide) (by omega) (fun z => absurd z (by omega)) (fun _ => ⟨vp_in_nI hl (by decide), ?_⟩)⟩
  rw [nI_clamp (by omega), nI_1, hc]
  refine k _ ((((((fr_si (by decide)).put _ _ _ (by decide)).put _ _ _ (by decide)).put _ _ _ (by decide)).put _ _ _ (by decide))) (fun j hj => ?_) (fun i hi => ?_) ?_ ?_ ?_ ?_ ?_
  · rw [si_ne _ _ _ (by decide), si_of hj, si_ne _ _ _ (by decide), si_ne _ _ _ (by decide), si_ne _ _ _ (by decide)]
  · rw [si_ne _ _ _ (by decide), si_ne _ _ _ (by decide), si_of (by omega), si_ne _ _ _ (by decide), si_ne _ _ _ (by decide)]
  · rw [si_ne _ _ _ (by decide), si_ne _ _ _ (by decide), si_at]
  · rw [si_ne _ _ _ (by decide), si_at]
  · rw [si_of (by decide), si_ne _ _ _ (by decide), si_ne _ _ _ (by decide), si_of (by decide), si_at]
  · rw [si_of (by decide), si_ne _ _ _ (by decide), si_ne _ _ _ (by decide), si_at]
  · rw [si_at, si_at]
theorem zdraft_fillT {v : Int32} {M : Mem} {Q : Mem → Prop} (k : ∀ M', Fr [c_draft_times] M M' → (∀ i, i < 120 → M'.1 c_draft_times i = v) → Q M') : w_Jarr_fill_draft v M Q := by
  unfold w_Jarr_fill_draft
  refine for_loop (fun n i (M1 : Mem) => w_Jarr_fill_L5_draft v 120 (fun M384 => Q M384) Q n (nI i) M1) (fun i M1 => Fr [c_draft_times] M M1 ∧ ∀ j, j < i → M1.1 c_draft_times j = v) 120 0 M (Nat.zero_le _) ⟨Fr.rfl, fun j hj => absurd hj (Nat.not_lt_zero j)⟩ ?_ ?_
  · intro n M1 ⟨hF, hs⟩
    exact br_le (a := 120) (b := 120) (by decide) (by decide) (fun _ => k M1 hF hs) (fun q => absurd q (by omega))
  · intro n i M1 _ hi ⟨hF, hs⟩ kk
    refine br_le (a := 120) (by decide) (by omega) (fun q => absurd q (by omega)) (fun _ => ⟨vp_in_nI hi (by decide), ?_⟩)
    rw [nI_1, nI_clamp (by omega)]
    refine kk _ ⟨hF.put _ _ _ (by decide), fun j hj => ?_⟩
    rw [si_same]
    by_cases e : j = i
    · subst e; exact up_s
    · rw [up_n e]; exact hs j (by omega)
theorem zdraft_holdO {cl : Nat} {x : Int32} {M : Mem} {Q : Mem → Prop} (hc : M.1 c_draft Land_codeLength = nI cl) (hl : cl < 1024) (k : ∀ M', Fr [c_draft_owe, c_draft, c_draft_code] M M' → (∀ j, j ≠ Land_codeLength → M'.1 c_draft j = M.1 c_draft j) → (∀ i, i < cl → M'.1 c_draft_code i = M.1 c_draft_code i) → M'.1 c_draft_code cl = x → M'.1 c_draft Land_codeLength = nI (cl + 1) → M'.1 c_draft_owe Law_isTold = 0 → M'.1 c_draft_owe Law_from = nI cl → M'.1 c_draft_owe Law_to = nI (cl + 1) → Q M') : w_Land_holdUntold_draft x M Q := by
  unfold w_Land_holdUntold_draft w_Land_addStep_draft
  have e0 : (si (si M c_draft_owe Law_isTold 0) c_draft_owe Law_from (M.1 c_draft Land_codeLength)).1 c_draft Land_codeLength = nI cl := by
    rw [si_ne _ _ _ (by decide), si_ne _ _ _ (by decide)]; exact hc
  rw [e0]
  refine ⟨fun z => absurd z (ni_nneg (by omega)), fun _ => br_le (a := 1024) (by decide) (by omega) (fun z => absurd z (by omega)) (fun _ => ⟨vp_in_nI hl (by decide), ?_⟩)⟩
  rw [nI_clamp (by omega), nI_1, hc]
  refine k _ ((((((fr_si (by decide)).put _ _ _ (by decide)).put _ _ _ (by decide)).put _ _ _ (by decide)).put _ _ _ (by decide))) (fun j hj => ?_) (fun i hi => ?_) ?_ ?_ ?_ ?_ ?_
  · rw [si_ne _ _ _ (by decide), si_of hj, si_ne _ _ _ (by decide), si_ne _ _ _ (by decide), si_ne _ _ _ (by decide)]
  · rw [si_ne _ _ _ (by decide), si_ne _ _ _ (by decide), si_of (by omega), si_ne _ _ _ (by decide), si_ne _ _ _ (by decide)]
  · rw [si_ne _ _ _ (by decide), si_ne _ _ _ (by decide), si_at]
  · rw [si_ne _ _ _ (by decide), si_at]
  · rw [si_of (by decide), si_ne _ _ _ (by decide), si_ne _ _ _ (by decide), si_of (by decide), si_at]
  · rw [si_of (by decide), si_ne _ _ _ (by decide), si_ne _ _ _ (by decide), si_at]
  · rw [si_at, si_at]
theorem zdraft_holdF {cl : Nat} {x : Int32} {M : Mem} {Q : Mem → Prop} (hc : M.1 c_draft Land_codeLength = nI cl) (hl : cl < 1024) (k : ∀ M', Fr [c_draft_fog, c_draft, c_draft_code] M M' → (∀ j, j ≠ Land_codeLength → M'.1 c_draft j = M.1 c_draft j) → (∀ i, i < cl → M'.1 c_draft_code i = M.1 c_draft_code i) → M'.1 c_draft_code cl = x → M'.1 c_draft Land_codeLength = nI (cl + 1) → M'.1 c_draft_fog Law_isTold = 0 → M'.1 c_draft_fog Law_from = nI cl → M'.1 c_draft_fog Law_to = nI (cl + 1) → Q M') : w_Land_holdUntold_draft_fog_draft x M Q := by
  unfold w_Land_holdUntold_draft_fog_draft w_Land_addStep_draft
  have e0 : (si (si M c_draft_fog Law_isTold 0) c_draft_fog Law_from (M.1 c_draft Land_codeLength)).1 c_draft Land_codeLength = nI cl := by
    rw [si_ne _ _ _ (by decide), si_ne _ _ _ (by decide)]; exact hc
  rw [e0]
  refine ⟨fun z => absurd z (ni_nneg (by omega)), fun _ => br_le (a := 1024) (by decide) (by omega) (fun z => absurd z (by omega)) (fun _ => ⟨vp_in_nI hl (by decide), ?_⟩)⟩
  rw [nI_clamp (by omega), nI_1, hc]
  refine k _ ((((((fr_si (by decide)).put _ _ _ (by decide)).put _ _ _ (by decide)).put _ _ _ (by decide)).put _ _ _ (by decide))) (fun j hj => ?_) (fun i hi => ?_) ?_ ?_ ?_ ?_ ?_
  · rw [si_ne _ _ _ (by decide), si_of hj, si_ne _ _ _ (by decide), si_ne _ _ _ (by decide), si_ne _ _ _ (by decide)]
  · rw [si_ne _ _ _ (by decide), si_ne _ _ _ (by decide), si_of (by omega), si_ne _ _ _ (by decide), si_ne _ _ _ (by decide)]
  · rw [si_ne _ _ _ (by decide), si_ne _ _ _ (by decide), si_at]
  · rw [si_ne _ _ _ (by decide), si_at]
  · rw [si_of (by decide), si_ne _ _ _ (by decide), si_ne _ _ _ (by decide), si_of (by decide), si_at]
  · rw [si_of (by decide), si_ne _ _ _ (by decide), si_ne _ _ _ (by decide), si_at]
  · rw [si_at, si_at]
