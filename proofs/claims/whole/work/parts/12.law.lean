
theorem x_laid {i h a b t : Int32} {M : Mem} {Q : Int32 → Mem → Prop} (k : Q (laidI i h a b t) M) : w_Law_laid i h a b t M Q := by
  unfold laidI at k
  refine ⟨fun e => ?_, fun e => ?_, fun e => ?_, fun e => ?_, fun e1 e2 e3 e4 => ?_⟩
  · subst e; exact k
  · subst e; exact k
  · subst e; exact k
  · subst e; exact k
  · rw [if_neg e4, if_neg e3, if_neg e2, if_neg e1] at k; exact k
theorem x_joined {i x y : Int32} {M : Mem} {Q : Int32 → Mem → Prop} (k : Q (joinI i x y) M) : w_Law_joined i x y M Q := by
  unfold joinI at k
  refine ⟨fun e => ?_, fun e => ?_, fun e => ?_, fun e => ?_, fun e => ?_, fun e => ?_, fun e1 e2 e3 e4 e5 e6 => ?_⟩
  · subst e
    refine ⟨fun e => ?_, fun e => ?_⟩
    · subst e; exact k
    · simp only [if_neg e] at k; exact k
  · subst e; exact k
  · subst e
    have e2 : (if y ≤ x then (0 : Int32) else 1) = if x < y then 1 else 0 := by
      by_cases hc : x < y
      · rw [if_pos hc, if_neg (fa_of_lt hc).2.1]
      · rw [if_neg hc, if_pos (fa_of_nlt hc)]
    rw [e2]; exact k
  · subst e; exact k
  · subst e; exact k
  · subst e; exact k
  · rw [if_neg e6, if_neg e5, if_neg e4, if_neg e3, if_neg e2, if_neg e1] at k
    refine ⟨fun e => ?_, fun e => ?_⟩
    · rw [if_neg e] at k; exact k
    · rw [if_pos e] at k; exact k
def stk (c : List Int32) (h a b t : Int32) (i : Nat) : List Int32 := (c.take i).foldl (stepL h a b t) []
theorem stk_succ {c : List Int32} {h a b t : Int32} {i : Nat} (hi : i < c.length) : stk c h a b t (i + 1) = stepL h a b t (stk c h a b t i) (c.getD i 0) := by
  unfold stk
  rw [List.take_succ_eq_append_getElem hi, List.foldl_append]
  simp only [List.foldl_cons, List.foldl_nil]
  rw [List.getD_eq_getElem?_getD, List.getElem?_eq_getElem hi]
  rfl
theorem drop_getD {c : List Int32} {i : Nat} (hi : i < c.length) : c.drop i = c.getD i 0 :: c.drop (i + 1) := by
  rw [List.drop_eq_getElem_cons hi, List.getD_eq_getElem?_getD, List.getElem?_eq_getElem hi]
  rfl
theorem le_m5 {x : Int32} : x ≤ -5 ↔ ¬ -5 < x := by
  rw [fa_le, fa_lt]; omega
theorem lenle32 {c : List Int32} {h : Nat} : wfc h c = true → h ≤ 32 ∨ c ≠ [] := by
  intro hc
  cases c with
  | nil => left; simp [wfc] at hc; omega
  | cons i c => right; simp

theorem x_valueF {c : List Int32} {f : Nat} {h a b t : Int32} {M : Mem} {Q : Int32 → Mem → Prop} (hw : wfc 0 c = true) (hfrom : M.1 c_land_fog Law_from = nI f) (hto : M.1 c_land_fog Law_to = nI (f + c.length)) (hle : f + c.length ≤ 1024) (hcode : ∀ i, i < c.length → M.1 c_land_code (f + i) = c.getD i 0) (k : ∀ M', Fr [c_land_fog_stack] M M' → Q (evL c h a b t) M') : w_Law_value h a b t M Q := by
  unfold w_Law_value
  rw [hfrom]
  have key := for_loop (fun n i (M1 : Mem) => w_Law_value_L9 h a b t (fun y M2 => w_Law_value_j165 y M2 Q) Q n (nI (stk c h a b t i).length) (nI (f + i)) M1)
    (fun i M1 => Fr [c_land_fog_stack] M M1 ∧ wfc (stk c h a b t i).length (c.drop i) = true ∧ (stk c h a b t i).length ≤ 32 ∧ ∀ j, j < (stk c h a b t i).length → M1.1 c_land_fog_stack j = (stk c h a b t i).getD ((stk c h a b t i).length - 1 - j) 0) c.length 0 M (Nat.zero_le _) ?_ ?_ ?_
  · exact key
  · exact ⟨Fr.rfl, hw, Nat.zero_le _, fun j hj => absurd hj (Nat.not_lt_zero j)⟩
  · intro n M1 ⟨hF, hwf, h32, hs⟩
    have e1 : (stk c h a b t c.length).length = 1 := by
      rw [List.drop_length] at hwf
      simpa [wfc] using hwf
    have hto1 : M1.1 c_land_fog Law_to = nI (f + c.length) := by rw [hF.1 c_land_fog (by decide)]; exact hto
    refine ⟨fun q => absurd q (ni_nneg (by omega)), fun _ => ?_⟩
    rw [hto1]
    refine br_le (by omega) (by omega) (fun _ => ?_) (fun q => absurd q (by omega))
    rw [e1]
    refine ⟨fun q => absurd q (by decide), fun _ => ⟨vp_in_nI (n := 0) (by decide) (by decide), ?_⟩⟩
    have e2 := hs 0 (by omega)
    rw [e1] at e2
    show Q (M1.1 c_land_fog_stack 0) M1
    rw [e2]
    have e3 : stk c h a b t c.length = c.foldl (stepL h a b t) [] := by unfold stk; rw [List.take_length]
    have e4 : (stk c h a b t c.length).getD (1 - 1 - 0) 0 = evL c h a b t := by
      rw [e3]
      unfold evL
      cases c.foldl (stepL h a b t) [] <;> rfl
    rw [e4]
    exact k M1 hF
  · intro n i M1 _ hi ⟨hF, hwf, h32, hs⟩ kk
    have hto1 : M1.1 c_land_fog Law_to = nI (f + c.length) := by rw [hF.1 c_land_fog (by decide)]; exact hto
    have hco : M1.1 c_land_code (f + i) = c.getD i 0 := by rw [hF.1 c_land_code (by decide)]; exact hcode i hi
    refine ⟨fun q => absurd q (ni_nneg (by omega)), fun _ => ?_⟩
    rw [hto1]
    refine br_le (by omega) (by omega) (fun q => absurd q (by omega)) (fun _ => ?_)
    refine br_le (a := 1024) (by omega) (by omega) (fun q => absurd q (by omega)) (fun _ => ?_)
    refine ⟨vp_in_nI (by omega) (by omega), fun x ex => ?_⟩
    rw [nI_clamp (by omega), hco] at ex
    subst ex
    rw [drop_getD hi] at hwf
    have es := stk_succ (c := c) (h := h) (a := a) (b := b) (t := t) hi
    have ei : nI (f + i) + 1 = nI (f + (i + 1)) := nI_1 _
    rw [ei]
    generalize hsd : stk c h a b t i = s at *
    generalize c.getD i 0 = x at *
    by_cases c1 : -5 < x
    · -- a value is laid
      simp only [wfc, if_pos c1, Bool.and_eq_true, decide_eq_true_eq] at hwf
      refine ⟨fun q => absurd c1 (le_m5.mp q), fun _ => ?_⟩
      refine br_le (a := 32) (by omega) (by omega) (fun q => absurd q (by omega)) (fun _ => ?_)
      refine x_laid ⟨vp_in_nI hwf.1 (by decide), ?_⟩
      have e5 : stk c h a b t (i + 1) = laidI x h a b t :: s := by rw [es]; unfold stepL; rw [if_pos c1]
      have kk2 := kk (si M1 c_land_fog_stack s.length (laidI x h a b t))
      rw [e5] at kk2
      rw [nI_clamp (by omega), nI_1]
      refine kk2 ⟨hF.put _ _ _ (by decide), hwf.2, by simp only [List.length_cons]; omega, fun j hj => ?_⟩
      rw [si_same]
      simp only [List.length_cons] at hj ⊢
      by_cases ej : j = s.length
      · subst ej
        rw [up_s, show s.length + 1 - 1 - s.length = 0 by omega]
        rfl
      · rw [up_n ej, hs j (by omega), show s.length + 1 - 1 - j = (s.length - 1 - j) + 1 by omega]
        rfl
    · refine ⟨fun _ => ?_, fun q => absurd (le_m5.mpr c1) q⟩
      by_cases c2 : x = -5
      · -- not
        simp only [wfc, if_neg c1, if_pos c2, Bool.and_eq_true, decide_eq_true_eq] at hwf
        refine ⟨fun q => absurd c2 q, fun _ => ?_⟩
        refine br_le (b := 0) (by omega) (by omega) (fun q => absurd q (by omega)) (fun _ => ?_)
        obtain ⟨y, r, rfl⟩ : ∃ y r, s = y :: r := by
          cases s with
          | nil => simp at hwf
          | cons y r => exact ⟨y, r, rfl⟩
        simp only [List.length_cons] at hwf h32 hs kk ⊢
        have em : nI (r.length + 1) - 1 = nI r.length := nI_pred _
        have hr31 : r.length < 2 ^ 31 := by omega
        have e6 := hs r.length (by omega)
        rw [show r.length + 1 - 1 - r.length = 0 by omega] at e6
        have e7 : M1.1 c_land_fog_stack r.length = y := e6
        simp only [em, nI_clamp hr31, e7]
        refine ⟨vp_in_nI (by omega) (by decide), vp_in_nI (by omega) (by decide), ?_⟩
        have e5 : stk c h a b t (i + 1) = (if y = 0 then 1 else 0) :: r := by rw [es]; unfold stepL; rw [if_neg c1, if_pos c2]
        have kk2 := kk (si M1 c_land_fog_stack r.length (if y = 0 then 1 else 0))
        rw [e5] at kk2
        simp only [List.length_cons] at kk2
        refine kk2 ⟨hF.put _ _ _ (by decide), hwf.2, h32, fun j hj => ?_⟩
        rw [si_same]
        by_cases ej : j = r.length
        · subst ej
          rw [up_s, show r.length + 1 - 1 - r.length = 0 by omega]
          rfl
        · rw [up_n ej, hs j (by omega), show r.length + 1 - 1 - j = (r.length - 1 - j) + 1 by omega]
          rfl
      · -- two are joined
        simp only [wfc, if_neg c1, if_neg c2, Bool.and_eq_true, decide_eq_true_eq] at hwf
        refine ⟨fun _ => ?_, fun q => absurd q c2⟩
        refine br_le (b := 1) (by omega) (by omega) (fun q => absurd q (by omega)) (fun _ => ?_)
        obtain ⟨y, x2, r, rfl⟩ : ∃ y x2 r, s = y :: x2 :: r := by
          match s, hwf with
          | [], hwf => simp at hwf
          | [y], hwf => simp at hwf
          | y :: x2 :: r, _ => exact ⟨y, x2, r, rfl⟩
        simp only [List.length_cons] at hwf h32 hs kk ⊢
        have em : nI (r.length + 1 + 1) + -1 = nI (r.length + 1) := pk_m1 _
        have em2 : nI (r.length + 1) - 1 = nI r.length := nI_pred _
        rw [em, em2, nI_clamp (by omega), nI_clamp (by omega)]
        refine ⟨vp_in_nI (by omega) (by decide), vp_in_nI (by omega) (by decide), ?_⟩
        have e6 := hs r.length (by omega)
        rw [show r.length + 1 + 1 - 1 - r.length = 1 by omega] at e6
        have e6' := hs (r.length + 1) (by omega)
        rw [show r.length + 1 + 1 - 1 - (r.length + 1) = 0 by omega] at e6'
        have e7 : M1.1 c_land_fog_stack r.length = x2 := e6
        have e8 : M1.1 c_land_fog_stack (r.length + 1) = y := e6'
        rw [e7, e8]
        refine x_joined ⟨vp_in_nI (by omega) (by decide), ?_⟩
        have e5 : stk c h a b t (i + 1) = joinI x x2 y :: r := by rw [es]; unfold stepL; rw [if_neg c1, if_neg c2]
        have kk2 := kk (si M1 c_land_fog_stack r.length (joinI x x2 y))
        rw [e5] at kk2
        simp only [List.length_cons] at kk2
        refine kk2 ⟨hF.put _ _ _ (by decide), by simpa using hwf.2, by omega, fun j hj => ?_⟩
        rw [si_same]
        by_cases ej : j = r.length
        · subst ej
          rw [up_s, show r.length + 1 - 1 - r.length = 0 by omega]
          rfl
        · rw [up_n ej, hs j (by omega), show r.length + 1 + 1 - 1 - j = (r.length - 1 - j) + 1 + 1 by omega, show r.length + 1 - 1 - j = (r.length - 1 - j) + 1 by omega]
          rfl

theorem x_valueO {c : List Int32} {f : Nat} {h a b t : Int32} {M : Mem} {Q : Int32 → Mem → Prop} (hw : wfc 0 c = true) (hfrom : M.1 c_land_owe Law_from = nI f) (hto : M.1 c_land_owe Law_to = nI (f + c.length)) (hle : f + c.length ≤ 1024) (hcode : ∀ i, i < c.length → M.1 c_land_code (f + i) = c.getD i 0) (k : ∀ M', Fr [c_land_owe_stack] M M' → Q (evL c h a b t) M') : w_Law_value_land_owe h a b t M Q := by
  unfold w_Law_value_land_owe
  rw [hfrom]
  have key := for_loop (fun n i (M1 : Mem) => w_Law_value_land_owe_L9 h a b t (fun y M2 => w_Law_value_land_owe_j165 y M2 Q) Q n (nI (stk c h a b t i).length) (nI (f + i)) M1)
    (fun i M1 => Fr [c_land_owe_stack] M M1 ∧ wfc (stk c h a b t i).length (c.drop i) = true ∧ (stk c h a b t i).length ≤ 32 ∧ ∀ j, j < (stk c h a b t i).length → M1.1 c_land_owe_stack j = (stk c h a b t i).getD ((stk c h a b t i).length - 1 - j) 0) c.length 0 M (Nat.zero_le _) ?_ ?_ ?_
  · exact key
  · exact ⟨Fr.rfl, hw, Nat.zero_le _, fun j hj => absurd hj (Nat.not_lt_zero j)⟩
  · intro n M1 ⟨hF, hwf, h32, hs⟩
    have e1 : (stk c h a b t c.length).length = 1 := by
      rw [List.drop_length] at hwf
      simpa [wfc] using hwf
    have hto1 : M1.1 c_land_owe Law_to = nI (f + c.length) := by rw [hF.1 c_land_owe (by decide)]; exact hto
    refine ⟨fun q => absurd q (ni_nneg (by omega)), fun _ => ?_⟩
    rw [hto1]
    refine br_le (by omega) (by omega) (fun _ => ?_) (fun q => absurd q (by omega))
    rw [e1]
    refine ⟨fun q => absurd q (by decide), fun _ => ⟨vp_in_nI (n := 0) (by decide) (by decide), ?_⟩⟩
    have e2 := hs 0 (by omega)
    rw [e1] at e2
    show Q (M1.1 c_land_owe_stack 0) M1
    rw [e2]
    have e3 : stk c h a b t c.length = c.foldl (stepL h a b t) [] := by unfold stk; rw [List.take_length]
    have e4 : (stk c h a b t c.length).getD (1 - 1 - 0) 0 = evL c h a b t := by
      rw [e3]
      unfold evL
      cases c.foldl (stepL h a b t) [] <;> rfl
    rw [e4]
    exact k M1 hF
  · intro n i M1 _ hi ⟨hF, hwf, h32, hs⟩ kk
    have hto1 : M1.1 c_land_owe Law_to = nI (f + c.length) := by rw [hF.1 c_land_owe (by decide)]; exact hto
    have hco : M1.1 c_land_code (f + i) = c.getD i 0 := by rw [hF.1 c_land_code (by decide)]; exact hcode i hi
    refine ⟨fun q => absurd q (ni_nneg (by omega)), fun _ => ?_⟩
    rw [hto1]
    refine br_le (by omega) (by omega) (fun q => absurd q (by omega)) (fun _ => ?_)
    refine br_le (a := 1024) (by omega) (by omega) (fun q => absurd q (by omega)) (fun _ => ?_)
    refine ⟨vp_in_nI (by omega) (by omega), fun x ex => ?_⟩
    rw [nI_clamp (by omega), hco] at ex
    subst ex
    rw [drop_getD hi] at hwf
    have es := stk_succ (c := c) (h := h) (a := a) (b := b) (t := t) hi
    have ei : nI (f + i) + 1 = nI (f + (i + 1)) := nI_1 _
    rw [ei]
    generalize hsd : stk c h a b t i = s at *
    generalize c.getD i 0 = x at *
    by_cases c1 : -5 < x
    · -- a value is laid
      simp only [wfc, if_pos c1, Bool.and_eq_true, decide_eq_true_eq] at hwf
      refine ⟨fun q => absurd c1 (le_m5.mp q), fun _ => ?_⟩
      refine br_le (a := 32) (by omega) (by omega) (fun q => absurd q (by omega)) (fun _ => ?_)
      refine x_laid ⟨vp_in_nI hwf.1 (by decide), ?_⟩
      have e5 : stk c h a b t (i + 1) = laidI x h a b t :: s := by rw [es]; unfold stepL; rw [if_pos c1]
      have kk2 := kk (si M1 c_land_owe_stack s.length (laidI x h a b t))
      rw [e5] at kk2
      rw [nI_clamp (by omega), nI_1]
      refine kk2 ⟨hF.put _ _ _ (by decide), hwf.2, by simp only [List.length_cons]; omega, fun j hj => ?_⟩
      rw [si_same]
      simp only [List.length_cons] at hj ⊢
      by_cases ej : j = s.length
      · subst ej
        rw [up_s, show s.length + 1 - 1 - s.length = 0 by omega]
        rfl
      · rw [up_n ej, hs j (by omega), show s.length + 1 - 1 - j = (s.length - 1 - j) + 1 by omega]
        rfl
    · refine ⟨fun _ => ?_, fun q => absurd (le_m5.mpr c1) q⟩
      by_cases c2 : x = -5
      · -- not
        simp only [wfc, if_neg c1, if_pos c2, Bool.and_eq_true, decide_eq_true_eq] at hwf
        refine ⟨fun q => absurd c2 q, fun _ => ?_⟩
        refine br_le (b := 0) (by omega) (by omega) (fun q => absurd q (by omega)) (fun _ => ?_)
        obtain ⟨y, r, rfl⟩ : ∃ y r, s = y :: r := by
          cases s with
          | nil => simp at hwf
          | cons y r => exact ⟨y, r, rfl⟩
        simp only [List.length_cons] at hwf h32 hs kk ⊢
        have em : nI (r.length + 1) - 1 = nI r.length := nI_pred _
        have hr31 : r.length < 2 ^ 31 := by omega
        have e6 := hs r.length (by omega)
        rw [show r.length + 1 - 1 - r.length = 0 by omega] at e6
        have e7 : M1.1 c_land_owe_stack r.length = y := e6
        simp only [em, nI_clamp hr31, e7]
        refine ⟨vp_in_nI (by omega) (by decide), vp_in_nI (by omega) (by decide), ?_⟩
        have e5 : stk c h a b t (i + 1) = (if y = 0 then 1 else 0) :: r := by rw [es]; unfold stepL; rw [if_neg c1, if_pos c2]
        have kk2 := kk (si M1 c_land_owe_stack r.length (if y = 0 then 1 else 0))
        rw [e5] at kk2
        simp only [List.length_cons] at kk2
        refine kk2 ⟨hF.put _ _ _ (by decide), hwf.2, h32, fun j hj => ?_⟩
        rw [si_same]
        by_cases ej : j = r.length
        · subst ej
          rw [up_s, show r.length + 1 - 1 - r.length = 0 by omega]
          rfl
        · rw [up_n ej, hs j (by omega), show r.length + 1 - 1 - j = (r.length - 1 - j) + 1 by omega]
          rfl
      · -- two are joined
        simp only [wfc, if_neg c1, if_neg c2, Bool.and_eq_true, decide_eq_true_eq] at hwf
        refine ⟨fun _ => ?_, fun q => absurd q c2⟩
        refine br_le (b := 1) (by omega) (by omega) (fun q => absurd q (by omega)) (fun _ => ?_)
        obtain ⟨y, x2, r, rfl⟩ : ∃ y x2 r, s = y :: x2 :: r := by
          match s, hwf with
          | [], hwf => simp at hwf
          | [y], hwf => simp at hwf
          | y :: x2 :: r, _ => exact ⟨y, x2, r, rfl⟩
        simp only [List.length_cons] at hwf h32 hs kk ⊢
        have em : nI (r.length + 1 + 1) + -1 = nI (r.length + 1) := pk_m1 _
        have em2 : nI (r.length + 1) - 1 = nI r.length := nI_pred _
        rw [em, em2, nI_clamp (by omega), nI_clamp (by omega)]
        refine ⟨vp_in_nI (by omega) (by decide), vp_in_nI (by omega) (by decide), ?_⟩
        have e6 := hs r.length (by omega)
        rw [show r.length + 1 + 1 - 1 - r.length = 1 by omega] at e6
        have e6' := hs (r.length + 1) (by omega)
        rw [show r.length + 1 + 1 - 1 - (r.length + 1) = 0 by omega] at e6'
        have e7 : M1.1 c_land_owe_stack r.length = x2 := e6
        have e8 : M1.1 c_land_owe_stack (r.length + 1) = y := e6'
        rw [e7, e8]
        refine x_joined ⟨vp_in_nI (by omega) (by decide), ?_⟩
        have e5 : stk c h a b t (i + 1) = joinI x x2 y :: r := by rw [es]; unfold stepL; rw [if_neg c1, if_neg c2]
        have kk2 := kk (si M1 c_land_owe_stack r.length (joinI x x2 y))
        rw [e5] at kk2
        simp only [List.length_cons] at kk2
        refine kk2 ⟨hF.put _ _ _ (by decide), by simpa using hwf.2, by omega, fun j hj => ?_⟩
        rw [si_same]
        by_cases ej : j = r.length
        · subst ej
          rw [up_s, show r.length + 1 - 1 - r.length = 0 by omega]
          rfl
        · rw [up_n ej, hs j (by omega), show r.length + 1 + 1 - 1 - j = (r.length - 1 - j) + 1 + 1 by omega, show r.length + 1 - 1 - j = (r.length - 1 - j) + 1 by omega]
          rfl
