/-! the reference's laws -/
theorem m_both {i x y : Int32} {M : Mem} {Q : Int32 → Mem → Prop} (h1 : ¬ -5 < i) (h2 : i ≠ -5) (k : Q (joinI i x y) M) : w_Mo_both (eop i) x y M Q := by
  have hm : ¬ -1 < i := fun z => h1 (by rw [fa_lt] at z ⊢; rw [show (-1 : Int32).toInt = -1 from rfl] at z; rw [show (-5 : Int32).toInt = -5 from rfl]; omega)
  unfold eop
  rw [if_neg hm, if_neg h1, if_neg h2]
  unfold joinI at k
  unfold w_Mo_both
  have key : ∀ o : Int32, (o = 10 → i ≠ -6 → i ≠ -7 → i ≠ -8 → i ≠ -9 → i ≠ -10 → i ≠ -11 → True) := fun _ _ _ _ _ _ _ _ => trivial
  by_cases c6 : i = -6
  · rw [if_pos c6] at k ⊢
    exact ⟨fun e => absurd e (by decide), fun e => absurd e (by decide), fun _ => k, fun e => absurd e (by decide), fun e => absurd e (by decide), fun e => absurd e (by decide), fun _ _ e => absurd rfl e⟩
  rw [if_neg c6] at k ⊢
  by_cases c7 : i = -7
  · rw [if_pos c7] at k ⊢
    exact ⟨fun _ => k, fun e => absurd e (by decide), fun e => absurd e (by decide), fun e => absurd e (by decide), fun e => absurd e (by decide), fun e => absurd e (by decide), fun e => absurd rfl e⟩
  rw [if_neg c7] at k ⊢
  by_cases c8 : i = -8
  · rw [if_pos c8] at k ⊢
    exact ⟨fun e => absurd e (by decide), fun _ => k, fun e => absurd e (by decide), fun e => absurd e (by decide), fun e => absurd e (by decide), fun e => absurd e (by decide), fun _ e => absurd rfl e⟩
  rw [if_neg c8] at k ⊢
  by_cases c9 : i = -9
  · rw [if_pos c9] at k ⊢
    have e2 : (if y ≤ x then (0 : Int32) else 1) = if x < y then 1 else 0 := by
      by_cases hc : x < y
      · rw [if_pos hc, if_neg (fa_of_lt hc).2.1]
      · rw [if_neg hc, if_pos (fa_of_nlt hc)]
    rw [e2]
    exact ⟨fun e => absurd e (by decide), fun e => absurd e (by decide), fun e => absurd e (by decide), fun _ => k, fun e => absurd e (by decide), fun e => absurd e (by decide), fun _ _ _ e => absurd rfl e⟩
  rw [if_neg c9] at k ⊢
  by_cases c10 : i = -10
  · rw [if_pos c10] at k ⊢
    exact ⟨fun e => absurd e (by decide), fun e => absurd e (by decide), fun e => absurd e (by decide), fun e => absurd e (by decide), fun _ => k, fun e => absurd e (by decide), fun _ _ _ _ e => absurd rfl e⟩
  rw [if_neg c10] at k ⊢
  by_cases c11 : i = -11
  · rw [if_pos c11] at k ⊢
    refine ⟨fun e => absurd e (by decide), fun e => absurd e (by decide), fun e => absurd e (by decide), fun e => absurd e (by decide), fun e => absurd e (by decide), fun _ => ⟨fun e => ?_, fun e => ?_⟩, fun _ _ _ _ _ e => absurd rfl e⟩
    · rw [if_pos e] at k; exact k
    · rw [if_neg e] at k; exact k
  rw [if_neg c11] at k ⊢
  refine ⟨fun e => absurd e (by decide), fun e => absurd e (by decide), fun e => absurd e (by decide), fun e => absurd e (by decide), fun e => absurd e (by decide), fun e => absurd e (by decide), fun _ _ _ _ _ _ => ⟨fun e => ?_, fun e => ?_⟩⟩
  · rw [if_neg e] at k; exact k
  · rw [if_pos e] at k; exact k
def FcO (fog : Bool) (h a b t : Int32) (M : Mem) : Prop := M.1 c_mo_facts 0 = h ∧ M.1 c_mo_facts (if fog then 4 else 1) = a ∧ M.1 c_mo_facts (if fog then 5 else 2) = b ∧ (fog = false → M.1 c_mo_facts 3 = t)
theorem m_fact {fog : Bool} {x h a b t : Int32} {M : Mem} (hF : FcO fog h a b t M) (h1 : -5 < x) (h2 : ¬ -1 < x) (h4 : fog = true → x ≠ -4) : vp_in (earg fog x) 6 ∧ M.1 c_mo_facts (Int32.toNatClampNeg (earg fog x)) = laidI x h a b t := by
  unfold earg laidI
  rw [if_neg h2]
  by_cases c1 : x = -1
  · rw [if_pos c1, if_pos c1]
    exact ⟨vp_in_nI (n := 0) (by decide) (by decide), hF.1⟩
  rw [if_neg c1, if_neg c1]
  by_cases c2 : x = -2
  · rw [if_pos c2, if_pos c2]
    cases fog with
    | true => exact ⟨vp_in_nI (n := 4) (by decide) (by decide), hF.2.1⟩
    | false => exact ⟨vp_in_nI (n := 1) (by decide) (by decide), hF.2.1⟩
  rw [if_neg c2, if_neg c2]
  by_cases c3 : x = -3
  · rw [if_pos c3, if_pos c3]
    cases fog with
    | true => exact ⟨vp_in_nI (n := 5) (by decide) (by decide), hF.2.2.1⟩
    | false => exact ⟨vp_in_nI (n := 2) (by decide) (by decide), hF.2.2.1⟩
  rw [if_neg c3, if_neg c3]
  have c4 : x = -4 := by
    rw [fa_lt, show (-5 : Int32).toInt = -5 from rfl] at h1
    rw [fa_lt, show (-1 : Int32).toInt = -1 from rfl] at h2
    rw [fa_eq, show (-1 : Int32).toInt = -1 from rfl] at c1
    rw [fa_eq, show (-2 : Int32).toInt = -2 from rfl] at c2
    rw [fa_eq, show (-3 : Int32).toInt = -3 from rfl] at c3
    rw [fa_eq, show (-4 : Int32).toInt = -4 from rfl]
    omega
  rw [if_pos c4]
  cases fog with
  | true => exact absurd c4 (h4 rfl)
  | false => exact ⟨vp_in_nI (n := 3) (by decide) (by decide), hF.2.2.2 rfl⟩
theorem laid_num {x h a b t : Int32} (h1 : -1 < x) : laidI x h a b t = x := by
  have n : ∀ y : Int32, y.toInt ≤ -1 → x ≠ y := fun y hy z => by
    subst z
    rw [fa_lt, show (-1 : Int32).toInt = -1 from rfl] at h1
    omega
  unfold laidI
  rw [if_neg (n _ (by decide)), if_neg (n _ (by decide)), if_neg (n _ (by decide)), if_neg (n _ (by decide))]
theorem eop_nz (x : Int32) : eop x ≠ 0 := by
  unfold eop
  repeat' split
  all_goals decide
theorem eop_laid {x : Int32} (h : -5 < x) : (eop x = 1 ∧ -1 < x) ∨ (eop x = 2 ∧ ¬ -1 < x) := by
  unfold eop
  by_cases c : -1 < x
  · left; rw [if_pos c]; exact ⟨rfl, c⟩
  · right; rw [if_neg c, if_pos h]; exact ⟨rfl, c⟩
theorem eop_not : eop (-5) = 3 := by decide
theorem eop_join {x : Int32} (h1 : ¬ -5 < x) (h2 : x ≠ -5) : eop x ≠ 1 ∧ eop x ≠ 2 ∧ eop x ≠ 3 := by
  have hm : ¬ -1 < x := fun z => h1 (by rw [fa_lt] at z ⊢; rw [show (-1 : Int32).toInt = -1 from rfl] at z; rw [show (-5 : Int32).toInt = -5 from rfl]; omega)
  unfold eop
  rw [if_neg hm, if_neg h1, if_neg h2]
  repeat' split
  all_goals decide
theorem m_worth {fog : Bool} {c : List Int32} {f : Nat} {h a b t : Int32} {M : Mem} {Q : Int32 → Mem → Prop} (hw : wfc 0 c = true) (hle : f + c.length < 1100) (hcode : ∀ j, j < c.length → M.1 c_mo_op (f + j) = eop (c.getD j 0) ∧ (-5 < c.getD j 0 → M.1 c_mo_arg (f + j) = earg fog (c.getD j 0))) (hend : M.1 c_mo_op (f + c.length) = 0) (hno4 : fog = true → ∀ j, j < c.length → c.getD j 0 ≠ -4) (hfc : FcO fog h a b t M) (k : ∀ M', Fr [c_mo_pile] M M' → Q (evL c h a b t) M') : w_Mo_worthAt (nI f) M Q := by
  unfold w_Mo_worthAt
  have key := for_loop (fun n i (M1 : Mem) => w_Mo_worthAt_L4 (fun M928 => (vp_in 0 1100 ∧ Q (M928.1 c_mo_pile (Int32.toNatClampNeg 0)) M928)) Q n (nI (stk c h a b t i).length) (nI (f + i)) M1)
    (fun i M1 => Fr [c_mo_pile] M M1 ∧ wfc (stk c h a b t i).length (c.drop i) = true ∧ (stk c h a b t i).length ≤ 32 ∧ ∀ j, j < (stk c h a b t i).length → M1.1 c_mo_pile j = (stk c h a b t i).getD ((stk c h a b t i).length - 1 - j) 0) c.length 0 M (Nat.zero_le _) ?_ ?_ ?_
  · exact key
  · exact ⟨Fr.rfl, hw, Nat.zero_le _, fun j hj => absurd hj (Nat.not_lt_zero j)⟩
  · intro n M1 ⟨hF, hwf, h32, hs⟩
    have e1 : (stk c h a b t c.length).length = 1 := by
      rw [List.drop_length] at hwf
      simpa [wfc] using hwf
    have hz : M1.1 c_mo_op (f + c.length) = 0 := by rw [hF.1 c_mo_op (by decide)]; exact hend
    unfold w_Mo_worthAt_L4
    rw [nI_clamp (by omega), hz]
    refine ⟨vp_in_nI (by omega) (by decide), fun _ => ⟨vp_in_nI (n := 0) (by decide) (by decide), ?_⟩, fun q => absurd rfl q⟩
    have e2 := hs 0 (by omega)
    rw [e1] at e2
    show Q (M1.1 c_mo_pile 0) M1
    rw [e2]
    have e3 : stk c h a b t c.length = c.foldl (stepL h a b t) [] := by unfold stk; rw [List.take_length]
    have e4 : (stk c h a b t c.length).getD (1 - 1 - 0) 0 = evL c h a b t := by
      rw [e3]
      unfold evL
      cases c.foldl (stepL h a b t) [] <;> rfl
    rw [e4]
    exact k M1 hF
  · intro n i M1 _ hi ⟨hF, hwf, h32, hs⟩ kk
    obtain ⟨hop, har⟩ := hcode i hi
    rw [← hF.1 c_mo_op (by decide)] at hop
    rw [← hF.1 c_mo_arg (by decide)] at har
    have hfc1 : FcO fog h a b t M1 := by unfold FcO; rw [hF.1 c_mo_facts (by decide)]; exact hfc
    have h4 : fog = true → c.getD i 0 ≠ -4 := fun z => hno4 z i hi
    rw [drop_getD hi] at hwf
    have es := stk_succ (c := c) (h := h) (a := a) (b := b) (t := t) hi
    have ei : nI (f + i) + 1 = nI (f + (i + 1)) := nI_1 _
    have vi : vp_in (nI (f + i)) 2200 := vp_in_nI (by omega) (by decide)
    unfold w_Mo_worthAt_L4
    rw [nI_clamp (by omega), hop, ei]
    refine ⟨vi, fun q => absurd q (eop_nz _), fun _ => ⟨vi, fun o eo => ?_⟩⟩
    generalize hsd : stk c h a b t i = s at *
    generalize c.getD i 0 = x at *
    by_cases c1 : -5 < x
    · -- a value is laid
      simp only [wfc, if_pos c1, Bool.and_eq_true, decide_eq_true_eq] at hwf
      have e5 : stk c h a b t (i + 1) = laidI x h a b t :: s := by rw [es]; unfold stepL; rw [if_pos c1]
      have kk2 := kk (si M1 c_mo_pile s.length (laidI x h a b t))
      rw [e5] at kk2
      have fin : w_Mo_worthAt_L4 (fun M928 => (vp_in 0 1100 ∧ Q (M928.1 c_mo_pile (Int32.toNatClampNeg 0)) M928)) Q n (nI (s.length + 1)) (nI (f + (i + 1))) (si M1 c_mo_pile s.length (laidI x h a b t)) := by
        refine kk2 ⟨hF.put _ _ _ (by decide), hwf.2, by simp only [List.length_cons]; omega, fun j hj => ?_⟩
        rw [si_same]
        simp only [List.length_cons] at hj ⊢
        by_cases ej : j = s.length
        · subst ej
          rw [up_s, show s.length + 1 - 1 - s.length = 0 by omega]
          rfl
        · rw [up_n ej, hs j (by omega), show s.length + 1 - 1 - j = (s.length - 1 - j) + 1 by omega]
          rfl
      have vs : vp_in (nI s.length) 1100 := vp_in_nI (by omega) (by decide)
      have hj : w_Mo_worthAt_j33 (fun l2 l3 M => w_Mo_worthAt_L4 (fun M928 => (vp_in 0 1100 ∧ Q (M928.1 c_mo_pile (Int32.toNatClampNeg 0)) M928)) Q n l2 l3 M) (fun M928 => (vp_in 0 1100 ∧ Q (M928.1 c_mo_pile (Int32.toNatClampNeg 0)) M928)) (nI s.length) (nI (f + i)) o M1 Q := by
        unfold w_Mo_worthAt_j33
        rw [nI_clamp (show f + i < 2 ^ 31 by omega), nI_clamp (show s.length < 2 ^ 31 by omega), har c1, ei, nI_1]
        refine ⟨fun q => ?_, fun q => ⟨vi, vs, ?_⟩⟩
        · rcases eop_laid c1 with ⟨g1, g2⟩ | ⟨g1, g2⟩
          · exact absurd (eo.trans g1) q
          · obtain ⟨v1, v2⟩ := m_fact hfc1 c1 g2 h4
            rw [v2]
            exact ⟨vi, v1, vs, fin⟩
        · rcases eop_laid c1 with ⟨g1, g2⟩ | ⟨g1, g2⟩
          · rw [laid_num g2] at fin
            have : earg fog x = x := if_pos g2
            rw [this]
            exact fin
          · exact absurd ((eo.trans g1).symm.trans q) (by decide)
      refine ⟨fun _ => hj, fun q1 => ⟨fun q2 => ?_, fun _ => hj⟩⟩
      rcases eop_laid c1 with ⟨g1, g2⟩ | ⟨g1, g2⟩
      · exact absurd (eo.trans g1) q1
      · exact absurd (eo.trans g1) q2
    · by_cases c2 : x = -5
      · -- not
        simp only [wfc, if_neg c1, if_pos c2, Bool.and_eq_true, decide_eq_true_eq] at hwf
        have o3 : o = 3 := by rw [eo, c2]; decide
        subst o3
        refine ⟨fun q => absurd q (by decide), fun _ => ⟨fun _ => ⟨fun q => absurd rfl q, fun _ => ?_⟩, fun q => absurd q (by decide)⟩⟩
        obtain ⟨y, r, rfl⟩ : ∃ y r, s = y :: r := by
          cases s with
          | nil => simp at hwf
          | cons y r => exact ⟨y, r, rfl⟩
        simp only [List.length_cons] at hwf h32 hs kk ⊢
        have em : nI (r.length + 1) - 1 = nI r.length := nI_pred _
        have hr31 : r.length < 2 ^ 31 := by omega
        have e6 := hs r.length (by omega)
        rw [show r.length + 1 - 1 - r.length = 0 by omega] at e6
        have e7 : M1.1 c_mo_pile r.length = y := e6
        simp only [em, nI_clamp hr31, e7]
        refine ⟨vp_in_nI (by omega) (by decide), vp_in_nI (by omega) (by decide), ?_⟩
        have e5 : stk c h a b t (i + 1) = (if y = 0 then 1 else 0) :: r := by rw [es]; unfold stepL; rw [if_neg c1, if_pos c2]
        have kk2 := kk (si M1 c_mo_pile r.length (if y = 0 then 1 else 0))
        rw [e5] at kk2
        simp only [List.length_cons] at kk2
        refine kk2 ⟨hF.put _ _ _ (by decide), hwf.2, h32, fun j hj => ?_⟩
        rw [si_same]
        by_cases ej : j = r.length
        · subst ej
          rw [up_s, show r.length + 1 - 1 - r.length = 0 by omega]
          rfl
        · rw [up_n ej, hs j (by omega), show r.length + 1 - 1 - j = (r.length - 1 - j) + 1 by omega]
          rfl
      · -- two are joined
        simp only [wfc, if_neg c1, if_neg c2, Bool.and_eq_true, decide_eq_true_eq] at hwf
        obtain ⟨n1, n2, n3⟩ := eop_join c1 c2
        refine ⟨fun q => absurd (eo.symm.trans q) n1, fun _ => ⟨fun _ => ⟨fun _ => ?_, fun q => absurd (eo.symm.trans q) n3⟩, fun q => absurd (eo.symm.trans q) n2⟩⟩
        obtain ⟨y, x2, r, rfl⟩ : ∃ y x2 r, s = y :: x2 :: r := by
          match s, hwf with
          | [], hwf => simp at hwf
          | [y], hwf => simp at hwf
          | y :: x2 :: r, _ => exact ⟨y, x2, r, rfl⟩
        simp only [List.length_cons] at hwf h32 hs kk ⊢
        have em : nI (r.length + 1 + 1) + -1 = nI (r.length + 1) := pk_m1 _
        have em2 : nI (r.length + 1) - 1 = nI r.length := nI_pred _
        rw [em, em2, nI_clamp (by omega), nI_clamp (by omega), eo]
        refine ⟨vp_in_nI (by omega) (by decide), vp_in_nI (by omega) (by decide), ?_⟩
        have e6 := hs r.length (by omega)
        rw [show r.length + 1 + 1 - 1 - r.length = 1 by omega] at e6
        have e6' := hs (r.length + 1) (by omega)
        rw [show r.length + 1 + 1 - 1 - (r.length + 1) = 0 by omega] at e6'
        have e7 : M1.1 c_mo_pile r.length = x2 := e6
        have e8 : M1.1 c_mo_pile (r.length + 1) = y := e6'
        rw [e7, e8]
        refine m_both c1 c2 ⟨vp_in_nI (by omega) (by decide), ?_⟩
        have e5 : stk c h a b t (i + 1) = joinI x x2 y :: r := by rw [es]; unfold stepL; rw [if_neg c1, if_neg c2]
        have kk2 := kk (si M1 c_mo_pile r.length (joinI x x2 y))
        rw [e5] at kk2
        simp only [List.length_cons] at kk2
        refine kk2 ⟨hF.put _ _ _ (by decide), by simpa using hwf.2, by omega, fun j hj => ?_⟩
        rw [si_same]
        by_cases ej : j = r.length
        · subst ej
          rw [up_s, show r.length + 1 - 1 - r.length = 0 by omega]
          rfl
        · rw [up_n ej, hs j (by omega), show r.length + 1 + 1 - 1 - j = (r.length - 1 - j) + 1 + 1 by omega, show r.length + 1 - 1 - j = (r.length - 1 - j) + 1 by omega]
          rfl
