def ASK (nb cnt : Nat) (wI : Int32) (rows : List (List Nat)) (M M' : Mem) : Prop := ∀ w, wI = nI w → w < 2 ^ 31 → ((cnt ≤ w ∧ w < cnt + rows.length) → ∀ j, j < nb → M'.1 c_mo_asked j = nI ((rows.getD (w - cnt) []).getD j 0)) ∧ (¬ (cnt ≤ w ∧ w < cnt + rows.length) → M'.1 c_mo_asked = M.1 c_mo_asked)
theorem ASK.app {nb cnt : Nat} {wI : Int32} {A B : List (List Nat)} {M M1 M2 : Mem} (h1 : ASK nb cnt wI A M M1) (h2 : ASK nb (cnt + A.length) wI B M1 M2) : ASK nb cnt wI (A ++ B) M M2 := by
  intro w ew hw
  obtain ⟨a1, a2⟩ := h1 w ew hw
  obtain ⟨b1, b2⟩ := h2 w ew hw
  rw [List.length_append]
  refine ⟨fun q j hj => ?_, fun q => ?_⟩
  · by_cases c : w < cnt + A.length
    · have e : (A ++ B).getD (w - cnt) [] = A.getD (w - cnt) [] := by
        rw [List.getD_eq_getElem?_getD, List.getD_eq_getElem?_getD, List.getElem?_append_left (by omega)]
      rw [b2 (by omega), a1 ⟨q.1, c⟩ j hj, e]
    · have e : (A ++ B).getD (w - cnt) [] = B.getD (w - (cnt + A.length)) [] := by
        rw [List.getD_eq_getElem?_getD, List.getD_eq_getElem?_getD, List.getElem?_append_right (by omega), show w - (cnt + A.length) = w - cnt - A.length by omega]
      rw [b1 ⟨by omega, by omega⟩ j hj, e]
  · rw [b2 (by omega), a2 (by omega)]
abbrev SSN : List Nat := [c_mo, c_mo_sung, c_mo_asked]
theorem m_sings {σ : St} {h : Nat} {wI : Int32} (hl : LOK (sL σ)) (hg : dgood (sL σ) (sD σ)) : ∀ (m b fu cnt : Nat) (pre : List Nat) (M : Mem) (Q : Mem → Prop), b + m = lnb (sL σ) → m < fu → MRep σ M → MBy (sL σ) (sD σ) h M → SU pre M → pre.length = b → M.1 c_mo Mo_rowsMany = nI cnt → cnt + 6 ^ m < 2 ^ 30 →
    (∀ M', MF M M' → Fr SSN M M' → M'.1 c_mo Mo_rowsMany = nI (cnt + (sgL σ h m b pre).length) → (∀ j, j < b → M'.1 c_mo_sung j = M.1 c_mo_sung j) → ASK (lnb (sL σ)) cnt wI ((sgL σ h m b pre).map (fun s => pre ++ s)) M M' → Q M') → w_Mo_sings fu (nI b) wI M Q := by
  have hnb := hl.2.2.2.1
  have hmx : ∀ b, mxS (sD σ) b ≤ 5 := by intro b; unfold mxS; split <;> omega
  intro m
  induction m with
  | zero =>
    intro b fu cnt pre M Q hbm hfu hM hB hS hlen hro hbig k
    obtain ⟨fu, rfl⟩ : ∃ k, fu = k + 1 := ⟨fu - 1, by omega⟩
    have eb : b = lnb (sL σ) := by omega
    show w_Mo_sings_body _ (nI b) wI M Q
    unfold w_Mo_sings_body
    refine m_birds hM.1.2.2.1 ⟨fun q => absurd (by rw [eb]) q, fun _ => m_sgAll hM hl hg hB hS (by omega) (m_sgAsk hM hl hS (by omega) (fun M1 hF1 g1 g2 => ?_))⟩
    have el : sgL σ h 0 b pre = if rgt (prM (sL σ) (sD σ) h) (lnp (sL σ)) 0 (dlD (sD σ)) pre then [[]] else [] := by
      unfold sgL
      rw [enu, List.filter_cons, List.append_nil]; rfl
    rw [el] at k
    unfold w_Mo_sings_j160
    rw [hF1.1 c_mo (by decide), hro]
    generalize rgt (prM (sL σ) (sD σ) h) (lnp (sL σ)) 0 (dlD (sD σ)) pre = ok at k g1 g2
    have hf1 := MF.of hF1 (by decide) (by decide)
    have hf2 : ∀ v, MF M1 (si M1 c_mo Mo_rowsMany v) := fun v => ⟨fr_si (by decide), by rw [si_same, up_n (by decide)], by rw [si_same, up_n (by decide)], by rw [si_same, up_n (by decide)]⟩
    cases ok with
    | false =>
      have e2 := g2 (fun z => by cases z.1)
      subst e2
      refine k _ (hf2 _) (fr_si (by decide)) ?_ (fun j _ => by rw [si_ne _ _ _ (by decide)]) (fun w ew hw => ⟨fun q => absurd q (by show ¬ (cnt ≤ w ∧ w < cnt + 0); omega), fun _ => si_ne _ _ _ (by decide)⟩)
      rw [si_same, up_s]
      show nI cnt + 0 = nI (cnt + 0)
      rw [Int32.add_zero]; rfl
    | true =>
      refine k _ (hf1.trans (hf2 _)) ((hF1.mono (by decide)).trans (fr_si (by decide))) ?_ (fun j _ => by rw [si_ne _ _ _ (by decide), hF1.1 _ (by decide)]) (fun w ew hw => ⟨fun q j hj => ?_, fun q => ?_⟩)
      · rw [si_same, up_s]
        show nI cnt + 1 = nI (cnt + 1)
        exact nI_1 _
      · have q : cnt ≤ w ∧ w < cnt + 1 := q
        have ec : w = cnt := by omega
        subst ec
        rw [si_ne _ _ _ (by decide), g1 rfl (by rw [hro, ew]) j hj, Nat.sub_self]
        show _ = nI ((pre ++ []).getD j 0)
        rw [List.append_nil]
      · have q : ¬ (cnt ≤ w ∧ w < cnt + 1) := q
        rw [si_ne _ _ _ (by decide)]
        have : M1 = M := g2 (fun z => q (by
          have := z.2
          rw [hro, ew] at this
          have := ni_inj (by omega) hw this
          omega))
        rw [this]
  | succ m ih =>
    intro b fu cnt pre M Q hbm hfu hM hB hS hlen hro hbig k
    obtain ⟨fu, rfl⟩ : ∃ k, fu = k + 1 := ⟨fu - 1, by omega⟩
    have h6 : 6 ^ (m + 1) = 6 ^ m * 6 := Nat.pow_succ ..
    have hpos : 0 < 6 ^ m := Nat.pow_pos (by decide)
    rw [sgL_succ] at k
    show w_Mo_sings_body _ (nI b) wI M Q
    unfold w_Mo_sings_body
    refine m_birds hM.1.2.2.1 ⟨fun _ => ?_, fun q => absurd (ni_inj (by omega) (by omega) q) (by omega)⟩
    have hTl : ∀ t, t ≤ 6 → (sgT σ h m b pre t).length ≤ t * 6 ^ m := by
      intro t
      induction t with
      | zero => intro _; simp [sgT]
      | succ t iht =>
        intro ht
        have h1 := iht (by omega)
        rw [sgT_succ, List.length_append, List.length_map, Nat.succ_mul]
        have h2 : (sgL σ h m (b + 1) (pre ++ [t])).length ≤ 6 ^ m := Nat.le_trans (List.length_filter_le _ _) (enu_len hmx m (b + 1))
        omega
    have h1m := hmx b
    refine for_loop (fun n t (M1 : Mem) => w_Mo_sings_L181 (wg_Mo_sings fu) (nI b) wI (fun M1201 => Q M1201) Q n (nI t) M1) (fun t M1 => MF M M1 ∧ Fr SSN M M1 ∧ M1.1 c_mo Mo_rowsMany = nI (cnt + (sgT σ h m b pre t).length) ∧ (∀ j, j < b → M1.1 c_mo_sung j = M.1 c_mo_sung j) ∧ ASK (lnb (sL σ)) cnt wI ((sgT σ h m b pre t).map (fun s => pre ++ s)) M M1) (mxS (sD σ) b + 1) 0 M (Nat.zero_le _) ⟨MF.rfl, Fr.rfl, hro, fun _ _ => rfl, fun w _ _ => ⟨fun q => absurd q (by show ¬ (cnt ≤ w ∧ w < cnt + 0); omega), fun _ => rfl⟩⟩ ?_ ?_
    · intro n M1 ⟨f1, f2, f3, f4, f5⟩
      unfold w_Mo_sings_L181 w_Mo_sings_j196
      refine m_isShot (hM.scr f1).2.1 hg.1.2.1 (by omega) ?_
      have e : (if (dshot (sD σ)).testBit b = true then (1 : Int32) else 6) = nI (mxS (sD σ) b + 1) := by unfold mxS; split <;> rfl
      rw [e]
      exact br_le (by omega) (by omega) (fun _ => k M1 f1 f2 f3 f4 f5) (fun q => absurd q (by omega))
    · intro n t M1 _ ht ⟨f1, f2, f3, f4, f5⟩ kk
      have hM1 := hM.scr f1
      unfold w_Mo_sings_L181 w_Mo_sings_j196
      refine m_isShot hM1.2.1 hg.1.2.1 (by omega) ?_
      have e : (if (dshot (sD σ)).testBit b = true then (1 : Int32) else 6) = nI (mxS (sD σ) b + 1) := by unfold mxS; split <;> rfl
      rw [e, nI_clamp (by omega), nI_1, nI_1]
      refine br_le (by omega) (by omega) (fun q => absurd q (by omega)) (fun _ => ⟨vp_in_nI (by omega) (by decide), ?_⟩)
      generalize hM2 : si M1 c_mo_sung b (nI t) = M2
      have hF2 : Fr [c_mo_sung] M1 M2 := by rw [← hM2]; exact fr_si (by decide)
      have hf2 := MF.of hF2 (by decide) (by decide)
      have hTt := hTl t (by omega)
      have hmul : t * 6 ^ m + 6 ^ m ≤ 6 ^ m * 6 := by
        have : (t + 1) * 6 ^ m ≤ 6 * 6 ^ m := Nat.mul_le_mul_right _ (by omega)
        rw [Nat.succ_mul, Nat.mul_comm 6] at this; exact this
      refine ih (b + 1) fu (cnt + (sgT σ h m b pre t).length) (pre ++ [t]) M2 _ (by omega) (by omega) (hM1.scr hf2) ?_ ?_ ?_ ?_ (by omega) (fun M3 g1 g2 g3 g4 g5 => kk M3 ⟨(f1.trans hf2).trans g1, (f2.trans (hF2.mono (by decide))).trans g2, ?_, fun j hj => ?_, ?_⟩)
      · intro b' t' p' hb' ht' hp'
        rw [hF2.1 _ (by decide), f2.1 _ (by decide)]; exact hB b' t' p' hb' ht' hp'
      · intro j hj
        rw [List.length_append] at hj
        have hj : j < pre.length + 1 := hj
        rw [← hM2, si_same]
        by_cases c : j = b
        · subst c
          rw [up_s, ← hlen, getD_last]; exact ⟨rfl, by omega⟩
        · rw [up_n c, getD_app (by omega), f4 j (by omega)]; exact hS j (by omega)
      · rw [List.length_append]; show pre.length + 1 = b + 1; omega
      · rw [hF2.1 _ (by decide)]; exact f3
      · rw [g3, sgT_succ, List.length_append, List.length_map, Nat.add_assoc]
      · rw [g4 j (by omega), ← hM2, si_same, up_n (by omega)]; exact f4 j hj
      · rw [sgT_succ, List.map_append]
        refine f5.app ?_
        rw [List.length_map, List.map_map]
        have ef : ((fun s => pre ++ s) ∘ fun s => t :: s) = fun s => pre ++ [t] ++ s := by
          funext s
          show pre ++ t :: s = pre ++ [t] ++ s
          rw [List.append_assoc]; rfl
        rw [ef]
        intro w ew hw
        obtain ⟨q1, q2⟩ := g5 w ew hw
        refine ⟨q1, fun z => ?_⟩
        rw [q2 z, hF2.1 _ (by decide)]
