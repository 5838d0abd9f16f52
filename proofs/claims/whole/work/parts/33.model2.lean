/-! the reference's changes -/
theorem m_copies {f t n : Nat} {M : Mem} {Q : Mem → Prop} (hf : f < 25) (ht : t < 25) (hn : n ≤ 128) (hft : f ≠ t) (k : ∀ M', Fr [c_mo_state] M M' → (∀ i, i < n → M'.1 c_mo_state (128 * t + i) = M.1 c_mo_state (128 * f + i)) → (∀ i, (i < 128 * t ∨ 128 * t + n ≤ i) → M'.1 c_mo_state i = M.1 c_mo_state i) → Q M') : w_Mo_copies (nI f) (nI t) (nI n) M Q := by
  unfold w_Mo_copies
  refine for_loop (fun m i (M1 : Mem) => w_Mo_copies_L3 (nI f) (nI t) (nI n) (fun M2 => Q M2) Q m (nI i) M1) (fun i M1 => Fr [c_mo_state] M M1 ∧ (∀ j, j < i → M1.1 c_mo_state (128 * t + j) = M.1 c_mo_state (128 * f + j)) ∧ (∀ j, (j < 128 * t ∨ 128 * t + i ≤ j) → M1.1 c_mo_state j = M.1 c_mo_state j)) n 0 M (Nat.zero_le _) ⟨Fr.rfl, fun j hj => absurd hj (Nat.not_lt_zero j), fun _ _ => rfl⟩ ?_ ?_
  · intro m M1 ⟨h1, h2, h3⟩
    exact br_le (by omega) (by omega) (fun _ => k M1 h1 h2 h3) (fun q => absurd q (by omega))
  · intro m i M1 _ hi ⟨h1, h2, h3⟩ kk
    unfold w_Mo_copies_L3
    have ea : 128 * nI f + nI i = nI (128 * f + i) := by simp only [fa_lit, pk_mul, nI_add]
    have eb : 128 * nI t + nI i = nI (128 * t + i) := by simp only [fa_lit, pk_mul, nI_add]
    rw [ea, eb, nI_clamp (by omega), nI_clamp (by omega), nI_1]
    refine br_le (by omega) (by omega) (fun q => absurd q (by omega)) (fun _ => ⟨vp_in_nI (by omega) (by decide), vp_in_nI (by omega) (by decide), kk _ ⟨h1.put _ _ _ (by decide), fun j hj => ?_, fun j hj => ?_⟩⟩)
    · rw [si_same]
      by_cases c : j = i
      · subst c; rw [up_s]; exact h3 _ (by omega)
      · rw [up_n (by omega)]; exact h2 j (by omega)
    · rw [si_same, up_n (by omega)]; exact h3 j (by omega)
theorem m_keeps47 {d : Deeds} {hs : List Snap} {M : Mem} {Q : Mem → Prop} (h1 : M.1 c_mo Mo_undos = nI hs.length) (h2 : hs.length < 20) (h3 : MHX hs M) (h4 : MD 0 d M) (k : ∀ M', Fr [c_mo, c_mo_state] M M' → (∀ j, j ≠ Mo_undos → M'.1 c_mo j = M.1 c_mo j) → (∀ i, i < 640 → M'.1 c_mo_state i = M.1 c_mo_state i) → M'.1 c_mo Mo_undos = nI (hs.length + 1) → MHX (snp d :: hs) M' → Q M') : w_Mo_keeps_j47 M Q := by
  unfold w_Mo_keeps_j47
  rw [h1, show (5 : Int32) + nI hs.length = nI (5 + hs.length) by simp only [fa_lit, nI_add]]
  refine m_copies (f := 0) (n := 121) (by decide) (by omega) (by decide) (by omega) (fun M1 hF1 e1 e2 => ?_)
  rw [hF1.1 c_mo (by decide), h1, nI_1]
  refine k _ ((hF1.mono (by decide)).put _ _ _ (by decide)) (fun j hj => ?_) (fun i hi => ?_) ?_ ⟨?_, ?_⟩
  · rw [si_same, up_n hj, hF1.1 c_mo (by decide)]
  · rw [si_ne _ _ _ (by decide)]; exact e2 i (by omega)
  · rw [si_same, up_s]
  · exact h4.1.fr (fun i hi => by rw [si_ne _ _ _ (by decide)]; exact e1 i hi)
  · exact h3.fr (fun j i hj hi => by rw [si_ne _ _ _ (by decide)]; exact e2 _ (by omega))
theorem m_keeps {d : Deeds} {hs : List Snap} {M : Mem} {Q : Mem → Prop} (h1 : M.1 c_mo Mo_undos = nI hs.length) (h2 : hs.length ≤ 20) (h3 : MHX hs M) (h4 : MD 0 d M) (k : ∀ M', Fr [c_mo, c_mo_state] M M' → (∀ j, j ≠ Mo_undos → M'.1 c_mo j = M.1 c_mo j) → (∀ i, i < 640 → M'.1 c_mo_state i = M.1 c_mo_state i) → M'.1 c_mo Mo_undos = nI ((keepH hs).length + 1) → MHX (snp d :: keepH hs) M' → Q M') : w_Mo_keeps M Q := by
  unfold w_Mo_keeps
  rw [h1]
  refine br_ne (b := 20) (by omega) (by decide) (fun q => ?_) (fun q => ?_)
  · have e : keepH hs = hs := if_pos (by omega)
    rw [e] at k
    exact m_keeps47 h1 (by omega) h3 h4 k
  · have e : keepH hs = hs.dropLast := if_neg (by omega)
    have el : hs.dropLast.length = 19 := by rw [List.length_dropLast]; omega
    rw [e] at k
    refine for_loop (fun m i (M1 : Mem) => w_Mo_keeps_L11 (fun M1018 => w_Mo_keeps_j47 (si M1018 c_mo Mo_undos ((M1018.1 c_mo Mo_undos) - 1)) Q) Q m (nI i) M1) (fun i M1 => Fr [c_mo_state] M M1 ∧ (∀ j, j < 640 → M1.1 c_mo_state j = M.1 c_mo_state j) ∧ (∀ j x, j + 1 < i → x < 121 → M1.1 c_mo_state (128 * (5 + j) + x) = M.1 c_mo_state (128 * (5 + (j + 1)) + x)) ∧ (∀ j x, i ≤ j + 1 → j < 20 → x < 121 → M1.1 c_mo_state (128 * (5 + j) + x) = M.1 c_mo_state (128 * (5 + j) + x))) 20 1 M (by decide) ⟨Fr.rfl, fun _ _ => rfl, fun j x hj => absurd hj (by omega), fun _ _ _ _ _ => rfl⟩ ?_ ?_
    · intro m M1 ⟨g1, g2, g3, g4⟩
      refine br_le (a := 20) (b := 20) (by decide) (by decide) (fun _ => ?_) (fun q => absurd q (by omega))
      dsimp only
      rw [g1.1 c_mo (by decide), h1, q, show nI 20 - 1 = nI 19 from rfl]
      generalize hM2 : si M1 c_mo Mo_undos (nI 19) = M2
      have hF2 : Fr [c_mo] M1 M2 := by rw [← hM2]; exact fr_si (by decide)
      have es : M2.1 c_mo_state = M1.1 c_mo_state := hF2.1 _ (by decide)
      refine m_keeps47 (hs := hs.dropLast) (d := d) ?_ (by omega) (h3.drop h2 (fun j i hj hi => ?_)) (h4.fr (fun i hi => ?_)) (fun M3 hF3 f1 f2 f3 f4 => k M3 ?_ (fun j hj => ?_) (fun i hi => ?_) f3 f4)
      · rw [el, ← hM2, si_same, up_s]
      · rw [es]; exact g3 j i (by omega) hi
      · rw [es]; exact g2 _ (by omega)
      · exact ((g1.mono (by decide)).trans (hF2.mono (by decide))).trans hF3
      · rw [f1 j hj, ← hM2, si_same, up_n hj, g1.1 c_mo (by decide)]
      · rw [f2 i hi, es]; exact g2 i hi
    · intro m i M1 hi1 hi ⟨g1, g2, g3, g4⟩ kk
      unfold w_Mo_keeps_L11
      refine br_le (a := 20) (by decide) (by omega) (fun q => absurd q (by omega)) (fun _ => ?_)
      rw [show (5 : Int32) + nI i = nI (5 + i) by simp only [fa_lit, nI_add], show (1 : Int32) = nI 1 from rfl, pk_sub (by omega), nI_add]
      refine m_copies (n := 121) (by omega) (by omega) (by decide) (by omega) (fun M2 hF2 e1 e2 => kk M2 ⟨g1.trans hF2, fun j hj => ?_, fun j x hj hx => ?_, fun j x hj hj2 hx => ?_⟩)
      · rw [e2 j (by omega)]; exact g2 j hj
      · by_cases c : j + 1 = i
        · subst c
          have := e1 x hx
          rw [show 5 + (j + 1) - 1 = 5 + j by omega] at this
          rw [this]; exact g4 (j + 1) x (by omega) (by omega) hx
        · rw [e2 _ (by omega)]; exact g3 j x (by omega) hx
      · rw [e2 _ (by omega)]; exact g4 j x (by omega) hj2 hx
theorem MMk.st {mk : Nat → Option Deeds} {M M' : Mem} (h : MMk mk M) (e1 : ∀ i, 128 ≤ i → i < 640 → M'.1 c_mo_state i = M.1 c_mo_state i) (e2 : M'.1 c_mo_isMarked = M.1 c_mo_isMarked) : MMk mk M' := fun k hk => ⟨by rw [e2]; exact (h k hk).1, fun d hd => ((h k hk).2 d hd).fr (fun i _ => e1 _ (by omega) (by omega))⟩
theorem MTp.mv {t : List Nat} {M M' : Mem} (h : MTp t M) (e1 : M'.1 c_mo Mo_taped = M.1 c_mo Mo_taped) (e2 : M'.1 c_mo_tape = M.1 c_mo_tape) : MTp t M' := by
  unfold MTp; rw [e1, e2]; exact h
theorem MK.fr {M M' : Mem} {L : List Nat} (h : MK M) (hF : Fr2 L M M') (hd : ∀ k ∈ [c_mo_words, c_mo_factWords], k ∉ L) : MK M' := by
  unfold MK; rw [(hF _ (hd _ (by decide))).2, (hF _ (hd _ (by decide))).1]; exact h
theorem m_callsTold {d : Deeds} {M : Mem} {Q : Int32 → Mem → Prop} (h : MD 0 d M) (h9 : ∀ i, i < 120 → dtimes d i ≤ 9) (k : Q (nI (fb_ct (fun i => decide (dtimes d i ≠ 0)) 120)) M) : w_Mo_callsTold M Q := by
  unfold w_Mo_callsTold
  refine for_loop (fun n i (M1 : Mem) => w_Mo_callsTold_L4 (fun y M2 => Q y M2) Q n (nI (fb_ct (fun i => decide (dtimes d i ≠ 0)) i)) (nI i) M1) (fun i M1 => M1 = M) 120 0 M (Nat.zero_le _) rfl ?_ ?_
  · intro n M1 e
    subst e
    exact br_le (a := 120) (b := 120) (by decide) (by decide) (fun _ => k) (fun q => absurd q (by omega))
  · intro n i M1 _ hi e kk
    subst e
    have kk := kk M1 rfl
    rw [fb_ct_succ] at kk
    have e1 := h.1.1 i hi
    have h9 := h9 i hi
    rw [Nat.mul_zero, Nat.zero_add] at e1
    have e1 : M1.1 c_mo_state i = nI (dtimes d i) := e1
    unfold w_Mo_callsTold_L4
    refine br_le (a := 120) (by decide) (by omega) (fun q => absurd q (by omega)) (fun _ => ?_)
    rw [nI_clamp (by omega), e1, nI_1]
    refine ⟨vp_in_nI (by omega) (by decide), fun x ex => ?_⟩
    subst ex
    have hle := nI_leI (a := dtimes d i) (b := 0) (by omega) (by decide)
    by_cases c : dtimes d i = 0
    · have c1 : nI (dtimes d i) ≤ (0 : Int32) := hle.mpr (by omega)
      rw [if_neg (by simp [c])] at kk
      rw [if_pos c1, Int32.add_zero]
      exact kk
    · have c1 : ¬ nI (dtimes d i) ≤ (0 : Int32) := fun z => c (by have := hle.mp z; omega)
      rw [if_pos (by simp [c])] at kk
      rw [if_neg c1, nI_1]
      exact kk
theorem m_call70 {σ : St} {a h v : Nat} {M M0 : Mem} {Q : Bool → Mem → Prop} (hM : MRep σ M) (hl : LOK (sL σ)) (hH : (sH σ).length ≤ 20) (hF0 : Fr2 SMO M0 M) (ha : a < lnb (sL σ)) (hh : h < 24)
    (k : ∀ M', Fr2 SMO M0 M' → MRep (sT σ, sL σ, (un (dtimes (sD σ)) (a * 24 + h) v, dshot (sD σ), ddebt (sD σ)), sM σ, snp (sD σ) :: keepH (sH σ)) M' → Q true M') : w_Mo_call_j70 (nI a) (nI h) (nI v) M Q := by
  have hnb := hl.2.2.2.1
  obtain ⟨h1, h2, h3, h4, h5, h6⟩ := hM
  unfold w_Mo_call_j70
  refine m_keeps h4.1 hH h4.2 h2 (fun M1 hF1 f1 f2 f3 f4 => ?_)
  have ea : 24 * nI a + nI h = nI (a * 24 + h) := by simp only [fa_lit, pk_mul, nI_add, Nat.mul_comm]
  rw [ea, nI_clamp (by omega)]
  refine ⟨vp_in_nI (by omega) (by decide), ?_⟩
  generalize hM2 : si M1 c_mo_state (a * 24 + h) (nI v) = M2
  have hF2 : Fr [c_mo_state] M1 M2 := by rw [← hM2]; exact fr_si (by decide)
  have hF : Fr [c_mo, c_mo_state] M M2 := hF1.trans (hF2.mono (by decide))
  have es : ∀ i, i ≠ a * 24 + h → M2.1 c_mo_state i = M1.1 c_mo_state i := fun i hi => by rw [← hM2, si_same, up_n hi]
  have ec : M2.1 c_mo = M1.1 c_mo := hF2.1 _ (by decide)
  refine k M2 (hF0.trans (hF.mono (by decide)).two) ⟨h1.fr hF (by decide), ⟨⟨fun i hi => ?_, ?_⟩, fun p hp => ?_⟩, h3.st (fun i hi hi2 => ?_) (hF.1 _ (by decide)), ⟨by rw [ec]; exact f3, f4.fr (fun j i hj hi => es _ (by omega))⟩, h5.mv (by rw [ec]; exact f1 _ (by decide)) (hF.1 _ (by decide)), h6.fr hF.two (by decide)⟩
  · rw [Nat.mul_zero, Nat.zero_add]
    show M2.1 c_mo_state i = nI (un (dtimes (sD σ)) (a * 24 + h) v i)
    by_cases c : i = a * 24 + h
    · subst c; rw [un_s, ← hM2, si_same, up_s]
    · rw [un_n c, es i c, f2 i (by omega)]
      have := h2.1.1 i hi
      rw [Nat.mul_zero, Nat.zero_add] at this
      exact this
  · rw [es _ (by omega), f2 _ (by omega)]; exact h2.1.2
  · rw [es _ (by omega), f2 _ (by omega)]; exact h2.2 p hp
  · rw [es _ (by omega)]; exact f2 i hi2
theorem m_call {σ : St} {a h v : Int32} {M : Mem} {Q : Bool → Mem → Prop} (hM : MRep σ M) (hl : LOK (sL σ)) (hH : (sH σ).length ≤ 20) (hg : dgood (sL σ) (sD σ)) (k : ∀ M', Fr2 SMO M M' → MRep (callN σ a h v) M' → Q (callOk (sL σ) (sD σ) a h v) M') : w_Mo_call a h v M Q := by
  have hnb := hl.2.2.2.1
  have hM1 := hM.thr (v := 0)
  unfold w_Mo_call
  have hF1 : Fr2 SMO M (si M c_mo Mo_thrown 0) := fr2_si (by decide)
  generalize si M c_mo Mo_thrown 0 = M1 at hM1 hF1 ⊢
  have k0 : callOk (sL σ) (sD σ) a h v = false → Q false M1 := fun e => by
    have := k M1 hF1 (by unfold callN; rw [e]; exact hM1)
    rw [e] at this; exact this
  refine m_isBird hM1.1 ⟨fun h1 => k0 (by unfold callOk; rw [h1]; rfl), fun h1 => m_isHour ⟨fun h2 => k0 (by unfold callOk; rw [h1, h2]; rfl), fun h2 => m_within ⟨fun h3 => ?_, fun h3 => ?_⟩⟩⟩
  · have h3 := (within_inR (n := 9) (by decide)).symm.trans h3
    exact k0 (by unfold callOk; rw [h1, h2, h3]; rfl)
  have hin := (within_inR (n := 9) (by decide)).symm.trans h3
  obtain ⟨a, ha, rfl⟩ := inR_true (by omega) h1
  obtain ⟨h, hh, rfl⟩ := inR_true (by omega) h2
  obtain ⟨v, hv, rfl⟩ := inR_true (by omega) hin
  have ea : 24 * nI a + nI h = nI (a * 24 + h) := by simp only [fa_lit, pk_mul, nI_add, Nat.mul_comm]
  have e1 := hM1.2.1.1.1 (a * 24 + h) (by omega)
  rw [Nat.mul_zero, Nat.zero_add] at e1
  have e1 : M1.1 c_mo_state (a * 24 + h) = nI (dtimes (sD σ) (a * 24 + h)) := e1
  have h9 := hg.1.1 (a * 24 + h) (by omega)
  have h9 : dtimes (sD σ) (a * 24 + h) ≤ 9 := h9
  have hz : fb_ct (fun i => decide (dtimes (sD σ) i ≠ 0)) 120 ≤ 30 := hg.1.2.2
  unfold callN callOk at k
  unfold callOk at k0
  rw [h1, h2, hin] at k k0
  unfold anI at k k0
  rw [nI_clamp (by omega), nI_clamp (by omega)] at k k0
  rw [nI_clamp (n := v) (by omega)] at k
  rw [ea, nI_clamp (by omega), e1]
  have vi : vp_in (nI (a * 24 + h)) 3200 := vp_in_nI (by omega) (by decide)
  refine ⟨vi, fun e => k0 ?_, fun e => ⟨vi, ?_⟩⟩
  · rw [decide_eq_true e]; rfl
  · rw [decide_eq_false e] at k k0
    refine br_ne (b := 0) (by omega) (by decide) (fun e0 => ?_) (fun e0 => ?_)
    · rw [decide_eq_true e0] at k
      exact m_call70 hM1 hl hH hF1 ha hh k
    · refine m_callsTold hM1.2.1 hg.1.1 (br_ne (b := 30) (by omega) (by decide) (fun e2 => ?_) (fun e2 => k0 ?_))
      · rw [decide_eq_true (show fb_ct (fun i => decide (dtimes (sD σ) i ≠ 0)) 120 < 30 by omega), Bool.or_true] at k
        exact m_call70 hM1 hl hH hF1 ha hh k
      · rw [decide_eq_false (show ¬ fb_ct (fun i => decide (dtimes (sD σ) i ≠ 0)) 120 < 30 by omega), e0]; rfl
