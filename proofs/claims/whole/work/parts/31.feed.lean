/-! the tape -/
def shI (i : Nat) : Int32 := 56 - nI (8 * i)
def bytC (x : Int64) (s : Int32) : Int32 := Int64.toInt32 ((Int64.toUInt64 x >>> (Int64.toUInt64 (Int32.toInt64 s) &&& Int64.toUInt64 63)).toInt64 &&& 255)
def bytM (x : Int64) (s : Int32) : Int32 := (Int64.toInt32 (x >>> (Int32.toInt64 s &&& 63))) &&& 255
theorem and255 (y : Int32) : ∃ c, c < 256 ∧ y &&& 255 = nI c := by
  refine ⟨y.toUInt32.toNat % 256, Nat.mod_lt _ (by decide), ?_⟩
  have e : y = nI y.toUInt32.toNat := by
    show y = Int32.ofNat y.toUInt32.toNat
    rw [← Int32.toBitVec_inj]
    simp
  have := fa_mask y.toUInt32.toNat 8
  rw [← e] at this
  exact this
theorem bytC_M (x : Int64) (j : Fin 8) : bytC x (shI j.val) = bytM x (shI j.val) := by
  have h1 : ∀ j : Fin 8, Int64.toUInt64 (Int32.toInt64 (shI j.val)) &&& Int64.toUInt64 63 = UInt64.ofNat (56 - 8 * j.val) := by decide
  have h2 : ∀ j : Fin 8, Int32.toInt64 (shI j.val) &&& 63 = Int64.ofNat (56 - 8 * j.val) := by decide
  unfold bytC bytM
  rw [h1 j, h2 j]
  have h3 : ∀ j : Fin 8, (UInt64.ofNat (56 - 8 * j.val)).toBitVec % 64#64 = BitVec.ofNat 64 (56 - 8 * j.val) := by decide
  have h4 : ∀ j : Fin 8, ((Int64.ofNat (56 - 8 * j.val)).toBitVec.smod 64#64).toNat = 56 - 8 * j.val := by decide
  rw [← Int32.toBitVec_inj, Int64.toBitVec_toInt32, Int64.toBitVec_and, UInt64.toBitVec_toInt64, UInt64.toBitVec_shiftRight, Int32.toBitVec_and, Int64.toBitVec_toInt32, Int64.toBitVec_shiftRight]
  apply BitVec.eq_of_getLsbD_eq
  intro i hi
  rw [BitVec.getLsbD_and, BitVec.signExtend_eq_setWidth_of_le _ (by decide), BitVec.signExtend_eq_setWidth_of_le _ (by decide), BitVec.getLsbD_setWidth, BitVec.getLsbD_setWidth, BitVec.getLsbD_and]
  have h5 : ∀ i : Fin 32, (Int64.toBitVec 255).getLsbD i.val = decide (i.val < 8) := by decide
  have h6 : ∀ i : Fin 32, (Int32.toBitVec 255).getLsbD i.val = decide (i.val < 8) := by decide
  rw [h5 ⟨i, hi⟩, h6 ⟨i, hi⟩]
  by_cases c : i < 8
  · simp only [hi, c, decide_true, Bool.true_and, Bool.and_true]
    have hj : 56 - 8 * j.val ≤ 56 := by omega
    have e3 : (UInt64.ofNat (56 - 8 * j.val)).toBitVec % 64 = BitVec.ofNat 64 (56 - 8 * j.val) := h3 j
    have e4 : ((Int64.ofNat (56 - 8 * j.val)).toBitVec.smod 64).toNat = 56 - 8 * j.val := h4 j
    have e5 : (BitVec.ofNat 64 (56 - 8 * j.val)).toNat = 56 - 8 * j.val := by rw [BitVec.toNat_ofNat]; omega
    rw [e3, BitVec.ushiftRight_eq', e5, BitVec.getLsbD_ushiftRight]
    unfold BitVec.sshiftRight'
    rw [e4, BitVec.getLsbD_sshiftRight, decide_eq_false (show ¬ 64 ≤ i by omega), if_pos (by omega)]
    rfl
  · simp only [c, decide_false, Bool.and_false]
def okB (c : Nat) : Bool := decide (c = 10) || (decide (32 ≤ c) && decide (c ≤ 126))
theorem okB_S {c : Nat} (h : okB c = true) : okS c := by
  unfold okB at h
  unfold okS
  simp only [Bool.or_eq_true, Bool.and_eq_true, decide_eq_true_eq] at h
  exact h
def addS (t : List Nat) (c : Nat) : List Nat := if okB c && decide (t.length < 1000) then t ++ [c] else t
def bytN (x : Int64) (i : Nat) : Nat := (bytM x (shI i)).toNatClampNeg
def layT (x : Int64) : Nat → List Nat → List Nat
  | 0, t => t
  | n + 1, t => addS (layT x n t) (bytN x n)
theorem bytN_eq (x : Int64) (i : Nat) : bytM x (shI i) = nI (bytN x i) ∧ bytN x i < 256 := by
  obtain ⟨c, hc, e⟩ := and255 (Int64.toInt32 (x >>> (Int32.toInt64 (shI i) &&& 63)))
  have e : bytM x (shI i) = nI c := e
  unfold bytN
  rw [e, nI_clamp (by omega)]
  exact ⟨rfl, hc⟩
theorem shI_s {i : Nat} (hi : i < 8) : shI i + (-8) = shI (i + 1) := by
  have : ∀ j : Fin 8, shI j.val + (-8) = shI (j.val + 1) := by decide
  exact this ⟨i, hi⟩
theorem shI_p {i : Nat} (hi : i < 8) : ¬ shI i < 0 := by
  have : ∀ j : Fin 8, ¬ shI j.val < 0 := by decide
  exact this ⟨i, hi⟩
theorem nar_c {c : Nat} (h : c < 256) : vp_nar .char (Int32.toUInt32 (nI c) % 65536).toInt32 = nI c := by
  have : ∀ j : Fin 256, vp_nar .char (Int32.toUInt32 (nI j.val) % 65536).toInt32 = nI j.val := by decide +kernel
  exact this ⟨c, h⟩
theorem getD_app {t : List Nat} {c i : Nat} (h : i < t.length) : (t ++ [c]).getD i 0 = t.getD i 0 := by
  rw [List.getD_eq_getElem?_getD, List.getD_eq_getElem?_getD, List.getElem?_append_left h]
theorem getD_last {t : List Nat} {c : Nat} : (t ++ [c]).getD t.length 0 = c := by
  rw [List.getD_eq_getElem?_getD, List.getElem?_append_right (Nat.le_refl _), Nat.sub_self]; rfl
theorem XTp.add {t : List Nat} {c : Nat} {M : Mem} (h : XTp t M) (hc : okB c = true) (hl : t.length < 1000) : XTp (t ++ [c]) (si (si M c_tape_signs t.length (nI c)) c_tape Tape_length (nI (t.length + 1))) := by
  refine ⟨?_, by rw [List.length_append]; show t.length + 1 ≤ 1000; omega, fun i hi => ?_⟩
  · rw [si_same, up_s, List.length_append]; rfl
  · rw [List.length_append] at hi
    have hi : i < t.length + 1 := hi
    rw [si_ne _ _ _ (by decide), si_same]
    by_cases e : i = t.length
    · subst e
      rw [up_s, getD_last]; exact ⟨rfl, okB_S hc⟩
    · rw [up_n e, getD_app (by omega)]; exact h.2.2 i (by omega)
theorem x_addBytes {x : Int64} {t : List Nat} {M : Mem} {Q : Mem → Prop} (h : XTp t M) (k : ∀ M', Fr [c_tape, c_tape_signs] M M' → XTp (layT x 8 t) M' → Q M') : w_Tape_addBytes x M Q := by
  unfold w_Tape_addBytes
  refine for_loop (fun n i (M1 : Mem) => w_Tape_addBytes_L3 x (fun M2 => Q M2) Q n (shI i) M1) (fun i M1 => Fr [c_tape, c_tape_signs] M M1 ∧ XTp (layT x i t) M1) 8 0 M (Nat.zero_le _) ⟨Fr.rfl, h⟩ ?_ ?_
  · intro n M1 ⟨hF, h1⟩
    exact ⟨fun _ => k M1 hF h1, fun q => absurd (by decide) q⟩
  · intro n i M1 _ hi ⟨hF, h1⟩ kk
    obtain ⟨e1, e2⟩ := bytN_eq x i
    have e3 : bytC x (shI i) = nI (bytN x i) := (bytC_M x ⟨i, hi⟩).trans e1
    rw [layT] at kk
    unfold w_Tape_addBytes_L3
    rw [shI_s hi]
    refine ⟨fun q => absurd q (shI_p hi), fun _ y ey => ?_⟩
    have ey : y = nI (bytN x i) := ey.trans e3
    generalize bytN x i = c at ey e2 kk
    generalize layT x i t = u at h1 kk
    subst ey
    have hu := h1.2.1
    unfold w_Tape_addBytes_j48
    rw [h1.1, nI_clamp (by omega), nar_c e2, nI_1, shI_s hi]
    have kno : ¬ (okB c = true ∧ u.length < 1000) → w_Tape_addBytes_L3 x (fun M2 => Q M2) Q n (shI (i + 1)) M1 := fun z => kk M1 ⟨hF, by
      unfold addS
      rw [if_neg (by simp only [Bool.and_eq_true, decide_eq_true_eq]; exact z)]
      exact h1⟩
    have kyes : okB c = true → u.length < 1000 → w_Tape_addBytes_L3 x (fun M2 => Q M2) Q n (shI (i + 1)) (si (si M1 c_tape_signs u.length (nI c)) c_tape Tape_length (nI (u.length + 1))) := fun z1 z2 => kk _ ⟨(hF.put _ _ _ (by decide)).put _ _ _ (by decide), by
      unfold addS
      rw [if_pos (by simp only [Bool.and_eq_true, decide_eq_true_eq]; exact ⟨z1, z2⟩)]
      exact h1.add z1 z2⟩
    refine br_le (a := 1000) (by decide) (by omega) (fun q => kno (fun z => by omega)) (fun q => br_eq (b := 10) (by omega) (by decide) (fun q2 => ⟨vp_in_nI q (by decide), kyes (by unfold okB; rw [decide_eq_true q2]; rfl) q⟩) (fun q2 => br_lt (b := 32) (by omega) (by decide) (fun q3 => kno (fun z => ?_)) (fun q3 => br_lt (a := 126) (by decide) (by omega) (fun q4 => kno (fun z => ?_)) (fun q4 => ⟨vp_in_nI q (by decide), kyes ?_ q⟩))))
    · rcases okB_S z.1 with z | z <;> omega
    · rcases okB_S z.1 with z | z <;> omega
    · unfold okB; rw [decide_eq_true q3, decide_eq_true q4, Bool.or_comm]; rfl
def feedN (σ : St) (a b c : Int64) : St := (layT c 8 (layT b 8 (layT a 8 (sT σ))), sL σ, sD σ, sM σ, sH σ)
theorem x_Tfeed {σ : St} {a b c : Int64} {M : Mem} {Q : Int32 → Mem → Prop} (hX : XRep σ M) (k : ∀ M', Fr2 SCL M M' → XRep (feedN σ a b c) M' → Q (nI (sT (feedN σ a b c)).length) M') : w_Top_feed a b c M Q := by
  obtain ⟨hD, hg, hB, hM, hH, hT, hK⟩ := hX
  unfold w_Top_feed
  refine x_addBytes hT (fun M1 hF1 h1 => x_addBytes h1 (fun M2 hF2 h2 => x_addBytes h2 (fun M3 hF3 h3 => ?_)))
  have hF := (hF1.trans hF2).trans hF3
  rw [h3.1]
  exact k M3 (hF.mono (by decide)).two ⟨hD.fr hF (by decide), hg, hB.fr hF (by decide), hM.fr hF (by decide), hH.fr hF (by decide), h3, hK.fr hF⟩
