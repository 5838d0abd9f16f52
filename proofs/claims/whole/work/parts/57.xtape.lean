/-! the class's tape: from token to token -/
theorem si_at {M : Mem} {k j : Nat} {v : Int32} : (si M k j v).1 k j = v := by rw [si_same, up_s]
theorem si_of {M : Mem} {k j i : Nat} {v : Int32} (h : i ≠ j) : (si M k j v).1 k i = M.1 k i := by rw [si_same, up_n h]
theorem sl_at {M : Mem} {k j : Nat} {v : Int64} : (sl M k j v).2 k j = v := by rw [sl_same]; exact pk_uLs
theorem sl_of {M : Mem} {k j i : Nat} {v : Int64} (h : i ≠ j) : (sl M k j v).2 k i = M.2 k i := by rw [sl_same]; exact pk_uLn h
theorem sl_1 {M : Mem} {k j : Nat} {v : Int64} : (sl M k j v).1 = M.1 := rfl
theorem si_2 {M : Mem} {k j : Nat} {v : Int32} : (si M k j v).2 = M.2 := rfl
theorem shl5 (a : Nat) : lN a <<< (Int32.toInt64 (5 : Int32) &&& 63) = lN (a * 32) := by
  apply Int64.toBitVec_inj.mp
  rw [show (Int32.toInt64 (5 : Int32) &&& 63) = 5 from by decide]
  have ee : (lN a <<< (5 : Int64)).toBitVec = (lN a).toBitVec <<< 5 := by
    rw [Int64.toBitVec_shiftLeft]; rfl
  rw [ee]
  unfold lN
  apply BitVec.eq_of_toNat_eq
  rw [BitVec.toNat_shiftLeft, Nat.shiftLeft_eq]
  simp only [Int64.toBitVec_ofNat', BitVec.toNat_ofNat]
  omega
theorem let5 {c : Nat} (h : 97 ≤ c) (h2 : c ≤ 122) : Int32.toInt64 ((nI c - 97) + 1) = lN (c - 96) := by
  rw [show (97 : Int32) = nI 97 from rfl, pk_sub h, nI_1, nI_l (by omega), show c - 97 + 1 = c - 96 by omega]
theorem XTp.ct {t : List Nat} {M M' : Mem} (h : XTp t M) (h1 : M'.1 c_tape Tape_length = M.1 c_tape Tape_length) (h2 : M'.1 c_tape_signs = M.1 c_tape_signs) : XTp t M' := by unfold XTp; rw [h1, h2]; exact h
theorem XTp.si {t : List Nat} {M : Mem} {j : Nat} {v : Int32} (h : XTp t M) (h1 : j ≠ Tape_length) : XTp t (si M c_tape j v) := h.ct (si_of (Ne.symm h1)) (si_ne _ _ _ (by decide))
theorem XTp.sw {t : List Nat} {M : Mem} {k j : Nat} {v : Int64} (h : XTp t M) : XTp t (sl M k j v) := h
theorem XTp.lt127 {t : List Nat} {M : Mem} {i : Nat} (h : XTp t M) (hi : i < t.length) : t.getD i 0 < 127 := by
  rcases (h.2.2 i hi).2 with z | z <;> omega
theorem XK.two {M M' : Mem} (h : XK M) (hF : Fr2 [c_tape] M M') : XK M' := by unfold XK; rw [(hF c_tape_keywords (by decide)).2]; exact h
def ckw (k : Nat) : Int32 := if k < 24 then nI k else -1
theorem x_rw_of {M : Mem} {Q : Mem → Prop} (h : ∃ n, w_Tape_readWord_L0 (fun M25 => w_Tape_readWord_j78 M25 Q) Q n M) : w_Tape_readWord M Q := by
  obtain ⟨n, h⟩ := h
  match n, h with
  | n + 1, h => exact ⟨h.1, fun q => ⟨(h.2 q).1, (h.2 q).2.1, fun q2 => ⟨((h.2 q).2.2 q2).1, ((h.2 q).2.2 q2).2.1, fun q3 => ⟨(((h.2 q).2.2 q2).2.2 q3).1, n, (((h.2 q).2.2 q2).2.2 q3).2⟩⟩⟩⟩
theorem x_rn_of {M : Mem} {Q : Mem → Prop} (h : ∃ n, w_Tape_readNumber_L0 (fun M25 => w_Tape_readNumber_j76 M25 Q) Q n M) : w_Tape_readNumber M Q := by
  obtain ⟨n, h⟩ := h
  match n, h with
  | n + 1, h => exact ⟨h.1, fun q => ⟨(h.2 q).1, (h.2 q).2.1, fun q2 => ⟨((h.2 q).2.2 q2).1, ((h.2 q).2.2 q2).2.1, fun q3 => ⟨(((h.2 q).2.2 q2).2.2 q3).1, n, (((h.2 q).2.2 q2).2.2 q3).2⟩⟩⟩⟩
theorem x_st_of {M : Mem} {Q : Bool → Mem → Prop} (h : ∃ n, w_Tape_step_L0 (fun M25 => w_Tape_step_j52 M25 Q) Q n M) : w_Tape_step M Q := by
  obtain ⟨n, h⟩ := h
  match n, h with
  | n + 1, h => exact ⟨h.1, fun q => ⟨(h.2 q).1, fun q2 => ⟨n, (h.2 q).2.1 q2⟩, fun q2 => ⟨((h.2 q).2.2 q2).1, ((h.2 q).2.2 q2).2.1, fun q3 => ⟨n, ((h.2 q).2.2 q2).2.2 q3⟩⟩⟩⟩
theorem x_rw78 {t : List Nat} {p e : Nat} {M : Mem} {Q : Mem → Prop} (h : XTp t M) (hK : XK M) (hpe : p ≤ e) (hel : e ≤ t.length) (hn : M.1 c_tape Tape_next = nI e) (hp : M.1 c_tape Tape_place = nI p) (hk : M.1 c_tape Tape_keyword = -1) (w : List Nat) (hw : M.2 c_tape Tape_word = lN (w5 w)) (hok : e - p ≤ 8 → okw w)
    (k : ∀ M', Fr2 [c_tape] M M' → XTp t M' → M'.1 c_tape Tape_next = nI e → M'.1 c_tape Tape_place = nI p → M'.1 c_tape Tape_token = (if e - p ≤ 8 then 2 else 1) → M'.1 c_tape Tape_keyword = (if e - p ≤ 8 then ckw (kwI w) else -1) → M'.2 c_tape Tape_word = lN (w5 w) → Q M') : w_Tape_readWord_j78 M Q := by
  have hle := h.2.1
  unfold w_Tape_readWord_j78
  rw [hn, hp, pk_sub hpe]
  by_cases c : e - p ≤ 8
  · simp only [if_pos c] at k
    have hok := hok c
    rw [if_neg (by rw [show (8 : Int32) = nI 8 from rfl, nI_ltI (by decide) (by omega)]; omega)]
    refine for_loop (fun n i (M2 : Mem) => w_Tape_readWord_L103 (fun M23 => Q M23) Q n (nI i) M2) (fun i M2 => Fr2 [c_tape] M M2 ∧ XTp t M2 ∧ M2.1 c_tape Tape_next = nI e ∧ M2.1 c_tape Tape_place = nI p ∧ M2.1 c_tape Tape_token = 2 ∧ M2.1 c_tape Tape_keyword = (if kwI w < i then nI (kwI w) else -1) ∧ M2.2 c_tape Tape_word = lN (w5 w)) 24 0 _ (Nat.zero_le _) ⟨fr2_si (by decide), h.si (by decide), by rw [si_of (by decide)]; exact hn, by rw [si_of (by decide)]; exact hp, si_at, by rw [si_of (by decide), if_neg (Nat.not_lt_zero _)]; exact hk, hw⟩ ?_ ?_
    · intro n M2 ⟨a1, a2, a3, a4, a5, a6, a7⟩
      exact br_le (a := 24) (b := 24) (by decide) (by decide) (fun _ => k M2 a1 a2 a3 a4 a5 a6 a7) (fun q => absurd q (by omega))
    · intro n i M2 _ hi ⟨a1, a2, a3, a4, a5, a6, a7⟩ kk
      refine br_le (a := 24) (by decide) (by omega) (fun q => absurd q (by omega)) (fun _ => ⟨fun q => absurd a5 q, fun _ => ⟨vp_in_nI hi (by decide), ?_⟩⟩)
      rw [nI_clamp (by omega), nI_1, (hK.two a1) i hi, a7, lg_0, l5_iff (KW_ok hi) hok, ← kwI_iff hi]
      refine ⟨fun q => kk M2 ⟨a1, a2, a3, a4, a5, ?_, a7⟩, fun q => kk _ ⟨a1.trans (fr2_si (by decide)), a2.si (by decide), by rw [si_of (by decide)]; exact a3, by rw [si_of (by decide)]; exact a4, by rw [si_of (by decide)]; exact a5, ?_, a7⟩⟩
      · rw [a6]
        by_cases c2 : kwI w < i
        · rw [if_pos c2, if_pos (by omega)]
        · rw [if_neg c2, if_neg (by omega)]
      · rw [si_at, q, if_pos (by omega)]
  · simp only [if_neg c] at k
    rw [if_pos (by rw [show (8 : Int32) = nI 8 from rfl, nI_ltI (by decide) (by omega)]; omega)]
    refine ⟨1, fun q => absurd q (by decide), fun _ => ⟨fun _ => k _ (fr2_si (by decide)) (h.si (by decide)) ?_ ?_ si_at ?_ hw, fun q => ?_⟩⟩
    · rw [si_of (by decide)]; exact hn
    · rw [si_of (by decide)]; exact hp
    · rw [si_of (by decide)]; exact hk
    · rw [si_at] at q; exact absurd q (by decide)
theorem sub_ok {t : List Nat} {p : Nat} (hl : p ≤ t.length) (h8 : rn isL t p - p ≤ 8) : okw (lts (sub t p (rn isL t p))) := by
  have he := rn_le (P := isL) (Nat.le_refl (t.length - p)) hl
  refine ⟨fun c hc => ?_, ?_⟩
  · unfold lts at hc
    obtain ⟨x, hx, rfl⟩ := List.mem_map.mp hc
    obtain ⟨k, h1, h2, rfl⟩ := sub_mem rn_ge he hx
    have := isL_t.mp (rn_in (Nat.le_refl _) h1 h2).2
    omega
  · unfold lts; rw [List.length_map, sub_len he]; exact h8
theorem x_readWord {t : List Nat} {p : Nat} {M : Mem} {Q : Mem → Prop} (h : XTp t M) (hK : XK M) (hl : p < t.length) (hn : M.1 c_tape Tape_next = nI p) (hp : M.1 c_tape Tape_place = nI p) (hk : M.1 c_tape Tape_keyword = -1) (hw : M.2 c_tape Tape_word = 0)
    (k : ∀ M', Fr2 [c_tape] M M' → XTp t M' → M'.1 c_tape Tape_next = nI (rn isL t p) → M'.1 c_tape Tape_place = nI p → M'.1 c_tape Tape_token = (if rn isL t p - p ≤ 8 then 2 else 1) → M'.1 c_tape Tape_keyword = (if rn isL t p - p ≤ 8 then ckw (kwI (lts (sub t p (rn isL t p)))) else -1) → M'.2 c_tape Tape_word = lN (w5 (lts (sub t p (rn isL t p)))) → Q M') : w_Tape_readWord M Q := by
  have hle := h.2.1
  have he := rn_le (P := isL) (Nat.le_refl (t.length - p)) (Nat.le_of_lt hl)
  refine x_rw_of (for_loop (fun n j (M1 : Mem) => w_Tape_readWord_L0 (fun M25 => w_Tape_readWord_j78 M25 Q) Q n M1) (fun j M1 => Fr2 [c_tape] M M1 ∧ XTp t M1 ∧ M1.1 c_tape Tape_next = nI j ∧ M1.1 c_tape Tape_place = nI p ∧ M1.1 c_tape Tape_keyword = -1 ∧ M1.2 c_tape Tape_word = lN (w5 (lts (sub t p j)))) (rn isL t p) p M rn_ge ⟨Fr2.rfl, h, hn, hp, hk, by rw [hw, sub_0]; rfl⟩ ?_ ?_)
  · intro n M1 ⟨a1, a2, a3, a4, a5, a6⟩
    have kx : w_Tape_readWord_j78 M1 Q := x_rw78 a2 (hK.two a1) rn_ge he a3 a4 a5 _ a6 (sub_ok (by omega)) (fun M' b1 b2 b3 b4 b5 b6 b7 => k M' (a1.trans b1) b2 b3 b4 b5 b6 b7)
    unfold w_Tape_readWord_L0
    rw [a2.1, a3]
    refine br_le (by omega) (by omega) (fun _ => kx) (fun q => ?_)
    have hc := rn_stop (P := isL) (Nat.le_refl (t.length - p)) q
    have h7 := a2.lt127 q
    rw [nI_clamp (by omega), (a2.2.2 _ q).1]
    exact ⟨vp_in_nI (by omega) (by decide), br_lt (b := 97) (by omega) (by decide) (fun _ => kx) (fun q2 => ⟨vp_in_nI (by omega) (by decide), br_lt (a := 122) (by decide) (by omega) (fun _ => kx) (fun q3 => absurd (isL_t.mpr ⟨q2, q3⟩) (by rw [hc]; decide))⟩)⟩
  · intro n j M1 hj1 hj ⟨a1, a2, a3, a4, a5, a6⟩ kk
    obtain ⟨hjl, hc⟩ := rn_in (Nat.le_refl _) hj1 hj
    have hc := isL_t.mp hc
    have h7 := a2.lt127 hjl
    unfold w_Tape_readWord_L0
    rw [a2.1, a3, nI_clamp (by omega), (a2.2.2 _ hjl).1, a6, shl5, let5 hc.1 hc.2, lN_add, nI_1]
    refine br_le (by omega) (by omega) (fun q => absurd q (by omega)) (fun _ => ⟨vp_in_nI (by omega) (by decide), br_lt (b := 97) (by omega) (by decide) (fun q => absurd q (by omega)) (fun _ => ⟨vp_in_nI (by omega) (by decide), br_lt (a := 122) (by decide) (by omega) (fun q => absurd q (by omega)) (fun _ => ⟨vp_in_nI (by omega) (by decide), kk _ ⟨a1.trans ((fr2_sl (by decide)).trans (fr2_si (by decide))), (a2.ct (M' := sl M1 c_tape Tape_word _) rfl rfl).si (by decide), si_at, ?_, ?_, ?_⟩⟩)⟩)⟩)
    · rw [si_of (by decide), sl_1]; exact a4
    · rw [si_of (by decide), sl_1]; exact a5
    · rw [si_2, sl_at, sub_s hj1 hjl, lts_s, w5_s]
theorem x_readNumber {t : List Nat} {p : Nat} {M : Mem} {Q : Mem → Prop} (h : XTp t M) (hl : p < t.length) (hn : M.1 c_tape Tape_next = nI p) (hp : M.1 c_tape Tape_place = nI p) (hk : M.1 c_tape Tape_keyword = -1) (hw : M.1 c_tape Tape_number = 0)
    (k : ∀ M', Fr2 [c_tape] M M' → XTp t M' → M'.1 c_tape Tape_next = nI (rn isG t p) → M'.1 c_tape Tape_place = nI p → M'.1 c_tape Tape_token = (if rn isG t p - p ≤ 4 then 3 else 1) → M'.1 c_tape Tape_keyword = -1 → M'.1 c_tape Tape_number = nI (dgs (sub t p (rn isG t p))) → Q M') : w_Tape_readNumber M Q := by
  have hle := h.2.1
  have he := rn_le (P := isG) (Nat.le_refl (t.length - p)) (Nat.le_of_lt hl)
  have hge := rn_ge (P := isG) (t := t) (i := p)
  refine x_rn_of (for_loop (fun n j (M1 : Mem) => w_Tape_readNumber_L0 (fun M25 => w_Tape_readNumber_j76 M25 Q) Q n M1) (fun j M1 => Fr2 [c_tape] M M1 ∧ XTp t M1 ∧ M1.1 c_tape Tape_next = nI j ∧ M1.1 c_tape Tape_place = nI p ∧ M1.1 c_tape Tape_keyword = -1 ∧ M1.1 c_tape Tape_number = nI (dgs (sub t p j))) (rn isG t p) p M rn_ge ⟨Fr2.rfl, h, hn, hp, hk, by rw [hw, sub_0]; rfl⟩ ?_ ?_)
  · intro n M1 ⟨a1, a2, a3, a4, a5, a6⟩
    have kx : w_Tape_readNumber_j76 M1 Q := by
      unfold w_Tape_readNumber_j76
      rw [a3, a4, pk_sub hge]
      have e : (if (4 : Int32) < nI (rn isG t p - p) then (1 : Int32) else 3) = if rn isG t p - p ≤ 4 then 3 else 1 := by
        by_cases c : rn isG t p - p ≤ 4
        · rw [if_pos c, if_neg (by rw [show (4 : Int32) = nI 4 from rfl, nI_ltI (by decide) (by omega)]; omega)]
        · rw [if_neg c, if_pos (by rw [show (4 : Int32) = nI 4 from rfl, nI_ltI (by decide) (by omega)]; omega)]
      rw [e]
      refine k _ (a1.trans (fr2_si (by decide))) (a2.si (by decide)) ?_ ?_ si_at ?_ ?_
      · rw [si_of (by decide)]; exact a3
      · rw [si_of (by decide)]; exact a4
      · rw [si_of (by decide)]; exact a5
      · rw [si_of (by decide)]; exact a6
    unfold w_Tape_readNumber_L0
    rw [a2.1, a3]
    refine br_le (by omega) (by omega) (fun _ => kx) (fun q => ?_)
    have hc := rn_stop (P := isG) (Nat.le_refl (t.length - p)) q
    have h7 := a2.lt127 q
    rw [nI_clamp (by omega), (a2.2.2 _ q).1]
    exact ⟨vp_in_nI (by omega) (by decide), br_lt (b := 48) (by omega) (by decide) (fun _ => kx) (fun q2 => ⟨vp_in_nI (by omega) (by decide), br_lt (a := 57) (by decide) (by omega) (fun _ => kx) (fun q3 => absurd (isG_t.mpr ⟨q2, q3⟩) (by rw [hc]; decide))⟩)⟩
  · intro n j M1 hj1 hj ⟨a1, a2, a3, a4, a5, a6⟩ kk
    obtain ⟨hjl, hc⟩ := rn_in (Nat.le_refl _) hj1 hj
    have hc := isG_t.mp hc
    have h7 := a2.lt127 hjl
    unfold w_Tape_readNumber_L0
    rw [a2.1, a3, nI_clamp (by omega), (a2.2.2 _ hjl).1, a6, nI_1, show (48 : Int32) = nI 48 from rfl, pk_sub hc.1, show (10 : Int32) = nI 10 from rfl, pk_mul, nI_add]
    refine br_le (by omega) (by omega) (fun q => absurd q (by omega)) (fun _ => ⟨vp_in_nI (by omega) (by decide), br_lt (b := 48) (by omega) (by decide) (fun q => absurd q (by omega)) (fun _ => ⟨vp_in_nI (by omega) (by decide), br_lt (a := 57) (by decide) (by omega) (fun q => absurd q (by omega)) (fun _ => ⟨vp_in_nI (by omega) (by decide), kk _ ⟨a1.trans ((fr2_si (by decide)).trans (fr2_si (by decide))), (a2.si (by decide)).si (by decide), si_at, ?_, ?_, ?_⟩⟩)⟩)⟩)
    · rw [si_of (by decide), si_of (by decide)]; exact a4
    · rw [si_of (by decide), si_of (by decide)]; exact a5
    · rw [si_of (by decide), si_at, sub_s hj1 hjl, dgs_s]
theorem x_isSign {c : Nat} {M : Mem} {Q : Bool → Mem → Prop} (hc : c < 127) (k : Q (isS c) M) : w_Tape_isSign (nI c) M Q := by
  have go : ∀ d : Nat, d < 127 → ∀ b : Bool, isS d = b → nI c = nI d → Q b M := fun d hd b hb e => by
    have := ni_inj (by omega) (by omega) e
    subst this; rw [← hb]; exact k
  refine ⟨go 40 (by decide) _ (by decide), go 41 (by decide) _ (by decide), go 42 (by decide) _ (by decide), go 43 (by decide) _ (by decide), go 44 (by decide) _ (by decide), go 45 (by decide) _ (by decide), go 46 (by decide) _ (by decide), go 47 (by decide) _ (by decide), go 48 (by decide) _ (by decide), go 49 (by decide) _ (by decide), go 50 (by decide) _ (by decide), go 51 (by decide) _ (by decide), go 52 (by decide) _ (by decide), go 53 (by decide) _ (by decide), go 54 (by decide) _ (by decide), go 55 (by decide) _ (by decide), go 56 (by decide) _ (by decide), go 57 (by decide) _ (by decide), go 58 (by decide) _ (by decide), go 59 (by decide) _ (by decide), go 60 (by decide) _ (by decide), go 61 (by decide) _ (by decide), ?_⟩
  intro n40 n41 n42 n43 _ n45 _ _ _ _ _ _ _ _ _ _ _ _ _ n59 n60 n61
  have : isS c = false := by
    apply bf_n
    intro z
    unfold isS at z
    have z := List.contains_iff_mem.mp z
    simp only [List.mem_cons, List.not_mem_nil, or_false] at z
    rcases z with z | z | z | z | z | z | z | z <;> subst z <;> first | exact n40 rfl | exact n41 rfl | exact n42 rfl | exact n43 rfl | exact n45 rfl | exact n59 rfl | exact n60 rfl | exact n61 rfl
  rw [← this]; exact k
def ctok (s c : Nat) : Int32 := if s = 0 then 0 else if s = 1 then 2 else if s = 2 then 3 else if s = 3 then nI c else 1
def TI (t : List Nat) (i : Nat) (M : Mem) : Prop := M.1 c_tape Tape_next = nI (tE t i) ∧ M.1 c_tape Tape_place = nI (tP t i) ∧ M.1 c_tape Tape_token = ctok (tS t i) (tC t i) ∧ M.1 c_tape Tape_keyword = ckw (if tS t i = 1 then kwI (tW t i) else 24) ∧ (tS t i = 1 → M.2 c_tape Tape_word = lN (w5 (tW t i))) ∧ (tS t i = 2 → M.1 c_tape Tape_number = nI (tV t i))
theorem x_j52 {t : List Nat} {i : Nat} {M : Mem} {Q : Bool → Mem → Prop} (h : XTp t M) (hK : XK M) (hi : i ≤ t.length) (hn : M.1 c_tape Tape_next = nI (tP t i)) (k : ∀ M', Fr2 [c_tape] M M' → XTp t M' → TI t i M' → Q true M') : w_Tape_step_j52 M Q := by
  have hle := h.2.1
  have hp := tP_le hi
  unfold w_Tape_step_j52
  have hF0 : Fr2 [c_tape] M (sl (si (si (si M c_tape Tape_place (M.1 c_tape Tape_next)) c_tape Tape_number 0) c_tape Tape_keyword (-1)) c_tape Tape_word 0) := (((fr2_si (by decide)).trans (fr2_si (by decide))).trans (fr2_si (by decide))).trans (fr2_sl (by decide))
  have b1 : XTp t (sl (si (si (si M c_tape Tape_place (M.1 c_tape Tape_next)) c_tape Tape_number 0) c_tape Tape_keyword (-1)) c_tape Tape_word 0) := (((h.si (by decide)).si (by decide)).si (by decide)).sw
  have b2 : (sl (si (si (si M c_tape Tape_place (M.1 c_tape Tape_next)) c_tape Tape_number 0) c_tape Tape_keyword (-1)) c_tape Tape_word 0).1 c_tape Tape_next = nI (tP t i) := by
    rw [sl_1, si_of (by decide), si_of (by decide), si_of (by decide)]; exact hn
  have b3 : (sl (si (si (si M c_tape Tape_place (M.1 c_tape Tape_next)) c_tape Tape_number 0) c_tape Tape_keyword (-1)) c_tape Tape_word 0).1 c_tape Tape_place = nI (tP t i) := by
    rw [sl_1, si_of (by decide), si_of (by decide), si_at]; exact hn
  have b4 : (sl (si (si (si M c_tape Tape_place (M.1 c_tape Tape_next)) c_tape Tape_number 0) c_tape Tape_keyword (-1)) c_tape Tape_word 0).1 c_tape Tape_number = 0 := by
    rw [sl_1, si_of (by decide), si_at]
  have b5 : (sl (si (si (si M c_tape Tape_place (M.1 c_tape Tape_next)) c_tape Tape_number 0) c_tape Tape_keyword (-1)) c_tape Tape_word 0).1 c_tape Tape_keyword = -1 := by
    rw [sl_1, si_at]
  have b6 : (sl (si (si (si M c_tape Tape_place (M.1 c_tape Tape_next)) c_tape Tape_number 0) c_tape Tape_keyword (-1)) c_tape Tape_word 0).2 c_tape Tape_word = 0 := sl_at
  generalize sl (si (si (si M c_tape Tape_place (M.1 c_tape Tape_next)) c_tape Tape_number 0) c_tape Tape_keyword (-1)) c_tape Tape_word 0 = M1 at hF0 b1 b2 b3 b4 b5 b6
  rw [h.1, hn]
  refine br_le (by omega) (by omega) (fun q => ?_) (fun q => ?_)
  · have s0 : tS t i = 0 := tS_0.mpr (by omega)
    have e0 : tE t i = tP t i := by unfold tE; rw [if_neg (by omega)]
    unfold w_Tape_step_j99
    rw [b1.1, b2]
    refine br_lt (by omega) (by omega) (fun z => absurd z (by omega)) (fun _ => k _ (hF0.trans (fr2_si (by decide))) (b1.si (by decide)) ⟨?_, ?_, ?_, ?_, ?_, ?_⟩)
    · rw [si_of (by decide), e0]; exact b2
    · rw [si_of (by decide)]; exact b3
    · rw [si_at, s0]; rfl
    · rw [si_of (by decide), s0]; exact b5
    · intro z; rw [s0] at z; exact absurd z (by decide)
    · intro z; rw [s0] at z; exact absurd z (by decide)
  · have h7 := h.lt127 q
    rw [nI_clamp (by omega), (h.2.2 _ q).1]
    refine ⟨vp_in_nI (by omega) (by decide), ?_⟩
    unfold w_Tape_step_j99
    rw [b1.1, b2]
    refine br_lt (by omega) (by omega) (fun _ => ?_) (fun z => absurd q (by omega))
    have ec : tC t i = t.getD (tP t i) 0 := rfl
    have kd : isL (tC t i) = false → w_Tape_step_j138 (nI (t.getD (tP t i) 0)) M1 Q := by
      intro cL
      have ks : isG (tC t i) = false → w_Tape_step_j157 (nI (t.getD (tP t i) 0)) M1 Q := by
        intro cG
        refine x_isSign h7 ?_
        rw [b2, nI_1]
        have eE : tE t i = tP t i + 1 := by unfold tE; rw [if_pos q, cL, cG]; rfl
        have eS : tS t i = if isS (tC t i) then 3 else 4 := by unfold tS; rw [if_pos q, cL, cG]; rfl
        have n1 : tS t i ≠ 1 := by rw [eS]; split <;> decide
        have n2 : tS t i ≠ 2 := by rw [eS]; split <;> decide
        refine k _ (hF0.trans ((fr2_si (by decide)).trans (fr2_si (by decide)))) ((b1.si (by decide)).si (by decide)) ⟨?_, ?_, ?_, ?_, fun z => absurd z n1, fun z => absurd z n2⟩
        · rw [si_at, eE]
        · rw [si_of (by decide), si_of (by decide)]; exact b3
        · rw [si_of (by decide), si_at, eS, ec]
          cases isS (t.getD (tP t i) 0) <;> rfl
        · rw [si_of (by decide), si_of (by decide), if_neg n1]; exact b5
      refine br_lt (b := 48) (by omega) (by decide) (fun z => ks ?_) (fun z => br_lt (a := 57) (by decide) (by omega) (fun z2 => ks ?_) (fun z2 => ?_))
      · apply bf_n; intro y; have := isG_t.mp y; rw [ec] at this; omega
      · apply bf_n; intro y; have := isG_t.mp y; rw [ec] at this; omega
      · have cG : isG (tC t i) = true := isG_t.mpr ⟨z, z2⟩
        have eE : tE t i = rn isG t (tP t i) := by unfold tE; rw [if_pos q, cL, cG]; rfl
        have eS : tS t i = if tE t i - tP t i ≤ 4 then 2 else 4 := by unfold tS; rw [if_pos q, cL, cG]; rfl
        have n1 : tS t i ≠ 1 := by rw [eS]; split <;> decide
        refine x_readNumber b1 q b2 b3 b5 b4 (fun M' a1 a2 a3 a4 a5 a6 a7 => k M' (hF0.trans a1) a2 ⟨?_, a4, ?_, ?_, fun z => absurd z n1, fun z => ?_⟩)
        · rw [a3, eE]
        · rw [a5, eS, ← eE]
          split <;> rfl
        · rw [if_neg n1]; exact a6
        · unfold tV; rw [a7, eE]
    refine br_lt (b := 97) (by omega) (by decide) (fun z => kd ?_) (fun z => br_lt (a := 122) (by decide) (by omega) (fun z2 => kd ?_) (fun z2 => ?_))
    · apply bf_n; intro y; have := isL_t.mp y; rw [ec] at this; omega
    · apply bf_n; intro y; have := isL_t.mp y; rw [ec] at this; omega
    · have cL : isL (tC t i) = true := isL_t.mpr ⟨z, z2⟩
      have eE : tE t i = rn isL t (tP t i) := by unfold tE; rw [if_pos q, cL]; rfl
      have eS : tS t i = if tE t i - tP t i ≤ 8 then 1 else 4 := by unfold tS; rw [if_pos q, cL]; rfl
      have n2 : tS t i ≠ 2 := by rw [eS]; split <;> decide
      have hK1 := hK.two hF0
      refine x_readWord b1 hK1 q b2 b3 b5 b6 (fun M' a1 a2 a3 a4 a5 a6 a7 => k M' (hF0.trans a1) a2 ⟨?_, a4, ?_, ?_, fun z => ?_, fun z => absurd z n2⟩)
      · rw [a3, eE]
      · rw [a5, eS, ← eE]
        split <;> rfl
      · rw [a6, eS, ← eE]
        by_cases c8 : tE t i - tP t i ≤ 8
        · rw [if_pos c8, if_pos c8, if_pos rfl]; rfl
        · rw [if_neg c8, if_neg c8, if_neg (by decide)]; rfl
      · unfold tW; rw [a7, eE]
theorem x_stepI {t : List Nat} {i : Nat} {M : Mem} {Q : Bool → Mem → Prop} (h : XTp t M) (hK : XK M) (hi : i ≤ t.length) (hn : M.1 c_tape Tape_next = nI i) (k : ∀ M', Fr2 [c_tape] M M' → XTp t M' → TI t i M' → Q true M') : w_Tape_step M Q := by
  have hle := h.2.1
  have hp := tP_le hi
  refine x_st_of (for_loop (fun n j (M1 : Mem) => w_Tape_step_L0 (fun M25 => w_Tape_step_j52 M25 Q) Q n M1) (fun j M1 => Fr2 [c_tape] M M1 ∧ XTp t M1 ∧ M1.1 c_tape Tape_next = nI j) (tP t i) i M rn_ge ⟨Fr2.rfl, h, hn⟩ ?_ ?_)
  · intro n M1 ⟨a1, a2, a3⟩
    have kx : w_Tape_step_j52 M1 Q := x_j52 a2 (hK.two a1) hi a3 (fun M' b1 b2 b3 => k M' (a1.trans b1) b2 b3)
    unfold w_Tape_step_L0
    rw [a2.1, a3]
    refine br_le (by omega) (by omega) (fun _ => kx) (fun q => ?_)
    have hc := rn_stop (P := isB) (Nat.le_refl (t.length - i)) q
    have hc : ¬ (t.getD (tP t i) 0 = 32 ∨ t.getD (tP t i) 0 = 10) := fun z => by
      have := isB_t.mpr z
      unfold tP at this
      rw [hc] at this; exact absurd this (by decide)
    have h7 := a2.lt127 q
    rw [nI_clamp (by omega), (a2.2.2 _ q).1]
    exact ⟨vp_in_nI (by omega) (by decide), br_eq (b := 32) (by omega) (by decide) (fun z => absurd (Or.inl z) hc) (fun _ => ⟨vp_in_nI (by omega) (by decide), br_ne (b := 10) (by omega) (by decide) (fun _ => kx) (fun z => absurd (Or.inr z) hc)⟩)⟩
  · intro n j M1 hj1 hj ⟨a1, a2, a3⟩ kk
    obtain ⟨hjl, hc⟩ := rn_in (Nat.le_refl _) hj1 hj
    have hc := isB_t.mp hc
    have h7 := a2.lt127 hjl
    unfold w_Tape_step_L0
    rw [a2.1, a3, nI_clamp (by omega), (a2.2.2 _ hjl).1, nI_1]
    have k2 := kk (si M1 c_tape Tape_next (nI (j + 1))) ⟨a1.trans (fr2_si (by decide)), a2.si (by decide), si_at⟩
    exact br_le (by omega) (by omega) (fun q => absurd q (by omega)) (fun _ => ⟨vp_in_nI (by omega) (by decide), br_eq (b := 32) (by omega) (by decide) (fun _ => k2) (fun z => ⟨vp_in_nI (by omega) (by decide), br_ne (b := 10) (by omega) (by decide) (fun z2 => absurd hc (by omega)) (fun _ => k2)⟩)⟩)
