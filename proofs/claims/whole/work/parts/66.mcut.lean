/-! the reference cuts the tape -/
def MTa (t : List Nat) (n : Nat) (M : Mem) : Prop := M.1 c_mo_sort n = nI (kS t n) ∧ M.1 c_mo_place n = nI (kP t n) ∧ (kS t n = 1 → M.2 c_mo_value n = lN (w37 (kW t n))) ∧ (kS t n = 2 → M.2 c_mo_value n = lN (kV t n)) ∧ (kS t n = 3 → M.2 c_mo_value n = lN (kC t n))
def MTo (t : List Nat) (n : Nat) (M : Mem) : Prop := ∀ m, m < n → MTa t m M
abbrev CUT : List Nat := [c_mo_sort, c_mo_place, c_mo_value]
theorem m_isLetter {c : Nat} {M : Mem} {Q : Bool → Mem → Prop} (hc : c < 127) (k : Q (isL c) M) : w_Mo_isLetter (nI c) M Q := by
  unfold w_Mo_isLetter
  refine br_lt (b := 97) (by omega) (by decide) (fun z => ?_) (fun z => ⟨isL c, ?_, k⟩)
  · have : isL c = false := bf_n (fun y => by have := isL_t.mp y; omega)
    rw [this] at k; exact k
  · by_cases y : c ≤ 122
    · rw [isL_t.mpr ⟨z, y⟩, if_neg (by rw [show (122 : Int32) = nI 122 from rfl, nI_ltI (by decide) (by omega)]; omega)]; rfl
    · have : isL c = false := bf_n (fun x => by have := isL_t.mp x; omega)
      rw [this, if_pos (by rw [show (122 : Int32) = nI 122 from rfl, nI_ltI (by decide) (by omega)]; omega)]; rfl
theorem m_isDigit {c : Nat} {M : Mem} {Q : Bool → Mem → Prop} (hc : c < 127) (k : Q (isG c) M) : w_Mo_isDigit (nI c) M Q := by
  unfold w_Mo_isDigit
  refine br_lt (b := 48) (by omega) (by decide) (fun z => ?_) (fun z => ⟨isG c, ?_, k⟩)
  · have : isG c = false := bf_n (fun y => by have := isG_t.mp y; omega)
    rw [this] at k; exact k
  · by_cases y : c ≤ 57
    · rw [isG_t.mpr ⟨z, y⟩, if_neg (by rw [show (57 : Int32) = nI 57 from rfl, nI_ltI (by decide) (by omega)]; omega)]; rfl
    · have : isG c = false := bf_n (fun x => by have := isG_t.mp x; omega)
      rw [this, if_pos (by rw [show (57 : Int32) = nI 57 from rfl, nI_ltI (by decide) (by omega)]; omega)]; rfl
theorem m_isSignOf {c : Nat} {M : Mem} {Q : Bool → Mem → Prop} (hc : c < 127) (k : Q (isS c) M) : w_Mo_isSignOf (nI c) M Q := by
  have go : ∀ d : Nat, d < 127 → isS d = true → nI c = nI d → Q true M := fun d hd hb e => by
    have := ni_inj (by omega) (by omega) e
    subst this; rw [← hb]; exact k
  unfold w_Mo_isSignOf
  refine ⟨go 40 (by decide) (by decide), fun n40 => ⟨go 41 (by decide) (by decide), fun n41 => ⟨go 59 (by decide) (by decide), fun n59 => ⟨go 61 (by decide) (by decide), fun n61 => ⟨go 60 (by decide) (by decide), fun n60 => ⟨go 43 (by decide) (by decide), fun n43 => ⟨go 45 (by decide) (by decide), fun n45 => ⟨isS c, ?_, k⟩⟩⟩⟩⟩⟩⟩⟩
  by_cases y : c = 42
  · subst y; decide
  · have n42 : ¬ nI c = 42 := fun z => y (ni_inj (b := 42) (by omega) (by decide) z)
    have : isS c = false := by
      apply bf_n
      intro z
      unfold isS at z
      have z := List.contains_iff_mem.mp z
      simp only [List.mem_cons, List.not_mem_nil, or_false] at z
      rcases z with z | z | z | z | z | z | z | z <;> subst z <;> first | exact n40 rfl | exact n41 rfl | exact n42 rfl | exact n43 rfl | exact n45 rfl | exact n59 rfl | exact n60 rfl | exact n61 rfl
    rw [if_neg n42, this]; rfl
theorem m_L70 {t : List Nat} {i : Nat} {l1 : Int32} {K : Int32 → Int64 → Mem → Prop} {Q : Mem → Prop} {M : Mem} (hs : M.1 c_mo Mo_size = nI t.length) (hl : t.length ≤ 1000) (ht : ∀ i, i < t.length → M.1 c_mo_tape i = nI (t.getD i 0)) (hok : ∀ i, i < t.length → t.getD i 0 < 127) (hi : i < t.length) (k : ∀ v, (rn isL t i - i ≤ 8 → v = lN (w37 (lts (sub t i (rn isL t i))))) → K (nI (rn isL t i)) v M) : ∃ n, w_Mo_cutAll_L70 l1 (nI i) K Q n (nI i) 0 M := by
  have he := rn_le (P := isL) (Nat.le_refl (t.length - i)) (Nat.le_of_lt hi)
  refine for_loop (fun n j (v : Int64) => w_Mo_cutAll_L70 l1 (nI i) K Q n (nI j) v M) (fun j v => j - i ≤ 8 → v = lN (w37 (lts (sub t i j)))) (rn isL t i) i 0 rn_ge (fun _ => by rw [sub_0]; rfl) ?_ ?_
  · intro n v hv
    unfold w_Mo_cutAll_L70
    rw [hs]
    refine br_le (by omega) (by omega) (fun _ => k v hv) (fun q => ?_)
    have hc := rn_stop (P := isL) (Nat.le_refl (t.length - i)) q
    rw [nI_clamp (by omega), ht _ q]
    exact ⟨vp_in_nI (by omega) (by decide), m_isLetter (hok _ q) (by rw [hc]; exact fF (k v hv))⟩
  · intro n j v hj1 hj hv kk
    obtain ⟨hjl, hc⟩ := rn_in (Nat.le_refl _) hj1 hj
    have h7 := hok _ hjl
    unfold w_Mo_cutAll_L70
    rw [hs, nI_clamp (by omega), ht _ hjl, pk_sub hj1, nI_1]
    refine br_le (by omega) (by omega) (fun q => absurd q (by omega)) (fun _ => ⟨vp_in_nI (by omega) (by decide), m_isLetter h7 ?_⟩)
    rw [hc]
    have hc := isL_t.mp hc
    refine fT (br_le (a := 8) (by decide) (by omega) (fun q => kk v (fun y => by omega)) (fun q => ⟨vp_in_nI (by omega) (by decide), ?_⟩))
    unfold w_Mo_rank
    rw [ht _ hjl]
    refine m_isLetter h7 ?_
    rw [isL_t.mpr hc, if_pos rfl]
    intro x ex
    refine kk x (fun _ => ?_)
    rw [ex, hv (by omega), sub_s hj1 hjl, lts_s, w37_s, show (96 : Int32) = nI 96 from rfl, pk_sub (by omega), nI_l (by omega), show (37 : Int64) = lN 37 from rfl, lN_mul, lN_add]
theorem m_L159 {t : List Nat} {i : Nat} {l1 : Int32} {K : Int32 → Int64 → Mem → Prop} {Q : Mem → Prop} {M : Mem} (hs : M.1 c_mo Mo_size = nI t.length) (hl : t.length ≤ 1000) (ht : ∀ i, i < t.length → M.1 c_mo_tape i = nI (t.getD i 0)) (hok : ∀ i, i < t.length → t.getD i 0 < 127) (hi : i < t.length) (k : ∀ v, (rn isG t i - i ≤ 4 → v = lN (dgs (sub t i (rn isG t i)))) → K (nI (rn isG t i)) v M) : ∃ n, w_Mo_cutAll_L159 l1 (nI i) K Q n (nI i) 0 M := by
  have he := rn_le (P := isG) (Nat.le_refl (t.length - i)) (Nat.le_of_lt hi)
  refine for_loop (fun n j (v : Int64) => w_Mo_cutAll_L159 l1 (nI i) K Q n (nI j) v M) (fun j v => j - i ≤ 4 → v = lN (dgs (sub t i j))) (rn isG t i) i 0 rn_ge (fun _ => by rw [sub_0]; rfl) ?_ ?_
  · intro n v hv
    unfold w_Mo_cutAll_L159
    rw [hs]
    refine br_le (by omega) (by omega) (fun _ => k v hv) (fun q => ?_)
    have hc := rn_stop (P := isG) (Nat.le_refl (t.length - i)) q
    rw [nI_clamp (by omega), ht _ q]
    exact ⟨vp_in_nI (by omega) (by decide), m_isDigit (hok _ q) (by rw [hc]; exact fF (k v hv))⟩
  · intro n j v hj1 hj hv kk
    obtain ⟨hjl, hc⟩ := rn_in (Nat.le_refl _) hj1 hj
    have h7 := hok _ hjl
    unfold w_Mo_cutAll_L159
    rw [hs, nI_clamp (by omega), ht _ hjl, pk_sub hj1, nI_1]
    refine br_le (by omega) (by omega) (fun q => absurd q (by omega)) (fun _ => ⟨vp_in_nI (by omega) (by decide), m_isDigit h7 ?_⟩)
    rw [hc]
    have hc := isG_t.mp hc
    refine fT (br_le (a := 4) (by decide) (by omega) (fun q => kk v (fun y => by omega)) (fun q => ⟨vp_in_nI (by omega) (by decide), ?_⟩))
    intro x ex
    refine kk x (fun _ => ?_)
    rw [ex, hv (by omega), ht _ hjl, sub_s hj1 hjl, dgs_s, nI_l (by omega), show (10 : Int64) = lN 10 from rfl, lN_mul, lN_add, show (48 : Int64) = lN 48 from rfl, lN_sub (by omega)]
    congr 1
    omega
theorem MTo.add {t : List Nat} {n : Nat} {M M' : Mem} (h : MTo t n M) (e1 : ∀ m, m < n → M'.1 c_mo_sort m = M.1 c_mo_sort m ∧ M'.1 c_mo_place m = M.1 c_mo_place m ∧ M'.2 c_mo_value m = M.2 c_mo_value m) (hn : MTa t n M') : MTo t (n + 1) M' := by
  intro m hm
  by_cases e : m = n
  · subst e; exact hn
  · obtain ⟨a, b, c⟩ := e1 m (by omega)
    unfold MTa; rw [a, b, c]; exact h m (by omega)
theorem m_L17 {t : List Nat} {K : Int32 → Mem → Prop} {Q : Mem → Prop} {M0 : Mem} (hs : M0.1 c_mo Mo_size = nI t.length) (hl : t.length ≤ 1000) (ht : ∀ i, i < t.length → M0.1 c_mo_tape i = nI (t.getD i 0)) (hok : ∀ i, i < t.length → t.getD i 0 < 127) (k : ∀ N M', Fr2 CUT M0 M' → kS t N = 0 → Rch t N → MTo t N M' → K (nI N) M') : ∀ (f i n : Nat) (M : Mem), t.length - i < f → i ≤ t.length → tP t (pos t n) = tP t i → Rch t n → Fr2 CUT M0 M → MTo t n M → w_Mo_cutAll_L17 K Q f (nI n) (nI i) M
  | 0, i, n, M, hf, _, _, _, _, _ => absurd hf (Nat.not_lt_zero _)
  | f + 1, i, n, M, hf, hil, hp, hR, hF, hM => by
    have hsM : M.1 c_mo Mo_size = nI t.length := by rw [(hF c_mo (by decide)).1]; exact hs
    have htM : ∀ i, i < t.length → M.1 c_mo_tape i = nI (t.getD i 0) := by rw [(hF c_mo_tape (by decide)).1]; exact ht
    have hn := hR.len
    unfold w_Mo_cutAll_L17
    rw [hsM]
    refine br_le (by omega) (by omega) (fun q => ?_) (fun q => ⟨vp_in_nI (by omega) (by decide), fun x ex => ?_⟩)
    · refine k n M hF ?_ hR hM
      refine tS_0.mpr (fun z => ?_)
      rw [hp] at z
      have := rn_ge (P := isB) (t := t) (i := i)
      have : i ≤ tP t i := this
      omega
    have h7 := hok i q
    have ex : x = nI (t.getD i 0) := by rw [ex, nI_clamp (by omega)]; exact htM i q
    subst ex
    rw [nI_1]
    have blank : isB (t.getD i 0) = true → w_Mo_cutAll_L17 K Q f (nI n) (nI (i + 1)) M := fun hb => m_L17 hs hl ht hok k f (i + 1) n M (by omega) (by omega) (by rw [hp]; exact rn_go q hb) hR hF hM
    refine br_eq (b := 10) (by omega) (by decide) (fun z => blank (isB_t.mpr (Or.inr z))) (fun z10 => br_ne (b := 32) (by omega) (by decide) (fun z32 => ⟨vp_in_nI (by omega) (by decide), ?_⟩) (fun z => blank (isB_t.mpr (Or.inl z))))
    have nb : isB (t.getD i 0) = false := bf_n (fun y => by have := isB_t.mp y; omega)
    have hpi : tP t (pos t n) = i := by rw [hp]; exact rn_no q nb
    have hk0 : kS t n ≠ 0 := fun y => tS_0.mp y (by rw [hpi]; exact q)
    have hkP : kP t n = i := hpi
    have hkC : kC t n = t.getD i 0 := by show t.getD (tP t (pos t n)) 0 = _; rw [hpi]
    have hR' := hR.s hk0
    have hpE : pos t (n + 1) = tE t (pos t n) := rfl
    -- the token is laid, and the loop goes on behind it
    have lay : ∀ (s : Nat) (v : Int64), kS t n = s → (kS t n = 1 → v = lN (w37 (kW t n))) → (kS t n = 2 → v = lN (kV t n)) → (kS t n = 3 → v = lN (kC t n)) → w_Mo_cutAll_L17 K Q f (nI (n + 1)) (nI (pos t (n + 1))) (sl (si (si M c_mo_place n (nI i)) c_mo_sort n (nI s)) c_mo_value n v) := by
      intro s v h1 h2 h3 h4
      have hps := kS_pos hk0
      refine m_L17 hs hl ht hok k f (pos t (n + 1)) (n + 1) _ (by rw [hkP] at hps; omega) (pos_le _) rfl hR' (hF.trans (((fr2_si (by decide)).trans (fr2_si (by decide))).trans (fr2_sl (by decide)))) (hM.add (fun m hm => ⟨?_, ?_, ?_⟩) ⟨?_, ?_, fun y => ?_, fun y => ?_, fun y => ?_⟩)
      · rw [sl_1, si_of (by omega), si_ne _ _ _ (by decide)]
      · rw [sl_1, si_ne _ _ _ (by decide), si_of (by omega)]
      · rw [sl_of (by omega)]; rfl
      · rw [sl_1, si_at, h1]
      · rw [sl_1, si_ne _ _ _ (by decide), si_at, hkP]
      · rw [sl_at]; exact h2 y
      · rw [sl_at]; exact h3 y
      · rw [sl_at]; exact h4 y
    rw [nI_clamp (by omega)]
    have hF1 : Fr2 CUT M0 (si M c_mo_place n (nI i)) := hF.trans (fr2_si (by decide))
    have hs1 : (si M c_mo_place n (nI i)).1 c_mo Mo_size = nI t.length := hsM
    have ht1 : ∀ i', i' < t.length → (si M c_mo_place n (nI i)).1 c_mo_tape i' = nI (t.getD i' 0) := htM
    have vn := vp_in_nI (n := n) (N := 1002) (by omega) (by decide)
    refine m_isLetter h7 ?_
    cases hL : isL (t.getD i 0) with
    | true =>
      refine fT (m_L70 hs1 hl ht1 hok q (fun v hv => ?_))
      have eE : tE t (pos t n) = rn isL t i := by
        unfold tE; rw [hpi, if_pos q]
        have : isL (tC t (pos t n)) = true := by show isL (kC t n) = true; rw [hkC]; exact hL
        rw [if_pos this]
      have hge := rn_ge (P := isL) (t := t) (i := i)
      have hle := rn_le (P := isL) (Nat.le_refl (t.length - i)) (Nat.le_of_lt q)
      have eS : kS t n = if rn isL t i - i ≤ 8 then 1 else 4 := by
        show tS t (pos t n) = _
        unfold tS
        have : isL (tC t (pos t n)) = true := by show isL (kC t n) = true; rw [hkC]; exact hL
        rw [hpi, if_pos q, if_pos this, eE]
      unfold w_Mo_cutAll_j129
      rw [pk_sub hge, nI_clamp (by omega), nI_1]
      refine ⟨vn, vn, ?_⟩
      have l := lay (kS t n) v rfl (fun y => ?_) (fun y => ?_) (fun y => ?_)
      · rw [hpE, eE] at l
        have e : (if nI (rn isL t i - i) ≤ 8 then (1 : Int32) else 4) = nI (kS t n) := by
          rw [eS, show (8 : Int32) = nI 8 from rfl]
          by_cases c : rn isL t i - i ≤ 8
          · rw [if_pos c, if_pos ((nI_leI (b := 8) (by omega) (by decide)).mpr c)]; rfl
          · rw [if_neg c, if_neg (fun y => c ((nI_leI (b := 8) (by omega) (by decide)).mp y))]; rfl
        rw [e]; exact l
      · have c : rn isL t i - i ≤ 8 := Decidable.byContradiction (fun z => by rw [eS, if_neg z] at y; exact absurd y (by decide))
        rw [hv c]; show _ = lN (w37 (lts (sub t (tP t (pos t n)) (tE t (pos t n))))); rw [hpi, eE]
      · rw [eS] at y; split at y <;> omega
      · rw [eS] at y; split at y <;> omega
    | false =>
      refine fF (m_isDigit h7 ?_)
      have cL : isL (tC t (pos t n)) = false := by show isL (kC t n) = false; rw [hkC]; exact hL
      cases hG : isG (t.getD i 0) with
      | true =>
        refine fT (m_L159 hs1 hl ht1 hok q (fun v hv => ?_))
        have cG : isG (tC t (pos t n)) = true := by show isG (kC t n) = true; rw [hkC]; exact hG
        have eE : tE t (pos t n) = rn isG t i := by
          unfold tE; rw [cL, cG, hpi, if_pos q]; rfl
        have hge := rn_ge (P := isG) (t := t) (i := i)
        have hle := rn_le (P := isG) (Nat.le_refl (t.length - i)) (Nat.le_of_lt q)
        have eS : kS t n = if rn isG t i - i ≤ 4 then 2 else 4 := by
          show tS t (pos t n) = _
          unfold tS
          rw [cL, cG, hpi, if_pos q, eE]; rfl
        unfold w_Mo_cutAll_j218
        rw [pk_sub hge, nI_clamp (by omega), nI_1]
        refine ⟨vn, vn, ?_⟩
        have l := lay (kS t n) v rfl (fun y => ?_) (fun y => ?_) (fun y => ?_)
        · rw [hpE, eE] at l
          have e : (if nI (rn isG t i - i) ≤ 4 then (2 : Int32) else 4) = nI (kS t n) := by
            rw [eS, show (if nI (rn isG t i - i) ≤ (4 : Int32) then (2 : Int32) else 4) = if nI (rn isG t i - i) ≤ nI 4 then (2 : Int32) else 4 from rfl]
            by_cases c : rn isG t i - i ≤ 4
            · rw [if_pos c, if_pos ((nI_leI (b := 4) (by omega) (by decide)).mpr c)]; rfl
            · rw [if_neg c, if_neg (fun y => c ((nI_leI (b := 4) (by omega) (by decide)).mp y))]; rfl
          rw [e]; exact l
        · rw [eS] at y; split at y <;> omega
        · have c : rn isG t i - i ≤ 4 := Decidable.byContradiction (fun z => by rw [eS, if_neg z] at y; exact absurd y (by decide))
          rw [hv c]; show _ = lN (dgs (sub t (tP t (pos t n)) (tE t (pos t n)))); rw [hpi, eE]
        · rw [eS] at y; split at y <;> omega
      | false =>
        refine fF (m_isSignOf h7 ⟨vn, vn, ?_⟩)
        have cG : isG (tC t (pos t n)) = false := by show isG (kC t n) = false; rw [hkC]; exact hG
        have eE : tE t (pos t n) = i + 1 := by
          unfold tE; rw [cL, cG, hpi, if_pos q]; rfl
        have eS : kS t n = if isS (t.getD i 0) then 3 else 4 := by
          show tS t (pos t n) = _
          unfold tS
          have : tC t (pos t n) = t.getD i 0 := hkC
          rw [cL, cG, hpi, if_pos q, this]; rfl
        rw [nI_1]
        have l := lay (kS t n) (Int32.toInt64 (nI (t.getD i 0))) rfl (fun y => ?_) (fun y => ?_) (fun y => ?_)
        · rw [hpE, eE] at l
          have e : (if isS (t.getD i 0) = true then (3 : Int32) else 4) = nI (kS t n) := by
            rw [eS]; cases isS (t.getD i 0) <;> rfl
          rw [e]; exact l
        · rw [eS] at y; split at y <;> omega
        · rw [eS] at y; split at y <;> omega
        · rw [nI_l (by omega), hkC]
def MTk (t : List Nat) (N : Nat) (M : Mem) : Prop := kS t N = 0 ∧ Rch t N ∧ ∀ n, n ≤ N → MTa t n M
theorem m_cutAll {t : List Nat} {M : Mem} {Q : Mem → Prop} (hT : MTp t M) (hok : ∀ i, i < t.length → t.getD i 0 < 127) (k : ∀ N M', Fr2 (c_mo :: CUT) M M' → (∀ j, j ≠ Mo_size → j ≠ Mo_taped → j ≠ Mo_at → j ≠ Mo_fault → M'.1 c_mo j = M.1 c_mo j) → M'.1 c_mo Mo_taped = 0 → M'.1 c_mo Mo_at = 0 → M'.1 c_mo Mo_fault = 0 → MTk t N M' → Q M') : w_Mo_cutAll M Q := by
  have hl := hT.2.1
  unfold w_Mo_cutAll
  have hs : (si (si M c_mo Mo_size (M.1 c_mo Mo_taped)) c_mo Mo_taped 0).1 c_mo Mo_size = nI t.length := by
    rw [si_of (by decide), si_at]; exact hT.1
  have ht0 : (si (si M c_mo Mo_size (M.1 c_mo Mo_taped)) c_mo Mo_taped 0).1 c_mo Mo_taped = 0 := si_at
  have hj0 : ∀ j, j ≠ Mo_size → j ≠ Mo_taped → (si (si M c_mo Mo_size (M.1 c_mo Mo_taped)) c_mo Mo_taped 0).1 c_mo j = M.1 c_mo j := fun j h1 h2 => by rw [si_of h2, si_of h1]
  have hF0 : Fr2 (c_mo :: CUT) M (si (si M c_mo Mo_size (M.1 c_mo Mo_taped)) c_mo Mo_taped 0) := (fr2_si (by decide)).trans (fr2_si (by decide))
  have htp : ∀ i, i < t.length → (si (si M c_mo Mo_size (M.1 c_mo Mo_taped)) c_mo Mo_taped 0).1 c_mo_tape i = nI (t.getD i 0) := hT.2.2
  generalize si (si M c_mo Mo_size (M.1 c_mo Mo_taped)) c_mo Mo_taped 0 = M0 at hs ht0 hj0 hF0 htp
  refine ⟨t.length + 1, m_L17 hs hl htp hok (fun N M' hF h0 hR hM => ?_) (t.length + 1) 0 0 M0 (by omega) (Nat.zero_le _) rfl Rch.z Fr2.rfl (fun m hm => absurd hm (Nat.not_lt_zero m))⟩
  have hN := hR.len
  have vn := vp_in_nI (n := N) (N := 1002) (by omega) (by decide)
  have hc : M'.1 c_mo = M0.1 c_mo := (hF c_mo (by decide)).1
  refine ⟨vn, vn, ?_⟩
  rw [nI_clamp (by omega), hc, hs]
  refine k N _ (hF0.trans ((hF.mono (by decide)).trans (((((fr2_si (by decide)).trans (fr2_si (by decide))).trans (fr2_si (by decide))).trans (fr2_si (by decide)))))) (fun j h1 h2 h3 h4 => ?_) ?_ ?_ si_at ⟨h0, hR, fun n hn => ?_⟩
  · rw [si_of h4, si_of h3, si_ne _ _ _ (by decide), si_ne _ _ _ (by decide), hc]; exact hj0 j h1 h2
  · rw [si_of (by decide), si_of (by decide), si_ne _ _ _ (by decide), si_ne _ _ _ (by decide), hc]; exact ht0
  · rw [si_of (by decide), si_at]
  · unfold MTa
    show (si M' c_mo_sort N 0).1 c_mo_sort n = nI (kS t n) ∧ (si M' c_mo_place N (nI t.length)).1 c_mo_place n = nI (kP t n) ∧ (kS t n = 1 → M'.2 c_mo_value n = lN (w37 (kW t n))) ∧ (kS t n = 2 → M'.2 c_mo_value n = lN (kV t n)) ∧ (kS t n = 3 → M'.2 c_mo_value n = lN (kC t n))
    by_cases e : n = N
    · subst e
      have hp : kP t n = t.length := by
        have h1 := tS_0.mp h0
        have h2 := tP_le (pos_le (t := t) n)
        show tP t (pos t n) = _
        omega
      refine ⟨by rw [si_at, h0]; rfl, by rw [si_at, hp], fun y => ?_, fun y => ?_, fun y => ?_⟩
      · rw [h0] at y; exact absurd y (by decide)
      · rw [h0] at y; exact absurd y (by decide)
      · rw [h0] at y; exact absurd y (by decide)
    · rw [si_of e, si_of e]
      exact hM n (by omega)
