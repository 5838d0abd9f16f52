/-! the whole state, and how it lies in the class's cells -/
abbrev Snap : Type := (Nat → Nat) × Nat
abbrev St : Type := List Nat × Land × Deeds × (Nat → Option Deeds) × List Snap
def sT (σ : St) : List Nat := σ.1
def sL (σ : St) : Land := σ.2.1
def sD (σ : St) : Deeds := σ.2.2.1
def sM (σ : St) : Nat → Option Deeds := σ.2.2.2.1
def sH (σ : St) : List Snap := σ.2.2.2.2
def snp (d : Deeds) : Snap := (dtimes d, dshot d)
def nzT (t : Nat → Nat) : Prop := fb_ct (fun i => decide (t i ≠ 0)) 120 ≤ 30
def sgood (s : Snap) : Prop := (∀ i, i < 120 → s.1 i ≤ 9) ∧ s.2 < 32 ∧ nzT s.1
def dgood (l : Land) (d : Deeds) : Prop := sgood (snp d) ∧ (∀ p, p < 6 → ddebt d p = -1 ∨ ∃ n, n ≤ 9999 ∧ ddebt d p = nI n) ∧ ∀ p, lnp l ≤ p → p < 6 → ddebt d p = -1
def XD (kd kt kb : Nat) (d : Deeds) (M : Mem) : Prop := (∀ i, i < 120 → M.1 kt i = nI (dtimes d i)) ∧ M.1 kd Deeds_shot = nI (dshot d) ∧ ∀ p, p < 6 → M.1 kb p = ddebt d p
theorem XD.fr {kd kt kb : Nat} {d : Deeds} {M M' : Mem} (h : XD kd kt kb d M) (h1 : M'.1 kd = M.1 kd) (h2 : M'.1 kt = M.1 kt) (h3 : M'.1 kb = M.1 kb) : XD kd kt kb d M' := by
  unfold XD; rw [h1, h2, h3]; exact h
def XMk (l : Land) (mk : Nat → Option Deeds) (M : Mem) : Prop := ∃ laid, M.1 c_xx Top_laid = nI laid ∧ laid < 16 ∧ ∀ k, k < 4 → laid.testBit k = (mk k).isSome ∧ ∀ d, mk k = some d → dgood l d ∧ XD (35 + 3 * k) (36 + 3 * k) (37 + 3 * k) d M
/-- how entry j of the history leads from one state to the one before -/
def HE (cur s : Snap) (j : Nat) (M : Mem) : Prop := ∃ b, b < 5 ∧ M.1 c_history_birds j = nI b ∧ ((M.1 c_history_hours j = -1 ∧ s.1 = cur.1 ∧ s.2 = cur.2 ^^^ 2 ^ b) ∨ ∃ h v, h < 24 ∧ M.1 c_history_hours j = nI h ∧ M.1 c_history_before j = nI v ∧ s.1 = un cur.1 (b * 24 + h) v ∧ s.2 = cur.2)
def HX : Snap → List Snap → Mem → Prop
  | _, [], _ => True
  | cur, s :: r, M => HE cur s r.length M ∧ sgood s ∧ HX s r M
theorem HE.fr {cur s : Snap} {j j' : Nat} {M M' : Mem} (h : HE cur s j M) (h1 : M'.1 c_history_birds j' = M.1 c_history_birds j) (h2 : M'.1 c_history_hours j' = M.1 c_history_hours j) (h3 : M'.1 c_history_before j' = M.1 c_history_before j) : HE cur s j' M' := by
  unfold HE; rw [h1, h2, h3]; exact h
theorem HX.fr {M M' : Mem} : ∀ {cur : Snap} {hs : List Snap}, HX cur hs M → (∀ j, j < hs.length → M'.1 c_history_birds j = M.1 c_history_birds j ∧ M'.1 c_history_hours j = M.1 c_history_hours j ∧ M'.1 c_history_before j = M.1 c_history_before j) → HX cur hs M'
  | _, [], _, _ => trivial
  | _, _ :: r, h, he => by
    obtain ⟨e1, e2, e3⟩ := he r.length (by rw [List.length_cons]; omega)
    exact ⟨h.1.fr e1 e2 e3, h.2.1, h.2.2.fr (fun j hj => he j (by rw [List.length_cons]; omega))⟩
theorem HX.drop {M M' : Mem} : ∀ {cur : Snap} {hs : List Snap}, HX cur hs M → hs.length ≤ 20 → (∀ j, j < 19 → M'.1 c_history_birds j = M.1 c_history_birds (j + 1) ∧ M'.1 c_history_hours j = M.1 c_history_hours (j + 1) ∧ M'.1 c_history_before j = M.1 c_history_before (j + 1)) → HX cur hs.dropLast M'
  | _, [], _, _, _ => trivial
  | _, [_], _, _, _ => trivial
  | _, s :: t :: r, h, hn, he => by
    rw [List.length_cons, List.length_cons] at hn
    obtain ⟨e1, e2, e3⟩ := he r.length (by omega)
    have ih := HX.drop (hs := t :: r) h.2.2 (by rw [List.length_cons]; omega) he
    refine ⟨?_, h.2.1, ih⟩
    have hlen : (t :: r).dropLast.length = r.length := by simp
    rw [hlen]
    exact h.1.fr e1 e2 e3
def XHs (d : Deeds) (hs : List Snap) (M : Mem) : Prop := M.1 c_history Hist_size = nI hs.length ∧ hs.length ≤ 20 ∧ HX (snp d) hs M
def okS (c : Nat) : Prop := c = 10 ∨ 32 ≤ c ∧ c ≤ 126
def XTp (t : List Nat) (M : Mem) : Prop := M.1 c_tape Tape_length = nI t.length ∧ t.length ≤ 1000 ∧ ∀ i, i < t.length → M.1 c_tape_signs i = nI (t.getD i 0) ∧ okS (t.getD i 0)
/-- the words that the language knows, their letters as numbers -/
def KW : List (List Nat) := [[8, 9, 12, 12, 19], [16, 5, 18, 19, 15, 14], [1, 20], [16, 21, 18, 19, 5], [7, 15], [8, 15, 21, 18], [2, 9, 18, 4], [3, 1, 12, 12], [20, 9, 13, 5, 19], [15, 23, 5], [6, 15, 7], [8, 5, 1, 18], [16, 12, 1, 9, 14], [4, 5, 1, 6], [3, 8, 9, 12, 4], [18, 9, 3, 8], [19, 8, 25], [14, 15, 20], [1, 14, 4], [15, 18], [6, 1, 18], [14, 5, 1, 18], [24], [25]]
def w5 (w : List Nat) : Nat := w.foldl (fun a c => a * 32 + c) 0
def XK (M : Mem) : Prop := ∀ i, i < 24 → M.2 c_tape_keywords i = lN (w5 (KW.getD i []))
def XRest (σ : St) (M : Mem) : Prop := XDb (sD σ) M ∧ XMk (sL σ) (sM σ) M ∧ XHs (sD σ) (sH σ) M ∧ XTp (sT σ) M ∧ XK M
def XRep (σ : St) (M : Mem) : Prop := DX (sL σ) (sD σ) M ∧ dgood (sL σ) (sD σ) ∧ XRest σ M
abbrev RCs : List Nat := [c_deeds_debt, c_xx, c_mark0, c_mark0_times, c_mark0_debt, c_mark1, c_mark1_times, c_mark1_debt, c_mark2, c_mark2_times, c_mark2_debt, c_mark3, c_mark3_times, c_mark3_debt, c_history, c_history_birds, c_history_hours, c_history_before, c_tape, c_tape_signs, c_tape_keywords]
theorem mk_in {k : Nat} (hk : k < 4) : 35 + 3 * k ∈ RCs ∧ 36 + 3 * k ∈ RCs ∧ 37 + 3 * k ∈ RCs := by
  have : ∀ j : Fin 4, 35 + 3 * j.val ∈ RCs ∧ 36 + 3 * j.val ∈ RCs ∧ 37 + 3 * j.val ∈ RCs := by decide
  exact this ⟨k, hk⟩
theorem XRest.fr {σ : St} {M M' : Mem} {L : List Nat} (h : XRest σ M) (hF : Fr2 L M M') (hd : ∀ k ∈ RCs, k ∉ L) : XRest σ M' := by
  obtain ⟨h1, ⟨laid, h2, h3, h4⟩, h5, h6, h7⟩ := h
  have e : ∀ k ∈ RCs, M'.1 k = M.1 k := fun k hk => (hF k (hd k hk)).1
  refine ⟨?_, ⟨laid, ?_, h3, fun k hk => ⟨(h4 k hk).1, fun d hd => ⟨((h4 k hk).2 d hd).1, ((h4 k hk).2 d hd).2.fr (e _ (mk_in hk).1) (e _ (mk_in hk).2.1) (e _ (mk_in hk).2.2)⟩⟩⟩, ⟨?_, h5.2.1, ?_⟩, ?_, ?_⟩
  · unfold XDb; rw [e _ (by decide)]; exact h1
  · rw [e _ (by decide)]; exact h2
  · rw [e _ (by decide)]; exact h5.1
  · exact h5.2.2.fr (fun j _ => by rw [e _ (by decide), e _ (by decide), e _ (by decide)]; exact ⟨rfl, rfl, rfl⟩)
  · unfold XTp; rw [e _ (by decide), e _ (by decide)]; exact h6
  · unfold XK; rw [(hF _ (hd _ (by decide))).2]; exact h7
abbrev SCL : List Nat := [0, 1, 2, 3, 4, 5, 6, 7, 8, 9, 10, 11, 12, 13, 14, 15, 16, 17, 18, 19, 20, 21, 22, 23, 24, 25, 26, 27, 28, 29, 30, 31, 32, 33, 34, 35, 36, 37, 38, 39, 40, 41, 42, 43, 44, 45, 46, 47, 48, 49, 50, 51, 52, 53, 54, 55, 56, 57, 58, 59, 60, 61, 62, 63, 64, 65, 66, 67, 68]
theorem XRep.go {σ : St} {M M' : Mem} {L : List Nat} (h : XRep σ M) (hF : Fr L M M') (hd : ∀ k ∈ RCs, k ∉ L) (hD : DX (sL σ) (sD σ) M') : XRep σ M' := ⟨hD, h.2.1, h.2.2.fr hF.two hd⟩
theorem XRep.go2 {σ : St} {M M' : Mem} {L : List Nat} (h : XRep σ M) (hF : Fr2 L M M') (hd : ∀ k ∈ RCs, k ∉ L) (hD : DX (sL σ) (sD σ) M') : XRep σ M' := ⟨hD, h.2.1, h.2.2.fr hF hd⟩
theorem XRep.nz {σ : St} {M : Mem} (h : XRep σ M) : NZ (sD σ) := h.2.1.1.2.2
/-! arguments -/
def inR (n : Nat) (a : Int32) : Bool := !decide (a < 0) && decide (a < nI n)
theorem inR_true {n : Nat} {a : Int32} (hn : n < 2 ^ 31) (h : inR n a = true) : ∃ p, p < n ∧ a = nI p := by
  unfold inR at h
  rw [Bool.and_eq_true, Bool.not_eq_true', decide_eq_false_iff_not, decide_eq_true_eq] at h
  obtain ⟨j, hj, rfl⟩ := nI_of h.1
  exact ⟨j, (nI_ltI hj hn).mp h.2, rfl⟩
theorem inR_nI {n p : Nat} (hn : n < 2 ^ 31) (h : p < n) : inR n (nI p) = true := by
  unfold inR
  rw [decide_eq_false (nI_pos (by omega)), decide_eq_true ((nI_ltI (by omega) hn).mpr h)]; rfl
theorem rg_body {n : Nat} {a : Int32} {M : Mem} {Q : Bool → Mem → Prop} (k : Q (inR n a) M) : (a < 0 → Q false M) ∧ (¬ a < 0 → ∃ bb : Bool, (if nI n ≤ a then (0 : Int32) else 1) = b2i bb ∧ Q bb M) := by
  unfold inR at k
  refine ⟨fun h => ?_, fun h => ⟨decide (a < nI n), ?_, ?_⟩⟩
  · rw [decide_eq_true h] at k; exact k
  · by_cases c : a < nI n
    · rw [if_neg (fa_of_lt c).2.1, decide_eq_true c]; rfl
    · rw [if_pos (fa_of_nlt c), decide_eq_false c]; rfl
  · rw [decide_eq_false h] at k; exact k
theorem x_isPerson {l : Land} {a : Int32} {M : Mem} {Q : Bool → Mem → Prop} (hL : XLand l M) (k : Q (inR (lnp l) a) M) : w_Top_isPerson a M Q := by
  unfold w_Top_isPerson
  rw [hL.2.1]
  exact rg_body k
theorem x_isBird {l : Land} {a : Int32} {M : Mem} {Q : Bool → Mem → Prop} (hL : XLand l M) (k : Q (inR (lnb l) a) M) : w_Top_isBird a M Q := by
  unfold w_Top_isBird
  rw [hL.2.2.1]
  exact rg_body k
theorem x_isHour {a : Int32} {M : Mem} {Q : Bool → Mem → Prop} (k : Q (inR 24 a) M) : w_Top_isHour a M Q := rg_body (n := 24) k
/-! the questions -/
def anI (a : Int32) : Nat := a.toNatClampNeg
def personR (l : Land) (a w : Int32) : Int32 := if inR (lnp l) a then (if w = 0 then nI (lkind l (anI a)) else if w = 1 then nI (lpurse l (anI a)) else -1) else -1
theorem x_Tperson {σ : St} {a w : Int32} {M : Mem} {Q : Int32 → Mem → Prop} (hX : XRep σ M) (k : ∀ M', Fr2 SCL M M' → XRep σ M' → Q (personR (sL σ) a w) M') : w_Top_person a w M Q := by
  have hL := hX.1.2.1
  have hnp := hX.1.1.2.2.1
  have k := k M Fr2.rfl hX
  unfold personR at k
  unfold w_Top_person
  refine x_isPerson hL ⟨fun h => ?_, fun h => ?_⟩
  · obtain ⟨p, hp, rfl⟩ := inR_true (by omega) h
    rw [h, if_pos rfl] at k
    unfold anI at k
    rw [nI_clamp (by omega)] at k ⊢
    have v : vp_in (nI p) 6 := vp_in_nI (by omega) (by decide)
    refine ⟨fun e => ⟨v, ?_⟩, fun e => ⟨v, ?_⟩, fun e1 e2 => ?_⟩
    · rw [if_pos e] at k; rw [hL.2.2.2.2.1 p hp]; exact k
    · rw [if_neg (by rw [e]; decide), if_pos e] at k; rw [hL.2.2.2.2.2.1 p hp]; exact k
    · rw [if_neg e1, if_neg e2] at k; exact k
  · rw [h] at k; exact k
def placeR (l : Land) (a h : Int32) : Int32 := if inR (lnp l) a then (if inR 24 h then nI (lplace l (anI a * 24 + anI h)) else -1) else -1
theorem x_Tplace {σ : St} {a w : Int32} {M : Mem} {Q : Int32 → Mem → Prop} (hX : XRep σ M) (k : ∀ M', Fr2 SCL M M' → XRep σ M' → Q (placeR (sL σ) a w) M') : w_Top_place a w M Q := by
  have hL := hX.1.2.1
  have hnp := hX.1.1.2.2.1
  have k := k M Fr2.rfl hX
  unfold placeR at k
  unfold w_Top_place
  refine x_isPerson hL ⟨fun h => ?_, fun h => x_isHour ⟨fun h2 => ?_, fun h2 => ?_⟩⟩
  · rw [h] at k; exact k
  · obtain ⟨p, hp, rfl⟩ := inR_true (by omega) h
    obtain ⟨q, hq, rfl⟩ := inR_true (by omega) h2
    rw [h, h2, if_pos rfl, if_pos rfl] at k
    unfold anI at k
    rw [nI_clamp (by omega), nI_clamp (by omega)] at k
    have ea : nI p * 24 + nI q = nI (p * 24 + q) := by simp only [fa_lit, pk_mul, nI_add]
    rw [ea, nI_clamp (by omega), hL.2.2.2.2.2.2.1 p q hp hq]
    exact ⟨vp_in_nI (by omega) (by decide), k⟩
  · rw [h, h2] at k; exact k
def callsR (l : Land) (d : Deeds) (a h : Int32) : Int32 := if inR (lnb l) a then (if inR 24 h then nI (dtimes d (anI a * 24 + anI h)) else -1) else -1
theorem x_Tcalls {σ : St} {a w : Int32} {M : Mem} {Q : Int32 → Mem → Prop} (hX : XRep σ M) (k : ∀ M', Fr2 SCL M M' → XRep σ M' → Q (callsR (sL σ) (sD σ) a w) M') : w_Top_calls a w M Q := by
  have hL := hX.1.2.1
  have hnb := hX.1.1.2.2.2.1
  have k := k M Fr2.rfl hX
  unfold callsR at k
  unfold w_Top_calls
  refine x_isBird hL ⟨fun h => ?_, fun h => x_isHour ⟨fun h2 => ?_, fun h2 => ?_⟩⟩
  · rw [h] at k; exact k
  · obtain ⟨p, hp, rfl⟩ := inR_true (by omega) h
    obtain ⟨q, hq, rfl⟩ := inR_true (by omega) h2
    rw [h, h2, if_pos rfl, if_pos rfl] at k
    unfold anI at k
    rw [nI_clamp (by omega), nI_clamp (by omega)] at k
    have ea : nI p * 24 + nI q = nI (p * 24 + q) := by simp only [fa_lit, pk_mul, nI_add]
    rw [ea, nI_clamp (by omega), (hX.1.2.2.2.2.1 (p * 24 + q) (by omega)).1]
    exact ⟨vp_in_nI (by omega) (by decide), k⟩
  · rw [h, h2] at k; exact k
