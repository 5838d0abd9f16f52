/-! a fault is never 0 -/
theorem er_pos {t : List Nat} {n k : Nat} (h1 : 1 ≤ k) (h2 : k ≤ 5) (hl : t.length ≤ 1000) : er t n k ≠ 0 ∧ er t n k < 2 ^ 31 := by
  have : kP t n ≤ t.length := tP_le (pos_le n)
  unfold er; omega
theorem chk_l {α : Type} {o : Option Nat} {r : Nat ⊕ α} {f : Nat} (h : chk o r = .inl f) : o = some f ∨ r = .inl f := by
  cases o with
  | none => exact Or.inr h
  | some g => cases h; exact Or.inl rfl
def fok (f : Nat) : Prop := f ≠ 0 ∧ f < 2 ^ 31
theorem cKw_p {t : List Nat} {q n f : Nat} (hl : t.length ≤ 1000) (h : cKw t q n = some f) : fok f := by
  unfold cKw at h; split at h
  · cases h
  · cases h; exact er_pos (by decide) (by decide) hl
theorem cSg_p {t : List Nat} {q n f : Nat} (hl : t.length ≤ 1000) (h : cSg t q n = some f) : fok f := by
  unfold cSg at h; split at h
  · cases h
  · cases h; exact er_pos (by decide) (by decide) hl
theorem cNm_p {t : List Nat} {n f : Nat} (hl : t.length ≤ 1000) (h : cNm t n = some f) : fok f := by
  unfold cNm at h; split at h
  · cases h
  · cases h; exact er_pos (by decide) (by decide) hl
theorem cNum_p {t : List Nat} {lo hi n f : Nat} (hl : t.length ≤ 1000) (h : cNum t lo hi n = some f) : fok f := by
  unfold cNum at h; split at h
  · split at h
    · cases h
    · cases h; exact er_pos (by decide) (by decide) hl
  · cases h; exact er_pos (by decide) (by decide) hl
theorem lp_p {t : List Nat} {g : Nat → List Int32 → RE} {lv : Nat} (hg : ∀ n c f, g n c = .inl f → fok f) : ∀ (k n : Nat) (c : List Int32) (f : Nat), lp t g lv k n c = .inl f → fok f
  | 0, n, c, f, h => by rw [lp] at h; cases h
  | k + 1, n, c, f, h => by
    rw [lp] at h
    split at h
    · cases h
    · cases e : g (n + 1) c with
      | inl f2 => rw [e] at h; cases h; exact hg _ _ _ e
      | inr x =>
        rw [e] at h
        have h : (if lv = 1 then (.inr (x.1, x.2 ++ [opAt t lv n]) : RE) else lp t g lv k x.1 (x.2 ++ [opAt t lv n])) = .inl f := h
        split at h
        · cases h
        · exact lp_p hg k _ _ _ h
theorem aE_p {t : List Nat} {fog : Bool} (hl : t.length ≤ 1000) : ∀ (F lv dp n : Nat) (c : List Int32) (f : Nat), lv ≤ 5 → dp ≤ 5 → 6 * (5 - dp) + (5 - lv) + 1 ≤ F → aE t fog F lv dp n c = .inl f → fok f
  | 0, lv, dp, n, c, f, _, _, h0, h => by omega
  | F + 1, lv, dp, n, c, f, h5, hd, h0, h => by
    rw [aE] at h
    split at h
    · unfold aPt at h
      split at h
      · split at h
        · cases h; exact er_pos (by decide) (by decide) hl
        · split at h
          · cases e : aE t fog F 5 (dp + 1) (n + 1) c with
            | inl f2 => rw [e] at h; cases h; exact aE_p hl F 5 (dp + 1) (n + 1) c f (by omega) (by omega) (by omega) e
            | inr x => rw [e] at h; cases h
          · split at h
            · cases e : aE t fog F 0 (dp + 1) (n + 1) c with
              | inl f2 => rw [e] at h; cases h; exact aE_p hl F 0 (dp + 1) (n + 1) c f (by omega) (by omega) (by omega) e
              | inr x =>
                rw [e] at h
                rcases chk_l h with y | y
                · exact cSg_p hl y
                · cases y
            · cases h
      · cases h; exact er_pos (by decide) (by decide) hl
    · split at h
      · exact aE_p hl F 5 dp n c f (by omega) hd (by omega) h
      · cases e : aE t fog F (lv + 1) dp n c with
        | inl f2 => rw [e] at h; cases h; exact aE_p hl F (lv + 1) dp n c f (by omega) hd (by omega) e
        | inr x =>
          rw [e] at h
          exact lp_p (fun n c f => aE_p hl F (lv + 1) dp n c f (by omega) hd (by omega)) _ _ _ _ h
theorem ite_l {α : Type} {c : Prop} [Decidable c] {a b : Nat ⊕ α} {f : Nat} (h : (if c then a else b) = .inl f) : a = .inl f ∨ b = .inl f := by
  by_cases hc : c
  · rw [if_pos hc] at h; exact Or.inl h
  · rw [if_neg hc] at h; exact Or.inr h
theorem aLine_p {t : List Nat} {n f : Nat} {d : Dr} (hl : t.length ≤ 1000) (h : aLine t n d = .inl f) : fok f := by
  have ep : ∀ {n k : Nat}, 1 ≤ k → k ≤ 5 → ∀ {g : Nat}, (Sum.inl (er t n k) : RLn) = .inl g → fok g := fun a b _ e => by cases e; exact er_pos a b hl
  unfold aLine at h
  rcases ite_l h with h | h
  · unfold aPerson at h
    rcases ite_l h with h | h
    · exact ep (by decide) (by decide) h
    rcases chk_l h with h | h
    · exact cNm_p hl h
    rcases ite_l h with h | h
    · exact ep (by decide) (by decide) h
    rcases ite_l h with h | h
    · rcases chk_l h with h | h
      · exact cKw_p hl h
      rcases chk_l h with h | h
      · exact cNum_p hl h
      rcases chk_l h with h | h
      · exact cNum_p hl h
      rcases chk_l h with h | h
      · exact cKw_p hl h
      rcases chk_l h with h | h
      · exact cNum_p hl h
      rcases chk_l h with h | h
      · exact cSg_p hl h
      · cases h
    · exact ep (by decide) (by decide) h
  rcases ite_l h with h | h
  · unfold aGo at h
    rcases ite_l h with h | h
    · exact ep (by decide) (by decide) h
    rcases chk_l h with h | h
    · exact cNm_p hl h
    split at h
    · exact ep (by decide) (by decide) h
    rcases chk_l h with h | h
    · exact cKw_p hl h
    rcases chk_l h with h | h
    · exact cNum_p hl h
    rcases ite_l h with h | h
    · exact ep (by decide) (by decide) h
    rcases chk_l h with h | h
    · exact cKw_p hl h
    rcases chk_l h with h | h
    · exact cNum_p hl h
    rcases chk_l h with h | h
    · exact cNum_p hl h
    rcases chk_l h with h | h
    · exact cSg_p hl h
    · cases h
  rcases ite_l h with h | h
  · unfold aBird at h
    rcases ite_l h with h | h
    · exact ep (by decide) (by decide) h
    rcases chk_l h with h | h
    · exact cNm_p hl h
    rcases ite_l h with h | h
    · exact ep (by decide) (by decide) h
    rcases chk_l h with h | h
    · exact cKw_p hl h
    rcases chk_l h with h | h
    · exact cNum_p hl h
    rcases chk_l h with h | h
    · exact cNum_p hl h
    rcases chk_l h with h | h
    · exact cSg_p hl h
    · cases h
  rcases ite_l h with h | h
  · unfold aCall at h
    rcases ite_l h with h | h
    · exact ep (by decide) (by decide) h
    rcases chk_l h with h | h
    · exact cNm_p hl h
    split at h
    · exact ep (by decide) (by decide) h
    rcases chk_l h with h | h
    · exact cKw_p hl h
    rcases chk_l h with h | h
    · exact cNum_p hl h
    rcases ite_l h with h | h
    · exact ep (by decide) (by decide) h
    rcases chk_l h with h | h
    · exact cKw_p hl h
    rcases chk_l h with h | h
    · exact cNum_p hl h
    rcases chk_l h with h | h
    · exact cSg_p hl h
    · cases h
  have lw : ∀ fog, aLaw t fog n d = .inl f → fok f := by
    intro fog h
    unfold aLaw at h
    rcases ite_l h with h | h
    · exact ep (by decide) (by decide) h
    cases e : aE t fog 36 0 0 (n + 1) [] with
    | inl f2 => rw [e] at h; cases h; exact aE_p hl 36 0 0 _ _ _ (by decide) (by decide) (by decide) e
    | inr x =>
      rw [e] at h
      rcases chk_l h with h | h
      · exact cSg_p hl h
      · cases h
  rcases ite_l h with h | h
  · exact lw false h
  rcases ite_l h with h | h
  · exact lw true h
  rcases ite_l h with h | h
  · unfold aHear at h
    rcases ite_l h with h | h
    · exact ep (by decide) (by decide) h
    rcases chk_l h with h | h
    · exact cNum_p hl h
    rcases chk_l h with h | h
    · exact cSg_p hl h
    · cases h
  · exact ep (by decide) (by decide) h
theorem aLines_p {t : List Nat} (hl : t.length ≤ 1000) : ∀ (k n : Nat) (d : Dr) (f : Nat), aLines t k n d = .inl f → fok f
  | 0, n, d, f, h => by rw [aLines] at h; cases h
  | k + 1, n, d, f, h => by
    rw [aLines] at h
    split at h
    · cases h
    · cases e : aLine t n d with
      | inl f2 => rw [e] at h; cases h; exact aLine_p hl e
      | inr x => rw [e] at h; exact aLines_p hl k _ _ _ h
theorem aAll_pos {t : List Nat} {f : Nat} (hl : t.length ≤ 1000) (h : aAll t = .inl f) : f ≠ 0 ∧ f < 2 ^ 31 := by
  unfold aAll at h
  rcases chk_l h with h | h
  · exact cKw_p hl h
  rcases chk_l h with h | h
  · exact cNum_p hl h
  rcases chk_l h with h | h
  · exact cNum_p hl h
  rcases chk_l h with h | h
  · exact cSg_p hl h
  · exact aLines_p hl _ _ _ _ h
