/-! the reference's stands -/
def MStd (l : Land) (f t : Nat) (st : Nat → Option Nat) (M : Mem) : Prop := M.1 c_mo Mo_standFrom = nI f ∧ M.1 c_mo Mo_standTo = nI t ∧ ∀ p, p < lnp l → M.1 c_mo_standing p = oI (st p) ∧ ∀ c, st p = some c → c < 64
theorem MStd.at {l : Land} {f t : Nat} {st : Nat → Option Nat} {M : Mem} (h : MStd l f t st M) (hl : LOK l) (hf : f < 2 ^ 31) (ht : t < 2 ^ 31) : MAt l (atS l f t st) M := by
  intro p hh hp h24
  obtain ⟨h1, h2, h3⟩ := h
  obtain ⟨h3, h4⟩ := h3 p hp
  rw [h1, h2, h3]
  have hpl := hl.2.2.2.2.2.2.1 p hh hp h24
  have e1 := nI_ltI (a := hh) (b := f) (by omega) hf
  have e2 := nI_ltI (a := t) (b := hh) ht (by omega)
  rw [e1, e2]
  unfold atS
  rw [show (p * 24 + hh) / 24 = p by omega, show (p * 24 + hh) % 24 = hh by omega]
  cases hst : st p with
  | none => exact ⟨hpl, fun z => absurd (show (-1 : Int32) < 0 by decide) z.2.2, fun _ => rfl⟩
  | some c =>
    have hc := h4 c hst
    have n0 : ¬ oI (some c) < 0 := ni_nneg (show c < 2 ^ 31 by omega)
    dsimp only
    by_cases q : f ≤ hh ∧ hh ≤ t
    · rw [if_pos q]
      exact ⟨hc, fun _ => rfl, fun z => absurd ⟨by omega, by omega, n0⟩ z⟩
    · rw [if_neg q]
      exact ⟨hpl, fun z => absurd ⟨by omega, by omega⟩ q, fun _ => rfl⟩
theorem MStd.mv {l : Land} {f t : Nat} {st : Nat → Option Nat} {M M' : Mem} (h : MStd l f t st M) (e1 : M'.1 c_mo Mo_standFrom = M.1 c_mo Mo_standFrom) (e2 : M'.1 c_mo Mo_standTo = M.1 c_mo Mo_standTo) (e3 : M'.1 c_mo_standing = M.1 c_mo_standing) : MStd l f t st M' := by
  unfold MStd; rw [e1, e2, e3]; exact h
theorem MStd.fr {l : Land} {f t : Nat} {st : Nat → Option Nat} {M M' : Mem} {L : List Nat} (h : MStd l f t st M) (hF : Fr L M M') (hd : ∀ k ∈ [c_mo, c_mo_standing], k ∉ L) : MStd l f t st M' := h.mv (by rw [hF.1 _ (hd _ (by decide))]) (by rw [hF.1 _ (hd _ (by decide))]) (hF.1 _ (hd _ (by decide)))
theorem m_isCell {l : Land} {c : Nat} {M : Mem} {Q : Bool → Mem → Prop} (hl : LOK l) (hL : ML l M) (hc : c < 64) (k : Q (isC l c) M) : w_Mo_isCell (nI c) M Q := by
  have hw := hl.1
  have hd := hl.2.1
  unfold isC at k
  unfold w_Mo_isCell
  rw [show Int32.toNatClampNeg 0 = 0 from rfl, show Int32.toNatClampNeg 1 = 1 from rfl, m8 (by omega), d8 (by omega), hL.1.1, hL.1.2]
  refine ⟨vp_in_nI (n := 0) (by decide) (by decide), br_le (by omega) (by omega) (fun q => ?_) (fun q => ⟨vp_in_nI (n := 1) (by decide) (by decide), decide (c / 8 < ldeep l), ?_, ?_⟩)⟩
  · rw [decide_eq_false (by omega), Bool.false_and] at k; exact k
  · have e := nI_leI (a := ldeep l) (b := c / 8) (by omega) (by omega)
    by_cases z : c / 8 < ldeep l
    · rw [if_neg (fun y => by have := e.mp y; omega), decide_eq_true z]; rfl
    · rw [if_pos (e.mpr (by omega)), decide_eq_false z]; rfl
  · rw [decide_eq_true q, Bool.true_and] at k; exact k
def MGB (s : Bst) (M : Mem) : Prop := match s with
  | none => M.1 c_mo Mo_bestCell = -1
  | some (c, v, _) => M.1 c_mo Mo_bestCell = nI c ∧ c < 64 ∧ M.1 c_mo Mo_bestBalance = v
theorem MGB.mv {s : Bst} {M M' : Mem} (h : MGB s M) (e : M'.1 c_mo = M.1 c_mo) : MGB s M' := by
  match s, h with
  | none, h => unfold MGB at *; rw [e]; exact h
  | some (c, v, z), h => unfold MGB at *; rw [e]; exact h
/-- what the search of a stand keeps -/
def FS (l : Land) (f t p : Nat) (M M' : Mem) : Prop := MF M M' ∧ M'.1 c_mo Mo_standFrom = M.1 c_mo Mo_standFrom ∧ M'.1 c_mo Mo_standTo = M.1 c_mo Mo_standTo ∧ (∀ q, q ≠ p → M'.1 c_mo_standing q = M.1 c_mo_standing q) ∧ M'.1 c_mo_rows = M.1 c_mo_rows
theorem FS.trans {l : Land} {f t p : Nat} {M M1 M2 : Mem} (h : FS l f t p M M1) (h2 : FS l f t p M1 M2) : FS l f t p M M2 := ⟨h.1.trans h2.1, h2.2.1.trans h.2.1, h2.2.2.1.trans h.2.2.1, fun q hq => (h2.2.2.2.1 q hq).trans (h.2.2.2.1 q hq), h2.2.2.2.2.trans h.2.2.2.2⟩
theorem FS.of {l : Land} {f t p : Nat} {M M1 : Mem} {L : List Nat} (h : Fr L M M1) (hs : ∀ k ∈ L, k ∈ SOW) : FS l f t p M M1 := by
  have h := h.mono hs
  exact ⟨MF.of h (by decide) (by decide), by rw [h.1 _ (by decide)], by rw [h.1 _ (by decide)], fun q _ => by rw [h.1 _ (by decide)], h.1 _ (by decide)⟩
theorem FS.best {l : Land} {f t p j : Nat} {M : Mem} {v : Int32} (h1 : j = Mo_bestCell ∨ j = Mo_bestBalance) : FS l f t p M (si M c_mo j v) := by
  have hj : ∀ k, k ≠ Mo_bestCell → k ≠ Mo_bestBalance → (si M c_mo j v).1 c_mo k = M.1 c_mo k := fun k a b => by
    rw [si_same, up_n]; rcases h1 with h1 | h1 <;> rw [h1] <;> assumption
  exact ⟨⟨fr_si (by decide), hj _ (by decide) (by decide), hj _ (by decide) (by decide), hj _ (by decide) (by decide)⟩, hj _ (by decide) (by decide), hj _ (by decide) (by decide), fun q _ => by rw [si_ne _ _ _ (by decide)], si_ne _ _ _ (by decide)⟩
theorem FS.sd {l : Land} {f t p : Nat} {M : Mem} {v : Int32} : FS l f t p M (si M c_mo_standing p v) :=
  ⟨MF.of (L := [c_mo_standing]) (fr_si (by decide)) (by decide) (by decide), by rw [si_ne _ _ _ (by decide)], by rw [si_ne _ _ _ (by decide)], fun q hq => by rw [si_same, up_n hq], si_ne _ _ _ (by decide)⟩
theorem MStd.sd {l : Land} {f t p c : Nat} {st : Nat → Option Nat} {M M' : Mem} (h : MStd l f t st M) (hF : FS l f t p M M') (hs : M'.1 c_mo_standing p = nI c) (hc : c < 64) : MStd l f t (stS st p c) M' := by
  refine ⟨hF.2.1.trans h.1, hF.2.2.1.trans h.2.1, fun q hq => ?_⟩
  unfold stS
  by_cases e : q = p
  · subst e
    rw [if_pos rfl]
    exact ⟨hs, fun c' z => by cases z; exact hc⟩
  · rw [if_neg e, hF.2.2.2.1 q e]; exact h.2.2 q hq
def gP (l : Land) (ds : Deeds) (f t : Nat) (st : Nat → Option Nat) (p : Nat) : Nat → Int32 := fun k => gain l (putA (2 ^ p) f t k (atS l f t st)) ds (2 ^ p) (dshot ds) 0 24
theorem gP_eq {l : Land} {ds : Deeds} {f t : Nat} {st : Nat → Option Nat} {p k : Nat} (hp : p < 31) : gain l (atS l f t (stS st p k)) ds (2 ^ p) (dshot ds) 0 24 = gP l ds f t st p k := by
  unfold gP
  exact (gain_cong (fun q h hq _ hh => atS_put hp (by omega))).symm
theorem m_findStand {σ : St} {f t p : Nat} {st : Nat → Option Nat} {M : Mem} {Q : Mem → Prop} (hM : MRep σ M) (hl : LOK (sL σ)) (hg : dgood (sL σ) (sD σ)) (hS : MStd (sL σ) f t st M) (hf : f < 24) (ht : t < 24) (hp : p < lnp (sL σ)) (k : ∀ M', FS (sL σ) f t p M M' → M'.1 c_mo_standing p = M.1 c_mo_standing p → MRep σ M' → MStd (sL σ) f t st M' → MGB (tryF (sL σ) (gP (sL σ) (sD σ) f t st p) (2 ^ p) none 64) M' → Q M') : w_Mo_findStand (nI p) M Q := by
  have hnp := hl.2.2.1
  unfold w_Mo_findStand
  have vp : vp_in (nI p) 6 := vp_in_nI (by omega) (by decide)
  rw [nI_clamp (by omega)]
  refine ⟨vp, fun x ex => ?_⟩
  generalize hM1 : si (si M c_mo Mo_bestCell (-1)) c_mo Mo_bestBalance 0 = M1
  have hF1 : FS (sL σ) f t p M M1 := by rw [← hM1]; exact (FS.best (Or.inl rfl)).trans (FS.best (Or.inr rfl))
  refine for_loop (fun n i (M2 : Mem) => w_Mo_findStand_L19 (nI p) x (fun M1045 => (vp_in (nI p) 6 ∧ Q (si M1045 c_mo_standing p x))) Q n (nI i) M2) (fun i M2 => FS (sL σ) f t p M M2 ∧ MGB (tryF (sL σ) (gP (sL σ) (sD σ) f t st p) (2 ^ p) none i) M2) 64 0 M1 (Nat.zero_le _) ⟨hF1, ?_⟩ ?_ ?_
  · show M1.1 c_mo Mo_bestCell = -1
    rw [← hM1, si_same, up_n (by decide), si_same, up_s]
  · intro n M2 ⟨hF2, hb2⟩
    refine br_le (a := 64) (b := 64) (by decide) (by decide) (fun _ => ⟨vp, ?_⟩) (fun q => absurd q (by omega))
    have hF3 : FS (sL σ) f t p M (si M2 c_mo_standing p x) := hF2.trans FS.sd
    have es : (si M2 c_mo_standing p x).1 c_mo_standing = M.1 c_mo_standing := by
      rw [si_same]
      funext q
      by_cases c : q = p
      · subst c; rw [up_s, ex]
      · rw [up_n c]; exact hF2.2.2.2.1 q c
    exact k _ hF3 (by rw [es]) (hM.scr hF3.1) (hS.mv hF3.2.1 hF3.2.2.1 es) (hb2.mv (si_ne _ _ _ (by decide)))
  · intro n i M2 _ hi ⟨hF2, hb2⟩ kk
    have hM2 := hM.scr hF2.1
    rw [tryF] at kk
    unfold tryS at kk
    unfold w_Mo_findStand_L19
    refine br_le (a := 64) (by decide) (by omega) (fun q => absurd q (by omega)) (fun _ => m_isCell hl hM2.1 hi ⟨fun q => ?_, fun q => ⟨vp, ?_⟩⟩)
    · rw [q] at kk
      rw [nI_1]; exact kk M2 ⟨hF2, hb2⟩
    · rw [q, if_pos rfl] at kk
      rw [nI_clamp (by omega), nI_1]
      generalize hM3 : si M2 c_mo_standing p (nI i) = M3
      have hF23 : FS (sL σ) f t p M2 M3 := by rw [← hM3]; exact FS.sd
      have hF3 := hF2.trans hF23
      have hM3' := hM.scr hF3.1
      have hS3 : MStd (sL σ) f t (stS st p i) M3 := hS.sd hF3 (by rw [← hM3, si_same, up_s]) hi
      have ec3 : M3.1 c_mo = M2.1 c_mo := by rw [← hM3]; exact si_ne _ _ _ (by decide)
      refine m_findOwes (but := 0) hl hM3'.1 (hS3.at hl (by omega) (by omega)) hM3'.2.1 hg.1.1 hg.1.2.1 (by decide) (fun M4 hF34 hO4 => ?_)
      rw [Nat.or_zero] at hO4
      have hF4 : FS (sL σ) f t p M M4 := hF3.trans (FS.of hF34 (by decide))
      have ec4 : M4.1 c_mo = M2.1 c_mo := (hF34.1 _ (by decide)).trans ec3
      have hb4 := hb2.mv ec4
      have hge := gP_eq (l := sL σ) (ds := sD σ) (f := f) (t := t) (st := st) (p := p) (k := i) (by omega)
      have put : w_Mo_findStand_j64 (fun l3 M => w_Mo_findStand_L19 (nI p) x (fun M1045 => (vp_in (nI p) 6 ∧ Q (si M1045 c_mo_standing p x))) Q n l3 M) (fun M1045 => (vp_in (nI p) 6 ∧ Q (si M1045 c_mo_standing p x))) (nI p) x (nI i) M4 Q ↔ w_Mo_balanceOf (nI p) (si M4 c_mo Mo_bestCell (nI i)) (fun r1042 M1041 => w_Mo_findStand_L19 (nI p) x (fun M1045 => (vp_in (nI p) 6 ∧ Q (si M1045 c_mo_standing p x))) Q n (nI i + 1) (si M1041 c_mo Mo_bestBalance r1042)) := Iff.rfl
      have done : (∀ M', FS (sL σ) f t p M M' ∧ MGB (some (i, gP (sL σ) (sD σ) f t st p i, 2 ^ p)) M' → w_Mo_findStand_L19 (nI p) x (fun M1045 => (vp_in (nI p) 6 ∧ Q (si M1045 c_mo_standing p x))) Q n (nI (i + 1)) M') → w_Mo_findStand_j64 (fun l3 M => w_Mo_findStand_L19 (nI p) x (fun M1045 => (vp_in (nI p) 6 ∧ Q (si M1045 c_mo_standing p x))) Q n l3 M) (fun M1045 => (vp_in (nI p) 6 ∧ Q (si M1045 c_mo_standing p x))) (nI p) x (nI i) M4 Q := by
        intro kd
        rw [put]
        refine m_balance hl (hO4.fr (L := [c_mo]) (fr_si (by decide)) (by decide)) hp ?_
        rw [nI_1, hge]
        exact kd _ ⟨(hF4.trans (FS.best (Or.inl rfl))).trans (FS.best (Or.inr rfl)), by rw [si_same, up_n (by decide), si_same, up_s], hi, by rw [si_same, up_s]⟩
      generalize tryF (sL σ) (gP (sL σ) (sD σ) f t st p) (2 ^ p) none i = bs at kk hb4
      match bs, kk, hb4 with
      | none, kk, hb4 =>
        have hb : M4.1 c_mo Mo_bestCell = -1 := hb4
        rw [hb]
        exact ⟨fun _ => done kk, fun q => absurd (by decide) q⟩
      | some (c, v, z), kk, hb4 =>
        obtain ⟨g1, g2, g3⟩ : M4.1 c_mo Mo_bestCell = nI c ∧ c < 64 ∧ M4.1 c_mo Mo_bestBalance = v := hb4
        rw [g1]
        refine ⟨fun q => absurd q (ni_nneg (by omega)), fun _ => m_balance hl hO4 hp ?_⟩
        rw [hge, g3]
        dsimp only at kk
        refine ⟨fun q => ?_, fun q => ?_⟩
        · rw [if_neg (fun z => (fa_of_lt z).2.1 q)] at kk
          exact kk M4 ⟨hF4, g1, g2, g3⟩
        · rw [if_pos (fa_of_nle q)] at kk
          exact done kk
