/-! the reference's reader: persons; what is laid of a law -/
theorem m_kind {t : List Nat} {N n : Nat} {l1 : Int32} {K : Int32 → Mem → Prop} {Q : Mem → Prop} {M : Mem} (hA : MA t N n M) (k : K (if 12 ≤ kK t n ∧ kK t n ≤ 16 then nI (kK t n - 12) else -1) M) : ∃ m, w_Mo_readPerson_L30 l1 K Q m (-1) 0 M := by
  have h24 := kK_le (t := t) (n := n)
  refine for_loop (fun m i (M1 : Mem) => w_Mo_readPerson_L30 l1 K Q m (if 12 ≤ kK t n ∧ kK t n < 12 + i then nI (kK t n - 12) else -1) (nI i) M1) (fun i M1 => M1 = M) 5 0 M (Nat.zero_le _) rfl ?_ ?_ |> fun h => by
    obtain ⟨m, h⟩ := h
    rw [if_neg (by omega)] at h
    exact ⟨m, h⟩
  · intro m M1 e; subst e
    refine br_le (a := 5) (b := 5) (by decide) (by decide) (fun _ => ?_) (fun q => absurd q (by omega))
    by_cases c : 12 ≤ kK t n ∧ kK t n ≤ 16
    · rw [if_pos c] at k; rw [if_pos (by omega)]; exact k
    · rw [if_neg c] at k; rw [if_neg (by omega)]; exact k
  · intro m i M1 _ hi e kk; subst e
    have kk := kk M1 rfl
    refine br_le (a := 5) (by decide) (by omega) (fun q => absurd q (by omega)) (fun _ => ?_)
    have e12 : 12 + nI i = nI (12 + i) := by simp only [fa_lit, nI_add]
    rw [e12, nI_1]
    refine m_isWord hA (by omega) (fun x ex => ?_)
    have ex : x = if 12 ≤ kK t n ∧ kK t n < 12 + (i + 1) then nI (kK t n - 12) else -1 := by
      rw [ex]
      by_cases c : kK t n = 12 + i
      · rw [decide_eq_true c, if_pos rfl, if_pos (by omega), c, show 12 + i - 12 = i by omega]
      · rw [decide_eq_false c, if_neg (by decide)]
        by_cases c2 : 12 ≤ kK t n ∧ kK t n < 12 + i
        · rw [if_pos c2, if_pos (by omega)]
        · rw [if_neg c2, if_neg (by omega)]
    rw [ex]; exact kk
theorem m_kindF {l1 : Int32} {K : Int32 → Mem → Prop} {Q : Mem → Prop} {M : Mem} (hf : ¬ M.1 c_mo Mo_fault = 0) (k : K (-1) M) : ∃ m, w_Mo_readPerson_L30 l1 K Q m (-1) 0 M := by
  refine for_loop (fun m i (M1 : Mem) => w_Mo_readPerson_L30 l1 K Q m (-1) (nI i) M1) (fun i M1 => M1 = M) 5 0 M (Nat.zero_le _) rfl ?_ ?_
  · intro m M1 e; subst e
    exact br_le (a := 5) (b := 5) (by decide) (by decide) (fun _ => k) (fun q => absurd q (by omega))
  · intro m i M1 _ hi e kk; subst e
    refine br_le (a := 5) (by decide) (by omega) (fun q => absurd q (by omega)) (fun _ => m_isWordF hf (fun x ex => ?_))
    rw [if_neg (by decide)] at ex
    subst ex
    rw [nI_1]; exact kk M1 rfl
theorem m_readPerson {t : List Nat} {N n : Nat} {d : Dr} {M : Mem} {Q : Mem → Prop} (hA : MA t N n M) (h0 : kS t n ≠ 0) (hg : GDr d) (hD : MDr d n M) (k : MRes t N (aPerson t n d) M Q) : w_Mo_readPerson M (fun M1 => w_Mo_takeSign 59 M1 Q) := by
  have hnb := hg.1.2.2.2.1
  have hnp := hg.1.2.2.1
  unfold aPerson at k
  unfold w_Mo_readPerson
  refine ⟨vp_in_nI (n := 182) (by decide) (by decide), fun x ex => ?_⟩
  have ex : x = nI (rnp d) := by rw [ex]; exact hD.1.1.2.2.1
  subst ex
  refine br_ne (b := 6) (by omega) (by decide) (fun c => ?_) (fun c => ?_)
  · rw [if_neg c] at k
    have e187 : 187 + 2 * nI (rnp d) = nI (187 + 2 * rnp d) := by simp only [fa_lit, pk_mul, nI_add]
    have e24 : 24 * nI (rnp d) = nI (rnp d * 24) := by rw [Nat.mul_comm]; simp only [fa_lit, pk_mul]
    rw [e187, e24, nI_1, nI_clamp (by omega), nI_clamp (by omega), nI_clamp (by omega), show Int32.toNatClampNeg 182 = 182 from rfl]
    have v1 := vp_in_nI (n := 187 + 2 * rnp d) (N := 360) (by omega) (by decide)
    have v2 := vp_in_nI (n := 187 + 2 * rnp d + 1) (N := 360) (by omega) (by decide)
    have v3 := vp_in_nI (n := 182) (N := 360) (by decide) (by decide)
    have v4 := vp_in_nI (n := rnp d * 24) (N := 144) (by omega) (by decide)
    refine m_readName (id := rnp d) (d' := uNp d (kW t (n + 1)) 0 0) hA h0 hg hD.2 (by omega) (by show rnp d + 1 + rnb d = _; omega) (fun i => ?_) (fun y => ?_) rfl (fun f e fk M2 a2 h2 => m_kindF (nfz fk h2) ⟨fun y => absurd y (by decide), fun _ => m_wrongF (nfz fk h2) ?_⟩) (fun e e2 fk M2 a2 h2 => m_kindF (nfz fk h2) ⟨fun y => absurd y (by decide), fun _ => m_wrongF (nfz fk h2) ?_⟩) (fun e e2 M2 a2 h2 hN2 => m_kind h2 ?_)
    · show (i < rnp d + 1 ∨ 6 ≤ i ∧ i < 6 + rnb d) ↔ (i < rnp d ∨ 6 ≤ i ∧ i < 6 + rnb d) ∨ i = rnp d
      omega
    · rcases y with y | y <;> omega
    · rw [e] at k; exact m_endF fk h2 (MPF.rfl.fn a2) k
    · rw [e, if_pos e2] at k; exact m_endF fk h2 (MPF.rfl.fn a2) k
    rw [e, if_neg e2] at k
    have hP2 := MPF.rfl.fn a2
    have hD2 := hD.1.fn a2
    by_cases ck : 12 ≤ kK t (n + 2) ∧ kK t (n + 2) ≤ 16
    · rw [if_pos ck] at k ⊢
      rw [chk_cell (n := n + 3), chk_aft (n := n + 6)] at k
      refine ⟨fun _ => ⟨v1, ?_⟩, fun y => absurd (nI_pos' (by omega)) y⟩
      have hA3 : MA t N (n + 3) (si (si M2 c_mo Mo_at (M2.1 c_mo Mo_at + 1)) c_mo_lands (187 + 2 * rnp d) (nI (kK t (n + 2) - 12))) := (h2.nx (h2.lt (kK_ne0 (q := kK t (n + 2)) rfl (by omega))) (by rw [h2.at]; exact nI_1 _)).fr (fr2_si (L := [c_mo_lands]) (by decide)) (by decide)
      have hD3 : MD0 d n (si (si M2 c_mo Mo_at (M2.1 c_mo Mo_at + 1)) c_mo_lands (187 + 2 * rnp d) (nI (kK t (n + 2) - 12))) := (hD2.fa FA.at).ld hg (by omega) (fun p hp => ⟨by omega, by omega⟩) (fun b hb => by omega)
      have hP3 : MPF M (si (si M2 c_mo Mo_at (M2.1 c_mo Mo_at + 1)) c_mo_lands (187 + 2 * rnp d) (nI (kK t (n + 2) - 12))) := (hP2.mo (by decide) (by decide)).ld (by omega)
      have hN3 : MN (uNp d (kW t (n + 1)) 0 0) (si (si M2 c_mo Mo_at (M2.1 c_mo Mo_at + 1)) c_mo_lands (187 + 2 * rnp d) (nI (kK t (n + 2) - 12))) := (hN2.fa (FA.at (v := M2.1 c_mo Mo_at + 1))).mv rfl rfl rfl
      have e3 : (si (si M2 c_mo Mo_at (M2.1 c_mo Mo_at + 1)) c_mo_lands (187 + 2 * rnp d) (nI (kK t (n + 2) - 12))).1 c_mo_lands (187 + 2 * rnp d) = nI (kK t (n + 2) - 12) := si_at
      generalize si (si M2 c_mo Mo_at (M2.1 c_mo Mo_at + 1)) c_mo_lands (187 + 2 * rnp d) (nI (kK t (n + 2) - 12)) = M3 at hA3 hD3 hP3 hN3 e3
      refine m_takeCell hA3 hD3.1.1 hD3.1.2.1 hg.1.1 hg.1.2.1 (fun f e5 fk r M4 a4 h4 => ⟨v4, m_takeAfterF fk (by rw [si_ne _ _ _ (by decide)]; exact h4) (fun r2 M5 a5 h5 => ⟨v2, v3, v3, ?_⟩)⟩) (fun e5 c64 M4 a4 h4 => ⟨v4, ?_⟩)
      · have e5 : cCell t (rwide d - 1) (rdeep d - 1) (n + 3) = some f := e5
        rw [e5] at k
        exact m_endF fk h5 (((((hP3.fa a4).ot (fr2_si (L := [c_mo_goes]) (by decide)) (by decide) (by decide)).fa a5).ld (by omega)).ld (by decide)) k
      have e5 : cCell t (rwide d - 1) (rdeep d - 1) (n + 3) = none := e5
      rw [e5] at k
      have hD5 := (hD3.fa a4).uGoes (i := rnp d * 24) (c := kV t (n + 5) * 8 + kV t (n + 4))
      have hA5 := h4.fr (M' := si M4 c_mo_goes (rnp d * 24) (nI (kV t (n + 5) * 8 + kV t (n + 4)))) (fr2_si (L := [c_mo_goes]) (by decide)) (by decide)
      have hP5 : MPF M (si M4 c_mo_goes (rnp d * 24) (nI (kV t (n + 5) * 8 + kV t (n + 4)))) := (hP3.fa a4).ot (fr2_si (L := [c_mo_goes]) (by decide)) (by decide) (by decide)
      have hN5 : MN (uNp d (kW t (n + 1)) 0 0) (si M4 c_mo_goes (rnp d * 24) (nI (kV t (n + 5) * 8 + kV t (n + 4)))) := (hN3.fa a4).mv rfl rfl rfl
      have e5k : (si M4 c_mo_goes (rnp d * 24) (nI (kV t (n + 5) * 8 + kV t (n + 4)))).1 c_mo_lands (187 + 2 * rnp d) = nI (kK t (n + 2) - 12) := by
        rw [si_ne _ _ _ (by decide), (a4.1 c_mo_lands (by decide)).1]; exact e3
      show w_Mo_takeAfter 3 0 9999 (si M4 c_mo_goes (rnp d * 24) (nI (kV t (n + 5) * 8 + kV t (n + 4)))) _
      generalize si M4 c_mo_goes (rnp d * 24) (nI (kV t (n + 5) * 8 + kV t (n + 4))) = M5 at hA5 hD5 hP5 hN5 e5k
      refine m_takeAfter (q := 3) (lo := 0) (hi := 9999) hA5 (by decide) (by decide) (by decide) (fun f e6 fk r M6 a6 h6 => ⟨v2, v3, v3, ?_⟩) (fun e6 s6 v6 M6 a6 h6 => ⟨v2, v3, v3, ?_⟩)
      · have e6 : cAft t 3 0 9999 (n + 6) = some f := e6
        rw [e6] at k
        exact m_endF fk h6 (((hP5.fa a6).ld (by omega)).ld (by decide)) k
      have e6 : cAft t 3 0 9999 (n + 6) = none := e6
      rw [e6] at k
      have hgU : GDr (uGoes d (rnp d * 24) (kV t (n + 5) * 8 + kV t (n + 4))) := by
        obtain ⟨g0, g1, g2, g3, g4⟩ := hg
        refine ⟨g0, fun p hp => ⟨(g1 p hp).1, (g1 p hp).2.1, (g1 p hp).2.2.1, ?_⟩, g2, fun i cc hc => ?_, g4⟩
        · have hp : p < rnp d := hp
          show uo (rgoes d) (rnp d * 24) (some (kV t (n + 5) * 8 + kV t (n + 4))) (p * 24) ≠ none
          rw [uo_n (by omega)]; exact (g1 p hp).2.2.2
        · have hc : uo (rgoes d) (rnp d * 24) (some (kV t (n + 5) * 8 + kV t (n + 4))) i = some cc := hc
          by_cases q : i = rnp d * 24
          · subst q; rw [uo_s] at hc; cases hc; exact c64
          · rw [uo_n q] at hc; exact g3 i cc hc
      have hD6 := (hD5.fa a6).ld (i := 187 + 2 * rnp d + 1) (v := nI (kV t (n + 7))) hgU (by omega) (fun p hp => by have hp : p < rnp d := hp; exact ⟨by omega, by omega⟩) (fun b hb => by have hb : b < rnb d := hb; omega)
      have e182 : (si M6 c_mo_lands (187 + 2 * rnp d + 1) (nI (kV t (n + 7)))).1 c_mo_lands 182 = nI (rnp d) := hD6.1.2.2.1
      have hDe := hD6.uNp (w := kW t (n + 1)) (k := kK t (n + 2) - 12) (v := kV t (n + 7)) (by rw [si_of (by show 187 + 2 * rnp d ≠ 187 + 2 * rnp d + 1; omega), (a6.1 c_mo_lands (by decide)).1]; exact e5k) si_at
      show w_Mo_takeSign 59 (si (si M6 c_mo_lands (187 + 2 * rnp d + 1) (nI (kV t (n + 7)))) c_mo_lands 182 ((si M6 c_mo_lands (187 + 2 * rnp d + 1) (nI (kV t (n + 7)))).1 c_mo_lands 182 + 1)) Q
      rw [e182, nI_1]
      exact m_end (n := n + 8) ((h6.fr (M' := si M6 c_mo_lands (187 + 2 * rnp d + 1) (nI (kV t (n + 7)))) (fr2_si (L := [c_mo_lands]) (by decide)) (by decide)).fr (fr2_si (L := [c_mo_lands]) (by decide)) (by decide)) hDe ((hN5.fa a6).mv rfl rfl rfl) (by omega) (((hP5.fa a6).ld (by omega)).ld (by decide)) k
    · rw [if_neg ck] at k ⊢
      refine ⟨fun y => absurd y (by decide), fun _ => m_wrong (a := 1) h2 (by decide) (by decide) (fun fk M3 a3 h3 => m_endF fk h3 (hP2.fa a3) k)⟩
  · rw [if_pos c] at k
    exact m_wrong (a := 5) hA (by decide) (by decide) (fun fk M1 a1 h1 => m_endF fk h1 (MPF.rfl.fa a1) k)
/-! laws -/
def MCo (fog : Bool) (f : Nat) (c : List Int32) (M : Mem) : Prop := M.1 c_mo Mo_codes = nI (f + c.length) ∧ ∀ j, j < c.length → M.1 c_mo_op (1100 + (f + j)) = eop (c.getD j 0) ∧ (-5 < c.getD j 0 → M.1 c_mo_arg (1100 + (f + j)) = earg fog (c.getD j 0))
def FG (f : Nat) (M M' : Mem) : Prop := Fr2 [c_mo, c_mo_op, c_mo_arg] M M' ∧ (∀ j, j ≠ Mo_at → j ≠ Mo_fault → j ≠ Mo_codes → M'.1 c_mo j = M.1 c_mo j) ∧ ∀ i, i < 1100 + f → M'.1 c_mo_op i = M.1 c_mo_op i ∧ M'.1 c_mo_arg i = M.1 c_mo_arg i
theorem FG.rfl {f : Nat} {M : Mem} : FG f M M := ⟨Fr2.rfl, fun _ _ _ _ => Eq.refl _, fun _ _ => ⟨Eq.refl _, Eq.refl _⟩⟩
theorem FG.trans {f : Nat} {M M1 M2 : Mem} (h : FG f M M1) (h2 : FG f M1 M2) : FG f M M2 := ⟨h.1.trans h2.1, fun j a b c => (h2.2.1 j a b c).trans (h.2.1 j a b c), fun i hi => ⟨(h2.2.2 i hi).1.trans (h.2.2 i hi).1, (h2.2.2 i hi).2.trans (h.2.2 i hi).2⟩⟩
theorem FG.fa {f : Nat} {M M1 M2 : Mem} (h : FG f M M1) (h2 : FA M1 M2) : FG f M M2 := h.trans ⟨h2.1.mono (by decide), fun j a b _ => h2.2 j a b, fun i _ => by rw [(h2.1 c_mo_op (by decide)).1, (h2.1 c_mo_arg (by decide)).1]; exact ⟨Eq.refl _, Eq.refl _⟩⟩
theorem MCo.fa {fog : Bool} {f : Nat} {c : List Int32} {M M' : Mem} (h : MCo fog f c M) (hF : FA M M') : MCo fog f c M' := by
  unfold MCo
  rw [hF.2 _ (by decide) (by decide), (hF.1 c_mo_op (by decide)).1, (hF.1 c_mo_arg (by decide)).1]; exact h
theorem m_emit {t : List Nat} {N n f : Nat} {fog : Bool} {c : List Int32} {x a b : Int32} {M : Mem} {Q : Mem → Prop} (hA : MA t N n M) (hC : MCo fog f c M) (hl : f + c.length < 1100) (ha : a = eop x) (hb : -5 < x → b = earg fog x) (k : ∀ M', FG f M M' → MA t N n M' → MCo fog f (c ++ [x]) M' → Q M') : w_Mo_emit a b M Q := by
  unfold w_Mo_emit
  have ei : 1100 + nI (f + c.length) = nI (1100 + (f + c.length)) := by simp only [fa_lit, nI_add]
  rw [hC.1, ei, nI_clamp (by omega), nI_1]
  have v := vp_in_nI (n := 1100 + (f + c.length)) (N := 2200) (by omega) (by decide)
  refine ⟨v, v, k _ ⟨((fr2_si (by decide)).trans (fr2_si (by decide))).trans (fr2_si (by decide)), fun j a b c => ?_, fun i hi => ?_⟩ ?_ ⟨?_, fun j hj => ?_⟩⟩
  · rw [si_of c]; rfl
  · rw [si_ne _ _ _ (by decide), si_ne _ _ _ (by decide), si_of (by omega), si_ne _ _ _ (by decide), si_of (by omega), si_ne _ _ _ (by decide)]; exact ⟨rfl, rfl⟩
  · exact (hA.fr (M' := si (si M c_mo_op (1100 + (f + c.length)) a) c_mo_arg (1100 + (f + c.length)) b) ((fr2_si (by decide)).trans (fr2_si (by decide)) : Fr2 [c_mo_op, c_mo_arg] M _) (by decide)).sl (by decide) (by decide)
  · rw [si_at, List.length_append]; rfl
  · show (si M c_mo_op (1100 + (f + c.length)) a).1 c_mo_op (1100 + (f + j)) = eop ((c ++ [x]).getD j 0) ∧ (-5 < (c ++ [x]).getD j 0 → (si M c_mo_arg (1100 + (f + c.length)) b).1 c_mo_arg (1100 + (f + j)) = earg fog ((c ++ [x]).getD j 0))
    rw [List.length_append] at hj
    have hj : j < c.length + 1 := hj
    by_cases e : j = c.length
    · subst e
      rw [si_at, si_at, List.getD_eq_getElem?_getD, List.getElem?_append_right (Nat.le_refl _), Nat.sub_self]
      exact ⟨ha, hb⟩
    · rw [si_of (by omega), si_of (by omega), List.getD_eq_getElem?_getD, List.getElem?_append_left (by omega), ← List.getD_eq_getElem?_getD]
      exact hC.2 j (by omega)
theorem m_emitF {f cl : Nat} {a b : Int32} {M : Mem} {Q : Mem → Prop} (hc : M.1 c_mo Mo_codes = nI cl) (hl : cl < 1100) (hf : f ≤ cl) (k : ∀ M', FG f M M' → M'.1 c_mo Mo_fault = M.1 c_mo Mo_fault → M'.1 c_mo Mo_codes = nI (cl + 1) → Q M') : w_Mo_emit a b M Q := by
  unfold w_Mo_emit
  have ei : 1100 + nI cl = nI (1100 + cl) := by simp only [fa_lit, nI_add]
  rw [hc, ei, nI_clamp (by omega), nI_1]
  have v := vp_in_nI (n := 1100 + cl) (N := 2200) (by omega) (by decide)
  refine ⟨v, v, k _ ⟨((fr2_si (by decide)).trans (fr2_si (by decide))).trans (fr2_si (by decide)), fun j a b c => ?_, fun i hi => ?_⟩ ?_ si_at⟩
  · rw [si_of c]; rfl
  · rw [si_ne _ _ _ (by decide), si_ne _ _ _ (by decide), si_of (by omega), si_ne _ _ _ (by decide), si_of (by omega), si_ne _ _ _ (by decide)]; exact ⟨rfl, rfl⟩
  · rw [si_of (by decide)]; rfl
def MLR (t : List Nat) (N : Nat) (fog : Bool) (f n : Nat) (c : List Int32) (R : RE) (M : Mem) (Q : Mem → Prop) : Prop := match R with
  | .inl e => ∀ M' cl, FG f M M' → fok e → M'.1 c_mo Mo_fault = nI e → M'.1 c_mo Mo_codes = nI cl → f ≤ cl → cl + n ≤ N + (f + c.length) → Q M'
  | .inr x => ∀ M', FG f M M' → MA t N x.1 M' → MCo fog f x.2 M' → Q M'
