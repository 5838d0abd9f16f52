/-! the draft in the reference's cells -/
abbrev MPc : List Nat := [c_mo, c_mo_lands, c_mo_readCalls, c_mo_goes, c_mo_op, c_mo_arg, c_mo_names, c_mo_nameOf]
def MPF (M M' : Mem) : Prop := Fr2 MPc M M' ∧ (∀ i, i < 180 → M'.1 c_mo_lands i = M.1 c_mo_lands i) ∧ (∀ i, i < 1100 → M'.1 c_mo_op i = M.1 c_mo_op i ∧ M'.1 c_mo_arg i = M.1 c_mo_arg i) ∧ M'.1 c_mo Mo_undos = M.1 c_mo Mo_undos ∧ M'.1 c_mo Mo_taped = M.1 c_mo Mo_taped
theorem MPF.rfl {M : Mem} : MPF M M := ⟨Fr2.rfl, fun _ _ => Eq.refl _, fun _ _ => ⟨Eq.refl _, Eq.refl _⟩, Eq.refl _, Eq.refl _⟩
theorem MPF.trans {M M1 M2 : Mem} (h : MPF M M1) (h2 : MPF M1 M2) : MPF M M2 := ⟨h.1.trans h2.1, fun i hi => (h2.2.1 i hi).trans (h.2.1 i hi), fun i hi => ⟨(h2.2.2.1 i hi).1.trans (h.2.2.1 i hi).1, (h2.2.2.1 i hi).2.trans (h.2.2.1 i hi).2⟩, h2.2.2.2.1.trans h.2.2.2.1, h2.2.2.2.2.trans h.2.2.2.2⟩
theorem MPF.fa {M M1 M2 : Mem} (h : MPF M M1) (h2 : FA M1 M2) : MPF M M2 := h.trans ⟨h2.1.mono (by decide), fun i _ => by rw [(h2.1 c_mo_lands (by decide)).1], fun i _ => by rw [(h2.1 c_mo_op (by decide)).1, (h2.1 c_mo_arg (by decide)).1]; exact ⟨Eq.refl _, Eq.refl _⟩, h2.2 _ (by decide) (by decide), h2.2 _ (by decide) (by decide)⟩
theorem MPF.mo {M M1 : Mem} {j : Nat} {v : Int32} (h : MPF M M1) (h1 : j ≠ Mo_undos) (h2 : j ≠ Mo_taped) : MPF M (si M1 c_mo j v) := h.trans ⟨fr2_si (by decide), fun i _ => Eq.refl _, fun i _ => ⟨Eq.refl _, Eq.refl _⟩, si_of (Ne.symm h1), si_of (Ne.symm h2)⟩
theorem MPF.ld {M M1 : Mem} {j : Nat} {v : Int32} (h : MPF M M1) (h1 : 180 ≤ j) : MPF M (si M1 c_mo_lands j v) := h.trans ⟨fr2_si (by decide), fun i _ => si_of (by omega), fun i _ => ⟨Eq.refl _, Eq.refl _⟩, Eq.refl _, Eq.refl _⟩
theorem MPF.ot {M M1 M2 : Mem} {L : List Nat} (h : MPF M M1) (hF : Fr2 L M1 M2) (hd : ∀ k ∈ [c_mo, c_mo_lands, c_mo_op, c_mo_arg], k ∉ L) (hm : ∀ k ∈ L, k ∈ MPc) : MPF M M2 := h.trans ⟨hF.mono hm, fun i _ => by rw [(hF c_mo_lands (hd _ (by decide))).1], fun i _ => by rw [(hF c_mo_op (hd _ (by decide))).1, (hF c_mo_arg (hd _ (by decide))).1]; exact ⟨Eq.refl _, Eq.refl _⟩, by rw [(hF c_mo (hd _ (by decide))).1], by rw [(hF c_mo (hd _ (by decide))).1]⟩
def MLw (fog : Bool) (i : Nat) (o : Option (List Int32)) (cl : Nat) (M : Mem) : Prop := match o with
  | none => M.1 c_mo_lands i = -1
  | some c => ∃ f, M.1 c_mo_lands i = nI f ∧ f + c.length < cl ∧ (∀ j, j < c.length → M.1 c_mo_op (1100 + (f + j)) = eop (c.getD j 0) ∧ (-5 < c.getD j 0 → M.1 c_mo_arg (1100 + (f + j)) = earg fog (c.getD j 0))) ∧ M.1 c_mo_op (1100 + (f + c.length)) = 0
theorem MLw.mv {fog : Bool} {i : Nat} {o : Option (List Int32)} {cl cl' : Nat} {M M' : Mem} (h : MLw fog i o cl M) (e0 : M'.1 c_mo_lands i = M.1 c_mo_lands i) (e1 : ∀ j, j < cl → M'.1 c_mo_op (1100 + j) = M.1 c_mo_op (1100 + j) ∧ M'.1 c_mo_arg (1100 + j) = M.1 c_mo_arg (1100 + j)) (hc : cl ≤ cl') : MLw fog i o cl' M' := by
  cases o with
  | none => show M'.1 c_mo_lands i = -1; rw [e0]; exact h
  | some c =>
    obtain ⟨f, h1, h2, h3, h4⟩ := h
    refine ⟨f, by rw [e0]; exact h1, by omega, fun j hj => ?_, ?_⟩
    · rw [(e1 (f + j) (by omega)).1, (e1 (f + j) (by omega)).2]; exact h3 j hj
    · rw [(e1 (f + c.length) (by omega)).1]; exact h4
def MLs (d : Dr) (n : Nat) (M : Mem) : Prop := ∃ cl, M.1 c_mo Mo_codes = nI cl ∧ cl ≤ n ∧ MLw false 185 (rowe d) cl M ∧ MLw true 186 (rfog d) cl M
def MD0 (d : Dr) (n : Nat) (M : Mem) : Prop :=
  (M.1 c_mo_lands 180 = nI (rwide d) ∧ M.1 c_mo_lands 181 = nI (rdeep d) ∧ M.1 c_mo_lands 182 = nI (rnp d) ∧ M.1 c_mo_lands 183 = nI (rnb d) ∧ M.1 c_mo_lands 184 = nI (rhear d)) ∧
  (M.1 c_mo Mo_goesMany = nI (rgo d) ∧ M.1 c_mo Mo_callsMany = nI (rca d) ∧ M.1 c_mo Mo_hasHear = b2i (rht d)) ∧
  (∀ p, p < rnp d → M.1 c_mo_lands (187 + 2 * p) = nI (rkind d p) ∧ M.1 c_mo_lands (187 + 2 * p + 1) = nI (rpurse d p)) ∧
  (∀ b, b < rnb d → M.1 c_mo_lands (343 + b) = nI (rbush d b)) ∧
  (∀ i, i < 144 → M.1 c_mo_goes i = oI (rgoes d i)) ∧ (∀ i, i < 120 → M.1 c_mo_readCalls i = nI (rtimes d i)) ∧ MLs d n M
def MDr (d : Dr) (n : Nat) (M : Mem) : Prop := MD0 d n M ∧ MN d M
abbrev MDc : List Nat := [c_mo_lands, c_mo_readCalls, c_mo_goes, c_mo_op, c_mo_arg]
theorem MD0.mv {d : Dr} {n : Nat} {M M' : Mem} (h : MD0 d n M) (e : ∀ k ∈ MDc, M'.1 k = M.1 k) (e2 : ∀ j ∈ [Mo_goesMany, Mo_callsMany, Mo_hasHear, Mo_codes], M'.1 c_mo j = M.1 c_mo j) : MD0 d n M' := by
  obtain ⟨h1, h2, h3, h4, h5, h6, cl, h7, h8, h9, h10⟩ := h
  refine ⟨?_, ?_, ?_, ?_, ?_, ?_, cl, ?_, h8, h9.mv (by rw [e c_mo_lands (by decide)]) (fun j _ => by rw [e c_mo_op (by decide), e c_mo_arg (by decide)]; exact ⟨rfl, rfl⟩) (Nat.le_refl _), h10.mv (by rw [e c_mo_lands (by decide)]) (fun j _ => by rw [e c_mo_op (by decide), e c_mo_arg (by decide)]; exact ⟨rfl, rfl⟩) (Nat.le_refl _)⟩
  · rw [e c_mo_lands (by decide)]; exact h1
  · rw [e2 _ (by decide), e2 _ (by decide), e2 _ (by decide)]; exact h2
  · rw [e c_mo_lands (by decide)]; exact h3
  · rw [e c_mo_lands (by decide)]; exact h4
  · rw [e c_mo_goes (by decide)]; exact h5
  · rw [e c_mo_readCalls (by decide)]; exact h6
  · rw [e2 _ (by decide)]; exact h7
theorem MD0.fa {d : Dr} {n : Nat} {M M' : Mem} (h : MD0 d n M) (hF : FA M M') : MD0 d n M' := h.mv (fun k hk => by
    have : ∀ k ∈ MDc, k ∉ [c_mo] := by decide
    exact (hF.1 k (this k hk)).1) (fun j hj => by
    have : ∀ j ∈ [Mo_goesMany, Mo_callsMany, Mo_hasHear, Mo_codes], j ≠ Mo_at ∧ j ≠ Mo_fault := by decide
    exact hF.2 j (this j hj).1 (this j hj).2)
theorem MN.mv {d : Dr} {M M' : Mem} (h : MN d M) (e0 : M'.1 c_mo Mo_namesMany = M.1 c_mo Mo_namesMany) (e1 : M'.1 c_mo_nameOf = M.1 c_mo_nameOf) (e2 : M'.2 c_mo_names = M.2 c_mo_names) : MN d M' := by
  unfold MN; rw [e0, e1, e2]; exact h
theorem MN.fa {d : Dr} {M M' : Mem} (h : MN d M) (hF : FA M M') : MN d M' := h.mv (hF.2 _ (by decide) (by decide)) (hF.1 _ (by decide)).1 (hF.1 _ (by decide)).2
theorem MDr.fa {d : Dr} {n : Nat} {M M' : Mem} (h : MDr d n M) (hF : FA M M') : MDr d n M' := ⟨h.1.fa hF, h.2.fa hF⟩
theorem MD0.up {d : Dr} {n n' : Nat} {M : Mem} (h : MD0 d n M) (hn : n ≤ n') : MD0 d n' M := by
  obtain ⟨h1, h2, h3, h4, h5, h6, cl, h7, h8, h9⟩ := h
  exact ⟨h1, h2, h3, h4, h5, h6, cl, h7, by omega, h9⟩
theorem MD0.uGo {d : Dr} {n : Nat} {M : Mem} (h : MD0 d n M) : MD0 (uGo d) n (si M c_mo Mo_goesMany (nI (rgo d + 1))) := by
  obtain ⟨h1, ⟨b1, b2, b3⟩, h3, h4, h5, h6, cl, h7, h8⟩ := h
  refine ⟨h1, ⟨si_at, ?_, ?_⟩, h3, h4, h5, h6, cl, ?_, h8⟩
  · rw [si_of (by decide)]; exact b2
  · rw [si_of (by decide)]; exact b3
  · rw [si_of (by decide)]; exact h7
theorem MD0.uCa {d : Dr} {n : Nat} {M : Mem} (h : MD0 d n M) : MD0 (uCa d) n (si M c_mo Mo_callsMany (nI (rca d + 1))) := by
  obtain ⟨h1, ⟨b1, b2, b3⟩, h3, h4, h5, h6, cl, h7, h8⟩ := h
  refine ⟨h1, ⟨?_, si_at, ?_⟩, h3, h4, h5, h6, cl, ?_, h8⟩
  · rw [si_of (by decide)]; exact b1
  · rw [si_of (by decide)]; exact b3
  · rw [si_of (by decide)]; exact h7
theorem MD0.uHt {d : Dr} {n : Nat} {M : Mem} (h : MD0 d n M) : MD0 (uHt d) n (si M c_mo Mo_hasHear 1) := by
  obtain ⟨h1, ⟨b1, b2, b3⟩, h3, h4, h5, h6, cl, h7, h8⟩ := h
  refine ⟨h1, ⟨?_, ?_, si_at⟩, h3, h4, h5, h6, cl, ?_, h8⟩
  · rw [si_of (by decide)]; exact b1
  · rw [si_of (by decide)]; exact b2
  · rw [si_of (by decide)]; exact h7
theorem MD0.uGoes {d : Dr} {n i c : Nat} {M : Mem} (h : MD0 d n M) : MD0 (uGoes d i c) n (si M c_mo_goes i (nI c)) := by
  obtain ⟨h1, h2, h3, h4, h5, h6⟩ := h
  refine ⟨h1, h2, h3, h4, fun j hj => ?_, h6⟩
  show _ = oI (uo (rgoes d) i (some c) j)
  by_cases q : j = i
  · subst q; rw [si_at, uo_s]; rfl
  · rw [si_of q, uo_n q]; exact h5 j hj
theorem MD0.uTimes {d : Dr} {n i v : Nat} {M : Mem} (h : MD0 d n M) : MD0 (uTimes d i v) n (si M c_mo_readCalls i (nI v)) := by
  obtain ⟨h1, h2, h3, h4, h5, h6, h7⟩ := h
  refine ⟨h1, h2, h3, h4, h5, fun j hj => ?_, h7⟩
  show _ = nI (un (rtimes d) i v j)
  unfold un
  by_cases q : j = i
  · subst q; rw [si_at, if_pos rfl]
  · rw [si_of q, if_neg q]; exact h6 j hj
/-- a place in the lands behind what is known -/
theorem MD0.ld {d : Dr} {n i : Nat} {v : Int32} {M : Mem} (h : MD0 d n M) (hg : GDr d) (h1 : 187 ≤ i) (h2 : ∀ p, p < rnp d → i ≠ 187 + 2 * p ∧ i ≠ 187 + 2 * p + 1) (h3 : ∀ b, b < rnb d → i ≠ 343 + b) : MD0 d n (si M c_mo_lands i v) := by
  obtain ⟨⟨b1, b2, b3, b4, b5⟩, a2, a3, a4, a5, a6, cl, a7, a8, a9, a10⟩ := h
  refine ⟨⟨?_, ?_, ?_, ?_, ?_⟩, a2, fun p hp => ?_, fun b hb => ?_, a5, a6, cl, a7, a8, a9.mv (si_of (by omega)) (fun j _ => ⟨rfl, rfl⟩) (Nat.le_refl _), a10.mv (si_of (by omega)) (fun j _ => ⟨rfl, rfl⟩) (Nat.le_refl _)⟩
  · rw [si_of (by omega)]; exact b1
  · rw [si_of (by omega)]; exact b2
  · rw [si_of (by omega)]; exact b3
  · rw [si_of (by omega)]; exact b4
  · rw [si_of (by omega)]; exact b5
  · rw [si_of (Ne.symm (h2 p hp).1), si_of (Ne.symm (h2 p hp).2)]; exact a3 p hp
  · rw [si_of (Ne.symm (h3 b hb))]; exact a4 b hb
theorem MD0.uHear {d : Dr} {n v : Nat} {M : Mem} (h : MD0 d n M) : MD0 (uHear d v) n (si M c_mo_lands 184 (nI v)) := by
  obtain ⟨⟨b1, b2, b3, b4, b5⟩, a2, a3, a4, a5, a6, cl, a7, a8, a9, a10⟩ := h
  refine ⟨⟨?_, ?_, ?_, ?_, si_at⟩, a2, fun p hp => ?_, fun b hb => ?_, a5, a6, cl, a7, a8, a9.mv (si_of (by omega)) (fun j _ => ⟨rfl, rfl⟩) (Nat.le_refl _), a10.mv (si_of (by omega)) (fun j _ => ⟨rfl, rfl⟩) (Nat.le_refl _)⟩
  · rw [si_of (by omega)]; exact b1
  · rw [si_of (by omega)]; exact b2
  · rw [si_of (by omega)]; exact b3
  · rw [si_of (by omega)]; exact b4
  · rw [si_of (by omega), si_of (by omega)]; exact a3 p hp
  · rw [si_of (by omega)]; exact a4 b hb
theorem MD0.uNp {d : Dr} {n k v : Nat} {w : List Nat} {M : Mem} (h : MD0 d n M) (h1 : M.1 c_mo_lands (187 + 2 * rnp d) = nI k) (h2 : M.1 c_mo_lands (187 + 2 * rnp d + 1) = nI v) : MD0 (uNp d w k v) n (si M c_mo_lands 182 (nI (rnp d + 1))) := by
  obtain ⟨⟨b1, b2, b3, b4, b5⟩, a2, a3, a4, a5, a6, cl, a7, a8, a9, a10⟩ := h
  refine ⟨⟨?_, ?_, si_at, ?_, ?_⟩, a2, fun p hp => ?_, fun b hb => ?_, a5, a6, cl, a7, a8, a9.mv (si_of (by omega)) (fun j _ => ⟨rfl, rfl⟩) (Nat.le_refl _), a10.mv (si_of (by omega)) (fun j _ => ⟨rfl, rfl⟩) (Nat.le_refl _)⟩
  · rw [si_of (by omega)]; exact b1
  · rw [si_of (by omega)]; exact b2
  · rw [si_of (by omega)]; exact b4
  · rw [si_of (by omega)]; exact b5
  · have hp : p < rnp d + 1 := hp
    show _ = nI (uo (rkind d) (rnp d) k p) ∧ _ = nI (uo (rpurse d) (rnp d) v p)
    rw [si_of (by omega), si_of (by omega)]
    by_cases q : p = rnp d
    · subst q; rw [uo_s, uo_s]; exact ⟨h1, h2⟩
    · rw [uo_n q, uo_n q]; exact a3 p (by omega)
  · rw [si_of (by omega)]; exact a4 b hb
theorem MD0.uNb {d : Dr} {n c : Nat} {w : List Nat} {M : Mem} (h : MD0 d n M) (h1 : M.1 c_mo_lands (343 + rnb d) = nI c) : MD0 (uNb d w c) n (si M c_mo_lands 183 (nI (rnb d + 1))) := by
  obtain ⟨⟨b1, b2, b3, b4, b5⟩, a2, a3, a4, a5, a6, cl, a7, a8, a9, a10⟩ := h
  refine ⟨⟨?_, ?_, ?_, si_at, ?_⟩, a2, fun p hp => ?_, fun b hb => ?_, a5, a6, cl, a7, a8, a9.mv (si_of (by omega)) (fun j _ => ⟨rfl, rfl⟩) (Nat.le_refl _), a10.mv (si_of (by omega)) (fun j _ => ⟨rfl, rfl⟩) (Nat.le_refl _)⟩
  · rw [si_of (by omega)]; exact b1
  · rw [si_of (by omega)]; exact b2
  · rw [si_of (by omega)]; exact b3
  · rw [si_of (by omega)]; exact b5
  · rw [si_of (by omega), si_of (by omega)]; exact a3 p hp
  · have hb : b < rnb d + 1 := hb
    show _ = nI (uo (rbush d) (rnb d) c b)
    rw [si_of (by omega)]
    by_cases q : b = rnb d
    · subst q; rw [uo_s]; exact h1
    · rw [uo_n q]; exact a4 b (by omega)
/-! checks of two and three tokens -/
def cAft (t : List Nat) (q lo hi n : Nat) : Option Nat := match cKw t q n with
  | some f => some f
  | none => cNum t lo hi (n + 1)
theorem chk_aft {α : Type} {t : List Nat} {q lo hi n : Nat} {r : Nat ⊕ α} : chk (cKw t q n) (chk (cNum t lo hi (n + 1)) r) = chk (cAft t q lo hi n) r := by
  unfold cAft
  cases cKw t q n <;> rfl
def cCell (t : List Nat) (a b n : Nat) : Option Nat := match cAft t 2 0 a n with
  | some f => some f
  | none => cNum t 0 b (n + 2)
theorem chk_cell {α : Type} {t : List Nat} {a b n : Nat} {r : Nat ⊕ α} : chk (cKw t 2 n) (chk (cNum t 0 a (n + 1)) (chk (cNum t 0 b (n + 2)) r)) = chk (cCell t a b n) r := by
  rw [chk_aft]
  unfold cCell
  cases cAft t 2 0 a n <;> rfl
theorem m_takeAfter {t : List Nat} {N n q lo hi : Nat} {M : Mem} {Q : Int32 → Mem → Prop} (hA : MA t N n M) (hq : q < 24) (hlo : lo < 2 ^ 31) (hhi : hi < 2 ^ 31) (kf : ∀ f, cAft t q lo hi n = some f → fok f → ∀ r M', FA M M' → M'.1 c_mo Mo_fault = nI f → Q r M') (ko : cAft t q lo hi n = none → kS t (n + 1) = 2 → kV t (n + 1) ≤ hi → ∀ M', FA M M' → MA t N (n + 2) M' → Q (nI (kV t (n + 1))) M') : w_Mo_takeAfter (nI q) (nI lo) (nI hi) M Q := by
  unfold w_Mo_takeAfter
  unfold cAft at kf ko
  refine m_takeWord hA hq (fun f e fk M1 a1 h1 => ?_) (fun e M1 a1 h1 => ?_)
  · refine m_takeNumberF fk h1 ?_
    rw [e] at kf; exact kf f rfl fk 0 M1 a1 h1
  · rw [e] at kf ko
    exact m_takeNumber h1 hlo hhi (fun f e2 fk M2 a2 h2 => kf f e2 fk 0 M2 (a1.trans a2) h2) (fun e2 M2 a2 h2 => ko e2 (cNum_n e2).1 (cNum_n e2).2.2 M2 (a1.trans a2) h2)
theorem m_takeAfterF {q lo hi : Int32} {f : Nat} {M : Mem} {Q : Int32 → Mem → Prop} (fk : fok f) (hf : M.1 c_mo Mo_fault = nI f) (k : ∀ r M', FA M M' → M'.1 c_mo Mo_fault = nI f → Q r M') : w_Mo_takeAfter q lo hi M Q := by
  unfold w_Mo_takeAfter
  exact m_takeWordF (nfz fk hf) (fun M1 a1 h1 => m_takeNumberF fk (h1.trans hf) (k 0 M1 a1 (h1.trans hf)))
theorem m_takeCell {t : List Nat} {N n w h : Nat} {M : Mem} {Q : Int32 → Mem → Prop} (hA : MA t N n M) (hw : M.1 c_mo_lands 180 = nI w) (hh : M.1 c_mo_lands 181 = nI h) (w2 : 2 ≤ w ∧ w ≤ 8) (h2 : 2 ≤ h ∧ h ≤ 8) (kf : ∀ f, cCell t (w - 1) (h - 1) n = some f → fok f → ∀ r M', FA M M' → M'.1 c_mo Mo_fault = nI f → Q r M') (ko : cCell t (w - 1) (h - 1) n = none → kV t (n + 2) * 8 + kV t (n + 1) < 64 → ∀ M', FA M M' → MA t N (n + 3) M' → Q (nI (kV t (n + 2) * 8 + kV t (n + 1))) M') : w_Mo_takeCell M Q := by
  unfold w_Mo_takeCell
  unfold cCell at kf ko
  have e1 : M.1 c_mo_lands (Int32.toNatClampNeg 180) - 1 = nI (w - 1) := by
    rw [show Int32.toNatClampNeg 180 = 180 from rfl, hw]; exact pk_sub (b := 1) (by omega)
  rw [e1]
  refine ⟨vp_in_nI (n := 180) (by decide) (by decide), m_takeAfter (q := 2) (lo := 0) hA (by decide) (by decide) (by omega) (fun f e fk r M1 a1 h1 => ⟨vp_in_nI (n := 181) (by decide) (by decide), ?_⟩) (fun e s1 v1 M1 a1 h1 => ⟨vp_in_nI (n := 181) (by decide) (by decide), ?_⟩)⟩
  · rw [e] at kf
    exact m_takeNumberF fk h1 (kf f rfl fk _ M1 a1 h1)
  · rw [e] at kf ko
    have e2 : M1.1 c_mo_lands (Int32.toNatClampNeg 181) - 1 = nI (h - 1) := by
      rw [show Int32.toNatClampNeg 181 = 181 from rfl, (a1.1 c_mo_lands (by decide)).1, hh]; exact pk_sub (b := 1) (by omega)
    rw [e2]
    refine m_takeNumber (lo := 0) h1 (by decide) (by omega) (fun f e2 fk M2 a2 h2 => kf f e2 fk _ M2 (a1.trans a2) h2) (fun e2 M2 a2 h2 => ?_)
    have n2 := cNum_n e2
    have ec : 8 * nI (kV t (n + 2)) + nI (kV t (n + 1)) = nI (kV t (n + 2) * 8 + kV t (n + 1)) := by rw [Nat.mul_comm]; simp only [fa_lit, pk_mul, nI_add]
    rw [ec]
    exact ko e2 (by omega) M2 (a1.trans a2) h2
theorem m_takeCellF {f : Nat} {M : Mem} {Q : Int32 → Mem → Prop} (fk : fok f) (hf : M.1 c_mo Mo_fault = nI f) (k : ∀ r M', FA M M' → M'.1 c_mo Mo_fault = nI f → Q r M') : w_Mo_takeCell M Q := by
  unfold w_Mo_takeCell
  exact ⟨vp_in_nI (n := 180) (by decide) (by decide), m_takeAfterF fk hf (fun r M1 a1 h1 => ⟨vp_in_nI (n := 181) (by decide) (by decide), m_takeNumberF fk h1 (k _ M1 a1 h1)⟩)⟩
