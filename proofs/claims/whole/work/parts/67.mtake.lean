/-! the reference's reader: small steps -/
def MA (t : List Nat) (N n : Nat) (M : Mem) : Prop := MTk t N M ∧ MK M ∧ (t.length ≤ 1000 ∧ ∀ i, i < t.length → t.getD i 0 < 127) ∧ M.1 c_mo Mo_at = nI n ∧ n ≤ N ∧ M.1 c_mo Mo_fault = 0
def FA (M M' : Mem) : Prop := Fr2 [c_mo] M M' ∧ ∀ j, j ≠ Mo_at → j ≠ Mo_fault → M'.1 c_mo j = M.1 c_mo j
theorem FA.rfl {M : Mem} : FA M M := ⟨Fr2.rfl, fun _ _ _ => Eq.refl _⟩
theorem FA.trans {M M1 M2 : Mem} (h : FA M M1) (h2 : FA M1 M2) : FA M M2 := ⟨h.1.trans h2.1, fun j a b => (h2.2 j a b).trans (h.2 j a b)⟩
theorem FA.at {M : Mem} {v : Int32} : FA M (si M c_mo Mo_at v) := ⟨fr2_si (by decide), fun j a _ => si_of a⟩
theorem FA.ft {M : Mem} {v : Int32} : FA M (si M c_mo Mo_fault v) := ⟨fr2_si (by decide), fun j _ b => si_of b⟩
/-- the cells that the tokens and the words lie in -/
abbrev TKc : List Nat := [c_mo_sort, c_mo_place, c_mo_value, c_mo_words, c_mo_factWords]
theorem MA.mv {t : List Nat} {N n n' : Nat} {M M' : Mem} (h : MA t N n M) (e : ∀ k ∈ TKc, M'.1 k = M.1 k ∧ M'.2 k = M.2 k) (h1 : M'.1 c_mo Mo_at = nI n') (h2 : n' ≤ N) (h3 : M'.1 c_mo Mo_fault = 0) : MA t N n' M' := by
  obtain ⟨⟨a1, a2, a3⟩, b, c, _, _, _⟩ := h
  refine ⟨⟨a1, a2, fun m hm => ?_⟩, ?_, c, h1, h2, h3⟩
  · unfold MTa; rw [(e c_mo_sort (by decide)).1, (e c_mo_place (by decide)).1, (e c_mo_value (by decide)).2]; exact a3 m hm
  · unfold MK; rw [(e c_mo_words (by decide)).2, (e c_mo_factWords (by decide)).1]; exact b
theorem MA.fr {t : List Nat} {N n : Nat} {M M' : Mem} {L : List Nat} (h : MA t N n M) (hF : Fr2 L M M') (hd : ∀ k ∈ c_mo :: TKc, k ∉ L) : MA t N n M' := h.mv (fun k hk => hF k (hd k (List.mem_cons_of_mem _ hk))) (by rw [(hF c_mo (hd _ (by decide))).1]; exact h.2.2.2.1) h.2.2.2.2.1 (by rw [(hF c_mo (hd _ (by decide))).1]; exact h.2.2.2.2.2)
/-- a slot of the reference other than these two -/
theorem MA.sl {t : List Nat} {N n j : Nat} {v : Int32} {M : Mem} (h : MA t N n M) (h1 : j ≠ Mo_at) (h2 : j ≠ Mo_fault) : MA t N n (si M c_mo j v) := h.mv (fun k hk => by
    have : k ≠ c_mo := by intro z; subst z; exact absurd hk (by decide)
    exact ⟨si_ne _ _ _ this, rfl⟩) (by rw [si_of (Ne.symm h1)]; exact h.2.2.2.1) h.2.2.2.2.1 (by rw [si_of (Ne.symm h2)]; exact h.2.2.2.2.2)
theorem MA.nx {t : List Nat} {N n n' : Nat} {v : Int32} {M : Mem} (h : MA t N n M) (h2 : n' ≤ N) (hv : v = nI n') : MA t N n' (si M c_mo Mo_at v) := h.mv (fun k hk => by
    have : k ≠ c_mo := by intro z; subst z; exact absurd hk (by decide)
    exact ⟨si_ne _ _ _ this, rfl⟩) (by rw [si_at]; exact hv) h2 (by rw [si_of (by decide)]; exact h.2.2.2.2.2)
theorem MA.ft {t : List Nat} {N n : Nat} {M : Mem} (h : MA t N n M) : M.1 c_mo Mo_fault = 0 := h.2.2.2.2.2
theorem MA.at {t : List Nat} {N n : Nat} {M : Mem} (h : MA t N n M) : M.1 c_mo Mo_at = nI n := h.2.2.2.1
theorem MA.N {t : List Nat} {N n : Nat} {M : Mem} (h : MA t N n M) : N ≤ 1000 := Nat.le_trans h.1.2.1.len h.2.2.1.1
theorem MA.n {t : List Nat} {N n : Nat} {M : Mem} (h : MA t N n M) : n ≤ 1000 := Nat.le_trans h.2.2.2.2.1 h.N
theorem MA.lt {t : List Nat} {N n : Nat} {M : Mem} (h : MA t N n M) (h0 : kS t n ≠ 0) : n + 1 ≤ N := by
  have h1 := h.2.2.2.2.1
  by_cases e : n = N
  · subst e; exact absurd h.1.1 h0
  · omega
theorem MA.tok {t : List Nat} {N n : Nat} {M : Mem} (h : MA t N n M) : MTa t n M := h.1.2.2 n h.2.2.2.2.1
theorem MA.chr {t : List Nat} {N n : Nat} {M : Mem} (h : MA t N n M) (h0 : kS t n ≠ 0) : kC t n < 127 := h.2.2.1.2 _ (kS_pos h0).1
theorem tS_le {t : List Nat} {i : Nat} : tS t i ≤ 4 := by
  unfold tS
  split
  · split
    · split <;> omega
    · split
      · split <;> omega
      · split <;> omega
  · omega
theorem kS_le {t : List Nat} {n : Nat} : kS t n ≤ 4 := tS_le
theorem MA.so {t : List Nat} {N n s : Nat} {M : Mem} (h : MA t N n M) (hs : s ≤ 4) : M.1 c_mo_sort n = nI s ↔ kS t n = s := by
  have := kS_le (t := t) (n := n)
  rw [h.tok.1, nI_eq (by omega) (by omega)]
theorem MA.v {t : List Nat} {N n : Nat} {M : Mem} (h : MA t N n M) : vp_in (nI n) 1002 := vp_in_nI (by have := h.n; omega) (by decide)
theorem if_b2i {P : Prop} [Decidable P] {b : Bool} (h : P ↔ b = true) : (if P then (1 : Int32) else 0) = b2i b := by
  by_cases c : P
  · rw [if_pos c, h.mp c]; rfl
  · rw [if_neg c]
    have : b = false := bf_n (fun y => c (h.mpr y))
    rw [this]; rfl
theorem m_isWord {t : List Nat} {N n q : Nat} {M : Mem} {Q : Bool → Mem → Prop} (hA : MA t N n M) (hq : q < 24) (k : Q (decide (kK t n = q)) M) : w_Mo_isWord (nI q) M Q := by
  have hn := hA.n
  unfold w_Mo_isWord
  rw [hA.ft, hA.at, nI_clamp (by omega)]
  refine ⟨fun z => absurd rfl z, fun _ => ⟨hA.v, fun z => ?_, fun z => ⟨hA.v, vp_in_nI hq (by decide), decide (kK t n = q), ?_, k⟩⟩⟩
  · have z : ¬ kS t n = 1 := fun y => z ((hA.so (s := 1) (by decide)).mpr y)
    rw [decide_eq_false (fun y => z (kK_lt (by omega)))] at k; exact k
  · have z : kS t n = 1 := (hA.so (s := 1) (by decide)).mp z
    rw [nI_clamp (by omega), hA.tok.2.2.1 z, hA.2.1.1 q hq]
    refine if_b2i ?_
    rw [lg_0, l37_iff (kW_ok z) (KW_ok hq), decide_eq_true_eq, kK_iff hq]
    exact ⟨fun y => ⟨z, y.symm⟩, fun y => y.2.symm⟩
theorem m_isWordF {q : Int32} {M : Mem} {Q : Bool → Mem → Prop} (hf : ¬ M.1 c_mo Mo_fault = 0) (k : Q false M) : w_Mo_isWord q M Q := ⟨fun _ => k, fun z => absurd z hf⟩
theorem m_isSign {t : List Nat} {N n c : Nat} {M : Mem} {Q : Bool → Mem → Prop} (hA : MA t N n M) (hc : c < 127) (k : Q (decide (kS t n = 3 ∧ kC t n = c)) M) : w_Mo_isSign (nI c) M Q := by
  have hn := hA.n
  unfold w_Mo_isSign
  rw [hA.ft, hA.at, nI_clamp (by omega)]
  refine ⟨fun z => absurd rfl z, fun _ => ⟨hA.v, fun z => ?_, fun z => ⟨hA.v, decide (kS t n = 3 ∧ kC t n = c), ?_, k⟩⟩⟩
  · have z : ¬ kS t n = 3 := fun y => z ((hA.so (s := 3) (by decide)).mpr y)
    rw [decide_eq_false (fun y => z y.1)] at k; exact k
  · have z : kS t n = 3 := (hA.so (s := 3) (by decide)).mp z
    have h7 := hA.chr (by rw [z]; decide)
    rw [hA.tok.2.2.2.2 z, nI_l (by omega)]
    refine if_b2i ?_
    rw [lg_0, lN_eq (by omega) (by omega), decide_eq_true_eq]
    exact ⟨fun y => ⟨z, y⟩, fun y => y.2⟩
theorem m_isSignF {q : Int32} {M : Mem} {Q : Bool → Mem → Prop} (hf : ¬ M.1 c_mo Mo_fault = 0) (k : Q false M) : w_Mo_isSign q M Q := ⟨fun _ => k, fun z => absurd z hf⟩
theorem m_wrong {t : List Nat} {N n a : Nat} {M : Mem} {Q : Mem → Prop} (hA : MA t N n M) (h1 : 1 ≤ a) (h5 : a ≤ 5) (k : fok (er t n a) → ∀ M', FA M M' → M'.1 c_mo Mo_fault = nI (er t n a) → Q M') : w_Mo_wrong (nI a) M Q := by
  have hn := hA.n
  unfold w_Mo_wrong
  rw [hA.ft, hA.at, nI_clamp (by omega), hA.tok.2.1]
  refine ⟨fun z => absurd rfl z, fun _ => ⟨hA.v, k (er_pos h1 h5 hA.2.2.1.1) _ FA.ft ?_⟩⟩
  rw [si_at]
  unfold er
  simp only [fa_lit, pk_mul, nI_add]
theorem m_wrongF {a : Int32} {M : Mem} {Q : Mem → Prop} (hf : ¬ M.1 c_mo Mo_fault = 0) (k : Q M) : w_Mo_wrong a M Q := ⟨fun _ => k, fun z => absurd z hf⟩
theorem m_hasWord {t : List Nat} {N n q : Nat} {M : Mem} {Q : Bool → Mem → Prop} (hA : MA t N n M) (hq : q < 24) (kf : kK t n ≠ q → ∀ M', FA M M' → MA t N n M' → Q false M') (ko : kK t n = q → ∀ M', FA M M' → MA t N (n + 1) M' → Q true M') : w_Mo_hasWord (nI q) M Q := by
  unfold w_Mo_hasWord
  refine m_isWord hA hq ?_
  rw [hA.at]
  by_cases c : kK t n = q
  · rw [decide_eq_true c]
    exact ko c _ FA.at (hA.nx (hA.lt (kK_ne0 c hq)) (nI_1 n))
  · rw [decide_eq_false c]
    exact kf c _ FA.at (hA.nx hA.2.2.2.2.1 (by rw [if_neg (by decide)]; exact Int32.add_zero _))
theorem m_hasSign {t : List Nat} {N n c : Nat} {M : Mem} {Q : Bool → Mem → Prop} (hA : MA t N n M) (hc : c < 127) (kf : ¬ (kS t n = 3 ∧ kC t n = c) → ∀ M', FA M M' → MA t N n M' → Q false M') (ko : kS t n = 3 ∧ kC t n = c → ∀ M', FA M M' → MA t N (n + 1) M' → Q true M') : w_Mo_hasSign (nI c) M Q := by
  unfold w_Mo_hasSign
  refine m_isSign hA hc ?_
  rw [hA.at]
  by_cases y : kS t n = 3 ∧ kC t n = c
  · rw [decide_eq_true y]
    exact ko y _ FA.at (hA.nx (hA.lt (by rw [y.1]; decide)) (nI_1 n))
  · rw [decide_eq_false y]
    exact kf y _ FA.at (hA.nx hA.2.2.2.2.1 (by rw [if_neg (by decide)]; exact Int32.add_zero _))
theorem m_hasSignF {q : Int32} {M : Mem} {Q : Bool → Mem → Prop} (hf : ¬ M.1 c_mo Mo_fault = 0) (k : ∀ M', FA M M' → M'.1 c_mo Mo_fault = M.1 c_mo Mo_fault → Q false M') : w_Mo_hasSign q M Q := by
  unfold w_Mo_hasSign
  exact m_isSignF hf (k _ FA.at (si_of (by decide)))
theorem m_takeWord {t : List Nat} {N n q : Nat} {M : Mem} {Q : Mem → Prop} (hA : MA t N n M) (hq : q < 24) (kf : ∀ f, cKw t q n = some f → fok f → ∀ M', FA M M' → M'.1 c_mo Mo_fault = nI f → Q M') (ko : cKw t q n = none → ∀ M', FA M M' → MA t N (n + 1) M' → Q M') : w_Mo_takeWord (nI q) M Q := by
  unfold w_Mo_takeWord
  refine m_hasWord hA hq (fun c M1 a1 h1 => gF ?_) (fun c M1 a1 h1 => gT (ko (if_pos c) M1 a1 h1))
  exact m_wrong (a := 1) h1 (by decide) (by decide) (fun fk M2 a2 h2 => kf _ (if_neg c) fk M2 (a1.trans a2) h2)
theorem m_takeWordF {q : Int32} {M : Mem} {Q : Mem → Prop} (hf : ¬ M.1 c_mo Mo_fault = 0) (k : ∀ M', FA M M' → M'.1 c_mo Mo_fault = M.1 c_mo Mo_fault → Q M') : w_Mo_takeWord q M Q := by
  unfold w_Mo_takeWord w_Mo_hasWord
  refine m_isWordF hf (gF (m_wrongF ?_ (k _ FA.at (si_of (by decide)))))
  rw [si_of (by decide)]; exact hf
theorem m_takeSign {t : List Nat} {N n c : Nat} {M : Mem} {Q : Mem → Prop} (hA : MA t N n M) (hc : c < 127) (kf : ∀ f, cSg t c n = some f → fok f → ∀ M', FA M M' → M'.1 c_mo Mo_fault = nI f → Q M') (ko : cSg t c n = none → ∀ M', FA M M' → MA t N (n + 1) M' → Q M') : w_Mo_takeSign (nI c) M Q := by
  unfold w_Mo_takeSign
  refine m_isSign hA hc ?_
  by_cases y : kS t n = 3 ∧ kC t n = c
  · rw [decide_eq_true y]
    refine fT (ko (if_pos y) _ FA.at (hA.nx (hA.lt (by rw [y.1]; decide)) ?_))
    rw [hA.at]; exact nI_1 n
  · rw [decide_eq_false y]
    exact fF (m_wrong (a := 1) hA (by decide) (by decide) (fun fk M2 a2 h2 => kf _ (if_neg y) fk M2 a2 h2))
theorem m_takeSignF {q : Int32} {M : Mem} {Q : Mem → Prop} (hf : ¬ M.1 c_mo Mo_fault = 0) (k : Q M) : w_Mo_takeSign q M Q := by
  unfold w_Mo_takeSign
  exact m_isSignF hf (fF (m_wrongF hf k))
theorem lgl {a b : Nat} (ha : a < 2 ^ 31) (hb : b < 2 ^ 31) : (lg_cmp (lN a) (Int32.toInt64 (nI b)) < 0 ↔ a < b) ∧ (lg_cmp (lN a) (Int32.toInt64 (nI b)) ≤ 0 ↔ a ≤ b) := by
  rw [nI_l hb, lg_cmp_lt, lg_cmp_le, lN_lt ha hb, lN_le ha hb]
  exact ⟨Iff.rfl, Iff.rfl⟩
theorem nfz {f : Nat} {x : Int32} (h : fok f) (e : x = nI f) : ¬ x = 0 := by rw [e]; exact nI_ne0 (by have := h.1; omega) h.2
theorem nfp {f : Nat} {x : Int32} (h : fok f) (e : x = nI f) : ¬ x ≤ 0 := by rw [e]; exact nI_nle (by have := h.1; omega) h.2
theorem m_takeNumber {t : List Nat} {N n lo hi : Nat} {M : Mem} {Q : Int32 → Mem → Prop} (hA : MA t N n M) (hlo : lo < 2 ^ 31) (hhi : hi < 2 ^ 31) (kf : ∀ f, cNum t lo hi n = some f → fok f → ∀ M', FA M M' → M'.1 c_mo Mo_fault = nI f → Q 0 M') (ko : cNum t lo hi n = none → ∀ M', FA M M' → MA t N (n + 1) M' → Q (nI (kV t n)) M') : w_Mo_takeNumber (nI lo) (nI hi) M Q := by
  have hn := hA.n
  unfold w_Mo_takeNumber
  rw [hA.ft, hA.at, nI_clamp (by omega)]
  unfold cNum at kf ko
  have j70 : ∀ f, fok f → ∀ M1 : Mem, M1.1 c_mo Mo_fault = nI f → Q 0 M1 → w_Mo_takeNumber_j70 M1 Q := fun f fk M1 e q => ⟨fun z => absurd z (nfp fk e), fun _ => q⟩
  refine ⟨fun z => absurd rfl z, fun _ => ⟨hA.v, fun z => ?_, fun z => ?_⟩⟩
  · have z : kS t n = 2 := (hA.so (s := 2) (by decide)).mp z
    have v9 := vV_lt z
    simp only [if_pos z] at kf ko
    unfold w_Mo_takeNumber_j28
    rw [hA.ft, hA.at, nI_clamp (by omega), hA.tok.2.2.2.1 z, (lgl (by omega) hlo).1, (lgl (by omega) hhi).2]
    have kb : ¬ (lo ≤ kV t n ∧ kV t n ≤ hi) → w_Mo_takeNumber_j65 M Q := fun c => by
      unfold w_Mo_takeNumber_j65
      exact m_wrong (a := 4) hA (by decide) (by decide) (fun fk M1 a1 h1 => j70 _ fk M1 h1 (kf _ (if_neg c) fk M1 a1 h1))
    refine ⟨fun z => absurd rfl z, fun _ => ⟨hA.v, fun c => kb (by omega), fun c => ⟨hA.v, fun c2 => ?_, fun c2 => kb (by omega)⟩⟩⟩
    unfold w_Mo_takeNumber_j70
    rw [hA.ft, hA.at, nI_1, nI_sub1, nI_clamp (by omega), hA.tok.2.2.2.1 z, lN_i]
    exact ⟨fun _ => ⟨hA.v, ko (if_pos ⟨by omega, c2⟩) _ FA.at (hA.nx (hA.lt (num_ne0 z)) rfl)⟩, fun y => absurd (by decide) y⟩
  · have z : ¬ kS t n = 2 := fun y => z ((hA.so (s := 2) (by decide)).mpr y)
    exact m_wrong (a := 1) hA (by decide) (by decide) (fun fk M1 a1 h1 => j70 _ fk M1 h1 (kf _ (if_neg z) fk M1 a1 h1))
theorem m_takeNumberF {lo hi : Int32} {f : Nat} {M : Mem} {Q : Int32 → Mem → Prop} (fk : fok f) (hf : M.1 c_mo Mo_fault = nI f) (k : Q 0 M) : w_Mo_takeNumber lo hi M Q :=
  ⟨fun _ => ⟨fun _ => ⟨fun z => absurd z (nfp fk hf), fun _ => k⟩, fun z => absurd z (nfz fk hf)⟩, fun z => absurd z (nfz fk hf)⟩
theorem m_L28z {K : Int32 → Mem → Prop} {Q : Bool → Mem → Prop} {M : Mem} (i0 : Nat) (h0 : i0 ≤ 20) (k : K 0 M) : ∃ n, w_Mo_isName_L28 K Q n 0 (nI i0) M := by
  refine for_loop (fun n i (M1 : Mem) => w_Mo_isName_L28 K Q n 0 (nI i) M1) (fun i M1 => M1 = M) 20 i0 M h0 rfl ?_ ?_
  · intro n M1 e; subst e
    exact br_le (a := 20) (b := 20) (by decide) (by decide) (fun _ => k) (fun q => absurd q (by omega))
  · intro n i M1 _ hi e kk; subst e
    refine br_le (a := 20) (by decide) (by omega) (fun q => absurd q (by omega)) (fun _ => ⟨fun _ => ?_, fun z => absurd rfl z⟩)
    rw [nI_1]; exact kk M1 rfl
theorem m_isName {t : List Nat} {N n : Nat} {M : Mem} {Q : Bool → Mem → Prop} (hA : MA t N n M) (k : Q (decide (kS t n = 1 ∧ 20 ≤ kK t n)) M) : w_Mo_isName M Q := by
  have hn := hA.n
  unfold w_Mo_isName
  rw [hA.ft, hA.at, nI_clamp (by omega)]
  refine ⟨fun z => absurd rfl z, fun _ => ⟨hA.v, fun x ex => ?_⟩⟩
  have so1 : M.1 c_mo_sort n = 1 ↔ kS t n = 1 := hA.so (s := 1) (by decide)
  by_cases c : kS t n = 1
  · rw [if_pos (so1.mpr c)] at ex
    subst ex
    refine for_loop (fun m i (M1 : Mem) => w_Mo_isName_L28 (fun y787 M786 => (∃ bb : Bool, y787 = b2i bb ∧ Q bb M786)) Q m (if kK t n < i then 0 else 1) (nI i) M1) (fun i M1 => M1 = M) 20 0 M (Nat.zero_le _) rfl ?_ ?_
    · intro m M1 e; subst e
      refine br_le (a := 20) (b := 20) (by decide) (by decide) (fun _ => ⟨decide (kS t n = 1 ∧ 20 ≤ kK t n), ?_, k⟩) (fun q => absurd q (by omega))
      by_cases c2 : kK t n < 20
      · rw [if_pos c2, decide_eq_false (by omega)]; rfl
      · rw [if_neg c2, decide_eq_true ⟨c, by omega⟩]; rfl
    · intro m i M1 _ hi e kk; subst e
      have kk := kk M1 rfl
      refine br_le (a := 20) (by decide) (by omega) (fun q => absurd q (by omega)) (fun _ => ?_)
      rw [nI_1]
      by_cases c2 : kK t n < i
      · rw [if_pos c2]
        rw [if_pos (show kK t n < i + 1 by omega)] at kk
        exact ⟨fun _ => kk, fun z => absurd rfl z⟩
      · rw [if_neg c2, hA.at]
        refine ⟨fun z => absurd z (by decide), fun _ => ⟨hA.v, vp_in_nI (by omega) (by decide), fun x ex => ?_⟩⟩
        rw [nI_clamp (by omega), nI_clamp (by omega), hA.tok.2.2.1 c, hA.2.1.1 i (by omega)] at ex
        have e1 : lg_cmp (lN (w37 (kW t n))) (lN (w37 (KW.getD i []))) = 0 ↔ kK t n = i := by
          rw [lg_0, l37_iff (kW_ok c) (KW_ok (by omega)), kK_iff (by omega)]
          exact ⟨fun y => ⟨c, y.symm⟩, fun y => y.2.symm⟩
        have e2 : x = if kK t n < i + 1 then 0 else 1 := by
          rw [ex]
          by_cases c3 : kK t n = i
          · rw [if_pos (e1.mpr c3), if_pos (by omega)]
          · rw [if_neg (fun y => c3 (e1.mp y)), if_neg (by omega)]
        rw [e2]; exact kk
  · rw [if_neg (fun y => c (so1.mp y))] at ex
    subst ex
    rw [decide_eq_false (fun y => c y.1)] at k
    exact m_L28z 0 (by decide) ⟨false, rfl, k⟩
theorem m_isNameF {M : Mem} {Q : Bool → Mem → Prop} (hf : ¬ M.1 c_mo Mo_fault = 0) (k : Q false M) : w_Mo_isName M Q := by
  unfold w_Mo_isName
  exact ⟨fun _ => m_L28z 0 (by decide) ⟨false, rfl, k⟩, fun z => absurd z hf⟩
/-! names -/
def MN (d : Dr) (M : Mem) : Prop := M.1 c_mo Mo_namesMany = nI (rnp d + rnb d) ∧ ∃ ord : Nat → Nat, (∀ k, k < rnp d + rnb d → vid d (ord k) ∧ M.1 c_mo_nameOf k = nI (ord k) ∧ M.2 c_mo_names k = lN (w37 (rnm d (ord k)))) ∧ ∀ i, vid d i → ∃ k, k < rnp d + rnb d ∧ ord k = i
def fI (d : Dr) (w : List Nat) : Option Nat := match fP d w with
  | some p => some p
  | none => match fB d w with
    | some b => some (6 + b)
    | none => none
theorem vid_ok {d : Dr} {i : Nat} (hg : GDr d) (h : vid d i) : okw (rnm d i) ∧ i < 11 := by
  have h3 := hg.1.2.2.1
  have h4 := hg.1.2.2.2.1
  rcases h with z | z
  · exact ⟨(hg.2.1 i z).2.2.1, by omega⟩
  · have := (hg.2.2.1 (i - 6) (by omega)).2
    rw [show 6 + (i - 6) = i by omega] at this
    exact ⟨this, by omega⟩
theorem fI_s {d : Dr} {w : List Nat} {i : Nat} (hg : GDr d) (hi : vid d i) (hw : rnm d i = w) : fI d w = some i := by
  have hu := hg.2.2.2.2.2.1
  have h3 := hg.1.2.2.1
  unfold fI
  cases eP : fP d w with
  | some p =>
    have hp := fnd_s eP
    rw [hu p i (Or.inl hp.1) hi (hp.2.trans hw.symm)]
  | none =>
    cases eB : fB d w with
    | some b =>
      have hb := fnd_s eB
      show some (6 + b) = some i
      rw [hu (6 + b) i (Or.inr ⟨by omega, by omega⟩) hi (hb.2.trans hw.symm)]
    | none =>
      rcases hi with z | z
      · exact absurd hw (fnd_n eP i z)
      · have := fnd_n eB (i - 6) (by omega)
        rw [show 6 + (i - 6) = i by omega] at this
        exact absurd hw this
theorem fI_n {d : Dr} {w : List Nat} (h : ∀ i, vid d i → rnm d i ≠ w) : fI d w = none := by
  unfold fI
  cases eP : fP d w with
  | some p =>
    have hp := fnd_s eP
    exact absurd hp.2 (h p (Or.inl hp.1))
  | none =>
    cases eB : fB d w with
    | some b =>
      have hb := fnd_s eB
      exact absurd hb.2 (h (6 + b) (Or.inr ⟨by omega, by omega⟩))
    | none => rfl
theorem m_find {t : List Nat} {N n : Nat} {d : Dr} {M : Mem} {Q : Int32 → Mem → Prop} (hA : MA t N n M) (hs : kS t n = 1) (hg : GDr d) (hN : MN d M) (k : Q (oI (fI d (kW t n))) M) : w_Mo_find M Q := by
  have hn := hA.n
  have h3 := hg.1.2.2.1
  have h4 := hg.1.2.2.2.1
  obtain ⟨hc, ord, h1, h2⟩ := hN
  have hle := fa_first_le (fun p => decide (rnm d (ord p) = kW t n)) (rnp d + rnb d)
  have hno := fa_first_no (fun p => decide (rnm d (ord p) = kW t n)) (rnp d + rnb d)
  have hye := fa_first_yes (fun p => decide (rnm d (ord p) = kW t n)) (rnp d + rnb d)
  generalize fa_first (fun p => decide (rnm d (ord p) = kW t n)) (rnp d + rnb d) = J at hle hno hye
  have cmp : ∀ i, i < rnp d + rnb d → (lg_cmp (M.2 c_mo_names i) (M.2 c_mo_value n) = 0 ↔ rnm d (ord i) = kW t n) := fun i hi => by
    rw [(h1 i hi).2.2, hA.tok.2.2.1 hs, lg_0, l37_iff (vid_ok hg (h1 i hi).1).1 (kW_ok hs)]
  unfold w_Mo_find
  refine for_loop (fun m i (M1 : Mem) => w_Mo_find_L2 (fun M791 => Q (-1) M791) Q m (nI i) M1) (fun i M1 => M1 = M) J 0 M (Nat.zero_le _) rfl ?_ ?_
  · intro m M1 e
    subst e
    unfold w_Mo_find_L2
    rw [hc, hA.at]
    refine br_le (by omega) (by omega) (fun c => ?_) (fun c => ⟨vp_in_nI (by omega) (by decide), hA.v, ?_⟩)
    · have : fI d (kW t n) = none := fI_n (fun i hi => by
        obtain ⟨kk, hk, e⟩ := h2 i hi
        rw [← e]
        exact of_decide_eq_false (hno kk (by omega)))
      rw [this] at k; exact k
    · rw [nI_clamp (by omega), nI_clamp (by omega), cmp J c]
      have e := of_decide_eq_true (hye c)
      refine ⟨fun z => absurd e z, fun _ => ⟨vp_in_nI (by omega) (by decide), ?_⟩⟩
      rw [fI_s hg (h1 J c).1 e] at k
      rw [(h1 J c).2.1]; exact k
  · intro m i M1 _ hi e kk
    subst e
    unfold w_Mo_find_L2
    rw [hc, hA.at]
    refine br_le (by omega) (by omega) (fun c => absurd c (by omega)) (fun c => ⟨vp_in_nI (by omega) (by decide), hA.v, ?_⟩)
    rw [nI_clamp (by omega), nI_clamp (by omega), cmp i c, nI_1]
    exact ⟨fun _ => kk M1 rfl, fun z => absurd z (of_decide_eq_false (hno i hi))⟩
