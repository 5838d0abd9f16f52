/-! the reference's reader: the recursion of laws -/
def RecOk (t : List Nat) (N : Nat) (fog : Bool) (f : Nat) (g : Nat → List Int32 → RE) (r : Mem → (Mem → Prop) → Prop) : Prop := (∀ n c M Q, MA t N n M → MCo fog f c M → M.1 c_mo Mo_ofFog = b2i fog → f + c.length ≤ n → MLR t N fog f n c (g n c) M Q → r M Q) ∧ ∀ n c x, g n c = .inr x → n < x.1 ∧ n + x.2.length ≤ x.1 + c.length
theorem FG.of {f : Nat} {M M' : Mem} (h : FG f M M') : M'.1 c_mo Mo_ofFog = M.1 c_mo Mo_ofFog := h.2.1 _ (by decide) (by decide) (by decide)
theorem MLR.ch {t : List Nat} {N : Nat} {fog : Bool} {f n n1 : Nat} {c c1 : List Int32} {e : Nat} {M M1 : Mem} {Q : Mem → Prop} (k : MLR t N fog f n c (.inl e) M Q) (hF : FG f M M1) (h : n + c1.length ≤ n1 + c.length) : MLR t N fog f n1 c1 (.inl e) M1 Q := fun M' cl a b h1 h2 h3 h4 => k M' cl (hF.trans a) b h1 h2 h3 (by omega)
theorem m_allL {t : List Nat} {N : Nat} {fog : Bool} {f n0 : Nat} {c0 : List Int32} {g : Nat → List Int32 → RE} {r1 r2 r3 r4 r5 : Int32 → Mem → (Mem → Prop) → Prop} {dp : Int32} {M0 : Mem} {Q : Mem → Prop} (hr : RecOk t N fog f g (r2 dp)) : ∀ (k n : Nat) (c : List Int32) (M : Mem), 1000 < k + n → MA t N n M → MCo fog f c M → M.1 c_mo Mo_ofFog = b2i fog → f + c.length ≤ n → FG f M0 M → n0 + c.length ≤ n + c0.length → MLR t N fog f n0 c0 (lp t g 0 k n c) M0 Q → w_Mo_all_L5 r1 r2 r3 r4 r5 dp (fun M715 => Q M715) Q (k + 1) M
  | 0, n, c, M, hk, hA, _, _, _, _, _, _ => absurd hA.n (by omega)
  | k + 1, n, c, M, hk, hA, hC, hO, hb, hF, hn, kk => by
    have hn1 := hA.n
    rw [lp] at kk
    have kz : opAt t 0 n = 0 → ∀ M1, FA M M1 → MA t N n M1 → Q M1 := fun z M1 a1 h1 => by
      rw [if_pos z] at kk; exact kk M1 (hF.fa a1) h1 (hC.fa a1)
    have ks : ∀ M1 : Mem, opAt t 0 n ≠ 0 → FA M M1 → MA t N (n + 1) M1 → ∀ a : Int32, a = eop (opAt t 0 n) → r2 dp M1 (fun M711 => w_Mo_emit a 0 M711 (fun M712 => w_Mo_all_L5 r1 r2 r3 r4 r5 dp (fun M715 => Q M715) Q (k + 1) M712)) := by
      intro M1 ho a1 h1 a ha
      rw [if_neg ho] at kk
      have hob := op_bin ho
      refine hr.1 (n + 1) c M1 _ h1 (hC.fa a1) (by rw [a1.2 _ (by decide) (by decide)]; exact hO) (by omega) ?_
      cases e : g (n + 1) c with
      | inl er =>
        rw [e] at kk
        intro M2 cl a2 fk e2 e3 e4 e5
        refine m_emitF (f := f) e3 (by have := hA.N; omega) e4 (fun M3 a3 f3 g3 => ?_)
        have hF3 := ((hF.fa a1).trans a2).trans a3
        have ff : M3.1 c_mo Mo_fault = nI er := f3.trans e2
        have fin : ∀ M4, FA M3 M4 → M4.1 c_mo Mo_fault = nI er → Q M4 := fun M4 a4 h4 => kk M4 (cl + 1) (hF3.fa a4) fk h4 (by rw [a4.2 _ (by decide) (by decide)]; exact g3) (by omega) (by omega)
        exact by
          unfold w_Mo_all_L5
          exact m_isWordF (nfz fk ff) (gF (m_isWordF (nfz fk ff) (fF (fin M3 FA.rfl ff))))
      | inr x =>
        rw [e] at kk
        obtain ⟨g1, g2⟩ := hr.2 _ _ _ e
        intro M2 a2 h2 hC2
        have hx := h2.n
        refine m_emit (x := opAt t 0 n) h2 hC2 (by omega) ha (fun z => absurd z hob.2.1) (fun M3 a3 h3 hC3 => ?_)
        have kk : MLR t N fog f n0 c0 (if 0 = 1 then (.inr (x.1, x.2 ++ [opAt t 0 n]) : RE) else lp t g 0 k x.1 (x.2 ++ [opAt t 0 n])) M0 Q := kk
        rw [if_neg (by decide)] at kk
        have hO3 : M3.1 c_mo Mo_ofFog = b2i fog := by rw [a3.of, a2.of, a1.2 _ (by decide) (by decide)]; exact hO
        have hl : (x.2 ++ [opAt t 0 n]).length = x.2.length + 1 := by rw [List.length_append]; rfl
        exact m_allL hr k x.1 _ M3 (by omega) h3 hC3 hO3 (by rw [hl]; omega) (((hF.fa a1).trans a2).trans a3) (by rw [hl]; omega) kk
    unfold w_Mo_all_L5
    refine m_isWord (q := 18) hA (by decide) ?_
    have go : opAt t 0 n ≠ 0 → (kK t n = 18 → opAt t 0 n = -11) → (¬ kK t n = 18 → opAt t 0 n = -12) → w_Mo_all_j23 r1 r2 r3 r4 r5 (fun M => w_Mo_all_L5 r1 r2 r3 r4 r5 dp (fun M715 => Q M715) Q (k + 1) M) (fun M715 => Q M715) dp M Q := by
      intro ho e1 e2
      have hob := op_bin ho
      unfold w_Mo_all_j23
      refine m_isWord (q := 18) hA (by decide) ?_
      refine ks _ ho FA.at (hA.nx (hA.lt hob.1) (by rw [hA.at]; exact nI_1 n)) _ ?_
      by_cases y : kK t n = 18
      · rw [decide_eq_true y, e1 y]; decide
      · rw [decide_eq_false y, e2 y]; decide
    have eo : opAt t 0 n = (if kK t n = 18 then -11 else if kK t n = 19 then -12 else 0) := rfl
    by_cases y : kK t n = 18
    · rw [decide_eq_true y]
      rw [if_pos y] at eo
      exact gT (go (by rw [eo]; decide) (fun _ => eo) (fun z => absurd y z))
    · rw [decide_eq_false y]
      rw [if_neg y] at eo
      refine gF (m_isWord (q := 19) hA (by decide) ?_)
      by_cases y2 : kK t n = 19
      · rw [decide_eq_true y2]
        rw [if_pos y2] at eo
        exact fT (go (by rw [eo]; decide) (fun z => absurd z y) (fun _ => eo))
      · rw [decide_eq_false y2]
        rw [if_neg y2] at eo
        exact fF (kz eo M FA.rfl hA)
theorem m_sumsL {t : List Nat} {N : Nat} {fog : Bool} {f n0 : Nat} {c0 : List Int32} {g : Nat → List Int32 → RE} {r1 r2 r3 r4 r5 : Int32 → Mem → (Mem → Prop) → Prop} {dp : Int32} {M0 : Mem} {Q : Mem → Prop} (hr : RecOk t N fog f g (r4 dp)) : ∀ (k n : Nat) (c : List Int32) (M : Mem), 1000 < k + n → MA t N n M → MCo fog f c M → M.1 c_mo Mo_ofFog = b2i fog → f + c.length ≤ n → FG f M0 M → n0 + c.length ≤ n + c0.length → MLR t N fog f n0 c0 (lp t g 2 k n c) M0 Q → w_Mo_sums_L5 r1 r2 r3 r4 r5 dp (fun M715 => Q M715) Q (k + 1) M
  | 0, n, c, M, hk, hA, _, _, _, _, _, _ => absurd hA.n (by omega)
  | k + 1, n, c, M, hk, hA, hC, hO, hb, hF, hn, kk => by
    have hn1 := hA.n
    rw [lp] at kk
    have kz : opAt t 2 n = 0 → ∀ M1, FA M M1 → MA t N n M1 → Q M1 := fun z M1 a1 h1 => by
      rw [if_pos z] at kk; exact kk M1 (hF.fa a1) h1 (hC.fa a1)
    have ks : ∀ M1 : Mem, opAt t 2 n ≠ 0 → FA M M1 → MA t N (n + 1) M1 → ∀ a : Int32, a = eop (opAt t 2 n) → r4 dp M1 (fun M711 => w_Mo_emit a 0 M711 (fun M712 => w_Mo_sums_L5 r1 r2 r3 r4 r5 dp (fun M715 => Q M715) Q (k + 1) M712)) := by
      intro M1 ho a1 h1 a ha
      rw [if_neg ho] at kk
      have hob := op_bin ho
      refine hr.1 (n + 1) c M1 _ h1 (hC.fa a1) (by rw [a1.2 _ (by decide) (by decide)]; exact hO) (by omega) ?_
      cases e : g (n + 1) c with
      | inl er =>
        rw [e] at kk
        intro M2 cl a2 fk e2 e3 e4 e5
        refine m_emitF (f := f) e3 (by have := hA.N; omega) e4 (fun M3 a3 f3 g3 => ?_)
        have hF3 := ((hF.fa a1).trans a2).trans a3
        have ff : M3.1 c_mo Mo_fault = nI er := f3.trans e2
        have fin : ∀ M4, FA M3 M4 → M4.1 c_mo Mo_fault = nI er → Q M4 := fun M4 a4 h4 => kk M4 (cl + 1) (hF3.fa a4) fk h4 (by rw [a4.2 _ (by decide) (by decide)]; exact g3) (by omega) (by omega)
        exact by
          unfold w_Mo_sums_L5
          exact m_isSignF (nfz fk ff) (gF (m_isSignF (nfz fk ff) (fF (fin M3 FA.rfl ff))))
      | inr x =>
        rw [e] at kk
        obtain ⟨g1, g2⟩ := hr.2 _ _ _ e
        intro M2 a2 h2 hC2
        have hx := h2.n
        refine m_emit (x := opAt t 2 n) h2 hC2 (by omega) ha (fun z => absurd z hob.2.1) (fun M3 a3 h3 hC3 => ?_)
        have kk : MLR t N fog f n0 c0 (if 2 = 1 then (.inr (x.1, x.2 ++ [opAt t 2 n]) : RE) else lp t g 2 k x.1 (x.2 ++ [opAt t 2 n])) M0 Q := kk
        rw [if_neg (by decide)] at kk
        have hO3 : M3.1 c_mo Mo_ofFog = b2i fog := by rw [a3.of, a2.of, a1.2 _ (by decide) (by decide)]; exact hO
        have hl : (x.2 ++ [opAt t 2 n]).length = x.2.length + 1 := by rw [List.length_append]; rfl
        exact m_sumsL hr k x.1 _ M3 (by omega) h3 hC3 hO3 (by rw [hl]; omega) (((hF.fa a1).trans a2).trans a3) (by rw [hl]; omega) kk
    unfold w_Mo_sums_L5
    refine m_isSign (c := 43) hA (by decide) ?_
    have go : opAt t 2 n ≠ 0 → ((kS t n = 3 ∧ kC t n = 43) → opAt t 2 n = -7) → (¬ (kS t n = 3 ∧ kC t n = 43) → opAt t 2 n = -8) → w_Mo_sums_j23 r1 r2 r3 r4 r5 (fun M => w_Mo_sums_L5 r1 r2 r3 r4 r5 dp (fun M715 => Q M715) Q (k + 1) M) (fun M715 => Q M715) dp M Q := by
      intro ho e1 e2
      have hob := op_bin ho
      unfold w_Mo_sums_j23
      refine m_isSign (c := 43) hA (by decide) ?_
      refine ks _ ho FA.at (hA.nx (hA.lt hob.1) (by rw [hA.at]; exact nI_1 n)) _ ?_
      by_cases y : (kS t n = 3 ∧ kC t n = 43)
      · rw [decide_eq_true y, e1 y]; decide
      · rw [decide_eq_false y, e2 y]; decide
    have eo : opAt t 2 n = (if kS t n = 3 ∧ kC t n = 43 then -7 else if kS t n = 3 ∧ kC t n = 45 then -8 else 0) := rfl
    by_cases y : (kS t n = 3 ∧ kC t n = 43)
    · rw [decide_eq_true y]
      rw [if_pos y] at eo
      exact gT (go (by rw [eo]; decide) (fun _ => eo) (fun z => absurd y z))
    · rw [decide_eq_false y]
      rw [if_neg y] at eo
      refine gF (m_isSign (c := 45) hA (by decide) ?_)
      by_cases y2 : (kS t n = 3 ∧ kC t n = 45)
      · rw [decide_eq_true y2]
        rw [if_pos y2] at eo
        exact fT (go (by rw [eo]; decide) (fun z => absurd z y) (fun _ => eo))
      · rw [decide_eq_false y2]
        rw [if_neg y2] at eo
        exact fF (kz eo M FA.rfl hA)
theorem m_productsL {t : List Nat} {N : Nat} {fog : Bool} {f n0 : Nat} {c0 : List Int32} {g : Nat → List Int32 → RE} {r1 r2 r3 r4 r5 : Int32 → Mem → (Mem → Prop) → Prop} {dp : Int32} {M0 : Mem} {Q : Mem → Prop} (hr : RecOk t N fog f g (r5 dp)) : ∀ (k n : Nat) (c : List Int32) (M : Mem), 1000 < k + n → MA t N n M → MCo fog f c M → M.1 c_mo Mo_ofFog = b2i fog → f + c.length ≤ n → FG f M0 M → n0 + c.length ≤ n + c0.length → MLR t N fog f n0 c0 (lp t g 3 k n c) M0 Q → w_Mo_products_L5 r1 r2 r3 r4 r5 dp (fun M715 => Q M715) Q (k + 1) M
  | 0, n, c, M, hk, hA, _, _, _, _, _, _ => absurd hA.n (by omega)
  | k + 1, n, c, M, hk, hA, hC, hO, hb, hF, hn, kk => by
    have hn1 := hA.n
    rw [lp] at kk
    have kz : opAt t 3 n = 0 → ∀ M1, FA M M1 → MA t N n M1 → Q M1 := fun z M1 a1 h1 => by
      rw [if_pos z] at kk; exact kk M1 (hF.fa a1) h1 (hC.fa a1)
    have ks : ∀ M1 : Mem, opAt t 3 n ≠ 0 → FA M M1 → MA t N (n + 1) M1 → ∀ a : Int32, a = eop (opAt t 3 n) → r5 dp M1 (fun M711 => w_Mo_emit a 0 M711 (fun M712 => w_Mo_products_L5 r1 r2 r3 r4 r5 dp (fun M715 => Q M715) Q (k + 1) M712)) := by
      intro M1 ho a1 h1 a ha
      rw [if_neg ho] at kk
      have hob := op_bin ho
      refine hr.1 (n + 1) c M1 _ h1 (hC.fa a1) (by rw [a1.2 _ (by decide) (by decide)]; exact hO) (by omega) ?_
      cases e : g (n + 1) c with
      | inl er =>
        rw [e] at kk
        intro M2 cl a2 fk e2 e3 e4 e5
        refine m_emitF (f := f) e3 (by have := hA.N; omega) e4 (fun M3 a3 f3 g3 => ?_)
        have hF3 := ((hF.fa a1).trans a2).trans a3
        have ff : M3.1 c_mo Mo_fault = nI er := f3.trans e2
        have fin : ∀ M4, FA M3 M4 → M4.1 c_mo Mo_fault = nI er → Q M4 := fun M4 a4 h4 => kk M4 (cl + 1) (hF3.fa a4) fk h4 (by rw [a4.2 _ (by decide) (by decide)]; exact g3) (by omega) (by omega)
        exact by
          unfold w_Mo_products_L5
          exact m_hasSignF (nfz fk ff) (fun M4 a4 h4 => fF (fin M4 a4 (h4.trans ff)))
      | inr x =>
        rw [e] at kk
        obtain ⟨g1, g2⟩ := hr.2 _ _ _ e
        intro M2 a2 h2 hC2
        have hx := h2.n
        refine m_emit (x := opAt t 3 n) h2 hC2 (by omega) ha (fun z => absurd z hob.2.1) (fun M3 a3 h3 hC3 => ?_)
        have kk : MLR t N fog f n0 c0 (if 3 = 1 then (.inr (x.1, x.2 ++ [opAt t 3 n]) : RE) else lp t g 3 k x.1 (x.2 ++ [opAt t 3 n])) M0 Q := kk
        rw [if_neg (by decide)] at kk
        have hO3 : M3.1 c_mo Mo_ofFog = b2i fog := by rw [a3.of, a2.of, a1.2 _ (by decide) (by decide)]; exact hO
        have hl : (x.2 ++ [opAt t 3 n]).length = x.2.length + 1 := by rw [List.length_append]; rfl
        exact m_productsL hr k x.1 _ M3 (by omega) h3 hC3 hO3 (by rw [hl]; omega) (((hF.fa a1).trans a2).trans a3) (by rw [hl]; omega) kk
    unfold w_Mo_products_L5
    have eo : opAt t 3 n = (if kS t n = 3 ∧ kC t n = 42 then -6 else 0) := rfl
    refine m_hasSign (c := 42) hA (by decide) (fun y M1 a1 h1 => fF ?_) (fun y M1 a1 h1 => fT ?_)
    · rw [if_neg y] at eo; exact kz eo M1 a1 h1
    · rw [if_pos y] at eo
      exact ks M1 (by rw [eo]; decide) a1 h1 6 (by rw [eo]; decide)
/-! facts -/
def fwN : List Nat := [5, 20, 21, 8, 22, 23]
def may (fog : Bool) (i : Nat) : Bool := decide (i = 0) || (decide (i < 4) != fog)
def fx (fog : Bool) (q : Nat) : Nat → Int32
  | 0 => -1
  | i + 1 => if may fog i = true ∧ q = fwN.getD i 0 then nI i else fx fog q i
theorem fx_6 {fog : Bool} {q : Nat} : (fctQ fog q = 0 → fx fog q 6 = -1) ∧ (fctQ fog q ≠ 0 → fx fog q 6 = earg fog (fctQ fog q) ∧ 0 ≤ fx fog q 6) := by
  have key : ∀ fog : Bool, ∀ q : Fin 24, (fctQ fog q.val = 0 → fx fog q.val 6 = -1) ∧ (fctQ fog q.val ≠ 0 → fx fog q.val 6 = earg fog (fctQ fog q.val) ∧ 0 ≤ fx fog q.val 6) := by decide +kernel
  by_cases c : q < 24
  · exact key fog ⟨q, c⟩
  · have e0 : fctQ fog q = 0 := Decidable.byContradiction (fun z => c (fct_rng z).2.2.2)
    refine ⟨fun _ => ?_, fun z => absurd e0 z⟩
    have h : ∀ i, i < 6 → fwN.getD i 0 < 24 := by decide
    have h2 : ∀ i, i ≤ 6 → fx fog q i = -1 := by
      intro i
      induction i with
      | zero => intro _; rfl
      | succ i ih =>
        intro hi
        have := h i (by omega)
        rw [fx, if_neg (fun z => by omega)]
        exact ih (by omega)
    exact h2 6 (by decide)
theorem m_factHere {t : List Nat} {N n : Nat} {fog : Bool} {M : Mem} {Q : Int32 → Mem → Prop} (hA : MA t N n M) (hO : M.1 c_mo Mo_ofFog = b2i fog) (k : Q (fx fog (kK t n) 6) M) : w_Mo_factHere M Q := by
  unfold w_Mo_factHere
  refine for_loop (fun m i (M1 : Mem) => w_Mo_factHere_L4 (fun y750 M749 => Q y750 M749) Q m (fx fog (kK t n) i) (nI i) M1) (fun i M1 => M1 = M) 6 0 M (Nat.zero_le _) rfl ?_ ?_
  · intro m M1 e; subst e
    exact br_le (a := 6) (b := 6) (by decide) (by decide) (fun _ => k) (fun q => absurd q (by omega))
  · intro m i M1 _ hi e kk; subst e
    have kk := kk M1 rfl
    rw [fx] at kk
    have efw : M1.1 c_mo_factWords i = nI (fwN.getD i 0) := by
      rw [hA.2.1.2 i hi]
      have : ∀ i : Fin 6, fctW.getD i.val 0 = nI (fwN.getD i.val 0) := by decide
      exact this ⟨i, hi⟩
    have hq : fwN.getD i 0 < 24 := by
      have : ∀ i : Fin 6, fwN.getD i.val 0 < 24 := by decide
      exact this ⟨i, hi⟩
    have yes : may fog i = true → ∀ s : Int32, ¬ s = 0 → w_Mo_factHere_j36 (fun l1 l2 M => w_Mo_factHere_L4 (fun y750 M749 => Q y750 M749) Q m l1 l2 M) (fun y750 M749 => Q y750 M749) (fx fog (kK t n) i) (nI i) s M1 Q := by
      intro hm s hs
      refine ⟨fun z => absurd z hs, fun _ => ⟨vp_in_nI hi (by decide), ?_⟩⟩
      rw [nI_clamp (by omega), efw]
      refine m_isWord hA hq (fun x ex => ?_)
      rw [nI_1]
      have ex : x = if may fog i = true ∧ kK t n = fwN.getD i 0 then nI i else fx fog (kK t n) i := by
        rw [ex]
        by_cases c : kK t n = fwN.getD i 0
        · rw [decide_eq_true c, if_pos rfl, if_pos ⟨hm, c⟩]
        · rw [decide_eq_false c, if_neg (by decide), if_neg (fun z => c z.2)]
      rw [ex]; exact kk
    refine br_le (a := 6) (by decide) (by omega) (fun q => absurd q (by omega)) (fun _ => br_eq (b := 0) (by omega) (by decide) (fun z => ?_) (fun z => ?_))
    · exact yes (by unfold may; rw [decide_eq_true z]; rfl) 1 (by decide)
    · unfold w_Mo_factHere_j24
      rw [hO]
      have e4 : (if (4 : Int32) ≤ nI i then (0 : Int32) else 1) = b2i (decide (i < 4)) := by
        by_cases c : i < 4
        · rw [decide_eq_true c, if_neg (by rw [show (4 : Int32) = nI 4 from rfl, nI_leI (by decide) (by omega)]; omega)]; rfl
        · rw [decide_eq_false c, if_pos (by rw [show (4 : Int32) = nI 4 from rfl, nI_leI (by decide) (by omega)]; omega)]; rfl
      rw [e4]
      have hm : may fog i = (decide (i < 4) != fog) := by unfold may; rw [decide_eq_false z]; rfl
      by_cases c : b2i (decide (i < 4)) = b2i fog
      · rw [if_pos c]
        have : may fog i = false := by
          rw [hm]; revert c; generalize decide (i < 4) = b
          cases b <;> cases fog <;> decide
        rw [this, if_neg (by intro y; exact absurd y.1 (by decide))] at kk
        refine ⟨fun _ => ?_, fun y => absurd rfl y⟩
        rw [nI_1]; exact kk
      · rw [if_neg c]
        have : may fog i = true := by
          rw [hm]; revert c; generalize decide (i < 4) = b
          cases b <;> cases fog <;> decide
        exact yes this 1 (by decide)
theorem eop_n {v : Nat} (h : v < 2 ^ 31) : eop (nI v) = 1 ∧ ∀ fog, earg fog (nI v) = nI v := by
  have : -1 < nI v := by rw [fa_lt, nI_toInt h, show (-1 : Int32).toInt = -1 from rfl]; omega
  exact ⟨if_pos this, fun fog => if_pos this⟩
theorem eop_f {x : Int32} (h1 : -5 < x) (h2 : ¬ -1 < x) : eop x = 2 := by unfold eop; rw [if_neg h2, if_pos h1]
theorem m_part {t : List Nat} {N : Nat} {fog : Bool} {f F dp : Nat} {r1 r2 r3 r4 r5 : Int32 → Mem → (Mem → Prop) → Prop} (hdp : dp ≤ 5) (hN5 : dp < 5 → RecOk t N fog f (aE t fog F 5 (dp + 1)) (r5 (nI (dp + 1)))) (hN0 : dp < 5 → RecOk t N fog f (aE t fog F 0 (dp + 1)) (r1 (nI (dp + 1)))) {n : Nat} {c : List Int32} {M : Mem} {Q : Mem → Prop} (hA : MA t N n M) (hC : MCo fog f c M) (hO : M.1 c_mo Mo_ofFog = b2i fog) (hb : f + c.length ≤ n) (k : MLR t N fog f n c (aPt t fog (aE t fog F) dp n c) M Q) : w_Mo_takePart_body r1 r2 r3 r4 r5 (nI dp) M Q := by
  have hn := hA.n
  have hnN := hA.2.2.2.2.1
  have hNN := hA.N
  unfold aPt at k
  unfold w_Mo_takePart_body
  rw [hA.ft, hA.at, nI_clamp (by omega)]
  refine ⟨fun _ => ⟨hA.v, ?_⟩, fun z => absurd (by decide) z⟩
  have so2 : M.1 c_mo_sort n = 2 ↔ kS t n = 2 := hA.so (s := 2) (by decide)
  have es0 : (if M.1 c_mo_sort n = 2 then (1 : Int32) else 0) = b2i (decide (kS t n = 2)) := if_b2i (by rw [so2, decide_eq_true_eq])
  rw [es0]
  unfold w_Mo_takePart_j26
  refine m_factHere hA hO ?_
  have hfx := fx_6 (fog := fog) (q := kK t n)
  generalize hfi : fx fog (kK t n) 6 = fi at hfx
  have bad : ∀ (e : Nat) (s l : Int32) (M1 : Mem), FA M M1 → fok e → M1.1 c_mo Mo_fault = nI e → MLR t N fog f n c (.inl e) M Q → w_Mo_takePart_j76 r1 r2 r3 r4 r5 (nI dp) s l M1 Q := fun e s l M1 a1 fk h1 k => ⟨fun z => absurd z (nfp fk h1), fun _ => k M1 (f + c.length) (FG.rfl.fa a1) fk h1 (hC.fa a1).1 (by omega) (by omega)⟩
  have good : ∀ M1 : Mem, FA M M1 → MA t N n M1 → (kS t n = 2 ∨ (kS t n = 3 ∧ kC t n = 40) ∨ kK t n = 17 ∨ fctQ fog (kK t n) ≠ 0) → w_Mo_takePart_j66 r1 r2 r3 r4 r5 (nI dp) (b2i (decide (kS t n = 2))) fi M1 Q := by
    intro M1 a1 h1 C
    rw [if_pos C] at k
    unfold w_Mo_takePart_j66
    refine br_ne (b := 5) (by omega) (by decide) (fun z => ?_) (fun z => ?_)
    · rw [if_neg (by omega)] at k
      unfold w_Mo_takePart_j76
      rw [h1.ft, nI_1]
      refine ⟨fun _ => ?_, fun y => absurd (by decide) y⟩
      have hC1 := hC.fa a1
      refine m_hasWord (q := 17) h1 (by decide) (fun q M2 a2 h2 => fF ?_) (fun q M2 a2 h2 => fT ?_)
      · rw [if_neg q] at k
        refine m_hasSign (c := 40) h2 (by decide) (fun q2 M3 a3 h3 => fF ?_) (fun q2 M3 a3 h3 => fT ?_)
        · rw [if_neg q2] at k
          have a13 := (a1.trans a2).trans a3
          have hC3 := hC.fa a13
          unfold w_Mo_takePart_j144 w_Mo_takePart_j162
          by_cases s2 : kS t n = 2
          · have v9 := vV_lt s2
            have f0 : fctQ fog (kK t n) = 0 := Decidable.byContradiction (fun y => by have := kK_lt (fct_rng y).2.2.2; omega)
            rw [if_pos f0] at k
            rw [decide_eq_true s2, h3.at, nI_clamp (by omega), h3.tok.2.2.2.1 s2, lN_i]
            refine ⟨fun y => absurd y (by decide), fun _ => ⟨h3.v, ?_⟩⟩
            have en := eop_n (v := kV t n) (by omega)
            rw [if_neg (by decide)]
            refine m_emit (x := nI (kV t n)) h3 hC3 (by omega) en.1.symm (fun _ => (en.2 fog).symm) (fun M4 a4 h4 hC4 => ?_)
            refine k _ (((FG.rfl.fa a13).trans a4).fa FA.at) (h4.nx (hA.lt (num_ne0 s2)) (by rw [h4.at]; exact nI_1 n)) (hC4.fa FA.at)
          · have f0 : fctQ fog (kK t n) ≠ 0 := by
              rcases C with y | y | y | y
              · exact absurd y s2
              · exact absurd y q2
              · exact absurd y q
              · exact y
            obtain ⟨g1, g2, g3, g4⟩ := fct_rng f0
            rw [if_neg f0] at k
            rw [decide_eq_false s2]
            refine ⟨fun _ => ?_, fun y => absurd rfl y⟩
            rw [if_pos (show b2i false = 0 from rfl)]
            refine m_emit (x := fctQ fog (kK t n)) h3 hC3 (by omega) (eop_f g1 g2).symm (fun _ => (hfx.2 f0).1) (fun M4 a4 h4 hC4 => ?_)
            refine k _ (((FG.rfl.fa a13).trans a4).fa FA.at) (h4.nx (hA.lt (kK_ne0 rfl g4)) (by rw [h4.at]; exact nI_1 n)) (hC4.fa FA.at)
        · rw [if_pos q2] at k
          have a13 := (a1.trans a2).trans a3
          have hN0 := hN0 (by omega)
          refine hN0.1 (n + 1) c M3 _ h3 (hC.fa a13) (by rw [a13.2 _ (by decide) (by decide)]; exact hO) (by omega) ?_
          cases e : aE t fog F 0 (dp + 1) (n + 1) c with
          | inl er =>
            rw [e] at k
            intro M4 cl a4 fk e2 e3 e4 e5
            exact m_takeSignF (nfz fk e2) (k M4 cl ((FG.rfl.fa a13).trans a4) fk e2 e3 e4 (by omega))
          | inr x =>
            rw [e] at k
            obtain ⟨g1, g2⟩ := hN0.2 _ _ _ e
            intro M4 a4 h4 hC4
            have k : MLR t N fog f n c (chk (cSg t 41 x.1) (.inr (x.1 + 1, x.2))) M Q := k
            have hx := h4.2.2.2.2.1
            refine m_takeSign (c := 41) h4 (by decide) (fun er e5 fk M5 a5 h5 => ?_) (fun e5 M5 a5 h5 => ?_)
            · rw [e5] at k
              exact k M5 (f + x.2.length) (((FG.rfl.fa a13).trans a4).fa a5) fk h5 (hC4.fa a5).1 (by omega) (by omega)
            · rw [e5] at k
              exact k M5 (((FG.rfl.fa a13).trans a4).fa a5) h5 (hC4.fa a5)
      · rw [if_pos q] at k
        have a12 := a1.trans a2
        have hN5 := hN5 (by omega)
        refine hN5.1 (n + 1) c M2 _ h2 (hC.fa a12) (by rw [a12.2 _ (by decide) (by decide)]; exact hO) (by omega) ?_
        cases e : aE t fog F 5 (dp + 1) (n + 1) c with
        | inl er =>
          rw [e] at k
          intro M4 cl a4 fk e2 e3 e4 e5
          refine m_emitF (f := f) e3 (by omega) e4 (fun M5 a5 f5 g5 => ?_)
          exact k M5 (cl + 1) (((FG.rfl.fa a12).trans a4).trans a5) fk (f5.trans e2) g5 (by omega) (by omega)
        | inr x =>
          rw [e] at k
          obtain ⟨g1, g2⟩ := hN5.2 _ _ _ e
          intro M4 a4 h4 hC4
          have hx := h4.n
          exact m_emit (x := -5) h4 hC4 (by omega) (by decide) (fun z => absurd z (by decide)) (fun M5 a5 h5 hC5 => k M5 (((FG.rfl.fa a12).trans a4).trans a5) h5 hC5)
    · rw [if_pos (by omega)] at k
      exact m_wrong (a := 5) h1 (by decide) (by decide) (fun fk M2 a2 h2 => bad _ _ _ M2 (a1.trans a2) fk h2 k)
  refine ⟨fun z => ?_, fun z => ?_⟩
  · refine good M FA.rfl hA (Or.inr (Or.inr (Or.inr (fun y => ?_))))
    rw [hfx.1 y] at z; exact absurd z (by decide)
  · have f0 : fctQ fog (kK t n) = 0 := Decidable.byContradiction (fun y => z (hfx.2 y).2)
    refine ⟨fun z2 => good M FA.rfl hA (Or.inl ?_), fun z2 => ?_⟩
    · exact Decidable.byContradiction (fun y => by rw [decide_eq_false y] at z2; exact absurd rfl z2)
    · have s2 : ¬ kS t n = 2 := fun y => by rw [decide_eq_true y] at z2; exact absurd z2 (by decide)
      refine m_isSign (c := 40) hA (by decide) ⟨fun z3 => good M FA.rfl hA (Or.inr (Or.inl (of_decide_eq_true z3))), fun z3 => ?_⟩
      have z3 := of_decide_eq_false z3
      refine m_isWord (q := 17) hA (by decide) ⟨fun z4 => good M FA.rfl hA (Or.inr (Or.inr (Or.inl (of_decide_eq_true z4)))), fun z4 => ?_⟩
      have z4 := of_decide_eq_false z4
      have nC : ¬ (kS t n = 2 ∨ (kS t n = 3 ∧ kC t n = 40) ∨ kK t n = 17 ∨ fctQ fog (kK t n) ≠ 0) := by
        rintro (y | y | y | y)
        · exact s2 y
        · exact z3 y
        · exact z4 y
        · exact y f0
      rw [if_neg nC] at k
      exact m_wrong (a := 1) hA (by decide) (by decide) (fun fk M2 a2 h2 => bad _ _ _ M2 a2 fk h2 k)
