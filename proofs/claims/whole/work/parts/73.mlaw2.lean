/-! the reference's reader: laws and lines -/
theorem m_testB {t : List Nat} {N : Nat} {fog : Bool} {f F dp : Nat} {r1 r2 r3 r4 r5 : Int32 → Mem → (Mem → Prop) → Prop} (hr : RecOk t N fog f (aE t fog F 2 dp) (r3 (nI dp))) {n : Nat} {c : List Int32} {M : Mem} {Q : Mem → Prop} (hA : MA t N n M) (hC : MCo fog f c M) (hO : M.1 c_mo Mo_ofFog = b2i fog) (hb : f + c.length ≤ n) (k : MLR t N fog f n c (aE t fog (F + 1) 1 dp n c) M Q) : w_Mo_test_body r1 r2 r3 r4 r5 (nI dp) M Q := by
  rw [aE, if_neg (by decide), if_neg (by decide)] at k
  unfold w_Mo_test_body
  refine hr.1 n c M _ hA hC hO hb ?_
  have hNN := hA.N
  cases e : aE t fog F (1 + 1) dp n c with
  | inl er =>
    rw [e] at k
    have e : aE t fog F 2 dp n c = .inl er := e
    intro M1 cl a1 fk e2 e3 e4 e5
    refine m_isSignF (nfz fk e2) (m_hasSignF (nfz fk e2) (fun M2 a2 h2 => gF (m_hasSignF (nfz fk (h2.trans e2)) (fun M3 a3 h3 => fF ?_))))
    exact k M3 cl ((a1.fa a2).fa a3) fk (h3.trans (h2.trans e2)) (by rw [a3.2 _ (by decide) (by decide), a2.2 _ (by decide) (by decide)]; exact e3) e4 e5
  | inr x =>
    rw [e] at k
    have e : aE t fog F 2 dp n c = .inr x := e
    obtain ⟨g1, g2⟩ := hr.2 _ _ _ e
    intro M1 a1 h1 hC1
    have k : MLR t N fog f n c (lp t (aE t fog F 2 dp) 1 (999 + 1) x.1 x.2) M Q := k
    rw [lp] at k
    have eo : opAt t 1 x.1 = (if kS t x.1 = 3 ∧ kC t x.1 = 60 then -9 else if kS t x.1 = 3 ∧ kC t x.1 = 61 then -10 else 0) := rfl
    have hx := h1.n
    have go : ∀ (M2 : Mem) (l2 : Int32), opAt t 1 x.1 ≠ 0 → FA M1 M2 → MA t N (x.1 + 1) M2 → (if l2 = 0 then (8 : Int32) else 7) = eop (opAt t 1 x.1) → w_Mo_test_j30 r1 r2 r3 r4 r5 (nI dp) l2 M2 Q := by
      intro M2 l2 ho a2 h2 ha
      rw [if_neg ho] at k
      have hob := op_bin ho
      unfold w_Mo_test_j30 w_Mo_test_j47
      refine hr.1 (x.1 + 1) x.2 M2 _ h2 (hC1.fa a2) (by rw [a2.2 _ (by decide) (by decide), a1.of]; exact hO) (by omega) ?_
      cases e9 : aE t fog F 2 dp (x.1 + 1) x.2 with
      | inl er =>
        rw [e9] at k
        intro M3 cl a3 fk e2 e3 e4 e5
        refine m_emitF (f := f) e3 (by omega) e4 (fun M4 a4 f4 g4 => ?_)
        exact k M4 (cl + 1) (((a1.fa a2).trans a3).trans a4) fk (f4.trans e2) g4 (by omega) (by omega)
      | inr y =>
        rw [e9] at k
        obtain ⟨g3, g4⟩ := hr.2 _ _ _ e9
        intro M3 a3 h3 hC3
        have hy := h3.n
        have k : MLR t N fog f n c (.inr (y.1, y.2 ++ [opAt t 1 x.1])) M Q := k
        exact m_emit (x := opAt t 1 x.1) h3 hC3 (by omega) ha (fun z => absurd z hob.2.1) (fun M4 a4 h4 hC4 => k M4 (((a1.fa a2).trans a3).trans a4) h4 hC4)
    refine m_isSign (c := 60) h1 (by decide) ?_
    refine m_hasSign (c := 60) h1 (by decide) (fun y M2 a2 h2 => gF ?_) (fun y M2 a2 h2 => gT ?_)
    · rw [if_neg y] at eo
      refine m_hasSign (c := 61) h2 (by decide) (fun y2 M3 a3 h3 => fF ?_) (fun y2 M3 a3 h3 => fT ?_)
      · rw [if_neg y2] at eo
        rw [if_pos eo] at k
        exact k M3 ((a1.fa a2).fa a3) h3 ((hC1.fa a2).fa a3)
      · rw [if_pos y2] at eo
        rw [decide_eq_false y]
        exact go M3 _ (by rw [eo]; decide) (a2.trans a3) h3 (by rw [eo]; decide)
    · rw [if_pos y] at eo
      rw [decide_eq_true y]
      exact go M2 _ (by rw [eo]; decide) a2 h2 (by rw [eo]; decide)
theorem RecOk.gd {t : List Nat} {fog : Bool} {F lv dp : Nat} (hl : lv ≤ 5) : ∀ n c x, aE t fog F lv dp n c = .inr x → n < x.1 ∧ n + x.2.length ≤ x.1 + c.length := fun n c x h => ⟨(aE_good F lv dp n c x hl h).1, (aE_good F lv dp n c x hl h).2.1⟩
def mu (lv dp : Nat) : Nat := 6 * (5 - dp) + (5 - lv) + 1
theorem m_rec {t : List Nat} {N : Nat} {fog : Bool} {f : Nat} : ∀ F m dp, F ≤ m → dp ≤ 5 → (mu 0 dp ≤ F → RecOk t N fog f (aE t fog F 0 dp) (w_Mo_all m (nI dp))) ∧ (mu 1 dp ≤ F → RecOk t N fog f (aE t fog F 1 dp) (w_Mo_test m (nI dp))) ∧ (mu 2 dp ≤ F → RecOk t N fog f (aE t fog F 2 dp) (w_Mo_sums m (nI dp))) ∧ (mu 3 dp ≤ F → RecOk t N fog f (aE t fog F 3 dp) (w_Mo_products m (nI dp))) ∧ (mu 4 dp ≤ F → RecOk t N fog f (aE t fog F 4 dp) (w_Mo_takePart m (nI dp))) ∧ (mu 5 dp ≤ F → RecOk t N fog f (aE t fog F 5 dp) (w_Mo_takePart m (nI dp)))
  | 0, m, dp, _, _ => by
    have : ∀ lv, ¬ mu lv dp ≤ 0 := fun lv => by unfold mu; omega
    exact ⟨fun h => absurd h (this 0), fun h => absurd h (this 1), fun h => absurd h (this 2), fun h => absurd h (this 3), fun h => absurd h (this 4), fun h => absurd h (this 5)⟩
  | F + 1, m, dp, hm, hd => by
    obtain ⟨m, rfl⟩ : ∃ m', m = m' + 1 := ⟨m - 1, by omega⟩
    have ih := m_rec (t := t) (N := N) (fog := fog) (f := f) F m dp (by omega) hd
    have ih1 := m_rec (t := t) (N := N) (fog := fog) (f := f) F (m + 1) dp (by omega) hd
    refine ⟨fun h => ⟨fun n c M Q hA hC hO hb k => ?_, RecOk.gd (by decide)⟩, fun h => ⟨fun n c M Q hA hC hO hb k => ?_, RecOk.gd (by decide)⟩, fun h => ⟨fun n c M Q hA hC hO hb k => ?_, RecOk.gd (by decide)⟩, fun h => ⟨fun n c M Q hA hC hO hb k => ?_, RecOk.gd (by decide)⟩, fun h => ⟨fun n c M Q hA hC hO hb k => ?_, RecOk.gd (by decide)⟩, fun h => ⟨fun n c M Q hA hC hO hb k => ?_, RecOk.gd (by decide)⟩⟩
    · have r := ih.2.1 (by unfold mu at *; omega)
      rw [aE, if_neg (by decide), if_neg (by decide)] at k
      show w_Mo_all_body (wg_Mo_all m).1 (wg_Mo_all m).2.1 (wg_Mo_all m).2.2.1 (wg_Mo_all m).2.2.2.1 (wg_Mo_all m).2.2.2.2 (nI dp) M Q
      unfold w_Mo_all_body
      refine r.1 n c M _ hA hC hO hb ?_
      cases e : aE t fog F (0 + 1) dp n c with
      | inl er =>
        rw [e] at k
        have e : aE t fog F 1 dp n c = .inl er := e
        intro M1 cl a1 fk e2 e3 e4 e5
        exact ⟨1, m_isWordF (nfz fk e2) (gF (m_isWordF (nfz fk e2) (fF (k M1 cl a1 fk e2 e3 e4 e5))))⟩
      | inr x =>
        rw [e] at k
        have e : aE t fog F 1 dp n c = .inr x := e
        obtain ⟨g1, g2⟩ := r.2 _ _ _ e
        intro M1 a1 h1 hC1
        exact ⟨1001, m_allL r 1000 x.1 x.2 M1 (by omega) h1 hC1 (by rw [a1.of]; exact hO) (by omega) a1 g2 k⟩
    · have r := ih.2.2.1 (by unfold mu at *; omega)
      exact m_testB r hA hC hO hb k
    · have r := ih.2.2.2.1 (by unfold mu at *; omega)
      rw [aE, if_neg (by decide), if_neg (by decide)] at k
      show w_Mo_sums_body (wg_Mo_all m).1 (wg_Mo_all m).2.1 (wg_Mo_all m).2.2.1 (wg_Mo_all m).2.2.2.1 (wg_Mo_all m).2.2.2.2 (nI dp) M Q
      unfold w_Mo_sums_body
      refine r.1 n c M _ hA hC hO hb ?_
      cases e : aE t fog F (2 + 1) dp n c with
      | inl er =>
        rw [e] at k
        have e : aE t fog F 3 dp n c = .inl er := e
        intro M1 cl a1 fk e2 e3 e4 e5
        exact ⟨1, m_isSignF (nfz fk e2) (gF (m_isSignF (nfz fk e2) (fF (k M1 cl a1 fk e2 e3 e4 e5))))⟩
      | inr x =>
        rw [e] at k
        have e : aE t fog F 3 dp n c = .inr x := e
        obtain ⟨g1, g2⟩ := r.2 _ _ _ e
        intro M1 a1 h1 hC1
        exact ⟨1001, m_sumsL r 1000 x.1 x.2 M1 (by omega) h1 hC1 (by rw [a1.of]; exact hO) (by omega) a1 g2 k⟩
    · have r := ih.2.2.2.2.1 (by unfold mu at *; omega)
      rw [aE, if_neg (by decide), if_neg (by decide)] at k
      show w_Mo_products_body (wg_Mo_all m).1 (wg_Mo_all m).2.1 (wg_Mo_all m).2.2.1 (wg_Mo_all m).2.2.2.1 (wg_Mo_all m).2.2.2.2 (nI dp) M Q
      unfold w_Mo_products_body
      refine r.1 n c M _ hA hC hO hb ?_
      cases e : aE t fog F (3 + 1) dp n c with
      | inl er =>
        rw [e] at k
        have e : aE t fog F 4 dp n c = .inl er := e
        intro M1 cl a1 fk e2 e3 e4 e5
        exact ⟨1, m_hasSignF (nfz fk e2) (fun M2 a2 h2 => fF (k M2 cl (a1.fa a2) fk (h2.trans e2) (by rw [a2.2 _ (by decide) (by decide)]; exact e3) e4 e5))⟩
      | inr x =>
        rw [e] at k
        have e : aE t fog F 4 dp n c = .inr x := e
        obtain ⟨g1, g2⟩ := r.2 _ _ _ e
        intro M1 a1 h1 hC1
        exact ⟨1001, m_productsL r 1000 x.1 x.2 M1 (by omega) h1 hC1 (by rw [a1.of]; exact hO) (by omega) a1 g2 k⟩
    · rw [aE, if_neg (by decide), if_pos rfl] at k
      exact (ih1.2.2.2.2.2 (by unfold mu at *; omega)).1 n c M Q hA hC hO hb k
    · rw [aE, if_pos rfl] at k
      show w_Mo_takePart_body (wg_Mo_all m).1 (wg_Mo_all m).2.1 (wg_Mo_all m).2.2.1 (wg_Mo_all m).2.2.2.1 (wg_Mo_all m).2.2.2.2 (nI dp) M Q
      exact m_part hd (fun h5 => (m_rec F m (dp + 1) (by omega) (by omega)).2.2.2.2.2 (by unfold mu at *; omega)) (fun h5 => (m_rec F m (dp + 1) (by omega) (by omega)).1 (by unfold mu at *; omega)) hA hC hO hb k
theorem m_lawT {t : List Nat} {N n : Nat} {fog : Bool} {d : Dr} {M : Mem} {Q : Mem → Prop} (hA : MA t N n M) (h0 : kS t n ≠ 0) (hD : MDr d n M) (hO : M.1 c_mo Mo_ofFog = b2i fog) (k : MRes t N (aLaw t fog n d) M Q) : w_Mo_readLaw_j32 M (fun M1 => w_Mo_takeSign 59 M1 Q) := by
  unfold aLaw at k
  unfold w_Mo_readLaw_j32 w_Mo_readLaw_j47
  obtain ⟨cl, p1, p2, p3, p4⟩ := hD.1.2.2.2.2.2.2
  have hn := hA.n
  have ei : (185 : Int32) + (if M.1 c_mo Mo_ofFog = 0 then (0 : Int32) else 1) = nI (if fog then 186 else 185) := by
    rw [hO]; cases fog <;> decide
  have hi : (if fog then 186 else 185) = 185 ∨ (if fog then 186 else 185) = 186 := by cases fog <;> decide
  have hlw : MLw fog (if fog then 186 else 185) (rlaw fog d) cl M := by
    cases fog
    · exact p3
    · exact p4
  have hot : ∀ M', M'.1 c_mo_lands (if fog then 185 else 186) = M.1 c_mo_lands (if fog then 185 else 186) → (∀ j, j < cl → M'.1 c_mo_op (1100 + j) = M.1 c_mo_op (1100 + j) ∧ M'.1 c_mo_arg (1100 + j) = M.1 c_mo_arg (1100 + j)) → ∀ cl', cl ≤ cl' → ∀ c, MLw fog (if fog then 186 else 185) (some c) cl' M' → MLw false 185 (rowe (uLaw fog d c)) cl' M' ∧ MLw true 186 (rfog (uLaw fog d c)) cl' M' := by
    intro M' e1 e2 cl' hc c hw
    cases fog
    · exact ⟨hw, p4.mv e1 e2 hc⟩
    · exact ⟨p3.mv e1 e2 hc, hw⟩
  have hoi : (if fog then 185 else 186) ≠ (if fog then 186 else 185) := by cases fog <;> decide
  have hoi2 : (if fog then 185 else 186) = 185 ∨ (if fog then 185 else 186) = 186 := by cases fog <;> decide
  rw [ei]
  generalize (if fog then 186 else 185) = ix at hi hlw hot hoi
  generalize (if fog then 185 else 186) = iy at hot hoi hoi2
  rw [nI_clamp (by omega)]
  have v := vp_in_nI (n := ix) (N := 360) (by omega) (by decide)
  refine ⟨v, fun z => ⟨v, ?_⟩, fun z => ?_⟩
  · have zn : rlaw fog d = none := by
      cases e : rlaw fog d with
      | none => rfl
      | some c =>
        rw [e] at hlw
        obtain ⟨f, q1, q2, _⟩ := hlw
        rw [q1] at z
        exact absurd z (ni_nneg (by omega))
    rw [if_neg (fun y => y zn)] at k
    rw [p1]
    have hA2 : MA t N (n + 1) (si (si M c_mo Mo_at (M.1 c_mo Mo_at + 1)) c_mo_lands ix (nI cl)) := (hA.nx (hA.lt h0) (by rw [hA.at]; exact nI_1 n)).fr (fr2_si (L := [c_mo_lands]) (by decide)) (by decide)
    have hP2 : MPF M (si (si M c_mo Mo_at (M.1 c_mo Mo_at + 1)) c_mo_lands ix (nI cl)) := (MPF.rfl.mo (by decide) (by decide)).ld (by omega)
    have hC2 : MCo fog cl [] (si (si M c_mo Mo_at (M.1 c_mo Mo_at + 1)) c_mo_lands ix (nI cl)) := ⟨by rw [si_ne _ _ _ (by decide), si_of (by decide)]; exact p1, fun j hj => absurd hj (Nat.not_lt_zero j)⟩
    have hO2 : (si (si M c_mo Mo_at (M.1 c_mo Mo_at + 1)) c_mo_lands ix (nI cl)).1 c_mo Mo_ofFog = b2i fog := by rw [si_ne _ _ _ (by decide), si_of (by decide)]; exact hO
    have el2 : ∀ i, i ≠ ix → (si (si M c_mo Mo_at (M.1 c_mo Mo_at + 1)) c_mo_lands ix (nI cl)).1 c_mo_lands i = M.1 c_mo_lands i := fun i hi => by rw [si_of hi]; rfl
    have ei2 : (si (si M c_mo Mo_at (M.1 c_mo Mo_at + 1)) c_mo_lands ix (nI cl)).1 c_mo_lands ix = nI cl := si_at
    have ec2 : ∀ q, q ≠ c_mo → q ≠ c_mo_lands → (si (si M c_mo Mo_at (M.1 c_mo Mo_at + 1)) c_mo_lands ix (nI cl)).1 q = M.1 q ∧ (si (si M c_mo Mo_at (M.1 c_mo Mo_at + 1)) c_mo_lands ix (nI cl)).2 q = M.2 q := fun q h1 h2 => ⟨by rw [si_ne _ _ _ h2, si_ne _ _ _ h1], rfl⟩
    have em2 : ∀ j, j ≠ Mo_at → (si (si M c_mo Mo_at (M.1 c_mo Mo_at + 1)) c_mo_lands ix (nI cl)).1 c_mo j = M.1 c_mo j := fun j hj => by rw [si_ne _ _ _ (by decide), si_of hj]
    generalize si (si M c_mo Mo_at (M.1 c_mo Mo_at + 1)) c_mo_lands ix (nI cl) = M2 at hA2 hP2 hC2 hO2 el2 ei2 ec2 em2
    refine ⟨36, by decide, ((m_rec (fog := fog) (f := cl) 36 36 0 (by decide) (by decide)).1 (by decide)).1 (n + 1) [] M2 _ hA2 hC2 hO2 (by show cl + 0 ≤ n + 1; omega) ?_⟩
    have pf : ∀ M3, FG cl M2 M3 → MPF M M3 := fun M3 a3 => hP2.trans ⟨a3.1.mono (by decide), fun i _ => by rw [(a3.1 c_mo_lands (by decide)).1], fun i hi => a3.2.2 i (by omega), a3.2.1 _ (by decide) (by decide) (by decide), a3.2.1 _ (by decide) (by decide) (by decide)⟩
    cases e : aE t fog 36 0 0 (n + 1) [] with
    | inl er =>
      rw [e] at k
      intro M3 c3 a3 fk e2 e3 e4 e5
      have hNN := hA.N
      have e5 : c3 + (n + 1) ≤ N + (cl + 0) := e5
      refine m_emitF (f := cl) e3 (by omega) e4 (fun M4 a4 f4 g4 => ?_)
      exact m_endF fk (f4.trans e2) (pf M4 (a3.trans a4)) k
    | inr x =>
      rw [e] at k
      obtain ⟨l1, l2, l3, l4⟩ := law_wf e
      intro M3 a3 h3 hC3
      have hx := h3.n
      unfold w_Mo_emit
      have e11 : 1100 + nI (cl + x.2.length) = nI (1100 + (cl + x.2.length)) := by simp only [fa_lit, nI_add]
      rw [hC3.1, e11, nI_clamp (by omega), nI_1]
      have v2 := vp_in_nI (n := 1100 + (cl + x.2.length)) (N := 2200) (by omega) (by decide)
      refine ⟨v2, v2, ?_⟩
      have a4 : FG cl M3 (si (si (si M3 c_mo_op (1100 + (cl + x.2.length)) 0) c_mo_arg (1100 + (cl + x.2.length)) 0) c_mo Mo_codes (nI (cl + x.2.length + 1))) := by
        refine ⟨((fr2_si (by decide)).trans (fr2_si (by decide))).trans (fr2_si (by decide)), fun j a b c => ?_, fun i hi => ?_⟩
        · rw [si_of c]; rfl
        · rw [si_ne _ _ _ (by decide), si_ne _ _ _ (by decide), si_of (by omega), si_ne _ _ _ (by decide), si_of (by omega), si_ne _ _ _ (by decide)]; exact ⟨rfl, rfl⟩
      have h4 : MA t N x.1 (si (si (si M3 c_mo_op (1100 + (cl + x.2.length)) 0) c_mo_arg (1100 + (cl + x.2.length)) 0) c_mo Mo_codes (nI (cl + x.2.length + 1))) := (h3.fr (M' := si (si M3 c_mo_op (1100 + (cl + x.2.length)) 0) c_mo_arg (1100 + (cl + x.2.length)) 0) ((fr2_si (by decide)).trans (fr2_si (by decide)) : Fr2 [c_mo_op, c_mo_arg] M3 _) (by decide)).sl (by decide) (by decide)
      have c4 : (si (si (si M3 c_mo_op (1100 + (cl + x.2.length)) 0) c_mo_arg (1100 + (cl + x.2.length)) 0) c_mo Mo_codes (nI (cl + x.2.length + 1))).1 c_mo Mo_codes = nI (cl + x.2.length + 1) := si_at
      have o4 : ∀ j, j < x.2.length → (si (si (si M3 c_mo_op (1100 + (cl + x.2.length)) 0) c_mo_arg (1100 + (cl + x.2.length)) 0) c_mo Mo_codes (nI (cl + x.2.length + 1))).1 c_mo_op (1100 + (cl + j)) = eop (x.2.getD j 0) ∧ (-5 < x.2.getD j 0 → (si (si (si M3 c_mo_op (1100 + (cl + x.2.length)) 0) c_mo_arg (1100 + (cl + x.2.length)) 0) c_mo Mo_codes (nI (cl + x.2.length + 1))).1 c_mo_arg (1100 + (cl + j)) = earg fog (x.2.getD j 0)) := fun j hj => by
        show (si M3 c_mo_op (1100 + (cl + x.2.length)) 0).1 c_mo_op (1100 + (cl + j)) = eop (x.2.getD j 0) ∧ (-5 < x.2.getD j 0 → (si M3 c_mo_arg (1100 + (cl + x.2.length)) 0).1 c_mo_arg (1100 + (cl + j)) = earg fog (x.2.getD j 0))
        rw [si_of (by omega), si_of (by omega)]; exact hC3.2 j hj
      have o5 : (si (si (si M3 c_mo_op (1100 + (cl + x.2.length)) 0) c_mo_arg (1100 + (cl + x.2.length)) 0) c_mo Mo_codes (nI (cl + x.2.length + 1))).1 c_mo_op (1100 + (cl + x.2.length)) = 0 := by
        show (si M3 c_mo_op (1100 + (cl + x.2.length)) 0).1 c_mo_op (1100 + (cl + x.2.length)) = 0
        exact si_at
      generalize si (si (si M3 c_mo_op (1100 + (cl + x.2.length)) 0) c_mo_arg (1100 + (cl + x.2.length)) 0) c_mo Mo_codes (nI (cl + x.2.length + 1)) = M4 at a4 h4 c4 o4 o5
      have a34 := a3.trans a4
      have el : ∀ i, M4.1 c_mo_lands i = M2.1 c_mo_lands i := fun i => by rw [(a34.1 c_mo_lands (by decide)).1]
      have hixn : ∀ i, i ≠ 185 → i ≠ 186 → i ≠ ix := fun i h1 h2 => by omega
      have el3 : ∀ i, i ≠ 185 → i ≠ 186 → M4.1 c_mo_lands i = M.1 c_mo_lands i := fun i h1 h2 => by rw [el, el2 i (hixn i h1 h2)]
      have em : ∀ j, j ≠ Mo_at → j ≠ Mo_fault → j ≠ Mo_codes → M4.1 c_mo j = M.1 c_mo j := fun j h1 h2 h3 => by rw [a34.2.1 j h1 h2 h3, em2 j h1]
      have ec : ∀ q, q ∉ [c_mo, c_mo_op, c_mo_arg] → q ≠ c_mo_lands → M4.1 q = M.1 q ∧ M4.2 q = M.2 q := fun q h1 h2 => by
        have hq : q ≠ c_mo := fun y => h1 (by rw [y]; decide)
        exact ⟨(a34.1 q h1).1.trans (ec2 q hq h2).1, (a34.1 q h1).2.trans (ec2 q hq h2).2⟩
      have eop4 : ∀ j, j < cl → M4.1 c_mo_op (1100 + j) = M.1 c_mo_op (1100 + j) ∧ M4.1 c_mo_arg (1100 + j) = M.1 c_mo_arg (1100 + j) := fun j hj => by
        obtain ⟨b1, b2⟩ := a34.2.2 (1100 + j) (by omega)
        rw [b1, b2, (ec2 c_mo_op (by decide) (by decide)).1, (ec2 c_mo_arg (by decide) (by decide)).1]; exact ⟨rfl, rfl⟩
      have hlaws := hot M4 (by rw [el, el2 _ hoi]) eop4 (cl + x.2.length + 1) (by omega) x.2 ⟨cl, by rw [el]; exact ei2, by omega, o4, o5⟩
      obtain ⟨⟨b1, b2, b3, b4, b5⟩, b6, b7, b8, b9, b10, _⟩ := hD.1
      have hDe : MD0 (uLaw fog d x.2) (x.1) M4 := by
        refine ⟨⟨?_, ?_, ?_, ?_, ?_⟩, ?_, fun p hp => ?_, fun b hb => ?_, ?_, ?_, cl + x.2.length + 1, c4, by omega, hlaws⟩
        · rw [el3 _ (by decide) (by decide)]; exact b1
        · rw [el3 _ (by decide) (by decide)]; exact b2
        · rw [el3 _ (by decide) (by decide)]; exact b3
        · rw [el3 _ (by decide) (by decide)]; exact b4
        · rw [el3 _ (by decide) (by decide)]; exact b5
        · rw [em _ (by decide) (by decide) (by decide), em _ (by decide) (by decide) (by decide), em _ (by decide) (by decide) (by decide)]; exact b6
        · rw [el3 _ (by omega) (by omega), el3 _ (by omega) (by omega)]; exact b7 p hp
        · rw [el3 _ (by omega) (by omega)]; exact b8 b hb
        · rw [(ec c_mo_goes (by decide) (by decide)).1]; exact b9
        · rw [(ec c_mo_readCalls (by decide) (by decide)).1]; exact b10
      have hNe : MN (uLaw fog d x.2) M4 := hD.2.mv (em _ (by decide) (by decide) (by decide)) (ec c_mo_nameOf (by decide) (by decide)).1 (ec c_mo_names (by decide) (by decide)).2
      exact m_end h4 hDe hNe (by omega) (pf M4 a34) k
  · have zn : rlaw fog d ≠ none := fun y => by
      rw [y] at hlw
      have hlw : M.1 c_mo_lands ix = -1 := hlw
      rw [hlw] at z; exact absurd (by decide) z
    rw [if_pos zn] at k
    exact m_wrong (a := 3) hA (by decide) (by decide) (fun fk M1 a1 h1 => m_endF fk h1 (MPF.rfl.fa a1) k)
