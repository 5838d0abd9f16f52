/-! how the state lies in the reference's cells -/
def eop (v : Int32) : Int32 := if -1 < v then 1 else if -5 < v then 2 else if v = -5 then 3 else if v = -6 then 6 else if v = -7 then 4 else if v = -8 then 5 else if v = -9 then 7 else if v = -10 then 8 else if v = -11 then 9 else 10
def earg (fog : Bool) (v : Int32) : Int32 := if -1 < v then v else if v = -1 then 0 else if v = -2 then (if fog then 4 else 1) else if v = -3 then (if fog then 5 else 2) else 3
def MLaw (fog : Bool) (dflt : Int32) (i : Nat) (c : List Int32) (M : Mem) : Prop := (M.1 c_mo_lands i = -1 ∧ c = [dflt]) ∨ ∃ f, M.1 c_mo_lands i = nI f ∧ f + c.length < 1100 ∧ (∀ j, j < c.length → M.1 c_mo_op (f + j) = eop (c.getD j 0) ∧ (-5 < c.getD j 0 → M.1 c_mo_arg (f + j) = earg fog (c.getD j 0))) ∧ M.1 c_mo_op (f + c.length) = 0 ∧ (fog = true → ∀ j, j < c.length → c.getD j 0 ≠ -4)
def ML (l : Land) (M : Mem) : Prop :=
  (M.1 c_mo_lands 0 = nI (lwide l) ∧ M.1 c_mo_lands 1 = nI (ldeep l)) ∧ M.1 c_mo_lands 2 = nI (lnp l) ∧ M.1 c_mo_lands 3 = nI (lnb l) ∧ M.1 c_mo_lands 4 = nI (lhear l) ∧
  (∀ p, p < lnp l → M.1 c_mo_lands (7 + 2 * p) = nI (lkind l p)) ∧ (∀ p, p < lnp l → M.1 c_mo_lands (7 + 2 * p + 1) = nI (lpurse l p)) ∧ (∀ p h, p < lnp l → h < 24 → M.1 c_mo_lands (19 + 24 * p + h) = nI (lplace l (p * 24 + h))) ∧ (∀ b, b < lnb l → M.1 c_mo_lands (163 + b) = nI (lbush l b)) ∧
  MLaw false 1 5 (lowe l) M ∧ MLaw true 14 6 (lfog l) M
theorem ML.mv {l : Land} {M M' : Mem} (h : ML l M) (e1 : M'.1 c_mo_lands = M.1 c_mo_lands) (e2 : M'.1 c_mo_op = M.1 c_mo_op) (e3 : M'.1 c_mo_arg = M.1 c_mo_arg) : ML l M' := by
  unfold ML MLaw at h ⊢
  rw [e1, e2, e3]; exact h
abbrev MLc : List Nat := [c_mo_lands, c_mo_op, c_mo_arg]
theorem ML.fr {l : Land} {M M' : Mem} {L : List Nat} (h : ML l M) (hF : Fr L M M') (hd : ∀ k ∈ MLc, k ∉ L) : ML l M' := h.mv (hF.1 _ (hd _ (by decide))) (hF.1 _ (hd _ (by decide))) (hF.1 _ (hd _ (by decide)))
def MSn (s : Nat) (n : Snap) (M : Mem) : Prop := (∀ i, i < 120 → M.1 c_mo_state (128 * s + i) = nI (n.1 i)) ∧ M.1 c_mo_state (128 * s + 120) = nI n.2
def MD (s : Nat) (d : Deeds) (M : Mem) : Prop := MSn s (snp d) M ∧ ∀ p, p < 6 → M.1 c_mo_state (128 * s + 121 + p) = ddebt d p
def MHX : List Snap → Mem → Prop
  | [], _ => True
  | s :: r, M => MSn (5 + r.length) s M ∧ MHX r M
def MMk (mk : Nat → Option Deeds) (M : Mem) : Prop := ∀ k, k < 4 → M.1 c_mo_isMarked k = b2i (mk k).isSome ∧ ∀ d, mk k = some d → MD (1 + k) d M
def MTp (t : List Nat) (M : Mem) : Prop := M.1 c_mo Mo_taped = nI t.length ∧ t.length ≤ 1000 ∧ ∀ i, i < t.length → M.1 c_mo_tape i = nI (t.getD i 0)
def w37 (w : List Nat) : Nat := w.foldl (fun a c => 37 * a + c) 0
def fctW : List Int32 := [5, 20, 21, 8, 22, 23]
def MK (M : Mem) : Prop := (∀ i, i < 24 → M.2 c_mo_words i = lN (w37 (KW.getD i []))) ∧ ∀ i, i < 6 → M.1 c_mo_factWords i = fctW.getD i 0
def MRep (σ : St) (M : Mem) : Prop := ML (sL σ) M ∧ MD 0 (sD σ) M ∧ MMk (sM σ) M ∧ (M.1 c_mo Mo_undos = nI (sH σ).length ∧ MHX (sH σ) M) ∧ MTp (sT σ) M ∧ MK M
theorem MSn.fr {s s' : Nat} {n : Snap} {M M' : Mem} (h : MSn s n M) (e : ∀ i, i < 121 → M'.1 c_mo_state (128 * s' + i) = M.1 c_mo_state (128 * s + i)) : MSn s' n M' := ⟨fun i hi => (e i (by omega)).trans (h.1 i hi), (e 120 (by decide)).trans h.2⟩
theorem MD.fr {s s' : Nat} {d : Deeds} {M M' : Mem} (h : MD s d M) (e : ∀ i, i < 128 → M'.1 c_mo_state (128 * s' + i) = M.1 c_mo_state (128 * s + i)) : MD s' d M' := ⟨h.1.fr (fun i hi => e i (by omega)), fun p hp => by have := e (121 + p) (by omega); rw [← Nat.add_assoc, ← Nat.add_assoc] at this; rw [this]; exact h.2 p hp⟩
theorem MHX.fr {M M' : Mem} : ∀ {hs : List Snap}, MHX hs M → (∀ j i, j < hs.length → i < 121 → M'.1 c_mo_state (128 * (5 + j) + i) = M.1 c_mo_state (128 * (5 + j) + i)) → MHX hs M'
  | [], _, _ => trivial
  | s :: r, h, e => ⟨h.1.fr (fun i hi => e r.length i (by rw [List.length_cons]; omega) hi), h.2.fr (fun j i hj hi => e j i (by rw [List.length_cons]; omega) hi)⟩
theorem MHX.drop {M M' : Mem} : ∀ {hs : List Snap}, MHX hs M → hs.length ≤ 20 → (∀ j i, j < 19 → i < 121 → M'.1 c_mo_state (128 * (5 + j) + i) = M.1 c_mo_state (128 * (5 + (j + 1)) + i)) → MHX hs.dropLast M'
  | [], _, _, _ => trivial
  | [_], _, _, _ => trivial
  | s :: t :: r, h, hn, e => by
    rw [List.length_cons, List.length_cons] at hn
    have ih := MHX.drop (hs := t :: r) h.2 (by rw [List.length_cons]; omega) e
    refine ⟨?_, ih⟩
    have hlen : (t :: r).dropLast.length = r.length := by simp
    rw [hlen]
    exact h.1.fr (fun i hi => e r.length i (by omega) hi)
/-- what the state rests on -/
abbrev MCs : List Nat := [c_mo_lands, c_mo_op, c_mo_arg, c_mo_state, c_mo_isMarked, c_mo_tape, c_mo_words, c_mo_factWords]
theorem MMk.mv {mk : Nat → Option Deeds} {M M' : Mem} (h : MMk mk M) (e1 : M'.1 c_mo_state = M.1 c_mo_state) (e2 : M'.1 c_mo_isMarked = M.1 c_mo_isMarked) : MMk mk M' := fun k hk => ⟨by rw [e2]; exact (h k hk).1, fun d hd => ((h k hk).2 d hd).fr (fun i _ => by rw [e1])⟩
theorem MRep.mv {σ : St} {M M' : Mem} (h : MRep σ M) (e : ∀ k ∈ MCs, M'.1 k = M.1 k ∧ M'.2 k = M.2 k) (e1 : M'.1 c_mo Mo_undos = M.1 c_mo Mo_undos) (e2 : M'.1 c_mo Mo_taped = M.1 c_mo Mo_taped) : MRep σ M' := by
  obtain ⟨h1, h2, h3, h4, h5, h6⟩ := h
  have es := (e c_mo_state (by decide)).1
  refine ⟨h1.mv (e _ (by decide)).1 (e _ (by decide)).1 (e _ (by decide)).1, h2.fr (fun i _ => by rw [es]), h3.mv es (e _ (by decide)).1, ⟨by rw [e1]; exact h4.1, h4.2.fr (fun j i _ _ => by rw [es])⟩, ?_, ?_⟩
  · unfold MTp; rw [e2, (e c_mo_tape (by decide)).1]; exact h5
  · unfold MK; rw [(e c_mo_words (by decide)).2, (e c_mo_factWords (by decide)).1]; exact h6
theorem MRep.of {σ : St} {M M' : Mem} {L : List Nat} (h : MRep σ M) (hF : Fr2 L M M') (hd : ∀ k ∈ MCs, k ∉ L) (hc : c_mo ∉ L) : MRep σ M' := h.mv (fun k hk => hF k (hd k hk)) (by rw [(hF _ hc).1]) (by rw [(hF _ hc).1])
/-- a change that leaves what lasts -/
abbrev SMO : List Nat := [69, 70, 71, 72, 73, 74, 75, 76, 77, 78, 79, 80, 81, 82, 83, 84, 85, 86, 87, 88, 89, 90, 91, 92, 93]
theorem MRep.si1 {σ : St} {M : Mem} {j : Nat} {v : Int32} (h : MRep σ M) (h1 : j ≠ Mo_undos) (h2 : j ≠ Mo_taped) : MRep σ (si M c_mo j v) := h.mv (fun k hk => by
    have : k ≠ c_mo := by intro z; subst z; exact absurd hk (by decide)
    exact ⟨si_ne _ _ _ this, rfl⟩) (by rw [si_same, up_n (Ne.symm h1)]) (by rw [si_same, up_n (Ne.symm h2)])
theorem MRep.thr {σ : St} {M : Mem} {v : Int32} (h : MRep σ M) : MRep σ (si M c_mo Mo_thrown v) := h.si1 (by decide) (by decide)
theorem m_isPerson {l : Land} {a : Int32} {M : Mem} {Q : Bool → Mem → Prop} (hL : ML l M) (k : Q (inR (lnp l) a) M) : w_Mo_isPerson a M Q := by
  unfold w_Mo_isPerson w_Mo_persons
  rw [show Int32.toNatClampNeg 2 = 2 from rfl, hL.2.1]
  have := rg_body k
  exact ⟨this.1, fun h => ⟨vp_in_nI (n := 2) (by decide) (by decide), this.2 h⟩⟩
theorem m_isBird {l : Land} {a : Int32} {M : Mem} {Q : Bool → Mem → Prop} (hL : ML l M) (k : Q (inR (lnb l) a) M) : w_Mo_isBird a M Q := by
  unfold w_Mo_isBird w_Mo_birds
  rw [show Int32.toNatClampNeg 3 = 3 from rfl, hL.2.2.1]
  have := rg_body k
  exact ⟨this.1, fun h => ⟨vp_in_nI (n := 3) (by decide) (by decide), this.2 h⟩⟩
theorem m_isHour {a : Int32} {M : Mem} {Q : Bool → Mem → Prop} (k : Q (inR 24 a) M) : w_Mo_isHour a M Q := rg_body (n := 24) k
theorem m_within {a lo hi : Int32} {M : Mem} {Q : Bool → Mem → Prop} (k : Q (!decide (a < lo) && decide (a ≤ hi)) M) : w_Mo_within a lo hi M Q := by
  unfold w_Mo_within
  refine ⟨fun h => ?_, fun h => ⟨decide (a ≤ hi), ?_, ?_⟩⟩
  · rw [decide_eq_true h] at k; exact k
  · by_cases c : a ≤ hi
    · rw [if_neg (fun z => (fa_of_lt z).2.1 c), decide_eq_true c]; rfl
    · rw [if_pos (fa_of_nle c), decide_eq_false c]; rfl
  · rw [decide_eq_false h] at k; exact k
theorem within_inR {a : Int32} {n : Nat} (hn : n < 100000) : (!decide (a < 0) && decide (a ≤ nI n)) = inR (n + 1) a := by
  unfold inR
  by_cases c : a < 0
  · rw [decide_eq_true c, Bool.not_true, Bool.false_and, Bool.false_and]
  · obtain ⟨j, hj, rfl⟩ := nI_of c
    have h1 := nI_leI (b := n) hj (by omega)
    have h2 := nI_ltI (b := n + 1) hj (by omega)
    by_cases c2 : j ≤ n
    · rw [decide_eq_true (h1.mpr c2), decide_eq_true (h2.mpr (by omega))]
    · have n2 : ¬ nI j < nI (n + 1) := fun z => c2 (by have := h2.mp z; omega)
      rw [decide_eq_false (fun z => c2 (h1.mp z)), decide_eq_false n2]
/-! the reference's questions that need no debts -/
theorem m_person {σ : St} {a w : Int32} {M : Mem} {Q : Int32 → Mem → Prop} (hM : MRep σ M) (hl : LOK (sL σ)) (k : ∀ M', Fr2 SMO M M' → MRep σ M' → Q (personR (sL σ) a w) M') : w_Mo_person a w M Q := by
  have hnp := hl.2.2.1
  have hM1 := hM.thr (v := 0)
  have k := k _ (fr2_si (by decide)) hM1
  unfold personR at k
  unfold w_Mo_person
  refine m_isPerson hM1.1 ⟨fun h => ?_, fun h => m_within ⟨fun h2 => ?_, fun h2 => ?_⟩⟩
  · rw [h] at k; exact k
  · rw [h, if_pos rfl] at k
    have n0 : w ≠ 0 := by intro z; subst z; exact absurd h2 (by decide)
    have n1 : w ≠ 1 := by intro z; subst z; exact absurd h2 (by decide)
    rw [if_neg n0, if_neg n1] at k; exact k
  · rw [h, if_pos rfl] at k
    obtain ⟨p, hp, rfl⟩ := inR_true (by omega) h
    have h2 := (within_inR (n := 1) (by decide)).symm.trans h2
    obtain ⟨q, hq, rfl⟩ := inR_true (by decide) h2
    unfold anI at k
    rw [nI_clamp (by omega)] at k
    have ea : 7 + 2 * nI p + nI q = nI (7 + 2 * p + q) := by simp only [fa_lit, pk_mul, nI_add]
    rw [ea, nI_clamp (by omega)]
    refine ⟨vp_in_nI (by omega) (by decide), ?_⟩
    by_cases c : q = 0
    · subst c
      rw [Nat.add_zero, hM1.1.2.2.2.2.1 p hp]; exact k
    · have c : q = 1 := by omega
      subst c
      rw [hM1.1.2.2.2.2.2.1 p hp]; exact k
theorem m_place {σ : St} {a w : Int32} {M : Mem} {Q : Int32 → Mem → Prop} (hM : MRep σ M) (hl : LOK (sL σ)) (k : ∀ M', Fr2 SMO M M' → MRep σ M' → Q (placeR (sL σ) a w) M') : w_Mo_place a w M Q := by
  have hnp := hl.2.2.1
  have hM1 := hM.thr (v := 0)
  have k := k _ (fr2_si (by decide)) hM1
  unfold placeR at k
  unfold w_Mo_place
  refine m_isPerson hM1.1 ⟨fun h => ?_, fun h => m_isHour ⟨fun h2 => ?_, fun h2 => ?_⟩⟩
  · rw [h] at k; exact k
  · rw [h, h2] at k; exact k
  · obtain ⟨p, hp, rfl⟩ := inR_true (by omega) h
    obtain ⟨q, hq, rfl⟩ := inR_true (by omega) h2
    rw [h, h2, if_pos rfl, if_pos rfl] at k
    unfold anI at k
    rw [nI_clamp (by omega), nI_clamp (by omega)] at k
    have ea : 19 + 24 * nI p + nI q = nI (19 + 24 * p + q) := by simp only [fa_lit, pk_mul, nI_add]
    rw [ea, nI_clamp (by omega), hM1.1.2.2.2.2.2.2.1 p q hp hq]
    exact ⟨vp_in_nI (by omega) (by decide), k⟩
theorem m_calls {σ : St} {a w : Int32} {M : Mem} {Q : Int32 → Mem → Prop} (hM : MRep σ M) (hl : LOK (sL σ)) (k : ∀ M', Fr2 SMO M M' → MRep σ M' → Q (callsR (sL σ) (sD σ) a w) M') : w_Mo_calls a w M Q := by
  have hnb := hl.2.2.2.1
  have hM1 := hM.thr (v := 0)
  have k := k _ (fr2_si (by decide)) hM1
  unfold callsR at k
  unfold w_Mo_calls
  refine m_isBird hM1.1 ⟨fun h => ?_, fun h => m_isHour ⟨fun h2 => ?_, fun h2 => ?_⟩⟩
  · rw [h] at k; exact k
  · rw [h, h2] at k; exact k
  · obtain ⟨p, hp, rfl⟩ := inR_true (by omega) h
    obtain ⟨q, hq, rfl⟩ := inR_true (by omega) h2
    rw [h, h2, if_pos rfl, if_pos rfl] at k
    unfold anI at k
    rw [nI_clamp (by omega), nI_clamp (by omega)] at k
    have ea : 24 * nI p + nI q = nI (p * 24 + q) := by simp only [fa_lit, pk_mul, nI_add, Nat.mul_comm]
    have e1 := hM1.2.1.1.1 (p * 24 + q) (by omega)
    rw [Nat.mul_zero, Nat.zero_add] at e1
    rw [ea, nI_clamp (by omega), e1]
    exact ⟨vp_in_nI (by omega) (by decide), k⟩
theorem m_isShot {d : Deeds} {b : Nat} {M : Mem} {Q : Bool → Mem → Prop} (h : MD 0 d M) (h32 : dshot d < 32) (hb : b < 32) (k : Q ((dshot d).testBit b) M) : w_Mo_isShot (nI b) M Q := by
  unfold w_Mo_isShot
  have e := h.1.2
  rw [Nat.mul_zero, Nat.zero_add] at e
  rw [show Int32.toNatClampNeg 120 = 120 from rfl, e]
  refine ⟨vp_in_nI (n := 120) (by decide) (by decide), (dshot d).testBit b, ?_, k⟩
  show (if (nI (dshot d) >>> (nI b &&& 31)) &&& 1 = 1 then (1 : Int32) else 0) = _
  rw [bit_at (by omega) hb]
  unfold bitI
  cases (dshot d).testBit b <;> rfl
theorem m_bird {σ : St} {a w : Int32} {M : Mem} {Q : Int32 → Mem → Prop} (hM : MRep σ M) (hl : LOK (sL σ)) (h32 : dshot (sD σ) < 32) (k : ∀ M', Fr2 SMO M M' → MRep σ M' → Q (birdR (sL σ) (sD σ) a w) M') : w_Mo_bird a w M Q := by
  have hnb := hl.2.2.2.1
  have hM1 := hM.thr (v := 0)
  have k := k _ (fr2_si (by decide)) hM1
  unfold w_Mo_bird
  generalize si M c_mo Mo_thrown 0 = M1 at hM1 k
  unfold birdR at k
  refine m_isBird hM1.1 ⟨fun h => ?_, fun h => m_within ⟨fun h2 => ?_, fun h2 => ?_⟩⟩
  · rw [h] at k; exact k
  · rw [h, if_pos rfl] at k
    obtain ⟨p, hp, rfl⟩ := inR_true (by omega) h
    unfold anI at k
    rw [nI_clamp (by omega)] at k
    refine for_loop (fun n i (M2 : Mem) => w_Mo_bird_L29 (nI p) w (fun y893 M892 => ((¬ w = 0 → ((¬ w = 1 → Q y893 M892) ∧ (w = 1 → w_Mo_isShot (nI p) M892 (fun b895 M894 => ((b895 = false → Q 0 M894) ∧ (b895 = true → Q 1 M894)))))) ∧ (w = 0 → (vp_in (163 + nI p) 360 ∧ Q (M892.1 c_mo_lands (Int32.toNatClampNeg (163 + nI p))) M892)))) Q n (nI (fb_sm (fun h => dtimes (sD σ) (p * 24 + h)) i)) (nI i) M2) (fun i M2 => M2 = M1) 24 0 M1 (Nat.zero_le _) rfl ?_ ?_
    · intro n M2 e
      subst e
      refine br_le (a := 24) (b := 24) (by decide) (by decide) (fun _ => ⟨fun e0 => ⟨fun e1 => ?_, fun e1 => m_isShot hM1.2.1 h32 (by omega) ?_⟩, fun e0 => ?_⟩) (fun q => absurd q (by omega))
      · rw [if_neg e0, if_neg e1] at k
        have h2 := (within_inR (n := 2) (by decide)).symm.trans h2
        obtain ⟨q, hq, rfl⟩ := inR_true (by decide) h2
        have : q = 2 := by
          have : q ≠ 0 := fun z => e0 (by rw [z]; rfl)
          have : q ≠ 1 := fun z => e1 (by rw [z]; rfl)
          omega
        subst this
        exact k
      · rw [if_neg e0, if_pos e1] at k
        unfold bitI at k
        refine ⟨fun z => ?_, fun z => ?_⟩
        · rw [z] at k; exact k
        · rw [z] at k; exact k
      · rw [if_pos e0] at k
        have ea : 163 + nI p = nI (163 + p) := by simp only [fa_lit, nI_add]
        rw [ea, nI_clamp (by omega), hM1.1.2.2.2.2.2.2.2.1 p hp]
        exact ⟨vp_in_nI (by omega) (by decide), k⟩
    · intro n i M2 _ hi e kk
      subst e
      have kk := kk M2 rfl
      rw [fb_sm_succ] at kk
      have ea : 24 * nI p + nI i = nI (p * 24 + i) := by simp only [fa_lit, pk_mul, nI_add, Nat.mul_comm]
      have e1 := hM1.2.1.1.1 (p * 24 + i) (by omega)
      rw [Nat.mul_zero, Nat.zero_add] at e1
      refine br_le (a := 24) (by decide) (by omega) (fun q => absurd q (by omega)) (fun _ => ?_)
      rw [ea, nI_clamp (by omega), e1, nI_1]
      refine ⟨vp_in_nI (by omega) (by decide), fun x ex => ?_⟩
      subst ex
      rw [show (snp (sD σ)).1 = dtimes (sD σ) from rfl, nI_add]
      exact kk
  · rw [h, if_pos rfl] at k
    have n0 : w ≠ 0 := by intro z; subst z; exact absurd h2 (by decide)
    have n1 : w ≠ 1 := by intro z; subst z; exact absurd h2 (by decide)
    have n2 : w ≠ 2 := by intro z; subst z; exact absurd h2 (by decide)
    rw [if_neg n0, if_neg n1, if_neg n2] at k; exact k
