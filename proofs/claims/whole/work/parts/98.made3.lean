/-! what is made: the state before any hills -/
theorem zland_clear {M : Mem} {Q : Mem → Prop} (k : ∀ M', Fr2 [c_land, c_land_times, c_land_code, c_land_owe, c_land_fog] M M' → (M'.1 c_land Land_wide = nI 2 ∧ M'.1 c_land Land_deep = nI 2 ∧ M'.1 c_land Land_people = nI 0 ∧ M'.1 c_land Land_birds = nI 0 ∧ M'.1 c_land Land_hear = nI 14) → XLaw M' c_land_owe c_land_code [1] → XLaw M' c_land_fog c_land_code [14] → Q M') : w_Land_clear_land M Q := by
  unfold w_Land_clear_land
  have f0 : Fr2 [c_land, c_land_times, c_land_code, c_land_owe, c_land_fog] M (si (si (si (si (si M c_land Land_wide 2) c_land Land_deep 2) c_land Land_people 0) c_land Land_birds 0) c_land Land_hear 14) := ((((fr2_si (by decide)).trans (fr2_si (by decide))).trans (fr2_si (by decide))).trans (fr2_si (by decide))).trans (fr2_si (by decide))
  have d0 : (si (si (si (si (si M c_land Land_wide 2) c_land Land_deep 2) c_land Land_people 0) c_land Land_birds 0) c_land Land_hear 14).1 c_land Land_wide = nI 2 ∧ (si (si (si (si (si M c_land Land_wide 2) c_land Land_deep 2) c_land Land_people 0) c_land Land_birds 0) c_land Land_hear 14).1 c_land Land_deep = nI 2 ∧ (si (si (si (si (si M c_land Land_wide 2) c_land Land_deep 2) c_land Land_people 0) c_land Land_birds 0) c_land Land_hear 14).1 c_land Land_people = nI 0 ∧ (si (si (si (si (si M c_land Land_wide 2) c_land Land_deep 2) c_land Land_people 0) c_land Land_birds 0) c_land Land_hear 14).1 c_land Land_birds = nI 0 ∧ (si (si (si (si (si M c_land Land_wide 2) c_land Land_deep 2) c_land Land_people 0) c_land Land_birds 0) c_land Land_hear 14).1 c_land Land_hear = nI 14 := by
    refine ⟨?_, ?_, ?_, ?_, ?_⟩
    · rw [si_of (by decide), si_of (by decide), si_of (by decide), si_of (by decide), si_at]; rfl
    · rw [si_of (by decide), si_of (by decide), si_of (by decide), si_at]; rfl
    · rw [si_of (by decide), si_of (by decide), si_at]; rfl
    · rw [si_of (by decide), si_at]; rfl
    · rw [si_at]; rfl
  generalize si (si (si (si (si M c_land Land_wide 2) c_land Land_deep 2) c_land Land_people 0) c_land Land_birds 0) c_land Land_hear 14 = M0 at f0 d0
  refine zland_fillT (fun M1 f1 t1 => ?_)
  refine zland_holdO (cl := 0) si_at (by decide) (fun M2 f2 a2 b2 c2 l2 o1 o2 o3 => ?_)
  refine zland_holdF (cl := 1) l2 (by decide) (fun M3 f3 a3 b3 c3 l3 p1 p2 p3 => ?_)
  have ed : ∀ j, j ≠ Land_codeLength → M3.1 c_land j = M0.1 c_land j := fun j hj => by
    rw [a3 j hj, a2 j hj, si_of hj, f1.1 c_land (by decide)]
  have eo : M3.1 c_land_owe = M2.1 c_land_owe := f3.1 _ (by decide)
  refine k M3 (((f0.trans (f1.two.mono (by decide))).trans (fr2_si (by decide))).trans ((f2.two.mono (by decide)).trans (f3.two.mono (by decide)))) ⟨?_, ?_, ?_, ?_, ?_⟩ ⟨0, by rw [eo]; exact o2, by rw [eo]; exact o3, by decide, fun i hi => ?_⟩ ⟨1, p2, p3, by decide, fun i hi => ?_⟩
  · rw [ed _ (by decide)]; exact d0.1
  · rw [ed _ (by decide)]; exact d0.2.1
  · rw [ed _ (by decide)]; exact d0.2.2.1
  · rw [ed _ (by decide)]; exact d0.2.2.2.1
  · rw [ed _ (by decide)]; exact d0.2.2.2.2
  · have hi : i < 1 := hi
    have : i = 0 := by omega
    subst this
    rw [b3 _ (by decide)]; exact c2
  · have hi : i < 1 := hi
    have : i = 0 := by omega
    subst this
    exact c3
theorem zdraft_clear {M : Mem} {Q : Mem → Prop} (k : ∀ M', Fr2 [c_draft, c_draft_times, c_draft_code, c_draft_owe, c_draft_fog] M M' → (M'.1 c_draft Land_wide = nI 2 ∧ M'.1 c_draft Land_deep = nI 2 ∧ M'.1 c_draft Land_people = nI 0 ∧ M'.1 c_draft Land_birds = nI 0 ∧ M'.1 c_draft Land_hear = nI 14) → XLaw M' c_draft_owe c_draft_code [1] → XLaw M' c_draft_fog c_draft_code [14] → Q M') : w_Land_clear_draft M Q := by
  unfold w_Land_clear_draft
  have f0 : Fr2 [c_draft, c_draft_times, c_draft_code, c_draft_owe, c_draft_fog] M (si (si (si (si (si M c_draft Land_wide 2) c_draft Land_deep 2) c_draft Land_people 0) c_draft Land_birds 0) c_draft Land_hear 14) := ((((fr2_si (by decide)).trans (fr2_si (by decide))).trans (fr2_si (by decide))).trans (fr2_si (by decide))).trans (fr2_si (by decide))
  have d0 : (si (si (si (si (si M c_draft Land_wide 2) c_draft Land_deep 2) c_draft Land_people 0) c_draft Land_birds 0) c_draft Land_hear 14).1 c_draft Land_wide = nI 2 ∧ (si (si (si (si (si M c_draft Land_wide 2) c_draft Land_deep 2) c_draft Land_people 0) c_draft Land_birds 0) c_draft Land_hear 14).1 c_draft Land_deep = nI 2 ∧ (si (si (si (si (si M c_draft Land_wide 2) c_draft Land_deep 2) c_draft Land_people 0) c_draft Land_birds 0) c_draft Land_hear 14).1 c_draft Land_people = nI 0 ∧ (si (si (si (si (si M c_draft Land_wide 2) c_draft Land_deep 2) c_draft Land_people 0) c_draft Land_birds 0) c_draft Land_hear 14).1 c_draft Land_birds = nI 0 ∧ (si (si (si (si (si M c_draft Land_wide 2) c_draft Land_deep 2) c_draft Land_people 0) c_draft Land_birds 0) c_draft Land_hear 14).1 c_draft Land_hear = nI 14 := by
    refine ⟨?_, ?_, ?_, ?_, ?_⟩
    · rw [si_of (by decide), si_of (by decide), si_of (by decide), si_of (by decide), si_at]; rfl
    · rw [si_of (by decide), si_of (by decide), si_of (by decide), si_at]; rfl
    · rw [si_of (by decide), si_of (by decide), si_at]; rfl
    · rw [si_of (by decide), si_at]; rfl
    · rw [si_at]; rfl
  generalize si (si (si (si (si M c_draft Land_wide 2) c_draft Land_deep 2) c_draft Land_people 0) c_draft Land_birds 0) c_draft Land_hear 14 = M0 at f0 d0
  refine zdraft_fillT (fun M1 f1 t1 => ?_)
  refine zdraft_holdO (cl := 0) si_at (by decide) (fun M2 f2 a2 b2 c2 l2 o1 o2 o3 => ?_)
  refine zdraft_holdF (cl := 1) l2 (by decide) (fun M3 f3 a3 b3 c3 l3 p1 p2 p3 => ?_)
  have ed : ∀ j, j ≠ Land_codeLength → M3.1 c_draft j = M0.1 c_draft j := fun j hj => by
    rw [a3 j hj, a2 j hj, si_of hj, f1.1 c_draft (by decide)]
  have eo : M3.1 c_draft_owe = M2.1 c_draft_owe := f3.1 _ (by decide)
  refine k M3 (((f0.trans (f1.two.mono (by decide))).trans (fr2_si (by decide))).trans ((f2.two.mono (by decide)).trans (f3.two.mono (by decide)))) ⟨?_, ?_, ?_, ?_, ?_⟩ ⟨0, by rw [eo]; exact o2, by rw [eo]; exact o3, by decide, fun i hi => ?_⟩ ⟨1, p2, p3, by decide, fun i hi => ?_⟩
  · rw [ed _ (by decide)]; exact d0.1
  · rw [ed _ (by decide)]; exact d0.2.1
  · rw [ed _ (by decide)]; exact d0.2.2.1
  · rw [ed _ (by decide)]; exact d0.2.2.2.1
  · rw [ed _ (by decide)]; exact d0.2.2.2.2
  · have hi : i < 1 := hi
    have : i = 0 := by omega
    subst this
    rw [b3 _ (by decide)]; exact c2
  · have hi : i < 1 := hi
    have : i = 0 := by omega
    subst this
    exact c3
def land0 : Land := ((2, 2, 0, 0, 14), fun _ => 0, fun _ => 0, fun _ => 0, fun _ => 0, [1], [14])
def deeds0 : Deeds := (fun _ => 0, 0, fun _ => -1)
def stt0 : St := ([], land0, deeds0, fun _ => none, [])
theorem land0_ok : LOK land0 := ⟨by decide, by decide, by decide, by decide, by decide, fun p hp => absurd hp (Nat.not_lt_zero p), fun p _ hp => absurd hp (Nat.not_lt_zero p), fun b hb => absurd hb (Nat.not_lt_zero b), by decide, by decide⟩
theorem deeds0_ok : dgood land0 deeds0 := ⟨⟨fun _ _ => Nat.zero_le _, by decide, by unfold nzT; decide +kernel⟩, fun _ _ => Or.inl rfl, fun _ _ _ => rfl⟩
theorem Z0.f2 {n : Nat} {L : List Nat} {M M' : Mem} (h : Z0 n M) (hF : Fr2 L M M') (hd : ∀ k ∈ L, k < n) : Z0 n M' := fun k hk => by
  have hn : k ∉ L := fun q => Nat.lt_irrefl _ (Nat.lt_of_lt_of_le (hd k q) hk)
  rw [(hF k hn).1, (hF k hn).2]; exact h k hk
abbrev XMa : List Nat := [c_land, c_land_times, c_land_code, c_land_owe, c_land_fog, c_draft, c_draft_times, c_draft_code, c_draft_owe, c_draft_fog, c_deeds_debt, c_mark0_debt, c_mark1_debt, c_mark2_debt, c_mark3_debt]
theorem made_xx {Q : Mem → Prop} (k : ∀ M, XRep stt0 M → Z0 69 M → Q M) : v_xx mz Q := by
  unfold v_xx v_tape
  have hz0 : Z0 4 (sla mz c_tape_keywords (kwF 108)) := fun q hq => ⟨rfl, sla_ne _ _ (show q ≠ 3 by omega)⟩
  have z0 : ∀ q, (sla mz c_tape_keywords (kwF 108)).1 q = fun _ => 0 := fun _ => rfl
  have hk0 : (sla mz c_tape_keywords (kwF 108)).2 c_tape_keywords = kwF 108 := sla_at
  generalize sla mz c_tape_keywords (kwF 108) = M0 at hz0 z0 hk0
  refine ⟨hz0, ?_⟩
  unfold v_land v_land_owe v_land_fog
  refine ⟨hz0.mono (by decide), hz0.mono (by decide), zland_clear (fun M1 f1 a1 o1 g1 => ⟨(hz0.mono (by decide)).f2 f1 (by decide), ?_⟩)⟩
  have hz1 : Z0 15 M1 := (hz0.mono (by decide)).f2 f1 (by decide)
  unfold v_draft v_draft_owe v_draft_fog
  refine ⟨hz1.mono (by decide), hz1.mono (by decide), zdraft_clear (fun M2 f2 _ _ _ => ?_)⟩
  have hz2 : Z0 26 M2 := (hz1.mono (by decide)).f2 f2 (by decide)
  refine ⟨hz2, ?_⟩
  unfold v_reader v_laws v_deeds
  refine ⟨hz2.mono (by decide), hz2.mono (by decide), z_fill_deeds_debt (fun M3 f3 b3 => ?_)⟩
  have hz3 : Z0 34 M3 := (hz2.mono (by decide)).f2 f3.two (by decide)
  refine ⟨hz3, ?_⟩
  unfold v_mark0
  refine z_fill_mark0_debt (fun M4 f4 _ => ?_)
  have hz4 : Z0 38 M4 := (hz3.mono (by decide)).f2 f4.two (by decide)
  refine ⟨hz4, ?_⟩
  unfold v_mark1
  refine z_fill_mark1_debt (fun M5 f5 _ => ?_)
  have hz5 : Z0 41 M5 := (hz4.mono (by decide)).f2 f5.two (by decide)
  refine ⟨hz5, ?_⟩
  unfold v_mark2
  refine z_fill_mark2_debt (fun M6 f6 _ => ?_)
  have hz6 : Z0 44 M6 := (hz5.mono (by decide)).f2 f6.two (by decide)
  refine ⟨hz6, ?_⟩
  unfold v_mark3
  refine z_fill_mark3_debt (fun M7 f7 _ => ?_)
  have hz7 : Z0 47 M7 := (hz6.mono (by decide)).f2 f7.two (by decide)
  refine ⟨hz7, ?_⟩
  unfold v_history v_debts v_game v_songs v_juneDay
  refine ⟨hz7.mono (by decide), hz7.mono (by decide), hz7.mono (by decide), hz7.mono (by decide), hz7.mono (by decide), k M7 ?_ (hz7.mono (by decide))⟩
  have F : Fr2 XMa M0 M7 := ((((((f1.mono (by decide)).trans (f2.mono (by decide))).trans (f3.two.mono (by decide))).trans (f4.two.mono (by decide))).trans (f5.two.mono (by decide))).trans (f6.two.mono (by decide))).trans (f7.two.mono (by decide))
  have F4 : Fr2 [c_mark0_debt, c_mark1_debt, c_mark2_debt, c_mark3_debt] M3 M7 := (((f4.two.mono (by decide)).trans (f5.two.mono (by decide))).trans (f6.two.mono (by decide))).trans (f7.two.mono (by decide))
  have F2 : Fr2 [c_draft, c_draft_times, c_draft_code, c_draft_owe, c_draft_fog, c_deeds_debt, c_mark0_debt, c_mark1_debt, c_mark2_debt, c_mark3_debt] M1 M7 := ((f2.mono (by decide)).trans (f3.two.mono (by decide))).trans (F4.mono (by decide))
  have hz : ∀ q, q ∉ XMa → M7.1 q = fun _ => 0 := fun q hq => by rw [(F q hq).1]; exact z0 q
  have hld : ∀ q ∈ LC, M7.1 q = M1.1 q := fun q hq => (F2 q (by revert q; decide)).1
  refine ⟨⟨land0_ok, ?_, fun h => absurd h (Nat.lt_irrefl _), fun h => absurd h (Nat.lt_irrefl _), fun i _ => ⟨?_, Nat.zero_le _⟩, ?_, by decide⟩, deeds0_ok, fun p hp => ⟨?_, Or.inl rfl⟩, ⟨0, ?_, by decide, fun j hj => ⟨Nat.zero_testBit j, fun d hd => nomatch hd⟩⟩, ⟨?_, Nat.zero_le _, trivial⟩, ⟨?_, Nat.zero_le _, fun i hi => absurd hi (Nat.not_lt_zero i)⟩, fun i hi => ?_⟩
  · refine XLand.mv (M := M1) ⟨⟨a1.1, a1.2.1⟩, a1.2.2.1, a1.2.2.2.1, a1.2.2.2.2, fun p hp => absurd hp (Nat.not_lt_zero p), fun p hp => absurd hp (Nat.not_lt_zero p), fun p _ hp => absurd hp (Nat.not_lt_zero p), fun b hb => absurd hb (Nat.not_lt_zero b), o1, g1⟩ hld
  · rw [hz c_deeds_times (by decide)]; rfl
  · rw [hz c_deeds (by decide)]; rfl
  · rw [(F4 c_deeds_debt (by decide)).1]; exact b3 p hp
  · rw [hz c_xx (by decide)]; rfl
  · rw [hz c_history (by decide)]; rfl
  · rw [hz c_tape (by decide)]; rfl
  · rw [(F c_tape_keywords (by decide)).2, hk0]; exact kwF_KW i hi
theorem m_stands0 {M : Mem} {Q : Mem → Prop} (k : ∀ M', Fr [c_mo_lands] M M' → (∀ i, i < 180 → M'.1 c_mo_lands i = if i = 4 then 14 else if i = 5 ∨ i = 6 then -1 else 0) → Q M') : w_Mo_standsAsAlways_imo (nI 0) M Q := by
  unfold w_Mo_standsAsAlways_imo
  refine for_loop (fun n i (M1 : Mem) => w_Mo_standsAsAlways_L2_imo (nI 0) (fun M644 => (vp_in (nI 0 + 4) 360 ∧ (vp_in (nI 0 + 5) 360 ∧ (vp_in ((nI 0 + 5) + 1) 360 ∧ Q (si (si (si M644 c_mo_lands (Int32.toNatClampNeg (nI 0 + 4)) 14) c_mo_lands (Int32.toNatClampNeg (nI 0 + 5)) (-1)) c_mo_lands (Int32.toNatClampNeg ((nI 0 + 5) + 1)) (-1)))))) Q n (nI i) M1) (fun i M1 => Fr [c_mo_lands] M M1 ∧ ∀ j, j < i → M1.1 c_mo_lands j = 0) 180 0 M (Nat.zero_le _) ⟨Fr.rfl, fun j hj => absurd hj (Nat.not_lt_zero j)⟩ ?_ ?_
  · intro n M1 ⟨h1, h3⟩
    refine br_le (a := 180) (b := 180) (by decide) (by decide) (fun _ => ?_) (fun q => absurd q (by omega))
    refine ⟨vp_in_nI (n := 4) (by decide) (by decide), vp_in_nI (n := 5) (by decide) (by decide), vp_in_nI (n := 6) (by decide) (by decide), ?_⟩
    rw [show Int32.toNatClampNeg (nI 0 + 4) = 4 from rfl, show Int32.toNatClampNeg (nI 0 + 5) = 5 from rfl, show Int32.toNatClampNeg (nI 0 + 5 + 1) = 6 from rfl]
    refine k _ (((h1.put _ _ _ (by decide)).put _ _ _ (by decide)).put _ _ _ (by decide)) (fun i hi => ?_)
    by_cases c6 : i = 6
    · subst c6; rw [si_at]; rfl
    rw [si_of c6]
    by_cases c5 : i = 5
    · subst c5; rw [si_at]; rfl
    rw [si_of c5]
    by_cases c4 : i = 4
    · subst c4; rw [si_at]; rfl
    rw [si_of c4, if_neg c4, if_neg (by omega)]
    exact h3 i hi
  · intro n i M1 _ hi ⟨h1, h3⟩ kk
    have ei : nI 0 + nI i = nI i := by rw [nI_add, Nat.zero_add]
    refine br_le (a := 180) (by decide) (by omega) (fun q => absurd q (by omega)) (fun _ => ?_)
    rw [ei, nI_clamp (by omega), nI_1]
    refine ⟨vp_in_nI (by omega) (by decide), kk _ ⟨h1.put _ _ _ (by decide), fun j hj => ?_⟩⟩
    by_cases e : j = i
    · subst e; rw [si_at]
    · rw [si_of e]; exact h3 j (by omega)
def moA (M : Mem) : Mem := (si (si (si (si (si (si (si (si (sl (sl (sl (sl (sl (sl (sl (sl (sl (sl (sl (sl (sl (sl (sl (sl (sl (sl (sl (sl (sl (sl (sl (sl M c_mo_words (Int32.toNatClampNeg (nI 0)) 15466056) c_mo_words (Int32.toNatClampNeg (nI 1)) 1119812451) c_mo_words (Int32.toNatClampNeg (nI 2)) 57) c_mo_words (Int32.toNatClampNeg (nI 3)) 31075639) c_mo_words (Int32.toNatClampNeg (nI 4)) 274) c_mo_words (Int32.toNatClampNeg (nI 5)) 426554) c_mo_words (Int32.toNatClampNeg (nI 6)) 114297) c_mo_words (Int32.toNatClampNeg (nI 7)) 153784) c_mo_words (Int32.toNatClampNeg (nI 8)) 37957098) c_mo_words (Int32.toNatClampNeg (nI 9)) 21391) c_mo_words (Int32.toNatClampNeg (nI 10)) 8776) c_mo_words (Int32.toNatClampNeg (nI 11)) 412124) c_mo_words (Int32.toNatClampNeg (nI 12)) 30596128) c_mo_words (Int32.toNatClampNeg (nI 13)) 209500) c_mo_words (Int32.toNatClampNeg (nI 14)) 6040476) c_mo_words (Int32.toNatClampNeg (nI 15)) 924194) c_mo_words (Int32.toNatClampNeg (nI 16)) 26332) c_mo_words (Int32.toNatClampNeg (nI 17)) 19741) c_mo_words (Int32.toNatClampNeg (nI 18)) 1891) c_mo_words (Int32.toNatClampNeg (nI 19)) 573) c_mo_words (Int32.toNatClampNeg (nI 20)) 8269) c_mo_words (Int32.toNatClampNeg (nI 21)) 716042) c_mo_words (Int32.toNatClampNeg (nI 22)) 24) c_mo_words (Int32.toNatClampNeg (nI 23)) 25) c_mo_factWords (Int32.toNatClampNeg (nI 0)) (nI 5)) c_mo_factWords (Int32.toNatClampNeg (nI 1)) (nI 20)) c_mo_factWords (Int32.toNatClampNeg (nI 2)) (nI 21)) c_mo_factWords (Int32.toNatClampNeg (nI 3)) (nI 8)) c_mo_factWords (Int32.toNatClampNeg (nI 4)) (nI 22)) c_mo_factWords (Int32.toNatClampNeg (nI 5)) (nI 23)) c_mo 30 (nI 24)) c_mo 31 (-1))
def moB (M1 : Mem) : Mem := (si (si (si (si (si (si (si (si M1 c_mo_lands (Int32.toNatClampNeg (nI 0)) (nI 2)) c_mo_lands (Int32.toNatClampNeg (nI 1)) (nI 2)) c_mo_state (Int32.toNatClampNeg (nI 121)) (-1)) c_mo_state (Int32.toNatClampNeg (nI 122)) (-1)) c_mo_state (Int32.toNatClampNeg (nI 123)) (-1)) c_mo_state (Int32.toNatClampNeg (nI 124)) (-1)) c_mo_state (Int32.toNatClampNeg (nI 125)) (-1)) c_mo_state (Int32.toNatClampNeg (nI 126)) (-1))
theorem v_mo_eq {M : Mem} {Q : Mem → Prop} : v_mo M Q = w_Mo_standsAsAlways_imo (nI 0) (moA M) (fun M1 => Q (moB M1)) := rfl
set_option maxRecDepth 20000 in
theorem moA_fr {M : Mem} : Fr2 [c_mo_words, c_mo_factWords, c_mo] M (moA M) := by
  unfold moA
  refine Fr2.trans ?_ (fr2_si (by decide))
  refine Fr2.trans ?_ (fr2_si (by decide))
  refine Fr2.trans ?_ (fr2_si (by decide))
  refine Fr2.trans ?_ (fr2_si (by decide))
  refine Fr2.trans ?_ (fr2_si (by decide))
  refine Fr2.trans ?_ (fr2_si (by decide))
  refine Fr2.trans ?_ (fr2_si (by decide))
  refine Fr2.trans ?_ (fr2_si (by decide))
  refine Fr2.trans ?_ (fr2_sl (by decide))
  refine Fr2.trans ?_ (fr2_sl (by decide))
  refine Fr2.trans ?_ (fr2_sl (by decide))
  refine Fr2.trans ?_ (fr2_sl (by decide))
  refine Fr2.trans ?_ (fr2_sl (by decide))
  refine Fr2.trans ?_ (fr2_sl (by decide))
  refine Fr2.trans ?_ (fr2_sl (by decide))
  refine Fr2.trans ?_ (fr2_sl (by decide))
  refine Fr2.trans ?_ (fr2_sl (by decide))
  refine Fr2.trans ?_ (fr2_sl (by decide))
  refine Fr2.trans ?_ (fr2_sl (by decide))
  refine Fr2.trans ?_ (fr2_sl (by decide))
  refine Fr2.trans ?_ (fr2_sl (by decide))
  refine Fr2.trans ?_ (fr2_sl (by decide))
  refine Fr2.trans ?_ (fr2_sl (by decide))
  refine Fr2.trans ?_ (fr2_sl (by decide))
  refine Fr2.trans ?_ (fr2_sl (by decide))
  refine Fr2.trans ?_ (fr2_sl (by decide))
  refine Fr2.trans ?_ (fr2_sl (by decide))
  refine Fr2.trans ?_ (fr2_sl (by decide))
  refine Fr2.trans ?_ (fr2_sl (by decide))
  refine Fr2.trans ?_ (fr2_sl (by decide))
  refine Fr2.trans ?_ (fr2_sl (by decide))
  exact fr2_sl (by decide)
def moW : Nat → Int64 := (vp_updL (vp_updL (vp_updL (vp_updL (vp_updL (vp_updL (vp_updL (vp_updL (vp_updL (vp_updL (vp_updL (vp_updL (vp_updL (vp_updL (vp_updL (vp_updL (vp_updL (vp_updL (vp_updL (vp_updL (vp_updL (vp_updL (vp_updL (vp_updL (fun _ => (0 : Int64)) (Int32.toNatClampNeg (nI 0)) 15466056) (Int32.toNatClampNeg (nI 1)) 1119812451) (Int32.toNatClampNeg (nI 2)) 57) (Int32.toNatClampNeg (nI 3)) 31075639) (Int32.toNatClampNeg (nI 4)) 274) (Int32.toNatClampNeg (nI 5)) 426554) (Int32.toNatClampNeg (nI 6)) 114297) (Int32.toNatClampNeg (nI 7)) 153784) (Int32.toNatClampNeg (nI 8)) 37957098) (Int32.toNatClampNeg (nI 9)) 21391) (Int32.toNatClampNeg (nI 10)) 8776) (Int32.toNatClampNeg (nI 11)) 412124) (Int32.toNatClampNeg (nI 12)) 30596128) (Int32.toNatClampNeg (nI 13)) 209500) (Int32.toNatClampNeg (nI 14)) 6040476) (Int32.toNatClampNeg (nI 15)) 924194) (Int32.toNatClampNeg (nI 16)) 26332) (Int32.toNatClampNeg (nI 17)) 19741) (Int32.toNatClampNeg (nI 18)) 1891) (Int32.toNatClampNeg (nI 19)) 573) (Int32.toNatClampNeg (nI 20)) 8269) (Int32.toNatClampNeg (nI 21)) 716042) (Int32.toNatClampNeg (nI 22)) 24) (Int32.toNatClampNeg (nI 23)) 25)
def moFw : Nat → Int32 := (upd (upd (upd (upd (upd (upd (fun _ => (0 : Int32)) (Int32.toNatClampNeg (nI 0)) (nI 5)) (Int32.toNatClampNeg (nI 1)) (nI 20)) (Int32.toNatClampNeg (nI 2)) (nI 21)) (Int32.toNatClampNeg (nI 3)) (nI 8)) (Int32.toNatClampNeg (nI 4)) (nI 22)) (Int32.toNatClampNeg (nI 5)) (nI 23))
theorem moW_ok : ∀ i, i < 24 → moW i = lN (w37 (KW.getD i [])) := by decide +kernel
theorem moF_ok : ∀ i, i < 6 → moFw i = fctW.getD i 0 := by decide +kernel
set_option maxRecDepth 20000 in
theorem moA_w {M : Mem} (h : M.2 c_mo_words = fun _ => 0) : (moA M).2 c_mo_words = moW := by
  unfold moA moW
  simp only [si_2, sl_same, h]
set_option maxRecDepth 20000 in
theorem moA_f {M : Mem} (h : M.1 c_mo_factWords = fun _ => 0) : (moA M).1 c_mo_factWords = moFw := by
  unfold moA moFw
  rw [si_ne _ _ _ (by decide), si_ne _ _ _ (by decide)]
  simp only [si_same, sl_1, h]
theorem moA_c {M : Mem} {j : Nat} (h : M.1 c_mo = fun _ => 0) (h1 : j ≠ 30) (h2 : j ≠ 31) : (moA M).1 c_mo j = 0 := by
  unfold moA
  rw [si_of h2, si_of h1, si_ne _ _ _ (by decide), si_ne _ _ _ (by decide), si_ne _ _ _ (by decide), si_ne _ _ _ (by decide), si_ne _ _ _ (by decide), si_ne _ _ _ (by decide), sl_1, sl_1, sl_1, sl_1, sl_1, sl_1, sl_1, sl_1, sl_1, sl_1, sl_1, sl_1, sl_1, sl_1, sl_1, sl_1, sl_1, sl_1, sl_1, sl_1, sl_1, sl_1, sl_1, sl_1, h]
theorem moB_fr {M : Mem} : Fr [c_mo_lands, c_mo_state] M (moB M) := by
  unfold moB
  exact (((((((fr_si (by decide)).put _ _ _ (by decide)).put _ _ _ (by decide)).put _ _ _ (by decide)).put _ _ _ (by decide)).put _ _ _ (by decide)).put _ _ _ (by decide)).put _ _ _ (by decide)
theorem moB_l {M : Mem} : (moB M).1 c_mo_lands 0 = 2 ∧ (moB M).1 c_mo_lands 1 = 2 ∧ ∀ j, 2 ≤ j → (moB M).1 c_mo_lands j = M.1 c_mo_lands j := by
  have e : (moB M).1 c_mo_lands = (si (si M c_mo_lands 0 (nI 2)) c_mo_lands 1 (nI 2)).1 c_mo_lands := by
    unfold moB
    rw [si_ne _ _ _ (by decide), si_ne _ _ _ (by decide), si_ne _ _ _ (by decide), si_ne _ _ _ (by decide), si_ne _ _ _ (by decide), si_ne _ _ _ (by decide)]
    rfl
  rw [e]
  refine ⟨?_, ?_, fun j hj => ?_⟩
  · rw [si_of (by decide), si_at]; rfl
  · rw [si_at]; rfl
  · rw [si_of (by omega), si_of (by omega)]
theorem moB_s {M : Mem} (h : M.1 c_mo_state = fun _ => 0) : (∀ j, j < 121 → (moB M).1 c_mo_state j = 0) ∧ ∀ p, p < 6 → (moB M).1 c_mo_state (121 + p) = -1 := by
  have e : (moB M).1 c_mo_state = upd (upd (upd (upd (upd (upd (fun _ => 0) 121 (-1)) 122 (-1)) 123 (-1)) 124 (-1)) 125 (-1)) 126 (-1) := by
    unfold moB
    simp only [si_same]
    rw [si_ne _ _ _ (by decide), si_ne _ _ _ (by decide), h]
    rfl
  rw [e]
  refine ⟨fun j hj => ?_, by decide⟩
  rw [up_n (by omega), up_n (by omega), up_n (by omega), up_n (by omega), up_n (by omega), up_n (by omega)]
theorem made_mo {M : Mem} {Q : Mem → Prop} (hz : Z0 69 M) (k : ∀ M', Fr2 SMO M M' → MRep stt0 M' → Q M') : v_mo M Q := by
  rw [v_mo_eq]
  have zc := fun q (hq : 69 ≤ q) => (hz q hq).1
  refine m_stands0 (fun M1 f1 h1 => k (moB M1) ?_ ?_)
  · exact ((moA_fr.mono (by decide)).trans (f1.two.mono (by decide))).trans (moB_fr.two.mono (by decide))
  have hst : M1.1 c_mo_state = fun _ => 0 := by rw [f1.1 _ (by decide), (moA_fr _ (by decide)).1]; exact zc _ (by decide)
  have hs := moB_s hst
  have hc : ∀ j, j ≠ 30 → j ≠ 31 → (moB M1).1 c_mo j = 0 := fun j a b => by
    rw [moB_fr.1 _ (by decide), f1.1 _ (by decide)]; exact moA_c (zc _ (by decide)) a b
  have hl : ∀ j, 2 ≤ j → j < 180 → (moB M1).1 c_mo_lands j = if j = 4 then 14 else if j = 5 ∨ j = 6 then -1 else 0 := fun j a b => by
    rw [moB_l.2.2 j a]; exact h1 j b
  refine ⟨⟨⟨moB_l.1, moB_l.2.1⟩, ?_, ?_, ?_, fun p hp => absurd hp (Nat.not_lt_zero p), fun p hp => absurd hp (Nat.not_lt_zero p), fun p _ hp => absurd hp (Nat.not_lt_zero p), fun b hb => absurd hb (Nat.not_lt_zero b), Or.inl ⟨?_, rfl⟩, Or.inl ⟨?_, rfl⟩⟩, ⟨⟨fun i hi => ?_, ?_⟩, fun p hp => ?_⟩, fun j hj => ⟨?_, fun d hd => nomatch hd⟩, ⟨?_, trivial⟩, ⟨?_, Nat.zero_le _, fun i hi => absurd hi (Nat.not_lt_zero i)⟩, fun i hi => ?_, fun i hi => ?_⟩
  · rw [hl 2 (by decide) (by decide)]; rfl
  · rw [hl 3 (by decide) (by decide)]; rfl
  · rw [hl 4 (by decide) (by decide)]; rfl
  · rw [hl 5 (by decide) (by decide)]; rfl
  · rw [hl 6 (by decide) (by decide)]; rfl
  · rw [show 128 * 0 + i = i by omega, hs.1 i (by omega)]; rfl
  · exact hs.1 120 (by decide)
  · rw [show 128 * 0 + 121 + p = 121 + p by omega]; exact hs.2 p hp
  · rw [moB_fr.1 _ (by decide), f1.1 _ (by decide), (moA_fr _ (by decide)).1, zc _ (by decide)]; rfl
  · exact hc _ (by decide) (by decide)
  · exact hc _ (by decide) (by decide)
  · rw [moB_fr.2, f1.2, moA_w (hz _ (by decide)).2]; exact moW_ok i hi
  · rw [moB_fr.1 _ (by decide), f1.1 _ (by decide), moA_f (zc _ (by decide))]; exact moF_ok i hi
/-- **what the law's first steps make ties both sides** -/
theorem made : v_xx mz (fun M1 => Z0 69 M1 ∧ v_mo M1 (fun M2 => Z0 94 M2 ∧ Rel M2)) :=
  made_xx (fun _ hx hz => ⟨hz, made_mo hz (fun _ f hm => ⟨(hz.mono (by decide)).f2 f (by decide), stt0, hx.mo f, hm⟩)⟩)
