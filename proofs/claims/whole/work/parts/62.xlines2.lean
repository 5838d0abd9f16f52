/-! the class's reader: persons, birds, calls -/
theorem x_readCall {t : List Nat} {n : Nat} {d : Dr} {M : Mem} {Q : Bool → Mem → Prop} (hT : TK t n M) (h0 : kS t n ≠ 0) (hD : XDr d n M) (hg : GDr d) (k : XRes t (aCall t n d) M Q) : w_Rd_readCall M Q := by
  have hca := hg.1.2.2.2.2.2.2
  have hnb := hg.1.2.2.2.1
  unfold aCall at k
  unfold w_Rd_readCall
  rw [hD.2.1.2.1]
  refine br_lt (b := 30) (by omega) (by decide) (fun c => ?_) (fun c => ?_)
  · rw [if_neg (by omega)] at k
    rw [nI_1]
    have hT1 := hT.fr (M' := si M c_reader Rd_callCount (nI (rca d + 1))) (fr2_si (L := [c_reader]) (by decide)) (by decide)
    have hD1 := hD.uCa
    have hF1 : Fr2 RDL M (si M c_reader Rd_callCount (nI (rca d + 1))) := fr2_si (by decide)
    generalize si M c_reader Rd_callCount (nI (rca d + 1)) = M1 at hT1 hD1 hF1
    refine x_step hT1 h0 (fun M2 a2 hT2 => ?_)
    have hD2 := hD1.tp a2
    have hF2 := hF1.trans (tpF a2)
    rw [hD2.1.2.2.2.1]
    refine x_isKnownB hT2 hD2 hnb (fun b hb => (hg.2.2.1 b hb).2) (fun f e M3 a b => gF ?_) (fun e e2 M3 a b => gF ?_) (fun e p e2 => gT ?_)
    · rw [e] at k; exact k M3 (hF2.trans (tpF a)) b
    · have e2 : fB d (kW t (n + 1)) = none := e2
      rw [e, e2] at k; exact k M3 (hF2.trans (a.mono (by decide))) b
    have e2 : fB d (kW t (n + 1)) = some p := e2
    have hp := (fnd_s e2).1
    rw [e, e2] at k
    dsimp only at k
    have hT3 := hT2.fr (M' := si M2 c_reader Rd_found (nI p)) (fr2_si (L := [c_reader]) (by decide)) (by decide)
    have hD3 := hD2.rd (j := Rd_found) (v := nI p) (by decide) (by decide) (by decide)
    have hF3 : Fr2 RDL M (si M2 c_reader Rd_found (nI p)) := hF2.trans (fr2_si (by decide))
    have ef : (si M2 c_reader Rd_found (nI p)).1 c_reader Rd_found = nI p := si_at
    rw [ef]
    generalize si M2 c_reader Rd_found (nI p) = M3 at hT3 hD3 hF3
    refine x_step hT3 (by rw [(cNm_n e).1]; decide) (fun M4 a4 hT4 => ?_)
    have hD4 := hD3.tp a4
    have hF4 := hF3.trans (tpF a4)
    refine x_takeKw2 (q := 5) hT4 (by decide) (fun f e3 M5 a b => fF ?_) (fun e3 M5 a5 hT5 => fT ?_)
    · rw [e3] at k; exact k M5 (hF4.trans (tpF a)) b
    rw [e3] at k
    have hD5 := hD4.tp a5
    have hF5 := hF4.trans (tpF a5)
    refine x_isNum2 (lo := 0) (hi := 23) hT5 (by decide) (by decide) (fun f e4 M6 a b => gF ?_) (fun e4 M6 a6 hT6 => gT ?_)
    · rw [e4] at k; exact k M6 (hF5.trans (tpF a)) b
    rw [e4] at k
    have n4 : kS t (n + 3) = 2 ∧ 0 ≤ kV t (n + 3) ∧ kV t (n + 3) ≤ 23 := cNum_n e4
    have hD6 := hD5.tp a6
    have hF6 := hF5.trans (tpF a6)
    intro x ex
    have ex : x = nI (p * 24 + kV t (n + 3)) := by rw [ex, hT6.num n4.1]; simp only [fa_lit, pk_mul, nI_add]
    subst ex
    have e6 : M6.1 c_draft_times (p * 24 + kV t (n + 3)) = nI (rtimes d (p * 24 + kV t (n + 3))) := hD6.2.2.2.2.2.1 _ (by omega)
    have h9 := hg.2.2.2.2.1.1 (p * 24 + kV t (n + 3)) (by omega)
    rw [nI_clamp (by omega), e6, show (0 : Int32) = nI 0 from rfl, nI_eq (by omega) (by decide)]
    refine ⟨vp_in_nI (by omega) (by decide), fun c2 => ?_, fun c2 => ?_⟩
    · rw [if_neg (fun y => y c2)] at k
      refine x_step hT6 (num_ne0 n4.1) (fun M7 a7 hT7 => ?_)
      have hD7 := hD6.tp a7
      have hF7 := hF6.trans (tpF a7)
      refine x_takeKw2 (q := 8) hT7 (by decide) (fun f e5 M8 a b => fF ?_) (fun e5 M8 a8 hT8 => fT ?_)
      · rw [e5] at k; exact k M8 (hF7.trans (tpF a)) b
      rw [e5] at k
      have hD8 := hD7.tp a8
      have hF8 := hF7.trans (tpF a8)
      refine x_isNum2 (lo := 1) (hi := 9) hT8 (by decide) (by decide) (fun f e7 M9 a b => gF ?_) (fun e7 M9 a9 hT9 => gT ?_)
      · rw [e7] at k; exact k M9 (hF8.trans (tpF a)) b
      rw [e7] at k
      have n7 : kS t (n + 5) = 2 ∧ 1 ≤ kV t (n + 5) ∧ kV t (n + 5) ≤ 9 := cNum_n e7
      have hD9 := hD8.tp a9
      have hF9 := hF8.trans (tpF a9)
      refine ⟨vp_in_nI (by omega) (by decide), ?_⟩
      rw [hT9.num n7.1]
      have hDa := hD9.uTimes (i := p * 24 + kV t (n + 3)) (v := kV t (n + 5))
      have hFa : Fr2 RDL M (si M9 c_draft_times (p * 24 + kV t (n + 3)) (nI (kV t (n + 5)))) := hF9.trans (fr2_si (by decide))
      refine x_step (hT9.fr (fr2_si (L := [c_draft_times]) (by decide)) (by decide)) (num_ne0 n7.1) (fun Mb ab hTb => fT ?_)
      exact x_endB (hFa.trans (tpF ab)) hTb (hDa.tp ab) (by omega) k
    · rw [if_pos c2] at k
      exact x_fail (a := 3) hT6 (fun M7 a b => k M7 (hF6.trans (tpF a)) b)
  · rw [if_pos (by omega)] at k
    exact x_fail (a := 5) hT (fun M1 a b => k M1 (tpF a) b)
theorem x_readBird {t : List Nat} {n : Nat} {d : Dr} {M : Mem} {Q : Bool → Mem → Prop} (hT : TK t n M) (h0 : kS t n ≠ 0) (hD : XDr d n M) (hg : GDr d) (k : XRes t (aBird t n d) M Q) : w_Rd_readBird M Q := by
  have hnb := hg.1.2.2.2.1
  unfold aBird at k
  unfold w_Rd_readBird
  rw [hD.1.2.2.2.1]
  refine br_lt (b := 5) (by omega) (by decide) (fun c => ?_) (fun c => ?_)
  · rw [if_neg (by omega)] at k
    refine x_step hT h0 (fun M2 a2 hT2 => ?_)
    have hD2 := hD.tp a2
    have hF2 := tpF a2
    refine x_isNewName hT2 hD2 hg (fun f e M3 a b => gF ?_) (fun e e2 M3 a b => gF ?_) (fun e e2 => gT ⟨vp_in_nI c (by decide), ?_⟩)
    · rw [e] at k; exact k M3 (hF2.trans (tpF a)) b
    · rw [e, if_pos e2] at k; exact k M3 (hF2.trans (tpF a)) b
    rw [e, if_neg e2] at k
    rw [nI_clamp (by omega), hT2.word (cNm_n e).1]
    have hT3 := hT2.fr (M' := sl M2 c_reader_birdNames (rnb d) (lN (w5 (kW t (n + 1))))) (fr2_sl (L := [c_reader_birdNames]) (by decide)) (by decide)
    have hD3 := hD2.nb (v := lN (w5 (kW t (n + 1))))
    have hF3 : Fr2 RDL M (sl M2 c_reader_birdNames (rnb d) (lN (w5 (kW t (n + 1))))) := hF2.trans (fr2_sl (by decide))
    have en : (sl M2 c_reader_birdNames (rnb d) (lN (w5 (kW t (n + 1))))).2 c_reader_birdNames (rnb d) = lN (w5 (kW t (n + 1))) := sl_at
    generalize sl M2 c_reader_birdNames (rnb d) (lN (w5 (kW t (n + 1)))) = M3 at hT3 hD3 hF3 en
    refine x_step hT3 (by rw [(cNm_n e).1]; decide) (fun M4 a4 hT4 => ?_)
    refine x_takeKw2 (q := 2) hT4 (by decide) (fun f e3 M5 a b => fF ?_) (fun e3 M5 a5 hT5 => fT ?_)
    · rw [e3] at k; exact k M5 ((hF3.trans (tpF a4)).trans (tpF a)) b
    rw [e3] at k
    have hD5 := (hD3.tp a4).tp a5
    have hF5 := (hF3.trans (tpF a4)).trans (tpF a5)
    refine x_takeCell hT5 hD5 hg (fun f e7 M9 a b => gF ?_) (fun e7 f e8 M9 a b => gF ?_) (fun e7 e8 M9 a9 hD9 hc hT9 => gT ?_)
    · rw [e7] at k; exact k M9 (hF5.trans (tpF a)) b
    · rw [e7, e8] at k; exact k M9 (hF5.trans (tpF a)) b
    · rw [e7, e8] at k
      refine ⟨vp_in_nI c (by decide), ?_⟩
      have hF9 := hF5.trans (a9.mono (by decide))
      have en9 : M9.2 c_reader_birdNames (rnb d) = lN (w5 (kW t (n + 1))) := by rw [(a9 _ (by decide)).2, (a5 _ (by decide)).2, (a4 _ (by decide)).2]; exact en
      have ep : M9.1 c_draft Land_birds = nI (rnb d) := hD9.1.2.2.2.1
      rw [ep, hc, nI_1]
      have hDa := (hD9.bs (v := nI (kV t (n + 4) * 8 + kV t (n + 3)))).uNb (c := kV t (n + 4) * 8 + kV t (n + 3)) si_at en9 hg.1.2.2.1
      exact x_endC ((hF9.trans (fr2_si (by decide))).trans (fr2_si (by decide))) ((hT9.fr (M' := si M9 c_draft_bush (rnb d) (nI (kV t (n + 4) * 8 + kV t (n + 3)))) (fr2_si (L := [c_draft_bush]) (by decide)) (by decide)).fr (fr2_si (L := [c_draft]) (by decide)) (by decide)) hDa (by omega) k
  · rw [if_pos (by omega)] at k
    exact x_fail (a := 5) hT (fun M1 a b => k M1 (tpF a) b)
theorem x_readPerson {t : List Nat} {n : Nat} {d : Dr} {M : Mem} {Q : Bool → Mem → Prop} (hT : TK t n M) (h0 : kS t n ≠ 0) (hD : XDr d n M) (hg : GDr d) (k : XRes t (aPerson t n d) M Q) : w_Rd_readPerson M Q := by
  have hnp := hg.1.2.2.1
  unfold aPerson at k
  unfold w_Rd_readPerson
  rw [hD.1.2.2.1]
  refine br_lt (b := 6) (by omega) (by decide) (fun c => ?_) (fun c => ?_)
  · rw [if_neg (by omega)] at k
    refine x_step hT h0 (fun M2 a2 hT2 => ?_)
    have hD2 := hD.tp a2
    have hF2 := tpF a2
    refine x_isNewName hT2 hD2 hg (fun f e M3 a b => gF ?_) (fun e e2 M3 a b => gF ?_) (fun e e2 => gT ⟨vp_in_nI c (by decide), ?_⟩)
    · rw [e] at k; exact k M3 (hF2.trans (tpF a)) b
    · rw [e, if_pos e2] at k; exact k M3 (hF2.trans (tpF a)) b
    rw [e, if_neg e2] at k
    rw [nI_clamp (by omega), hT2.word (cNm_n e).1]
    have hT3 := hT2.fr (M' := sl M2 c_reader_peopleNames (rnp d) (lN (w5 (kW t (n + 1))))) (fr2_sl (L := [c_reader_peopleNames]) (by decide)) (by decide)
    have hD3 := hD2.nm (v := lN (w5 (kW t (n + 1))))
    have hF3 : Fr2 RDL M (sl M2 c_reader_peopleNames (rnp d) (lN (w5 (kW t (n + 1))))) := hF2.trans (fr2_sl (by decide))
    have en : (sl M2 c_reader_peopleNames (rnp d) (lN (w5 (kW t (n + 1))))).2 c_reader_peopleNames (rnp d) = lN (w5 (kW t (n + 1))) := sl_at
    generalize sl M2 c_reader_peopleNames (rnp d) (lN (w5 (kW t (n + 1)))) = M3 at hT3 hD3 hF3 en
    refine x_step hT3 (by rw [(cNm_n e).1]; decide) (fun M4 a4 hT4 => ?_)
    have hD4 := hD3.tp a4
    have hF4 := hF3.trans (tpF a4)
    have en4 : M4.2 c_reader_peopleNames (rnp d) = lN (w5 (kW t (n + 1))) := by rw [(a4 _ (by decide)).2]; exact en
    have hkw : M4.1 c_tape Tape_keyword = ckw (kK t (n + 2)) := hT4.kw
    have hle : kK t (n + 2) ≤ 24 := kK_le
    have kj : ¬ (12 ≤ kK t (n + 2) ∧ kK t (n + 2) ≤ 16) → w_Rd_readPerson_j85 M4 Q := fun z => by
      rw [if_neg z] at k
      exact x_fail (a := 1) hT4 (fun M5 a b => k M5 (hF4.trans (tpF a)) b)
    rw [hkw]
    by_cases c24 : kK t (n + 2) < 24
    · have ek : ckw (kK t (n + 2)) = nI (kK t (n + 2)) := if_pos c24
      rw [ek]
      refine br_lt (b := 12) (by omega) (by decide) (fun z => kj (by omega)) (fun z => br_le (b := 16) (by omega) (by decide) (fun z2 => ⟨vp_in_nI c (by decide), ?_⟩) (fun z2 => kj (by omega)))
      rw [if_pos ⟨z, z2⟩] at k
      have ev : nI (kK t (n + 2)) - 12 + 0 = nI (kK t (n + 2) - 12) := by
        rw [show (12 : Int32) = nI 12 from rfl, pk_sub z, Int32.add_zero]
      rw [ev]
      have hT5 := hT4.fr (M' := si M4 c_draft_kind (rnp d) (nI (kK t (n + 2) - 12))) (fr2_si (L := [c_draft_kind]) (by decide)) (by decide)
      have hD5 := hD4.kd (v := nI (kK t (n + 2) - 12))
      have hF5 : Fr2 RDL M (si M4 c_draft_kind (rnp d) (nI (kK t (n + 2) - 12))) := hF4.trans (fr2_si (by decide))
      have ek5 : (si M4 c_draft_kind (rnp d) (nI (kK t (n + 2) - 12))).1 c_draft_kind (rnp d) = nI (kK t (n + 2) - 12) := si_at
      have en5 : (si M4 c_draft_kind (rnp d) (nI (kK t (n + 2) - 12))).2 c_reader_peopleNames (rnp d) = lN (w5 (kW t (n + 1))) := en4
      generalize si M4 c_draft_kind (rnp d) (nI (kK t (n + 2) - 12)) = M5 at hT5 hD5 hF5 ek5 en5
      refine x_step hT5 (kK_ne0 (q := kK t (n + 2)) rfl c24) (fun M6 a6 hT6 => ?_)
      refine x_takeKw2 (q := 2) hT6 (by decide) (fun f e3 M7 a b => fF ?_) (fun e3 M7 a7 hT7 => fT ?_)
      · rw [e3] at k; exact k M7 ((hF5.trans (tpF a6)).trans (tpF a)) b
      rw [e3] at k
      have hD7 := (hD5.tp a6).tp a7
      have hF7 := (hF5.trans (tpF a6)).trans (tpF a7)
      refine x_takeCell hT7 hD7 hg (fun f e7 M9 a b => gF ?_) (fun e7 f e8 M9 a b => gF ?_) (fun e7 e8 M9 a9 hD9 hc hT9 => gT ?_)
      · rw [e7] at k; exact k M9 (hF7.trans (tpF a)) b
      · rw [e7, e8] at k; exact k M9 (hF7.trans (tpF a)) b
      rw [e7, e8] at k
      have hF9 := hF7.trans (a9.mono (by decide))
      have en9 : M9.2 c_reader_peopleNames (rnp d) = lN (w5 (kW t (n + 1))) := by rw [(a9 _ (by decide)).2, (a7 _ (by decide)).2, (a6 _ (by decide)).2]; exact en5
      have ek9 : M9.1 c_draft_kind (rnp d) = nI (kK t (n + 2) - 12) := by rw [(a9 _ (by decide)).1, (a7 _ (by decide)).1, (a6 _ (by decide)).1]; exact ek5
      have ei : nI (rnp d) * 24 = nI (rnp d * 24) := by simp only [fa_lit, pk_mul]
      rw [ei, nI_clamp (by omega), hc]
      refine ⟨vp_in_nI (by omega) (by decide), ?_⟩
      have hDa := hD9.uGoes (i := rnp d * 24) (c := kV t (n + 5) * 8 + kV t (n + 4))
      have hTa := hT9.fr (M' := si M9 c_reader_goes (rnp d * 24) (nI (kV t (n + 5) * 8 + kV t (n + 4)))) (fr2_si (L := [c_reader_goes]) (by decide)) (by decide)
      have hFa : Fr2 RDL M (si M9 c_reader_goes (rnp d * 24) (nI (kV t (n + 5) * 8 + kV t (n + 4)))) := hF9.trans (fr2_si (by decide))
      have ena : (si M9 c_reader_goes (rnp d * 24) (nI (kV t (n + 5) * 8 + kV t (n + 4)))).2 c_reader_peopleNames (rnp d) = lN (w5 (kW t (n + 1))) := en9
      have eka : (si M9 c_reader_goes (rnp d * 24) (nI (kV t (n + 5) * 8 + kV t (n + 4)))).1 c_draft_kind (rnp d) = nI (kK t (n + 2) - 12) := ek9
      show w_Rd_takeKeyword 3 (si M9 c_reader_goes (rnp d * 24) (nI (kV t (n + 5) * 8 + kV t (n + 4)))) _
      generalize si M9 c_reader_goes (rnp d * 24) (nI (kV t (n + 5) * 8 + kV t (n + 4))) = Ma at hTa hDa hFa ena eka
      refine x_takeKw2 (q := 3) hTa (by decide) (fun f e9 Mb a b => fF ?_) (fun e9 Mb ab hTb => fT ?_)
      · have e9 : cKw t 3 (n + 6) = some f := e9
        rw [e9] at k; exact k Mb (hFa.trans (tpF a)) b
      have e9 : cKw t 3 (n + 6) = none := e9
      rw [e9] at k
      refine x_isNum2 (lo := 0) (hi := 9999) hTb (by decide) (by decide) (fun f ea Mc a b => gF ?_) (fun ea Mc ac hTc => gT ⟨vp_in_nI c (by decide), ?_⟩)
      · have ea : cNum t 0 9999 (n + 7) = some f := ea
        rw [ea] at k; exact k Mc ((hFa.trans (tpF ab)).trans (tpF a)) b
      have ea : cNum t 0 9999 (n + 7) = none := ea
      rw [ea] at k
      have na := cNum_n ea
      have hDc := (hDa.tp ab).tp ac
      have hFc := (hFa.trans (tpF ab)).trans (tpF ac)
      have enc : Mc.2 c_reader_peopleNames (rnp d) = lN (w5 (kW t (n + 1))) := by rw [(ac _ (by decide)).2, (ab _ (by decide)).2]; exact ena
      have ekc : Mc.1 c_draft_kind (rnp d) = nI (kK t (n + 2) - 12) := by rw [(ac _ (by decide)).1, (ab _ (by decide)).1]; exact eka
      have ep : Mc.1 c_draft Land_people = nI (rnp d) := hDc.1.2.2.1
      have env : Mc.1 c_tape Tape_number = nI (kV t (n + 7)) := hTc.num na.1
      rw [ep, env, nI_1]
      have hDd := (hDc.ps (v := nI (kV t (n + 7)))).uNp (w := kW t (n + 1)) (k := kK t (n + 2) - 12) (v := kV t (n + 7)) ekc si_at enc c
      refine x_step ((hTc.fr (M' := si Mc c_draft_purse (rnp d) (nI (kV t (n + 7)))) (fr2_si (L := [c_draft_purse]) (by decide)) (by decide)).fr (fr2_si (L := [c_draft]) (by decide)) (by decide)) (num_ne0 na.1) (fun Me ae hTe => fT ?_)
      exact x_endB (((hFc.trans (fr2_si (by decide))).trans (fr2_si (by decide))).trans (tpF ae)) hTe (hDd.tp ae) (by omega) k
    · have ek : ckw (kK t (n + 2)) = -1 := if_neg c24
      rw [ek]
      exact ⟨fun _ => kj (by omega), fun z => absurd (by decide) z⟩
  · rw [if_pos (by omega)] at k
    exact x_fail (a := 5) hT (fun M1 a b => k M1 (tpF a) b)
