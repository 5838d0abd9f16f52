/-! the reference's reader: lines, on -/
theorem m_takeHourG {t : List Nat} {N n p lo : Nat} {d : Dr} {M : Mem} {Q : Int32 → Mem → Prop} (hA : MA t N n M) (hT : ∀ i, i < 144 → M.1 c_mo_goes i = oI (rgoes d i)) (hx : ∀ i c, rgoes d i = some c → c < 64) (hp : p < 6) (hlo : lo < 2 ^ 31)
    (kf : ∀ f, cAft t 5 lo 23 n = some f → fok f → ∀ r M', FA M M' → M'.1 c_mo Mo_fault = nI f → Q r M')
    (k3 : cAft t 5 lo 23 n = none → rgoes d (p * 24 + kV t (n + 1)) ≠ none → fok (er t (n + 1) 3) → ∀ r M', FA M M' → M'.1 c_mo Mo_fault = nI (er t (n + 1) 3) → Q r M')
    (ko : cAft t 5 lo 23 n = none → ¬ rgoes d (p * 24 + kV t (n + 1)) ≠ none → kV t (n + 1) ≤ 23 → ∀ M', FA M M' → MA t N (n + 2) M' → Q (nI (kV t (n + 1))) M') : w_Mo_takeHour_mo_goes (nI lo) (nI (24 * p)) (-1) M Q := by
  unfold w_Mo_takeHour_mo_goes
  unfold cAft at kf k3 ko
  refine m_takeWord (q := 5) hA (by decide) (fun f e fk M1 a1 h1 => ?_) (fun e M1 a1 h1 => ?_)
  · rw [e] at kf
    exact m_takeNumberF fk h1 ⟨fun _ => kf f rfl fk _ M1 a1 h1, fun z => absurd z (nfz fk h1)⟩
  · rw [e] at kf k3 ko
    refine m_takeNumber (hi := 23) h1 hlo (by decide) (fun f e2 fk M2 a2 h2 => ⟨fun _ => kf f e2 fk _ M2 (a1.trans a2) h2, fun z => absurd z (nfz fk h2)⟩) (fun e2 M2 a2 h2 => ?_)
    have n2 := cNum_n e2
    have aa := a1.trans a2
    rw [h2.ft, nI_add, nI_clamp (by omega), (aa.1 c_mo_goes (by decide)).1, show 24 * p + kV t (n + 1) = p * 24 + kV t (n + 1) by omega, hT _ (by omega), oI_n (fun j hj => by have := hx _ j hj; omega)]
    refine ⟨fun z => absurd rfl z, fun _ => ⟨vp_in_nI (by omega) (by decide), fun z => ko e2 (fun y => y z) (by omega) M2 aa h2, fun z => ?_⟩⟩
    have hb : MA t N (n + 1) (si M2 c_mo Mo_at (M2.1 c_mo Mo_at - 1)) := h2.nx (by have := h2.2.2.2.2.1; omega) (by rw [h2.at]; exact nI_sub1)
    exact m_wrong (a := 3) hb (by decide) (by decide) (fun fk M3 a3 h3 => k3 e2 z fk _ M3 ((aa.trans FA.at).trans a3) h3)
theorem m_takeHourC {t : List Nat} {N n p lo : Nat} {d : Dr} {M : Mem} {Q : Int32 → Mem → Prop} (hA : MA t N n M) (hT : ∀ i, i < 120 → M.1 c_mo_readCalls i = nI (rtimes d i)) (hx : ∀ i, i < 120 → rtimes d i ≤ 9) (hp : p < 5) (hlo : lo < 2 ^ 31)
    (kf : ∀ f, cAft t 5 lo 23 n = some f → fok f → ∀ r M', FA M M' → M'.1 c_mo Mo_fault = nI f → Q r M')
    (k3 : cAft t 5 lo 23 n = none → rtimes d (p * 24 + kV t (n + 1)) ≠ 0 → fok (er t (n + 1) 3) → ∀ r M', FA M M' → M'.1 c_mo Mo_fault = nI (er t (n + 1) 3) → Q r M')
    (ko : cAft t 5 lo 23 n = none → ¬ rtimes d (p * 24 + kV t (n + 1)) ≠ 0 → kV t (n + 1) ≤ 23 → ∀ M', FA M M' → MA t N (n + 2) M' → Q (nI (kV t (n + 1))) M') : w_Mo_takeHour (nI lo) (nI (24 * p)) 0 M Q := by
  unfold w_Mo_takeHour
  unfold cAft at kf k3 ko
  refine m_takeWord (q := 5) hA (by decide) (fun f e fk M1 a1 h1 => ?_) (fun e M1 a1 h1 => ?_)
  · rw [e] at kf
    exact m_takeNumberF fk h1 ⟨fun _ => kf f rfl fk _ M1 a1 h1, fun z => absurd z (nfz fk h1)⟩
  · rw [e] at kf k3 ko
    refine m_takeNumber (hi := 23) h1 hlo (by decide) (fun f e2 fk M2 a2 h2 => ⟨fun _ => kf f e2 fk _ M2 (a1.trans a2) h2, fun z => absurd z (nfz fk h2)⟩) (fun e2 M2 a2 h2 => ?_)
    have n2 := cNum_n e2
    have aa := a1.trans a2
    have ez : nI (rtimes d (p * 24 + kV t (n + 1))) = 0 ↔ rtimes d (p * 24 + kV t (n + 1)) = 0 := nI_eq (b := 0) (by have := hx (p * 24 + kV t (n + 1)) (by omega); omega) (by decide)
    rw [h2.ft, nI_add, nI_clamp (by omega), (aa.1 c_mo_readCalls (by decide)).1, show 24 * p + kV t (n + 1) = p * 24 + kV t (n + 1) by omega, hT _ (by omega), ez]
    refine ⟨fun z => absurd rfl z, fun _ => ⟨vp_in_nI (by omega) (by decide), fun z => ko e2 (fun y => y z) (by omega) M2 aa h2, fun z => ?_⟩⟩
    have hb : MA t N (n + 1) (si M2 c_mo Mo_at (M2.1 c_mo Mo_at - 1)) := h2.nx (by have := h2.2.2.2.2.1; omega) (by rw [h2.at]; exact nI_sub1)
    exact m_wrong (a := 3) hb (by decide) (by decide) (fun fk M3 a3 h3 => k3 e2 z fk _ M3 ((aa.trans FA.at).trans a3) h3)
theorem m_readGo {t : List Nat} {N n : Nat} {d : Dr} {M : Mem} {Q : Mem → Prop} (hA : MA t N n M) (h0 : kS t n ≠ 0) (hg : GDr d) (hD : MDr d n M) (k : MRes t N (aGo t n d) M Q) : w_Mo_readGo M (fun M1 => w_Mo_takeSign 59 M1 Q) := by
  have hgo := hg.1.2.2.2.2.2.1
  unfold aGo at k
  unfold w_Mo_readGo
  rw [hD.1.2.1.1]
  refine br_ne (b := 20) (by omega) (by decide) (fun c => ?_) (fun c => ?_)
  · rw [if_neg c] at k
    have hA1 : MA t N (n + 1) (si M c_mo Mo_at (M.1 c_mo Mo_at + 1)) := hA.nx (hA.lt h0) (by rw [hA.at]; exact nI_1 n)
    have a1 : FA M (si M c_mo Mo_at (M.1 c_mo Mo_at + 1)) := FA.at
    generalize si M c_mo Mo_at (M.1 c_mo Mo_at + 1) = M1 at hA1 a1
    have j72F : ∀ (r s z : Int32) (f : Nat) (M2 : Mem), fok f → M2.1 c_mo Mo_fault = nI f → FA M M2 → MRes t N (.inl f) M Q → w_Mo_readGo_j72 r s z M2 (fun M1 => w_Mo_takeSign 59 M1 Q) := fun r s z f M2 fk e a2 k => ⟨fun _ => m_endF fk e (MPF.rfl.fa a2) k, fun y => absurd y (nfz fk e)⟩
    have j56F : ∀ (r s : Int32) (f : Nat) (M2 : Mem), fok f → M2.1 c_mo Mo_fault = nI f → FA M M2 → MRes t N (.inl f) M Q → w_Mo_readGo_j56 r s M2 (fun M1 => w_Mo_takeSign 59 M1 Q) := fun r s f M2 fk e a2 k => ⟨fun y => absurd y (nfp fk e), fun _ => j72F r s 0 f M2 fk e a2 k⟩
    refine m_takeToldP hA1 hg (hD.2.fa a1) (fun f e fk r M2 a2 h2 => ⟨fun y => absurd y (nfp fk h2), fun _ => ?_⟩) (fun e e2 fk r M2 a2 h2 => ⟨fun y => absurd y (nfp fk h2), fun _ => ?_⟩) (fun e p e2 hp M2 a2 h2 => ?_)
    · rw [e] at k; exact j56F r 0 f M2 fk h2 (a1.trans a2) k
    · rw [e, e2] at k; exact j56F r 0 _ M2 fk h2 (a1.trans a2) k
    have a12 := a1.trans a2
    rw [e, e2] at k
    dsimp only at k
    rw [chk_aft (n := n + 2)] at k
    have hp6 : p < 6 := by have := hg.1.2.2.1; omega
    rw [h2.ft]
    refine ⟨fun _ => ?_, fun y => absurd (by decide) y⟩
    have hD2 := hD.fa a12
    have ei : 24 * nI p = nI (24 * p) := by simp only [fa_lit, pk_mul]
    rw [ei]
    refine m_takeHourG (lo := 1) h2 hD2.1.2.2.2.2.1 hg.2.2.2.1 hp6 (by decide) (fun f e3 fk r M3 a3 h3 => ?_) (fun e3 e4 fk r M3 a3 h3 => ?_) (fun e3 e4 v4 M3 a3 h3 => ?_)
    · have e3 : cAft t 5 1 23 (n + 2) = some f := e3
      rw [e3] at k; exact j56F _ _ f M3 fk h3 (a12.trans a3) k
    · have e3 : cAft t 5 1 23 (n + 2) = none := e3
      have e4 : rgoes d (p * 24 + kV t (n + 3)) ≠ none := e4
      rw [e3] at k
      have k : MRes t N (if rgoes d (p * 24 + kV t (n + 3)) ≠ none then .inl (er t (n + 3) 3) else _) M Q := k
      rw [if_pos e4] at k; exact j56F _ _ _ M3 fk h3 (a12.trans a3) k
    have e3 : cAft t 5 1 23 (n + 2) = none := e3
    have e4 : ¬ rgoes d (p * 24 + kV t (n + 3)) ≠ none := e4
    have v4 : kV t (n + 3) ≤ 23 := v4
    rw [e3] at k
    have k : MRes t N (if rgoes d (p * 24 + kV t (n + 3)) ≠ none then .inl (er t (n + 3) 3) else _) M Q := k
    rw [if_neg e4, chk_cell (n := n + 4)] at k
    have a13 := a12.trans a3
    have hD3 := hD.fa a13
    unfold w_Mo_readGo_j56
    rw [h3.ft]
    refine ⟨fun _ => ?_, fun y => absurd (by decide) y⟩
    refine m_takeCell h3 hD3.1.1.1 hD3.1.1.2.1 hg.1.1 hg.1.2.1 (fun f e5 fk r M4 a4 h4 => ?_) (fun e5 c64 M4 a4 h4 => ?_)
    · have e5 : cCell t (rwide d - 1) (rdeep d - 1) (n + 4) = some f := e5
      rw [e5] at k; exact j72F _ _ _ f M4 fk h4 (a13.trans a4) k
    have e5 : cCell t (rwide d - 1) (rdeep d - 1) (n + 4) = none := e5
    rw [e5] at k
    have a14 := a13.trans a4
    have hD4 := hD.fa a14
    unfold w_Mo_readGo_j72
    have ex : nI (24 * p) + nI (kV t (n + 3)) = nI (p * 24 + kV t (n + 3)) := by rw [nI_add, Nat.mul_comm]
    have ex2 : 24 * nI p + nI (kV t (n + 1 + 1 + 1)) = nI (p * 24 + kV t (n + 3)) := by rw [ei]; exact ex
    rw [h4.ft, ex2, nI_clamp (by omega), hD4.1.2.1.1, nI_1]
    refine ⟨fun y => absurd rfl y, fun _ => ⟨vp_in_nI (by omega) (by decide), ?_⟩⟩
    have hDe : MD0 (uGoes (uGo d) (p * 24 + kV t (n + 3)) (kV t (n + 6) * 8 + kV t (n + 5))) n (si (si M4 c_mo_goes (p * 24 + kV t (n + 3)) (nI (kV t (n + 6) * 8 + kV t (n + 5)))) c_mo Mo_goesMany (nI (rgo d + 1))) := (hD4.1.uGoes (i := p * 24 + kV t (n + 3)) (c := kV t (n + 6) * 8 + kV t (n + 5))).uGo
    exact m_end (n := n + 7) ((h4.fr (M' := si M4 c_mo_goes (p * 24 + kV t (n + 3)) (nI (kV t (n + 6) * 8 + kV t (n + 5)))) (fr2_si (L := [c_mo_goes]) (by decide)) (by decide)).sl (by decide) (by decide)) hDe (hD4.2.mv (by rw [si_of (by decide)]; rfl) rfl rfl) (by omega) (((MPF.rfl.fa a14).ot (fr2_si (L := [c_mo_goes]) (by decide)) (by decide) (by decide)).mo (by decide) (by decide)) k
  · rw [if_pos c] at k
    exact m_wrong (a := 5) hA (by decide) (by decide) (fun fk M1 a1 h1 => m_endF fk h1 (MPF.rfl.fa a1) k)
theorem m_readCall {t : List Nat} {N n : Nat} {d : Dr} {M : Mem} {Q : Mem → Prop} (hA : MA t N n M) (h0 : kS t n ≠ 0) (hg : GDr d) (hD : MDr d n M) (k : MRes t N (aCall t n d) M Q) : w_Mo_readCall M (fun M1 => w_Mo_takeSign 59 M1 Q) := by
  have hca := hg.1.2.2.2.2.2.2
  unfold aCall at k
  unfold w_Mo_readCall
  rw [hD.1.2.1.2.1]
  refine br_ne (b := 30) (by omega) (by decide) (fun c => ?_) (fun c => ?_)
  · rw [if_neg c] at k
    have hA1 : MA t N (n + 1) (si M c_mo Mo_at (M.1 c_mo Mo_at + 1)) := hA.nx (hA.lt h0) (by rw [hA.at]; exact nI_1 n)
    have a1 : FA M (si M c_mo Mo_at (M.1 c_mo Mo_at + 1)) := FA.at
    generalize si M c_mo Mo_at (M.1 c_mo Mo_at + 1) = M1 at hA1 a1
    have j56F : ∀ (r s : Int32) (f : Nat) (M2 : Mem), fok f → M2.1 c_mo Mo_fault = nI f → FA M M2 → MRes t N (.inl f) M Q → w_Mo_readCall_j56 r s M2 (fun M1 => w_Mo_takeSign 59 M1 Q) := fun r s f M2 fk e a2 k => by
      unfold w_Mo_readCall_j56
      exact m_takeAfterF fk e (fun r M3 a3 h3 => ⟨fun _ => m_endF fk h3 (MPF.rfl.fa (a2.trans a3)) k, fun y => absurd y (nfz fk h3)⟩)
    refine m_takeToldB hA1 hg (hD.2.fa a1) (fun f e fk r M2 a2 h2 => ⟨fun y => absurd y (nfp fk h2), fun _ => ?_⟩) (fun e e2 fk r M2 a2 h2 => ⟨fun y => absurd y (nfp fk h2), fun _ => ?_⟩) (fun e p e2 hp M2 a2 h2 => ?_)
    · rw [e] at k; exact j56F r 0 f M2 fk h2 (a1.trans a2) k
    · rw [e, e2] at k; exact j56F r 0 _ M2 fk h2 (a1.trans a2) k
    have a12 := a1.trans a2
    rw [e, e2] at k
    dsimp only at k
    rw [chk_aft (n := n + 2)] at k
    have hp5 : p < 5 := by have := hg.1.2.2.2.1; omega
    rw [h2.ft]
    refine ⟨fun _ => ?_, fun y => absurd (by decide) y⟩
    have hD2 := hD.fa a12
    have ei : 24 * nI p = nI (24 * p) := by simp only [fa_lit, pk_mul]
    rw [ei]
    refine m_takeHourC (lo := 0) h2 hD2.1.2.2.2.2.2.1 hg.2.2.2.2.1.1 hp5 (by decide) (fun f e3 fk r M3 a3 h3 => ?_) (fun e3 e4 fk r M3 a3 h3 => ?_) (fun e3 e4 v4 M3 a3 h3 => ?_)
    · have e3 : cAft t 5 0 23 (n + 2) = some f := e3
      rw [e3] at k; exact j56F _ _ f M3 fk h3 (a12.trans a3) k
    · have e3 : cAft t 5 0 23 (n + 2) = none := e3
      have e4 : rtimes d (p * 24 + kV t (n + 3)) ≠ 0 := e4
      rw [e3] at k
      have k : MRes t N (if rtimes d (p * 24 + kV t (n + 3)) ≠ 0 then .inl (er t (n + 3) 3) else _) M Q := k
      rw [if_pos e4] at k; exact j56F _ _ _ M3 fk h3 (a12.trans a3) k
    have e3 : cAft t 5 0 23 (n + 2) = none := e3
    have e4 : ¬ rtimes d (p * 24 + kV t (n + 3)) ≠ 0 := e4
    have v4 : kV t (n + 3) ≤ 23 := v4
    rw [e3] at k
    have k : MRes t N (if rtimes d (p * 24 + kV t (n + 3)) ≠ 0 then .inl (er t (n + 3) 3) else _) M Q := k
    rw [if_neg e4, chk_aft (n := n + 4)] at k
    have a13 := a12.trans a3
    unfold w_Mo_readCall_j56
    refine m_takeAfter (q := 8) (lo := 1) (hi := 9) h3 (by decide) (by decide) (by decide) (fun f e5 fk r M4 a4 h4 => ⟨fun _ => ?_, fun y => absurd y (nfz fk h4)⟩) (fun e5 s5 v5 M4 a4 h4 => ?_)
    · have e5 : cAft t 8 1 9 (n + 4) = some f := e5
      rw [e5] at k; exact m_endF fk h4 (MPF.rfl.fa (a13.trans a4)) k
    have e5 : cAft t 8 1 9 (n + 4) = none := e5
    rw [e5] at k
    have a14 := a13.trans a4
    have hD4 := hD.fa a14
    have ex2 : 24 * nI p + nI (kV t (n + 1 + 1 + 1)) = nI (p * 24 + kV t (n + 3)) := by rw [ei, nI_add, Nat.mul_comm]
    rw [h4.ft, ex2, nI_clamp (by omega), hD4.1.2.1.2.1, nI_1]
    refine ⟨fun y => absurd rfl y, fun _ => ⟨vp_in_nI (by omega) (by decide), ?_⟩⟩
    have hDe : MD0 (uTimes (uCa d) (p * 24 + kV t (n + 3)) (kV t (n + 5))) n (si (si M4 c_mo_readCalls (p * 24 + kV t (n + 3)) (nI (kV t (n + 5)))) c_mo Mo_callsMany (nI (rca d + 1))) := (hD4.1.uTimes (i := p * 24 + kV t (n + 3)) (v := kV t (n + 5))).uCa
    exact m_end (n := n + 6) ((h4.fr (M' := si M4 c_mo_readCalls (p * 24 + kV t (n + 3)) (nI (kV t (n + 5)))) (fr2_si (L := [c_mo_readCalls]) (by decide)) (by decide)).sl (by decide) (by decide)) hDe (hD4.2.mv (by rw [si_of (by decide)]; rfl) rfl rfl) (by omega) (((MPF.rfl.fa a14).ot (fr2_si (L := [c_mo_readCalls]) (by decide)) (by decide) (by decide)).mo (by decide) (by decide)) k
  · rw [if_pos c] at k
    exact m_wrong (a := 5) hA (by decide) (by decide) (fun fk M1 a1 h1 => m_endF fk h1 (MPF.rfl.fa a1) k)
theorem m_readBird {t : List Nat} {N n : Nat} {d : Dr} {M : Mem} {Q : Mem → Prop} (hA : MA t N n M) (h0 : kS t n ≠ 0) (hg : GDr d) (hD : MDr d n M) (k : MRes t N (aBird t n d) M Q) : w_Mo_readBird M (fun M1 => w_Mo_takeSign 59 M1 Q) := by
  have hnb := hg.1.2.2.2.1
  have hnp := hg.1.2.2.1
  unfold aBird at k
  unfold w_Mo_readBird
  refine ⟨vp_in_nI (n := 183) (by decide) (by decide), fun x ex => ?_⟩
  have ex : x = nI (rnb d) := by rw [ex]; exact hD.1.1.2.2.2.1
  subst ex
  refine br_ne (b := 5) (by omega) (by decide) (fun c => ?_) (fun c => ?_)
  · rw [if_neg c] at k
    have e6 : 6 + nI (rnb d) = nI (6 + rnb d) := by simp only [fa_lit, nI_add]
    have e343 : 343 + nI (rnb d) = nI (343 + rnb d) := by simp only [fa_lit, nI_add]
    rw [e6, e343, nI_clamp (by omega), show Int32.toNatClampNeg 183 = 183 from rfl]
    have v1 := vp_in_nI (n := 343 + rnb d) (N := 360) (by omega) (by decide)
    have v2 := vp_in_nI (n := 183) (N := 360) (by decide) (by decide)
    have tail : ∀ (f : Nat) (M2 : Mem), fok f → M2.1 c_mo Mo_fault = nI f → MPF M M2 → MRes t N (.inl f) M Q → w_Mo_takeCell M2 (fun r825 M824 => (vp_in (nI (343 + rnb d)) 360 ∧ (vp_in 183 360 ∧ (vp_in 183 360 ∧ w_Mo_takeSign 59 (si (si M824 c_mo_lands (343 + rnb d) r825) c_mo_lands 183 (((si M824 c_mo_lands (343 + rnb d) r825).1 c_mo_lands 183) + 1)) Q)))) := fun f M2 fk e hP k => m_takeCellF fk e (fun r M3 a3 h3 => ⟨v1, v2, v2, m_endF fk h3 (((hP.fa a3).ld (by omega)).ld (by decide)) k⟩)
    refine m_readName (id := 6 + rnb d) (d' := uNb d (kW t (n + 1)) 0) hA h0 hg hD.2 (by omega) (by show rnp d + (rnb d + 1) = _; omega) (fun i => ?_) (fun y => ?_) rfl (fun f e fk M2 a2 h2 => ?_) (fun e e2 fk M2 a2 h2 => ?_) (fun e e2 M2 a2 h2 hN2 => ?_)
    · show (i < rnp d ∨ 6 ≤ i ∧ i < 6 + (rnb d + 1)) ↔ (i < rnp d ∨ 6 ≤ i ∧ i < 6 + rnb d) ∨ i = 6 + rnb d
      omega
    · rcases y with y | y <;> omega
    · rw [e] at k; exact tail f M2 fk h2 (MPF.rfl.fn a2) k
    · rw [e, if_pos e2] at k; exact tail _ M2 fk h2 (MPF.rfl.fn a2) k
    rw [e, if_neg e2, chk_cell (n := n + 2)] at k
    have hD2 := hD.1.fn a2
    refine m_takeCell h2 hD2.1.1 hD2.1.2.1 hg.1.1 hg.1.2.1 (fun f e5 fk r M4 a4 h4 => ⟨v1, v2, v2, ?_⟩) (fun e5 c64 M4 a4 h4 => ⟨v1, v2, v2, ?_⟩)
    · rw [e5] at k
      exact m_endF fk h4 ((((MPF.rfl.fn a2).fa a4).ld (by omega)).ld (by decide)) k
    · rw [e5] at k
      have hD4 := (hD2.fa a4).ld (i := 343 + rnb d) (v := nI (kV t (n + 2 + 2) * 8 + kV t (n + 2 + 1))) hg (by omega) (fun p hp => ⟨by omega, by omega⟩) (fun b hb => by omega)
      rw [hD4.1.2.2.2.1, nI_1]
      have hDe := hD4.uNb (w := kW t (n + 1)) (c := kV t (n + 4) * 8 + kV t (n + 3)) si_at
      exact m_end (n := n + 5) ((h4.fr (M' := si M4 c_mo_lands (343 + rnb d) _) (fr2_si (L := [c_mo_lands]) (by decide)) (by decide)).fr (fr2_si (L := [c_mo_lands]) (by decide)) (by decide)) hDe ((hN2.fa a4).mv rfl rfl rfl) (by omega) ((((MPF.rfl.fn a2).fa a4).ld (by omega)).ld (by decide)) k
  · rw [if_pos c] at k
    exact m_wrong (a := 5) hA (by decide) (by decide) (fun fk M1 a1 h1 => m_endF fk h1 (MPF.rfl.fa a1) k)
