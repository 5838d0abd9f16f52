/-! the reference's debts -/
def MAt (l : Land) (at_ : Nat → Nat) (M : Mem) : Prop := ∀ p h, p < lnp l → h < 24 → at_ (p * 24 + h) < 64 ∧ ((¬ nI h < M.1 c_mo Mo_standFrom ∧ ¬ M.1 c_mo Mo_standTo < nI h ∧ ¬ M.1 c_mo_standing p < 0) → M.1 c_mo_standing p = nI (at_ (p * 24 + h))) ∧ (¬ (¬ nI h < M.1 c_mo Mo_standFrom ∧ ¬ M.1 c_mo Mo_standTo < nI h ∧ ¬ M.1 c_mo_standing p < 0) → at_ (p * 24 + h) = lplace l (p * 24 + h))
theorem MAt.mv {l : Land} {at_ : Nat → Nat} {M M' : Mem} (h : MAt l at_ M) (e1 : M'.1 c_mo Mo_standFrom = M.1 c_mo Mo_standFrom) (e2 : M'.1 c_mo Mo_standTo = M.1 c_mo Mo_standTo) (e3 : M'.1 c_mo_standing = M.1 c_mo_standing) : MAt l at_ M' := by
  unfold MAt; rw [e1, e2, e3]; exact h
theorem MAt.fr {l : Land} {at_ : Nat → Nat} {M M' : Mem} {L : List Nat} (h : MAt l at_ M) (hF : Fr L M M') (hd : ∀ k ∈ [c_mo, c_mo_standing], k ∉ L) : MAt l at_ M' := h.mv (by rw [hF.1 _ (hd _ (by decide))]) (by rw [hF.1 _ (hd _ (by decide))]) (hF.1 _ (hd _ (by decide)))
theorem m_placeAt {l : Land} {at_ : Nat → Nat} {p h : Nat} {M : Mem} {Q : Int32 → Mem → Prop} (hl : LOK l) (hL : ML l M) (hA : MAt l at_ M) (hp : p < lnp l) (hh : h < 24) (k : Q (nI (at_ (p * 24 + h))) M) : w_Mo_placeAt (nI p) (nI h) M Q := by
  have hnp := hl.2.2.1
  obtain ⟨a1, a2, a3⟩ := hA p h hp hh
  have hj : ¬ (¬ nI h < M.1 c_mo Mo_standFrom ∧ ¬ M.1 c_mo Mo_standTo < nI h ∧ ¬ M.1 c_mo_standing p < 0) → w_Mo_placeAt_j34 (nI p) (nI h) M Q := fun z => by
    unfold w_Mo_placeAt_j34
    have ea : 19 + 24 * nI p + nI h = nI (19 + 24 * p + h) := by simp only [fa_lit, pk_mul, nI_add]
    rw [ea, nI_clamp (by omega), hL.2.2.2.2.2.2.1 p h hp hh, ← a3 z]
    exact ⟨vp_in_nI (by omega) (by decide), k⟩
  have v : vp_in (nI p) 6 := vp_in_nI (by omega) (by decide)
  unfold w_Mo_placeAt
  rw [nI_clamp (by omega)]
  refine ⟨fun q => hj (fun z => z.1 q), fun q1 => ⟨fun q => hj (fun z => z.2.1 q), fun q2 => ⟨v, fun q => hj (fun z => z.2.2 q), fun q3 => ⟨v, ?_⟩⟩⟩⟩
  rw [a2 ⟨q1, q2, q3⟩]; exact k
theorem m_apart {i j : Nat} {M : Mem} {Q : Int32 → Mem → Prop} (hi : i < 64) (hj : j < 64) (k : Q (nI (dst i j)) M) : w_Mo_apart (nI i) (nI j) M Q := by
  unfold w_Mo_apart w_Mo_apart_j30
  intro x ex
  rw [m8 (by omega), m8 (by omega)] at ex
  subst ex
  rw [d8 (by omega), d8 (by omega), absd (by omega) (by omega), absd (by omega) (by omega), nI_add]
  exact k
theorem m_clip {v : Int32} {hi : Nat} {M : Mem} {Q : Int32 → Mem → Prop} (hh : hi < 2 ^ 31) (k : Q (nI (clip v hi)) M) : w_Mo_clip v (nI hi) M Q := by
  unfold clip at k
  unfold w_Mo_clip
  refine ⟨fun h => ?_, fun h => ?_⟩
  · have h0 : ¬ v < 0 := fun z => (fa_of_lt z).2.1 h
    rw [if_neg h0] at k
    obtain ⟨j, hj, rfl⟩ := nI_of h0
    refine ⟨fun h2 => ?_, fun h2 => ?_⟩
    · have h3 : ¬ nI hi < nI j := fun z => (fa_of_lt z).2.1 h2
      rw [if_neg h3, nI_clamp hj] at k; exact k
    · rw [if_pos (fa_of_nle h2)] at k; exact k
  · rw [if_pos (fa_of_nle h)] at k; exact k
abbrev SFP2 : List Nat := [c_mo_facts, c_mo_pile]
theorem ev_one {v h a b t : Int32} (hv : -1 < v) : evL [v] h a b t = v := by
  unfold evL
  simp only [List.foldl_cons, List.foldl_nil]
  have h5 : -5 < v := by rw [fa_lt] at hv ⊢; rw [show (-1 : Int32).toInt = -1 from rfl] at hv; rw [show (-5 : Int32).toInt = -5 from rfl]; omega
  unfold stepL
  rw [if_pos h5, laid_num hv]; rfl
theorem m_fogAt {l : Land} {at_ : Nat → Nat} {p h : Nat} {M : Mem} {Q : Int32 → Mem → Prop} (hl : LOK l) (hL : ML l M) (hA : MAt l at_ M) (hp : p < lnp l) (hh : h < 24) (k : ∀ M', Fr SFP2 M M' → Q (nI (fogv l h (at_ (p * 24 + h)))) M') : w_Mo_fogAt (nI p) (nI h) M Q := by
  have hc := (hA p h hp hh).1
  unfold w_Mo_fogAt
  rw [show Int32.toNatClampNeg 6 = 6 from rfl, show Int32.toNatClampNeg 0 = 0 from rfl, show Int32.toNatClampNeg 4 = 4 from rfl, show Int32.toNatClampNeg 5 = 5 from rfl]
  refine ⟨vp_in_nI (n := 6) (by decide) (by decide), ?_⟩
  rcases hL.2.2.2.2.2.2.2.2.2 with ⟨e, ec⟩ | ⟨f, e1, e2, e3, e4, e5⟩
  · rw [e]
    refine ⟨fun q => absurd q (by decide), fun _ => ?_⟩
    have := k M Fr.rfl
    unfold fogv at this
    rw [ec, ev_one (by decide)] at this
    exact this
  · rw [e1]
    refine ⟨fun _ => ⟨vp_in_nI (n := 0) (by decide) (by decide), ?_⟩, fun q => absurd ((nI_leI (a := 0) (by decide) (by omega)).mpr (Nat.zero_le f)) q⟩
    generalize hM1 : si M c_mo_facts 0 (nI h) = M1
    have hF1 : Fr [c_mo_facts] M M1 := by rw [← hM1]; exact fr_si (by decide)
    refine m_placeAt hl (hL.fr hF1 (by decide)) (hA.fr hF1 (by decide)) hp hh ⟨vp_in_nI (n := 4) (by decide) (by decide), ?_⟩
    rw [m8 (by omega)]
    generalize hM2 : si M1 c_mo_facts 4 (nI (at_ (p * 24 + h) % 8)) = M2
    have hF2 : Fr [c_mo_facts] M M2 := hF1.trans (by rw [← hM2]; exact fr_si (by decide))
    refine m_placeAt hl (hL.fr hF2 (by decide)) (hA.fr hF2 (by decide)) hp hh ⟨vp_in_nI (n := 5) (by decide) (by decide), vp_in_nI (n := 6) (by decide) (by decide), ?_⟩
    rw [d8 (by omega), hF2.1 c_mo_lands (by decide), e1]
    generalize hM3 : si M2 c_mo_facts 5 (nI (at_ (p * 24 + h) / 8)) = M3
    have hF3 : Fr [c_mo_facts] M M3 := hF2.trans (by rw [← hM3]; exact fr_si (by decide))
    refine m_worth (fog := true) (h := nI h) (a := nI (at_ (p * 24 + h) % 8)) (b := nI (at_ (p * 24 + h) / 8)) (t := 0) hl.2.2.2.2.2.2.2.2.2 e2 (fun j hj => ?_) ?_ e5 ⟨?_, ?_, ?_, fun z => by cases z⟩ (fun M4 hF4 => m_clip (hi := 14) (by decide) (k M4 ((hF3.mono (by decide)).trans (hF4.mono (by decide)))))
    · rw [hF3.1 _ (by decide), hF3.1 _ (by decide)]; exact e3 j hj
    · rw [hF3.1 _ (by decide)]; exact e4
    · rw [← hM3, si_same, up_n (by decide), ← hM2, si_same, up_n (by decide), ← hM1, si_same, up_s]
    · show M3.1 c_mo_facts 4 = _
      rw [← hM3, si_same, up_n (by decide), ← hM2, si_same, up_s]
    · show M3.1 c_mo_facts 5 = _
      rw [← hM3, si_same, up_s]
theorem m_nearestTo {l : Land} {at_ : Nat → Nat} {p h : Nat} {M : Mem} {Q : Int32 → Mem → Prop} (hl : LOK l) (hL : ML l M) (hA : MAt l at_ M) (hp : p < lnp l) (hh : h < 24) (k : ∀ M', Fr SFP2 M M' → Q (oI (near l at_ h p).1) M') : w_Mo_nearestTo (nI p) (nI h) M Q := by
  have hnp := hl.2.2.1
  have hc := (hA p h hp hh).1
  unfold w_Mo_nearestTo
  refine m_fogAt hl hL hA hp hh (fun M1 hF1 => ?_)
  have hL1 := hL.fr hF1 (by decide)
  have hA1 := hA.fr hF1 (by decide)
  have hfg := fogv_le l h (at_ (p * 24 + h))
  rw [nI_1]
  refine for_loop (fun n e (M2 : Mem) => w_Mo_nearestTo_L18 (nI p) (nI h) (fun y M3 => Q y M3) Q n (oI (nrs (fun e => dst (at_ (p * 24 + h)) (at_ (e * 24 + h))) p (fogv l h (at_ (p * 24 + h)) + 1) e).1) (nI (nrs (fun e => dst (at_ (p * 24 + h)) (at_ (e * 24 + h))) p (fogv l h (at_ (p * 24 + h)) + 1) e).2) (nI e) M2) (fun e M2 => M2 = M1) (lnp l) 0 M1 (Nat.zero_le _) rfl ?_ ?_
  · intro n M2 e
    subst e
    unfold w_Mo_nearestTo_L18
    exact m_persons hL1.2.1 (br_le (by omega) (by omega) (fun _ => k _ hF1) (fun q => absurd q (by omega)))
  · intro n e M2 _ he e2 kk
    subst e2
    have kk := kk _ rfl
    rw [nrs] at kk
    have hle := nrs_le (fun e => dst (at_ (p * 24 + h)) (at_ (e * 24 + h))) p (fogv l h (at_ (p * 24 + h)) + 1) e
    have hc2 := (hA e h he hh).1
    have hd := dst_le hc hc2
    generalize nrs (fun e => dst (at_ (p * 24 + h)) (at_ (e * 24 + h))) p (fogv l h (at_ (p * 24 + h)) + 1) e = st at kk hle
    unfold w_Mo_nearestTo_L18
    refine m_persons hL1.2.1 (br_le (by omega) (by omega) (fun q => absurd q (by omega)) (fun _ => m_placeAt hl hL1 hA1 hp hh (m_placeAt hl hL1 hA1 he hh (m_apart hc hc2 ?_))))
    rw [nI_1]
    refine br_eq (by omega) (by omega) (fun q => ?_) (fun q => br_le (by omega) (by omega) (fun q2 => ?_) (fun q2 => ?_))
    · rw [if_neg (fun z => z.1 q)] at kk; exact kk
    · rw [if_neg (fun z => by have := z.2; omega)] at kk; exact kk
    · rw [if_pos ⟨q, q2⟩] at kk; exact kk
theorem m_kindOf {l : Land} {p : Nat} {M : Mem} {Q : Int32 → Mem → Prop} (hl : LOK l) (hL : ML l M) (hp : p < lnp l) (k : Q (nI (lkind l p)) M) : w_Mo_kindOf (nI p) M Q := by
  have hnp := hl.2.2.1
  unfold w_Mo_kindOf
  have ea : 7 + 2 * nI p = nI (7 + 2 * p) := by simp only [fa_lit, pk_mul, nI_add]
  rw [ea, nI_clamp (by omega), hL.2.2.2.2.1 p hp]
  exact ⟨vp_in_nI (by omega) (by decide), k⟩
theorem m_hears {l : Land} {at_ : Nat → Nat} {b p h : Nat} {M : Mem} {Q : Bool → Mem → Prop} (hl : LOK l) (hL : ML l M) (hA : MAt l at_ M) (hb : b < lnb l) (hp : p < lnp l) (hh : h < 24) (k : Q (hrs l at_ b h p) M) : w_Mo_hears (nI b) (nI h) (nI p) M Q := by
  have hnb := hl.2.2.2.1
  have hc := (hA p h hp hh).1
  have hb2 := hl.2.2.2.2.2.2.2.1 b hb
  have hd := dst_le hc hb2
  have hhe := hl.2.2.2.2.1
  have hki := (hl.2.2.2.2.2.1 p hp).1
  unfold hrs at k
  unfold w_Mo_hears
  refine m_kindOf hl hL hp (br_eq (b := 1) (by omega) (by decide) (fun q => ?_) (fun q => m_placeAt hl hL hA hp hh ?_))
  · have : decide (lkind l p ≠ 1) = false := decide_eq_false (fun z => z q)
    rw [this, Bool.and_false] at k; exact k
  · have ea : 163 + nI b = nI (163 + b) := by simp only [fa_lit, nI_add]
    rw [ea, nI_clamp (by omega), hL.2.2.2.2.2.2.2.1 b hb]
    refine ⟨vp_in_nI (by omega) (by decide), m_apart hc hb2 ⟨vp_in_nI (n := 4) (by decide) (by decide), _, ?_, k⟩⟩
    rw [show Int32.toNatClampNeg 4 = 4 from rfl, hL.2.2.2.1, decide_eq_true q, Bool.and_true]
    have := nI_ltI (a := lhear l) (b := dst (at_ (p * 24 + h)) (lbush l b)) (by omega) (by omega)
    by_cases c : dst (at_ (p * 24 + h)) (lbush l b) ≤ lhear l
    · rw [if_neg (fun z => by have := this.mp z; omega), decide_eq_true c]; rfl
    · rw [if_pos (this.mpr (by omega)), decide_eq_false c]; rfl
theorem m_creditor {l : Land} {at_ : Nat → Nat} {b p h : Nat} {M : Mem} {Q : Int32 → Mem → Prop} (hl : LOK l) (hL : ML l M) (hA : MAt l at_ M) (hb : b < lnb l) (hp : p < lnp l) (hh : h < 24) (k : ∀ M', Fr SFP2 M M' → Q (oI (cred l at_ b h p)) M') : w_Mo_creditor (nI b) (nI h) (nI p) M Q := by
  unfold w_Mo_creditor
  unfold cred at k
  refine m_hears hl hL hA hb hp hh ⟨fun q => ?_, fun q => ?_⟩
  · rw [q] at k; exact k M Fr.rfl
  · rw [q] at k; exact m_nearestTo hl hL hA hp hh k
theorem m_pence96 {l : Land} {p t g r : Nat} {M : Mem} {Q : Int32 → Mem → Prop} (hl : LOK l) (hL : ML l M) (hp : p < lnp l) (ht : t ≤ 9) (hg : g < 100) (hr : r ≤ 99) (k : Q (nI (kindp (lkind l p) g (r * t))) M) : w_Mo_pence_j96 (nI p) (nI t) (nI g) (nI r) M Q := by
  have hki := (hl.2.2.2.2.2.1 p hp).1
  have hrt : r * t ≤ 99 * 9 := Nat.mul_le_mul hr ht
  unfold kindp at k
  unfold w_Mo_pence_j96
  rw [pk_mul]
  refine m_kindOf hl hL hp (br_ne (b := 2) (by omega) (by decide) (fun q => br_ne (b := 3) (by omega) (by decide) (fun q2 => br_ne (b := 4) (by omega) (by decide) (fun q3 => ?_) (fun q3 => br_lt (b := 3) (by omega) (by decide) (fun q4 => ?_) (fun q4 => ?_))) (fun q2 => ?_)) (fun q => ?_))
  · rw [if_neg q, if_neg q2, if_neg q3] at k; exact k
  · rw [if_neg q, if_neg q2, if_pos q3, if_neg (by omega)] at k; exact k
  · rw [if_neg q, if_neg q2, if_pos q3, if_pos q4] at k; exact k
  · rw [if_neg q, if_pos q2] at k
    rw [show (2 : Int32) = nI 2 from rfl, pk_mul, Nat.mul_comm 2]; exact k
  · rw [if_pos q] at k
    rw [show (2 : Int32) = nI 2 from rfl, pk_div (by omega) (by decide) (by decide)]; exact k
theorem m_pence {l : Land} {at_ : Nat → Nat} {b p h e t : Nat} {M : Mem} {Q : Int32 → Mem → Prop} (hl : LOK l) (hL : ML l M) (hA : MAt l at_ M) (hb : b < lnb l) (hp : p < lnp l) (hh : h < 24) (hc : cred l at_ b h p = some e) (ht : t ≤ 9) (ht0 : t ≠ 0) (k : ∀ M', Fr SFP2 M M' → Q (nI (pnc l at_ b h p t)) M') : w_Mo_pence (nI b) (nI h) (nI p) (nI e) (nI t) M Q := by
  have hnb := hl.2.2.2.1
  obtain ⟨s1, s2, s3, s4⟩ := near_some (cred_some hc)
  have hcp := (hA p h hp hh).1
  have hce := (hA e h s1 hh).1
  have hb2 := hl.2.2.2.2.2.2.2.1 b hb
  unfold pnc at k
  rw [if_neg ht0, hc] at k
  unfold w_Mo_pence
  refine m_placeAt hl hL hA hp hh (m_placeAt hl hL hA s1 hh (m_apart hcp hce ⟨vp_in_nI (n := 5) (by decide) (by decide), ?_⟩))
  rw [show Int32.toNatClampNeg 5 = 5 from rfl, show Int32.toNatClampNeg 0 = 0 from rfl, show Int32.toNatClampNeg 1 = 1 from rfl, show Int32.toNatClampNeg 2 = 2 from rfl, show Int32.toNatClampNeg 3 = 3 from rfl, ← s3]
  have hrl := ratev_le l h (dst (at_ (p * 24 + h)) (lbush l b)) (near l at_ h p).2 t
  rcases hL.2.2.2.2.2.2.2.2.1 with ⟨e0, ec⟩ | ⟨f, e1, e2, e3, e4, e5⟩
  · rw [e0]
    refine ⟨fun _ => m_pence96 (r := 1) hl hL hp ht (by omega) (by decide) ?_, fun q => absurd (by decide) q⟩
    have := k M Fr.rfl
    have er : ratev l h (dst (at_ (p * 24 + h)) (lbush l b)) (near l at_ h p).2 t = 1 := by
      unfold ratev
      rw [ec, ev_one (by decide)]
      decide
    rw [er] at this
    exact this
  · rw [e1]
    refine ⟨fun q => absurd q (ni_nneg (by omega)), fun _ => ⟨vp_in_nI (n := 0) (by decide) (by decide), ?_⟩⟩
    generalize hM1 : si M c_mo_facts 0 (nI h) = M1
    have hF1 : Fr [c_mo_facts] M M1 := by rw [← hM1]; exact fr_si (by decide)
    have hL1 := hL.fr hF1 (by decide)
    have ea : 163 + nI b = nI (163 + b) := by simp only [fa_lit, nI_add]
    refine m_placeAt hl hL1 (hA.fr hF1 (by decide)) hp hh ?_
    rw [ea, nI_clamp (by omega), hL1.2.2.2.2.2.2.2.1 b hb]
    refine ⟨vp_in_nI (by omega) (by decide), m_apart hcp hb2 ⟨vp_in_nI (n := 1) (by decide) (by decide), vp_in_nI (n := 2) (by decide) (by decide), vp_in_nI (n := 3) (by decide) (by decide), vp_in_nI (n := 5) (by decide) (by decide), ?_⟩⟩
    rw [hF1.1 c_mo_lands (by decide), e1]
    generalize hM2 : si (si (si M1 c_mo_facts 1 (nI (dst (at_ (p * 24 + h)) (lbush l b)))) c_mo_facts 2 (nI (near l at_ h p).2)) c_mo_facts 3 (nI t) = M2
    have hF2 : Fr [c_mo_facts] M M2 := hF1.trans (by rw [← hM2]; exact ((fr_si (by decide)).trans (fr_si (by decide))).trans (fr_si (by decide)))
    refine m_worth (fog := false) (h := nI h) (a := nI (dst (at_ (p * 24 + h)) (lbush l b))) (b := nI (near l at_ h p).2) (t := nI t) hl.2.2.2.2.2.2.2.2.1 e2 (fun j hj => ?_) ?_ e5 ⟨?_, ?_, ?_, fun _ => ?_⟩ (fun M4 hF4 => m_clip (hi := 99) (by decide) ?_)
    · rw [hF2.1 _ (by decide), hF2.1 _ (by decide)]; exact e3 j hj
    · rw [hF2.1 _ (by decide)]; exact e4
    · rw [← hM2, si_same, up_n (by decide), si_same, up_n (by decide), si_same, up_n (by decide), ← hM1, si_same, up_s]
    · show M2.1 c_mo_facts 1 = _
      rw [← hM2, si_same, up_n (by decide), si_same, up_n (by decide), si_same, up_s]
    · show M2.1 c_mo_facts 2 = _
      rw [← hM2, si_same, up_n (by decide), si_same, up_s]
    · rw [← hM2, si_same, up_s]
    · have hFz : Fr SFP2 M M4 := (hF2.mono (by decide)).trans (hF4.mono (by decide))
      exact m_pence96 (r := ratev l h (dst (at_ (p * 24 + h)) (lbush l b)) (near l at_ h p).2 t) hl (hL.fr hFz (by decide)) hp ht (by omega) hrl (k M4 hFz)
