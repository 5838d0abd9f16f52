/-! to shoot, to take back, to be told, to mark -/
def shootOk (l : Land) (d : Deeds) (a v : Int32) : Bool := inR (lnb l) a && !decide (b2i ((dshot d).testBit (anI a)) = v)
def shootN (σ : St) (a v : Int32) : St := if shootOk (sL σ) (sD σ) a v then (sT σ, sL σ, (dtimes (sD σ), dshot (sD σ) ^^^ 2 ^ anI a, ddebt (sD σ)), sM σ, snp (sD σ) :: keepH (sH σ)) else σ
theorem xor_xor (a b : Nat) : a ^^^ b ^^^ b = a := by rw [Nat.xor_assoc, Nat.xor_self, Nat.xor_zero]
theorem xor_lt {a p : Nat} (h : a < 32) (hp : p < 5) : a ^^^ 2 ^ p < 32 := by
  have : 2 ^ p < 2 ^ 5 := Nat.pow_lt_pow_right (by decide) hp
  exact Nat.xor_lt_two_pow (n := 5) h this
theorem x_Tshoot {σ : St} {a v : Int32} {M : Mem} {Q : Bool → Mem → Prop} (hX : XRep σ M) (k : ∀ M', Fr2 SCL M M' → XRep (shootN σ a v) M' → Q (shootOk (sL σ) (sD σ) a v) M') : w_Top_shoot a v M Q := by
  have hnb := hX.1.1.2.2.2.1
  have k0 : shootOk (sL σ) (sD σ) a v = false → Q false M := fun e => by
    have := k M Fr2.rfl (by unfold shootN; rw [e]; exact hX)
    rw [e] at this; exact this
  unfold w_Top_shoot
  refine x_isBird hX.1.2.1 ⟨fun h1 => k0 (by unfold shootOk; rw [h1]; rfl), fun h1 => ?_⟩
  obtain ⟨a, ha, rfl⟩ := inR_true (by omega) h1
  obtain ⟨hD, hg, hB, hM, hH, hT, hK⟩ := hX
  have hsh := hD.2.2.2.2.2
  have hkl := keepH_len hH.2.1
  unfold shootN shootOk at k
  unfold shootOk at k0
  rw [h1] at k k0
  unfold anI at k k0
  rw [nI_clamp (by omega)] at k k0
  refine x_isShot hsh.1 hsh.2 (by omega) ⟨fun e => ?_, fun e => k0 (by rw [decide_eq_true e]; rfl)⟩
  rw [decide_eq_false e] at k
  refine x_remember hH (fun M1 hF1 g1 g2 g3 g4 g5 => ?_)
  rw [hF1.1 c_deeds (by decide), hsh.1, shl1 (by omega), fb_xorI]
  generalize hM2 : si M1 c_deeds Deeds_shot (nI (dshot (sD σ) ^^^ 2 ^ a)) = M2
  have hF2 : Fr [c_deeds] M1 M2 := by rw [← hM2]; exact fr_si (by decide)
  have hF : Fr [c_history, c_history_birds, c_history_hours, c_history_before, c_deeds] M M2 := (hF1.mono (by decide)).trans (hF2.mono (by decide))
  have hxl := xor_lt hsh.2 (show a < 5 by omega)
  refine k M2 (hF.mono (by decide)).two ⟨hD.mkd hF (by decide) ?_ (by rw [← hM2, si_same, up_s]; rfl) hxl, ⟨⟨hg.1.1, hxl, hg.1.2.2⟩, hg.2⟩, ?_, hM.fr hF (by decide), ⟨?_, ?_, ?_, hg.1, ?_⟩, hT.fr hF (by decide), hK.fr hF⟩
  · exact fun i hi => ⟨by rw [hF.1 _ (by decide)]; exact (hD.2.2.2.2.1 i hi).1, (hD.2.2.2.2.1 i hi).2⟩
  · exact fun p hp => ⟨by rw [hF.1 _ (by decide)]; exact (hB p hp).1, (hB p hp).2⟩
  · rw [hF2.1 _ (by decide)]; exact g1
  · show (snp (sD σ) :: keepH (sH σ)).length ≤ 20
    rw [List.length_cons]; omega
  · exact ⟨a, by omega, by rw [hF2.1 _ (by decide)]; exact g3, Or.inl ⟨by rw [hF2.1 _ (by decide)]; exact g4, rfl, (xor_xor _ _).symm⟩⟩
  · exact g2.fr (fun j _ => by rw [hF2.1 _ (by decide), hF2.1 _ (by decide), hF2.1 _ (by decide)]; exact ⟨rfl, rfl, rfl⟩)
def undoOk (σ : St) : Bool := match sH σ with
  | [] => false
  | _ :: _ => true
def undoN (σ : St) : St := match sH σ with
  | [] => σ
  | s :: r => (sT σ, sL σ, (s.1, s.2, ddebt (sD σ)), sM σ, r)
theorem x_Tundo {σ : St} {M : Mem} {Q : Bool → Mem → Prop} (hX : XRep σ M) (k : ∀ M', Fr2 SCL M M' → XRep (undoN σ) M' → Q (undoOk σ) M') : w_Top_undo M Q := by
  have k0 := k M Fr2.rfl
  obtain ⟨hD, hg, hB, hM, hH, hT, hK⟩ := hX
  obtain ⟨h1, h2, h3⟩ := hH
  unfold undoN undoOk at k k0
  unfold w_Top_undo w_Hist_takeBack
  rw [h1]
  cases hs : sH σ with
  | nil =>
    rw [hs] at k0
    exact ⟨fun q => absurd q (by decide), fun _ => k0 ⟨hD, hg, hB, hM, ⟨h1, h2, h3⟩, hT, hK⟩⟩
  | cons s r =>
    rw [hs] at k h2 h3
    obtain ⟨⟨b, hb, e1, e2⟩, g1, g2⟩ := h3
    rw [List.length_cons] at h2
    have hsh := hD.2.2.2.2.2
    rw [List.length_cons, nI_pred, nI_clamp (by omega), e1]
    have v : vp_in (nI r.length) 20 := vp_in_nI (by omega) (by decide)
    refine ⟨fun _ => ⟨v, fun q => ?_, fun q => ?_⟩, fun q => absurd ((nI_ltI (a := 0) (by decide) (by omega)).mpr (by omega)) q⟩
    · rcases e2 with ⟨q2, -, -⟩ | ⟨h, w, hh, f1, f2, f3, f4⟩
      · exact absurd q2 q
      · have ea : nI b * 24 + nI h = nI (b * 24 + h) := by simp only [fa_lit, pk_mul, nI_add]
        rw [f1, f2, ea, nI_clamp (by omega)]
        refine ⟨v, v, v, vp_in_nI (by omega) (by decide), ?_⟩
        generalize hM2 : si (si M c_history Hist_size (nI r.length)) c_deeds_times (b * 24 + h) (nI w) = M2
        have hF : Fr [c_history, c_deeds_times] M M2 := by rw [← hM2]; exact (fr_si (by decide)).trans (fr_si (by decide))
        refine k M2 (hF.mono (by decide)).two ⟨hD.mkd hF (by decide) ?_ ?_ g1.2.1, ⟨g1, hg.2⟩, ?_, hM.fr hF (by decide), ⟨?_, by show r.length ≤ 20; omega, g2.fr (fun j _ => ?_)⟩, hT.fr hF (by decide), hK.fr hF⟩
        · refine fun i hi => ⟨?_, g1.1 i hi⟩
          have e : dtimes (s.1, s.2, ddebt (sD σ)) = un (dtimes (sD σ)) (b * 24 + h) w := f3
          show M2.1 c_deeds_times i = nI (dtimes (s.1, s.2, ddebt (sD σ)) i)
          rw [e, ← hM2, si_same]
          by_cases c : i = b * 24 + h
          · subst c; rw [up_s, un_s]
          · rw [up_n c, un_n c, si_ne _ _ _ (by decide)]; exact (hD.2.2.2.2.1 i hi).1
        · have e : dshot (s.1, s.2, ddebt (sD σ)) = dshot (sD σ) := f4
          show M2.1 c_deeds Deeds_shot = nI (dshot (s.1, s.2, ddebt (sD σ)))
          rw [e, hF.1 _ (by decide)]; exact hsh.1
        · exact fun p hp => ⟨by rw [hF.1 _ (by decide)]; exact (hB p hp).1, (hB p hp).2⟩
        · rw [← hM2, si_ne _ _ _ (by decide), si_same, up_s]; rfl
        · rw [hF.1 _ (by decide), hF.1 _ (by decide), hF.1 _ (by decide)]; exact ⟨rfl, rfl, rfl⟩
    · rcases e2 with ⟨-, f1, f2⟩ | ⟨h, w, hh, f1, f2, f3, f4⟩
      · rw [hsh.1, shl1 (by omega), fb_xorI]
        refine ⟨v, ?_⟩
        generalize hM2 : si (si M c_history Hist_size (nI r.length)) c_deeds Deeds_shot (nI (dshot (sD σ) ^^^ 2 ^ b)) = M2
        have hF : Fr [c_history, c_deeds] M M2 := by rw [← hM2]; exact (fr_si (by decide)).trans (fr_si (by decide))
        refine k M2 (hF.mono (by decide)).two ⟨hD.mkd hF (by decide) ?_ ?_ g1.2.1, ⟨g1, hg.2⟩, ?_, hM.fr hF (by decide), ⟨?_, by show r.length ≤ 20; omega, g2.fr (fun j _ => ?_)⟩, hT.fr hF (by decide), hK.fr hF⟩
        · refine fun i hi => ⟨?_, g1.1 i hi⟩
          have e : dtimes (s.1, s.2, ddebt (sD σ)) = dtimes (sD σ) := f1
          show M2.1 c_deeds_times i = nI (dtimes (s.1, s.2, ddebt (sD σ)) i)
          rw [e, hF.1 _ (by decide)]; exact (hD.2.2.2.2.1 i hi).1
        · have e : dshot (s.1, s.2, ddebt (sD σ)) = dshot (sD σ) ^^^ 2 ^ b := f2
          show M2.1 c_deeds Deeds_shot = nI (dshot (s.1, s.2, ddebt (sD σ)))
          rw [e, ← hM2, si_same, up_s]
        · exact fun p hp => ⟨by rw [hF.1 _ (by decide)]; exact (hB p hp).1, (hB p hp).2⟩
        · rw [← hM2, si_ne _ _ _ (by decide), si_same, up_s]; rfl
        · rw [hF.1 _ (by decide), hF.1 _ (by decide), hF.1 _ (by decide)]; exact ⟨rfl, rfl, rfl⟩
      · rw [f1] at q; exact absurd q (ni_m1 (by omega))
def toldOk (l : Land) (a v : Int32) : Bool := inR (lnp l) a && (!decide (v < -1) && decide (v ≤ 9999))
def toldN (σ : St) (a v : Int32) : St := if toldOk (sL σ) a v then (sT σ, sL σ, (dtimes (sD σ), dshot (sD σ), upd (ddebt (sD σ)) (anI a) v), sM σ, sH σ) else σ
theorem told_v {v : Int32} (h1 : ¬ v < -1) (h2 : v ≤ 9999) : v = -1 ∨ ∃ n, n ≤ 9999 ∧ v = nI n := by
  by_cases c : v < 0
  · left
    rw [fa_lt, show (-1 : Int32).toInt = -1 from rfl] at h1
    rw [fa_lt, show (0 : Int32).toInt = 0 from rfl] at c
    rw [fa_eq, show (-1 : Int32).toInt = -1 from rfl]
    omega
  · right
    obtain ⟨j, hj, rfl⟩ := nI_of c
    exact ⟨j, (nI_leI (b := 9999) hj (by decide)).mp h2, rfl⟩
theorem x_Ttold {σ : St} {a v : Int32} {M : Mem} {Q : Bool → Mem → Prop} (hX : XRep σ M) (k : ∀ M', Fr2 SCL M M' → XRep (toldN σ a v) M' → Q (toldOk (sL σ) a v) M') : w_Top_told a v M Q := by
  have hnp := hX.1.1.2.2.1
  have k0 : toldOk (sL σ) a v = false → Q false M := fun e => by
    have := k M Fr2.rfl (by unfold toldN; rw [e]; exact hX)
    rw [e] at this; exact this
  unfold w_Top_told
  refine x_isPerson hX.1.2.1 ⟨fun h1 => k0 (by unfold toldOk; rw [h1]; rfl), fun h1 => ⟨fun h2 => k0 (by unfold toldOk; rw [h1, decide_eq_true h2]; rfl), fun h2 => ⟨fun h3 => ?_, fun h3 => k0 (by unfold toldOk; rw [h1, decide_eq_false h3, Bool.and_false]; rfl)⟩⟩⟩
  have e : toldOk (sL σ) a v = true := by unfold toldOk; rw [h1, decide_eq_false h2, decide_eq_true h3]; rfl
  unfold toldN at k
  rw [e, if_pos rfl] at k
  obtain ⟨p, hp, rfl⟩ := inR_true (by omega) h1
  unfold anI at k
  rw [nI_clamp (by omega)] at k ⊢
  refine ⟨vp_in_nI (by omega) (by decide), ?_⟩
  obtain ⟨hD, hg, hB, hM, hH, hT, hK⟩ := hX
  have hv := told_v h2 h3
  generalize hM2 : si M c_deeds_debt p v = M2
  have hF : Fr [c_deeds_debt] M M2 := by rw [← hM2]; exact fr_si (by decide)
  have hd : ∀ q, q < 6 → upd (ddebt (sD σ)) p v q = -1 ∨ ∃ n, n ≤ 9999 ∧ upd (ddebt (sD σ)) p v q = nI n := by
    intro q hq
    by_cases c : q = p
    · subst c; rw [up_s]; exact hv
    · rw [up_n c]; exact hg.2.1 q hq
  have hd2 : ∀ q, lnp (sL σ) ≤ q → q < 6 → upd (ddebt (sD σ)) p v q = -1 := by
    intro q h1 h2
    rw [up_n (by omega)]; exact hg.2.2 q h1 h2
  refine k M2 (hF.mono (by decide)).two ⟨hD.fr hF (by decide), ⟨hg.1, hd, hd2⟩, ?_, hM.fr hF (by decide), hH.fr hF (by decide), hT.fr hF (by decide), hK.fr hF⟩
  refine fun q hq => ⟨?_, hd q hq⟩
  show M2.1 c_deeds_debt q = upd (ddebt (sD σ)) p v q
  rw [← hM2, si_same]
  by_cases c : q = p
  · subst c; rw [up_s, up_s]
  · rw [up_n c, up_n c]; exact (hB q hq).1
