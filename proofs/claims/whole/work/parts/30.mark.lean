/-! marks of the class -/
def cpD (M : Mem) (kd kt kb kd' kt' kb' : Nat) : Mem := sa (si (sa M kt' (va_cpy (M.1 kt) (M.1 kt') (Int32.toNatClampNeg 0) (Int32.toNatClampNeg 0) (Int32.toNatClampNeg 120))) kd' Deeds_shot (M.1 kd Deeds_shot)) kb' (va_cpy (M.1 kb) (M.1 kb') (Int32.toNatClampNeg 0) (Int32.toNatClampNeg 0) (Int32.toNatClampNeg 6))
theorem cpD_fr {M : Mem} {kd kt kb kd' kt' kb' : Nat} : Fr [kd', kt', kb'] M (cpD M kd kt kb kd' kt' kb') := ((fr_sa (by simp)).trans (fr_si (by simp))).trans (fr_sa (by simp))
theorem cpD_XD {M : Mem} {kd kt kb kd' kt' kb' : Nat} {d : Deeds} (h : XD kd kt kb d M) (n1 : kt' ≠ kd') (n2 : kt' ≠ kb') (n3 : kd' ≠ kb') : XD kd' kt' kb' d (cpD M kd kt kb kd' kt' kb') := by
  have z : Int32.toNatClampNeg 0 = 0 := rfl
  have z1 : Int32.toNatClampNeg 120 = 120 := rfl
  have z2 : Int32.toNatClampNeg 6 = 6 := rfl
  unfold cpD
  rw [z, z1, z2]
  refine ⟨fun i hi => ?_, ?_, fun p hp => ?_⟩
  · rw [sa_ne _ _ n2, si_ne _ _ _ n1, sa_same, cpy_in0 (Nat.zero_le i) (by omega), Nat.sub_zero, Nat.zero_add]; exact h.1 i hi
  · rw [sa_ne _ _ n3, si_same, up_s]; exact h.2.1
  · rw [sa_same, cpy_in0 (Nat.zero_le p) (by omega), Nat.sub_zero, Nat.zero_add]; exact h.2.2 p hp
def markOk (mk : Nat → Option Deeds) (a w : Int32) : Bool := inR 4 a && (decide (w = 0) || (mk (anI a)).isSome)
def markN (σ : St) (a w : Int32) : St := if markOk (sM σ) a w then (if w = 0 then (sT σ, sL σ, sD σ, (fun k => if k = anI a then some (sD σ) else sM σ k), sH σ) else match sM σ (anI a) with
  | some d => (sT σ, sL σ, d, sM σ, [])
  | none => σ) else σ
theorem x_markR {σ : St} {j : Nat} {d : Deeds} {M : Mem} {Q : Bool → Mem → Prop} (hX : XRep σ M) (hj : j < 4) (hd : sM σ j = some d) (k : ∀ M', Fr2 SCL M M' → XRep (sT σ, sL σ, d, sM σ, []) M' → Q true M') : Q true (si (cpD M (35 + 3 * j) (36 + 3 * j) (37 + 3 * j) c_deeds c_deeds_times c_deeds_debt) c_history Hist_size 0) := by
  obtain ⟨hD, hg, hB, hM, hH, hT, hK⟩ := hX
  obtain ⟨laid, h2, h3, h4⟩ := hM
  obtain ⟨g, hx⟩ := (h4 j hj).2 d hd
  have hc := cpD_XD (kd' := c_deeds) (kt' := c_deeds_times) (kb' := c_deeds_debt) hx (by decide) (by decide) (by decide)
  generalize hM1 : cpD M (35 + 3 * j) (36 + 3 * j) (37 + 3 * j) c_deeds c_deeds_times c_deeds_debt = M1 at hc
  have hF1 : Fr [c_deeds, c_deeds_times, c_deeds_debt] M M1 := by rw [← hM1]; exact cpD_fr
  generalize hM2 : si M1 c_history Hist_size 0 = M2
  have hF2 : Fr [c_history] M1 M2 := by rw [← hM2]; exact fr_si (by decide)
  have hF : Fr [c_deeds, c_deeds_times, c_deeds_debt, c_history] M M2 := (hF1.mono (by decide)).trans (hF2.mono (by decide))
  have hc2 := hc.fr (hF2.1 _ (by decide)) (hF2.1 _ (by decide)) (hF2.1 _ (by decide))
  refine k M2 (hF.mono (by decide)).two ⟨hD.mkd hF (by decide) (fun i hi => ⟨hc2.1 i hi, g.1.1 i hi⟩) hc2.2.1 g.1.2.1, g, fun p hp => ⟨hc2.2.2 p hp, g.2.1 p hp⟩, XMk.fr ⟨laid, h2, h3, h4⟩ hF (by decide), ⟨?_, Nat.zero_le _, trivial⟩, hT.fr hF (by decide), hK.fr hF⟩
  rw [← hM2, si_same, up_s]; rfl
theorem x_markS {σ : St} {j : Nat} {M : Mem} {Q : Bool → Mem → Prop} (hX : XRep σ M) (hj : j < 4) (k : ∀ M', Fr2 SCL M M' → XRep (sT σ, sL σ, sD σ, (fun k => if k = j then some (sD σ) else sM σ k), sH σ) M' → Q true M') : Q true (si (cpD M c_deeds c_deeds_times c_deeds_debt (35 + 3 * j) (36 + 3 * j) (37 + 3 * j)) c_xx Top_laid (((cpD M c_deeds c_deeds_times c_deeds_debt (35 + 3 * j) (36 + 3 * j) (37 + 3 * j)).1 c_xx Top_laid) ||| (1 <<< (nI j &&& 31)))) := by
  obtain ⟨hD, hg, hB, hM, hH, hT, hK⟩ := hX
  obtain ⟨laid, h2, h3, h4⟩ := hM
  have hx : XD c_deeds c_deeds_times c_deeds_debt (sD σ) M := ⟨fun i hi => (hD.2.2.2.2.1 i hi).1, hD.2.2.2.2.2.1, fun p hp => (hB p hp).1⟩
  have hc := cpD_XD (kd' := 35 + 3 * j) (kt' := 36 + 3 * j) (kb' := 37 + 3 * j) hx (by omega) (by omega) (by omega)
  generalize hM1 : cpD M c_deeds c_deeds_times c_deeds_debt (35 + 3 * j) (36 + 3 * j) (37 + 3 * j) = M1 at hc ⊢
  have hF1 : Fr [35 + 3 * j, 36 + 3 * j, 37 + 3 * j] M M1 := by rw [← hM1]; exact cpD_fr
  have ex : M1.1 c_xx = M.1 c_xx := hF1.1 _ (by intro z; have : c_xx = 0 := rfl; rw [this] at z; simp only [List.mem_cons, List.not_mem_nil, or_false] at z; omega)
  rw [ex, h2, shl1 (by omega), fa_or]
  generalize hM2 : si M1 c_xx Top_laid (nI (laid ||| 2 ^ j)) = M2
  have hF2 : Fr [c_xx] M1 M2 := by rw [← hM2]; exact fr_si (by decide)
  have hs : ∀ j : Fin 4, ∀ k ∈ [35 + 3 * j.val, 36 + 3 * j.val, 37 + 3 * j.val], k ∈ MKs := by decide
  have hF : Fr MKs M M2 := (hF1.mono (hs ⟨j, hj⟩)).trans (hF2.mono (by decide))
  have e2 : ∀ k, k ≠ 0 → M2.1 k = M1.1 k := fun k hk => hF2.1 k (by intro z; simp only [List.mem_cons, List.not_mem_nil, or_false] at z; exact hk z)
  refine k M2 (hF.mono (by decide)).two ⟨hD.fr hF (by decide), hg, hB.fr hF (by decide), ⟨laid ||| 2 ^ j, ?_, ?_, fun i hi => ⟨?_, fun d hd => ?_⟩⟩, hH.fr hF (by decide), hT.fr hF (by decide), hK.fr hF⟩
  · rw [← hM2, si_same, up_s]
  · have : 2 ^ j < 2 ^ 4 := Nat.pow_lt_pow_right (by decide) hj
    exact Nat.or_lt_two_pow (n := 4) h3 this
  · rw [fb_bit_set, (h4 i hi).1]
    show ((sM σ i).isSome || decide (i = j)) = (if i = j then some (sD σ) else sM σ i).isSome
    by_cases c : i = j
    · rw [if_pos c, decide_eq_true c, Bool.or_true]; rfl
    · rw [if_neg c, decide_eq_false c, Bool.or_false]
  · have hd : (if i = j then some (sD σ) else sM σ i) = some d := hd
    by_cases c : i = j
    · rw [if_pos c] at hd
      cases hd
      subst c
      exact ⟨hg, hc.fr (e2 _ (by omega)) (e2 _ (by omega)) (e2 _ (by omega))⟩
    · rw [if_neg c] at hd
      obtain ⟨g, hx⟩ := (h4 i hi).2 d hd
      have e1 : ∀ k, k ≠ 35 + 3 * j → k ≠ 36 + 3 * j → k ≠ 37 + 3 * j → M1.1 k = M.1 k := fun k n1 n2 n3 => hF1.1 k (by intro z; simp only [List.mem_cons, List.not_mem_nil, or_false] at z; omega)
      exact ⟨g, hx.fr ((e2 _ (by omega)).trans (e1 _ (by omega) (by omega) (by omega))) ((e2 _ (by omega)).trans (e1 _ (by omega) (by omega) (by omega))) ((e2 _ (by omega)).trans (e1 _ (by omega) (by omega) (by omega)))⟩
theorem x_Tmark {σ : St} {a w : Int32} {M : Mem} {Q : Bool → Mem → Prop} (hX : XRep σ M) (k : ∀ M', Fr2 SCL M M' → XRep (markN σ a w) M' → Q (markOk (sM σ) a w) M') : w_Top_mark a w M Q := by
  have k0 : markOk (sM σ) a w = false → Q false M := fun e => by
    have := k M Fr2.rfl (by unfold markN; rw [e]; exact hX)
    rw [e] at this; exact this
  obtain ⟨laid, h2, h3, h4⟩ := hX.2.2.2.1
  unfold w_Top_mark
  refine ⟨fun g1 => k0 (by unfold markOk inR; rw [decide_eq_true g1]; rfl), fun g1 => ⟨fun g2 => ?_, fun g2 => k0 (by
    have g2 : ¬ a < nI 4 := g2
    unfold markOk inR
    rw [decide_eq_false g2, Bool.and_false]; rfl)⟩⟩
  have hin : inR 4 a = true := by
    have g2 : a < nI 4 := g2
    unfold inR
    rw [decide_eq_false g1, decide_eq_true g2]; rfl
  obtain ⟨j, hj, rfl⟩ := inR_true (by decide) hin
  have v : vp_in (nI j) 4 := vp_in_nI hj (by decide)
  unfold markN markOk at k
  unfold markOk at k0
  unfold anI at k k0
  rw [hin, nI_clamp (by omega)] at k k0
  refine ⟨fun g3 => ?_, fun g3 => ?_⟩
  · rw [h2, bit_at (by omega) (by omega)]
    rw [decide_eq_false g3] at k k0
    have hb := (h4 j hj).1
    cases hd : sM σ j with
    | none =>
      rw [hd] at hb k0
      exact ⟨fun q => absurd (bitI_0.mpr hb) q, fun _ => k0 rfl⟩
    | some d =>
      rw [hd] at hb k
      rw [if_neg g3] at k
      refine ⟨fun _ => ⟨v, fun z => ?_, fun z => ?_, fun z => ?_, fun z => ?_⟩, fun q => ?_⟩
      · have := ni_inj (by omega) (by omega) z; subst this; exact x_markR hX hj hd k
      · have := ni_inj (by omega) (by omega) z; subst this; exact x_markR hX hj hd k
      · have := ni_inj (by omega) (by omega) z; subst this; exact x_markR hX hj hd k
      · have := ni_inj (by omega) (by omega) z; subst this; exact x_markR hX hj hd k
      · rw [bitI_0, hb] at q; cases q
  · rw [decide_eq_true g3] at k
    rw [if_pos g3] at k
    refine ⟨v, fun z => ?_, fun z => ?_, fun z => ?_, fun z => ?_⟩
    · have := ni_inj (by omega) (by omega) z; subst this; exact x_markS hX hj k
    · have := ni_inj (by omega) (by omega) z; subst this; exact x_markS hX hj k
    · have := ni_inj (by omega) (by omega) z; subst this; exact x_markS hX hj k
    · have := ni_inj (by omega) (by omega) z; subst this; exact x_markS hX hj k
