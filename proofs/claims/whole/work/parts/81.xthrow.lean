/-! the class side of the questions that can be refused, and both sides together -/
theorem x_Tbalance {σ : St} {a : Int32} {M : Mem} {Q : Int32 → Mem → Prop} {E : Mem → Prop} (hX : XRep σ M) (k : balOk (sL σ) a = true → ∀ M', Fr2 SCL M M' → XRep σ M' → Q (balR (sL σ) (sD σ) a) M') (e : balOk (sL σ) a = false → E M) : w_Top_balance a M Q E := by
  have hnp := hX.1.1.2.2.1
  have hsh := hX.1.2.2.2.2.2
  unfold w_Top_balance
  refine x_isPerson hX.1.2.1 ⟨fun h => e h, fun h => ?_⟩
  have k := k h
  obtain ⟨p, hp, rfl⟩ := inR_true (by omega) h
  unfold balR anI at k
  rw [nI_clamp (show p < 2 ^ 31 by omega)] at k
  rw [hsh.1]
  exact x_balanceAsTold hX (by omega) (by omega) k
theorem x_Twithout {σ : St} {b p : Int32} {M : Mem} {Q : Int32 → Mem → Prop} {E : Mem → Prop} (hX : XRep σ M) (k : witOk (sL σ) (sD σ) b p = true → ∀ M', Fr2 SCL M M' → XRep σ M' → Q (witR (sL σ) (sD σ) b p) M') (e : witOk (sL σ) (sD σ) b p = false → E M) : w_Top_without b p M Q E := by
  have hnp := hX.1.1.2.2.1
  have hnb := hX.1.1.2.2.2.1
  have hsh := hX.1.2.2.2.2.2
  unfold w_Top_without
  refine x_isBird hX.1.2.1 ⟨fun h1 => e (by unfold witOk; rw [h1]; rfl), fun h1 => x_isPerson hX.1.2.1 ⟨fun h2 => e (by unfold witOk; rw [h1, h2]; rfl), fun h2 => ?_⟩⟩
  unfold witOk at k e
  rw [h1, h2] at k e
  obtain ⟨b, hb, rfl⟩ := inR_true (by omega) h1
  obtain ⟨p, hp, rfl⟩ := inR_true (by omega) h2
  unfold witR anI at k
  unfold anI at e
  rw [nI_clamp (show b < 2 ^ 31 by omega)] at k e
  rw [nI_clamp (show p < 2 ^ 31 by omega)] at k
  refine x_isShot hsh.1 hsh.2 (by omega) ⟨fun h3 => e (by rw [h3]; rfl), fun h3 => ?_⟩
  have k := k (by rw [h3]; rfl)
  have h2b : 2 ^ b ≤ 2 ^ 4 := Nat.pow_le_pow_right (by decide) (by omega)
  have hor : dshot (sD σ) ||| 2 ^ b < 2 ^ 5 := Nat.or_lt_two_pow hsh.2 (by omega)
  rw [hsh.1, shl1 (by omega), fa_or]
  refine x_balanceAsTold hX (by omega) (by omega) (fun M1 hF1 hX1 => ?_)
  rw [hX1.1.2.2.2.2.2.1]
  exact x_balanceAsTold hX1 (by omega) (by omega) (fun M2 hF2 hX2 => k M2 (hF1.trans hF2) hX2)
theorem x_Tstand {σ : St} {p f t w : Int32} {M : Mem} {Q : Int32 → Mem → Prop} {E : Mem → Prop} (hX : XRep σ M) (k : stdOk (sL σ) p f t w = true → ∀ M', Fr2 SCL M M' → XRep σ M' → Q (stdR (sL σ) (sD σ) p f t w) M') (e : stdOk (sL σ) p f t w = false → E M) : w_Top_stand p f t w M Q E := by
  have hl := hX.1.1
  have hnp := hl.2.2.1
  unfold w_Top_stand
  refine x_isPerson hX.1.2.1 ⟨fun h1 => e (by unfold stdOk; rw [h1]; rfl), fun h1 => x_areHours ⟨fun h2 => e (by unfold stdOk; rw [h1, h2]; rfl), fun h2 => ⟨fun h3 => ?_, fun h3 => ⟨fun h4 => ?_, fun h4 => ?_⟩⟩⟩⟩
  · exact e (by unfold stdOk wiB; rw [h1, h2, decide_eq_true h3]; rfl)
  · have h4 : ¬ w ≤ nI 1 := h4
    exact e (by unfold stdOk wiB; rw [h1, h2, decide_eq_false h4, Bool.and_false]; rfl)
  · have h4' : w ≤ nI 1 := h4
    have k := k (by unfold stdOk wiB; rw [h1, h2, decide_eq_false h3, decide_eq_true h4']; rfl)
    obtain ⟨p, hp, rfl⟩ := inR_true (by omega) h1
    obtain ⟨a, b, hab, hb, rfl, rfl⟩ := hrsB_true h2
    unfold stdR stdB anI at k
    rw [nI_clamp (show p < 2 ^ 31 by omega), nI_clamp (show a < 2 ^ 31 by omega), nI_clamp (show b < 2 ^ 31 by omega)] at k
    refine x_standOf hX.1 (by omega) hb hab (fun M1 hF1 hD1 hG1 => ?_)
    obtain ⟨c, v, e1, e2, e3, e4⟩ := tryF_some (g := stG (sL σ) (sD σ) (2 ^ p) a b) (set := 2 ^ p) hl
    have kz := k M1 (hF1.mono (by decide)).two (hX.go hF1 (by decide) hD1)
    rw [e1] at hG1 kz
    obtain ⟨b1, b2, b3, b4⟩ : M1.1 c_game Game_bestCell = nI c ∧ c < 64 ∧ M1.1 c_game Game_bestBalance = v ∧ M1.1 c_game Game_bestSet = nI (2 ^ p) := hG1
    rw [b1, b3]
    exact ⟨fun q => by rw [if_pos q] at kz; exact kz, fun q => by rw [if_neg q] at kz; exact kz⟩
theorem tryF_some2 {l : Land} {g : Nat → Int32} {set : Nat} {s : Bst} (hs : s.isSome = true) : ∀ n, (tryF l g set s n).isSome = true
  | 0 => hs
  | n + 1 => by
    have ih := tryF_some2 (l := l) (g := g) (set := set) hs n
    rw [tryF]
    unfold tryS
    split
    · revert ih
      cases tryF l g set s n with
      | none => intro ih; cases ih
      | some q =>
        obtain ⟨c, v, z⟩ := q
        intro _
        simp only
        split <;> rfl
    · exact ih
theorem pcF_some {l : Land} {ds : Deeds} {many f t s0 : Nat} (hl : LOK l) (h0 : pcn s0 = many) : ∀ n, s0 < n → (pcF l ds many f t n).isSome = true
  | 0, h => absurd h (Nat.not_lt_zero _)
  | n + 1, h => by
    rw [pcF]
    by_cases hc : s0 = n
    · subst hc
      rw [if_pos h0]
      cases hp : pcF l ds many f t s0 with
      | some q => exact tryF_some2 rfl 64
      | none =>
        obtain ⟨c, v, e1, -⟩ := tryF_some (g := stG l ds s0 f t) (set := s0) hl
        rw [e1]; rfl
    · have ih := pcF_some (ds := ds) (f := f) (t := t) hl h0 n (by omega)
      split
      · exact tryF_some2 ih 64
      · exact ih
theorem pcn_low : ∀ m, m ≤ 6 → pcn (2 ^ m - 1) = m := by decide
theorem x_Tpicnic {σ : St} {m f t w : Int32} {M : Mem} {Q : Int32 → Mem → Prop} {E : Mem → Prop} (hX : XRep σ M) (k : picOk (sL σ) m f t w = true → ∀ M', Fr2 SCL M M' → XRep σ M' → Q (picR (sL σ) (sD σ) m f t w) M') (e : picOk (sL σ) m f t w = false → E M) : w_Top_picnic m f t w M Q E := by
  have hl := hX.1.1
  have hnp := hl.2.2.1
  unfold w_Top_picnic
  rw [hX.1.2.1.2.1]
  refine ⟨fun h1 => e (by unfold picOk pic1; rw [decide_eq_true h1]; rfl), fun h1 => ⟨fun h2 => e ?_, fun h2 => ?_⟩⟩
  · have h2' : ¬ m ≤ nI (lnp (sL σ)) := by rw [fa_le]; rw [fa_lt] at h2; omega
    unfold picOk pic1; rw [decide_eq_false h2', Bool.and_false]; rfl
  · have hp1 : pic1 (sL σ) m = true := by
      have h2' : m ≤ nI (lnp (sL σ)) := by rw [fa_le]; rw [fa_lt] at h2; omega
      unfold pic1; rw [decide_eq_false h1, decide_eq_true h2']; rfl
    refine x_areHours ⟨fun h3 => e (by unfold picOk; rw [hp1, h3]; rfl), fun h3 => ⟨fun h4 => ?_, fun h4 => ⟨fun h5 => ?_, fun h5 => ?_⟩⟩⟩
    · exact e (by unfold picOk wiB; rw [hp1, h3, decide_eq_true h4]; rfl)
    · have h5 : ¬ w ≤ nI 2 := h5
      exact e (by unfold picOk wiB; rw [hp1, h3, decide_eq_false h5, Bool.and_false]; rfl)
    · have h5' : w ≤ nI 2 := h5
      have k := k (by unfold picOk wiB; rw [hp1, h3, decide_eq_false h4, decide_eq_true h5']; rfl)
      obtain ⟨m, hm1, hm2, rfl⟩ := pic1_true hnp hp1
      obtain ⟨a, b, hab, hb, rfl, rfl⟩ := hrsB_true h3
      unfold picR picB anI at k
      rw [nI_clamp (show m < 2 ^ 31 by omega), nI_clamp (show a < 2 ^ 31 by omega), nI_clamp (show b < 2 ^ 31 by omega)] at k
      refine x_picnicOf hX.1 (by omega) hb hab (fun M1 hF1 hD1 hG1 => ?_)
      have kz := k M1 (hF1.mono (by decide)).two (hX.go hF1 (by decide) hD1)
      have h2m : 2 ^ m ≤ 2 ^ lnp (sL σ) := Nat.pow_le_pow_right (by decide) hm2
      have h2q : 1 ≤ 2 ^ m := Nat.one_le_two_pow
      have hs := pcF_some (ds := sD σ) (f := a) (t := b) hl (pcn_low m (by omega)) (2 ^ lnp (sL σ)) (by omega)
      revert hG1 kz hs
      cases pcF (sL σ) (sD σ) m a b (2 ^ lnp (sL σ)) with
      | none => intro _ _ hs; cases hs
      | some q =>
        obtain ⟨c, v, z⟩ := q
        intro hG1 kz _
        obtain ⟨b1, b2, b3, b4⟩ : M1.1 c_game Game_bestCell = nI c ∧ c < 64 ∧ M1.1 c_game Game_bestBalance = v ∧ M1.1 c_game Game_bestSet = nI z := hG1
        rw [b1, b3, b4]
        refine ⟨fun q => by rw [if_pos q] at kz; exact kz, fun q => ⟨fun q1 => ?_, fun q1 => ?_⟩⟩
        · rw [if_neg q, if_pos q1] at kz; exact kz
        · rw [if_neg q, if_neg q1] at kz; exact kz
/-! both sides: the answer lies in out when there is one -/
theorem XLand.oc {l : Land} {M M' : Mem} (h : XLand l M) (hF : Fr2 [c_outc] M M') : XLand l M' := h.mv (fun k hk => by
  have : ∀ k ∈ LC, k ∉ [c_outc] := by decide
  exact (hF k (this k hk)).1)
theorem DX.oc {l : Land} {d : Deeds} {M M' : Mem} (h : DX l d M) (hF : Fr2 [c_outc] M M') : DX l d M' := by
  obtain ⟨h1, h2, h3, h4, h5, h6, h7⟩ := h
  refine ⟨h1, h2.oc hF, ?_, ?_, ?_, ?_, h7⟩
  · unfold RC; rw [(hF c_debts_reach (by decide)).1]; exact h3
  · unfold KC; rw [(hF c_debts_rateKey (by decide)).1, (hF c_debts_rate (by decide)).1]; exact h4
  · unfold XT; rw [(hF c_deeds_times (by decide)).1]; exact h5
  · rw [(hF c_deeds (by decide)).1]; exact h6
theorem XRep.oc {σ : St} {M M' : Mem} (h : XRep σ M) (hF : Fr2 [c_outc] M M') : XRep σ M' := ⟨h.1.oc hF, h.2.1, h.2.2.fr hF (by decide)⟩
theorem MRep.oc {σ : St} {M M' : Mem} (h : MRep σ M) (hF : Fr2 [c_outc] M M') : MRep σ M' := h.of hF (by decide) (by decide)
def okT (k : Int32) (b : Int32) (M2 : Mem) : Prop := M2.1 c_mo Mo_thrown = k ∧ (k = 0 → M2.2 c_outc 0 = b.toInt64) ∧ Rel M2
theorem r_balance {a : Int32} {M : Mem} (h : Rel M) : w_Top_balance a M (fun r M1 => w_Mo_balance a (sl M1 c_outc 0 r.toInt64) (okT 0)) (fun M1 => w_Mo_balance a M1 (okT 1)) := by
  obtain ⟨σ, hX, hM⟩ := h
  refine x_Tbalance hX (fun hk M1 hF1 hX1 => ?_) (fun hk => ?_)
  · have hF : Fr2 [c_outc] M1 (sl M1 c_outc 0 (balR (sL σ) (sD σ) a).toInt64) := fr2_sl (by decide)
    have hX2 := hX1.oc hF
    refine m_Balance ((hM.cl hF1).oc hF) hX2.1.1 hX2.2.1 (fun M2 hF2 hM2 ht => ?_)
    rw [hk] at ht ⊢
    exact ⟨ht, fun _ => by rw [(hF2 _ (by decide)).2, sl_at, if_pos rfl], σ, hX2.mo hF2, hM2⟩
  · refine m_Balance hM hX.1.1 hX.2.1 (fun M2 hF2 hM2 ht => ?_)
    rw [hk] at ht ⊢
    exact ⟨ht, fun z => absurd z (by decide), σ, hX.mo hF2, hM2⟩
theorem r_without {a b : Int32} {M : Mem} (h : Rel M) : w_Top_without a b M (fun r M1 => w_Mo_without a b (sl M1 c_outc 0 r.toInt64) (okT 0)) (fun M1 => w_Mo_without a b M1 (okT 1)) := by
  obtain ⟨σ, hX, hM⟩ := h
  refine x_Twithout hX (fun hk M1 hF1 hX1 => ?_) (fun hk => ?_)
  · have hF : Fr2 [c_outc] M1 (sl M1 c_outc 0 (witR (sL σ) (sD σ) a b).toInt64) := fr2_sl (by decide)
    have hX2 := hX1.oc hF
    refine m_Without ((hM.cl hF1).oc hF) hX2.1.1 hX2.2.1 (fun M2 hF2 hM2 ht => ?_)
    rw [hk] at ht ⊢
    exact ⟨ht, fun _ => by rw [(hF2 _ (by decide)).2, sl_at, if_pos rfl], σ, hX2.mo hF2, hM2⟩
  · refine m_Without hM hX.1.1 hX.2.1 (fun M2 hF2 hM2 ht => ?_)
    rw [hk] at ht ⊢
    exact ⟨ht, fun z => absurd z (by decide), σ, hX.mo hF2, hM2⟩
theorem r_stand {a b c d : Int32} {M : Mem} (h : Rel M) : w_Top_stand a b c d M (fun r M1 => w_Mo_stand a b c d (sl M1 c_outc 0 r.toInt64) (okT 0)) (fun M1 => w_Mo_stand a b c d M1 (okT 1)) := by
  obtain ⟨σ, hX, hM⟩ := h
  refine x_Tstand hX (fun hk M1 hF1 hX1 => ?_) (fun hk => ?_)
  · have hF : Fr2 [c_outc] M1 (sl M1 c_outc 0 (stdR (sL σ) (sD σ) a b c d).toInt64) := fr2_sl (by decide)
    have hX2 := hX1.oc hF
    refine m_Stand ((hM.cl hF1).oc hF) hX2.1.1 hX2.2.1 (fun M2 hF2 hM2 ht => ?_)
    rw [hk] at ht ⊢
    exact ⟨ht, fun _ => by rw [(hF2 _ (by decide)).2, sl_at, if_pos rfl], σ, hX2.mo hF2, hM2⟩
  · refine m_Stand hM hX.1.1 hX.2.1 (fun M2 hF2 hM2 ht => ?_)
    rw [hk] at ht ⊢
    exact ⟨ht, fun z => absurd z (by decide), σ, hX.mo hF2, hM2⟩
theorem r_picnic {a b c d : Int32} {M : Mem} (h : Rel M) : w_Top_picnic a b c d M (fun r M1 => w_Mo_picnic a b c d (sl M1 c_outc 0 r.toInt64) (okT 0)) (fun M1 => w_Mo_picnic a b c d M1 (okT 1)) := by
  obtain ⟨σ, hX, hM⟩ := h
  refine x_Tpicnic hX (fun hk M1 hF1 hX1 => ?_) (fun hk => ?_)
  · have hF : Fr2 [c_outc] M1 (sl M1 c_outc 0 (picR (sL σ) (sD σ) a b c d).toInt64) := fr2_sl (by decide)
    have hX2 := hX1.oc hF
    refine m_Picnic ((hM.cl hF1).oc hF) hX2.1.1 hX2.2.1 (fun M2 hF2 hM2 ht => ?_)
    rw [hk] at ht ⊢
    exact ⟨ht, fun _ => by rw [(hF2 _ (by decide)).2, sl_at, if_pos rfl], σ, hX2.mo hF2, hM2⟩
  · refine m_Picnic hM hX.1.1 hX.2.1 (fun M2 hF2 hM2 ht => ?_)
    rw [hk] at ht ⊢
    exact ⟨ht, fun z => absurd z (by decide), σ, hX.mo hF2, hM2⟩
