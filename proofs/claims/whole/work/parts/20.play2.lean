def Fr2 (L : List Nat) (M M' : Mem) : Prop := ∀ k, k ∉ L → M'.1 k = M.1 k ∧ M'.2 k = M.2 k
theorem Fr2.rfl {L : List Nat} {M : Mem} : Fr2 L M M := fun _ _ => ⟨Eq.refl _, Eq.refl _⟩
theorem Fr2.trans {L : List Nat} {M M1 M2 : Mem} (h : Fr2 L M M1) (h2 : Fr2 L M1 M2) : Fr2 L M M2 := fun k hk => ⟨(h2 k hk).1.trans (h k hk).1, (h2 k hk).2.trans (h k hk).2⟩
theorem Fr2.mono {L L' : List Nat} {M M1 : Mem} (h : Fr2 L M M1) (hs : ∀ k ∈ L, k ∈ L') : Fr2 L' M M1 := fun k hk => h k (fun q => hk (hs k q))
theorem Fr.two {L : List Nat} {M M' : Mem} (h : Fr L M M') : Fr2 L M M' := fun k hk => ⟨h.1 k hk, by rw [h.2]⟩
theorem fr2_sl {L : List Nat} {M : Mem} {k j : Nat} {v : Int64} (h : k ∈ L) : Fr2 L M (sl M k j v) := fun q hq => ⟨Eq.refl _, sl_ne M j v (fun e => hq (e ▸ h))⟩
theorem fr2_si {L : List Nat} {M : Mem} {k j : Nat} {v : Int32} (h : k ∈ L) : Fr2 L M (si M k j v) := (fr_si h).two
abbrev SPX : List Nat := [c_debts_at, c_game, c_game_path, c_game_seen, c_debts_reach, c_debts_nearest, c_debts_gap, c_land_fog_stack, c_debts_rateKey, c_debts_rate, c_land_owe_stack]
theorem cd63 {l : Land} {f t : Nat} {st : Nat → Option Nat} (hl : LOK l) (h : SOK l f t st) : cd st (lnp l) < 2 ^ 63 := by
  have h1 := cd_lt h (lnp l) (Nat.le_refl _)
  have h2 : 128 ^ lnp l ≤ 128 ^ 6 := Nat.pow_le_pow_right (by decide) hl.2.2.1
  omega
theorem seen_cd {l : Land} {ds : Deeds} {f t r : Nat} (hl : LOK l) (hf : f < 24) : (List.range r).any (fun i => cd (plS l ds f t i) (lnp l) == cd (plS l ds f t r) (lnp l)) = seenS l ds f t r := by
  unfold seenS
  congr 1
  funext i
  have h := same_iff (sok_pl (ds := ds) (t := t) hl hf i) (sok_pl (ds := ds) (t := t) hl hf r)
  cases hs : sameS l (plS l ds f t i) (plS l ds f t r) with
  | true => rw [h.mp hs]; exact beq_self_eq_true _
  | false =>
    rw [beq_eq_false_iff_ne]
    intro e
    rw [h.mpr e] at hs; cases hs
theorem x_play {l : Land} {ds : Deeds} {f t : Nat} {M : Mem} {Q : Mem → Prop} (hD : DX l ds M) (ht : t < 24) (hf : f ≤ t)
    (k : ∀ M', Fr2 SPX M M' → DX l ds M' → M'.1 c_game Game_rounds = nI (plGo l ds f t 50 1).1 → M'.1 c_game Game_rest = b2i (plGo l ds f t 50 1).2.1 → XAt l (atS l f t (plS l ds f t (plGo l ds f t 50 1).2.2)) M' → Q M') : w_Game_play (nI f) (nI t) M Q := by
  have hl := hD.1
  have hnp := hl.2.2.1
  have hf24 : f < 24 := by omega
  unfold w_Game_play
  refine x_allAsTold hl hD.2.1 (fun M1 hF1 hA1 => ?_)
  have hD1 := hD.fr hF1 (by decide)
  have hA0 : XAt l (atS l f t (plS l ds f t 0)) M1 := hA1.to (fun p h _ hh => (atS0 hh).symm)
  refine x_standing hl hD1.2.1 hA0 (sok_pl hl hf24 0) ht hf ⟨vp_in_nI (n := 0) (by decide) (by decide), ?_⟩
  rw [show Int32.toNatClampNeg 0 = 0 from rfl]
  generalize hM2 : si (si (sl M1 c_game_seen 0 (lN (cd (plS l ds f t 0) (lnp l)))) c_game Game_rest 0) c_game Game_rounds 1 = M2
  have hF2 : Fr2 [c_game, c_game_seen] M1 M2 := by rw [← hM2]; exact ((fr2_sl (by decide)).trans (fr2_si (by decide))).trans (fr2_si (by decide))
  have hcell : ∀ q, q ≠ c_game → M2.1 q = M1.1 q := fun q hq => by rw [← hM2, si_ne _ _ _ hq, si_ne _ _ _ hq]; rfl
  have hDm : ∀ {A B : Mem}, DX l ds A → (∀ q, q ≠ c_game → B.1 q = A.1 q) → DX l ds B := by
    intro A B h e
    obtain ⟨h1, h2, h3, h4, h5, h6, h7⟩ := h
    refine ⟨h1, h2.mv (fun k hk => e k (by intro z; subst z; revert hk; decide)), ?_, ?_, ?_, by rw [e _ (by decide)]; exact h6, h7⟩
    · unfold RC; rw [e _ (by decide)]; exact h3
    · unfold KC; rw [e _ (by decide), e _ (by decide)]; exact h4
    · unfold XT; rw [e _ (by decide)]; exact h5
  have hAm : ∀ {A B : Mem} {a : Nat → Nat}, XAt l a A → (∀ q, q ≠ c_game → B.1 q = A.1 q) → XAt l a B := by
    intro A B a h e
    unfold XAt; rw [e _ (by decide)]; exact h
  refine for_loop (fun n r (M3 : Mem) => w_Game_play_L29 (nI f) (nI t) (fun M489 => Q (si M489 c_game Game_rounds 50)) Q n M3)
    (fun r M3 => Fr2 SPX M M3 ∧ DX l ds M3 ∧ M3.1 c_game Game_rounds = nI r ∧ M3.1 c_game Game_rest = 0 ∧ XAt l (atS l f t (plS l ds f t (r - 1))) M3 ∧ (∀ i, i < r → M3.2 c_game_seen i = lN (cd (plS l ds f t i) (lnp l))) ∧ plGo l ds f t 50 1 = plGo l ds f t (51 - r) r) 51 1 M2 (by decide) ⟨(hF1.two.mono (by decide)).trans (hF2.mono (by decide)), hDm hD1 hcell, ?_, ?_, hAm hA0 hcell, ?_, rfl⟩ ?_ ?_
  · rw [← hM2, si_same, up_s]; rfl
  · rw [← hM2, si_same, up_n (by decide), si_same, up_s]
  · intro i hi
    rw [show i = 0 by omega, ← hM2]
    show (sl M1 c_game_seen 0 _).2 c_game_seen 0 = _
    rw [sl_same]; exact updL_self
  · intro n M3 ⟨hF3, hD3, e1, e2, hA3, e3, e4⟩
    unfold w_Game_play_L29
    rw [e1]
    refine br_lt (a := 50) (by decide) (by decide) (fun _ => ?_) (fun q => absurd q (by omega))
    have e4' : plGo l ds f t 50 1 = (50, false, 50) := e4
    have hc : ∀ q, q ≠ c_game → (si M3 c_game Game_rounds 50).1 q = M3.1 q := fun q hq => si_ne _ _ _ hq
    refine k _ (hF3.trans (fr2_si (by decide))) (hDm hD3 hc) ?_ ?_ ?_
    · rw [e4', si_same, up_s]; rfl
    · rw [e4', si_same, up_n (by decide), e2]; rfl
    · rw [e4']; exact hAm hA3 hc
  · intro n r M3 hr1 hr ⟨hF3, hD3, e1, e2, hA3, e3, e4⟩ kk
    unfold w_Game_play_L29
    rw [e1]
    refine br_lt (a := 50) (by decide) (by omega) (fun q => absurd q (by omega)) (fun _ => ?_)
    have hgo : plGo l ds f t (51 - r) r = if plM l ds f t (r - 1) then (if seenS l ds f t r then (r, false, r) else plGo l ds f t (51 - (r + 1)) (r + 1)) else (r, true, r) := by
      rw [show 51 - r = (51 - (r + 1)) + 1 by omega, plGo]
    refine x_playRound hD3 hA3 (sok_pl hl hf24 (r - 1)) ht hf (fun M4 hF4 hD4 hA4 q1 q2 => ?_)
    have hpr : (rd l ds f t (plS l ds f t (r - 1)) (lnp l)).1 = plS l ds f t r := by
      rw [show r = (r - 1) + 1 by omega]; rfl
    have hmv : (rd l ds f t (plS l ds f t (r - 1)) (lnp l)).2 = plM l ds f t (r - 1) := rfl
    rw [hpr] at hA4
    rw [hmv]
    rw [e1] at q1
    rw [e2] at q2
    have hF5 : Fr2 SPX M M4 := hF3.trans (hF4.two.mono (by decide))
    refine ⟨fun hb => ?_, fun hb => ?_⟩
    · refine x_standing hl hD4.2.1 hA4 (sok_pl hl hf24 r) ht hf ?_
      rw [q1, nI_clamp (by omega)]
      refine ⟨vp_in_nI (by omega) (by decide), ?_⟩
      have hseen : ∀ i, i ≤ r → (sl M4 c_game_seen r (lN (cd (plS l ds f t r) (lnp l)))).2 c_game_seen i = lN (cd (plS l ds f t i) (lnp l)) := by
        intro i hi
        rw [sl_same]
        by_cases ei : i = r
        · rw [ei]; exact updL_self
        · rw [updL_ne ei, hF4.2]
          exact e3 i (by omega)
      refine x_wasSeen (c := fun i => cd (plS l ds f t i) (lnp l)) (by omega) (fun i hi => ⟨hseen i hi, cd63 hl (sok_pl hl hf24 i)⟩) ?_
      rw [seen_cd hl hf24]
      have hF6 : Fr2 SPX M (sl M4 c_game_seen r (lN (cd (plS l ds f t r) (lnp l)))) := hF5.trans (fr2_sl (by decide))
      refine ⟨fun hs => ?_, fun hs => ?_⟩
      · have hc : ∀ q, q ≠ c_game → (si (sl M4 c_game_seen r (lN (cd (plS l ds f t r) (lnp l)))) c_game Game_rounds ((sl M4 c_game_seen r (lN (cd (plS l ds f t r) (lnp l)))).1 c_game Game_rounds + 1)).1 q = M4.1 q := fun q hq => by rw [si_ne _ _ _ hq]; rfl
        refine kk _ ⟨hF6.trans (fr2_si (by decide)), hDm hD4 hc, ?_, ?_, ?_, ?_, ?_⟩
        · rw [si_same, up_s]
          show M4.1 c_game Game_rounds + 1 = _
          rw [q1, nI_1]
        · rw [si_same, up_n (by decide)]; exact q2
        · exact hAm hA4 hc
        · exact fun i hi => hseen i (by omega)
        · rw [e4, hgo, hb, hs]; rfl
      · have e5 : plGo l ds f t 50 1 = (r, false, r) := by rw [e4, hgo, hb, hs]; rfl
        refine k _ hF6 (hD4.one rfl) ?_ ?_ ?_
        · rw [e5]; exact q1
        · rw [e5]; exact q2
        · rw [e5]; exact hA4
    · have e5 : plGo l ds f t 50 1 = (r, true, r) := by rw [e4, hgo, hb]; rfl
      have hc : ∀ q, q ≠ c_game → (si M4 c_game Game_rest 1).1 q = M4.1 q := fun q hq => si_ne _ _ _ hq
      refine k _ (hF5.trans (fr2_si (by decide))) (hDm hD4 hc) ?_ ?_ ?_
      · rw [e5, si_same, up_n (by decide)]; exact q1
      · rw [e5, si_same, up_s]; rfl
      · rw [e5]; exact hAm hA4 hc
