theorem XAt.to {l : Land} {a b : Nat → Nat} {M : Mem} (h : XAt l a M) (e : ∀ p h, p < lnp l → h < 24 → a (p * 24 + h) = b (p * 24 + h)) : XAt l b M := fun p hh hp h24 => by
  rw [← e p hh hp h24]; exact h p hh hp h24
theorem DX.one {l : Land} {ds : Deeds} {M M' : Mem} (h : DX l ds M) (e : M'.1 = M.1) : DX l ds M' := by
  obtain ⟨h1, h2, h3, h4, h5, h6, h7⟩ := h
  refine ⟨h1, h2.mv (fun k _ => by rw [e]), ?_, ?_, ?_, by rw [e]; exact h6, h7⟩
  · unfold RC; rw [e]; exact h3
  · unfold KC; rw [e]; exact h4
  · unfold XT; rw [e]; exact h5
abbrev SPL : List Nat := [c_debts_at, c_game, c_game_path, c_debts_reach, c_debts_nearest, c_debts_gap, c_land_fog_stack, c_debts_rateKey, c_debts_rate, c_land_owe_stack]
theorem DX.t9 {l : Land} {ds : Deeds} {M : Mem} (h : DX l ds M) : ∀ i, i < 120 → dtimes ds i ≤ 9 := fun i hi => (h.2.2.2.2.1 i hi).2
theorem cpy_in0 {f g : Nat → Int32} {a b n i : Nat} (h1 : b ≤ i) (h2 : i < b + n) : va_cpy f g a b n i = f (a + (i - b)) := pk_cpy_in h1 h2
theorem x_playRound {l : Land} {ds : Deeds} {f t : Nat} {st : Nat → Option Nat} {M : Mem} {Q : Bool → Mem → Prop} (hD : DX l ds M) (hA : XAt l (atS l f t st) M) (hS : SOK l f t st) (ht : t < 24) (hf : f ≤ t)
    (k : ∀ M', Fr SPL M M' → DX l ds M' → XAt l (atS l f t (rd l ds f t st (lnp l)).1) M' → M'.1 c_game Game_rounds = M.1 c_game Game_rounds → M'.1 c_game Game_rest = M.1 c_game Game_rest → Q (rd l ds f t st (lnp l)).2 M') : w_Game_playRound (nI f) (nI t) M Q := by
  have hl := hD.1
  have hnp := hl.2.2.1
  have h32 := hD.2.2.2.2.2.2
  unfold w_Game_playRound
  refine for_loop (fun n p (M1 : Mem) => w_Game_playRound_L5 (nI f) (nI t) (fun y479 M478 => (∃ bb : Bool, y479 = b2i bb ∧ Q bb M478)) Q n (b2i (rd l ds f t st p).2) (nI p) M1)
    (fun p M1 => Fr SPL M M1 ∧ DX l ds M1 ∧ XAt l (atS l f t (rd l ds f t st p).1) M1 ∧ M1.1 c_game Game_rounds = M.1 c_game Game_rounds ∧ M1.1 c_game Game_rest = M.1 c_game Game_rest) (lnp l) 0 M (Nat.zero_le _) ⟨Fr.rfl, hD, hA, rfl, rfl⟩ ?_ ?_
  · intro n M1 ⟨hF, hD1, hA1, r1, r2⟩
    unfold w_Game_playRound_L5
    rw [hD1.2.1.2.1]
    exact br_le (by omega) (by omega) (fun _ => ⟨_, rfl, k M1 hF hD1 hA1 r1 r2⟩) (fun q => absurd q (by omega))
  · intro n p M1 _ hp ⟨hF, hD1, hA1, r1, r2⟩ kk
    have h64 : 2 ^ p < 2 ^ 31 := Nat.pow_lt_pow_right (by decide) (by omega)
    unfold w_Game_playRound_L5
    rw [hD1.2.1.2.1, hD1.2.2.2.2.2.1, shl1 (by omega), nI_1]
    refine br_le (by omega) (by omega) (fun q => absurd q (by omega)) (fun _ => ?_)
    have hSp := sok_rd (ds := ds) hl hS p
    generalize hst : (rd l ds f t st p).1 = s1 at *
    refine x_gainOf2 (f := f) (t := t) hl hD1.2.1 hD1.2.2.1 hD1.2.2.2.1 hA1 hD1.2.2.2.2.1 h64 (by omega) ht (by omega) (fun M2 hF2 hR2 hK2 => ?_)
    have hD2 := hD1.sg hF2 (by decide) hR2 hK2
    have hA2 := hA1.fr hF2 (by decide)
    have e24 : nI p * 24 = nI (p * 24) := by simp only [fa_lit, pk_mul]
    rw [e24, nI_clamp (by omega), show Int32.toNatClampNeg 0 = 0 from rfl, show Int32.toNatClampNeg 24 = 24 from rfl]
    refine ⟨⟨ni_nneg (by omega), by decide, by decide, by omega, by decide⟩, ?_⟩
    generalize hM3 : si (sa M2 c_game_path (va_cpy (M2.1 c_debts_at) (M2.1 c_game_path) (p * 24) 0 24)) c_game Game_bestCell (-1) = M3
    have hF3 : Fr [c_game, c_game_path] M2 M3 := by rw [← hM3]; exact (fr_sa (by decide)).trans (fr_si (by decide))
    have hD3 := hD2.fr hF3 (by decide)
    have hA3 := hA2.fr hF3 (by decide)
    have hpath : ∀ h, h < 24 → M3.1 c_game_path h = nI (atS l f t s1 (p * 24 + h)) := by
      intro h hh
      rw [← hM3, si_ne _ _ _ (by decide), sa_same, cpy_in0 (Nat.zero_le h) (by omega), Nat.sub_zero]
      exact (hA2 p h hp hh).1
    have hr3 : M3.1 c_game Game_rounds = M.1 c_game Game_rounds := by rw [← hM3, si_same, up_n (by decide), sa_ne _ _ (by decide), hF2.1 _ (by decide)]; exact r1
    have hr4 : M3.1 c_game Game_rest = M.1 c_game Game_rest := by rw [← hM3, si_same, up_n (by decide), sa_ne _ _ (by decide), hF2.1 _ (by decide)]; exact r2
    refine x_tryCells (s0 := none) (at_ := atS l f t s1) hD3 ⟨_, hA3, fun _ => rfl⟩ h64 ht hf (by rw [← hM3]; unfold GB; rw [si_same, up_s]) (fun M4 hF4 hD4 hA4 hG4 q1 q2 => ?_)
    have hF5 : Fr SPL M M4 := ((hF.trans (hF2.mono (by decide))).trans (hF3.mono (by decide))).trans (hF4.mono (by decide))
    -- the day's gains are the hours' gains, shifted
    obtain ⟨kc, t1, t2, t3, t4⟩ := rdP_some (ds := ds) (f := f) (t := t) (st := s1) (p := p) hl
    have hbnd : ∀ at_ f n, f + n ≤ 24 → -1283040 ≤ (gain l at_ ds (2 ^ p) (dshot ds) f n).toInt ∧ (gain l at_ ds (2 ^ p) (dshot ds) f n).toInt ≤ 1283040 := fun at_ f n h => gain_bound hl hD.t9 h
    have hC : -4000000 ≤ (gain l (atS l f t s1) ds (2 ^ p) (dshot ds) 0 f + gain l (atS l f t s1) ds (2 ^ p) (dshot ds) (t + 1) (24 - (t + 1))).toInt ∧ (gain l (atS l f t s1) ds (2 ^ p) (dshot ds) 0 f + gain l (atS l f t s1) ds (2 ^ p) (dshot ds) (t + 1) (24 - (t + 1))).toInt ≤ 4000000 := by
      have b1 := hbnd (atS l f t s1) 0 f (by omega)
      have b2 := hbnd (atS l f t s1) (t + 1) (24 - (t + 1)) (by omega)
      rw [fb_addI (by omega) (by omega)]
      omega
    have hin : ∀ k, -4000000 ≤ (gain l (putA (2 ^ p) f t k (atS l f t s1)) ds (2 ^ p) (dshot ds) f (t + 1 - f)).toInt ∧ (gain l (putA (2 ^ p) f t k (atS l f t s1)) ds (2 ^ p) (dshot ds) f (t + 1 - f)).toInt ≤ 4000000 := fun k => by
      have := hbnd (putA (2 ^ p) f t k (atS l f t s1)) f (t + 1 - f) (by omega)
      omega
    have hnow : -4000000 ≤ (gain l (atS l f t s1) ds (2 ^ p) (dshot ds) f (t + 1 - f)).toInt ∧ (gain l (atS l f t s1) ds (2 ^ p) (dshot ds) f (t + 1 - f)).toInt ≤ 4000000 := by
      have := hbnd (atS l f t s1) f (t + 1 - f) (by omega)
      omega
    have hsh := (tryF_shift (l := l) (set := 2 ^ p) hin hC 64)
    have hfun : (fun k => gain l (atS l f t s1) ds (2 ^ p) (dshot ds) 0 f + gain l (atS l f t s1) ds (2 ^ p) (dshot ds) (t + 1) (24 - (t + 1)) + gain l (putA (2 ^ p) f t k (atS l f t s1)) ds (2 ^ p) (dshot ds) f (t + 1 - f)) = (fun k => gain l (putA (2 ^ p) f t k (atS l f t s1)) ds (2 ^ p) (dshot ds) 0 24) := by
      funext k; exact gain_day hf ht
    rw [hfun, t1] at hsh
    have hz : (fun k => (0 : Int32) + gain l (putA (2 ^ p) f t k (atS l f t s1)) ds (2 ^ p) (dshot ds) f (t + 1 - f)) = (fun k => gain l (putA (2 ^ p) f t k (atS l f t s1)) ds (2 ^ p) (dshot ds) f (t + 1 - f)) := by
      funext k; exact Int32.zero_add _
    rw [hz] at hG4
    obtain ⟨hsh1, hsh2⟩ := hsh
    cases hin4 : tryF l (fun k => gain l (putA (2 ^ p) f t k (atS l f t s1)) ds (2 ^ p) (dshot ds) f (t + 1 - f)) (2 ^ p) none 64 with
    | none => rw [hin4] at hsh1; cases hsh1
    | some z =>
      obtain ⟨k4, v4, z4⟩ := z
      rw [hin4] at hsh1 hG4
      have ev := hsh2 k4 v4 z4 hin4
      simp only [shB, Option.some.injEq, Prod.mk.injEq] at hsh1
      obtain ⟨c1, c2, c3⟩ := hsh1
      subst c1; subst c3
      obtain ⟨g1, g2, g3, g4⟩ := hG4
      rw [g1, g3]
      have hday : gain l (atS l f t s1) ds (2 ^ p) (dshot ds) 0 24 = gain l (atS l f t s1) ds (2 ^ p) (dshot ds) 0 f + gain l (atS l f t s1) ds (2 ^ p) (dshot ds) (t + 1) (24 - (t + 1)) + gain l (atS l f t s1) ds (2 ^ p) (dshot ds) f (t + 1 - f) := by
        have e3 : gain l (atS l f t s1) ds (2 ^ p) (dshot ds) 0 24 = gain l (atS l f t s1) ds (2 ^ p) (dshot ds) 0 (f + (t + 1 - f) + (24 - (t + 1))) := by congr 1; omega
        rw [e3, gain_split, gain_split, show 0 + f = f by omega, show 0 + (f + (t + 1 - f)) = t + 1 by omega]
        rw [Int32.add_assoc, Int32.add_assoc, Int32.add_comm (gain l (atS l f t s1) ds (2 ^ p) (dshot ds) (t + 1) (24 - (t + 1)))]
      have hcmp : (gain l (atS l f t s1) ds (2 ^ p) (dshot ds) f (t + 1 - f) < v4) ↔ rdG l ds f t s1 p = true := by
        unfold rdG
        rw [t4, decide_eq_true_iff, hday]
        simp only
        rw [c2, ev]
        exact (lt_shift hnow (hin kc) hC).symm
      obtain ⟨at1, ha1, ha2⟩ := hA4
      have hout : ∀ q h, q < lnp l → h < 24 → ¬ (q = p ∧ f ≤ h ∧ h ≤ t) → at1 (q * 24 + h) = atS l f t s1 (q * 24 + h) := by
        intro q h hq hh hno
        have e := congrFun (ha2 0) (q * 24 + h)
        unfold putA at e
        rw [show (q * 24 + h) / 24 = q by omega, show (q * 24 + h) % 24 = h by omega, Nat.testBit_two_pow] at e
        have hn : ¬ (decide (p = q) = true ∧ f ≤ h ∧ h ≤ t) := fun z => hno ⟨(of_decide_eq_true z.1).symm, z.2⟩
        rw [if_neg hn, if_neg hn] at e
        exact e
      have hrd : rd l ds f t st (p + 1) = if rdG l ds f t s1 p then (stS s1 p kc, true) else rd l ds f t st p := by
        rw [rd, hst, t4]
      refine ⟨fun q => ?_, fun q => ?_⟩
      · -- it stays
        have hno : rdG l ds f t s1 p = false := by
          cases hb : rdG l ds f t s1 p with
          | false => rfl
          | true => exact absurd q (fa_of_lt (hcmp.mpr hb)).2.1
        refine ⟨⟨by decide, ni_nneg (by omega), by decide, by decide, by omega⟩, ?_⟩
        have hF6 : Fr [c_debts_at] M4 (sa M4 c_debts_at (va_cpy (M4.1 c_game_path) (M4.1 c_debts_at) 0 (p * 24) 24)) := fr_sa (by decide)
        have z := kk (sa M4 c_debts_at (va_cpy (M4.1 c_game_path) (M4.1 c_debts_at) 0 (p * 24) 24))
        rw [hrd, hno] at z
        simp only [Bool.false_eq_true, if_false, hst] at z
        refine z ⟨hF5.trans (hF6.mono (by decide)), hD4.fr hF6 (by decide), fun q' h hq hh => ⟨?_, atS_64 hl hSp hq hh⟩, ?_, ?_⟩
        · rw [sa_same]
          by_cases hqp : q' = p
          · subst hqp
            rw [cpy_in0 (by omega) (by omega), show 0 + (q' * 24 + h - q' * 24) = h by omega, hF4.1 _ (by decide), hpath h hh]
          · rw [pk_cpy_out (by omega), (ha1 q' h hq hh).1, hout q' h hq hh (fun z => hqp z.1)]
        · rw [sa_ne _ _ (by decide), q1, hr3]
        · rw [sa_ne _ _ (by decide), q2, hr4]
      · -- it moves
        have hyes : rdG l ds f t s1 p = true := hcmp.mp (fa_of_nle q)
        refine x_put hl hD4.2.1 ha1 h64 ht (by omega) g2 (fun M5 hF6 hA6 => ?_)
        have z := kk M5
        rw [hrd, hyes] at z
        simp only [if_true] at z
        refine z ⟨hF5.trans (hF6.mono (by decide)), hD4.fr hF6 (by decide), ?_, by rw [hF6.1 _ (by decide), q1, hr3], by rw [hF6.1 _ (by decide), q2, hr4]⟩
        rw [ha2] at hA6
        exact hA6.to (fun q' h hq hh => atS_put (by omega) hh)
theorem x_wasSeen {r : Nat} {c : Nat → Nat} {M : Mem} {Q : Bool → Mem → Prop} (hr : r ≤ 50) (hc : ∀ i, i ≤ r → M.2 c_game_seen i = lN (c i) ∧ c i < 2 ^ 63) (k : Q ((List.range r).any (fun i => c i == c r)) M) : w_Game_wasSeen (nI r) M Q := by
  unfold w_Game_wasSeen
  refine for_loop (fun n i (M1 : Mem) => w_Game_wasSeen_L2 (nI r) (fun M485 => Q false M485) Q n (nI i) M1) (fun i M1 => M1 = M ∧ ∀ j, j < i → c j ≠ c r) r 0 M (Nat.zero_le _) ⟨rfl, fun j hj => absurd hj (Nat.not_lt_zero j)⟩ ?_ ?_
  · intro n M1 ⟨e, hz⟩
    subst e
    unfold w_Game_wasSeen_L2
    refine br_le (by omega) (by omega) (fun _ => ?_) (fun q => absurd q (by omega))
    have : (List.range r).any (fun i => c i == c r) = false := by
      rw [List.any_eq_false]
      intro x hx
      have := hz x (List.mem_range.mp hx)
      simpa using this
    rw [this] at k; exact k
  · intro n i M1 _ hi ⟨e, hz⟩ kk
    subst e
    unfold w_Game_wasSeen_L2
    obtain ⟨a1, a2⟩ := hc i (by omega)
    obtain ⟨b1, b2⟩ := hc r (Nat.le_refl r)
    rw [nI_clamp (by omega), nI_clamp (by omega), a1, b1, lg_0, pk_lEQ a2 b2, nI_1]
    refine br_le (by omega) (by omega) (fun q => absurd q (by omega)) (fun _ => ⟨vp_in_nI (by omega) (by decide), vp_in_nI (by omega) (by decide), fun q => kk _ ⟨rfl, lt_s hz q⟩, fun q => ?_⟩)
    have : (List.range r).any (fun i => c i == c r) = true := List.any_eq_true.mpr ⟨i, List.mem_range.mpr hi, by simpa using q⟩
    rw [this] at k; exact k
