def mxS (ds : Deeds) (b : Nat) : Nat := if (dshot ds).testBit b then 0 else 5
def vtt (pr : Nat → Nat → Nat → Nat) (mx : Nat → Nat) (np n b : Nat) (dl : Nat → Option Nat) (m : Nat) : List (List Nat) := (List.range m).flatMap (fun t => if fitB np dl (pr b t) then (vrw pr mx np n (b + 1) (dls dl (pr b t))).map (fun s => t :: s) else [])
theorem vtt_succ {pr : Nat → Nat → Nat → Nat} {mx : Nat → Nat} {np n b m : Nat} {dl : Nat → Option Nat} : vtt pr mx np n b dl (m + 1) = vtt pr mx np n b dl m ++ (if fitB np dl (pr b m) then (vrw pr mx np n (b + 1) (dls dl (pr b m))).map (fun s => m :: s) else []) := by
  unfold vtt
  rw [List.range_succ, List.flatMap_append]
  simp
theorem vrw_len {pr : Nat → Nat → Nat → Nat} {mx : Nat → Nat} {np : Nat} (hm : ∀ b, mx b ≤ 5) : ∀ n b dl, (vrw pr mx np n b dl).length ≤ 6 ^ n
  | 0, b, dl => by rw [vrw]; split <;> simp
  | n + 1, b, dl => by
    have key : ∀ m, (vtt pr mx np n b dl m).length ≤ m * 6 ^ n := by
      intro m
      induction m with
      | zero => simp [vtt]
      | succ m ih =>
        rw [vtt_succ, List.length_append, Nat.succ_mul]
        have h2 : (if fitB np dl (pr b m) then (vrw pr mx np n (b + 1) (dls dl (pr b m))).map (fun s => m :: s) else []).length ≤ 6 ^ n := by
          split
          · rw [List.length_map]; exact vrw_len hm n _ _
          · simp
        omega
    have h1 := key (mx b + 1)
    have h2 : (mx b + 1) * 6 ^ n ≤ 6 * 6 ^ n := Nat.mul_le_mul_right _ (by have := hm b; omega)
    rw [Nat.pow_succ, Nat.mul_comm]
    exact Nat.le_trans h1 h2
abbrev SSG : List Nat := [c_songs, c_songs_row, c_songs_left]
theorem x_isShot {ds : Deeds} {b : Nat} {M : Mem} {Q : Bool → Mem → Prop} (h : M.1 c_deeds Deeds_shot = nI (dshot ds)) (h32 : dshot ds < 32) (hb : b < 32) (k : Q ((dshot ds).testBit b) M) : w_Deeds_isShot (nI b) M Q := by
  unfold w_Deeds_isShot
  rw [h, bit_at (by omega) hb]
  refine ⟨_, ?_, k⟩
  unfold bitI
  cases (dshot ds).testBit b <;> rfl
/-- what the singing rests on -/
def SX (l : Land) (ds : Deeds) (pr : Nat → Nat → Nat → Nat) (w : Nat) (M : Mem) : Prop := XLand l M ∧ PRp l pr M ∧ (M.1 c_deeds Deeds_shot = nI (dshot ds) ∧ dshot ds < 32) ∧ M.1 c_songs Songs_wanted = nI w
theorem SX.fr {l : Land} {ds : Deeds} {pr : Nat → Nat → Nat → Nat} {w : Nat} {M M' : Mem} {L : List Nat} (h : SX l ds pr w M) (hF : Fr L M M') (hd : ∀ k ∈ [c_land, c_land_kind, c_land_purse, c_land_place, c_land_bush, c_land_code, c_land_owe, c_land_fog, c_songs_price, c_deeds, c_songs], k ∉ L) : SX l ds pr w M' := by
  obtain ⟨h1, h2, h3, h4⟩ := h
  have hs : ∀ k ∈ LC, k ∈ [c_land, c_land_kind, c_land_purse, c_land_place, c_land_bush, c_land_code, c_land_owe, c_land_fog, c_songs_price, c_deeds, c_songs] := by decide
  exact ⟨h1.fr hF (fun k hk => hd k (hs k hk)), h2.fr hF (hd _ (by decide)), by rw [hF.1 _ (hd _ (by decide))]; exact h3, by rw [hF.1 _ (hd c_songs (by decide))]; exact h4⟩
theorem fr_two {L : List Nat} {M : Mem} {a b i j : Nat} {v w : Int32} (h1 : a ∈ L) (h2 : b ∈ L) : Fr L M (si (si M a i v) b j w) := (fr_si h1).trans (fr_si h2)
theorem ni_inj32 {a b : Nat} (ha : a < 2 ^ 32) (hb : b < 2 ^ 32) (h : nI a = nI b) : a = b := by
  have e := congrArg (fun x : Int32 => x.toBitVec.toNat) h
  have e1 : (nI a).toBitVec.toNat = a % 2 ^ 32 := rfl
  have e2 : (nI b).toBitVec.toNat = b % 2 ^ 32 := rfl
  have e3 : a % 2 ^ 32 = b % 2 ^ 32 := by rw [← e1, ← e2]; exact e
  rw [Nat.mod_eq_of_lt ha, Nat.mod_eq_of_lt hb] at e3
  exact e3
theorem x_singFrom {l : Land} {ds : Deeds} {pr : Nat → Nat → Nat → Nat} {w : Nat} (hl : LOK l) (hw : w < 2 ^ 32) : ∀ (n b fu c0 : Nat) (dl : Nat → Option Nat) (M : Mem) (Q : Bool → Mem → Prop), n + b = lnb l → n < fu → SX l ds pr w M → TLD l dl M → (∀ p d, p < lnp l → dl p = some d → d ≤ 9999) → LFT l dl (dlN dl) M → M.1 c_songs Songs_found = nI c0 → c0 ≤ w → c0 + 6 ^ n < 2 ^ 30 →
    (∀ M', Fr SSG M M' → w < c0 + (vrw pr (mxS ds) (lnp l) n b dl).length → (∀ j, j < n → M'.1 c_songs_row (b + j) = nI (((vrw pr (mxS ds) (lnp l) n b dl).getD (w - c0) []).getD j 0)) → (∀ j, j < b → M'.1 c_songs_row j = M.1 c_songs_row j) → Q true M') →
    (∀ M', Fr SSG M M' → c0 + (vrw pr (mxS ds) (lnp l) n b dl).length ≤ w → SX l ds pr w M' → M'.1 c_songs Songs_found = nI (c0 + (vrw pr (mxS ds) (lnp l) n b dl).length) → LFT l dl (dlN dl) M' → (∀ j, j < b → M'.1 c_songs_row j = M.1 c_songs_row j) → Q false M') → w_Songs_singFrom fu (nI b) M Q := by
  intro n
  have hnb := hl.2.2.2.1
  have hmx : ∀ b, mxS ds b ≤ 5 := by intro b; unfold mxS; split <;> omega
  induction n with
  | zero =>
    intro b fu c0 dl M Q hnb' hfu hS hT hd9 hf hfo hc0 hbig kT kF
    obtain ⟨fu, rfl⟩ : ∃ k, fu = k + 1 := ⟨fu - 1, by omega⟩
    show w_Songs_singFrom_body _ (nI b) M Q
    unfold w_Songs_singFrom_body
    rw [hS.1.2.2.1]
    refine br_lt (by omega) (by omega) (fun q => absurd q (by omega)) (fun _ => x_isAllPaid hl hS.1 hT hd9 hf ?_)
    rw [hfo]
    have ev : vrw pr (mxS ds) (lnp l) 0 b dl = if zerB (lnp l) dl then [[]] else [] := rfl
    rw [ev] at kT kF
    unfold w_Songs_singFrom_j30
    rw [hS.2.2.2]
    cases hz : zerB (lnp l) dl with
    | false =>
      rw [hz] at kT kF
      simp only [Bool.false_eq_true, if_false] at kF ⊢
      refine ⟨fun _ => kF _ (fr_si (by decide)) (by simpa using hc0) ?_ ?_ ?_ ?_, fun q => absurd rfl q⟩
      · obtain ⟨h1, h2, h3, h4⟩ := hS
        have hF : Fr [c_songs] M (si M c_songs Songs_found (nI c0 + 0)) := fr_si (by decide)
        exact ⟨h1.fr hF (by decide), h2.fr hF (by decide), by rw [hF.1 _ (by decide)]; exact h3, by rw [si_same, up_n (by decide)]; exact h4⟩
      · rw [si_same, up_s]; show nI c0 + nI 0 = _; rw [nI_add]; rfl
      · intro p d hp hd; rw [si_ne _ _ _ (by decide)]; exact hf p d hp hd
      · intro j _; rw [si_ne _ _ _ (by decide)]
    | true =>
      rw [hz] at kT kF
      simp only [if_true] at kT kF ⊢
      rw [nI_1]
      refine ⟨fun q => absurd q (by decide), fun _ => ?_⟩
      have em : nI (c0 + 1) - 1 = nI c0 := nI_pred c0
      rw [em]
      by_cases hcw : c0 = w
      · refine ⟨true, by rw [if_pos (by rw [hcw])]; rfl, kT _ (fr_si (by decide)) (by simp; omega) (fun j hj => absurd hj (Nat.not_lt_zero j)) (fun j _ => by rw [si_ne _ _ _ (by decide)])⟩
      · refine ⟨false, by rw [if_neg (fun z => hcw (ni_inj32 (by omega) hw z))]; rfl, kF _ (fr_si (by decide)) (by simp; omega) ?_ ?_ ?_ ?_⟩
        · obtain ⟨h1, h2, h3, h4⟩ := hS
          have hF : Fr [c_songs] M (si M c_songs Songs_found (nI (c0 + 1))) := fr_si (by decide)
          exact ⟨h1.fr hF (by decide), h2.fr hF (by decide), by rw [hF.1 _ (by decide)]; exact h3, by rw [si_same, up_n (by decide)]; exact h4⟩
        · rw [si_same, up_s]; rfl
        · intro p d hp hd; rw [si_ne _ _ _ (by decide)]; exact hf p d hp hd
        · intro j _; rw [si_ne _ _ _ (by decide)]
  | succ n ih =>
    intro b fu c0 dl M Q hnb' hfu hS hT hd9 hf hfo hc0 hbig kT kF
    obtain ⟨fu, rfl⟩ : ∃ k, fu = k + 1 := ⟨fu - 1, by omega⟩
    show w_Songs_singFrom_body _ (nI b) M Q
    unfold w_Songs_singFrom_body
    rw [hS.1.2.2.1]
    refine br_lt (by omega) (by omega) (fun _ => x_isShot hS.2.2.1.1 hS.2.2.1.2 (by omega) ?_) (fun q => absurd q (by omega))
    intro x ex
    have ex2 : x = nI (mxS ds b) := by rw [ex]; unfold mxS; cases (dshot ds).testBit b <;> rfl
    subst ex2
    have ev : vrw pr (mxS ds) (lnp l) (n + 1) b dl = vtt pr (mxS ds) (lnp l) n b dl (mxS ds b + 1) := rfl
    rw [ev] at kT kF
    have h6 : 6 ^ (n + 1) = 6 ^ n * 6 := Nat.pow_succ 6 n
    have hlenm : ∀ m, m ≤ 6 → (vtt pr (mxS ds) (lnp l) n b dl m).length ≤ m * 6 ^ n := by
      intro m hm
      induction m with
      | zero => simp [vtt]
      | succ m ihm =>
        rw [vtt_succ, List.length_append, Nat.succ_mul]
        have := ihm (by omega)
        have h2 : (if fitB (lnp l) dl (pr b m) then (vrw pr (mxS ds) (lnp l) n (b + 1) (dls dl (pr b m))).map (fun s => m :: s) else []).length ≤ 6 ^ n := by
          split
          · rw [List.length_map]; exact vrw_len hmx n _ _
          · simp
        omega
    refine for_loop (fun k t (M1 : Mem) => w_Songs_singFrom_L76 (wg_Songs_singFrom fu) (nI b) (nI (mxS ds b)) (fun M536 => Q false M536) Q k (nI t) M1)
      (fun t M1 => Fr SSG M M1 ∧ SX l ds pr w M1 ∧ M1.1 c_songs Songs_found = nI (c0 + (vtt pr (mxS ds) (lnp l) n b dl t).length) ∧ c0 + (vtt pr (mxS ds) (lnp l) n b dl t).length ≤ w ∧ LFT l dl (dlN dl) M1 ∧ ∀ j, j < b → M1.1 c_songs_row j = M.1 c_songs_row j) (mxS ds b + 1) 0 M (Nat.zero_le _) ⟨Fr.rfl, hS, hfo, hc0, hf, fun _ _ => rfl⟩ ?_ ?_
    · intro k M1 ⟨hF, hS1, e1, e2, hf1, hr1⟩
      unfold w_Songs_singFrom_L76
      exact br_lt (by have := hmx b; omega) (by have := hmx b; omega) (fun _ => kF M1 hF e2 hS1 e1 hf1 hr1) (fun q => absurd q (by omega))
    · intro k t M1 _ ht ⟨hF, hS1, e1, e2, hf1, hr1⟩ kk
      have hm5 := hmx b
      have hT1 := hT.fr hF (by decide)
      have hvl := hlenm t (by omega)
      have htm : t * 6 ^ n ≤ 5 * 6 ^ n := Nat.mul_le_mul_right _ (by omega)
      unfold w_Songs_singFrom_L76
      refine br_lt (by omega) (by omega) (fun q => absurd q (by omega)) (fun _ => ⟨vp_in_nI (by omega) (by decide), ?_⟩)
      rw [nI_clamp (by omega), nI_1]
      have hFr : Fr [c_songs_row] M1 (si M1 c_songs_row b (nI t)) := fr_si (by decide)
      have hS2 := hS1.fr hFr (by decide)
      refine x_pay hl hS2.1 hS2.2.1 (hT1.fr hFr (by decide)) hd9 (fun p d hp hd => by rw [hFr.1 _ (by decide)]; exact hf1 p d hp hd) (by omega) (by omega) (fun M3 hF3 hl3 => ?_)
      have hS3 := hS2.fr hF3 (by decide)
      have hT3 := (hT1.fr hFr (by decide)).fr hF3 (by decide)
      have hFz : Fr SSG M M3 := (hF.trans (hFr.mono (by decide))).trans (hF3.mono (by decide))
      have hfo3 : M3.1 c_songs Songs_found = nI (c0 + (vtt pr (mxS ds) (lnp l) n b dl t).length) := by rw [hF3.1 _ (by decide), hFr.1 _ (by decide)]; exact e1
      have hrow3 : M3.1 c_songs_row b = nI t := by rw [hF3.1 _ (by decide), si_same, up_s]
      have hpre3 : ∀ j, j < b → M3.1 c_songs_row j = M.1 c_songs_row j := fun j hj => by rw [hF3.1 _ (by decide), si_same, up_n (by omega)]; exact hr1 j hj
      -- behind the subtree
      have back : ∀ (L0 : Nat → Int32) (M4 : Mem), Fr SSG M M4 → SX l ds pr w M4 → LFT l dl L0 M4 → (∀ p d, p < lnp l → dl p = some d → L0 p + nI (pr b t p) = dlN dl p) → M4.1 c_songs Songs_found = nI (c0 + (vtt pr (mxS ds) (lnp l) n b dl (t + 1)).length) → c0 + (vtt pr (mxS ds) (lnp l) n b dl (t + 1)).length ≤ w → (∀ j, j < b → M4.1 c_songs_row j = M.1 c_songs_row j) → w_Songs_singFrom_j113 (wg_Songs_singFrom fu) (fun l3 M => w_Songs_singFrom_L76 (wg_Songs_singFrom fu) (nI b) (nI (mxS ds b)) (fun M536 => Q false M536) Q k l3 M) (fun M536 => Q false M536) (nI b) (nI (mxS ds b)) (nI t) M4 Q := by
        intro L0 M4 hF4 hS4 hl4 heq hfo4 hle4 hpre4
        unfold w_Songs_singFrom_j113
        rw [nI_1]
        refine x_takeBack hl hS4.1 hS4.2.1 (hT.fr hF4 (by decide)) hl4 (by omega) (by omega) (fun M5 hF5 hl5 => ?_)
        refine kk M5 ⟨hF4.trans (hF5.mono (by decide)), hS4.fr hF5 (by decide), by rw [hF5.1 _ (by decide)]; exact hfo4, hle4, fun p d hp hd => by rw [hl5 p d hp hd]; exact heq p d hp hd, fun j hj => by rw [hF5.1 _ (by decide)]; exact hpre4 j hj⟩
      refine ⟨fun hfit => ?_, fun hfit => ?_⟩
      · refine back (fun p => dlN dl p - nI (pr b t p)) M3 hFz hS3 hl3 (fun p d _ _ => ?_) ?_ ?_ hpre3
        · exact Int32.sub_add_cancel _ _
        · rw [vtt_succ, hfit]; simpa using hfo3
        · rw [vtt_succ, hfit]; simpa using e2
      · have hsub : ∀ p d, p < lnp l → dls dl (pr b t) p = some d → d ≤ 9999 := by
          intro p d hp hd
          unfold dls at hd
          cases hdl : dl p with
          | none => rw [hdl] at hd; cases hd
          | some d0 => rw [hdl] at hd; simp only [Option.map_some, Option.some.injEq] at hd; have := hd9 p d0 hp hdl; omega
        have hval : ∀ p d, p < lnp l → dl p = some d → dlN dl p - nI (pr b t p) = dlN (dls dl (pr b t)) p := by
          intro p d hp hd
          have hle := fitB_iff.mp hfit p d hp hd
          unfold dlN dls
          rw [hd]
          simp only [Option.getD_some, Option.map_some]
          exact pk_sub hle
        have ev1 : vtt pr (mxS ds) (lnp l) n b dl (t + 1) = vtt pr (mxS ds) (lnp l) n b dl t ++ (vrw pr (mxS ds) (lnp l) n (b + 1) (dls dl (pr b t))).map (fun s => t :: s) := by rw [vtt_succ, hfit]; rfl
        have hln : (vrw pr (mxS ds) (lnp l) n (b + 1) (dls dl (pr b t))).length ≤ 6 ^ n := vrw_len hmx n _ _
        have hmono : ∀ m, t + 1 ≤ m → ∃ R, vtt pr (mxS ds) (lnp l) n b dl m = vtt pr (mxS ds) (lnp l) n b dl (t + 1) ++ R := by
          intro m hm
          induction m with
          | zero => omega
          | succ m ihm =>
            by_cases he : m = t
            · subst he; exact ⟨[], by simp⟩
            · obtain ⟨R, hR⟩ := ihm (by omega)
              rw [vtt_succ, hR]
              exact ⟨_, List.append_assoc _ _ _⟩
        refine ih (b + 1) fu (c0 + (vtt pr (mxS ds) (lnp l) n b dl t).length) (dls dl (pr b t)) M3 _ (by omega) (by omega) hS3 (hT3.sub _) hsub (fun p d hp hd => ?_) hfo3 e2 (by omega) (fun M4 hF4 hlt hrow hpre => ?_) (fun M4 hF4 hle hS4 hfo4 hl4 hpre => ?_)
        · cases hdl : dl p with
          | none => unfold dls at hd; rw [hdl] at hd; cases hd
          | some d0 => rw [hl3 p d0 hp hdl]; exact hval p d0 hp hdl
        · refine ⟨fun q => absurd q (by decide), fun _ => kT M4 (hFz.trans hF4) ?_ ?_ (fun j hj => ?_)⟩
          · obtain ⟨R, hR⟩ := hmono (mxS ds b + 1) (by omega)
            rw [hR, ev1, List.length_append, List.length_append, List.length_map]
            omega
          · intro j hj
            obtain ⟨R, hR⟩ := hmono (mxS ds b + 1) (by omega)
            have eg : (vtt pr (mxS ds) (lnp l) n b dl (mxS ds b + 1)).getD (w - c0) [] = t :: (vrw pr (mxS ds) (lnp l) n (b + 1) (dls dl (pr b t))).getD (w - (c0 + (vtt pr (mxS ds) (lnp l) n b dl t).length)) [] := by
              rw [hR, ev1, List.append_assoc]
              rw [List.getD_eq_getElem?_getD, List.getElem?_append_right (by omega), List.getElem?_append_left (by rw [List.length_map]; omega), List.getElem?_map, List.getD_eq_getElem?_getD]
              rw [show w - c0 - (vtt pr (mxS ds) (lnp l) n b dl t).length = w - (c0 + (vtt pr (mxS ds) (lnp l) n b dl t).length) by omega]
              rw [List.getElem?_eq_getElem (by omega)]
              rfl
            rw [eg]
            cases j with
            | zero => rw [Nat.add_zero, hpre b (by omega)]; exact hrow3
            | succ j => rw [show b + (j + 1) = b + 1 + j by omega]; exact hrow j (by omega)
          · rw [hpre j (by omega)]; exact hpre3 j hj
        · refine ⟨fun _ => ?_, fun q => absurd q (by decide)⟩
          refine back (dlN (dls dl (pr b t))) M4 (hFz.trans hF4) hS4 (fun p d hp hd => ?_) (fun p d hp hd => ?_) ?_ ?_ (fun j hj => by rw [hpre j (by omega)]; exact hpre3 j hj)
          · exact hl4 p (d - pr b t p) hp (by unfold dls; rw [hd]; rfl)
          · rw [← hval p d hp hd]; exact Int32.sub_add_cancel _ _
          · rw [hfo4, ev1, List.length_append, List.length_map, Nat.add_assoc]
          · rw [ev1, List.length_append, List.length_map]; omega
