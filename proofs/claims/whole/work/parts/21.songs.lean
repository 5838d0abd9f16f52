/-! the class's songs -/
def fitB (np : Nat) (dl : Nat → Option Nat) (q : Nat → Nat) : Bool := (List.range np).all (fun p => match dl p with
  | none => true
  | some d => decide (q p ≤ d))
def dls (dl : Nat → Option Nat) (q : Nat → Nat) : Nat → Option Nat := fun p => (dl p).map (fun d => d - q p)
def zerB (np : Nat) (dl : Nat → Option Nat) : Bool := (List.range np).all (fun p => match dl p with
  | none => true
  | some d => decide (d = 0))
def vrw (pr : Nat → Nat → Nat → Nat) (mx : Nat → Nat) (np : Nat) : Nat → Nat → (Nat → Option Nat) → List (List Nat)
  | 0, _, dl => if zerB np dl then [[]] else []
  | n + 1, b, dl => (List.range (mx b + 1)).flatMap (fun t => if fitB np dl (pr b t) then (vrw pr mx np n (b + 1) (dls dl (pr b t))).map (fun s => t :: s) else [])
theorem fitB_iff {np : Nat} {dl : Nat → Option Nat} {q : Nat → Nat} : fitB np dl q = true ↔ ∀ p d, p < np → dl p = some d → q p ≤ d := by
  unfold fitB
  rw [List.all_eq_true]
  constructor
  · intro h p d hp hd
    have := h p (List.mem_range.mpr hp)
    rw [hd] at this
    simpa using this
  · intro h p hp
    cases hd : dl p with
    | none => rfl
    | some d => simpa using h p d (List.mem_range.mp hp) hd
theorem zerB_iff {np : Nat} {dl : Nat → Option Nat} : zerB np dl = true ↔ ∀ p d, p < np → dl p = some d → d = 0 := by
  unfold zerB
  rw [List.all_eq_true]
  constructor
  · intro h p d hp hd
    have := h p (List.mem_range.mpr hp)
    rw [hd] at this
    simpa using this
  · intro h p hp
    cases hd : dl p with
    | none => rfl
    | some d => simpa using h p d (List.mem_range.mp hp) hd
def PRp (l : Land) (pr : Nat → Nat → Nat → Nat) (M : Mem) : Prop := ∀ b t p, b < lnb l → t ≤ 5 → p < lnp l → M.1 c_songs_price ((b * 6 + t) * 6 + p) = nI (pr b t p) ∧ pr b t p ≤ 1782
theorem PRp.fr {l : Land} {pr : Nat → Nat → Nat → Nat} {M M' : Mem} {L : List Nat} (h : PRp l pr M) (hF : Fr L M M') (hd : c_songs_price ∉ L) : PRp l pr M' := by
  unfold PRp; rw [hF.1 _ hd]; exact h
/-- of whom it is told -/
def TLD (l : Land) (dl : Nat → Option Nat) (M : Mem) : Prop := ∀ p, p < lnp l → (M.1 c_deeds_debt p = -1 ↔ dl p = none)
def LFT (l : Land) (dl : Nat → Option Nat) (L : Nat → Int32) (M : Mem) : Prop := ∀ p d, p < lnp l → dl p = some d → M.1 c_songs_left p = L p
def dlN (dl : Nat → Option Nat) : Nat → Int32 := fun p => nI ((dl p).getD 0)
theorem TLD.fr {l : Land} {dl : Nat → Option Nat} {M M' : Mem} {L : List Nat} (h : TLD l dl M) (hF : Fr L M M') (hd : c_deeds_debt ∉ L) : TLD l dl M' := by
  unfold TLD; rw [hF.1 _ hd]; exact h
theorem TLD.sub {l : Land} {dl : Nat → Option Nat} {M : Mem} (h : TLD l dl M) (q : Nat → Nat) : TLD l (dls dl q) M := fun p hp => by
  rw [h p hp]
  unfold dls
  cases dl p <;> simp
theorem x_priceAt {b t p : Nat} {M : Mem} {Q : Int32 → Mem → Prop} (k : Q (nI ((b * 6 + t) * 6 + p)) M) : w_Songs_priceAt (nI b) (nI t) (nI p) M Q := by
  unfold w_Songs_priceAt
  have e : (nI b * 6 + nI t) * 6 + nI p = nI ((b * 6 + t) * 6 + p) := by simp only [fa_lit, pk_mul, nI_add]
  rw [e]; exact k
theorem x_pay {l : Land} {pr : Nat → Nat → Nat → Nat} {dl : Nat → Option Nat} {b t : Nat} {M : Mem} {Q : Bool → Mem → Prop} (hl : LOK l) (hL : XLand l M) (hP : PRp l pr M) (hT : TLD l dl M) (hd9 : ∀ p d, p < lnp l → dl p = some d → d ≤ 9999) (hf : LFT l dl (dlN dl) M) (hb : b < lnb l) (ht : t ≤ 5)
    (k : ∀ M', Fr [c_songs_left] M M' → LFT l dl (fun p => dlN dl p - nI (pr b t p)) M' → Q (fitB (lnp l) dl (pr b t)) M') : w_Songs_pay (nI b) (nI t) M Q := by
  have hnp := hl.2.2.1
  have hnb := hl.2.2.2.1
  unfold w_Songs_pay
  have key := for_loop (fun n i (M1 : Mem) => w_Songs_pay_L5 (nI b) (nI t) (fun y525 M524 => (∃ bb : Bool, y525 = b2i bb ∧ Q bb M524)) Q n (b2i (fitB i dl (pr b t))) (nI i) M1)
    (fun i M1 => Fr [c_songs_left] M M1 ∧ ∀ p d, p < lnp l → dl p = some d → M1.1 c_songs_left p = if p < i then dlN dl p - nI (pr b t p) else dlN dl p) (lnp l) 0 M (Nat.zero_le _) ⟨Fr.rfl, fun p d hp hd => by rw [if_neg (Nat.not_lt_zero p)]; exact hf p d hp hd⟩ ?_ ?_
  · exact key
  · intro n M1 ⟨hF, hs⟩
    have hL1 := hL.fr hF (by decide)
    unfold w_Songs_pay_L5
    rw [hL1.2.1]
    exact br_le (by omega) (by omega) (fun _ => ⟨_, rfl, k M1 hF (fun p d hp hd => by have := hs p d hp hd; rw [if_pos hp] at this; exact this)⟩) (fun q => absurd q (by omega))
  · intro n i M1 _ hi ⟨hF, hs⟩ kk
    have hL1 := hL.fr hF (by decide)
    have hP1 := hP.fr hF (by decide)
    have hT1 := hT.fr hF (by decide)
    have hin : vp_in (nI i) 6 := vp_in_nI (by omega) (by decide)
    have hsucc : fitB (i + 1) dl (pr b t) = (fitB i dl (pr b t) && (match dl i with
      | none => true
      | some d => decide (pr b t i ≤ d))) := by
      unfold fitB
      rw [List.range_succ, List.all_append]
      simp
    unfold w_Songs_pay_L5
    rw [hL1.2.1]
    refine br_le (by omega) (by omega) (fun q => absurd q (by omega)) (fun _ => ⟨hin, ?_⟩)
    rw [nI_clamp (by omega), hT1 i hi, nI_1]
    cases hdi : dl i with
    | none =>
      refine ⟨fun _ => ?_, fun q => absurd rfl q⟩
      have z := kk M1 ⟨hF, fun p d hp hd => ?_⟩
      · rw [hsucc, hdi, Bool.and_true] at z; exact z
      · rw [hs p d hp hd]
        by_cases e : p = i
        · subst e; rw [hdi] at hd; cases hd
        · by_cases c : p < i
          · rw [if_pos c, if_pos (by omega)]
          · rw [if_neg c, if_neg (by omega)]
    | some d =>
      refine ⟨fun q => (by cases q), fun _ => ⟨hin, x_priceAt ?_⟩⟩
      obtain ⟨p1, p2⟩ := hP1 b t i hb ht hi
      have hd9i := hd9 i d hi hdi
      rw [nI_clamp (by omega), p1, si_same, up_s]
      have e0 : M1.1 c_songs_left i = nI d := by
        have := hs i d hi hdi
        rw [if_neg (Nat.lt_irrefl i)] at this
        rw [this]; unfold dlN; rw [hdi]; rfl
      rw [e0]
      refine ⟨vp_in_nI (by omega) (by decide), hin, ?_⟩
      have z := kk (si M1 c_songs_left i (nI d - nI (pr b t i))) ⟨hF.put _ _ _ (by decide), fun p d' hp hd' => ?_⟩
      · rw [hsucc, hdi] at z
        simp only at z
        cases hfb : fitB i dl (pr b t) with
        | false =>
          rw [hfb] at z
          exact ⟨fun _ => z, fun q => absurd rfl q⟩
        | true =>
          rw [hfb, Bool.true_and] at z
          refine ⟨fun q => absurd q (by decide), fun _ => ⟨hin, fun x ex => ?_⟩⟩
          have es := pk_sub_toInt (a := d) (b := pr b t i) (by omega) (by omega)
          by_cases hle : pr b t i ≤ d
          · rw [if_neg (by rw [fa_lt, es, show (0 : Int32).toInt = 0 from rfl]; omega)] at ex
            rw [decide_eq_true hle] at z
            rw [ex]; exact z
          · rw [if_pos (by rw [fa_lt, es, show (0 : Int32).toInt = 0 from rfl]; omega)] at ex
            rw [decide_eq_false hle] at z
            rw [ex]; exact z
      · rw [si_same]
        by_cases e : p = i
        · subst e
          rw [up_s, if_pos (Nat.lt_succ_self p)]
          unfold dlN; rw [hdi]; rfl
        · rw [up_n e, hs p d' hp hd']
          by_cases c : p < i
          · rw [if_pos c, if_pos (by omega)]
          · rw [if_neg c, if_neg (by omega)]
theorem x_takeBack {l : Land} {pr : Nat → Nat → Nat → Nat} {dl : Nat → Option Nat} {L0 : Nat → Int32} {b t : Nat} {M : Mem} {Q : Mem → Prop} (hl : LOK l) (hL : XLand l M) (hP : PRp l pr M) (hT : TLD l dl M) (hf : LFT l dl L0 M) (hb : b < lnb l) (ht : t ≤ 5)
    (k : ∀ M', Fr [c_songs_left] M M' → LFT l dl (fun p => L0 p + nI (pr b t p)) M' → Q M') : w_Songs_takeBack (nI b) (nI t) M Q := by
  have hnp := hl.2.2.1
  have hnb := hl.2.2.2.1
  unfold w_Songs_takeBack
  refine for_loop (fun n i (M1 : Mem) => w_Songs_takeBack_L2 (nI b) (nI t) (fun M531 => Q M531) Q n (nI i) M1)
    (fun i M1 => Fr [c_songs_left] M M1 ∧ ∀ p d, p < lnp l → dl p = some d → M1.1 c_songs_left p = if p < i then L0 p + nI (pr b t p) else L0 p) (lnp l) 0 M (Nat.zero_le _) ⟨Fr.rfl, fun p d hp hd => by rw [if_neg (Nat.not_lt_zero p)]; exact hf p d hp hd⟩ ?_ ?_
  · intro n M1 ⟨hF, hs⟩
    have hL1 := hL.fr hF (by decide)
    unfold w_Songs_takeBack_L2
    rw [hL1.2.1]
    exact br_le (by omega) (by omega) (fun _ => k M1 hF (fun p d hp hd => by have := hs p d hp hd; rw [if_pos hp] at this; exact this)) (fun q => absurd q (by omega))
  · intro n i M1 _ hi ⟨hF, hs⟩ kk
    have hL1 := hL.fr hF (by decide)
    have hP1 := hP.fr hF (by decide)
    have hT1 := hT.fr hF (by decide)
    have hin : vp_in (nI i) 6 := vp_in_nI (by omega) (by decide)
    unfold w_Songs_takeBack_L2
    rw [hL1.2.1]
    refine br_le (by omega) (by omega) (fun q => absurd q (by omega)) (fun _ => ⟨hin, ?_⟩)
    rw [nI_clamp (by omega), hT1 i hi, nI_1]
    cases hdi : dl i with
    | none =>
      refine ⟨fun _ => kk M1 ⟨hF, fun p d hp hd => ?_⟩, fun q => absurd rfl q⟩
      rw [hs p d hp hd]
      by_cases e : p = i
      · subst e; rw [hdi] at hd; cases hd
      · by_cases c : p < i
        · rw [if_pos c, if_pos (by omega)]
        · rw [if_neg c, if_neg (by omega)]
    | some d =>
      refine ⟨fun q => (by cases q), fun _ => ⟨hin, x_priceAt ?_⟩⟩
      obtain ⟨p1, p2⟩ := hP1 b t i hb ht hi
      rw [nI_clamp (by omega), p1]
      refine ⟨vp_in_nI (by omega) (by decide), hin, kk _ ⟨hF.put _ _ _ (by decide), fun p d' hp hd' => ?_⟩⟩
      rw [si_same]
      by_cases e : p = i
      · subst e
        have := hs p d hp hdi
        rw [if_neg (Nat.lt_irrefl p)] at this
        rw [up_s, if_pos (Nat.lt_succ_self p), this]
      · rw [up_n e, hs p d' hp hd']
        by_cases c : p < i
        · rw [if_pos c, if_pos (by omega)]
        · rw [if_neg c, if_neg (by omega)]
theorem x_isAllPaid {l : Land} {dl : Nat → Option Nat} {M : Mem} {Q : Bool → Mem → Prop} (hl : LOK l) (hL : XLand l M) (hT : TLD l dl M) (hd9 : ∀ p d, p < lnp l → dl p = some d → d ≤ 9999) (hf : LFT l dl (dlN dl) M) (k : Q (zerB (lnp l) dl) M) : w_Songs_isAllPaid M Q := by
  have hnp := hl.2.2.1
  unfold w_Songs_isAllPaid
  refine for_loop (fun n i (M1 : Mem) => w_Songs_isAllPaid_L2 (fun M538 => Q true M538) Q n (nI i) M1) (fun i M1 => M1 = M ∧ ∀ p d, p < i → dl p = some d → d = 0) (lnp l) 0 M (Nat.zero_le _) ⟨rfl, fun p d hp => absurd hp (Nat.not_lt_zero p)⟩ ?_ ?_
  · intro n M1 ⟨e, hz⟩
    subst e
    unfold w_Songs_isAllPaid_L2
    rw [hL.2.1]
    rw [zerB_iff.mpr hz] at k
    exact br_le (by omega) (by omega) (fun _ => k) (fun q => absurd q (by omega))
  · intro n i M1 _ hi ⟨e, hz⟩ kk
    subst e
    have hin : vp_in (nI i) 6 := vp_in_nI (by omega) (by decide)
    unfold w_Songs_isAllPaid_L2
    rw [hL.2.1]
    refine br_le (by omega) (by omega) (fun q => absurd q (by omega)) (fun _ => ⟨hin, ?_⟩)
    rw [nI_clamp (by omega), hT i hi, nI_1]
    cases hdi : dl i with
    | none =>
      refine ⟨fun _ => kk _ ⟨rfl, fun p d hp hd => ?_⟩, fun q => absurd rfl q⟩
      by_cases e : p = i
      · subst e; rw [hdi] at hd; cases hd
      · exact hz p d (by omega) hd
    | some d =>
      refine ⟨fun q => (by cases q), fun _ => ⟨hin, ?_⟩⟩
      have e0 : M1.1 c_songs_left i = nI d := by rw [hf i d hi hdi]; unfold dlN; rw [hdi]; rfl
      have h9 := hd9 i d hi hdi
      rw [e0]
      refine ⟨fun q => kk _ ⟨rfl, fun p d' hp hd' => ?_⟩, fun q => ?_⟩
      · have q0 := ni_inj (b := 0) (by omega) (by decide) q
        by_cases e : p = i
        · subst e; rw [hdi] at hd'; cases hd'; exact q0
        · exact hz p d' (by omega) hd'
      · have : zerB (lnp l) dl = false := by
          cases hb : zerB (lnp l) dl with
          | false => rfl
          | true => exact absurd (by rw [zerB_iff.mp hb i d hi hdi]; rfl) q
        rw [this] at k; exact k
