/-! rounds of play -/
def rdP (l : Land) (ds : Deeds) (f t : Nat) (st : Nat → Option Nat) (p : Nat) : Nat × Int32 × Nat := (tryF l (fun k => gain l (putA (2 ^ p) f t k (atS l f t st)) ds (2 ^ p) (dshot ds) 0 24) (2 ^ p) none 64).getD (0, 0, 0)
def rdG (l : Land) (ds : Deeds) (f t : Nat) (st : Nat → Option Nat) (p : Nat) : Bool := decide (gain l (atS l f t st) ds (2 ^ p) (dshot ds) 0 24 < (rdP l ds f t st p).2.1)
/-- a round up to person n: where all stand, whether anybody moved -/
def rd (l : Land) (ds : Deeds) (f t : Nat) (st : Nat → Option Nat) : Nat → (Nat → Option Nat) × Bool
  | 0 => (st, false)
  | n + 1 => if rdG l ds f t (rd l ds f t st n).1 n then (stS (rd l ds f t st n).1 n (rdP l ds f t (rd l ds f t st n).1 n).1, true) else rd l ds f t st n
def plS (l : Land) (ds : Deeds) (f t : Nat) : Nat → Nat → Option Nat
  | 0 => st0 l f t
  | r + 1 => (rd l ds f t (plS l ds f t r) (lnp l)).1
def plM (l : Land) (ds : Deeds) (f t r : Nat) : Bool := (rd l ds f t (plS l ds f t r) (lnp l)).2
def sameS (l : Land) (a b : Nat → Option Nat) : Bool := (List.range (lnp l)).all (fun p => a p == b p)
def seenS (l : Land) (ds : Deeds) (f t r : Nat) : Bool := (List.range r).any (fun i => sameS l (plS l ds f t i) (plS l ds f t r))
/-- rounds, whether it is at rest, behind which round -/
def plGo (l : Land) (ds : Deeds) (f t : Nat) : Nat → Nat → Nat × Bool × Nat
  | 0, _ => (50, false, 50)
  | k + 1, r => if plM l ds f t (r - 1) then (if seenS l ds f t r then (r, false, r) else plGo l ds f t k (r + 1)) else (r, true, r)
def cd (st : Nat → Option Nat) : Nat → Nat
  | 0 => 0
  | n + 1 => cd st n * 128 + (st n).getD 64
theorem cd_lt {l : Land} {f t : Nat} {st : Nat → Option Nat} (h : SOK l f t st) : ∀ n, n ≤ lnp l → cd st n < 128 ^ n
  | 0, _ => Nat.lt_succ_self 0
  | n + 1, hn => by
    have ih := cd_lt h n (by omega)
    have h2 := h n (by omega)
    have h3 : (st n).getD 64 ≤ 64 := by
      cases e : st n with
      | none => simp
      | some c => rw [e] at h2; simp only at h2; simp only [Option.getD_some]; omega
    rw [cd, Nat.pow_succ]
    omega
theorem cd_inj {l : Land} {f t : Nat} {a b : Nat → Option Nat} (ha : SOK l f t a) (hb : SOK l f t b) : ∀ n, n ≤ lnp l → (cd a n = cd b n ↔ ∀ p, p < n → a p = b p)
  | 0, _ => ⟨fun _ p hp => absurd hp (Nat.not_lt_zero p), fun _ => rfl⟩
  | n + 1, hn => by
    have ih := cd_inj ha hb n (by omega)
    have h2 := ha n (by omega)
    have h3 := hb n (by omega)
    have k1 : (a n).getD 64 < 128 := by
      cases e : a n with
      | none => simp
      | some c => rw [e] at h2; simp only at h2; simp only [Option.getD_some]; omega
    have k2 : (b n).getD 64 < 128 := by
      cases e : b n with
      | none => simp
      | some c => rw [e] at h3; simp only at h3; simp only [Option.getD_some]; omega
    have k3 : (a n).getD 64 = (b n).getD 64 → a n = b n := by
      cases e1 : a n with
      | none =>
        cases e2 : b n with
        | none => intro _; rfl
        | some c => rw [e2] at h3; simp only at h3; simp only [Option.getD_some, Option.getD_none]; intro z; omega
      | some c =>
        rw [e1] at h2
        simp only at h2
        cases e2 : b n with
        | none => simp only [Option.getD_some, Option.getD_none]; intro z; omega
        | some c' => simp only [Option.getD_some]; intro z; rw [z]
    rw [cd, cd]
    constructor
    · intro h
      have e1 : cd a n = cd b n := by omega
      have e2 : (a n).getD 64 = (b n).getD 64 := by omega
      exact lt_s (ih.mp e1) (k3 e2)
    · intro h
      rw [ih.mpr (fun p hp => h p (by omega)), h n (by omega)]
theorem same_iff {l : Land} {f t : Nat} {a b : Nat → Option Nat} (ha : SOK l f t a) (hb : SOK l f t b) : sameS l a b = true ↔ cd a (lnp l) = cd b (lnp l) := by
  rw [cd_inj ha hb (lnp l) (Nat.le_refl _)]
  unfold sameS
  rw [List.all_eq_true]
  constructor
  · intro h p hp
    have := h p (List.mem_range.mpr hp)
    exact eq_of_beq this
  · intro h p hp
    rw [h p (List.mem_range.mp hp)]
    exact beq_self_eq_true _
theorem rdP_some {l : Land} {ds : Deeds} {f t : Nat} {st : Nat → Option Nat} {p : Nat} (hl : LOK l) : ∃ k, tryF l (fun k => gain l (putA (2 ^ p) f t k (atS l f t st)) ds (2 ^ p) (dshot ds) 0 24) (2 ^ p) none 64 = some (k, gain l (putA (2 ^ p) f t k (atS l f t st)) ds (2 ^ p) (dshot ds) 0 24, 2 ^ p) ∧ k < 64 ∧ isC l k = true ∧ rdP l ds f t st p = (k, gain l (putA (2 ^ p) f t k (atS l f t st)) ds (2 ^ p) (dshot ds) 0 24, 2 ^ p) := by
  obtain ⟨k, v, h1, h2, h3, h4⟩ := tryF_some (g := fun k => gain l (putA (2 ^ p) f t k (atS l f t st)) ds (2 ^ p) (dshot ds) 0 24) (set := 2 ^ p) hl
  subst h4
  refine ⟨k, h1, h2, h3, ?_⟩
  unfold rdP
  rw [h1]; rfl
theorem sok_rd {l : Land} {ds : Deeds} {f t : Nat} {st : Nat → Option Nat} (hl : LOK l) (h : SOK l f t st) : ∀ n, SOK l f t (rd l ds f t st n).1
  | 0 => h
  | n + 1 => by
    have ih := sok_rd (ds := ds) hl h n
    rw [rd]
    split
    · obtain ⟨k, -, h2, -, h4⟩ := rdP_some (ds := ds) (f := f) (t := t) (st := (rd l ds f t st n).1) (p := n) hl
      rw [h4]
      exact sokS ih h2
    · exact ih
theorem sok_pl {l : Land} {ds : Deeds} {f t : Nat} (hl : LOK l) (hf : f < 24) : ∀ r, SOK l f t (plS l ds f t r)
  | 0 => sok0 hl hf
  | r + 1 => sok_rd hl (sok_pl hl hf r) _
theorem atS_64 {l : Land} {f t : Nat} {st : Nat → Option Nat} (hl : LOK l) (h : SOK l f t st) {p hh : Nat} (hp : p < lnp l) (h24 : hh < 24) : atS l f t st (p * 24 + hh) < 64 := by
  unfold atS
  rw [show (p * 24 + hh) / 24 = p by omega]
  have h2 := h p hp
  have h3 := hl.2.2.2.2.2.2.1 p hh hp h24
  cases e : st p with
  | none => exact h3
  | some c =>
    rw [e] at h2
    simp only at h2 ⊢
    split
    · exact h2
    · exact h3
theorem lg_0 {x y : Int64} : lg_cmp x y = 0 ↔ x = y := by
  unfold lg_cmp
  constructor
  · intro h
    split at h
    · exact absurd h (by decide)
    · split at h
      · assumption
      · exact absurd h (by decide)
  · intro h
    subst h
    rw [if_neg (by rw [gt_iff_lt, fa_lt64]; omega), if_pos rfl]
def cstA (at_ : Nat → Nat) (f p h : Nat) : Bool := (List.range (h - f)).all (fun k => at_ (p * 24 + (f + k)) == at_ (p * 24 + f))
theorem cstA_iff {at_ : Nat → Nat} {f p h : Nat} : cstA at_ f p h = true ↔ ∀ z, f ≤ z → z < h → at_ (p * 24 + z) = at_ (p * 24 + f) := by
  unfold cstA
  rw [List.all_eq_true]
  constructor
  · intro hh x h1 h2
    have := hh (x - f) (List.mem_range.mpr (by omega))
    rw [show f + (x - f) = x by omega] at this
    simpa using this
  · intro hh k hk
    have := List.mem_range.mp hk
    simpa using hh (f + k) (by omega) (by omega)
theorem x_standing {l : Land} {f t : Nat} {st : Nat → Option Nat} {M : Mem} {Q : Int64 → Mem → Prop} (hl : LOK l) (hL : XLand l M) (hA : XAt l (atS l f t st) M) (hS : SOK l f t st) (ht : t < 24) (hf : f ≤ t) (k : Q (lN (cd st (lnp l))) M) : w_Game_standing (nI f) (nI t) M Q := by
  have hnp := hl.2.2.1
  have hin : ∀ p h, p < lnp l → h < 24 → nI p * 24 + nI h = nI (p * 24 + h) := by intro p h _ _; simp only [fa_lit, pk_mul, nI_add]
  unfold w_Game_standing
  refine for_loop (fun n i (M1 : Mem) => w_Game_standing_L5 (nI f) (nI t) (fun y440 M439 => Q y440 M439) Q n (lN (cd st i)) (nI i) M1) (fun i M1 => M1 = M) (lnp l) 0 M (Nat.zero_le _) rfl ?_ ?_
  · intro n M1 e
    subst e
    unfold w_Game_standing_L5
    rw [hL.2.1]
    exact br_le (by omega) (by omega) (fun _ => k) (fun q => absurd q (by omega))
  · intro n0 i M1 _ hi e kk
    subst e
    unfold w_Game_standing_L5
    rw [hL.2.1]
    refine br_le (by omega) (by omega) (fun q => absurd q (by omega)) (fun _ => ?_)
    rw [hin i f hi (by omega), nI_clamp (by omega), (hA i f hi (by omega)).1, nI_1]
    refine ⟨vp_in_nI (by omega) (by decide), fun x ex => ?_⟩
    subst ex
    rw [nI_1]
    -- the code so far
    have key := for_loop (fun n h (M2 : Mem) => w_Game_standing_L39 (nI f) (nI t) (lN (cd st i)) (nI i) (fun y436 M435 => ∀ x437 : Int64, x437 = ((lN (cd st i) <<< (Int32.toInt64 (7 : Int32) &&& 63)) + (Int32.toInt64 y436)) → w_Game_standing_L5 (nI f) (nI t) (fun y440 M439 => Q y440 M439) Q n0 x437 (nI (i + 1)) M435) Q n (nI (if cstA (atS l f t st) f i h = true then atS l f t st (i * 24 + f) else 64)) (nI h) M2) (fun h M2 => M2 = M1) (t + 1) (f + 1) M1 (by omega) rfl ?_ ?_
    · rw [if_pos (cstA_iff.mpr (fun x h1 h2 => by rw [show x = f by omega]))] at key
      exact key
    · intro n2 M2 e
      subst e
      unfold w_Game_standing_L39
      refine br_lt (by omega) (by omega) (fun _ => ?_) (fun q => absurd q (by omega))
      intro x ex
      have ec : (if cstA (atS l f t st) f i (t + 1) = true then atS l f t st (i * 24 + f) else 64) = (st i).getD 64 := by
        have hs := hS i hi
        have ea : ∀ z, z < 24 → atS l f t st (i * 24 + z) = match st i with
          | none => lplace l (i * 24 + z)
          | some c => if f ≤ z ∧ z ≤ t then c else lplace l (i * 24 + z) := by
          intro z hz
          unfold atS
          rw [show (i * 24 + z) / 24 = i by omega, show (i * 24 + z) % 24 = z by omega]
          cases st i <;> rfl
        cases e : st i with
        | none =>
          rw [e] at hs
          simp only at hs
          rw [if_neg]
          · rfl
          · intro hz
            have : cst l f t i = true := cst_iff.mpr (fun h h1 h2 => by
              have := cstA_iff.mp hz h h1 (by omega)
              rw [ea h (by omega), ea f (by omega), e] at this
              exact this)
            rw [this] at hs; cases hs
        | some c =>
          rw [if_pos]
          · rw [ea f (by omega), e]
            simp only
            rw [if_pos ⟨Nat.le_refl f, hf⟩]; rfl
          · refine cstA_iff.mpr (fun z h1 h2 => ?_)
            rw [ea z (by omega), ea f (by omega), e]
            simp only
            rw [if_pos ⟨h1, by omega⟩, if_pos ⟨Nat.le_refl f, hf⟩]
      rw [ec] at ex
      have h64 : (st i).getD 64 < 2 ^ 31 := by
        have hs := hS i hi
        cases e : st i with
        | none => simp
        | some c => rw [e] at hs; simp only at hs; simp only [Option.getD_some]; omega
      have e7 : lN (cd st i) <<< (Int32.toInt64 (7 : Int32) &&& 63) = lN (cd st i * 128) := by
        have hc := cd_lt hS i (by omega)
        have h6 : 128 ^ i ≤ 128 ^ 6 := Nat.pow_le_pow_right (by decide) (by omega)
        apply Int64.toBitVec_inj.mp
        rw [show (Int32.toInt64 (7 : Int32) &&& 63) = 7 from by decide]
        have ee : (lN (cd st i) <<< (7 : Int64)).toBitVec = (lN (cd st i)).toBitVec <<< 7 := by
          rw [Int64.toBitVec_shiftLeft]; rfl
        rw [ee]
        unfold lN
        apply BitVec.eq_of_toNat_eq
        rw [BitVec.toNat_shiftLeft, Nat.shiftLeft_eq]
        simp only [Int64.toBitVec_ofNat', BitVec.toNat_ofNat]
        omega
      rw [e7, nI_l h64, lN_add] at ex
      rw [ex]
      exact kk M2 rfl
    · intro n2 h M2 h1 h2 e kk2
      subst e
      have hx1 := (hA i h hi (by omega))
      have hx2 := (hA i f hi (by omega))
      unfold w_Game_standing_L39
      refine br_lt (by omega) (by omega) (fun q => absurd q (by omega)) (fun _ => ?_)
      rw [hin i h hi (by omega), hin i f hi (by omega), nI_clamp (by omega), nI_clamp (by omega), hx1.1, hx2.1]
      have z := kk2 M2 rfl
      rw [nI_1]
      refine ⟨vp_in_nI (by omega) (by decide), vp_in_nI (by omega) (by decide), br_eq (by have := hx1.2; omega) (by have := hx2.2; omega) (fun q => ?_) (fun q => ?_)⟩
      · have ec : cstA (atS l f t st) f i (h + 1) = true ↔ cstA (atS l f t st) f i h = true := by
          rw [cstA_iff, cstA_iff]
          exact ⟨fun a z z1 z2 => a z z1 (by omega), fun a z z1 z2 => by
            by_cases ez : z = h
            · rw [ez]; exact q
            · exact a z z1 (by omega)⟩
        simp only [ec] at z
        exact z
      · rw [if_neg (fun a => q (cstA_iff.mp a h (by omega) (by omega)))] at z
        exact z
