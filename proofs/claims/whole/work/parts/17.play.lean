/-! picnics and play -/
def pcn (n : Nat) : Nat := n % 2 + n / 2 % 2 + n / 4 % 2 + n / 8 % 2 + n / 16 % 2 + n / 32 % 2
def bcx (a : Int32) : Int32 :=
  let x1 := a - ((Int32.toUInt32 a >>> (Int32.toUInt32 1 &&& Int32.toUInt32 31)).toInt32 &&& 1431655765)
  let x2 := (x1 &&& 858993459) + ((Int32.toUInt32 x1 >>> (Int32.toUInt32 2 &&& Int32.toUInt32 31)).toInt32 &&& 858993459)
  let x3 := (x2 + (Int32.toUInt32 x2 >>> (Int32.toUInt32 4 &&& Int32.toUInt32 31)).toInt32) &&& 252645135
  let x4 := x3 + (Int32.toUInt32 x3 >>> (Int32.toUInt32 8 &&& Int32.toUInt32 31)).toInt32
  let x5 := x4 + (Int32.toUInt32 x4 >>> (Int32.toUInt32 16 &&& Int32.toUInt32 31)).toInt32
  x5 &&& 63
theorem bcx_val : ∀ n, n < 64 → bcx (nI n) = nI (pcn n) := by decide +kernel
theorem x_bitCount {n : Nat} {M : Mem} {Q : Int32 → Mem → Prop} (hn : n < 64) (k : Q (nI (pcn n)) M) : w_Jint_bitCount (nI n) M Q := by
  intro x1 e1 x2 e2 x3 e3 x4 e4 x5 e5
  subst e1; subst e2; subst e3; subst e4; subst e5
  rw [← bcx_val n hn] at k
  exact k
def pcF (l : Land) (ds : Deeds) (many f t : Nat) : Nat → Bst
  | 0 => none
  | n + 1 => if pcn n = many then tryF l (stG l ds n f t) n (pcF l ds many f t n) 64 else pcF l ds many f t n
theorem pcn_le (n : Nat) : pcn n ≤ 6 := by unfold pcn; omega
theorem x_picnicOf {l : Land} {ds : Deeds} {many f t : Nat} {M : Mem} {Q : Mem → Prop} (hD : DX l ds M) (hm : many ≤ 6) (ht : t < 24) (hf : f ≤ t)
    (k : ∀ M', Fr ST M M' → DX l ds M' → GB (pcF l ds many f t (2 ^ lnp l)) M' → Q M') : w_Game_picnicOf (nI many) (nI f) (nI t) M Q := by
  have hnp := hD.1.2.2.1
  have h64 : 2 ^ lnp l ≤ 64 := Nat.pow_le_pow_right (n := 2) (by decide) hnp
  have hF0 : Fr [c_game] M (si M c_game Game_bestCell (-1)) := fr_si (by decide)
  unfold w_Game_picnicOf
  refine for_loop (fun n s (M1 : Mem) => w_Game_picnicOf_L8 (nI many) (nI f) (nI t) (fun M1317 => Q M1317) Q n (nI s) M1) (fun s M1 => Fr ST M M1 ∧ DX l ds M1 ∧ GB (pcF l ds many f t s) M1) (2 ^ lnp l) 0 _ (Nat.zero_le _) ⟨hF0.mono (by decide), hD.fr hF0 (by decide), by unfold pcF GB; rw [si_same, up_s]⟩ ?_ ?_
  · intro n M1 ⟨hF, hD1, hG1⟩
    unfold w_Game_picnicOf_L8
    rw [hD1.2.1.2.1, shl1 (by omega)]
    exact br_le (by omega) (by omega) (fun _ => k M1 hF hD1 hG1) (fun q => absurd q (by omega))
  · intro n s M1 _ hs ⟨hF, hD1, hG1⟩ kk
    have hpc := pcn_le s
    unfold w_Game_picnicOf_L8
    rw [hD1.2.1.2.1, shl1 (by omega), nI_1]
    refine br_le (by omega) (by omega) (fun q => absurd q (by omega)) (fun _ => x_bitCount (by omega) (br_ne (by omega) (by omega) (fun q => ?_) (fun q => ?_)))
    · refine kk M1 ⟨hF, hD1, ?_⟩
      show GB (if pcn s = many then _ else _) M1
      rw [if_neg q]; exact hG1
    · refine x_allAsTold hD1.1 hD1.2.1 (fun M2 hF2 hA2 => ?_)
      have hD2 := hD1.fr hF2 (by decide)
      refine x_gainOutside hD2 hA2 (by omega) ht hf (fun M3 hF3 hD3 => ?_)
      have hG3 : GB (pcF l ds many f t s) M3 := hG1.mv (by rw [hF3.1 _ (by decide), hF2.1 _ (by decide)])
      refine x_tryCells (at_ := lplace l) hD3 ⟨_, hA2.fr hF3 (by decide), fun _ => rfl⟩ (by omega) ht hf hG3 (fun M4 hF4 hD4 hA4 hG4 _ _ => ?_)
      refine kk M4 ⟨((hF.trans (hF2.mono (by decide))).trans (hF3.mono (by decide))).trans hF4, hD4, ?_⟩
      show GB (if pcn s = many then _ else _) M4
      rw [if_pos q]
      have e : (fun k => gain l (lplace l) ds s (dshot ds) 0 f + gain l (lplace l) ds s (dshot ds) (t + 1) (24 - (t + 1)) + gain l (putA s f t k (lplace l)) ds s (dshot ds) f (t + 1 - f)) = stG l ds s f t := by
        funext k
        exact gain_day hf ht
      rw [e] at hG4
      exact hG4
/-! bounds: no sum runs over -/
theorem sI_bound {f : Nat → Int32} {c : Int} (hc : 0 ≤ c) : ∀ {n : Nat}, (n : Int) * c < 2147483648 → (∀ k, k < n → -c ≤ (f k).toInt ∧ (f k).toInt ≤ c) → -((n : Int) * c) ≤ (sI f n).toInt ∧ (sI f n).toInt ≤ (n : Int) * c
  | 0, _, _ => by simp [sI]
  | n + 1, hn, h => by
    have e : ((n + 1 : Nat) : Int) * c = (n : Int) * c + c := by push_cast; rw [Int.add_mul, Int.one_mul]
    rw [e] at hn ⊢
    have ih := sI_bound hc (n := n) (by omega) (fun k hk => h k (by omega))
    have hn1 := h n (by omega)
    rw [sI_succ, fb_addI (by omega) (by omega)]
    omega
theorem shr_cases (set : Nat) (o : Option Nat) (p : Nat) : shr set o p = 0 ∨ shr set o p = 1 ∨ shr set o p = -1 := by
  unfold shr bitI
  cases o with
  | none => left; rfl
  | some e =>
    simp only
    cases set.testBit e <;> cases set.testBit p <;> simp
theorem term_bound {l : Land} {at_ : Nat → Nat} {set b h p t : Nat} (ht : t ≤ 9) : -1782 ≤ (shr set (near l at_ h p).1 p * nI (pnc l at_ b h p t)).toInt ∧ (shr set (near l at_ h p).1 p * nI (pnc l at_ b h p t)).toInt ≤ 1782 := by
  have h1 := pnc_le (l := l) (at_ := at_) (b := b) (h := h) (p := p) ht
  have e : (nI (pnc l at_ b h p t)).toInt = pnc l at_ b h p t := nI_toInt (by omega)
  rcases shr_cases set (near l at_ h p).1 p with q | q | q
  · rw [q, Int32.zero_mul]; decide
  · rw [q, Int32.one_mul, e]; omega
  · rw [q, show (-1 : Int32) * nI (pnc l at_ b h p t) = -nI (pnc l at_ b h p t) by rw [Int32.neg_mul, Int32.one_mul], fb_negI (by rw [e]; omega), e]; omega
theorem gain_bound {l : Land} {at_ : Nat → Nat} {ds : Deeds} {set sil f n : Nat} (hl : LOK l) (hT : ∀ i, i < 120 → dtimes ds i ≤ 9) (hn : f + n ≤ 24) : -1283040 ≤ (gain l at_ ds set sil f n).toInt ∧ (gain l at_ ds set sil f n).toInt ≤ 1283040 := by
  have hnp := hl.2.2.1
  have hnb := hl.2.2.2.1
  have b1 : ∀ b h, b < lnb l → h < 24 → -10692 ≤ (sI (fun p => shr set (near l at_ h p).1 p * nI (pnc l at_ b h p (tms ds sil b h))) (lnp l)).toInt ∧ (sI (fun p => shr set (near l at_ h p).1 p * nI (pnc l at_ b h p (tms ds sil b h))) (lnp l)).toInt ≤ 10692 := by
    intro b h hb hh
    have ht : tms ds sil b h ≤ 9 := by
      unfold tms
      split
      · omega
      · exact hT _ (by omega)
    have := sI_bound (f := fun p => shr set (near l at_ h p).1 p * nI (pnc l at_ b h p (tms ds sil b h))) (c := 1782) (by decide) (n := lnp l) (by omega) (fun p _ => term_bound ht)
    omega
  have b2 : ∀ h, h < 24 → -53460 ≤ (gainH l at_ ds set sil h).toInt ∧ (gainH l at_ ds set sil h).toInt ≤ 53460 := by
    intro h hh
    have := sI_bound (f := fun b => sI (fun p => shr set (near l at_ h p).1 p * nI (pnc l at_ b h p (tms ds sil b h))) (lnp l)) (c := 10692) (by decide) (n := lnb l) (by omega) (fun b hb => b1 b h hb hh)
    unfold gainH
    omega
  have := sI_bound (f := fun k => gainH l at_ ds set sil (f + k)) (c := 53460) (by decide) (n := n) (by omega) (fun k hk => b2 (f + k) (by omega))
  unfold gain
  omega
theorem lt_shift {a b c : Int32} (ha : -4000000 ≤ a.toInt ∧ a.toInt ≤ 4000000) (hb : -4000000 ≤ b.toInt ∧ b.toInt ≤ 4000000) (hc : -4000000 ≤ c.toInt ∧ c.toInt ≤ 4000000) : c + a < c + b ↔ a < b := by
  rw [fa_lt, fa_lt, fb_addI (by omega) (by omega), fb_addI (by omega) (by omega)]
  omega
def shB (c : Int32) (s : Bst) : Bst := match s with
  | none => none
  | some (k, v, z) => some (k, c + v, z)
theorem tryF_shift {l : Land} {g : Nat → Int32} {set : Nat} {c : Int32} (hg : ∀ k, -4000000 ≤ (g k).toInt ∧ (g k).toInt ≤ 4000000) (hc : -4000000 ≤ c.toInt ∧ c.toInt ≤ 4000000) : ∀ n, tryF l (fun k => c + g k) set none n = shB c (tryF l g set none n) ∧ ∀ k v z, tryF l g set none n = some (k, v, z) → v = g k
  | 0 => ⟨rfl, fun k v z h => by cases h⟩
  | n + 1 => by
    obtain ⟨h1, h2⟩ := tryF_shift (l := l) (set := set) hg hc n
    constructor
    · rw [tryF, tryF, h1]
      unfold tryS
      split
      · cases hs : tryF l g set none n with
        | none => rfl
        | some q =>
          obtain ⟨k, v, z⟩ := q
          have e := h2 k v z hs
          subst e
          simp only [shB]
          by_cases hlt : g k < g n
          · rw [if_pos hlt, if_pos ((lt_shift (hg _) (hg _) hc).mpr hlt)]
          · rw [if_neg hlt, if_neg (fun z => hlt ((lt_shift (hg _) (hg _) hc).mp z))]
      · rfl
    · intro k v z hk
      rw [tryF] at hk
      unfold tryS at hk
      split at hk
      · cases hs : tryF l g set none n with
        | none => rw [hs] at hk; simp only [Option.some.injEq, Prod.mk.injEq] at hk; rw [← hk.1, ← hk.2.1]
        | some q =>
          obtain ⟨k', v', z'⟩ := q
          rw [hs] at hk
          simp only at hk
          split at hk
          · simp only [Option.some.injEq, Prod.mk.injEq] at hk; rw [← hk.1, ← hk.2.1]
          · simp only [Option.some.injEq, Prod.mk.injEq] at hk
            rw [← hk.1, ← hk.2.1]; exact h2 _ _ _ hs
      · exact h2 k v z hk
/-- something is found, in the hills -/
theorem tryF_some {l : Land} {g : Nat → Int32} {set : Nat} (hl : LOK l) : ∃ k v, tryF l g set none 64 = some (k, v, set) ∧ k < 64 ∧ isC l k = true ∧ v = g k := by
  have key : ∀ n, (tryF l g set none n = none ∧ ∀ k, k < n → isC l k = false) ∨ ∃ k v, tryF l g set none n = some (k, v, set) ∧ k < n ∧ isC l k = true ∧ v = g k := by
    intro n
    induction n with
    | zero => left; exact ⟨rfl, fun k hk => absurd hk (Nat.not_lt_zero k)⟩
    | succ n ih =>
      rw [tryF]
      unfold tryS
      by_cases hc : isC l n = true
      · rw [if_pos hc]
        right
        rcases ih with ⟨h1, h2⟩ | ⟨k, v, h1, h2, h3, h4⟩
        · rw [h1]; exact ⟨n, g n, rfl, by omega, hc, rfl⟩
        · rw [h1]
          simp only
          split
          · exact ⟨n, g n, rfl, by omega, hc, rfl⟩
          · exact ⟨k, v, rfl, by omega, h3, h4⟩
      · rw [if_neg hc]
        rcases ih with ⟨h1, h2⟩ | ⟨k, v, h1, h2, h3, h4⟩
        · left; exact ⟨h1, lt_s h2 (by simpa using hc)⟩
        · right; exact ⟨k, v, h1, by omega, h3, h4⟩
  rcases key 64 with ⟨-, h2⟩ | h
  · have := h2 0 (by decide)
    unfold isC at this
    have hw := hl.1.1
    have hd := hl.2.1.1
    simp at this
    omega
  · exact h
/-! who stands where -/
def atS (l : Land) (f t : Nat) (st : Nat → Option Nat) : Nat → Nat := fun i => match st (i / 24) with
  | none => lplace l i
  | some c => if f ≤ i % 24 ∧ i % 24 ≤ t then c else lplace l i
def stS (st : Nat → Option Nat) (p c : Nat) : Nat → Option Nat := fun q => if q = p then some c else st q
def cst (l : Land) (f t p : Nat) : Bool := (List.range (t + 1 - f)).all (fun k => lplace l (p * 24 + (f + k)) == lplace l (p * 24 + f))
def st0 (l : Land) (f t : Nat) : Nat → Option Nat := fun p => if cst l f t p then some (lplace l (p * 24 + f)) else none
theorem cst_iff {l : Land} {f t p : Nat} : cst l f t p = true ↔ ∀ h, f ≤ h → h ≤ t → lplace l (p * 24 + h) = lplace l (p * 24 + f) := by
  unfold cst
  rw [List.all_eq_true]
  constructor
  · intro h x h1 h2
    have := h (x - f) (List.mem_range.mpr (by omega))
    rw [show f + (x - f) = x by omega] at this
    simpa using this
  · intro h k hk
    have := List.mem_range.mp hk
    simpa using h (f + k) (by omega) (by omega)
def SOK (l : Land) (f t : Nat) (st : Nat → Option Nat) : Prop := ∀ p, p < lnp l → match st p with
  | none => cst l f t p = false
  | some c => c < 64
theorem sok0 {l : Land} {f t : Nat} (hl : LOK l) (ht : f < 24) : SOK l f t (st0 l f t) := by
  intro p hp
  unfold st0
  by_cases h : cst l f t p = true
  · rw [if_pos h]; exact hl.2.2.2.2.2.2.1 p f hp ht
  · rw [if_neg h]; simpa using h
theorem sokS {l : Land} {f t p c : Nat} {st : Nat → Option Nat} (h : SOK l f t st) (hc : c < 64) : SOK l f t (stS st p c) := by
  intro q hq
  unfold stS
  by_cases e : q = p
  · rw [if_pos e]; exact hc
  · rw [if_neg e]; exact h q hq
theorem atS0 {l : Land} {f t p h : Nat} (hh : h < 24) : atS l f t (st0 l f t) (p * 24 + h) = lplace l (p * 24 + h) := by
  unfold atS st0
  rw [show (p * 24 + h) / 24 = p by omega, show (p * 24 + h) % 24 = h by omega]
  by_cases hc : cst l f t p = true
  · rw [if_pos hc]
    simp only
    split
    · rename_i q; exact (cst_iff.mp hc h q.1 q.2).symm
    · rfl
  · rw [if_neg hc]
theorem atS_put {l : Land} {f t p c : Nat} {st : Nat → Option Nat} {q h : Nat} (hp : p < 31) (hh : h < 24) : putA (2 ^ p) f t c (atS l f t st) (q * 24 + h) = atS l f t (stS st p c) (q * 24 + h) := by
  unfold putA atS stS
  rw [show (q * 24 + h) / 24 = q by omega, show (q * 24 + h) % 24 = h by omega, Nat.testBit_two_pow]
  by_cases e : q = p
  · subst e
    simp only [decide_true, true_and, if_true]
    split
    · rfl
    · rename_i hn
      cases st q with
      | none => rfl
      | some c' => simp only [if_neg hn]
  · rw [if_neg (fun z => e (of_decide_eq_true z.1).symm), if_neg e]
