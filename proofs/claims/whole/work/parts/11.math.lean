/-! the hills as a mathematical value -/
abbrev Land : Type := (Nat × Nat × Nat × Nat × Nat) × (Nat → Nat) × (Nat → Nat) × (Nat → Nat) × (Nat → Nat) × List Int32 × List Int32
def lwide (l : Land) : Nat := l.1.1
def ldeep (l : Land) : Nat := l.1.2.1
def lnp (l : Land) : Nat := l.1.2.2.1
def lnb (l : Land) : Nat := l.1.2.2.2.1
def lhear (l : Land) : Nat := l.1.2.2.2.2
def lkind (l : Land) : Nat → Nat := l.2.1
def lpurse (l : Land) : Nat → Nat := l.2.2.1
def lplace (l : Land) : Nat → Nat := l.2.2.2.1
def lbush (l : Land) : Nat → Nat := l.2.2.2.2.1
def lowe (l : Land) : List Int32 := l.2.2.2.2.2.1
def lfog (l : Land) : List Int32 := l.2.2.2.2.2.2
abbrev Deeds : Type := (Nat → Nat) × Nat × (Nat → Int32)
def dtimes (d : Deeds) : Nat → Nat := d.1
def dshot (d : Deeds) : Nat := d.2.1
def ddebt (d : Deeds) : Nat → Int32 := d.2.2
/-! laws: steps on a stack -/
def laidI (i h a b t : Int32) : Int32 := if i = -1 then h else if i = -2 then a else if i = -3 then b else if i = -4 then t else i
def joinI (i x y : Int32) : Int32 := if i = -6 then x * y else if i = -7 then x + y else if i = -8 then x - y else if i = -9 then (if x < y then 1 else 0) else if i = -10 then (if x = y then 1 else 0) else if i = -11 then (if x = 0 then 0 else if y = 0 then 0 else 1) else (if x = 0 then (if y = 0 then 0 else 1) else 1)
def stepL (h a b t : Int32) (s : List Int32) (i : Int32) : List Int32 :=
  if -5 < i then laidI i h a b t :: s else if i = -5 then (match s with
    | x :: r => (if x = 0 then 1 else 0) :: r
    | [] => []) else match s with
    | y :: x :: r => joinI i x y :: r
    | s => s
def evL (c : List Int32) (h a b t : Int32) : Int32 := (c.foldl (stepL h a b t) []).headD 0
/-- enough operands at every step, never more than 32 values, one at the end -/
def wfc : Nat → List Int32 → Bool
  | h, [] => h == 1
  | h, i :: c => if -5 < i then decide (h < 32) && wfc (h + 1) c else if i = -5 then decide (1 ≤ h) && wfc h c else decide (2 ≤ h) && wfc (h - 1) c
def clip (v : Int32) (hi : Nat) : Nat := if v < 0 then 0 else if nI hi < v then hi else v.toNatClampNeg
/-! distances, who is nearest, pence -/
def ab (a b : Nat) : Nat := (a - b) + (b - a)
def dst (a b : Nat) : Nat := ab (a % 8) (b % 8) + ab (a / 8) (b / 8)
def fogv (l : Land) (h c : Nat) : Nat := clip (evL (lfog l) (nI h) (nI (c % 8)) (nI (c / 8)) 0) 14
def ratev (l : Land) (h far near t : Nat) : Nat := clip (evL (lowe l) (nI h) (nI far) (nI near) (nI t)) 99
def nrs (d : Nat → Nat) (p g0 : Nat) : Nat → Option Nat × Nat
  | 0 => (none, g0)
  | e + 1 => if e ≠ p ∧ d e < (nrs d p g0 e).2 then (some e, d e) else nrs d p g0 e
def near (l : Land) (at_ : Nat → Nat) (h p : Nat) : Option Nat × Nat := nrs (fun e => dst (at_ (p * 24 + h)) (at_ (e * 24 + h))) p (fogv l h (at_ (p * 24 + h)) + 1) (lnp l)
def hrs (l : Land) (at_ : Nat → Nat) (b h p : Nat) : Bool := decide (dst (at_ (p * 24 + h)) (lbush l b) ≤ lhear l) && decide (lkind l p ≠ 1)
def cred (l : Land) (at_ : Nat → Nat) (b h p : Nat) : Option Nat := if hrs l at_ b h p then (near l at_ h p).1 else none
def kindp (k g w : Nat) : Nat := if k = 2 then w / 2 else if k = 3 then w * 2 else if k = 4 then (if 3 ≤ g then 0 else w) else w
def pnc (l : Land) (at_ : Nat → Nat) (b h p t : Nat) : Nat := if t = 0 then 0 else match cred l at_ b h p with
  | none => 0
  | some _ => kindp (lkind l p) (near l at_ h p).2 (ratev l h (dst (at_ (p * 24 + h)) (lbush l b)) (near l at_ h p).2 t * t)
def tms (ds : Deeds) (silent b h : Nat) : Nat := if silent.testBit b then 0 else dtimes ds (b * 24 + h)
def bitI (s e : Nat) : Int32 := if s.testBit e then 1 else 0
def shr (set : Nat) (c : Option Nat) (p : Nat) : Int32 := match c with
  | none => 0
  | some e => bitI set e - bitI set p
def gainH (l : Land) (at_ : Nat → Nat) (ds : Deeds) (set silent h : Nat) : Int32 := sI (fun b => sI (fun p => shr set (near l at_ h p).1 p * nI (pnc l at_ b h p (tms ds silent b h))) (lnp l)) (lnb l)
def gain (l : Land) (at_ : Nat → Nat) (ds : Deeds) (set silent f n : Nat) : Int32 := sI (fun k => gainH l at_ ds set silent (f + k)) n
def owesN (l : Land) (at_ : Nat → Nat) (ds : Deeds) (silent p q : Nat) : Nat := fb_sm (fun b => fb_sm (fun h => if cred l at_ b h p = some q then pnc l at_ b h p (tms ds silent b h) else 0) 24) (lnb l)
def oI (o : Option Nat) : Int32 := match o with
  | none => -1
  | some e => nI e
/-- what holds of hills -/
def LOK (l : Land) : Prop := (2 ≤ lwide l ∧ lwide l ≤ 8) ∧ (2 ≤ ldeep l ∧ ldeep l ≤ 8) ∧ lnp l ≤ 6 ∧ lnb l ≤ 5 ∧ lhear l ≤ 14 ∧ (∀ p, p < lnp l → lkind l p ≤ 4 ∧ lpurse l p ≤ 9999) ∧ (∀ p h, p < lnp l → h < 24 → lplace l (p * 24 + h) < 64) ∧ (∀ b, b < lnb l → lbush l b < 64) ∧ wfc 0 (lowe l) = true ∧ wfc 0 (lfog l) = true
def DOK (l : Land) (d : Deeds) : Prop := (∀ i, i < 120 → dtimes d i ≤ 9) ∧ dshot d < 2 ^ lnb l ∧ (∀ p, p < 6 → ddebt d p = -1 ∨ ∃ n, n ≤ 9999 ∧ ddebt d p = nI n)
theorem clip_le (v : Int32) (hi : Nat) : clip v hi ≤ hi ∨ hi ≥ 2 ^ 31 := by
  by_cases hh : hi < 2 ^ 31
  · left
    unfold clip
    split
    · exact Nat.zero_le _
    · split
      · exact Nat.le_refl _
      · rename_i h1 h2
        obtain ⟨j, hj, rfl⟩ := nI_of h1
        rw [nI_clamp hj]
        rw [nI_ltI hh hj] at h2
        omega
  · right; omega
theorem fogv_le (l : Land) (h c : Nat) : fogv l h c ≤ 14 := (clip_le _ 14).elim id (fun h => absurd h (by decide))
theorem ratev_le (l : Land) (h a b t : Nat) : ratev l h a b t ≤ 99 := (clip_le _ 99).elim id (fun h => absurd h (by decide))
theorem ab_le {a b n : Nat} (ha : a ≤ n) (hb : b ≤ n) : ab a b ≤ n := by unfold ab; omega
theorem dst_le {a b : Nat} (ha : a < 64) (hb : b < 64) : dst a b ≤ 14 := by
  unfold dst
  have h1 := ab_le (n := 7) (a := a % 8) (b := b % 8) (by omega) (by omega)
  have h2 := ab_le (n := 7) (a := a / 8) (b := b / 8) (by omega) (by omega)
  omega
theorem nrs_le (d : Nat → Nat) (p g0 : Nat) : ∀ n, (nrs d p g0 n).2 ≤ g0
  | 0 => Nat.le_refl _
  | n + 1 => by
    have ih := nrs_le d p g0 n
    rw [nrs]
    split
    · rename_i h; have := h.2; simp only; omega
    · exact ih
theorem nrs_some (d : Nat → Nat) (p g0 : Nat) : ∀ n e, (nrs d p g0 n).1 = some e → e < n ∧ e ≠ p ∧ (nrs d p g0 n).2 = d e ∧ d e < g0
  | 0, e, h => by simp [nrs] at h
  | n + 1, e, h => by
    have hl := nrs_le d p g0 n
    by_cases hc : n ≠ p ∧ d n < (nrs d p g0 n).2
    · rw [nrs, if_pos hc] at h ⊢
      simp only [Option.some.injEq] at h
      subst h
      exact ⟨by omega, hc.1, rfl, by omega⟩
    · rw [nrs, if_neg hc] at h ⊢
      obtain ⟨h1, h2, h3, h4⟩ := nrs_some d p g0 n e h
      exact ⟨by omega, h2, h3, h4⟩
theorem near_le (l : Land) (at_ : Nat → Nat) (h p : Nat) : (near l at_ h p).2 ≤ 15 := Nat.le_trans (nrs_le _ _ _ _) (by have := fogv_le l h (at_ (p * 24 + h)); omega)
theorem near_some {l : Land} {at_ : Nat → Nat} {h p e : Nat} (hs : (near l at_ h p).1 = some e) : e < lnp l ∧ e ≠ p ∧ (near l at_ h p).2 = dst (at_ (p * 24 + h)) (at_ (e * 24 + h)) ∧ (near l at_ h p).2 ≤ 14 := by
  obtain ⟨h1, h2, h3, h4⟩ := nrs_some _ _ _ _ _ hs
  refine ⟨h1, h2, h3, ?_⟩
  have := fogv_le l h (at_ (p * 24 + h))
  have e : (near l at_ h p).2 = _ := h3
  rw [e]
  omega
theorem kindp_le (k g w : Nat) : kindp k g w ≤ w * 2 := by unfold kindp; (repeat' split) <;> omega
theorem pnc_le {l : Land} {at_ : Nat → Nat} {b h p t : Nat} (ht : t ≤ 9) : pnc l at_ b h p t ≤ 1782 := by
  unfold pnc
  split
  · omega
  · split
    · omega
    · refine Nat.le_trans (kindp_le _ _ _) ?_
      have h1 := ratev_le l h (dst (at_ (p * 24 + h)) (lbush l b)) (near l at_ h p).2 t
      have h2 : ratev l h (dst (at_ (p * 24 + h)) (lbush l b)) (near l at_ h p).2 t * t ≤ 99 * 9 := Nat.mul_le_mul h1 ht
      omega
