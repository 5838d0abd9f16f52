/-! balances out of debts, and gains -/
theorem shr_mul {l : Land} {at_ : Nat → Nat} {b h p set t : Nat} : shr set (near l at_ h p).1 p * nI (pnc l at_ b h p t) = shr set (cred l at_ b h p) p * nI (pnc l at_ b h p t) := by
  by_cases hc : hrs l at_ b h p = true
  · have : cred l at_ b h p = (near l at_ h p).1 := by unfold cred; rw [if_pos hc]
    rw [this]
  · have hn : cred l at_ b h p = none := by unfold cred; rw [if_neg hc]
    have hz : pnc l at_ b h p t = 0 := by unfold pnc; rw [hn]; simp
    rw [hz]
    show _ * 0 = _ * 0
    rw [Int32.mul_zero, Int32.mul_zero]
theorem cred_lt {l : Land} {at_ : Nat → Nat} {b h p q : Nat} (hc : cred l at_ b h p = some q) : q < lnp l ∧ q ≠ p := by
  obtain ⟨s1, s2, -⟩ := near_some (cred_some hc)
  exact ⟨s1, s2⟩
theorem bit_pow {p q : Nat} : bitI (2 ^ p) q = if q = p then 1 else 0 := by
  unfold bitI
  rw [Nat.testBit_two_pow]
  by_cases c : q = p
  · rw [if_pos c, if_pos (by rw [decide_eq_true c.symm])]
  · rw [if_neg c, if_neg (by rw [decide_eq_false (fun z => c z.symm)]; decide)]
/-- one call, one debtor: what it brings to p -/
theorem one_call {l : Land} {at_ : Nat → Nat} {b h q p t : Nat} (hq : q < lnp l) (hp : p < lnp l) : nI (adC l at_ b h t q p) - (if q = p then nI (pnc l at_ b h q t) else 0) = shr (2 ^ p) (cred l at_ b h q) q * nI (pnc l at_ b h q t) := by
  unfold adC
  rw [if_pos hq]
  cases hc : cred l at_ b h q with
  | none =>
    have hz : pnc l at_ b h q t = 0 := by unfold pnc; rw [hc]; simp
    rw [hz]
    show nI (if none = some p then 0 else 0) - (if q = p then nI 0 else 0) = 0 * nI 0
    rw [ite_self, show (if q = p then nI 0 else (0 : Int32)) = 0 by split <;> rfl]; rfl
  | some e =>
    obtain ⟨-, hne⟩ := cred_lt hc
    show _ = (bitI (2 ^ p) e - bitI (2 ^ p) q) * _
    rw [bit_pow, bit_pow]
    generalize pnc l at_ b h q t = v
    by_cases c1 : e = p
    · subst c1
      rw [if_pos rfl, if_neg (Ne.symm hne), if_pos rfl, if_neg (Ne.symm hne)]
      show nI v - 0 = (1 - 0) * nI v
      rw [Int32.sub_zero, Int32.sub_zero, Int32.one_mul]
    · rw [if_neg (fun z => c1 (Option.some.inj z)), if_neg c1]
      by_cases c2 : q = p
      · rw [if_pos c2, if_pos c2]
        show 0 - nI v = (0 - 1) * nI v
        rw [Int32.zero_sub, Int32.zero_sub, Int32.neg_mul, Int32.one_mul]
      · rw [if_neg c2, if_neg c2]
        show (0 : Int32) - 0 = (0 - 0) * nI v
        rw [Int32.sub_zero, Int32.zero_mul]
/-- all that p owes at one call -/
theorem one_debtor {l : Land} {at_ : Nat → Nat} {b h p t : Nat} (hl : LOK l) (hp : p < lnp l) : fb_sm (fun e => adC l at_ b h t p e) 6 = pnc l at_ b h p t := by
  have hnp := hl.2.2.1
  unfold adC
  rw [fb_sm_cong (g := fun e => if cred l at_ b h p = some e then pnc l at_ b h p t else 0) (fun e _ => if_pos hp)]
  cases hc : cred l at_ b h p with
  | none =>
    have hz : pnc l at_ b h p t = 0 := by unfold pnc; rw [hc]; simp
    rw [hz, fb_sm_cong (g := fun _ => 0) (fun e _ => ite_self _), fb_sm_const]
  | some e =>
    have he := (cred_lt hc).1
    have h1 := fb_sm_upd (fun _ => 0) (pnc l at_ b h p t) (i := e) (n := 6) (by omega)
    rw [fb_sm_const, Nat.mul_zero, Nat.zero_add, Nat.add_zero] at h1
    refine Eq.trans (fb_sm_cong (fun k _ => ?_)) h1
    by_cases c : k = e
    · rw [if_pos c, if_pos (by rw [c])]
    · rw [if_neg c, if_neg (fun z => c (Option.some.inj z).symm)]
theorem sI_adC {l : Land} {at_ : Nat → Nat} {b h p t : Nat} (hl : LOK l) (hp : p < lnp l) : sI (fun e => nI (adC l at_ b h t e p) - nI (adC l at_ b h t p e)) 6 = sI (fun q => shr (2 ^ p) (near l at_ h q).1 q * nI (pnc l at_ b h q t)) (lnp l) := by
  have hnp := hl.2.2.1
  rw [sI_sub, sI_nI (fun e => adC l at_ b h t p e), one_debtor hl hp]
  have h6 : sI (fun e => nI (adC l at_ b h t e p)) 6 = sI (fun e => nI (adC l at_ b h t e p)) (lnp l) := by
    have := sI_split (fun e => nI (adC l at_ b h t e p)) (lnp l) (6 - lnp l)
    rw [show lnp l + (6 - lnp l) = 6 by omega] at this
    have e7 : sI (fun k => nI (adC l at_ b h t (lnp l + k) p)) (6 - lnp l) = 0 := by
      rw [sI_cong (g := fun _ => 0) (fun k _ => ?_), sI_zero]
      unfold adC
      rw [if_neg (by omega)]; rfl
    rw [this, e7, Int32.add_zero]
  rw [h6]
  have h7 : nI (pnc l at_ b h p t) = sI (fun q => if q = p then nI (pnc l at_ b h q t) else 0) (lnp l) := by
    rw [sI_one hp (fun k _ hk => if_neg hk), if_pos rfl]
  rw [h7, ← sI_sub]
  exact sI_cong (fun q hq => by rw [one_call hq hp, shr_mul])
theorem bal_gain {l : Land} {at_ : Nat → Nat} {ds : Deeds} {sil p : Nat} (hl : LOK l) (hp : p < lnp l) : sI (fun e => nI (owF l at_ ds sil e p) - nI (owF l at_ ds sil p e)) 6 = gain l at_ ds (2 ^ p) sil 0 24 := by
  have h1 : ∀ a c, nI (owF l at_ ds sil a c) = sI (fun b => sI (fun h => nI (adC l at_ b h (tms ds sil b h) a c)) 24) (lnb l) := by
    intro a c
    unfold owF
    rw [← sI_nI]
    exact sI_cong (fun b _ => (sI_nI _ _).symm)
  have h2 : sI (fun e => nI (owF l at_ ds sil e p) - nI (owF l at_ ds sil p e)) 6 = sI (fun e => sI (fun b => sI (fun h => nI (adC l at_ b h (tms ds sil b h) e p) - nI (adC l at_ b h (tms ds sil b h) p e)) 24) (lnb l)) 6 := by
    refine sI_cong (fun e _ => ?_)
    rw [h1, h1, ← sI_sub]
    exact sI_cong (fun b _ => (sI_sub _ _ _).symm)
  rw [h2, sI_swap]
  unfold gain
  have h3 : ∀ b, sI (fun e => sI (fun h => nI (adC l at_ b h (tms ds sil b h) e p) - nI (adC l at_ b h (tms ds sil b h) p e)) 24) 6 = sI (fun h => sI (fun q => shr (2 ^ p) (near l at_ h q).1 q * nI (pnc l at_ b h q (tms ds sil b h))) (lnp l)) 24 := by
    intro b
    rw [sI_swap]
    exact sI_cong (fun h _ => sI_adC hl hp)
  rw [sI_cong (fun b _ => h3 b), sI_swap]
  unfold gainH
  exact sI_cong (fun h _ => by rw [Nat.zero_add])
theorem m_balance {l : Land} {at_ : Nat → Nat} {ds : Deeds} {sil p : Nat} {M : Mem} {Q : Int32 → Mem → Prop} (hl : LOK l) (hS : MOw (owF l at_ ds sil) M) (hp : p < lnp l) (k : Q (gain l at_ ds (2 ^ p) sil 0 24) M) : w_Mo_balanceOf (nI p) M Q := by
  have hnp := hl.2.2.1
  refine m_balanceOf hS (by omega) ?_
  rw [bal_gain hl hp]; exact k
