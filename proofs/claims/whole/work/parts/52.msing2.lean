/-! all rows of songs in the reference -/
def sgL (σ : St) (h m b : Nat) (pre : List Nat) : List (List Nat) := (enu (mxS (sD σ)) m b).filter (fun s => rgt (prM (sL σ) (sD σ) h) (lnp (sL σ)) 0 (dlD (sD σ)) (pre ++ s))
def sgT (σ : St) (h m b : Nat) (pre : List Nat) (n : Nat) : List (List Nat) := (List.range n).flatMap (fun t => (sgL σ h m (b + 1) (pre ++ [t])).map (fun s => t :: s))
theorem sgT_succ {σ : St} {h m b n : Nat} {pre : List Nat} : sgT σ h m b pre (n + 1) = sgT σ h m b pre n ++ (sgL σ h m (b + 1) (pre ++ [n])).map (fun s => n :: s) := by
  unfold sgT
  rw [List.range_succ, List.flatMap_append]
  simp
theorem sgL_succ {σ : St} {h m b : Nat} {pre : List Nat} : sgL σ h (m + 1) b pre = sgT σ h m b pre (mxS (sD σ) b + 1) := by
  unfold sgL sgT
  rw [enu, List.filter_flatMap]
  congr 1
  funext t
  rw [List.filter_map]
  congr 1
  unfold sgL
  refine List.filter_congr (fun s _ => ?_)
  show rgt _ _ _ _ (pre ++ t :: s) = rgt _ _ _ _ (pre ++ [t] ++ s)
  rw [List.append_assoc]; rfl
theorem enu_len {mx : Nat → Nat} (hm : ∀ b, mx b ≤ 5) : ∀ n b, (enu mx n b).length ≤ 6 ^ n
  | 0, _ => Nat.le_refl _
  | n + 1, b => by
    have key : ∀ k, ((List.range k).flatMap (fun t => (enu mx n (b + 1)).map (fun s => t :: s))).length ≤ k * 6 ^ n := by
      intro k
      induction k with
      | zero => simp
      | succ k ih =>
        rw [List.range_succ, List.flatMap_append, List.length_append, Nat.succ_mul]
        have := enu_len hm n (b + 1)
        simp only [List.flatMap_cons, List.flatMap_nil, List.append_nil, List.length_map]
        omega
    have h1 := key (mx b + 1)
    have h2 : (mx b + 1) * 6 ^ n ≤ 6 * 6 ^ n := Nat.mul_le_mul_right _ (by have := hm b; omega)
    rw [Nat.pow_succ, Nat.mul_comm]
    exact Nat.le_trans h1 h2
theorem psm_same {l : Land} {ds : Deeds} {h p : Nat} : ∀ n b s, s ∈ enu (mxS ds) n b → psm (prM l ds h) p b s = psm (prH l h) p b s
  | 0, _, s, hs => by
    rw [enu, List.mem_singleton] at hs
    subst hs; rfl
  | n + 1, b, s, hs => by
    rw [enu, List.mem_flatMap] at hs
    obtain ⟨t, ht, hs⟩ := hs
    rw [List.mem_map] at hs
    obtain ⟨r, hr, rfl⟩ := hs
    rw [List.mem_range] at ht
    rw [psm, psm, psm_same n (b + 1) r hr]
    congr 1
    unfold prM
    by_cases c : (dshot ds).testBit b = true
    · unfold mxS at ht
      rw [if_pos c] at ht ⊢
      have : t = 0 := by omega
      subst this
      unfold prH pnc
      rw [if_pos rfl]
    · rw [if_neg c]
theorem sgL_vrD {σ : St} {h : Nat} : sgL σ h (lnb (sL σ)) 0 [] = vrD (sL σ) (sD σ) h := by
  unfold sgL vrD
  rw [vrw_filter]
  refine List.filter_congr (fun s hs => ?_)
  show rgt _ _ _ _ ([] ++ s) = _
  rw [List.nil_append, Bool.eq_iff_iff, rgt_iff, rgt_iff]
  constructor
  · intro g p d hp hd
    rw [← psm_same (ds := sD σ) _ _ s hs]; exact g p d hp hd
  · intro g p d hp hd
    rw [psm_same _ _ s hs]; exact g p d hp hd
