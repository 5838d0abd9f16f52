/-! memory: what stays, what changes -/
def Fr (L : List Nat) (M M' : Mem) : Prop := (∀ k, k ∉ L → M'.1 k = M.1 k) ∧ M'.2 = M.2
theorem Fr.rfl {L : List Nat} {M : Mem} : Fr L M M := ⟨fun _ _ => Eq.refl _, Eq.refl _⟩
theorem Fr.trans {L : List Nat} {M M1 M2 : Mem} (h : Fr L M M1) (h2 : Fr L M1 M2) : Fr L M M2 := ⟨fun k hk => (h2.1 k hk).trans (h.1 k hk), h2.2.trans h.2⟩
theorem Fr.mono {L L' : List Nat} {M M1 : Mem} (h : Fr L M M1) (hs : ∀ k ∈ L, k ∈ L') : Fr L' M M1 := ⟨fun k hk => h.1 k (fun q => hk (hs k q)), h.2⟩
theorem fr_si {L : List Nat} {M : Mem} {k j : Nat} {v : Int32} (h : k ∈ L) : Fr L M (si M k j v) := ⟨fun q hq => si_ne M j v (fun e => hq (e ▸ h)), Eq.refl _⟩
theorem fr_sa {L : List Nat} {M : Mem} {k : Nat} {f : Nat → Int32} (h : k ∈ L) : Fr L M (sa M k f) := ⟨fun q hq => sa_ne M f (fun e => hq (e ▸ h)), Eq.refl _⟩
theorem Fr.put {L : List Nat} {M M1 : Mem} (h1 : Fr L M M1) (k j : Nat) (v : Int32) (h : k ∈ L) : Fr L M (si M1 k j v) := h1.trans (fr_si h)
theorem Fr.arr {L : List Nat} {M M1 : Mem} (h1 : Fr L M M1) (k : Nat) (f : Nat → Int32) (h : k ∈ L) : Fr L M (sa M1 k f) := h1.trans (fr_sa h)
/-! conditions over numbers -/
theorem br_le {a b : Nat} {A B : Prop} (ha : a < 2 ^ 31) (hb : b < 2 ^ 31) (f : a ≤ b → A) (g : b < a → B) : (nI a ≤ nI b → A) ∧ (¬ nI a ≤ nI b → B) := by
  rw [nI_leI ha hb]
  exact ⟨f, fun h => g (by omega)⟩
theorem br_lt {a b : Nat} {A B : Prop} (ha : a < 2 ^ 31) (hb : b < 2 ^ 31) (f : a < b → A) (g : b ≤ a → B) : (nI a < nI b → A) ∧ (¬ nI a < nI b → B) := by
  rw [nI_ltI ha hb]
  exact ⟨f, fun h => g (by omega)⟩
theorem br_eq {a b : Nat} {A B : Prop} (ha : a < 2 ^ 31) (hb : b < 2 ^ 31) (f : a = b → A) (g : a ≠ b → B) : (nI a = nI b → A) ∧ (¬ nI a = nI b → B) := by
  rw [nI_eq ha hb]
  exact ⟨f, g⟩
theorem br_ne {a b : Nat} {A B : Prop} (ha : a < 2 ^ 31) (hb : b < 2 ^ 31) (f : a ≠ b → A) (g : a = b → B) : (¬ nI a = nI b → A) ∧ (nI a = nI b → B) := by
  rw [nI_eq ha hb]
  exact ⟨f, g⟩
theorem ni_m1 {n : Nat} (h : n < 2 ^ 31) : ¬ nI n = -1 := by
  rw [fa_eq, nI_toInt h, show (-1 : Int32).toInt = -1 from rfl]; omega
theorem ni_m1' {n : Nat} (h : n < 2 ^ 31) : ¬ -1 = nI n := fun e => ni_m1 h e.symm
theorem ni_nneg {n : Nat} (h : n < 2 ^ 31) : ¬ nI n < 0 := nI_pos h
theorem ni_inj {a b : Nat} (ha : a < 2 ^ 31) (hb : b < 2 ^ 31) (h : nI a = nI b) : a = b := (nI_eq ha hb).mp h
/-- a for loop: the invariant I, from i0 to e -/
theorem for_loop {σ : Type} (W : Nat → Nat → σ → Prop) (I : Nat → σ → Prop) (e i0 : Nat) (s : σ) (hi : i0 ≤ e) (h0 : I i0 s) (hx : ∀ n s, I e s → W (n + 1) e s) (hs : ∀ n i s, i0 ≤ i → i < e → I i s → (∀ s', I (i + 1) s' → W n (i + 1) s') → W (n + 1) i s) : ∃ n, W n i0 s :=
  pk_loop W (fun i s => i0 ≤ i ∧ I i s) e i0 s hi ⟨Nat.le_refl _, h0⟩ (fun n s h => hx n s h.2) (fun n i s h h2 k => hs n i s h2.1 h h2.2 (fun s' h3 => k s' ⟨by omega, h3⟩))
theorem up_s {f : Nat → Int32} {k : Nat} {x : Int32} : upd f k x k = x := if_pos rfl
theorem up_n {f : Nat → Int32} {k j : Nat} {x : Int32} (h : j ≠ k) : upd f k x j = f j := if_neg h
/-- sums of Int32 -/
def sI (f : Nat → Int32) : Nat → Int32
  | 0 => 0
  | n + 1 => sI f n + f n
theorem sI_succ (f : Nat → Int32) (n : Nat) : sI f (n + 1) = sI f n + f n := rfl
theorem sI_cong {f g : Nat → Int32} : ∀ {n : Nat}, (∀ k, k < n → f k = g k) → sI f n = sI g n
  | 0, _ => rfl
  | n + 1, h => by rw [sI_succ, sI_succ, sI_cong (fun k hk => h k (by omega)), h n (by omega)]
theorem sI_add (f g : Nat → Int32) : ∀ n, sI (fun k => f k + g k) n = sI f n + sI g n
  | 0 => rfl
  | n + 1 => by
    rw [sI_succ, sI_succ, sI_succ, sI_add f g n]
    rw [Int32.add_assoc, Int32.add_assoc, ← Int32.add_assoc (sI g n), Int32.add_comm (sI g n) (f n), Int32.add_assoc (f n)]
theorem sI_zero : ∀ n, sI (fun _ => 0) n = 0
  | 0 => rfl
  | n + 1 => by rw [sI_succ, sI_zero n]; rfl
theorem sI_swap (f : Nat → Nat → Int32) (m : Nat) : ∀ n, sI (fun i => sI (fun j => f i j) m) n = sI (fun j => sI (fun i => f i j) n) m
  | 0 => (sI_zero m).symm
  | n + 1 => by rw [sI_succ, sI_swap f m n, ← sI_add]; rfl
theorem sI_mul (c : Int32) (f : Nat → Int32) : ∀ n, sI (fun k => c * f k) n = c * sI f n
  | 0 => (Int32.mul_zero).symm
  | n + 1 => by rw [sI_succ, sI_mul c f n, sI_succ, Int32.mul_add]
theorem sI_neg (f : Nat → Int32) : ∀ n, sI (fun k => - f k) n = - sI f n
  | 0 => (show (0 : Int32) = -0 by decide)
  | n + 1 => by rw [sI_succ, sI_neg f n, sI_succ, Int32.neg_add, Int32.sub_eq_add_neg]
theorem sI_sub (f g : Nat → Int32) (n : Nat) : sI (fun k => f k - g k) n = sI f n - sI g n := by
  rw [Int32.sub_eq_add_neg, ← sI_neg, ← sI_add]
  exact sI_cong (fun k _ => Int32.sub_eq_add_neg _ _)
theorem sI_split (f : Nat → Int32) (m : Nat) : ∀ n, sI f (m + n) = sI f m + sI (fun k => f (m + k)) n
  | 0 => (Int32.add_zero _).symm
  | n + 1 => by rw [← Nat.add_assoc, sI_succ, sI_split f m n, sI_succ, Int32.add_assoc]
theorem sI_nI (f : Nat → Nat) : ∀ n, sI (fun k => nI (f k)) n = nI (fb_sm f n)
  | 0 => rfl
  | n + 1 => by rw [sI_succ, sI_nI f n, fb_sm_succ, nI_add]
/-- one term only -/
theorem sI_one {f : Nat → Int32} {j : Nat} : ∀ {n : Nat}, j < n → (∀ k, k < n → k ≠ j → f k = 0) → sI f n = f j
  | 0, h, _ => absurd h (Nat.not_lt_zero j)
  | n + 1, h, hz => by
    rw [sI_succ]
    by_cases e : j = n
    · subst e
      rw [sI_cong (g := fun _ => 0) (fun k hk => hz k (by omega) (by omega)), sI_zero, Int32.zero_add]
    · rw [sI_one (by omega) (fun k hk hne => hz k (by omega) hne), hz n (by omega) (Ne.symm e), Int32.add_zero]
