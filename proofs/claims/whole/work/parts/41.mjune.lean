/-! the reference's first of June -/
theorem owF_diag {l : Land} {at_ : Nat → Nat} {ds : Deeds} {sil p : Nat} : owF l at_ ds sil p p = 0 := by
  unfold owF
  rw [fb_sm_cong (g := fun _ => 0) (fun b _ => ?_), fb_sm_const, Nat.mul_zero]
  rw [fb_sm_cong (g := fun _ => 0) (fun h _ => ?_), fb_sm_const, Nat.mul_zero]
  unfold adC
  split
  · rw [if_neg (fun z => (cred_lt z).2 rfl)]
  · rfl
def ntI (S : Nat → Nat → Nat) (p0 e0 p q : Nat) : Nat := if (p < p0 ∧ q < p0) ∨ (p = p0 ∧ q < e0) ∨ (q = p0 ∧ p < e0) then S p q - S q p else S p q
theorem m_netI {l : Land} {S : Nat → Nat → Nat} {p0 : Nat} {M : Mem} {K Q : Mem → Prop} (hS6 : ∀ p q, S p q < 2 ^ 31) (hp0 : p0 < 6) (h : MOw (ntI S p0 0) M) (k : ∀ M', Fr [c_mo_owes] M M' → MOw (ntI S p0 p0) M' → K M') : ∃ n, w_Mo_findJune_L40 (nI p0) K Q n 0 M := by
  refine for_loop (fun n i (M1 : Mem) => w_Mo_findJune_L40 (nI p0) K Q n (nI i) M1) (fun i M1 => Fr [c_mo_owes] M M1 ∧ MOw (ntI S p0 i) M1) p0 0 M (Nat.zero_le _) ⟨Fr.rfl, h⟩ ?_ ?_
  · intro n M1 ⟨hF, hs⟩
    exact br_le (by omega) (by omega) (fun _ => k M1 hF hs) (fun q => absurd q (by omega))
  · intro n i M1 _ hi ⟨hF, hs⟩ kk
    have ea : 6 * nI p0 + nI i = nI (p0 * 6 + i) := by simp only [fa_lit, pk_mul, nI_add, Nat.mul_comm]
    have eb : 6 * nI i + nI p0 = nI (i * 6 + p0) := by simp only [fa_lit, pk_mul, nI_add, Nat.mul_comm]
    have s1 := hs p0 i (by omega) (by omega)
    have s2 := hs i p0 (by omega) (by omega)
    have n1 : ntI S p0 i p0 i = S p0 i := by unfold ntI; rw [if_neg (by omega)]
    have n2 : ntI S p0 i i p0 = S i p0 := by unfold ntI; rw [if_neg (by omega)]
    rw [n1] at s1
    rw [n2] at s2
    have v1 : vp_in (nI (p0 * 6 + i)) 36 := vp_in_nI (by omega) (by decide)
    have v2 : vp_in (nI (i * 6 + p0)) 36 := vp_in_nI (by omega) (by decide)
    have b1 := hS6 p0 i
    have b2 := hS6 i p0
    have go : ∀ m, m ≤ S p0 i → m ≤ S i p0 → S p0 i - m = S p0 i - S i p0 → S i p0 - m = S i p0 - S p0 i → w_Mo_findJune_j95 (fun l2 M => w_Mo_findJune_L40 (nI p0) K Q n l2 M) K (nI p0) (nI i) (nI m) M1 Q := by
      intro m m1 m2 m3 m4
      unfold w_Mo_findJune_j95
      rw [ea, eb, nI_clamp (by omega), nI_clamp (by omega), nI_1, si_same, up_n (by omega), s1, s2, pk_sub m1, pk_sub m2, m3, m4]
      refine ⟨v1, v1, v2, v2, kk _ ⟨(hF.put _ _ _ (by decide)).put _ _ _ (by decide), fun p q hp hq => ?_⟩⟩
      rw [si_same]
      by_cases c : p * 6 + q = i * 6 + p0
      · have c1 : p = i := by omega
        have c2 : q = p0 := by omega
        subst c1; subst c2
        rw [up_s]
        unfold ntI
        rw [if_pos (by omega)]
      · rw [up_n c, si_same]
        by_cases c' : p * 6 + q = p0 * 6 + i
        · have c1 : p = p0 := by omega
          have c2 : q = i := by omega
          subst c1; subst c2
          rw [up_s]
          unfold ntI
          rw [if_pos (by omega)]
        · rw [up_n c', hs p q hp hq]
          unfold ntI
          by_cases c3 : (p < p0 ∧ q < p0) ∨ (p = p0 ∧ q < i) ∨ (q = p0 ∧ p < i)
          · rw [if_pos c3, if_pos (by omega)]
          · rw [if_neg c3, if_neg (by omega)]
    unfold w_Mo_findJune_L40
    rw [ea, eb, nI_clamp (by omega), nI_clamp (by omega), s1, s2]
    refine br_le (by omega) (by omega) (fun q => absurd q (by omega)) (fun _ => ⟨v1, v2, br_le b2 b1 (fun q => ⟨v2, go _ q (Nat.le_refl _) rfl (by omega)⟩) (fun q => ⟨v1, go _ (Nat.le_refl _) (by omega) (by omega) rfl⟩)⟩)
def MJX (l : Land) (s : JS) (M : Mem) : Prop := (∀ p, p < lnp l → M.1 c_mo_purse p = nI (s.1 p)) ∧ ∀ p q, p < lnp l → q < lnp l → M.1 c_mo_owes (p * 6 + q) = nI (s.2 (p * 6 + q))
abbrev SMJ : List Nat := [c_mo_purse, c_mo_owes]
theorem m_payL {l : Land} {sb : JS × Bool} {p B : Nat} {M : Mem} {K : Int32 → Mem → Prop} {Q : Mem → Prop} (hl : LOK l) (hL : ML l M) (hJ : MJX l sb.1 M) (hB : JB (lnp l) B sb.1) (hB2 : B < 2 ^ 30) (hp : p < lnp l) (k : ∀ M', Fr SMJ M M' → MJX l (jrow p (lnp l) sb).1 M' → K (b2i (jrow p (lnp l) sb).2) M') : ∃ n, w_Mo_findJune_L158 (nI p) K Q n (b2i sb.2) 0 M := by
  have hnp := hl.2.2.1
  refine for_loop (fun n j (M1 : Mem) => w_Mo_findJune_L158 (nI p) K Q n (b2i (jrow p j sb).2) (nI j) M1) (fun j M1 => Fr SMJ M M1 ∧ MJX l (jrow p j sb).1 M1) (lnp l) 0 M (Nat.zero_le _) ⟨Fr.rfl, hJ⟩ ?_ ?_
  · intro n M1 ⟨hF, hJ1⟩
    unfold w_Mo_findJune_L158
    exact m_persons (hL.fr hF (by decide)).2.1 (br_le (by omega) (by omega) (fun _ => k M1 hF hJ1) (fun q => absurd q (by omega)))
  · intro n j M1 _ hj ⟨hF, hJ1⟩ kk
    have hB1 := (jrow_m hnp hp j sb (by omega) hB).1
    rw [jrow] at kk
    generalize jrow p j sb = s1 at hJ1 hB1 kk ⊢
    unfold w_Mo_findJune_L158
    have ea : 6 * nI p + nI j = nI (p * 6 + j) := by simp only [fa_lit, pk_mul, nI_add, Nat.mul_comm]
    have b1 := hB1 p hp
    have b2 := hB1 j hj
    have b3 := due_TD (s := s1.1) (i := p * 6 + j) (by omega)
    have bx := jx_le (p := p) (q := j) (s := s1.1)
    have v1 : vp_in (nI p) 6 := vp_in_nI (by omega) (by decide)
    have v2 : vp_in (nI j) 6 := vp_in_nI (by omega) (by decide)
    have v3 : vp_in (nI (p * 6 + j)) 36 := vp_in_nI (by omega) (by decide)
    have hp1 := hJ1.1 p hp
    have hd1 := hJ1.2 p j hp hj
    have go : w_Mo_findJune_j206 (fun l1 l3 M => w_Mo_findJune_L158 (nI p) K Q n l1 l3 M) K (b2i s1.2) (nI p) (nI j) (nI (jx p j s1.1)) M1 Q := by
      unfold w_Mo_findJune_j206
      rw [ea, nI_clamp (show p * 6 + j < 2 ^ 31 by omega), nI_clamp (show p < 2 ^ 31 by omega), nI_clamp (show j < 2 ^ 31 by omega), hp1, hd1, nI_1]
      generalize hM2 : si (si M1 c_mo_owes (p * 6 + j) (nI (s1.1.2 (p * 6 + j)) - nI (jx p j s1.1))) c_mo_purse p (nI (s1.1.1 p) - nI (jx p j s1.1)) = M2
      have hin : ∀ t, t < lnp l → M2.1 c_mo_purse t = nI (un s1.1.1 p (s1.1.1 p - jx p j s1.1) t) := by
        intro t ht
        rw [← hM2, si_same]
        by_cases c : t = p
        · subst c; rw [up_s, un_s, pk_sub bx.2]
        · rw [up_n c, un_n c, si_ne _ _ _ (by decide)]; exact hJ1.1 t ht
      rw [hin j hj, nI_add]
      generalize hM3 : si M2 c_mo_purse j (nI (un s1.1.1 p (s1.1.1 p - jx p j s1.1) j + jx p j s1.1)) = M3
      have hF3 : Fr SMJ M M3 := by
        rw [← hM3, ← hM2]; exact ((hF.put _ _ _ (by decide)).put _ _ _ (by decide)).put _ _ _ (by decide)
      have hJ3 : MJX l (jstep p j s1).1 M3 := by
        refine ⟨fun r hr => ?_, fun r t hr ht => ?_⟩
        · have e : (jstep p j s1).1.1 r = un (un s1.1.1 p (s1.1.1 p - jx p j s1.1)) j (un s1.1.1 p (s1.1.1 p - jx p j s1.1) j + jx p j s1.1) r := rfl
          rw [e, ← hM3, si_same]
          by_cases c : r = j
          · subst c; rw [up_s, un_s]
          · rw [up_n c, un_n c]; exact hin r hr
        · have e : (jstep p j s1).1.2 = un s1.1.2 (p * 6 + j) (s1.1.2 (p * 6 + j) - jx p j s1.1) := rfl
          rw [e, ← hM3, si_ne _ _ _ (by decide), ← hM2, si_ne _ _ _ (by decide), si_same]
          by_cases c : r * 6 + t = p * 6 + j
          · rw [c, up_s, un_s, pk_sub bx.1]
          · rw [up_n c, un_n c]; exact hJ1.2 r t hr ht
      have kz := kk M3 ⟨hF3, hJ3⟩
      have e2 : (jstep p j s1).2 = (s1.2 || decide (0 < jx p j s1.1)) := rfl
      rw [e2] at kz
      refine ⟨v3, v3, v1, v1, v2, v2, fun q => ?_, fun q x ex => ?_⟩
      · cases hb : s1.2 with
        | false => rw [hb] at q; exact absurd rfl q
        | true => rw [hb] at kz; exact kz
      · cases hb : s1.2 with
        | true => rw [hb] at q; exact absurd q (by decide)
        | false =>
          rw [hb, Bool.false_or] at kz
          have hle := nI_leI (a := jx p j s1.1) (b := 0) (by omega) (by decide)
          by_cases c : 0 < jx p j s1.1
          · rw [decide_eq_true c] at kz
            have c1 : ¬ nI (jx p j s1.1) ≤ (0 : Int32) := fun z => by have := hle.mp z; omega
            rw [if_neg c1] at ex
            subst ex; exact kz
          · rw [decide_eq_false c] at kz
            have c1 : nI (jx p j s1.1) ≤ (0 : Int32) := hle.mpr (by omega)
            rw [if_pos c1] at ex
            subst ex; exact kz
    refine m_persons (hL.fr hF (by decide)).2.1 ?_
    rw [ea, nI_clamp (show p * 6 + j < 2 ^ 31 by omega), nI_clamp (show p < 2 ^ 31 by omega), hp1, hd1]
    refine br_le (by omega) (by omega) (fun q => absurd q (by omega)) (fun _ => ⟨v3, v1, br_le (by omega) (by omega) (fun q => ⟨v1, ?_⟩) (fun q => ⟨v3, ?_⟩)⟩)
    · have : jx p j s1.1 = s1.1.1 p := by unfold jx; rw [if_neg (by omega)]
      rw [this] at go; exact go
    · have : jx p j s1.1 = s1.1.2 (p * 6 + j) := by unfold jx; rw [if_pos q]
      rw [this] at go; exact go
theorem m_payRound {l : Land} {s : JS} {B : Nat} {M : Mem} {K : Int32 → Mem → Prop} {Q : Mem → Prop} (hl : LOK l) (hL : ML l M) (hJ : MJX l s M) (hB : JB (lnp l) B s) (hB2 : B < 2 ^ 30) (k : ∀ M', Fr SMJ M M' → MJX l (jR (lnp l) s).1 M' → K (b2i (jR (lnp l) s).2) M') : ∃ n, w_Mo_findJune_L148 K Q n 0 0 M := by
  have hnp := hl.2.2.1
  refine for_loop (fun n i (M1 : Mem) => w_Mo_findJune_L148 K Q n (b2i (jall (lnp l) i (s, false)).2) (nI i) M1) (fun i M1 => Fr SMJ M M1 ∧ MJX l (jall (lnp l) i (s, false)).1 M1) (lnp l) 0 M (Nat.zero_le _) ⟨Fr.rfl, hJ⟩ ?_ ?_
  · intro n M1 ⟨hF, hJ1⟩
    unfold w_Mo_findJune_L148
    exact m_persons (hL.fr hF (by decide)).2.1 (br_le (by omega) (by omega) (fun _ => k M1 hF hJ1) (fun q => absurd q (by omega)))
  · intro n i M1 _ hi ⟨hF, hJ1⟩ kk
    have hB1 := (jall_m hnp i (s, false) (by omega) hB).1
    unfold w_Mo_findJune_L148
    refine m_persons (hL.fr hF (by decide)).2.1 ?_
    rw [nI_1]
    exact br_le (by omega) (by omega) (fun q => absurd q (by omega)) (fun _ => m_payL hl (hL.fr hF (by decide)) hJ1 hB1 hB2 hi (fun M2 hF2 hJ2 => kk M2 ⟨hF.trans hF2, hJ2⟩))
theorem m_payLoop {l : Land} {B : Nat} {K : Mem → Prop} {Q : Mem → Prop} (hl : LOK l) (hB2 : B < 2 ^ 30) : ∀ (m n : Nat) (s : JS) (M : Mem), ML l M → MJX l s M → JB (lnp l) B s → TD s < m → m < n → (∀ M', Fr SMJ M M' → MJX l (jgo (lnp l) m s) M' → K M') → w_Mo_findJune_L140 K Q n 1 M
  | 0, _, _, _, _, _, _, h, _, _ => absurd h (Nat.not_lt_zero _)
  | m + 1, 0, _, _, _, _, _, _, h, _ => absurd h (Nat.not_lt_zero _)
  | m + 1, n + 1, s, M, hL, hJ, hB, ht, hn, k => by
    have hnp := hl.2.2.1
    obtain ⟨r1, r2⟩ := jR_m hnp hB
    rw [jgo] at k
    unfold w_Mo_findJune_L140
    refine ⟨fun q => absurd q (by decide), fun _ => m_payRound hl hL hJ hB hB2 (fun M1 hF1 hJ1 => ?_)⟩
    cases hb : (jR (lnp l) s).2 with
    | false =>
      rw [hb] at k
      have := k M1 hF1 hJ1
      obtain ⟨n2, rfl⟩ : ∃ n2, n = n2 + 1 := ⟨n - 1, by omega⟩
      exact ⟨fun _ => this, fun q => absurd rfl q⟩
    | true =>
      rw [hb] at k r2
      rw [if_pos rfl] at r2
      rw [if_pos rfl] at k
      exact m_payLoop hl hB2 m n (jR (lnp l) s).1 M1 (hL.fr hF1 (by decide)) hJ1 r1 (by omega) (by omega) (fun M2 hF2 hJ2 => k M2 (hF1.trans hF2) hJ2)
