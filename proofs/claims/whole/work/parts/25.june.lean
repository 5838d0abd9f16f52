/-! the first of June -/
def un (f : Nat → Nat) (i v : Nat) : Nat → Nat := fun k => if k = i then v else f k
theorem un_s {f : Nat → Nat} {i v : Nat} : un f i v i = v := if_pos rfl
theorem un_n {f : Nat → Nat} {i v k : Nat} (h : k ≠ i) : un f i v k = f k := if_neg h
theorem un_id {f : Nat → Nat} {i v : Nat} (h : f i = v) : un f i v = f := by
  funext k
  unfold un
  split
  · rename_i e; rw [e, h]
  · rfl
abbrev JS : Type := (Nat → Nat) × (Nat → Nat)
def jx (p q : Nat) (s : JS) : Nat := if s.2 (p * 6 + q) < s.1 p then s.2 (p * 6 + q) else s.1 p
def jpay (p q : Nat) (s : JS) : JS := (un (un s.1 p (s.1 p - jx p q s)) q (un s.1 p (s.1 p - jx p q s) q + jx p q s), un s.2 (p * 6 + q) (s.2 (p * 6 + q) - jx p q s))
def jstep (p q : Nat) (s : JS × Bool) : JS × Bool := (jpay p q s.1, s.2 || decide (0 < jx p q s.1))
def jrow (p : Nat) : Nat → JS × Bool → JS × Bool
  | 0, s => s
  | n + 1, s => jstep p n (jrow p n s)
def jall (np : Nat) : Nat → JS × Bool → JS × Bool
  | 0, s => s
  | n + 1, s => jrow n np (jall np n s)
def jR (np : Nat) (s : JS) : JS × Bool := jall np np (s, false)
def jgo (np : Nat) : Nat → JS → JS
  | 0, s => s
  | n + 1, s => if (jR np s).2 then jgo np n (jR np s).1 else (jR np s).1
def TD (s : JS) : Nat := fb_sm s.2 36
theorem jx_le {p q : Nat} {s : JS} : jx p q s ≤ s.2 (p * 6 + q) ∧ jx p q s ≤ s.1 p := by unfold jx; split <;> omega
theorem jpay_0 {p q : Nat} {s : JS} (h : jx p q s = 0) : jpay p q s = s := by
  unfold jpay
  rw [h, un_id (f := s.1) (by omega), un_id (f := s.1) (by omega), un_id (f := s.2) (by omega)]
theorem jpay_TD {p q : Nat} {s : JS} (hp : p < 6) (hq : q < 6) : TD (jpay p q s) + jx p q s = TD s := by
  have h1 := fb_sm_upd s.2 (s.2 (p * 6 + q) - jx p q s) (i := p * 6 + q) (n := 36) (by omega)
  have h2 := (jx_le (p := p) (q := q) (s := s)).1
  have e : TD (jpay p q s) = fb_sm (fun k => if k = p * 6 + q then s.2 (p * 6 + q) - jx p q s else s.2 k) 36 := rfl
  rw [e]
  unfold TD
  omega
def JB (np B : Nat) (s : JS) : Prop := ∀ p, p < np → s.1 p + TD s ≤ B
theorem jpay_JB {np B p q : Nat} {s : JS} (hnp : np ≤ 6) (hp : p < np) (hq : q < np) (h : JB np B s) : JB np B (jpay p q s) := fun r hr => by
  have h1 := jpay_TD (p := p) (q := q) (s := s) (by omega) (by omega)
  have h2 := (jx_le (p := p) (q := q) (s := s)).2
  have h3 := h r hr
  have h4 := h p hp
  have h5 := h q hq
  have e : (jpay p q s).1 r = un (un s.1 p (s.1 p - jx p q s)) q (un s.1 p (s.1 p - jx p q s) q + jx p q s) r := rfl
  rw [e]
  by_cases c : r = q
  · subst c
    rw [un_s]
    by_cases c2 : r = p
    · subst c2; rw [un_s]; omega
    · rw [un_n c2]; omega
  · rw [un_n c]
    by_cases c2 : r = p
    · subst c2; rw [un_s]; omega
    · rw [un_n c2]; omega
theorem jrow_m {np B p : Nat} (hnp : np ≤ 6) (hp : p < np) : ∀ n s, n ≤ np → JB np B s.1 → JB np B (jrow p n s).1 ∧ TD (jrow p n s).1 + (if (jrow p n s).2 then 1 else 0) ≤ TD s.1 + (if s.2 then 1 else 0)
  | 0, s, _, h => ⟨h, Nat.le_refl _⟩
  | n + 1, s, hn, h => by
    obtain ⟨i1, i2⟩ := jrow_m hnp hp n s (by omega) h
    refine ⟨jpay_JB hnp hp (by omega) i1, ?_⟩
    have h1 := jpay_TD (p := p) (q := n) (s := (jrow p n s).1) (by omega) (by omega)
    rw [jrow]
    unfold jstep
    dsimp only
    by_cases c : 0 < jx p n (jrow p n s).1
    · rw [decide_eq_true c, Bool.or_true, if_pos rfl]
      omega
    · rw [decide_eq_false c, Bool.or_false]
      omega
theorem jall_m {np B : Nat} (hnp : np ≤ 6) : ∀ n s, n ≤ np → JB np B s.1 → JB np B (jall np n s).1 ∧ TD (jall np n s).1 + (if (jall np n s).2 then 1 else 0) ≤ TD s.1 + (if s.2 then 1 else 0)
  | 0, s, _, h => ⟨h, Nat.le_refl _⟩
  | n + 1, s, hn, h => by
    obtain ⟨i1, i2⟩ := jall_m hnp n s (by omega) h
    obtain ⟨j1, j2⟩ := jrow_m (p := n) hnp (by omega) np (jall np n s) (Nat.le_refl _) i1
    exact ⟨j1, Nat.le_trans j2 i2⟩
theorem jR_m {np B : Nat} {s : JS} (hnp : np ≤ 6) (h : JB np B s) : JB np B (jR np s).1 ∧ TD (jR np s).1 + (if (jR np s).2 then 1 else 0) ≤ TD s := by
  obtain ⟨i1, i2⟩ := jall_m hnp np (s, false) (Nat.le_refl _) h
  exact ⟨i1, i2⟩
theorem due_TD {s : JS} {i : Nat} (h : i < 36) : s.2 i ≤ TD s := by
  have := fb_sm_part s.2 h
  unfold TD; omega
/-- the class's cells hold this -/
def JX (l : Land) (s : JS) (M : Mem) : Prop := (∀ p, p < lnp l → M.1 c_juneDay_purse p = nI (s.1 p)) ∧ ∀ p q, p < lnp l → q < lnp l → M.1 c_juneDay_due (p * 6 + q) = nI (s.2 (p * 6 + q))
abbrev SJ : List Nat := [c_juneDay_purse, c_juneDay_due]
theorem x_payL {l : Land} {sb : JS × Bool} {p B : Nat} {M : Mem} {K : Int32 → Mem → Prop} {Q : Bool → Mem → Prop} (hl : LOK l) (hL : XLand l M) (hJ : JX l sb.1 M) (hB : JB (lnp l) B sb.1) (hB2 : B < 2 ^ 30) (hp : p < lnp l) (k : ∀ M', Fr SJ M M' → JX l (jrow p (lnp l) sb).1 M' → K (b2i (jrow p (lnp l) sb).2) M') : ∃ n, w_June_payRound_L17 (nI p) K Q n (b2i sb.2) 0 M := by
  have hnp := hl.2.2.1
  refine for_loop (fun n j (M1 : Mem) => w_June_payRound_L17 (nI p) K Q n (b2i (jrow p j sb).2) (nI j) M1) (fun j M1 => Fr SJ M M1 ∧ JX l (jrow p j sb).1 M1) (lnp l) 0 M (Nat.zero_le _) ⟨Fr.rfl, hJ⟩ ?_ ?_
  · intro n M1 ⟨hF, hJ1⟩
    unfold w_June_payRound_L17
    rw [(hL.fr hF (by decide)).2.1]
    exact br_le (by omega) (by omega) (fun _ => k M1 hF hJ1) (fun q => absurd q (by omega))
  · intro n j M1 _ hj ⟨hF, hJ1⟩ kk
    have hB1 := (jrow_m hnp hp j sb (by omega) hB).1
    rw [jrow] at kk
    generalize jrow p j sb = s1 at hJ1 hB1 kk ⊢
    unfold w_June_payRound_L17
    rw [(hL.fr hF (by decide)).2.1]
    have ea : nI p * 6 + nI j = nI (p * 6 + j) := by simp only [fa_lit, pk_mul, nI_add]
    have b1 := hB1 p hp
    have b2 := hB1 j hj
    have b3 := due_TD (s := s1.1) (i := p * 6 + j) (by omega)
    have bx := jx_le (p := p) (q := j) (s := s1.1)
    rw [ea, nI_clamp (by omega), nI_clamp (by omega), nI_clamp (by omega), hJ1.1 p hp, hJ1.2 p j hp hj, nI_1]
    have v1 : vp_in (nI p) 6 := vp_in_nI (by omega) (by decide)
    have v2 : vp_in (nI j) 6 := vp_in_nI (by omega) (by decide)
    have v3 : vp_in (nI (p * 6 + j)) 36 := vp_in_nI (by omega) (by decide)
    refine br_le (by omega) (by omega) (fun q => absurd q (by omega)) (fun _ => ⟨v1, v3, fun x ex => ?_⟩)
    have ex : x = nI (jx p j s1.1) := by
      rw [ex]
      unfold jx
      by_cases c : s1.1.2 (p * 6 + j) < s1.1.1 p
      · rw [if_pos c, if_pos ((nI_ltI (by omega) (by omega)).mpr c)]
      · rw [if_neg c, if_neg (fun z => c ((nI_ltI (by omega) (by omega)).mp z))]
    subst ex
    refine br_le (b := 0) (by omega) (by decide) (fun q => ?_) (fun q => ⟨v1, v1, v2, v2, v3, v3, ?_⟩)
    · have e0 : jx p j s1.1 = 0 := by omega
      have := kk M1
      unfold jstep at this
      rw [jpay_0 e0, e0, show decide (0 < 0) = false from rfl, Bool.or_false] at this
      exact this ⟨hF, hJ1⟩
    · have ej : (jstep p j s1).2 = true := by unfold jstep; dsimp only; rw [decide_eq_true q, Bool.or_true]
      rw [ej] at kk
      refine kk _ ⟨((hF.put _ _ _ (by decide)).put _ _ _ (by decide)).put _ _ _ (by decide), ?_, ?_⟩
      · intro r hr
        have e : (jstep p j s1).1.1 r = un (un s1.1.1 p (s1.1.1 p - jx p j s1.1)) j (un s1.1.1 p (s1.1.1 p - jx p j s1.1) j + jx p j s1.1) r := rfl
        rw [e, si_ne _ _ _ (by decide), si_same]
        have hin : ∀ t, t < lnp l → (si M1 c_juneDay_purse p (nI (s1.1.1 p) - nI (jx p j s1.1))).1 c_juneDay_purse t = nI (un s1.1.1 p (s1.1.1 p - jx p j s1.1) t) := by
          intro t ht
          rw [si_same]
          by_cases c : t = p
          · subst c; rw [up_s, un_s, pk_sub bx.2]
          · rw [up_n c, un_n c]; exact hJ1.1 t ht
        by_cases c : r = j
        · subst c; rw [up_s, un_s, hin r hr, nI_add]
        · rw [up_n c, un_n c]; exact hin r hr
      · intro r t hr ht
        have e : (jstep p j s1).1.2 = un s1.1.2 (p * 6 + j) (s1.1.2 (p * 6 + j) - jx p j s1.1) := rfl
        rw [e, si_same]
        by_cases c : r * 6 + t = p * 6 + j
        · rw [c, up_s, un_s, pk_sub bx.1]
        · rw [up_n c, un_n c, si_ne _ _ _ (by decide), si_ne _ _ _ (by decide)]; exact hJ1.2 r t hr ht
theorem x_payRound {l : Land} {s : JS} {B : Nat} {M : Mem} {Q : Bool → Mem → Prop} (hl : LOK l) (hL : XLand l M) (hJ : JX l s M) (hB : JB (lnp l) B s) (hB2 : B < 2 ^ 30) (k : ∀ M', Fr SJ M M' → JX l (jR (lnp l) s).1 M' → Q (jR (lnp l) s).2 M') : w_June_payRound M Q := by
  have hnp := hl.2.2.1
  unfold w_June_payRound
  refine for_loop (fun n i (M1 : Mem) => w_June_payRound_L4 (fun y597 M596 => (∃ bb : Bool, y597 = b2i bb ∧ Q bb M596)) Q n (b2i (jall (lnp l) i (s, false)).2) (nI i) M1) (fun i M1 => Fr SJ M M1 ∧ JX l (jall (lnp l) i (s, false)).1 M1) (lnp l) 0 M (Nat.zero_le _) ⟨Fr.rfl, hJ⟩ ?_ ?_
  · intro n M1 ⟨hF, hJ1⟩
    unfold w_June_payRound_L4
    rw [(hL.fr hF (by decide)).2.1]
    exact br_le (by omega) (by omega) (fun _ => ⟨_, rfl, k M1 hF hJ1⟩) (fun q => absurd q (by omega))
  · intro n i M1 _ hi ⟨hF, hJ1⟩ kk
    have hB1 := (jall_m hnp i (s, false) (by omega) hB).1
    unfold w_June_payRound_L4
    rw [(hL.fr hF (by decide)).2.1, nI_1]
    refine br_le (by omega) (by omega) (fun q => absurd q (by omega)) (fun _ => x_payL hl (hL.fr hF (by decide)) hJ1 hB1 hB2 hi (fun M2 hF2 hJ2 => kk M2 ⟨hF.trans hF2, hJ2⟩))
theorem x_payLoop {l : Land} {B : Nat} {K : Mem → Prop} {Q : Mem → Prop} (hl : LOK l) (hB2 : B < 2 ^ 30) : ∀ (m i n : Nat) (s : JS) (M : Mem), XLand l M → JX l s M → JB (lnp l) B s → TD s < m → i + m ≤ 1000000 → m < n → (∀ M', Fr SJ M M' → JX l (jgo (lnp l) m s) M' → K M') → w_June_collect_L124 K Q n 1 (nI i) M
  | 0, _, _, _, _, _, _, _, h, _, _, _ => absurd h (Nat.not_lt_zero _)
  | m + 1, i, 0, _, _, _, _, _, _, _, h, _ => absurd h (Nat.not_lt_zero _)
  | m + 1, i, n + 1, s, M, hL, hJ, hB, ht, him, hn, k => by
    have hnp := hl.2.2.1
    obtain ⟨r1, r2⟩ := jR_m hnp hB
    rw [jgo] at k
    unfold w_June_collect_L124
    rw [nI_1]
    refine br_le (a := 1000000) (by decide) (by omega) (fun q => absurd q (by omega)) (fun _ => ⟨fun q => absurd q (by decide), fun _ => x_payRound hl hL hJ hB hB2 (fun M1 hF1 hJ1 => ?_)⟩)
    cases hb : (jR (lnp l) s).2 with
    | false =>
      rw [hb] at k
      have := k M1 hF1 hJ1
      obtain ⟨n2, rfl⟩ : ∃ n2, n = n2 + 1 := ⟨n - 1, by omega⟩
      exact ⟨fun _ => this, fun _ => ⟨fun _ => this, fun q => absurd rfl q⟩⟩
    | true =>
      rw [hb] at k r2
      rw [if_pos rfl] at r2
      rw [if_pos rfl] at k
      exact x_payLoop hl hB2 m (i + 1) n (jR (lnp l) s).1 M1 (hL.fr hF1 (by decide)) hJ1 r1 (by omega) (by omega) (by omega) (fun M2 hF2 hJ2 => k M2 (hF1.trans hF2) hJ2)
/-- what is due at first -/
def dueS (S : Nat → Nat → Nat) (np : Nat) : Nat → Nat := fun i => if i / 6 < np ∧ i % 6 < np then S (i / 6) (i % 6) - S (i % 6) (i / 6) else 0
def j0 (l : Land) (ds : Deeds) : JS := (lpurse l, dueS (owesN l (lplace l) ds (dshot ds)) (lnp l))
def jend (l : Land) (ds : Deeds) : JS := jgo (lnp l) (TD (j0 l ds) + 1) (j0 l ds)
theorem dueS_at {S : Nat → Nat → Nat} {np p q : Nat} (hp : p < np) (hq : q < np) (h6 : np ≤ 6) : dueS S np (p * 6 + q) = S p q - S q p := by
  unfold dueS
  rw [show (p * 6 + q) / 6 = p by omega, show (p * 6 + q) % 6 = q by omega, if_pos ⟨hp, hq⟩]
theorem fb_sm_grid (f : Nat → Nat) (c : Nat) : ∀ m, fb_sm f (m * c) = fb_sm (fun p => fb_sm (fun q => f (p * c + q)) c) m
  | 0 => by rw [Nat.zero_mul]; rfl
  | m + 1 => by rw [Nat.add_mul, Nat.one_mul, fb_sm_split, fb_sm_grid f c m, fb_sm_succ]
theorem sm_ite (c : Option Nat) (v : Nat) : ∀ n, fb_sm (fun q => if c = some q then v else 0) n ≤ v ∧ ((∀ q, q < n → c ≠ some q) → fb_sm (fun q => if c = some q then v else 0) n = 0)
  | 0 => ⟨Nat.zero_le _, fun _ => rfl⟩
  | n + 1 => by
    obtain ⟨h1, h2⟩ := sm_ite c v n
    rw [fb_sm_succ]
    by_cases e : c = some n
    · rw [if_pos e]
      refine ⟨?_, fun z => absurd e (z n (by omega))⟩
      rw [h2 (fun q hq z => ?_)]
      · omega
      · rw [e] at z; cases z; omega
    · rw [if_neg e]
      exact ⟨by omega, fun z => by rw [h2 (fun q hq => z q (by omega))]⟩
def NZ (ds : Deeds) : Prop := fb_ct (fun i => decide (dtimes ds i ≠ 0)) 120 ≤ 30
theorem sm_nz (ds : Deeds) : ∀ n, fb_sm (fun i => if dtimes ds i = 0 then 0 else 1782) n = 1782 * fb_ct (fun i => decide (dtimes ds i ≠ 0)) n
  | 0 => rfl
  | n + 1 => by
    rw [fb_sm_succ, sm_nz ds n, fb_ct_succ]
    by_cases e : dtimes ds n = 0
    · rw [if_pos e, if_neg (by simp [e]), Nat.add_zero, Nat.add_zero]
    · rw [if_neg e, if_pos (by simp [e])]; omega
theorem owes_sum {l : Land} {at_ : Nat → Nat} {ds : Deeds} {sil p : Nat} (hl : LOK l) (h9 : ∀ i, i < 120 → dtimes ds i ≤ 9) (hz : NZ ds) (n : Nat) : fb_sm (fun q => owesN l at_ ds sil p q) n ≤ 53460 := by
  have hnb := hl.2.2.2.1
  unfold owesN
  rw [fb_sm_swap]
  have h1 : fb_sm (fun b => fb_sm (fun q => fb_sm (fun h => if cred l at_ b h p = some q then pnc l at_ b h p (tms ds sil b h) else 0) 24) n) (lnb l) ≤ fb_sm (fun b => fb_sm (fun h => if dtimes ds (b * 24 + h) = 0 then 0 else 1782) 24) (lnb l) := by
    refine fb_sm_le (fun b hb => ?_)
    rw [fb_sm_swap]
    refine fb_sm_le (fun h hh => ?_)
    refine Nat.le_trans (sm_ite _ _ n).1 ?_
    have h9 := h9 (b * 24 + h) (by omega)
    unfold tms
    by_cases e : dtimes ds (b * 24 + h) = 0
    · rw [if_pos e, e, ite_self]; unfold pnc; rw [if_pos rfl]; exact Nat.le_refl _
    · rw [if_neg e]
      refine pnc_le ?_
      split <;> omega
  have h2 := fb_sm_grid (fun i => if dtimes ds i = 0 then 0 else 1782) 24 (lnb l)
  rw [← h2] at h1
  have h3 := fb_sm_mono (fun i => if dtimes ds i = 0 then 0 else 1782) (lnb l * 24) (120 - lnb l * 24)
  rw [show lnb l * 24 + (120 - lnb l * 24) = 120 by omega, sm_nz ds 120] at h3
  unfold NZ at hz
  omega
theorem j0_TD {l : Land} {ds : Deeds} (hl : LOK l) (h9 : ∀ i, i < 120 → dtimes ds i ≤ 9) (hz : NZ ds) : TD (j0 l ds) ≤ 320760 := by
  unfold TD j0
  dsimp only
  rw [show (36 : Nat) = 6 * 6 from rfl, fb_sm_grid]
  refine Nat.le_trans (fb_sm_bound (c := 53460) (fun p hp => ?_)) (by decide)
  refine Nat.le_trans (fb_sm_le (g := fun q => owesN l (lplace l) ds (dshot ds) p q) (fun q hq => ?_)) (owes_sum hl h9 hz 6)
  unfold dueS
  split
  · rw [show (p * 6 + q) / 6 = p by omega, show (p * 6 + q) % 6 = q by omega]; omega
  · exact Nat.zero_le _
theorem j0_JB {l : Land} {ds : Deeds} (hl : LOK l) (h9 : ∀ i, i < 120 → dtimes ds i ≤ 9) (hz : NZ ds) : JB (lnp l) 330759 (j0 l ds) := fun p hp => by
  have h1 := j0_TD hl h9 hz
  have h2 : (j0 l ds).1 p ≤ 9999 := (hl.2.2.2.2.2.1 p hp).2
  omega
theorem owes_le {l : Land} {at_ : Nat → Nat} {ds : Deeds} {sil p q : Nat} (hl : LOK l) (h9 : ∀ i, i < 120 → dtimes ds i ≤ 9) (hz : NZ ds) : owesN l at_ ds sil p q ≤ 53460 := by
  have h1 := owes_sum (at_ := at_) (sil := sil) (p := p) hl h9 hz (q + 1)
  rw [fb_sm_succ] at h1
  omega
theorem tr_sub {a b : Nat} (ha : a < 2 ^ 30) (hb : b < 2 ^ 30) : (if (0 : Int32) < nI a - nI b then nI a - nI b else 0) = nI (a - b) := by
  have e := pk_sub_toInt ha hb
  have hz : (0 : Int32).toInt = 0 := rfl
  by_cases h : b < a
  · rw [if_pos (by rw [fa_lt, e, hz]; omega), pk_sub (by omega)]
  · rw [if_neg (by rw [fa_lt, e, hz]; omega), show a - b = 0 by omega]; rfl
abbrev SJC : List Nat := [c_juneDay_purse, c_juneDay_due, c_debts_at, c_debts_sums, c_debts_reach, c_debts_nearest, c_debts_gap, c_land_fog_stack, c_debts_rateKey, c_debts_rate, c_land_owe_stack]
theorem x_collL {l : Land} {ds : Deeds} {p0 : Nat} {M : Mem} {K : Mem → Prop} {Q : Mem → Prop} (hl : LOK l) (hL : XLand l M) (h9 : ∀ i, i < 120 → dtimes ds i ≤ 9) (hz : NZ ds) (hS : XS (talS l (lplace l) ds (dshot ds)) M) (hp : p0 < lnp l) (k : ∀ M', Fr [c_juneDay_due] M M' → (∀ q, q < lnp l → M'.1 c_juneDay_due (p0 * 6 + q) = nI ((j0 l ds).2 (p0 * 6 + q))) → (∀ i, i < p0 * 6 → M'.1 c_juneDay_due i = M.1 c_juneDay_due i) → K M') : ∃ n, w_June_collect_L51 (nI p0) K Q n 0 M := by
  have hnp := hl.2.2.1
  refine for_loop (fun n j (M1 : Mem) => w_June_collect_L51 (nI p0) K Q n (nI j) M1) (fun j M1 => Fr [c_juneDay_due] M M1 ∧ (∀ q, q < j → M1.1 c_juneDay_due (p0 * 6 + q) = nI ((j0 l ds).2 (p0 * 6 + q))) ∧ (∀ i, i < p0 * 6 → M1.1 c_juneDay_due i = M.1 c_juneDay_due i)) (lnp l) 0 M (Nat.zero_le _) ⟨Fr.rfl, fun q hq => absurd hq (Nat.not_lt_zero q), fun _ _ => rfl⟩ ?_ ?_
  · intro n M1 ⟨hF, hs, ho⟩
    unfold w_June_collect_L51
    rw [(hL.fr hF (by decide)).2.1]
    exact br_le (by omega) (by omega) (fun _ => k M1 hF hs ho) (fun q => absurd q (by omega))
  · intro n j M1 _ hj ⟨hF, hs, ho⟩ kk
    have hS1 := hS.fr hF (by decide)
    unfold w_June_collect_L51
    rw [(hL.fr hF (by decide)).2.1]
    have ea : nI p0 * 6 + nI j = nI (p0 * 6 + j) := by simp only [fa_lit, pk_mul, nI_add]
    have eb : nI j * 6 + nI p0 = nI (j * 6 + p0) := by simp only [fa_lit, pk_mul, nI_add]
    rw [ea, eb, nI_clamp (by omega), nI_clamp (by omega), hS1 p0 j (by omega) (by omega), hS1 j p0 (by omega) (by omega), talS_eq hp, talS_eq hj, nI_1]
    refine br_le (by omega) (by omega) (fun q => absurd q (by omega)) (fun _ => ⟨vp_in_nI (by omega) (by decide), fun x ex => ⟨vp_in_nI (by omega) (by decide), vp_in_nI (by omega) (by decide), ?_⟩⟩)
    subst ex
    have b1 := owes_le (at_ := lplace l) (sil := dshot ds) (p := p0) (q := j) hl h9 hz
    have b2 := owes_le (at_ := lplace l) (sil := dshot ds) (p := j) (q := p0) hl h9 hz
    rw [tr_sub (by omega) (by omega)]
    refine kk _ ⟨hF.put _ _ _ (by decide), fun q hq => ?_, fun i hi => ?_⟩
    · rw [si_same]
      by_cases c : q = j
      · subst c
        rw [up_s]
        unfold j0
        dsimp only
        rw [dueS_at hp hj hnp]
      · rw [up_n (by omega)]; exact hs q (by omega)
    · rw [si_same, up_n (by omega)]; exact ho i hi
theorem x_collect {l : Land} {ds : Deeds} {M : Mem} {Q : Mem → Prop} (hD : DX l ds M) (hz : NZ ds) (k : ∀ M', Fr SJC M M' → DX l ds M' → JX l (jend l ds) M' → Q M') : w_June_collect M Q := by
  have hl := hD.1
  have hnp := hl.2.2.1
  have h9 := hD.t9
  have hsh := hD.2.2.2.2.2.2
  unfold w_June_collect
  refine x_allAsTold hl hD.2.1 (fun M0 hF0 hA0 => ?_)
  have hD0 := hD.fr hF0 (by decide)
  rw [hD0.2.2.2.2.2.1]
  refine x_tally hl hD0.2.1 hD0.2.2.1 hD0.2.2.2.1 hA0 hD0.2.2.2.2.1 (by omega) (fun M1 hF1 hR1 hK1 hS1 => ?_)
  have hD1 := hD0.sg hF1 (by decide) hR1 hK1
  have hFz : Fr SJC M M1 := (hF0.mono (by decide)).trans (hF1.mono (by decide))
  refine for_loop (fun n i (M2 : Mem) => w_June_collect_L23 (fun M591 => (∃ n602, w_June_collect_L124 (fun M601 => Q M601) Q n602 1 0 M591)) Q n (nI i) M2) (fun i M2 => Fr SJC M M2 ∧ DX l ds M2 ∧ XS (talS l (lplace l) ds (dshot ds)) M2 ∧ (∀ p, p < i → M2.1 c_juneDay_purse p = nI ((j0 l ds).1 p)) ∧ ∀ p q, p < i → q < lnp l → M2.1 c_juneDay_due (p * 6 + q) = nI ((j0 l ds).2 (p * 6 + q))) (lnp l) 0 M1 (Nat.zero_le _) ⟨hFz, hD1, hS1, fun p hp => absurd hp (Nat.not_lt_zero p), fun p q hp => absurd hp (Nat.not_lt_zero p)⟩ ?_ ?_
  · intro n M2 ⟨hF2, hD2, hS2, hp2, hd2⟩
    unfold w_June_collect_L23
    rw [hD2.2.1.2.1]
    have hT := j0_TD hl h9 hz
    refine br_le (by omega) (by omega) (fun _ => ⟨TD (j0 l ds) + 2, x_payLoop hl (B := 330759) (by decide) (TD (j0 l ds) + 1) 0 _ (j0 l ds) M2 hD2.2.1 ⟨hp2, hd2⟩ (j0_JB hl h9 hz) (by omega) (by omega) (by omega) (fun M3 hF3 hJ3 => k M3 (hF2.trans (hF3.mono (by decide))) (hD2.fr hF3 (by decide)) hJ3)⟩) (fun q => absurd q (by omega))
  · intro n i M2 _ hi ⟨hF2, hD2, hS2, hp2, hd2⟩ kk
    unfold w_June_collect_L23
    rw [hD2.2.1.2.1, nI_clamp (by omega), nI_1]
    have v1 : vp_in (nI i) 6 := vp_in_nI (by omega) (by decide)
    refine br_le (by omega) (by omega) (fun q => absurd q (by omega)) (fun _ => ⟨v1, v1, ?_⟩)
    generalize hM3 : si M2 c_juneDay_purse i (M2.1 c_land_purse i) = M3
    have hF3 : Fr [c_juneDay_purse] M2 M3 := by rw [← hM3]; exact fr_si (by decide)
    have hD3 := hD2.fr hF3 (by decide)
    refine x_collL hl hD3.2.1 h9 hz (hS2.fr hF3 (by decide)) hi (fun M4 hF4 hn hold => kk M4 ⟨(hF2.trans (hF3.mono (by decide))).trans (hF4.mono (by decide)), hD3.fr hF4 (by decide), (hS2.fr hF3 (by decide)).fr hF4 (by decide), fun p hp => ?_, fun p q hp hq => ?_⟩)
    · rw [hF4.1 _ (by decide), ← hM3, si_same]
      by_cases c : p = i
      · subst c; rw [up_s]; exact hD2.2.1.2.2.2.2.2.1 p hi
      · rw [up_n c]; exact hp2 p (by omega)
    · by_cases c : p = i
      · subst c; exact hn q hq
      · rw [hold _ (by omega), hF3.1 _ (by decide)]; exact hd2 p q (by omega) hq
/-! who is ruined -/
def ruL (s : JS) (p : Nat) : Nat → Nat → Nat
  | 0, a => a
  | n + 1, a => if s.2 (p * 6 + n) = 0 then ruL s p n a else ruL s p n a ||| 2 ^ p
def ruA (s : JS) (np : Nat) : Nat → Nat
  | 0 => 0
  | n + 1 => ruL s n np (ruA s np n)
theorem ruL_lt {s : JS} {p : Nat} (hp : p < 6) : ∀ n a, a < 64 → ruL s p n a < 64
  | 0, _, h => h
  | n + 1, a, h => by
    rw [ruL]
    have ih := ruL_lt (s := s) hp n a h
    split
    · exact ih
    · have : 2 ^ p < 2 ^ 6 := Nat.pow_lt_pow_right (by decide) hp
      exact Nat.or_lt_two_pow (n := 6) ih this
theorem ruA_lt {s : JS} {np : Nat} : ∀ n, n ≤ 6 → ruA s np n < 64
  | 0, _ => (by decide : (0 : Nat) < 64)
  | n + 1, h => ruL_lt (by omega) np _ (ruA_lt n (by omega))
theorem x_ruined {l : Land} {s : JS} {M : Mem} {Q : Int32 → Mem → Prop} (hl : LOK l) (hL : XLand l M) (hJ : JX l s M) (hB : ∀ i, i < 36 → s.2 i < 2 ^ 31) (k : Q (nI (ruA s (lnp l) (lnp l))) M) : w_June_ruined M Q := by
  have hnp := hl.2.2.1
  unfold w_June_ruined
  refine for_loop (fun n i (M1 : Mem) => w_June_ruined_L4 (fun y609 M608 => Q y609 M608) Q n (nI (ruA s (lnp l) i)) (nI i) M1) (fun i M1 => M1 = M) (lnp l) 0 M (Nat.zero_le _) rfl ?_ ?_
  · intro n M1 e
    subst e
    unfold w_June_ruined_L4
    rw [hL.2.1]
    exact br_le (by omega) (by omega) (fun _ => k) (fun q => absurd q (by omega))
  · intro n i M1 _ hi e kk
    subst e
    unfold w_June_ruined_L4
    rw [hL.2.1, nI_1]
    refine br_le (by omega) (by omega) (fun q => absurd q (by omega)) (fun _ => ?_)
    refine for_loop (fun m j (M2 : Mem) => w_June_ruined_L17 (nI i) (fun y606 M605 => w_June_ruined_L4 (fun y609 M608 => Q y609 M608) Q n y606 (nI (i + 1)) M605) Q m (nI (ruL s i j (ruA s (lnp l) i))) (nI j) M2) (fun j M2 => M2 = M1) (lnp l) 0 M1 (Nat.zero_le _) rfl ?_ ?_
    · intro m M2 e
      subst e
      unfold w_June_ruined_L17
      rw [hL.2.1]
      exact br_le (by omega) (by omega) (fun _ => kk _ rfl) (fun q => absurd q (by omega))
    · intro m j M2 _ hj e kk2
      subst e
      have kk2 := kk2 _ rfl
      rw [ruL] at kk2
      unfold w_June_ruined_L17
      have ea : nI i * 6 + nI j = nI (i * 6 + j) := by simp only [fa_lit, pk_mul, nI_add]
      rw [hL.2.1, ea, nI_clamp (by omega), hJ.2 i j hi hj, nI_1, shl1 (by omega), fa_or]
      refine br_le (by omega) (by omega) (fun q => absurd q (by omega)) (fun _ => ⟨vp_in_nI (by omega) (by decide), br_le (b := 0) (hB _ (by omega)) (by decide) (fun q => ?_) (fun q => ?_)⟩)
      · rw [if_pos (by omega)] at kk2
        rw [Int32.or_zero]
        exact kk2
      · rw [if_neg (by omega)] at kk2
        exact kk2
theorem jgo_JB {np B : Nat} (hnp : np ≤ 6) : ∀ n s, JB np B s → JB np B (jgo np n s) ∧ TD (jgo np n s) ≤ TD s
  | 0, s, h => ⟨h, Nat.le_refl _⟩
  | n + 1, s, h => by
    obtain ⟨r1, r2⟩ := jR_m hnp h
    rw [jgo]
    split
    · obtain ⟨q1, q2⟩ := jgo_JB hnp n _ r1
      exact ⟨q1, by omega⟩
    · exact ⟨r1, by omega⟩
