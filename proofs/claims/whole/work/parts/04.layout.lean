
/-! an abstract machine over a layout of cells: values, descriptors, memory -/
abbrev AV : Type := Int32 ⊕ Int64 ⊕ Option Nat
abbrev vi (x : Int32) : AV := .inl x
abbrev vl (x : Int64) : AV := .inr (.inl x)
abbrev vr (k : Nat) : AV := .inr (.inr (some k))
abbrev vq (r : Option Nat) : AV := .inr (.inr r)
def toV (ad : Nat → Nat) (v : AV) : Value := match v with
  | .inl x => .int x
  | .inr (.inl x) => .long x
  | .inr (.inr r) => va_rf (r.map ad)
def avc (v : AV) : Nat := match v with
  | .inr (.inl _) => 2
  | _ => 1
theorem toV_cat (ad : Nat → Nat) (v : AV) : (toV ad v).category = avc v := by
  match v with
  | .inl x => rfl
  | .inr (.inl x) => rfl
  | .inr (.inr none) => rfl
  | .inr (.inr (some a)) => rfl
def b2i (b : Bool) : Int32 := if b then 1 else 0
abbrev FD : Type := Bool ⊕ Option Nat
abbrev DS : Type := (Nat × List FD) ⊕ (Nat × Nat × List (Option Nat))
abbrev Mem : Type := (Nat → Nat → Int32) × (Nat → Nat → Int64)
abbrev cls : List vw_C := [(RX0, TX0, 9), (RX1, TX1, 3), (RX2, TX2, 10), (RX3, TX3, 4), (RX4, TX4, 5), (RX5, TX5, 14), (RX6, TX6, 5), (RX7, TX7, 3), (RX8, TX8, 11), (RX9, TX9, 9), (RX10, TX10, 10), (RX11, TX11, 12), (RX12, TX12, 41)]
abbrev tys (cA : Nat → ClassId) : List (ClassId × FieldType) := [(cA 0, .int), (cA 1, .long), (cA 2, .char), (cA 3, .boolean), (cA 4, .object "CuckooDebt$Deeds")]
def fdV (ad : Nat → Nat) (M : Mem) (k j : Nat) (f : FD) : Value := match f with
  | .inl true => .int (M.1 k j)
  | .inl false => .long (M.2 k j)
  | .inr r => va_rf (r.map ad)
def fsV (ad : Nat → Nat) (M : Mem) (k : Nat) : Nat → List FD → List Value
  | _, [] => []
  | j, f :: fs => fdV ad M k j f :: fsV ad M k (j + 1) fs
def arE (ad : Nat → Nat) (M : Mem) (k t : Nat) (rs : List (Option Nat)) : (Nat → Int32) ⊕ (Nat → Int64) ⊕ (Nat → UInt32) ⊕ (Nat → UInt64) ⊕ (Nat → Option Nat) := match t with
  | 1 => .inr (.inl (M.2 k))
  | 4 => .inr (.inr (.inr (.inr (fun j => (rs.getD j none).map ad))))
  | _ => .inl (M.1 k)
def ceE (cA : Nat → ClassId) (ad : Nat → Nat) (M : Mem) (k : Nat) (d : DS) : va_E := match d with
  | .inl (ci, fs) => .inr (ci, fsV ad M k 0 fs)
  | .inr (t, n, rs) => .inl (cA t, n, arE ad M k t rs)
def wsO (cA : Nat → ClassId) (ad : Nat → Nat) (M : Mem) : Nat → List DS → va_W
  | _, [] => []
  | k, d :: ds => (ad k, ceE cA ad M k d) :: wsO cA ad M (k + 1) ds
theorem wsO_get (cA : Nat → ClassId) (ad : Nat → Nat) (M : Mem) : ∀ (L : List DS) (k i : Nat), (wsO cA ad M k L)[i]? = (L[i]?).map (fun d => (ad (k + i), ceE cA ad M (k + i) d))
  | [], k, i => by simp [wsO]
  | d :: ds, k, 0 => by simp [wsO]
  | d :: ds, k, i + 1 => by
    rw [wsO, List.getElem?_cons_succ, List.getElem?_cons_succ, wsO_get cA ad M ds (k + 1) i]
    rw [show k + 1 + i = k + (i + 1) by omega]
theorem wsO_at {cA : Nat → ClassId} {ad : Nat → Nat} {M : Mem} {L : List DS} {k : Nat} {d : DS} (h : L[k]? = some d) : (wsO cA ad M 0 L)[k]? = some (ad k, ceE cA ad M k d) := by
  rw [wsO_get, h, Nat.zero_add]; rfl
theorem wsO_len (cA : Nat → ClassId) (ad : Nat → Nat) (M : Mem) : ∀ (L : List DS) (k : Nat), (wsO cA ad M k L).length = L.length
  | [], k => rfl
  | d :: ds, k => by rw [wsO, List.length_cons, List.length_cons, wsO_len cA ad M ds]
theorem fsV_cong {ad : Nat → Nat} {M M' : Mem} {k : Nat} (h : M'.1 k = M.1 k) (h2 : M'.2 k = M.2 k) : ∀ (fs : List FD) (j : Nat), fsV ad M' k j fs = fsV ad M k j fs
  | [], j => rfl
  | f :: fs, j => by
    rw [fsV, fsV, fsV_cong h h2 fs]
    congr 1
    match f with
    | .inl true => simp only [fdV]; rw [h]
    | .inl false => simp only [fdV]; rw [h2]
    | .inr r => rfl
theorem arE_cong {ad : Nat → Nat} {M M' : Mem} {k t : Nat} {rs : List (Option Nat)} (h : M'.1 k = M.1 k) (h2 : M'.2 k = M.2 k) : arE ad M' k t rs = arE ad M k t rs := by
  unfold arE
  split
  · rw [h2]
  · rfl
  · rw [h]
theorem ceE_cong {cA : Nat → ClassId} {ad : Nat → Nat} {M M' : Mem} {k : Nat} (h : M'.1 k = M.1 k) (h2 : M'.2 k = M.2 k) (d : DS) : ceE cA ad M' k d = ceE cA ad M k d := by
  match d with
  | .inl (ci, fs) => simp only [ceE]; rw [fsV_cong h h2]
  | .inr (t, n, rs) => simp only [ceE]; rw [arE_cong h h2]
/-- one cell changes -/
theorem wsO_set {cA : Nat → ClassId} {ad : Nat → Nat} {M M' : Mem} {L L' : List DS} {k : Nat} {d d' : DS} (hd : L[k]? = some d) (hL : L.set k d' = L') (h1 : ∀ q, q ≠ k → M'.1 q = M.1 q) (h2 : ∀ q, q ≠ k → M'.2 q = M.2 q) : (wsO cA ad M 0 L).set k (ad k, ceE cA ad M' k d') = wsO cA ad M' 0 L' := by
  apply List.ext_getElem?
  intro i
  subst hL
  have hk : k < L.length := (List.getElem?_eq_some_iff.mp hd).1
  rw [wsO_get, Nat.zero_add]
  by_cases hi : i = k
  · subst hi
    rw [List.getElem?_set_self (by rw [wsO_len]; exact hk), List.getElem?_set_self hk]
    rfl
  · rw [List.getElem?_set_ne (Ne.symm hi), List.getElem?_set_ne (Ne.symm hi), wsO_get, Nat.zero_add]
    cases L[i]? with
    | none => rfl
    | some x => simp only [Option.map_some]; rw [ceE_cong (h1 i hi) (h2 i hi)]
/-- a cell comes -/
theorem wsO_push {cA : Nat → ClassId} {ad : Nat → Nat} {M M' : Mem} {d : DS} : ∀ (L : List DS) (k : Nat), (∀ q, q ≠ k + L.length → M'.1 q = M.1 q) → (∀ q, q ≠ k + L.length → M'.2 q = M.2 q) → wsO cA ad M k L ++ [(ad (k + L.length), ceE cA ad M' (k + L.length) d)] = wsO cA ad M' k (L ++ [d])
  | [], k, _, _ => rfl
  | x :: L, k, h1, h2 => by
    have e : k + 1 + L.length = k + (x :: L).length := by simp only [List.length_cons]; omega
    have ih := wsO_push (cA := cA) (ad := ad) (M := M) (M' := M') (d := d) L (k + 1) (fun q h => h1 q (by rw [← e]; exact h)) (fun q h => h2 q (by rw [← e]; exact h))
    rw [e] at ih
    have hz : k ≠ k + (x :: L).length := by simp only [List.length_cons]; omega
    rw [wsO, List.cons_append, List.cons_append, wsO, ih, ceE_cong (h1 k hz) (h2 k hz)]
def si (M : Mem) (k j : Nat) (v : Int32) : Mem := (fun q => if q = k then upd (M.1 k) j v else M.1 q, M.2)
def sl (M : Mem) (k j : Nat) (v : Int64) : Mem := (M.1, fun q => if q = k then vp_updL (M.2 k) j v else M.2 q)
def sa (M : Mem) (k : Nat) (f : Nat → Int32) : Mem := (fun q => if q = k then f else M.1 q, M.2)
def sla (M : Mem) (k : Nat) (f : Nat → Int64) : Mem := (M.1, fun q => if q = k then f else M.2 q)
theorem si_same (M : Mem) (k j : Nat) (v : Int32) : (si M k j v).1 k = upd (M.1 k) j v := if_pos rfl
theorem si_ne (M : Mem) {k q : Nat} (j : Nat) (v : Int32) (h : q ≠ k) : (si M k j v).1 q = M.1 q := if_neg h
theorem sl_same (M : Mem) (k j : Nat) (v : Int64) : (sl M k j v).2 k = vp_updL (M.2 k) j v := if_pos rfl
theorem sl_ne (M : Mem) {k q : Nat} (j : Nat) (v : Int64) (h : q ≠ k) : (sl M k j v).2 q = M.2 q := if_neg h
theorem sa_same (M : Mem) (k : Nat) (f : Nat → Int32) : (sa M k f).1 k = f := if_pos rfl
theorem sa_ne (M : Mem) {k q : Nat} (f : Nat → Int32) (h : q ≠ k) : (sa M k f).1 q = M.1 q := if_neg h
theorem sla_same (M : Mem) (k : Nat) (f : Nat → Int64) : (sla M k f).2 k = f := if_pos rfl
theorem sla_ne (M : Mem) {k q : Nat} (f : Nat → Int64) (h : q ≠ k) : (sla M k f).2 q = M.2 q := if_neg h
/-- a field of an object is set -/
theorem fsV_get (ad : Nat → Nat) (M : Mem) (k : Nat) : ∀ (fs : List FD) (j i : Nat), (fsV ad M k j fs)[i]? = (fs[i]?).map (fun f => fdV ad M k (j + i) f)
  | [], j, i => by simp [fsV]
  | f :: fs, j, 0 => by simp [fsV]
  | f :: fs, j, i + 1 => by
    rw [fsV, List.getElem?_cons_succ, List.getElem?_cons_succ, fsV_get ad M k fs (j + 1) i, show j + 1 + i = j + (i + 1) by omega]
theorem fsV_at {ad : Nat → Nat} {M : Mem} {k : Nat} {fs : List FD} {j : Nat} {f : FD} (h : fs[j]? = some f) : (fsV ad M k 0 fs)[j]? = some (fdV ad M k j f) := by
  rw [fsV_get, h, Nat.zero_add]; rfl
theorem fsV_len (ad : Nat → Nat) (M : Mem) (k : Nat) : ∀ (fs : List FD) (j : Nat), (fsV ad M k j fs).length = fs.length
  | [], j => rfl
  | f :: fs, j => by rw [fsV, List.length_cons, List.length_cons, fsV_len ad M k fs]
theorem fdV_ne {ad : Nat → Nat} {M M' : Mem} {k j : Nat} (f : FD) (h1 : M'.1 k j = M.1 k j) (h2 : M'.2 k j = M.2 k j) : fdV ad M' k j f = fdV ad M k j f := by
  match f with
  | .inl true => simp only [fdV]; rw [h1]
  | .inl false => simp only [fdV]; rw [h2]
  | .inr r => rfl
theorem fsV_set {ad : Nat → Nat} {M M' : Mem} {k j : Nat} {fs : List FD} {f f' : FD} (hf : fs[j]? = some f) (h1 : ∀ i, i ≠ j → M'.1 k i = M.1 k i) (h2 : ∀ i, i ≠ j → M'.2 k i = M.2 k i) : (fsV ad M k 0 fs).set j (fdV ad M' k j f') = fsV ad M' k 0 (fs.set j f') := by
  apply List.ext_getElem?
  intro i
  have hk : j < fs.length := (List.getElem?_eq_some_iff.mp hf).1
  rw [fsV_get, Nat.zero_add]
  by_cases hi : i = j
  · subst hi
    rw [List.getElem?_set_self (by rw [fsV_len]; exact hk), List.getElem?_set_self hk]
    rfl
  · rw [List.getElem?_set_ne (Ne.symm hi), List.getElem?_set_ne (Ne.symm hi), fsV_get, Nat.zero_add]
    cases fs[i]? with
    | none => rfl
    | some x => simp only [Option.map_some]; rw [fdV_ne x (h1 i hi) (h2 i hi)]
theorem list_set_same {α : Type} : ∀ {l : List α} {j : Nat} {a : α}, l[j]? = some a → l.set j a = l
  | [], j, a, h => rfl
  | b :: l, 0, a, h => by simp at h; simp [h]
  | b :: l, j + 1, a, h => by simp at h; simp [list_set_same h]
/-- the locals, by place -/
def lvl (ad : Nat → Nat) : Nat → List (Option AV) → List (Nat × Value)
  | _, [] => []
  | i, none :: r => lvl ad (i + 1) r
  | i, some v :: r => (i, toV ad v) :: lvl ad (i + 1) r
theorem lvl_mem (ad : Nat → Nat) : ∀ (lv : List (Option AV)) (b : Nat) (q : Nat × Value), q ∈ lvl ad b lv ↔ ∃ i v, lv[i]? = some (some v) ∧ q = (b + i, toV ad v)
  | [], b, q => by simp [lvl]
  | none :: r, b, q => by
    rw [lvl, lvl_mem ad r (b + 1) q]
    constructor
    · rintro ⟨i, v, h, e⟩
      exact ⟨i + 1, v, by simpa using h, by rw [e, show b + 1 + i = b + (i + 1) by omega]⟩
    · rintro ⟨i, v, h, e⟩
      match i, h with
      | 0, h => simp at h
      | i + 1, h => exact ⟨i, v, by simpa using h, by rw [e, show b + 1 + i = b + (i + 1) by omega]⟩
  | some x :: r, b, q => by
    rw [lvl, List.mem_cons, lvl_mem ad r (b + 1) q]
    constructor
    · rintro (e | ⟨i, v, h, e⟩)
      · exact ⟨0, x, rfl, by rw [e, Nat.add_zero]⟩
      · exact ⟨i + 1, v, by simpa using h, by rw [e, show b + 1 + i = b + (i + 1) by omega]⟩
    · rintro ⟨i, v, h, e⟩
      match i, h with
      | 0, h => simp at h; left; rw [e, h, Nat.add_zero]
      | i + 1, h => right; exact ⟨i, v, by simpa using h, by rw [e, show b + 1 + i = b + (i + 1) by omega]⟩
def lvh (ad : Nat → Nat) (ls : Array Slot) (lv : List (Option AV)) : Prop := lv_has ls lv.length (lvl ad 0 lv)
theorem lvh_at {ad : Nat → Nat} {ls : Array Slot} {lv : List (Option AV)} {i : Nat} {v : AV} (h : lvh ad ls lv) (hi : lv[i]? = some (some v)) : ls[i]? = some (.val (toV ad v)) := h.2.2 (i, toV ad v) ((lvl_mem ad lv 0 _).mpr ⟨i, v, hi, by rw [Nat.zero_add]⟩)
/-- a store of one slot: what stood before it may not be a long -/
def lok (lv : List (Option AV)) (i : Nat) : Bool := match i with
  | 0 => true
  | j + 1 => match lv[j]? with
    | some (some (.inr (.inl _))) => false
    | _ => true
theorem lvh_set1 {ad : Nat → Nat} {ls : Array Slot} {lv lv' : List (Option AV)} {i : Nat} {v : AV} (hk : lok lv i = true) (hl : lv.set i (some v) = lv') (hi : i < lv.length)
    (h : lv_has ls lv.length ((i, toV ad v) :: (lvl ad 0 lv).filter (fun q => !(q.1 == i) && !(q.1 + 1 == i && q.2.category == 2)))) : lvh ad ls lv' := by
  subst hl
  refine ⟨by rw [List.length_set]; exact h.1, h.2.1, fun q hq => h.2.2 q ?_⟩
  obtain ⟨j, w, h1, rfl⟩ := (lvl_mem ad _ 0 _).mp hq
  rw [Nat.zero_add]
  by_cases hj : j = i
  · subst hj
    rw [List.getElem?_set_self hi] at h1
    cases h1
    exact List.mem_cons_self
  · rw [List.getElem?_set_ne (Ne.symm hj)] at h1
    refine List.mem_cons_of_mem _ (List.mem_filter.mpr ⟨(lvl_mem ad lv 0 _).mpr ⟨j, w, h1, by rw [Nat.zero_add]⟩, ?_⟩)
    simp only [Bool.and_eq_true, Bool.not_eq_true', beq_eq_false_iff_ne, ne_eq, Bool.and_eq_false_iff]
    refine ⟨hj, ?_⟩
    by_cases e : j + 1 = i
    · right
      subst e
      rw [toV_cat]
      intro hc
      simp only [lok, h1] at hk
      match w, hc, hk with
      | .inl x, hc, _ => simp [avc] at hc
      | .inr (.inl x), _, hk => simp at hk
      | .inr (.inr r), hc, _ => simp [avc] at hc
    · left; exact e
theorem lvh_set2 {ad : Nat → Nat} {ls : Array Slot} {lv lv' : List (Option AV)} {i : Nat} {v : AV} (hk : lok lv i = true) (hl : (lv.set i (some v)).set (i + 1) none = lv') (hi : i + 1 < lv.length)
    (h : lv_has ls lv.length ((i, toV ad v) :: (lvl ad 0 lv).filter (fun q => !(q.1 == i) && (!(q.1 == i + 1) && !(q.1 + 1 == i && q.2.category == 2))))) : lvh ad ls lv' := by
  subst hl
  refine ⟨by rw [List.length_set, List.length_set]; exact h.1, h.2.1, fun q hq => h.2.2 q ?_⟩
  obtain ⟨j, w, h1, rfl⟩ := (lvl_mem ad _ 0 _).mp hq
  rw [Nat.zero_add]
  by_cases hj1 : j = i + 1
  · subst hj1
    rw [List.getElem?_set_self (by rw [List.length_set]; exact hi)] at h1
    cases h1
  rw [List.getElem?_set_ne (Ne.symm hj1)] at h1
  by_cases hj : j = i
  · subst hj
    rw [List.getElem?_set_self (by omega)] at h1
    cases h1
    exact List.mem_cons_self
  · rw [List.getElem?_set_ne (Ne.symm hj)] at h1
    refine List.mem_cons_of_mem _ (List.mem_filter.mpr ⟨(lvl_mem ad lv 0 _).mpr ⟨j, w, h1, by rw [Nat.zero_add]⟩, ?_⟩)
    simp only [Bool.and_eq_true, Bool.not_eq_true', beq_eq_false_iff_ne, ne_eq, Bool.and_eq_false_iff]
    refine ⟨hj, hj1, ?_⟩
    by_cases e : j + 1 = i
    · right
      subst e
      rw [toV_cat]
      intro hc
      simp only [lok, h1] at hk
      match w, hc, hk with
      | .inl x, hc, _ => simp [avc] at hc
      | .inr (.inl x), _, hk => simp at hk
      | .inr (.inr r), hc, _ => simp [avc] at hc
    · left; exact e
/-- fewer locals -/
def lmask : List Bool → List (Option AV) → List (Option AV)
  | true :: b, x :: r => x :: lmask b r
  | false :: b, _ :: r => none :: lmask b r
  | _, _ => []
theorem lmask_get : ∀ (b : List Bool) (lv : List (Option AV)) (i : Nat) (v : AV), (lmask b lv)[i]? = some (some v) → lv[i]? = some (some v)
  | [], lv, i, v, h => by simp [lmask] at h
  | true :: b, [], i, v, h => by simp [lmask] at h
  | false :: b, [], i, v, h => by simp [lmask] at h
  | true :: b, x :: r, 0, v, h => by simpa [lmask] using h
  | false :: b, x :: r, 0, v, h => by simp [lmask] at h
  | true :: b, x :: r, i + 1, v, h => by simp only [lmask, List.getElem?_cons_succ] at h ⊢; exact lmask_get b r i v h
  | false :: b, x :: r, i + 1, v, h => by simp only [lmask, List.getElem?_cons_succ] at h ⊢; exact lmask_get b r i v h
theorem lvh_mask {ad : Nat → Nat} {ls : Array Slot} {lv lv' : List (Option AV)} (b : List Bool) (h : lvh ad ls lv) (hl : lmask b lv = lv') (hn : lv'.length = lv.length) : lvh ad ls lv' := by
  subst hl
  refine ⟨by rw [hn]; exact h.1, h.2.1, fun q hq => h.2.2 q ?_⟩
  obtain ⟨j, w, h1, rfl⟩ := (lvl_mem ad _ 0 _).mp hq
  exact (lvl_mem ad lv 0 _).mpr ⟨j, w, lmask_get b lv j w h1, rfl⟩
