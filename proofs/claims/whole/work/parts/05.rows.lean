
abbrev Cx : Type := Program × Launch × Env × Room × State × MethodId × Array Value × List Frame × Method × Code × (State → Prop) × va_G × (Nat → ClassId) × (Nat → Nat) × (Nat → Prop)
def Wd (D : va_G) (cA : Nat → ClassId) (ad : Nat → Nat) (A : Nat → Prop) (H0 H : Heap) (locs : List Loc) (L : List DS) (M : Mem) : Prop :=
  va_P D cls (wsO cA ad M 0 L) H ∧ va_D A (wsO cA ad M 0 L) ∧ va_S A H0 H locs
def Wat (X : Cx) (cells slots : Nat) (L : List DS) (pc : Nat) (lv : List (Option AV)) (st : List AV) (M : Mem) : Prop := match X with
  | (p, l, e, R, s, m, args, below, meth, c, Q, D, cA, ad, A) => ∀ (H : Heap) (locs : List Loc) (ls : Array Slot), Wd D cA ad A s.heap H locs L M → lvh ad ls lv → W p l e R s m args below meth c H locs cells slots Q (F0 m pc ls (st.map (toV ad)))
def Cok (X : Cx) (cc : ByteArray) (own : String) (nL : Nat) (ret : Option FieldType) (lev c0 s0 : Nat) : Prop := match X with
  | (p, l, e, R, s, m, args, below, meth, c, Q, D, cA, ad, A) => CallFix p m c cc nL s args TB own ∧ va_K D cls (tys cA) s ∧ (∀ q, s.heap.size ≤ q → A q) ∧ meth.locks = false ∧ meth.sig.returnType = ret ∧ (lev ≤ R.frames ∧ 60 * lev ≤ R.locals ∧ R.cells = c0 ∧ R.slots = s0)
def PreB (D : va_G) (cA : Nat → ClassId) (ad : Nat → Nat) (L : List DS) (M : Mem) (sz : Nat) (U : State) : Prop :=
  U.heap.size = sz ∧ va_P D cls (wsO cA ad M 0 L) U.heap ∧ va_K D cls (tys cA) U ∧ va_D (fun _ => True) (wsO cA ad M 0 L)
def PostB (D : va_G) (cA : Nat → ClassId) (ad : Nat → Nat) (A : Nat → Prop) (L : List DS) (M : Mem) (t : State) : Prop :=
  va_P D cls (wsO cA ad M 0 L) t.heap ∧ va_K D cls (tys cA) t ∧ va_D A (wsO cA ad M 0 L)
abbrev rmD (lev mc ms : Nat) : Room := { frames := lev, cells := mc, slots := ms, locals := 60 * lev }
abbrev Aof (cA : Nat → ClassId) (ad : Nat → Nat) (M : Mem) (L : List DS) (sz : Nat) : Nat → Prop := va_A (wsO cA ad M 0 L) sz
/-- the contract of a method that answers an int -/
def CI (y : MethodName) (b : ByteArray) (n : Nat) (ret : Option FieldType) (lev mc ms : Nat) (L L' : List DS) (as : List AV) (M : Mem) (Qn : Int32 → Mem → Prop) : Prop :=
  ∀ (l : Launch) (D : va_G) (cA : Nat → ClassId) (ad : Nat → Nat) (sz : Nat), Met l y (.code y b n ret :: TB) (rmD lev mc ms) (va_Pc (as.map (toV ad)) (PreB D cA ad L M sz)) (va_Qi Qn (PostB D cA ad (Aof cA ad M L sz) L') (Aof cA ad M L sz)) mc ms (Aof cA ad M L sz)
def CL (y : MethodName) (b : ByteArray) (n : Nat) (ret : Option FieldType) (lev mc ms : Nat) (L L' : List DS) (as : List AV) (M : Mem) (Qn : Int64 → Mem → Prop) : Prop :=
  ∀ (l : Launch) (D : va_G) (cA : Nat → ClassId) (ad : Nat → Nat) (sz : Nat), Met l y (.code y b n ret :: TB) (rmD lev mc ms) (va_Pc (as.map (toV ad)) (PreB D cA ad L M sz)) (va_Ql Qn (PostB D cA ad (Aof cA ad M L sz) L') (Aof cA ad M L sz)) mc ms (Aof cA ad M L sz)
def CV (y : MethodName) (b : ByteArray) (n : Nat) (ret : Option FieldType) (lev mc ms : Nat) (L L' : List DS) (as : List AV) (M : Mem) (Qn : Mem → Prop) : Prop :=
  ∀ (l : Launch) (D : va_G) (cA : Nat → ClassId) (ad : Nat → Nat) (sz : Nat), Met l y (.code y b n ret :: TB) (rmD lev mc ms) (va_Pc (as.map (toV ad)) (PreB D cA ad L M sz)) (va_Qv Qn (PostB D cA ad (Aof cA ad M L sz) L') (Aof cA ad M L sz)) mc ms (Aof cA ad M L sz)
def bQ (Qb : Bool → Mem → Prop) : Int32 → Mem → Prop := fun r M => ∃ b, r = b2i b ∧ Qb b M
/-- what the machine must come to, by what the method answers -/
def RI (X : Cx) (cells slots : Nat) (L : List DS) (Qn : Int32 → Mem → Prop) : Prop := match X with
  | (p, l, e, R, s, m, args, below, meth, c, Q, D, cA, ad, A) => Q = MQ below (va_Qi Qn (PostB D cA ad A L) A) args s cells slots A
def RL_ (X : Cx) (cells slots : Nat) (L : List DS) (Qn : Int64 → Mem → Prop) : Prop := match X with
  | (p, l, e, R, s, m, args, below, meth, c, Q, D, cA, ad, A) => Q = MQ below (va_Ql Qn (PostB D cA ad A L) A) args s cells slots A
def RV (X : Cx) (cells slots : Nat) (L : List DS) (Qn : Mem → Prop) : Prop := match X with
  | (p, l, e, R, s, m, args, below, meth, c, Q, D, cA, ad, A) => Q = MQ below (va_Qv Qn (PostB D cA ad A L) A) args s cells slots A
/-- entry locals of arguments -/
def lve : List AV → Nat → List (Option AV)
  | _, 0 => []
  | [], n + 1 => none :: lve [] n
  | .inr (.inl x) :: as, 1 => [some (.inr (.inl x))]
  | .inr (.inl x) :: as, n + 2 => some (.inr (.inl x)) :: none :: lve as n
  | v :: as, n + 1 => some v :: lve as n
section
variable {X : Cx} {cc : ByteArray} {own : String} {nL : Nat} {ret : Option FieldType} {lev c0 s0 cells slots pc : Nat} {L : List DS} {lv : List (Option AV)} {st : List AV} {M : Mem}

theorem s_iconst (hX : Cok X cc own nL ret lev c0 s0) {n : Int} {v : Int32} (d : decode cc pc = .ok (.iconst n, 1)) (hv : Int32.ofInt n = v) (k : Wat X cells slots L (pc + 1) lv (vi v :: st) M) : Wat X cells slots L pc lv (st) M := by
  obtain ⟨p, l, e, R, s, m, args, below, meth, c, Q, D, cA, ad, A⟩ := X
  obtain ⟨⟨hx, hb, hml, hown, hts⟩, hK, hA, hlk, hrt, hR⟩ := hX
  intro H locs ls hw hl
  exact lv_iconst hx hb d hv (k H locs ls hw hl)
theorem s_bipush (hX : Cok X cc own nL ret lev c0 s0) {n : Int} {v : Int32} (d : decode cc pc = .ok (.bipush n, 2)) (hv : (Int8.ofInt n).toInt32 = v) (k : Wat X cells slots L (pc + 2) lv (vi v :: st) M) : Wat X cells slots L pc lv (st) M := by
  obtain ⟨p, l, e, R, s, m, args, below, meth, c, Q, D, cA, ad, A⟩ := X
  obtain ⟨⟨hx, hb, hml, hown, hts⟩, hK, hA, hlk, hrt, hR⟩ := hX
  intro H locs ls hw hl
  exact lv_bipush hx hb d hv (k H locs ls hw hl)
theorem s_sipush (hX : Cok X cc own nL ret lev c0 s0) {n : Int} {v : Int32} (d : decode cc pc = .ok (.sipush n, 3)) (hv : (Int16.ofInt n).toInt32 = v) (k : Wat X cells slots L (pc + 3) lv (vi v :: st) M) : Wat X cells slots L pc lv (st) M := by
  obtain ⟨p, l, e, R, s, m, args, below, meth, c, Q, D, cA, ad, A⟩ := X
  obtain ⟨⟨hx, hb, hml, hown, hts⟩, hK, hA, hlk, hrt, hR⟩ := hX
  intro H locs ls hw hl
  exact lv_sipush hx hb d hv (k H locs ls hw hl)
theorem s_lconst (hX : Cok X cc own nL ret lev c0 s0) {n : Fin 2} {v : Int64} (d : decode cc pc = .ok (.lconst n, 1)) (hv : Int64.ofNat (n : Nat) = v) (k : Wat X cells slots L (pc + 1) lv (vl v :: st) M) : Wat X cells slots L pc lv (st) M := by
  obtain ⟨p, l, e, R, s, m, args, below, meth, c, Q, D, cA, ad, A⟩ := X
  obtain ⟨⟨hx, hb, hml, hown, hts⟩, hK, hA, hlk, hrt, hR⟩ := hX
  intro H locs ls hw hl
  exact lv_lconst hx hb d hv (k H locs ls hw hl)
theorem s_ldc (hX : Cok X cc own nL ret lev c0 s0) {i : Nat} {v : Int32} (hc : Cond.constant own i v ∈ TB) (d : decode cc pc = .ok (.ldc i, 2)) (k : Wat X cells slots L (pc + 2) lv (vi v :: st) M) : Wat X cells slots L pc lv (st) M := by
  obtain ⟨p, l, e, R, s, m, args, below, meth, c, Q, D, cA, ad, A⟩ := X
  obtain ⟨⟨hx, hb, hml, hown, hts⟩, hK, hA, hlk, hrt, hR⟩ := hX
  intro H locs ls hw hl
  exact lv_ldc hx hb hown (hts _ hc) d (k H locs ls hw hl)
theorem s_ldcw (hX : Cok X cc own nL ret lev c0 s0) {i : Nat} {v : Int32} (hc : Cond.constant own i v ∈ TB) (d : decode cc pc = .ok (.ldc_w i, 3)) (k : Wat X cells slots L (pc + 3) lv (vi v :: st) M) : Wat X cells slots L pc lv (st) M := by
  obtain ⟨p, l, e, R, s, m, args, below, meth, c, Q, D, cA, ad, A⟩ := X
  obtain ⟨⟨hx, hb, hml, hown, hts⟩, hK, hA, hlk, hrt, hR⟩ := hX
  intro H locs ls hw hl
  exact lv_ldcw hx hb hown (hts _ hc) d (k H locs ls hw hl)
theorem s_ldc2 (hX : Cok X cc own nL ret lev c0 s0) {i : Nat} {v : Int64} (hc : Cond.constantLong own i v ∈ TB) (d : decode cc pc = .ok (.ldc2_w i, 3)) (k : Wat X cells slots L (pc + 3) lv (vl v :: st) M) : Wat X cells slots L pc lv (st) M := by
  obtain ⟨p, l, e, R, s, m, args, below, meth, c, Q, D, cA, ad, A⟩ := X
  obtain ⟨⟨hx, hb, hml, hown, hts⟩, hK, hA, hlk, hrt, hR⟩ := hX
  intro H locs ls hw hl
  exact lv_ldc2 hx hb hown (hts _ hc) d (k H locs ls hw hl)
theorem s_iload (hX : Cok X cc own nL ret lev c0 s0) {i : Nat} {x : Int32} (d : decode cc pc = .ok (.iload i, 2)) (h : lv[i]? = some (some (vi x))) (k : Wat X cells slots L (pc + 2) lv (vi x :: st) M) : Wat X cells slots L pc lv (st) M := by
  obtain ⟨p, l, e, R, s, m, args, below, meth, c, Q, D, cA, ad, A⟩ := X
  obtain ⟨⟨hx, hb, hml, hown, hts⟩, hK, hA, hlk, hrt, hR⟩ := hX
  intro H locs ls hw hl
  exact lv_iload hx hb d (lvh_at hl h) (k H locs ls hw hl)
theorem s_iload_n (hX : Cok X cc own nL ret lev c0 s0) {i : Fin 4} {x : Int32} (d : decode cc pc = .ok (.iload_n i, 1)) (h : lv[(i : Nat)]? = some (some (vi x))) (k : Wat X cells slots L (pc + 1) lv (vi x :: st) M) : Wat X cells slots L pc lv (st) M := by
  obtain ⟨p, l, e, R, s, m, args, below, meth, c, Q, D, cA, ad, A⟩ := X
  obtain ⟨⟨hx, hb, hml, hown, hts⟩, hK, hA, hlk, hrt, hR⟩ := hX
  intro H locs ls hw hl
  exact lv_iload_n hx hb d rfl (lvh_at hl h) (k H locs ls hw hl)
theorem s_lload (hX : Cok X cc own nL ret lev c0 s0) {i : Nat} {x : Int64} (d : decode cc pc = .ok (.lload i, 2)) (h : lv[i]? = some (some (vl x))) (k : Wat X cells slots L (pc + 2) lv (vl x :: st) M) : Wat X cells slots L pc lv (st) M := by
  obtain ⟨p, l, e, R, s, m, args, below, meth, c, Q, D, cA, ad, A⟩ := X
  obtain ⟨⟨hx, hb, hml, hown, hts⟩, hK, hA, hlk, hrt, hR⟩ := hX
  intro H locs ls hw hl
  exact lv_lload hx hb d (lvh_at hl h) (k H locs ls hw hl)
theorem s_lload_n (hX : Cok X cc own nL ret lev c0 s0) {i : Fin 4} {x : Int64} (d : decode cc pc = .ok (.lload_n i, 1)) (h : lv[(i : Nat)]? = some (some (vl x))) (k : Wat X cells slots L (pc + 1) lv (vl x :: st) M) : Wat X cells slots L pc lv (st) M := by
  obtain ⟨p, l, e, R, s, m, args, below, meth, c, Q, D, cA, ad, A⟩ := X
  obtain ⟨⟨hx, hb, hml, hown, hts⟩, hK, hA, hlk, hrt, hR⟩ := hX
  intro H locs ls hw hl
  exact lv_lload_n hx hb d rfl (lvh_at hl h) (k H locs ls hw hl)
theorem s_aload (hX : Cok X cc own nL ret lev c0 s0) {i : Nat} {x : Nat} (d : decode cc pc = .ok (.aload i, 2)) (h : lv[i]? = some (some (vr x))) (k : Wat X cells slots L (pc + 2) lv (vr x :: st) M) : Wat X cells slots L pc lv (st) M := by
  obtain ⟨p, l, e, R, s, m, args, below, meth, c, Q, D, cA, ad, A⟩ := X
  obtain ⟨⟨hx, hb, hml, hown, hts⟩, hK, hA, hlk, hrt, hR⟩ := hX
  intro H locs ls hw hl
  exact lv_aload hx hb d (lvh_at hl h) (k H locs ls hw hl)
theorem s_aload_n (hX : Cok X cc own nL ret lev c0 s0) {i : Fin 4} {x : Nat} (d : decode cc pc = .ok (.aload_n i, 1)) (h : lv[(i : Nat)]? = some (some (vr x))) (k : Wat X cells slots L (pc + 1) lv (vr x :: st) M) : Wat X cells slots L pc lv (st) M := by
  obtain ⟨p, l, e, R, s, m, args, below, meth, c, Q, D, cA, ad, A⟩ := X
  obtain ⟨⟨hx, hb, hml, hown, hts⟩, hK, hA, hlk, hrt, hR⟩ := hX
  intro H locs ls hw hl
  exact lv_aload_n hx hb d rfl (lvh_at hl h) (k H locs ls hw hl)
theorem s_istore (hX : Cok X cc own nL ret lev c0 s0) {i : Nat} {x : Int32} {lv' : List (Option AV)} (d : decode cc pc = .ok (.istore i, 2)) (h1 : lok lv i = true) (h2 : lv.set i (some (vi x)) = lv') (h3 : i < lv.length) (k : Wat X cells slots L (pc + 2) lv' (st) M) : Wat X cells slots L pc lv (vi x :: st) M := by
  obtain ⟨p, l, e, R, s, m, args, below, meth, c, Q, D, cA, ad, A⟩ := X
  obtain ⟨⟨hx, hb, hml, hown, hts⟩, hK, hA, hlk, hrt, hR⟩ := hX
  intro H locs ls hw hl
  exact lv_istore hx hb d hl h3 rfl (fun ls1 hl1 => k H locs ls1 hw (lvh_set1 h1 h2 h3 hl1))
theorem s_istore_n (hX : Cok X cc own nL ret lev c0 s0) {i : Fin 4} {x : Int32} {lv' : List (Option AV)} (d : decode cc pc = .ok (.istore_n i, 1)) (h1 : lok lv i = true) (h2 : lv.set i (some (vi x)) = lv') (h3 : (i : Nat) < lv.length) (k : Wat X cells slots L (pc + 1) lv' (st) M) : Wat X cells slots L pc lv (vi x :: st) M := by
  obtain ⟨p, l, e, R, s, m, args, below, meth, c, Q, D, cA, ad, A⟩ := X
  obtain ⟨⟨hx, hb, hml, hown, hts⟩, hK, hA, hlk, hrt, hR⟩ := hX
  intro H locs ls hw hl
  exact lv_istore_n hx hb d rfl hl h3 rfl (fun ls1 hl1 => k H locs ls1 hw (lvh_set1 h1 h2 h3 hl1))
theorem s_astore (hX : Cok X cc own nL ret lev c0 s0) {i : Nat} {x : Nat} {lv' : List (Option AV)} (d : decode cc pc = .ok (.astore i, 2)) (h1 : lok lv i = true) (h2 : lv.set i (some (vr x)) = lv') (h3 : i < lv.length) (k : Wat X cells slots L (pc + 2) lv' (st) M) : Wat X cells slots L pc lv (vr x :: st) M := by
  obtain ⟨p, l, e, R, s, m, args, below, meth, c, Q, D, cA, ad, A⟩ := X
  obtain ⟨⟨hx, hb, hml, hown, hts⟩, hK, hA, hlk, hrt, hR⟩ := hX
  intro H locs ls hw hl
  exact lv_astore hx hb d hl h3 rfl (fun ls1 hl1 => k H locs ls1 hw (lvh_set1 h1 h2 h3 hl1))
theorem s_astore_n (hX : Cok X cc own nL ret lev c0 s0) {i : Fin 4} {x : Nat} {lv' : List (Option AV)} (d : decode cc pc = .ok (.astore_n i, 1)) (h1 : lok lv i = true) (h2 : lv.set i (some (vr x)) = lv') (h3 : (i : Nat) < lv.length) (k : Wat X cells slots L (pc + 1) lv' (st) M) : Wat X cells slots L pc lv (vr x :: st) M := by
  obtain ⟨p, l, e, R, s, m, args, below, meth, c, Q, D, cA, ad, A⟩ := X
  obtain ⟨⟨hx, hb, hml, hown, hts⟩, hK, hA, hlk, hrt, hR⟩ := hX
  intro H locs ls hw hl
  exact lv_astore_n hx hb d rfl hl h3 rfl (fun ls1 hl1 => k H locs ls1 hw (lvh_set1 h1 h2 h3 hl1))
theorem s_lstore (hX : Cok X cc own nL ret lev c0 s0) {i : Nat} {x : Int64} {lv' : List (Option AV)} (d : decode cc pc = .ok (.lstore i, 2)) (h1 : lok lv i = true) (h2 : (lv.set i (some (vl x))).set (i + 1) none = lv') (h3 : i + 1 < lv.length) (k : Wat X cells slots L (pc + 2) lv' (st) M) : Wat X cells slots L pc lv (vl x :: st) M := by
  obtain ⟨p, l, e, R, s, m, args, below, meth, c, Q, D, cA, ad, A⟩ := X
  obtain ⟨⟨hx, hb, hml, hown, hts⟩, hK, hA, hlk, hrt, hR⟩ := hX
  intro H locs ls hw hl
  exact lv_lstore hx hb d hl h3 rfl (fun ls1 hl1 => k H locs ls1 hw (lvh_set2 h1 h2 h3 hl1))
theorem s_lstore_n (hX : Cok X cc own nL ret lev c0 s0) {i : Fin 4} {x : Int64} {lv' : List (Option AV)} (d : decode cc pc = .ok (.lstore_n i, 1)) (h1 : lok lv i = true) (h2 : (lv.set i (some (vl x))).set (i + 1) none = lv') (h3 : (i : Nat) + 1 < lv.length) (k : Wat X cells slots L (pc + 1) lv' (st) M) : Wat X cells slots L pc lv (vl x :: st) M := by
  obtain ⟨p, l, e, R, s, m, args, below, meth, c, Q, D, cA, ad, A⟩ := X
  obtain ⟨⟨hx, hb, hml, hown, hts⟩, hK, hA, hlk, hrt, hR⟩ := hX
  intro H locs ls hw hl
  exact lv_lstore_n hx hb d rfl hl h3 rfl (fun ls1 hl1 => k H locs ls1 hw (lvh_set2 h1 h2 h3 hl1))
theorem s_iinc (hX : Cok X cc own nL ret lev c0 s0) {i : Nat} {n : Int} {x v : Int32} {lv' : List (Option AV)} (d : decode cc pc = .ok (.iinc i n, 3)) (h : lv[i]? = some (some (vi x))) (hv : x + Int32.ofInt n = v) (h1 : lok lv i = true) (h2 : lv.set i (some (vi v)) = lv') (k : Wat X cells slots L (pc + 3) lv' (st) M) : Wat X cells slots L pc lv (st) M := by
  obtain ⟨p, l, e, R, s, m, args, below, meth, c, Q, D, cA, ad, A⟩ := X
  obtain ⟨⟨hx, hb, hml, hown, hts⟩, hK, hA, hlk, hrt, hR⟩ := hX
  intro H locs ls hw hl
  have h3 : i < lv.length := (List.getElem?_eq_some_iff.mp h).1
  obtain ⟨kk, hkk⟩ := List.getElem?_of_mem ((lvl_mem ad lv 0 (i, .int x)).mpr ⟨i, vi x, h, by rw [Nat.zero_add]; rfl⟩)
  exact lv_iinc hx hb d hl hkk hv h3 rfl (fun ls1 hl1 => k H locs ls1 hw (lvh_set1 h1 h2 h3 hl1))
theorem s_iadd (hX : Cok X cc own nL ret lev c0 s0) {x y : Int32} (d : decode cc pc = .ok (.iadd, 1)) (k : Wat X cells slots L (pc + 1) lv (vi (x + y) :: st) M) : Wat X cells slots L pc lv (vi y :: vi x :: st) M := by
  obtain ⟨p, l, e, R, s, m, args, below, meth, c, Q, D, cA, ad, A⟩ := X
  obtain ⟨⟨hx, hb, hml, hown, hts⟩, hK, hA, hlk, hrt, hR⟩ := hX
  intro H locs ls hw hl
  exact lv_iadd hx hb d (k H locs ls hw hl)
theorem s_isub (hX : Cok X cc own nL ret lev c0 s0) {x y : Int32} (d : decode cc pc = .ok (.isub, 1)) (k : Wat X cells slots L (pc + 1) lv (vi (x - y) :: st) M) : Wat X cells slots L pc lv (vi y :: vi x :: st) M := by
  obtain ⟨p, l, e, R, s, m, args, below, meth, c, Q, D, cA, ad, A⟩ := X
  obtain ⟨⟨hx, hb, hml, hown, hts⟩, hK, hA, hlk, hrt, hR⟩ := hX
  intro H locs ls hw hl
  exact lv_isub hx hb d (k H locs ls hw hl)
theorem s_imul (hX : Cok X cc own nL ret lev c0 s0) {x y : Int32} (d : decode cc pc = .ok (.imul, 1)) (k : Wat X cells slots L (pc + 1) lv (vi (x * y) :: st) M) : Wat X cells slots L pc lv (vi y :: vi x :: st) M := by
  obtain ⟨p, l, e, R, s, m, args, below, meth, c, Q, D, cA, ad, A⟩ := X
  obtain ⟨⟨hx, hb, hml, hown, hts⟩, hK, hA, hlk, hrt, hR⟩ := hX
  intro H locs ls hw hl
  exact lv_imul hx hb d (k H locs ls hw hl)
theorem s_iand (hX : Cok X cc own nL ret lev c0 s0) {x y : Int32} (d : decode cc pc = .ok (.iand, 1)) (k : Wat X cells slots L (pc + 1) lv (vi (x &&& y) :: st) M) : Wat X cells slots L pc lv (vi y :: vi x :: st) M := by
  obtain ⟨p, l, e, R, s, m, args, below, meth, c, Q, D, cA, ad, A⟩ := X
  obtain ⟨⟨hx, hb, hml, hown, hts⟩, hK, hA, hlk, hrt, hR⟩ := hX
  intro H locs ls hw hl
  exact lv_iand hx hb d (k H locs ls hw hl)
theorem s_ior (hX : Cok X cc own nL ret lev c0 s0) {x y : Int32} (d : decode cc pc = .ok (.ior, 1)) (k : Wat X cells slots L (pc + 1) lv (vi (x ||| y) :: st) M) : Wat X cells slots L pc lv (vi y :: vi x :: st) M := by
  obtain ⟨p, l, e, R, s, m, args, below, meth, c, Q, D, cA, ad, A⟩ := X
  obtain ⟨⟨hx, hb, hml, hown, hts⟩, hK, hA, hlk, hrt, hR⟩ := hX
  intro H locs ls hw hl
  exact lv_ior hx hb d (k H locs ls hw hl)
theorem s_ixor (hX : Cok X cc own nL ret lev c0 s0) {x y : Int32} (d : decode cc pc = .ok (.ixor, 1)) (k : Wat X cells slots L (pc + 1) lv (vi (x ^^^ y) :: st) M) : Wat X cells slots L pc lv (vi y :: vi x :: st) M := by
  obtain ⟨p, l, e, R, s, m, args, below, meth, c, Q, D, cA, ad, A⟩ := X
  obtain ⟨⟨hx, hb, hml, hown, hts⟩, hK, hA, hlk, hrt, hR⟩ := hX
  intro H locs ls hw hl
  exact lv_ixor hx hb d (k H locs ls hw hl)
theorem s_ishl (hX : Cok X cc own nL ret lev c0 s0) {x y : Int32} (d : decode cc pc = .ok (.ishl, 1)) (k : Wat X cells slots L (pc + 1) lv (vi (x <<< (y &&& 31)) :: st) M) : Wat X cells slots L pc lv (vi y :: vi x :: st) M := by
  obtain ⟨p, l, e, R, s, m, args, below, meth, c, Q, D, cA, ad, A⟩ := X
  obtain ⟨⟨hx, hb, hml, hown, hts⟩, hK, hA, hlk, hrt, hR⟩ := hX
  intro H locs ls hw hl
  exact lv_ishl hx hb d (k H locs ls hw hl)
theorem s_ishr (hX : Cok X cc own nL ret lev c0 s0) {x y : Int32} (d : decode cc pc = .ok (.ishr, 1)) (k : Wat X cells slots L (pc + 1) lv (vi (x >>> (y &&& 31)) :: st) M) : Wat X cells slots L pc lv (vi y :: vi x :: st) M := by
  obtain ⟨p, l, e, R, s, m, args, below, meth, c, Q, D, cA, ad, A⟩ := X
  obtain ⟨⟨hx, hb, hml, hown, hts⟩, hK, hA, hlk, hrt, hR⟩ := hX
  intro H locs ls hw hl
  exact lv_ishr hx hb d (k H locs ls hw hl)
theorem s_idiv (hX : Cok X cc own nL ret lev c0 s0) {x y : Int32} (d : decode cc pc = .ok (.idiv, 1)) (hne : ¬ y = 0) (k : Wat X cells slots L (pc + 1) lv (vi (x / y) :: st) M) : Wat X cells slots L pc lv (vi y :: vi x :: st) M := by
  obtain ⟨p, l, e, R, s, m, args, below, meth, c, Q, D, cA, ad, A⟩ := X
  obtain ⟨⟨hx, hb, hml, hown, hts⟩, hK, hA, hlk, hrt, hR⟩ := hX
  intro H locs ls hw hl
  exact lv_idiv hx hb d hne (k H locs ls hw hl)
theorem s_irem (hX : Cok X cc own nL ret lev c0 s0) {x y : Int32} (d : decode cc pc = .ok (.irem, 1)) (hne : ¬ y = 0) (k : Wat X cells slots L (pc + 1) lv (vi (x - x / y * y) :: st) M) : Wat X cells slots L pc lv (vi y :: vi x :: st) M := by
  obtain ⟨p, l, e, R, s, m, args, below, meth, c, Q, D, cA, ad, A⟩ := X
  obtain ⟨⟨hx, hb, hml, hown, hts⟩, hK, hA, hlk, hrt, hR⟩ := hX
  intro H locs ls hw hl
  exact lv_irem hx hb d hne (k H locs ls hw hl)
theorem s_iushr (hX : Cok X cc own nL ret lev c0 s0) {x y : Int32} (d : decode cc pc = .ok (.iushr, 1)) (k : Wat X cells slots L (pc + 1) lv (vi (x.toUInt32 >>> (y.toUInt32 &&& Int32.toUInt32 31)).toInt32 :: st) M) : Wat X cells slots L pc lv (vi y :: vi x :: st) M := by
  obtain ⟨p, l, e, R, s, m, args, below, meth, c, Q, D, cA, ad, A⟩ := X
  obtain ⟨⟨hx, hb, hml, hown, hts⟩, hK, hA, hlk, hrt, hR⟩ := hX
  intro H locs ls hw hl
  exact lv_iushr hx hb d rfl (k H locs ls hw hl)
theorem s_ineg (hX : Cok X cc own nL ret lev c0 s0) {x : Int32} (d : decode cc pc = .ok (.ineg, 1)) (k : Wat X cells slots L (pc + 1) lv (vi (-x) :: st) M) : Wat X cells slots L pc lv (vi x :: st) M := by
  obtain ⟨p, l, e, R, s, m, args, below, meth, c, Q, D, cA, ad, A⟩ := X
  obtain ⟨⟨hx, hb, hml, hown, hts⟩, hK, hA, hlk, hrt, hR⟩ := hX
  intro H locs ls hw hl
  exact lv_ineg hx hb d (k H locs ls hw hl)
theorem s_ladd (hX : Cok X cc own nL ret lev c0 s0) {x y : Int64} (d : decode cc pc = .ok (.ladd, 1)) (k : Wat X cells slots L (pc + 1) lv (vl (x + y) :: st) M) : Wat X cells slots L pc lv (vl y :: vl x :: st) M := by
  obtain ⟨p, l, e, R, s, m, args, below, meth, c, Q, D, cA, ad, A⟩ := X
  obtain ⟨⟨hx, hb, hml, hown, hts⟩, hK, hA, hlk, hrt, hR⟩ := hX
  intro H locs ls hw hl
  exact lv_ladd hx hb d (k H locs ls hw hl)
theorem s_lsub (hX : Cok X cc own nL ret lev c0 s0) {x y : Int64} (d : decode cc pc = .ok (.lsub, 1)) (k : Wat X cells slots L (pc + 1) lv (vl (x - y) :: st) M) : Wat X cells slots L pc lv (vl y :: vl x :: st) M := by
  obtain ⟨p, l, e, R, s, m, args, below, meth, c, Q, D, cA, ad, A⟩ := X
  obtain ⟨⟨hx, hb, hml, hown, hts⟩, hK, hA, hlk, hrt, hR⟩ := hX
  intro H locs ls hw hl
  exact lv_lsub hx hb d (k H locs ls hw hl)
theorem s_lmul (hX : Cok X cc own nL ret lev c0 s0) {x y : Int64} (d : decode cc pc = .ok (.lmul, 1)) (k : Wat X cells slots L (pc + 1) lv (vl (x * y) :: st) M) : Wat X cells slots L pc lv (vl y :: vl x :: st) M := by
  obtain ⟨p, l, e, R, s, m, args, below, meth, c, Q, D, cA, ad, A⟩ := X
  obtain ⟨⟨hx, hb, hml, hown, hts⟩, hK, hA, hlk, hrt, hR⟩ := hX
  intro H locs ls hw hl
  exact lv_lmul hx hb d (k H locs ls hw hl)
theorem s_land (hX : Cok X cc own nL ret lev c0 s0) {x y : Int64} (d : decode cc pc = .ok (.land, 1)) (k : Wat X cells slots L (pc + 1) lv (vl (x &&& y) :: st) M) : Wat X cells slots L pc lv (vl y :: vl x :: st) M := by
  obtain ⟨p, l, e, R, s, m, args, below, meth, c, Q, D, cA, ad, A⟩ := X
  obtain ⟨⟨hx, hb, hml, hown, hts⟩, hK, hA, hlk, hrt, hR⟩ := hX
  intro H locs ls hw hl
  exact lv_land hx hb d (k H locs ls hw hl)
theorem s_lor (hX : Cok X cc own nL ret lev c0 s0) {x y : Int64} (d : decode cc pc = .ok (.lor, 1)) (k : Wat X cells slots L (pc + 1) lv (vl (x ||| y) :: st) M) : Wat X cells slots L pc lv (vl y :: vl x :: st) M := by
  obtain ⟨p, l, e, R, s, m, args, below, meth, c, Q, D, cA, ad, A⟩ := X
  obtain ⟨⟨hx, hb, hml, hown, hts⟩, hK, hA, hlk, hrt, hR⟩ := hX
  intro H locs ls hw hl
  exact lv_lor hx hb d (k H locs ls hw hl)
theorem s_lshl (hX : Cok X cc own nL ret lev c0 s0) {x : Int64} {y : Int32} (d : decode cc pc = .ok (.lshl, 1)) (k : Wat X cells slots L (pc + 1) lv (vl (x <<< (y.toInt64 &&& 63)) :: st) M) : Wat X cells slots L pc lv (vi y :: vl x :: st) M := by
  obtain ⟨p, l, e, R, s, m, args, below, meth, c, Q, D, cA, ad, A⟩ := X
  obtain ⟨⟨hx, hb, hml, hown, hts⟩, hK, hA, hlk, hrt, hR⟩ := hX
  intro H locs ls hw hl
  exact lv_lshl hx hb d rfl (k H locs ls hw hl)
theorem s_lshr (hX : Cok X cc own nL ret lev c0 s0) {x : Int64} {y : Int32} (d : decode cc pc = .ok (.lshr, 1)) (k : Wat X cells slots L (pc + 1) lv (vl (x >>> (y.toInt64 &&& 63)) :: st) M) : Wat X cells slots L pc lv (vi y :: vl x :: st) M := by
  obtain ⟨p, l, e, R, s, m, args, below, meth, c, Q, D, cA, ad, A⟩ := X
  obtain ⟨⟨hx, hb, hml, hown, hts⟩, hK, hA, hlk, hrt, hR⟩ := hX
  intro H locs ls hw hl
  exact lv_lshr hx hb d rfl (k H locs ls hw hl)
theorem s_lushr (hX : Cok X cc own nL ret lev c0 s0) {x : Int64} {y : Int32} (d : decode cc pc = .ok (.lushr, 1)) (k : Wat X cells slots L (pc + 1) lv (vl ((x.toUInt64 >>> (y.toInt64.toUInt64 &&& Int64.toUInt64 63)).toInt64) :: st) M) : Wat X cells slots L pc lv (vi y :: vl x :: st) M := by
  obtain ⟨p, l, e, R, s, m, args, below, meth, c, Q, D, cA, ad, A⟩ := X
  obtain ⟨⟨hx, hb, hml, hown, hts⟩, hK, hA, hlk, hrt, hR⟩ := hX
  intro H locs ls hw hl
  exact lv_lushr hx hb d rfl (k H locs ls hw hl)
theorem s_i2l (hX : Cok X cc own nL ret lev c0 s0) {x : Int32} (d : decode cc pc = .ok (.i2l, 1)) (k : Wat X cells slots L (pc + 1) lv (vl x.toInt64 :: st) M) : Wat X cells slots L pc lv (vi x :: st) M := by
  obtain ⟨p, l, e, R, s, m, args, below, meth, c, Q, D, cA, ad, A⟩ := X
  obtain ⟨⟨hx, hb, hml, hown, hts⟩, hK, hA, hlk, hrt, hR⟩ := hX
  intro H locs ls hw hl
  exact lv_i2l hx hb d rfl (k H locs ls hw hl)
theorem s_l2i (hX : Cok X cc own nL ret lev c0 s0) {x : Int64} (d : decode cc pc = .ok (.l2i, 1)) (k : Wat X cells slots L (pc + 1) lv (vi x.toInt32 :: st) M) : Wat X cells slots L pc lv (vl x :: st) M := by
  obtain ⟨p, l, e, R, s, m, args, below, meth, c, Q, D, cA, ad, A⟩ := X
  obtain ⟨⟨hx, hb, hml, hown, hts⟩, hK, hA, hlk, hrt, hR⟩ := hX
  intro H locs ls hw hl
  exact lv_l2i hx hb d rfl (k H locs ls hw hl)
theorem s_i2c (hX : Cok X cc own nL ret lev c0 s0) {x : Int32} (d : decode cc pc = .ok (.i2c, 1)) (k : Wat X cells slots L (pc + 1) lv (vi (x.toUInt32 % 65536).toInt32 :: st) M) : Wat X cells slots L pc lv (vi x :: st) M := by
  obtain ⟨p, l, e, R, s, m, args, below, meth, c, Q, D, cA, ad, A⟩ := X
  obtain ⟨⟨hx, hb, hml, hown, hts⟩, hK, hA, hlk, hrt, hR⟩ := hX
  intro H locs ls hw hl
  exact lv_i2c hx hb d rfl (k H locs ls hw hl)
theorem s_lcmp (hX : Cok X cc own nL ret lev c0 s0) {x y : Int64} (d : decode cc pc = .ok (.lcmp, 1)) (k : Wat X cells slots L (pc + 1) lv (vi (lg_cmp x y) :: st) M) : Wat X cells slots L pc lv (vl y :: vl x :: st) M := by
  obtain ⟨p, l, e, R, s, m, args, below, meth, c, Q, D, cA, ad, A⟩ := X
  obtain ⟨⟨hx, hb, hml, hown, hts⟩, hK, hA, hlk, hrt, hR⟩ := hX
  intro H locs ls hw hl
  exact W.lcmp hx hb d (k H locs ls hw hl)
theorem s_dup (hX : Cok X cc own nL ret lev c0 s0) {v : AV} (d : decode cc pc = .ok (.dup, 1)) (hv : avc v = 1) (k : Wat X cells slots L (pc + 1) lv (v :: v :: st) M) : Wat X cells slots L pc lv (v :: st) M := by
  obtain ⟨p, l, e, R, s, m, args, below, meth, c, Q, D, cA, ad, A⟩ := X
  obtain ⟨⟨hx, hb, hml, hown, hts⟩, hK, hA, hlk, hrt, hR⟩ := hX
  intro H locs ls hw hl
  exact lv_dup hx hb d (by rw [toV_cat]; exact hv) (k H locs ls hw hl)
theorem s_pop (hX : Cok X cc own nL ret lev c0 s0) {v : AV} (d : decode cc pc = .ok (.pop, 1)) (hv : avc v = 1) (k : Wat X cells slots L (pc + 1) lv (st) M) : Wat X cells slots L pc lv (v :: st) M := by
  obtain ⟨p, l, e, R, s, m, args, below, meth, c, Q, D, cA, ad, A⟩ := X
  obtain ⟨⟨hx, hb, hml, hown, hts⟩, hK, hA, hlk, hrt, hR⟩ := hX
  intro H locs ls hw hl
  exact lv_pop hx hb d (by rw [toV_cat]; exact hv) (k H locs ls hw hl)
theorem s_dup2 (hX : Cok X cc own nL ret lev c0 s0) {v u : AV} (d : decode cc pc = .ok (.dup2, 1)) (hv : avc v = 1) (hu : avc u = 1) (k : Wat X cells slots L (pc + 1) lv (v :: u :: v :: u :: st) M) : Wat X cells slots L pc lv (v :: u :: st) M := by
  obtain ⟨p, l, e, R, s, m, args, below, meth, c, Q, D, cA, ad, A⟩ := X
  obtain ⟨⟨hx, hb, hml, hown, hts⟩, hK, hA, hlk, hrt, hR⟩ := hX
  intro H locs ls hw hl
  exact lv_dup2_11 hx hb d (by rw [toV_cat]; exact hv) (by rw [toV_cat]; exact hu) (k H locs ls hw hl)
theorem s_if_eq (hX : Cok X cc own nL ret lev c0 s0) {x : Int32} {off : Int} {tgt : Nat} (d : decode cc pc = .ok (.ifCond .eq off, 3)) (ht : (pc : Int) + off = (tgt : Int)) (kt : (x = 0 → Wat X cells slots L tgt lv st M)) (kf : (¬ x = 0 → Wat X cells slots L (pc + 3) lv st M)) : Wat X cells slots L pc lv (vi x :: st) M := by
  obtain ⟨p, l, e, R, s, m, args, below, meth, c, Q, D, cA, ad, A⟩ := X
  obtain ⟨⟨hx, hb, hml, hown, hts⟩, hK, hA, hlk, hrt, hR⟩ := hX
  intro H locs ls hw hl
  exact lv_if_eq hx hb d ht (fun h => kt h H locs ls hw hl) (fun h => kf h H locs ls hw hl)
theorem s_icmp_eq (hX : Cok X cc own nL ret lev c0 s0) {x y : Int32} {off : Int} {tgt : Nat} (d : decode cc pc = .ok (.if_icmp .eq off, 3)) (ht : (pc : Int) + off = (tgt : Int)) (kt : (x = y → Wat X cells slots L tgt lv st M)) (kf : (¬ x = y → Wat X cells slots L (pc + 3) lv st M)) : Wat X cells slots L pc lv (vi y :: vi x :: st) M := by
  obtain ⟨p, l, e, R, s, m, args, below, meth, c, Q, D, cA, ad, A⟩ := X
  obtain ⟨⟨hx, hb, hml, hown, hts⟩, hK, hA, hlk, hrt, hR⟩ := hX
  intro H locs ls hw hl
  exact lv_icmp_eq hx hb d ht (fun h => kt h H locs ls hw hl) (fun h => kf h H locs ls hw hl)
theorem s_if_ne (hX : Cok X cc own nL ret lev c0 s0) {x : Int32} {off : Int} {tgt : Nat} (d : decode cc pc = .ok (.ifCond .ne off, 3)) (ht : (pc : Int) + off = (tgt : Int)) (kt : (¬ x = 0 → Wat X cells slots L tgt lv st M)) (kf : (x = 0 → Wat X cells slots L (pc + 3) lv st M)) : Wat X cells slots L pc lv (vi x :: st) M := by
  obtain ⟨p, l, e, R, s, m, args, below, meth, c, Q, D, cA, ad, A⟩ := X
  obtain ⟨⟨hx, hb, hml, hown, hts⟩, hK, hA, hlk, hrt, hR⟩ := hX
  intro H locs ls hw hl
  exact lv_if_ne hx hb d ht (fun h => kt h H locs ls hw hl) (fun h => kf h H locs ls hw hl)
theorem s_icmp_ne (hX : Cok X cc own nL ret lev c0 s0) {x y : Int32} {off : Int} {tgt : Nat} (d : decode cc pc = .ok (.if_icmp .ne off, 3)) (ht : (pc : Int) + off = (tgt : Int)) (kt : (¬ x = y → Wat X cells slots L tgt lv st M)) (kf : (x = y → Wat X cells slots L (pc + 3) lv st M)) : Wat X cells slots L pc lv (vi y :: vi x :: st) M := by
  obtain ⟨p, l, e, R, s, m, args, below, meth, c, Q, D, cA, ad, A⟩ := X
  obtain ⟨⟨hx, hb, hml, hown, hts⟩, hK, hA, hlk, hrt, hR⟩ := hX
  intro H locs ls hw hl
  exact lv_icmp_ne hx hb d ht (fun h => kt h H locs ls hw hl) (fun h => kf h H locs ls hw hl)
theorem s_if_lt (hX : Cok X cc own nL ret lev c0 s0) {x : Int32} {off : Int} {tgt : Nat} (d : decode cc pc = .ok (.ifCond .lt off, 3)) (ht : (pc : Int) + off = (tgt : Int)) (kt : (x < 0 → Wat X cells slots L tgt lv st M)) (kf : (¬ x < 0 → Wat X cells slots L (pc + 3) lv st M)) : Wat X cells slots L pc lv (vi x :: st) M := by
  obtain ⟨p, l, e, R, s, m, args, below, meth, c, Q, D, cA, ad, A⟩ := X
  obtain ⟨⟨hx, hb, hml, hown, hts⟩, hK, hA, hlk, hrt, hR⟩ := hX
  intro H locs ls hw hl
  exact lv_if_lt hx hb d ht (fun h => kt h H locs ls hw hl) (fun h => kf h H locs ls hw hl)
theorem s_icmp_lt (hX : Cok X cc own nL ret lev c0 s0) {x y : Int32} {off : Int} {tgt : Nat} (d : decode cc pc = .ok (.if_icmp .lt off, 3)) (ht : (pc : Int) + off = (tgt : Int)) (kt : (x < y → Wat X cells slots L tgt lv st M)) (kf : (¬ x < y → Wat X cells slots L (pc + 3) lv st M)) : Wat X cells slots L pc lv (vi y :: vi x :: st) M := by
  obtain ⟨p, l, e, R, s, m, args, below, meth, c, Q, D, cA, ad, A⟩ := X
  obtain ⟨⟨hx, hb, hml, hown, hts⟩, hK, hA, hlk, hrt, hR⟩ := hX
  intro H locs ls hw hl
  exact lv_icmp_lt hx hb d ht (fun h => kt h H locs ls hw hl) (fun h => kf h H locs ls hw hl)
theorem s_if_ge (hX : Cok X cc own nL ret lev c0 s0) {x : Int32} {off : Int} {tgt : Nat} (d : decode cc pc = .ok (.ifCond .ge off, 3)) (ht : (pc : Int) + off = (tgt : Int)) (kt : (0 ≤ x → Wat X cells slots L tgt lv st M)) (kf : (¬ 0 ≤ x → Wat X cells slots L (pc + 3) lv st M)) : Wat X cells slots L pc lv (vi x :: st) M := by
  obtain ⟨p, l, e, R, s, m, args, below, meth, c, Q, D, cA, ad, A⟩ := X
  obtain ⟨⟨hx, hb, hml, hown, hts⟩, hK, hA, hlk, hrt, hR⟩ := hX
  intro H locs ls hw hl
  exact lv_if_ge hx hb d ht (fun h => kt h H locs ls hw hl) (fun h => kf h H locs ls hw hl)
theorem s_icmp_ge (hX : Cok X cc own nL ret lev c0 s0) {x y : Int32} {off : Int} {tgt : Nat} (d : decode cc pc = .ok (.if_icmp .ge off, 3)) (ht : (pc : Int) + off = (tgt : Int)) (kt : (y ≤ x → Wat X cells slots L tgt lv st M)) (kf : (¬ y ≤ x → Wat X cells slots L (pc + 3) lv st M)) : Wat X cells slots L pc lv (vi y :: vi x :: st) M := by
  obtain ⟨p, l, e, R, s, m, args, below, meth, c, Q, D, cA, ad, A⟩ := X
  obtain ⟨⟨hx, hb, hml, hown, hts⟩, hK, hA, hlk, hrt, hR⟩ := hX
  intro H locs ls hw hl
  exact lv_icmp_ge hx hb d ht (fun h => kt h H locs ls hw hl) (fun h => kf h H locs ls hw hl)
theorem s_if_gt (hX : Cok X cc own nL ret lev c0 s0) {x : Int32} {off : Int} {tgt : Nat} (d : decode cc pc = .ok (.ifCond .gt off, 3)) (ht : (pc : Int) + off = (tgt : Int)) (kt : (0 < x → Wat X cells slots L tgt lv st M)) (kf : (¬ 0 < x → Wat X cells slots L (pc + 3) lv st M)) : Wat X cells slots L pc lv (vi x :: st) M := by
  obtain ⟨p, l, e, R, s, m, args, below, meth, c, Q, D, cA, ad, A⟩ := X
  obtain ⟨⟨hx, hb, hml, hown, hts⟩, hK, hA, hlk, hrt, hR⟩ := hX
  intro H locs ls hw hl
  exact lv_if_gt hx hb d ht (fun h => kt h H locs ls hw hl) (fun h => kf h H locs ls hw hl)
theorem s_icmp_gt (hX : Cok X cc own nL ret lev c0 s0) {x y : Int32} {off : Int} {tgt : Nat} (d : decode cc pc = .ok (.if_icmp .gt off, 3)) (ht : (pc : Int) + off = (tgt : Int)) (kt : (y < x → Wat X cells slots L tgt lv st M)) (kf : (¬ y < x → Wat X cells slots L (pc + 3) lv st M)) : Wat X cells slots L pc lv (vi y :: vi x :: st) M := by
  obtain ⟨p, l, e, R, s, m, args, below, meth, c, Q, D, cA, ad, A⟩ := X
  obtain ⟨⟨hx, hb, hml, hown, hts⟩, hK, hA, hlk, hrt, hR⟩ := hX
  intro H locs ls hw hl
  exact lv_icmp_gt hx hb d ht (fun h => kt h H locs ls hw hl) (fun h => kf h H locs ls hw hl)
theorem s_if_le (hX : Cok X cc own nL ret lev c0 s0) {x : Int32} {off : Int} {tgt : Nat} (d : decode cc pc = .ok (.ifCond .le off, 3)) (ht : (pc : Int) + off = (tgt : Int)) (kt : (x ≤ 0 → Wat X cells slots L tgt lv st M)) (kf : (¬ x ≤ 0 → Wat X cells slots L (pc + 3) lv st M)) : Wat X cells slots L pc lv (vi x :: st) M := by
  obtain ⟨p, l, e, R, s, m, args, below, meth, c, Q, D, cA, ad, A⟩ := X
  obtain ⟨⟨hx, hb, hml, hown, hts⟩, hK, hA, hlk, hrt, hR⟩ := hX
  intro H locs ls hw hl
  exact lv_if_le hx hb d ht (fun h => kt h H locs ls hw hl) (fun h => kf h H locs ls hw hl)
theorem s_icmp_le (hX : Cok X cc own nL ret lev c0 s0) {x y : Int32} {off : Int} {tgt : Nat} (d : decode cc pc = .ok (.if_icmp .le off, 3)) (ht : (pc : Int) + off = (tgt : Int)) (kt : (x ≤ y → Wat X cells slots L tgt lv st M)) (kf : (¬ x ≤ y → Wat X cells slots L (pc + 3) lv st M)) : Wat X cells slots L pc lv (vi y :: vi x :: st) M := by
  obtain ⟨p, l, e, R, s, m, args, below, meth, c, Q, D, cA, ad, A⟩ := X
  obtain ⟨⟨hx, hb, hml, hown, hts⟩, hK, hA, hlk, hrt, hR⟩ := hX
  intro H locs ls hw hl
  exact lv_icmp_le hx hb d ht (fun h => kt h H locs ls hw hl) (fun h => kf h H locs ls hw hl)
theorem s_goto (hX : Cok X cc own nL ret lev c0 s0) {off : Int} {tgt : Nat} (d : decode cc pc = .ok (.goto off, 3)) (ht : (pc : Int) + off = (tgt : Int)) (k : Wat X cells slots L tgt lv st M) : Wat X cells slots L pc lv (st) M := by
  obtain ⟨p, l, e, R, s, m, args, below, meth, c, Q, D, cA, ad, A⟩ := X
  obtain ⟨⟨hx, hb, hml, hown, hts⟩, hK, hA, hlk, hrt, hR⟩ := hX
  intro H locs ls hw hl
  exact lv_goto hx hb d ht (k H locs ls hw hl)
theorem s_tableIn (hX : Cok X cc own nL ret lev c0 s0) {dflt lo hi : Int} {offs : Array Int} {len : Nat} {x : Int32} {off : Int} {tgt : Nat} (d : decode cc pc = .ok (.tableswitch dflt lo hi offs, len)) (h1 : ¬ x.toInt < lo) (h2 : ¬ hi < x.toInt) (ho : offs[(x.toInt - lo).toNat]? = some off) (ht : (pc : Int) + off = (tgt : Int)) (k : Wat X cells slots L tgt lv st M) : Wat X cells slots L pc lv (vi x :: st) M := by
  obtain ⟨p, l, e, R, s, m, args, below, meth, c, Q, D, cA, ad, A⟩ := X
  obtain ⟨⟨hx, hb, hml, hown, hts⟩, hK, hA, hlk, hrt, hR⟩ := hX
  intro H locs ls hw hl
  exact lv_tableIn hx hb d h1 h2 ho ht (k H locs ls hw hl)
theorem s_tableOut (hX : Cok X cc own nL ret lev c0 s0) {dflt lo hi : Int} {offs : Array Int} {len : Nat} {x : Int32} {tgt : Nat} (d : decode cc pc = .ok (.tableswitch dflt lo hi offs, len)) (h : x.toInt < lo ∨ hi < x.toInt) (ht : (pc : Int) + dflt = (tgt : Int)) (k : Wat X cells slots L tgt lv st M) : Wat X cells slots L pc lv (vi x :: st) M := by
  obtain ⟨p, l, e, R, s, m, args, below, meth, c, Q, D, cA, ad, A⟩ := X
  obtain ⟨⟨hx, hb, hml, hown, hts⟩, hK, hA, hlk, hrt, hR⟩ := hX
  intro H locs ls hw hl
  exact lv_tableOut hx hb d h ht (k H locs ls hw hl)
theorem s_lookup (hX : Cok X cc own nL ret lev c0 s0) {dflt : Int} {ps : Array (Int × Int)} {len : Nat} {x : Int32} {off : Int} {tgt : Nat} (d : decode cc pc = .ok (.lookupswitch dflt ps, len)) (hp : (ps.toList.zip (ps.toList.drop 1)).all (fun (a, next) => a.1 < next.1) = true) (ho : Op.lookupswitch.offset ps.toList dflt x.toInt = off) (ht : (pc : Int) + off = (tgt : Int)) (k : Wat X cells slots L tgt lv st M) : Wat X cells slots L pc lv (vi x :: st) M := by
  obtain ⟨p, l, e, R, s, m, args, below, meth, c, Q, D, cA, ad, A⟩ := X
  obtain ⟨⟨hx, hb, hml, hown, hts⟩, hK, hA, hlk, hrt, hR⟩ := hX
  intro H locs ls hw hl
  exact lv_lookup hx hb d hp ho ht (k H locs ls hw hl)
theorem s_mask (b : List Bool) {lv' : List (Option AV)} (h : lmask b lv = lv') (hn : lv'.length = lv.length) (k : Wat X cells slots L pc lv' st M) : Wat X cells slots L pc lv st M := by
  obtain ⟨p, l, e, R, s, m, args, below, meth, c, Q, D, cA, ad, A⟩ := X
  intro H locs ls hw hl
  exact k H locs ls hw (lvh_mask b hl h hn)
theorem s_at {pc' : Nat} {lv' : List (Option AV)} {st' : List AV} {M' : Mem} (k : Wat X cells slots L pc' lv' st' M') (h1 : pc = pc') (h2 : lv = lv') (h3 : st = st') (h4 : M = M') : Wat X cells slots L pc lv st M := by
  subst h1; subst h2; subst h3; subst h4; exact k
/-- what the tables say of a field that an instruction names -/
def FI (own : String) (idx ci j : Nat) (C : String) (T : u_T) (N : Nat) : Prop := cls[ci]? = some (C, T, N) ∧ j < N ∧ (∀ w ∈ u_ws C T N, w ∈ TB) ∧ Cond.fieldLink own idx (T j).1 (T j).2.1 (T j).2.2.1 ∈ TB
theorem s_geti (hX : Cok X cc own nL ret lev c0 s0) {k ci j idx N : Nat} {C : String} {T : u_T} {fs : List FD} (hf : FI own idx ci j C T N) (hk : L[k]? = some (.inl (ci, fs))) (hj : fs[j]? = some (.inl true)) (d : decode cc pc = .ok (.getfield idx, 3)) (k1 : Wat X cells slots L (pc + 3) lv (vi (M.1 k j) :: st) M) : Wat X cells slots L pc lv (vr k :: st) M := by
  obtain ⟨p, l, e, R, s, m, args, below, meth, c, Q, D, cA, ad, A⟩ := X
  obtain ⟨⟨hx, hb, hml, hown, hts⟩, hK, hA, hlk, hrt, hR⟩ := hX
  intro H locs ls hw hl
  exact va_get (D := D) hx hb hts hf.2.2.1 hown hK hw.1 k (wsO_at hk) hf.1 j hf.2.1 (hts _ hf.2.2.2) (fun _ h9 => h9) (fsV_at hj) d (k1 H locs ls hw hl)
theorem s_getl (hX : Cok X cc own nL ret lev c0 s0) {k ci j idx N : Nat} {C : String} {T : u_T} {fs : List FD} (hf : FI own idx ci j C T N) (hk : L[k]? = some (.inl (ci, fs))) (hj : fs[j]? = some (.inl false)) (d : decode cc pc = .ok (.getfield idx, 3)) (k1 : Wat X cells slots L (pc + 3) lv (vl (M.2 k j) :: st) M) : Wat X cells slots L pc lv (vr k :: st) M := by
  obtain ⟨p, l, e, R, s, m, args, below, meth, c, Q, D, cA, ad, A⟩ := X
  obtain ⟨⟨hx, hb, hml, hown, hts⟩, hK, hA, hlk, hrt, hR⟩ := hX
  intro H locs ls hw hl
  exact va_get (D := D) hx hb hts hf.2.2.1 hown hK hw.1 k (wsO_at hk) hf.1 j hf.2.1 (hts _ hf.2.2.2) (fun _ h9 => h9) (fsV_at hj) d (k1 H locs ls hw hl)
theorem s_getr (hX : Cok X cc own nL ret lev c0 s0) {k ci j idx N r : Nat} {C : String} {T : u_T} {fs : List FD} (hf : FI own idx ci j C T N) (hk : L[k]? = some (.inl (ci, fs))) (hj : fs[j]? = some (.inr (some r))) (d : decode cc pc = .ok (.getfield idx, 3)) (k1 : Wat X cells slots L (pc + 3) lv (vr r :: st) M) : Wat X cells slots L pc lv (vr k :: st) M := by
  obtain ⟨p, l, e, R, s, m, args, below, meth, c, Q, D, cA, ad, A⟩ := X
  obtain ⟨⟨hx, hb, hml, hown, hts⟩, hK, hA, hlk, hrt, hR⟩ := hX
  intro H locs ls hw hl
  exact va_get (D := D) hx hb hts hf.2.2.1 hown hK hw.1 k (wsO_at hk) hf.1 j hf.2.1 (hts _ hf.2.2.2) (fun _ h9 => h9) (fsV_at hj) d (k1 H locs ls hw hl)
def FP (ci : Nat) (C : String) (T : u_T) (N : Nat) (ty0 : Nat → FieldType) : Prop := (∀ k, k < N → parseFieldDescriptor (T k).2.2.1 = some (ty0 k)) ∧ (∀ a, a < N → ∀ b, b < N → a ≠ b → (T a).2.1 ≠ (T b).2.1)
theorem upd_ne {f : Nat → Int32} {k i : Nat} {x : Int32} (h : i ≠ k) : upd f k x i = f i := if_neg h
theorem upd_self {f : Nat → Int32} {k : Nat} {x : Int32} : upd f k x k = x := if_pos rfl
theorem updL_ne {f : Nat → Int64} {k i : Nat} {x : Int64} (h : i ≠ k) : vp_updL f k x i = f i := if_neg h
theorem updL_self {f : Nat → Int64} {k : Nat} {x : Int64} : vp_updL f k x k = x := if_pos rfl
theorem e_puti {cA : Nat → ClassId} {ad : Nat → Nat} {M : Mem} {L : List DS} {k ci j : Nat} {fs : List FD} {x : Int32} (hk : L[k]? = some (.inl (ci, fs))) (hj : fs[j]? = some (.inl true)) : (wsO cA ad M 0 L).set k (ad k, .inr (ci, (fsV ad M k 0 fs).set j (.int x))) = wsO cA ad (si M k j x) 0 L := by
  have e3 := fsV_set (ad := ad) (M := M) (M' := si M k j x) (k := k) (f' := .inl true) hj (fun i h => by rw [si_same]; exact upd_ne h) (fun i h => rfl)
  rw [list_set_same hj] at e3
  have e4 : fdV ad (si M k j x) k j (.inl true) = .int x := by simp only [fdV]; rw [si_same, upd_self]
  rw [e4] at e3
  rw [e3]
  exact wsO_set (d' := .inl (ci, fs)) hk (list_set_same hk) (fun q h => si_ne M j x h) (fun q h => rfl)
theorem e_putl {cA : Nat → ClassId} {ad : Nat → Nat} {M : Mem} {L : List DS} {k ci j : Nat} {fs : List FD} {x : Int64} (hk : L[k]? = some (.inl (ci, fs))) (hj : fs[j]? = some (.inl false)) : (wsO cA ad M 0 L).set k (ad k, .inr (ci, (fsV ad M k 0 fs).set j (.long x))) = wsO cA ad (sl M k j x) 0 L := by
  have e3 := fsV_set (ad := ad) (M := M) (M' := sl M k j x) (k := k) (f' := .inl false) hj (fun i h => rfl) (fun i h => by rw [sl_same]; exact updL_ne h)
  rw [list_set_same hj] at e3
  have e4 : fdV ad (sl M k j x) k j (.inl false) = .long x := by simp only [fdV]; rw [sl_same, updL_self]
  rw [e4] at e3
  rw [e3]
  exact wsO_set (d' := .inl (ci, fs)) hk (list_set_same hk) (fun q h => rfl) (fun q h => sl_ne M j x h)
theorem e_putr {cA : Nat → ClassId} {ad : Nat → Nat} {M : Mem} {L L' : List DS} {k ci j : Nat} {fs : List FD} {f : FD} {r : Nat} (hk : L[k]? = some (.inl (ci, fs))) (hj : fs[j]? = some f) (hL : L.set k (.inl (ci, fs.set j (.inr (some r)))) = L') : (wsO cA ad M 0 L).set k (ad k, .inr (ci, (fsV ad M k 0 fs).set j (.ref (ad r)))) = wsO cA ad M 0 L' := by
  have e3 := fsV_set (ad := ad) (M := M) (M' := M) (k := k) (f' := .inr (some r)) hj (fun i h => rfl) (fun i h => rfl)
  have e4 : fdV ad M k j (.inr (some r)) = .ref (ad r) := rfl
  rw [e4] at e3
  rw [e3]
  exact wsO_set (d' := .inl (ci, fs.set j (.inr (some r)))) hk hL (fun q h => rfl) (fun q h => rfl)
theorem s_puti (hX : Cok X cc own nL ret lev c0 s0) {k ci j idx N : Nat} {C : String} {T : u_T} {fs : List FD} {ty0 : Nat → FieldType} {x : Int32} (hf : FI own idx ci j C T N) (hp : FP ci C T N ty0) (hfin : (T j).2.2.2 = false) (hty : parseFieldDescriptor (T j).2.2.1 = some .int) (hk : L[k]? = some (.inl (ci, fs))) (hj : fs[j]? = some (.inl true)) (d : decode cc pc = .ok (.putfield idx, 3)) (k1 : Wat X cells slots L (pc + 3) lv (st) (si M k j x)) : Wat X cells slots L pc lv (vi x :: vr k :: st) M := by
  obtain ⟨p, l, e, R, s, m, args, below, meth, c, Q, D, cA, ad, A⟩ := X
  obtain ⟨⟨hx, hb, hml, hown, hts⟩, hK, hA, hlk, hrt, hR⟩ := hX
  intro H locs ls hw hl
  obtain ⟨hP, hD, hS⟩ := hw
  refine va_put (D := D) (ty := .int) (v := .int x) hx hb hts hf.2.2.1 ty0 hp.1 hp.2 hown hK hP hD hS k (wsO_at hk) hf.1 j hf.2.1 (hts _ hf.2.2.2) (fun _ h9 => h9) hfin hty rfl rfl (by rw [fsV_len]; exact (List.getElem?_eq_some_iff.mp hj).1) d (fun H1 locs1 h1 h2 h3 => ?_)
  rw [e_puti hk hj] at h1 h2
  exact k1 H1 locs1 ls ⟨h1, h2, h3⟩ hl
theorem s_putz (hX : Cok X cc own nL ret lev c0 s0) {k ci j idx N : Nat} {C : String} {T : u_T} {fs : List FD} {ty0 : Nat → FieldType} {x : Int32} (hf : FI own idx ci j C T N) (hp : FP ci C T N ty0) (hfin : (T j).2.2.2 = false) (hty : parseFieldDescriptor (T j).2.2.1 = some .boolean) (hn : narrow .boolean (.int x) = .int x ∧ fits .boolean (.int x) = true) (hk : L[k]? = some (.inl (ci, fs))) (hj : fs[j]? = some (.inl true)) (d : decode cc pc = .ok (.putfield idx, 3)) (k1 : Wat X cells slots L (pc + 3) lv (st) (si M k j x)) : Wat X cells slots L pc lv (vi x :: vr k :: st) M := by
  obtain ⟨p, l, e, R, s, m, args, below, meth, c, Q, D, cA, ad, A⟩ := X
  obtain ⟨⟨hx, hb, hml, hown, hts⟩, hK, hA, hlk, hrt, hR⟩ := hX
  intro H locs ls hw hl
  obtain ⟨hP, hD, hS⟩ := hw
  refine va_put (D := D) (ty := .boolean) (v := .int x) hx hb hts hf.2.2.1 ty0 hp.1 hp.2 hown hK hP hD hS k (wsO_at hk) hf.1 j hf.2.1 (hts _ hf.2.2.2) (fun _ h9 => h9) hfin hty hn.1 hn.2 (by rw [fsV_len]; exact (List.getElem?_eq_some_iff.mp hj).1) d (fun H1 locs1 h1 h2 h3 => ?_)
  rw [e_puti hk hj] at h1 h2
  exact k1 H1 locs1 ls ⟨h1, h2, h3⟩ hl
theorem s_putl (hX : Cok X cc own nL ret lev c0 s0) {k ci j idx N : Nat} {C : String} {T : u_T} {fs : List FD} {ty0 : Nat → FieldType} {x : Int64} (hf : FI own idx ci j C T N) (hp : FP ci C T N ty0) (hfin : (T j).2.2.2 = false) (hty : parseFieldDescriptor (T j).2.2.1 = some .long) (hk : L[k]? = some (.inl (ci, fs))) (hj : fs[j]? = some (.inl false)) (d : decode cc pc = .ok (.putfield idx, 3)) (k1 : Wat X cells slots L (pc + 3) lv (st) (sl M k j x)) : Wat X cells slots L pc lv (vl x :: vr k :: st) M := by
  obtain ⟨p, l, e, R, s, m, args, below, meth, c, Q, D, cA, ad, A⟩ := X
  obtain ⟨⟨hx, hb, hml, hown, hts⟩, hK, hA, hlk, hrt, hR⟩ := hX
  intro H locs ls hw hl
  obtain ⟨hP, hD, hS⟩ := hw
  refine va_put (D := D) (ty := .long) (v := .long x) hx hb hts hf.2.2.1 ty0 hp.1 hp.2 hown hK hP hD hS k (wsO_at hk) hf.1 j hf.2.1 (hts _ hf.2.2.2) (fun _ h9 => h9) hfin hty rfl rfl (by rw [fsV_len]; exact (List.getElem?_eq_some_iff.mp hj).1) d (fun H1 locs1 h1 h2 h3 => ?_)
  rw [e_putl hk hj] at h1 h2
  exact k1 H1 locs1 ls ⟨h1, h2, h3⟩ hl
theorem s_iald (hX : Cok X cc own nL ret lev c0 s0) {k n : Nat} {rs : List (Option Nat)} {i : Int32} (hk : L[k]? = some (.inr (0, n, rs))) (hin : vp_in i n) (d : decode cc pc = .ok (.iaload, 1)) (k1 : Wat X cells slots L (pc + 1) lv (vi (M.1 k i.toNatClampNeg) :: st) M) : Wat X cells slots L pc lv (vi i :: vr k :: st) M := by
  obtain ⟨p, l, e, R, s, m, args, below, meth, c, Q, D, cA, ad, A⟩ := X
  obtain ⟨⟨hx, hb, hml, hown, hts⟩, hK, hA, hlk, hrt, hR⟩ := hX
  intro H locs ls hw hl
  exact va_iald hx hb hK hw.1 k 0 (wsO_at hk) rfl hin d (k1 H locs ls hw hl)
theorem s_cald (hX : Cok X cc own nL ret lev c0 s0) {k n : Nat} {rs : List (Option Nat)} {i : Int32} (hk : L[k]? = some (.inr (2, n, rs))) (hin : vp_in i n) (d : decode cc pc = .ok (.caload, 1)) (k1 : Wat X cells slots L (pc + 1) lv (vi (M.1 k i.toNatClampNeg) :: st) M) : Wat X cells slots L pc lv (vi i :: vr k :: st) M := by
  obtain ⟨p, l, e, R, s, m, args, below, meth, c, Q, D, cA, ad, A⟩ := X
  obtain ⟨⟨hx, hb, hml, hown, hts⟩, hK, hA, hlk, hrt, hR⟩ := hX
  intro H locs ls hw hl
  exact va_cald hx hb hK hw.1 k 2 (wsO_at hk) rfl hin d (k1 H locs ls hw hl)
theorem s_zald (hX : Cok X cc own nL ret lev c0 s0) {k n : Nat} {rs : List (Option Nat)} {i : Int32} (hk : L[k]? = some (.inr (3, n, rs))) (hin : vp_in i n) (d : decode cc pc = .ok (.baload, 1)) (k1 : Wat X cells slots L (pc + 1) lv (vi (M.1 k i.toNatClampNeg) :: st) M) : Wat X cells slots L pc lv (vi i :: vr k :: st) M := by
  obtain ⟨p, l, e, R, s, m, args, below, meth, c, Q, D, cA, ad, A⟩ := X
  obtain ⟨⟨hx, hb, hml, hown, hts⟩, hK, hA, hlk, hrt, hR⟩ := hX
  intro H locs ls hw hl
  exact va_zald hx hb hK hw.1 k 3 (wsO_at hk) rfl hin d (k1 H locs ls hw hl)
theorem s_lald (hX : Cok X cc own nL ret lev c0 s0) {k n : Nat} {rs : List (Option Nat)} {i : Int32} (hk : L[k]? = some (.inr (1, n, rs))) (hin : vp_in i n) (d : decode cc pc = .ok (.laload, 1)) (k1 : Wat X cells slots L (pc + 1) lv (vl (M.2 k i.toNatClampNeg) :: st) M) : Wat X cells slots L pc lv (vi i :: vr k :: st) M := by
  obtain ⟨p, l, e, R, s, m, args, below, meth, c, Q, D, cA, ad, A⟩ := X
  obtain ⟨⟨hx, hb, hml, hown, hts⟩, hK, hA, hlk, hrt, hR⟩ := hX
  intro H locs ls hw hl
  exact va_lald hx hb hK hw.1 k 1 (wsO_at hk) rfl hin d (k1 H locs ls hw hl)
theorem e_asti {cA : Nat → ClassId} {ad : Nat → Nat} {M : Mem} {L : List DS} {k t n i : Nat} {rs : List (Option Nat)} {x : Int32} (hk : L[k]? = some (.inr (t, n, rs))) (ht : ∀ M' : Mem, arE ad M' k t rs = .inl (M'.1 k)) : (wsO cA ad M 0 L).set k (ad k, .inl (cA t, n, .inl (upd (M.1 k) i x))) = wsO cA ad (si M k i x) 0 L := by
  have e4 : ceE cA ad (si M k i x) k (.inr (t, n, rs)) = .inl (cA t, n, .inl (upd (M.1 k) i x)) := by simp only [ceE]; rw [ht, si_same]
  rw [← e4]
  exact wsO_set (d' := .inr (t, n, rs)) hk (list_set_same hk) (fun q h => si_ne M i x h) (fun q h => rfl)
theorem e_astl {cA : Nat → ClassId} {ad : Nat → Nat} {M : Mem} {L : List DS} {k n i : Nat} {rs : List (Option Nat)} {x : Int64} (hk : L[k]? = some (.inr (1, n, rs))) : (wsO cA ad M 0 L).set k (ad k, .inl (cA 1, n, .inr (.inl (vp_updL (M.2 k) i x)))) = wsO cA ad (sl M k i x) 0 L := by
  have e4 : ceE cA ad (sl M k i x) k (.inr (1, n, rs)) = .inl (cA 1, n, .inr (.inl (vp_updL (M.2 k) i x))) := by simp only [ceE, arE]; rw [sl_same]
  rw [← e4]
  exact wsO_set (d' := .inr (1, n, rs)) hk (list_set_same hk) (fun q h => rfl) (fun q h => sl_ne M i x h)
theorem e_sa {cA : Nat → ClassId} {ad : Nat → Nat} {M : Mem} {L : List DS} {k t n : Nat} {rs : List (Option Nat)} {f : Nat → Int32} (hk : L[k]? = some (.inr (t, n, rs))) (ht : ∀ M' : Mem, arE ad M' k t rs = .inl (M'.1 k)) : (wsO cA ad M 0 L).set k (ad k, .inl (cA t, n, .inl f)) = wsO cA ad (sa M k f) 0 L := by
  have e4 : ceE cA ad (sa M k f) k (.inr (t, n, rs)) = .inl (cA t, n, .inl f) := by simp only [ceE]; rw [ht, sa_same]
  rw [← e4]
  exact wsO_set (d' := .inr (t, n, rs)) hk (list_set_same hk) (fun q h => sa_ne M f h) (fun q h => rfl)
theorem s_iast (hX : Cok X cc own nL ret lev c0 s0) {k n : Nat} {rs : List (Option Nat)} {i : Int32} {x : Int32} (hk : L[k]? = some (.inr (0, n, rs))) (hin : vp_in i n) (d : decode cc pc = .ok (.iastore, 1)) (k1 : Wat X cells slots L (pc + 1) lv (st) (si M k i.toNatClampNeg x)) : Wat X cells slots L pc lv (vi x :: vi i :: vr k :: st) M := by
  obtain ⟨p, l, e, R, s, m, args, below, meth, c, Q, D, cA, ad, A⟩ := X
  obtain ⟨⟨hx, hb, hml, hown, hts⟩, hK, hA, hlk, hrt, hR⟩ := hX
  intro H locs ls hw hl
  obtain ⟨hP, hD, hS⟩ := hw
  refine va_iast hx hb hK hP hD hS k 0 (wsO_at hk) rfl hin d (fun H1 locs1 h1 h2 h3 => ?_)
  erw [e_asti hk (fun _ => rfl)] at h1 h2
  exact k1 H1 locs1 ls ⟨h1, h2, h3⟩ hl
theorem s_cast (hX : Cok X cc own nL ret lev c0 s0) {k n : Nat} {rs : List (Option Nat)} {i : Int32} {x : Int32} (hk : L[k]? = some (.inr (2, n, rs))) (hin : vp_in i n) (d : decode cc pc = .ok (.castore, 1)) (k1 : Wat X cells slots L (pc + 1) lv (st) (si M k i.toNatClampNeg (vp_nar .char x))) : Wat X cells slots L pc lv (vi x :: vi i :: vr k :: st) M := by
  obtain ⟨p, l, e, R, s, m, args, below, meth, c, Q, D, cA, ad, A⟩ := X
  obtain ⟨⟨hx, hb, hml, hown, hts⟩, hK, hA, hlk, hrt, hR⟩ := hX
  intro H locs ls hw hl
  obtain ⟨hP, hD, hS⟩ := hw
  refine va_cast hx hb hK hP hD hS k 2 (wsO_at hk) rfl hin d (fun H1 locs1 h1 h2 h3 => ?_)
  erw [e_asti hk (fun _ => rfl)] at h1 h2
  exact k1 H1 locs1 ls ⟨h1, h2, h3⟩ hl
theorem s_zast (hX : Cok X cc own nL ret lev c0 s0) {k n : Nat} {rs : List (Option Nat)} {i : Int32} {x : Int32} (hk : L[k]? = some (.inr (3, n, rs))) (hin : vp_in i n) (d : decode cc pc = .ok (.bastore, 1)) (k1 : Wat X cells slots L (pc + 1) lv (st) (si M k i.toNatClampNeg (vp_nar .boolean x))) : Wat X cells slots L pc lv (vi x :: vi i :: vr k :: st) M := by
  obtain ⟨p, l, e, R, s, m, args, below, meth, c, Q, D, cA, ad, A⟩ := X
  obtain ⟨⟨hx, hb, hml, hown, hts⟩, hK, hA, hlk, hrt, hR⟩ := hX
  intro H locs ls hw hl
  obtain ⟨hP, hD, hS⟩ := hw
  refine va_zast hx hb hK hP hD hS k 3 (wsO_at hk) rfl hin d (fun H1 locs1 h1 h2 h3 => ?_)
  erw [e_asti hk (fun _ => rfl)] at h1 h2
  exact k1 H1 locs1 ls ⟨h1, h2, h3⟩ hl
theorem s_last (hX : Cok X cc own nL ret lev c0 s0) {k n : Nat} {rs : List (Option Nat)} {i : Int32} {x : Int64} (hk : L[k]? = some (.inr (1, n, rs))) (hin : vp_in i n) (d : decode cc pc = .ok (.lastore, 1)) (k1 : Wat X cells slots L (pc + 1) lv (st) (sl M k i.toNatClampNeg x)) : Wat X cells slots L pc lv (vl x :: vi i :: vr k :: st) M := by
  obtain ⟨p, l, e, R, s, m, args, below, meth, c, Q, D, cA, ad, A⟩ := X
  obtain ⟨⟨hx, hb, hml, hown, hts⟩, hK, hA, hlk, hrt, hR⟩ := hX
  intro H locs ls hw hl
  obtain ⟨hP, hD, hS⟩ := hw
  refine va_last hx hb hK hP hD hS k 1 (wsO_at hk) rfl hin d (fun H1 locs1 h1 h2 h3 => ?_)
  erw [e_astl hk] at h1 h2
  exact k1 H1 locs1 ls ⟨h1, h2, h3⟩ hl
theorem s_aald (hX : Cok X cc own nL ret lev c0 s0) {k n : Nat} {rs : List (Option Nat)} {i : Int32} (hk : L[k]? = some (.inr (4, n, rs))) (hin : vp_in i n) (d : decode cc pc = .ok (.aaload, 1)) (k1 : Wat X cells slots L (pc + 1) lv (vq (rs.getD i.toNatClampNeg none) :: st) M) : Wat X cells slots L pc lv (vi i :: vr k :: st) M := by
  obtain ⟨p, l, e, R, s, m, args, below, meth, c, Q, D, cA, ad, A⟩ := X
  obtain ⟨⟨hx, hb, hml, hown, hts⟩, hK, hA, hlk, hrt, hR⟩ := hX
  intro H locs ls hw hl
  exact va_aldq hx hb hK hw.1 k 4 (wsO_at hk) rfl hin d (k1 H locs ls hw hl)
theorem s_alen (hX : Cok X cc own nL ret lev c0 s0) {k t n : Nat} {rs : List (Option Nat)} {v : Int32} (hk : L[k]? = some (.inr (t, n, rs))) (ht : t < 5) (hv : Int32.ofNat n = v) (d : decode cc pc = .ok (.arraylength, 1)) (k1 : Wat X cells slots L (pc + 1) lv (vi v :: st) M) : Wat X cells slots L pc lv (vr k :: st) M := by
  obtain ⟨p, l, e, R, s, m, args, below, meth, c, Q, D, cA, ad, A⟩ := X
  obtain ⟨⟨hx, hb, hml, hown, hts⟩, hK, hA, hlk, hrt, hR⟩ := hX
  intro H locs ls hw hl
  obtain ⟨q, hq⟩ : ∃ ty, (tys cA)[t]? = some (cA t, ty) := by
    match t, ht with
    | 0, _ => exact ⟨_, rfl⟩
    | 1, _ => exact ⟨_, rfl⟩
    | 2, _ => exact ⟨_, rfl⟩
    | 3, _ => exact ⟨_, rfl⟩
    | 4, _ => exact ⟨_, rfl⟩
  exact va_alen hx hb hK hw.1 k t (wsO_at hk) hq hv d (k1 H locs ls hw hl)
theorem s_acopy (hX : Cok X cc own nL ret lev c0 s0) {k1 k2 n1 n2 idx : Nat} {rs1 rs2 : List (Option Nat)} {sp dp n : Int32} (hk1 : L[k1]? = some (.inr (0, n1, rs1))) (hk2 : L[k2]? = some (.inr (0, n2, rs2))) (hl0 : Cond.methodLink own idx arraycopyName ∈ TB) (hlv : lv.length = nL) (hlev : 1 ≤ lev) (hst : (st.map avc).sum ≤ 8) (h1 : ¬ sp < 0) (h2 : ¬ dp < 0) (h3 : ¬ n < 0) (h4 : sp.toNatClampNeg + n.toNatClampNeg ≤ n1) (h5 : dp.toNatClampNeg + n.toNatClampNeg ≤ n2) (d : decode cc pc = .ok (.invokestatic idx, 3)) (k : Wat X cells slots L (pc + 3) lv (st) (sa M k2 (va_cpy (M.1 k1) (M.1 k2) sp.toNatClampNeg dp.toNatClampNeg n.toNatClampNeg))) : Wat X cells slots L pc lv (vi n :: vi dp :: vr k2 :: vi sp :: vr k1 :: st) M := by
  obtain ⟨p, l, e, R, s, m, args, below, meth, c, Q, D, cA, ad, A⟩ := X
  obtain ⟨⟨hx, hb, hml, hown, hts⟩, hK, hA, hlk, hrt, hR⟩ := hX
  intro H locs ls hw hl
  obtain ⟨hP, hD, hS⟩ := hw
  have hw8 : ((st.map (toV ad)).map fun v => v.category).sum ≤ 8 := by
    rw [List.map_map]
    have e : (fun v : Value => v.category) ∘ toV ad = avc := by funext v; exact toV_cat ad v
    rw [e]; exact hst
  refine va_copyi (ty := .int) hx hb (by rw [hml, ← hlv]; exact hl.1.symm) hown (hts _ hl0) (hts _ wd_na_arraycopy) (hts _ wd_sm_arraycopy) (hts _ wd_in_J10) hK hP hD hS k1 k2 0 0 (wsO_at hk1) (wsO_at hk2) rfl rfl rfl h1 h2 h3 h4 h5 (fun _ _ => rfl) (by omega) (Nat.le_trans (Nat.add_le_add_right hw8 _) (Nat.le_trans (by decide +kernel : 8 + (nativeFrameWords "java/lang/System" "arraycopy" 5 + 11) ≤ 60) (by omega))) d (fun H1 locs1 g1 g2 g3 => ?_)
  erw [e_sa hk2 (fun _ => rfl)] at g1 g2
  exact k H1 locs1 ls ⟨g1, g2, g3⟩ hl
theorem s_iret (hX : Cok X cc own nL ret lev c0 s0) {x : Int32} {Qn : Int32 → Mem → Prop} (hq : RI X cells slots L Qn) (hrr : ret = some .int) (d : decode cc pc = .ok (.ireturn, 1)) (h : Qn x M) : Wat X cells slots L pc lv ([vi x]) M := by
  obtain ⟨p, l, e, R, s, m, args, below, meth, c, Q, D, cA, ad, A⟩ := X
  obtain ⟨⟨hx, hb, hml, hown, hts⟩, hK, hA, hlk, hrt, hR⟩ := hX
  intro H locs ls hw hl
  subst hrr
  have hq : Q = _ := hq
  subst hq
  exact W.iret (v := x) hx hb hrt (fun t ht hW => ⟨⟨x, M, rfl, h, by rw [ht]; exact hw.1, va_K.moved hW.alike hK, hw.2.1⟩, hw.2.2.F ht⟩) hw.2.2.2.2 d hlk
theorem s_zret (hX : Cok X cc own nL ret lev c0 s0) (b : Bool) {x : Int32} {Qb : Bool → Mem → Prop} (hq : RI X cells slots L (bQ Qb)) (hrr : ret = some .boolean) (d : decode cc pc = .ok (.ireturn, 1)) (hb2 : x = b2i b) (h : Qb b M) : Wat X cells slots L pc lv ([vi x]) M := by
  obtain ⟨p, l, e, R, s, m, args, below, meth, c, Q, D, cA, ad, A⟩ := X
  obtain ⟨⟨hx, hb, hml, hown, hts⟩, hK, hA, hlk, hrt, hR⟩ := hX
  intro H locs ls hw hl
  subst hrr
  subst hb2
  have hq : Q = _ := hq
  subst hq
  exact W.zret (v := b2i b) hx hb hrt (by cases b <;> rfl) (fun t ht hW => ⟨⟨b2i b, M, rfl, ⟨b, rfl, h⟩, by rw [ht]; exact hw.1, va_K.moved hW.alike hK, hw.2.1⟩, hw.2.2.F ht⟩) hw.2.2.2.2 d hlk
theorem s_lret (hX : Cok X cc own nL ret lev c0 s0) {x : Int64} {Qn : Int64 → Mem → Prop} (hq : RL_ X cells slots L Qn) (hrr : ret = some .long) (d : decode cc pc = .ok (.lreturn, 1)) (h : Qn x M) : Wat X cells slots L pc lv ([vl x]) M := by
  obtain ⟨p, l, e, R, s, m, args, below, meth, c, Q, D, cA, ad, A⟩ := X
  obtain ⟨⟨hx, hb, hml, hown, hts⟩, hK, hA, hlk, hrt, hR⟩ := hX
  intro H locs ls hw hl
  subst hrr
  have hq : Q = _ := hq
  subst hq
  exact W.lret (v := x) hx hb hrt (fun t ht hW => ⟨⟨x, M, rfl, h, by rw [ht]; exact hw.1, va_K.moved hW.alike hK, hw.2.1⟩, hw.2.2.F ht⟩) hw.2.2.2.2 d hlk
theorem s_vret (hX : Cok X cc own nL ret lev c0 s0) {Qn : Mem → Prop} (hq : RV X cells slots L Qn) (hrr : ret = none) (d : decode cc pc = .ok (.return_, 1)) (h : Qn M) : Wat X cells slots L pc lv ([]) M := by
  obtain ⟨p, l, e, R, s, m, args, below, meth, c, Q, D, cA, ad, A⟩ := X
  obtain ⟨⟨hx, hb, hml, hown, hts⟩, hK, hA, hlk, hrt, hR⟩ := hX
  intro H locs ls hw hl
  subst hrr
  have hq : Q = _ := hq
  subst hq
  exact W.vret hx hb hrt (fun t ht hW => ⟨⟨M, rfl, h, by rw [ht]; exact hw.1, va_K.moved hW.alike hK, hw.2.1⟩, hw.2.2.F ht⟩) hw.2.2.2.2 d hlk
end
