/-! making cells: the places of the layout are named as they are made -/
def Agr (a b : Nat) (ad ad' : Nat → Nat) : Prop := ∀ k, (k < a ∨ b ≤ k) → ad' k = ad k
theorem Agr.rf {a b : Nat} {ad : Nat → Nat} : Agr a b ad ad := fun _ _ => rfl
theorem Agr.trans {a b a1 b1 : Nat} {ad ad1 ad2 : Nat → Nat} (h : Agr a b ad ad1) (h1 : Agr a1 b1 ad1 ad2) (ha : a ≤ a1) (hb : b1 ≤ b) : Agr a b ad ad2 := fun k hk => (h1 k (by omega)).trans (h k hk)
def avk (a b : Nat) (v : AV) : Bool := match v with
  | .inr (.inr (some k)) => Nat.blt k a || Nat.ble b k
  | _ => true
def lvk (a b : Nat) (o : Option AV) : Bool := match o with
  | none => true
  | some v => avk a b v
theorem toV_agr {a b : Nat} {ad ad' : Nat → Nat} {v : AV} (h : Agr a b ad ad') (hv : avk a b v = true) : toV ad' v = toV ad v := by
  match v, hv with
  | .inl x, _ => rfl
  | .inr (.inl x), _ => rfl
  | .inr (.inr none), _ => rfl
  | .inr (.inr (some k)), hv =>
    have hv : (Nat.blt k a || Nat.ble b k) = true := hv
    rw [Bool.or_eq_true] at hv
    show va_rf (some (ad' k)) = va_rf (some (ad k))
    rw [h k (hv.imp (fun q => Nat.le_of_ble_eq_true q) (fun q => Nat.le_of_ble_eq_true q))]
theorem st_agr {a b : Nat} {ad ad' : Nat → Nat} (h : Agr a b ad ad') : ∀ {st : List AV}, st.all (avk a b) = true → st.map (toV ad') = st.map (toV ad)
  | [], _ => rfl
  | v :: st, hv => by
    rw [List.all_cons, Bool.and_eq_true] at hv
    rw [List.map_cons, List.map_cons, toV_agr h hv.1, st_agr h hv.2]
theorem lvh_agr {a b : Nat} {ad ad' : Nat → Nat} {ls : Array Slot} {lv : List (Option AV)} (h : Agr a b ad ad') (hv : lv.all (lvk a b) = true) (hl : lvh ad ls lv) : lvh ad' ls lv := by
  refine ⟨hl.1, hl.2.1, fun q hq => ?_⟩
  obtain ⟨j, v, h1, rfl⟩ := (lvl_mem ad' lv 0 q).mp hq
  have h2 : lvk a b (some v) = true := List.all_eq_true.mp hv _ (List.mem_of_getElem? h1)
  rw [toV_agr h h2]
  exact hl.2.2 _ ((lvl_mem ad lv 0 _).mpr ⟨j, v, h1, rfl⟩)
/-- all places that a layout names are among the first n -/
def rfk (n : Nat) (r : Option Nat) : Bool := match r with
  | none => true
  | some k => Nat.blt k n
def fdk (n : Nat) (f : FD) : Bool := match f with
  | .inl _ => true
  | .inr r => rfk n r
def dsk (n : Nat) (d : DS) : Bool := match d with
  | .inl (_, fs) => fs.all (fdk n)
  | .inr (_, _, rs) => rs.all (rfk n)
theorem rf_agr {a b : Nat} {ad ad' : Nat → Nat} {r : Option Nat} (h : Agr a b ad ad') (hr : rfk a r = true) : r.map ad' = r.map ad := by
  match r, hr with
  | none, _ => rfl
  | some k, hr => show some (ad' k) = some (ad k); rw [h k (Or.inl (Nat.le_of_ble_eq_true hr))]
theorem fs_agr {a b : Nat} {ad ad' : Nat → Nat} {M : Mem} {k : Nat} (h : Agr a b ad ad') : ∀ (fs : List FD) (j : Nat), fs.all (fdk a) = true → fsV ad' M k j fs = fsV ad M k j fs
  | [], _, _ => rfl
  | f :: fs, j, hv => by
    rw [List.all_cons, Bool.and_eq_true] at hv
    rw [fsV, fsV, fs_agr h fs (j + 1) hv.2]
    congr 1
    match f, hv.1 with
    | .inl true, _ => rfl
    | .inl false, _ => rfl
    | .inr r, hr => show va_rf (r.map ad') = va_rf (r.map ad); rw [rf_agr h hr]
theorem ce_agr {a b : Nat} {cA : Nat → ClassId} {ad ad' : Nat → Nat} {M : Mem} {k : Nat} {d : DS} (h : Agr a b ad ad') (hd : dsk a d = true) : ceE cA ad' M k d = ceE cA ad M k d := by
  match d, hd with
  | .inl (ci, fs), hd => show Sum.inr (ci, fsV ad' M k 0 fs) = Sum.inr (ci, fsV ad M k 0 fs); rw [fs_agr h fs 0 hd]
  | .inr (t, n, rs), hd =>
    have hd : rs.all (rfk a) = true := hd
    have e : arE ad' M k t rs = arE ad M k t rs := by
      unfold arE
      split
      · rfl
      · congr 4
        funext j
        refine rf_agr h ?_
        rw [List.getD_eq_getElem?_getD]
        cases hj : rs[j]? with
        | none => rfl
        | some r => exact List.all_eq_true.mp hd _ (List.mem_of_getElem? hj)
      · rfl
    show Sum.inl (cA t, n, arE ad' M k t rs) = Sum.inl (cA t, n, arE ad M k t rs)
    rw [e]
theorem ws_agr {a b : Nat} {cA : Nat → ClassId} {ad ad' : Nat → Nat} {M : Mem} (h : Agr a b ad ad') : ∀ (L : List DS) (k : Nat), k + L.length ≤ a → L.all (dsk a) = true → wsO cA ad' M k L = wsO cA ad M k L
  | [], _, _, _ => rfl
  | d :: L, k, hk, hv => by
    rw [List.all_cons, Bool.and_eq_true] at hv
    have hk1 : k + (L.length + 1) ≤ a := hk
    rw [wsO, wsO, ws_agr h L (k + 1) (by omega) hv.2, ce_agr h hv.1, h k (Or.inl (by omega))]
def Xad (X : Cx) : Nat → Nat := match X with
  | (p, l, e, R, s, m, args, below, meth, c, Q, D, cA, ad, A) => ad
def Xset (X : Cx) (ad' : Nat → Nat) : Cx := match X with
  | (p, l, e, R, s, m, args, below, meth, c, Q, D, cA, ad, A) => (p, l, e, R, s, m, args, below, meth, c, Q, D, cA, ad', A)
def XE (a b : Nat) (X X' : Cx) : Prop := ∃ ad', X' = Xset X ad' ∧ Agr a b (Xad X) ad'
theorem Cok.go {X X' : Cx} {a b : Nat} {cc : ByteArray} {own : String} {nL : Nat} {ret : Option FieldType} {lev c0 s0 : Nat} (h : Cok X cc own nL ret lev c0 s0) (hE : XE a b X X') : Cok X' cc own nL ret lev c0 s0 := by
  obtain ⟨p, l, e, R, s, m, args, below, meth, c, Q, D, cA, ad, A⟩ := X
  obtain ⟨ad', rfl, -⟩ := hE
  exact h
/-- the way back of a constructor: the new places come with it -/
def RN (X : Cx) (ad0 : Nat → Nat) (mc ms n0 : Nat) (L' : List DS) (Qn : Mem → Prop) : Prop := match X with
  | (p, l, e, R, s, m, args, below, meth, c, Q, D, cA, ad, A) => Q = MQ below (va_Qv (fun u : Mem × (Nat → Nat) => Qn u.1 ∧ Agr n0 L'.length ad0 u.2) (fun u => PostB D cA u.2 A L' u.1) A) args s mc ms A ∧ Agr n0 L'.length ad0 ad ∧ meth.name = "<init>"
theorem RN.go {X X' : Cx} {a b : Nat} {ad0 : Nat → Nat} {mc ms n0 : Nat} {L' : List DS} {Qn : Mem → Prop} (h : RN X ad0 mc ms n0 L' Qn) (hE : XE a b X X') (ha : n0 ≤ a) (hb : b ≤ L'.length) : RN X' ad0 mc ms n0 L' Qn := by
  obtain ⟨p, l, e, R, s, m, args, below, meth, c, Q, D, cA, ad, A⟩ := X
  obtain ⟨ad', rfl, hA⟩ := hE
  exact ⟨h.1, h.2.1.trans hA ha hb, h.2.2⟩
def CN (y : MethodName) (b : ByteArray) (n lev mc ms : Nat) (L L' : List DS) (as : List AV) (M : Mem) (Qn : Mem → Prop) : Prop :=
  ∀ (l : Launch) (D : va_G) (cA : Nat → ClassId) (ad : Nat → Nat) (sz : Nat), Met l y (.code y b n none :: TB) (rmD lev mc ms) (va_Pc (as.map (toV ad)) (PreB D cA ad L M sz)) (va_Qv (fun u : Mem × (Nat → Nat) => Qn u.1 ∧ Agr L.length L'.length ad u.2) (fun u => PostB D cA u.2 (Aof cA ad M L sz) L' u.1) (Aof cA ad M L sz)) mc ms (Aof cA ad M L sz)
section MKR
variable {X : Cx} {cc : ByteArray} {own : String} {nL : Nat} {ret : Option FieldType} {lev c0 s0 cells slots pc : Nat} {L L' : List DS} {lv : List (Option AV)} {st : List AV} {M : Mem}
theorem s_vretn (hX : Cok X cc own nL ret lev c0 s0) {ad0 : Nat → Nat} {n0 : Nat} {Qn : Mem → Prop} (hq : RN X ad0 cells slots n0 L Qn) (hrr : ret = none) (d : decode cc pc = .ok (.return_, 1)) (h : Qn M) : Wat X cells slots L pc lv ([]) M := by
  obtain ⟨p, l, e, R, s, m, args, below, meth, c, Q, D, cA, ad, A⟩ := X
  obtain ⟨⟨hx, hb, hml, hown, hts⟩, hK, hA, hlk, hrt, hR⟩ := hX
  intro H locs ls hw hl
  subst hrr
  obtain ⟨hq, hq2, -⟩ := hq
  subst hq
  exact W.vret hx hb hrt (fun t ht hW => ⟨⟨(M, ad), rfl, ⟨h, hq2⟩, by rw [ht]; exact hw.1, va_K.moved hW.alike hK, hw.2.1⟩, hw.2.2.F ht⟩) hw.2.2.2.2 d hlk
theorem s_obj (hX : Cok X cc own nL ret lev c0 s0) {idx k : Nat} (hl0 : Cond.methodLink own idx Lib.objectInit ∈ TB) (hi : Cond.instanceMethod Lib.objectInit ∈ TB) (hc : Cond.code Lib.objectInit ⟨#[0xb1]⟩ 1 none ∈ TB) (hlv : lv.length = nL) (hlev : 1 ≤ lev) (hst : (st.map avc).sum ≤ 8) (d : decode cc pc = .ok (.invokespecial idx, 3)) (k1 : Wat X cells slots L (pc + 3) lv st M) : Wat X cells slots L pc lv (vr k :: st) M := by
  obtain ⟨p, l, e, R, s, m, args, below, meth, c, Q, D, cA, ad, A⟩ := X
  obtain ⟨⟨hx, hb, hml, hown, hts⟩, hK, hA, hlk, hrt, hR⟩ := hX
  intro H locs ls hw hl
  have h8 := map_cat8 (ad := ad) hst
  exact W.objInit hx hb hown (hts _ hl0) (hts _ hi) (hts _ hc) rfl (by rw [hml, ← hlv]; exact hl.1) (a := ad k) (rest := st.map (toV ad)) rfl d (by omega) (by show 2 * 0 + _ + 12 ≤ R.locals; omega) (k1 H locs ls hw hl)
end MKR
