/-! making cells: the rows -/
def zM (M : Mem) (k : Nat) : Mem := (fun q => if q = k then fun _ => 0 else M.1 q, fun q => if q = k then fun _ => 0 else M.2 q)
theorem zM_1 {M : Mem} {k : Nat} : (zM M k).1 k = fun _ => 0 := if_pos rfl
theorem zM_2 {M : Mem} {k : Nat} : (zM M k).2 k = fun _ => 0 := if_pos rfl
theorem zM_n1 {M : Mem} {k q : Nat} (h : q ≠ k) : (zM M k).1 q = M.1 q := if_neg h
theorem zM_n2 {M : Mem} {k q : Nat} (h : q ≠ k) : (zM M k).2 q = M.2 q := if_neg h
def dfk1 (f : FD) (t : FieldType) : Bool := match f, t with
  | .inl true, .int => true
  | .inl true, .boolean => true
  | .inl false, .long => true
  | .inr none, .object _ => true
  | .inr none, .array _ => true
  | _, _ => false
def dfk (ty0 : Nat → FieldType) : Nat → List FD → Bool
  | _, [] => true
  | j, f :: r => dfk1 f (ty0 j) && dfk ty0 (j + 1) r
theorem dfk_ok {ty0 : Nat → FieldType} {ad : Nat → Nat} {M : Mem} {k : Nat} (h1 : M.1 k = fun _ => 0) (h2 : M.2 k = fun _ => 0) : ∀ (fs : List FD) (j : Nat), dfk ty0 j fs = true → ∀ i, i < fs.length → defaultValue (ty0 (j + i)) = vp_V (fsV ad M k j fs) i
  | [], _, _, i, hi => absurd hi (Nat.not_lt_zero i)
  | f :: r, j, hd, i, hi => by
    rw [dfk, Bool.and_eq_true] at hd
    match i, hi with
    | 0, _ =>
      show defaultValue (ty0 j) = fdV ad M k j f
      have hd1 := hd.1
      match f, h : ty0 j, hd1 with
      | .inl true, .int, _ => show Value.int 0 = .int (M.1 k j); rw [h1]
      | .inl true, .boolean, _ => show Value.int 0 = .int (M.1 k j); rw [h1]
      | .inl false, .long, _ => show Value.long 0 = .long (M.2 k j); rw [h2]
      | .inr none, .object _, _ => rfl
      | .inr none, .array _, _ => rfl
    | i + 1, hi =>
      have := dfk_ok (ad := ad) h1 h2 r (j + 1) hd.2 i (Nat.lt_of_succ_lt_succ hi)
      rw [show j + (i + 1) = j + 1 + i by omega, this]
      rfl
def updA (ad : Nat → Nat) (k q : Nat) : Nat → Nat := fun j => if j = k then q else ad j
theorem updA_k {ad : Nat → Nat} {k q : Nat} : updA ad k q k = q := if_pos rfl
theorem updA_agr {ad : Nat → Nat} {k q : Nat} : Agr k (k + 1) ad (updA ad k q) := fun j hj => if_neg (by omega)
theorem ws_push {cA : Nat → ClassId} {ad : Nat → Nat} {M : Mem} {L : List DS} {d : DS} {q : Nat} (hL : L.all (dsk L.length) = true) (hd : dsk L.length d = true) :
    wsO cA ad M 0 L ++ [(q, ceE cA ad (zM M L.length) L.length d)] = wsO cA (updA ad L.length q) (zM M L.length) 0 (L ++ [d]) := by
  have e := wsO_push (cA := cA) (ad := updA ad L.length q) (M := M) (M' := zM M L.length) (d := d) L 0 (fun j h => zM_n1 (by omega)) (fun j h => zM_n2 (by omega))
  rw [Nat.zero_add, updA_k, ws_agr updA_agr L 0 (by omega) hL, ce_agr updA_agr hd] at e
  exact e
section MKN
variable {X : Cx} {cc : ByteArray} {own : String} {nL : Nat} {ret : Option FieldType} {lev c0 s0 cells slots pc : Nat} {L L' : List DS} {lv : List (Option AV)} {st : List AV} {M : Mem}
theorem s_new (hX : Cok X cc own nL ret lev c0 s0) {ci N idx : Nat} {C : String} {T : u_T} {ty0 : Nat → FieldType} {fs : List FD} (hcl : cls[ci]? = some (C, T, N)) (hp : FP ci C T N ty0) (hws : ∀ w ∈ u_ws C T N, w ∈ TB) (h1 : Cond.classLink own idx C ∈ TB) (h2 : Cond.instantiable C N ∈ TB) (h3 : Cond.initialized C ∈ TB)
    (hfs : dfk ty0 0 fs = true) (hfl : fs.length = N) (hfk : fs.all (fdk L.length) = true) (hL : L.all (dsk L.length) = true) (hlv : lv.all (lvk L.length (L.length + 1)) = true) (hst : st.all (avk L.length (L.length + 1)) = true) (hc : cells + 1 ≤ c0) (hs : slots + N ≤ s0) (d : decode cc pc = .ok (.new idx, 3))
    (k1 : ∀ X' : Cx, XE L.length (L.length + 1) X X' → Wat X' (cells + 1) (slots + N) (L ++ [.inl (ci, fs)]) (pc + 3) lv (vr L.length :: st) (zM M L.length)) : Wat X cells slots L pc lv st M := by
  obtain ⟨p, l, e, R, s, m, args, below, meth, c, Q, D, cA, ad, A⟩ := X
  obtain ⟨⟨hx, hb, hml, hown, hts⟩, hK, hA, hlk, hrt, hR⟩ := hX
  intro H locs ls hw hl
  refine va_new (ci := ci) (fs := fsV ad (zM M L.length) L.length 0 fs) hx hb hts hws ty0 hp.1 hown (hts _ h1) (hts _ h2) (hts _ h3) hK hw.1 hw.2.1 hw.2.2 hA hcl (fun j hj => ?_) (by rw [hR.2.2.1]; exact hc) (by rw [hR.2.2.2]; exact hs) d (fun q H1 hP1 hD1 hS1 => ?_)
  · have := dfk_ok (ad := ad) (M := zM M L.length) (k := L.length) zM_1 zM_2 fs 0 hfs j (by rw [hfl]; exact hj)
    rw [Nat.zero_add] at this
    exact this
  · have e1 := ws_push (cA := cA) (ad := ad) (M := M) (d := .inl (ci, fs)) (q := q) hL hfk
    rw [show wsO cA ad M 0 L ++ [(q, Sum.inr (ci, fsV ad (zM M L.length) L.length 0 fs))] = _ from e1] at hP1 hD1
    have := k1 _ ⟨updA ad L.length q, rfl, updA_agr⟩ H1 locs ls ⟨hP1, hD1, hS1⟩ (lvh_agr updA_agr hlv hl)
    have e2 : (vr L.length :: st).map (toV (updA ad L.length q)) = .ref q :: st.map (toV ad) := by
      rw [List.map_cons, st_agr updA_agr hst]
      show Value.ref (updA ad L.length q L.length) :: _ = _
      rw [updA_k]
    rw [e2] at this
    exact this
theorem s_newa (hX : Cok X cc own nL ret lev c0 s0) {t n : Nat} {atype : ArrayType} {ty : FieldType} {x : Int32} {z : (Nat → Int32) ⊕ (Nat → Int64) ⊕ (Nat → UInt32) ⊕ (Nat → UInt64) ⊕ (Nat → Option Nat)} (hty : newarray.typeOf atype = ty) (hac : Cond.arrayClass ty ∈ TB) (htys : ∀ cA, (tys cA)[t]? = some (cA t, ty)) (hra : ∀ (U : State) (a b : ClassId), va_RA U a ty → va_RA U b ty → a = b)
    (hz : ∀ (ad : Nat → Nat) (M : Mem) (k : Nat), M.1 k = (fun _ => 0) → M.2 k = (fun _ => 0) → arE ad M k t [] = z) (hcell : ∀ cA : ClassId, vp_cell cA (n, z) = arrV cA n (fun _ => defaultValue ty)) (hx0 : x = nI n) (hn31 : n < 2 ^ 31) (hbytes : n * componentBytes ty ≤ 536870912)
    (hL : L.all (dsk L.length) = true) (hlv : lv.all (lvk L.length (L.length + 1)) = true) (hst : st.all (avk L.length (L.length + 1)) = true) (hc : cells + 1 ≤ c0) (hs : slots + n ≤ s0) (d : decode cc pc = .ok (.newarray atype, 2))
    (k1 : ∀ X' : Cx, XE L.length (L.length + 1) X X' → Wat X' (cells + 1) (slots + n) (L ++ [.inr (t, n, [])]) (pc + 2) lv (vr L.length :: st) (zM M L.length)) : Wat X cells slots L pc lv (vi x :: st) M := by
  obtain ⟨p, l, e, R, s, m, args, below, meth, c, Q, D, cA, ad, A⟩ := X
  obtain ⟨⟨hx, hb, hml, hown, hts⟩, hK, hA, hlk, hrt, hR⟩ := hX
  subst hx0
  subst hty
  intro H locs ls hw hl
  refine va_newa hx hb (hts _ hac) rfl hK hw.1 hw.2.1 hw.2.2 hA (a0 := (n, z)) hcell (nI_pos hn31) (nI_clamp hn31) hbytes (by rw [hR.2.2.1]; exact hc) (by rw [hR.2.2.2]; exact hs) d (fun q cA' H1 hK1 hP1 hD1 hS1 => ?_)
  have e0 : cA' = cA t := hra s _ _ (hK1.2 (tys cA).length (cA', newarray.typeOf atype) (by rw [List.getElem?_append_right (Nat.le_refl _), Nat.sub_self]; rfl)).2 (hK.2 t _ (htys cA)).2
  subst e0
  have e1 := ws_push (cA := cA) (ad := ad) (M := M) (d := .inr (t, n, [])) (q := q) hL rfl
  have e3 : ceE cA ad (zM M L.length) L.length (.inr (t, n, [])) = .inl (cA t, n, z) := by
    show Sum.inl (cA t, n, arE ad (zM M L.length) L.length t []) = _
    rw [hz _ _ _ zM_1 zM_2]
  rw [e3] at e1
  rw [e1] at hP1 hD1
  have := k1 _ ⟨updA ad L.length q, rfl, updA_agr⟩ H1 locs ls ⟨hP1, hD1, hS1⟩ (lvh_agr updA_agr hlv hl)
  have e2 : (vr L.length :: st).map (toV (updA ad L.length q)) = .ref q :: st.map (toV ad) := by
    rw [List.map_cons, st_agr updA_agr hst]
    show Value.ref (updA ad L.length q L.length) :: _ = _
    rw [updA_k]
  rw [e2] at this
  exact this
def NI (X : Cx) : Prop := match X with
  | (p, l, e, R, s, m, args, below, meth, c, Q, D, cA, ad, A) => meth.name = "<init>"
theorem RN.ni {ad0 : Nat → Nat} {mc ms n0 : Nat} {Qn : Mem → Prop} (h : RN X ad0 mc ms n0 L' Qn) : NI X := h.2.2
theorem s_putF (hX : Cok X cc own nL ret lev c0 s0) (hni : NI X) {k ci j idx N r : Nat} {C : String} {T : u_T} {fs : List FD} {f : FD} {ty0 : Nat → FieldType} {ty : FieldType} (hf : FI own idx ci j C T N) (hp : FP ci C T N ty0) (hfin : (T j).2.2.2 = true) (hdecl : (T j).1 = own) (hty : parseFieldDescriptor (T j).2.2.1 = some ty) (hfit : ∀ a, narrow ty (.ref a) = .ref a ∧ fits ty (.ref a) = true) (hk : L[k]? = some (.inl (ci, fs))) (hj : fs[j]? = some f) (hL : L.set k (.inl (ci, fs.set j (.inr (some r)))) = L') (d : decode cc pc = .ok (.putfield idx, 3)) (k1 : Wat X cells slots L' (pc + 3) lv st M) : Wat X cells slots L pc lv (vr r :: vr k :: st) M := by
  obtain ⟨p, l, e, R, s, m, args, below, meth, c, Q, D, cA, ad, A⟩ := X
  obtain ⟨⟨hx, hb, hml, hown, hts⟩, hK, hA, hlk, hrt, hR⟩ := hX
  intro H locs ls hw hl
  obtain ⟨hP, hD, hS⟩ := hw
  refine va_putF (D := D) (ty := ty) (v := .ref (ad r)) hx hb hts hf.2.2.1 ty0 hp.1 hp.2 hown hK hP hD hS k (wsO_at hk) hf.1 j hf.2.1 (hts _ hf.2.2.2) (fun _ h9 => h9) hfin hni hdecl hty (hfit _).1 (hfit _).2 (by rw [fsV_len]; exact (List.getElem?_eq_some_iff.mp hj).1) d (fun H1 locs1 h1 h2 h3 => ?_)
  rw [e_putr hk hj hL] at h1 h2
  exact k1 H1 locs1 ls ⟨h1, h2, h3⟩ hl
def MI (y : MethodName) (b : ByteArray) (n a : Nat) : Prop := Cond.code y b n none ∈ TB ∧ Cond.instanceMethod y ∈ TB ∧ Cond.initialized y.cls ∈ TB ∧ y.name = "<init>" ∧ (y.cls ≠ "java/lang/invoke/MethodHandle" ∧ y.cls ≠ "java/lang/invoke/VarHandle" ∧ (parseMethodDescriptor y.desc).map (fun d => d.parameters.length) = some a) ∧ n ≤ 41
theorem s_cn (hX : Cok X cc own nL ret lev c0 s0) {y : MethodName} {b : ByteArray} {n lev' mc ms k idx : Nat} {as rest : List AV} {Qn : Mem → Prop} (hc : CN y b n lev' mc ms L L' (vr k :: as) M Qn) (hm : MI y b n as.length) (hl0 : Cond.methodLink own idx y ∈ TB) (d : decode cc pc = .ok (.invokespecial idx, 3)) (hst : st = as.reverse ++ vr k :: rest) (hw8 : (rest.map avc).sum ≤ 8) (hlv : lv.length = nL) (hlev : lev' < lev) (hcs : cells + mc ≤ c0 ∧ slots + ms ≤ s0)
    (hlk2 : lv.all (lvk L.length L'.length) = true) (hrk : rest.all (avk L.length L'.length) = true)
    (k1 : ∀ (X' : Cx) (M1 : Mem), XE L.length L'.length X X' → Qn M1 → Wat X' (cells + mc) (slots + ms) L' (pc + 3) lv rest M1) : Wat X cells slots L pc lv st M := by
  obtain ⟨p, l, e, R, s, m, args, below, meth, c, Q, D, cA, ad, A⟩ := X
  obtain ⟨⟨hx, hb, hml, hown, hts⟩, hK, hA, hlk, hrt, hR⟩ := hX
  subst hst
  intro H locs ls hw hl
  have hFc := free_all hw hA
  have h41 := hm.2.2.2.2.2
  refine va_callv (va_runI (As := as.map (toV ad)) (rest := rest.map (toV ad)) (b := ad k) ⟨hx, hb, hml, hown, hts⟩ (hc l D cA ad H.size) (cwI as.length hts (gd_of (fun w hw => ?_)) rfl rfl rfl (hts _ hm.2.2.1) (hts _ hl0) (hts _ hm.2.1) hm.2.2.2.1 hm.2.2.2.2.1 ⟨by show lev' + 1 ≤ R.frames; omega, by show 8 + (n + 11) + 60 * lev' ≤ R.locals; omega⟩) ⟨pb_blind, fun U hU hW => ⟨rfl, by rw [hU], by rw [hU]; exact hw.1, va_K.moved hW.alike hK, hw.2.1.weaken (fun _ _ _ _ => trivial)⟩⟩ rfl (by rw [List.length_map]) (by rw [← hlv]; exact hl.1) (by show List.map (toV ad) (as.reverse ++ vr k :: rest) = _; rw [List.map_append, List.map_reverse]; rfl) (lv_room (map_cat8 hw8)) d (by rw [hR.2.2.1, hR.2.2.2]; exact hcs)) hw.2.2 (fun q _ h => hFc q h) hFc (fun u t H1 locs1 ht hvm hq hB hz hk1 hS => ?_)
  · have hw : w ∈ Cond.code y b n none :: TB := hw
    rcases List.mem_cons.mp hw with rfl | h
    · exact hm.1
    · exact h
  · have := k1 _ u.1 ⟨u.2, rfl, hq.2⟩ hq.1 H1 locs1 ls ⟨by rw [← ht]; exact hB.1, hB.2.2.weaken (fun q _ _ h => hFc _ h), hS⟩ (lvh_agr hq.2 hlk2 hl)
    rw [st_agr hq.2 hrk] at this
    exact this
end MKN
theorem mk_n {y : MethodName} {b : ByteArray} {n lev mc ms : Nat} {L L' : List DS} {as : List AV} {M : Mem} {Qn : Mem → Prop} {lv0 : List (Option AV)} (hp : plainName y.cls = true) (hy : y.name = "<init>") (hlv : lve as n = lv0) (hlen : lv0.length = n) (hsl : (lg_sl (as.map (toV (fun _ => 0)))).length ≤ n)
    (h : ∀ (X : Cx) (ad0 : Nat → Nat), Cok X b y.cls n none lev mc ms → RN X ad0 mc ms L.length L' Qn → Wat X 0 0 L 0 lv0 [] M) : CN y b n lev mc ms L L' as M Qn := by
  intro l D cA ad sz
  refine Met.ofW (cc := b) (maxL := n) (ret := none) hp rfl ?_
  intro p e s m args below meth c s1 B hml hv
  obtain ⟨rfl, hsz, hP, hK, hD0⟩ := hv
  subst hsz
  have hts := atoms_spec (ws := .code y b n none :: TB) B.pre
  have hown : s.vm.findClass y.cls = some m.cls := findClass_of_methodNamed B.named
  have hni : meth.name = "<init>" := (name_of_methodNamed B.named B.method).1.trans hy
  have hw := h (p, l, e, rmD lev mc ms, s, m, (as.map (toV ad)).toArray, below, meth, c, _, D, cA, ad, Aof cA ad M L s.heap.size) ad ⟨⟨B.exec, B.bytes, hml, hown, fun w hw => hts w (List.mem_cons_of_mem _ hw)⟩, hK, fun q h => Or.inr h, B.notSynchronized, B.returns, Nat.le_refl _, Nat.le_refl _, rfl, rfl⟩ ⟨rfl, Agr.rf, hni⟩
  have hsl2 : (lg_sl (as.map (toV ad))).length ≤ n := by
    have e : ∀ as : List AV, (lg_sl (as.map (toV ad))).length = (lg_sl (as.map (toV (fun _ => 0)))).length := by
      intro as
      induction as with
      | nil => rfl
      | cons a t ih =>
        have ih' : ((t.map (toV ad)).flatMap fun v => if v.category = 2 then [Slot.val v, .second] else [.val v]).length = ((t.map (toV (fun _ => 0))).flatMap fun v => if v.category = 2 then [Slot.val v, .second] else [.val v]).length := ih
        simp only [lg_sl, List.map_cons, List.flatMap_cons, List.length_append, toV_cat]
        rw [ih']
        split <;> rfl
    rw [e]; exact hsl
  have hle := lv_entry (as.map (toV ad)) (n := n) hsl2
  rw [lg_entry_eq]
  refine hw s.heap [] _ ⟨hP, hD0.self, va_S.rf⟩ ⟨by rw [hlen]; exact hle.1, hle.2.1, fun q hq => hle.2.2 q ?_⟩
  obtain ⟨i, v, h1, rfl⟩ := (lvl_mem ad lv0 0 q).mp hq
  rw [← hlv] at h1
  exact lve_has ad as n 0 i v h1
