/-! the text constant of the tape: String.length and String.charAt on it -/
abbrev strN : String := "java/lang/String"
abbrev preN : String := "jdk/internal/util/Preconditions"
abbrev bifD : String := "Ljava/util/function/BiFunction;"
def kbL : List Int32 := [104, 105, 108, 108, 115, 32, 112, 101, 114, 115, 111, 110, 32, 97, 116, 32, 112, 117, 114, 115, 101, 32, 103, 111, 32, 104, 111, 117, 114, 32, 98, 105, 114, 100, 32, 99, 97, 108, 108, 32, 116, 105, 109, 101, 115, 32, 111, 119, 101, 32, 102, 111, 103, 32, 104, 101, 97, 114, 32, 112, 108, 97, 105, 110, 32, 100, 101, 97, 102, 32, 99, 104, 105, 108, 100, 32, 114, 105, 99, 104, 32, 115, 104, 121, 32, 110, 111, 116, 32, 97, 110, 100, 32, 111, 114, 32, 102, 97, 114, 32, 110, 101, 97, 114, 32, 120, 32, 121]
def kb (j : Nat) : Int32 := kbL.getD j 0
def STx (A : Nat → Prop) (ad : Nat → Nat) (U : State) : Prop :=
  va_O strN (ad 96) A U U.heap ∧ va_OF strN "coder" "B" (.int 0) (ad 96) A U U.heap ∧ va_OF strN "value" "[B" (.ref (ad 97)) (ad 96) A U U.heap ∧ va_T .byte (ad 97) 108 (fun j => .int (kb j)) A U U.heap ∧ va_Z strN "COMPACT_STRINGS" "Z" (.int 1) A U U.heap ∧ (va_Z preN "SIOOBE_FORMATTER" bifD .null A U U.heap ∨ va_Z preN "SIOOBE_FORMATTER" bifD (.ref (ad 98)) A U U.heap)
theorem STx.go {A B : Nat → Prop} {ad ad' : Nat → Nat} {s U : State} (hvm : s.vm.Alike U.vm) (hH : ∀ q : Nat, q < s.heap.size → ¬ A q → U.heap[q]? = s.heap[q]?) (hAB : ∀ q, B q → A q) (h96 : ad' 96 = ad 96) (h97 : ad' 97 = ad 97) (h98 : ad' 98 = ad 98) (h : STx A ad s) : STx B ad' U := by
  obtain ⟨h1, h2, h3, h4, h5, h6⟩ := h
  unfold STx
  rw [h96, h97, h98]
  refine ⟨(va_O.moved hvm (h1.kept hH)).narrow hAB, (va_OF.moved hvm (h2.kept hH)).narrow hAB, (va_OF.moved hvm (h3.kept hH)).narrow hAB, (va_T.moved hvm (h4.kept hH)).narrow hAB, (va_Z.moved hvm (h5.kept hH)).narrow hAB, ?_⟩
  rcases h6 with h6 | h6
  · exact Or.inl ((va_Z.moved hvm (h6.kept hH)).narrow hAB)
  · exact Or.inr ((va_Z.moved hvm (h6.kept hH)).narrow hAB)
abbrev mz : Mem := (fun _ _ => 0, fun _ _ => 0)
def PreT (D : va_G) (cA : Nat → ClassId) (ad : Nat → Nat) (sz : Nat) (U : State) : Prop := PreB D cA ad [] mz sz U ∧ STx (Aof cA ad mz [] sz) ad U
def CT (y : MethodName) (b : ByteArray) (n : Nat) (ret : Option FieldType) (lev : Nat) (as : List AV) (v : Int32) : Prop :=
  ∀ (l : Launch) (D : va_G) (cA : Nat → ClassId) (ad : Nat → Nat) (sz : Nat), Met l y (.code y b n ret :: TB) (rmD lev 0 0) (va_Pc (as.map (toV ad)) (PreT D cA ad sz)) (va_Qi (fun r (_ : Mem) => r = v) (PostB D cA ad (Aof cA ad mz [] sz) []) (Aof cA ad mz [] sz)) 0 0 (Aof cA ad mz [] sz)
def CTv (y : MethodName) (b : ByteArray) (n : Nat) (lev : Nat) (as : List AV) : Prop :=
  ∀ (l : Launch) (D : va_G) (cA : Nat → ClassId) (ad : Nat → Nat) (sz : Nat), Met l y (.code y b n none :: TB) (rmD lev 0 0) (va_Pc (as.map (toV ad)) (PreT D cA ad sz)) (va_Qv (fun (_ : Mem) => True) (PostB D cA ad (Aof cA ad mz [] sz) []) (Aof cA ad mz [] sz)) 0 0 (Aof cA ad mz [] sz)
theorem pt_blind {as : List Value} {D : va_G} {cA : Nat → ClassId} {ad : Nat → Nat} {sz : Nat} : FrameBlind (va_Pc as (PreT D cA ad sz)) := fun a U g mk q => by
  obtain ⟨q0, ⟨q1, qP, qK, qD⟩, qZ⟩ := q
  exact ⟨q0, ⟨q1, qP, va_K.moved (u := U) (U := U.calling g mk a) (Vm.Alike.refl U.vm) qK, qD⟩, STx.go (s := U) (U := U.calling g mk a) (Vm.Alike.refl U.vm) (fun _ _ _ => rfl) (fun _ h => h) rfl rfl rfl qZ⟩
theorem nilP {D : va_G} {cA : Nat → ClassId} {ad : Nat → Nat} {M : Mem} {H : Heap} : va_P D cls (wsO cA ad M 0 []) H := fun k q h => (by cases h)
theorem nilD {A : Nat → Prop} {cA : Nat → ClassId} {ad : Nat → Nat} {M : Mem} : va_D A (wsO cA ad M 0 []) := ⟨fun i j p q h => (by cases h), fun k q h => (by cases h)⟩
def TS (X : Cx) : Prop := match X with
  | (p, l, e, R, s, m, args, below, meth, c, Q, D, cA, ad, A) => STx A ad s
def RIb (X : Cx) (Qn : Int32 → Mem → Prop) : Prop := RI X 0 0 [] Qn
section STR
variable {X : Cx} {cc : ByteArray} {own : String} {nL : Nat} {ret : Option FieldType} {lev c0 s0 cells slots pc : Nat} {L : List DS} {lv : List (Option AV)} {st : List AV} {M : Mem}
theorem s_gcs (hX : Cok X cc RJ0 nL ret lev c0 s0) (hT : TS X) (d : decode cc pc = .ok (.getstatic 38, 3)) (k : Wat X cells slots L (pc + 3) lv (vi 1 :: st) M) : Wat X cells slots L pc lv st M := by
  obtain ⟨p, l, e, R, s, m, args, below, meth, c, Q, D, cA, ad, A⟩ := X
  obtain ⟨⟨hx, hb, hml, hown, hts⟩, hK, hA, hlk, hrt, hR⟩ := hX
  intro H locs ls hw hl
  exact va_gets hx hb hT.2.2.2.2.1 hw.2.2 hown (hts _ wd_fl_J0_38) (fun _ h => h) d (k H locs ls hw hl)
theorem s_gfm (hX : Cok X cc RJ0 nL ret lev c0 s0) (hT : TS X) (d : decode cc pc = .ok (.getstatic 1053, 3)) (k : ∀ r : Option Nat, Wat X cells slots L (pc + 3) lv (vq r :: st) M) : Wat X cells slots L pc lv st M := by
  obtain ⟨p, l, e, R, s, m, args, below, meth, c, Q, D, cA, ad, A⟩ := X
  obtain ⟨⟨hx, hb, hml, hown, hts⟩, hK, hA, hlk, hrt, hR⟩ := hX
  intro H locs ls hw hl
  rcases hT.2.2.2.2.2 with h | h
  · exact va_gets hx hb h hw.2.2 hown (hts _ wd_fl_J0_1053) (fun _ h => h) d (k none H locs ls hw hl)
  · exact va_gets hx hb h hw.2.2 hown (hts _ wd_fl_J0_1053) (fun _ h => h) d (k (some 98) H locs ls hw hl)
theorem s_gva (hX : Cok X cc RJ0 nL ret lev c0 s0) (hT : TS X) (d : decode cc pc = .ok (.getfield 9, 3)) (k : Wat X cells slots L (pc + 3) lv (vr 97 :: st) M) : Wat X cells slots L pc lv (vr 96 :: st) M := by
  obtain ⟨p, l, e, R, s, m, args, below, meth, c, Q, D, cA, ad, A⟩ := X
  obtain ⟨⟨hx, hb, hml, hown, hts⟩, hK, hA, hlk, hrt, hR⟩ := hX
  intro H locs ls hw hl
  exact vk_getf hx hb hT.2.2.1 hw.2.2 hown (hts _ wd_fl_J0_9) (fun _ h => h) d (k H locs ls hw hl)
theorem s_gco (hX : Cok X cc RJ0 nL ret lev c0 s0) (hT : TS X) (d : decode cc pc = .ok (.getfield 15, 3)) (k : Wat X cells slots L (pc + 3) lv (vi 0 :: st) M) : Wat X cells slots L pc lv (vr 96 :: st) M := by
  obtain ⟨p, l, e, R, s, m, args, below, meth, c, Q, D, cA, ad, A⟩ := X
  obtain ⟨⟨hx, hb, hml, hown, hts⟩, hK, hA, hlk, hrt, hR⟩ := hX
  intro H locs ls hw hl
  exact vk_getf hx hb hT.2.1 hw.2.2 hown (hts _ wd_fl_J0_15) (fun _ h => h) d (k H locs ls hw hl)
theorem s_bln (hX : Cok X cc own nL ret lev c0 s0) (hT : TS X) (d : decode cc pc = .ok (.arraylength, 1)) (k : Wat X cells slots L (pc + 1) lv (vi 108 :: st) M) : Wat X cells slots L pc lv (vr 97 :: st) M := by
  obtain ⟨p, l, e, R, s, m, args, below, meth, c, Q, D, cA, ad, A⟩ := X
  obtain ⟨⟨hx, hb, hml, hown, hts⟩, hK, hA, hlk, hrt, hR⟩ := hX
  intro H locs ls hw hl
  exact va_tlen hx hb hT.2.2.2.1 hw.2.2 (v := 108) rfl d (k H locs ls hw hl)
theorem s_bld (hX : Cok X cc own nL ret lev c0 s0) (hT : TS X) {j : Nat} (hj : j < 108) (d : decode cc pc = .ok (.baload, 1)) (k : Wat X cells slots L (pc + 1) lv (vi (kb j) :: st) M) : Wat X cells slots L pc lv (vi (nI j) :: vr 97 :: st) M := by
  obtain ⟨p, l, e, R, s, m, args, below, meth, c, Q, D, cA, ad, A⟩ := X
  obtain ⟨⟨hx, hb, hml, hown, hts⟩, hK, hA, hlk, hrt, hR⟩ := hX
  intro H locs ls hw hl
  exact va_tb hx hb hT.2.2.2.1 hw.2.2 (i := nI j) (vp_in_nI hj (by decide)) (v := .int (kb j)) (by rw [nI_clamp (by omega)]) d (k H locs ls hw hl)
theorem s_bret (hX : Cok X cc own nL ret lev c0 s0) {x : Int32} {ty : FieldType} {Qn : Int32 → Mem → Prop} (hq : RI X cells slots L Qn) (hrr : ret = some ty) (hn : narrow ty (.int x) = .int x) (d : decode cc pc = .ok (.ireturn, 1)) (h : Qn x M) : Wat X cells slots L pc lv ([vi x]) M := by
  obtain ⟨p, l, e, R, s, m, args, below, meth, c, Q, D, cA, ad, A⟩ := X
  obtain ⟨⟨hx, hb, hml, hown, hts⟩, hK, hA, hlk, hrt, hR⟩ := hX
  intro H locs ls hw hl
  subst hrr
  have hq : Q = _ := hq
  subst hq
  exact W.zret (v := x) hx hb hrt hn (fun t ht hW => ⟨⟨x, M, rfl, h, by rw [ht]; exact hw.1, va_K.moved hW.alike hK, hw.2.1⟩, hw.2.2.F ht⟩) hw.2.2.2.2 d hlk
theorem t_kept {D : va_G} {cA : Nat → ClassId} {ad : Nat → Nat} {A : Nat → Prop} {H0 H H1 : Heap} {locs locs1 : List Loc} {L : List DS} {M : Mem} (hw : Wd D cA ad A H0 H locs L M) (hk : ∀ q : Nat, q < H.size → ¬ Aof cA ad mz [] H.size q → H1[q]? = H[q]?) (hS : va_S A H0 H1 locs1) : Wd D cA ad A H0 H1 locs1 L M := by
  refine ⟨hw.1.kept (fun k x hx => ?_), hw.2.1, hS⟩
  have hlt := (hw.1 k x hx).lt
  refine hk _ hlt (fun z => ?_)
  rcases z with ⟨k, e, h⟩ | h
  · cases h
  · omega
theorem t_free {cA : Nat → ClassId} {ad : Nat → Nat} {A : Nat → Prop} {H0 H : Heap} {locs : List Loc} (hS : va_S A H0 H locs) (hA : ∀ q, H0.size ≤ q → A q) : ∀ q, Aof cA ad mz [] H.size q → A q := fun q z => by
  rcases z with ⟨k, e, h⟩ | h
  · cases h
  · exact hA q (Nat.le_trans hS.1 h)
theorem s_ctv (hX : Cok X cc own nL ret lev c0 s0) (hT : TS X) {y : MethodName} {b : ByteArray} {n lev' idx : Nat} {rt : Option FieldType} {as rest : List AV} {v : Int32} (hc : CT y b n rt lev' (vr 96 :: as) v) (hm : MV y b n rt strN as.length) (hl0 : Cond.methodLink own idx y ∈ TB) (d : decode cc pc = .ok (.invokevirtual idx, 3)) (hst : st = as.reverse ++ vr 96 :: rest) (hw8 : (rest.map avc).sum ≤ 8) (hlv : lv.length = nL) (hlev : lev' < lev) (hcs : cells ≤ c0 ∧ slots ≤ s0) (k1 : Wat X cells slots L (pc + 3) lv (vi v :: rest) M) : Wat X cells slots L pc lv st M := by
  obtain ⟨p, l, e, R, s, m, args, below, meth, c, Q, D, cA, ad, A⟩ := X
  obtain ⟨⟨hx, hb, hml, hown, hts⟩, hK, hA, hlk, hrt, hR⟩ := hX
  subst hst
  intro H locs ls hw hl
  have hFc := t_free (cA := cA) (ad := ad) hw.2.2 hA
  have h41 := hm.2.2.2.2.2
  refine va_calli (va_runV (As := as.map (toV ad)) (rest := rest.map (toV ad)) (C := strN) (b := ad 96) ⟨hx, hb, hml, hown, hts⟩ (hc l D cA ad H.size) (cwV as.length hts (gd_of (fun w hw => ?_)) rfl rfl rfl hm.2.2.2.2.1 ⟨by show lev' + 1 ≤ R.frames; omega, by show 8 + (n + 11) + 60 * lev' ≤ R.locals; omega⟩) ⟨pt_blind, ?_, fun U hU hW => ⟨rfl, ⟨by rw [hU], nilP, va_K.moved hW.alike hK, nilD⟩, STx.go hW.alike (by rw [hU]; exact hw.2.2.2.1) hFc rfl rfl rfl hT⟩⟩ rfl (by rw [List.length_map]) (by rw [← hlv]; exact hl.1) (by show List.map (toV ad) (as.reverse ++ vr 96 :: rest) = _; rw [List.map_append, List.map_reverse]; rfl) (lv_room (map_cat8 hw8)) d (by rw [hR.2.2.1, hR.2.2.2]; exact hcs)) hw.2.2 (fun q _ h => hFc q h) hFc (fun r u t H1 locs1 ht hvm hq hB hz hk1 hS => ?_)
  · have hw : w ∈ [Cond.methodLink own idx y, .instanceMethod y, .selects strN y y, .initialized strN] ++ (Cond.code y b n rt :: TB) := hw
    simp only [List.cons_append, List.nil_append, List.mem_cons] at hw
    rcases hw with rfl | rfl | rfl | rfl | rfl | h
    · exact hl0
    · exact hm.2.1
    · exact hm.2.2.1
    · exact hm.2.2.2.1
    · exact hm.1
    · exact h
  · obtain ⟨cell, h1, h2, h3, -⟩ := hT.1.kept hw.2.2.2.1
    exact ⟨cell, h1, h2, h3⟩
  · subst hq
    exact k1 H1 locs1 ls (t_kept hw hk1 hS) hl
theorem s_cts (hX : Cok X cc own nL ret lev c0 s0) (hT : TS X) {y : MethodName} {b : ByteArray} {n lev' idx : Nat} {rt : Option FieldType} {as rest : List AV} {v : Int32} (hc : CT y b n rt lev' as v) (hm : MS y b n rt as.length) (hl0 : Cond.methodLink own idx y ∈ TB) (d : decode cc pc = .ok (.invokestatic idx, 3)) (hst : st = as.reverse ++ rest) (hw8 : (rest.map avc).sum ≤ 8) (hlv : lv.length = nL) (hlev : lev' < lev) (hcs : cells ≤ c0 ∧ slots ≤ s0) (k1 : Wat X cells slots L (pc + 3) lv (vi v :: rest) M) : Wat X cells slots L pc lv st M := by
  obtain ⟨p, l, e, R, s, m, args, below, meth, c, Q, D, cA, ad, A⟩ := X
  obtain ⟨⟨hx, hb, hml, hown, hts⟩, hK, hA, hlk, hrt, hR⟩ := hX
  subst hst
  intro H locs ls hw hl
  have hFc := t_free (cA := cA) (ad := ad) hw.2.2 hA
  have h41 := hm.2.2.2.2
  refine va_calli (va_runS (As := as.map (toV ad)) (rest := rest.map (toV ad)) ⟨hx, hb, hml, hown, hts⟩ (hc l D cA ad H.size) (va_cwS as.length hts (gd_of (fun w hw => ?_)) rfl rfl rfl hm.2.2.2.1 ⟨by show lev' + 1 ≤ R.frames; omega, by show 8 + (n + 11) + 60 * lev' ≤ R.locals; omega⟩) ⟨pt_blind, fun U hU hW => ⟨rfl, ⟨by rw [hU], nilP, va_K.moved hW.alike hK, nilD⟩, STx.go hW.alike (by rw [hU]; exact hw.2.2.2.1) hFc rfl rfl rfl hT⟩⟩ rfl (by rw [List.length_map]) (by rw [← hlv]; exact hl.1) (by show List.map (toV ad) (as.reverse ++ rest) = _; rw [List.map_append, List.map_reverse]) (lv_room (map_cat8 hw8)) d (by rw [hR.2.2.1, hR.2.2.2]; exact hcs)) hw.2.2 (fun q _ h => hFc q h) hFc (fun r u t H1 locs1 ht hvm hq hB hz hk1 hS => ?_)
  · have hw : w ∈ [Cond.methodLink own idx y, .static y, .initialized y.cls] ++ (Cond.code y b n rt :: TB) := hw
    simp only [List.cons_append, List.nil_append, List.mem_cons] at hw
    rcases hw with rfl | rfl | rfl | rfl | h
    · exact hl0
    · exact hm.2.1
    · exact hm.2.2.1
    · exact hm.1
    · exact h
  · subst hq
    exact k1 H1 locs1 ls (t_kept hw hk1 hS) hl
theorem s_ctw (hX : Cok X cc own nL ret lev c0 s0) (hT : TS X) {y : MethodName} {b : ByteArray} {n lev' idx : Nat} {as rest : List AV} (hc : CTv y b n lev' as) (hm : MS y b n none as.length) (hl0 : Cond.methodLink own idx y ∈ TB) (d : decode cc pc = .ok (.invokestatic idx, 3)) (hst : st = as.reverse ++ rest) (hw8 : (rest.map avc).sum ≤ 8) (hlv : lv.length = nL) (hlev : lev' < lev) (hcs : cells ≤ c0 ∧ slots ≤ s0) (k1 : Wat X cells slots L (pc + 3) lv rest M) : Wat X cells slots L pc lv st M := by
  obtain ⟨p, l, e, R, s, m, args, below, meth, c, Q, D, cA, ad, A⟩ := X
  obtain ⟨⟨hx, hb, hml, hown, hts⟩, hK, hA, hlk, hrt, hR⟩ := hX
  subst hst
  intro H locs ls hw hl
  have hFc := t_free (cA := cA) (ad := ad) hw.2.2 hA
  have h41 := hm.2.2.2.2
  refine va_callv (va_runS (As := as.map (toV ad)) (rest := rest.map (toV ad)) ⟨hx, hb, hml, hown, hts⟩ (hc l D cA ad H.size) (va_cwS as.length hts (gd_of (fun w hw => ?_)) rfl rfl rfl hm.2.2.2.1 ⟨by show lev' + 1 ≤ R.frames; omega, by show 8 + (n + 11) + 60 * lev' ≤ R.locals; omega⟩) ⟨pt_blind, fun U hU hW => ⟨rfl, ⟨by rw [hU], nilP, va_K.moved hW.alike hK, nilD⟩, STx.go hW.alike (by rw [hU]; exact hw.2.2.2.1) hFc rfl rfl rfl hT⟩⟩ rfl (by rw [List.length_map]) (by rw [← hlv]; exact hl.1) (by show List.map (toV ad) (as.reverse ++ rest) = _; rw [List.map_append, List.map_reverse]) (lv_room (map_cat8 hw8)) d (by rw [hR.2.2.1, hR.2.2.2]; exact hcs)) hw.2.2 (fun q _ h => hFc q h) hFc (fun u t H1 locs1 ht hvm hq hB hz hk1 hS => ?_)
  · have hw : w ∈ [Cond.methodLink own idx y, .static y, .initialized y.cls] ++ (Cond.code y b n none :: TB) := hw
    simp only [List.cons_append, List.nil_append, List.mem_cons] at hw
    rcases hw with rfl | rfl | rfl | rfl | h
    · exact hl0
    · exact hm.2.1
    · exact hm.2.2.1
    · exact hm.1
    · exact h
  · exact k1 H1 locs1 ls (t_kept hw hk1 hS) hl
end STR
theorem mk_t {y : MethodName} {b : ByteArray} {n : Nat} {rt : Option FieldType} {lev : Nat} {as : List AV} {v : Int32} {lv0 : List (Option AV)} (hp : plainName y.cls = true) (hlv : lve as n = lv0) (hlen : lv0.length = n) (hsl : (lg_sl (as.map (toV (fun _ => 0)))).length ≤ n)
    (h : ∀ X : Cx, Cok X b y.cls n rt lev 0 0 → TS X → RI X 0 0 [] (fun r (_ : Mem) => r = v) → Wat X 0 0 [] 0 lv0 [] mz) : CT y b n rt lev as v := by
  intro l D cA ad sz
  refine Met.ofW (cc := b) (maxL := n) (ret := rt) hp rfl ?_
  intro p e s m args below meth c s1 B hml hv
  obtain ⟨rfl, ⟨hsz, hP, hK, hD0⟩, hZ⟩ := hv
  subst hsz
  have hts := atoms_spec (ws := .code y b n rt :: TB) B.pre
  have hown : s.vm.findClass y.cls = some m.cls := findClass_of_methodNamed B.named
  have hw := h (p, l, e, rmD lev 0 0, s, m, (as.map (toV ad)).toArray, below, meth, c, _, D, cA, ad, Aof cA ad mz [] s.heap.size) ⟨⟨B.exec, B.bytes, hml, hown, fun w hw => hts w (List.mem_cons_of_mem _ hw)⟩, hK, fun q h => Or.inr h, B.notSynchronized, B.returns, Nat.le_refl _, Nat.le_refl _, rfl, rfl⟩ hZ rfl
  have hsl2 : (lg_sl (as.map (toV ad))).length ≤ n := by
    have e : ∀ as : List AV, (lg_sl (as.map (toV ad))).length = (lg_sl (as.map (toV (fun _ => 0)))).length := by
      intro as
      induction as with
      | nil => rfl
      | cons a t ih =>
        have ih' : ((t.map (toV ad)).flatMap fun v => if v.category = 2 then [Slot.val v, .second] else [.val v]).length = ((t.map (toV (fun _ => 0))).flatMap fun v => if v.category = 2 then [Slot.val v, .second] else [.val v]).length := ih
        simp only [lg_sl, List.map_cons, List.flatMap_cons, List.length_append, toV_cat]
        rw [ih']
        split <;> rfl
    rw [e]; exact hsl
  have hle := lv_entry (as.map (toV ad)) (n := n) hsl2
  rw [lg_entry_eq]
  refine hw s.heap [] _ ⟨hP, hD0.self, va_S.rf⟩ ⟨by rw [hlen]; exact hle.1, hle.2.1, fun q hq => hle.2.2 q ?_⟩
  obtain ⟨i, v, h1, rfl⟩ := (lvl_mem ad lv0 0 q).mp hq
  rw [← hlv] at h1
  exact lve_has ad as n 0 i v h1
theorem mk_tv {y : MethodName} {b : ByteArray} {n : Nat} {lev : Nat} {as : List AV} {lv0 : List (Option AV)} (hp : plainName y.cls = true) (hlv : lve as n = lv0) (hlen : lv0.length = n) (hsl : (lg_sl (as.map (toV (fun _ => 0)))).length ≤ n)
    (h : ∀ X : Cx, Cok X b y.cls n none lev 0 0 → TS X → RV X 0 0 [] (fun (_ : Mem) => True) → Wat X 0 0 [] 0 lv0 [] mz) : CTv y b n lev as := by
  intro l D cA ad sz
  refine Met.ofW (cc := b) (maxL := n) (ret := none) hp rfl ?_
  intro p e s m args below meth c s1 B hml hv
  obtain ⟨rfl, ⟨hsz, hP, hK, hD0⟩, hZ⟩ := hv
  subst hsz
  have hts := atoms_spec (ws := .code y b n none :: TB) B.pre
  have hown : s.vm.findClass y.cls = some m.cls := findClass_of_methodNamed B.named
  have hw := h (p, l, e, rmD lev 0 0, s, m, (as.map (toV ad)).toArray, below, meth, c, _, D, cA, ad, Aof cA ad mz [] s.heap.size) ⟨⟨B.exec, B.bytes, hml, hown, fun w hw => hts w (List.mem_cons_of_mem _ hw)⟩, hK, fun q h => Or.inr h, B.notSynchronized, B.returns, Nat.le_refl _, Nat.le_refl _, rfl, rfl⟩ hZ rfl
  have hsl2 : (lg_sl (as.map (toV ad))).length ≤ n := by
    have e : ∀ as : List AV, (lg_sl (as.map (toV ad))).length = (lg_sl (as.map (toV (fun _ => 0)))).length := by
      intro as
      induction as with
      | nil => rfl
      | cons a t ih =>
        have ih' : ((t.map (toV ad)).flatMap fun v => if v.category = 2 then [Slot.val v, .second] else [.val v]).length = ((t.map (toV (fun _ => 0))).flatMap fun v => if v.category = 2 then [Slot.val v, .second] else [.val v]).length := ih
        simp only [lg_sl, List.map_cons, List.flatMap_cons, List.length_append, toV_cat]
        rw [ih']
        split <;> rfl
    rw [e]; exact hsl
  have hle := lv_entry (as.map (toV ad)) (n := n) hsl2
  rw [lg_entry_eq]
  refine hw s.heap [] _ ⟨hP, hD0.self, va_S.rf⟩ ⟨by rw [hlen]; exact hle.1, hle.2.1, fun q hq => hle.2.2 q ?_⟩
  obtain ⟨i, v, h1, rfl⟩ := (lvl_mem ad lv0 0 q).mp hq
  rw [← hlv] at h1
  exact lve_has ad as n 0 i v h1
