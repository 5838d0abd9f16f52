/-! constructors: what they may rest on, and arrays of references -/
abbrev kwT : String := "hills person at purse go hour bird call times owe fog hear plain deaf child rich shy not and or far near x y"
def Ex (A : Nat → Prop) (ad : Nat → Nat) (U : State) : Prop := STx A ad U ∧ va_AO "CuckooDebt$Deeds" U ∧ vk_R RX10 19 kwT (ad 96) U ∧ va_Nw (.methodLinkNest RX11 48 yX3_init RX11) U
theorem Ex.go {A B : Nat → Prop} {ad ad' : Nat → Nat} {s U : State} (hW : s.WarmedH U.vm) (hH : ∀ q : Nat, q < s.heap.size → ¬ A q → U.heap[q]? = s.heap[q]?) (hAB : ∀ q, B q → A q) (h96 : ad' 96 = ad 96) (h97 : ad' 97 = ad 97) (h98 : ad' 98 = ad 98) (h : Ex A ad s) : Ex B ad' U :=
  ⟨h.1.go hW.alike hH hAB h96 h97 h98, va_AO.moved hW.alike h.2.1, by rw [h96]; exact vk_R.warm hW h.2.2.1, va_Nw.warmM hW h.2.2.2⟩
def TE (X : Cx) : Prop := match X with
  | (p, l, e, R, s, m, args, below, meth, c, Q, D, cA, ad, A) => Ex A ad s
theorem TE.ts {X : Cx} (h : TE X) : TS X := h.1
theorem TE.go {X X' : Cx} {a b : Nat} (h : TE X) (hE : XE a b X X') (hb : b ≤ 96) : TE X' := by
  obtain ⟨p, l, e, R, s, m, args, below, meth, c, Q, D, cA, ad, A⟩ := X
  obtain ⟨ad', rfl, hA⟩ := hE
  exact Ex.go (s := s) (U := s) (State.WarmedH.refl s) (fun _ _ _ => rfl) (fun _ h => h) (hA 96 (Or.inr hb)) (hA 97 (Or.inr (by omega))) (hA 98 (Or.inr (by omega))) h
def PreE (D : va_G) (cA : Nat → ClassId) (ad : Nat → Nat) (L : List DS) (M : Mem) (sz : Nat) (U : State) : Prop := PreB D cA ad L M sz U ∧ Ex (Aof cA ad M L sz) ad U
theorem pe_blind {as : List Value} {D : va_G} {cA : Nat → ClassId} {ad : Nat → Nat} {L : List DS} {M : Mem} {sz : Nat} : FrameBlind (va_Pc as (PreE D cA ad L M sz)) := fun a U g mk q => by
  obtain ⟨q0, ⟨q1, qP, qK, qD⟩, qZ⟩ := q
  exact ⟨q0, ⟨q1, qP, va_K.moved (u := U) (U := U.calling g mk a) (Vm.Alike.refl U.vm) qK, qD⟩, Ex.go (s := U) (U := U.calling g mk a) (State.WarmedH.refl U) (fun _ _ _ => rfl) (fun _ h => h) rfl rfl rfl qZ⟩
def CNE (y : MethodName) (b : ByteArray) (n lev mc ms : Nat) (L L' : List DS) (as : List AV) (M : Mem) (Qn : Mem → Prop) : Prop :=
  ∀ (l : Launch) (D : va_G) (cA : Nat → ClassId) (ad : Nat → Nat) (sz : Nat), Met l y (.code y b n none :: TB) (rmD lev mc ms) (va_Pc (as.map (toV ad)) (PreE D cA ad L M sz)) (va_Qv (fun u : Mem × (Nat → Nat) => Qn u.1 ∧ Agr L.length L'.length ad u.2) (fun u => PostB D cA u.2 (Aof cA ad M L sz) L' u.1) (Aof cA ad M L sz)) mc ms (Aof cA ad M L sz)
theorem ar_none {ad : Nat → Nat} {M : Mem} {k n : Nat} : arE ad M k 4 (List.replicate n none) = .inr (.inr (.inr (.inr (fun _ => none)))) := by
  show Sum.inr (Sum.inr (Sum.inr (Sum.inr (fun j => ((List.replicate n none).getD j none).map ad)))) = _
  congr 4
  funext j
  rw [List.getD_eq_getElem?_getD, List.getElem?_replicate]
  split <;> rfl
theorem e_aast {cA : Nat → ClassId} {ad : Nat → Nat} {M : Mem} {L L' : List DS} {k n i r : Nat} {rs : List (Option Nat)} (hk : L[k]? = some (.inr (4, n, rs))) (hi : i < rs.length) (hL : L.set k (.inr (4, n, rs.set i (some r))) = L') :
    (wsO cA ad M 0 L).set k (ad k, .inl (cA 4, n, .inr (.inr (.inr (.inr (va_up (fun j => (rs.getD j none).map ad) i (some (ad r)))))))) = wsO cA ad M 0 L' := by
  have e : va_up (fun j => (rs.getD j none).map ad) i (some (ad r)) = fun j => ((rs.set i (some r)).getD j none).map ad := by
    funext j
    unfold va_up
    by_cases hj : j = i
    · subst hj
      rw [if_pos rfl, List.getD_eq_getElem?_getD, List.getElem?_set_self hi]
      rfl
    · rw [if_neg hj]
      show (rs.getD j none).map ad = _
      rw [List.getD_eq_getElem?_getD, List.getD_eq_getElem?_getD, List.getElem?_set_ne (Ne.symm hj)]
  rw [e]
  exact wsO_set (d' := .inr (4, n, rs.set i (some r))) hk hL (fun q h => rfl) (fun q h => rfl)
section MKQ
variable {X : Cx} {cc : ByteArray} {own : String} {nL : Nat} {ret : Option FieldType} {lev c0 s0 cells slots pc : Nat} {L L' : List DS} {lv : List (Option AV)} {st : List AV} {M : Mem}
theorem s_ldcS (hX : Cok X cc RX10 nL ret lev c0 s0) (hT : TE X) (d : decode cc pc = .ok (.ldc 19, 2)) (k : Wat X cells slots L (pc + 2) lv (vr 96 :: st) M) : Wat X cells slots L pc lv st M := by
  obtain ⟨p, l, e, R, s, m, args, below, meth, c, Q, D, cA, ad, A⟩ := X
  obtain ⟨⟨hx, hb, hml, hown, hts⟩, hK, hA, hlk, hrt, hR⟩ := hX
  intro H locs ls hw hl
  exact va_ldcS hx hb hown hT.2.2.1 d (k H locs ls hw hl)
theorem s_newq (hX : Cok X cc own nL ret lev c0 s0) (hT : TE X) {n idx : Nat} {x : Int32} (hcl : Cond.classLink own idx "CuckooDebt$Deeds" ∈ TB) (hx0 : x = nI n) (hn31 : n < 2 ^ 31) (hbytes : n * 4 ≤ 536870912)
    (hL : L.all (dsk L.length) = true) (hlv : lv.all (lvk L.length (L.length + 1)) = true) (hst : st.all (avk L.length (L.length + 1)) = true) (hc : cells + 1 ≤ c0) (hs : slots + n ≤ s0) (d : decode cc pc = .ok (.anewarray idx, 3))
    (k1 : ∀ X' : Cx, XE L.length (L.length + 1) X X' → Wat X' (cells + 1) (slots + n) (L ++ [.inr (4, n, List.replicate n none)]) (pc + 3) lv (vr L.length :: st) (zM M L.length)) : Wat X cells slots L pc lv (vi x :: st) M := by
  obtain ⟨p, l, e, R, s, m, args, below, meth, c, Q, D, cA, ad, A⟩ := X
  obtain ⟨⟨hx, hb, hml, hown, hts⟩, hK, hA, hlk, hrt, hR⟩ := hX
  subst hx0
  intro H locs ls hw hl
  refine va_newq hx hb hown (hts _ hcl) hT.2.1 hK hw.1 hw.2.1 hw.2.2 hA (nI_pos hn31) (nI_clamp hn31) hbytes (by rw [hR.2.2.1]; exact hc) (by rw [hR.2.2.2]; exact hs) d (fun q cA' H1 hK1 hP1 hD1 hS1 => ?_)
  have e0 : cA' = cA 4 := by
    obtain ⟨_, _, -, -, -, h1⟩ := (hK1.2 (tys cA).length (cA', .object "CuckooDebt$Deeds") (by rw [List.getElem?_append_right (Nat.le_refl _), Nat.sub_self]; rfl)).2
    obtain ⟨_, _, -, -, -, h2⟩ := (hK.2 4 (cA 4, .object "CuckooDebt$Deeds") rfl).2
    exact Option.some.inj (h1.symm.trans h2)
  subst e0
  have e1 := ws_push (cA := cA) (ad := ad) (M := M) (d := .inr (4, n, List.replicate n none)) (q := q) hL (by
    show (List.replicate n none).all (rfk L.length) = true
    rw [List.all_eq_true]
    intro r hr
    rw [(List.mem_replicate.mp hr).2]
    rfl)
  have e3 : ceE cA ad (zM M L.length) L.length (.inr (4, n, List.replicate n none)) = .inl (cA 4, n, .inr (.inr (.inr (.inr (fun _ => none))))) := by
    show Sum.inl (cA 4, n, arE ad (zM M L.length) L.length 4 (List.replicate n none)) = _
    rw [ar_none]
  rw [e3] at e1
  rw [e1] at hP1 hD1
  have := k1 _ ⟨updA ad L.length q, rfl, updA_agr⟩ H1 locs ls ⟨hP1, hD1, hS1⟩ (lvh_agr updA_agr hlv hl)
  have e2 : (vr L.length :: st).map (toV (updA ad L.length q)) = .ref q :: st.map (toV ad) := by
    rw [List.map_cons, st_agr updA_agr hst]
    show Value.ref (updA ad L.length q L.length) :: _ = _
    rw [updA_k]
  rw [e2] at this
  exact this
theorem s_aast (hX : Cok X cc own nL ret lev c0 s0) {k n i r : Nat} {rs : List (Option Nat)} {fs : List FD} {x : Int32} (hk : L[k]? = some (.inr (4, n, rs))) (hr : L[r]? = some (.inl (1, fs))) (hx0 : x = nI i) (hin : i < n) (hn31 : n < 2 ^ 31) (hrs : i < rs.length) (hL : L.set k (.inr (4, n, rs.set i (some r))) = L') (d : decode cc pc = .ok (.aastore, 1)) (k1 : Wat X cells slots L' (pc + 1) lv st M) : Wat X cells slots L pc lv (vr r :: vi x :: vr k :: st) M := by
  obtain ⟨p, l, e, R, s, m, args, below, meth, c, Q, D, cA, ad, A⟩ := X
  obtain ⟨⟨hx, hb, hml, hown, hts⟩, hK, hA, hlk, hrt, hR⟩ := hX
  subst hx0
  intro H locs ls hw hl
  obtain ⟨hP, hD, hS⟩ := hw
  refine va_astq (D := D) (r := (RX1, TX1, 3)) hx hb hK hP hD hS k 4 r 1 (wsO_at hk) rfl (wsO_at hr) rfl (i := nI i) (vp_in_nI hin hn31) d (fun H1 locs1 h1 h2 h3 => ?_)
  rw [nI_clamp (by omega), e_aast hk hrs hL] at h1 h2
  exact k1 H1 locs1 ls ⟨h1, h2, h3⟩ hl
theorem s_cne (hX : Cok X cc own nL ret lev c0 s0) (hT : TE X) {y : MethodName} {b : ByteArray} {n lev' mc ms k idx : Nat} {as rest : List AV} {Qn : Mem → Prop} (hc : CNE y b n lev' mc ms L L' (vr k :: as) M Qn) (hm : MI y b n as.length) (hl0 : Cond.methodLink own idx y ∈ TB) (d : decode cc pc = .ok (.invokespecial idx, 3)) (hst : st = as.reverse ++ vr k :: rest) (hw8 : (rest.map avc).sum ≤ 8) (hlv : lv.length = nL) (hlev : lev' < lev) (hcs : cells + mc ≤ c0 ∧ slots + ms ≤ s0)
    (hlk2 : lv.all (lvk L.length L'.length) = true) (hrk : rest.all (avk L.length L'.length) = true)
    (k1 : ∀ (X' : Cx) (M1 : Mem), XE L.length L'.length X X' → Qn M1 → Wat X' (cells + mc) (slots + ms) L' (pc + 3) lv rest M1) : Wat X cells slots L pc lv st M := by
  obtain ⟨p, l, e, R, s, m, args, below, meth, c, Q, D, cA, ad, A⟩ := X
  obtain ⟨⟨hx, hb, hml, hown, hts⟩, hK, hA, hlk, hrt, hR⟩ := hX
  subst hst
  intro H locs ls hw hl
  have hFc := free_all hw hA
  have h41 := hm.2.2.2.2.2
  refine va_callv (va_runI (As := as.map (toV ad)) (rest := rest.map (toV ad)) (b := ad k) ⟨hx, hb, hml, hown, hts⟩ (hc l D cA ad H.size) (cwI as.length hts (gd_of (fun w hw => ?_)) rfl rfl rfl (hts _ hm.2.2.1) (hts _ hl0) (hts _ hm.2.1) hm.2.2.2.1 hm.2.2.2.2.1 ⟨by show lev' + 1 ≤ R.frames; omega, by show 8 + (n + 11) + 60 * lev' ≤ R.locals; omega⟩) ⟨pe_blind, fun U hU hW => ⟨rfl, ⟨by rw [hU], by rw [hU]; exact hw.1, va_K.moved hW.alike hK, hw.2.1.weaken (fun _ _ _ _ => trivial)⟩, Ex.go hW (by rw [hU]; exact hw.2.2.2.1) hFc rfl rfl rfl hT⟩⟩ rfl (by rw [List.length_map]) (by rw [← hlv]; exact hl.1) (by show List.map (toV ad) (as.reverse ++ vr k :: rest) = _; rw [List.map_append, List.map_reverse]; rfl) (lv_room (map_cat8 hw8)) d (by rw [hR.2.2.1, hR.2.2.2]; exact hcs)) hw.2.2 (fun q _ h => hFc q h) hFc (fun u t H1 locs1 ht hvm hq hB hz hk1 hS => ?_)
  · have hw : w ∈ Cond.code y b n none :: TB := hw
    rcases List.mem_cons.mp hw with rfl | h
    · exact hm.1
    · exact h
  · have := k1 _ u.1 ⟨u.2, rfl, hq.2⟩ hq.1 H1 locs1 ls ⟨by rw [← ht]; exact hB.1, hB.2.2.weaken (fun q _ _ h => hFc _ h), hS⟩ (lvh_agr hq.2 hlk2 hl)
    rw [st_agr hq.2 hrk] at this
    exact this
theorem s_cnn (hX : Cok X cc RX11 nL ret lev c0 s0) (hT : TE X) {b : ByteArray} {n lev' mc ms k : Nat} {as rest : List AV} {Qn : Mem → Prop} (hc : CNE yX3_init b n lev' mc ms L L' (vr k :: as) M Qn) (hm : MI yX3_init b n as.length) (d : decode cc pc = .ok (.invokespecial 48, 3)) (hst : st = as.reverse ++ vr k :: rest) (hw8 : (rest.map avc).sum ≤ 8) (hlv : lv.length = nL) (hlev : lev' < lev) (hcs : cells + mc ≤ c0 ∧ slots + ms ≤ s0)
    (hlk2 : lv.all (lvk L.length L'.length) = true) (hrk : rest.all (avk L.length L'.length) = true)
    (k1 : ∀ (X' : Cx) (M1 : Mem), XE L.length L'.length X X' → Qn M1 → Wat X' (cells + mc) (slots + ms) L' (pc + 3) lv rest M1) : Wat X cells slots L pc lv st M := by
  obtain ⟨p, l, e, R, s, m, args, below, meth, c, Q, D, cA, ad, A⟩ := X
  obtain ⟨⟨hx, hb, hml, hown, hts⟩, hK, hA, hlk, hrt, hR⟩ := hX
  subst hst
  intro H locs ls hw hl
  have hFc := free_all hw hA
  have h41 := hm.2.2.2.2.2
  refine va_callv (va_runIN (host := RX11) (As := as.map (toV ad)) (rest := rest.map (toV ad)) (b := ad k) ⟨hx, hb, hml, hown, hts⟩ (hc l D cA ad H.size) ⟨va_cnB as.length hts (gd_of (fun w hw => ?_)) rfl rfl rfl hT.2.2.2 (hts _ hm.2.2.1) hm.2.2.2.2.1 ⟨by show lev' + 1 ≤ R.frames; omega, by show 8 + (n + 11) + 60 * lev' ≤ R.locals; omega⟩, hm.2.2.2.1, hts _ hm.2.1⟩ ⟨pe_blind, fun U hU hW => ⟨rfl, ⟨by rw [hU], by rw [hU]; exact hw.1, va_K.moved hW.alike hK, hw.2.1.weaken (fun _ _ _ _ => trivial)⟩, Ex.go hW (by rw [hU]; exact hw.2.2.2.1) hFc rfl rfl rfl hT⟩⟩ rfl (by rw [List.length_map]) (by rw [← hlv]; exact hl.1) (by show List.map (toV ad) (as.reverse ++ vr k :: rest) = _; rw [List.map_append, List.map_reverse]; rfl) (lv_room (map_cat8 hw8)) d (by rw [hR.2.2.1, hR.2.2.2]; exact hcs)) hw.2.2 (fun q _ h => hFc q h) hFc (fun u t H1 locs1 ht hvm hq hB hz hk1 hS => ?_)
  · have hw : w ∈ Cond.code yX3_init b n none :: TB := hw
    rcases List.mem_cons.mp hw with rfl | h
    · exact hm.1
    · exact h
  · have := k1 _ u.1 ⟨u.2, rfl, hq.2⟩ hq.1 H1 locs1 ls ⟨by rw [← ht]; exact hB.1, hB.2.2.weaken (fun q _ _ h => hFc _ h), hS⟩ (lvh_agr hq.2 hlk2 hl)
    rw [st_agr hq.2 hrk] at this
    exact this
end MKQ
theorem mk_ne {y : MethodName} {b : ByteArray} {n lev mc ms : Nat} {L L' : List DS} {as : List AV} {M : Mem} {Qn : Mem → Prop} {lv0 : List (Option AV)} (hp : plainName y.cls = true) (hy : y.name = "<init>") (hlv : lve as n = lv0) (hlen : lv0.length = n) (hsl : (lg_sl (as.map (toV (fun _ => 0)))).length ≤ n)
    (h : ∀ (X : Cx) (ad0 : Nat → Nat), Cok X b y.cls n none lev mc ms → TE X → RN X ad0 mc ms L.length L' Qn → Wat X 0 0 L 0 lv0 [] M) : CNE y b n lev mc ms L L' as M Qn := by
  intro l D cA ad sz
  refine Met.ofW (cc := b) (maxL := n) (ret := none) hp rfl ?_
  intro p e s m args below meth c s1 B hml hv
  obtain ⟨rfl, ⟨hsz, hP, hK, hD0⟩, hZ⟩ := hv
  subst hsz
  have hts := atoms_spec (ws := .code y b n none :: TB) B.pre
  have hown : s.vm.findClass y.cls = some m.cls := findClass_of_methodNamed B.named
  have hni : meth.name = "<init>" := (name_of_methodNamed B.named B.method).1.trans hy
  have hw := h (p, l, e, rmD lev mc ms, s, m, (as.map (toV ad)).toArray, below, meth, c, _, D, cA, ad, Aof cA ad M L s.heap.size) ad ⟨⟨B.exec, B.bytes, hml, hown, fun w hw => hts w (List.mem_cons_of_mem _ hw)⟩, hK, fun q h => Or.inr h, B.notSynchronized, B.returns, Nat.le_refl _, Nat.le_refl _, rfl, rfl⟩ hZ ⟨rfl, Agr.rf, hni⟩
  have hsl2 : (lg_sl (as.map (toV ad))).length ≤ n := by
    have e : ∀ as : List AV, (lg_sl (as.map (toV ad))).length = (lg_sl (as.map (toV (fun _ => 0)))).length := by
      intro as
      induction as with
      | nil => rfl
      | cons a t ih =>
        have ih' : ((t.map (toV ad)).flatMap fun v => if v.category = 2 then [Slot.val v, .second] else [.val v]).length = ((t.map (toV (fun _ => 0))).flatMap fun v => if v.category = 2 then [Slot.val v, .second] else [.val v]).length := ih
        simp only [lg_sl, List.map_cons, List.flatMap_cons, List.length_append, toV_cat]
        rw [ih']
        split <;> rfl
    rw [e]; exact hsl
  have hle := lv_entry (as.map (toV ad)) (n := n) hsl2
  rw [lg_entry_eq]
  refine hw s.heap [] _ ⟨hP, hD0.self, va_S.rf⟩ ⟨by rw [hlen]; exact hle.1, hle.2.1, fun q hq => hle.2.2 q ?_⟩
  obtain ⟨i, v, h1, rfl⟩ := (lvl_mem ad lv0 0 q).mp hq
  rw [← hlv] at h1
  exact lve_has ad as n 0 i v h1
