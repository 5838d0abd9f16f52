/-! the law's four helpers: they call a method that can throw, and catch it -/
theorem Zx.go {A B : Nat → Prop} {s U : State} (hW : s.WarmedH U.vm) (hH : ∀ q : Nat, q < s.heap.size → ¬ A q → U.heap[q]? = s.heap[q]?) (hAB : ∀ q, B q → A q) (h : Zx A s) : Zx B U :=
  ⟨⟨(vx_Zq.moved hW.alike (h.1.1.kept hH)).narrow hAB, (vx_Zq.moved hW.alike (h.1.2.kept hH)).narrow hAB⟩, h.2.1.moved hW.alike, h.2.2.warm hW⟩
theorem px_blind {as : List Value} {D : va_G} {cA : Nat → ClassId} {ad : Nat → Nat} {L : List DS} {M : Mem} {sz : Nat} : FrameBlind (va_Pc as (PreX D cA ad L M sz)) := fun a U g mk q => by
  obtain ⟨q0, ⟨q1, qP, qK, qD⟩, qZ⟩ := q
  exact ⟨q0, ⟨q1, qP, va_K.moved (u := U) (U := U.calling g mk a) (Vm.Alike.refl U.vm) qK, qD⟩, Zx.go (s := U) (U := U.calling g mk a) (State.WarmedH.refl U) (fun _ _ _ => rfl) (fun _ h => h) qZ⟩
def CXH (y : MethodName) (b : ByteArray) (n : Nat) (hh : List (Nat × Nat × Nat × Nat)) (lev : Nat) (L : List DS) (as : List AV) (M : Mem) (Qn : Int32 → Mem → Prop) : Prop :=
  ∀ (l : Launch), l.stackTraces = false → ∀ (D : va_G) (cA : Nat → ClassId) (ad : Nat → Nat) (sz : Nat), vx_Met l y (.codeWith y b n (some .int) hh :: TB) (rmD lev 1 6) (va_Pc (as.map (toV ad)) (PreX D cA ad L M sz)) (va_Qi Qn (PostB D cA ad (Aof cA ad M L sz) L) (Aof cA ad M L sz)) (vx_X (fun _ : Mem => False) (BXx D cA ad (Aof cA ad M L sz) L) (Aof cA ad M L sz)) 1 6 (Aof cA ad M L sz)
def TXH (X : Cx) (x : ExceptionTableEntry) : Prop := match X with
  | (p, l, e, R, s, m, args, below, meth, c, Q, D, cA, ad, A) => l.stackTraces = false ∧ c.exceptionTable.toList = [x] ∧ Zx A s
def TXl (X : Cx) : Prop := match X with
  | (p, l, e, R, s, m, args, below, meth, c, Q, D, cA, ad, A) => l.stackTraces = false ∧ Zx A s
def WatQ (X : Cx) (cells slots : Nat) (L : List DS) (pc nL : Nat) (M : Mem) : Prop := match X with
  | (p, l, e, R, s, m, args, below, meth, c, Q, D, cA, ad, A) => ∀ (H : Heap) (locs : List Loc) (ls : Array Slot) (q : Addr), Wd D cA ad A s.heap H locs L M → lv_has ls nL [] → W p l e R s m args below meth c H locs cells slots Q (F0 m pc ls [.ref q])
theorem lvh_none {ad : Nat → Nat} {ls : Array Slot} {nL : Nat} {l : List (Nat × Value)} (h : lv_has ls nL l) : lvh ad ls (List.replicate nL none) := by
  refine ⟨by rw [List.length_replicate]; exact h.1, h.2.1, fun q hq => ?_⟩
  obtain ⟨j, w, h1, rfl⟩ := (lvl_mem ad _ 0 _).mp hq
  rw [List.getElem?_replicate] at h1
  split at h1
  · cases h1
  · cases h1
section NXH
variable {X : Cx} {cc : ByteArray} {own : String} {nL : Nat} {ret : Option FieldType} {lev c0 s0 cells slots pc : Nat} {L L' : List DS} {lv : List (Option AV)} {st : List AV} {M : Mem}
variable {y : MethodName} {b : ByteArray} {n : Nat} {rt : Option FieldType} {lev' mc ms k ci idx N : Nat} {as rest : List AV} {C : String} {T : u_T} {fs : List FD} {x : ExceptionTableEntry}
theorem s_cvx (hX : Cok X cc RL nL ret lev 1 6) (hT : TXH X x) {Qn : Int32 → Mem → Prop} {Px : Mem → Prop} (hc : CX y b n rt lev' L (vr k :: as) M Qn Px) (hm : MV y b n rt C as.length) (hl0 : Cond.methodLink RL idx y ∈ TB) (d : decode cc pc = .ok (.invokevirtual idx, 3)) (hk : L[k]? = some (.inl (ci, fs))) (hcl : cls[ci]? = some (C, T, N)) (hst : st = as.reverse ++ vr k :: rest) (hw8 : (rest.map avc).sum ≤ 8) (hlv : lv.length = nL) (hlev : lev' < lev)
    (hcov : covers x pc = true) (hct : x.catchType = 13) (k2 : ∀ M1 : Mem, Px M1 → WatQ X 1 6 L x.handlerPc nL M1)
    (k1 : ∀ (r : Int32) (M1 : Mem), Qn r M1 → Wat X 1 6 L (pc + 3) lv (vi r :: rest) M1) : Wat X 0 0 L pc lv st M := by
  obtain ⟨p, l, e, R, s, m, args, below, meth, c, Q, D, cA, ad, A⟩ := X
  obtain ⟨⟨hx, hb, hml, hown, hts⟩, hK, hA, hlk, hrt, hR⟩ := hX
  obtain ⟨htr, htab, hZ⟩ := hT
  subst hst
  intro H locs ls hw hl
  have hFc := free_all hw hA
  have h41 := hm.2.2.2.2.2
  have hcast : (Cond.castable nse nse).before args s = true := vx_ot_at (State.WarmedH.refl s) rfl (by decide +kernel) (hZ.2.1 _ (by simp [dwL]))
  refine vx_calli (vx_runV (As := as.map (toV ad)) (rest := rest.map (toV ad)) (C := C) (b := ad k) ⟨hx, hb, hml, hown, hts⟩ (hc l htr D cA ad H.size) (cwV as.length hts (gd_of (fun w hw => ?_)) rfl rfl rfl hm.2.2.2.2.1 ⟨by show lev' + 1 ≤ R.frames; omega, by show 8 + (n + 11) + 60 * lev' ≤ R.locals; omega⟩) ⟨px_blind, va_recv hK hw.1 hcl (wsO_at hk), fun U hU hW => ⟨rfl, ⟨by rw [hU], by rw [hU]; exact hw.1, va_K.moved hW.alike hK, hw.2.1.weaken (fun _ _ _ _ => trivial)⟩, Zx.go hW (by rw [hU]; exact hw.2.2.2.1) hFc hZ⟩⟩ rfl (by rw [List.length_map]) (by rw [← hlv]; exact hl.1) (by show List.map (toV ad) (as.reverse ++ vr k :: rest) = _; rw [List.map_append, List.map_reverse]; rfl) (lv_room (map_cat8 hw8)) d (by rw [hR.2.2.1, hR.2.2.2]; exact ⟨Nat.le_refl _, Nat.le_refl _⟩)) hw.2.2 (fun q _ h => hFc q h) hFc (fun q _ h => hFc q h)
    (fun E ce q9 u t H1 locs1 ht hvm hp hB hz hk1 hS hce hcv hcl => ?_) (fun r u t H1 locs1 ht hvm hq hB hz hk1 hS => ?_)
  · have hw : w ∈ [Cond.methodLink RL idx y, .instanceMethod y, .selects C y y, .initialized C] ++ (Cond.code y b n rt :: TB) := hw
    simp only [List.cons_append, List.nil_append, List.mem_cons] at hw
    rcases hw with rfl | rfl | rfl | rfl | rfl | h
    · exact hl0
    · exact hm.2.1
    · exact hm.2.2.1
    · exact hm.2.2.2.1
    · exact hm.1
    · exact h
  · obtain ⟨rfl, hB⟩ := hB
    exact vx_catch hown [] x [] htab (fun z hz => nomatch hz) hcov (by rw [hct]; decide) (by rw [hct]; exact hts _ wd_cl_L_13) hcast hce hcv hcl (k2 u hp H1 locs1 ls q9 ⟨by rw [← ht]; exact hB.1, hB.2.2.weaken (fun q _ _ h => hFc _ h), hS⟩ ⟨by rw [← hlv]; exact hl.1, hl.2.1, fun q hq => nomatch hq⟩)
  · exact k1 r u hq H1 locs1 ls ⟨by rw [← ht]; exact hB.1, hB.2.2.weaken (fun q _ _ h => hFc _ h), hS⟩ hl
theorem s_hst (hX : Cok X cc own nL ret lev c0 s0) {i : Nat} (d : decode cc pc = .ok (.astore i, 2)) (hi : i < nL) (k : Wat X cells slots L (pc + 2) (List.replicate nL none) [] M) : WatQ X cells slots L pc nL M := by
  obtain ⟨p, l, e, R, s, m, args, below, meth, c, Q, D, cA, ad, A⟩ := X
  obtain ⟨⟨hx, hb, hml, hown, hts⟩, hK, hA, hlk, hrt, hR⟩ := hX
  intro H locs ls q hw hl
  exact lv_astore hx hb d hl hi rfl (fun ls1 hl1 => k H locs ls1 hw (lvh_none hl1))
theorem s_hstn (hX : Cok X cc own nL ret lev c0 s0) {i : Fin 4} (d : decode cc pc = .ok (.astore_n i, 1)) (hi : (i : Nat) < nL) (k : Wat X cells slots L (pc + 1) (List.replicate nL none) [] M) : WatQ X cells slots L pc nL M := by
  obtain ⟨p, l, e, R, s, m, args, below, meth, c, Q, D, cA, ad, A⟩ := X
  obtain ⟨⟨hx, hb, hml, hown, hts⟩, hK, hA, hlk, hrt, hR⟩ := hX
  intro H locs ls q hw hl
  exact lv_astore_n hx hb d rfl hl hi rfl (fun ls1 hl1 => k H locs ls1 hw (lvh_none hl1))
theorem s_ireth (hX : Cok X cc own nL ret lev 1 6) {Qn : Int32 → Mem → Prop} {Px : Mem → Prop} (hq : RIX X L Qn Px) {v : Int32} (hrr : ret = some .int) (d : decode cc pc = .ok (.ireturn, 1)) (h : Qn v M) : Wat X 1 6 L pc lv ([vi v]) M := by
  obtain ⟨p, l, e, R, s, m, args, below, meth, c, Q, D, cA, ad, A⟩ := X
  obtain ⟨⟨hx, hb, hml, hown, hts⟩, hK, hA, hlk, hrt, hR⟩ := hX
  intro H locs ls hw hl
  subst hrr
  have hq : Q = _ := hq
  subst hq
  refine vx_ret ?_
  exact W.iret (v := v) hx hb hrt (fun t ht hW => ⟨⟨v, M, rfl, h, by rw [ht]; exact hw.1, va_K.moved hW.alike hK, hw.2.1⟩, hw.2.2.F ht⟩) hw.2.2.2.2 d hlk
def MSW (y : MethodName) (b : ByteArray) (n : Nat) (hh : List (Nat × Nat × Nat × Nat)) (a : Nat) : Prop := Cond.codeWith y b n (some .int) hh ∈ TB ∧ Cond.static y ∈ TB ∧ Cond.initialized y.cls ∈ TB ∧ (y.cls ≠ "java/lang/invoke/MethodHandle" ∧ y.cls ≠ "java/lang/invoke/VarHandle" ∧ (parseMethodDescriptor y.desc).map (fun d => d.parameters.length) = some a) ∧ n ≤ 41
theorem s_csx (hX : Cok X cc own nL ret lev c0 s0) (hT : TXl X) {Qn : Int32 → Mem → Prop} {hh : List (Nat × Nat × Nat × Nat)} (hc : CXH y b n hh lev' L as M Qn) (hm : MSW y b n hh as.length) (hl0 : Cond.methodLink own idx y ∈ TB) (d : decode cc pc = .ok (.invokestatic idx, 3)) (hst : st = as.reverse ++ rest) (hw8 : (rest.map avc).sum ≤ 8) (hlv : lv.length = nL) (hlev : lev' < lev) (hcs : cells + 1 ≤ c0 ∧ slots + 6 ≤ s0) (k1 : ∀ (r : Int32) (M1 : Mem), Qn r M1 → Wat X (cells + 1) (slots + 6) L (pc + 3) lv (vi r :: rest) M1) : Wat X cells slots L pc lv st M := by
  obtain ⟨p, l, e, R, s, m, args, below, meth, c, Q, D, cA, ad, A⟩ := X
  obtain ⟨⟨hx, hb, hml, hown, hts⟩, hK, hA, hlk, hrt, hR⟩ := hX
  obtain ⟨htr, hZ⟩ := hT
  subst hst
  intro H locs ls hw hl
  have hFc := free_all hw hA
  have h41 := hm.2.2.2.2
  refine vx_calli (vx_runSX (As := as.map (toV ad)) (rest := rest.map (toV ad)) (hh := hh) ⟨hx, hb, hml, hown, hts⟩ (hc l htr D cA ad H.size) (vx_cwSW as.length hts (gd_of (fun w hw => ?_)) rfl rfl rfl hm.2.2.2.1 ⟨by show lev' + 1 ≤ R.frames; omega, by show 8 + (n + 11) + 60 * lev' ≤ R.locals; omega⟩) ⟨px_blind, fun U hU hW => ⟨rfl, ⟨by rw [hU], by rw [hU]; exact hw.1, va_K.moved hW.alike hK, hw.2.1.weaken (fun _ _ _ _ => trivial)⟩, Zx.go hW (by rw [hU]; exact hw.2.2.2.1) hFc hZ⟩⟩ rfl (by rw [List.length_map]) (by rw [← hlv]; exact hl.1) (by show List.map (toV ad) (as.reverse ++ rest) = _; rw [List.map_append, List.map_reverse]) (lv_room (map_cat8 hw8)) d (by rw [hR.2.2.1, hR.2.2.2]; exact hcs)) hw.2.2 (fun q _ h => hFc q h) hFc (fun q _ h => hFc q h)
    (fun E ce q9 u t H1 locs1 ht hvm hp hB hz hk1 hS hce hcv hcl => hp.elim) (fun r u t H1 locs1 ht hvm hq hB hz hk1 hS => ?_)
  · have hw : w ∈ [Cond.methodLink own idx y, .static y, .initialized y.cls] ++ (Cond.codeWith y b n (some .int) hh :: TB) := hw
    simp only [List.cons_append, List.nil_append, List.mem_cons] at hw
    rcases hw with rfl | rfl | rfl | rfl | h
    · exact hl0
    · exact hm.2.1
    · exact hm.2.2.1
    · exact hm.1
    · exact h
  · exact k1 r u hq H1 locs1 ls ⟨by rw [← ht]; exact hB.1, hB.2.2.weaken (fun q _ _ h => hFc _ h), hS⟩ hl
end NXH
theorem mk_xh {y : MethodName} {b : ByteArray} {n : Nat} {hh : List (Nat × Nat × Nat × Nat)} {lev : Nat} {L : List DS} {as : List AV} {M : Mem} {Qn : Int32 → Mem → Prop} {lv0 : List (Option AV)} {x : ExceptionTableEntry} (hp : plainName y.cls = true) (hx : tableOf hh = [x]) (hlv : lve as n = lv0) (hlen : lv0.length = n) (hsl : (lg_sl (as.map (toV (fun _ => 0)))).length ≤ n)
    (h : ∀ X : Cx, Cok X b y.cls n (some .int) lev 1 6 → TXH X x → RIX X L Qn (fun _ => False) → Wat X 0 0 L 0 lv0 [] M) : CXH y b n hh lev L as M Qn := by
  intro l hl D cA ad sz
  refine vx_ofWH (cc := b) (maxL := n) (ret := some .int) (hh := hh) hp rfl ?_
  intro p e s m args below meth c s1 B hml hv
  obtain ⟨rfl, ⟨hsz, hP, hK, hD0⟩, hZ⟩ := hv
  subst hsz
  have hts := atoms_spec (ws := .codeWith y b n (some .int) hh :: TB) B.pre
  have hown : s.vm.findClass y.cls = some m.cls := findClass_of_methodNamed B.named
  have htab : c.exceptionTable.toList = [x] := (vx_table (x := y) B (hts _ List.mem_cons_self)).trans hx
  have hw := h (p, l, e, rmD lev 1 6, s, m, (as.map (toV ad)).toArray, below, meth, c, _, D, cA, ad, Aof cA ad M L s.heap.size) ⟨⟨B.exec, B.bytes, hml, hown, fun w hw => hts w (List.mem_cons_of_mem _ hw)⟩, hK, fun q h => Or.inr h, B.notSynchronized, B.returns, Nat.le_refl _, Nat.le_refl _, rfl, rfl⟩ ⟨hl, htab, hZ⟩ rfl
  have hsl2 : (lg_sl (as.map (toV ad))).length ≤ n := by
    have e : ∀ as : List AV, (lg_sl (as.map (toV ad))).length = (lg_sl (as.map (toV (fun _ => 0)))).length := by
      intro as
      induction as with
      | nil => rfl
      | cons a t ih =>
        have ih' : ((t.map (toV ad)).flatMap fun v => if v.category = 2 then [Slot.val v, .second] else [.val v]).length = ((t.map (toV (fun _ => 0))).flatMap fun v => if v.category = 2 then [Slot.val v, .second] else [.val v]).length := ih
        simp only [lg_sl, List.map_cons, List.flatMap_cons, List.length_append, toV_cat]
        rw [ih']
        split <;> rfl
    rw [e]; exact hsl
  have hle := lv_entry (as.map (toV ad)) (n := n) hsl2
  rw [lg_entry_eq]
  refine hw s.heap [] _ ⟨hP, hD0.self, va_S.rf⟩ ⟨by rw [hlen]; exact hle.1, hle.2.1, fun q hq => hle.2.2 q ?_⟩
  obtain ⟨i, v, h1, rfl⟩ := (lvl_mem ad lv0 0 q).mp hq
  rw [← hlv] at h1
  exact lve_has ad as n 0 i v h1
theorem mv_Top_balance : MV yX11_balance cX11_balance 2 (some .int) RX11 1 := ⟨wd_co_X11_balance, wd_im_X11_balance, wd_se_X11_balance, wd_in_X11, by decide +kernel, by decide⟩
theorem mv_Top_stand : MV yX11_stand cX11_stand 5 (some .int) RX11 4 := ⟨wd_co_X11_stand, wd_im_X11_stand, wd_se_X11_stand, wd_in_X11, by decide +kernel, by decide⟩
theorem mv_Top_picnic : MV yX11_picnic cX11_picnic 5 (some .int) RX11 4 := ⟨wd_co_X11_picnic, wd_im_X11_picnic, wd_se_X11_picnic, wd_in_X11, by decide +kernel, by decide⟩
theorem mv_Top_without : MV yX11_without cX11_without 3 (some .int) RX11 2 := ⟨wd_co_X11_without, wd_im_X11_without, wd_se_X11_without, wd_in_X11, by decide +kernel, by decide⟩
theorem msw_L_balance : MSW yL_balance cL_balance 4 [(0, 9, 12, 13)] 3 := ⟨tb_m5 35 rfl rfl, wd_sm_L_balance, wd_in_L, by decide +kernel, by decide⟩
theorem msw_L_stand : MSW yL_stand cL_stand 7 [(0, 14, 17, 13)] 6 := ⟨tb_m5 108 rfl rfl, wd_sm_L_stand, wd_in_L, by decide +kernel, by decide⟩
theorem msw_L_picnic : MSW yL_picnic cL_picnic 7 [(0, 14, 17, 13)] 6 := ⟨tb_m5 124 rfl rfl, wd_sm_L_picnic, wd_in_L, by decide +kernel, by decide⟩
theorem msw_L_without : MSW yL_without cL_without 5 [(0, 10, 13, 13)] 4 := ⟨tb_m5 137 rfl rfl, wd_sm_L_without, wd_in_L, by decide +kernel, by decide⟩
def outQ (Q : Int32 → Mem → Prop) : Int32 → Mem → Prop := fun r M1 => Q 0 (sl M1 c_outc 0 r.toInt64)
theorem t_L_balance {X : Cx} {x : ExceptionTableEntry} (hx : x = ⟨0, 9, 12, 13⟩) (hX : Cok X cL_balance RL 4 (some .int) 8 1 6) (hT : TXH X x) {Q : Int32 → Mem → Prop} (hq : RIX X LY Q (fun _ => False)) {M : Mem} {a0 : Int32} (h : w_Top_balance a0 M (outQ Q) (Q 1)) : Wat X 0 0 LY 0 [some (vr c_xx), some (vi a0), some (vr c_outc), none] [] M := by
  subst hx
  refine s_aload_n hX dL_balance_0 rfl ?_
  refine s_iconst (v := 0) hX dL_balance_1 rfl ?_
  refine s_aload_n hX dL_balance_2 rfl ?_
  refine s_iload_n hX dL_balance_3 rfl ?_
  refine s_cvx (as := [vi a0]) (rest := [vi 0, vr c_outc]) hX hT (c_Top_balance h) mv_Top_balance wd_ml_L_7 dL_balance_4 ly_c_xx rfl rfl (Nat.le_of_ble_eq_true rfl) rfl (by decide) (by decide) rfl (fun M1 h => ?_) (fun r M1 h => ?_)
  · refine s_hstn hX dL_balance_12 (by decide) ?_
    refine s_iconst (v := 1) hX dL_balance_13 rfl ?_
    exact s_ireth hX hq rfl dL_balance_14 h
  · refine s_i2l hX dL_balance_7 ?_
    refine s_last hX ly_c_outc (vp_in_nI (n := 0) (N := 1) (by decide) (by decide)) dL_balance_8 ?_
    refine s_goto (tgt := 15) hX dL_balance_9 (by decide) ?_
    refine s_iconst (v := 0) hX dL_balance_15 rfl ?_
    exact s_ireth hX hq rfl dL_balance_16 h
theorem c_L_balance {a0 : Int32} {M : Mem} {Q : Int32 → Mem → Prop} (h : w_Top_balance a0 M (outQ Q) (Q 1)) : CXH yL_balance cL_balance 4 [(0, 9, 12, 13)] 8 LY [vr c_xx, vi a0, vr c_outc] M Q := mk_xh (x := ⟨0, 9, 12, 13⟩) rfl rfl rfl rfl (Nat.le_of_ble_eq_true rfl) (fun X hX hT hq => t_L_balance rfl hX hT hq h)
theorem t_L_stand {X : Cx} {x : ExceptionTableEntry} (hx : x = ⟨0, 14, 17, 13⟩) (hX : Cok X cL_stand RL 7 (some .int) 8 1 6) (hT : TXH X x) {Q : Int32 → Mem → Prop} (hq : RIX X LY Q (fun _ => False)) {M : Mem} {a0 a1 a2 a3 : Int32} (h : w_Top_stand a0 a1 a2 a3 M (outQ Q) (Q 1)) : Wat X 0 0 LY 0 [some (vr c_xx), some (vi a0), some (vi a1), some (vi a2), some (vi a3), some (vr c_outc), none] [] M := by
  subst hx
  refine s_aload hX dL_stand_0 rfl ?_
  refine s_iconst (v := 0) hX dL_stand_2 rfl ?_
  refine s_aload_n hX dL_stand_3 rfl ?_
  refine s_iload_n hX dL_stand_4 rfl ?_
  refine s_iload_n hX dL_stand_5 rfl ?_
  refine s_iload_n hX dL_stand_6 rfl ?_
  refine s_iload hX dL_stand_7 rfl ?_
  refine s_cvx (as := [vi a0, vi a1, vi a2, vi a3]) (rest := [vi 0, vr c_outc]) hX hT (c_Top_stand h) mv_Top_stand wd_ml_L_15 dL_stand_9 ly_c_xx rfl rfl (Nat.le_of_ble_eq_true rfl) rfl (by decide) (by decide) rfl (fun M1 h => ?_) (fun r M1 h => ?_)
  · refine s_hst hX dL_stand_17 (by decide) ?_
    refine s_iconst (v := 1) hX dL_stand_19 rfl ?_
    exact s_ireth hX hq rfl dL_stand_20 h
  · refine s_i2l hX dL_stand_12 ?_
    refine s_last hX ly_c_outc (vp_in_nI (n := 0) (N := 1) (by decide) (by decide)) dL_stand_13 ?_
    refine s_goto (tgt := 21) hX dL_stand_14 (by decide) ?_
    refine s_iconst (v := 0) hX dL_stand_21 rfl ?_
    exact s_ireth hX hq rfl dL_stand_22 h
theorem c_L_stand {a0 a1 a2 a3 : Int32} {M : Mem} {Q : Int32 → Mem → Prop} (h : w_Top_stand a0 a1 a2 a3 M (outQ Q) (Q 1)) : CXH yL_stand cL_stand 7 [(0, 14, 17, 13)] 8 LY [vr c_xx, vi a0, vi a1, vi a2, vi a3, vr c_outc] M Q := mk_xh (x := ⟨0, 14, 17, 13⟩) rfl rfl rfl rfl (Nat.le_of_ble_eq_true rfl) (fun X hX hT hq => t_L_stand rfl hX hT hq h)
theorem t_L_picnic {X : Cx} {x : ExceptionTableEntry} (hx : x = ⟨0, 14, 17, 13⟩) (hX : Cok X cL_picnic RL 7 (some .int) 8 1 6) (hT : TXH X x) {Q : Int32 → Mem → Prop} (hq : RIX X LY Q (fun _ => False)) {M : Mem} {a0 a1 a2 a3 : Int32} (h : w_Top_picnic a0 a1 a2 a3 M (outQ Q) (Q 1)) : Wat X 0 0 LY 0 [some (vr c_xx), some (vi a0), some (vi a1), some (vi a2), some (vi a3), some (vr c_outc), none] [] M := by
  subst hx
  refine s_aload hX dL_picnic_0 rfl ?_
  refine s_iconst (v := 0) hX dL_picnic_2 rfl ?_
  refine s_aload_n hX dL_picnic_3 rfl ?_
  refine s_iload_n hX dL_picnic_4 rfl ?_
  refine s_iload_n hX dL_picnic_5 rfl ?_
  refine s_iload_n hX dL_picnic_6 rfl ?_
  refine s_iload hX dL_picnic_7 rfl ?_
  refine s_cvx (as := [vi a0, vi a1, vi a2, vi a3]) (rest := [vi 0, vr c_outc]) hX hT (c_Top_picnic h) mv_Top_picnic wd_ml_L_19 dL_picnic_9 ly_c_xx rfl rfl (Nat.le_of_ble_eq_true rfl) rfl (by decide) (by decide) rfl (fun M1 h => ?_) (fun r M1 h => ?_)
  · refine s_hst hX dL_picnic_17 (by decide) ?_
    refine s_iconst (v := 1) hX dL_picnic_19 rfl ?_
    exact s_ireth hX hq rfl dL_picnic_20 h
  · refine s_i2l hX dL_picnic_12 ?_
    refine s_last hX ly_c_outc (vp_in_nI (n := 0) (N := 1) (by decide) (by decide)) dL_picnic_13 ?_
    refine s_goto (tgt := 21) hX dL_picnic_14 (by decide) ?_
    refine s_iconst (v := 0) hX dL_picnic_21 rfl ?_
    exact s_ireth hX hq rfl dL_picnic_22 h
theorem c_L_picnic {a0 a1 a2 a3 : Int32} {M : Mem} {Q : Int32 → Mem → Prop} (h : w_Top_picnic a0 a1 a2 a3 M (outQ Q) (Q 1)) : CXH yL_picnic cL_picnic 7 [(0, 14, 17, 13)] 8 LY [vr c_xx, vi a0, vi a1, vi a2, vi a3, vr c_outc] M Q := mk_xh (x := ⟨0, 14, 17, 13⟩) rfl rfl rfl rfl (Nat.le_of_ble_eq_true rfl) (fun X hX hT hq => t_L_picnic rfl hX hT hq h)
theorem t_L_without {X : Cx} {x : ExceptionTableEntry} (hx : x = ⟨0, 10, 13, 13⟩) (hX : Cok X cL_without RL 5 (some .int) 8 1 6) (hT : TXH X x) {Q : Int32 → Mem → Prop} (hq : RIX X LY Q (fun _ => False)) {M : Mem} {a0 a1 : Int32} (h : w_Top_without a0 a1 M (outQ Q) (Q 1)) : Wat X 0 0 LY 0 [some (vr c_xx), some (vi a0), some (vi a1), some (vr c_outc), none] [] M := by
  subst hx
  refine s_aload_n hX dL_without_0 rfl ?_
  refine s_iconst (v := 0) hX dL_without_1 rfl ?_
  refine s_aload_n hX dL_without_2 rfl ?_
  refine s_iload_n hX dL_without_3 rfl ?_
  refine s_iload_n hX dL_without_4 rfl ?_
  refine s_cvx (as := [vi a0, vi a1]) (rest := [vi 0, vr c_outc]) hX hT (c_Top_without h) mv_Top_without wd_ml_L_22 dL_without_5 ly_c_xx rfl rfl (Nat.le_of_ble_eq_true rfl) rfl (by decide) (by decide) rfl (fun M1 h => ?_) (fun r M1 h => ?_)
  · refine s_hst hX dL_without_13 (by decide) ?_
    refine s_iconst (v := 1) hX dL_without_15 rfl ?_
    exact s_ireth hX hq rfl dL_without_16 h
  · refine s_i2l hX dL_without_8 ?_
    refine s_last hX ly_c_outc (vp_in_nI (n := 0) (N := 1) (by decide) (by decide)) dL_without_9 ?_
    refine s_goto (tgt := 17) hX dL_without_10 (by decide) ?_
    refine s_iconst (v := 0) hX dL_without_17 rfl ?_
    exact s_ireth hX hq rfl dL_without_18 h
theorem c_L_without {a0 a1 : Int32} {M : Mem} {Q : Int32 → Mem → Prop} (h : w_Top_without a0 a1 M (outQ Q) (Q 1)) : CXH yL_without cL_without 5 [(0, 10, 13, 13)] 8 LY [vr c_xx, vi a0, vi a1, vr c_outc] M Q := mk_xh (x := ⟨0, 10, 13, 13⟩) rfl rfl rfl rfl (Nat.le_of_ble_eq_true rfl) (fun X hX hT hq => t_L_without rfl hX hT hq h)
