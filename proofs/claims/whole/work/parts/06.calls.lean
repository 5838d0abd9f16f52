
theorem gd_of {ws : List Cond} (h : ∀ w ∈ ws, w ∈ TB) : GoodIn TB ws := fun w hw => ⟨h w hw, tb_good (h w hw)⟩
def MV (y : MethodName) (b : ByteArray) (n : Nat) (rt : Option FieldType) (C : String) (a : Nat) : Prop := Cond.code y b n rt ∈ TB ∧ Cond.instanceMethod y ∈ TB ∧ Cond.selects C y y ∈ TB ∧ Cond.initialized C ∈ TB ∧ (y.cls = C ∧ y.cls ≠ "java/lang/invoke/MethodHandle" ∧ y.cls ≠ "java/lang/invoke/VarHandle" ∧ (parseMethodDescriptor y.desc).map (fun d => d.parameters.length) = some a) ∧ n ≤ 41
def MS (y : MethodName) (b : ByteArray) (n : Nat) (rt : Option FieldType) (a : Nat) : Prop := Cond.code y b n rt ∈ TB ∧ Cond.static y ∈ TB ∧ Cond.initialized y.cls ∈ TB ∧ (y.cls ≠ "java/lang/invoke/MethodHandle" ∧ y.cls ≠ "java/lang/invoke/VarHandle" ∧ (parseMethodDescriptor y.desc).map (fun d => d.parameters.length) = some a) ∧ n ≤ 41
theorem pb_blind {as : List Value} {D : va_G} {cA : Nat → ClassId} {ad : Nat → Nat} {L : List DS} {M : Mem} {sz : Nat} : FrameBlind (va_Pc as (PreB D cA ad L M sz)) := fun a U g mk q => by
  obtain ⟨q0, q1, qP, qK, qD⟩ := q
  exact ⟨q0, q1, qP, va_K.moved (u := U) (U := U.calling g mk a) (Vm.Alike.refl U.vm) qK, qD⟩
theorem map_cat8 {ad : Nat → Nat} {st : List AV} (h : (st.map avc).sum ≤ 8) : ((st.map (toV ad)).map fun v => v.category).sum ≤ 8 := by
  rw [List.map_map]
  have e : (fun v : Value => v.category) ∘ toV ad = avc := by funext v; exact toV_cat ad v
  rw [e]; exact h
theorem free_all {D : va_G} {cA : Nat → ClassId} {ad : Nat → Nat} {A : Nat → Prop} {H0 H : Heap} {locs : List Loc} {L : List DS} {M : Mem} (hw : Wd D cA ad A H0 H locs L M) (hA : ∀ q, H0.size ≤ q → A q) : ∀ q, Aof cA ad M L H.size q → A q := fun q h => by
  rcases h with ⟨k, e, h⟩ | h
  · exact hw.2.1.2 k _ h
  · exact hA q (Nat.le_trans hw.2.2.1 h)
section
variable {X : Cx} {cc : ByteArray} {own : String} {nL : Nat} {ret : Option FieldType} {lev c0 s0 cells slots pc : Nat} {L L' : List DS} {lv : List (Option AV)} {st : List AV} {M : Mem}
variable {y : MethodName} {b : ByteArray} {n : Nat} {rt : Option FieldType} {lev' mc ms k ci idx N : Nat} {as rest : List AV} {C : String} {T : u_T} {fs : List FD}

theorem s_cvi (hX : Cok X cc own nL ret lev c0 s0) {Qn : Int32 → Mem → Prop} (hc : CI y b n rt lev' mc ms L L' (vr k :: as) M Qn) (hm : MV y b n rt C as.length) (hl0 : Cond.methodLink own idx y ∈ TB) (d : decode cc pc = .ok (.invokevirtual idx, 3)) (hk : L[k]? = some (.inl (ci, fs))) (hcl : cls[ci]? = some (C, T, N)) (hst : st = as.reverse ++ vr k :: rest) (hw8 : (rest.map avc).sum ≤ 8) (hlv : lv.length = nL) (hlev : lev' < lev) (hcs : cells + mc ≤ c0 ∧ slots + ms ≤ s0) (k1 : ∀ (r : Int32) (M1 : Mem), Qn r M1 → Wat X (cells + mc) (slots + ms) L' (pc + 3) lv (vi r :: rest) M1) : Wat X cells slots L pc lv st M := by
  obtain ⟨p, l, e, R, s, m, args, below, meth, c, Q, D, cA, ad, A⟩ := X
  obtain ⟨⟨hx, hb, hml, hown, hts⟩, hK, hA, hlk, hrt, hR⟩ := hX
  subst hst
  intro H locs ls hw hl
  have hFc := free_all hw hA
  have h41 := hm.2.2.2.2.2
  refine va_calli (va_runV (As := as.map (toV ad)) (rest := rest.map (toV ad)) (C := C) (b := ad k) ⟨hx, hb, hml, hown, hts⟩ (hc l D cA ad H.size) (cwV as.length hts (gd_of (fun w hw => ?_)) rfl rfl rfl hm.2.2.2.2.1 ⟨by show lev' + 1 ≤ R.frames; omega, by show 8 + (n + 11) + 60 * lev' ≤ R.locals; omega⟩) ⟨pb_blind, va_recv hK hw.1 hcl (wsO_at hk), fun U hU hW => ⟨rfl, by rw [hU], by rw [hU]; exact hw.1, va_K.moved hW.alike hK, hw.2.1.weaken (fun _ _ _ _ => trivial)⟩⟩ rfl (by rw [List.length_map]) (by rw [← hlv]; exact hl.1) (by show List.map (toV ad) (as.reverse ++ vr k :: rest) = _; rw [List.map_append, List.map_reverse]; rfl) (lv_room (map_cat8 hw8)) d (by rw [hR.2.2.1, hR.2.2.2]; exact hcs)) hw.2.2 (fun q _ h => hFc q h) hFc (fun r u t H1 locs1 ht hvm hq hB hz hk1 hS => ?_)
  · have hw : w ∈ [Cond.methodLink own idx y, .instanceMethod y, .selects C y y, .initialized C] ++ (Cond.code y b n rt :: TB) := hw
    simp only [List.cons_append, List.nil_append, List.mem_cons] at hw
    rcases hw with rfl | rfl | rfl | rfl | rfl | h
    · exact hl0
    · exact hm.2.1
    · exact hm.2.2.1
    · exact hm.2.2.2.1
    · exact hm.1
    · exact h
  · exact k1 r u hq H1 locs1 ls ⟨by rw [← ht]; exact hB.1, hB.2.2.weaken (fun q _ _ h => hFc _ h), hS⟩ hl
theorem s_csi (hX : Cok X cc own nL ret lev c0 s0) {Qn : Int32 → Mem → Prop} (hc : CI y b n rt lev' mc ms L L' as M Qn) (hm : MS y b n rt as.length) (hl0 : Cond.methodLink own idx y ∈ TB) (d : decode cc pc = .ok (.invokestatic idx, 3)) (hst : st = as.reverse ++ rest) (hw8 : (rest.map avc).sum ≤ 8) (hlv : lv.length = nL) (hlev : lev' < lev) (hcs : cells + mc ≤ c0 ∧ slots + ms ≤ s0) (k1 : ∀ (r : Int32) (M1 : Mem), Qn r M1 → Wat X (cells + mc) (slots + ms) L' (pc + 3) lv (vi r :: rest) M1) : Wat X cells slots L pc lv st M := by
  obtain ⟨p, l, e, R, s, m, args, below, meth, c, Q, D, cA, ad, A⟩ := X
  obtain ⟨⟨hx, hb, hml, hown, hts⟩, hK, hA, hlk, hrt, hR⟩ := hX
  subst hst
  intro H locs ls hw hl
  have hFc := free_all hw hA
  have h41 := hm.2.2.2.2
  refine va_calli (va_runS (As := as.map (toV ad)) (rest := rest.map (toV ad)) ⟨hx, hb, hml, hown, hts⟩ (hc l D cA ad H.size) (va_cwS as.length hts (gd_of (fun w hw => ?_)) rfl rfl rfl hm.2.2.2.1 ⟨by show lev' + 1 ≤ R.frames; omega, by show 8 + (n + 11) + 60 * lev' ≤ R.locals; omega⟩) ⟨pb_blind, fun U hU hW => ⟨rfl, by rw [hU], by rw [hU]; exact hw.1, va_K.moved hW.alike hK, hw.2.1.weaken (fun _ _ _ _ => trivial)⟩⟩ rfl (by rw [List.length_map]) (by rw [← hlv]; exact hl.1) (by show List.map (toV ad) (as.reverse ++ rest) = _; rw [List.map_append, List.map_reverse]) (lv_room (map_cat8 hw8)) d (by rw [hR.2.2.1, hR.2.2.2]; exact hcs)) hw.2.2 (fun q _ h => hFc q h) hFc (fun r u t H1 locs1 ht hvm hq hB hz hk1 hS => ?_)
  · have hw : w ∈ [Cond.methodLink own idx y, .static y, .initialized y.cls] ++ (Cond.code y b n rt :: TB) := hw
    simp only [List.cons_append, List.nil_append, List.mem_cons] at hw
    rcases hw with rfl | rfl | rfl | rfl | h
    · exact hl0
    · exact hm.2.1
    · exact hm.2.2.1
    · exact hm.1
    · exact h
  · exact k1 r u hq H1 locs1 ls ⟨by rw [← ht]; exact hB.1, hB.2.2.weaken (fun q _ _ h => hFc _ h), hS⟩ hl
theorem s_cvl (hX : Cok X cc own nL ret lev c0 s0) {Qn : Int64 → Mem → Prop} (hc : CL y b n rt lev' mc ms L L' (vr k :: as) M Qn) (hm : MV y b n rt C as.length) (hl0 : Cond.methodLink own idx y ∈ TB) (d : decode cc pc = .ok (.invokevirtual idx, 3)) (hk : L[k]? = some (.inl (ci, fs))) (hcl : cls[ci]? = some (C, T, N)) (hst : st = as.reverse ++ vr k :: rest) (hw8 : (rest.map avc).sum ≤ 8) (hlv : lv.length = nL) (hlev : lev' < lev) (hcs : cells + mc ≤ c0 ∧ slots + ms ≤ s0) (k1 : ∀ (r : Int64) (M1 : Mem), Qn r M1 → Wat X (cells + mc) (slots + ms) L' (pc + 3) lv (vl r :: rest) M1) : Wat X cells slots L pc lv st M := by
  obtain ⟨p, l, e, R, s, m, args, below, meth, c, Q, D, cA, ad, A⟩ := X
  obtain ⟨⟨hx, hb, hml, hown, hts⟩, hK, hA, hlk, hrt, hR⟩ := hX
  subst hst
  intro H locs ls hw hl
  have hFc := free_all hw hA
  have h41 := hm.2.2.2.2.2
  refine va_calll (va_runV (As := as.map (toV ad)) (rest := rest.map (toV ad)) (C := C) (b := ad k) ⟨hx, hb, hml, hown, hts⟩ (hc l D cA ad H.size) (cwV as.length hts (gd_of (fun w hw => ?_)) rfl rfl rfl hm.2.2.2.2.1 ⟨by show lev' + 1 ≤ R.frames; omega, by show 8 + (n + 11) + 60 * lev' ≤ R.locals; omega⟩) ⟨pb_blind, va_recv hK hw.1 hcl (wsO_at hk), fun U hU hW => ⟨rfl, by rw [hU], by rw [hU]; exact hw.1, va_K.moved hW.alike hK, hw.2.1.weaken (fun _ _ _ _ => trivial)⟩⟩ rfl (by rw [List.length_map]) (by rw [← hlv]; exact hl.1) (by show List.map (toV ad) (as.reverse ++ vr k :: rest) = _; rw [List.map_append, List.map_reverse]; rfl) (lv_room (map_cat8 hw8)) d (by rw [hR.2.2.1, hR.2.2.2]; exact hcs)) hw.2.2 (fun q _ h => hFc q h) hFc (fun r u t H1 locs1 ht hvm hq hB hz hk1 hS => ?_)
  · have hw : w ∈ [Cond.methodLink own idx y, .instanceMethod y, .selects C y y, .initialized C] ++ (Cond.code y b n rt :: TB) := hw
    simp only [List.cons_append, List.nil_append, List.mem_cons] at hw
    rcases hw with rfl | rfl | rfl | rfl | rfl | h
    · exact hl0
    · exact hm.2.1
    · exact hm.2.2.1
    · exact hm.2.2.2.1
    · exact hm.1
    · exact h
  · exact k1 r u hq H1 locs1 ls ⟨by rw [← ht]; exact hB.1, hB.2.2.weaken (fun q _ _ h => hFc _ h), hS⟩ hl
theorem s_csl (hX : Cok X cc own nL ret lev c0 s0) {Qn : Int64 → Mem → Prop} (hc : CL y b n rt lev' mc ms L L' as M Qn) (hm : MS y b n rt as.length) (hl0 : Cond.methodLink own idx y ∈ TB) (d : decode cc pc = .ok (.invokestatic idx, 3)) (hst : st = as.reverse ++ rest) (hw8 : (rest.map avc).sum ≤ 8) (hlv : lv.length = nL) (hlev : lev' < lev) (hcs : cells + mc ≤ c0 ∧ slots + ms ≤ s0) (k1 : ∀ (r : Int64) (M1 : Mem), Qn r M1 → Wat X (cells + mc) (slots + ms) L' (pc + 3) lv (vl r :: rest) M1) : Wat X cells slots L pc lv st M := by
  obtain ⟨p, l, e, R, s, m, args, below, meth, c, Q, D, cA, ad, A⟩ := X
  obtain ⟨⟨hx, hb, hml, hown, hts⟩, hK, hA, hlk, hrt, hR⟩ := hX
  subst hst
  intro H locs ls hw hl
  have hFc := free_all hw hA
  have h41 := hm.2.2.2.2
  refine va_calll (va_runS (As := as.map (toV ad)) (rest := rest.map (toV ad)) ⟨hx, hb, hml, hown, hts⟩ (hc l D cA ad H.size) (va_cwS as.length hts (gd_of (fun w hw => ?_)) rfl rfl rfl hm.2.2.2.1 ⟨by show lev' + 1 ≤ R.frames; omega, by show 8 + (n + 11) + 60 * lev' ≤ R.locals; omega⟩) ⟨pb_blind, fun U hU hW => ⟨rfl, by rw [hU], by rw [hU]; exact hw.1, va_K.moved hW.alike hK, hw.2.1.weaken (fun _ _ _ _ => trivial)⟩⟩ rfl (by rw [List.length_map]) (by rw [← hlv]; exact hl.1) (by show List.map (toV ad) (as.reverse ++ rest) = _; rw [List.map_append, List.map_reverse]) (lv_room (map_cat8 hw8)) d (by rw [hR.2.2.1, hR.2.2.2]; exact hcs)) hw.2.2 (fun q _ h => hFc q h) hFc (fun r u t H1 locs1 ht hvm hq hB hz hk1 hS => ?_)
  · have hw : w ∈ [Cond.methodLink own idx y, .static y, .initialized y.cls] ++ (Cond.code y b n rt :: TB) := hw
    simp only [List.cons_append, List.nil_append, List.mem_cons] at hw
    rcases hw with rfl | rfl | rfl | rfl | h
    · exact hl0
    · exact hm.2.1
    · exact hm.2.2.1
    · exact hm.1
    · exact h
  · exact k1 r u hq H1 locs1 ls ⟨by rw [← ht]; exact hB.1, hB.2.2.weaken (fun q _ _ h => hFc _ h), hS⟩ hl
theorem s_cvv (hX : Cok X cc own nL ret lev c0 s0) {Qn : Mem → Prop} (hc : CV y b n rt lev' mc ms L L' (vr k :: as) M Qn) (hm : MV y b n rt C as.length) (hl0 : Cond.methodLink own idx y ∈ TB) (d : decode cc pc = .ok (.invokevirtual idx, 3)) (hk : L[k]? = some (.inl (ci, fs))) (hcl : cls[ci]? = some (C, T, N)) (hst : st = as.reverse ++ vr k :: rest) (hw8 : (rest.map avc).sum ≤ 8) (hlv : lv.length = nL) (hlev : lev' < lev) (hcs : cells + mc ≤ c0 ∧ slots + ms ≤ s0) (k1 : ∀ (M1 : Mem), Qn M1 → Wat X (cells + mc) (slots + ms) L' (pc + 3) lv (rest) M1) : Wat X cells slots L pc lv st M := by
  obtain ⟨p, l, e, R, s, m, args, below, meth, c, Q, D, cA, ad, A⟩ := X
  obtain ⟨⟨hx, hb, hml, hown, hts⟩, hK, hA, hlk, hrt, hR⟩ := hX
  subst hst
  intro H locs ls hw hl
  have hFc := free_all hw hA
  have h41 := hm.2.2.2.2.2
  refine va_callv (va_runV (As := as.map (toV ad)) (rest := rest.map (toV ad)) (C := C) (b := ad k) ⟨hx, hb, hml, hown, hts⟩ (hc l D cA ad H.size) (cwV as.length hts (gd_of (fun w hw => ?_)) rfl rfl rfl hm.2.2.2.2.1 ⟨by show lev' + 1 ≤ R.frames; omega, by show 8 + (n + 11) + 60 * lev' ≤ R.locals; omega⟩) ⟨pb_blind, va_recv hK hw.1 hcl (wsO_at hk), fun U hU hW => ⟨rfl, by rw [hU], by rw [hU]; exact hw.1, va_K.moved hW.alike hK, hw.2.1.weaken (fun _ _ _ _ => trivial)⟩⟩ rfl (by rw [List.length_map]) (by rw [← hlv]; exact hl.1) (by show List.map (toV ad) (as.reverse ++ vr k :: rest) = _; rw [List.map_append, List.map_reverse]; rfl) (lv_room (map_cat8 hw8)) d (by rw [hR.2.2.1, hR.2.2.2]; exact hcs)) hw.2.2 (fun q _ h => hFc q h) hFc (fun u t H1 locs1 ht hvm hq hB hz hk1 hS => ?_)
  · have hw : w ∈ [Cond.methodLink own idx y, .instanceMethod y, .selects C y y, .initialized C] ++ (Cond.code y b n rt :: TB) := hw
    simp only [List.cons_append, List.nil_append, List.mem_cons] at hw
    rcases hw with rfl | rfl | rfl | rfl | rfl | h
    · exact hl0
    · exact hm.2.1
    · exact hm.2.2.1
    · exact hm.2.2.2.1
    · exact hm.1
    · exact h
  · exact k1 u hq H1 locs1 ls ⟨by rw [← ht]; exact hB.1, hB.2.2.weaken (fun q _ _ h => hFc _ h), hS⟩ hl
theorem s_csv (hX : Cok X cc own nL ret lev c0 s0) {Qn : Mem → Prop} (hc : CV y b n rt lev' mc ms L L' as M Qn) (hm : MS y b n rt as.length) (hl0 : Cond.methodLink own idx y ∈ TB) (d : decode cc pc = .ok (.invokestatic idx, 3)) (hst : st = as.reverse ++ rest) (hw8 : (rest.map avc).sum ≤ 8) (hlv : lv.length = nL) (hlev : lev' < lev) (hcs : cells + mc ≤ c0 ∧ slots + ms ≤ s0) (k1 : ∀ (M1 : Mem), Qn M1 → Wat X (cells + mc) (slots + ms) L' (pc + 3) lv (rest) M1) : Wat X cells slots L pc lv st M := by
  obtain ⟨p, l, e, R, s, m, args, below, meth, c, Q, D, cA, ad, A⟩ := X
  obtain ⟨⟨hx, hb, hml, hown, hts⟩, hK, hA, hlk, hrt, hR⟩ := hX
  subst hst
  intro H locs ls hw hl
  have hFc := free_all hw hA
  have h41 := hm.2.2.2.2
  refine va_callv (va_runS (As := as.map (toV ad)) (rest := rest.map (toV ad)) ⟨hx, hb, hml, hown, hts⟩ (hc l D cA ad H.size) (va_cwS as.length hts (gd_of (fun w hw => ?_)) rfl rfl rfl hm.2.2.2.1 ⟨by show lev' + 1 ≤ R.frames; omega, by show 8 + (n + 11) + 60 * lev' ≤ R.locals; omega⟩) ⟨pb_blind, fun U hU hW => ⟨rfl, by rw [hU], by rw [hU]; exact hw.1, va_K.moved hW.alike hK, hw.2.1.weaken (fun _ _ _ _ => trivial)⟩⟩ rfl (by rw [List.length_map]) (by rw [← hlv]; exact hl.1) (by show List.map (toV ad) (as.reverse ++ rest) = _; rw [List.map_append, List.map_reverse]) (lv_room (map_cat8 hw8)) d (by rw [hR.2.2.1, hR.2.2.2]; exact hcs)) hw.2.2 (fun q _ h => hFc q h) hFc (fun u t H1 locs1 ht hvm hq hB hz hk1 hS => ?_)
  · have hw : w ∈ [Cond.methodLink own idx y, .static y, .initialized y.cls] ++ (Cond.code y b n rt :: TB) := hw
    simp only [List.cons_append, List.nil_append, List.mem_cons] at hw
    rcases hw with rfl | rfl | rfl | rfl | h
    · exact hl0
    · exact hm.2.1
    · exact hm.2.2.1
    · exact hm.1
    · exact h
  · exact k1 u hq H1 locs1 ls ⟨by rw [← ht]; exact hB.1, hB.2.2.weaken (fun q _ _ h => hFc _ h), hS⟩ hl
theorem lve_has (ad : Nat → Nat) : ∀ (as : List AV) (n j i : Nat) (v : AV), (lve as n)[i]? = some (some v) → (j + i, toV ad v) ∈ lv_args j (as.map (toV ad))
  | _, 0, j, i, v, h => by simp [lve] at h
  | [], n + 1, j, 0, v, h => by simp [lve] at h
  | [], n + 1, j, i + 1, v, h => by
    simp only [lve, List.getElem?_cons_succ] at h
    have := lve_has ad [] n j i v h
    simp [lv_args] at this
  | .inr (.inl x) :: as, 1, j, 0, v, h => by simp [lve] at h; subst h; exact List.mem_cons_self
  | .inr (.inl x) :: as, 1, j, i + 1, v, h => by simp [lve] at h
  | .inr (.inl x) :: as, n + 2, j, 0, v, h => by simp [lve] at h; subst h; exact List.mem_cons_self
  | .inr (.inl x) :: as, n + 2, j, 1, v, h => by simp [lve] at h
  | .inr (.inl x) :: as, n + 2, j, i + 2, v, h => by
    simp only [lve, List.getElem?_cons_succ] at h
    have h1 := lve_has ad as n (j + 2) i v h
    rw [show j + (i + 2) = j + 2 + i by omega]
    exact List.mem_cons_of_mem _ h1
  | .inl x :: as, n + 1, j, 0, v, h => by simp [lve] at h; subst h; exact List.mem_cons_self
  | .inl x :: as, n + 1, j, i + 1, v, h => by
    simp only [lve, List.getElem?_cons_succ] at h
    have h1 := lve_has ad as n (j + 1) i v h
    rw [show j + (i + 1) = j + 1 + i by omega]
    exact List.mem_cons_of_mem _ h1
  | .inr (.inr r) :: as, n + 1, j, 0, v, h => by simp [lve] at h; subst h; exact List.mem_cons_self
  | .inr (.inr r) :: as, n + 1, j, i + 1, v, h => by
    simp only [lve, List.getElem?_cons_succ] at h
    have h1 := lve_has ad as n (j + 1) i v h
    rw [show j + (i + 1) = j + 1 + i by omega]
    have e : (toV ad (.inr (.inr r))).category = 1 := toV_cat ad _
    rw [List.map_cons, lv_args, e]
    exact List.mem_cons_of_mem _ h1
theorem mk_i {Qn : Int32 → Mem → Prop} {lv0 : List (Option AV)} (hp : plainName y.cls = true) (hcode : Cond.code y b n rt ∈ TB) (hlv : lve as n = lv0) (hlen : lv0.length = n) (hsl : (lg_sl (as.map (toV (fun _ => 0)))).length ≤ n) (h : ∀ X : Cx, Cok X b y.cls n rt lev mc ms → RI X mc ms L' Qn → Wat X 0 0 L 0 lv0 [] M) : CI y b n rt lev mc ms L L' as M Qn := by
  intro l D cA ad sz
  refine Met.ofW (cc := b) (maxL := n) (ret := rt) hp rfl ?_
  intro p e s m args below meth c s1 B hml hv
  obtain ⟨rfl, hsz, hP, hK, hD0⟩ := hv
  subst hsz
  have hts := atoms_spec (ws := .code y b n rt :: TB) B.pre
  have hown : s.vm.findClass y.cls = some m.cls := findClass_of_methodNamed B.named
  have hw := h (p, l, e, rmD lev mc ms, s, m, (as.map (toV ad)).toArray, below, meth, c, _, D, cA, ad, Aof cA ad M L s.heap.size) ⟨⟨B.exec, B.bytes, hml, hown, fun w hw => hts w (List.mem_cons_of_mem _ hw)⟩, hK, fun q h => Or.inr h, B.notSynchronized, B.returns, Nat.le_refl _, Nat.le_refl _, rfl, rfl⟩ rfl
  have hsl2 : (lg_sl (as.map (toV ad))).length ≤ n := by
    have e : ∀ as : List AV, (lg_sl (as.map (toV ad))).length = (lg_sl (as.map (toV (fun _ => 0)))).length := by
      intro as
      induction as with
      | nil => rfl
      | cons a t ih =>
        have ih' : ((t.map (toV ad)).flatMap fun v => if v.category = 2 then [Slot.val v, .second] else [.val v]).length = ((t.map (toV (fun _ => 0))).flatMap fun v => if v.category = 2 then [Slot.val v, .second] else [.val v]).length := ih
        simp only [lg_sl, List.map_cons, List.flatMap_cons, List.length_append, toV_cat]
        rw [ih']
        split <;> rfl
    rw [e]; exact hsl
  have hle := lv_entry (as.map (toV ad)) (n := n) hsl2
  rw [lg_entry_eq]
  refine hw s.heap [] _ ⟨hP, hD0.self, va_S.rf⟩ ⟨by rw [hlen]; exact hle.1, hle.2.1, fun q hq => hle.2.2 q ?_⟩
  obtain ⟨i, v, h1, rfl⟩ := (lvl_mem ad lv0 0 q).mp hq
  rw [← hlv] at h1
  exact lve_has ad as n 0 i v h1
theorem mk_l {Qn : Int64 → Mem → Prop} {lv0 : List (Option AV)} (hp : plainName y.cls = true) (hcode : Cond.code y b n rt ∈ TB) (hlv : lve as n = lv0) (hlen : lv0.length = n) (hsl : (lg_sl (as.map (toV (fun _ => 0)))).length ≤ n) (h : ∀ X : Cx, Cok X b y.cls n rt lev mc ms → RL_ X mc ms L' Qn → Wat X 0 0 L 0 lv0 [] M) : CL y b n rt lev mc ms L L' as M Qn := by
  intro l D cA ad sz
  refine Met.ofW (cc := b) (maxL := n) (ret := rt) hp rfl ?_
  intro p e s m args below meth c s1 B hml hv
  obtain ⟨rfl, hsz, hP, hK, hD0⟩ := hv
  subst hsz
  have hts := atoms_spec (ws := .code y b n rt :: TB) B.pre
  have hown : s.vm.findClass y.cls = some m.cls := findClass_of_methodNamed B.named
  have hw := h (p, l, e, rmD lev mc ms, s, m, (as.map (toV ad)).toArray, below, meth, c, _, D, cA, ad, Aof cA ad M L s.heap.size) ⟨⟨B.exec, B.bytes, hml, hown, fun w hw => hts w (List.mem_cons_of_mem _ hw)⟩, hK, fun q h => Or.inr h, B.notSynchronized, B.returns, Nat.le_refl _, Nat.le_refl _, rfl, rfl⟩ rfl
  have hsl2 : (lg_sl (as.map (toV ad))).length ≤ n := by
    have e : ∀ as : List AV, (lg_sl (as.map (toV ad))).length = (lg_sl (as.map (toV (fun _ => 0)))).length := by
      intro as
      induction as with
      | nil => rfl
      | cons a t ih =>
        have ih' : ((t.map (toV ad)).flatMap fun v => if v.category = 2 then [Slot.val v, .second] else [.val v]).length = ((t.map (toV (fun _ => 0))).flatMap fun v => if v.category = 2 then [Slot.val v, .second] else [.val v]).length := ih
        simp only [lg_sl, List.map_cons, List.flatMap_cons, List.length_append, toV_cat]
        rw [ih']
        split <;> rfl
    rw [e]; exact hsl
  have hle := lv_entry (as.map (toV ad)) (n := n) hsl2
  rw [lg_entry_eq]
  refine hw s.heap [] _ ⟨hP, hD0.self, va_S.rf⟩ ⟨by rw [hlen]; exact hle.1, hle.2.1, fun q hq => hle.2.2 q ?_⟩
  obtain ⟨i, v, h1, rfl⟩ := (lvl_mem ad lv0 0 q).mp hq
  rw [← hlv] at h1
  exact lve_has ad as n 0 i v h1
theorem mk_v {Qn : Mem → Prop} {lv0 : List (Option AV)} (hp : plainName y.cls = true) (hcode : Cond.code y b n rt ∈ TB) (hlv : lve as n = lv0) (hlen : lv0.length = n) (hsl : (lg_sl (as.map (toV (fun _ => 0)))).length ≤ n) (h : ∀ X : Cx, Cok X b y.cls n rt lev mc ms → RV X mc ms L' Qn → Wat X 0 0 L 0 lv0 [] M) : CV y b n rt lev mc ms L L' as M Qn := by
  intro l D cA ad sz
  refine Met.ofW (cc := b) (maxL := n) (ret := rt) hp rfl ?_
  intro p e s m args below meth c s1 B hml hv
  obtain ⟨rfl, hsz, hP, hK, hD0⟩ := hv
  subst hsz
  have hts := atoms_spec (ws := .code y b n rt :: TB) B.pre
  have hown : s.vm.findClass y.cls = some m.cls := findClass_of_methodNamed B.named
  have hw := h (p, l, e, rmD lev mc ms, s, m, (as.map (toV ad)).toArray, below, meth, c, _, D, cA, ad, Aof cA ad M L s.heap.size) ⟨⟨B.exec, B.bytes, hml, hown, fun w hw => hts w (List.mem_cons_of_mem _ hw)⟩, hK, fun q h => Or.inr h, B.notSynchronized, B.returns, Nat.le_refl _, Nat.le_refl _, rfl, rfl⟩ rfl
  have hsl2 : (lg_sl (as.map (toV ad))).length ≤ n := by
    have e : ∀ as : List AV, (lg_sl (as.map (toV ad))).length = (lg_sl (as.map (toV (fun _ => 0)))).length := by
      intro as
      induction as with
      | nil => rfl
      | cons a t ih =>
        have ih' : ((t.map (toV ad)).flatMap fun v => if v.category = 2 then [Slot.val v, .second] else [.val v]).length = ((t.map (toV (fun _ => 0))).flatMap fun v => if v.category = 2 then [Slot.val v, .second] else [.val v]).length := ih
        simp only [lg_sl, List.map_cons, List.flatMap_cons, List.length_append, toV_cat]
        rw [ih']
        split <;> rfl
    rw [e]; exact hsl
  have hle := lv_entry (as.map (toV ad)) (n := n) hsl2
  rw [lg_entry_eq]
  refine hw s.heap [] _ ⟨hP, hD0.self, va_S.rf⟩ ⟨by rw [hlen]; exact hle.1, hle.2.1, fun q hq => hle.2.2 q ?_⟩
  obtain ⟨i, v, h1, rfl⟩ := (lvl_mem ad lv0 0 q).mp hq
  rw [← hlv] at h1
  exact lve_has ad as n 0 i v h1
end
