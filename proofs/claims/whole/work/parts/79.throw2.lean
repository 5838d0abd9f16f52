/-! throws: the rows -/
def dwL : List Cond := [.declares (Bundle.initS rte), .declares (Bundle.initS "java/lang/Exception"), .declares (Bundle.initS Bundle.tN), .castable nse nse]
def DW (U : State) : Prop := ∀ w ∈ dwL, w.before #[] U = true
theorem DW.moved {u U : State} (hvm : u.vm.Alike U.vm) (h : DW u) : DW U := by
  have tr : ∀ {c : Cond}, c.onTables = true → c.before #[] (u.setVm U.vm) = true → c.before #[] U = true := by
    intro c hc h
    have e := Cond.onTables_vm (A := #[]) (A' := #[]) (U := u) (U' := U) U.vm c hc
    have hU : U.setVm U.vm = U := rfl
    rw [hU] at e
    rw [← e]
    exact h
  intro w hw
  have hu := h w hw
  simp only [dwL, List.mem_cons, List.not_mem_nil, or_false] at hw
  rcases hw with rfl | rfl | rfl | rfl
  · exact tr rfl (by rw [Cond.declares_setVm hvm]; exact hu)
  · exact tr rfl (by rw [Cond.declares_setVm hvm]; exact hu)
  · exact tr rfl (by rw [Cond.declares_setVm hvm]; exact hu)
  · exact tr rfl (by rw [Cond.castable_setVm hvm]; exact hu)
abbrev nxL : List Cond := (nxA RX11 174).filter vx_no
set_option maxRecDepth 20000 in
theorem nx_lw : ∀ w ∈ Cond.classLink RX11 170 nse :: Cond.initialized nse :: nxL, w ∈ lw_tbl := by decide +kernel
set_option maxRecDepth 20000 in
theorem nx_gd : ∀ w ∈ Cond.classLink RX11 170 nse :: Cond.initialized nse :: nxL, goodWord w = true ∨ w ∈ dwL := by decide +kernel
set_option maxRecDepth 20000 in
theorem nx_ot : ∀ w ∈ Cond.classLink RX11 170 nse :: Cond.initialized nse :: nxL, vx_ot w = true := by decide +kernel
theorem nx_at {args : Array Value} {s : State} (hts : ∀ w ∈ TB, w.before args s = true) (hd : DW s) : ∀ w ∈ Cond.classLink RX11 170 nse :: Cond.initialized nse :: nxL, w.before args s = true := fun w hw => by
  rcases nx_gd w hw with g | g
  · exact hts w (List.mem_filter.mpr ⟨nx_lw w hw, g⟩)
  · exact vx_ot_at (State.WarmedH.refl s) rfl (nx_ot w hw) (hd w g)
section NXB
variable {p : Program} {l : Launch} {e : Env} {R : Room} {s : State} {m : MethodId} {args : Array Value} {below : List Frame} {meth : Method} {c : Code} {H : Heap} {locs : List Loc} {cells slots : Nat}
variable {mc ms : Nat} {free : Addr → Prop} {ls : Array Slot} {rest : List Value} {Qc : Array Value → State → Outcome → State → Prop} {XC : String → State → State → Prop}
theorem nx_throwS {cc : ByteArray} {pc : Nat} (hexec : p.tables.exec = Jvm.exec) (hb : c.code = cc) (hl : l.stackTraces = false) {text : String} {is sa : Nat} {A : Nat → Prop}
    (hown : s.vm.findClass RX11 = some m.cls) (hat : ∀ w ∈ Cond.classLink RX11 170 nse :: Cond.initialized nse :: nxL, w.before args s = true) (hstr : vk_R RX11 is text sa s)
    (hU : vx_Zq Bundle.tN "UNASSIGNED_STACK" Bundle.steD A s s.heap) (hN : vx_Zq Bundle.tN "SUPPRESSED_SENTINEL" Bundle.listD A s s.heap) (hS : va_S A s.heap H locs) (hsize : ls.size = c.maxLocals)
    (d0 : decode cc pc = .ok (.new 170, 3)) (d3 : decode cc (pc + 3) = .ok (.dup, 1)) (d4 : decode cc (pc + 4) = .ok (.ldc is, 2)) (d6 : decode cc (pc + 6) = .ok (.invokespecial 174, 3)) (d9 : decode cc (pc + 9) = .ok (.athrow, 1))
    (hout : ∀ x ∈ c.exceptionTable.toList, covers x (pc + 9) = false) (hRf : 5 < R.frames) (hRl : (rest.map fun v => v.category).sum + 82 ≤ R.locals) (hRc : cells + 1 ≤ R.cells) (hRs : slots + 6 ≤ R.slots) (hlocks : meth.locks = false)
    (hx : ∀ t : State, s.vm.Alike t.vm → H.size ≤ t.heap.size → (∀ q : Nat, q < H.size → t.heap[q]? = H[q]?) → XC nse s t) (hf : ∀ z ∈ locs, free z.base) (hc : cells + 1 ≤ mc) (hs : slots + 6 ≤ ms) :
    W p l e R s m args below meth c H locs cells slots (vx_MQ below Qc XC args s mc ms free) (F0 m pc ls rest) := by
  intro T hT X
  have htr : e.platform.stackTraces = false := (show e.platform.stackTraces = l.stackTraces by rw [X.admits.platform]).trans hl
  have Y := vx_rebase X (R' := { frames := R.frames, locals := R.locals, cells := 1, slots := 6 }) (Nat.le_refl _) (Nat.le_refl _) hRc hRs
  obtain ⟨s', hA⟩ : ∃ z, z = (T.setVm s.vm).setFrames (.invoking m args :: below) := ⟨_, rfl⟩
  rw [← hA] at Y
  have hvm : s'.vm = s.vm := by rw [hA]; rfl
  have hhp : s'.heap = H := by rw [hA]; exact hT
  have hW0 : s.WarmedH s'.vm := by rw [hvm]; exact State.WarmedH.refl s
  have hat' : ∀ w ∈ Cond.classLink RX11 170 nse :: Cond.initialized nse :: nxL, w.before args s' = true := fun w hw => vx_ot_at hW0 hvm.symm (nx_ot w hw) (hat w hw)
  have hU' : vx_Zq Bundle.tN "UNASSIGNED_STACK" Bundle.steD A s' s'.heap := by rw [hhp]; exact vx_Zq.moved hW0.alike (hU.kept hS.2.1)
  have hN' : vx_Zq Bundle.tN "SUPPRESSED_SENTINEL" Bundle.listD A s' s'.heap := by rw [hhp]; exact vx_Zq.moved hW0.alike (hN.kept hS.2.1)
  have h : ∀ w ∈ nxA RX11 174, w.before args s' = true := vx_own (fun w hw => hat' w (List.mem_cons_of_mem _ (List.mem_cons_of_mem _ hw))) (vx_isRefq hU'.1) (vx_isRefq hN'.1) hU'.2.word hN'.2.word
  have hown' : s'.vm.findClass RX11 = some m.cls := by rw [hvm]; exact hown
  have hins : (Cond.instantiable nse 6).before args s' = true := h _ (by simp [nxA])
  obtain ⟨vm₁, cX, kX, hfX, hkX, -, -, X₁, st1⟩ := Y.newCold hexec (own := RX11) (C := nse) (index := 170) (n := 6) hown' (hat' _ List.mem_cons_self) hins (hat' _ (List.mem_cons_of_mem _ List.mem_cons_self))
    (g := F0 m pc ls rest) rfl (by rw [hb]; exact d0) (Nat.le_refl _) (Nat.le_refl _)
  generalize hT1 : (T.setVm vm₁).pushCell { cls := cX, slots := kX.instanceTypes.map defaultValue, vm := .none } = T1 at X₁ st1
  have hcat : (Value.ref T.heap.size).category = 1 := rfl
  have hcellA : T1.heap[T.heap.size]? = some (freshCell cX kX) := by rw [← hT1]; exact State.heap_pushCell_size _ _
  have d3' : decode c.code (pc + 3) = .ok (.dup, 1) := by rw [hb]; exact d3
  have d4' : decode c.code (pc + 4) = .ok (.ldc is, 2) := by rw [hb]; exact d4
  have hstr' : vk_R RX11 is text sa s' := vk_R.warm hW0 hstr
  obtain ⟨U, hsteps, hrun, hend, hW, hsame, ce, hce, hcc, hcv⟩ := nx_ctor X₁ hexec htr (own := RX11) (ic := 174) hown' h (fun x hx => nomatch hx) hfX hkX hcellA (by rw [hhp, hT]; exact Nat.le_refl _) (msg := .ref sa) rfl
    (g := { method := m, pc := pc + 6, locals := ls, stack := .ref sa :: .ref T.heap.size :: .ref T.heap.size :: rest, locked := none }) rfl hsize rfl rfl (rest := rest) rfl
    (by rw [hb]; exact d6) (by rw [hb]; exact d9) hout hRf (by simp only [List.map_cons, List.sum_cons, hcat]; show 2 * 0 + (1 + _) + 81 ≤ R.locals; omega) hlocks
  obtain ⟨f1, f2⟩ := vx_frame hsame
  rw [hhp] at f1 f2
  have hWs : s.WarmedH U.vm := State.WarmedH.trans hW0 hW
  have hcl : s.vm.findClass nse = some ce.cls := by rw [hcc, ← hvm]; exact hfX
  have hall : s.sameButNew ({ U with vm := s.vm } : State) locs mc ms := by
    subst hA
    obtain ⟨e1, e2⟩ := hsame
    rw [State.setFrames_setFrames] at e1
    have h2 : (T.setVm s.vm).sameButNew ({ U with vm := s.vm } : State) [] (0 + 1) (0 + 6) := ⟨e1, e2⟩
    have h3 := X.same.trans h2
    rw [List.append_nil] at h3
    exact h3.mono hc hs
  refine ⟨U, ?_, .threw T.heap.size, hrun, hend, Or.inr ⟨T.heap.size, rfl, nse, ce, locs, hx U hWs.alike f1 (fun q hq => f2 q hq (fun z hz => nomatch hz)), hce, hcv, hcl, hWs, hall, hf⟩⟩
  refine st1 _ ?_
  show Steps p.tables e below (T1.setTop { method := m, pc := pc + 3, locals := ls, stack := .ref T.heap.size :: rest, locked := none }) _
  jvm_step X₁.here [X₁.here.top, hexec, d3', Value.category]
  exact X₁.ldcString hexec (own := RX11) (text := text) (index := is) (a := sa) hown' hstr'.1 hstr'.2
    (g := { method := m, pc := pc + 4, locals := ls, stack := .ref T.heap.size :: .ref T.heap.size :: rest, locked := none }) rfl d4' _ hsteps
end NXB
/-! contracts of methods that return an int or throw -/
def Sx (U : State) : Prop := (∃ a, vk_R RX11 172 "no such person" a U) ∧ (∃ a, vk_R RX11 199 "no such person, hours or question" a U) ∧ (∃ a, vk_R RX11 227 "no such company, hours or question" a U) ∧ ∃ a, vk_R RX11 240 "no such bird or person" a U
def Zx (A : Nat → Prop) (U : State) : Prop := (vx_Zq Bundle.tN "UNASSIGNED_STACK" Bundle.steD A U U.heap ∧ vx_Zq Bundle.tN "SUPPRESSED_SENTINEL" Bundle.listD A U U.heap) ∧ DW U ∧ Sx U
theorem Sx.warm {s U : State} (hW : s.WarmedH U.vm) (h : Sx s) : Sx U := by
  obtain ⟨⟨a, h1⟩, ⟨b, h2⟩, ⟨c, h3⟩, d, h4⟩ := h
  exact ⟨⟨a, vk_R.warm hW h1⟩, ⟨b, vk_R.warm hW h2⟩, ⟨c, vk_R.warm hW h3⟩, d, vk_R.warm hW h4⟩
theorem Sx.same {u U : State} (hv : U.vm = u.vm) (h : Sx u) : Sx U := by
  obtain ⟨⟨a, h1⟩, ⟨b, h2⟩, ⟨c, h3⟩, d, h4⟩ := h
  exact ⟨⟨a, vk_R.same hv h1⟩, ⟨b, vk_R.same hv h2⟩, ⟨c, vk_R.same hv h3⟩, d, vk_R.same hv h4⟩
def PreX (D : va_G) (cA : Nat → ClassId) (ad : Nat → Nat) (L : List DS) (M : Mem) (sz : Nat) (U : State) : Prop := PreB D cA ad L M sz U ∧ Zx (Aof cA ad M L sz) U
def BXx (D : va_G) (cA : Nat → ClassId) (ad : Nat → Nat) (A : Nat → Prop) (L : List DS) : String → Mem → State → Prop := fun E u t => E = nse ∧ PostB D cA ad A L u t
def CX (y : MethodName) (b : ByteArray) (n : Nat) (ret : Option FieldType) (lev : Nat) (L : List DS) (as : List AV) (M : Mem) (Qn : Int32 → Mem → Prop) (Px : Mem → Prop) : Prop :=
  ∀ (l : Launch), l.stackTraces = false → ∀ (D : va_G) (cA : Nat → ClassId) (ad : Nat → Nat) (sz : Nat), vx_Met l y (.code y b n ret :: TB) (rmD lev 1 6) (va_Pc (as.map (toV ad)) (PreX D cA ad L M sz)) (va_Qi Qn (PostB D cA ad (Aof cA ad M L sz) L) (Aof cA ad M L sz)) (vx_X Px (BXx D cA ad (Aof cA ad M L sz) L) (Aof cA ad M L sz)) 1 6 (Aof cA ad M L sz)
def RIX (X : Cx) (L : List DS) (Qn : Int32 → Mem → Prop) (Px : Mem → Prop) : Prop := match X with
  | (p, l, e, R, s, m, args, below, meth, c, Q, D, cA, ad, A) => Q = vx_MQ below (va_Qi Qn (PostB D cA ad A L) A) (vx_X Px (BXx D cA ad A L) A) args s 1 6 A
def TX (X : Cx) : Prop := match X with
  | (p, l, e, R, s, m, args, below, meth, c, Q, D, cA, ad, A) => l.stackTraces = false ∧ (∀ x ∈ c.exceptionTable.toList, False) ∧ Zx A s
def SXt (X : Cx) (is : Nat) (text : String) : Prop := match X with
  | (p, l, e, R, s, m, args, below, meth, c, Q, D, cA, ad, A) => ∃ a, vk_R RX11 is text a s
theorem TX.s172 {X : Cx} (h : TX X) : SXt X 172 "no such person" := h.2.2.2.2.1
theorem TX.s199 {X : Cx} (h : TX X) : SXt X 199 "no such person, hours or question" := h.2.2.2.2.2.1
theorem TX.s227 {X : Cx} (h : TX X) : SXt X 227 "no such company, hours or question" := h.2.2.2.2.2.2.1
theorem TX.s240 {X : Cx} (h : TX X) : SXt X 240 "no such bird or person" := h.2.2.2.2.2.2.2
section NXC
variable {X : Cx} {cc : ByteArray} {nL : Nat} {ret : Option FieldType} {lev pc : Nat} {L : List DS} {lv : List (Option AV)} {st : List AV} {M : Mem} {Qn : Int32 → Mem → Prop} {Px : Mem → Prop}
theorem s_throw (hX : Cok X cc RX11 nL ret lev 1 6) (hT : TX X) (hq : RIX X L Qn Px) {is : Nat} {text : String} (hstr : SXt X is text)
    (d0 : decode cc pc = .ok (.new 170, 3)) (d3 : decode cc (pc + 3) = .ok (.dup, 1)) (d4 : decode cc (pc + 4) = .ok (.ldc is, 2)) (d6 : decode cc (pc + 6) = .ok (.invokespecial 174, 3)) (d9 : decode cc (pc + 9) = .ok (.athrow, 1))
    (hlev : 6 ≤ lev) (hlv : lv.length = nL) (hst : (st.map avc).sum ≤ 8) (h : Px M) : Wat X 0 0 L pc lv st M := by
  obtain ⟨p, l, e, R, s, m, args, below, meth, c, Q, D, cA, ad, A⟩ := X
  obtain ⟨⟨hx, hb, hml, hown, hts⟩, hK, hA, hlk, hrt, hR⟩ := hX
  obtain ⟨hl, hout, ⟨hU, hN⟩, hd, -⟩ := hT
  obtain ⟨sa, hstr⟩ := hstr
  have hq : Q = _ := hq
  subst hq
  intro H locs ls hw hll
  have h8 := map_cat8 (ad := ad) hst
  exact nx_throwS (A := A) hx hb hl hown (nx_at hts hd) hstr hU hN hw.2.2 (by rw [hml, ← hlv]; exact hll.1) d0 d3 d4 d6 d9 (fun x hx => (hout x hx).elim) (by omega) (by omega) (by rw [hR.2.2.1]; exact Nat.le_refl _) (by rw [hR.2.2.2]; exact Nat.le_refl _) hlk
    (fun t hW hz hk => ⟨M, h, ⟨rfl, hw.1.kept (fun k q hq => hk _ (vx_lt hw.1 hq)), va_K.moved hW hK, hw.2.1⟩, Nat.le_trans hw.2.2.1 hz, fun q h1 h2 => by rw [hk q (Nat.lt_of_lt_of_le h1 hw.2.2.1)]; exact hw.2.2.2.1 q h1 h2⟩) hw.2.2.2.2 (Nat.le_refl _) (Nat.le_refl _)
theorem s_iretx (hX : Cok X cc RX11 nL ret lev 1 6) (hq : RIX X L Qn Px) {x : Int32} (hrr : ret = some .int) (d : decode cc pc = .ok (.ireturn, 1)) (h : Qn x M) : Wat X 0 0 L pc lv ([vi x]) M := by
  obtain ⟨p, l, e, R, s, m, args, below, meth, c, Q, D, cA, ad, A⟩ := X
  obtain ⟨⟨hx, hb, hml, hown, hts⟩, hK, hA, hlk, hrt, hR⟩ := hX
  intro H locs ls hw hl
  subst hrr
  have hq : Q = _ := hq
  subst hq
  refine W.widen (k := 1) (n := 6) (by omega) (by omega) (vx_ret ?_)
  exact W.iret (v := x) hx hb hrt (fun t ht hW => ⟨⟨x, M, rfl, h, by rw [ht]; exact hw.1, va_K.moved hW.alike hK, hw.2.1⟩, hw.2.2.F ht⟩) hw.2.2.2.2 d hlk
end NXC
