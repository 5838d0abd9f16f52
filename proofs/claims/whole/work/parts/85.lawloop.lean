/-! THE CLAIM OUT OF ONE WALK OF THE LAW'S BODY. Your part is whole_start (and what it stands on); all else here is the same for every law, but numbers. -/
def R_law : String := "CuckooDebtLaw"
def lw_P (b : Addr) (xs : List Int32) (args : Array Value) (s : State) : Prop := args = #[.ref b] ∧ s.IntsAt b xs ∧ xs.length ≤ 3584 ∧ (Jvm.Cond.and given_1 narrow_1).before args s = true
def lw_Q (_ : Array Value) (s : State) (o : Outcome) (t : State) : Prop := o = .returned (some (.int 1)) ∧ Framed s o t [] 601024 7293034
def lw_Z (below : List Frame) (a : Array Value) (s : State) : State → Prop := fun t => ∃ o, t.status = .running ∧ Ended t below o ∧ lw_Q a s o t
/-- the law's own end, with 1 on the stack, nothing written that was there before, its room as the claim has it -/
theorem lw_ret {p : Program} {l : Launch} {e : Env} {s : State} {m : MethodId} {below : List Frame} {meth : Method} {c : Code} {b : Nat} (hx : p.tables.exec = Jvm.exec) (hb : c.code = code) (hr : meth.sig.returnType = ret) (hlocks : meth.locks = false) {pc : Nat} {H : Heap} {ls : Array Slot} (hdg : decode code pc = .ok (.ireturn, 1)) : W p l e room_1 s m #[Value.ref b] below meth c H [] 601024 7293034 (lw_Z below #[Value.ref b] s) (F0 m pc ls [.int 1]) := by
  intro T hT X
  obtain ⟨fs, hret, hrun, hended, hW, hframe⟩ := X.leave (v := some (.int 1)) (hlocks := hlocks) (fun h => by rw [hr] at h; cases h)
  have hmeth' : T.vm.method? m = some meth := X.method'
  refine ⟨T.setFrames fs, ?_, .returned (some (.int 1)), hrun, hended, rfl, ⟨_, rfl⟩, hW, hframe⟩
  jvm_step X.here [X.here.top, hx, hb, hdg, hmeth', hr, ret, narrow_b1]
  (try refine ⟨rfl, ?_⟩); (try refine ⟨rfl, ?_⟩)
  first | (intro acts; rw [hret _ acts rfl rfl rfl]) | rw [hret _ _ rfl rfl rfl]
  exact Steps.refl _
/-- what holds at the law's entry: the machine, the code, the tables' words (any of lw_tbl by 'hts w (by decide +kernel)'), the script of L ints xs at the cell b, what the Statement gives of the start (any of its parts by flat_of_before) -/
def lw_At (p : Program) (s : State) (m : MethodId) (meth : Method) (c : Code) (b L : Nat) (xs : Nat → Int32) : Prop :=
  p.tables.exec = Jvm.exec ∧ c.code = code ∧ meth.sig.returnType = ret ∧ c.maxLocals = 7 ∧ s.vm.findClass R_law = some m.cls ∧ (∀ w ∈ lw_tbl, w.before #[Value.ref b] s = true) ∧ va_X b L xs s s.heap ∧ b < s.heap.size ∧ meth.locks = false ∧ (Jvm.Cond.and given_1 narrow_1).before #[Value.ref b] s = true
/-! the law's loop -/
theorem g_step {X : Cx} {c0 s0 cells slots n i : Nat} {f : Nat → Int32} (G : GX X c0 s0 n f cells slots i) {M : Mem} (hR : Rel M) (kk : ∀ M', Rel M' → Wat X (cells + 1) (slots + 6) LY 1298 (lvL i) [] M') : ∀ t, t < 32 → Wat X cells slots LY 40 (lvL i) [vi (nI t)] M := by
  intro t ht
  match t, ht with
  | 0, _ => exact s_tableIn (x := nI 0) (off := 112) (tgt := 152) G.1 dL_law_40 (by decide) (by decide) rfl (by decide) (g_feed G hR kk)
  | 1, _ => exact s_tableIn (x := nI 1) (off := 259) (tgt := 299) G.1 dL_law_40 (by decide) (by decide) rfl (by decide) (g_hills G hR kk)
  | 2, _ => exact s_tableIn (x := nI 2) (off := 272) (tgt := 312) G.1 dL_law_40 (by decide) (by decide) rfl (by decide) (g_person G hR kk)
  | 3, _ => exact s_tableIn (x := nI 3) (off := 309) (tgt := 349) G.1 dL_law_40 (by decide) (by decide) rfl (by decide) (g_place G hR kk)
  | 4, _ => exact s_tableIn (x := nI 4) (off := 346) (tgt := 386) G.1 dL_law_40 (by decide) (by decide) rfl (by decide) (g_bird G hR kk)
  | 5, _ => exact s_tableIn (x := nI 5) (off := 383) (tgt := 423) G.1 dL_law_40 (by decide) (by decide) rfl (by decide) (g_calls G hR kk)
  | 6, _ => exact s_tableIn (x := nI 6) (off := 420) (tgt := 460) G.1 dL_law_40 (by decide) (by decide) rfl (by decide) (g_entry G hR kk)
  | 7, _ => exact s_tableIn (x := nI 7) (off := 497) (tgt := 537) G.1 dL_law_40 (by decide) (by decide) rfl (by decide) (g_owed G hR kk)
  | 8, _ => exact s_tableIn (x := nI 8) (off := 534) (tgt := 574) G.1 dL_law_40 (by decide) (by decide) rfl (by decide) (g_balance G hR kk)
  | 9, _ => exact s_tableIn (x := nI 9) (off := 590) (tgt := 630) G.1 dL_law_40 (by decide) (by decide) rfl (by decide) (g_call G hR kk)
  | 10, _ => exact s_tableIn (x := nI 10) (off := 639) (tgt := 679) G.1 dL_law_40 (by decide) (by decide) rfl (by decide) (g_shoot G hR kk)
  | 11, _ => exact s_tableIn (x := nI 11) (off := 692) (tgt := 732) G.1 dL_law_40 (by decide) (by decide) rfl (by decide) (g_undo G hR kk)
  | 12, _ => exact s_tableIn (x := nI 12) (off := 705) (tgt := 745) G.1 dL_law_40 (by decide) (by decide) rfl (by decide) (g_stand G hR kk)
  | 13, _ => exact s_tableIn (x := nI 13) (off := 797) (tgt := 837) G.1 dL_law_40 (by decide) (by decide) rfl (by decide) (g_played G hR kk)
  | 14, _ => exact s_tableIn (x := nI 14) (off := 846) (tgt := 886) G.1 dL_law_40 (by decide) (by decide) rfl (by decide) (g_picnic G hR kk)
  | 15, _ => exact s_tableIn (x := nI 15) (off := 938) (tgt := 978) G.1 dL_law_40 (by decide) (by decide) rfl (by decide) (g_netted G hR kk)
  | 16, _ => exact s_tableIn (x := nI 16) (off := 951) (tgt := 991) G.1 dL_law_40 (by decide) (by decide) rfl (by decide) (g_without G hR kk)
  | 17, _ => exact s_tableIn (x := nI 17) (off := 1019) (tgt := 1059) G.1 dL_law_40 (by decide) (by decide) rfl (by decide) (g_told G hR kk)
  | 18, _ => exact s_tableIn (x := nI 18) (off := 1056) (tgt := 1096) G.1 dL_law_40 (by decide) (by decide) rfl (by decide) (g_sang G hR kk)
  | 19, _ => exact s_tableIn (x := nI 19) (off := 1081) (tgt := 1121) G.1 dL_law_40 (by decide) (by decide) rfl (by decide) (g_song G hR kk)
  | 20, _ => exact s_tableIn (x := nI 20) (off := 1130) (tgt := 1170) G.1 dL_law_40 (by decide) (by decide) rfl (by decide) (g_wooden G hR kk)
  | 21, _ => exact s_tableIn (x := nI 21) (off := 1155) (tgt := 1195) G.1 dL_law_40 (by decide) (by decide) rfl (by decide) (g_june G hR kk)
  | 22, _ => exact s_tableIn (x := nI 22) (off := 1180) (tgt := 1220) G.1 dL_law_40 (by decide) (by decide) rfl (by decide) (g_mark G hR kk)
  | 23, _ => exact s_tableIn (x := nI 23) (off := 1233) (tgt := 1273) G.1 dL_law_40 (by decide) (by decide) rfl (by decide) (g_count G hR kk)
  | t + 24, ht => exact s_tableOut (tgt := 1298) G.1 dL_law_40 (Or.inr (by rw [nI_toInt (by omega)]; omega)) (by decide) (s_widen (by omega) (by omega) (kk M hR))
theorem g_loop {X : Cx} {c0 s0 n : Nat} {f : Nat → Int32} (hX : Cok X cL_law RL 7 (some .boolean) 1000 c0 s0) (hT : TXl X) (hS : SCR X n f) (hn : n ≤ 3584) (fin : ∀ cells slots i M, cells ≤ c0 → slots ≤ s0 → Wat X cells slots LY 1304 (lvL i) [] M) :
    ∀ (k i cells slots : Nat) (M : Mem), n ≤ i + 7 * k → i ≤ n + 7 → cells + k ≤ c0 → slots + 6 * k ≤ s0 → Rel M → Wat X cells slots LY 23 (lvL i) [] M := by
  intro k
  induction k with
  | zero =>
    intro i cells slots M h1 h2 h3 h4 hR
    refine s_iload hX dL_law_23 rfl ?_
    refine s_aload_n hX dL_law_25 rfl ?_
    refine s_slen hX hS dL_law_26 ?_
    refine s_bipush (v := nI 7) hX dL_law_27 rfl ?_
    refine s_isub hX dL_law_29 ?_
    refine s_icmp_gt (tgt := 1304) hX dL_law_30 (by decide) (fun _ => fin _ _ _ _ (by omega) (by omega)) (fun c => absurd ?_ c)
    rw [fa_lt, fb_subI (by rw [nI_toInt (by omega), nI_toInt (by omega)]; omega) (by rw [nI_toInt (by omega), nI_toInt (by omega)]; omega), nI_toInt (by omega), nI_toInt (by omega), nI_toInt (by omega)]
    omega
  | succ k ih =>
    intro i cells slots M h1 h2 h3 h4 hR
    refine s_iload hX dL_law_23 rfl ?_
    refine s_aload_n hX dL_law_25 rfl ?_
    refine s_slen hX hS dL_law_26 ?_
    refine s_bipush (v := nI 7) hX dL_law_27 rfl ?_
    refine s_isub hX dL_law_29 ?_
    refine s_icmp_gt (tgt := 1304) hX dL_law_30 (by decide) (fun _ => fin _ _ _ _ (by omega) (by omega)) (fun c => ?_)
    rw [fa_lt, fb_subI (by rw [nI_toInt (by omega), nI_toInt (by omega)]; omega) (by rw [nI_toInt (by omega), nI_toInt (by omega)]; omega), nI_toInt (by omega), nI_toInt (by omega), nI_toInt (by omega)] at c
    have hi : i + 7 ≤ n := by omega
    refine s_aload_n hX dL_law_33 rfl ?_
    refine s_iload hX dL_law_34 rfl ?_
    refine s_sld hX hS (j := i) (by omega) (by omega) rfl dL_law_36 ?_
    refine s_bipush (v := 31) hX dL_law_37 rfl ?_
    refine s_iand hX dL_law_39 ?_
    rw [pk_and (f i) (m := 31) 5 (by decide)]
    refine g_step (n := n) (f := f) ⟨hX, hT, hS, hi, hn, by omega, by omega⟩ hR (fun M1 hR1 => ?_) _ (Nat.mod_lt _ (by decide))
    refine s_iinc (v := nI (i + 7)) (lv' := lvL (i + 7)) hX dL_law_1298 rfl (nI_add i 7) rfl rfl ?_
    refine s_goto (tgt := 23) hX dL_law_1301 (by decide) ?_
    exact ih (i + 7) (cells + 1) (slots + 6) M1 (by omega) (by omega) (by omega) (by omega) hR1
