/-! from the law's entry -/
theorem tb_hts {args : Array Value} {s : State} (hts : ∀ w ∈ lw_tbl, w.before args s = true) : ∀ w ∈ TB, w.before args s = true := fun w hw => hts w (List.mem_filter.mp hw).1
theorem in_1 {w : Cond} (i : Nat) (h : tables_1_1[i]? = some w) : w ∈ lw_tbl := List.mem_append_right _ (List.mem_append_left _ (List.mem_of_getElem? h))
theorem in_2 {w : Cond} (i : Nat) (h : tables_1_2[i]? = some w) : w ∈ lw_tbl := List.mem_append_right _ (List.mem_append_right _ (List.mem_append_left _ (List.mem_of_getElem? h)))
theorem in_5 {w : Cond} (i : Nat) (h : tables_1_5[i]? = some w) : w ∈ lw_tbl := List.mem_append_right _ (List.mem_append_right _ (List.mem_append_right _ (List.mem_append_right _ (List.mem_append_right _ (List.mem_append_left _ (List.mem_of_getElem? h))))))
theorem ar_int {args : Array Value} {s : State} (h : (Cond.arrayClass .int).before args s = true) : ∃ c, ArrOfT s c .int ∧ va_RA s c .int := by
  obtain ⟨c, k, comp, h1, h2, h3⟩ := Cond.arrayClass_spec h
  exact ⟨c, fun n z => ⟨fun k h => (by cases h), k, h2, comp, h3⟩, h1⟩
theorem ar_long {args : Array Value} {s : State} (h : (Cond.arrayClass .long).before args s = true) : ∃ c, ArrOfT s c .long ∧ va_RA s c .long := by
  obtain ⟨c, k, comp, h1, h2, h3⟩ := Cond.arrayClass_spec h
  exact ⟨c, fun n z => ⟨fun k h => (by cases h), k, h2, comp, h3⟩, h1⟩
theorem ar_char {args : Array Value} {s : State} (h : (Cond.arrayClass .char).before args s = true) : ∃ c, ArrOfT s c .char ∧ va_RA s c .char := by
  obtain ⟨c, k, comp, h1, h2, h3⟩ := Cond.arrayClass_spec h
  exact ⟨c, fun n z => ⟨fun k h => (by cases h), k, h2, comp, h3⟩, h1⟩
theorem ar_bool {args : Array Value} {s : State} (h : (Cond.arrayClass .boolean).before args s = true) : ∃ c, ArrOfT s c .boolean ∧ va_RA s c .boolean := by
  obtain ⟨c, k, comp, h1, h2, h3⟩ := Cond.arrayClass_spec h
  exact ⟨c, fun n z => ⟨fun k h => (by cases h), k, h2, comp, h3⟩, h1⟩
theorem ar_obj {C : String} {args : Array Value} {s : State} (h : (Cond.arrayOver (.object C)).before args s = true) : ∃ c, ArrOfT s c (.object C) ∧ va_RA s c (.object C) := by
  obtain ⟨comp, c, k, h1, h2, h3, h4, h5⟩ := Cond.arrayOver_spec h
  exact ⟨c, fun n z => ⟨fun k h => (by cases h), k, h3, comp, h4⟩, k, comp, h3, h4, h1, h5⟩
theorem kn_all {args : Array Value} {s : State} (hts : ∀ w ∈ TB, w.before args s = true) : ∃ D : va_G, ∀ (c : Nat) (q : vw_C), cls[c]? = some q → u_Kn s q.1 q.2.1 q.2.2 (D.1 c) (D.2 c) := by
  have h0 : ∀ c : Nat, ∃ d : ClassId × (Nat → Nat), ∀ q : vw_C, cls[c]? = some q → u_Kn s q.1 q.2.1 q.2.2 d.1 d.2 := by
    intro c
    match c with
    | 0 => obtain ⟨a, b, h⟩ := u_known (C := RX0) (T := TX0) (N := 9) (n := 9) hts fw_X0 (hts _ wd_it_X0); exact ⟨(a, b), fun q hq => by cases hq; exact h⟩
    | 1 => obtain ⟨a, b, h⟩ := u_known (C := RX1) (T := TX1) (N := 3) (n := 3) hts fw_X1 (hts _ wd_it_X1); exact ⟨(a, b), fun q hq => by cases hq; exact h⟩
    | 2 => obtain ⟨a, b, h⟩ := u_known (C := RX2) (T := TX2) (N := 10) (n := 10) hts fw_X2 (hts _ wd_it_X2); exact ⟨(a, b), fun q hq => by cases hq; exact h⟩
    | 3 => obtain ⟨a, b, h⟩ := u_known (C := RX3) (T := TX3) (N := 4) (n := 4) hts fw_X3 (hts _ wd_it_X3); exact ⟨(a, b), fun q hq => by cases hq; exact h⟩
    | 4 => obtain ⟨a, b, h⟩ := u_known (C := RX4) (T := TX4) (N := 5) (n := 5) hts fw_X4 (hts _ wd_it_X4); exact ⟨(a, b), fun q hq => by cases hq; exact h⟩
    | 5 => obtain ⟨a, b, h⟩ := u_known (C := RX5) (T := TX5) (N := 14) (n := 14) hts fw_X5 (hts _ wd_it_X5); exact ⟨(a, b), fun q hq => by cases hq; exact h⟩
    | 6 => obtain ⟨a, b, h⟩ := u_known (C := RX6) (T := TX6) (N := 5) (n := 5) hts fw_X6 (hts _ wd_it_X6); exact ⟨(a, b), fun q hq => by cases hq; exact h⟩
    | 7 => obtain ⟨a, b, h⟩ := u_known (C := RX7) (T := TX7) (N := 3) (n := 3) hts fw_X7 (hts _ wd_it_X7); exact ⟨(a, b), fun q hq => by cases hq; exact h⟩
    | 8 => obtain ⟨a, b, h⟩ := u_known (C := RX8) (T := TX8) (N := 11) (n := 11) hts fw_X8 (hts _ wd_it_X8); exact ⟨(a, b), fun q hq => by cases hq; exact h⟩
    | 9 => obtain ⟨a, b, h⟩ := u_known (C := RX9) (T := TX9) (N := 9) (n := 9) hts fw_X9 (hts _ wd_it_X9); exact ⟨(a, b), fun q hq => by cases hq; exact h⟩
    | 10 => obtain ⟨a, b, h⟩ := u_known (C := RX10) (T := TX10) (N := 10) (n := 10) hts fw_X10 (hts _ wd_it_X10); exact ⟨(a, b), fun q hq => by cases hq; exact h⟩
    | 11 => obtain ⟨a, b, h⟩ := u_known (C := RX11) (T := TX11) (N := 12) (n := 12) hts fw_X11 (hts _ wd_it_X11); exact ⟨(a, b), fun q hq => by cases hq; exact h⟩
    | 12 => obtain ⟨a, b, h⟩ := u_known (C := RX12) (T := TX12) (N := 41) (n := 41) hts fw_X12 (hts _ wd_it_X12); exact ⟨(a, b), fun q hq => by cases hq; exact h⟩
    | c + 13 => exact ⟨(0, fun _ => 0), fun q hq => by simp [cls] at hq⟩
  obtain ⟨d, hd⟩ := Classical.axiomOfChoice h0
  exact ⟨(fun c => (d c).1, fun c => (d c).2), hd⟩
theorem K_all {args : Array Value} {s : State} (hts : ∀ w ∈ lw_tbl, w.before args s = true) : ∃ (D : va_G) (cA : Nat → ClassId), va_K D cls (tys cA) s := by
  have ht := tb_hts hts
  obtain ⟨D, hD⟩ := kn_all ht
  obtain ⟨c0, h0⟩ := ar_int (ht _ wd_ac_int)
  obtain ⟨c1, h1⟩ := ar_long (ht _ wd_ac_long)
  obtain ⟨c2, h2⟩ := ar_char (ht _ wd_ac_char)
  obtain ⟨c3, h3⟩ := ar_bool (ht _ wd_ac_boolean)
  obtain ⟨c4, h4⟩ := ar_obj (C := "CuckooDebt$Deeds") (hts _ (in_2 106 rfl))
  refine ⟨D, fun k => if k = 0 then c0 else if k = 1 then c1 else if k = 2 then c2 else if k = 3 then c3 else c4, hD, fun k q hq => ?_⟩
  match k, hq with
  | 0, hq => cases hq; exact h0
  | 1, hq => cases hq; exact h1
  | 2, hq => cases hq; exact h2
  | 3, hq => cases hq; exact h3
  | 4, hq => cases hq; exact h4
  | k + 5, hq => simp [tys] at hq
abbrev flN : List Cond := flatC (Jvm.Cond.and given_1 narrow_1)
theorem fl_el : ∀ j, j < 108 → flN[28 + j]? = some (Cond.eq (.elem (.field (.string RX10 19) "java/lang/String" "value" "[B") (.int (Int32.ofNat j))) (.int (kb j))) := by decide +kernel
theorem fl_ex : flN[24]? = some (Cond.exactly (.string RX10 19) "java/lang/String") ∧ flN[25]? = some (Cond.eq (.field (.string RX10 19) "java/lang/String" "coder" "B") (.int 0)) ∧ flN[26]? = some (Cond.arrayOf (.field (.string RX10 19) "java/lang/String" "value" "[B") .byte) ∧ flN[27]? = some (Cond.eq (.length (.field (.string RX10 19) "java/lang/String" "value" "[B")) (.int (Int32.ofNat 108))) := by decide +kernel
theorem fl_st : flN[4]? = some (Cond.eq (.static strN "COMPACT_STRINGS" "Z") (.int 1)) ∧ flN[5]? = some (Cond.isRef (.static preN "SIOOBE_FORMATTER" bifD)) ∧ flN[9]? = some (Cond.isRef (.static Bundle.tN "UNASSIGNED_STACK" Bundle.steD)) ∧ flN[10]? = some (Cond.isRef (.static Bundle.tN "SUPPRESSED_SENTINEL" Bundle.listD)) := by decide +kernel
theorem fl_tx : flN[136]? = some (Cond.exactly (.string RX11 172) "java/lang/String") ∧ flN[155]? = some (Cond.exactly (.string RX11 199) "java/lang/String") ∧ flN[194]? = some (Cond.exactly (.string RX11 227) "java/lang/String") ∧ flN[235]? = some (Cond.exactly (.string RX11 240) "java/lang/String") := by decide +kernel
theorem tx_of {args : Array Value} {s : State} {own tx : String} {k : Nat} (h1 : (Cond.stringRef own k tx).before args s = true) (h2 : (Cond.exactly (.string own k) "java/lang/String").before args s = true) : ∃ a, vk_R own k tx a s := by
  obtain ⟨a, c, cA, kA, q1, -⟩ := Cond.exactly_spec (args := args) (first := s) (o := none) (s := s) (idx := []) h2
  exact ⟨a, vk_R.of h1 q1⟩
theorem dw_of {args : Array Value} {s : State} (hts : ∀ w ∈ lw_tbl, w.before args s = true) : DW s := by
  have tr : ∀ {w : Cond}, w.onTables = true → w.before args s = true → w.before #[] s = true := fun hw h => va_Nw.of hw h
  intro w hw
  unfold dwL at hw
  simp only [List.mem_cons, List.not_mem_nil, or_false] at hw
  rcases hw with rfl | rfl | rfl | rfl
  · exact tr rfl (hts _ (in_5 45 rfl))
  · exact tr rfl (hts _ (in_5 47 rfl))
  · exact tr rfl (hts _ (in_5 49 rfl))
  · exact tr rfl (hts _ (in_5 43 rfl))
theorem zx_of {args : Array Value} {s : State} (hts : ∀ w ∈ lw_tbl, w.before args s = true) (hgv : (Jvm.Cond.and given_1 narrow_1).before args s = true) : Zx (fun q => s.heap.size ≤ q) s := by
  have hs := flat_of_before _ hgv
  have hA : ∀ a : Nat, a < s.heap.size → ¬ s.heap.size ≤ a := fun a h => Nat.not_le.mpr h
  have fm : ∀ {w : Cond} {i : Nat}, flN[i]? = some w → w.before args s = true := fun h => hs _ (List.mem_of_getElem? h)
  refine ⟨⟨vx_Zqof (hts _ (in_5 68 rfl)) (hts _ (in_1 21 rfl)) (fm fl_st.2.2.1) hA, vx_Zqof (hts _ (in_5 70 rfl)) (hts _ (in_1 21 rfl)) (fm fl_st.2.2.2) hA⟩, dw_of hts, tx_of (hts _ (in_5 80 rfl)) (fm fl_tx.1), tx_of (hts _ (in_5 113 rfl)) (fm fl_tx.2.1), tx_of (hts _ (in_5 129 rfl)) (fm fl_tx.2.2.1), tx_of (hts _ (in_5 142 rfl)) (fm fl_tx.2.2.2)⟩
theorem ex_of {args : Array Value} {s : State} {b : Nat} (hts : ∀ w ∈ lw_tbl, w.before args s = true) (hgv : (Jvm.Cond.and given_1 narrow_1).before args s = true) : ∃ ad : Nat → Nat, ad 95 = b ∧ Ex (fun q => s.heap.size ≤ q) ad s := by
  have hs := flat_of_before _ hgv
  have hA : ∀ a : Nat, a < s.heap.size → ¬ s.heap.size ≤ a := fun a h => Nat.not_le.mpr h
  have fm : ∀ {w : Cond} {i : Nat}, flN[i]? = some w → w.before args s = true := fun h => hs _ (List.mem_of_getElem? h)
  obtain ⟨adK, adV, hS, hev⟩ := vk_Sof (args := args) (s := s) (N := 1) (tm := fun _ => .string RX10 19) (len := [108]) (byt := [kbL]) (A := fun q => s.heap.size ≤ q)
    (fun i hi => by
      have : i = 0 := by omega
      subst this
      decide)
    (fun _ _ => fm fl_ex.1) (fun _ _ => fm fl_ex.2.1) (fun _ _ => fm fl_ex.2.2.1)
    (fun i hi => by
      have : i = 0 := by omega
      subst this
      exact fm fl_ex.2.2.2)
    (fun i hi j hj => by
      have : i = 0 := by omega
      subst this
      exact fm (fl_el j hj))
    (fun i j hi hj h => absurd (show i = j by omega) h) hA
  obtain ⟨t1, t2, t3, t4⟩ := hS.1 0 (by decide)
  have hz : va_Zq preN "SIOOBE_FORMATTER" bifD (fun q => s.heap.size ≤ q) s s.heap := va_Zqof (hts _ (in_1 66 rfl)) (hts _ (in_1 5 rfl)) (fm fl_st.2.1) hA
  have hc : va_Z strN "COMPACT_STRINGS" "Z" (.int 1) (fun q => s.heap.size ≤ q) s s.heap := va_Zof (hts _ (in_1 50 rfl)) (hts _ (in_1 3 rfl)) (va_eqt (fm fl_st.1)) hA
  have hr : vk_R RX10 19 kwT (adK 0) s := vk_R.of (hts _ (in_1 40 rfl)) (hev 0 (by decide))
  have ho : va_AO "CuckooDebt$Deeds" s := va_AO.of (hts _ (in_2 106 rfl))
  have hn : va_Nw (.methodLinkNest RX11 48 yX3_init RX11) s := va_Nw.of rfl (hts _ (in_2 109 rfl))
  obtain ⟨f, hf⟩ : ∃ f : Nat, va_Z preN "SIOOBE_FORMATTER" bifD .null (fun q => s.heap.size ≤ q) s s.heap ∨ va_Z preN "SIOOBE_FORMATTER" bifD (.ref f) (fun q => s.heap.size ≤ q) s s.heap := by
    rcases hz with h | ⟨t, h⟩
    · exact ⟨0, Or.inl h⟩
    · exact ⟨t, Or.inr h⟩
  exact ⟨fun k => if k = 95 then b else if k = 96 then adK 0 else if k = 97 then adV 0 else f, rfl, ⟨t1, t2, t3, t4, hc, hf⟩, ho, hr, hn⟩
/-- **from the entry, for every script of at most 3584 ints, the law comes to its end with true** -/
theorem whole_start {p : Program} {e : Env} {s : State} {m : MethodId} {below : List Frame} {meth : Method} {c : Code} (l : Launch) (hst : l.stackTraces = false) {b L : Nat} {xs : Nat → Int32} (hL : L ≤ 3584) (C0 : lw_At p s m meth c b L xs) : W p l e room_1 s m #[Value.ref b] below meth c s.heap [] 0 0 (lw_Z below #[Value.ref b] s) (entryFrame m ([Value.ref b] : List Value).toArray 7) := by
  obtain ⟨hx, hb, hr, hml, hown, hts, hX, hbl, hlocks, hgv⟩ := C0
  obtain ⟨D, cA, hK⟩ := K_all hts
  obtain ⟨ad, e95, hE⟩ := ex_of (b := b) hts hgv
  have hw := g_pro (X := (p, l, e, room_1, s, m, #[Value.ref b], below, meth, c, lw_Z below #[Value.ref b] s, D, cA, ad, fun q => s.heap.size ≤ q)) (n := L) (f := xs) ⟨⟨hx, hb, hml, hown, tb_hts hts⟩, hK, fun q h => h, hlocks, hr, by decide, by decide, rfl, rfl⟩ hE ⟨hst, zx_of hts hgv⟩ ⟨rfl, ⟨b, rfl⟩, rfl, fun q h => h⟩ ⟨by rw [e95]; exact hX, by rw [e95]; exact hbl, by rw [e95]; exact Nat.not_le.mpr hbl⟩ hL made
  have hle := lv_entry ([.ref b]) (n := 7) (Nat.le_of_ble_eq_true rfl)
  rw [lg_entry_eq]
  refine hw s.heap [] _ ⟨nilP, nilD, va_S.rf⟩ ⟨hle.1, hle.2.1, fun q hq => hle.2.2 q ?_⟩
  have hq : q ∈ [((0 : Nat), Value.ref (ad 95))] := hq
  rw [e95] at hq
  exact hq
