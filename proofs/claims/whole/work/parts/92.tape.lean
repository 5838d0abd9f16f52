/-! the tape's own constructor: its table of words out of the text -/
def kwW : Nat → Nat
  | 0 => 0
  | j + 1 => if cAt j = 32 then kwW j + 1 else kwW j
def kwF : Nat → Nat → Int64
  | 0 => fun _ => 0
  | j + 1 => if cAt j = 32 then kwF j else vp_updL (kwF j) (kwW j) ((kwF j (kwW j) <<< ((5 : Int32).toInt64 &&& 63)) + (cAt j - 97 + 1).toInt64)
theorem kwW_lt : ∀ j, j < 109 → kwW j < 24 := by decide +kernel
theorem sla_0 {M : Mem} {k : Nat} (h : M.2 k = fun _ => 0) : sla M k (fun _ => 0) = M := by
  refine Prod.ext rfl ?_
  funext q
  show (if q = k then (fun _ => 0) else M.2 q) = M.2 q
  by_cases hq : q = k
  · rw [if_pos hq, hq, h]
  · rw [if_neg hq]
theorem sla_at {M : Mem} {k : Nat} {f : Nat → Int64} : (sla M k f).2 k = f := if_pos rfl
theorem sl_sla {M : Mem} {k j : Nat} {f : Nat → Int64} {v : Int64} : sl (sla M k f) k j v = sla M k (vp_updL f j v) := by
  refine Prod.ext rfl ?_
  funext q
  show (if q = k then vp_updL ((sla M k f).2 k) j v else (if q = k then f else M.2 q)) = (if q = k then vp_updL f j v else M.2 q)
  rw [sla_at]
  by_cases hq : q = k
  · rw [if_pos hq, if_pos hq]
  · rw [if_neg hq, if_neg hq, if_neg hq]
theorem t_kw {X : Cx} {c0 s0 cells slots : Nat} {L : List DS} {fs : List FD} {M : Mem} (hX : Cok X cX10_init RX10 4 none 5 c0 s0) (hT : TE X) (hcs : cells ≤ c0 ∧ slots ≤ s0) (hk : L[c_tape]? = some (.inl (10, fs))) (hj9 : fs[9]? = some (.inr (some c_tape_keywords))) (hkw : L[c_tape_keywords]? = some (.inr (1, 24, [])))
    (fin : ∀ l3, Wat X cells slots L 87 [some (vr c_tape), some (vi (nI (kwW 108))), some (vi (nI 108)), l3] [] (sla M c_tape_keywords (kwF 108))) :
    ∀ (n j : Nat) (l3 : Option AV), (∀ x, l3 ≠ some (vl x)) → j + n = 108 → Wat X cells slots L 25 [some (vr c_tape), some (vi (nI (kwW j))), some (vi (nI j)), l3] [] (sla M c_tape_keywords (kwF j)) := by
  intro n
  induction n with
  | zero =>
    intro j l3 _ hj
    obtain rfl : j = 108 := by omega
    refine s_iload_n hX dX10_init_25 rfl ?_
    refine s_ldcS hX hT dX10_init_26 ?_
    refine s_ctv (as := []) (rest := [vi (nI 108)]) hX hT.ts c_len mv_len wd_ml_X10_21 dX10_init_28 rfl (Nat.le_of_ble_eq_true rfl) rfl (by decide) hcs ?_
    exact s_icmp_ge (tgt := 87) hX dX10_init_31 (by decide) (fun _ => fin l3) (fun c => absurd (by decide) c)
  | succ n ih =>
    intro j l3 hl3 hj
    have hj8 : j < 108 := by omega
    have hw := kwW_lt j (by omega)
    refine s_iload_n hX dX10_init_25 rfl ?_
    refine s_ldcS hX hT dX10_init_26 ?_
    refine s_ctv (as := []) (rest := [vi (nI j)]) hX hT.ts c_len mv_len wd_ml_X10_21 dX10_init_28 rfl (Nat.le_of_ble_eq_true rfl) rfl (by decide) hcs ?_
    refine s_icmp_ge (tgt := 87) hX dX10_init_31 (by decide) (fun c => absurd c (nI_ge (b := 108) hj8 (by decide))) (fun _ => ?_)
    refine s_ldcS hX hT dX10_init_34 ?_
    refine s_iload_n hX dX10_init_36 rfl ?_
    refine s_ctv (as := [vi (nI j)]) (rest := []) hX hT.ts (c_ch hj8) mv_ch wd_ml_X10_27 dX10_init_37 rfl (Nat.le_of_ble_eq_true rfl) rfl (by decide) hcs ?_
    refine s_istore_n (lv' := [some (vr c_tape), some (vi (nI (kwW j))), some (vi (nI j)), some (vi (cAt j))]) hX dX10_init_40 rfl rfl (Nat.le_of_ble_eq_true rfl) ?_
    refine s_iload_n hX dX10_init_41 rfl ?_
    refine s_bipush (v := 32) hX dX10_init_42 rfl ?_
    have nx := ih (j + 1) (some (vi (cAt j))) (fun x h => by cases h) (by omega)
    have go : ∀ M', M' = sla M c_tape_keywords (kwF (j + 1)) → ∀ w, w = kwW (j + 1) → Wat X cells slots L 81 [some (vr c_tape), some (vi (nI w)), some (vi (nI j)), some (vi (cAt j))] [] M' := by
      intro M' hM w hww
      subst hM
      subst hww
      refine s_iinc (v := nI (j + 1)) (lv' := [some (vr c_tape), some (vi (nI (kwW (j + 1)))), some (vi (nI (j + 1))), some (vi (cAt j))]) hX dX10_init_81 rfl (nI_add j 1) rfl rfl ?_
      exact s_goto (tgt := 25) hX dX10_init_84 (by decide) nx
    refine s_icmp_ne (tgt := 53) hX dX10_init_44 (by decide) (fun c => ?_) (fun c => ?_)
    · refine s_iload_n hX dX10_init_53 rfl ?_
      refine s_bipush (v := nI 24) hX dX10_init_54 rfl ?_
      refine s_icmp_ge (tgt := 81) hX dX10_init_56 (by decide) (fun c => absurd c (nI_ge hw (by decide))) (fun _ => ?_)
      refine s_aload_n hX dX10_init_59 rfl ?_
      refine s_getr hX (show FI RX10 15 10 9 RX10 TX10 10 from ⟨rfl, by decide, fw_X10, wd_fl_X10_15⟩) hk hj9 dX10_init_60 ?_
      refine s_iload_n hX dX10_init_63 rfl ?_
      refine s_aload_n hX dX10_init_64 rfl ?_
      refine s_getr hX (show FI RX10 15 10 9 RX10 TX10 10 from ⟨rfl, by decide, fw_X10, wd_fl_X10_15⟩) hk hj9 dX10_init_65 ?_
      refine s_iload_n hX dX10_init_68 rfl ?_
      refine s_laldv (v := kwF j (kwW j)) hX hkw (vp_in_nI hw (by decide)) dX10_init_69 (by rw [sla_at, nI_clamp (by omega)]) ?_
      refine s_iconst (v := 5) hX dX10_init_70 rfl ?_
      refine s_lshl hX dX10_init_71 ?_
      refine s_iload_n hX dX10_init_72 rfl ?_
      refine s_bipush (v := 97) hX dX10_init_73 rfl ?_
      refine s_isub hX dX10_init_75 ?_
      refine s_iconst (v := 1) hX dX10_init_76 rfl ?_
      refine s_iadd hX dX10_init_77 ?_
      refine s_i2l hX dX10_init_78 ?_
      refine s_ladd hX dX10_init_79 ?_
      refine s_last hX hkw (vp_in_nI hw (by decide)) dX10_init_80 ?_
      refine go _ ?_ _ ?_
      · rw [sl_sla, nI_clamp (by omega), kwF, if_neg c]
      · rw [kwW, if_neg c]
    · refine s_iinc (v := nI (kwW j + 1)) (lv' := [some (vr c_tape), some (vi (nI (kwW j + 1))), some (vi (nI j)), some (vi (cAt j))]) hX dX10_init_47 rfl (nI_add (kwW j) 1) rfl rfl ?_
      refine s_goto (tgt := 81) hX dX10_init_50 (by decide) ?_
      refine go _ ?_ _ ?_
      · rw [kwF, if_pos c]
      · rw [kwW, if_pos c]
section MKZ2
variable {X : Cx} {cc : ByteArray} {own : String} {nL : Nat} {ret : Option FieldType} {lev c0 s0 cells slots pc : Nat} {L L' : List DS} {lv : List (Option AV)} {st : List AV} {M : Mem}
theorem s_nwq (hX : Cok X cc own nL ret lev c0 s0) (hT : TE X) {n idx : Nat} {x : Int32} (hz : Z0 L.length M) (hcl : Cond.classLink own idx "CuckooDebt$Deeds" ∈ TB) (hx0 : x = nI n) (hn : n ≤ 10000)
    (hL : L.all (dsk L.length) = true) (hlv : lv.all (lvk L.length (L.length + 1)) = true) (hst : st.all (avk L.length (L.length + 1)) = true) (hc : cells + 1 ≤ c0) (hs : slots + n ≤ s0) (d : decode cc pc = .ok (.anewarray idx, 3)) (hL' : L ++ [.inr (4, n, List.replicate n none)] = L')
    (k1 : ∀ X' : Cx, XE L.length (L.length + 1) X X' → Wat X' (cells + 1) (slots + n) L' (pc + 3) lv (vr L.length :: st) M) : Wat X cells slots L pc lv (vi x :: st) M :=
  s_newq hX hT hcl hx0 (by omega) (by omega) hL hlv hst hc hs d (fun X' hE => by rw [zM_eq hz, hL']; exact k1 X' hE)
end MKZ2
