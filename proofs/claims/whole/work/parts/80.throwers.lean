/-! the four methods of the class that can throw -/
theorem mk_x {y : MethodName} {b : ByteArray} {n : Nat} {rt : Option FieldType} {lev : Nat} {L : List DS} {as : List AV} {M : Mem} {Qn : Int32 → Mem → Prop} {Px : Mem → Prop} {lv0 : List (Option AV)} (hp : plainName y.cls = true) (hlv : lve as n = lv0) (hlen : lv0.length = n) (hsl : (lg_sl (as.map (toV (fun _ => 0)))).length ≤ n)
    (h : ∀ X : Cx, Cok X b y.cls n rt lev 1 6 → TX X → RIX X L Qn Px → Wat X 0 0 L 0 lv0 [] M) : CX y b n rt lev L as M Qn Px := by
  intro l hl D cA ad sz
  refine vx_ofW (cc := b) (maxL := n) (ret := rt) hp rfl ?_
  intro p e s m args below meth c s1 B hml htab hv
  obtain ⟨rfl, ⟨hsz, hP, hK, hD0⟩, hZ⟩ := hv
  subst hsz
  have hts := atoms_spec (ws := .code y b n rt :: TB) B.pre
  have hown : s.vm.findClass y.cls = some m.cls := findClass_of_methodNamed B.named
  have hw := h (p, l, e, rmD lev 1 6, s, m, (as.map (toV ad)).toArray, below, meth, c, _, D, cA, ad, Aof cA ad M L s.heap.size) ⟨⟨B.exec, B.bytes, hml, hown, fun w hw => hts w (List.mem_cons_of_mem _ hw)⟩, hK, fun q h => Or.inr h, B.notSynchronized, B.returns, Nat.le_refl _, Nat.le_refl _, rfl, rfl⟩ ⟨hl, htab, hZ⟩ rfl
  have hsl2 : (lg_sl (as.map (toV ad))).length ≤ n := by
    have e : ∀ as : List AV, (lg_sl (as.map (toV ad))).length = (lg_sl (as.map (toV (fun _ => 0)))).length := by
      intro as
      induction as with
      | nil => rfl
      | cons a t ih =>
        have ih' : ((t.map (toV ad)).flatMap fun v => if v.category = 2 then [Slot.val v, .second] else [.val v]).length = ((t.map (toV (fun _ => 0))).flatMap fun v => if v.category = 2 then [Slot.val v, .second] else [.val v]).length := ih
        simp only [lg_sl, List.map_cons, List.flatMap_cons, List.length_append, toV_cat]
        rw [ih']
        split <;> rfl
    rw [e]; exact hsl
  have hle := lv_entry (as.map (toV ad)) (n := n) hsl2
  rw [lg_entry_eq]
  refine hw s.heap [] _ ⟨hP, hD0.self, va_S.rf⟩ ⟨by rw [hlen]; exact hle.1, hle.2.1, fun q hq => hle.2.2 q ?_⟩
  obtain ⟨i, v, h1, rfl⟩ := (lvl_mem ad lv0 0 q).mp hq
  rw [← hlv] at h1
  exact lve_has ad as n 0 i v h1
def w_Top_balance (a0 : Int32) (M : Mem) (Q : Int32 → Mem → Prop) (E : Mem → Prop) : Prop :=
  w_Top_isPerson a0 M (fun b M1 => (b = false → E M1) ∧ (b = true → w_Top_balanceAsTold a0 (M1.1 c_deeds Deeds_shot) M1 (fun r M2 => Q r M2)))
theorem t_Top_balance {X : Cx} (hX : Cok X cX11_balance RX11 2 (some .int) 7 1 6) (hT : TX X) {Q : Int32 → Mem → Prop} {E : Mem → Prop} (hq : RIX X LY Q E) {M : Mem} {a0 : Int32} (h : w_Top_balance a0 M Q E) : Wat X 0 0 LY 0 [some (vr c_xx), some (vi a0)] [] M := by
  refine s_aload_n hX dX11_balance_0 rfl ?_
  refine s_iload_n hX dX11_balance_1 rfl ?_
  refine s_cvi (as := [vi a0]) (rest := []) hX (c_Top_isPerson h) mv_Top_isPerson wd_ml_X11_113 dX11_balance_2 ly_c_xx rfl rfl (Nat.le_of_ble_eq_true rfl) rfl (by decide) ⟨Nat.zero_le _, Nat.zero_le _⟩ (fun b_ M1 h => ?_)
  obtain ⟨b, rfl, h⟩ := h
  refine s_if_ne (tgt := 18) hX dX11_balance_5 (by decide) (fun c => ?_) (fun c => ?_)
  · replace h := h.2 (b2i_1 c)
    refine s_aload_n hX dX11_balance_18 rfl ?_
    refine s_iload_n hX dX11_balance_19 rfl ?_
    refine s_aload_n hX dX11_balance_20 rfl ?_
    refine s_getr hX fi_X11_38 ly_c_xx rfl dX11_balance_21 ?_
    refine s_getiv (v := (M1.1 c_deeds Deeds_shot)) hX fi_X11_136 ly_c_deeds rfl dX11_balance_24 rfl ?_
    refine s_cvi (as := [vi a0, vi (M1.1 c_deeds Deeds_shot)]) (rest := []) hX (c_Top_balanceAsTold h) mv_Top_balanceAsTold wd_ml_X11_177 dX11_balance_27 ly_c_xx rfl rfl (Nat.le_of_ble_eq_true rfl) rfl (by decide) ⟨Nat.zero_le _, Nat.zero_le _⟩ (fun r M2 h => ?_)
    exact s_iretx hX hq rfl dX11_balance_30 h
  · replace h := h.1 (b2i_0 c)
    exact s_throw hX hT hq hT.s172 dX11_balance_8 dX11_balance_11 dX11_balance_12 dX11_balance_14 dX11_balance_17 (by decide) rfl (by decide) h
theorem c_Top_balance {a0 : Int32} {M : Mem} {Q : Int32 → Mem → Prop} {E : Mem → Prop} (h : w_Top_balance a0 M Q E) : CX yX11_balance cX11_balance 2 (some .int) 7 LY [vr c_xx, vi a0] M Q E := mk_x rfl rfl rfl (Nat.le_of_ble_eq_true rfl) (fun X hX hT hq => t_Top_balance hX hT hq h)
def w_Top_without (a0 a1 : Int32) (M : Mem) (Q : Int32 → Mem → Prop) (E : Mem → Prop) : Prop :=
  w_Top_isBird a0 M (fun b M1 => (b = false → E M1) ∧ (b = true → w_Top_isPerson a1 M1 (fun b2 M2 => (b2 = false → E M2) ∧ (b2 = true → w_Deeds_isShot a0 M2 (fun b3 M3 => (b3 = true → E M3) ∧ (b3 = false →
    w_Top_balanceAsTold a1 ((M3.1 c_deeds Deeds_shot) ||| ((1 : Int32) <<< (a0 &&& 31))) M3 (fun r M4 => w_Top_balanceAsTold a1 (M4.1 c_deeds Deeds_shot) M4 (fun r2 M5 => Q (r - r2) M5))))))))
theorem t_Top_without {X : Cx} (hX : Cok X cX11_without RX11 3 (some .int) 7 1 6) (hT : TX X) {Q : Int32 → Mem → Prop} {E : Mem → Prop} (hq : RIX X LY Q E) {M : Mem} {a0 a1 : Int32} (h : w_Top_without a0 a1 M Q E) : Wat X 0 0 LY 0 [some (vr c_xx), some (vi a0), some (vi a1)] [] M := by
  have thr : ∀ M, E M → Wat X 0 0 LY 27 [some (vr c_xx), some (vi a0), some (vi a1)] [] M := fun M h => s_throw hX hT hq hT.s240 dX11_without_27 dX11_without_30 dX11_without_31 dX11_without_33 dX11_without_36 (by decide) rfl (by decide) h
  refine s_aload_n hX dX11_without_0 rfl ?_
  refine s_iload_n hX dX11_without_1 rfl ?_
  refine s_cvi (as := [vi a0]) (rest := []) hX (c_Top_isBird h) mv_Top_isBird wd_ml_X11_130 dX11_without_2 ly_c_xx rfl rfl (Nat.le_of_ble_eq_true rfl) rfl (by decide) ⟨Nat.zero_le _, Nat.zero_le _⟩ (fun b_ M1 h => ?_)
  obtain ⟨b, rfl, h⟩ := h
  refine s_if_eq (tgt := 27) hX dX11_without_5 (by decide) (fun c => thr _ (h.1 (b2i_0 c))) (fun c => ?_)
  replace h := h.2 (b2i_1 c)
  refine s_aload_n hX dX11_without_8 rfl ?_
  refine s_iload_n hX dX11_without_9 rfl ?_
  refine s_cvi (as := [vi a1]) (rest := []) hX (c_Top_isPerson h) mv_Top_isPerson wd_ml_X11_113 dX11_without_10 ly_c_xx rfl rfl (Nat.le_of_ble_eq_true rfl) rfl (by decide) ⟨Nat.zero_le _, Nat.zero_le _⟩ (fun b_ M2 h => ?_)
  obtain ⟨b2, rfl, h⟩ := h
  refine s_if_eq (tgt := 27) hX dX11_without_13 (by decide) (fun c => thr _ (h.1 (b2i_0 c))) (fun c => ?_)
  replace h := h.2 (b2i_1 c)
  refine s_aload_n hX dX11_without_16 rfl ?_
  refine s_getr hX fi_X11_38 ly_c_xx rfl dX11_without_17 ?_
  refine s_iload_n hX dX11_without_20 rfl ?_
  refine s_cvi (as := [vi a0]) (rest := []) hX (c_Deeds_isShot h) mv_Deeds_isShot wd_ml_X11_188 dX11_without_21 ly_c_deeds rfl rfl (Nat.le_of_ble_eq_true rfl) rfl (by decide) ⟨Nat.zero_le _, Nat.zero_le _⟩ (fun b_ M3 h => ?_)
  obtain ⟨b3, rfl, h⟩ := h
  refine s_if_eq (tgt := 37) hX dX11_without_24 (by decide) (fun c => ?_) (fun c => thr _ (h.1 (b2i_1 c)))
  replace h := h.2 (b2i_0 c)
  refine s_aload_n hX dX11_without_37 rfl ?_
  refine s_iload_n hX dX11_without_38 rfl ?_
  refine s_aload_n hX dX11_without_39 rfl ?_
  refine s_getr hX fi_X11_38 ly_c_xx rfl dX11_without_40 ?_
  refine s_getiv (v := (M3.1 c_deeds Deeds_shot)) hX fi_X11_136 ly_c_deeds rfl dX11_without_43 rfl ?_
  refine s_iconst (v := 1) hX dX11_without_46 rfl ?_
  refine s_iload_n hX dX11_without_47 rfl ?_
  refine s_ishl hX dX11_without_48 ?_
  refine s_ior hX dX11_without_49 ?_
  refine s_cvi (as := [vi a1, vi ((M3.1 c_deeds Deeds_shot) ||| ((1 : Int32) <<< (a0 &&& 31)))]) (rest := []) hX (c_Top_balanceAsTold h) mv_Top_balanceAsTold wd_ml_X11_177 dX11_without_50 ly_c_xx rfl rfl (Nat.le_of_ble_eq_true rfl) rfl (by decide) ⟨Nat.zero_le _, Nat.zero_le _⟩ (fun r M4 h => ?_)
  refine s_aload_n hX dX11_without_53 rfl ?_
  refine s_iload_n hX dX11_without_54 rfl ?_
  refine s_aload_n hX dX11_without_55 rfl ?_
  refine s_getr hX fi_X11_38 ly_c_xx rfl dX11_without_56 ?_
  refine s_getiv (v := (M4.1 c_deeds Deeds_shot)) hX fi_X11_136 ly_c_deeds rfl dX11_without_59 rfl ?_
  refine s_cvi (as := [vi a1, vi (M4.1 c_deeds Deeds_shot)]) (rest := [vi r]) hX (c_Top_balanceAsTold h) mv_Top_balanceAsTold wd_ml_X11_177 dX11_without_62 ly_c_xx rfl rfl (Nat.le_of_ble_eq_true rfl) rfl (by decide) ⟨Nat.zero_le _, Nat.zero_le _⟩ (fun r2 M5 h => ?_)
  refine s_isub hX dX11_without_65 ?_
  exact s_iretx hX hq rfl dX11_without_66 h
theorem c_Top_without {a0 a1 : Int32} {M : Mem} {Q : Int32 → Mem → Prop} {E : Mem → Prop} (h : w_Top_without a0 a1 M Q E) : CX yX11_without cX11_without 3 (some .int) 7 LY [vr c_xx, vi a0, vi a1] M Q E := mk_x rfl rfl rfl (Nat.le_of_ble_eq_true rfl) (fun X hX hT hq => t_Top_without hX hT hq h)
def w_Top_stand (a0 a1 a2 a3 : Int32) (M : Mem) (Q : Int32 → Mem → Prop) (E : Mem → Prop) : Prop :=
  w_Top_isPerson a0 M (fun b M1 => (b = false → E M1) ∧ (b = true → w_Top_areHours a1 a2 M1 (fun b2 M2 => (b2 = false → E M2) ∧ (b2 = true → (a3 < 0 → E M2) ∧ (¬ a3 < 0 → (¬ a3 ≤ 1 → E M2) ∧ (a3 ≤ 1 →
    w_Game_standOf a0 a1 a2 M2 (fun M3 => (a3 = 0 → Q (M3.1 c_game Game_bestCell) M3) ∧ (¬ a3 = 0 → Q (M3.1 c_game Game_bestBalance) M3))))))))
theorem t_Top_stand {X : Cx} (hX : Cok X cX11_stand RX11 5 (some .int) 7 1 6) (hT : TX X) {Q : Int32 → Mem → Prop} {E : Mem → Prop} (hq : RIX X LY Q E) {M : Mem} {a0 a1 a2 a3 : Int32} (h : w_Top_stand a0 a1 a2 a3 M Q E) : Wat X 0 0 LY 0 [some (vr c_xx), some (vi a0), some (vi a1), some (vi a2), some (vi a3)] [] M := by
  have thr : ∀ M, E M → Wat X 0 0 LY 27 [some (vr c_xx), some (vi a0), some (vi a1), some (vi a2), some (vi a3)] [] M := fun M h => s_throw hX hT hq hT.s199 dX11_stand_27 dX11_stand_30 dX11_stand_31 dX11_stand_33 dX11_stand_36 (by decide) rfl (by decide) h
  refine s_aload_n hX dX11_stand_0 rfl ?_
  refine s_iload_n hX dX11_stand_1 rfl ?_
  refine s_cvi (as := [vi a0]) (rest := []) hX (c_Top_isPerson h) mv_Top_isPerson wd_ml_X11_113 dX11_stand_2 ly_c_xx rfl rfl (Nat.le_of_ble_eq_true rfl) rfl (by decide) ⟨Nat.zero_le _, Nat.zero_le _⟩ (fun b_ M1 h => ?_)
  obtain ⟨b, rfl, h⟩ := h
  refine s_if_eq (tgt := 27) hX dX11_stand_5 (by decide) (fun c => thr _ (h.1 (b2i_0 c))) (fun c => ?_)
  replace h := h.2 (b2i_1 c)
  refine s_iload_n hX dX11_stand_8 rfl ?_
  refine s_iload_n hX dX11_stand_9 rfl ?_
  refine s_csi (as := [vi a1, vi a2]) (rest := []) hX (c_Top_areHours h) ms_Top_areHours wd_ml_X11_195 dX11_stand_10 rfl (Nat.le_of_ble_eq_true rfl) rfl (by decide) ⟨Nat.zero_le _, Nat.zero_le _⟩ (fun b_ M2 h => ?_)
  obtain ⟨b2, rfl, h⟩ := h
  refine s_if_eq (tgt := 27) hX dX11_stand_13 (by decide) (fun c => thr _ (h.1 (b2i_0 c))) (fun c => ?_)
  replace h := h.2 (b2i_1 c)
  refine s_iload hX dX11_stand_16 rfl ?_
  refine s_if_lt (tgt := 27) hX dX11_stand_18 (by decide) (fun c => thr _ (h.1 c)) (fun c => ?_)
  replace h := h.2 c
  refine s_iload hX dX11_stand_21 rfl ?_
  refine s_iconst (v := 1) hX dX11_stand_23 rfl ?_
  refine s_icmp_le (tgt := 37) hX dX11_stand_24 (by decide) (fun c => ?_) (fun c => thr _ (h.1 c))
  replace h := h.2 c
  refine s_aload_n hX dX11_stand_37 rfl ?_
  refine s_getr hX fi_X11_67 ly_c_xx rfl dX11_stand_38 ?_
  refine s_iload_n hX dX11_stand_41 rfl ?_
  refine s_iload_n hX dX11_stand_42 rfl ?_
  refine s_iload_n hX dX11_stand_43 rfl ?_
  refine s_cvv (as := [vi a0, vi a1, vi a2]) (rest := []) hX (c_Game_standOf h) mv_Game_standOf wd_ml_X11_201 dX11_stand_44 ly_c_game rfl rfl (Nat.le_of_ble_eq_true rfl) rfl (by decide) ⟨Nat.zero_le _, Nat.zero_le _⟩ (fun M3 h => ?_)
  refine s_iload hX dX11_stand_47 rfl ?_
  refine s_if_ne (tgt := 62) hX dX11_stand_49 (by decide) (fun c => ?_) (fun c => ?_)
  · replace h := h.2 c
    refine s_aload_n hX dX11_stand_62 rfl ?_
    refine s_getr hX fi_X11_67 ly_c_xx rfl dX11_stand_63 ?_
    refine s_getiv (v := (M3.1 c_game Game_bestBalance)) hX fi_X11_207 ly_c_game rfl dX11_stand_66 rfl ?_
    exact s_iretx hX hq rfl dX11_stand_69 h
  · replace h := h.1 c
    refine s_aload_n hX dX11_stand_52 rfl ?_
    refine s_getr hX fi_X11_67 ly_c_xx rfl dX11_stand_53 ?_
    refine s_getiv (v := (M3.1 c_game Game_bestCell)) hX fi_X11_204 ly_c_game rfl dX11_stand_56 rfl ?_
    refine s_goto (tgt := 69) hX dX11_stand_59 (by decide) ?_
    exact s_iretx hX hq rfl dX11_stand_69 h
theorem c_Top_stand {a0 a1 a2 a3 : Int32} {M : Mem} {Q : Int32 → Mem → Prop} {E : Mem → Prop} (h : w_Top_stand a0 a1 a2 a3 M Q E) : CX yX11_stand cX11_stand 5 (some .int) 7 LY [vr c_xx, vi a0, vi a1, vi a2, vi a3] M Q E := mk_x rfl rfl rfl (Nat.le_of_ble_eq_true rfl) (fun X hX hT hq => t_Top_stand hX hT hq h)
def w_Top_picnic (a0 a1 a2 a3 : Int32) (M : Mem) (Q : Int32 → Mem → Prop) (E : Mem → Prop) : Prop :=
  (a0 < 1 → E M) ∧ (¬ a0 < 1 → (M.1 c_land Land_people < a0 → E M) ∧ (¬ M.1 c_land Land_people < a0 → w_Top_areHours a1 a2 M (fun b2 M2 => (b2 = false → E M2) ∧ (b2 = true → (a3 < 0 → E M2) ∧ (¬ a3 < 0 → (¬ a3 ≤ 2 → E M2) ∧ (a3 ≤ 2 →
    w_Game_picnicOf a0 a1 a2 M2 (fun M3 => (a3 = 0 → Q (M3.1 c_game Game_bestSet) M3) ∧ (¬ a3 = 0 → (a3 = 1 → Q (M3.1 c_game Game_bestCell) M3) ∧ (¬ a3 = 1 → Q (M3.1 c_game Game_bestBalance) M3)))))))))
theorem t_Top_picnic {X : Cx} (hX : Cok X cX11_picnic RX11 5 (some .int) 7 1 6) (hT : TX X) {Q : Int32 → Mem → Prop} {E : Mem → Prop} (hq : RIX X LY Q E) {M : Mem} {a0 a1 a2 a3 : Int32} (h : w_Top_picnic a0 a1 a2 a3 M Q E) : Wat X 0 0 LY 0 [some (vr c_xx), some (vi a0), some (vi a1), some (vi a2), some (vi a3)] [] M := by
  have thr : ∀ M, E M → Wat X 0 0 LY 35 [some (vr c_xx), some (vi a0), some (vi a1), some (vi a2), some (vi a3)] [] M := fun M h => s_throw hX hT hq hT.s227 dX11_picnic_35 dX11_picnic_38 dX11_picnic_39 dX11_picnic_41 dX11_picnic_44 (by decide) rfl (by decide) h
  refine s_iload_n hX dX11_picnic_0 rfl ?_
  refine s_iconst (v := 1) hX dX11_picnic_1 rfl ?_
  refine s_icmp_lt (tgt := 35) hX dX11_picnic_2 (by decide) (fun c => thr _ (h.1 c)) (fun c => ?_)
  replace h := h.2 c
  refine s_iload_n hX dX11_picnic_5 rfl ?_
  refine s_aload_n hX dX11_picnic_6 rfl ?_
  refine s_getr hX fi_X11_19 ly_c_xx rfl dX11_picnic_7 ?_
  refine s_getiv (v := (M.1 c_land Land_people)) hX fi_X11_210 ly_c_land rfl dX11_picnic_10 rfl ?_
  refine s_icmp_gt (tgt := 35) hX dX11_picnic_13 (by decide) (fun c => thr _ (h.1 c)) (fun c => ?_)
  replace h := h.2 c
  refine s_iload_n hX dX11_picnic_16 rfl ?_
  refine s_iload_n hX dX11_picnic_17 rfl ?_
  refine s_csi (as := [vi a1, vi a2]) (rest := []) hX (c_Top_areHours h) ms_Top_areHours wd_ml_X11_195 dX11_picnic_18 rfl (Nat.le_of_ble_eq_true rfl) rfl (by decide) ⟨Nat.zero_le _, Nat.zero_le _⟩ (fun b_ M2 h => ?_)
  obtain ⟨b2, rfl, h⟩ := h
  refine s_if_eq (tgt := 35) hX dX11_picnic_21 (by decide) (fun c => thr _ (h.1 (b2i_0 c))) (fun c => ?_)
  replace h := h.2 (b2i_1 c)
  refine s_iload hX dX11_picnic_24 rfl ?_
  refine s_if_lt (tgt := 35) hX dX11_picnic_26 (by decide) (fun c => thr _ (h.1 c)) (fun c => ?_)
  replace h := h.2 c
  refine s_iload hX dX11_picnic_29 rfl ?_
  refine s_iconst (v := 2) hX dX11_picnic_31 rfl ?_
  refine s_icmp_le (tgt := 45) hX dX11_picnic_32 (by decide) (fun c => ?_) (fun c => thr _ (h.1 c))
  replace h := h.2 c
  refine s_aload_n hX dX11_picnic_45 rfl ?_
  refine s_getr hX fi_X11_67 ly_c_xx rfl dX11_picnic_46 ?_
  refine s_iload_n hX dX11_picnic_49 rfl ?_
  refine s_iload_n hX dX11_picnic_50 rfl ?_
  refine s_iload_n hX dX11_picnic_51 rfl ?_
  refine s_cvv (as := [vi a0, vi a1, vi a2]) (rest := []) hX (c_Game_picnicOf h) mv_Game_picnicOf wd_ml_X11_229 dX11_picnic_52 ly_c_game rfl rfl (Nat.le_of_ble_eq_true rfl) rfl (by decide) ⟨Nat.zero_le _, Nat.zero_le _⟩ (fun M3 h => ?_)
  refine s_iload hX dX11_picnic_55 rfl ?_
  refine s_if_ne (tgt := 68) hX dX11_picnic_57 (by decide) (fun c => ?_) (fun c => ?_)
  · replace h := h.2 c
    refine s_iload hX dX11_picnic_68 rfl ?_
    refine s_iconst (v := 1) hX dX11_picnic_70 rfl ?_
    refine s_icmp_ne (tgt := 84) hX dX11_picnic_71 (by decide) (fun c => ?_) (fun c => ?_)
    · replace h := h.2 c
      refine s_aload_n hX dX11_picnic_84 rfl ?_
      refine s_getr hX fi_X11_67 ly_c_xx rfl dX11_picnic_85 ?_
      refine s_getiv (v := (M3.1 c_game Game_bestBalance)) hX fi_X11_207 ly_c_game rfl dX11_picnic_88 rfl ?_
      exact s_iretx hX hq rfl dX11_picnic_91 h
    · replace h := h.1 c
      refine s_aload_n hX dX11_picnic_74 rfl ?_
      refine s_getr hX fi_X11_67 ly_c_xx rfl dX11_picnic_75 ?_
      refine s_getiv (v := (M3.1 c_game Game_bestCell)) hX fi_X11_204 ly_c_game rfl dX11_picnic_78 rfl ?_
      refine s_goto (tgt := 91) hX dX11_picnic_81 (by decide) ?_
      exact s_iretx hX hq rfl dX11_picnic_91 h
  · replace h := h.1 c
    refine s_aload_n hX dX11_picnic_60 rfl ?_
    refine s_getr hX fi_X11_67 ly_c_xx rfl dX11_picnic_61 ?_
    refine s_getiv (v := (M3.1 c_game Game_bestSet)) hX fi_X11_232 ly_c_game rfl dX11_picnic_64 rfl ?_
    exact s_iretx hX hq rfl dX11_picnic_67 h
theorem c_Top_picnic {a0 a1 a2 a3 : Int32} {M : Mem} {Q : Int32 → Mem → Prop} {E : Mem → Prop} (h : w_Top_picnic a0 a1 a2 a3 M Q E) : CX yX11_picnic cX11_picnic 5 (some .int) 7 LY [vr c_xx, vi a0, vi a1, vi a2, vi a3] M Q E := mk_x rfl rfl rfl (Nat.le_of_ble_eq_true rfl) (fun X hX hT hq => t_Top_picnic hX hT hq h)
