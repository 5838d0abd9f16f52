/-! the reference's questions that can be refused -/
def thI (ok : Bool) : Int32 := if ok then 0 else 1
theorem MRep.thr2 {σ : St} {M : Mem} {v : Int32} (h : MRep σ M) : MRep σ (si M c_mo Mo_thrown v) ∧ Fr2 SMO M (si M c_mo Mo_thrown v) ∧ (si M c_mo Mo_thrown v).1 c_mo Mo_thrown = v := ⟨h.thr, fr2_si (by decide), by rw [si_same, up_s]⟩
def balOk (l : Land) (a : Int32) : Bool := inR (lnp l) a
def balR (l : Land) (d : Deeds) (a : Int32) : Int32 := balN l d (dshot d) (anI a)
theorem m_Balance {σ : St} {a : Int32} {M : Mem} {Q : Int32 → Mem → Prop} (hM : MRep σ M) (hl : LOK (sL σ)) (hg : dgood (sL σ) (sD σ)) (k : ∀ M', Fr2 SMO M M' → MRep σ M' → M'.1 c_mo Mo_thrown = thI (balOk (sL σ) a) → Q (if balOk (sL σ) a then balR (sL σ) (sD σ) a else 0) M') : w_Mo_balance a M Q := by
  have hnp := hl.2.2.1
  unfold w_Mo_balance
  refine m_isPerson hM.1 ?_
  unfold balOk at k
  cases h : inR (lnp (sL σ)) a with
  | false =>
    rw [h] at k
    obtain ⟨t1, t2, t3⟩ := hM.thr2 (v := 1)
    exact ⟨fun q => absurd q (by decide), fun _ => k _ t2 t1 t3⟩
  | true =>
    rw [h] at k
    obtain ⟨t1, t2, t3⟩ := hM.thr2 (v := 0)
    refine ⟨fun _ => ?_, fun q => absurd (by decide) q⟩
    show w_Mo_standsAsTold (si M c_mo Mo_thrown 0) _
    generalize si M c_mo Mo_thrown 0 = M1 at t1 t2 t3
    obtain ⟨p, hp, rfl⟩ := inR_true (by omega) h
    unfold balR anI at k
    rw [nI_clamp (by omega)] at k
    refine m_standsAsTold (fun M2 hf2 _ s1 s2 s3 => ?_)
    have hM2 := t1.scr hf2
    refine m_findOwes (but := 0) hl hM2.1 (MAt.told hl s1) hM2.2.1 hg.1.1 hg.1.2.1 (by decide) (fun M3 hF3 hS3 => ?_)
    have hf3 := MF.of hF3 (by decide) (by decide)
    rw [Nat.or_zero] at hS3
    exact m_balance hl hS3 hp (k M3 (t2.trans (hf2.trans hf3).two) (hM2.scr hf3) ((hf2.trans hf3).2.2.2.trans t3))
def witOk (l : Land) (d : Deeds) (b p : Int32) : Bool := inR (lnb l) b && (inR (lnp l) p && !(dshot d).testBit (anI b))
def witR (l : Land) (d : Deeds) (b p : Int32) : Int32 := balN l d (dshot d ||| 2 ^ anI b) (anI p) - balN l d (dshot d) (anI p)
theorem m_Without {σ : St} {b p : Int32} {M : Mem} {Q : Int32 → Mem → Prop} (hM : MRep σ M) (hl : LOK (sL σ)) (hg : dgood (sL σ) (sD σ)) (k : ∀ M', Fr2 SMO M M' → MRep σ M' → M'.1 c_mo Mo_thrown = thI (witOk (sL σ) (sD σ) b p) → Q (if witOk (sL σ) (sD σ) b p then witR (sL σ) (sD σ) b p else 0) M') : w_Mo_without b p M Q := by
  have hnp := hl.2.2.1
  have hnb := hl.2.2.2.1
  have no : witOk (sL σ) (sD σ) b p = false → w_Mo_without_j30 b p 1 M Q := fun e => by
    rw [e] at k
    obtain ⟨t1, t2, t3⟩ := hM.thr2 (v := 1)
    exact ⟨fun q => absurd q (by decide), fun _ => k _ t2 t1 t3⟩
  unfold w_Mo_without
  refine m_isBird hM.1 ⟨fun h1 => no (by unfold witOk; rw [h1]; rfl), fun h1 => m_isPerson hM.1 ⟨fun h2 => no (by unfold witOk; rw [h1, h2]; rfl), fun h2 => ?_⟩⟩
  obtain ⟨b, hb, rfl⟩ := inR_true (by omega) h1
  obtain ⟨p, hp, rfl⟩ := inR_true (by omega) h2
  refine m_isShot hM.2.1 hg.1.2.1 (by omega) ?_
  unfold witOk at k no
  rw [h1, h2] at k no
  unfold witR anI at k
  unfold anI at no
  rw [nI_clamp (show b < 2 ^ 31 by omega)] at k no
  rw [nI_clamp (show p < 2 ^ 31 by omega)] at k
  cases h3 : (dshot (sD σ)).testBit b with
  | true => rw [h3] at no; exact no rfl
  | false =>
    rw [h3] at k
    obtain ⟨t1, t2, t3⟩ := hM.thr2 (v := 0)
    refine ⟨fun _ => ?_, fun q => absurd (by decide) q⟩
    show w_Mo_standsAsTold (si M c_mo Mo_thrown 0) _
    generalize si M c_mo Mo_thrown 0 = M1 at t1 t2 t3
    have h2b : 2 ^ b ≤ 2 ^ 5 := Nat.pow_le_pow_right (by decide) (by omega)
    refine m_standsAsTold (fun M2 hf2 _ s1 s2 s3 => ?_)
    have hM2 := t1.scr hf2
    have hA2 := MAt.told (M := M2) hl s1
    refine m_findOwes (but := 0) hl hM2.1 hA2 hM2.2.1 hg.1.1 hg.1.2.1 (by decide) (fun M3 hF3 hS3 => ?_)
    have hf3 := MF.of hF3 (by decide) (by decide)
    have hM3 := hM2.scr hf3
    rw [Nat.or_zero] at hS3
    refine m_balance hl hS3 hp ?_
    rw [shl1 (by omega)]
    refine m_findOwes (but := 2 ^ b) hl hM3.1 (hA2.fr hF3 (by decide)) hM3.2.1 hg.1.1 hg.1.2.1 (by omega) (fun M4 hF4 hS4 => ?_)
    have hf4 := MF.of hF4 (by decide) (by decide)
    exact m_balance hl hS4 hp (k M4 (t2.trans ((hf2.trans hf3).trans hf4).two) (hM3.scr hf4) (((hf2.trans hf3).trans hf4).2.2.2.trans t3))
def wiB (hi : Nat) (w : Int32) : Bool := !decide (w < 0) && decide (w ≤ nI hi)
def stdOk (l : Land) (p f t w : Int32) : Bool := inR (lnp l) p && (hrsB f t && wiB 1 w)
def stdB (l : Land) (d : Deeds) (p f t : Int32) : Bst := tryF l (stG l d (2 ^ anI p) (anI f) (anI t)) (2 ^ anI p) none 64
def stdR (l : Land) (d : Deeds) (p f t w : Int32) : Int32 := if w = 0 then p6 (stdB l d p f t) else p7 (stdB l d p f t)
theorem gP_none {l : Land} {ds : Deeds} {f t p : Nat} : gP l ds f t (fun _ => none) p = stG l ds (2 ^ p) f t := rfl
theorem m_Stand {σ : St} {p f t w : Int32} {M : Mem} {Q : Int32 → Mem → Prop} (hM : MRep σ M) (hl : LOK (sL σ)) (hg : dgood (sL σ) (sD σ)) (k : ∀ M', Fr2 SMO M M' → MRep σ M' → M'.1 c_mo Mo_thrown = thI (stdOk (sL σ) p f t w) → Q (if stdOk (sL σ) p f t w then stdR (sL σ) (sD σ) p f t w else 0) M') : w_Mo_stand p f t w M Q := by
  have hnp := hl.2.2.1
  have no : stdOk (sL σ) p f t w = false → w_Mo_stand_j32 p f t w 1 M Q := fun e => by
    rw [e] at k
    obtain ⟨t1, t2, t3⟩ := hM.thr2 (v := 1)
    exact ⟨fun q => absurd q (by decide), fun _ => k _ t2 t1 t3⟩
  unfold w_Mo_stand
  refine m_isPerson hM.1 ⟨fun h1 => no (by unfold stdOk; rw [h1]; rfl), fun h1 => m_areHours ⟨fun h2 => no (by unfold stdOk; rw [h1, h2]; rfl), fun h2 => m_within ?_⟩⟩
  have ew : (!decide (w < 0) && decide (w ≤ 1)) = wiB 1 w := rfl
  rw [ew]
  cases h3 : wiB 1 w with
  | false => exact no (by unfold stdOk; rw [h1, h2, h3]; rfl)
  | true =>
    have e : stdOk (sL σ) p f t w = true := by unfold stdOk; rw [h1, h2, h3]; rfl
    rw [e] at k
    obtain ⟨p, hp, rfl⟩ := inR_true (by omega) h1
    obtain ⟨a, b, hab, hb, rfl, rfl⟩ := hrsB_true h2
    unfold stdR stdB anI at k
    rw [nI_clamp (show p < 2 ^ 31 by omega), nI_clamp (show a < 2 ^ 31 by omega), nI_clamp (show b < 2 ^ 31 by omega)] at k
    obtain ⟨t1, t2, t3⟩ := hM.thr2 (v := 0)
    refine ⟨fun _ => ?_, fun q => absurd (by decide) q⟩
    show w_Mo_standsIn (nI a) (nI b) (si M c_mo Mo_thrown 0) _
    generalize si M c_mo Mo_thrown 0 = M1 at t1 t2 t3
    refine m_standsIn (fun M2 hf2 s1 s2 s3 _ => ?_)
    have hM2 := t1.scr hf2
    have hS2 : MStd (sL σ) a b (fun _ => none) M2 := ⟨s1, s2, fun q hq => ⟨s3 q (by omega), fun c hc => by cases hc⟩⟩
    refine m_findStand hM2 hl hg hS2 (by omega) hb hp (fun M3 hF3 _ hM3 _ hB3 => ?_)
    rw [gP_none] at hB3
    obtain ⟨c, v, e1, e2, e3, e4⟩ := tryF_some (g := stG (sL σ) (sD σ) (2 ^ p) a b) (set := 2 ^ p) hl
    have kz := k M3 (t2.trans (hf2.trans hF3.1).two) hM3 ((hf2.trans hF3.1).2.2.2.trans t3)
    rw [e1] at hB3 kz
    obtain ⟨b1, b2, b3⟩ : M3.1 c_mo Mo_bestCell = nI c ∧ c < 64 ∧ M3.1 c_mo Mo_bestBalance = v := hB3
    rw [b1, b3]
    exact kz
def pic1 (l : Land) (m : Int32) : Bool := !decide (m < 1) && decide (m ≤ nI (lnp l))
def picOk (l : Land) (m f t w : Int32) : Bool := pic1 l m && (hrsB f t && wiB 2 w)
def picB (l : Land) (d : Deeds) (m f t : Int32) : Bst := pcF l d (anI m) (anI f) (anI t) (2 ^ lnp l)
def picR (l : Land) (d : Deeds) (m f t w : Int32) : Int32 := if w = 0 then p5 (picB l d m f t) else if w = 1 then p6 (picB l d m f t) else p7 (picB l d m f t)
theorem pic1_true {l : Land} {m : Int32} (hnp : lnp l ≤ 6) (h : pic1 l m = true) : ∃ k, 1 ≤ k ∧ k ≤ lnp l ∧ m = nI k := by
  unfold pic1 at h
  rw [Bool.and_eq_true, Bool.not_eq_true', decide_eq_false_iff_not, decide_eq_true_eq] at h
  have h0 : ¬ m < 0 := fun z => h.1 (by rw [fa_lt] at z ⊢; rw [show (0 : Int32).toInt = 0 from rfl] at z; rw [show (1 : Int32).toInt = 1 from rfl]; omega)
  obtain ⟨j, hj, rfl⟩ := nI_of h0
  refine ⟨j, ?_, (nI_leI hj (by omega)).mp h.2, rfl⟩
  have : ¬ j < 1 := fun z => h.1 ((nI_ltI (b := 1) hj (by decide)).mpr z)
  omega
theorem pcF_BZ {l : Land} {ds : Deeds} {many f t : Nat} : ∀ n, n ≤ 64 → BZ (pcF l ds many f t n)
  | 0, _ => fun c v z e => by cases e
  | n + 1, h => by
    rw [pcF]
    split
    · exact BZ.all (by omega) (pcF_BZ n (by omega)) 64
    · exact pcF_BZ n (by omega)
theorem m_Picnic {σ : St} {m f t w : Int32} {M : Mem} {Q : Int32 → Mem → Prop} (hM : MRep σ M) (hl : LOK (sL σ)) (hg : dgood (sL σ) (sD σ)) (k : ∀ M', Fr2 SMO M M' → MRep σ M' → M'.1 c_mo Mo_thrown = thI (picOk (sL σ) m f t w) → Q (if picOk (sL σ) m f t w then picR (sL σ) (sD σ) m f t w else 0) M') : w_Mo_picnic m f t w M Q := by
  have hnp := hl.2.2.1
  have no : picOk (sL σ) m f t w = false → w_Mo_picnic_j36 m f t w 1 M Q := fun e => by
    rw [e] at k
    obtain ⟨t1, t2, t3⟩ := hM.thr2 (v := 1)
    exact ⟨fun q => absurd q (by decide), fun _ => k _ t2 t1 t3⟩
  unfold w_Mo_picnic
  refine m_persons hM.1.2.1 (m_within ⟨fun h1 => no ?_, fun h1 => m_areHours ⟨fun h2 => no ?_, fun h2 => m_within ?_⟩⟩)
  · have h1 : pic1 (sL σ) m = false := h1
    unfold picOk; rw [h1]; rfl
  · have h1 : pic1 (sL σ) m = true := h1
    unfold picOk; rw [h1, h2]; rfl
  have h1 : pic1 (sL σ) m = true := h1
  have ew : (!decide (w < 0) && decide (w ≤ 2)) = wiB 2 w := rfl
  rw [ew]
  cases h3 : wiB 2 w with
  | false => exact no (by unfold picOk; rw [h1, h2, h3]; rfl)
  | true =>
    have e : picOk (sL σ) m f t w = true := by unfold picOk; rw [h1, h2, h3]; rfl
    rw [e] at k
    obtain ⟨m, hm1, hm2, rfl⟩ := pic1_true hnp h1
    obtain ⟨a, b, hab, hb, rfl, rfl⟩ := hrsB_true h2
    unfold picR picB anI at k
    rw [nI_clamp (show m < 2 ^ 31 by omega), nI_clamp (show a < 2 ^ 31 by omega), nI_clamp (show b < 2 ^ 31 by omega)] at k
    obtain ⟨t1, t2, t3⟩ := hM.thr2 (v := 0)
    refine ⟨fun _ => ?_, fun q => absurd (by decide) q⟩
    show ∃ n, w_Mo_picnic_L60 (nI m) (nI a) (nI b) w _ Q n (-1) (-1) 0 1 (si M c_mo Mo_thrown 0)
    generalize si M c_mo Mo_thrown 0 = M1 at t1 t2 t3
    have h2p : 2 ^ lnp (sL σ) ≤ 2 ^ 6 := Nat.pow_le_pow_right (by decide) hnp
    have h2q : 1 ≤ 2 ^ lnp (sL σ) := Nat.one_le_two_pow
    have e1 : pcF (sL σ) (sD σ) m a b 1 = none := by
      rw [pcF, if_neg (by show ¬ pcn 0 = m; rw [show pcn 0 = 0 from rfl]; omega)]; rfl
    have key := for_loop (fun n i (M2 : Mem) => w_Mo_picnic_L60 (nI m) (nI a) (nI b) w (fun y1139 y1140 y1141 M1138 => w_Mo_standsAsTold M1138 (fun M1142 => ((¬ w = 0 → ((¬ w = 1 → Q y1141 M1142) ∧ (w = 1 → Q y1140 M1142))) ∧ (w = 0 → Q y1139 M1142)))) Q n (p5 (pcF (sL σ) (sD σ) m a b i)) (p6 (pcF (sL σ) (sD σ) m a b i)) (p7 (pcF (sL σ) (sD σ) m a b i)) (nI i) M2) (fun i M2 => MF M1 M2) (2 ^ lnp (sL σ)) 1 M1 h2q MF.rfl ?_ ?_
    · rw [e1] at key; exact key
    · intro n M2 hf2
      unfold w_Mo_picnic_L60
      refine m_persons (t1.scr hf2).1.2.1 ?_
      rw [shl1 (by omega)]
      refine br_le (by omega) (by omega) (fun _ => m_standsAsTold (fun M3 hf3 _ _ _ _ => ?_)) (fun q => absurd q (by omega))
      have kz := k M3 (t2.trans (hf2.trans hf3).two) (t1.scr (hf2.trans hf3)) ((hf2.trans hf3).2.2.2.trans t3)
      rw [if_pos rfl] at kz
      refine ⟨fun q0 => ⟨fun q1 => ?_, fun q1 => ?_⟩, fun q0 => ?_⟩
      · rw [if_neg q0, if_neg q1] at kz; exact kz
      · rw [if_neg q0, if_pos q1] at kz; exact kz
      · rw [if_pos q0] at kz; exact kz
    · intro n i M2 _ hi hf2 kk
      unfold w_Mo_picnic_L60
      refine m_persons (t1.scr hf2).1.2.1 ?_
      rw [shl1 (by omega), nI_1]
      refine br_le (by omega) (by omega) (fun q => absurd q (by omega)) (fun _ => m_picC (t1.scr hf2) hl hg hb hab (by omega) (by omega) (pcF_BZ i (by omega)) (fun M3 hf3 => ?_))
      have kk := kk M3 (hf2.trans hf3)
      rw [pcF] at kk
      exact kk
