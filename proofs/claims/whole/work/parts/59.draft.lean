/-! what has been read so far: pure -/
abbrev Dr : Type := (Nat × Nat × Nat × Nat × Nat) × (Nat → Nat) × (Nat → Nat) × (Nat → Option Nat) × (Nat → Nat) × (Nat → Nat) × (Nat → List Nat) × (Nat × Nat × Bool) × Option (List Int32) × Option (List Int32)
def rwide (d : Dr) : Nat := d.1.1
def rdeep (d : Dr) : Nat := d.1.2.1
def rnp (d : Dr) : Nat := d.1.2.2.1
def rnb (d : Dr) : Nat := d.1.2.2.2.1
def rhear (d : Dr) : Nat := d.1.2.2.2.2
def rkind (d : Dr) : Nat → Nat := d.2.1
def rpurse (d : Dr) : Nat → Nat := d.2.2.1
def rgoes (d : Dr) : Nat → Option Nat := d.2.2.2.1
def rbush (d : Dr) : Nat → Nat := d.2.2.2.2.1
def rtimes (d : Dr) : Nat → Nat := d.2.2.2.2.2.1
def rnm (d : Dr) : Nat → List Nat := d.2.2.2.2.2.2.1
def rgo (d : Dr) : Nat := d.2.2.2.2.2.2.2.1.1
def rca (d : Dr) : Nat := d.2.2.2.2.2.2.2.1.2.1
def rht (d : Dr) : Bool := d.2.2.2.2.2.2.2.1.2.2
def rowe (d : Dr) : Option (List Int32) := d.2.2.2.2.2.2.2.2.1
def rfog (d : Dr) : Option (List Int32) := d.2.2.2.2.2.2.2.2.2
def uo {α : Type} (f : Nat → α) (i : Nat) (v : α) : Nat → α := fun k => if k = i then v else f k
theorem uo_s {α : Type} {f : Nat → α} {i : Nat} {v : α} : uo f i v i = v := if_pos rfl
theorem uo_n {α : Type} {f : Nat → α} {i k : Nat} {v : α} (h : k ≠ i) : uo f i v k = f k := if_neg h
def dr0 (w h : Nat) : Dr := ((w, h, 0, 0, 14), (fun _ => 0), (fun _ => 0), (fun _ => none), (fun _ => 0), (fun _ => 0), (fun _ => []), (0, 0, false), none, none)
def uGo (d : Dr) : Dr := ((rwide d, rdeep d, rnp d, rnb d, rhear d), rkind d, rpurse d, rgoes d, rbush d, rtimes d, rnm d, (rgo d + 1, rca d, rht d), rowe d, rfog d)
def uCa (d : Dr) : Dr := ((rwide d, rdeep d, rnp d, rnb d, rhear d), rkind d, rpurse d, rgoes d, rbush d, rtimes d, rnm d, (rgo d, rca d + 1, rht d), rowe d, rfog d)
def uHt (d : Dr) : Dr := ((rwide d, rdeep d, rnp d, rnb d, rhear d), rkind d, rpurse d, rgoes d, rbush d, rtimes d, rnm d, (rgo d, rca d, true), rowe d, rfog d)
def uHear (d : Dr) (v : Nat) : Dr := ((rwide d, rdeep d, rnp d, rnb d, v), rkind d, rpurse d, rgoes d, rbush d, rtimes d, rnm d, (rgo d, rca d, rht d), rowe d, rfog d)
def uGoes (d : Dr) (i c : Nat) : Dr := ((rwide d, rdeep d, rnp d, rnb d, rhear d), rkind d, rpurse d, uo (rgoes d) i (some c), rbush d, rtimes d, rnm d, (rgo d, rca d, rht d), rowe d, rfog d)
def uTimes (d : Dr) (i v : Nat) : Dr := ((rwide d, rdeep d, rnp d, rnb d, rhear d), rkind d, rpurse d, rgoes d, rbush d, un (rtimes d) i v, rnm d, (rgo d, rca d, rht d), rowe d, rfog d)
def uNp (d : Dr) (w : List Nat) (k v : Nat) : Dr := ((rwide d, rdeep d, rnp d + 1, rnb d, rhear d), uo (rkind d) (rnp d) k, uo (rpurse d) (rnp d) v, rgoes d, rbush d, rtimes d, uo (rnm d) (rnp d) w, (rgo d, rca d, rht d), rowe d, rfog d)
def uNb (d : Dr) (w : List Nat) (c : Nat) : Dr := ((rwide d, rdeep d, rnp d, rnb d + 1, rhear d), rkind d, rpurse d, rgoes d, uo (rbush d) (rnb d) c, rtimes d, uo (rnm d) (6 + rnb d) w, (rgo d, rca d, rht d), rowe d, rfog d)
def uLaw (fog : Bool) (d : Dr) (c : List Int32) : Dr := ((rwide d, rdeep d, rnp d, rnb d, rhear d), rkind d, rpurse d, rgoes d, rbush d, rtimes d, rnm d, (rgo d, rca d, rht d), (if fog then rowe d else some c), (if fog then some c else rfog d))
def rlaw (fog : Bool) (d : Dr) : Option (List Int32) := if fog then rfog d else rowe d
def fnd (f : Nat → List Nat) (w : List Nat) (n : Nat) : Option Nat := if fa_first (fun p => decide (f p = w)) n < n then some (fa_first (fun p => decide (f p = w)) n) else none
theorem fnd_s {f : Nat → List Nat} {w : List Nat} {n j : Nat} (h : fnd f w n = some j) : j < n ∧ f j = w := by
  unfold fnd at h
  split at h
  · rename_i c
    cases h
    exact ⟨c, of_decide_eq_true (fa_first_yes (fun p => decide (f p = w)) n c)⟩
  · cases h
theorem fnd_n {f : Nat → List Nat} {w : List Nat} {n : Nat} (h : fnd f w n = none) : ∀ j, j < n → f j ≠ w := by
  unfold fnd at h
  split at h
  · cases h
  · rename_i c
    intro j hj
    exact of_decide_eq_false (fa_first_no (fun p => decide (f p = w)) n j (by omega))
def fP (d : Dr) (w : List Nat) : Option Nat := fnd (rnm d) w (rnp d)
def fB (d : Dr) (w : List Nat) : Option Nat := fnd (fun b => rnm d (6 + b)) w (rnb d)
abbrev RLn : Type := Nat ⊕ (Nat × Dr)
def aPerson (t : List Nat) (n : Nat) (d : Dr) : RLn := if rnp d = 6 then .inl (er t n 5) else
  chk (cNm t (n + 1)) (if fP d (kW t (n + 1)) ≠ none ∨ fB d (kW t (n + 1)) ≠ none then .inl (er t (n + 1) 3) else
  if 12 ≤ kK t (n + 2) ∧ kK t (n + 2) ≤ 16 then
  chk (cKw t 2 (n + 3)) (chk (cNum t 0 (rwide d - 1) (n + 4)) (chk (cNum t 0 (rdeep d - 1) (n + 5)) (chk (cKw t 3 (n + 6)) (chk (cNum t 0 9999 (n + 7)) (chk (cSg t 59 (n + 8))
    (.inr (n + 9, uNp (uGoes d (rnp d * 24) (kV t (n + 5) * 8 + kV t (n + 4))) (kW t (n + 1)) (kK t (n + 2) - 12) (kV t (n + 7)))))))))
  else .inl (er t (n + 2) 1))
def aGo (t : List Nat) (n : Nat) (d : Dr) : RLn := if rgo d = 20 then .inl (er t n 5) else
  chk (cNm t (n + 1)) (match fP d (kW t (n + 1)) with
    | none => .inl (er t (n + 1) 2)
    | some p => chk (cKw t 5 (n + 2)) (chk (cNum t 1 23 (n + 3)) (if rgoes d (p * 24 + kV t (n + 3)) ≠ none then .inl (er t (n + 3) 3) else
      chk (cKw t 2 (n + 4)) (chk (cNum t 0 (rwide d - 1) (n + 5)) (chk (cNum t 0 (rdeep d - 1) (n + 6)) (chk (cSg t 59 (n + 7))
        (.inr (n + 8, uGoes (uGo d) (p * 24 + kV t (n + 3)) (kV t (n + 6) * 8 + kV t (n + 5))))))))))
def aBird (t : List Nat) (n : Nat) (d : Dr) : RLn := if rnb d = 5 then .inl (er t n 5) else
  chk (cNm t (n + 1)) (if fP d (kW t (n + 1)) ≠ none ∨ fB d (kW t (n + 1)) ≠ none then .inl (er t (n + 1) 3) else
  chk (cKw t 2 (n + 2)) (chk (cNum t 0 (rwide d - 1) (n + 3)) (chk (cNum t 0 (rdeep d - 1) (n + 4)) (chk (cSg t 59 (n + 5))
    (.inr (n + 6, uNb d (kW t (n + 1)) (kV t (n + 4) * 8 + kV t (n + 3))))))))
def aCall (t : List Nat) (n : Nat) (d : Dr) : RLn := if rca d = 30 then .inl (er t n 5) else
  chk (cNm t (n + 1)) (match fB d (kW t (n + 1)) with
    | none => .inl (er t (n + 1) 2)
    | some b => chk (cKw t 5 (n + 2)) (chk (cNum t 0 23 (n + 3)) (if rtimes d (b * 24 + kV t (n + 3)) ≠ 0 then .inl (er t (n + 3) 3) else
      chk (cKw t 8 (n + 4)) (chk (cNum t 1 9 (n + 5)) (chk (cSg t 59 (n + 6))
        (.inr (n + 7, uTimes (uCa d) (b * 24 + kV t (n + 3)) (kV t (n + 5)))))))))
def aHear (t : List Nat) (n : Nat) (d : Dr) : RLn := if rht d = true then .inl (er t n 3) else
  chk (cNum t 0 14 (n + 1)) (chk (cSg t 59 (n + 2)) (.inr (n + 3, uHear (uHt d) (kV t (n + 1)))))
def aLaw (t : List Nat) (fog : Bool) (n : Nat) (d : Dr) : RLn := if rlaw fog d ≠ none then .inl (er t n 3) else
  match aE t fog 36 0 0 (n + 1) [] with
  | .inl e => .inl e
  | .inr x => chk (cSg t 59 x.1) (.inr (x.1 + 1, uLaw fog d x.2))
def aLine (t : List Nat) (n : Nat) (d : Dr) : RLn := if kK t n = 1 then aPerson t n d else if kK t n = 4 then aGo t n d else if kK t n = 6 then aBird t n d else if kK t n = 7 then aCall t n d else if kK t n = 9 then aLaw t false n d else if kK t n = 10 then aLaw t true n d else if kK t n = 11 then aHear t n d else .inl (er t n 1)
def aLines (t : List Nat) : Nat → Nat → Dr → Nat ⊕ Dr
  | 0, _, d => .inr d
  | k + 1, n, d => if kS t n = 0 then .inr d else match aLine t n d with
    | .inl e => .inl e
    | .inr x => aLines t k x.1 x.2
def aAll (t : List Nat) : Nat ⊕ Dr := chk (cKw t 0 0) (chk (cNum t 2 8 1) (chk (cNum t 2 8 2) (chk (cSg t 59 3) (aLines t 1000 4 (dr0 (kV t 1) (kV t 2))))))
def vid (d : Dr) (i : Nat) : Prop := i < rnp d ∨ 6 ≤ i ∧ i < 6 + rnb d
/-- what holds of it -/
def GDr (d : Dr) : Prop := ((2 ≤ rwide d ∧ rwide d ≤ 8) ∧ (2 ≤ rdeep d ∧ rdeep d ≤ 8) ∧ rnp d ≤ 6 ∧ rnb d ≤ 5 ∧ rhear d ≤ 14 ∧ rgo d ≤ 20 ∧ rca d ≤ 30) ∧ (∀ p, p < rnp d → rkind d p ≤ 4 ∧ rpurse d p ≤ 9999 ∧ okw (rnm d p) ∧ rgoes d (p * 24) ≠ none) ∧ (∀ b, b < rnb d → rbush d b < 64 ∧ okw (rnm d (6 + b))) ∧ (∀ i c, rgoes d i = some c → c < 64) ∧ ((∀ i, i < 120 → rtimes d i ≤ 9) ∧ fb_ct (fun i => decide (rtimes d i ≠ 0)) 120 ≤ rca d) ∧ (∀ i j, vid d i → vid d j → rnm d i = rnm d j → i = j) ∧ (∀ c, rowe d = some c → wfc 0 c = true) ∧ (∀ c, rfog d = some c → wfc 0 c = true ∧ ∀ x ∈ c, x ≠ -4)
theorem GDr.z {w h : Nat} (hw : 2 ≤ w ∧ w ≤ 8) (hh : 2 ≤ h ∧ h ≤ 8) : GDr (dr0 w h) := by
  refine ⟨⟨hw, hh, Nat.zero_le _, Nat.zero_le _, Nat.le_refl 14, Nat.zero_le _, Nat.zero_le _⟩, fun p hp => absurd hp (Nat.not_lt_zero p), fun b hb => absurd hb (Nat.not_lt_zero b), fun i c h => (nomatch h), ⟨fun i _ => Nat.zero_le _, ?_⟩, fun i j hi _ _ => ?_, fun c h => (nomatch h), fun c h => (nomatch h)⟩
  · have : fb_ct (fun i => decide (rtimes (dr0 w h) i ≠ 0)) 120 = 0 := by
      show fb_ct (fun i => decide ((0 : Nat) ≠ 0)) 120 = 0
      decide +kernel
    rw [this]; exact Nat.zero_le _
  · rcases hi with z | z
    · exact absurd z (Nat.not_lt_zero _)
    · have z2 : i < 6 + 0 := z.2
      omega
theorem ct_un {f : Nat → Nat} {i v n : Nat} (hi : i < n) : fb_ct (fun k => decide (un f i v k ≠ 0)) n ≤ fb_ct (fun k => decide (f k ≠ 0)) n + 1 := by
  have h1 := fb_ct_upd (fun k => decide (f k ≠ 0)) (decide (v ≠ 0)) hi
  have h2 : (fun k => decide (un f i v k ≠ 0)) = fun k => if k = i then decide (v ≠ 0) else decide (f k ≠ 0) := by
    funext k
    unfold un
    by_cases c : k = i
    · simp only [if_pos c]
    · simp only [if_neg c]
  rw [h2]
  have h3 : (if decide (v ≠ 0) = true then 1 else 0) ≤ 1 := by split <;> omega
  omega
theorem cell_lt {x y w h : Nat} (hw : w ≤ 8) (hh : h ≤ 8) (hw2 : 2 ≤ w) (hh2 : 2 ≤ h) (hx : x ≤ w - 1) (hy : y ≤ h - 1) : y * 8 + x < 64 := by omega
theorem GDr.person {t : List Nat} {n : Nat} {d : Dr} {x : Nat × Dr} (h : GDr d) (e : aPerson t n d = .inr x) : GDr x.2 ∧ n < x.1 := by
  unfold aPerson at e
  obtain ⟨c1, e⟩ := ite_inr e
  obtain ⟨c2, e⟩ := chk_inr e
  obtain ⟨c3, e⟩ := ite_inr e
  obtain ⟨c4, e⟩ := ite_inr' e
  obtain ⟨c5, e⟩ := chk_inr e
  obtain ⟨c6, e⟩ := chk_inr e
  obtain ⟨c7, e⟩ := chk_inr e
  obtain ⟨c8, e⟩ := chk_inr e
  obtain ⟨c9, e⟩ := chk_inr e
  obtain ⟨c10, e⟩ := chk_inr e
  cases e
  obtain ⟨⟨h1, h2, h3, h4, h5, h6, h7⟩, g1, g2, g3, g4, g5, g6, g7⟩ := h
  have n6 := cNum_n c6
  have n7 := cNum_n c7
  have n9 := cNum_n c9
  have w1 := kW_ok (cNm_n c2).1
  have nP : fP d (kW t (n + 1)) = none := Decidable.byContradiction (fun z => c3 (Or.inl z))
  have nB : fB d (kW t (n + 1)) = none := Decidable.byContradiction (fun z => c3 (Or.inr z))
  have fresh : ∀ i, vid d i → rnm d i ≠ kW t (n + 1) := by
    intro i hi
    rcases hi with z | z
    · exact fnd_n nP i z
    · have := fnd_n nB (i - 6) (by omega)
      rw [show 6 + (i - 6) = i by omega] at this
      exact this
  refine ⟨⟨⟨h1, h2, by show rnp d + 1 ≤ 6; omega, h4, h5, h6, h7⟩, fun p hp => ?_, fun b hb => ?_, fun i c hc => ?_, g4, fun i j hi hj hij => ?_, g6, g7⟩, by show n < n + 9; omega⟩
  · have hp : p < rnp d + 1 := hp
    show uo (rkind d) (rnp d) (kK t (n + 2) - 12) p ≤ 4 ∧ uo (rpurse d) (rnp d) (kV t (n + 7)) p ≤ 9999 ∧ okw (uo (rnm d) (rnp d) (kW t (n + 1)) p) ∧ uo (rgoes d) (rnp d * 24) (some (kV t (n + 5) * 8 + kV t (n + 4))) (p * 24) ≠ none
    by_cases q : p = rnp d
    · subst q
      rw [uo_s, uo_s, uo_s, uo_s]
      exact ⟨by omega, by omega, w1, by simp⟩
    · rw [uo_n q, uo_n q, uo_n q, uo_n (by omega)]
      exact g1 p (by omega)
  · show rbush d b < 64 ∧ okw (uo (rnm d) (rnp d) (kW t (n + 1)) (6 + b))
    rw [uo_n (by omega)]
    exact g2 b hb
  · have hc : uo (rgoes d) (rnp d * 24) (some (kV t (n + 5) * 8 + kV t (n + 4))) i = some c := hc
    by_cases q : i = rnp d * 24
    · subst q
      rw [uo_s] at hc
      cases hc
      exact cell_lt h1.2 h2.2 h1.1 h2.1 n6.2.2 n7.2.2
    · rw [uo_n q] at hc; exact g3 i c hc
  · have hij : uo (rnm d) (rnp d) (kW t (n + 1)) i = uo (rnm d) (rnp d) (kW t (n + 1)) j := hij
    have hi : i < rnp d + 1 ∨ 6 ≤ i ∧ i < 6 + rnb d := hi
    have hj : j < rnp d + 1 ∨ 6 ≤ j ∧ j < 6 + rnb d := hj
    by_cases qi : i = rnp d
    · by_cases qj : j = rnp d
      · omega
      · rw [qi, uo_s, uo_n qj] at hij
        exact absurd hij.symm (fresh j (by unfold vid; omega))
    · by_cases qj : j = rnp d
      · rw [qj, uo_s, uo_n qi] at hij
        exact absurd hij (fresh i (by unfold vid; omega))
      · rw [uo_n qi, uo_n qj] at hij
        exact g5 i j (by unfold vid; omega) (by unfold vid; omega) hij
theorem GDr.bird {t : List Nat} {n : Nat} {d : Dr} {x : Nat × Dr} (h : GDr d) (e : aBird t n d = .inr x) : GDr x.2 ∧ n < x.1 := by
  unfold aBird at e
  obtain ⟨c1, e⟩ := ite_inr e
  obtain ⟨c2, e⟩ := chk_inr e
  obtain ⟨c3, e⟩ := ite_inr e
  obtain ⟨c5, e⟩ := chk_inr e
  obtain ⟨c6, e⟩ := chk_inr e
  obtain ⟨c7, e⟩ := chk_inr e
  obtain ⟨c10, e⟩ := chk_inr e
  cases e
  obtain ⟨⟨h1, h2, h3, h4, h5, h6, h7⟩, g1, g2, g3, g4, g5, g6, g7⟩ := h
  have n6 := cNum_n c6
  have n7 := cNum_n c7
  have w1 := kW_ok (cNm_n c2).1
  have nP : fP d (kW t (n + 1)) = none := Decidable.byContradiction (fun z => c3 (Or.inl z))
  have nB : fB d (kW t (n + 1)) = none := Decidable.byContradiction (fun z => c3 (Or.inr z))
  have fresh : ∀ i, vid d i → rnm d i ≠ kW t (n + 1) := by
    intro i hi
    rcases hi with z | z
    · exact fnd_n nP i z
    · have := fnd_n nB (i - 6) (by omega)
      rw [show 6 + (i - 6) = i by omega] at this
      exact this
  refine ⟨⟨⟨h1, h2, h3, by show rnb d + 1 ≤ 5; omega, h5, h6, h7⟩, fun p hp => ?_, fun b hb => ?_, g3, g4, fun i j hi hj hij => ?_, g6, g7⟩, by show n < n + 6; omega⟩
  · have hp : p < rnp d := hp
    show rkind d p ≤ 4 ∧ rpurse d p ≤ 9999 ∧ okw (uo (rnm d) (6 + rnb d) (kW t (n + 1)) p) ∧ rgoes d (p * 24) ≠ none
    rw [uo_n (by omega)]
    exact g1 p hp
  · have hb : b < rnb d + 1 := hb
    show uo (rbush d) (rnb d) (kV t (n + 4) * 8 + kV t (n + 3)) b < 64 ∧ okw (uo (rnm d) (6 + rnb d) (kW t (n + 1)) (6 + b))
    by_cases q : b = rnb d
    · subst q
      rw [uo_s, uo_s]
      exact ⟨cell_lt h1.2 h2.2 h1.1 h2.1 n6.2.2 n7.2.2, w1⟩
    · rw [uo_n q, uo_n (by omega)]; exact g2 b (by omega)
  · have hij : uo (rnm d) (6 + rnb d) (kW t (n + 1)) i = uo (rnm d) (6 + rnb d) (kW t (n + 1)) j := hij
    have hi : i < rnp d ∨ 6 ≤ i ∧ i < 6 + (rnb d + 1) := hi
    have hj : j < rnp d ∨ 6 ≤ j ∧ j < 6 + (rnb d + 1) := hj
    by_cases qi : i = 6 + rnb d
    · by_cases qj : j = 6 + rnb d
      · omega
      · rw [qi, uo_s, uo_n qj] at hij
        exact absurd hij.symm (fresh j (by unfold vid; omega))
    · by_cases qj : j = 6 + rnb d
      · rw [qj, uo_s, uo_n qi] at hij
        exact absurd hij (fresh i (by unfold vid; omega))
      · rw [uo_n qi, uo_n qj] at hij
        exact g5 i j (by unfold vid; omega) (by unfold vid; omega) hij
theorem GDr.go {t : List Nat} {n : Nat} {d : Dr} {x : Nat × Dr} (h : GDr d) (e : aGo t n d = .inr x) : GDr x.2 ∧ n < x.1 := by
  unfold aGo at e
  obtain ⟨c1, e⟩ := ite_inr e
  obtain ⟨c2, e⟩ := chk_inr e
  cases ep : fP d (kW t (n + 1)) with
  | none => rw [ep] at e; cases e
  | some p =>
    rw [ep] at e
    obtain ⟨c3, e⟩ := chk_inr e
    obtain ⟨c4, e⟩ := chk_inr e
    obtain ⟨c5, e⟩ := ite_inr e
    obtain ⟨c6, e⟩ := chk_inr e
    obtain ⟨c7, e⟩ := chk_inr e
    obtain ⟨c8, e⟩ := chk_inr e
    obtain ⟨c9, e⟩ := chk_inr e
    cases e
    obtain ⟨⟨h1, h2, h3, h4, h5, h6, h7⟩, g1, g2, g3, g4, g5, g6, g7⟩ := h
    have n7 := cNum_n c7
    have n8 := cNum_n c8
    refine ⟨⟨⟨h1, h2, h3, h4, h5, by show rgo d + 1 ≤ 20; omega, h7⟩, fun q hq => ?_, g2, fun i c hc => ?_, g4, g5, g6, g7⟩, by show n < n + 8; omega⟩
    · obtain ⟨a1, a2, a3, a4⟩ := g1 q hq
      refine ⟨a1, a2, a3, ?_⟩
      show uo (rgoes d) (p * 24 + kV t (n + 3)) (some (kV t (n + 6) * 8 + kV t (n + 5))) (q * 24) ≠ none
      by_cases z : q * 24 = p * 24 + kV t (n + 3)
      · rw [z, uo_s]; simp
      · rw [uo_n z]; exact a4
    · have hc : uo (rgoes d) (p * 24 + kV t (n + 3)) (some (kV t (n + 6) * 8 + kV t (n + 5))) i = some c := hc
      by_cases q : i = p * 24 + kV t (n + 3)
      · subst q
        rw [uo_s] at hc
        cases hc
        exact cell_lt h1.2 h2.2 h1.1 h2.1 n7.2.2 n8.2.2
      · rw [uo_n q] at hc; exact g3 i c hc
theorem GDr.call {t : List Nat} {n : Nat} {d : Dr} {x : Nat × Dr} (h : GDr d) (e : aCall t n d = .inr x) : GDr x.2 ∧ n < x.1 := by
  unfold aCall at e
  obtain ⟨c1, e⟩ := ite_inr e
  obtain ⟨c2, e⟩ := chk_inr e
  cases ep : fB d (kW t (n + 1)) with
  | none => rw [ep] at e; cases e
  | some b =>
    rw [ep] at e
    obtain ⟨c3, e⟩ := chk_inr e
    obtain ⟨c4, e⟩ := chk_inr e
    obtain ⟨c5, e⟩ := ite_inr e
    obtain ⟨c6, e⟩ := chk_inr e
    obtain ⟨c7, e⟩ := chk_inr e
    obtain ⟨c9, e⟩ := chk_inr e
    cases e
    obtain ⟨⟨h1, h2, h3, h4, h5, h6, h7⟩, g1, g2, g3, g4, g5, g6, g7⟩ := h
    have n4 := cNum_n c4
    have n7 := cNum_n c7
    have hb := (fnd_s ep).1
    refine ⟨⟨⟨h1, h2, h3, h4, h5, h6, by show rca d + 1 ≤ 30; omega⟩, g1, g2, g3, ⟨fun i hi => ?_, ?_⟩, g5, g6, g7⟩, by show n < n + 7; omega⟩
    · show un (rtimes d) (b * 24 + kV t (n + 3)) (kV t (n + 5)) i ≤ 9
      unfold un
      split
      · omega
      · exact g4.1 i hi
    · show fb_ct (fun i => decide (un (rtimes d) (b * 24 + kV t (n + 3)) (kV t (n + 5)) i ≠ 0)) 120 ≤ rca d + 1
      have := ct_un (f := rtimes d) (v := kV t (n + 5)) (n := 120) (i := b * 24 + kV t (n + 3)) (by omega)
      have := g4.2
      omega
theorem GDr.hear {t : List Nat} {n : Nat} {d : Dr} {x : Nat × Dr} (h : GDr d) (e : aHear t n d = .inr x) : GDr x.2 ∧ n < x.1 := by
  unfold aHear at e
  obtain ⟨c1, e⟩ := ite_inr e
  obtain ⟨c2, e⟩ := chk_inr e
  obtain ⟨c3, e⟩ := chk_inr e
  cases e
  obtain ⟨⟨h1, h2, h3, h4, h5, h6, h7⟩, g⟩ := h
  have n2 := cNum_n c2
  exact ⟨⟨⟨h1, h2, h3, h4, n2.2.2, h6, h7⟩, g⟩, by show n < n + 3; omega⟩
theorem law_wf {t : List Nat} {fog : Bool} {n : Nat} {x : Nat × List Int32} (h : aE t fog 36 0 0 n [] = .inr x) : wfc 0 x.2 = true ∧ (fog = true → ∀ y ∈ x.2, y ≠ -4) ∧ n < x.1 ∧ n + x.2.length ≤ x.1 := by
  obtain ⟨g1, g2, e, g3, g4⟩ := aE_good 36 0 0 n [] x (by decide) h
  rw [List.nil_append] at g3
  rw [List.length_nil] at g2
  refine ⟨?_, ?_, g1, by omega⟩
  · have := g4.1 0 [] (by decide)
    rw [List.append_nil] at this
    rw [g3, this]; rfl
  · intro hf y hy; rw [g3] at hy; exact g4.2 hf y hy
theorem GDr.law {t : List Nat} {fog : Bool} {n : Nat} {d : Dr} {x : Nat × Dr} (h : GDr d) (e : aLaw t fog n d = .inr x) : GDr x.2 ∧ n < x.1 := by
  unfold aLaw at e
  obtain ⟨c1, e⟩ := ite_inr e
  cases ep : aE t fog 36 0 0 (n + 1) [] with
  | inl f => rw [ep] at e; cases e
  | inr y =>
    rw [ep] at e
    obtain ⟨c3, e⟩ := chk_inr e
    cases e
    obtain ⟨l1, l2, l3, l4⟩ := law_wf ep
    obtain ⟨g0, g1, g2, g3, g4, g5, g6, g7⟩ := h
    refine ⟨⟨g0, g1, g2, g3, g4, g5, fun c hc => ?_, fun c hc => ?_⟩, by show n < y.1 + 1; omega⟩
    · have hc : (if fog then rowe d else some y.2) = some c := hc
      cases fog
      · have : y.2 = c := Option.some.inj hc
        rw [← this]; exact l1
      · exact g6 c hc
    · have hc : (if fog then some y.2 else rfog d) = some c := hc
      cases fog
      · exact g7 c hc
      · have : y.2 = c := Option.some.inj hc
        rw [← this]; exact ⟨l1, l2 rfl⟩
theorem GDr.line {t : List Nat} {n : Nat} {d : Dr} {x : Nat × Dr} (h : GDr d) (e : aLine t n d = .inr x) : GDr x.2 ∧ n < x.1 := by
  unfold aLine at e
  split at e
  · exact h.person e
  split at e
  · exact h.go e
  split at e
  · exact h.bird e
  split at e
  · exact h.call e
  split at e
  · exact h.law e
  split at e
  · exact h.law e
  split at e
  · exact h.hear e
  · cases e
theorem GDr.lines {t : List Nat} : ∀ {k n : Nat} {d d' : Dr}, GDr d → aLines t k n d = .inr d' → GDr d'
  | 0, n, d, d', h, e => by rw [aLines] at e; cases e; exact h
  | k + 1, n, d, d', h, e => by
    rw [aLines] at e
    split at e
    · cases e; exact h
    · cases el : aLine t n d with
      | inl f => rw [el] at e; cases e
      | inr x => rw [el] at e; exact GDr.lines (h.line el).1 e
theorem GDr.all {t : List Nat} {d : Dr} (e : aAll t = .inr d) : GDr d := by
  unfold aAll at e
  obtain ⟨c1, e⟩ := chk_inr e
  obtain ⟨c2, e⟩ := chk_inr e
  obtain ⟨c3, e⟩ := chk_inr e
  obtain ⟨c4, e⟩ := chk_inr e
  exact (GDr.z (cNum_n c2).2 (cNum_n c3).2).lines e
