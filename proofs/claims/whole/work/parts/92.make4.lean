/-! making cells over an empty memory -/
def Z0 (n : Nat) (M : Mem) : Prop := ∀ k, n ≤ k → M.1 k = (fun _ => 0) ∧ M.2 k = (fun _ => 0)
theorem Z0.mono {a b : Nat} {M : Mem} (h : Z0 a M) (hab : a ≤ b) : Z0 b M := fun k hk => h k (Nat.le_trans hab hk)
theorem Z0.si {n k j : Nat} {M : Mem} {v : Int32} (h : Z0 n M) (hk : k < n) : Z0 n (si M k j v) := fun q hq => ⟨by rw [si_ne M j v (by omega)]; exact (h q hq).1, (h q hq).2⟩
theorem Z0.sl {n k j : Nat} {M : Mem} {v : Int64} (h : Z0 n M) (hk : k < n) : Z0 n (sl M k j v) := fun q hq => ⟨(h q hq).1, by rw [sl_ne M j v (by omega)]; exact (h q hq).2⟩
theorem zM_eq {n : Nat} {M : Mem} (h : Z0 n M) : zM M n = M := by
  refine Prod.ext ?_ ?_
  · funext q
    by_cases hq : q = n
    · subst hq; rw [zM_1, (h q (Nat.le_refl _)).1]
    · rw [zM_n1 hq]
  · funext q
    by_cases hq : q = n
    · subst hq; rw [zM_2, (h q (Nat.le_refl _)).2]
    · rw [zM_n2 hq]
/-- the layout with k cells made, and those that are not yet whole -/
def lay (k : Nat) (ps : List (Nat × DS)) : List DS := ps.foldl (fun L p => L.set p.1 p.2) (LY.take k)
section MKZ
variable {X : Cx} {cc : ByteArray} {own : String} {nL : Nat} {ret : Option FieldType} {lev c0 s0 cells slots pc : Nat} {L L' : List DS} {lv : List (Option AV)} {st : List AV} {M : Mem}
theorem s_nw (hX : Cok X cc own nL ret lev c0 s0) {ci N idx : Nat} {C : String} {T : u_T} {ty0 : Nat → FieldType} {fs : List FD} (hz : Z0 L.length M) (hcl : cls[ci]? = some (C, T, N)) (hp : FP ci C T N ty0) (hws : ∀ w ∈ u_ws C T N, w ∈ TB) (h1 : Cond.classLink own idx C ∈ TB) (h2 : Cond.instantiable C N ∈ TB) (h3 : Cond.initialized C ∈ TB)
    (hfs : dfk ty0 0 fs = true) (hfl : fs.length = N) (hfk : fs.all (fdk L.length) = true) (hL : L.all (dsk L.length) = true) (hlv : lv.all (lvk L.length (L.length + 1)) = true) (hst : st.all (avk L.length (L.length + 1)) = true) (hc : cells + 1 ≤ c0) (hs : slots + N ≤ s0) (d : decode cc pc = .ok (.new idx, 3)) (hL' : L ++ [.inl (ci, fs)] = L')
    (k1 : ∀ X' : Cx, XE L.length (L.length + 1) X X' → Wat X' (cells + 1) (slots + N) L' (pc + 3) lv (vr L.length :: st) M) : Wat X cells slots L pc lv st M :=
  s_new hX hcl hp hws h1 h2 h3 hfs hfl hfk hL hlv hst hc hs d (fun X' hE => by rw [zM_eq hz, hL']; exact k1 X' hE)
theorem s_nwi (hX : Cok X cc own nL ret lev c0 s0) {n : Nat} {x : Int32} (hz : Z0 L.length M) (hx0 : x = nI n) (hn : n ≤ 10000)
    (hL : L.all (dsk L.length) = true) (hlv : lv.all (lvk L.length (L.length + 1)) = true) (hst : st.all (avk L.length (L.length + 1)) = true) (hc : cells + 1 ≤ c0) (hs : slots + n ≤ s0) (d : decode cc pc = .ok (.newarray .int, 2)) (hL' : L ++ [.inr (0, n, [])] = L')
    (k1 : ∀ X' : Cx, XE L.length (L.length + 1) X X' → Wat X' (cells + 1) (slots + n) L' (pc + 2) lv (vr L.length :: st) M) : Wat X cells slots L pc lv (vi x :: st) M :=
  s_newa (t := 0) (ty := .int) (z := .inl (fun _ => 0)) hX rfl wd_ac_int (fun _ => rfl) (fun U a b h1 h2 => Option.some.inj (Eq.trans (Eq.symm h1) h2)) (fun ad M k h1 h2 => by show Sum.inl (M.1 k) = _; rw [h1]) (fun _ => rfl) hx0 (by omega) (by show n * 4 ≤ _; omega) hL hlv hst hc hs d (fun X' hE => by rw [zM_eq hz, hL']; exact k1 X' hE)
theorem s_nwc (hX : Cok X cc own nL ret lev c0 s0) {n : Nat} {x : Int32} (hz : Z0 L.length M) (hx0 : x = nI n) (hn : n ≤ 10000)
    (hL : L.all (dsk L.length) = true) (hlv : lv.all (lvk L.length (L.length + 1)) = true) (hst : st.all (avk L.length (L.length + 1)) = true) (hc : cells + 1 ≤ c0) (hs : slots + n ≤ s0) (d : decode cc pc = .ok (.newarray .char, 2)) (hL' : L ++ [.inr (2, n, [])] = L')
    (k1 : ∀ X' : Cx, XE L.length (L.length + 1) X X' → Wat X' (cells + 1) (slots + n) L' (pc + 2) lv (vr L.length :: st) M) : Wat X cells slots L pc lv (vi x :: st) M :=
  s_newa (t := 2) (ty := .char) (z := .inl (fun _ => 0)) hX rfl wd_ac_char (fun _ => rfl) (fun U a b h1 h2 => Option.some.inj (Eq.trans (Eq.symm h1) h2)) (fun ad M k h1 h2 => by show Sum.inl (M.1 k) = _; rw [h1]) (fun _ => rfl) hx0 (by omega) (by show n * 2 ≤ _; omega) hL hlv hst hc hs d (fun X' hE => by rw [zM_eq hz, hL']; exact k1 X' hE)
theorem s_nwz (hX : Cok X cc own nL ret lev c0 s0) {n : Nat} {x : Int32} (hz : Z0 L.length M) (hx0 : x = nI n) (hn : n ≤ 10000)
    (hL : L.all (dsk L.length) = true) (hlv : lv.all (lvk L.length (L.length + 1)) = true) (hst : st.all (avk L.length (L.length + 1)) = true) (hc : cells + 1 ≤ c0) (hs : slots + n ≤ s0) (d : decode cc pc = .ok (.newarray .boolean, 2)) (hL' : L ++ [.inr (3, n, [])] = L')
    (k1 : ∀ X' : Cx, XE L.length (L.length + 1) X X' → Wat X' (cells + 1) (slots + n) L' (pc + 2) lv (vr L.length :: st) M) : Wat X cells slots L pc lv (vi x :: st) M :=
  s_newa (t := 3) (ty := .boolean) (z := .inl (fun _ => 0)) hX rfl wd_ac_boolean (fun _ => rfl) (fun U a b h1 h2 => Option.some.inj (Eq.trans (Eq.symm h1) h2)) (fun ad M k h1 h2 => by show Sum.inl (M.1 k) = _; rw [h1]) (fun _ => rfl) hx0 (by omega) (by show n * 1 ≤ _; omega) hL hlv hst hc hs d (fun X' hE => by rw [zM_eq hz, hL']; exact k1 X' hE)
theorem s_nwl (hX : Cok X cc own nL ret lev c0 s0) {n : Nat} {x : Int32} (hz : Z0 L.length M) (hx0 : x = nI n) (hn : n ≤ 10000)
    (hL : L.all (dsk L.length) = true) (hlv : lv.all (lvk L.length (L.length + 1)) = true) (hst : st.all (avk L.length (L.length + 1)) = true) (hc : cells + 1 ≤ c0) (hs : slots + n ≤ s0) (d : decode cc pc = .ok (.newarray .long, 2)) (hL' : L ++ [.inr (1, n, [])] = L')
    (k1 : ∀ X' : Cx, XE L.length (L.length + 1) X X' → Wat X' (cells + 1) (slots + n) L' (pc + 2) lv (vr L.length :: st) M) : Wat X cells slots L pc lv (vi x :: st) M :=
  s_newa (t := 1) (ty := .long) (z := .inr (.inl (fun _ => 0))) hX rfl wd_ac_long (fun _ => rfl) (fun U a b h1 h2 => Option.some.inj (Eq.trans (Eq.symm h1) h2)) (fun ad M k h1 h2 => by show Sum.inr (Sum.inl (M.2 k)) = _; rw [h2]) (fun _ => rfl) hx0 (by omega) (by show n * 8 ≤ _; omega) hL hlv hst hc hs d (fun X' hE => by rw [zM_eq hz, hL']; exact k1 X' hE)
end MKZ
