/-! the law's own rows: the script, the end of a case -/
def SCR (X : Cx) (n : Nat) (f : Nat → Int32) : Prop := match X with
  | (p, l, e, R, s, m, args, below, meth, c, Q, D, cA, ad, A) => va_X (ad 95) n f s s.heap ∧ ad 95 < s.heap.size ∧ ¬ A (ad 95)
abbrev lvL (i : Nat) : List (Option AV) := [some (vr 95), some (vr c_xx), some (vr c_mo), some (vr c_outc), some (vi (nI i)), none, none]
def nzI (x : Int32) : Int32 := if x = 0 then 0 else 1
def GX (X : Cx) (c0 s0 n : Nat) (f : Nat → Int32) (cells slots i : Nat) : Prop := Cok X cL_law RL 7 (some .boolean) 1000 c0 s0 ∧ TXl X ∧ SCR X n f ∧ i + 7 ≤ n ∧ n ≤ 3584 ∧ cells + 1 ≤ c0 ∧ slots + 6 ≤ s0
section LWR
variable {X : Cx} {cc : ByteArray} {own : String} {nL : Nat} {ret : Option FieldType} {lev c0 s0 cells slots pc : Nat} {L : List DS} {lv lv' : List (Option AV)} {st : List AV} {M : Mem}
theorem s_widen {k n : Nat} (h1 : cells ≤ k) (h2 : slots ≤ n) (kk : Wat X k n L pc lv st M) : Wat X cells slots L pc lv st M := by
  obtain ⟨p, l, e, R, s, m, args, below, meth, c, Q, D, cA, ad, A⟩ := X
  intro H locs ls hw hl
  exact W.widen h1 h2 (kk H locs ls hw hl)
theorem s_forget (hlen : lv'.length = lv.length) (hs : ∀ (j : Nat) (v : AV), lv'[j]? = some (some v) → lv[j]? = some (some v)) (kk : Wat X cells slots L pc lv' st M) : Wat X cells slots L pc lv st M := by
  obtain ⟨p, l, e, R, s, m, args, below, meth, c, Q, D, cA, ad, A⟩ := X
  intro H locs ls hw hl
  refine kk H locs ls hw ⟨by rw [hlen]; exact hl.1, hl.2.1, fun q hq => hl.2.2 q ?_⟩
  obtain ⟨j, v, h1, rfl⟩ := (lvl_mem ad lv' 0 q).mp hq
  exact (lvl_mem ad lv 0 _).mpr ⟨j, v, hs j v h1, rfl⟩
theorem fg_ok {i : Nat} {x y : AV} : ∀ (j : Nat) (v : AV), (lvL i)[j]? = some (some v) → ([some (vr 95), some (vr c_xx), some (vr c_mo), some (vr c_outc), some (vi (nI i)), some x, some y] : List (Option AV))[j]? = some (some v) := fun j v h => by
  match j, h with
  | 0, h => exact h
  | 1, h => exact h
  | 2, h => exact h
  | 3, h => exact h
  | 4, h => exact h
  | 5, h => cases h
  | 6, h => cases h
  | j + 7, h => cases h
theorem s_sld (hX : Cok X cc own nL ret lev c0 s0) {n : Nat} {f : Nat → Int32} (hS : SCR X n f) {j : Nat} {x : Int32} (hj : j < n) (hn : j < 2 ^ 31) (hx : x = nI j) (d : decode cc pc = .ok (.iaload, 1)) (k : Wat X cells slots L (pc + 1) lv (vi (f j) :: st) M) : Wat X cells slots L pc lv (vi x :: vr 95 :: st) M := by
  obtain ⟨p, l, e, R, s, m, args, below, meth, c, Q, D, cA, ad, A⟩ := X
  obtain ⟨⟨hx0, hb, hml, hown, hts⟩, hK, hA, hlk, hrt, hR⟩ := hX
  obtain ⟨h1, h2, h3⟩ := hS
  subst hx
  intro H locs ls hw hl
  have hin : vp_in (nI j) n := by
    unfold vp_in
    rintro (q | q)
    · exact absurd q (nI_pos hn)
    · rw [nI_clamp hn] at q; omega
  refine va_sld hx0 hb h1 h2 h3 hw.2.2 hin d ?_
  rw [nI_clamp hn]
  exact k H locs ls hw hl
theorem s_slen (hX : Cok X cc own nL ret lev c0 s0) {n : Nat} {f : Nat → Int32} (hS : SCR X n f) (d : decode cc pc = .ok (.arraylength, 1)) (k : Wat X cells slots L (pc + 1) lv (vi (nI n) :: st) M) : Wat X cells slots L pc lv (vr 95 :: st) M := by
  obtain ⟨p, l, e, R, s, m, args, below, meth, c, Q, D, cA, ad, A⟩ := X
  obtain ⟨⟨hx0, hb, hml, hown, hts⟩, hK, hA, hlk, hrt, hR⟩ := hX
  obtain ⟨h1, h2, h3⟩ := hS
  intro H locs ls hw hl
  exact va_slen hx0 hb h1 h2 h3 hw.2.2 d (k H locs ls hw hl)
theorem s_nz (hX : Cok X cc own nL ret lev c0 s0) {x : Int32} {tgt : Nat} (d0 : decode cc pc = .ok (.ifCond .eq 7, 3)) (ht : (pc : Int) + 7 = (tgt : Int)) (d3 : decode cc (pc + 3) = .ok (.iconst 1, 1)) {tgt2 : Nat} (d4 : decode cc (pc + 3 + 1) = .ok (.goto 4, 3)) (ht2 : ((pc + 3 + 1 : Nat) : Int) + 4 = (tgt2 : Int)) (d7 : decode cc tgt = .ok (.iconst 0, 1)) (k : Wat X cells slots L tgt2 lv (vi (nzI x) :: st) M) : Wat X cells slots L pc lv (vi x :: st) M := by
  have e2 : tgt2 = tgt + 1 := by omega
  unfold nzI at k
  refine s_if_eq (tgt := tgt) hX d0 ht (fun c => ?_) (fun c => ?_)
  · rw [if_pos c] at k
    refine s_iconst (v := 0) hX d7 rfl ?_
    rw [e2] at k; exact k
  · rw [if_neg c] at k
    refine s_iconst (v := 1) hX d3 rfl ?_
    exact s_goto (tgt := tgt2) hX d4 ht2 k
end LWR
