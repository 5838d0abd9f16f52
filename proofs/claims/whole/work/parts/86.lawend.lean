/-! the law's end -/
def LQ (X : Cx) : Prop := match X with
  | (p, l, e, R, s, m, args, below, meth, c, Q, D, cA, ad, A) => R = room_1 ∧ (∃ b, args = #[Value.ref b]) ∧ Q = lw_Z below args s ∧ ∀ q, A q → s.heap.size ≤ q
theorem s_lend {X : Cx} {cells slots i : Nat} {M : Mem} (hX : Cok X cL_law RL 7 (some .boolean) 1000 601024 7293034) (hq : LQ X) (h1 : cells ≤ 601024) (h2 : slots ≤ 7293034) : Wat X cells slots LY 1304 (lvL i) [] M := by
  refine s_iconst (v := 1) hX dL_law_1304 rfl ?_
  obtain ⟨p, l, e, R, s, m, args, below, meth, c, Q, D, cA, ad, A⟩ := X
  obtain ⟨⟨hx, hb, hml, hown, hts⟩, hK, hA, hlk, hrt, hR⟩ := hX
  obtain ⟨rfl, ⟨b, rfl⟩, rfl, hA2⟩ := hq
  intro H locs ls hw hl
  exact W.widen h1 h2 (va_forget (fun q hq => hA2 _ (hw.2.2.2.2 q hq)) (lw_ret hx hb hrt hlk dL_law_1305))
/-- from the head of the loop, all made and tied -/
theorem g_law {X : Cx} {n cells slots : Nat} {f : Nat → Int32} {M : Mem} (hX : Cok X cL_law RL 7 (some .boolean) 1000 601024 7293034) (hq : LQ X) (hT : TXl X) (hS : SCR X n f) (hn : n ≤ 3584) (h1 : cells ≤ 600000) (h2 : slots ≤ 7289000) (hR : Rel M) : Wat X cells slots LY 23 (lvL 0) [] M :=
  g_loop hX hT hS hn (fun c s i M h1 h2 => s_lend hX hq h1 h2) 512 0 cells slots M (by omega) (by omega) (by omega) (by omega) hR
