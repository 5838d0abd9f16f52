/-! both together -/
theorem XLand.mo {l : Land} {M M' : Mem} (h : XLand l M) (hF : Fr2 SMO M M') : XLand l M' := h.mv (fun k hk => by
  have : ∀ k ∈ LC, k ∉ SMO := by decide
  exact (hF k (this k hk)).1)
theorem DX.mo {l : Land} {d : Deeds} {M M' : Mem} (h : DX l d M) (hF : Fr2 SMO M M') : DX l d M' := by
  obtain ⟨h1, h2, h3, h4, h5, h6, h7⟩ := h
  refine ⟨h1, h2.mo hF, ?_, ?_, ?_, ?_, h7⟩
  · unfold RC; rw [(hF c_debts_reach (by decide)).1]; exact h3
  · unfold KC; rw [(hF c_debts_rateKey (by decide)).1, (hF c_debts_rate (by decide)).1]; exact h4
  · unfold XT; rw [(hF c_deeds_times (by decide)).1]; exact h5
  · rw [(hF c_deeds (by decide)).1]; exact h6
theorem XRep.mo {σ : St} {M M' : Mem} (h : XRep σ M) (hF : Fr2 SMO M M') : XRep σ M' := ⟨h.1.mo hF, h.2.1, h.2.2.fr hF (by decide)⟩
theorem MRep.cl {σ : St} {M M' : Mem} (h : MRep σ M) (hF : Fr2 SCL M M') : MRep σ M' := h.of hF (by decide) (by decide)
def Rel (M : Mem) : Prop := ∃ σ, XRep σ M ∧ MRep σ M
theorem XRep.h20 {σ : St} {M : Mem} (h : XRep σ M) : (sH σ).length ≤ 20 := h.2.2.2.2.1.2.1
theorem r_person {a w : Int32} {M : Mem} (h : Rel M) : w_Top_person a w M (fun r M1 => w_Mo_person a w M1 (fun r2 M2 => r = r2 ∧ Rel M2 ∧ M2.1 c_outc = M.1 c_outc ∧ M2.2 c_outc = M.2 c_outc)) := by
  obtain ⟨σ, hX, hM⟩ := h
  refine x_Tperson hX (fun M1 hF1 hX1 => ?_)
  have hM1 := hM.cl hF1
  refine m_person hM1 hX1.1.1 (fun M2 hF2 hM2 => ⟨rfl, ⟨σ, hX1.mo hF2, hM2⟩, ?_, ?_⟩)
  · rw [(hF2 _ (by decide)).1, (hF1 _ (by decide)).1]
  · rw [(hF2 _ (by decide)).2, (hF1 _ (by decide)).2]
theorem r_place {a w : Int32} {M : Mem} (h : Rel M) : w_Top_place a w M (fun r M1 => w_Mo_place a w M1 (fun r2 M2 => r = r2 ∧ Rel M2 ∧ M2.1 c_outc = M.1 c_outc ∧ M2.2 c_outc = M.2 c_outc)) := by
  obtain ⟨σ, hX, hM⟩ := h
  refine x_Tplace hX (fun M1 hF1 hX1 => ?_)
  have hM1 := hM.cl hF1
  refine m_place hM1 hX1.1.1 (fun M2 hF2 hM2 => ⟨rfl, ⟨σ, hX1.mo hF2, hM2⟩, ?_, ?_⟩)
  · rw [(hF2 _ (by decide)).1, (hF1 _ (by decide)).1]
  · rw [(hF2 _ (by decide)).2, (hF1 _ (by decide)).2]
theorem r_calls {a w : Int32} {M : Mem} (h : Rel M) : w_Top_calls a w M (fun r M1 => w_Mo_calls a w M1 (fun r2 M2 => r = r2 ∧ Rel M2 ∧ M2.1 c_outc = M.1 c_outc ∧ M2.2 c_outc = M.2 c_outc)) := by
  obtain ⟨σ, hX, hM⟩ := h
  refine x_Tcalls hX (fun M1 hF1 hX1 => ?_)
  have hM1 := hM.cl hF1
  refine m_calls hM1 hX1.1.1 (fun M2 hF2 hM2 => ⟨rfl, ⟨σ, hX1.mo hF2, hM2⟩, ?_, ?_⟩)
  · rw [(hF2 _ (by decide)).1, (hF1 _ (by decide)).1]
  · rw [(hF2 _ (by decide)).2, (hF1 _ (by decide)).2]
theorem r_bird {a w : Int32} {M : Mem} (h : Rel M) : w_Top_bird a w M (fun r M1 => w_Mo_bird a w M1 (fun r2 M2 => r = r2 ∧ Rel M2 ∧ M2.1 c_outc = M.1 c_outc ∧ M2.2 c_outc = M.2 c_outc)) := by
  obtain ⟨σ, hX, hM⟩ := h
  refine x_Tbird hX (fun M1 hF1 hX1 => ?_)
  have hM1 := hM.cl hF1
  refine m_bird hM1 hX1.1.1 hX1.1.2.2.2.2.2.2 (fun M2 hF2 hM2 => ⟨rfl, ⟨σ, hX1.mo hF2, hM2⟩, ?_, ?_⟩)
  · rw [(hF2 _ (by decide)).1, (hF1 _ (by decide)).1]
  · rw [(hF2 _ (by decide)).2, (hF1 _ (by decide)).2]
theorem r_entry {a b c w : Int32} {M : Mem} (h : Rel M) : w_Top_entry a b c w M (fun r M1 => w_Mo_entry a b c w M1 (fun r2 M2 => r = r2 ∧ Rel M2 ∧ M2.1 c_outc = M.1 c_outc ∧ M2.2 c_outc = M.2 c_outc)) := by
  obtain ⟨σ, hX, hM⟩ := h
  refine x_Tentry hX (fun M1 hF1 hX1 => ?_)
  have hM1 := hM.cl hF1
  refine m_entry hM1 hX1.1.1 hX1.2.1 (fun M2 hF2 hM2 => ⟨rfl, ⟨σ, hX1.mo hF2, hM2⟩, ?_, ?_⟩)
  · rw [(hF2 _ (by decide)).1, (hF1 _ (by decide)).1]
  · rw [(hF2 _ (by decide)).2, (hF1 _ (by decide)).2]
theorem r_owed {a w : Int32} {M : Mem} (h : Rel M) : w_Top_owed a w M (fun r M1 => w_Mo_owed a w M1 (fun r2 M2 => r = r2 ∧ Rel M2 ∧ M2.1 c_outc = M.1 c_outc ∧ M2.2 c_outc = M.2 c_outc)) := by
  obtain ⟨σ, hX, hM⟩ := h
  refine x_Towed hX (fun M1 hF1 hX1 => ?_)
  have hM1 := hM.cl hF1
  refine m_owed hM1 hX1.1.1 hX1.2.1 (fun M2 hF2 hM2 => ⟨rfl, ⟨σ, hX1.mo hF2, hM2⟩, ?_, ?_⟩)
  · rw [(hF2 _ (by decide)).1, (hF1 _ (by decide)).1]
  · rw [(hF2 _ (by decide)).2, (hF1 _ (by decide)).2]
theorem r_netted {M : Mem} (h : Rel M) : w_Top_netted M (fun r M1 => w_Mo_netted M1 (fun r2 M2 => r = r2 ∧ Rel M2 ∧ M2.1 c_outc = M.1 c_outc ∧ M2.2 c_outc = M.2 c_outc)) := by
  obtain ⟨σ, hX, hM⟩ := h
  refine x_Tnetted hX (fun M1 hF1 hX1 => ?_)
  have hM1 := hM.cl hF1
  refine m_netted hM1 hX1.1.1 hX1.2.1 (fun M2 hF2 hM2 => ⟨rfl, ⟨σ, hX1.mo hF2, hM2⟩, ?_, ?_⟩)
  · rw [(hF2 _ (by decide)).1, (hF1 _ (by decide)).1]
  · rw [(hF2 _ (by decide)).2, (hF1 _ (by decide)).2]
theorem r_count {a : Int32} {M : Mem} (h : Rel M) : w_Top_count a M (fun r M1 => w_Mo_count a M1 (fun r2 M2 => r = r2 ∧ Rel M2 ∧ M2.1 c_outc = M.1 c_outc ∧ M2.2 c_outc = M.2 c_outc)) := by
  obtain ⟨σ, hX, hM⟩ := h
  refine x_Tcount hX (fun M1 hF1 hX1 => ?_)
  have hM1 := hM.cl hF1
  refine m_count hM1 hX1.1.1 hX1.2.1 (fun M2 hF2 hM2 => ⟨rfl, ⟨σ, hX1.mo hF2, hM2⟩, ?_, ?_⟩)
  · rw [(hF2 _ (by decide)).1, (hF1 _ (by decide)).1]
  · rw [(hF2 _ (by decide)).2, (hF1 _ (by decide)).2]
theorem r_wooden {a : Int32} {M : Mem} (h : Rel M) : w_Top_wooden a M (fun r M1 => w_Mo_wooden a M1 (fun r2 M2 => r = r2 ∧ Rel M2 ∧ M2.1 c_outc = M.1 c_outc ∧ M2.2 c_outc = M.2 c_outc)) := by
  obtain ⟨σ, hX, hM⟩ := h
  refine x_Twood hX (fun M1 hF1 hX1 => ?_)
  have hM1 := hM.cl hF1
  refine m_wooden hM1 hX1.1.1 hX1.2.1 (fun M2 hF2 hM2 => ⟨rfl, ⟨σ, hX1.mo hF2, hM2⟩, ?_, ?_⟩)
  · rw [(hF2 _ (by decide)).1, (hF1 _ (by decide)).1]
  · rw [(hF2 _ (by decide)).2, (hF1 _ (by decide)).2]
theorem r_june {a : Int32} {M : Mem} (h : Rel M) : w_Top_june a M (fun r M1 => w_Mo_june a M1 (fun r2 M2 => r = r2 ∧ Rel M2 ∧ M2.1 c_outc = M.1 c_outc ∧ M2.2 c_outc = M.2 c_outc)) := by
  obtain ⟨σ, hX, hM⟩ := h
  refine x_Tjune hX (fun M1 hF1 hX1 => ?_)
  have hM1 := hM.cl hF1
  refine m_june hM1 hX1.1.1 hX1.2.1 (fun M2 hF2 hM2 => ⟨rfl, ⟨σ, hX1.mo hF2, hM2⟩, ?_, ?_⟩)
  · rw [(hF2 _ (by decide)).1, (hF1 _ (by decide)).1]
  · rw [(hF2 _ (by decide)).2, (hF1 _ (by decide)).2]
theorem r_played {a b w : Int32} {M : Mem} (h : Rel M) : w_Top_played a b w M (fun r M1 => w_Mo_played a b w M1 (fun r2 M2 => r = r2 ∧ Rel M2 ∧ M2.1 c_outc = M.1 c_outc ∧ M2.2 c_outc = M.2 c_outc)) := by
  obtain ⟨σ, hX, hM⟩ := h
  refine x_Tplayed hX (fun M1 hF1 hX1 => ?_)
  have hM1 := hM.cl hF1
  refine m_played hM1 hX1.1.1 hX1.2.1 (fun M2 hF2 hM2 => ⟨rfl, ⟨σ, hX1.mo hF2, hM2⟩, ?_, ?_⟩)
  · rw [(hF2 _ (by decide)).1, (hF1 _ (by decide)).1]
  · rw [(hF2 _ (by decide)).2, (hF1 _ (by decide)).2]
theorem r_call {a b w : Int32} {M : Mem} (h : Rel M) : w_Top_call a b w M (fun r M1 => w_Mo_call a b w M1 (fun r2 M2 => r = r2 ∧ Rel M2 ∧ M2.1 c_outc = M.1 c_outc ∧ M2.2 c_outc = M.2 c_outc)) := by
  obtain ⟨σ, hX, hM⟩ := h
  refine x_Tcall hX (fun M1 hF1 hX1 => ?_)
  have hM1 := hM.cl hF1
  refine m_call hM1 hX.1.1 hX.h20 hX.2.1 (fun M2 hF2 hM2 => ⟨rfl, ⟨callN σ a b w, hX1.mo hF2, hM2⟩, ?_, ?_⟩)
  · rw [(hF2 _ (by decide)).1, (hF1 _ (by decide)).1]
  · rw [(hF2 _ (by decide)).2, (hF1 _ (by decide)).2]
theorem r_shoot {a w : Int32} {M : Mem} (h : Rel M) : w_Top_shoot a w M (fun r M1 => w_Mo_shoot a w M1 (fun r2 M2 => r = r2 ∧ Rel M2 ∧ M2.1 c_outc = M.1 c_outc ∧ M2.2 c_outc = M.2 c_outc)) := by
  obtain ⟨σ, hX, hM⟩ := h
  refine x_Tshoot hX (fun M1 hF1 hX1 => ?_)
  have hM1 := hM.cl hF1
  refine m_shoot hM1 hX.1.1 hX.h20 hX.1.2.2.2.2.2.2 (fun M2 hF2 hM2 => ⟨rfl, ⟨shootN σ a w, hX1.mo hF2, hM2⟩, ?_, ?_⟩)
  · rw [(hF2 _ (by decide)).1, (hF1 _ (by decide)).1]
  · rw [(hF2 _ (by decide)).2, (hF1 _ (by decide)).2]
theorem r_undo {M : Mem} (h : Rel M) : w_Top_undo M (fun r M1 => w_Mo_undo M1 (fun r2 M2 => r = r2 ∧ Rel M2 ∧ M2.1 c_outc = M.1 c_outc ∧ M2.2 c_outc = M.2 c_outc)) := by
  obtain ⟨σ, hX, hM⟩ := h
  refine x_Tundo hX (fun M1 hF1 hX1 => ?_)
  have hM1 := hM.cl hF1
  refine m_undo hM1 hX.h20 (fun M2 hF2 hM2 => ⟨rfl, ⟨undoN σ, hX1.mo hF2, hM2⟩, ?_, ?_⟩)
  · rw [(hF2 _ (by decide)).1, (hF1 _ (by decide)).1]
  · rw [(hF2 _ (by decide)).2, (hF1 _ (by decide)).2]
theorem r_told {a w : Int32} {M : Mem} (h : Rel M) : w_Top_told a w M (fun r M1 => w_Mo_told a w M1 (fun r2 M2 => r = r2 ∧ Rel M2 ∧ M2.1 c_outc = M.1 c_outc ∧ M2.2 c_outc = M.2 c_outc)) := by
  obtain ⟨σ, hX, hM⟩ := h
  refine x_Ttold hX (fun M1 hF1 hX1 => ?_)
  have hM1 := hM.cl hF1
  refine m_told hM1 hX.1.1 (fun M2 hF2 hM2 => ⟨rfl, ⟨toldN σ a w, hX1.mo hF2, hM2⟩, ?_, ?_⟩)
  · rw [(hF2 _ (by decide)).1, (hF1 _ (by decide)).1]
  · rw [(hF2 _ (by decide)).2, (hF1 _ (by decide)).2]
theorem r_mark {a w : Int32} {M : Mem} (h : Rel M) : w_Top_mark a w M (fun r M1 => w_Mo_mark a w M1 (fun r2 M2 => r = r2 ∧ Rel M2 ∧ M2.1 c_outc = M.1 c_outc ∧ M2.2 c_outc = M.2 c_outc)) := by
  obtain ⟨σ, hX, hM⟩ := h
  refine x_Tmark hX (fun M1 hF1 hX1 => ?_)
  have hM1 := hM.cl hF1
  refine m_mark hM1 hX.h20 (fun M2 hF2 hM2 => ⟨rfl, ⟨markN σ a w, hX1.mo hF2, hM2⟩, ?_, ?_⟩)
  · rw [(hF2 _ (by decide)).1, (hF1 _ (by decide)).1]
  · rw [(hF2 _ (by decide)).2, (hF1 _ (by decide)).2]
theorem r_feed {a b c : Int64} {M : Mem} (h : Rel M) : w_Top_feed a b c M (fun r M1 => w_Mo_feed a b c M1 (fun r2 M2 => r = r2 ∧ Rel M2 ∧ M2.1 c_outc = M.1 c_outc ∧ M2.2 c_outc = M.2 c_outc)) := by
  obtain ⟨σ, hX, hM⟩ := h
  refine x_Tfeed hX (fun M1 hF1 hX1 => ?_)
  have hM1 := hM.cl hF1
  refine m_feed hM1 (fun M2 hF2 hM2 => ⟨rfl, ⟨feedN σ a b c, hX1.mo hF2, hM2⟩, ?_, ?_⟩)
  · rw [(hF2 _ (by decide)).1, (hF1 _ (by decide)).1]
  · rw [(hF2 _ (by decide)).2, (hF1 _ (by decide)).2]
