/-! what is made: the tape's table is the table of words -/
theorem kwF_KW : ∀ i, i < 24 → kwF 108 i = lN (w5 (KW.getD i [])) := by decide +kernel
