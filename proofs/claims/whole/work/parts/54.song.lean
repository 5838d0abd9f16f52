theorem MBy.rm {l : Land} {ds : Deeds} {h : Nat} {M : Mem} {v : Int32} (hB : MBy l ds h M) : MBy l ds h (si M c_mo Mo_rowsMany v) := fun b t p hb ht hp => by
  rw [si_ne _ _ _ (by decide)]; exact hB b t p hb ht hp
theorem MF.rm {M : Mem} {v : Int32} : MF M (si M c_mo Mo_rowsMany v) := ⟨fr_si (by decide), by rw [si_same, up_n (by decide)], by rw [si_same, up_n (by decide)], by rw [si_same, up_n (by decide)]⟩
theorem m_allSongs {σ : St} {h : Nat} {wI : Int32} {M : Mem} {Q : Mem → Prop} (hM : MRep σ M) (hl : LOK (sL σ)) (hg : dgood (sL σ) (sD σ)) (hB : MBy (sL σ) (sD σ) h M) (k : ∀ M', MF M M' → M'.1 c_mo Mo_rowsMany = nI (vrD (sL σ) (sD σ) h).length → (∀ w, wI = nI w → w < (vrD (sL σ) (sD σ) h).length → ∀ j, j < lnb (sL σ) → M'.1 c_mo_asked j = nI (((vrD (sL σ) (sD σ) h).getD w []).getD j 0)) → Q M') : ∃ n, n ≤ 64 ∧ w_Mo_sings n 0 wI (si M c_mo Mo_rowsMany 0) Q := by
  have hnb := hl.2.2.2.1
  have h6 : (6 : Nat) ^ lnb (sL σ) ≤ 6 ^ 5 := Nat.pow_le_pow_right (by decide) hnb
  have h7 := vrD_len (ds := sD σ) (h := h) hl
  refine ⟨64, Nat.le_refl _, m_sings (h := h) hl hg (lnb (sL σ)) 0 64 0 [] _ Q (by omega) (by omega) (hM.scr MF.rm) hB.rm (fun j hj => absurd hj (Nat.not_lt_zero j)) rfl (by rw [si_same, up_s]; rfl) (by omega) (fun M1 f1 f2 f3 f4 f5 => ?_)⟩
  have em : ((sgL σ h (lnb (sL σ)) 0 []).map (fun s => [] ++ s)) = vrD (sL σ) (sD σ) h := by rw [sgL_vrD]; exact List.map_id' _
  rw [em] at f5
  rw [sgL_vrD, Nat.zero_add] at f3
  refine k M1 (MF.rm.trans f1) f3 (fun w ew hw j hj => ?_)
  have := (f5 w ew (by omega)).1 ⟨Nat.zero_le _, by omega⟩ j hj
  rw [Nat.sub_zero] at this
  exact this
theorem m_sang {σ : St} {h : Int32} {M : Mem} {Q : Int32 → Mem → Prop} (hM : MRep σ M) (hl : LOK (sL σ)) (hg : dgood (sL σ) (sD σ)) (k : ∀ M', Fr2 SMO M M' → MRep σ M' → Q (sangR (sL σ) (sD σ) h) M') : w_Mo_sang h M Q := by
  have hM1 := hM.thr (v := 0)
  unfold w_Mo_sang
  have hF1 : Fr2 SMO M (si M c_mo Mo_thrown 0) := fr2_si (by decide)
  generalize si M c_mo Mo_thrown 0 = M1 at hM1 hF1 ⊢
  refine m_isHour ⟨fun h1 => ?_, fun h1 => ?_⟩
  · obtain ⟨h, hh, rfl⟩ := inR_true (by omega) h1
    unfold sangR at k
    rw [h1, if_pos rfl] at k
    unfold anI at k
    rw [nI_clamp (by omega)] at k
    refine m_findHour hM1 hl hg.1.2.1 hh (fun M2 hf2 hM2 hB2 => m_allSongs hM2 hl hg hB2 (fun M3 hf3 g1 _ => ?_))
    rw [g1]
    exact k M3 (hF1.trans (hf2.trans hf3).two) (hM2.scr hf3)
  · have := k M1 hF1 hM1
    rw [sangR, h1] at this; exact this
theorem m_song {σ : St} {h w b : Int32} {M : Mem} {Q : Int32 → Mem → Prop} (hM : MRep σ M) (hl : LOK (sL σ)) (hg : dgood (sL σ) (sD σ)) (k : ∀ M', Fr2 SMO M M' → MRep σ M' → Q (songR (sL σ) (sD σ) h w b) M') : w_Mo_song h w b M Q := by
  have hnb := hl.2.2.2.1
  have hM1 := hM.thr (v := 0)
  unfold w_Mo_song
  have hF1 : Fr2 SMO M (si M c_mo Mo_thrown 0) := fr2_si (by decide)
  generalize si M c_mo Mo_thrown 0 = M1 at hM1 hF1 ⊢
  have k0 := k M1 hF1 hM1
  refine m_isHour ⟨fun h1 => ?_, fun h1 => ⟨fun h2 => ?_, fun h2 => m_isBird hM1.1 ⟨fun h3 => ?_, fun h3 => ?_⟩⟩⟩
  · rw [songR, h1] at k0; exact k0
  · rw [songR, h1, if_pos rfl, if_pos h2] at k0; exact k0
  · rw [songR, h1, if_pos rfl, if_neg h2, h3] at k0; exact k0
  · obtain ⟨h, hh, rfl⟩ := inR_true (by omega) h1
    obtain ⟨w, hw, rfl⟩ := nI_of h2
    obtain ⟨b, hb, rfl⟩ := inR_true (by omega) h3
    unfold songR at k k0
    rw [h1, if_pos rfl, if_neg h2, h3, if_pos rfl] at k k0
    unfold anI at k k0
    rw [nI_clamp (by omega), nI_clamp hw, nI_clamp (by omega)] at k k0
    have h7 := vrD_len (ds := sD σ) (h := h) hl
    refine m_isShot hM1.2.1 hg.1.2.1 (by omega) ⟨fun h4 => ?_, fun h4 => ?_⟩
    · rw [h4, if_neg (by decide)] at k
      refine m_findHour hM1 hl hg.1.2.1 hh (fun M2 hf2 hM2 hB2 => m_allSongs hM2 hl hg hB2 (fun M3 hf3 g1 g2 => ?_))
      have kz := k M3 (hF1.trans (hf2.trans hf3).two) (hM2.scr hf3)
      rw [g1]
      refine br_le (by omega) hw (fun q => ?_) (fun q => ?_)
      · rw [if_neg (by omega)] at kz; exact kz
      · rw [if_pos q] at kz
        rw [nI_clamp (by omega), g2 w rfl q b hb]
        exact ⟨vp_in_nI (by omega) (by decide), kz⟩
    · rw [h4, if_pos rfl] at k0; exact k0
theorem r_sang {a : Int32} {M : Mem} (h : Rel M) : w_Top_sang a M (fun r M1 => w_Mo_sang a M1 (fun r2 M2 => r = r2 ∧ Rel M2 ∧ M2.1 c_outc = M.1 c_outc ∧ M2.2 c_outc = M.2 c_outc)) := by
  obtain ⟨σ, hX, hM⟩ := h
  refine x_Tsang hX (fun M1 hF1 hX1 => ?_)
  have hM1 := hM.cl hF1
  refine m_sang hM1 hX1.1.1 hX1.2.1 (fun M2 hF2 hM2 => ⟨rfl, ⟨σ, hX1.mo hF2, hM2⟩, ?_, ?_⟩)
  · rw [(hF2 _ (by decide)).1, (hF1 _ (by decide)).1]
  · rw [(hF2 _ (by decide)).2, (hF1 _ (by decide)).2]
theorem r_song {a b w : Int32} {M : Mem} (h : Rel M) : w_Top_song a b w M (fun r M1 => w_Mo_song a b w M1 (fun r2 M2 => r = r2 ∧ Rel M2 ∧ M2.1 c_outc = M.1 c_outc ∧ M2.2 c_outc = M.2 c_outc)) := by
  obtain ⟨σ, hX, hM⟩ := h
  refine x_Tsong hX (fun M1 hF1 hX1 => ?_)
  have hM1 := hM.cl hF1
  refine m_song hM1 hX1.1.1 hX1.2.1 (fun M2 hF2 hM2 => ⟨rfl, ⟨σ, hX1.mo hF2, hM2⟩, ?_, ?_⟩)
  · rw [(hF2 _ (by decide)).1, (hF1 _ (by decide)).1]
  · rw [(hF2 _ (by decide)).2, (hF1 _ (by decide)).2]
