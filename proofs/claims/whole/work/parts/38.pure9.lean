/-! ===== PURE: bounds kept by value, the channel kept ===== -/
section PB
theorem valueE_bd {sn : Nat} {vf : Nat → UInt64} {ch p k : Int32} {v : UInt64} (hv : bd 1055 v) (h : ∀ i, i < 128 * sn → bd 1033 (vf i)) : ∀ i, i < 128 * sn → bd 1033 ((fX3_value ch sn vf p k v).2 i) := by
  unfold fX3_value fX0_tell
  by_cases a : fX0_placeOf sn ch p k = -1
  · rw [if_pos a]; exact h
  · by_cases b : fX3_within v FP.dconst0 (4652007308841189376 : UInt64) = 0
    · rw [if_neg a, if_pos b]; exact h
    · rw [if_neg a, if_neg b]
      exact bd_vfupd h (wth_bd (bd47 hv (by decide)) (by decide) (by decide) (by decide) (by decide) b)
theorem valueM_bd {mn : Nat} {mv : Nat → UInt64} {mt : Nat → Int32} {ch p k : Int32} {v : UInt64} (hv : bd 1055 v) (h : ∀ i, i < 8192 → bd 1033 (mv i)) : ∀ i, i < 8192 → bd 1033 ((fX4_value mn ch mv mt p k v).2.1 i) := by
  unfold fX4_value
  by_cases a : fX4_isPing p = 0
  · rw [if_pos a]; exact h
  · by_cases c : fX4_isSample mn k = 0
    · rw [if_neg a, if_pos c]; exact h
    · by_cases b : fX3_within v FP.dconst0 (4652007308841189376 : UInt64) = 0
      · rw [if_neg a, if_neg c, if_pos (show fX4_within v FP.dconst0 (4652007308841189376 : UInt64) = 0 from b)]; exact h
      · rw [if_neg a, if_neg c, if_neg (show ¬ fX4_within v FP.dconst0 (4652007308841189376 : UInt64) = 0 from b)]
        exact bd_vfupd h (wth_bd (bd47 hv (by decide)) (by decide) (by decide) (by decide) (by decide) b)
theorem ch_kept {ch p : Int32} (h : ∃ F : Nat, F < 4 ∧ ch = nI F) : ∃ F : Nat, F < 4 ∧ (fX3_frequency ch p).2 = nI F := by
  unfold fX3_frequency
  by_cases a : fX3_isFrequency p = 0
  · rw [if_pos a]; exact h
  · rw [if_neg a]
    have g1 : ¬ p < 0 := fun q => a ((freq_iff p).mpr (Or.inl q))
    have g2 : ¬ 3 < p := fun q => a ((freq_iff p).mpr (Or.inr q))
    rcases pk_ix p (n := 4) (by decide) with q | q | ⟨j, hj, e⟩
    · exact absurd q g1
    · exact absurd (show 3 < p from Int32.lt_iff_toInt_lt.mpr (by
        have := Int32.le_iff_toInt_le.mp q
        have e4 : ((nI 4) : Int32).toInt = 4 := by decide
        have e3 : (3 : Int32).toInt = 3 := by decide
        first | (rw [e3]; rw [e4] at this; omega) | (have e5 : (4 : Int32).toInt = 4 := by decide
                                                     rw [e3]; rw [e5] at this; omega))) g2
    · exact ⟨j, hj, e⟩
end PB
