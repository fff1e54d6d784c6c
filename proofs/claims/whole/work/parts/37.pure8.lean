/-! ===== PURE: the small ones ===== -/
section PS
theorem lossEq (sp sb x y : UInt64) : fX3_loss sp sb x y = fX4_loss sp sb x y := rfl
theorem noiseEq (no x : UInt64) : fX3_noise no x = fX4_noise no x := rfl
theorem lostEq (lf : Nat → Int32) (p : Int32) : fX3_lost lf p = fX4_lost lf p := by
  have e : fX4_isPing p = fX3_isPing p := rfl
  unfold fX3_lost fX4_lost fX0_lose
  rw [e]
theorem tideEq (tf : Nat → UInt64) (p : Int32) (x : UInt64) : fX3_tide tf p x = fX4_tide tf p x := rfl
theorem turnedEq (gf : Nat → UInt64) (p : Int32) (x : UInt64) : fX3_turned gf p x = fX4_turned gf p x := rfl
theorem greatestEq (fo : Int32) : fX3_greatest fo = fX4_greatest fo := rfl
theorem frequencyEq (ch p : Int32) : fX3_frequency ch p = fX4_frequency ch p := by
  unfold fX3_frequency fX4_frequency
  by_cases a : p < 0
  · rw [if_pos ((freq_iff p).mpr (Or.inl a)), if_pos a]
  · by_cases b : p ≤ 3
    · rw [if_neg (fun z => ((freq_iff p).mp z).elim a (fun c => absurd b (Int32.not_le.mpr c))), if_neg a, if_pos b]
    · rw [if_pos ((freq_iff p).mpr (Or.inr (Int32.not_le.mp b))), if_neg a, if_neg b]
theorem loss_bd {sp sb x y : UInt64} (hx : bd 1055 x) (hy : bd 1055 y) (hp : bd 1027 sp) (hq : bd 1027 sb) : bd 1027 (fX3_loss sp sb x y).2.1 ∧ bd 1027 (fX3_loss sp sb x y).2.2 := by
  unfold fX3_loss
  by_cases a : fX3_within x FP.dconst0 (4621819117588971520 : UInt64) = 0
  · rw [if_pos a]; exact ⟨hp, hq⟩
  · by_cases b : fX3_within y FP.dconst0 (4621819117588971520 : UInt64) = 0
    · rw [if_neg a, if_pos b]; exact ⟨hp, hq⟩
    · rw [if_neg a, if_neg b]
      exact ⟨wth_bd (bd47 hx (by decide)) (by decide) (by decide) (by decide) (by decide) a, wth_bd (bd47 hy (by decide)) (by decide) (by decide) (by decide) (by decide) b⟩
theorem noise_bd {no x : UInt64} (hx : bd 1055 x) (h : bd 1033 no) : bd 1033 (fX3_noise no x).2 := by
  unfold fX3_noise
  by_cases a : fX3_within x FP.dconst0 (4652007308841189376 : UInt64) = 0
  · rw [if_pos a]; exact h
  · rw [if_neg a]
    exact wth_bd (bd47 hx (by decide)) (by decide) (by decide) (by decide) (by decide) a
theorem bd_vfupd {K n i : Nat} {f : Nat → UInt64} {x : UInt64} (h : ∀ j, j < n → bd K (f j)) (hx : bd K x) : ∀ j, j < n → bd K (vf_upd f i x j) := by
  intro j hj
  unfold vf_upd
  split
  · exact hx
  · exact h j hj
theorem tide_bd {tf : Nat → UInt64} {p : Int32} {x : UInt64} (hx : bd 1055 x) (h : ∀ i, i < 32 → bd 1028 (tf i)) : ∀ i, i < 32 → bd 1028 ((fX3_tide tf p x).2 i) := by
  unfold fX3_tide
  by_cases q : fX3_isPing p = 0
  · rw [if_pos q]; exact h
  · by_cases a : fX3_within x (13849694754071117824 : UInt64) (4626322717216342016 : UInt64) = 0
    · rw [if_neg q, if_pos a]; exact h
    · rw [if_neg q, if_neg a]
      exact bd_vfupd h (wth_bd (bd47 hx (by decide)) (by decide) (by decide) (by decide) (by decide) a)
theorem turned_bd {gf : Nat → UInt64} {p : Int32} {x : UInt64} (hx : bd 1055 x) (h : ∀ i, i < 32 → bd 1029 (gf i)) : ∀ i, i < 32 → bd 1029 ((fX3_turned gf p x).2 i) := by
  unfold fX3_turned
  by_cases q : fX3_isPing p = 0
  · rw [if_pos q]; exact h
  · by_cases a : fX3_within x (13854902041140264960 : UInt64) (4631530004285489152 : UInt64) = 0
    · rw [if_neg q, if_pos a]; exact h
    · rw [if_neg q, if_neg a]
      exact bd_vfupd h (wth_bd (bd47 hx (by decide)) (by decide) (by decide) (by decide) (by decide) a)
end PS
