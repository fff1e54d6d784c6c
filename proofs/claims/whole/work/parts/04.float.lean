/-! ===== doubles: bounds of magnitude, no NaN ===== -/
abbrev bd (K : Nat) (a : UInt64) : Prop := a.toNat % 2 ^ 63 < K * 2 ^ 52
theorem n64_iff (a : UInt64) : vf_n64 a ↔ a.toNat % 2 ^ 63 ≤ 9218868437227405312 := by
  unfold vf_n64
  rw [UInt64.le_iff_toNat_le, UInt64.toNat_and]
  have h : (9223372036854775807 : UInt64).toNat = 2 ^ 63 - 1 := by decide
  rw [h, Nat.and_two_pow_sub_one_eq_mod]
  exact Iff.rfl
theorem bd_n {K : Nat} {a : UInt64} (h : bd K a) (hK : K ≤ 2047) : vf_n64 a := by
  rw [n64_iff]; have h : a.toNat % 2 ^ 63 < K * 2 ^ 52 := h
  omega
theorem bd_mul {Ka Kb : Nat} {a b : UInt64} (ha : bd Ka a) (hb : bd Kb b) (hKa : Ka ≤ 2047) (hKb : Kb ≤ 2047) {K : Nat} (h : Ka + Kb - 1025 + 3 ≤ K) : bd K (FP.dmul a b) :=
  Nat.lt_of_lt_of_le (FP.Core.dmul_mag ha hb hKa hKb) (Nat.mul_le_mul_right _ h)
theorem bd_up {Ka K : Nat} {a : UInt64} (ha : bd Ka a) (h : Ka ≤ K) : bd K a := Nat.lt_of_lt_of_le ha (Nat.mul_le_mul_right _ h)
theorem bd_add {Ka Kb : Nat} {a b : UInt64} (ha : bd Ka a) (hb : bd Kb b) (hKa : Ka ≤ 2047) (hKb : Kb ≤ 2047) {K : Nat} (h1 : Ka + 2 ≤ K) (h2 : Kb + 2 ≤ K) : bd K (FP.dadd a b) := by
  have h := FP.Core.dadd_mag (K := max Ka Kb) (bd_up ha (Nat.le_max_left _ _)) (bd_up hb (Nat.le_max_right _ _)) (Nat.max_le.mpr ⟨hKa, hKb⟩)
  exact Nat.lt_of_lt_of_le h (Nat.mul_le_mul_right _ (by omega))
theorem bd_sub {Ka Kb : Nat} {a b : UInt64} (ha : bd Ka a) (hb : bd Kb b) (hKa : Ka ≤ 2047) (hKb : Kb ≤ 2047) {K : Nat} (h1 : Ka + 2 ≤ K) (h2 : Kb + 2 ≤ K) : bd K (FP.dsub a b) := by
  have h := FP.Core.dsub_mag (K := max Ka Kb) (bd_up ha (Nat.le_max_left _ _)) (bd_up hb (Nat.le_max_right _ _)) (Nat.max_le.mpr ⟨hKa, hKb⟩)
  exact Nat.lt_of_lt_of_le h (Nat.mul_le_mul_right _ (by omega))
theorem bd_i2d (x : Int32) : bd 1056 (FP.i2d x) := FP.Core.i2d_mag x
theorem bd_l2d (x : Int64) : bd 1088 (FP.l2d x) := FP.Core.l2d_mag x
/-- a is at least 2 ^ (L - 1023) in magnitude, and finite -/
abbrev lb (L : Nat) (a : UInt64) : Prop := L * 2 ^ 52 ≤ a.toNat % 2 ^ 63 ∧ a.toNat % 2 ^ 63 < 2047 * 2 ^ 52
theorem bd_div {K L : Nat} {a b : UInt64} (ha : bd K a) (hb : lb L b) (hK : K ≤ 2047) (hL : 1 ≤ L) {K2 : Nat} (h : K + (1074 - 52 - 1) - L + 3 ≤ K2) : bd K2 (FP.ddiv a b) :=
  Nat.lt_of_lt_of_le (FP.Core.ddiv_mag ha hb.1 hb.2 hK hL) (Nat.mul_le_mul_right _ h)
theorem nI_sub1 {n : Nat} (h : 1 ≤ n) : nI n - 1 = nI (n - 1) := by
  have := pk_sub (a := n) (b := 1) h
  exact this
/-- what the class's samples keep -/
def okE (sn : Nat) (me : UInt64) (vf : Nat → UInt64) (sp sb no : UInt64) : Prop := 1 ≤ sn ∧ sn ≤ 64 ∧ bd 1030 me ∧ (∀ i, i < 128 * sn → bd 1033 (vf i)) ∧ bd 1027 sp ∧ bd 1027 sb ∧ bd 1033 no
theorem ping_in {p : Int32} (h : ¬ fX3_isPing p = 0) : vp_in p 32 := by
  unfold fX3_isPing at h
  by_cases h1 : p < 0
  · rw [if_pos h1] at h; exact absurd rfl h
  · by_cases h2 : 32 ≤ p
    · rw [if_neg h1, if_pos h2] at h; exact absurd rfl h
    · rcases pk_ix p (n := 32) (by decide) with q | q | ⟨j, hj, rfl⟩
      · exact absurd q h1
      · exact absurd q h2
      · exact vp_in_nI hj (by decide)
