/-! ===== doubles: lower bounds, signs ===== -/
abbrev nn (a : UInt64) : Prop := a.toNat < 2 ^ 63
theorem fin_x {a : UInt64} (h : bd 2047 a) : ∃ s c q, FP.Core.val64 a = .fin s c q ∧ FP.Core.fits FP.Core.b64 (.fin s c q) ∧ FP.Core.zmag FP.Core.b64 (.fin s c q) = FP.Core.unitsOf FP.Core.b64 (a.toNat % 2 ^ 63) := by
  have h : a.toNat % 2 ^ 63 < 2047 * 2 ^ 52 := h
  obtain ⟨s, c, q, x1, x2, x3⟩ := FP.Core.fin_of_mag FP.Core.good_b64 (n := a.toNat) (by rw [FP.Core.mag_toNat64, FP.Core.infBits_b64]; omega)
  rw [FP.Core.mag_toNat64] at x3
  exact ⟨s, c, q, x1, x2, x3⟩
theorem sgn_x {a : UInt64} {s : Bool} {c : Nat} {q : Int} (h : FP.Core.val64 a = .fin s c q) : s = decide (2 ^ 63 ≤ a.toNat) := by
  have := FP.Core.sgn_bits (a := a) (by rw [h]; exact FP.Core.Datum.noConfusion)
  rw [h] at this; exact this
theorem nn_iff {a : UInt64} {s : Bool} {c : Nat} {q : Int} (h : FP.Core.val64 a = .fin s c q) : nn a ↔ s = false := by
  rw [sgn_x h, decide_eq_false_iff_not, Nat.not_le]
theorem rr_nn {a : UInt64} {A B : Nat} {e : Int} (h : bd 2047 a) (hd : FP.Core.val64 a = FP.Core.roundRatio FP.Core.b64 false A B e) : nn a := by
  obtain ⟨s, c, q, x1, _, _⟩ := fin_x h
  rw [nn_iff x1]
  have h2 := FP.Core.sgn_roundRatio FP.Core.b64 false A B e
  rw [← hd, x1] at h2; exact h2
theorem mul_val {a b : UInt64} {s t : Bool} {c d : Nat} {q r : Int} (x1 : FP.Core.val64 a = .fin s c q) (y1 : FP.Core.val64 b = .fin t d r) : FP.Core.val64 (FP.dmul a b) = FP.Core.roundRatio FP.Core.b64 (s != t) (c * d) 1 (q + r) := by
  have h := FP.Core.val64_dmul a b
  rw [x1, y1] at h; exact h
theorem div_val {a b : UInt64} {s t : Bool} {c d : Nat} {q r : Int} (x1 : FP.Core.val64 a = .fin s c q) (y1 : FP.Core.val64 b = .fin t d r) (hd : d ≠ 0) : FP.Core.val64 (FP.ddiv a b) = FP.Core.roundRatio FP.Core.b64 (s != t) c d (q - r) := by
  have h := FP.Core.val64_ddiv a b
  rw [x1, y1] at h
  rw [show FP.ddiv a b = FP.Core.ddiv a b from rfl, h]
  show (if d = 0 then _ else _) = _
  rw [if_neg hd]
theorem nn_sq {a : UInt64} (ha : bd 2047 a) (h : bd 2047 (FP.dmul a a)) : nn (FP.dmul a a) := by
  obtain ⟨s, c, q, x1, _, _⟩ := fin_x ha
  refine rr_nn h (A := c * c) (B := 1) (e := q + q) ?_
  rw [mul_val x1 x1]; cases s <;> rfl
theorem nn_mul {a b : UInt64} (ha : bd 2047 a) (hb : bd 2047 b) (h : bd 2047 (FP.dmul a b)) (na : nn a) (nb : nn b) : nn (FP.dmul a b) := by
  obtain ⟨s, c, q, x1, _, _⟩ := fin_x ha
  obtain ⟨t, d, r, y1, _, _⟩ := fin_x hb
  refine rr_nn h (A := c * d) (B := 1) (e := q + r) ?_
  rw [mul_val x1 y1, (nn_iff x1).mp na, (nn_iff y1).mp nb]; rfl
theorem zero_d {a : UInt64} {s : Bool} {c : Nat} {q : Int} (x2 : FP.Core.zmag FP.Core.b64 (.fin s c q) = FP.Core.unitsOf FP.Core.b64 (a.toNat % 2 ^ 63)) (h : a.toNat % 2 ^ 63 ≠ 0) : c ≠ 0 := by
  rintro rfl
  have h1 : FP.Core.zmag FP.Core.b64 (.fin s 0 q) = 0 := Nat.zero_mul _
  rw [h1] at x2
  exact h (FP.Core.unitsOf_eq_zero.mp x2.symm)
theorem nn_div {a b : UInt64} (ha : bd 2047 a) (hb : bd 2047 b) (h : bd 2047 (FP.ddiv a b)) (na : nn a) (nb : nn b) (h0 : b.toNat % 2 ^ 63 ≠ 0) : nn (FP.ddiv a b) := by
  obtain ⟨s, c, q, x1, _, _⟩ := fin_x ha
  obtain ⟨t, d, r, y1, _, y3⟩ := fin_x hb
  refine rr_nn h (A := c) (B := d) (e := q - r) ?_
  rw [div_val x1 y1 (zero_d y3 h0), (nn_iff x1).mp na, (nn_iff y1).mp nb]; rfl
theorem add_x {a b : UInt64} (ha : bd 2047 a) (hb : bd 2047 b) : ∃ sg v e, FP.Core.val64 (FP.dadd a b) = FP.Core.roundRatio FP.Core.b64 sg v 1 e ∧ FP.Core.b64.qmin ≤ e ∧ FP.Core.signed sg (FP.Core.inUnits v e FP.Core.b64.qmin) = FP.Core.zval FP.Core.b64 (FP.Core.val64 a) + FP.Core.zval FP.Core.b64 (FP.Core.val64 b) ∧ (nn a → nn b → sg = false) := by
  obtain ⟨s, c, q, x1, x2, x3⟩ := fin_x ha
  obtain ⟨t, d, r, y1, y2, y3⟩ := fin_x hb
  obtain ⟨sg, v, e, p1, p2, p3⟩ := FP.Core.sum_units x2 y2
  refine ⟨sg, v, e, ?_, p2, by rw [x1, y1]; exact p3, fun na nb => ?_⟩
  · have h := FP.Core.val64_dadd a b
    rw [x1, y1, p1] at h; exact h
  · have e1 := (nn_iff x1).mp na
    have e2 := (nn_iff y1).mp nb
    subst e1; subst e2
    injection p1 with q1 q2 q3
    rw [← q1]
    unfold FP.Core.sumSign
    split
    · rfl
    · rw [decide_eq_false_iff_not]
      unfold FP.Core.sumUnits FP.Core.signed
      simp only [Bool.false_eq_true, if_false]
      omega
theorem nn_add {a b : UInt64} (ha : bd 2047 a) (hb : bd 2047 b) (h : bd 2047 (FP.dadd a b)) (na : nn a) (nb : nn b) : nn (FP.dadd a b) := by
  obtain ⟨sg, v, e, h1, h2, h3, h4⟩ := add_x ha hb
  rw [h4 na nb] at h1
  exact rr_nn h h1
theorem zval_nn {a : UInt64} (ha : bd 2047 a) (na : nn a) : FP.Core.zval FP.Core.b64 (FP.Core.val64 a) = (FP.Core.unitsOf FP.Core.b64 (a.toNat % 2 ^ 63) : Int) := by
  obtain ⟨s, c, q, x1, x2, x3⟩ := fin_x ha
  have e1 := (nn_iff x1).mp na
  subst e1
  rw [x1]; unfold FP.Core.zval FP.Core.sgn FP.Core.signed
  simp only [Bool.false_eq_true, if_false]
  rw [x3]
theorem mono_add {a b : UInt64} (ha : bd 2047 a) (hb : bd 2047 b) (na : nn a) (nb : nn b) : a.toNat % 2 ^ 63 ≤ (FP.dadd a b).toNat % 2 ^ 63 := by
  obtain ⟨sg, v, e, h1, h2, h3, h4⟩ := add_x ha hb
  rw [h4 na nb, zval_nn ha na, zval_nn hb nb] at h3
  rw [h4 na nb] at h1
  have h5 : FP.Core.inUnits v e FP.Core.b64.qmin = FP.Core.unitsOf FP.Core.b64 (a.toNat % 2 ^ 63) + FP.Core.unitsOf FP.Core.b64 (b.toNat % 2 ^ 63) := by
    unfold FP.Core.signed at h3
    simp only [Bool.false_eq_true, if_false] at h3
    omega
  have h6 := FP.Core.mag_ge FP.Core.good_b64 (m := a.toNat % 2 ^ 63) (e0 := FP.Core.b64.qmin) h1 (by decide) (Int.le_refl _) h2 (by rw [FP.Core.infBits_b64]; have h : a.toNat % 2 ^ 63 < 2047 * 2 ^ 52 := ha; omega) (by rw [Int.sub_self, Int.toNat_zero, Nat.pow_zero, Nat.mul_one, Nat.mul_one, h5]; exact Nat.le_add_right _ _)
  rw [FP.Core.mag_toNat64] at h6
  exact h6
theorem lb_mul {La Lb L : Nat} {a b : UInt64} (ha : lb La a) (hb : lb Lb b) (h1 : 1 ≤ La) (h2 : 1 ≤ Lb) (hL1 : 1 ≤ L) (hL2 : L ≤ 2047) (hL : L + 1023 ≤ La + Lb) (hfin : bd 2047 (FP.dmul a b)) : lb L (FP.dmul a b) := by
  refine ⟨?_, hfin⟩
  obtain ⟨s, c, q, x1, x2, x3⟩ := fin_x ha.2
  obtain ⟨t, d, r, y1, y2, y3⟩ := fin_x hb.2
  obtain ⟨p1, p2, p3⟩ := FP.Core.product_units x2 y2
  have hx : 2 ^ 52 * 2 ^ (La - 1) ≤ FP.Core.unitsOf FP.Core.b64 (a.toNat % 2 ^ 63) := by
    rw [← FP.Core.tails_b64, ← FP.Core.unitsOf_start h1, FP.Core.tails_b64]; exact FP.Core.unitsOf_le_iff.mpr ha.1
  have hy : 2 ^ 52 * 2 ^ (Lb - 1) ≤ FP.Core.unitsOf FP.Core.b64 (b.toNat % 2 ^ 63) := by
    rw [← FP.Core.tails_b64, ← FP.Core.unitsOf_start h2, FP.Core.tails_b64]; exact FP.Core.unitsOf_le_iff.mpr hb.1
  have h6 := FP.Core.mag_ge FP.Core.good_b64 (m := L * 2 ^ 52) (e0 := 2 * FP.Core.b64.qmin) (mul_val x1 y1) (by decide) (by rw [FP.Core.qmin_b64]; decide) p2 (by rw [FP.Core.infBits_b64]; omega) (by
    rw [p3, x3, y3, Nat.mul_one]
    refine Nat.le_trans ?_ (Nat.mul_le_mul hx hy)
    rw [← FP.Core.tails_b64, FP.Core.unitsOf_start hL1, FP.Core.tails_b64]
    have e1 : (FP.Core.b64.qmin - 2 * FP.Core.b64.qmin).toNat = 1074 := by decide
    rw [e1]
    rw [← Nat.pow_add, ← Nat.pow_add, ← Nat.pow_add, ← Nat.pow_add, ← Nat.pow_add]
    exact Nat.pow_le_pow_right (by decide) (by omega))
  rw [FP.Core.mag_toNat64] at h6
  exact h6
theorem div_ge {La Kb L : Nat} {a b : UInt64} (ha : lb La a) (hb : bd Kb b) (hKb : Kb ≤ 2047) (h0 : b.toNat % 2 ^ 63 ≠ 0) (h1 : 1 ≤ La) (hL1 : 1 ≤ L) (hL2 : L ≤ 2047) (hL : L + Kb ≤ La + 1023) : L * 2 ^ 52 ≤ (FP.ddiv a b).toNat % 2 ^ 63 := by
  obtain ⟨s, c, q, x1, x2, x3⟩ := fin_x ha.2
  obtain ⟨t, d, r, y1, y2, y3⟩ := fin_x (bd_up hb hKb)
  have hd0 := zero_d y3 h0
  have hx : 2 ^ 52 * 2 ^ (La - 1) ≤ FP.Core.unitsOf FP.Core.b64 (a.toNat % 2 ^ 63) := by
    rw [← FP.Core.tails_b64, ← FP.Core.unitsOf_start h1, FP.Core.tails_b64]; exact FP.Core.unitsOf_le_iff.mpr ha.1
  have hb : b.toNat % 2 ^ 63 < Kb * 2 ^ 52 := hb
  rw [← FP.Core.tails_b64] at hb
  obtain ⟨k1, l1⟩ := FP.Core.units_lt_start hb
  have hx1 := x2.2.1
  have hy1 := y2.2.1
  have hq := FP.Core.qmin_b64
  have h6 := FP.Core.mag_ge FP.Core.good_b64 (m := L * 2 ^ 52) (e0 := 2 * FP.Core.b64.qmin - r) (div_val x1 y1 hd0) (by omega) (by omega) (by omega) (by rw [FP.Core.infBits_b64]; omega) (by
    have e1 : FP.Core.inUnits c (q - r) (2 * FP.Core.b64.qmin - r) = FP.Core.zmag FP.Core.b64 (.fin s c q) * 2 ^ (-FP.Core.b64.qmin).toNat := by
      show c * _ = c * _ * _
      rw [Nat.mul_assoc, ← Nat.pow_add]; congr 2; omega
    have e2 : 2 ^ (FP.Core.b64.qmin - (2 * FP.Core.b64.qmin - r)).toNat * d = FP.Core.zmag FP.Core.b64 (.fin t d r) := by
      show _ = d * _
      rw [Nat.mul_comm]; congr 2; omega
    rw [e1, Nat.mul_assoc, e2, x3, y3]
    have e3 : (-FP.Core.b64.qmin).toNat = 1074 := by decide
    rw [e3]
    refine Nat.le_trans ?_ (Nat.mul_le_mul_right _ hx)
    refine Nat.le_trans (Nat.mul_le_mul_left _ (Nat.le_of_lt l1)) ?_
    rw [← FP.Core.tails_b64, FP.Core.unitsOf_start hL1, FP.Core.tails_b64]
    rw [← Nat.pow_add, ← Nat.pow_add, ← Nat.pow_add, ← Nat.pow_add, ← Nat.pow_add]
    exact Nat.pow_le_pow_right (by decide) (by omega))
  rw [FP.Core.mag_toNat64] at h6
  exact h6
theorem val_ne {a : UInt64} (h : bd 2047 a) : FP.Core.val64 a ≠ .nan := by
  obtain ⟨s, c, q, x1, _, _⟩ := fin_x h
  rw [x1]; exact FP.Core.Datum.noConfusion
theorem cmp_i_gt {a b : Int} (h : b < a) : compare a b = .gt := by
  show compareOfLessAndEq a b = _
  unfold compareOfLessAndEq; rw [if_neg (by omega), if_neg (by omega)]
theorem cmp_i_lt {a b : Int} (h : a < b) : compare a b = .lt := by
  show compareOfLessAndEq a b = _
  unfold compareOfLessAndEq; rw [if_pos h]
theorem cmp_i_eq {a b : Int} (h : a = b) : compare a b = .eq := by
  show compareOfLessAndEq a b = _
  unfold compareOfLessAndEq; rw [if_neg (by omega), if_pos h]
/-- positive: above 0.0 -/
theorem pos_gt {a : UInt64} (h : bd 2047 a) (hn : nn a) (h0 : a.toNat % 2 ^ 63 ≠ 0) : FP.dcmp a FP.dconst0 = some .gt := by
  have h1 := FP.Core.cmp_key FP.Core.good_b64 (m := a.toNat) (n := FP.dconst0.toNat) (FP.Core.lt_full64 a) (FP.Core.lt_full64 _) (val_ne h) (by decide +kernel)
  show FP.Core.cmp FP.Core.b64 a.toNat FP.dconst0.toNat = _
  rw [h1]
  have k1 : FP.Core.key FP.Core.b64 a.toNat = (a.toNat % 2 ^ 63 : Nat) := by
    unfold FP.Core.key
    rw [FP.Core.half_b64, FP.Core.mag_toNat64]
    have : decide (2 ^ 63 ≤ a.toNat) = false := decide_eq_false (Nat.not_le.mpr hn)
    rw [this]; rfl
  have k2 : FP.Core.key FP.Core.b64 FP.dconst0.toNat = 0 := by decide +kernel
  rw [k1, k2]
  congr 1
  have hp : (0 : Int) < ((a.toNat % 2 ^ 63 : Nat) : Int) := by omega
  generalize ((a.toNat % 2 ^ 63 : Nat) : Int) = z at hp
  exact cmp_i_gt hp
theorem cmpv_gt {r : Option Ordering} {op : CmpOp} (h : r = some .gt) : ¬ Op.cmpValue r op ≤ 0 := by
  rw [h]; cases op <;> decide
/-- a double's value in the least units -/
def zv (a : UInt64) : Int := FP.Core.zval FP.Core.b64 (FP.Core.val64 a)
theorem dcmp_z {a b : UInt64} (ha : bd 2047 a) (hb : bd 2047 b) : FP.dcmp a b = some (compare (zv a) (zv b)) :=
  FP.Core.order_zval FP.Core.good_b64 (FP.Core.val64_fits a) (FP.Core.val64_fits b) (val_ne ha) (val_ne hb)
theorem cmpv_z {a b : UInt64} (ha : bd 2047 a) (hb : bd 2047 b) (op : CmpOp) : Op.cmpValue (FP.dcmp a b) op = if zv a < zv b then -1 else if zv a = zv b then 0 else 1 := by
  rw [dcmp_z ha hb]
  by_cases h1 : zv a < zv b
  · rw [if_pos h1, cmp_i_lt h1]; rfl
  · rw [if_neg h1]
    by_cases h2 : zv a = zv b
    · rw [if_pos h2, cmp_i_eq h2]; rfl
    · rw [if_neg h2, cmp_i_gt (by omega)]; rfl
theorem units_fl (N : Nat) : ∃ m, FP.Core.unitsOf FP.Core.b64 m ≤ N ∧ N < FP.Core.unitsOf FP.Core.b64 (m + 1) := by
  induction N with
  | zero =>
    have h := FP.Core.unitsOf_succ FP.Core.b64 0
    rw [FP.Core.unitsOf_zero] at h
    exact ⟨0, by rw [FP.Core.unitsOf_zero]; exact Nat.le_refl _, h⟩
  | succ N ih =>
    obtain ⟨m, h1, h2⟩ := ih
    by_cases c : N + 1 < FP.Core.unitsOf FP.Core.b64 (m + 1)
    · exact ⟨m, by omega, c⟩
    · have := FP.Core.unitsOf_succ FP.Core.b64 (m + 1)
      exact ⟨m + 1, by omega, by omega⟩
theorem units_dbl {m : Nat} (h : 1 ≤ m) : FP.Core.unitsOf FP.Core.b64 (m + 1) ≤ 2 * FP.Core.unitsOf FP.Core.b64 m := by
  have ht := FP.Core.tails_pos FP.Core.b64
  unfold FP.Core.unitsOf
  by_cases h1 : m + 1 < FP.Core.b64.tails
  · rw [if_pos h1, if_pos (show m < FP.Core.b64.tails by omega)]; omega
  · by_cases h2 : m < FP.Core.b64.tails
    · have : m + 1 = FP.Core.b64.tails := by omega
      rw [if_pos h2, if_neg h1, this, Nat.mod_self, Nat.div_self ht]
      simp; omega
    · rw [if_neg h1, if_neg h2]
      have h3 := Nat.div_add_mod m FP.Core.b64.tails
      have h4 := Nat.mod_lt m ht
      have h5 : 1 ≤ m / FP.Core.b64.tails := (Nat.le_div_iff_mul_le ht).mpr (by omega)
      generalize m / FP.Core.b64.tails = E at *
      generalize m % FP.Core.b64.tails = T at *
      subst h3
      by_cases h6 : T + 1 = FP.Core.b64.tails
      · have e : FP.Core.b64.tails * E + T + 1 = FP.Core.b64.tails * (E + 1) := by rw [Nat.mul_add]; omega
        rw [e, Nat.mul_mod_right, Nat.mul_div_cancel_left _ ht]
        rw [show E + 1 - 1 = (E - 1) + 1 by omega, Nat.pow_succ, Nat.mul_comm (2 ^ (E - 1)) 2, ← Nat.mul_assoc, ← Nat.mul_assoc]
        exact Nat.mul_le_mul_right _ (by omega)
      · rw [Nat.add_assoc, Nat.mul_add_mod, Nat.mul_add_div ht, Nat.mod_eq_of_lt (by omega), Nat.div_eq_of_lt (by omega), ← Nat.mul_assoc]
        exact Nat.mul_le_mul_right _ (by omega)
theorem sub_x {a b : UInt64} (ha : bd 2047 a) (hb : bd 2047 b) : ∃ sg v e, FP.Core.val64 (FP.dsub a b) = FP.Core.roundRatio FP.Core.b64 sg v 1 e ∧ FP.Core.b64.qmin ≤ e ∧ FP.Core.signed sg (FP.Core.inUnits v e FP.Core.b64.qmin) = zv a - zv b := by
  obtain ⟨s, c, q, x1, x2, x3⟩ := fin_x ha
  obtain ⟨t, d, r, y1, y2, y3⟩ := fin_x hb
  have y4 : FP.Core.fits FP.Core.b64 (.fin (!t) d r) := y2
  obtain ⟨sg, v, e, p1, p2, p3⟩ := FP.Core.sum_units x2 y4
  refine ⟨sg, v, e, ?_, p2, ?_⟩
  · have h := FP.Core.val64_dsub a b
    rw [x1, y1, show FP.Core.negate (.fin t d r) = .fin (!t) d r from rfl, p1] at h; exact h
  · rw [p3]
    unfold zv
    rw [x1, y1]
    have := FP.Core.zval_negate FP.Core.b64 (.fin t d r)
    rw [show FP.Core.negate (.fin t d r) = .fin (!t) d r from rfl] at this
    rw [this]; omega
theorem signed_abs {s : Bool} {N : Nat} {z : Int} (h : FP.Core.signed s N = z) : N = z.natAbs := by
  have := FP.Core.natAbs_signed s N
  rw [h] at this; exact this.symm
theorem zv_abs {K : Nat} {a : UInt64} (h : bd K a) (hK : K ≤ 2047) : (zv a).natAbs < 2 ^ 52 * 2 ^ (K - 1) := by
  obtain ⟨s, c, q, x1, x2, x3⟩ := fin_x (bd_up h hK)
  unfold zv
  rw [x1]; unfold FP.Core.zval
  rw [FP.Core.natAbs_signed, x3]
  have h : a.toNat % 2 ^ 63 < K * 2 ^ 52 := h
  rw [← FP.Core.tails_b64] at h
  have := (FP.Core.units_lt_start h).2
  rw [FP.Core.tails_b64] at this; exact this
theorem units_bits {a : UInt64} (ha : bd 2047 a) : (zv a).natAbs = FP.Core.unitsOf FP.Core.b64 (a.toNat % 2 ^ 63) := by
  obtain ⟨s, c, q, x1, x2, x3⟩ := fin_x ha
  unfold zv
  rw [x1]; unfold FP.Core.zval
  rw [FP.Core.natAbs_signed, x3]
theorem start_dbl {K : Nat} (h : 1 ≤ K) : 2 ^ 52 * 2 ^ (K + 1 - 1) = 2 ^ 52 * 2 ^ (K - 1) * 2 := by
  rw [show K + 1 - 1 = (K - 1) + 1 by omega, show (2 : Nat) ^ (K - 1 + 1) = 2 ^ (K - 1) * 2 from Nat.pow_succ _ _, Nat.mul_assoc]
theorem frac_ok {d x e : UInt64} (hd : bd 1041 d) (hx : bd 1041 x) (he : bd 1041 e) (h1 : zv d ≤ zv x) (h2 : zv x < zv e) : bd 1025 (FP.ddiv (FP.dsub x d) (FP.dsub e d)) ∧ FP.dcmp (FP.dsub e d) FP.dconst0 = some .gt := by
  have b1 : bd 1043 (FP.dsub x d) := bd_sub hx hd (by decide) (by decide) (by decide) (by decide)
  have b2 : bd 1043 (FP.dsub e d) := bd_sub he hd (by decide) (by decide) (by decide) (by decide)
  have hd' : bd 2047 d := bd_up hd (by decide)
  have hx' : bd 2047 x := bd_up hx (by decide)
  have he' : bd 2047 e := bd_up he (by decide)
  obtain ⟨s1, v1, e1, p1, p2, p3⟩ := sub_x hx' hd'
  obtain ⟨s2, v2, e2, r1, r2, r3⟩ := sub_x he' hd'
  have n1 := signed_abs p3
  have n2 := signed_abs r3
  obtain ⟨m, m1, m2⟩ := units_fl (zv e - zv d).natAbs
  have hm1 : 1 ≤ m := by
    rcases Nat.eq_zero_or_pos m with z | z
    · rw [z] at m2
      have : FP.Core.unitsOf FP.Core.b64 (0 + 1) = 1 := by decide +kernel
      omega
    · exact z
  have hmI : m + 1 ≤ FP.Core.infBits FP.Core.b64 := by
    have a1 := zv_abs hd (by decide)
    have a2 := zv_abs he (by decide)
    have a3 : FP.Core.unitsOf FP.Core.b64 m < FP.Core.unitsOf FP.Core.b64 ((1041 + 1) * FP.Core.b64.tails) := by
      rw [FP.Core.unitsOf_start (by decide), FP.Core.tails_b64, start_dbl (by decide)]
      generalize 2 ^ (1041 - 1) = P at *
      omega
    have a4 := FP.Core.unitsOf_lt_iff.mp a3
    rw [FP.Core.tails_b64] at a4
    rw [FP.Core.infBits_b64]; omega
  have g1 : m ≤ (FP.dsub e d).toNat % 2 ^ 63 := by
    have := FP.Core.mag_ge FP.Core.good_b64 (m := m) (e0 := FP.Core.b64.qmin) r1 (by decide) (Int.le_refl _) r2 (by omega) (by rw [Int.sub_self, Int.toNat_zero, Nat.pow_zero, Nat.mul_one, Nat.mul_one, n2]; exact m1)
    rw [FP.Core.mag_toNat64] at this; exact this
  have g2 : (FP.dsub x d).toNat % 2 ^ 63 ≤ m + 1 := by
    have := FP.Core.mag_le FP.Core.good_b64 (m := m + 1) (e0 := FP.Core.b64.qmin) p1 (by decide) (Int.le_refl _) p2 (by rw [Int.sub_self, Int.toNat_zero, Nat.pow_zero, Nat.mul_one, Nat.mul_one, n1]; omega)
    rw [FP.Core.mag_toNat64] at this; exact this
  have b1' : bd 2047 (FP.dsub x d) := bd_up b1 (by decide)
  have b2' : bd 2047 (FP.dsub e d) := bd_up b2 (by decide)
  refine ⟨?_, pos_gt b2' ?_ (by omega)⟩
  · obtain ⟨s, c, q, x1, x2, x3⟩ := fin_x b1'
    obtain ⟨t, dd, r, y1, y2, y3⟩ := fin_x b2'
    have hd0 := zero_d y3 (by omega)
    have hx1 := x2.2.1
    have hy1 := y2.2.1
    have hq := FP.Core.qmin_b64
    have h6 := FP.Core.mag_le FP.Core.good_b64 (m := 1024 * 2 ^ 52) (e0 := 2 * FP.Core.b64.qmin - r) (div_val x1 y1 hd0) (by omega) (by omega) (by omega) (by
      have e1 : FP.Core.inUnits c (q - r) (2 * FP.Core.b64.qmin - r) = FP.Core.zmag FP.Core.b64 (.fin s c q) * 2 ^ (-FP.Core.b64.qmin).toNat := by
        show c * _ = c * _ * _
        rw [Nat.mul_assoc, ← Nat.pow_add]; congr 2; omega
      have e2 : 2 ^ (FP.Core.b64.qmin - (2 * FP.Core.b64.qmin - r)).toNat * dd = FP.Core.zmag FP.Core.b64 (.fin t dd r) := by
        show _ = dd * _
        rw [Nat.mul_comm]; congr 2; omega
      rw [e1, Nat.mul_assoc, e2, x3, y3]
      have e3 : (-FP.Core.b64.qmin).toNat = 1074 := by decide
      rw [e3]
      have u1 := (FP.Core.unitsOf_le_iff (f := FP.Core.b64)).mpr g1
      have u2 := (FP.Core.unitsOf_le_iff (f := FP.Core.b64)).mpr g2
      have u3 := units_dbl hm1
      have u4 : FP.Core.unitsOf FP.Core.b64 (1024 * 2 ^ 52) = 2 * 2 ^ 1074 := by
        rw [← FP.Core.tails_b64, FP.Core.unitsOf_start (by decide), FP.Core.tails_b64, ← Nat.pow_add, ← Nat.pow_succ']
      rw [u4, Nat.mul_comm _ (2 ^ 1074), Nat.mul_comm 2, Nat.mul_assoc]
      exact Nat.mul_le_mul_left _ (by omega))
    rw [FP.Core.mag_toNat64] at h6
    show _ < 1025 * 2 ^ 52
    exact Nat.lt_of_le_of_lt h6 (by decide)
  · obtain ⟨s, c, q, x1, x2, x3⟩ := fin_x b2'
    rw [nn_iff x1]
    have h2 := FP.Core.sgn_roundRatio FP.Core.b64 s2 v2 1 e2
    rw [← r1, x1] at h2
    have h3 : s = s2 := h2
    rw [h3]
    rcases s2 with _ | _
    · rfl
    · exfalso
      unfold FP.Core.signed at r3
      simp only [if_true] at r3
      omega
