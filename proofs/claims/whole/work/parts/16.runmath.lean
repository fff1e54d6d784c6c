/-! ===== the reference's run: sums, the search behind them ===== -/
theorem lgc_ge {x y : Int64} : 0 ≤ lg_cmp x y ↔ y.toInt ≤ x.toInt := by
  unfold lg_cmp
  by_cases h : x > y
  · rw [if_pos h]
    have := Int64.lt_iff_toInt_lt.mp h
    exact ⟨fun _ => by omega, fun _ => by decide⟩
  · rw [if_neg h]
    have h1 : ¬ y.toInt < x.toInt := fun q => h (Int64.lt_iff_toInt_lt.mpr q)
    by_cases h2 : x = y
    · rw [if_pos h2, h2]; exact ⟨fun _ => Int.le_refl _, fun _ => by decide⟩
    · rw [if_neg h2]
      have h3 : x.toInt ≠ y.toInt := fun q => h2 (Int64.toInt_inj.mp q)
      exact ⟨fun q => absurd q (by decide), fun q => by omega⟩
theorem lgc_le {x y : Int64} : lg_cmp x y ≤ 0 ↔ x.toInt ≤ y.toInt := by
  unfold lg_cmp
  by_cases h : x > y
  · rw [if_pos h]
    have := Int64.lt_iff_toInt_lt.mp h
    exact ⟨fun q => absurd q (by decide), fun _ => by omega⟩
  · rw [if_neg h]
    have h1 : ¬ y.toInt < x.toInt := fun q => h (Int64.lt_iff_toInt_lt.mpr q)
    by_cases h2 : x = y
    · rw [if_pos h2, h2]; exact ⟨fun _ => Int.le_refl _, fun _ => by decide⟩
    · rw [if_neg h2]; exact ⟨fun _ => by omega, fun _ => by decide⟩
theorem lgc_eq {x y : Int64} : lg_cmp x y = 0 ↔ x = y := by
  unfold lg_cmp
  by_cases h : x > y
  · rw [if_pos h]
    have := Int64.lt_iff_toInt_lt.mp h
    exact ⟨fun q => absurd q (by decide), fun q => by rw [q] at this; omega⟩
  · rw [if_neg h]
    by_cases h2 : x = y
    · rw [if_pos h2]; exact ⟨fun _ => h2, fun _ => rfl⟩
    · rw [if_neg h2]; exact ⟨fun q => absurd q (by decide), fun q => absurd q h2⟩
theorem d2l_bd {x : UInt64} (h : bd 1055 x) : (FP.d2l x).toInt.natAbs ≤ 2 ^ 32 := by
  obtain ⟨s, c, q, x1, x2⟩ := FP.Core.mag_bits (a := x) (K := 1055) h (by decide)
  have hq := (FP.Core.val64_fits x)
  rw [x1] at hq
  have hq2 := hq.2.1
  rw [FP.Core.qmin_b64] at hq2 x2
  have e : FP.d2l x = Int64.ofInt (FP.Core.toInt (-2 ^ 63) (2 ^ 63 - 1) (FP.Core.val64 x)) := rfl
  have ht : c * 2 ^ q.toNat / 2 ^ (-q).toNat < 2 ^ 32 + 1 := by
    rcases Int.le_total 0 q with h0 | h0
    · have e1 : (-q).toNat = 0 := by omega
      have e2 : (q - (-1074)).toNat = q.toNat + 1074 := by omega
      rw [e1, Nat.pow_zero, Nat.div_one]
      rw [e2, Nat.pow_add, ← Nat.mul_assoc, ← Nat.pow_add, show 52 + (1055 - 1) = 32 + 1074 from rfl, Nat.pow_add 2 32 1074] at x2
      have := Nat.lt_of_mul_lt_mul_right x2
      omega
    · have e1 : q.toNat = 0 := by omega
      rw [e1, Nat.pow_zero, Nat.mul_one]
      refine Nat.lt_succ_of_lt ((Nat.div_lt_iff_lt_mul (Nat.two_pow_pos _)).mpr ?_)
      have e3 : 2 ^ 52 * 2 ^ (1055 - 1) = 2 ^ 32 * 2 ^ (-q).toNat * 2 ^ (q - (-1074)).toNat := by
        rw [← Nat.pow_add, ← Nat.pow_add, ← Nat.pow_add]; congr 1; omega
      rw [e3] at x2
      exact Nat.lt_of_mul_lt_mul_right x2
  have hz : (FP.Core.toInt (-2 ^ 63) (2 ^ 63 - 1) (FP.Core.val64 x)).natAbs ≤ 2 ^ 32 := by
    rw [x1]
    show (max (-2 ^ 63 : Int) (min (2 ^ 63 - 1) (FP.Core.truncate s c q))).natAbs ≤ 2 ^ 32
    have h4 : (FP.Core.truncate s c q).natAbs = c * 2 ^ q.toNat / 2 ^ (-q).toNat := FP.Core.natAbs_signed _ _
    generalize FP.Core.truncate s c q = z at *
    omega
  rw [e, Int64.toInt_ofInt_of_le (by omega) (by omega)]
  exact hz
theorem i2d_t {n : Nat} (h : n ≤ 64) : bd 1030 (FP.i2d (nI n)) := by
  have h1 := FP.Core.fromInt_mag (a := FP.i2d (nI n)) (FP.Core.toNat_i2d (nI n)) (j := 6) (K := 1029) (by rw [nI_toInt (by omega)]; omega) (by decide) (by decide)
  exact Nat.lt_of_le_of_lt h1 (by decide)
theorem rangeM_t {mm : UInt64} (hm : bd 1030 mm) {K : Nat} (hK : K < 64) : bd 1038 (fX4_range mm (nI K)) := by
  unfold fX4_range
  rw [show nI K + 1 = nI (K + 1) from nI_1 K]
  exact bd_mul (i2d_t (by omega)) hm (by decide) (by decide) (by decide)
theorem str_bd {mn : Nat} {mm msp msb mno : UInt64} {mv : Nat → UInt64} (mt ml : Nat → Int32) (hM : okM mn mm msp msb mno mv) {F P K : Nat} (hF : F < 4) (hP : P < 32) (hK : K < 64) : 0 ≤ (fX4_strength mm msp msb mno mv mt ml (nI F) (nI P) (nI K)).toInt ∧ (fX4_strength mm msp msb mno mv mt ml (nI F) (nI P) (nI K)).toInt ≤ 2 ^ 32 := by
  unfold fX4_strength
  have z : (0 : Int64).toInt = 0 := rfl
  split
  · rw [z]; exact ⟨Int.le_refl _, by decide⟩
  · split
    · split
      · rename_i c
        have c1 := lgc_ge.mp c
        rw [z] at c1
        refine ⟨c1, ?_⟩
        have r := rangeM_t hM.2.2.1 hK
        have v : bd 1033 (mv ((((2048 : Int32) * nI F) + ((64 : Int32) * nI P)) + nI K).toNatClampNeg) := vpin_bd (cellM_in rfl hF rfl hP rfl hK) (by decide) hM.2.2.2.2.2.2
        have s1 : bd 1043 (FP.dmul msp (fX4_range mm (nI K))) := bd_mul hM.2.2.2.1 r (by decide) (by decide) (by decide)
        have a1 : bd 1045 (FP.dadd (mv ((((2048 : Int32) * nI F) + ((64 : Int32) * nI P)) + nI K).toNatClampNeg) (FP.dmul msp (fX4_range mm (nI K)))) := bd_add v s1 (by decide) (by decide) (by decide) (by decide)
        have m1 : bd 1043 (FP.dmul msb (fX4_range mm (nI K))) := bd_mul hM.2.2.2.2.1 r (by decide) (by decide) (by decide)
        have m2 : bd 1059 (FP.dmul (FP.dmul msb (fX4_range mm (nI K))) (fX4_range mm (nI K))) := bd_mul m1 r (by decide) (by decide) (by decide)
        have m3 : bd 1051 (FP.dmul (FP.dmul (FP.dmul msb (fX4_range mm (nI K))) (fX4_range mm (nI K))) (4562254508917369340 : UInt64)) := bd_mul (Kb := 1014) m2 (by decide) (by decide) (by decide) (by decide)
        have a2 := bd_add (K := 1053) a1 m3 (by decide) (by decide) (by decide) (by decide)
        have a3 := bd_sub (K := 1055) a2 hM.2.2.2.2.2.1 (by decide) (by decide) (by decide) (by decide)
        have := d2l_bd a3
        omega
      · rw [z]; exact ⟨Int.le_refl _, by decide⟩
    · rw [z]; exact ⟨Int.le_refl _, by decide⟩
theorem cell64 {a j : Nat} (h0 : 1 ≤ a) (ha : a ≤ 32) (hj : j < 64) : (((64 : Int32) * (nI a - (1 : Int32))) + nI j).toNatClampNeg = 64 * (a - 1) + j := by
  rw [nI_sub1 h0, show (64 : Int32) * nI (a - 1) = nI (64 * (a - 1)) from pk_mul 64 (a - 1), nI_add, nI_clamp (by omega)]
theorem cl_m1 {a : Nat} (h0 : 1 ≤ a) (ha : a ≤ 32) : (nI a - (1 : Int32)).toNatClampNeg = a - 1 := by
  rw [nI_sub1 h0, nI_clamp (by omega)]
section RM
variable {mn : Nat} {med : Nat → Int32} {uu vv : Nat → Int64} {ww : Nat → Int32} {k st : Int32}
theorem bb_L14 (hn : mn ≤ 64) {a : Nat} (h0 : 1 ≤ a) (ha : a ≤ 32) : ∀ (f j : Nat) (bs : Int64), j + f = 65 → j ≤ mn →
    bs.toInt ≤ (fX4_bestBefore_L14 mn med uu ww (nI a) k st f (nI j) bs).toInt ∧ (fX4_bestBefore_L14 mn med uu ww (nI a) k st f (nI j) bs = bs ∨ ∃ i, i < mn ∧ uu (64 * (a - 1) + i) = fX4_bestBefore_L14 mn med uu ww (nI a) k st f (nI j) bs ∧ ¬ fX4_mayFollow med (ww (a - 1)) (nI i) (ww a) k st = 0) ∧ (∀ i, j ≤ i → i < mn → ¬ fX4_mayFollow med (ww (a - 1)) (nI i) (ww a) k st = 0 → (uu (64 * (a - 1) + i)).toInt ≤ (fX4_bestBefore_L14 mn med uu ww (nI a) k st f (nI j) bs).toInt) ∧ ((∀ i, i < 64 * a → vv i = uu i) → fX4_bestBefore_L14 mn med vv ww (nI a) k st f (nI j) bs = fX4_bestBefore_L14 mn med uu ww (nI a) k st f (nI j) bs) := by
  intro f; induction f with
  | zero => intro j bs h1 h2; omega
  | succ f ih =>
    intro j bs h1 h2
    rw [fX4_bestBefore_L14, fX4_bestBefore_L14]
    by_cases c : nI mn ≤ nI j
    · rw [if_pos c, if_pos c]
      have c1 := (nI_leI (by omega) (by omega)).mp c
      exact ⟨Int.le_refl _, Or.inl rfl, fun i q1 q2 => by omega, fun _ => rfl⟩
    · have c1 := Nat.lt_of_not_le (fun z => c (nI_le z (by omega)))
      rw [if_neg c, if_neg c, cell64 h0 ha (by omega), cl_m1 h0 ha, nI_clamp (by omega), nI_1]
      have key : (∀ i, i < 64 * a → vv i = uu i) → vv (64 * (a - 1) + j) = uu (64 * (a - 1) + j) := fun h => h _ (by omega)
      by_cases d : lg_cmp (uu (64 * (a - 1) + j)) bs ≤ 0
      · rw [if_pos d]
        obtain ⟨r1, r2, r3, r4⟩ := ih (j + 1) bs (by omega) (by omega)
        have d1 := lgc_le.mp d
        refine ⟨r1, r2, fun i q1 q2 q3 => ?_, fun h => by rw [key h, if_pos d]; exact r4 h⟩
        rcases Nat.lt_or_ge j i with z | z
        · exact r3 i (by omega) q2 q3
        · have : i = j := by omega
          subst this; omega
      · rw [if_neg d]
        have d1 : ¬ (uu (64 * (a - 1) + j)).toInt ≤ bs.toInt := fun q => d (lgc_le.mpr q)
        by_cases g : fX4_mayFollow med (ww (a - 1)) (nI j) (ww a) k st = 0
        · rw [if_pos g]
          obtain ⟨r1, r2, r3, r4⟩ := ih (j + 1) bs (by omega) (by omega)
          refine ⟨r1, r2, fun i q1 q2 q3 => ?_, fun h => by rw [key h, if_neg d, if_pos g]; exact r4 h⟩
          rcases Nat.lt_or_ge j i with z | z
          · exact r3 i (by omega) q2 q3
          · have : i = j := by omega
            subst this; exact absurd g q3
        · rw [if_neg g]
          obtain ⟨r1, r2, r3, r4⟩ := ih (j + 1) (uu (64 * (a - 1) + j)) (by omega) (by omega)
          refine ⟨by omega, ?_, fun i q1 q2 q3 => ?_, fun h => by rw [key h, if_neg d, if_neg g]; exact r4 h⟩
          · rcases r2 with e | e
            · exact Or.inr ⟨j, c1, e.symm, g⟩
            · exact Or.inr e
          · rcases Nat.lt_or_ge j i with z | z
            · exact r3 i (by omega) q2 q3
            · have : i = j := by omega
              subst this; exact r1
theorem nI_ne0' {a : Nat} (h0 : 1 ≤ a) (ha : a ≤ 32) : ¬ nI a = 0 := fun z => by
  have := (nI_eq (a := a) (b := 0) (by omega) (by omega)).mp z
  omega
theorem bbM_all (hn : mn ≤ 64) {a : Nat} (h0 : 1 ≤ a) (ha : a ≤ 32) :
    -1 ≤ (fX4_bestBefore mn med uu ww (nI a) k st).toInt ∧ (fX4_bestBefore mn med uu ww (nI a) k st = -1 ∨ ∃ i, i < mn ∧ uu (64 * (a - 1) + i) = fX4_bestBefore mn med uu ww (nI a) k st ∧ ¬ fX4_mayFollow med (ww (a - 1)) (nI i) (ww a) k st = 0) ∧ (∀ i, i < mn → ¬ fX4_mayFollow med (ww (a - 1)) (nI i) (ww a) k st = 0 → (uu (64 * (a - 1) + i)).toInt ≤ (fX4_bestBefore mn med uu ww (nI a) k st).toInt) ∧ ((∀ i, i < 64 * a → vv i = uu i) → fX4_bestBefore mn med vv ww (nI a) k st = fX4_bestBefore mn med uu ww (nI a) k st) := by
  obtain ⟨r1, r2, r3, r4⟩ := bb_L14 (med := med) (uu := uu) (vv := vv) (ww := ww) (k := k) (st := st) hn h0 ha 65 0 (-1) rfl (Nat.zero_le _)
  unfold fX4_bestBefore
  rw [if_neg (nI_ne0' h0 ha), if_neg (nI_ne0' h0 ha)]
  exact ⟨r1, r2, fun i q1 q2 => r3 i (Nat.zero_le _) q1 q2, r4⟩
end RM
