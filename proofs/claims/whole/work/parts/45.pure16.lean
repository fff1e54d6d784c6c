/-! ===== PURE: the reference's greatest sum at the end ===== -/
section PE
variable {sn : Nat} {mm msp msb mno : UInt64} {mch mhr mro : Int32} {mv md : Nat → UInt64} {mt ml med mr mw ww rr : Nat → Int32} {mu uu : Nat → Int64} {p1 p2 : Int32}
theorem endMax_L (hs : sn ≤ 64) {N m : Nat} (h0 : 1 ≤ N) (hN : N ≤ 32) (hm : m < sn) (hg : ∀ x, x < sn → (uu (64 * (N - 1) + x)).toInt ≤ (uu (64 * (N - 1) + m)).toInt) : ∀ (k j : Nat) (bs : Int64), j + k = 65 → j ≤ sn → bs.toInt ≤ (uu (64 * (N - 1) + m)).toInt → (m < j → bs = uu (64 * (N - 1) + m)) → fX4_run_L234 sn mm mch msp msb mno mhr mro mv mt ml med md mr mu mw (nI N) ww uu rr p1 p2 k (nI j) bs = fX4_run_L302 sn mm mch msp msb mno mhr mro mv mt ml med md mr mu mw ww uu (uu (64 * (N - 1) + m)) p1 p2 34 (nI (N - 1)) (-1) (uu (64 * (N - 1) + m)) rr := by
  intro k; induction k with
  | zero => intro j bs h1 h2; omega
  | succ k ih =>
    intro j bs h1 h2 h3 h4
    rw [fX4_run_L234, nI_sub1 h0]
    by_cases c : nI sn ≤ nI j
    · rw [if_pos c]
      have := (nI_leI (by omega) (by omega)).mp c
      rw [h4 (by omega)]
    · have c2 : j < sn := Nat.lt_of_not_le (fun z => c (nI_le z (by omega)))
      rw [if_neg c, show (64 : Int32) * nI (N - 1) = nI (64 * (N - 1)) from pk_mul 64 (N - 1), nI_add, nI_clamp (by omega), nI_1]
      by_cases d : lg_cmp (uu (64 * (N - 1) + j)) bs ≤ 0
      · rw [if_pos d]
        have d2 := lgc_le.mp d
        refine ih (j + 1) bs (by omega) (by omega) h3 (fun z => ?_)
        rcases Nat.lt_or_ge m j with y | y
        · exact h4 y
        · have : m = j := by omega
          subst this
          exact Int64.toInt_inj.mp (by omega)
      · have d2 : ¬ (uu (64 * (N - 1) + j)).toInt ≤ bs.toInt := fun z => d (lgc_le.mpr z)
        rw [if_neg d]
        have g := hg j c2
        refine ih (j + 1) _ (by omega) (by omega) g (fun z => ?_)
        rcases Nat.lt_or_ge m j with y | y
        · have := h4 y; subst this; exact absurd g d2
        · have : m = j := by omega
          subst this; rfl
end PE
