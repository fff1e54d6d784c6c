/-! ===== PURE: the reference's greatest sum before is the value at that row ===== -/
section PI
variable {sn : Nat} {med mw : Nat → Int32} {mu : Nat → Int64}
theorem refBest_L (hs : sn ≤ 64) {I P Q K S m : Nat} (hI : I < 32) (h0 : 1 ≤ I) (hp : mw (I - 1) = nI P) (hq : mw I = nI Q) (hm : m < sn) (hf : ¬ fX4_mayFollow med (nI P) (nI m) (nI Q) (nI K) (nI S) = 0) (hg : ∀ x, x < sn → ¬ fX4_mayFollow med (nI P) (nI x) (nI Q) (nI K) (nI S) = 0 → (mu (64 * (I - 1) + x)).toInt ≤ (mu (64 * (I - 1) + m)).toInt) : ∀ (k j : Nat) (bs : Int64), j + k = 65 → j ≤ sn → bs.toInt ≤ (mu (64 * (I - 1) + m)).toInt → (m < j → bs = mu (64 * (I - 1) + m)) → fX4_bestBefore_L14 sn med mu mw (nI I) (nI K) (nI S) k (nI j) bs = mu (64 * (I - 1) + m) := by
  intro k; induction k with
  | zero => intro j bs h1 h2; omega
  | succ k ih =>
    intro j bs h1 h2 h3 h4
    rw [fX4_bestBefore_L14]
    by_cases c : nI sn ≤ nI j
    · rw [if_pos c]
      have := (nI_leI (by omega) (by omega)).mp c
      exact h4 (by omega)
    · have c2 : j < sn := Nat.lt_of_not_le (fun z => c (nI_le z (by omega)))
      rw [if_neg c, nI_sub1 h0, show (64 : Int32) * nI (I - 1) = nI (64 * (I - 1)) from pk_mul 64 (I - 1), nI_add, nI_clamp (by omega), nI_clamp (by omega), nI_clamp (by omega), hp, hq, nI_1]
      by_cases d : lg_cmp (mu (64 * (I - 1) + j)) bs ≤ 0
      · rw [if_pos d]
        have d2 := lgc_le.mp d
        refine ih (j + 1) bs (by omega) (by omega) h3 (fun z => ?_)
        rcases Nat.lt_or_ge m j with y | y
        · exact h4 y
        · have : m = j := by omega
          subst this
          exact Int64.toInt_inj.mp (by omega)
      · have d2 : ¬ (mu (64 * (I - 1) + j)).toInt ≤ bs.toInt := fun z => d (lgc_le.mpr z)
        rw [if_neg d]
        by_cases f : fX4_mayFollow med (nI P) (nI j) (nI Q) (nI K) (nI S) = 0
        · rw [if_pos f]
          refine ih (j + 1) bs (by omega) (by omega) h3 (fun z => ?_)
          rcases Nat.lt_or_ge m j with y | y
          · exact h4 y
          · have : m = j := by omega
            subst this
            exact absurd f hf
        · rw [if_neg f]
          have g := hg j c2 f
          refine ih (j + 1) _ (by omega) (by omega) g (fun z => ?_)
          rcases Nat.lt_or_ge m j with y | y
          · have := h4 y; subst this; exact absurd g d2
          · have : m = j := by omega
            subst this; rfl
theorem refBest (hs : sn ≤ 64) {I P Q K S m : Nat} (hI : I < 32) (h0 : 1 ≤ I) (hp : mw (I - 1) = nI P) (hq : mw I = nI Q) (hm : m < sn) (hpos : 0 ≤ (mu (64 * (I - 1) + m)).toInt) (hf : ¬ fX4_mayFollow med (nI P) (nI m) (nI Q) (nI K) (nI S) = 0) (hg : ∀ x, x < sn → ¬ fX4_mayFollow med (nI P) (nI x) (nI Q) (nI K) (nI S) = 0 → (mu (64 * (I - 1) + x)).toInt ≤ (mu (64 * (I - 1) + m)).toInt) : fX4_bestBefore sn med mu mw (nI I) (nI K) (nI S) = mu (64 * (I - 1) + m) := by
  unfold fX4_bestBefore
  have hz : ¬ nI I = 0 := fun z => by
    have q : nI I ≤ nI 0 := by rw [z]; decide
    have := (nI_leI (by omega) (by omega)).mp q
    omega
  rw [if_neg hz]
  have e : (-1 : Int64).toInt = -1 := by decide
  exact refBest_L hs hI h0 hp hq hm hf hg 65 0 (-1) rfl (Nat.zero_le _) (by omega) (fun z => absurd z (by omega))
end PI
