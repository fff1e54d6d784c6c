/-! ===== PURE: the greatest sum of the ping before ===== -/
section PG
variable {sn : Nat} {me : UInt64} {df md : Nat → UInt64} {med : Nat → Int32} {uf : Nat → Int64} {st : Int32}
/-- m is the lowest row of the greatest value of g in a .. b -/
def isMax (g : Nat → Int64) (a b m : Nat) : Prop := a ≤ m ∧ m ≤ b ∧ (∀ x, a ≤ x → x ≤ b → (g x).toInt ≤ (g m).toInt) ∧ (∀ x, a ≤ x → x < m → (g x).toInt < (g m).toInt)
theorem isMax_one (g : Nat → Int64) (a : Nat) : isMax g a a a :=
  ⟨Nat.le_refl _, Nat.le_refl _, fun x h1 h2 => by have : x = a := by omega
                                                   subst this; exact Int.le_refl _, fun x h1 h2 => by omega⟩
theorem isMax_keep {g : Nat → Int64} {a b m : Nat} (h : isMax g a b m) (hb : (g (b + 1)).toInt ≤ (g m).toInt) : isMax g a (b + 1) m :=
  ⟨h.1, by have := h.2.1; omega, fun x h1 h2 => by
    rcases Nat.lt_or_ge b x with q | q
    · have : x = b + 1 := by omega
      subst this; exact hb
    · exact h.2.2.1 x h1 q, h.2.2.2⟩
theorem isMax_take {g : Nat → Int64} {a b m : Nat} (h : isMax g a b m) (hb : (g m).toInt < (g (b + 1)).toInt) : isMax g a (b + 1) (b + 1) :=
  ⟨by have := h.1; have := h.2.1; omega, Nat.le_refl _, fun x h1 h2 => by
    rcases Nat.lt_or_ge b x with q | q
    · have : x = b + 1 := by omega
      subst this; exact Int.le_refl _
    · have := h.2.2.1 x h1 q; omega, fun x h1 h2 => by have := h.2.2.1 x h1 (by omega); omega⟩
theorem sumAt_row (hs : sn ≤ 64) {P K : Nat} (hP : P < 32) (hK : K < sn) : fX2_sumAt uf sn (nI P) (nI K) = uf (P * sn + K) := by
  unfold fX2_sumAt fX0_isSample
  have hlt : P * sn + K < 2048 := by
    have : P * sn ≤ 31 * sn := Nat.mul_le_mul_right _ (by omega)
    omega
  rw [if_neg (pingOk hP), if_neg (show ¬ nI K < 0 from nI_pos (by omega)), if_neg (show ¬ nI sn ≤ nI K from fun z => by have := (nI_leI (by omega) (by omega)).mp z; omega), if_neg (by decide)]
  rw [pk_mul, nI_add, nI_clamp (by omega)]
theorem best_L (hs : sn ≤ 64) {P a b : Nat} {q2 q3 : Int32} (hP : P < 32) (hb : b < sn) : ∀ (k j m : Nat), b + 2 ≤ j + k → a < j → j ≤ b + 1 → isMax (fun x => uf (P * sn + x)) a (j - 1) m → ∃ m2, fX2_bestBefore_L80 df uf st sn me (nI b) (nI P) q2 q3 k (nI j) (nI m) (uf (P * sn + m)) = nI m2 ∧ isMax (fun x => uf (P * sn + x)) a b m2 := by
  intro k; induction k with
  | zero => intro j m h1 h2 h3; omega
  | succ k ih =>
    intro j m h1 h2 h3 h
    rw [fX2_bestBefore_L80]
    by_cases c : nI b < nI j
    · rw [if_pos c]
      have c2 : b < j := Nat.lt_of_not_le (fun z => (nI_nlt (a := b) (b := j) z (by omega)) c)
      have e : j - 1 = b := by omega
      rw [e] at h
      exact ⟨m, rfl, h⟩
    · have c2 : j ≤ b := Nat.le_of_not_lt (fun z => c (nI_lt z (by omega)))
      have ej : j - 1 + 1 = j := by omega
      rw [if_neg c, sumAt_row hs hP (by omega), nI_1]
      by_cases d : lg_cmp (uf (P * sn + j)) (uf (P * sn + m)) ≤ 0
      · rw [if_pos d]
        have t := isMax_keep h (show (uf (P * sn + (j - 1 + 1))).toInt ≤ (uf (P * sn + m)).toInt by rw [ej]; exact lgc_le.mp d)
        rw [ej] at t
        exact ih (j + 1) m (by omega) (by omega) (by omega) (by rw [show j + 1 - 1 = j by omega]; exact t)
      · rw [if_neg d]
        have t := isMax_take h (show (uf (P * sn + m)).toInt < (uf (P * sn + (j - 1 + 1))).toInt by
          rw [ej]; exact Int.lt_of_not_ge (fun z => d (lgc_le.mpr z)))
        rw [ej] at t
        exact ih (j + 1) j (by omega) (by omega) (by omega) (by rw [show j + 1 - 1 = j by omega]; exact t)
theorem best_win (hs : sn ≤ 64) {P a b : Nat} {q2 q3 : Int32} (hP : P < 32) (hab : a ≤ b) (hb : b < sn) : ∃ m, fX2_bestBefore_L61 df uf st sn me (nI P) q2 q3 1 (nI a) (nI b) = nI m ∧ isMax (fun x => uf (P * sn + x)) a b m := by
  rw [fX2_bestBefore_L61, sumAt_row hs hP (by omega), show nI a + (1 : Int32) = nI (a + 1) from nI_1 a]
  exact best_L hs hP hb 66 (a + 1) a (by omega) (by omega) (by omega) (by rw [show a + 1 - 1 = a by omega]; exact isMax_one _ a)
end PG
