/-! ===== PURE: the window of the ping before ===== -/
section PH
variable {sn : Nat} {me : UInt64} {df md : Nat → UInt64} {med : Nat → Int32} {uf : Nat → Int64}
theorem sub_np : ∀ K, K < 64 → ∀ S, S < 65 → K < S → ¬ nI 0 < nI K - nI S := by decide +kernel
theorem row_ne : ∀ P, P < 32 → ¬ nI P = -1 := by decide +kernel
theorem best_row (h1 : 1 ≤ sn) (hs : sn ≤ 64) (hE : rE df md med) {P Q K S : Nat} (hP : P < 32) (hQ : Q < 32) (hK : K < sn) (hS : S ≤ 64) : ∃ a b m, fX2_bestBefore df uf (nI S) sn me (nI P) (nI Q) (nI K) = nI m ∧ a ≤ b ∧ b < sn ∧ isMax (fun x => uf (P * sn + x)) a b m ∧ (∀ x, x < sn → ((a ≤ x ∧ x ≤ b) ↔ (¬ fX4_mayStand sn me med md (nI P) (nI x) = 0 ∧ ¬ fX4_mayFollow med (nI P) (nI x) (nI Q) (nI K) (nI S) = 0))) := by
  obtain ⟨a, b, hab, hb, hl, hh⟩ := rows_R (sn := sn) (me := me) (md := md) (med := med) h1 hs P
  have st : ∀ x, x < sn → (¬ fX4_mayStand sn me med md (nI P) (nI x) = 0 ↔ (a ≤ x ∧ x ≤ b)) := fun x hx => stand_iff h1 hs hP hx hl hh hab hb
  have fo : ∀ x, x < sn → (¬ fX4_mayFollow med (nI P) (nI x) (nI Q) (nI K) (nI S) = 0 ↔ (¬ med P = 0 ∨ ¬ med Q = 0 ∨ (x ≤ K + S ∧ K ≤ x + S))) := fun x hx => follow_iff hP hQ (by omega) (by omega) hS
  unfold fX2_bestBefore
  rw [if_neg (row_ne Q hQ), (edM hE hP).1, (edM hE hQ).1, lowest_eq hE hP, highest_eq h1 hE hP, hl, hh]
  have whole : (¬ med P = 0 ∨ ¬ med Q = 0) → ∃ a' b' m, fX2_bestBefore_L61 df uf (nI S) sn me (nI P) (nI Q) (nI K) 1 (nI a) (nI b) = nI m ∧ a' ≤ b' ∧ b' < sn ∧ isMax (fun x => uf (P * sn + x)) a' b' m ∧ (∀ x, x < sn → ((a' ≤ x ∧ x ≤ b') ↔ (¬ fX4_mayStand sn me med md (nI P) (nI x) = 0 ∧ ¬ fX4_mayFollow med (nI P) (nI x) (nI Q) (nI K) (nI S) = 0))) := by
    intro w
    obtain ⟨m, e, hm⟩ := best_win (df := df) (uf := uf) (st := nI S) (me := me) (q2 := nI Q) (q3 := nI K) hs hP hab hb
    refine ⟨a, b, m, e, hab, hb, hm, fun x hx => ?_⟩
    rw [st x hx, fo x hx]
    exact ⟨fun z => ⟨z, w.elim Or.inl (fun q => Or.inr (Or.inl q))⟩, fun z => z.1⟩
  by_cases p0 : med P = 0
  · rw [if_pos p0]
    by_cases q0 : med Q = 0
    · rw [if_pos q0]
      have ea : a = 0 := by
        unfold loR at hl
        rw [if_pos p0] at hl
        have : nI a ≤ nI 0 := by rw [← hl]; decide
        have := (nI_leI (by omega) (by omega)).mp this
        omega
      have eb : b = sn - 1 := by
        unfold hiR at hh
        rw [if_pos p0] at hh
        have q1 : nI b ≤ nI (sn - 1) := by rw [hh]; exact Int32.le_refl _
        have q2 : nI (sn - 1) ≤ nI b := by rw [hh]; exact Int32.le_refl _
        have q3 := (nI_leI (by omega) (by omega)).mp q1
        have q4 := (nI_leI (by omega) (by omega)).mp q2
        omega
      subst ea
      have lo : (if nI 0 < nI K - nI S then nI K - nI S else nI 0) = nI (K - S) := by
        by_cases c : S ≤ K
        · rw [pk_sub (a := K) (b := S) c]
          by_cases d : nI 0 < nI (K - S)
          · rw [if_pos d]
          · rw [if_neg d]
            have : K - S ≤ 0 := Nat.le_of_not_lt (fun z => d (nI_lt z (by omega)))
            rw [show K - S = 0 by omega]
        · rw [if_neg (sub_np K (by omega) S (by omega) (by omega)), show K - S = 0 by omega]
      have hi : (if nI K + nI S < nI b then nI K + nI S else nI b) = nI (min (K + S) b) := by
        rw [nI_add]
        by_cases d : nI (K + S) < nI b
        · rw [if_pos d]
          have : K + S < b := Nat.lt_of_not_le (fun z => (nI_nlt (a := K + S) (b := b) z (by omega)) d)
          rw [Nat.min_eq_left (by omega)]
        · rw [if_neg d]
          have : b ≤ K + S := Nat.le_of_not_lt (fun z => d (nI_lt z (by omega)))
          rw [Nat.min_eq_right this]
      rw [lo, hi]
      have hw : K - S ≤ min (K + S) b := Nat.le_min.mpr ⟨by omega, by omega⟩
      have hw2 : min (K + S) b < sn := Nat.lt_of_le_of_lt (Nat.min_le_right _ _) hb
      obtain ⟨m, e, hm⟩ := best_win (df := df) (uf := uf) (st := nI S) (me := me) (q2 := nI Q) (q3 := nI K) hs hP hw hw2
      refine ⟨K - S, min (K + S) b, m, e, hw, hw2, hm, fun x hx => ?_⟩
      rw [st x hx, fo x hx, Nat.le_min]
      constructor
      · rintro ⟨z1, z2, z3⟩; exact ⟨⟨by omega, by omega⟩, Or.inr (Or.inr ⟨by omega, by omega⟩)⟩
      · rintro ⟨⟨z1, z2⟩, w⟩
        rcases w with w | w | ⟨w1, w2⟩
        · exact absurd p0 w
        · exact absurd q0 w
        · exact ⟨by omega, by omega, by omega⟩
    · rw [if_neg q0]; exact whole (Or.inr q0)
  · rw [if_neg p0]; exact whole (Or.inl p0)
end PH
