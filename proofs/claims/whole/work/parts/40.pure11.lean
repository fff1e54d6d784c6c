/-! ===== PURE: what may follow, where a ping may stand ===== -/
section PF
variable {sn : Nat} {me : UInt64} {md : Nat → UInt64} {med : Nat → Int32}
theorem follow_iff {P Q a b S : Nat} (hP : P < 32) (hQ : Q < 32) (ha : a < 64) (hb : b < 64) (hS : S ≤ 64) : ¬ fX4_mayFollow med (nI P) (nI a) (nI Q) (nI b) (nI S) = 0 ↔ (¬ med P = 0 ∨ ¬ med Q = 0 ∨ (a ≤ b + S ∧ b ≤ a + S)) := by
  have K : ∀ d : Nat, d < 64 → (¬ fX4_mayFollow_L19 med (nI P) (nI a) (nI Q) (nI b) (nI S) 1 (nI d) = 0 ↔ (¬ med P = 0 ∨ ¬ med Q = 0 ∨ d ≤ S)) := by
    intro d hd
    rw [fX4_mayFollow_L19, nI_clamp (by omega), nI_clamp (by omega)]
    by_cases x : med P = 0
    · rw [if_pos x]
      by_cases y : med Q = 0
      · rw [if_pos y]
        by_cases z : d ≤ S
        · rw [if_neg (show ¬ nI S < nI d from nI_nlt (by omega) (by omega))]
          exact ⟨fun _ => Or.inr (Or.inr z), fun _ => by decide⟩
        · rw [if_pos (show nI S < nI d from nI_lt (by omega) (by omega))]
          exact ⟨fun q => absurd rfl q, fun q => q.elim (fun q => absurd x q) (fun q => q.elim (fun q => absurd y q) (fun q => absurd q z))⟩
      · rw [if_neg y]; exact ⟨fun _ => Or.inr (Or.inl y), fun _ => by decide⟩
    · rw [if_neg x]; exact ⟨fun _ => Or.inl x, fun _ => by decide⟩
  unfold fX4_mayFollow
  by_cases c : b ≤ a
  · rw [if_pos (show nI b ≤ nI a from nI_le c (by omega)), pk_sub (a := a) (b := b) c, K (a - b) (by omega)]
    constructor
    · rintro (q | q | q)
      · exact Or.inl q
      · exact Or.inr (Or.inl q)
      · exact Or.inr (Or.inr ⟨by omega, by omega⟩)
    · rintro (q | q | q)
      · exact Or.inl q
      · exact Or.inr (Or.inl q)
      · exact Or.inr (Or.inr (by omega))
  · rw [if_neg (show ¬ nI b ≤ nI a from fun z => c ((nI_leI (by omega) (by omega)).mp z)), pk_sub (a := b) (b := a) (by omega), K (b - a) (by omega)]
    constructor
    · rintro (q | q | q)
      · exact Or.inl q
      · exact Or.inr (Or.inl q)
      · exact Or.inr (Or.inr ⟨by omega, by omega⟩)
    · rintro (q | q | q)
      · exact Or.inl q
      · exact Or.inr (Or.inl q)
      · exact Or.inr (Or.inr (by omega))
/-- a ping stands at a row of its own rows, and only there -/
theorem stand_iff (h1 : 1 ≤ sn) (hs : sn ≤ 64) {P K a b : Nat} (hP : P < 32) (hK : K < sn) (hl : loR sn me md med P = nI a) (hh : hiR sn me md med P = nI b) (hab : a ≤ b) (hb : b < sn) : ¬ fX4_mayStand sn me med md (nI P) (nI K) = 0 ↔ (a ≤ K ∧ K ≤ b) := by
  unfold fX4_mayStand
  unfold loR at hl
  unfold hiR at hh
  rw [nI_clamp (by omega)]
  by_cases z : med P = 0
  · rw [if_pos z] at hl hh
    rw [if_pos z]
    have ea : a = 0 := by
      have : nI a ≤ nI 0 := by rw [← hl]; decide
      have := (nI_leI (by omega) (by omega)).mp this
      omega
    have eb : b = sn - 1 := by
      have q1 : nI b ≤ nI (sn - 1) := by rw [hh]; exact Int32.le_refl _
      have q2 : nI (sn - 1) ≤ nI b := by rw [hh]; exact Int32.le_refl _
      have q3 := (nI_leI (by omega) (by omega)).mp q1
      have q4 := (nI_leI (by omega) (by omega)).mp q2
      omega
    exact ⟨fun _ => ⟨by omega, by omega⟩, fun _ => by decide⟩
  · rw [if_neg z] at hl hh
    rw [if_neg z, hl]
    have e0 : nI a = nI b := hl.symm.trans hh
    have eab : a = b := by
      have q2 : nI b ≤ nI a := by rw [e0]; exact Int32.le_refl _
      have q4 := (nI_leI (by omega) (by omega)).mp q2
      omega
    by_cases y : nI a = nI K
    · rw [if_pos y]
      have q1 : nI a ≤ nI K := by rw [y]; exact Int32.le_refl _
      have q2 : nI K ≤ nI a := by rw [y]; exact Int32.le_refl _
      have q3 := (nI_leI (by omega) (by omega)).mp q1
      have q4 := (nI_leI (by omega) (by omega)).mp q2
      exact ⟨fun _ => ⟨by omega, by omega⟩, fun _ => by decide⟩
    · rw [if_neg y]
      exact ⟨fun q => absurd rfl q, fun q => absurd (congrArg nI (show a = K by omega)) y⟩
end PF
