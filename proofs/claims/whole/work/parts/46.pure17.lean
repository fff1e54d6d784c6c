/-! ===== PURE: the reference's search on its way back ===== -/
section PX
variable {sn : Nat} {mm msp msb mno : UInt64} {mch mhr mro : Int32} {mv md : Nat → UInt64} {mt ml med mr mw ww r2 : Nat → Int32} {mu uu : Nat → Int64} {p1 p2 bh : Int32} {wt : Int64}
theorem seek_L {ct : Int32 → Int32 → Int64 → (Nat → Int32) → Int32 × Int32 × Int32 × (Nat → Int32) × (Nat → Int64) × (Nat → Int32)} {T m : Nat} (hT : T < 32) (hm : m < 64) (he : uu (64 * T + m) = wt) (hok : bh = -1 ∨ ¬ fX4_mayFollow med (ww T) (nI m) (ww (T + 1)) bh p2 = 0) (hno : ∀ x, x < m → uu (64 * T + x) = wt → ¬ bh = -1 ∧ fX4_mayFollow med (ww T) (nI x) (ww (T + 1)) bh p2 = 0) : ∀ (k j : Nat), j + k = 65 → j ≤ m → fX4_run_L310 sn mm mch msp msb mno mhr mro mv mt ml med md mr mu mw ww uu (nI T) bh wt r2 p1 p2 ct k (nI j) = ct (nI T + (-1)) (nI m) (wt - fX4_strength mm msp msb mno mv mt ml mch (ww T) (nI m)) (upd r2 (ww T).toNatClampNeg (nI m)) := by
  intro k; induction k with
  | zero => intro j h1 h2; omega
  | succ k ih =>
    intro j h1 h2
    rw [fX4_run_L310, show (64 : Int32) * nI T = nI (64 * T) from pk_mul 64 T, nI_add, nI_clamp (by omega), nI_clamp (by omega), nI_1 T, nI_clamp (by omega), nI_1 j]
    by_cases e : j = m
    · subst e
      rw [if_pos (lgc_eq.mpr he)]
      by_cases b : bh = -1
      · rw [if_pos b]
      · rw [if_neg b, if_neg (hok.resolve_left b)]
    · by_cases q : uu (64 * T + j) = wt
      · obtain ⟨b, f⟩ := hno j (by omega) q
        rw [if_pos (lgc_eq.mpr q), if_neg b, if_pos f]
        exact ih (j + 1) (by omega) (by omega)
      · rw [if_neg (fun z => q (lgc_eq.mp z))]
        exact ih (j + 1) (by omega) (by omega)
end PX
