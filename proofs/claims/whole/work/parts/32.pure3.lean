/-! ===== PURE: what is read of tables ===== -/
section TC
variable {rn : Int32} {sf nf : Nat → UInt64} {w v : UInt64} {r B : Nat}
theorem idx_cl {q : Nat} (hq : q ≤ 21) : (if (0 : Int32) < (nI q - (1 : Int32)) then (nI q - (1 : Int32)) else (0 : Int32)).toNatClampNeg = q - 1 := by
  rcases Nat.eq_zero_or_pos q with z | z
  · subst z
    rw [show nI 0 - (1 : Int32) = -1 from by decide, if_neg (by decide)]; rfl
  · rw [nI_sub1 z]
    split
    · exact nI_clamp (by omega)
    · rename_i g
      have : ¬ 0 < q - 1 := fun y => g (nI_lt (a := 0) y (by omega))
      rw [show q - 1 = 0 by omega]; rfl
theorem stepEq (hT : tabOk B r rn sf nf) (hw : bd 2047 w) : fX1_stepAt rn sf nf w (4654311885213007872 : UInt64) = fX4_speedAt rn sf nf w := by
  obtain ⟨hrn, hr, hb, hn, hs⟩ := hT
  unfold fX1_stepAt fX4_speedAt
  by_cases c0 : rn = 0
  · rw [if_pos c0, if_pos c0]
  · rw [if_neg c0, if_neg c0]
    have hr1 : 1 ≤ r := by
      rcases Nat.eq_zero_or_pos r with z | z
      · exact absurd (by rw [hrn, z]; rfl) c0
      · exact z
    obtain ⟨q, ue, q1, q2, q3⟩ := up_char hrn hr hb hw
    rw [ue, idx_cl (by omega)]
    have K : ∀ (k j : Nat), j + k = 21 → j < r → (j = 0 ∨ j < q) → fX4_speedAt_L13 rn sf nf w k (nI j) = nf (q - 1) := by
      intro k; induction k with
      | zero => intro j a b; omega
      | succ k ih =>
        intro j a b h
        rw [fX4_speedAt_L13, show nI j + (1 : Int32) = nI (j + 1) from nI_1 j]
        by_cases c : rn ≤ nI (j + 1)
        · rw [if_pos c, nI_clamp (by omega)]
          rw [hrn] at c
          have := (nI_leI (by omega) (by omega)).mp c
          rw [show q - 1 = j by omega]
        · rw [if_neg c]
          rw [hrn] at c
          have hj := Nat.lt_of_not_le (fun z => c (nI_le z (by omega)))
          rw [nI_clamp (by omega), nI_clamp (by omega)]
          by_cases d : 0 < Op.cmpValue (FP.dcmp (sf (j + 1)) w) CmpOp.g
          · rw [if_pos d]
            have d2 := (cg_pos (bd47 (hb _) (by decide)) hw).mp d
            have : ¬ j + 1 < q := fun z => by have := q2 (j + 1) z; omega
            rw [show q - 1 = j by omega]
          · rw [if_neg d]
            have d2 : ¬ zv w < zv (sf (j + 1)) := fun z => d ((cg_pos (bd47 (hb _) (by decide)) hw).mpr z)
            have : j + 1 < q := by
              rcases Nat.lt_or_ge (j + 1) q with z | z
              · exact z
              · have h1 := q3 (by omega)
                rcases Nat.lt_or_ge q (j + 1) with y | y
                · have := hs q (j + 1) y hj; omega
                · have e : q = j + 1 := by omega
                  rw [e] at h1; omega
            exact ih (j + 1) (by omega) (by omega) (Or.inr this)
    exact (K 21 0 rfl (by omega) (Or.inl rfl)).symm
theorem over_eq {a b : UInt64} (h : FP.dcmp b FP.dconst0 = some .gt) : fX3_over a b = FP.ddiv a b := by
  unfold fX3_over; rw [if_neg (cmpv_gt h)]
/-- the quotient between two rows -/
theorem frT (hT : tabOk B r rn sf nf) (hw : bd 1041 w) {q : Nat} (h0 : 1 ≤ q) (hq : q < r) (h1 : zv (sf (q - 1)) ≤ zv w) (h2 : zv w < zv (sf q)) : bd 1025 (FP.ddiv (FP.dsub w (sf (q - 1))) (FP.dsub (sf q) (sf (q - 1)))) ∧ FP.dcmp (FP.dsub (sf q) (sf (q - 1))) FP.dconst0 = some .gt :=
  frac_ok (hT.2.2.1 _) hw (hT.2.2.1 _) h1 h2
theorem day_bd (hw : bd 1055 w) (h : ¬ fX3_within w FP.dconst0 (4681608360884174848 : UInt64) = 0) : bd 1041 w := wth_bd (bd47 hw (by decide)) (by decide) (by decide) (by decide) (by decide) h
theorem ho_ok (hT : tabOk B r rn sf nf) (hw : bd 1055 w) : ¬ fX3_within w FP.dconst0 (4681608360884174848 : UInt64) = 0 → bd 1041 w ∧ (¬ fX1_rowsUpTo rn sf w < 1 → fX1_rowsUpTo rn sf w < rn → vf_n64 (FP.ddiv (FP.dsub w (sf (fX1_rowsUpTo rn sf w - 1).toNatClampNeg)) (FP.dsub (sf (fX1_rowsUpTo rn sf w).toNatClampNeg) (sf (fX1_rowsUpTo rn sf w - 1).toNatClampNeg))) ∧ bd 1100 (fX3_over (FP.dsub w (sf (fX1_rowsUpTo rn sf w - 1).toNatClampNeg)) (FP.dsub (sf (fX1_rowsUpTo rn sf w).toNatClampNeg) (sf (fX1_rowsUpTo rn sf w - 1).toNatClampNeg)))) := by
  intro h
  have hw1 := day_bd hw h
  refine ⟨hw1, fun c1 c2 => ?_⟩
  obtain ⟨q, ue, q1, q2, q3⟩ := up_char hT.1 hT.2.1 hT.2.2.1 (bd47 hw (by decide))
  have hr := hT.2.1
  rw [ue] at c1 c2 ⊢
  have h0 : 1 ≤ q := by
    rcases Nat.eq_zero_or_pos q with z | z
    · exact absurd (by rw [z]; decide) c1
    · exact z
  rw [hT.1] at c2
  have hq := (nI_ltI (by omega) (by omega)).mp c2
  rw [nI_sub1 h0, nI_clamp (by omega), nI_clamp (by omega)]
  obtain ⟨f1, f2⟩ := frT hT hw1 h0 hq (q2 _ (by omega)) (q3 hq)
  rw [over_eq f2]
  exact ⟨bd_n f1 (by decide), bd_up f1 (by decide)⟩
theorem factorEq (hT : tabOk B r rn sf nf) (hw : bd 1055 w) : fX3_factor rn sf nf w = fX4_factor rn sf nf w := by
  unfold fX3_factor fX4_factor
  by_cases c0 : fX3_within w FP.dconst0 (4681608360884174848 : UInt64) = 0
  · rw [if_pos c0, if_pos (show fX4_within w FP.dconst0 (4681608360884174848 : UInt64) = 0 from c0)]
    split
    · rfl
    · rfl
  · rw [if_neg c0, if_neg (show ¬ fX4_within w FP.dconst0 (4681608360884174848 : UInt64) = 0 from c0)]
    have hw1 := day_bd hw c0
    obtain ⟨q, ue, q1, q2, q3⟩ := up_char hT.1 hT.2.1 hT.2.2.1 (bd47 hw (by decide))
    have hr := hT.2.1
    have hrn := hT.1
    unfold fX1_slopeAt fX1_stepAt
    rw [ue]
    by_cases cr : rn = 0
    · rw [if_pos cr]
      have r0 : r = 0 := by
        rw [hrn] at cr
        exact (nI_eq (b := 0) (by omega) (by decide)).mp cr
      have q0 : q = 0 := by omega
      rw [q0, if_pos (by decide), if_pos cr]
    · rw [if_neg cr, if_neg cr, idx_cl (by omega)]
      have K : ∀ (k j : Nat), j + k = 22 → j ≤ q → fX4_factor_L22 rn sf nf w k (nI j) = (if q = 0 then nf 0 else if q = r then nf (r - 1) else FP.dadd (nf (q - 1)) (FP.dmul (FP.dsub (nf q) (nf (q - 1))) (FP.ddiv (FP.dsub w (sf (q - 1))) (FP.dsub (sf q) (sf (q - 1)))))) := by
        intro k; induction k with
        | zero => intro j a b; omega
        | succ k ih =>
          intro j a b
          rw [fX4_factor_L22]
          by_cases c : rn ≤ nI j
          · have c2 := c
            rw [hrn] at c2
            have := (nI_leI (by omega) (by omega)).mp c2
            have e : j = q := by omega
            have e2 : q = r := by omega
            subst e
            rw [if_pos c]
            by_cases z : j = 0
            · rw [if_pos (by rw [z]; rfl), if_pos z]; rfl
            · rw [if_neg (show ¬ nI j = 0 from fun y => z ((nI_eq (b := 0) (by omega) (by decide)).mp y)), if_neg z, if_pos (by rw [hrn, e2]), if_pos e2, hrn, nI_sub1 (by omega), nI_clamp (by omega)]
          · rw [if_neg c]
            have c2 := c
            rw [hrn] at c2
            have hj := Nat.lt_of_not_le (fun z => c2 (nI_le z (by omega)))
            rw [nI_clamp (by omega)]
            by_cases d : 0 < Op.cmpValue (FP.dcmp (sf j) w) CmpOp.g
            · rw [if_pos d]
              have d2 := (cg_pos (bd47 (hT.2.2.1 _) (by decide)) (bd47 hw (by decide))).mp d
              have e : j = q := by
                rcases Nat.lt_or_ge j q with z | z
                · have := q2 j z; omega
                · omega
              subst e
              by_cases z : j = 0
              · rw [if_pos (by rw [z]; rfl), if_pos z]; rfl
              · rw [if_neg (show ¬ nI j = 0 from fun y => z ((nI_eq (b := 0) (by omega) (by decide)).mp y)), if_neg z, if_neg (show ¬ nI j = rn from fun y => by rw [hrn] at y; have := (nI_eq (by omega) (by omega)).mp y; omega), if_neg (show ¬ j = r by omega), nI_sub1 (by omega), nI_clamp (by omega)]
            · rw [if_neg d, nI_1]
              have d2 : ¬ zv w < zv (sf j) := fun z => d ((cg_pos (bd47 (hT.2.2.1 _) (by decide)) (bd47 hw (by decide))).mpr z)
              have : j < q := by
                rcases Nat.lt_or_ge j q with z | z
                · exact z
                · have e : j = q := by omega
                  subst e
                  have := q3 hj; omega
              exact ih (j + 1) (by omega) (by omega)
      rw [show (0 : Int32) = nI 0 from rfl, K 22 0 rfl (Nat.zero_le _)]
      by_cases z : q = 0
      · rw [if_pos (by rw [z]; decide), if_pos z, z]
      · rw [if_neg (show ¬ nI q < 1 from fun y => by have := (nI_ltI (b := 1) (by omega) (by decide)).mp y; omega), if_neg z]
        by_cases y : q = r
        · rw [if_neg (show ¬ nI q < rn from fun x => by rw [hrn] at x; have := (nI_ltI (by omega) (by omega)).mp x; omega), if_pos y, y]
        · rw [if_pos (show nI q < rn by rw [hrn]; exact nI_lt (by omega) (by omega)), if_neg y, nI_sub1 (by omega), nI_clamp (by omega), nI_clamp (by omega)]
          obtain ⟨f1, f2⟩ := frT hT hw1 (q := q) (by omega) (by omega) (q2 _ (by omega)) (q3 (by omega))
          rw [over_eq f2]
theorem speedEq (hT : tabOk 1034 r rn sf nf) (hw : bd 1055 w) (hv : bd 1055 v) : (fX3_speed rn sf nf w v).1 = (fX4_speed rn sf nf w v).1 ∧ (fX3_speed rn sf nf w v).2 = (fX4_speed rn sf nf w v).2 ∧ ∃ r2, tabOk 1034 r2 (fX3_speed rn sf nf w v).2.1 (fX3_speed rn sf nf w v).2.2.1 (fX3_speed rn sf nf w v).2.2.2 := by
  unfold fX3_speed fX4_speed
  by_cases c1 : fX3_within w FP.dconst0 (4666723172467343360 : UInt64) = 0
  · rw [if_pos c1, if_pos (show fX4_within w FP.dconst0 (4666723172467343360 : UInt64) = 0 from c1)]; exact ⟨rfl, rfl, r, hT⟩
  rw [if_neg c1, if_neg (show ¬ fX4_within w FP.dconst0 (4666723172467343360 : UInt64) = 0 from c1)]
  by_cases c2 : fX3_within v (4653432275910787072 : UInt64) (4655191494515228672 : UInt64) = 0
  · rw [if_pos c2, if_pos (show fX4_within v (4653432275910787072 : UInt64) (4655191494515228672 : UInt64) = 0 from c2)]; exact ⟨rfl, rfl, r, hT⟩
  rw [if_neg c2, if_neg (show ¬ fX4_within v (4653432275910787072 : UInt64) (4655191494515228672 : UInt64) = 0 from c2)]
  obtain ⟨r2, t2, e1, e2, e3⟩ := putEq hT (wth_bd (bd47 hw (by decide)) (by decide) (by decide) (by decide) (by decide) c1) (wth_bd (bd47 hv (by decide)) (by decide) (by decide) (by decide) (by decide) c2)
  rcases e3 with ⟨a, b, d⟩ | ⟨a, b, d⟩
  · rw [if_pos a, if_pos b, if_pos b]
    exact ⟨rfl, by rw [← e1, ← e2, d], r2, t2⟩
  · rw [if_neg (show ¬ (fX1_put rn sf nf w v).1 = 0 by rw [a]; decide), if_neg b, if_neg b]
    exact ⟨rfl, by rw [← e1, ← e2, d], r2, t2⟩
theorem ballEq (hT : tabOk 1041 r rn sf nf) (hw : bd 1055 w) (hv : bd 1055 v) : (fX3_ball rn sf nf w v).1 = (fX4_ball rn sf nf w v).1 ∧ (fX3_ball rn sf nf w v).2 = (fX4_ball rn sf nf w v).2 ∧ ∃ r2, tabOk 1041 r2 (fX3_ball rn sf nf w v).2.1 (fX3_ball rn sf nf w v).2.2.1 (fX3_ball rn sf nf w v).2.2.2 := by
  unfold fX3_ball fX4_ball
  by_cases c1 : fX3_within w FP.dconst0 (4681608360884174848 : UInt64) = 0
  · rw [if_pos c1, if_pos (show fX4_within w FP.dconst0 (4681608360884174848 : UInt64) = 0 from c1)]; exact ⟨rfl, rfl, r, hT⟩
  rw [if_neg c1, if_neg (show ¬ fX4_within w FP.dconst0 (4681608360884174848 : UInt64) = 0 from c1)]
  by_cases c2 : fX3_within v (4591870180066957722 : UInt64) (4621819117588971520 : UInt64) = 0
  · rw [if_pos c2, if_pos (show fX4_within v (4591870180066957722 : UInt64) (4621819117588971520 : UInt64) = 0 from c2)]; exact ⟨rfl, rfl, r, hT⟩
  rw [if_neg c2, if_neg (show ¬ fX4_within v (4591870180066957722 : UInt64) (4621819117588971520 : UInt64) = 0 from c2)]
  obtain ⟨r2, t2, e1, e2, e3⟩ := putEq hT (wth_bd (bd47 hw (by decide)) (by decide) (by decide) (by decide) (by decide) c1) (wth_bd (bd47 hv (by decide)) (by decide) (by decide) (by decide) (by decide) c2)
  rcases e3 with ⟨a, b, d⟩ | ⟨a, b, d⟩
  · rw [if_pos a, if_pos b, if_pos b]
    exact ⟨rfl, by rw [← e1, ← e2, d], r2, t2⟩
  · rw [if_neg (show ¬ (fX1_put rn sf nf w v).1 = 0 by rw [a]; decide), if_neg b, if_neg b]
    exact ⟨rfl, by rw [← e1, ← e2, d], r2, t2⟩
end TC
