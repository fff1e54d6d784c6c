/-! ===== PURE: map ===== -/
section PM
variable {me : UInt64} {df md tf : Nat → UInt64} {med kf rf mr : Nat → Int32} {fo : Int32}
def dn (x y : UInt64) (j : Nat) : UInt64 := FP.dadd (FP.dadd FP.dconst1 (FP.dmul (FP.dsub x (FP.i2d (nI j))) (FP.dsub x (FP.i2d (nI j))))) (FP.dmul y y)
theorem dn_bd {x y : UInt64} (hx : bd 1055 x) (hy : bd 1055 y) (j : Nat) : bd 1098 (dn x y j) := by
  have xs : bd 1058 (FP.dsub x (FP.i2d (nI j))) := bd_sub hx (bd_i2d _) (by decide) (by decide) (by decide) (by decide)
  have xx : bd 1094 (FP.dmul (FP.dsub x (FP.i2d (nI j))) (FP.dsub x (FP.i2d (nI j)))) := bd_mul xs xs (by decide) (by decide) (by decide)
  have one : bd 1024 FP.dconst1 := by decide
  have x1 : bd 1096 (FP.dadd FP.dconst1 (FP.dmul (FP.dsub x (FP.i2d (nI j))) (FP.dsub x (FP.i2d (nI j))))) := bd_add one xx (by decide) (by decide) (by decide) (by decide)
  have yy : bd 1088 (FP.dmul y y) := bd_mul hy hy (by decide) (by decide) (by decide)
  exact bd_add x1 yy (by decide) (by decide) (by decide) (by decide)
theorem dn_q {x y : UInt64} (hx : bd 1055 x) (hy : bd 1055 y) {j : Nat} (hj : j < 32) : FP.dcmp (dn x y j) FP.dconst0 = some .gt ∧ bd 1025 (FP.ddiv FP.dconst1 (dn x y j)) ∧ nn (FP.ddiv FP.dconst1 (dn x y j)) ∧ (FP.ddiv FP.dconst1 (dn x y j)).toNat % 2 ^ 63 ≠ 0 := by
  obtain ⟨l1, n1⟩ := hden_ok hx hy j hj
  have l2 : lb 1023 (dn x y j) := l1
  have n2 : nn (dn x y j) := n1
  have nz : (dn x y j).toNat % 2 ^ 63 ≠ 0 := by have := l2.1; omega
  have q : bd 1025 (FP.ddiv FP.dconst1 (dn x y j)) := bd_div (K := 1024) (L := 1023) (K2 := 1025) (by decide) l2 (by decide) (by decide) (by decide)
  refine ⟨pos_gt l2.2 n2 nz, q, nn_div (by decide) l2.2 (bd47 q (by decide)) (by decide) n2 nz, ?_⟩
  have h9 := div_ge (La := 1023) (Kb := 1098) (L := 948) (a := FP.dconst1) (by decide) (dn_bd hx hy j) (by decide) nz (by decide) (by decide) (by decide) (by decide)
  omega
theorem map_L (h : rR fo kf rf mr) (hE : rE df md med) {x y : UInt64} (hx : bd 1055 x) (hy : bd 1055 y) : ∀ (k j : Nat) (so : Int32) (ov un : UInt64), j + k = 33 → j ≤ 32 → bd (1030 + 2 * j) un → nn un → (so = 0 ∧ un = FP.dconst0) ∨ (so = 1 ∧ un.toNat % 2 ^ 63 ≠ 0) → fX3_map_L39 tf df kf rf me x y k (nI j) ov un = fX4_map_L42 me fo med md tf mr x y k (nI j) so ov un := by
  intro k; induction k with
  | zero => intro j so ov un h1 h2; omega
  | succ k ih =>
    intro j so ov un h1 h2 hu hn hs
    rw [fX3_map_L39, fX4_map_L42]
    by_cases c : (32 : Int32) ≤ nI j
    · rw [if_pos c, if_pos c]
      rcases hs with ⟨a, b⟩ | ⟨a, b⟩
      · subst a; subst b
        rw [if_pos (show (0 : Int32) = 0 from rfl), if_pos (by decide +kernel)]
      · subst a
        have g := pos_gt (bd47 hu (by omega)) hn b
        rw [if_neg (show ¬ (1 : Int32) = 0 by decide), over_eq g, g, if_neg (by decide)]
    · have hj : j < 32 := Nat.lt_of_not_le (fun z => c (nI_le (a := 32) z (by omega)))
      rw [if_neg c, if_neg c, hbEq h, nI_1]
      by_cases d : fX4_hasBottom fo mr (nI j) = 0
      · rw [if_pos d, if_pos d]
        exact ih (j + 1) so ov un (by omega) (by omega) (bd_up hu (by omega)) hn hs
      · obtain ⟨g1, g2, g3, g4⟩ := dn_q hx hy hj
        have g1' : FP.dcmp (FP.dadd (FP.dadd FP.dconst1 (FP.dmul (FP.dsub x (FP.i2d (nI j))) (FP.dsub x (FP.i2d (nI j))))) (FP.dmul y y)) FP.dconst0 = some .gt := g1
        rw [if_neg d, if_neg d, over_eq g1', botEq h hE]
        have b1 : bd (1030 + 2 * (j + 1)) (FP.dadd un (FP.ddiv FP.dconst1 (dn x y j))) := bd_add (Ka := 1030 + 2 * j) (Kb := 1025) hu g2 (by omega) (by decide) (by omega) (by omega)
        have u7 : bd 2047 un := bd47 hu (by omega)
        have q7 := bd47 g2 (by decide)
        exact ih (j + 1) 1 _ _ (by omega) (by omega) b1 (nn_add u7 q7 (bd47 b1 (by omega)) hn g3) (Or.inr ⟨rfl, add_nz u7 q7 hn g3 g4⟩)
theorem wth_same (a b c : UInt64) : fX3_within a b c = fX4_within a b c := rfl
theorem mapEq (h : rR fo kf rf mr) (hE : rE df md med) {x y : UInt64} (hx : bd 1055 x) (hy : bd 1055 y) : fX3_map tf df kf rf me x y = fX4_map me fo med md tf mr x y := by
  unfold fX3_map fX4_map
  rw [wth_same, wth_same]
  by_cases c : fX4_within x (13920209183539462144 : UInt64) (4696837146684686336 : UInt64) = 0
  · rw [if_pos c, if_pos c]
  · rw [if_neg c, if_neg c]
    by_cases d : fX4_within y (13920209183539462144 : UInt64) (4696837146684686336 : UInt64) = 0
    · rw [if_pos d, if_pos d]
    · rw [if_neg d, if_neg d]
      exact map_L h hE hx hy 33 0 0 FP.dconst0 FP.dconst0 rfl (Nat.zero_le _) (by decide) (by decide) (Or.inl ⟨rfl, rfl⟩)
end PM
