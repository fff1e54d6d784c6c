/-! ===== PURE: what is asked of the row ===== -/
def rR (fo : Int32) (kf rf mr : Nat → Int32) : Prop := (fo = 0 ∧ ∀ P, P < 32 → kf P = 0) ∨ (fo = 1 ∧ ∀ P, P < 32 → (kf P = 0 ∧ mr P = -1) ∨ (kf P = 1 ∧ ∃ K, K < 64 ∧ rf P = nI K ∧ mr P = nI K))
theorem nI_nm1 {K : Nat} (h : K < 2 ^ 31) : ¬ nI K = -1 := fun z => by
  have h9 : ¬ nI K < 0 := nI_pos h
  rw [z] at h9; exact h9 (by decide)
section PW
variable {fo : Int32} {kf rf mr med : Nat → Int32} {df md : Nat → UInt64} {me : UInt64}
theorem wkEq (h : rR fo kf rf mr) (p : Int32) : fX2_isWalked kf p = fX4_isWalked fo mr p := by
  unfold fX2_isWalked fX4_isWalked
  by_cases c : fX3_isPing p = 0
  · rw [if_pos c, if_pos (show fX4_isPing p = 0 from c)]
    split
    · rfl
    · rfl
  · rw [if_neg c, if_neg (show ¬ fX4_isPing p = 0 from c)]
    obtain ⟨P, e, hP⟩ := pingM (show ¬ fX4_isPing p = 0 from c)
    subst e
    rw [nI_clamp (by omega)]
    rcases h with ⟨a, b⟩ | ⟨a, b⟩
    · rw [if_pos a, if_pos (b P hP)]
    · rw [if_neg (show ¬ fo = 0 by rw [a]; decide)]
      rcases b P hP with ⟨x, y⟩ | ⟨x, K, hK, y, z⟩
      · rw [if_pos x, if_pos y]
      · rw [if_neg (show ¬ kf P = 0 by rw [x]; decide), z, if_neg (nI_nm1 (by omega))]
theorem wk_out {p : Int32} (h : fX3_isPing p = 0) : fX2_isWalked kf p = 0 := by unfold fX2_isWalked; rw [if_pos h]
theorem ping_hi {n : Nat} (h : 32 ≤ n) (h2 : n < 1000) : fX3_isPing (nI n) = 0 := by
  unfold fX3_isPing
  rw [if_neg (show ¬ nI n < 0 from nI_pos (by omega)), if_pos (show (32 : Int32) ≤ nI n from nI_le (a := 32) h (by omega))]
theorem ping_lo {x : Int32} (h : x < 0) : fX3_isPing x = 0 := by unfold fX3_isPing; rw [if_pos h]
theorem mul_m1 (x y : Int32) : x + y * (-1) = x - y := by
  rw [Int32.mul_neg, Int32.mul_one, Int32.sub_eq_add_neg]
theorem nb_out1 {P : Nat} (hP : P < 32) : ∀ (k j : Nat), j + k = 33 → 32 ≤ P + j → fX2_neighbour_L2 kf (nI P) 1 k (nI j) = -1 ∨ k = 0 := by
  intro k; induction k with
  | zero => intro j a b; exact Or.inr rfl
  | succ k ih =>
    intro j a b
    refine Or.inl ?_
    rw [fX2_neighbour_L2]
    by_cases c : (32 : Int32) ≤ nI j
    · rw [if_pos c]
    · have hj := Nat.lt_of_not_le (fun z => c (nI_le (a := 32) z (by omega)))
      rw [if_neg c, Int32.mul_one, nI_add, if_pos (wk_out (ping_hi b (by omega))), nI_1]
      exact (ih (j + 1) (by omega) (by omega)).resolve_right (by omega)
theorem nb_out2 {P : Nat} (hP : P < 32) : ∀ (k j : Nat), j + k = 33 → P < j → fX2_neighbour_L2 kf (nI P) (-1) k (nI j) = -1 ∨ k = 0 := by
  intro k; induction k with
  | zero => intro j a b; exact Or.inr rfl
  | succ k ih =>
    intro j a b
    refine Or.inl ?_
    rw [fX2_neighbour_L2]
    by_cases c : (32 : Int32) ≤ nI j
    · rw [if_pos c]
    · have hj := Nat.lt_of_not_le (fun z => c (nI_le (a := 32) z (by omega)))
      rw [if_neg c, mul_m1, if_pos (wk_out (ping_lo (pk_sneg (by omega) b))), nI_1]
      exact (ih (j + 1) (by omega) (by omega)).resolve_right (by omega)
theorem nbEq1 (h : rR fo kf rf mr) {P : Nat} (hP : P < 32) : fX2_neighbour kf (nI P) 1 = fX4_neighbour fo mr (nI P) 1 := by
  have K : ∀ (k j f : Nat), j + k = 33 → 1 ≤ j → P + j ≤ 32 → 33 ≤ P + j + f → fX2_neighbour_L2 kf (nI P) 1 k (nI j) = fX4_neighbour_L4 fo mr (nI P) 1 f (nI (P + j)) ∨ k = 0 := by
    intro k; induction k with
    | zero => intro j f a b c d; exact Or.inr rfl
    | succ k ih =>
      intro j f a b c d
      refine Or.inl ?_
      rcases f with _ | f
      · omega
      rw [fX4_neighbour_L4]
      by_cases e : P + j = 32
      · have z := (nb_out1 (kf := kf) hP (k + 1) j a (by omega)).resolve_right (by omega)
        have pz : fX4_isPing (nI (P + j)) = 0 := ping_hi (by omega) (by omega)
        rw [z, if_pos pz, if_pos pz]
      · have pn : ¬ fX4_isPing (nI (P + j)) = 0 := pingOk (by omega)
        rw [fX2_neighbour_L2, if_neg (show ¬ (32 : Int32) ≤ nI j from nI_ge (b := 32) (by omega) (by decide)), Int32.mul_one, nI_add, if_neg pn, wkEq h]
        by_cases w : fX4_isWalked fo mr (nI (P + j)) = 0
        · rw [if_pos w, if_pos w, nI_1, show nI (P + j) + 1 = nI (P + (j + 1)) from nI_1 (P + j)]
          rcases ih (j + 1) f (by omega) (by omega) (by omega) (by omega) with q | q
          · exact q
          · omega
        · rw [if_neg w, if_neg w, if_neg pn]
  unfold fX2_neighbour fX4_neighbour
  rw [show nI P + 1 = nI (P + 1) from nI_1 P, ← nI_one]
  exact (K 32 1 34 rfl (Nat.le_refl _) (by omega) (by omega)).resolve_right (by decide)
theorem nbEq2 (h : rR fo kf rf mr) {P : Nat} (hP : P < 32) : fX2_neighbour kf (nI P) (-1) = fX4_neighbour fo mr (nI P) (-1) := by
  have K : ∀ (k j f : Nat), j + k = 33 → 1 ≤ j → j ≤ P + 1 → P + 1 - j < f → fX2_neighbour_L2 kf (nI P) (-1) k (nI j) = fX4_neighbour_L4 fo mr (nI P) (-1) f (nI (P + 1 - j) + (-1)) ∨ k = 0 := by
    intro k; induction k with
    | zero => intro j f a b c d; exact Or.inr rfl
    | succ k ih =>
      intro j f a b c d
      refine Or.inl ?_
      rcases f with _ | f
      · omega
      rw [fX4_neighbour_L4]
      by_cases e : j = P + 1
      · have z := (nb_out2 (kf := kf) hP (k + 1) j a (by omega)).resolve_right (by omega)
        have pz : fX4_isPing (nI (P + 1 - j) + (-1)) = 0 := by rw [e, Nat.sub_self]; decide
        rw [z, if_pos pz, if_pos pz]
      · have e3 : nI (P + 1 - j) + (-1) = nI (P - j) := by rw [show P + 1 - j = (P - j) + 1 by omega]; exact pk_m1 (P - j)
        have pn : ¬ fX4_isPing (nI (P - j)) = 0 := pingOk (by omega)
        rw [e3, fX2_neighbour_L2, if_neg (show ¬ (32 : Int32) ≤ nI j from nI_ge (b := 32) (by omega) (by decide)), mul_m1, pk_sub (by omega), if_neg pn, wkEq h]
        by_cases w : fX4_isWalked fo mr (nI (P - j)) = 0
        · rw [if_pos w, if_pos w, nI_1]
          rcases ih (j + 1) f (by omega) (by omega) (by omega) (by omega) with q | q
          · rw [q, show P + 1 - (j + 1) = P - j by omega]
          · omega
        · rw [if_neg w, if_neg w, if_neg pn]
  unfold fX2_neighbour fX4_neighbour
  rw [← nI_one]
  exact (K 32 1 34 rfl (Nat.le_refl _) (by omega) (by omega)).resolve_right (by decide)
theorem brEq (h : rR fo kf rf mr) (p : Int32) : fX2_isBridge kf p = fX4_isBridged fo mr p := by
  unfold fX2_isBridge fX4_isBridged
  by_cases c : fX3_isPing p = 0
  · rw [if_pos c, if_pos (show fX4_isPing p = 0 from c)]
    split
    · rfl
    · rfl
  · rw [if_neg c, if_neg (show ¬ fX4_isPing p = 0 from c)]
    obtain ⟨P, e, hP⟩ := pingM (show ¬ fX4_isPing p = 0 from c)
    subst e
    rw [wkEq h, nbEq1 h hP, nbEq2 h hP]
    by_cases z : fo = 0
    · rw [if_pos z]
      have nw : ∀ q, fX4_isWalked fo mr q = 0 := fun q => by unfold fX4_isWalked; rw [if_pos z]
      rcases nbM2 fo mr hP with q | ⟨A, _, _, a3⟩
      · rw [if_pos (nw _), if_pos q]
      · exact absurd (nw _) a3
    · rw [if_neg z]
theorem hbEq (h : rR fo kf rf mr) (p : Int32) : fX2_hasBottom kf p = fX4_hasBottom fo mr p := by
  unfold fX2_hasBottom fX4_hasBottom
  rw [wkEq h, brEq h]
theorem dwEq (h : rR fo kf rf mr) (hE : rE df md med) {p : Int32} (hw : ¬ fX4_isWalked fo mr p = 0) : fX2_depthWalked df rf me p = fX4_walkedDepth me med md mr p := by
  obtain ⟨P, e, hP, hn⟩ := wkM hw
  subst e
  unfold fX2_depthWalked fX4_walkedDepth fX2_sampleOfRow
  obtain ⟨e1, e2⟩ := edM hE hP
  rw [e1, if_neg (pingOk hP), nI_clamp (by omega)]
  rcases h with ⟨a, b⟩ | ⟨a, b⟩
  · exfalso
    unfold fX4_isWalked at hw
    rw [if_pos a] at hw; exact hw rfl
  · rcases b P hP with ⟨x, y⟩ | ⟨x, K, hK, y, z⟩
    · exact absurd y hn
    · rw [y, z]
      rcases e2 with q | ⟨q, q2⟩
      · rw [q, if_pos rfl, if_pos rfl]; rfl
      · rw [q, if_neg (by decide), if_neg (by decide), q2]
theorem i2d_gt : ∀ n, n < 64 → 1 ≤ n → FP.dcmp (FP.i2d (nI n)) FP.dconst0 = some .gt := by decide +kernel
theorem daEq (h : rR fo kf rf mr) (hE : rE df md med) {p : Int32} (hb : ¬ fX4_hasBottom fo mr p = 0) : fX2_depthAt df kf rf me p = fX4_plainBottom me fo med md mr p := by
  unfold fX2_depthAt fX4_plainBottom
  rw [brEq h]
  by_cases w : fX4_isWalked fo mr p = 0
  · have br := hbM hb w
    obtain ⟨P, A, B, e, h1, h2, h3, h4, h5, h6, h7⟩ := brM br
    rw [if_neg br, if_pos w]
    subst e
    rw [nbEq1 h (by omega), nbEq2 h (by omega), h4, h5, dwEq h hE h6, dwEq h hE h7, pk_sub (a := B) (b := A) (by omega), over_eq (i2d_gt (B - A) (by omega) (by omega))]
  · have br : fX4_isBridged fo mr p = 0 := by
      unfold fX4_isBridged
      by_cases z1 : fo = 0
      · rw [if_pos z1]
      · rw [if_neg z1]
        by_cases z2 : fX4_isPing p = 0
        · rw [if_pos z2]
        · rw [if_neg z2, if_neg w]
    rw [if_pos br, if_neg w, dwEq h hE w]
theorem botEq {tf : Nat → UInt64} (h : rR fo kf rf mr) (hE : rE df md med) (p : Int32) : fX3_bottom tf df kf rf me p = fX4_bottom me fo med md tf mr p := by
  unfold fX3_bottom fX4_bottom
  rw [hbEq h]
  by_cases c : fX3_isPing p = 0
  · rw [if_pos c]
    have : fX4_hasBottom fo mr p = 0 := by
      by_cases z : fX4_hasBottom fo mr p = 0
      · exact z
      · obtain ⟨P, e, hP⟩ := hbP z
        subst e
        exact absurd c (pingOk hP)
    rw [if_pos this]
  · rw [if_neg c]
    by_cases z : fX4_hasBottom fo mr p = 0
    · rw [if_pos z, if_pos z]
    · rw [if_neg z, if_neg z, daEq h hE z]
theorem deadEq (h : rR fo kf rf mr) (hE : rE df md med) (p : Int32) : fX3_dead df kf rf me p = fX4_dead me fo med md mr p := by
  unfold fX3_dead fX4_dead
  rw [hbEq h]
  by_cases z : fX4_hasBottom fo mr p = 0
  · rw [if_pos z, if_pos z]
  · rw [if_neg z, if_neg z, daEq h hE z]
theorem bridgedEq (h : rR fo kf rf mr) (k : Int32) : fX3_bridged kf k = fX4_bridged fo mr k := by
  have K : ∀ (f : Nat) (j c : Int32), fX3_bridged_L4 kf k f j c = fX4_bridged_L4 fo mr k f j c := by
    intro f; induction f with
    | zero => intro j c; rfl
    | succ f ih =>
      intro j c
      rw [fX3_bridged_L4, fX4_bridged_L4, brEq h, ih, ih]
  exact K 33 0 0
end PW
