/-! ===== PURE: tail, kind, map ===== -/
theorem str_0 {sn : Nat} {me sp sb no : UInt64} {vf : Nat → UInt64} {lf : Nat → Int32} {f p : Int32} {j : Nat} (h : sn ≤ j) (hj : j < 1000) : fX0_strength sn me vf lf sp sb no f p (nI j) = 0 := by
  unfold fX0_strength
  have s0 : fX0_isSample sn (nI j) = 0 := by
    unfold fX0_isSample
    rw [if_neg (show ¬ nI j < 0 from nI_pos (by omega)), if_pos (show nI sn ≤ nI j from nI_le h (by omega))]
  have pl : fX0_placeOf sn f p (nI j) = -1 := by
    unfold fX0_placeOf
    by_cases q : fX3_isFrequency f = 0
    · rw [if_pos q]
    · by_cases q2 : fX3_isPing p = 0
      · rw [if_neg q, if_pos q2]
      · rw [if_neg q, if_neg q2, if_pos s0]
  rw [if_pos pl]
section PT
variable {sn r : Nat} {me sp sb no : UInt64} {vf mv df md : Nat → UInt64} {lf mt med kf rf mr : Nat → Int32} {fo fw : Int32}
theorem tail_L (hs : sn ≤ 64) (hV : rV sn vf mv mt) {F P a : Nat} (hF : F < 4) (hP : P < 32) (ha : a < 64) : ∀ (k i : Nat) (s : Int64) (f : Nat), i + k = 10 → 1 ≤ i → i ≤ 9 → 10 - i ≤ f → fX2_strengthsBehind_L27 df rf (nI F) sn me vf lf sp sb no (nI P) k (nI i) (nI a) s = fX4_tail_L43 sn me sp sb no fo (nI F) mv mt lf med md mr (nI a) (nI P) f (nI (a + i)) s := by
  intro k; induction k with
  | zero => intro i s f h1 h2 h3 h4; omega
  | succ k ih =>
    intro i s f h1 h2 h3 h4
    rcases f with _ | f
    · omega
    rw [fX2_strengthsBehind_L27, fX4_tail_L43, show nI a + (8 : Int32) = nI (a + 8) from nI_add a 8]
    by_cases c : i = 9
    · subst c
      rw [if_pos (show (8 : Int32) < nI 9 by decide)]
      by_cases d : nI sn ≤ nI (a + 9)
      · rw [if_pos d]
      · rw [if_neg d, if_pos (show nI (a + 8) < nI (a + 9) from nI_lt (by omega) (by omega))]
    · rw [if_neg (show ¬ (8 : Int32) < nI i from nI_nlt (a := 8) (b := i) (by omega) (by decide)), nI_add, nI_1]
      by_cases d : nI sn ≤ nI (a + i)
      · have d2 := (nI_leI (by omega) (by omega)).mp d
        rw [if_pos d, str_0 d2 (by omega), Int64.add_zero, ih (i + 1) s (f + 1) (by omega) (by omega) (by omega) (by omega), fX4_tail_L43, if_pos (show nI sn ≤ nI (a + (i + 1)) from nI_le (by omega) (by omega))]
      · have d2 := Nat.lt_of_not_le (fun z => d (nI_le z (by omega)))
        rw [if_neg d, if_neg (show ¬ nI (a + 8) < nI (a + i) from nI_nlt (by omega) (by omega)), strEq hs hV hF hP d2, show nI (a + i) + 1 = nI (a + (i + 1)) from nI_1 (a + i)]
        exact ih (i + 1) _ f (by omega) (by omega) (by omega) (by omega)
theorem cntEq {P : Nat} (hP : P < 32) (he : df P = md P) : fX0_sampleFor sn me (df P) = fX4_counting sn me md (nI P) := by
  have K : ∀ (k : Nat) (v : Int32), fX0_sampleFor_L2 sn me (df P) k v = fX4_counting_L2 sn me md (nI P) k v := by
    intro k; induction k with
    | zero => intro v; rfl
    | succ k ih =>
      intro v
      rw [fX0_sampleFor_L2, fX4_counting_L2, nI_clamp (by omega), ih, he]; rfl
  exact K 65 0
theorem tailEq (h1 : 1 ≤ sn) (hs : sn ≤ 64) (hV : rV sn vf mv mt) (hE : rE df md med) (h : rR fo kf rf mr) {F : Nat} (hF : F < 4) (hfw : fw = nI F) (p : Int32) : fX3_tail df kf rf fw sn me vf lf sp sb no p = fX4_tail sn me sp sb no fo fw mv mt lf med md mr p := by
  unfold fX3_tail fX4_tail
  rw [wkEq h]
  by_cases w : fX4_isWalked fo mr p = 0
  · rw [if_pos w, if_pos w]
  rw [if_neg w, if_neg w]
  obtain ⟨P, e, hP, hn⟩ := wkM w
  subst e; subst hfw
  unfold fX2_strengthsBehind
  obtain ⟨e1, e2⟩ := edM hE hP
  rw [e1, nI_clamp (by omega)]
  have T : ∀ a, a < 64 → fX2_strengthsBehind_L27 df rf (nI F) sn me vf lf sp sb no (nI P) 9 (1 : Int32) (nI a) 0 = fX4_tail_L36 sn me sp sb no fo (nI F) mv mt lf med md mr (nI P) 1 (nI a) := fun a ha => by
    rw [fX4_tail_L36, show nI a + (1 : Int32) = nI (a + 1) from nI_1 a]
    exact tail_L hs hV hF hP ha 9 1 0 66 rfl (Nat.le_refl _) (by decide) (by decide)
  by_cases z : med P = 0
  · rw [if_pos z, if_pos z]
    unfold fX2_sampleOfRow
    rw [if_neg (pingOk hP), nI_clamp (by omega)]
    rcases h with ⟨a, b⟩ | ⟨a, b⟩
    · exfalso
      unfold fX4_isWalked at w
      rw [if_pos a] at w; exact w rfl
    · rcases b P hP with ⟨x, y⟩ | ⟨x, K, hK, y, y2⟩
      · exact absurd y hn
      · rw [y, y2]; exact T K hK
  · rw [if_neg z, if_neg z]
    have he := (e2.resolve_left z).2
    unfold fX2_lowest
    rw [e1, if_neg z, nI_clamp (by omega), cntEq hP he]
    obtain ⟨q, q1, q2⟩ := countM me md (nI P) h1 hs
    rw [q2]; exact T q (by omega)
theorem l2d_nn {x : Int64} (h : 0 ≤ x.toInt) : nn (FP.l2d x) := by
  refine rr_nn (bd47 (bd_l2d x) (by decide)) (A := x.toInt.natAbs) (B := 1) (e := 0) ?_
  have e := FP.Core.val64_l2d x
  rw [show FP.l2d x = FP.Core.l2d x from rfl, e]
  have d : decide (x.toInt < 0) = false := decide_eq_false (by omega)
  show FP.Core.roundRatio FP.Core.b64 (decide (x.toInt < 0)) x.toInt.natAbs 1 0 = _
  rw [d]
theorem zv_nn {a : UInt64} (ha : bd 2047 a) (hn : nn a) : 0 ≤ zv a := by
  unfold zv
  rw [zval_nn ha hn]; exact Int.natCast_nonneg _
theorem zv_neg1 : zv NEG1 < 0 := by
  have h := neg_l
  rw [cmpv_z (by decide) (by decide)] at h
  have z0 : zv FP.dconst0 = 0 := by
    unfold zv
    rw [zval_nn (by decide) (by decide)]; decide +kernel
  rw [z0] at h
  by_cases c : zv NEG1 < 0
  · exact c
  · rw [if_neg c] at h
    split at h
    · exact absurd h (by decide)
    · exact absurd h (by decide)
theorem tail_pos (hM : okM sn me sp sb no mv) {F : Nat} (hF : F < 4) {P a : Nat} (hP : P < 32) (ha : a < 64) : ∀ (f i : Nat) (s : Int64), i ≤ 9 → 1 ≤ i → 0 ≤ s.toInt → s.toInt ≤ (i : Int) * 2 ^ 32 → ∃ s2 : Int64, fX4_tail_L43 sn me sp sb no fo (nI F) mv mt lf med md mr (nI a) (nI P) f (nI (a + i)) s = FP.l2d s2 ∧ 0 ≤ s2.toInt := by
  have hs := hM.2.1
  intro f; induction f with
  | zero => intro i s a1 a2 a3 a4; exact ⟨0, by rw [fX4_tail_L43]; decide +kernel, by decide⟩
  | succ f ih =>
    intro i s a1 a2 a3 a4
    rw [fX4_tail_L43, show nI a + (8 : Int32) = nI (a + 8) from nI_add a 8]
    by_cases d : nI sn ≤ nI (a + i)
    · rw [if_pos d]; exact ⟨s, rfl, a3⟩
    · rw [if_neg d]
      by_cases c : nI (a + 8) < nI (a + i)
      · rw [if_pos c]; exact ⟨s, rfl, a3⟩
      · have d2 := Nat.lt_of_not_le (fun z => d (nI_le z (by omega)))
        have c2 : ¬ a + 8 < a + i := fun z => c (nI_lt z (by omega))
        obtain ⟨s1, s2⟩ := str_bd mt lf hM hF hP (K := a + i) (by omega)
        rw [if_neg c, show nI (a + i) + 1 = nI (a + (i + 1)) from nI_1 (a + i)]
        refine ih (i + 1) _ (by omega) (by omega) ?_ ?_
        · rw [i64_add a3 (by omega) s1 (by omega)]; omega
        · rw [i64_add a3 (by omega) s1 (by omega)]; omega
theorem kindEq (hM : okM sn me sp sb no mv) (hV : rV sn vf mv mt) (hE : rE df md med) (h : rR fo kf rf mr) {F : Nat} (hF : F < 4) (hfw : fw = nI F) (p : Int32) : fX3_kind df kf rf fw sn me vf lf sp sb no p = fX4_kind sn me sp sb no fo fw mv mt lf med md mr p := by
  unfold fX3_kind fX4_kind
  rw [wkEq h, tailEq hM.1 hM.2.1 hV hE h hF hfw]
  by_cases w : fX4_isWalked fo mr p = 0
  · have t : fX4_tail sn me sp sb no fo fw mv mt lf med md mr p = NEG1 := by unfold fX4_tail; rw [if_pos w]
    rw [if_pos w, t, if_pos (by decide +kernel)]
  · rw [if_neg w]
    obtain ⟨P, e, hP, hn⟩ := wkM w
    have T : ∃ s2 : Int64, fX4_tail sn me sp sb no fo fw mv mt lf med md mr p = FP.l2d s2 ∧ 0 ≤ s2.toInt := by
      unfold fX4_tail
      rw [if_neg w]
      subst e; subst hfw
      rw [nI_clamp (by omega)]
      have T2 : ∀ a, a < 64 → ∃ s2 : Int64, fX4_tail_L36 sn me sp sb no fo (nI F) mv mt lf med md mr (nI P) 1 (nI a) = FP.l2d s2 ∧ 0 ≤ s2.toInt := fun a ha => by
        rw [fX4_tail_L36, show nI a + (1 : Int32) = nI (a + 1) from nI_1 a]
        exact tail_pos hM hF hP ha 66 1 0 (by decide) (by decide) (by decide) (by decide)
      by_cases z : med P = 0
      · rw [if_pos z]
        rcases h with ⟨a, b⟩ | ⟨a, b⟩
        · exfalso
          unfold fX4_isWalked at w
          rw [if_pos a] at w; exact w rfl
        · rcases b P hP with ⟨x, y⟩ | ⟨x, K, hK, y, y2⟩
          · exact absurd y hn
          · rw [y2]; exact T2 K hK
      · rw [if_neg z]
        obtain ⟨q, q1, q2⟩ := countM me md (nI P) hM.1 hM.2.1
        rw [q2]; exact T2 q (by have := hM.2.1; omega)
    obtain ⟨s2, t1, t2⟩ := T
    have hb : bd 2047 (FP.l2d s2) := bd47 (bd_l2d s2) (by decide)
    have hne : ¬ Op.cmpValue (FP.dcmp (FP.l2d s2) (13830554455654793216 : UInt64)) CmpOp.l = 0 := fun z => by
      have e1 := (cl_eq hb (by decide)).mp z
      have e2 := zv_nn hb (l2d_nn t2)
      have e3 : zv NEG1 < 0 := zv_neg1
      have e4 : zv (13830554455654793216 : UInt64) < 0 := e3
      omega
    rw [t1, if_neg hne]
theorem hden_ok {x y : UInt64} (hx : bd 1055 x) (hy : bd 1055 y) : ∀ j : Nat, j < 32 → lb 1023 (FP.dadd (FP.dadd FP.dconst1 (FP.dmul (FP.dsub x (FP.i2d (nI j))) (FP.dsub x (FP.i2d (nI j))))) (FP.dmul y y)) ∧ nn (FP.dadd (FP.dadd FP.dconst1 (FP.dmul (FP.dsub x (FP.i2d (nI j))) (FP.dsub x (FP.i2d (nI j))))) (FP.dmul y y)) := by
  intro j hj
  have xs : bd 1058 (FP.dsub x (FP.i2d (nI j))) := bd_sub hx (bd_i2d _) (by decide) (by decide) (by decide) (by decide)
  have xx : bd 1094 (FP.dmul (FP.dsub x (FP.i2d (nI j))) (FP.dsub x (FP.i2d (nI j)))) := bd_mul xs xs (by decide) (by decide) (by decide)
  have one : bd 1024 FP.dconst1 := by decide
  have x1 : bd 1096 (FP.dadd FP.dconst1 (FP.dmul (FP.dsub x (FP.i2d (nI j))) (FP.dsub x (FP.i2d (nI j))))) := bd_add one xx (by decide) (by decide) (by decide) (by decide)
  have yy : bd 1088 (FP.dmul y y) := bd_mul hy hy (by decide) (by decide) (by decide)
  have dn : bd 1098 (FP.dadd (FP.dadd FP.dconst1 (FP.dmul (FP.dsub x (FP.i2d (nI j))) (FP.dsub x (FP.i2d (nI j))))) (FP.dmul y y)) := bd_add x1 yy (by decide) (by decide) (by decide) (by decide)
  have n1 := nn_sq (bd47 xs (by decide)) (bd47 xx (by decide))
  have n2 := nn_sq (bd47 hy (by decide)) (bd47 yy (by decide))
  have o2 : bd 2047 FP.dconst1 := by decide
  have n3 := nn_add o2 (bd47 xx (by decide)) (bd47 x1 (by decide)) (by decide) n1
  have m1 := mono_add o2 (bd47 xx (by decide)) (by decide) n1
  have m2 := mono_add (bd47 x1 (by decide)) (bd47 yy (by decide)) n3 n2
  have c1 : FP.dconst1.toNat % 2 ^ 63 = 1023 * 2 ^ 52 := by decide
  refine ⟨⟨by omega, bd47 dn (by decide)⟩, nn_add (bd47 x1 (by decide)) (bd47 yy (by decide)) (bd47 dn (by decide)) n3 n2⟩
end PT
