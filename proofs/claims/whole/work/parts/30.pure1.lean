/-! ===== PURE: the two sides' mirrors agree (samples, strengths, tellings) ===== -/
abbrev NEG1 : UInt64 := 13830554455654793216
theorem cmp_lg {r : Option Ordering} (h : ¬ Op.cmpValue r CmpOp.l < 0) : ¬ Op.cmpValue r CmpOp.g < 0 := by
  rcases r with _ | (_ | _ | _)
  · exact absurd (by decide) h
  · exact absurd (by decide) h
  · decide
  · decide
theorem neg_g : Op.cmpValue (FP.dcmp NEG1 FP.dconst0) CmpOp.g < 0 := by decide +kernel
theorem neg_l : Op.cmpValue (FP.dcmp NEG1 FP.dconst0) CmpOp.l < 0 := by decide +kernel
theorem wth_z {v lo c : UInt64} (hv : bd 2047 v) (hlo : bd 2047 lo) (hc : bd 2047 c) (h : ¬ fX3_within v lo c = 0) : zv lo ≤ zv v ∧ zv v ≤ zv c := by
  unfold fX3_within at h
  by_cases c1 : Op.cmpValue (FP.dcmp v lo) CmpOp.l < 0
  · rw [if_pos c1] at h; exact absurd rfl h
  rw [if_neg c1] at h
  by_cases c2 : 0 < Op.cmpValue (FP.dcmp v c) CmpOp.g
  · rw [if_pos c2] at h; exact absurd rfl h
  rw [cmpv_z hv hlo] at c1
  rw [cmpv_z hv hc] at c2
  constructor
  · by_cases a : zv v < zv lo
    · rw [if_pos a] at c1; exact absurd (by decide) c1
    · omega
  · by_cases a : zv v < zv c
    · omega
    · by_cases b : zv v = zv c
      · omega
      · rw [if_neg a, if_neg b] at c2; exact absurd (by decide) c2
theorem wth_l {v lo c : UInt64} (h : ¬ fX3_within v lo c = 0) : ¬ Op.cmpValue (FP.dcmp v lo) CmpOp.l < 0 := by
  intro z
  unfold fX3_within at h
  rw [if_pos z] at h; exact h rfl
theorem wth_bd {v lo c : UInt64} {K : Nat} (hv : bd 2047 v) (hlo : bd 2047 lo) (hc : bd 2047 c) (hle : lo.toNat % 2 ^ 63 ≤ c.toNat % 2 ^ 63) (hK : bd K c) (h : ¬ fX3_within v lo c = 0) : bd K v := by
  obtain ⟨h1, h2⟩ := wth_z hv hlo hc h
  have u1 := units_bits hv
  have u2 := units_bits hlo
  have u3 := units_bits hc
  have u4 := (FP.Core.unitsOf_le_iff (f := FP.Core.b64)).mpr hle
  have : FP.Core.unitsOf FP.Core.b64 (v.toNat % 2 ^ 63) ≤ FP.Core.unitsOf FP.Core.b64 (c.toNat % 2 ^ 63) := by omega
  have := FP.Core.unitsOf_le_iff.mp this
  exact Nat.lt_of_le_of_lt this hK
theorem nar1 : vp_nar .boolean (1 : Int32) = 1 := rfl
theorem nar0 : vp_nar .boolean (0 : Int32) = 0 := rfl
/-- the samples told, on both sides -/
def rV (sn : Nat) (vf mv : Nat → UInt64) (mt : Nat → Int32) : Prop :=
  ∀ F P K, F < 4 → P < 32 → K < sn → (mt (2048 * F + 64 * P + K) = 0 ∧ vf ((F * 32 + P) * sn + K) = NEG1) ∨ (mt (2048 * F + 64 * P + K) = 1 ∧ vf ((F * 32 + P) * sn + K) = mv (2048 * F + 64 * P + K) ∧ ¬ Op.cmpValue (FP.dcmp (vf ((F * 32 + P) * sn + K)) FP.dconst0) CmpOp.l < 0)
theorem place_of {sn F P K : Nat} (hs : sn ≤ 64) (hF : F < 4) (hP : P < 32) (hK : K < sn) : ¬ fX0_placeOf sn (nI F) (nI P) (nI K) = -1 ∧ (fX0_placeOf sn (nI F) (nI P) (nI K)).toNatClampNeg = (F * 32 + P) * sn + K := by
  have hlt := place_lt (sn := sn) hF hP hK
  have e : fX0_placeOf sn (nI F) (nI P) (nI K) = nI ((F * 32 + P) * sn + K) := by
    unfold fX0_placeOf fX3_isFrequency fX3_isPing fX0_isSample
    have a1 : ¬ nI F < 0 := nI_pos (by omega)
    have a2 : ¬ (4 : Int32) ≤ nI F := nI_ge (b := 4) hF (by decide)
    have b1 : ¬ nI P < 0 := nI_pos (by omega)
    have b2 : ¬ (32 : Int32) ≤ nI P := nI_ge (b := 32) hP (by decide)
    have d1 : ¬ nI K < 0 := nI_pos (by omega)
    have d2 : ¬ nI sn ≤ nI K := nI_ge hK (by omega)
    rw [if_neg a1, if_neg a2, if_neg b1, if_neg b2, if_neg d1, if_neg d2, if_neg (by decide), if_neg (by decide), if_neg (by decide)]
    rw [show nI F * 32 = nI (F * 32) from pk_mul F 32, nI_add, pk_mul, nI_add]
  rw [e]
  refine ⟨fun z => ?_, nI_clamp (by omega)⟩
  have h9 : ¬ nI ((F * 32 + P) * sn + K) < 0 := nI_pos (by omega)
  rw [z] at h9; exact h9 (by decide)
theorem cl3 {F P K : Nat} (hF : F < 4) (hP : P < 32) (hK : K < 64) : ((((2048 : Int32) * nI F) + ((64 : Int32) * nI P)) + nI K).toNatClampNeg = 2048 * F + 64 * P + K := by
  rw [cellM rfl rfl rfl, nI_clamp (by omega)]
theorem pingOk {P : Nat} (hP : P < 32) : ¬ fX3_isPing (nI P) = 0 := by
  unfold fX3_isPing
  have b1 : ¬ nI P < 0 := nI_pos (by omega)
  have b2 : ¬ (32 : Int32) ≤ nI P := nI_ge (b := 32) hP (by decide)
  rw [if_neg b1, if_neg b2]; decide
theorem strEq {sn : Nat} {me sp sb no : UInt64} {vf mv : Nat → UInt64} {lf mt : Nat → Int32} (hs : sn ≤ 64) (hV : rV sn vf mv mt) {F P K : Nat} (hF : F < 4) (hP : P < 32) (hK : K < sn) : fX0_strength sn me vf lf sp sb no (nI F) (nI P) (nI K) = fX4_strength me sp sb no mv mt lf (nI F) (nI P) (nI K) := by
  obtain ⟨p1, p2⟩ := place_of hs hF hP hK
  unfold fX0_strength fX4_strength
  rw [if_neg p1, p2, cl3 hF hP (by omega)]
  rcases hV F P K hF hP hK with ⟨a, b⟩ | ⟨a, b, d⟩
  · rw [a, b, if_pos neg_g, if_pos rfl]
  · rw [a, if_neg (cmp_lg d), if_neg (show ¬ (1 : Int32) = 0 by decide)]
    unfold fX0_isLost
    rw [if_neg (pingOk hP), nI_clamp (by omega)]
    by_cases l : lf P = 0
    · rw [if_pos l, if_pos rfl, if_pos l, b]
      show (if _ < _ then _ else _) = _
      rw [show fX4_range me (nI K) = fX0_range me (nI K) from rfl]
      generalize FP.d2l (FP.dsub (FP.dadd (FP.dadd (mv (2048 * F + 64 * P + K)) (FP.dmul sp (fX0_range me (nI K)))) (FP.dmul (FP.dmul (FP.dmul sb (fX0_range me (nI K))) (fX0_range me (nI K))) (4562254508917369340 : UInt64))) no) = z
      by_cases q : z < 0
      · rw [if_pos q, if_neg (fun w => by have := lgc_ge.mp w; have := Int64.lt_iff_toInt_lt.mp q; omega)]
      · rw [if_neg q, if_pos (lgc_ge.mpr (by have h9 : ¬ z.toInt < (0 : Int64).toInt := fun w => q (Int64.lt_iff_toInt_lt.mpr w); omega))]
    · rw [if_neg l, if_neg (by decide), if_neg l]
theorem sil_L {sn : Nat} {vf mv : Nat → UInt64} {mt : Nat → Int32} (hs : sn ≤ 64) (hV : rV sn vf mv mt) {F P : Nat} (hF : F < 4) (hP : P < 32) : ∀ (k j : Nat), j + k = 65 → j ≤ sn → fX0_isSilent_L2 sn vf (nI F) (nI P) k (nI j) = fX4_isEmpty_L2 sn mt (nI F) (nI P) k (nI j) := by
  intro k; induction k with
  | zero => intro j a b; omega
  | succ k ih =>
    intro j a b
    rw [fX0_isSilent_L2, fX4_isEmpty_L2]
    by_cases c : nI sn ≤ nI j
    · rw [if_pos c, if_pos c]
    · have hj := Nat.lt_of_not_le (fun z => c (nI_le z (by omega)))
      obtain ⟨p1, p2⟩ := place_of hs hF hP hj
      rw [if_neg c, if_neg c, if_neg p1, p2, cl3 hF hP (by omega)]
      rcases hV F P j hF hP hj with ⟨e1, e2⟩ | ⟨e1, e2, e3⟩
      · rw [e1, e2, if_pos neg_l, if_pos rfl, nI_1]
        exact ih (j + 1) (by omega) (by omega)
      · rw [e1, if_neg e3, if_neg (by decide)]
theorem silEq {sn : Nat} {vf mv : Nat → UInt64} {mt : Nat → Int32} (hs : sn ≤ 64) (hV : rV sn vf mv mt) {F P : Nat} (hF : F < 4) (hP : P < 32) : fX0_isSilent sn vf (nI F) (nI P) = fX4_isEmpty sn mt (nI F) (nI P) := sil_L hs hV hF hP 65 0 rfl (Nat.zero_le _)
theorem sil_no {sn : Nat} {vf : Nat → UInt64} {f p : Int32} (h : fX3_isPing p = 0) (hs : sn ≤ 64) : fX0_isSilent sn vf f p = 1 := by
  have pl : ∀ k, fX0_placeOf sn f p k = -1 := fun k => by
    unfold fX0_placeOf
    by_cases q : fX3_isFrequency f = 0
    · rw [if_pos q]
    · rw [if_neg q, if_pos h]
  have K : ∀ (k j : Nat), j + k = 65 → j ≤ sn → fX0_isSilent_L2 sn vf f p k (nI j) = 1 := by
    intro k; induction k with
    | zero => intro j a b; omega
    | succ k ih =>
      intro j a b
      rw [fX0_isSilent_L2]
      by_cases c : nI sn ≤ nI j
      · rw [if_pos c]
      · have hj := Nat.lt_of_not_le (fun z => c (nI_le z (by omega)))
        rw [if_neg c, if_pos (pl _), nI_1]
        exact ih (j + 1) (by omega) (by omega)
  exact K 65 0 rfl (Nat.zero_le _)
theorem emptyEq {sn : Nat} {vf mv : Nat → UInt64} {mt : Nat → Int32} {ch : Int32} (hs : sn ≤ 64) (hV : rV sn vf mv mt) {F : Nat} (hF : F < 4) (hch : ch = nI F) (p : Int32) : fX3_empty ch sn vf p = fX4_empty sn ch mt p := by
  unfold fX3_empty fX4_empty
  by_cases h : fX3_isPing p = 0
  · rw [sil_no h hs, if_pos (show fX4_isPing p = 0 from h)]
  · obtain ⟨P, e, hP⟩ := pingM (show ¬ fX4_isPing p = 0 from h)
    rw [if_neg (show ¬ fX4_isPing p = 0 from h), e, hch, silEq hs hV hF hP]
    by_cases z : fX4_isEmpty sn mt (nI F) (nI P) = 0
    · rw [if_pos z, z]
    · rw [if_neg z]
      have K : ∀ (k : Nat) (v : Int32), fX4_isEmpty_L2 sn mt (nI F) (nI P) k v = 0 ∨ fX4_isEmpty_L2 sn mt (nI F) (nI P) k v = 1 := by
        intro k; induction k with
        | zero => intro v; exact Or.inl rfl
        | succ k ih =>
          intro v
          rw [fX4_isEmpty_L2]
          split
          · exact Or.inr rfl
          · split
            · exact ih _
            · exact Or.inl rfl
      exact (K 65 0).resolve_left z
theorem vf_us {α : Type} {f : Nat → α} {k : Nat} {x : α} : vf_upd f k x k = x := by unfold vf_upd; rw [if_pos rfl]
theorem vf_un {α : Type} {f : Nat → α} {k j : Nat} {x : α} (h : j ≠ k) : vf_upd f k x j = f j := by unfold vf_upd; rw [if_neg h]
theorem cell_inj {sn a b c d : Nat} (hb : b < sn) (hd : d < sn) (h : a * sn + b = c * sn + d) : a = c ∧ b = d := by
  have e1 : (a * sn + b) / sn = a := by rw [Nat.mul_comm, Nat.mul_add_div (by omega), Nat.div_eq_of_lt hb, Nat.add_zero]
  have e2 : (c * sn + d) / sn = c := by rw [Nat.mul_comm, Nat.mul_add_div (by omega), Nat.div_eq_of_lt hd, Nat.add_zero]
  rw [h, e2] at e1
  subst e1
  exact ⟨rfl, by omega⟩
theorem rV_upd {sn : Nat} {vf mv : Nat → UInt64} {mt : Nat → Int32} (hV : rV sn vf mv mt) {F P K : Nat} (hF : F < 4) (hP : P < 32) (hK : K < sn) {v : UInt64} (hv : ¬ Op.cmpValue (FP.dcmp v FP.dconst0) CmpOp.l < 0) (hs : sn ≤ 64) : rV sn (vf_upd vf ((F * 32 + P) * sn + K) v) (vf_upd mv (2048 * F + 64 * P + K) v) (upd mt (2048 * F + 64 * P + K) (vp_nar .boolean 1)) := by
  intro F2 P2 K2 f2 q2 k2
  by_cases e : F2 = F ∧ P2 = P ∧ K2 = K
  · obtain ⟨rfl, rfl, rfl⟩ := e
    rw [vf_us, vf_us, pk_us]
    exact Or.inr ⟨nar1, rfl, hv⟩
  · have n1 : (F2 * 32 + P2) * sn + K2 ≠ (F * 32 + P) * sn + K := fun z => by
      obtain ⟨a, b⟩ := cell_inj k2 hK z
      exact e ⟨by omega, by omega, b⟩
    have n2 : 2048 * F2 + 64 * P2 + K2 ≠ 2048 * F + 64 * P + K := fun z => e ⟨by omega, by omega, by omega⟩
    rw [vf_un n1, vf_un n2, pk_un n2]
    exact hV F2 P2 K2 f2 q2 k2
/-- a sample told: both answer alike, the samples stay alike -/
theorem valueEq {sn : Nat} {vf mv : Nat → UInt64} {mt : Nat → Int32} {ch : Int32} (hs : sn ≤ 64) (hV : rV sn vf mv mt) {F : Nat} (hF : F < 4) (hch : ch = nI F) (p k : Int32) (v : UInt64) : (fX3_value ch sn vf p k v).1 = (fX4_value sn ch mv mt p k v).1 ∧ rV sn (fX3_value ch sn vf p k v).2 (fX4_value sn ch mv mt p k v).2.1 (fX4_value sn ch mv mt p k v).2.2 := by
  unfold fX3_value fX0_tell fX4_value
  by_cases h1 : fX3_isPing p = 0
  · have pl : fX0_placeOf sn ch p k = -1 := by
      unfold fX0_placeOf
      by_cases q : fX3_isFrequency ch = 0
      · rw [if_pos q]
      · rw [if_neg q, if_pos h1]
    rw [if_pos pl, if_pos (show fX4_isPing p = 0 from h1)]; exact ⟨rfl, hV⟩
  rw [if_neg (show ¬ fX4_isPing p = 0 from h1)]
  by_cases h2 : fX0_isSample sn k = 0
  · have pl : fX0_placeOf sn ch p k = -1 := by
      unfold fX0_placeOf
      by_cases q : fX3_isFrequency ch = 0
      · rw [if_pos q]
      · rw [if_neg q, if_neg h1, if_pos h2]
    rw [if_pos pl, if_pos (show fX4_isSample sn k = 0 from h2)]; exact ⟨rfl, hV⟩
  rw [if_neg (show ¬ fX4_isSample sn k = 0 from h2)]
  obtain ⟨P, e, hP⟩ := pingM (show ¬ fX4_isPing p = 0 from h1)
  obtain ⟨K, hK, e2⟩ := sample_nI hs h2
  subst e; subst e2; subst hch
  obtain ⟨p1, p2⟩ := place_of hs hF hP hK
  rw [if_neg p1]
  by_cases h3 : fX3_within v FP.dconst0 (4652007308841189376 : UInt64) = 0
  · rw [if_pos h3, if_pos (show fX4_within v FP.dconst0 (4652007308841189376 : UInt64) = 0 from h3)]; exact ⟨rfl, hV⟩
  · rw [if_neg h3, if_neg (show ¬ fX4_within v FP.dconst0 (4652007308841189376 : UInt64) = 0 from h3), p2, cl3 hF hP (by omega)]
    exact ⟨rfl, rV_upd hV hF hP hK (wth_l h3) hs⟩
