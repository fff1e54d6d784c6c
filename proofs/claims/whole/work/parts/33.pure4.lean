/-! ===== PURE: bent, surface, joined, edits ===== -/
theorem bentEq {r sn : Nat} {me : UInt64} {rn : Int32} {sf nf tf gf : Nat → UInt64} (hm : bd 1030 me) (hT : tabOk 1034 r rn sf nf) (p k : Int32) : fX3_bent tf gf rn sf nf sn me p k = fX4_bent sn me rn tf gf sf nf p k := by
  unfold fX3_bent fX4_bent
  by_cases c1 : fX3_isPing p = 0
  · rw [if_pos c1, if_pos (show fX4_isPing p = 0 from c1)]
  rw [if_neg c1, if_neg (show ¬ fX4_isPing p = 0 from c1)]
  by_cases c2 : fX0_isSample sn k = 0
  · rw [if_pos c2, if_pos (show fX4_isSample sn k = 0 from c2)]
  rw [if_neg c2, if_neg (show ¬ fX4_isSample sn k = 0 from c2)]
  have K : ∀ (f : Nat) (j : Int32) (w : UInt64), fX3_bent_L27 tf gf rn sf nf sn me p k f j w = fX4_bent_L24 sn me rn tf gf sf nf p k f j w := by
    intro f; induction f with
    | zero => intro j w; rfl
    | succ f ih =>
      intro j w
      rw [fX3_bent_L27, fX4_bent_L24]
      have hb : bd 2047 (FP.dmul (FP.i2d j) me) := bd_mul (Ka := 1056) (Kb := 1030) (bd_i2d _) hm (by decide) (by decide) (by decide)
      rw [stepEq hT hb, ih]
  exact K 66 0 _
theorem surfEq {sn : Nat} {me sp sb no : UInt64} {vf mv : Nat → UInt64} {lf mt : Nat → Int32} {ch : Int32} (hs : sn ≤ 64) (hV : rV sn vf mv mt) {F : Nat} (hF : F < 4) (hch : ch = nI F) (p : Int32) : fX3_surface ch sn me vf lf sp sb no p = fX4_surface sn me ch sp sb no mv mt lf p := by
  unfold fX3_surface fX4_surface
  by_cases c1 : fX3_isPing p = 0
  · rw [if_pos c1, if_pos (show fX4_isPing p = 0 from c1)]
  rw [if_neg c1, if_neg (show ¬ fX4_isPing p = 0 from c1)]
  obtain ⟨P, e, hP⟩ := pingM (show ¬ fX4_isPing p = 0 from c1)
  subst e; subst hch
  have K : ∀ (k j : Nat), j + k = 65 → j ≤ sn → fX3_surface_L13 (nI F) sn me vf lf sp sb no (nI P) k (nI j) = fX4_surface_L13 sn me (nI F) sp sb no mv mt lf (nI P) k (nI j) := by
    intro k; induction k with
    | zero => intro j a b; omega
    | succ k ih =>
      intro j a b
      rw [fX3_surface_L13, fX4_surface_L13]
      by_cases c : nI sn ≤ nI j
      · rw [if_pos c, if_pos c]
      · have hj := Nat.lt_of_not_le (fun z => c (nI_le z (by omega)))
        rw [if_neg c, if_neg c, strEq hs hV hF hP hj, nI_1, ih (j + 1) (by omega) (by omega)]
  exact K 65 0 rfl (Nat.zero_le _)
theorem freq_iff (f : Int32) : fX3_isFrequency f = 0 ↔ (f < 0 ∨ 3 < f) := by
  unfold fX3_isFrequency
  by_cases c1 : f < 0
  · rw [if_pos c1]; exact ⟨fun _ => Or.inl c1, fun _ => rfl⟩
  · rw [if_neg c1]
    by_cases c2 : 4 ≤ f
    · rw [if_pos c2]; exact ⟨fun _ => Or.inr (Int32.lt_of_lt_of_le (by decide) c2), fun _ => rfl⟩
    · rw [if_neg c2]
      refine ⟨fun q => absurd q (by decide), fun q => ?_⟩
      rcases q with q | q
      · exact absurd q c1
      · rcases pk_ix f (n := 4) (by decide) with z | z | ⟨j, hj, e⟩
        · exact absurd z c1
        · exact absurd z c2
        · rw [e] at q
          have := (nI_ltI (a := 3) (by decide) (by omega)).mp q
          omega
theorem joinEq {sn : Nat} {me sp sb no : UInt64} {vf mv : Nat → UInt64} {lf mt : Nat → Int32} (hs : sn ≤ 64) (hm : bd 1030 me) (hl : lb 1020 me) (hV : rV sn vf mv mt) (f p k : Int32) : fX3_joined sn me vf lf sp sb no f p k = fX4_joined sn me sp sb no mv mt lf f p k := by
  unfold fX3_joined fX4_joined
  by_cases c0 : fX3_isFrequency f = 0
  · rw [if_pos c0]
    rcases (freq_iff f).mp c0 with q | q
    · rw [if_pos q]
    · by_cases z : f < 0
      · rw [if_pos z]
      · rw [if_neg z, if_pos q]
  have g1 : ¬ f < 0 := fun q => c0 ((freq_iff f).mpr (Or.inl q))
  have g2 : ¬ 3 < f := fun q => c0 ((freq_iff f).mpr (Or.inr q))
  rw [if_neg c0, if_neg g1, if_neg g2]
  by_cases c1 : fX3_isPing p = 0
  · rw [if_pos c1, if_pos (show fX4_isPing p = 0 from c1)]
  rw [if_neg c1, if_neg (show ¬ fX4_isPing p = 0 from c1)]
  by_cases c2 : fX0_isSample sn k = 0
  · rw [if_pos c2, if_pos (show fX4_isSample sn k = 0 from c2)]
  rw [if_neg c2, if_neg (show ¬ fX4_isSample sn k = 0 from c2)]
  obtain ⟨F, e0, hF⟩ := rng3 g1 g2
  obtain ⟨P, e1, hP⟩ := pingM (show ¬ fX4_isPing p = 0 from c1)
  obtain ⟨K, hK, e2⟩ := sample_nI hs c2
  subst e0; subst e1; subst e2
  rw [strEq hs hV (by omega) hP hK, show nI K + (1 : Int32) = nI (K + 1) from nI_1 K]
  by_cases c3 : K + 1 = sn
  · have s0 : fX0_isSample sn (nI (K + 1)) = 0 := by
      unfold fX0_isSample
      rw [if_neg (show ¬ nI (K + 1) < 0 from nI_pos (by omega)), if_pos (by rw [c3]; exact Int32.le_refl _)]
    rw [if_pos s0, if_pos (by rw [c3])]
  · have s0 : ¬ fX0_isSample sn (nI (K + 1)) = 0 := by
      unfold fX0_isSample
      rw [if_neg (show ¬ nI (K + 1) < 0 from nI_pos (by omega)), if_neg (show ¬ nI sn ≤ nI (K + 1) from nI_ge (by omega) (by omega))]; decide
    rw [if_neg s0, if_neg (show ¬ nI (K + 1) = nI sn from fun z => c3 ((nI_eq (by omega) (by omega)).mp z)), strEq hs hV (by omega) hP (by omega)]
    obtain ⟨v1, v2⟩ := volM hm hl (k := nI K) (k2 := nI (K + 1)) rfl (by omega)
    have r1 := rangeM_bd hm (nI K)
    have r2 := rangeM_bd hm (nI (K + 1))
    have m1 : bd 1106 (FP.dmul (fX4_range me (nI K)) (fX4_range me (nI K))) := bd_mul r1 r1 (by decide) (by decide) (by decide)
    have m2 : bd 1106 (FP.dmul (fX4_range me (nI (K + 1))) (fX4_range me (nI (K + 1)))) := bd_mul r2 r2 (by decide) (by decide) (by decide)
    have s : bd 1108 (FP.dadd (FP.dmul (fX4_range me (nI K)) (fX4_range me (nI K))) (FP.dmul (fX4_range me (nI (K + 1))) (fX4_range me (nI (K + 1))))) := bd_add m1 m2 (by decide) (by decide) (by decide) (by decide)
    exact over_eq (pos_gt (bd47 s (by decide)) v2 v1)
/-- depths told by hand -/
def rE (df md : Nat → UInt64) (med : Nat → Int32) : Prop := (∀ P, P < 32 → (med P = 0 ∧ df P = NEG1) ∨ (med P = 1 ∧ df P = md P ∧ ¬ Op.cmpValue (FP.dcmp (df P) FP.dconst0) CmpOp.l < 0)) ∧ (∀ i, i < 32 → bd 1037 (df i)) ∧ (∀ i, i < 32 → bd 1037 (md i))
theorem editEq {df md : Nat → UInt64} {med : Nat → Int32} (h : rE df md med) (p : Int32) {v : UInt64} (hv : bd 1055 v) : (fX3_edit df p v).1 = (fX4_edit med md p v).1 ∧ rE (fX3_edit df p v).2 (fX4_edit med md p v).2.2 (fX4_edit med md p v).2.1 := by
  unfold fX3_edit fX2_tellDepth fX4_edit
  by_cases c1 : fX3_isPing p = 0
  · rw [if_pos c1, if_pos (show fX4_isPing p = 0 from c1)]; exact ⟨rfl, h⟩
  rw [if_neg c1, if_neg (show ¬ fX4_isPing p = 0 from c1)]
  by_cases c2 : fX3_within v FP.dconst0 (4666723172467343360 : UInt64) = 0
  · rw [if_pos c2, if_pos (show fX4_within v FP.dconst0 (4666723172467343360 : UInt64) = 0 from c2)]; exact ⟨rfl, h⟩
  rw [if_neg c2, if_neg (show ¬ fX4_within v FP.dconst0 (4666723172467343360 : UInt64) = 0 from c2)]
  obtain ⟨P, e, hP⟩ := pingM (show ¬ fX4_isPing p = 0 from c1)
  subst e
  rw [nI_clamp (by omega)]
  have hb : bd 1037 v := wth_bd (bd47 hv (by decide)) (by decide) (by decide) (by decide) (by decide) c2
  refine ⟨rfl, fun Q hQ => ?_, fun i hi => ?_, fun i hi => ?_⟩
  · show (upd med P (vp_nar .boolean 1) Q = 0 ∧ vf_upd df P v Q = NEG1) ∨ (upd med P (vp_nar .boolean 1) Q = 1 ∧ vf_upd df P v Q = vf_upd md P v Q ∧ ¬ Op.cmpValue (FP.dcmp (vf_upd df P v Q) FP.dconst0) CmpOp.l < 0)
    by_cases e : Q = P
    · subst e; rw [vf_us, vf_us, pk_us]; exact Or.inr ⟨nar1, rfl, wth_l c2⟩
    · rw [vf_un e, vf_un e, pk_un e]; exact h.1 Q hQ
  · show bd 1037 (vf_upd df P v i)
    by_cases e : i = P
    · subst e; rw [vf_us]; exact hb
    · rw [vf_un e]; exact h.2.1 i hi
  · show bd 1037 (vf_upd md P v i)
    by_cases e : i = P
    · subst e; rw [vf_us]; exact hb
    · rw [vf_un e]; exact h.2.2 i hi
theorem edM {df md : Nat → UInt64} {med : Nat → Int32} (h : rE df md med) {P : Nat} (hP : P < 32) : fX2_isEdited df (nI P) = med P ∧ (med P = 0 ∨ (med P = 1 ∧ df P = md P)) := by
  unfold fX2_isEdited
  rw [if_neg (pingOk hP), nI_clamp (by omega)]
  rcases h.1 P hP with ⟨a, b⟩ | ⟨a, b, d⟩
  · rw [a, b, if_pos neg_l]; exact ⟨rfl, Or.inl rfl⟩
  · rw [a, if_neg d]; exact ⟨rfl, Or.inr ⟨rfl, b⟩⟩
