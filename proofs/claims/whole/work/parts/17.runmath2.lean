section RN
variable {mn : Nat} {mm msp msb mno : UInt64} {mv md : Nat → UInt64} {mt ml med : Nat → Int32} {mch st : Int32} {ww : Nat → Int32} {uu : Nat → Int64}
/-- the sum that the reference lays down for ping a of the walk, sample b -/
def svM (mn : Nat) (mm msp msb mno : UInt64) (mv md : Nat → UInt64) (mt ml med : Nat → Int32) (mch st : Int32) (ww : Nat → Int32) (uu : Nat → Int64) (a b : Nat) : Int64 :=
  if fX4_mayStand mn mm med md (ww a) (nI b) = 0 then -1 else if 0 ≤ lg_cmp (fX4_bestBefore mn med uu ww (nI a) (nI b) st) 0 then fX4_bestBefore mn med uu ww (nI a) (nI b) st + fX4_strength mm msp msb mno mv mt ml mch (ww a) (nI b) else -1
def okS (mn : Nat) (mm msp msb mno : UInt64) (mv md : Nat → UInt64) (mt ml med : Nat → Int32) (mch st : Int32) (ww : Nat → Int32) (uu : Nat → Int64) (i b : Nat) : Prop :=
  ∀ a c, c < mn → (a < i ∨ (a = i ∧ c < b)) → uu (64 * a + c) = svM mn mm msp msb mno mv md mt ml med mch st ww uu a c
theorem bb_0 (k : Int32) : fX4_bestBefore mn med uu ww (nI 0) k st = 0 := by
  unfold fX4_bestBefore; rw [if_pos nI_0]
theorem bb_frame {vv : Nat → Int64} (hn : mn ≤ 64) {a : Nat} (ha : a ≤ 32) (k : Int32) (h : ∀ i, i < 64 * a → vv i = uu i) : fX4_bestBefore mn med vv ww (nI a) k st = fX4_bestBefore mn med uu ww (nI a) k st := by
  rcases Nat.eq_zero_or_pos a with z | z
  · subst z; rw [bb_0, bb_0]
  · exact (bbM_all hn z ha).2.2.2 h
theorem sv_frame {vv : Nat → Int64} (hn : mn ≤ 64) {a b : Nat} (ha : a ≤ 32) (h : ∀ i, i < 64 * a → vv i = uu i) : svM mn mm msp msb mno mv md mt ml med mch st ww vv a b = svM mn mm msp msb mno mv md mt ml med mch st ww uu a b := by
  unfold svM; rw [bb_frame hn ha _ h]
theorem okS_step (hn : mn ≤ 64) {i b : Nat} (hi : i < 32) (hb : b < mn) (h : okS mn mm msp msb mno mv md mt ml med mch st ww uu i b) {v : Int64} (hv : v = svM mn mm msp msb mno mv md mt ml med mch st ww uu i b) : okS mn mm msp msb mno mv md mt ml med mch st ww (vp_updL uu (64 * i + b) v) i (b + 1) := by
  intro a c hc hac
  have ha : a ≤ i := by omega
  have fr : ∀ q, q < 64 * a → vp_updL uu (64 * i + b) v q = uu q := fun q hq => pk_uLn (by omega)
  rw [sv_frame hn (by omega) fr]
  by_cases e : a = i ∧ c = b
  · obtain ⟨rfl, rfl⟩ := e
    rw [pk_uLs, hv]
  · rw [pk_uLn (by omega)]
    exact h a c hc (by omega)
theorem okS_row {i : Nat} (h : okS mn mm msp msb mno mv md mt ml med mch st ww uu i mn) : okS mn mm msp msb mno mv md mt ml med mch st ww uu (i + 1) 0 := by
  intro a c hc hac
  exact h a c hc (by omega)
theorem i64_add {x y : Int64} (h1 : 0 ≤ x.toInt) (h2 : x.toInt ≤ 2 ^ 40) (h3 : 0 ≤ y.toInt) (h4 : y.toInt ≤ 2 ^ 40) : (x + y).toInt = x.toInt + y.toInt := by
  rw [Int64.toInt_add]
  exact Int.bmod_eq_of_le (by omega) (by omega)
theorem stand_all {P : Nat} (hP : P < 32) (h : med P = 0) (k : Int32) : ¬ fX4_mayStand mn mm med md (nI P) k = 0 := by
  unfold fX4_mayStand
  rw [nI_clamp (by omega), if_pos h]; decide
theorem stand_one {P : Nat} (hP : P < 32) (h : ¬ med P = 0) : ¬ fX4_mayStand mn mm med md (nI P) (fX4_counting mn mm md (nI P)) = 0 := by
  unfold fX4_mayStand
  rw [nI_clamp (by omega), if_neg h, if_pos rfl]; decide
theorem follow_ed {P Q : Nat} (hP : P < 32) (hQ : Q < 32) (h : ¬ med P = 0 ∨ ¬ med Q = 0) (j k : Int32) : ¬ fX4_mayFollow med (nI P) j (nI Q) k st = 0 := by
  have K : ∀ f, ¬ fX4_mayFollow_L19 med (nI P) j (nI Q) k st 1 f = 0 := fun f => by
    rw [fX4_mayFollow_L19, nI_clamp (by omega), nI_clamp (by omega)]
    by_cases a : med P = 0
    · rw [if_pos a, if_neg (h.resolve_left (fun z => z a))]; decide
    · rw [if_neg a]; decide
  unfold fX4_mayFollow
  split
  · exact K _
  · exact K _
theorem follow_same {P Q : Nat} (hP : P < 32) (hQ : Q < 32) (hs : ¬ st < 0) (k : Int32) : ¬ fX4_mayFollow med (nI P) k (nI Q) k st = 0 := by
  unfold fX4_mayFollow
  rw [if_pos (Int32.le_refl k), fX4_mayFollow_L19, nI_clamp (by omega), nI_clamp (by omega), Int32.sub_self]
  by_cases a : med P = 0
  · by_cases b : med Q = 0
    · rw [if_pos a, if_pos b, if_neg hs]; decide
    · rw [if_pos a, if_neg b]; decide
  · rw [if_neg a]; decide
theorem okS_all (hM : okM mn mm msp msb mno mv) {F cn : Nat} (hF : F < 4) (hmc : mch = nI F) (hcn : cn ≤ 32) (hst : ¬ st < 0) (hww : ∀ a, a < cn → ∃ P : Nat, P < 32 ∧ ww a = nI P) (h : okS mn mm msp msb mno mv md mt ml med mch st ww uu cn 0) : ∀ a, a < cn → (∀ c, c < mn → -1 ≤ (uu (64 * a + c)).toInt ∧ (uu (64 * a + c)).toInt ≤ ((a : Int) + 1) * 2 ^ 32) ∧ ∃ c, c < mn ∧ 0 ≤ (uu (64 * a + c)).toInt := by
  have hn := hM.2.1
  have m1 : (-1 : Int64).toInt = -1 := rfl
  have z0 : (0 : Int64).toInt = 0 := rfl
  intro a; induction a with
  | zero =>
    intro ha
    obtain ⟨P, hP, hw⟩ := hww 0 ha
    refine ⟨fun c hc => ?_, ?_⟩
    · rw [h 0 c hc (Or.inl ha)]
      unfold svM
      obtain ⟨s1, s2⟩ := str_bd mt ml hM hF hP (K := c) (by omega)
      rw [bb_0, hw, hmc]
      split
      · rw [m1]; omega
      · split
        · rw [i64_add (by rw [z0]; omega) (by rw [z0]; omega) s1 (by omega), z0]; omega
        · rw [m1]; omega
    · have K : ∀ c, c < mn → ¬ fX4_mayStand mn mm med md (nI P) (nI c) = 0 → 0 ≤ (uu (64 * 0 + c)).toInt := fun c hc hs => by
        rw [h 0 c hc (Or.inl ha)]
        unfold svM
        obtain ⟨s1, s2⟩ := str_bd mt ml hM hF hP (K := c) (by omega)
        rw [bb_0, hw, hmc, if_neg hs, if_pos (lgc_ge.mpr (Int.le_refl _)), i64_add (by rw [z0]; omega) (by rw [z0]; omega) s1 (by omega), z0]; omega
      by_cases e : med P = 0
      · exact ⟨0, by have := hM.1; omega, K 0 (by have := hM.1; omega) (stand_all hP e _)⟩
      · obtain ⟨q, q1, q2⟩ := countM mm md (nI P) hM.1 hM.2.1
        exact ⟨q, q1, K q q1 (by rw [← q2]; exact stand_one hP e)⟩
  | succ a ih =>
    intro ha
    obtain ⟨b1, c0, d1, d2⟩ := ih (by omega)
    obtain ⟨P, hP, hw⟩ := hww (a + 1) ha
    obtain ⟨Q, hQ, hwq⟩ := hww a (by omega)
    have B := fun (k : Int32) => bbM_all (med := med) (uu := uu) (vv := uu) (ww := ww) (k := k) (st := st) hn (a := a + 1) (by omega) (by omega)
    have bu : ∀ k, (fX4_bestBefore mn med uu ww (nI (a + 1)) k st).toInt ≤ ((a : Int) + 1) * 2 ^ 32 := fun k => by
      rcases (B k).2.1 with e | ⟨i, i1, i2, _⟩
      · rw [e, m1]; omega
      · rw [← i2]; exact (b1 i i1).2
    refine ⟨fun c hc => ?_, ?_⟩
    · rw [h (a + 1) c hc (Or.inl ha)]
      unfold svM
      obtain ⟨s1, s2⟩ := str_bd mt ml hM hF hP (K := c) (by omega)
      rw [hw, hmc]
      split
      · rw [m1]; omega
      · split
        · rename_i g
          have g1 := lgc_ge.mp g
          rw [z0] at g1
          have g2 := bu (nI c)
          rw [i64_add g1 (by omega) s1 (by omega)]; omega
        · rw [m1]; omega
    · have K : ∀ c, c < mn → ¬ fX4_mayStand mn mm med md (nI P) (nI c) = 0 → ¬ fX4_mayFollow med (ww a) (nI c0) (ww (a + 1)) (nI c) st = 0 → 0 ≤ (uu (64 * (a + 1) + c)).toInt := fun c hc hs hf => by
        rw [h (a + 1) c hc (Or.inl ha)]
        unfold svM
        obtain ⟨s1, s2⟩ := str_bd mt ml hM hF hP (K := c) (by omega)
        have g1 : 0 ≤ (fX4_bestBefore mn med uu ww (nI (a + 1)) (nI c) st).toInt := Int.le_trans d2 ((B (nI c)).2.2.1 c0 d1 hf)
        have g2 := bu (nI c)
        rw [hw, hmc, if_neg hs, if_pos (lgc_ge.mpr (by rw [z0]; exact g1)), i64_add g1 (by omega) s1 (by omega)]; omega
      by_cases e : med P = 0
      · exact ⟨c0, d1, K c0 d1 (stand_all hP e _) (by rw [hw, hwq]; exact follow_same hQ hP hst _)⟩
      · obtain ⟨q, q1, q2⟩ := countM mm md (nI P) hM.1 hM.2.1
        exact ⟨q, q1, K q q1 (by rw [← q2]; exact stand_one hP e) (by rw [hw, hwq]; exact follow_ed hQ hP (Or.inr e) _ _)⟩
/-- what the search of row t - 1 looks for is there -/
def okF (mn : Nat) (med : Nat → Int32) (st : Int32) (ww : Nat → Int32) (uu : Nat → Int64) (t : Nat) (wt : Int64) (bh : Int32) : Prop :=
  t = 0 ∨ (0 ≤ wt.toInt ∧ ∃ c, c < mn ∧ uu (64 * (t - 1) + c) = wt ∧ (bh = -1 ∨ ¬ fX4_mayFollow med (ww (t - 1)) (nI c) (ww t) bh st = 0))
theorem okF_step (hM : okM mn mm msp msb mno mv) {cn t b : Nat} {wt : Int64} (hcn : cn ≤ 32) (h : okS mn mm msp msb mno mv md mt ml med mch st ww uu cn 0) (ht : t < cn) (hb : b < mn) (hw : uu (64 * t + b) = wt) (h0 : 0 ≤ wt.toInt) : okF mn med st ww uu t (wt - fX4_strength mm msp msb mno mv mt ml mch (ww t) (nI b)) (nI b) := by
  rcases Nat.eq_zero_or_pos t with z | z
  · exact Or.inl z
  · refine Or.inr ?_
    have e := h t b hb (Or.inl ht)
    rw [hw] at e
    have m1 : (-1 : Int64).toInt = -1 := rfl
    have z0 : (0 : Int64).toInt = 0 := rfl
    unfold svM at e
    by_cases c1 : fX4_mayStand mn mm med md (ww t) (nI b) = 0
    · rw [if_pos c1] at e; rw [e, m1] at h0; omega
    rw [if_neg c1] at e
    by_cases c2 : 0 ≤ lg_cmp (fX4_bestBefore mn med uu ww (nI t) (nI b) st) 0
    · rw [if_pos c2] at e
      have g := lgc_ge.mp c2
      rw [z0] at g
      have e2 : wt - fX4_strength mm msp msb mno mv mt ml mch (ww t) (nI b) = fX4_bestBefore mn med uu ww (nI t) (nI b) st := by rw [e, Int64.add_sub_cancel]
      rw [e2]
      refine ⟨g, ?_⟩
      rcases (bbM_all (med := med) (uu := uu) (vv := uu) (ww := ww) (k := nI b) (st := st) hM.2.1 z (by omega)).2.1 with q | ⟨i, i1, i2, i3⟩
      · rw [q, m1] at g; omega
      · exact ⟨i, i1, i2, Or.inr i3⟩
    · rw [if_neg c2] at e; rw [e, m1] at h0; omega
end RN
