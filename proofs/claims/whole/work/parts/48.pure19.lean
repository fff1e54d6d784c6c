/-! ===== PURE: the reference's sums where a ping stands ===== -/
abbrev std (sn : Nat) (me : UInt64) (med : Nat → Int32) (md : Nat → UInt64) (P x : Nat) : Prop := ¬ fX4_mayStand sn me med md (nI P) (nI x) = 0
abbrev fol (med : Nat → Int32) (P x Q y S : Nat) : Prop := ¬ fX4_mayFollow med (nI P) (nI x) (nI Q) (nI y) (nI S) = 0
section QS
variable {sn F cn S : Nat} {me sp sb no : UInt64} {mv df md : Nat → UInt64} {mt ml med ww : Nat → Int32} {mu uf : Nat → Int64} {wn : Nat → Nat}
theorem win_ne (h1 : 1 ≤ sn) (hs : sn ≤ 64) (hE : rE df md med) {P Q K : Nat} (hP : P < 32) (hQ : Q < 32) (hK : K < sn) (hS : S ≤ 64) : ∃ m, m < sn ∧ std sn me med md P m ∧ fol med P m Q K S := by
  obtain ⟨a, b, m, e, hab, hb, hm, hw⟩ := best_row (me := me) (uf := fun _ => (0 : Int64)) h1 hs hE hP hQ hK hS
  obtain ⟨w1, w2⟩ := (hw a (by omega)).mp ⟨Nat.le_refl _, hab⟩
  exact ⟨a, by omega, w1, w2⟩
theorem bb_0' (k st : Int32) : fX4_bestBefore sn med mu ww (nI 0) k st = 0 := bb_0 k
/-- a sum at a row where the ping may stand is no less than 0 -/
theorem standPos (hM : okM sn me sp sb no mv) (hE : rE df md med) (hF : F < 4) (hcn : cn ≤ 32) (hS : S ≤ 64) (hww : ∀ a, a < cn → ww a = nI (wn a) ∧ wn a < 32) (h : okS sn me sp sb no mv md mt ml med (nI F) (nI S) ww mu cn 0) : ∀ a, a < cn → ∀ x, x < sn → std sn me med md (wn a) x → 0 ≤ (mu (64 * a + x)).toInt := by
  have z0 : (0 : Int64).toInt = 0 := rfl
  have hn := hM.2.1
  have all := okS_all hM hF rfl hcn (show ¬ nI S < 0 from nI_pos (by omega)) (fun a ha => ⟨wn a, (hww a ha).2, (hww a ha).1⟩) h
  intro a; induction a with
  | zero =>
    intro ha x hx hst
    obtain ⟨hw, hP⟩ := hww 0 ha
    obtain ⟨s1, s2⟩ := str_bd mt ml hM hF hP (K := x) (by omega)
    rw [h 0 x hx (Or.inl ha)]
    unfold svM
    rw [bb_0, hw, if_neg hst, if_pos (lgc_ge.mpr (Int.le_refl _)), i64_add (by rw [z0]; omega) (by rw [z0]; omega) s1 (by omega), z0]; omega
  | succ a ih =>
    intro ha x hx hst
    obtain ⟨hw, hP⟩ := hww (a + 1) ha
    obtain ⟨hwq, hQ⟩ := hww a (by omega)
    obtain ⟨s1, s2⟩ := str_bd mt ml hM hF hP (K := x) (by omega)
    obtain ⟨m, m1, m2, m3⟩ := win_ne (me := me) hM.1 hn hE hQ hP hx hS
    have B := bbM_all (med := med) (uu := mu) (vv := mu) (ww := ww) (k := nI x) (st := nI S) hn (a := a + 1) (by omega) (by omega)
    have g0 := ih (by omega) m m1 m2
    have g1 : 0 ≤ (fX4_bestBefore sn med mu ww (nI (a + 1)) (nI x) (nI S)).toInt := Int.le_trans g0 (B.2.2.1 m m1 (by rw [hw, show a + 1 - 1 = a from rfl, hwq]; exact m3))
    have g2 : (fX4_bestBefore sn med mu ww (nI (a + 1)) (nI x) (nI S)).toInt ≤ 2 ^ 40 := by
      rcases B.2.1 with e | ⟨i, i1, i2, _⟩
      · rw [e]; decide
      · rw [← i2]
        have := ((all a (by omega)).1 i i1).2
        rw [show a + 1 - 1 = a from rfl]
        omega
    rw [h (a + 1) x hx (Or.inl ha)]
    unfold svM
    rw [hw, if_neg hst, if_pos (lgc_ge.mpr (by rw [z0]; exact g1)), i64_add g1 g2 s1 (by omega)]; omega
theorem standNo (h : okS sn me sp sb no mv md mt ml med (nI F) (nI S) ww mu cn 0) {a x : Nat} (ha : a < cn) (hw : ww a = nI (wn a)) (hx : x < sn) (hst : ¬ std sn me med md (wn a) x) : (mu (64 * a + x)).toInt = -1 := by
  rw [h a x hx (Or.inl ha)]
  unfold svM
  rw [hw, if_pos (Classical.not_not.mp hst)]; decide
/-- the sums of the first ping -/
theorem val0 (h : okS sn me sp sb no mv md mt ml med (nI F) (nI S) ww mu cn 0) {x : Nat} (ha : 0 < cn) (hw : ww 0 = nI (wn 0)) (hx : x < sn) (hst : std sn me med md (wn 0) x) : mu (64 * 0 + x) = fX4_strength me sp sb no mv mt ml (nI F) (nI (wn 0)) (nI x) := by
  rw [h 0 x hx (Or.inl ha)]
  unfold svM
  rw [bb_0, hw, if_neg hst, if_pos (lgc_ge.mpr (Int.le_refl _)), Int64.zero_add]
/-- the sums of a later one: a greatest one of the window before, and the strength -/
theorem valS (hM : okM sn me sp sb no mv) (hE : rE df md med) (hF : F < 4) (hcn : cn ≤ 32) (hS : S ≤ 64) (hww : ∀ a, a < cn → ww a = nI (wn a) ∧ wn a < 32) (h : okS sn me sp sb no mv md mt ml med (nI F) (nI S) ww mu cn 0) {a x m : Nat} (ha : a + 1 < cn) (hx : x < sn) (hst : std sn me med md (wn (a + 1)) x) (hm : m < sn) (m1 : std sn me med md (wn a) m) (m2 : fol med (wn a) m (wn (a + 1)) x S) (hg : ∀ y, y < sn → std sn me med md (wn a) y → fol med (wn a) y (wn (a + 1)) x S → (mu (64 * a + y)).toInt ≤ (mu (64 * a + m)).toInt) : fX4_bestBefore sn med mu ww (nI (a + 1)) (nI x) (nI S) = mu (64 * a + m) ∧ mu (64 * (a + 1) + x) = mu (64 * a + m) + fX4_strength me sp sb no mv mt ml (nI F) (nI (wn (a + 1))) (nI x) := by
  have pos := standPos hM hE hF hcn hS hww h
  have p0 := pos a (by omega) m hm m1
  obtain ⟨hw, hP⟩ := hww (a + 1) ha
  obtain ⟨hwq, hQ⟩ := hww a (by omega)
  have e : fX4_bestBefore sn med mu ww (nI (a + 1)) (nI x) (nI S) = mu (64 * (a + 1 - 1) + m) := refBest hM.2.1 (by omega) (by omega) hwq hw hm p0 m2 (fun y hy hf => by
    by_cases q : std sn me med md (wn a) y
    · exact hg y hy q hf
    · have := standNo h (by omega) hwq hy q
      rw [show a + 1 - 1 = a from rfl]
      omega)
  rw [show a + 1 - 1 = a from rfl] at e
  refine ⟨e, ?_⟩
  rw [h (a + 1) x hx (Or.inl ha)]
  unfold svM
  rw [hw, if_neg hst, e, if_pos (lgc_ge.mpr (show (0 : Int64).toInt ≤ _ from p0))]
end QS
