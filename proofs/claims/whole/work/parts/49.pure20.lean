/-! ===== PURE: the class's sums are the reference's ===== -/
section QC
variable {sn F cn S N : Nat} {me sp sb no : UInt64} {vf mv df md : Nat → UInt64} {lf mt med ww kf rf : Nat → Int32} {mu uf : Nat → Int64} {wn : Nat → Nat} {st fw fo : Int32}
theorem wk_nI {P : Nat} (hP : P < 32) : fX2_isWalked kf (nI P) = 0 ↔ kf P = 0 := by
  unfold fX2_isWalked
  rw [if_neg (pingOk hP), nI_clamp (by omega)]
  by_cases c : kf P = 0
  · rw [if_pos c]; exact ⟨fun _ => c, fun _ => rfl⟩
  · rw [if_neg c]; exact ⟨fun z => absurd z (by decide), fun z => absurd z c⟩
/-- the walk's ping before a ping -/
theorem nb_none {P : Nat} (hP : P < 32) (h : ∀ Q, Q < P → kf Q = 0) : fX2_neighbour kf (nI P) (-1) = -1 := by
  have K : ∀ (k j : Nat), j + k = 33 → 1 ≤ j → j ≤ 32 → fX2_neighbour_L2 kf (nI P) (-1) k (nI j) = -1 := by
    intro k; induction k with
    | zero => intro j a b c; omega
    | succ k ih =>
      intro j a b c
      rw [fX2_neighbour_L2]
      by_cases d : (32 : Int32) ≤ nI j
      · rw [if_pos d]
      · have hj := Nat.lt_of_not_le (fun z => d (nI_le (a := 32) z (by omega)))
        rw [if_neg d, mul_m1]
        have w : fX2_isWalked kf (nI P - nI j) = 0 := by
          rcases Nat.lt_or_ge P j with q | q
          · exact wk_out (ping_lo (pk_sneg (by omega) q))
          · rw [pk_sub q, wk_nI (by omega)]; exact h _ (by omega)
        rw [if_pos w, nI_1]
        exact ih (j + 1) (by omega) (by omega) (by omega)
  unfold fX2_neighbour
  rw [← nI_one]
  exact K 32 1 rfl (Nat.le_refl _) (by omega)
theorem nb_some {P B : Nat} (hP : P < 32) (hB : B < P) (hw : ¬ kf B = 0) (h : ∀ Q, B < Q → Q < P → kf Q = 0) : fX2_neighbour kf (nI P) (-1) = nI B := by
  have K : ∀ (k j : Nat), j + k = 33 → 1 ≤ j → j + B ≤ P → fX2_neighbour_L2 kf (nI P) (-1) k (nI j) = nI B := by
    intro k; induction k with
    | zero => intro j a b c; omega
    | succ k ih =>
      intro j a b c
      rw [fX2_neighbour_L2, if_neg (show ¬ (32 : Int32) ≤ nI j from nI_ge (b := 32) (by omega) (by decide)), mul_m1, pk_sub (by omega)]
      by_cases e : j + B = P
      · have e2 : P - j = B := by omega
        rw [e2, if_neg (fun z => hw ((wk_nI (by omega)).mp z))]
      · rw [if_pos ((wk_nI (by omega)).mpr (h _ (by omega) (by omega))), nI_1]
        exact ih (j + 1) (by omega) (by omega) (by omega)
  unfold fX2_neighbour
  rw [← nI_one]
  exact K 32 1 rfl (Nat.le_refl _) (by omega)
theorem cellS {P x : Nat} (hs : sn ≤ 64) (hP : P < 32) (hx : x < sn) : ((nI P * nI sn) + nI x).toNatClampNeg = P * sn + x := by
  have hlt : P * sn + x < 2048 := by
    have : P * sn ≤ 31 * sn := Nat.mul_le_mul_right _ (by omega)
    omega
  rw [pk_mul, nI_add, nI_clamp (by omega)]
/-- what the class has laid down of the walk's pings below j is what the reference has -/
def okC (sn cn j : Nat) (me : UInt64) (med : Nat → Int32) (md : Nat → UInt64) (wn : Nat → Nat) (mu uf : Nat → Int64) : Prop :=
  ∀ a, a < cn → wn a < j → ∀ x, x < sn → std sn me med md (wn a) x → uf (wn a * sn + x) = mu (64 * a + x)
/-- the class's row of the ping before, and the reference's sums there -/
theorem prevVal (hM : okM sn me sp sb no mv) (hE : rE df md med) (hF : F < 4) (hcn : cn ≤ 32) (hS : S ≤ 64) (hww : ∀ a, a < cn → ww a = nI (wn a) ∧ wn a < 32) (h : okS sn me sp sb no mv md mt lf med (nI F) (nI S) ww mu cn 0) {a x : Nat} (ha : a + 1 < cn) (hx : x < sn) (hst : std sn me med md (wn (a + 1)) x) {uf : Nat → Int64} (hu : ∀ y, y < sn → std sn me med md (wn a) y → uf (wn a * sn + y) = mu (64 * a + y)) : ∃ m, fX2_bestBefore df uf (nI S) sn me (nI (wn a)) (nI (wn (a + 1))) (nI x) = nI m ∧ m < sn ∧ std sn me med md (wn a) m ∧ fol med (wn a) m (wn (a + 1)) x S ∧ fX4_bestBefore sn med mu ww (nI (a + 1)) (nI x) (nI S) = mu (64 * a + m) ∧ mu (64 * (a + 1) + x) = mu (64 * a + m) + fX4_strength me sp sb no mv mt lf (nI F) (nI (wn (a + 1))) (nI x) ∧ (∀ y, y < m → std sn me med md (wn a) y → fol med (wn a) y (wn (a + 1)) x S → (mu (64 * a + y)).toInt < (mu (64 * a + m)).toInt) := by
  obtain ⟨hw, hP⟩ := hww (a + 1) ha
  obtain ⟨hwq, hQ⟩ := hww a (by omega)
  obtain ⟨a', b', m, em, hab, hb', hm, hwi⟩ := best_row (me := me) (uf := uf) hM.1 hM.2.1 hE hQ hP hx hS
  have hm1 := hm.1
  have hm2 := hm.2.1
  obtain ⟨w1, w2⟩ := (hwi m (by omega)).mp ⟨hm1, hm2⟩
  obtain ⟨V1, V2⟩ := valS (x := x) (m := m) (a := a) hM hE hF hcn hS hww h ha hx hst (by omega) w1 w2 (fun y hy y1 y2 => by
    have z := (hwi y hy).mpr ⟨y1, y2⟩
    have := hm.2.2.1 y z.1 z.2
    rw [← hu y hy y1, ← hu m (by omega) w1]
    exact this)
  refine ⟨m, em, by omega, w1, w2, V1, V2, fun y hy y1 y2 => ?_⟩
  have z := (hwi y (by omega)).mpr ⟨y1, y2⟩
  have := hm.2.2.2 y z.1 hy
  rw [← hu y (by omega) y1, ← hu m (by omega) w1]
  exact this
/-- one row of sums -/
theorem sumRow (hM : okM sn me sp sb no mv) (hV : rV sn vf mv mt) (hE : rE df md med) (hF : F < 4) (hcn : cn ≤ 32) (hS : S ≤ 64) (hww : ∀ a, a < cn → ww a = nI (wn a) ∧ wn a < 32) (hmono : ∀ a b, a < b → b < cn → wn a < wn b) (h : okS sn me sp sb no mv md mt lf med (nI F) (nI S) ww mu cn 0) {a : Nat} (ha : a < cn) {bf : Int32} (hbf : (a = 0 ∧ bf = -1) ∨ (1 ≤ a ∧ bf = nI (wn (a - 1)))) {uf : Nat → Int64} (hu : okC sn cn (wn a) me med md wn mu uf) : okC sn cn (wn a + 1) me med md wn mu (fX2_sumUp df uf (nI S) (nI F) sn me vf lf sp sb no (nI (wn a)) bf) := by
  have h1 := hM.1
  have hs := hM.2.1
  obtain ⟨hw, hP⟩ := hww a ha
  obtain ⟨lo, hi, hlh, hhi, el, eh⟩ := rows_R (sn := sn) (me := me) (md := md) (med := med) h1 hs (wn a)
  have sti : ∀ x, x < sn → (std sn me med md (wn a) x ↔ (lo ≤ x ∧ x ≤ hi)) := fun x hx => stand_iff h1 hs hP hx el eh hlh hhi
  have inj : ∀ b, b < cn → wn b < wn a + 1 → b ≠ a → wn b < wn a := fun b hb hl hn => by
    rcases Nat.lt_or_ge b a with q | q
    · exact hmono b a q ha
    · have := hmono a b (by omega) hb; omega
  have K : ∀ (k j : Nat) (uu : Nat → Int64), 65 ≤ j + k → lo ≤ j → j ≤ hi + 1 → okC sn cn (wn a) me med md wn mu uu → (∀ x, lo ≤ x → x < j → uu (wn a * sn + x) = mu (64 * a + x)) → okC sn cn (wn a + 1) me med md wn mu (fX2_sumUp_L13 df uf (nI S) (nI F) sn me vf lf sp sb no (nI (wn a)) bf k (nI j) uu) := by
    intro k; induction k with
    | zero => intro j uu a1 a2 a3; omega
    | succ k ih =>
      intro j uu a1 a2 a3 hC hr
      rw [fX2_sumUp_L13, highest_eq h1 hE hP, eh]
      by_cases c : nI hi < nI j
      · have c2 : hi < j := Nat.lt_of_not_le (fun z => (nI_nlt (a := hi) (b := j) z (by omega)) c)
        rw [if_pos c]
        intro b hb hl x hx hst
        by_cases e : b = a
        · subst e
          obtain ⟨s1, s2⟩ := (sti x hx).mp hst
          exact hr x s1 (by omega)
        · exact hC b hb (inj b hb hl e) x hx hst
      · have c2 : j ≤ hi := Nat.le_of_not_lt (fun z => c (nI_lt z (by omega)))
        have hj : j < sn := by omega
        have isS : ¬ fX0_isSample sn (nI j) = 0 := by
          unfold fX0_isSample
          rw [if_neg (show ¬ nI j < 0 from nI_pos (by omega)), if_neg (show ¬ nI sn ≤ nI j from nI_ge hj (by omega))]; decide
        have hst : std sn me med md (wn a) j := (sti j hj).mpr ⟨a2, c2⟩
        rw [if_neg c, if_neg isS, cellS hs hP hj, strEq hs hV hF hP hj, nI_1]
        have go : ∀ v, v = mu (64 * a + j) → okC sn cn (wn a + 1) me med md wn mu (fX2_sumUp_L13 df uf (nI S) (nI F) sn me vf lf sp sb no (nI (wn a)) bf k (nI (j + 1)) (vp_updL uu (wn a * sn + j) v)) := fun v hv =>
          ih (j + 1) _ (by omega) (by omega) (by omega) (fun b hb hl x hx hs2 => by
            rw [pk_uLn (fun z => by have := (cell_inj hx hj z).1; omega)]
            exact hC b hb hl x hx hs2) (fun x q1 q2 => by
            by_cases e : x = j
            · subst e; rw [pk_uLs, hv]
            · rw [pk_uLn (by omega)]; exact hr x q1 (by omega))
        rcases hbf with ⟨e0, eb⟩ | ⟨e0, eb⟩
        · rw [if_pos eb]
          exact go _ (by subst e0; exact (val0 h ha hw hj hst).symm)
        · obtain ⟨hwq, hQ⟩ := hww (a - 1) (by omega)
          have hlt : wn (a - 1) < wn a := hmono _ _ (by omega) ha
          rw [if_neg (show ¬ bf = -1 by rw [eb]; exact nI_nm1 (by omega)), eb]
          obtain ⟨b, rfl⟩ : ∃ b, a = b + 1 := ⟨a - 1, by omega⟩
          rw [show b + 1 - 1 = b from rfl] at hlt hQ ⊢
          obtain ⟨m, em, m1, m2, m3, V1, V2, V3⟩ := prevVal (x := j) (uf := uu) hM hE hF hcn hS hww h ha hj hst (fun y hy hs2 => hC b (by omega) hlt y hy hs2)
          rw [em, sumAt_row hs hQ m1, hC b (by omega) hlt m m1 m2]
          have g9 := go (fX4_strength me sp sb no mv mt lf (nI F) (nI (wn (b + 1))) (nI j) + mu (64 * b + m)) (by rw [V2, Int64.add_comm])
          rw [eb] at g9
          exact g9
  unfold fX2_sumUp
  rw [lowest_eq hE hP, el]
  exact K 65 lo uf (by omega) (Nat.le_refl _) (by omega) hu (fun x q1 q2 => by omega)
end QC
