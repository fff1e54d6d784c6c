/-! ===== PURE: the class's walk through all pings ===== -/
section QG
variable {sn F cn S N : Nat} {me sp sb no : UInt64} {vf mv df md : Nat → UInt64} {lf mt med ww kf0 rf : Nat → Int32} {mu uf : Nat → Int64} {wn : Nat → Nat} {st fw fo : Int32}
/-- what is marked as walked of the pings below j is the list -/
def okK (cn j : Nat) (wn : Nat → Nat) (kf : Nat → Int32) : Prop := ∀ P, P < j → (kf P = 1 ∧ ∃ a, a < cn ∧ wn a = P) ∨ (kf P = 0 ∧ ∀ a, a < cn → wn a ≠ P)
theorem okK_1 {j : Nat} {kf : Nat → Int32} (h : okK cn j wn kf) {a : Nat} (ha : a < cn) (hj : wn a < j) : kf (wn a) = 1 := by
  rcases h (wn a) hj with ⟨q, _⟩ | ⟨_, q⟩
  · exact q
  · exact absurd rfl (q a ha)
theorem okK_step {j : Nat} {kf : Nat → Int32} (h : okK cn j wn kf) {v : Int32} (hv : (v = 1 ∧ ∃ a, a < cn ∧ wn a = j) ∨ (v = 0 ∧ ∀ a, a < cn → wn a ≠ j)) : okK cn (j + 1) wn (upd kf j v) := by
  intro P hP
  by_cases e : P = j
  · subst e; rw [pk_us]; exact hv
  · rw [pk_un e]; exact h P (by omega)
/-- the walk's ping before, by the marks -/
theorem nb_list (hmono : ∀ a b, a < b → b < cn → wn a < wn b) {kf : Nat → Int32} {a : Nat} (ha : a < cn) (hP : wn a < 32) (h : okK cn (wn a) wn kf) : (a = 0 ∧ fX2_neighbour kf (nI (wn a)) (-1) = -1) ∨ (1 ≤ a ∧ fX2_neighbour kf (nI (wn a)) (-1) = nI (wn (a - 1))) := by
  have lt : ∀ b, b < cn → wn b < wn a → b < a := fun b hb hl => by
    rcases Nat.lt_trichotomy b a with q | q | q
    · exact q
    · subst q; omega
    · have := hmono a b q hb; omega
  rcases Nat.eq_zero_or_pos a with z | z
  · refine Or.inl ⟨z, nb_none hP (fun Q hQ => ?_)⟩
    rcases h Q hQ with ⟨_, b, b1, b2⟩ | ⟨q, _⟩
    · subst b2
      have := lt b b1 hQ; omega
    · exact q
  · have hlt := hmono (a - 1) a (by omega) ha
    refine Or.inr ⟨z, nb_some hP hlt (by rw [okK_1 h (a := a - 1) (by omega) hlt]; decide) (fun Q q1 q2 => ?_)⟩
    rcases h Q q2 with ⟨_, b, b1, b2⟩ | ⟨q, _⟩
    · subst b2
      have c1 := lt b b1 q2
      rcases Nat.lt_or_ge b (a - 1) with y | y
      · have := hmono b (a - 1) y (by omega); omega
      · have : b = a - 1 := by omega
        subst this; omega
    · exact q
theorem goLoop (hM : okM sn me sp sb no mv) (hV : rV sn vf mv mt) (hE : rE df md med) (hF : F < 4) (hcn : cn ≤ 32) (hS : S ≤ 64) (hN : N ≤ 32) (hI : wI sn mt lf med F N cn wn) (hw : ∀ a, a < cn → ww a = nI (wn a)) (h : okS sn me sp sb no mv md mt lf med (nI F) (nI S) ww mu cn 0) : ∀ (k j : Nat) (kf : Nat → Int32) (uu : Nat → Int64), j + k = 33 → j ≤ 32 → okK cn j wn kf → okC sn cn j me med md wn mu uu → ∃ (k2 : Nat → Int32) (u2 : Nat → Int64), okK cn 32 wn k2 ∧ okC sn cn 32 me med md wn mu u2 ∧ fX2_go_L29 df kf0 rf uf st fw fo sn me vf lf sp sb no (nI F) (nI N) (nI S) k (nI j) kf uu = (((fX2_traceBack df k2 rf u2 (nI S) sn me).1).toInt32, k2, (fX2_traceBack df k2 rf u2 (nI S) sn me).2, u2, nI S, nI F, (1 : Int32)) := by
  obtain ⟨i0, i1, i2, i3⟩ := hI
  have hww : ∀ a, a < cn → ww a = nI (wn a) ∧ wn a < 32 := fun a ha => ⟨hw a ha, by have := (i1 a ha).1; omega⟩
  intro k; induction k with
  | zero => intro j kf uu h1 h2; omega
  | succ k ih =>
    intro j kf uu h1 h2 hK hC
    rw [fX2_go_L29]
    by_cases c : (32 : Int32) ≤ nI j
    · have e : j = 32 := by
        have := (nI_leI (a := 32) (by decide) (by omega)).mp c
        omega
      subst e
      rw [if_pos c]
      exact ⟨kf, uu, hK, hC, rfl⟩
    · have hj : j < 32 := Nat.lt_of_not_le (fun z => c (nI_le (a := 32) z (by omega)))
      rw [if_neg c, nI_clamp (by omega), pk_us, pk_us, nar0, nar1, if_pos rfl, if_neg (show ¬ (1 : Int32) = 0 by decide), nI_1]
      have skip : (∀ a, a < cn → wn a ≠ j) → ∃ (k2 : Nat → Int32) (u2 : Nat → Int64), okK cn 32 wn k2 ∧ okC sn cn 32 me med md wn mu u2 ∧ fX2_go_L29 df kf0 rf uf st fw fo sn me vf lf sp sb no (nI F) (nI N) (nI S) k (nI (j + 1)) (upd kf j 0) uu = (((fX2_traceBack df k2 rf u2 (nI S) sn me).1).toInt32, k2, (fX2_traceBack df k2 rf u2 (nI S) sn me).2, u2, nI S, nI F, (1 : Int32)) := fun hno =>
        ih (j + 1) (upd kf j 0) uu (by omega) (by omega) (okK_step hK (Or.inr ⟨rfl, hno⟩)) (fun a ha hl x hx hs2 => hC a ha (by have := hno a ha; omega) x hx hs2)
      by_cases c2 : nI N ≤ nI j
      · rw [if_pos c2]
        have := (nI_leI (by omega) (by omega)).mp c2
        exact skip (fun a ha z => by have := (i1 a ha).1; omega)
      · have hjN : j < N := Nat.lt_of_not_le (fun z => c2 (nI_le z (by omega)))
        rw [if_neg c2]
        by_cases c3 : fX2_isForWalk df sn vf lf (nI F) (nI j) = 0
        · rw [if_pos c3]
          exact skip (fun a ha z => by
            have q := (i1 a ha).2
            rw [z] at q
            exact (forWalk_iff hM.2.1 hV hE hF hj).mpr q c3)
        · rw [if_neg c3]
          obtain ⟨a, ha, e⟩ := i3 j hjN ((forWalk_iff hM.2.1 hV hE hF hj).mp c3)
          subst e
          have hK2 : okK cn (wn a + 1) wn (upd kf (wn a) 1) := okK_step hK (Or.inl ⟨rfl, a, ha, rfl⟩)
          have nb := nb_list i2 ha hj (kf := upd kf (wn a) 1) (fun P hP => hK2 P (by omega))
          exact ih (wn a + 1) _ _ (by omega) (by omega) hK2 (sumRow hM hV hE hF hcn hS hww i2 h ha nb hC)
end QG
