/-! ===== PURE: which pings a walk goes by, where it may stand ===== -/
section PR
variable {sn : Nat} {me : UInt64} {vf mv df md : Nat → UInt64} {lf mt med : Nat → Int32}
/-- a ping that is for the walk -/
def wlk (sn : Nat) (mt ml med : Nat → Int32) (F P : Nat) : Prop := ¬ med P = 0 ∨ (ml P = 0 ∧ fX4_isEmpty sn mt (nI F) (nI P) = 0)
theorem forWalk_iff (hs : sn ≤ 64) (hV : rV sn vf mv mt) (hE : rE df md med) {F P : Nat} (hF : F < 4) (hP : P < 32) : ¬ fX2_isForWalk df sn vf lf (nI F) (nI P) = 0 ↔ wlk sn mt lf med F P := by
  unfold fX2_isForWalk wlk fX0_isLost
  obtain ⟨e1, e2⟩ := edM hE hP
  rw [e1, if_neg (pingOk hP), nI_clamp (by omega), silEq hs hV hF hP]
  by_cases a : med P = 0
  · rw [if_pos a]
    by_cases b : lf P = 0
    · rw [if_pos b, if_pos rfl]
      by_cases c : fX4_isEmpty sn mt (nI F) (nI P) = 0
      · rw [if_pos c]; exact ⟨fun _ => Or.inr ⟨b, c⟩, fun _ => by decide⟩
      · rw [if_neg c]; exact ⟨fun z => absurd rfl z, fun z => z.elim (fun q => absurd a q) (fun q => absurd q.2 c)⟩
    · rw [if_neg b, if_neg (by decide)]
      exact ⟨fun z => absurd rfl z, fun z => z.elim (fun q => absurd a q) (fun q => absurd q.1 b)⟩
  · rw [if_neg a]; exact ⟨fun _ => Or.inl a, fun _ => by decide⟩
theorem hasPing_L (hs : sn ≤ 64) (hV : rV sn vf mv mt) (hE : rE df md med) {F S : Nat} (hF : F < 4) (hS : S ≤ 32) : ∀ (k j : Nat), j + k = 33 → j ≤ S → (fX2_hasPing_L2 df sn vf lf (nI F) (nI S) k (nI j) = 0 ↔ ∀ P, j ≤ P → P < S → ¬ wlk sn mt lf med F P) := by
  intro k; induction k with
  | zero => intro j h1 h2; omega
  | succ k ih =>
    intro j h1 h2
    rw [fX2_hasPing_L2]
    by_cases c : nI S ≤ nI j
    · have c2 := (nI_leI (by omega) (by omega)).mp c
      rw [if_pos c]
      exact ⟨fun _ P a b => by omega, fun _ => rfl⟩
    · have c2 : j < S := Nat.lt_of_not_le (fun z => c (nI_le z (by omega)))
      rw [if_neg c]
      by_cases d : fX2_isForWalk df sn vf lf (nI F) (nI j) = 0
      · have d2 : ¬ wlk sn mt lf med F j := fun z => ((forWalk_iff hs hV hE hF (by omega)).mpr z) d
        rw [if_pos d, nI_1, ih (j + 1) (by omega) (by omega)]
        constructor
        · intro h P a b
          rcases Nat.lt_or_ge j P with q | q
          · exact h P q b
          · have : P = j := by omega
            subst this; exact d2
        · intro h P a b; exact h P (by omega) b
      · rw [if_neg d]
        exact ⟨fun z => absurd z (by decide), fun h => absurd ((forWalk_iff hs hV hE hF (by omega)).mp d) (h j (Nat.le_refl _) c2)⟩
theorem hasPing_iff (hs : sn ≤ 64) (hV : rV sn vf mv mt) (hE : rE df md med) {F S : Nat} (hF : F < 4) (hS : S ≤ 32) : fX2_hasPing df sn vf lf (nI F) (nI S) = 0 ↔ ∀ P, P < S → ¬ wlk sn mt lf med F P := by
  unfold fX2_hasPing
  have h0 := hasPing_L (lf := lf) hs hV hE hF hS 33 0 rfl (Nat.zero_le _)
  exact ⟨fun h P a => h0.mp h P (Nat.zero_le _) a, fun h => h0.mpr (fun P _ b => h P b)⟩
/-- the first and the last row where a ping may stand -/
def loR (sn : Nat) (me : UInt64) (md : Nat → UInt64) (med : Nat → Int32) (P : Nat) : Int32 := if med P = 0 then 0 else fX4_counting sn me md (nI P)
def hiR (sn : Nat) (me : UInt64) (md : Nat → UInt64) (med : Nat → Int32) (P : Nat) : Int32 := if med P = 0 then nI (sn - 1) else fX4_counting sn me md (nI P)
theorem lowest_eq (hE : rE df md med) {P : Nat} (hP : P < 32) : fX2_lowest df sn me (nI P) = loR sn me md med P := by
  unfold fX2_lowest loR
  obtain ⟨e1, e2⟩ := edM hE hP
  rw [e1, nI_clamp (by omega)]
  by_cases a : med P = 0
  · rw [if_pos a, if_pos a]
  · rw [if_neg a, if_neg a, cntEq hP (e2.resolve_left a).2]
theorem highest_eq (h1 : 1 ≤ sn) (hE : rE df md med) {P : Nat} (hP : P < 32) : fX2_highest df sn me (nI P) = hiR sn me md med P := by
  unfold fX2_highest hiR
  obtain ⟨e1, e2⟩ := edM hE hP
  rw [e1, nI_clamp (by omega)]
  by_cases a : med P = 0
  · rw [if_pos a, if_pos a, nI_sub1 h1]
  · rw [if_neg a, if_neg a, cntEq hP (e2.resolve_left a).2]
theorem rows_R (h1 : 1 ≤ sn) (hs : sn ≤ 64) (P : Nat) : ∃ a b : Nat, a ≤ b ∧ b < sn ∧ loR sn me md med P = nI a ∧ hiR sn me md med P = nI b := by
  unfold loR hiR
  by_cases z : med P = 0
  · rw [if_pos z, if_pos z]; exact ⟨0, sn - 1, by omega, by omega, rfl, rfl⟩
  · rw [if_neg z, if_neg z]
    obtain ⟨q, q1, q2⟩ := countM me md (nI P) h1 hs
    exact ⟨q, q, Nat.le_refl _, by omega, q2, q2⟩
end PR
