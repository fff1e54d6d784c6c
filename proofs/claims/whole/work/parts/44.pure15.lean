/-! ===== PURE: the last ping's row ===== -/
section PL
variable {sn : Nat} {me : UInt64} {df md : Nat → UInt64} {med : Nat → Int32} {uf : Nat → Int64} {st : Int32}
theorem best_last (h1 : 1 ≤ sn) (hs : sn ≤ 64) (hE : rE df md med) {P : Nat} {q3 : Int32} (hP : P < 32) : ∃ a b m, fX2_bestBefore df uf st sn me (nI P) (-1) q3 = nI m ∧ a ≤ b ∧ b < sn ∧ isMax (fun x => uf (P * sn + x)) a b m ∧ (∀ x, x < sn → ((a ≤ x ∧ x ≤ b) ↔ ¬ fX4_mayStand sn me med md (nI P) (nI x) = 0)) := by
  obtain ⟨a, b, hab, hb, hl, hh⟩ := rows_R (sn := sn) (me := me) (md := md) (med := med) h1 hs P
  obtain ⟨m, e, hm⟩ := best_win (df := df) (uf := uf) (st := st) (me := me) (q2 := -1) (q3 := q3) hs hP hab hb
  refine ⟨a, b, m, ?_, hab, hb, hm, fun x hx => (stand_iff h1 hs hP hx hl hh hab hb).symm⟩
  unfold fX2_bestBefore
  rw [if_pos rfl, lowest_eq hE hP, highest_eq h1 hE hP, hl, hh, e]
end PL
