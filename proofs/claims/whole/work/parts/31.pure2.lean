/-! ===== PURE: tables ===== -/
def tabOk (B r : Nat) (rn : Int32) (sf nf : Nat → UInt64) : Prop := rn = nI r ∧ r ≤ 20 ∧ (∀ i, bd 1041 (sf i)) ∧ (∀ i, bd B (nf i)) ∧ (∀ i j, i < j → j < r → zv (sf i) < zv (sf j))
theorem cg_pos {a b : UInt64} (ha : bd 2047 a) (hb : bd 2047 b) : 0 < Op.cmpValue (FP.dcmp a b) CmpOp.g ↔ zv b < zv a := by
  rw [cmpv_z ha hb]
  by_cases h1 : zv a < zv b
  · rw [if_pos h1]; exact ⟨fun q => absurd q (by decide), fun q => by omega⟩
  · rw [if_neg h1]
    by_cases h2 : zv a = zv b
    · rw [if_pos h2]; exact ⟨fun q => absurd q (by decide), fun q => by omega⟩
    · rw [if_neg h2]; exact ⟨fun _ => by omega, fun _ => by decide⟩
theorem cg_ge {a b : UInt64} (ha : bd 2047 a) (hb : bd 2047 b) : 0 ≤ Op.cmpValue (FP.dcmp a b) CmpOp.g ↔ zv b ≤ zv a := by
  rw [cmpv_z ha hb]
  by_cases h1 : zv a < zv b
  · rw [if_pos h1]; exact ⟨fun q => absurd q (by decide), fun q => by omega⟩
  · rw [if_neg h1]
    by_cases h2 : zv a = zv b
    · rw [if_pos h2]; exact ⟨fun _ => by omega, fun _ => by decide⟩
    · rw [if_neg h2]; exact ⟨fun _ => by omega, fun _ => by decide⟩
theorem cl_eq {a b : UInt64} (ha : bd 2047 a) (hb : bd 2047 b) : Op.cmpValue (FP.dcmp a b) CmpOp.l = 0 ↔ zv a = zv b := by
  rw [cmpv_z ha hb]
  by_cases h1 : zv a < zv b
  · rw [if_pos h1]; exact ⟨fun q => absurd q (by decide), fun q => by omega⟩
  · rw [if_neg h1]
    by_cases h2 : zv a = zv b
    · rw [if_pos h2]; exact ⟨fun _ => h2, fun _ => rfl⟩
    · rw [if_neg h2]; exact ⟨fun q => absurd q (by decide), fun q => absurd q h2⟩
theorem bd47 {K : Nat} {a : UInt64} (h : bd K a) (hK : K ≤ 2047) : bd 2047 a := bd_up h hK
section TB
variable {rn : Int32} {sf nf : Nat → UInt64} {w v : UInt64} {r B : Nat}
theorem up_char (hrn : rn = nI r) (hr : r ≤ 20) (hb : ∀ i, bd 1041 (sf i)) (hw : bd 2047 w) : ∃ q, fX1_rowsUpTo rn sf w = nI q ∧ q ≤ r ∧ (∀ i, i < q → zv (sf i) ≤ zv w) ∧ (q < r → zv w < zv (sf q)) := by
  have K : ∀ (k j : Nat), j + k = 21 → j ≤ r → (∀ i, i < j → zv (sf i) ≤ zv w) → ∃ q, fX1_rowsUpTo_L2 rn sf w k (nI j) = nI q ∧ q ≤ r ∧ (∀ i, i < q → zv (sf i) ≤ zv w) ∧ (q < r → zv w < zv (sf q)) := by
    intro k; induction k with
    | zero => intro j a b; omega
    | succ k ih =>
      intro j a b h
      rw [fX1_rowsUpTo_L2]
      by_cases c : rn ≤ nI j
      · rw [if_pos c]
        rw [hrn] at c
        have := (nI_leI (by omega) (by omega)).mp c
        exact ⟨j, rfl, b, h, fun z => by omega⟩
      · rw [if_neg c]
        rw [hrn] at c
        have hj := Nat.lt_of_not_le (fun z => c (nI_le z (by omega)))
        rw [nI_clamp (by omega)]
        by_cases d : 0 < Op.cmpValue (FP.dcmp (sf j) w) CmpOp.g
        · rw [if_pos d]
          exact ⟨j, rfl, b, h, fun _ => (cg_pos (bd47 (hb j) (by decide)) hw).mp d⟩
        · rw [if_neg d, nI_1]
          have d2 : ¬ zv w < zv (sf j) := fun z => d ((cg_pos (bd47 (hb j) (by decide)) hw).mpr z)
          exact ih (j + 1) (by omega) (by omega) (fun i hi => by
            by_cases e : i = j
            · subst e; omega
            · exact h i (by omega))
  exact K 21 0 rfl (Nat.zero_le _) (fun i hi => by omega)
theorem up_is {q : Nat} (hrn : rn = nI r) (hr : r ≤ 20) (hb : ∀ i, bd 1041 (sf i)) (hw : bd 2047 w) (hs : ∀ i j, i < j → j < r → zv (sf i) < zv (sf j)) (hq : q ≤ r) (h1 : ∀ i, i < q → zv (sf i) ≤ zv w) (h2 : q < r → zv w < zv (sf q)) : fX1_rowsUpTo rn sf w = nI q := by
  obtain ⟨q2, e, a, b, c⟩ := up_char hrn hr hb hw
  have : q2 = q := by
    rcases Nat.lt_trichotomy q2 q with z | z | z
    · have := h1 q2 z; have := c (by omega); omega
    · exact z
    · have := b q z; have := h2 (by omega); omega
  rw [e, this]
def shf (f : Nat → UInt64) (a r : Nat) : Nat → UInt64 := fun j => if a < j ∧ j ≤ r then f (j - 1) else f j
theorem shf_0 (f : Nat → UInt64) (r : Nat) : shf f r r = f := by
  funext j; unfold shf; rw [if_neg (by omega)]
theorem shf_s (f : Nat → UInt64) {i r : Nat} (h0 : 1 ≤ i) (hi : i ≤ r) : vf_upd (shf f i r) i (shf f i r (i - 1)) = shf f (i - 1) r := by
  funext j
  by_cases e : j = i
  · subst e
    rw [vf_us]; unfold shf
    rw [if_neg (by omega), if_pos (by omega)]
  · rw [vf_un e]; unfold shf
    by_cases c : i < j ∧ j ≤ r
    · rw [if_pos c, if_pos (by omega)]
    · rw [if_neg c, if_neg (by omega)]
theorem put_L {a : Nat} (he : fX1_rowsUpTo rn sf w = nI a) (hr : r ≤ 20) : ∀ (k i : Nat), i < k → a ≤ i → i ≤ r → fX1_put_L55 rn sf nf w v k (nI i) (shf sf i r) (shf nf i r) = (1, rn + 1, vf_upd (shf sf a r) a w, vf_upd (shf nf a r) a v) := by
  intro k; induction k with
  | zero => intro i h; omega
  | succ k ih =>
    intro i h1 h2 h3
    rw [fX1_put_L55, he]
    by_cases c : nI i ≤ nI a
    · have := (nI_leI (by omega) (by omega)).mp c
      have e : i = a := by omega
      subst e
      rw [if_pos c, nI_clamp (by omega)]
    · have hi : a < i := Nat.lt_of_not_le (fun z => c (nI_le z (by omega)))
      rw [if_neg c, nI_sub1 (by omega), nI_clamp (by omega), nI_clamp (by omega), shf_s sf (by omega) h3, shf_s nf (by omega) h3]
      have e2 : nI i + (-1) = nI (i - 1) := by
        have := pk_m1 (i - 1)
        rw [show i - 1 + 1 = i from (by omega)] at this; exact this
      rw [e2]
      exact ih (i - 1) (by omega) (by omega) (by omega)
theorem ins_L {a : Nat} {p3 : Int32} (hr : r ≤ 20) (ha : a ≤ r) : ∀ (k i : Nat), i < k → a ≤ i → i ≤ r → fX4_insert_L58 sf nf (nI a) p3 w v k (nI i) (shf sf i r) (shf nf i r) = (p3 + 1, vf_upd (shf sf a r) a w, vf_upd (shf nf a r) a v) := by
  intro k; induction k with
  | zero => intro i h; omega
  | succ k ih =>
    intro i h1 h2 h3
    rw [fX4_insert_L58]
    by_cases c : nI i ≤ nI a
    · have := (nI_leI (by omega) (by omega)).mp c
      have e : i = a := by omega
      subst e
      rw [if_pos c, nI_clamp (by omega)]
    · have hi : a < i := Nat.lt_of_not_le (fun z => c (nI_le z (by omega)))
      rw [if_neg c, nI_sub1 (by omega), nI_clamp (by omega), nI_clamp (by omega), shf_s sf (by omega) h3, shf_s nf (by omega) h3]
      have e2 : nI i + (-1) = nI (i - 1) := by
        have := pk_m1 (i - 1)
        rw [show i - 1 + 1 = i from (by omega)] at this; exact this
      rw [e2]
      exact ih (i - 1) (by omega) (by omega) (by omega)
/-- the reference's insert, by the first row that is not below -/
theorem ins_char (hr : r ≤ 20) (hb : ∀ i, bd 1041 (sf i)) (hw : bd 2047 w) : ∃ a, a ≤ r ∧ (∀ i, i < a → zv (sf i) < zv w) ∧ (a < r → zv w ≤ zv (sf a)) ∧ fX4_insert sf nf (nI r) w v = (if a < r ∧ zv (sf a) = zv w then (nI r, sf, vf_upd nf a v) else if r = 20 then (-1, sf, nf) else (nI r + 1, vf_upd (shf sf a r) a w, vf_upd (shf nf a r) a v)) := by
  have E : ∀ a, a ≤ r → ¬ (a < r ∧ zv (sf a) = zv w) → (if nI r = (20 : Int32) then ((-1 : Int32), sf, nf) else fX4_insert_L58 sf nf (nI a) (nI r) w v 21 (nI r) sf nf) = (if a < r ∧ zv (sf a) = zv w then (nI r, sf, vf_upd nf a v) else if r = 20 then (-1, sf, nf) else (nI r + 1, vf_upd (shf sf a r) a w, vf_upd (shf nf a r) a v)) := fun a ha hn => by
    rw [if_neg hn]
    by_cases c : r = 20
    · rw [if_pos c, if_pos (by rw [c]; rfl)]
    · rw [if_neg c, if_neg (show ¬ nI r = (20 : Int32) from fun z => c ((nI_eq (b := 20) (by omega) (by decide)).mp z))]
      have := ins_L (sf := sf) (nf := nf) (w := w) (v := v) (p3 := nI r) hr ha 21 r (by omega) ha (Nat.le_refl _)
      rw [shf_0, shf_0] at this; exact this
  have K : ∀ (k j : Nat), j + k = 21 → j ≤ r → (∀ i, i < j → zv (sf i) < zv w) → ∃ a, a ≤ r ∧ (∀ i, i < a → zv (sf i) < zv w) ∧ (a < r → zv w ≤ zv (sf a)) ∧ fX4_insert_L3 sf nf (nI r) w v k (nI j) = (if a < r ∧ zv (sf a) = zv w then (nI r, sf, vf_upd nf a v) else if r = 20 then (-1, sf, nf) else (nI r + 1, vf_upd (shf sf a r) a w, vf_upd (shf nf a r) a v)) := by
    intro k; induction k with
    | zero => intro j a b; omega
    | succ k ih =>
      intro j a b h
      rw [fX4_insert_L3]
      by_cases c : nI r ≤ nI j
      · rw [if_pos c, if_pos c]
        have := (nI_leI (by omega) (by omega)).mp c
        exact ⟨j, b, h, fun z => by omega, E j b (by omega)⟩
      · rw [if_neg c]
        have hj := Nat.lt_of_not_le (fun z => c (nI_le z (by omega)))
        rw [nI_clamp (by omega)]
        have hbj := bd47 (hb j) (by decide)
        by_cases d : 0 ≤ Op.cmpValue (FP.dcmp (sf j) w) CmpOp.g
        · rw [if_pos d, if_neg c]
          have d2 := (cg_ge hbj hw).mp d
          refine ⟨j, b, h, fun _ => d2, ?_⟩
          by_cases g : Op.cmpValue (FP.dcmp (sf j) w) CmpOp.l = 0
          · rw [if_pos g, if_pos ⟨hj, (cl_eq hbj hw).mp g⟩]
          · rw [if_neg g]
            exact E j b (fun z => g ((cl_eq hbj hw).mpr z.2))
        · rw [if_neg d, nI_1]
          have d2 : ¬ zv w ≤ zv (sf j) := fun z => d ((cg_ge hbj hw).mpr z)
          exact ih (j + 1) (by omega) (by omega) (fun i hi => by
            by_cases e : i = j
            · subst e; omega
            · exact h i (by omega))
  exact K 21 0 rfl (Nat.zero_le _) (fun i hi => by omega)
/-- class and reference lay the same row, and the table stays in order -/
theorem putEq (hT : tabOk B r rn sf nf) (hw : bd 1041 w) (hv : bd B v) : ∃ r2, tabOk B r2 (fX1_put rn sf nf w v).2.1 (fX1_put rn sf nf w v).2.2.1 (fX1_put rn sf nf w v).2.2.2 ∧ (fX1_put rn sf nf w v).2.2.1 = (fX4_insert sf nf rn w v).2.1 ∧ (fX1_put rn sf nf w v).2.2.2 = (fX4_insert sf nf rn w v).2.2 ∧ (((fX1_put rn sf nf w v).1 = 0 ∧ (fX4_insert sf nf rn w v).1 = -1 ∧ (fX1_put rn sf nf w v).2.1 = rn) ∨ ((fX1_put rn sf nf w v).1 = 1 ∧ ¬ (fX4_insert sf nf rn w v).1 = -1 ∧ (fX1_put rn sf nf w v).2.1 = (fX4_insert sf nf rn w v).1)) := by
  obtain ⟨hrn, hr, hb, hn, hs⟩ := hT
  have hw' := bd47 hw (by decide)
  obtain ⟨a, a1, a2, a3, ie⟩ := ins_char (nf := nf) (v := v) hr hb hw'
  subst hrn
  have hne : ∀ q : Nat, q ≤ 21 → ¬ nI q = -1 := fun q hq z => by
    have h9 : ¬ nI q < 0 := nI_pos (by omega)
    rw [z] at h9; exact h9 (by decide)
  by_cases c : a < r ∧ zv (sf a) = zv w
  · have ue : fX1_rowsUpTo (nI r) sf w = nI (a + 1) := up_is rfl hr hb hw' hs (by omega) (fun i hi => by
      by_cases e : i = a
      · subst e; omega
      · have := a2 i (by omega); omega) (fun z => by have := hs a (a + 1) (by omega) z; omega)
    have pe : fX1_put (nI r) sf nf w v = (1, nI r, sf, vf_upd nf a v) := by
      unfold fX1_put
      rw [ue, if_neg (nI_nle (by omega) (by omega)), nI_sub1 (by omega), Nat.add_sub_cancel, nI_clamp (by omega), if_pos ((cl_eq (bd47 (hb a) (by decide)) hw').mpr c.2)]
    rw [if_pos c] at ie
    rw [pe, ie]
    exact ⟨r, ⟨rfl, hr, hb, fun i => by
      show bd B (vf_upd nf a v i)
      by_cases e : i = a
      · subst e; rw [vf_us]; exact hv
      · rw [vf_un e]; exact hn i, hs⟩, rfl, rfl, Or.inr ⟨rfl, hne r (by omega), rfl⟩⟩
  · have a4 : a < r → zv w < zv (sf a) := fun z => by
      have := a3 z
      have : ¬ zv (sf a) = zv w := fun y => c ⟨z, y⟩
      omega
    have ue : fX1_rowsUpTo (nI r) sf w = nI a := up_is rfl hr hb hw' hs a1 (fun i hi => by have := a2 i hi; omega) a4
    have pe : fX1_put (nI r) sf nf w v = (if nI r < (20 : Int32) then (1, nI r + 1, vf_upd (shf sf a r) a w, vf_upd (shf nf a r) a v) else (0, nI r, sf, nf)) := by
      have L := put_L (rn := nI r) (sf := sf) (nf := nf) (w := w) (v := v) ue hr 21 r (by omega) a1 (Nat.le_refl _)
      rw [shf_0, shf_0] at L
      unfold fX1_put
      rw [ue, L]
      by_cases z : nI a ≤ 0
      · rw [if_pos z]
      · rw [if_neg z]
        have ha : 1 ≤ a := by
          rcases Nat.eq_zero_or_pos a with y | y
          · exact absurd (by rw [y]; decide) z
          · exact y
        rw [nI_sub1 ha, nI_clamp (by omega), if_neg (fun y => by
          have := (cl_eq (bd47 (hb (a - 1)) (by decide)) hw').mp y
          have := a2 (a - 1) (by omega); omega)]
    rw [if_neg c] at ie
    by_cases d : r = 20
    · have d2 : ¬ nI r < (20 : Int32) := by rw [d]; decide
      rw [if_neg d2] at pe
      rw [if_pos d] at ie
      rw [pe, ie]
      exact ⟨r, ⟨rfl, hr, hb, hn, hs⟩, rfl, rfl, Or.inl ⟨rfl, rfl, rfl⟩⟩
    · have d2 : nI r < (20 : Int32) := nI_lt (b := 20) (by omega) (by decide)
      rw [if_pos d2] at pe
      rw [if_neg d] at ie
      rw [pe, ie]
      have sb : ∀ (f : Nat → UInt64) (K : Nat) (x : UInt64), (∀ i, bd K (f i)) → bd K x → ∀ i, bd K (vf_upd (shf f a r) a x i) := fun f K x hf hx i => by
        by_cases e : i = a
        · subst e; rw [vf_us]; exact hx
        · rw [vf_un e]; unfold shf
          split
          · exact hf _
          · exact hf _
      refine ⟨r + 1, ⟨nI_1 r, by omega, sb sf 1041 w hb hw, sb nf B v hn hv, ?_⟩, rfl, rfl, Or.inr ⟨rfl, by rw [show nI r + 1 = nI (r + 1) from nI_1 r]; exact hne (r + 1) (by omega), rfl⟩⟩
      intro i j hij hj
      have val : ∀ q, q ≤ r → vf_upd (shf sf a r) a w q = if q < a then sf q else if q = a then w else sf (q - 1) := fun q hq => by
        by_cases e : q = a
        · subst e; rw [vf_us, if_neg (by omega), if_pos rfl]
        · rw [vf_un e]; unfold shf
          by_cases g : q < a
          · rw [if_neg (by omega), if_pos g]
          · rw [if_pos (by omega), if_neg g, if_neg e]
      show zv (vf_upd (shf sf a r) a w i) < zv (vf_upd (shf sf a r) a w j)
      rw [val i (by omega), val j (by omega)]
      by_cases g1 : i < a
      · rw [if_pos g1]
        have := a2 i g1
        by_cases g2 : j < a
        · rw [if_pos g2]; exact hs i j hij (by omega)
        · rw [if_neg g2]
          by_cases g3 : j = a
          · rw [if_pos g3]; exact this
          · rw [if_neg g3]
            rcases Nat.lt_or_ge i (j - 1) with y | y
            · exact hs i (j - 1) y (by omega)
            · omega
      · rw [if_neg g1]
        by_cases g2 : i = a
        · rw [if_pos g2, if_neg (by omega), if_neg (by omega)]
          have := a4 (by omega)
          rcases Nat.lt_or_ge a (j - 1) with y | y
          · have := hs a (j - 1) y (by omega); omega
          · rw [show j - 1 = a by omega]; exact this
        · rw [if_neg g2, if_neg (by omega), if_neg (by omega)]
          exact hs (i - 1) (j - 1) (by omega) (by omega)
end TB
