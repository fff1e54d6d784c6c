/-! ===== PURE: the reference's list of the walk, its sums, its rows put off ===== -/
section QL
variable {sn : Nat} {mm msp msb mno : UInt64} {mch mhr mro : Int32} {mv md : Nat → UInt64} {mt ml med mr mw : Nat → Int32} {mu : Nat → Int64}
/-- wn lists the pings below j that are for the walk, c of them -/
def wI (sn : Nat) (mt ml med : Nat → Int32) (F j c : Nat) (wn : Nat → Nat) : Prop :=
  c ≤ j ∧ (∀ a, a < c → wn a < j ∧ wlk sn mt ml med F (wn a)) ∧ (∀ a b, a < b → b < c → wn a < wn b) ∧ (∀ P, P < j → wlk sn mt ml med F P → ∃ a, a < c ∧ wn a = P)
theorem wI_0 {F : Nat} {wn : Nat → Nat} : wI sn mt ml med F 0 0 wn := ⟨Nat.le_refl _, fun a h => by omega, fun a b _ h => by omega, fun P h => by omega⟩
theorem wI_push {F j c : Nat} {wn : Nat → Nat} (h : wI sn mt ml med F j c wn) (hw : wlk sn mt ml med F j) : wI sn mt ml med F (j + 1) (c + 1) (vf_upd wn c j) := by
  obtain ⟨h0, h1, h2, h3⟩ := h
  refine ⟨by omega, fun a ha => ?_, fun a b hab hb => ?_, fun P hP hw2 => ?_⟩
  · by_cases e : a = c
    · subst e; rw [vf_us]; exact ⟨by omega, hw⟩
    · rw [vf_un e]
      obtain ⟨q1, q2⟩ := h1 a (by omega)
      exact ⟨by omega, q2⟩
  · rw [vf_un (show a ≠ c by omega)]
    by_cases e : b = c
    · subst e; rw [vf_us]; exact (h1 a (by omega)).1
    · rw [vf_un e]; exact h2 a b hab (by omega)
  · by_cases e : P = j
    · subst e; exact ⟨c, by omega, vf_us⟩
    · obtain ⟨a, a1, a2⟩ := h3 P (by omega) hw2
      exact ⟨a, by omega, by rw [vf_un (show a ≠ c by omega)]; exact a2⟩
theorem wI_skip {F j c : Nat} {wn : Nat → Nat} (h : wI sn mt ml med F j c wn) (hw : ¬ wlk sn mt ml med F j) : wI sn mt ml med F (j + 1) c wn := by
  obtain ⟨h0, h1, h2, h3⟩ := h
  refine ⟨by omega, fun a ha => ⟨by have := (h1 a ha).1; omega, (h1 a ha).2⟩, h2, fun P hP hw2 => ?_⟩
  by_cases e : P = j
  · subst e; exact absurd hw2 hw
  · exact h3 P (by omega) hw2
theorem runList {F N : Nat} {p2 : Int32} (hF : mch = nI F) (hN : N ≤ 32) : ∀ (k j c : Nat) (ww : Nat → Int32) (wn : Nat → Nat), j + k = 33 → j ≤ N → wI sn mt ml med F j c wn → (∀ a, a < c → ww a = nI (wn a)) → ∃ (cn : Nat) (w2 : Nat → Int32) (wn2 : Nat → Nat), wI sn mt ml med F N cn wn2 ∧ (∀ a, a < cn → w2 a = nI (wn2 a)) ∧ fX4_run_L28 sn mm mch msp msb mno mhr mro mv mt ml med md mr mu mw (nI N) p2 k (nI j) (nI c) ww = (if cn = 0 then ((-1 : Int32), mhr, mro, mr, mu, w2) else fX4_run_L93 sn mm mch msp msb mno mhr mro mv mt ml med md mr mu mw (nI cn) w2 (nI N) p2 33 (0 : Int32) mu) := by
  intro k; induction k with
  | zero => intro j c ww wn h1 h2; omega
  | succ k ih =>
    intro j c ww wn h1 h2 hI hw
    rw [fX4_run_L28]
    have hc := hI.1
    by_cases c1 : nI N ≤ nI j
    · have c2 := (nI_leI (by omega) (by omega)).mp c1
      have e : j = N := by omega
      subst e
      rw [if_pos c1]
      refine ⟨c, ww, wn, hI, hw, ?_⟩
      by_cases z : c = 0
      · subst z; rw [if_pos rfl, if_pos nI_0]
      · rw [if_neg z, if_neg (nI_ne0' (by omega) (by omega))]
    · have c2 : j < N := Nat.lt_of_not_le (fun z => c1 (nI_le z (by omega)))
      rw [if_neg c1, nI_clamp (by omega), nI_clamp (by omega), nI_1, nI_1]
      have push : wlk sn mt ml med F j → ∃ (cn : Nat) (w2 : Nat → Int32) (wn2 : Nat → Nat), wI sn mt ml med F N cn wn2 ∧ (∀ a, a < cn → w2 a = nI (wn2 a)) ∧ fX4_run_L28 sn mm mch msp msb mno mhr mro mv mt ml med md mr mu mw (nI N) p2 k (nI (j + 1)) (nI (c + 1)) (upd ww c (nI j)) = (if cn = 0 then ((-1 : Int32), mhr, mro, mr, mu, w2) else fX4_run_L93 sn mm mch msp msb mno mhr mro mv mt ml med md mr mu mw (nI cn) w2 (nI N) p2 33 (0 : Int32) mu) := fun q =>
        ih (j + 1) (c + 1) (upd ww c (nI j)) (vf_upd wn c j) (by omega) (by omega) (wI_push hI q) (fun a ha => by
          by_cases e : a = c
          · subst e; rw [pk_us, vf_us]
          · rw [pk_un e, vf_un e]; exact hw a (by omega))
      have skip : ¬ wlk sn mt ml med F j → ∃ (cn : Nat) (w2 : Nat → Int32) (wn2 : Nat → Nat), wI sn mt ml med F N cn wn2 ∧ (∀ a, a < cn → w2 a = nI (wn2 a)) ∧ fX4_run_L28 sn mm mch msp msb mno mhr mro mv mt ml med md mr mu mw (nI N) p2 k (nI (j + 1)) (nI c) ww = (if cn = 0 then ((-1 : Int32), mhr, mro, mr, mu, w2) else fX4_run_L93 sn mm mch msp msb mno mhr mro mv mt ml med md mr mu mw (nI cn) w2 (nI N) p2 33 (0 : Int32) mu) := fun q =>
        ih (j + 1) c ww wn (by omega) (by omega) (wI_skip hI q) hw
      by_cases x : med j = 0
      · rw [if_pos x]
        by_cases y : ml j = 0
        · rw [if_pos y]
          by_cases z : fX4_isEmpty sn mt mch (nI j) = 0
          · rw [if_pos z]; exact push (Or.inr ⟨y, by rw [← hF]; exact z⟩)
          · rw [if_neg z]
            exact skip (fun q => q.elim (fun q => absurd x q) (fun q => z (by rw [hF]; exact q.2)))
        · rw [if_neg y]
          exact skip (fun q => q.elim (fun q => absurd x q) (fun q => y q.1))
      · rw [if_neg x]; exact push (Or.inl x)
/-- one ping's sums -/
theorem runRow (hs : sn ≤ 64) {ww : Nat → Int32} {i : Nat} {p1 p2 : Int32} (hi : i < 32) {ct : Int32 → (Nat → Int64) → Int32 × Int32 × Int32 × (Nat → Int32) × (Nat → Int64) × (Nat → Int32)} : ∀ (k b : Nat) (vv : Nat → Int64), b + k = 65 → b ≤ sn → okS sn mm msp msb mno mv md mt ml med mch p2 ww vv i b → ∃ v2, okS sn mm msp msb mno mv md mt ml med mch p2 ww v2 (i + 1) 0 ∧ fX4_run_L102 sn mm mch msp msb mno mhr mro mv mt ml med md mr mu mw ww (nI i) p1 p2 ct k (nI b) vv = ct (nI (i + 1)) v2 := by
  intro k; induction k with
  | zero => intro b vv h1 h2; omega
  | succ k ih =>
    intro b vv h1 h2 h
    rw [fX4_run_L102]
    by_cases c1 : nI sn ≤ nI b
    · have c2 := (nI_leI (by omega) (by omega)).mp c1
      have e : b = sn := by omega
      subst e
      rw [if_pos c1, nI_1]
      exact ⟨vv, okS_row h, rfl⟩
    · have c2 : b < sn := Nat.lt_of_not_le (fun z => c1 (nI_le z (by omega)))
      rw [if_neg c1, nI_clamp (by omega), show (64 : Int32) * nI i = nI (64 * i) from pk_mul 64 i, nI_add, nI_clamp (by omega), nI_1]
      have go : ∀ v, v = svM sn mm msp msb mno mv md mt ml med mch p2 ww vv i b → ∃ v2, okS sn mm msp msb mno mv md mt ml med mch p2 ww v2 (i + 1) 0 ∧ fX4_run_L102 sn mm mch msp msb mno mhr mro mv mt ml med md mr mu mw ww (nI i) p1 p2 ct k (nI (b + 1)) (vp_updL vv (64 * i + b) v) = ct (nI (i + 1)) v2 := fun v hv =>
        ih (b + 1) _ (by omega) (by omega) (okS_step hs hi c2 h hv)
      unfold svM at go
      by_cases x : fX4_mayStand sn mm med md (ww i) (nI b) = 0
      · rw [if_pos x, if_neg (by decide)]
        exact go _ (by rw [if_pos x])
      · rw [if_neg x]
        by_cases y : 0 ≤ lg_cmp (fX4_bestBefore sn med vv ww (nI i) (nI b) p2) 0
        · rw [if_pos y]
          exact go _ (by rw [if_neg x, if_pos y])
        · rw [if_neg y]
          exact go _ (by rw [if_neg x, if_neg y])
/-- all pings' sums -/
theorem runSums (hs : sn ≤ 64) {ww : Nat → Int32} {cn : Nat} {p1 p2 : Int32} (hcn : cn ≤ 32) : ∀ (k i : Nat) (vv : Nat → Int64), i + k = 33 → i ≤ cn → okS sn mm msp msb mno mv md mt ml med mch p2 ww vv i 0 → ∃ v2, okS sn mm msp msb mno mv md mt ml med mch p2 ww v2 cn 0 ∧ fX4_run_L93 sn mm mch msp msb mno mhr mro mv mt ml med md mr mu mw (nI cn) ww p1 p2 k (nI i) vv = fX4_run_L205 sn mm mch msp msb mno mhr mro mv mt ml med md mr mu mw (nI cn) ww v2 p1 p2 33 (0 : Int32) mr := by
  intro k; induction k with
  | zero => intro i vv h1 h2; omega
  | succ k ih =>
    intro i vv h1 h2 h
    rw [fX4_run_L93]
    by_cases c1 : nI cn ≤ nI i
    · have c2 := (nI_leI (by omega) (by omega)).mp c1
      have e : i = cn := by omega
      subst e
      rw [if_pos c1]
      exact ⟨vv, h, rfl⟩
    · have c2 : i < cn := Nat.lt_of_not_le (fun z => c1 (nI_le z (by omega)))
      rw [if_neg c1]
      obtain ⟨v2, h2', e⟩ := runRow (mhr := mhr) (mro := mro) (mr := mr) (mu := mu) (mw := mw) (p1 := p1) hs (i := i) (by omega) (ct := fun x0 x1 => fX4_run_L93 sn mm mch msp msb mno mhr mro mv mt ml med md mr mu mw (nI cn) ww p1 p2 k x0 x1) 65 0 vv rfl (Nat.zero_le _) h
      rw [show (0 : Int32) = nI 0 from rfl, e]
      exact ih (i + 1) v2 (by omega) (by omega) h2'
theorem okS_0 {ww : Nat → Int32} {st : Int32} {uu : Nat → Int64} : okS sn mm msp msb mno mv md mt ml med mch st ww uu 0 0 := fun a c _ h => by omega
/-- the rows put off -/
theorem runOff {ww : Nat → Int32} {cn p1 p2 : Int32} {uu : Nat → Int64} : ∀ (k j : Nat) (rr : Nat → Int32), j + k = 33 → j ≤ 32 → (∀ P, P < j → rr P = -1) → ∃ r2 : Nat → Int32, (∀ P, P < 32 → r2 P = -1) ∧ fX4_run_L205 sn mm mch msp msb mno mhr mro mv mt ml med md mr mu mw cn ww uu p1 p2 k (nI j) rr = fX4_run_L234 sn mm mch msp msb mno mhr mro mv mt ml med md mr mu mw cn ww uu r2 p1 p2 65 (0 : Int32) (-1 : Int64) := by
  intro k; induction k with
  | zero =>
    intro j rr h1 h2
    omega
  | succ k ih =>
    intro j rr h1 h2 h
    rw [fX4_run_L205]
    by_cases c1 : (32 : Int32) ≤ nI j
    · rw [if_pos c1]
      have c2 : 32 ≤ j := (nI_leI (a := 32) (by decide) (by omega)).mp c1
      exact ⟨rr, fun P hP => h P (by omega), rfl⟩
    · rw [if_neg c1, nI_1]
      have c2 : j < 32 := Nat.lt_of_not_le (fun z => c1 (nI_le (a := 32) z (by omega)))
      rw [nI_clamp (by omega)]
      exact ih (j + 1) _ (by omega) (by omega) (fun P hP => by
        by_cases e : P = j
        · subst e; exact pk_us
        · rw [pk_un e]; exact h P (by omega))
end QL
