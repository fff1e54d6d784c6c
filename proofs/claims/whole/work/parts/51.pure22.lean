/-! ===== PURE: both ways back ===== -/
section QB
variable {sn F cn S : Nat} {me sp sb no : UInt64} {mch mhr mro : Int32} {mv df md : Nat → UInt64} {lf mt med ww kf rf0 mr mw : Nat → Int32} {mu uf mu0 : Nat → Int64} {wn : Nat → Nat} {p1 : Int32} {wq : Int64}
/-- where both ways back stand, n pings of the walk before them -/
def stB (sn cn S n : Nat) (me : UInt64) (med : Nat → Int32) (md : Nat → UInt64) (ww : Nat → Int32) (wn : Nat → Nat) (mu : Nat → Int64) (wq : Int64) (bc br : Int32) (wt : Int64) (rr : Nat → Int32) : Prop :=
  (n = cn ∧ bc = -1 ∧ br = -1 ∧ wt = wq) ∨ (n < cn ∧ bc = nI (wn n) ∧ ∃ K, K < sn ∧ br = nI K ∧ rr (wn n) = nI K ∧ std sn me med md (wn n) K ∧ (n = 0 ∨ wt = fX4_bestBefore sn med mu ww (nI n) (nI K) (nI S)))
theorem stepB (hM : okM sn me sp sb no mv) (hE : rE df md med) (hF : F < 4) (hmc : mch = nI F) (hcn : cn ≤ 32) (hS : S ≤ 64) (hww : ∀ a, a < cn → ww a = nI (wn a) ∧ wn a < 32) (h : okS sn me sp sb no mv md mt lf med (nI F) (nI S) ww mu cn 0) (hC : okC sn cn 32 me med md wn mu uf) {mq : Nat} (hq0 : fX2_bestBefore df uf (nI S) sn me (nI (wn (cn - 1))) (-1) 0 = nI mq) (hq1 : mq < sn) (hq2 : std sn me med md (wn (cn - 1)) mq) (hq3 : mu (64 * (cn - 1) + mq) = wq) (hq4 : ∀ x, x < mq → mu (64 * (cn - 1) + x) ≠ wq) {n : Nat} (hn : n + 1 ≤ cn) {bc br : Int32} {wt : Int64} {rr : Nat → Int32} (hB : stB sn cn S (n + 1) me med md ww wn mu wq bc br wt rr) : ∃ m, fX2_bestBefore df uf (nI S) sn me (nI (wn n)) bc (fX2_sampleOfRow rr bc) = nI m ∧ m < sn ∧ mu (64 * n + m) = wt ∧ (br = -1 ∨ ¬ fX4_mayFollow med (ww n) (nI m) (ww (n + 1)) br (nI S) = 0) ∧ (∀ x, x < m → mu (64 * n + x) = wt → ¬ br = -1 ∧ fX4_mayFollow med (ww n) (nI x) (ww (n + 1)) br (nI S) = 0) ∧ (n + 1 = cn → fX2_sumAt uf sn (nI (wn n)) (nI m) = wq) ∧ stB sn cn S n me med md ww wn mu wq (nI (wn n)) (nI m) (wt - fX4_strength me sp sb no mv mt lf mch (ww n) (nI m)) (upd rr (wn n) (nI m)) := by
  have pos := standPos hM hE hF hcn hS hww h
  obtain ⟨hw, hP⟩ := hww n (by omega)
  have nxt : ∀ m, m < sn → std sn me med md (wn n) m → mu (64 * n + m) = wt → stB sn cn S n me med md ww wn mu wq (nI (wn n)) (nI m) (wt - fX4_strength me sp sb no mv mt lf mch (ww n) (nI m)) (upd rr (wn n) (nI m)) := fun m hm hst he => by
    refine Or.inr ⟨by omega, rfl, m, hm, rfl, pk_us, hst, ?_⟩
    rcases n with _ | a
    · exact Or.inl rfl
    · refine Or.inr ?_
      obtain ⟨m2, _, _, _, _, V1, V2, _⟩ := prevVal (x := m) (uf := uf) hM hE hF hcn hS hww h (a := a) (by omega) hm hst (fun y hy hs2 => hC a (by omega) (hww a (by omega)).2 y hy hs2)
      rw [V1, ← he, V2, hmc, hw, Int64.add_sub_cancel]
  rcases hB with ⟨b0, b1, b2, b3⟩ | ⟨b0, b1, K, k1, k2, k3, k4, k5⟩
  · have en : n = cn - 1 := by omega
    subst en
    refine ⟨mq, ?_, hq1, by rw [b3]; exact hq3, Or.inl b2, fun x hx hx2 => absurd (by rw [hx2, b3]) (hq4 x hx), fun _ => ?_, nxt mq hq1 hq2 (by rw [b3]; exact hq3)⟩
    · rw [b1, show fX2_sampleOfRow rr (-1) = 0 from by unfold fX2_sampleOfRow; rw [if_pos (show fX3_isPing (-1) = 0 from ping_lo (by decide))]]
      exact hq0
    · rw [sumAt_row hM.2.1 hP hq1, hC _ (by omega) hP mq hq1 hq2]; exact hq3
  · obtain ⟨hwq, hQ⟩ := hww (n + 1) b0
    obtain ⟨m, em, m1, m2, m3, V1, V2, V3⟩ := prevVal (x := K) (uf := uf) hM hE hF hcn hS hww h (a := n) b0 k1 k4 (fun y hy hs2 => hC n (by omega) hP y hy hs2)
    have k6 := k5.resolve_left (by omega)
    have e0 : mu (64 * n + m) = wt := by rw [k6, V1]
    refine ⟨m, ?_, m1, e0, Or.inr (by rw [hw, hwq, k2]; exact m3), fun x hx hx2 => ⟨by rw [k2]; exact nI_nm1 (by have := hM.2.1; omega), ?_⟩, fun z => by omega, nxt m m1 m2 e0⟩
    · rw [b1]
      unfold fX2_sampleOfRow
      rw [if_neg (pingOk hQ), nI_clamp (by omega), k3]; exact em
    · rw [hw, hwq, k2]
      by_cases f : fX4_mayFollow med (nI (wn n)) (nI x) (nI (wn (n + 1))) (nI K) (nI S) = 0
      · exact f
      · exfalso
        by_cases s : std sn me med md (wn n) x
        · have := V3 x hx s f
          rw [hx2, e0] at this; omega
        · have w1 := standNo h (by omega) hw (by omega) s
          have w2 := pos n (by omega) m m1 m2
          rw [hx2] at w1
          rw [e0] at w2; omega
/-- the ways back -/
theorem traceL (hM : okM sn me sp sb no mv) (hE : rE df md med) (hF : F < 4) (hmc : mch = nI F) (h0 : 1 ≤ cn) (hcn : cn ≤ 32) (hS : S ≤ 64) (hww : ∀ a, a < cn → ww a = nI (wn a) ∧ wn a < 32) (hmono : ∀ a b, a < b → b < cn → wn a < wn b) (h : okS sn me sp sb no mv md mt lf med (nI F) (nI S) ww mu cn 0) (hK : okK cn 32 wn kf) (hC : okC sn cn 32 me med md wn mu uf) {mq : Nat} (hq0 : fX2_bestBefore df uf (nI S) sn me (nI (wn (cn - 1))) (-1) 0 = nI mq) (hq1 : mq < sn) (hq2 : std sn me med md (wn (cn - 1)) mq) (hq3 : mu (64 * (cn - 1) + mq) = wq) (hq4 : ∀ x, x < mq → mu (64 * (cn - 1) + x) ≠ wq) : ∀ (j k n f : Nat) (bc br : Int32) (wt gg : Int64) (rr r2 : Nat → Int32), j < k → n < f → j ≤ 32 → n ≤ cn → (∀ a, a < cn → (wn a < j ↔ a < n)) → stB sn cn S n me med md ww wn mu wq bc br wt rr → (n < cn → gg = wq) → ∃ rr3 r3 : Nat → Int32, fX2_traceBack_L8 df kf rf0 uf (nI S) sn me k (nI j + (-1)) bc gg rr = (wq, rr3) ∧ fX4_run_L302 sn me mch sp sb no mhr mro mv mt lf med md mr mu0 mw ww mu wq p1 (nI S) f (nI n + (-1)) br wt r2 = (wq.toInt32, (1 : Int32), mch, r3, mu, ww) ∧ ∀ P, P < 32 → (P < j ∧ kf P = 1 → ∃ K, K < 64 ∧ rr3 P = nI K ∧ r3 P = nI K) ∧ (¬ (P < j ∧ kf P = 1) → rr3 P = rr P ∧ r3 P = r2 P) := by
  have hs := hM.2.1
  intro j; induction j with
  | zero =>
    intro k n f bc br wt gg rr r2 a1 a2 a3 a4 hwn hB hg
    have n0 : n = 0 := by
      rcases Nat.eq_zero_or_pos n with z | z
      · exact z
      · have := (hwn 0 (by omega)).mpr z; omega
    subst n0
    obtain ⟨k, rfl⟩ : ∃ k', k = k' + 1 := ⟨k - 1, by omega⟩
    obtain ⟨f, rfl⟩ : ∃ f', f = f' + 1 := ⟨f - 1, by omega⟩
    refine ⟨rr, r2, ?_, ?_, fun P hP => ⟨fun z => by omega, fun _ => ⟨rfl, rfl⟩⟩⟩
    · rw [fX2_traceBack_L8, if_pos (show nI 0 + (-1) < 0 by decide), hg h0]
    · rw [fX4_run_L302, if_pos (show nI 0 + (-1) < 0 by decide)]
  | succ j ih =>
    intro k n f bc br wt gg rr r2 a1 a2 a3 a4 hwn hB hg
    obtain ⟨k, rfl⟩ : ∃ k', k = k' + 1 := ⟨k - 1, by omega⟩
    rw [fX2_traceBack_L8, pk_m1, if_neg (show ¬ nI j < 0 from nI_pos (by omega)), nI_clamp (by omega)]
    rcases hK j (by omega) with ⟨w1, a, ha, e⟩ | ⟨w1, w2⟩
    · rw [if_neg (show ¬ kf j = 0 by rw [w1]; decide)]
      subst e
      have an : a + 1 = n := by
        have q1 := (hwn a ha).mp (by omega)
        rcases Nat.lt_or_ge (a + 1) n with z | z
        · have q2 := (hwn (a + 1) (by omega)).mpr z
          have := hmono a (a + 1) (by omega) (by omega)
          omega
        · omega
      subst an
      obtain ⟨f, rfl⟩ : ∃ f', f = f' + 1 := ⟨f - 1, by omega⟩
      obtain ⟨m, c1, c2, c3, c4, c5, c6, c7⟩ := stepB hM hE hF hmc hcn hS hww h hC hq0 hq1 hq2 hq3 hq4 a4 hB
      have hwa := (hww a ha).1
      have hP := (hww a ha).2
      have ref : fX4_run_L302 sn me mch sp sb no mhr mro mv mt lf med md mr mu0 mw ww mu wq p1 (nI S) (f + 1) (nI (a + 1) + (-1)) br wt r2 = fX4_run_L302 sn me mch sp sb no mhr mro mv mt lf med md mr mu0 mw ww mu wq p1 (nI S) f (nI a + (-1)) (nI m) (wt - fX4_strength me sp sb no mv mt lf mch (ww a) (nI m)) (upd r2 (wn a) (nI m)) := by
        rw [fX4_run_L302, pk_m1, if_neg (show ¬ nI a < 0 from nI_pos (by omega)), show (0 : Int32) = nI 0 from rfl]
        have S1 := seek_L (sn := sn) (mm := me) (msp := sp) (msb := sb) (mno := no) (mch := mch) (mhr := mhr) (mro := mro) (mv := mv) (md := md) (mt := mt) (ml := lf) (med := med) (mr := mr) (mw := mw) (ww := ww) (r2 := r2) (mu := mu0) (uu := mu) (p1 := p1) (p2 := nI S) (bh := br) (wt := wt) (ct := fun x0 x1 x2 x3 => fX4_run_L302 sn me mch sp sb no mhr mro mv mt lf med md mr mu0 mw ww mu wq p1 (nI S) f x0 x1 x2 x3) (T := a) (m := m) (by omega) (by omega) c3 c4 c5 65 0 rfl (Nat.zero_le _)
        rw [S1, hwa, nI_clamp (by omega)]
      rw [ref]
      have st2 : ∀ b, b < cn → (wn b < wn a ↔ b < a) := fun b hb => by
        rcases Nat.lt_trichotomy b a with q | q | q
        · exact ⟨fun _ => q, fun _ => hmono b a q ha⟩
        · subst q; exact ⟨fun z => by omega, fun z => by omega⟩
        · have := hmono a b q hb
          exact ⟨fun z => by omega, fun z => by omega⟩
      have fin : ∀ g2, (a < cn → g2 = wq) → ∃ rr3 r3 : Nat → Int32, fX2_traceBack_L8 df kf rf0 uf (nI S) sn me k (nI (wn a) + (-1)) (nI (wn a)) g2 (upd rr (wn a) (nI m)) = (wq, rr3) ∧ fX4_run_L302 sn me mch sp sb no mhr mro mv mt lf med md mr mu0 mw ww mu wq p1 (nI S) f (nI a + (-1)) (nI m) (wt - fX4_strength me sp sb no mv mt lf mch (ww a) (nI m)) (upd r2 (wn a) (nI m)) = (wq.toInt32, (1 : Int32), mch, r3, mu, ww) ∧ ∀ P, P < 32 → (P < wn a + 1 ∧ kf P = 1 → ∃ K, K < 64 ∧ rr3 P = nI K ∧ r3 P = nI K) ∧ (¬ (P < wn a + 1 ∧ kf P = 1) → rr3 P = rr P ∧ r3 P = r2 P) := fun g2 hg2 => by
        obtain ⟨rr3, r3, q1, q2, q3⟩ := ih k a f (nI (wn a)) (nI m) _ g2 (upd rr (wn a) (nI m)) (upd r2 (wn a) (nI m)) (by omega) (by omega) (by omega) (by omega) st2 c7 hg2
        refine ⟨rr3, r3, q1, q2, fun P hP2 => ?_⟩
        obtain ⟨t1, t2⟩ := q3 P hP2
        by_cases e : P = wn a
        · subst e
          obtain ⟨u1, u2⟩ := t2 (fun z => by omega)
          rw [pk_us] at u1 u2
          exact ⟨fun _ => ⟨m, by omega, u1, u2⟩, fun z => absurd ⟨by omega, w1⟩ z⟩
        · refine ⟨fun z => t1 ⟨by omega, z.2⟩, fun z => ?_⟩
          obtain ⟨u1, u2⟩ := t2 (fun y => z ⟨by omega, y.2⟩)
          rw [pk_un e] at u1 u2
          exact ⟨u1, u2⟩
      rw [c1, pk_us]
      by_cases b : bc = -1
      · rw [if_pos b]
        refine fin _ (fun _ => c6 ?_)
        rcases hB with ⟨b0, _⟩ | ⟨b0, b1, _⟩
        · exact b0
        · exact absurd (b1.symm.trans b) (nI_nm1 (by have := (hww _ b0).2; omega))
      · rw [if_neg b]
        refine fin _ (fun _ => ?_)
        rcases hB with ⟨b0, b1, _⟩ | ⟨b0, b1, _⟩
        · exact absurd b1 b
        · exact hg b0
    · rw [if_pos w1]
      obtain ⟨rr3, r3, q1, q2, q3⟩ := ih k n f bc br wt gg rr r2 (by omega) a2 (by omega) a4 (fun a ha => by
        have q := hwn a ha
        have := w2 a ha
        exact ⟨fun z => q.mp (by omega), fun z => by have := q.mpr z; omega⟩) hB hg
      refine ⟨rr3, r3, q1, q2, fun P hP2 => ?_⟩
      obtain ⟨t1, t2⟩ := q3 P hP2
      refine ⟨fun z => ?_, fun z => t2 (fun y => z ⟨by omega, y.2⟩)⟩
      by_cases e : P = j
      · subst e
        rw [w1] at z; exact absurd z.2 (by decide)
      · exact t1 ⟨by omega, z.2⟩
end QB
