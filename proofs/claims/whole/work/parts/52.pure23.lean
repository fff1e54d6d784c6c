/-! ===== PURE: run answers alike, and leaves alike what it found ===== -/
section QR
variable {sn : Nat} {me sp sb no : UInt64} {vf mv df md : Nat → UInt64} {lf mt med kf rf mr mw : Nat → Int32} {uf mu : Nat → Int64} {ch st fw fo : Int32}
theorem runEq (hM : okM sn me sp sb no mv) (hV : rV sn vf mv mt) (hE : rE df md med) {F : Nat} (hF : F < 4) (hch : ch = nI F) (hR : rR fo kf rf mr) (hrf : okR rf) (hmr : okRM mr) (p1 p2 : Int32) : ∃ (r fo2 fw2 st2 : Int32) (k2 rf2 mr2 mw2 : Nat → Int32) (u2 mu2 : Nat → Int64), fX3_run ch df kf rf uf st fw fo sn me vf lf sp sb no p1 p2 = (r, k2, rf2, u2, st2, fw2, fo2) ∧ fX4_run sn me ch sp sb no fo fw mv mt lf med md mr mu mw p1 p2 = (r, fo2, fw2, mr2, mu2, mw2) ∧ rR fo2 k2 rf2 mr2 ∧ okR rf2 ∧ okRM mr2 ∧ (fw2 = fw ∨ fw2 = nI F) := by
  have h1 := hM.1
  have hs := hM.2.1
  have none3 : ∀ e : fX3_run ch df kf rf uf st fw fo sn me vf lf sp sb no p1 p2 = ((-1 : Int32), kf, rf, uf, st, fw, fo), ∀ w2, fX4_run sn me ch sp sb no fo fw mv mt lf med md mr mu mw p1 p2 = ((-1 : Int32), fo, fw, mr, mu, w2) → ∃ (r fo2 fw2 st2 : Int32) (k2 rf2 mr2 mw2 : Nat → Int32) (u2 mu2 : Nat → Int64), fX3_run ch df kf rf uf st fw fo sn me vf lf sp sb no p1 p2 = (r, k2, rf2, u2, st2, fw2, fo2) ∧ fX4_run sn me ch sp sb no fo fw mv mt lf med md mr mu mw p1 p2 = (r, fo2, fw2, mr2, mu2, mw2) ∧ rR fo2 k2 rf2 mr2 ∧ okR rf2 ∧ okRM mr2 ∧ (fw2 = fw ∨ fw2 = nI F) := fun e w2 e2 =>
    ⟨_, _, _, _, _, _, _, _, _, _, e, e2, hR, hrf, hmr, Or.inl rfl⟩
  by_cases a1 : p1 < 1
  · exact none3 (by unfold fX3_run; rw [if_pos a1]) mw (by unfold fX4_run; rw [if_pos a1])
  by_cases a2 : 32 < p1
  · exact none3 (by unfold fX3_run; rw [if_neg a1, if_pos a2]) mw (by unfold fX4_run; rw [if_neg a1, if_pos a2])
  by_cases a3 : p2 < 0
  · exact none3 (by unfold fX3_run; rw [if_neg a1, if_neg a2, if_pos a3]) mw (by unfold fX4_run; rw [if_neg a1, if_neg a2, if_pos a3])
  by_cases a4 : p2 ≤ 64
  case neg => exact none3 (by unfold fX3_run; rw [if_neg a1, if_neg a2, if_neg a3, if_neg a4]) mw (by unfold fX4_run; rw [if_neg a1, if_neg a2, if_neg a3, if_neg a4])
  obtain ⟨N, hN, e1⟩ : ∃ N : Nat, N ≤ 32 ∧ p1 = nI N := by
    rcases pk_ix p1 (n := 33) (by omega) with q | q | ⟨K, hK, e⟩
    · exact absurd (Int32.lt_trans q (by decide)) a1
    · exact absurd (Int32.lt_of_lt_of_le (show (32 : Int32) < nI 33 by decide) q) a2
    · exact ⟨K, by omega, e⟩
  obtain ⟨S, hS, e2⟩ : ∃ S : Nat, S ≤ 64 ∧ p2 = nI S := by
    rcases pk_ix p2 (n := 65) (by omega) with q | q | ⟨K, hK, e⟩
    · exact absurd q a3
    · exact absurd (Int32.lt_of_lt_of_le (show (64 : Int32) < nI 65 by decide) q) (fun z => Int32.not_lt.mpr a4 z)
    · exact ⟨K, by omega, e⟩
  subst e1; subst e2
  obtain ⟨cn, ww, wn, hI, hw, eL⟩ := runList (sn := sn) (mm := me) (msp := sp) (msb := sb) (mno := no) (mhr := fo) (mro := fw) (mv := mv) (md := md) (mt := mt) (ml := lf) (med := med) (mr := mr) (mw := mw) (mu := mu) (p2 := nI S) hch hN 33 0 0 mw (fun a => a) rfl (Nat.zero_le _) wI_0 (fun a ha => by omega)
  have e4 : fX4_run sn me ch sp sb no fo fw mv mt lf med md mr mu mw (nI N) (nI S) = (if cn = 0 then ((-1 : Int32), fo, fw, mr, mu, ww) else fX4_run_L93 sn me ch sp sb no fo fw mv mt lf med md mr mu mw (nI cn) ww (nI N) (nI S) 33 (0 : Int32) mu) := by
    unfold fX4_run
    rw [if_neg a1, if_neg a2, if_neg a3, if_pos a4]
    exact eL
  obtain ⟨i0, i1, i2, i3⟩ := hI
  have hI : wI sn mt lf med F N cn wn := ⟨i0, i1, i2, i3⟩
  by_cases hp : fX2_hasPing df sn vf lf (nI F) (nI N) = 0
  · have no1 := (hasPing_iff (lf := lf) hs hV hE hF hN).mp hp
    have c0 : cn = 0 := by
      rcases Nat.eq_zero_or_pos cn with z | z
      · exact z
      · have := i1 0 z; exact absurd this.2 (no1 _ this.1)
    refine none3 ?_ ww (by rw [e4, if_pos c0])
    unfold fX3_run
    rw [if_neg a1, if_neg a2, if_neg a3, if_pos a4]
    have eg : fX2_go df kf rf uf st fw fo sn me vf lf sp sb no ch (nI N) (nI S) = ((-1 : Int32), kf, rf, uf, st, fw, fo) := by
      unfold fX2_go
      rw [hch, if_pos hp]
    rw [eg]
  · have h0 : 1 ≤ cn := by
      rcases Nat.eq_zero_or_pos cn with z | z
      · exfalso
        refine hp ((hasPing_iff (lf := lf) hs hV hE hF hN).mpr (fun P hP hw2 => ?_))
        obtain ⟨a, b, _⟩ := i3 P hP hw2
        omega
      · exact z
    have hcn : cn ≤ 32 := by omega
    have hww : ∀ a, a < cn → ww a = nI (wn a) ∧ wn a < 32 := fun a ha => ⟨hw a ha, by have := (i1 a ha).1; omega⟩
    rw [if_neg (show ¬ cn = 0 by omega)] at e4
    obtain ⟨mu2, hok, e5⟩ := runSums (mm := me) (msp := sp) (msb := sb) (mno := no) (mch := ch) (mhr := fo) (mro := fw) (mv := mv) (md := md) (mt := mt) (ml := lf) (med := med) (mr := mr) (mw := mw) (mu := mu) (ww := ww) (p1 := nI N) (p2 := nI S) hs hcn 33 0 mu rfl (Nat.zero_le _) okS_0
    obtain ⟨r2, hr2, e6⟩ := runOff (sn := sn) (mm := me) (msp := sp) (msb := sb) (mno := no) (mch := ch) (mhr := fo) (mro := fw) (mv := mv) (md := md) (mt := mt) (ml := lf) (med := med) (mr := mr) (mw := mw) (mu := mu) (ww := ww) (cn := nI cn) (p1 := nI N) (p2 := nI S) (uu := mu2) 33 0 mr rfl (Nat.zero_le _) (fun P hP => by omega)
    subst hch
    obtain ⟨k2, u2, hK, hC, e7⟩ := goLoop (me := me) (sp := sp) (sb := sb) (no := no) (kf0 := kf) (rf := rf) (uf := uf) (st := st) (fw := fw) (fo := fo) hM hV hE hF hcn hS hN hI hw hok 33 0 kf uf rfl (Nat.zero_le _) (fun P hP => by omega) (fun a ha hl => by omega)
    have hP := (hww (cn - 1) (by omega)).2
    obtain ⟨a', b', mq, em, hab, hb', hm, hwi⟩ := best_last (me := me) (md := md) (uf := u2) (st := nI S) (q3 := 0) h1 hs hE hP
    have hm1 := hm.1
    have hm2 := hm.2.1
    have w1 := (hwi mq (by omega)).mp ⟨hm1, hm2⟩
    have pos := standPos hM hE hF hcn hS hww hok
    have pq := pos (cn - 1) (by omega) mq (by omega) w1
    have eqv : ∀ y, y < sn → std sn me med md (wn (cn - 1)) y → u2 (wn (cn - 1) * sn + y) = mu2 (64 * (cn - 1) + y) := fun y hy hs2 => hC (cn - 1) (by omega) hP y hy hs2
    have hg : ∀ x, x < sn → (mu2 (64 * (cn - 1) + x)).toInt ≤ (mu2 (64 * (cn - 1) + mq)).toInt := fun x hx => by
      by_cases s : std sn me med md (wn (cn - 1)) x
      · have z := (hwi x hx).mpr s
        have := hm.2.2.1 x z.1 z.2
        rw [← eqv x hx s, ← eqv mq (by omega) w1]
        exact this
      · have := standNo hok (show cn - 1 < cn by omega) (hww (cn - 1) (by omega)).1 hx s
        omega
    have hq4 : ∀ x, x < mq → mu2 (64 * (cn - 1) + x) ≠ mu2 (64 * (cn - 1) + mq) := fun x hx e => by
      by_cases s : std sn me med md (wn (cn - 1)) x
      · have z := (hwi x (by omega)).mpr s
        have q : (u2 (wn (cn - 1) * sn + x)).toInt < (u2 (wn (cn - 1) * sn + mq)).toInt := hm.2.2.2 x z.1 hx
        rw [eqv x (by omega) s, eqv mq (by omega) w1, e] at q
        omega
      · have := standNo hok (show cn - 1 < cn by omega) (hww (cn - 1) (by omega)).1 (show x < sn by omega) s
        rw [e] at this; omega
    have e8 := endMax_L (mm := me) (msp := sp) (msb := sb) (mno := no) (mch := nI F) (mhr := fo) (mro := fw) (mv := mv) (md := md) (mt := mt) (ml := lf) (med := med) (mr := mr) (mw := mw) (mu := mu) (ww := ww) (rr := r2) (uu := mu2) (p1 := nI N) (p2 := nI S) hs (N := cn) (m := mq) h0 hcn (by omega) hg 65 0 (-1) rfl (Nat.zero_le _) (by rw [show (-1 : Int64).toInt = -1 by decide]; omega) (fun z => absurd z (by omega))
    obtain ⟨rr3, r3, t1, t2, t3⟩ := traceL (mhr := fo) (mro := fw) (mr := mr) (mw := mw) (mu0 := mu) (rf0 := rf) (p1 := nI N) (kf := k2) hM hE hF rfl h0 hcn hS hww i2 hok hK hC em (by omega) w1 rfl hq4 32 33 cn 34 (-1) (-1) (mu2 (64 * (cn - 1) + mq)) 0 rf r2 (by omega) (by omega) (Nat.le_refl _) (Nat.le_refl _) (fun a ha => ⟨fun _ => ha, fun _ => (hww a ha).2⟩) (Or.inl ⟨rfl, rfl, rfl, rfl⟩) (fun z => by omega)
    have en : nI cn + (-1) = nI (cn - 1) := by
      have := pk_m1 (cn - 1)
      rw [show cn - 1 + 1 = cn by omega] at this; exact this
    rw [en] at t2
    have f4 : fX4_run sn me (nI F) sp sb no fo fw mv mt lf med md mr mu mw (nI N) (nI S) = ((mu2 (64 * (cn - 1) + mq)).toInt32, (1 : Int32), nI F, r3, mu2, ww) := by
      rw [e4, show (0 : Int32) = nI 0 from rfl, e5, show (0 : Int32) = nI 0 from rfl, e6, show (0 : Int32) = nI 0 from rfl, e8, t2]
    have tb : fX2_traceBack df k2 rf u2 (nI S) sn me = (mu2 (64 * (cn - 1) + mq), rr3) := by
      unfold fX2_traceBack
      rw [← nI_31]; exact t1
    have eg : fX2_go df kf rf uf st fw fo sn me vf lf sp sb no (nI F) (nI N) (nI S) = ((mu2 (64 * (cn - 1) + mq)).toInt32, k2, rr3, u2, nI S, nI F, (1 : Int32)) := by
      unfold fX2_go
      rw [if_neg hp, show (0 : Int32) = nI 0 from rfl, e7, tb]
    have f3 : fX3_run (nI F) df kf rf uf st fw fo sn me vf lf sp sb no (nI N) (nI S) = ((mu2 (64 * (cn - 1) + mq)).toInt32, k2, rr3, u2, nI S, nI F, (1 : Int32)) := by
      unfold fX3_run
      rw [if_neg a1, if_neg a2, if_neg a3, if_pos a4, eg]
    refine ⟨_, _, _, _, _, _, _, _, _, _, f3, f4, Or.inr ⟨rfl, fun P hP2 => ?_⟩, fun P hP2 => ?_, fun P hP2 => ?_, Or.inr rfl⟩
    · obtain ⟨s1, s2⟩ := t3 P hP2
      rcases hK P hP2 with ⟨q, _⟩ | ⟨q, _⟩
      · exact Or.inr ⟨q, s1 ⟨hP2, q⟩⟩
      · refine Or.inl ⟨q, ?_⟩
        have := (s2 (fun z => by rw [q] at z; exact absurd z.2 (by decide))).2
        rw [this]; exact hr2 P hP2
    · obtain ⟨s1, s2⟩ := t3 P hP2
      by_cases c : P < 32 ∧ k2 P = 1
      · obtain ⟨K, q1, q2, q3⟩ := s1 c
        exact ⟨K, q1, q2⟩
      · rw [(s2 c).1]; exact hrf P hP2
    · obtain ⟨s1, s2⟩ := t3 P hP2
      by_cases c : P < 32 ∧ k2 P = 1
      · obtain ⟨K, q1, q2, q3⟩ := s1 c
        exact Or.inr ⟨K, q1, q3⟩
      · refine Or.inl ?_
        rw [(s2 c).2]; exact hr2 P hP2
end QR
