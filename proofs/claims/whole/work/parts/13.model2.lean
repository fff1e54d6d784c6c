theorem nbM_up {mhr : Int32} {mr : Nat → Int32} {p1 : Int32} : ∀ (k n : Nat), n ≤ 32 → 33 ≤ n + k → fX4_neighbour_L4 mhr mr p1 1 k (nI n) = -1 ∨ ∃ Q : Nat, n ≤ Q ∧ Q < 32 ∧ fX4_neighbour_L4 mhr mr p1 1 k (nI n) = nI Q ∧ ¬ fX4_isWalked mhr mr (nI Q) = 0 := by
  intro k; induction k with
  | zero => intro n a b; omega
  | succ k ih =>
    intro n a b
    rw [fX4_neighbour_L4]
    by_cases c : fX4_isPing (nI n) = 0
    · rw [if_pos c, if_pos c]; exact Or.inl rfl
    · obtain ⟨P, e, hP⟩ := pingM c
      have := (nI_eq (by omega) (by omega)).mp e
      rw [if_neg c]
      by_cases w : fX4_isWalked mhr mr (nI n) = 0
      · rw [if_pos w, show nI n + 1 = nI (n + 1) from nI_1 n]
        rcases ih (n + 1) (by omega) (by omega) with h | ⟨Q, h1, h2, h3, h4⟩
        · exact Or.inl h
        · exact Or.inr ⟨Q, by omega, h2, h3, h4⟩
      · rw [if_neg w, if_neg c]; exact Or.inr ⟨n, Nat.le_refl _, by omega, rfl, w⟩
theorem nbM_dn {mhr : Int32} {mr : Nat → Int32} {p1 : Int32} : ∀ (k n : Nat), n ≤ 32 → n < k → fX4_neighbour_L4 mhr mr p1 (-1) k (nI n + (-1)) = -1 ∨ ∃ Q : Nat, Q < n ∧ Q < 32 ∧ fX4_neighbour_L4 mhr mr p1 (-1) k (nI n + (-1)) = nI Q ∧ ¬ fX4_isWalked mhr mr (nI Q) = 0 := by
  intro k; induction k with
  | zero => intro n a b; omega
  | succ k ih =>
    intro n a b
    rw [fX4_neighbour_L4]
    rcases n with _ | n
    · have c : fX4_isPing (nI 0 + (-1)) = 0 := by decide
      rw [if_pos c, if_pos c]; exact Or.inl rfl
    · rw [pk_m1]
      by_cases c : fX4_isPing (nI n) = 0
      · rw [if_pos c, if_pos c]; exact Or.inl rfl
      · rw [if_neg c]
        by_cases w : fX4_isWalked mhr mr (nI n) = 0
        · rw [if_pos w]
          rcases ih n (by omega) (by omega) with h | ⟨Q, h1, h2, h3, h4⟩
          · exact Or.inl h
          · exact Or.inr ⟨Q, by omega, h2, h3, h4⟩
        · rw [if_neg w, if_neg c]; exact Or.inr ⟨n, by omega, by omega, rfl, w⟩
theorem nbM1 (mhr : Int32) (mr : Nat → Int32) {P : Nat} (hP : P < 32) : fX4_neighbour mhr mr (nI P) 1 = -1 ∨ ∃ Q : Nat, P < Q ∧ Q < 32 ∧ fX4_neighbour mhr mr (nI P) 1 = nI Q ∧ ¬ fX4_isWalked mhr mr (nI Q) = 0 := by
  rw [fX4_neighbour, show nI P + 1 = nI (P + 1) from nI_1 P]
  rcases nbM_up (mhr := mhr) (mr := mr) (p1 := nI P) 34 (P + 1) (by omega) (by omega) with h | ⟨Q, h1, h2, h3, h4⟩
  · exact Or.inl h
  · exact Or.inr ⟨Q, by omega, h2, h3, h4⟩
theorem nbM2 (mhr : Int32) (mr : Nat → Int32) {P : Nat} (hP : P < 32) : fX4_neighbour mhr mr (nI P) (-1) = -1 ∨ ∃ Q : Nat, Q < P ∧ fX4_neighbour mhr mr (nI P) (-1) = nI Q ∧ ¬ fX4_isWalked mhr mr (nI Q) = 0 := by
  rw [fX4_neighbour]
  rcases nbM_dn (mhr := mhr) (mr := mr) (p1 := nI P) 34 P (by omega) (by omega) with h | ⟨Q, h1, h2, h3, h4⟩
  · exact Or.inl h
  · exact Or.inr ⟨Q, h1, h3, h4⟩
theorem wkM {mhr : Int32} {mr : Nat → Int32} {p : Int32} (h : ¬ fX4_isWalked mhr mr p = 0) : ∃ P : Nat, p = nI P ∧ P < 32 ∧ ¬ mr P = -1 := by
  unfold fX4_isWalked at h
  by_cases c1 : mhr = 0
  · rw [if_pos c1] at h; exact absurd rfl h
  rw [if_neg c1] at h
  by_cases c2 : fX4_isPing p = 0
  · rw [if_pos c2] at h; exact absurd rfl h
  rw [if_neg c2] at h
  obtain ⟨P, e, hP⟩ := pingM c2
  refine ⟨P, e, hP, fun z => ?_⟩
  rw [e, nI_clamp (by omega), if_pos z] at h; exact absurd rfl h
theorem brM {mhr : Int32} {mr : Nat → Int32} {p : Int32} (h : ¬ fX4_isBridged mhr mr p = 0) : ∃ P A B : Nat, p = nI P ∧ A < P ∧ P < B ∧ B < 32 ∧ fX4_neighbour mhr mr p (-1) = nI A ∧ fX4_neighbour mhr mr p 1 = nI B ∧ ¬ fX4_isWalked mhr mr (nI A) = 0 ∧ ¬ fX4_isWalked mhr mr (nI B) = 0 := by
  unfold fX4_isBridged at h
  by_cases c1 : mhr = 0
  · rw [if_pos c1] at h; exact absurd rfl h
  rw [if_neg c1] at h
  by_cases c2 : fX4_isPing p = 0
  · rw [if_pos c2] at h; exact absurd rfl h
  rw [if_neg c2] at h
  obtain ⟨P, e, hP⟩ := pingM c2
  by_cases c3 : fX4_isWalked mhr mr p = 0
  · rw [if_pos c3] at h
    by_cases c4 : fX4_neighbour mhr mr p (-1) = -1
    · rw [if_pos c4] at h; exact absurd rfl h
    rw [if_neg c4] at h
    by_cases c5 : fX4_neighbour mhr mr p 1 = -1
    · rw [if_pos c5] at h; exact absurd rfl h
    rw [e] at c4 c5 ⊢
    rcases nbM2 mhr mr hP with q | ⟨A, a1, a2, a3⟩
    · exact absurd q c4
    rcases nbM1 mhr mr hP with q | ⟨B, b1, b2, b3, b4⟩
    · exact absurd q c5
    exact ⟨P, A, B, rfl, a1, b1, b2, a2, b3, a3, b4⟩
  · rw [if_neg c3] at h; exact absurd rfl h
theorem hbM {mhr : Int32} {mr : Nat → Int32} {p : Int32} (h : ¬ fX4_hasBottom mhr mr p = 0) (w : fX4_isWalked mhr mr p = 0) : ¬ fX4_isBridged mhr mr p = 0 := by
  unfold fX4_hasBottom at h
  rw [if_pos w] at h
  intro c
  rw [if_pos c] at h; exact h rfl
theorem hbP {mhr : Int32} {mr : Nat → Int32} {p : Int32} (h : ¬ fX4_hasBottom mhr mr p = 0) : ∃ P : Nat, p = nI P ∧ P < 32 := by
  by_cases w : fX4_isWalked mhr mr p = 0
  · obtain ⟨P, A, B, e, h1, h2, h3, _⟩ := brM (hbM h w)
    exact ⟨P, e, by omega⟩
  · obtain ⟨P, e, h1, _⟩ := wkM w
    exact ⟨P, e, h1⟩
theorem wdM_bd {mm : UInt64} {med mr : Nat → Int32} {md : Nat → UInt64} (hm : bd 1030 mm) (hmd : ∀ i, i < 32 → bd 1037 (md i)) {p : Int32} {P : Nat} (hp : p = nI P) (hP : P < 32) : bd 1064 (fX4_walkedDepth mm med md mr p) := by
  unfold fX4_walkedDepth
  split
  · exact bd_mul (Ka := 1056) (Kb := 1030) (bd_i2d _) hm (by decide) (by decide) (by decide)
  · exact bd_up (vpin_bd (nI_in' hp hP (by decide)) (by decide) hmd) (by decide)
theorem brM_div {mhr : Int32} {mr : Nat → Int32} {p : Int32} (h : ¬ fX4_isBridged mhr mr p = 0) {t : UInt64} (ht : bd 1100 t) : bd 1101 (FP.ddiv t (FP.i2d (fX4_neighbour mhr mr p 1 - fX4_neighbour mhr mr p (-1)))) := by
  obtain ⟨P, A, B, e, h1, h2, h3, h4, h5, _⟩ := brM h
  rw [h4, h5, pk_sub (by omega)]
  exact bd_div ht (i2d_lb (by omega) (by omega)) (by decide) (by decide) (by decide)
theorem div_ok {K K2 : Nat} {a b : UInt64} (ha : bd K a) (hK : K ≤ 2047) (hb : bd K2 b) (hK2 : K2 ≤ 2047) (h : b.toNat % 2 ^ 63 ≠ 0) : vf_n64 (FP.ddiv a b) := by
  have fa : FP.Core.DFin a := (FP.Core.fin_bits a).mpr (by have h : a.toNat % 2 ^ 63 < K * 2 ^ 52 := ha; omega)
  have fb : FP.Core.DFin b := (FP.Core.fin_bits b).mpr (by have h : b.toNat % 2 ^ 63 < K2 * 2 ^ 52 := hb; omega)
  have h3 := FP.Core.ddiv_out fa.notNaN fb (fun z => h ((FP.Core.zero_bits2 b).mp z))
  rw [n64_iff]
  exact (FP.Core.ne_nan _).mp ((FP.Core.notNaN_iff _).mp h3)
theorem countM_L {mn : Nat} {mm : UInt64} {md : Nat → UInt64} {p1 : Int32} (h1 : 1 ≤ mn) (h2 : mn ≤ 64) : ∀ (k j : Nat), j + k = 65 → j < mn → ∃ q : Nat, q < mn ∧ fX4_counting_L2 mn mm md p1 k (nI j) = nI q := by
  intro k; induction k with
  | zero => intro j a b; omega
  | succ k ih =>
    intro j a b
    rw [fX4_counting_L2]
    by_cases c : nI mn - 1 ≤ nI j
    · rw [if_pos c]; exact ⟨j, b, rfl⟩
    · rw [if_neg c]
      rw [nI_sub1 h1] at c
      have := Nat.lt_of_not_le (fun q => c (nI_le q (by omega)))
      split
      · exact ⟨j, b, rfl⟩
      · rw [nI_1]; exact ih (j + 1) (by omega) (by omega)
theorem countM {mn : Nat} (mm : UInt64) (md : Nat → UInt64) (p1 : Int32) (h1 : 1 ≤ mn) (h2 : mn ≤ 64) : ∃ q : Nat, q < mn ∧ fX4_counting mn mm md p1 = nI q := countM_L h1 h2 65 0 rfl (by omega)
def okRM (mr : Nat → Int32) : Prop := ∀ i, i < 32 → mr i = -1 ∨ ∃ K : Nat, K < 64 ∧ mr i = nI K
theorem rowM {mhr : Int32} {mr : Nat → Int32} {p : Int32} (hmr : okRM mr) (h : ¬ fX4_isWalked mhr mr p = 0) : ∃ a : Nat, a < 64 ∧ mr p.toNatClampNeg = nI a := by
  obtain ⟨P, e, hP, hn⟩ := wkM h
  rw [e, nI_clamp (by omega)]
  rcases hmr P hP with q | q
  · exact absurd q hn
  · exact q
def fX4_plainBottom (mm : UInt64) (mhr : Int32) (med : Nat → Int32) (md : Nat → UInt64) (mr : Nat → Int32) (p1 : Int32) : UInt64 := if (fX4_isWalked mhr mr p1) = 0 then (FP.dadd (fX4_walkedDepth mm med md mr (fX4_neighbour mhr mr p1 (-1 : Int32))) (FP.ddiv (FP.dmul (FP.dsub (fX4_walkedDepth mm med md mr (fX4_neighbour mhr mr p1 (1 : Int32))) (fX4_walkedDepth mm med md mr (fX4_neighbour mhr mr p1 (-1 : Int32)))) (FP.i2d (p1 - (fX4_neighbour mhr mr p1 (-1 : Int32))))) (FP.i2d ((fX4_neighbour mhr mr p1 (1 : Int32)) - (fX4_neighbour mhr mr p1 (-1 : Int32)))))) else ((fX4_walkedDepth mm med md mr p1))
set_option maxHeartbeats 4000000 in
set_option maxRecDepth 100000 in
theorem c_X4_plainBottom {l : Launch} {D : va_G} {cyD cyI cyJ cyZ : ClassId} (am bv bt bl be bdp bi bg bsd bsv bbd bbv br bu bw : Nat) (mn : Nat) (mm : UInt64) (mch : Int32) (msp : UInt64) (msb : UInt64) (mno : UInt64) (msn : Int32) (mbn : Int32) (mhr : Int32) (mro : Int32) (mv : Nat → UInt64) (mt : Nat → Int32) (ml : Nat → Int32) (med : Nat → Int32) (md : Nat → UInt64) (mi : Nat → UInt64) (mg : Nat → UInt64) (msd : Nat → UInt64) (msv : Nat → UInt64) (mbd : Nat → UInt64) (mbv : Nat → UInt64) (mr : Nat → Int32) (mu : Nat → Int64) (mw : Nat → Int32) (sz : Nat) (p1 : Int32) (hM : okM mn mm msp msb mno mv) (hmd : ∀ i, i < 32 → bd 1037 (md i)) (hbt : ¬ fX4_hasBottom mhr mr p1 = 0) : mD l yX4_plainBottom wsX4_plainBottom ({ frames := 3, cells := 0, slots := 0, locals := 64 } : Room) D (kT cyD cyI cyJ cyZ) [.ref am, .int p1] (wM cyD cyI cyJ cyZ am bv bt bl be bdp bi bg bsd bsv bbd bbv br bu bw mn mm mch msp msb mno msn mbn mhr mro mv mt ml med md mi mg msd msv mbd mbv mr mu mw) (wM cyD cyI cyJ cyZ am bv bt bl be bdp bi bg bsd bsv bbd bbv br bu bw mn mm mch msp msb mno msn mbn mhr mro mv mt ml med md mi mg msd msv mbd mbv mr mu mw) sz (fX4_plainBottom mm mhr med md mr p1) 0 0 := by
  refine Met.ofW (cc := cX4_plainBottom) (maxL := 10) (ret := (some .double)) (by decide) rfl ?_
  intro p e s m args below meth c s₁ B hml hv
  obtain ⟨rfl, hN, hsz, hP, hK, hD0⟩ := hv
  have hx := B.exec
  have hb := B.bytes
  have hr := B.returns
  have hts := atoms_spec (ws := wsX4_plainBottom) B.pre
  have hown : s.vm.findClass RX4 = some m.cls := findClass_of_methodNamed B.named
  have hlocks := B.notSynchronized
  subst hsz
  have hD := hD0.self (sz := s.heap.size)
  generalize hAe : va_A (wM cyD cyI cyJ cyZ am bv bt bl be bdp bi bg bsd bsv bbd bbv br bu bw mn mm mch msp msb mno msn mbn mhr mro mv mt ml med md mi mg msd msv mbd mbv mr mu mw) s.heap.size = A at hD ⊢
  have hA : ∀ q : Nat, s.heap.size ≤ q → A q := fun q h => by rw [← hAe]; exact Or.inr h
  have hS : va_S A s.heap s.heap [] := va_S.rf
  have hP : va_P D vwCl (wM cyD cyI cyJ cyZ am bv bt bl be bdp bi bg bsd bsv bbd bbv br bu bw mn mm mch msp msb mno msn mbn mhr mro mv mt ml med md mi mg msd msv mbd mbv mr mu mw) s.heap := hP
  have hl := lv_entry [.ref am, .int p1] (n := 10) (Nat.le_of_ble_eq_true rfl)
  rw [lg_entry_eq]
  generalize (lg_sl [.ref am, .int p1] ++ List.replicate (10 - (lg_sl [.ref am, .int p1]).length) Slot.unset).toArray = ls at hl ⊢
  have hl : lv_has ls 10 [(0, .ref am), (1, .int p1)] := hl
  obtain ⟨H, hHe⟩ : ∃ H : Heap, H = s.heap := ⟨_, rfl⟩
  have hP : va_P D vwCl (wM cyD cyI cyJ cyZ am bv bt bl be bdp bi bg bsd bsv bbd bbv br bu bw mn mm mch msp msb mno msn mbn mhr mro mv mt ml med md mi mg msd msv mbd mbv mr mu mw) H := by rw [hHe]; exact hP
  have hS : va_S A s.heap H [] := by rw [hHe]; exact hS
  rw [← hHe]
  refine lv_aload_n hx hb dX4_plainBottom_0 rfl (lv_at hl 0 rfl) ?_
  refine lv_iload_n hx hb dX4_plainBottom_1 rfl (lv_at hl 1 rfl) ?_
  have hPc : va_P D vwCl (wM cyD cyI cyJ cyZ am bv bt bl be bdp bi bg bsd bsv bbd bbv br bu bw mn mm mch msp msb mno msn mbn mhr mro mv mt ml med md mi mg msd msv mbd mbv mr mu mw) H := hP.sub [0, 1, 2, 3, 4, 5, 6, 7, 8, 9, 10, 11, 12, 13, 14] rfl
  have hDc : va_D A (wM cyD cyI cyJ cyZ am bv bt bl be bdp bi bg bsd bsv bbd bbv br bu bw mn mm mch msp msb mno msn mbn mhr mro mv mt ml med md mi mg msd msv mbd mbv mr mu mw) := hD.sub [0, 1, 2, 3, 4, 5, 6, 7, 8, 9, 10, 11, 12, 13, 14] (by decide) rfl
  refine kzE (ws' := (wM cyD cyI cyJ cyZ am bv bt bl be bdp bi bg bsd bsv bbd bbv br bu bw mn mm mch msp msb mno msn mbn mhr mro mv mt ml med md mi mg msd msv mbd mbv mr mu mw)) (wc := (wM cyD cyI cyJ cyZ am bv bt bl be bdp bi bg bsd bsv bbd bbv br bu bw mn mm mch msp msb mno msn mbn mhr mro mv mt ml med md mi mg msd msv mbd mbv mr mu mw)) (wr := []) (w1 := (wM cyD cyI cyJ cyZ am bv bt bl be bdp bi bg bsd bsv bbd bbv br bu bw mn mm mch msp msb mno msn mbn mhr mro mv mt ml med md mi mg msd msv mbd mbv mr mu mw)) (va_runV (As := [.int p1]) (rest := []) ⟨hx, hb, hml, hown, hts⟩ (c_X4_isWalked (l := l) (D := D) (cyD := cyD) (cyI := cyI) (cyJ := cyJ) (cyZ := cyZ) am bv bt bl be bdp bi bg bsd bsv bbd bbv br bu bw mn mm mch msp msb mno msn mbn mhr mro mv mt ml med md mi mg msd msv mbd mbv mr mu mw H.size p1) (cwV 1 hts gX4_plainBottom_X4_isWalked rfl rfl rfl (by decide +kernel) ⟨Nat.le_of_ble_eq_true rfl, Nat.le_of_ble_eq_true rfl⟩) (kV (ci := 4) (q0 := 0) (q := (RX4, TX4, 24)) hN hK hPc hDc rfl rfl rfl) rfl rfl hl.1 rfl (lv_room (Nat.le_of_ble_eq_true rfl)) dX4_plainBottom_2 ⟨Nat.le_of_ble_eq_true rfl, Nat.le_of_ble_eq_true rfl⟩) hP hD hS hA [0, 1, 2, 3, 4, 5, 6, 7, 8, 9, 10, 11, 12, 13, 14] [] [0, 1, 2, 3, 4, 5, 6, 7, 8, 9, 10, 11, 12, 13, 14] rfl rfl (by decide) (by decide) rfl (by decide) (fun H locs hz_2 hP hD hS => ?_)
  refine lv_if_eq (tgt := 14) hx hb dX4_plainBottom_5 (by decide) (fun c_5 => ?_) (fun c_5 => ?_)
  · refine lv_aload_n hx hb dX4_plainBottom_14 rfl (lv_at hl 0 rfl) ?_
    refine lv_iload_n hx hb dX4_plainBottom_15 rfl (lv_at hl 1 rfl) ?_
    refine lv_iconst (v := (-1)) hx hb dX4_plainBottom_16 (by decide) ?_
    have hPc : va_P D vwCl (wM cyD cyI cyJ cyZ am bv bt bl be bdp bi bg bsd bsv bbd bbv br bu bw mn mm mch msp msb mno msn mbn mhr mro mv mt ml med md mi mg msd msv mbd mbv mr mu mw) H := hP.sub [0, 1, 2, 3, 4, 5, 6, 7, 8, 9, 10, 11, 12, 13, 14] rfl
    have hDc : va_D A (wM cyD cyI cyJ cyZ am bv bt bl be bdp bi bg bsd bsv bbd bbv br bu bw mn mm mch msp msb mno msn mbn mhr mro mv mt ml med md mi mg msd msv mbd mbv mr mu mw) := hD.sub [0, 1, 2, 3, 4, 5, 6, 7, 8, 9, 10, 11, 12, 13, 14] (by decide) rfl
    refine kiE (ws' := (wM cyD cyI cyJ cyZ am bv bt bl be bdp bi bg bsd bsv bbd bbv br bu bw mn mm mch msp msb mno msn mbn mhr mro mv mt ml med md mi mg msd msv mbd mbv mr mu mw)) (wc := (wM cyD cyI cyJ cyZ am bv bt bl be bdp bi bg bsd bsv bbd bbv br bu bw mn mm mch msp msb mno msn mbn mhr mro mv mt ml med md mi mg msd msv mbd mbv mr mu mw)) (wr := []) (w1 := (wM cyD cyI cyJ cyZ am bv bt bl be bdp bi bg bsd bsv bbd bbv br bu bw mn mm mch msp msb mno msn mbn mhr mro mv mt ml med md mi mg msd msv mbd mbv mr mu mw)) (va_runV (As := [.int p1, .int (-1 : Int32)]) (rest := []) ⟨hx, hb, hml, hown, hts⟩ (c_X4_neighbour (l := l) (D := D) (cyD := cyD) (cyI := cyI) (cyJ := cyJ) (cyZ := cyZ) am bv bt bl be bdp bi bg bsd bsv bbd bbv br bu bw mn mm mch msp msb mno msn mbn mhr mro mv mt ml med md mi mg msd msv mbd mbv mr mu mw H.size p1 (-1 : Int32) (brM (hbM hbt c_5)).choose (brM (hbM hbt c_5)).choose_spec.choose_spec.choose_spec.1 (by have h1 := (brM (hbM hbt c_5)).choose_spec.choose_spec.choose_spec.2.2.1; have h2 := (brM (hbM hbt c_5)).choose_spec.choose_spec.choose_spec.2.2.2.1; omega) (Or.inr rfl)) (cwV 2 hts gX4_plainBottom_X4_neighbour rfl rfl rfl (by decide +kernel) ⟨Nat.le_of_ble_eq_true rfl, Nat.le_of_ble_eq_true rfl⟩) (kV (ci := 4) (q0 := 0) (q := (RX4, TX4, 24)) hN hK hPc hDc rfl rfl rfl) rfl rfl hl.1 rfl (lv_room (Nat.le_of_ble_eq_true rfl)) dX4_plainBottom_17 ⟨Nat.le_of_ble_eq_true rfl, Nat.le_of_ble_eq_true rfl⟩) hP hD hS hA [0, 1, 2, 3, 4, 5, 6, 7, 8, 9, 10, 11, 12, 13, 14] [] [0, 1, 2, 3, 4, 5, 6, 7, 8, 9, 10, 11, 12, 13, 14] rfl rfl (by decide) (by decide) rfl (by decide) (fun H locs hP hD hS => ?_)
    refine lv_istore_n (lv' := [(2, .int (fX4_neighbour mhr mr p1 (-1 : Int32))), (0, .ref am), (1, .int p1)]) hx hb dX4_plainBottom_20 rfl hl (by decide) rfl (fun ls hl => ?_)
    refine lv_aload_n hx hb dX4_plainBottom_21 rfl (lv_at hl 1 rfl) ?_
    refine lv_iload_n hx hb dX4_plainBottom_22 rfl (lv_at hl 2 rfl) ?_
    refine lv_iconst (v := 1) hx hb dX4_plainBottom_23 (by decide) ?_
    have hPc : va_P D vwCl (wM cyD cyI cyJ cyZ am bv bt bl be bdp bi bg bsd bsv bbd bbv br bu bw mn mm mch msp msb mno msn mbn mhr mro mv mt ml med md mi mg msd msv mbd mbv mr mu mw) H := hP.sub [0, 1, 2, 3, 4, 5, 6, 7, 8, 9, 10, 11, 12, 13, 14] rfl
    have hDc : va_D A (wM cyD cyI cyJ cyZ am bv bt bl be bdp bi bg bsd bsv bbd bbv br bu bw mn mm mch msp msb mno msn mbn mhr mro mv mt ml med md mi mg msd msv mbd mbv mr mu mw) := hD.sub [0, 1, 2, 3, 4, 5, 6, 7, 8, 9, 10, 11, 12, 13, 14] (by decide) rfl
    refine kiE (ws' := (wM cyD cyI cyJ cyZ am bv bt bl be bdp bi bg bsd bsv bbd bbv br bu bw mn mm mch msp msb mno msn mbn mhr mro mv mt ml med md mi mg msd msv mbd mbv mr mu mw)) (wc := (wM cyD cyI cyJ cyZ am bv bt bl be bdp bi bg bsd bsv bbd bbv br bu bw mn mm mch msp msb mno msn mbn mhr mro mv mt ml med md mi mg msd msv mbd mbv mr mu mw)) (wr := []) (w1 := (wM cyD cyI cyJ cyZ am bv bt bl be bdp bi bg bsd bsv bbd bbv br bu bw mn mm mch msp msb mno msn mbn mhr mro mv mt ml med md mi mg msd msv mbd mbv mr mu mw)) (va_runV (As := [.int p1, .int (1 : Int32)]) (rest := []) ⟨hx, hb, hml, hown, hts⟩ (c_X4_neighbour (l := l) (D := D) (cyD := cyD) (cyI := cyI) (cyJ := cyJ) (cyZ := cyZ) am bv bt bl be bdp bi bg bsd bsv bbd bbv br bu bw mn mm mch msp msb mno msn mbn mhr mro mv mt ml med md mi mg msd msv mbd mbv mr mu mw H.size p1 (1 : Int32) (brM (hbM hbt c_5)).choose (brM (hbM hbt c_5)).choose_spec.choose_spec.choose_spec.1 (by have h1 := (brM (hbM hbt c_5)).choose_spec.choose_spec.choose_spec.2.2.1; have h2 := (brM (hbM hbt c_5)).choose_spec.choose_spec.choose_spec.2.2.2.1; omega) (Or.inl rfl)) (cwV 2 hts gX4_plainBottom_X4_neighbour rfl rfl rfl (by decide +kernel) ⟨Nat.le_of_ble_eq_true rfl, Nat.le_of_ble_eq_true rfl⟩) (kV (ci := 4) (q0 := 0) (q := (RX4, TX4, 24)) hN hK hPc hDc rfl rfl rfl) rfl rfl hl.1 rfl (lv_room (Nat.le_of_ble_eq_true rfl)) dX4_plainBottom_24 ⟨Nat.le_of_ble_eq_true rfl, Nat.le_of_ble_eq_true rfl⟩) hP hD hS hA [0, 1, 2, 3, 4, 5, 6, 7, 8, 9, 10, 11, 12, 13, 14] [] [0, 1, 2, 3, 4, 5, 6, 7, 8, 9, 10, 11, 12, 13, 14] rfl rfl (by decide) (by decide) rfl (by decide) (fun H locs hP hD hS => ?_)
    refine lv_istore_n (lv' := [(3, .int (fX4_neighbour mhr mr p1 (1 : Int32))), (2, .int (fX4_neighbour mhr mr p1 (-1 : Int32))), (0, .ref am), (1, .int p1)]) hx hb dX4_plainBottom_27 rfl hl (by decide) rfl (fun ls hl => ?_)
    refine lv_aload_n hx hb dX4_plainBottom_28 rfl (lv_at hl 2 rfl) ?_
    refine lv_iload_n hx hb dX4_plainBottom_29 rfl (lv_at hl 1 rfl) ?_
    have hPc : va_P D vwCl (wM cyD cyI cyJ cyZ am bv bt bl be bdp bi bg bsd bsv bbd bbv br bu bw mn mm mch msp msb mno msn mbn mhr mro mv mt ml med md mi mg msd msv mbd mbv mr mu mw) H := hP.sub [0, 1, 2, 3, 4, 5, 6, 7, 8, 9, 10, 11, 12, 13, 14] rfl
    have hDc : va_D A (wM cyD cyI cyJ cyZ am bv bt bl be bdp bi bg bsd bsv bbd bbv br bu bw mn mm mch msp msb mno msn mbn mhr mro mv mt ml med md mi mg msd msv mbd mbv mr mu mw) := hD.sub [0, 1, 2, 3, 4, 5, 6, 7, 8, 9, 10, 11, 12, 13, 14] (by decide) rfl
    refine kdE (ws' := (wM cyD cyI cyJ cyZ am bv bt bl be bdp bi bg bsd bsv bbd bbv br bu bw mn mm mch msp msb mno msn mbn mhr mro mv mt ml med md mi mg msd msv mbd mbv mr mu mw)) (wc := (wM cyD cyI cyJ cyZ am bv bt bl be bdp bi bg bsd bsv bbd bbv br bu bw mn mm mch msp msb mno msn mbn mhr mro mv mt ml med md mi mg msd msv mbd mbv mr mu mw)) (wr := []) (w1 := (wM cyD cyI cyJ cyZ am bv bt bl be bdp bi bg bsd bsv bbd bbv br bu bw mn mm mch msp msb mno msn mbn mhr mro mv mt ml med md mi mg msd msv mbd mbv mr mu mw)) (va_runV (As := [.int (fX4_neighbour mhr mr p1 (-1 : Int32))]) (rest := []) ⟨hx, hb, hml, hown, hts⟩ (c_X4_walkedDepth (l := l) (D := D) (cyD := cyD) (cyI := cyI) (cyJ := cyJ) (cyZ := cyZ) am bv bt bl be bdp bi bg bsd bsv bbd bbv br bu bw mn mm mch msp msb mno msn mbn mhr mro mv mt ml med md mi mg msd msv mbd mbv mr mu mw H.size (fX4_neighbour mhr mr p1 (-1 : Int32)) hM (brM (hbM hbt c_5)).choose_spec.choose (brM (hbM hbt c_5)).choose_spec.choose_spec.choose_spec.2.2.2.2.1 (by have h1 := (brM (hbM hbt c_5)).choose_spec.choose_spec.choose_spec.2.1; have h2 := (brM (hbM hbt c_5)).choose_spec.choose_spec.choose_spec.2.2.1; have h3 := (brM (hbM hbt c_5)).choose_spec.choose_spec.choose_spec.2.2.2.1; omega)) (cwV 1 hts gX4_plainBottom_X4_walkedDepth rfl rfl rfl (by decide +kernel) ⟨Nat.le_of_ble_eq_true rfl, Nat.le_of_ble_eq_true rfl⟩) (kV (ci := 4) (q0 := 0) (q := (RX4, TX4, 24)) hN hK hPc hDc rfl rfl rfl) rfl rfl hl.1 rfl (lv_room (Nat.le_of_ble_eq_true rfl)) dX4_plainBottom_30 ⟨Nat.le_of_ble_eq_true rfl, Nat.le_of_ble_eq_true rfl⟩) hP hD hS hA [0, 1, 2, 3, 4, 5, 6, 7, 8, 9, 10, 11, 12, 13, 14] [] [0, 1, 2, 3, 4, 5, 6, 7, 8, 9, 10, 11, 12, 13, 14] rfl rfl (by decide) (by decide) rfl (by decide) (fun H locs hP hD hS => ?_)
    refine lv_dstore (lv' := [(4, .double (fX4_walkedDepth mm med md mr (fX4_neighbour mhr mr p1 (-1 : Int32)))), (3, .int (fX4_neighbour mhr mr p1 (1 : Int32))), (2, .int (fX4_neighbour mhr mr p1 (-1 : Int32))), (0, .ref am), (1, .int p1)]) hx hb dX4_plainBottom_33 hl (by decide) rfl (fun ls hl => ?_)
    refine lv_aload_n hx hb dX4_plainBottom_35 rfl (lv_at hl 3 rfl) ?_
    refine lv_iload_n hx hb dX4_plainBottom_36 rfl (lv_at hl 1 rfl) ?_
    have hPc : va_P D vwCl (wM cyD cyI cyJ cyZ am bv bt bl be bdp bi bg bsd bsv bbd bbv br bu bw mn mm mch msp msb mno msn mbn mhr mro mv mt ml med md mi mg msd msv mbd mbv mr mu mw) H := hP.sub [0, 1, 2, 3, 4, 5, 6, 7, 8, 9, 10, 11, 12, 13, 14] rfl
    have hDc : va_D A (wM cyD cyI cyJ cyZ am bv bt bl be bdp bi bg bsd bsv bbd bbv br bu bw mn mm mch msp msb mno msn mbn mhr mro mv mt ml med md mi mg msd msv mbd mbv mr mu mw) := hD.sub [0, 1, 2, 3, 4, 5, 6, 7, 8, 9, 10, 11, 12, 13, 14] (by decide) rfl
    refine kdE (ws' := (wM cyD cyI cyJ cyZ am bv bt bl be bdp bi bg bsd bsv bbd bbv br bu bw mn mm mch msp msb mno msn mbn mhr mro mv mt ml med md mi mg msd msv mbd mbv mr mu mw)) (wc := (wM cyD cyI cyJ cyZ am bv bt bl be bdp bi bg bsd bsv bbd bbv br bu bw mn mm mch msp msb mno msn mbn mhr mro mv mt ml med md mi mg msd msv mbd mbv mr mu mw)) (wr := []) (w1 := (wM cyD cyI cyJ cyZ am bv bt bl be bdp bi bg bsd bsv bbd bbv br bu bw mn mm mch msp msb mno msn mbn mhr mro mv mt ml med md mi mg msd msv mbd mbv mr mu mw)) (va_runV (As := [.int (fX4_neighbour mhr mr p1 (1 : Int32))]) (rest := []) ⟨hx, hb, hml, hown, hts⟩ (c_X4_walkedDepth (l := l) (D := D) (cyD := cyD) (cyI := cyI) (cyJ := cyJ) (cyZ := cyZ) am bv bt bl be bdp bi bg bsd bsv bbd bbv br bu bw mn mm mch msp msb mno msn mbn mhr mro mv mt ml med md mi mg msd msv mbd mbv mr mu mw H.size (fX4_neighbour mhr mr p1 (1 : Int32)) hM (brM (hbM hbt c_5)).choose_spec.choose_spec.choose (brM (hbM hbt c_5)).choose_spec.choose_spec.choose_spec.2.2.2.2.2.1 (brM (hbM hbt c_5)).choose_spec.choose_spec.choose_spec.2.2.2.1) (cwV 1 hts gX4_plainBottom_X4_walkedDepth rfl rfl rfl (by decide +kernel) ⟨Nat.le_of_ble_eq_true rfl, Nat.le_of_ble_eq_true rfl⟩) (kV (ci := 4) (q0 := 0) (q := (RX4, TX4, 24)) hN hK hPc hDc rfl rfl rfl) rfl rfl hl.1 rfl (lv_room (Nat.le_of_ble_eq_true rfl)) dX4_plainBottom_37 ⟨Nat.le_of_ble_eq_true rfl, Nat.le_of_ble_eq_true rfl⟩) hP hD hS hA [0, 1, 2, 3, 4, 5, 6, 7, 8, 9, 10, 11, 12, 13, 14] [] [0, 1, 2, 3, 4, 5, 6, 7, 8, 9, 10, 11, 12, 13, 14] rfl rfl (by decide) (by decide) rfl (by decide) (fun H locs hP hD hS => ?_)
    refine lv_dstore (lv' := [(6, .double (fX4_walkedDepth mm med md mr (fX4_neighbour mhr mr p1 (1 : Int32)))), (4, .double (fX4_walkedDepth mm med md mr (fX4_neighbour mhr mr p1 (-1 : Int32)))), (3, .int (fX4_neighbour mhr mr p1 (1 : Int32))), (2, .int (fX4_neighbour mhr mr p1 (-1 : Int32))), (0, .ref am), (1, .int p1)]) hx hb dX4_plainBottom_40 hl (by decide) rfl (fun ls hl => ?_)
    refine lv_iload_n hx hb dX4_plainBottom_42 rfl (lv_at hl 5 rfl) ?_
    refine lv_iload_n hx hb dX4_plainBottom_43 rfl (lv_at hl 3 rfl) ?_
    refine lv_isub hx hb dX4_plainBottom_44 ?_
    refine lv_istore (lv' := [(8, .int (p1 - (fX4_neighbour mhr mr p1 (-1 : Int32)))), (6, .double (fX4_walkedDepth mm med md mr (fX4_neighbour mhr mr p1 (1 : Int32)))), (4, .double (fX4_walkedDepth mm med md mr (fX4_neighbour mhr mr p1 (-1 : Int32)))), (3, .int (fX4_neighbour mhr mr p1 (1 : Int32))), (2, .int (fX4_neighbour mhr mr p1 (-1 : Int32))), (0, .ref am), (1, .int p1)]) hx hb dX4_plainBottom_45 hl (by decide) rfl (fun ls hl => ?_)
    refine lv_iload_n hx hb dX4_plainBottom_47 rfl (lv_at hl 3 rfl) ?_
    refine lv_iload_n hx hb dX4_plainBottom_48 rfl (lv_at hl 4 rfl) ?_
    refine lv_isub hx hb dX4_plainBottom_49 ?_
    refine lv_istore (lv' := [(9, .int ((fX4_neighbour mhr mr p1 (1 : Int32)) - (fX4_neighbour mhr mr p1 (-1 : Int32)))), (8, .int (p1 - (fX4_neighbour mhr mr p1 (-1 : Int32)))), (6, .double (fX4_walkedDepth mm med md mr (fX4_neighbour mhr mr p1 (1 : Int32)))), (4, .double (fX4_walkedDepth mm med md mr (fX4_neighbour mhr mr p1 (-1 : Int32)))), (3, .int (fX4_neighbour mhr mr p1 (1 : Int32))), (2, .int (fX4_neighbour mhr mr p1 (-1 : Int32))), (0, .ref am), (1, .int p1)]) hx hb dX4_plainBottom_50 hl (by decide) rfl (fun ls hl => ?_)
    refine lv_dload hx hb dX4_plainBottom_52 (lv_at hl 3 rfl) ?_
    refine lv_dload hx hb dX4_plainBottom_54 (lv_at hl 2 rfl) ?_
    refine lv_dload hx hb dX4_plainBottom_56 (lv_at hl 3 rfl) ?_
    refine lv_dsub hx hb dX4_plainBottom_58 (bd_n (bd_sub (Ka := 1064) (Kb := 1064) (K := 1066) (wdM_bd hM.2.2.1 hmd (brM (hbM hbt c_5)).choose_spec.choose_spec.choose_spec.2.2.2.2.2.1 (brM (hbM hbt c_5)).choose_spec.choose_spec.choose_spec.2.2.2.1) (wdM_bd hM.2.2.1 hmd (brM (hbM hbt c_5)).choose_spec.choose_spec.choose_spec.2.2.2.2.1 (by have h1 := (brM (hbM hbt c_5)).choose_spec.choose_spec.choose_spec.2.1; have h2 := (brM (hbM hbt c_5)).choose_spec.choose_spec.choose_spec.2.2.1; have h3 := (brM (hbM hbt c_5)).choose_spec.choose_spec.choose_spec.2.2.2.1; omega)) (by decide) (by decide) (by decide) (by decide)) (by decide)) ?_
    refine lv_iload hx hb dX4_plainBottom_59 (lv_at hl 1 rfl) ?_
    refine lv_i2d hx hb dX4_plainBottom_61 ?_
    refine lv_dmul hx hb dX4_plainBottom_62 (bd_n (bd_mul (Ka := 1066) (Kb := 1056) (K := 1100) (bd_sub (Ka := 1064) (Kb := 1064) (K := 1066) (wdM_bd hM.2.2.1 hmd (brM (hbM hbt c_5)).choose_spec.choose_spec.choose_spec.2.2.2.2.2.1 (brM (hbM hbt c_5)).choose_spec.choose_spec.choose_spec.2.2.2.1) (wdM_bd hM.2.2.1 hmd (brM (hbM hbt c_5)).choose_spec.choose_spec.choose_spec.2.2.2.2.1 (by have h1 := (brM (hbM hbt c_5)).choose_spec.choose_spec.choose_spec.2.1; have h2 := (brM (hbM hbt c_5)).choose_spec.choose_spec.choose_spec.2.2.1; have h3 := (brM (hbM hbt c_5)).choose_spec.choose_spec.choose_spec.2.2.2.1; omega)) (by decide) (by decide) (by decide) (by decide)) (bd_i2d _) (by decide) (by decide) (by decide)) (by decide)) ?_
    refine lv_iload hx hb dX4_plainBottom_63 (lv_at hl 0 rfl) ?_
    refine lv_i2d hx hb dX4_plainBottom_65 ?_
    refine lv_ddiv hx hb dX4_plainBottom_66 (bd_n (brM_div (hbM hbt c_5) (bd_mul (Ka := 1066) (Kb := 1056) (K := 1100) (bd_sub (Ka := 1064) (Kb := 1064) (K := 1066) (wdM_bd hM.2.2.1 hmd (brM (hbM hbt c_5)).choose_spec.choose_spec.choose_spec.2.2.2.2.2.1 (brM (hbM hbt c_5)).choose_spec.choose_spec.choose_spec.2.2.2.1) (wdM_bd hM.2.2.1 hmd (brM (hbM hbt c_5)).choose_spec.choose_spec.choose_spec.2.2.2.2.1 (by have h1 := (brM (hbM hbt c_5)).choose_spec.choose_spec.choose_spec.2.1; have h2 := (brM (hbM hbt c_5)).choose_spec.choose_spec.choose_spec.2.2.1; have h3 := (brM (hbM hbt c_5)).choose_spec.choose_spec.choose_spec.2.2.2.1; omega)) (by decide) (by decide) (by decide) (by decide)) (bd_i2d _) (by decide) (by decide) (by decide))) (by decide)) ?_
    refine lv_dadd hx hb dX4_plainBottom_67 (bd_n (bd_add (Ka := 1064) (Kb := 1101) (K := 1103) (wdM_bd hM.2.2.1 hmd (brM (hbM hbt c_5)).choose_spec.choose_spec.choose_spec.2.2.2.2.1 (by have h1 := (brM (hbM hbt c_5)).choose_spec.choose_spec.choose_spec.2.1; have h2 := (brM (hbM hbt c_5)).choose_spec.choose_spec.choose_spec.2.2.1; have h3 := (brM (hbM hbt c_5)).choose_spec.choose_spec.choose_spec.2.2.2.1; omega)) (brM_div (hbM hbt c_5) (bd_mul (Ka := 1066) (Kb := 1056) (K := 1100) (bd_sub (Ka := 1064) (Kb := 1064) (K := 1066) (wdM_bd hM.2.2.1 hmd (brM (hbM hbt c_5)).choose_spec.choose_spec.choose_spec.2.2.2.2.2.1 (brM (hbM hbt c_5)).choose_spec.choose_spec.choose_spec.2.2.2.1) (wdM_bd hM.2.2.1 hmd (brM (hbM hbt c_5)).choose_spec.choose_spec.choose_spec.2.2.2.2.1 (by have h1 := (brM (hbM hbt c_5)).choose_spec.choose_spec.choose_spec.2.1; have h2 := (brM (hbM hbt c_5)).choose_spec.choose_spec.choose_spec.2.2.1; have h3 := (brM (hbM hbt c_5)).choose_spec.choose_spec.choose_spec.2.2.2.1; omega)) (by decide) (by decide) (by decide) (by decide)) (bd_i2d _) (by decide) (by decide) (by decide))) (by decide) (by decide) (by decide) (by decide)) (by decide)) ?_
    have hF9 : (fX4_plainBottom mm mhr med md mr p1) = (FP.dadd (fX4_walkedDepth mm med md mr (fX4_neighbour mhr mr p1 (-1 : Int32))) (FP.ddiv (FP.dmul (FP.dsub (fX4_walkedDepth mm med md mr (fX4_neighbour mhr mr p1 (1 : Int32))) (fX4_walkedDepth mm med md mr (fX4_neighbour mhr mr p1 (-1 : Int32)))) (FP.i2d (p1 - (fX4_neighbour mhr mr p1 (-1 : Int32))))) (FP.i2d ((fX4_neighbour mhr mr p1 (1 : Int32)) - (fX4_neighbour mhr mr p1 (-1 : Int32)))))) := by rw [fX4_plainBottom, if_pos c_5]
    have hP9 : va_P D vwCl (wM cyD cyI cyJ cyZ am bv bt bl be bdp bi bg bsd bsv bbd bbv br bu bw mn mm mch msp msb mno msn mbn mhr mro mv mt ml med md mi mg msd msv mbd mbv mr mu mw) H := hP
    have hD9 : va_D A (wM cyD cyI cyJ cyZ am bv bt bl be bdp bi bg bsd bsv bbd bbv br bu bw mn mm mch msp msb mno msn mbn mhr mro mv mt ml med md mi mg msd msv mbd mbv mr mu mw) := hD
    exact W.dret (v := (FP.dadd (fX4_walkedDepth mm med md mr (fX4_neighbour mhr mr p1 (-1 : Int32))) (FP.ddiv (FP.dmul (FP.dsub (fX4_walkedDepth mm med md mr (fX4_neighbour mhr mr p1 (1 : Int32))) (fX4_walkedDepth mm med md mr (fX4_neighbour mhr mr p1 (-1 : Int32)))) (FP.i2d (p1 - (fX4_neighbour mhr mr p1 (-1 : Int32))))) (FP.i2d ((fX4_neighbour mhr mr p1 (1 : Int32)) - (fX4_neighbour mhr mr p1 (-1 : Int32))))))) hx hb hr (fun t ht hW => ⟨⟨(FP.dadd (fX4_walkedDepth mm med md mr (fX4_neighbour mhr mr p1 (-1 : Int32))) (FP.ddiv (FP.dmul (FP.dsub (fX4_walkedDepth mm med md mr (fX4_neighbour mhr mr p1 (1 : Int32))) (fX4_walkedDepth mm med md mr (fX4_neighbour mhr mr p1 (-1 : Int32)))) (FP.i2d (p1 - (fX4_neighbour mhr mr p1 (-1 : Int32))))) (FP.i2d ((fX4_neighbour mhr mr p1 (1 : Int32)) - (fX4_neighbour mhr mr p1 (-1 : Int32)))))), (), rfl, (by rw [hF9]), by rw [ht]; exact hP9, va_K.moved hW.alike hK, hD9⟩, hS.F ht⟩) hS.2.2 dX4_plainBottom_68
  refine lv_aload_n hx hb dX4_plainBottom_8 rfl (lv_at hl 0 rfl) ?_
  refine lv_iload_n hx hb dX4_plainBottom_9 rfl (lv_at hl 1 rfl) ?_
  have hPc : va_P D vwCl (wM cyD cyI cyJ cyZ am bv bt bl be bdp bi bg bsd bsv bbd bbv br bu bw mn mm mch msp msb mno msn mbn mhr mro mv mt ml med md mi mg msd msv mbd mbv mr mu mw) H := hP.sub [0, 1, 2, 3, 4, 5, 6, 7, 8, 9, 10, 11, 12, 13, 14] rfl
  have hDc : va_D A (wM cyD cyI cyJ cyZ am bv bt bl be bdp bi bg bsd bsv bbd bbv br bu bw mn mm mch msp msb mno msn mbn mhr mro mv mt ml med md mi mg msd msv mbd mbv mr mu mw) := hD.sub [0, 1, 2, 3, 4, 5, 6, 7, 8, 9, 10, 11, 12, 13, 14] (by decide) rfl
  refine kdE (ws' := (wM cyD cyI cyJ cyZ am bv bt bl be bdp bi bg bsd bsv bbd bbv br bu bw mn mm mch msp msb mno msn mbn mhr mro mv mt ml med md mi mg msd msv mbd mbv mr mu mw)) (wc := (wM cyD cyI cyJ cyZ am bv bt bl be bdp bi bg bsd bsv bbd bbv br bu bw mn mm mch msp msb mno msn mbn mhr mro mv mt ml med md mi mg msd msv mbd mbv mr mu mw)) (wr := []) (w1 := (wM cyD cyI cyJ cyZ am bv bt bl be bdp bi bg bsd bsv bbd bbv br bu bw mn mm mch msp msb mno msn mbn mhr mro mv mt ml med md mi mg msd msv mbd mbv mr mu mw)) (va_runV (As := [.int p1]) (rest := []) ⟨hx, hb, hml, hown, hts⟩ (c_X4_walkedDepth (l := l) (D := D) (cyD := cyD) (cyI := cyI) (cyJ := cyJ) (cyZ := cyZ) am bv bt bl be bdp bi bg bsd bsv bbd bbv br bu bw mn mm mch msp msb mno msn mbn mhr mro mv mt ml med md mi mg msd msv mbd mbv mr mu mw H.size p1 hM (wkM c_5).choose (wkM c_5).choose_spec.1 (wkM c_5).choose_spec.2.1) (cwV 1 hts gX4_plainBottom_X4_walkedDepth rfl rfl rfl (by decide +kernel) ⟨Nat.le_of_ble_eq_true rfl, Nat.le_of_ble_eq_true rfl⟩) (kV (ci := 4) (q0 := 0) (q := (RX4, TX4, 24)) hN hK hPc hDc rfl rfl rfl) rfl rfl hl.1 rfl (lv_room (Nat.le_of_ble_eq_true rfl)) dX4_plainBottom_10 ⟨Nat.le_of_ble_eq_true rfl, Nat.le_of_ble_eq_true rfl⟩) hP hD hS hA [0, 1, 2, 3, 4, 5, 6, 7, 8, 9, 10, 11, 12, 13, 14] [] [0, 1, 2, 3, 4, 5, 6, 7, 8, 9, 10, 11, 12, 13, 14] rfl rfl (by decide) (by decide) rfl (by decide) (fun H locs hP hD hS => ?_)
  have hF9 : (fX4_plainBottom mm mhr med md mr p1) = (fX4_walkedDepth mm med md mr p1) := by rw [fX4_plainBottom, if_neg c_5]
  have hP9 : va_P D vwCl (wM cyD cyI cyJ cyZ am bv bt bl be bdp bi bg bsd bsv bbd bbv br bu bw mn mm mch msp msb mno msn mbn mhr mro mv mt ml med md mi mg msd msv mbd mbv mr mu mw) H := hP
  have hD9 : va_D A (wM cyD cyI cyJ cyZ am bv bt bl be bdp bi bg bsd bsv bbd bbv br bu bw mn mm mch msp msb mno msn mbn mhr mro mv mt ml med md mi mg msd msv mbd mbv mr mu mw) := hD
  exact W.dret (v := (fX4_walkedDepth mm med md mr p1)) hx hb hr (fun t ht hW => ⟨⟨(fX4_walkedDepth mm med md mr p1), (), rfl, (by rw [hF9]), by rw [ht]; exact hP9, va_K.moved hW.alike hK, hD9⟩, hS.F ht⟩) hS.2.2 dX4_plainBottom_13
theorem pbM_bd {mn : Nat} {mm : UInt64} {mhr : Int32} {med mr : Nat → Int32} {md : Nat → UInt64} (hm : bd 1030 mm) (hmd : ∀ i, i < 32 → bd 1037 (md i)) {p1 : Int32} (hbt : ¬ fX4_hasBottom mhr mr p1 = 0) : bd 1103 (fX4_plainBottom mm mhr med md mr p1) := by
  unfold fX4_plainBottom
  by_cases c_5 : fX4_isWalked mhr mr p1 = 0
  · rw [if_pos c_5]; exact (bd_add (Ka := 1064) (Kb := 1101) (K := 1103) (wdM_bd hm hmd (brM (hbM hbt c_5)).choose_spec.choose_spec.choose_spec.2.2.2.2.1 (by have h1 := (brM (hbM hbt c_5)).choose_spec.choose_spec.choose_spec.2.1; have h2 := (brM (hbM hbt c_5)).choose_spec.choose_spec.choose_spec.2.2.1; have h3 := (brM (hbM hbt c_5)).choose_spec.choose_spec.choose_spec.2.2.2.1; omega)) (brM_div (hbM hbt c_5) (bd_mul (Ka := 1066) (Kb := 1056) (K := 1100) (bd_sub (Ka := 1064) (Kb := 1064) (K := 1066) (wdM_bd hm hmd (brM (hbM hbt c_5)).choose_spec.choose_spec.choose_spec.2.2.2.2.2.1 (brM (hbM hbt c_5)).choose_spec.choose_spec.choose_spec.2.2.2.1) (wdM_bd hm hmd (brM (hbM hbt c_5)).choose_spec.choose_spec.choose_spec.2.2.2.2.1 (by have h1 := (brM (hbM hbt c_5)).choose_spec.choose_spec.choose_spec.2.1; have h2 := (brM (hbM hbt c_5)).choose_spec.choose_spec.choose_spec.2.2.1; have h3 := (brM (hbM hbt c_5)).choose_spec.choose_spec.choose_spec.2.2.2.1; omega)) (by decide) (by decide) (by decide) (by decide)) (bd_i2d _) (by decide) (by decide) (by decide))) (by decide) (by decide) (by decide) (by decide))
  · rw [if_neg c_5]; exact bd_up (wdM_bd hm hmd (wkM c_5).choose_spec.1 (wkM c_5).choose_spec.2.1) (by decide)
def fX4_bottom (mm : UInt64) (mhr : Int32) (med : Nat → Int32) (md : Nat → UInt64) (mi : Nat → UInt64) (mr : Nat → Int32) (p1 : Int32) : UInt64 := if (fX4_hasBottom mhr mr p1) = 0 then (13830554455654793216 : UInt64) else ((FP.dadd (fX4_plainBottom mm mhr med md mr p1) (mi p1.toNatClampNeg)))
set_option maxHeartbeats 4000000 in
set_option maxRecDepth 100000 in
theorem c_X4_bottom {l : Launch} {D : va_G} {cyD cyI cyJ cyZ : ClassId} (am bv bt bl be bdp bi bg bsd bsv bbd bbv br bu bw : Nat) (mn : Nat) (mm : UInt64) (mch : Int32) (msp : UInt64) (msb : UInt64) (mno : UInt64) (msn : Int32) (mbn : Int32) (mhr : Int32) (mro : Int32) (mv : Nat → UInt64) (mt : Nat → Int32) (ml : Nat → Int32) (med : Nat → Int32) (md : Nat → UInt64) (mi : Nat → UInt64) (mg : Nat → UInt64) (msd : Nat → UInt64) (msv : Nat → UInt64) (mbd : Nat → UInt64) (mbv : Nat → UInt64) (mr : Nat → Int32) (mu : Nat → Int64) (mw : Nat → Int32) (sz : Nat) (p1 : Int32) (hM : okM mn mm msp msb mno mv) (hmd : ∀ i, i < 32 → bd 1037 (md i)) (hmi : ∀ i, i < 32 → bd 1028 (mi i)) : mD l yX4_bottom wsX4_bottom ({ frames := 5, cells := 0, slots := 0, locals := 108 } : Room) D (kT cyD cyI cyJ cyZ) [.ref am, .int p1] (wM cyD cyI cyJ cyZ am bv bt bl be bdp bi bg bsd bsv bbd bbv br bu bw mn mm mch msp msb mno msn mbn mhr mro mv mt ml med md mi mg msd msv mbd mbv mr mu mw) (wM cyD cyI cyJ cyZ am bv bt bl be bdp bi bg bsd bsv bbd bbv br bu bw mn mm mch msp msb mno msn mbn mhr mro mv mt ml med md mi mg msd msv mbd mbv mr mu mw) sz (fX4_bottom mm mhr med md mi mr p1) 0 0 := by
  refine Met.ofW (cc := cX4_bottom) (maxL := 2) (ret := (some .double)) (by decide) rfl ?_
  intro p e s m args below meth c s₁ B hml hv
  obtain ⟨rfl, hN, hsz, hP, hK, hD0⟩ := hv
  have hx := B.exec
  have hb := B.bytes
  have hr := B.returns
  have hts := atoms_spec (ws := wsX4_bottom) B.pre
  have hown : s.vm.findClass RX4 = some m.cls := findClass_of_methodNamed B.named
  have hlocks := B.notSynchronized
  subst hsz
  have hD := hD0.self (sz := s.heap.size)
  generalize hAe : va_A (wM cyD cyI cyJ cyZ am bv bt bl be bdp bi bg bsd bsv bbd bbv br bu bw mn mm mch msp msb mno msn mbn mhr mro mv mt ml med md mi mg msd msv mbd mbv mr mu mw) s.heap.size = A at hD ⊢
  have hA : ∀ q : Nat, s.heap.size ≤ q → A q := fun q h => by rw [← hAe]; exact Or.inr h
  have hS : va_S A s.heap s.heap [] := va_S.rf
  have hP : va_P D vwCl (wM cyD cyI cyJ cyZ am bv bt bl be bdp bi bg bsd bsv bbd bbv br bu bw mn mm mch msp msb mno msn mbn mhr mro mv mt ml med md mi mg msd msv mbd mbv mr mu mw) s.heap := hP
  have hl := lv_entry [.ref am, .int p1] (n := 2) (Nat.le_of_ble_eq_true rfl)
  rw [lg_entry_eq]
  generalize (lg_sl [.ref am, .int p1] ++ List.replicate (2 - (lg_sl [.ref am, .int p1]).length) Slot.unset).toArray = ls at hl ⊢
  have hl : lv_has ls 2 [(0, .ref am), (1, .int p1)] := hl
  obtain ⟨H, hHe⟩ : ∃ H : Heap, H = s.heap := ⟨_, rfl⟩
  have hP : va_P D vwCl (wM cyD cyI cyJ cyZ am bv bt bl be bdp bi bg bsd bsv bbd bbv br bu bw mn mm mch msp msb mno msn mbn mhr mro mv mt ml med md mi mg msd msv mbd mbv mr mu mw) H := by rw [hHe]; exact hP
  have hS : va_S A s.heap H [] := by rw [hHe]; exact hS
  rw [← hHe]
  refine lv_aload_n hx hb dX4_bottom_0 rfl (lv_at hl 0 rfl) ?_
  refine lv_iload_n hx hb dX4_bottom_1 rfl (lv_at hl 1 rfl) ?_
  have hPc : va_P D vwCl (wM cyD cyI cyJ cyZ am bv bt bl be bdp bi bg bsd bsv bbd bbv br bu bw mn mm mch msp msb mno msn mbn mhr mro mv mt ml med md mi mg msd msv mbd mbv mr mu mw) H := hP.sub [0, 1, 2, 3, 4, 5, 6, 7, 8, 9, 10, 11, 12, 13, 14] rfl
  have hDc : va_D A (wM cyD cyI cyJ cyZ am bv bt bl be bdp bi bg bsd bsv bbd bbv br bu bw mn mm mch msp msb mno msn mbn mhr mro mv mt ml med md mi mg msd msv mbd mbv mr mu mw) := hD.sub [0, 1, 2, 3, 4, 5, 6, 7, 8, 9, 10, 11, 12, 13, 14] (by decide) rfl
  refine kzE (ws' := (wM cyD cyI cyJ cyZ am bv bt bl be bdp bi bg bsd bsv bbd bbv br bu bw mn mm mch msp msb mno msn mbn mhr mro mv mt ml med md mi mg msd msv mbd mbv mr mu mw)) (wc := (wM cyD cyI cyJ cyZ am bv bt bl be bdp bi bg bsd bsv bbd bbv br bu bw mn mm mch msp msb mno msn mbn mhr mro mv mt ml med md mi mg msd msv mbd mbv mr mu mw)) (wr := []) (w1 := (wM cyD cyI cyJ cyZ am bv bt bl be bdp bi bg bsd bsv bbd bbv br bu bw mn mm mch msp msb mno msn mbn mhr mro mv mt ml med md mi mg msd msv mbd mbv mr mu mw)) (va_runV (As := [.int p1]) (rest := []) ⟨hx, hb, hml, hown, hts⟩ (c_X4_hasBottom (l := l) (D := D) (cyD := cyD) (cyI := cyI) (cyJ := cyJ) (cyZ := cyZ) am bv bt bl be bdp bi bg bsd bsv bbd bbv br bu bw mn mm mch msp msb mno msn mbn mhr mro mv mt ml med md mi mg msd msv mbd mbv mr mu mw H.size p1) (cwV 1 hts gX4_bottom_X4_hasBottom rfl rfl rfl (by decide +kernel) ⟨Nat.le_of_ble_eq_true rfl, Nat.le_of_ble_eq_true rfl⟩) (kV (ci := 4) (q0 := 0) (q := (RX4, TX4, 24)) hN hK hPc hDc rfl rfl rfl) rfl rfl hl.1 rfl (lv_room (Nat.le_of_ble_eq_true rfl)) dX4_bottom_2 ⟨Nat.le_of_ble_eq_true rfl, Nat.le_of_ble_eq_true rfl⟩) hP hD hS hA [0, 1, 2, 3, 4, 5, 6, 7, 8, 9, 10, 11, 12, 13, 14] [] [0, 1, 2, 3, 4, 5, 6, 7, 8, 9, 10, 11, 12, 13, 14] rfl rfl (by decide) (by decide) rfl (by decide) (fun H locs hz_2 hP hD hS => ?_)
  refine lv_if_eq (tgt := 23) hx hb dX4_bottom_5 (by decide) (fun c_5 => ?_) (fun c_5 => ?_)
  · refine lv_ldc2d (v := 13830554455654793216) hx hb hown (hts (.constantDouble RX4 158 (13830554455654793216)) (List.mem_of_getElem? (i := 2) rfl)) dX4_bottom_23 ?_
    have hF9 : (fX4_bottom mm mhr med md mi mr p1) = (13830554455654793216 : UInt64) := by rw [fX4_bottom, if_pos c_5]
    have hP9 : va_P D vwCl (wM cyD cyI cyJ cyZ am bv bt bl be bdp bi bg bsd bsv bbd bbv br bu bw mn mm mch msp msb mno msn mbn mhr mro mv mt ml med md mi mg msd msv mbd mbv mr mu mw) H := hP
    have hD9 : va_D A (wM cyD cyI cyJ cyZ am bv bt bl be bdp bi bg bsd bsv bbd bbv br bu bw mn mm mch msp msb mno msn mbn mhr mro mv mt ml med md mi mg msd msv mbd mbv mr mu mw) := hD
    exact W.dret (v := (13830554455654793216 : UInt64)) hx hb hr (fun t ht hW => ⟨⟨(13830554455654793216 : UInt64), (), rfl, (by rw [hF9]), by rw [ht]; exact hP9, va_K.moved hW.alike hK, hD9⟩, hS.F ht⟩) hS.2.2 dX4_bottom_26
  refine lv_aload_n hx hb dX4_bottom_8 rfl (lv_at hl 0 rfl) ?_
  refine lv_iload_n hx hb dX4_bottom_9 rfl (lv_at hl 1 rfl) ?_
  have hPc : va_P D vwCl (wM cyD cyI cyJ cyZ am bv bt bl be bdp bi bg bsd bsv bbd bbv br bu bw mn mm mch msp msb mno msn mbn mhr mro mv mt ml med md mi mg msd msv mbd mbv mr mu mw) H := hP.sub [0, 1, 2, 3, 4, 5, 6, 7, 8, 9, 10, 11, 12, 13, 14] rfl
  have hDc : va_D A (wM cyD cyI cyJ cyZ am bv bt bl be bdp bi bg bsd bsv bbd bbv br bu bw mn mm mch msp msb mno msn mbn mhr mro mv mt ml med md mi mg msd msv mbd mbv mr mu mw) := hD.sub [0, 1, 2, 3, 4, 5, 6, 7, 8, 9, 10, 11, 12, 13, 14] (by decide) rfl
  refine kdE (ws' := (wM cyD cyI cyJ cyZ am bv bt bl be bdp bi bg bsd bsv bbd bbv br bu bw mn mm mch msp msb mno msn mbn mhr mro mv mt ml med md mi mg msd msv mbd mbv mr mu mw)) (wc := (wM cyD cyI cyJ cyZ am bv bt bl be bdp bi bg bsd bsv bbd bbv br bu bw mn mm mch msp msb mno msn mbn mhr mro mv mt ml med md mi mg msd msv mbd mbv mr mu mw)) (wr := []) (w1 := (wM cyD cyI cyJ cyZ am bv bt bl be bdp bi bg bsd bsv bbd bbv br bu bw mn mm mch msp msb mno msn mbn mhr mro mv mt ml med md mi mg msd msv mbd mbv mr mu mw)) (va_runV (As := [.int p1]) (rest := []) ⟨hx, hb, hml, hown, hts⟩ (c_X4_plainBottom (l := l) (D := D) (cyD := cyD) (cyI := cyI) (cyJ := cyJ) (cyZ := cyZ) am bv bt bl be bdp bi bg bsd bsv bbd bbv br bu bw mn mm mch msp msb mno msn mbn mhr mro mv mt ml med md mi mg msd msv mbd mbv mr mu mw H.size p1 hM hmd c_5) (cwV 1 hts gX4_bottom_X4_plainBottom rfl rfl rfl (by decide +kernel) ⟨Nat.le_of_ble_eq_true rfl, Nat.le_of_ble_eq_true rfl⟩) (kV (ci := 4) (q0 := 0) (q := (RX4, TX4, 24)) hN hK hPc hDc rfl rfl rfl) rfl rfl hl.1 rfl (lv_room (Nat.le_of_ble_eq_true rfl)) dX4_bottom_10 ⟨Nat.le_of_ble_eq_true rfl, Nat.le_of_ble_eq_true rfl⟩) hP hD hS hA [0, 1, 2, 3, 4, 5, 6, 7, 8, 9, 10, 11, 12, 13, 14] [] [0, 1, 2, 3, 4, 5, 6, 7, 8, 9, 10, 11, 12, 13, 14] rfl rfl (by decide) (by decide) rfl (by decide) (fun H locs hP hD hS => ?_)
  refine lv_aload_n hx hb dX4_bottom_13 rfl (lv_at hl 0 rfl) ?_
  refine va_get (D := D) (ci := 4) (v := .ref bi) (C := RX4) (T := TX4) (N := 24) hx hb hts (fun _ h => (List.mem_cons_of_mem _ (List.mem_append_right _ h))) hown hK hP 0 rfl rfl 7 (by decide) (hts (.fieldLink RX4 26 "BottomWalksModel" "tides" "[D") (List.mem_of_getElem? (i := 1) rfl)) (fun _ h9 => h9) rfl dX4_bottom_14 ?_
  refine lv_iload_n hx hb dX4_bottom_17 rfl (lv_at hl 1 rfl) ?_
  refine va_dald hx hb hK hP 6 0 rfl rfl (nI_in' (hbP c_5).choose_spec.1 (hbP c_5).choose_spec.2 (by decide)) dX4_bottom_18 ?_
  refine lv_dadd hx hb dX4_bottom_19 (bd_n (bd_add (Ka := 1103) (Kb := 1028) (K := 1105) (pbM_bd (mn := mn) hM.2.2.1 hmd c_5) (vpin_bd (nI_in' (hbP c_5).choose_spec.1 (hbP c_5).choose_spec.2 (by decide)) (by decide) hmi) (by decide) (by decide) (by decide) (by decide)) (by decide)) ?_
  refine lv_goto (tgt := 26) hx hb dX4_bottom_20 (by decide) ?_
  have hF9 : (fX4_bottom mm mhr med md mi mr p1) = (FP.dadd (fX4_plainBottom mm mhr med md mr p1) (mi p1.toNatClampNeg)) := by rw [fX4_bottom, if_neg c_5]
  have hP9 : va_P D vwCl (wM cyD cyI cyJ cyZ am bv bt bl be bdp bi bg bsd bsv bbd bbv br bu bw mn mm mch msp msb mno msn mbn mhr mro mv mt ml med md mi mg msd msv mbd mbv mr mu mw) H := hP
  have hD9 : va_D A (wM cyD cyI cyJ cyZ am bv bt bl be bdp bi bg bsd bsv bbd bbv br bu bw mn mm mch msp msb mno msn mbn mhr mro mv mt ml med md mi mg msd msv mbd mbv mr mu mw) := hD
  exact W.dret (v := (FP.dadd (fX4_plainBottom mm mhr med md mr p1) (mi p1.toNatClampNeg))) hx hb hr (fun t ht hW => ⟨⟨(FP.dadd (fX4_plainBottom mm mhr med md mr p1) (mi p1.toNatClampNeg)), (), rfl, (by rw [hF9]), by rw [ht]; exact hP9, va_K.moved hW.alike hK, hD9⟩, hS.F ht⟩) hS.2.2 dX4_bottom_26
theorem botM_bd {mn : Nat} {mm : UInt64} {mhr : Int32} {med mr : Nat → Int32} {md mi : Nat → UInt64} (hm : bd 1030 mm) (hmd : ∀ i, i < 32 → bd 1037 (md i)) (hmi : ∀ i, i < 32 → bd 1028 (mi i)) (p1 : Int32) : bd 1105 (fX4_bottom mm mhr med md mi mr p1) := by
  unfold fX4_bottom
  by_cases c_5 : fX4_hasBottom mhr mr p1 = 0
  · rw [if_pos c_5]; decide
  · rw [if_neg c_5]; exact (bd_add (Ka := 1103) (Kb := 1028) (K := 1105) (pbM_bd (mn := mn) hm hmd c_5) (vpin_bd (nI_in' (hbP c_5).choose_spec.1 (hbP c_5).choose_spec.2 (by decide)) (by decide) hmi) (by decide) (by decide) (by decide) (by decide))
def fX4_bridged_L4 (mhr : Int32) (mr : Nat → Int32)  (p1 : Int32) : Nat → (Int32) → (Int32) → Int32
  | 0, v_j, v_cc => 0
  | k + 1, v_j, v_cc => if (32 : Int32) ≤ v_j then (-1 : Int32) else (if (fX4_isBridged mhr mr (v_j)) = 0 then (fX4_bridged_L4 mhr mr p1 k ((v_j) + 1) (v_cc)) else (if v_cc = p1 then v_j else ((fX4_bridged_L4 mhr mr p1 k ((v_j) + 1) ((v_cc) + 1)))))
def fX4_bridged (mhr : Int32) (mr : Nat → Int32) (p1 : Int32) : Int32 := (fX4_bridged_L4 mhr mr p1 33 (0 : Int32) (0 : Int32))
set_option maxHeartbeats 4000000 in
set_option maxRecDepth 100000 in
theorem c_X4_bridged {l : Launch} {D : va_G} {cyD cyI cyJ cyZ : ClassId} (am bv bt bl be bdp bi bg bsd bsv bbd bbv br bu bw : Nat) (mn : Nat) (mm : UInt64) (mch : Int32) (msp : UInt64) (msb : UInt64) (mno : UInt64) (msn : Int32) (mbn : Int32) (mhr : Int32) (mro : Int32) (mv : Nat → UInt64) (mt : Nat → Int32) (ml : Nat → Int32) (med : Nat → Int32) (md : Nat → UInt64) (mi : Nat → UInt64) (mg : Nat → UInt64) (msd : Nat → UInt64) (msv : Nat → UInt64) (mbd : Nat → UInt64) (mbv : Nat → UInt64) (mr : Nat → Int32) (mu : Nat → Int64) (mw : Nat → Int32) (sz : Nat) (p1 : Int32)  : mI l yX4_bridged wsX4_bridged ({ frames := 4, cells := 0, slots := 0, locals := 87 } : Room) D (kT cyD cyI cyJ cyZ) [.ref am, .int p1] (wM cyD cyI cyJ cyZ am bv bt bl be bdp bi bg bsd bsv bbd bbv br bu bw mn mm mch msp msb mno msn mbn mhr mro mv mt ml med md mi mg msd msv mbd mbv mr mu mw) (wM cyD cyI cyJ cyZ am bv bt bl be bdp bi bg bsd bsv bbd bbv br bu bw mn mm mch msp msb mno msn mbn mhr mro mv mt ml med md mi mg msd msv mbd mbv mr mu mw) sz (fX4_bridged mhr mr p1) 0 0 := by
  refine Met.ofW (cc := cX4_bridged) (maxL := 4) (ret := (some .int)) (by decide) rfl ?_
  intro p e s m args below meth c s₁ B hml hv
  obtain ⟨rfl, hN, hsz, hP, hK, hD0⟩ := hv
  have hx := B.exec
  have hb := B.bytes
  have hr := B.returns
  have hts := atoms_spec (ws := wsX4_bridged) B.pre
  have hown : s.vm.findClass RX4 = some m.cls := findClass_of_methodNamed B.named
  have hlocks := B.notSynchronized
  subst hsz
  have hD := hD0.self (sz := s.heap.size)
  generalize hAe : va_A (wM cyD cyI cyJ cyZ am bv bt bl be bdp bi bg bsd bsv bbd bbv br bu bw mn mm mch msp msb mno msn mbn mhr mro mv mt ml med md mi mg msd msv mbd mbv mr mu mw) s.heap.size = A at hD ⊢
  have hA : ∀ q : Nat, s.heap.size ≤ q → A q := fun q h => by rw [← hAe]; exact Or.inr h
  have hS : va_S A s.heap s.heap [] := va_S.rf
  have hP : va_P D vwCl (wM cyD cyI cyJ cyZ am bv bt bl be bdp bi bg bsd bsv bbd bbv br bu bw mn mm mch msp msb mno msn mbn mhr mro mv mt ml med md mi mg msd msv mbd mbv mr mu mw) s.heap := hP
  have hl := lv_entry [.ref am, .int p1] (n := 4) (Nat.le_of_ble_eq_true rfl)
  rw [lg_entry_eq]
  generalize (lg_sl [.ref am, .int p1] ++ List.replicate (4 - (lg_sl [.ref am, .int p1]).length) Slot.unset).toArray = ls at hl ⊢
  have hl : lv_has ls 4 [(0, .ref am), (1, .int p1)] := hl
  obtain ⟨H, hHe⟩ : ∃ H : Heap, H = s.heap := ⟨_, rfl⟩
  have hP : va_P D vwCl (wM cyD cyI cyJ cyZ am bv bt bl be bdp bi bg bsd bsv bbd bbv br bu bw mn mm mch msp msb mno msn mbn mhr mro mv mt ml med md mi mg msd msv mbd mbv mr mu mw) H := by rw [hHe]; exact hP
  have hS : va_S A s.heap H [] := by rw [hHe]; exact hS
  rw [← hHe]
  refine lv_iconst (v := 0) hx hb dX4_bridged_0 (by decide) ?_
  refine lv_istore_n (lv' := [(2, .int (0 : Int32)), (0, .ref am), (1, .int p1)]) hx hb dX4_bridged_1 rfl hl (by decide) rfl (fun ls hl => ?_)
  refine lv_iconst (v := 0) hx hb dX4_bridged_2 (by decide) ?_
  refine lv_istore_n (lv' := [(3, .int (0 : Int32)), (2, .int (0 : Int32)), (0, .ref am), (1, .int p1)]) hx hb dX4_bridged_3 rfl hl (by decide) rfl (fun ls hl => ?_)
  have loop_4 : ∀ (k : Nat) (j : Nat) (cc : Int32) (H : Heap) (locs : List Loc), (j + k = 33) → (j ≤ 32) → (fX4_bridged mhr mr p1) = fX4_bridged_L4 mhr mr p1 k ((nI j)) (cc) → va_P D vwCl (wM cyD cyI cyJ cyZ am bv bt bl be bdp bi bg bsd bsv bbd bbv br bu bw mn mm mch msp msb mno msn mbn mhr mro mv mt ml med md mi mg msd msv mbd mbv mr mu mw) H → va_D A (wM cyD cyI cyJ cyZ am bv bt bl be bdp bi bg bsd bsv bbd bbv br bu bw mn mm mch msp msb mno msn mbn mhr mro mv mt ml med md mi mg msd msv mbd mbv mr mu mw) → va_S A s.heap H locs → ∀ ls, lv_has ls 4 [(3, .int ((nI j))), (2, .int (cc)), (0, .ref am), (1, .int p1)] → W p l e (headSpec wsX4_bridged ({ frames := 4, cells := 0, slots := 0, locals := 87 } : Room)).room s m ([.ref am, .int p1] : List Value).toArray below meth c H locs 0 0 (MQ below (va_Qi (fun (r : Int32) (_ : Unit) => r = (fX4_bridged mhr mr p1)) (kE D (kT cyD cyI cyJ cyZ) (wM cyD cyI cyJ cyZ am bv bt bl be bdp bi bg bsd bsv bbd bbv br bu bw mn mm mch msp msb mno msn mbn mhr mro mv mt ml med md mi mg msd msv mbd mbv mr mu mw) A) A) ([.ref am, .int p1] : List Value).toArray s 0 0 A) (F0 m 4 ls []) := by
    intro k_4
    induction k_4 with
    | zero => intro j cc H locs hj hj2 hF hP hD hS ls hl; exact absurd hj2 (by omega)
    | succ k_4 ih_4 =>
      intro j cc H locs hj hj2 hF hP hD hS ls hl
      refine lv_iload_n hx hb dX4_bridged_4 rfl (lv_at hl 0 rfl) ?_
      refine lv_bipush (v := 32) hx hb dX4_bridged_5 (by decide) ?_
      refine lv_icmp_ge (tgt := 34) hx hb dX4_bridged_7 (by decide) (fun c_7 => ?_) (fun c_7 => ?_)
      · refine lv_iconst (v := (-1)) hx hb dX4_bridged_34 (by decide) ?_
        have hF9 : (fX4_bridged mhr mr p1) = (-1 : Int32) := by rw [hF, fX4_bridged_L4, if_pos c_7]
        have hP9 : va_P D vwCl (wM cyD cyI cyJ cyZ am bv bt bl be bdp bi bg bsd bsv bbd bbv br bu bw mn mm mch msp msb mno msn mbn mhr mro mv mt ml med md mi mg msd msv mbd mbv mr mu mw) H := hP
        have hD9 : va_D A (wM cyD cyI cyJ cyZ am bv bt bl be bdp bi bg bsd bsv bbd bbv br bu bw mn mm mch msp msb mno msn mbn mhr mro mv mt ml med md mi mg msd msv mbd mbv mr mu mw) := hD
        exact W.iret (v := (-1 : Int32)) hx hb hr (fun t ht hW => ⟨⟨(-1 : Int32), (), rfl, (by rw [hF9]), by rw [ht]; exact hP9, va_K.moved hW.alike hK, hD9⟩, hS.F ht⟩) hS.2.2 dX4_bridged_35
      refine lv_aload_n hx hb dX4_bridged_10 rfl (lv_at hl 2 rfl) ?_
      refine lv_iload_n hx hb dX4_bridged_11 rfl (lv_at hl 0 rfl) ?_
      have hPc : va_P D vwCl (wM cyD cyI cyJ cyZ am bv bt bl be bdp bi bg bsd bsv bbd bbv br bu bw mn mm mch msp msb mno msn mbn mhr mro mv mt ml med md mi mg msd msv mbd mbv mr mu mw) H := hP.sub [0, 1, 2, 3, 4, 5, 6, 7, 8, 9, 10, 11, 12, 13, 14] rfl
      have hDc : va_D A (wM cyD cyI cyJ cyZ am bv bt bl be bdp bi bg bsd bsv bbd bbv br bu bw mn mm mch msp msb mno msn mbn mhr mro mv mt ml med md mi mg msd msv mbd mbv mr mu mw) := hD.sub [0, 1, 2, 3, 4, 5, 6, 7, 8, 9, 10, 11, 12, 13, 14] (by decide) rfl
      refine kzE (ws' := (wM cyD cyI cyJ cyZ am bv bt bl be bdp bi bg bsd bsv bbd bbv br bu bw mn mm mch msp msb mno msn mbn mhr mro mv mt ml med md mi mg msd msv mbd mbv mr mu mw)) (wc := (wM cyD cyI cyJ cyZ am bv bt bl be bdp bi bg bsd bsv bbd bbv br bu bw mn mm mch msp msb mno msn mbn mhr mro mv mt ml med md mi mg msd msv mbd mbv mr mu mw)) (wr := []) (w1 := (wM cyD cyI cyJ cyZ am bv bt bl be bdp bi bg bsd bsv bbd bbv br bu bw mn mm mch msp msb mno msn mbn mhr mro mv mt ml med md mi mg msd msv mbd mbv mr mu mw)) (va_runV (As := [.int ((nI j))]) (rest := []) ⟨hx, hb, hml, hown, hts⟩ (c_X4_isBridged (l := l) (D := D) (cyD := cyD) (cyI := cyI) (cyJ := cyJ) (cyZ := cyZ) am bv bt bl be bdp bi bg bsd bsv bbd bbv br bu bw mn mm mch msp msb mno msn mbn mhr mro mv mt ml med md mi mg msd msv mbd mbv mr mu mw H.size ((nI j))) (cwV 1 hts gX4_bridged_X4_isBridged rfl rfl rfl (by decide +kernel) ⟨Nat.le_of_ble_eq_true rfl, Nat.le_of_ble_eq_true rfl⟩) (kV (ci := 4) (q0 := 0) (q := (RX4, TX4, 24)) hN hK hPc hDc rfl rfl rfl) rfl rfl hl.1 rfl (lv_room (Nat.le_of_ble_eq_true rfl)) dX4_bridged_12 ⟨Nat.le_of_ble_eq_true rfl, Nat.le_of_ble_eq_true rfl⟩) hP hD hS hA [0, 1, 2, 3, 4, 5, 6, 7, 8, 9, 10, 11, 12, 13, 14] [] [0, 1, 2, 3, 4, 5, 6, 7, 8, 9, 10, 11, 12, 13, 14] rfl rfl (by decide) (by decide) rfl (by decide) (fun H locs hz_12 hP hD hS => ?_)
      refine lv_if_eq (tgt := 28) hx hb dX4_bridged_15 (by decide) (fun c_15 => ?_) (fun c_15 => ?_)
      · refine lv_iinc (v := (((nI j)) + 1)) (lv' := [(3, .int (((nI j)) + 1)), (2, .int (cc)), (0, .ref am), (1, .int p1)]) hx hb dX4_bridged_28 hl (k := 0) rfl rfl (by decide) rfl (fun ls hl => ?_)
        refine lv_goto (tgt := 4) hx hb dX4_bridged_31 (by decide) ?_
        exact ih_4 (j + 1) (cc) _ _ (by omega) (by have := Nat.lt_of_not_le (fun z => c_7 (nI_le (a := 32) z (by omega))); omega) (by rw [← nI_1 j]; rw [hF, fX4_bridged_L4, if_neg c_7, if_pos c_15]) hP hD hS _ (by rw [← nI_1 j]; exact lv_sub hl [0, 1, 2, 3] rfl)
      refine lv_iload_n hx hb dX4_bridged_18 rfl (lv_at hl 1 rfl) ?_
      refine lv_iload_n hx hb dX4_bridged_19 rfl (lv_at hl 3 rfl) ?_
      refine lv_icmp_ne (tgt := 25) hx hb dX4_bridged_20 (by decide) (fun c_20 => ?_) (fun c_20 => ?_)
      · refine lv_iinc (v := ((cc) + 1)) (lv' := [(2, .int ((cc) + 1)), (3, .int ((nI j))), (0, .ref am), (1, .int p1)]) hx hb dX4_bridged_25 hl (k := 1) rfl rfl (by decide) rfl (fun ls hl => ?_)
        refine lv_iinc (v := (((nI j)) + 1)) (lv' := [(3, .int (((nI j)) + 1)), (2, .int ((cc) + 1)), (0, .ref am), (1, .int p1)]) hx hb dX4_bridged_28 hl (k := 1) rfl rfl (by decide) rfl (fun ls hl => ?_)
        refine lv_goto (tgt := 4) hx hb dX4_bridged_31 (by decide) ?_
        exact ih_4 (j + 1) ((cc) + 1) _ _ (by omega) (by have := Nat.lt_of_not_le (fun z => c_7 (nI_le (a := 32) z (by omega))); omega) (by rw [← nI_1 j]; rw [hF, fX4_bridged_L4, if_neg c_7, if_neg c_15, if_neg c_20]) hP hD hS _ (by rw [← nI_1 j]; exact lv_sub hl [0, 1, 2, 3] rfl)
      refine lv_iload_n hx hb dX4_bridged_23 rfl (lv_at hl 0 rfl) ?_
      have hF9 : (fX4_bridged mhr mr p1) = (nI j) := by rw [hF, fX4_bridged_L4, if_neg c_7, if_neg c_15, if_pos c_20]
      have hP9 : va_P D vwCl (wM cyD cyI cyJ cyZ am bv bt bl be bdp bi bg bsd bsv bbd bbv br bu bw mn mm mch msp msb mno msn mbn mhr mro mv mt ml med md mi mg msd msv mbd mbv mr mu mw) H := hP
      have hD9 : va_D A (wM cyD cyI cyJ cyZ am bv bt bl be bdp bi bg bsd bsv bbd bbv br bu bw mn mm mch msp msb mno msn mbn mhr mro mv mt ml med md mi mg msd msv mbd mbv mr mu mw) := hD
      exact W.iret (v := (nI j)) hx hb hr (fun t ht hW => ⟨⟨(nI j), (), rfl, (by rw [hF9]), by rw [ht]; exact hP9, va_K.moved hW.alike hK, hD9⟩, hS.F ht⟩) hS.2.2 dX4_bridged_24
  exact loop_4 33 0 (0 : Int32) _ _ rfl (Nat.zero_le _) (by rw [nI_0]; rw [fX4_bridged]) hP hD hS _ (by exact lv_sub hl [0, 1, 2, 3] rfl)
def fX4_dead (mm : UInt64) (mhr : Int32) (med : Nat → Int32) (md : Nat → UInt64) (mr : Nat → Int32) (p1 : Int32) : UInt64 := if (fX4_hasBottom mhr mr p1) = 0 then (13830554455654793216 : UInt64) else ((FP.dadd (FP.dmul (4602678819172646912 : UInt64) mm) (FP.dmul (4581421828931458171 : UInt64) (fX4_plainBottom mm mhr med md mr p1))))
set_option maxHeartbeats 4000000 in
set_option maxRecDepth 100000 in
theorem c_X4_dead {l : Launch} {D : va_G} {cyD cyI cyJ cyZ : ClassId} (am bv bt bl be bdp bi bg bsd bsv bbd bbv br bu bw : Nat) (mn : Nat) (mm : UInt64) (mch : Int32) (msp : UInt64) (msb : UInt64) (mno : UInt64) (msn : Int32) (mbn : Int32) (mhr : Int32) (mro : Int32) (mv : Nat → UInt64) (mt : Nat → Int32) (ml : Nat → Int32) (med : Nat → Int32) (md : Nat → UInt64) (mi : Nat → UInt64) (mg : Nat → UInt64) (msd : Nat → UInt64) (msv : Nat → UInt64) (mbd : Nat → UInt64) (mbv : Nat → UInt64) (mr : Nat → Int32) (mu : Nat → Int64) (mw : Nat → Int32) (sz : Nat) (p1 : Int32) (hM : okM mn mm msp msb mno mv) (hmd : ∀ i, i < 32 → bd 1037 (md i)) : mD l yX4_dead wsX4_dead ({ frames := 5, cells := 0, slots := 0, locals := 108 } : Room) D (kT cyD cyI cyJ cyZ) [.ref am, .int p1] (wM cyD cyI cyJ cyZ am bv bt bl be bdp bi bg bsd bsv bbd bbv br bu bw mn mm mch msp msb mno msn mbn mhr mro mv mt ml med md mi mg msd msv mbd mbv mr mu mw) (wM cyD cyI cyJ cyZ am bv bt bl be bdp bi bg bsd bsv bbd bbv br bu bw mn mm mch msp msb mno msn mbn mhr mro mv mt ml med md mi mg msd msv mbd mbv mr mu mw) sz (fX4_dead mm mhr med md mr p1) 0 0 := by
  refine Met.ofW (cc := cX4_dead) (maxL := 2) (ret := (some .double)) (by decide) rfl ?_
  intro p e s m args below meth c s₁ B hml hv
  obtain ⟨rfl, hN, hsz, hP, hK, hD0⟩ := hv
  have hx := B.exec
  have hb := B.bytes
  have hr := B.returns
  have hts := atoms_spec (ws := wsX4_dead) B.pre
  have hown : s.vm.findClass RX4 = some m.cls := findClass_of_methodNamed B.named
  have hlocks := B.notSynchronized
  subst hsz
  have hD := hD0.self (sz := s.heap.size)
  generalize hAe : va_A (wM cyD cyI cyJ cyZ am bv bt bl be bdp bi bg bsd bsv bbd bbv br bu bw mn mm mch msp msb mno msn mbn mhr mro mv mt ml med md mi mg msd msv mbd mbv mr mu mw) s.heap.size = A at hD ⊢
  have hA : ∀ q : Nat, s.heap.size ≤ q → A q := fun q h => by rw [← hAe]; exact Or.inr h
  have hS : va_S A s.heap s.heap [] := va_S.rf
  have hP : va_P D vwCl (wM cyD cyI cyJ cyZ am bv bt bl be bdp bi bg bsd bsv bbd bbv br bu bw mn mm mch msp msb mno msn mbn mhr mro mv mt ml med md mi mg msd msv mbd mbv mr mu mw) s.heap := hP
  have hl := lv_entry [.ref am, .int p1] (n := 2) (Nat.le_of_ble_eq_true rfl)
  rw [lg_entry_eq]
  generalize (lg_sl [.ref am, .int p1] ++ List.replicate (2 - (lg_sl [.ref am, .int p1]).length) Slot.unset).toArray = ls at hl ⊢
  have hl : lv_has ls 2 [(0, .ref am), (1, .int p1)] := hl
  obtain ⟨H, hHe⟩ : ∃ H : Heap, H = s.heap := ⟨_, rfl⟩
  have hP : va_P D vwCl (wM cyD cyI cyJ cyZ am bv bt bl be bdp bi bg bsd bsv bbd bbv br bu bw mn mm mch msp msb mno msn mbn mhr mro mv mt ml med md mi mg msd msv mbd mbv mr mu mw) H := by rw [hHe]; exact hP
  have hS : va_S A s.heap H [] := by rw [hHe]; exact hS
  rw [← hHe]
  refine lv_aload_n hx hb dX4_dead_0 rfl (lv_at hl 0 rfl) ?_
  refine lv_iload_n hx hb dX4_dead_1 rfl (lv_at hl 1 rfl) ?_
  have hPc : va_P D vwCl (wM cyD cyI cyJ cyZ am bv bt bl be bdp bi bg bsd bsv bbd bbv br bu bw mn mm mch msp msb mno msn mbn mhr mro mv mt ml med md mi mg msd msv mbd mbv mr mu mw) H := hP.sub [0, 1, 2, 3, 4, 5, 6, 7, 8, 9, 10, 11, 12, 13, 14] rfl
  have hDc : va_D A (wM cyD cyI cyJ cyZ am bv bt bl be bdp bi bg bsd bsv bbd bbv br bu bw mn mm mch msp msb mno msn mbn mhr mro mv mt ml med md mi mg msd msv mbd mbv mr mu mw) := hD.sub [0, 1, 2, 3, 4, 5, 6, 7, 8, 9, 10, 11, 12, 13, 14] (by decide) rfl
  refine kzE (ws' := (wM cyD cyI cyJ cyZ am bv bt bl be bdp bi bg bsd bsv bbd bbv br bu bw mn mm mch msp msb mno msn mbn mhr mro mv mt ml med md mi mg msd msv mbd mbv mr mu mw)) (wc := (wM cyD cyI cyJ cyZ am bv bt bl be bdp bi bg bsd bsv bbd bbv br bu bw mn mm mch msp msb mno msn mbn mhr mro mv mt ml med md mi mg msd msv mbd mbv mr mu mw)) (wr := []) (w1 := (wM cyD cyI cyJ cyZ am bv bt bl be bdp bi bg bsd bsv bbd bbv br bu bw mn mm mch msp msb mno msn mbn mhr mro mv mt ml med md mi mg msd msv mbd mbv mr mu mw)) (va_runV (As := [.int p1]) (rest := []) ⟨hx, hb, hml, hown, hts⟩ (c_X4_hasBottom (l := l) (D := D) (cyD := cyD) (cyI := cyI) (cyJ := cyJ) (cyZ := cyZ) am bv bt bl be bdp bi bg bsd bsv bbd bbv br bu bw mn mm mch msp msb mno msn mbn mhr mro mv mt ml med md mi mg msd msv mbd mbv mr mu mw H.size p1) (cwV 1 hts gX4_dead_X4_hasBottom rfl rfl rfl (by decide +kernel) ⟨Nat.le_of_ble_eq_true rfl, Nat.le_of_ble_eq_true rfl⟩) (kV (ci := 4) (q0 := 0) (q := (RX4, TX4, 24)) hN hK hPc hDc rfl rfl rfl) rfl rfl hl.1 rfl (lv_room (Nat.le_of_ble_eq_true rfl)) dX4_dead_2 ⟨Nat.le_of_ble_eq_true rfl, Nat.le_of_ble_eq_true rfl⟩) hP hD hS hA [0, 1, 2, 3, 4, 5, 6, 7, 8, 9, 10, 11, 12, 13, 14] [] [0, 1, 2, 3, 4, 5, 6, 7, 8, 9, 10, 11, 12, 13, 14] rfl rfl (by decide) (by decide) rfl (by decide) (fun H locs hz_2 hP hD hS => ?_)
  refine lv_if_eq (tgt := 29) hx hb dX4_dead_5 (by decide) (fun c_5 => ?_) (fun c_5 => ?_)
  · refine lv_ldc2d (v := 13830554455654793216) hx hb hown (hts (.constantDouble RX4 158 (13830554455654793216)) (List.mem_of_getElem? (i := 4) rfl)) dX4_dead_29 ?_
    have hF9 : (fX4_dead mm mhr med md mr p1) = (13830554455654793216 : UInt64) := by rw [fX4_dead, if_pos c_5]
    have hP9 : va_P D vwCl (wM cyD cyI cyJ cyZ am bv bt bl be bdp bi bg bsd bsv bbd bbv br bu bw mn mm mch msp msb mno msn mbn mhr mro mv mt ml med md mi mg msd msv mbd mbv mr mu mw) H := hP
    have hD9 : va_D A (wM cyD cyI cyJ cyZ am bv bt bl be bdp bi bg bsd bsv bbd bbv br bu bw mn mm mch msp msb mno msn mbn mhr mro mv mt ml med md mi mg msd msv mbd mbv mr mu mw) := hD
    exact W.dret (v := (13830554455654793216 : UInt64)) hx hb hr (fun t ht hW => ⟨⟨(13830554455654793216 : UInt64), (), rfl, (by rw [hF9]), by rw [ht]; exact hP9, va_K.moved hW.alike hK, hD9⟩, hS.F ht⟩) hS.2.2 dX4_dead_32
  refine lv_ldc2d (v := 4602678819172646912) hx hb hown (hts (.constantDouble RX4 160 (4602678819172646912)) (List.mem_of_getElem? (i := 1) rfl)) dX4_dead_8 ?_
  refine lv_aload_n hx hb dX4_dead_11 rfl (lv_at hl 0 rfl) ?_
  refine va_get (D := D) (ci := 4) (v := .double mm) (C := RX4) (T := TX4) (N := 24) hx hb hts (fun _ h => (List.mem_cons_of_mem _ (List.mem_append_right _ h))) hown hK hP 0 rfl rfl 1 (by decide) (hts (.fieldLink RX4 61 "BottomWalksModel" "metre" "D") (List.mem_of_getElem? (i := 2) rfl)) (fun _ h9 => h9) rfl dX4_dead_12 ?_
  refine lv_dmul hx hb dX4_dead_15 (bd_n (bd_mul (Ka := 1024) (Kb := 1030) (K := 1032) (show bd 1024 _ by decide) hM.2.2.1 (by decide) (by decide) (by decide)) (by decide)) ?_
  refine lv_ldc2d (v := 4581421828931458171) hx hb hown (hts (.constantDouble RX4 162 (4581421828931458171)) (List.mem_of_getElem? (i := 3) rfl)) dX4_dead_16 ?_
  refine lv_aload_n hx hb dX4_dead_19 rfl (lv_at hl 0 rfl) ?_
  refine lv_iload_n hx hb dX4_dead_20 rfl (lv_at hl 1 rfl) ?_
  have hPc : va_P D vwCl (wM cyD cyI cyJ cyZ am bv bt bl be bdp bi bg bsd bsv bbd bbv br bu bw mn mm mch msp msb mno msn mbn mhr mro mv mt ml med md mi mg msd msv mbd mbv mr mu mw) H := hP.sub [0, 1, 2, 3, 4, 5, 6, 7, 8, 9, 10, 11, 12, 13, 14] rfl
  have hDc : va_D A (wM cyD cyI cyJ cyZ am bv bt bl be bdp bi bg bsd bsv bbd bbv br bu bw mn mm mch msp msb mno msn mbn mhr mro mv mt ml med md mi mg msd msv mbd mbv mr mu mw) := hD.sub [0, 1, 2, 3, 4, 5, 6, 7, 8, 9, 10, 11, 12, 13, 14] (by decide) rfl
  refine kdE (ws' := (wM cyD cyI cyJ cyZ am bv bt bl be bdp bi bg bsd bsv bbd bbv br bu bw mn mm mch msp msb mno msn mbn mhr mro mv mt ml med md mi mg msd msv mbd mbv mr mu mw)) (wc := (wM cyD cyI cyJ cyZ am bv bt bl be bdp bi bg bsd bsv bbd bbv br bu bw mn mm mch msp msb mno msn mbn mhr mro mv mt ml med md mi mg msd msv mbd mbv mr mu mw)) (wr := []) (w1 := (wM cyD cyI cyJ cyZ am bv bt bl be bdp bi bg bsd bsv bbd bbv br bu bw mn mm mch msp msb mno msn mbn mhr mro mv mt ml med md mi mg msd msv mbd mbv mr mu mw)) (va_runV (As := [.int p1]) (rest := [.double (4581421828931458171 : UInt64), .double (FP.dmul (4602678819172646912 : UInt64) mm)]) ⟨hx, hb, hml, hown, hts⟩ (c_X4_plainBottom (l := l) (D := D) (cyD := cyD) (cyI := cyI) (cyJ := cyJ) (cyZ := cyZ) am bv bt bl be bdp bi bg bsd bsv bbd bbv br bu bw mn mm mch msp msb mno msn mbn mhr mro mv mt ml med md mi mg msd msv mbd mbv mr mu mw H.size p1 hM hmd c_5) (cwV 1 hts gX4_dead_X4_plainBottom rfl rfl rfl (by decide +kernel) ⟨Nat.le_of_ble_eq_true rfl, Nat.le_of_ble_eq_true rfl⟩) (kV (ci := 4) (q0 := 0) (q := (RX4, TX4, 24)) hN hK hPc hDc rfl rfl rfl) rfl rfl hl.1 rfl (lv_room (Nat.le_of_ble_eq_true rfl)) dX4_dead_21 ⟨Nat.le_of_ble_eq_true rfl, Nat.le_of_ble_eq_true rfl⟩) hP hD hS hA [0, 1, 2, 3, 4, 5, 6, 7, 8, 9, 10, 11, 12, 13, 14] [] [0, 1, 2, 3, 4, 5, 6, 7, 8, 9, 10, 11, 12, 13, 14] rfl rfl (by decide) (by decide) rfl (by decide) (fun H locs hP hD hS => ?_)
  refine lv_dmul hx hb dX4_dead_24 (bd_n (bd_mul (Ka := 1024) (Kb := 1103) (K := 1105) (show bd 1024 _ by decide) (pbM_bd (mn := mn) hM.2.2.1 hmd c_5) (by decide) (by decide) (by decide)) (by decide)) ?_
  refine lv_dadd hx hb dX4_dead_25 (bd_n (bd_add (Ka := 1032) (Kb := 1105) (K := 1107) (bd_mul (Ka := 1024) (Kb := 1030) (K := 1032) (show bd 1024 _ by decide) hM.2.2.1 (by decide) (by decide) (by decide)) (bd_mul (Ka := 1024) (Kb := 1103) (K := 1105) (show bd 1024 _ by decide) (pbM_bd (mn := mn) hM.2.2.1 hmd c_5) (by decide) (by decide) (by decide)) (by decide) (by decide) (by decide) (by decide)) (by decide)) ?_
  refine lv_goto (tgt := 32) hx hb dX4_dead_26 (by decide) ?_
  have hF9 : (fX4_dead mm mhr med md mr p1) = (FP.dadd (FP.dmul (4602678819172646912 : UInt64) mm) (FP.dmul (4581421828931458171 : UInt64) (fX4_plainBottom mm mhr med md mr p1))) := by rw [fX4_dead, if_neg c_5]
  have hP9 : va_P D vwCl (wM cyD cyI cyJ cyZ am bv bt bl be bdp bi bg bsd bsv bbd bbv br bu bw mn mm mch msp msb mno msn mbn mhr mro mv mt ml med md mi mg msd msv mbd mbv mr mu mw) H := hP
  have hD9 : va_D A (wM cyD cyI cyJ cyZ am bv bt bl be bdp bi bg bsd bsv bbd bbv br bu bw mn mm mch msp msb mno msn mbn mhr mro mv mt ml med md mi mg msd msv mbd mbv mr mu mw) := hD
  exact W.dret (v := (FP.dadd (FP.dmul (4602678819172646912 : UInt64) mm) (FP.dmul (4581421828931458171 : UInt64) (fX4_plainBottom mm mhr med md mr p1)))) hx hb hr (fun t ht hW => ⟨⟨(FP.dadd (FP.dmul (4602678819172646912 : UInt64) mm) (FP.dmul (4581421828931458171 : UInt64) (fX4_plainBottom mm mhr med md mr p1))), (), rfl, (by rw [hF9]), by rw [ht]; exact hP9, va_K.moved hW.alike hK, hD9⟩, hS.F ht⟩) hS.2.2 dX4_dead_32
def fX4_surface_L13 (mn : Nat) (mm : UInt64) (mch : Int32) (msp : UInt64) (msb : UInt64) (mno : UInt64) (mv : Nat → UInt64) (mt : Nat → Int32) (ml : Nat → Int32)  (p1 : Int32) : Nat → (Int32) → UInt64
  | 0, v_j => 0
  | k + 1, v_j => if (nI mn) ≤ v_j then (FP.dmul (FP.i2d v_j) mm) else (if (lg_cmp (fX4_strength mm msp msb mno mv mt ml mch p1 (v_j)) (500 : Int64)) < 0 then (FP.dmul (FP.i2d v_j) mm) else ((fX4_surface_L13 mn mm mch msp msb mno mv mt ml p1 k ((v_j) + 1))))
def fX4_surface (mn : Nat) (mm : UInt64) (mch : Int32) (msp : UInt64) (msb : UInt64) (mno : UInt64) (mv : Nat → UInt64) (mt : Nat → Int32) (ml : Nat → Int32) (p1 : Int32) : UInt64 := if (fX4_isPing p1) = 0 then (13830554455654793216 : UInt64) else ((fX4_surface_L13 mn mm mch msp msb mno mv mt ml p1 65 (0 : Int32)))
set_option maxHeartbeats 4000000 in
set_option maxRecDepth 100000 in
theorem c_X4_surface {l : Launch} {D : va_G} {cyD cyI cyJ cyZ : ClassId} (am bv bt bl be bdp bi bg bsd bsv bbd bbv br bu bw : Nat) (mn : Nat) (mm : UInt64) (mch : Int32) (msp : UInt64) (msb : UInt64) (mno : UInt64) (msn : Int32) (mbn : Int32) (mhr : Int32) (mro : Int32) (mv : Nat → UInt64) (mt : Nat → Int32) (ml : Nat → Int32) (med : Nat → Int32) (md : Nat → UInt64) (mi : Nat → UInt64) (mg : Nat → UInt64) (msd : Nat → UInt64) (msv : Nat → UInt64) (mbd : Nat → UInt64) (mbv : Nat → UInt64) (mr : Nat → Int32) (mu : Nat → Int64) (mw : Nat → Int32) (sz : Nat) (p1 : Int32) (hM : okM mn mm msp msb mno mv) (C : Nat) (hmc : mch = nI C) (hC4 : C < 4) : mD l yX4_surface wsX4_surface ({ frames := 2, cells := 0, slots := 0, locals := 49 } : Room) D (kT cyD cyI cyJ cyZ) [.ref am, .int p1] (wM cyD cyI cyJ cyZ am bv bt bl be bdp bi bg bsd bsv bbd bbv br bu bw mn mm mch msp msb mno msn mbn mhr mro mv mt ml med md mi mg msd msv mbd mbv mr mu mw) (wM cyD cyI cyJ cyZ am bv bt bl be bdp bi bg bsd bsv bbd bbv br bu bw mn mm mch msp msb mno msn mbn mhr mro mv mt ml med md mi mg msd msv mbd mbv mr mu mw) sz (fX4_surface mn mm mch msp msb mno mv mt ml p1) 0 0 := by
  refine Met.ofW (cc := cX4_surface) (maxL := 3) (ret := (some .double)) (by decide) rfl ?_
  intro p e s m args below meth c s₁ B hml hv
  obtain ⟨rfl, hN, hsz, hP, hK, hD0⟩ := hv
  have hx := B.exec
  have hb := B.bytes
  have hr := B.returns
  have hts := atoms_spec (ws := wsX4_surface) B.pre
  have hown : s.vm.findClass RX4 = some m.cls := findClass_of_methodNamed B.named
  have hlocks := B.notSynchronized
  subst hsz
  have hD := hD0.self (sz := s.heap.size)
  generalize hAe : va_A (wM cyD cyI cyJ cyZ am bv bt bl be bdp bi bg bsd bsv bbd bbv br bu bw mn mm mch msp msb mno msn mbn mhr mro mv mt ml med md mi mg msd msv mbd mbv mr mu mw) s.heap.size = A at hD ⊢
  have hA : ∀ q : Nat, s.heap.size ≤ q → A q := fun q h => by rw [← hAe]; exact Or.inr h
  have hS : va_S A s.heap s.heap [] := va_S.rf
  have hP : va_P D vwCl (wM cyD cyI cyJ cyZ am bv bt bl be bdp bi bg bsd bsv bbd bbv br bu bw mn mm mch msp msb mno msn mbn mhr mro mv mt ml med md mi mg msd msv mbd mbv mr mu mw) s.heap := hP
  have hl := lv_entry [.ref am, .int p1] (n := 3) (Nat.le_of_ble_eq_true rfl)
  rw [lg_entry_eq]
  generalize (lg_sl [.ref am, .int p1] ++ List.replicate (3 - (lg_sl [.ref am, .int p1]).length) Slot.unset).toArray = ls at hl ⊢
  have hl : lv_has ls 3 [(0, .ref am), (1, .int p1)] := hl
  obtain ⟨H, hHe⟩ : ∃ H : Heap, H = s.heap := ⟨_, rfl⟩
  have hP : va_P D vwCl (wM cyD cyI cyJ cyZ am bv bt bl be bdp bi bg bsd bsv bbd bbv br bu bw mn mm mch msp msb mno msn mbn mhr mro mv mt ml med md mi mg msd msv mbd mbv mr mu mw) H := by rw [hHe]; exact hP
  have hS : va_S A s.heap H [] := by rw [hHe]; exact hS
  rw [← hHe]
  refine lv_iload_n hx hb dX4_surface_0 rfl (lv_at hl 1 rfl) ?_
  have hPc : va_P D vwCl [] H := hP.sub [] rfl
  have hDc : va_D A [] := hD.sub [] (by decide) rfl
  refine kzE (ws' := (wM cyD cyI cyJ cyZ am bv bt bl be bdp bi bg bsd bsv bbd bbv br bu bw mn mm mch msp msb mno msn mbn mhr mro mv mt ml med md mi mg msd msv mbd mbv mr mu mw)) (wc := []) (wr := [(am, .inr (4, [.int (nI mn), .double mm, .ref bv, .ref bt, .ref bl, .ref be, .ref bdp, .ref bi, .ref bg, .int mch, .double msp, .double msb, .double mno, .int msn, .ref bsd, .ref bsv, .int mbn, .ref bbd, .ref bbv, .int mhr, .int mro, .ref br, .ref bu, .ref bw])), (bv, .inl (cyD, 8192, .inr (.inr (.inr (.inl mv))))), (bt, .inl (cyZ, 8192, .inl mt)), (bl, .inl (cyZ, 32, .inl ml)), (be, .inl (cyZ, 32, .inl med)), (bdp, .inl (cyD, 32, .inr (.inr (.inr (.inl md))))), (bi, .inl (cyD, 32, .inr (.inr (.inr (.inl mi))))), (bg, .inl (cyD, 32, .inr (.inr (.inr (.inl mg))))), (bsd, .inl (cyD, 21, .inr (.inr (.inr (.inl msd))))), (bsv, .inl (cyD, 21, .inr (.inr (.inr (.inl msv))))), (bbd, .inl (cyD, 21, .inr (.inr (.inr (.inl mbd))))), (bbv, .inl (cyD, 21, .inr (.inr (.inr (.inl mbv))))), (br, .inl (cyI, 32, .inl mr)), (bu, .inl (cyJ, 2048, .inr (.inl mu))), (bw, .inl (cyI, 32, .inl mw))]) (w1 := []) (va_runS (As := [.int p1]) (rest := []) ⟨hx, hb, hml, hown, hts⟩ (c_X4_isPing (l := l) (D := D) (cyD := cyD) (cyI := cyI) (cyJ := cyJ) (cyZ := cyZ) H.size p1) (va_cwS 1 hts gX4_surface_X4_isPing rfl rfl rfl (by decide +kernel) ⟨Nat.le_of_ble_eq_true rfl, Nat.le_of_ble_eq_true rfl⟩) (kS hN hK hPc hDc) rfl rfl hl.1 rfl (lv_room (Nat.le_of_ble_eq_true rfl)) dX4_surface_1 ⟨Nat.le_of_ble_eq_true rfl, Nat.le_of_ble_eq_true rfl⟩) hP hD hS hA [] [0, 1, 2, 3, 4, 5, 6, 7, 8, 9, 10, 11, 12, 13, 14] [0, 1, 2, 3, 4, 5, 6, 7, 8, 9, 10, 11, 12, 13, 14] rfl rfl (by decide) (by decide) rfl (by decide) (fun H locs hz_1 hP hD hS => ?_)
  refine lv_if_ne (tgt := 11) hx hb dX4_surface_4 (by decide) (fun c_4 => ?_) (fun c_4 => ?_)
  · refine lv_iconst (v := 0) hx hb dX4_surface_11 (by decide) ?_
    refine lv_istore_n (lv' := [(2, .int (0 : Int32)), (0, .ref am), (1, .int p1)]) hx hb dX4_surface_12 rfl hl (by decide) rfl (fun ls hl => ?_)
    have loop_13 : ∀ (k : Nat) (j : Nat) (H : Heap) (locs : List Loc), (j + k = 65) → (j ≤ mn) → (fX4_surface mn mm mch msp msb mno mv mt ml p1) = fX4_surface_L13 mn mm mch msp msb mno mv mt ml p1 k ((nI j)) → va_P D vwCl (wM cyD cyI cyJ cyZ am bv bt bl be bdp bi bg bsd bsv bbd bbv br bu bw mn mm mch msp msb mno msn mbn mhr mro mv mt ml med md mi mg msd msv mbd mbv mr mu mw) H → va_D A (wM cyD cyI cyJ cyZ am bv bt bl be bdp bi bg bsd bsv bbd bbv br bu bw mn mm mch msp msb mno msn mbn mhr mro mv mt ml med md mi mg msd msv mbd mbv mr mu mw) → va_S A s.heap H locs → ∀ ls, lv_has ls 3 [(2, .int ((nI j))), (0, .ref am), (1, .int p1)] → W p l e (headSpec wsX4_surface ({ frames := 2, cells := 0, slots := 0, locals := 49 } : Room)).room s m ([.ref am, .int p1] : List Value).toArray below meth c H locs 0 0 (MQ below (va_Qd (fun (r : UInt64) (_ : Unit) => r = (fX4_surface mn mm mch msp msb mno mv mt ml p1)) (kE D (kT cyD cyI cyJ cyZ) (wM cyD cyI cyJ cyZ am bv bt bl be bdp bi bg bsd bsv bbd bbv br bu bw mn mm mch msp msb mno msn mbn mhr mro mv mt ml med md mi mg msd msv mbd mbv mr mu mw) A) A) ([.ref am, .int p1] : List Value).toArray s 0 0 A) (F0 m 13 ls []) := by
      intro k_13
      induction k_13 with
      | zero => intro j H locs hj hj2 hF hP hD hS ls hl; exact absurd hj2 (by have := hM.2.1; omega)
      | succ k_13 ih_13 =>
        intro j H locs hj hj2 hF hP hD hS ls hl
        have hs64 := hM.2.1
        refine lv_iload_n hx hb dX4_surface_13 rfl (lv_at hl 0 rfl) ?_
        refine lv_aload_n hx hb dX4_surface_14 rfl (lv_at hl 1 rfl) ?_
        refine va_get (D := D) (ci := 4) (v := .int (nI mn)) (C := RX4) (T := TX4) (N := 24) hx hb hts (fun _ h => (List.mem_cons_of_mem _ (List.mem_append_right _ h))) hown hK hP 0 rfl rfl 0 (by decide) (hts (.fieldLink RX4 55 "BottomWalksModel" "samples" "I") (List.mem_of_getElem? (i := 2) rfl)) (fun _ h9 => h9) rfl dX4_surface_15 ?_
        refine lv_icmp_ge (tgt := 44) hx hb dX4_surface_18 (by decide) (fun c_18 => ?_) (fun c_18 => ?_)
        · refine lv_iload_n hx hb dX4_surface_44 rfl (lv_at hl 0 rfl) ?_
          refine lv_i2d hx hb dX4_surface_45 ?_
          refine lv_aload_n hx hb dX4_surface_46 rfl (lv_at hl 1 rfl) ?_
          refine va_get (D := D) (ci := 4) (v := .double mm) (C := RX4) (T := TX4) (N := 24) hx hb hts (fun _ h => (List.mem_cons_of_mem _ (List.mem_append_right _ h))) hown hK hP 0 rfl rfl 1 (by decide) (hts (.fieldLink RX4 61 "BottomWalksModel" "metre" "D") (List.mem_of_getElem? (i := 5) rfl)) (fun _ h9 => h9) rfl dX4_surface_47 ?_
          refine lv_dmul hx hb dX4_surface_50 (bd_n (bd_mul (Ka := 1056) (Kb := 1030) (K := 1064) (bd_i2d _) hM.2.2.1 (by decide) (by decide) (by decide)) (by decide)) ?_
          have hF9 : (fX4_surface mn mm mch msp msb mno mv mt ml p1) = (FP.dmul (FP.i2d (nI j)) mm) := by rw [hF, fX4_surface_L13, if_pos c_18]
          have hP9 : va_P D vwCl (wM cyD cyI cyJ cyZ am bv bt bl be bdp bi bg bsd bsv bbd bbv br bu bw mn mm mch msp msb mno msn mbn mhr mro mv mt ml med md mi mg msd msv mbd mbv mr mu mw) H := hP
          have hD9 : va_D A (wM cyD cyI cyJ cyZ am bv bt bl be bdp bi bg bsd bsv bbd bbv br bu bw mn mm mch msp msb mno msn mbn mhr mro mv mt ml med md mi mg msd msv mbd mbv mr mu mw) := hD
          exact W.dret (v := (FP.dmul (FP.i2d (nI j)) mm)) hx hb hr (fun t ht hW => ⟨⟨(FP.dmul (FP.i2d (nI j)) mm), (), rfl, (by rw [hF9]), by rw [ht]; exact hP9, va_K.moved hW.alike hK, hD9⟩, hS.F ht⟩) hS.2.2 dX4_surface_51
        refine lv_aload_n hx hb dX4_surface_21 rfl (lv_at hl 1 rfl) ?_
        refine lv_aload_n hx hb dX4_surface_22 rfl (lv_at hl 1 rfl) ?_
        refine va_get (D := D) (ci := 4) (v := .int mch) (C := RX4) (T := TX4) (N := 24) hx hb hts (fun _ h => (List.mem_cons_of_mem _ (List.mem_append_right _ h))) hown hK hP 0 rfl rfl 9 (by decide) (hts (.fieldLink RX4 78 "BottomWalksModel" "chosen" "I") (List.mem_of_getElem? (i := 3) rfl)) (fun _ h9 => h9) rfl dX4_surface_23 ?_
        refine lv_iload_n hx hb dX4_surface_26 rfl (lv_at hl 2 rfl) ?_
        refine lv_iload_n hx hb dX4_surface_27 rfl (lv_at hl 0 rfl) ?_
        have hPc : va_P D vwCl (wM cyD cyI cyJ cyZ am bv bt bl be bdp bi bg bsd bsv bbd bbv br bu bw mn mm mch msp msb mno msn mbn mhr mro mv mt ml med md mi mg msd msv mbd mbv mr mu mw) H := hP.sub [0, 1, 2, 3, 4, 5, 6, 7, 8, 9, 10, 11, 12, 13, 14] rfl
        have hDc : va_D A (wM cyD cyI cyJ cyZ am bv bt bl be bdp bi bg bsd bsv bbd bbv br bu bw mn mm mch msp msb mno msn mbn mhr mro mv mt ml med md mi mg msd msv mbd mbv mr mu mw) := hD.sub [0, 1, 2, 3, 4, 5, 6, 7, 8, 9, 10, 11, 12, 13, 14] (by decide) rfl
        refine klE (ws' := (wM cyD cyI cyJ cyZ am bv bt bl be bdp bi bg bsd bsv bbd bbv br bu bw mn mm mch msp msb mno msn mbn mhr mro mv mt ml med md mi mg msd msv mbd mbv mr mu mw)) (wc := (wM cyD cyI cyJ cyZ am bv bt bl be bdp bi bg bsd bsv bbd bbv br bu bw mn mm mch msp msb mno msn mbn mhr mro mv mt ml med md mi mg msd msv mbd mbv mr mu mw)) (wr := []) (w1 := (wM cyD cyI cyJ cyZ am bv bt bl be bdp bi bg bsd bsv bbd bbv br bu bw mn mm mch msp msb mno msn mbn mhr mro mv mt ml med md mi mg msd msv mbd mbv mr mu mw)) (va_runV (As := [.int mch, .int p1, .int ((nI j))]) (rest := []) ⟨hx, hb, hml, hown, hts⟩ (c_X4_strength (l := l) (D := D) (cyD := cyD) (cyI := cyI) (cyJ := cyJ) (cyZ := cyZ) am bv bt bl be bdp bi bg bsd bsv bbd bbv br bu bw mn mm mch msp msb mno msn mbn mhr mro mv mt ml med md mi mg msd msv mbd mbv mr mu mw H.size mch p1 ((nI j)) hM C hmc hC4 (pingM c_4).choose (pingM c_4).choose_spec.1 (pingM c_4).choose_spec.2 j rfl (by have := Nat.lt_of_not_le (fun z => c_18 (nI_le (a := mn) z (by omega))); omega)) (cwV 3 hts gX4_surface_X4_strength rfl rfl rfl (by decide +kernel) ⟨Nat.le_of_ble_eq_true rfl, Nat.le_of_ble_eq_true rfl⟩) (kV (ci := 4) (q0 := 0) (q := (RX4, TX4, 24)) hN hK hPc hDc rfl rfl rfl) rfl rfl hl.1 rfl (lv_room (Nat.le_of_ble_eq_true rfl)) dX4_surface_28 ⟨Nat.le_of_ble_eq_true rfl, Nat.le_of_ble_eq_true rfl⟩) hP hD hS hA [0, 1, 2, 3, 4, 5, 6, 7, 8, 9, 10, 11, 12, 13, 14] [] [0, 1, 2, 3, 4, 5, 6, 7, 8, 9, 10, 11, 12, 13, 14] rfl rfl (by decide) (by decide) rfl (by decide) (fun H locs hP hD hS => ?_)
        refine lv_ldc2 (v := 500) hx hb hown (hts (.constantLong RX4 164 (500)) (List.mem_of_getElem? (i := 4) rfl)) dX4_surface_31 ?_
        refine W.lcmp hx hb dX4_surface_34 ?_
        refine lv_if_lt (tgt := 44) hx hb dX4_surface_35 (by decide) (fun c_35 => ?_) (fun c_35 => ?_)
        · refine lv_iload_n hx hb dX4_surface_44 rfl (lv_at hl 0 rfl) ?_
          refine lv_i2d hx hb dX4_surface_45 ?_
          refine lv_aload_n hx hb dX4_surface_46 rfl (lv_at hl 1 rfl) ?_
          refine va_get (D := D) (ci := 4) (v := .double mm) (C := RX4) (T := TX4) (N := 24) hx hb hts (fun _ h => (List.mem_cons_of_mem _ (List.mem_append_right _ h))) hown hK hP 0 rfl rfl 1 (by decide) (hts (.fieldLink RX4 61 "BottomWalksModel" "metre" "D") (List.mem_of_getElem? (i := 5) rfl)) (fun _ h9 => h9) rfl dX4_surface_47 ?_
          refine lv_dmul hx hb dX4_surface_50 (bd_n (bd_mul (Ka := 1056) (Kb := 1030) (K := 1064) (bd_i2d _) hM.2.2.1 (by decide) (by decide) (by decide)) (by decide)) ?_
          have hF9 : (fX4_surface mn mm mch msp msb mno mv mt ml p1) = (FP.dmul (FP.i2d (nI j)) mm) := by rw [hF, fX4_surface_L13, if_neg c_18, if_pos c_35]
          have hP9 : va_P D vwCl (wM cyD cyI cyJ cyZ am bv bt bl be bdp bi bg bsd bsv bbd bbv br bu bw mn mm mch msp msb mno msn mbn mhr mro mv mt ml med md mi mg msd msv mbd mbv mr mu mw) H := hP
          have hD9 : va_D A (wM cyD cyI cyJ cyZ am bv bt bl be bdp bi bg bsd bsv bbd bbv br bu bw mn mm mch msp msb mno msn mbn mhr mro mv mt ml med md mi mg msd msv mbd mbv mr mu mw) := hD
          exact W.dret (v := (FP.dmul (FP.i2d (nI j)) mm)) hx hb hr (fun t ht hW => ⟨⟨(FP.dmul (FP.i2d (nI j)) mm), (), rfl, (by rw [hF9]), by rw [ht]; exact hP9, va_K.moved hW.alike hK, hD9⟩, hS.F ht⟩) hS.2.2 dX4_surface_51
        refine lv_iinc (v := (((nI j)) + 1)) (lv' := [(2, .int (((nI j)) + 1)), (0, .ref am), (1, .int p1)]) hx hb dX4_surface_38 hl (k := 0) rfl rfl (by decide) rfl (fun ls hl => ?_)
        refine lv_goto (tgt := 13) hx hb dX4_surface_41 (by decide) ?_
        exact ih_13 (j + 1) _ _ (by omega) (by have := Nat.lt_of_not_le (fun z => c_18 (nI_le (a := mn) z (by omega))); omega) (by rw [← nI_1 j]; rw [hF, fX4_surface_L13, if_neg c_18, if_neg c_35]) hP hD hS _ (by rw [← nI_1 j]; exact lv_sub hl [0, 1, 2] rfl)
    exact loop_13 65 0 _ _ rfl (Nat.zero_le _) (by rw [nI_0]; rw [fX4_surface, if_neg c_4]) hP hD hS _ (by exact lv_sub hl [0, 1, 2] rfl)
  refine lv_ldc2d (v := 13830554455654793216) hx hb hown (hts (.constantDouble RX4 158 (13830554455654793216)) (List.mem_of_getElem? (i := 1) rfl)) dX4_surface_7 ?_
  have hF9 : (fX4_surface mn mm mch msp msb mno mv mt ml p1) = (13830554455654793216 : UInt64) := by rw [fX4_surface, if_pos c_4]
  have hP9 : va_P D vwCl (wM cyD cyI cyJ cyZ am bv bt bl be bdp bi bg bsd bsv bbd bbv br bu bw mn mm mch msp msb mno msn mbn mhr mro mv mt ml med md mi mg msd msv mbd mbv mr mu mw) H := hP
  have hD9 : va_D A (wM cyD cyI cyJ cyZ am bv bt bl be bdp bi bg bsd bsv bbd bbv br bu bw mn mm mch msp msb mno msn mbn mhr mro mv mt ml med md mi mg msd msv mbd mbv mr mu mw) := hD
  exact W.dret (v := (13830554455654793216 : UInt64)) hx hb hr (fun t ht hW => ⟨⟨(13830554455654793216 : UInt64), (), rfl, (by rw [hF9]), by rw [ht]; exact hP9, va_K.moved hW.alike hK, hD9⟩, hS.F ht⟩) hS.2.2 dX4_surface_10
def fX4_tail_L43 (mn : Nat) (mm : UInt64) (msp : UInt64) (msb : UInt64) (mno : UInt64) (mhr : Int32) (mro : Int32) (mv : Nat → UInt64) (mt : Nat → Int32) (ml : Nat → Int32) (med : Nat → Int32) (md : Nat → UInt64) (mr : Nat → Int32) (v_ff : Int32) (p1 : Int32) : Nat → (Int32) → (Int64) → UInt64
  | 0, v_j, v_sm => 0
  | k + 1, v_j, v_sm => if (nI mn) ≤ v_j then (FP.l2d v_sm) else (if (v_ff + (8 : Int32)) < v_j then (FP.l2d v_sm) else ((fX4_tail_L43 mn mm msp msb mno mhr mro mv mt ml med md mr v_ff p1 k ((v_j) + 1) (v_sm + (fX4_strength mm msp msb mno mv mt ml mro p1 (v_j))))))
def fX4_tail_L36 (mn : Nat) (mm : UInt64) (msp : UInt64) (msb : UInt64) (mno : UInt64) (mhr : Int32) (mro : Int32) (mv : Nat → UInt64) (mt : Nat → Int32) (ml : Nat → Int32) (med : Nat → Int32) (md : Nat → UInt64) (mr : Nat → Int32)  (p1 : Int32) : Nat → (Int32) → UInt64
  | 0, v_ff => 0
  | k + 1, v_ff => (fX4_tail_L43 mn mm msp msb mno mhr mro mv mt ml med md mr v_ff p1 66 (v_ff + (1 : Int32)) (0 : Int64))
def fX4_tail (mn : Nat) (mm : UInt64) (msp : UInt64) (msb : UInt64) (mno : UInt64) (mhr : Int32) (mro : Int32) (mv : Nat → UInt64) (mt : Nat → Int32) (ml : Nat → Int32) (med : Nat → Int32) (md : Nat → UInt64) (mr : Nat → Int32) (p1 : Int32) : UInt64 := if (fX4_isWalked mhr mr p1) = 0 then (13830554455654793216 : UInt64) else (if (med p1.toNatClampNeg) = 0 then (fX4_tail_L36 mn mm msp msb mno mhr mro mv mt ml med md mr p1 1 (mr p1.toNatClampNeg)) else ((fX4_tail_L36 mn mm msp msb mno mhr mro mv mt ml med md mr p1 1 (fX4_counting mn mm md p1))))
set_option maxHeartbeats 4000000 in
set_option maxRecDepth 100000 in
theorem c_X4_tail {l : Launch} {D : va_G} {cyD cyI cyJ cyZ : ClassId} (am bv bt bl be bdp bi bg bsd bsv bbd bbv br bu bw : Nat) (mn : Nat) (mm : UInt64) (mch : Int32) (msp : UInt64) (msb : UInt64) (mno : UInt64) (msn : Int32) (mbn : Int32) (mhr : Int32) (mro : Int32) (mv : Nat → UInt64) (mt : Nat → Int32) (ml : Nat → Int32) (med : Nat → Int32) (md : Nat → UInt64) (mi : Nat → UInt64) (mg : Nat → UInt64) (msd : Nat → UInt64) (msv : Nat → UInt64) (mbd : Nat → UInt64) (mbv : Nat → UInt64) (mr : Nat → Int32) (mu : Nat → Int64) (mw : Nat → Int32) (sz : Nat) (p1 : Int32) (hM : okM mn mm msp msb mno mv) (Rn : Nat) (hmro : mro = nI Rn) (hR4 : Rn < 4) (hmr : okRM mr) : mD l yX4_tail wsX4_tail ({ frames := 2, cells := 0, slots := 0, locals := 49 } : Room) D (kT cyD cyI cyJ cyZ) [.ref am, .int p1] (wM cyD cyI cyJ cyZ am bv bt bl be bdp bi bg bsd bsv bbd bbv br bu bw mn mm mch msp msb mno msn mbn mhr mro mv mt ml med md mi mg msd msv mbd mbv mr mu mw) (wM cyD cyI cyJ cyZ am bv bt bl be bdp bi bg bsd bsv bbd bbv br bu bw mn mm mch msp msb mno msn mbn mhr mro mv mt ml med md mi mg msd msv mbd mbv mr mu mw) sz (fX4_tail mn mm msp msb mno mhr mro mv mt ml med md mr p1) 0 0 := by
  refine Met.ofW (cc := cX4_tail) (maxL := 6) (ret := (some .double)) (by decide) rfl ?_
  intro p e s m args below meth c s₁ B hml hv
  obtain ⟨rfl, hN, hsz, hP, hK, hD0⟩ := hv
  have hx := B.exec
  have hb := B.bytes
  have hr := B.returns
  have hts := atoms_spec (ws := wsX4_tail) B.pre
  have hown : s.vm.findClass RX4 = some m.cls := findClass_of_methodNamed B.named
  have hlocks := B.notSynchronized
  subst hsz
  have hD := hD0.self (sz := s.heap.size)
  generalize hAe : va_A (wM cyD cyI cyJ cyZ am bv bt bl be bdp bi bg bsd bsv bbd bbv br bu bw mn mm mch msp msb mno msn mbn mhr mro mv mt ml med md mi mg msd msv mbd mbv mr mu mw) s.heap.size = A at hD ⊢
  have hA : ∀ q : Nat, s.heap.size ≤ q → A q := fun q h => by rw [← hAe]; exact Or.inr h
  have hS : va_S A s.heap s.heap [] := va_S.rf
  have hP : va_P D vwCl (wM cyD cyI cyJ cyZ am bv bt bl be bdp bi bg bsd bsv bbd bbv br bu bw mn mm mch msp msb mno msn mbn mhr mro mv mt ml med md mi mg msd msv mbd mbv mr mu mw) s.heap := hP
  have hl := lv_entry [.ref am, .int p1] (n := 6) (Nat.le_of_ble_eq_true rfl)
  rw [lg_entry_eq]
  generalize (lg_sl [.ref am, .int p1] ++ List.replicate (6 - (lg_sl [.ref am, .int p1]).length) Slot.unset).toArray = ls at hl ⊢
  have hl : lv_has ls 6 [(0, .ref am), (1, .int p1)] := hl
  obtain ⟨H, hHe⟩ : ∃ H : Heap, H = s.heap := ⟨_, rfl⟩
  have hP : va_P D vwCl (wM cyD cyI cyJ cyZ am bv bt bl be bdp bi bg bsd bsv bbd bbv br bu bw mn mm mch msp msb mno msn mbn mhr mro mv mt ml med md mi mg msd msv mbd mbv mr mu mw) H := by rw [hHe]; exact hP
  have hS : va_S A s.heap H [] := by rw [hHe]; exact hS
  rw [← hHe]
  refine lv_aload_n hx hb dX4_tail_0 rfl (lv_at hl 0 rfl) ?_
  refine lv_iload_n hx hb dX4_tail_1 rfl (lv_at hl 1 rfl) ?_
  have hPc : va_P D vwCl (wM cyD cyI cyJ cyZ am bv bt bl be bdp bi bg bsd bsv bbd bbv br bu bw mn mm mch msp msb mno msn mbn mhr mro mv mt ml med md mi mg msd msv mbd mbv mr mu mw) H := hP.sub [0, 1, 2, 3, 4, 5, 6, 7, 8, 9, 10, 11, 12, 13, 14] rfl
  have hDc : va_D A (wM cyD cyI cyJ cyZ am bv bt bl be bdp bi bg bsd bsv bbd bbv br bu bw mn mm mch msp msb mno msn mbn mhr mro mv mt ml med md mi mg msd msv mbd mbv mr mu mw) := hD.sub [0, 1, 2, 3, 4, 5, 6, 7, 8, 9, 10, 11, 12, 13, 14] (by decide) rfl
  refine kzE (ws' := (wM cyD cyI cyJ cyZ am bv bt bl be bdp bi bg bsd bsv bbd bbv br bu bw mn mm mch msp msb mno msn mbn mhr mro mv mt ml med md mi mg msd msv mbd mbv mr mu mw)) (wc := (wM cyD cyI cyJ cyZ am bv bt bl be bdp bi bg bsd bsv bbd bbv br bu bw mn mm mch msp msb mno msn mbn mhr mro mv mt ml med md mi mg msd msv mbd mbv mr mu mw)) (wr := []) (w1 := (wM cyD cyI cyJ cyZ am bv bt bl be bdp bi bg bsd bsv bbd bbv br bu bw mn mm mch msp msb mno msn mbn mhr mro mv mt ml med md mi mg msd msv mbd mbv mr mu mw)) (va_runV (As := [.int p1]) (rest := []) ⟨hx, hb, hml, hown, hts⟩ (c_X4_isWalked (l := l) (D := D) (cyD := cyD) (cyI := cyI) (cyJ := cyJ) (cyZ := cyZ) am bv bt bl be bdp bi bg bsd bsv bbd bbv br bu bw mn mm mch msp msb mno msn mbn mhr mro mv mt ml med md mi mg msd msv mbd mbv mr mu mw H.size p1) (cwV 1 hts gX4_tail_X4_isWalked rfl rfl rfl (by decide +kernel) ⟨Nat.le_of_ble_eq_true rfl, Nat.le_of_ble_eq_true rfl⟩) (kV (ci := 4) (q0 := 0) (q := (RX4, TX4, 24)) hN hK hPc hDc rfl rfl rfl) rfl rfl hl.1 rfl (lv_room (Nat.le_of_ble_eq_true rfl)) dX4_tail_2 ⟨Nat.le_of_ble_eq_true rfl, Nat.le_of_ble_eq_true rfl⟩) hP hD hS hA [0, 1, 2, 3, 4, 5, 6, 7, 8, 9, 10, 11, 12, 13, 14] [] [0, 1, 2, 3, 4, 5, 6, 7, 8, 9, 10, 11, 12, 13, 14] rfl rfl (by decide) (by decide) rfl (by decide) (fun H locs hz_2 hP hD hS => ?_)
  refine lv_if_ne (tgt := 12) hx hb dX4_tail_5 (by decide) (fun c_5 => ?_) (fun c_5 => ?_)
  · refine lv_aload_n hx hb dX4_tail_12 rfl (lv_at hl 0 rfl) ?_
    refine va_get (D := D) (ci := 4) (v := .ref be) (C := RX4) (T := TX4) (N := 24) hx hb hts (fun _ h => (List.mem_cons_of_mem _ (List.mem_append_right _ h))) hown hK hP 0 rfl rfl 5 (by decide) (hts (.fieldLink RX4 20 "BottomWalksModel" "isEdited" "[Z") (List.mem_of_getElem? (i := 2) rfl)) (fun _ h9 => h9) rfl dX4_tail_13 ?_
    refine lv_iload_n hx hb dX4_tail_16 rfl (lv_at hl 1 rfl) ?_
    refine va_zald hx hb hK hP 4 3 rfl rfl (nI_in' (wkM c_5).choose_spec.1 (wkM c_5).choose_spec.2.1 (by decide)) dX4_tail_17 ?_
    refine lv_if_eq (tgt := 29) hx hb dX4_tail_18 (by decide) (fun c_18 => ?_) (fun c_18 => ?_)
    · refine lv_aload_n hx hb dX4_tail_29 rfl (lv_at hl 0 rfl) ?_
      refine va_get (D := D) (ci := 4) (v := .ref br) (C := RX4) (T := TX4) (N := 24) hx hb hts (fun _ h => (List.mem_cons_of_mem _ (List.mem_append_right _ h))) hown hK hP 0 rfl rfl 21 (by decide) (hts (.fieldLink RX4 44 "BottomWalksModel" "row" "[I") (List.mem_of_getElem? (i := 3) rfl)) (fun _ h9 => h9) rfl dX4_tail_30 ?_
      refine lv_iload_n hx hb dX4_tail_33 rfl (lv_at hl 1 rfl) ?_
      refine va_iald hx hb hK hP 12 1 rfl rfl (nI_in' (wkM c_5).choose_spec.1 (wkM c_5).choose_spec.2.1 (by decide)) dX4_tail_34 ?_
      refine lv_istore_n (lv' := [(2, .int (mr p1.toNatClampNeg)), (0, .ref am), (1, .int p1)]) hx hb dX4_tail_35 rfl hl (by decide) rfl (fun ls hl => ?_)
      have loop_36 : ∀ (k : Nat) (ff : Int32) (H : Heap) (locs : List Loc), (k = 1) → (∃ a : Nat, a < 64 ∧ ff = nI a) → (fX4_tail mn mm msp msb mno mhr mro mv mt ml med md mr p1) = fX4_tail_L36 mn mm msp msb mno mhr mro mv mt ml med md mr p1 k (ff) → va_P D vwCl (wM cyD cyI cyJ cyZ am bv bt bl be bdp bi bg bsd bsv bbd bbv br bu bw mn mm mch msp msb mno msn mbn mhr mro mv mt ml med md mi mg msd msv mbd mbv mr mu mw) H → va_D A (wM cyD cyI cyJ cyZ am bv bt bl be bdp bi bg bsd bsv bbd bbv br bu bw mn mm mch msp msb mno msn mbn mhr mro mv mt ml med md mi mg msd msv mbd mbv mr mu mw) → va_S A s.heap H locs → ∀ ls, lv_has ls 6 [(2, .int (ff)), (0, .ref am), (1, .int p1)] → W p l e (headSpec wsX4_tail ({ frames := 2, cells := 0, slots := 0, locals := 49 } : Room)).room s m ([.ref am, .int p1] : List Value).toArray below meth c H locs 0 0 (MQ below (va_Qd (fun (r : UInt64) (_ : Unit) => r = (fX4_tail mn mm msp msb mno mhr mro mv mt ml med md mr p1)) (kE D (kT cyD cyI cyJ cyZ) (wM cyD cyI cyJ cyZ am bv bt bl be bdp bi bg bsd bsv bbd bbv br bu bw mn mm mch msp msb mno msn mbn mhr mro mv mt ml med md mi mg msd msv mbd mbv mr mu mw) A) A) ([.ref am, .int p1] : List Value).toArray s 0 0 A) (F0 m 36 ls []) := by
        intro k_36
        induction k_36 with
        | zero => intro ff H locs hkk ha hF hP hD hS ls hl; exact absurd hkk (by decide)
        | succ k_36 ih_36 =>
          intro ff H locs hkk ha hF hP hD hS ls hl
          obtain ⟨a, ha1, hta⟩ := ha
          refine lv_lconst (v := 0) hx hb dX4_tail_36 rfl ?_
          refine lv_lstore_n (lv' := [(3, .long (0 : Int64)), (2, .int (ff)), (0, .ref am), (1, .int p1)]) hx hb dX4_tail_37 rfl hl (by decide) rfl (fun ls hl => ?_)
          refine lv_iload_n hx hb dX4_tail_38 rfl (lv_at hl 1 rfl) ?_
          refine lv_iconst (v := 1) hx hb dX4_tail_39 (by decide) ?_
          refine lv_iadd hx hb dX4_tail_40 ?_
          refine lv_istore (lv' := [(5, .int (ff + (1 : Int32))), (3, .long (0 : Int64)), (2, .int (ff)), (0, .ref am), (1, .int p1)]) hx hb dX4_tail_41 hl (by decide) rfl (fun ls hl => ?_)
          have loop_43 : ∀ (k : Nat) (j : Nat) (sm : Int64) (H : Heap) (locs : List Loc), (66 ≤ j + k) → (j ≤ 64) → (fX4_tail mn mm msp msb mno mhr mro mv mt ml med md mr p1) = fX4_tail_L43 mn mm msp msb mno mhr mro mv mt ml med md mr ff p1 k ((nI j)) (sm) → va_P D vwCl (wM cyD cyI cyJ cyZ am bv bt bl be bdp bi bg bsd bsv bbd bbv br bu bw mn mm mch msp msb mno msn mbn mhr mro mv mt ml med md mi mg msd msv mbd mbv mr mu mw) H → va_D A (wM cyD cyI cyJ cyZ am bv bt bl be bdp bi bg bsd bsv bbd bbv br bu bw mn mm mch msp msb mno msn mbn mhr mro mv mt ml med md mi mg msd msv mbd mbv mr mu mw) → va_S A s.heap H locs → ∀ ls, lv_has ls 6 [(5, .int ((nI j))), (3, .long (sm)), (2, .int (ff)), (0, .ref am), (1, .int p1)] → W p l e (headSpec wsX4_tail ({ frames := 2, cells := 0, slots := 0, locals := 49 } : Room)).room s m ([.ref am, .int p1] : List Value).toArray below meth c H locs 0 0 (MQ below (va_Qd (fun (r : UInt64) (_ : Unit) => r = (fX4_tail mn mm msp msb mno mhr mro mv mt ml med md mr p1)) (kE D (kT cyD cyI cyJ cyZ) (wM cyD cyI cyJ cyZ am bv bt bl be bdp bi bg bsd bsv bbd bbv br bu bw mn mm mch msp msb mno msn mbn mhr mro mv mt ml med md mi mg msd msv mbd mbv mr mu mw) A) A) ([.ref am, .int p1] : List Value).toArray s 0 0 A) (F0 m 43 ls []) := by
            intro k_43
            induction k_43 with
            | zero => intro j sm H locs hj hj3 hF hP hD hS ls hl; exact absurd hj3 (by omega)
            | succ k_43 ih_43 =>
              intro j sm H locs hj hj3 hF hP hD hS ls hl
              refine lv_iload hx hb dX4_tail_43 (lv_at hl 0 rfl) ?_
              refine lv_aload_n hx hb dX4_tail_45 rfl (lv_at hl 3 rfl) ?_
              refine va_get (D := D) (ci := 4) (v := .int (nI mn)) (C := RX4) (T := TX4) (N := 24) hx hb hts (fun _ h => (List.mem_cons_of_mem _ (List.mem_append_right _ h))) hown hK hP 0 rfl rfl 0 (by decide) (hts (.fieldLink RX4 55 "BottomWalksModel" "samples" "I") (List.mem_of_getElem? (i := 4) rfl)) (fun _ h9 => h9) rfl dX4_tail_46 ?_
              refine lv_icmp_ge (tgt := 81) hx hb dX4_tail_49 (by decide) (fun c_49 => ?_) (fun c_49 => ?_)
              · refine lv_lload_n hx hb dX4_tail_81 rfl (lv_at hl 1 rfl) ?_
                refine lv_l2d hx hb dX4_tail_82 ?_
                have hF9 : (fX4_tail mn mm msp msb mno mhr mro mv mt ml med md mr p1) = (FP.l2d sm) := by rw [hF, fX4_tail_L43, if_pos c_49]
                have hP9 : va_P D vwCl (wM cyD cyI cyJ cyZ am bv bt bl be bdp bi bg bsd bsv bbd bbv br bu bw mn mm mch msp msb mno msn mbn mhr mro mv mt ml med md mi mg msd msv mbd mbv mr mu mw) H := hP
                have hD9 : va_D A (wM cyD cyI cyJ cyZ am bv bt bl be bdp bi bg bsd bsv bbd bbv br bu bw mn mm mch msp msb mno msn mbn mhr mro mv mt ml med md mi mg msd msv mbd mbv mr mu mw) := hD
                exact W.dret (v := (FP.l2d sm)) hx hb hr (fun t ht hW => ⟨⟨(FP.l2d sm), (), rfl, (by rw [hF9]), by rw [ht]; exact hP9, va_K.moved hW.alike hK, hD9⟩, hS.F ht⟩) hS.2.2 dX4_tail_83
              refine lv_iload hx hb dX4_tail_52 (lv_at hl 0 rfl) ?_
              refine lv_iload_n hx hb dX4_tail_54 rfl (lv_at hl 2 rfl) ?_
              refine lv_bipush (v := 8) hx hb dX4_tail_55 (by decide) ?_
              refine lv_iadd hx hb dX4_tail_57 ?_
              refine lv_icmp_gt (tgt := 81) hx hb dX4_tail_58 (by decide) (fun c_58 => ?_) (fun c_58 => ?_)
              · refine lv_lload_n hx hb dX4_tail_81 rfl (lv_at hl 1 rfl) ?_
                refine lv_l2d hx hb dX4_tail_82 ?_
                have hF9 : (fX4_tail mn mm msp msb mno mhr mro mv mt ml med md mr p1) = (FP.l2d sm) := by rw [hF, fX4_tail_L43, if_neg c_49, if_pos c_58]
                have hP9 : va_P D vwCl (wM cyD cyI cyJ cyZ am bv bt bl be bdp bi bg bsd bsv bbd bbv br bu bw mn mm mch msp msb mno msn mbn mhr mro mv mt ml med md mi mg msd msv mbd mbv mr mu mw) H := hP
                have hD9 : va_D A (wM cyD cyI cyJ cyZ am bv bt bl be bdp bi bg bsd bsv bbd bbv br bu bw mn mm mch msp msb mno msn mbn mhr mro mv mt ml med md mi mg msd msv mbd mbv mr mu mw) := hD
                exact W.dret (v := (FP.l2d sm)) hx hb hr (fun t ht hW => ⟨⟨(FP.l2d sm), (), rfl, (by rw [hF9]), by rw [ht]; exact hP9, va_K.moved hW.alike hK, hD9⟩, hS.F ht⟩) hS.2.2 dX4_tail_83
              refine lv_lload_n hx hb dX4_tail_61 rfl (lv_at hl 1 rfl) ?_
              refine lv_aload_n hx hb dX4_tail_62 rfl (lv_at hl 3 rfl) ?_
              refine lv_aload_n hx hb dX4_tail_63 rfl (lv_at hl 3 rfl) ?_
              refine va_get (D := D) (ci := 4) (v := .int mro) (C := RX4) (T := TX4) (N := 24) hx hb hts (fun _ h => (List.mem_cons_of_mem _ (List.mem_append_right _ h))) hown hK hP 0 rfl rfl 20 (by decide) (hts (.fieldLink RX4 136 "BottomWalksModel" "runOf" "I") (List.mem_of_getElem? (i := 5) rfl)) (fun _ h9 => h9) rfl dX4_tail_64 ?_
              refine lv_iload_n hx hb dX4_tail_67 rfl (lv_at hl 4 rfl) ?_
              refine lv_iload hx hb dX4_tail_68 (lv_at hl 0 rfl) ?_
              have hPc : va_P D vwCl (wM cyD cyI cyJ cyZ am bv bt bl be bdp bi bg bsd bsv bbd bbv br bu bw mn mm mch msp msb mno msn mbn mhr mro mv mt ml med md mi mg msd msv mbd mbv mr mu mw) H := hP.sub [0, 1, 2, 3, 4, 5, 6, 7, 8, 9, 10, 11, 12, 13, 14] rfl
              have hDc : va_D A (wM cyD cyI cyJ cyZ am bv bt bl be bdp bi bg bsd bsv bbd bbv br bu bw mn mm mch msp msb mno msn mbn mhr mro mv mt ml med md mi mg msd msv mbd mbv mr mu mw) := hD.sub [0, 1, 2, 3, 4, 5, 6, 7, 8, 9, 10, 11, 12, 13, 14] (by decide) rfl
              refine klE (ws' := (wM cyD cyI cyJ cyZ am bv bt bl be bdp bi bg bsd bsv bbd bbv br bu bw mn mm mch msp msb mno msn mbn mhr mro mv mt ml med md mi mg msd msv mbd mbv mr mu mw)) (wc := (wM cyD cyI cyJ cyZ am bv bt bl be bdp bi bg bsd bsv bbd bbv br bu bw mn mm mch msp msb mno msn mbn mhr mro mv mt ml med md mi mg msd msv mbd mbv mr mu mw)) (wr := []) (w1 := (wM cyD cyI cyJ cyZ am bv bt bl be bdp bi bg bsd bsv bbd bbv br bu bw mn mm mch msp msb mno msn mbn mhr mro mv mt ml med md mi mg msd msv mbd mbv mr mu mw)) (va_runV (As := [.int mro, .int p1, .int ((nI j))]) (rest := [.long (sm)]) ⟨hx, hb, hml, hown, hts⟩ (c_X4_strength (l := l) (D := D) (cyD := cyD) (cyI := cyI) (cyJ := cyJ) (cyZ := cyZ) am bv bt bl be bdp bi bg bsd bsv bbd bbv br bu bw mn mm mch msp msb mno msn mbn mhr mro mv mt ml med md mi mg msd msv mbd mbv mr mu mw H.size mro p1 ((nI j)) hM Rn hmro hR4 (wkM c_5).choose (wkM c_5).choose_spec.1 (wkM c_5).choose_spec.2.1 j rfl (by have := Nat.lt_of_not_le (fun z => c_49 (nI_le (a := mn) z (by omega))); have := hM.2.1; omega)) (cwV 3 hts gX4_tail_X4_strength rfl rfl rfl (by decide +kernel) ⟨Nat.le_of_ble_eq_true rfl, Nat.le_of_ble_eq_true rfl⟩) (kV (ci := 4) (q0 := 0) (q := (RX4, TX4, 24)) hN hK hPc hDc rfl rfl rfl) rfl rfl hl.1 rfl (lv_room (Nat.le_of_ble_eq_true rfl)) dX4_tail_70 ⟨Nat.le_of_ble_eq_true rfl, Nat.le_of_ble_eq_true rfl⟩) hP hD hS hA [0, 1, 2, 3, 4, 5, 6, 7, 8, 9, 10, 11, 12, 13, 14] [] [0, 1, 2, 3, 4, 5, 6, 7, 8, 9, 10, 11, 12, 13, 14] rfl rfl (by decide) (by decide) rfl (by decide) (fun H locs hP hD hS => ?_)
              refine lv_ladd hx hb dX4_tail_73 ?_
              refine lv_lstore_n (lv' := [(3, .long (sm + (fX4_strength mm msp msb mno mv mt ml mro p1 ((nI j))))), (5, .int ((nI j))), (2, .int (ff)), (0, .ref am), (1, .int p1)]) hx hb dX4_tail_74 rfl hl (by decide) rfl (fun ls hl => ?_)
              refine lv_iinc (v := (((nI j)) + 1)) (lv' := [(5, .int (((nI j)) + 1)), (3, .long (sm + (fX4_strength mm msp msb mno mv mt ml mro p1 ((nI j))))), (2, .int (ff)), (0, .ref am), (1, .int p1)]) hx hb dX4_tail_75 hl (k := 1) rfl rfl (by decide) rfl (fun ls hl => ?_)
              refine lv_goto (tgt := 43) hx hb dX4_tail_78 (by decide) ?_
              exact ih_43 (j + 1) (sm + (fX4_strength mm msp msb mno mv mt ml mro p1 ((nI j)))) _ _ (by omega) (by have := Nat.lt_of_not_le (fun z => c_49 (nI_le (a := mn) z (by omega))); have := hM.2.1; omega) (by rw [← nI_1 j]; rw [hF, fX4_tail_L43, if_neg c_49, if_neg c_58]) hP hD hS _ (by rw [← nI_1 j]; exact lv_sub hl [0, 1, 2, 3, 4] rfl)
          exact loop_43 66 (a + 1) (0 : Int64) _ _ (by omega) (by omega) (by rw [← nI_1 a, ← hta]; rw [hF, fX4_tail_L36]) hP hD hS _ (by rw [← nI_1 a, ← hta]; exact lv_sub hl [0, 1, 2, 3, 4] rfl)
      exact loop_36 1 (mr p1.toNatClampNeg) _ _ rfl (rowM hmr c_5) (by rw [fX4_tail, if_neg c_5, if_pos c_18]) hP hD hS _ (by exact lv_sub hl [0, 1, 2] rfl)
    refine lv_aload_n hx hb dX4_tail_21 rfl (lv_at hl 0 rfl) ?_
    refine lv_iload_n hx hb dX4_tail_22 rfl (lv_at hl 1 rfl) ?_
    have hPc : va_P D vwCl (wM cyD cyI cyJ cyZ am bv bt bl be bdp bi bg bsd bsv bbd bbv br bu bw mn mm mch msp msb mno msn mbn mhr mro mv mt ml med md mi mg msd msv mbd mbv mr mu mw) H := hP.sub [0, 1, 2, 3, 4, 5, 6, 7, 8, 9, 10, 11, 12, 13, 14] rfl
    have hDc : va_D A (wM cyD cyI cyJ cyZ am bv bt bl be bdp bi bg bsd bsv bbd bbv br bu bw mn mm mch msp msb mno msn mbn mhr mro mv mt ml med md mi mg msd msv mbd mbv mr mu mw) := hD.sub [0, 1, 2, 3, 4, 5, 6, 7, 8, 9, 10, 11, 12, 13, 14] (by decide) rfl
    refine kiE (ws' := (wM cyD cyI cyJ cyZ am bv bt bl be bdp bi bg bsd bsv bbd bbv br bu bw mn mm mch msp msb mno msn mbn mhr mro mv mt ml med md mi mg msd msv mbd mbv mr mu mw)) (wc := (wM cyD cyI cyJ cyZ am bv bt bl be bdp bi bg bsd bsv bbd bbv br bu bw mn mm mch msp msb mno msn mbn mhr mro mv mt ml med md mi mg msd msv mbd mbv mr mu mw)) (wr := []) (w1 := (wM cyD cyI cyJ cyZ am bv bt bl be bdp bi bg bsd bsv bbd bbv br bu bw mn mm mch msp msb mno msn mbn mhr mro mv mt ml med md mi mg msd msv mbd mbv mr mu mw)) (va_runV (As := [.int p1]) (rest := []) ⟨hx, hb, hml, hown, hts⟩ (c_X4_counting (l := l) (D := D) (cyD := cyD) (cyI := cyI) (cyJ := cyJ) (cyZ := cyZ) am bv bt bl be bdp bi bg bsd bsv bbd bbv br bu bw mn mm mch msp msb mno msn mbn mhr mro mv mt ml med md mi mg msd msv mbd mbv mr mu mw H.size p1 hM (wkM c_5).choose (wkM c_5).choose_spec.1 (wkM c_5).choose_spec.2.1) (cwV 1 hts gX4_tail_X4_counting rfl rfl rfl (by decide +kernel) ⟨Nat.le_of_ble_eq_true rfl, Nat.le_of_ble_eq_true rfl⟩) (kV (ci := 4) (q0 := 0) (q := (RX4, TX4, 24)) hN hK hPc hDc rfl rfl rfl) rfl rfl hl.1 rfl (lv_room (Nat.le_of_ble_eq_true rfl)) dX4_tail_23 ⟨Nat.le_of_ble_eq_true rfl, Nat.le_of_ble_eq_true rfl⟩) hP hD hS hA [0, 1, 2, 3, 4, 5, 6, 7, 8, 9, 10, 11, 12, 13, 14] [] [0, 1, 2, 3, 4, 5, 6, 7, 8, 9, 10, 11, 12, 13, 14] rfl rfl (by decide) (by decide) rfl (by decide) (fun H locs hP hD hS => ?_)
    refine lv_goto (tgt := 35) hx hb dX4_tail_26 (by decide) ?_
    refine lv_istore_n (lv' := [(2, .int (fX4_counting mn mm md p1)), (0, .ref am), (1, .int p1)]) hx hb dX4_tail_35 rfl hl (by decide) rfl (fun ls hl => ?_)
    have loop_36 : ∀ (k : Nat) (ff : Int32) (H : Heap) (locs : List Loc), (k = 1) → (∃ a : Nat, a < 64 ∧ ff = nI a) → (fX4_tail mn mm msp msb mno mhr mro mv mt ml med md mr p1) = fX4_tail_L36 mn mm msp msb mno mhr mro mv mt ml med md mr p1 k (ff) → va_P D vwCl (wM cyD cyI cyJ cyZ am bv bt bl be bdp bi bg bsd bsv bbd bbv br bu bw mn mm mch msp msb mno msn mbn mhr mro mv mt ml med md mi mg msd msv mbd mbv mr mu mw) H → va_D A (wM cyD cyI cyJ cyZ am bv bt bl be bdp bi bg bsd bsv bbd bbv br bu bw mn mm mch msp msb mno msn mbn mhr mro mv mt ml med md mi mg msd msv mbd mbv mr mu mw) → va_S A s.heap H locs → ∀ ls, lv_has ls 6 [(2, .int (ff)), (0, .ref am), (1, .int p1)] → W p l e (headSpec wsX4_tail ({ frames := 2, cells := 0, slots := 0, locals := 49 } : Room)).room s m ([.ref am, .int p1] : List Value).toArray below meth c H locs 0 0 (MQ below (va_Qd (fun (r : UInt64) (_ : Unit) => r = (fX4_tail mn mm msp msb mno mhr mro mv mt ml med md mr p1)) (kE D (kT cyD cyI cyJ cyZ) (wM cyD cyI cyJ cyZ am bv bt bl be bdp bi bg bsd bsv bbd bbv br bu bw mn mm mch msp msb mno msn mbn mhr mro mv mt ml med md mi mg msd msv mbd mbv mr mu mw) A) A) ([.ref am, .int p1] : List Value).toArray s 0 0 A) (F0 m 36 ls []) := by
      intro k_36
      induction k_36 with
      | zero => intro ff H locs hkk ha hF hP hD hS ls hl; exact absurd hkk (by decide)
      | succ k_36 ih_36 =>
        intro ff H locs hkk ha hF hP hD hS ls hl
        obtain ⟨a, ha1, hta⟩ := ha
        refine lv_lconst (v := 0) hx hb dX4_tail_36 rfl ?_
        refine lv_lstore_n (lv' := [(3, .long (0 : Int64)), (2, .int (ff)), (0, .ref am), (1, .int p1)]) hx hb dX4_tail_37 rfl hl (by decide) rfl (fun ls hl => ?_)
        refine lv_iload_n hx hb dX4_tail_38 rfl (lv_at hl 1 rfl) ?_
        refine lv_iconst (v := 1) hx hb dX4_tail_39 (by decide) ?_
        refine lv_iadd hx hb dX4_tail_40 ?_
        refine lv_istore (lv' := [(5, .int (ff + (1 : Int32))), (3, .long (0 : Int64)), (2, .int (ff)), (0, .ref am), (1, .int p1)]) hx hb dX4_tail_41 hl (by decide) rfl (fun ls hl => ?_)
        have loop_43 : ∀ (k : Nat) (j : Nat) (sm : Int64) (H : Heap) (locs : List Loc), (66 ≤ j + k) → (j ≤ 64) → (fX4_tail mn mm msp msb mno mhr mro mv mt ml med md mr p1) = fX4_tail_L43 mn mm msp msb mno mhr mro mv mt ml med md mr ff p1 k ((nI j)) (sm) → va_P D vwCl (wM cyD cyI cyJ cyZ am bv bt bl be bdp bi bg bsd bsv bbd bbv br bu bw mn mm mch msp msb mno msn mbn mhr mro mv mt ml med md mi mg msd msv mbd mbv mr mu mw) H → va_D A (wM cyD cyI cyJ cyZ am bv bt bl be bdp bi bg bsd bsv bbd bbv br bu bw mn mm mch msp msb mno msn mbn mhr mro mv mt ml med md mi mg msd msv mbd mbv mr mu mw) → va_S A s.heap H locs → ∀ ls, lv_has ls 6 [(5, .int ((nI j))), (3, .long (sm)), (2, .int (ff)), (0, .ref am), (1, .int p1)] → W p l e (headSpec wsX4_tail ({ frames := 2, cells := 0, slots := 0, locals := 49 } : Room)).room s m ([.ref am, .int p1] : List Value).toArray below meth c H locs 0 0 (MQ below (va_Qd (fun (r : UInt64) (_ : Unit) => r = (fX4_tail mn mm msp msb mno mhr mro mv mt ml med md mr p1)) (kE D (kT cyD cyI cyJ cyZ) (wM cyD cyI cyJ cyZ am bv bt bl be bdp bi bg bsd bsv bbd bbv br bu bw mn mm mch msp msb mno msn mbn mhr mro mv mt ml med md mi mg msd msv mbd mbv mr mu mw) A) A) ([.ref am, .int p1] : List Value).toArray s 0 0 A) (F0 m 43 ls []) := by
          intro k_43
          induction k_43 with
          | zero => intro j sm H locs hj hj3 hF hP hD hS ls hl; exact absurd hj3 (by omega)
          | succ k_43 ih_43 =>
            intro j sm H locs hj hj3 hF hP hD hS ls hl
            refine lv_iload hx hb dX4_tail_43 (lv_at hl 0 rfl) ?_
            refine lv_aload_n hx hb dX4_tail_45 rfl (lv_at hl 3 rfl) ?_
            refine va_get (D := D) (ci := 4) (v := .int (nI mn)) (C := RX4) (T := TX4) (N := 24) hx hb hts (fun _ h => (List.mem_cons_of_mem _ (List.mem_append_right _ h))) hown hK hP 0 rfl rfl 0 (by decide) (hts (.fieldLink RX4 55 "BottomWalksModel" "samples" "I") (List.mem_of_getElem? (i := 4) rfl)) (fun _ h9 => h9) rfl dX4_tail_46 ?_
            refine lv_icmp_ge (tgt := 81) hx hb dX4_tail_49 (by decide) (fun c_49 => ?_) (fun c_49 => ?_)
            · refine lv_lload_n hx hb dX4_tail_81 rfl (lv_at hl 1 rfl) ?_
              refine lv_l2d hx hb dX4_tail_82 ?_
              have hF9 : (fX4_tail mn mm msp msb mno mhr mro mv mt ml med md mr p1) = (FP.l2d sm) := by rw [hF, fX4_tail_L43, if_pos c_49]
              have hP9 : va_P D vwCl (wM cyD cyI cyJ cyZ am bv bt bl be bdp bi bg bsd bsv bbd bbv br bu bw mn mm mch msp msb mno msn mbn mhr mro mv mt ml med md mi mg msd msv mbd mbv mr mu mw) H := hP
              have hD9 : va_D A (wM cyD cyI cyJ cyZ am bv bt bl be bdp bi bg bsd bsv bbd bbv br bu bw mn mm mch msp msb mno msn mbn mhr mro mv mt ml med md mi mg msd msv mbd mbv mr mu mw) := hD
              exact W.dret (v := (FP.l2d sm)) hx hb hr (fun t ht hW => ⟨⟨(FP.l2d sm), (), rfl, (by rw [hF9]), by rw [ht]; exact hP9, va_K.moved hW.alike hK, hD9⟩, hS.F ht⟩) hS.2.2 dX4_tail_83
            refine lv_iload hx hb dX4_tail_52 (lv_at hl 0 rfl) ?_
            refine lv_iload_n hx hb dX4_tail_54 rfl (lv_at hl 2 rfl) ?_
            refine lv_bipush (v := 8) hx hb dX4_tail_55 (by decide) ?_
            refine lv_iadd hx hb dX4_tail_57 ?_
            refine lv_icmp_gt (tgt := 81) hx hb dX4_tail_58 (by decide) (fun c_58 => ?_) (fun c_58 => ?_)
            · refine lv_lload_n hx hb dX4_tail_81 rfl (lv_at hl 1 rfl) ?_
              refine lv_l2d hx hb dX4_tail_82 ?_
              have hF9 : (fX4_tail mn mm msp msb mno mhr mro mv mt ml med md mr p1) = (FP.l2d sm) := by rw [hF, fX4_tail_L43, if_neg c_49, if_pos c_58]
              have hP9 : va_P D vwCl (wM cyD cyI cyJ cyZ am bv bt bl be bdp bi bg bsd bsv bbd bbv br bu bw mn mm mch msp msb mno msn mbn mhr mro mv mt ml med md mi mg msd msv mbd mbv mr mu mw) H := hP
              have hD9 : va_D A (wM cyD cyI cyJ cyZ am bv bt bl be bdp bi bg bsd bsv bbd bbv br bu bw mn mm mch msp msb mno msn mbn mhr mro mv mt ml med md mi mg msd msv mbd mbv mr mu mw) := hD
              exact W.dret (v := (FP.l2d sm)) hx hb hr (fun t ht hW => ⟨⟨(FP.l2d sm), (), rfl, (by rw [hF9]), by rw [ht]; exact hP9, va_K.moved hW.alike hK, hD9⟩, hS.F ht⟩) hS.2.2 dX4_tail_83
            refine lv_lload_n hx hb dX4_tail_61 rfl (lv_at hl 1 rfl) ?_
            refine lv_aload_n hx hb dX4_tail_62 rfl (lv_at hl 3 rfl) ?_
            refine lv_aload_n hx hb dX4_tail_63 rfl (lv_at hl 3 rfl) ?_
            refine va_get (D := D) (ci := 4) (v := .int mro) (C := RX4) (T := TX4) (N := 24) hx hb hts (fun _ h => (List.mem_cons_of_mem _ (List.mem_append_right _ h))) hown hK hP 0 rfl rfl 20 (by decide) (hts (.fieldLink RX4 136 "BottomWalksModel" "runOf" "I") (List.mem_of_getElem? (i := 5) rfl)) (fun _ h9 => h9) rfl dX4_tail_64 ?_
            refine lv_iload_n hx hb dX4_tail_67 rfl (lv_at hl 4 rfl) ?_
            refine lv_iload hx hb dX4_tail_68 (lv_at hl 0 rfl) ?_
            have hPc : va_P D vwCl (wM cyD cyI cyJ cyZ am bv bt bl be bdp bi bg bsd bsv bbd bbv br bu bw mn mm mch msp msb mno msn mbn mhr mro mv mt ml med md mi mg msd msv mbd mbv mr mu mw) H := hP.sub [0, 1, 2, 3, 4, 5, 6, 7, 8, 9, 10, 11, 12, 13, 14] rfl
            have hDc : va_D A (wM cyD cyI cyJ cyZ am bv bt bl be bdp bi bg bsd bsv bbd bbv br bu bw mn mm mch msp msb mno msn mbn mhr mro mv mt ml med md mi mg msd msv mbd mbv mr mu mw) := hD.sub [0, 1, 2, 3, 4, 5, 6, 7, 8, 9, 10, 11, 12, 13, 14] (by decide) rfl
            refine klE (ws' := (wM cyD cyI cyJ cyZ am bv bt bl be bdp bi bg bsd bsv bbd bbv br bu bw mn mm mch msp msb mno msn mbn mhr mro mv mt ml med md mi mg msd msv mbd mbv mr mu mw)) (wc := (wM cyD cyI cyJ cyZ am bv bt bl be bdp bi bg bsd bsv bbd bbv br bu bw mn mm mch msp msb mno msn mbn mhr mro mv mt ml med md mi mg msd msv mbd mbv mr mu mw)) (wr := []) (w1 := (wM cyD cyI cyJ cyZ am bv bt bl be bdp bi bg bsd bsv bbd bbv br bu bw mn mm mch msp msb mno msn mbn mhr mro mv mt ml med md mi mg msd msv mbd mbv mr mu mw)) (va_runV (As := [.int mro, .int p1, .int ((nI j))]) (rest := [.long (sm)]) ⟨hx, hb, hml, hown, hts⟩ (c_X4_strength (l := l) (D := D) (cyD := cyD) (cyI := cyI) (cyJ := cyJ) (cyZ := cyZ) am bv bt bl be bdp bi bg bsd bsv bbd bbv br bu bw mn mm mch msp msb mno msn mbn mhr mro mv mt ml med md mi mg msd msv mbd mbv mr mu mw H.size mro p1 ((nI j)) hM Rn hmro hR4 (wkM c_5).choose (wkM c_5).choose_spec.1 (wkM c_5).choose_spec.2.1 j rfl (by have := Nat.lt_of_not_le (fun z => c_49 (nI_le (a := mn) z (by omega))); have := hM.2.1; omega)) (cwV 3 hts gX4_tail_X4_strength rfl rfl rfl (by decide +kernel) ⟨Nat.le_of_ble_eq_true rfl, Nat.le_of_ble_eq_true rfl⟩) (kV (ci := 4) (q0 := 0) (q := (RX4, TX4, 24)) hN hK hPc hDc rfl rfl rfl) rfl rfl hl.1 rfl (lv_room (Nat.le_of_ble_eq_true rfl)) dX4_tail_70 ⟨Nat.le_of_ble_eq_true rfl, Nat.le_of_ble_eq_true rfl⟩) hP hD hS hA [0, 1, 2, 3, 4, 5, 6, 7, 8, 9, 10, 11, 12, 13, 14] [] [0, 1, 2, 3, 4, 5, 6, 7, 8, 9, 10, 11, 12, 13, 14] rfl rfl (by decide) (by decide) rfl (by decide) (fun H locs hP hD hS => ?_)
            refine lv_ladd hx hb dX4_tail_73 ?_
            refine lv_lstore_n (lv' := [(3, .long (sm + (fX4_strength mm msp msb mno mv mt ml mro p1 ((nI j))))), (5, .int ((nI j))), (2, .int (ff)), (0, .ref am), (1, .int p1)]) hx hb dX4_tail_74 rfl hl (by decide) rfl (fun ls hl => ?_)
            refine lv_iinc (v := (((nI j)) + 1)) (lv' := [(5, .int (((nI j)) + 1)), (3, .long (sm + (fX4_strength mm msp msb mno mv mt ml mro p1 ((nI j))))), (2, .int (ff)), (0, .ref am), (1, .int p1)]) hx hb dX4_tail_75 hl (k := 1) rfl rfl (by decide) rfl (fun ls hl => ?_)
            refine lv_goto (tgt := 43) hx hb dX4_tail_78 (by decide) ?_
            exact ih_43 (j + 1) (sm + (fX4_strength mm msp msb mno mv mt ml mro p1 ((nI j)))) _ _ (by omega) (by have := Nat.lt_of_not_le (fun z => c_49 (nI_le (a := mn) z (by omega))); have := hM.2.1; omega) (by rw [← nI_1 j]; rw [hF, fX4_tail_L43, if_neg c_49, if_neg c_58]) hP hD hS _ (by rw [← nI_1 j]; exact lv_sub hl [0, 1, 2, 3, 4] rfl)
        exact loop_43 66 (a + 1) (0 : Int64) _ _ (by omega) (by omega) (by rw [← nI_1 a, ← hta]; rw [hF, fX4_tail_L36]) hP hD hS _ (by rw [← nI_1 a, ← hta]; exact lv_sub hl [0, 1, 2, 3, 4] rfl)
    exact loop_36 1 (fX4_counting mn mm md p1) _ _ rfl (by obtain ⟨q, h1, h2⟩ := countM mm md p1 hM.1 hM.2.1; exact ⟨q, by have := hM.2.1; omega, h2⟩) (by rw [fX4_tail, if_neg c_5, if_neg c_18]) hP hD hS _ (by exact lv_sub hl [0, 1, 2] rfl)
  refine lv_ldc2d (v := 13830554455654793216) hx hb hown (hts (.constantDouble RX4 158 (13830554455654793216)) (List.mem_of_getElem? (i := 1) rfl)) dX4_tail_8 ?_
  have hF9 : (fX4_tail mn mm msp msb mno mhr mro mv mt ml med md mr p1) = (13830554455654793216 : UInt64) := by rw [fX4_tail, if_pos c_5]
  have hP9 : va_P D vwCl (wM cyD cyI cyJ cyZ am bv bt bl be bdp bi bg bsd bsv bbd bbv br bu bw mn mm mch msp msb mno msn mbn mhr mro mv mt ml med md mi mg msd msv mbd mbv mr mu mw) H := hP
  have hD9 : va_D A (wM cyD cyI cyJ cyZ am bv bt bl be bdp bi bg bsd bsv bbd bbv br bu bw mn mm mch msp msb mno msn mbn mhr mro mv mt ml med md mi mg msd msv mbd mbv mr mu mw) := hD
  exact W.dret (v := (13830554455654793216 : UInt64)) hx hb hr (fun t ht hW => ⟨⟨(13830554455654793216 : UInt64), (), rfl, (by rw [hF9]), by rw [ht]; exact hP9, va_K.moved hW.alike hK, hD9⟩, hS.F ht⟩) hS.2.2 dX4_tail_11
def fX4_kind (mn : Nat) (mm : UInt64) (msp : UInt64) (msb : UInt64) (mno : UInt64) (mhr : Int32) (mro : Int32) (mv : Nat → UInt64) (mt : Nat → Int32) (ml : Nat → Int32) (med : Nat → Int32) (md : Nat → UInt64) (mr : Nat → Int32) (p1 : Int32) : Int32 := if (Op.cmpValue (FP.dcmp (fX4_tail mn mm msp msb mno mhr mro mv mt ml med md mr p1) (13830554455654793216 : UInt64)) CmpOp.l) = 0 then (-1 : Int32) else (if 0 ≤ (Op.cmpValue (FP.dcmp (fX4_tail mn mm msp msb mno mhr mro mv mt ml med md mr p1) (4641240890982006784 : UInt64)) CmpOp.g) then (if 0 ≤ (Op.cmpValue (FP.dcmp (fX4_tail mn mm msp msb mno mhr mro mv mt ml med md mr p1) (4656510908468559872 : UInt64)) CmpOp.g) then (2 : Int32) else ((1 : Int32))) else ((0 : Int32)))
set_option maxHeartbeats 4000000 in
set_option maxRecDepth 100000 in
theorem c_X4_kind {l : Launch} {D : va_G} {cyD cyI cyJ cyZ : ClassId} (am bv bt bl be bdp bi bg bsd bsv bbd bbv br bu bw : Nat) (mn : Nat) (mm : UInt64) (mch : Int32) (msp : UInt64) (msb : UInt64) (mno : UInt64) (msn : Int32) (mbn : Int32) (mhr : Int32) (mro : Int32) (mv : Nat → UInt64) (mt : Nat → Int32) (ml : Nat → Int32) (med : Nat → Int32) (md : Nat → UInt64) (mi : Nat → UInt64) (mg : Nat → UInt64) (msd : Nat → UInt64) (msv : Nat → UInt64) (mbd : Nat → UInt64) (mbv : Nat → UInt64) (mr : Nat → Int32) (mu : Nat → Int64) (mw : Nat → Int32) (sz : Nat) (p1 : Int32) (hM : okM mn mm msp msb mno mv) (Rn : Nat) (hmro : mro = nI Rn) (hR4 : Rn < 4) (hmr : okRM mr) : mI l yX4_kind wsX4_kind ({ frames := 3, cells := 0, slots := 0, locals := 74 } : Room) D (kT cyD cyI cyJ cyZ) [.ref am, .int p1] (wM cyD cyI cyJ cyZ am bv bt bl be bdp bi bg bsd bsv bbd bbv br bu bw mn mm mch msp msb mno msn mbn mhr mro mv mt ml med md mi mg msd msv mbd mbv mr mu mw) (wM cyD cyI cyJ cyZ am bv bt bl be bdp bi bg bsd bsv bbd bbv br bu bw mn mm mch msp msb mno msn mbn mhr mro mv mt ml med md mi mg msd msv mbd mbv mr mu mw) sz (fX4_kind mn mm msp msb mno mhr mro mv mt ml med md mr p1) 0 0 := by
  refine Met.ofW (cc := cX4_kind) (maxL := 4) (ret := (some .int)) (by decide) rfl ?_
  intro p e s m args below meth c s₁ B hml hv
  obtain ⟨rfl, hN, hsz, hP, hK, hD0⟩ := hv
  have hx := B.exec
  have hb := B.bytes
  have hr := B.returns
  have hts := atoms_spec (ws := wsX4_kind) B.pre
  have hown : s.vm.findClass RX4 = some m.cls := findClass_of_methodNamed B.named
  have hlocks := B.notSynchronized
  subst hsz
  have hD := hD0.self (sz := s.heap.size)
  generalize hAe : va_A (wM cyD cyI cyJ cyZ am bv bt bl be bdp bi bg bsd bsv bbd bbv br bu bw mn mm mch msp msb mno msn mbn mhr mro mv mt ml med md mi mg msd msv mbd mbv mr mu mw) s.heap.size = A at hD ⊢
  have hA : ∀ q : Nat, s.heap.size ≤ q → A q := fun q h => by rw [← hAe]; exact Or.inr h
  have hS : va_S A s.heap s.heap [] := va_S.rf
  have hP : va_P D vwCl (wM cyD cyI cyJ cyZ am bv bt bl be bdp bi bg bsd bsv bbd bbv br bu bw mn mm mch msp msb mno msn mbn mhr mro mv mt ml med md mi mg msd msv mbd mbv mr mu mw) s.heap := hP
  have hl := lv_entry [.ref am, .int p1] (n := 4) (Nat.le_of_ble_eq_true rfl)
  rw [lg_entry_eq]
  generalize (lg_sl [.ref am, .int p1] ++ List.replicate (4 - (lg_sl [.ref am, .int p1]).length) Slot.unset).toArray = ls at hl ⊢
  have hl : lv_has ls 4 [(0, .ref am), (1, .int p1)] := hl
  obtain ⟨H, hHe⟩ : ∃ H : Heap, H = s.heap := ⟨_, rfl⟩
  have hP : va_P D vwCl (wM cyD cyI cyJ cyZ am bv bt bl be bdp bi bg bsd bsv bbd bbv br bu bw mn mm mch msp msb mno msn mbn mhr mro mv mt ml med md mi mg msd msv mbd mbv mr mu mw) H := by rw [hHe]; exact hP
  have hS : va_S A s.heap H [] := by rw [hHe]; exact hS
  rw [← hHe]
  refine lv_aload_n hx hb dX4_kind_0 rfl (lv_at hl 0 rfl) ?_
  refine lv_iload_n hx hb dX4_kind_1 rfl (lv_at hl 1 rfl) ?_
  have hPc : va_P D vwCl (wM cyD cyI cyJ cyZ am bv bt bl be bdp bi bg bsd bsv bbd bbv br bu bw mn mm mch msp msb mno msn mbn mhr mro mv mt ml med md mi mg msd msv mbd mbv mr mu mw) H := hP.sub [0, 1, 2, 3, 4, 5, 6, 7, 8, 9, 10, 11, 12, 13, 14] rfl
  have hDc : va_D A (wM cyD cyI cyJ cyZ am bv bt bl be bdp bi bg bsd bsv bbd bbv br bu bw mn mm mch msp msb mno msn mbn mhr mro mv mt ml med md mi mg msd msv mbd mbv mr mu mw) := hD.sub [0, 1, 2, 3, 4, 5, 6, 7, 8, 9, 10, 11, 12, 13, 14] (by decide) rfl
  refine kdE (ws' := (wM cyD cyI cyJ cyZ am bv bt bl be bdp bi bg bsd bsv bbd bbv br bu bw mn mm mch msp msb mno msn mbn mhr mro mv mt ml med md mi mg msd msv mbd mbv mr mu mw)) (wc := (wM cyD cyI cyJ cyZ am bv bt bl be bdp bi bg bsd bsv bbd bbv br bu bw mn mm mch msp msb mno msn mbn mhr mro mv mt ml med md mi mg msd msv mbd mbv mr mu mw)) (wr := []) (w1 := (wM cyD cyI cyJ cyZ am bv bt bl be bdp bi bg bsd bsv bbd bbv br bu bw mn mm mch msp msb mno msn mbn mhr mro mv mt ml med md mi mg msd msv mbd mbv mr mu mw)) (va_runV (As := [.int p1]) (rest := []) ⟨hx, hb, hml, hown, hts⟩ (c_X4_tail (l := l) (D := D) (cyD := cyD) (cyI := cyI) (cyJ := cyJ) (cyZ := cyZ) am bv bt bl be bdp bi bg bsd bsv bbd bbv br bu bw mn mm mch msp msb mno msn mbn mhr mro mv mt ml med md mi mg msd msv mbd mbv mr mu mw H.size p1 hM Rn hmro hR4 hmr) (cwV 1 hts gX4_kind_X4_tail rfl rfl rfl (by decide +kernel) ⟨Nat.le_of_ble_eq_true rfl, Nat.le_of_ble_eq_true rfl⟩) (kV (ci := 4) (q0 := 0) (q := (RX4, TX4, 24)) hN hK hPc hDc rfl rfl rfl) rfl rfl hl.1 rfl (lv_room (Nat.le_of_ble_eq_true rfl)) dX4_kind_2 ⟨Nat.le_of_ble_eq_true rfl, Nat.le_of_ble_eq_true rfl⟩) hP hD hS hA [0, 1, 2, 3, 4, 5, 6, 7, 8, 9, 10, 11, 12, 13, 14] [] [0, 1, 2, 3, 4, 5, 6, 7, 8, 9, 10, 11, 12, 13, 14] rfl rfl (by decide) (by decide) rfl (by decide) (fun H locs hP hD hS => ?_)
  refine lv_dstore_n (lv' := [(2, .double (fX4_tail mn mm msp msb mno mhr mro mv mt ml med md mr p1)), (0, .ref am), (1, .int p1)]) hx hb dX4_kind_5 rfl hl (by decide) rfl (fun ls hl => ?_)
  refine lv_dload_n hx hb dX4_kind_6 rfl (lv_at hl 0 rfl) ?_
  refine lv_ldc2d (v := 13830554455654793216) hx hb hown (hts (.constantDouble RX4 158 (13830554455654793216)) (List.mem_of_getElem? (i := 1) rfl)) dX4_kind_7 ?_
  refine lv_dcmp hx hb dX4_kind_10 ?_
  refine lv_if_ne (tgt := 18) hx hb dX4_kind_11 (by decide) (fun c_11 => ?_) (fun c_11 => ?_)
  · refine lv_dload_n hx hb dX4_kind_18 rfl (lv_at hl 0 rfl) ?_
    refine lv_ldc2d (v := 4641240890982006784) hx hb hown (hts (.constantDouble RX4 169 (4641240890982006784)) (List.mem_of_getElem? (i := 2) rfl)) dX4_kind_19 ?_
    refine lv_dcmp hx hb dX4_kind_22 ?_
    refine lv_if_ge (tgt := 30) hx hb dX4_kind_23 (by decide) (fun c_23 => ?_) (fun c_23 => ?_)
    · refine lv_dload_n hx hb dX4_kind_30 rfl (lv_at hl 0 rfl) ?_
      refine lv_ldc2d (v := 4656510908468559872) hx hb hown (hts (.constantDouble RX4 171 (4656510908468559872)) (List.mem_of_getElem? (i := 3) rfl)) dX4_kind_31 ?_
      refine lv_dcmp hx hb dX4_kind_34 ?_
      refine lv_if_ge (tgt := 42) hx hb dX4_kind_35 (by decide) (fun c_35 => ?_) (fun c_35 => ?_)
      · refine lv_iconst (v := 2) hx hb dX4_kind_42 (by decide) ?_
        have hF9 : (fX4_kind mn mm msp msb mno mhr mro mv mt ml med md mr p1) = (2 : Int32) := by rw [fX4_kind, if_neg c_11, if_pos c_23, if_pos c_35]
        have hP9 : va_P D vwCl (wM cyD cyI cyJ cyZ am bv bt bl be bdp bi bg bsd bsv bbd bbv br bu bw mn mm mch msp msb mno msn mbn mhr mro mv mt ml med md mi mg msd msv mbd mbv mr mu mw) H := hP
        have hD9 : va_D A (wM cyD cyI cyJ cyZ am bv bt bl be bdp bi bg bsd bsv bbd bbv br bu bw mn mm mch msp msb mno msn mbn mhr mro mv mt ml med md mi mg msd msv mbd mbv mr mu mw) := hD
        exact W.iret (v := (2 : Int32)) hx hb hr (fun t ht hW => ⟨⟨(2 : Int32), (), rfl, (by rw [hF9]), by rw [ht]; exact hP9, va_K.moved hW.alike hK, hD9⟩, hS.F ht⟩) hS.2.2 dX4_kind_43
      refine lv_iconst (v := 1) hx hb dX4_kind_38 (by decide) ?_
      refine lv_goto (tgt := 43) hx hb dX4_kind_39 (by decide) ?_
      have hF9 : (fX4_kind mn mm msp msb mno mhr mro mv mt ml med md mr p1) = (1 : Int32) := by rw [fX4_kind, if_neg c_11, if_pos c_23, if_neg c_35]
      have hP9 : va_P D vwCl (wM cyD cyI cyJ cyZ am bv bt bl be bdp bi bg bsd bsv bbd bbv br bu bw mn mm mch msp msb mno msn mbn mhr mro mv mt ml med md mi mg msd msv mbd mbv mr mu mw) H := hP
      have hD9 : va_D A (wM cyD cyI cyJ cyZ am bv bt bl be bdp bi bg bsd bsv bbd bbv br bu bw mn mm mch msp msb mno msn mbn mhr mro mv mt ml med md mi mg msd msv mbd mbv mr mu mw) := hD
      exact W.iret (v := (1 : Int32)) hx hb hr (fun t ht hW => ⟨⟨(1 : Int32), (), rfl, (by rw [hF9]), by rw [ht]; exact hP9, va_K.moved hW.alike hK, hD9⟩, hS.F ht⟩) hS.2.2 dX4_kind_43
    refine lv_iconst (v := 0) hx hb dX4_kind_26 (by decide) ?_
    refine lv_goto (tgt := 43) hx hb dX4_kind_27 (by decide) ?_
    have hF9 : (fX4_kind mn mm msp msb mno mhr mro mv mt ml med md mr p1) = (0 : Int32) := by rw [fX4_kind, if_neg c_11, if_neg c_23]
    have hP9 : va_P D vwCl (wM cyD cyI cyJ cyZ am bv bt bl be bdp bi bg bsd bsv bbd bbv br bu bw mn mm mch msp msb mno msn mbn mhr mro mv mt ml med md mi mg msd msv mbd mbv mr mu mw) H := hP
    have hD9 : va_D A (wM cyD cyI cyJ cyZ am bv bt bl be bdp bi bg bsd bsv bbd bbv br bu bw mn mm mch msp msb mno msn mbn mhr mro mv mt ml med md mi mg msd msv mbd mbv mr mu mw) := hD
    exact W.iret (v := (0 : Int32)) hx hb hr (fun t ht hW => ⟨⟨(0 : Int32), (), rfl, (by rw [hF9]), by rw [ht]; exact hP9, va_K.moved hW.alike hK, hD9⟩, hS.F ht⟩) hS.2.2 dX4_kind_43
  refine lv_iconst (v := (-1)) hx hb dX4_kind_14 (by decide) ?_
  refine lv_goto (tgt := 43) hx hb dX4_kind_15 (by decide) ?_
  have hF9 : (fX4_kind mn mm msp msb mno mhr mro mv mt ml med md mr p1) = (-1 : Int32) := by rw [fX4_kind, if_pos c_11]
  have hP9 : va_P D vwCl (wM cyD cyI cyJ cyZ am bv bt bl be bdp bi bg bsd bsv bbd bbv br bu bw mn mm mch msp msb mno msn mbn mhr mro mv mt ml med md mi mg msd msv mbd mbv mr mu mw) H := hP
  have hD9 : va_D A (wM cyD cyI cyJ cyZ am bv bt bl be bdp bi bg bsd bsv bbd bbv br bu bw mn mm mch msp msb mno msn mbn mhr mro mv mt ml med md mi mg msd msv mbd mbv mr mu mw) := hD
  exact W.iret (v := (-1 : Int32)) hx hb hr (fun t ht hW => ⟨⟨(-1 : Int32), (), rfl, (by rw [hF9]), by rw [ht]; exact hP9, va_K.moved hW.alike hK, hD9⟩, hS.F ht⟩) hS.2.2 dX4_kind_43
