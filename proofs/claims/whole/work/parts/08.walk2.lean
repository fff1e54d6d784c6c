theorem dw_bd {df : Nat → UInt64} {rf : Nat → Int32} {me : UInt64} (hm : bd 1030 me) (hdf : ∀ i, i < 32 → bd 1037 (df i)) (p : Int32) : bd 1064 (fX2_depthWalked df rf me p) := by
  unfold fX2_depthWalked
  by_cases c : fX2_isEdited df p = 0
  · rw [if_pos c]; exact bd_mul (Ka := 1056) (Kb := 1030) (bd_i2d _) hm (by decide) (by decide) (by decide)
  · rw [if_neg c]; exact bd_up (vpin_bd (edited_in c) (by decide) hdf) (by decide)
theorem nb_L {kf : Nat → Int32} {p d : Int32} : ∀ (k j : Nat), j + k = 33 → 1 ≤ j → j ≤ 32 → fX2_neighbour_L2 kf p d k (nI j) = -1 ∨ ∃ q : Nat, j ≤ q ∧ q < 32 ∧ fX2_neighbour_L2 kf p d k (nI j) = p + nI q * d ∧ ¬ fX2_isWalked kf (p + nI q * d) = 0 := by
  intro k; induction k with
  | zero => intro j a b b2; omega
  | succ k ih =>
    intro j a b b2
    rw [fX2_neighbour_L2]
    by_cases c : (32 : Int32) ≤ nI j
    · rw [if_pos c]; exact Or.inl rfl
    · rw [if_neg c]
      have h := Nat.lt_of_not_le (fun z => c (nI_le (a := 32) z (by omega)))
      by_cases c2 : fX2_isWalked kf (p + nI j * d) = 0
      · rw [if_pos c2, nI_1]
        rcases ih (j + 1) (by omega) (by omega) (by omega) with e | ⟨q, q1, q2, q3⟩
        · exact Or.inl e
        · exact Or.inr ⟨q, by omega, q2, q3⟩
      · rw [if_neg c2]; exact Or.inr ⟨j, Nat.le_refl _, h, rfl, c2⟩
theorem nb_nI (kf : Nat → Int32) (p d : Int32) : fX2_neighbour kf p d = -1 ∨ ∃ q : Nat, 1 ≤ q ∧ q < 32 ∧ fX2_neighbour kf p d = p + nI q * d ∧ ¬ fX2_isWalked kf (p + nI q * d) = 0 := by
  rw [fX2_neighbour, ← nI_one]; exact nb_L 32 1 rfl (Nat.le_refl _) (by decide)
theorem i32_ring (p x y : Int32) : p + x * 1 - (p + y * (-1)) = x + y := by
  apply Int32.toBitVec_inj.mp
  simp only [Int32.toBitVec_sub, Int32.toBitVec_add, Int32.toBitVec_mul]
  have h1 : (1 : Int32).toBitVec = 1#32 := rfl
  have h2 : (-1 : Int32).toBitVec = -1#32 := rfl
  rw [h1, h2]
  generalize p.toBitVec = a
  generalize x.toBitVec = b
  generalize y.toBitVec = e
  rw [BitVec.mul_one, BitVec.mul_neg, BitVec.mul_one]
  rw [BitVec.sub_eq_add_neg, BitVec.neg_add]
  rw [BitVec.sub_eq_add_neg, BitVec.neg_neg, BitVec.add_assoc, ← BitVec.add_assoc b, BitVec.add_comm b (-a), BitVec.add_assoc (-a), ← BitVec.add_assoc a, ← BitVec.sub_eq_add_neg, BitVec.sub_self, BitVec.zero_add]
theorem i2d_lb {n : Nat} (h0 : 1 ≤ n) (h : n < 64) : lb 1023 (FP.i2d (nI n)) := by
  have := FP.Core.i2d_big (v := nI n) (by rw [nI_toInt (by omega)]; omega)
  exact ⟨this.1, this.2⟩
theorem bridge_n {kf : Nat → Int32} {p : Int32} (h : ¬ fX2_isBridge kf p = 0) : ∃ n : Nat, 2 ≤ n ∧ n < 64 ∧ fX2_neighbour kf p 1 - fX2_neighbour kf p (-1) = nI n := by
  unfold fX2_isBridge at h
  by_cases c1 : fX3_isPing p = 0
  · rw [if_pos c1] at h; exact absurd rfl h
  rw [if_neg c1] at h
  by_cases c2 : fX2_isWalked kf p = 0
  · rw [if_pos c2] at h
    by_cases c3 : fX2_neighbour kf p (-1) = -1
    · rw [if_pos c3] at h; exact absurd rfl h
    rw [if_neg c3] at h
    by_cases c4 : fX2_neighbour kf p 1 = -1
    · rw [if_pos c4] at h; exact absurd rfl h
    rcases nb_nI kf p (-1) with e | ⟨y, y1, y2, y3, _⟩
    · exact absurd e c3
    rcases nb_nI kf p 1 with e | ⟨x, x1, x2, x3, _⟩
    · exact absurd e c4
    refine ⟨x + y, by omega, by omega, ?_⟩
    rw [x3, y3, i32_ring, nI_add]
  · rw [if_neg c2] at h; exact absurd rfl h
theorem bridge_div {kf : Nat → Int32} {p : Int32} (h : ¬ fX2_isBridge kf p = 0) {t : UInt64} (ht : bd 1100 t) : bd 1101 (FP.ddiv t (FP.i2d (fX2_neighbour kf p 1 - fX2_neighbour kf p (-1)))) := by
  obtain ⟨n, h1, h2, e⟩ := bridge_n h
  rw [e]; exact bd_div ht (i2d_lb (by omega) h2) (by decide) (by decide) (by decide)
theorem over_bd {K : Nat} {a b : UInt64} (h : bd K (FP.ddiv a b)) (hK : 1 ≤ K) : bd K (fX3_over a b) := by
  unfold fX3_over
  split
  · show (0 : UInt64).toNat % 2 ^ 63 < K * 2 ^ 52
    exact Nat.mul_pos hK (by decide)
  · exact h
def fX2_depthAt (df : Nat → UInt64) (kf : Nat → Int32) (rf : Nat → Int32) (me : UInt64) (p1 : Int32) : UInt64 := if (fX2_isBridge kf p1) = 0 then (fX2_depthWalked df rf me p1) else ((FP.dadd (fX2_depthWalked df rf me (fX2_neighbour kf p1 (-1 : Int32))) (fX3_over (FP.dmul (FP.dsub (fX2_depthWalked df rf me (fX2_neighbour kf p1 (1 : Int32))) (fX2_depthWalked df rf me (fX2_neighbour kf p1 (-1 : Int32)))) (FP.i2d (p1 - (fX2_neighbour kf p1 (-1 : Int32))))) (FP.i2d ((fX2_neighbour kf p1 (1 : Int32)) - (fX2_neighbour kf p1 (-1 : Int32)))))))
set_option maxHeartbeats 4000000 in
set_option maxRecDepth 100000 in
theorem c_X2_depthAt {l : Launch} {D : va_G} {cyD cyI cyJ cyZ : ClassId} (aw ad ak ar au ae av ab : Nat) (df : Nat → UInt64) (kf : Nat → Int32) (rf : Nat → Int32) (uf : Nat → Int64) (st : Int32) (fw : Int32) (fo : Int32) (sn : Nat) (me : UInt64) (vf : Nat → UInt64) (lf : Nat → Int32) (sp : UInt64) (sb : UInt64) (no : UInt64) (sz : Nat) (p1 : Int32) (hE : okE sn me vf sp sb no) (hdf : ∀ i, i < 32 → bd 1037 (df i)) : mD l yX2_depthAt wsX2_depthAt ({ frames := 4, cells := 0, slots := 0, locals := 87 } : Room) D (kT cyD cyI cyJ cyZ) [.ref aw, .int p1] (wW cyD cyI cyJ cyZ aw ad ak ar au ae av ab df kf rf uf st fw fo sn me vf lf sp sb no) (wW cyD cyI cyJ cyZ aw ad ak ar au ae av ab df kf rf uf st fw fo sn me vf lf sp sb no) sz (fX2_depthAt df kf rf me p1) 0 0 := by
  refine Met.ofW (cc := cX2_depthAt) (maxL := 8) (ret := (some .double)) (by decide) rfl ?_
  intro p e s m args below meth c s₁ B hml hv
  obtain ⟨rfl, hN, hsz, hP, hK, hD0⟩ := hv
  have hx := B.exec
  have hb := B.bytes
  have hr := B.returns
  have hts := atoms_spec (ws := wsX2_depthAt) B.pre
  have hown : s.vm.findClass RX2 = some m.cls := findClass_of_methodNamed B.named
  have hlocks := B.notSynchronized
  subst hsz
  have hD := hD0.self (sz := s.heap.size)
  generalize hAe : va_A (wW cyD cyI cyJ cyZ aw ad ak ar au ae av ab df kf rf uf st fw fo sn me vf lf sp sb no) s.heap.size = A at hD ⊢
  have hA : ∀ q : Nat, s.heap.size ≤ q → A q := fun q h => by rw [← hAe]; exact Or.inr h
  have hS : va_S A s.heap s.heap [] := va_S.rf
  have hP : va_P D vwCl (wW cyD cyI cyJ cyZ aw ad ak ar au ae av ab df kf rf uf st fw fo sn me vf lf sp sb no) s.heap := hP
  have hl := lv_entry [.ref aw, .int p1] (n := 8) (Nat.le_of_ble_eq_true rfl)
  rw [lg_entry_eq]
  generalize (lg_sl [.ref aw, .int p1] ++ List.replicate (8 - (lg_sl [.ref aw, .int p1]).length) Slot.unset).toArray = ls at hl ⊢
  have hl : lv_has ls 8 [(0, .ref aw), (1, .int p1)] := hl
  obtain ⟨H, hHe⟩ : ∃ H : Heap, H = s.heap := ⟨_, rfl⟩
  have hP : va_P D vwCl (wW cyD cyI cyJ cyZ aw ad ak ar au ae av ab df kf rf uf st fw fo sn me vf lf sp sb no) H := by rw [hHe]; exact hP
  have hS : va_S A s.heap H [] := by rw [hHe]; exact hS
  rw [← hHe]
  refine lv_aload_n hx hb dX2_depthAt_0 rfl (lv_at hl 0 rfl) ?_
  refine lv_iload_n hx hb dX2_depthAt_1 rfl (lv_at hl 1 rfl) ?_
  have hPc : va_P D vwCl (wW cyD cyI cyJ cyZ aw ad ak ar au ae av ab df kf rf uf st fw fo sn me vf lf sp sb no) H := hP.sub [0, 1, 2, 3, 4, 5, 6, 7] rfl
  have hDc : va_D A (wW cyD cyI cyJ cyZ aw ad ak ar au ae av ab df kf rf uf st fw fo sn me vf lf sp sb no) := hD.sub [0, 1, 2, 3, 4, 5, 6, 7] (by decide) rfl
  refine kzE (ws' := (wW cyD cyI cyJ cyZ aw ad ak ar au ae av ab df kf rf uf st fw fo sn me vf lf sp sb no)) (wc := (wW cyD cyI cyJ cyZ aw ad ak ar au ae av ab df kf rf uf st fw fo sn me vf lf sp sb no)) (wr := []) (w1 := (wW cyD cyI cyJ cyZ aw ad ak ar au ae av ab df kf rf uf st fw fo sn me vf lf sp sb no)) (va_runV (As := [.int p1]) (rest := []) ⟨hx, hb, hml, hown, hts⟩ (c_X2_isBridge (l := l) (D := D) (cyD := cyD) (cyI := cyI) (cyJ := cyJ) (cyZ := cyZ) aw ad ak ar au ae av ab df kf rf uf st fw fo sn me vf lf sp sb no H.size p1) (cwV 1 hts gX2_depthAt_X2_isBridge rfl rfl rfl (by decide +kernel) ⟨Nat.le_of_ble_eq_true rfl, Nat.le_of_ble_eq_true rfl⟩) (kV (ci := 2) (q0 := 0) (q := (RX2, TX2, 8)) hN hK hPc hDc rfl rfl rfl) rfl rfl hl.1 rfl (lv_room (Nat.le_of_ble_eq_true rfl)) dX2_depthAt_2 ⟨Nat.le_of_ble_eq_true rfl, Nat.le_of_ble_eq_true rfl⟩) hP hD hS hA [0, 1, 2, 3, 4, 5, 6, 7] [] [0, 1, 2, 3, 4, 5, 6, 7] rfl rfl (by decide) (by decide) rfl (by decide) (fun H locs hz_2 hP hD hS => ?_)
  refine lv_if_ne (tgt := 14) hx hb dX2_depthAt_5 (by decide) (fun c_5 => ?_) (fun c_5 => ?_)
  · refine lv_aload_n hx hb dX2_depthAt_14 rfl (lv_at hl 0 rfl) ?_
    refine lv_iload_n hx hb dX2_depthAt_15 rfl (lv_at hl 1 rfl) ?_
    refine lv_iconst (v := (-1)) hx hb dX2_depthAt_16 (by decide) ?_
    have hPc : va_P D vwCl (wW cyD cyI cyJ cyZ aw ad ak ar au ae av ab df kf rf uf st fw fo sn me vf lf sp sb no) H := hP.sub [0, 1, 2, 3, 4, 5, 6, 7] rfl
    have hDc : va_D A (wW cyD cyI cyJ cyZ aw ad ak ar au ae av ab df kf rf uf st fw fo sn me vf lf sp sb no) := hD.sub [0, 1, 2, 3, 4, 5, 6, 7] (by decide) rfl
    refine kiE (ws' := (wW cyD cyI cyJ cyZ aw ad ak ar au ae av ab df kf rf uf st fw fo sn me vf lf sp sb no)) (wc := (wW cyD cyI cyJ cyZ aw ad ak ar au ae av ab df kf rf uf st fw fo sn me vf lf sp sb no)) (wr := []) (w1 := (wW cyD cyI cyJ cyZ aw ad ak ar au ae av ab df kf rf uf st fw fo sn me vf lf sp sb no)) (va_runV (As := [.int p1, .int (-1 : Int32)]) (rest := []) ⟨hx, hb, hml, hown, hts⟩ (c_X2_neighbour (l := l) (D := D) (cyD := cyD) (cyI := cyI) (cyJ := cyJ) (cyZ := cyZ) aw ad ak ar au ae av ab df kf rf uf st fw fo sn me vf lf sp sb no H.size p1 (-1 : Int32)) (cwV 2 hts gX2_depthAt_X2_neighbour rfl rfl rfl (by decide +kernel) ⟨Nat.le_of_ble_eq_true rfl, Nat.le_of_ble_eq_true rfl⟩) (kV (ci := 2) (q0 := 0) (q := (RX2, TX2, 8)) hN hK hPc hDc rfl rfl rfl) rfl rfl hl.1 rfl (lv_room (Nat.le_of_ble_eq_true rfl)) dX2_depthAt_17 ⟨Nat.le_of_ble_eq_true rfl, Nat.le_of_ble_eq_true rfl⟩) hP hD hS hA [0, 1, 2, 3, 4, 5, 6, 7] [] [0, 1, 2, 3, 4, 5, 6, 7] rfl rfl (by decide) (by decide) rfl (by decide) (fun H locs hP hD hS => ?_)
    refine lv_istore_n (lv' := [(2, .int (fX2_neighbour kf p1 (-1 : Int32))), (0, .ref aw), (1, .int p1)]) hx hb dX2_depthAt_20 rfl hl (by decide) rfl (fun ls hl => ?_)
    refine lv_aload_n hx hb dX2_depthAt_21 rfl (lv_at hl 1 rfl) ?_
    refine lv_iload_n hx hb dX2_depthAt_22 rfl (lv_at hl 2 rfl) ?_
    refine lv_iconst (v := 1) hx hb dX2_depthAt_23 (by decide) ?_
    have hPc : va_P D vwCl (wW cyD cyI cyJ cyZ aw ad ak ar au ae av ab df kf rf uf st fw fo sn me vf lf sp sb no) H := hP.sub [0, 1, 2, 3, 4, 5, 6, 7] rfl
    have hDc : va_D A (wW cyD cyI cyJ cyZ aw ad ak ar au ae av ab df kf rf uf st fw fo sn me vf lf sp sb no) := hD.sub [0, 1, 2, 3, 4, 5, 6, 7] (by decide) rfl
    refine kiE (ws' := (wW cyD cyI cyJ cyZ aw ad ak ar au ae av ab df kf rf uf st fw fo sn me vf lf sp sb no)) (wc := (wW cyD cyI cyJ cyZ aw ad ak ar au ae av ab df kf rf uf st fw fo sn me vf lf sp sb no)) (wr := []) (w1 := (wW cyD cyI cyJ cyZ aw ad ak ar au ae av ab df kf rf uf st fw fo sn me vf lf sp sb no)) (va_runV (As := [.int p1, .int (1 : Int32)]) (rest := []) ⟨hx, hb, hml, hown, hts⟩ (c_X2_neighbour (l := l) (D := D) (cyD := cyD) (cyI := cyI) (cyJ := cyJ) (cyZ := cyZ) aw ad ak ar au ae av ab df kf rf uf st fw fo sn me vf lf sp sb no H.size p1 (1 : Int32)) (cwV 2 hts gX2_depthAt_X2_neighbour rfl rfl rfl (by decide +kernel) ⟨Nat.le_of_ble_eq_true rfl, Nat.le_of_ble_eq_true rfl⟩) (kV (ci := 2) (q0 := 0) (q := (RX2, TX2, 8)) hN hK hPc hDc rfl rfl rfl) rfl rfl hl.1 rfl (lv_room (Nat.le_of_ble_eq_true rfl)) dX2_depthAt_24 ⟨Nat.le_of_ble_eq_true rfl, Nat.le_of_ble_eq_true rfl⟩) hP hD hS hA [0, 1, 2, 3, 4, 5, 6, 7] [] [0, 1, 2, 3, 4, 5, 6, 7] rfl rfl (by decide) (by decide) rfl (by decide) (fun H locs hP hD hS => ?_)
    refine lv_istore_n (lv' := [(3, .int (fX2_neighbour kf p1 (1 : Int32))), (2, .int (fX2_neighbour kf p1 (-1 : Int32))), (0, .ref aw), (1, .int p1)]) hx hb dX2_depthAt_27 rfl hl (by decide) rfl (fun ls hl => ?_)
    refine lv_aload_n hx hb dX2_depthAt_28 rfl (lv_at hl 2 rfl) ?_
    refine lv_iload_n hx hb dX2_depthAt_29 rfl (lv_at hl 1 rfl) ?_
    have hPc : va_P D vwCl (wW cyD cyI cyJ cyZ aw ad ak ar au ae av ab df kf rf uf st fw fo sn me vf lf sp sb no) H := hP.sub [0, 1, 2, 3, 4, 5, 6, 7] rfl
    have hDc : va_D A (wW cyD cyI cyJ cyZ aw ad ak ar au ae av ab df kf rf uf st fw fo sn me vf lf sp sb no) := hD.sub [0, 1, 2, 3, 4, 5, 6, 7] (by decide) rfl
    refine kdE (ws' := (wW cyD cyI cyJ cyZ aw ad ak ar au ae av ab df kf rf uf st fw fo sn me vf lf sp sb no)) (wc := (wW cyD cyI cyJ cyZ aw ad ak ar au ae av ab df kf rf uf st fw fo sn me vf lf sp sb no)) (wr := []) (w1 := (wW cyD cyI cyJ cyZ aw ad ak ar au ae av ab df kf rf uf st fw fo sn me vf lf sp sb no)) (va_runV (As := [.int (fX2_neighbour kf p1 (-1 : Int32))]) (rest := []) ⟨hx, hb, hml, hown, hts⟩ (c_X2_depthWalked (l := l) (D := D) (cyD := cyD) (cyI := cyI) (cyJ := cyJ) (cyZ := cyZ) aw ad ak ar au ae av ab df kf rf uf st fw fo sn me vf lf sp sb no H.size (fX2_neighbour kf p1 (-1 : Int32)) hE) (cwV 1 hts gX2_depthAt_X2_depthWalked rfl rfl rfl (by decide +kernel) ⟨Nat.le_of_ble_eq_true rfl, Nat.le_of_ble_eq_true rfl⟩) (kV (ci := 2) (q0 := 0) (q := (RX2, TX2, 8)) hN hK hPc hDc rfl rfl rfl) rfl rfl hl.1 rfl (lv_room (Nat.le_of_ble_eq_true rfl)) dX2_depthAt_30 ⟨Nat.le_of_ble_eq_true rfl, Nat.le_of_ble_eq_true rfl⟩) hP hD hS hA [0, 1, 2, 3, 4, 5, 6, 7] [] [0, 1, 2, 3, 4, 5, 6, 7] rfl rfl (by decide) (by decide) rfl (by decide) (fun H locs hP hD hS => ?_)
    refine lv_dstore (lv' := [(4, .double (fX2_depthWalked df rf me (fX2_neighbour kf p1 (-1 : Int32)))), (3, .int (fX2_neighbour kf p1 (1 : Int32))), (2, .int (fX2_neighbour kf p1 (-1 : Int32))), (0, .ref aw), (1, .int p1)]) hx hb dX2_depthAt_33 hl (by decide) rfl (fun ls hl => ?_)
    refine lv_aload_n hx hb dX2_depthAt_35 rfl (lv_at hl 3 rfl) ?_
    refine lv_iload_n hx hb dX2_depthAt_36 rfl (lv_at hl 1 rfl) ?_
    have hPc : va_P D vwCl (wW cyD cyI cyJ cyZ aw ad ak ar au ae av ab df kf rf uf st fw fo sn me vf lf sp sb no) H := hP.sub [0, 1, 2, 3, 4, 5, 6, 7] rfl
    have hDc : va_D A (wW cyD cyI cyJ cyZ aw ad ak ar au ae av ab df kf rf uf st fw fo sn me vf lf sp sb no) := hD.sub [0, 1, 2, 3, 4, 5, 6, 7] (by decide) rfl
    refine kdE (ws' := (wW cyD cyI cyJ cyZ aw ad ak ar au ae av ab df kf rf uf st fw fo sn me vf lf sp sb no)) (wc := (wW cyD cyI cyJ cyZ aw ad ak ar au ae av ab df kf rf uf st fw fo sn me vf lf sp sb no)) (wr := []) (w1 := (wW cyD cyI cyJ cyZ aw ad ak ar au ae av ab df kf rf uf st fw fo sn me vf lf sp sb no)) (va_runV (As := [.int (fX2_neighbour kf p1 (1 : Int32))]) (rest := []) ⟨hx, hb, hml, hown, hts⟩ (c_X2_depthWalked (l := l) (D := D) (cyD := cyD) (cyI := cyI) (cyJ := cyJ) (cyZ := cyZ) aw ad ak ar au ae av ab df kf rf uf st fw fo sn me vf lf sp sb no H.size (fX2_neighbour kf p1 (1 : Int32)) hE) (cwV 1 hts gX2_depthAt_X2_depthWalked rfl rfl rfl (by decide +kernel) ⟨Nat.le_of_ble_eq_true rfl, Nat.le_of_ble_eq_true rfl⟩) (kV (ci := 2) (q0 := 0) (q := (RX2, TX2, 8)) hN hK hPc hDc rfl rfl rfl) rfl rfl hl.1 rfl (lv_room (Nat.le_of_ble_eq_true rfl)) dX2_depthAt_37 ⟨Nat.le_of_ble_eq_true rfl, Nat.le_of_ble_eq_true rfl⟩) hP hD hS hA [0, 1, 2, 3, 4, 5, 6, 7] [] [0, 1, 2, 3, 4, 5, 6, 7] rfl rfl (by decide) (by decide) rfl (by decide) (fun H locs hP hD hS => ?_)
    refine lv_dstore (lv' := [(6, .double (fX2_depthWalked df rf me (fX2_neighbour kf p1 (1 : Int32)))), (4, .double (fX2_depthWalked df rf me (fX2_neighbour kf p1 (-1 : Int32)))), (3, .int (fX2_neighbour kf p1 (1 : Int32))), (2, .int (fX2_neighbour kf p1 (-1 : Int32))), (0, .ref aw), (1, .int p1)]) hx hb dX2_depthAt_40 hl (by decide) rfl (fun ls hl => ?_)
    refine lv_dload hx hb dX2_depthAt_42 (lv_at hl 1 rfl) ?_
    refine lv_dload hx hb dX2_depthAt_44 (lv_at hl 0 rfl) ?_
    refine lv_dload hx hb dX2_depthAt_46 (lv_at hl 1 rfl) ?_
    refine lv_dsub hx hb dX2_depthAt_48 (bd_n (bd_sub (Ka := 1064) (Kb := 1064) (K := 1066) (dw_bd hE.2.2.1 hdf _) (dw_bd hE.2.2.1 hdf _) (by decide) (by decide) (by decide) (by decide)) (by decide)) ?_
    refine lv_iload_n hx hb dX2_depthAt_49 rfl (lv_at hl 5 rfl) ?_
    refine lv_iload_n hx hb dX2_depthAt_50 rfl (lv_at hl 3 rfl) ?_
    refine lv_isub hx hb dX2_depthAt_51 ?_
    refine lv_i2d hx hb dX2_depthAt_52 ?_
    refine lv_dmul hx hb dX2_depthAt_53 (bd_n (bd_mul (Ka := 1066) (Kb := 1056) (K := 1100) (bd_sub (Ka := 1064) (Kb := 1064) (K := 1066) (dw_bd hE.2.2.1 hdf _) (dw_bd hE.2.2.1 hdf _) (by decide) (by decide) (by decide) (by decide)) (bd_i2d _) (by decide) (by decide) (by decide)) (by decide)) ?_
    refine lv_iload_n hx hb dX2_depthAt_54 rfl (lv_at hl 2 rfl) ?_
    refine lv_iload_n hx hb dX2_depthAt_55 rfl (lv_at hl 3 rfl) ?_
    refine lv_isub hx hb dX2_depthAt_56 ?_
    refine lv_i2d hx hb dX2_depthAt_57 ?_
    have hPc : va_P D vwCl [] H := hP.sub [] rfl
    have hDc : va_D A [] := hD.sub [] (by decide) rfl
    refine kdE (ws' := (wW cyD cyI cyJ cyZ aw ad ak ar au ae av ab df kf rf uf st fw fo sn me vf lf sp sb no)) (wc := []) (wr := [(aw, .inr (2, [.ref ae, .ref ad, .ref ak, .ref ar, .ref au, .int st, .int fw, .int fo])), (ad, .inl (cyD, 32, .inr (.inr (.inr (.inl df))))), (ak, .inl (cyZ, 32, .inl kf)), (ar, .inl (cyI, 32, .inl rf)), (au, .inl (cyJ, 32 * sn, .inr (.inl uf))), (ae, .inr (0, [.int (nI sn), .double me, .ref av, .ref ab, .double sp, .double sb, .double no])), (av, .inl (cyD, 128 * sn, .inr (.inr (.inr (.inl vf))))), (ab, .inl (cyZ, 32, .inl lf))]) (w1 := []) (va_runSN (As := [.double (FP.dmul (FP.dsub (fX2_depthWalked df rf me (fX2_neighbour kf p1 (1 : Int32))) (fX2_depthWalked df rf me (fX2_neighbour kf p1 (-1 : Int32)))) (FP.i2d (p1 - (fX2_neighbour kf p1 (-1 : Int32))))), .double (FP.i2d ((fX2_neighbour kf p1 (1 : Int32)) - (fX2_neighbour kf p1 (-1 : Int32))))]) (rest := [.double (fX2_depthWalked df rf me (fX2_neighbour kf p1 (-1 : Int32)))]) ⟨hx, hb, hml, hown, hts⟩ (c_X3_over (l := l) (D := D) (cyD := cyD) (cyI := cyI) (cyJ := cyJ) (cyZ := cyZ) H.size (FP.dmul (FP.dsub (fX2_depthWalked df rf me (fX2_neighbour kf p1 (1 : Int32))) (fX2_depthWalked df rf me (fX2_neighbour kf p1 (-1 : Int32)))) (FP.i2d (p1 - (fX2_neighbour kf p1 (-1 : Int32))))) (FP.i2d ((fX2_neighbour kf p1 (1 : Int32)) - (fX2_neighbour kf p1 (-1 : Int32)))) (fun _ => bd_n (bridge_div c_5 (bd_mul (Ka := 1066) (Kb := 1056) (K := 1100) (bd_sub (Ka := 1064) (Kb := 1064) (K := 1066) (dw_bd hE.2.2.1 hdf _) (dw_bd hE.2.2.1 hdf _) (by decide) (by decide) (by decide) (by decide)) (bd_i2d _) (by decide) (by decide) (by decide))) (by decide))) ⟨va_cnB 2 hts gX2_depthAt_X3_over_n94 rfl rfl rfl hN.2.2.2.2.2.1 (hts (.initialized RX3) (List.mem_of_getElem? (i := 7) rfl)) (by decide +kernel) ⟨Nat.le_of_ble_eq_true rfl, Nat.le_of_ble_eq_true rfl⟩, (hts (.static yX3_over) (List.mem_of_getElem? (i := 39) rfl)), trivial⟩ (kS hN hK hPc hDc) rfl rfl hl.1 rfl (lv_room (Nat.le_of_ble_eq_true rfl)) dX2_depthAt_58 ⟨Nat.le_of_ble_eq_true rfl, Nat.le_of_ble_eq_true rfl⟩) hP hD hS hA [] [0, 1, 2, 3, 4, 5, 6, 7] [0, 1, 2, 3, 4, 5, 6, 7] rfl rfl (by decide) (by decide) rfl (by decide) (fun H locs hP hD hS => ?_)
    refine lv_dadd hx hb dX2_depthAt_61 (bd_n (bd_add (Ka := 1064) (Kb := 1101) (K := 1103) (dw_bd hE.2.2.1 hdf _) (over_bd (bridge_div c_5 (bd_mul (Ka := 1066) (Kb := 1056) (K := 1100) (bd_sub (Ka := 1064) (Kb := 1064) (K := 1066) (dw_bd hE.2.2.1 hdf _) (dw_bd hE.2.2.1 hdf _) (by decide) (by decide) (by decide) (by decide)) (bd_i2d _) (by decide) (by decide) (by decide))) (by decide)) (by decide) (by decide) (by decide) (by decide)) (by decide)) ?_
    have hF9 : (fX2_depthAt df kf rf me p1) = (FP.dadd (fX2_depthWalked df rf me (fX2_neighbour kf p1 (-1 : Int32))) (fX3_over (FP.dmul (FP.dsub (fX2_depthWalked df rf me (fX2_neighbour kf p1 (1 : Int32))) (fX2_depthWalked df rf me (fX2_neighbour kf p1 (-1 : Int32)))) (FP.i2d (p1 - (fX2_neighbour kf p1 (-1 : Int32))))) (FP.i2d ((fX2_neighbour kf p1 (1 : Int32)) - (fX2_neighbour kf p1 (-1 : Int32)))))) := by rw [fX2_depthAt, if_neg c_5]
    have hP9 : va_P D vwCl (wW cyD cyI cyJ cyZ aw ad ak ar au ae av ab df kf rf uf st fw fo sn me vf lf sp sb no) H := hP
    have hD9 : va_D A (wW cyD cyI cyJ cyZ aw ad ak ar au ae av ab df kf rf uf st fw fo sn me vf lf sp sb no) := hD
    exact W.dret (v := (FP.dadd (fX2_depthWalked df rf me (fX2_neighbour kf p1 (-1 : Int32))) (fX3_over (FP.dmul (FP.dsub (fX2_depthWalked df rf me (fX2_neighbour kf p1 (1 : Int32))) (fX2_depthWalked df rf me (fX2_neighbour kf p1 (-1 : Int32)))) (FP.i2d (p1 - (fX2_neighbour kf p1 (-1 : Int32))))) (FP.i2d ((fX2_neighbour kf p1 (1 : Int32)) - (fX2_neighbour kf p1 (-1 : Int32))))))) hx hb hr (fun t ht hW => ⟨⟨(FP.dadd (fX2_depthWalked df rf me (fX2_neighbour kf p1 (-1 : Int32))) (fX3_over (FP.dmul (FP.dsub (fX2_depthWalked df rf me (fX2_neighbour kf p1 (1 : Int32))) (fX2_depthWalked df rf me (fX2_neighbour kf p1 (-1 : Int32)))) (FP.i2d (p1 - (fX2_neighbour kf p1 (-1 : Int32))))) (FP.i2d ((fX2_neighbour kf p1 (1 : Int32)) - (fX2_neighbour kf p1 (-1 : Int32)))))), (), rfl, (by rw [hF9]), by rw [ht]; exact hP9, va_K.moved hW.alike hK, hD9⟩, hS.F ht⟩) hS.2.2 dX2_depthAt_62
  refine lv_aload_n hx hb dX2_depthAt_8 rfl (lv_at hl 0 rfl) ?_
  refine lv_iload_n hx hb dX2_depthAt_9 rfl (lv_at hl 1 rfl) ?_
  have hPc : va_P D vwCl (wW cyD cyI cyJ cyZ aw ad ak ar au ae av ab df kf rf uf st fw fo sn me vf lf sp sb no) H := hP.sub [0, 1, 2, 3, 4, 5, 6, 7] rfl
  have hDc : va_D A (wW cyD cyI cyJ cyZ aw ad ak ar au ae av ab df kf rf uf st fw fo sn me vf lf sp sb no) := hD.sub [0, 1, 2, 3, 4, 5, 6, 7] (by decide) rfl
  refine kdE (ws' := (wW cyD cyI cyJ cyZ aw ad ak ar au ae av ab df kf rf uf st fw fo sn me vf lf sp sb no)) (wc := (wW cyD cyI cyJ cyZ aw ad ak ar au ae av ab df kf rf uf st fw fo sn me vf lf sp sb no)) (wr := []) (w1 := (wW cyD cyI cyJ cyZ aw ad ak ar au ae av ab df kf rf uf st fw fo sn me vf lf sp sb no)) (va_runV (As := [.int p1]) (rest := []) ⟨hx, hb, hml, hown, hts⟩ (c_X2_depthWalked (l := l) (D := D) (cyD := cyD) (cyI := cyI) (cyJ := cyJ) (cyZ := cyZ) aw ad ak ar au ae av ab df kf rf uf st fw fo sn me vf lf sp sb no H.size p1 hE) (cwV 1 hts gX2_depthAt_X2_depthWalked rfl rfl rfl (by decide +kernel) ⟨Nat.le_of_ble_eq_true rfl, Nat.le_of_ble_eq_true rfl⟩) (kV (ci := 2) (q0 := 0) (q := (RX2, TX2, 8)) hN hK hPc hDc rfl rfl rfl) rfl rfl hl.1 rfl (lv_room (Nat.le_of_ble_eq_true rfl)) dX2_depthAt_10 ⟨Nat.le_of_ble_eq_true rfl, Nat.le_of_ble_eq_true rfl⟩) hP hD hS hA [0, 1, 2, 3, 4, 5, 6, 7] [] [0, 1, 2, 3, 4, 5, 6, 7] rfl rfl (by decide) (by decide) rfl (by decide) (fun H locs hP hD hS => ?_)
  have hF9 : (fX2_depthAt df kf rf me p1) = (fX2_depthWalked df rf me p1) := by rw [fX2_depthAt, if_pos c_5]
  have hP9 : va_P D vwCl (wW cyD cyI cyJ cyZ aw ad ak ar au ae av ab df kf rf uf st fw fo sn me vf lf sp sb no) H := hP
  have hD9 : va_D A (wW cyD cyI cyJ cyZ aw ad ak ar au ae av ab df kf rf uf st fw fo sn me vf lf sp sb no) := hD
  exact W.dret (v := (fX2_depthWalked df rf me p1)) hx hb hr (fun t ht hW => ⟨⟨(fX2_depthWalked df rf me p1), (), rfl, (by rw [hF9]), by rw [ht]; exact hP9, va_K.moved hW.alike hK, hD9⟩, hS.F ht⟩) hS.2.2 dX2_depthAt_13
def fX2_strengthsBehind_L27 (df : Nat → UInt64) (rf : Nat → Int32) (fw : Int32) (sn : Nat) (me : UInt64) (vf : Nat → UInt64) (lf : Nat → Int32) (sp : UInt64) (sb : UInt64) (no : UInt64)  (p1 : Int32) : Nat → (Int32) → (Int32) → (Int64) → UInt64
  | 0, v_j, v_kk, v_sm => 0
  | k + 1, v_j, v_kk, v_sm => if (8 : Int32) < v_j then (FP.l2d v_sm) else ((fX2_strengthsBehind_L27 df rf fw sn me vf lf sp sb no p1 k ((v_j) + 1) (v_kk) (v_sm + (fX0_strength sn me vf lf sp sb no fw p1 (v_kk + v_j)))))
def fX2_strengthsBehind (df : Nat → UInt64) (rf : Nat → Int32) (fw : Int32) (sn : Nat) (me : UInt64) (vf : Nat → UInt64) (lf : Nat → Int32) (sp : UInt64) (sb : UInt64) (no : UInt64) (p1 : Int32) : UInt64 := if (fX2_isEdited df p1) = 0 then (fX2_strengthsBehind_L27 df rf fw sn me vf lf sp sb no p1 9 (1 : Int32) (fX2_sampleOfRow rf p1) (0 : Int64)) else ((fX2_strengthsBehind_L27 df rf fw sn me vf lf sp sb no p1 9 (1 : Int32) (fX2_lowest df sn me p1) (0 : Int64)))
set_option maxHeartbeats 4000000 in
set_option maxRecDepth 100000 in
theorem c_X2_strengthsBehind {l : Launch} {D : va_G} {cyD cyI cyJ cyZ : ClassId} (aw ad ak ar au ae av ab : Nat) (df : Nat → UInt64) (kf : Nat → Int32) (rf : Nat → Int32) (uf : Nat → Int64) (st : Int32) (fw : Int32) (fo : Int32) (sn : Nat) (me : UInt64) (vf : Nat → UInt64) (lf : Nat → Int32) (sp : UInt64) (sb : UInt64) (no : UInt64) (sz : Nat) (p1 : Int32) (hE : okE sn me vf sp sb no) : mD l yX2_strengthsBehind wsX2_strengthsBehind ({ frames := 3, cells := 0, slots := 0, locals := 72 } : Room) D (kT cyD cyI cyJ cyZ) [.ref aw, .int p1] (wW cyD cyI cyJ cyZ aw ad ak ar au ae av ab df kf rf uf st fw fo sn me vf lf sp sb no) (wW cyD cyI cyJ cyZ aw ad ak ar au ae av ab df kf rf uf st fw fo sn me vf lf sp sb no) sz (fX2_strengthsBehind df rf fw sn me vf lf sp sb no p1) 0 0 := by
  refine Met.ofW (cc := cX2_strengthsBehind) (maxL := 6) (ret := (some .double)) (by decide) rfl ?_
  intro p e s m args below meth c s₁ B hml hv
  obtain ⟨rfl, hN, hsz, hP, hK, hD0⟩ := hv
  have hx := B.exec
  have hb := B.bytes
  have hr := B.returns
  have hts := atoms_spec (ws := wsX2_strengthsBehind) B.pre
  have hown : s.vm.findClass RX2 = some m.cls := findClass_of_methodNamed B.named
  have hlocks := B.notSynchronized
  subst hsz
  have hD := hD0.self (sz := s.heap.size)
  generalize hAe : va_A (wW cyD cyI cyJ cyZ aw ad ak ar au ae av ab df kf rf uf st fw fo sn me vf lf sp sb no) s.heap.size = A at hD ⊢
  have hA : ∀ q : Nat, s.heap.size ≤ q → A q := fun q h => by rw [← hAe]; exact Or.inr h
  have hS : va_S A s.heap s.heap [] := va_S.rf
  have hP : va_P D vwCl (wW cyD cyI cyJ cyZ aw ad ak ar au ae av ab df kf rf uf st fw fo sn me vf lf sp sb no) s.heap := hP
  have hl := lv_entry [.ref aw, .int p1] (n := 6) (Nat.le_of_ble_eq_true rfl)
  rw [lg_entry_eq]
  generalize (lg_sl [.ref aw, .int p1] ++ List.replicate (6 - (lg_sl [.ref aw, .int p1]).length) Slot.unset).toArray = ls at hl ⊢
  have hl : lv_has ls 6 [(0, .ref aw), (1, .int p1)] := hl
  obtain ⟨H, hHe⟩ : ∃ H : Heap, H = s.heap := ⟨_, rfl⟩
  have hP : va_P D vwCl (wW cyD cyI cyJ cyZ aw ad ak ar au ae av ab df kf rf uf st fw fo sn me vf lf sp sb no) H := by rw [hHe]; exact hP
  have hS : va_S A s.heap H [] := by rw [hHe]; exact hS
  rw [← hHe]
  refine lv_aload_n hx hb dX2_strengthsBehind_0 rfl (lv_at hl 0 rfl) ?_
  refine lv_iload_n hx hb dX2_strengthsBehind_1 rfl (lv_at hl 1 rfl) ?_
  have hPc : va_P D vwCl (wW cyD cyI cyJ cyZ aw ad ak ar au ae av ab df kf rf uf st fw fo sn me vf lf sp sb no) H := hP.sub [0, 1, 2, 3, 4, 5, 6, 7] rfl
  have hDc : va_D A (wW cyD cyI cyJ cyZ aw ad ak ar au ae av ab df kf rf uf st fw fo sn me vf lf sp sb no) := hD.sub [0, 1, 2, 3, 4, 5, 6, 7] (by decide) rfl
  refine kzE (ws' := (wW cyD cyI cyJ cyZ aw ad ak ar au ae av ab df kf rf uf st fw fo sn me vf lf sp sb no)) (wc := (wW cyD cyI cyJ cyZ aw ad ak ar au ae av ab df kf rf uf st fw fo sn me vf lf sp sb no)) (wr := []) (w1 := (wW cyD cyI cyJ cyZ aw ad ak ar au ae av ab df kf rf uf st fw fo sn me vf lf sp sb no)) (va_runV (As := [.int p1]) (rest := []) ⟨hx, hb, hml, hown, hts⟩ (c_X2_isEdited (l := l) (D := D) (cyD := cyD) (cyI := cyI) (cyJ := cyJ) (cyZ := cyZ) aw ad ak ar au ae av ab df kf rf uf st fw fo sn me vf lf sp sb no H.size p1) (cwV 1 hts gX2_strengthsBehind_X2_isEdited rfl rfl rfl (by decide +kernel) ⟨Nat.le_of_ble_eq_true rfl, Nat.le_of_ble_eq_true rfl⟩) (kV (ci := 2) (q0 := 0) (q := (RX2, TX2, 8)) hN hK hPc hDc rfl rfl rfl) rfl rfl hl.1 rfl (lv_room (Nat.le_of_ble_eq_true rfl)) dX2_strengthsBehind_2 ⟨Nat.le_of_ble_eq_true rfl, Nat.le_of_ble_eq_true rfl⟩) hP hD hS hA [0, 1, 2, 3, 4, 5, 6, 7] [] [0, 1, 2, 3, 4, 5, 6, 7] rfl rfl (by decide) (by decide) rfl (by decide) (fun H locs hz_2 hP hD hS => ?_)
  refine lv_if_eq (tgt := 16) hx hb dX2_strengthsBehind_5 (by decide) (fun c_5 => ?_) (fun c_5 => ?_)
  · refine lv_aload_n hx hb dX2_strengthsBehind_16 rfl (lv_at hl 0 rfl) ?_
    refine lv_iload_n hx hb dX2_strengthsBehind_17 rfl (lv_at hl 1 rfl) ?_
    have hPc : va_P D vwCl (wW cyD cyI cyJ cyZ aw ad ak ar au ae av ab df kf rf uf st fw fo sn me vf lf sp sb no) H := hP.sub [0, 1, 2, 3, 4, 5, 6, 7] rfl
    have hDc : va_D A (wW cyD cyI cyJ cyZ aw ad ak ar au ae av ab df kf rf uf st fw fo sn me vf lf sp sb no) := hD.sub [0, 1, 2, 3, 4, 5, 6, 7] (by decide) rfl
    refine kiE (ws' := (wW cyD cyI cyJ cyZ aw ad ak ar au ae av ab df kf rf uf st fw fo sn me vf lf sp sb no)) (wc := (wW cyD cyI cyJ cyZ aw ad ak ar au ae av ab df kf rf uf st fw fo sn me vf lf sp sb no)) (wr := []) (w1 := (wW cyD cyI cyJ cyZ aw ad ak ar au ae av ab df kf rf uf st fw fo sn me vf lf sp sb no)) (va_runV (As := [.int p1]) (rest := []) ⟨hx, hb, hml, hown, hts⟩ (c_X2_sampleOfRow (l := l) (D := D) (cyD := cyD) (cyI := cyI) (cyJ := cyJ) (cyZ := cyZ) aw ad ak ar au ae av ab df kf rf uf st fw fo sn me vf lf sp sb no H.size p1) (cwV 1 hts gX2_strengthsBehind_X2_sampleOfRow rfl rfl rfl (by decide +kernel) ⟨Nat.le_of_ble_eq_true rfl, Nat.le_of_ble_eq_true rfl⟩) (kV (ci := 2) (q0 := 0) (q := (RX2, TX2, 8)) hN hK hPc hDc rfl rfl rfl) rfl rfl hl.1 rfl (lv_room (Nat.le_of_ble_eq_true rfl)) dX2_strengthsBehind_18 ⟨Nat.le_of_ble_eq_true rfl, Nat.le_of_ble_eq_true rfl⟩) hP hD hS hA [0, 1, 2, 3, 4, 5, 6, 7] [] [0, 1, 2, 3, 4, 5, 6, 7] rfl rfl (by decide) (by decide) rfl (by decide) (fun H locs hP hD hS => ?_)
    refine lv_istore_n (lv' := [(2, .int (fX2_sampleOfRow rf p1)), (0, .ref aw), (1, .int p1)]) hx hb dX2_strengthsBehind_21 rfl hl (by decide) rfl (fun ls hl => ?_)
    refine lv_lconst (v := 0) hx hb dX2_strengthsBehind_22 rfl ?_
    refine lv_lstore_n (lv' := [(3, .long (0 : Int64)), (2, .int (fX2_sampleOfRow rf p1)), (0, .ref aw), (1, .int p1)]) hx hb dX2_strengthsBehind_23 rfl hl (by decide) rfl (fun ls hl => ?_)
    refine lv_iconst (v := 1) hx hb dX2_strengthsBehind_24 (by decide) ?_
    refine lv_istore (lv' := [(5, .int (1 : Int32)), (3, .long (0 : Int64)), (2, .int (fX2_sampleOfRow rf p1)), (0, .ref aw), (1, .int p1)]) hx hb dX2_strengthsBehind_25 hl (by decide) rfl (fun ls hl => ?_)
    have loop_27 : ∀ (k : Nat) (j : Nat) (kk : Int32) (sm : Int64) (H : Heap) (locs : List Loc), (j + k = 10) → (j ≤ 9) → (fX2_strengthsBehind df rf fw sn me vf lf sp sb no p1) = fX2_strengthsBehind_L27 df rf fw sn me vf lf sp sb no p1 k ((nI j)) (kk) (sm) → va_P D vwCl (wW cyD cyI cyJ cyZ aw ad ak ar au ae av ab df kf rf uf st fw fo sn me vf lf sp sb no) H → va_D A (wW cyD cyI cyJ cyZ aw ad ak ar au ae av ab df kf rf uf st fw fo sn me vf lf sp sb no) → va_S A s.heap H locs → ∀ ls, lv_has ls 6 [(5, .int ((nI j))), (3, .long (sm)), (2, .int (kk)), (0, .ref aw), (1, .int p1)] → W p l e (headSpec wsX2_strengthsBehind ({ frames := 3, cells := 0, slots := 0, locals := 72 } : Room)).room s m ([.ref aw, .int p1] : List Value).toArray below meth c H locs 0 0 (MQ below (va_Qd (fun (r : UInt64) (_ : Unit) => r = (fX2_strengthsBehind df rf fw sn me vf lf sp sb no p1)) (kE D (kT cyD cyI cyJ cyZ) (wW cyD cyI cyJ cyZ aw ad ak ar au ae av ab df kf rf uf st fw fo sn me vf lf sp sb no) A) A) ([.ref aw, .int p1] : List Value).toArray s 0 0 A) (F0 m 27 ls []) := by
      intro k
      induction k with
      | zero => intro j kk sm H locs hj hj2 hF hP hD hS ls hl; exact absurd hj2 (by omega)
      | succ k ih =>
        intro j kk sm H locs hj hj2 hF hP hD hS ls hl
        refine lv_iload hx hb dX2_strengthsBehind_27 (lv_at hl 0 rfl) ?_
        refine lv_bipush (v := 8) hx hb dX2_strengthsBehind_29 (by decide) ?_
        refine lv_icmp_gt (tgt := 59) hx hb dX2_strengthsBehind_31 (by decide) (fun c_31 => ?_) (fun c_31 => ?_)
        · refine lv_lload_n hx hb dX2_strengthsBehind_59 rfl (lv_at hl 1 rfl) ?_
          refine lv_l2d hx hb dX2_strengthsBehind_60 ?_
          have hF9 : (fX2_strengthsBehind df rf fw sn me vf lf sp sb no p1) = (FP.l2d sm) := by rw [hF, fX2_strengthsBehind_L27, if_pos c_31]
          have hP9 : va_P D vwCl (wW cyD cyI cyJ cyZ aw ad ak ar au ae av ab df kf rf uf st fw fo sn me vf lf sp sb no) H := hP
          have hD9 : va_D A (wW cyD cyI cyJ cyZ aw ad ak ar au ae av ab df kf rf uf st fw fo sn me vf lf sp sb no) := hD
          exact W.dret (v := (FP.l2d sm)) hx hb hr (fun t ht hW => ⟨⟨(FP.l2d sm), (), rfl, (by rw [hF9]), by rw [ht]; exact hP9, va_K.moved hW.alike hK, hD9⟩, hS.F ht⟩) hS.2.2 dX2_strengthsBehind_61
        refine lv_lload_n hx hb dX2_strengthsBehind_34 rfl (lv_at hl 1 rfl) ?_
        refine lv_aload_n hx hb dX2_strengthsBehind_35 rfl (lv_at hl 3 rfl) ?_
        refine va_get (D := D) (ci := 2) (v := .ref ae) (C := RX2) (T := TX2) (N := 8) hx hb hts (fun _ h => (List.mem_cons_of_mem _ (List.mem_append_left _ (List.mem_append_right _ h)))) hown hK hP 0 rfl rfl 0 (by decide) (hts (.fieldLink RX2 34 "BottomWalks$Walk" "echoes" "LBottomWalks$Echoes;") (List.mem_of_getElem? (i := 1) rfl)) (fun _ h9 => h9) rfl dX2_strengthsBehind_36 ?_
        refine lv_aload_n hx hb dX2_strengthsBehind_39 rfl (lv_at hl 3 rfl) ?_
        refine va_get (D := D) (ci := 2) (v := .int fw) (C := RX2) (T := TX2) (N := 8) hx hb hts (fun _ h => (List.mem_cons_of_mem _ (List.mem_append_left _ (List.mem_append_right _ h)))) hown hK hP 0 rfl rfl 6 (by decide) (hts (.fieldLink RX2 27 "BottomWalks$Walk" "frequencyWalked" "I") (List.mem_of_getElem? (i := 2) rfl)) (fun _ h9 => h9) rfl dX2_strengthsBehind_40 ?_
        refine lv_iload_n hx hb dX2_strengthsBehind_43 rfl (lv_at hl 4 rfl) ?_
        refine lv_iload_n hx hb dX2_strengthsBehind_44 rfl (lv_at hl 2 rfl) ?_
        refine lv_iload hx hb dX2_strengthsBehind_45 (lv_at hl 0 rfl) ?_
        refine lv_iadd hx hb dX2_strengthsBehind_47 ?_
        have hPc : va_P D vwCl (wE cyD cyI cyJ cyZ ae av ab sn me vf lf sp sb no) H := hP.sub [5, 6, 7] rfl
        have hDc : va_D A (wE cyD cyI cyJ cyZ ae av ab sn me vf lf sp sb no) := hD.sub [5, 6, 7] (by decide) rfl
        refine klE (ws' := (wW cyD cyI cyJ cyZ aw ad ak ar au ae av ab df kf rf uf st fw fo sn me vf lf sp sb no)) (wc := (wE cyD cyI cyJ cyZ ae av ab sn me vf lf sp sb no)) (wr := [(aw, .inr (2, [.ref ae, .ref ad, .ref ak, .ref ar, .ref au, .int st, .int fw, .int fo])), (ad, .inl (cyD, 32, .inr (.inr (.inr (.inl df))))), (ak, .inl (cyZ, 32, .inl kf)), (ar, .inl (cyI, 32, .inl rf)), (au, .inl (cyJ, 32 * sn, .inr (.inl uf)))]) (w1 := (wE cyD cyI cyJ cyZ ae av ab sn me vf lf sp sb no)) (va_runV (As := [.int fw, .int p1, .int (kk + (nI j))]) (rest := [.long (sm)]) ⟨hx, hb, hml, hown, hts⟩ (c_X0_strength (l := l) (D := D) (cyD := cyD) (cyI := cyI) (cyJ := cyJ) (cyZ := cyZ) ae av ab sn me vf lf sp sb no H.size fw p1 (kk + (nI j)) hE) (cwV 3 hts gX2_strengthsBehind_X0_strength rfl rfl rfl (by decide +kernel) ⟨Nat.le_of_ble_eq_true rfl, Nat.le_of_ble_eq_true rfl⟩) (kV (ci := 0) (q0 := 0) (q := (RX0, TX0, 7)) hN hK hPc hDc rfl rfl rfl) rfl rfl hl.1 rfl (lv_room (Nat.le_of_ble_eq_true rfl)) dX2_strengthsBehind_48 ⟨Nat.le_of_ble_eq_true rfl, Nat.le_of_ble_eq_true rfl⟩) hP hD hS hA [5, 6, 7] [0, 1, 2, 3, 4] [0, 1, 2, 3, 4, 5, 6, 7] rfl rfl (by decide) (by decide) rfl (by decide) (fun H locs hP hD hS => ?_)
        refine lv_ladd hx hb dX2_strengthsBehind_51 ?_
        refine lv_lstore_n (lv' := [(3, .long (sm + (fX0_strength sn me vf lf sp sb no fw p1 (kk + (nI j))))), (5, .int ((nI j))), (2, .int (kk)), (0, .ref aw), (1, .int p1)]) hx hb dX2_strengthsBehind_52 rfl hl (by decide) rfl (fun ls hl => ?_)
        refine lv_iinc (v := (((nI j)) + 1)) (lv' := [(5, .int (((nI j)) + 1)), (3, .long (sm + (fX0_strength sn me vf lf sp sb no fw p1 (kk + (nI j))))), (2, .int (kk)), (0, .ref aw), (1, .int p1)]) hx hb dX2_strengthsBehind_53 hl (k := 1) rfl rfl (by decide) rfl (fun ls hl => ?_)
        refine lv_goto (tgt := 27) hx hb dX2_strengthsBehind_56 (by decide) ?_
        exact ih (j + 1) (kk) (sm + (fX0_strength sn me vf lf sp sb no fw p1 (kk + (nI j)))) _ _ (by omega) (by have := Nat.lt_of_not_le (fun z => c_31 (nI_lt (a := 8) z (by omega))); omega) (by rw [← nI_1 j]; rw [hF, fX2_strengthsBehind_L27, if_neg c_31]) hP hD hS _ (by rw [← nI_1 j]; exact lv_sub hl [0, 1, 2, 3, 4] rfl)
    exact loop_27 9 1 (fX2_sampleOfRow rf p1) 0 _ _ rfl (by decide) (by rw [nI_one]; rw [fX2_strengthsBehind, if_pos c_5]) hP hD hS _ (by exact lv_sub hl [0, 1, 2, 3, 4] rfl)
  refine lv_aload_n hx hb dX2_strengthsBehind_8 rfl (lv_at hl 0 rfl) ?_
  refine lv_iload_n hx hb dX2_strengthsBehind_9 rfl (lv_at hl 1 rfl) ?_
  have hPc : va_P D vwCl (wW cyD cyI cyJ cyZ aw ad ak ar au ae av ab df kf rf uf st fw fo sn me vf lf sp sb no) H := hP.sub [0, 1, 2, 3, 4, 5, 6, 7] rfl
  have hDc : va_D A (wW cyD cyI cyJ cyZ aw ad ak ar au ae av ab df kf rf uf st fw fo sn me vf lf sp sb no) := hD.sub [0, 1, 2, 3, 4, 5, 6, 7] (by decide) rfl
  refine kiE (ws' := (wW cyD cyI cyJ cyZ aw ad ak ar au ae av ab df kf rf uf st fw fo sn me vf lf sp sb no)) (wc := (wW cyD cyI cyJ cyZ aw ad ak ar au ae av ab df kf rf uf st fw fo sn me vf lf sp sb no)) (wr := []) (w1 := (wW cyD cyI cyJ cyZ aw ad ak ar au ae av ab df kf rf uf st fw fo sn me vf lf sp sb no)) (va_runV (As := [.int p1]) (rest := []) ⟨hx, hb, hml, hown, hts⟩ (c_X2_lowest (l := l) (D := D) (cyD := cyD) (cyI := cyI) (cyJ := cyJ) (cyZ := cyZ) aw ad ak ar au ae av ab df kf rf uf st fw fo sn me vf lf sp sb no H.size p1 hE) (cwV 1 hts gX2_strengthsBehind_X2_lowest rfl rfl rfl (by decide +kernel) ⟨Nat.le_of_ble_eq_true rfl, Nat.le_of_ble_eq_true rfl⟩) (kV (ci := 2) (q0 := 0) (q := (RX2, TX2, 8)) hN hK hPc hDc rfl rfl rfl) rfl rfl hl.1 rfl (lv_room (Nat.le_of_ble_eq_true rfl)) dX2_strengthsBehind_10 ⟨Nat.le_of_ble_eq_true rfl, Nat.le_of_ble_eq_true rfl⟩) hP hD hS hA [0, 1, 2, 3, 4, 5, 6, 7] [] [0, 1, 2, 3, 4, 5, 6, 7] rfl rfl (by decide) (by decide) rfl (by decide) (fun H locs hP hD hS => ?_)
  refine lv_goto (tgt := 21) hx hb dX2_strengthsBehind_13 (by decide) ?_
  refine lv_istore_n (lv' := [(2, .int (fX2_lowest df sn me p1)), (0, .ref aw), (1, .int p1)]) hx hb dX2_strengthsBehind_21 rfl hl (by decide) rfl (fun ls hl => ?_)
  refine lv_lconst (v := 0) hx hb dX2_strengthsBehind_22 rfl ?_
  refine lv_lstore_n (lv' := [(3, .long (0 : Int64)), (2, .int (fX2_lowest df sn me p1)), (0, .ref aw), (1, .int p1)]) hx hb dX2_strengthsBehind_23 rfl hl (by decide) rfl (fun ls hl => ?_)
  refine lv_iconst (v := 1) hx hb dX2_strengthsBehind_24 (by decide) ?_
  refine lv_istore (lv' := [(5, .int (1 : Int32)), (3, .long (0 : Int64)), (2, .int (fX2_lowest df sn me p1)), (0, .ref aw), (1, .int p1)]) hx hb dX2_strengthsBehind_25 hl (by decide) rfl (fun ls hl => ?_)
  have loop_27 : ∀ (k : Nat) (j : Nat) (kk : Int32) (sm : Int64) (H : Heap) (locs : List Loc), (j + k = 10) → (j ≤ 9) → (fX2_strengthsBehind df rf fw sn me vf lf sp sb no p1) = fX2_strengthsBehind_L27 df rf fw sn me vf lf sp sb no p1 k ((nI j)) (kk) (sm) → va_P D vwCl (wW cyD cyI cyJ cyZ aw ad ak ar au ae av ab df kf rf uf st fw fo sn me vf lf sp sb no) H → va_D A (wW cyD cyI cyJ cyZ aw ad ak ar au ae av ab df kf rf uf st fw fo sn me vf lf sp sb no) → va_S A s.heap H locs → ∀ ls, lv_has ls 6 [(5, .int ((nI j))), (3, .long (sm)), (2, .int (kk)), (0, .ref aw), (1, .int p1)] → W p l e (headSpec wsX2_strengthsBehind ({ frames := 3, cells := 0, slots := 0, locals := 72 } : Room)).room s m ([.ref aw, .int p1] : List Value).toArray below meth c H locs 0 0 (MQ below (va_Qd (fun (r : UInt64) (_ : Unit) => r = (fX2_strengthsBehind df rf fw sn me vf lf sp sb no p1)) (kE D (kT cyD cyI cyJ cyZ) (wW cyD cyI cyJ cyZ aw ad ak ar au ae av ab df kf rf uf st fw fo sn me vf lf sp sb no) A) A) ([.ref aw, .int p1] : List Value).toArray s 0 0 A) (F0 m 27 ls []) := by
    intro k
    induction k with
    | zero => intro j kk sm H locs hj hj2 hF hP hD hS ls hl; exact absurd hj2 (by omega)
    | succ k ih =>
      intro j kk sm H locs hj hj2 hF hP hD hS ls hl
      refine lv_iload hx hb dX2_strengthsBehind_27 (lv_at hl 0 rfl) ?_
      refine lv_bipush (v := 8) hx hb dX2_strengthsBehind_29 (by decide) ?_
      refine lv_icmp_gt (tgt := 59) hx hb dX2_strengthsBehind_31 (by decide) (fun c_31 => ?_) (fun c_31 => ?_)
      · refine lv_lload_n hx hb dX2_strengthsBehind_59 rfl (lv_at hl 1 rfl) ?_
        refine lv_l2d hx hb dX2_strengthsBehind_60 ?_
        have hF9 : (fX2_strengthsBehind df rf fw sn me vf lf sp sb no p1) = (FP.l2d sm) := by rw [hF, fX2_strengthsBehind_L27, if_pos c_31]
        have hP9 : va_P D vwCl (wW cyD cyI cyJ cyZ aw ad ak ar au ae av ab df kf rf uf st fw fo sn me vf lf sp sb no) H := hP
        have hD9 : va_D A (wW cyD cyI cyJ cyZ aw ad ak ar au ae av ab df kf rf uf st fw fo sn me vf lf sp sb no) := hD
        exact W.dret (v := (FP.l2d sm)) hx hb hr (fun t ht hW => ⟨⟨(FP.l2d sm), (), rfl, (by rw [hF9]), by rw [ht]; exact hP9, va_K.moved hW.alike hK, hD9⟩, hS.F ht⟩) hS.2.2 dX2_strengthsBehind_61
      refine lv_lload_n hx hb dX2_strengthsBehind_34 rfl (lv_at hl 1 rfl) ?_
      refine lv_aload_n hx hb dX2_strengthsBehind_35 rfl (lv_at hl 3 rfl) ?_
      refine va_get (D := D) (ci := 2) (v := .ref ae) (C := RX2) (T := TX2) (N := 8) hx hb hts (fun _ h => (List.mem_cons_of_mem _ (List.mem_append_left _ (List.mem_append_right _ h)))) hown hK hP 0 rfl rfl 0 (by decide) (hts (.fieldLink RX2 34 "BottomWalks$Walk" "echoes" "LBottomWalks$Echoes;") (List.mem_of_getElem? (i := 1) rfl)) (fun _ h9 => h9) rfl dX2_strengthsBehind_36 ?_
      refine lv_aload_n hx hb dX2_strengthsBehind_39 rfl (lv_at hl 3 rfl) ?_
      refine va_get (D := D) (ci := 2) (v := .int fw) (C := RX2) (T := TX2) (N := 8) hx hb hts (fun _ h => (List.mem_cons_of_mem _ (List.mem_append_left _ (List.mem_append_right _ h)))) hown hK hP 0 rfl rfl 6 (by decide) (hts (.fieldLink RX2 27 "BottomWalks$Walk" "frequencyWalked" "I") (List.mem_of_getElem? (i := 2) rfl)) (fun _ h9 => h9) rfl dX2_strengthsBehind_40 ?_
      refine lv_iload_n hx hb dX2_strengthsBehind_43 rfl (lv_at hl 4 rfl) ?_
      refine lv_iload_n hx hb dX2_strengthsBehind_44 rfl (lv_at hl 2 rfl) ?_
      refine lv_iload hx hb dX2_strengthsBehind_45 (lv_at hl 0 rfl) ?_
      refine lv_iadd hx hb dX2_strengthsBehind_47 ?_
      have hPc : va_P D vwCl (wE cyD cyI cyJ cyZ ae av ab sn me vf lf sp sb no) H := hP.sub [5, 6, 7] rfl
      have hDc : va_D A (wE cyD cyI cyJ cyZ ae av ab sn me vf lf sp sb no) := hD.sub [5, 6, 7] (by decide) rfl
      refine klE (ws' := (wW cyD cyI cyJ cyZ aw ad ak ar au ae av ab df kf rf uf st fw fo sn me vf lf sp sb no)) (wc := (wE cyD cyI cyJ cyZ ae av ab sn me vf lf sp sb no)) (wr := [(aw, .inr (2, [.ref ae, .ref ad, .ref ak, .ref ar, .ref au, .int st, .int fw, .int fo])), (ad, .inl (cyD, 32, .inr (.inr (.inr (.inl df))))), (ak, .inl (cyZ, 32, .inl kf)), (ar, .inl (cyI, 32, .inl rf)), (au, .inl (cyJ, 32 * sn, .inr (.inl uf)))]) (w1 := (wE cyD cyI cyJ cyZ ae av ab sn me vf lf sp sb no)) (va_runV (As := [.int fw, .int p1, .int (kk + (nI j))]) (rest := [.long (sm)]) ⟨hx, hb, hml, hown, hts⟩ (c_X0_strength (l := l) (D := D) (cyD := cyD) (cyI := cyI) (cyJ := cyJ) (cyZ := cyZ) ae av ab sn me vf lf sp sb no H.size fw p1 (kk + (nI j)) hE) (cwV 3 hts gX2_strengthsBehind_X0_strength rfl rfl rfl (by decide +kernel) ⟨Nat.le_of_ble_eq_true rfl, Nat.le_of_ble_eq_true rfl⟩) (kV (ci := 0) (q0 := 0) (q := (RX0, TX0, 7)) hN hK hPc hDc rfl rfl rfl) rfl rfl hl.1 rfl (lv_room (Nat.le_of_ble_eq_true rfl)) dX2_strengthsBehind_48 ⟨Nat.le_of_ble_eq_true rfl, Nat.le_of_ble_eq_true rfl⟩) hP hD hS hA [5, 6, 7] [0, 1, 2, 3, 4] [0, 1, 2, 3, 4, 5, 6, 7] rfl rfl (by decide) (by decide) rfl (by decide) (fun H locs hP hD hS => ?_)
      refine lv_ladd hx hb dX2_strengthsBehind_51 ?_
      refine lv_lstore_n (lv' := [(3, .long (sm + (fX0_strength sn me vf lf sp sb no fw p1 (kk + (nI j))))), (5, .int ((nI j))), (2, .int (kk)), (0, .ref aw), (1, .int p1)]) hx hb dX2_strengthsBehind_52 rfl hl (by decide) rfl (fun ls hl => ?_)
      refine lv_iinc (v := (((nI j)) + 1)) (lv' := [(5, .int (((nI j)) + 1)), (3, .long (sm + (fX0_strength sn me vf lf sp sb no fw p1 (kk + (nI j))))), (2, .int (kk)), (0, .ref aw), (1, .int p1)]) hx hb dX2_strengthsBehind_53 hl (k := 1) rfl rfl (by decide) rfl (fun ls hl => ?_)
      refine lv_goto (tgt := 27) hx hb dX2_strengthsBehind_56 (by decide) ?_
      exact ih (j + 1) (kk) (sm + (fX0_strength sn me vf lf sp sb no fw p1 (kk + (nI j)))) _ _ (by omega) (by have := Nat.lt_of_not_le (fun z => c_31 (nI_lt (a := 8) z (by omega))); omega) (by rw [← nI_1 j]; rw [hF, fX2_strengthsBehind_L27, if_neg c_31]) hP hD hS _ (by rw [← nI_1 j]; exact lv_sub hl [0, 1, 2, 3, 4] rfl)
  exact loop_27 9 1 (fX2_lowest df sn me p1) 0 _ _ rfl (by decide) (by rw [nI_one]; rw [fX2_strengthsBehind, if_neg c_5]) hP hD hS _ (by exact lv_sub hl [0, 1, 2, 3, 4] rfl)
theorem i_le_of {x t : Int32} {n : Nat} (h1 : ¬ nI n < t) (h2 : ¬ t < x) : x ≤ nI n := by
  have a := Int32.not_lt.mp h1
  have b := Int32.not_lt.mp h2
  exact Int32.le_trans b a
theorem from_ok {sn : Nat} (me : UInt64) (df : Nat → UInt64) (p : Int32) (h1 : 1 ≤ sn) (h2 : sn ≤ 64) : ∃ a : Nat, a < 64 ∧ fX2_lowest df sn me p = nI a := by
  obtain ⟨q, a, b⟩ := lowest_nI me df p h1 h2
  exact ⟨q, by omega, b⟩
theorem fromW_ok {sn : Nat} (me : UInt64) (df : Nat → UInt64) (p : Int32) (h1 : 1 ≤ sn) (h2 : sn ≤ 64) {K S : Nat} {p3 st : Int32} (hk : p3 = nI K) (hK : K < 64) (hS : st = nI S) (hS64 : S ≤ 64) : ∃ a : Nat, a < 64 ∧ (if fX2_lowest df sn me p < (p3 - st) then (p3 - st) else fX2_lowest df sn me p) = nI a := by
  obtain ⟨q, a, b⟩ := lowest_nI me df p h1 h2
  rw [b, hk, hS]
  by_cases c : S ≤ K
  · rw [pk_sub c]
    split
    · exact ⟨K - S, by omega, rfl⟩
    · exact ⟨q, by omega, rfl⟩
  · have h := pk_sneg (a := K) (b := S) (by omega) (by omega)
    rw [if_neg (fun z => nI_pos (n := q) (by omega) (Int32.lt_trans z h))]
    exact ⟨q, by omega, rfl⟩
theorem to_ok {sn : Nat} (me : UInt64) (df : Nat → UInt64) (p : Int32) (h1 : 1 ≤ sn) (h2 : sn ≤ 64) : ¬ nI 63 < fX2_highest df sn me p := by
  obtain ⟨q, a, b⟩ := highest_nI me df p h1 h2
  rw [b]; exact nI_nlt (by omega) (by decide)
theorem toW_ok {sn : Nat} (me : UInt64) (df : Nat → UInt64) (p : Int32) (h1 : 1 ≤ sn) (h2 : sn ≤ 64) (y : Int32) : ¬ nI 63 < (if y < fX2_highest df sn me p then y else fX2_highest df sn me p) := by
  have h := to_ok me df p h1 h2
  split
  · rename_i c
    exact fun z => h (Int32.lt_trans z c)
  · exact h
def fX2_bestBefore_L80 (df : Nat → UInt64) (uf : Nat → Int64) (st : Int32) (sn : Nat) (me : UInt64) (v_tt : Int32) (p1 : Int32) (p2 : Int32) (p3 : Int32) : Nat → (Int32) → (Int32) → (Int64) → Int32
  | 0, v_j, v_bb, v_gs => 0
  | k + 1, v_j, v_bb, v_gs => if v_tt < v_j then v_bb else (if (lg_cmp (fX2_sumAt uf sn p1 (v_j)) v_gs) ≤ 0 then (fX2_bestBefore_L80 df uf st sn me v_tt p1 p2 p3 k ((v_j) + 1) (v_bb) (v_gs)) else ((fX2_bestBefore_L80 df uf st sn me v_tt p1 p2 p3 k ((v_j) + 1) (v_j) (fX2_sumAt uf sn p1 (v_j)))))
def fX2_bestBefore_L61 (df : Nat → UInt64) (uf : Nat → Int64) (st : Int32) (sn : Nat) (me : UInt64)  (p1 : Int32) (p2 : Int32) (p3 : Int32) : Nat → (Int32) → (Int32) → Int32
  | 0, v_tf, v_tt => 0
  | k + 1, v_tf, v_tt => (fX2_bestBefore_L80 df uf st sn me v_tt p1 p2 p3 66 (v_tf + (1 : Int32)) (v_tf) (fX2_sumAt uf sn p1 (v_tf)))
def fX2_bestBefore (df : Nat → UInt64) (uf : Nat → Int64) (st : Int32) (sn : Nat) (me : UInt64) (p1 : Int32) (p2 : Int32) (p3 : Int32) : Int32 := if p2 = (-1 : Int32) then (fX2_bestBefore_L61 df uf st sn me p1 p2 p3 1 (fX2_lowest df sn me p1) (fX2_highest df sn me p1)) else (if (fX2_isEdited df p1) = 0 then (if (fX2_isEdited df p2) = 0 then (fX2_bestBefore_L61 df uf st sn me p1 p2 p3 1 (if (fX2_lowest df sn me p1) < (p3 - st) then (p3 - st) else (fX2_lowest df sn me p1)) (if (p3 + st) < (fX2_highest df sn me p1) then (p3 + st) else (fX2_highest df sn me p1))) else ((fX2_bestBefore_L61 df uf st sn me p1 p2 p3 1 (fX2_lowest df sn me p1) (fX2_highest df sn me p1)))) else ((fX2_bestBefore_L61 df uf st sn me p1 p2 p3 1 (fX2_lowest df sn me p1) (fX2_highest df sn me p1))))
set_option maxHeartbeats 4000000 in
set_option maxRecDepth 100000 in
theorem c_X2_bestBefore {l : Launch} {D : va_G} {cyD cyI cyJ cyZ : ClassId} (aw ad ak ar au ae av ab : Nat) (df : Nat → UInt64) (kf : Nat → Int32) (rf : Nat → Int32) (uf : Nat → Int64) (st : Int32) (fw : Int32) (fo : Int32) (sn : Nat) (me : UInt64) (vf : Nat → UInt64) (lf : Nat → Int32) (sp : UInt64) (sb : UInt64) (no : UInt64) (sz : Nat) (p1 : Int32) (p2 : Int32) (p3 : Int32) (hE : okE sn me vf sp sb no) (S : Nat) (hS2 : st = nI S) (hS64 : S ≤ 64) (K : Nat) (hk : p3 = nI K) (hK64 : K < 64) : mI l yX2_bestBefore wsX2_bestBefore ({ frames := 3, cells := 0, slots := 0, locals := 65 } : Room) D (kT cyD cyI cyJ cyZ) [.ref aw, .int p1, .int p2, .int p3] (wW cyD cyI cyJ cyZ aw ad ak ar au ae av ab df kf rf uf st fw fo sn me vf lf sp sb no) (wW cyD cyI cyJ cyZ aw ad ak ar au ae av ab df kf rf uf st fw fo sn me vf lf sp sb no) sz (fX2_bestBefore df uf st sn me p1 p2 p3) 0 0 := by
  refine Met.ofW (cc := cX2_bestBefore) (maxL := 12) (ret := (some .int)) (by decide) rfl ?_
  intro p e s m args below meth c s₁ B hml hv
  obtain ⟨rfl, hN, hsz, hP, hK, hD0⟩ := hv
  have hx := B.exec
  have hb := B.bytes
  have hr := B.returns
  have hts := atoms_spec (ws := wsX2_bestBefore) B.pre
  have hown : s.vm.findClass RX2 = some m.cls := findClass_of_methodNamed B.named
  have hlocks := B.notSynchronized
  subst hsz
  have hD := hD0.self (sz := s.heap.size)
  generalize hAe : va_A (wW cyD cyI cyJ cyZ aw ad ak ar au ae av ab df kf rf uf st fw fo sn me vf lf sp sb no) s.heap.size = A at hD ⊢
  have hA : ∀ q : Nat, s.heap.size ≤ q → A q := fun q h => by rw [← hAe]; exact Or.inr h
  have hS : va_S A s.heap s.heap [] := va_S.rf
  have hP : va_P D vwCl (wW cyD cyI cyJ cyZ aw ad ak ar au ae av ab df kf rf uf st fw fo sn me vf lf sp sb no) s.heap := hP
  have hl := lv_entry [.ref aw, .int p1, .int p2, .int p3] (n := 12) (Nat.le_of_ble_eq_true rfl)
  rw [lg_entry_eq]
  generalize (lg_sl [.ref aw, .int p1, .int p2, .int p3] ++ List.replicate (12 - (lg_sl [.ref aw, .int p1, .int p2, .int p3]).length) Slot.unset).toArray = ls at hl ⊢
  have hl : lv_has ls 12 [(0, .ref aw), (1, .int p1), (2, .int p2), (3, .int p3)] := hl
  obtain ⟨H, hHe⟩ : ∃ H : Heap, H = s.heap := ⟨_, rfl⟩
  have hP : va_P D vwCl (wW cyD cyI cyJ cyZ aw ad ak ar au ae av ab df kf rf uf st fw fo sn me vf lf sp sb no) H := by rw [hHe]; exact hP
  have hS : va_S A s.heap H [] := by rw [hHe]; exact hS
  rw [← hHe]
  refine lv_aload_n hx hb dX2_bestBefore_0 rfl (lv_at hl 0 rfl) ?_
  refine lv_iload_n hx hb dX2_bestBefore_1 rfl (lv_at hl 1 rfl) ?_
  have hPc : va_P D vwCl (wW cyD cyI cyJ cyZ aw ad ak ar au ae av ab df kf rf uf st fw fo sn me vf lf sp sb no) H := hP.sub [0, 1, 2, 3, 4, 5, 6, 7] rfl
  have hDc : va_D A (wW cyD cyI cyJ cyZ aw ad ak ar au ae av ab df kf rf uf st fw fo sn me vf lf sp sb no) := hD.sub [0, 1, 2, 3, 4, 5, 6, 7] (by decide) rfl
  refine kiE (ws' := (wW cyD cyI cyJ cyZ aw ad ak ar au ae av ab df kf rf uf st fw fo sn me vf lf sp sb no)) (wc := (wW cyD cyI cyJ cyZ aw ad ak ar au ae av ab df kf rf uf st fw fo sn me vf lf sp sb no)) (wr := []) (w1 := (wW cyD cyI cyJ cyZ aw ad ak ar au ae av ab df kf rf uf st fw fo sn me vf lf sp sb no)) (va_runV (As := [.int p1]) (rest := []) ⟨hx, hb, hml, hown, hts⟩ (c_X2_lowest (l := l) (D := D) (cyD := cyD) (cyI := cyI) (cyJ := cyJ) (cyZ := cyZ) aw ad ak ar au ae av ab df kf rf uf st fw fo sn me vf lf sp sb no H.size p1 hE) (cwV 1 hts gX2_bestBefore_X2_lowest rfl rfl rfl (by decide +kernel) ⟨Nat.le_of_ble_eq_true rfl, Nat.le_of_ble_eq_true rfl⟩) (kV (ci := 2) (q0 := 0) (q := (RX2, TX2, 8)) hN hK hPc hDc rfl rfl rfl) rfl rfl hl.1 rfl (lv_room (Nat.le_of_ble_eq_true rfl)) dX2_bestBefore_2 ⟨Nat.le_of_ble_eq_true rfl, Nat.le_of_ble_eq_true rfl⟩) hP hD hS hA [0, 1, 2, 3, 4, 5, 6, 7] [] [0, 1, 2, 3, 4, 5, 6, 7] rfl rfl (by decide) (by decide) rfl (by decide) (fun H locs hP hD hS => ?_)
  refine lv_istore (lv' := [(4, .int (fX2_lowest df sn me p1)), (0, .ref aw), (1, .int p1), (2, .int p2), (3, .int p3)]) hx hb dX2_bestBefore_5 hl (by decide) rfl (fun ls hl => ?_)
  refine lv_aload_n hx hb dX2_bestBefore_7 rfl (lv_at hl 1 rfl) ?_
  refine lv_iload_n hx hb dX2_bestBefore_8 rfl (lv_at hl 2 rfl) ?_
  have hPc : va_P D vwCl (wW cyD cyI cyJ cyZ aw ad ak ar au ae av ab df kf rf uf st fw fo sn me vf lf sp sb no) H := hP.sub [0, 1, 2, 3, 4, 5, 6, 7] rfl
  have hDc : va_D A (wW cyD cyI cyJ cyZ aw ad ak ar au ae av ab df kf rf uf st fw fo sn me vf lf sp sb no) := hD.sub [0, 1, 2, 3, 4, 5, 6, 7] (by decide) rfl
  refine kiE (ws' := (wW cyD cyI cyJ cyZ aw ad ak ar au ae av ab df kf rf uf st fw fo sn me vf lf sp sb no)) (wc := (wW cyD cyI cyJ cyZ aw ad ak ar au ae av ab df kf rf uf st fw fo sn me vf lf sp sb no)) (wr := []) (w1 := (wW cyD cyI cyJ cyZ aw ad ak ar au ae av ab df kf rf uf st fw fo sn me vf lf sp sb no)) (va_runV (As := [.int p1]) (rest := []) ⟨hx, hb, hml, hown, hts⟩ (c_X2_highest (l := l) (D := D) (cyD := cyD) (cyI := cyI) (cyJ := cyJ) (cyZ := cyZ) aw ad ak ar au ae av ab df kf rf uf st fw fo sn me vf lf sp sb no H.size p1 hE) (cwV 1 hts gX2_bestBefore_X2_highest rfl rfl rfl (by decide +kernel) ⟨Nat.le_of_ble_eq_true rfl, Nat.le_of_ble_eq_true rfl⟩) (kV (ci := 2) (q0 := 0) (q := (RX2, TX2, 8)) hN hK hPc hDc rfl rfl rfl) rfl rfl hl.1 rfl (lv_room (Nat.le_of_ble_eq_true rfl)) dX2_bestBefore_9 ⟨Nat.le_of_ble_eq_true rfl, Nat.le_of_ble_eq_true rfl⟩) hP hD hS hA [0, 1, 2, 3, 4, 5, 6, 7] [] [0, 1, 2, 3, 4, 5, 6, 7] rfl rfl (by decide) (by decide) rfl (by decide) (fun H locs hP hD hS => ?_)
  refine lv_istore (lv' := [(5, .int (fX2_highest df sn me p1)), (4, .int (fX2_lowest df sn me p1)), (0, .ref aw), (1, .int p1), (2, .int p2), (3, .int p3)]) hx hb dX2_bestBefore_12 hl (by decide) rfl (fun ls hl => ?_)
  refine lv_iload_n hx hb dX2_bestBefore_14 rfl (lv_at hl 4 rfl) ?_
  refine lv_iconst (v := (-1)) hx hb dX2_bestBefore_15 (by decide) ?_
  refine lv_icmp_eq (tgt := 61) hx hb dX2_bestBefore_16 (by decide) (fun c_16 => ?_) (fun c_16 => ?_)
  · have loop_61 : ∀ (k : Nat) (tf tt : Int32) (H : Heap) (locs : List Loc), (k = 1) → (∃ a : Nat, a < 64 ∧ tf = nI a) → (¬ nI 63 < tt) → (fX2_bestBefore df uf st sn me p1 p2 p3) = fX2_bestBefore_L61 df uf st sn me p1 p2 p3 k (tf) (tt) → va_P D vwCl (wW cyD cyI cyJ cyZ aw ad ak ar au ae av ab df kf rf uf st fw fo sn me vf lf sp sb no) H → va_D A (wW cyD cyI cyJ cyZ aw ad ak ar au ae av ab df kf rf uf st fw fo sn me vf lf sp sb no) → va_S A s.heap H locs → ∀ ls, lv_has ls 12 [(5, .int (tt)), (4, .int (tf)), (0, .ref aw), (1, .int p1)] → W p l e (headSpec wsX2_bestBefore ({ frames := 3, cells := 0, slots := 0, locals := 65 } : Room)).room s m ([.ref aw, .int p1, .int p2, .int p3] : List Value).toArray below meth c H locs 0 0 (MQ below (va_Qi (fun (r : Int32) (_ : Unit) => r = (fX2_bestBefore df uf st sn me p1 p2 p3)) (kE D (kT cyD cyI cyJ cyZ) (wW cyD cyI cyJ cyZ aw ad ak ar au ae av ab df kf rf uf st fw fo sn me vf lf sp sb no) A) A) ([.ref aw, .int p1, .int p2, .int p3] : List Value).toArray s 0 0 A) (F0 m 61 ls []) := by
      intro k
      induction k with
      | zero => intro tf tt H locs hkk ha htt hF hP hD hS ls hl; exact absurd hkk (by decide)
      | succ k ih =>
        intro tf tt H locs hkk ha htt hF hP hD hS ls hl
        obtain ⟨a, ha1, hta⟩ := ha
        refine lv_iload hx hb dX2_bestBefore_61 (lv_at hl 1 rfl) ?_
        refine lv_istore (lv' := [(6, .int (tf)), (5, .int (tt)), (4, .int (tf)), (0, .ref aw), (1, .int p1)]) hx hb dX2_bestBefore_63 hl (by decide) rfl (fun ls hl => ?_)
        refine lv_aload_n hx hb dX2_bestBefore_65 rfl (lv_at hl 3 rfl) ?_
        refine lv_iload_n hx hb dX2_bestBefore_66 rfl (lv_at hl 4 rfl) ?_
        refine lv_iload hx hb dX2_bestBefore_67 (lv_at hl 2 rfl) ?_
        have hPc : va_P D vwCl (wW cyD cyI cyJ cyZ aw ad ak ar au ae av ab df kf rf uf st fw fo sn me vf lf sp sb no) H := hP.sub [0, 1, 2, 3, 4, 5, 6, 7] rfl
        have hDc : va_D A (wW cyD cyI cyJ cyZ aw ad ak ar au ae av ab df kf rf uf st fw fo sn me vf lf sp sb no) := hD.sub [0, 1, 2, 3, 4, 5, 6, 7] (by decide) rfl
        refine klE (ws' := (wW cyD cyI cyJ cyZ aw ad ak ar au ae av ab df kf rf uf st fw fo sn me vf lf sp sb no)) (wc := (wW cyD cyI cyJ cyZ aw ad ak ar au ae av ab df kf rf uf st fw fo sn me vf lf sp sb no)) (wr := []) (w1 := (wW cyD cyI cyJ cyZ aw ad ak ar au ae av ab df kf rf uf st fw fo sn me vf lf sp sb no)) (va_runV (As := [.int p1, .int (tf)]) (rest := []) ⟨hx, hb, hml, hown, hts⟩ (c_X2_sumAt (l := l) (D := D) (cyD := cyD) (cyI := cyI) (cyJ := cyJ) (cyZ := cyZ) aw ad ak ar au ae av ab df kf rf uf st fw fo sn me vf lf sp sb no H.size p1 (tf) hE) (cwV 2 hts gX2_bestBefore_X2_sumAt rfl rfl rfl (by decide +kernel) ⟨Nat.le_of_ble_eq_true rfl, Nat.le_of_ble_eq_true rfl⟩) (kV (ci := 2) (q0 := 0) (q := (RX2, TX2, 8)) hN hK hPc hDc rfl rfl rfl) rfl rfl hl.1 rfl (lv_room (Nat.le_of_ble_eq_true rfl)) dX2_bestBefore_69 ⟨Nat.le_of_ble_eq_true rfl, Nat.le_of_ble_eq_true rfl⟩) hP hD hS hA [0, 1, 2, 3, 4, 5, 6, 7] [] [0, 1, 2, 3, 4, 5, 6, 7] rfl rfl (by decide) (by decide) rfl (by decide) (fun H locs hP hD hS => ?_)
        refine lv_lstore (lv' := [(7, .long (fX2_sumAt uf sn p1 (tf))), (6, .int (tf)), (5, .int (tt)), (4, .int (tf)), (0, .ref aw), (1, .int p1)]) hx hb dX2_bestBefore_72 hl (by decide) rfl (fun ls hl => ?_)
        refine lv_iload hx hb dX2_bestBefore_74 (lv_at hl 3 rfl) ?_
        refine lv_iconst (v := 1) hx hb dX2_bestBefore_76 (by decide) ?_
        refine lv_iadd hx hb dX2_bestBefore_77 ?_
        refine lv_istore (lv' := [(9, .int (tf + (1 : Int32))), (7, .long (fX2_sumAt uf sn p1 (tf))), (6, .int (tf)), (5, .int (tt)), (4, .int (tf)), (0, .ref aw), (1, .int p1)]) hx hb dX2_bestBefore_78 hl (by decide) rfl (fun ls hl => ?_)
        have loop_80 : ∀ (k : Nat) (j : Nat) (bb : Int32) (gs : Int64) (H : Heap) (locs : List Loc), (66 ≤ j + k) → (j ≤ 64) → (fX2_bestBefore df uf st sn me p1 p2 p3) = fX2_bestBefore_L80 df uf st sn me tt p1 p2 p3 k ((nI j)) (bb) (gs) → va_P D vwCl (wW cyD cyI cyJ cyZ aw ad ak ar au ae av ab df kf rf uf st fw fo sn me vf lf sp sb no) H → va_D A (wW cyD cyI cyJ cyZ aw ad ak ar au ae av ab df kf rf uf st fw fo sn me vf lf sp sb no) → va_S A s.heap H locs → ∀ ls, lv_has ls 12 [(9, .int ((nI j))), (7, .long (gs)), (6, .int (bb)), (5, .int (tt)), (0, .ref aw), (1, .int p1)] → W p l e (headSpec wsX2_bestBefore ({ frames := 3, cells := 0, slots := 0, locals := 65 } : Room)).room s m ([.ref aw, .int p1, .int p2, .int p3] : List Value).toArray below meth c H locs 0 0 (MQ below (va_Qi (fun (r : Int32) (_ : Unit) => r = (fX2_bestBefore df uf st sn me p1 p2 p3)) (kE D (kT cyD cyI cyJ cyZ) (wW cyD cyI cyJ cyZ aw ad ak ar au ae av ab df kf rf uf st fw fo sn me vf lf sp sb no) A) A) ([.ref aw, .int p1, .int p2, .int p3] : List Value).toArray s 0 0 A) (F0 m 80 ls []) := by
          intro k
          induction k with
          | zero => intro j bb gs H locs hj hj3 hF hP hD hS ls hl; exact absurd hj3 (by omega)
          | succ k ih =>
            intro j bb gs H locs hj hj3 hF hP hD hS ls hl
            refine lv_iload hx hb dX2_bestBefore_80 (lv_at hl 0 rfl) ?_
            refine lv_iload hx hb dX2_bestBefore_82 (lv_at hl 3 rfl) ?_
            refine lv_icmp_gt (tgt := 118) hx hb dX2_bestBefore_84 (by decide) (fun c_84 => ?_) (fun c_84 => ?_)
            · refine lv_iload hx hb dX2_bestBefore_118 (lv_at hl 2 rfl) ?_
              have hF9 : (fX2_bestBefore df uf st sn me p1 p2 p3) = bb := by rw [hF, fX2_bestBefore_L80, if_pos c_84]
              have hP9 : va_P D vwCl (wW cyD cyI cyJ cyZ aw ad ak ar au ae av ab df kf rf uf st fw fo sn me vf lf sp sb no) H := hP
              have hD9 : va_D A (wW cyD cyI cyJ cyZ aw ad ak ar au ae av ab df kf rf uf st fw fo sn me vf lf sp sb no) := hD
              exact W.iret (v := bb) hx hb hr (fun t ht hW => ⟨⟨bb, (), rfl, (by rw [hF9]), by rw [ht]; exact hP9, va_K.moved hW.alike hK, hD9⟩, hS.F ht⟩) hS.2.2 dX2_bestBefore_120
            refine lv_aload_n hx hb dX2_bestBefore_87 rfl (lv_at hl 4 rfl) ?_
            refine lv_iload_n hx hb dX2_bestBefore_88 rfl (lv_at hl 5 rfl) ?_
            refine lv_iload hx hb dX2_bestBefore_89 (lv_at hl 0 rfl) ?_
            have hPc : va_P D vwCl (wW cyD cyI cyJ cyZ aw ad ak ar au ae av ab df kf rf uf st fw fo sn me vf lf sp sb no) H := hP.sub [0, 1, 2, 3, 4, 5, 6, 7] rfl
            have hDc : va_D A (wW cyD cyI cyJ cyZ aw ad ak ar au ae av ab df kf rf uf st fw fo sn me vf lf sp sb no) := hD.sub [0, 1, 2, 3, 4, 5, 6, 7] (by decide) rfl
            refine klE (ws' := (wW cyD cyI cyJ cyZ aw ad ak ar au ae av ab df kf rf uf st fw fo sn me vf lf sp sb no)) (wc := (wW cyD cyI cyJ cyZ aw ad ak ar au ae av ab df kf rf uf st fw fo sn me vf lf sp sb no)) (wr := []) (w1 := (wW cyD cyI cyJ cyZ aw ad ak ar au ae av ab df kf rf uf st fw fo sn me vf lf sp sb no)) (va_runV (As := [.int p1, .int ((nI j))]) (rest := []) ⟨hx, hb, hml, hown, hts⟩ (c_X2_sumAt (l := l) (D := D) (cyD := cyD) (cyI := cyI) (cyJ := cyJ) (cyZ := cyZ) aw ad ak ar au ae av ab df kf rf uf st fw fo sn me vf lf sp sb no H.size p1 ((nI j)) hE) (cwV 2 hts gX2_bestBefore_X2_sumAt rfl rfl rfl (by decide +kernel) ⟨Nat.le_of_ble_eq_true rfl, Nat.le_of_ble_eq_true rfl⟩) (kV (ci := 2) (q0 := 0) (q := (RX2, TX2, 8)) hN hK hPc hDc rfl rfl rfl) rfl rfl hl.1 rfl (lv_room (Nat.le_of_ble_eq_true rfl)) dX2_bestBefore_91 ⟨Nat.le_of_ble_eq_true rfl, Nat.le_of_ble_eq_true rfl⟩) hP hD hS hA [0, 1, 2, 3, 4, 5, 6, 7] [] [0, 1, 2, 3, 4, 5, 6, 7] rfl rfl (by decide) (by decide) rfl (by decide) (fun H locs hP hD hS => ?_)
            refine lv_lstore (lv' := [(10, .long (fX2_sumAt uf sn p1 ((nI j)))), (9, .int ((nI j))), (7, .long (gs)), (6, .int (bb)), (5, .int (tt)), (0, .ref aw), (1, .int p1)]) hx hb dX2_bestBefore_94 hl (by decide) rfl (fun ls hl => ?_)
            refine lv_lload hx hb dX2_bestBefore_96 (lv_at hl 0 rfl) ?_
            refine lv_lload hx hb dX2_bestBefore_98 (lv_at hl 2 rfl) ?_
            refine W.lcmp hx hb dX2_bestBefore_100 ?_
            refine lv_if_le (tgt := 112) hx hb dX2_bestBefore_101 (by decide) (fun c_101 => ?_) (fun c_101 => ?_)
            · refine lv_iinc (v := (((nI j)) + 1)) (lv' := [(9, .int (((nI j)) + 1)), (10, .long (fX2_sumAt uf sn p1 ((nI j)))), (7, .long (gs)), (6, .int (bb)), (5, .int (tt)), (0, .ref aw), (1, .int p1)]) hx hb dX2_bestBefore_112 hl (k := 1) rfl rfl (by decide) rfl (fun ls hl => ?_)
              refine lv_goto (tgt := 80) hx hb dX2_bestBefore_115 (by decide) ?_
              exact ih (j + 1) (bb) (gs) _ _ (by omega) (by have h9 : nI j ≤ nI 63 := i_le_of htt c_84; have := (nI_leI (by omega) (by decide)).mp h9; omega) (by rw [← nI_1 j]; rw [hF, fX2_bestBefore_L80, if_neg c_84, if_pos c_101]) hP hD hS _ (by rw [← nI_1 j]; exact lv_sub hl [0, 2, 3, 4, 5, 6] rfl)
            refine lv_iload hx hb dX2_bestBefore_104 (lv_at hl 1 rfl) ?_
            refine lv_istore (lv' := [(6, .int ((nI j))), (10, .long (fX2_sumAt uf sn p1 ((nI j)))), (9, .int ((nI j))), (7, .long (gs)), (5, .int (tt)), (0, .ref aw), (1, .int p1)]) hx hb dX2_bestBefore_106 hl (by decide) rfl (fun ls hl => ?_)
            refine lv_lload hx hb dX2_bestBefore_108 (lv_at hl 1 rfl) ?_
            refine lv_lstore (lv' := [(7, .long (fX2_sumAt uf sn p1 ((nI j)))), (6, .int ((nI j))), (10, .long (fX2_sumAt uf sn p1 ((nI j)))), (9, .int ((nI j))), (5, .int (tt)), (0, .ref aw), (1, .int p1)]) hx hb dX2_bestBefore_110 hl (by decide) rfl (fun ls hl => ?_)
            refine lv_iinc (v := (((nI j)) + 1)) (lv' := [(9, .int (((nI j)) + 1)), (7, .long (fX2_sumAt uf sn p1 ((nI j)))), (6, .int ((nI j))), (10, .long (fX2_sumAt uf sn p1 ((nI j)))), (5, .int (tt)), (0, .ref aw), (1, .int p1)]) hx hb dX2_bestBefore_112 hl (k := 3) rfl rfl (by decide) rfl (fun ls hl => ?_)
            refine lv_goto (tgt := 80) hx hb dX2_bestBefore_115 (by decide) ?_
            exact ih (j + 1) ((nI j)) (fX2_sumAt uf sn p1 ((nI j))) _ _ (by omega) (by have h9 : nI j ≤ nI 63 := i_le_of htt c_84; have := (nI_leI (by omega) (by decide)).mp h9; omega) (by rw [← nI_1 j]; rw [hF, fX2_bestBefore_L80, if_neg c_84, if_neg c_101]) hP hD hS _ (by rw [← nI_1 j]; exact lv_sub hl [0, 1, 2, 4, 5, 6] rfl)
        exact loop_80 66 (a + 1) tf (fX2_sumAt uf sn p1 (tf)) _ _ (by omega) (by omega) (by rw [← nI_1 a, ← hta]; rw [hF, fX2_bestBefore_L61]) hP hD hS _ (by rw [← nI_1 a, ← hta]; exact lv_sub hl [0, 1, 2, 3, 5, 6] rfl)
    exact loop_61 1 (fX2_lowest df sn me p1) (fX2_highest df sn me p1) _ _ rfl (from_ok me df p1 hE.1 hE.2.1) (to_ok me df p1 hE.1 hE.2.1) (by rw [fX2_bestBefore, if_pos c_16]) hP hD hS _ (by exact lv_sub hl [0, 1, 2, 3] rfl)
  refine lv_aload_n hx hb dX2_bestBefore_19 rfl (lv_at hl 2 rfl) ?_
  refine lv_iload_n hx hb dX2_bestBefore_20 rfl (lv_at hl 3 rfl) ?_
  have hPc : va_P D vwCl (wW cyD cyI cyJ cyZ aw ad ak ar au ae av ab df kf rf uf st fw fo sn me vf lf sp sb no) H := hP.sub [0, 1, 2, 3, 4, 5, 6, 7] rfl
  have hDc : va_D A (wW cyD cyI cyJ cyZ aw ad ak ar au ae av ab df kf rf uf st fw fo sn me vf lf sp sb no) := hD.sub [0, 1, 2, 3, 4, 5, 6, 7] (by decide) rfl
  refine kzE (ws' := (wW cyD cyI cyJ cyZ aw ad ak ar au ae av ab df kf rf uf st fw fo sn me vf lf sp sb no)) (wc := (wW cyD cyI cyJ cyZ aw ad ak ar au ae av ab df kf rf uf st fw fo sn me vf lf sp sb no)) (wr := []) (w1 := (wW cyD cyI cyJ cyZ aw ad ak ar au ae av ab df kf rf uf st fw fo sn me vf lf sp sb no)) (va_runV (As := [.int p1]) (rest := []) ⟨hx, hb, hml, hown, hts⟩ (c_X2_isEdited (l := l) (D := D) (cyD := cyD) (cyI := cyI) (cyJ := cyJ) (cyZ := cyZ) aw ad ak ar au ae av ab df kf rf uf st fw fo sn me vf lf sp sb no H.size p1) (cwV 1 hts gX2_bestBefore_X2_isEdited rfl rfl rfl (by decide +kernel) ⟨Nat.le_of_ble_eq_true rfl, Nat.le_of_ble_eq_true rfl⟩) (kV (ci := 2) (q0 := 0) (q := (RX2, TX2, 8)) hN hK hPc hDc rfl rfl rfl) rfl rfl hl.1 rfl (lv_room (Nat.le_of_ble_eq_true rfl)) dX2_bestBefore_21 ⟨Nat.le_of_ble_eq_true rfl, Nat.le_of_ble_eq_true rfl⟩) hP hD hS hA [0, 1, 2, 3, 4, 5, 6, 7] [] [0, 1, 2, 3, 4, 5, 6, 7] rfl rfl (by decide) (by decide) rfl (by decide) (fun H locs hz_21 hP hD hS => ?_)
  refine lv_if_ne (tgt := 61) hx hb dX2_bestBefore_24 (by decide) (fun c_24 => ?_) (fun c_24 => ?_)
  · have loop_61 : ∀ (k : Nat) (tf tt : Int32) (H : Heap) (locs : List Loc), (k = 1) → (∃ a : Nat, a < 64 ∧ tf = nI a) → (¬ nI 63 < tt) → (fX2_bestBefore df uf st sn me p1 p2 p3) = fX2_bestBefore_L61 df uf st sn me p1 p2 p3 k (tf) (tt) → va_P D vwCl (wW cyD cyI cyJ cyZ aw ad ak ar au ae av ab df kf rf uf st fw fo sn me vf lf sp sb no) H → va_D A (wW cyD cyI cyJ cyZ aw ad ak ar au ae av ab df kf rf uf st fw fo sn me vf lf sp sb no) → va_S A s.heap H locs → ∀ ls, lv_has ls 12 [(5, .int (tt)), (4, .int (tf)), (0, .ref aw), (1, .int p1)] → W p l e (headSpec wsX2_bestBefore ({ frames := 3, cells := 0, slots := 0, locals := 65 } : Room)).room s m ([.ref aw, .int p1, .int p2, .int p3] : List Value).toArray below meth c H locs 0 0 (MQ below (va_Qi (fun (r : Int32) (_ : Unit) => r = (fX2_bestBefore df uf st sn me p1 p2 p3)) (kE D (kT cyD cyI cyJ cyZ) (wW cyD cyI cyJ cyZ aw ad ak ar au ae av ab df kf rf uf st fw fo sn me vf lf sp sb no) A) A) ([.ref aw, .int p1, .int p2, .int p3] : List Value).toArray s 0 0 A) (F0 m 61 ls []) := by
      intro k
      induction k with
      | zero => intro tf tt H locs hkk ha htt hF hP hD hS ls hl; exact absurd hkk (by decide)
      | succ k ih =>
        intro tf tt H locs hkk ha htt hF hP hD hS ls hl
        obtain ⟨a, ha1, hta⟩ := ha
        refine lv_iload hx hb dX2_bestBefore_61 (lv_at hl 1 rfl) ?_
        refine lv_istore (lv' := [(6, .int (tf)), (5, .int (tt)), (4, .int (tf)), (0, .ref aw), (1, .int p1)]) hx hb dX2_bestBefore_63 hl (by decide) rfl (fun ls hl => ?_)
        refine lv_aload_n hx hb dX2_bestBefore_65 rfl (lv_at hl 3 rfl) ?_
        refine lv_iload_n hx hb dX2_bestBefore_66 rfl (lv_at hl 4 rfl) ?_
        refine lv_iload hx hb dX2_bestBefore_67 (lv_at hl 2 rfl) ?_
        have hPc : va_P D vwCl (wW cyD cyI cyJ cyZ aw ad ak ar au ae av ab df kf rf uf st fw fo sn me vf lf sp sb no) H := hP.sub [0, 1, 2, 3, 4, 5, 6, 7] rfl
        have hDc : va_D A (wW cyD cyI cyJ cyZ aw ad ak ar au ae av ab df kf rf uf st fw fo sn me vf lf sp sb no) := hD.sub [0, 1, 2, 3, 4, 5, 6, 7] (by decide) rfl
        refine klE (ws' := (wW cyD cyI cyJ cyZ aw ad ak ar au ae av ab df kf rf uf st fw fo sn me vf lf sp sb no)) (wc := (wW cyD cyI cyJ cyZ aw ad ak ar au ae av ab df kf rf uf st fw fo sn me vf lf sp sb no)) (wr := []) (w1 := (wW cyD cyI cyJ cyZ aw ad ak ar au ae av ab df kf rf uf st fw fo sn me vf lf sp sb no)) (va_runV (As := [.int p1, .int (tf)]) (rest := []) ⟨hx, hb, hml, hown, hts⟩ (c_X2_sumAt (l := l) (D := D) (cyD := cyD) (cyI := cyI) (cyJ := cyJ) (cyZ := cyZ) aw ad ak ar au ae av ab df kf rf uf st fw fo sn me vf lf sp sb no H.size p1 (tf) hE) (cwV 2 hts gX2_bestBefore_X2_sumAt rfl rfl rfl (by decide +kernel) ⟨Nat.le_of_ble_eq_true rfl, Nat.le_of_ble_eq_true rfl⟩) (kV (ci := 2) (q0 := 0) (q := (RX2, TX2, 8)) hN hK hPc hDc rfl rfl rfl) rfl rfl hl.1 rfl (lv_room (Nat.le_of_ble_eq_true rfl)) dX2_bestBefore_69 ⟨Nat.le_of_ble_eq_true rfl, Nat.le_of_ble_eq_true rfl⟩) hP hD hS hA [0, 1, 2, 3, 4, 5, 6, 7] [] [0, 1, 2, 3, 4, 5, 6, 7] rfl rfl (by decide) (by decide) rfl (by decide) (fun H locs hP hD hS => ?_)
        refine lv_lstore (lv' := [(7, .long (fX2_sumAt uf sn p1 (tf))), (6, .int (tf)), (5, .int (tt)), (4, .int (tf)), (0, .ref aw), (1, .int p1)]) hx hb dX2_bestBefore_72 hl (by decide) rfl (fun ls hl => ?_)
        refine lv_iload hx hb dX2_bestBefore_74 (lv_at hl 3 rfl) ?_
        refine lv_iconst (v := 1) hx hb dX2_bestBefore_76 (by decide) ?_
        refine lv_iadd hx hb dX2_bestBefore_77 ?_
        refine lv_istore (lv' := [(9, .int (tf + (1 : Int32))), (7, .long (fX2_sumAt uf sn p1 (tf))), (6, .int (tf)), (5, .int (tt)), (4, .int (tf)), (0, .ref aw), (1, .int p1)]) hx hb dX2_bestBefore_78 hl (by decide) rfl (fun ls hl => ?_)
        have loop_80 : ∀ (k : Nat) (j : Nat) (bb : Int32) (gs : Int64) (H : Heap) (locs : List Loc), (66 ≤ j + k) → (j ≤ 64) → (fX2_bestBefore df uf st sn me p1 p2 p3) = fX2_bestBefore_L80 df uf st sn me tt p1 p2 p3 k ((nI j)) (bb) (gs) → va_P D vwCl (wW cyD cyI cyJ cyZ aw ad ak ar au ae av ab df kf rf uf st fw fo sn me vf lf sp sb no) H → va_D A (wW cyD cyI cyJ cyZ aw ad ak ar au ae av ab df kf rf uf st fw fo sn me vf lf sp sb no) → va_S A s.heap H locs → ∀ ls, lv_has ls 12 [(9, .int ((nI j))), (7, .long (gs)), (6, .int (bb)), (5, .int (tt)), (0, .ref aw), (1, .int p1)] → W p l e (headSpec wsX2_bestBefore ({ frames := 3, cells := 0, slots := 0, locals := 65 } : Room)).room s m ([.ref aw, .int p1, .int p2, .int p3] : List Value).toArray below meth c H locs 0 0 (MQ below (va_Qi (fun (r : Int32) (_ : Unit) => r = (fX2_bestBefore df uf st sn me p1 p2 p3)) (kE D (kT cyD cyI cyJ cyZ) (wW cyD cyI cyJ cyZ aw ad ak ar au ae av ab df kf rf uf st fw fo sn me vf lf sp sb no) A) A) ([.ref aw, .int p1, .int p2, .int p3] : List Value).toArray s 0 0 A) (F0 m 80 ls []) := by
          intro k
          induction k with
          | zero => intro j bb gs H locs hj hj3 hF hP hD hS ls hl; exact absurd hj3 (by omega)
          | succ k ih =>
            intro j bb gs H locs hj hj3 hF hP hD hS ls hl
            refine lv_iload hx hb dX2_bestBefore_80 (lv_at hl 0 rfl) ?_
            refine lv_iload hx hb dX2_bestBefore_82 (lv_at hl 3 rfl) ?_
            refine lv_icmp_gt (tgt := 118) hx hb dX2_bestBefore_84 (by decide) (fun c_84 => ?_) (fun c_84 => ?_)
            · refine lv_iload hx hb dX2_bestBefore_118 (lv_at hl 2 rfl) ?_
              have hF9 : (fX2_bestBefore df uf st sn me p1 p2 p3) = bb := by rw [hF, fX2_bestBefore_L80, if_pos c_84]
              have hP9 : va_P D vwCl (wW cyD cyI cyJ cyZ aw ad ak ar au ae av ab df kf rf uf st fw fo sn me vf lf sp sb no) H := hP
              have hD9 : va_D A (wW cyD cyI cyJ cyZ aw ad ak ar au ae av ab df kf rf uf st fw fo sn me vf lf sp sb no) := hD
              exact W.iret (v := bb) hx hb hr (fun t ht hW => ⟨⟨bb, (), rfl, (by rw [hF9]), by rw [ht]; exact hP9, va_K.moved hW.alike hK, hD9⟩, hS.F ht⟩) hS.2.2 dX2_bestBefore_120
            refine lv_aload_n hx hb dX2_bestBefore_87 rfl (lv_at hl 4 rfl) ?_
            refine lv_iload_n hx hb dX2_bestBefore_88 rfl (lv_at hl 5 rfl) ?_
            refine lv_iload hx hb dX2_bestBefore_89 (lv_at hl 0 rfl) ?_
            have hPc : va_P D vwCl (wW cyD cyI cyJ cyZ aw ad ak ar au ae av ab df kf rf uf st fw fo sn me vf lf sp sb no) H := hP.sub [0, 1, 2, 3, 4, 5, 6, 7] rfl
            have hDc : va_D A (wW cyD cyI cyJ cyZ aw ad ak ar au ae av ab df kf rf uf st fw fo sn me vf lf sp sb no) := hD.sub [0, 1, 2, 3, 4, 5, 6, 7] (by decide) rfl
            refine klE (ws' := (wW cyD cyI cyJ cyZ aw ad ak ar au ae av ab df kf rf uf st fw fo sn me vf lf sp sb no)) (wc := (wW cyD cyI cyJ cyZ aw ad ak ar au ae av ab df kf rf uf st fw fo sn me vf lf sp sb no)) (wr := []) (w1 := (wW cyD cyI cyJ cyZ aw ad ak ar au ae av ab df kf rf uf st fw fo sn me vf lf sp sb no)) (va_runV (As := [.int p1, .int ((nI j))]) (rest := []) ⟨hx, hb, hml, hown, hts⟩ (c_X2_sumAt (l := l) (D := D) (cyD := cyD) (cyI := cyI) (cyJ := cyJ) (cyZ := cyZ) aw ad ak ar au ae av ab df kf rf uf st fw fo sn me vf lf sp sb no H.size p1 ((nI j)) hE) (cwV 2 hts gX2_bestBefore_X2_sumAt rfl rfl rfl (by decide +kernel) ⟨Nat.le_of_ble_eq_true rfl, Nat.le_of_ble_eq_true rfl⟩) (kV (ci := 2) (q0 := 0) (q := (RX2, TX2, 8)) hN hK hPc hDc rfl rfl rfl) rfl rfl hl.1 rfl (lv_room (Nat.le_of_ble_eq_true rfl)) dX2_bestBefore_91 ⟨Nat.le_of_ble_eq_true rfl, Nat.le_of_ble_eq_true rfl⟩) hP hD hS hA [0, 1, 2, 3, 4, 5, 6, 7] [] [0, 1, 2, 3, 4, 5, 6, 7] rfl rfl (by decide) (by decide) rfl (by decide) (fun H locs hP hD hS => ?_)
            refine lv_lstore (lv' := [(10, .long (fX2_sumAt uf sn p1 ((nI j)))), (9, .int ((nI j))), (7, .long (gs)), (6, .int (bb)), (5, .int (tt)), (0, .ref aw), (1, .int p1)]) hx hb dX2_bestBefore_94 hl (by decide) rfl (fun ls hl => ?_)
            refine lv_lload hx hb dX2_bestBefore_96 (lv_at hl 0 rfl) ?_
            refine lv_lload hx hb dX2_bestBefore_98 (lv_at hl 2 rfl) ?_
            refine W.lcmp hx hb dX2_bestBefore_100 ?_
            refine lv_if_le (tgt := 112) hx hb dX2_bestBefore_101 (by decide) (fun c_101 => ?_) (fun c_101 => ?_)
            · refine lv_iinc (v := (((nI j)) + 1)) (lv' := [(9, .int (((nI j)) + 1)), (10, .long (fX2_sumAt uf sn p1 ((nI j)))), (7, .long (gs)), (6, .int (bb)), (5, .int (tt)), (0, .ref aw), (1, .int p1)]) hx hb dX2_bestBefore_112 hl (k := 1) rfl rfl (by decide) rfl (fun ls hl => ?_)
              refine lv_goto (tgt := 80) hx hb dX2_bestBefore_115 (by decide) ?_
              exact ih (j + 1) (bb) (gs) _ _ (by omega) (by have h9 : nI j ≤ nI 63 := i_le_of htt c_84; have := (nI_leI (by omega) (by decide)).mp h9; omega) (by rw [← nI_1 j]; rw [hF, fX2_bestBefore_L80, if_neg c_84, if_pos c_101]) hP hD hS _ (by rw [← nI_1 j]; exact lv_sub hl [0, 2, 3, 4, 5, 6] rfl)
            refine lv_iload hx hb dX2_bestBefore_104 (lv_at hl 1 rfl) ?_
            refine lv_istore (lv' := [(6, .int ((nI j))), (10, .long (fX2_sumAt uf sn p1 ((nI j)))), (9, .int ((nI j))), (7, .long (gs)), (5, .int (tt)), (0, .ref aw), (1, .int p1)]) hx hb dX2_bestBefore_106 hl (by decide) rfl (fun ls hl => ?_)
            refine lv_lload hx hb dX2_bestBefore_108 (lv_at hl 1 rfl) ?_
            refine lv_lstore (lv' := [(7, .long (fX2_sumAt uf sn p1 ((nI j)))), (6, .int ((nI j))), (10, .long (fX2_sumAt uf sn p1 ((nI j)))), (9, .int ((nI j))), (5, .int (tt)), (0, .ref aw), (1, .int p1)]) hx hb dX2_bestBefore_110 hl (by decide) rfl (fun ls hl => ?_)
            refine lv_iinc (v := (((nI j)) + 1)) (lv' := [(9, .int (((nI j)) + 1)), (7, .long (fX2_sumAt uf sn p1 ((nI j)))), (6, .int ((nI j))), (10, .long (fX2_sumAt uf sn p1 ((nI j)))), (5, .int (tt)), (0, .ref aw), (1, .int p1)]) hx hb dX2_bestBefore_112 hl (k := 3) rfl rfl (by decide) rfl (fun ls hl => ?_)
            refine lv_goto (tgt := 80) hx hb dX2_bestBefore_115 (by decide) ?_
            exact ih (j + 1) ((nI j)) (fX2_sumAt uf sn p1 ((nI j))) _ _ (by omega) (by have h9 : nI j ≤ nI 63 := i_le_of htt c_84; have := (nI_leI (by omega) (by decide)).mp h9; omega) (by rw [← nI_1 j]; rw [hF, fX2_bestBefore_L80, if_neg c_84, if_neg c_101]) hP hD hS _ (by rw [← nI_1 j]; exact lv_sub hl [0, 1, 2, 4, 5, 6] rfl)
        exact loop_80 66 (a + 1) tf (fX2_sumAt uf sn p1 (tf)) _ _ (by omega) (by omega) (by rw [← nI_1 a, ← hta]; rw [hF, fX2_bestBefore_L61]) hP hD hS _ (by rw [← nI_1 a, ← hta]; exact lv_sub hl [0, 1, 2, 3, 5, 6] rfl)
    exact loop_61 1 (fX2_lowest df sn me p1) (fX2_highest df sn me p1) _ _ rfl (from_ok me df p1 hE.1 hE.2.1) (to_ok me df p1 hE.1 hE.2.1) (by rw [fX2_bestBefore, if_neg c_16, if_neg c_24]) hP hD hS _ (by exact lv_sub hl [0, 1, 2, 3] rfl)
  refine lv_aload_n hx hb dX2_bestBefore_27 rfl (lv_at hl 2 rfl) ?_
  refine lv_iload_n hx hb dX2_bestBefore_28 rfl (lv_at hl 4 rfl) ?_
  have hPc : va_P D vwCl (wW cyD cyI cyJ cyZ aw ad ak ar au ae av ab df kf rf uf st fw fo sn me vf lf sp sb no) H := hP.sub [0, 1, 2, 3, 4, 5, 6, 7] rfl
  have hDc : va_D A (wW cyD cyI cyJ cyZ aw ad ak ar au ae av ab df kf rf uf st fw fo sn me vf lf sp sb no) := hD.sub [0, 1, 2, 3, 4, 5, 6, 7] (by decide) rfl
  refine kzE (ws' := (wW cyD cyI cyJ cyZ aw ad ak ar au ae av ab df kf rf uf st fw fo sn me vf lf sp sb no)) (wc := (wW cyD cyI cyJ cyZ aw ad ak ar au ae av ab df kf rf uf st fw fo sn me vf lf sp sb no)) (wr := []) (w1 := (wW cyD cyI cyJ cyZ aw ad ak ar au ae av ab df kf rf uf st fw fo sn me vf lf sp sb no)) (va_runV (As := [.int p2]) (rest := []) ⟨hx, hb, hml, hown, hts⟩ (c_X2_isEdited (l := l) (D := D) (cyD := cyD) (cyI := cyI) (cyJ := cyJ) (cyZ := cyZ) aw ad ak ar au ae av ab df kf rf uf st fw fo sn me vf lf sp sb no H.size p2) (cwV 1 hts gX2_bestBefore_X2_isEdited rfl rfl rfl (by decide +kernel) ⟨Nat.le_of_ble_eq_true rfl, Nat.le_of_ble_eq_true rfl⟩) (kV (ci := 2) (q0 := 0) (q := (RX2, TX2, 8)) hN hK hPc hDc rfl rfl rfl) rfl rfl hl.1 rfl (lv_room (Nat.le_of_ble_eq_true rfl)) dX2_bestBefore_29 ⟨Nat.le_of_ble_eq_true rfl, Nat.le_of_ble_eq_true rfl⟩) hP hD hS hA [0, 1, 2, 3, 4, 5, 6, 7] [] [0, 1, 2, 3, 4, 5, 6, 7] rfl rfl (by decide) (by decide) rfl (by decide) (fun H locs hz_29 hP hD hS => ?_)
  refine lv_if_ne (tgt := 61) hx hb dX2_bestBefore_32 (by decide) (fun c_32 => ?_) (fun c_32 => ?_)
  · have loop_61 : ∀ (k : Nat) (tf tt : Int32) (H : Heap) (locs : List Loc), (k = 1) → (∃ a : Nat, a < 64 ∧ tf = nI a) → (¬ nI 63 < tt) → (fX2_bestBefore df uf st sn me p1 p2 p3) = fX2_bestBefore_L61 df uf st sn me p1 p2 p3 k (tf) (tt) → va_P D vwCl (wW cyD cyI cyJ cyZ aw ad ak ar au ae av ab df kf rf uf st fw fo sn me vf lf sp sb no) H → va_D A (wW cyD cyI cyJ cyZ aw ad ak ar au ae av ab df kf rf uf st fw fo sn me vf lf sp sb no) → va_S A s.heap H locs → ∀ ls, lv_has ls 12 [(5, .int (tt)), (4, .int (tf)), (0, .ref aw), (1, .int p1)] → W p l e (headSpec wsX2_bestBefore ({ frames := 3, cells := 0, slots := 0, locals := 65 } : Room)).room s m ([.ref aw, .int p1, .int p2, .int p3] : List Value).toArray below meth c H locs 0 0 (MQ below (va_Qi (fun (r : Int32) (_ : Unit) => r = (fX2_bestBefore df uf st sn me p1 p2 p3)) (kE D (kT cyD cyI cyJ cyZ) (wW cyD cyI cyJ cyZ aw ad ak ar au ae av ab df kf rf uf st fw fo sn me vf lf sp sb no) A) A) ([.ref aw, .int p1, .int p2, .int p3] : List Value).toArray s 0 0 A) (F0 m 61 ls []) := by
      intro k
      induction k with
      | zero => intro tf tt H locs hkk ha htt hF hP hD hS ls hl; exact absurd hkk (by decide)
      | succ k ih =>
        intro tf tt H locs hkk ha htt hF hP hD hS ls hl
        obtain ⟨a, ha1, hta⟩ := ha
        refine lv_iload hx hb dX2_bestBefore_61 (lv_at hl 1 rfl) ?_
        refine lv_istore (lv' := [(6, .int (tf)), (5, .int (tt)), (4, .int (tf)), (0, .ref aw), (1, .int p1)]) hx hb dX2_bestBefore_63 hl (by decide) rfl (fun ls hl => ?_)
        refine lv_aload_n hx hb dX2_bestBefore_65 rfl (lv_at hl 3 rfl) ?_
        refine lv_iload_n hx hb dX2_bestBefore_66 rfl (lv_at hl 4 rfl) ?_
        refine lv_iload hx hb dX2_bestBefore_67 (lv_at hl 2 rfl) ?_
        have hPc : va_P D vwCl (wW cyD cyI cyJ cyZ aw ad ak ar au ae av ab df kf rf uf st fw fo sn me vf lf sp sb no) H := hP.sub [0, 1, 2, 3, 4, 5, 6, 7] rfl
        have hDc : va_D A (wW cyD cyI cyJ cyZ aw ad ak ar au ae av ab df kf rf uf st fw fo sn me vf lf sp sb no) := hD.sub [0, 1, 2, 3, 4, 5, 6, 7] (by decide) rfl
        refine klE (ws' := (wW cyD cyI cyJ cyZ aw ad ak ar au ae av ab df kf rf uf st fw fo sn me vf lf sp sb no)) (wc := (wW cyD cyI cyJ cyZ aw ad ak ar au ae av ab df kf rf uf st fw fo sn me vf lf sp sb no)) (wr := []) (w1 := (wW cyD cyI cyJ cyZ aw ad ak ar au ae av ab df kf rf uf st fw fo sn me vf lf sp sb no)) (va_runV (As := [.int p1, .int (tf)]) (rest := []) ⟨hx, hb, hml, hown, hts⟩ (c_X2_sumAt (l := l) (D := D) (cyD := cyD) (cyI := cyI) (cyJ := cyJ) (cyZ := cyZ) aw ad ak ar au ae av ab df kf rf uf st fw fo sn me vf lf sp sb no H.size p1 (tf) hE) (cwV 2 hts gX2_bestBefore_X2_sumAt rfl rfl rfl (by decide +kernel) ⟨Nat.le_of_ble_eq_true rfl, Nat.le_of_ble_eq_true rfl⟩) (kV (ci := 2) (q0 := 0) (q := (RX2, TX2, 8)) hN hK hPc hDc rfl rfl rfl) rfl rfl hl.1 rfl (lv_room (Nat.le_of_ble_eq_true rfl)) dX2_bestBefore_69 ⟨Nat.le_of_ble_eq_true rfl, Nat.le_of_ble_eq_true rfl⟩) hP hD hS hA [0, 1, 2, 3, 4, 5, 6, 7] [] [0, 1, 2, 3, 4, 5, 6, 7] rfl rfl (by decide) (by decide) rfl (by decide) (fun H locs hP hD hS => ?_)
        refine lv_lstore (lv' := [(7, .long (fX2_sumAt uf sn p1 (tf))), (6, .int (tf)), (5, .int (tt)), (4, .int (tf)), (0, .ref aw), (1, .int p1)]) hx hb dX2_bestBefore_72 hl (by decide) rfl (fun ls hl => ?_)
        refine lv_iload hx hb dX2_bestBefore_74 (lv_at hl 3 rfl) ?_
        refine lv_iconst (v := 1) hx hb dX2_bestBefore_76 (by decide) ?_
        refine lv_iadd hx hb dX2_bestBefore_77 ?_
        refine lv_istore (lv' := [(9, .int (tf + (1 : Int32))), (7, .long (fX2_sumAt uf sn p1 (tf))), (6, .int (tf)), (5, .int (tt)), (4, .int (tf)), (0, .ref aw), (1, .int p1)]) hx hb dX2_bestBefore_78 hl (by decide) rfl (fun ls hl => ?_)
        have loop_80 : ∀ (k : Nat) (j : Nat) (bb : Int32) (gs : Int64) (H : Heap) (locs : List Loc), (66 ≤ j + k) → (j ≤ 64) → (fX2_bestBefore df uf st sn me p1 p2 p3) = fX2_bestBefore_L80 df uf st sn me tt p1 p2 p3 k ((nI j)) (bb) (gs) → va_P D vwCl (wW cyD cyI cyJ cyZ aw ad ak ar au ae av ab df kf rf uf st fw fo sn me vf lf sp sb no) H → va_D A (wW cyD cyI cyJ cyZ aw ad ak ar au ae av ab df kf rf uf st fw fo sn me vf lf sp sb no) → va_S A s.heap H locs → ∀ ls, lv_has ls 12 [(9, .int ((nI j))), (7, .long (gs)), (6, .int (bb)), (5, .int (tt)), (0, .ref aw), (1, .int p1)] → W p l e (headSpec wsX2_bestBefore ({ frames := 3, cells := 0, slots := 0, locals := 65 } : Room)).room s m ([.ref aw, .int p1, .int p2, .int p3] : List Value).toArray below meth c H locs 0 0 (MQ below (va_Qi (fun (r : Int32) (_ : Unit) => r = (fX2_bestBefore df uf st sn me p1 p2 p3)) (kE D (kT cyD cyI cyJ cyZ) (wW cyD cyI cyJ cyZ aw ad ak ar au ae av ab df kf rf uf st fw fo sn me vf lf sp sb no) A) A) ([.ref aw, .int p1, .int p2, .int p3] : List Value).toArray s 0 0 A) (F0 m 80 ls []) := by
          intro k
          induction k with
          | zero => intro j bb gs H locs hj hj3 hF hP hD hS ls hl; exact absurd hj3 (by omega)
          | succ k ih =>
            intro j bb gs H locs hj hj3 hF hP hD hS ls hl
            refine lv_iload hx hb dX2_bestBefore_80 (lv_at hl 0 rfl) ?_
            refine lv_iload hx hb dX2_bestBefore_82 (lv_at hl 3 rfl) ?_
            refine lv_icmp_gt (tgt := 118) hx hb dX2_bestBefore_84 (by decide) (fun c_84 => ?_) (fun c_84 => ?_)
            · refine lv_iload hx hb dX2_bestBefore_118 (lv_at hl 2 rfl) ?_
              have hF9 : (fX2_bestBefore df uf st sn me p1 p2 p3) = bb := by rw [hF, fX2_bestBefore_L80, if_pos c_84]
              have hP9 : va_P D vwCl (wW cyD cyI cyJ cyZ aw ad ak ar au ae av ab df kf rf uf st fw fo sn me vf lf sp sb no) H := hP
              have hD9 : va_D A (wW cyD cyI cyJ cyZ aw ad ak ar au ae av ab df kf rf uf st fw fo sn me vf lf sp sb no) := hD
              exact W.iret (v := bb) hx hb hr (fun t ht hW => ⟨⟨bb, (), rfl, (by rw [hF9]), by rw [ht]; exact hP9, va_K.moved hW.alike hK, hD9⟩, hS.F ht⟩) hS.2.2 dX2_bestBefore_120
            refine lv_aload_n hx hb dX2_bestBefore_87 rfl (lv_at hl 4 rfl) ?_
            refine lv_iload_n hx hb dX2_bestBefore_88 rfl (lv_at hl 5 rfl) ?_
            refine lv_iload hx hb dX2_bestBefore_89 (lv_at hl 0 rfl) ?_
            have hPc : va_P D vwCl (wW cyD cyI cyJ cyZ aw ad ak ar au ae av ab df kf rf uf st fw fo sn me vf lf sp sb no) H := hP.sub [0, 1, 2, 3, 4, 5, 6, 7] rfl
            have hDc : va_D A (wW cyD cyI cyJ cyZ aw ad ak ar au ae av ab df kf rf uf st fw fo sn me vf lf sp sb no) := hD.sub [0, 1, 2, 3, 4, 5, 6, 7] (by decide) rfl
            refine klE (ws' := (wW cyD cyI cyJ cyZ aw ad ak ar au ae av ab df kf rf uf st fw fo sn me vf lf sp sb no)) (wc := (wW cyD cyI cyJ cyZ aw ad ak ar au ae av ab df kf rf uf st fw fo sn me vf lf sp sb no)) (wr := []) (w1 := (wW cyD cyI cyJ cyZ aw ad ak ar au ae av ab df kf rf uf st fw fo sn me vf lf sp sb no)) (va_runV (As := [.int p1, .int ((nI j))]) (rest := []) ⟨hx, hb, hml, hown, hts⟩ (c_X2_sumAt (l := l) (D := D) (cyD := cyD) (cyI := cyI) (cyJ := cyJ) (cyZ := cyZ) aw ad ak ar au ae av ab df kf rf uf st fw fo sn me vf lf sp sb no H.size p1 ((nI j)) hE) (cwV 2 hts gX2_bestBefore_X2_sumAt rfl rfl rfl (by decide +kernel) ⟨Nat.le_of_ble_eq_true rfl, Nat.le_of_ble_eq_true rfl⟩) (kV (ci := 2) (q0 := 0) (q := (RX2, TX2, 8)) hN hK hPc hDc rfl rfl rfl) rfl rfl hl.1 rfl (lv_room (Nat.le_of_ble_eq_true rfl)) dX2_bestBefore_91 ⟨Nat.le_of_ble_eq_true rfl, Nat.le_of_ble_eq_true rfl⟩) hP hD hS hA [0, 1, 2, 3, 4, 5, 6, 7] [] [0, 1, 2, 3, 4, 5, 6, 7] rfl rfl (by decide) (by decide) rfl (by decide) (fun H locs hP hD hS => ?_)
            refine lv_lstore (lv' := [(10, .long (fX2_sumAt uf sn p1 ((nI j)))), (9, .int ((nI j))), (7, .long (gs)), (6, .int (bb)), (5, .int (tt)), (0, .ref aw), (1, .int p1)]) hx hb dX2_bestBefore_94 hl (by decide) rfl (fun ls hl => ?_)
            refine lv_lload hx hb dX2_bestBefore_96 (lv_at hl 0 rfl) ?_
            refine lv_lload hx hb dX2_bestBefore_98 (lv_at hl 2 rfl) ?_
            refine W.lcmp hx hb dX2_bestBefore_100 ?_
            refine lv_if_le (tgt := 112) hx hb dX2_bestBefore_101 (by decide) (fun c_101 => ?_) (fun c_101 => ?_)
            · refine lv_iinc (v := (((nI j)) + 1)) (lv' := [(9, .int (((nI j)) + 1)), (10, .long (fX2_sumAt uf sn p1 ((nI j)))), (7, .long (gs)), (6, .int (bb)), (5, .int (tt)), (0, .ref aw), (1, .int p1)]) hx hb dX2_bestBefore_112 hl (k := 1) rfl rfl (by decide) rfl (fun ls hl => ?_)
              refine lv_goto (tgt := 80) hx hb dX2_bestBefore_115 (by decide) ?_
              exact ih (j + 1) (bb) (gs) _ _ (by omega) (by have h9 : nI j ≤ nI 63 := i_le_of htt c_84; have := (nI_leI (by omega) (by decide)).mp h9; omega) (by rw [← nI_1 j]; rw [hF, fX2_bestBefore_L80, if_neg c_84, if_pos c_101]) hP hD hS _ (by rw [← nI_1 j]; exact lv_sub hl [0, 2, 3, 4, 5, 6] rfl)
            refine lv_iload hx hb dX2_bestBefore_104 (lv_at hl 1 rfl) ?_
            refine lv_istore (lv' := [(6, .int ((nI j))), (10, .long (fX2_sumAt uf sn p1 ((nI j)))), (9, .int ((nI j))), (7, .long (gs)), (5, .int (tt)), (0, .ref aw), (1, .int p1)]) hx hb dX2_bestBefore_106 hl (by decide) rfl (fun ls hl => ?_)
            refine lv_lload hx hb dX2_bestBefore_108 (lv_at hl 1 rfl) ?_
            refine lv_lstore (lv' := [(7, .long (fX2_sumAt uf sn p1 ((nI j)))), (6, .int ((nI j))), (10, .long (fX2_sumAt uf sn p1 ((nI j)))), (9, .int ((nI j))), (5, .int (tt)), (0, .ref aw), (1, .int p1)]) hx hb dX2_bestBefore_110 hl (by decide) rfl (fun ls hl => ?_)
            refine lv_iinc (v := (((nI j)) + 1)) (lv' := [(9, .int (((nI j)) + 1)), (7, .long (fX2_sumAt uf sn p1 ((nI j)))), (6, .int ((nI j))), (10, .long (fX2_sumAt uf sn p1 ((nI j)))), (5, .int (tt)), (0, .ref aw), (1, .int p1)]) hx hb dX2_bestBefore_112 hl (k := 3) rfl rfl (by decide) rfl (fun ls hl => ?_)
            refine lv_goto (tgt := 80) hx hb dX2_bestBefore_115 (by decide) ?_
            exact ih (j + 1) ((nI j)) (fX2_sumAt uf sn p1 ((nI j))) _ _ (by omega) (by have h9 : nI j ≤ nI 63 := i_le_of htt c_84; have := (nI_leI (by omega) (by decide)).mp h9; omega) (by rw [← nI_1 j]; rw [hF, fX2_bestBefore_L80, if_neg c_84, if_neg c_101]) hP hD hS _ (by rw [← nI_1 j]; exact lv_sub hl [0, 1, 2, 4, 5, 6] rfl)
        exact loop_80 66 (a + 1) tf (fX2_sumAt uf sn p1 (tf)) _ _ (by omega) (by omega) (by rw [← nI_1 a, ← hta]; rw [hF, fX2_bestBefore_L61]) hP hD hS _ (by rw [← nI_1 a, ← hta]; exact lv_sub hl [0, 1, 2, 3, 5, 6] rfl)
    exact loop_61 1 (fX2_lowest df sn me p1) (fX2_highest df sn me p1) _ _ rfl (from_ok me df p1 hE.1 hE.2.1) (to_ok me df p1 hE.1 hE.2.1) (by rw [fX2_bestBefore, if_neg c_16, if_pos c_24, if_neg c_32]) hP hD hS _ (by exact lv_sub hl [0, 1, 2, 3] rfl)
  refine lv_iload hx hb dX2_bestBefore_35 (lv_at hl 1 rfl) ?_
  refine lv_iload_n hx hb dX2_bestBefore_37 rfl (lv_at hl 5 rfl) ?_
  refine lv_aload_n hx hb dX2_bestBefore_38 rfl (lv_at hl 2 rfl) ?_
  refine va_get (D := D) (ci := 2) (v := .int st) (C := RX2) (T := TX2) (N := 8) hx hb hts (fun _ h => (List.mem_cons_of_mem _ (List.mem_append_left _ (List.mem_append_right _ h)))) hown hK hP 0 rfl rfl 5 (by decide) (hts (.fieldLink RX2 23 "BottomWalks$Walk" "steepness" "I") (List.mem_of_getElem? (i := 1) rfl)) (fun _ h9 => h9) rfl dX2_bestBefore_39 ?_
  refine lv_isub hx hb dX2_bestBefore_42 ?_
  refine va_mmax hx hb (hml.trans hl.1.symm) hown (hts (.methodLink RX2 139 Lib.Math.max.name) (List.mem_of_getElem? (i := 2) rfl)) (hts (.static Lib.Math.max.name) (List.mem_of_getElem? (i := 3) rfl)) (hts (.initialized "java/lang/Math") (List.mem_of_getElem? (i := 4) rfl)) (hts (.code Lib.Math.max.name Lib.Math.max.code 2 (some .int)) (List.mem_of_getElem? (i := 5) rfl)) (Nat.le_of_ble_eq_true rfl) (Nat.le_of_ble_eq_true rfl) (Nat.le_of_ble_eq_true rfl) (Nat.le_of_ble_eq_true rfl) dX2_bestBefore_43 ?_
  refine lv_istore (lv' := [(4, .int (if (fX2_lowest df sn me p1) < (p3 - st) then (p3 - st) else (fX2_lowest df sn me p1))), (5, .int (fX2_highest df sn me p1)), (0, .ref aw), (1, .int p1), (2, .int p2), (3, .int p3)]) hx hb dX2_bestBefore_46 hl (by decide) rfl (fun ls hl => ?_)
  refine lv_iload hx hb dX2_bestBefore_48 (lv_at hl 1 rfl) ?_
  refine lv_iload_n hx hb dX2_bestBefore_50 rfl (lv_at hl 5 rfl) ?_
  refine lv_aload_n hx hb dX2_bestBefore_51 rfl (lv_at hl 2 rfl) ?_
  refine va_get (D := D) (ci := 2) (v := .int st) (C := RX2) (T := TX2) (N := 8) hx hb hts (fun _ h => (List.mem_cons_of_mem _ (List.mem_append_left _ (List.mem_append_right _ h)))) hown hK hP 0 rfl rfl 5 (by decide) (hts (.fieldLink RX2 23 "BottomWalks$Walk" "steepness" "I") (List.mem_of_getElem? (i := 1) rfl)) (fun _ h9 => h9) rfl dX2_bestBefore_52 ?_
  refine lv_iadd hx hb dX2_bestBefore_55 ?_
  refine va_mmin hx hb (hml.trans hl.1.symm) hown (hts (.methodLink RX2 144 Lib.Math.min.name) (List.mem_of_getElem? (i := 6) rfl)) (hts (.static Lib.Math.min.name) (List.mem_of_getElem? (i := 7) rfl)) (hts (.initialized "java/lang/Math") (List.mem_of_getElem? (i := 4) rfl)) (hts (.code Lib.Math.min.name Lib.Math.min.code 2 (some .int)) (List.mem_of_getElem? (i := 8) rfl)) (Nat.le_of_ble_eq_true rfl) (Nat.le_of_ble_eq_true rfl) (Nat.le_of_ble_eq_true rfl) (Nat.le_of_ble_eq_true rfl) dX2_bestBefore_56 ?_
  refine lv_istore (lv' := [(5, .int (if (p3 + st) < (fX2_highest df sn me p1) then (p3 + st) else (fX2_highest df sn me p1))), (4, .int (if (fX2_lowest df sn me p1) < (p3 - st) then (p3 - st) else (fX2_lowest df sn me p1))), (0, .ref aw), (1, .int p1), (2, .int p2), (3, .int p3)]) hx hb dX2_bestBefore_59 hl (by decide) rfl (fun ls hl => ?_)
  have loop_61 : ∀ (k : Nat) (tf tt : Int32) (H : Heap) (locs : List Loc), (k = 1) → (∃ a : Nat, a < 64 ∧ tf = nI a) → (¬ nI 63 < tt) → (fX2_bestBefore df uf st sn me p1 p2 p3) = fX2_bestBefore_L61 df uf st sn me p1 p2 p3 k (tf) (tt) → va_P D vwCl (wW cyD cyI cyJ cyZ aw ad ak ar au ae av ab df kf rf uf st fw fo sn me vf lf sp sb no) H → va_D A (wW cyD cyI cyJ cyZ aw ad ak ar au ae av ab df kf rf uf st fw fo sn me vf lf sp sb no) → va_S A s.heap H locs → ∀ ls, lv_has ls 12 [(5, .int (tt)), (4, .int (tf)), (0, .ref aw), (1, .int p1)] → W p l e (headSpec wsX2_bestBefore ({ frames := 3, cells := 0, slots := 0, locals := 65 } : Room)).room s m ([.ref aw, .int p1, .int p2, .int p3] : List Value).toArray below meth c H locs 0 0 (MQ below (va_Qi (fun (r : Int32) (_ : Unit) => r = (fX2_bestBefore df uf st sn me p1 p2 p3)) (kE D (kT cyD cyI cyJ cyZ) (wW cyD cyI cyJ cyZ aw ad ak ar au ae av ab df kf rf uf st fw fo sn me vf lf sp sb no) A) A) ([.ref aw, .int p1, .int p2, .int p3] : List Value).toArray s 0 0 A) (F0 m 61 ls []) := by
    intro k
    induction k with
    | zero => intro tf tt H locs hkk ha htt hF hP hD hS ls hl; exact absurd hkk (by decide)
    | succ k ih =>
      intro tf tt H locs hkk ha htt hF hP hD hS ls hl
      obtain ⟨a, ha1, hta⟩ := ha
      refine lv_iload hx hb dX2_bestBefore_61 (lv_at hl 1 rfl) ?_
      refine lv_istore (lv' := [(6, .int (tf)), (5, .int (tt)), (4, .int (tf)), (0, .ref aw), (1, .int p1)]) hx hb dX2_bestBefore_63 hl (by decide) rfl (fun ls hl => ?_)
      refine lv_aload_n hx hb dX2_bestBefore_65 rfl (lv_at hl 3 rfl) ?_
      refine lv_iload_n hx hb dX2_bestBefore_66 rfl (lv_at hl 4 rfl) ?_
      refine lv_iload hx hb dX2_bestBefore_67 (lv_at hl 2 rfl) ?_
      have hPc : va_P D vwCl (wW cyD cyI cyJ cyZ aw ad ak ar au ae av ab df kf rf uf st fw fo sn me vf lf sp sb no) H := hP.sub [0, 1, 2, 3, 4, 5, 6, 7] rfl
      have hDc : va_D A (wW cyD cyI cyJ cyZ aw ad ak ar au ae av ab df kf rf uf st fw fo sn me vf lf sp sb no) := hD.sub [0, 1, 2, 3, 4, 5, 6, 7] (by decide) rfl
      refine klE (ws' := (wW cyD cyI cyJ cyZ aw ad ak ar au ae av ab df kf rf uf st fw fo sn me vf lf sp sb no)) (wc := (wW cyD cyI cyJ cyZ aw ad ak ar au ae av ab df kf rf uf st fw fo sn me vf lf sp sb no)) (wr := []) (w1 := (wW cyD cyI cyJ cyZ aw ad ak ar au ae av ab df kf rf uf st fw fo sn me vf lf sp sb no)) (va_runV (As := [.int p1, .int (tf)]) (rest := []) ⟨hx, hb, hml, hown, hts⟩ (c_X2_sumAt (l := l) (D := D) (cyD := cyD) (cyI := cyI) (cyJ := cyJ) (cyZ := cyZ) aw ad ak ar au ae av ab df kf rf uf st fw fo sn me vf lf sp sb no H.size p1 (tf) hE) (cwV 2 hts gX2_bestBefore_X2_sumAt rfl rfl rfl (by decide +kernel) ⟨Nat.le_of_ble_eq_true rfl, Nat.le_of_ble_eq_true rfl⟩) (kV (ci := 2) (q0 := 0) (q := (RX2, TX2, 8)) hN hK hPc hDc rfl rfl rfl) rfl rfl hl.1 rfl (lv_room (Nat.le_of_ble_eq_true rfl)) dX2_bestBefore_69 ⟨Nat.le_of_ble_eq_true rfl, Nat.le_of_ble_eq_true rfl⟩) hP hD hS hA [0, 1, 2, 3, 4, 5, 6, 7] [] [0, 1, 2, 3, 4, 5, 6, 7] rfl rfl (by decide) (by decide) rfl (by decide) (fun H locs hP hD hS => ?_)
      refine lv_lstore (lv' := [(7, .long (fX2_sumAt uf sn p1 (tf))), (6, .int (tf)), (5, .int (tt)), (4, .int (tf)), (0, .ref aw), (1, .int p1)]) hx hb dX2_bestBefore_72 hl (by decide) rfl (fun ls hl => ?_)
      refine lv_iload hx hb dX2_bestBefore_74 (lv_at hl 3 rfl) ?_
      refine lv_iconst (v := 1) hx hb dX2_bestBefore_76 (by decide) ?_
      refine lv_iadd hx hb dX2_bestBefore_77 ?_
      refine lv_istore (lv' := [(9, .int (tf + (1 : Int32))), (7, .long (fX2_sumAt uf sn p1 (tf))), (6, .int (tf)), (5, .int (tt)), (4, .int (tf)), (0, .ref aw), (1, .int p1)]) hx hb dX2_bestBefore_78 hl (by decide) rfl (fun ls hl => ?_)
      have loop_80 : ∀ (k : Nat) (j : Nat) (bb : Int32) (gs : Int64) (H : Heap) (locs : List Loc), (66 ≤ j + k) → (j ≤ 64) → (fX2_bestBefore df uf st sn me p1 p2 p3) = fX2_bestBefore_L80 df uf st sn me tt p1 p2 p3 k ((nI j)) (bb) (gs) → va_P D vwCl (wW cyD cyI cyJ cyZ aw ad ak ar au ae av ab df kf rf uf st fw fo sn me vf lf sp sb no) H → va_D A (wW cyD cyI cyJ cyZ aw ad ak ar au ae av ab df kf rf uf st fw fo sn me vf lf sp sb no) → va_S A s.heap H locs → ∀ ls, lv_has ls 12 [(9, .int ((nI j))), (7, .long (gs)), (6, .int (bb)), (5, .int (tt)), (0, .ref aw), (1, .int p1)] → W p l e (headSpec wsX2_bestBefore ({ frames := 3, cells := 0, slots := 0, locals := 65 } : Room)).room s m ([.ref aw, .int p1, .int p2, .int p3] : List Value).toArray below meth c H locs 0 0 (MQ below (va_Qi (fun (r : Int32) (_ : Unit) => r = (fX2_bestBefore df uf st sn me p1 p2 p3)) (kE D (kT cyD cyI cyJ cyZ) (wW cyD cyI cyJ cyZ aw ad ak ar au ae av ab df kf rf uf st fw fo sn me vf lf sp sb no) A) A) ([.ref aw, .int p1, .int p2, .int p3] : List Value).toArray s 0 0 A) (F0 m 80 ls []) := by
        intro k
        induction k with
        | zero => intro j bb gs H locs hj hj3 hF hP hD hS ls hl; exact absurd hj3 (by omega)
        | succ k ih =>
          intro j bb gs H locs hj hj3 hF hP hD hS ls hl
          refine lv_iload hx hb dX2_bestBefore_80 (lv_at hl 0 rfl) ?_
          refine lv_iload hx hb dX2_bestBefore_82 (lv_at hl 3 rfl) ?_
          refine lv_icmp_gt (tgt := 118) hx hb dX2_bestBefore_84 (by decide) (fun c_84 => ?_) (fun c_84 => ?_)
          · refine lv_iload hx hb dX2_bestBefore_118 (lv_at hl 2 rfl) ?_
            have hF9 : (fX2_bestBefore df uf st sn me p1 p2 p3) = bb := by rw [hF, fX2_bestBefore_L80, if_pos c_84]
            have hP9 : va_P D vwCl (wW cyD cyI cyJ cyZ aw ad ak ar au ae av ab df kf rf uf st fw fo sn me vf lf sp sb no) H := hP
            have hD9 : va_D A (wW cyD cyI cyJ cyZ aw ad ak ar au ae av ab df kf rf uf st fw fo sn me vf lf sp sb no) := hD
            exact W.iret (v := bb) hx hb hr (fun t ht hW => ⟨⟨bb, (), rfl, (by rw [hF9]), by rw [ht]; exact hP9, va_K.moved hW.alike hK, hD9⟩, hS.F ht⟩) hS.2.2 dX2_bestBefore_120
          refine lv_aload_n hx hb dX2_bestBefore_87 rfl (lv_at hl 4 rfl) ?_
          refine lv_iload_n hx hb dX2_bestBefore_88 rfl (lv_at hl 5 rfl) ?_
          refine lv_iload hx hb dX2_bestBefore_89 (lv_at hl 0 rfl) ?_
          have hPc : va_P D vwCl (wW cyD cyI cyJ cyZ aw ad ak ar au ae av ab df kf rf uf st fw fo sn me vf lf sp sb no) H := hP.sub [0, 1, 2, 3, 4, 5, 6, 7] rfl
          have hDc : va_D A (wW cyD cyI cyJ cyZ aw ad ak ar au ae av ab df kf rf uf st fw fo sn me vf lf sp sb no) := hD.sub [0, 1, 2, 3, 4, 5, 6, 7] (by decide) rfl
          refine klE (ws' := (wW cyD cyI cyJ cyZ aw ad ak ar au ae av ab df kf rf uf st fw fo sn me vf lf sp sb no)) (wc := (wW cyD cyI cyJ cyZ aw ad ak ar au ae av ab df kf rf uf st fw fo sn me vf lf sp sb no)) (wr := []) (w1 := (wW cyD cyI cyJ cyZ aw ad ak ar au ae av ab df kf rf uf st fw fo sn me vf lf sp sb no)) (va_runV (As := [.int p1, .int ((nI j))]) (rest := []) ⟨hx, hb, hml, hown, hts⟩ (c_X2_sumAt (l := l) (D := D) (cyD := cyD) (cyI := cyI) (cyJ := cyJ) (cyZ := cyZ) aw ad ak ar au ae av ab df kf rf uf st fw fo sn me vf lf sp sb no H.size p1 ((nI j)) hE) (cwV 2 hts gX2_bestBefore_X2_sumAt rfl rfl rfl (by decide +kernel) ⟨Nat.le_of_ble_eq_true rfl, Nat.le_of_ble_eq_true rfl⟩) (kV (ci := 2) (q0 := 0) (q := (RX2, TX2, 8)) hN hK hPc hDc rfl rfl rfl) rfl rfl hl.1 rfl (lv_room (Nat.le_of_ble_eq_true rfl)) dX2_bestBefore_91 ⟨Nat.le_of_ble_eq_true rfl, Nat.le_of_ble_eq_true rfl⟩) hP hD hS hA [0, 1, 2, 3, 4, 5, 6, 7] [] [0, 1, 2, 3, 4, 5, 6, 7] rfl rfl (by decide) (by decide) rfl (by decide) (fun H locs hP hD hS => ?_)
          refine lv_lstore (lv' := [(10, .long (fX2_sumAt uf sn p1 ((nI j)))), (9, .int ((nI j))), (7, .long (gs)), (6, .int (bb)), (5, .int (tt)), (0, .ref aw), (1, .int p1)]) hx hb dX2_bestBefore_94 hl (by decide) rfl (fun ls hl => ?_)
          refine lv_lload hx hb dX2_bestBefore_96 (lv_at hl 0 rfl) ?_
          refine lv_lload hx hb dX2_bestBefore_98 (lv_at hl 2 rfl) ?_
          refine W.lcmp hx hb dX2_bestBefore_100 ?_
          refine lv_if_le (tgt := 112) hx hb dX2_bestBefore_101 (by decide) (fun c_101 => ?_) (fun c_101 => ?_)
          · refine lv_iinc (v := (((nI j)) + 1)) (lv' := [(9, .int (((nI j)) + 1)), (10, .long (fX2_sumAt uf sn p1 ((nI j)))), (7, .long (gs)), (6, .int (bb)), (5, .int (tt)), (0, .ref aw), (1, .int p1)]) hx hb dX2_bestBefore_112 hl (k := 1) rfl rfl (by decide) rfl (fun ls hl => ?_)
            refine lv_goto (tgt := 80) hx hb dX2_bestBefore_115 (by decide) ?_
            exact ih (j + 1) (bb) (gs) _ _ (by omega) (by have h9 : nI j ≤ nI 63 := i_le_of htt c_84; have := (nI_leI (by omega) (by decide)).mp h9; omega) (by rw [← nI_1 j]; rw [hF, fX2_bestBefore_L80, if_neg c_84, if_pos c_101]) hP hD hS _ (by rw [← nI_1 j]; exact lv_sub hl [0, 2, 3, 4, 5, 6] rfl)
          refine lv_iload hx hb dX2_bestBefore_104 (lv_at hl 1 rfl) ?_
          refine lv_istore (lv' := [(6, .int ((nI j))), (10, .long (fX2_sumAt uf sn p1 ((nI j)))), (9, .int ((nI j))), (7, .long (gs)), (5, .int (tt)), (0, .ref aw), (1, .int p1)]) hx hb dX2_bestBefore_106 hl (by decide) rfl (fun ls hl => ?_)
          refine lv_lload hx hb dX2_bestBefore_108 (lv_at hl 1 rfl) ?_
          refine lv_lstore (lv' := [(7, .long (fX2_sumAt uf sn p1 ((nI j)))), (6, .int ((nI j))), (10, .long (fX2_sumAt uf sn p1 ((nI j)))), (9, .int ((nI j))), (5, .int (tt)), (0, .ref aw), (1, .int p1)]) hx hb dX2_bestBefore_110 hl (by decide) rfl (fun ls hl => ?_)
          refine lv_iinc (v := (((nI j)) + 1)) (lv' := [(9, .int (((nI j)) + 1)), (7, .long (fX2_sumAt uf sn p1 ((nI j)))), (6, .int ((nI j))), (10, .long (fX2_sumAt uf sn p1 ((nI j)))), (5, .int (tt)), (0, .ref aw), (1, .int p1)]) hx hb dX2_bestBefore_112 hl (k := 3) rfl rfl (by decide) rfl (fun ls hl => ?_)
          refine lv_goto (tgt := 80) hx hb dX2_bestBefore_115 (by decide) ?_
          exact ih (j + 1) ((nI j)) (fX2_sumAt uf sn p1 ((nI j))) _ _ (by omega) (by have h9 : nI j ≤ nI 63 := i_le_of htt c_84; have := (nI_leI (by omega) (by decide)).mp h9; omega) (by rw [← nI_1 j]; rw [hF, fX2_bestBefore_L80, if_neg c_84, if_neg c_101]) hP hD hS _ (by rw [← nI_1 j]; exact lv_sub hl [0, 1, 2, 4, 5, 6] rfl)
      exact loop_80 66 (a + 1) tf (fX2_sumAt uf sn p1 (tf)) _ _ (by omega) (by omega) (by rw [← nI_1 a, ← hta]; rw [hF, fX2_bestBefore_L61]) hP hD hS _ (by rw [← nI_1 a, ← hta]; exact lv_sub hl [0, 1, 2, 3, 5, 6] rfl)
  exact loop_61 1 (if (fX2_lowest df sn me p1) < (p3 - st) then (p3 - st) else (fX2_lowest df sn me p1)) (if (p3 + st) < (fX2_highest df sn me p1) then (p3 + st) else (fX2_highest df sn me p1)) _ _ rfl (fromW_ok me df p1 hE.1 hE.2.1 hk hK64 hS2 hS64) (toW_ok me df p1 hE.1 hE.2.1 _) (by rw [fX2_bestBefore, if_neg c_16, if_pos c_24, if_pos c_32]) hP hD hS _ (by exact lv_sub hl [0, 1, 2, 3] rfl)
