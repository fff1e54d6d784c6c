abbrev wA (cyD cyI cyJ cyZ : ClassId) (a1 a2 : Nat) (sf : Nat → UInt64) (nf : Nat → UInt64) : va_W := [(a1, .inl (cyD, 21, .inr (.inr (.inr (.inl sf))))), (a2, .inl (cyD, 21, .inr (.inr (.inr (.inl nf)))))]
def okM (mn : Nat) (mm msp msb mno : UInt64) (mv : Nat → UInt64) : Prop := 1 ≤ mn ∧ mn ≤ 64 ∧ bd 1030 mm ∧ bd 1027 msp ∧ bd 1027 msb ∧ bd 1033 mno ∧ (∀ i, i < 8192 → bd 1033 (mv i))
theorem cellM {F P K : Nat} {f p k : Int32} (hf : f = nI F) (hp : p = nI P) (hk : k = nI K) : ((((2048 : Int32) * f) + ((64 : Int32) * p)) + k) = nI (2048 * F + 64 * P + K) := by
  rw [hf, hp, hk, show (2048 : Int32) * nI F = nI (2048 * F) from pk_mul 2048 F, show (64 : Int32) * nI P = nI (64 * P) from pk_mul 64 P, nI_add, nI_add]
theorem cellM_in {F P K : Nat} {f p k : Int32} (hf : f = nI F) (hF : F < 4) (hp : p = nI P) (hP : P < 32) (hk : k = nI K) (hK : K < 64) : vp_in ((((2048 : Int32) * f) + ((64 : Int32) * p)) + k) 8192 := by
  rw [cellM hf hp hk]; exact vp_in_nI (by omega) (by decide)
theorem nI_in' {P N : Nat} {p : Int32} (hp : p = nI P) (hP : P < N) (hN : N < 2 ^ 31) : vp_in p N := by rw [hp]; exact vp_in_nI hP hN
def fX4_isPing  (p1 : Int32) : Int32 := if p1 < 0 then (0 : Int32) else (if (32 : Int32) ≤ p1 then (0 : Int32) else ((1 : Int32)))
set_option maxHeartbeats 4000000 in
set_option maxRecDepth 100000 in
theorem c_X4_isPing {l : Launch} {D : va_G} {cyD cyI cyJ cyZ : ClassId} (sz : Nat) (p1 : Int32)  : mZ l yX4_isPing wsX4_isPing ({ frames := 0, cells := 0, slots := 0, locals := 0 } : Room) D (kT cyD cyI cyJ cyZ) [.int p1] [] [] sz (fX4_isPing p1) 0 0 := by
  refine Met.ofW (cc := cX4_isPing) (maxL := 1) (ret := (some .boolean)) (by decide) rfl ?_
  intro p e s m args below meth c s₁ B hml hv
  obtain ⟨rfl, hN, hsz, hP, hK, hD0⟩ := hv
  have hx := B.exec
  have hb := B.bytes
  have hr := B.returns
  have hts := atoms_spec (ws := wsX4_isPing) B.pre
  have hown : s.vm.findClass RX4 = some m.cls := findClass_of_methodNamed B.named
  have hlocks := B.notSynchronized
  subst hsz
  have hD := hD0.self (sz := s.heap.size)
  generalize hAe : va_A [] s.heap.size = A at hD ⊢
  have hA : ∀ q : Nat, s.heap.size ≤ q → A q := fun q h => by rw [← hAe]; exact Or.inr h
  have hS : va_S A s.heap s.heap [] := va_S.rf
  have hP : va_P D vwCl [] s.heap := hP
  have hl := lv_entry [.int p1] (n := 1) (Nat.le_of_ble_eq_true rfl)
  rw [lg_entry_eq]
  generalize (lg_sl [.int p1] ++ List.replicate (1 - (lg_sl [.int p1]).length) Slot.unset).toArray = ls at hl ⊢
  have hl : lv_has ls 1 [(0, .int p1)] := hl
  obtain ⟨H, hHe⟩ : ∃ H : Heap, H = s.heap := ⟨_, rfl⟩
  have hP : va_P D vwCl [] H := by rw [hHe]; exact hP
  have hS : va_S A s.heap H [] := by rw [hHe]; exact hS
  rw [← hHe]
  refine lv_iload_n hx hb dX4_isPing_0 rfl (lv_at hl 0 rfl) ?_
  refine lv_if_lt (tgt := 14) hx hb dX4_isPing_1 (by decide) (fun c_1 => ?_) (fun c_1 => ?_)
  · refine lv_iconst (v := 0) hx hb dX4_isPing_14 (by decide) ?_
    have hF9 : (fX4_isPing p1) = (0 : Int32) := by rw [fX4_isPing, if_pos c_1]
    have hP9 : va_P D vwCl [] H := hP
    have hD9 : va_D A [] := hD
    exact W.zret (v := (0 : Int32)) hx hb hr (nar_z (Or.inl rfl)) (fun t ht hW => ⟨⟨(0 : Int32), (), rfl, ⟨(by rw [hF9]), (Or.inl rfl)⟩, by rw [ht]; exact hP9, va_K.moved hW.alike hK, hD9⟩, hS.F ht⟩) hS.2.2 dX4_isPing_15
  refine lv_iload_n hx hb dX4_isPing_4 rfl (lv_at hl 0 rfl) ?_
  refine lv_bipush (v := 32) hx hb dX4_isPing_5 (by decide) ?_
  refine lv_icmp_ge (tgt := 14) hx hb dX4_isPing_7 (by decide) (fun c_7 => ?_) (fun c_7 => ?_)
  · refine lv_iconst (v := 0) hx hb dX4_isPing_14 (by decide) ?_
    have hF9 : (fX4_isPing p1) = (0 : Int32) := by rw [fX4_isPing, if_neg c_1, if_pos c_7]
    have hP9 : va_P D vwCl [] H := hP
    have hD9 : va_D A [] := hD
    exact W.zret (v := (0 : Int32)) hx hb hr (nar_z (Or.inl rfl)) (fun t ht hW => ⟨⟨(0 : Int32), (), rfl, ⟨(by rw [hF9]), (Or.inl rfl)⟩, by rw [ht]; exact hP9, va_K.moved hW.alike hK, hD9⟩, hS.F ht⟩) hS.2.2 dX4_isPing_15
  refine lv_iconst (v := 1) hx hb dX4_isPing_10 (by decide) ?_
  refine lv_goto (tgt := 15) hx hb dX4_isPing_11 (by decide) ?_
  have hF9 : (fX4_isPing p1) = (1 : Int32) := by rw [fX4_isPing, if_neg c_1, if_neg c_7]
  have hP9 : va_P D vwCl [] H := hP
  have hD9 : va_D A [] := hD
  exact W.zret (v := (1 : Int32)) hx hb hr (nar_z (Or.inr rfl)) (fun t ht hW => ⟨⟨(1 : Int32), (), rfl, ⟨(by rw [hF9]), (Or.inr rfl)⟩, by rw [ht]; exact hP9, va_K.moved hW.alike hK, hD9⟩, hS.F ht⟩) hS.2.2 dX4_isPing_15
def fX4_within  (p1 : UInt64) (p2 : UInt64) (p3 : UInt64) : Int32 := if (Op.cmpValue (FP.dcmp p1 p2) CmpOp.l) < 0 then (0 : Int32) else (if 0 < (Op.cmpValue (FP.dcmp p1 p3) CmpOp.g) then (0 : Int32) else ((1 : Int32)))
set_option maxHeartbeats 4000000 in
set_option maxRecDepth 100000 in
theorem c_X4_within {l : Launch} {D : va_G} {cyD cyI cyJ cyZ : ClassId} (sz : Nat) (p1 : UInt64) (p2 : UInt64) (p3 : UInt64)  : mZ l yX4_within wsX4_within ({ frames := 0, cells := 0, slots := 0, locals := 0 } : Room) D (kT cyD cyI cyJ cyZ) [.double p1, .double p2, .double p3] [] [] sz (fX4_within p1 p2 p3) 0 0 := by
  refine Met.ofW (cc := cX4_within) (maxL := 6) (ret := (some .boolean)) (by decide) rfl ?_
  intro p e s m args below meth c s₁ B hml hv
  obtain ⟨rfl, hN, hsz, hP, hK, hD0⟩ := hv
  have hx := B.exec
  have hb := B.bytes
  have hr := B.returns
  have hts := atoms_spec (ws := wsX4_within) B.pre
  have hown : s.vm.findClass RX4 = some m.cls := findClass_of_methodNamed B.named
  have hlocks := B.notSynchronized
  subst hsz
  have hD := hD0.self (sz := s.heap.size)
  generalize hAe : va_A [] s.heap.size = A at hD ⊢
  have hA : ∀ q : Nat, s.heap.size ≤ q → A q := fun q h => by rw [← hAe]; exact Or.inr h
  have hS : va_S A s.heap s.heap [] := va_S.rf
  have hP : va_P D vwCl [] s.heap := hP
  have hl := lv_entry [.double p1, .double p2, .double p3] (n := 6) (Nat.le_of_ble_eq_true rfl)
  rw [lg_entry_eq]
  generalize (lg_sl [.double p1, .double p2, .double p3] ++ List.replicate (6 - (lg_sl [.double p1, .double p2, .double p3]).length) Slot.unset).toArray = ls at hl ⊢
  have hl : lv_has ls 6 [(0, .double p1), (2, .double p2), (4, .double p3)] := hl
  obtain ⟨H, hHe⟩ : ∃ H : Heap, H = s.heap := ⟨_, rfl⟩
  have hP : va_P D vwCl [] H := by rw [hHe]; exact hP
  have hS : va_S A s.heap H [] := by rw [hHe]; exact hS
  rw [← hHe]
  refine lv_dload_n hx hb dX4_within_0 rfl (lv_at hl 0 rfl) ?_
  refine lv_dload_n hx hb dX4_within_1 rfl (lv_at hl 1 rfl) ?_
  refine lv_dcmp hx hb dX4_within_2 ?_
  refine lv_if_lt (tgt := 17) hx hb dX4_within_3 (by decide) (fun c_3 => ?_) (fun c_3 => ?_)
  · refine lv_iconst (v := 0) hx hb dX4_within_17 (by decide) ?_
    have hF9 : (fX4_within p1 p2 p3) = (0 : Int32) := by rw [fX4_within, if_pos c_3]
    have hP9 : va_P D vwCl [] H := hP
    have hD9 : va_D A [] := hD
    exact W.zret (v := (0 : Int32)) hx hb hr (nar_z (Or.inl rfl)) (fun t ht hW => ⟨⟨(0 : Int32), (), rfl, ⟨(by rw [hF9]), (Or.inl rfl)⟩, by rw [ht]; exact hP9, va_K.moved hW.alike hK, hD9⟩, hS.F ht⟩) hS.2.2 dX4_within_18
  refine lv_dload_n hx hb dX4_within_6 rfl (lv_at hl 0 rfl) ?_
  refine lv_dload hx hb dX4_within_7 (lv_at hl 2 rfl) ?_
  refine lv_dcmp hx hb dX4_within_9 ?_
  refine lv_if_gt (tgt := 17) hx hb dX4_within_10 (by decide) (fun c_10 => ?_) (fun c_10 => ?_)
  · refine lv_iconst (v := 0) hx hb dX4_within_17 (by decide) ?_
    have hF9 : (fX4_within p1 p2 p3) = (0 : Int32) := by rw [fX4_within, if_neg c_3, if_pos c_10]
    have hP9 : va_P D vwCl [] H := hP
    have hD9 : va_D A [] := hD
    exact W.zret (v := (0 : Int32)) hx hb hr (nar_z (Or.inl rfl)) (fun t ht hW => ⟨⟨(0 : Int32), (), rfl, ⟨(by rw [hF9]), (Or.inl rfl)⟩, by rw [ht]; exact hP9, va_K.moved hW.alike hK, hD9⟩, hS.F ht⟩) hS.2.2 dX4_within_18
  refine lv_iconst (v := 1) hx hb dX4_within_13 (by decide) ?_
  refine lv_goto (tgt := 18) hx hb dX4_within_14 (by decide) ?_
  have hF9 : (fX4_within p1 p2 p3) = (1 : Int32) := by rw [fX4_within, if_neg c_3, if_neg c_10]
  have hP9 : va_P D vwCl [] H := hP
  have hD9 : va_D A [] := hD
  exact W.zret (v := (1 : Int32)) hx hb hr (nar_z (Or.inr rfl)) (fun t ht hW => ⟨⟨(1 : Int32), (), rfl, ⟨(by rw [hF9]), (Or.inr rfl)⟩, by rw [ht]; exact hP9, va_K.moved hW.alike hK, hD9⟩, hS.F ht⟩) hS.2.2 dX4_within_18
def fX4_isSample (mn : Nat) (p1 : Int32) : Int32 := if p1 < 0 then (0 : Int32) else (if (nI mn) ≤ p1 then (0 : Int32) else ((1 : Int32)))
set_option maxHeartbeats 4000000 in
set_option maxRecDepth 100000 in
theorem c_X4_isSample {l : Launch} {D : va_G} {cyD cyI cyJ cyZ : ClassId} (am bv bt bl be bdp bi bg bsd bsv bbd bbv br bu bw : Nat) (mn : Nat) (mm : UInt64) (mch : Int32) (msp : UInt64) (msb : UInt64) (mno : UInt64) (msn : Int32) (mbn : Int32) (mhr : Int32) (mro : Int32) (mv : Nat → UInt64) (mt : Nat → Int32) (ml : Nat → Int32) (med : Nat → Int32) (md : Nat → UInt64) (mi : Nat → UInt64) (mg : Nat → UInt64) (msd : Nat → UInt64) (msv : Nat → UInt64) (mbd : Nat → UInt64) (mbv : Nat → UInt64) (mr : Nat → Int32) (mu : Nat → Int64) (mw : Nat → Int32) (sz : Nat) (p1 : Int32)  : mZ l yX4_isSample wsX4_isSample ({ frames := 0, cells := 0, slots := 0, locals := 0 } : Room) D (kT cyD cyI cyJ cyZ) [.ref am, .int p1] (wM cyD cyI cyJ cyZ am bv bt bl be bdp bi bg bsd bsv bbd bbv br bu bw mn mm mch msp msb mno msn mbn mhr mro mv mt ml med md mi mg msd msv mbd mbv mr mu mw) (wM cyD cyI cyJ cyZ am bv bt bl be bdp bi bg bsd bsv bbd bbv br bu bw mn mm mch msp msb mno msn mbn mhr mro mv mt ml med md mi mg msd msv mbd mbv mr mu mw) sz (fX4_isSample mn p1) 0 0 := by
  refine Met.ofW (cc := cX4_isSample) (maxL := 2) (ret := (some .boolean)) (by decide) rfl ?_
  intro p e s m args below meth c s₁ B hml hv
  obtain ⟨rfl, hN, hsz, hP, hK, hD0⟩ := hv
  have hx := B.exec
  have hb := B.bytes
  have hr := B.returns
  have hts := atoms_spec (ws := wsX4_isSample) B.pre
  have hown : s.vm.findClass RX4 = some m.cls := findClass_of_methodNamed B.named
  have hlocks := B.notSynchronized
  subst hsz
  have hD := hD0.self (sz := s.heap.size)
  generalize hAe : va_A (wM cyD cyI cyJ cyZ am bv bt bl be bdp bi bg bsd bsv bbd bbv br bu bw mn mm mch msp msb mno msn mbn mhr mro mv mt ml med md mi mg msd msv mbd mbv mr mu mw) s.heap.size = A at hD ⊢
  have hA : ∀ q : Nat, s.heap.size ≤ q → A q := fun q h => by rw [← hAe]; exact Or.inr h
  have hS : va_S A s.heap s.heap [] := va_S.rf
  have hP : va_P D vwCl (wM cyD cyI cyJ cyZ am bv bt bl be bdp bi bg bsd bsv bbd bbv br bu bw mn mm mch msp msb mno msn mbn mhr mro mv mt ml med md mi mg msd msv mbd mbv mr mu mw) s.heap := hP
  have hl := lv_entry [.ref am, .int p1] (n := 2) (Nat.le_of_ble_eq_true rfl)
  rw [lg_entry_eq]
  generalize (lg_sl [.ref am, .int p1] ++ List.replicate (2 - (lg_sl [.ref am, .int p1]).length) Slot.unset).toArray = ls at hl ⊢
  have hl : lv_has ls 2 [(0, .ref am), (1, .int p1)] := hl
  obtain ⟨H, hHe⟩ : ∃ H : Heap, H = s.heap := ⟨_, rfl⟩
  have hP : va_P D vwCl (wM cyD cyI cyJ cyZ am bv bt bl be bdp bi bg bsd bsv bbd bbv br bu bw mn mm mch msp msb mno msn mbn mhr mro mv mt ml med md mi mg msd msv mbd mbv mr mu mw) H := by rw [hHe]; exact hP
  have hS : va_S A s.heap H [] := by rw [hHe]; exact hS
  rw [← hHe]
  refine lv_iload_n hx hb dX4_isSample_0 rfl (lv_at hl 1 rfl) ?_
  refine lv_if_lt (tgt := 16) hx hb dX4_isSample_1 (by decide) (fun c_1 => ?_) (fun c_1 => ?_)
  · refine lv_iconst (v := 0) hx hb dX4_isSample_16 (by decide) ?_
    have hF9 : (fX4_isSample mn p1) = (0 : Int32) := by rw [fX4_isSample, if_pos c_1]
    have hP9 : va_P D vwCl (wM cyD cyI cyJ cyZ am bv bt bl be bdp bi bg bsd bsv bbd bbv br bu bw mn mm mch msp msb mno msn mbn mhr mro mv mt ml med md mi mg msd msv mbd mbv mr mu mw) H := hP
    have hD9 : va_D A (wM cyD cyI cyJ cyZ am bv bt bl be bdp bi bg bsd bsv bbd bbv br bu bw mn mm mch msp msb mno msn mbn mhr mro mv mt ml med md mi mg msd msv mbd mbv mr mu mw) := hD
    exact W.zret (v := (0 : Int32)) hx hb hr (nar_z (Or.inl rfl)) (fun t ht hW => ⟨⟨(0 : Int32), (), rfl, ⟨(by rw [hF9]), (Or.inl rfl)⟩, by rw [ht]; exact hP9, va_K.moved hW.alike hK, hD9⟩, hS.F ht⟩) hS.2.2 dX4_isSample_17
  refine lv_iload_n hx hb dX4_isSample_4 rfl (lv_at hl 1 rfl) ?_
  refine lv_aload_n hx hb dX4_isSample_5 rfl (lv_at hl 0 rfl) ?_
  refine va_get (D := D) (ci := 4) (v := .int (nI mn)) (C := RX4) (T := TX4) (N := 24) hx hb hts (fun _ h => (List.mem_cons_of_mem _ (List.mem_append_right _ h))) hown hK hP 0 rfl rfl 0 (by decide) (hts (.fieldLink RX4 55 "BottomWalksModel" "samples" "I") (List.mem_of_getElem? (i := 1) rfl)) (fun _ h9 => h9) rfl dX4_isSample_6 ?_
  refine lv_icmp_ge (tgt := 16) hx hb dX4_isSample_9 (by decide) (fun c_9 => ?_) (fun c_9 => ?_)
  · refine lv_iconst (v := 0) hx hb dX4_isSample_16 (by decide) ?_
    have hF9 : (fX4_isSample mn p1) = (0 : Int32) := by rw [fX4_isSample, if_neg c_1, if_pos c_9]
    have hP9 : va_P D vwCl (wM cyD cyI cyJ cyZ am bv bt bl be bdp bi bg bsd bsv bbd bbv br bu bw mn mm mch msp msb mno msn mbn mhr mro mv mt ml med md mi mg msd msv mbd mbv mr mu mw) H := hP
    have hD9 : va_D A (wM cyD cyI cyJ cyZ am bv bt bl be bdp bi bg bsd bsv bbd bbv br bu bw mn mm mch msp msb mno msn mbn mhr mro mv mt ml med md mi mg msd msv mbd mbv mr mu mw) := hD
    exact W.zret (v := (0 : Int32)) hx hb hr (nar_z (Or.inl rfl)) (fun t ht hW => ⟨⟨(0 : Int32), (), rfl, ⟨(by rw [hF9]), (Or.inl rfl)⟩, by rw [ht]; exact hP9, va_K.moved hW.alike hK, hD9⟩, hS.F ht⟩) hS.2.2 dX4_isSample_17
  refine lv_iconst (v := 1) hx hb dX4_isSample_12 (by decide) ?_
  refine lv_goto (tgt := 17) hx hb dX4_isSample_13 (by decide) ?_
  have hF9 : (fX4_isSample mn p1) = (1 : Int32) := by rw [fX4_isSample, if_neg c_1, if_neg c_9]
  have hP9 : va_P D vwCl (wM cyD cyI cyJ cyZ am bv bt bl be bdp bi bg bsd bsv bbd bbv br bu bw mn mm mch msp msb mno msn mbn mhr mro mv mt ml med md mi mg msd msv mbd mbv mr mu mw) H := hP
  have hD9 : va_D A (wM cyD cyI cyJ cyZ am bv bt bl be bdp bi bg bsd bsv bbd bbv br bu bw mn mm mch msp msb mno msn mbn mhr mro mv mt ml med md mi mg msd msv mbd mbv mr mu mw) := hD
  exact W.zret (v := (1 : Int32)) hx hb hr (nar_z (Or.inr rfl)) (fun t ht hW => ⟨⟨(1 : Int32), (), rfl, ⟨(by rw [hF9]), (Or.inr rfl)⟩, by rw [ht]; exact hP9, va_K.moved hW.alike hK, hD9⟩, hS.F ht⟩) hS.2.2 dX4_isSample_17
theorem pingM {p : Int32} (h : ¬ fX4_isPing p = 0) : ∃ P : Nat, p = nI P ∧ P < 32 := by
  have h2 : ¬ fX3_isPing p = 0 := h
  obtain ⟨j, hj, e⟩ := vp_in_of (ping_in h2) (by decide)
  exact ⟨j, e, hj⟩
theorem pingM_in {p : Int32} (h : ¬ fX4_isPing p = 0) : vp_in p 32 := ping_in h
theorem sampM {mn : Nat} (hs : mn ≤ 64) {k : Int32} (h : ¬ fX4_isSample mn k = 0) : ∃ K : Nat, k = nI K ∧ K < mn := by
  obtain ⟨K, a, b⟩ := sample_nI hs (show ¬ fX0_isSample mn k = 0 from h)
  exact ⟨K, b, a⟩
def fX4_range (mm : UInt64) (p1 : Int32) : UInt64 := (FP.dmul (FP.i2d (p1 + (1 : Int32))) mm)
set_option maxHeartbeats 4000000 in
set_option maxRecDepth 100000 in
theorem c_X4_range {l : Launch} {D : va_G} {cyD cyI cyJ cyZ : ClassId} (am bv bt bl be bdp bi bg bsd bsv bbd bbv br bu bw : Nat) (mn : Nat) (mm : UInt64) (mch : Int32) (msp : UInt64) (msb : UInt64) (mno : UInt64) (msn : Int32) (mbn : Int32) (mhr : Int32) (mro : Int32) (mv : Nat → UInt64) (mt : Nat → Int32) (ml : Nat → Int32) (med : Nat → Int32) (md : Nat → UInt64) (mi : Nat → UInt64) (mg : Nat → UInt64) (msd : Nat → UInt64) (msv : Nat → UInt64) (mbd : Nat → UInt64) (mbv : Nat → UInt64) (mr : Nat → Int32) (mu : Nat → Int64) (mw : Nat → Int32) (sz : Nat) (p1 : Int32) (hm : bd 1030 mm) : mD l yX4_range wsX4_range ({ frames := 0, cells := 0, slots := 0, locals := 0 } : Room) D (kT cyD cyI cyJ cyZ) [.ref am, .int p1] (wM cyD cyI cyJ cyZ am bv bt bl be bdp bi bg bsd bsv bbd bbv br bu bw mn mm mch msp msb mno msn mbn mhr mro mv mt ml med md mi mg msd msv mbd mbv mr mu mw) (wM cyD cyI cyJ cyZ am bv bt bl be bdp bi bg bsd bsv bbd bbv br bu bw mn mm mch msp msb mno msn mbn mhr mro mv mt ml med md mi mg msd msv mbd mbv mr mu mw) sz (fX4_range mm p1) 0 0 := by
  refine Met.ofW (cc := cX4_range) (maxL := 2) (ret := (some .double)) (by decide) rfl ?_
  intro p e s m args below meth c s₁ B hml hv
  obtain ⟨rfl, hN, hsz, hP, hK, hD0⟩ := hv
  have hx := B.exec
  have hb := B.bytes
  have hr := B.returns
  have hts := atoms_spec (ws := wsX4_range) B.pre
  have hown : s.vm.findClass RX4 = some m.cls := findClass_of_methodNamed B.named
  have hlocks := B.notSynchronized
  subst hsz
  have hD := hD0.self (sz := s.heap.size)
  generalize hAe : va_A (wM cyD cyI cyJ cyZ am bv bt bl be bdp bi bg bsd bsv bbd bbv br bu bw mn mm mch msp msb mno msn mbn mhr mro mv mt ml med md mi mg msd msv mbd mbv mr mu mw) s.heap.size = A at hD ⊢
  have hA : ∀ q : Nat, s.heap.size ≤ q → A q := fun q h => by rw [← hAe]; exact Or.inr h
  have hS : va_S A s.heap s.heap [] := va_S.rf
  have hP : va_P D vwCl (wM cyD cyI cyJ cyZ am bv bt bl be bdp bi bg bsd bsv bbd bbv br bu bw mn mm mch msp msb mno msn mbn mhr mro mv mt ml med md mi mg msd msv mbd mbv mr mu mw) s.heap := hP
  have hl := lv_entry [.ref am, .int p1] (n := 2) (Nat.le_of_ble_eq_true rfl)
  rw [lg_entry_eq]
  generalize (lg_sl [.ref am, .int p1] ++ List.replicate (2 - (lg_sl [.ref am, .int p1]).length) Slot.unset).toArray = ls at hl ⊢
  have hl : lv_has ls 2 [(0, .ref am), (1, .int p1)] := hl
  obtain ⟨H, hHe⟩ : ∃ H : Heap, H = s.heap := ⟨_, rfl⟩
  have hP : va_P D vwCl (wM cyD cyI cyJ cyZ am bv bt bl be bdp bi bg bsd bsv bbd bbv br bu bw mn mm mch msp msb mno msn mbn mhr mro mv mt ml med md mi mg msd msv mbd mbv mr mu mw) H := by rw [hHe]; exact hP
  have hS : va_S A s.heap H [] := by rw [hHe]; exact hS
  rw [← hHe]
  refine lv_iload_n hx hb dX4_range_0 rfl (lv_at hl 1 rfl) ?_
  refine lv_iconst (v := 1) hx hb dX4_range_1 (by decide) ?_
  refine lv_iadd hx hb dX4_range_2 ?_
  refine lv_i2d hx hb dX4_range_3 ?_
  refine lv_aload_n hx hb dX4_range_4 rfl (lv_at hl 0 rfl) ?_
  refine va_get (D := D) (ci := 4) (v := .double mm) (C := RX4) (T := TX4) (N := 24) hx hb hts (fun _ h => (List.mem_cons_of_mem _ (List.mem_append_right _ h))) hown hK hP 0 rfl rfl 1 (by decide) (hts (.fieldLink RX4 61 "BottomWalksModel" "metre" "D") (List.mem_of_getElem? (i := 1) rfl)) (fun _ h9 => h9) rfl dX4_range_5 ?_
  refine lv_dmul hx hb dX4_range_8 (bd_n (bd_mul (Ka := 1056) (Kb := 1030) (K := 1064) (bd_i2d _) hm (by decide) (by decide) (by decide)) (by decide)) ?_
  have hF9 : (fX4_range mm p1) = (FP.dmul (FP.i2d (p1 + (1 : Int32))) mm) := by rw [fX4_range]
  have hP9 : va_P D vwCl (wM cyD cyI cyJ cyZ am bv bt bl be bdp bi bg bsd bsv bbd bbv br bu bw mn mm mch msp msb mno msn mbn mhr mro mv mt ml med md mi mg msd msv mbd mbv mr mu mw) H := hP
  have hD9 : va_D A (wM cyD cyI cyJ cyZ am bv bt bl be bdp bi bg bsd bsv bbd bbv br bu bw mn mm mch msp msb mno msn mbn mhr mro mv mt ml med md mi mg msd msv mbd mbv mr mu mw) := hD
  exact W.dret (v := (FP.dmul (FP.i2d (p1 + (1 : Int32))) mm)) hx hb hr (fun t ht hW => ⟨⟨(FP.dmul (FP.i2d (p1 + (1 : Int32))) mm), (), rfl, (by rw [hF9]), by rw [ht]; exact hP9, va_K.moved hW.alike hK, hD9⟩, hS.F ht⟩) hS.2.2 dX4_range_9
def fX4_value (mn : Nat) (mch : Int32) (mv : Nat → UInt64) (mt : Nat → Int32) (p1 : Int32) (p2 : Int32) (p3 : UInt64) : Int32 × (Nat → UInt64) × (Nat → Int32) := if (fX4_isPing p1) = 0 then ((0 : Int32), mv, mt) else (if (fX4_isSample mn p2) = 0 then ((0 : Int32), mv, mt) else (if (fX4_within p3 FP.dconst0 (4652007308841189376 : UInt64)) = 0 then ((0 : Int32), mv, mt) else (((1 : Int32), (vf_upd mv ((((2048 : Int32) * mch) + ((64 : Int32) * p1)) + p2).toNatClampNeg p3), (upd mt ((((2048 : Int32) * mch) + ((64 : Int32) * p1)) + p2).toNatClampNeg (vp_nar .boolean (1 : Int32)))))))
set_option maxHeartbeats 4000000 in
set_option maxRecDepth 100000 in
theorem c_X4_value {l : Launch} {D : va_G} {cyD cyI cyJ cyZ : ClassId} (am bv bt bl be bdp bi bg bsd bsv bbd bbv br bu bw : Nat) (mn : Nat) (mm : UInt64) (mch : Int32) (msp : UInt64) (msb : UInt64) (mno : UInt64) (msn : Int32) (mbn : Int32) (mhr : Int32) (mro : Int32) (mv : Nat → UInt64) (mt : Nat → Int32) (ml : Nat → Int32) (med : Nat → Int32) (md : Nat → UInt64) (mi : Nat → UInt64) (mg : Nat → UInt64) (msd : Nat → UInt64) (msv : Nat → UInt64) (mbd : Nat → UInt64) (mbv : Nat → UInt64) (mr : Nat → Int32) (mu : Nat → Int64) (mw : Nat → Int32) (sz : Nat) (p1 : Int32) (p2 : Int32) (p3 : UInt64) (hM : okM mn mm msp msb mno mv) (C : Nat) (hmc : mch = nI C) (hC4 : C < 4) : mZ l yX4_value wsX4_value ({ frames := 1, cells := 0, slots := 0, locals := 25 } : Room) D (kT cyD cyI cyJ cyZ) [.ref am, .int p1, .int p2, .double p3] (wM cyD cyI cyJ cyZ am bv bt bl be bdp bi bg bsd bsv bbd bbv br bu bw mn mm mch msp msb mno msn mbn mhr mro mv mt ml med md mi mg msd msv mbd mbv mr mu mw) (wM cyD cyI cyJ cyZ am bv bt bl be bdp bi bg bsd bsv bbd bbv br bu bw mn mm mch msp msb mno msn mbn mhr mro ((fX4_value mn mch mv mt p1 p2 p3).2.1) ((fX4_value mn mch mv mt p1 p2 p3).2.2) ml med md mi mg msd msv mbd mbv mr mu mw) sz ((fX4_value mn mch mv mt p1 p2 p3).1) 0 0 := by
  refine Met.ofW (cc := cX4_value) (maxL := 5) (ret := (some .boolean)) (by decide) rfl ?_
  intro p e s m args below meth c s₁ B hml hv
  obtain ⟨rfl, hN, hsz, hP, hK, hD0⟩ := hv
  have hx := B.exec
  have hb := B.bytes
  have hr := B.returns
  have hts := atoms_spec (ws := wsX4_value) B.pre
  have hown : s.vm.findClass RX4 = some m.cls := findClass_of_methodNamed B.named
  have hlocks := B.notSynchronized
  subst hsz
  have hD := hD0.self (sz := s.heap.size)
  generalize hAe : va_A (wM cyD cyI cyJ cyZ am bv bt bl be bdp bi bg bsd bsv bbd bbv br bu bw mn mm mch msp msb mno msn mbn mhr mro mv mt ml med md mi mg msd msv mbd mbv mr mu mw) s.heap.size = A at hD ⊢
  have hA : ∀ q : Nat, s.heap.size ≤ q → A q := fun q h => by rw [← hAe]; exact Or.inr h
  have hS : va_S A s.heap s.heap [] := va_S.rf
  have hP : va_P D vwCl (wM cyD cyI cyJ cyZ am bv bt bl be bdp bi bg bsd bsv bbd bbv br bu bw mn mm mch msp msb mno msn mbn mhr mro mv mt ml med md mi mg msd msv mbd mbv mr mu mw) s.heap := hP
  have hl := lv_entry [.ref am, .int p1, .int p2, .double p3] (n := 5) (Nat.le_of_ble_eq_true rfl)
  rw [lg_entry_eq]
  generalize (lg_sl [.ref am, .int p1, .int p2, .double p3] ++ List.replicate (5 - (lg_sl [.ref am, .int p1, .int p2, .double p3]).length) Slot.unset).toArray = ls at hl ⊢
  have hl : lv_has ls 5 [(0, .ref am), (1, .int p1), (2, .int p2), (3, .double p3)] := hl
  obtain ⟨H, hHe⟩ : ∃ H : Heap, H = s.heap := ⟨_, rfl⟩
  have hP : va_P D vwCl (wM cyD cyI cyJ cyZ am bv bt bl be bdp bi bg bsd bsv bbd bbv br bu bw mn mm mch msp msb mno msn mbn mhr mro mv mt ml med md mi mg msd msv mbd mbv mr mu mw) H := by rw [hHe]; exact hP
  have hS : va_S A s.heap H [] := by rw [hHe]; exact hS
  rw [← hHe]
  refine lv_iload_n hx hb dX4_value_0 rfl (lv_at hl 1 rfl) ?_
  have hPc : va_P D vwCl [] H := hP.sub [] rfl
  have hDc : va_D A [] := hD.sub [] (by decide) rfl
  refine kzE (ws' := (wM cyD cyI cyJ cyZ am bv bt bl be bdp bi bg bsd bsv bbd bbv br bu bw mn mm mch msp msb mno msn mbn mhr mro mv mt ml med md mi mg msd msv mbd mbv mr mu mw)) (wc := []) (wr := [(am, .inr (4, [.int (nI mn), .double mm, .ref bv, .ref bt, .ref bl, .ref be, .ref bdp, .ref bi, .ref bg, .int mch, .double msp, .double msb, .double mno, .int msn, .ref bsd, .ref bsv, .int mbn, .ref bbd, .ref bbv, .int mhr, .int mro, .ref br, .ref bu, .ref bw])), (bv, .inl (cyD, 8192, .inr (.inr (.inr (.inl mv))))), (bt, .inl (cyZ, 8192, .inl mt)), (bl, .inl (cyZ, 32, .inl ml)), (be, .inl (cyZ, 32, .inl med)), (bdp, .inl (cyD, 32, .inr (.inr (.inr (.inl md))))), (bi, .inl (cyD, 32, .inr (.inr (.inr (.inl mi))))), (bg, .inl (cyD, 32, .inr (.inr (.inr (.inl mg))))), (bsd, .inl (cyD, 21, .inr (.inr (.inr (.inl msd))))), (bsv, .inl (cyD, 21, .inr (.inr (.inr (.inl msv))))), (bbd, .inl (cyD, 21, .inr (.inr (.inr (.inl mbd))))), (bbv, .inl (cyD, 21, .inr (.inr (.inr (.inl mbv))))), (br, .inl (cyI, 32, .inl mr)), (bu, .inl (cyJ, 2048, .inr (.inl mu))), (bw, .inl (cyI, 32, .inl mw))]) (w1 := []) (va_runS (As := [.int p1]) (rest := []) ⟨hx, hb, hml, hown, hts⟩ (c_X4_isPing (l := l) (D := D) (cyD := cyD) (cyI := cyI) (cyJ := cyJ) (cyZ := cyZ) H.size p1) (va_cwS 1 hts gX4_value_X4_isPing rfl rfl rfl (by decide +kernel) ⟨Nat.le_of_ble_eq_true rfl, Nat.le_of_ble_eq_true rfl⟩) (kS hN hK hPc hDc) rfl rfl hl.1 rfl (lv_room (Nat.le_of_ble_eq_true rfl)) dX4_value_1 ⟨Nat.le_of_ble_eq_true rfl, Nat.le_of_ble_eq_true rfl⟩) hP hD hS hA [] [0, 1, 2, 3, 4, 5, 6, 7, 8, 9, 10, 11, 12, 13, 14] [0, 1, 2, 3, 4, 5, 6, 7, 8, 9, 10, 11, 12, 13, 14] rfl rfl (by decide) (by decide) rfl (by decide) (fun H locs hz_1 hP hD hS => ?_)
  refine lv_if_eq (tgt := 26) hx hb dX4_value_4 (by decide) (fun c_4 => ?_) (fun c_4 => ?_)
  · refine lv_iconst (v := 0) hx hb dX4_value_26 (by decide) ?_
    have hF9 : (fX4_value mn mch mv mt p1 p2 p3) = ((0 : Int32), mv, mt) := by rw [fX4_value, if_pos c_4]
    have hP9 : va_P D vwCl (wM cyD cyI cyJ cyZ am bv bt bl be bdp bi bg bsd bsv bbd bbv br bu bw mn mm mch msp msb mno msn mbn mhr mro ((fX4_value mn mch mv mt p1 p2 p3).2.1) ((fX4_value mn mch mv mt p1 p2 p3).2.2) ml med md mi mg msd msv mbd mbv mr mu mw) H := by rw [hF9]; exact hP
    have hD9 : va_D A (wM cyD cyI cyJ cyZ am bv bt bl be bdp bi bg bsd bsv bbd bbv br bu bw mn mm mch msp msb mno msn mbn mhr mro ((fX4_value mn mch mv mt p1 p2 p3).2.1) ((fX4_value mn mch mv mt p1 p2 p3).2.2) ml med md mi mg msd msv mbd mbv mr mu mw) := by rw [hF9]; exact hD
    exact W.zret (v := (0 : Int32)) hx hb hr (nar_z (Or.inl rfl)) (fun t ht hW => ⟨⟨(0 : Int32), (), rfl, ⟨(by rw [hF9]), (Or.inl rfl)⟩, by rw [ht]; exact hP9, va_K.moved hW.alike hK, hD9⟩, hS.F ht⟩) hS.2.2 dX4_value_27
  refine lv_aload_n hx hb dX4_value_7 rfl (lv_at hl 0 rfl) ?_
  refine lv_iload_n hx hb dX4_value_8 rfl (lv_at hl 2 rfl) ?_
  have hPc : va_P D vwCl (wM cyD cyI cyJ cyZ am bv bt bl be bdp bi bg bsd bsv bbd bbv br bu bw mn mm mch msp msb mno msn mbn mhr mro mv mt ml med md mi mg msd msv mbd mbv mr mu mw) H := hP.sub [0, 1, 2, 3, 4, 5, 6, 7, 8, 9, 10, 11, 12, 13, 14] rfl
  have hDc : va_D A (wM cyD cyI cyJ cyZ am bv bt bl be bdp bi bg bsd bsv bbd bbv br bu bw mn mm mch msp msb mno msn mbn mhr mro mv mt ml med md mi mg msd msv mbd mbv mr mu mw) := hD.sub [0, 1, 2, 3, 4, 5, 6, 7, 8, 9, 10, 11, 12, 13, 14] (by decide) rfl
  refine kzE (ws' := (wM cyD cyI cyJ cyZ am bv bt bl be bdp bi bg bsd bsv bbd bbv br bu bw mn mm mch msp msb mno msn mbn mhr mro mv mt ml med md mi mg msd msv mbd mbv mr mu mw)) (wc := (wM cyD cyI cyJ cyZ am bv bt bl be bdp bi bg bsd bsv bbd bbv br bu bw mn mm mch msp msb mno msn mbn mhr mro mv mt ml med md mi mg msd msv mbd mbv mr mu mw)) (wr := []) (w1 := (wM cyD cyI cyJ cyZ am bv bt bl be bdp bi bg bsd bsv bbd bbv br bu bw mn mm mch msp msb mno msn mbn mhr mro mv mt ml med md mi mg msd msv mbd mbv mr mu mw)) (va_runV (As := [.int p2]) (rest := []) ⟨hx, hb, hml, hown, hts⟩ (c_X4_isSample (l := l) (D := D) (cyD := cyD) (cyI := cyI) (cyJ := cyJ) (cyZ := cyZ) am bv bt bl be bdp bi bg bsd bsv bbd bbv br bu bw mn mm mch msp msb mno msn mbn mhr mro mv mt ml med md mi mg msd msv mbd mbv mr mu mw H.size p2) (cwV 1 hts gX4_value_X4_isSample rfl rfl rfl (by decide +kernel) ⟨Nat.le_of_ble_eq_true rfl, Nat.le_of_ble_eq_true rfl⟩) (kV (ci := 4) (q0 := 0) (q := (RX4, TX4, 24)) hN hK hPc hDc rfl rfl rfl) rfl rfl hl.1 rfl (lv_room (Nat.le_of_ble_eq_true rfl)) dX4_value_9 ⟨Nat.le_of_ble_eq_true rfl, Nat.le_of_ble_eq_true rfl⟩) hP hD hS hA [0, 1, 2, 3, 4, 5, 6, 7, 8, 9, 10, 11, 12, 13, 14] [] [0, 1, 2, 3, 4, 5, 6, 7, 8, 9, 10, 11, 12, 13, 14] rfl rfl (by decide) (by decide) rfl (by decide) (fun H locs hz_9 hP hD hS => ?_)
  refine lv_if_eq (tgt := 26) hx hb dX4_value_12 (by decide) (fun c_12 => ?_) (fun c_12 => ?_)
  · refine lv_iconst (v := 0) hx hb dX4_value_26 (by decide) ?_
    have hF9 : (fX4_value mn mch mv mt p1 p2 p3) = ((0 : Int32), mv, mt) := by rw [fX4_value, if_neg c_4, if_pos c_12]
    have hP9 : va_P D vwCl (wM cyD cyI cyJ cyZ am bv bt bl be bdp bi bg bsd bsv bbd bbv br bu bw mn mm mch msp msb mno msn mbn mhr mro ((fX4_value mn mch mv mt p1 p2 p3).2.1) ((fX4_value mn mch mv mt p1 p2 p3).2.2) ml med md mi mg msd msv mbd mbv mr mu mw) H := by rw [hF9]; exact hP
    have hD9 : va_D A (wM cyD cyI cyJ cyZ am bv bt bl be bdp bi bg bsd bsv bbd bbv br bu bw mn mm mch msp msb mno msn mbn mhr mro ((fX4_value mn mch mv mt p1 p2 p3).2.1) ((fX4_value mn mch mv mt p1 p2 p3).2.2) ml med md mi mg msd msv mbd mbv mr mu mw) := by rw [hF9]; exact hD
    exact W.zret (v := (0 : Int32)) hx hb hr (nar_z (Or.inl rfl)) (fun t ht hW => ⟨⟨(0 : Int32), (), rfl, ⟨(by rw [hF9]), (Or.inl rfl)⟩, by rw [ht]; exact hP9, va_K.moved hW.alike hK, hD9⟩, hS.F ht⟩) hS.2.2 dX4_value_27
  refine lv_dload_n hx hb dX4_value_15 rfl (lv_at hl 3 rfl) ?_
  refine lv_dconst0 hx hb dX4_value_16 ?_
  refine lv_ldc2d (v := 4652007308841189376) hx hb hown (hts (.constantDouble RX4 72 (4652007308841189376)) (List.mem_of_getElem? (i := 1) rfl)) dX4_value_17 ?_
  have hPc : va_P D vwCl [] H := hP.sub [] rfl
  have hDc : va_D A [] := hD.sub [] (by decide) rfl
  refine kzE (ws' := (wM cyD cyI cyJ cyZ am bv bt bl be bdp bi bg bsd bsv bbd bbv br bu bw mn mm mch msp msb mno msn mbn mhr mro mv mt ml med md mi mg msd msv mbd mbv mr mu mw)) (wc := []) (wr := [(am, .inr (4, [.int (nI mn), .double mm, .ref bv, .ref bt, .ref bl, .ref be, .ref bdp, .ref bi, .ref bg, .int mch, .double msp, .double msb, .double mno, .int msn, .ref bsd, .ref bsv, .int mbn, .ref bbd, .ref bbv, .int mhr, .int mro, .ref br, .ref bu, .ref bw])), (bv, .inl (cyD, 8192, .inr (.inr (.inr (.inl mv))))), (bt, .inl (cyZ, 8192, .inl mt)), (bl, .inl (cyZ, 32, .inl ml)), (be, .inl (cyZ, 32, .inl med)), (bdp, .inl (cyD, 32, .inr (.inr (.inr (.inl md))))), (bi, .inl (cyD, 32, .inr (.inr (.inr (.inl mi))))), (bg, .inl (cyD, 32, .inr (.inr (.inr (.inl mg))))), (bsd, .inl (cyD, 21, .inr (.inr (.inr (.inl msd))))), (bsv, .inl (cyD, 21, .inr (.inr (.inr (.inl msv))))), (bbd, .inl (cyD, 21, .inr (.inr (.inr (.inl mbd))))), (bbv, .inl (cyD, 21, .inr (.inr (.inr (.inl mbv))))), (br, .inl (cyI, 32, .inl mr)), (bu, .inl (cyJ, 2048, .inr (.inl mu))), (bw, .inl (cyI, 32, .inl mw))]) (w1 := []) (va_runS (As := [.double p3, .double FP.dconst0, .double (4652007308841189376 : UInt64)]) (rest := []) ⟨hx, hb, hml, hown, hts⟩ (c_X4_within (l := l) (D := D) (cyD := cyD) (cyI := cyI) (cyJ := cyJ) (cyZ := cyZ) H.size p3 FP.dconst0 (4652007308841189376 : UInt64)) (va_cwS 3 hts gX4_value_X4_within rfl rfl rfl (by decide +kernel) ⟨Nat.le_of_ble_eq_true rfl, Nat.le_of_ble_eq_true rfl⟩) (kS hN hK hPc hDc) rfl rfl hl.1 rfl (lv_room (Nat.le_of_ble_eq_true rfl)) dX4_value_20 ⟨Nat.le_of_ble_eq_true rfl, Nat.le_of_ble_eq_true rfl⟩) hP hD hS hA [] [0, 1, 2, 3, 4, 5, 6, 7, 8, 9, 10, 11, 12, 13, 14] [0, 1, 2, 3, 4, 5, 6, 7, 8, 9, 10, 11, 12, 13, 14] rfl rfl (by decide) (by decide) rfl (by decide) (fun H locs hz_20 hP hD hS => ?_)
  refine lv_if_ne (tgt := 28) hx hb dX4_value_23 (by decide) (fun c_23 => ?_) (fun c_23 => ?_)
  · refine lv_aload_n hx hb dX4_value_28 rfl (lv_at hl 0 rfl) ?_
    refine va_get (D := D) (ci := 4) (v := .ref bv) (C := RX4) (T := TX4) (N := 24) hx hb hts (fun _ h => (List.mem_cons_of_mem _ (List.mem_append_right _ h))) hown hK hP 0 rfl rfl 2 (by decide) (hts (.fieldLink RX4 7 "BottomWalksModel" "values" "[D") (List.mem_of_getElem? (i := 2) rfl)) (fun _ h9 => h9) rfl dX4_value_29 ?_
    refine lv_sipush (v := 2048) hx hb dX4_value_32 (by decide) ?_
    refine lv_aload_n hx hb dX4_value_35 rfl (lv_at hl 0 rfl) ?_
    refine va_get (D := D) (ci := 4) (v := .int mch) (C := RX4) (T := TX4) (N := 24) hx hb hts (fun _ h => (List.mem_cons_of_mem _ (List.mem_append_right _ h))) hown hK hP 0 rfl rfl 9 (by decide) (hts (.fieldLink RX4 78 "BottomWalksModel" "chosen" "I") (List.mem_of_getElem? (i := 3) rfl)) (fun _ h9 => h9) rfl dX4_value_36 ?_
    refine lv_imul hx hb dX4_value_39 ?_
    refine lv_bipush (v := 64) hx hb dX4_value_40 (by decide) ?_
    refine lv_iload_n hx hb dX4_value_42 rfl (lv_at hl 1 rfl) ?_
    refine lv_imul hx hb dX4_value_43 ?_
    refine lv_iadd hx hb dX4_value_44 ?_
    refine lv_iload_n hx hb dX4_value_45 rfl (lv_at hl 2 rfl) ?_
    refine lv_iadd hx hb dX4_value_46 ?_
    refine lv_dload_n hx hb dX4_value_47 rfl (lv_at hl 3 rfl) ?_
    refine va_dast hx hb hK hP hD hS 1 0 rfl rfl (cellM_in hmc hC4 (pingM c_4).choose_spec.1 (pingM c_4).choose_spec.2 (sampM hM.2.1 c_12).choose_spec.1 (by have := (sampM hM.2.1 c_12).choose_spec.2; have := hM.2.1; omega)) dX4_value_48 (fun H locs hP hD hS => ?_)
    have hP : va_P D vwCl (wM cyD cyI cyJ cyZ am bv bt bl be bdp bi bg bsd bsv bbd bbv br bu bw mn mm mch msp msb mno msn mbn mhr mro (vf_upd mv ((((2048 : Int32) * mch) + ((64 : Int32) * p1)) + p2).toNatClampNeg p3) mt ml med md mi mg msd msv mbd mbv mr mu mw) H := hP
    have hD : va_D A (wM cyD cyI cyJ cyZ am bv bt bl be bdp bi bg bsd bsv bbd bbv br bu bw mn mm mch msp msb mno msn mbn mhr mro (vf_upd mv ((((2048 : Int32) * mch) + ((64 : Int32) * p1)) + p2).toNatClampNeg p3) mt ml med md mi mg msd msv mbd mbv mr mu mw) := hD
    refine lv_aload_n hx hb dX4_value_49 rfl (lv_at hl 0 rfl) ?_
    refine va_get (D := D) (ci := 4) (v := .ref bt) (C := RX4) (T := TX4) (N := 24) hx hb hts (fun _ h => (List.mem_cons_of_mem _ (List.mem_append_right _ h))) hown hK hP 0 rfl rfl 3 (by decide) (hts (.fieldLink RX4 13 "BottomWalksModel" "told" "[Z") (List.mem_of_getElem? (i := 4) rfl)) (fun _ h9 => h9) rfl dX4_value_50 ?_
    refine lv_sipush (v := 2048) hx hb dX4_value_53 (by decide) ?_
    refine lv_aload_n hx hb dX4_value_56 rfl (lv_at hl 0 rfl) ?_
    refine va_get (D := D) (ci := 4) (v := .int mch) (C := RX4) (T := TX4) (N := 24) hx hb hts (fun _ h => (List.mem_cons_of_mem _ (List.mem_append_right _ h))) hown hK hP 0 rfl rfl 9 (by decide) (hts (.fieldLink RX4 78 "BottomWalksModel" "chosen" "I") (List.mem_of_getElem? (i := 3) rfl)) (fun _ h9 => h9) rfl dX4_value_57 ?_
    refine lv_imul hx hb dX4_value_60 ?_
    refine lv_bipush (v := 64) hx hb dX4_value_61 (by decide) ?_
    refine lv_iload_n hx hb dX4_value_63 rfl (lv_at hl 1 rfl) ?_
    refine lv_imul hx hb dX4_value_64 ?_
    refine lv_iadd hx hb dX4_value_65 ?_
    refine lv_iload_n hx hb dX4_value_66 rfl (lv_at hl 2 rfl) ?_
    refine lv_iadd hx hb dX4_value_67 ?_
    refine lv_iconst (v := 1) hx hb dX4_value_68 (by decide) ?_
    refine va_zast hx hb hK hP hD hS 2 3 rfl rfl (cellM_in hmc hC4 (pingM c_4).choose_spec.1 (pingM c_4).choose_spec.2 (sampM hM.2.1 c_12).choose_spec.1 (by have := (sampM hM.2.1 c_12).choose_spec.2; have := hM.2.1; omega)) dX4_value_69 (fun H locs hP hD hS => ?_)
    have hP : va_P D vwCl (wM cyD cyI cyJ cyZ am bv bt bl be bdp bi bg bsd bsv bbd bbv br bu bw mn mm mch msp msb mno msn mbn mhr mro (vf_upd mv ((((2048 : Int32) * mch) + ((64 : Int32) * p1)) + p2).toNatClampNeg p3) (upd mt ((((2048 : Int32) * mch) + ((64 : Int32) * p1)) + p2).toNatClampNeg (vp_nar .boolean (1 : Int32))) ml med md mi mg msd msv mbd mbv mr mu mw) H := hP
    have hD : va_D A (wM cyD cyI cyJ cyZ am bv bt bl be bdp bi bg bsd bsv bbd bbv br bu bw mn mm mch msp msb mno msn mbn mhr mro (vf_upd mv ((((2048 : Int32) * mch) + ((64 : Int32) * p1)) + p2).toNatClampNeg p3) (upd mt ((((2048 : Int32) * mch) + ((64 : Int32) * p1)) + p2).toNatClampNeg (vp_nar .boolean (1 : Int32))) ml med md mi mg msd msv mbd mbv mr mu mw) := hD
    refine lv_iconst (v := 1) hx hb dX4_value_70 (by decide) ?_
    have hF9 : (fX4_value mn mch mv mt p1 p2 p3) = ((1 : Int32), (vf_upd mv ((((2048 : Int32) * mch) + ((64 : Int32) * p1)) + p2).toNatClampNeg p3), (upd mt ((((2048 : Int32) * mch) + ((64 : Int32) * p1)) + p2).toNatClampNeg (vp_nar .boolean (1 : Int32)))) := by rw [fX4_value, if_neg c_4, if_neg c_12, if_neg c_23]
    have hP9 : va_P D vwCl (wM cyD cyI cyJ cyZ am bv bt bl be bdp bi bg bsd bsv bbd bbv br bu bw mn mm mch msp msb mno msn mbn mhr mro ((fX4_value mn mch mv mt p1 p2 p3).2.1) ((fX4_value mn mch mv mt p1 p2 p3).2.2) ml med md mi mg msd msv mbd mbv mr mu mw) H := by rw [hF9]; exact hP
    have hD9 : va_D A (wM cyD cyI cyJ cyZ am bv bt bl be bdp bi bg bsd bsv bbd bbv br bu bw mn mm mch msp msb mno msn mbn mhr mro ((fX4_value mn mch mv mt p1 p2 p3).2.1) ((fX4_value mn mch mv mt p1 p2 p3).2.2) ml med md mi mg msd msv mbd mbv mr mu mw) := by rw [hF9]; exact hD
    exact W.zret (v := (1 : Int32)) hx hb hr (nar_z (Or.inr rfl)) (fun t ht hW => ⟨⟨(1 : Int32), (), rfl, ⟨(by rw [hF9]), (Or.inr rfl)⟩, by rw [ht]; exact hP9, va_K.moved hW.alike hK, hD9⟩, hS.F ht⟩) hS.2.2 dX4_value_71
  refine lv_iconst (v := 0) hx hb dX4_value_26 (by decide) ?_
  have hF9 : (fX4_value mn mch mv mt p1 p2 p3) = ((0 : Int32), mv, mt) := by rw [fX4_value, if_neg c_4, if_neg c_12, if_pos c_23]
  have hP9 : va_P D vwCl (wM cyD cyI cyJ cyZ am bv bt bl be bdp bi bg bsd bsv bbd bbv br bu bw mn mm mch msp msb mno msn mbn mhr mro ((fX4_value mn mch mv mt p1 p2 p3).2.1) ((fX4_value mn mch mv mt p1 p2 p3).2.2) ml med md mi mg msd msv mbd mbv mr mu mw) H := by rw [hF9]; exact hP
  have hD9 : va_D A (wM cyD cyI cyJ cyZ am bv bt bl be bdp bi bg bsd bsv bbd bbv br bu bw mn mm mch msp msb mno msn mbn mhr mro ((fX4_value mn mch mv mt p1 p2 p3).2.1) ((fX4_value mn mch mv mt p1 p2 p3).2.2) ml med md mi mg msd msv mbd mbv mr mu mw) := by rw [hF9]; exact hD
  exact W.zret (v := (0 : Int32)) hx hb hr (nar_z (Or.inl rfl)) (fun t ht hW => ⟨⟨(0 : Int32), (), rfl, ⟨(by rw [hF9]), (Or.inl rfl)⟩, by rw [ht]; exact hP9, va_K.moved hW.alike hK, hD9⟩, hS.F ht⟩) hS.2.2 dX4_value_27
def fX4_loss (msp : UInt64) (msb : UInt64) (p1 : UInt64) (p2 : UInt64) : Int32 × UInt64 × UInt64 := if (fX4_within p1 FP.dconst0 (4621819117588971520 : UInt64)) = 0 then ((0 : Int32), msp, msb) else (if (fX4_within p2 FP.dconst0 (4621819117588971520 : UInt64)) = 0 then ((0 : Int32), msp, msb) else (((1 : Int32), p1, p2)))
set_option maxHeartbeats 4000000 in
set_option maxRecDepth 100000 in
theorem c_X4_loss {l : Launch} {D : va_G} {cyD cyI cyJ cyZ : ClassId} (am bv bt bl be bdp bi bg bsd bsv bbd bbv br bu bw : Nat) (mn : Nat) (mm : UInt64) (mch : Int32) (msp : UInt64) (msb : UInt64) (mno : UInt64) (msn : Int32) (mbn : Int32) (mhr : Int32) (mro : Int32) (mv : Nat → UInt64) (mt : Nat → Int32) (ml : Nat → Int32) (med : Nat → Int32) (md : Nat → UInt64) (mi : Nat → UInt64) (mg : Nat → UInt64) (msd : Nat → UInt64) (msv : Nat → UInt64) (mbd : Nat → UInt64) (mbv : Nat → UInt64) (mr : Nat → Int32) (mu : Nat → Int64) (mw : Nat → Int32) (sz : Nat) (p1 : UInt64) (p2 : UInt64)  : mZ l yX4_loss wsX4_loss ({ frames := 1, cells := 0, slots := 0, locals := 25 } : Room) D (kT cyD cyI cyJ cyZ) [.ref am, .double p1, .double p2] (wM cyD cyI cyJ cyZ am bv bt bl be bdp bi bg bsd bsv bbd bbv br bu bw mn mm mch msp msb mno msn mbn mhr mro mv mt ml med md mi mg msd msv mbd mbv mr mu mw) (wM cyD cyI cyJ cyZ am bv bt bl be bdp bi bg bsd bsv bbd bbv br bu bw mn mm mch ((fX4_loss msp msb p1 p2).2.1) ((fX4_loss msp msb p1 p2).2.2) mno msn mbn mhr mro mv mt ml med md mi mg msd msv mbd mbv mr mu mw) sz ((fX4_loss msp msb p1 p2).1) 0 0 := by
  refine Met.ofW (cc := cX4_loss) (maxL := 5) (ret := (some .boolean)) (by decide) rfl ?_
  intro p e s m args below meth c s₁ B hml hv
  obtain ⟨rfl, hN, hsz, hP, hK, hD0⟩ := hv
  have hx := B.exec
  have hb := B.bytes
  have hr := B.returns
  have hts := atoms_spec (ws := wsX4_loss) B.pre
  have hown : s.vm.findClass RX4 = some m.cls := findClass_of_methodNamed B.named
  have hlocks := B.notSynchronized
  subst hsz
  have hD := hD0.self (sz := s.heap.size)
  generalize hAe : va_A (wM cyD cyI cyJ cyZ am bv bt bl be bdp bi bg bsd bsv bbd bbv br bu bw mn mm mch msp msb mno msn mbn mhr mro mv mt ml med md mi mg msd msv mbd mbv mr mu mw) s.heap.size = A at hD ⊢
  have hA : ∀ q : Nat, s.heap.size ≤ q → A q := fun q h => by rw [← hAe]; exact Or.inr h
  have hS : va_S A s.heap s.heap [] := va_S.rf
  have hP : va_P D vwCl (wM cyD cyI cyJ cyZ am bv bt bl be bdp bi bg bsd bsv bbd bbv br bu bw mn mm mch msp msb mno msn mbn mhr mro mv mt ml med md mi mg msd msv mbd mbv mr mu mw) s.heap := hP
  have hl := lv_entry [.ref am, .double p1, .double p2] (n := 5) (Nat.le_of_ble_eq_true rfl)
  rw [lg_entry_eq]
  generalize (lg_sl [.ref am, .double p1, .double p2] ++ List.replicate (5 - (lg_sl [.ref am, .double p1, .double p2]).length) Slot.unset).toArray = ls at hl ⊢
  have hl : lv_has ls 5 [(0, .ref am), (1, .double p1), (3, .double p2)] := hl
  obtain ⟨H, hHe⟩ : ∃ H : Heap, H = s.heap := ⟨_, rfl⟩
  have hP : va_P D vwCl (wM cyD cyI cyJ cyZ am bv bt bl be bdp bi bg bsd bsv bbd bbv br bu bw mn mm mch msp msb mno msn mbn mhr mro mv mt ml med md mi mg msd msv mbd mbv mr mu mw) H := by rw [hHe]; exact hP
  have hS : va_S A s.heap H [] := by rw [hHe]; exact hS
  rw [← hHe]
  refine lv_dload_n hx hb dX4_loss_0 rfl (lv_at hl 1 rfl) ?_
  refine lv_dconst0 hx hb dX4_loss_1 ?_
  refine lv_ldc2d (v := 4621819117588971520) hx hb hown (hts (.constantDouble RX4 81 (4621819117588971520)) (List.mem_of_getElem? (i := 1) rfl)) dX4_loss_2 ?_
  have hPc : va_P D vwCl [] H := hP.sub [] rfl
  have hDc : va_D A [] := hD.sub [] (by decide) rfl
  refine kzE (ws' := (wM cyD cyI cyJ cyZ am bv bt bl be bdp bi bg bsd bsv bbd bbv br bu bw mn mm mch msp msb mno msn mbn mhr mro mv mt ml med md mi mg msd msv mbd mbv mr mu mw)) (wc := []) (wr := [(am, .inr (4, [.int (nI mn), .double mm, .ref bv, .ref bt, .ref bl, .ref be, .ref bdp, .ref bi, .ref bg, .int mch, .double msp, .double msb, .double mno, .int msn, .ref bsd, .ref bsv, .int mbn, .ref bbd, .ref bbv, .int mhr, .int mro, .ref br, .ref bu, .ref bw])), (bv, .inl (cyD, 8192, .inr (.inr (.inr (.inl mv))))), (bt, .inl (cyZ, 8192, .inl mt)), (bl, .inl (cyZ, 32, .inl ml)), (be, .inl (cyZ, 32, .inl med)), (bdp, .inl (cyD, 32, .inr (.inr (.inr (.inl md))))), (bi, .inl (cyD, 32, .inr (.inr (.inr (.inl mi))))), (bg, .inl (cyD, 32, .inr (.inr (.inr (.inl mg))))), (bsd, .inl (cyD, 21, .inr (.inr (.inr (.inl msd))))), (bsv, .inl (cyD, 21, .inr (.inr (.inr (.inl msv))))), (bbd, .inl (cyD, 21, .inr (.inr (.inr (.inl mbd))))), (bbv, .inl (cyD, 21, .inr (.inr (.inr (.inl mbv))))), (br, .inl (cyI, 32, .inl mr)), (bu, .inl (cyJ, 2048, .inr (.inl mu))), (bw, .inl (cyI, 32, .inl mw))]) (w1 := []) (va_runS (As := [.double p1, .double FP.dconst0, .double (4621819117588971520 : UInt64)]) (rest := []) ⟨hx, hb, hml, hown, hts⟩ (c_X4_within (l := l) (D := D) (cyD := cyD) (cyI := cyI) (cyJ := cyJ) (cyZ := cyZ) H.size p1 FP.dconst0 (4621819117588971520 : UInt64)) (va_cwS 3 hts gX4_loss_X4_within rfl rfl rfl (by decide +kernel) ⟨Nat.le_of_ble_eq_true rfl, Nat.le_of_ble_eq_true rfl⟩) (kS hN hK hPc hDc) rfl rfl hl.1 rfl (lv_room (Nat.le_of_ble_eq_true rfl)) dX4_loss_5 ⟨Nat.le_of_ble_eq_true rfl, Nat.le_of_ble_eq_true rfl⟩) hP hD hS hA [] [0, 1, 2, 3, 4, 5, 6, 7, 8, 9, 10, 11, 12, 13, 14] [0, 1, 2, 3, 4, 5, 6, 7, 8, 9, 10, 11, 12, 13, 14] rfl rfl (by decide) (by decide) rfl (by decide) (fun H locs hz_5 hP hD hS => ?_)
  refine lv_if_eq (tgt := 22) hx hb dX4_loss_8 (by decide) (fun c_8 => ?_) (fun c_8 => ?_)
  · refine lv_iconst (v := 0) hx hb dX4_loss_22 (by decide) ?_
    have hF9 : (fX4_loss msp msb p1 p2) = ((0 : Int32), msp, msb) := by rw [fX4_loss, if_pos c_8]
    have hP9 : va_P D vwCl (wM cyD cyI cyJ cyZ am bv bt bl be bdp bi bg bsd bsv bbd bbv br bu bw mn mm mch ((fX4_loss msp msb p1 p2).2.1) ((fX4_loss msp msb p1 p2).2.2) mno msn mbn mhr mro mv mt ml med md mi mg msd msv mbd mbv mr mu mw) H := by rw [hF9]; exact hP
    have hD9 : va_D A (wM cyD cyI cyJ cyZ am bv bt bl be bdp bi bg bsd bsv bbd bbv br bu bw mn mm mch ((fX4_loss msp msb p1 p2).2.1) ((fX4_loss msp msb p1 p2).2.2) mno msn mbn mhr mro mv mt ml med md mi mg msd msv mbd mbv mr mu mw) := by rw [hF9]; exact hD
    exact W.zret (v := (0 : Int32)) hx hb hr (nar_z (Or.inl rfl)) (fun t ht hW => ⟨⟨(0 : Int32), (), rfl, ⟨(by rw [hF9]), (Or.inl rfl)⟩, by rw [ht]; exact hP9, va_K.moved hW.alike hK, hD9⟩, hS.F ht⟩) hS.2.2 dX4_loss_23
  refine lv_dload_n hx hb dX4_loss_11 rfl (lv_at hl 2 rfl) ?_
  refine lv_dconst0 hx hb dX4_loss_12 ?_
  refine lv_ldc2d (v := 4621819117588971520) hx hb hown (hts (.constantDouble RX4 81 (4621819117588971520)) (List.mem_of_getElem? (i := 1) rfl)) dX4_loss_13 ?_
  have hPc : va_P D vwCl [] H := hP.sub [] rfl
  have hDc : va_D A [] := hD.sub [] (by decide) rfl
  refine kzE (ws' := (wM cyD cyI cyJ cyZ am bv bt bl be bdp bi bg bsd bsv bbd bbv br bu bw mn mm mch msp msb mno msn mbn mhr mro mv mt ml med md mi mg msd msv mbd mbv mr mu mw)) (wc := []) (wr := [(am, .inr (4, [.int (nI mn), .double mm, .ref bv, .ref bt, .ref bl, .ref be, .ref bdp, .ref bi, .ref bg, .int mch, .double msp, .double msb, .double mno, .int msn, .ref bsd, .ref bsv, .int mbn, .ref bbd, .ref bbv, .int mhr, .int mro, .ref br, .ref bu, .ref bw])), (bv, .inl (cyD, 8192, .inr (.inr (.inr (.inl mv))))), (bt, .inl (cyZ, 8192, .inl mt)), (bl, .inl (cyZ, 32, .inl ml)), (be, .inl (cyZ, 32, .inl med)), (bdp, .inl (cyD, 32, .inr (.inr (.inr (.inl md))))), (bi, .inl (cyD, 32, .inr (.inr (.inr (.inl mi))))), (bg, .inl (cyD, 32, .inr (.inr (.inr (.inl mg))))), (bsd, .inl (cyD, 21, .inr (.inr (.inr (.inl msd))))), (bsv, .inl (cyD, 21, .inr (.inr (.inr (.inl msv))))), (bbd, .inl (cyD, 21, .inr (.inr (.inr (.inl mbd))))), (bbv, .inl (cyD, 21, .inr (.inr (.inr (.inl mbv))))), (br, .inl (cyI, 32, .inl mr)), (bu, .inl (cyJ, 2048, .inr (.inl mu))), (bw, .inl (cyI, 32, .inl mw))]) (w1 := []) (va_runS (As := [.double p2, .double FP.dconst0, .double (4621819117588971520 : UInt64)]) (rest := []) ⟨hx, hb, hml, hown, hts⟩ (c_X4_within (l := l) (D := D) (cyD := cyD) (cyI := cyI) (cyJ := cyJ) (cyZ := cyZ) H.size p2 FP.dconst0 (4621819117588971520 : UInt64)) (va_cwS 3 hts gX4_loss_X4_within rfl rfl rfl (by decide +kernel) ⟨Nat.le_of_ble_eq_true rfl, Nat.le_of_ble_eq_true rfl⟩) (kS hN hK hPc hDc) rfl rfl hl.1 rfl (lv_room (Nat.le_of_ble_eq_true rfl)) dX4_loss_16 ⟨Nat.le_of_ble_eq_true rfl, Nat.le_of_ble_eq_true rfl⟩) hP hD hS hA [] [0, 1, 2, 3, 4, 5, 6, 7, 8, 9, 10, 11, 12, 13, 14] [0, 1, 2, 3, 4, 5, 6, 7, 8, 9, 10, 11, 12, 13, 14] rfl rfl (by decide) (by decide) rfl (by decide) (fun H locs hz_16 hP hD hS => ?_)
  refine lv_if_ne (tgt := 24) hx hb dX4_loss_19 (by decide) (fun c_19 => ?_) (fun c_19 => ?_)
  · refine lv_aload_n hx hb dX4_loss_24 rfl (lv_at hl 0 rfl) ?_
    refine lv_dload_n hx hb dX4_loss_25 rfl (lv_at hl 1 rfl) ?_
    refine va_put (D := D) (ci := 4) (v := .double p1) (ty := .double) (C := RX4) (T := TX4) (N := 24) hx hb hts (fun _ h => (List.mem_cons_of_mem _ (List.mem_append_right _ h))) tyX4 tyX4_ok nmX4 hown hK hP hD hS 0 rfl rfl 10 (by decide) (hts (.fieldLink RX4 83 "BottomWalksModel" "spread" "D") (List.mem_of_getElem? (i := 2) rfl)) (fun _ h9 => h9) rfl (by decide +kernel) rfl rfl (Nat.le_of_ble_eq_true rfl) dX4_loss_26 (fun H locs hP hD hS => ?_)
    have hP : va_P D vwCl (wM cyD cyI cyJ cyZ am bv bt bl be bdp bi bg bsd bsv bbd bbv br bu bw mn mm mch p1 msb mno msn mbn mhr mro mv mt ml med md mi mg msd msv mbd mbv mr mu mw) H := hP
    have hD : va_D A (wM cyD cyI cyJ cyZ am bv bt bl be bdp bi bg bsd bsv bbd bbv br bu bw mn mm mch p1 msb mno msn mbn mhr mro mv mt ml med md mi mg msd msv mbd mbv mr mu mw) := hD
    refine lv_aload_n hx hb dX4_loss_29 rfl (lv_at hl 0 rfl) ?_
    refine lv_dload_n hx hb dX4_loss_30 rfl (lv_at hl 2 rfl) ?_
    refine va_put (D := D) (ci := 4) (v := .double p2) (ty := .double) (C := RX4) (T := TX4) (N := 24) hx hb hts (fun _ h => (List.mem_cons_of_mem _ (List.mem_append_right _ h))) tyX4 tyX4_ok nmX4 hown hK hP hD hS 0 rfl rfl 11 (by decide) (hts (.fieldLink RX4 86 "BottomWalksModel" "absorb" "D") (List.mem_of_getElem? (i := 3) rfl)) (fun _ h9 => h9) rfl (by decide +kernel) rfl rfl (Nat.le_of_ble_eq_true rfl) dX4_loss_31 (fun H locs hP hD hS => ?_)
    have hP : va_P D vwCl (wM cyD cyI cyJ cyZ am bv bt bl be bdp bi bg bsd bsv bbd bbv br bu bw mn mm mch p1 p2 mno msn mbn mhr mro mv mt ml med md mi mg msd msv mbd mbv mr mu mw) H := hP
    have hD : va_D A (wM cyD cyI cyJ cyZ am bv bt bl be bdp bi bg bsd bsv bbd bbv br bu bw mn mm mch p1 p2 mno msn mbn mhr mro mv mt ml med md mi mg msd msv mbd mbv mr mu mw) := hD
    refine lv_iconst (v := 1) hx hb dX4_loss_34 (by decide) ?_
    have hF9 : (fX4_loss msp msb p1 p2) = ((1 : Int32), p1, p2) := by rw [fX4_loss, if_neg c_8, if_neg c_19]
    have hP9 : va_P D vwCl (wM cyD cyI cyJ cyZ am bv bt bl be bdp bi bg bsd bsv bbd bbv br bu bw mn mm mch ((fX4_loss msp msb p1 p2).2.1) ((fX4_loss msp msb p1 p2).2.2) mno msn mbn mhr mro mv mt ml med md mi mg msd msv mbd mbv mr mu mw) H := by rw [hF9]; exact hP
    have hD9 : va_D A (wM cyD cyI cyJ cyZ am bv bt bl be bdp bi bg bsd bsv bbd bbv br bu bw mn mm mch ((fX4_loss msp msb p1 p2).2.1) ((fX4_loss msp msb p1 p2).2.2) mno msn mbn mhr mro mv mt ml med md mi mg msd msv mbd mbv mr mu mw) := by rw [hF9]; exact hD
    exact W.zret (v := (1 : Int32)) hx hb hr (nar_z (Or.inr rfl)) (fun t ht hW => ⟨⟨(1 : Int32), (), rfl, ⟨(by rw [hF9]), (Or.inr rfl)⟩, by rw [ht]; exact hP9, va_K.moved hW.alike hK, hD9⟩, hS.F ht⟩) hS.2.2 dX4_loss_35
  refine lv_iconst (v := 0) hx hb dX4_loss_22 (by decide) ?_
  have hF9 : (fX4_loss msp msb p1 p2) = ((0 : Int32), msp, msb) := by rw [fX4_loss, if_neg c_8, if_pos c_19]
  have hP9 : va_P D vwCl (wM cyD cyI cyJ cyZ am bv bt bl be bdp bi bg bsd bsv bbd bbv br bu bw mn mm mch ((fX4_loss msp msb p1 p2).2.1) ((fX4_loss msp msb p1 p2).2.2) mno msn mbn mhr mro mv mt ml med md mi mg msd msv mbd mbv mr mu mw) H := by rw [hF9]; exact hP
  have hD9 : va_D A (wM cyD cyI cyJ cyZ am bv bt bl be bdp bi bg bsd bsv bbd bbv br bu bw mn mm mch ((fX4_loss msp msb p1 p2).2.1) ((fX4_loss msp msb p1 p2).2.2) mno msn mbn mhr mro mv mt ml med md mi mg msd msv mbd mbv mr mu mw) := by rw [hF9]; exact hD
  exact W.zret (v := (0 : Int32)) hx hb hr (nar_z (Or.inl rfl)) (fun t ht hW => ⟨⟨(0 : Int32), (), rfl, ⟨(by rw [hF9]), (Or.inl rfl)⟩, by rw [ht]; exact hP9, va_K.moved hW.alike hK, hD9⟩, hS.F ht⟩) hS.2.2 dX4_loss_23
def fX4_noise (mno : UInt64) (p1 : UInt64) : Int32 × UInt64 := if (fX4_within p1 FP.dconst0 (4652007308841189376 : UInt64)) = 0 then ((0 : Int32), mno) else (((1 : Int32), p1))
set_option maxHeartbeats 4000000 in
set_option maxRecDepth 100000 in
theorem c_X4_noise {l : Launch} {D : va_G} {cyD cyI cyJ cyZ : ClassId} (am bv bt bl be bdp bi bg bsd bsv bbd bbv br bu bw : Nat) (mn : Nat) (mm : UInt64) (mch : Int32) (msp : UInt64) (msb : UInt64) (mno : UInt64) (msn : Int32) (mbn : Int32) (mhr : Int32) (mro : Int32) (mv : Nat → UInt64) (mt : Nat → Int32) (ml : Nat → Int32) (med : Nat → Int32) (md : Nat → UInt64) (mi : Nat → UInt64) (mg : Nat → UInt64) (msd : Nat → UInt64) (msv : Nat → UInt64) (mbd : Nat → UInt64) (mbv : Nat → UInt64) (mr : Nat → Int32) (mu : Nat → Int64) (mw : Nat → Int32) (sz : Nat) (p1 : UInt64)  : mZ l yX4_noise wsX4_noise ({ frames := 1, cells := 0, slots := 0, locals := 25 } : Room) D (kT cyD cyI cyJ cyZ) [.ref am, .double p1] (wM cyD cyI cyJ cyZ am bv bt bl be bdp bi bg bsd bsv bbd bbv br bu bw mn mm mch msp msb mno msn mbn mhr mro mv mt ml med md mi mg msd msv mbd mbv mr mu mw) (wM cyD cyI cyJ cyZ am bv bt bl be bdp bi bg bsd bsv bbd bbv br bu bw mn mm mch msp msb ((fX4_noise mno p1).2) msn mbn mhr mro mv mt ml med md mi mg msd msv mbd mbv mr mu mw) sz ((fX4_noise mno p1).1) 0 0 := by
  refine Met.ofW (cc := cX4_noise) (maxL := 3) (ret := (some .boolean)) (by decide) rfl ?_
  intro p e s m args below meth c s₁ B hml hv
  obtain ⟨rfl, hN, hsz, hP, hK, hD0⟩ := hv
  have hx := B.exec
  have hb := B.bytes
  have hr := B.returns
  have hts := atoms_spec (ws := wsX4_noise) B.pre
  have hown : s.vm.findClass RX4 = some m.cls := findClass_of_methodNamed B.named
  have hlocks := B.notSynchronized
  subst hsz
  have hD := hD0.self (sz := s.heap.size)
  generalize hAe : va_A (wM cyD cyI cyJ cyZ am bv bt bl be bdp bi bg bsd bsv bbd bbv br bu bw mn mm mch msp msb mno msn mbn mhr mro mv mt ml med md mi mg msd msv mbd mbv mr mu mw) s.heap.size = A at hD ⊢
  have hA : ∀ q : Nat, s.heap.size ≤ q → A q := fun q h => by rw [← hAe]; exact Or.inr h
  have hS : va_S A s.heap s.heap [] := va_S.rf
  have hP : va_P D vwCl (wM cyD cyI cyJ cyZ am bv bt bl be bdp bi bg bsd bsv bbd bbv br bu bw mn mm mch msp msb mno msn mbn mhr mro mv mt ml med md mi mg msd msv mbd mbv mr mu mw) s.heap := hP
  have hl := lv_entry [.ref am, .double p1] (n := 3) (Nat.le_of_ble_eq_true rfl)
  rw [lg_entry_eq]
  generalize (lg_sl [.ref am, .double p1] ++ List.replicate (3 - (lg_sl [.ref am, .double p1]).length) Slot.unset).toArray = ls at hl ⊢
  have hl : lv_has ls 3 [(0, .ref am), (1, .double p1)] := hl
  obtain ⟨H, hHe⟩ : ∃ H : Heap, H = s.heap := ⟨_, rfl⟩
  have hP : va_P D vwCl (wM cyD cyI cyJ cyZ am bv bt bl be bdp bi bg bsd bsv bbd bbv br bu bw mn mm mch msp msb mno msn mbn mhr mro mv mt ml med md mi mg msd msv mbd mbv mr mu mw) H := by rw [hHe]; exact hP
  have hS : va_S A s.heap H [] := by rw [hHe]; exact hS
  rw [← hHe]
  refine lv_dload_n hx hb dX4_noise_0 rfl (lv_at hl 1 rfl) ?_
  refine lv_dconst0 hx hb dX4_noise_1 ?_
  refine lv_ldc2d (v := 4652007308841189376) hx hb hown (hts (.constantDouble RX4 72 (4652007308841189376)) (List.mem_of_getElem? (i := 1) rfl)) dX4_noise_2 ?_
  have hPc : va_P D vwCl [] H := hP.sub [] rfl
  have hDc : va_D A [] := hD.sub [] (by decide) rfl
  refine kzE (ws' := (wM cyD cyI cyJ cyZ am bv bt bl be bdp bi bg bsd bsv bbd bbv br bu bw mn mm mch msp msb mno msn mbn mhr mro mv mt ml med md mi mg msd msv mbd mbv mr mu mw)) (wc := []) (wr := [(am, .inr (4, [.int (nI mn), .double mm, .ref bv, .ref bt, .ref bl, .ref be, .ref bdp, .ref bi, .ref bg, .int mch, .double msp, .double msb, .double mno, .int msn, .ref bsd, .ref bsv, .int mbn, .ref bbd, .ref bbv, .int mhr, .int mro, .ref br, .ref bu, .ref bw])), (bv, .inl (cyD, 8192, .inr (.inr (.inr (.inl mv))))), (bt, .inl (cyZ, 8192, .inl mt)), (bl, .inl (cyZ, 32, .inl ml)), (be, .inl (cyZ, 32, .inl med)), (bdp, .inl (cyD, 32, .inr (.inr (.inr (.inl md))))), (bi, .inl (cyD, 32, .inr (.inr (.inr (.inl mi))))), (bg, .inl (cyD, 32, .inr (.inr (.inr (.inl mg))))), (bsd, .inl (cyD, 21, .inr (.inr (.inr (.inl msd))))), (bsv, .inl (cyD, 21, .inr (.inr (.inr (.inl msv))))), (bbd, .inl (cyD, 21, .inr (.inr (.inr (.inl mbd))))), (bbv, .inl (cyD, 21, .inr (.inr (.inr (.inl mbv))))), (br, .inl (cyI, 32, .inl mr)), (bu, .inl (cyJ, 2048, .inr (.inl mu))), (bw, .inl (cyI, 32, .inl mw))]) (w1 := []) (va_runS (As := [.double p1, .double FP.dconst0, .double (4652007308841189376 : UInt64)]) (rest := []) ⟨hx, hb, hml, hown, hts⟩ (c_X4_within (l := l) (D := D) (cyD := cyD) (cyI := cyI) (cyJ := cyJ) (cyZ := cyZ) H.size p1 FP.dconst0 (4652007308841189376 : UInt64)) (va_cwS 3 hts gX4_noise_X4_within rfl rfl rfl (by decide +kernel) ⟨Nat.le_of_ble_eq_true rfl, Nat.le_of_ble_eq_true rfl⟩) (kS hN hK hPc hDc) rfl rfl hl.1 rfl (lv_room (Nat.le_of_ble_eq_true rfl)) dX4_noise_5 ⟨Nat.le_of_ble_eq_true rfl, Nat.le_of_ble_eq_true rfl⟩) hP hD hS hA [] [0, 1, 2, 3, 4, 5, 6, 7, 8, 9, 10, 11, 12, 13, 14] [0, 1, 2, 3, 4, 5, 6, 7, 8, 9, 10, 11, 12, 13, 14] rfl rfl (by decide) (by decide) rfl (by decide) (fun H locs hz_5 hP hD hS => ?_)
  refine lv_if_ne (tgt := 13) hx hb dX4_noise_8 (by decide) (fun c_8 => ?_) (fun c_8 => ?_)
  · refine lv_aload_n hx hb dX4_noise_13 rfl (lv_at hl 0 rfl) ?_
    refine lv_dload_n hx hb dX4_noise_14 rfl (lv_at hl 1 rfl) ?_
    refine va_put (D := D) (ci := 4) (v := .double p1) (ty := .double) (C := RX4) (T := TX4) (N := 24) hx hb hts (fun _ h => (List.mem_cons_of_mem _ (List.mem_append_right _ h))) tyX4 tyX4_ok nmX4 hown hK hP hD hS 0 rfl rfl 12 (by decide) (hts (.fieldLink RX4 89 "BottomWalksModel" "noise" "D") (List.mem_of_getElem? (i := 2) rfl)) (fun _ h9 => h9) rfl (by decide +kernel) rfl rfl (Nat.le_of_ble_eq_true rfl) dX4_noise_15 (fun H locs hP hD hS => ?_)
    have hP : va_P D vwCl (wM cyD cyI cyJ cyZ am bv bt bl be bdp bi bg bsd bsv bbd bbv br bu bw mn mm mch msp msb p1 msn mbn mhr mro mv mt ml med md mi mg msd msv mbd mbv mr mu mw) H := hP
    have hD : va_D A (wM cyD cyI cyJ cyZ am bv bt bl be bdp bi bg bsd bsv bbd bbv br bu bw mn mm mch msp msb p1 msn mbn mhr mro mv mt ml med md mi mg msd msv mbd mbv mr mu mw) := hD
    refine lv_iconst (v := 1) hx hb dX4_noise_18 (by decide) ?_
    have hF9 : (fX4_noise mno p1) = ((1 : Int32), p1) := by rw [fX4_noise, if_neg c_8]
    have hP9 : va_P D vwCl (wM cyD cyI cyJ cyZ am bv bt bl be bdp bi bg bsd bsv bbd bbv br bu bw mn mm mch msp msb ((fX4_noise mno p1).2) msn mbn mhr mro mv mt ml med md mi mg msd msv mbd mbv mr mu mw) H := by rw [hF9]; exact hP
    have hD9 : va_D A (wM cyD cyI cyJ cyZ am bv bt bl be bdp bi bg bsd bsv bbd bbv br bu bw mn mm mch msp msb ((fX4_noise mno p1).2) msn mbn mhr mro mv mt ml med md mi mg msd msv mbd mbv mr mu mw) := by rw [hF9]; exact hD
    exact W.zret (v := (1 : Int32)) hx hb hr (nar_z (Or.inr rfl)) (fun t ht hW => ⟨⟨(1 : Int32), (), rfl, ⟨(by rw [hF9]), (Or.inr rfl)⟩, by rw [ht]; exact hP9, va_K.moved hW.alike hK, hD9⟩, hS.F ht⟩) hS.2.2 dX4_noise_19
  refine lv_iconst (v := 0) hx hb dX4_noise_11 (by decide) ?_
  have hF9 : (fX4_noise mno p1) = ((0 : Int32), mno) := by rw [fX4_noise, if_pos c_8]
  have hP9 : va_P D vwCl (wM cyD cyI cyJ cyZ am bv bt bl be bdp bi bg bsd bsv bbd bbv br bu bw mn mm mch msp msb ((fX4_noise mno p1).2) msn mbn mhr mro mv mt ml med md mi mg msd msv mbd mbv mr mu mw) H := by rw [hF9]; exact hP
  have hD9 : va_D A (wM cyD cyI cyJ cyZ am bv bt bl be bdp bi bg bsd bsv bbd bbv br bu bw mn mm mch msp msb ((fX4_noise mno p1).2) msn mbn mhr mro mv mt ml med md mi mg msd msv mbd mbv mr mu mw) := by rw [hF9]; exact hD
  exact W.zret (v := (0 : Int32)) hx hb hr (nar_z (Or.inl rfl)) (fun t ht hW => ⟨⟨(0 : Int32), (), rfl, ⟨(by rw [hF9]), (Or.inl rfl)⟩, by rw [ht]; exact hP9, va_K.moved hW.alike hK, hD9⟩, hS.F ht⟩) hS.2.2 dX4_noise_12
def fX4_edit (med : Nat → Int32) (md : Nat → UInt64) (p1 : Int32) (p2 : UInt64) : Int32 × (Nat → Int32) × (Nat → UInt64) := if (fX4_isPing p1) = 0 then ((0 : Int32), med, md) else (if (fX4_within p2 FP.dconst0 (4666723172467343360 : UInt64)) = 0 then ((0 : Int32), med, md) else (((1 : Int32), (upd med p1.toNatClampNeg (vp_nar .boolean (1 : Int32))), (vf_upd md p1.toNatClampNeg p2))))
set_option maxHeartbeats 4000000 in
set_option maxRecDepth 100000 in
theorem c_X4_edit {l : Launch} {D : va_G} {cyD cyI cyJ cyZ : ClassId} (am bv bt bl be bdp bi bg bsd bsv bbd bbv br bu bw : Nat) (mn : Nat) (mm : UInt64) (mch : Int32) (msp : UInt64) (msb : UInt64) (mno : UInt64) (msn : Int32) (mbn : Int32) (mhr : Int32) (mro : Int32) (mv : Nat → UInt64) (mt : Nat → Int32) (ml : Nat → Int32) (med : Nat → Int32) (md : Nat → UInt64) (mi : Nat → UInt64) (mg : Nat → UInt64) (msd : Nat → UInt64) (msv : Nat → UInt64) (mbd : Nat → UInt64) (mbv : Nat → UInt64) (mr : Nat → Int32) (mu : Nat → Int64) (mw : Nat → Int32) (sz : Nat) (p1 : Int32) (p2 : UInt64)  : mZ l yX4_edit wsX4_edit ({ frames := 1, cells := 0, slots := 0, locals := 25 } : Room) D (kT cyD cyI cyJ cyZ) [.ref am, .int p1, .double p2] (wM cyD cyI cyJ cyZ am bv bt bl be bdp bi bg bsd bsv bbd bbv br bu bw mn mm mch msp msb mno msn mbn mhr mro mv mt ml med md mi mg msd msv mbd mbv mr mu mw) (wM cyD cyI cyJ cyZ am bv bt bl be bdp bi bg bsd bsv bbd bbv br bu bw mn mm mch msp msb mno msn mbn mhr mro mv mt ml ((fX4_edit med md p1 p2).2.1) ((fX4_edit med md p1 p2).2.2) mi mg msd msv mbd mbv mr mu mw) sz ((fX4_edit med md p1 p2).1) 0 0 := by
  refine Met.ofW (cc := cX4_edit) (maxL := 4) (ret := (some .boolean)) (by decide) rfl ?_
  intro p e s m args below meth c s₁ B hml hv
  obtain ⟨rfl, hN, hsz, hP, hK, hD0⟩ := hv
  have hx := B.exec
  have hb := B.bytes
  have hr := B.returns
  have hts := atoms_spec (ws := wsX4_edit) B.pre
  have hown : s.vm.findClass RX4 = some m.cls := findClass_of_methodNamed B.named
  have hlocks := B.notSynchronized
  subst hsz
  have hD := hD0.self (sz := s.heap.size)
  generalize hAe : va_A (wM cyD cyI cyJ cyZ am bv bt bl be bdp bi bg bsd bsv bbd bbv br bu bw mn mm mch msp msb mno msn mbn mhr mro mv mt ml med md mi mg msd msv mbd mbv mr mu mw) s.heap.size = A at hD ⊢
  have hA : ∀ q : Nat, s.heap.size ≤ q → A q := fun q h => by rw [← hAe]; exact Or.inr h
  have hS : va_S A s.heap s.heap [] := va_S.rf
  have hP : va_P D vwCl (wM cyD cyI cyJ cyZ am bv bt bl be bdp bi bg bsd bsv bbd bbv br bu bw mn mm mch msp msb mno msn mbn mhr mro mv mt ml med md mi mg msd msv mbd mbv mr mu mw) s.heap := hP
  have hl := lv_entry [.ref am, .int p1, .double p2] (n := 4) (Nat.le_of_ble_eq_true rfl)
  rw [lg_entry_eq]
  generalize (lg_sl [.ref am, .int p1, .double p2] ++ List.replicate (4 - (lg_sl [.ref am, .int p1, .double p2]).length) Slot.unset).toArray = ls at hl ⊢
  have hl : lv_has ls 4 [(0, .ref am), (1, .int p1), (2, .double p2)] := hl
  obtain ⟨H, hHe⟩ : ∃ H : Heap, H = s.heap := ⟨_, rfl⟩
  have hP : va_P D vwCl (wM cyD cyI cyJ cyZ am bv bt bl be bdp bi bg bsd bsv bbd bbv br bu bw mn mm mch msp msb mno msn mbn mhr mro mv mt ml med md mi mg msd msv mbd mbv mr mu mw) H := by rw [hHe]; exact hP
  have hS : va_S A s.heap H [] := by rw [hHe]; exact hS
  rw [← hHe]
  refine lv_iload_n hx hb dX4_edit_0 rfl (lv_at hl 1 rfl) ?_
  have hPc : va_P D vwCl [] H := hP.sub [] rfl
  have hDc : va_D A [] := hD.sub [] (by decide) rfl
  refine kzE (ws' := (wM cyD cyI cyJ cyZ am bv bt bl be bdp bi bg bsd bsv bbd bbv br bu bw mn mm mch msp msb mno msn mbn mhr mro mv mt ml med md mi mg msd msv mbd mbv mr mu mw)) (wc := []) (wr := [(am, .inr (4, [.int (nI mn), .double mm, .ref bv, .ref bt, .ref bl, .ref be, .ref bdp, .ref bi, .ref bg, .int mch, .double msp, .double msb, .double mno, .int msn, .ref bsd, .ref bsv, .int mbn, .ref bbd, .ref bbv, .int mhr, .int mro, .ref br, .ref bu, .ref bw])), (bv, .inl (cyD, 8192, .inr (.inr (.inr (.inl mv))))), (bt, .inl (cyZ, 8192, .inl mt)), (bl, .inl (cyZ, 32, .inl ml)), (be, .inl (cyZ, 32, .inl med)), (bdp, .inl (cyD, 32, .inr (.inr (.inr (.inl md))))), (bi, .inl (cyD, 32, .inr (.inr (.inr (.inl mi))))), (bg, .inl (cyD, 32, .inr (.inr (.inr (.inl mg))))), (bsd, .inl (cyD, 21, .inr (.inr (.inr (.inl msd))))), (bsv, .inl (cyD, 21, .inr (.inr (.inr (.inl msv))))), (bbd, .inl (cyD, 21, .inr (.inr (.inr (.inl mbd))))), (bbv, .inl (cyD, 21, .inr (.inr (.inr (.inl mbv))))), (br, .inl (cyI, 32, .inl mr)), (bu, .inl (cyJ, 2048, .inr (.inl mu))), (bw, .inl (cyI, 32, .inl mw))]) (w1 := []) (va_runS (As := [.int p1]) (rest := []) ⟨hx, hb, hml, hown, hts⟩ (c_X4_isPing (l := l) (D := D) (cyD := cyD) (cyI := cyI) (cyJ := cyJ) (cyZ := cyZ) H.size p1) (va_cwS 1 hts gX4_edit_X4_isPing rfl rfl rfl (by decide +kernel) ⟨Nat.le_of_ble_eq_true rfl, Nat.le_of_ble_eq_true rfl⟩) (kS hN hK hPc hDc) rfl rfl hl.1 rfl (lv_room (Nat.le_of_ble_eq_true rfl)) dX4_edit_1 ⟨Nat.le_of_ble_eq_true rfl, Nat.le_of_ble_eq_true rfl⟩) hP hD hS hA [] [0, 1, 2, 3, 4, 5, 6, 7, 8, 9, 10, 11, 12, 13, 14] [0, 1, 2, 3, 4, 5, 6, 7, 8, 9, 10, 11, 12, 13, 14] rfl rfl (by decide) (by decide) rfl (by decide) (fun H locs hz_1 hP hD hS => ?_)
  refine lv_if_eq (tgt := 18) hx hb dX4_edit_4 (by decide) (fun c_4 => ?_) (fun c_4 => ?_)
  · refine lv_iconst (v := 0) hx hb dX4_edit_18 (by decide) ?_
    have hF9 : (fX4_edit med md p1 p2) = ((0 : Int32), med, md) := by rw [fX4_edit, if_pos c_4]
    have hP9 : va_P D vwCl (wM cyD cyI cyJ cyZ am bv bt bl be bdp bi bg bsd bsv bbd bbv br bu bw mn mm mch msp msb mno msn mbn mhr mro mv mt ml ((fX4_edit med md p1 p2).2.1) ((fX4_edit med md p1 p2).2.2) mi mg msd msv mbd mbv mr mu mw) H := by rw [hF9]; exact hP
    have hD9 : va_D A (wM cyD cyI cyJ cyZ am bv bt bl be bdp bi bg bsd bsv bbd bbv br bu bw mn mm mch msp msb mno msn mbn mhr mro mv mt ml ((fX4_edit med md p1 p2).2.1) ((fX4_edit med md p1 p2).2.2) mi mg msd msv mbd mbv mr mu mw) := by rw [hF9]; exact hD
    exact W.zret (v := (0 : Int32)) hx hb hr (nar_z (Or.inl rfl)) (fun t ht hW => ⟨⟨(0 : Int32), (), rfl, ⟨(by rw [hF9]), (Or.inl rfl)⟩, by rw [ht]; exact hP9, va_K.moved hW.alike hK, hD9⟩, hS.F ht⟩) hS.2.2 dX4_edit_19
  refine lv_dload_n hx hb dX4_edit_7 rfl (lv_at hl 2 rfl) ?_
  refine lv_dconst0 hx hb dX4_edit_8 ?_
  refine lv_ldc2d (v := 4666723172467343360) hx hb hown (hts (.constantDouble RX4 92 (4666723172467343360)) (List.mem_of_getElem? (i := 1) rfl)) dX4_edit_9 ?_
  have hPc : va_P D vwCl [] H := hP.sub [] rfl
  have hDc : va_D A [] := hD.sub [] (by decide) rfl
  refine kzE (ws' := (wM cyD cyI cyJ cyZ am bv bt bl be bdp bi bg bsd bsv bbd bbv br bu bw mn mm mch msp msb mno msn mbn mhr mro mv mt ml med md mi mg msd msv mbd mbv mr mu mw)) (wc := []) (wr := [(am, .inr (4, [.int (nI mn), .double mm, .ref bv, .ref bt, .ref bl, .ref be, .ref bdp, .ref bi, .ref bg, .int mch, .double msp, .double msb, .double mno, .int msn, .ref bsd, .ref bsv, .int mbn, .ref bbd, .ref bbv, .int mhr, .int mro, .ref br, .ref bu, .ref bw])), (bv, .inl (cyD, 8192, .inr (.inr (.inr (.inl mv))))), (bt, .inl (cyZ, 8192, .inl mt)), (bl, .inl (cyZ, 32, .inl ml)), (be, .inl (cyZ, 32, .inl med)), (bdp, .inl (cyD, 32, .inr (.inr (.inr (.inl md))))), (bi, .inl (cyD, 32, .inr (.inr (.inr (.inl mi))))), (bg, .inl (cyD, 32, .inr (.inr (.inr (.inl mg))))), (bsd, .inl (cyD, 21, .inr (.inr (.inr (.inl msd))))), (bsv, .inl (cyD, 21, .inr (.inr (.inr (.inl msv))))), (bbd, .inl (cyD, 21, .inr (.inr (.inr (.inl mbd))))), (bbv, .inl (cyD, 21, .inr (.inr (.inr (.inl mbv))))), (br, .inl (cyI, 32, .inl mr)), (bu, .inl (cyJ, 2048, .inr (.inl mu))), (bw, .inl (cyI, 32, .inl mw))]) (w1 := []) (va_runS (As := [.double p2, .double FP.dconst0, .double (4666723172467343360 : UInt64)]) (rest := []) ⟨hx, hb, hml, hown, hts⟩ (c_X4_within (l := l) (D := D) (cyD := cyD) (cyI := cyI) (cyJ := cyJ) (cyZ := cyZ) H.size p2 FP.dconst0 (4666723172467343360 : UInt64)) (va_cwS 3 hts gX4_edit_X4_within rfl rfl rfl (by decide +kernel) ⟨Nat.le_of_ble_eq_true rfl, Nat.le_of_ble_eq_true rfl⟩) (kS hN hK hPc hDc) rfl rfl hl.1 rfl (lv_room (Nat.le_of_ble_eq_true rfl)) dX4_edit_12 ⟨Nat.le_of_ble_eq_true rfl, Nat.le_of_ble_eq_true rfl⟩) hP hD hS hA [] [0, 1, 2, 3, 4, 5, 6, 7, 8, 9, 10, 11, 12, 13, 14] [0, 1, 2, 3, 4, 5, 6, 7, 8, 9, 10, 11, 12, 13, 14] rfl rfl (by decide) (by decide) rfl (by decide) (fun H locs hz_12 hP hD hS => ?_)
  refine lv_if_ne (tgt := 20) hx hb dX4_edit_15 (by decide) (fun c_15 => ?_) (fun c_15 => ?_)
  · refine lv_aload_n hx hb dX4_edit_20 rfl (lv_at hl 0 rfl) ?_
    refine va_get (D := D) (ci := 4) (v := .ref be) (C := RX4) (T := TX4) (N := 24) hx hb hts (fun _ h => (List.mem_cons_of_mem _ (List.mem_append_right _ h))) hown hK hP 0 rfl rfl 5 (by decide) (hts (.fieldLink RX4 20 "BottomWalksModel" "isEdited" "[Z") (List.mem_of_getElem? (i := 2) rfl)) (fun _ h9 => h9) rfl dX4_edit_21 ?_
    refine lv_iload_n hx hb dX4_edit_24 rfl (lv_at hl 1 rfl) ?_
    refine lv_iconst (v := 1) hx hb dX4_edit_25 (by decide) ?_
    refine va_zast hx hb hK hP hD hS 4 3 rfl rfl (pingM_in c_4) dX4_edit_26 (fun H locs hP hD hS => ?_)
    have hP : va_P D vwCl (wM cyD cyI cyJ cyZ am bv bt bl be bdp bi bg bsd bsv bbd bbv br bu bw mn mm mch msp msb mno msn mbn mhr mro mv mt ml (upd med p1.toNatClampNeg (vp_nar .boolean (1 : Int32))) md mi mg msd msv mbd mbv mr mu mw) H := hP
    have hD : va_D A (wM cyD cyI cyJ cyZ am bv bt bl be bdp bi bg bsd bsv bbd bbv br bu bw mn mm mch msp msb mno msn mbn mhr mro mv mt ml (upd med p1.toNatClampNeg (vp_nar .boolean (1 : Int32))) md mi mg msd msv mbd mbv mr mu mw) := hD
    refine lv_aload_n hx hb dX4_edit_27 rfl (lv_at hl 0 rfl) ?_
    refine va_get (D := D) (ci := 4) (v := .ref bdp) (C := RX4) (T := TX4) (N := 24) hx hb hts (fun _ h => (List.mem_cons_of_mem _ (List.mem_append_right _ h))) hown hK hP 0 rfl rfl 6 (by decide) (hts (.fieldLink RX4 23 "BottomWalksModel" "depths" "[D") (List.mem_of_getElem? (i := 3) rfl)) (fun _ h9 => h9) rfl dX4_edit_28 ?_
    refine lv_iload_n hx hb dX4_edit_31 rfl (lv_at hl 1 rfl) ?_
    refine lv_dload_n hx hb dX4_edit_32 rfl (lv_at hl 2 rfl) ?_
    refine va_dast hx hb hK hP hD hS 5 0 rfl rfl (pingM_in c_4) dX4_edit_33 (fun H locs hP hD hS => ?_)
    have hP : va_P D vwCl (wM cyD cyI cyJ cyZ am bv bt bl be bdp bi bg bsd bsv bbd bbv br bu bw mn mm mch msp msb mno msn mbn mhr mro mv mt ml (upd med p1.toNatClampNeg (vp_nar .boolean (1 : Int32))) (vf_upd md p1.toNatClampNeg p2) mi mg msd msv mbd mbv mr mu mw) H := hP
    have hD : va_D A (wM cyD cyI cyJ cyZ am bv bt bl be bdp bi bg bsd bsv bbd bbv br bu bw mn mm mch msp msb mno msn mbn mhr mro mv mt ml (upd med p1.toNatClampNeg (vp_nar .boolean (1 : Int32))) (vf_upd md p1.toNatClampNeg p2) mi mg msd msv mbd mbv mr mu mw) := hD
    refine lv_iconst (v := 1) hx hb dX4_edit_34 (by decide) ?_
    have hF9 : (fX4_edit med md p1 p2) = ((1 : Int32), (upd med p1.toNatClampNeg (vp_nar .boolean (1 : Int32))), (vf_upd md p1.toNatClampNeg p2)) := by rw [fX4_edit, if_neg c_4, if_neg c_15]
    have hP9 : va_P D vwCl (wM cyD cyI cyJ cyZ am bv bt bl be bdp bi bg bsd bsv bbd bbv br bu bw mn mm mch msp msb mno msn mbn mhr mro mv mt ml ((fX4_edit med md p1 p2).2.1) ((fX4_edit med md p1 p2).2.2) mi mg msd msv mbd mbv mr mu mw) H := by rw [hF9]; exact hP
    have hD9 : va_D A (wM cyD cyI cyJ cyZ am bv bt bl be bdp bi bg bsd bsv bbd bbv br bu bw mn mm mch msp msb mno msn mbn mhr mro mv mt ml ((fX4_edit med md p1 p2).2.1) ((fX4_edit med md p1 p2).2.2) mi mg msd msv mbd mbv mr mu mw) := by rw [hF9]; exact hD
    exact W.zret (v := (1 : Int32)) hx hb hr (nar_z (Or.inr rfl)) (fun t ht hW => ⟨⟨(1 : Int32), (), rfl, ⟨(by rw [hF9]), (Or.inr rfl)⟩, by rw [ht]; exact hP9, va_K.moved hW.alike hK, hD9⟩, hS.F ht⟩) hS.2.2 dX4_edit_35
  refine lv_iconst (v := 0) hx hb dX4_edit_18 (by decide) ?_
  have hF9 : (fX4_edit med md p1 p2) = ((0 : Int32), med, md) := by rw [fX4_edit, if_neg c_4, if_pos c_15]
  have hP9 : va_P D vwCl (wM cyD cyI cyJ cyZ am bv bt bl be bdp bi bg bsd bsv bbd bbv br bu bw mn mm mch msp msb mno msn mbn mhr mro mv mt ml ((fX4_edit med md p1 p2).2.1) ((fX4_edit med md p1 p2).2.2) mi mg msd msv mbd mbv mr mu mw) H := by rw [hF9]; exact hP
  have hD9 : va_D A (wM cyD cyI cyJ cyZ am bv bt bl be bdp bi bg bsd bsv bbd bbv br bu bw mn mm mch msp msb mno msn mbn mhr mro mv mt ml ((fX4_edit med md p1 p2).2.1) ((fX4_edit med md p1 p2).2.2) mi mg msd msv mbd mbv mr mu mw) := by rw [hF9]; exact hD
  exact W.zret (v := (0 : Int32)) hx hb hr (nar_z (Or.inl rfl)) (fun t ht hW => ⟨⟨(0 : Int32), (), rfl, ⟨(by rw [hF9]), (Or.inl rfl)⟩, by rw [ht]; exact hP9, va_K.moved hW.alike hK, hD9⟩, hS.F ht⟩) hS.2.2 dX4_edit_19
def fX4_lost (ml : Nat → Int32) (p1 : Int32) : Int32 × (Nat → Int32) := if (fX4_isPing p1) = 0 then ((0 : Int32), ml) else (((1 : Int32), (upd ml p1.toNatClampNeg (vp_nar .boolean (1 : Int32)))))
set_option maxHeartbeats 4000000 in
set_option maxRecDepth 100000 in
theorem c_X4_lost {l : Launch} {D : va_G} {cyD cyI cyJ cyZ : ClassId} (am bv bt bl be bdp bi bg bsd bsv bbd bbv br bu bw : Nat) (mn : Nat) (mm : UInt64) (mch : Int32) (msp : UInt64) (msb : UInt64) (mno : UInt64) (msn : Int32) (mbn : Int32) (mhr : Int32) (mro : Int32) (mv : Nat → UInt64) (mt : Nat → Int32) (ml : Nat → Int32) (med : Nat → Int32) (md : Nat → UInt64) (mi : Nat → UInt64) (mg : Nat → UInt64) (msd : Nat → UInt64) (msv : Nat → UInt64) (mbd : Nat → UInt64) (mbv : Nat → UInt64) (mr : Nat → Int32) (mu : Nat → Int64) (mw : Nat → Int32) (sz : Nat) (p1 : Int32)  : mZ l yX4_lost wsX4_lost ({ frames := 1, cells := 0, slots := 0, locals := 20 } : Room) D (kT cyD cyI cyJ cyZ) [.ref am, .int p1] (wM cyD cyI cyJ cyZ am bv bt bl be bdp bi bg bsd bsv bbd bbv br bu bw mn mm mch msp msb mno msn mbn mhr mro mv mt ml med md mi mg msd msv mbd mbv mr mu mw) (wM cyD cyI cyJ cyZ am bv bt bl be bdp bi bg bsd bsv bbd bbv br bu bw mn mm mch msp msb mno msn mbn mhr mro mv mt ((fX4_lost ml p1).2) med md mi mg msd msv mbd mbv mr mu mw) sz ((fX4_lost ml p1).1) 0 0 := by
  refine Met.ofW (cc := cX4_lost) (maxL := 2) (ret := (some .boolean)) (by decide) rfl ?_
  intro p e s m args below meth c s₁ B hml hv
  obtain ⟨rfl, hN, hsz, hP, hK, hD0⟩ := hv
  have hx := B.exec
  have hb := B.bytes
  have hr := B.returns
  have hts := atoms_spec (ws := wsX4_lost) B.pre
  have hown : s.vm.findClass RX4 = some m.cls := findClass_of_methodNamed B.named
  have hlocks := B.notSynchronized
  subst hsz
  have hD := hD0.self (sz := s.heap.size)
  generalize hAe : va_A (wM cyD cyI cyJ cyZ am bv bt bl be bdp bi bg bsd bsv bbd bbv br bu bw mn mm mch msp msb mno msn mbn mhr mro mv mt ml med md mi mg msd msv mbd mbv mr mu mw) s.heap.size = A at hD ⊢
  have hA : ∀ q : Nat, s.heap.size ≤ q → A q := fun q h => by rw [← hAe]; exact Or.inr h
  have hS : va_S A s.heap s.heap [] := va_S.rf
  have hP : va_P D vwCl (wM cyD cyI cyJ cyZ am bv bt bl be bdp bi bg bsd bsv bbd bbv br bu bw mn mm mch msp msb mno msn mbn mhr mro mv mt ml med md mi mg msd msv mbd mbv mr mu mw) s.heap := hP
  have hl := lv_entry [.ref am, .int p1] (n := 2) (Nat.le_of_ble_eq_true rfl)
  rw [lg_entry_eq]
  generalize (lg_sl [.ref am, .int p1] ++ List.replicate (2 - (lg_sl [.ref am, .int p1]).length) Slot.unset).toArray = ls at hl ⊢
  have hl : lv_has ls 2 [(0, .ref am), (1, .int p1)] := hl
  obtain ⟨H, hHe⟩ : ∃ H : Heap, H = s.heap := ⟨_, rfl⟩
  have hP : va_P D vwCl (wM cyD cyI cyJ cyZ am bv bt bl be bdp bi bg bsd bsv bbd bbv br bu bw mn mm mch msp msb mno msn mbn mhr mro mv mt ml med md mi mg msd msv mbd mbv mr mu mw) H := by rw [hHe]; exact hP
  have hS : va_S A s.heap H [] := by rw [hHe]; exact hS
  rw [← hHe]
  refine lv_iload_n hx hb dX4_lost_0 rfl (lv_at hl 1 rfl) ?_
  have hPc : va_P D vwCl [] H := hP.sub [] rfl
  have hDc : va_D A [] := hD.sub [] (by decide) rfl
  refine kzE (ws' := (wM cyD cyI cyJ cyZ am bv bt bl be bdp bi bg bsd bsv bbd bbv br bu bw mn mm mch msp msb mno msn mbn mhr mro mv mt ml med md mi mg msd msv mbd mbv mr mu mw)) (wc := []) (wr := [(am, .inr (4, [.int (nI mn), .double mm, .ref bv, .ref bt, .ref bl, .ref be, .ref bdp, .ref bi, .ref bg, .int mch, .double msp, .double msb, .double mno, .int msn, .ref bsd, .ref bsv, .int mbn, .ref bbd, .ref bbv, .int mhr, .int mro, .ref br, .ref bu, .ref bw])), (bv, .inl (cyD, 8192, .inr (.inr (.inr (.inl mv))))), (bt, .inl (cyZ, 8192, .inl mt)), (bl, .inl (cyZ, 32, .inl ml)), (be, .inl (cyZ, 32, .inl med)), (bdp, .inl (cyD, 32, .inr (.inr (.inr (.inl md))))), (bi, .inl (cyD, 32, .inr (.inr (.inr (.inl mi))))), (bg, .inl (cyD, 32, .inr (.inr (.inr (.inl mg))))), (bsd, .inl (cyD, 21, .inr (.inr (.inr (.inl msd))))), (bsv, .inl (cyD, 21, .inr (.inr (.inr (.inl msv))))), (bbd, .inl (cyD, 21, .inr (.inr (.inr (.inl mbd))))), (bbv, .inl (cyD, 21, .inr (.inr (.inr (.inl mbv))))), (br, .inl (cyI, 32, .inl mr)), (bu, .inl (cyJ, 2048, .inr (.inl mu))), (bw, .inl (cyI, 32, .inl mw))]) (w1 := []) (va_runS (As := [.int p1]) (rest := []) ⟨hx, hb, hml, hown, hts⟩ (c_X4_isPing (l := l) (D := D) (cyD := cyD) (cyI := cyI) (cyJ := cyJ) (cyZ := cyZ) H.size p1) (va_cwS 1 hts gX4_lost_X4_isPing rfl rfl rfl (by decide +kernel) ⟨Nat.le_of_ble_eq_true rfl, Nat.le_of_ble_eq_true rfl⟩) (kS hN hK hPc hDc) rfl rfl hl.1 rfl (lv_room (Nat.le_of_ble_eq_true rfl)) dX4_lost_1 ⟨Nat.le_of_ble_eq_true rfl, Nat.le_of_ble_eq_true rfl⟩) hP hD hS hA [] [0, 1, 2, 3, 4, 5, 6, 7, 8, 9, 10, 11, 12, 13, 14] [0, 1, 2, 3, 4, 5, 6, 7, 8, 9, 10, 11, 12, 13, 14] rfl rfl (by decide) (by decide) rfl (by decide) (fun H locs hz_1 hP hD hS => ?_)
  refine lv_if_ne (tgt := 9) hx hb dX4_lost_4 (by decide) (fun c_4 => ?_) (fun c_4 => ?_)
  · refine lv_aload_n hx hb dX4_lost_9 rfl (lv_at hl 0 rfl) ?_
    refine va_get (D := D) (ci := 4) (v := .ref bl) (C := RX4) (T := TX4) (N := 24) hx hb hts (fun _ h => (List.mem_cons_of_mem _ (List.mem_append_right _ h))) hown hK hP 0 rfl rfl 4 (by decide) (hts (.fieldLink RX4 17 "BottomWalksModel" "isLost" "[Z") (List.mem_of_getElem? (i := 1) rfl)) (fun _ h9 => h9) rfl dX4_lost_10 ?_
    refine lv_iload_n hx hb dX4_lost_13 rfl (lv_at hl 1 rfl) ?_
    refine lv_iconst (v := 1) hx hb dX4_lost_14 (by decide) ?_
    refine va_zast hx hb hK hP hD hS 3 3 rfl rfl (pingM_in c_4) dX4_lost_15 (fun H locs hP hD hS => ?_)
    have hP : va_P D vwCl (wM cyD cyI cyJ cyZ am bv bt bl be bdp bi bg bsd bsv bbd bbv br bu bw mn mm mch msp msb mno msn mbn mhr mro mv mt (upd ml p1.toNatClampNeg (vp_nar .boolean (1 : Int32))) med md mi mg msd msv mbd mbv mr mu mw) H := hP
    have hD : va_D A (wM cyD cyI cyJ cyZ am bv bt bl be bdp bi bg bsd bsv bbd bbv br bu bw mn mm mch msp msb mno msn mbn mhr mro mv mt (upd ml p1.toNatClampNeg (vp_nar .boolean (1 : Int32))) med md mi mg msd msv mbd mbv mr mu mw) := hD
    refine lv_iconst (v := 1) hx hb dX4_lost_16 (by decide) ?_
    have hF9 : (fX4_lost ml p1) = ((1 : Int32), (upd ml p1.toNatClampNeg (vp_nar .boolean (1 : Int32)))) := by rw [fX4_lost, if_neg c_4]
    have hP9 : va_P D vwCl (wM cyD cyI cyJ cyZ am bv bt bl be bdp bi bg bsd bsv bbd bbv br bu bw mn mm mch msp msb mno msn mbn mhr mro mv mt ((fX4_lost ml p1).2) med md mi mg msd msv mbd mbv mr mu mw) H := by rw [hF9]; exact hP
    have hD9 : va_D A (wM cyD cyI cyJ cyZ am bv bt bl be bdp bi bg bsd bsv bbd bbv br bu bw mn mm mch msp msb mno msn mbn mhr mro mv mt ((fX4_lost ml p1).2) med md mi mg msd msv mbd mbv mr mu mw) := by rw [hF9]; exact hD
    exact W.zret (v := (1 : Int32)) hx hb hr (nar_z (Or.inr rfl)) (fun t ht hW => ⟨⟨(1 : Int32), (), rfl, ⟨(by rw [hF9]), (Or.inr rfl)⟩, by rw [ht]; exact hP9, va_K.moved hW.alike hK, hD9⟩, hS.F ht⟩) hS.2.2 dX4_lost_17
  refine lv_iconst (v := 0) hx hb dX4_lost_7 (by decide) ?_
  have hF9 : (fX4_lost ml p1) = ((0 : Int32), ml) := by rw [fX4_lost, if_pos c_4]
  have hP9 : va_P D vwCl (wM cyD cyI cyJ cyZ am bv bt bl be bdp bi bg bsd bsv bbd bbv br bu bw mn mm mch msp msb mno msn mbn mhr mro mv mt ((fX4_lost ml p1).2) med md mi mg msd msv mbd mbv mr mu mw) H := by rw [hF9]; exact hP
  have hD9 : va_D A (wM cyD cyI cyJ cyZ am bv bt bl be bdp bi bg bsd bsv bbd bbv br bu bw mn mm mch msp msb mno msn mbn mhr mro mv mt ((fX4_lost ml p1).2) med md mi mg msd msv mbd mbv mr mu mw) := by rw [hF9]; exact hD
  exact W.zret (v := (0 : Int32)) hx hb hr (nar_z (Or.inl rfl)) (fun t ht hW => ⟨⟨(0 : Int32), (), rfl, ⟨(by rw [hF9]), (Or.inl rfl)⟩, by rw [ht]; exact hP9, va_K.moved hW.alike hK, hD9⟩, hS.F ht⟩) hS.2.2 dX4_lost_8
def fX4_frequency (mch : Int32) (p1 : Int32) : Int32 × Int32 := if p1 < 0 then ((0 : Int32), mch) else (if p1 ≤ (3 : Int32) then ((1 : Int32), p1) else (((0 : Int32), mch)))
set_option maxHeartbeats 4000000 in
set_option maxRecDepth 100000 in
theorem c_X4_frequency {l : Launch} {D : va_G} {cyD cyI cyJ cyZ : ClassId} (am bv bt bl be bdp bi bg bsd bsv bbd bbv br bu bw : Nat) (mn : Nat) (mm : UInt64) (mch : Int32) (msp : UInt64) (msb : UInt64) (mno : UInt64) (msn : Int32) (mbn : Int32) (mhr : Int32) (mro : Int32) (mv : Nat → UInt64) (mt : Nat → Int32) (ml : Nat → Int32) (med : Nat → Int32) (md : Nat → UInt64) (mi : Nat → UInt64) (mg : Nat → UInt64) (msd : Nat → UInt64) (msv : Nat → UInt64) (mbd : Nat → UInt64) (mbv : Nat → UInt64) (mr : Nat → Int32) (mu : Nat → Int64) (mw : Nat → Int32) (sz : Nat) (p1 : Int32)  : mZ l yX4_frequency wsX4_frequency ({ frames := 0, cells := 0, slots := 0, locals := 0 } : Room) D (kT cyD cyI cyJ cyZ) [.ref am, .int p1] (wM cyD cyI cyJ cyZ am bv bt bl be bdp bi bg bsd bsv bbd bbv br bu bw mn mm mch msp msb mno msn mbn mhr mro mv mt ml med md mi mg msd msv mbd mbv mr mu mw) (wM cyD cyI cyJ cyZ am bv bt bl be bdp bi bg bsd bsv bbd bbv br bu bw mn mm ((fX4_frequency mch p1).2) msp msb mno msn mbn mhr mro mv mt ml med md mi mg msd msv mbd mbv mr mu mw) sz ((fX4_frequency mch p1).1) 0 0 := by
  refine Met.ofW (cc := cX4_frequency) (maxL := 2) (ret := (some .boolean)) (by decide) rfl ?_
  intro p e s m args below meth c s₁ B hml hv
  obtain ⟨rfl, hN, hsz, hP, hK, hD0⟩ := hv
  have hx := B.exec
  have hb := B.bytes
  have hr := B.returns
  have hts := atoms_spec (ws := wsX4_frequency) B.pre
  have hown : s.vm.findClass RX4 = some m.cls := findClass_of_methodNamed B.named
  have hlocks := B.notSynchronized
  subst hsz
  have hD := hD0.self (sz := s.heap.size)
  generalize hAe : va_A (wM cyD cyI cyJ cyZ am bv bt bl be bdp bi bg bsd bsv bbd bbv br bu bw mn mm mch msp msb mno msn mbn mhr mro mv mt ml med md mi mg msd msv mbd mbv mr mu mw) s.heap.size = A at hD ⊢
  have hA : ∀ q : Nat, s.heap.size ≤ q → A q := fun q h => by rw [← hAe]; exact Or.inr h
  have hS : va_S A s.heap s.heap [] := va_S.rf
  have hP : va_P D vwCl (wM cyD cyI cyJ cyZ am bv bt bl be bdp bi bg bsd bsv bbd bbv br bu bw mn mm mch msp msb mno msn mbn mhr mro mv mt ml med md mi mg msd msv mbd mbv mr mu mw) s.heap := hP
  have hl := lv_entry [.ref am, .int p1] (n := 2) (Nat.le_of_ble_eq_true rfl)
  rw [lg_entry_eq]
  generalize (lg_sl [.ref am, .int p1] ++ List.replicate (2 - (lg_sl [.ref am, .int p1]).length) Slot.unset).toArray = ls at hl ⊢
  have hl : lv_has ls 2 [(0, .ref am), (1, .int p1)] := hl
  obtain ⟨H, hHe⟩ : ∃ H : Heap, H = s.heap := ⟨_, rfl⟩
  have hP : va_P D vwCl (wM cyD cyI cyJ cyZ am bv bt bl be bdp bi bg bsd bsv bbd bbv br bu bw mn mm mch msp msb mno msn mbn mhr mro mv mt ml med md mi mg msd msv mbd mbv mr mu mw) H := by rw [hHe]; exact hP
  have hS : va_S A s.heap H [] := by rw [hHe]; exact hS
  rw [← hHe]
  refine lv_iload_n hx hb dX4_frequency_0 rfl (lv_at hl 1 rfl) ?_
  refine lv_if_lt (tgt := 9) hx hb dX4_frequency_1 (by decide) (fun c_1 => ?_) (fun c_1 => ?_)
  · refine lv_iconst (v := 0) hx hb dX4_frequency_9 (by decide) ?_
    have hF9 : (fX4_frequency mch p1) = ((0 : Int32), mch) := by rw [fX4_frequency, if_pos c_1]
    have hP9 : va_P D vwCl (wM cyD cyI cyJ cyZ am bv bt bl be bdp bi bg bsd bsv bbd bbv br bu bw mn mm ((fX4_frequency mch p1).2) msp msb mno msn mbn mhr mro mv mt ml med md mi mg msd msv mbd mbv mr mu mw) H := by rw [hF9]; exact hP
    have hD9 : va_D A (wM cyD cyI cyJ cyZ am bv bt bl be bdp bi bg bsd bsv bbd bbv br bu bw mn mm ((fX4_frequency mch p1).2) msp msb mno msn mbn mhr mro mv mt ml med md mi mg msd msv mbd mbv mr mu mw) := by rw [hF9]; exact hD
    exact W.zret (v := (0 : Int32)) hx hb hr (nar_z (Or.inl rfl)) (fun t ht hW => ⟨⟨(0 : Int32), (), rfl, ⟨(by rw [hF9]), (Or.inl rfl)⟩, by rw [ht]; exact hP9, va_K.moved hW.alike hK, hD9⟩, hS.F ht⟩) hS.2.2 dX4_frequency_10
  refine lv_iload_n hx hb dX4_frequency_4 rfl (lv_at hl 1 rfl) ?_
  refine lv_iconst (v := 3) hx hb dX4_frequency_5 (by decide) ?_
  refine lv_icmp_le (tgt := 11) hx hb dX4_frequency_6 (by decide) (fun c_6 => ?_) (fun c_6 => ?_)
  · refine lv_aload_n hx hb dX4_frequency_11 rfl (lv_at hl 0 rfl) ?_
    refine lv_iload_n hx hb dX4_frequency_12 rfl (lv_at hl 1 rfl) ?_
    refine va_put (D := D) (ci := 4) (v := .int p1) (ty := .int) (C := RX4) (T := TX4) (N := 24) hx hb hts (fun _ h => (List.mem_cons_of_mem _ (List.mem_append_right _ h))) tyX4 tyX4_ok nmX4 hown hK hP hD hS 0 rfl rfl 9 (by decide) (hts (.fieldLink RX4 78 "BottomWalksModel" "chosen" "I") (List.mem_of_getElem? (i := 1) rfl)) (fun _ h9 => h9) rfl (by decide +kernel) rfl rfl (Nat.le_of_ble_eq_true rfl) dX4_frequency_13 (fun H locs hP hD hS => ?_)
    have hP : va_P D vwCl (wM cyD cyI cyJ cyZ am bv bt bl be bdp bi bg bsd bsv bbd bbv br bu bw mn mm p1 msp msb mno msn mbn mhr mro mv mt ml med md mi mg msd msv mbd mbv mr mu mw) H := hP
    have hD : va_D A (wM cyD cyI cyJ cyZ am bv bt bl be bdp bi bg bsd bsv bbd bbv br bu bw mn mm p1 msp msb mno msn mbn mhr mro mv mt ml med md mi mg msd msv mbd mbv mr mu mw) := hD
    refine lv_iconst (v := 1) hx hb dX4_frequency_16 (by decide) ?_
    have hF9 : (fX4_frequency mch p1) = ((1 : Int32), p1) := by rw [fX4_frequency, if_neg c_1, if_pos c_6]
    have hP9 : va_P D vwCl (wM cyD cyI cyJ cyZ am bv bt bl be bdp bi bg bsd bsv bbd bbv br bu bw mn mm ((fX4_frequency mch p1).2) msp msb mno msn mbn mhr mro mv mt ml med md mi mg msd msv mbd mbv mr mu mw) H := by rw [hF9]; exact hP
    have hD9 : va_D A (wM cyD cyI cyJ cyZ am bv bt bl be bdp bi bg bsd bsv bbd bbv br bu bw mn mm ((fX4_frequency mch p1).2) msp msb mno msn mbn mhr mro mv mt ml med md mi mg msd msv mbd mbv mr mu mw) := by rw [hF9]; exact hD
    exact W.zret (v := (1 : Int32)) hx hb hr (nar_z (Or.inr rfl)) (fun t ht hW => ⟨⟨(1 : Int32), (), rfl, ⟨(by rw [hF9]), (Or.inr rfl)⟩, by rw [ht]; exact hP9, va_K.moved hW.alike hK, hD9⟩, hS.F ht⟩) hS.2.2 dX4_frequency_17
  refine lv_iconst (v := 0) hx hb dX4_frequency_9 (by decide) ?_
  have hF9 : (fX4_frequency mch p1) = ((0 : Int32), mch) := by rw [fX4_frequency, if_neg c_1, if_neg c_6]
  have hP9 : va_P D vwCl (wM cyD cyI cyJ cyZ am bv bt bl be bdp bi bg bsd bsv bbd bbv br bu bw mn mm ((fX4_frequency mch p1).2) msp msb mno msn mbn mhr mro mv mt ml med md mi mg msd msv mbd mbv mr mu mw) H := by rw [hF9]; exact hP
  have hD9 : va_D A (wM cyD cyI cyJ cyZ am bv bt bl be bdp bi bg bsd bsv bbd bbv br bu bw mn mm ((fX4_frequency mch p1).2) msp msb mno msn mbn mhr mro mv mt ml med md mi mg msd msv mbd mbv mr mu mw) := by rw [hF9]; exact hD
  exact W.zret (v := (0 : Int32)) hx hb hr (nar_z (Or.inl rfl)) (fun t ht hW => ⟨⟨(0 : Int32), (), rfl, ⟨(by rw [hF9]), (Or.inl rfl)⟩, by rw [ht]; exact hP9, va_K.moved hW.alike hK, hD9⟩, hS.F ht⟩) hS.2.2 dX4_frequency_10
def fX4_tide (mi : Nat → UInt64) (p1 : Int32) (p2 : UInt64) : Int32 × (Nat → UInt64) := if (fX4_isPing p1) = 0 then ((0 : Int32), mi) else (if (fX4_within p2 (13849694754071117824 : UInt64) (4626322717216342016 : UInt64)) = 0 then ((0 : Int32), mi) else (((1 : Int32), (vf_upd mi p1.toNatClampNeg p2))))
set_option maxHeartbeats 4000000 in
set_option maxRecDepth 100000 in
theorem c_X4_tide {l : Launch} {D : va_G} {cyD cyI cyJ cyZ : ClassId} (am bv bt bl be bdp bi bg bsd bsv bbd bbv br bu bw : Nat) (mn : Nat) (mm : UInt64) (mch : Int32) (msp : UInt64) (msb : UInt64) (mno : UInt64) (msn : Int32) (mbn : Int32) (mhr : Int32) (mro : Int32) (mv : Nat → UInt64) (mt : Nat → Int32) (ml : Nat → Int32) (med : Nat → Int32) (md : Nat → UInt64) (mi : Nat → UInt64) (mg : Nat → UInt64) (msd : Nat → UInt64) (msv : Nat → UInt64) (mbd : Nat → UInt64) (mbv : Nat → UInt64) (mr : Nat → Int32) (mu : Nat → Int64) (mw : Nat → Int32) (sz : Nat) (p1 : Int32) (p2 : UInt64)  : mZ l yX4_tide wsX4_tide ({ frames := 1, cells := 0, slots := 0, locals := 25 } : Room) D (kT cyD cyI cyJ cyZ) [.ref am, .int p1, .double p2] (wM cyD cyI cyJ cyZ am bv bt bl be bdp bi bg bsd bsv bbd bbv br bu bw mn mm mch msp msb mno msn mbn mhr mro mv mt ml med md mi mg msd msv mbd mbv mr mu mw) (wM cyD cyI cyJ cyZ am bv bt bl be bdp bi bg bsd bsv bbd bbv br bu bw mn mm mch msp msb mno msn mbn mhr mro mv mt ml med md ((fX4_tide mi p1 p2).2) mg msd msv mbd mbv mr mu mw) sz ((fX4_tide mi p1 p2).1) 0 0 := by
  refine Met.ofW (cc := cX4_tide) (maxL := 4) (ret := (some .boolean)) (by decide) rfl ?_
  intro p e s m args below meth c s₁ B hml hv
  obtain ⟨rfl, hN, hsz, hP, hK, hD0⟩ := hv
  have hx := B.exec
  have hb := B.bytes
  have hr := B.returns
  have hts := atoms_spec (ws := wsX4_tide) B.pre
  have hown : s.vm.findClass RX4 = some m.cls := findClass_of_methodNamed B.named
  have hlocks := B.notSynchronized
  subst hsz
  have hD := hD0.self (sz := s.heap.size)
  generalize hAe : va_A (wM cyD cyI cyJ cyZ am bv bt bl be bdp bi bg bsd bsv bbd bbv br bu bw mn mm mch msp msb mno msn mbn mhr mro mv mt ml med md mi mg msd msv mbd mbv mr mu mw) s.heap.size = A at hD ⊢
  have hA : ∀ q : Nat, s.heap.size ≤ q → A q := fun q h => by rw [← hAe]; exact Or.inr h
  have hS : va_S A s.heap s.heap [] := va_S.rf
  have hP : va_P D vwCl (wM cyD cyI cyJ cyZ am bv bt bl be bdp bi bg bsd bsv bbd bbv br bu bw mn mm mch msp msb mno msn mbn mhr mro mv mt ml med md mi mg msd msv mbd mbv mr mu mw) s.heap := hP
  have hl := lv_entry [.ref am, .int p1, .double p2] (n := 4) (Nat.le_of_ble_eq_true rfl)
  rw [lg_entry_eq]
  generalize (lg_sl [.ref am, .int p1, .double p2] ++ List.replicate (4 - (lg_sl [.ref am, .int p1, .double p2]).length) Slot.unset).toArray = ls at hl ⊢
  have hl : lv_has ls 4 [(0, .ref am), (1, .int p1), (2, .double p2)] := hl
  obtain ⟨H, hHe⟩ : ∃ H : Heap, H = s.heap := ⟨_, rfl⟩
  have hP : va_P D vwCl (wM cyD cyI cyJ cyZ am bv bt bl be bdp bi bg bsd bsv bbd bbv br bu bw mn mm mch msp msb mno msn mbn mhr mro mv mt ml med md mi mg msd msv mbd mbv mr mu mw) H := by rw [hHe]; exact hP
  have hS : va_S A s.heap H [] := by rw [hHe]; exact hS
  rw [← hHe]
  refine lv_iload_n hx hb dX4_tide_0 rfl (lv_at hl 1 rfl) ?_
  have hPc : va_P D vwCl [] H := hP.sub [] rfl
  have hDc : va_D A [] := hD.sub [] (by decide) rfl
  refine kzE (ws' := (wM cyD cyI cyJ cyZ am bv bt bl be bdp bi bg bsd bsv bbd bbv br bu bw mn mm mch msp msb mno msn mbn mhr mro mv mt ml med md mi mg msd msv mbd mbv mr mu mw)) (wc := []) (wr := [(am, .inr (4, [.int (nI mn), .double mm, .ref bv, .ref bt, .ref bl, .ref be, .ref bdp, .ref bi, .ref bg, .int mch, .double msp, .double msb, .double mno, .int msn, .ref bsd, .ref bsv, .int mbn, .ref bbd, .ref bbv, .int mhr, .int mro, .ref br, .ref bu, .ref bw])), (bv, .inl (cyD, 8192, .inr (.inr (.inr (.inl mv))))), (bt, .inl (cyZ, 8192, .inl mt)), (bl, .inl (cyZ, 32, .inl ml)), (be, .inl (cyZ, 32, .inl med)), (bdp, .inl (cyD, 32, .inr (.inr (.inr (.inl md))))), (bi, .inl (cyD, 32, .inr (.inr (.inr (.inl mi))))), (bg, .inl (cyD, 32, .inr (.inr (.inr (.inl mg))))), (bsd, .inl (cyD, 21, .inr (.inr (.inr (.inl msd))))), (bsv, .inl (cyD, 21, .inr (.inr (.inr (.inl msv))))), (bbd, .inl (cyD, 21, .inr (.inr (.inr (.inl mbd))))), (bbv, .inl (cyD, 21, .inr (.inr (.inr (.inl mbv))))), (br, .inl (cyI, 32, .inl mr)), (bu, .inl (cyJ, 2048, .inr (.inl mu))), (bw, .inl (cyI, 32, .inl mw))]) (w1 := []) (va_runS (As := [.int p1]) (rest := []) ⟨hx, hb, hml, hown, hts⟩ (c_X4_isPing (l := l) (D := D) (cyD := cyD) (cyI := cyI) (cyJ := cyJ) (cyZ := cyZ) H.size p1) (va_cwS 1 hts gX4_tide_X4_isPing rfl rfl rfl (by decide +kernel) ⟨Nat.le_of_ble_eq_true rfl, Nat.le_of_ble_eq_true rfl⟩) (kS hN hK hPc hDc) rfl rfl hl.1 rfl (lv_room (Nat.le_of_ble_eq_true rfl)) dX4_tide_1 ⟨Nat.le_of_ble_eq_true rfl, Nat.le_of_ble_eq_true rfl⟩) hP hD hS hA [] [0, 1, 2, 3, 4, 5, 6, 7, 8, 9, 10, 11, 12, 13, 14] [0, 1, 2, 3, 4, 5, 6, 7, 8, 9, 10, 11, 12, 13, 14] rfl rfl (by decide) (by decide) rfl (by decide) (fun H locs hz_1 hP hD hS => ?_)
  refine lv_if_eq (tgt := 20) hx hb dX4_tide_4 (by decide) (fun c_4 => ?_) (fun c_4 => ?_)
  · refine lv_iconst (v := 0) hx hb dX4_tide_20 (by decide) ?_
    have hF9 : (fX4_tide mi p1 p2) = ((0 : Int32), mi) := by rw [fX4_tide, if_pos c_4]
    have hP9 : va_P D vwCl (wM cyD cyI cyJ cyZ am bv bt bl be bdp bi bg bsd bsv bbd bbv br bu bw mn mm mch msp msb mno msn mbn mhr mro mv mt ml med md ((fX4_tide mi p1 p2).2) mg msd msv mbd mbv mr mu mw) H := by rw [hF9]; exact hP
    have hD9 : va_D A (wM cyD cyI cyJ cyZ am bv bt bl be bdp bi bg bsd bsv bbd bbv br bu bw mn mm mch msp msb mno msn mbn mhr mro mv mt ml med md ((fX4_tide mi p1 p2).2) mg msd msv mbd mbv mr mu mw) := by rw [hF9]; exact hD
    exact W.zret (v := (0 : Int32)) hx hb hr (nar_z (Or.inl rfl)) (fun t ht hW => ⟨⟨(0 : Int32), (), rfl, ⟨(by rw [hF9]), (Or.inl rfl)⟩, by rw [ht]; exact hP9, va_K.moved hW.alike hK, hD9⟩, hS.F ht⟩) hS.2.2 dX4_tide_21
  refine lv_dload_n hx hb dX4_tide_7 rfl (lv_at hl 2 rfl) ?_
  refine lv_ldc2d (v := 13849694754071117824) hx hb hown (hts (.constantDouble RX4 94 (13849694754071117824)) (List.mem_of_getElem? (i := 1) rfl)) dX4_tide_8 ?_
  refine lv_ldc2d (v := 4626322717216342016) hx hb hown (hts (.constantDouble RX4 96 (4626322717216342016)) (List.mem_of_getElem? (i := 2) rfl)) dX4_tide_11 ?_
  have hPc : va_P D vwCl [] H := hP.sub [] rfl
  have hDc : va_D A [] := hD.sub [] (by decide) rfl
  refine kzE (ws' := (wM cyD cyI cyJ cyZ am bv bt bl be bdp bi bg bsd bsv bbd bbv br bu bw mn mm mch msp msb mno msn mbn mhr mro mv mt ml med md mi mg msd msv mbd mbv mr mu mw)) (wc := []) (wr := [(am, .inr (4, [.int (nI mn), .double mm, .ref bv, .ref bt, .ref bl, .ref be, .ref bdp, .ref bi, .ref bg, .int mch, .double msp, .double msb, .double mno, .int msn, .ref bsd, .ref bsv, .int mbn, .ref bbd, .ref bbv, .int mhr, .int mro, .ref br, .ref bu, .ref bw])), (bv, .inl (cyD, 8192, .inr (.inr (.inr (.inl mv))))), (bt, .inl (cyZ, 8192, .inl mt)), (bl, .inl (cyZ, 32, .inl ml)), (be, .inl (cyZ, 32, .inl med)), (bdp, .inl (cyD, 32, .inr (.inr (.inr (.inl md))))), (bi, .inl (cyD, 32, .inr (.inr (.inr (.inl mi))))), (bg, .inl (cyD, 32, .inr (.inr (.inr (.inl mg))))), (bsd, .inl (cyD, 21, .inr (.inr (.inr (.inl msd))))), (bsv, .inl (cyD, 21, .inr (.inr (.inr (.inl msv))))), (bbd, .inl (cyD, 21, .inr (.inr (.inr (.inl mbd))))), (bbv, .inl (cyD, 21, .inr (.inr (.inr (.inl mbv))))), (br, .inl (cyI, 32, .inl mr)), (bu, .inl (cyJ, 2048, .inr (.inl mu))), (bw, .inl (cyI, 32, .inl mw))]) (w1 := []) (va_runS (As := [.double p2, .double (13849694754071117824 : UInt64), .double (4626322717216342016 : UInt64)]) (rest := []) ⟨hx, hb, hml, hown, hts⟩ (c_X4_within (l := l) (D := D) (cyD := cyD) (cyI := cyI) (cyJ := cyJ) (cyZ := cyZ) H.size p2 (13849694754071117824 : UInt64) (4626322717216342016 : UInt64)) (va_cwS 3 hts gX4_tide_X4_within rfl rfl rfl (by decide +kernel) ⟨Nat.le_of_ble_eq_true rfl, Nat.le_of_ble_eq_true rfl⟩) (kS hN hK hPc hDc) rfl rfl hl.1 rfl (lv_room (Nat.le_of_ble_eq_true rfl)) dX4_tide_14 ⟨Nat.le_of_ble_eq_true rfl, Nat.le_of_ble_eq_true rfl⟩) hP hD hS hA [] [0, 1, 2, 3, 4, 5, 6, 7, 8, 9, 10, 11, 12, 13, 14] [0, 1, 2, 3, 4, 5, 6, 7, 8, 9, 10, 11, 12, 13, 14] rfl rfl (by decide) (by decide) rfl (by decide) (fun H locs hz_14 hP hD hS => ?_)
  refine lv_if_ne (tgt := 22) hx hb dX4_tide_17 (by decide) (fun c_17 => ?_) (fun c_17 => ?_)
  · refine lv_aload_n hx hb dX4_tide_22 rfl (lv_at hl 0 rfl) ?_
    refine va_get (D := D) (ci := 4) (v := .ref bi) (C := RX4) (T := TX4) (N := 24) hx hb hts (fun _ h => (List.mem_cons_of_mem _ (List.mem_append_right _ h))) hown hK hP 0 rfl rfl 7 (by decide) (hts (.fieldLink RX4 26 "BottomWalksModel" "tides" "[D") (List.mem_of_getElem? (i := 3) rfl)) (fun _ h9 => h9) rfl dX4_tide_23 ?_
    refine lv_iload_n hx hb dX4_tide_26 rfl (lv_at hl 1 rfl) ?_
    refine lv_dload_n hx hb dX4_tide_27 rfl (lv_at hl 2 rfl) ?_
    refine va_dast hx hb hK hP hD hS 6 0 rfl rfl (pingM_in c_4) dX4_tide_28 (fun H locs hP hD hS => ?_)
    have hP : va_P D vwCl (wM cyD cyI cyJ cyZ am bv bt bl be bdp bi bg bsd bsv bbd bbv br bu bw mn mm mch msp msb mno msn mbn mhr mro mv mt ml med md (vf_upd mi p1.toNatClampNeg p2) mg msd msv mbd mbv mr mu mw) H := hP
    have hD : va_D A (wM cyD cyI cyJ cyZ am bv bt bl be bdp bi bg bsd bsv bbd bbv br bu bw mn mm mch msp msb mno msn mbn mhr mro mv mt ml med md (vf_upd mi p1.toNatClampNeg p2) mg msd msv mbd mbv mr mu mw) := hD
    refine lv_iconst (v := 1) hx hb dX4_tide_29 (by decide) ?_
    have hF9 : (fX4_tide mi p1 p2) = ((1 : Int32), (vf_upd mi p1.toNatClampNeg p2)) := by rw [fX4_tide, if_neg c_4, if_neg c_17]
    have hP9 : va_P D vwCl (wM cyD cyI cyJ cyZ am bv bt bl be bdp bi bg bsd bsv bbd bbv br bu bw mn mm mch msp msb mno msn mbn mhr mro mv mt ml med md ((fX4_tide mi p1 p2).2) mg msd msv mbd mbv mr mu mw) H := by rw [hF9]; exact hP
    have hD9 : va_D A (wM cyD cyI cyJ cyZ am bv bt bl be bdp bi bg bsd bsv bbd bbv br bu bw mn mm mch msp msb mno msn mbn mhr mro mv mt ml med md ((fX4_tide mi p1 p2).2) mg msd msv mbd mbv mr mu mw) := by rw [hF9]; exact hD
    exact W.zret (v := (1 : Int32)) hx hb hr (nar_z (Or.inr rfl)) (fun t ht hW => ⟨⟨(1 : Int32), (), rfl, ⟨(by rw [hF9]), (Or.inr rfl)⟩, by rw [ht]; exact hP9, va_K.moved hW.alike hK, hD9⟩, hS.F ht⟩) hS.2.2 dX4_tide_30
  refine lv_iconst (v := 0) hx hb dX4_tide_20 (by decide) ?_
  have hF9 : (fX4_tide mi p1 p2) = ((0 : Int32), mi) := by rw [fX4_tide, if_neg c_4, if_pos c_17]
  have hP9 : va_P D vwCl (wM cyD cyI cyJ cyZ am bv bt bl be bdp bi bg bsd bsv bbd bbv br bu bw mn mm mch msp msb mno msn mbn mhr mro mv mt ml med md ((fX4_tide mi p1 p2).2) mg msd msv mbd mbv mr mu mw) H := by rw [hF9]; exact hP
  have hD9 : va_D A (wM cyD cyI cyJ cyZ am bv bt bl be bdp bi bg bsd bsv bbd bbv br bu bw mn mm mch msp msb mno msn mbn mhr mro mv mt ml med md ((fX4_tide mi p1 p2).2) mg msd msv mbd mbv mr mu mw) := by rw [hF9]; exact hD
  exact W.zret (v := (0 : Int32)) hx hb hr (nar_z (Or.inl rfl)) (fun t ht hW => ⟨⟨(0 : Int32), (), rfl, ⟨(by rw [hF9]), (Or.inl rfl)⟩, by rw [ht]; exact hP9, va_K.moved hW.alike hK, hD9⟩, hS.F ht⟩) hS.2.2 dX4_tide_21
def fX4_turned (mg : Nat → UInt64) (p1 : Int32) (p2 : UInt64) : Int32 × (Nat → UInt64) := if (fX4_isPing p1) = 0 then ((0 : Int32), mg) else (if (fX4_within p2 (13854902041140264960 : UInt64) (4631530004285489152 : UInt64)) = 0 then ((0 : Int32), mg) else (((1 : Int32), (vf_upd mg p1.toNatClampNeg p2))))
set_option maxHeartbeats 4000000 in
set_option maxRecDepth 100000 in
theorem c_X4_turned {l : Launch} {D : va_G} {cyD cyI cyJ cyZ : ClassId} (am bv bt bl be bdp bi bg bsd bsv bbd bbv br bu bw : Nat) (mn : Nat) (mm : UInt64) (mch : Int32) (msp : UInt64) (msb : UInt64) (mno : UInt64) (msn : Int32) (mbn : Int32) (mhr : Int32) (mro : Int32) (mv : Nat → UInt64) (mt : Nat → Int32) (ml : Nat → Int32) (med : Nat → Int32) (md : Nat → UInt64) (mi : Nat → UInt64) (mg : Nat → UInt64) (msd : Nat → UInt64) (msv : Nat → UInt64) (mbd : Nat → UInt64) (mbv : Nat → UInt64) (mr : Nat → Int32) (mu : Nat → Int64) (mw : Nat → Int32) (sz : Nat) (p1 : Int32) (p2 : UInt64)  : mZ l yX4_turned wsX4_turned ({ frames := 1, cells := 0, slots := 0, locals := 25 } : Room) D (kT cyD cyI cyJ cyZ) [.ref am, .int p1, .double p2] (wM cyD cyI cyJ cyZ am bv bt bl be bdp bi bg bsd bsv bbd bbv br bu bw mn mm mch msp msb mno msn mbn mhr mro mv mt ml med md mi mg msd msv mbd mbv mr mu mw) (wM cyD cyI cyJ cyZ am bv bt bl be bdp bi bg bsd bsv bbd bbv br bu bw mn mm mch msp msb mno msn mbn mhr mro mv mt ml med md mi ((fX4_turned mg p1 p2).2) msd msv mbd mbv mr mu mw) sz ((fX4_turned mg p1 p2).1) 0 0 := by
  refine Met.ofW (cc := cX4_turned) (maxL := 4) (ret := (some .boolean)) (by decide) rfl ?_
  intro p e s m args below meth c s₁ B hml hv
  obtain ⟨rfl, hN, hsz, hP, hK, hD0⟩ := hv
  have hx := B.exec
  have hb := B.bytes
  have hr := B.returns
  have hts := atoms_spec (ws := wsX4_turned) B.pre
  have hown : s.vm.findClass RX4 = some m.cls := findClass_of_methodNamed B.named
  have hlocks := B.notSynchronized
  subst hsz
  have hD := hD0.self (sz := s.heap.size)
  generalize hAe : va_A (wM cyD cyI cyJ cyZ am bv bt bl be bdp bi bg bsd bsv bbd bbv br bu bw mn mm mch msp msb mno msn mbn mhr mro mv mt ml med md mi mg msd msv mbd mbv mr mu mw) s.heap.size = A at hD ⊢
  have hA : ∀ q : Nat, s.heap.size ≤ q → A q := fun q h => by rw [← hAe]; exact Or.inr h
  have hS : va_S A s.heap s.heap [] := va_S.rf
  have hP : va_P D vwCl (wM cyD cyI cyJ cyZ am bv bt bl be bdp bi bg bsd bsv bbd bbv br bu bw mn mm mch msp msb mno msn mbn mhr mro mv mt ml med md mi mg msd msv mbd mbv mr mu mw) s.heap := hP
  have hl := lv_entry [.ref am, .int p1, .double p2] (n := 4) (Nat.le_of_ble_eq_true rfl)
  rw [lg_entry_eq]
  generalize (lg_sl [.ref am, .int p1, .double p2] ++ List.replicate (4 - (lg_sl [.ref am, .int p1, .double p2]).length) Slot.unset).toArray = ls at hl ⊢
  have hl : lv_has ls 4 [(0, .ref am), (1, .int p1), (2, .double p2)] := hl
  obtain ⟨H, hHe⟩ : ∃ H : Heap, H = s.heap := ⟨_, rfl⟩
  have hP : va_P D vwCl (wM cyD cyI cyJ cyZ am bv bt bl be bdp bi bg bsd bsv bbd bbv br bu bw mn mm mch msp msb mno msn mbn mhr mro mv mt ml med md mi mg msd msv mbd mbv mr mu mw) H := by rw [hHe]; exact hP
  have hS : va_S A s.heap H [] := by rw [hHe]; exact hS
  rw [← hHe]
  refine lv_iload_n hx hb dX4_turned_0 rfl (lv_at hl 1 rfl) ?_
  have hPc : va_P D vwCl [] H := hP.sub [] rfl
  have hDc : va_D A [] := hD.sub [] (by decide) rfl
  refine kzE (ws' := (wM cyD cyI cyJ cyZ am bv bt bl be bdp bi bg bsd bsv bbd bbv br bu bw mn mm mch msp msb mno msn mbn mhr mro mv mt ml med md mi mg msd msv mbd mbv mr mu mw)) (wc := []) (wr := [(am, .inr (4, [.int (nI mn), .double mm, .ref bv, .ref bt, .ref bl, .ref be, .ref bdp, .ref bi, .ref bg, .int mch, .double msp, .double msb, .double mno, .int msn, .ref bsd, .ref bsv, .int mbn, .ref bbd, .ref bbv, .int mhr, .int mro, .ref br, .ref bu, .ref bw])), (bv, .inl (cyD, 8192, .inr (.inr (.inr (.inl mv))))), (bt, .inl (cyZ, 8192, .inl mt)), (bl, .inl (cyZ, 32, .inl ml)), (be, .inl (cyZ, 32, .inl med)), (bdp, .inl (cyD, 32, .inr (.inr (.inr (.inl md))))), (bi, .inl (cyD, 32, .inr (.inr (.inr (.inl mi))))), (bg, .inl (cyD, 32, .inr (.inr (.inr (.inl mg))))), (bsd, .inl (cyD, 21, .inr (.inr (.inr (.inl msd))))), (bsv, .inl (cyD, 21, .inr (.inr (.inr (.inl msv))))), (bbd, .inl (cyD, 21, .inr (.inr (.inr (.inl mbd))))), (bbv, .inl (cyD, 21, .inr (.inr (.inr (.inl mbv))))), (br, .inl (cyI, 32, .inl mr)), (bu, .inl (cyJ, 2048, .inr (.inl mu))), (bw, .inl (cyI, 32, .inl mw))]) (w1 := []) (va_runS (As := [.int p1]) (rest := []) ⟨hx, hb, hml, hown, hts⟩ (c_X4_isPing (l := l) (D := D) (cyD := cyD) (cyI := cyI) (cyJ := cyJ) (cyZ := cyZ) H.size p1) (va_cwS 1 hts gX4_turned_X4_isPing rfl rfl rfl (by decide +kernel) ⟨Nat.le_of_ble_eq_true rfl, Nat.le_of_ble_eq_true rfl⟩) (kS hN hK hPc hDc) rfl rfl hl.1 rfl (lv_room (Nat.le_of_ble_eq_true rfl)) dX4_turned_1 ⟨Nat.le_of_ble_eq_true rfl, Nat.le_of_ble_eq_true rfl⟩) hP hD hS hA [] [0, 1, 2, 3, 4, 5, 6, 7, 8, 9, 10, 11, 12, 13, 14] [0, 1, 2, 3, 4, 5, 6, 7, 8, 9, 10, 11, 12, 13, 14] rfl rfl (by decide) (by decide) rfl (by decide) (fun H locs hz_1 hP hD hS => ?_)
  refine lv_if_eq (tgt := 20) hx hb dX4_turned_4 (by decide) (fun c_4 => ?_) (fun c_4 => ?_)
  · refine lv_iconst (v := 0) hx hb dX4_turned_20 (by decide) ?_
    have hF9 : (fX4_turned mg p1 p2) = ((0 : Int32), mg) := by rw [fX4_turned, if_pos c_4]
    have hP9 : va_P D vwCl (wM cyD cyI cyJ cyZ am bv bt bl be bdp bi bg bsd bsv bbd bbv br bu bw mn mm mch msp msb mno msn mbn mhr mro mv mt ml med md mi ((fX4_turned mg p1 p2).2) msd msv mbd mbv mr mu mw) H := by rw [hF9]; exact hP
    have hD9 : va_D A (wM cyD cyI cyJ cyZ am bv bt bl be bdp bi bg bsd bsv bbd bbv br bu bw mn mm mch msp msb mno msn mbn mhr mro mv mt ml med md mi ((fX4_turned mg p1 p2).2) msd msv mbd mbv mr mu mw) := by rw [hF9]; exact hD
    exact W.zret (v := (0 : Int32)) hx hb hr (nar_z (Or.inl rfl)) (fun t ht hW => ⟨⟨(0 : Int32), (), rfl, ⟨(by rw [hF9]), (Or.inl rfl)⟩, by rw [ht]; exact hP9, va_K.moved hW.alike hK, hD9⟩, hS.F ht⟩) hS.2.2 dX4_turned_21
  refine lv_dload_n hx hb dX4_turned_7 rfl (lv_at hl 2 rfl) ?_
  refine lv_ldc2d (v := 13854902041140264960) hx hb hown (hts (.constantDouble RX4 98 (13854902041140264960)) (List.mem_of_getElem? (i := 1) rfl)) dX4_turned_8 ?_
  refine lv_ldc2d (v := 4631530004285489152) hx hb hown (hts (.constantDouble RX4 100 (4631530004285489152)) (List.mem_of_getElem? (i := 2) rfl)) dX4_turned_11 ?_
  have hPc : va_P D vwCl [] H := hP.sub [] rfl
  have hDc : va_D A [] := hD.sub [] (by decide) rfl
  refine kzE (ws' := (wM cyD cyI cyJ cyZ am bv bt bl be bdp bi bg bsd bsv bbd bbv br bu bw mn mm mch msp msb mno msn mbn mhr mro mv mt ml med md mi mg msd msv mbd mbv mr mu mw)) (wc := []) (wr := [(am, .inr (4, [.int (nI mn), .double mm, .ref bv, .ref bt, .ref bl, .ref be, .ref bdp, .ref bi, .ref bg, .int mch, .double msp, .double msb, .double mno, .int msn, .ref bsd, .ref bsv, .int mbn, .ref bbd, .ref bbv, .int mhr, .int mro, .ref br, .ref bu, .ref bw])), (bv, .inl (cyD, 8192, .inr (.inr (.inr (.inl mv))))), (bt, .inl (cyZ, 8192, .inl mt)), (bl, .inl (cyZ, 32, .inl ml)), (be, .inl (cyZ, 32, .inl med)), (bdp, .inl (cyD, 32, .inr (.inr (.inr (.inl md))))), (bi, .inl (cyD, 32, .inr (.inr (.inr (.inl mi))))), (bg, .inl (cyD, 32, .inr (.inr (.inr (.inl mg))))), (bsd, .inl (cyD, 21, .inr (.inr (.inr (.inl msd))))), (bsv, .inl (cyD, 21, .inr (.inr (.inr (.inl msv))))), (bbd, .inl (cyD, 21, .inr (.inr (.inr (.inl mbd))))), (bbv, .inl (cyD, 21, .inr (.inr (.inr (.inl mbv))))), (br, .inl (cyI, 32, .inl mr)), (bu, .inl (cyJ, 2048, .inr (.inl mu))), (bw, .inl (cyI, 32, .inl mw))]) (w1 := []) (va_runS (As := [.double p2, .double (13854902041140264960 : UInt64), .double (4631530004285489152 : UInt64)]) (rest := []) ⟨hx, hb, hml, hown, hts⟩ (c_X4_within (l := l) (D := D) (cyD := cyD) (cyI := cyI) (cyJ := cyJ) (cyZ := cyZ) H.size p2 (13854902041140264960 : UInt64) (4631530004285489152 : UInt64)) (va_cwS 3 hts gX4_turned_X4_within rfl rfl rfl (by decide +kernel) ⟨Nat.le_of_ble_eq_true rfl, Nat.le_of_ble_eq_true rfl⟩) (kS hN hK hPc hDc) rfl rfl hl.1 rfl (lv_room (Nat.le_of_ble_eq_true rfl)) dX4_turned_14 ⟨Nat.le_of_ble_eq_true rfl, Nat.le_of_ble_eq_true rfl⟩) hP hD hS hA [] [0, 1, 2, 3, 4, 5, 6, 7, 8, 9, 10, 11, 12, 13, 14] [0, 1, 2, 3, 4, 5, 6, 7, 8, 9, 10, 11, 12, 13, 14] rfl rfl (by decide) (by decide) rfl (by decide) (fun H locs hz_14 hP hD hS => ?_)
  refine lv_if_ne (tgt := 22) hx hb dX4_turned_17 (by decide) (fun c_17 => ?_) (fun c_17 => ?_)
  · refine lv_aload_n hx hb dX4_turned_22 rfl (lv_at hl 0 rfl) ?_
    refine va_get (D := D) (ci := 4) (v := .ref bg) (C := RX4) (T := TX4) (N := 24) hx hb hts (fun _ h => (List.mem_cons_of_mem _ (List.mem_append_right _ h))) hown hK hP 0 rfl rfl 8 (by decide) (hts (.fieldLink RX4 29 "BottomWalksModel" "degrees" "[D") (List.mem_of_getElem? (i := 3) rfl)) (fun _ h9 => h9) rfl dX4_turned_23 ?_
    refine lv_iload_n hx hb dX4_turned_26 rfl (lv_at hl 1 rfl) ?_
    refine lv_dload_n hx hb dX4_turned_27 rfl (lv_at hl 2 rfl) ?_
    refine va_dast hx hb hK hP hD hS 7 0 rfl rfl (pingM_in c_4) dX4_turned_28 (fun H locs hP hD hS => ?_)
    have hP : va_P D vwCl (wM cyD cyI cyJ cyZ am bv bt bl be bdp bi bg bsd bsv bbd bbv br bu bw mn mm mch msp msb mno msn mbn mhr mro mv mt ml med md mi (vf_upd mg p1.toNatClampNeg p2) msd msv mbd mbv mr mu mw) H := hP
    have hD : va_D A (wM cyD cyI cyJ cyZ am bv bt bl be bdp bi bg bsd bsv bbd bbv br bu bw mn mm mch msp msb mno msn mbn mhr mro mv mt ml med md mi (vf_upd mg p1.toNatClampNeg p2) msd msv mbd mbv mr mu mw) := hD
    refine lv_iconst (v := 1) hx hb dX4_turned_29 (by decide) ?_
    have hF9 : (fX4_turned mg p1 p2) = ((1 : Int32), (vf_upd mg p1.toNatClampNeg p2)) := by rw [fX4_turned, if_neg c_4, if_neg c_17]
    have hP9 : va_P D vwCl (wM cyD cyI cyJ cyZ am bv bt bl be bdp bi bg bsd bsv bbd bbv br bu bw mn mm mch msp msb mno msn mbn mhr mro mv mt ml med md mi ((fX4_turned mg p1 p2).2) msd msv mbd mbv mr mu mw) H := by rw [hF9]; exact hP
    have hD9 : va_D A (wM cyD cyI cyJ cyZ am bv bt bl be bdp bi bg bsd bsv bbd bbv br bu bw mn mm mch msp msb mno msn mbn mhr mro mv mt ml med md mi ((fX4_turned mg p1 p2).2) msd msv mbd mbv mr mu mw) := by rw [hF9]; exact hD
    exact W.zret (v := (1 : Int32)) hx hb hr (nar_z (Or.inr rfl)) (fun t ht hW => ⟨⟨(1 : Int32), (), rfl, ⟨(by rw [hF9]), (Or.inr rfl)⟩, by rw [ht]; exact hP9, va_K.moved hW.alike hK, hD9⟩, hS.F ht⟩) hS.2.2 dX4_turned_30
  refine lv_iconst (v := 0) hx hb dX4_turned_20 (by decide) ?_
  have hF9 : (fX4_turned mg p1 p2) = ((0 : Int32), mg) := by rw [fX4_turned, if_neg c_4, if_pos c_17]
  have hP9 : va_P D vwCl (wM cyD cyI cyJ cyZ am bv bt bl be bdp bi bg bsd bsv bbd bbv br bu bw mn mm mch msp msb mno msn mbn mhr mro mv mt ml med md mi ((fX4_turned mg p1 p2).2) msd msv mbd mbv mr mu mw) H := by rw [hF9]; exact hP
  have hD9 : va_D A (wM cyD cyI cyJ cyZ am bv bt bl be bdp bi bg bsd bsv bbd bbv br bu bw mn mm mch msp msb mno msn mbn mhr mro mv mt ml med md mi ((fX4_turned mg p1 p2).2) msd msv mbd mbv mr mu mw) := by rw [hF9]; exact hD
  exact W.zret (v := (0 : Int32)) hx hb hr (nar_z (Or.inl rfl)) (fun t ht hW => ⟨⟨(0 : Int32), (), rfl, ⟨(by rw [hF9]), (Or.inl rfl)⟩, by rw [ht]; exact hP9, va_K.moved hW.alike hK, hD9⟩, hS.F ht⟩) hS.2.2 dX4_turned_21
def fX4_strength (mm : UInt64) (msp : UInt64) (msb : UInt64) (mno : UInt64) (mv : Nat → UInt64) (mt : Nat → Int32) (ml : Nat → Int32) (p1 : Int32) (p2 : Int32) (p3 : Int32) : Int64 := if (mt ((((2048 : Int32) * p1) + ((64 : Int32) * p2)) + p3).toNatClampNeg) = 0 then (0 : Int64) else (if (ml p2.toNatClampNeg) = 0 then (if 0 ≤ (lg_cmp (FP.d2l (FP.dsub (FP.dadd (FP.dadd (mv ((((2048 : Int32) * p1) + ((64 : Int32) * p2)) + p3).toNatClampNeg) (FP.dmul msp (fX4_range mm p3))) (FP.dmul (FP.dmul (FP.dmul msb (fX4_range mm p3)) (fX4_range mm p3)) (4562254508917369340 : UInt64))) mno)) (0 : Int64)) then (FP.d2l (FP.dsub (FP.dadd (FP.dadd (mv ((((2048 : Int32) * p1) + ((64 : Int32) * p2)) + p3).toNatClampNeg) (FP.dmul msp (fX4_range mm p3))) (FP.dmul (FP.dmul (FP.dmul msb (fX4_range mm p3)) (fX4_range mm p3)) (4562254508917369340 : UInt64))) mno)) else ((0 : Int64))) else ((0 : Int64)))
set_option maxHeartbeats 4000000 in
set_option maxRecDepth 100000 in
theorem c_X4_strength {l : Launch} {D : va_G} {cyD cyI cyJ cyZ : ClassId} (am bv bt bl be bdp bi bg bsd bsv bbd bbv br bu bw : Nat) (mn : Nat) (mm : UInt64) (mch : Int32) (msp : UInt64) (msb : UInt64) (mno : UInt64) (msn : Int32) (mbn : Int32) (mhr : Int32) (mro : Int32) (mv : Nat → UInt64) (mt : Nat → Int32) (ml : Nat → Int32) (med : Nat → Int32) (md : Nat → UInt64) (mi : Nat → UInt64) (mg : Nat → UInt64) (msd : Nat → UInt64) (msv : Nat → UInt64) (mbd : Nat → UInt64) (mbv : Nat → UInt64) (mr : Nat → Int32) (mu : Nat → Int64) (mw : Nat → Int32) (sz : Nat) (p1 : Int32) (p2 : Int32) (p3 : Int32) (hM : okM mn mm msp msb mno mv) (F : Nat) (hf : p1 = nI F) (hF4 : F < 4) (P : Nat) (hp : p2 = nI P) (hP32 : P < 32) (K : Nat) (hk : p3 = nI K) (hK64 : K < 64) : mL l yX4_strength wsX4_strength ({ frames := 1, cells := 0, slots := 0, locals := 21 } : Room) D (kT cyD cyI cyJ cyZ) [.ref am, .int p1, .int p2, .int p3] (wM cyD cyI cyJ cyZ am bv bt bl be bdp bi bg bsd bsv bbd bbv br bu bw mn mm mch msp msb mno msn mbn mhr mro mv mt ml med md mi mg msd msv mbd mbv mr mu mw) (wM cyD cyI cyJ cyZ am bv bt bl be bdp bi bg bsd bsv bbd bbv br bu bw mn mm mch msp msb mno msn mbn mhr mro mv mt ml med md mi mg msd msv mbd mbv mr mu mw) sz (fX4_strength mm msp msb mno mv mt ml p1 p2 p3) 0 0 := by
  refine Met.ofW (cc := cX4_strength) (maxL := 9) (ret := (some .long)) (by decide) rfl ?_
  intro p e s m args below meth c s₁ B hml hv
  obtain ⟨rfl, hN, hsz, hP, hK, hD0⟩ := hv
  have hx := B.exec
  have hb := B.bytes
  have hr := B.returns
  have hts := atoms_spec (ws := wsX4_strength) B.pre
  have hown : s.vm.findClass RX4 = some m.cls := findClass_of_methodNamed B.named
  have hlocks := B.notSynchronized
  subst hsz
  have hD := hD0.self (sz := s.heap.size)
  generalize hAe : va_A (wM cyD cyI cyJ cyZ am bv bt bl be bdp bi bg bsd bsv bbd bbv br bu bw mn mm mch msp msb mno msn mbn mhr mro mv mt ml med md mi mg msd msv mbd mbv mr mu mw) s.heap.size = A at hD ⊢
  have hA : ∀ q : Nat, s.heap.size ≤ q → A q := fun q h => by rw [← hAe]; exact Or.inr h
  have hS : va_S A s.heap s.heap [] := va_S.rf
  have hP : va_P D vwCl (wM cyD cyI cyJ cyZ am bv bt bl be bdp bi bg bsd bsv bbd bbv br bu bw mn mm mch msp msb mno msn mbn mhr mro mv mt ml med md mi mg msd msv mbd mbv mr mu mw) s.heap := hP
  have hl := lv_entry [.ref am, .int p1, .int p2, .int p3] (n := 9) (Nat.le_of_ble_eq_true rfl)
  rw [lg_entry_eq]
  generalize (lg_sl [.ref am, .int p1, .int p2, .int p3] ++ List.replicate (9 - (lg_sl [.ref am, .int p1, .int p2, .int p3]).length) Slot.unset).toArray = ls at hl ⊢
  have hl : lv_has ls 9 [(0, .ref am), (1, .int p1), (2, .int p2), (3, .int p3)] := hl
  obtain ⟨H, hHe⟩ : ∃ H : Heap, H = s.heap := ⟨_, rfl⟩
  have hP : va_P D vwCl (wM cyD cyI cyJ cyZ am bv bt bl be bdp bi bg bsd bsv bbd bbv br bu bw mn mm mch msp msb mno msn mbn mhr mro mv mt ml med md mi mg msd msv mbd mbv mr mu mw) H := by rw [hHe]; exact hP
  have hS : va_S A s.heap H [] := by rw [hHe]; exact hS
  rw [← hHe]
  refine lv_sipush (v := 2048) hx hb dX4_strength_0 (by decide) ?_
  refine lv_iload_n hx hb dX4_strength_3 rfl (lv_at hl 1 rfl) ?_
  refine lv_imul hx hb dX4_strength_4 ?_
  refine lv_bipush (v := 64) hx hb dX4_strength_5 (by decide) ?_
  refine lv_iload_n hx hb dX4_strength_7 rfl (lv_at hl 2 rfl) ?_
  refine lv_imul hx hb dX4_strength_8 ?_
  refine lv_iadd hx hb dX4_strength_9 ?_
  refine lv_iload_n hx hb dX4_strength_10 rfl (lv_at hl 3 rfl) ?_
  refine lv_iadd hx hb dX4_strength_11 ?_
  refine lv_istore (lv' := [(4, .int ((((2048 : Int32) * p1) + ((64 : Int32) * p2)) + p3)), (0, .ref am), (1, .int p1), (2, .int p2), (3, .int p3)]) hx hb dX4_strength_12 hl (by decide) rfl (fun ls hl => ?_)
  refine lv_aload_n hx hb dX4_strength_14 rfl (lv_at hl 1 rfl) ?_
  refine va_get (D := D) (ci := 4) (v := .ref bt) (C := RX4) (T := TX4) (N := 24) hx hb hts (fun _ h => (List.mem_cons_of_mem _ (List.mem_append_right _ h))) hown hK hP 0 rfl rfl 3 (by decide) (hts (.fieldLink RX4 13 "BottomWalksModel" "told" "[Z") (List.mem_of_getElem? (i := 1) rfl)) (fun _ h9 => h9) rfl dX4_strength_15 ?_
  refine lv_iload hx hb dX4_strength_18 (lv_at hl 0 rfl) ?_
  refine va_zald hx hb hK hP 2 3 rfl rfl (cellM_in hf hF4 hp hP32 hk hK64) dX4_strength_20 ?_
  refine lv_if_eq (tgt := 33) hx hb dX4_strength_21 (by decide) (fun c_21 => ?_) (fun c_21 => ?_)
  · refine lv_lconst (v := 0) hx hb dX4_strength_33 rfl ?_
    have hF9 : (fX4_strength mm msp msb mno mv mt ml p1 p2 p3) = (0 : Int64) := by rw [fX4_strength, if_pos c_21]
    have hP9 : va_P D vwCl (wM cyD cyI cyJ cyZ am bv bt bl be bdp bi bg bsd bsv bbd bbv br bu bw mn mm mch msp msb mno msn mbn mhr mro mv mt ml med md mi mg msd msv mbd mbv mr mu mw) H := hP
    have hD9 : va_D A (wM cyD cyI cyJ cyZ am bv bt bl be bdp bi bg bsd bsv bbd bbv br bu bw mn mm mch msp msb mno msn mbn mhr mro mv mt ml med md mi mg msd msv mbd mbv mr mu mw) := hD
    exact W.lret (v := (0 : Int64)) hx hb hr (fun t ht hW => ⟨⟨(0 : Int64), (), rfl, (by rw [hF9]), by rw [ht]; exact hP9, va_K.moved hW.alike hK, hD9⟩, hS.F ht⟩) hS.2.2 dX4_strength_34
  refine lv_aload_n hx hb dX4_strength_24 rfl (lv_at hl 1 rfl) ?_
  refine va_get (D := D) (ci := 4) (v := .ref bl) (C := RX4) (T := TX4) (N := 24) hx hb hts (fun _ h => (List.mem_cons_of_mem _ (List.mem_append_right _ h))) hown hK hP 0 rfl rfl 4 (by decide) (hts (.fieldLink RX4 17 "BottomWalksModel" "isLost" "[Z") (List.mem_of_getElem? (i := 2) rfl)) (fun _ h9 => h9) rfl dX4_strength_25 ?_
  refine lv_iload_n hx hb dX4_strength_28 rfl (lv_at hl 3 rfl) ?_
  refine va_zald hx hb hK hP 3 3 rfl rfl (nI_in' hp hP32 (by decide)) dX4_strength_29 ?_
  refine lv_if_eq (tgt := 35) hx hb dX4_strength_30 (by decide) (fun c_30 => ?_) (fun c_30 => ?_)
  · refine lv_aload_n hx hb dX4_strength_35 rfl (lv_at hl 1 rfl) ?_
    refine lv_iload_n hx hb dX4_strength_36 rfl (lv_at hl 4 rfl) ?_
    have hPc : va_P D vwCl (wM cyD cyI cyJ cyZ am bv bt bl be bdp bi bg bsd bsv bbd bbv br bu bw mn mm mch msp msb mno msn mbn mhr mro mv mt ml med md mi mg msd msv mbd mbv mr mu mw) H := hP.sub [0, 1, 2, 3, 4, 5, 6, 7, 8, 9, 10, 11, 12, 13, 14] rfl
    have hDc : va_D A (wM cyD cyI cyJ cyZ am bv bt bl be bdp bi bg bsd bsv bbd bbv br bu bw mn mm mch msp msb mno msn mbn mhr mro mv mt ml med md mi mg msd msv mbd mbv mr mu mw) := hD.sub [0, 1, 2, 3, 4, 5, 6, 7, 8, 9, 10, 11, 12, 13, 14] (by decide) rfl
    refine kdE (ws' := (wM cyD cyI cyJ cyZ am bv bt bl be bdp bi bg bsd bsv bbd bbv br bu bw mn mm mch msp msb mno msn mbn mhr mro mv mt ml med md mi mg msd msv mbd mbv mr mu mw)) (wc := (wM cyD cyI cyJ cyZ am bv bt bl be bdp bi bg bsd bsv bbd bbv br bu bw mn mm mch msp msb mno msn mbn mhr mro mv mt ml med md mi mg msd msv mbd mbv mr mu mw)) (wr := []) (w1 := (wM cyD cyI cyJ cyZ am bv bt bl be bdp bi bg bsd bsv bbd bbv br bu bw mn mm mch msp msb mno msn mbn mhr mro mv mt ml med md mi mg msd msv mbd mbv mr mu mw)) (va_runV (As := [.int p3]) (rest := []) ⟨hx, hb, hml, hown, hts⟩ (c_X4_range (l := l) (D := D) (cyD := cyD) (cyI := cyI) (cyJ := cyJ) (cyZ := cyZ) am bv bt bl be bdp bi bg bsd bsv bbd bbv br bu bw mn mm mch msp msb mno msn mbn mhr mro mv mt ml med md mi mg msd msv mbd mbv mr mu mw H.size p3 hM.2.2.1) (cwV 1 hts gX4_strength_X4_range rfl rfl rfl (by decide +kernel) ⟨Nat.le_of_ble_eq_true rfl, Nat.le_of_ble_eq_true rfl⟩) (kV (ci := 4) (q0 := 0) (q := (RX4, TX4, 24)) hN hK hPc hDc rfl rfl rfl) rfl rfl hl.1 rfl (lv_room (Nat.le_of_ble_eq_true rfl)) dX4_strength_37 ⟨Nat.le_of_ble_eq_true rfl, Nat.le_of_ble_eq_true rfl⟩) hP hD hS hA [0, 1, 2, 3, 4, 5, 6, 7, 8, 9, 10, 11, 12, 13, 14] [] [0, 1, 2, 3, 4, 5, 6, 7, 8, 9, 10, 11, 12, 13, 14] rfl rfl (by decide) (by decide) rfl (by decide) (fun H locs hP hD hS => ?_)
    refine lv_dstore (lv' := [(5, .double (fX4_range mm p3)), (4, .int ((((2048 : Int32) * p1) + ((64 : Int32) * p2)) + p3)), (0, .ref am), (1, .int p1), (2, .int p2), (3, .int p3)]) hx hb dX4_strength_40 hl (by decide) rfl (fun ls hl => ?_)
    refine lv_aload_n hx hb dX4_strength_42 rfl (lv_at hl 2 rfl) ?_
    refine va_get (D := D) (ci := 4) (v := .ref bv) (C := RX4) (T := TX4) (N := 24) hx hb hts (fun _ h => (List.mem_cons_of_mem _ (List.mem_append_right _ h))) hown hK hP 0 rfl rfl 2 (by decide) (hts (.fieldLink RX4 7 "BottomWalksModel" "values" "[D") (List.mem_of_getElem? (i := 3) rfl)) (fun _ h9 => h9) rfl dX4_strength_43 ?_
    refine lv_iload hx hb dX4_strength_46 (lv_at hl 1 rfl) ?_
    refine va_dald hx hb hK hP 1 0 rfl rfl (cellM_in hf hF4 hp hP32 hk hK64) dX4_strength_48 ?_
    refine lv_aload_n hx hb dX4_strength_49 rfl (lv_at hl 2 rfl) ?_
    refine va_get (D := D) (ci := 4) (v := .double msp) (C := RX4) (T := TX4) (N := 24) hx hb hts (fun _ h => (List.mem_cons_of_mem _ (List.mem_append_right _ h))) hown hK hP 0 rfl rfl 10 (by decide) (hts (.fieldLink RX4 83 "BottomWalksModel" "spread" "D") (List.mem_of_getElem? (i := 4) rfl)) (fun _ h9 => h9) rfl dX4_strength_50 ?_
    refine lv_dload hx hb dX4_strength_53 (lv_at hl 0 rfl) ?_
    refine lv_dmul hx hb dX4_strength_55 (bd_n (bd_mul (Ka := 1027) (Kb := 1064) (K := 1069) hM.2.2.2.1 (bd_mul (Ka := 1056) (Kb := 1030) (K := 1064) (bd_i2d _) hM.2.2.1 (by decide) (by decide) (by decide)) (by decide) (by decide) (by decide)) (by decide)) ?_
    refine lv_dadd hx hb dX4_strength_56 (bd_n (bd_add (Ka := 1033) (Kb := 1069) (K := 1071) (vpin_bd (cellM_in hf hF4 hp hP32 hk hK64) (by decide) hM.2.2.2.2.2.2) (bd_mul (Ka := 1027) (Kb := 1064) (K := 1069) hM.2.2.2.1 (bd_mul (Ka := 1056) (Kb := 1030) (K := 1064) (bd_i2d _) hM.2.2.1 (by decide) (by decide) (by decide)) (by decide) (by decide) (by decide)) (by decide) (by decide) (by decide) (by decide)) (by decide)) ?_
    refine lv_aload_n hx hb dX4_strength_57 rfl (lv_at hl 2 rfl) ?_
    refine va_get (D := D) (ci := 4) (v := .double msb) (C := RX4) (T := TX4) (N := 24) hx hb hts (fun _ h => (List.mem_cons_of_mem _ (List.mem_append_right _ h))) hown hK hP 0 rfl rfl 11 (by decide) (hts (.fieldLink RX4 86 "BottomWalksModel" "absorb" "D") (List.mem_of_getElem? (i := 5) rfl)) (fun _ h9 => h9) rfl dX4_strength_58 ?_
    refine lv_dload hx hb dX4_strength_61 (lv_at hl 0 rfl) ?_
    refine lv_dmul hx hb dX4_strength_63 (bd_n (bd_mul (Ka := 1027) (Kb := 1064) (K := 1069) hM.2.2.2.2.1 (bd_mul (Ka := 1056) (Kb := 1030) (K := 1064) (bd_i2d _) hM.2.2.1 (by decide) (by decide) (by decide)) (by decide) (by decide) (by decide)) (by decide)) ?_
    refine lv_dload hx hb dX4_strength_64 (lv_at hl 0 rfl) ?_
    refine lv_dmul hx hb dX4_strength_66 (bd_n (bd_mul (Ka := 1069) (Kb := 1064) (K := 1111) (bd_mul (Ka := 1027) (Kb := 1064) (K := 1069) hM.2.2.2.2.1 (bd_mul (Ka := 1056) (Kb := 1030) (K := 1064) (bd_i2d _) hM.2.2.1 (by decide) (by decide) (by decide)) (by decide) (by decide) (by decide)) (bd_mul (Ka := 1056) (Kb := 1030) (K := 1064) (bd_i2d _) hM.2.2.1 (by decide) (by decide) (by decide)) (by decide) (by decide) (by decide)) (by decide)) ?_
    refine lv_ldc2d (v := 4562254508917369340) hx hb hown (hts (.constantDouble RX4 106 (4562254508917369340)) (List.mem_of_getElem? (i := 6) rfl)) dX4_strength_67 ?_
    refine lv_dmul hx hb dX4_strength_70 (bd_n (bd_mul (Ka := 1111) (Kb := 1014) (K := 1103) (bd_mul (Ka := 1069) (Kb := 1064) (K := 1111) (bd_mul (Ka := 1027) (Kb := 1064) (K := 1069) hM.2.2.2.2.1 (bd_mul (Ka := 1056) (Kb := 1030) (K := 1064) (bd_i2d _) hM.2.2.1 (by decide) (by decide) (by decide)) (by decide) (by decide) (by decide)) (bd_mul (Ka := 1056) (Kb := 1030) (K := 1064) (bd_i2d _) hM.2.2.1 (by decide) (by decide) (by decide)) (by decide) (by decide) (by decide)) (by decide) (by decide) (by decide) (by decide)) (by decide)) ?_
    refine lv_dadd hx hb dX4_strength_71 (bd_n (bd_add (Ka := 1071) (Kb := 1103) (K := 1105) (bd_add (Ka := 1033) (Kb := 1069) (K := 1071) (vpin_bd (cellM_in hf hF4 hp hP32 hk hK64) (by decide) hM.2.2.2.2.2.2) (bd_mul (Ka := 1027) (Kb := 1064) (K := 1069) hM.2.2.2.1 (bd_mul (Ka := 1056) (Kb := 1030) (K := 1064) (bd_i2d _) hM.2.2.1 (by decide) (by decide) (by decide)) (by decide) (by decide) (by decide)) (by decide) (by decide) (by decide) (by decide)) (bd_mul (Ka := 1111) (Kb := 1014) (K := 1103) (bd_mul (Ka := 1069) (Kb := 1064) (K := 1111) (bd_mul (Ka := 1027) (Kb := 1064) (K := 1069) hM.2.2.2.2.1 (bd_mul (Ka := 1056) (Kb := 1030) (K := 1064) (bd_i2d _) hM.2.2.1 (by decide) (by decide) (by decide)) (by decide) (by decide) (by decide)) (bd_mul (Ka := 1056) (Kb := 1030) (K := 1064) (bd_i2d _) hM.2.2.1 (by decide) (by decide) (by decide)) (by decide) (by decide) (by decide)) (by decide) (by decide) (by decide) (by decide)) (by decide) (by decide) (by decide) (by decide)) (by decide)) ?_
    refine lv_aload_n hx hb dX4_strength_72 rfl (lv_at hl 2 rfl) ?_
    refine va_get (D := D) (ci := 4) (v := .double mno) (C := RX4) (T := TX4) (N := 24) hx hb hts (fun _ h => (List.mem_cons_of_mem _ (List.mem_append_right _ h))) hown hK hP 0 rfl rfl 12 (by decide) (hts (.fieldLink RX4 89 "BottomWalksModel" "noise" "D") (List.mem_of_getElem? (i := 7) rfl)) (fun _ h9 => h9) rfl dX4_strength_73 ?_
    refine lv_dsub hx hb dX4_strength_76 (bd_n (bd_sub (Ka := 1105) (Kb := 1033) (K := 1107) (bd_add (Ka := 1071) (Kb := 1103) (K := 1105) (bd_add (Ka := 1033) (Kb := 1069) (K := 1071) (vpin_bd (cellM_in hf hF4 hp hP32 hk hK64) (by decide) hM.2.2.2.2.2.2) (bd_mul (Ka := 1027) (Kb := 1064) (K := 1069) hM.2.2.2.1 (bd_mul (Ka := 1056) (Kb := 1030) (K := 1064) (bd_i2d _) hM.2.2.1 (by decide) (by decide) (by decide)) (by decide) (by decide) (by decide)) (by decide) (by decide) (by decide) (by decide)) (bd_mul (Ka := 1111) (Kb := 1014) (K := 1103) (bd_mul (Ka := 1069) (Kb := 1064) (K := 1111) (bd_mul (Ka := 1027) (Kb := 1064) (K := 1069) hM.2.2.2.2.1 (bd_mul (Ka := 1056) (Kb := 1030) (K := 1064) (bd_i2d _) hM.2.2.1 (by decide) (by decide) (by decide)) (by decide) (by decide) (by decide)) (bd_mul (Ka := 1056) (Kb := 1030) (K := 1064) (bd_i2d _) hM.2.2.1 (by decide) (by decide) (by decide)) (by decide) (by decide) (by decide)) (by decide) (by decide) (by decide) (by decide)) (by decide) (by decide) (by decide) (by decide)) hM.2.2.2.2.2.1 (by decide) (by decide) (by decide) (by decide)) (by decide)) ?_
    refine lv_d2l hx hb dX4_strength_77 ?_
    refine lv_lstore (lv' := [(7, .long (FP.d2l (FP.dsub (FP.dadd (FP.dadd (mv ((((2048 : Int32) * p1) + ((64 : Int32) * p2)) + p3).toNatClampNeg) (FP.dmul msp (fX4_range mm p3))) (FP.dmul (FP.dmul (FP.dmul msb (fX4_range mm p3)) (fX4_range mm p3)) (4562254508917369340 : UInt64))) mno))), (5, .double (fX4_range mm p3)), (4, .int ((((2048 : Int32) * p1) + ((64 : Int32) * p2)) + p3)), (0, .ref am), (1, .int p1), (2, .int p2), (3, .int p3)]) hx hb dX4_strength_78 hl (by decide) rfl (fun ls hl => ?_)
    refine lv_lload hx hb dX4_strength_80 (lv_at hl 0 rfl) ?_
    refine lv_lconst (v := 0) hx hb dX4_strength_82 rfl ?_
    refine W.lcmp hx hb dX4_strength_83 ?_
    refine lv_if_ge (tgt := 91) hx hb dX4_strength_84 (by decide) (fun c_84 => ?_) (fun c_84 => ?_)
    · refine lv_lload hx hb dX4_strength_91 (lv_at hl 0 rfl) ?_
      have hF9 : (fX4_strength mm msp msb mno mv mt ml p1 p2 p3) = (FP.d2l (FP.dsub (FP.dadd (FP.dadd (mv ((((2048 : Int32) * p1) + ((64 : Int32) * p2)) + p3).toNatClampNeg) (FP.dmul msp (fX4_range mm p3))) (FP.dmul (FP.dmul (FP.dmul msb (fX4_range mm p3)) (fX4_range mm p3)) (4562254508917369340 : UInt64))) mno)) := by rw [fX4_strength, if_neg c_21, if_pos c_30, if_pos c_84]
      have hP9 : va_P D vwCl (wM cyD cyI cyJ cyZ am bv bt bl be bdp bi bg bsd bsv bbd bbv br bu bw mn mm mch msp msb mno msn mbn mhr mro mv mt ml med md mi mg msd msv mbd mbv mr mu mw) H := hP
      have hD9 : va_D A (wM cyD cyI cyJ cyZ am bv bt bl be bdp bi bg bsd bsv bbd bbv br bu bw mn mm mch msp msb mno msn mbn mhr mro mv mt ml med md mi mg msd msv mbd mbv mr mu mw) := hD
      exact W.lret (v := (FP.d2l (FP.dsub (FP.dadd (FP.dadd (mv ((((2048 : Int32) * p1) + ((64 : Int32) * p2)) + p3).toNatClampNeg) (FP.dmul msp (fX4_range mm p3))) (FP.dmul (FP.dmul (FP.dmul msb (fX4_range mm p3)) (fX4_range mm p3)) (4562254508917369340 : UInt64))) mno))) hx hb hr (fun t ht hW => ⟨⟨(FP.d2l (FP.dsub (FP.dadd (FP.dadd (mv ((((2048 : Int32) * p1) + ((64 : Int32) * p2)) + p3).toNatClampNeg) (FP.dmul msp (fX4_range mm p3))) (FP.dmul (FP.dmul (FP.dmul msb (fX4_range mm p3)) (fX4_range mm p3)) (4562254508917369340 : UInt64))) mno)), (), rfl, (by rw [hF9]), by rw [ht]; exact hP9, va_K.moved hW.alike hK, hD9⟩, hS.F ht⟩) hS.2.2 dX4_strength_93
    refine lv_lconst (v := 0) hx hb dX4_strength_87 rfl ?_
    refine lv_goto (tgt := 93) hx hb dX4_strength_88 (by decide) ?_
    have hF9 : (fX4_strength mm msp msb mno mv mt ml p1 p2 p3) = (0 : Int64) := by rw [fX4_strength, if_neg c_21, if_pos c_30, if_neg c_84]
    have hP9 : va_P D vwCl (wM cyD cyI cyJ cyZ am bv bt bl be bdp bi bg bsd bsv bbd bbv br bu bw mn mm mch msp msb mno msn mbn mhr mro mv mt ml med md mi mg msd msv mbd mbv mr mu mw) H := hP
    have hD9 : va_D A (wM cyD cyI cyJ cyZ am bv bt bl be bdp bi bg bsd bsv bbd bbv br bu bw mn mm mch msp msb mno msn mbn mhr mro mv mt ml med md mi mg msd msv mbd mbv mr mu mw) := hD
    exact W.lret (v := (0 : Int64)) hx hb hr (fun t ht hW => ⟨⟨(0 : Int64), (), rfl, (by rw [hF9]), by rw [ht]; exact hP9, va_K.moved hW.alike hK, hD9⟩, hS.F ht⟩) hS.2.2 dX4_strength_93
  refine lv_lconst (v := 0) hx hb dX4_strength_33 rfl ?_
  have hF9 : (fX4_strength mm msp msb mno mv mt ml p1 p2 p3) = (0 : Int64) := by rw [fX4_strength, if_neg c_21, if_neg c_30]
  have hP9 : va_P D vwCl (wM cyD cyI cyJ cyZ am bv bt bl be bdp bi bg bsd bsv bbd bbv br bu bw mn mm mch msp msb mno msn mbn mhr mro mv mt ml med md mi mg msd msv mbd mbv mr mu mw) H := hP
  have hD9 : va_D A (wM cyD cyI cyJ cyZ am bv bt bl be bdp bi bg bsd bsv bbd bbv br bu bw mn mm mch msp msb mno msn mbn mhr mro mv mt ml med md mi mg msd msv mbd mbv mr mu mw) := hD
  exact W.lret (v := (0 : Int64)) hx hb hr (fun t ht hW => ⟨⟨(0 : Int64), (), rfl, (by rw [hF9]), by rw [ht]; exact hP9, va_K.moved hW.alike hK, hD9⟩, hS.F ht⟩) hS.2.2 dX4_strength_34
def fX4_isEmpty_L2 (mn : Nat) (mt : Nat → Int32)  (p1 : Int32) (p2 : Int32) : Nat → (Int32) → Int32
  | 0, v_j => 0
  | k + 1, v_j => if (nI mn) ≤ v_j then (1 : Int32) else (if (mt ((((2048 : Int32) * p1) + ((64 : Int32) * p2)) + v_j).toNatClampNeg) = 0 then (fX4_isEmpty_L2 mn mt p1 p2 k ((v_j) + 1)) else ((0 : Int32)))
def fX4_isEmpty (mn : Nat) (mt : Nat → Int32) (p1 : Int32) (p2 : Int32) : Int32 := (fX4_isEmpty_L2 mn mt p1 p2 65 (0 : Int32))
set_option maxHeartbeats 4000000 in
set_option maxRecDepth 100000 in
theorem c_X4_isEmpty {l : Launch} {D : va_G} {cyD cyI cyJ cyZ : ClassId} (am bv bt bl be bdp bi bg bsd bsv bbd bbv br bu bw : Nat) (mn : Nat) (mm : UInt64) (mch : Int32) (msp : UInt64) (msb : UInt64) (mno : UInt64) (msn : Int32) (mbn : Int32) (mhr : Int32) (mro : Int32) (mv : Nat → UInt64) (mt : Nat → Int32) (ml : Nat → Int32) (med : Nat → Int32) (md : Nat → UInt64) (mi : Nat → UInt64) (mg : Nat → UInt64) (msd : Nat → UInt64) (msv : Nat → UInt64) (mbd : Nat → UInt64) (mbv : Nat → UInt64) (mr : Nat → Int32) (mu : Nat → Int64) (mw : Nat → Int32) (sz : Nat) (p1 : Int32) (p2 : Int32) (hM : okM mn mm msp msb mno mv) (F : Nat) (hf : p1 = nI F) (hF4 : F < 4) (P : Nat) (hp : p2 = nI P) (hP32 : P < 32) : mZ l yX4_isEmpty wsX4_isEmpty ({ frames := 0, cells := 0, slots := 0, locals := 0 } : Room) D (kT cyD cyI cyJ cyZ) [.ref am, .int p1, .int p2] (wM cyD cyI cyJ cyZ am bv bt bl be bdp bi bg bsd bsv bbd bbv br bu bw mn mm mch msp msb mno msn mbn mhr mro mv mt ml med md mi mg msd msv mbd mbv mr mu mw) (wM cyD cyI cyJ cyZ am bv bt bl be bdp bi bg bsd bsv bbd bbv br bu bw mn mm mch msp msb mno msn mbn mhr mro mv mt ml med md mi mg msd msv mbd mbv mr mu mw) sz (fX4_isEmpty mn mt p1 p2) 0 0 := by
  refine Met.ofW (cc := cX4_isEmpty) (maxL := 4) (ret := (some .boolean)) (by decide) rfl ?_
  intro p e s m args below meth c s₁ B hml hv
  obtain ⟨rfl, hN, hsz, hP, hK, hD0⟩ := hv
  have hx := B.exec
  have hb := B.bytes
  have hr := B.returns
  have hts := atoms_spec (ws := wsX4_isEmpty) B.pre
  have hown : s.vm.findClass RX4 = some m.cls := findClass_of_methodNamed B.named
  have hlocks := B.notSynchronized
  subst hsz
  have hD := hD0.self (sz := s.heap.size)
  generalize hAe : va_A (wM cyD cyI cyJ cyZ am bv bt bl be bdp bi bg bsd bsv bbd bbv br bu bw mn mm mch msp msb mno msn mbn mhr mro mv mt ml med md mi mg msd msv mbd mbv mr mu mw) s.heap.size = A at hD ⊢
  have hA : ∀ q : Nat, s.heap.size ≤ q → A q := fun q h => by rw [← hAe]; exact Or.inr h
  have hS : va_S A s.heap s.heap [] := va_S.rf
  have hP : va_P D vwCl (wM cyD cyI cyJ cyZ am bv bt bl be bdp bi bg bsd bsv bbd bbv br bu bw mn mm mch msp msb mno msn mbn mhr mro mv mt ml med md mi mg msd msv mbd mbv mr mu mw) s.heap := hP
  have hl := lv_entry [.ref am, .int p1, .int p2] (n := 4) (Nat.le_of_ble_eq_true rfl)
  rw [lg_entry_eq]
  generalize (lg_sl [.ref am, .int p1, .int p2] ++ List.replicate (4 - (lg_sl [.ref am, .int p1, .int p2]).length) Slot.unset).toArray = ls at hl ⊢
  have hl : lv_has ls 4 [(0, .ref am), (1, .int p1), (2, .int p2)] := hl
  obtain ⟨H, hHe⟩ : ∃ H : Heap, H = s.heap := ⟨_, rfl⟩
  have hP : va_P D vwCl (wM cyD cyI cyJ cyZ am bv bt bl be bdp bi bg bsd bsv bbd bbv br bu bw mn mm mch msp msb mno msn mbn mhr mro mv mt ml med md mi mg msd msv mbd mbv mr mu mw) H := by rw [hHe]; exact hP
  have hS : va_S A s.heap H [] := by rw [hHe]; exact hS
  rw [← hHe]
  refine lv_iconst (v := 0) hx hb dX4_isEmpty_0 (by decide) ?_
  refine lv_istore_n (lv' := [(3, .int (0 : Int32)), (0, .ref am), (1, .int p1), (2, .int p2)]) hx hb dX4_isEmpty_1 rfl hl (by decide) rfl (fun ls hl => ?_)
  have loop_2 : ∀ (k : Nat) (j : Nat) (H : Heap) (locs : List Loc), (j + k = 65) → (j ≤ mn) → (fX4_isEmpty mn mt p1 p2) = fX4_isEmpty_L2 mn mt p1 p2 k ((nI j)) → va_P D vwCl (wM cyD cyI cyJ cyZ am bv bt bl be bdp bi bg bsd bsv bbd bbv br bu bw mn mm mch msp msb mno msn mbn mhr mro mv mt ml med md mi mg msd msv mbd mbv mr mu mw) H → va_D A (wM cyD cyI cyJ cyZ am bv bt bl be bdp bi bg bsd bsv bbd bbv br bu bw mn mm mch msp msb mno msn mbn mhr mro mv mt ml med md mi mg msd msv mbd mbv mr mu mw) → va_S A s.heap H locs → ∀ ls, lv_has ls 4 [(3, .int ((nI j))), (0, .ref am), (1, .int p1), (2, .int p2)] → W p l e (headSpec wsX4_isEmpty ({ frames := 0, cells := 0, slots := 0, locals := 0 } : Room)).room s m ([.ref am, .int p1, .int p2] : List Value).toArray below meth c H locs 0 0 (MQ below (va_Qi (fun (r : Int32) (_ : Unit) => r = (fX4_isEmpty mn mt p1 p2) ∧ (r = 0 ∨ r = 1)) (kE D (kT cyD cyI cyJ cyZ) (wM cyD cyI cyJ cyZ am bv bt bl be bdp bi bg bsd bsv bbd bbv br bu bw mn mm mch msp msb mno msn mbn mhr mro mv mt ml med md mi mg msd msv mbd mbv mr mu mw) A) A) ([.ref am, .int p1, .int p2] : List Value).toArray s 0 0 A) (F0 m 2 ls []) := by
    intro k_2
    induction k_2 with
    | zero => intro j H locs hj hj2 hF hP hD hS ls hl; exact absurd hM.2.1 (by omega)
    | succ k_2 ih_2 =>
      intro j H locs hj hj2 hF hP hD hS ls hl
      have hs64 := hM.2.1
      refine lv_iload_n hx hb dX4_isEmpty_2 rfl (lv_at hl 0 rfl) ?_
      refine lv_aload_n hx hb dX4_isEmpty_3 rfl (lv_at hl 1 rfl) ?_
      refine va_get (D := D) (ci := 4) (v := .int (nI mn)) (C := RX4) (T := TX4) (N := 24) hx hb hts (fun _ h => (List.mem_cons_of_mem _ (List.mem_append_right _ h))) hown hK hP 0 rfl rfl 0 (by decide) (hts (.fieldLink RX4 55 "BottomWalksModel" "samples" "I") (List.mem_of_getElem? (i := 1) rfl)) (fun _ h9 => h9) rfl dX4_isEmpty_4 ?_
      refine lv_icmp_ge (tgt := 38) hx hb dX4_isEmpty_7 (by decide) (fun c_7 => ?_) (fun c_7 => ?_)
      · refine lv_iconst (v := 1) hx hb dX4_isEmpty_38 (by decide) ?_
        have hF9 : (fX4_isEmpty mn mt p1 p2) = (1 : Int32) := by rw [hF, fX4_isEmpty_L2, if_pos c_7]
        have hP9 : va_P D vwCl (wM cyD cyI cyJ cyZ am bv bt bl be bdp bi bg bsd bsv bbd bbv br bu bw mn mm mch msp msb mno msn mbn mhr mro mv mt ml med md mi mg msd msv mbd mbv mr mu mw) H := hP
        have hD9 : va_D A (wM cyD cyI cyJ cyZ am bv bt bl be bdp bi bg bsd bsv bbd bbv br bu bw mn mm mch msp msb mno msn mbn mhr mro mv mt ml med md mi mg msd msv mbd mbv mr mu mw) := hD
        exact W.zret (v := (1 : Int32)) hx hb hr (nar_z (Or.inr rfl)) (fun t ht hW => ⟨⟨(1 : Int32), (), rfl, ⟨(by rw [hF9]), (Or.inr rfl)⟩, by rw [ht]; exact hP9, va_K.moved hW.alike hK, hD9⟩, hS.F ht⟩) hS.2.2 dX4_isEmpty_39
      refine lv_aload_n hx hb dX4_isEmpty_10 rfl (lv_at hl 1 rfl) ?_
      refine va_get (D := D) (ci := 4) (v := .ref bt) (C := RX4) (T := TX4) (N := 24) hx hb hts (fun _ h => (List.mem_cons_of_mem _ (List.mem_append_right _ h))) hown hK hP 0 rfl rfl 3 (by decide) (hts (.fieldLink RX4 13 "BottomWalksModel" "told" "[Z") (List.mem_of_getElem? (i := 2) rfl)) (fun _ h9 => h9) rfl dX4_isEmpty_11 ?_
      refine lv_sipush (v := 2048) hx hb dX4_isEmpty_14 (by decide) ?_
      refine lv_iload_n hx hb dX4_isEmpty_17 rfl (lv_at hl 2 rfl) ?_
      refine lv_imul hx hb dX4_isEmpty_18 ?_
      refine lv_bipush (v := 64) hx hb dX4_isEmpty_19 (by decide) ?_
      refine lv_iload_n hx hb dX4_isEmpty_21 rfl (lv_at hl 3 rfl) ?_
      refine lv_imul hx hb dX4_isEmpty_22 ?_
      refine lv_iadd hx hb dX4_isEmpty_23 ?_
      refine lv_iload_n hx hb dX4_isEmpty_24 rfl (lv_at hl 0 rfl) ?_
      refine lv_iadd hx hb dX4_isEmpty_25 ?_
      refine va_zald hx hb hK hP 2 3 rfl rfl (cellM_in hf hF4 hp hP32 (K := j) rfl (by have := Nat.lt_of_not_le (fun z => c_7 (nI_le (a := mn) z (by omega))); omega)) dX4_isEmpty_26 ?_
      refine lv_if_eq (tgt := 32) hx hb dX4_isEmpty_27 (by decide) (fun c_27 => ?_) (fun c_27 => ?_)
      · refine lv_iinc (v := (((nI j)) + 1)) (lv' := [(3, .int (((nI j)) + 1)), (0, .ref am), (1, .int p1), (2, .int p2)]) hx hb dX4_isEmpty_32 hl (k := 0) rfl rfl (by decide) rfl (fun ls hl => ?_)
        refine lv_goto (tgt := 2) hx hb dX4_isEmpty_35 (by decide) ?_
        exact ih_2 (j + 1) _ _ (by omega) (by have := Nat.lt_of_not_le (fun z => c_7 (nI_le (a := mn) z (by omega))); omega) (by rw [← nI_1 j]; rw [hF, fX4_isEmpty_L2, if_neg c_7, if_pos c_27]) hP hD hS _ (by rw [← nI_1 j]; exact lv_sub hl [0, 1, 2, 3] rfl)
      refine lv_iconst (v := 0) hx hb dX4_isEmpty_30 (by decide) ?_
      have hF9 : (fX4_isEmpty mn mt p1 p2) = (0 : Int32) := by rw [hF, fX4_isEmpty_L2, if_neg c_7, if_neg c_27]
      have hP9 : va_P D vwCl (wM cyD cyI cyJ cyZ am bv bt bl be bdp bi bg bsd bsv bbd bbv br bu bw mn mm mch msp msb mno msn mbn mhr mro mv mt ml med md mi mg msd msv mbd mbv mr mu mw) H := hP
      have hD9 : va_D A (wM cyD cyI cyJ cyZ am bv bt bl be bdp bi bg bsd bsv bbd bbv br bu bw mn mm mch msp msb mno msn mbn mhr mro mv mt ml med md mi mg msd msv mbd mbv mr mu mw) := hD
      exact W.zret (v := (0 : Int32)) hx hb hr (nar_z (Or.inl rfl)) (fun t ht hW => ⟨⟨(0 : Int32), (), rfl, ⟨(by rw [hF9]), (Or.inl rfl)⟩, by rw [ht]; exact hP9, va_K.moved hW.alike hK, hD9⟩, hS.F ht⟩) hS.2.2 dX4_isEmpty_31
  exact loop_2 65 0 _ _ rfl (Nat.zero_le _) (by rw [nI_0]; rw [fX4_isEmpty]) hP hD hS _ (by exact lv_sub hl [0, 1, 2, 3] rfl)
def fX4_empty (mn : Nat) (mch : Int32) (mt : Nat → Int32) (p1 : Int32) : Int32 := if (fX4_isPing p1) = 0 then (1 : Int32) else (if (fX4_isEmpty mn mt mch p1) = 0 then (0 : Int32) else ((1 : Int32)))
set_option maxHeartbeats 4000000 in
set_option maxRecDepth 100000 in
theorem c_X4_empty {l : Launch} {D : va_G} {cyD cyI cyJ cyZ : ClassId} (am bv bt bl be bdp bi bg bsd bsv bbd bbv br bu bw : Nat) (mn : Nat) (mm : UInt64) (mch : Int32) (msp : UInt64) (msb : UInt64) (mno : UInt64) (msn : Int32) (mbn : Int32) (mhr : Int32) (mro : Int32) (mv : Nat → UInt64) (mt : Nat → Int32) (ml : Nat → Int32) (med : Nat → Int32) (md : Nat → UInt64) (mi : Nat → UInt64) (mg : Nat → UInt64) (msd : Nat → UInt64) (msv : Nat → UInt64) (mbd : Nat → UInt64) (mbv : Nat → UInt64) (mr : Nat → Int32) (mu : Nat → Int64) (mw : Nat → Int32) (sz : Nat) (p1 : Int32) (hM : okM mn mm msp msb mno mv) (C : Nat) (hmc : mch = nI C) (hC4 : C < 4) : mZ l yX4_empty wsX4_empty ({ frames := 1, cells := 0, slots := 0, locals := 23 } : Room) D (kT cyD cyI cyJ cyZ) [.ref am, .int p1] (wM cyD cyI cyJ cyZ am bv bt bl be bdp bi bg bsd bsv bbd bbv br bu bw mn mm mch msp msb mno msn mbn mhr mro mv mt ml med md mi mg msd msv mbd mbv mr mu mw) (wM cyD cyI cyJ cyZ am bv bt bl be bdp bi bg bsd bsv bbd bbv br bu bw mn mm mch msp msb mno msn mbn mhr mro mv mt ml med md mi mg msd msv mbd mbv mr mu mw) sz (fX4_empty mn mch mt p1) 0 0 := by
  refine Met.ofW (cc := cX4_empty) (maxL := 2) (ret := (some .boolean)) (by decide) rfl ?_
  intro p e s m args below meth c s₁ B hml hv
  obtain ⟨rfl, hN, hsz, hP, hK, hD0⟩ := hv
  have hx := B.exec
  have hb := B.bytes
  have hr := B.returns
  have hts := atoms_spec (ws := wsX4_empty) B.pre
  have hown : s.vm.findClass RX4 = some m.cls := findClass_of_methodNamed B.named
  have hlocks := B.notSynchronized
  subst hsz
  have hD := hD0.self (sz := s.heap.size)
  generalize hAe : va_A (wM cyD cyI cyJ cyZ am bv bt bl be bdp bi bg bsd bsv bbd bbv br bu bw mn mm mch msp msb mno msn mbn mhr mro mv mt ml med md mi mg msd msv mbd mbv mr mu mw) s.heap.size = A at hD ⊢
  have hA : ∀ q : Nat, s.heap.size ≤ q → A q := fun q h => by rw [← hAe]; exact Or.inr h
  have hS : va_S A s.heap s.heap [] := va_S.rf
  have hP : va_P D vwCl (wM cyD cyI cyJ cyZ am bv bt bl be bdp bi bg bsd bsv bbd bbv br bu bw mn mm mch msp msb mno msn mbn mhr mro mv mt ml med md mi mg msd msv mbd mbv mr mu mw) s.heap := hP
  have hl := lv_entry [.ref am, .int p1] (n := 2) (Nat.le_of_ble_eq_true rfl)
  rw [lg_entry_eq]
  generalize (lg_sl [.ref am, .int p1] ++ List.replicate (2 - (lg_sl [.ref am, .int p1]).length) Slot.unset).toArray = ls at hl ⊢
  have hl : lv_has ls 2 [(0, .ref am), (1, .int p1)] := hl
  obtain ⟨H, hHe⟩ : ∃ H : Heap, H = s.heap := ⟨_, rfl⟩
  have hP : va_P D vwCl (wM cyD cyI cyJ cyZ am bv bt bl be bdp bi bg bsd bsv bbd bbv br bu bw mn mm mch msp msb mno msn mbn mhr mro mv mt ml med md mi mg msd msv mbd mbv mr mu mw) H := by rw [hHe]; exact hP
  have hS : va_S A s.heap H [] := by rw [hHe]; exact hS
  rw [← hHe]
  refine lv_iload_n hx hb dX4_empty_0 rfl (lv_at hl 1 rfl) ?_
  have hPc : va_P D vwCl [] H := hP.sub [] rfl
  have hDc : va_D A [] := hD.sub [] (by decide) rfl
  refine kzE (ws' := (wM cyD cyI cyJ cyZ am bv bt bl be bdp bi bg bsd bsv bbd bbv br bu bw mn mm mch msp msb mno msn mbn mhr mro mv mt ml med md mi mg msd msv mbd mbv mr mu mw)) (wc := []) (wr := [(am, .inr (4, [.int (nI mn), .double mm, .ref bv, .ref bt, .ref bl, .ref be, .ref bdp, .ref bi, .ref bg, .int mch, .double msp, .double msb, .double mno, .int msn, .ref bsd, .ref bsv, .int mbn, .ref bbd, .ref bbv, .int mhr, .int mro, .ref br, .ref bu, .ref bw])), (bv, .inl (cyD, 8192, .inr (.inr (.inr (.inl mv))))), (bt, .inl (cyZ, 8192, .inl mt)), (bl, .inl (cyZ, 32, .inl ml)), (be, .inl (cyZ, 32, .inl med)), (bdp, .inl (cyD, 32, .inr (.inr (.inr (.inl md))))), (bi, .inl (cyD, 32, .inr (.inr (.inr (.inl mi))))), (bg, .inl (cyD, 32, .inr (.inr (.inr (.inl mg))))), (bsd, .inl (cyD, 21, .inr (.inr (.inr (.inl msd))))), (bsv, .inl (cyD, 21, .inr (.inr (.inr (.inl msv))))), (bbd, .inl (cyD, 21, .inr (.inr (.inr (.inl mbd))))), (bbv, .inl (cyD, 21, .inr (.inr (.inr (.inl mbv))))), (br, .inl (cyI, 32, .inl mr)), (bu, .inl (cyJ, 2048, .inr (.inl mu))), (bw, .inl (cyI, 32, .inl mw))]) (w1 := []) (va_runS (As := [.int p1]) (rest := []) ⟨hx, hb, hml, hown, hts⟩ (c_X4_isPing (l := l) (D := D) (cyD := cyD) (cyI := cyI) (cyJ := cyJ) (cyZ := cyZ) H.size p1) (va_cwS 1 hts gX4_empty_X4_isPing rfl rfl rfl (by decide +kernel) ⟨Nat.le_of_ble_eq_true rfl, Nat.le_of_ble_eq_true rfl⟩) (kS hN hK hPc hDc) rfl rfl hl.1 rfl (lv_room (Nat.le_of_ble_eq_true rfl)) dX4_empty_1 ⟨Nat.le_of_ble_eq_true rfl, Nat.le_of_ble_eq_true rfl⟩) hP hD hS hA [] [0, 1, 2, 3, 4, 5, 6, 7, 8, 9, 10, 11, 12, 13, 14] [0, 1, 2, 3, 4, 5, 6, 7, 8, 9, 10, 11, 12, 13, 14] rfl rfl (by decide) (by decide) rfl (by decide) (fun H locs hz_1 hP hD hS => ?_)
  refine lv_if_eq (tgt := 19) hx hb dX4_empty_4 (by decide) (fun c_4 => ?_) (fun c_4 => ?_)
  · refine lv_iconst (v := 1) hx hb dX4_empty_19 (by decide) ?_
    refine lv_goto (tgt := 24) hx hb dX4_empty_20 (by decide) ?_
    have hF9 : (fX4_empty mn mch mt p1) = (1 : Int32) := by rw [fX4_empty, if_pos c_4]
    have hP9 : va_P D vwCl (wM cyD cyI cyJ cyZ am bv bt bl be bdp bi bg bsd bsv bbd bbv br bu bw mn mm mch msp msb mno msn mbn mhr mro mv mt ml med md mi mg msd msv mbd mbv mr mu mw) H := hP
    have hD9 : va_D A (wM cyD cyI cyJ cyZ am bv bt bl be bdp bi bg bsd bsv bbd bbv br bu bw mn mm mch msp msb mno msn mbn mhr mro mv mt ml med md mi mg msd msv mbd mbv mr mu mw) := hD
    exact W.zret (v := (1 : Int32)) hx hb hr (nar_z (Or.inr rfl)) (fun t ht hW => ⟨⟨(1 : Int32), (), rfl, ⟨(by rw [hF9]), (Or.inr rfl)⟩, by rw [ht]; exact hP9, va_K.moved hW.alike hK, hD9⟩, hS.F ht⟩) hS.2.2 dX4_empty_24
  refine lv_aload_n hx hb dX4_empty_7 rfl (lv_at hl 0 rfl) ?_
  refine lv_aload_n hx hb dX4_empty_8 rfl (lv_at hl 0 rfl) ?_
  refine va_get (D := D) (ci := 4) (v := .int mch) (C := RX4) (T := TX4) (N := 24) hx hb hts (fun _ h => (List.mem_cons_of_mem _ (List.mem_append_right _ h))) hown hK hP 0 rfl rfl 9 (by decide) (hts (.fieldLink RX4 78 "BottomWalksModel" "chosen" "I") (List.mem_of_getElem? (i := 1) rfl)) (fun _ h9 => h9) rfl dX4_empty_9 ?_
  refine lv_iload_n hx hb dX4_empty_12 rfl (lv_at hl 1 rfl) ?_
  have hPc : va_P D vwCl (wM cyD cyI cyJ cyZ am bv bt bl be bdp bi bg bsd bsv bbd bbv br bu bw mn mm mch msp msb mno msn mbn mhr mro mv mt ml med md mi mg msd msv mbd mbv mr mu mw) H := hP.sub [0, 1, 2, 3, 4, 5, 6, 7, 8, 9, 10, 11, 12, 13, 14] rfl
  have hDc : va_D A (wM cyD cyI cyJ cyZ am bv bt bl be bdp bi bg bsd bsv bbd bbv br bu bw mn mm mch msp msb mno msn mbn mhr mro mv mt ml med md mi mg msd msv mbd mbv mr mu mw) := hD.sub [0, 1, 2, 3, 4, 5, 6, 7, 8, 9, 10, 11, 12, 13, 14] (by decide) rfl
  refine kzE (ws' := (wM cyD cyI cyJ cyZ am bv bt bl be bdp bi bg bsd bsv bbd bbv br bu bw mn mm mch msp msb mno msn mbn mhr mro mv mt ml med md mi mg msd msv mbd mbv mr mu mw)) (wc := (wM cyD cyI cyJ cyZ am bv bt bl be bdp bi bg bsd bsv bbd bbv br bu bw mn mm mch msp msb mno msn mbn mhr mro mv mt ml med md mi mg msd msv mbd mbv mr mu mw)) (wr := []) (w1 := (wM cyD cyI cyJ cyZ am bv bt bl be bdp bi bg bsd bsv bbd bbv br bu bw mn mm mch msp msb mno msn mbn mhr mro mv mt ml med md mi mg msd msv mbd mbv mr mu mw)) (va_runV (As := [.int mch, .int p1]) (rest := []) ⟨hx, hb, hml, hown, hts⟩ (c_X4_isEmpty (l := l) (D := D) (cyD := cyD) (cyI := cyI) (cyJ := cyJ) (cyZ := cyZ) am bv bt bl be bdp bi bg bsd bsv bbd bbv br bu bw mn mm mch msp msb mno msn mbn mhr mro mv mt ml med md mi mg msd msv mbd mbv mr mu mw H.size mch p1 hM C hmc hC4 (pingM c_4).choose (pingM c_4).choose_spec.1 (pingM c_4).choose_spec.2) (cwV 2 hts gX4_empty_X4_isEmpty rfl rfl rfl (by decide +kernel) ⟨Nat.le_of_ble_eq_true rfl, Nat.le_of_ble_eq_true rfl⟩) (kV (ci := 4) (q0 := 0) (q := (RX4, TX4, 24)) hN hK hPc hDc rfl rfl rfl) rfl rfl hl.1 rfl (lv_room (Nat.le_of_ble_eq_true rfl)) dX4_empty_13 ⟨Nat.le_of_ble_eq_true rfl, Nat.le_of_ble_eq_true rfl⟩) hP hD hS hA [0, 1, 2, 3, 4, 5, 6, 7, 8, 9, 10, 11, 12, 13, 14] [] [0, 1, 2, 3, 4, 5, 6, 7, 8, 9, 10, 11, 12, 13, 14] rfl rfl (by decide) (by decide) rfl (by decide) (fun H locs hz_13 hP hD hS => ?_)
  refine lv_if_eq (tgt := 23) hx hb dX4_empty_16 (by decide) (fun c_16 => ?_) (fun c_16 => ?_)
  · refine lv_iconst (v := 0) hx hb dX4_empty_23 (by decide) ?_
    have hF9 : (fX4_empty mn mch mt p1) = (0 : Int32) := by rw [fX4_empty, if_neg c_4, if_pos c_16]
    have hP9 : va_P D vwCl (wM cyD cyI cyJ cyZ am bv bt bl be bdp bi bg bsd bsv bbd bbv br bu bw mn mm mch msp msb mno msn mbn mhr mro mv mt ml med md mi mg msd msv mbd mbv mr mu mw) H := hP
    have hD9 : va_D A (wM cyD cyI cyJ cyZ am bv bt bl be bdp bi bg bsd bsv bbd bbv br bu bw mn mm mch msp msb mno msn mbn mhr mro mv mt ml med md mi mg msd msv mbd mbv mr mu mw) := hD
    exact W.zret (v := (0 : Int32)) hx hb hr (nar_z (Or.inl rfl)) (fun t ht hW => ⟨⟨(0 : Int32), (), rfl, ⟨(by rw [hF9]), (Or.inl rfl)⟩, by rw [ht]; exact hP9, va_K.moved hW.alike hK, hD9⟩, hS.F ht⟩) hS.2.2 dX4_empty_24
  refine lv_iconst (v := 1) hx hb dX4_empty_19 (by decide) ?_
  refine lv_goto (tgt := 24) hx hb dX4_empty_20 (by decide) ?_
  have hF9 : (fX4_empty mn mch mt p1) = (1 : Int32) := by rw [fX4_empty, if_neg c_4, if_neg c_16]
  have hP9 : va_P D vwCl (wM cyD cyI cyJ cyZ am bv bt bl be bdp bi bg bsd bsv bbd bbv br bu bw mn mm mch msp msb mno msn mbn mhr mro mv mt ml med md mi mg msd msv mbd mbv mr mu mw) H := hP
  have hD9 : va_D A (wM cyD cyI cyJ cyZ am bv bt bl be bdp bi bg bsd bsv bbd bbv br bu bw mn mm mch msp msb mno msn mbn mhr mro mv mt ml med md mi mg msd msv mbd mbv mr mu mw) := hD
  exact W.zret (v := (1 : Int32)) hx hb hr (nar_z (Or.inr rfl)) (fun t ht hW => ⟨⟨(1 : Int32), (), rfl, ⟨(by rw [hF9]), (Or.inr rfl)⟩, by rw [ht]; exact hP9, va_K.moved hW.alike hK, hD9⟩, hS.F ht⟩) hS.2.2 dX4_empty_24
def fX4_counting_L2 (mn : Nat) (mm : UInt64) (md : Nat → UInt64)  (p1 : Int32) : Nat → (Int32) → Int32
  | 0, v_j => 0
  | k + 1, v_j => if ((nI mn) - (1 : Int32)) ≤ v_j then v_j else (if 0 ≤ (Op.cmpValue (FP.dcmp (fX4_range mm (v_j)) (md p1.toNatClampNeg)) CmpOp.g) then v_j else ((fX4_counting_L2 mn mm md p1 k ((v_j) + 1))))
def fX4_counting (mn : Nat) (mm : UInt64) (md : Nat → UInt64) (p1 : Int32) : Int32 := (fX4_counting_L2 mn mm md p1 65 (0 : Int32))
set_option maxHeartbeats 4000000 in
set_option maxRecDepth 100000 in
theorem c_X4_counting {l : Launch} {D : va_G} {cyD cyI cyJ cyZ : ClassId} (am bv bt bl be bdp bi bg bsd bsv bbd bbv br bu bw : Nat) (mn : Nat) (mm : UInt64) (mch : Int32) (msp : UInt64) (msb : UInt64) (mno : UInt64) (msn : Int32) (mbn : Int32) (mhr : Int32) (mro : Int32) (mv : Nat → UInt64) (mt : Nat → Int32) (ml : Nat → Int32) (med : Nat → Int32) (md : Nat → UInt64) (mi : Nat → UInt64) (mg : Nat → UInt64) (msd : Nat → UInt64) (msv : Nat → UInt64) (mbd : Nat → UInt64) (mbv : Nat → UInt64) (mr : Nat → Int32) (mu : Nat → Int64) (mw : Nat → Int32) (sz : Nat) (p1 : Int32) (hM : okM mn mm msp msb mno mv) (P : Nat) (hp : p1 = nI P) (hP32 : P < 32) : mI l yX4_counting wsX4_counting ({ frames := 1, cells := 0, slots := 0, locals := 21 } : Room) D (kT cyD cyI cyJ cyZ) [.ref am, .int p1] (wM cyD cyI cyJ cyZ am bv bt bl be bdp bi bg bsd bsv bbd bbv br bu bw mn mm mch msp msb mno msn mbn mhr mro mv mt ml med md mi mg msd msv mbd mbv mr mu mw) (wM cyD cyI cyJ cyZ am bv bt bl be bdp bi bg bsd bsv bbd bbv br bu bw mn mm mch msp msb mno msn mbn mhr mro mv mt ml med md mi mg msd msv mbd mbv mr mu mw) sz (fX4_counting mn mm md p1) 0 0 := by
  refine Met.ofW (cc := cX4_counting) (maxL := 3) (ret := (some .int)) (by decide) rfl ?_
  intro p e s m args below meth c s₁ B hml hv
  obtain ⟨rfl, hN, hsz, hP, hK, hD0⟩ := hv
  have hx := B.exec
  have hb := B.bytes
  have hr := B.returns
  have hts := atoms_spec (ws := wsX4_counting) B.pre
  have hown : s.vm.findClass RX4 = some m.cls := findClass_of_methodNamed B.named
  have hlocks := B.notSynchronized
  subst hsz
  have hD := hD0.self (sz := s.heap.size)
  generalize hAe : va_A (wM cyD cyI cyJ cyZ am bv bt bl be bdp bi bg bsd bsv bbd bbv br bu bw mn mm mch msp msb mno msn mbn mhr mro mv mt ml med md mi mg msd msv mbd mbv mr mu mw) s.heap.size = A at hD ⊢
  have hA : ∀ q : Nat, s.heap.size ≤ q → A q := fun q h => by rw [← hAe]; exact Or.inr h
  have hS : va_S A s.heap s.heap [] := va_S.rf
  have hP : va_P D vwCl (wM cyD cyI cyJ cyZ am bv bt bl be bdp bi bg bsd bsv bbd bbv br bu bw mn mm mch msp msb mno msn mbn mhr mro mv mt ml med md mi mg msd msv mbd mbv mr mu mw) s.heap := hP
  have hl := lv_entry [.ref am, .int p1] (n := 3) (Nat.le_of_ble_eq_true rfl)
  rw [lg_entry_eq]
  generalize (lg_sl [.ref am, .int p1] ++ List.replicate (3 - (lg_sl [.ref am, .int p1]).length) Slot.unset).toArray = ls at hl ⊢
  have hl : lv_has ls 3 [(0, .ref am), (1, .int p1)] := hl
  obtain ⟨H, hHe⟩ : ∃ H : Heap, H = s.heap := ⟨_, rfl⟩
  have hP : va_P D vwCl (wM cyD cyI cyJ cyZ am bv bt bl be bdp bi bg bsd bsv bbd bbv br bu bw mn mm mch msp msb mno msn mbn mhr mro mv mt ml med md mi mg msd msv mbd mbv mr mu mw) H := by rw [hHe]; exact hP
  have hS : va_S A s.heap H [] := by rw [hHe]; exact hS
  rw [← hHe]
  refine lv_iconst (v := 0) hx hb dX4_counting_0 (by decide) ?_
  refine lv_istore_n (lv' := [(2, .int (0 : Int32)), (0, .ref am), (1, .int p1)]) hx hb dX4_counting_1 rfl hl (by decide) rfl (fun ls hl => ?_)
  have loop_2 : ∀ (k : Nat) (j : Nat) (H : Heap) (locs : List Loc), (j + k = 65) → (j < mn) → (fX4_counting mn mm md p1) = fX4_counting_L2 mn mm md p1 k ((nI j)) → va_P D vwCl (wM cyD cyI cyJ cyZ am bv bt bl be bdp bi bg bsd bsv bbd bbv br bu bw mn mm mch msp msb mno msn mbn mhr mro mv mt ml med md mi mg msd msv mbd mbv mr mu mw) H → va_D A (wM cyD cyI cyJ cyZ am bv bt bl be bdp bi bg bsd bsv bbd bbv br bu bw mn mm mch msp msb mno msn mbn mhr mro mv mt ml med md mi mg msd msv mbd mbv mr mu mw) → va_S A s.heap H locs → ∀ ls, lv_has ls 3 [(2, .int ((nI j))), (0, .ref am), (1, .int p1)] → W p l e (headSpec wsX4_counting ({ frames := 1, cells := 0, slots := 0, locals := 21 } : Room)).room s m ([.ref am, .int p1] : List Value).toArray below meth c H locs 0 0 (MQ below (va_Qi (fun (r : Int32) (_ : Unit) => r = (fX4_counting mn mm md p1)) (kE D (kT cyD cyI cyJ cyZ) (wM cyD cyI cyJ cyZ am bv bt bl be bdp bi bg bsd bsv bbd bbv br bu bw mn mm mch msp msb mno msn mbn mhr mro mv mt ml med md mi mg msd msv mbd mbv mr mu mw) A) A) ([.ref am, .int p1] : List Value).toArray s 0 0 A) (F0 m 2 ls []) := by
    intro k_2
    induction k_2 with
    | zero => intro j H locs hj hj2 hF hP hD hS ls hl; exact absurd hM.2.1 (by omega)
    | succ k_2 ih_2 =>
      intro j H locs hj hj2 hF hP hD hS ls hl
      have hs64 := hM.2.1
      refine lv_iload_n hx hb dX4_counting_2 rfl (lv_at hl 0 rfl) ?_
      refine lv_aload_n hx hb dX4_counting_3 rfl (lv_at hl 1 rfl) ?_
      refine va_get (D := D) (ci := 4) (v := .int (nI mn)) (C := RX4) (T := TX4) (N := 24) hx hb hts (fun _ h => (List.mem_cons_of_mem _ (List.mem_append_right _ h))) hown hK hP 0 rfl rfl 0 (by decide) (hts (.fieldLink RX4 55 "BottomWalksModel" "samples" "I") (List.mem_of_getElem? (i := 1) rfl)) (fun _ h9 => h9) rfl dX4_counting_4 ?_
      refine lv_iconst (v := 1) hx hb dX4_counting_7 (by decide) ?_
      refine lv_isub hx hb dX4_counting_8 ?_
      refine lv_icmp_ge (tgt := 33) hx hb dX4_counting_9 (by decide) (fun c_9 => ?_) (fun c_9 => ?_)
      · refine lv_iload_n hx hb dX4_counting_33 rfl (lv_at hl 0 rfl) ?_
        have hF9 : (fX4_counting mn mm md p1) = (nI j) := by rw [hF, fX4_counting_L2, if_pos c_9]
        have hP9 : va_P D vwCl (wM cyD cyI cyJ cyZ am bv bt bl be bdp bi bg bsd bsv bbd bbv br bu bw mn mm mch msp msb mno msn mbn mhr mro mv mt ml med md mi mg msd msv mbd mbv mr mu mw) H := hP
        have hD9 : va_D A (wM cyD cyI cyJ cyZ am bv bt bl be bdp bi bg bsd bsv bbd bbv br bu bw mn mm mch msp msb mno msn mbn mhr mro mv mt ml med md mi mg msd msv mbd mbv mr mu mw) := hD
        exact W.iret (v := (nI j)) hx hb hr (fun t ht hW => ⟨⟨(nI j), (), rfl, (by rw [hF9]), by rw [ht]; exact hP9, va_K.moved hW.alike hK, hD9⟩, hS.F ht⟩) hS.2.2 dX4_counting_34
      refine lv_aload_n hx hb dX4_counting_12 rfl (lv_at hl 1 rfl) ?_
      refine lv_iload_n hx hb dX4_counting_13 rfl (lv_at hl 0 rfl) ?_
      have hPc : va_P D vwCl (wM cyD cyI cyJ cyZ am bv bt bl be bdp bi bg bsd bsv bbd bbv br bu bw mn mm mch msp msb mno msn mbn mhr mro mv mt ml med md mi mg msd msv mbd mbv mr mu mw) H := hP.sub [0, 1, 2, 3, 4, 5, 6, 7, 8, 9, 10, 11, 12, 13, 14] rfl
      have hDc : va_D A (wM cyD cyI cyJ cyZ am bv bt bl be bdp bi bg bsd bsv bbd bbv br bu bw mn mm mch msp msb mno msn mbn mhr mro mv mt ml med md mi mg msd msv mbd mbv mr mu mw) := hD.sub [0, 1, 2, 3, 4, 5, 6, 7, 8, 9, 10, 11, 12, 13, 14] (by decide) rfl
      refine kdE (ws' := (wM cyD cyI cyJ cyZ am bv bt bl be bdp bi bg bsd bsv bbd bbv br bu bw mn mm mch msp msb mno msn mbn mhr mro mv mt ml med md mi mg msd msv mbd mbv mr mu mw)) (wc := (wM cyD cyI cyJ cyZ am bv bt bl be bdp bi bg bsd bsv bbd bbv br bu bw mn mm mch msp msb mno msn mbn mhr mro mv mt ml med md mi mg msd msv mbd mbv mr mu mw)) (wr := []) (w1 := (wM cyD cyI cyJ cyZ am bv bt bl be bdp bi bg bsd bsv bbd bbv br bu bw mn mm mch msp msb mno msn mbn mhr mro mv mt ml med md mi mg msd msv mbd mbv mr mu mw)) (va_runV (As := [.int ((nI j))]) (rest := []) ⟨hx, hb, hml, hown, hts⟩ (c_X4_range (l := l) (D := D) (cyD := cyD) (cyI := cyI) (cyJ := cyJ) (cyZ := cyZ) am bv bt bl be bdp bi bg bsd bsv bbd bbv br bu bw mn mm mch msp msb mno msn mbn mhr mro mv mt ml med md mi mg msd msv mbd mbv mr mu mw H.size ((nI j)) hM.2.2.1) (cwV 1 hts gX4_counting_X4_range rfl rfl rfl (by decide +kernel) ⟨Nat.le_of_ble_eq_true rfl, Nat.le_of_ble_eq_true rfl⟩) (kV (ci := 4) (q0 := 0) (q := (RX4, TX4, 24)) hN hK hPc hDc rfl rfl rfl) rfl rfl hl.1 rfl (lv_room (Nat.le_of_ble_eq_true rfl)) dX4_counting_14 ⟨Nat.le_of_ble_eq_true rfl, Nat.le_of_ble_eq_true rfl⟩) hP hD hS hA [0, 1, 2, 3, 4, 5, 6, 7, 8, 9, 10, 11, 12, 13, 14] [] [0, 1, 2, 3, 4, 5, 6, 7, 8, 9, 10, 11, 12, 13, 14] rfl rfl (by decide) (by decide) rfl (by decide) (fun H locs hP hD hS => ?_)
      refine lv_aload_n hx hb dX4_counting_17 rfl (lv_at hl 1 rfl) ?_
      refine va_get (D := D) (ci := 4) (v := .ref bdp) (C := RX4) (T := TX4) (N := 24) hx hb hts (fun _ h => (List.mem_cons_of_mem _ (List.mem_append_right _ h))) hown hK hP 0 rfl rfl 6 (by decide) (hts (.fieldLink RX4 23 "BottomWalksModel" "depths" "[D") (List.mem_of_getElem? (i := 2) rfl)) (fun _ h9 => h9) rfl dX4_counting_18 ?_
      refine lv_iload_n hx hb dX4_counting_21 rfl (lv_at hl 2 rfl) ?_
      refine va_dald hx hb hK hP 5 0 rfl rfl (nI_in' hp hP32 (by decide)) dX4_counting_22 ?_
      refine lv_dcmp hx hb dX4_counting_23 ?_
      refine lv_if_ge (tgt := 33) hx hb dX4_counting_24 (by decide) (fun c_24 => ?_) (fun c_24 => ?_)
      · refine lv_iload_n hx hb dX4_counting_33 rfl (lv_at hl 0 rfl) ?_
        have hF9 : (fX4_counting mn mm md p1) = (nI j) := by rw [hF, fX4_counting_L2, if_neg c_9, if_pos c_24]
        have hP9 : va_P D vwCl (wM cyD cyI cyJ cyZ am bv bt bl be bdp bi bg bsd bsv bbd bbv br bu bw mn mm mch msp msb mno msn mbn mhr mro mv mt ml med md mi mg msd msv mbd mbv mr mu mw) H := hP
        have hD9 : va_D A (wM cyD cyI cyJ cyZ am bv bt bl be bdp bi bg bsd bsv bbd bbv br bu bw mn mm mch msp msb mno msn mbn mhr mro mv mt ml med md mi mg msd msv mbd mbv mr mu mw) := hD
        exact W.iret (v := (nI j)) hx hb hr (fun t ht hW => ⟨⟨(nI j), (), rfl, (by rw [hF9]), by rw [ht]; exact hP9, va_K.moved hW.alike hK, hD9⟩, hS.F ht⟩) hS.2.2 dX4_counting_34
      refine lv_iinc (v := (((nI j)) + 1)) (lv' := [(2, .int (((nI j)) + 1)), (0, .ref am), (1, .int p1)]) hx hb dX4_counting_27 hl (k := 0) rfl rfl (by decide) rfl (fun ls hl => ?_)
      refine lv_goto (tgt := 2) hx hb dX4_counting_30 (by decide) ?_
      exact ih_2 (j + 1) _ _ (by omega) (by rw [nI_sub1 hM.1] at c_9; have := Nat.lt_of_not_le (fun q => c_9 (nI_le q (by omega))); omega) (by rw [← nI_1 j]; rw [hF, fX4_counting_L2, if_neg c_9, if_neg c_24]) hP hD hS _ (by rw [← nI_1 j]; exact lv_sub hl [0, 1, 2] rfl)
  exact loop_2 65 0 _ _ rfl (by have := hM.1; omega) (by rw [nI_0]; rw [fX4_counting]) hP hD hS _ (by exact lv_sub hl [0, 1, 2] rfl)
def fX4_mayStand (mn : Nat) (mm : UInt64) (med : Nat → Int32) (md : Nat → UInt64) (p1 : Int32) (p2 : Int32) : Int32 := if (med p1.toNatClampNeg) = 0 then (1 : Int32) else (if (fX4_counting mn mm md p1) = p2 then (1 : Int32) else ((0 : Int32)))
set_option maxHeartbeats 4000000 in
set_option maxRecDepth 100000 in
theorem c_X4_mayStand {l : Launch} {D : va_G} {cyD cyI cyJ cyZ : ClassId} (am bv bt bl be bdp bi bg bsd bsv bbd bbv br bu bw : Nat) (mn : Nat) (mm : UInt64) (mch : Int32) (msp : UInt64) (msb : UInt64) (mno : UInt64) (msn : Int32) (mbn : Int32) (mhr : Int32) (mro : Int32) (mv : Nat → UInt64) (mt : Nat → Int32) (ml : Nat → Int32) (med : Nat → Int32) (md : Nat → UInt64) (mi : Nat → UInt64) (mg : Nat → UInt64) (msd : Nat → UInt64) (msv : Nat → UInt64) (mbd : Nat → UInt64) (mbv : Nat → UInt64) (mr : Nat → Int32) (mu : Nat → Int64) (mw : Nat → Int32) (sz : Nat) (p1 : Int32) (p2 : Int32) (hM : okM mn mm msp msb mno mv) (P : Nat) (hp : p1 = nI P) (hP32 : P < 32) : mZ l yX4_mayStand wsX4_mayStand ({ frames := 2, cells := 0, slots := 0, locals := 43 } : Room) D (kT cyD cyI cyJ cyZ) [.ref am, .int p1, .int p2] (wM cyD cyI cyJ cyZ am bv bt bl be bdp bi bg bsd bsv bbd bbv br bu bw mn mm mch msp msb mno msn mbn mhr mro mv mt ml med md mi mg msd msv mbd mbv mr mu mw) (wM cyD cyI cyJ cyZ am bv bt bl be bdp bi bg bsd bsv bbd bbv br bu bw mn mm mch msp msb mno msn mbn mhr mro mv mt ml med md mi mg msd msv mbd mbv mr mu mw) sz (fX4_mayStand mn mm med md p1 p2) 0 0 := by
  refine Met.ofW (cc := cX4_mayStand) (maxL := 3) (ret := (some .boolean)) (by decide) rfl ?_
  intro p e s m args below meth c s₁ B hml hv
  obtain ⟨rfl, hN, hsz, hP, hK, hD0⟩ := hv
  have hx := B.exec
  have hb := B.bytes
  have hr := B.returns
  have hts := atoms_spec (ws := wsX4_mayStand) B.pre
  have hown : s.vm.findClass RX4 = some m.cls := findClass_of_methodNamed B.named
  have hlocks := B.notSynchronized
  subst hsz
  have hD := hD0.self (sz := s.heap.size)
  generalize hAe : va_A (wM cyD cyI cyJ cyZ am bv bt bl be bdp bi bg bsd bsv bbd bbv br bu bw mn mm mch msp msb mno msn mbn mhr mro mv mt ml med md mi mg msd msv mbd mbv mr mu mw) s.heap.size = A at hD ⊢
  have hA : ∀ q : Nat, s.heap.size ≤ q → A q := fun q h => by rw [← hAe]; exact Or.inr h
  have hS : va_S A s.heap s.heap [] := va_S.rf
  have hP : va_P D vwCl (wM cyD cyI cyJ cyZ am bv bt bl be bdp bi bg bsd bsv bbd bbv br bu bw mn mm mch msp msb mno msn mbn mhr mro mv mt ml med md mi mg msd msv mbd mbv mr mu mw) s.heap := hP
  have hl := lv_entry [.ref am, .int p1, .int p2] (n := 3) (Nat.le_of_ble_eq_true rfl)
  rw [lg_entry_eq]
  generalize (lg_sl [.ref am, .int p1, .int p2] ++ List.replicate (3 - (lg_sl [.ref am, .int p1, .int p2]).length) Slot.unset).toArray = ls at hl ⊢
  have hl : lv_has ls 3 [(0, .ref am), (1, .int p1), (2, .int p2)] := hl
  obtain ⟨H, hHe⟩ : ∃ H : Heap, H = s.heap := ⟨_, rfl⟩
  have hP : va_P D vwCl (wM cyD cyI cyJ cyZ am bv bt bl be bdp bi bg bsd bsv bbd bbv br bu bw mn mm mch msp msb mno msn mbn mhr mro mv mt ml med md mi mg msd msv mbd mbv mr mu mw) H := by rw [hHe]; exact hP
  have hS : va_S A s.heap H [] := by rw [hHe]; exact hS
  rw [← hHe]
  refine lv_aload_n hx hb dX4_mayStand_0 rfl (lv_at hl 0 rfl) ?_
  refine va_get (D := D) (ci := 4) (v := .ref be) (C := RX4) (T := TX4) (N := 24) hx hb hts (fun _ h => (List.mem_cons_of_mem _ (List.mem_append_right _ h))) hown hK hP 0 rfl rfl 5 (by decide) (hts (.fieldLink RX4 20 "BottomWalksModel" "isEdited" "[Z") (List.mem_of_getElem? (i := 1) rfl)) (fun _ h9 => h9) rfl dX4_mayStand_1 ?_
  refine lv_iload_n hx hb dX4_mayStand_4 rfl (lv_at hl 1 rfl) ?_
  refine va_zald hx hb hK hP 4 3 rfl rfl (nI_in' hp hP32 (by decide)) dX4_mayStand_5 ?_
  refine lv_if_eq (tgt := 18) hx hb dX4_mayStand_6 (by decide) (fun c_6 => ?_) (fun c_6 => ?_)
  · refine lv_iconst (v := 1) hx hb dX4_mayStand_18 (by decide) ?_
    refine lv_goto (tgt := 23) hx hb dX4_mayStand_19 (by decide) ?_
    have hF9 : (fX4_mayStand mn mm med md p1 p2) = (1 : Int32) := by rw [fX4_mayStand, if_pos c_6]
    have hP9 : va_P D vwCl (wM cyD cyI cyJ cyZ am bv bt bl be bdp bi bg bsd bsv bbd bbv br bu bw mn mm mch msp msb mno msn mbn mhr mro mv mt ml med md mi mg msd msv mbd mbv mr mu mw) H := hP
    have hD9 : va_D A (wM cyD cyI cyJ cyZ am bv bt bl be bdp bi bg bsd bsv bbd bbv br bu bw mn mm mch msp msb mno msn mbn mhr mro mv mt ml med md mi mg msd msv mbd mbv mr mu mw) := hD
    exact W.zret (v := (1 : Int32)) hx hb hr (nar_z (Or.inr rfl)) (fun t ht hW => ⟨⟨(1 : Int32), (), rfl, ⟨(by rw [hF9]), (Or.inr rfl)⟩, by rw [ht]; exact hP9, va_K.moved hW.alike hK, hD9⟩, hS.F ht⟩) hS.2.2 dX4_mayStand_23
  refine lv_aload_n hx hb dX4_mayStand_9 rfl (lv_at hl 0 rfl) ?_
  refine lv_iload_n hx hb dX4_mayStand_10 rfl (lv_at hl 1 rfl) ?_
  have hPc : va_P D vwCl (wM cyD cyI cyJ cyZ am bv bt bl be bdp bi bg bsd bsv bbd bbv br bu bw mn mm mch msp msb mno msn mbn mhr mro mv mt ml med md mi mg msd msv mbd mbv mr mu mw) H := hP.sub [0, 1, 2, 3, 4, 5, 6, 7, 8, 9, 10, 11, 12, 13, 14] rfl
  have hDc : va_D A (wM cyD cyI cyJ cyZ am bv bt bl be bdp bi bg bsd bsv bbd bbv br bu bw mn mm mch msp msb mno msn mbn mhr mro mv mt ml med md mi mg msd msv mbd mbv mr mu mw) := hD.sub [0, 1, 2, 3, 4, 5, 6, 7, 8, 9, 10, 11, 12, 13, 14] (by decide) rfl
  refine kiE (ws' := (wM cyD cyI cyJ cyZ am bv bt bl be bdp bi bg bsd bsv bbd bbv br bu bw mn mm mch msp msb mno msn mbn mhr mro mv mt ml med md mi mg msd msv mbd mbv mr mu mw)) (wc := (wM cyD cyI cyJ cyZ am bv bt bl be bdp bi bg bsd bsv bbd bbv br bu bw mn mm mch msp msb mno msn mbn mhr mro mv mt ml med md mi mg msd msv mbd mbv mr mu mw)) (wr := []) (w1 := (wM cyD cyI cyJ cyZ am bv bt bl be bdp bi bg bsd bsv bbd bbv br bu bw mn mm mch msp msb mno msn mbn mhr mro mv mt ml med md mi mg msd msv mbd mbv mr mu mw)) (va_runV (As := [.int p1]) (rest := []) ⟨hx, hb, hml, hown, hts⟩ (c_X4_counting (l := l) (D := D) (cyD := cyD) (cyI := cyI) (cyJ := cyJ) (cyZ := cyZ) am bv bt bl be bdp bi bg bsd bsv bbd bbv br bu bw mn mm mch msp msb mno msn mbn mhr mro mv mt ml med md mi mg msd msv mbd mbv mr mu mw H.size p1 hM P hp hP32) (cwV 1 hts gX4_mayStand_X4_counting rfl rfl rfl (by decide +kernel) ⟨Nat.le_of_ble_eq_true rfl, Nat.le_of_ble_eq_true rfl⟩) (kV (ci := 4) (q0 := 0) (q := (RX4, TX4, 24)) hN hK hPc hDc rfl rfl rfl) rfl rfl hl.1 rfl (lv_room (Nat.le_of_ble_eq_true rfl)) dX4_mayStand_11 ⟨Nat.le_of_ble_eq_true rfl, Nat.le_of_ble_eq_true rfl⟩) hP hD hS hA [0, 1, 2, 3, 4, 5, 6, 7, 8, 9, 10, 11, 12, 13, 14] [] [0, 1, 2, 3, 4, 5, 6, 7, 8, 9, 10, 11, 12, 13, 14] rfl rfl (by decide) (by decide) rfl (by decide) (fun H locs hP hD hS => ?_)
  refine lv_iload_n hx hb dX4_mayStand_14 rfl (lv_at hl 2 rfl) ?_
  refine lv_icmp_ne (tgt := 22) hx hb dX4_mayStand_15 (by decide) (fun c_15 => ?_) (fun c_15 => ?_)
  · refine lv_iconst (v := 0) hx hb dX4_mayStand_22 (by decide) ?_
    have hF9 : (fX4_mayStand mn mm med md p1 p2) = (0 : Int32) := by rw [fX4_mayStand, if_neg c_6, if_neg c_15]
    have hP9 : va_P D vwCl (wM cyD cyI cyJ cyZ am bv bt bl be bdp bi bg bsd bsv bbd bbv br bu bw mn mm mch msp msb mno msn mbn mhr mro mv mt ml med md mi mg msd msv mbd mbv mr mu mw) H := hP
    have hD9 : va_D A (wM cyD cyI cyJ cyZ am bv bt bl be bdp bi bg bsd bsv bbd bbv br bu bw mn mm mch msp msb mno msn mbn mhr mro mv mt ml med md mi mg msd msv mbd mbv mr mu mw) := hD
    exact W.zret (v := (0 : Int32)) hx hb hr (nar_z (Or.inl rfl)) (fun t ht hW => ⟨⟨(0 : Int32), (), rfl, ⟨(by rw [hF9]), (Or.inl rfl)⟩, by rw [ht]; exact hP9, va_K.moved hW.alike hK, hD9⟩, hS.F ht⟩) hS.2.2 dX4_mayStand_23
  refine lv_iconst (v := 1) hx hb dX4_mayStand_18 (by decide) ?_
  refine lv_goto (tgt := 23) hx hb dX4_mayStand_19 (by decide) ?_
  have hF9 : (fX4_mayStand mn mm med md p1 p2) = (1 : Int32) := by rw [fX4_mayStand, if_neg c_6, if_pos c_15]
  have hP9 : va_P D vwCl (wM cyD cyI cyJ cyZ am bv bt bl be bdp bi bg bsd bsv bbd bbv br bu bw mn mm mch msp msb mno msn mbn mhr mro mv mt ml med md mi mg msd msv mbd mbv mr mu mw) H := hP
  have hD9 : va_D A (wM cyD cyI cyJ cyZ am bv bt bl be bdp bi bg bsd bsv bbd bbv br bu bw mn mm mch msp msb mno msn mbn mhr mro mv mt ml med md mi mg msd msv mbd mbv mr mu mw) := hD
  exact W.zret (v := (1 : Int32)) hx hb hr (nar_z (Or.inr rfl)) (fun t ht hW => ⟨⟨(1 : Int32), (), rfl, ⟨(by rw [hF9]), (Or.inr rfl)⟩, by rw [ht]; exact hP9, va_K.moved hW.alike hK, hD9⟩, hS.F ht⟩) hS.2.2 dX4_mayStand_23
def fX4_mayFollow_L19 (med : Nat → Int32)  (p1 : Int32) (p2 : Int32) (p3 : Int32) (p4 : Int32) (p5 : Int32) : Nat → (Int32) → Int32
  | 0, v_ff => 0
  | k + 1, v_ff => if (med p1.toNatClampNeg) = 0 then (if (med p3.toNatClampNeg) = 0 then (if p5 < v_ff then (0 : Int32) else ((1 : Int32))) else ((1 : Int32))) else ((1 : Int32))
def fX4_mayFollow (med : Nat → Int32) (p1 : Int32) (p2 : Int32) (p3 : Int32) (p4 : Int32) (p5 : Int32) : Int32 := if p4 ≤ p2 then (fX4_mayFollow_L19 med p1 p2 p3 p4 p5 1 (p2 - p4)) else ((fX4_mayFollow_L19 med p1 p2 p3 p4 p5 1 (p4 - p2)))
set_option maxHeartbeats 4000000 in
set_option maxRecDepth 100000 in
theorem c_X4_mayFollow {l : Launch} {D : va_G} {cyD cyI cyJ cyZ : ClassId} (am bv bt bl be bdp bi bg bsd bsv bbd bbv br bu bw : Nat) (mn : Nat) (mm : UInt64) (mch : Int32) (msp : UInt64) (msb : UInt64) (mno : UInt64) (msn : Int32) (mbn : Int32) (mhr : Int32) (mro : Int32) (mv : Nat → UInt64) (mt : Nat → Int32) (ml : Nat → Int32) (med : Nat → Int32) (md : Nat → UInt64) (mi : Nat → UInt64) (mg : Nat → UInt64) (msd : Nat → UInt64) (msv : Nat → UInt64) (mbd : Nat → UInt64) (mbv : Nat → UInt64) (mr : Nat → Int32) (mu : Nat → Int64) (mw : Nat → Int32) (sz : Nat) (p1 : Int32) (p2 : Int32) (p3 : Int32) (p4 : Int32) (p5 : Int32) (P : Nat) (hp : p1 = nI P) (hP32 : P < 32) (Q9 : Nat) (hq : p3 = nI Q9) (hQ32 : Q9 < 32) : mZ l yX4_mayFollow wsX4_mayFollow ({ frames := 0, cells := 0, slots := 0, locals := 0 } : Room) D (kT cyD cyI cyJ cyZ) [.ref am, .int p1, .int p2, .int p3, .int p4, .int p5] (wM cyD cyI cyJ cyZ am bv bt bl be bdp bi bg bsd bsv bbd bbv br bu bw mn mm mch msp msb mno msn mbn mhr mro mv mt ml med md mi mg msd msv mbd mbv mr mu mw) (wM cyD cyI cyJ cyZ am bv bt bl be bdp bi bg bsd bsv bbd bbv br bu bw mn mm mch msp msb mno msn mbn mhr mro mv mt ml med md mi mg msd msv mbd mbv mr mu mw) sz (fX4_mayFollow med p1 p2 p3 p4 p5) 0 0 := by
  refine Met.ofW (cc := cX4_mayFollow) (maxL := 7) (ret := (some .boolean)) (by decide) rfl ?_
  intro p e s m args below meth c s₁ B hml hv
  obtain ⟨rfl, hN, hsz, hP, hK, hD0⟩ := hv
  have hx := B.exec
  have hb := B.bytes
  have hr := B.returns
  have hts := atoms_spec (ws := wsX4_mayFollow) B.pre
  have hown : s.vm.findClass RX4 = some m.cls := findClass_of_methodNamed B.named
  have hlocks := B.notSynchronized
  subst hsz
  have hD := hD0.self (sz := s.heap.size)
  generalize hAe : va_A (wM cyD cyI cyJ cyZ am bv bt bl be bdp bi bg bsd bsv bbd bbv br bu bw mn mm mch msp msb mno msn mbn mhr mro mv mt ml med md mi mg msd msv mbd mbv mr mu mw) s.heap.size = A at hD ⊢
  have hA : ∀ q : Nat, s.heap.size ≤ q → A q := fun q h => by rw [← hAe]; exact Or.inr h
  have hS : va_S A s.heap s.heap [] := va_S.rf
  have hP : va_P D vwCl (wM cyD cyI cyJ cyZ am bv bt bl be bdp bi bg bsd bsv bbd bbv br bu bw mn mm mch msp msb mno msn mbn mhr mro mv mt ml med md mi mg msd msv mbd mbv mr mu mw) s.heap := hP
  have hl := lv_entry [.ref am, .int p1, .int p2, .int p3, .int p4, .int p5] (n := 7) (Nat.le_of_ble_eq_true rfl)
  rw [lg_entry_eq]
  generalize (lg_sl [.ref am, .int p1, .int p2, .int p3, .int p4, .int p5] ++ List.replicate (7 - (lg_sl [.ref am, .int p1, .int p2, .int p3, .int p4, .int p5]).length) Slot.unset).toArray = ls at hl ⊢
  have hl : lv_has ls 7 [(0, .ref am), (1, .int p1), (2, .int p2), (3, .int p3), (4, .int p4), (5, .int p5)] := hl
  obtain ⟨H, hHe⟩ : ∃ H : Heap, H = s.heap := ⟨_, rfl⟩
  have hP : va_P D vwCl (wM cyD cyI cyJ cyZ am bv bt bl be bdp bi bg bsd bsv bbd bbv br bu bw mn mm mch msp msb mno msn mbn mhr mro mv mt ml med md mi mg msd msv mbd mbv mr mu mw) H := by rw [hHe]; exact hP
  have hS : va_S A s.heap H [] := by rw [hHe]; exact hS
  rw [← hHe]
  refine lv_iload_n hx hb dX4_mayFollow_0 rfl (lv_at hl 2 rfl) ?_
  refine lv_iload hx hb dX4_mayFollow_1 (lv_at hl 4 rfl) ?_
  refine lv_icmp_ge (tgt := 13) hx hb dX4_mayFollow_3 (by decide) (fun c_3 => ?_) (fun c_3 => ?_)
  · refine lv_iload_n hx hb dX4_mayFollow_13 rfl (lv_at hl 2 rfl) ?_
    refine lv_iload hx hb dX4_mayFollow_14 (lv_at hl 4 rfl) ?_
    refine lv_isub hx hb dX4_mayFollow_16 ?_
    refine lv_istore (lv' := [(6, .int (p2 - p4)), (0, .ref am), (1, .int p1), (2, .int p2), (3, .int p3), (4, .int p4), (5, .int p5)]) hx hb dX4_mayFollow_17 hl (by decide) rfl (fun ls hl => ?_)
    have loop_19 : ∀ (k : Nat) (ff : Int32) (H : Heap) (locs : List Loc), (k = 1) → (fX4_mayFollow med p1 p2 p3 p4 p5) = fX4_mayFollow_L19 med p1 p2 p3 p4 p5 k (ff) → va_P D vwCl (wM cyD cyI cyJ cyZ am bv bt bl be bdp bi bg bsd bsv bbd bbv br bu bw mn mm mch msp msb mno msn mbn mhr mro mv mt ml med md mi mg msd msv mbd mbv mr mu mw) H → va_D A (wM cyD cyI cyJ cyZ am bv bt bl be bdp bi bg bsd bsv bbd bbv br bu bw mn mm mch msp msb mno msn mbn mhr mro mv mt ml med md mi mg msd msv mbd mbv mr mu mw) → va_S A s.heap H locs → ∀ ls, lv_has ls 7 [(6, .int (ff)), (0, .ref am), (1, .int p1), (2, .int p2), (3, .int p3), (4, .int p4), (5, .int p5)] → W p l e (headSpec wsX4_mayFollow ({ frames := 0, cells := 0, slots := 0, locals := 0 } : Room)).room s m ([.ref am, .int p1, .int p2, .int p3, .int p4, .int p5] : List Value).toArray below meth c H locs 0 0 (MQ below (va_Qi (fun (r : Int32) (_ : Unit) => r = (fX4_mayFollow med p1 p2 p3 p4 p5) ∧ (r = 0 ∨ r = 1)) (kE D (kT cyD cyI cyJ cyZ) (wM cyD cyI cyJ cyZ am bv bt bl be bdp bi bg bsd bsv bbd bbv br bu bw mn mm mch msp msb mno msn mbn mhr mro mv mt ml med md mi mg msd msv mbd mbv mr mu mw) A) A) ([.ref am, .int p1, .int p2, .int p3, .int p4, .int p5] : List Value).toArray s 0 0 A) (F0 m 19 ls []) := by
      intro k_19
      induction k_19 with
      | zero => intro ff H locs hkk hF hP hD hS ls hl; exact absurd hkk (by decide)
      | succ k_19 ih_19 =>
        intro ff H locs hkk hF hP hD hS ls hl
        refine lv_aload_n hx hb dX4_mayFollow_19 rfl (lv_at hl 1 rfl) ?_
        refine va_get (D := D) (ci := 4) (v := .ref be) (C := RX4) (T := TX4) (N := 24) hx hb hts (fun _ h => (List.mem_cons_of_mem _ (List.mem_append_right _ h))) hown hK hP 0 rfl rfl 5 (by decide) (hts (.fieldLink RX4 20 "BottomWalksModel" "isEdited" "[Z") (List.mem_of_getElem? (i := 1) rfl)) (fun _ h9 => h9) rfl dX4_mayFollow_20 ?_
        refine lv_iload_n hx hb dX4_mayFollow_23 rfl (lv_at hl 2 rfl) ?_
        refine va_zald hx hb hK hP 4 3 rfl rfl (nI_in' hp hP32 (by decide)) dX4_mayFollow_24 ?_
        refine lv_if_ne (tgt := 44) hx hb dX4_mayFollow_25 (by decide) (fun c_25 => ?_) (fun c_25 => ?_)
        · refine lv_iconst (v := 1) hx hb dX4_mayFollow_44 (by decide) ?_
          refine lv_goto (tgt := 49) hx hb dX4_mayFollow_45 (by decide) ?_
          have hF9 : (fX4_mayFollow med p1 p2 p3 p4 p5) = (1 : Int32) := by rw [hF, fX4_mayFollow_L19, if_neg c_25]
          have hP9 : va_P D vwCl (wM cyD cyI cyJ cyZ am bv bt bl be bdp bi bg bsd bsv bbd bbv br bu bw mn mm mch msp msb mno msn mbn mhr mro mv mt ml med md mi mg msd msv mbd mbv mr mu mw) H := hP
          have hD9 : va_D A (wM cyD cyI cyJ cyZ am bv bt bl be bdp bi bg bsd bsv bbd bbv br bu bw mn mm mch msp msb mno msn mbn mhr mro mv mt ml med md mi mg msd msv mbd mbv mr mu mw) := hD
          exact W.zret (v := (1 : Int32)) hx hb hr (nar_z (Or.inr rfl)) (fun t ht hW => ⟨⟨(1 : Int32), (), rfl, ⟨(by rw [hF9]), (Or.inr rfl)⟩, by rw [ht]; exact hP9, va_K.moved hW.alike hK, hD9⟩, hS.F ht⟩) hS.2.2 dX4_mayFollow_49
        refine lv_aload_n hx hb dX4_mayFollow_28 rfl (lv_at hl 1 rfl) ?_
        refine va_get (D := D) (ci := 4) (v := .ref be) (C := RX4) (T := TX4) (N := 24) hx hb hts (fun _ h => (List.mem_cons_of_mem _ (List.mem_append_right _ h))) hown hK hP 0 rfl rfl 5 (by decide) (hts (.fieldLink RX4 20 "BottomWalksModel" "isEdited" "[Z") (List.mem_of_getElem? (i := 1) rfl)) (fun _ h9 => h9) rfl dX4_mayFollow_29 ?_
        refine lv_iload_n hx hb dX4_mayFollow_32 rfl (lv_at hl 4 rfl) ?_
        refine va_zald hx hb hK hP 4 3 rfl rfl (nI_in' hq hQ32 (by decide)) dX4_mayFollow_33 ?_
        refine lv_if_ne (tgt := 44) hx hb dX4_mayFollow_34 (by decide) (fun c_34 => ?_) (fun c_34 => ?_)
        · refine lv_iconst (v := 1) hx hb dX4_mayFollow_44 (by decide) ?_
          refine lv_goto (tgt := 49) hx hb dX4_mayFollow_45 (by decide) ?_
          have hF9 : (fX4_mayFollow med p1 p2 p3 p4 p5) = (1 : Int32) := by rw [hF, fX4_mayFollow_L19, if_pos c_25, if_neg c_34]
          have hP9 : va_P D vwCl (wM cyD cyI cyJ cyZ am bv bt bl be bdp bi bg bsd bsv bbd bbv br bu bw mn mm mch msp msb mno msn mbn mhr mro mv mt ml med md mi mg msd msv mbd mbv mr mu mw) H := hP
          have hD9 : va_D A (wM cyD cyI cyJ cyZ am bv bt bl be bdp bi bg bsd bsv bbd bbv br bu bw mn mm mch msp msb mno msn mbn mhr mro mv mt ml med md mi mg msd msv mbd mbv mr mu mw) := hD
          exact W.zret (v := (1 : Int32)) hx hb hr (nar_z (Or.inr rfl)) (fun t ht hW => ⟨⟨(1 : Int32), (), rfl, ⟨(by rw [hF9]), (Or.inr rfl)⟩, by rw [ht]; exact hP9, va_K.moved hW.alike hK, hD9⟩, hS.F ht⟩) hS.2.2 dX4_mayFollow_49
        refine lv_iload hx hb dX4_mayFollow_37 (lv_at hl 0 rfl) ?_
        refine lv_iload hx hb dX4_mayFollow_39 (lv_at hl 6 rfl) ?_
        refine lv_icmp_gt (tgt := 48) hx hb dX4_mayFollow_41 (by decide) (fun c_41 => ?_) (fun c_41 => ?_)
        · refine lv_iconst (v := 0) hx hb dX4_mayFollow_48 (by decide) ?_
          have hF9 : (fX4_mayFollow med p1 p2 p3 p4 p5) = (0 : Int32) := by rw [hF, fX4_mayFollow_L19, if_pos c_25, if_pos c_34, if_pos c_41]
          have hP9 : va_P D vwCl (wM cyD cyI cyJ cyZ am bv bt bl be bdp bi bg bsd bsv bbd bbv br bu bw mn mm mch msp msb mno msn mbn mhr mro mv mt ml med md mi mg msd msv mbd mbv mr mu mw) H := hP
          have hD9 : va_D A (wM cyD cyI cyJ cyZ am bv bt bl be bdp bi bg bsd bsv bbd bbv br bu bw mn mm mch msp msb mno msn mbn mhr mro mv mt ml med md mi mg msd msv mbd mbv mr mu mw) := hD
          exact W.zret (v := (0 : Int32)) hx hb hr (nar_z (Or.inl rfl)) (fun t ht hW => ⟨⟨(0 : Int32), (), rfl, ⟨(by rw [hF9]), (Or.inl rfl)⟩, by rw [ht]; exact hP9, va_K.moved hW.alike hK, hD9⟩, hS.F ht⟩) hS.2.2 dX4_mayFollow_49
        refine lv_iconst (v := 1) hx hb dX4_mayFollow_44 (by decide) ?_
        refine lv_goto (tgt := 49) hx hb dX4_mayFollow_45 (by decide) ?_
        have hF9 : (fX4_mayFollow med p1 p2 p3 p4 p5) = (1 : Int32) := by rw [hF, fX4_mayFollow_L19, if_pos c_25, if_pos c_34, if_neg c_41]
        have hP9 : va_P D vwCl (wM cyD cyI cyJ cyZ am bv bt bl be bdp bi bg bsd bsv bbd bbv br bu bw mn mm mch msp msb mno msn mbn mhr mro mv mt ml med md mi mg msd msv mbd mbv mr mu mw) H := hP
        have hD9 : va_D A (wM cyD cyI cyJ cyZ am bv bt bl be bdp bi bg bsd bsv bbd bbv br bu bw mn mm mch msp msb mno msn mbn mhr mro mv mt ml med md mi mg msd msv mbd mbv mr mu mw) := hD
        exact W.zret (v := (1 : Int32)) hx hb hr (nar_z (Or.inr rfl)) (fun t ht hW => ⟨⟨(1 : Int32), (), rfl, ⟨(by rw [hF9]), (Or.inr rfl)⟩, by rw [ht]; exact hP9, va_K.moved hW.alike hK, hD9⟩, hS.F ht⟩) hS.2.2 dX4_mayFollow_49
    exact loop_19 1 (p2 - p4) _ _ rfl (by rw [fX4_mayFollow, if_pos c_3]) hP hD hS _ (by exact lv_sub hl [0, 1, 2, 3, 4, 5, 6] rfl)
  refine lv_iload hx hb dX4_mayFollow_6 (lv_at hl 4 rfl) ?_
  refine lv_iload_n hx hb dX4_mayFollow_8 rfl (lv_at hl 2 rfl) ?_
  refine lv_isub hx hb dX4_mayFollow_9 ?_
  refine lv_goto (tgt := 17) hx hb dX4_mayFollow_10 (by decide) ?_
  refine lv_istore (lv' := [(6, .int (p4 - p2)), (0, .ref am), (1, .int p1), (2, .int p2), (3, .int p3), (4, .int p4), (5, .int p5)]) hx hb dX4_mayFollow_17 hl (by decide) rfl (fun ls hl => ?_)
  have loop_19 : ∀ (k : Nat) (ff : Int32) (H : Heap) (locs : List Loc), (k = 1) → (fX4_mayFollow med p1 p2 p3 p4 p5) = fX4_mayFollow_L19 med p1 p2 p3 p4 p5 k (ff) → va_P D vwCl (wM cyD cyI cyJ cyZ am bv bt bl be bdp bi bg bsd bsv bbd bbv br bu bw mn mm mch msp msb mno msn mbn mhr mro mv mt ml med md mi mg msd msv mbd mbv mr mu mw) H → va_D A (wM cyD cyI cyJ cyZ am bv bt bl be bdp bi bg bsd bsv bbd bbv br bu bw mn mm mch msp msb mno msn mbn mhr mro mv mt ml med md mi mg msd msv mbd mbv mr mu mw) → va_S A s.heap H locs → ∀ ls, lv_has ls 7 [(6, .int (ff)), (0, .ref am), (1, .int p1), (2, .int p2), (3, .int p3), (4, .int p4), (5, .int p5)] → W p l e (headSpec wsX4_mayFollow ({ frames := 0, cells := 0, slots := 0, locals := 0 } : Room)).room s m ([.ref am, .int p1, .int p2, .int p3, .int p4, .int p5] : List Value).toArray below meth c H locs 0 0 (MQ below (va_Qi (fun (r : Int32) (_ : Unit) => r = (fX4_mayFollow med p1 p2 p3 p4 p5) ∧ (r = 0 ∨ r = 1)) (kE D (kT cyD cyI cyJ cyZ) (wM cyD cyI cyJ cyZ am bv bt bl be bdp bi bg bsd bsv bbd bbv br bu bw mn mm mch msp msb mno msn mbn mhr mro mv mt ml med md mi mg msd msv mbd mbv mr mu mw) A) A) ([.ref am, .int p1, .int p2, .int p3, .int p4, .int p5] : List Value).toArray s 0 0 A) (F0 m 19 ls []) := by
    intro k_19
    induction k_19 with
    | zero => intro ff H locs hkk hF hP hD hS ls hl; exact absurd hkk (by decide)
    | succ k_19 ih_19 =>
      intro ff H locs hkk hF hP hD hS ls hl
      refine lv_aload_n hx hb dX4_mayFollow_19 rfl (lv_at hl 1 rfl) ?_
      refine va_get (D := D) (ci := 4) (v := .ref be) (C := RX4) (T := TX4) (N := 24) hx hb hts (fun _ h => (List.mem_cons_of_mem _ (List.mem_append_right _ h))) hown hK hP 0 rfl rfl 5 (by decide) (hts (.fieldLink RX4 20 "BottomWalksModel" "isEdited" "[Z") (List.mem_of_getElem? (i := 1) rfl)) (fun _ h9 => h9) rfl dX4_mayFollow_20 ?_
      refine lv_iload_n hx hb dX4_mayFollow_23 rfl (lv_at hl 2 rfl) ?_
      refine va_zald hx hb hK hP 4 3 rfl rfl (nI_in' hp hP32 (by decide)) dX4_mayFollow_24 ?_
      refine lv_if_ne (tgt := 44) hx hb dX4_mayFollow_25 (by decide) (fun c_25 => ?_) (fun c_25 => ?_)
      · refine lv_iconst (v := 1) hx hb dX4_mayFollow_44 (by decide) ?_
        refine lv_goto (tgt := 49) hx hb dX4_mayFollow_45 (by decide) ?_
        have hF9 : (fX4_mayFollow med p1 p2 p3 p4 p5) = (1 : Int32) := by rw [hF, fX4_mayFollow_L19, if_neg c_25]
        have hP9 : va_P D vwCl (wM cyD cyI cyJ cyZ am bv bt bl be bdp bi bg bsd bsv bbd bbv br bu bw mn mm mch msp msb mno msn mbn mhr mro mv mt ml med md mi mg msd msv mbd mbv mr mu mw) H := hP
        have hD9 : va_D A (wM cyD cyI cyJ cyZ am bv bt bl be bdp bi bg bsd bsv bbd bbv br bu bw mn mm mch msp msb mno msn mbn mhr mro mv mt ml med md mi mg msd msv mbd mbv mr mu mw) := hD
        exact W.zret (v := (1 : Int32)) hx hb hr (nar_z (Or.inr rfl)) (fun t ht hW => ⟨⟨(1 : Int32), (), rfl, ⟨(by rw [hF9]), (Or.inr rfl)⟩, by rw [ht]; exact hP9, va_K.moved hW.alike hK, hD9⟩, hS.F ht⟩) hS.2.2 dX4_mayFollow_49
      refine lv_aload_n hx hb dX4_mayFollow_28 rfl (lv_at hl 1 rfl) ?_
      refine va_get (D := D) (ci := 4) (v := .ref be) (C := RX4) (T := TX4) (N := 24) hx hb hts (fun _ h => (List.mem_cons_of_mem _ (List.mem_append_right _ h))) hown hK hP 0 rfl rfl 5 (by decide) (hts (.fieldLink RX4 20 "BottomWalksModel" "isEdited" "[Z") (List.mem_of_getElem? (i := 1) rfl)) (fun _ h9 => h9) rfl dX4_mayFollow_29 ?_
      refine lv_iload_n hx hb dX4_mayFollow_32 rfl (lv_at hl 4 rfl) ?_
      refine va_zald hx hb hK hP 4 3 rfl rfl (nI_in' hq hQ32 (by decide)) dX4_mayFollow_33 ?_
      refine lv_if_ne (tgt := 44) hx hb dX4_mayFollow_34 (by decide) (fun c_34 => ?_) (fun c_34 => ?_)
      · refine lv_iconst (v := 1) hx hb dX4_mayFollow_44 (by decide) ?_
        refine lv_goto (tgt := 49) hx hb dX4_mayFollow_45 (by decide) ?_
        have hF9 : (fX4_mayFollow med p1 p2 p3 p4 p5) = (1 : Int32) := by rw [hF, fX4_mayFollow_L19, if_pos c_25, if_neg c_34]
        have hP9 : va_P D vwCl (wM cyD cyI cyJ cyZ am bv bt bl be bdp bi bg bsd bsv bbd bbv br bu bw mn mm mch msp msb mno msn mbn mhr mro mv mt ml med md mi mg msd msv mbd mbv mr mu mw) H := hP
        have hD9 : va_D A (wM cyD cyI cyJ cyZ am bv bt bl be bdp bi bg bsd bsv bbd bbv br bu bw mn mm mch msp msb mno msn mbn mhr mro mv mt ml med md mi mg msd msv mbd mbv mr mu mw) := hD
        exact W.zret (v := (1 : Int32)) hx hb hr (nar_z (Or.inr rfl)) (fun t ht hW => ⟨⟨(1 : Int32), (), rfl, ⟨(by rw [hF9]), (Or.inr rfl)⟩, by rw [ht]; exact hP9, va_K.moved hW.alike hK, hD9⟩, hS.F ht⟩) hS.2.2 dX4_mayFollow_49
      refine lv_iload hx hb dX4_mayFollow_37 (lv_at hl 0 rfl) ?_
      refine lv_iload hx hb dX4_mayFollow_39 (lv_at hl 6 rfl) ?_
      refine lv_icmp_gt (tgt := 48) hx hb dX4_mayFollow_41 (by decide) (fun c_41 => ?_) (fun c_41 => ?_)
      · refine lv_iconst (v := 0) hx hb dX4_mayFollow_48 (by decide) ?_
        have hF9 : (fX4_mayFollow med p1 p2 p3 p4 p5) = (0 : Int32) := by rw [hF, fX4_mayFollow_L19, if_pos c_25, if_pos c_34, if_pos c_41]
        have hP9 : va_P D vwCl (wM cyD cyI cyJ cyZ am bv bt bl be bdp bi bg bsd bsv bbd bbv br bu bw mn mm mch msp msb mno msn mbn mhr mro mv mt ml med md mi mg msd msv mbd mbv mr mu mw) H := hP
        have hD9 : va_D A (wM cyD cyI cyJ cyZ am bv bt bl be bdp bi bg bsd bsv bbd bbv br bu bw mn mm mch msp msb mno msn mbn mhr mro mv mt ml med md mi mg msd msv mbd mbv mr mu mw) := hD
        exact W.zret (v := (0 : Int32)) hx hb hr (nar_z (Or.inl rfl)) (fun t ht hW => ⟨⟨(0 : Int32), (), rfl, ⟨(by rw [hF9]), (Or.inl rfl)⟩, by rw [ht]; exact hP9, va_K.moved hW.alike hK, hD9⟩, hS.F ht⟩) hS.2.2 dX4_mayFollow_49
      refine lv_iconst (v := 1) hx hb dX4_mayFollow_44 (by decide) ?_
      refine lv_goto (tgt := 49) hx hb dX4_mayFollow_45 (by decide) ?_
      have hF9 : (fX4_mayFollow med p1 p2 p3 p4 p5) = (1 : Int32) := by rw [hF, fX4_mayFollow_L19, if_pos c_25, if_pos c_34, if_neg c_41]
      have hP9 : va_P D vwCl (wM cyD cyI cyJ cyZ am bv bt bl be bdp bi bg bsd bsv bbd bbv br bu bw mn mm mch msp msb mno msn mbn mhr mro mv mt ml med md mi mg msd msv mbd mbv mr mu mw) H := hP
      have hD9 : va_D A (wM cyD cyI cyJ cyZ am bv bt bl be bdp bi bg bsd bsv bbd bbv br bu bw mn mm mch msp msb mno msn mbn mhr mro mv mt ml med md mi mg msd msv mbd mbv mr mu mw) := hD
      exact W.zret (v := (1 : Int32)) hx hb hr (nar_z (Or.inr rfl)) (fun t ht hW => ⟨⟨(1 : Int32), (), rfl, ⟨(by rw [hF9]), (Or.inr rfl)⟩, by rw [ht]; exact hP9, va_K.moved hW.alike hK, hD9⟩, hS.F ht⟩) hS.2.2 dX4_mayFollow_49
  exact loop_19 1 (p4 - p2) _ _ rfl (by rw [fX4_mayFollow, if_neg c_3]) hP hD hS _ (by exact lv_sub hl [0, 1, 2, 3, 4, 5, 6] rfl)
def fX4_greatest (mhr : Int32)  : Int32 := mhr
set_option maxHeartbeats 4000000 in
set_option maxRecDepth 100000 in
theorem c_X4_greatest {l : Launch} {D : va_G} {cyD cyI cyJ cyZ : ClassId} (am bv bt bl be bdp bi bg bsd bsv bbd bbv br bu bw : Nat) (mn : Nat) (mm : UInt64) (mch : Int32) (msp : UInt64) (msb : UInt64) (mno : UInt64) (msn : Int32) (mbn : Int32) (mhr : Int32) (mro : Int32) (mv : Nat → UInt64) (mt : Nat → Int32) (ml : Nat → Int32) (med : Nat → Int32) (md : Nat → UInt64) (mi : Nat → UInt64) (mg : Nat → UInt64) (msd : Nat → UInt64) (msv : Nat → UInt64) (mbd : Nat → UInt64) (mbv : Nat → UInt64) (mr : Nat → Int32) (mu : Nat → Int64) (mw : Nat → Int32) (sz : Nat)  (hhr : mhr = 0 ∨ mhr = 1) : mZ l yX4_greatest wsX4_greatest ({ frames := 0, cells := 0, slots := 0, locals := 0 } : Room) D (kT cyD cyI cyJ cyZ) [.ref am] (wM cyD cyI cyJ cyZ am bv bt bl be bdp bi bg bsd bsv bbd bbv br bu bw mn mm mch msp msb mno msn mbn mhr mro mv mt ml med md mi mg msd msv mbd mbv mr mu mw) (wM cyD cyI cyJ cyZ am bv bt bl be bdp bi bg bsd bsv bbd bbv br bu bw mn mm mch msp msb mno msn mbn mhr mro mv mt ml med md mi mg msd msv mbd mbv mr mu mw) sz (fX4_greatest mhr) 0 0 := by
  refine Met.ofW (cc := cX4_greatest) (maxL := 1) (ret := (some .boolean)) (by decide) rfl ?_
  intro p e s m args below meth c s₁ B hml hv
  obtain ⟨rfl, hN, hsz, hP, hK, hD0⟩ := hv
  have hx := B.exec
  have hb := B.bytes
  have hr := B.returns
  have hts := atoms_spec (ws := wsX4_greatest) B.pre
  have hown : s.vm.findClass RX4 = some m.cls := findClass_of_methodNamed B.named
  have hlocks := B.notSynchronized
  subst hsz
  have hD := hD0.self (sz := s.heap.size)
  generalize hAe : va_A (wM cyD cyI cyJ cyZ am bv bt bl be bdp bi bg bsd bsv bbd bbv br bu bw mn mm mch msp msb mno msn mbn mhr mro mv mt ml med md mi mg msd msv mbd mbv mr mu mw) s.heap.size = A at hD ⊢
  have hA : ∀ q : Nat, s.heap.size ≤ q → A q := fun q h => by rw [← hAe]; exact Or.inr h
  have hS : va_S A s.heap s.heap [] := va_S.rf
  have hP : va_P D vwCl (wM cyD cyI cyJ cyZ am bv bt bl be bdp bi bg bsd bsv bbd bbv br bu bw mn mm mch msp msb mno msn mbn mhr mro mv mt ml med md mi mg msd msv mbd mbv mr mu mw) s.heap := hP
  have hl := lv_entry [.ref am] (n := 1) (Nat.le_of_ble_eq_true rfl)
  rw [lg_entry_eq]
  generalize (lg_sl [.ref am] ++ List.replicate (1 - (lg_sl [.ref am]).length) Slot.unset).toArray = ls at hl ⊢
  have hl : lv_has ls 1 [(0, .ref am)] := hl
  obtain ⟨H, hHe⟩ : ∃ H : Heap, H = s.heap := ⟨_, rfl⟩
  have hP : va_P D vwCl (wM cyD cyI cyJ cyZ am bv bt bl be bdp bi bg bsd bsv bbd bbv br bu bw mn mm mch msp msb mno msn mbn mhr mro mv mt ml med md mi mg msd msv mbd mbv mr mu mw) H := by rw [hHe]; exact hP
  have hS : va_S A s.heap H [] := by rw [hHe]; exact hS
  rw [← hHe]
  refine lv_aload_n hx hb dX4_greatest_0 rfl (lv_at hl 0 rfl) ?_
  refine va_get (D := D) (ci := 4) (v := .int mhr) (C := RX4) (T := TX4) (N := 24) hx hb hts (fun _ h => (List.mem_cons_of_mem _ (List.mem_append_right _ h))) hown hK hP 0 rfl rfl 19 (by decide) (hts (.fieldLink RX4 132 "BottomWalksModel" "hasRun" "Z") (List.mem_of_getElem? (i := 1) rfl)) (fun _ h9 => h9) rfl dX4_greatest_1 ?_
  have hF9 : (fX4_greatest mhr) = mhr := by rw [fX4_greatest]
  have hP9 : va_P D vwCl (wM cyD cyI cyJ cyZ am bv bt bl be bdp bi bg bsd bsv bbd bbv br bu bw mn mm mch msp msb mno msn mbn mhr mro mv mt ml med md mi mg msd msv mbd mbv mr mu mw) H := hP
  have hD9 : va_D A (wM cyD cyI cyJ cyZ am bv bt bl be bdp bi bg bsd bsv bbd bbv br bu bw mn mm mch msp msb mno msn mbn mhr mro mv mt ml med md mi mg msd msv mbd mbv mr mu mw) := hD
  exact W.zret (v := mhr) hx hb hr (nar_z hhr) (fun t ht hW => ⟨⟨mhr, (), rfl, ⟨(by rw [hF9]), hhr⟩, by rw [ht]; exact hP9, va_K.moved hW.alike hK, hD9⟩, hS.F ht⟩) hS.2.2 dX4_greatest_4
def fX4_isWalked (mhr : Int32) (mr : Nat → Int32) (p1 : Int32) : Int32 := if mhr = 0 then (0 : Int32) else (if (fX4_isPing p1) = 0 then (0 : Int32) else (if (mr p1.toNatClampNeg) = (-1 : Int32) then (0 : Int32) else ((1 : Int32))))
set_option maxHeartbeats 4000000 in
set_option maxRecDepth 100000 in
theorem c_X4_isWalked {l : Launch} {D : va_G} {cyD cyI cyJ cyZ : ClassId} (am bv bt bl be bdp bi bg bsd bsv bbd bbv br bu bw : Nat) (mn : Nat) (mm : UInt64) (mch : Int32) (msp : UInt64) (msb : UInt64) (mno : UInt64) (msn : Int32) (mbn : Int32) (mhr : Int32) (mro : Int32) (mv : Nat → UInt64) (mt : Nat → Int32) (ml : Nat → Int32) (med : Nat → Int32) (md : Nat → UInt64) (mi : Nat → UInt64) (mg : Nat → UInt64) (msd : Nat → UInt64) (msv : Nat → UInt64) (mbd : Nat → UInt64) (mbv : Nat → UInt64) (mr : Nat → Int32) (mu : Nat → Int64) (mw : Nat → Int32) (sz : Nat) (p1 : Int32)  : mZ l yX4_isWalked wsX4_isWalked ({ frames := 1, cells := 0, slots := 0, locals := 20 } : Room) D (kT cyD cyI cyJ cyZ) [.ref am, .int p1] (wM cyD cyI cyJ cyZ am bv bt bl be bdp bi bg bsd bsv bbd bbv br bu bw mn mm mch msp msb mno msn mbn mhr mro mv mt ml med md mi mg msd msv mbd mbv mr mu mw) (wM cyD cyI cyJ cyZ am bv bt bl be bdp bi bg bsd bsv bbd bbv br bu bw mn mm mch msp msb mno msn mbn mhr mro mv mt ml med md mi mg msd msv mbd mbv mr mu mw) sz (fX4_isWalked mhr mr p1) 0 0 := by
  refine Met.ofW (cc := cX4_isWalked) (maxL := 2) (ret := (some .boolean)) (by decide) rfl ?_
  intro p e s m args below meth c s₁ B hml hv
  obtain ⟨rfl, hN, hsz, hP, hK, hD0⟩ := hv
  have hx := B.exec
  have hb := B.bytes
  have hr := B.returns
  have hts := atoms_spec (ws := wsX4_isWalked) B.pre
  have hown : s.vm.findClass RX4 = some m.cls := findClass_of_methodNamed B.named
  have hlocks := B.notSynchronized
  subst hsz
  have hD := hD0.self (sz := s.heap.size)
  generalize hAe : va_A (wM cyD cyI cyJ cyZ am bv bt bl be bdp bi bg bsd bsv bbd bbv br bu bw mn mm mch msp msb mno msn mbn mhr mro mv mt ml med md mi mg msd msv mbd mbv mr mu mw) s.heap.size = A at hD ⊢
  have hA : ∀ q : Nat, s.heap.size ≤ q → A q := fun q h => by rw [← hAe]; exact Or.inr h
  have hS : va_S A s.heap s.heap [] := va_S.rf
  have hP : va_P D vwCl (wM cyD cyI cyJ cyZ am bv bt bl be bdp bi bg bsd bsv bbd bbv br bu bw mn mm mch msp msb mno msn mbn mhr mro mv mt ml med md mi mg msd msv mbd mbv mr mu mw) s.heap := hP
  have hl := lv_entry [.ref am, .int p1] (n := 2) (Nat.le_of_ble_eq_true rfl)
  rw [lg_entry_eq]
  generalize (lg_sl [.ref am, .int p1] ++ List.replicate (2 - (lg_sl [.ref am, .int p1]).length) Slot.unset).toArray = ls at hl ⊢
  have hl : lv_has ls 2 [(0, .ref am), (1, .int p1)] := hl
  obtain ⟨H, hHe⟩ : ∃ H : Heap, H = s.heap := ⟨_, rfl⟩
  have hP : va_P D vwCl (wM cyD cyI cyJ cyZ am bv bt bl be bdp bi bg bsd bsv bbd bbv br bu bw mn mm mch msp msb mno msn mbn mhr mro mv mt ml med md mi mg msd msv mbd mbv mr mu mw) H := by rw [hHe]; exact hP
  have hS : va_S A s.heap H [] := by rw [hHe]; exact hS
  rw [← hHe]
  refine lv_aload_n hx hb dX4_isWalked_0 rfl (lv_at hl 0 rfl) ?_
  refine va_get (D := D) (ci := 4) (v := .int mhr) (C := RX4) (T := TX4) (N := 24) hx hb hts (fun _ h => (List.mem_cons_of_mem _ (List.mem_append_right _ h))) hown hK hP 0 rfl rfl 19 (by decide) (hts (.fieldLink RX4 132 "BottomWalksModel" "hasRun" "Z") (List.mem_of_getElem? (i := 1) rfl)) (fun _ h9 => h9) rfl dX4_isWalked_1 ?_
  refine lv_if_eq (tgt := 28) hx hb dX4_isWalked_4 (by decide) (fun c_4 => ?_) (fun c_4 => ?_)
  · refine lv_iconst (v := 0) hx hb dX4_isWalked_28 (by decide) ?_
    have hF9 : (fX4_isWalked mhr mr p1) = (0 : Int32) := by rw [fX4_isWalked, if_pos c_4]
    have hP9 : va_P D vwCl (wM cyD cyI cyJ cyZ am bv bt bl be bdp bi bg bsd bsv bbd bbv br bu bw mn mm mch msp msb mno msn mbn mhr mro mv mt ml med md mi mg msd msv mbd mbv mr mu mw) H := hP
    have hD9 : va_D A (wM cyD cyI cyJ cyZ am bv bt bl be bdp bi bg bsd bsv bbd bbv br bu bw mn mm mch msp msb mno msn mbn mhr mro mv mt ml med md mi mg msd msv mbd mbv mr mu mw) := hD
    exact W.zret (v := (0 : Int32)) hx hb hr (nar_z (Or.inl rfl)) (fun t ht hW => ⟨⟨(0 : Int32), (), rfl, ⟨(by rw [hF9]), (Or.inl rfl)⟩, by rw [ht]; exact hP9, va_K.moved hW.alike hK, hD9⟩, hS.F ht⟩) hS.2.2 dX4_isWalked_29
  refine lv_iload_n hx hb dX4_isWalked_7 rfl (lv_at hl 1 rfl) ?_
  have hPc : va_P D vwCl [] H := hP.sub [] rfl
  have hDc : va_D A [] := hD.sub [] (by decide) rfl
  refine kzE (ws' := (wM cyD cyI cyJ cyZ am bv bt bl be bdp bi bg bsd bsv bbd bbv br bu bw mn mm mch msp msb mno msn mbn mhr mro mv mt ml med md mi mg msd msv mbd mbv mr mu mw)) (wc := []) (wr := [(am, .inr (4, [.int (nI mn), .double mm, .ref bv, .ref bt, .ref bl, .ref be, .ref bdp, .ref bi, .ref bg, .int mch, .double msp, .double msb, .double mno, .int msn, .ref bsd, .ref bsv, .int mbn, .ref bbd, .ref bbv, .int mhr, .int mro, .ref br, .ref bu, .ref bw])), (bv, .inl (cyD, 8192, .inr (.inr (.inr (.inl mv))))), (bt, .inl (cyZ, 8192, .inl mt)), (bl, .inl (cyZ, 32, .inl ml)), (be, .inl (cyZ, 32, .inl med)), (bdp, .inl (cyD, 32, .inr (.inr (.inr (.inl md))))), (bi, .inl (cyD, 32, .inr (.inr (.inr (.inl mi))))), (bg, .inl (cyD, 32, .inr (.inr (.inr (.inl mg))))), (bsd, .inl (cyD, 21, .inr (.inr (.inr (.inl msd))))), (bsv, .inl (cyD, 21, .inr (.inr (.inr (.inl msv))))), (bbd, .inl (cyD, 21, .inr (.inr (.inr (.inl mbd))))), (bbv, .inl (cyD, 21, .inr (.inr (.inr (.inl mbv))))), (br, .inl (cyI, 32, .inl mr)), (bu, .inl (cyJ, 2048, .inr (.inl mu))), (bw, .inl (cyI, 32, .inl mw))]) (w1 := []) (va_runS (As := [.int p1]) (rest := []) ⟨hx, hb, hml, hown, hts⟩ (c_X4_isPing (l := l) (D := D) (cyD := cyD) (cyI := cyI) (cyJ := cyJ) (cyZ := cyZ) H.size p1) (va_cwS 1 hts gX4_isWalked_X4_isPing rfl rfl rfl (by decide +kernel) ⟨Nat.le_of_ble_eq_true rfl, Nat.le_of_ble_eq_true rfl⟩) (kS hN hK hPc hDc) rfl rfl hl.1 rfl (lv_room (Nat.le_of_ble_eq_true rfl)) dX4_isWalked_8 ⟨Nat.le_of_ble_eq_true rfl, Nat.le_of_ble_eq_true rfl⟩) hP hD hS hA [] [0, 1, 2, 3, 4, 5, 6, 7, 8, 9, 10, 11, 12, 13, 14] [0, 1, 2, 3, 4, 5, 6, 7, 8, 9, 10, 11, 12, 13, 14] rfl rfl (by decide) (by decide) rfl (by decide) (fun H locs hz_8 hP hD hS => ?_)
  refine lv_if_eq (tgt := 28) hx hb dX4_isWalked_11 (by decide) (fun c_11 => ?_) (fun c_11 => ?_)
  · refine lv_iconst (v := 0) hx hb dX4_isWalked_28 (by decide) ?_
    have hF9 : (fX4_isWalked mhr mr p1) = (0 : Int32) := by rw [fX4_isWalked, if_neg c_4, if_pos c_11]
    have hP9 : va_P D vwCl (wM cyD cyI cyJ cyZ am bv bt bl be bdp bi bg bsd bsv bbd bbv br bu bw mn mm mch msp msb mno msn mbn mhr mro mv mt ml med md mi mg msd msv mbd mbv mr mu mw) H := hP
    have hD9 : va_D A (wM cyD cyI cyJ cyZ am bv bt bl be bdp bi bg bsd bsv bbd bbv br bu bw mn mm mch msp msb mno msn mbn mhr mro mv mt ml med md mi mg msd msv mbd mbv mr mu mw) := hD
    exact W.zret (v := (0 : Int32)) hx hb hr (nar_z (Or.inl rfl)) (fun t ht hW => ⟨⟨(0 : Int32), (), rfl, ⟨(by rw [hF9]), (Or.inl rfl)⟩, by rw [ht]; exact hP9, va_K.moved hW.alike hK, hD9⟩, hS.F ht⟩) hS.2.2 dX4_isWalked_29
  refine lv_aload_n hx hb dX4_isWalked_14 rfl (lv_at hl 0 rfl) ?_
  refine va_get (D := D) (ci := 4) (v := .ref br) (C := RX4) (T := TX4) (N := 24) hx hb hts (fun _ h => (List.mem_cons_of_mem _ (List.mem_append_right _ h))) hown hK hP 0 rfl rfl 21 (by decide) (hts (.fieldLink RX4 44 "BottomWalksModel" "row" "[I") (List.mem_of_getElem? (i := 2) rfl)) (fun _ h9 => h9) rfl dX4_isWalked_15 ?_
  refine lv_iload_n hx hb dX4_isWalked_18 rfl (lv_at hl 1 rfl) ?_
  refine va_iald hx hb hK hP 12 1 rfl rfl (pingM_in c_11) dX4_isWalked_19 ?_
  refine lv_iconst (v := (-1)) hx hb dX4_isWalked_20 (by decide) ?_
  refine lv_icmp_eq (tgt := 28) hx hb dX4_isWalked_21 (by decide) (fun c_21 => ?_) (fun c_21 => ?_)
  · refine lv_iconst (v := 0) hx hb dX4_isWalked_28 (by decide) ?_
    have hF9 : (fX4_isWalked mhr mr p1) = (0 : Int32) := by rw [fX4_isWalked, if_neg c_4, if_neg c_11, if_pos c_21]
    have hP9 : va_P D vwCl (wM cyD cyI cyJ cyZ am bv bt bl be bdp bi bg bsd bsv bbd bbv br bu bw mn mm mch msp msb mno msn mbn mhr mro mv mt ml med md mi mg msd msv mbd mbv mr mu mw) H := hP
    have hD9 : va_D A (wM cyD cyI cyJ cyZ am bv bt bl be bdp bi bg bsd bsv bbd bbv br bu bw mn mm mch msp msb mno msn mbn mhr mro mv mt ml med md mi mg msd msv mbd mbv mr mu mw) := hD
    exact W.zret (v := (0 : Int32)) hx hb hr (nar_z (Or.inl rfl)) (fun t ht hW => ⟨⟨(0 : Int32), (), rfl, ⟨(by rw [hF9]), (Or.inl rfl)⟩, by rw [ht]; exact hP9, va_K.moved hW.alike hK, hD9⟩, hS.F ht⟩) hS.2.2 dX4_isWalked_29
  refine lv_iconst (v := 1) hx hb dX4_isWalked_24 (by decide) ?_
  refine lv_goto (tgt := 29) hx hb dX4_isWalked_25 (by decide) ?_
  have hF9 : (fX4_isWalked mhr mr p1) = (1 : Int32) := by rw [fX4_isWalked, if_neg c_4, if_neg c_11, if_neg c_21]
  have hP9 : va_P D vwCl (wM cyD cyI cyJ cyZ am bv bt bl be bdp bi bg bsd bsv bbd bbv br bu bw mn mm mch msp msb mno msn mbn mhr mro mv mt ml med md mi mg msd msv mbd mbv mr mu mw) H := hP
  have hD9 : va_D A (wM cyD cyI cyJ cyZ am bv bt bl be bdp bi bg bsd bsv bbd bbv br bu bw mn mm mch msp msb mno msn mbn mhr mro mv mt ml med md mi mg msd msv mbd mbv mr mu mw) := hD
  exact W.zret (v := (1 : Int32)) hx hb hr (nar_z (Or.inr rfl)) (fun t ht hW => ⟨⟨(1 : Int32), (), rfl, ⟨(by rw [hF9]), (Or.inr rfl)⟩, by rw [ht]; exact hP9, va_K.moved hW.alike hK, hD9⟩, hS.F ht⟩) hS.2.2 dX4_isWalked_29
def fX4_walkedDepth (mm : UInt64) (med : Nat → Int32) (md : Nat → UInt64) (mr : Nat → Int32) (p1 : Int32) : UInt64 := if (med p1.toNatClampNeg) = 0 then (fX4_range mm (mr p1.toNatClampNeg)) else ((md p1.toNatClampNeg))
set_option maxHeartbeats 4000000 in
set_option maxRecDepth 100000 in
theorem c_X4_walkedDepth {l : Launch} {D : va_G} {cyD cyI cyJ cyZ : ClassId} (am bv bt bl be bdp bi bg bsd bsv bbd bbv br bu bw : Nat) (mn : Nat) (mm : UInt64) (mch : Int32) (msp : UInt64) (msb : UInt64) (mno : UInt64) (msn : Int32) (mbn : Int32) (mhr : Int32) (mro : Int32) (mv : Nat → UInt64) (mt : Nat → Int32) (ml : Nat → Int32) (med : Nat → Int32) (md : Nat → UInt64) (mi : Nat → UInt64) (mg : Nat → UInt64) (msd : Nat → UInt64) (msv : Nat → UInt64) (mbd : Nat → UInt64) (mbv : Nat → UInt64) (mr : Nat → Int32) (mu : Nat → Int64) (mw : Nat → Int32) (sz : Nat) (p1 : Int32) (hM : okM mn mm msp msb mno mv) (P : Nat) (hp : p1 = nI P) (hP32 : P < 32) : mD l yX4_walkedDepth wsX4_walkedDepth ({ frames := 1, cells := 0, slots := 0, locals := 21 } : Room) D (kT cyD cyI cyJ cyZ) [.ref am, .int p1] (wM cyD cyI cyJ cyZ am bv bt bl be bdp bi bg bsd bsv bbd bbv br bu bw mn mm mch msp msb mno msn mbn mhr mro mv mt ml med md mi mg msd msv mbd mbv mr mu mw) (wM cyD cyI cyJ cyZ am bv bt bl be bdp bi bg bsd bsv bbd bbv br bu bw mn mm mch msp msb mno msn mbn mhr mro mv mt ml med md mi mg msd msv mbd mbv mr mu mw) sz (fX4_walkedDepth mm med md mr p1) 0 0 := by
  refine Met.ofW (cc := cX4_walkedDepth) (maxL := 2) (ret := (some .double)) (by decide) rfl ?_
  intro p e s m args below meth c s₁ B hml hv
  obtain ⟨rfl, hN, hsz, hP, hK, hD0⟩ := hv
  have hx := B.exec
  have hb := B.bytes
  have hr := B.returns
  have hts := atoms_spec (ws := wsX4_walkedDepth) B.pre
  have hown : s.vm.findClass RX4 = some m.cls := findClass_of_methodNamed B.named
  have hlocks := B.notSynchronized
  subst hsz
  have hD := hD0.self (sz := s.heap.size)
  generalize hAe : va_A (wM cyD cyI cyJ cyZ am bv bt bl be bdp bi bg bsd bsv bbd bbv br bu bw mn mm mch msp msb mno msn mbn mhr mro mv mt ml med md mi mg msd msv mbd mbv mr mu mw) s.heap.size = A at hD ⊢
  have hA : ∀ q : Nat, s.heap.size ≤ q → A q := fun q h => by rw [← hAe]; exact Or.inr h
  have hS : va_S A s.heap s.heap [] := va_S.rf
  have hP : va_P D vwCl (wM cyD cyI cyJ cyZ am bv bt bl be bdp bi bg bsd bsv bbd bbv br bu bw mn mm mch msp msb mno msn mbn mhr mro mv mt ml med md mi mg msd msv mbd mbv mr mu mw) s.heap := hP
  have hl := lv_entry [.ref am, .int p1] (n := 2) (Nat.le_of_ble_eq_true rfl)
  rw [lg_entry_eq]
  generalize (lg_sl [.ref am, .int p1] ++ List.replicate (2 - (lg_sl [.ref am, .int p1]).length) Slot.unset).toArray = ls at hl ⊢
  have hl : lv_has ls 2 [(0, .ref am), (1, .int p1)] := hl
  obtain ⟨H, hHe⟩ : ∃ H : Heap, H = s.heap := ⟨_, rfl⟩
  have hP : va_P D vwCl (wM cyD cyI cyJ cyZ am bv bt bl be bdp bi bg bsd bsv bbd bbv br bu bw mn mm mch msp msb mno msn mbn mhr mro mv mt ml med md mi mg msd msv mbd mbv mr mu mw) H := by rw [hHe]; exact hP
  have hS : va_S A s.heap H [] := by rw [hHe]; exact hS
  rw [← hHe]
  refine lv_aload_n hx hb dX4_walkedDepth_0 rfl (lv_at hl 0 rfl) ?_
  refine va_get (D := D) (ci := 4) (v := .ref be) (C := RX4) (T := TX4) (N := 24) hx hb hts (fun _ h => (List.mem_cons_of_mem _ (List.mem_append_right _ h))) hown hK hP 0 rfl rfl 5 (by decide) (hts (.fieldLink RX4 20 "BottomWalksModel" "isEdited" "[Z") (List.mem_of_getElem? (i := 1) rfl)) (fun _ h9 => h9) rfl dX4_walkedDepth_1 ?_
  refine lv_iload_n hx hb dX4_walkedDepth_4 rfl (lv_at hl 1 rfl) ?_
  refine va_zald hx hb hK hP 4 3 rfl rfl (nI_in' hp hP32 (by decide)) dX4_walkedDepth_5 ?_
  refine lv_if_eq (tgt := 18) hx hb dX4_walkedDepth_6 (by decide) (fun c_6 => ?_) (fun c_6 => ?_)
  · refine lv_aload_n hx hb dX4_walkedDepth_18 rfl (lv_at hl 0 rfl) ?_
    refine lv_aload_n hx hb dX4_walkedDepth_19 rfl (lv_at hl 0 rfl) ?_
    refine va_get (D := D) (ci := 4) (v := .ref br) (C := RX4) (T := TX4) (N := 24) hx hb hts (fun _ h => (List.mem_cons_of_mem _ (List.mem_append_right _ h))) hown hK hP 0 rfl rfl 21 (by decide) (hts (.fieldLink RX4 44 "BottomWalksModel" "row" "[I") (List.mem_of_getElem? (i := 3) rfl)) (fun _ h9 => h9) rfl dX4_walkedDepth_20 ?_
    refine lv_iload_n hx hb dX4_walkedDepth_23 rfl (lv_at hl 1 rfl) ?_
    refine va_iald hx hb hK hP 12 1 rfl rfl (nI_in' hp hP32 (by decide)) dX4_walkedDepth_24 ?_
    have hPc : va_P D vwCl (wM cyD cyI cyJ cyZ am bv bt bl be bdp bi bg bsd bsv bbd bbv br bu bw mn mm mch msp msb mno msn mbn mhr mro mv mt ml med md mi mg msd msv mbd mbv mr mu mw) H := hP.sub [0, 1, 2, 3, 4, 5, 6, 7, 8, 9, 10, 11, 12, 13, 14] rfl
    have hDc : va_D A (wM cyD cyI cyJ cyZ am bv bt bl be bdp bi bg bsd bsv bbd bbv br bu bw mn mm mch msp msb mno msn mbn mhr mro mv mt ml med md mi mg msd msv mbd mbv mr mu mw) := hD.sub [0, 1, 2, 3, 4, 5, 6, 7, 8, 9, 10, 11, 12, 13, 14] (by decide) rfl
    refine kdE (ws' := (wM cyD cyI cyJ cyZ am bv bt bl be bdp bi bg bsd bsv bbd bbv br bu bw mn mm mch msp msb mno msn mbn mhr mro mv mt ml med md mi mg msd msv mbd mbv mr mu mw)) (wc := (wM cyD cyI cyJ cyZ am bv bt bl be bdp bi bg bsd bsv bbd bbv br bu bw mn mm mch msp msb mno msn mbn mhr mro mv mt ml med md mi mg msd msv mbd mbv mr mu mw)) (wr := []) (w1 := (wM cyD cyI cyJ cyZ am bv bt bl be bdp bi bg bsd bsv bbd bbv br bu bw mn mm mch msp msb mno msn mbn mhr mro mv mt ml med md mi mg msd msv mbd mbv mr mu mw)) (va_runV (As := [.int (mr p1.toNatClampNeg)]) (rest := []) ⟨hx, hb, hml, hown, hts⟩ (c_X4_range (l := l) (D := D) (cyD := cyD) (cyI := cyI) (cyJ := cyJ) (cyZ := cyZ) am bv bt bl be bdp bi bg bsd bsv bbd bbv br bu bw mn mm mch msp msb mno msn mbn mhr mro mv mt ml med md mi mg msd msv mbd mbv mr mu mw H.size (mr p1.toNatClampNeg) hM.2.2.1) (cwV 1 hts gX4_walkedDepth_X4_range rfl rfl rfl (by decide +kernel) ⟨Nat.le_of_ble_eq_true rfl, Nat.le_of_ble_eq_true rfl⟩) (kV (ci := 4) (q0 := 0) (q := (RX4, TX4, 24)) hN hK hPc hDc rfl rfl rfl) rfl rfl hl.1 rfl (lv_room (Nat.le_of_ble_eq_true rfl)) dX4_walkedDepth_25 ⟨Nat.le_of_ble_eq_true rfl, Nat.le_of_ble_eq_true rfl⟩) hP hD hS hA [0, 1, 2, 3, 4, 5, 6, 7, 8, 9, 10, 11, 12, 13, 14] [] [0, 1, 2, 3, 4, 5, 6, 7, 8, 9, 10, 11, 12, 13, 14] rfl rfl (by decide) (by decide) rfl (by decide) (fun H locs hP hD hS => ?_)
    have hF9 : (fX4_walkedDepth mm med md mr p1) = (fX4_range mm (mr p1.toNatClampNeg)) := by rw [fX4_walkedDepth, if_pos c_6]
    have hP9 : va_P D vwCl (wM cyD cyI cyJ cyZ am bv bt bl be bdp bi bg bsd bsv bbd bbv br bu bw mn mm mch msp msb mno msn mbn mhr mro mv mt ml med md mi mg msd msv mbd mbv mr mu mw) H := hP
    have hD9 : va_D A (wM cyD cyI cyJ cyZ am bv bt bl be bdp bi bg bsd bsv bbd bbv br bu bw mn mm mch msp msb mno msn mbn mhr mro mv mt ml med md mi mg msd msv mbd mbv mr mu mw) := hD
    exact W.dret (v := (fX4_range mm (mr p1.toNatClampNeg))) hx hb hr (fun t ht hW => ⟨⟨(fX4_range mm (mr p1.toNatClampNeg)), (), rfl, (by rw [hF9]), by rw [ht]; exact hP9, va_K.moved hW.alike hK, hD9⟩, hS.F ht⟩) hS.2.2 dX4_walkedDepth_28
  refine lv_aload_n hx hb dX4_walkedDepth_9 rfl (lv_at hl 0 rfl) ?_
  refine va_get (D := D) (ci := 4) (v := .ref bdp) (C := RX4) (T := TX4) (N := 24) hx hb hts (fun _ h => (List.mem_cons_of_mem _ (List.mem_append_right _ h))) hown hK hP 0 rfl rfl 6 (by decide) (hts (.fieldLink RX4 23 "BottomWalksModel" "depths" "[D") (List.mem_of_getElem? (i := 2) rfl)) (fun _ h9 => h9) rfl dX4_walkedDepth_10 ?_
  refine lv_iload_n hx hb dX4_walkedDepth_13 rfl (lv_at hl 1 rfl) ?_
  refine va_dald hx hb hK hP 5 0 rfl rfl (nI_in' hp hP32 (by decide)) dX4_walkedDepth_14 ?_
  refine lv_goto (tgt := 28) hx hb dX4_walkedDepth_15 (by decide) ?_
  have hF9 : (fX4_walkedDepth mm med md mr p1) = (md p1.toNatClampNeg) := by rw [fX4_walkedDepth, if_neg c_6]
  have hP9 : va_P D vwCl (wM cyD cyI cyJ cyZ am bv bt bl be bdp bi bg bsd bsv bbd bbv br bu bw mn mm mch msp msb mno msn mbn mhr mro mv mt ml med md mi mg msd msv mbd mbv mr mu mw) H := hP
  have hD9 : va_D A (wM cyD cyI cyJ cyZ am bv bt bl be bdp bi bg bsd bsv bbd bbv br bu bw mn mm mch msp msb mno msn mbn mhr mro mv mt ml med md mi mg msd msv mbd mbv mr mu mw) := hD
  exact W.dret (v := (md p1.toNatClampNeg)) hx hb hr (fun t ht hW => ⟨⟨(md p1.toNatClampNeg), (), rfl, (by rw [hF9]), by rw [ht]; exact hP9, va_K.moved hW.alike hK, hD9⟩, hS.F ht⟩) hS.2.2 dX4_walkedDepth_28
def nbI (d q : Int32) (k : Nat) : Prop := (d = 1 ∧ ∃ n : Nat, q = nI n ∧ n ≤ 32 ∧ 33 ≤ n + k) ∨ (d = -1 ∧ ∃ n : Nat, q = nI n + (-1) ∧ n ≤ 32 ∧ n < k)
theorem nbI_0 {d q : Int32} (h : nbI d q 0) : False := by
  rcases h with ⟨_, n, _, _, _⟩ | ⟨_, n, _, _, _⟩ <;> omega
theorem nbI_s {d q : Int32} {k : Nat} (h : nbI d q (k + 1)) (hp : ¬ fX4_isPing q = 0) : nbI d (q + d) k := by
  obtain ⟨P, e, hP⟩ := pingM hp
  rcases h with ⟨h1, n, h2, h3, h4⟩ | ⟨h1, n, h2, h3, h4⟩
  · rw [e] at h2
    have := (nI_eq (by omega) (by omega)).mp h2
    subst this
    exact Or.inl ⟨h1, P + 1, by rw [e, h1]; exact nI_1 P, by omega, by omega⟩
  · rcases n with _ | n
    · rw [h2] at hp; exact absurd (by decide) hp
    · rw [pk_m1, e] at h2
      have := (nI_eq (by omega) (by omega)).mp h2
      subst this
      exact Or.inr ⟨h1, P, by rw [e, h1], by omega, by omega⟩
theorem nbI_i {p d : Int32} {P : Nat} (hp : p = nI P) (hP : P < 32) (hd : d = 1 ∨ d = -1) : nbI d (p + d) 34 := by
  rcases hd with h | h
  · exact Or.inl ⟨h, P + 1, by rw [hp, h]; exact nI_1 P, by omega, by omega⟩
  · exact Or.inr ⟨h, P, by rw [hp, h], by omega, by omega⟩
def fX4_neighbour_L4 (mhr : Int32) (mr : Nat → Int32)  (p1 : Int32) (p2 : Int32) : Nat → (Int32) → Int32
  | 0, v_qq => 0
  | k + 1, v_qq => if (fX4_isPing (v_qq)) = 0 then (if (fX4_isPing (v_qq)) = 0 then (-1 : Int32) else (v_qq)) else (if (fX4_isWalked mhr mr (v_qq)) = 0 then (fX4_neighbour_L4 mhr mr p1 p2 k (v_qq + p2)) else (if (fX4_isPing (v_qq)) = 0 then (-1 : Int32) else (v_qq)))
def fX4_neighbour (mhr : Int32) (mr : Nat → Int32) (p1 : Int32) (p2 : Int32) : Int32 := (fX4_neighbour_L4 mhr mr p1 p2 34 (p1 + p2))
set_option maxHeartbeats 4000000 in
set_option maxRecDepth 100000 in
theorem c_X4_neighbour {l : Launch} {D : va_G} {cyD cyI cyJ cyZ : ClassId} (am bv bt bl be bdp bi bg bsd bsv bbd bbv br bu bw : Nat) (mn : Nat) (mm : UInt64) (mch : Int32) (msp : UInt64) (msb : UInt64) (mno : UInt64) (msn : Int32) (mbn : Int32) (mhr : Int32) (mro : Int32) (mv : Nat → UInt64) (mt : Nat → Int32) (ml : Nat → Int32) (med : Nat → Int32) (md : Nat → UInt64) (mi : Nat → UInt64) (mg : Nat → UInt64) (msd : Nat → UInt64) (msv : Nat → UInt64) (mbd : Nat → UInt64) (mbv : Nat → UInt64) (mr : Nat → Int32) (mu : Nat → Int64) (mw : Nat → Int32) (sz : Nat) (p1 : Int32) (p2 : Int32) (P : Nat) (hp : p1 = nI P) (hP32 : P < 32) (hby : p2 = 1 ∨ p2 = -1) : mI l yX4_neighbour wsX4_neighbour ({ frames := 2, cells := 0, slots := 0, locals := 41 } : Room) D (kT cyD cyI cyJ cyZ) [.ref am, .int p1, .int p2] (wM cyD cyI cyJ cyZ am bv bt bl be bdp bi bg bsd bsv bbd bbv br bu bw mn mm mch msp msb mno msn mbn mhr mro mv mt ml med md mi mg msd msv mbd mbv mr mu mw) (wM cyD cyI cyJ cyZ am bv bt bl be bdp bi bg bsd bsv bbd bbv br bu bw mn mm mch msp msb mno msn mbn mhr mro mv mt ml med md mi mg msd msv mbd mbv mr mu mw) sz (fX4_neighbour mhr mr p1 p2) 0 0 := by
  refine Met.ofW (cc := cX4_neighbour) (maxL := 4) (ret := (some .int)) (by decide) rfl ?_
  intro p e s m args below meth c s₁ B hml hv
  obtain ⟨rfl, hN, hsz, hP, hK, hD0⟩ := hv
  have hx := B.exec
  have hb := B.bytes
  have hr := B.returns
  have hts := atoms_spec (ws := wsX4_neighbour) B.pre
  have hown : s.vm.findClass RX4 = some m.cls := findClass_of_methodNamed B.named
  have hlocks := B.notSynchronized
  subst hsz
  have hD := hD0.self (sz := s.heap.size)
  generalize hAe : va_A (wM cyD cyI cyJ cyZ am bv bt bl be bdp bi bg bsd bsv bbd bbv br bu bw mn mm mch msp msb mno msn mbn mhr mro mv mt ml med md mi mg msd msv mbd mbv mr mu mw) s.heap.size = A at hD ⊢
  have hA : ∀ q : Nat, s.heap.size ≤ q → A q := fun q h => by rw [← hAe]; exact Or.inr h
  have hS : va_S A s.heap s.heap [] := va_S.rf
  have hP : va_P D vwCl (wM cyD cyI cyJ cyZ am bv bt bl be bdp bi bg bsd bsv bbd bbv br bu bw mn mm mch msp msb mno msn mbn mhr mro mv mt ml med md mi mg msd msv mbd mbv mr mu mw) s.heap := hP
  have hl := lv_entry [.ref am, .int p1, .int p2] (n := 4) (Nat.le_of_ble_eq_true rfl)
  rw [lg_entry_eq]
  generalize (lg_sl [.ref am, .int p1, .int p2] ++ List.replicate (4 - (lg_sl [.ref am, .int p1, .int p2]).length) Slot.unset).toArray = ls at hl ⊢
  have hl : lv_has ls 4 [(0, .ref am), (1, .int p1), (2, .int p2)] := hl
  obtain ⟨H, hHe⟩ : ∃ H : Heap, H = s.heap := ⟨_, rfl⟩
  have hP : va_P D vwCl (wM cyD cyI cyJ cyZ am bv bt bl be bdp bi bg bsd bsv bbd bbv br bu bw mn mm mch msp msb mno msn mbn mhr mro mv mt ml med md mi mg msd msv mbd mbv mr mu mw) H := by rw [hHe]; exact hP
  have hS : va_S A s.heap H [] := by rw [hHe]; exact hS
  rw [← hHe]
  refine lv_iload_n hx hb dX4_neighbour_0 rfl (lv_at hl 1 rfl) ?_
  refine lv_iload_n hx hb dX4_neighbour_1 rfl (lv_at hl 2 rfl) ?_
  refine lv_iadd hx hb dX4_neighbour_2 ?_
  refine lv_istore_n (lv' := [(3, .int (p1 + p2)), (0, .ref am), (1, .int p1), (2, .int p2)]) hx hb dX4_neighbour_3 rfl hl (by decide) rfl (fun ls hl => ?_)
  have loop_4 : ∀ (k : Nat) (qq : Int32) (H : Heap) (locs : List Loc), (nbI p2 qq k) → (fX4_neighbour mhr mr p1 p2) = fX4_neighbour_L4 mhr mr p1 p2 k (qq) → va_P D vwCl (wM cyD cyI cyJ cyZ am bv bt bl be bdp bi bg bsd bsv bbd bbv br bu bw mn mm mch msp msb mno msn mbn mhr mro mv mt ml med md mi mg msd msv mbd mbv mr mu mw) H → va_D A (wM cyD cyI cyJ cyZ am bv bt bl be bdp bi bg bsd bsv bbd bbv br bu bw mn mm mch msp msb mno msn mbn mhr mro mv mt ml med md mi mg msd msv mbd mbv mr mu mw) → va_S A s.heap H locs → ∀ ls, lv_has ls 4 [(3, .int (qq)), (0, .ref am), (1, .int p1), (2, .int p2)] → W p l e (headSpec wsX4_neighbour ({ frames := 2, cells := 0, slots := 0, locals := 41 } : Room)).room s m ([.ref am, .int p1, .int p2] : List Value).toArray below meth c H locs 0 0 (MQ below (va_Qi (fun (r : Int32) (_ : Unit) => r = (fX4_neighbour mhr mr p1 p2)) (kE D (kT cyD cyI cyJ cyZ) (wM cyD cyI cyJ cyZ am bv bt bl be bdp bi bg bsd bsv bbd bbv br bu bw mn mm mch msp msb mno msn mbn mhr mro mv mt ml med md mi mg msd msv mbd mbv mr mu mw) A) A) ([.ref am, .int p1, .int p2] : List Value).toArray s 0 0 A) (F0 m 4 ls []) := by
    intro k_4
    induction k_4 with
    | zero => intro qq H locs hq hF hP hD hS ls hl; exact (nbI_0 hq).elim
    | succ k_4 ih_4 =>
      intro qq H locs hq hF hP hD hS ls hl
      refine lv_iload_n hx hb dX4_neighbour_4 rfl (lv_at hl 0 rfl) ?_
      have hPc : va_P D vwCl [] H := hP.sub [] rfl
      have hDc : va_D A [] := hD.sub [] (by decide) rfl
      refine kzE (ws' := (wM cyD cyI cyJ cyZ am bv bt bl be bdp bi bg bsd bsv bbd bbv br bu bw mn mm mch msp msb mno msn mbn mhr mro mv mt ml med md mi mg msd msv mbd mbv mr mu mw)) (wc := []) (wr := [(am, .inr (4, [.int (nI mn), .double mm, .ref bv, .ref bt, .ref bl, .ref be, .ref bdp, .ref bi, .ref bg, .int mch, .double msp, .double msb, .double mno, .int msn, .ref bsd, .ref bsv, .int mbn, .ref bbd, .ref bbv, .int mhr, .int mro, .ref br, .ref bu, .ref bw])), (bv, .inl (cyD, 8192, .inr (.inr (.inr (.inl mv))))), (bt, .inl (cyZ, 8192, .inl mt)), (bl, .inl (cyZ, 32, .inl ml)), (be, .inl (cyZ, 32, .inl med)), (bdp, .inl (cyD, 32, .inr (.inr (.inr (.inl md))))), (bi, .inl (cyD, 32, .inr (.inr (.inr (.inl mi))))), (bg, .inl (cyD, 32, .inr (.inr (.inr (.inl mg))))), (bsd, .inl (cyD, 21, .inr (.inr (.inr (.inl msd))))), (bsv, .inl (cyD, 21, .inr (.inr (.inr (.inl msv))))), (bbd, .inl (cyD, 21, .inr (.inr (.inr (.inl mbd))))), (bbv, .inl (cyD, 21, .inr (.inr (.inr (.inl mbv))))), (br, .inl (cyI, 32, .inl mr)), (bu, .inl (cyJ, 2048, .inr (.inl mu))), (bw, .inl (cyI, 32, .inl mw))]) (w1 := []) (va_runS (As := [.int (qq)]) (rest := []) ⟨hx, hb, hml, hown, hts⟩ (c_X4_isPing (l := l) (D := D) (cyD := cyD) (cyI := cyI) (cyJ := cyJ) (cyZ := cyZ) H.size (qq)) (va_cwS 1 hts gX4_neighbour_X4_isPing rfl rfl rfl (by decide +kernel) ⟨Nat.le_of_ble_eq_true rfl, Nat.le_of_ble_eq_true rfl⟩) (kS hN hK hPc hDc) rfl rfl hl.1 rfl (lv_room (Nat.le_of_ble_eq_true rfl)) dX4_neighbour_5 ⟨Nat.le_of_ble_eq_true rfl, Nat.le_of_ble_eq_true rfl⟩) hP hD hS hA [] [0, 1, 2, 3, 4, 5, 6, 7, 8, 9, 10, 11, 12, 13, 14] [0, 1, 2, 3, 4, 5, 6, 7, 8, 9, 10, 11, 12, 13, 14] rfl rfl (by decide) (by decide) rfl (by decide) (fun H locs hz_5 hP hD hS => ?_)
      refine lv_if_eq (tgt := 26) hx hb dX4_neighbour_8 (by decide) (fun c_8 => ?_) (fun c_8 => ?_)
      · refine lv_iload_n hx hb dX4_neighbour_26 rfl (lv_at hl 0 rfl) ?_
        have hPc : va_P D vwCl [] H := hP.sub [] rfl
        have hDc : va_D A [] := hD.sub [] (by decide) rfl
        refine kzE (ws' := (wM cyD cyI cyJ cyZ am bv bt bl be bdp bi bg bsd bsv bbd bbv br bu bw mn mm mch msp msb mno msn mbn mhr mro mv mt ml med md mi mg msd msv mbd mbv mr mu mw)) (wc := []) (wr := [(am, .inr (4, [.int (nI mn), .double mm, .ref bv, .ref bt, .ref bl, .ref be, .ref bdp, .ref bi, .ref bg, .int mch, .double msp, .double msb, .double mno, .int msn, .ref bsd, .ref bsv, .int mbn, .ref bbd, .ref bbv, .int mhr, .int mro, .ref br, .ref bu, .ref bw])), (bv, .inl (cyD, 8192, .inr (.inr (.inr (.inl mv))))), (bt, .inl (cyZ, 8192, .inl mt)), (bl, .inl (cyZ, 32, .inl ml)), (be, .inl (cyZ, 32, .inl med)), (bdp, .inl (cyD, 32, .inr (.inr (.inr (.inl md))))), (bi, .inl (cyD, 32, .inr (.inr (.inr (.inl mi))))), (bg, .inl (cyD, 32, .inr (.inr (.inr (.inl mg))))), (bsd, .inl (cyD, 21, .inr (.inr (.inr (.inl msd))))), (bsv, .inl (cyD, 21, .inr (.inr (.inr (.inl msv))))), (bbd, .inl (cyD, 21, .inr (.inr (.inr (.inl mbd))))), (bbv, .inl (cyD, 21, .inr (.inr (.inr (.inl mbv))))), (br, .inl (cyI, 32, .inl mr)), (bu, .inl (cyJ, 2048, .inr (.inl mu))), (bw, .inl (cyI, 32, .inl mw))]) (w1 := []) (va_runS (As := [.int (qq)]) (rest := []) ⟨hx, hb, hml, hown, hts⟩ (c_X4_isPing (l := l) (D := D) (cyD := cyD) (cyI := cyI) (cyJ := cyJ) (cyZ := cyZ) H.size (qq)) (va_cwS 1 hts gX4_neighbour_X4_isPing rfl rfl rfl (by decide +kernel) ⟨Nat.le_of_ble_eq_true rfl, Nat.le_of_ble_eq_true rfl⟩) (kS hN hK hPc hDc) rfl rfl hl.1 rfl (lv_room (Nat.le_of_ble_eq_true rfl)) dX4_neighbour_27 ⟨Nat.le_of_ble_eq_true rfl, Nat.le_of_ble_eq_true rfl⟩) hP hD hS hA [] [0, 1, 2, 3, 4, 5, 6, 7, 8, 9, 10, 11, 12, 13, 14] [0, 1, 2, 3, 4, 5, 6, 7, 8, 9, 10, 11, 12, 13, 14] rfl rfl (by decide) (by decide) rfl (by decide) (fun H locs hz_27 hP hD hS => ?_)
        refine lv_if_eq (tgt := 37) hx hb dX4_neighbour_30 (by decide) (fun c_30 => ?_) (fun c_30 => ?_)
        · refine lv_iconst (v := (-1)) hx hb dX4_neighbour_37 (by decide) ?_
          have hF9 : (fX4_neighbour mhr mr p1 p2) = (-1 : Int32) := by rw [hF, fX4_neighbour_L4, if_pos c_8, if_pos c_30]
          have hP9 : va_P D vwCl (wM cyD cyI cyJ cyZ am bv bt bl be bdp bi bg bsd bsv bbd bbv br bu bw mn mm mch msp msb mno msn mbn mhr mro mv mt ml med md mi mg msd msv mbd mbv mr mu mw) H := hP
          have hD9 : va_D A (wM cyD cyI cyJ cyZ am bv bt bl be bdp bi bg bsd bsv bbd bbv br bu bw mn mm mch msp msb mno msn mbn mhr mro mv mt ml med md mi mg msd msv mbd mbv mr mu mw) := hD
          exact W.iret (v := (-1 : Int32)) hx hb hr (fun t ht hW => ⟨⟨(-1 : Int32), (), rfl, (by rw [hF9]), by rw [ht]; exact hP9, va_K.moved hW.alike hK, hD9⟩, hS.F ht⟩) hS.2.2 dX4_neighbour_38
        refine lv_iload_n hx hb dX4_neighbour_33 rfl (lv_at hl 0 rfl) ?_
        refine lv_goto (tgt := 38) hx hb dX4_neighbour_34 (by decide) ?_
        have hF9 : (fX4_neighbour mhr mr p1 p2) = qq := by rw [hF, fX4_neighbour_L4, if_pos c_8, if_neg c_30]
        have hP9 : va_P D vwCl (wM cyD cyI cyJ cyZ am bv bt bl be bdp bi bg bsd bsv bbd bbv br bu bw mn mm mch msp msb mno msn mbn mhr mro mv mt ml med md mi mg msd msv mbd mbv mr mu mw) H := hP
        have hD9 : va_D A (wM cyD cyI cyJ cyZ am bv bt bl be bdp bi bg bsd bsv bbd bbv br bu bw mn mm mch msp msb mno msn mbn mhr mro mv mt ml med md mi mg msd msv mbd mbv mr mu mw) := hD
        exact W.iret (v := qq) hx hb hr (fun t ht hW => ⟨⟨qq, (), rfl, (by rw [hF9]), by rw [ht]; exact hP9, va_K.moved hW.alike hK, hD9⟩, hS.F ht⟩) hS.2.2 dX4_neighbour_38
      refine lv_aload_n hx hb dX4_neighbour_11 rfl (lv_at hl 1 rfl) ?_
      refine lv_iload_n hx hb dX4_neighbour_12 rfl (lv_at hl 0 rfl) ?_
      have hPc : va_P D vwCl (wM cyD cyI cyJ cyZ am bv bt bl be bdp bi bg bsd bsv bbd bbv br bu bw mn mm mch msp msb mno msn mbn mhr mro mv mt ml med md mi mg msd msv mbd mbv mr mu mw) H := hP.sub [0, 1, 2, 3, 4, 5, 6, 7, 8, 9, 10, 11, 12, 13, 14] rfl
      have hDc : va_D A (wM cyD cyI cyJ cyZ am bv bt bl be bdp bi bg bsd bsv bbd bbv br bu bw mn mm mch msp msb mno msn mbn mhr mro mv mt ml med md mi mg msd msv mbd mbv mr mu mw) := hD.sub [0, 1, 2, 3, 4, 5, 6, 7, 8, 9, 10, 11, 12, 13, 14] (by decide) rfl
      refine kzE (ws' := (wM cyD cyI cyJ cyZ am bv bt bl be bdp bi bg bsd bsv bbd bbv br bu bw mn mm mch msp msb mno msn mbn mhr mro mv mt ml med md mi mg msd msv mbd mbv mr mu mw)) (wc := (wM cyD cyI cyJ cyZ am bv bt bl be bdp bi bg bsd bsv bbd bbv br bu bw mn mm mch msp msb mno msn mbn mhr mro mv mt ml med md mi mg msd msv mbd mbv mr mu mw)) (wr := []) (w1 := (wM cyD cyI cyJ cyZ am bv bt bl be bdp bi bg bsd bsv bbd bbv br bu bw mn mm mch msp msb mno msn mbn mhr mro mv mt ml med md mi mg msd msv mbd mbv mr mu mw)) (va_runV (As := [.int (qq)]) (rest := []) ⟨hx, hb, hml, hown, hts⟩ (c_X4_isWalked (l := l) (D := D) (cyD := cyD) (cyI := cyI) (cyJ := cyJ) (cyZ := cyZ) am bv bt bl be bdp bi bg bsd bsv bbd bbv br bu bw mn mm mch msp msb mno msn mbn mhr mro mv mt ml med md mi mg msd msv mbd mbv mr mu mw H.size (qq)) (cwV 1 hts gX4_neighbour_X4_isWalked rfl rfl rfl (by decide +kernel) ⟨Nat.le_of_ble_eq_true rfl, Nat.le_of_ble_eq_true rfl⟩) (kV (ci := 4) (q0 := 0) (q := (RX4, TX4, 24)) hN hK hPc hDc rfl rfl rfl) rfl rfl hl.1 rfl (lv_room (Nat.le_of_ble_eq_true rfl)) dX4_neighbour_13 ⟨Nat.le_of_ble_eq_true rfl, Nat.le_of_ble_eq_true rfl⟩) hP hD hS hA [0, 1, 2, 3, 4, 5, 6, 7, 8, 9, 10, 11, 12, 13, 14] [] [0, 1, 2, 3, 4, 5, 6, 7, 8, 9, 10, 11, 12, 13, 14] rfl rfl (by decide) (by decide) rfl (by decide) (fun H locs hz_13 hP hD hS => ?_)
      refine lv_if_ne (tgt := 26) hx hb dX4_neighbour_16 (by decide) (fun c_16 => ?_) (fun c_16 => ?_)
      · refine lv_iload_n hx hb dX4_neighbour_26 rfl (lv_at hl 0 rfl) ?_
        have hPc : va_P D vwCl [] H := hP.sub [] rfl
        have hDc : va_D A [] := hD.sub [] (by decide) rfl
        refine kzE (ws' := (wM cyD cyI cyJ cyZ am bv bt bl be bdp bi bg bsd bsv bbd bbv br bu bw mn mm mch msp msb mno msn mbn mhr mro mv mt ml med md mi mg msd msv mbd mbv mr mu mw)) (wc := []) (wr := [(am, .inr (4, [.int (nI mn), .double mm, .ref bv, .ref bt, .ref bl, .ref be, .ref bdp, .ref bi, .ref bg, .int mch, .double msp, .double msb, .double mno, .int msn, .ref bsd, .ref bsv, .int mbn, .ref bbd, .ref bbv, .int mhr, .int mro, .ref br, .ref bu, .ref bw])), (bv, .inl (cyD, 8192, .inr (.inr (.inr (.inl mv))))), (bt, .inl (cyZ, 8192, .inl mt)), (bl, .inl (cyZ, 32, .inl ml)), (be, .inl (cyZ, 32, .inl med)), (bdp, .inl (cyD, 32, .inr (.inr (.inr (.inl md))))), (bi, .inl (cyD, 32, .inr (.inr (.inr (.inl mi))))), (bg, .inl (cyD, 32, .inr (.inr (.inr (.inl mg))))), (bsd, .inl (cyD, 21, .inr (.inr (.inr (.inl msd))))), (bsv, .inl (cyD, 21, .inr (.inr (.inr (.inl msv))))), (bbd, .inl (cyD, 21, .inr (.inr (.inr (.inl mbd))))), (bbv, .inl (cyD, 21, .inr (.inr (.inr (.inl mbv))))), (br, .inl (cyI, 32, .inl mr)), (bu, .inl (cyJ, 2048, .inr (.inl mu))), (bw, .inl (cyI, 32, .inl mw))]) (w1 := []) (va_runS (As := [.int (qq)]) (rest := []) ⟨hx, hb, hml, hown, hts⟩ (c_X4_isPing (l := l) (D := D) (cyD := cyD) (cyI := cyI) (cyJ := cyJ) (cyZ := cyZ) H.size (qq)) (va_cwS 1 hts gX4_neighbour_X4_isPing rfl rfl rfl (by decide +kernel) ⟨Nat.le_of_ble_eq_true rfl, Nat.le_of_ble_eq_true rfl⟩) (kS hN hK hPc hDc) rfl rfl hl.1 rfl (lv_room (Nat.le_of_ble_eq_true rfl)) dX4_neighbour_27 ⟨Nat.le_of_ble_eq_true rfl, Nat.le_of_ble_eq_true rfl⟩) hP hD hS hA [] [0, 1, 2, 3, 4, 5, 6, 7, 8, 9, 10, 11, 12, 13, 14] [0, 1, 2, 3, 4, 5, 6, 7, 8, 9, 10, 11, 12, 13, 14] rfl rfl (by decide) (by decide) rfl (by decide) (fun H locs hz_27 hP hD hS => ?_)
        refine lv_if_eq (tgt := 37) hx hb dX4_neighbour_30 (by decide) (fun c_30 => ?_) (fun c_30 => ?_)
        · refine lv_iconst (v := (-1)) hx hb dX4_neighbour_37 (by decide) ?_
          have hF9 : (fX4_neighbour mhr mr p1 p2) = (-1 : Int32) := by rw [hF, fX4_neighbour_L4, if_neg c_8, if_neg c_16, if_pos c_30]
          have hP9 : va_P D vwCl (wM cyD cyI cyJ cyZ am bv bt bl be bdp bi bg bsd bsv bbd bbv br bu bw mn mm mch msp msb mno msn mbn mhr mro mv mt ml med md mi mg msd msv mbd mbv mr mu mw) H := hP
          have hD9 : va_D A (wM cyD cyI cyJ cyZ am bv bt bl be bdp bi bg bsd bsv bbd bbv br bu bw mn mm mch msp msb mno msn mbn mhr mro mv mt ml med md mi mg msd msv mbd mbv mr mu mw) := hD
          exact W.iret (v := (-1 : Int32)) hx hb hr (fun t ht hW => ⟨⟨(-1 : Int32), (), rfl, (by rw [hF9]), by rw [ht]; exact hP9, va_K.moved hW.alike hK, hD9⟩, hS.F ht⟩) hS.2.2 dX4_neighbour_38
        refine lv_iload_n hx hb dX4_neighbour_33 rfl (lv_at hl 0 rfl) ?_
        refine lv_goto (tgt := 38) hx hb dX4_neighbour_34 (by decide) ?_
        have hF9 : (fX4_neighbour mhr mr p1 p2) = qq := by rw [hF, fX4_neighbour_L4, if_neg c_8, if_neg c_16, if_neg c_30]
        have hP9 : va_P D vwCl (wM cyD cyI cyJ cyZ am bv bt bl be bdp bi bg bsd bsv bbd bbv br bu bw mn mm mch msp msb mno msn mbn mhr mro mv mt ml med md mi mg msd msv mbd mbv mr mu mw) H := hP
        have hD9 : va_D A (wM cyD cyI cyJ cyZ am bv bt bl be bdp bi bg bsd bsv bbd bbv br bu bw mn mm mch msp msb mno msn mbn mhr mro mv mt ml med md mi mg msd msv mbd mbv mr mu mw) := hD
        exact W.iret (v := qq) hx hb hr (fun t ht hW => ⟨⟨qq, (), rfl, (by rw [hF9]), by rw [ht]; exact hP9, va_K.moved hW.alike hK, hD9⟩, hS.F ht⟩) hS.2.2 dX4_neighbour_38
      refine lv_iload_n hx hb dX4_neighbour_19 rfl (lv_at hl 0 rfl) ?_
      refine lv_iload_n hx hb dX4_neighbour_20 rfl (lv_at hl 3 rfl) ?_
      refine lv_iadd hx hb dX4_neighbour_21 ?_
      refine lv_istore_n (lv' := [(3, .int (qq + p2)), (0, .ref am), (1, .int p1), (2, .int p2)]) hx hb dX4_neighbour_22 rfl hl (by decide) rfl (fun ls hl => ?_)
      refine lv_goto (tgt := 4) hx hb dX4_neighbour_23 (by decide) ?_
      exact ih_4 (qq + p2) _ _ (nbI_s hq c_8) (by rw [hF, fX4_neighbour_L4, if_neg c_8, if_pos c_16]) hP hD hS _ (by exact lv_sub hl [0, 1, 2, 3] rfl)
  exact loop_4 34 (p1 + p2) _ _ (nbI_i hp hP32 hby) (by rw [fX4_neighbour]) hP hD hS _ (by exact lv_sub hl [0, 1, 2, 3] rfl)
def fX4_isBridged (mhr : Int32) (mr : Nat → Int32) (p1 : Int32) : Int32 := if mhr = 0 then (0 : Int32) else (if (fX4_isPing p1) = 0 then (0 : Int32) else (if (fX4_isWalked mhr mr p1) = 0 then (if (fX4_neighbour mhr mr p1 (-1 : Int32)) = (-1 : Int32) then (0 : Int32) else (if (fX4_neighbour mhr mr p1 (1 : Int32)) = (-1 : Int32) then (0 : Int32) else (if (4 : Int32) < ((fX4_neighbour mhr mr p1 (1 : Int32)) - (fX4_neighbour mhr mr p1 (-1 : Int32))) then (0 : Int32) else ((1 : Int32))))) else ((0 : Int32))))
set_option maxHeartbeats 4000000 in
set_option maxRecDepth 100000 in
theorem c_X4_isBridged {l : Launch} {D : va_G} {cyD cyI cyJ cyZ : ClassId} (am bv bt bl be bdp bi bg bsd bsv bbd bbv br bu bw : Nat) (mn : Nat) (mm : UInt64) (mch : Int32) (msp : UInt64) (msb : UInt64) (mno : UInt64) (msn : Int32) (mbn : Int32) (mhr : Int32) (mro : Int32) (mv : Nat → UInt64) (mt : Nat → Int32) (ml : Nat → Int32) (med : Nat → Int32) (md : Nat → UInt64) (mi : Nat → UInt64) (mg : Nat → UInt64) (msd : Nat → UInt64) (msv : Nat → UInt64) (mbd : Nat → UInt64) (mbv : Nat → UInt64) (mr : Nat → Int32) (mu : Nat → Int64) (mw : Nat → Int32) (sz : Nat) (p1 : Int32)  : mZ l yX4_isBridged wsX4_isBridged ({ frames := 3, cells := 0, slots := 0, locals := 64 } : Room) D (kT cyD cyI cyJ cyZ) [.ref am, .int p1] (wM cyD cyI cyJ cyZ am bv bt bl be bdp bi bg bsd bsv bbd bbv br bu bw mn mm mch msp msb mno msn mbn mhr mro mv mt ml med md mi mg msd msv mbd mbv mr mu mw) (wM cyD cyI cyJ cyZ am bv bt bl be bdp bi bg bsd bsv bbd bbv br bu bw mn mm mch msp msb mno msn mbn mhr mro mv mt ml med md mi mg msd msv mbd mbv mr mu mw) sz (fX4_isBridged mhr mr p1) 0 0 := by
  refine Met.ofW (cc := cX4_isBridged) (maxL := 4) (ret := (some .boolean)) (by decide) rfl ?_
  intro p e s m args below meth c s₁ B hml hv
  obtain ⟨rfl, hN, hsz, hP, hK, hD0⟩ := hv
  have hx := B.exec
  have hb := B.bytes
  have hr := B.returns
  have hts := atoms_spec (ws := wsX4_isBridged) B.pre
  have hown : s.vm.findClass RX4 = some m.cls := findClass_of_methodNamed B.named
  have hlocks := B.notSynchronized
  subst hsz
  have hD := hD0.self (sz := s.heap.size)
  generalize hAe : va_A (wM cyD cyI cyJ cyZ am bv bt bl be bdp bi bg bsd bsv bbd bbv br bu bw mn mm mch msp msb mno msn mbn mhr mro mv mt ml med md mi mg msd msv mbd mbv mr mu mw) s.heap.size = A at hD ⊢
  have hA : ∀ q : Nat, s.heap.size ≤ q → A q := fun q h => by rw [← hAe]; exact Or.inr h
  have hS : va_S A s.heap s.heap [] := va_S.rf
  have hP : va_P D vwCl (wM cyD cyI cyJ cyZ am bv bt bl be bdp bi bg bsd bsv bbd bbv br bu bw mn mm mch msp msb mno msn mbn mhr mro mv mt ml med md mi mg msd msv mbd mbv mr mu mw) s.heap := hP
  have hl := lv_entry [.ref am, .int p1] (n := 4) (Nat.le_of_ble_eq_true rfl)
  rw [lg_entry_eq]
  generalize (lg_sl [.ref am, .int p1] ++ List.replicate (4 - (lg_sl [.ref am, .int p1]).length) Slot.unset).toArray = ls at hl ⊢
  have hl : lv_has ls 4 [(0, .ref am), (1, .int p1)] := hl
  obtain ⟨H, hHe⟩ : ∃ H : Heap, H = s.heap := ⟨_, rfl⟩
  have hP : va_P D vwCl (wM cyD cyI cyJ cyZ am bv bt bl be bdp bi bg bsd bsv bbd bbv br bu bw mn mm mch msp msb mno msn mbn mhr mro mv mt ml med md mi mg msd msv mbd mbv mr mu mw) H := by rw [hHe]; exact hP
  have hS : va_S A s.heap H [] := by rw [hHe]; exact hS
  rw [← hHe]
  refine lv_aload_n hx hb dX4_isBridged_0 rfl (lv_at hl 0 rfl) ?_
  refine va_get (D := D) (ci := 4) (v := .int mhr) (C := RX4) (T := TX4) (N := 24) hx hb hts (fun _ h => (List.mem_cons_of_mem _ (List.mem_append_right _ h))) hown hK hP 0 rfl rfl 19 (by decide) (hts (.fieldLink RX4 132 "BottomWalksModel" "hasRun" "Z") (List.mem_of_getElem? (i := 1) rfl)) (fun _ h9 => h9) rfl dX4_isBridged_1 ?_
  refine lv_if_eq (tgt := 22) hx hb dX4_isBridged_4 (by decide) (fun c_4 => ?_) (fun c_4 => ?_)
  · refine lv_iconst (v := 0) hx hb dX4_isBridged_22 (by decide) ?_
    have hF9 : (fX4_isBridged mhr mr p1) = (0 : Int32) := by rw [fX4_isBridged, if_pos c_4]
    have hP9 : va_P D vwCl (wM cyD cyI cyJ cyZ am bv bt bl be bdp bi bg bsd bsv bbd bbv br bu bw mn mm mch msp msb mno msn mbn mhr mro mv mt ml med md mi mg msd msv mbd mbv mr mu mw) H := hP
    have hD9 : va_D A (wM cyD cyI cyJ cyZ am bv bt bl be bdp bi bg bsd bsv bbd bbv br bu bw mn mm mch msp msb mno msn mbn mhr mro mv mt ml med md mi mg msd msv mbd mbv mr mu mw) := hD
    exact W.zret (v := (0 : Int32)) hx hb hr (nar_z (Or.inl rfl)) (fun t ht hW => ⟨⟨(0 : Int32), (), rfl, ⟨(by rw [hF9]), (Or.inl rfl)⟩, by rw [ht]; exact hP9, va_K.moved hW.alike hK, hD9⟩, hS.F ht⟩) hS.2.2 dX4_isBridged_23
  refine lv_iload_n hx hb dX4_isBridged_7 rfl (lv_at hl 1 rfl) ?_
  have hPc : va_P D vwCl [] H := hP.sub [] rfl
  have hDc : va_D A [] := hD.sub [] (by decide) rfl
  refine kzE (ws' := (wM cyD cyI cyJ cyZ am bv bt bl be bdp bi bg bsd bsv bbd bbv br bu bw mn mm mch msp msb mno msn mbn mhr mro mv mt ml med md mi mg msd msv mbd mbv mr mu mw)) (wc := []) (wr := [(am, .inr (4, [.int (nI mn), .double mm, .ref bv, .ref bt, .ref bl, .ref be, .ref bdp, .ref bi, .ref bg, .int mch, .double msp, .double msb, .double mno, .int msn, .ref bsd, .ref bsv, .int mbn, .ref bbd, .ref bbv, .int mhr, .int mro, .ref br, .ref bu, .ref bw])), (bv, .inl (cyD, 8192, .inr (.inr (.inr (.inl mv))))), (bt, .inl (cyZ, 8192, .inl mt)), (bl, .inl (cyZ, 32, .inl ml)), (be, .inl (cyZ, 32, .inl med)), (bdp, .inl (cyD, 32, .inr (.inr (.inr (.inl md))))), (bi, .inl (cyD, 32, .inr (.inr (.inr (.inl mi))))), (bg, .inl (cyD, 32, .inr (.inr (.inr (.inl mg))))), (bsd, .inl (cyD, 21, .inr (.inr (.inr (.inl msd))))), (bsv, .inl (cyD, 21, .inr (.inr (.inr (.inl msv))))), (bbd, .inl (cyD, 21, .inr (.inr (.inr (.inl mbd))))), (bbv, .inl (cyD, 21, .inr (.inr (.inr (.inl mbv))))), (br, .inl (cyI, 32, .inl mr)), (bu, .inl (cyJ, 2048, .inr (.inl mu))), (bw, .inl (cyI, 32, .inl mw))]) (w1 := []) (va_runS (As := [.int p1]) (rest := []) ⟨hx, hb, hml, hown, hts⟩ (c_X4_isPing (l := l) (D := D) (cyD := cyD) (cyI := cyI) (cyJ := cyJ) (cyZ := cyZ) H.size p1) (va_cwS 1 hts gX4_isBridged_X4_isPing rfl rfl rfl (by decide +kernel) ⟨Nat.le_of_ble_eq_true rfl, Nat.le_of_ble_eq_true rfl⟩) (kS hN hK hPc hDc) rfl rfl hl.1 rfl (lv_room (Nat.le_of_ble_eq_true rfl)) dX4_isBridged_8 ⟨Nat.le_of_ble_eq_true rfl, Nat.le_of_ble_eq_true rfl⟩) hP hD hS hA [] [0, 1, 2, 3, 4, 5, 6, 7, 8, 9, 10, 11, 12, 13, 14] [0, 1, 2, 3, 4, 5, 6, 7, 8, 9, 10, 11, 12, 13, 14] rfl rfl (by decide) (by decide) rfl (by decide) (fun H locs hz_8 hP hD hS => ?_)
  refine lv_if_eq (tgt := 22) hx hb dX4_isBridged_11 (by decide) (fun c_11 => ?_) (fun c_11 => ?_)
  · refine lv_iconst (v := 0) hx hb dX4_isBridged_22 (by decide) ?_
    have hF9 : (fX4_isBridged mhr mr p1) = (0 : Int32) := by rw [fX4_isBridged, if_neg c_4, if_pos c_11]
    have hP9 : va_P D vwCl (wM cyD cyI cyJ cyZ am bv bt bl be bdp bi bg bsd bsv bbd bbv br bu bw mn mm mch msp msb mno msn mbn mhr mro mv mt ml med md mi mg msd msv mbd mbv mr mu mw) H := hP
    have hD9 : va_D A (wM cyD cyI cyJ cyZ am bv bt bl be bdp bi bg bsd bsv bbd bbv br bu bw mn mm mch msp msb mno msn mbn mhr mro mv mt ml med md mi mg msd msv mbd mbv mr mu mw) := hD
    exact W.zret (v := (0 : Int32)) hx hb hr (nar_z (Or.inl rfl)) (fun t ht hW => ⟨⟨(0 : Int32), (), rfl, ⟨(by rw [hF9]), (Or.inl rfl)⟩, by rw [ht]; exact hP9, va_K.moved hW.alike hK, hD9⟩, hS.F ht⟩) hS.2.2 dX4_isBridged_23
  refine lv_aload_n hx hb dX4_isBridged_14 rfl (lv_at hl 0 rfl) ?_
  refine lv_iload_n hx hb dX4_isBridged_15 rfl (lv_at hl 1 rfl) ?_
  have hPc : va_P D vwCl (wM cyD cyI cyJ cyZ am bv bt bl be bdp bi bg bsd bsv bbd bbv br bu bw mn mm mch msp msb mno msn mbn mhr mro mv mt ml med md mi mg msd msv mbd mbv mr mu mw) H := hP.sub [0, 1, 2, 3, 4, 5, 6, 7, 8, 9, 10, 11, 12, 13, 14] rfl
  have hDc : va_D A (wM cyD cyI cyJ cyZ am bv bt bl be bdp bi bg bsd bsv bbd bbv br bu bw mn mm mch msp msb mno msn mbn mhr mro mv mt ml med md mi mg msd msv mbd mbv mr mu mw) := hD.sub [0, 1, 2, 3, 4, 5, 6, 7, 8, 9, 10, 11, 12, 13, 14] (by decide) rfl
  refine kzE (ws' := (wM cyD cyI cyJ cyZ am bv bt bl be bdp bi bg bsd bsv bbd bbv br bu bw mn mm mch msp msb mno msn mbn mhr mro mv mt ml med md mi mg msd msv mbd mbv mr mu mw)) (wc := (wM cyD cyI cyJ cyZ am bv bt bl be bdp bi bg bsd bsv bbd bbv br bu bw mn mm mch msp msb mno msn mbn mhr mro mv mt ml med md mi mg msd msv mbd mbv mr mu mw)) (wr := []) (w1 := (wM cyD cyI cyJ cyZ am bv bt bl be bdp bi bg bsd bsv bbd bbv br bu bw mn mm mch msp msb mno msn mbn mhr mro mv mt ml med md mi mg msd msv mbd mbv mr mu mw)) (va_runV (As := [.int p1]) (rest := []) ⟨hx, hb, hml, hown, hts⟩ (c_X4_isWalked (l := l) (D := D) (cyD := cyD) (cyI := cyI) (cyJ := cyJ) (cyZ := cyZ) am bv bt bl be bdp bi bg bsd bsv bbd bbv br bu bw mn mm mch msp msb mno msn mbn mhr mro mv mt ml med md mi mg msd msv mbd mbv mr mu mw H.size p1) (cwV 1 hts gX4_isBridged_X4_isWalked rfl rfl rfl (by decide +kernel) ⟨Nat.le_of_ble_eq_true rfl, Nat.le_of_ble_eq_true rfl⟩) (kV (ci := 4) (q0 := 0) (q := (RX4, TX4, 24)) hN hK hPc hDc rfl rfl rfl) rfl rfl hl.1 rfl (lv_room (Nat.le_of_ble_eq_true rfl)) dX4_isBridged_16 ⟨Nat.le_of_ble_eq_true rfl, Nat.le_of_ble_eq_true rfl⟩) hP hD hS hA [0, 1, 2, 3, 4, 5, 6, 7, 8, 9, 10, 11, 12, 13, 14] [] [0, 1, 2, 3, 4, 5, 6, 7, 8, 9, 10, 11, 12, 13, 14] rfl rfl (by decide) (by decide) rfl (by decide) (fun H locs hz_16 hP hD hS => ?_)
  refine lv_if_eq (tgt := 24) hx hb dX4_isBridged_19 (by decide) (fun c_19 => ?_) (fun c_19 => ?_)
  · refine lv_aload_n hx hb dX4_isBridged_24 rfl (lv_at hl 0 rfl) ?_
    refine lv_iload_n hx hb dX4_isBridged_25 rfl (lv_at hl 1 rfl) ?_
    refine lv_iconst (v := (-1)) hx hb dX4_isBridged_26 (by decide) ?_
    have hPc : va_P D vwCl (wM cyD cyI cyJ cyZ am bv bt bl be bdp bi bg bsd bsv bbd bbv br bu bw mn mm mch msp msb mno msn mbn mhr mro mv mt ml med md mi mg msd msv mbd mbv mr mu mw) H := hP.sub [0, 1, 2, 3, 4, 5, 6, 7, 8, 9, 10, 11, 12, 13, 14] rfl
    have hDc : va_D A (wM cyD cyI cyJ cyZ am bv bt bl be bdp bi bg bsd bsv bbd bbv br bu bw mn mm mch msp msb mno msn mbn mhr mro mv mt ml med md mi mg msd msv mbd mbv mr mu mw) := hD.sub [0, 1, 2, 3, 4, 5, 6, 7, 8, 9, 10, 11, 12, 13, 14] (by decide) rfl
    refine kiE (ws' := (wM cyD cyI cyJ cyZ am bv bt bl be bdp bi bg bsd bsv bbd bbv br bu bw mn mm mch msp msb mno msn mbn mhr mro mv mt ml med md mi mg msd msv mbd mbv mr mu mw)) (wc := (wM cyD cyI cyJ cyZ am bv bt bl be bdp bi bg bsd bsv bbd bbv br bu bw mn mm mch msp msb mno msn mbn mhr mro mv mt ml med md mi mg msd msv mbd mbv mr mu mw)) (wr := []) (w1 := (wM cyD cyI cyJ cyZ am bv bt bl be bdp bi bg bsd bsv bbd bbv br bu bw mn mm mch msp msb mno msn mbn mhr mro mv mt ml med md mi mg msd msv mbd mbv mr mu mw)) (va_runV (As := [.int p1, .int (-1 : Int32)]) (rest := []) ⟨hx, hb, hml, hown, hts⟩ (c_X4_neighbour (l := l) (D := D) (cyD := cyD) (cyI := cyI) (cyJ := cyJ) (cyZ := cyZ) am bv bt bl be bdp bi bg bsd bsv bbd bbv br bu bw mn mm mch msp msb mno msn mbn mhr mro mv mt ml med md mi mg msd msv mbd mbv mr mu mw H.size p1 (-1 : Int32) (pingM c_11).choose (pingM c_11).choose_spec.1 (pingM c_11).choose_spec.2 (Or.inr rfl)) (cwV 2 hts gX4_isBridged_X4_neighbour rfl rfl rfl (by decide +kernel) ⟨Nat.le_of_ble_eq_true rfl, Nat.le_of_ble_eq_true rfl⟩) (kV (ci := 4) (q0 := 0) (q := (RX4, TX4, 24)) hN hK hPc hDc rfl rfl rfl) rfl rfl hl.1 rfl (lv_room (Nat.le_of_ble_eq_true rfl)) dX4_isBridged_27 ⟨Nat.le_of_ble_eq_true rfl, Nat.le_of_ble_eq_true rfl⟩) hP hD hS hA [0, 1, 2, 3, 4, 5, 6, 7, 8, 9, 10, 11, 12, 13, 14] [] [0, 1, 2, 3, 4, 5, 6, 7, 8, 9, 10, 11, 12, 13, 14] rfl rfl (by decide) (by decide) rfl (by decide) (fun H locs hP hD hS => ?_)
    refine lv_istore_n (lv' := [(2, .int (fX4_neighbour mhr mr p1 (-1 : Int32))), (0, .ref am), (1, .int p1)]) hx hb dX4_isBridged_30 rfl hl (by decide) rfl (fun ls hl => ?_)
    refine lv_aload_n hx hb dX4_isBridged_31 rfl (lv_at hl 1 rfl) ?_
    refine lv_iload_n hx hb dX4_isBridged_32 rfl (lv_at hl 2 rfl) ?_
    refine lv_iconst (v := 1) hx hb dX4_isBridged_33 (by decide) ?_
    have hPc : va_P D vwCl (wM cyD cyI cyJ cyZ am bv bt bl be bdp bi bg bsd bsv bbd bbv br bu bw mn mm mch msp msb mno msn mbn mhr mro mv mt ml med md mi mg msd msv mbd mbv mr mu mw) H := hP.sub [0, 1, 2, 3, 4, 5, 6, 7, 8, 9, 10, 11, 12, 13, 14] rfl
    have hDc : va_D A (wM cyD cyI cyJ cyZ am bv bt bl be bdp bi bg bsd bsv bbd bbv br bu bw mn mm mch msp msb mno msn mbn mhr mro mv mt ml med md mi mg msd msv mbd mbv mr mu mw) := hD.sub [0, 1, 2, 3, 4, 5, 6, 7, 8, 9, 10, 11, 12, 13, 14] (by decide) rfl
    refine kiE (ws' := (wM cyD cyI cyJ cyZ am bv bt bl be bdp bi bg bsd bsv bbd bbv br bu bw mn mm mch msp msb mno msn mbn mhr mro mv mt ml med md mi mg msd msv mbd mbv mr mu mw)) (wc := (wM cyD cyI cyJ cyZ am bv bt bl be bdp bi bg bsd bsv bbd bbv br bu bw mn mm mch msp msb mno msn mbn mhr mro mv mt ml med md mi mg msd msv mbd mbv mr mu mw)) (wr := []) (w1 := (wM cyD cyI cyJ cyZ am bv bt bl be bdp bi bg bsd bsv bbd bbv br bu bw mn mm mch msp msb mno msn mbn mhr mro mv mt ml med md mi mg msd msv mbd mbv mr mu mw)) (va_runV (As := [.int p1, .int (1 : Int32)]) (rest := []) ⟨hx, hb, hml, hown, hts⟩ (c_X4_neighbour (l := l) (D := D) (cyD := cyD) (cyI := cyI) (cyJ := cyJ) (cyZ := cyZ) am bv bt bl be bdp bi bg bsd bsv bbd bbv br bu bw mn mm mch msp msb mno msn mbn mhr mro mv mt ml med md mi mg msd msv mbd mbv mr mu mw H.size p1 (1 : Int32) (pingM c_11).choose (pingM c_11).choose_spec.1 (pingM c_11).choose_spec.2 (Or.inl rfl)) (cwV 2 hts gX4_isBridged_X4_neighbour rfl rfl rfl (by decide +kernel) ⟨Nat.le_of_ble_eq_true rfl, Nat.le_of_ble_eq_true rfl⟩) (kV (ci := 4) (q0 := 0) (q := (RX4, TX4, 24)) hN hK hPc hDc rfl rfl rfl) rfl rfl hl.1 rfl (lv_room (Nat.le_of_ble_eq_true rfl)) dX4_isBridged_34 ⟨Nat.le_of_ble_eq_true rfl, Nat.le_of_ble_eq_true rfl⟩) hP hD hS hA [0, 1, 2, 3, 4, 5, 6, 7, 8, 9, 10, 11, 12, 13, 14] [] [0, 1, 2, 3, 4, 5, 6, 7, 8, 9, 10, 11, 12, 13, 14] rfl rfl (by decide) (by decide) rfl (by decide) (fun H locs hP hD hS => ?_)
    refine lv_istore_n (lv' := [(3, .int (fX4_neighbour mhr mr p1 (1 : Int32))), (2, .int (fX4_neighbour mhr mr p1 (-1 : Int32))), (0, .ref am), (1, .int p1)]) hx hb dX4_isBridged_37 rfl hl (by decide) rfl (fun ls hl => ?_)
    refine lv_iload_n hx hb dX4_isBridged_38 rfl (lv_at hl 1 rfl) ?_
    refine lv_iconst (v := (-1)) hx hb dX4_isBridged_39 (by decide) ?_
    refine lv_icmp_eq (tgt := 59) hx hb dX4_isBridged_40 (by decide) (fun c_40 => ?_) (fun c_40 => ?_)
    · refine lv_iconst (v := 0) hx hb dX4_isBridged_59 (by decide) ?_
      have hF9 : (fX4_isBridged mhr mr p1) = (0 : Int32) := by rw [fX4_isBridged, if_neg c_4, if_neg c_11, if_pos c_19, if_pos c_40]
      have hP9 : va_P D vwCl (wM cyD cyI cyJ cyZ am bv bt bl be bdp bi bg bsd bsv bbd bbv br bu bw mn mm mch msp msb mno msn mbn mhr mro mv mt ml med md mi mg msd msv mbd mbv mr mu mw) H := hP
      have hD9 : va_D A (wM cyD cyI cyJ cyZ am bv bt bl be bdp bi bg bsd bsv bbd bbv br bu bw mn mm mch msp msb mno msn mbn mhr mro mv mt ml med md mi mg msd msv mbd mbv mr mu mw) := hD
      exact W.zret (v := (0 : Int32)) hx hb hr (nar_z (Or.inl rfl)) (fun t ht hW => ⟨⟨(0 : Int32), (), rfl, ⟨(by rw [hF9]), (Or.inl rfl)⟩, by rw [ht]; exact hP9, va_K.moved hW.alike hK, hD9⟩, hS.F ht⟩) hS.2.2 dX4_isBridged_60
    refine lv_iload_n hx hb dX4_isBridged_43 rfl (lv_at hl 0 rfl) ?_
    refine lv_iconst (v := (-1)) hx hb dX4_isBridged_44 (by decide) ?_
    refine lv_icmp_eq (tgt := 59) hx hb dX4_isBridged_45 (by decide) (fun c_45 => ?_) (fun c_45 => ?_)
    · refine lv_iconst (v := 0) hx hb dX4_isBridged_59 (by decide) ?_
      have hF9 : (fX4_isBridged mhr mr p1) = (0 : Int32) := by rw [fX4_isBridged, if_neg c_4, if_neg c_11, if_pos c_19, if_neg c_40, if_pos c_45]
      have hP9 : va_P D vwCl (wM cyD cyI cyJ cyZ am bv bt bl be bdp bi bg bsd bsv bbd bbv br bu bw mn mm mch msp msb mno msn mbn mhr mro mv mt ml med md mi mg msd msv mbd mbv mr mu mw) H := hP
      have hD9 : va_D A (wM cyD cyI cyJ cyZ am bv bt bl be bdp bi bg bsd bsv bbd bbv br bu bw mn mm mch msp msb mno msn mbn mhr mro mv mt ml med md mi mg msd msv mbd mbv mr mu mw) := hD
      exact W.zret (v := (0 : Int32)) hx hb hr (nar_z (Or.inl rfl)) (fun t ht hW => ⟨⟨(0 : Int32), (), rfl, ⟨(by rw [hF9]), (Or.inl rfl)⟩, by rw [ht]; exact hP9, va_K.moved hW.alike hK, hD9⟩, hS.F ht⟩) hS.2.2 dX4_isBridged_60
    refine lv_iload_n hx hb dX4_isBridged_48 rfl (lv_at hl 0 rfl) ?_
    refine lv_iload_n hx hb dX4_isBridged_49 rfl (lv_at hl 1 rfl) ?_
    refine lv_isub hx hb dX4_isBridged_50 ?_
    refine lv_iconst (v := 4) hx hb dX4_isBridged_51 (by decide) ?_
    refine lv_icmp_gt (tgt := 59) hx hb dX4_isBridged_52 (by decide) (fun c_52 => ?_) (fun c_52 => ?_)
    · refine lv_iconst (v := 0) hx hb dX4_isBridged_59 (by decide) ?_
      have hF9 : (fX4_isBridged mhr mr p1) = (0 : Int32) := by rw [fX4_isBridged, if_neg c_4, if_neg c_11, if_pos c_19, if_neg c_40, if_neg c_45, if_pos c_52]
      have hP9 : va_P D vwCl (wM cyD cyI cyJ cyZ am bv bt bl be bdp bi bg bsd bsv bbd bbv br bu bw mn mm mch msp msb mno msn mbn mhr mro mv mt ml med md mi mg msd msv mbd mbv mr mu mw) H := hP
      have hD9 : va_D A (wM cyD cyI cyJ cyZ am bv bt bl be bdp bi bg bsd bsv bbd bbv br bu bw mn mm mch msp msb mno msn mbn mhr mro mv mt ml med md mi mg msd msv mbd mbv mr mu mw) := hD
      exact W.zret (v := (0 : Int32)) hx hb hr (nar_z (Or.inl rfl)) (fun t ht hW => ⟨⟨(0 : Int32), (), rfl, ⟨(by rw [hF9]), (Or.inl rfl)⟩, by rw [ht]; exact hP9, va_K.moved hW.alike hK, hD9⟩, hS.F ht⟩) hS.2.2 dX4_isBridged_60
    refine lv_iconst (v := 1) hx hb dX4_isBridged_55 (by decide) ?_
    refine lv_goto (tgt := 60) hx hb dX4_isBridged_56 (by decide) ?_
    have hF9 : (fX4_isBridged mhr mr p1) = (1 : Int32) := by rw [fX4_isBridged, if_neg c_4, if_neg c_11, if_pos c_19, if_neg c_40, if_neg c_45, if_neg c_52]
    have hP9 : va_P D vwCl (wM cyD cyI cyJ cyZ am bv bt bl be bdp bi bg bsd bsv bbd bbv br bu bw mn mm mch msp msb mno msn mbn mhr mro mv mt ml med md mi mg msd msv mbd mbv mr mu mw) H := hP
    have hD9 : va_D A (wM cyD cyI cyJ cyZ am bv bt bl be bdp bi bg bsd bsv bbd bbv br bu bw mn mm mch msp msb mno msn mbn mhr mro mv mt ml med md mi mg msd msv mbd mbv mr mu mw) := hD
    exact W.zret (v := (1 : Int32)) hx hb hr (nar_z (Or.inr rfl)) (fun t ht hW => ⟨⟨(1 : Int32), (), rfl, ⟨(by rw [hF9]), (Or.inr rfl)⟩, by rw [ht]; exact hP9, va_K.moved hW.alike hK, hD9⟩, hS.F ht⟩) hS.2.2 dX4_isBridged_60
  refine lv_iconst (v := 0) hx hb dX4_isBridged_22 (by decide) ?_
  have hF9 : (fX4_isBridged mhr mr p1) = (0 : Int32) := by rw [fX4_isBridged, if_neg c_4, if_neg c_11, if_neg c_19]
  have hP9 : va_P D vwCl (wM cyD cyI cyJ cyZ am bv bt bl be bdp bi bg bsd bsv bbd bbv br bu bw mn mm mch msp msb mno msn mbn mhr mro mv mt ml med md mi mg msd msv mbd mbv mr mu mw) H := hP
  have hD9 : va_D A (wM cyD cyI cyJ cyZ am bv bt bl be bdp bi bg bsd bsv bbd bbv br bu bw mn mm mch msp msb mno msn mbn mhr mro mv mt ml med md mi mg msd msv mbd mbv mr mu mw) := hD
  exact W.zret (v := (0 : Int32)) hx hb hr (nar_z (Or.inl rfl)) (fun t ht hW => ⟨⟨(0 : Int32), (), rfl, ⟨(by rw [hF9]), (Or.inl rfl)⟩, by rw [ht]; exact hP9, va_K.moved hW.alike hK, hD9⟩, hS.F ht⟩) hS.2.2 dX4_isBridged_23
def fX4_hasBottom (mhr : Int32) (mr : Nat → Int32) (p1 : Int32) : Int32 := if (fX4_isWalked mhr mr p1) = 0 then (if (fX4_isBridged mhr mr p1) = 0 then (0 : Int32) else ((1 : Int32))) else ((1 : Int32))
set_option maxHeartbeats 4000000 in
set_option maxRecDepth 100000 in
theorem c_X4_hasBottom {l : Launch} {D : va_G} {cyD cyI cyJ cyZ : ClassId} (am bv bt bl be bdp bi bg bsd bsv bbd bbv br bu bw : Nat) (mn : Nat) (mm : UInt64) (mch : Int32) (msp : UInt64) (msb : UInt64) (mno : UInt64) (msn : Int32) (mbn : Int32) (mhr : Int32) (mro : Int32) (mv : Nat → UInt64) (mt : Nat → Int32) (ml : Nat → Int32) (med : Nat → Int32) (md : Nat → UInt64) (mi : Nat → UInt64) (mg : Nat → UInt64) (msd : Nat → UInt64) (msv : Nat → UInt64) (mbd : Nat → UInt64) (mbv : Nat → UInt64) (mr : Nat → Int32) (mu : Nat → Int64) (mw : Nat → Int32) (sz : Nat) (p1 : Int32)  : mZ l yX4_hasBottom wsX4_hasBottom ({ frames := 4, cells := 0, slots := 0, locals := 87 } : Room) D (kT cyD cyI cyJ cyZ) [.ref am, .int p1] (wM cyD cyI cyJ cyZ am bv bt bl be bdp bi bg bsd bsv bbd bbv br bu bw mn mm mch msp msb mno msn mbn mhr mro mv mt ml med md mi mg msd msv mbd mbv mr mu mw) (wM cyD cyI cyJ cyZ am bv bt bl be bdp bi bg bsd bsv bbd bbv br bu bw mn mm mch msp msb mno msn mbn mhr mro mv mt ml med md mi mg msd msv mbd mbv mr mu mw) sz (fX4_hasBottom mhr mr p1) 0 0 := by
  refine Met.ofW (cc := cX4_hasBottom) (maxL := 2) (ret := (some .boolean)) (by decide) rfl ?_
  intro p e s m args below meth c s₁ B hml hv
  obtain ⟨rfl, hN, hsz, hP, hK, hD0⟩ := hv
  have hx := B.exec
  have hb := B.bytes
  have hr := B.returns
  have hts := atoms_spec (ws := wsX4_hasBottom) B.pre
  have hown : s.vm.findClass RX4 = some m.cls := findClass_of_methodNamed B.named
  have hlocks := B.notSynchronized
  subst hsz
  have hD := hD0.self (sz := s.heap.size)
  generalize hAe : va_A (wM cyD cyI cyJ cyZ am bv bt bl be bdp bi bg bsd bsv bbd bbv br bu bw mn mm mch msp msb mno msn mbn mhr mro mv mt ml med md mi mg msd msv mbd mbv mr mu mw) s.heap.size = A at hD ⊢
  have hA : ∀ q : Nat, s.heap.size ≤ q → A q := fun q h => by rw [← hAe]; exact Or.inr h
  have hS : va_S A s.heap s.heap [] := va_S.rf
  have hP : va_P D vwCl (wM cyD cyI cyJ cyZ am bv bt bl be bdp bi bg bsd bsv bbd bbv br bu bw mn mm mch msp msb mno msn mbn mhr mro mv mt ml med md mi mg msd msv mbd mbv mr mu mw) s.heap := hP
  have hl := lv_entry [.ref am, .int p1] (n := 2) (Nat.le_of_ble_eq_true rfl)
  rw [lg_entry_eq]
  generalize (lg_sl [.ref am, .int p1] ++ List.replicate (2 - (lg_sl [.ref am, .int p1]).length) Slot.unset).toArray = ls at hl ⊢
  have hl : lv_has ls 2 [(0, .ref am), (1, .int p1)] := hl
  obtain ⟨H, hHe⟩ : ∃ H : Heap, H = s.heap := ⟨_, rfl⟩
  have hP : va_P D vwCl (wM cyD cyI cyJ cyZ am bv bt bl be bdp bi bg bsd bsv bbd bbv br bu bw mn mm mch msp msb mno msn mbn mhr mro mv mt ml med md mi mg msd msv mbd mbv mr mu mw) H := by rw [hHe]; exact hP
  have hS : va_S A s.heap H [] := by rw [hHe]; exact hS
  rw [← hHe]
  refine lv_aload_n hx hb dX4_hasBottom_0 rfl (lv_at hl 0 rfl) ?_
  refine lv_iload_n hx hb dX4_hasBottom_1 rfl (lv_at hl 1 rfl) ?_
  have hPc : va_P D vwCl (wM cyD cyI cyJ cyZ am bv bt bl be bdp bi bg bsd bsv bbd bbv br bu bw mn mm mch msp msb mno msn mbn mhr mro mv mt ml med md mi mg msd msv mbd mbv mr mu mw) H := hP.sub [0, 1, 2, 3, 4, 5, 6, 7, 8, 9, 10, 11, 12, 13, 14] rfl
  have hDc : va_D A (wM cyD cyI cyJ cyZ am bv bt bl be bdp bi bg bsd bsv bbd bbv br bu bw mn mm mch msp msb mno msn mbn mhr mro mv mt ml med md mi mg msd msv mbd mbv mr mu mw) := hD.sub [0, 1, 2, 3, 4, 5, 6, 7, 8, 9, 10, 11, 12, 13, 14] (by decide) rfl
  refine kzE (ws' := (wM cyD cyI cyJ cyZ am bv bt bl be bdp bi bg bsd bsv bbd bbv br bu bw mn mm mch msp msb mno msn mbn mhr mro mv mt ml med md mi mg msd msv mbd mbv mr mu mw)) (wc := (wM cyD cyI cyJ cyZ am bv bt bl be bdp bi bg bsd bsv bbd bbv br bu bw mn mm mch msp msb mno msn mbn mhr mro mv mt ml med md mi mg msd msv mbd mbv mr mu mw)) (wr := []) (w1 := (wM cyD cyI cyJ cyZ am bv bt bl be bdp bi bg bsd bsv bbd bbv br bu bw mn mm mch msp msb mno msn mbn mhr mro mv mt ml med md mi mg msd msv mbd mbv mr mu mw)) (va_runV (As := [.int p1]) (rest := []) ⟨hx, hb, hml, hown, hts⟩ (c_X4_isWalked (l := l) (D := D) (cyD := cyD) (cyI := cyI) (cyJ := cyJ) (cyZ := cyZ) am bv bt bl be bdp bi bg bsd bsv bbd bbv br bu bw mn mm mch msp msb mno msn mbn mhr mro mv mt ml med md mi mg msd msv mbd mbv mr mu mw H.size p1) (cwV 1 hts gX4_hasBottom_X4_isWalked rfl rfl rfl (by decide +kernel) ⟨Nat.le_of_ble_eq_true rfl, Nat.le_of_ble_eq_true rfl⟩) (kV (ci := 4) (q0 := 0) (q := (RX4, TX4, 24)) hN hK hPc hDc rfl rfl rfl) rfl rfl hl.1 rfl (lv_room (Nat.le_of_ble_eq_true rfl)) dX4_hasBottom_2 ⟨Nat.le_of_ble_eq_true rfl, Nat.le_of_ble_eq_true rfl⟩) hP hD hS hA [0, 1, 2, 3, 4, 5, 6, 7, 8, 9, 10, 11, 12, 13, 14] [] [0, 1, 2, 3, 4, 5, 6, 7, 8, 9, 10, 11, 12, 13, 14] rfl rfl (by decide) (by decide) rfl (by decide) (fun H locs hz_2 hP hD hS => ?_)
  refine lv_if_ne (tgt := 16) hx hb dX4_hasBottom_5 (by decide) (fun c_5 => ?_) (fun c_5 => ?_)
  · refine lv_iconst (v := 1) hx hb dX4_hasBottom_16 (by decide) ?_
    refine lv_goto (tgt := 21) hx hb dX4_hasBottom_17 (by decide) ?_
    have hF9 : (fX4_hasBottom mhr mr p1) = (1 : Int32) := by rw [fX4_hasBottom, if_neg c_5]
    have hP9 : va_P D vwCl (wM cyD cyI cyJ cyZ am bv bt bl be bdp bi bg bsd bsv bbd bbv br bu bw mn mm mch msp msb mno msn mbn mhr mro mv mt ml med md mi mg msd msv mbd mbv mr mu mw) H := hP
    have hD9 : va_D A (wM cyD cyI cyJ cyZ am bv bt bl be bdp bi bg bsd bsv bbd bbv br bu bw mn mm mch msp msb mno msn mbn mhr mro mv mt ml med md mi mg msd msv mbd mbv mr mu mw) := hD
    exact W.zret (v := (1 : Int32)) hx hb hr (nar_z (Or.inr rfl)) (fun t ht hW => ⟨⟨(1 : Int32), (), rfl, ⟨(by rw [hF9]), (Or.inr rfl)⟩, by rw [ht]; exact hP9, va_K.moved hW.alike hK, hD9⟩, hS.F ht⟩) hS.2.2 dX4_hasBottom_21
  refine lv_aload_n hx hb dX4_hasBottom_8 rfl (lv_at hl 0 rfl) ?_
  refine lv_iload_n hx hb dX4_hasBottom_9 rfl (lv_at hl 1 rfl) ?_
  have hPc : va_P D vwCl (wM cyD cyI cyJ cyZ am bv bt bl be bdp bi bg bsd bsv bbd bbv br bu bw mn mm mch msp msb mno msn mbn mhr mro mv mt ml med md mi mg msd msv mbd mbv mr mu mw) H := hP.sub [0, 1, 2, 3, 4, 5, 6, 7, 8, 9, 10, 11, 12, 13, 14] rfl
  have hDc : va_D A (wM cyD cyI cyJ cyZ am bv bt bl be bdp bi bg bsd bsv bbd bbv br bu bw mn mm mch msp msb mno msn mbn mhr mro mv mt ml med md mi mg msd msv mbd mbv mr mu mw) := hD.sub [0, 1, 2, 3, 4, 5, 6, 7, 8, 9, 10, 11, 12, 13, 14] (by decide) rfl
  refine kzE (ws' := (wM cyD cyI cyJ cyZ am bv bt bl be bdp bi bg bsd bsv bbd bbv br bu bw mn mm mch msp msb mno msn mbn mhr mro mv mt ml med md mi mg msd msv mbd mbv mr mu mw)) (wc := (wM cyD cyI cyJ cyZ am bv bt bl be bdp bi bg bsd bsv bbd bbv br bu bw mn mm mch msp msb mno msn mbn mhr mro mv mt ml med md mi mg msd msv mbd mbv mr mu mw)) (wr := []) (w1 := (wM cyD cyI cyJ cyZ am bv bt bl be bdp bi bg bsd bsv bbd bbv br bu bw mn mm mch msp msb mno msn mbn mhr mro mv mt ml med md mi mg msd msv mbd mbv mr mu mw)) (va_runV (As := [.int p1]) (rest := []) ⟨hx, hb, hml, hown, hts⟩ (c_X4_isBridged (l := l) (D := D) (cyD := cyD) (cyI := cyI) (cyJ := cyJ) (cyZ := cyZ) am bv bt bl be bdp bi bg bsd bsv bbd bbv br bu bw mn mm mch msp msb mno msn mbn mhr mro mv mt ml med md mi mg msd msv mbd mbv mr mu mw H.size p1) (cwV 1 hts gX4_hasBottom_X4_isBridged rfl rfl rfl (by decide +kernel) ⟨Nat.le_of_ble_eq_true rfl, Nat.le_of_ble_eq_true rfl⟩) (kV (ci := 4) (q0 := 0) (q := (RX4, TX4, 24)) hN hK hPc hDc rfl rfl rfl) rfl rfl hl.1 rfl (lv_room (Nat.le_of_ble_eq_true rfl)) dX4_hasBottom_10 ⟨Nat.le_of_ble_eq_true rfl, Nat.le_of_ble_eq_true rfl⟩) hP hD hS hA [0, 1, 2, 3, 4, 5, 6, 7, 8, 9, 10, 11, 12, 13, 14] [] [0, 1, 2, 3, 4, 5, 6, 7, 8, 9, 10, 11, 12, 13, 14] rfl rfl (by decide) (by decide) rfl (by decide) (fun H locs hz_10 hP hD hS => ?_)
  refine lv_if_eq (tgt := 20) hx hb dX4_hasBottom_13 (by decide) (fun c_13 => ?_) (fun c_13 => ?_)
  · refine lv_iconst (v := 0) hx hb dX4_hasBottom_20 (by decide) ?_
    have hF9 : (fX4_hasBottom mhr mr p1) = (0 : Int32) := by rw [fX4_hasBottom, if_pos c_5, if_pos c_13]
    have hP9 : va_P D vwCl (wM cyD cyI cyJ cyZ am bv bt bl be bdp bi bg bsd bsv bbd bbv br bu bw mn mm mch msp msb mno msn mbn mhr mro mv mt ml med md mi mg msd msv mbd mbv mr mu mw) H := hP
    have hD9 : va_D A (wM cyD cyI cyJ cyZ am bv bt bl be bdp bi bg bsd bsv bbd bbv br bu bw mn mm mch msp msb mno msn mbn mhr mro mv mt ml med md mi mg msd msv mbd mbv mr mu mw) := hD
    exact W.zret (v := (0 : Int32)) hx hb hr (nar_z (Or.inl rfl)) (fun t ht hW => ⟨⟨(0 : Int32), (), rfl, ⟨(by rw [hF9]), (Or.inl rfl)⟩, by rw [ht]; exact hP9, va_K.moved hW.alike hK, hD9⟩, hS.F ht⟩) hS.2.2 dX4_hasBottom_21
  refine lv_iconst (v := 1) hx hb dX4_hasBottom_16 (by decide) ?_
  refine lv_goto (tgt := 21) hx hb dX4_hasBottom_17 (by decide) ?_
  have hF9 : (fX4_hasBottom mhr mr p1) = (1 : Int32) := by rw [fX4_hasBottom, if_pos c_5, if_neg c_13]
  have hP9 : va_P D vwCl (wM cyD cyI cyJ cyZ am bv bt bl be bdp bi bg bsd bsv bbd bbv br bu bw mn mm mch msp msb mno msn mbn mhr mro mv mt ml med md mi mg msd msv mbd mbv mr mu mw) H := hP
  have hD9 : va_D A (wM cyD cyI cyJ cyZ am bv bt bl be bdp bi bg bsd bsv bbd bbv br bu bw mn mm mch msp msb mno msn mbn mhr mro mv mt ml med md mi mg msd msv mbd mbv mr mu mw) := hD
  exact W.zret (v := (1 : Int32)) hx hb hr (nar_z (Or.inr rfl)) (fun t ht hW => ⟨⟨(1 : Int32), (), rfl, ⟨(by rw [hF9]), (Or.inr rfl)⟩, by rw [ht]; exact hP9, va_K.moved hW.alike hK, hD9⟩, hS.F ht⟩) hS.2.2 dX4_hasBottom_21
