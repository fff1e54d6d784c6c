def fX0_isSample (sn : Nat) (p1 : Int32) : Int32 := if p1 < 0 then (0 : Int32) else (if (nI sn) ≤ p1 then (0 : Int32) else ((1 : Int32)))
set_option maxHeartbeats 4000000 in
set_option maxRecDepth 100000 in
theorem c_X0_isSample {l : Launch} {D : va_G} {cyD cyI cyJ cyZ : ClassId} (ae av ab : Nat) (sn : Nat) (me : UInt64) (vf : Nat → UInt64) (lf : Nat → Int32) (sp : UInt64) (sb : UInt64) (no : UInt64) (sz : Nat) (p1 : Int32)  : mZ l yX0_isSample wsX0_isSample ({ frames := 0, cells := 0, slots := 0, locals := 0 } : Room) D (kT cyD cyI cyJ cyZ) [.ref ae, .int p1] (wE cyD cyI cyJ cyZ ae av ab sn me vf lf sp sb no) (wE cyD cyI cyJ cyZ ae av ab sn me vf lf sp sb no) sz (fX0_isSample sn p1) 0 0 := by
  refine Met.ofW (cc := cX0_isSample) (maxL := 2) (ret := (some .boolean)) (by decide) rfl ?_
  intro p e s m args below meth c s₁ B hml hv
  obtain ⟨rfl, hN, hsz, hP, hK, hD0⟩ := hv
  have hx := B.exec
  have hb := B.bytes
  have hr := B.returns
  have hts := atoms_spec (ws := wsX0_isSample) B.pre
  have hown : s.vm.findClass RX0 = some m.cls := findClass_of_methodNamed B.named
  have hlocks := B.notSynchronized
  subst hsz
  have hD := hD0.self (sz := s.heap.size)
  generalize hAe : va_A (wE cyD cyI cyJ cyZ ae av ab sn me vf lf sp sb no) s.heap.size = A at hD ⊢
  have hA : ∀ q : Nat, s.heap.size ≤ q → A q := fun q h => by rw [← hAe]; exact Or.inr h
  have hS : va_S A s.heap s.heap [] := va_S.rf
  have hP : va_P D vwCl (wE cyD cyI cyJ cyZ ae av ab sn me vf lf sp sb no) s.heap := hP
  have hl := lv_entry [.ref ae, .int p1] (n := 2) (Nat.le_of_ble_eq_true rfl)
  rw [lg_entry_eq]
  generalize (lg_sl [.ref ae, .int p1] ++ List.replicate (2 - (lg_sl [.ref ae, .int p1]).length) Slot.unset).toArray = ls at hl ⊢
  have hl : lv_has ls 2 [(0, .ref ae), (1, .int p1)] := hl
  obtain ⟨H, hHe⟩ : ∃ H : Heap, H = s.heap := ⟨_, rfl⟩
  have hP : va_P D vwCl (wE cyD cyI cyJ cyZ ae av ab sn me vf lf sp sb no) H := by rw [hHe]; exact hP
  have hS : va_S A s.heap H [] := by rw [hHe]; exact hS
  rw [← hHe]
  refine lv_iload_n hx hb dX0_isSample_0 rfl (lv_at hl 1 rfl) ?_
  refine lv_if_lt (tgt := 16) hx hb dX0_isSample_1 (by decide) (fun c_1 => ?_) (fun c_1 => ?_)
  · refine lv_iconst (v := 0) hx hb dX0_isSample_16 (by decide) ?_
    have hF9 : (fX0_isSample sn p1) = (0 : Int32) := by rw [fX0_isSample, if_pos c_1]
    have hP9 : va_P D vwCl (wE cyD cyI cyJ cyZ ae av ab sn me vf lf sp sb no) H := hP
    have hD9 : va_D A (wE cyD cyI cyJ cyZ ae av ab sn me vf lf sp sb no) := hD
    exact W.zret (v := (0 : Int32)) hx hb hr (nar_z (Or.inl rfl)) (fun t ht hW => ⟨⟨(0 : Int32), (), rfl, ⟨(by rw [hF9]), (Or.inl rfl)⟩, by rw [ht]; exact hP9, va_K.moved hW.alike hK, hD9⟩, hS.F ht⟩) hS.2.2 dX0_isSample_17
  refine lv_iload_n hx hb dX0_isSample_4 rfl (lv_at hl 1 rfl) ?_
  refine lv_aload_n hx hb dX0_isSample_5 rfl (lv_at hl 0 rfl) ?_
  refine va_get (D := D) (ci := 0) (v := .int (nI sn)) (C := RX0) (T := TX0) (N := 7) hx hb hts (fun _ h => (List.mem_cons_of_mem _ (List.mem_append_right _ h))) hown hK hP 0 rfl rfl 0 (by decide) (hts (.fieldLink RX0 34 "BottomWalks$Echoes" "samples" "I") (List.mem_of_getElem? (i := 1) rfl)) (fun _ h9 => h9) rfl dX0_isSample_6 ?_
  refine lv_icmp_ge (tgt := 16) hx hb dX0_isSample_9 (by decide) (fun c_9 => ?_) (fun c_9 => ?_)
  · refine lv_iconst (v := 0) hx hb dX0_isSample_16 (by decide) ?_
    have hF9 : (fX0_isSample sn p1) = (0 : Int32) := by rw [fX0_isSample, if_neg c_1, if_pos c_9]
    have hP9 : va_P D vwCl (wE cyD cyI cyJ cyZ ae av ab sn me vf lf sp sb no) H := hP
    have hD9 : va_D A (wE cyD cyI cyJ cyZ ae av ab sn me vf lf sp sb no) := hD
    exact W.zret (v := (0 : Int32)) hx hb hr (nar_z (Or.inl rfl)) (fun t ht hW => ⟨⟨(0 : Int32), (), rfl, ⟨(by rw [hF9]), (Or.inl rfl)⟩, by rw [ht]; exact hP9, va_K.moved hW.alike hK, hD9⟩, hS.F ht⟩) hS.2.2 dX0_isSample_17
  refine lv_iconst (v := 1) hx hb dX0_isSample_12 (by decide) ?_
  refine lv_goto (tgt := 17) hx hb dX0_isSample_13 (by decide) ?_
  have hF9 : (fX0_isSample sn p1) = (1 : Int32) := by rw [fX0_isSample, if_neg c_1, if_neg c_9]
  have hP9 : va_P D vwCl (wE cyD cyI cyJ cyZ ae av ab sn me vf lf sp sb no) H := hP
  have hD9 : va_D A (wE cyD cyI cyJ cyZ ae av ab sn me vf lf sp sb no) := hD
  exact W.zret (v := (1 : Int32)) hx hb hr (nar_z (Or.inr rfl)) (fun t ht hW => ⟨⟨(1 : Int32), (), rfl, ⟨(by rw [hF9]), (Or.inr rfl)⟩, by rw [ht]; exact hP9, va_K.moved hW.alike hK, hD9⟩, hS.F ht⟩) hS.2.2 dX0_isSample_17
def fX0_range (me : UInt64) (p1 : Int32) : UInt64 := (FP.dmul (FP.i2d (p1 + (1 : Int32))) me)
set_option maxHeartbeats 4000000 in
set_option maxRecDepth 100000 in
theorem c_X0_range {l : Launch} {D : va_G} {cyD cyI cyJ cyZ : ClassId} (ae av ab : Nat) (sn : Nat) (me : UInt64) (vf : Nat → UInt64) (lf : Nat → Int32) (sp : UInt64) (sb : UInt64) (no : UInt64) (sz : Nat) (p1 : Int32) (hm : bd 1030 me) : mD l yX0_range wsX0_range ({ frames := 0, cells := 0, slots := 0, locals := 0 } : Room) D (kT cyD cyI cyJ cyZ) [.ref ae, .int p1] (wE cyD cyI cyJ cyZ ae av ab sn me vf lf sp sb no) (wE cyD cyI cyJ cyZ ae av ab sn me vf lf sp sb no) sz (fX0_range me p1) 0 0 := by
  refine Met.ofW (cc := cX0_range) (maxL := 2) (ret := (some .double)) (by decide) rfl ?_
  intro p e s m args below meth c s₁ B hml hv
  obtain ⟨rfl, hN, hsz, hP, hK, hD0⟩ := hv
  have hx := B.exec
  have hb := B.bytes
  have hr := B.returns
  have hts := atoms_spec (ws := wsX0_range) B.pre
  have hown : s.vm.findClass RX0 = some m.cls := findClass_of_methodNamed B.named
  have hlocks := B.notSynchronized
  subst hsz
  have hD := hD0.self (sz := s.heap.size)
  generalize hAe : va_A (wE cyD cyI cyJ cyZ ae av ab sn me vf lf sp sb no) s.heap.size = A at hD ⊢
  have hA : ∀ q : Nat, s.heap.size ≤ q → A q := fun q h => by rw [← hAe]; exact Or.inr h
  have hS : va_S A s.heap s.heap [] := va_S.rf
  have hP : va_P D vwCl (wE cyD cyI cyJ cyZ ae av ab sn me vf lf sp sb no) s.heap := hP
  have hl := lv_entry [.ref ae, .int p1] (n := 2) (Nat.le_of_ble_eq_true rfl)
  rw [lg_entry_eq]
  generalize (lg_sl [.ref ae, .int p1] ++ List.replicate (2 - (lg_sl [.ref ae, .int p1]).length) Slot.unset).toArray = ls at hl ⊢
  have hl : lv_has ls 2 [(0, .ref ae), (1, .int p1)] := hl
  obtain ⟨H, hHe⟩ : ∃ H : Heap, H = s.heap := ⟨_, rfl⟩
  have hP : va_P D vwCl (wE cyD cyI cyJ cyZ ae av ab sn me vf lf sp sb no) H := by rw [hHe]; exact hP
  have hS : va_S A s.heap H [] := by rw [hHe]; exact hS
  rw [← hHe]
  refine lv_iload_n hx hb dX0_range_0 rfl (lv_at hl 1 rfl) ?_
  refine lv_iconst (v := 1) hx hb dX0_range_1 (by decide) ?_
  refine lv_iadd hx hb dX0_range_2 ?_
  refine lv_i2d hx hb dX0_range_3 ?_
  refine lv_aload_n hx hb dX0_range_4 rfl (lv_at hl 0 rfl) ?_
  refine va_get (D := D) (ci := 0) (v := .double me) (C := RX0) (T := TX0) (N := 7) hx hb hts (fun _ h => (List.mem_cons_of_mem _ (List.mem_append_right _ h))) hown hK hP 0 rfl rfl 1 (by decide) (hts (.fieldLink RX0 40 "BottomWalks$Echoes" "metre" "D") (List.mem_of_getElem? (i := 1) rfl)) (fun _ h9 => h9) rfl dX0_range_5 ?_
  refine lv_dmul hx hb dX0_range_8 (bd_n (bd_mul (Ka := 1056) (Kb := 1030) (K := 1064) (bd_i2d _) hm (by decide) (by decide) (by decide)) (by decide)) ?_
  have hF9 : (fX0_range me p1) = (FP.dmul (FP.i2d (p1 + (1 : Int32))) me) := by rw [fX0_range]
  have hP9 : va_P D vwCl (wE cyD cyI cyJ cyZ ae av ab sn me vf lf sp sb no) H := hP
  have hD9 : va_D A (wE cyD cyI cyJ cyZ ae av ab sn me vf lf sp sb no) := hD
  exact W.dret (v := (FP.dmul (FP.i2d (p1 + (1 : Int32))) me)) hx hb hr (fun t ht hW => ⟨⟨(FP.dmul (FP.i2d (p1 + (1 : Int32))) me), (), rfl, (by rw [hF9]), by rw [ht]; exact hP9, va_K.moved hW.alike hK, hD9⟩, hS.F ht⟩) hS.2.2 dX0_range_9
def fX0_setLosses (sp : UInt64) (sb : UInt64) (p1 : UInt64) (p2 : UInt64) : UInt64 × UInt64 := (p1, p2)
set_option maxHeartbeats 4000000 in
set_option maxRecDepth 100000 in
theorem c_X0_setLosses {l : Launch} {D : va_G} {cyD cyI cyJ cyZ : ClassId} (ae av ab : Nat) (sn : Nat) (me : UInt64) (vf : Nat → UInt64) (lf : Nat → Int32) (sp : UInt64) (sb : UInt64) (no : UInt64) (sz : Nat) (p1 : UInt64) (p2 : UInt64)  : mV l yX0_setLosses wsX0_setLosses ({ frames := 0, cells := 0, slots := 0, locals := 0 } : Room) D (kT cyD cyI cyJ cyZ) [.ref ae, .double p1, .double p2] (wE cyD cyI cyJ cyZ ae av ab sn me vf lf sp sb no) (wE cyD cyI cyJ cyZ ae av ab sn me vf lf ((fX0_setLosses sp sb p1 p2).1) ((fX0_setLosses sp sb p1 p2).2) no) sz 0 0 := by
  refine Met.ofW (cc := cX0_setLosses) (maxL := 5) (ret := none) (by decide) rfl ?_
  intro p e s m args below meth c s₁ B hml hv
  obtain ⟨rfl, hN, hsz, hP, hK, hD0⟩ := hv
  have hx := B.exec
  have hb := B.bytes
  have hr := B.returns
  have hts := atoms_spec (ws := wsX0_setLosses) B.pre
  have hown : s.vm.findClass RX0 = some m.cls := findClass_of_methodNamed B.named
  have hlocks := B.notSynchronized
  subst hsz
  have hD := hD0.self (sz := s.heap.size)
  generalize hAe : va_A (wE cyD cyI cyJ cyZ ae av ab sn me vf lf sp sb no) s.heap.size = A at hD ⊢
  have hA : ∀ q : Nat, s.heap.size ≤ q → A q := fun q h => by rw [← hAe]; exact Or.inr h
  have hS : va_S A s.heap s.heap [] := va_S.rf
  have hP : va_P D vwCl (wE cyD cyI cyJ cyZ ae av ab sn me vf lf sp sb no) s.heap := hP
  have hl := lv_entry [.ref ae, .double p1, .double p2] (n := 5) (Nat.le_of_ble_eq_true rfl)
  rw [lg_entry_eq]
  generalize (lg_sl [.ref ae, .double p1, .double p2] ++ List.replicate (5 - (lg_sl [.ref ae, .double p1, .double p2]).length) Slot.unset).toArray = ls at hl ⊢
  have hl : lv_has ls 5 [(0, .ref ae), (1, .double p1), (3, .double p2)] := hl
  obtain ⟨H, hHe⟩ : ∃ H : Heap, H = s.heap := ⟨_, rfl⟩
  have hP : va_P D vwCl (wE cyD cyI cyJ cyZ ae av ab sn me vf lf sp sb no) H := by rw [hHe]; exact hP
  have hS : va_S A s.heap H [] := by rw [hHe]; exact hS
  rw [← hHe]
  refine lv_aload_n hx hb dX0_setLosses_0 rfl (lv_at hl 0 rfl) ?_
  refine lv_dload_n hx hb dX0_setLosses_1 rfl (lv_at hl 1 rfl) ?_
  refine va_put (D := D) (ci := 0) (v := .double p1) (ty := .double) (C := RX0) (T := TX0) (N := 7) hx hb hts (fun _ h => (List.mem_cons_of_mem _ (List.mem_append_right _ h))) tyX0 tyX0_ok nmX0 hown hK hP hD hS 0 rfl rfl 4 (by decide) (hts (.fieldLink RX0 15 "BottomWalks$Echoes" "spread" "D") (List.mem_of_getElem? (i := 1) rfl)) (fun _ h9 => h9) rfl (by decide +kernel) rfl rfl (Nat.le_of_ble_eq_true rfl) dX0_setLosses_2 (fun H locs hP hD hS => ?_)
  have hP : va_P D vwCl (wE cyD cyI cyJ cyZ ae av ab sn me vf lf p1 sb no) H := hP
  have hD : va_D A (wE cyD cyI cyJ cyZ ae av ab sn me vf lf p1 sb no) := hD
  refine lv_aload_n hx hb dX0_setLosses_5 rfl (lv_at hl 0 rfl) ?_
  refine lv_dload_n hx hb dX0_setLosses_6 rfl (lv_at hl 2 rfl) ?_
  refine va_put (D := D) (ci := 0) (v := .double p2) (ty := .double) (C := RX0) (T := TX0) (N := 7) hx hb hts (fun _ h => (List.mem_cons_of_mem _ (List.mem_append_right _ h))) tyX0 tyX0_ok nmX0 hown hK hP hD hS 0 rfl rfl 5 (by decide) (hts (.fieldLink RX0 19 "BottomWalks$Echoes" "absorb" "D") (List.mem_of_getElem? (i := 2) rfl)) (fun _ h9 => h9) rfl (by decide +kernel) rfl rfl (Nat.le_of_ble_eq_true rfl) dX0_setLosses_7 (fun H locs hP hD hS => ?_)
  have hP : va_P D vwCl (wE cyD cyI cyJ cyZ ae av ab sn me vf lf p1 p2 no) H := hP
  have hD : va_D A (wE cyD cyI cyJ cyZ ae av ab sn me vf lf p1 p2 no) := hD
  have hF9 : (fX0_setLosses sp sb p1 p2) = (p1, p2) := by rw [fX0_setLosses]
  have hP9 : va_P D vwCl (wE cyD cyI cyJ cyZ ae av ab sn me vf lf ((fX0_setLosses sp sb p1 p2).1) ((fX0_setLosses sp sb p1 p2).2) no) H := by rw [hF9]; exact hP
  have hD9 : va_D A (wE cyD cyI cyJ cyZ ae av ab sn me vf lf ((fX0_setLosses sp sb p1 p2).1) ((fX0_setLosses sp sb p1 p2).2) no) := by rw [hF9]; exact hD
  exact W.vret hx hb hr (fun t ht hW => ⟨⟨(), rfl, trivial, by rw [ht]; exact hP9, va_K.moved hW.alike hK, hD9⟩, hS.F ht⟩) hS.2.2 dX0_setLosses_10
def fX0_setNoiseLevel (no : UInt64) (p1 : UInt64) : UInt64 := p1
set_option maxHeartbeats 4000000 in
set_option maxRecDepth 100000 in
theorem c_X0_setNoiseLevel {l : Launch} {D : va_G} {cyD cyI cyJ cyZ : ClassId} (ae av ab : Nat) (sn : Nat) (me : UInt64) (vf : Nat → UInt64) (lf : Nat → Int32) (sp : UInt64) (sb : UInt64) (no : UInt64) (sz : Nat) (p1 : UInt64)  : mV l yX0_setNoiseLevel wsX0_setNoiseLevel ({ frames := 0, cells := 0, slots := 0, locals := 0 } : Room) D (kT cyD cyI cyJ cyZ) [.ref ae, .double p1] (wE cyD cyI cyJ cyZ ae av ab sn me vf lf sp sb no) (wE cyD cyI cyJ cyZ ae av ab sn me vf lf sp sb (fX0_setNoiseLevel no p1)) sz 0 0 := by
  refine Met.ofW (cc := cX0_setNoiseLevel) (maxL := 3) (ret := none) (by decide) rfl ?_
  intro p e s m args below meth c s₁ B hml hv
  obtain ⟨rfl, hN, hsz, hP, hK, hD0⟩ := hv
  have hx := B.exec
  have hb := B.bytes
  have hr := B.returns
  have hts := atoms_spec (ws := wsX0_setNoiseLevel) B.pre
  have hown : s.vm.findClass RX0 = some m.cls := findClass_of_methodNamed B.named
  have hlocks := B.notSynchronized
  subst hsz
  have hD := hD0.self (sz := s.heap.size)
  generalize hAe : va_A (wE cyD cyI cyJ cyZ ae av ab sn me vf lf sp sb no) s.heap.size = A at hD ⊢
  have hA : ∀ q : Nat, s.heap.size ≤ q → A q := fun q h => by rw [← hAe]; exact Or.inr h
  have hS : va_S A s.heap s.heap [] := va_S.rf
  have hP : va_P D vwCl (wE cyD cyI cyJ cyZ ae av ab sn me vf lf sp sb no) s.heap := hP
  have hl := lv_entry [.ref ae, .double p1] (n := 3) (Nat.le_of_ble_eq_true rfl)
  rw [lg_entry_eq]
  generalize (lg_sl [.ref ae, .double p1] ++ List.replicate (3 - (lg_sl [.ref ae, .double p1]).length) Slot.unset).toArray = ls at hl ⊢
  have hl : lv_has ls 3 [(0, .ref ae), (1, .double p1)] := hl
  obtain ⟨H, hHe⟩ : ∃ H : Heap, H = s.heap := ⟨_, rfl⟩
  have hP : va_P D vwCl (wE cyD cyI cyJ cyZ ae av ab sn me vf lf sp sb no) H := by rw [hHe]; exact hP
  have hS : va_S A s.heap H [] := by rw [hHe]; exact hS
  rw [← hHe]
  refine lv_aload_n hx hb dX0_setNoiseLevel_0 rfl (lv_at hl 0 rfl) ?_
  refine lv_dload_n hx hb dX0_setNoiseLevel_1 rfl (lv_at hl 1 rfl) ?_
  refine va_put (D := D) (ci := 0) (v := .double p1) (ty := .double) (C := RX0) (T := TX0) (N := 7) hx hb hts (fun _ h => (List.mem_cons_of_mem _ (List.mem_append_right _ h))) tyX0 tyX0_ok nmX0 hown hK hP hD hS 0 rfl rfl 6 (by decide) (hts (.fieldLink RX0 22 "BottomWalks$Echoes" "noiseLevel" "D") (List.mem_of_getElem? (i := 1) rfl)) (fun _ h9 => h9) rfl (by decide +kernel) rfl rfl (Nat.le_of_ble_eq_true rfl) dX0_setNoiseLevel_2 (fun H locs hP hD hS => ?_)
  have hP : va_P D vwCl (wE cyD cyI cyJ cyZ ae av ab sn me vf lf sp sb p1) H := hP
  have hD : va_D A (wE cyD cyI cyJ cyZ ae av ab sn me vf lf sp sb p1) := hD
  have hF9 : (fX0_setNoiseLevel no p1) = p1 := by rw [fX0_setNoiseLevel]
  have hP9 : va_P D vwCl (wE cyD cyI cyJ cyZ ae av ab sn me vf lf sp sb (fX0_setNoiseLevel no p1)) H := by rw [hF9]; exact hP
  have hD9 : va_D A (wE cyD cyI cyJ cyZ ae av ab sn me vf lf sp sb (fX0_setNoiseLevel no p1)) := by rw [hF9]; exact hD
  exact W.vret hx hb hr (fun t ht hW => ⟨⟨(), rfl, trivial, by rw [ht]; exact hP9, va_K.moved hW.alike hK, hD9⟩, hS.F ht⟩) hS.2.2 dX0_setNoiseLevel_5
def fX0_placeOf (sn : Nat) (p1 : Int32) (p2 : Int32) (p3 : Int32) : Int32 := if (fX3_isFrequency p1) = 0 then (-1 : Int32) else (if (fX3_isPing p2) = 0 then (-1 : Int32) else (if (fX0_isSample sn p3) = 0 then (-1 : Int32) else (((((p1 * (32 : Int32)) + p2) * (nI sn)) + p3))))
set_option maxHeartbeats 4000000 in
set_option maxRecDepth 100000 in
theorem c_X0_placeOf {l : Launch} {D : va_G} {cyD cyI cyJ cyZ : ClassId} (ae av ab : Nat) (sn : Nat) (me : UInt64) (vf : Nat → UInt64) (lf : Nat → Int32) (sp : UInt64) (sb : UInt64) (no : UInt64) (sz : Nat) (p1 : Int32) (p2 : Int32) (p3 : Int32)  : mI l yX0_placeOf wsX0_placeOf ({ frames := 1, cells := 0, slots := 0, locals := 21 } : Room) D (kT cyD cyI cyJ cyZ) [.ref ae, .int p1, .int p2, .int p3] (wE cyD cyI cyJ cyZ ae av ab sn me vf lf sp sb no) (wE cyD cyI cyJ cyZ ae av ab sn me vf lf sp sb no) sz (fX0_placeOf sn p1 p2 p3) 0 0 := by
  refine Met.ofW (cc := cX0_placeOf) (maxL := 4) (ret := (some .int)) (by decide) rfl ?_
  intro p e s m args below meth c s₁ B hml hv
  obtain ⟨rfl, hN, hsz, hP, hK, hD0⟩ := hv
  have hx := B.exec
  have hb := B.bytes
  have hr := B.returns
  have hts := atoms_spec (ws := wsX0_placeOf) B.pre
  have hown : s.vm.findClass RX0 = some m.cls := findClass_of_methodNamed B.named
  have hlocks := B.notSynchronized
  subst hsz
  have hD := hD0.self (sz := s.heap.size)
  generalize hAe : va_A (wE cyD cyI cyJ cyZ ae av ab sn me vf lf sp sb no) s.heap.size = A at hD ⊢
  have hA : ∀ q : Nat, s.heap.size ≤ q → A q := fun q h => by rw [← hAe]; exact Or.inr h
  have hS : va_S A s.heap s.heap [] := va_S.rf
  have hP : va_P D vwCl (wE cyD cyI cyJ cyZ ae av ab sn me vf lf sp sb no) s.heap := hP
  have hl := lv_entry [.ref ae, .int p1, .int p2, .int p3] (n := 4) (Nat.le_of_ble_eq_true rfl)
  rw [lg_entry_eq]
  generalize (lg_sl [.ref ae, .int p1, .int p2, .int p3] ++ List.replicate (4 - (lg_sl [.ref ae, .int p1, .int p2, .int p3]).length) Slot.unset).toArray = ls at hl ⊢
  have hl : lv_has ls 4 [(0, .ref ae), (1, .int p1), (2, .int p2), (3, .int p3)] := hl
  obtain ⟨H, hHe⟩ : ∃ H : Heap, H = s.heap := ⟨_, rfl⟩
  have hP : va_P D vwCl (wE cyD cyI cyJ cyZ ae av ab sn me vf lf sp sb no) H := by rw [hHe]; exact hP
  have hS : va_S A s.heap H [] := by rw [hHe]; exact hS
  rw [← hHe]
  refine lv_iload_n hx hb dX0_placeOf_0 rfl (lv_at hl 1 rfl) ?_
  have hPc : va_P D vwCl [] H := hP.sub [] rfl
  have hDc : va_D A [] := hD.sub [] (by decide) rfl
  refine kzE (ws' := (wE cyD cyI cyJ cyZ ae av ab sn me vf lf sp sb no)) (wc := []) (wr := [(ae, .inr (0, [.int (nI sn), .double me, .ref av, .ref ab, .double sp, .double sb, .double no])), (av, .inl (cyD, 128 * sn, .inr (.inr (.inr (.inl vf))))), (ab, .inl (cyZ, 32, .inl lf))]) (w1 := []) (va_runSN (As := [.int p1]) (rest := []) ⟨hx, hb, hml, hown, hts⟩ (c_X3_isFrequency (l := l) (D := D) (cyD := cyD) (cyI := cyI) (cyJ := cyJ) (cyZ := cyZ) H.size p1) ⟨va_cnB 1 hts gX0_placeOf_X3_isFrequency_n81 rfl rfl rfl hN.2.1 (hts (.initialized RX3) (List.mem_of_getElem? (i := 3) rfl)) (by decide +kernel) ⟨Nat.le_of_ble_eq_true rfl, Nat.le_of_ble_eq_true rfl⟩, (hts (.static yX3_isFrequency) (List.mem_of_getElem? (i := 2) rfl)), trivial⟩ (kS hN hK hPc hDc) rfl rfl hl.1 rfl (lv_room (Nat.le_of_ble_eq_true rfl)) dX0_placeOf_1 ⟨Nat.le_of_ble_eq_true rfl, Nat.le_of_ble_eq_true rfl⟩) hP hD hS hA [] [0, 1, 2] [0, 1, 2] rfl rfl (by decide) (by decide) rfl (by decide) (fun H locs hz_1 hP hD hS => ?_)
  refine lv_if_eq (tgt := 22) hx hb dX0_placeOf_4 (by decide) (fun c_4 => ?_) (fun c_4 => ?_)
  · refine lv_iconst (v := (-1)) hx hb dX0_placeOf_22 (by decide) ?_
    have hF9 : (fX0_placeOf sn p1 p2 p3) = (-1 : Int32) := by rw [fX0_placeOf, if_pos c_4]
    have hP9 : va_P D vwCl (wE cyD cyI cyJ cyZ ae av ab sn me vf lf sp sb no) H := hP
    have hD9 : va_D A (wE cyD cyI cyJ cyZ ae av ab sn me vf lf sp sb no) := hD
    exact W.iret (v := (-1 : Int32)) hx hb hr (fun t ht hW => ⟨⟨(-1 : Int32), (), rfl, (by rw [hF9]), by rw [ht]; exact hP9, va_K.moved hW.alike hK, hD9⟩, hS.F ht⟩) hS.2.2 dX0_placeOf_23
  refine lv_iload_n hx hb dX0_placeOf_7 rfl (lv_at hl 2 rfl) ?_
  have hPc : va_P D vwCl [] H := hP.sub [] rfl
  have hDc : va_D A [] := hD.sub [] (by decide) rfl
  refine kzE (ws' := (wE cyD cyI cyJ cyZ ae av ab sn me vf lf sp sb no)) (wc := []) (wr := [(ae, .inr (0, [.int (nI sn), .double me, .ref av, .ref ab, .double sp, .double sb, .double no])), (av, .inl (cyD, 128 * sn, .inr (.inr (.inr (.inl vf))))), (ab, .inl (cyZ, 32, .inl lf))]) (w1 := []) (va_runSN (As := [.int p2]) (rest := []) ⟨hx, hb, hml, hown, hts⟩ (c_X3_isPing (l := l) (D := D) (cyD := cyD) (cyI := cyI) (cyJ := cyJ) (cyZ := cyZ) H.size p2) ⟨va_cnB 1 hts gX0_placeOf_X3_isPing_n65 rfl rfl rfl hN.2.2.1 (hts (.initialized RX3) (List.mem_of_getElem? (i := 3) rfl)) (by decide +kernel) ⟨Nat.le_of_ble_eq_true rfl, Nat.le_of_ble_eq_true rfl⟩, (hts (.static yX3_isPing) (List.mem_of_getElem? (i := 5) rfl)), trivial⟩ (kS hN hK hPc hDc) rfl rfl hl.1 rfl (lv_room (Nat.le_of_ble_eq_true rfl)) dX0_placeOf_8 ⟨Nat.le_of_ble_eq_true rfl, Nat.le_of_ble_eq_true rfl⟩) hP hD hS hA [] [0, 1, 2] [0, 1, 2] rfl rfl (by decide) (by decide) rfl (by decide) (fun H locs hz_8 hP hD hS => ?_)
  refine lv_if_eq (tgt := 22) hx hb dX0_placeOf_11 (by decide) (fun c_11 => ?_) (fun c_11 => ?_)
  · refine lv_iconst (v := (-1)) hx hb dX0_placeOf_22 (by decide) ?_
    have hF9 : (fX0_placeOf sn p1 p2 p3) = (-1 : Int32) := by rw [fX0_placeOf, if_neg c_4, if_pos c_11]
    have hP9 : va_P D vwCl (wE cyD cyI cyJ cyZ ae av ab sn me vf lf sp sb no) H := hP
    have hD9 : va_D A (wE cyD cyI cyJ cyZ ae av ab sn me vf lf sp sb no) := hD
    exact W.iret (v := (-1 : Int32)) hx hb hr (fun t ht hW => ⟨⟨(-1 : Int32), (), rfl, (by rw [hF9]), by rw [ht]; exact hP9, va_K.moved hW.alike hK, hD9⟩, hS.F ht⟩) hS.2.2 dX0_placeOf_23
  refine lv_aload_n hx hb dX0_placeOf_14 rfl (lv_at hl 0 rfl) ?_
  refine lv_iload_n hx hb dX0_placeOf_15 rfl (lv_at hl 3 rfl) ?_
  have hPc : va_P D vwCl (wE cyD cyI cyJ cyZ ae av ab sn me vf lf sp sb no) H := hP.sub [0, 1, 2] rfl
  have hDc : va_D A (wE cyD cyI cyJ cyZ ae av ab sn me vf lf sp sb no) := hD.sub [0, 1, 2] (by decide) rfl
  refine kzE (ws' := (wE cyD cyI cyJ cyZ ae av ab sn me vf lf sp sb no)) (wc := (wE cyD cyI cyJ cyZ ae av ab sn me vf lf sp sb no)) (wr := []) (w1 := (wE cyD cyI cyJ cyZ ae av ab sn me vf lf sp sb no)) (va_runV (As := [.int p3]) (rest := []) ⟨hx, hb, hml, hown, hts⟩ (c_X0_isSample (l := l) (D := D) (cyD := cyD) (cyI := cyI) (cyJ := cyJ) (cyZ := cyZ) ae av ab sn me vf lf sp sb no H.size p3) (cwV 1 hts gX0_placeOf_X0_isSample rfl rfl rfl (by decide +kernel) ⟨Nat.le_of_ble_eq_true rfl, Nat.le_of_ble_eq_true rfl⟩) (kV (ci := 0) (q0 := 0) (q := (RX0, TX0, 7)) hN hK hPc hDc rfl rfl rfl) rfl rfl hl.1 rfl (lv_room (Nat.le_of_ble_eq_true rfl)) dX0_placeOf_16 ⟨Nat.le_of_ble_eq_true rfl, Nat.le_of_ble_eq_true rfl⟩) hP hD hS hA [0, 1, 2] [] [0, 1, 2] rfl rfl (by decide) (by decide) rfl (by decide) (fun H locs hz_16 hP hD hS => ?_)
  refine lv_if_ne (tgt := 24) hx hb dX0_placeOf_19 (by decide) (fun c_19 => ?_) (fun c_19 => ?_)
  · refine lv_iload_n hx hb dX0_placeOf_24 rfl (lv_at hl 1 rfl) ?_
    refine lv_bipush (v := 32) hx hb dX0_placeOf_25 (by decide) ?_
    refine lv_imul hx hb dX0_placeOf_27 ?_
    refine lv_iload_n hx hb dX0_placeOf_28 rfl (lv_at hl 2 rfl) ?_
    refine lv_iadd hx hb dX0_placeOf_29 ?_
    refine lv_aload_n hx hb dX0_placeOf_30 rfl (lv_at hl 0 rfl) ?_
    refine va_get (D := D) (ci := 0) (v := .int (nI sn)) (C := RX0) (T := TX0) (N := 7) hx hb hts (fun _ h => (List.mem_cons_of_mem _ (List.mem_append_right _ h))) hown hK hP 0 rfl rfl 0 (by decide) (hts (.fieldLink RX0 34 "BottomWalks$Echoes" "samples" "I") (List.mem_of_getElem? (i := 1) rfl)) (fun _ h9 => h9) rfl dX0_placeOf_31 ?_
    refine lv_imul hx hb dX0_placeOf_34 ?_
    refine lv_iload_n hx hb dX0_placeOf_35 rfl (lv_at hl 3 rfl) ?_
    refine lv_iadd hx hb dX0_placeOf_36 ?_
    have hF9 : (fX0_placeOf sn p1 p2 p3) = ((((p1 * (32 : Int32)) + p2) * (nI sn)) + p3) := by rw [fX0_placeOf, if_neg c_4, if_neg c_11, if_neg c_19]
    have hP9 : va_P D vwCl (wE cyD cyI cyJ cyZ ae av ab sn me vf lf sp sb no) H := hP
    have hD9 : va_D A (wE cyD cyI cyJ cyZ ae av ab sn me vf lf sp sb no) := hD
    exact W.iret (v := ((((p1 * (32 : Int32)) + p2) * (nI sn)) + p3)) hx hb hr (fun t ht hW => ⟨⟨((((p1 * (32 : Int32)) + p2) * (nI sn)) + p3), (), rfl, (by rw [hF9]), by rw [ht]; exact hP9, va_K.moved hW.alike hK, hD9⟩, hS.F ht⟩) hS.2.2 dX0_placeOf_37
  refine lv_iconst (v := (-1)) hx hb dX0_placeOf_22 (by decide) ?_
  have hF9 : (fX0_placeOf sn p1 p2 p3) = (-1 : Int32) := by rw [fX0_placeOf, if_neg c_4, if_neg c_11, if_pos c_19]
  have hP9 : va_P D vwCl (wE cyD cyI cyJ cyZ ae av ab sn me vf lf sp sb no) H := hP
  have hD9 : va_D A (wE cyD cyI cyJ cyZ ae av ab sn me vf lf sp sb no) := hD
  exact W.iret (v := (-1 : Int32)) hx hb hr (fun t ht hW => ⟨⟨(-1 : Int32), (), rfl, (by rw [hF9]), by rw [ht]; exact hP9, va_K.moved hW.alike hK, hD9⟩, hS.F ht⟩) hS.2.2 dX0_placeOf_23
theorem place_nI {sn : Nat} (hs : sn ≤ 64) {f p k : Int32} (h : ¬ fX0_placeOf sn f p k = -1) : ∃ F P K : Nat, F < 4 ∧ P < 32 ∧ K < sn ∧ f = nI F ∧ p = nI P ∧ k = nI K ∧ fX0_placeOf sn f p k = nI ((F * 32 + P) * sn + K) := by
  unfold fX0_placeOf at h ⊢
  by_cases h1 : fX3_isFrequency f = 0
  · rw [if_pos h1] at h; exact absurd rfl h
  · by_cases h2 : fX3_isPing p = 0
    · rw [if_neg h1, if_pos h2] at h; exact absurd rfl h
    · by_cases h3 : fX0_isSample sn k = 0
      · rw [if_neg h1, if_neg h2, if_pos h3] at h; exact absurd rfl h
      · rw [if_neg h1, if_neg h2, if_neg h3] at h ⊢
        unfold fX3_isFrequency at h1; unfold fX3_isPing at h2; unfold fX0_isSample at h3
        by_cases a1 : f < 0
        · rw [if_pos a1] at h1; exact absurd rfl h1
        rw [if_neg a1] at h1
        by_cases a2 : 4 ≤ f
        · rw [if_pos a2] at h1; exact absurd rfl h1
        by_cases b1 : p < 0
        · rw [if_pos b1] at h2; exact absurd rfl h2
        rw [if_neg b1] at h2
        by_cases b2 : 32 ≤ p
        · rw [if_pos b2] at h2; exact absurd rfl h2
        by_cases d1 : k < 0
        · rw [if_pos d1] at h3; exact absurd rfl h3
        rw [if_neg d1] at h3
        by_cases d2 : nI sn ≤ k
        · rw [if_pos d2] at h3; exact absurd rfl h3
        rcases pk_ix f (n := 4) (by decide) with q | q | ⟨F, hF, rfl⟩
        · exact absurd q a1
        · exact absurd q a2
        rcases pk_ix p (n := 32) (by decide) with q | q | ⟨P, hP, rfl⟩
        · exact absurd q b1
        · exact absurd q b2
        rcases pk_ix k (n := sn) (by omega) with q | q | ⟨K, hK, rfl⟩
        · exact absurd q d1
        · exact absurd q d2
        refine ⟨F, P, K, hF, hP, hK, rfl, rfl, rfl, ?_⟩
        have e1 : nI F * 32 = nI (F * 32) := pk_mul F 32
        rw [e1, nI_add, pk_mul, nI_add]
theorem place_lt {sn F P K : Nat} (hF : F < 4) (hP : P < 32) (hK : K < sn) : (F * 32 + P) * sn + K < 128 * sn := by
  have h : (F * 32 + P) * sn ≤ 127 * sn := Nat.mul_le_mul_right _ (by omega)
  omega
theorem place_in {sn : Nat} (hs : sn ≤ 64) {f p k : Int32} (h : ¬ fX0_placeOf sn f p k = -1) : vp_in (fX0_placeOf sn f p k) (128 * sn) := by
  obtain ⟨F, P, K, hF, hP, hK, _, _, _, e⟩ := place_nI hs h
  rw [e]; exact vp_in_nI (place_lt hF hP hK) (by omega)
theorem place_bd {sn : Nat} (hs : sn ≤ 64) {f p k : Int32} (h : ¬ fX0_placeOf sn f p k = -1) {vf : Nat → UInt64} {B : Nat} (hv : ∀ i, i < 128 * sn → bd B (vf i)) : bd B (vf (fX0_placeOf sn f p k).toNatClampNeg) := by
  obtain ⟨F, P, K, hF, hP, hK, _, _, _, e⟩ := place_nI hs h
  have := place_lt hF hP hK
  rw [e, nI_clamp (by omega)]; exact hv _ this
def fX0_tell (sn : Nat) (vf : Nat → UInt64) (p1 : Int32) (p2 : Int32) (p3 : Int32) (p4 : UInt64) : Int32 × (Nat → UInt64) := if (fX0_placeOf sn p1 p2 p3) = (-1 : Int32) then ((0 : Int32), vf) else (if (fX3_within p4 FP.dconst0 (4652007308841189376 : UInt64)) = 0 then ((0 : Int32), vf) else (((1 : Int32), (vf_upd vf (fX0_placeOf sn p1 p2 p3).toNatClampNeg p4))))
set_option maxHeartbeats 4000000 in
set_option maxRecDepth 100000 in
theorem c_X0_tell {l : Launch} {D : va_G} {cyD cyI cyJ cyZ : ClassId} (ae av ab : Nat) (sn : Nat) (me : UInt64) (vf : Nat → UInt64) (lf : Nat → Int32) (sp : UInt64) (sb : UInt64) (no : UInt64) (sz : Nat) (p1 : Int32) (p2 : Int32) (p3 : Int32) (p4 : UInt64) (hE : okE sn me vf sp sb no) : mZ l yX0_tell wsX0_tell ({ frames := 2, cells := 0, slots := 0, locals := 44 } : Room) D (kT cyD cyI cyJ cyZ) [.ref ae, .int p1, .int p2, .int p3, .double p4] (wE cyD cyI cyJ cyZ ae av ab sn me vf lf sp sb no) (wE cyD cyI cyJ cyZ ae av ab sn me ((fX0_tell sn vf p1 p2 p3 p4).2) lf sp sb no) sz ((fX0_tell sn vf p1 p2 p3 p4).1) 0 0 := by
  refine Met.ofW (cc := cX0_tell) (maxL := 7) (ret := (some .boolean)) (by decide) rfl ?_
  intro p e s m args below meth c s₁ B hml hv
  obtain ⟨rfl, hN, hsz, hP, hK, hD0⟩ := hv
  have hx := B.exec
  have hb := B.bytes
  have hr := B.returns
  have hts := atoms_spec (ws := wsX0_tell) B.pre
  have hown : s.vm.findClass RX0 = some m.cls := findClass_of_methodNamed B.named
  have hlocks := B.notSynchronized
  subst hsz
  have hD := hD0.self (sz := s.heap.size)
  generalize hAe : va_A (wE cyD cyI cyJ cyZ ae av ab sn me vf lf sp sb no) s.heap.size = A at hD ⊢
  have hA : ∀ q : Nat, s.heap.size ≤ q → A q := fun q h => by rw [← hAe]; exact Or.inr h
  have hS : va_S A s.heap s.heap [] := va_S.rf
  have hP : va_P D vwCl (wE cyD cyI cyJ cyZ ae av ab sn me vf lf sp sb no) s.heap := hP
  have hl := lv_entry [.ref ae, .int p1, .int p2, .int p3, .double p4] (n := 7) (Nat.le_of_ble_eq_true rfl)
  rw [lg_entry_eq]
  generalize (lg_sl [.ref ae, .int p1, .int p2, .int p3, .double p4] ++ List.replicate (7 - (lg_sl [.ref ae, .int p1, .int p2, .int p3, .double p4]).length) Slot.unset).toArray = ls at hl ⊢
  have hl : lv_has ls 7 [(0, .ref ae), (1, .int p1), (2, .int p2), (3, .int p3), (4, .double p4)] := hl
  obtain ⟨H, hHe⟩ : ∃ H : Heap, H = s.heap := ⟨_, rfl⟩
  have hP : va_P D vwCl (wE cyD cyI cyJ cyZ ae av ab sn me vf lf sp sb no) H := by rw [hHe]; exact hP
  have hS : va_S A s.heap H [] := by rw [hHe]; exact hS
  rw [← hHe]
  refine lv_aload_n hx hb dX0_tell_0 rfl (lv_at hl 0 rfl) ?_
  refine lv_iload_n hx hb dX0_tell_1 rfl (lv_at hl 1 rfl) ?_
  refine lv_iload_n hx hb dX0_tell_2 rfl (lv_at hl 2 rfl) ?_
  refine lv_iload_n hx hb dX0_tell_3 rfl (lv_at hl 3 rfl) ?_
  have hPc : va_P D vwCl (wE cyD cyI cyJ cyZ ae av ab sn me vf lf sp sb no) H := hP.sub [0, 1, 2] rfl
  have hDc : va_D A (wE cyD cyI cyJ cyZ ae av ab sn me vf lf sp sb no) := hD.sub [0, 1, 2] (by decide) rfl
  refine kiE (ws' := (wE cyD cyI cyJ cyZ ae av ab sn me vf lf sp sb no)) (wc := (wE cyD cyI cyJ cyZ ae av ab sn me vf lf sp sb no)) (wr := []) (w1 := (wE cyD cyI cyJ cyZ ae av ab sn me vf lf sp sb no)) (va_runV (As := [.int p1, .int p2, .int p3]) (rest := []) ⟨hx, hb, hml, hown, hts⟩ (c_X0_placeOf (l := l) (D := D) (cyD := cyD) (cyI := cyI) (cyJ := cyJ) (cyZ := cyZ) ae av ab sn me vf lf sp sb no H.size p1 p2 p3) (cwV 3 hts gX0_tell_X0_placeOf rfl rfl rfl (by decide +kernel) ⟨Nat.le_of_ble_eq_true rfl, Nat.le_of_ble_eq_true rfl⟩) (kV (ci := 0) (q0 := 0) (q := (RX0, TX0, 7)) hN hK hPc hDc rfl rfl rfl) rfl rfl hl.1 rfl (lv_room (Nat.le_of_ble_eq_true rfl)) dX0_tell_4 ⟨Nat.le_of_ble_eq_true rfl, Nat.le_of_ble_eq_true rfl⟩) hP hD hS hA [0, 1, 2] [] [0, 1, 2] rfl rfl (by decide) (by decide) rfl (by decide) (fun H locs hP hD hS => ?_)
  refine lv_istore (lv' := [(6, .int (fX0_placeOf sn p1 p2 p3)), (0, .ref ae), (1, .int p1), (2, .int p2), (3, .int p3), (4, .double p4)]) hx hb dX0_tell_7 hl (by decide) rfl (fun ls hl => ?_)
  refine lv_iload hx hb dX0_tell_9 (lv_at hl 0 rfl) ?_
  refine lv_iconst (v := (-1)) hx hb dX0_tell_11 (by decide) ?_
  refine lv_icmp_eq (tgt := 27) hx hb dX0_tell_12 (by decide) (fun c_12 => ?_) (fun c_12 => ?_)
  · refine lv_iconst (v := 0) hx hb dX0_tell_27 (by decide) ?_
    have hF9 : (fX0_tell sn vf p1 p2 p3 p4) = ((0 : Int32), vf) := by rw [fX0_tell, if_pos c_12]
    have hP9 : va_P D vwCl (wE cyD cyI cyJ cyZ ae av ab sn me ((fX0_tell sn vf p1 p2 p3 p4).2) lf sp sb no) H := by rw [hF9]; exact hP
    have hD9 : va_D A (wE cyD cyI cyJ cyZ ae av ab sn me ((fX0_tell sn vf p1 p2 p3 p4).2) lf sp sb no) := by rw [hF9]; exact hD
    exact W.zret (v := (0 : Int32)) hx hb hr (nar_z (Or.inl rfl)) (fun t ht hW => ⟨⟨(0 : Int32), (), rfl, ⟨(by rw [hF9]), (Or.inl rfl)⟩, by rw [ht]; exact hP9, va_K.moved hW.alike hK, hD9⟩, hS.F ht⟩) hS.2.2 dX0_tell_28
  refine lv_dload hx hb dX0_tell_15 (lv_at hl 5 rfl) ?_
  refine lv_dconst0 hx hb dX0_tell_17 ?_
  refine lv_ldc2d (v := 4652007308841189376) hx hb hown (hts (.constantDouble RX0 59 (4652007308841189376)) (List.mem_of_getElem? (i := 1) rfl)) dX0_tell_18 ?_
  have hPc : va_P D vwCl [] H := hP.sub [] rfl
  have hDc : va_D A [] := hD.sub [] (by decide) rfl
  refine kzE (ws' := (wE cyD cyI cyJ cyZ ae av ab sn me vf lf sp sb no)) (wc := []) (wr := [(ae, .inr (0, [.int (nI sn), .double me, .ref av, .ref ab, .double sp, .double sb, .double no])), (av, .inl (cyD, 128 * sn, .inr (.inr (.inr (.inl vf))))), (ab, .inl (cyZ, 32, .inl lf))]) (w1 := []) (va_runSN (As := [.double p4, .double FP.dconst0, .double (4652007308841189376 : UInt64)]) (rest := []) ⟨hx, hb, hml, hown, hts⟩ (c_X3_within (l := l) (D := D) (cyD := cyD) (cyI := cyI) (cyJ := cyJ) (cyZ := cyZ) H.size p4 FP.dconst0 (4652007308841189376 : UInt64)) ⟨va_cnB 3 hts gX0_tell_X3_within_n61 rfl rfl rfl hN.2.2.2.1 (hts (.initialized RX3) (List.mem_of_getElem? (i := 10) rfl)) (by decide +kernel) ⟨Nat.le_of_ble_eq_true rfl, Nat.le_of_ble_eq_true rfl⟩, (hts (.static yX3_within) (List.mem_of_getElem? (i := 18) rfl)), trivial⟩ (kS hN hK hPc hDc) rfl rfl hl.1 rfl (lv_room (Nat.le_of_ble_eq_true rfl)) dX0_tell_21 ⟨Nat.le_of_ble_eq_true rfl, Nat.le_of_ble_eq_true rfl⟩) hP hD hS hA [] [0, 1, 2] [0, 1, 2] rfl rfl (by decide) (by decide) rfl (by decide) (fun H locs hz_21 hP hD hS => ?_)
  refine lv_if_ne (tgt := 29) hx hb dX0_tell_24 (by decide) (fun c_24 => ?_) (fun c_24 => ?_)
  · refine lv_aload_n hx hb dX0_tell_29 rfl (lv_at hl 1 rfl) ?_
    refine va_get (D := D) (ci := 0) (v := .ref av) (C := RX0) (T := TX0) (N := 7) hx hb hts (fun _ h => (List.mem_cons_of_mem _ (List.mem_append_right _ h))) hown hK hP 0 rfl rfl 2 (by decide) (hts (.fieldLink RX0 43 "BottomWalks$Echoes" "values" "[D") (List.mem_of_getElem? (i := 2) rfl)) (fun _ h9 => h9) rfl dX0_tell_30 ?_
    refine lv_iload hx hb dX0_tell_33 (lv_at hl 0 rfl) ?_
    refine lv_dload hx hb dX0_tell_35 (lv_at hl 5 rfl) ?_
    refine va_dast hx hb hK hP hD hS 1 0 rfl rfl (place_in hE.2.1 c_12) dX0_tell_37 (fun H locs hP hD hS => ?_)
    have hP : va_P D vwCl (wE cyD cyI cyJ cyZ ae av ab sn me (vf_upd vf (fX0_placeOf sn p1 p2 p3).toNatClampNeg p4) lf sp sb no) H := hP
    have hD : va_D A (wE cyD cyI cyJ cyZ ae av ab sn me (vf_upd vf (fX0_placeOf sn p1 p2 p3).toNatClampNeg p4) lf sp sb no) := hD
    refine lv_iconst (v := 1) hx hb dX0_tell_38 (by decide) ?_
    have hF9 : (fX0_tell sn vf p1 p2 p3 p4) = ((1 : Int32), (vf_upd vf (fX0_placeOf sn p1 p2 p3).toNatClampNeg p4)) := by rw [fX0_tell, if_neg c_12, if_neg c_24]
    have hP9 : va_P D vwCl (wE cyD cyI cyJ cyZ ae av ab sn me ((fX0_tell sn vf p1 p2 p3 p4).2) lf sp sb no) H := by rw [hF9]; exact hP
    have hD9 : va_D A (wE cyD cyI cyJ cyZ ae av ab sn me ((fX0_tell sn vf p1 p2 p3 p4).2) lf sp sb no) := by rw [hF9]; exact hD
    exact W.zret (v := (1 : Int32)) hx hb hr (nar_z (Or.inr rfl)) (fun t ht hW => ⟨⟨(1 : Int32), (), rfl, ⟨(by rw [hF9]), (Or.inr rfl)⟩, by rw [ht]; exact hP9, va_K.moved hW.alike hK, hD9⟩, hS.F ht⟩) hS.2.2 dX0_tell_39
  refine lv_iconst (v := 0) hx hb dX0_tell_27 (by decide) ?_
  have hF9 : (fX0_tell sn vf p1 p2 p3 p4) = ((0 : Int32), vf) := by rw [fX0_tell, if_neg c_12, if_pos c_24]
  have hP9 : va_P D vwCl (wE cyD cyI cyJ cyZ ae av ab sn me ((fX0_tell sn vf p1 p2 p3 p4).2) lf sp sb no) H := by rw [hF9]; exact hP
  have hD9 : va_D A (wE cyD cyI cyJ cyZ ae av ab sn me ((fX0_tell sn vf p1 p2 p3 p4).2) lf sp sb no) := by rw [hF9]; exact hD
  exact W.zret (v := (0 : Int32)) hx hb hr (nar_z (Or.inl rfl)) (fun t ht hW => ⟨⟨(0 : Int32), (), rfl, ⟨(by rw [hF9]), (Or.inl rfl)⟩, by rw [ht]; exact hP9, va_K.moved hW.alike hK, hD9⟩, hS.F ht⟩) hS.2.2 dX0_tell_28
def fX0_lose (lf : Nat → Int32) (p1 : Int32) : Int32 × (Nat → Int32) := if (fX3_isPing p1) = 0 then ((0 : Int32), lf) else (((1 : Int32), (upd lf p1.toNatClampNeg (vp_nar .boolean (1 : Int32)))))
set_option maxHeartbeats 4000000 in
set_option maxRecDepth 100000 in
theorem c_X0_lose {l : Launch} {D : va_G} {cyD cyI cyJ cyZ : ClassId} (ae av ab : Nat) (sn : Nat) (me : UInt64) (vf : Nat → UInt64) (lf : Nat → Int32) (sp : UInt64) (sb : UInt64) (no : UInt64) (sz : Nat) (p1 : Int32)  : mZ l yX0_lose wsX0_lose ({ frames := 1, cells := 0, slots := 0, locals := 20 } : Room) D (kT cyD cyI cyJ cyZ) [.ref ae, .int p1] (wE cyD cyI cyJ cyZ ae av ab sn me vf lf sp sb no) (wE cyD cyI cyJ cyZ ae av ab sn me vf ((fX0_lose lf p1).2) sp sb no) sz ((fX0_lose lf p1).1) 0 0 := by
  refine Met.ofW (cc := cX0_lose) (maxL := 2) (ret := (some .boolean)) (by decide) rfl ?_
  intro p e s m args below meth c s₁ B hml hv
  obtain ⟨rfl, hN, hsz, hP, hK, hD0⟩ := hv
  have hx := B.exec
  have hb := B.bytes
  have hr := B.returns
  have hts := atoms_spec (ws := wsX0_lose) B.pre
  have hown : s.vm.findClass RX0 = some m.cls := findClass_of_methodNamed B.named
  have hlocks := B.notSynchronized
  subst hsz
  have hD := hD0.self (sz := s.heap.size)
  generalize hAe : va_A (wE cyD cyI cyJ cyZ ae av ab sn me vf lf sp sb no) s.heap.size = A at hD ⊢
  have hA : ∀ q : Nat, s.heap.size ≤ q → A q := fun q h => by rw [← hAe]; exact Or.inr h
  have hS : va_S A s.heap s.heap [] := va_S.rf
  have hP : va_P D vwCl (wE cyD cyI cyJ cyZ ae av ab sn me vf lf sp sb no) s.heap := hP
  have hl := lv_entry [.ref ae, .int p1] (n := 2) (Nat.le_of_ble_eq_true rfl)
  rw [lg_entry_eq]
  generalize (lg_sl [.ref ae, .int p1] ++ List.replicate (2 - (lg_sl [.ref ae, .int p1]).length) Slot.unset).toArray = ls at hl ⊢
  have hl : lv_has ls 2 [(0, .ref ae), (1, .int p1)] := hl
  obtain ⟨H, hHe⟩ : ∃ H : Heap, H = s.heap := ⟨_, rfl⟩
  have hP : va_P D vwCl (wE cyD cyI cyJ cyZ ae av ab sn me vf lf sp sb no) H := by rw [hHe]; exact hP
  have hS : va_S A s.heap H [] := by rw [hHe]; exact hS
  rw [← hHe]
  refine lv_iload_n hx hb dX0_lose_0 rfl (lv_at hl 1 rfl) ?_
  have hPc : va_P D vwCl [] H := hP.sub [] rfl
  have hDc : va_D A [] := hD.sub [] (by decide) rfl
  refine kzE (ws' := (wE cyD cyI cyJ cyZ ae av ab sn me vf lf sp sb no)) (wc := []) (wr := [(ae, .inr (0, [.int (nI sn), .double me, .ref av, .ref ab, .double sp, .double sb, .double no])), (av, .inl (cyD, 128 * sn, .inr (.inr (.inr (.inl vf))))), (ab, .inl (cyZ, 32, .inl lf))]) (w1 := []) (va_runSN (As := [.int p1]) (rest := []) ⟨hx, hb, hml, hown, hts⟩ (c_X3_isPing (l := l) (D := D) (cyD := cyD) (cyI := cyI) (cyJ := cyJ) (cyZ := cyZ) H.size p1) ⟨va_cnB 1 hts gX0_lose_X3_isPing_n65 rfl rfl rfl hN.2.2.1 (hts (.initialized RX3) (List.mem_of_getElem? (i := 3) rfl)) (by decide +kernel) ⟨Nat.le_of_ble_eq_true rfl, Nat.le_of_ble_eq_true rfl⟩, (hts (.static yX3_isPing) (List.mem_of_getElem? (i := 2) rfl)), trivial⟩ (kS hN hK hPc hDc) rfl rfl hl.1 rfl (lv_room (Nat.le_of_ble_eq_true rfl)) dX0_lose_1 ⟨Nat.le_of_ble_eq_true rfl, Nat.le_of_ble_eq_true rfl⟩) hP hD hS hA [] [0, 1, 2] [0, 1, 2] rfl rfl (by decide) (by decide) rfl (by decide) (fun H locs hz_1 hP hD hS => ?_)
  refine lv_if_ne (tgt := 9) hx hb dX0_lose_4 (by decide) (fun c_4 => ?_) (fun c_4 => ?_)
  · refine lv_aload_n hx hb dX0_lose_9 rfl (lv_at hl 0 rfl) ?_
    refine va_get (D := D) (ci := 0) (v := .ref ab) (C := RX0) (T := TX0) (N := 7) hx hb hts (fun _ h => (List.mem_cons_of_mem _ (List.mem_append_right _ h))) hown hK hP 0 rfl rfl 3 (by decide) (hts (.fieldLink RX0 9 "BottomWalks$Echoes" "lostPings" "[Z") (List.mem_of_getElem? (i := 1) rfl)) (fun _ h9 => h9) rfl dX0_lose_10 ?_
    refine lv_iload_n hx hb dX0_lose_13 rfl (lv_at hl 1 rfl) ?_
    refine lv_iconst (v := 1) hx hb dX0_lose_14 (by decide) ?_
    refine va_zast hx hb hK hP hD hS 2 3 rfl rfl (ping_in c_4) dX0_lose_15 (fun H locs hP hD hS => ?_)
    have hP : va_P D vwCl (wE cyD cyI cyJ cyZ ae av ab sn me vf (upd lf p1.toNatClampNeg (vp_nar .boolean (1 : Int32))) sp sb no) H := hP
    have hD : va_D A (wE cyD cyI cyJ cyZ ae av ab sn me vf (upd lf p1.toNatClampNeg (vp_nar .boolean (1 : Int32))) sp sb no) := hD
    refine lv_iconst (v := 1) hx hb dX0_lose_16 (by decide) ?_
    have hF9 : (fX0_lose lf p1) = ((1 : Int32), (upd lf p1.toNatClampNeg (vp_nar .boolean (1 : Int32)))) := by rw [fX0_lose, if_neg c_4]
    have hP9 : va_P D vwCl (wE cyD cyI cyJ cyZ ae av ab sn me vf ((fX0_lose lf p1).2) sp sb no) H := by rw [hF9]; exact hP
    have hD9 : va_D A (wE cyD cyI cyJ cyZ ae av ab sn me vf ((fX0_lose lf p1).2) sp sb no) := by rw [hF9]; exact hD
    exact W.zret (v := (1 : Int32)) hx hb hr (nar_z (Or.inr rfl)) (fun t ht hW => ⟨⟨(1 : Int32), (), rfl, ⟨(by rw [hF9]), (Or.inr rfl)⟩, by rw [ht]; exact hP9, va_K.moved hW.alike hK, hD9⟩, hS.F ht⟩) hS.2.2 dX0_lose_17
  refine lv_iconst (v := 0) hx hb dX0_lose_7 (by decide) ?_
  have hF9 : (fX0_lose lf p1) = ((0 : Int32), lf) := by rw [fX0_lose, if_pos c_4]
  have hP9 : va_P D vwCl (wE cyD cyI cyJ cyZ ae av ab sn me vf ((fX0_lose lf p1).2) sp sb no) H := by rw [hF9]; exact hP
  have hD9 : va_D A (wE cyD cyI cyJ cyZ ae av ab sn me vf ((fX0_lose lf p1).2) sp sb no) := by rw [hF9]; exact hD
  exact W.zret (v := (0 : Int32)) hx hb hr (nar_z (Or.inl rfl)) (fun t ht hW => ⟨⟨(0 : Int32), (), rfl, ⟨(by rw [hF9]), (Or.inl rfl)⟩, by rw [ht]; exact hP9, va_K.moved hW.alike hK, hD9⟩, hS.F ht⟩) hS.2.2 dX0_lose_8
def fX0_isLost (lf : Nat → Int32) (p1 : Int32) : Int32 := if (fX3_isPing p1) = 0 then (0 : Int32) else (if (lf p1.toNatClampNeg) = 0 then (0 : Int32) else ((1 : Int32)))
set_option maxHeartbeats 4000000 in
set_option maxRecDepth 100000 in
theorem c_X0_isLost {l : Launch} {D : va_G} {cyD cyI cyJ cyZ : ClassId} (ae av ab : Nat) (sn : Nat) (me : UInt64) (vf : Nat → UInt64) (lf : Nat → Int32) (sp : UInt64) (sb : UInt64) (no : UInt64) (sz : Nat) (p1 : Int32)  : mZ l yX0_isLost wsX0_isLost ({ frames := 1, cells := 0, slots := 0, locals := 20 } : Room) D (kT cyD cyI cyJ cyZ) [.ref ae, .int p1] (wE cyD cyI cyJ cyZ ae av ab sn me vf lf sp sb no) (wE cyD cyI cyJ cyZ ae av ab sn me vf lf sp sb no) sz (fX0_isLost lf p1) 0 0 := by
  refine Met.ofW (cc := cX0_isLost) (maxL := 2) (ret := (some .boolean)) (by decide) rfl ?_
  intro p e s m args below meth c s₁ B hml hv
  obtain ⟨rfl, hN, hsz, hP, hK, hD0⟩ := hv
  have hx := B.exec
  have hb := B.bytes
  have hr := B.returns
  have hts := atoms_spec (ws := wsX0_isLost) B.pre
  have hown : s.vm.findClass RX0 = some m.cls := findClass_of_methodNamed B.named
  have hlocks := B.notSynchronized
  subst hsz
  have hD := hD0.self (sz := s.heap.size)
  generalize hAe : va_A (wE cyD cyI cyJ cyZ ae av ab sn me vf lf sp sb no) s.heap.size = A at hD ⊢
  have hA : ∀ q : Nat, s.heap.size ≤ q → A q := fun q h => by rw [← hAe]; exact Or.inr h
  have hS : va_S A s.heap s.heap [] := va_S.rf
  have hP : va_P D vwCl (wE cyD cyI cyJ cyZ ae av ab sn me vf lf sp sb no) s.heap := hP
  have hl := lv_entry [.ref ae, .int p1] (n := 2) (Nat.le_of_ble_eq_true rfl)
  rw [lg_entry_eq]
  generalize (lg_sl [.ref ae, .int p1] ++ List.replicate (2 - (lg_sl [.ref ae, .int p1]).length) Slot.unset).toArray = ls at hl ⊢
  have hl : lv_has ls 2 [(0, .ref ae), (1, .int p1)] := hl
  obtain ⟨H, hHe⟩ : ∃ H : Heap, H = s.heap := ⟨_, rfl⟩
  have hP : va_P D vwCl (wE cyD cyI cyJ cyZ ae av ab sn me vf lf sp sb no) H := by rw [hHe]; exact hP
  have hS : va_S A s.heap H [] := by rw [hHe]; exact hS
  rw [← hHe]
  refine lv_iload_n hx hb dX0_isLost_0 rfl (lv_at hl 1 rfl) ?_
  have hPc : va_P D vwCl [] H := hP.sub [] rfl
  have hDc : va_D A [] := hD.sub [] (by decide) rfl
  refine kzE (ws' := (wE cyD cyI cyJ cyZ ae av ab sn me vf lf sp sb no)) (wc := []) (wr := [(ae, .inr (0, [.int (nI sn), .double me, .ref av, .ref ab, .double sp, .double sb, .double no])), (av, .inl (cyD, 128 * sn, .inr (.inr (.inr (.inl vf))))), (ab, .inl (cyZ, 32, .inl lf))]) (w1 := []) (va_runSN (As := [.int p1]) (rest := []) ⟨hx, hb, hml, hown, hts⟩ (c_X3_isPing (l := l) (D := D) (cyD := cyD) (cyI := cyI) (cyJ := cyJ) (cyZ := cyZ) H.size p1) ⟨va_cnB 1 hts gX0_isLost_X3_isPing_n65 rfl rfl rfl hN.2.2.1 (hts (.initialized RX3) (List.mem_of_getElem? (i := 3) rfl)) (by decide +kernel) ⟨Nat.le_of_ble_eq_true rfl, Nat.le_of_ble_eq_true rfl⟩, (hts (.static yX3_isPing) (List.mem_of_getElem? (i := 2) rfl)), trivial⟩ (kS hN hK hPc hDc) rfl rfl hl.1 rfl (lv_room (Nat.le_of_ble_eq_true rfl)) dX0_isLost_1 ⟨Nat.le_of_ble_eq_true rfl, Nat.le_of_ble_eq_true rfl⟩) hP hD hS hA [] [0, 1, 2] [0, 1, 2] rfl rfl (by decide) (by decide) rfl (by decide) (fun H locs hz_1 hP hD hS => ?_)
  refine lv_if_eq (tgt := 20) hx hb dX0_isLost_4 (by decide) (fun c_4 => ?_) (fun c_4 => ?_)
  · refine lv_iconst (v := 0) hx hb dX0_isLost_20 (by decide) ?_
    have hF9 : (fX0_isLost lf p1) = (0 : Int32) := by rw [fX0_isLost, if_pos c_4]
    have hP9 : va_P D vwCl (wE cyD cyI cyJ cyZ ae av ab sn me vf lf sp sb no) H := hP
    have hD9 : va_D A (wE cyD cyI cyJ cyZ ae av ab sn me vf lf sp sb no) := hD
    exact W.zret (v := (0 : Int32)) hx hb hr (nar_z (Or.inl rfl)) (fun t ht hW => ⟨⟨(0 : Int32), (), rfl, ⟨(by rw [hF9]), (Or.inl rfl)⟩, by rw [ht]; exact hP9, va_K.moved hW.alike hK, hD9⟩, hS.F ht⟩) hS.2.2 dX0_isLost_21
  refine lv_aload_n hx hb dX0_isLost_7 rfl (lv_at hl 0 rfl) ?_
  refine va_get (D := D) (ci := 0) (v := .ref ab) (C := RX0) (T := TX0) (N := 7) hx hb hts (fun _ h => (List.mem_cons_of_mem _ (List.mem_append_right _ h))) hown hK hP 0 rfl rfl 3 (by decide) (hts (.fieldLink RX0 9 "BottomWalks$Echoes" "lostPings" "[Z") (List.mem_of_getElem? (i := 1) rfl)) (fun _ h9 => h9) rfl dX0_isLost_8 ?_
  refine lv_iload_n hx hb dX0_isLost_11 rfl (lv_at hl 1 rfl) ?_
  refine va_zald hx hb hK hP 2 3 rfl rfl (ping_in c_4) dX0_isLost_12 ?_
  refine lv_if_eq (tgt := 20) hx hb dX0_isLost_13 (by decide) (fun c_13 => ?_) (fun c_13 => ?_)
  · refine lv_iconst (v := 0) hx hb dX0_isLost_20 (by decide) ?_
    have hF9 : (fX0_isLost lf p1) = (0 : Int32) := by rw [fX0_isLost, if_neg c_4, if_pos c_13]
    have hP9 : va_P D vwCl (wE cyD cyI cyJ cyZ ae av ab sn me vf lf sp sb no) H := hP
    have hD9 : va_D A (wE cyD cyI cyJ cyZ ae av ab sn me vf lf sp sb no) := hD
    exact W.zret (v := (0 : Int32)) hx hb hr (nar_z (Or.inl rfl)) (fun t ht hW => ⟨⟨(0 : Int32), (), rfl, ⟨(by rw [hF9]), (Or.inl rfl)⟩, by rw [ht]; exact hP9, va_K.moved hW.alike hK, hD9⟩, hS.F ht⟩) hS.2.2 dX0_isLost_21
  refine lv_iconst (v := 1) hx hb dX0_isLost_16 (by decide) ?_
  refine lv_goto (tgt := 21) hx hb dX0_isLost_17 (by decide) ?_
  have hF9 : (fX0_isLost lf p1) = (1 : Int32) := by rw [fX0_isLost, if_neg c_4, if_neg c_13]
  have hP9 : va_P D vwCl (wE cyD cyI cyJ cyZ ae av ab sn me vf lf sp sb no) H := hP
  have hD9 : va_D A (wE cyD cyI cyJ cyZ ae av ab sn me vf lf sp sb no) := hD
  exact W.zret (v := (1 : Int32)) hx hb hr (nar_z (Or.inr rfl)) (fun t ht hW => ⟨⟨(1 : Int32), (), rfl, ⟨(by rw [hF9]), (Or.inr rfl)⟩, by rw [ht]; exact hP9, va_K.moved hW.alike hK, hD9⟩, hS.F ht⟩) hS.2.2 dX0_isLost_21
def fX0_isSilent_L2 (sn : Nat) (vf : Nat → UInt64)  (p1 : Int32) (p2 : Int32) : Nat → (Int32) → Int32
  | 0, v_j => 0
  | k + 1, v_j => if (nI sn) ≤ v_j then (1 : Int32) else (if (fX0_placeOf sn p1 p2 (v_j)) = (-1 : Int32) then (fX0_isSilent_L2 sn vf p1 p2 k ((v_j) + 1)) else (if (Op.cmpValue (FP.dcmp (vf (fX0_placeOf sn p1 p2 (v_j)).toNatClampNeg) FP.dconst0) CmpOp.l) < 0 then (fX0_isSilent_L2 sn vf p1 p2 k ((v_j) + 1)) else ((0 : Int32))))
def fX0_isSilent (sn : Nat) (vf : Nat → UInt64) (p1 : Int32) (p2 : Int32) : Int32 := (fX0_isSilent_L2 sn vf p1 p2 65 (0 : Int32))
set_option maxHeartbeats 4000000 in
set_option maxRecDepth 100000 in
theorem c_X0_isSilent {l : Launch} {D : va_G} {cyD cyI cyJ cyZ : ClassId} (ae av ab : Nat) (sn : Nat) (me : UInt64) (vf : Nat → UInt64) (lf : Nat → Int32) (sp : UInt64) (sb : UInt64) (no : UInt64) (sz : Nat) (p1 : Int32) (p2 : Int32) (hE : okE sn me vf sp sb no) : mZ l yX0_isSilent wsX0_isSilent ({ frames := 2, cells := 0, slots := 0, locals := 44 } : Room) D (kT cyD cyI cyJ cyZ) [.ref ae, .int p1, .int p2] (wE cyD cyI cyJ cyZ ae av ab sn me vf lf sp sb no) (wE cyD cyI cyJ cyZ ae av ab sn me vf lf sp sb no) sz (fX0_isSilent sn vf p1 p2) 0 0 := by
  refine Met.ofW (cc := cX0_isSilent) (maxL := 5) (ret := (some .boolean)) (by decide) rfl ?_
  intro p e s m args below meth c s₁ B hml hv
  obtain ⟨rfl, hN, hsz, hP, hK, hD0⟩ := hv
  have hx := B.exec
  have hb := B.bytes
  have hr := B.returns
  have hts := atoms_spec (ws := wsX0_isSilent) B.pre
  have hown : s.vm.findClass RX0 = some m.cls := findClass_of_methodNamed B.named
  have hlocks := B.notSynchronized
  subst hsz
  have hD := hD0.self (sz := s.heap.size)
  generalize hAe : va_A (wE cyD cyI cyJ cyZ ae av ab sn me vf lf sp sb no) s.heap.size = A at hD ⊢
  have hA : ∀ q : Nat, s.heap.size ≤ q → A q := fun q h => by rw [← hAe]; exact Or.inr h
  have hS : va_S A s.heap s.heap [] := va_S.rf
  have hP : va_P D vwCl (wE cyD cyI cyJ cyZ ae av ab sn me vf lf sp sb no) s.heap := hP
  have hl := lv_entry [.ref ae, .int p1, .int p2] (n := 5) (Nat.le_of_ble_eq_true rfl)
  rw [lg_entry_eq]
  generalize (lg_sl [.ref ae, .int p1, .int p2] ++ List.replicate (5 - (lg_sl [.ref ae, .int p1, .int p2]).length) Slot.unset).toArray = ls at hl ⊢
  have hl : lv_has ls 5 [(0, .ref ae), (1, .int p1), (2, .int p2)] := hl
  obtain ⟨H, hHe⟩ : ∃ H : Heap, H = s.heap := ⟨_, rfl⟩
  have hP : va_P D vwCl (wE cyD cyI cyJ cyZ ae av ab sn me vf lf sp sb no) H := by rw [hHe]; exact hP
  have hS : va_S A s.heap H [] := by rw [hHe]; exact hS
  rw [← hHe]
  refine lv_iconst (v := 0) hx hb dX0_isSilent_0 (by decide) ?_
  refine lv_istore_n (lv' := [(3, .int (0 : Int32)), (0, .ref ae), (1, .int p1), (2, .int p2)]) hx hb dX0_isSilent_1 rfl hl (by decide) rfl (fun ls hl => ?_)
  have loop_2 : ∀ (k : Nat) (j : Nat) (H : Heap) (locs : List Loc), (j + k = 65) → (j ≤ sn) → (fX0_isSilent sn vf p1 p2) = fX0_isSilent_L2 sn vf p1 p2 k ((nI j)) → va_P D vwCl (wE cyD cyI cyJ cyZ ae av ab sn me vf lf sp sb no) H → va_D A (wE cyD cyI cyJ cyZ ae av ab sn me vf lf sp sb no) → va_S A s.heap H locs → ∀ ls, lv_has ls 5 [(3, .int ((nI j))), (0, .ref ae), (1, .int p1), (2, .int p2)] → W p l e (headSpec wsX0_isSilent ({ frames := 2, cells := 0, slots := 0, locals := 44 } : Room)).room s m ([.ref ae, .int p1, .int p2] : List Value).toArray below meth c H locs 0 0 (MQ below (va_Qi (fun (r : Int32) (_ : Unit) => r = (fX0_isSilent sn vf p1 p2) ∧ (r = 0 ∨ r = 1)) (kE D (kT cyD cyI cyJ cyZ) (wE cyD cyI cyJ cyZ ae av ab sn me vf lf sp sb no) A) A) ([.ref ae, .int p1, .int p2] : List Value).toArray s 0 0 A) (F0 m 2 ls []) := by
    intro k_2
    induction k_2 with
    | zero => intro j H locs hj hj2 hF hP hD hS ls hl; exact absurd hE.2.1 (by omega)
    | succ k_2 ih_2 =>
      intro j H locs hj hj2 hF hP hD hS ls hl
      have hs64 := hE.2.1
      refine lv_iload_n hx hb dX0_isSilent_2 rfl (lv_at hl 0 rfl) ?_
      refine lv_aload_n hx hb dX0_isSilent_3 rfl (lv_at hl 1 rfl) ?_
      refine va_get (D := D) (ci := 0) (v := .int (nI sn)) (C := RX0) (T := TX0) (N := 7) hx hb hts (fun _ h => (List.mem_cons_of_mem _ (List.mem_append_right _ h))) hown hK hP 0 rfl rfl 0 (by decide) (hts (.fieldLink RX0 34 "BottomWalks$Echoes" "samples" "I") (List.mem_of_getElem? (i := 1) rfl)) (fun _ h9 => h9) rfl dX0_isSilent_4 ?_
      refine lv_icmp_ge (tgt := 45) hx hb dX0_isSilent_7 (by decide) (fun c_7 => ?_) (fun c_7 => ?_)
      · refine lv_iconst (v := 1) hx hb dX0_isSilent_45 (by decide) ?_
        have hF9 : (fX0_isSilent sn vf p1 p2) = (1 : Int32) := by rw [hF, fX0_isSilent_L2, if_pos c_7]
        have hP9 : va_P D vwCl (wE cyD cyI cyJ cyZ ae av ab sn me vf lf sp sb no) H := hP
        have hD9 : va_D A (wE cyD cyI cyJ cyZ ae av ab sn me vf lf sp sb no) := hD
        exact W.zret (v := (1 : Int32)) hx hb hr (nar_z (Or.inr rfl)) (fun t ht hW => ⟨⟨(1 : Int32), (), rfl, ⟨(by rw [hF9]), (Or.inr rfl)⟩, by rw [ht]; exact hP9, va_K.moved hW.alike hK, hD9⟩, hS.F ht⟩) hS.2.2 dX0_isSilent_46
      refine lv_aload_n hx hb dX0_isSilent_10 rfl (lv_at hl 1 rfl) ?_
      refine lv_iload_n hx hb dX0_isSilent_11 rfl (lv_at hl 2 rfl) ?_
      refine lv_iload_n hx hb dX0_isSilent_12 rfl (lv_at hl 3 rfl) ?_
      refine lv_iload_n hx hb dX0_isSilent_13 rfl (lv_at hl 0 rfl) ?_
      have hPc : va_P D vwCl (wE cyD cyI cyJ cyZ ae av ab sn me vf lf sp sb no) H := hP.sub [0, 1, 2] rfl
      have hDc : va_D A (wE cyD cyI cyJ cyZ ae av ab sn me vf lf sp sb no) := hD.sub [0, 1, 2] (by decide) rfl
      refine kiE (ws' := (wE cyD cyI cyJ cyZ ae av ab sn me vf lf sp sb no)) (wc := (wE cyD cyI cyJ cyZ ae av ab sn me vf lf sp sb no)) (wr := []) (w1 := (wE cyD cyI cyJ cyZ ae av ab sn me vf lf sp sb no)) (va_runV (As := [.int p1, .int p2, .int ((nI j))]) (rest := []) ⟨hx, hb, hml, hown, hts⟩ (c_X0_placeOf (l := l) (D := D) (cyD := cyD) (cyI := cyI) (cyJ := cyJ) (cyZ := cyZ) ae av ab sn me vf lf sp sb no H.size p1 p2 ((nI j))) (cwV 3 hts gX0_isSilent_X0_placeOf rfl rfl rfl (by decide +kernel) ⟨Nat.le_of_ble_eq_true rfl, Nat.le_of_ble_eq_true rfl⟩) (kV (ci := 0) (q0 := 0) (q := (RX0, TX0, 7)) hN hK hPc hDc rfl rfl rfl) rfl rfl hl.1 rfl (lv_room (Nat.le_of_ble_eq_true rfl)) dX0_isSilent_14 ⟨Nat.le_of_ble_eq_true rfl, Nat.le_of_ble_eq_true rfl⟩) hP hD hS hA [0, 1, 2] [] [0, 1, 2] rfl rfl (by decide) (by decide) rfl (by decide) (fun H locs hP hD hS => ?_)
      refine lv_istore (lv' := [(4, .int (fX0_placeOf sn p1 p2 ((nI j)))), (3, .int ((nI j))), (0, .ref ae), (1, .int p1), (2, .int p2)]) hx hb dX0_isSilent_17 hl (by decide) rfl (fun ls hl => ?_)
      refine lv_iload hx hb dX0_isSilent_19 (lv_at hl 0 rfl) ?_
      refine lv_iconst (v := (-1)) hx hb dX0_isSilent_21 (by decide) ?_
      refine lv_icmp_eq (tgt := 39) hx hb dX0_isSilent_22 (by decide) (fun c_22 => ?_) (fun c_22 => ?_)
      · refine lv_iinc (v := (((nI j)) + 1)) (lv' := [(3, .int (((nI j)) + 1)), (4, .int (fX0_placeOf sn p1 p2 ((nI j)))), (0, .ref ae), (1, .int p1), (2, .int p2)]) hx hb dX0_isSilent_39 hl (k := 1) rfl rfl (by decide) rfl (fun ls hl => ?_)
        refine lv_goto (tgt := 2) hx hb dX0_isSilent_42 (by decide) ?_
        exact ih_2 (j + 1) _ _ (by omega) (by have := Nat.lt_of_not_le (fun q => c_7 (nI_le q (by omega))); omega) (by rw [← nI_1 j]; rw [hF, fX0_isSilent_L2, if_neg c_7, if_pos c_22]) hP hD hS _ (by rw [← nI_1 j]; exact lv_sub hl [0, 2, 3, 4] rfl)
      refine lv_aload_n hx hb dX0_isSilent_25 rfl (lv_at hl 2 rfl) ?_
      refine va_get (D := D) (ci := 0) (v := .ref av) (C := RX0) (T := TX0) (N := 7) hx hb hts (fun _ h => (List.mem_cons_of_mem _ (List.mem_append_right _ h))) hown hK hP 0 rfl rfl 2 (by decide) (hts (.fieldLink RX0 43 "BottomWalks$Echoes" "values" "[D") (List.mem_of_getElem? (i := 2) rfl)) (fun _ h9 => h9) rfl dX0_isSilent_26 ?_
      refine lv_iload hx hb dX0_isSilent_29 (lv_at hl 0 rfl) ?_
      refine va_dald hx hb hK hP 1 0 rfl rfl (place_in hE.2.1 c_22) dX0_isSilent_31 ?_
      refine lv_dconst0 hx hb dX0_isSilent_32 ?_
      refine lv_dcmp hx hb dX0_isSilent_33 ?_
      refine lv_if_lt (tgt := 39) hx hb dX0_isSilent_34 (by decide) (fun c_34 => ?_) (fun c_34 => ?_)
      · refine lv_iinc (v := (((nI j)) + 1)) (lv' := [(3, .int (((nI j)) + 1)), (4, .int (fX0_placeOf sn p1 p2 ((nI j)))), (0, .ref ae), (1, .int p1), (2, .int p2)]) hx hb dX0_isSilent_39 hl (k := 1) rfl rfl (by decide) rfl (fun ls hl => ?_)
        refine lv_goto (tgt := 2) hx hb dX0_isSilent_42 (by decide) ?_
        exact ih_2 (j + 1) _ _ (by omega) (by have := Nat.lt_of_not_le (fun q => c_7 (nI_le q (by omega))); omega) (by rw [← nI_1 j]; rw [hF, fX0_isSilent_L2, if_neg c_7, if_neg c_22, if_pos c_34]) hP hD hS _ (by rw [← nI_1 j]; exact lv_sub hl [0, 2, 3, 4] rfl)
      refine lv_iconst (v := 0) hx hb dX0_isSilent_37 (by decide) ?_
      have hF9 : (fX0_isSilent sn vf p1 p2) = (0 : Int32) := by rw [hF, fX0_isSilent_L2, if_neg c_7, if_neg c_22, if_neg c_34]
      have hP9 : va_P D vwCl (wE cyD cyI cyJ cyZ ae av ab sn me vf lf sp sb no) H := hP
      have hD9 : va_D A (wE cyD cyI cyJ cyZ ae av ab sn me vf lf sp sb no) := hD
      exact W.zret (v := (0 : Int32)) hx hb hr (nar_z (Or.inl rfl)) (fun t ht hW => ⟨⟨(0 : Int32), (), rfl, ⟨(by rw [hF9]), (Or.inl rfl)⟩, by rw [ht]; exact hP9, va_K.moved hW.alike hK, hD9⟩, hS.F ht⟩) hS.2.2 dX0_isSilent_38
  exact loop_2 65 0 _ _ rfl (Nat.zero_le _) (by rw [nI_0]; rw [fX0_isSilent]) hP hD hS _ (by exact lv_sub hl [0, 1, 2, 3] rfl)
def fX0_sampleFor_L2 (sn : Nat) (me : UInt64)  (p1 : UInt64) : Nat → (Int32) → Int32
  | 0, v_j => 0
  | k + 1, v_j => if ((nI sn) - (1 : Int32)) ≤ v_j then v_j else (if 0 ≤ (Op.cmpValue (FP.dcmp (fX0_range me (v_j)) p1) CmpOp.g) then v_j else ((fX0_sampleFor_L2 sn me p1 k ((v_j) + 1))))
def fX0_sampleFor (sn : Nat) (me : UInt64) (p1 : UInt64) : Int32 := (fX0_sampleFor_L2 sn me p1 65 (0 : Int32))
set_option maxHeartbeats 4000000 in
set_option maxRecDepth 100000 in
theorem c_X0_sampleFor {l : Launch} {D : va_G} {cyD cyI cyJ cyZ : ClassId} (ae av ab : Nat) (sn : Nat) (me : UInt64) (vf : Nat → UInt64) (lf : Nat → Int32) (sp : UInt64) (sb : UInt64) (no : UInt64) (sz : Nat) (p1 : UInt64) (hE : okE sn me vf sp sb no) : mI l yX0_sampleFor wsX0_sampleFor ({ frames := 1, cells := 0, slots := 0, locals := 21 } : Room) D (kT cyD cyI cyJ cyZ) [.ref ae, .double p1] (wE cyD cyI cyJ cyZ ae av ab sn me vf lf sp sb no) (wE cyD cyI cyJ cyZ ae av ab sn me vf lf sp sb no) sz (fX0_sampleFor sn me p1) 0 0 := by
  refine Met.ofW (cc := cX0_sampleFor) (maxL := 4) (ret := (some .int)) (by decide) rfl ?_
  intro p e s m args below meth c s₁ B hml hv
  obtain ⟨rfl, hN, hsz, hP, hK, hD0⟩ := hv
  have hx := B.exec
  have hb := B.bytes
  have hr := B.returns
  have hts := atoms_spec (ws := wsX0_sampleFor) B.pre
  have hown : s.vm.findClass RX0 = some m.cls := findClass_of_methodNamed B.named
  have hlocks := B.notSynchronized
  subst hsz
  have hD := hD0.self (sz := s.heap.size)
  generalize hAe : va_A (wE cyD cyI cyJ cyZ ae av ab sn me vf lf sp sb no) s.heap.size = A at hD ⊢
  have hA : ∀ q : Nat, s.heap.size ≤ q → A q := fun q h => by rw [← hAe]; exact Or.inr h
  have hS : va_S A s.heap s.heap [] := va_S.rf
  have hP : va_P D vwCl (wE cyD cyI cyJ cyZ ae av ab sn me vf lf sp sb no) s.heap := hP
  have hl := lv_entry [.ref ae, .double p1] (n := 4) (Nat.le_of_ble_eq_true rfl)
  rw [lg_entry_eq]
  generalize (lg_sl [.ref ae, .double p1] ++ List.replicate (4 - (lg_sl [.ref ae, .double p1]).length) Slot.unset).toArray = ls at hl ⊢
  have hl : lv_has ls 4 [(0, .ref ae), (1, .double p1)] := hl
  obtain ⟨H, hHe⟩ : ∃ H : Heap, H = s.heap := ⟨_, rfl⟩
  have hP : va_P D vwCl (wE cyD cyI cyJ cyZ ae av ab sn me vf lf sp sb no) H := by rw [hHe]; exact hP
  have hS : va_S A s.heap H [] := by rw [hHe]; exact hS
  rw [← hHe]
  refine lv_iconst (v := 0) hx hb dX0_sampleFor_0 (by decide) ?_
  refine lv_istore_n (lv' := [(3, .int (0 : Int32)), (0, .ref ae), (1, .double p1)]) hx hb dX0_sampleFor_1 rfl hl (by decide) rfl (fun ls hl => ?_)
  have loop_2 : ∀ (k : Nat) (j : Nat) (H : Heap) (locs : List Loc), (j + k = 65) → (j < sn) → (fX0_sampleFor sn me p1) = fX0_sampleFor_L2 sn me p1 k ((nI j)) → va_P D vwCl (wE cyD cyI cyJ cyZ ae av ab sn me vf lf sp sb no) H → va_D A (wE cyD cyI cyJ cyZ ae av ab sn me vf lf sp sb no) → va_S A s.heap H locs → ∀ ls, lv_has ls 4 [(3, .int ((nI j))), (0, .ref ae), (1, .double p1)] → W p l e (headSpec wsX0_sampleFor ({ frames := 1, cells := 0, slots := 0, locals := 21 } : Room)).room s m ([.ref ae, .double p1] : List Value).toArray below meth c H locs 0 0 (MQ below (va_Qi (fun (r : Int32) (_ : Unit) => r = (fX0_sampleFor sn me p1)) (kE D (kT cyD cyI cyJ cyZ) (wE cyD cyI cyJ cyZ ae av ab sn me vf lf sp sb no) A) A) ([.ref ae, .double p1] : List Value).toArray s 0 0 A) (F0 m 2 ls []) := by
    intro k_2
    induction k_2 with
    | zero => intro j H locs hj hj2 hF hP hD hS ls hl; exact absurd hE.2.1 (by omega)
    | succ k_2 ih_2 =>
      intro j H locs hj hj2 hF hP hD hS ls hl
      have hs64 := hE.2.1
      refine lv_iload_n hx hb dX0_sampleFor_2 rfl (lv_at hl 0 rfl) ?_
      refine lv_aload_n hx hb dX0_sampleFor_3 rfl (lv_at hl 1 rfl) ?_
      refine va_get (D := D) (ci := 0) (v := .int (nI sn)) (C := RX0) (T := TX0) (N := 7) hx hb hts (fun _ h => (List.mem_cons_of_mem _ (List.mem_append_right _ h))) hown hK hP 0 rfl rfl 0 (by decide) (hts (.fieldLink RX0 34 "BottomWalks$Echoes" "samples" "I") (List.mem_of_getElem? (i := 1) rfl)) (fun _ h9 => h9) rfl dX0_sampleFor_4 ?_
      refine lv_iconst (v := 1) hx hb dX0_sampleFor_7 (by decide) ?_
      refine lv_isub hx hb dX0_sampleFor_8 ?_
      refine lv_icmp_ge (tgt := 28) hx hb dX0_sampleFor_9 (by decide) (fun c_9 => ?_) (fun c_9 => ?_)
      · refine lv_iload_n hx hb dX0_sampleFor_28 rfl (lv_at hl 0 rfl) ?_
        have hF9 : (fX0_sampleFor sn me p1) = (nI j) := by rw [hF, fX0_sampleFor_L2, if_pos c_9]
        have hP9 : va_P D vwCl (wE cyD cyI cyJ cyZ ae av ab sn me vf lf sp sb no) H := hP
        have hD9 : va_D A (wE cyD cyI cyJ cyZ ae av ab sn me vf lf sp sb no) := hD
        exact W.iret (v := (nI j)) hx hb hr (fun t ht hW => ⟨⟨(nI j), (), rfl, (by rw [hF9]), by rw [ht]; exact hP9, va_K.moved hW.alike hK, hD9⟩, hS.F ht⟩) hS.2.2 dX0_sampleFor_29
      refine lv_aload_n hx hb dX0_sampleFor_12 rfl (lv_at hl 1 rfl) ?_
      refine lv_iload_n hx hb dX0_sampleFor_13 rfl (lv_at hl 0 rfl) ?_
      have hPc : va_P D vwCl (wE cyD cyI cyJ cyZ ae av ab sn me vf lf sp sb no) H := hP.sub [0, 1, 2] rfl
      have hDc : va_D A (wE cyD cyI cyJ cyZ ae av ab sn me vf lf sp sb no) := hD.sub [0, 1, 2] (by decide) rfl
      refine kdE (ws' := (wE cyD cyI cyJ cyZ ae av ab sn me vf lf sp sb no)) (wc := (wE cyD cyI cyJ cyZ ae av ab sn me vf lf sp sb no)) (wr := []) (w1 := (wE cyD cyI cyJ cyZ ae av ab sn me vf lf sp sb no)) (va_runV (As := [.int ((nI j))]) (rest := []) ⟨hx, hb, hml, hown, hts⟩ (c_X0_range (l := l) (D := D) (cyD := cyD) (cyI := cyI) (cyJ := cyJ) (cyZ := cyZ) ae av ab sn me vf lf sp sb no H.size ((nI j)) hE.2.2.1) (cwV 1 hts gX0_sampleFor_X0_range rfl rfl rfl (by decide +kernel) ⟨Nat.le_of_ble_eq_true rfl, Nat.le_of_ble_eq_true rfl⟩) (kV (ci := 0) (q0 := 0) (q := (RX0, TX0, 7)) hN hK hPc hDc rfl rfl rfl) rfl rfl hl.1 rfl (lv_room (Nat.le_of_ble_eq_true rfl)) dX0_sampleFor_14 ⟨Nat.le_of_ble_eq_true rfl, Nat.le_of_ble_eq_true rfl⟩) hP hD hS hA [0, 1, 2] [] [0, 1, 2] rfl rfl (by decide) (by decide) rfl (by decide) (fun H locs hP hD hS => ?_)
      refine lv_dload_n hx hb dX0_sampleFor_17 rfl (lv_at hl 2 rfl) ?_
      refine lv_dcmp hx hb dX0_sampleFor_18 ?_
      refine lv_if_ge (tgt := 28) hx hb dX0_sampleFor_19 (by decide) (fun c_19 => ?_) (fun c_19 => ?_)
      · refine lv_iload_n hx hb dX0_sampleFor_28 rfl (lv_at hl 0 rfl) ?_
        have hF9 : (fX0_sampleFor sn me p1) = (nI j) := by rw [hF, fX0_sampleFor_L2, if_neg c_9, if_pos c_19]
        have hP9 : va_P D vwCl (wE cyD cyI cyJ cyZ ae av ab sn me vf lf sp sb no) H := hP
        have hD9 : va_D A (wE cyD cyI cyJ cyZ ae av ab sn me vf lf sp sb no) := hD
        exact W.iret (v := (nI j)) hx hb hr (fun t ht hW => ⟨⟨(nI j), (), rfl, (by rw [hF9]), by rw [ht]; exact hP9, va_K.moved hW.alike hK, hD9⟩, hS.F ht⟩) hS.2.2 dX0_sampleFor_29
      refine lv_iinc (v := (((nI j)) + 1)) (lv' := [(3, .int (((nI j)) + 1)), (0, .ref ae), (1, .double p1)]) hx hb dX0_sampleFor_22 hl (k := 0) rfl rfl (by decide) rfl (fun ls hl => ?_)
      refine lv_goto (tgt := 2) hx hb dX0_sampleFor_25 (by decide) ?_
      exact ih_2 (j + 1) _ _ (by omega) (by rw [nI_sub1 hE.1] at c_9; have := Nat.lt_of_not_le (fun q => c_9 (nI_le q (by omega))); omega) (by rw [← nI_1 j]; rw [hF, fX0_sampleFor_L2, if_neg c_9, if_neg c_19]) hP hD hS _ (by rw [← nI_1 j]; exact lv_sub hl [0, 1, 2] rfl)
  exact loop_2 65 0 _ _ rfl (by have := hE.1; omega) (by rw [nI_0]; rw [fX0_sampleFor]) hP hD hS _ (by exact lv_sub hl [0, 1, 2] rfl)
def fX0_strength (sn : Nat) (me : UInt64) (vf : Nat → UInt64) (lf : Nat → Int32) (sp : UInt64) (sb : UInt64) (no : UInt64) (p1 : Int32) (p2 : Int32) (p3 : Int32) : Int64 := if (fX0_placeOf sn p1 p2 p3) = (-1 : Int32) then (0 : Int64) else (if (Op.cmpValue (FP.dcmp (vf (fX0_placeOf sn p1 p2 p3).toNatClampNeg) FP.dconst0) CmpOp.g) < 0 then (0 : Int64) else (if (fX0_isLost lf p2) = 0 then (if (FP.d2l (FP.dsub (FP.dadd (FP.dadd (vf (fX0_placeOf sn p1 p2 p3).toNatClampNeg) (FP.dmul sp (fX0_range me p3))) (FP.dmul (FP.dmul (FP.dmul sb (fX0_range me p3)) (fX0_range me p3)) (4562254508917369340 : UInt64))) no)) < (0 : Int64) then (0 : Int64) else (FP.d2l (FP.dsub (FP.dadd (FP.dadd (vf (fX0_placeOf sn p1 p2 p3).toNatClampNeg) (FP.dmul sp (fX0_range me p3))) (FP.dmul (FP.dmul (FP.dmul sb (fX0_range me p3)) (fX0_range me p3)) (4562254508917369340 : UInt64))) no))) else ((0 : Int64))))
set_option maxHeartbeats 4000000 in
set_option maxRecDepth 100000 in
theorem c_X0_strength {l : Launch} {D : va_G} {cyD cyI cyJ cyZ : ClassId} (ae av ab : Nat) (sn : Nat) (me : UInt64) (vf : Nat → UInt64) (lf : Nat → Int32) (sp : UInt64) (sb : UInt64) (no : UInt64) (sz : Nat) (p1 : Int32) (p2 : Int32) (p3 : Int32) (hE : okE sn me vf sp sb no) : mL l yX0_strength wsX0_strength ({ frames := 2, cells := 0, slots := 0, locals := 44 } : Room) D (kT cyD cyI cyJ cyZ) [.ref ae, .int p1, .int p2, .int p3] (wE cyD cyI cyJ cyZ ae av ab sn me vf lf sp sb no) (wE cyD cyI cyJ cyZ ae av ab sn me vf lf sp sb no) sz (fX0_strength sn me vf lf sp sb no p1 p2 p3) 0 0 := by
  refine Met.ofW (cc := cX0_strength) (maxL := 9) (ret := (some .long)) (by decide) rfl ?_
  intro p e s m args below meth c s₁ B hml hv
  obtain ⟨rfl, hN, hsz, hP, hK, hD0⟩ := hv
  have hx := B.exec
  have hb := B.bytes
  have hr := B.returns
  have hts := atoms_spec (ws := wsX0_strength) B.pre
  have hown : s.vm.findClass RX0 = some m.cls := findClass_of_methodNamed B.named
  have hlocks := B.notSynchronized
  subst hsz
  have hD := hD0.self (sz := s.heap.size)
  generalize hAe : va_A (wE cyD cyI cyJ cyZ ae av ab sn me vf lf sp sb no) s.heap.size = A at hD ⊢
  have hA : ∀ q : Nat, s.heap.size ≤ q → A q := fun q h => by rw [← hAe]; exact Or.inr h
  have hS : va_S A s.heap s.heap [] := va_S.rf
  have hP : va_P D vwCl (wE cyD cyI cyJ cyZ ae av ab sn me vf lf sp sb no) s.heap := hP
  have hl := lv_entry [.ref ae, .int p1, .int p2, .int p3] (n := 9) (Nat.le_of_ble_eq_true rfl)
  rw [lg_entry_eq]
  generalize (lg_sl [.ref ae, .int p1, .int p2, .int p3] ++ List.replicate (9 - (lg_sl [.ref ae, .int p1, .int p2, .int p3]).length) Slot.unset).toArray = ls at hl ⊢
  have hl : lv_has ls 9 [(0, .ref ae), (1, .int p1), (2, .int p2), (3, .int p3)] := hl
  obtain ⟨H, hHe⟩ : ∃ H : Heap, H = s.heap := ⟨_, rfl⟩
  have hP : va_P D vwCl (wE cyD cyI cyJ cyZ ae av ab sn me vf lf sp sb no) H := by rw [hHe]; exact hP
  have hS : va_S A s.heap H [] := by rw [hHe]; exact hS
  rw [← hHe]
  refine lv_aload_n hx hb dX0_strength_0 rfl (lv_at hl 0 rfl) ?_
  refine lv_iload_n hx hb dX0_strength_1 rfl (lv_at hl 1 rfl) ?_
  refine lv_iload_n hx hb dX0_strength_2 rfl (lv_at hl 2 rfl) ?_
  refine lv_iload_n hx hb dX0_strength_3 rfl (lv_at hl 3 rfl) ?_
  have hPc : va_P D vwCl (wE cyD cyI cyJ cyZ ae av ab sn me vf lf sp sb no) H := hP.sub [0, 1, 2] rfl
  have hDc : va_D A (wE cyD cyI cyJ cyZ ae av ab sn me vf lf sp sb no) := hD.sub [0, 1, 2] (by decide) rfl
  refine kiE (ws' := (wE cyD cyI cyJ cyZ ae av ab sn me vf lf sp sb no)) (wc := (wE cyD cyI cyJ cyZ ae av ab sn me vf lf sp sb no)) (wr := []) (w1 := (wE cyD cyI cyJ cyZ ae av ab sn me vf lf sp sb no)) (va_runV (As := [.int p1, .int p2, .int p3]) (rest := []) ⟨hx, hb, hml, hown, hts⟩ (c_X0_placeOf (l := l) (D := D) (cyD := cyD) (cyI := cyI) (cyJ := cyJ) (cyZ := cyZ) ae av ab sn me vf lf sp sb no H.size p1 p2 p3) (cwV 3 hts gX0_strength_X0_placeOf rfl rfl rfl (by decide +kernel) ⟨Nat.le_of_ble_eq_true rfl, Nat.le_of_ble_eq_true rfl⟩) (kV (ci := 0) (q0 := 0) (q := (RX0, TX0, 7)) hN hK hPc hDc rfl rfl rfl) rfl rfl hl.1 rfl (lv_room (Nat.le_of_ble_eq_true rfl)) dX0_strength_4 ⟨Nat.le_of_ble_eq_true rfl, Nat.le_of_ble_eq_true rfl⟩) hP hD hS hA [0, 1, 2] [] [0, 1, 2] rfl rfl (by decide) (by decide) rfl (by decide) (fun H locs hP hD hS => ?_)
  refine lv_istore (lv' := [(4, .int (fX0_placeOf sn p1 p2 p3)), (0, .ref ae), (1, .int p1), (2, .int p2), (3, .int p3)]) hx hb dX0_strength_7 hl (by decide) rfl (fun ls hl => ?_)
  refine lv_iload hx hb dX0_strength_9 (lv_at hl 0 rfl) ?_
  refine lv_iconst (v := (-1)) hx hb dX0_strength_11 (by decide) ?_
  refine lv_icmp_eq (tgt := 35) hx hb dX0_strength_12 (by decide) (fun c_12 => ?_) (fun c_12 => ?_)
  · refine lv_lconst (v := 0) hx hb dX0_strength_35 rfl ?_
    have hF9 : (fX0_strength sn me vf lf sp sb no p1 p2 p3) = (0 : Int64) := by rw [fX0_strength, if_pos c_12]
    have hP9 : va_P D vwCl (wE cyD cyI cyJ cyZ ae av ab sn me vf lf sp sb no) H := hP
    have hD9 : va_D A (wE cyD cyI cyJ cyZ ae av ab sn me vf lf sp sb no) := hD
    exact W.lret (v := (0 : Int64)) hx hb hr (fun t ht hW => ⟨⟨(0 : Int64), (), rfl, (by rw [hF9]), by rw [ht]; exact hP9, va_K.moved hW.alike hK, hD9⟩, hS.F ht⟩) hS.2.2 dX0_strength_36
  refine lv_aload_n hx hb dX0_strength_15 rfl (lv_at hl 1 rfl) ?_
  refine va_get (D := D) (ci := 0) (v := .ref av) (C := RX0) (T := TX0) (N := 7) hx hb hts (fun _ h => (List.mem_cons_of_mem _ (List.mem_append_right _ h))) hown hK hP 0 rfl rfl 2 (by decide) (hts (.fieldLink RX0 43 "BottomWalks$Echoes" "values" "[D") (List.mem_of_getElem? (i := 1) rfl)) (fun _ h9 => h9) rfl dX0_strength_16 ?_
  refine lv_iload hx hb dX0_strength_19 (lv_at hl 0 rfl) ?_
  refine va_dald hx hb hK hP 1 0 rfl rfl (place_in hE.2.1 c_12) dX0_strength_21 ?_
  refine lv_dconst0 hx hb dX0_strength_22 ?_
  refine lv_dcmp hx hb dX0_strength_23 ?_
  refine lv_if_lt (tgt := 35) hx hb dX0_strength_24 (by decide) (fun c_24 => ?_) (fun c_24 => ?_)
  · refine lv_lconst (v := 0) hx hb dX0_strength_35 rfl ?_
    have hF9 : (fX0_strength sn me vf lf sp sb no p1 p2 p3) = (0 : Int64) := by rw [fX0_strength, if_neg c_12, if_pos c_24]
    have hP9 : va_P D vwCl (wE cyD cyI cyJ cyZ ae av ab sn me vf lf sp sb no) H := hP
    have hD9 : va_D A (wE cyD cyI cyJ cyZ ae av ab sn me vf lf sp sb no) := hD
    exact W.lret (v := (0 : Int64)) hx hb hr (fun t ht hW => ⟨⟨(0 : Int64), (), rfl, (by rw [hF9]), by rw [ht]; exact hP9, va_K.moved hW.alike hK, hD9⟩, hS.F ht⟩) hS.2.2 dX0_strength_36
  refine lv_aload_n hx hb dX0_strength_27 rfl (lv_at hl 1 rfl) ?_
  refine lv_iload_n hx hb dX0_strength_28 rfl (lv_at hl 3 rfl) ?_
  have hPc : va_P D vwCl (wE cyD cyI cyJ cyZ ae av ab sn me vf lf sp sb no) H := hP.sub [0, 1, 2] rfl
  have hDc : va_D A (wE cyD cyI cyJ cyZ ae av ab sn me vf lf sp sb no) := hD.sub [0, 1, 2] (by decide) rfl
  refine kzE (ws' := (wE cyD cyI cyJ cyZ ae av ab sn me vf lf sp sb no)) (wc := (wE cyD cyI cyJ cyZ ae av ab sn me vf lf sp sb no)) (wr := []) (w1 := (wE cyD cyI cyJ cyZ ae av ab sn me vf lf sp sb no)) (va_runV (As := [.int p2]) (rest := []) ⟨hx, hb, hml, hown, hts⟩ (c_X0_isLost (l := l) (D := D) (cyD := cyD) (cyI := cyI) (cyJ := cyJ) (cyZ := cyZ) ae av ab sn me vf lf sp sb no H.size p2) (cwV 1 hts gX0_strength_X0_isLost rfl rfl rfl (by decide +kernel) ⟨Nat.le_of_ble_eq_true rfl, Nat.le_of_ble_eq_true rfl⟩) (kV (ci := 0) (q0 := 0) (q := (RX0, TX0, 7)) hN hK hPc hDc rfl rfl rfl) rfl rfl hl.1 rfl (lv_room (Nat.le_of_ble_eq_true rfl)) dX0_strength_29 ⟨Nat.le_of_ble_eq_true rfl, Nat.le_of_ble_eq_true rfl⟩) hP hD hS hA [0, 1, 2] [] [0, 1, 2] rfl rfl (by decide) (by decide) rfl (by decide) (fun H locs hz_29 hP hD hS => ?_)
  refine lv_if_eq (tgt := 37) hx hb dX0_strength_32 (by decide) (fun c_32 => ?_) (fun c_32 => ?_)
  · refine lv_aload_n hx hb dX0_strength_37 rfl (lv_at hl 1 rfl) ?_
    refine lv_iload_n hx hb dX0_strength_38 rfl (lv_at hl 4 rfl) ?_
    have hPc : va_P D vwCl (wE cyD cyI cyJ cyZ ae av ab sn me vf lf sp sb no) H := hP.sub [0, 1, 2] rfl
    have hDc : va_D A (wE cyD cyI cyJ cyZ ae av ab sn me vf lf sp sb no) := hD.sub [0, 1, 2] (by decide) rfl
    refine kdE (ws' := (wE cyD cyI cyJ cyZ ae av ab sn me vf lf sp sb no)) (wc := (wE cyD cyI cyJ cyZ ae av ab sn me vf lf sp sb no)) (wr := []) (w1 := (wE cyD cyI cyJ cyZ ae av ab sn me vf lf sp sb no)) (va_runV (As := [.int p3]) (rest := []) ⟨hx, hb, hml, hown, hts⟩ (c_X0_range (l := l) (D := D) (cyD := cyD) (cyI := cyI) (cyJ := cyJ) (cyZ := cyZ) ae av ab sn me vf lf sp sb no H.size p3 hE.2.2.1) (cwV 1 hts gX0_strength_X0_range rfl rfl rfl (by decide +kernel) ⟨Nat.le_of_ble_eq_true rfl, Nat.le_of_ble_eq_true rfl⟩) (kV (ci := 0) (q0 := 0) (q := (RX0, TX0, 7)) hN hK hPc hDc rfl rfl rfl) rfl rfl hl.1 rfl (lv_room (Nat.le_of_ble_eq_true rfl)) dX0_strength_39 ⟨Nat.le_of_ble_eq_true rfl, Nat.le_of_ble_eq_true rfl⟩) hP hD hS hA [0, 1, 2] [] [0, 1, 2] rfl rfl (by decide) (by decide) rfl (by decide) (fun H locs hP hD hS => ?_)
    refine lv_dstore (lv' := [(5, .double (fX0_range me p3)), (4, .int (fX0_placeOf sn p1 p2 p3)), (0, .ref ae), (1, .int p1), (2, .int p2), (3, .int p3)]) hx hb dX0_strength_42 hl (by decide) rfl (fun ls hl => ?_)
    refine lv_aload_n hx hb dX0_strength_44 rfl (lv_at hl 2 rfl) ?_
    refine va_get (D := D) (ci := 0) (v := .ref av) (C := RX0) (T := TX0) (N := 7) hx hb hts (fun _ h => (List.mem_cons_of_mem _ (List.mem_append_right _ h))) hown hK hP 0 rfl rfl 2 (by decide) (hts (.fieldLink RX0 43 "BottomWalks$Echoes" "values" "[D") (List.mem_of_getElem? (i := 1) rfl)) (fun _ h9 => h9) rfl dX0_strength_45 ?_
    refine lv_iload hx hb dX0_strength_48 (lv_at hl 1 rfl) ?_
    refine va_dald hx hb hK hP 1 0 rfl rfl (place_in hE.2.1 c_12) dX0_strength_50 ?_
    refine lv_aload_n hx hb dX0_strength_51 rfl (lv_at hl 2 rfl) ?_
    refine va_get (D := D) (ci := 0) (v := .double sp) (C := RX0) (T := TX0) (N := 7) hx hb hts (fun _ h => (List.mem_cons_of_mem _ (List.mem_append_right _ h))) hown hK hP 0 rfl rfl 4 (by decide) (hts (.fieldLink RX0 15 "BottomWalks$Echoes" "spread" "D") (List.mem_of_getElem? (i := 2) rfl)) (fun _ h9 => h9) rfl dX0_strength_52 ?_
    refine lv_dload hx hb dX0_strength_55 (lv_at hl 0 rfl) ?_
    refine lv_dmul hx hb dX0_strength_57 (bd_n (bd_mul (Ka := 1027) (Kb := 1064) (K := 1069) hE.2.2.2.2.1 (bd_mul (Ka := 1056) (Kb := 1030) (K := 1064) (bd_i2d _) hE.2.2.1 (by decide) (by decide) (by decide)) (by decide) (by decide) (by decide)) (by decide)) ?_
    refine lv_dadd hx hb dX0_strength_58 (bd_n (bd_add (Ka := 1033) (Kb := 1069) (K := 1071) (place_bd hE.2.1 c_12 hE.2.2.2.1) (bd_mul (Ka := 1027) (Kb := 1064) (K := 1069) hE.2.2.2.2.1 (bd_mul (Ka := 1056) (Kb := 1030) (K := 1064) (bd_i2d _) hE.2.2.1 (by decide) (by decide) (by decide)) (by decide) (by decide) (by decide)) (by decide) (by decide) (by decide) (by decide)) (by decide)) ?_
    refine lv_aload_n hx hb dX0_strength_59 rfl (lv_at hl 2 rfl) ?_
    refine va_get (D := D) (ci := 0) (v := .double sb) (C := RX0) (T := TX0) (N := 7) hx hb hts (fun _ h => (List.mem_cons_of_mem _ (List.mem_append_right _ h))) hown hK hP 0 rfl rfl 5 (by decide) (hts (.fieldLink RX0 19 "BottomWalks$Echoes" "absorb" "D") (List.mem_of_getElem? (i := 3) rfl)) (fun _ h9 => h9) rfl dX0_strength_60 ?_
    refine lv_dload hx hb dX0_strength_63 (lv_at hl 0 rfl) ?_
    refine lv_dmul hx hb dX0_strength_65 (bd_n (bd_mul (Ka := 1027) (Kb := 1064) (K := 1069) hE.2.2.2.2.2.1 (bd_mul (Ka := 1056) (Kb := 1030) (K := 1064) (bd_i2d _) hE.2.2.1 (by decide) (by decide) (by decide)) (by decide) (by decide) (by decide)) (by decide)) ?_
    refine lv_dload hx hb dX0_strength_66 (lv_at hl 0 rfl) ?_
    refine lv_dmul hx hb dX0_strength_68 (bd_n (bd_mul (Ka := 1069) (Kb := 1064) (K := 1111) (bd_mul (Ka := 1027) (Kb := 1064) (K := 1069) hE.2.2.2.2.2.1 (bd_mul (Ka := 1056) (Kb := 1030) (K := 1064) (bd_i2d _) hE.2.2.1 (by decide) (by decide) (by decide)) (by decide) (by decide) (by decide)) (bd_mul (Ka := 1056) (Kb := 1030) (K := 1064) (bd_i2d _) hE.2.2.1 (by decide) (by decide) (by decide)) (by decide) (by decide) (by decide)) (by decide)) ?_
    refine lv_ldc2d (v := 4562254508917369340) hx hb hown (hts (.constantDouble RX0 76 (4562254508917369340)) (List.mem_of_getElem? (i := 4) rfl)) dX0_strength_69 ?_
    refine lv_dmul hx hb dX0_strength_72 (bd_n (bd_mul (Ka := 1111) (Kb := 1014) (K := 1103) (bd_mul (Ka := 1069) (Kb := 1064) (K := 1111) (bd_mul (Ka := 1027) (Kb := 1064) (K := 1069) hE.2.2.2.2.2.1 (bd_mul (Ka := 1056) (Kb := 1030) (K := 1064) (bd_i2d _) hE.2.2.1 (by decide) (by decide) (by decide)) (by decide) (by decide) (by decide)) (bd_mul (Ka := 1056) (Kb := 1030) (K := 1064) (bd_i2d _) hE.2.2.1 (by decide) (by decide) (by decide)) (by decide) (by decide) (by decide)) (by decide) (by decide) (by decide) (by decide)) (by decide)) ?_
    refine lv_dadd hx hb dX0_strength_73 (bd_n (bd_add (Ka := 1071) (Kb := 1103) (K := 1105) (bd_add (Ka := 1033) (Kb := 1069) (K := 1071) (place_bd hE.2.1 c_12 hE.2.2.2.1) (bd_mul (Ka := 1027) (Kb := 1064) (K := 1069) hE.2.2.2.2.1 (bd_mul (Ka := 1056) (Kb := 1030) (K := 1064) (bd_i2d _) hE.2.2.1 (by decide) (by decide) (by decide)) (by decide) (by decide) (by decide)) (by decide) (by decide) (by decide) (by decide)) (bd_mul (Ka := 1111) (Kb := 1014) (K := 1103) (bd_mul (Ka := 1069) (Kb := 1064) (K := 1111) (bd_mul (Ka := 1027) (Kb := 1064) (K := 1069) hE.2.2.2.2.2.1 (bd_mul (Ka := 1056) (Kb := 1030) (K := 1064) (bd_i2d _) hE.2.2.1 (by decide) (by decide) (by decide)) (by decide) (by decide) (by decide)) (bd_mul (Ka := 1056) (Kb := 1030) (K := 1064) (bd_i2d _) hE.2.2.1 (by decide) (by decide) (by decide)) (by decide) (by decide) (by decide)) (by decide) (by decide) (by decide) (by decide)) (by decide) (by decide) (by decide) (by decide)) (by decide)) ?_
    refine lv_aload_n hx hb dX0_strength_74 rfl (lv_at hl 2 rfl) ?_
    refine va_get (D := D) (ci := 0) (v := .double no) (C := RX0) (T := TX0) (N := 7) hx hb hts (fun _ h => (List.mem_cons_of_mem _ (List.mem_append_right _ h))) hown hK hP 0 rfl rfl 6 (by decide) (hts (.fieldLink RX0 22 "BottomWalks$Echoes" "noiseLevel" "D") (List.mem_of_getElem? (i := 5) rfl)) (fun _ h9 => h9) rfl dX0_strength_75 ?_
    refine lv_dsub hx hb dX0_strength_78 (bd_n (bd_sub (Ka := 1105) (Kb := 1033) (K := 1107) (bd_add (Ka := 1071) (Kb := 1103) (K := 1105) (bd_add (Ka := 1033) (Kb := 1069) (K := 1071) (place_bd hE.2.1 c_12 hE.2.2.2.1) (bd_mul (Ka := 1027) (Kb := 1064) (K := 1069) hE.2.2.2.2.1 (bd_mul (Ka := 1056) (Kb := 1030) (K := 1064) (bd_i2d _) hE.2.2.1 (by decide) (by decide) (by decide)) (by decide) (by decide) (by decide)) (by decide) (by decide) (by decide) (by decide)) (bd_mul (Ka := 1111) (Kb := 1014) (K := 1103) (bd_mul (Ka := 1069) (Kb := 1064) (K := 1111) (bd_mul (Ka := 1027) (Kb := 1064) (K := 1069) hE.2.2.2.2.2.1 (bd_mul (Ka := 1056) (Kb := 1030) (K := 1064) (bd_i2d _) hE.2.2.1 (by decide) (by decide) (by decide)) (by decide) (by decide) (by decide)) (bd_mul (Ka := 1056) (Kb := 1030) (K := 1064) (bd_i2d _) hE.2.2.1 (by decide) (by decide) (by decide)) (by decide) (by decide) (by decide)) (by decide) (by decide) (by decide) (by decide)) (by decide) (by decide) (by decide) (by decide)) hE.2.2.2.2.2.2 (by decide) (by decide) (by decide) (by decide)) (by decide)) ?_
    refine lv_d2l hx hb dX0_strength_79 ?_
    refine lv_lstore (lv' := [(7, .long (FP.d2l (FP.dsub (FP.dadd (FP.dadd (vf (fX0_placeOf sn p1 p2 p3).toNatClampNeg) (FP.dmul sp (fX0_range me p3))) (FP.dmul (FP.dmul (FP.dmul sb (fX0_range me p3)) (fX0_range me p3)) (4562254508917369340 : UInt64))) no))), (5, .double (fX0_range me p3)), (4, .int (fX0_placeOf sn p1 p2 p3)), (0, .ref ae), (1, .int p1), (2, .int p2), (3, .int p3)]) hx hb dX0_strength_80 hl (by decide) rfl (fun ls hl => ?_)
    refine lv_lconst (v := 0) hx hb dX0_strength_82 rfl ?_
    refine lv_lload hx hb dX0_strength_83 (lv_at hl 0 rfl) ?_
    refine va_mmax_long hx hb (hml.trans hl.1.symm) hown (hts (.methodLink RX0 78 Lib.MathLoose.max_long.x) (List.mem_of_getElem? (i := 6) rfl)) (hts (.static Lib.MathLoose.max_long.x) (List.mem_of_getElem? (i := 7) rfl)) (hts (.initialized "java/lang/Math") (List.mem_of_getElem? (i := 8) rfl)) (hts (.code Lib.MathLoose.max_long.x Lib.MathLoose.max_long.code 4 (some .long)) (List.mem_of_getElem? (i := 9) rfl)) (Nat.le_of_ble_eq_true rfl) (Nat.le_of_ble_eq_true rfl) (Nat.le_of_ble_eq_true rfl) (Nat.le_of_ble_eq_true rfl) dX0_strength_85 ?_
    have hF9 : (fX0_strength sn me vf lf sp sb no p1 p2 p3) = (if (FP.d2l (FP.dsub (FP.dadd (FP.dadd (vf (fX0_placeOf sn p1 p2 p3).toNatClampNeg) (FP.dmul sp (fX0_range me p3))) (FP.dmul (FP.dmul (FP.dmul sb (fX0_range me p3)) (fX0_range me p3)) (4562254508917369340 : UInt64))) no)) < (0 : Int64) then (0 : Int64) else (FP.d2l (FP.dsub (FP.dadd (FP.dadd (vf (fX0_placeOf sn p1 p2 p3).toNatClampNeg) (FP.dmul sp (fX0_range me p3))) (FP.dmul (FP.dmul (FP.dmul sb (fX0_range me p3)) (fX0_range me p3)) (4562254508917369340 : UInt64))) no))) := by rw [fX0_strength, if_neg c_12, if_neg c_24, if_pos c_32]
    have hP9 : va_P D vwCl (wE cyD cyI cyJ cyZ ae av ab sn me vf lf sp sb no) H := hP
    have hD9 : va_D A (wE cyD cyI cyJ cyZ ae av ab sn me vf lf sp sb no) := hD
    exact W.lret (v := (if (FP.d2l (FP.dsub (FP.dadd (FP.dadd (vf (fX0_placeOf sn p1 p2 p3).toNatClampNeg) (FP.dmul sp (fX0_range me p3))) (FP.dmul (FP.dmul (FP.dmul sb (fX0_range me p3)) (fX0_range me p3)) (4562254508917369340 : UInt64))) no)) < (0 : Int64) then (0 : Int64) else (FP.d2l (FP.dsub (FP.dadd (FP.dadd (vf (fX0_placeOf sn p1 p2 p3).toNatClampNeg) (FP.dmul sp (fX0_range me p3))) (FP.dmul (FP.dmul (FP.dmul sb (fX0_range me p3)) (fX0_range me p3)) (4562254508917369340 : UInt64))) no)))) hx hb hr (fun t ht hW => ⟨⟨(if (FP.d2l (FP.dsub (FP.dadd (FP.dadd (vf (fX0_placeOf sn p1 p2 p3).toNatClampNeg) (FP.dmul sp (fX0_range me p3))) (FP.dmul (FP.dmul (FP.dmul sb (fX0_range me p3)) (fX0_range me p3)) (4562254508917369340 : UInt64))) no)) < (0 : Int64) then (0 : Int64) else (FP.d2l (FP.dsub (FP.dadd (FP.dadd (vf (fX0_placeOf sn p1 p2 p3).toNatClampNeg) (FP.dmul sp (fX0_range me p3))) (FP.dmul (FP.dmul (FP.dmul sb (fX0_range me p3)) (fX0_range me p3)) (4562254508917369340 : UInt64))) no))), (), rfl, (by rw [hF9]), by rw [ht]; exact hP9, va_K.moved hW.alike hK, hD9⟩, hS.F ht⟩) hS.2.2 dX0_strength_88
  refine lv_lconst (v := 0) hx hb dX0_strength_35 rfl ?_
  have hF9 : (fX0_strength sn me vf lf sp sb no p1 p2 p3) = (0 : Int64) := by rw [fX0_strength, if_neg c_12, if_neg c_24, if_neg c_32]
  have hP9 : va_P D vwCl (wE cyD cyI cyJ cyZ ae av ab sn me vf lf sp sb no) H := hP
  have hD9 : va_D A (wE cyD cyI cyJ cyZ ae av ab sn me vf lf sp sb no) := hD
  exact W.lret (v := (0 : Int64)) hx hb hr (fun t ht hW => ⟨⟨(0 : Int64), (), rfl, (by rw [hF9]), by rw [ht]; exact hP9, va_K.moved hW.alike hK, hD9⟩, hS.F ht⟩) hS.2.2 dX0_strength_36
