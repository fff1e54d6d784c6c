def fX2_wasFound (fo : Int32)  : Int32 := fo
set_option maxHeartbeats 4000000 in
set_option maxRecDepth 100000 in
theorem c_X2_wasFound {l : Launch} {D : va_G} {cyD cyI cyJ cyZ : ClassId} (aw ad ak ar au ae av ab : Nat) (df : Nat → UInt64) (kf : Nat → Int32) (rf : Nat → Int32) (uf : Nat → Int64) (st : Int32) (fw : Int32) (fo : Int32) (sn : Nat) (me : UInt64) (vf : Nat → UInt64) (lf : Nat → Int32) (sp : UInt64) (sb : UInt64) (no : UInt64) (sz : Nat)  (hfo : fo = 0 ∨ fo = 1) : mZ l yX2_wasFound wsX2_wasFound ({ frames := 0, cells := 0, slots := 0, locals := 0 } : Room) D (kT cyD cyI cyJ cyZ) [.ref aw] (wW cyD cyI cyJ cyZ aw ad ak ar au ae av ab df kf rf uf st fw fo sn me vf lf sp sb no) (wW cyD cyI cyJ cyZ aw ad ak ar au ae av ab df kf rf uf st fw fo sn me vf lf sp sb no) sz (fX2_wasFound fo) 0 0 := by
  refine Met.ofW (cc := cX2_wasFound) (maxL := 1) (ret := (some .boolean)) (by decide) rfl ?_
  intro p e s m args below meth c s₁ B hml hv
  obtain ⟨rfl, hN, hsz, hP, hK, hD0⟩ := hv
  have hx := B.exec
  have hb := B.bytes
  have hr := B.returns
  have hts := atoms_spec (ws := wsX2_wasFound) B.pre
  have hown : s.vm.findClass RX2 = some m.cls := findClass_of_methodNamed B.named
  have hlocks := B.notSynchronized
  subst hsz
  have hD := hD0.self (sz := s.heap.size)
  generalize hAe : va_A (wW cyD cyI cyJ cyZ aw ad ak ar au ae av ab df kf rf uf st fw fo sn me vf lf sp sb no) s.heap.size = A at hD ⊢
  have hA : ∀ q : Nat, s.heap.size ≤ q → A q := fun q h => by rw [← hAe]; exact Or.inr h
  have hS : va_S A s.heap s.heap [] := va_S.rf
  have hP : va_P D vwCl (wW cyD cyI cyJ cyZ aw ad ak ar au ae av ab df kf rf uf st fw fo sn me vf lf sp sb no) s.heap := hP
  have hl := lv_entry [.ref aw] (n := 1) (Nat.le_of_ble_eq_true rfl)
  rw [lg_entry_eq]
  generalize (lg_sl [.ref aw] ++ List.replicate (1 - (lg_sl [.ref aw]).length) Slot.unset).toArray = ls at hl ⊢
  have hl : lv_has ls 1 [(0, .ref aw)] := hl
  obtain ⟨H, hHe⟩ : ∃ H : Heap, H = s.heap := ⟨_, rfl⟩
  have hP : va_P D vwCl (wW cyD cyI cyJ cyZ aw ad ak ar au ae av ab df kf rf uf st fw fo sn me vf lf sp sb no) H := by rw [hHe]; exact hP
  have hS : va_S A s.heap H [] := by rw [hHe]; exact hS
  rw [← hHe]
  refine lv_aload_n hx hb dX2_wasFound_0 rfl (lv_at hl 0 rfl) ?_
  refine va_get (D := D) (ci := 2) (v := .int fo) (C := RX2) (T := TX2) (N := 8) hx hb hts (fun _ h => (List.mem_cons_of_mem _ (List.mem_append_right _ h))) hown hK hP 0 rfl rfl 7 (by decide) (hts (.fieldLink RX2 30 "BottomWalks$Walk" "found" "Z") (List.mem_of_getElem? (i := 1) rfl)) (fun _ h9 => h9) rfl dX2_wasFound_1 ?_
  have hF9 : (fX2_wasFound fo) = fo := by rw [fX2_wasFound]
  have hP9 : va_P D vwCl (wW cyD cyI cyJ cyZ aw ad ak ar au ae av ab df kf rf uf st fw fo sn me vf lf sp sb no) H := hP
  have hD9 : va_D A (wW cyD cyI cyJ cyZ aw ad ak ar au ae av ab df kf rf uf st fw fo sn me vf lf sp sb no) := hD
  exact W.zret (v := fo) hx hb hr (nar_z hfo) (fun t ht hW => ⟨⟨fo, (), rfl, ⟨(by rw [hF9]), hfo⟩, by rw [ht]; exact hP9, va_K.moved hW.alike hK, hD9⟩, hS.F ht⟩) hS.2.2 dX2_wasFound_4
def fX2_tellDepth (df : Nat → UInt64) (p1 : Int32) (p2 : UInt64) : Int32 × (Nat → UInt64) := if (fX3_isPing p1) = 0 then ((0 : Int32), df) else (if (fX3_within p2 FP.dconst0 (4666723172467343360 : UInt64)) = 0 then ((0 : Int32), df) else (((1 : Int32), (vf_upd df p1.toNatClampNeg p2))))
set_option maxHeartbeats 4000000 in
set_option maxRecDepth 100000 in
theorem c_X2_tellDepth {l : Launch} {D : va_G} {cyD cyI cyJ cyZ : ClassId} (aw ad ak ar au ae av ab : Nat) (df : Nat → UInt64) (kf : Nat → Int32) (rf : Nat → Int32) (uf : Nat → Int64) (st : Int32) (fw : Int32) (fo : Int32) (sn : Nat) (me : UInt64) (vf : Nat → UInt64) (lf : Nat → Int32) (sp : UInt64) (sb : UInt64) (no : UInt64) (sz : Nat) (p1 : Int32) (p2 : UInt64)  : mZ l yX2_tellDepth wsX2_tellDepth ({ frames := 1, cells := 0, slots := 0, locals := 25 } : Room) D (kT cyD cyI cyJ cyZ) [.ref aw, .int p1, .double p2] (wW cyD cyI cyJ cyZ aw ad ak ar au ae av ab df kf rf uf st fw fo sn me vf lf sp sb no) (wW cyD cyI cyJ cyZ aw ad ak ar au ae av ab ((fX2_tellDepth df p1 p2).2) kf rf uf st fw fo sn me vf lf sp sb no) sz ((fX2_tellDepth df p1 p2).1) 0 0 := by
  refine Met.ofW (cc := cX2_tellDepth) (maxL := 4) (ret := (some .boolean)) (by decide) rfl ?_
  intro p e s m args below meth c s₁ B hml hv
  obtain ⟨rfl, hN, hsz, hP, hK, hD0⟩ := hv
  have hx := B.exec
  have hb := B.bytes
  have hr := B.returns
  have hts := atoms_spec (ws := wsX2_tellDepth) B.pre
  have hown : s.vm.findClass RX2 = some m.cls := findClass_of_methodNamed B.named
  have hlocks := B.notSynchronized
  subst hsz
  have hD := hD0.self (sz := s.heap.size)
  generalize hAe : va_A (wW cyD cyI cyJ cyZ aw ad ak ar au ae av ab df kf rf uf st fw fo sn me vf lf sp sb no) s.heap.size = A at hD ⊢
  have hA : ∀ q : Nat, s.heap.size ≤ q → A q := fun q h => by rw [← hAe]; exact Or.inr h
  have hS : va_S A s.heap s.heap [] := va_S.rf
  have hP : va_P D vwCl (wW cyD cyI cyJ cyZ aw ad ak ar au ae av ab df kf rf uf st fw fo sn me vf lf sp sb no) s.heap := hP
  have hl := lv_entry [.ref aw, .int p1, .double p2] (n := 4) (Nat.le_of_ble_eq_true rfl)
  rw [lg_entry_eq]
  generalize (lg_sl [.ref aw, .int p1, .double p2] ++ List.replicate (4 - (lg_sl [.ref aw, .int p1, .double p2]).length) Slot.unset).toArray = ls at hl ⊢
  have hl : lv_has ls 4 [(0, .ref aw), (1, .int p1), (2, .double p2)] := hl
  obtain ⟨H, hHe⟩ : ∃ H : Heap, H = s.heap := ⟨_, rfl⟩
  have hP : va_P D vwCl (wW cyD cyI cyJ cyZ aw ad ak ar au ae av ab df kf rf uf st fw fo sn me vf lf sp sb no) H := by rw [hHe]; exact hP
  have hS : va_S A s.heap H [] := by rw [hHe]; exact hS
  rw [← hHe]
  refine lv_iload_n hx hb dX2_tellDepth_0 rfl (lv_at hl 1 rfl) ?_
  have hPc : va_P D vwCl [] H := hP.sub [] rfl
  have hDc : va_D A [] := hD.sub [] (by decide) rfl
  refine kzE (ws' := (wW cyD cyI cyJ cyZ aw ad ak ar au ae av ab df kf rf uf st fw fo sn me vf lf sp sb no)) (wc := []) (wr := [(aw, .inr (2, [.ref ae, .ref ad, .ref ak, .ref ar, .ref au, .int st, .int fw, .int fo])), (ad, .inl (cyD, 32, .inr (.inr (.inr (.inl df))))), (ak, .inl (cyZ, 32, .inl kf)), (ar, .inl (cyI, 32, .inl rf)), (au, .inl (cyJ, 32 * sn, .inr (.inl uf))), (ae, .inr (0, [.int (nI sn), .double me, .ref av, .ref ab, .double sp, .double sb, .double no])), (av, .inl (cyD, 128 * sn, .inr (.inr (.inr (.inl vf))))), (ab, .inl (cyZ, 32, .inl lf))]) (w1 := []) (va_runSN (As := [.int p1]) (rest := []) ⟨hx, hb, hml, hown, hts⟩ (c_X3_isPing (l := l) (D := D) (cyD := cyD) (cyI := cyI) (cyJ := cyJ) (cyZ := cyZ) H.size p1) ⟨va_cnB 1 hts gX2_tellDepth_X3_isPing_n55 rfl rfl rfl hN.2.2.2.2.1 (hts (.initialized RX3) (List.mem_of_getElem? (i := 4) rfl)) (by decide +kernel) ⟨Nat.le_of_ble_eq_true rfl, Nat.le_of_ble_eq_true rfl⟩, (hts (.static yX3_isPing) (List.mem_of_getElem? (i := 3) rfl)), trivial⟩ (kS hN hK hPc hDc) rfl rfl hl.1 rfl (lv_room (Nat.le_of_ble_eq_true rfl)) dX2_tellDepth_1 ⟨Nat.le_of_ble_eq_true rfl, Nat.le_of_ble_eq_true rfl⟩) hP hD hS hA [] [0, 1, 2, 3, 4, 5, 6, 7] [0, 1, 2, 3, 4, 5, 6, 7] rfl rfl (by decide) (by decide) rfl (by decide) (fun H locs hz_1 hP hD hS => ?_)
  refine lv_if_eq (tgt := 18) hx hb dX2_tellDepth_4 (by decide) (fun c_4 => ?_) (fun c_4 => ?_)
  · refine lv_iconst (v := 0) hx hb dX2_tellDepth_18 (by decide) ?_
    have hF9 : (fX2_tellDepth df p1 p2) = ((0 : Int32), df) := by rw [fX2_tellDepth, if_pos c_4]
    have hP9 : va_P D vwCl (wW cyD cyI cyJ cyZ aw ad ak ar au ae av ab ((fX2_tellDepth df p1 p2).2) kf rf uf st fw fo sn me vf lf sp sb no) H := by rw [hF9]; exact hP
    have hD9 : va_D A (wW cyD cyI cyJ cyZ aw ad ak ar au ae av ab ((fX2_tellDepth df p1 p2).2) kf rf uf st fw fo sn me vf lf sp sb no) := by rw [hF9]; exact hD
    exact W.zret (v := (0 : Int32)) hx hb hr (nar_z (Or.inl rfl)) (fun t ht hW => ⟨⟨(0 : Int32), (), rfl, ⟨(by rw [hF9]), (Or.inl rfl)⟩, by rw [ht]; exact hP9, va_K.moved hW.alike hK, hD9⟩, hS.F ht⟩) hS.2.2 dX2_tellDepth_19
  refine lv_dload_n hx hb dX2_tellDepth_7 rfl (lv_at hl 2 rfl) ?_
  refine lv_dconst0 hx hb dX2_tellDepth_8 ?_
  refine lv_ldc2d (v := 4666723172467343360) hx hb hown (hts (.constantDouble RX2 59 (4666723172467343360)) (List.mem_of_getElem? (i := 1) rfl)) dX2_tellDepth_9 ?_
  have hPc : va_P D vwCl [] H := hP.sub [] rfl
  have hDc : va_D A [] := hD.sub [] (by decide) rfl
  refine kzE (ws' := (wW cyD cyI cyJ cyZ aw ad ak ar au ae av ab df kf rf uf st fw fo sn me vf lf sp sb no)) (wc := []) (wr := [(aw, .inr (2, [.ref ae, .ref ad, .ref ak, .ref ar, .ref au, .int st, .int fw, .int fo])), (ad, .inl (cyD, 32, .inr (.inr (.inr (.inl df))))), (ak, .inl (cyZ, 32, .inl kf)), (ar, .inl (cyI, 32, .inl rf)), (au, .inl (cyJ, 32 * sn, .inr (.inl uf))), (ae, .inr (0, [.int (nI sn), .double me, .ref av, .ref ab, .double sp, .double sb, .double no])), (av, .inl (cyD, 128 * sn, .inr (.inr (.inr (.inl vf))))), (ab, .inl (cyZ, 32, .inl lf))]) (w1 := []) (va_runSN (As := [.double p2, .double FP.dconst0, .double (4666723172467343360 : UInt64)]) (rest := []) ⟨hx, hb, hml, hown, hts⟩ (c_X3_within (l := l) (D := D) (cyD := cyD) (cyI := cyI) (cyJ := cyJ) (cyZ := cyZ) H.size p2 FP.dconst0 (4666723172467343360 : UInt64)) ⟨va_cnB 3 hts gX2_tellDepth_X3_within_n61 rfl rfl rfl hN.2.2.2.2.2.2.1 (hts (.initialized RX3) (List.mem_of_getElem? (i := 4) rfl)) (by decide +kernel) ⟨Nat.le_of_ble_eq_true rfl, Nat.le_of_ble_eq_true rfl⟩, (hts (.static yX3_within) (List.mem_of_getElem? (i := 6) rfl)), trivial⟩ (kS hN hK hPc hDc) rfl rfl hl.1 rfl (lv_room (Nat.le_of_ble_eq_true rfl)) dX2_tellDepth_12 ⟨Nat.le_of_ble_eq_true rfl, Nat.le_of_ble_eq_true rfl⟩) hP hD hS hA [] [0, 1, 2, 3, 4, 5, 6, 7] [0, 1, 2, 3, 4, 5, 6, 7] rfl rfl (by decide) (by decide) rfl (by decide) (fun H locs hz_12 hP hD hS => ?_)
  refine lv_if_ne (tgt := 20) hx hb dX2_tellDepth_15 (by decide) (fun c_15 => ?_) (fun c_15 => ?_)
  · refine lv_aload_n hx hb dX2_tellDepth_20 rfl (lv_at hl 0 rfl) ?_
    refine va_get (D := D) (ci := 2) (v := .ref ad) (C := RX2) (T := TX2) (N := 8) hx hb hts (fun _ h => (List.mem_cons_of_mem _ (List.mem_append_right _ h))) hown hK hP 0 rfl rfl 1 (by decide) (hts (.fieldLink RX2 9 "BottomWalks$Walk" "depthsTold" "[D") (List.mem_of_getElem? (i := 2) rfl)) (fun _ h9 => h9) rfl dX2_tellDepth_21 ?_
    refine lv_iload_n hx hb dX2_tellDepth_24 rfl (lv_at hl 1 rfl) ?_
    refine lv_dload_n hx hb dX2_tellDepth_25 rfl (lv_at hl 2 rfl) ?_
    refine va_dast hx hb hK hP hD hS 1 0 rfl rfl (ping_in c_4) dX2_tellDepth_26 (fun H locs hP hD hS => ?_)
    have hP : va_P D vwCl (wW cyD cyI cyJ cyZ aw ad ak ar au ae av ab (vf_upd df p1.toNatClampNeg p2) kf rf uf st fw fo sn me vf lf sp sb no) H := hP
    have hD : va_D A (wW cyD cyI cyJ cyZ aw ad ak ar au ae av ab (vf_upd df p1.toNatClampNeg p2) kf rf uf st fw fo sn me vf lf sp sb no) := hD
    refine lv_iconst (v := 1) hx hb dX2_tellDepth_27 (by decide) ?_
    have hF9 : (fX2_tellDepth df p1 p2) = ((1 : Int32), (vf_upd df p1.toNatClampNeg p2)) := by rw [fX2_tellDepth, if_neg c_4, if_neg c_15]
    have hP9 : va_P D vwCl (wW cyD cyI cyJ cyZ aw ad ak ar au ae av ab ((fX2_tellDepth df p1 p2).2) kf rf uf st fw fo sn me vf lf sp sb no) H := by rw [hF9]; exact hP
    have hD9 : va_D A (wW cyD cyI cyJ cyZ aw ad ak ar au ae av ab ((fX2_tellDepth df p1 p2).2) kf rf uf st fw fo sn me vf lf sp sb no) := by rw [hF9]; exact hD
    exact W.zret (v := (1 : Int32)) hx hb hr (nar_z (Or.inr rfl)) (fun t ht hW => ⟨⟨(1 : Int32), (), rfl, ⟨(by rw [hF9]), (Or.inr rfl)⟩, by rw [ht]; exact hP9, va_K.moved hW.alike hK, hD9⟩, hS.F ht⟩) hS.2.2 dX2_tellDepth_28
  refine lv_iconst (v := 0) hx hb dX2_tellDepth_18 (by decide) ?_
  have hF9 : (fX2_tellDepth df p1 p2) = ((0 : Int32), df) := by rw [fX2_tellDepth, if_neg c_4, if_pos c_15]
  have hP9 : va_P D vwCl (wW cyD cyI cyJ cyZ aw ad ak ar au ae av ab ((fX2_tellDepth df p1 p2).2) kf rf uf st fw fo sn me vf lf sp sb no) H := by rw [hF9]; exact hP
  have hD9 : va_D A (wW cyD cyI cyJ cyZ aw ad ak ar au ae av ab ((fX2_tellDepth df p1 p2).2) kf rf uf st fw fo sn me vf lf sp sb no) := by rw [hF9]; exact hD
  exact W.zret (v := (0 : Int32)) hx hb hr (nar_z (Or.inl rfl)) (fun t ht hW => ⟨⟨(0 : Int32), (), rfl, ⟨(by rw [hF9]), (Or.inl rfl)⟩, by rw [ht]; exact hP9, va_K.moved hW.alike hK, hD9⟩, hS.F ht⟩) hS.2.2 dX2_tellDepth_19
def fX2_isWalked (kf : Nat → Int32) (p1 : Int32) : Int32 := if (fX3_isPing p1) = 0 then (0 : Int32) else (if (kf p1.toNatClampNeg) = 0 then (0 : Int32) else ((1 : Int32)))
set_option maxHeartbeats 4000000 in
set_option maxRecDepth 100000 in
theorem c_X2_isWalked {l : Launch} {D : va_G} {cyD cyI cyJ cyZ : ClassId} (aw ad ak ar au ae av ab : Nat) (df : Nat → UInt64) (kf : Nat → Int32) (rf : Nat → Int32) (uf : Nat → Int64) (st : Int32) (fw : Int32) (fo : Int32) (sn : Nat) (me : UInt64) (vf : Nat → UInt64) (lf : Nat → Int32) (sp : UInt64) (sb : UInt64) (no : UInt64) (sz : Nat) (p1 : Int32)  : mZ l yX2_isWalked wsX2_isWalked ({ frames := 1, cells := 0, slots := 0, locals := 20 } : Room) D (kT cyD cyI cyJ cyZ) [.ref aw, .int p1] (wW cyD cyI cyJ cyZ aw ad ak ar au ae av ab df kf rf uf st fw fo sn me vf lf sp sb no) (wW cyD cyI cyJ cyZ aw ad ak ar au ae av ab df kf rf uf st fw fo sn me vf lf sp sb no) sz (fX2_isWalked kf p1) 0 0 := by
  refine Met.ofW (cc := cX2_isWalked) (maxL := 2) (ret := (some .boolean)) (by decide) rfl ?_
  intro p e s m args below meth c s₁ B hml hv
  obtain ⟨rfl, hN, hsz, hP, hK, hD0⟩ := hv
  have hx := B.exec
  have hb := B.bytes
  have hr := B.returns
  have hts := atoms_spec (ws := wsX2_isWalked) B.pre
  have hown : s.vm.findClass RX2 = some m.cls := findClass_of_methodNamed B.named
  have hlocks := B.notSynchronized
  subst hsz
  have hD := hD0.self (sz := s.heap.size)
  generalize hAe : va_A (wW cyD cyI cyJ cyZ aw ad ak ar au ae av ab df kf rf uf st fw fo sn me vf lf sp sb no) s.heap.size = A at hD ⊢
  have hA : ∀ q : Nat, s.heap.size ≤ q → A q := fun q h => by rw [← hAe]; exact Or.inr h
  have hS : va_S A s.heap s.heap [] := va_S.rf
  have hP : va_P D vwCl (wW cyD cyI cyJ cyZ aw ad ak ar au ae av ab df kf rf uf st fw fo sn me vf lf sp sb no) s.heap := hP
  have hl := lv_entry [.ref aw, .int p1] (n := 2) (Nat.le_of_ble_eq_true rfl)
  rw [lg_entry_eq]
  generalize (lg_sl [.ref aw, .int p1] ++ List.replicate (2 - (lg_sl [.ref aw, .int p1]).length) Slot.unset).toArray = ls at hl ⊢
  have hl : lv_has ls 2 [(0, .ref aw), (1, .int p1)] := hl
  obtain ⟨H, hHe⟩ : ∃ H : Heap, H = s.heap := ⟨_, rfl⟩
  have hP : va_P D vwCl (wW cyD cyI cyJ cyZ aw ad ak ar au ae av ab df kf rf uf st fw fo sn me vf lf sp sb no) H := by rw [hHe]; exact hP
  have hS : va_S A s.heap H [] := by rw [hHe]; exact hS
  rw [← hHe]
  refine lv_iload_n hx hb dX2_isWalked_0 rfl (lv_at hl 1 rfl) ?_
  have hPc : va_P D vwCl [] H := hP.sub [] rfl
  have hDc : va_D A [] := hD.sub [] (by decide) rfl
  refine kzE (ws' := (wW cyD cyI cyJ cyZ aw ad ak ar au ae av ab df kf rf uf st fw fo sn me vf lf sp sb no)) (wc := []) (wr := [(aw, .inr (2, [.ref ae, .ref ad, .ref ak, .ref ar, .ref au, .int st, .int fw, .int fo])), (ad, .inl (cyD, 32, .inr (.inr (.inr (.inl df))))), (ak, .inl (cyZ, 32, .inl kf)), (ar, .inl (cyI, 32, .inl rf)), (au, .inl (cyJ, 32 * sn, .inr (.inl uf))), (ae, .inr (0, [.int (nI sn), .double me, .ref av, .ref ab, .double sp, .double sb, .double no])), (av, .inl (cyD, 128 * sn, .inr (.inr (.inr (.inl vf))))), (ab, .inl (cyZ, 32, .inl lf))]) (w1 := []) (va_runSN (As := [.int p1]) (rest := []) ⟨hx, hb, hml, hown, hts⟩ (c_X3_isPing (l := l) (D := D) (cyD := cyD) (cyI := cyI) (cyJ := cyJ) (cyZ := cyZ) H.size p1) ⟨va_cnB 1 hts gX2_isWalked_X3_isPing_n55 rfl rfl rfl hN.2.2.2.2.1 (hts (.initialized RX3) (List.mem_of_getElem? (i := 3) rfl)) (by decide +kernel) ⟨Nat.le_of_ble_eq_true rfl, Nat.le_of_ble_eq_true rfl⟩, (hts (.static yX3_isPing) (List.mem_of_getElem? (i := 2) rfl)), trivial⟩ (kS hN hK hPc hDc) rfl rfl hl.1 rfl (lv_room (Nat.le_of_ble_eq_true rfl)) dX2_isWalked_1 ⟨Nat.le_of_ble_eq_true rfl, Nat.le_of_ble_eq_true rfl⟩) hP hD hS hA [] [0, 1, 2, 3, 4, 5, 6, 7] [0, 1, 2, 3, 4, 5, 6, 7] rfl rfl (by decide) (by decide) rfl (by decide) (fun H locs hz_1 hP hD hS => ?_)
  refine lv_if_eq (tgt := 20) hx hb dX2_isWalked_4 (by decide) (fun c_4 => ?_) (fun c_4 => ?_)
  · refine lv_iconst (v := 0) hx hb dX2_isWalked_20 (by decide) ?_
    have hF9 : (fX2_isWalked kf p1) = (0 : Int32) := by rw [fX2_isWalked, if_pos c_4]
    have hP9 : va_P D vwCl (wW cyD cyI cyJ cyZ aw ad ak ar au ae av ab df kf rf uf st fw fo sn me vf lf sp sb no) H := hP
    have hD9 : va_D A (wW cyD cyI cyJ cyZ aw ad ak ar au ae av ab df kf rf uf st fw fo sn me vf lf sp sb no) := hD
    exact W.zret (v := (0 : Int32)) hx hb hr (nar_z (Or.inl rfl)) (fun t ht hW => ⟨⟨(0 : Int32), (), rfl, ⟨(by rw [hF9]), (Or.inl rfl)⟩, by rw [ht]; exact hP9, va_K.moved hW.alike hK, hD9⟩, hS.F ht⟩) hS.2.2 dX2_isWalked_21
  refine lv_aload_n hx hb dX2_isWalked_7 rfl (lv_at hl 0 rfl) ?_
  refine va_get (D := D) (ci := 2) (v := .ref ak) (C := RX2) (T := TX2) (N := 8) hx hb hts (fun _ h => (List.mem_cons_of_mem _ (List.mem_append_right _ h))) hown hK hP 0 rfl rfl 2 (by decide) (hts (.fieldLink RX2 15 "BottomWalks$Walk" "walked" "[Z") (List.mem_of_getElem? (i := 1) rfl)) (fun _ h9 => h9) rfl dX2_isWalked_8 ?_
  refine lv_iload_n hx hb dX2_isWalked_11 rfl (lv_at hl 1 rfl) ?_
  refine va_zald hx hb hK hP 2 3 rfl rfl (ping_in c_4) dX2_isWalked_12 ?_
  refine lv_if_eq (tgt := 20) hx hb dX2_isWalked_13 (by decide) (fun c_13 => ?_) (fun c_13 => ?_)
  · refine lv_iconst (v := 0) hx hb dX2_isWalked_20 (by decide) ?_
    have hF9 : (fX2_isWalked kf p1) = (0 : Int32) := by rw [fX2_isWalked, if_neg c_4, if_pos c_13]
    have hP9 : va_P D vwCl (wW cyD cyI cyJ cyZ aw ad ak ar au ae av ab df kf rf uf st fw fo sn me vf lf sp sb no) H := hP
    have hD9 : va_D A (wW cyD cyI cyJ cyZ aw ad ak ar au ae av ab df kf rf uf st fw fo sn me vf lf sp sb no) := hD
    exact W.zret (v := (0 : Int32)) hx hb hr (nar_z (Or.inl rfl)) (fun t ht hW => ⟨⟨(0 : Int32), (), rfl, ⟨(by rw [hF9]), (Or.inl rfl)⟩, by rw [ht]; exact hP9, va_K.moved hW.alike hK, hD9⟩, hS.F ht⟩) hS.2.2 dX2_isWalked_21
  refine lv_iconst (v := 1) hx hb dX2_isWalked_16 (by decide) ?_
  refine lv_goto (tgt := 21) hx hb dX2_isWalked_17 (by decide) ?_
  have hF9 : (fX2_isWalked kf p1) = (1 : Int32) := by rw [fX2_isWalked, if_neg c_4, if_neg c_13]
  have hP9 : va_P D vwCl (wW cyD cyI cyJ cyZ aw ad ak ar au ae av ab df kf rf uf st fw fo sn me vf lf sp sb no) H := hP
  have hD9 : va_D A (wW cyD cyI cyJ cyZ aw ad ak ar au ae av ab df kf rf uf st fw fo sn me vf lf sp sb no) := hD
  exact W.zret (v := (1 : Int32)) hx hb hr (nar_z (Or.inr rfl)) (fun t ht hW => ⟨⟨(1 : Int32), (), rfl, ⟨(by rw [hF9]), (Or.inr rfl)⟩, by rw [ht]; exact hP9, va_K.moved hW.alike hK, hD9⟩, hS.F ht⟩) hS.2.2 dX2_isWalked_21
def fX2_isEdited (df : Nat → UInt64) (p1 : Int32) : Int32 := if (fX3_isPing p1) = 0 then (0 : Int32) else (if (Op.cmpValue (FP.dcmp (df p1.toNatClampNeg) FP.dconst0) CmpOp.l) < 0 then (0 : Int32) else ((1 : Int32)))
set_option maxHeartbeats 4000000 in
set_option maxRecDepth 100000 in
theorem c_X2_isEdited {l : Launch} {D : va_G} {cyD cyI cyJ cyZ : ClassId} (aw ad ak ar au ae av ab : Nat) (df : Nat → UInt64) (kf : Nat → Int32) (rf : Nat → Int32) (uf : Nat → Int64) (st : Int32) (fw : Int32) (fo : Int32) (sn : Nat) (me : UInt64) (vf : Nat → UInt64) (lf : Nat → Int32) (sp : UInt64) (sb : UInt64) (no : UInt64) (sz : Nat) (p1 : Int32)  : mZ l yX2_isEdited wsX2_isEdited ({ frames := 1, cells := 0, slots := 0, locals := 20 } : Room) D (kT cyD cyI cyJ cyZ) [.ref aw, .int p1] (wW cyD cyI cyJ cyZ aw ad ak ar au ae av ab df kf rf uf st fw fo sn me vf lf sp sb no) (wW cyD cyI cyJ cyZ aw ad ak ar au ae av ab df kf rf uf st fw fo sn me vf lf sp sb no) sz (fX2_isEdited df p1) 0 0 := by
  refine Met.ofW (cc := cX2_isEdited) (maxL := 2) (ret := (some .boolean)) (by decide) rfl ?_
  intro p e s m args below meth c s₁ B hml hv
  obtain ⟨rfl, hN, hsz, hP, hK, hD0⟩ := hv
  have hx := B.exec
  have hb := B.bytes
  have hr := B.returns
  have hts := atoms_spec (ws := wsX2_isEdited) B.pre
  have hown : s.vm.findClass RX2 = some m.cls := findClass_of_methodNamed B.named
  have hlocks := B.notSynchronized
  subst hsz
  have hD := hD0.self (sz := s.heap.size)
  generalize hAe : va_A (wW cyD cyI cyJ cyZ aw ad ak ar au ae av ab df kf rf uf st fw fo sn me vf lf sp sb no) s.heap.size = A at hD ⊢
  have hA : ∀ q : Nat, s.heap.size ≤ q → A q := fun q h => by rw [← hAe]; exact Or.inr h
  have hS : va_S A s.heap s.heap [] := va_S.rf
  have hP : va_P D vwCl (wW cyD cyI cyJ cyZ aw ad ak ar au ae av ab df kf rf uf st fw fo sn me vf lf sp sb no) s.heap := hP
  have hl := lv_entry [.ref aw, .int p1] (n := 2) (Nat.le_of_ble_eq_true rfl)
  rw [lg_entry_eq]
  generalize (lg_sl [.ref aw, .int p1] ++ List.replicate (2 - (lg_sl [.ref aw, .int p1]).length) Slot.unset).toArray = ls at hl ⊢
  have hl : lv_has ls 2 [(0, .ref aw), (1, .int p1)] := hl
  obtain ⟨H, hHe⟩ : ∃ H : Heap, H = s.heap := ⟨_, rfl⟩
  have hP : va_P D vwCl (wW cyD cyI cyJ cyZ aw ad ak ar au ae av ab df kf rf uf st fw fo sn me vf lf sp sb no) H := by rw [hHe]; exact hP
  have hS : va_S A s.heap H [] := by rw [hHe]; exact hS
  rw [← hHe]
  refine lv_iload_n hx hb dX2_isEdited_0 rfl (lv_at hl 1 rfl) ?_
  have hPc : va_P D vwCl [] H := hP.sub [] rfl
  have hDc : va_D A [] := hD.sub [] (by decide) rfl
  refine kzE (ws' := (wW cyD cyI cyJ cyZ aw ad ak ar au ae av ab df kf rf uf st fw fo sn me vf lf sp sb no)) (wc := []) (wr := [(aw, .inr (2, [.ref ae, .ref ad, .ref ak, .ref ar, .ref au, .int st, .int fw, .int fo])), (ad, .inl (cyD, 32, .inr (.inr (.inr (.inl df))))), (ak, .inl (cyZ, 32, .inl kf)), (ar, .inl (cyI, 32, .inl rf)), (au, .inl (cyJ, 32 * sn, .inr (.inl uf))), (ae, .inr (0, [.int (nI sn), .double me, .ref av, .ref ab, .double sp, .double sb, .double no])), (av, .inl (cyD, 128 * sn, .inr (.inr (.inr (.inl vf))))), (ab, .inl (cyZ, 32, .inl lf))]) (w1 := []) (va_runSN (As := [.int p1]) (rest := []) ⟨hx, hb, hml, hown, hts⟩ (c_X3_isPing (l := l) (D := D) (cyD := cyD) (cyI := cyI) (cyJ := cyJ) (cyZ := cyZ) H.size p1) ⟨va_cnB 1 hts gX2_isEdited_X3_isPing_n55 rfl rfl rfl hN.2.2.2.2.1 (hts (.initialized RX3) (List.mem_of_getElem? (i := 3) rfl)) (by decide +kernel) ⟨Nat.le_of_ble_eq_true rfl, Nat.le_of_ble_eq_true rfl⟩, (hts (.static yX3_isPing) (List.mem_of_getElem? (i := 2) rfl)), trivial⟩ (kS hN hK hPc hDc) rfl rfl hl.1 rfl (lv_room (Nat.le_of_ble_eq_true rfl)) dX2_isEdited_1 ⟨Nat.le_of_ble_eq_true rfl, Nat.le_of_ble_eq_true rfl⟩) hP hD hS hA [] [0, 1, 2, 3, 4, 5, 6, 7] [0, 1, 2, 3, 4, 5, 6, 7] rfl rfl (by decide) (by decide) rfl (by decide) (fun H locs hz_1 hP hD hS => ?_)
  refine lv_if_eq (tgt := 22) hx hb dX2_isEdited_4 (by decide) (fun c_4 => ?_) (fun c_4 => ?_)
  · refine lv_iconst (v := 0) hx hb dX2_isEdited_22 (by decide) ?_
    have hF9 : (fX2_isEdited df p1) = (0 : Int32) := by rw [fX2_isEdited, if_pos c_4]
    have hP9 : va_P D vwCl (wW cyD cyI cyJ cyZ aw ad ak ar au ae av ab df kf rf uf st fw fo sn me vf lf sp sb no) H := hP
    have hD9 : va_D A (wW cyD cyI cyJ cyZ aw ad ak ar au ae av ab df kf rf uf st fw fo sn me vf lf sp sb no) := hD
    exact W.zret (v := (0 : Int32)) hx hb hr (nar_z (Or.inl rfl)) (fun t ht hW => ⟨⟨(0 : Int32), (), rfl, ⟨(by rw [hF9]), (Or.inl rfl)⟩, by rw [ht]; exact hP9, va_K.moved hW.alike hK, hD9⟩, hS.F ht⟩) hS.2.2 dX2_isEdited_23
  refine lv_aload_n hx hb dX2_isEdited_7 rfl (lv_at hl 0 rfl) ?_
  refine va_get (D := D) (ci := 2) (v := .ref ad) (C := RX2) (T := TX2) (N := 8) hx hb hts (fun _ h => (List.mem_cons_of_mem _ (List.mem_append_right _ h))) hown hK hP 0 rfl rfl 1 (by decide) (hts (.fieldLink RX2 9 "BottomWalks$Walk" "depthsTold" "[D") (List.mem_of_getElem? (i := 1) rfl)) (fun _ h9 => h9) rfl dX2_isEdited_8 ?_
  refine lv_iload_n hx hb dX2_isEdited_11 rfl (lv_at hl 1 rfl) ?_
  refine va_dald hx hb hK hP 1 0 rfl rfl (ping_in c_4) dX2_isEdited_12 ?_
  refine lv_dconst0 hx hb dX2_isEdited_13 ?_
  refine lv_dcmp hx hb dX2_isEdited_14 ?_
  refine lv_if_lt (tgt := 22) hx hb dX2_isEdited_15 (by decide) (fun c_15 => ?_) (fun c_15 => ?_)
  · refine lv_iconst (v := 0) hx hb dX2_isEdited_22 (by decide) ?_
    have hF9 : (fX2_isEdited df p1) = (0 : Int32) := by rw [fX2_isEdited, if_neg c_4, if_pos c_15]
    have hP9 : va_P D vwCl (wW cyD cyI cyJ cyZ aw ad ak ar au ae av ab df kf rf uf st fw fo sn me vf lf sp sb no) H := hP
    have hD9 : va_D A (wW cyD cyI cyJ cyZ aw ad ak ar au ae av ab df kf rf uf st fw fo sn me vf lf sp sb no) := hD
    exact W.zret (v := (0 : Int32)) hx hb hr (nar_z (Or.inl rfl)) (fun t ht hW => ⟨⟨(0 : Int32), (), rfl, ⟨(by rw [hF9]), (Or.inl rfl)⟩, by rw [ht]; exact hP9, va_K.moved hW.alike hK, hD9⟩, hS.F ht⟩) hS.2.2 dX2_isEdited_23
  refine lv_iconst (v := 1) hx hb dX2_isEdited_18 (by decide) ?_
  refine lv_goto (tgt := 23) hx hb dX2_isEdited_19 (by decide) ?_
  have hF9 : (fX2_isEdited df p1) = (1 : Int32) := by rw [fX2_isEdited, if_neg c_4, if_neg c_15]
  have hP9 : va_P D vwCl (wW cyD cyI cyJ cyZ aw ad ak ar au ae av ab df kf rf uf st fw fo sn me vf lf sp sb no) H := hP
  have hD9 : va_D A (wW cyD cyI cyJ cyZ aw ad ak ar au ae av ab df kf rf uf st fw fo sn me vf lf sp sb no) := hD
  exact W.zret (v := (1 : Int32)) hx hb hr (nar_z (Or.inr rfl)) (fun t ht hW => ⟨⟨(1 : Int32), (), rfl, ⟨(by rw [hF9]), (Or.inr rfl)⟩, by rw [ht]; exact hP9, va_K.moved hW.alike hK, hD9⟩, hS.F ht⟩) hS.2.2 dX2_isEdited_23
theorem edited_in {df : Nat → UInt64} {p : Int32} (h : ¬ fX2_isEdited df p = 0) : vp_in p 32 := by
  unfold fX2_isEdited at h
  by_cases c : fX3_isPing p = 0
  · rw [if_pos c] at h; exact absurd rfl h
  · exact ping_in c
theorem nI_one : nI 1 = 1 := rfl
theorem sampleFor_L {sn : Nat} {me w : UInt64} (h1 : 1 ≤ sn) (h2 : sn ≤ 64) : ∀ (k j : Nat), j + k = 65 → j < sn → ∃ q : Nat, q < sn ∧ fX0_sampleFor_L2 sn me w k (nI j) = nI q := by
  intro k; induction k with
  | zero => intro j a b; omega
  | succ k ih =>
    intro j a b
    rw [fX0_sampleFor_L2]
    by_cases c : nI sn - 1 ≤ nI j
    · rw [if_pos c]; exact ⟨j, b, rfl⟩
    · rw [if_neg c]
      rw [nI_sub1 h1] at c
      have := Nat.lt_of_not_le (fun q => c (nI_le q (by omega)))
      split
      · exact ⟨j, b, rfl⟩
      · rw [nI_1]; exact ih (j + 1) (by omega) (by omega)
theorem sampleFor_nI {sn : Nat} (me w : UInt64) (h1 : 1 ≤ sn) (h2 : sn ≤ 64) : ∃ q : Nat, q < sn ∧ fX0_sampleFor sn me w = nI q := sampleFor_L h1 h2 65 0 rfl (by omega)
def fX2_sampleOfRow (rf : Nat → Int32) (p1 : Int32) : Int32 := if (fX3_isPing p1) = 0 then (0 : Int32) else ((rf p1.toNatClampNeg))
set_option maxHeartbeats 4000000 in
set_option maxRecDepth 100000 in
theorem c_X2_sampleOfRow {l : Launch} {D : va_G} {cyD cyI cyJ cyZ : ClassId} (aw ad ak ar au ae av ab : Nat) (df : Nat → UInt64) (kf : Nat → Int32) (rf : Nat → Int32) (uf : Nat → Int64) (st : Int32) (fw : Int32) (fo : Int32) (sn : Nat) (me : UInt64) (vf : Nat → UInt64) (lf : Nat → Int32) (sp : UInt64) (sb : UInt64) (no : UInt64) (sz : Nat) (p1 : Int32)  : mI l yX2_sampleOfRow wsX2_sampleOfRow ({ frames := 1, cells := 0, slots := 0, locals := 20 } : Room) D (kT cyD cyI cyJ cyZ) [.ref aw, .int p1] (wW cyD cyI cyJ cyZ aw ad ak ar au ae av ab df kf rf uf st fw fo sn me vf lf sp sb no) (wW cyD cyI cyJ cyZ aw ad ak ar au ae av ab df kf rf uf st fw fo sn me vf lf sp sb no) sz (fX2_sampleOfRow rf p1) 0 0 := by
  refine Met.ofW (cc := cX2_sampleOfRow) (maxL := 2) (ret := (some .int)) (by decide) rfl ?_
  intro p e s m args below meth c s₁ B hml hv
  obtain ⟨rfl, hN, hsz, hP, hK, hD0⟩ := hv
  have hx := B.exec
  have hb := B.bytes
  have hr := B.returns
  have hts := atoms_spec (ws := wsX2_sampleOfRow) B.pre
  have hown : s.vm.findClass RX2 = some m.cls := findClass_of_methodNamed B.named
  have hlocks := B.notSynchronized
  subst hsz
  have hD := hD0.self (sz := s.heap.size)
  generalize hAe : va_A (wW cyD cyI cyJ cyZ aw ad ak ar au ae av ab df kf rf uf st fw fo sn me vf lf sp sb no) s.heap.size = A at hD ⊢
  have hA : ∀ q : Nat, s.heap.size ≤ q → A q := fun q h => by rw [← hAe]; exact Or.inr h
  have hS : va_S A s.heap s.heap [] := va_S.rf
  have hP : va_P D vwCl (wW cyD cyI cyJ cyZ aw ad ak ar au ae av ab df kf rf uf st fw fo sn me vf lf sp sb no) s.heap := hP
  have hl := lv_entry [.ref aw, .int p1] (n := 2) (Nat.le_of_ble_eq_true rfl)
  rw [lg_entry_eq]
  generalize (lg_sl [.ref aw, .int p1] ++ List.replicate (2 - (lg_sl [.ref aw, .int p1]).length) Slot.unset).toArray = ls at hl ⊢
  have hl : lv_has ls 2 [(0, .ref aw), (1, .int p1)] := hl
  obtain ⟨H, hHe⟩ : ∃ H : Heap, H = s.heap := ⟨_, rfl⟩
  have hP : va_P D vwCl (wW cyD cyI cyJ cyZ aw ad ak ar au ae av ab df kf rf uf st fw fo sn me vf lf sp sb no) H := by rw [hHe]; exact hP
  have hS : va_S A s.heap H [] := by rw [hHe]; exact hS
  rw [← hHe]
  refine lv_iload_n hx hb dX2_sampleOfRow_0 rfl (lv_at hl 1 rfl) ?_
  have hPc : va_P D vwCl [] H := hP.sub [] rfl
  have hDc : va_D A [] := hD.sub [] (by decide) rfl
  refine kzE (ws' := (wW cyD cyI cyJ cyZ aw ad ak ar au ae av ab df kf rf uf st fw fo sn me vf lf sp sb no)) (wc := []) (wr := [(aw, .inr (2, [.ref ae, .ref ad, .ref ak, .ref ar, .ref au, .int st, .int fw, .int fo])), (ad, .inl (cyD, 32, .inr (.inr (.inr (.inl df))))), (ak, .inl (cyZ, 32, .inl kf)), (ar, .inl (cyI, 32, .inl rf)), (au, .inl (cyJ, 32 * sn, .inr (.inl uf))), (ae, .inr (0, [.int (nI sn), .double me, .ref av, .ref ab, .double sp, .double sb, .double no])), (av, .inl (cyD, 128 * sn, .inr (.inr (.inr (.inl vf))))), (ab, .inl (cyZ, 32, .inl lf))]) (w1 := []) (va_runSN (As := [.int p1]) (rest := []) ⟨hx, hb, hml, hown, hts⟩ (c_X3_isPing (l := l) (D := D) (cyD := cyD) (cyI := cyI) (cyJ := cyJ) (cyZ := cyZ) H.size p1) ⟨va_cnB 1 hts gX2_sampleOfRow_X3_isPing_n55 rfl rfl rfl hN.2.2.2.2.1 (hts (.initialized RX3) (List.mem_of_getElem? (i := 3) rfl)) (by decide +kernel) ⟨Nat.le_of_ble_eq_true rfl, Nat.le_of_ble_eq_true rfl⟩, (hts (.static yX3_isPing) (List.mem_of_getElem? (i := 2) rfl)), trivial⟩ (kS hN hK hPc hDc) rfl rfl hl.1 rfl (lv_room (Nat.le_of_ble_eq_true rfl)) dX2_sampleOfRow_1 ⟨Nat.le_of_ble_eq_true rfl, Nat.le_of_ble_eq_true rfl⟩) hP hD hS hA [] [0, 1, 2, 3, 4, 5, 6, 7] [0, 1, 2, 3, 4, 5, 6, 7] rfl rfl (by decide) (by decide) rfl (by decide) (fun H locs hz_1 hP hD hS => ?_)
  refine lv_if_eq (tgt := 16) hx hb dX2_sampleOfRow_4 (by decide) (fun c_4 => ?_) (fun c_4 => ?_)
  · refine lv_iconst (v := 0) hx hb dX2_sampleOfRow_16 (by decide) ?_
    have hF9 : (fX2_sampleOfRow rf p1) = (0 : Int32) := by rw [fX2_sampleOfRow, if_pos c_4]
    have hP9 : va_P D vwCl (wW cyD cyI cyJ cyZ aw ad ak ar au ae av ab df kf rf uf st fw fo sn me vf lf sp sb no) H := hP
    have hD9 : va_D A (wW cyD cyI cyJ cyZ aw ad ak ar au ae av ab df kf rf uf st fw fo sn me vf lf sp sb no) := hD
    exact W.iret (v := (0 : Int32)) hx hb hr (fun t ht hW => ⟨⟨(0 : Int32), (), rfl, (by rw [hF9]), by rw [ht]; exact hP9, va_K.moved hW.alike hK, hD9⟩, hS.F ht⟩) hS.2.2 dX2_sampleOfRow_17
  refine lv_aload_n hx hb dX2_sampleOfRow_7 rfl (lv_at hl 0 rfl) ?_
  refine va_get (D := D) (ci := 2) (v := .ref ar) (C := RX2) (T := TX2) (N := 8) hx hb hts (fun _ h => (List.mem_cons_of_mem _ (List.mem_append_right _ h))) hown hK hP 0 rfl rfl 3 (by decide) (hts (.fieldLink RX2 19 "BottomWalks$Walk" "row" "[I") (List.mem_of_getElem? (i := 1) rfl)) (fun _ h9 => h9) rfl dX2_sampleOfRow_8 ?_
  refine lv_iload_n hx hb dX2_sampleOfRow_11 rfl (lv_at hl 1 rfl) ?_
  refine va_iald hx hb hK hP 3 1 rfl rfl (ping_in c_4) dX2_sampleOfRow_12 ?_
  refine lv_goto (tgt := 17) hx hb dX2_sampleOfRow_13 (by decide) ?_
  have hF9 : (fX2_sampleOfRow rf p1) = (rf p1.toNatClampNeg) := by rw [fX2_sampleOfRow, if_neg c_4]
  have hP9 : va_P D vwCl (wW cyD cyI cyJ cyZ aw ad ak ar au ae av ab df kf rf uf st fw fo sn me vf lf sp sb no) H := hP
  have hD9 : va_D A (wW cyD cyI cyJ cyZ aw ad ak ar au ae av ab df kf rf uf st fw fo sn me vf lf sp sb no) := hD
  exact W.iret (v := (rf p1.toNatClampNeg)) hx hb hr (fun t ht hW => ⟨⟨(rf p1.toNatClampNeg), (), rfl, (by rw [hF9]), by rw [ht]; exact hP9, va_K.moved hW.alike hK, hD9⟩, hS.F ht⟩) hS.2.2 dX2_sampleOfRow_17
def fX2_depthWalked (df : Nat → UInt64) (rf : Nat → Int32) (me : UInt64) (p1 : Int32) : UInt64 := if (fX2_isEdited df p1) = 0 then (fX0_range me (fX2_sampleOfRow rf p1)) else ((df p1.toNatClampNeg))
set_option maxHeartbeats 4000000 in
set_option maxRecDepth 100000 in
theorem c_X2_depthWalked {l : Launch} {D : va_G} {cyD cyI cyJ cyZ : ClassId} (aw ad ak ar au ae av ab : Nat) (df : Nat → UInt64) (kf : Nat → Int32) (rf : Nat → Int32) (uf : Nat → Int64) (st : Int32) (fw : Int32) (fo : Int32) (sn : Nat) (me : UInt64) (vf : Nat → UInt64) (lf : Nat → Int32) (sp : UInt64) (sb : UInt64) (no : UInt64) (sz : Nat) (p1 : Int32) (hE : okE sn me vf sp sb no) : mD l yX2_depthWalked wsX2_depthWalked ({ frames := 2, cells := 0, slots := 0, locals := 41 } : Room) D (kT cyD cyI cyJ cyZ) [.ref aw, .int p1] (wW cyD cyI cyJ cyZ aw ad ak ar au ae av ab df kf rf uf st fw fo sn me vf lf sp sb no) (wW cyD cyI cyJ cyZ aw ad ak ar au ae av ab df kf rf uf st fw fo sn me vf lf sp sb no) sz (fX2_depthWalked df rf me p1) 0 0 := by
  refine Met.ofW (cc := cX2_depthWalked) (maxL := 2) (ret := (some .double)) (by decide) rfl ?_
  intro p e s m args below meth c s₁ B hml hv
  obtain ⟨rfl, hN, hsz, hP, hK, hD0⟩ := hv
  have hx := B.exec
  have hb := B.bytes
  have hr := B.returns
  have hts := atoms_spec (ws := wsX2_depthWalked) B.pre
  have hown : s.vm.findClass RX2 = some m.cls := findClass_of_methodNamed B.named
  have hlocks := B.notSynchronized
  subst hsz
  have hD := hD0.self (sz := s.heap.size)
  generalize hAe : va_A (wW cyD cyI cyJ cyZ aw ad ak ar au ae av ab df kf rf uf st fw fo sn me vf lf sp sb no) s.heap.size = A at hD ⊢
  have hA : ∀ q : Nat, s.heap.size ≤ q → A q := fun q h => by rw [← hAe]; exact Or.inr h
  have hS : va_S A s.heap s.heap [] := va_S.rf
  have hP : va_P D vwCl (wW cyD cyI cyJ cyZ aw ad ak ar au ae av ab df kf rf uf st fw fo sn me vf lf sp sb no) s.heap := hP
  have hl := lv_entry [.ref aw, .int p1] (n := 2) (Nat.le_of_ble_eq_true rfl)
  rw [lg_entry_eq]
  generalize (lg_sl [.ref aw, .int p1] ++ List.replicate (2 - (lg_sl [.ref aw, .int p1]).length) Slot.unset).toArray = ls at hl ⊢
  have hl : lv_has ls 2 [(0, .ref aw), (1, .int p1)] := hl
  obtain ⟨H, hHe⟩ : ∃ H : Heap, H = s.heap := ⟨_, rfl⟩
  have hP : va_P D vwCl (wW cyD cyI cyJ cyZ aw ad ak ar au ae av ab df kf rf uf st fw fo sn me vf lf sp sb no) H := by rw [hHe]; exact hP
  have hS : va_S A s.heap H [] := by rw [hHe]; exact hS
  rw [← hHe]
  refine lv_aload_n hx hb dX2_depthWalked_0 rfl (lv_at hl 0 rfl) ?_
  refine lv_iload_n hx hb dX2_depthWalked_1 rfl (lv_at hl 1 rfl) ?_
  have hPc : va_P D vwCl (wW cyD cyI cyJ cyZ aw ad ak ar au ae av ab df kf rf uf st fw fo sn me vf lf sp sb no) H := hP.sub [0, 1, 2, 3, 4, 5, 6, 7] rfl
  have hDc : va_D A (wW cyD cyI cyJ cyZ aw ad ak ar au ae av ab df kf rf uf st fw fo sn me vf lf sp sb no) := hD.sub [0, 1, 2, 3, 4, 5, 6, 7] (by decide) rfl
  refine kzE (ws' := (wW cyD cyI cyJ cyZ aw ad ak ar au ae av ab df kf rf uf st fw fo sn me vf lf sp sb no)) (wc := (wW cyD cyI cyJ cyZ aw ad ak ar au ae av ab df kf rf uf st fw fo sn me vf lf sp sb no)) (wr := []) (w1 := (wW cyD cyI cyJ cyZ aw ad ak ar au ae av ab df kf rf uf st fw fo sn me vf lf sp sb no)) (va_runV (As := [.int p1]) (rest := []) ⟨hx, hb, hml, hown, hts⟩ (c_X2_isEdited (l := l) (D := D) (cyD := cyD) (cyI := cyI) (cyJ := cyJ) (cyZ := cyZ) aw ad ak ar au ae av ab df kf rf uf st fw fo sn me vf lf sp sb no H.size p1) (cwV 1 hts gX2_depthWalked_X2_isEdited rfl rfl rfl (by decide +kernel) ⟨Nat.le_of_ble_eq_true rfl, Nat.le_of_ble_eq_true rfl⟩) (kV (ci := 2) (q0 := 0) (q := (RX2, TX2, 8)) hN hK hPc hDc rfl rfl rfl) rfl rfl hl.1 rfl (lv_room (Nat.le_of_ble_eq_true rfl)) dX2_depthWalked_2 ⟨Nat.le_of_ble_eq_true rfl, Nat.le_of_ble_eq_true rfl⟩) hP hD hS hA [0, 1, 2, 3, 4, 5, 6, 7] [] [0, 1, 2, 3, 4, 5, 6, 7] rfl rfl (by decide) (by decide) rfl (by decide) (fun H locs hz_2 hP hD hS => ?_)
  refine lv_if_eq (tgt := 17) hx hb dX2_depthWalked_5 (by decide) (fun c_5 => ?_) (fun c_5 => ?_)
  · refine lv_aload_n hx hb dX2_depthWalked_17 rfl (lv_at hl 0 rfl) ?_
    refine va_get (D := D) (ci := 2) (v := .ref ae) (C := RX2) (T := TX2) (N := 8) hx hb hts (fun _ h => (List.mem_cons_of_mem _ (List.mem_append_left _ (List.mem_append_right _ h)))) hown hK hP 0 rfl rfl 0 (by decide) (hts (.fieldLink RX2 34 "BottomWalks$Walk" "echoes" "LBottomWalks$Echoes;") (List.mem_of_getElem? (i := 2) rfl)) (fun _ h9 => h9) rfl dX2_depthWalked_18 ?_
    refine lv_aload_n hx hb dX2_depthWalked_21 rfl (lv_at hl 0 rfl) ?_
    refine lv_iload_n hx hb dX2_depthWalked_22 rfl (lv_at hl 1 rfl) ?_
    have hPc : va_P D vwCl (wW cyD cyI cyJ cyZ aw ad ak ar au ae av ab df kf rf uf st fw fo sn me vf lf sp sb no) H := hP.sub [0, 1, 2, 3, 4, 5, 6, 7] rfl
    have hDc : va_D A (wW cyD cyI cyJ cyZ aw ad ak ar au ae av ab df kf rf uf st fw fo sn me vf lf sp sb no) := hD.sub [0, 1, 2, 3, 4, 5, 6, 7] (by decide) rfl
    refine kiE (ws' := (wW cyD cyI cyJ cyZ aw ad ak ar au ae av ab df kf rf uf st fw fo sn me vf lf sp sb no)) (wc := (wW cyD cyI cyJ cyZ aw ad ak ar au ae av ab df kf rf uf st fw fo sn me vf lf sp sb no)) (wr := []) (w1 := (wW cyD cyI cyJ cyZ aw ad ak ar au ae av ab df kf rf uf st fw fo sn me vf lf sp sb no)) (va_runV (As := [.int p1]) (rest := [.ref ae]) ⟨hx, hb, hml, hown, hts⟩ (c_X2_sampleOfRow (l := l) (D := D) (cyD := cyD) (cyI := cyI) (cyJ := cyJ) (cyZ := cyZ) aw ad ak ar au ae av ab df kf rf uf st fw fo sn me vf lf sp sb no H.size p1) (cwV 1 hts gX2_depthWalked_X2_sampleOfRow rfl rfl rfl (by decide +kernel) ⟨Nat.le_of_ble_eq_true rfl, Nat.le_of_ble_eq_true rfl⟩) (kV (ci := 2) (q0 := 0) (q := (RX2, TX2, 8)) hN hK hPc hDc rfl rfl rfl) rfl rfl hl.1 rfl (lv_room (Nat.le_of_ble_eq_true rfl)) dX2_depthWalked_23 ⟨Nat.le_of_ble_eq_true rfl, Nat.le_of_ble_eq_true rfl⟩) hP hD hS hA [0, 1, 2, 3, 4, 5, 6, 7] [] [0, 1, 2, 3, 4, 5, 6, 7] rfl rfl (by decide) (by decide) rfl (by decide) (fun H locs hP hD hS => ?_)
    have hPc : va_P D vwCl (wE cyD cyI cyJ cyZ ae av ab sn me vf lf sp sb no) H := hP.sub [5, 6, 7] rfl
    have hDc : va_D A (wE cyD cyI cyJ cyZ ae av ab sn me vf lf sp sb no) := hD.sub [5, 6, 7] (by decide) rfl
    refine kdE (ws' := (wW cyD cyI cyJ cyZ aw ad ak ar au ae av ab df kf rf uf st fw fo sn me vf lf sp sb no)) (wc := (wE cyD cyI cyJ cyZ ae av ab sn me vf lf sp sb no)) (wr := [(aw, .inr (2, [.ref ae, .ref ad, .ref ak, .ref ar, .ref au, .int st, .int fw, .int fo])), (ad, .inl (cyD, 32, .inr (.inr (.inr (.inl df))))), (ak, .inl (cyZ, 32, .inl kf)), (ar, .inl (cyI, 32, .inl rf)), (au, .inl (cyJ, 32 * sn, .inr (.inl uf)))]) (w1 := (wE cyD cyI cyJ cyZ ae av ab sn me vf lf sp sb no)) (va_runV (As := [.int (fX2_sampleOfRow rf p1)]) (rest := []) ⟨hx, hb, hml, hown, hts⟩ (c_X0_range (l := l) (D := D) (cyD := cyD) (cyI := cyI) (cyJ := cyJ) (cyZ := cyZ) ae av ab sn me vf lf sp sb no H.size (fX2_sampleOfRow rf p1) hE.2.2.1) (cwV 1 hts gX2_depthWalked_X0_range rfl rfl rfl (by decide +kernel) ⟨Nat.le_of_ble_eq_true rfl, Nat.le_of_ble_eq_true rfl⟩) (kV (ci := 0) (q0 := 0) (q := (RX0, TX0, 7)) hN hK hPc hDc rfl rfl rfl) rfl rfl hl.1 rfl (lv_room (Nat.le_of_ble_eq_true rfl)) dX2_depthWalked_26 ⟨Nat.le_of_ble_eq_true rfl, Nat.le_of_ble_eq_true rfl⟩) hP hD hS hA [5, 6, 7] [0, 1, 2, 3, 4] [0, 1, 2, 3, 4, 5, 6, 7] rfl rfl (by decide) (by decide) rfl (by decide) (fun H locs hP hD hS => ?_)
    have hF9 : (fX2_depthWalked df rf me p1) = (fX0_range me (fX2_sampleOfRow rf p1)) := by rw [fX2_depthWalked, if_pos c_5]
    have hP9 : va_P D vwCl (wW cyD cyI cyJ cyZ aw ad ak ar au ae av ab df kf rf uf st fw fo sn me vf lf sp sb no) H := hP
    have hD9 : va_D A (wW cyD cyI cyJ cyZ aw ad ak ar au ae av ab df kf rf uf st fw fo sn me vf lf sp sb no) := hD
    exact W.dret (v := (fX0_range me (fX2_sampleOfRow rf p1))) hx hb hr (fun t ht hW => ⟨⟨(fX0_range me (fX2_sampleOfRow rf p1)), (), rfl, (by rw [hF9]), by rw [ht]; exact hP9, va_K.moved hW.alike hK, hD9⟩, hS.F ht⟩) hS.2.2 dX2_depthWalked_29
  refine lv_aload_n hx hb dX2_depthWalked_8 rfl (lv_at hl 0 rfl) ?_
  refine va_get (D := D) (ci := 2) (v := .ref ad) (C := RX2) (T := TX2) (N := 8) hx hb hts (fun _ h => (List.mem_cons_of_mem _ (List.mem_append_left _ (List.mem_append_right _ h)))) hown hK hP 0 rfl rfl 1 (by decide) (hts (.fieldLink RX2 9 "BottomWalks$Walk" "depthsTold" "[D") (List.mem_of_getElem? (i := 1) rfl)) (fun _ h9 => h9) rfl dX2_depthWalked_9 ?_
  refine lv_iload_n hx hb dX2_depthWalked_12 rfl (lv_at hl 1 rfl) ?_
  refine va_dald hx hb hK hP 1 0 rfl rfl (edited_in c_5) dX2_depthWalked_13 ?_
  refine lv_goto (tgt := 29) hx hb dX2_depthWalked_14 (by decide) ?_
  have hF9 : (fX2_depthWalked df rf me p1) = (df p1.toNatClampNeg) := by rw [fX2_depthWalked, if_neg c_5]
  have hP9 : va_P D vwCl (wW cyD cyI cyJ cyZ aw ad ak ar au ae av ab df kf rf uf st fw fo sn me vf lf sp sb no) H := hP
  have hD9 : va_D A (wW cyD cyI cyJ cyZ aw ad ak ar au ae av ab df kf rf uf st fw fo sn me vf lf sp sb no) := hD
  exact W.dret (v := (df p1.toNatClampNeg)) hx hb hr (fun t ht hW => ⟨⟨(df p1.toNatClampNeg), (), rfl, (by rw [hF9]), by rw [ht]; exact hP9, va_K.moved hW.alike hK, hD9⟩, hS.F ht⟩) hS.2.2 dX2_depthWalked_29
def fX2_lowest (df : Nat → UInt64) (sn : Nat) (me : UInt64) (p1 : Int32) : Int32 := if (fX2_isEdited df p1) = 0 then (0 : Int32) else ((fX0_sampleFor sn me (df p1.toNatClampNeg)))
set_option maxHeartbeats 4000000 in
set_option maxRecDepth 100000 in
theorem c_X2_lowest {l : Launch} {D : va_G} {cyD cyI cyJ cyZ : ClassId} (aw ad ak ar au ae av ab : Nat) (df : Nat → UInt64) (kf : Nat → Int32) (rf : Nat → Int32) (uf : Nat → Int64) (st : Int32) (fw : Int32) (fo : Int32) (sn : Nat) (me : UInt64) (vf : Nat → UInt64) (lf : Nat → Int32) (sp : UInt64) (sb : UInt64) (no : UInt64) (sz : Nat) (p1 : Int32) (hE : okE sn me vf sp sb no) : mI l yX2_lowest wsX2_lowest ({ frames := 2, cells := 0, slots := 0, locals := 44 } : Room) D (kT cyD cyI cyJ cyZ) [.ref aw, .int p1] (wW cyD cyI cyJ cyZ aw ad ak ar au ae av ab df kf rf uf st fw fo sn me vf lf sp sb no) (wW cyD cyI cyJ cyZ aw ad ak ar au ae av ab df kf rf uf st fw fo sn me vf lf sp sb no) sz (fX2_lowest df sn me p1) 0 0 := by
  refine Met.ofW (cc := cX2_lowest) (maxL := 2) (ret := (some .int)) (by decide) rfl ?_
  intro p e s m args below meth c s₁ B hml hv
  obtain ⟨rfl, hN, hsz, hP, hK, hD0⟩ := hv
  have hx := B.exec
  have hb := B.bytes
  have hr := B.returns
  have hts := atoms_spec (ws := wsX2_lowest) B.pre
  have hown : s.vm.findClass RX2 = some m.cls := findClass_of_methodNamed B.named
  have hlocks := B.notSynchronized
  subst hsz
  have hD := hD0.self (sz := s.heap.size)
  generalize hAe : va_A (wW cyD cyI cyJ cyZ aw ad ak ar au ae av ab df kf rf uf st fw fo sn me vf lf sp sb no) s.heap.size = A at hD ⊢
  have hA : ∀ q : Nat, s.heap.size ≤ q → A q := fun q h => by rw [← hAe]; exact Or.inr h
  have hS : va_S A s.heap s.heap [] := va_S.rf
  have hP : va_P D vwCl (wW cyD cyI cyJ cyZ aw ad ak ar au ae av ab df kf rf uf st fw fo sn me vf lf sp sb no) s.heap := hP
  have hl := lv_entry [.ref aw, .int p1] (n := 2) (Nat.le_of_ble_eq_true rfl)
  rw [lg_entry_eq]
  generalize (lg_sl [.ref aw, .int p1] ++ List.replicate (2 - (lg_sl [.ref aw, .int p1]).length) Slot.unset).toArray = ls at hl ⊢
  have hl : lv_has ls 2 [(0, .ref aw), (1, .int p1)] := hl
  obtain ⟨H, hHe⟩ : ∃ H : Heap, H = s.heap := ⟨_, rfl⟩
  have hP : va_P D vwCl (wW cyD cyI cyJ cyZ aw ad ak ar au ae av ab df kf rf uf st fw fo sn me vf lf sp sb no) H := by rw [hHe]; exact hP
  have hS : va_S A s.heap H [] := by rw [hHe]; exact hS
  rw [← hHe]
  refine lv_aload_n hx hb dX2_lowest_0 rfl (lv_at hl 0 rfl) ?_
  refine lv_iload_n hx hb dX2_lowest_1 rfl (lv_at hl 1 rfl) ?_
  have hPc : va_P D vwCl (wW cyD cyI cyJ cyZ aw ad ak ar au ae av ab df kf rf uf st fw fo sn me vf lf sp sb no) H := hP.sub [0, 1, 2, 3, 4, 5, 6, 7] rfl
  have hDc : va_D A (wW cyD cyI cyJ cyZ aw ad ak ar au ae av ab df kf rf uf st fw fo sn me vf lf sp sb no) := hD.sub [0, 1, 2, 3, 4, 5, 6, 7] (by decide) rfl
  refine kzE (ws' := (wW cyD cyI cyJ cyZ aw ad ak ar au ae av ab df kf rf uf st fw fo sn me vf lf sp sb no)) (wc := (wW cyD cyI cyJ cyZ aw ad ak ar au ae av ab df kf rf uf st fw fo sn me vf lf sp sb no)) (wr := []) (w1 := (wW cyD cyI cyJ cyZ aw ad ak ar au ae av ab df kf rf uf st fw fo sn me vf lf sp sb no)) (va_runV (As := [.int p1]) (rest := []) ⟨hx, hb, hml, hown, hts⟩ (c_X2_isEdited (l := l) (D := D) (cyD := cyD) (cyI := cyI) (cyJ := cyJ) (cyZ := cyZ) aw ad ak ar au ae av ab df kf rf uf st fw fo sn me vf lf sp sb no H.size p1) (cwV 1 hts gX2_lowest_X2_isEdited rfl rfl rfl (by decide +kernel) ⟨Nat.le_of_ble_eq_true rfl, Nat.le_of_ble_eq_true rfl⟩) (kV (ci := 2) (q0 := 0) (q := (RX2, TX2, 8)) hN hK hPc hDc rfl rfl rfl) rfl rfl hl.1 rfl (lv_room (Nat.le_of_ble_eq_true rfl)) dX2_lowest_2 ⟨Nat.le_of_ble_eq_true rfl, Nat.le_of_ble_eq_true rfl⟩) hP hD hS hA [0, 1, 2, 3, 4, 5, 6, 7] [] [0, 1, 2, 3, 4, 5, 6, 7] rfl rfl (by decide) (by decide) rfl (by decide) (fun H locs hz_2 hP hD hS => ?_)
  refine lv_if_eq (tgt := 24) hx hb dX2_lowest_5 (by decide) (fun c_5 => ?_) (fun c_5 => ?_)
  · refine lv_iconst (v := 0) hx hb dX2_lowest_24 (by decide) ?_
    have hF9 : (fX2_lowest df sn me p1) = (0 : Int32) := by rw [fX2_lowest, if_pos c_5]
    have hP9 : va_P D vwCl (wW cyD cyI cyJ cyZ aw ad ak ar au ae av ab df kf rf uf st fw fo sn me vf lf sp sb no) H := hP
    have hD9 : va_D A (wW cyD cyI cyJ cyZ aw ad ak ar au ae av ab df kf rf uf st fw fo sn me vf lf sp sb no) := hD
    exact W.iret (v := (0 : Int32)) hx hb hr (fun t ht hW => ⟨⟨(0 : Int32), (), rfl, (by rw [hF9]), by rw [ht]; exact hP9, va_K.moved hW.alike hK, hD9⟩, hS.F ht⟩) hS.2.2 dX2_lowest_25
  refine lv_aload_n hx hb dX2_lowest_8 rfl (lv_at hl 0 rfl) ?_
  refine va_get (D := D) (ci := 2) (v := .ref ae) (C := RX2) (T := TX2) (N := 8) hx hb hts (fun _ h => (List.mem_cons_of_mem _ (List.mem_append_left _ (List.mem_append_right _ h)))) hown hK hP 0 rfl rfl 0 (by decide) (hts (.fieldLink RX2 34 "BottomWalks$Walk" "echoes" "LBottomWalks$Echoes;") (List.mem_of_getElem? (i := 1) rfl)) (fun _ h9 => h9) rfl dX2_lowest_9 ?_
  refine lv_aload_n hx hb dX2_lowest_12 rfl (lv_at hl 0 rfl) ?_
  refine va_get (D := D) (ci := 2) (v := .ref ad) (C := RX2) (T := TX2) (N := 8) hx hb hts (fun _ h => (List.mem_cons_of_mem _ (List.mem_append_left _ (List.mem_append_right _ h)))) hown hK hP 0 rfl rfl 1 (by decide) (hts (.fieldLink RX2 9 "BottomWalks$Walk" "depthsTold" "[D") (List.mem_of_getElem? (i := 2) rfl)) (fun _ h9 => h9) rfl dX2_lowest_13 ?_
  refine lv_iload_n hx hb dX2_lowest_16 rfl (lv_at hl 1 rfl) ?_
  refine va_dald hx hb hK hP 1 0 rfl rfl (edited_in c_5) dX2_lowest_17 ?_
  have hPc : va_P D vwCl (wE cyD cyI cyJ cyZ ae av ab sn me vf lf sp sb no) H := hP.sub [5, 6, 7] rfl
  have hDc : va_D A (wE cyD cyI cyJ cyZ ae av ab sn me vf lf sp sb no) := hD.sub [5, 6, 7] (by decide) rfl
  refine kiE (ws' := (wW cyD cyI cyJ cyZ aw ad ak ar au ae av ab df kf rf uf st fw fo sn me vf lf sp sb no)) (wc := (wE cyD cyI cyJ cyZ ae av ab sn me vf lf sp sb no)) (wr := [(aw, .inr (2, [.ref ae, .ref ad, .ref ak, .ref ar, .ref au, .int st, .int fw, .int fo])), (ad, .inl (cyD, 32, .inr (.inr (.inr (.inl df))))), (ak, .inl (cyZ, 32, .inl kf)), (ar, .inl (cyI, 32, .inl rf)), (au, .inl (cyJ, 32 * sn, .inr (.inl uf)))]) (w1 := (wE cyD cyI cyJ cyZ ae av ab sn me vf lf sp sb no)) (va_runV (As := [.double (df p1.toNatClampNeg)]) (rest := []) ⟨hx, hb, hml, hown, hts⟩ (c_X0_sampleFor (l := l) (D := D) (cyD := cyD) (cyI := cyI) (cyJ := cyJ) (cyZ := cyZ) ae av ab sn me vf lf sp sb no H.size (df p1.toNatClampNeg) hE) (cwV 1 hts gX2_lowest_X0_sampleFor rfl rfl rfl (by decide +kernel) ⟨Nat.le_of_ble_eq_true rfl, Nat.le_of_ble_eq_true rfl⟩) (kV (ci := 0) (q0 := 0) (q := (RX0, TX0, 7)) hN hK hPc hDc rfl rfl rfl) rfl rfl hl.1 rfl (lv_room (Nat.le_of_ble_eq_true rfl)) dX2_lowest_18 ⟨Nat.le_of_ble_eq_true rfl, Nat.le_of_ble_eq_true rfl⟩) hP hD hS hA [5, 6, 7] [0, 1, 2, 3, 4] [0, 1, 2, 3, 4, 5, 6, 7] rfl rfl (by decide) (by decide) rfl (by decide) (fun H locs hP hD hS => ?_)
  refine lv_goto (tgt := 25) hx hb dX2_lowest_21 (by decide) ?_
  have hF9 : (fX2_lowest df sn me p1) = (fX0_sampleFor sn me (df p1.toNatClampNeg)) := by rw [fX2_lowest, if_neg c_5]
  have hP9 : va_P D vwCl (wW cyD cyI cyJ cyZ aw ad ak ar au ae av ab df kf rf uf st fw fo sn me vf lf sp sb no) H := hP
  have hD9 : va_D A (wW cyD cyI cyJ cyZ aw ad ak ar au ae av ab df kf rf uf st fw fo sn me vf lf sp sb no) := hD
  exact W.iret (v := (fX0_sampleFor sn me (df p1.toNatClampNeg))) hx hb hr (fun t ht hW => ⟨⟨(fX0_sampleFor sn me (df p1.toNatClampNeg)), (), rfl, (by rw [hF9]), by rw [ht]; exact hP9, va_K.moved hW.alike hK, hD9⟩, hS.F ht⟩) hS.2.2 dX2_lowest_25
def fX2_highest (df : Nat → UInt64) (sn : Nat) (me : UInt64) (p1 : Int32) : Int32 := if (fX2_isEdited df p1) = 0 then ((nI sn) - (1 : Int32)) else ((fX0_sampleFor sn me (df p1.toNatClampNeg)))
set_option maxHeartbeats 4000000 in
set_option maxRecDepth 100000 in
theorem c_X2_highest {l : Launch} {D : va_G} {cyD cyI cyJ cyZ : ClassId} (aw ad ak ar au ae av ab : Nat) (df : Nat → UInt64) (kf : Nat → Int32) (rf : Nat → Int32) (uf : Nat → Int64) (st : Int32) (fw : Int32) (fo : Int32) (sn : Nat) (me : UInt64) (vf : Nat → UInt64) (lf : Nat → Int32) (sp : UInt64) (sb : UInt64) (no : UInt64) (sz : Nat) (p1 : Int32) (hE : okE sn me vf sp sb no) : mI l yX2_highest wsX2_highest ({ frames := 2, cells := 0, slots := 0, locals := 44 } : Room) D (kT cyD cyI cyJ cyZ) [.ref aw, .int p1] (wW cyD cyI cyJ cyZ aw ad ak ar au ae av ab df kf rf uf st fw fo sn me vf lf sp sb no) (wW cyD cyI cyJ cyZ aw ad ak ar au ae av ab df kf rf uf st fw fo sn me vf lf sp sb no) sz (fX2_highest df sn me p1) 0 0 := by
  refine Met.ofW (cc := cX2_highest) (maxL := 2) (ret := (some .int)) (by decide) rfl ?_
  intro p e s m args below meth c s₁ B hml hv
  obtain ⟨rfl, hN, hsz, hP, hK, hD0⟩ := hv
  have hx := B.exec
  have hb := B.bytes
  have hr := B.returns
  have hts := atoms_spec (ws := wsX2_highest) B.pre
  have hown : s.vm.findClass RX2 = some m.cls := findClass_of_methodNamed B.named
  have hlocks := B.notSynchronized
  subst hsz
  have hD := hD0.self (sz := s.heap.size)
  generalize hAe : va_A (wW cyD cyI cyJ cyZ aw ad ak ar au ae av ab df kf rf uf st fw fo sn me vf lf sp sb no) s.heap.size = A at hD ⊢
  have hA : ∀ q : Nat, s.heap.size ≤ q → A q := fun q h => by rw [← hAe]; exact Or.inr h
  have hS : va_S A s.heap s.heap [] := va_S.rf
  have hP : va_P D vwCl (wW cyD cyI cyJ cyZ aw ad ak ar au ae av ab df kf rf uf st fw fo sn me vf lf sp sb no) s.heap := hP
  have hl := lv_entry [.ref aw, .int p1] (n := 2) (Nat.le_of_ble_eq_true rfl)
  rw [lg_entry_eq]
  generalize (lg_sl [.ref aw, .int p1] ++ List.replicate (2 - (lg_sl [.ref aw, .int p1]).length) Slot.unset).toArray = ls at hl ⊢
  have hl : lv_has ls 2 [(0, .ref aw), (1, .int p1)] := hl
  obtain ⟨H, hHe⟩ : ∃ H : Heap, H = s.heap := ⟨_, rfl⟩
  have hP : va_P D vwCl (wW cyD cyI cyJ cyZ aw ad ak ar au ae av ab df kf rf uf st fw fo sn me vf lf sp sb no) H := by rw [hHe]; exact hP
  have hS : va_S A s.heap H [] := by rw [hHe]; exact hS
  rw [← hHe]
  refine lv_aload_n hx hb dX2_highest_0 rfl (lv_at hl 0 rfl) ?_
  refine lv_iload_n hx hb dX2_highest_1 rfl (lv_at hl 1 rfl) ?_
  have hPc : va_P D vwCl (wW cyD cyI cyJ cyZ aw ad ak ar au ae av ab df kf rf uf st fw fo sn me vf lf sp sb no) H := hP.sub [0, 1, 2, 3, 4, 5, 6, 7] rfl
  have hDc : va_D A (wW cyD cyI cyJ cyZ aw ad ak ar au ae av ab df kf rf uf st fw fo sn me vf lf sp sb no) := hD.sub [0, 1, 2, 3, 4, 5, 6, 7] (by decide) rfl
  refine kzE (ws' := (wW cyD cyI cyJ cyZ aw ad ak ar au ae av ab df kf rf uf st fw fo sn me vf lf sp sb no)) (wc := (wW cyD cyI cyJ cyZ aw ad ak ar au ae av ab df kf rf uf st fw fo sn me vf lf sp sb no)) (wr := []) (w1 := (wW cyD cyI cyJ cyZ aw ad ak ar au ae av ab df kf rf uf st fw fo sn me vf lf sp sb no)) (va_runV (As := [.int p1]) (rest := []) ⟨hx, hb, hml, hown, hts⟩ (c_X2_isEdited (l := l) (D := D) (cyD := cyD) (cyI := cyI) (cyJ := cyJ) (cyZ := cyZ) aw ad ak ar au ae av ab df kf rf uf st fw fo sn me vf lf sp sb no H.size p1) (cwV 1 hts gX2_highest_X2_isEdited rfl rfl rfl (by decide +kernel) ⟨Nat.le_of_ble_eq_true rfl, Nat.le_of_ble_eq_true rfl⟩) (kV (ci := 2) (q0 := 0) (q := (RX2, TX2, 8)) hN hK hPc hDc rfl rfl rfl) rfl rfl hl.1 rfl (lv_room (Nat.le_of_ble_eq_true rfl)) dX2_highest_2 ⟨Nat.le_of_ble_eq_true rfl, Nat.le_of_ble_eq_true rfl⟩) hP hD hS hA [0, 1, 2, 3, 4, 5, 6, 7] [] [0, 1, 2, 3, 4, 5, 6, 7] rfl rfl (by decide) (by decide) rfl (by decide) (fun H locs hz_2 hP hD hS => ?_)
  refine lv_if_eq (tgt := 24) hx hb dX2_highest_5 (by decide) (fun c_5 => ?_) (fun c_5 => ?_)
  · refine lv_aload_n hx hb dX2_highest_24 rfl (lv_at hl 0 rfl) ?_
    refine va_get (D := D) (ci := 2) (v := .ref ae) (C := RX2) (T := TX2) (N := 8) hx hb hts (fun _ h => (List.mem_cons_of_mem _ (List.mem_append_left _ (List.mem_append_right _ h)))) hown hK hP 0 rfl rfl 0 (by decide) (hts (.fieldLink RX2 34 "BottomWalks$Walk" "echoes" "LBottomWalks$Echoes;") (List.mem_of_getElem? (i := 1) rfl)) (fun _ h9 => h9) rfl dX2_highest_25 ?_
    refine va_get (D := D) (ci := 0) (v := .int (nI sn)) (C := RX0) (T := TX0) (N := 7) hx hb hts (fun _ h => (List.mem_cons_of_mem _ (List.mem_append_right _ h))) hown hK hP 5 rfl rfl 0 (by decide) (hts (.fieldLink RX2 38 "BottomWalks$Echoes" "samples" "I") (List.mem_of_getElem? (i := 3) rfl)) (fun _ h9 => h9) rfl dX2_highest_28 ?_
    refine lv_iconst (v := 1) hx hb dX2_highest_31 (by decide) ?_
    refine lv_isub hx hb dX2_highest_32 ?_
    have hF9 : (fX2_highest df sn me p1) = ((nI sn) - (1 : Int32)) := by rw [fX2_highest, if_pos c_5]
    have hP9 : va_P D vwCl (wW cyD cyI cyJ cyZ aw ad ak ar au ae av ab df kf rf uf st fw fo sn me vf lf sp sb no) H := hP
    have hD9 : va_D A (wW cyD cyI cyJ cyZ aw ad ak ar au ae av ab df kf rf uf st fw fo sn me vf lf sp sb no) := hD
    exact W.iret (v := ((nI sn) - (1 : Int32))) hx hb hr (fun t ht hW => ⟨⟨((nI sn) - (1 : Int32)), (), rfl, (by rw [hF9]), by rw [ht]; exact hP9, va_K.moved hW.alike hK, hD9⟩, hS.F ht⟩) hS.2.2 dX2_highest_33
  refine lv_aload_n hx hb dX2_highest_8 rfl (lv_at hl 0 rfl) ?_
  refine va_get (D := D) (ci := 2) (v := .ref ae) (C := RX2) (T := TX2) (N := 8) hx hb hts (fun _ h => (List.mem_cons_of_mem _ (List.mem_append_left _ (List.mem_append_right _ h)))) hown hK hP 0 rfl rfl 0 (by decide) (hts (.fieldLink RX2 34 "BottomWalks$Walk" "echoes" "LBottomWalks$Echoes;") (List.mem_of_getElem? (i := 1) rfl)) (fun _ h9 => h9) rfl dX2_highest_9 ?_
  refine lv_aload_n hx hb dX2_highest_12 rfl (lv_at hl 0 rfl) ?_
  refine va_get (D := D) (ci := 2) (v := .ref ad) (C := RX2) (T := TX2) (N := 8) hx hb hts (fun _ h => (List.mem_cons_of_mem _ (List.mem_append_left _ (List.mem_append_right _ h)))) hown hK hP 0 rfl rfl 1 (by decide) (hts (.fieldLink RX2 9 "BottomWalks$Walk" "depthsTold" "[D") (List.mem_of_getElem? (i := 2) rfl)) (fun _ h9 => h9) rfl dX2_highest_13 ?_
  refine lv_iload_n hx hb dX2_highest_16 rfl (lv_at hl 1 rfl) ?_
  refine va_dald hx hb hK hP 1 0 rfl rfl (edited_in c_5) dX2_highest_17 ?_
  have hPc : va_P D vwCl (wE cyD cyI cyJ cyZ ae av ab sn me vf lf sp sb no) H := hP.sub [5, 6, 7] rfl
  have hDc : va_D A (wE cyD cyI cyJ cyZ ae av ab sn me vf lf sp sb no) := hD.sub [5, 6, 7] (by decide) rfl
  refine kiE (ws' := (wW cyD cyI cyJ cyZ aw ad ak ar au ae av ab df kf rf uf st fw fo sn me vf lf sp sb no)) (wc := (wE cyD cyI cyJ cyZ ae av ab sn me vf lf sp sb no)) (wr := [(aw, .inr (2, [.ref ae, .ref ad, .ref ak, .ref ar, .ref au, .int st, .int fw, .int fo])), (ad, .inl (cyD, 32, .inr (.inr (.inr (.inl df))))), (ak, .inl (cyZ, 32, .inl kf)), (ar, .inl (cyI, 32, .inl rf)), (au, .inl (cyJ, 32 * sn, .inr (.inl uf)))]) (w1 := (wE cyD cyI cyJ cyZ ae av ab sn me vf lf sp sb no)) (va_runV (As := [.double (df p1.toNatClampNeg)]) (rest := []) ⟨hx, hb, hml, hown, hts⟩ (c_X0_sampleFor (l := l) (D := D) (cyD := cyD) (cyI := cyI) (cyJ := cyJ) (cyZ := cyZ) ae av ab sn me vf lf sp sb no H.size (df p1.toNatClampNeg) hE) (cwV 1 hts gX2_highest_X0_sampleFor rfl rfl rfl (by decide +kernel) ⟨Nat.le_of_ble_eq_true rfl, Nat.le_of_ble_eq_true rfl⟩) (kV (ci := 0) (q0 := 0) (q := (RX0, TX0, 7)) hN hK hPc hDc rfl rfl rfl) rfl rfl hl.1 rfl (lv_room (Nat.le_of_ble_eq_true rfl)) dX2_highest_18 ⟨Nat.le_of_ble_eq_true rfl, Nat.le_of_ble_eq_true rfl⟩) hP hD hS hA [5, 6, 7] [0, 1, 2, 3, 4] [0, 1, 2, 3, 4, 5, 6, 7] rfl rfl (by decide) (by decide) rfl (by decide) (fun H locs hP hD hS => ?_)
  refine lv_goto (tgt := 33) hx hb dX2_highest_21 (by decide) ?_
  have hF9 : (fX2_highest df sn me p1) = (fX0_sampleFor sn me (df p1.toNatClampNeg)) := by rw [fX2_highest, if_neg c_5]
  have hP9 : va_P D vwCl (wW cyD cyI cyJ cyZ aw ad ak ar au ae av ab df kf rf uf st fw fo sn me vf lf sp sb no) H := hP
  have hD9 : va_D A (wW cyD cyI cyJ cyZ aw ad ak ar au ae av ab df kf rf uf st fw fo sn me vf lf sp sb no) := hD
  exact W.iret (v := (fX0_sampleFor sn me (df p1.toNatClampNeg))) hx hb hr (fun t ht hW => ⟨⟨(fX0_sampleFor sn me (df p1.toNatClampNeg)), (), rfl, (by rw [hF9]), by rw [ht]; exact hP9, va_K.moved hW.alike hK, hD9⟩, hS.F ht⟩) hS.2.2 dX2_highest_33
theorem lowest_nI {sn : Nat} (me : UInt64) (df : Nat → UInt64) (p : Int32) (h1 : 1 ≤ sn) (h2 : sn ≤ 64) : ∃ q : Nat, q < sn ∧ fX2_lowest df sn me p = nI q := by
  unfold fX2_lowest
  by_cases c : fX2_isEdited df p = 0
  · rw [if_pos c]; exact ⟨0, by omega, rfl⟩
  · rw [if_neg c]; exact sampleFor_nI _ _ h1 h2
theorem highest_nI {sn : Nat} (me : UInt64) (df : Nat → UInt64) (p : Int32) (h1 : 1 ≤ sn) (h2 : sn ≤ 64) : ∃ q : Nat, q < sn ∧ fX2_highest df sn me p = nI q := by
  unfold fX2_highest
  by_cases c : fX2_isEdited df p = 0
  · rw [if_pos c]; exact ⟨sn - 1, by omega, nI_sub1 h1⟩
  · rw [if_neg c]; exact sampleFor_nI _ _ h1 h2
def fX2_isForWalk (df : Nat → UInt64) (sn : Nat) (vf : Nat → UInt64) (lf : Nat → Int32) (p1 : Int32) (p2 : Int32) : Int32 := if (fX2_isEdited df p2) = 0 then (if (fX0_isLost lf p2) = 0 then (if (fX0_isSilent sn vf p1 p2) = 0 then (1 : Int32) else ((0 : Int32))) else ((0 : Int32))) else ((1 : Int32))
set_option maxHeartbeats 4000000 in
set_option maxRecDepth 100000 in
theorem c_X2_isForWalk {l : Launch} {D : va_G} {cyD cyI cyJ cyZ : ClassId} (aw ad ak ar au ae av ab : Nat) (df : Nat → UInt64) (kf : Nat → Int32) (rf : Nat → Int32) (uf : Nat → Int64) (st : Int32) (fw : Int32) (fo : Int32) (sn : Nat) (me : UInt64) (vf : Nat → UInt64) (lf : Nat → Int32) (sp : UInt64) (sb : UInt64) (no : UInt64) (sz : Nat) (p1 : Int32) (p2 : Int32) (hE : okE sn me vf sp sb no) : mZ l yX2_isForWalk wsX2_isForWalk ({ frames := 3, cells := 0, slots := 0, locals := 68 } : Room) D (kT cyD cyI cyJ cyZ) [.ref aw, .int p1, .int p2] (wW cyD cyI cyJ cyZ aw ad ak ar au ae av ab df kf rf uf st fw fo sn me vf lf sp sb no) (wW cyD cyI cyJ cyZ aw ad ak ar au ae av ab df kf rf uf st fw fo sn me vf lf sp sb no) sz (fX2_isForWalk df sn vf lf p1 p2) 0 0 := by
  refine Met.ofW (cc := cX2_isForWalk) (maxL := 3) (ret := (some .boolean)) (by decide) rfl ?_
  intro p e s m args below meth c s₁ B hml hv
  obtain ⟨rfl, hN, hsz, hP, hK, hD0⟩ := hv
  have hx := B.exec
  have hb := B.bytes
  have hr := B.returns
  have hts := atoms_spec (ws := wsX2_isForWalk) B.pre
  have hown : s.vm.findClass RX2 = some m.cls := findClass_of_methodNamed B.named
  have hlocks := B.notSynchronized
  subst hsz
  have hD := hD0.self (sz := s.heap.size)
  generalize hAe : va_A (wW cyD cyI cyJ cyZ aw ad ak ar au ae av ab df kf rf uf st fw fo sn me vf lf sp sb no) s.heap.size = A at hD ⊢
  have hA : ∀ q : Nat, s.heap.size ≤ q → A q := fun q h => by rw [← hAe]; exact Or.inr h
  have hS : va_S A s.heap s.heap [] := va_S.rf
  have hP : va_P D vwCl (wW cyD cyI cyJ cyZ aw ad ak ar au ae av ab df kf rf uf st fw fo sn me vf lf sp sb no) s.heap := hP
  have hl := lv_entry [.ref aw, .int p1, .int p2] (n := 3) (Nat.le_of_ble_eq_true rfl)
  rw [lg_entry_eq]
  generalize (lg_sl [.ref aw, .int p1, .int p2] ++ List.replicate (3 - (lg_sl [.ref aw, .int p1, .int p2]).length) Slot.unset).toArray = ls at hl ⊢
  have hl : lv_has ls 3 [(0, .ref aw), (1, .int p1), (2, .int p2)] := hl
  obtain ⟨H, hHe⟩ : ∃ H : Heap, H = s.heap := ⟨_, rfl⟩
  have hP : va_P D vwCl (wW cyD cyI cyJ cyZ aw ad ak ar au ae av ab df kf rf uf st fw fo sn me vf lf sp sb no) H := by rw [hHe]; exact hP
  have hS : va_S A s.heap H [] := by rw [hHe]; exact hS
  rw [← hHe]
  refine lv_aload_n hx hb dX2_isForWalk_0 rfl (lv_at hl 0 rfl) ?_
  refine lv_iload_n hx hb dX2_isForWalk_1 rfl (lv_at hl 2 rfl) ?_
  have hPc : va_P D vwCl (wW cyD cyI cyJ cyZ aw ad ak ar au ae av ab df kf rf uf st fw fo sn me vf lf sp sb no) H := hP.sub [0, 1, 2, 3, 4, 5, 6, 7] rfl
  have hDc : va_D A (wW cyD cyI cyJ cyZ aw ad ak ar au ae av ab df kf rf uf st fw fo sn me vf lf sp sb no) := hD.sub [0, 1, 2, 3, 4, 5, 6, 7] (by decide) rfl
  refine kzE (ws' := (wW cyD cyI cyJ cyZ aw ad ak ar au ae av ab df kf rf uf st fw fo sn me vf lf sp sb no)) (wc := (wW cyD cyI cyJ cyZ aw ad ak ar au ae av ab df kf rf uf st fw fo sn me vf lf sp sb no)) (wr := []) (w1 := (wW cyD cyI cyJ cyZ aw ad ak ar au ae av ab df kf rf uf st fw fo sn me vf lf sp sb no)) (va_runV (As := [.int p2]) (rest := []) ⟨hx, hb, hml, hown, hts⟩ (c_X2_isEdited (l := l) (D := D) (cyD := cyD) (cyI := cyI) (cyJ := cyJ) (cyZ := cyZ) aw ad ak ar au ae av ab df kf rf uf st fw fo sn me vf lf sp sb no H.size p2) (cwV 1 hts gX2_isForWalk_X2_isEdited rfl rfl rfl (by decide +kernel) ⟨Nat.le_of_ble_eq_true rfl, Nat.le_of_ble_eq_true rfl⟩) (kV (ci := 2) (q0 := 0) (q := (RX2, TX2, 8)) hN hK hPc hDc rfl rfl rfl) rfl rfl hl.1 rfl (lv_room (Nat.le_of_ble_eq_true rfl)) dX2_isForWalk_2 ⟨Nat.le_of_ble_eq_true rfl, Nat.le_of_ble_eq_true rfl⟩) hP hD hS hA [0, 1, 2, 3, 4, 5, 6, 7] [] [0, 1, 2, 3, 4, 5, 6, 7] rfl rfl (by decide) (by decide) rfl (by decide) (fun H locs hz_2 hP hD hS => ?_)
  refine lv_if_ne (tgt := 31) hx hb dX2_isForWalk_5 (by decide) (fun c_5 => ?_) (fun c_5 => ?_)
  · refine lv_iconst (v := 1) hx hb dX2_isForWalk_31 (by decide) ?_
    refine lv_goto (tgt := 36) hx hb dX2_isForWalk_32 (by decide) ?_
    have hF9 : (fX2_isForWalk df sn vf lf p1 p2) = (1 : Int32) := by rw [fX2_isForWalk, if_neg c_5]
    have hP9 : va_P D vwCl (wW cyD cyI cyJ cyZ aw ad ak ar au ae av ab df kf rf uf st fw fo sn me vf lf sp sb no) H := hP
    have hD9 : va_D A (wW cyD cyI cyJ cyZ aw ad ak ar au ae av ab df kf rf uf st fw fo sn me vf lf sp sb no) := hD
    exact W.zret (v := (1 : Int32)) hx hb hr (nar_z (Or.inr rfl)) (fun t ht hW => ⟨⟨(1 : Int32), (), rfl, ⟨(by rw [hF9]), (Or.inr rfl)⟩, by rw [ht]; exact hP9, va_K.moved hW.alike hK, hD9⟩, hS.F ht⟩) hS.2.2 dX2_isForWalk_36
  refine lv_aload_n hx hb dX2_isForWalk_8 rfl (lv_at hl 0 rfl) ?_
  refine va_get (D := D) (ci := 2) (v := .ref ae) (C := RX2) (T := TX2) (N := 8) hx hb hts (fun _ h => (List.mem_cons_of_mem _ (List.mem_append_left _ (List.mem_append_right _ h)))) hown hK hP 0 rfl rfl 0 (by decide) (hts (.fieldLink RX2 34 "BottomWalks$Walk" "echoes" "LBottomWalks$Echoes;") (List.mem_of_getElem? (i := 1) rfl)) (fun _ h9 => h9) rfl dX2_isForWalk_9 ?_
  refine lv_iload_n hx hb dX2_isForWalk_12 rfl (lv_at hl 2 rfl) ?_
  have hPc : va_P D vwCl (wE cyD cyI cyJ cyZ ae av ab sn me vf lf sp sb no) H := hP.sub [5, 6, 7] rfl
  have hDc : va_D A (wE cyD cyI cyJ cyZ ae av ab sn me vf lf sp sb no) := hD.sub [5, 6, 7] (by decide) rfl
  refine kzE (ws' := (wW cyD cyI cyJ cyZ aw ad ak ar au ae av ab df kf rf uf st fw fo sn me vf lf sp sb no)) (wc := (wE cyD cyI cyJ cyZ ae av ab sn me vf lf sp sb no)) (wr := [(aw, .inr (2, [.ref ae, .ref ad, .ref ak, .ref ar, .ref au, .int st, .int fw, .int fo])), (ad, .inl (cyD, 32, .inr (.inr (.inr (.inl df))))), (ak, .inl (cyZ, 32, .inl kf)), (ar, .inl (cyI, 32, .inl rf)), (au, .inl (cyJ, 32 * sn, .inr (.inl uf)))]) (w1 := (wE cyD cyI cyJ cyZ ae av ab sn me vf lf sp sb no)) (va_runV (As := [.int p2]) (rest := []) ⟨hx, hb, hml, hown, hts⟩ (c_X0_isLost (l := l) (D := D) (cyD := cyD) (cyI := cyI) (cyJ := cyJ) (cyZ := cyZ) ae av ab sn me vf lf sp sb no H.size p2) (cwV 1 hts gX2_isForWalk_X0_isLost rfl rfl rfl (by decide +kernel) ⟨Nat.le_of_ble_eq_true rfl, Nat.le_of_ble_eq_true rfl⟩) (kV (ci := 0) (q0 := 0) (q := (RX0, TX0, 7)) hN hK hPc hDc rfl rfl rfl) rfl rfl hl.1 rfl (lv_room (Nat.le_of_ble_eq_true rfl)) dX2_isForWalk_13 ⟨Nat.le_of_ble_eq_true rfl, Nat.le_of_ble_eq_true rfl⟩) hP hD hS hA [5, 6, 7] [0, 1, 2, 3, 4] [0, 1, 2, 3, 4, 5, 6, 7] rfl rfl (by decide) (by decide) rfl (by decide) (fun H locs hz_13 hP hD hS => ?_)
  refine lv_if_ne (tgt := 35) hx hb dX2_isForWalk_16 (by decide) (fun c_16 => ?_) (fun c_16 => ?_)
  · refine lv_iconst (v := 0) hx hb dX2_isForWalk_35 (by decide) ?_
    have hF9 : (fX2_isForWalk df sn vf lf p1 p2) = (0 : Int32) := by rw [fX2_isForWalk, if_pos c_5, if_neg c_16]
    have hP9 : va_P D vwCl (wW cyD cyI cyJ cyZ aw ad ak ar au ae av ab df kf rf uf st fw fo sn me vf lf sp sb no) H := hP
    have hD9 : va_D A (wW cyD cyI cyJ cyZ aw ad ak ar au ae av ab df kf rf uf st fw fo sn me vf lf sp sb no) := hD
    exact W.zret (v := (0 : Int32)) hx hb hr (nar_z (Or.inl rfl)) (fun t ht hW => ⟨⟨(0 : Int32), (), rfl, ⟨(by rw [hF9]), (Or.inl rfl)⟩, by rw [ht]; exact hP9, va_K.moved hW.alike hK, hD9⟩, hS.F ht⟩) hS.2.2 dX2_isForWalk_36
  refine lv_aload_n hx hb dX2_isForWalk_19 rfl (lv_at hl 0 rfl) ?_
  refine va_get (D := D) (ci := 2) (v := .ref ae) (C := RX2) (T := TX2) (N := 8) hx hb hts (fun _ h => (List.mem_cons_of_mem _ (List.mem_append_left _ (List.mem_append_right _ h)))) hown hK hP 0 rfl rfl 0 (by decide) (hts (.fieldLink RX2 34 "BottomWalks$Walk" "echoes" "LBottomWalks$Echoes;") (List.mem_of_getElem? (i := 1) rfl)) (fun _ h9 => h9) rfl dX2_isForWalk_20 ?_
  refine lv_iload_n hx hb dX2_isForWalk_23 rfl (lv_at hl 1 rfl) ?_
  refine lv_iload_n hx hb dX2_isForWalk_24 rfl (lv_at hl 2 rfl) ?_
  have hPc : va_P D vwCl (wE cyD cyI cyJ cyZ ae av ab sn me vf lf sp sb no) H := hP.sub [5, 6, 7] rfl
  have hDc : va_D A (wE cyD cyI cyJ cyZ ae av ab sn me vf lf sp sb no) := hD.sub [5, 6, 7] (by decide) rfl
  refine kzE (ws' := (wW cyD cyI cyJ cyZ aw ad ak ar au ae av ab df kf rf uf st fw fo sn me vf lf sp sb no)) (wc := (wE cyD cyI cyJ cyZ ae av ab sn me vf lf sp sb no)) (wr := [(aw, .inr (2, [.ref ae, .ref ad, .ref ak, .ref ar, .ref au, .int st, .int fw, .int fo])), (ad, .inl (cyD, 32, .inr (.inr (.inr (.inl df))))), (ak, .inl (cyZ, 32, .inl kf)), (ar, .inl (cyI, 32, .inl rf)), (au, .inl (cyJ, 32 * sn, .inr (.inl uf)))]) (w1 := (wE cyD cyI cyJ cyZ ae av ab sn me vf lf sp sb no)) (va_runV (As := [.int p1, .int p2]) (rest := []) ⟨hx, hb, hml, hown, hts⟩ (c_X0_isSilent (l := l) (D := D) (cyD := cyD) (cyI := cyI) (cyJ := cyJ) (cyZ := cyZ) ae av ab sn me vf lf sp sb no H.size p1 p2 hE) (cwV 2 hts gX2_isForWalk_X0_isSilent rfl rfl rfl (by decide +kernel) ⟨Nat.le_of_ble_eq_true rfl, Nat.le_of_ble_eq_true rfl⟩) (kV (ci := 0) (q0 := 0) (q := (RX0, TX0, 7)) hN hK hPc hDc rfl rfl rfl) rfl rfl hl.1 rfl (lv_room (Nat.le_of_ble_eq_true rfl)) dX2_isForWalk_25 ⟨Nat.le_of_ble_eq_true rfl, Nat.le_of_ble_eq_true rfl⟩) hP hD hS hA [5, 6, 7] [0, 1, 2, 3, 4] [0, 1, 2, 3, 4, 5, 6, 7] rfl rfl (by decide) (by decide) rfl (by decide) (fun H locs hz_25 hP hD hS => ?_)
  refine lv_if_ne (tgt := 35) hx hb dX2_isForWalk_28 (by decide) (fun c_28 => ?_) (fun c_28 => ?_)
  · refine lv_iconst (v := 0) hx hb dX2_isForWalk_35 (by decide) ?_
    have hF9 : (fX2_isForWalk df sn vf lf p1 p2) = (0 : Int32) := by rw [fX2_isForWalk, if_pos c_5, if_pos c_16, if_neg c_28]
    have hP9 : va_P D vwCl (wW cyD cyI cyJ cyZ aw ad ak ar au ae av ab df kf rf uf st fw fo sn me vf lf sp sb no) H := hP
    have hD9 : va_D A (wW cyD cyI cyJ cyZ aw ad ak ar au ae av ab df kf rf uf st fw fo sn me vf lf sp sb no) := hD
    exact W.zret (v := (0 : Int32)) hx hb hr (nar_z (Or.inl rfl)) (fun t ht hW => ⟨⟨(0 : Int32), (), rfl, ⟨(by rw [hF9]), (Or.inl rfl)⟩, by rw [ht]; exact hP9, va_K.moved hW.alike hK, hD9⟩, hS.F ht⟩) hS.2.2 dX2_isForWalk_36
  refine lv_iconst (v := 1) hx hb dX2_isForWalk_31 (by decide) ?_
  refine lv_goto (tgt := 36) hx hb dX2_isForWalk_32 (by decide) ?_
  have hF9 : (fX2_isForWalk df sn vf lf p1 p2) = (1 : Int32) := by rw [fX2_isForWalk, if_pos c_5, if_pos c_16, if_pos c_28]
  have hP9 : va_P D vwCl (wW cyD cyI cyJ cyZ aw ad ak ar au ae av ab df kf rf uf st fw fo sn me vf lf sp sb no) H := hP
  have hD9 : va_D A (wW cyD cyI cyJ cyZ aw ad ak ar au ae av ab df kf rf uf st fw fo sn me vf lf sp sb no) := hD
  exact W.zret (v := (1 : Int32)) hx hb hr (nar_z (Or.inr rfl)) (fun t ht hW => ⟨⟨(1 : Int32), (), rfl, ⟨(by rw [hF9]), (Or.inr rfl)⟩, by rw [ht]; exact hP9, va_K.moved hW.alike hK, hD9⟩, hS.F ht⟩) hS.2.2 dX2_isForWalk_36
def fX2_hasPing_L2 (df : Nat → UInt64) (sn : Nat) (vf : Nat → UInt64) (lf : Nat → Int32)  (p1 : Int32) (p2 : Int32) : Nat → (Int32) → Int32
  | 0, v_j => 0
  | k + 1, v_j => if p2 ≤ v_j then (0 : Int32) else (if (fX2_isForWalk df sn vf lf p1 (v_j)) = 0 then (fX2_hasPing_L2 df sn vf lf p1 p2 k ((v_j) + 1)) else ((1 : Int32)))
def fX2_hasPing (df : Nat → UInt64) (sn : Nat) (vf : Nat → UInt64) (lf : Nat → Int32) (p1 : Int32) (p2 : Int32) : Int32 := (fX2_hasPing_L2 df sn vf lf p1 p2 33 (0 : Int32))
set_option maxHeartbeats 4000000 in
set_option maxRecDepth 100000 in
theorem c_X2_hasPing {l : Launch} {D : va_G} {cyD cyI cyJ cyZ : ClassId} (aw ad ak ar au ae av ab : Nat) (df : Nat → UInt64) (kf : Nat → Int32) (rf : Nat → Int32) (uf : Nat → Int64) (st : Int32) (fw : Int32) (fo : Int32) (sn : Nat) (me : UInt64) (vf : Nat → UInt64) (lf : Nat → Int32) (sp : UInt64) (sb : UInt64) (no : UInt64) (sz : Nat) (p1 : Int32) (p2 : Int32) (hE : okE sn me vf sp sb no) (q : Nat) (hp2 : p2 = nI q) (hq : q ≤ 32) : mZ l yX2_hasPing wsX2_hasPing ({ frames := 4, cells := 0, slots := 0, locals := 90 } : Room) D (kT cyD cyI cyJ cyZ) [.ref aw, .int p1, .int p2] (wW cyD cyI cyJ cyZ aw ad ak ar au ae av ab df kf rf uf st fw fo sn me vf lf sp sb no) (wW cyD cyI cyJ cyZ aw ad ak ar au ae av ab df kf rf uf st fw fo sn me vf lf sp sb no) sz (fX2_hasPing df sn vf lf p1 p2) 0 0 := by
  refine Met.ofW (cc := cX2_hasPing) (maxL := 4) (ret := (some .boolean)) (by decide) rfl ?_
  intro p e s m args below meth c s₁ B hml hv
  obtain ⟨rfl, hN, hsz, hP, hK, hD0⟩ := hv
  have hx := B.exec
  have hb := B.bytes
  have hr := B.returns
  have hts := atoms_spec (ws := wsX2_hasPing) B.pre
  have hown : s.vm.findClass RX2 = some m.cls := findClass_of_methodNamed B.named
  have hlocks := B.notSynchronized
  subst hsz
  have hD := hD0.self (sz := s.heap.size)
  generalize hAe : va_A (wW cyD cyI cyJ cyZ aw ad ak ar au ae av ab df kf rf uf st fw fo sn me vf lf sp sb no) s.heap.size = A at hD ⊢
  have hA : ∀ q : Nat, s.heap.size ≤ q → A q := fun q h => by rw [← hAe]; exact Or.inr h
  have hS : va_S A s.heap s.heap [] := va_S.rf
  have hP : va_P D vwCl (wW cyD cyI cyJ cyZ aw ad ak ar au ae av ab df kf rf uf st fw fo sn me vf lf sp sb no) s.heap := hP
  have hl := lv_entry [.ref aw, .int p1, .int p2] (n := 4) (Nat.le_of_ble_eq_true rfl)
  rw [lg_entry_eq]
  generalize (lg_sl [.ref aw, .int p1, .int p2] ++ List.replicate (4 - (lg_sl [.ref aw, .int p1, .int p2]).length) Slot.unset).toArray = ls at hl ⊢
  have hl : lv_has ls 4 [(0, .ref aw), (1, .int p1), (2, .int p2)] := hl
  obtain ⟨H, hHe⟩ : ∃ H : Heap, H = s.heap := ⟨_, rfl⟩
  have hP : va_P D vwCl (wW cyD cyI cyJ cyZ aw ad ak ar au ae av ab df kf rf uf st fw fo sn me vf lf sp sb no) H := by rw [hHe]; exact hP
  have hS : va_S A s.heap H [] := by rw [hHe]; exact hS
  rw [← hHe]
  refine lv_iconst (v := 0) hx hb dX2_hasPing_0 (by decide) ?_
  refine lv_istore_n (lv' := [(3, .int (0 : Int32)), (0, .ref aw), (1, .int p1), (2, .int p2)]) hx hb dX2_hasPing_1 rfl hl (by decide) rfl (fun ls hl => ?_)
  have loop_2 : ∀ (k : Nat) (j : Nat) (H : Heap) (locs : List Loc), (j + k = 33) → (j ≤ q) → (fX2_hasPing df sn vf lf p1 p2) = fX2_hasPing_L2 df sn vf lf p1 p2 k ((nI j)) → va_P D vwCl (wW cyD cyI cyJ cyZ aw ad ak ar au ae av ab df kf rf uf st fw fo sn me vf lf sp sb no) H → va_D A (wW cyD cyI cyJ cyZ aw ad ak ar au ae av ab df kf rf uf st fw fo sn me vf lf sp sb no) → va_S A s.heap H locs → ∀ ls, lv_has ls 4 [(3, .int ((nI j))), (0, .ref aw), (1, .int p1), (2, .int p2)] → W p l e (headSpec wsX2_hasPing ({ frames := 4, cells := 0, slots := 0, locals := 90 } : Room)).room s m ([.ref aw, .int p1, .int p2] : List Value).toArray below meth c H locs 0 0 (MQ below (va_Qi (fun (r : Int32) (_ : Unit) => r = (fX2_hasPing df sn vf lf p1 p2) ∧ (r = 0 ∨ r = 1)) (kE D (kT cyD cyI cyJ cyZ) (wW cyD cyI cyJ cyZ aw ad ak ar au ae av ab df kf rf uf st fw fo sn me vf lf sp sb no) A) A) ([.ref aw, .int p1, .int p2] : List Value).toArray s 0 0 A) (F0 m 2 ls []) := by
    intro k_2
    induction k_2 with
    | zero => intro j H locs hj hj2 hF hP hD hS ls hl; exact absurd hq (by omega)
    | succ k_2 ih_2 =>
      intro j H locs hj hj2 hF hP hD hS ls hl
      refine lv_iload_n hx hb dX2_hasPing_2 rfl (lv_at hl 0 rfl) ?_
      refine lv_iload_n hx hb dX2_hasPing_3 rfl (lv_at hl 3 rfl) ?_
      refine lv_icmp_ge (tgt := 24) hx hb dX2_hasPing_4 (by decide) (fun c_4 => ?_) (fun c_4 => ?_)
      · refine lv_iconst (v := 0) hx hb dX2_hasPing_24 (by decide) ?_
        have hF9 : (fX2_hasPing df sn vf lf p1 p2) = (0 : Int32) := by rw [hF, fX2_hasPing_L2, if_pos c_4]
        have hP9 : va_P D vwCl (wW cyD cyI cyJ cyZ aw ad ak ar au ae av ab df kf rf uf st fw fo sn me vf lf sp sb no) H := hP
        have hD9 : va_D A (wW cyD cyI cyJ cyZ aw ad ak ar au ae av ab df kf rf uf st fw fo sn me vf lf sp sb no) := hD
        exact W.zret (v := (0 : Int32)) hx hb hr (nar_z (Or.inl rfl)) (fun t ht hW => ⟨⟨(0 : Int32), (), rfl, ⟨(by rw [hF9]), (Or.inl rfl)⟩, by rw [ht]; exact hP9, va_K.moved hW.alike hK, hD9⟩, hS.F ht⟩) hS.2.2 dX2_hasPing_25
      refine lv_aload_n hx hb dX2_hasPing_7 rfl (lv_at hl 1 rfl) ?_
      refine lv_iload_n hx hb dX2_hasPing_8 rfl (lv_at hl 2 rfl) ?_
      refine lv_iload_n hx hb dX2_hasPing_9 rfl (lv_at hl 0 rfl) ?_
      have hPc : va_P D vwCl (wW cyD cyI cyJ cyZ aw ad ak ar au ae av ab df kf rf uf st fw fo sn me vf lf sp sb no) H := hP.sub [0, 1, 2, 3, 4, 5, 6, 7] rfl
      have hDc : va_D A (wW cyD cyI cyJ cyZ aw ad ak ar au ae av ab df kf rf uf st fw fo sn me vf lf sp sb no) := hD.sub [0, 1, 2, 3, 4, 5, 6, 7] (by decide) rfl
      refine kzE (ws' := (wW cyD cyI cyJ cyZ aw ad ak ar au ae av ab df kf rf uf st fw fo sn me vf lf sp sb no)) (wc := (wW cyD cyI cyJ cyZ aw ad ak ar au ae av ab df kf rf uf st fw fo sn me vf lf sp sb no)) (wr := []) (w1 := (wW cyD cyI cyJ cyZ aw ad ak ar au ae av ab df kf rf uf st fw fo sn me vf lf sp sb no)) (va_runV (As := [.int p1, .int ((nI j))]) (rest := []) ⟨hx, hb, hml, hown, hts⟩ (c_X2_isForWalk (l := l) (D := D) (cyD := cyD) (cyI := cyI) (cyJ := cyJ) (cyZ := cyZ) aw ad ak ar au ae av ab df kf rf uf st fw fo sn me vf lf sp sb no H.size p1 ((nI j)) hE) (cwV 2 hts gX2_hasPing_X2_isForWalk rfl rfl rfl (by decide +kernel) ⟨Nat.le_of_ble_eq_true rfl, Nat.le_of_ble_eq_true rfl⟩) (kV (ci := 2) (q0 := 0) (q := (RX2, TX2, 8)) hN hK hPc hDc rfl rfl rfl) rfl rfl hl.1 rfl (lv_room (Nat.le_of_ble_eq_true rfl)) dX2_hasPing_10 ⟨Nat.le_of_ble_eq_true rfl, Nat.le_of_ble_eq_true rfl⟩) hP hD hS hA [0, 1, 2, 3, 4, 5, 6, 7] [] [0, 1, 2, 3, 4, 5, 6, 7] rfl rfl (by decide) (by decide) rfl (by decide) (fun H locs hz_10 hP hD hS => ?_)
      refine lv_if_eq (tgt := 18) hx hb dX2_hasPing_13 (by decide) (fun c_13 => ?_) (fun c_13 => ?_)
      · refine lv_iinc (v := (((nI j)) + 1)) (lv' := [(3, .int (((nI j)) + 1)), (0, .ref aw), (1, .int p1), (2, .int p2)]) hx hb dX2_hasPing_18 hl (k := 0) rfl rfl (by decide) rfl (fun ls hl => ?_)
        refine lv_goto (tgt := 2) hx hb dX2_hasPing_21 (by decide) ?_
        exact ih_2 (j + 1) _ _ (by omega) (by rw [hp2] at c_4; have := Nat.lt_of_not_le (fun z => c_4 (nI_le z (by omega))); omega) (by rw [← nI_1 j]; rw [hF, fX2_hasPing_L2, if_neg c_4, if_pos c_13]) hP hD hS _ (by rw [← nI_1 j]; exact lv_sub hl [0, 1, 2, 3] rfl)
      refine lv_iconst (v := 1) hx hb dX2_hasPing_16 (by decide) ?_
      have hF9 : (fX2_hasPing df sn vf lf p1 p2) = (1 : Int32) := by rw [hF, fX2_hasPing_L2, if_neg c_4, if_neg c_13]
      have hP9 : va_P D vwCl (wW cyD cyI cyJ cyZ aw ad ak ar au ae av ab df kf rf uf st fw fo sn me vf lf sp sb no) H := hP
      have hD9 : va_D A (wW cyD cyI cyJ cyZ aw ad ak ar au ae av ab df kf rf uf st fw fo sn me vf lf sp sb no) := hD
      exact W.zret (v := (1 : Int32)) hx hb hr (nar_z (Or.inr rfl)) (fun t ht hW => ⟨⟨(1 : Int32), (), rfl, ⟨(by rw [hF9]), (Or.inr rfl)⟩, by rw [ht]; exact hP9, va_K.moved hW.alike hK, hD9⟩, hS.F ht⟩) hS.2.2 dX2_hasPing_17
  exact loop_2 33 0 _ _ rfl (Nat.zero_le _) (by rw [nI_0]; rw [fX2_hasPing]) hP hD hS _ (by exact lv_sub hl [0, 1, 2, 3] rfl)
def fX2_neighbour_L2 (kf : Nat → Int32)  (p1 : Int32) (p2 : Int32) : Nat → (Int32) → Int32
  | 0, v_j => 0
  | k + 1, v_j => if (32 : Int32) ≤ v_j then (-1 : Int32) else (if (fX2_isWalked kf (p1 + (v_j * p2))) = 0 then (fX2_neighbour_L2 kf p1 p2 k ((v_j) + 1)) else ((p1 + (v_j * p2))))
def fX2_neighbour (kf : Nat → Int32) (p1 : Int32) (p2 : Int32) : Int32 := (fX2_neighbour_L2 kf p1 p2 32 (1 : Int32))
set_option maxHeartbeats 4000000 in
set_option maxRecDepth 100000 in
theorem c_X2_neighbour {l : Launch} {D : va_G} {cyD cyI cyJ cyZ : ClassId} (aw ad ak ar au ae av ab : Nat) (df : Nat → UInt64) (kf : Nat → Int32) (rf : Nat → Int32) (uf : Nat → Int64) (st : Int32) (fw : Int32) (fo : Int32) (sn : Nat) (me : UInt64) (vf : Nat → UInt64) (lf : Nat → Int32) (sp : UInt64) (sb : UInt64) (no : UInt64) (sz : Nat) (p1 : Int32) (p2 : Int32)  : mI l yX2_neighbour wsX2_neighbour ({ frames := 2, cells := 0, slots := 0, locals := 41 } : Room) D (kT cyD cyI cyJ cyZ) [.ref aw, .int p1, .int p2] (wW cyD cyI cyJ cyZ aw ad ak ar au ae av ab df kf rf uf st fw fo sn me vf lf sp sb no) (wW cyD cyI cyJ cyZ aw ad ak ar au ae av ab df kf rf uf st fw fo sn me vf lf sp sb no) sz (fX2_neighbour kf p1 p2) 0 0 := by
  refine Met.ofW (cc := cX2_neighbour) (maxL := 4) (ret := (some .int)) (by decide) rfl ?_
  intro p e s m args below meth c s₁ B hml hv
  obtain ⟨rfl, hN, hsz, hP, hK, hD0⟩ := hv
  have hx := B.exec
  have hb := B.bytes
  have hr := B.returns
  have hts := atoms_spec (ws := wsX2_neighbour) B.pre
  have hown : s.vm.findClass RX2 = some m.cls := findClass_of_methodNamed B.named
  have hlocks := B.notSynchronized
  subst hsz
  have hD := hD0.self (sz := s.heap.size)
  generalize hAe : va_A (wW cyD cyI cyJ cyZ aw ad ak ar au ae av ab df kf rf uf st fw fo sn me vf lf sp sb no) s.heap.size = A at hD ⊢
  have hA : ∀ q : Nat, s.heap.size ≤ q → A q := fun q h => by rw [← hAe]; exact Or.inr h
  have hS : va_S A s.heap s.heap [] := va_S.rf
  have hP : va_P D vwCl (wW cyD cyI cyJ cyZ aw ad ak ar au ae av ab df kf rf uf st fw fo sn me vf lf sp sb no) s.heap := hP
  have hl := lv_entry [.ref aw, .int p1, .int p2] (n := 4) (Nat.le_of_ble_eq_true rfl)
  rw [lg_entry_eq]
  generalize (lg_sl [.ref aw, .int p1, .int p2] ++ List.replicate (4 - (lg_sl [.ref aw, .int p1, .int p2]).length) Slot.unset).toArray = ls at hl ⊢
  have hl : lv_has ls 4 [(0, .ref aw), (1, .int p1), (2, .int p2)] := hl
  obtain ⟨H, hHe⟩ : ∃ H : Heap, H = s.heap := ⟨_, rfl⟩
  have hP : va_P D vwCl (wW cyD cyI cyJ cyZ aw ad ak ar au ae av ab df kf rf uf st fw fo sn me vf lf sp sb no) H := by rw [hHe]; exact hP
  have hS : va_S A s.heap H [] := by rw [hHe]; exact hS
  rw [← hHe]
  refine lv_iconst (v := 1) hx hb dX2_neighbour_0 (by decide) ?_
  refine lv_istore_n (lv' := [(3, .int (1 : Int32)), (0, .ref aw), (1, .int p1), (2, .int p2)]) hx hb dX2_neighbour_1 rfl hl (by decide) rfl (fun ls hl => ?_)
  have loop_2 : ∀ (k : Nat) (j : Nat) (H : Heap) (locs : List Loc), (j + k = 33) → (j ≤ 32) → (fX2_neighbour kf p1 p2) = fX2_neighbour_L2 kf p1 p2 k ((nI j)) → va_P D vwCl (wW cyD cyI cyJ cyZ aw ad ak ar au ae av ab df kf rf uf st fw fo sn me vf lf sp sb no) H → va_D A (wW cyD cyI cyJ cyZ aw ad ak ar au ae av ab df kf rf uf st fw fo sn me vf lf sp sb no) → va_S A s.heap H locs → ∀ ls, lv_has ls 4 [(3, .int ((nI j))), (0, .ref aw), (1, .int p1), (2, .int p2)] → W p l e (headSpec wsX2_neighbour ({ frames := 2, cells := 0, slots := 0, locals := 41 } : Room)).room s m ([.ref aw, .int p1, .int p2] : List Value).toArray below meth c H locs 0 0 (MQ below (va_Qi (fun (r : Int32) (_ : Unit) => r = (fX2_neighbour kf p1 p2)) (kE D (kT cyD cyI cyJ cyZ) (wW cyD cyI cyJ cyZ aw ad ak ar au ae av ab df kf rf uf st fw fo sn me vf lf sp sb no) A) A) ([.ref aw, .int p1, .int p2] : List Value).toArray s 0 0 A) (F0 m 2 ls []) := by
    intro k_2
    induction k_2 with
    | zero => intro j H locs hj hj2 hF hP hD hS ls hl; exact absurd hj2 (by omega)
    | succ k_2 ih_2 =>
      intro j H locs hj hj2 hF hP hD hS ls hl
      refine lv_iload_n hx hb dX2_neighbour_2 rfl (lv_at hl 0 rfl) ?_
      refine lv_bipush (v := 32) hx hb dX2_neighbour_3 (by decide) ?_
      refine lv_icmp_ge (tgt := 32) hx hb dX2_neighbour_5 (by decide) (fun c_5 => ?_) (fun c_5 => ?_)
      · refine lv_iconst (v := (-1)) hx hb dX2_neighbour_32 (by decide) ?_
        have hF9 : (fX2_neighbour kf p1 p2) = (-1 : Int32) := by rw [hF, fX2_neighbour_L2, if_pos c_5]
        have hP9 : va_P D vwCl (wW cyD cyI cyJ cyZ aw ad ak ar au ae av ab df kf rf uf st fw fo sn me vf lf sp sb no) H := hP
        have hD9 : va_D A (wW cyD cyI cyJ cyZ aw ad ak ar au ae av ab df kf rf uf st fw fo sn me vf lf sp sb no) := hD
        exact W.iret (v := (-1 : Int32)) hx hb hr (fun t ht hW => ⟨⟨(-1 : Int32), (), rfl, (by rw [hF9]), by rw [ht]; exact hP9, va_K.moved hW.alike hK, hD9⟩, hS.F ht⟩) hS.2.2 dX2_neighbour_33
      refine lv_aload_n hx hb dX2_neighbour_8 rfl (lv_at hl 1 rfl) ?_
      refine lv_iload_n hx hb dX2_neighbour_9 rfl (lv_at hl 2 rfl) ?_
      refine lv_iload_n hx hb dX2_neighbour_10 rfl (lv_at hl 0 rfl) ?_
      refine lv_iload_n hx hb dX2_neighbour_11 rfl (lv_at hl 3 rfl) ?_
      refine lv_imul hx hb dX2_neighbour_12 ?_
      refine lv_iadd hx hb dX2_neighbour_13 ?_
      have hPc : va_P D vwCl (wW cyD cyI cyJ cyZ aw ad ak ar au ae av ab df kf rf uf st fw fo sn me vf lf sp sb no) H := hP.sub [0, 1, 2, 3, 4, 5, 6, 7] rfl
      have hDc : va_D A (wW cyD cyI cyJ cyZ aw ad ak ar au ae av ab df kf rf uf st fw fo sn me vf lf sp sb no) := hD.sub [0, 1, 2, 3, 4, 5, 6, 7] (by decide) rfl
      refine kzE (ws' := (wW cyD cyI cyJ cyZ aw ad ak ar au ae av ab df kf rf uf st fw fo sn me vf lf sp sb no)) (wc := (wW cyD cyI cyJ cyZ aw ad ak ar au ae av ab df kf rf uf st fw fo sn me vf lf sp sb no)) (wr := []) (w1 := (wW cyD cyI cyJ cyZ aw ad ak ar au ae av ab df kf rf uf st fw fo sn me vf lf sp sb no)) (va_runV (As := [.int (p1 + ((nI j) * p2))]) (rest := []) ⟨hx, hb, hml, hown, hts⟩ (c_X2_isWalked (l := l) (D := D) (cyD := cyD) (cyI := cyI) (cyJ := cyJ) (cyZ := cyZ) aw ad ak ar au ae av ab df kf rf uf st fw fo sn me vf lf sp sb no H.size (p1 + ((nI j) * p2))) (cwV 1 hts gX2_neighbour_X2_isWalked rfl rfl rfl (by decide +kernel) ⟨Nat.le_of_ble_eq_true rfl, Nat.le_of_ble_eq_true rfl⟩) (kV (ci := 2) (q0 := 0) (q := (RX2, TX2, 8)) hN hK hPc hDc rfl rfl rfl) rfl rfl hl.1 rfl (lv_room (Nat.le_of_ble_eq_true rfl)) dX2_neighbour_14 ⟨Nat.le_of_ble_eq_true rfl, Nat.le_of_ble_eq_true rfl⟩) hP hD hS hA [0, 1, 2, 3, 4, 5, 6, 7] [] [0, 1, 2, 3, 4, 5, 6, 7] rfl rfl (by decide) (by decide) rfl (by decide) (fun H locs hz_14 hP hD hS => ?_)
      refine lv_if_eq (tgt := 26) hx hb dX2_neighbour_17 (by decide) (fun c_17 => ?_) (fun c_17 => ?_)
      · refine lv_iinc (v := (((nI j)) + 1)) (lv' := [(3, .int (((nI j)) + 1)), (0, .ref aw), (1, .int p1), (2, .int p2)]) hx hb dX2_neighbour_26 hl (k := 0) rfl rfl (by decide) rfl (fun ls hl => ?_)
        refine lv_goto (tgt := 2) hx hb dX2_neighbour_29 (by decide) ?_
        exact ih_2 (j + 1) _ _ (by omega) (by have := Nat.lt_of_not_le (fun z => c_5 (nI_le (a := 32) z (by omega))); omega) (by rw [← nI_1 j]; rw [hF, fX2_neighbour_L2, if_neg c_5, if_pos c_17]) hP hD hS _ (by rw [← nI_1 j]; exact lv_sub hl [0, 1, 2, 3] rfl)
      refine lv_iload_n hx hb dX2_neighbour_20 rfl (lv_at hl 2 rfl) ?_
      refine lv_iload_n hx hb dX2_neighbour_21 rfl (lv_at hl 0 rfl) ?_
      refine lv_iload_n hx hb dX2_neighbour_22 rfl (lv_at hl 3 rfl) ?_
      refine lv_imul hx hb dX2_neighbour_23 ?_
      refine lv_iadd hx hb dX2_neighbour_24 ?_
      have hF9 : (fX2_neighbour kf p1 p2) = (p1 + ((nI j) * p2)) := by rw [hF, fX2_neighbour_L2, if_neg c_5, if_neg c_17]
      have hP9 : va_P D vwCl (wW cyD cyI cyJ cyZ aw ad ak ar au ae av ab df kf rf uf st fw fo sn me vf lf sp sb no) H := hP
      have hD9 : va_D A (wW cyD cyI cyJ cyZ aw ad ak ar au ae av ab df kf rf uf st fw fo sn me vf lf sp sb no) := hD
      exact W.iret (v := (p1 + ((nI j) * p2))) hx hb hr (fun t ht hW => ⟨⟨(p1 + ((nI j) * p2)), (), rfl, (by rw [hF9]), by rw [ht]; exact hP9, va_K.moved hW.alike hK, hD9⟩, hS.F ht⟩) hS.2.2 dX2_neighbour_25
  exact loop_2 32 1 _ _ rfl (by decide) (by rw [nI_one]; rw [fX2_neighbour]) hP hD hS _ (by exact lv_sub hl [0, 1, 2, 3] rfl)
def fX2_isBridge (kf : Nat → Int32) (p1 : Int32) : Int32 := if (fX3_isPing p1) = 0 then (0 : Int32) else (if (fX2_isWalked kf p1) = 0 then (if (fX2_neighbour kf p1 (-1 : Int32)) = (-1 : Int32) then (0 : Int32) else (if (fX2_neighbour kf p1 (1 : Int32)) = (-1 : Int32) then (0 : Int32) else (if (4 : Int32) < ((fX2_neighbour kf p1 (1 : Int32)) - (fX2_neighbour kf p1 (-1 : Int32))) then (0 : Int32) else ((1 : Int32))))) else ((0 : Int32)))
set_option maxHeartbeats 4000000 in
set_option maxRecDepth 100000 in
theorem c_X2_isBridge {l : Launch} {D : va_G} {cyD cyI cyJ cyZ : ClassId} (aw ad ak ar au ae av ab : Nat) (df : Nat → UInt64) (kf : Nat → Int32) (rf : Nat → Int32) (uf : Nat → Int64) (st : Int32) (fw : Int32) (fo : Int32) (sn : Nat) (me : UInt64) (vf : Nat → UInt64) (lf : Nat → Int32) (sp : UInt64) (sb : UInt64) (no : UInt64) (sz : Nat) (p1 : Int32)  : mZ l yX2_isBridge wsX2_isBridge ({ frames := 3, cells := 0, slots := 0, locals := 64 } : Room) D (kT cyD cyI cyJ cyZ) [.ref aw, .int p1] (wW cyD cyI cyJ cyZ aw ad ak ar au ae av ab df kf rf uf st fw fo sn me vf lf sp sb no) (wW cyD cyI cyJ cyZ aw ad ak ar au ae av ab df kf rf uf st fw fo sn me vf lf sp sb no) sz (fX2_isBridge kf p1) 0 0 := by
  refine Met.ofW (cc := cX2_isBridge) (maxL := 4) (ret := (some .boolean)) (by decide) rfl ?_
  intro p e s m args below meth c s₁ B hml hv
  obtain ⟨rfl, hN, hsz, hP, hK, hD0⟩ := hv
  have hx := B.exec
  have hb := B.bytes
  have hr := B.returns
  have hts := atoms_spec (ws := wsX2_isBridge) B.pre
  have hown : s.vm.findClass RX2 = some m.cls := findClass_of_methodNamed B.named
  have hlocks := B.notSynchronized
  subst hsz
  have hD := hD0.self (sz := s.heap.size)
  generalize hAe : va_A (wW cyD cyI cyJ cyZ aw ad ak ar au ae av ab df kf rf uf st fw fo sn me vf lf sp sb no) s.heap.size = A at hD ⊢
  have hA : ∀ q : Nat, s.heap.size ≤ q → A q := fun q h => by rw [← hAe]; exact Or.inr h
  have hS : va_S A s.heap s.heap [] := va_S.rf
  have hP : va_P D vwCl (wW cyD cyI cyJ cyZ aw ad ak ar au ae av ab df kf rf uf st fw fo sn me vf lf sp sb no) s.heap := hP
  have hl := lv_entry [.ref aw, .int p1] (n := 4) (Nat.le_of_ble_eq_true rfl)
  rw [lg_entry_eq]
  generalize (lg_sl [.ref aw, .int p1] ++ List.replicate (4 - (lg_sl [.ref aw, .int p1]).length) Slot.unset).toArray = ls at hl ⊢
  have hl : lv_has ls 4 [(0, .ref aw), (1, .int p1)] := hl
  obtain ⟨H, hHe⟩ : ∃ H : Heap, H = s.heap := ⟨_, rfl⟩
  have hP : va_P D vwCl (wW cyD cyI cyJ cyZ aw ad ak ar au ae av ab df kf rf uf st fw fo sn me vf lf sp sb no) H := by rw [hHe]; exact hP
  have hS : va_S A s.heap H [] := by rw [hHe]; exact hS
  rw [← hHe]
  refine lv_iload_n hx hb dX2_isBridge_0 rfl (lv_at hl 1 rfl) ?_
  have hPc : va_P D vwCl [] H := hP.sub [] rfl
  have hDc : va_D A [] := hD.sub [] (by decide) rfl
  refine kzE (ws' := (wW cyD cyI cyJ cyZ aw ad ak ar au ae av ab df kf rf uf st fw fo sn me vf lf sp sb no)) (wc := []) (wr := [(aw, .inr (2, [.ref ae, .ref ad, .ref ak, .ref ar, .ref au, .int st, .int fw, .int fo])), (ad, .inl (cyD, 32, .inr (.inr (.inr (.inl df))))), (ak, .inl (cyZ, 32, .inl kf)), (ar, .inl (cyI, 32, .inl rf)), (au, .inl (cyJ, 32 * sn, .inr (.inl uf))), (ae, .inr (0, [.int (nI sn), .double me, .ref av, .ref ab, .double sp, .double sb, .double no])), (av, .inl (cyD, 128 * sn, .inr (.inr (.inr (.inl vf))))), (ab, .inl (cyZ, 32, .inl lf))]) (w1 := []) (va_runSN (As := [.int p1]) (rest := []) ⟨hx, hb, hml, hown, hts⟩ (c_X3_isPing (l := l) (D := D) (cyD := cyD) (cyI := cyI) (cyJ := cyJ) (cyZ := cyZ) H.size p1) ⟨va_cnB 1 hts gX2_isBridge_X3_isPing_n55 rfl rfl rfl hN.2.2.2.2.1 (hts (.initialized RX3) (List.mem_of_getElem? (i := 2) rfl)) (by decide +kernel) ⟨Nat.le_of_ble_eq_true rfl, Nat.le_of_ble_eq_true rfl⟩, (hts (.static yX3_isPing) (List.mem_of_getElem? (i := 1) rfl)), trivial⟩ (kS hN hK hPc hDc) rfl rfl hl.1 rfl (lv_room (Nat.le_of_ble_eq_true rfl)) dX2_isBridge_1 ⟨Nat.le_of_ble_eq_true rfl, Nat.le_of_ble_eq_true rfl⟩) hP hD hS hA [] [0, 1, 2, 3, 4, 5, 6, 7] [0, 1, 2, 3, 4, 5, 6, 7] rfl rfl (by decide) (by decide) rfl (by decide) (fun H locs hz_1 hP hD hS => ?_)
  refine lv_if_eq (tgt := 15) hx hb dX2_isBridge_4 (by decide) (fun c_4 => ?_) (fun c_4 => ?_)
  · refine lv_iconst (v := 0) hx hb dX2_isBridge_15 (by decide) ?_
    have hF9 : (fX2_isBridge kf p1) = (0 : Int32) := by rw [fX2_isBridge, if_pos c_4]
    have hP9 : va_P D vwCl (wW cyD cyI cyJ cyZ aw ad ak ar au ae av ab df kf rf uf st fw fo sn me vf lf sp sb no) H := hP
    have hD9 : va_D A (wW cyD cyI cyJ cyZ aw ad ak ar au ae av ab df kf rf uf st fw fo sn me vf lf sp sb no) := hD
    exact W.zret (v := (0 : Int32)) hx hb hr (nar_z (Or.inl rfl)) (fun t ht hW => ⟨⟨(0 : Int32), (), rfl, ⟨(by rw [hF9]), (Or.inl rfl)⟩, by rw [ht]; exact hP9, va_K.moved hW.alike hK, hD9⟩, hS.F ht⟩) hS.2.2 dX2_isBridge_16
  refine lv_aload_n hx hb dX2_isBridge_7 rfl (lv_at hl 0 rfl) ?_
  refine lv_iload_n hx hb dX2_isBridge_8 rfl (lv_at hl 1 rfl) ?_
  have hPc : va_P D vwCl (wW cyD cyI cyJ cyZ aw ad ak ar au ae av ab df kf rf uf st fw fo sn me vf lf sp sb no) H := hP.sub [0, 1, 2, 3, 4, 5, 6, 7] rfl
  have hDc : va_D A (wW cyD cyI cyJ cyZ aw ad ak ar au ae av ab df kf rf uf st fw fo sn me vf lf sp sb no) := hD.sub [0, 1, 2, 3, 4, 5, 6, 7] (by decide) rfl
  refine kzE (ws' := (wW cyD cyI cyJ cyZ aw ad ak ar au ae av ab df kf rf uf st fw fo sn me vf lf sp sb no)) (wc := (wW cyD cyI cyJ cyZ aw ad ak ar au ae av ab df kf rf uf st fw fo sn me vf lf sp sb no)) (wr := []) (w1 := (wW cyD cyI cyJ cyZ aw ad ak ar au ae av ab df kf rf uf st fw fo sn me vf lf sp sb no)) (va_runV (As := [.int p1]) (rest := []) ⟨hx, hb, hml, hown, hts⟩ (c_X2_isWalked (l := l) (D := D) (cyD := cyD) (cyI := cyI) (cyJ := cyJ) (cyZ := cyZ) aw ad ak ar au ae av ab df kf rf uf st fw fo sn me vf lf sp sb no H.size p1) (cwV 1 hts gX2_isBridge_X2_isWalked rfl rfl rfl (by decide +kernel) ⟨Nat.le_of_ble_eq_true rfl, Nat.le_of_ble_eq_true rfl⟩) (kV (ci := 2) (q0 := 0) (q := (RX2, TX2, 8)) hN hK hPc hDc rfl rfl rfl) rfl rfl hl.1 rfl (lv_room (Nat.le_of_ble_eq_true rfl)) dX2_isBridge_9 ⟨Nat.le_of_ble_eq_true rfl, Nat.le_of_ble_eq_true rfl⟩) hP hD hS hA [0, 1, 2, 3, 4, 5, 6, 7] [] [0, 1, 2, 3, 4, 5, 6, 7] rfl rfl (by decide) (by decide) rfl (by decide) (fun H locs hz_9 hP hD hS => ?_)
  refine lv_if_eq (tgt := 17) hx hb dX2_isBridge_12 (by decide) (fun c_12 => ?_) (fun c_12 => ?_)
  · refine lv_aload_n hx hb dX2_isBridge_17 rfl (lv_at hl 0 rfl) ?_
    refine lv_iload_n hx hb dX2_isBridge_18 rfl (lv_at hl 1 rfl) ?_
    refine lv_iconst (v := (-1)) hx hb dX2_isBridge_19 (by decide) ?_
    have hPc : va_P D vwCl (wW cyD cyI cyJ cyZ aw ad ak ar au ae av ab df kf rf uf st fw fo sn me vf lf sp sb no) H := hP.sub [0, 1, 2, 3, 4, 5, 6, 7] rfl
    have hDc : va_D A (wW cyD cyI cyJ cyZ aw ad ak ar au ae av ab df kf rf uf st fw fo sn me vf lf sp sb no) := hD.sub [0, 1, 2, 3, 4, 5, 6, 7] (by decide) rfl
    refine kiE (ws' := (wW cyD cyI cyJ cyZ aw ad ak ar au ae av ab df kf rf uf st fw fo sn me vf lf sp sb no)) (wc := (wW cyD cyI cyJ cyZ aw ad ak ar au ae av ab df kf rf uf st fw fo sn me vf lf sp sb no)) (wr := []) (w1 := (wW cyD cyI cyJ cyZ aw ad ak ar au ae av ab df kf rf uf st fw fo sn me vf lf sp sb no)) (va_runV (As := [.int p1, .int (-1 : Int32)]) (rest := []) ⟨hx, hb, hml, hown, hts⟩ (c_X2_neighbour (l := l) (D := D) (cyD := cyD) (cyI := cyI) (cyJ := cyJ) (cyZ := cyZ) aw ad ak ar au ae av ab df kf rf uf st fw fo sn me vf lf sp sb no H.size p1 (-1 : Int32)) (cwV 2 hts gX2_isBridge_X2_neighbour rfl rfl rfl (by decide +kernel) ⟨Nat.le_of_ble_eq_true rfl, Nat.le_of_ble_eq_true rfl⟩) (kV (ci := 2) (q0 := 0) (q := (RX2, TX2, 8)) hN hK hPc hDc rfl rfl rfl) rfl rfl hl.1 rfl (lv_room (Nat.le_of_ble_eq_true rfl)) dX2_isBridge_20 ⟨Nat.le_of_ble_eq_true rfl, Nat.le_of_ble_eq_true rfl⟩) hP hD hS hA [0, 1, 2, 3, 4, 5, 6, 7] [] [0, 1, 2, 3, 4, 5, 6, 7] rfl rfl (by decide) (by decide) rfl (by decide) (fun H locs hP hD hS => ?_)
    refine lv_istore_n (lv' := [(2, .int (fX2_neighbour kf p1 (-1 : Int32))), (0, .ref aw), (1, .int p1)]) hx hb dX2_isBridge_23 rfl hl (by decide) rfl (fun ls hl => ?_)
    refine lv_aload_n hx hb dX2_isBridge_24 rfl (lv_at hl 1 rfl) ?_
    refine lv_iload_n hx hb dX2_isBridge_25 rfl (lv_at hl 2 rfl) ?_
    refine lv_iconst (v := 1) hx hb dX2_isBridge_26 (by decide) ?_
    have hPc : va_P D vwCl (wW cyD cyI cyJ cyZ aw ad ak ar au ae av ab df kf rf uf st fw fo sn me vf lf sp sb no) H := hP.sub [0, 1, 2, 3, 4, 5, 6, 7] rfl
    have hDc : va_D A (wW cyD cyI cyJ cyZ aw ad ak ar au ae av ab df kf rf uf st fw fo sn me vf lf sp sb no) := hD.sub [0, 1, 2, 3, 4, 5, 6, 7] (by decide) rfl
    refine kiE (ws' := (wW cyD cyI cyJ cyZ aw ad ak ar au ae av ab df kf rf uf st fw fo sn me vf lf sp sb no)) (wc := (wW cyD cyI cyJ cyZ aw ad ak ar au ae av ab df kf rf uf st fw fo sn me vf lf sp sb no)) (wr := []) (w1 := (wW cyD cyI cyJ cyZ aw ad ak ar au ae av ab df kf rf uf st fw fo sn me vf lf sp sb no)) (va_runV (As := [.int p1, .int (1 : Int32)]) (rest := []) ⟨hx, hb, hml, hown, hts⟩ (c_X2_neighbour (l := l) (D := D) (cyD := cyD) (cyI := cyI) (cyJ := cyJ) (cyZ := cyZ) aw ad ak ar au ae av ab df kf rf uf st fw fo sn me vf lf sp sb no H.size p1 (1 : Int32)) (cwV 2 hts gX2_isBridge_X2_neighbour rfl rfl rfl (by decide +kernel) ⟨Nat.le_of_ble_eq_true rfl, Nat.le_of_ble_eq_true rfl⟩) (kV (ci := 2) (q0 := 0) (q := (RX2, TX2, 8)) hN hK hPc hDc rfl rfl rfl) rfl rfl hl.1 rfl (lv_room (Nat.le_of_ble_eq_true rfl)) dX2_isBridge_27 ⟨Nat.le_of_ble_eq_true rfl, Nat.le_of_ble_eq_true rfl⟩) hP hD hS hA [0, 1, 2, 3, 4, 5, 6, 7] [] [0, 1, 2, 3, 4, 5, 6, 7] rfl rfl (by decide) (by decide) rfl (by decide) (fun H locs hP hD hS => ?_)
    refine lv_istore_n (lv' := [(3, .int (fX2_neighbour kf p1 (1 : Int32))), (2, .int (fX2_neighbour kf p1 (-1 : Int32))), (0, .ref aw), (1, .int p1)]) hx hb dX2_isBridge_30 rfl hl (by decide) rfl (fun ls hl => ?_)
    refine lv_iload_n hx hb dX2_isBridge_31 rfl (lv_at hl 1 rfl) ?_
    refine lv_iconst (v := (-1)) hx hb dX2_isBridge_32 (by decide) ?_
    refine lv_icmp_eq (tgt := 52) hx hb dX2_isBridge_33 (by decide) (fun c_33 => ?_) (fun c_33 => ?_)
    · refine lv_iconst (v := 0) hx hb dX2_isBridge_52 (by decide) ?_
      have hF9 : (fX2_isBridge kf p1) = (0 : Int32) := by rw [fX2_isBridge, if_neg c_4, if_pos c_12, if_pos c_33]
      have hP9 : va_P D vwCl (wW cyD cyI cyJ cyZ aw ad ak ar au ae av ab df kf rf uf st fw fo sn me vf lf sp sb no) H := hP
      have hD9 : va_D A (wW cyD cyI cyJ cyZ aw ad ak ar au ae av ab df kf rf uf st fw fo sn me vf lf sp sb no) := hD
      exact W.zret (v := (0 : Int32)) hx hb hr (nar_z (Or.inl rfl)) (fun t ht hW => ⟨⟨(0 : Int32), (), rfl, ⟨(by rw [hF9]), (Or.inl rfl)⟩, by rw [ht]; exact hP9, va_K.moved hW.alike hK, hD9⟩, hS.F ht⟩) hS.2.2 dX2_isBridge_53
    refine lv_iload_n hx hb dX2_isBridge_36 rfl (lv_at hl 0 rfl) ?_
    refine lv_iconst (v := (-1)) hx hb dX2_isBridge_37 (by decide) ?_
    refine lv_icmp_eq (tgt := 52) hx hb dX2_isBridge_38 (by decide) (fun c_38 => ?_) (fun c_38 => ?_)
    · refine lv_iconst (v := 0) hx hb dX2_isBridge_52 (by decide) ?_
      have hF9 : (fX2_isBridge kf p1) = (0 : Int32) := by rw [fX2_isBridge, if_neg c_4, if_pos c_12, if_neg c_33, if_pos c_38]
      have hP9 : va_P D vwCl (wW cyD cyI cyJ cyZ aw ad ak ar au ae av ab df kf rf uf st fw fo sn me vf lf sp sb no) H := hP
      have hD9 : va_D A (wW cyD cyI cyJ cyZ aw ad ak ar au ae av ab df kf rf uf st fw fo sn me vf lf sp sb no) := hD
      exact W.zret (v := (0 : Int32)) hx hb hr (nar_z (Or.inl rfl)) (fun t ht hW => ⟨⟨(0 : Int32), (), rfl, ⟨(by rw [hF9]), (Or.inl rfl)⟩, by rw [ht]; exact hP9, va_K.moved hW.alike hK, hD9⟩, hS.F ht⟩) hS.2.2 dX2_isBridge_53
    refine lv_iload_n hx hb dX2_isBridge_41 rfl (lv_at hl 0 rfl) ?_
    refine lv_iload_n hx hb dX2_isBridge_42 rfl (lv_at hl 1 rfl) ?_
    refine lv_isub hx hb dX2_isBridge_43 ?_
    refine lv_iconst (v := 4) hx hb dX2_isBridge_44 (by decide) ?_
    refine lv_icmp_gt (tgt := 52) hx hb dX2_isBridge_45 (by decide) (fun c_45 => ?_) (fun c_45 => ?_)
    · refine lv_iconst (v := 0) hx hb dX2_isBridge_52 (by decide) ?_
      have hF9 : (fX2_isBridge kf p1) = (0 : Int32) := by rw [fX2_isBridge, if_neg c_4, if_pos c_12, if_neg c_33, if_neg c_38, if_pos c_45]
      have hP9 : va_P D vwCl (wW cyD cyI cyJ cyZ aw ad ak ar au ae av ab df kf rf uf st fw fo sn me vf lf sp sb no) H := hP
      have hD9 : va_D A (wW cyD cyI cyJ cyZ aw ad ak ar au ae av ab df kf rf uf st fw fo sn me vf lf sp sb no) := hD
      exact W.zret (v := (0 : Int32)) hx hb hr (nar_z (Or.inl rfl)) (fun t ht hW => ⟨⟨(0 : Int32), (), rfl, ⟨(by rw [hF9]), (Or.inl rfl)⟩, by rw [ht]; exact hP9, va_K.moved hW.alike hK, hD9⟩, hS.F ht⟩) hS.2.2 dX2_isBridge_53
    refine lv_iconst (v := 1) hx hb dX2_isBridge_48 (by decide) ?_
    refine lv_goto (tgt := 53) hx hb dX2_isBridge_49 (by decide) ?_
    have hF9 : (fX2_isBridge kf p1) = (1 : Int32) := by rw [fX2_isBridge, if_neg c_4, if_pos c_12, if_neg c_33, if_neg c_38, if_neg c_45]
    have hP9 : va_P D vwCl (wW cyD cyI cyJ cyZ aw ad ak ar au ae av ab df kf rf uf st fw fo sn me vf lf sp sb no) H := hP
    have hD9 : va_D A (wW cyD cyI cyJ cyZ aw ad ak ar au ae av ab df kf rf uf st fw fo sn me vf lf sp sb no) := hD
    exact W.zret (v := (1 : Int32)) hx hb hr (nar_z (Or.inr rfl)) (fun t ht hW => ⟨⟨(1 : Int32), (), rfl, ⟨(by rw [hF9]), (Or.inr rfl)⟩, by rw [ht]; exact hP9, va_K.moved hW.alike hK, hD9⟩, hS.F ht⟩) hS.2.2 dX2_isBridge_53
  refine lv_iconst (v := 0) hx hb dX2_isBridge_15 (by decide) ?_
  have hF9 : (fX2_isBridge kf p1) = (0 : Int32) := by rw [fX2_isBridge, if_neg c_4, if_neg c_12]
  have hP9 : va_P D vwCl (wW cyD cyI cyJ cyZ aw ad ak ar au ae av ab df kf rf uf st fw fo sn me vf lf sp sb no) H := hP
  have hD9 : va_D A (wW cyD cyI cyJ cyZ aw ad ak ar au ae av ab df kf rf uf st fw fo sn me vf lf sp sb no) := hD
  exact W.zret (v := (0 : Int32)) hx hb hr (nar_z (Or.inl rfl)) (fun t ht hW => ⟨⟨(0 : Int32), (), rfl, ⟨(by rw [hF9]), (Or.inl rfl)⟩, by rw [ht]; exact hP9, va_K.moved hW.alike hK, hD9⟩, hS.F ht⟩) hS.2.2 dX2_isBridge_16
def fX2_hasBottom (kf : Nat → Int32) (p1 : Int32) : Int32 := if (fX2_isWalked kf p1) = 0 then (if (fX2_isBridge kf p1) = 0 then (0 : Int32) else ((1 : Int32))) else ((1 : Int32))
set_option maxHeartbeats 4000000 in
set_option maxRecDepth 100000 in
theorem c_X2_hasBottom {l : Launch} {D : va_G} {cyD cyI cyJ cyZ : ClassId} (aw ad ak ar au ae av ab : Nat) (df : Nat → UInt64) (kf : Nat → Int32) (rf : Nat → Int32) (uf : Nat → Int64) (st : Int32) (fw : Int32) (fo : Int32) (sn : Nat) (me : UInt64) (vf : Nat → UInt64) (lf : Nat → Int32) (sp : UInt64) (sb : UInt64) (no : UInt64) (sz : Nat) (p1 : Int32)  : mZ l yX2_hasBottom wsX2_hasBottom ({ frames := 4, cells := 0, slots := 0, locals := 87 } : Room) D (kT cyD cyI cyJ cyZ) [.ref aw, .int p1] (wW cyD cyI cyJ cyZ aw ad ak ar au ae av ab df kf rf uf st fw fo sn me vf lf sp sb no) (wW cyD cyI cyJ cyZ aw ad ak ar au ae av ab df kf rf uf st fw fo sn me vf lf sp sb no) sz (fX2_hasBottom kf p1) 0 0 := by
  refine Met.ofW (cc := cX2_hasBottom) (maxL := 2) (ret := (some .boolean)) (by decide) rfl ?_
  intro p e s m args below meth c s₁ B hml hv
  obtain ⟨rfl, hN, hsz, hP, hK, hD0⟩ := hv
  have hx := B.exec
  have hb := B.bytes
  have hr := B.returns
  have hts := atoms_spec (ws := wsX2_hasBottom) B.pre
  have hown : s.vm.findClass RX2 = some m.cls := findClass_of_methodNamed B.named
  have hlocks := B.notSynchronized
  subst hsz
  have hD := hD0.self (sz := s.heap.size)
  generalize hAe : va_A (wW cyD cyI cyJ cyZ aw ad ak ar au ae av ab df kf rf uf st fw fo sn me vf lf sp sb no) s.heap.size = A at hD ⊢
  have hA : ∀ q : Nat, s.heap.size ≤ q → A q := fun q h => by rw [← hAe]; exact Or.inr h
  have hS : va_S A s.heap s.heap [] := va_S.rf
  have hP : va_P D vwCl (wW cyD cyI cyJ cyZ aw ad ak ar au ae av ab df kf rf uf st fw fo sn me vf lf sp sb no) s.heap := hP
  have hl := lv_entry [.ref aw, .int p1] (n := 2) (Nat.le_of_ble_eq_true rfl)
  rw [lg_entry_eq]
  generalize (lg_sl [.ref aw, .int p1] ++ List.replicate (2 - (lg_sl [.ref aw, .int p1]).length) Slot.unset).toArray = ls at hl ⊢
  have hl : lv_has ls 2 [(0, .ref aw), (1, .int p1)] := hl
  obtain ⟨H, hHe⟩ : ∃ H : Heap, H = s.heap := ⟨_, rfl⟩
  have hP : va_P D vwCl (wW cyD cyI cyJ cyZ aw ad ak ar au ae av ab df kf rf uf st fw fo sn me vf lf sp sb no) H := by rw [hHe]; exact hP
  have hS : va_S A s.heap H [] := by rw [hHe]; exact hS
  rw [← hHe]
  refine lv_aload_n hx hb dX2_hasBottom_0 rfl (lv_at hl 0 rfl) ?_
  refine lv_iload_n hx hb dX2_hasBottom_1 rfl (lv_at hl 1 rfl) ?_
  have hPc : va_P D vwCl (wW cyD cyI cyJ cyZ aw ad ak ar au ae av ab df kf rf uf st fw fo sn me vf lf sp sb no) H := hP.sub [0, 1, 2, 3, 4, 5, 6, 7] rfl
  have hDc : va_D A (wW cyD cyI cyJ cyZ aw ad ak ar au ae av ab df kf rf uf st fw fo sn me vf lf sp sb no) := hD.sub [0, 1, 2, 3, 4, 5, 6, 7] (by decide) rfl
  refine kzE (ws' := (wW cyD cyI cyJ cyZ aw ad ak ar au ae av ab df kf rf uf st fw fo sn me vf lf sp sb no)) (wc := (wW cyD cyI cyJ cyZ aw ad ak ar au ae av ab df kf rf uf st fw fo sn me vf lf sp sb no)) (wr := []) (w1 := (wW cyD cyI cyJ cyZ aw ad ak ar au ae av ab df kf rf uf st fw fo sn me vf lf sp sb no)) (va_runV (As := [.int p1]) (rest := []) ⟨hx, hb, hml, hown, hts⟩ (c_X2_isWalked (l := l) (D := D) (cyD := cyD) (cyI := cyI) (cyJ := cyJ) (cyZ := cyZ) aw ad ak ar au ae av ab df kf rf uf st fw fo sn me vf lf sp sb no H.size p1) (cwV 1 hts gX2_hasBottom_X2_isWalked rfl rfl rfl (by decide +kernel) ⟨Nat.le_of_ble_eq_true rfl, Nat.le_of_ble_eq_true rfl⟩) (kV (ci := 2) (q0 := 0) (q := (RX2, TX2, 8)) hN hK hPc hDc rfl rfl rfl) rfl rfl hl.1 rfl (lv_room (Nat.le_of_ble_eq_true rfl)) dX2_hasBottom_2 ⟨Nat.le_of_ble_eq_true rfl, Nat.le_of_ble_eq_true rfl⟩) hP hD hS hA [0, 1, 2, 3, 4, 5, 6, 7] [] [0, 1, 2, 3, 4, 5, 6, 7] rfl rfl (by decide) (by decide) rfl (by decide) (fun H locs hz_2 hP hD hS => ?_)
  refine lv_if_ne (tgt := 16) hx hb dX2_hasBottom_5 (by decide) (fun c_5 => ?_) (fun c_5 => ?_)
  · refine lv_iconst (v := 1) hx hb dX2_hasBottom_16 (by decide) ?_
    refine lv_goto (tgt := 21) hx hb dX2_hasBottom_17 (by decide) ?_
    have hF9 : (fX2_hasBottom kf p1) = (1 : Int32) := by rw [fX2_hasBottom, if_neg c_5]
    have hP9 : va_P D vwCl (wW cyD cyI cyJ cyZ aw ad ak ar au ae av ab df kf rf uf st fw fo sn me vf lf sp sb no) H := hP
    have hD9 : va_D A (wW cyD cyI cyJ cyZ aw ad ak ar au ae av ab df kf rf uf st fw fo sn me vf lf sp sb no) := hD
    exact W.zret (v := (1 : Int32)) hx hb hr (nar_z (Or.inr rfl)) (fun t ht hW => ⟨⟨(1 : Int32), (), rfl, ⟨(by rw [hF9]), (Or.inr rfl)⟩, by rw [ht]; exact hP9, va_K.moved hW.alike hK, hD9⟩, hS.F ht⟩) hS.2.2 dX2_hasBottom_21
  refine lv_aload_n hx hb dX2_hasBottom_8 rfl (lv_at hl 0 rfl) ?_
  refine lv_iload_n hx hb dX2_hasBottom_9 rfl (lv_at hl 1 rfl) ?_
  have hPc : va_P D vwCl (wW cyD cyI cyJ cyZ aw ad ak ar au ae av ab df kf rf uf st fw fo sn me vf lf sp sb no) H := hP.sub [0, 1, 2, 3, 4, 5, 6, 7] rfl
  have hDc : va_D A (wW cyD cyI cyJ cyZ aw ad ak ar au ae av ab df kf rf uf st fw fo sn me vf lf sp sb no) := hD.sub [0, 1, 2, 3, 4, 5, 6, 7] (by decide) rfl
  refine kzE (ws' := (wW cyD cyI cyJ cyZ aw ad ak ar au ae av ab df kf rf uf st fw fo sn me vf lf sp sb no)) (wc := (wW cyD cyI cyJ cyZ aw ad ak ar au ae av ab df kf rf uf st fw fo sn me vf lf sp sb no)) (wr := []) (w1 := (wW cyD cyI cyJ cyZ aw ad ak ar au ae av ab df kf rf uf st fw fo sn me vf lf sp sb no)) (va_runV (As := [.int p1]) (rest := []) ⟨hx, hb, hml, hown, hts⟩ (c_X2_isBridge (l := l) (D := D) (cyD := cyD) (cyI := cyI) (cyJ := cyJ) (cyZ := cyZ) aw ad ak ar au ae av ab df kf rf uf st fw fo sn me vf lf sp sb no H.size p1) (cwV 1 hts gX2_hasBottom_X2_isBridge rfl rfl rfl (by decide +kernel) ⟨Nat.le_of_ble_eq_true rfl, Nat.le_of_ble_eq_true rfl⟩) (kV (ci := 2) (q0 := 0) (q := (RX2, TX2, 8)) hN hK hPc hDc rfl rfl rfl) rfl rfl hl.1 rfl (lv_room (Nat.le_of_ble_eq_true rfl)) dX2_hasBottom_10 ⟨Nat.le_of_ble_eq_true rfl, Nat.le_of_ble_eq_true rfl⟩) hP hD hS hA [0, 1, 2, 3, 4, 5, 6, 7] [] [0, 1, 2, 3, 4, 5, 6, 7] rfl rfl (by decide) (by decide) rfl (by decide) (fun H locs hz_10 hP hD hS => ?_)
  refine lv_if_eq (tgt := 20) hx hb dX2_hasBottom_13 (by decide) (fun c_13 => ?_) (fun c_13 => ?_)
  · refine lv_iconst (v := 0) hx hb dX2_hasBottom_20 (by decide) ?_
    have hF9 : (fX2_hasBottom kf p1) = (0 : Int32) := by rw [fX2_hasBottom, if_pos c_5, if_pos c_13]
    have hP9 : va_P D vwCl (wW cyD cyI cyJ cyZ aw ad ak ar au ae av ab df kf rf uf st fw fo sn me vf lf sp sb no) H := hP
    have hD9 : va_D A (wW cyD cyI cyJ cyZ aw ad ak ar au ae av ab df kf rf uf st fw fo sn me vf lf sp sb no) := hD
    exact W.zret (v := (0 : Int32)) hx hb hr (nar_z (Or.inl rfl)) (fun t ht hW => ⟨⟨(0 : Int32), (), rfl, ⟨(by rw [hF9]), (Or.inl rfl)⟩, by rw [ht]; exact hP9, va_K.moved hW.alike hK, hD9⟩, hS.F ht⟩) hS.2.2 dX2_hasBottom_21
  refine lv_iconst (v := 1) hx hb dX2_hasBottom_16 (by decide) ?_
  refine lv_goto (tgt := 21) hx hb dX2_hasBottom_17 (by decide) ?_
  have hF9 : (fX2_hasBottom kf p1) = (1 : Int32) := by rw [fX2_hasBottom, if_pos c_5, if_neg c_13]
  have hP9 : va_P D vwCl (wW cyD cyI cyJ cyZ aw ad ak ar au ae av ab df kf rf uf st fw fo sn me vf lf sp sb no) H := hP
  have hD9 : va_D A (wW cyD cyI cyJ cyZ aw ad ak ar au ae av ab df kf rf uf st fw fo sn me vf lf sp sb no) := hD
  exact W.zret (v := (1 : Int32)) hx hb hr (nar_z (Or.inr rfl)) (fun t ht hW => ⟨⟨(1 : Int32), (), rfl, ⟨(by rw [hF9]), (Or.inr rfl)⟩, by rw [ht]; exact hP9, va_K.moved hW.alike hK, hD9⟩, hS.F ht⟩) hS.2.2 dX2_hasBottom_21
theorem sample_nI {sn : Nat} (hs : sn ≤ 64) {k : Int32} (h3 : ¬ fX0_isSample sn k = 0) : ∃ K : Nat, K < sn ∧ k = nI K := by
  unfold fX0_isSample at h3
  by_cases d1 : k < 0
  · rw [if_pos d1] at h3; exact absurd rfl h3
  rw [if_neg d1] at h3
  by_cases d2 : nI sn ≤ k
  · rw [if_pos d2] at h3; exact absurd rfl h3
  rcases pk_ix k (n := sn) (by omega) with q | q | ⟨K, hK, rfl⟩
  · exact absurd q d1
  · exact absurd q d2
  exact ⟨K, hK, rfl⟩
theorem cell_lt {sn P K : Nat} (hP : P < 32) (hK : K < sn) : P * sn + K < 32 * sn := by
  have h : P * sn ≤ 31 * sn := Nat.mul_le_mul_right _ (by omega)
  omega
theorem sumAt_in {sn : Nat} (hs : sn ≤ 64) {p k : Int32} (h1 : ¬ fX3_isPing p = 0) (h3 : ¬ fX0_isSample sn k = 0) : vp_in (p * nI sn + k) (32 * sn) := by
  obtain ⟨P, hP, rfl⟩ := vp_in_of (ping_in h1) (by decide)
  obtain ⟨K, hK, rfl⟩ := sample_nI hs h3
  rw [pk_mul, nI_add]
  exact vp_in_nI (cell_lt hP hK) (by omega)
def fX2_sumAt (uf : Nat → Int64) (sn : Nat) (p1 : Int32) (p2 : Int32) : Int64 := if (fX3_isPing p1) = 0 then (0 : Int64) else (if (fX0_isSample sn p2) = 0 then (0 : Int64) else ((uf ((p1 * (nI sn)) + p2).toNatClampNeg)))
set_option maxHeartbeats 4000000 in
set_option maxRecDepth 100000 in
theorem c_X2_sumAt {l : Launch} {D : va_G} {cyD cyI cyJ cyZ : ClassId} (aw ad ak ar au ae av ab : Nat) (df : Nat → UInt64) (kf : Nat → Int32) (rf : Nat → Int32) (uf : Nat → Int64) (st : Int32) (fw : Int32) (fo : Int32) (sn : Nat) (me : UInt64) (vf : Nat → UInt64) (lf : Nat → Int32) (sp : UInt64) (sb : UInt64) (no : UInt64) (sz : Nat) (p1 : Int32) (p2 : Int32) (hE : okE sn me vf sp sb no) : mL l yX2_sumAt wsX2_sumAt ({ frames := 1, cells := 0, slots := 0, locals := 21 } : Room) D (kT cyD cyI cyJ cyZ) [.ref aw, .int p1, .int p2] (wW cyD cyI cyJ cyZ aw ad ak ar au ae av ab df kf rf uf st fw fo sn me vf lf sp sb no) (wW cyD cyI cyJ cyZ aw ad ak ar au ae av ab df kf rf uf st fw fo sn me vf lf sp sb no) sz (fX2_sumAt uf sn p1 p2) 0 0 := by
  refine Met.ofW (cc := cX2_sumAt) (maxL := 3) (ret := (some .long)) (by decide) rfl ?_
  intro p e s m args below meth c s₁ B hml hv
  obtain ⟨rfl, hN, hsz, hP, hK, hD0⟩ := hv
  have hx := B.exec
  have hb := B.bytes
  have hr := B.returns
  have hts := atoms_spec (ws := wsX2_sumAt) B.pre
  have hown : s.vm.findClass RX2 = some m.cls := findClass_of_methodNamed B.named
  have hlocks := B.notSynchronized
  subst hsz
  have hD := hD0.self (sz := s.heap.size)
  generalize hAe : va_A (wW cyD cyI cyJ cyZ aw ad ak ar au ae av ab df kf rf uf st fw fo sn me vf lf sp sb no) s.heap.size = A at hD ⊢
  have hA : ∀ q : Nat, s.heap.size ≤ q → A q := fun q h => by rw [← hAe]; exact Or.inr h
  have hS : va_S A s.heap s.heap [] := va_S.rf
  have hP : va_P D vwCl (wW cyD cyI cyJ cyZ aw ad ak ar au ae av ab df kf rf uf st fw fo sn me vf lf sp sb no) s.heap := hP
  have hl := lv_entry [.ref aw, .int p1, .int p2] (n := 3) (Nat.le_of_ble_eq_true rfl)
  rw [lg_entry_eq]
  generalize (lg_sl [.ref aw, .int p1, .int p2] ++ List.replicate (3 - (lg_sl [.ref aw, .int p1, .int p2]).length) Slot.unset).toArray = ls at hl ⊢
  have hl : lv_has ls 3 [(0, .ref aw), (1, .int p1), (2, .int p2)] := hl
  obtain ⟨H, hHe⟩ : ∃ H : Heap, H = s.heap := ⟨_, rfl⟩
  have hP : va_P D vwCl (wW cyD cyI cyJ cyZ aw ad ak ar au ae av ab df kf rf uf st fw fo sn me vf lf sp sb no) H := by rw [hHe]; exact hP
  have hS : va_S A s.heap H [] := by rw [hHe]; exact hS
  rw [← hHe]
  refine lv_iload_n hx hb dX2_sumAt_0 rfl (lv_at hl 1 rfl) ?_
  have hPc : va_P D vwCl [] H := hP.sub [] rfl
  have hDc : va_D A [] := hD.sub [] (by decide) rfl
  refine kzE (ws' := (wW cyD cyI cyJ cyZ aw ad ak ar au ae av ab df kf rf uf st fw fo sn me vf lf sp sb no)) (wc := []) (wr := [(aw, .inr (2, [.ref ae, .ref ad, .ref ak, .ref ar, .ref au, .int st, .int fw, .int fo])), (ad, .inl (cyD, 32, .inr (.inr (.inr (.inl df))))), (ak, .inl (cyZ, 32, .inl kf)), (ar, .inl (cyI, 32, .inl rf)), (au, .inl (cyJ, 32 * sn, .inr (.inl uf))), (ae, .inr (0, [.int (nI sn), .double me, .ref av, .ref ab, .double sp, .double sb, .double no])), (av, .inl (cyD, 128 * sn, .inr (.inr (.inr (.inl vf))))), (ab, .inl (cyZ, 32, .inl lf))]) (w1 := []) (va_runSN (As := [.int p1]) (rest := []) ⟨hx, hb, hml, hown, hts⟩ (c_X3_isPing (l := l) (D := D) (cyD := cyD) (cyI := cyI) (cyJ := cyJ) (cyZ := cyZ) H.size p1) ⟨va_cnB 1 hts gX2_sumAt_X3_isPing_n55 rfl rfl rfl hN.2.2.2.2.1 (hts (.initialized RX3) (List.mem_of_getElem? (i := 5) rfl)) (by decide +kernel) ⟨Nat.le_of_ble_eq_true rfl, Nat.le_of_ble_eq_true rfl⟩, (hts (.static yX3_isPing) (List.mem_of_getElem? (i := 4) rfl)), trivial⟩ (kS hN hK hPc hDc) rfl rfl hl.1 rfl (lv_room (Nat.le_of_ble_eq_true rfl)) dX2_sumAt_1 ⟨Nat.le_of_ble_eq_true rfl, Nat.le_of_ble_eq_true rfl⟩) hP hD hS hA [] [0, 1, 2, 3, 4, 5, 6, 7] [0, 1, 2, 3, 4, 5, 6, 7] rfl rfl (by decide) (by decide) rfl (by decide) (fun H locs hz_1 hP hD hS => ?_)
  refine lv_if_eq (tgt := 37) hx hb dX2_sumAt_4 (by decide) (fun c_4 => ?_) (fun c_4 => ?_)
  · refine lv_lconst (v := 0) hx hb dX2_sumAt_37 rfl ?_
    have hF9 : (fX2_sumAt uf sn p1 p2) = (0 : Int64) := by rw [fX2_sumAt, if_pos c_4]
    have hP9 : va_P D vwCl (wW cyD cyI cyJ cyZ aw ad ak ar au ae av ab df kf rf uf st fw fo sn me vf lf sp sb no) H := hP
    have hD9 : va_D A (wW cyD cyI cyJ cyZ aw ad ak ar au ae av ab df kf rf uf st fw fo sn me vf lf sp sb no) := hD
    exact W.lret (v := (0 : Int64)) hx hb hr (fun t ht hW => ⟨⟨(0 : Int64), (), rfl, (by rw [hF9]), by rw [ht]; exact hP9, va_K.moved hW.alike hK, hD9⟩, hS.F ht⟩) hS.2.2 dX2_sumAt_38
  refine lv_aload_n hx hb dX2_sumAt_7 rfl (lv_at hl 0 rfl) ?_
  refine va_get (D := D) (ci := 2) (v := .ref ae) (C := RX2) (T := TX2) (N := 8) hx hb hts (fun _ h => (List.mem_cons_of_mem _ (List.mem_append_left _ (List.mem_append_right _ h)))) hown hK hP 0 rfl rfl 0 (by decide) (hts (.fieldLink RX2 34 "BottomWalks$Walk" "echoes" "LBottomWalks$Echoes;") (List.mem_of_getElem? (i := 1) rfl)) (fun _ h9 => h9) rfl dX2_sumAt_8 ?_
  refine lv_iload_n hx hb dX2_sumAt_11 rfl (lv_at hl 2 rfl) ?_
  have hPc : va_P D vwCl (wE cyD cyI cyJ cyZ ae av ab sn me vf lf sp sb no) H := hP.sub [5, 6, 7] rfl
  have hDc : va_D A (wE cyD cyI cyJ cyZ ae av ab sn me vf lf sp sb no) := hD.sub [5, 6, 7] (by decide) rfl
  refine kzE (ws' := (wW cyD cyI cyJ cyZ aw ad ak ar au ae av ab df kf rf uf st fw fo sn me vf lf sp sb no)) (wc := (wE cyD cyI cyJ cyZ ae av ab sn me vf lf sp sb no)) (wr := [(aw, .inr (2, [.ref ae, .ref ad, .ref ak, .ref ar, .ref au, .int st, .int fw, .int fo])), (ad, .inl (cyD, 32, .inr (.inr (.inr (.inl df))))), (ak, .inl (cyZ, 32, .inl kf)), (ar, .inl (cyI, 32, .inl rf)), (au, .inl (cyJ, 32 * sn, .inr (.inl uf)))]) (w1 := (wE cyD cyI cyJ cyZ ae av ab sn me vf lf sp sb no)) (va_runV (As := [.int p2]) (rest := []) ⟨hx, hb, hml, hown, hts⟩ (c_X0_isSample (l := l) (D := D) (cyD := cyD) (cyI := cyI) (cyJ := cyJ) (cyZ := cyZ) ae av ab sn me vf lf sp sb no H.size p2) (cwV 1 hts gX2_sumAt_X0_isSample rfl rfl rfl (by decide +kernel) ⟨Nat.le_of_ble_eq_true rfl, Nat.le_of_ble_eq_true rfl⟩) (kV (ci := 0) (q0 := 0) (q := (RX0, TX0, 7)) hN hK hPc hDc rfl rfl rfl) rfl rfl hl.1 rfl (lv_room (Nat.le_of_ble_eq_true rfl)) dX2_sumAt_12 ⟨Nat.le_of_ble_eq_true rfl, Nat.le_of_ble_eq_true rfl⟩) hP hD hS hA [5, 6, 7] [0, 1, 2, 3, 4] [0, 1, 2, 3, 4, 5, 6, 7] rfl rfl (by decide) (by decide) rfl (by decide) (fun H locs hz_12 hP hD hS => ?_)
  refine lv_if_eq (tgt := 37) hx hb dX2_sumAt_15 (by decide) (fun c_15 => ?_) (fun c_15 => ?_)
  · refine lv_lconst (v := 0) hx hb dX2_sumAt_37 rfl ?_
    have hF9 : (fX2_sumAt uf sn p1 p2) = (0 : Int64) := by rw [fX2_sumAt, if_neg c_4, if_pos c_15]
    have hP9 : va_P D vwCl (wW cyD cyI cyJ cyZ aw ad ak ar au ae av ab df kf rf uf st fw fo sn me vf lf sp sb no) H := hP
    have hD9 : va_D A (wW cyD cyI cyJ cyZ aw ad ak ar au ae av ab df kf rf uf st fw fo sn me vf lf sp sb no) := hD
    exact W.lret (v := (0 : Int64)) hx hb hr (fun t ht hW => ⟨⟨(0 : Int64), (), rfl, (by rw [hF9]), by rw [ht]; exact hP9, va_K.moved hW.alike hK, hD9⟩, hS.F ht⟩) hS.2.2 dX2_sumAt_38
  refine lv_aload_n hx hb dX2_sumAt_18 rfl (lv_at hl 0 rfl) ?_
  refine va_get (D := D) (ci := 2) (v := .ref au) (C := RX2) (T := TX2) (N := 8) hx hb hts (fun _ h => (List.mem_cons_of_mem _ (List.mem_append_left _ (List.mem_append_right _ h)))) hown hK hP 0 rfl rfl 4 (by decide) (hts (.fieldLink RX2 43 "BottomWalks$Walk" "sums" "[J") (List.mem_of_getElem? (i := 2) rfl)) (fun _ h9 => h9) rfl dX2_sumAt_19 ?_
  refine lv_iload_n hx hb dX2_sumAt_22 rfl (lv_at hl 1 rfl) ?_
  refine lv_aload_n hx hb dX2_sumAt_23 rfl (lv_at hl 0 rfl) ?_
  refine va_get (D := D) (ci := 2) (v := .ref ae) (C := RX2) (T := TX2) (N := 8) hx hb hts (fun _ h => (List.mem_cons_of_mem _ (List.mem_append_left _ (List.mem_append_right _ h)))) hown hK hP 0 rfl rfl 0 (by decide) (hts (.fieldLink RX2 34 "BottomWalks$Walk" "echoes" "LBottomWalks$Echoes;") (List.mem_of_getElem? (i := 1) rfl)) (fun _ h9 => h9) rfl dX2_sumAt_24 ?_
  refine va_get (D := D) (ci := 0) (v := .int (nI sn)) (C := RX0) (T := TX0) (N := 7) hx hb hts (fun _ h => (List.mem_cons_of_mem _ (List.mem_append_right _ h))) hown hK hP 5 rfl rfl 0 (by decide) (hts (.fieldLink RX2 38 "BottomWalks$Echoes" "samples" "I") (List.mem_of_getElem? (i := 3) rfl)) (fun _ h9 => h9) rfl dX2_sumAt_27 ?_
  refine lv_imul hx hb dX2_sumAt_30 ?_
  refine lv_iload_n hx hb dX2_sumAt_31 rfl (lv_at hl 2 rfl) ?_
  refine lv_iadd hx hb dX2_sumAt_32 ?_
  refine va_lald hx hb hK hP 4 2 rfl rfl (sumAt_in hE.2.1 c_4 c_15) dX2_sumAt_33 ?_
  refine lv_goto (tgt := 38) hx hb dX2_sumAt_34 (by decide) ?_
  have hF9 : (fX2_sumAt uf sn p1 p2) = (uf ((p1 * (nI sn)) + p2).toNatClampNeg) := by rw [fX2_sumAt, if_neg c_4, if_neg c_15]
  have hP9 : va_P D vwCl (wW cyD cyI cyJ cyZ aw ad ak ar au ae av ab df kf rf uf st fw fo sn me vf lf sp sb no) H := hP
  have hD9 : va_D A (wW cyD cyI cyJ cyZ aw ad ak ar au ae av ab df kf rf uf st fw fo sn me vf lf sp sb no) := hD
  exact W.lret (v := (uf ((p1 * (nI sn)) + p2).toNatClampNeg)) hx hb hr (fun t ht hW => ⟨⟨(uf ((p1 * (nI sn)) + p2).toNatClampNeg), (), rfl, (by rw [hF9]), by rw [ht]; exact hP9, va_K.moved hW.alike hK, hD9⟩, hS.F ht⟩) hS.2.2 dX2_sumAt_38
