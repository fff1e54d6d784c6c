abbrev kT (cyD cyI cyJ cyZ : ClassId) : List (ClassId × FieldType) := [(cyD, .double), (cyI, .int), (cyJ, .long), (cyZ, .boolean)]
abbrev wE (cyD cyI cyJ cyZ : ClassId) (ae av ab : Nat) (sn : Nat) (me : UInt64) (vf : Nat → UInt64) (lf : Nat → Int32) (sp : UInt64) (sb : UInt64) (no : UInt64) : va_W := [(ae, .inr (0, [.int (nI sn), .double me, .ref av, .ref ab, .double sp, .double sb, .double no])), (av, .inl (cyD, 128 * sn, .inr (.inr (.inr (.inl vf))))), (ab, .inl (cyZ, 32, .inl lf))]
abbrev wT (cyD cyI cyJ cyZ : ClassId) (at_ a1 a2 : Nat) (rn : Int32) (sf : Nat → UInt64) (nf : Nat → UInt64) : va_W := [(at_, .inr (1, [.ref a1, .ref a2, .int rn])), (a1, .inl (cyD, 20, .inr (.inr (.inr (.inl sf))))), (a2, .inl (cyD, 20, .inr (.inr (.inr (.inl nf)))))]
abbrev wW (cyD cyI cyJ cyZ : ClassId) (aw ad ak ar au ae av ab : Nat) (df : Nat → UInt64) (kf : Nat → Int32) (rf : Nat → Int32) (uf : Nat → Int64) (st : Int32) (fw : Int32) (fo : Int32) (sn : Nat) (me : UInt64) (vf : Nat → UInt64) (lf : Nat → Int32) (sp : UInt64) (sb : UInt64) (no : UInt64) : va_W := [(aw, .inr (2, [.ref ae, .ref ad, .ref ak, .ref ar, .ref au, .int st, .int fw, .int fo])), (ad, .inl (cyD, 32, .inr (.inr (.inr (.inl df))))), (ak, .inl (cyZ, 32, .inl kf)), (ar, .inl (cyI, 32, .inl rf)), (au, .inl (cyJ, 32 * sn, .inr (.inl uf))), (ae, .inr (0, [.int (nI sn), .double me, .ref av, .ref ab, .double sp, .double sb, .double no])), (av, .inl (cyD, 128 * sn, .inr (.inr (.inr (.inl vf))))), (ab, .inl (cyZ, 32, .inl lf))]
abbrev wB (cyD cyI cyJ cyZ : ClassId) (ax ai ag ats a1s a2s atb a1b a2b aw ad ak ar au ae av ab : Nat) (ch : Int32) (tf : Nat → UInt64) (gf : Nat → UInt64) (rns : Int32) (sfs : Nat → UInt64) (nfs : Nat → UInt64) (rnb : Int32) (sfb : Nat → UInt64) (nfb : Nat → UInt64) (df : Nat → UInt64) (kf : Nat → Int32) (rf : Nat → Int32) (uf : Nat → Int64) (st : Int32) (fw : Int32) (fo : Int32) (sn : Nat) (me : UInt64) (vf : Nat → UInt64) (lf : Nat → Int32) (sp : UInt64) (sb : UInt64) (no : UInt64) : va_W := [(ax, .inr (3, [.ref ae, .ref aw, .ref ats, .ref atb, .ref ai, .ref ag, .int ch])), (ai, .inl (cyD, 32, .inr (.inr (.inr (.inl tf))))), (ag, .inl (cyD, 32, .inr (.inr (.inr (.inl gf))))), (ats, .inr (1, [.ref a1s, .ref a2s, .int rns])), (a1s, .inl (cyD, 20, .inr (.inr (.inr (.inl sfs))))), (a2s, .inl (cyD, 20, .inr (.inr (.inr (.inl nfs))))), (atb, .inr (1, [.ref a1b, .ref a2b, .int rnb])), (a1b, .inl (cyD, 20, .inr (.inr (.inr (.inl sfb))))), (a2b, .inl (cyD, 20, .inr (.inr (.inr (.inl nfb))))), (aw, .inr (2, [.ref ae, .ref ad, .ref ak, .ref ar, .ref au, .int st, .int fw, .int fo])), (ad, .inl (cyD, 32, .inr (.inr (.inr (.inl df))))), (ak, .inl (cyZ, 32, .inl kf)), (ar, .inl (cyI, 32, .inl rf)), (au, .inl (cyJ, 32 * sn, .inr (.inl uf))), (ae, .inr (0, [.int (nI sn), .double me, .ref av, .ref ab, .double sp, .double sb, .double no])), (av, .inl (cyD, 128 * sn, .inr (.inr (.inr (.inl vf))))), (ab, .inl (cyZ, 32, .inl lf))]
abbrev wM (cyD cyI cyJ cyZ : ClassId) (am bv bt bl be bd bi bg bsd bsv bbd bbv br bu bw : Nat) (mn : Nat) (mm : UInt64) (mch : Int32) (msp : UInt64) (msb : UInt64) (mno : UInt64) (msn : Int32) (mbn : Int32) (mhr : Int32) (mro : Int32) (mv : Nat → UInt64) (mt : Nat → Int32) (ml : Nat → Int32) (med : Nat → Int32) (md : Nat → UInt64) (mi : Nat → UInt64) (mg : Nat → UInt64) (msd : Nat → UInt64) (msv : Nat → UInt64) (mbd : Nat → UInt64) (mbv : Nat → UInt64) (mr : Nat → Int32) (mu : Nat → Int64) (mw : Nat → Int32) : va_W := [(am, .inr (4, [.int (nI mn), .double mm, .ref bv, .ref bt, .ref bl, .ref be, .ref bd, .ref bi, .ref bg, .int mch, .double msp, .double msb, .double mno, .int msn, .ref bsd, .ref bsv, .int mbn, .ref bbd, .ref bbv, .int mhr, .int mro, .ref br, .ref bu, .ref bw])), (bv, .inl (cyD, 8192, .inr (.inr (.inr (.inl mv))))), (bt, .inl (cyZ, 8192, .inl mt)), (bl, .inl (cyZ, 32, .inl ml)), (be, .inl (cyZ, 32, .inl med)), (bd, .inl (cyD, 32, .inr (.inr (.inr (.inl md))))), (bi, .inl (cyD, 32, .inr (.inr (.inr (.inl mi))))), (bg, .inl (cyD, 32, .inr (.inr (.inr (.inl mg))))), (bsd, .inl (cyD, 21, .inr (.inr (.inr (.inl msd))))), (bsv, .inl (cyD, 21, .inr (.inr (.inr (.inl msv))))), (bbd, .inl (cyD, 21, .inr (.inr (.inr (.inl mbd))))), (bbv, .inl (cyD, 21, .inr (.inr (.inr (.inl mbv))))), (br, .inl (cyI, 32, .inl mr)), (bu, .inl (cyJ, 2048, .inr (.inl mu))), (bw, .inl (cyI, 32, .inl mw))]
def fX3_isPing  (p1 : Int32) : Int32 := if p1 < 0 then (0 : Int32) else (if (32 : Int32) ≤ p1 then (0 : Int32) else ((1 : Int32)))
set_option maxHeartbeats 4000000 in
set_option maxRecDepth 100000 in
theorem c_X3_isPing {l : Launch} {D : va_G} {cyD cyI cyJ cyZ : ClassId} (sz : Nat) (p1 : Int32)  : mZ l yX3_isPing wsX3_isPing ({ frames := 0, cells := 0, slots := 0, locals := 0 } : Room) D (kT cyD cyI cyJ cyZ) [.int p1] [] [] sz (fX3_isPing p1) 0 0 := by
  refine Met.ofW (cc := cX3_isPing) (maxL := 1) (ret := (some .boolean)) (by decide) rfl ?_
  intro p e s m args below meth c s₁ B hml hv
  obtain ⟨rfl, hN, hsz, hP, hK, hD0⟩ := hv
  have hx := B.exec
  have hb := B.bytes
  have hr := B.returns
  have hts := atoms_spec (ws := wsX3_isPing) B.pre
  have hown : s.vm.findClass RX3 = some m.cls := findClass_of_methodNamed B.named
  have hlocks := B.notSynchronized
  subst hsz
  have hD := hD0.self (sz := s.heap.size)
  generalize hAe : va_A [] s.heap.size = A at hD ⊢
  have hA : ∀ q : Nat, s.heap.size ≤ q → A q := fun q h => by rw [← hAe]; exact Or.inr h
  have hS : va_S A s.heap s.heap [] := va_S.rf
  have hP : va_P D vwCl [] s.heap := hP
  have hl := lv_entry [.int p1] (n := 1) (Nat.le_of_ble_eq_true rfl)
  rw [lg_entry_eq]
  generalize (lg_sl [.int p1] ++ List.replicate (1 - (lg_sl [.int p1]).length) Slot.unset).toArray = ls at hl ⊢
  have hl : lv_has ls 1 [(0, .int p1)] := hl
  obtain ⟨H, hHe⟩ : ∃ H : Heap, H = s.heap := ⟨_, rfl⟩
  have hP : va_P D vwCl [] H := by rw [hHe]; exact hP
  have hS : va_S A s.heap H [] := by rw [hHe]; exact hS
  rw [← hHe]
  refine lv_iload_n hx hb dX3_isPing_0 rfl (lv_at hl 0 rfl) ?_
  refine lv_if_lt (tgt := 14) hx hb dX3_isPing_1 (by decide) (fun c_1 => ?_) (fun c_1 => ?_)
  · refine lv_iconst (v := 0) hx hb dX3_isPing_14 (by decide) ?_
    have hF9 : (fX3_isPing p1) = (0 : Int32) := by rw [fX3_isPing, if_pos c_1]
    have hP9 : va_P D vwCl [] H := hP
    have hD9 : va_D A [] := hD
    exact W.zret (v := (0 : Int32)) hx hb hr (nar_z (Or.inl rfl)) (fun t ht hW => ⟨⟨(0 : Int32), (), rfl, ⟨(by rw [hF9]), (Or.inl rfl)⟩, by rw [ht]; exact hP9, va_K.moved hW.alike hK, hD9⟩, hS.F ht⟩) hS.2.2 dX3_isPing_15
  refine lv_iload_n hx hb dX3_isPing_4 rfl (lv_at hl 0 rfl) ?_
  refine lv_bipush (v := 32) hx hb dX3_isPing_5 (by decide) ?_
  refine lv_icmp_ge (tgt := 14) hx hb dX3_isPing_7 (by decide) (fun c_7 => ?_) (fun c_7 => ?_)
  · refine lv_iconst (v := 0) hx hb dX3_isPing_14 (by decide) ?_
    have hF9 : (fX3_isPing p1) = (0 : Int32) := by rw [fX3_isPing, if_neg c_1, if_pos c_7]
    have hP9 : va_P D vwCl [] H := hP
    have hD9 : va_D A [] := hD
    exact W.zret (v := (0 : Int32)) hx hb hr (nar_z (Or.inl rfl)) (fun t ht hW => ⟨⟨(0 : Int32), (), rfl, ⟨(by rw [hF9]), (Or.inl rfl)⟩, by rw [ht]; exact hP9, va_K.moved hW.alike hK, hD9⟩, hS.F ht⟩) hS.2.2 dX3_isPing_15
  refine lv_iconst (v := 1) hx hb dX3_isPing_10 (by decide) ?_
  refine lv_goto (tgt := 15) hx hb dX3_isPing_11 (by decide) ?_
  have hF9 : (fX3_isPing p1) = (1 : Int32) := by rw [fX3_isPing, if_neg c_1, if_neg c_7]
  have hP9 : va_P D vwCl [] H := hP
  have hD9 : va_D A [] := hD
  exact W.zret (v := (1 : Int32)) hx hb hr (nar_z (Or.inr rfl)) (fun t ht hW => ⟨⟨(1 : Int32), (), rfl, ⟨(by rw [hF9]), (Or.inr rfl)⟩, by rw [ht]; exact hP9, va_K.moved hW.alike hK, hD9⟩, hS.F ht⟩) hS.2.2 dX3_isPing_15
def fX3_isFrequency  (p1 : Int32) : Int32 := if p1 < 0 then (0 : Int32) else (if (4 : Int32) ≤ p1 then (0 : Int32) else ((1 : Int32)))
set_option maxHeartbeats 4000000 in
set_option maxRecDepth 100000 in
theorem c_X3_isFrequency {l : Launch} {D : va_G} {cyD cyI cyJ cyZ : ClassId} (sz : Nat) (p1 : Int32)  : mZ l yX3_isFrequency wsX3_isFrequency ({ frames := 0, cells := 0, slots := 0, locals := 0 } : Room) D (kT cyD cyI cyJ cyZ) [.int p1] [] [] sz (fX3_isFrequency p1) 0 0 := by
  refine Met.ofW (cc := cX3_isFrequency) (maxL := 1) (ret := (some .boolean)) (by decide) rfl ?_
  intro p e s m args below meth c s₁ B hml hv
  obtain ⟨rfl, hN, hsz, hP, hK, hD0⟩ := hv
  have hx := B.exec
  have hb := B.bytes
  have hr := B.returns
  have hts := atoms_spec (ws := wsX3_isFrequency) B.pre
  have hown : s.vm.findClass RX3 = some m.cls := findClass_of_methodNamed B.named
  have hlocks := B.notSynchronized
  subst hsz
  have hD := hD0.self (sz := s.heap.size)
  generalize hAe : va_A [] s.heap.size = A at hD ⊢
  have hA : ∀ q : Nat, s.heap.size ≤ q → A q := fun q h => by rw [← hAe]; exact Or.inr h
  have hS : va_S A s.heap s.heap [] := va_S.rf
  have hP : va_P D vwCl [] s.heap := hP
  have hl := lv_entry [.int p1] (n := 1) (Nat.le_of_ble_eq_true rfl)
  rw [lg_entry_eq]
  generalize (lg_sl [.int p1] ++ List.replicate (1 - (lg_sl [.int p1]).length) Slot.unset).toArray = ls at hl ⊢
  have hl : lv_has ls 1 [(0, .int p1)] := hl
  obtain ⟨H, hHe⟩ : ∃ H : Heap, H = s.heap := ⟨_, rfl⟩
  have hP : va_P D vwCl [] H := by rw [hHe]; exact hP
  have hS : va_S A s.heap H [] := by rw [hHe]; exact hS
  rw [← hHe]
  refine lv_iload_n hx hb dX3_isFrequency_0 rfl (lv_at hl 0 rfl) ?_
  refine lv_if_lt (tgt := 13) hx hb dX3_isFrequency_1 (by decide) (fun c_1 => ?_) (fun c_1 => ?_)
  · refine lv_iconst (v := 0) hx hb dX3_isFrequency_13 (by decide) ?_
    have hF9 : (fX3_isFrequency p1) = (0 : Int32) := by rw [fX3_isFrequency, if_pos c_1]
    have hP9 : va_P D vwCl [] H := hP
    have hD9 : va_D A [] := hD
    exact W.zret (v := (0 : Int32)) hx hb hr (nar_z (Or.inl rfl)) (fun t ht hW => ⟨⟨(0 : Int32), (), rfl, ⟨(by rw [hF9]), (Or.inl rfl)⟩, by rw [ht]; exact hP9, va_K.moved hW.alike hK, hD9⟩, hS.F ht⟩) hS.2.2 dX3_isFrequency_14
  refine lv_iload_n hx hb dX3_isFrequency_4 rfl (lv_at hl 0 rfl) ?_
  refine lv_iconst (v := 4) hx hb dX3_isFrequency_5 (by decide) ?_
  refine lv_icmp_ge (tgt := 13) hx hb dX3_isFrequency_6 (by decide) (fun c_6 => ?_) (fun c_6 => ?_)
  · refine lv_iconst (v := 0) hx hb dX3_isFrequency_13 (by decide) ?_
    have hF9 : (fX3_isFrequency p1) = (0 : Int32) := by rw [fX3_isFrequency, if_neg c_1, if_pos c_6]
    have hP9 : va_P D vwCl [] H := hP
    have hD9 : va_D A [] := hD
    exact W.zret (v := (0 : Int32)) hx hb hr (nar_z (Or.inl rfl)) (fun t ht hW => ⟨⟨(0 : Int32), (), rfl, ⟨(by rw [hF9]), (Or.inl rfl)⟩, by rw [ht]; exact hP9, va_K.moved hW.alike hK, hD9⟩, hS.F ht⟩) hS.2.2 dX3_isFrequency_14
  refine lv_iconst (v := 1) hx hb dX3_isFrequency_9 (by decide) ?_
  refine lv_goto (tgt := 14) hx hb dX3_isFrequency_10 (by decide) ?_
  have hF9 : (fX3_isFrequency p1) = (1 : Int32) := by rw [fX3_isFrequency, if_neg c_1, if_neg c_6]
  have hP9 : va_P D vwCl [] H := hP
  have hD9 : va_D A [] := hD
  exact W.zret (v := (1 : Int32)) hx hb hr (nar_z (Or.inr rfl)) (fun t ht hW => ⟨⟨(1 : Int32), (), rfl, ⟨(by rw [hF9]), (Or.inr rfl)⟩, by rw [ht]; exact hP9, va_K.moved hW.alike hK, hD9⟩, hS.F ht⟩) hS.2.2 dX3_isFrequency_14
def fX3_within  (p1 : UInt64) (p2 : UInt64) (p3 : UInt64) : Int32 := if (Op.cmpValue (FP.dcmp p1 p2) CmpOp.l) < 0 then (0 : Int32) else (if 0 < (Op.cmpValue (FP.dcmp p1 p3) CmpOp.g) then (0 : Int32) else ((1 : Int32)))
set_option maxHeartbeats 4000000 in
set_option maxRecDepth 100000 in
theorem c_X3_within {l : Launch} {D : va_G} {cyD cyI cyJ cyZ : ClassId} (sz : Nat) (p1 : UInt64) (p2 : UInt64) (p3 : UInt64)  : mZ l yX3_within wsX3_within ({ frames := 0, cells := 0, slots := 0, locals := 0 } : Room) D (kT cyD cyI cyJ cyZ) [.double p1, .double p2, .double p3] [] [] sz (fX3_within p1 p2 p3) 0 0 := by
  refine Met.ofW (cc := cX3_within) (maxL := 6) (ret := (some .boolean)) (by decide) rfl ?_
  intro p e s m args below meth c s₁ B hml hv
  obtain ⟨rfl, hN, hsz, hP, hK, hD0⟩ := hv
  have hx := B.exec
  have hb := B.bytes
  have hr := B.returns
  have hts := atoms_spec (ws := wsX3_within) B.pre
  have hown : s.vm.findClass RX3 = some m.cls := findClass_of_methodNamed B.named
  have hlocks := B.notSynchronized
  subst hsz
  have hD := hD0.self (sz := s.heap.size)
  generalize hAe : va_A [] s.heap.size = A at hD ⊢
  have hA : ∀ q : Nat, s.heap.size ≤ q → A q := fun q h => by rw [← hAe]; exact Or.inr h
  have hS : va_S A s.heap s.heap [] := va_S.rf
  have hP : va_P D vwCl [] s.heap := hP
  have hl := lv_entry [.double p1, .double p2, .double p3] (n := 6) (Nat.le_of_ble_eq_true rfl)
  rw [lg_entry_eq]
  generalize (lg_sl [.double p1, .double p2, .double p3] ++ List.replicate (6 - (lg_sl [.double p1, .double p2, .double p3]).length) Slot.unset).toArray = ls at hl ⊢
  have hl : lv_has ls 6 [(0, .double p1), (2, .double p2), (4, .double p3)] := hl
  obtain ⟨H, hHe⟩ : ∃ H : Heap, H = s.heap := ⟨_, rfl⟩
  have hP : va_P D vwCl [] H := by rw [hHe]; exact hP
  have hS : va_S A s.heap H [] := by rw [hHe]; exact hS
  rw [← hHe]
  refine lv_dload_n hx hb dX3_within_0 rfl (lv_at hl 0 rfl) ?_
  refine lv_dload_n hx hb dX3_within_1 rfl (lv_at hl 1 rfl) ?_
  refine lv_dcmp hx hb dX3_within_2 ?_
  refine lv_if_lt (tgt := 17) hx hb dX3_within_3 (by decide) (fun c_3 => ?_) (fun c_3 => ?_)
  · refine lv_iconst (v := 0) hx hb dX3_within_17 (by decide) ?_
    have hF9 : (fX3_within p1 p2 p3) = (0 : Int32) := by rw [fX3_within, if_pos c_3]
    have hP9 : va_P D vwCl [] H := hP
    have hD9 : va_D A [] := hD
    exact W.zret (v := (0 : Int32)) hx hb hr (nar_z (Or.inl rfl)) (fun t ht hW => ⟨⟨(0 : Int32), (), rfl, ⟨(by rw [hF9]), (Or.inl rfl)⟩, by rw [ht]; exact hP9, va_K.moved hW.alike hK, hD9⟩, hS.F ht⟩) hS.2.2 dX3_within_18
  refine lv_dload_n hx hb dX3_within_6 rfl (lv_at hl 0 rfl) ?_
  refine lv_dload hx hb dX3_within_7 (lv_at hl 2 rfl) ?_
  refine lv_dcmp hx hb dX3_within_9 ?_
  refine lv_if_gt (tgt := 17) hx hb dX3_within_10 (by decide) (fun c_10 => ?_) (fun c_10 => ?_)
  · refine lv_iconst (v := 0) hx hb dX3_within_17 (by decide) ?_
    have hF9 : (fX3_within p1 p2 p3) = (0 : Int32) := by rw [fX3_within, if_neg c_3, if_pos c_10]
    have hP9 : va_P D vwCl [] H := hP
    have hD9 : va_D A [] := hD
    exact W.zret (v := (0 : Int32)) hx hb hr (nar_z (Or.inl rfl)) (fun t ht hW => ⟨⟨(0 : Int32), (), rfl, ⟨(by rw [hF9]), (Or.inl rfl)⟩, by rw [ht]; exact hP9, va_K.moved hW.alike hK, hD9⟩, hS.F ht⟩) hS.2.2 dX3_within_18
  refine lv_iconst (v := 1) hx hb dX3_within_13 (by decide) ?_
  refine lv_goto (tgt := 18) hx hb dX3_within_14 (by decide) ?_
  have hF9 : (fX3_within p1 p2 p3) = (1 : Int32) := by rw [fX3_within, if_neg c_3, if_neg c_10]
  have hP9 : va_P D vwCl [] H := hP
  have hD9 : va_D A [] := hD
  exact W.zret (v := (1 : Int32)) hx hb hr (nar_z (Or.inr rfl)) (fun t ht hW => ⟨⟨(1 : Int32), (), rfl, ⟨(by rw [hF9]), (Or.inr rfl)⟩, by rw [ht]; exact hP9, va_K.moved hW.alike hK, hD9⟩, hS.F ht⟩) hS.2.2 dX3_within_18
def fX3_over  (p1 : UInt64) (p2 : UInt64) : UInt64 := if (Op.cmpValue (FP.dcmp p2 FP.dconst0) CmpOp.l) ≤ 0 then FP.dconst0 else ((FP.ddiv p1 p2))
set_option maxHeartbeats 4000000 in
set_option maxRecDepth 100000 in
theorem c_X3_over {l : Launch} {D : va_G} {cyD cyI cyJ cyZ : ClassId} (sz : Nat) (p1 : UInt64) (p2 : UInt64) (hn : ¬ (Op.cmpValue (FP.dcmp p2 FP.dconst0) CmpOp.l) ≤ 0 → vf_n64 (FP.ddiv p1 p2)) : mD l yX3_over wsX3_over ({ frames := 0, cells := 0, slots := 0, locals := 0 } : Room) D (kT cyD cyI cyJ cyZ) [.double p1, .double p2] [] [] sz (fX3_over p1 p2) 0 0 := by
  refine Met.ofW (cc := cX3_over) (maxL := 4) (ret := (some .double)) (by decide) rfl ?_
  intro p e s m args below meth c s₁ B hml hv
  obtain ⟨rfl, hN, hsz, hP, hK, hD0⟩ := hv
  have hx := B.exec
  have hb := B.bytes
  have hr := B.returns
  have hts := atoms_spec (ws := wsX3_over) B.pre
  have hown : s.vm.findClass RX3 = some m.cls := findClass_of_methodNamed B.named
  have hlocks := B.notSynchronized
  subst hsz
  have hD := hD0.self (sz := s.heap.size)
  generalize hAe : va_A [] s.heap.size = A at hD ⊢
  have hA : ∀ q : Nat, s.heap.size ≤ q → A q := fun q h => by rw [← hAe]; exact Or.inr h
  have hS : va_S A s.heap s.heap [] := va_S.rf
  have hP : va_P D vwCl [] s.heap := hP
  have hl := lv_entry [.double p1, .double p2] (n := 4) (Nat.le_of_ble_eq_true rfl)
  rw [lg_entry_eq]
  generalize (lg_sl [.double p1, .double p2] ++ List.replicate (4 - (lg_sl [.double p1, .double p2]).length) Slot.unset).toArray = ls at hl ⊢
  have hl : lv_has ls 4 [(0, .double p1), (2, .double p2)] := hl
  obtain ⟨H, hHe⟩ : ∃ H : Heap, H = s.heap := ⟨_, rfl⟩
  have hP : va_P D vwCl [] H := by rw [hHe]; exact hP
  have hS : va_S A s.heap H [] := by rw [hHe]; exact hS
  rw [← hHe]
  refine lv_dload_n hx hb dX3_over_0 rfl (lv_at hl 1 rfl) ?_
  refine lv_dconst0 hx hb dX3_over_1 ?_
  refine lv_dcmp hx hb dX3_over_2 ?_
  refine lv_if_le (tgt := 12) hx hb dX3_over_3 (by decide) (fun c_3 => ?_) (fun c_3 => ?_)
  · refine lv_dconst0 hx hb dX3_over_12 ?_
    have hF9 : (fX3_over p1 p2) = FP.dconst0 := by rw [fX3_over, if_pos c_3]
    have hP9 : va_P D vwCl [] H := hP
    have hD9 : va_D A [] := hD
    exact W.dret (v := FP.dconst0) hx hb hr (fun t ht hW => ⟨⟨FP.dconst0, (), rfl, (by rw [hF9]), by rw [ht]; exact hP9, va_K.moved hW.alike hK, hD9⟩, hS.F ht⟩) hS.2.2 dX3_over_13
  refine lv_dload_n hx hb dX3_over_6 rfl (lv_at hl 0 rfl) ?_
  refine lv_dload_n hx hb dX3_over_7 rfl (lv_at hl 1 rfl) ?_
  refine lv_ddiv hx hb dX3_over_8 (hn c_3) ?_
  refine lv_goto (tgt := 13) hx hb dX3_over_9 (by decide) ?_
  have hF9 : (fX3_over p1 p2) = (FP.ddiv p1 p2) := by rw [fX3_over, if_neg c_3]
  have hP9 : va_P D vwCl [] H := hP
  have hD9 : va_D A [] := hD
  exact W.dret (v := (FP.ddiv p1 p2)) hx hb hr (fun t ht hW => ⟨⟨(FP.ddiv p1 p2), (), rfl, (by rw [hF9]), by rw [ht]; exact hP9, va_K.moved hW.alike hK, hD9⟩, hS.F ht⟩) hS.2.2 dX3_over_13
