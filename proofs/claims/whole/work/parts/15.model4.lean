theorem cmpg_le {d x : UInt64} (hd : bd 1041 d) (hx : bd 1041 x) (h : ¬ 0 < Op.cmpValue (FP.dcmp d x) CmpOp.g) : zv d ≤ zv x := by
  rw [cmpv_z (bd_up hd (by decide)) (bd_up hx (by decide))] at h
  by_cases c : zv d < zv x
  · omega
  · by_cases c2 : zv d = zv x
    · omega
    · rw [if_neg c, if_neg c2] at h; exact absurd (by decide) h
theorem cmpg_gt {d x : UInt64} (hd : bd 1041 d) (hx : bd 1041 x) (h : 0 < Op.cmpValue (FP.dcmp d x) CmpOp.g) : zv x < zv d := by
  rw [cmpv_z (bd_up hd (by decide)) (bd_up hx (by decide))] at h
  by_cases c : zv d < zv x
  · rw [if_pos c] at h; exact absurd h (by decide)
  · by_cases c2 : zv d = zv x
    · rw [if_neg c, if_pos c2] at h; exact absurd h (by decide)
    · omega
theorem facM {mbd : Nat → UInt64} {x : UInt64} {j : Nat} (hs : ∀ i, i < 21 → bd 1041 (mbd i)) (hx : bd 1041 x) (h1 : ¬ nI j = 0) (hj : j ≤ 20) (hpv : ∀ i, i + 1 = j → ¬ 0 < Op.cmpValue (FP.dcmp (mbd i) x) CmpOp.g) (c : 0 < Op.cmpValue (FP.dcmp (mbd (nI j).toNatClampNeg) x) CmpOp.g) : bd 1025 (FP.ddiv (FP.dsub x (mbd (nI j - 1).toNatClampNeg)) (FP.dsub (mbd (nI j).toNatClampNeg) (mbd (nI j - 1).toNatClampNeg))) := by
  have h0 : 1 ≤ j := by
    rcases Nat.eq_zero_or_pos j with z | z
    · exact absurd (by rw [z]; rfl) h1
    · exact z
  rw [nI_sub1 h0, nI_clamp (by omega), nI_clamp (by omega)]
  rw [nI_clamp (by omega)] at c
  exact (frac_ok (hs _ (by omega)) hx (hs _ (by omega)) (cmpg_le (hs _ (by omega)) hx (hpv (j - 1) (by omega))) (cmpg_gt (hs _ (by omega)) hx c)).1
theorem fac_eq {mbn : Int32} {r j : Nat} (h : mbn = nI r) (h1 : j ≤ r) (h2 : mbn ≤ nI j) (hr : r ≤ 20) : nI j = mbn := by
  rw [h] at h2 ⊢
  have := (nI_leI (by omega) (by omega)).mp h2
  rw [show j = r by omega]
theorem m1_in {j : Nat} (h1 : ¬ nI j = 0) (hj : j ≤ 20) : vp_in (nI j - 1) 21 := by
  have h0 : 1 ≤ j := by
    rcases Nat.eq_zero_or_pos j with z | z
    · exact absurd (by rw [z]; rfl) h1
    · exact z
  rw [nI_sub1 h0]; exact vp_in_nI (by omega) (by decide)
theorem add_nz {a b : UInt64} (ha : bd 2047 a) (hb : bd 2047 b) (na : nn a) (nb : nn b) (h : b.toNat % 2 ^ 63 ≠ 0) : (FP.dadd a b).toNat % 2 ^ 63 ≠ 0 := by
  have := mono_add hb ha nb na
  rw [show FP.dadd a b = FP.dadd b a from FP.Core.dadd_comm a b]
  omega
def fX4_factor_L22 (mbn : Int32) (mbd : Nat → UInt64) (mbv : Nat → UInt64)  (p1 : UInt64) : Nat → (Int32) → UInt64
  | 0, v_j => 0
  | k + 1, v_j => if mbn ≤ v_j then (if v_j = 0 then (mbv (0 : Int32).toNatClampNeg) else (if v_j = mbn then (mbv (mbn - (1 : Int32)).toNatClampNeg) else ((0 : UInt64)))) else (if 0 < (Op.cmpValue (FP.dcmp (mbd (v_j).toNatClampNeg) p1) CmpOp.g) then (if v_j = 0 then (mbv (0 : Int32).toNatClampNeg) else (if v_j = mbn then (mbv (mbn - (1 : Int32)).toNatClampNeg) else ((FP.dadd (mbv (v_j - (1 : Int32)).toNatClampNeg) (FP.dmul (FP.dsub (mbv (v_j).toNatClampNeg) (mbv (v_j - (1 : Int32)).toNatClampNeg)) (FP.ddiv (FP.dsub p1 (mbd (v_j - (1 : Int32)).toNatClampNeg)) (FP.dsub (mbd (v_j).toNatClampNeg) (mbd (v_j - (1 : Int32)).toNatClampNeg)))))))) else ((fX4_factor_L22 mbn mbd mbv p1 k ((v_j) + 1))))
def fX4_factor (mbn : Int32) (mbd : Nat → UInt64) (mbv : Nat → UInt64) (p1 : UInt64) : UInt64 := if mbn = 0 then FP.dconst1 else (if (fX4_within p1 FP.dconst0 (4681608360884174848 : UInt64)) = 0 then FP.dconst1 else ((fX4_factor_L22 mbn mbd mbv p1 22 (0 : Int32))))
set_option maxHeartbeats 4000000 in
set_option maxRecDepth 100000 in
theorem c_X4_factor {l : Launch} {D : va_G} {cyD cyI cyJ cyZ : ClassId} (am bv bt bl be bdp bi bg bsd bsv bbd bbv br bu bw : Nat) (mn : Nat) (mm : UInt64) (mch : Int32) (msp : UInt64) (msb : UInt64) (mno : UInt64) (msn : Int32) (mbn : Int32) (mhr : Int32) (mro : Int32) (mv : Nat → UInt64) (mt : Nat → Int32) (ml : Nat → Int32) (med : Nat → Int32) (md : Nat → UInt64) (mi : Nat → UInt64) (mg : Nat → UInt64) (msd : Nat → UInt64) (msv : Nat → UInt64) (mbd : Nat → UInt64) (mbv : Nat → UInt64) (mr : Nat → Int32) (mu : Nat → Int64) (mw : Nat → Int32) (sz : Nat) (p1 : UInt64) (r : Nat) (hmbn : mbn = nI r) (hr20 : r ≤ 20) (hs : ∀ i, i < 21 → bd 1041 (mbd i)) (hv : ∀ i, i < 21 → bd 1041 (mbv i)) (hp9 : ¬ fX4_within p1 FP.dconst0 (4681608360884174848 : UInt64) = 0 → bd 1041 p1) : mD l yX4_factor wsX4_factor ({ frames := 1, cells := 0, slots := 0, locals := 25 } : Room) D (kT cyD cyI cyJ cyZ) [.ref am, .double p1] (wM cyD cyI cyJ cyZ am bv bt bl be bdp bi bg bsd bsv bbd bbv br bu bw mn mm mch msp msb mno msn mbn mhr mro mv mt ml med md mi mg msd msv mbd mbv mr mu mw) (wM cyD cyI cyJ cyZ am bv bt bl be bdp bi bg bsd bsv bbd bbv br bu bw mn mm mch msp msb mno msn mbn mhr mro mv mt ml med md mi mg msd msv mbd mbv mr mu mw) sz (fX4_factor mbn mbd mbv p1) 0 0 := by
  refine Met.ofW (cc := cX4_factor) (maxL := 12) (ret := (some .double)) (by decide) rfl ?_
  intro p e s m args below meth c s₁ B hml hv
  obtain ⟨rfl, hN, hsz, hP, hK, hD0⟩ := hv
  have hx := B.exec
  have hb := B.bytes
  have hr := B.returns
  have hts := atoms_spec (ws := wsX4_factor) B.pre
  have hown : s.vm.findClass RX4 = some m.cls := findClass_of_methodNamed B.named
  have hlocks := B.notSynchronized
  subst hsz
  have hD := hD0.self (sz := s.heap.size)
  generalize hAe : va_A (wM cyD cyI cyJ cyZ am bv bt bl be bdp bi bg bsd bsv bbd bbv br bu bw mn mm mch msp msb mno msn mbn mhr mro mv mt ml med md mi mg msd msv mbd mbv mr mu mw) s.heap.size = A at hD ⊢
  have hA : ∀ q : Nat, s.heap.size ≤ q → A q := fun q h => by rw [← hAe]; exact Or.inr h
  have hS : va_S A s.heap s.heap [] := va_S.rf
  have hP : va_P D vwCl (wM cyD cyI cyJ cyZ am bv bt bl be bdp bi bg bsd bsv bbd bbv br bu bw mn mm mch msp msb mno msn mbn mhr mro mv mt ml med md mi mg msd msv mbd mbv mr mu mw) s.heap := hP
  have hl := lv_entry [.ref am, .double p1] (n := 12) (Nat.le_of_ble_eq_true rfl)
  rw [lg_entry_eq]
  generalize (lg_sl [.ref am, .double p1] ++ List.replicate (12 - (lg_sl [.ref am, .double p1]).length) Slot.unset).toArray = ls at hl ⊢
  have hl : lv_has ls 12 [(0, .ref am), (1, .double p1)] := hl
  obtain ⟨H, hHe⟩ : ∃ H : Heap, H = s.heap := ⟨_, rfl⟩
  have hP : va_P D vwCl (wM cyD cyI cyJ cyZ am bv bt bl be bdp bi bg bsd bsv bbd bbv br bu bw mn mm mch msp msb mno msn mbn mhr mro mv mt ml med md mi mg msd msv mbd mbv mr mu mw) H := by rw [hHe]; exact hP
  have hS : va_S A s.heap H [] := by rw [hHe]; exact hS
  rw [← hHe]
  refine lv_aload_n hx hb dX4_factor_0 rfl (lv_at hl 0 rfl) ?_
  refine va_get (D := D) (ci := 4) (v := .int mbn) (C := RX4) (T := TX4) (N := 24) hx hb hts (fun _ h => (List.mem_cons_of_mem _ (List.mem_append_right _ h))) hown hK hP 0 rfl rfl 16 (by decide) (hts (.fieldLink RX4 188 "BottomWalksModel" "balls" "I") (List.mem_of_getElem? (i := 1) rfl)) (fun _ h9 => h9) rfl dX4_factor_1 ?_
  refine lv_if_eq (tgt := 18) hx hb dX4_factor_4 (by decide) (fun c_4 => ?_) (fun c_4 => ?_)
  · refine lv_dconst1 hx hb dX4_factor_18 ?_
    have hF9 : (fX4_factor mbn mbd mbv p1) = FP.dconst1 := by rw [fX4_factor, if_pos c_4]
    have hP9 : va_P D vwCl (wM cyD cyI cyJ cyZ am bv bt bl be bdp bi bg bsd bsv bbd bbv br bu bw mn mm mch msp msb mno msn mbn mhr mro mv mt ml med md mi mg msd msv mbd mbv mr mu mw) H := hP
    have hD9 : va_D A (wM cyD cyI cyJ cyZ am bv bt bl be bdp bi bg bsd bsv bbd bbv br bu bw mn mm mch msp msb mno msn mbn mhr mro mv mt ml med md mi mg msd msv mbd mbv mr mu mw) := hD
    exact W.dret (v := FP.dconst1) hx hb hr (fun t ht hW => ⟨⟨FP.dconst1, (), rfl, (by rw [hF9]), by rw [ht]; exact hP9, va_K.moved hW.alike hK, hD9⟩, hS.F ht⟩) hS.2.2 dX4_factor_19
  refine lv_dload_n hx hb dX4_factor_7 rfl (lv_at hl 1 rfl) ?_
  refine lv_dconst0 hx hb dX4_factor_8 ?_
  refine lv_ldc2d (v := 4681608360884174848) hx hb hown (hts (.constantDouble RX4 184 (4681608360884174848)) (List.mem_of_getElem? (i := 2) rfl)) dX4_factor_9 ?_
  have hPc : va_P D vwCl [] H := hP.sub [] rfl
  have hDc : va_D A [] := hD.sub [] (by decide) rfl
  refine kzE (ws' := (wM cyD cyI cyJ cyZ am bv bt bl be bdp bi bg bsd bsv bbd bbv br bu bw mn mm mch msp msb mno msn mbn mhr mro mv mt ml med md mi mg msd msv mbd mbv mr mu mw)) (wc := []) (wr := [(am, .inr (4, [.int (nI mn), .double mm, .ref bv, .ref bt, .ref bl, .ref be, .ref bdp, .ref bi, .ref bg, .int mch, .double msp, .double msb, .double mno, .int msn, .ref bsd, .ref bsv, .int mbn, .ref bbd, .ref bbv, .int mhr, .int mro, .ref br, .ref bu, .ref bw])), (bv, .inl (cyD, 8192, .inr (.inr (.inr (.inl mv))))), (bt, .inl (cyZ, 8192, .inl mt)), (bl, .inl (cyZ, 32, .inl ml)), (be, .inl (cyZ, 32, .inl med)), (bdp, .inl (cyD, 32, .inr (.inr (.inr (.inl md))))), (bi, .inl (cyD, 32, .inr (.inr (.inr (.inl mi))))), (bg, .inl (cyD, 32, .inr (.inr (.inr (.inl mg))))), (bsd, .inl (cyD, 21, .inr (.inr (.inr (.inl msd))))), (bsv, .inl (cyD, 21, .inr (.inr (.inr (.inl msv))))), (bbd, .inl (cyD, 21, .inr (.inr (.inr (.inl mbd))))), (bbv, .inl (cyD, 21, .inr (.inr (.inr (.inl mbv))))), (br, .inl (cyI, 32, .inl mr)), (bu, .inl (cyJ, 2048, .inr (.inl mu))), (bw, .inl (cyI, 32, .inl mw))]) (w1 := []) (va_runS (As := [.double p1, .double FP.dconst0, .double (4681608360884174848 : UInt64)]) (rest := []) ⟨hx, hb, hml, hown, hts⟩ (c_X4_within (l := l) (D := D) (cyD := cyD) (cyI := cyI) (cyJ := cyJ) (cyZ := cyZ) H.size p1 FP.dconst0 (4681608360884174848 : UInt64)) (va_cwS 3 hts gX4_factor_X4_within rfl rfl rfl (by decide +kernel) ⟨Nat.le_of_ble_eq_true rfl, Nat.le_of_ble_eq_true rfl⟩) (kS hN hK hPc hDc) rfl rfl hl.1 rfl (lv_room (Nat.le_of_ble_eq_true rfl)) dX4_factor_12 ⟨Nat.le_of_ble_eq_true rfl, Nat.le_of_ble_eq_true rfl⟩) hP hD hS hA [] [0, 1, 2, 3, 4, 5, 6, 7, 8, 9, 10, 11, 12, 13, 14] [0, 1, 2, 3, 4, 5, 6, 7, 8, 9, 10, 11, 12, 13, 14] rfl rfl (by decide) (by decide) rfl (by decide) (fun H locs hz_12 hP hD hS => ?_)
  refine lv_if_ne (tgt := 20) hx hb dX4_factor_15 (by decide) (fun c_15 => ?_) (fun c_15 => ?_)
  · refine lv_iconst (v := 0) hx hb dX4_factor_20 (by decide) ?_
    refine lv_istore_n (lv' := [(3, .int (0 : Int32)), (0, .ref am), (1, .double p1)]) hx hb dX4_factor_21 rfl hl (by decide) rfl (fun ls hl => ?_)
    have loop_22 : ∀ (k : Nat) (j : Nat) (H : Heap) (locs : List Loc), (j + k = 22) → (j ≤ r) → (∀ i, i + 1 = j → ¬ 0 < Op.cmpValue (FP.dcmp (mbd i) p1) CmpOp.g) → (fX4_factor mbn mbd mbv p1) = fX4_factor_L22 mbn mbd mbv p1 k ((nI j)) → va_P D vwCl (wM cyD cyI cyJ cyZ am bv bt bl be bdp bi bg bsd bsv bbd bbv br bu bw mn mm mch msp msb mno msn mbn mhr mro mv mt ml med md mi mg msd msv mbd mbv mr mu mw) H → va_D A (wM cyD cyI cyJ cyZ am bv bt bl be bdp bi bg bsd bsv bbd bbv br bu bw mn mm mch msp msb mno msn mbn mhr mro mv mt ml med md mi mg msd msv mbd mbv mr mu mw) → va_S A s.heap H locs → ∀ ls, lv_has ls 12 [(3, .int ((nI j))), (0, .ref am), (1, .double p1)] → W p l e (headSpec wsX4_factor ({ frames := 1, cells := 0, slots := 0, locals := 25 } : Room)).room s m ([.ref am, .double p1] : List Value).toArray below meth c H locs 0 0 (MQ below (va_Qd (fun (r : UInt64) (_ : Unit) => r = (fX4_factor mbn mbd mbv p1)) (kE D (kT cyD cyI cyJ cyZ) (wM cyD cyI cyJ cyZ am bv bt bl be bdp bi bg bsd bsv bbd bbv br bu bw mn mm mch msp msb mno msn mbn mhr mro mv mt ml med md mi mg msd msv mbd mbv mr mu mw) A) A) ([.ref am, .double p1] : List Value).toArray s 0 0 A) (F0 m 22 ls []) := by
      intro k_22
      induction k_22 with
      | zero => intro j H locs hj hj2 hpv hF hP hD hS ls hl; exact absurd hr20 (by omega)
      | succ k_22 ih_22 =>
        intro j H locs hj hj2 hpv hF hP hD hS ls hl
        refine lv_iload_n hx hb dX4_factor_22 rfl (lv_at hl 0 rfl) ?_
        refine lv_aload_n hx hb dX4_factor_23 rfl (lv_at hl 1 rfl) ?_
        refine va_get (D := D) (ci := 4) (v := .int mbn) (C := RX4) (T := TX4) (N := 24) hx hb hts (fun _ h => (List.mem_cons_of_mem _ (List.mem_append_right _ h))) hown hK hP 0 rfl rfl 16 (by decide) (hts (.fieldLink RX4 188 "BottomWalksModel" "balls" "I") (List.mem_of_getElem? (i := 1) rfl)) (fun _ h9 => h9) rfl dX4_factor_24 ?_
        refine lv_icmp_ge (tgt := 47) hx hb dX4_factor_27 (by decide) (fun c_27 => ?_) (fun c_27 => ?_)
        · refine lv_iload_n hx hb dX4_factor_47 rfl (lv_at hl 0 rfl) ?_
          refine lv_if_ne (tgt := 58) hx hb dX4_factor_48 (by decide) (fun c_48 => ?_) (fun c_48 => ?_)
          · refine lv_iload_n hx hb dX4_factor_58 rfl (lv_at hl 0 rfl) ?_
            refine lv_aload_n hx hb dX4_factor_59 rfl (lv_at hl 1 rfl) ?_
            refine va_get (D := D) (ci := 4) (v := .int mbn) (C := RX4) (T := TX4) (N := 24) hx hb hts (fun _ h => (List.mem_cons_of_mem _ (List.mem_append_right _ h))) hown hK hP 0 rfl rfl 16 (by decide) (hts (.fieldLink RX4 188 "BottomWalksModel" "balls" "I") (List.mem_of_getElem? (i := 1) rfl)) (fun _ h9 => h9) rfl dX4_factor_60 ?_
            refine lv_icmp_ne (tgt := 78) hx hb dX4_factor_63 (by decide) (fun c_63 => ?_) (fun c_63 => ?_)
            · exact absurd (fac_eq hmbn hj2 c_27 hr20) c_63
            refine lv_aload_n hx hb dX4_factor_66 rfl (lv_at hl 1 rfl) ?_
            refine va_get (D := D) (ci := 4) (v := .ref bbv) (C := RX4) (T := TX4) (N := 24) hx hb hts (fun _ h => (List.mem_cons_of_mem _ (List.mem_append_right _ h))) hown hK hP 0 rfl rfl 18 (by decide) (hts (.fieldLink RX4 41 "BottomWalksModel" "ballValues" "[D") (List.mem_of_getElem? (i := 4) rfl)) (fun _ h9 => h9) rfl dX4_factor_67 ?_
            refine lv_aload_n hx hb dX4_factor_70 rfl (lv_at hl 1 rfl) ?_
            refine va_get (D := D) (ci := 4) (v := .int mbn) (C := RX4) (T := TX4) (N := 24) hx hb hts (fun _ h => (List.mem_cons_of_mem _ (List.mem_append_right _ h))) hown hK hP 0 rfl rfl 16 (by decide) (hts (.fieldLink RX4 188 "BottomWalksModel" "balls" "I") (List.mem_of_getElem? (i := 1) rfl)) (fun _ h9 => h9) rfl dX4_factor_71 ?_
            refine lv_iconst (v := 1) hx hb dX4_factor_74 (by decide) ?_
            refine lv_isub hx hb dX4_factor_75 ?_
            refine va_dald hx hb hK hP 11 0 rfl rfl (by have h0 : 1 ≤ r := (by rcases Nat.eq_zero_or_pos r with z | z; exact absurd (by rw [hmbn, z]; rfl) c_4; exact z); rw [hmbn, nI_sub1 h0]; exact vp_in_nI (by omega) (by decide)) dX4_factor_76 ?_
            have hF9 : (fX4_factor mbn mbd mbv p1) = (mbv (mbn - (1 : Int32)).toNatClampNeg) := by rw [hF, fX4_factor_L22, if_pos c_27, if_neg c_48, if_pos c_63]
            have hP9 : va_P D vwCl (wM cyD cyI cyJ cyZ am bv bt bl be bdp bi bg bsd bsv bbd bbv br bu bw mn mm mch msp msb mno msn mbn mhr mro mv mt ml med md mi mg msd msv mbd mbv mr mu mw) H := hP
            have hD9 : va_D A (wM cyD cyI cyJ cyZ am bv bt bl be bdp bi bg bsd bsv bbd bbv br bu bw mn mm mch msp msb mno msn mbn mhr mro mv mt ml med md mi mg msd msv mbd mbv mr mu mw) := hD
            exact W.dret (v := (mbv (mbn - (1 : Int32)).toNatClampNeg)) hx hb hr (fun t ht hW => ⟨⟨(mbv (mbn - (1 : Int32)).toNatClampNeg), (), rfl, (by rw [hF9]), by rw [ht]; exact hP9, va_K.moved hW.alike hK, hD9⟩, hS.F ht⟩) hS.2.2 dX4_factor_77
          refine lv_aload_n hx hb dX4_factor_51 rfl (lv_at hl 1 rfl) ?_
          refine va_get (D := D) (ci := 4) (v := .ref bbv) (C := RX4) (T := TX4) (N := 24) hx hb hts (fun _ h => (List.mem_cons_of_mem _ (List.mem_append_right _ h))) hown hK hP 0 rfl rfl 18 (by decide) (hts (.fieldLink RX4 41 "BottomWalksModel" "ballValues" "[D") (List.mem_of_getElem? (i := 4) rfl)) (fun _ h9 => h9) rfl dX4_factor_52 ?_
          refine lv_iconst (v := 0) hx hb dX4_factor_55 (by decide) ?_
          refine va_dald hx hb hK hP 11 0 rfl rfl (vp_in_nI (n := 0) (by decide) (by decide)) dX4_factor_56 ?_
          have hF9 : (fX4_factor mbn mbd mbv p1) = (mbv (0 : Int32).toNatClampNeg) := by rw [hF, fX4_factor_L22, if_pos c_27, if_pos c_48]
          have hP9 : va_P D vwCl (wM cyD cyI cyJ cyZ am bv bt bl be bdp bi bg bsd bsv bbd bbv br bu bw mn mm mch msp msb mno msn mbn mhr mro mv mt ml med md mi mg msd msv mbd mbv mr mu mw) H := hP
          have hD9 : va_D A (wM cyD cyI cyJ cyZ am bv bt bl be bdp bi bg bsd bsv bbd bbv br bu bw mn mm mch msp msb mno msn mbn mhr mro mv mt ml med md mi mg msd msv mbd mbv mr mu mw) := hD
          exact W.dret (v := (mbv (0 : Int32).toNatClampNeg)) hx hb hr (fun t ht hW => ⟨⟨(mbv (0 : Int32).toNatClampNeg), (), rfl, (by rw [hF9]), by rw [ht]; exact hP9, va_K.moved hW.alike hK, hD9⟩, hS.F ht⟩) hS.2.2 dX4_factor_57
        refine lv_aload_n hx hb dX4_factor_30 rfl (lv_at hl 1 rfl) ?_
        refine va_get (D := D) (ci := 4) (v := .ref bbd) (C := RX4) (T := TX4) (N := 24) hx hb hts (fun _ h => (List.mem_cons_of_mem _ (List.mem_append_right _ h))) hown hK hP 0 rfl rfl 17 (by decide) (hts (.fieldLink RX4 38 "BottomWalksModel" "ballDays" "[D") (List.mem_of_getElem? (i := 3) rfl)) (fun _ h9 => h9) rfl dX4_factor_31 ?_
        refine lv_iload_n hx hb dX4_factor_34 rfl (lv_at hl 0 rfl) ?_
        refine va_dald hx hb hK hP 10 0 rfl rfl (vp_in_nI (by omega) (by decide)) dX4_factor_35 ?_
        refine lv_dload_n hx hb dX4_factor_36 rfl (lv_at hl 2 rfl) ?_
        refine lv_dcmp hx hb dX4_factor_37 ?_
        refine lv_if_gt (tgt := 47) hx hb dX4_factor_38 (by decide) (fun c_38 => ?_) (fun c_38 => ?_)
        · refine lv_iload_n hx hb dX4_factor_47 rfl (lv_at hl 0 rfl) ?_
          refine lv_if_ne (tgt := 58) hx hb dX4_factor_48 (by decide) (fun c_48 => ?_) (fun c_48 => ?_)
          · refine lv_iload_n hx hb dX4_factor_58 rfl (lv_at hl 0 rfl) ?_
            refine lv_aload_n hx hb dX4_factor_59 rfl (lv_at hl 1 rfl) ?_
            refine va_get (D := D) (ci := 4) (v := .int mbn) (C := RX4) (T := TX4) (N := 24) hx hb hts (fun _ h => (List.mem_cons_of_mem _ (List.mem_append_right _ h))) hown hK hP 0 rfl rfl 16 (by decide) (hts (.fieldLink RX4 188 "BottomWalksModel" "balls" "I") (List.mem_of_getElem? (i := 1) rfl)) (fun _ h9 => h9) rfl dX4_factor_60 ?_
            refine lv_icmp_ne (tgt := 78) hx hb dX4_factor_63 (by decide) (fun c_63 => ?_) (fun c_63 => ?_)
            · refine lv_aload_n hx hb dX4_factor_78 rfl (lv_at hl 1 rfl) ?_
              refine va_get (D := D) (ci := 4) (v := .ref bbv) (C := RX4) (T := TX4) (N := 24) hx hb hts (fun _ h => (List.mem_cons_of_mem _ (List.mem_append_right _ h))) hown hK hP 0 rfl rfl 18 (by decide) (hts (.fieldLink RX4 41 "BottomWalksModel" "ballValues" "[D") (List.mem_of_getElem? (i := 4) rfl)) (fun _ h9 => h9) rfl dX4_factor_79 ?_
              refine lv_iload_n hx hb dX4_factor_82 rfl (lv_at hl 0 rfl) ?_
              refine lv_iconst (v := 1) hx hb dX4_factor_83 (by decide) ?_
              refine lv_isub hx hb dX4_factor_84 ?_
              refine va_dald hx hb hK hP 11 0 rfl rfl (m1_in c_48 (by omega)) dX4_factor_85 ?_
              refine lv_dstore (lv' := [(4, .double (mbv ((nI j) - (1 : Int32)).toNatClampNeg)), (3, .int ((nI j))), (0, .ref am), (1, .double p1)]) hx hb dX4_factor_86 hl (by decide) rfl (fun ls hl => ?_)
              refine lv_aload_n hx hb dX4_factor_88 rfl (lv_at hl 2 rfl) ?_
              refine va_get (D := D) (ci := 4) (v := .ref bbv) (C := RX4) (T := TX4) (N := 24) hx hb hts (fun _ h => (List.mem_cons_of_mem _ (List.mem_append_right _ h))) hown hK hP 0 rfl rfl 18 (by decide) (hts (.fieldLink RX4 41 "BottomWalksModel" "ballValues" "[D") (List.mem_of_getElem? (i := 4) rfl)) (fun _ h9 => h9) rfl dX4_factor_89 ?_
              refine lv_iload_n hx hb dX4_factor_92 rfl (lv_at hl 1 rfl) ?_
              refine va_dald hx hb hK hP 11 0 rfl rfl (vp_in_nI (by omega) (by decide)) dX4_factor_93 ?_
              refine lv_dstore (lv' := [(6, .double (mbv ((nI j)).toNatClampNeg)), (4, .double (mbv ((nI j) - (1 : Int32)).toNatClampNeg)), (3, .int ((nI j))), (0, .ref am), (1, .double p1)]) hx hb dX4_factor_94 hl (by decide) rfl (fun ls hl => ?_)
              refine lv_aload_n hx hb dX4_factor_96 rfl (lv_at hl 3 rfl) ?_
              refine va_get (D := D) (ci := 4) (v := .ref bbd) (C := RX4) (T := TX4) (N := 24) hx hb hts (fun _ h => (List.mem_cons_of_mem _ (List.mem_append_right _ h))) hown hK hP 0 rfl rfl 17 (by decide) (hts (.fieldLink RX4 38 "BottomWalksModel" "ballDays" "[D") (List.mem_of_getElem? (i := 3) rfl)) (fun _ h9 => h9) rfl dX4_factor_97 ?_
              refine lv_iload_n hx hb dX4_factor_100 rfl (lv_at hl 2 rfl) ?_
              refine lv_iconst (v := 1) hx hb dX4_factor_101 (by decide) ?_
              refine lv_isub hx hb dX4_factor_102 ?_
              refine va_dald hx hb hK hP 10 0 rfl rfl (m1_in c_48 (by omega)) dX4_factor_103 ?_
              refine lv_dstore (lv' := [(8, .double (mbd ((nI j) - (1 : Int32)).toNatClampNeg)), (6, .double (mbv ((nI j)).toNatClampNeg)), (4, .double (mbv ((nI j) - (1 : Int32)).toNatClampNeg)), (3, .int ((nI j))), (0, .ref am), (1, .double p1)]) hx hb dX4_factor_104 hl (by decide) rfl (fun ls hl => ?_)
              refine lv_aload_n hx hb dX4_factor_106 rfl (lv_at hl 4 rfl) ?_
              refine va_get (D := D) (ci := 4) (v := .ref bbd) (C := RX4) (T := TX4) (N := 24) hx hb hts (fun _ h => (List.mem_cons_of_mem _ (List.mem_append_right _ h))) hown hK hP 0 rfl rfl 17 (by decide) (hts (.fieldLink RX4 38 "BottomWalksModel" "ballDays" "[D") (List.mem_of_getElem? (i := 3) rfl)) (fun _ h9 => h9) rfl dX4_factor_107 ?_
              refine lv_iload_n hx hb dX4_factor_110 rfl (lv_at hl 3 rfl) ?_
              refine va_dald hx hb hK hP 10 0 rfl rfl (vp_in_nI (by omega) (by decide)) dX4_factor_111 ?_
              refine lv_dstore (lv' := [(10, .double (mbd ((nI j)).toNatClampNeg)), (8, .double (mbd ((nI j) - (1 : Int32)).toNatClampNeg)), (6, .double (mbv ((nI j)).toNatClampNeg)), (4, .double (mbv ((nI j) - (1 : Int32)).toNatClampNeg)), (3, .int ((nI j))), (0, .ref am), (1, .double p1)]) hx hb dX4_factor_112 hl (by decide) rfl (fun ls hl => ?_)
              refine lv_dload hx hb dX4_factor_114 (lv_at hl 3 rfl) ?_
              refine lv_dload hx hb dX4_factor_116 (lv_at hl 2 rfl) ?_
              refine lv_dload hx hb dX4_factor_118 (lv_at hl 3 rfl) ?_
              refine lv_dsub hx hb dX4_factor_120 (bd_n (bd_sub (Ka := 1041) (Kb := 1041) (K := 1043) (vpin_bd (vp_in_nI (by omega) (by decide)) (by decide) hv) (vpin_bd (m1_in c_48 (by omega)) (by decide) hv) (by decide) (by decide) (by decide) (by decide)) (by decide)) ?_
              refine lv_dload_n hx hb dX4_factor_121 rfl (lv_at hl 6 rfl) ?_
              refine lv_dload hx hb dX4_factor_122 (lv_at hl 1 rfl) ?_
              refine lv_dsub hx hb dX4_factor_124 (bd_n (bd_sub (Ka := 1041) (Kb := 1041) (K := 1043) (hp9 c_15) (vpin_bd (m1_in c_48 (by omega)) (by decide) hs) (by decide) (by decide) (by decide) (by decide)) (by decide)) ?_
              refine lv_dload hx hb dX4_factor_125 (lv_at hl 0 rfl) ?_
              refine lv_dload hx hb dX4_factor_127 (lv_at hl 1 rfl) ?_
              refine lv_dsub hx hb dX4_factor_129 (bd_n (bd_sub (Ka := 1041) (Kb := 1041) (K := 1043) (vpin_bd (vp_in_nI (by omega) (by decide)) (by decide) hs) (vpin_bd (m1_in c_48 (by omega)) (by decide) hs) (by decide) (by decide) (by decide) (by decide)) (by decide)) ?_
              refine lv_ddiv hx hb dX4_factor_130 (bd_n (facM hs (hp9 c_15) c_48 (by omega) hpv c_38) (by decide)) ?_
              refine lv_dmul hx hb dX4_factor_131 (bd_n (bd_mul (Ka := 1043) (Kb := 1025) (K := 1046) (bd_sub (Ka := 1041) (Kb := 1041) (K := 1043) (vpin_bd (vp_in_nI (by omega) (by decide)) (by decide) hv) (vpin_bd (m1_in c_48 (by omega)) (by decide) hv) (by decide) (by decide) (by decide) (by decide)) (facM hs (hp9 c_15) c_48 (by omega) hpv c_38) (by decide) (by decide) (by decide)) (by decide)) ?_
              refine lv_dadd hx hb dX4_factor_132 (bd_n (bd_add (Ka := 1041) (Kb := 1046) (K := 1048) (vpin_bd (m1_in c_48 (by omega)) (by decide) hv) (bd_mul (Ka := 1043) (Kb := 1025) (K := 1046) (bd_sub (Ka := 1041) (Kb := 1041) (K := 1043) (vpin_bd (vp_in_nI (by omega) (by decide)) (by decide) hv) (vpin_bd (m1_in c_48 (by omega)) (by decide) hv) (by decide) (by decide) (by decide) (by decide)) (facM hs (hp9 c_15) c_48 (by omega) hpv c_38) (by decide) (by decide) (by decide)) (by decide) (by decide) (by decide) (by decide)) (by decide)) ?_
              have hF9 : (fX4_factor mbn mbd mbv p1) = (FP.dadd (mbv ((nI j) - (1 : Int32)).toNatClampNeg) (FP.dmul (FP.dsub (mbv ((nI j)).toNatClampNeg) (mbv ((nI j) - (1 : Int32)).toNatClampNeg)) (FP.ddiv (FP.dsub p1 (mbd ((nI j) - (1 : Int32)).toNatClampNeg)) (FP.dsub (mbd ((nI j)).toNatClampNeg) (mbd ((nI j) - (1 : Int32)).toNatClampNeg))))) := by rw [hF, fX4_factor_L22, if_neg c_27, if_pos c_38, if_neg c_48, if_neg c_63]
              have hP9 : va_P D vwCl (wM cyD cyI cyJ cyZ am bv bt bl be bdp bi bg bsd bsv bbd bbv br bu bw mn mm mch msp msb mno msn mbn mhr mro mv mt ml med md mi mg msd msv mbd mbv mr mu mw) H := hP
              have hD9 : va_D A (wM cyD cyI cyJ cyZ am bv bt bl be bdp bi bg bsd bsv bbd bbv br bu bw mn mm mch msp msb mno msn mbn mhr mro mv mt ml med md mi mg msd msv mbd mbv mr mu mw) := hD
              exact W.dret (v := (FP.dadd (mbv ((nI j) - (1 : Int32)).toNatClampNeg) (FP.dmul (FP.dsub (mbv ((nI j)).toNatClampNeg) (mbv ((nI j) - (1 : Int32)).toNatClampNeg)) (FP.ddiv (FP.dsub p1 (mbd ((nI j) - (1 : Int32)).toNatClampNeg)) (FP.dsub (mbd ((nI j)).toNatClampNeg) (mbd ((nI j) - (1 : Int32)).toNatClampNeg)))))) hx hb hr (fun t ht hW => ⟨⟨(FP.dadd (mbv ((nI j) - (1 : Int32)).toNatClampNeg) (FP.dmul (FP.dsub (mbv ((nI j)).toNatClampNeg) (mbv ((nI j) - (1 : Int32)).toNatClampNeg)) (FP.ddiv (FP.dsub p1 (mbd ((nI j) - (1 : Int32)).toNatClampNeg)) (FP.dsub (mbd ((nI j)).toNatClampNeg) (mbd ((nI j) - (1 : Int32)).toNatClampNeg))))), (), rfl, (by rw [hF9]), by rw [ht]; exact hP9, va_K.moved hW.alike hK, hD9⟩, hS.F ht⟩) hS.2.2 dX4_factor_133
            refine lv_aload_n hx hb dX4_factor_66 rfl (lv_at hl 1 rfl) ?_
            refine va_get (D := D) (ci := 4) (v := .ref bbv) (C := RX4) (T := TX4) (N := 24) hx hb hts (fun _ h => (List.mem_cons_of_mem _ (List.mem_append_right _ h))) hown hK hP 0 rfl rfl 18 (by decide) (hts (.fieldLink RX4 41 "BottomWalksModel" "ballValues" "[D") (List.mem_of_getElem? (i := 4) rfl)) (fun _ h9 => h9) rfl dX4_factor_67 ?_
            refine lv_aload_n hx hb dX4_factor_70 rfl (lv_at hl 1 rfl) ?_
            refine va_get (D := D) (ci := 4) (v := .int mbn) (C := RX4) (T := TX4) (N := 24) hx hb hts (fun _ h => (List.mem_cons_of_mem _ (List.mem_append_right _ h))) hown hK hP 0 rfl rfl 16 (by decide) (hts (.fieldLink RX4 188 "BottomWalksModel" "balls" "I") (List.mem_of_getElem? (i := 1) rfl)) (fun _ h9 => h9) rfl dX4_factor_71 ?_
            refine lv_iconst (v := 1) hx hb dX4_factor_74 (by decide) ?_
            refine lv_isub hx hb dX4_factor_75 ?_
            refine va_dald hx hb hK hP 11 0 rfl rfl (by have h0 : 1 ≤ r := (by rcases Nat.eq_zero_or_pos r with z | z; exact absurd (by rw [hmbn, z]; rfl) c_4; exact z); rw [hmbn, nI_sub1 h0]; exact vp_in_nI (by omega) (by decide)) dX4_factor_76 ?_
            have hF9 : (fX4_factor mbn mbd mbv p1) = (mbv (mbn - (1 : Int32)).toNatClampNeg) := by rw [hF, fX4_factor_L22, if_neg c_27, if_pos c_38, if_neg c_48, if_pos c_63]
            have hP9 : va_P D vwCl (wM cyD cyI cyJ cyZ am bv bt bl be bdp bi bg bsd bsv bbd bbv br bu bw mn mm mch msp msb mno msn mbn mhr mro mv mt ml med md mi mg msd msv mbd mbv mr mu mw) H := hP
            have hD9 : va_D A (wM cyD cyI cyJ cyZ am bv bt bl be bdp bi bg bsd bsv bbd bbv br bu bw mn mm mch msp msb mno msn mbn mhr mro mv mt ml med md mi mg msd msv mbd mbv mr mu mw) := hD
            exact W.dret (v := (mbv (mbn - (1 : Int32)).toNatClampNeg)) hx hb hr (fun t ht hW => ⟨⟨(mbv (mbn - (1 : Int32)).toNatClampNeg), (), rfl, (by rw [hF9]), by rw [ht]; exact hP9, va_K.moved hW.alike hK, hD9⟩, hS.F ht⟩) hS.2.2 dX4_factor_77
          refine lv_aload_n hx hb dX4_factor_51 rfl (lv_at hl 1 rfl) ?_
          refine va_get (D := D) (ci := 4) (v := .ref bbv) (C := RX4) (T := TX4) (N := 24) hx hb hts (fun _ h => (List.mem_cons_of_mem _ (List.mem_append_right _ h))) hown hK hP 0 rfl rfl 18 (by decide) (hts (.fieldLink RX4 41 "BottomWalksModel" "ballValues" "[D") (List.mem_of_getElem? (i := 4) rfl)) (fun _ h9 => h9) rfl dX4_factor_52 ?_
          refine lv_iconst (v := 0) hx hb dX4_factor_55 (by decide) ?_
          refine va_dald hx hb hK hP 11 0 rfl rfl (vp_in_nI (n := 0) (by decide) (by decide)) dX4_factor_56 ?_
          have hF9 : (fX4_factor mbn mbd mbv p1) = (mbv (0 : Int32).toNatClampNeg) := by rw [hF, fX4_factor_L22, if_neg c_27, if_pos c_38, if_pos c_48]
          have hP9 : va_P D vwCl (wM cyD cyI cyJ cyZ am bv bt bl be bdp bi bg bsd bsv bbd bbv br bu bw mn mm mch msp msb mno msn mbn mhr mro mv mt ml med md mi mg msd msv mbd mbv mr mu mw) H := hP
          have hD9 : va_D A (wM cyD cyI cyJ cyZ am bv bt bl be bdp bi bg bsd bsv bbd bbv br bu bw mn mm mch msp msb mno msn mbn mhr mro mv mt ml med md mi mg msd msv mbd mbv mr mu mw) := hD
          exact W.dret (v := (mbv (0 : Int32).toNatClampNeg)) hx hb hr (fun t ht hW => ⟨⟨(mbv (0 : Int32).toNatClampNeg), (), rfl, (by rw [hF9]), by rw [ht]; exact hP9, va_K.moved hW.alike hK, hD9⟩, hS.F ht⟩) hS.2.2 dX4_factor_57
        refine lv_iinc (v := (((nI j)) + 1)) (lv' := [(3, .int (((nI j)) + 1)), (0, .ref am), (1, .double p1)]) hx hb dX4_factor_41 hl (k := 0) rfl rfl (by decide) rfl (fun ls hl => ?_)
        refine lv_goto (tgt := 22) hx hb dX4_factor_44 (by decide) ?_
        exact ih_22 (j + 1) _ _ (by omega) (by rw [hmbn] at c_27; have := Nat.lt_of_not_le (fun q => c_27 (nI_le q (by omega))); omega) (fun i h => by have e : i = j := (by omega); rw [e]; rw [nI_clamp (by omega)] at c_38; exact c_38) (by rw [← nI_1 j]; rw [hF, fX4_factor_L22, if_neg c_27, if_neg c_38]) hP hD hS _ (by rw [← nI_1 j]; exact lv_sub hl [0, 1, 2] rfl)
    exact loop_22 22 0 _ _ rfl (Nat.zero_le _) (fun i h => absurd h (by omega)) (by rw [nI_0]; rw [fX4_factor, if_neg c_4, if_neg c_15]) hP hD hS _ (by exact lv_sub hl [0, 1, 2] rfl)
  refine lv_dconst1 hx hb dX4_factor_18 ?_
  have hF9 : (fX4_factor mbn mbd mbv p1) = FP.dconst1 := by rw [fX4_factor, if_neg c_4, if_pos c_15]
  have hP9 : va_P D vwCl (wM cyD cyI cyJ cyZ am bv bt bl be bdp bi bg bsd bsv bbd bbv br bu bw mn mm mch msp msb mno msn mbn mhr mro mv mt ml med md mi mg msd msv mbd mbv mr mu mw) H := hP
  have hD9 : va_D A (wM cyD cyI cyJ cyZ am bv bt bl be bdp bi bg bsd bsv bbd bbv br bu bw mn mm mch msp msb mno msn mbn mhr mro mv mt ml med md mi mg msd msv mbd mbv mr mu mw) := hD
  exact W.dret (v := FP.dconst1) hx hb hr (fun t ht hW => ⟨⟨FP.dconst1, (), rfl, (by rw [hF9]), by rw [ht]; exact hP9, va_K.moved hW.alike hK, hD9⟩, hS.F ht⟩) hS.2.2 dX4_factor_19
def fX4_map_L42 (mm : UInt64) (mhr : Int32) (med : Nat → Int32) (md : Nat → UInt64) (mi : Nat → UInt64) (mr : Nat → Int32)  (p1 : UInt64) (p2 : UInt64) : Nat → (Int32) → (Int32) → (UInt64) → (UInt64) → UInt64
  | 0, v_j, v_so, v_ov, v_un => 0
  | k + 1, v_j, v_so, v_ov, v_un => if (32 : Int32) ≤ v_j then (if v_so = 0 then (13830554455654793216 : UInt64) else ((FP.ddiv v_ov v_un))) else (if (fX4_hasBottom mhr mr (v_j)) = 0 then (fX4_map_L42 mm mhr med md mi mr p1 p2 k ((v_j) + 1) (v_so) (v_ov) (v_un)) else ((fX4_map_L42 mm mhr med md mi mr p1 p2 k ((v_j) + 1) (1 : Int32) (FP.dadd v_ov (FP.dmul (FP.ddiv FP.dconst1 (FP.dadd (FP.dadd FP.dconst1 (FP.dmul (FP.dsub p1 (FP.i2d v_j)) (FP.dsub p1 (FP.i2d v_j)))) (FP.dmul p2 p2))) (fX4_bottom mm mhr med md mi mr (v_j)))) (FP.dadd v_un (FP.ddiv FP.dconst1 (FP.dadd (FP.dadd FP.dconst1 (FP.dmul (FP.dsub p1 (FP.i2d v_j)) (FP.dsub p1 (FP.i2d v_j)))) (FP.dmul p2 p2)))))))
def fX4_map (mm : UInt64) (mhr : Int32) (med : Nat → Int32) (md : Nat → UInt64) (mi : Nat → UInt64) (mr : Nat → Int32) (p1 : UInt64) (p2 : UInt64) : UInt64 := if (fX4_within p1 (13920209183539462144 : UInt64) (4696837146684686336 : UInt64)) = 0 then (13830554455654793216 : UInt64) else (if (fX4_within p2 (13920209183539462144 : UInt64) (4696837146684686336 : UInt64)) = 0 then (13830554455654793216 : UInt64) else ((fX4_map_L42 mm mhr med md mi mr p1 p2 33 (0 : Int32) (0 : Int32) FP.dconst0 FP.dconst0)))
set_option maxHeartbeats 4000000 in
set_option maxRecDepth 100000 in
theorem c_X4_map {l : Launch} {D : va_G} {cyD cyI cyJ cyZ : ClassId} (am bv bt bl be bdp bi bg bsd bsv bbd bbv br bu bw : Nat) (mn : Nat) (mm : UInt64) (mch : Int32) (msp : UInt64) (msb : UInt64) (mno : UInt64) (msn : Int32) (mbn : Int32) (mhr : Int32) (mro : Int32) (mv : Nat → UInt64) (mt : Nat → Int32) (ml : Nat → Int32) (med : Nat → Int32) (md : Nat → UInt64) (mi : Nat → UInt64) (mg : Nat → UInt64) (msd : Nat → UInt64) (msv : Nat → UInt64) (mbd : Nat → UInt64) (mbv : Nat → UInt64) (mr : Nat → Int32) (mu : Nat → Int64) (mw : Nat → Int32) (sz : Nat) (p1 : UInt64) (p2 : UInt64) (hM : okM mn mm msp msb mno mv) (hmd : ∀ i, i < 32 → bd 1037 (md i)) (hmi : ∀ i, i < 32 → bd 1028 (mi i)) (hx1 : bd 1055 p1) (hy1 : bd 1055 p2) (hden : ∀ j : Nat, j < 32 → lb 1023 (FP.dadd (FP.dadd FP.dconst1 (FP.dmul (FP.dsub p1 (FP.i2d (nI j))) (FP.dsub p1 (FP.i2d (nI j))))) (FP.dmul p2 p2)) ∧ nn (FP.dadd (FP.dadd FP.dconst1 (FP.dmul (FP.dsub p1 (FP.i2d (nI j))) (FP.dsub p1 (FP.i2d (nI j))))) (FP.dmul p2 p2))) : mD l yX4_map wsX4_map ({ frames := 6, cells := 0, slots := 0, locals := 129 } : Room) D (kT cyD cyI cyJ cyZ) [.ref am, .double p1, .double p2] (wM cyD cyI cyJ cyZ am bv bt bl be bdp bi bg bsd bsv bbd bbv br bu bw mn mm mch msp msb mno msn mbn mhr mro mv mt ml med md mi mg msd msv mbd mbv mr mu mw) (wM cyD cyI cyJ cyZ am bv bt bl be bdp bi bg bsd bsv bbd bbv br bu bw mn mm mch msp msb mno msn mbn mhr mro mv mt ml med md mi mg msd msv mbd mbv mr mu mw) sz (fX4_map mm mhr med md mi mr p1 p2) 0 0 := by
  refine Met.ofW (cc := cX4_map) (maxL := 13) (ret := (some .double)) (by decide) rfl ?_
  intro p e s m args below meth c s₁ B hml hv
  obtain ⟨rfl, hN, hsz, hP, hK, hD0⟩ := hv
  have hx := B.exec
  have hb := B.bytes
  have hr := B.returns
  have hts := atoms_spec (ws := wsX4_map) B.pre
  have hown : s.vm.findClass RX4 = some m.cls := findClass_of_methodNamed B.named
  have hlocks := B.notSynchronized
  subst hsz
  have hD := hD0.self (sz := s.heap.size)
  generalize hAe : va_A (wM cyD cyI cyJ cyZ am bv bt bl be bdp bi bg bsd bsv bbd bbv br bu bw mn mm mch msp msb mno msn mbn mhr mro mv mt ml med md mi mg msd msv mbd mbv mr mu mw) s.heap.size = A at hD ⊢
  have hA : ∀ q : Nat, s.heap.size ≤ q → A q := fun q h => by rw [← hAe]; exact Or.inr h
  have hS : va_S A s.heap s.heap [] := va_S.rf
  have hP : va_P D vwCl (wM cyD cyI cyJ cyZ am bv bt bl be bdp bi bg bsd bsv bbd bbv br bu bw mn mm mch msp msb mno msn mbn mhr mro mv mt ml med md mi mg msd msv mbd mbv mr mu mw) s.heap := hP
  have hl := lv_entry [.ref am, .double p1, .double p2] (n := 13) (Nat.le_of_ble_eq_true rfl)
  rw [lg_entry_eq]
  generalize (lg_sl [.ref am, .double p1, .double p2] ++ List.replicate (13 - (lg_sl [.ref am, .double p1, .double p2]).length) Slot.unset).toArray = ls at hl ⊢
  have hl : lv_has ls 13 [(0, .ref am), (1, .double p1), (3, .double p2)] := hl
  obtain ⟨H, hHe⟩ : ∃ H : Heap, H = s.heap := ⟨_, rfl⟩
  have hP : va_P D vwCl (wM cyD cyI cyJ cyZ am bv bt bl be bdp bi bg bsd bsv bbd bbv br bu bw mn mm mch msp msb mno msn mbn mhr mro mv mt ml med md mi mg msd msv mbd mbv mr mu mw) H := by rw [hHe]; exact hP
  have hS : va_S A s.heap H [] := by rw [hHe]; exact hS
  rw [← hHe]
  refine lv_dload_n hx hb dX4_map_0 rfl (lv_at hl 1 rfl) ?_
  refine lv_ldc2d (v := 13920209183539462144) hx hb hown (hts (.constantDouble RX4 199 (13920209183539462144)) (List.mem_of_getElem? (i := 1) rfl)) dX4_map_1 ?_
  refine lv_ldc2d (v := 4696837146684686336) hx hb hown (hts (.constantDouble RX4 201 (4696837146684686336)) (List.mem_of_getElem? (i := 2) rfl)) dX4_map_4 ?_
  have hPc : va_P D vwCl [] H := hP.sub [] rfl
  have hDc : va_D A [] := hD.sub [] (by decide) rfl
  refine kzE (ws' := (wM cyD cyI cyJ cyZ am bv bt bl be bdp bi bg bsd bsv bbd bbv br bu bw mn mm mch msp msb mno msn mbn mhr mro mv mt ml med md mi mg msd msv mbd mbv mr mu mw)) (wc := []) (wr := [(am, .inr (4, [.int (nI mn), .double mm, .ref bv, .ref bt, .ref bl, .ref be, .ref bdp, .ref bi, .ref bg, .int mch, .double msp, .double msb, .double mno, .int msn, .ref bsd, .ref bsv, .int mbn, .ref bbd, .ref bbv, .int mhr, .int mro, .ref br, .ref bu, .ref bw])), (bv, .inl (cyD, 8192, .inr (.inr (.inr (.inl mv))))), (bt, .inl (cyZ, 8192, .inl mt)), (bl, .inl (cyZ, 32, .inl ml)), (be, .inl (cyZ, 32, .inl med)), (bdp, .inl (cyD, 32, .inr (.inr (.inr (.inl md))))), (bi, .inl (cyD, 32, .inr (.inr (.inr (.inl mi))))), (bg, .inl (cyD, 32, .inr (.inr (.inr (.inl mg))))), (bsd, .inl (cyD, 21, .inr (.inr (.inr (.inl msd))))), (bsv, .inl (cyD, 21, .inr (.inr (.inr (.inl msv))))), (bbd, .inl (cyD, 21, .inr (.inr (.inr (.inl mbd))))), (bbv, .inl (cyD, 21, .inr (.inr (.inr (.inl mbv))))), (br, .inl (cyI, 32, .inl mr)), (bu, .inl (cyJ, 2048, .inr (.inl mu))), (bw, .inl (cyI, 32, .inl mw))]) (w1 := []) (va_runS (As := [.double p1, .double (13920209183539462144 : UInt64), .double (4696837146684686336 : UInt64)]) (rest := []) ⟨hx, hb, hml, hown, hts⟩ (c_X4_within (l := l) (D := D) (cyD := cyD) (cyI := cyI) (cyJ := cyJ) (cyZ := cyZ) H.size p1 (13920209183539462144 : UInt64) (4696837146684686336 : UInt64)) (va_cwS 3 hts gX4_map_X4_within rfl rfl rfl (by decide +kernel) ⟨Nat.le_of_ble_eq_true rfl, Nat.le_of_ble_eq_true rfl⟩) (kS hN hK hPc hDc) rfl rfl hl.1 rfl (lv_room (Nat.le_of_ble_eq_true rfl)) dX4_map_7 ⟨Nat.le_of_ble_eq_true rfl, Nat.le_of_ble_eq_true rfl⟩) hP hD hS hA [] [0, 1, 2, 3, 4, 5, 6, 7, 8, 9, 10, 11, 12, 13, 14] [0, 1, 2, 3, 4, 5, 6, 7, 8, 9, 10, 11, 12, 13, 14] rfl rfl (by decide) (by decide) rfl (by decide) (fun H locs hz_7 hP hD hS => ?_)
  refine lv_if_eq (tgt := 26) hx hb dX4_map_10 (by decide) (fun c_10 => ?_) (fun c_10 => ?_)
  · refine lv_ldc2d (v := 13830554455654793216) hx hb hown (hts (.constantDouble RX4 158 (13830554455654793216)) (List.mem_of_getElem? (i := 3) rfl)) dX4_map_26 ?_
    have hF9 : (fX4_map mm mhr med md mi mr p1 p2) = (13830554455654793216 : UInt64) := by rw [fX4_map, if_pos c_10]
    have hP9 : va_P D vwCl (wM cyD cyI cyJ cyZ am bv bt bl be bdp bi bg bsd bsv bbd bbv br bu bw mn mm mch msp msb mno msn mbn mhr mro mv mt ml med md mi mg msd msv mbd mbv mr mu mw) H := hP
    have hD9 : va_D A (wM cyD cyI cyJ cyZ am bv bt bl be bdp bi bg bsd bsv bbd bbv br bu bw mn mm mch msp msb mno msn mbn mhr mro mv mt ml med md mi mg msd msv mbd mbv mr mu mw) := hD
    exact W.dret (v := (13830554455654793216 : UInt64)) hx hb hr (fun t ht hW => ⟨⟨(13830554455654793216 : UInt64), (), rfl, (by rw [hF9]), by rw [ht]; exact hP9, va_K.moved hW.alike hK, hD9⟩, hS.F ht⟩) hS.2.2 dX4_map_29
  refine lv_dload_n hx hb dX4_map_13 rfl (lv_at hl 2 rfl) ?_
  refine lv_ldc2d (v := 13920209183539462144) hx hb hown (hts (.constantDouble RX4 199 (13920209183539462144)) (List.mem_of_getElem? (i := 1) rfl)) dX4_map_14 ?_
  refine lv_ldc2d (v := 4696837146684686336) hx hb hown (hts (.constantDouble RX4 201 (4696837146684686336)) (List.mem_of_getElem? (i := 2) rfl)) dX4_map_17 ?_
  have hPc : va_P D vwCl [] H := hP.sub [] rfl
  have hDc : va_D A [] := hD.sub [] (by decide) rfl
  refine kzE (ws' := (wM cyD cyI cyJ cyZ am bv bt bl be bdp bi bg bsd bsv bbd bbv br bu bw mn mm mch msp msb mno msn mbn mhr mro mv mt ml med md mi mg msd msv mbd mbv mr mu mw)) (wc := []) (wr := [(am, .inr (4, [.int (nI mn), .double mm, .ref bv, .ref bt, .ref bl, .ref be, .ref bdp, .ref bi, .ref bg, .int mch, .double msp, .double msb, .double mno, .int msn, .ref bsd, .ref bsv, .int mbn, .ref bbd, .ref bbv, .int mhr, .int mro, .ref br, .ref bu, .ref bw])), (bv, .inl (cyD, 8192, .inr (.inr (.inr (.inl mv))))), (bt, .inl (cyZ, 8192, .inl mt)), (bl, .inl (cyZ, 32, .inl ml)), (be, .inl (cyZ, 32, .inl med)), (bdp, .inl (cyD, 32, .inr (.inr (.inr (.inl md))))), (bi, .inl (cyD, 32, .inr (.inr (.inr (.inl mi))))), (bg, .inl (cyD, 32, .inr (.inr (.inr (.inl mg))))), (bsd, .inl (cyD, 21, .inr (.inr (.inr (.inl msd))))), (bsv, .inl (cyD, 21, .inr (.inr (.inr (.inl msv))))), (bbd, .inl (cyD, 21, .inr (.inr (.inr (.inl mbd))))), (bbv, .inl (cyD, 21, .inr (.inr (.inr (.inl mbv))))), (br, .inl (cyI, 32, .inl mr)), (bu, .inl (cyJ, 2048, .inr (.inl mu))), (bw, .inl (cyI, 32, .inl mw))]) (w1 := []) (va_runS (As := [.double p2, .double (13920209183539462144 : UInt64), .double (4696837146684686336 : UInt64)]) (rest := []) ⟨hx, hb, hml, hown, hts⟩ (c_X4_within (l := l) (D := D) (cyD := cyD) (cyI := cyI) (cyJ := cyJ) (cyZ := cyZ) H.size p2 (13920209183539462144 : UInt64) (4696837146684686336 : UInt64)) (va_cwS 3 hts gX4_map_X4_within rfl rfl rfl (by decide +kernel) ⟨Nat.le_of_ble_eq_true rfl, Nat.le_of_ble_eq_true rfl⟩) (kS hN hK hPc hDc) rfl rfl hl.1 rfl (lv_room (Nat.le_of_ble_eq_true rfl)) dX4_map_20 ⟨Nat.le_of_ble_eq_true rfl, Nat.le_of_ble_eq_true rfl⟩) hP hD hS hA [] [0, 1, 2, 3, 4, 5, 6, 7, 8, 9, 10, 11, 12, 13, 14] [0, 1, 2, 3, 4, 5, 6, 7, 8, 9, 10, 11, 12, 13, 14] rfl rfl (by decide) (by decide) rfl (by decide) (fun H locs hz_20 hP hD hS => ?_)
  refine lv_if_ne (tgt := 30) hx hb dX4_map_23 (by decide) (fun c_23 => ?_) (fun c_23 => ?_)
  · refine lv_dconst0 hx hb dX4_map_30 ?_
    refine lv_dstore (lv' := [(5, .double FP.dconst0), (0, .ref am), (1, .double p1), (3, .double p2)]) hx hb dX4_map_31 hl (by decide) rfl (fun ls hl => ?_)
    refine lv_dconst0 hx hb dX4_map_33 ?_
    refine lv_dstore (lv' := [(7, .double FP.dconst0), (5, .double FP.dconst0), (0, .ref am), (1, .double p1), (3, .double p2)]) hx hb dX4_map_34 hl (by decide) rfl (fun ls hl => ?_)
    refine lv_iconst (v := 0) hx hb dX4_map_36 (by decide) ?_
    refine lv_istore (lv' := [(9, .int (0 : Int32)), (7, .double FP.dconst0), (5, .double FP.dconst0), (0, .ref am), (1, .double p1), (3, .double p2)]) hx hb dX4_map_37 hl (by decide) rfl (fun ls hl => ?_)
    refine lv_iconst (v := 0) hx hb dX4_map_39 (by decide) ?_
    refine lv_istore (lv' := [(10, .int (0 : Int32)), (9, .int (0 : Int32)), (7, .double FP.dconst0), (5, .double FP.dconst0), (0, .ref am), (1, .double p1), (3, .double p2)]) hx hb dX4_map_40 hl (by decide) rfl (fun ls hl => ?_)
    have loop_42 : ∀ (k : Nat) (j : Nat) (so : Int32) (ov un : UInt64) (H : Heap) (locs : List Loc), (j + k = 33) → (j ≤ 32) → (bd (1110 + 2 * j) ov) → (bd (1030 + 2 * j) un) → (nn un) → (so = 0 ∨ un.toNat % 2 ^ 63 ≠ 0) → (fX4_map mm mhr med md mi mr p1 p2) = fX4_map_L42 mm mhr med md mi mr p1 p2 k ((nI j)) (so) (ov) (un) → va_P D vwCl (wM cyD cyI cyJ cyZ am bv bt bl be bdp bi bg bsd bsv bbd bbv br bu bw mn mm mch msp msb mno msn mbn mhr mro mv mt ml med md mi mg msd msv mbd mbv mr mu mw) H → va_D A (wM cyD cyI cyJ cyZ am bv bt bl be bdp bi bg bsd bsv bbd bbv br bu bw mn mm mch msp msb mno msn mbn mhr mro mv mt ml med md mi mg msd msv mbd mbv mr mu mw) → va_S A s.heap H locs → ∀ ls, lv_has ls 13 [(10, .int ((nI j))), (9, .int (so)), (7, .double (un)), (5, .double (ov)), (0, .ref am), (1, .double p1), (3, .double p2)] → W p l e (headSpec wsX4_map ({ frames := 6, cells := 0, slots := 0, locals := 129 } : Room)).room s m ([.ref am, .double p1, .double p2] : List Value).toArray below meth c H locs 0 0 (MQ below (va_Qd (fun (r : UInt64) (_ : Unit) => r = (fX4_map mm mhr med md mi mr p1 p2)) (kE D (kT cyD cyI cyJ cyZ) (wM cyD cyI cyJ cyZ am bv bt bl be bdp bi bg bsd bsv bbd bbv br bu bw mn mm mch msp msb mno msn mbn mhr mro mv mt ml med md mi mg msd msv mbd mbv mr mu mw) A) A) ([.ref am, .double p1, .double p2] : List Value).toArray s 0 0 A) (F0 m 42 ls []) := by
      intro k_42
      induction k_42 with
      | zero => intro j so ov un H locs hj hj2 hov hun hnn hso hF hP hD hS ls hl; exact absurd hj2 (by omega)
      | succ k_42 ih_42 =>
        intro j so ov un H locs hj hj2 hov hun hnn hso hF hP hD hS ls hl
        refine lv_iload hx hb dX4_map_42 (lv_at hl 0 rfl) ?_
        refine lv_bipush (v := 32) hx hb dX4_map_44 (by decide) ?_
        refine lv_icmp_ge (tgt := 109) hx hb dX4_map_46 (by decide) (fun c_46 => ?_) (fun c_46 => ?_)
        · refine lv_iload hx hb dX4_map_109 (lv_at hl 1 rfl) ?_
          refine lv_if_eq (tgt := 122) hx hb dX4_map_111 (by decide) (fun c_111 => ?_) (fun c_111 => ?_)
          · refine lv_ldc2d (v := 13830554455654793216) hx hb hown (hts (.constantDouble RX4 158 (13830554455654793216)) (List.mem_of_getElem? (i := 3) rfl)) dX4_map_122 ?_
            have hF9 : (fX4_map mm mhr med md mi mr p1 p2) = (13830554455654793216 : UInt64) := by rw [hF, fX4_map_L42, if_pos c_46, if_pos c_111]
            have hP9 : va_P D vwCl (wM cyD cyI cyJ cyZ am bv bt bl be bdp bi bg bsd bsv bbd bbv br bu bw mn mm mch msp msb mno msn mbn mhr mro mv mt ml med md mi mg msd msv mbd mbv mr mu mw) H := hP
            have hD9 : va_D A (wM cyD cyI cyJ cyZ am bv bt bl be bdp bi bg bsd bsv bbd bbv br bu bw mn mm mch msp msb mno msn mbn mhr mro mv mt ml med md mi mg msd msv mbd mbv mr mu mw) := hD
            exact W.dret (v := (13830554455654793216 : UInt64)) hx hb hr (fun t ht hW => ⟨⟨(13830554455654793216 : UInt64), (), rfl, (by rw [hF9]), by rw [ht]; exact hP9, va_K.moved hW.alike hK, hD9⟩, hS.F ht⟩) hS.2.2 dX4_map_125
          refine lv_dload hx hb dX4_map_114 (lv_at hl 3 rfl) ?_
          refine lv_dload hx hb dX4_map_116 (lv_at hl 2 rfl) ?_
          refine lv_ddiv hx hb dX4_map_118 (div_ok (bd_up hov (K := 1200) (by omega)) (by decide) (bd_up hun (K := 1200) (by omega)) (by decide) (hso.resolve_left c_111)) ?_
          refine lv_goto (tgt := 125) hx hb dX4_map_119 (by decide) ?_
          have hF9 : (fX4_map mm mhr med md mi mr p1 p2) = (FP.ddiv ov un) := by rw [hF, fX4_map_L42, if_pos c_46, if_neg c_111]
          have hP9 : va_P D vwCl (wM cyD cyI cyJ cyZ am bv bt bl be bdp bi bg bsd bsv bbd bbv br bu bw mn mm mch msp msb mno msn mbn mhr mro mv mt ml med md mi mg msd msv mbd mbv mr mu mw) H := hP
          have hD9 : va_D A (wM cyD cyI cyJ cyZ am bv bt bl be bdp bi bg bsd bsv bbd bbv br bu bw mn mm mch msp msb mno msn mbn mhr mro mv mt ml med md mi mg msd msv mbd mbv mr mu mw) := hD
          exact W.dret (v := (FP.ddiv ov un)) hx hb hr (fun t ht hW => ⟨⟨(FP.ddiv ov un), (), rfl, (by rw [hF9]), by rw [ht]; exact hP9, va_K.moved hW.alike hK, hD9⟩, hS.F ht⟩) hS.2.2 dX4_map_125
        refine lv_aload_n hx hb dX4_map_49 rfl (lv_at hl 4 rfl) ?_
        refine lv_iload hx hb dX4_map_50 (lv_at hl 0 rfl) ?_
        have hPc : va_P D vwCl (wM cyD cyI cyJ cyZ am bv bt bl be bdp bi bg bsd bsv bbd bbv br bu bw mn mm mch msp msb mno msn mbn mhr mro mv mt ml med md mi mg msd msv mbd mbv mr mu mw) H := hP.sub [0, 1, 2, 3, 4, 5, 6, 7, 8, 9, 10, 11, 12, 13, 14] rfl
        have hDc : va_D A (wM cyD cyI cyJ cyZ am bv bt bl be bdp bi bg bsd bsv bbd bbv br bu bw mn mm mch msp msb mno msn mbn mhr mro mv mt ml med md mi mg msd msv mbd mbv mr mu mw) := hD.sub [0, 1, 2, 3, 4, 5, 6, 7, 8, 9, 10, 11, 12, 13, 14] (by decide) rfl
        refine kzE (ws' := (wM cyD cyI cyJ cyZ am bv bt bl be bdp bi bg bsd bsv bbd bbv br bu bw mn mm mch msp msb mno msn mbn mhr mro mv mt ml med md mi mg msd msv mbd mbv mr mu mw)) (wc := (wM cyD cyI cyJ cyZ am bv bt bl be bdp bi bg bsd bsv bbd bbv br bu bw mn mm mch msp msb mno msn mbn mhr mro mv mt ml med md mi mg msd msv mbd mbv mr mu mw)) (wr := []) (w1 := (wM cyD cyI cyJ cyZ am bv bt bl be bdp bi bg bsd bsv bbd bbv br bu bw mn mm mch msp msb mno msn mbn mhr mro mv mt ml med md mi mg msd msv mbd mbv mr mu mw)) (va_runV (As := [.int ((nI j))]) (rest := []) ⟨hx, hb, hml, hown, hts⟩ (c_X4_hasBottom (l := l) (D := D) (cyD := cyD) (cyI := cyI) (cyJ := cyJ) (cyZ := cyZ) am bv bt bl be bdp bi bg bsd bsv bbd bbv br bu bw mn mm mch msp msb mno msn mbn mhr mro mv mt ml med md mi mg msd msv mbd mbv mr mu mw H.size ((nI j))) (cwV 1 hts gX4_map_X4_hasBottom rfl rfl rfl (by decide +kernel) ⟨Nat.le_of_ble_eq_true rfl, Nat.le_of_ble_eq_true rfl⟩) (kV (ci := 4) (q0 := 0) (q := (RX4, TX4, 24)) hN hK hPc hDc rfl rfl rfl) rfl rfl hl.1 rfl (lv_room (Nat.le_of_ble_eq_true rfl)) dX4_map_52 ⟨Nat.le_of_ble_eq_true rfl, Nat.le_of_ble_eq_true rfl⟩) hP hD hS hA [0, 1, 2, 3, 4, 5, 6, 7, 8, 9, 10, 11, 12, 13, 14] [] [0, 1, 2, 3, 4, 5, 6, 7, 8, 9, 10, 11, 12, 13, 14] rfl rfl (by decide) (by decide) rfl (by decide) (fun H locs hz_52 hP hD hS => ?_)
        refine lv_if_eq (tgt := 103) hx hb dX4_map_55 (by decide) (fun c_55 => ?_) (fun c_55 => ?_)
        · refine lv_iinc (v := (((nI j)) + 1)) (lv' := [(10, .int (((nI j)) + 1)), (9, .int (so)), (7, .double (un)), (5, .double (ov)), (0, .ref am), (1, .double p1), (3, .double p2)]) hx hb dX4_map_103 hl (k := 0) rfl rfl (by decide) rfl (fun ls hl => ?_)
          refine lv_goto (tgt := 42) hx hb dX4_map_106 (by decide) ?_
          exact ih_42 (j + 1) (so) (ov) (un) _ _ (by omega) (by have := Nat.lt_of_not_le (fun z => c_46 (nI_le (a := 32) z (by omega))); omega) (bd_up hov (by omega)) (bd_up hun (by omega)) hnn hso (by rw [← nI_1 j]; rw [hF, fX4_map_L42, if_neg c_46, if_pos c_55]) hP hD hS _ (by rw [← nI_1 j]; exact lv_sub hl [0, 1, 2, 3, 4, 5, 6] rfl)
        refine lv_dconst1 hx hb dX4_map_58 ?_
        refine lv_dconst1 hx hb dX4_map_59 ?_
        refine lv_dload_n hx hb dX4_map_60 rfl (lv_at hl 5 rfl) ?_
        refine lv_iload hx hb dX4_map_61 (lv_at hl 0 rfl) ?_
        refine lv_i2d hx hb dX4_map_63 ?_
        refine lv_dsub hx hb dX4_map_64 (bd_n (bd_sub (Ka := 1055) (Kb := 1056) (K := 1058) hx1 (bd_i2d _) (by decide) (by decide) (by decide) (by decide)) (by decide)) ?_
        refine lv_dload_n hx hb dX4_map_65 rfl (lv_at hl 5 rfl) ?_
        refine lv_iload hx hb dX4_map_66 (lv_at hl 0 rfl) ?_
        refine lv_i2d hx hb dX4_map_68 ?_
        refine lv_dsub hx hb dX4_map_69 (bd_n (bd_sub (Ka := 1055) (Kb := 1056) (K := 1058) hx1 (bd_i2d _) (by decide) (by decide) (by decide) (by decide)) (by decide)) ?_
        refine lv_dmul hx hb dX4_map_70 (bd_n (bd_mul (Ka := 1058) (Kb := 1058) (K := 1094) (bd_sub (Ka := 1055) (Kb := 1056) (K := 1058) hx1 (bd_i2d _) (by decide) (by decide) (by decide) (by decide)) (bd_sub (Ka := 1055) (Kb := 1056) (K := 1058) hx1 (bd_i2d _) (by decide) (by decide) (by decide) (by decide)) (by decide) (by decide) (by decide)) (by decide)) ?_
        refine lv_dadd hx hb dX4_map_71 (bd_n (bd_add (Ka := 1024) (Kb := 1094) (K := 1096) (by decide) (bd_mul (Ka := 1058) (Kb := 1058) (K := 1094) (bd_sub (Ka := 1055) (Kb := 1056) (K := 1058) hx1 (bd_i2d _) (by decide) (by decide) (by decide) (by decide)) (bd_sub (Ka := 1055) (Kb := 1056) (K := 1058) hx1 (bd_i2d _) (by decide) (by decide) (by decide) (by decide)) (by decide) (by decide) (by decide)) (by decide) (by decide) (by decide) (by decide)) (by decide)) ?_
        refine lv_dload_n hx hb dX4_map_72 rfl (lv_at hl 6 rfl) ?_
        refine lv_dload_n hx hb dX4_map_73 rfl (lv_at hl 6 rfl) ?_
        refine lv_dmul hx hb dX4_map_74 (bd_n (bd_mul (Ka := 1055) (Kb := 1055) (K := 1088) hy1 hy1 (by decide) (by decide) (by decide)) (by decide)) ?_
        refine lv_dadd hx hb dX4_map_75 (bd_n (bd_add (Ka := 1096) (Kb := 1088) (K := 1098) (bd_add (Ka := 1024) (Kb := 1094) (K := 1096) (by decide) (bd_mul (Ka := 1058) (Kb := 1058) (K := 1094) (bd_sub (Ka := 1055) (Kb := 1056) (K := 1058) hx1 (bd_i2d _) (by decide) (by decide) (by decide) (by decide)) (bd_sub (Ka := 1055) (Kb := 1056) (K := 1058) hx1 (bd_i2d _) (by decide) (by decide) (by decide) (by decide)) (by decide) (by decide) (by decide)) (by decide) (by decide) (by decide) (by decide)) (bd_mul (Ka := 1055) (Kb := 1055) (K := 1088) hy1 hy1 (by decide) (by decide) (by decide)) (by decide) (by decide) (by decide) (by decide)) (by decide)) ?_
        refine lv_ddiv hx hb dX4_map_76 (bd_n (bd_div (K := 1024) (L := 1023) (K2 := 1025) (by decide) (hden j (by have := Nat.lt_of_not_le (fun z => c_46 (nI_le (a := 32) z (by omega))); omega)).1 (by decide) (by decide) (by decide)) (by decide)) ?_
        refine lv_dstore (lv' := [(11, .double (FP.ddiv FP.dconst1 (FP.dadd (FP.dadd FP.dconst1 (FP.dmul (FP.dsub p1 (FP.i2d (nI j))) (FP.dsub p1 (FP.i2d (nI j))))) (FP.dmul p2 p2)))), (10, .int ((nI j))), (9, .int (so)), (7, .double (un)), (5, .double (ov)), (0, .ref am), (1, .double p1), (3, .double p2)]) hx hb dX4_map_77 hl (by decide) rfl (fun ls hl => ?_)
        refine lv_dload hx hb dX4_map_79 (lv_at hl 4 rfl) ?_
        refine lv_dload hx hb dX4_map_81 (lv_at hl 0 rfl) ?_
        refine lv_aload_n hx hb dX4_map_83 rfl (lv_at hl 5 rfl) ?_
        refine lv_iload hx hb dX4_map_84 (lv_at hl 1 rfl) ?_
        have hPc : va_P D vwCl (wM cyD cyI cyJ cyZ am bv bt bl be bdp bi bg bsd bsv bbd bbv br bu bw mn mm mch msp msb mno msn mbn mhr mro mv mt ml med md mi mg msd msv mbd mbv mr mu mw) H := hP.sub [0, 1, 2, 3, 4, 5, 6, 7, 8, 9, 10, 11, 12, 13, 14] rfl
        have hDc : va_D A (wM cyD cyI cyJ cyZ am bv bt bl be bdp bi bg bsd bsv bbd bbv br bu bw mn mm mch msp msb mno msn mbn mhr mro mv mt ml med md mi mg msd msv mbd mbv mr mu mw) := hD.sub [0, 1, 2, 3, 4, 5, 6, 7, 8, 9, 10, 11, 12, 13, 14] (by decide) rfl
        refine kdE (ws' := (wM cyD cyI cyJ cyZ am bv bt bl be bdp bi bg bsd bsv bbd bbv br bu bw mn mm mch msp msb mno msn mbn mhr mro mv mt ml med md mi mg msd msv mbd mbv mr mu mw)) (wc := (wM cyD cyI cyJ cyZ am bv bt bl be bdp bi bg bsd bsv bbd bbv br bu bw mn mm mch msp msb mno msn mbn mhr mro mv mt ml med md mi mg msd msv mbd mbv mr mu mw)) (wr := []) (w1 := (wM cyD cyI cyJ cyZ am bv bt bl be bdp bi bg bsd bsv bbd bbv br bu bw mn mm mch msp msb mno msn mbn mhr mro mv mt ml med md mi mg msd msv mbd mbv mr mu mw)) (va_runV (As := [.int ((nI j))]) (rest := [.double (FP.ddiv FP.dconst1 (FP.dadd (FP.dadd FP.dconst1 (FP.dmul (FP.dsub p1 (FP.i2d (nI j))) (FP.dsub p1 (FP.i2d (nI j))))) (FP.dmul p2 p2))), .double (ov)]) ⟨hx, hb, hml, hown, hts⟩ (c_X4_bottom (l := l) (D := D) (cyD := cyD) (cyI := cyI) (cyJ := cyJ) (cyZ := cyZ) am bv bt bl be bdp bi bg bsd bsv bbd bbv br bu bw mn mm mch msp msb mno msn mbn mhr mro mv mt ml med md mi mg msd msv mbd mbv mr mu mw H.size ((nI j)) hM hmd hmi) (cwV 1 hts gX4_map_X4_bottom rfl rfl rfl (by decide +kernel) ⟨Nat.le_of_ble_eq_true rfl, Nat.le_of_ble_eq_true rfl⟩) (kV (ci := 4) (q0 := 0) (q := (RX4, TX4, 24)) hN hK hPc hDc rfl rfl rfl) rfl rfl hl.1 rfl (lv_room (Nat.le_of_ble_eq_true rfl)) dX4_map_86 ⟨Nat.le_of_ble_eq_true rfl, Nat.le_of_ble_eq_true rfl⟩) hP hD hS hA [0, 1, 2, 3, 4, 5, 6, 7, 8, 9, 10, 11, 12, 13, 14] [] [0, 1, 2, 3, 4, 5, 6, 7, 8, 9, 10, 11, 12, 13, 14] rfl rfl (by decide) (by decide) rfl (by decide) (fun H locs hP hD hS => ?_)
        refine lv_dmul hx hb dX4_map_89 (bd_n (bd_mul (Ka := 1025) (Kb := 1105) (K := 1108) (bd_div (K := 1024) (L := 1023) (K2 := 1025) (by decide) (hden j (by have := Nat.lt_of_not_le (fun z => c_46 (nI_le (a := 32) z (by omega))); omega)).1 (by decide) (by decide) (by decide)) (botM_bd (mn := mn) hM.2.2.1 hmd hmi _) (by decide) (by decide) (by decide)) (by decide)) ?_
        refine lv_dadd hx hb dX4_map_90 (bd_n (bd_add (Ka := 1110 + 2 * j) (Kb := 1108) (K := 1110 + 2 * (j + 1)) hov (bd_mul (Ka := 1025) (Kb := 1105) (K := 1108) (bd_div (K := 1024) (L := 1023) (K2 := 1025) (by decide) (hden j (by have := Nat.lt_of_not_le (fun z => c_46 (nI_le (a := 32) z (by omega))); omega)).1 (by decide) (by decide) (by decide)) (botM_bd (mn := mn) hM.2.2.1 hmd hmi _) (by decide) (by decide) (by decide)) (by omega) (by decide) (by omega) (by omega)) (by omega)) ?_
        refine lv_dstore (lv' := [(5, .double (FP.dadd ov (FP.dmul (FP.ddiv FP.dconst1 (FP.dadd (FP.dadd FP.dconst1 (FP.dmul (FP.dsub p1 (FP.i2d (nI j))) (FP.dsub p1 (FP.i2d (nI j))))) (FP.dmul p2 p2))) (fX4_bottom mm mhr med md mi mr ((nI j)))))), (11, .double (FP.ddiv FP.dconst1 (FP.dadd (FP.dadd FP.dconst1 (FP.dmul (FP.dsub p1 (FP.i2d (nI j))) (FP.dsub p1 (FP.i2d (nI j))))) (FP.dmul p2 p2)))), (10, .int ((nI j))), (9, .int (so)), (7, .double (un)), (0, .ref am), (1, .double p1), (3, .double p2)]) hx hb dX4_map_91 hl (by decide) rfl (fun ls hl => ?_)
        refine lv_dload hx hb dX4_map_93 (lv_at hl 4 rfl) ?_
        refine lv_dload hx hb dX4_map_95 (lv_at hl 1 rfl) ?_
        refine lv_dadd hx hb dX4_map_97 (bd_n (bd_add (Ka := 1030 + 2 * j) (Kb := 1025) (K := 1030 + 2 * (j + 1)) hun (bd_div (K := 1024) (L := 1023) (K2 := 1025) (by decide) (hden j (by have := Nat.lt_of_not_le (fun z => c_46 (nI_le (a := 32) z (by omega))); omega)).1 (by decide) (by decide) (by decide)) (by omega) (by decide) (by omega) (by omega)) (by omega)) ?_
        refine lv_dstore (lv' := [(7, .double (FP.dadd un (FP.ddiv FP.dconst1 (FP.dadd (FP.dadd FP.dconst1 (FP.dmul (FP.dsub p1 (FP.i2d (nI j))) (FP.dsub p1 (FP.i2d (nI j))))) (FP.dmul p2 p2))))), (5, .double (FP.dadd ov (FP.dmul (FP.ddiv FP.dconst1 (FP.dadd (FP.dadd FP.dconst1 (FP.dmul (FP.dsub p1 (FP.i2d (nI j))) (FP.dsub p1 (FP.i2d (nI j))))) (FP.dmul p2 p2))) (fX4_bottom mm mhr med md mi mr ((nI j)))))), (11, .double (FP.ddiv FP.dconst1 (FP.dadd (FP.dadd FP.dconst1 (FP.dmul (FP.dsub p1 (FP.i2d (nI j))) (FP.dsub p1 (FP.i2d (nI j))))) (FP.dmul p2 p2)))), (10, .int ((nI j))), (9, .int (so)), (0, .ref am), (1, .double p1), (3, .double p2)]) hx hb dX4_map_98 hl (by decide) rfl (fun ls hl => ?_)
        refine lv_iconst (v := 1) hx hb dX4_map_100 (by decide) ?_
        refine lv_istore (lv' := [(9, .int (1 : Int32)), (7, .double (FP.dadd un (FP.ddiv FP.dconst1 (FP.dadd (FP.dadd FP.dconst1 (FP.dmul (FP.dsub p1 (FP.i2d (nI j))) (FP.dsub p1 (FP.i2d (nI j))))) (FP.dmul p2 p2))))), (5, .double (FP.dadd ov (FP.dmul (FP.ddiv FP.dconst1 (FP.dadd (FP.dadd FP.dconst1 (FP.dmul (FP.dsub p1 (FP.i2d (nI j))) (FP.dsub p1 (FP.i2d (nI j))))) (FP.dmul p2 p2))) (fX4_bottom mm mhr med md mi mr ((nI j)))))), (11, .double (FP.ddiv FP.dconst1 (FP.dadd (FP.dadd FP.dconst1 (FP.dmul (FP.dsub p1 (FP.i2d (nI j))) (FP.dsub p1 (FP.i2d (nI j))))) (FP.dmul p2 p2)))), (10, .int ((nI j))), (0, .ref am), (1, .double p1), (3, .double p2)]) hx hb dX4_map_101 hl (by decide) rfl (fun ls hl => ?_)
        refine lv_iinc (v := (((nI j)) + 1)) (lv' := [(10, .int (((nI j)) + 1)), (9, .int (1 : Int32)), (7, .double (FP.dadd un (FP.ddiv FP.dconst1 (FP.dadd (FP.dadd FP.dconst1 (FP.dmul (FP.dsub p1 (FP.i2d (nI j))) (FP.dsub p1 (FP.i2d (nI j))))) (FP.dmul p2 p2))))), (5, .double (FP.dadd ov (FP.dmul (FP.ddiv FP.dconst1 (FP.dadd (FP.dadd FP.dconst1 (FP.dmul (FP.dsub p1 (FP.i2d (nI j))) (FP.dsub p1 (FP.i2d (nI j))))) (FP.dmul p2 p2))) (fX4_bottom mm mhr med md mi mr ((nI j)))))), (11, .double (FP.ddiv FP.dconst1 (FP.dadd (FP.dadd FP.dconst1 (FP.dmul (FP.dsub p1 (FP.i2d (nI j))) (FP.dsub p1 (FP.i2d (nI j))))) (FP.dmul p2 p2)))), (0, .ref am), (1, .double p1), (3, .double p2)]) hx hb dX4_map_103 hl (k := 4) rfl rfl (by decide) rfl (fun ls hl => ?_)
        refine lv_goto (tgt := 42) hx hb dX4_map_106 (by decide) ?_
        exact ih_42 (j + 1) (1 : Int32) (FP.dadd ov (FP.dmul (FP.ddiv FP.dconst1 (FP.dadd (FP.dadd FP.dconst1 (FP.dmul (FP.dsub p1 (FP.i2d (nI j))) (FP.dsub p1 (FP.i2d (nI j))))) (FP.dmul p2 p2))) (fX4_bottom mm mhr med md mi mr ((nI j))))) (FP.dadd un (FP.ddiv FP.dconst1 (FP.dadd (FP.dadd FP.dconst1 (FP.dmul (FP.dsub p1 (FP.i2d (nI j))) (FP.dsub p1 (FP.i2d (nI j))))) (FP.dmul p2 p2)))) _ _ (by omega) (by have := Nat.lt_of_not_le (fun z => c_46 (nI_le (a := 32) z (by omega))); omega) (bd_add (Ka := 1110 + 2 * j) (Kb := 1108) (K := 1110 + 2 * (j + 1)) hov (bd_mul (Ka := 1025) (Kb := 1105) (K := 1108) (bd_div (K := 1024) (L := 1023) (K2 := 1025) (by decide) (hden j (by have := Nat.lt_of_not_le (fun z => c_46 (nI_le (a := 32) z (by omega))); omega)).1 (by decide) (by decide) (by decide)) (botM_bd (mn := mn) hM.2.2.1 hmd hmi _) (by decide) (by decide) (by decide)) (by omega) (by decide) (by omega) (by omega)) (bd_add (Ka := 1030 + 2 * j) (Kb := 1025) (K := 1030 + 2 * (j + 1)) hun (bd_div (K := 1024) (L := 1023) (K2 := 1025) (by decide) (hden j (by have := Nat.lt_of_not_le (fun z => c_46 (nI_le (a := 32) z (by omega))); omega)).1 (by decide) (by decide) (by decide)) (by omega) (by decide) (by omega) (by omega)) (nn_add (bd_up hun (K := 2047) (by omega)) (bd_up (bd_div (K := 1024) (L := 1023) (K2 := 1025) (by decide) (hden j (by have := Nat.lt_of_not_le (fun z => c_46 (nI_le (a := 32) z (by omega))); omega)).1 (by decide) (by decide) (by decide)) (by decide)) (bd_up (bd_add (Ka := 1030 + 2 * j) (Kb := 1025) (K := 1030 + 2 * (j + 1)) hun (bd_div (K := 1024) (L := 1023) (K2 := 1025) (by decide) (hden j (by have := Nat.lt_of_not_le (fun z => c_46 (nI_le (a := 32) z (by omega))); omega)).1 (by decide) (by decide) (by decide)) (by omega) (by decide) (by omega) (by omega)) (by omega)) hnn (nn_div (by decide) (hden j (by have := Nat.lt_of_not_le (fun z => c_46 (nI_le (a := 32) z (by omega))); omega)).1.2 (bd_up (bd_div (K := 1024) (L := 1023) (K2 := 1025) (by decide) (hden j (by have := Nat.lt_of_not_le (fun z => c_46 (nI_le (a := 32) z (by omega))); omega)).1 (by decide) (by decide) (by decide)) (by decide)) (by decide) (hden j (by have := Nat.lt_of_not_le (fun z => c_46 (nI_le (a := 32) z (by omega))); omega)).2 (by have := (hden j (by have := Nat.lt_of_not_le (fun z => c_46 (nI_le (a := 32) z (by omega))); omega)).1.1; omega))) (Or.inr (add_nz (bd_up hun (K := 2047) (by omega)) (bd_up (bd_div (K := 1024) (L := 1023) (K2 := 1025) (by decide) (hden j (by have := Nat.lt_of_not_le (fun z => c_46 (nI_le (a := 32) z (by omega))); omega)).1 (by decide) (by decide) (by decide)) (by decide)) hnn (nn_div (by decide) (hden j (by have := Nat.lt_of_not_le (fun z => c_46 (nI_le (a := 32) z (by omega))); omega)).1.2 (bd_up (bd_div (K := 1024) (L := 1023) (K2 := 1025) (by decide) (hden j (by have := Nat.lt_of_not_le (fun z => c_46 (nI_le (a := 32) z (by omega))); omega)).1 (by decide) (by decide) (by decide)) (by decide)) (by decide) (hden j (by have := Nat.lt_of_not_le (fun z => c_46 (nI_le (a := 32) z (by omega))); omega)).2 (by have := (hden j (by have := Nat.lt_of_not_le (fun z => c_46 (nI_le (a := 32) z (by omega))); omega)).1.1; omega)) (by have h9 := div_ge (La := 1023) (Kb := 1098) (L := 948) (a := FP.dconst1) (by decide) (show bd 1098 (FP.dadd (FP.dadd FP.dconst1 (FP.dmul (FP.dsub p1 (FP.i2d (nI j))) (FP.dsub p1 (FP.i2d (nI j))))) (FP.dmul p2 p2)) from (bd_add (Ka := 1096) (Kb := 1088) (K := 1098) (bd_add (Ka := 1024) (Kb := 1094) (K := 1096) (by decide) (bd_mul (Ka := 1058) (Kb := 1058) (K := 1094) (bd_sub (Ka := 1055) (Kb := 1056) (K := 1058) hx1 (bd_i2d _) (by decide) (by decide) (by decide) (by decide)) (bd_sub (Ka := 1055) (Kb := 1056) (K := 1058) hx1 (bd_i2d _) (by decide) (by decide) (by decide) (by decide)) (by decide) (by decide) (by decide)) (by decide) (by decide) (by decide) (by decide)) (bd_mul (Ka := 1055) (Kb := 1055) (K := 1088) hy1 hy1 (by decide) (by decide) (by decide)) (by decide) (by decide) (by decide) (by decide))) (by decide) (by have := (hden j (by have := Nat.lt_of_not_le (fun z => c_46 (nI_le (a := 32) z (by omega))); omega)).1.1; omega) (by decide) (by decide) (by decide) (by decide); omega))) (by rw [← nI_1 j]; rw [hF, fX4_map_L42, if_neg c_46, if_neg c_55]) hP hD hS _ (by rw [← nI_1 j]; exact lv_sub hl [0, 1, 2, 3, 5, 6, 7] rfl)
    exact loop_42 33 0 (0 : Int32) FP.dconst0 FP.dconst0 _ _ rfl (Nat.zero_le _) (by decide) (by decide) (by decide) (Or.inl rfl) (by rw [nI_0]; rw [fX4_map, if_neg c_10, if_neg c_23]) hP hD hS _ (by exact lv_sub hl [0, 1, 2, 3, 4, 5, 6] rfl)
  refine lv_ldc2d (v := 13830554455654793216) hx hb hown (hts (.constantDouble RX4 158 (13830554455654793216)) (List.mem_of_getElem? (i := 3) rfl)) dX4_map_26 ?_
  have hF9 : (fX4_map mm mhr med md mi mr p1 p2) = (13830554455654793216 : UInt64) := by rw [fX4_map, if_neg c_10, if_pos c_23]
  have hP9 : va_P D vwCl (wM cyD cyI cyJ cyZ am bv bt bl be bdp bi bg bsd bsv bbd bbv br bu bw mn mm mch msp msb mno msn mbn mhr mro mv mt ml med md mi mg msd msv mbd mbv mr mu mw) H := hP
  have hD9 : va_D A (wM cyD cyI cyJ cyZ am bv bt bl be bdp bi bg bsd bsv bbd bbv br bu bw mn mm mch msp msb mno msn mbn mhr mro mv mt ml med md mi mg msd msv mbd mbv mr mu mw) := hD
  exact W.dret (v := (13830554455654793216 : UInt64)) hx hb hr (fun t ht hW => ⟨⟨(13830554455654793216 : UInt64), (), rfl, (by rw [hF9]), by rw [ht]; exact hP9, va_K.moved hW.alike hK, hD9⟩, hS.F ht⟩) hS.2.2 dX4_map_29
theorem bbM_in {p1 : Int32} {I j : Nat} (hi : p1 = nI I) (hI : I < 32) (h0 : ¬ p1 = 0) (hj : j < 64) : vp_in (((64 : Int32) * (p1 - (1 : Int32))) + nI j) 2048 := by
  have h1 : 1 ≤ I := by
    rcases Nat.eq_zero_or_pos I with z | z
    · exact absurd (by rw [hi, z]; rfl) h0
    · exact z
  rw [hi, nI_sub1 h1, show (64 : Int32) * nI (I - 1) = nI (64 * (I - 1)) from pk_mul 64 (I - 1), nI_add]
  exact vp_in_nI (by omega) (by decide)
theorem wk1_in {p1 : Int32} {I : Nat} (hi : p1 = nI I) (hI : I < 32) (h0 : ¬ p1 = 0) : vp_in (p1 - (1 : Int32)) 32 := by
  have h1 : 1 ≤ I := by
    rcases Nat.eq_zero_or_pos I with z | z
    · exact absurd (by rw [hi, z]; rfl) h0
    · exact z
  rw [hi, nI_sub1 h1]; exact vp_in_nI (by omega) (by decide)
theorem wkE {mw : Nat → Int32} {i : Int32} {I N : Nat} (hw : ∀ a, a < N → ∃ P : Nat, P < 32 ∧ mw a = nI P) (hi : i = nI I) (hI : I < N) (hN : N ≤ 32) : ∃ P : Nat, mw i.toNatClampNeg = nI P ∧ P < 32 := by
  rw [hi, nI_clamp (by omega)]
  obtain ⟨P, a, b⟩ := hw I hI
  exact ⟨P, b, a⟩
theorem wkE1 {mw : Nat → Int32} {i : Int32} {I N : Nat} (hw : ∀ a, a < N → ∃ P : Nat, P < 32 ∧ mw a = nI P) (hi : i = nI I) (hI : I < N) (hN : N ≤ 32) (h0 : ¬ i = 0) : ∃ P : Nat, mw (i - (1 : Int32)).toNatClampNeg = nI P ∧ P < 32 := by
  have h1 : 1 ≤ I := by
    rcases Nat.eq_zero_or_pos I with z | z
    · exact absurd (by rw [hi, z]; rfl) h0
    · exact z
  exact wkE (I := I - 1) hw (by rw [hi, nI_sub1 h1]) (by omega) hN
def fX4_bestBefore_L14 (mn : Nat) (med : Nat → Int32) (mu : Nat → Int64) (mw : Nat → Int32)  (p1 : Int32) (p2 : Int32) (p3 : Int32) : Nat → (Int32) → (Int64) → Int64
  | 0, v_j, v_bs => 0
  | k + 1, v_j, v_bs => if (nI mn) ≤ v_j then v_bs else (if (lg_cmp (mu (((64 : Int32) * (p1 - (1 : Int32))) + v_j).toNatClampNeg) v_bs) ≤ 0 then (fX4_bestBefore_L14 mn med mu mw p1 p2 p3 k ((v_j) + 1) (v_bs)) else (if (fX4_mayFollow med (mw (p1 - (1 : Int32)).toNatClampNeg) (v_j) (mw p1.toNatClampNeg) p2 p3) = 0 then (fX4_bestBefore_L14 mn med mu mw p1 p2 p3 k ((v_j) + 1) (v_bs)) else ((fX4_bestBefore_L14 mn med mu mw p1 p2 p3 k ((v_j) + 1) (mu (((64 : Int32) * (p1 - (1 : Int32))) + v_j).toNatClampNeg)))))
def fX4_bestBefore (mn : Nat) (med : Nat → Int32) (mu : Nat → Int64) (mw : Nat → Int32) (p1 : Int32) (p2 : Int32) (p3 : Int32) : Int64 := if p1 = 0 then (0 : Int64) else ((fX4_bestBefore_L14 mn med mu mw p1 p2 p3 65 (0 : Int32) (-1 : Int64)))
set_option maxHeartbeats 4000000 in
set_option maxRecDepth 100000 in
theorem c_X4_bestBefore {l : Launch} {D : va_G} {cyD cyI cyJ cyZ : ClassId} (am bv bt bl be bdp bi bg bsd bsv bbd bbv br bu bw : Nat) (mn : Nat) (mm : UInt64) (mch : Int32) (msp : UInt64) (msb : UInt64) (mno : UInt64) (msn : Int32) (mbn : Int32) (mhr : Int32) (mro : Int32) (mv : Nat → UInt64) (mt : Nat → Int32) (ml : Nat → Int32) (med : Nat → Int32) (md : Nat → UInt64) (mi : Nat → UInt64) (mg : Nat → UInt64) (msd : Nat → UInt64) (msv : Nat → UInt64) (mbd : Nat → UInt64) (mbv : Nat → UInt64) (mr : Nat → Int32) (mu : Nat → Int64) (mw : Nat → Int32) (sz : Nat) (p1 : Int32) (p2 : Int32) (p3 : Int32) (hmn : mn ≤ 64) (N : Nat) (I : Nat) (hi : p1 = nI I) (hIN : I < N) (hN32 : N ≤ 32) (hw : ∀ a, a < N → ∃ P : Nat, P < 32 ∧ mw a = nI P) : mL l yX4_bestBefore wsX4_bestBefore ({ frames := 1, cells := 0, slots := 0, locals := 26 } : Room) D (kT cyD cyI cyJ cyZ) [.ref am, .int p1, .int p2, .int p3] (wM cyD cyI cyJ cyZ am bv bt bl be bdp bi bg bsd bsv bbd bbv br bu bw mn mm mch msp msb mno msn mbn mhr mro mv mt ml med md mi mg msd msv mbd mbv mr mu mw) (wM cyD cyI cyJ cyZ am bv bt bl be bdp bi bg bsd bsv bbd bbv br bu bw mn mm mch msp msb mno msn mbn mhr mro mv mt ml med md mi mg msd msv mbd mbv mr mu mw) sz (fX4_bestBefore mn med mu mw p1 p2 p3) 0 0 := by
  refine Met.ofW (cc := cX4_bestBefore) (maxL := 9) (ret := (some .long)) (by decide) rfl ?_
  intro p e s m args below meth c s₁ B hml hv
  obtain ⟨rfl, hN, hsz, hP, hK, hD0⟩ := hv
  have hx := B.exec
  have hb := B.bytes
  have hr := B.returns
  have hts := atoms_spec (ws := wsX4_bestBefore) B.pre
  have hown : s.vm.findClass RX4 = some m.cls := findClass_of_methodNamed B.named
  have hlocks := B.notSynchronized
  subst hsz
  have hD := hD0.self (sz := s.heap.size)
  generalize hAe : va_A (wM cyD cyI cyJ cyZ am bv bt bl be bdp bi bg bsd bsv bbd bbv br bu bw mn mm mch msp msb mno msn mbn mhr mro mv mt ml med md mi mg msd msv mbd mbv mr mu mw) s.heap.size = A at hD ⊢
  have hA : ∀ q : Nat, s.heap.size ≤ q → A q := fun q h => by rw [← hAe]; exact Or.inr h
  have hS : va_S A s.heap s.heap [] := va_S.rf
  have hP : va_P D vwCl (wM cyD cyI cyJ cyZ am bv bt bl be bdp bi bg bsd bsv bbd bbv br bu bw mn mm mch msp msb mno msn mbn mhr mro mv mt ml med md mi mg msd msv mbd mbv mr mu mw) s.heap := hP
  have hl := lv_entry [.ref am, .int p1, .int p2, .int p3] (n := 9) (Nat.le_of_ble_eq_true rfl)
  rw [lg_entry_eq]
  generalize (lg_sl [.ref am, .int p1, .int p2, .int p3] ++ List.replicate (9 - (lg_sl [.ref am, .int p1, .int p2, .int p3]).length) Slot.unset).toArray = ls at hl ⊢
  have hl : lv_has ls 9 [(0, .ref am), (1, .int p1), (2, .int p2), (3, .int p3)] := hl
  obtain ⟨H, hHe⟩ : ∃ H : Heap, H = s.heap := ⟨_, rfl⟩
  have hP : va_P D vwCl (wM cyD cyI cyJ cyZ am bv bt bl be bdp bi bg bsd bsv bbd bbv br bu bw mn mm mch msp msb mno msn mbn mhr mro mv mt ml med md mi mg msd msv mbd mbv mr mu mw) H := by rw [hHe]; exact hP
  have hS : va_S A s.heap H [] := by rw [hHe]; exact hS
  rw [← hHe]
  refine lv_iload_n hx hb dX4_bestBefore_0 rfl (lv_at hl 1 rfl) ?_
  refine lv_if_ne (tgt := 6) hx hb dX4_bestBefore_1 (by decide) (fun c_1 => ?_) (fun c_1 => ?_)
  · refine lv_ldc2 (v := -1) hx hb hown (hts (.constantLong RX4 116 (-1)) (List.mem_of_getElem? (i := 1) rfl)) dX4_bestBefore_6 ?_
    refine lv_lstore (lv' := [(4, .long (-1 : Int64)), (0, .ref am), (1, .int p1), (2, .int p2), (3, .int p3)]) hx hb dX4_bestBefore_9 hl (by decide) rfl (fun ls hl => ?_)
    refine lv_iconst (v := 0) hx hb dX4_bestBefore_11 (by decide) ?_
    refine lv_istore (lv' := [(6, .int (0 : Int32)), (4, .long (-1 : Int64)), (0, .ref am), (1, .int p1), (2, .int p2), (3, .int p3)]) hx hb dX4_bestBefore_12 hl (by decide) rfl (fun ls hl => ?_)
    have loop_14 : ∀ (k : Nat) (j : Nat) (bs : Int64) (H : Heap) (locs : List Loc), (j + k = 65) → (j ≤ mn) → (fX4_bestBefore mn med mu mw p1 p2 p3) = fX4_bestBefore_L14 mn med mu mw p1 p2 p3 k ((nI j)) (bs) → va_P D vwCl (wM cyD cyI cyJ cyZ am bv bt bl be bdp bi bg bsd bsv bbd bbv br bu bw mn mm mch msp msb mno msn mbn mhr mro mv mt ml med md mi mg msd msv mbd mbv mr mu mw) H → va_D A (wM cyD cyI cyJ cyZ am bv bt bl be bdp bi bg bsd bsv bbd bbv br bu bw mn mm mch msp msb mno msn mbn mhr mro mv mt ml med md mi mg msd msv mbd mbv mr mu mw) → va_S A s.heap H locs → ∀ ls, lv_has ls 9 [(6, .int ((nI j))), (4, .long (bs)), (0, .ref am), (1, .int p1), (2, .int p2), (3, .int p3)] → W p l e (headSpec wsX4_bestBefore ({ frames := 1, cells := 0, slots := 0, locals := 26 } : Room)).room s m ([.ref am, .int p1, .int p2, .int p3] : List Value).toArray below meth c H locs 0 0 (MQ below (va_Ql (fun (r : Int64) (_ : Unit) => r = (fX4_bestBefore mn med mu mw p1 p2 p3)) (kE D (kT cyD cyI cyJ cyZ) (wM cyD cyI cyJ cyZ am bv bt bl be bdp bi bg bsd bsv bbd bbv br bu bw mn mm mch msp msb mno msn mbn mhr mro mv mt ml med md mi mg msd msv mbd mbv mr mu mw) A) A) ([.ref am, .int p1, .int p2, .int p3] : List Value).toArray s 0 0 A) (F0 m 14 ls []) := by
      intro k_14
      induction k_14 with
      | zero => intro j bs H locs hj hj2 hF hP hD hS ls hl; exact absurd hmn (by omega)
      | succ k_14 ih_14 =>
        intro j bs H locs hj hj2 hF hP hD hS ls hl
        refine lv_iload hx hb dX4_bestBefore_14 (lv_at hl 0 rfl) ?_
        refine lv_aload_n hx hb dX4_bestBefore_16 rfl (lv_at hl 2 rfl) ?_
        refine va_get (D := D) (ci := 4) (v := .int (nI mn)) (C := RX4) (T := TX4) (N := 24) hx hb hts (fun _ h => (List.mem_cons_of_mem _ (List.mem_append_right _ h))) hown hK hP 0 rfl rfl 0 (by decide) (hts (.fieldLink RX4 55 "BottomWalksModel" "samples" "I") (List.mem_of_getElem? (i := 2) rfl)) (fun _ h9 => h9) rfl dX4_bestBefore_17 ?_
        refine lv_icmp_ge (tgt := 82) hx hb dX4_bestBefore_20 (by decide) (fun c_20 => ?_) (fun c_20 => ?_)
        · refine lv_lload hx hb dX4_bestBefore_82 (lv_at hl 1 rfl) ?_
          have hF9 : (fX4_bestBefore mn med mu mw p1 p2 p3) = bs := by rw [hF, fX4_bestBefore_L14, if_pos c_20]
          have hP9 : va_P D vwCl (wM cyD cyI cyJ cyZ am bv bt bl be bdp bi bg bsd bsv bbd bbv br bu bw mn mm mch msp msb mno msn mbn mhr mro mv mt ml med md mi mg msd msv mbd mbv mr mu mw) H := hP
          have hD9 : va_D A (wM cyD cyI cyJ cyZ am bv bt bl be bdp bi bg bsd bsv bbd bbv br bu bw mn mm mch msp msb mno msn mbn mhr mro mv mt ml med md mi mg msd msv mbd mbv mr mu mw) := hD
          exact W.lret (v := bs) hx hb hr (fun t ht hW => ⟨⟨bs, (), rfl, (by rw [hF9]), by rw [ht]; exact hP9, va_K.moved hW.alike hK, hD9⟩, hS.F ht⟩) hS.2.2 dX4_bestBefore_84
        refine lv_aload_n hx hb dX4_bestBefore_23 rfl (lv_at hl 2 rfl) ?_
        refine va_get (D := D) (ci := 4) (v := .ref bu) (C := RX4) (T := TX4) (N := 24) hx hb hts (fun _ h => (List.mem_cons_of_mem _ (List.mem_append_right _ h))) hown hK hP 0 rfl rfl 22 (by decide) (hts (.fieldLink RX4 48 "BottomWalksModel" "sums" "[J") (List.mem_of_getElem? (i := 3) rfl)) (fun _ h9 => h9) rfl dX4_bestBefore_24 ?_
        refine lv_bipush (v := 64) hx hb dX4_bestBefore_27 (by decide) ?_
        refine lv_iload_n hx hb dX4_bestBefore_29 rfl (lv_at hl 3 rfl) ?_
        refine lv_iconst (v := 1) hx hb dX4_bestBefore_30 (by decide) ?_
        refine lv_isub hx hb dX4_bestBefore_31 ?_
        refine lv_imul hx hb dX4_bestBefore_32 ?_
        refine lv_iload hx hb dX4_bestBefore_33 (lv_at hl 0 rfl) ?_
        refine lv_iadd hx hb dX4_bestBefore_35 ?_
        refine va_lald hx hb hK hP 13 2 rfl rfl (bbM_in hi (by omega) c_1 (by have := Nat.lt_of_not_le (fun z => c_20 (nI_le (a := mn) z (by omega))); omega)) dX4_bestBefore_36 ?_
        refine lv_lstore (lv' := [(7, .long (mu (((64 : Int32) * (p1 - (1 : Int32))) + (nI j)).toNatClampNeg)), (6, .int ((nI j))), (4, .long (bs)), (0, .ref am), (1, .int p1), (2, .int p2), (3, .int p3)]) hx hb dX4_bestBefore_37 hl (by decide) rfl (fun ls hl => ?_)
        refine lv_lload hx hb dX4_bestBefore_39 (lv_at hl 0 rfl) ?_
        refine lv_lload hx hb dX4_bestBefore_41 (lv_at hl 2 rfl) ?_
        refine W.lcmp hx hb dX4_bestBefore_43 ?_
        refine lv_if_le (tgt := 76) hx hb dX4_bestBefore_44 (by decide) (fun c_44 => ?_) (fun c_44 => ?_)
        · refine lv_iinc (v := (((nI j)) + 1)) (lv' := [(6, .int (((nI j)) + 1)), (7, .long (mu (((64 : Int32) * (p1 - (1 : Int32))) + (nI j)).toNatClampNeg)), (4, .long (bs)), (0, .ref am), (1, .int p1), (2, .int p2), (3, .int p3)]) hx hb dX4_bestBefore_76 hl (k := 1) rfl rfl (by decide) rfl (fun ls hl => ?_)
          refine lv_goto (tgt := 14) hx hb dX4_bestBefore_79 (by decide) ?_
          exact ih_14 (j + 1) (bs) _ _ (by omega) (by have := Nat.lt_of_not_le (fun z => c_20 (nI_le (a := mn) z (by omega))); omega) (by rw [← nI_1 j]; rw [hF, fX4_bestBefore_L14, if_neg c_20, if_pos c_44]) hP hD hS _ (by rw [← nI_1 j]; exact lv_sub hl [0, 2, 3, 4, 5, 6] rfl)
        refine lv_aload_n hx hb dX4_bestBefore_47 rfl (lv_at hl 3 rfl) ?_
        refine lv_aload_n hx hb dX4_bestBefore_48 rfl (lv_at hl 3 rfl) ?_
        refine va_get (D := D) (ci := 4) (v := .ref bw) (C := RX4) (T := TX4) (N := 24) hx hb hts (fun _ h => (List.mem_cons_of_mem _ (List.mem_append_right _ h))) hown hK hP 0 rfl rfl 23 (by decide) (hts (.fieldLink RX4 52 "BottomWalksModel" "walk" "[I") (List.mem_of_getElem? (i := 4) rfl)) (fun _ h9 => h9) rfl dX4_bestBefore_49 ?_
        refine lv_iload_n hx hb dX4_bestBefore_52 rfl (lv_at hl 4 rfl) ?_
        refine lv_iconst (v := 1) hx hb dX4_bestBefore_53 (by decide) ?_
        refine lv_isub hx hb dX4_bestBefore_54 ?_
        refine va_iald hx hb hK hP 14 1 rfl rfl (wk1_in hi (by omega) c_1) dX4_bestBefore_55 ?_
        refine lv_iload hx hb dX4_bestBefore_56 (lv_at hl 1 rfl) ?_
        refine lv_aload_n hx hb dX4_bestBefore_58 rfl (lv_at hl 3 rfl) ?_
        refine va_get (D := D) (ci := 4) (v := .ref bw) (C := RX4) (T := TX4) (N := 24) hx hb hts (fun _ h => (List.mem_cons_of_mem _ (List.mem_append_right _ h))) hown hK hP 0 rfl rfl 23 (by decide) (hts (.fieldLink RX4 52 "BottomWalksModel" "walk" "[I") (List.mem_of_getElem? (i := 4) rfl)) (fun _ h9 => h9) rfl dX4_bestBefore_59 ?_
        refine lv_iload_n hx hb dX4_bestBefore_62 rfl (lv_at hl 4 rfl) ?_
        refine va_iald hx hb hK hP 14 1 rfl rfl (nI_in' hi (by omega) (by decide)) dX4_bestBefore_63 ?_
        refine lv_iload_n hx hb dX4_bestBefore_64 rfl (lv_at hl 5 rfl) ?_
        refine lv_iload_n hx hb dX4_bestBefore_65 rfl (lv_at hl 6 rfl) ?_
        have hPc : va_P D vwCl (wM cyD cyI cyJ cyZ am bv bt bl be bdp bi bg bsd bsv bbd bbv br bu bw mn mm mch msp msb mno msn mbn mhr mro mv mt ml med md mi mg msd msv mbd mbv mr mu mw) H := hP.sub [0, 1, 2, 3, 4, 5, 6, 7, 8, 9, 10, 11, 12, 13, 14] rfl
        have hDc : va_D A (wM cyD cyI cyJ cyZ am bv bt bl be bdp bi bg bsd bsv bbd bbv br bu bw mn mm mch msp msb mno msn mbn mhr mro mv mt ml med md mi mg msd msv mbd mbv mr mu mw) := hD.sub [0, 1, 2, 3, 4, 5, 6, 7, 8, 9, 10, 11, 12, 13, 14] (by decide) rfl
        refine kzE (ws' := (wM cyD cyI cyJ cyZ am bv bt bl be bdp bi bg bsd bsv bbd bbv br bu bw mn mm mch msp msb mno msn mbn mhr mro mv mt ml med md mi mg msd msv mbd mbv mr mu mw)) (wc := (wM cyD cyI cyJ cyZ am bv bt bl be bdp bi bg bsd bsv bbd bbv br bu bw mn mm mch msp msb mno msn mbn mhr mro mv mt ml med md mi mg msd msv mbd mbv mr mu mw)) (wr := []) (w1 := (wM cyD cyI cyJ cyZ am bv bt bl be bdp bi bg bsd bsv bbd bbv br bu bw mn mm mch msp msb mno msn mbn mhr mro mv mt ml med md mi mg msd msv mbd mbv mr mu mw)) (va_runV (As := [.int (mw (p1 - (1 : Int32)).toNatClampNeg), .int ((nI j)), .int (mw p1.toNatClampNeg), .int p2, .int p3]) (rest := []) ⟨hx, hb, hml, hown, hts⟩ (c_X4_mayFollow (l := l) (D := D) (cyD := cyD) (cyI := cyI) (cyJ := cyJ) (cyZ := cyZ) am bv bt bl be bdp bi bg bsd bsv bbd bbv br bu bw mn mm mch msp msb mno msn mbn mhr mro mv mt ml med md mi mg msd msv mbd mbv mr mu mw H.size (mw (p1 - (1 : Int32)).toNatClampNeg) ((nI j)) (mw p1.toNatClampNeg) p2 p3 (wkE1 hw hi hIN hN32 c_1).choose (wkE1 hw hi hIN hN32 c_1).choose_spec.1 (wkE1 hw hi hIN hN32 c_1).choose_spec.2 (wkE hw hi hIN hN32).choose (wkE hw hi hIN hN32).choose_spec.1 (wkE hw hi hIN hN32).choose_spec.2) (cwV 5 hts gX4_bestBefore_X4_mayFollow rfl rfl rfl (by decide +kernel) ⟨Nat.le_of_ble_eq_true rfl, Nat.le_of_ble_eq_true rfl⟩) (kV (ci := 4) (q0 := 0) (q := (RX4, TX4, 24)) hN hK hPc hDc rfl rfl rfl) rfl rfl hl.1 rfl (lv_room (Nat.le_of_ble_eq_true rfl)) dX4_bestBefore_66 ⟨Nat.le_of_ble_eq_true rfl, Nat.le_of_ble_eq_true rfl⟩) hP hD hS hA [0, 1, 2, 3, 4, 5, 6, 7, 8, 9, 10, 11, 12, 13, 14] [] [0, 1, 2, 3, 4, 5, 6, 7, 8, 9, 10, 11, 12, 13, 14] rfl rfl (by decide) (by decide) rfl (by decide) (fun H locs hz_66 hP hD hS => ?_)
        refine lv_if_eq (tgt := 76) hx hb dX4_bestBefore_69 (by decide) (fun c_69 => ?_) (fun c_69 => ?_)
        · refine lv_iinc (v := (((nI j)) + 1)) (lv' := [(6, .int (((nI j)) + 1)), (7, .long (mu (((64 : Int32) * (p1 - (1 : Int32))) + (nI j)).toNatClampNeg)), (4, .long (bs)), (0, .ref am), (1, .int p1), (2, .int p2), (3, .int p3)]) hx hb dX4_bestBefore_76 hl (k := 1) rfl rfl (by decide) rfl (fun ls hl => ?_)
          refine lv_goto (tgt := 14) hx hb dX4_bestBefore_79 (by decide) ?_
          exact ih_14 (j + 1) (bs) _ _ (by omega) (by have := Nat.lt_of_not_le (fun z => c_20 (nI_le (a := mn) z (by omega))); omega) (by rw [← nI_1 j]; rw [hF, fX4_bestBefore_L14, if_neg c_20, if_neg c_44, if_pos c_69]) hP hD hS _ (by rw [← nI_1 j]; exact lv_sub hl [0, 2, 3, 4, 5, 6] rfl)
        refine lv_lload hx hb dX4_bestBefore_72 (lv_at hl 0 rfl) ?_
        refine lv_lstore (lv' := [(4, .long (mu (((64 : Int32) * (p1 - (1 : Int32))) + (nI j)).toNatClampNeg)), (7, .long (mu (((64 : Int32) * (p1 - (1 : Int32))) + (nI j)).toNatClampNeg)), (6, .int ((nI j))), (0, .ref am), (1, .int p1), (2, .int p2), (3, .int p3)]) hx hb dX4_bestBefore_74 hl (by decide) rfl (fun ls hl => ?_)
        refine lv_iinc (v := (((nI j)) + 1)) (lv' := [(6, .int (((nI j)) + 1)), (4, .long (mu (((64 : Int32) * (p1 - (1 : Int32))) + (nI j)).toNatClampNeg)), (7, .long (mu (((64 : Int32) * (p1 - (1 : Int32))) + (nI j)).toNatClampNeg)), (0, .ref am), (1, .int p1), (2, .int p2), (3, .int p3)]) hx hb dX4_bestBefore_76 hl (k := 2) rfl rfl (by decide) rfl (fun ls hl => ?_)
        refine lv_goto (tgt := 14) hx hb dX4_bestBefore_79 (by decide) ?_
        exact ih_14 (j + 1) (mu (((64 : Int32) * (p1 - (1 : Int32))) + (nI j)).toNatClampNeg) _ _ (by omega) (by have := Nat.lt_of_not_le (fun z => c_20 (nI_le (a := mn) z (by omega))); omega) (by rw [← nI_1 j]; rw [hF, fX4_bestBefore_L14, if_neg c_20, if_neg c_44, if_neg c_69]) hP hD hS _ (by rw [← nI_1 j]; exact lv_sub hl [0, 1, 3, 4, 5, 6] rfl)
    exact loop_14 65 0 (-1 : Int64) _ _ rfl (Nat.zero_le _) (by rw [nI_0]; rw [fX4_bestBefore, if_neg c_1]) hP hD hS _ (by exact lv_sub hl [0, 1, 2, 3, 4, 5] rfl)
  refine lv_lconst (v := 0) hx hb dX4_bestBefore_4 rfl ?_
  have hF9 : (fX4_bestBefore mn med mu mw p1 p2 p3) = (0 : Int64) := by rw [fX4_bestBefore, if_pos c_1]
  have hP9 : va_P D vwCl (wM cyD cyI cyJ cyZ am bv bt bl be bdp bi bg bsd bsv bbd bbv br bu bw mn mm mch msp msb mno msn mbn mhr mro mv mt ml med md mi mg msd msv mbd mbv mr mu mw) H := hP
  have hD9 : va_D A (wM cyD cyI cyJ cyZ am bv bt bl be bdp bi bg bsd bsv bbd bbv br bu bw mn mm mch msp msb mno msn mbn mhr mro mv mt ml med md mi mg msd msv mbd mbv mr mu mw) := hD
  exact W.lret (v := (0 : Int64)) hx hb hr (fun t ht hW => ⟨⟨(0 : Int64), (), rfl, (by rw [hF9]), by rw [ht]; exact hP9, va_K.moved hW.alike hK, hD9⟩, hS.F ht⟩) hS.2.2 dX4_bestBefore_5
