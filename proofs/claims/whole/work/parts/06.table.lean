def fX1_rowsUpTo_L2 (rn : Int32) (sf : Nat → UInt64)  (p1 : UInt64) : Nat → (Int32) → Int32
  | 0, v_j => 0
  | k + 1, v_j => if rn ≤ v_j then v_j else (if 0 < (Op.cmpValue (FP.dcmp (sf (v_j).toNatClampNeg) p1) CmpOp.g) then v_j else ((fX1_rowsUpTo_L2 rn sf p1 k ((v_j) + 1))))
def fX1_rowsUpTo (rn : Int32) (sf : Nat → UInt64) (p1 : UInt64) : Int32 := (fX1_rowsUpTo_L2 rn sf p1 21 (0 : Int32))
set_option maxHeartbeats 4000000 in
set_option maxRecDepth 100000 in
theorem c_X1_rowsUpTo {l : Launch} {D : va_G} {cyD cyI cyJ cyZ : ClassId} (at_ a1 a2 : Nat) (rn : Int32) (sf : Nat → UInt64) (nf : Nat → UInt64) (sz : Nat) (p1 : UInt64) (r : Nat) (hrn : rn = nI r) (hr20 : r ≤ 20) : mI l yX1_rowsUpTo wsX1_rowsUpTo ({ frames := 0, cells := 0, slots := 0, locals := 0 } : Room) D (kT cyD cyI cyJ cyZ) [.ref at_, .double p1] (wT cyD cyI cyJ cyZ at_ a1 a2 rn sf nf) (wT cyD cyI cyJ cyZ at_ a1 a2 rn sf nf) sz (fX1_rowsUpTo rn sf p1) 0 0 := by
  refine Met.ofW (cc := cX1_rowsUpTo) (maxL := 4) (ret := (some .int)) (by decide) rfl ?_
  intro p e s m args below meth c s₁ B hml hv
  obtain ⟨rfl, hN, hsz, hP, hK, hD0⟩ := hv
  have hx := B.exec
  have hb := B.bytes
  have hr := B.returns
  have hts := atoms_spec (ws := wsX1_rowsUpTo) B.pre
  have hown : s.vm.findClass RX1 = some m.cls := findClass_of_methodNamed B.named
  have hlocks := B.notSynchronized
  subst hsz
  have hD := hD0.self (sz := s.heap.size)
  generalize hAe : va_A (wT cyD cyI cyJ cyZ at_ a1 a2 rn sf nf) s.heap.size = A at hD ⊢
  have hA : ∀ q : Nat, s.heap.size ≤ q → A q := fun q h => by rw [← hAe]; exact Or.inr h
  have hS : va_S A s.heap s.heap [] := va_S.rf
  have hP : va_P D vwCl (wT cyD cyI cyJ cyZ at_ a1 a2 rn sf nf) s.heap := hP
  have hl := lv_entry [.ref at_, .double p1] (n := 4) (Nat.le_of_ble_eq_true rfl)
  rw [lg_entry_eq]
  generalize (lg_sl [.ref at_, .double p1] ++ List.replicate (4 - (lg_sl [.ref at_, .double p1]).length) Slot.unset).toArray = ls at hl ⊢
  have hl : lv_has ls 4 [(0, .ref at_), (1, .double p1)] := hl
  obtain ⟨H, hHe⟩ : ∃ H : Heap, H = s.heap := ⟨_, rfl⟩
  have hP : va_P D vwCl (wT cyD cyI cyJ cyZ at_ a1 a2 rn sf nf) H := by rw [hHe]; exact hP
  have hS : va_S A s.heap H [] := by rw [hHe]; exact hS
  rw [← hHe]
  refine lv_iconst (v := 0) hx hb dX1_rowsUpTo_0 (by decide) ?_
  refine lv_istore_n (lv' := [(3, .int (0 : Int32)), (0, .ref at_), (1, .double p1)]) hx hb dX1_rowsUpTo_1 rfl hl (by decide) rfl (fun ls hl => ?_)
  have loop_2 : ∀ (k : Nat) (j : Nat) (H : Heap) (locs : List Loc), (j + k = 21) → (j ≤ r) → (fX1_rowsUpTo rn sf p1) = fX1_rowsUpTo_L2 rn sf p1 k ((nI j)) → va_P D vwCl (wT cyD cyI cyJ cyZ at_ a1 a2 rn sf nf) H → va_D A (wT cyD cyI cyJ cyZ at_ a1 a2 rn sf nf) → va_S A s.heap H locs → ∀ ls, lv_has ls 4 [(3, .int ((nI j))), (0, .ref at_), (1, .double p1)] → W p l e (headSpec wsX1_rowsUpTo ({ frames := 0, cells := 0, slots := 0, locals := 0 } : Room)).room s m ([.ref at_, .double p1] : List Value).toArray below meth c H locs 0 0 (MQ below (va_Qi (fun (r : Int32) (_ : Unit) => r = (fX1_rowsUpTo rn sf p1)) (kE D (kT cyD cyI cyJ cyZ) (wT cyD cyI cyJ cyZ at_ a1 a2 rn sf nf) A) A) ([.ref at_, .double p1] : List Value).toArray s 0 0 A) (F0 m 2 ls []) := by
    intro k_2
    induction k_2 with
    | zero => intro j H locs hj hj2 hF hP hD hS ls hl; exact absurd hr20 (by omega)
    | succ k_2 ih_2 =>
      intro j H locs hj hj2 hF hP hD hS ls hl
      refine lv_iload_n hx hb dX1_rowsUpTo_2 rfl (lv_at hl 0 rfl) ?_
      refine lv_aload_n hx hb dX1_rowsUpTo_3 rfl (lv_at hl 1 rfl) ?_
      refine va_get (D := D) (ci := 1) (v := .int rn) (C := RX1) (T := TX1) (N := 3) hx hb hts (fun _ h => (List.mem_cons_of_mem _ (List.mem_append_right _ h))) hown hK hP 0 rfl rfl 2 (by decide) (hts (.fieldLink RX1 18 "BottomWalks$Table" "rows" "I") (List.mem_of_getElem? (i := 1) rfl)) (fun _ h9 => h9) rfl dX1_rowsUpTo_4 ?_
      refine lv_icmp_ge (tgt := 27) hx hb dX1_rowsUpTo_7 (by decide) (fun c_7 => ?_) (fun c_7 => ?_)
      · refine lv_iload_n hx hb dX1_rowsUpTo_27 rfl (lv_at hl 0 rfl) ?_
        have hF9 : (fX1_rowsUpTo rn sf p1) = (nI j) := by rw [hF, fX1_rowsUpTo_L2, if_pos c_7]
        have hP9 : va_P D vwCl (wT cyD cyI cyJ cyZ at_ a1 a2 rn sf nf) H := hP
        have hD9 : va_D A (wT cyD cyI cyJ cyZ at_ a1 a2 rn sf nf) := hD
        exact W.iret (v := (nI j)) hx hb hr (fun t ht hW => ⟨⟨(nI j), (), rfl, (by rw [hF9]), by rw [ht]; exact hP9, va_K.moved hW.alike hK, hD9⟩, hS.F ht⟩) hS.2.2 dX1_rowsUpTo_28
      refine lv_aload_n hx hb dX1_rowsUpTo_10 rfl (lv_at hl 1 rfl) ?_
      refine va_get (D := D) (ci := 1) (v := .ref a1) (C := RX1) (T := TX1) (N := 3) hx hb hts (fun _ h => (List.mem_cons_of_mem _ (List.mem_append_right _ h))) hown hK hP 0 rfl rfl 0 (by decide) (hts (.fieldLink RX1 9 "BottomWalks$Table" "starts" "[D") (List.mem_of_getElem? (i := 2) rfl)) (fun _ h9 => h9) rfl dX1_rowsUpTo_11 ?_
      refine lv_iload_n hx hb dX1_rowsUpTo_14 rfl (lv_at hl 0 rfl) ?_
      refine va_dald hx hb hK hP 1 0 rfl rfl (by rw [hrn] at c_7; exact vp_in_nI (by have := Nat.lt_of_not_le (fun q => c_7 (nI_le q (by omega))); omega) (by decide)) dX1_rowsUpTo_15 ?_
      refine lv_dload_n hx hb dX1_rowsUpTo_16 rfl (lv_at hl 2 rfl) ?_
      refine lv_dcmp hx hb dX1_rowsUpTo_17 ?_
      refine lv_if_gt (tgt := 27) hx hb dX1_rowsUpTo_18 (by decide) (fun c_18 => ?_) (fun c_18 => ?_)
      · refine lv_iload_n hx hb dX1_rowsUpTo_27 rfl (lv_at hl 0 rfl) ?_
        have hF9 : (fX1_rowsUpTo rn sf p1) = (nI j) := by rw [hF, fX1_rowsUpTo_L2, if_neg c_7, if_pos c_18]
        have hP9 : va_P D vwCl (wT cyD cyI cyJ cyZ at_ a1 a2 rn sf nf) H := hP
        have hD9 : va_D A (wT cyD cyI cyJ cyZ at_ a1 a2 rn sf nf) := hD
        exact W.iret (v := (nI j)) hx hb hr (fun t ht hW => ⟨⟨(nI j), (), rfl, (by rw [hF9]), by rw [ht]; exact hP9, va_K.moved hW.alike hK, hD9⟩, hS.F ht⟩) hS.2.2 dX1_rowsUpTo_28
      refine lv_iinc (v := (((nI j)) + 1)) (lv' := [(3, .int (((nI j)) + 1)), (0, .ref at_), (1, .double p1)]) hx hb dX1_rowsUpTo_21 hl (k := 0) rfl rfl (by decide) rfl (fun ls hl => ?_)
      refine lv_goto (tgt := 2) hx hb dX1_rowsUpTo_24 (by decide) ?_
      exact ih_2 (j + 1) _ _ (by omega) (by rw [hrn] at c_7; have := Nat.lt_of_not_le (fun q => c_7 (nI_le q (by omega))); omega) (by rw [← nI_1 j]; rw [hF, fX1_rowsUpTo_L2, if_neg c_7, if_neg c_18]) hP hD hS _ (by rw [← nI_1 j]; exact lv_sub hl [0, 1, 2] rfl)
  exact loop_2 21 0 _ _ rfl (Nat.zero_le _) (by rw [nI_0]; rw [fX1_rowsUpTo]) hP hD hS _ (by exact lv_sub hl [0, 1, 2] rfl)
theorem upTo_L {rn : Int32} {sf : Nat → UInt64} {w : UInt64} {r : Nat} (hrn : rn = nI r) (hr : r ≤ 20) : ∀ (k j : Nat), j + k = 21 → j ≤ r → ∃ q : Nat, j ≤ q ∧ q ≤ r ∧ fX1_rowsUpTo_L2 rn sf w k (nI j) = nI q := by
  intro k; induction k with
  | zero => intro j h1 h2; omega
  | succ k ih =>
    intro j h1 h2
    rw [fX1_rowsUpTo_L2]
    by_cases c1 : rn ≤ nI j
    · rw [if_pos c1]; exact ⟨j, Nat.le_refl _, h2, rfl⟩
    · rw [if_neg c1]
      rw [hrn] at c1
      have h3 := Nat.lt_of_not_le (fun q => c1 (nI_le q (by omega)))
      split
      · exact ⟨j, Nat.le_refl _, h2, rfl⟩
      · rw [nI_1]
        obtain ⟨q, a, b, e⟩ := ih (j + 1) (by omega) (by omega)
        exact ⟨q, by omega, b, e⟩
theorem upTo_nI {rn : Int32} (sf : Nat → UInt64) (w : UInt64) {r : Nat} (hrn : rn = nI r) (hr : r ≤ 20) : ∃ q : Nat, q ≤ r ∧ fX1_rowsUpTo rn sf w = nI q := by
  obtain ⟨q, _, b, e⟩ := upTo_L (sf := sf) (w := w) hrn hr 21 0 rfl (Nat.zero_le _)
  exact ⟨q, b, by rw [fX1_rowsUpTo]; exact e⟩
theorem nI_0m : nI 0 - 1 = -1 := by decide
theorem step_in {rn : Int32} (sf : Nat → UInt64) (w : UInt64) {r : Nat} (hrn : rn = nI r) (hr : r ≤ 20) (h0 : ¬ rn = 0) : vp_in (if (0 : Int32) < (fX1_rowsUpTo rn sf w - 1) then (fX1_rowsUpTo rn sf w - 1) else (0 : Int32)) 20 := by
  obtain ⟨q, hq, e⟩ := upTo_nI sf w hrn hr
  rw [e]
  by_cases z : q = 0
  · rw [z, nI_0m, if_neg (by decide)]; exact vp_in_nI (n := 0) (by decide) (by decide)
  · rw [nI_sub1 (by omega)]
    split
    · exact vp_in_nI (by omega) (by decide)
    · exact vp_in_nI (n := 0) (by decide) (by decide)
theorem upm1_in {rn : Int32} (sf : Nat → UInt64) (w : UInt64) {r : Nat} (hrn : rn = nI r) (hr : r ≤ 20) (h0 : ¬ fX1_rowsUpTo rn sf w ≤ 0) : vp_in (fX1_rowsUpTo rn sf w - 1) 20 := by
  obtain ⟨q, hq, e⟩ := upTo_nI sf w hrn hr
  rw [e] at h0 ⊢
  have z : ¬ q = 0 := fun z => h0 (by rw [z]; decide)
  rw [nI_sub1 (by omega)]; exact vp_in_nI (by omega) (by decide)
theorem upm1_in2 {rn : Int32} (sf : Nat → UInt64) (w : UInt64) {r : Nat} (hrn : rn = nI r) (hr : r ≤ 20) (h0 : ¬ fX1_rowsUpTo rn sf w < 1) : vp_in (fX1_rowsUpTo rn sf w - 1) 20 := by
  obtain ⟨q, hq, e⟩ := upTo_nI sf w hrn hr
  rw [e] at h0 ⊢
  have z : ¬ q = 0 := fun z => h0 (by rw [z]; decide)
  rw [nI_sub1 (by omega)]; exact vp_in_nI (by omega) (by decide)
theorem up_in {rn : Int32} (sf : Nat → UInt64) (w : UInt64) {r : Nat} (hrn : rn = nI r) (hr : r ≤ 20) (h0 : fX1_rowsUpTo rn sf w < rn) : vp_in (fX1_rowsUpTo rn sf w) 20 := by
  obtain ⟨q, hq, e⟩ := upTo_nI sf w hrn hr
  rw [e, hrn] at h0
  rw [e]
  have z := (nI_ltI (by omega) (by omega)).mp h0
  exact vp_in_nI (by omega) (by decide)
theorem up_in2 {rn : Int32} (sf : Nat → UInt64) (w : UInt64) {r : Nat} (hrn : rn = nI r) (hr : r ≤ 20) (h0 : rn < 20) : vp_in (fX1_rowsUpTo rn sf w) 20 := by
  obtain ⟨q, hq, e⟩ := upTo_nI sf w hrn hr
  rw [hrn] at h0
  rw [e]
  have z := (nI_ltI (b := 20) (by omega) (by omega)).mp h0
  exact vp_in_nI (by omega) (by decide)
theorem vpin_bd {i : Int32} {n B : Nat} {f : Nat → UInt64} (h : vp_in i n) (hn : n < 2 ^ 31) (hf : ∀ i, i < n → bd B (f i)) : bd B (f i.toNatClampNeg) := by
  obtain ⟨j, hj, rfl⟩ := vp_in_of h hn
  rw [nI_clamp (by omega)]; exact hf j hj
def fX1_stepAt (rn : Int32) (sf : Nat → UInt64) (nf : Nat → UInt64) (p1 : UInt64) (p2 : UInt64) : UInt64 := if rn = 0 then p2 else ((nf (if (0 : Int32) < ((fX1_rowsUpTo rn sf p1) - (1 : Int32)) then ((fX1_rowsUpTo rn sf p1) - (1 : Int32)) else (0 : Int32)).toNatClampNeg))
set_option maxHeartbeats 4000000 in
set_option maxRecDepth 100000 in
theorem c_X1_stepAt {l : Launch} {D : va_G} {cyD cyI cyJ cyZ : ClassId} (at_ a1 a2 : Nat) (rn : Int32) (sf : Nat → UInt64) (nf : Nat → UInt64) (sz : Nat) (p1 : UInt64) (p2 : UInt64) (r : Nat) (hrn : rn = nI r) (hr20 : r ≤ 20) : mD l yX1_stepAt wsX1_stepAt ({ frames := 1, cells := 0, slots := 0, locals := 23 } : Room) D (kT cyD cyI cyJ cyZ) [.ref at_, .double p1, .double p2] (wT cyD cyI cyJ cyZ at_ a1 a2 rn sf nf) (wT cyD cyI cyJ cyZ at_ a1 a2 rn sf nf) sz (fX1_stepAt rn sf nf p1 p2) 0 0 := by
  refine Met.ofW (cc := cX1_stepAt) (maxL := 5) (ret := (some .double)) (by decide) rfl ?_
  intro p e s m args below meth c s₁ B hml hv
  obtain ⟨rfl, hN, hsz, hP, hK, hD0⟩ := hv
  have hx := B.exec
  have hb := B.bytes
  have hr := B.returns
  have hts := atoms_spec (ws := wsX1_stepAt) B.pre
  have hown : s.vm.findClass RX1 = some m.cls := findClass_of_methodNamed B.named
  have hlocks := B.notSynchronized
  subst hsz
  have hD := hD0.self (sz := s.heap.size)
  generalize hAe : va_A (wT cyD cyI cyJ cyZ at_ a1 a2 rn sf nf) s.heap.size = A at hD ⊢
  have hA : ∀ q : Nat, s.heap.size ≤ q → A q := fun q h => by rw [← hAe]; exact Or.inr h
  have hS : va_S A s.heap s.heap [] := va_S.rf
  have hP : va_P D vwCl (wT cyD cyI cyJ cyZ at_ a1 a2 rn sf nf) s.heap := hP
  have hl := lv_entry [.ref at_, .double p1, .double p2] (n := 5) (Nat.le_of_ble_eq_true rfl)
  rw [lg_entry_eq]
  generalize (lg_sl [.ref at_, .double p1, .double p2] ++ List.replicate (5 - (lg_sl [.ref at_, .double p1, .double p2]).length) Slot.unset).toArray = ls at hl ⊢
  have hl : lv_has ls 5 [(0, .ref at_), (1, .double p1), (3, .double p2)] := hl
  obtain ⟨H, hHe⟩ : ∃ H : Heap, H = s.heap := ⟨_, rfl⟩
  have hP : va_P D vwCl (wT cyD cyI cyJ cyZ at_ a1 a2 rn sf nf) H := by rw [hHe]; exact hP
  have hS : va_S A s.heap H [] := by rw [hHe]; exact hS
  rw [← hHe]
  refine lv_aload_n hx hb dX1_stepAt_0 rfl (lv_at hl 0 rfl) ?_
  refine va_get (D := D) (ci := 1) (v := .int rn) (C := RX1) (T := TX1) (N := 3) hx hb hts (fun _ h => (List.mem_cons_of_mem _ (List.mem_append_right _ h))) hown hK hP 0 rfl rfl 2 (by decide) (hts (.fieldLink RX1 18 "BottomWalks$Table" "rows" "I") (List.mem_of_getElem? (i := 1) rfl)) (fun _ h9 => h9) rfl dX1_stepAt_1 ?_
  refine lv_if_ne (tgt := 9) hx hb dX1_stepAt_4 (by decide) (fun c_4 => ?_) (fun c_4 => ?_)
  · refine lv_aload_n hx hb dX1_stepAt_9 rfl (lv_at hl 0 rfl) ?_
    refine va_get (D := D) (ci := 1) (v := .ref a2) (C := RX1) (T := TX1) (N := 3) hx hb hts (fun _ h => (List.mem_cons_of_mem _ (List.mem_append_right _ h))) hown hK hP 0 rfl rfl 1 (by decide) (hts (.fieldLink RX1 15 "BottomWalks$Table" "numbers" "[D") (List.mem_of_getElem? (i := 2) rfl)) (fun _ h9 => h9) rfl dX1_stepAt_10 ?_
    refine lv_iconst (v := 0) hx hb dX1_stepAt_13 (by decide) ?_
    refine lv_aload_n hx hb dX1_stepAt_14 rfl (lv_at hl 0 rfl) ?_
    refine lv_dload_n hx hb dX1_stepAt_15 rfl (lv_at hl 1 rfl) ?_
    have hPc : va_P D vwCl (wT cyD cyI cyJ cyZ at_ a1 a2 rn sf nf) H := hP.sub [0, 1, 2] rfl
    have hDc : va_D A (wT cyD cyI cyJ cyZ at_ a1 a2 rn sf nf) := hD.sub [0, 1, 2] (by decide) rfl
    refine kiE (ws' := (wT cyD cyI cyJ cyZ at_ a1 a2 rn sf nf)) (wc := (wT cyD cyI cyJ cyZ at_ a1 a2 rn sf nf)) (wr := []) (w1 := (wT cyD cyI cyJ cyZ at_ a1 a2 rn sf nf)) (va_runV (As := [.double p1]) (rest := [.int (0 : Int32), .ref a2]) ⟨hx, hb, hml, hown, hts⟩ (c_X1_rowsUpTo (l := l) (D := D) (cyD := cyD) (cyI := cyI) (cyJ := cyJ) (cyZ := cyZ) at_ a1 a2 rn sf nf H.size p1 r hrn hr20) (cwV 1 hts gX1_stepAt_X1_rowsUpTo rfl rfl rfl (by decide +kernel) ⟨Nat.le_of_ble_eq_true rfl, Nat.le_of_ble_eq_true rfl⟩) (kV (ci := 1) (q0 := 0) (q := (RX1, TX1, 3)) hN hK hPc hDc rfl rfl rfl) rfl rfl hl.1 rfl (lv_room (Nat.le_of_ble_eq_true rfl)) dX1_stepAt_16 ⟨Nat.le_of_ble_eq_true rfl, Nat.le_of_ble_eq_true rfl⟩) hP hD hS hA [0, 1, 2] [] [0, 1, 2] rfl rfl (by decide) (by decide) rfl (by decide) (fun H locs hP hD hS => ?_)
    refine lv_iconst (v := 1) hx hb dX1_stepAt_19 (by decide) ?_
    refine lv_isub hx hb dX1_stepAt_20 ?_
    refine va_mmax hx hb (hml.trans hl.1.symm) hown (hts (.methodLink RX1 26 Lib.Math.max.name) (List.mem_of_getElem? (i := 3) rfl)) (hts (.static Lib.Math.max.name) (List.mem_of_getElem? (i := 4) rfl)) (hts (.initialized "java/lang/Math") (List.mem_of_getElem? (i := 5) rfl)) (hts (.code Lib.Math.max.name Lib.Math.max.code 2 (some .int)) (List.mem_of_getElem? (i := 6) rfl)) (Nat.le_of_ble_eq_true rfl) (Nat.le_of_ble_eq_true rfl) (Nat.le_of_ble_eq_true rfl) (Nat.le_of_ble_eq_true rfl) dX1_stepAt_21 ?_
    refine va_dald hx hb hK hP 2 0 rfl rfl (step_in sf p1 hrn hr20 c_4) dX1_stepAt_24 ?_
    have hF9 : (fX1_stepAt rn sf nf p1 p2) = (nf (if (0 : Int32) < ((fX1_rowsUpTo rn sf p1) - (1 : Int32)) then ((fX1_rowsUpTo rn sf p1) - (1 : Int32)) else (0 : Int32)).toNatClampNeg) := by rw [fX1_stepAt, if_neg c_4]
    have hP9 : va_P D vwCl (wT cyD cyI cyJ cyZ at_ a1 a2 rn sf nf) H := hP
    have hD9 : va_D A (wT cyD cyI cyJ cyZ at_ a1 a2 rn sf nf) := hD
    exact W.dret (v := (nf (if (0 : Int32) < ((fX1_rowsUpTo rn sf p1) - (1 : Int32)) then ((fX1_rowsUpTo rn sf p1) - (1 : Int32)) else (0 : Int32)).toNatClampNeg)) hx hb hr (fun t ht hW => ⟨⟨(nf (if (0 : Int32) < ((fX1_rowsUpTo rn sf p1) - (1 : Int32)) then ((fX1_rowsUpTo rn sf p1) - (1 : Int32)) else (0 : Int32)).toNatClampNeg), (), rfl, (by rw [hF9]), by rw [ht]; exact hP9, va_K.moved hW.alike hK, hD9⟩, hS.F ht⟩) hS.2.2 dX1_stepAt_25
  refine lv_dload_n hx hb dX1_stepAt_7 rfl (lv_at hl 2 rfl) ?_
  have hF9 : (fX1_stepAt rn sf nf p1 p2) = p2 := by rw [fX1_stepAt, if_pos c_4]
  have hP9 : va_P D vwCl (wT cyD cyI cyJ cyZ at_ a1 a2 rn sf nf) H := hP
  have hD9 : va_D A (wT cyD cyI cyJ cyZ at_ a1 a2 rn sf nf) := hD
  exact W.dret (v := p2) hx hb hr (fun t ht hW => ⟨⟨p2, (), rfl, (by rw [hF9]), by rw [ht]; exact hP9, va_K.moved hW.alike hK, hD9⟩, hS.F ht⟩) hS.2.2 dX1_stepAt_8
def fX1_slopeAt (rn : Int32) (sf : Nat → UInt64) (nf : Nat → UInt64) (p1 : UInt64) (p2 : UInt64) : UInt64 := if (fX1_rowsUpTo rn sf p1) < (1 : Int32) then (fX1_stepAt rn sf nf p1 p2) else (if (fX1_rowsUpTo rn sf p1) < rn then (FP.dadd (nf ((fX1_rowsUpTo rn sf p1) - (1 : Int32)).toNatClampNeg) (FP.dmul (FP.dsub (nf (fX1_rowsUpTo rn sf p1).toNatClampNeg) (nf ((fX1_rowsUpTo rn sf p1) - (1 : Int32)).toNatClampNeg)) (fX3_over (FP.dsub p1 (sf ((fX1_rowsUpTo rn sf p1) - (1 : Int32)).toNatClampNeg)) (FP.dsub (sf (fX1_rowsUpTo rn sf p1).toNatClampNeg) (sf ((fX1_rowsUpTo rn sf p1) - (1 : Int32)).toNatClampNeg))))) else ((fX1_stepAt rn sf nf p1 p2)))
set_option maxHeartbeats 4000000 in
set_option maxRecDepth 100000 in
theorem c_X1_slopeAt {l : Launch} {D : va_G} {cyD cyI cyJ cyZ : ClassId} (at_ a1 a2 : Nat) (rn : Int32) (sf : Nat → UInt64) (nf : Nat → UInt64) (sz : Nat) (p1 : UInt64) (p2 : UInt64) (r : Nat) (hrn : rn = nI r) (hr20 : r ≤ 20) (hs : ∀ i, i < 20 → bd 1041 (sf i)) (hn : ∀ i, i < 20 → bd 1041 (nf i)) (hp : bd 1041 p1) (ho : ¬ fX1_rowsUpTo rn sf p1 < 1 → fX1_rowsUpTo rn sf p1 < rn → vf_n64 (FP.ddiv (FP.dsub p1 (sf (fX1_rowsUpTo rn sf p1 - 1).toNatClampNeg)) (FP.dsub (sf (fX1_rowsUpTo rn sf p1).toNatClampNeg) (sf (fX1_rowsUpTo rn sf p1 - 1).toNatClampNeg))) ∧ bd 1100 (fX3_over (FP.dsub p1 (sf (fX1_rowsUpTo rn sf p1 - 1).toNatClampNeg)) (FP.dsub (sf (fX1_rowsUpTo rn sf p1).toNatClampNeg) (sf (fX1_rowsUpTo rn sf p1 - 1).toNatClampNeg)))) : mD l yX1_slopeAt wsX1_slopeAt ({ frames := 2, cells := 0, slots := 0, locals := 47 } : Room) D (kT cyD cyI cyJ cyZ) [.ref at_, .double p1, .double p2] (wT cyD cyI cyJ cyZ at_ a1 a2 rn sf nf) (wT cyD cyI cyJ cyZ at_ a1 a2 rn sf nf) sz (fX1_slopeAt rn sf nf p1 p2) 0 0 := by
  refine Met.ofW (cc := cX1_slopeAt) (maxL := 14) (ret := (some .double)) (by decide) rfl ?_
  intro p e s m args below meth c s₁ B hml hv
  obtain ⟨rfl, hN, hsz, hP, hK, hD0⟩ := hv
  have hx := B.exec
  have hb := B.bytes
  have hr := B.returns
  have hts := atoms_spec (ws := wsX1_slopeAt) B.pre
  have hown : s.vm.findClass RX1 = some m.cls := findClass_of_methodNamed B.named
  have hlocks := B.notSynchronized
  subst hsz
  have hD := hD0.self (sz := s.heap.size)
  generalize hAe : va_A (wT cyD cyI cyJ cyZ at_ a1 a2 rn sf nf) s.heap.size = A at hD ⊢
  have hA : ∀ q : Nat, s.heap.size ≤ q → A q := fun q h => by rw [← hAe]; exact Or.inr h
  have hS : va_S A s.heap s.heap [] := va_S.rf
  have hP : va_P D vwCl (wT cyD cyI cyJ cyZ at_ a1 a2 rn sf nf) s.heap := hP
  have hl := lv_entry [.ref at_, .double p1, .double p2] (n := 14) (Nat.le_of_ble_eq_true rfl)
  rw [lg_entry_eq]
  generalize (lg_sl [.ref at_, .double p1, .double p2] ++ List.replicate (14 - (lg_sl [.ref at_, .double p1, .double p2]).length) Slot.unset).toArray = ls at hl ⊢
  have hl : lv_has ls 14 [(0, .ref at_), (1, .double p1), (3, .double p2)] := hl
  obtain ⟨H, hHe⟩ : ∃ H : Heap, H = s.heap := ⟨_, rfl⟩
  have hP : va_P D vwCl (wT cyD cyI cyJ cyZ at_ a1 a2 rn sf nf) H := by rw [hHe]; exact hP
  have hS : va_S A s.heap H [] := by rw [hHe]; exact hS
  rw [← hHe]
  refine lv_aload_n hx hb dX1_slopeAt_0 rfl (lv_at hl 0 rfl) ?_
  refine lv_dload_n hx hb dX1_slopeAt_1 rfl (lv_at hl 1 rfl) ?_
  have hPc : va_P D vwCl (wT cyD cyI cyJ cyZ at_ a1 a2 rn sf nf) H := hP.sub [0, 1, 2] rfl
  have hDc : va_D A (wT cyD cyI cyJ cyZ at_ a1 a2 rn sf nf) := hD.sub [0, 1, 2] (by decide) rfl
  refine kiE (ws' := (wT cyD cyI cyJ cyZ at_ a1 a2 rn sf nf)) (wc := (wT cyD cyI cyJ cyZ at_ a1 a2 rn sf nf)) (wr := []) (w1 := (wT cyD cyI cyJ cyZ at_ a1 a2 rn sf nf)) (va_runV (As := [.double p1]) (rest := []) ⟨hx, hb, hml, hown, hts⟩ (c_X1_rowsUpTo (l := l) (D := D) (cyD := cyD) (cyI := cyI) (cyJ := cyJ) (cyZ := cyZ) at_ a1 a2 rn sf nf H.size p1 r hrn hr20) (cwV 1 hts gX1_slopeAt_X1_rowsUpTo rfl rfl rfl (by decide +kernel) ⟨Nat.le_of_ble_eq_true rfl, Nat.le_of_ble_eq_true rfl⟩) (kV (ci := 1) (q0 := 0) (q := (RX1, TX1, 3)) hN hK hPc hDc rfl rfl rfl) rfl rfl hl.1 rfl (lv_room (Nat.le_of_ble_eq_true rfl)) dX1_slopeAt_2 ⟨Nat.le_of_ble_eq_true rfl, Nat.le_of_ble_eq_true rfl⟩) hP hD hS hA [0, 1, 2] [] [0, 1, 2] rfl rfl (by decide) (by decide) rfl (by decide) (fun H locs hP hD hS => ?_)
  refine lv_istore (lv' := [(5, .int (fX1_rowsUpTo rn sf p1)), (0, .ref at_), (1, .double p1), (3, .double p2)]) hx hb dX1_slopeAt_5 hl (by decide) rfl (fun ls hl => ?_)
  refine lv_iload hx hb dX1_slopeAt_7 (lv_at hl 0 rfl) ?_
  refine lv_iconst (v := 1) hx hb dX1_slopeAt_9 (by decide) ?_
  refine lv_icmp_lt (tgt := 22) hx hb dX1_slopeAt_10 (by decide) (fun c_10 => ?_) (fun c_10 => ?_)
  · refine lv_aload_n hx hb dX1_slopeAt_22 rfl (lv_at hl 1 rfl) ?_
    refine lv_dload_n hx hb dX1_slopeAt_23 rfl (lv_at hl 2 rfl) ?_
    refine lv_dload_n hx hb dX1_slopeAt_24 rfl (lv_at hl 3 rfl) ?_
    have hPc : va_P D vwCl (wT cyD cyI cyJ cyZ at_ a1 a2 rn sf nf) H := hP.sub [0, 1, 2] rfl
    have hDc : va_D A (wT cyD cyI cyJ cyZ at_ a1 a2 rn sf nf) := hD.sub [0, 1, 2] (by decide) rfl
    refine kdE (ws' := (wT cyD cyI cyJ cyZ at_ a1 a2 rn sf nf)) (wc := (wT cyD cyI cyJ cyZ at_ a1 a2 rn sf nf)) (wr := []) (w1 := (wT cyD cyI cyJ cyZ at_ a1 a2 rn sf nf)) (va_runV (As := [.double p1, .double p2]) (rest := []) ⟨hx, hb, hml, hown, hts⟩ (c_X1_stepAt (l := l) (D := D) (cyD := cyD) (cyI := cyI) (cyJ := cyJ) (cyZ := cyZ) at_ a1 a2 rn sf nf H.size p1 p2 r hrn hr20) (cwV 2 hts gX1_slopeAt_X1_stepAt rfl rfl rfl (by decide +kernel) ⟨Nat.le_of_ble_eq_true rfl, Nat.le_of_ble_eq_true rfl⟩) (kV (ci := 1) (q0 := 0) (q := (RX1, TX1, 3)) hN hK hPc hDc rfl rfl rfl) rfl rfl hl.1 rfl (lv_room (Nat.le_of_ble_eq_true rfl)) dX1_slopeAt_25 ⟨Nat.le_of_ble_eq_true rfl, Nat.le_of_ble_eq_true rfl⟩) hP hD hS hA [0, 1, 2] [] [0, 1, 2] rfl rfl (by decide) (by decide) rfl (by decide) (fun H locs hP hD hS => ?_)
    have hF9 : (fX1_slopeAt rn sf nf p1 p2) = (fX1_stepAt rn sf nf p1 p2) := by rw [fX1_slopeAt, if_pos c_10]
    have hP9 : va_P D vwCl (wT cyD cyI cyJ cyZ at_ a1 a2 rn sf nf) H := hP
    have hD9 : va_D A (wT cyD cyI cyJ cyZ at_ a1 a2 rn sf nf) := hD
    exact W.dret (v := (fX1_stepAt rn sf nf p1 p2)) hx hb hr (fun t ht hW => ⟨⟨(fX1_stepAt rn sf nf p1 p2), (), rfl, (by rw [hF9]), by rw [ht]; exact hP9, va_K.moved hW.alike hK, hD9⟩, hS.F ht⟩) hS.2.2 dX1_slopeAt_28
  refine lv_iload hx hb dX1_slopeAt_13 (lv_at hl 0 rfl) ?_
  refine lv_aload_n hx hb dX1_slopeAt_15 rfl (lv_at hl 1 rfl) ?_
  refine va_get (D := D) (ci := 1) (v := .int rn) (C := RX1) (T := TX1) (N := 3) hx hb hts (fun _ h => (List.mem_cons_of_mem _ (List.mem_append_right _ h))) hown hK hP 0 rfl rfl 2 (by decide) (hts (.fieldLink RX1 18 "BottomWalks$Table" "rows" "I") (List.mem_of_getElem? (i := 1) rfl)) (fun _ h9 => h9) rfl dX1_slopeAt_16 ?_
  refine lv_icmp_lt (tgt := 29) hx hb dX1_slopeAt_19 (by decide) (fun c_19 => ?_) (fun c_19 => ?_)
  · refine lv_aload_n hx hb dX1_slopeAt_29 rfl (lv_at hl 1 rfl) ?_
    refine va_get (D := D) (ci := 1) (v := .ref a2) (C := RX1) (T := TX1) (N := 3) hx hb hts (fun _ h => (List.mem_cons_of_mem _ (List.mem_append_right _ h))) hown hK hP 0 rfl rfl 1 (by decide) (hts (.fieldLink RX1 15 "BottomWalks$Table" "numbers" "[D") (List.mem_of_getElem? (i := 2) rfl)) (fun _ h9 => h9) rfl dX1_slopeAt_30 ?_
    refine lv_iload hx hb dX1_slopeAt_33 (lv_at hl 0 rfl) ?_
    refine lv_iconst (v := 1) hx hb dX1_slopeAt_35 (by decide) ?_
    refine lv_isub hx hb dX1_slopeAt_36 ?_
    refine va_dald hx hb hK hP 2 0 rfl rfl (upm1_in2 sf p1 hrn hr20 c_10) dX1_slopeAt_37 ?_
    refine lv_dstore (lv' := [(6, .double (nf ((fX1_rowsUpTo rn sf p1) - (1 : Int32)).toNatClampNeg)), (5, .int (fX1_rowsUpTo rn sf p1)), (0, .ref at_), (1, .double p1), (3, .double p2)]) hx hb dX1_slopeAt_38 hl (by decide) rfl (fun ls hl => ?_)
    refine lv_aload_n hx hb dX1_slopeAt_40 rfl (lv_at hl 2 rfl) ?_
    refine va_get (D := D) (ci := 1) (v := .ref a2) (C := RX1) (T := TX1) (N := 3) hx hb hts (fun _ h => (List.mem_cons_of_mem _ (List.mem_append_right _ h))) hown hK hP 0 rfl rfl 1 (by decide) (hts (.fieldLink RX1 15 "BottomWalks$Table" "numbers" "[D") (List.mem_of_getElem? (i := 2) rfl)) (fun _ h9 => h9) rfl dX1_slopeAt_41 ?_
    refine lv_iload hx hb dX1_slopeAt_44 (lv_at hl 1 rfl) ?_
    refine va_dald hx hb hK hP 2 0 rfl rfl (up_in sf p1 hrn hr20 c_19) dX1_slopeAt_46 ?_
    refine lv_dstore (lv' := [(8, .double (nf (fX1_rowsUpTo rn sf p1).toNatClampNeg)), (6, .double (nf ((fX1_rowsUpTo rn sf p1) - (1 : Int32)).toNatClampNeg)), (5, .int (fX1_rowsUpTo rn sf p1)), (0, .ref at_), (1, .double p1), (3, .double p2)]) hx hb dX1_slopeAt_47 hl (by decide) rfl (fun ls hl => ?_)
    refine lv_aload_n hx hb dX1_slopeAt_49 rfl (lv_at hl 3 rfl) ?_
    refine va_get (D := D) (ci := 1) (v := .ref a1) (C := RX1) (T := TX1) (N := 3) hx hb hts (fun _ h => (List.mem_cons_of_mem _ (List.mem_append_right _ h))) hown hK hP 0 rfl rfl 0 (by decide) (hts (.fieldLink RX1 9 "BottomWalks$Table" "starts" "[D") (List.mem_of_getElem? (i := 3) rfl)) (fun _ h9 => h9) rfl dX1_slopeAt_50 ?_
    refine lv_iload hx hb dX1_slopeAt_53 (lv_at hl 2 rfl) ?_
    refine lv_iconst (v := 1) hx hb dX1_slopeAt_55 (by decide) ?_
    refine lv_isub hx hb dX1_slopeAt_56 ?_
    refine va_dald hx hb hK hP 1 0 rfl rfl (upm1_in2 sf p1 hrn hr20 c_10) dX1_slopeAt_57 ?_
    refine lv_dstore (lv' := [(10, .double (sf ((fX1_rowsUpTo rn sf p1) - (1 : Int32)).toNatClampNeg)), (8, .double (nf (fX1_rowsUpTo rn sf p1).toNatClampNeg)), (6, .double (nf ((fX1_rowsUpTo rn sf p1) - (1 : Int32)).toNatClampNeg)), (5, .int (fX1_rowsUpTo rn sf p1)), (0, .ref at_), (1, .double p1), (3, .double p2)]) hx hb dX1_slopeAt_58 hl (by decide) rfl (fun ls hl => ?_)
    refine lv_aload_n hx hb dX1_slopeAt_60 rfl (lv_at hl 4 rfl) ?_
    refine va_get (D := D) (ci := 1) (v := .ref a1) (C := RX1) (T := TX1) (N := 3) hx hb hts (fun _ h => (List.mem_cons_of_mem _ (List.mem_append_right _ h))) hown hK hP 0 rfl rfl 0 (by decide) (hts (.fieldLink RX1 9 "BottomWalks$Table" "starts" "[D") (List.mem_of_getElem? (i := 3) rfl)) (fun _ h9 => h9) rfl dX1_slopeAt_61 ?_
    refine lv_iload hx hb dX1_slopeAt_64 (lv_at hl 3 rfl) ?_
    refine va_dald hx hb hK hP 1 0 rfl rfl (up_in sf p1 hrn hr20 c_19) dX1_slopeAt_66 ?_
    refine lv_dstore (lv' := [(12, .double (sf (fX1_rowsUpTo rn sf p1).toNatClampNeg)), (10, .double (sf ((fX1_rowsUpTo rn sf p1) - (1 : Int32)).toNatClampNeg)), (8, .double (nf (fX1_rowsUpTo rn sf p1).toNatClampNeg)), (6, .double (nf ((fX1_rowsUpTo rn sf p1) - (1 : Int32)).toNatClampNeg)), (5, .int (fX1_rowsUpTo rn sf p1)), (0, .ref at_), (1, .double p1), (3, .double p2)]) hx hb dX1_slopeAt_67 hl (by decide) rfl (fun ls hl => ?_)
    refine lv_dload hx hb dX1_slopeAt_69 (lv_at hl 3 rfl) ?_
    refine lv_dload hx hb dX1_slopeAt_71 (lv_at hl 2 rfl) ?_
    refine lv_dload hx hb dX1_slopeAt_73 (lv_at hl 3 rfl) ?_
    refine lv_dsub hx hb dX1_slopeAt_75 (bd_n (bd_sub (Ka := 1041) (Kb := 1041) (K := 1043) (vpin_bd (up_in sf p1 hrn hr20 c_19) (by decide) hn) (vpin_bd (upm1_in2 sf p1 hrn hr20 c_10) (by decide) hn) (by decide) (by decide) (by decide) (by decide)) (by decide)) ?_
    refine lv_dload_n hx hb dX1_slopeAt_76 rfl (lv_at hl 6 rfl) ?_
    refine lv_dload hx hb dX1_slopeAt_77 (lv_at hl 1 rfl) ?_
    refine lv_dsub hx hb dX1_slopeAt_79 (bd_n (bd_sub (Ka := 1041) (Kb := 1041) (K := 1043) hp (vpin_bd (upm1_in2 sf p1 hrn hr20 c_10) (by decide) hs) (by decide) (by decide) (by decide) (by decide)) (by decide)) ?_
    refine lv_dload hx hb dX1_slopeAt_80 (lv_at hl 0 rfl) ?_
    refine lv_dload hx hb dX1_slopeAt_82 (lv_at hl 1 rfl) ?_
    refine lv_dsub hx hb dX1_slopeAt_84 (bd_n (bd_sub (Ka := 1041) (Kb := 1041) (K := 1043) (vpin_bd (up_in sf p1 hrn hr20 c_19) (by decide) hs) (vpin_bd (upm1_in2 sf p1 hrn hr20 c_10) (by decide) hs) (by decide) (by decide) (by decide) (by decide)) (by decide)) ?_
    have hPc : va_P D vwCl [] H := hP.sub [] rfl
    have hDc : va_D A [] := hD.sub [] (by decide) rfl
    refine kdE (ws' := (wT cyD cyI cyJ cyZ at_ a1 a2 rn sf nf)) (wc := []) (wr := [(at_, .inr (1, [.ref a1, .ref a2, .int rn])), (a1, .inl (cyD, 20, .inr (.inr (.inr (.inl sf))))), (a2, .inl (cyD, 20, .inr (.inr (.inr (.inl nf)))))]) (w1 := []) (va_runSN (As := [.double (FP.dsub p1 (sf ((fX1_rowsUpTo rn sf p1) - (1 : Int32)).toNatClampNeg)), .double (FP.dsub (sf (fX1_rowsUpTo rn sf p1).toNatClampNeg) (sf ((fX1_rowsUpTo rn sf p1) - (1 : Int32)).toNatClampNeg))]) (rest := [.double (FP.dsub (nf (fX1_rowsUpTo rn sf p1).toNatClampNeg) (nf ((fX1_rowsUpTo rn sf p1) - (1 : Int32)).toNatClampNeg)), .double (nf ((fX1_rowsUpTo rn sf p1) - (1 : Int32)).toNatClampNeg)]) ⟨hx, hb, hml, hown, hts⟩ (c_X3_over (l := l) (D := D) (cyD := cyD) (cyI := cyI) (cyJ := cyJ) (cyZ := cyZ) H.size (FP.dsub p1 (sf ((fX1_rowsUpTo rn sf p1) - (1 : Int32)).toNatClampNeg)) (FP.dsub (sf (fX1_rowsUpTo rn sf p1).toNatClampNeg) (sf ((fX1_rowsUpTo rn sf p1) - (1 : Int32)).toNatClampNeg)) (fun _ => (ho c_10 c_19).1)) ⟨va_cnB 2 hts gX1_slopeAt_X3_over_n36 rfl rfl rfl hN.2.2.2.2.2.2.2 (hts (.initialized RX3) (List.mem_of_getElem? (i := 18) rfl)) (by decide +kernel) ⟨Nat.le_of_ble_eq_true rfl, Nat.le_of_ble_eq_true rfl⟩, (hts (.static yX3_over) (List.mem_of_getElem? (i := 17) rfl)), trivial⟩ (kS hN hK hPc hDc) rfl rfl hl.1 rfl (lv_room (Nat.le_of_ble_eq_true rfl)) dX1_slopeAt_85 ⟨Nat.le_of_ble_eq_true rfl, Nat.le_of_ble_eq_true rfl⟩) hP hD hS hA [] [0, 1, 2] [0, 1, 2] rfl rfl (by decide) (by decide) rfl (by decide) (fun H locs hP hD hS => ?_)
    refine lv_dmul hx hb dX1_slopeAt_88 (bd_n (bd_mul (Ka := 1043) (Kb := 1100) (K := 1121) (bd_sub (Ka := 1041) (Kb := 1041) (K := 1043) (vpin_bd (up_in sf p1 hrn hr20 c_19) (by decide) hn) (vpin_bd (upm1_in2 sf p1 hrn hr20 c_10) (by decide) hn) (by decide) (by decide) (by decide) (by decide)) (ho c_10 c_19).2 (by decide) (by decide) (by decide)) (by decide)) ?_
    refine lv_dadd hx hb dX1_slopeAt_89 (bd_n (bd_add (Ka := 1041) (Kb := 1121) (K := 1123) (vpin_bd (upm1_in2 sf p1 hrn hr20 c_10) (by decide) hn) (bd_mul (Ka := 1043) (Kb := 1100) (K := 1121) (bd_sub (Ka := 1041) (Kb := 1041) (K := 1043) (vpin_bd (up_in sf p1 hrn hr20 c_19) (by decide) hn) (vpin_bd (upm1_in2 sf p1 hrn hr20 c_10) (by decide) hn) (by decide) (by decide) (by decide) (by decide)) (ho c_10 c_19).2 (by decide) (by decide) (by decide)) (by decide) (by decide) (by decide) (by decide)) (by decide)) ?_
    have hF9 : (fX1_slopeAt rn sf nf p1 p2) = (FP.dadd (nf ((fX1_rowsUpTo rn sf p1) - (1 : Int32)).toNatClampNeg) (FP.dmul (FP.dsub (nf (fX1_rowsUpTo rn sf p1).toNatClampNeg) (nf ((fX1_rowsUpTo rn sf p1) - (1 : Int32)).toNatClampNeg)) (fX3_over (FP.dsub p1 (sf ((fX1_rowsUpTo rn sf p1) - (1 : Int32)).toNatClampNeg)) (FP.dsub (sf (fX1_rowsUpTo rn sf p1).toNatClampNeg) (sf ((fX1_rowsUpTo rn sf p1) - (1 : Int32)).toNatClampNeg))))) := by rw [fX1_slopeAt, if_neg c_10, if_pos c_19]
    have hP9 : va_P D vwCl (wT cyD cyI cyJ cyZ at_ a1 a2 rn sf nf) H := hP
    have hD9 : va_D A (wT cyD cyI cyJ cyZ at_ a1 a2 rn sf nf) := hD
    exact W.dret (v := (FP.dadd (nf ((fX1_rowsUpTo rn sf p1) - (1 : Int32)).toNatClampNeg) (FP.dmul (FP.dsub (nf (fX1_rowsUpTo rn sf p1).toNatClampNeg) (nf ((fX1_rowsUpTo rn sf p1) - (1 : Int32)).toNatClampNeg)) (fX3_over (FP.dsub p1 (sf ((fX1_rowsUpTo rn sf p1) - (1 : Int32)).toNatClampNeg)) (FP.dsub (sf (fX1_rowsUpTo rn sf p1).toNatClampNeg) (sf ((fX1_rowsUpTo rn sf p1) - (1 : Int32)).toNatClampNeg)))))) hx hb hr (fun t ht hW => ⟨⟨(FP.dadd (nf ((fX1_rowsUpTo rn sf p1) - (1 : Int32)).toNatClampNeg) (FP.dmul (FP.dsub (nf (fX1_rowsUpTo rn sf p1).toNatClampNeg) (nf ((fX1_rowsUpTo rn sf p1) - (1 : Int32)).toNatClampNeg)) (fX3_over (FP.dsub p1 (sf ((fX1_rowsUpTo rn sf p1) - (1 : Int32)).toNatClampNeg)) (FP.dsub (sf (fX1_rowsUpTo rn sf p1).toNatClampNeg) (sf ((fX1_rowsUpTo rn sf p1) - (1 : Int32)).toNatClampNeg))))), (), rfl, (by rw [hF9]), by rw [ht]; exact hP9, va_K.moved hW.alike hK, hD9⟩, hS.F ht⟩) hS.2.2 dX1_slopeAt_90
  refine lv_aload_n hx hb dX1_slopeAt_22 rfl (lv_at hl 1 rfl) ?_
  refine lv_dload_n hx hb dX1_slopeAt_23 rfl (lv_at hl 2 rfl) ?_
  refine lv_dload_n hx hb dX1_slopeAt_24 rfl (lv_at hl 3 rfl) ?_
  have hPc : va_P D vwCl (wT cyD cyI cyJ cyZ at_ a1 a2 rn sf nf) H := hP.sub [0, 1, 2] rfl
  have hDc : va_D A (wT cyD cyI cyJ cyZ at_ a1 a2 rn sf nf) := hD.sub [0, 1, 2] (by decide) rfl
  refine kdE (ws' := (wT cyD cyI cyJ cyZ at_ a1 a2 rn sf nf)) (wc := (wT cyD cyI cyJ cyZ at_ a1 a2 rn sf nf)) (wr := []) (w1 := (wT cyD cyI cyJ cyZ at_ a1 a2 rn sf nf)) (va_runV (As := [.double p1, .double p2]) (rest := []) ⟨hx, hb, hml, hown, hts⟩ (c_X1_stepAt (l := l) (D := D) (cyD := cyD) (cyI := cyI) (cyJ := cyJ) (cyZ := cyZ) at_ a1 a2 rn sf nf H.size p1 p2 r hrn hr20) (cwV 2 hts gX1_slopeAt_X1_stepAt rfl rfl rfl (by decide +kernel) ⟨Nat.le_of_ble_eq_true rfl, Nat.le_of_ble_eq_true rfl⟩) (kV (ci := 1) (q0 := 0) (q := (RX1, TX1, 3)) hN hK hPc hDc rfl rfl rfl) rfl rfl hl.1 rfl (lv_room (Nat.le_of_ble_eq_true rfl)) dX1_slopeAt_25 ⟨Nat.le_of_ble_eq_true rfl, Nat.le_of_ble_eq_true rfl⟩) hP hD hS hA [0, 1, 2] [] [0, 1, 2] rfl rfl (by decide) (by decide) rfl (by decide) (fun H locs hP hD hS => ?_)
  have hF9 : (fX1_slopeAt rn sf nf p1 p2) = (fX1_stepAt rn sf nf p1 p2) := by rw [fX1_slopeAt, if_neg c_10, if_neg c_19]
  have hP9 : va_P D vwCl (wT cyD cyI cyJ cyZ at_ a1 a2 rn sf nf) H := hP
  have hD9 : va_D A (wT cyD cyI cyJ cyZ at_ a1 a2 rn sf nf) := hD
  exact W.dret (v := (fX1_stepAt rn sf nf p1 p2)) hx hb hr (fun t ht hW => ⟨⟨(fX1_stepAt rn sf nf p1 p2), (), rfl, (by rw [hF9]), by rw [ht]; exact hP9, va_K.moved hW.alike hK, hD9⟩, hS.F ht⟩) hS.2.2 dX1_slopeAt_28
theorem up_ge0 {rn : Int32} (sf : Nat → UInt64) (w : UInt64) {r : Nat} (hrn : rn = nI r) (hr : r ≤ 20) : nI 0 ≤ fX1_rowsUpTo rn sf w := by
  obtain ⟨q, hq, e⟩ := upTo_nI sf w hrn hr
  rw [e]; exact nI_le (by omega) (by omega)
def fX1_put_L55 (rn : Int32) (sf : Nat → UInt64) (nf : Nat → UInt64)  (p1 : UInt64) (p2 : UInt64) : Nat → (Int32) → (Nat → UInt64) → (Nat → UInt64) → Int32 × Int32 × (Nat → UInt64) × (Nat → UInt64)
  | 0, v_i, v_fs, v_fn => (0, rn, v_fs, v_fn)
  | k + 1, v_i, v_fs, v_fn => if v_i ≤ (fX1_rowsUpTo rn sf p1) then ((1 : Int32), (rn + (1 : Int32)), (vf_upd (v_fs) (fX1_rowsUpTo rn sf p1).toNatClampNeg p1), (vf_upd (v_fn) (fX1_rowsUpTo rn sf p1).toNatClampNeg p2)) else ((fX1_put_L55 rn sf nf p1 p2 k ((v_i) + (-1)) (vf_upd (v_fs) (v_i).toNatClampNeg ((v_fs) (v_i - (1 : Int32)).toNatClampNeg)) (vf_upd (v_fn) (v_i).toNatClampNeg ((v_fn) (v_i - (1 : Int32)).toNatClampNeg))))
def fX1_put (rn : Int32) (sf : Nat → UInt64) (nf : Nat → UInt64) (p1 : UInt64) (p2 : UInt64) : Int32 × Int32 × (Nat → UInt64) × (Nat → UInt64) := if (fX1_rowsUpTo rn sf p1) ≤ 0 then (if rn < (20 : Int32) then (fX1_put_L55 rn sf nf p1 p2 21 rn sf nf) else (((0 : Int32), rn, sf, nf))) else (if (Op.cmpValue (FP.dcmp (sf ((fX1_rowsUpTo rn sf p1) - (1 : Int32)).toNatClampNeg) p1) CmpOp.l) = 0 then ((1 : Int32), rn, sf, (vf_upd nf ((fX1_rowsUpTo rn sf p1) - (1 : Int32)).toNatClampNeg p2)) else (if rn < (20 : Int32) then (fX1_put_L55 rn sf nf p1 p2 21 rn sf nf) else (((0 : Int32), rn, sf, nf))))
set_option maxHeartbeats 4000000 in
set_option maxRecDepth 100000 in
theorem c_X1_put {l : Launch} {D : va_G} {cyD cyI cyJ cyZ : ClassId} (at_ a1 a2 : Nat) (rn : Int32) (sf : Nat → UInt64) (nf : Nat → UInt64) (sz : Nat) (p1 : UInt64) (p2 : UInt64) (r : Nat) (hrn : rn = nI r) (hr20 : r ≤ 20) : mZ l yX1_put wsX1_put ({ frames := 1, cells := 0, slots := 0, locals := 23 } : Room) D (kT cyD cyI cyJ cyZ) [.ref at_, .double p1, .double p2] (wT cyD cyI cyJ cyZ at_ a1 a2 rn sf nf) (wT cyD cyI cyJ cyZ at_ a1 a2 ((fX1_put rn sf nf p1 p2).2.1) ((fX1_put rn sf nf p1 p2).2.2.1) ((fX1_put rn sf nf p1 p2).2.2.2)) sz ((fX1_put rn sf nf p1 p2).1) 0 0 := by
  refine Met.ofW (cc := cX1_put) (maxL := 7) (ret := (some .boolean)) (by decide) rfl ?_
  intro p e s m args below meth c s₁ B hml hv
  obtain ⟨rfl, hN, hsz, hP, hK, hD0⟩ := hv
  have hx := B.exec
  have hb := B.bytes
  have hr := B.returns
  have hts := atoms_spec (ws := wsX1_put) B.pre
  have hown : s.vm.findClass RX1 = some m.cls := findClass_of_methodNamed B.named
  have hlocks := B.notSynchronized
  subst hsz
  have hD := hD0.self (sz := s.heap.size)
  generalize hAe : va_A (wT cyD cyI cyJ cyZ at_ a1 a2 rn sf nf) s.heap.size = A at hD ⊢
  have hA : ∀ q : Nat, s.heap.size ≤ q → A q := fun q h => by rw [← hAe]; exact Or.inr h
  have hS : va_S A s.heap s.heap [] := va_S.rf
  have hP : va_P D vwCl (wT cyD cyI cyJ cyZ at_ a1 a2 rn sf nf) s.heap := hP
  have hl := lv_entry [.ref at_, .double p1, .double p2] (n := 7) (Nat.le_of_ble_eq_true rfl)
  rw [lg_entry_eq]
  generalize (lg_sl [.ref at_, .double p1, .double p2] ++ List.replicate (7 - (lg_sl [.ref at_, .double p1, .double p2]).length) Slot.unset).toArray = ls at hl ⊢
  have hl : lv_has ls 7 [(0, .ref at_), (1, .double p1), (3, .double p2)] := hl
  obtain ⟨H, hHe⟩ : ∃ H : Heap, H = s.heap := ⟨_, rfl⟩
  have hP : va_P D vwCl (wT cyD cyI cyJ cyZ at_ a1 a2 rn sf nf) H := by rw [hHe]; exact hP
  have hS : va_S A s.heap H [] := by rw [hHe]; exact hS
  rw [← hHe]
  refine lv_aload_n hx hb dX1_put_0 rfl (lv_at hl 0 rfl) ?_
  refine lv_dload_n hx hb dX1_put_1 rfl (lv_at hl 1 rfl) ?_
  have hPc : va_P D vwCl (wT cyD cyI cyJ cyZ at_ a1 a2 rn sf nf) H := hP.sub [0, 1, 2] rfl
  have hDc : va_D A (wT cyD cyI cyJ cyZ at_ a1 a2 rn sf nf) := hD.sub [0, 1, 2] (by decide) rfl
  refine kiE (ws' := (wT cyD cyI cyJ cyZ at_ a1 a2 rn sf nf)) (wc := (wT cyD cyI cyJ cyZ at_ a1 a2 rn sf nf)) (wr := []) (w1 := (wT cyD cyI cyJ cyZ at_ a1 a2 rn sf nf)) (va_runV (As := [.double p1]) (rest := []) ⟨hx, hb, hml, hown, hts⟩ (c_X1_rowsUpTo (l := l) (D := D) (cyD := cyD) (cyI := cyI) (cyJ := cyJ) (cyZ := cyZ) at_ a1 a2 rn sf nf H.size p1 r hrn hr20) (cwV 1 hts gX1_put_X1_rowsUpTo rfl rfl rfl (by decide +kernel) ⟨Nat.le_of_ble_eq_true rfl, Nat.le_of_ble_eq_true rfl⟩) (kV (ci := 1) (q0 := 0) (q := (RX1, TX1, 3)) hN hK hPc hDc rfl rfl rfl) rfl rfl hl.1 rfl (lv_room (Nat.le_of_ble_eq_true rfl)) dX1_put_2 ⟨Nat.le_of_ble_eq_true rfl, Nat.le_of_ble_eq_true rfl⟩) hP hD hS hA [0, 1, 2] [] [0, 1, 2] rfl rfl (by decide) (by decide) rfl (by decide) (fun H locs hP hD hS => ?_)
  refine lv_istore (lv' := [(5, .int (fX1_rowsUpTo rn sf p1)), (0, .ref at_), (1, .double p1), (3, .double p2)]) hx hb dX1_put_5 hl (by decide) rfl (fun ls hl => ?_)
  refine lv_iload hx hb dX1_put_7 (lv_at hl 0 rfl) ?_
  refine lv_if_le (tgt := 38) hx hb dX1_put_9 (by decide) (fun c_9 => ?_) (fun c_9 => ?_)
  · refine lv_aload_n hx hb dX1_put_38 rfl (lv_at hl 1 rfl) ?_
    refine va_get (D := D) (ci := 1) (v := .int rn) (C := RX1) (T := TX1) (N := 3) hx hb hts (fun _ h => (List.mem_cons_of_mem _ (List.mem_append_right _ h))) hown hK hP 0 rfl rfl 2 (by decide) (hts (.fieldLink RX1 18 "BottomWalks$Table" "rows" "I") (List.mem_of_getElem? (i := 3) rfl)) (fun _ h9 => h9) rfl dX1_put_39 ?_
    refine lv_bipush (v := 20) hx hb dX1_put_42 (by decide) ?_
    refine lv_icmp_lt (tgt := 49) hx hb dX1_put_44 (by decide) (fun c_44 => ?_) (fun c_44 => ?_)
    · refine lv_aload_n hx hb dX1_put_49 rfl (lv_at hl 1 rfl) ?_
      refine va_get (D := D) (ci := 1) (v := .int rn) (C := RX1) (T := TX1) (N := 3) hx hb hts (fun _ h => (List.mem_cons_of_mem _ (List.mem_append_right _ h))) hown hK hP 0 rfl rfl 2 (by decide) (hts (.fieldLink RX1 18 "BottomWalks$Table" "rows" "I") (List.mem_of_getElem? (i := 3) rfl)) (fun _ h9 => h9) rfl dX1_put_50 ?_
      refine lv_istore (lv' := [(6, .int rn), (5, .int (fX1_rowsUpTo rn sf p1)), (0, .ref at_), (1, .double p1), (3, .double p2)]) hx hb dX1_put_53 hl (by decide) rfl (fun ls hl => ?_)
      have loop_55 : ∀ (k : Nat) (i : Nat) (fs fn : Nat → UInt64) (H : Heap) (locs : List Loc), (i < k) → (i < 20) → (fX1_put rn sf nf p1 p2) = fX1_put_L55 rn sf nf p1 p2 k ((nI i)) (fs) (fn) → va_P D vwCl (wT cyD cyI cyJ cyZ at_ a1 a2 rn (fs) (fn)) H → va_D A (wT cyD cyI cyJ cyZ at_ a1 a2 rn (fs) (fn)) → va_S A s.heap H locs → ∀ ls, lv_has ls 7 [(6, .int ((nI i))), (5, .int (fX1_rowsUpTo rn sf p1)), (0, .ref at_), (1, .double p1), (3, .double p2)] → W p l e (headSpec wsX1_put ({ frames := 1, cells := 0, slots := 0, locals := 23 } : Room)).room s m ([.ref at_, .double p1, .double p2] : List Value).toArray below meth c H locs 0 0 (MQ below (va_Qi (fun (r : Int32) (_ : Unit) => r = (fX1_put rn sf nf p1 p2).1 ∧ (r = 0 ∨ r = 1)) (kE D (kT cyD cyI cyJ cyZ) (wT cyD cyI cyJ cyZ at_ a1 a2 ((fX1_put rn sf nf p1 p2).2.1) ((fX1_put rn sf nf p1 p2).2.2.1) ((fX1_put rn sf nf p1 p2).2.2.2)) A) A) ([.ref at_, .double p1, .double p2] : List Value).toArray s 0 0 A) (F0 m 55 ls []) := by
        intro k_55
        induction k_55 with
        | zero => intro i fs fn H locs hi hi2 hF hP hD hS ls hl; exact absurd hi (by omega)
        | succ k_55 ih_55 =>
          intro i fs fn H locs hi hi2 hF hP hD hS ls hl
          have hiu := up_in2 sf p1 hrn hr20 c_44
          refine lv_iload hx hb dX1_put_55 (lv_at hl 0 rfl) ?_
          refine lv_iload hx hb dX1_put_57 (lv_at hl 1 rfl) ?_
          refine lv_icmp_le (tgt := 100) hx hb dX1_put_59 (by decide) (fun c_59 => ?_) (fun c_59 => ?_)
          · refine lv_aload_n hx hb dX1_put_100 rfl (lv_at hl 2 rfl) ?_
            refine va_get (D := D) (ci := 1) (v := .ref a1) (C := RX1) (T := TX1) (N := 3) hx hb hts (fun _ h => (List.mem_cons_of_mem _ (List.mem_append_right _ h))) hown hK hP 0 rfl rfl 0 (by decide) (hts (.fieldLink RX1 9 "BottomWalks$Table" "starts" "[D") (List.mem_of_getElem? (i := 1) rfl)) (fun _ h9 => h9) rfl dX1_put_101 ?_
            refine lv_iload hx hb dX1_put_104 (lv_at hl 1 rfl) ?_
            refine lv_dload_n hx hb dX1_put_106 rfl (lv_at hl 3 rfl) ?_
            refine va_dast hx hb hK hP hD hS 1 0 rfl rfl hiu dX1_put_107 (fun H locs hP hD hS => ?_)
            have hP : va_P D vwCl (wT cyD cyI cyJ cyZ at_ a1 a2 rn (vf_upd (fs) (fX1_rowsUpTo rn sf p1).toNatClampNeg p1) (fn)) H := hP
            have hD : va_D A (wT cyD cyI cyJ cyZ at_ a1 a2 rn (vf_upd (fs) (fX1_rowsUpTo rn sf p1).toNatClampNeg p1) (fn)) := hD
            refine lv_aload_n hx hb dX1_put_108 rfl (lv_at hl 2 rfl) ?_
            refine va_get (D := D) (ci := 1) (v := .ref a2) (C := RX1) (T := TX1) (N := 3) hx hb hts (fun _ h => (List.mem_cons_of_mem _ (List.mem_append_right _ h))) hown hK hP 0 rfl rfl 1 (by decide) (hts (.fieldLink RX1 15 "BottomWalks$Table" "numbers" "[D") (List.mem_of_getElem? (i := 2) rfl)) (fun _ h9 => h9) rfl dX1_put_109 ?_
            refine lv_iload hx hb dX1_put_112 (lv_at hl 1 rfl) ?_
            refine lv_dload_n hx hb dX1_put_114 rfl (lv_at hl 4 rfl) ?_
            refine va_dast hx hb hK hP hD hS 2 0 rfl rfl hiu dX1_put_115 (fun H locs hP hD hS => ?_)
            have hP : va_P D vwCl (wT cyD cyI cyJ cyZ at_ a1 a2 rn (vf_upd (fs) (fX1_rowsUpTo rn sf p1).toNatClampNeg p1) (vf_upd (fn) (fX1_rowsUpTo rn sf p1).toNatClampNeg p2)) H := hP
            have hD : va_D A (wT cyD cyI cyJ cyZ at_ a1 a2 rn (vf_upd (fs) (fX1_rowsUpTo rn sf p1).toNatClampNeg p1) (vf_upd (fn) (fX1_rowsUpTo rn sf p1).toNatClampNeg p2)) := hD
            refine lv_aload_n hx hb dX1_put_116 rfl (lv_at hl 2 rfl) ?_
            refine lv_dup hx hb dX1_put_117 rfl ?_
            refine va_get (D := D) (ci := 1) (v := .int rn) (C := RX1) (T := TX1) (N := 3) hx hb hts (fun _ h => (List.mem_cons_of_mem _ (List.mem_append_right _ h))) hown hK hP 0 rfl rfl 2 (by decide) (hts (.fieldLink RX1 18 "BottomWalks$Table" "rows" "I") (List.mem_of_getElem? (i := 3) rfl)) (fun _ h9 => h9) rfl dX1_put_118 ?_
            refine lv_iconst (v := 1) hx hb dX1_put_121 (by decide) ?_
            refine lv_iadd hx hb dX1_put_122 ?_
            refine va_put (D := D) (ci := 1) (v := .int (rn + (1 : Int32))) (ty := .int) (C := RX1) (T := TX1) (N := 3) hx hb hts (fun _ h => (List.mem_cons_of_mem _ (List.mem_append_right _ h))) tyX1 tyX1_ok nmX1 hown hK hP hD hS 0 rfl rfl 2 (by decide) (hts (.fieldLink RX1 18 "BottomWalks$Table" "rows" "I") (List.mem_of_getElem? (i := 3) rfl)) (fun _ h9 => h9) rfl (by decide +kernel) rfl rfl (Nat.le_of_ble_eq_true rfl) dX1_put_123 (fun H locs hP hD hS => ?_)
            have hP : va_P D vwCl (wT cyD cyI cyJ cyZ at_ a1 a2 (rn + (1 : Int32)) (vf_upd (fs) (fX1_rowsUpTo rn sf p1).toNatClampNeg p1) (vf_upd (fn) (fX1_rowsUpTo rn sf p1).toNatClampNeg p2)) H := hP
            have hD : va_D A (wT cyD cyI cyJ cyZ at_ a1 a2 (rn + (1 : Int32)) (vf_upd (fs) (fX1_rowsUpTo rn sf p1).toNatClampNeg p1) (vf_upd (fn) (fX1_rowsUpTo rn sf p1).toNatClampNeg p2)) := hD
            refine lv_iconst (v := 1) hx hb dX1_put_126 (by decide) ?_
            have hF9 : (fX1_put rn sf nf p1 p2) = ((1 : Int32), (rn + (1 : Int32)), (vf_upd (fs) (fX1_rowsUpTo rn sf p1).toNatClampNeg p1), (vf_upd (fn) (fX1_rowsUpTo rn sf p1).toNatClampNeg p2)) := by rw [hF, fX1_put_L55, if_pos c_59]
            have hP9 : va_P D vwCl (wT cyD cyI cyJ cyZ at_ a1 a2 ((fX1_put rn sf nf p1 p2).2.1) ((fX1_put rn sf nf p1 p2).2.2.1) ((fX1_put rn sf nf p1 p2).2.2.2)) H := by rw [hF9]; exact hP
            have hD9 : va_D A (wT cyD cyI cyJ cyZ at_ a1 a2 ((fX1_put rn sf nf p1 p2).2.1) ((fX1_put rn sf nf p1 p2).2.2.1) ((fX1_put rn sf nf p1 p2).2.2.2)) := by rw [hF9]; exact hD
            exact W.zret (v := (1 : Int32)) hx hb hr (nar_z (Or.inr rfl)) (fun t ht hW => ⟨⟨(1 : Int32), (), rfl, ⟨(by rw [hF9]), (Or.inr rfl)⟩, by rw [ht]; exact hP9, va_K.moved hW.alike hK, hD9⟩, hS.F ht⟩) hS.2.2 dX1_put_127
          refine lv_aload_n hx hb dX1_put_62 rfl (lv_at hl 2 rfl) ?_
          refine va_get (D := D) (ci := 1) (v := .ref a1) (C := RX1) (T := TX1) (N := 3) hx hb hts (fun _ h => (List.mem_cons_of_mem _ (List.mem_append_right _ h))) hown hK hP 0 rfl rfl 0 (by decide) (hts (.fieldLink RX1 9 "BottomWalks$Table" "starts" "[D") (List.mem_of_getElem? (i := 1) rfl)) (fun _ h9 => h9) rfl dX1_put_63 ?_
          refine lv_iload hx hb dX1_put_66 (lv_at hl 0 rfl) ?_
          refine lv_aload_n hx hb dX1_put_68 rfl (lv_at hl 2 rfl) ?_
          refine va_get (D := D) (ci := 1) (v := .ref a1) (C := RX1) (T := TX1) (N := 3) hx hb hts (fun _ h => (List.mem_cons_of_mem _ (List.mem_append_right _ h))) hown hK hP 0 rfl rfl 0 (by decide) (hts (.fieldLink RX1 9 "BottomWalks$Table" "starts" "[D") (List.mem_of_getElem? (i := 1) rfl)) (fun _ h9 => h9) rfl dX1_put_69 ?_
          refine lv_iload hx hb dX1_put_72 (lv_at hl 0 rfl) ?_
          refine lv_iconst (v := 1) hx hb dX1_put_74 (by decide) ?_
          refine lv_isub hx hb dX1_put_75 ?_
          refine va_dald hx hb hK hP 1 0 rfl rfl (by have h0 : i ≠ 0 := fun z => c_59 (by rw [z]; exact up_ge0 sf p1 hrn hr20); rw [nI_sub1 (by omega)]; exact vp_in_nI (by omega) (by decide)) dX1_put_76 ?_
          refine va_dast hx hb hK hP hD hS 1 0 rfl rfl (vp_in_nI (by omega) (by decide)) dX1_put_77 (fun H locs hP hD hS => ?_)
          have hP : va_P D vwCl (wT cyD cyI cyJ cyZ at_ a1 a2 rn (vf_upd (fs) ((nI i)).toNatClampNeg ((fs) ((nI i) - (1 : Int32)).toNatClampNeg)) (fn)) H := hP
          have hD : va_D A (wT cyD cyI cyJ cyZ at_ a1 a2 rn (vf_upd (fs) ((nI i)).toNatClampNeg ((fs) ((nI i) - (1 : Int32)).toNatClampNeg)) (fn)) := hD
          refine lv_aload_n hx hb dX1_put_78 rfl (lv_at hl 2 rfl) ?_
          refine va_get (D := D) (ci := 1) (v := .ref a2) (C := RX1) (T := TX1) (N := 3) hx hb hts (fun _ h => (List.mem_cons_of_mem _ (List.mem_append_right _ h))) hown hK hP 0 rfl rfl 1 (by decide) (hts (.fieldLink RX1 15 "BottomWalks$Table" "numbers" "[D") (List.mem_of_getElem? (i := 2) rfl)) (fun _ h9 => h9) rfl dX1_put_79 ?_
          refine lv_iload hx hb dX1_put_82 (lv_at hl 0 rfl) ?_
          refine lv_aload_n hx hb dX1_put_84 rfl (lv_at hl 2 rfl) ?_
          refine va_get (D := D) (ci := 1) (v := .ref a2) (C := RX1) (T := TX1) (N := 3) hx hb hts (fun _ h => (List.mem_cons_of_mem _ (List.mem_append_right _ h))) hown hK hP 0 rfl rfl 1 (by decide) (hts (.fieldLink RX1 15 "BottomWalks$Table" "numbers" "[D") (List.mem_of_getElem? (i := 2) rfl)) (fun _ h9 => h9) rfl dX1_put_85 ?_
          refine lv_iload hx hb dX1_put_88 (lv_at hl 0 rfl) ?_
          refine lv_iconst (v := 1) hx hb dX1_put_90 (by decide) ?_
          refine lv_isub hx hb dX1_put_91 ?_
          refine va_dald hx hb hK hP 2 0 rfl rfl (by have h0 : i ≠ 0 := fun z => c_59 (by rw [z]; exact up_ge0 sf p1 hrn hr20); rw [nI_sub1 (by omega)]; exact vp_in_nI (by omega) (by decide)) dX1_put_92 ?_
          refine va_dast hx hb hK hP hD hS 2 0 rfl rfl (vp_in_nI (by omega) (by decide)) dX1_put_93 (fun H locs hP hD hS => ?_)
          have hP : va_P D vwCl (wT cyD cyI cyJ cyZ at_ a1 a2 rn (vf_upd (fs) ((nI i)).toNatClampNeg ((fs) ((nI i) - (1 : Int32)).toNatClampNeg)) (vf_upd (fn) ((nI i)).toNatClampNeg ((fn) ((nI i) - (1 : Int32)).toNatClampNeg))) H := hP
          have hD : va_D A (wT cyD cyI cyJ cyZ at_ a1 a2 rn (vf_upd (fs) ((nI i)).toNatClampNeg ((fs) ((nI i) - (1 : Int32)).toNatClampNeg)) (vf_upd (fn) ((nI i)).toNatClampNeg ((fn) ((nI i) - (1 : Int32)).toNatClampNeg))) := hD
          refine lv_iinc (v := (((nI i)) + (-1))) (lv' := [(6, .int (((nI i)) + (-1))), (5, .int (fX1_rowsUpTo rn sf p1)), (0, .ref at_), (1, .double p1), (3, .double p2)]) hx hb dX1_put_94 hl (k := 0) rfl rfl (by decide) rfl (fun ls hl => ?_)
          refine lv_goto (tgt := 55) hx hb dX1_put_97 (by decide) ?_
          exact ih_55 (i - 1) (vf_upd (fs) ((nI i)).toNatClampNeg ((fs) ((nI i) - (1 : Int32)).toNatClampNeg)) (vf_upd (fn) ((nI i)).toNatClampNeg ((fn) ((nI i) - (1 : Int32)).toNatClampNeg)) _ _ (by have h0 : i ≠ 0 := (fun z => c_59 (by rw [z]; exact up_ge0 sf p1 hrn hr20)); omega) (by omega) (by have h0 : i ≠ 0 := (fun z => c_59 (by rw [z]; exact up_ge0 sf p1 hrn hr20)); rw [← pk_m1 (i - 1), show i - 1 + 1 = i from (by omega)]; rw [hF, fX1_put_L55, if_neg c_59]) hP hD hS _ (by have h0 : i ≠ 0 := (fun z => c_59 (by rw [z]; exact up_ge0 sf p1 hrn hr20)); rw [← pk_m1 (i - 1), show i - 1 + 1 = i from (by omega)]; exact lv_sub hl [0, 1, 2, 3, 4] rfl)
      exact loop_55 21 r sf nf _ _ (by omega) (by rw [hrn] at c_44; exact (nI_ltI (b := 20) (by omega) (by omega)).mp c_44) (by rw [← hrn]; rw [fX1_put, if_pos c_9, if_pos c_44]) hP hD hS _ (by rw [← hrn]; exact lv_sub hl [0, 1, 2, 3, 4] rfl)
    refine lv_iconst (v := 0) hx hb dX1_put_47 (by decide) ?_
    have hF9 : (fX1_put rn sf nf p1 p2) = ((0 : Int32), rn, sf, nf) := by rw [fX1_put, if_pos c_9, if_neg c_44]
    have hP9 : va_P D vwCl (wT cyD cyI cyJ cyZ at_ a1 a2 ((fX1_put rn sf nf p1 p2).2.1) ((fX1_put rn sf nf p1 p2).2.2.1) ((fX1_put rn sf nf p1 p2).2.2.2)) H := by rw [hF9]; exact hP
    have hD9 : va_D A (wT cyD cyI cyJ cyZ at_ a1 a2 ((fX1_put rn sf nf p1 p2).2.1) ((fX1_put rn sf nf p1 p2).2.2.1) ((fX1_put rn sf nf p1 p2).2.2.2)) := by rw [hF9]; exact hD
    exact W.zret (v := (0 : Int32)) hx hb hr (nar_z (Or.inl rfl)) (fun t ht hW => ⟨⟨(0 : Int32), (), rfl, ⟨(by rw [hF9]), (Or.inl rfl)⟩, by rw [ht]; exact hP9, va_K.moved hW.alike hK, hD9⟩, hS.F ht⟩) hS.2.2 dX1_put_48
  refine lv_aload_n hx hb dX1_put_12 rfl (lv_at hl 1 rfl) ?_
  refine va_get (D := D) (ci := 1) (v := .ref a1) (C := RX1) (T := TX1) (N := 3) hx hb hts (fun _ h => (List.mem_cons_of_mem _ (List.mem_append_right _ h))) hown hK hP 0 rfl rfl 0 (by decide) (hts (.fieldLink RX1 9 "BottomWalks$Table" "starts" "[D") (List.mem_of_getElem? (i := 1) rfl)) (fun _ h9 => h9) rfl dX1_put_13 ?_
  refine lv_iload hx hb dX1_put_16 (lv_at hl 0 rfl) ?_
  refine lv_iconst (v := 1) hx hb dX1_put_18 (by decide) ?_
  refine lv_isub hx hb dX1_put_19 ?_
  refine va_dald hx hb hK hP 1 0 rfl rfl (upm1_in sf p1 hrn hr20 c_9) dX1_put_20 ?_
  refine lv_dload_n hx hb dX1_put_21 rfl (lv_at hl 2 rfl) ?_
  refine lv_dcmp hx hb dX1_put_22 ?_
  refine lv_if_ne (tgt := 38) hx hb dX1_put_23 (by decide) (fun c_23 => ?_) (fun c_23 => ?_)
  · refine lv_aload_n hx hb dX1_put_38 rfl (lv_at hl 1 rfl) ?_
    refine va_get (D := D) (ci := 1) (v := .int rn) (C := RX1) (T := TX1) (N := 3) hx hb hts (fun _ h => (List.mem_cons_of_mem _ (List.mem_append_right _ h))) hown hK hP 0 rfl rfl 2 (by decide) (hts (.fieldLink RX1 18 "BottomWalks$Table" "rows" "I") (List.mem_of_getElem? (i := 3) rfl)) (fun _ h9 => h9) rfl dX1_put_39 ?_
    refine lv_bipush (v := 20) hx hb dX1_put_42 (by decide) ?_
    refine lv_icmp_lt (tgt := 49) hx hb dX1_put_44 (by decide) (fun c_44 => ?_) (fun c_44 => ?_)
    · refine lv_aload_n hx hb dX1_put_49 rfl (lv_at hl 1 rfl) ?_
      refine va_get (D := D) (ci := 1) (v := .int rn) (C := RX1) (T := TX1) (N := 3) hx hb hts (fun _ h => (List.mem_cons_of_mem _ (List.mem_append_right _ h))) hown hK hP 0 rfl rfl 2 (by decide) (hts (.fieldLink RX1 18 "BottomWalks$Table" "rows" "I") (List.mem_of_getElem? (i := 3) rfl)) (fun _ h9 => h9) rfl dX1_put_50 ?_
      refine lv_istore (lv' := [(6, .int rn), (5, .int (fX1_rowsUpTo rn sf p1)), (0, .ref at_), (1, .double p1), (3, .double p2)]) hx hb dX1_put_53 hl (by decide) rfl (fun ls hl => ?_)
      have loop_55 : ∀ (k : Nat) (i : Nat) (fs fn : Nat → UInt64) (H : Heap) (locs : List Loc), (i < k) → (i < 20) → (fX1_put rn sf nf p1 p2) = fX1_put_L55 rn sf nf p1 p2 k ((nI i)) (fs) (fn) → va_P D vwCl (wT cyD cyI cyJ cyZ at_ a1 a2 rn (fs) (fn)) H → va_D A (wT cyD cyI cyJ cyZ at_ a1 a2 rn (fs) (fn)) → va_S A s.heap H locs → ∀ ls, lv_has ls 7 [(6, .int ((nI i))), (5, .int (fX1_rowsUpTo rn sf p1)), (0, .ref at_), (1, .double p1), (3, .double p2)] → W p l e (headSpec wsX1_put ({ frames := 1, cells := 0, slots := 0, locals := 23 } : Room)).room s m ([.ref at_, .double p1, .double p2] : List Value).toArray below meth c H locs 0 0 (MQ below (va_Qi (fun (r : Int32) (_ : Unit) => r = (fX1_put rn sf nf p1 p2).1 ∧ (r = 0 ∨ r = 1)) (kE D (kT cyD cyI cyJ cyZ) (wT cyD cyI cyJ cyZ at_ a1 a2 ((fX1_put rn sf nf p1 p2).2.1) ((fX1_put rn sf nf p1 p2).2.2.1) ((fX1_put rn sf nf p1 p2).2.2.2)) A) A) ([.ref at_, .double p1, .double p2] : List Value).toArray s 0 0 A) (F0 m 55 ls []) := by
        intro k_55
        induction k_55 with
        | zero => intro i fs fn H locs hi hi2 hF hP hD hS ls hl; exact absurd hi (by omega)
        | succ k_55 ih_55 =>
          intro i fs fn H locs hi hi2 hF hP hD hS ls hl
          have hiu := up_in2 sf p1 hrn hr20 c_44
          refine lv_iload hx hb dX1_put_55 (lv_at hl 0 rfl) ?_
          refine lv_iload hx hb dX1_put_57 (lv_at hl 1 rfl) ?_
          refine lv_icmp_le (tgt := 100) hx hb dX1_put_59 (by decide) (fun c_59 => ?_) (fun c_59 => ?_)
          · refine lv_aload_n hx hb dX1_put_100 rfl (lv_at hl 2 rfl) ?_
            refine va_get (D := D) (ci := 1) (v := .ref a1) (C := RX1) (T := TX1) (N := 3) hx hb hts (fun _ h => (List.mem_cons_of_mem _ (List.mem_append_right _ h))) hown hK hP 0 rfl rfl 0 (by decide) (hts (.fieldLink RX1 9 "BottomWalks$Table" "starts" "[D") (List.mem_of_getElem? (i := 1) rfl)) (fun _ h9 => h9) rfl dX1_put_101 ?_
            refine lv_iload hx hb dX1_put_104 (lv_at hl 1 rfl) ?_
            refine lv_dload_n hx hb dX1_put_106 rfl (lv_at hl 3 rfl) ?_
            refine va_dast hx hb hK hP hD hS 1 0 rfl rfl hiu dX1_put_107 (fun H locs hP hD hS => ?_)
            have hP : va_P D vwCl (wT cyD cyI cyJ cyZ at_ a1 a2 rn (vf_upd (fs) (fX1_rowsUpTo rn sf p1).toNatClampNeg p1) (fn)) H := hP
            have hD : va_D A (wT cyD cyI cyJ cyZ at_ a1 a2 rn (vf_upd (fs) (fX1_rowsUpTo rn sf p1).toNatClampNeg p1) (fn)) := hD
            refine lv_aload_n hx hb dX1_put_108 rfl (lv_at hl 2 rfl) ?_
            refine va_get (D := D) (ci := 1) (v := .ref a2) (C := RX1) (T := TX1) (N := 3) hx hb hts (fun _ h => (List.mem_cons_of_mem _ (List.mem_append_right _ h))) hown hK hP 0 rfl rfl 1 (by decide) (hts (.fieldLink RX1 15 "BottomWalks$Table" "numbers" "[D") (List.mem_of_getElem? (i := 2) rfl)) (fun _ h9 => h9) rfl dX1_put_109 ?_
            refine lv_iload hx hb dX1_put_112 (lv_at hl 1 rfl) ?_
            refine lv_dload_n hx hb dX1_put_114 rfl (lv_at hl 4 rfl) ?_
            refine va_dast hx hb hK hP hD hS 2 0 rfl rfl hiu dX1_put_115 (fun H locs hP hD hS => ?_)
            have hP : va_P D vwCl (wT cyD cyI cyJ cyZ at_ a1 a2 rn (vf_upd (fs) (fX1_rowsUpTo rn sf p1).toNatClampNeg p1) (vf_upd (fn) (fX1_rowsUpTo rn sf p1).toNatClampNeg p2)) H := hP
            have hD : va_D A (wT cyD cyI cyJ cyZ at_ a1 a2 rn (vf_upd (fs) (fX1_rowsUpTo rn sf p1).toNatClampNeg p1) (vf_upd (fn) (fX1_rowsUpTo rn sf p1).toNatClampNeg p2)) := hD
            refine lv_aload_n hx hb dX1_put_116 rfl (lv_at hl 2 rfl) ?_
            refine lv_dup hx hb dX1_put_117 rfl ?_
            refine va_get (D := D) (ci := 1) (v := .int rn) (C := RX1) (T := TX1) (N := 3) hx hb hts (fun _ h => (List.mem_cons_of_mem _ (List.mem_append_right _ h))) hown hK hP 0 rfl rfl 2 (by decide) (hts (.fieldLink RX1 18 "BottomWalks$Table" "rows" "I") (List.mem_of_getElem? (i := 3) rfl)) (fun _ h9 => h9) rfl dX1_put_118 ?_
            refine lv_iconst (v := 1) hx hb dX1_put_121 (by decide) ?_
            refine lv_iadd hx hb dX1_put_122 ?_
            refine va_put (D := D) (ci := 1) (v := .int (rn + (1 : Int32))) (ty := .int) (C := RX1) (T := TX1) (N := 3) hx hb hts (fun _ h => (List.mem_cons_of_mem _ (List.mem_append_right _ h))) tyX1 tyX1_ok nmX1 hown hK hP hD hS 0 rfl rfl 2 (by decide) (hts (.fieldLink RX1 18 "BottomWalks$Table" "rows" "I") (List.mem_of_getElem? (i := 3) rfl)) (fun _ h9 => h9) rfl (by decide +kernel) rfl rfl (Nat.le_of_ble_eq_true rfl) dX1_put_123 (fun H locs hP hD hS => ?_)
            have hP : va_P D vwCl (wT cyD cyI cyJ cyZ at_ a1 a2 (rn + (1 : Int32)) (vf_upd (fs) (fX1_rowsUpTo rn sf p1).toNatClampNeg p1) (vf_upd (fn) (fX1_rowsUpTo rn sf p1).toNatClampNeg p2)) H := hP
            have hD : va_D A (wT cyD cyI cyJ cyZ at_ a1 a2 (rn + (1 : Int32)) (vf_upd (fs) (fX1_rowsUpTo rn sf p1).toNatClampNeg p1) (vf_upd (fn) (fX1_rowsUpTo rn sf p1).toNatClampNeg p2)) := hD
            refine lv_iconst (v := 1) hx hb dX1_put_126 (by decide) ?_
            have hF9 : (fX1_put rn sf nf p1 p2) = ((1 : Int32), (rn + (1 : Int32)), (vf_upd (fs) (fX1_rowsUpTo rn sf p1).toNatClampNeg p1), (vf_upd (fn) (fX1_rowsUpTo rn sf p1).toNatClampNeg p2)) := by rw [hF, fX1_put_L55, if_pos c_59]
            have hP9 : va_P D vwCl (wT cyD cyI cyJ cyZ at_ a1 a2 ((fX1_put rn sf nf p1 p2).2.1) ((fX1_put rn sf nf p1 p2).2.2.1) ((fX1_put rn sf nf p1 p2).2.2.2)) H := by rw [hF9]; exact hP
            have hD9 : va_D A (wT cyD cyI cyJ cyZ at_ a1 a2 ((fX1_put rn sf nf p1 p2).2.1) ((fX1_put rn sf nf p1 p2).2.2.1) ((fX1_put rn sf nf p1 p2).2.2.2)) := by rw [hF9]; exact hD
            exact W.zret (v := (1 : Int32)) hx hb hr (nar_z (Or.inr rfl)) (fun t ht hW => ⟨⟨(1 : Int32), (), rfl, ⟨(by rw [hF9]), (Or.inr rfl)⟩, by rw [ht]; exact hP9, va_K.moved hW.alike hK, hD9⟩, hS.F ht⟩) hS.2.2 dX1_put_127
          refine lv_aload_n hx hb dX1_put_62 rfl (lv_at hl 2 rfl) ?_
          refine va_get (D := D) (ci := 1) (v := .ref a1) (C := RX1) (T := TX1) (N := 3) hx hb hts (fun _ h => (List.mem_cons_of_mem _ (List.mem_append_right _ h))) hown hK hP 0 rfl rfl 0 (by decide) (hts (.fieldLink RX1 9 "BottomWalks$Table" "starts" "[D") (List.mem_of_getElem? (i := 1) rfl)) (fun _ h9 => h9) rfl dX1_put_63 ?_
          refine lv_iload hx hb dX1_put_66 (lv_at hl 0 rfl) ?_
          refine lv_aload_n hx hb dX1_put_68 rfl (lv_at hl 2 rfl) ?_
          refine va_get (D := D) (ci := 1) (v := .ref a1) (C := RX1) (T := TX1) (N := 3) hx hb hts (fun _ h => (List.mem_cons_of_mem _ (List.mem_append_right _ h))) hown hK hP 0 rfl rfl 0 (by decide) (hts (.fieldLink RX1 9 "BottomWalks$Table" "starts" "[D") (List.mem_of_getElem? (i := 1) rfl)) (fun _ h9 => h9) rfl dX1_put_69 ?_
          refine lv_iload hx hb dX1_put_72 (lv_at hl 0 rfl) ?_
          refine lv_iconst (v := 1) hx hb dX1_put_74 (by decide) ?_
          refine lv_isub hx hb dX1_put_75 ?_
          refine va_dald hx hb hK hP 1 0 rfl rfl (by have h0 : i ≠ 0 := fun z => c_59 (by rw [z]; exact up_ge0 sf p1 hrn hr20); rw [nI_sub1 (by omega)]; exact vp_in_nI (by omega) (by decide)) dX1_put_76 ?_
          refine va_dast hx hb hK hP hD hS 1 0 rfl rfl (vp_in_nI (by omega) (by decide)) dX1_put_77 (fun H locs hP hD hS => ?_)
          have hP : va_P D vwCl (wT cyD cyI cyJ cyZ at_ a1 a2 rn (vf_upd (fs) ((nI i)).toNatClampNeg ((fs) ((nI i) - (1 : Int32)).toNatClampNeg)) (fn)) H := hP
          have hD : va_D A (wT cyD cyI cyJ cyZ at_ a1 a2 rn (vf_upd (fs) ((nI i)).toNatClampNeg ((fs) ((nI i) - (1 : Int32)).toNatClampNeg)) (fn)) := hD
          refine lv_aload_n hx hb dX1_put_78 rfl (lv_at hl 2 rfl) ?_
          refine va_get (D := D) (ci := 1) (v := .ref a2) (C := RX1) (T := TX1) (N := 3) hx hb hts (fun _ h => (List.mem_cons_of_mem _ (List.mem_append_right _ h))) hown hK hP 0 rfl rfl 1 (by decide) (hts (.fieldLink RX1 15 "BottomWalks$Table" "numbers" "[D") (List.mem_of_getElem? (i := 2) rfl)) (fun _ h9 => h9) rfl dX1_put_79 ?_
          refine lv_iload hx hb dX1_put_82 (lv_at hl 0 rfl) ?_
          refine lv_aload_n hx hb dX1_put_84 rfl (lv_at hl 2 rfl) ?_
          refine va_get (D := D) (ci := 1) (v := .ref a2) (C := RX1) (T := TX1) (N := 3) hx hb hts (fun _ h => (List.mem_cons_of_mem _ (List.mem_append_right _ h))) hown hK hP 0 rfl rfl 1 (by decide) (hts (.fieldLink RX1 15 "BottomWalks$Table" "numbers" "[D") (List.mem_of_getElem? (i := 2) rfl)) (fun _ h9 => h9) rfl dX1_put_85 ?_
          refine lv_iload hx hb dX1_put_88 (lv_at hl 0 rfl) ?_
          refine lv_iconst (v := 1) hx hb dX1_put_90 (by decide) ?_
          refine lv_isub hx hb dX1_put_91 ?_
          refine va_dald hx hb hK hP 2 0 rfl rfl (by have h0 : i ≠ 0 := fun z => c_59 (by rw [z]; exact up_ge0 sf p1 hrn hr20); rw [nI_sub1 (by omega)]; exact vp_in_nI (by omega) (by decide)) dX1_put_92 ?_
          refine va_dast hx hb hK hP hD hS 2 0 rfl rfl (vp_in_nI (by omega) (by decide)) dX1_put_93 (fun H locs hP hD hS => ?_)
          have hP : va_P D vwCl (wT cyD cyI cyJ cyZ at_ a1 a2 rn (vf_upd (fs) ((nI i)).toNatClampNeg ((fs) ((nI i) - (1 : Int32)).toNatClampNeg)) (vf_upd (fn) ((nI i)).toNatClampNeg ((fn) ((nI i) - (1 : Int32)).toNatClampNeg))) H := hP
          have hD : va_D A (wT cyD cyI cyJ cyZ at_ a1 a2 rn (vf_upd (fs) ((nI i)).toNatClampNeg ((fs) ((nI i) - (1 : Int32)).toNatClampNeg)) (vf_upd (fn) ((nI i)).toNatClampNeg ((fn) ((nI i) - (1 : Int32)).toNatClampNeg))) := hD
          refine lv_iinc (v := (((nI i)) + (-1))) (lv' := [(6, .int (((nI i)) + (-1))), (5, .int (fX1_rowsUpTo rn sf p1)), (0, .ref at_), (1, .double p1), (3, .double p2)]) hx hb dX1_put_94 hl (k := 0) rfl rfl (by decide) rfl (fun ls hl => ?_)
          refine lv_goto (tgt := 55) hx hb dX1_put_97 (by decide) ?_
          exact ih_55 (i - 1) (vf_upd (fs) ((nI i)).toNatClampNeg ((fs) ((nI i) - (1 : Int32)).toNatClampNeg)) (vf_upd (fn) ((nI i)).toNatClampNeg ((fn) ((nI i) - (1 : Int32)).toNatClampNeg)) _ _ (by have h0 : i ≠ 0 := (fun z => c_59 (by rw [z]; exact up_ge0 sf p1 hrn hr20)); omega) (by omega) (by have h0 : i ≠ 0 := (fun z => c_59 (by rw [z]; exact up_ge0 sf p1 hrn hr20)); rw [← pk_m1 (i - 1), show i - 1 + 1 = i from (by omega)]; rw [hF, fX1_put_L55, if_neg c_59]) hP hD hS _ (by have h0 : i ≠ 0 := (fun z => c_59 (by rw [z]; exact up_ge0 sf p1 hrn hr20)); rw [← pk_m1 (i - 1), show i - 1 + 1 = i from (by omega)]; exact lv_sub hl [0, 1, 2, 3, 4] rfl)
      exact loop_55 21 r sf nf _ _ (by omega) (by rw [hrn] at c_44; exact (nI_ltI (b := 20) (by omega) (by omega)).mp c_44) (by rw [← hrn]; rw [fX1_put, if_neg c_9, if_neg c_23, if_pos c_44]) hP hD hS _ (by rw [← hrn]; exact lv_sub hl [0, 1, 2, 3, 4] rfl)
    refine lv_iconst (v := 0) hx hb dX1_put_47 (by decide) ?_
    have hF9 : (fX1_put rn sf nf p1 p2) = ((0 : Int32), rn, sf, nf) := by rw [fX1_put, if_neg c_9, if_neg c_23, if_neg c_44]
    have hP9 : va_P D vwCl (wT cyD cyI cyJ cyZ at_ a1 a2 ((fX1_put rn sf nf p1 p2).2.1) ((fX1_put rn sf nf p1 p2).2.2.1) ((fX1_put rn sf nf p1 p2).2.2.2)) H := by rw [hF9]; exact hP
    have hD9 : va_D A (wT cyD cyI cyJ cyZ at_ a1 a2 ((fX1_put rn sf nf p1 p2).2.1) ((fX1_put rn sf nf p1 p2).2.2.1) ((fX1_put rn sf nf p1 p2).2.2.2)) := by rw [hF9]; exact hD
    exact W.zret (v := (0 : Int32)) hx hb hr (nar_z (Or.inl rfl)) (fun t ht hW => ⟨⟨(0 : Int32), (), rfl, ⟨(by rw [hF9]), (Or.inl rfl)⟩, by rw [ht]; exact hP9, va_K.moved hW.alike hK, hD9⟩, hS.F ht⟩) hS.2.2 dX1_put_48
  refine lv_aload_n hx hb dX1_put_26 rfl (lv_at hl 1 rfl) ?_
  refine va_get (D := D) (ci := 1) (v := .ref a2) (C := RX1) (T := TX1) (N := 3) hx hb hts (fun _ h => (List.mem_cons_of_mem _ (List.mem_append_right _ h))) hown hK hP 0 rfl rfl 1 (by decide) (hts (.fieldLink RX1 15 "BottomWalks$Table" "numbers" "[D") (List.mem_of_getElem? (i := 2) rfl)) (fun _ h9 => h9) rfl dX1_put_27 ?_
  refine lv_iload hx hb dX1_put_30 (lv_at hl 0 rfl) ?_
  refine lv_iconst (v := 1) hx hb dX1_put_32 (by decide) ?_
  refine lv_isub hx hb dX1_put_33 ?_
  refine lv_dload_n hx hb dX1_put_34 rfl (lv_at hl 3 rfl) ?_
  refine va_dast hx hb hK hP hD hS 2 0 rfl rfl (upm1_in sf p1 hrn hr20 c_9) dX1_put_35 (fun H locs hP hD hS => ?_)
  have hP : va_P D vwCl (wT cyD cyI cyJ cyZ at_ a1 a2 rn sf (vf_upd nf ((fX1_rowsUpTo rn sf p1) - (1 : Int32)).toNatClampNeg p2)) H := hP
  have hD : va_D A (wT cyD cyI cyJ cyZ at_ a1 a2 rn sf (vf_upd nf ((fX1_rowsUpTo rn sf p1) - (1 : Int32)).toNatClampNeg p2)) := hD
  refine lv_iconst (v := 1) hx hb dX1_put_36 (by decide) ?_
  have hF9 : (fX1_put rn sf nf p1 p2) = ((1 : Int32), rn, sf, (vf_upd nf ((fX1_rowsUpTo rn sf p1) - (1 : Int32)).toNatClampNeg p2)) := by rw [fX1_put, if_neg c_9, if_pos c_23]
  have hP9 : va_P D vwCl (wT cyD cyI cyJ cyZ at_ a1 a2 ((fX1_put rn sf nf p1 p2).2.1) ((fX1_put rn sf nf p1 p2).2.2.1) ((fX1_put rn sf nf p1 p2).2.2.2)) H := by rw [hF9]; exact hP
  have hD9 : va_D A (wT cyD cyI cyJ cyZ at_ a1 a2 ((fX1_put rn sf nf p1 p2).2.1) ((fX1_put rn sf nf p1 p2).2.2.1) ((fX1_put rn sf nf p1 p2).2.2.2)) := by rw [hF9]; exact hD
  exact W.zret (v := (1 : Int32)) hx hb hr (nar_z (Or.inr rfl)) (fun t ht hW => ⟨⟨(1 : Int32), (), rfl, ⟨(by rw [hF9]), (Or.inr rfl)⟩, by rw [ht]; exact hP9, va_K.moved hW.alike hK, hD9⟩, hS.F ht⟩) hS.2.2 dX1_put_37
