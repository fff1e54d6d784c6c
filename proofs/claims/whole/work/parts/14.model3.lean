def fX4_insert_L58 (sf : Nat → UInt64) (nf : Nat → UInt64) (v_j : Int32) (p3 : Int32) (p4 : UInt64) (p5 : UInt64) : Nat → (Int32) → (Nat → UInt64) → (Nat → UInt64) → Int32 × (Nat → UInt64) × (Nat → UInt64)
  | 0, v_i, v_fs, v_fn => (0, v_fs, v_fn)
  | k + 1, v_i, v_fs, v_fn => if v_i ≤ v_j then ((p3 + (1 : Int32)), (vf_upd (v_fs) (v_j).toNatClampNeg p4), (vf_upd (v_fn) (v_j).toNatClampNeg p5)) else ((fX4_insert_L58 sf nf v_j p3 p4 p5 k ((v_i) + (-1)) (vf_upd (v_fs) (v_i).toNatClampNeg ((v_fs) (v_i - (1 : Int32)).toNatClampNeg)) (vf_upd (v_fn) (v_i).toNatClampNeg ((v_fn) (v_i - (1 : Int32)).toNatClampNeg))))
def fX4_insert_L3 (sf : Nat → UInt64) (nf : Nat → UInt64)  (p3 : Int32) (p4 : UInt64) (p5 : UInt64) : Nat → (Int32) → Int32 × (Nat → UInt64) × (Nat → UInt64)
  | 0, v_j => (0, sf, nf)
  | k + 1, v_j => if p3 ≤ v_j then (if p3 ≤ v_j then (if p3 = (20 : Int32) then ((-1 : Int32), sf, nf) else ((fX4_insert_L58 sf nf v_j p3 p4 p5 21 p3 sf nf))) else (if (Op.cmpValue (FP.dcmp (sf (v_j).toNatClampNeg) p4) CmpOp.l) = 0 then (p3, sf, (vf_upd nf (v_j).toNatClampNeg p5)) else (if p3 = (20 : Int32) then ((-1 : Int32), sf, nf) else ((fX4_insert_L58 sf nf v_j p3 p4 p5 21 p3 sf nf))))) else (if 0 ≤ (Op.cmpValue (FP.dcmp (sf (v_j).toNatClampNeg) p4) CmpOp.g) then (if p3 ≤ v_j then (if p3 = (20 : Int32) then ((-1 : Int32), sf, nf) else ((fX4_insert_L58 sf nf v_j p3 p4 p5 21 p3 sf nf))) else (if (Op.cmpValue (FP.dcmp (sf (v_j).toNatClampNeg) p4) CmpOp.l) = 0 then (p3, sf, (vf_upd nf (v_j).toNatClampNeg p5)) else (if p3 = (20 : Int32) then ((-1 : Int32), sf, nf) else ((fX4_insert_L58 sf nf v_j p3 p4 p5 21 p3 sf nf))))) else ((fX4_insert_L3 sf nf p3 p4 p5 k ((v_j) + 1))))
def fX4_insert (sf : Nat → UInt64) (nf : Nat → UInt64) (p3 : Int32) (p4 : UInt64) (p5 : UInt64) : Int32 × (Nat → UInt64) × (Nat → UInt64) := (fX4_insert_L3 sf nf p3 p4 p5 21 (0 : Int32))
set_option maxHeartbeats 4000000 in
set_option maxRecDepth 100000 in
theorem c_X4_insert {l : Launch} {D : va_G} {cyD cyI cyJ cyZ : ClassId} (a1 a2 : Nat) (sf : Nat → UInt64) (nf : Nat → UInt64) (sz : Nat) (p3 : Int32) (p4 : UInt64) (p5 : UInt64) (r : Nat) (hr3 : p3 = nI r) (hr20 : r ≤ 20) : mI l yX4_insert wsX4_insert ({ frames := 0, cells := 0, slots := 0, locals := 0 } : Room) D (kT cyD cyI cyJ cyZ) [.ref a1, .ref a2, .int p3, .double p4, .double p5] (wA cyD cyI cyJ cyZ a1 a2 sf nf) (wA cyD cyI cyJ cyZ a1 a2 ((fX4_insert sf nf p3 p4 p5).2.1) ((fX4_insert sf nf p3 p4 p5).2.2)) sz ((fX4_insert sf nf p3 p4 p5).1) 0 0 := by
  refine Met.ofW (cc := cX4_insert) (maxL := 9) (ret := (some .int)) (by decide) rfl ?_
  intro p e s m args below meth c s₁ B hml hv
  obtain ⟨rfl, hN, hsz, hP, hK, hD0⟩ := hv
  have hx := B.exec
  have hb := B.bytes
  have hr := B.returns
  have hts := atoms_spec (ws := wsX4_insert) B.pre
  have hown : s.vm.findClass RX4 = some m.cls := findClass_of_methodNamed B.named
  have hlocks := B.notSynchronized
  subst hsz
  have hD := hD0.self (sz := s.heap.size)
  generalize hAe : va_A (wA cyD cyI cyJ cyZ a1 a2 sf nf) s.heap.size = A at hD ⊢
  have hA : ∀ q : Nat, s.heap.size ≤ q → A q := fun q h => by rw [← hAe]; exact Or.inr h
  have hS : va_S A s.heap s.heap [] := va_S.rf
  have hP : va_P D vwCl (wA cyD cyI cyJ cyZ a1 a2 sf nf) s.heap := hP
  have hl := lv_entry [.ref a1, .ref a2, .int p3, .double p4, .double p5] (n := 9) (Nat.le_of_ble_eq_true rfl)
  rw [lg_entry_eq]
  generalize (lg_sl [.ref a1, .ref a2, .int p3, .double p4, .double p5] ++ List.replicate (9 - (lg_sl [.ref a1, .ref a2, .int p3, .double p4, .double p5]).length) Slot.unset).toArray = ls at hl ⊢
  have hl : lv_has ls 9 [(0, .ref a1), (1, .ref a2), (2, .int p3), (3, .double p4), (5, .double p5)] := hl
  obtain ⟨H, hHe⟩ : ∃ H : Heap, H = s.heap := ⟨_, rfl⟩
  have hP : va_P D vwCl (wA cyD cyI cyJ cyZ a1 a2 sf nf) H := by rw [hHe]; exact hP
  have hS : va_S A s.heap H [] := by rw [hHe]; exact hS
  rw [← hHe]
  refine lv_iconst (v := 0) hx hb dX4_insert_0 (by decide) ?_
  refine lv_istore (lv' := [(7, .int (0 : Int32)), (0, .ref a1), (1, .ref a2), (2, .int p3), (3, .double p4), (5, .double p5)]) hx hb dX4_insert_1 hl (by decide) rfl (fun ls hl => ?_)
  have loop_3 : ∀ (k : Nat) (j : Nat) (H : Heap) (locs : List Loc), (j + k = 21) → (j ≤ r) → (fX4_insert sf nf p3 p4 p5) = fX4_insert_L3 sf nf p3 p4 p5 k ((nI j)) → va_P D vwCl (wA cyD cyI cyJ cyZ a1 a2 sf nf) H → va_D A (wA cyD cyI cyJ cyZ a1 a2 sf nf) → va_S A s.heap H locs → ∀ ls, lv_has ls 9 [(7, .int ((nI j))), (0, .ref a1), (1, .ref a2), (2, .int p3), (3, .double p4), (5, .double p5)] → W p l e (headSpec wsX4_insert ({ frames := 0, cells := 0, slots := 0, locals := 0 } : Room)).room s m ([.ref a1, .ref a2, .int p3, .double p4, .double p5] : List Value).toArray below meth c H locs 0 0 (MQ below (va_Qi (fun (r : Int32) (_ : Unit) => r = (fX4_insert sf nf p3 p4 p5).1) (kE D (kT cyD cyI cyJ cyZ) (wA cyD cyI cyJ cyZ a1 a2 ((fX4_insert sf nf p3 p4 p5).2.1) ((fX4_insert sf nf p3 p4 p5).2.2)) A) A) ([.ref a1, .ref a2, .int p3, .double p4, .double p5] : List Value).toArray s 0 0 A) (F0 m 3 ls []) := by
    intro k_3
    induction k_3 with
    | zero => intro j H locs hj hj2 hF hP hD hS ls hl; exact absurd hr20 (by omega)
    | succ k_3 ih_3 =>
      intro j H locs hj hj2 hF hP hD hS ls hl
      refine lv_iload hx hb dX4_insert_3 (lv_at hl 0 rfl) ?_
      refine lv_iload_n hx hb dX4_insert_5 rfl (lv_at hl 3 rfl) ?_
      refine lv_icmp_ge (tgt := 24) hx hb dX4_insert_6 (by decide) (fun c_6 => ?_) (fun c_6 => ?_)
      · refine lv_iload hx hb dX4_insert_24 (lv_at hl 0 rfl) ?_
        refine lv_iload_n hx hb dX4_insert_26 rfl (lv_at hl 3 rfl) ?_
        refine lv_icmp_ge (tgt := 47) hx hb dX4_insert_27 (by decide) (fun c_27 => ?_) (fun c_27 => ?_)
        · refine lv_iload_n hx hb dX4_insert_47 rfl (lv_at hl 3 rfl) ?_
          refine lv_bipush (v := 20) hx hb dX4_insert_48 (by decide) ?_
          refine lv_icmp_ne (tgt := 55) hx hb dX4_insert_50 (by decide) (fun c_50 => ?_) (fun c_50 => ?_)
          · refine lv_iload_n hx hb dX4_insert_55 rfl (lv_at hl 3 rfl) ?_
            refine lv_istore (lv' := [(8, .int p3), (7, .int ((nI j))), (0, .ref a1), (1, .ref a2), (2, .int p3), (3, .double p4), (5, .double p5)]) hx hb dX4_insert_56 hl (by decide) rfl (fun ls hl => ?_)
            have loop_58 : ∀ (k : Nat) (i : Nat) (fs fn : Nat → UInt64) (H : Heap) (locs : List Loc), (i < k) → (i ≤ 20) → (fX4_insert sf nf p3 p4 p5) = fX4_insert_L58 sf nf (nI j) p3 p4 p5 k ((nI i)) (fs) (fn) → va_P D vwCl (wA cyD cyI cyJ cyZ a1 a2 (fs) (fn)) H → va_D A (wA cyD cyI cyJ cyZ a1 a2 (fs) (fn)) → va_S A s.heap H locs → ∀ ls, lv_has ls 9 [(8, .int ((nI i))), (7, .int ((nI j))), (0, .ref a1), (1, .ref a2), (2, .int p3), (3, .double p4), (5, .double p5)] → W p l e (headSpec wsX4_insert ({ frames := 0, cells := 0, slots := 0, locals := 0 } : Room)).room s m ([.ref a1, .ref a2, .int p3, .double p4, .double p5] : List Value).toArray below meth c H locs 0 0 (MQ below (va_Qi (fun (r : Int32) (_ : Unit) => r = (fX4_insert sf nf p3 p4 p5).1) (kE D (kT cyD cyI cyJ cyZ) (wA cyD cyI cyJ cyZ a1 a2 ((fX4_insert sf nf p3 p4 p5).2.1) ((fX4_insert sf nf p3 p4 p5).2.2)) A) A) ([.ref a1, .ref a2, .int p3, .double p4, .double p5] : List Value).toArray s 0 0 A) (F0 m 58 ls []) := by
              intro k_58
              induction k_58 with
              | zero => intro i fs fn H locs hi hi2 hF hP hD hS ls hl; exact absurd hi (by omega)
              | succ k_58 ih_58 =>
                intro i fs fn H locs hi hi2 hF hP hD hS ls hl
                refine lv_iload hx hb dX4_insert_58 (lv_at hl 0 rfl) ?_
                refine lv_iload hx hb dX4_insert_60 (lv_at hl 1 rfl) ?_
                refine lv_icmp_le (tgt := 91) hx hb dX4_insert_62 (by decide) (fun c_62 => ?_) (fun c_62 => ?_)
                · refine lv_aload_n hx hb dX4_insert_91 rfl (lv_at hl 2 rfl) ?_
                  refine lv_iload hx hb dX4_insert_92 (lv_at hl 1 rfl) ?_
                  refine lv_dload_n hx hb dX4_insert_94 rfl (lv_at hl 5 rfl) ?_
                  refine va_dast hx hb hK hP hD hS 0 0 rfl rfl (vp_in_nI (by omega) (by decide)) dX4_insert_95 (fun H locs hP hD hS => ?_)
                  have hP : va_P D vwCl (wA cyD cyI cyJ cyZ a1 a2 (vf_upd (fs) ((nI j)).toNatClampNeg p4) (fn)) H := hP
                  have hD : va_D A (wA cyD cyI cyJ cyZ a1 a2 (vf_upd (fs) ((nI j)).toNatClampNeg p4) (fn)) := hD
                  refine lv_aload_n hx hb dX4_insert_96 rfl (lv_at hl 3 rfl) ?_
                  refine lv_iload hx hb dX4_insert_97 (lv_at hl 1 rfl) ?_
                  refine lv_dload hx hb dX4_insert_99 (lv_at hl 6 rfl) ?_
                  refine va_dast hx hb hK hP hD hS 1 0 rfl rfl (vp_in_nI (by omega) (by decide)) dX4_insert_101 (fun H locs hP hD hS => ?_)
                  have hP : va_P D vwCl (wA cyD cyI cyJ cyZ a1 a2 (vf_upd (fs) ((nI j)).toNatClampNeg p4) (vf_upd (fn) ((nI j)).toNatClampNeg p5)) H := hP
                  have hD : va_D A (wA cyD cyI cyJ cyZ a1 a2 (vf_upd (fs) ((nI j)).toNatClampNeg p4) (vf_upd (fn) ((nI j)).toNatClampNeg p5)) := hD
                  refine lv_iload_n hx hb dX4_insert_102 rfl (lv_at hl 4 rfl) ?_
                  refine lv_iconst (v := 1) hx hb dX4_insert_103 (by decide) ?_
                  refine lv_iadd hx hb dX4_insert_104 ?_
                  have hF9 : (fX4_insert sf nf p3 p4 p5) = ((p3 + (1 : Int32)), (vf_upd (fs) ((nI j)).toNatClampNeg p4), (vf_upd (fn) ((nI j)).toNatClampNeg p5)) := by rw [hF, fX4_insert_L58, if_pos c_62]
                  have hP9 : va_P D vwCl (wA cyD cyI cyJ cyZ a1 a2 ((fX4_insert sf nf p3 p4 p5).2.1) ((fX4_insert sf nf p3 p4 p5).2.2)) H := by rw [hF9]; exact hP
                  have hD9 : va_D A (wA cyD cyI cyJ cyZ a1 a2 ((fX4_insert sf nf p3 p4 p5).2.1) ((fX4_insert sf nf p3 p4 p5).2.2)) := by rw [hF9]; exact hD
                  exact W.iret (v := (p3 + (1 : Int32))) hx hb hr (fun t ht hW => ⟨⟨(p3 + (1 : Int32)), (), rfl, (by rw [hF9]), by rw [ht]; exact hP9, va_K.moved hW.alike hK, hD9⟩, hS.F ht⟩) hS.2.2 dX4_insert_105
                refine lv_aload_n hx hb dX4_insert_65 rfl (lv_at hl 2 rfl) ?_
                refine lv_iload hx hb dX4_insert_66 (lv_at hl 0 rfl) ?_
                refine lv_aload_n hx hb dX4_insert_68 rfl (lv_at hl 2 rfl) ?_
                refine lv_iload hx hb dX4_insert_69 (lv_at hl 0 rfl) ?_
                refine lv_iconst (v := 1) hx hb dX4_insert_71 (by decide) ?_
                refine lv_isub hx hb dX4_insert_72 ?_
                refine va_dald hx hb hK hP 0 0 rfl rfl (by have h0 : i ≠ 0 := (fun z => c_62 (by rw [z]; exact nI_le (Nat.zero_le _) (by omega))); rw [nI_sub1 (by omega)]; exact vp_in_nI (by omega) (by decide)) dX4_insert_73 ?_
                refine va_dast hx hb hK hP hD hS 0 0 rfl rfl (vp_in_nI (by omega) (by decide)) dX4_insert_74 (fun H locs hP hD hS => ?_)
                have hP : va_P D vwCl (wA cyD cyI cyJ cyZ a1 a2 (vf_upd (fs) ((nI i)).toNatClampNeg ((fs) ((nI i) - (1 : Int32)).toNatClampNeg)) (fn)) H := hP
                have hD : va_D A (wA cyD cyI cyJ cyZ a1 a2 (vf_upd (fs) ((nI i)).toNatClampNeg ((fs) ((nI i) - (1 : Int32)).toNatClampNeg)) (fn)) := hD
                refine lv_aload_n hx hb dX4_insert_75 rfl (lv_at hl 3 rfl) ?_
                refine lv_iload hx hb dX4_insert_76 (lv_at hl 0 rfl) ?_
                refine lv_aload_n hx hb dX4_insert_78 rfl (lv_at hl 3 rfl) ?_
                refine lv_iload hx hb dX4_insert_79 (lv_at hl 0 rfl) ?_
                refine lv_iconst (v := 1) hx hb dX4_insert_81 (by decide) ?_
                refine lv_isub hx hb dX4_insert_82 ?_
                refine va_dald hx hb hK hP 1 0 rfl rfl (by have h0 : i ≠ 0 := (fun z => c_62 (by rw [z]; exact nI_le (Nat.zero_le _) (by omega))); rw [nI_sub1 (by omega)]; exact vp_in_nI (by omega) (by decide)) dX4_insert_83 ?_
                refine va_dast hx hb hK hP hD hS 1 0 rfl rfl (vp_in_nI (by omega) (by decide)) dX4_insert_84 (fun H locs hP hD hS => ?_)
                have hP : va_P D vwCl (wA cyD cyI cyJ cyZ a1 a2 (vf_upd (fs) ((nI i)).toNatClampNeg ((fs) ((nI i) - (1 : Int32)).toNatClampNeg)) (vf_upd (fn) ((nI i)).toNatClampNeg ((fn) ((nI i) - (1 : Int32)).toNatClampNeg))) H := hP
                have hD : va_D A (wA cyD cyI cyJ cyZ a1 a2 (vf_upd (fs) ((nI i)).toNatClampNeg ((fs) ((nI i) - (1 : Int32)).toNatClampNeg)) (vf_upd (fn) ((nI i)).toNatClampNeg ((fn) ((nI i) - (1 : Int32)).toNatClampNeg))) := hD
                refine lv_iinc (v := (((nI i)) + (-1))) (lv' := [(8, .int (((nI i)) + (-1))), (7, .int ((nI j))), (0, .ref a1), (1, .ref a2), (2, .int p3), (3, .double p4), (5, .double p5)]) hx hb dX4_insert_85 hl (k := 0) rfl rfl (by decide) rfl (fun ls hl => ?_)
                refine lv_goto (tgt := 58) hx hb dX4_insert_88 (by decide) ?_
                exact ih_58 (i - 1) (vf_upd (fs) ((nI i)).toNatClampNeg ((fs) ((nI i) - (1 : Int32)).toNatClampNeg)) (vf_upd (fn) ((nI i)).toNatClampNeg ((fn) ((nI i) - (1 : Int32)).toNatClampNeg)) _ _ (by have h0 : i ≠ 0 := (fun z => c_62 (by rw [z]; exact nI_le (Nat.zero_le _) (by omega))); omega) (by omega) (by have h0 : i ≠ 0 := (fun z => c_62 (by rw [z]; exact nI_le (Nat.zero_le _) (by omega))); rw [← pk_m1 (i - 1), show i - 1 + 1 = i from (by omega)]; rw [hF, fX4_insert_L58, if_neg c_62]) hP hD hS _ (by have h0 : i ≠ 0 := (fun z => c_62 (by rw [z]; exact nI_le (Nat.zero_le _) (by omega))); rw [← pk_m1 (i - 1), show i - 1 + 1 = i from (by omega)]; exact lv_sub hl [0, 1, 2, 3, 4, 5, 6] rfl)
            exact loop_58 21 r sf nf _ _ (by omega) (by omega) (by rw [← hr3]; rw [hF, fX4_insert_L3, if_pos c_6, if_pos c_27, if_neg c_50]) hP hD hS _ (by rw [← hr3]; exact lv_sub hl [0, 1, 2, 3, 4, 5, 6] rfl)
          refine lv_iconst (v := (-1)) hx hb dX4_insert_53 (by decide) ?_
          have hF9 : (fX4_insert sf nf p3 p4 p5) = ((-1 : Int32), sf, nf) := by rw [hF, fX4_insert_L3, if_pos c_6, if_pos c_27, if_pos c_50]
          have hP9 : va_P D vwCl (wA cyD cyI cyJ cyZ a1 a2 ((fX4_insert sf nf p3 p4 p5).2.1) ((fX4_insert sf nf p3 p4 p5).2.2)) H := by rw [hF9]; exact hP
          have hD9 : va_D A (wA cyD cyI cyJ cyZ a1 a2 ((fX4_insert sf nf p3 p4 p5).2.1) ((fX4_insert sf nf p3 p4 p5).2.2)) := by rw [hF9]; exact hD
          exact W.iret (v := (-1 : Int32)) hx hb hr (fun t ht hW => ⟨⟨(-1 : Int32), (), rfl, (by rw [hF9]), by rw [ht]; exact hP9, va_K.moved hW.alike hK, hD9⟩, hS.F ht⟩) hS.2.2 dX4_insert_54
        refine lv_aload_n hx hb dX4_insert_30 rfl (lv_at hl 1 rfl) ?_
        refine lv_iload hx hb dX4_insert_31 (lv_at hl 0 rfl) ?_
        refine va_dald hx hb hK hP 0 0 rfl rfl (vp_in_nI (by omega) (by decide)) dX4_insert_33 ?_
        refine lv_dload_n hx hb dX4_insert_34 rfl (lv_at hl 4 rfl) ?_
        refine lv_dcmp hx hb dX4_insert_35 ?_
        refine lv_if_ne (tgt := 47) hx hb dX4_insert_36 (by decide) (fun c_36 => ?_) (fun c_36 => ?_)
        · refine lv_iload_n hx hb dX4_insert_47 rfl (lv_at hl 3 rfl) ?_
          refine lv_bipush (v := 20) hx hb dX4_insert_48 (by decide) ?_
          refine lv_icmp_ne (tgt := 55) hx hb dX4_insert_50 (by decide) (fun c_50 => ?_) (fun c_50 => ?_)
          · refine lv_iload_n hx hb dX4_insert_55 rfl (lv_at hl 3 rfl) ?_
            refine lv_istore (lv' := [(8, .int p3), (7, .int ((nI j))), (0, .ref a1), (1, .ref a2), (2, .int p3), (3, .double p4), (5, .double p5)]) hx hb dX4_insert_56 hl (by decide) rfl (fun ls hl => ?_)
            have loop_58 : ∀ (k : Nat) (i : Nat) (fs fn : Nat → UInt64) (H : Heap) (locs : List Loc), (i < k) → (i ≤ 20) → (fX4_insert sf nf p3 p4 p5) = fX4_insert_L58 sf nf (nI j) p3 p4 p5 k ((nI i)) (fs) (fn) → va_P D vwCl (wA cyD cyI cyJ cyZ a1 a2 (fs) (fn)) H → va_D A (wA cyD cyI cyJ cyZ a1 a2 (fs) (fn)) → va_S A s.heap H locs → ∀ ls, lv_has ls 9 [(8, .int ((nI i))), (7, .int ((nI j))), (0, .ref a1), (1, .ref a2), (2, .int p3), (3, .double p4), (5, .double p5)] → W p l e (headSpec wsX4_insert ({ frames := 0, cells := 0, slots := 0, locals := 0 } : Room)).room s m ([.ref a1, .ref a2, .int p3, .double p4, .double p5] : List Value).toArray below meth c H locs 0 0 (MQ below (va_Qi (fun (r : Int32) (_ : Unit) => r = (fX4_insert sf nf p3 p4 p5).1) (kE D (kT cyD cyI cyJ cyZ) (wA cyD cyI cyJ cyZ a1 a2 ((fX4_insert sf nf p3 p4 p5).2.1) ((fX4_insert sf nf p3 p4 p5).2.2)) A) A) ([.ref a1, .ref a2, .int p3, .double p4, .double p5] : List Value).toArray s 0 0 A) (F0 m 58 ls []) := by
              intro k_58
              induction k_58 with
              | zero => intro i fs fn H locs hi hi2 hF hP hD hS ls hl; exact absurd hi (by omega)
              | succ k_58 ih_58 =>
                intro i fs fn H locs hi hi2 hF hP hD hS ls hl
                refine lv_iload hx hb dX4_insert_58 (lv_at hl 0 rfl) ?_
                refine lv_iload hx hb dX4_insert_60 (lv_at hl 1 rfl) ?_
                refine lv_icmp_le (tgt := 91) hx hb dX4_insert_62 (by decide) (fun c_62 => ?_) (fun c_62 => ?_)
                · refine lv_aload_n hx hb dX4_insert_91 rfl (lv_at hl 2 rfl) ?_
                  refine lv_iload hx hb dX4_insert_92 (lv_at hl 1 rfl) ?_
                  refine lv_dload_n hx hb dX4_insert_94 rfl (lv_at hl 5 rfl) ?_
                  refine va_dast hx hb hK hP hD hS 0 0 rfl rfl (vp_in_nI (by omega) (by decide)) dX4_insert_95 (fun H locs hP hD hS => ?_)
                  have hP : va_P D vwCl (wA cyD cyI cyJ cyZ a1 a2 (vf_upd (fs) ((nI j)).toNatClampNeg p4) (fn)) H := hP
                  have hD : va_D A (wA cyD cyI cyJ cyZ a1 a2 (vf_upd (fs) ((nI j)).toNatClampNeg p4) (fn)) := hD
                  refine lv_aload_n hx hb dX4_insert_96 rfl (lv_at hl 3 rfl) ?_
                  refine lv_iload hx hb dX4_insert_97 (lv_at hl 1 rfl) ?_
                  refine lv_dload hx hb dX4_insert_99 (lv_at hl 6 rfl) ?_
                  refine va_dast hx hb hK hP hD hS 1 0 rfl rfl (vp_in_nI (by omega) (by decide)) dX4_insert_101 (fun H locs hP hD hS => ?_)
                  have hP : va_P D vwCl (wA cyD cyI cyJ cyZ a1 a2 (vf_upd (fs) ((nI j)).toNatClampNeg p4) (vf_upd (fn) ((nI j)).toNatClampNeg p5)) H := hP
                  have hD : va_D A (wA cyD cyI cyJ cyZ a1 a2 (vf_upd (fs) ((nI j)).toNatClampNeg p4) (vf_upd (fn) ((nI j)).toNatClampNeg p5)) := hD
                  refine lv_iload_n hx hb dX4_insert_102 rfl (lv_at hl 4 rfl) ?_
                  refine lv_iconst (v := 1) hx hb dX4_insert_103 (by decide) ?_
                  refine lv_iadd hx hb dX4_insert_104 ?_
                  have hF9 : (fX4_insert sf nf p3 p4 p5) = ((p3 + (1 : Int32)), (vf_upd (fs) ((nI j)).toNatClampNeg p4), (vf_upd (fn) ((nI j)).toNatClampNeg p5)) := by rw [hF, fX4_insert_L58, if_pos c_62]
                  have hP9 : va_P D vwCl (wA cyD cyI cyJ cyZ a1 a2 ((fX4_insert sf nf p3 p4 p5).2.1) ((fX4_insert sf nf p3 p4 p5).2.2)) H := by rw [hF9]; exact hP
                  have hD9 : va_D A (wA cyD cyI cyJ cyZ a1 a2 ((fX4_insert sf nf p3 p4 p5).2.1) ((fX4_insert sf nf p3 p4 p5).2.2)) := by rw [hF9]; exact hD
                  exact W.iret (v := (p3 + (1 : Int32))) hx hb hr (fun t ht hW => ⟨⟨(p3 + (1 : Int32)), (), rfl, (by rw [hF9]), by rw [ht]; exact hP9, va_K.moved hW.alike hK, hD9⟩, hS.F ht⟩) hS.2.2 dX4_insert_105
                refine lv_aload_n hx hb dX4_insert_65 rfl (lv_at hl 2 rfl) ?_
                refine lv_iload hx hb dX4_insert_66 (lv_at hl 0 rfl) ?_
                refine lv_aload_n hx hb dX4_insert_68 rfl (lv_at hl 2 rfl) ?_
                refine lv_iload hx hb dX4_insert_69 (lv_at hl 0 rfl) ?_
                refine lv_iconst (v := 1) hx hb dX4_insert_71 (by decide) ?_
                refine lv_isub hx hb dX4_insert_72 ?_
                refine va_dald hx hb hK hP 0 0 rfl rfl (by have h0 : i ≠ 0 := (fun z => c_62 (by rw [z]; exact nI_le (Nat.zero_le _) (by omega))); rw [nI_sub1 (by omega)]; exact vp_in_nI (by omega) (by decide)) dX4_insert_73 ?_
                refine va_dast hx hb hK hP hD hS 0 0 rfl rfl (vp_in_nI (by omega) (by decide)) dX4_insert_74 (fun H locs hP hD hS => ?_)
                have hP : va_P D vwCl (wA cyD cyI cyJ cyZ a1 a2 (vf_upd (fs) ((nI i)).toNatClampNeg ((fs) ((nI i) - (1 : Int32)).toNatClampNeg)) (fn)) H := hP
                have hD : va_D A (wA cyD cyI cyJ cyZ a1 a2 (vf_upd (fs) ((nI i)).toNatClampNeg ((fs) ((nI i) - (1 : Int32)).toNatClampNeg)) (fn)) := hD
                refine lv_aload_n hx hb dX4_insert_75 rfl (lv_at hl 3 rfl) ?_
                refine lv_iload hx hb dX4_insert_76 (lv_at hl 0 rfl) ?_
                refine lv_aload_n hx hb dX4_insert_78 rfl (lv_at hl 3 rfl) ?_
                refine lv_iload hx hb dX4_insert_79 (lv_at hl 0 rfl) ?_
                refine lv_iconst (v := 1) hx hb dX4_insert_81 (by decide) ?_
                refine lv_isub hx hb dX4_insert_82 ?_
                refine va_dald hx hb hK hP 1 0 rfl rfl (by have h0 : i ≠ 0 := (fun z => c_62 (by rw [z]; exact nI_le (Nat.zero_le _) (by omega))); rw [nI_sub1 (by omega)]; exact vp_in_nI (by omega) (by decide)) dX4_insert_83 ?_
                refine va_dast hx hb hK hP hD hS 1 0 rfl rfl (vp_in_nI (by omega) (by decide)) dX4_insert_84 (fun H locs hP hD hS => ?_)
                have hP : va_P D vwCl (wA cyD cyI cyJ cyZ a1 a2 (vf_upd (fs) ((nI i)).toNatClampNeg ((fs) ((nI i) - (1 : Int32)).toNatClampNeg)) (vf_upd (fn) ((nI i)).toNatClampNeg ((fn) ((nI i) - (1 : Int32)).toNatClampNeg))) H := hP
                have hD : va_D A (wA cyD cyI cyJ cyZ a1 a2 (vf_upd (fs) ((nI i)).toNatClampNeg ((fs) ((nI i) - (1 : Int32)).toNatClampNeg)) (vf_upd (fn) ((nI i)).toNatClampNeg ((fn) ((nI i) - (1 : Int32)).toNatClampNeg))) := hD
                refine lv_iinc (v := (((nI i)) + (-1))) (lv' := [(8, .int (((nI i)) + (-1))), (7, .int ((nI j))), (0, .ref a1), (1, .ref a2), (2, .int p3), (3, .double p4), (5, .double p5)]) hx hb dX4_insert_85 hl (k := 0) rfl rfl (by decide) rfl (fun ls hl => ?_)
                refine lv_goto (tgt := 58) hx hb dX4_insert_88 (by decide) ?_
                exact ih_58 (i - 1) (vf_upd (fs) ((nI i)).toNatClampNeg ((fs) ((nI i) - (1 : Int32)).toNatClampNeg)) (vf_upd (fn) ((nI i)).toNatClampNeg ((fn) ((nI i) - (1 : Int32)).toNatClampNeg)) _ _ (by have h0 : i ≠ 0 := (fun z => c_62 (by rw [z]; exact nI_le (Nat.zero_le _) (by omega))); omega) (by omega) (by have h0 : i ≠ 0 := (fun z => c_62 (by rw [z]; exact nI_le (Nat.zero_le _) (by omega))); rw [← pk_m1 (i - 1), show i - 1 + 1 = i from (by omega)]; rw [hF, fX4_insert_L58, if_neg c_62]) hP hD hS _ (by have h0 : i ≠ 0 := (fun z => c_62 (by rw [z]; exact nI_le (Nat.zero_le _) (by omega))); rw [← pk_m1 (i - 1), show i - 1 + 1 = i from (by omega)]; exact lv_sub hl [0, 1, 2, 3, 4, 5, 6] rfl)
            exact loop_58 21 r sf nf _ _ (by omega) (by omega) (by rw [← hr3]; rw [hF, fX4_insert_L3, if_pos c_6, if_neg c_27, if_neg c_36, if_neg c_50]) hP hD hS _ (by rw [← hr3]; exact lv_sub hl [0, 1, 2, 3, 4, 5, 6] rfl)
          refine lv_iconst (v := (-1)) hx hb dX4_insert_53 (by decide) ?_
          have hF9 : (fX4_insert sf nf p3 p4 p5) = ((-1 : Int32), sf, nf) := by rw [hF, fX4_insert_L3, if_pos c_6, if_neg c_27, if_neg c_36, if_pos c_50]
          have hP9 : va_P D vwCl (wA cyD cyI cyJ cyZ a1 a2 ((fX4_insert sf nf p3 p4 p5).2.1) ((fX4_insert sf nf p3 p4 p5).2.2)) H := by rw [hF9]; exact hP
          have hD9 : va_D A (wA cyD cyI cyJ cyZ a1 a2 ((fX4_insert sf nf p3 p4 p5).2.1) ((fX4_insert sf nf p3 p4 p5).2.2)) := by rw [hF9]; exact hD
          exact W.iret (v := (-1 : Int32)) hx hb hr (fun t ht hW => ⟨⟨(-1 : Int32), (), rfl, (by rw [hF9]), by rw [ht]; exact hP9, va_K.moved hW.alike hK, hD9⟩, hS.F ht⟩) hS.2.2 dX4_insert_54
        refine lv_aload_n hx hb dX4_insert_39 rfl (lv_at hl 2 rfl) ?_
        refine lv_iload hx hb dX4_insert_40 (lv_at hl 0 rfl) ?_
        refine lv_dload hx hb dX4_insert_42 (lv_at hl 5 rfl) ?_
        refine va_dast hx hb hK hP hD hS 1 0 rfl rfl (vp_in_nI (by omega) (by decide)) dX4_insert_44 (fun H locs hP hD hS => ?_)
        have hP : va_P D vwCl (wA cyD cyI cyJ cyZ a1 a2 sf (vf_upd nf ((nI j)).toNatClampNeg p5)) H := hP
        have hD : va_D A (wA cyD cyI cyJ cyZ a1 a2 sf (vf_upd nf ((nI j)).toNatClampNeg p5)) := hD
        refine lv_iload_n hx hb dX4_insert_45 rfl (lv_at hl 3 rfl) ?_
        have hF9 : (fX4_insert sf nf p3 p4 p5) = (p3, sf, (vf_upd nf ((nI j)).toNatClampNeg p5)) := by rw [hF, fX4_insert_L3, if_pos c_6, if_neg c_27, if_pos c_36]
        have hP9 : va_P D vwCl (wA cyD cyI cyJ cyZ a1 a2 ((fX4_insert sf nf p3 p4 p5).2.1) ((fX4_insert sf nf p3 p4 p5).2.2)) H := by rw [hF9]; exact hP
        have hD9 : va_D A (wA cyD cyI cyJ cyZ a1 a2 ((fX4_insert sf nf p3 p4 p5).2.1) ((fX4_insert sf nf p3 p4 p5).2.2)) := by rw [hF9]; exact hD
        exact W.iret (v := p3) hx hb hr (fun t ht hW => ⟨⟨p3, (), rfl, (by rw [hF9]), by rw [ht]; exact hP9, va_K.moved hW.alike hK, hD9⟩, hS.F ht⟩) hS.2.2 dX4_insert_46
      refine lv_aload_n hx hb dX4_insert_9 rfl (lv_at hl 1 rfl) ?_
      refine lv_iload hx hb dX4_insert_10 (lv_at hl 0 rfl) ?_
      refine va_dald hx hb hK hP 0 0 rfl rfl (vp_in_nI (by omega) (by decide)) dX4_insert_12 ?_
      refine lv_dload_n hx hb dX4_insert_13 rfl (lv_at hl 4 rfl) ?_
      refine lv_dcmp hx hb dX4_insert_14 ?_
      refine lv_if_ge (tgt := 24) hx hb dX4_insert_15 (by decide) (fun c_15 => ?_) (fun c_15 => ?_)
      · refine lv_iload hx hb dX4_insert_24 (lv_at hl 0 rfl) ?_
        refine lv_iload_n hx hb dX4_insert_26 rfl (lv_at hl 3 rfl) ?_
        refine lv_icmp_ge (tgt := 47) hx hb dX4_insert_27 (by decide) (fun c_27 => ?_) (fun c_27 => ?_)
        · refine lv_iload_n hx hb dX4_insert_47 rfl (lv_at hl 3 rfl) ?_
          refine lv_bipush (v := 20) hx hb dX4_insert_48 (by decide) ?_
          refine lv_icmp_ne (tgt := 55) hx hb dX4_insert_50 (by decide) (fun c_50 => ?_) (fun c_50 => ?_)
          · refine lv_iload_n hx hb dX4_insert_55 rfl (lv_at hl 3 rfl) ?_
            refine lv_istore (lv' := [(8, .int p3), (7, .int ((nI j))), (0, .ref a1), (1, .ref a2), (2, .int p3), (3, .double p4), (5, .double p5)]) hx hb dX4_insert_56 hl (by decide) rfl (fun ls hl => ?_)
            have loop_58 : ∀ (k : Nat) (i : Nat) (fs fn : Nat → UInt64) (H : Heap) (locs : List Loc), (i < k) → (i ≤ 20) → (fX4_insert sf nf p3 p4 p5) = fX4_insert_L58 sf nf (nI j) p3 p4 p5 k ((nI i)) (fs) (fn) → va_P D vwCl (wA cyD cyI cyJ cyZ a1 a2 (fs) (fn)) H → va_D A (wA cyD cyI cyJ cyZ a1 a2 (fs) (fn)) → va_S A s.heap H locs → ∀ ls, lv_has ls 9 [(8, .int ((nI i))), (7, .int ((nI j))), (0, .ref a1), (1, .ref a2), (2, .int p3), (3, .double p4), (5, .double p5)] → W p l e (headSpec wsX4_insert ({ frames := 0, cells := 0, slots := 0, locals := 0 } : Room)).room s m ([.ref a1, .ref a2, .int p3, .double p4, .double p5] : List Value).toArray below meth c H locs 0 0 (MQ below (va_Qi (fun (r : Int32) (_ : Unit) => r = (fX4_insert sf nf p3 p4 p5).1) (kE D (kT cyD cyI cyJ cyZ) (wA cyD cyI cyJ cyZ a1 a2 ((fX4_insert sf nf p3 p4 p5).2.1) ((fX4_insert sf nf p3 p4 p5).2.2)) A) A) ([.ref a1, .ref a2, .int p3, .double p4, .double p5] : List Value).toArray s 0 0 A) (F0 m 58 ls []) := by
              intro k_58
              induction k_58 with
              | zero => intro i fs fn H locs hi hi2 hF hP hD hS ls hl; exact absurd hi (by omega)
              | succ k_58 ih_58 =>
                intro i fs fn H locs hi hi2 hF hP hD hS ls hl
                refine lv_iload hx hb dX4_insert_58 (lv_at hl 0 rfl) ?_
                refine lv_iload hx hb dX4_insert_60 (lv_at hl 1 rfl) ?_
                refine lv_icmp_le (tgt := 91) hx hb dX4_insert_62 (by decide) (fun c_62 => ?_) (fun c_62 => ?_)
                · refine lv_aload_n hx hb dX4_insert_91 rfl (lv_at hl 2 rfl) ?_
                  refine lv_iload hx hb dX4_insert_92 (lv_at hl 1 rfl) ?_
                  refine lv_dload_n hx hb dX4_insert_94 rfl (lv_at hl 5 rfl) ?_
                  refine va_dast hx hb hK hP hD hS 0 0 rfl rfl (vp_in_nI (by omega) (by decide)) dX4_insert_95 (fun H locs hP hD hS => ?_)
                  have hP : va_P D vwCl (wA cyD cyI cyJ cyZ a1 a2 (vf_upd (fs) ((nI j)).toNatClampNeg p4) (fn)) H := hP
                  have hD : va_D A (wA cyD cyI cyJ cyZ a1 a2 (vf_upd (fs) ((nI j)).toNatClampNeg p4) (fn)) := hD
                  refine lv_aload_n hx hb dX4_insert_96 rfl (lv_at hl 3 rfl) ?_
                  refine lv_iload hx hb dX4_insert_97 (lv_at hl 1 rfl) ?_
                  refine lv_dload hx hb dX4_insert_99 (lv_at hl 6 rfl) ?_
                  refine va_dast hx hb hK hP hD hS 1 0 rfl rfl (vp_in_nI (by omega) (by decide)) dX4_insert_101 (fun H locs hP hD hS => ?_)
                  have hP : va_P D vwCl (wA cyD cyI cyJ cyZ a1 a2 (vf_upd (fs) ((nI j)).toNatClampNeg p4) (vf_upd (fn) ((nI j)).toNatClampNeg p5)) H := hP
                  have hD : va_D A (wA cyD cyI cyJ cyZ a1 a2 (vf_upd (fs) ((nI j)).toNatClampNeg p4) (vf_upd (fn) ((nI j)).toNatClampNeg p5)) := hD
                  refine lv_iload_n hx hb dX4_insert_102 rfl (lv_at hl 4 rfl) ?_
                  refine lv_iconst (v := 1) hx hb dX4_insert_103 (by decide) ?_
                  refine lv_iadd hx hb dX4_insert_104 ?_
                  have hF9 : (fX4_insert sf nf p3 p4 p5) = ((p3 + (1 : Int32)), (vf_upd (fs) ((nI j)).toNatClampNeg p4), (vf_upd (fn) ((nI j)).toNatClampNeg p5)) := by rw [hF, fX4_insert_L58, if_pos c_62]
                  have hP9 : va_P D vwCl (wA cyD cyI cyJ cyZ a1 a2 ((fX4_insert sf nf p3 p4 p5).2.1) ((fX4_insert sf nf p3 p4 p5).2.2)) H := by rw [hF9]; exact hP
                  have hD9 : va_D A (wA cyD cyI cyJ cyZ a1 a2 ((fX4_insert sf nf p3 p4 p5).2.1) ((fX4_insert sf nf p3 p4 p5).2.2)) := by rw [hF9]; exact hD
                  exact W.iret (v := (p3 + (1 : Int32))) hx hb hr (fun t ht hW => ⟨⟨(p3 + (1 : Int32)), (), rfl, (by rw [hF9]), by rw [ht]; exact hP9, va_K.moved hW.alike hK, hD9⟩, hS.F ht⟩) hS.2.2 dX4_insert_105
                refine lv_aload_n hx hb dX4_insert_65 rfl (lv_at hl 2 rfl) ?_
                refine lv_iload hx hb dX4_insert_66 (lv_at hl 0 rfl) ?_
                refine lv_aload_n hx hb dX4_insert_68 rfl (lv_at hl 2 rfl) ?_
                refine lv_iload hx hb dX4_insert_69 (lv_at hl 0 rfl) ?_
                refine lv_iconst (v := 1) hx hb dX4_insert_71 (by decide) ?_
                refine lv_isub hx hb dX4_insert_72 ?_
                refine va_dald hx hb hK hP 0 0 rfl rfl (by have h0 : i ≠ 0 := (fun z => c_62 (by rw [z]; exact nI_le (Nat.zero_le _) (by omega))); rw [nI_sub1 (by omega)]; exact vp_in_nI (by omega) (by decide)) dX4_insert_73 ?_
                refine va_dast hx hb hK hP hD hS 0 0 rfl rfl (vp_in_nI (by omega) (by decide)) dX4_insert_74 (fun H locs hP hD hS => ?_)
                have hP : va_P D vwCl (wA cyD cyI cyJ cyZ a1 a2 (vf_upd (fs) ((nI i)).toNatClampNeg ((fs) ((nI i) - (1 : Int32)).toNatClampNeg)) (fn)) H := hP
                have hD : va_D A (wA cyD cyI cyJ cyZ a1 a2 (vf_upd (fs) ((nI i)).toNatClampNeg ((fs) ((nI i) - (1 : Int32)).toNatClampNeg)) (fn)) := hD
                refine lv_aload_n hx hb dX4_insert_75 rfl (lv_at hl 3 rfl) ?_
                refine lv_iload hx hb dX4_insert_76 (lv_at hl 0 rfl) ?_
                refine lv_aload_n hx hb dX4_insert_78 rfl (lv_at hl 3 rfl) ?_
                refine lv_iload hx hb dX4_insert_79 (lv_at hl 0 rfl) ?_
                refine lv_iconst (v := 1) hx hb dX4_insert_81 (by decide) ?_
                refine lv_isub hx hb dX4_insert_82 ?_
                refine va_dald hx hb hK hP 1 0 rfl rfl (by have h0 : i ≠ 0 := (fun z => c_62 (by rw [z]; exact nI_le (Nat.zero_le _) (by omega))); rw [nI_sub1 (by omega)]; exact vp_in_nI (by omega) (by decide)) dX4_insert_83 ?_
                refine va_dast hx hb hK hP hD hS 1 0 rfl rfl (vp_in_nI (by omega) (by decide)) dX4_insert_84 (fun H locs hP hD hS => ?_)
                have hP : va_P D vwCl (wA cyD cyI cyJ cyZ a1 a2 (vf_upd (fs) ((nI i)).toNatClampNeg ((fs) ((nI i) - (1 : Int32)).toNatClampNeg)) (vf_upd (fn) ((nI i)).toNatClampNeg ((fn) ((nI i) - (1 : Int32)).toNatClampNeg))) H := hP
                have hD : va_D A (wA cyD cyI cyJ cyZ a1 a2 (vf_upd (fs) ((nI i)).toNatClampNeg ((fs) ((nI i) - (1 : Int32)).toNatClampNeg)) (vf_upd (fn) ((nI i)).toNatClampNeg ((fn) ((nI i) - (1 : Int32)).toNatClampNeg))) := hD
                refine lv_iinc (v := (((nI i)) + (-1))) (lv' := [(8, .int (((nI i)) + (-1))), (7, .int ((nI j))), (0, .ref a1), (1, .ref a2), (2, .int p3), (3, .double p4), (5, .double p5)]) hx hb dX4_insert_85 hl (k := 0) rfl rfl (by decide) rfl (fun ls hl => ?_)
                refine lv_goto (tgt := 58) hx hb dX4_insert_88 (by decide) ?_
                exact ih_58 (i - 1) (vf_upd (fs) ((nI i)).toNatClampNeg ((fs) ((nI i) - (1 : Int32)).toNatClampNeg)) (vf_upd (fn) ((nI i)).toNatClampNeg ((fn) ((nI i) - (1 : Int32)).toNatClampNeg)) _ _ (by have h0 : i ≠ 0 := (fun z => c_62 (by rw [z]; exact nI_le (Nat.zero_le _) (by omega))); omega) (by omega) (by have h0 : i ≠ 0 := (fun z => c_62 (by rw [z]; exact nI_le (Nat.zero_le _) (by omega))); rw [← pk_m1 (i - 1), show i - 1 + 1 = i from (by omega)]; rw [hF, fX4_insert_L58, if_neg c_62]) hP hD hS _ (by have h0 : i ≠ 0 := (fun z => c_62 (by rw [z]; exact nI_le (Nat.zero_le _) (by omega))); rw [← pk_m1 (i - 1), show i - 1 + 1 = i from (by omega)]; exact lv_sub hl [0, 1, 2, 3, 4, 5, 6] rfl)
            exact loop_58 21 r sf nf _ _ (by omega) (by omega) (by rw [← hr3]; rw [hF, fX4_insert_L3, if_neg c_6, if_pos c_15, if_pos c_27, if_neg c_50]) hP hD hS _ (by rw [← hr3]; exact lv_sub hl [0, 1, 2, 3, 4, 5, 6] rfl)
          refine lv_iconst (v := (-1)) hx hb dX4_insert_53 (by decide) ?_
          have hF9 : (fX4_insert sf nf p3 p4 p5) = ((-1 : Int32), sf, nf) := by rw [hF, fX4_insert_L3, if_neg c_6, if_pos c_15, if_pos c_27, if_pos c_50]
          have hP9 : va_P D vwCl (wA cyD cyI cyJ cyZ a1 a2 ((fX4_insert sf nf p3 p4 p5).2.1) ((fX4_insert sf nf p3 p4 p5).2.2)) H := by rw [hF9]; exact hP
          have hD9 : va_D A (wA cyD cyI cyJ cyZ a1 a2 ((fX4_insert sf nf p3 p4 p5).2.1) ((fX4_insert sf nf p3 p4 p5).2.2)) := by rw [hF9]; exact hD
          exact W.iret (v := (-1 : Int32)) hx hb hr (fun t ht hW => ⟨⟨(-1 : Int32), (), rfl, (by rw [hF9]), by rw [ht]; exact hP9, va_K.moved hW.alike hK, hD9⟩, hS.F ht⟩) hS.2.2 dX4_insert_54
        refine lv_aload_n hx hb dX4_insert_30 rfl (lv_at hl 1 rfl) ?_
        refine lv_iload hx hb dX4_insert_31 (lv_at hl 0 rfl) ?_
        refine va_dald hx hb hK hP 0 0 rfl rfl (vp_in_nI (by omega) (by decide)) dX4_insert_33 ?_
        refine lv_dload_n hx hb dX4_insert_34 rfl (lv_at hl 4 rfl) ?_
        refine lv_dcmp hx hb dX4_insert_35 ?_
        refine lv_if_ne (tgt := 47) hx hb dX4_insert_36 (by decide) (fun c_36 => ?_) (fun c_36 => ?_)
        · refine lv_iload_n hx hb dX4_insert_47 rfl (lv_at hl 3 rfl) ?_
          refine lv_bipush (v := 20) hx hb dX4_insert_48 (by decide) ?_
          refine lv_icmp_ne (tgt := 55) hx hb dX4_insert_50 (by decide) (fun c_50 => ?_) (fun c_50 => ?_)
          · refine lv_iload_n hx hb dX4_insert_55 rfl (lv_at hl 3 rfl) ?_
            refine lv_istore (lv' := [(8, .int p3), (7, .int ((nI j))), (0, .ref a1), (1, .ref a2), (2, .int p3), (3, .double p4), (5, .double p5)]) hx hb dX4_insert_56 hl (by decide) rfl (fun ls hl => ?_)
            have loop_58 : ∀ (k : Nat) (i : Nat) (fs fn : Nat → UInt64) (H : Heap) (locs : List Loc), (i < k) → (i ≤ 20) → (fX4_insert sf nf p3 p4 p5) = fX4_insert_L58 sf nf (nI j) p3 p4 p5 k ((nI i)) (fs) (fn) → va_P D vwCl (wA cyD cyI cyJ cyZ a1 a2 (fs) (fn)) H → va_D A (wA cyD cyI cyJ cyZ a1 a2 (fs) (fn)) → va_S A s.heap H locs → ∀ ls, lv_has ls 9 [(8, .int ((nI i))), (7, .int ((nI j))), (0, .ref a1), (1, .ref a2), (2, .int p3), (3, .double p4), (5, .double p5)] → W p l e (headSpec wsX4_insert ({ frames := 0, cells := 0, slots := 0, locals := 0 } : Room)).room s m ([.ref a1, .ref a2, .int p3, .double p4, .double p5] : List Value).toArray below meth c H locs 0 0 (MQ below (va_Qi (fun (r : Int32) (_ : Unit) => r = (fX4_insert sf nf p3 p4 p5).1) (kE D (kT cyD cyI cyJ cyZ) (wA cyD cyI cyJ cyZ a1 a2 ((fX4_insert sf nf p3 p4 p5).2.1) ((fX4_insert sf nf p3 p4 p5).2.2)) A) A) ([.ref a1, .ref a2, .int p3, .double p4, .double p5] : List Value).toArray s 0 0 A) (F0 m 58 ls []) := by
              intro k_58
              induction k_58 with
              | zero => intro i fs fn H locs hi hi2 hF hP hD hS ls hl; exact absurd hi (by omega)
              | succ k_58 ih_58 =>
                intro i fs fn H locs hi hi2 hF hP hD hS ls hl
                refine lv_iload hx hb dX4_insert_58 (lv_at hl 0 rfl) ?_
                refine lv_iload hx hb dX4_insert_60 (lv_at hl 1 rfl) ?_
                refine lv_icmp_le (tgt := 91) hx hb dX4_insert_62 (by decide) (fun c_62 => ?_) (fun c_62 => ?_)
                · refine lv_aload_n hx hb dX4_insert_91 rfl (lv_at hl 2 rfl) ?_
                  refine lv_iload hx hb dX4_insert_92 (lv_at hl 1 rfl) ?_
                  refine lv_dload_n hx hb dX4_insert_94 rfl (lv_at hl 5 rfl) ?_
                  refine va_dast hx hb hK hP hD hS 0 0 rfl rfl (vp_in_nI (by omega) (by decide)) dX4_insert_95 (fun H locs hP hD hS => ?_)
                  have hP : va_P D vwCl (wA cyD cyI cyJ cyZ a1 a2 (vf_upd (fs) ((nI j)).toNatClampNeg p4) (fn)) H := hP
                  have hD : va_D A (wA cyD cyI cyJ cyZ a1 a2 (vf_upd (fs) ((nI j)).toNatClampNeg p4) (fn)) := hD
                  refine lv_aload_n hx hb dX4_insert_96 rfl (lv_at hl 3 rfl) ?_
                  refine lv_iload hx hb dX4_insert_97 (lv_at hl 1 rfl) ?_
                  refine lv_dload hx hb dX4_insert_99 (lv_at hl 6 rfl) ?_
                  refine va_dast hx hb hK hP hD hS 1 0 rfl rfl (vp_in_nI (by omega) (by decide)) dX4_insert_101 (fun H locs hP hD hS => ?_)
                  have hP : va_P D vwCl (wA cyD cyI cyJ cyZ a1 a2 (vf_upd (fs) ((nI j)).toNatClampNeg p4) (vf_upd (fn) ((nI j)).toNatClampNeg p5)) H := hP
                  have hD : va_D A (wA cyD cyI cyJ cyZ a1 a2 (vf_upd (fs) ((nI j)).toNatClampNeg p4) (vf_upd (fn) ((nI j)).toNatClampNeg p5)) := hD
                  refine lv_iload_n hx hb dX4_insert_102 rfl (lv_at hl 4 rfl) ?_
                  refine lv_iconst (v := 1) hx hb dX4_insert_103 (by decide) ?_
                  refine lv_iadd hx hb dX4_insert_104 ?_
                  have hF9 : (fX4_insert sf nf p3 p4 p5) = ((p3 + (1 : Int32)), (vf_upd (fs) ((nI j)).toNatClampNeg p4), (vf_upd (fn) ((nI j)).toNatClampNeg p5)) := by rw [hF, fX4_insert_L58, if_pos c_62]
                  have hP9 : va_P D vwCl (wA cyD cyI cyJ cyZ a1 a2 ((fX4_insert sf nf p3 p4 p5).2.1) ((fX4_insert sf nf p3 p4 p5).2.2)) H := by rw [hF9]; exact hP
                  have hD9 : va_D A (wA cyD cyI cyJ cyZ a1 a2 ((fX4_insert sf nf p3 p4 p5).2.1) ((fX4_insert sf nf p3 p4 p5).2.2)) := by rw [hF9]; exact hD
                  exact W.iret (v := (p3 + (1 : Int32))) hx hb hr (fun t ht hW => ⟨⟨(p3 + (1 : Int32)), (), rfl, (by rw [hF9]), by rw [ht]; exact hP9, va_K.moved hW.alike hK, hD9⟩, hS.F ht⟩) hS.2.2 dX4_insert_105
                refine lv_aload_n hx hb dX4_insert_65 rfl (lv_at hl 2 rfl) ?_
                refine lv_iload hx hb dX4_insert_66 (lv_at hl 0 rfl) ?_
                refine lv_aload_n hx hb dX4_insert_68 rfl (lv_at hl 2 rfl) ?_
                refine lv_iload hx hb dX4_insert_69 (lv_at hl 0 rfl) ?_
                refine lv_iconst (v := 1) hx hb dX4_insert_71 (by decide) ?_
                refine lv_isub hx hb dX4_insert_72 ?_
                refine va_dald hx hb hK hP 0 0 rfl rfl (by have h0 : i ≠ 0 := (fun z => c_62 (by rw [z]; exact nI_le (Nat.zero_le _) (by omega))); rw [nI_sub1 (by omega)]; exact vp_in_nI (by omega) (by decide)) dX4_insert_73 ?_
                refine va_dast hx hb hK hP hD hS 0 0 rfl rfl (vp_in_nI (by omega) (by decide)) dX4_insert_74 (fun H locs hP hD hS => ?_)
                have hP : va_P D vwCl (wA cyD cyI cyJ cyZ a1 a2 (vf_upd (fs) ((nI i)).toNatClampNeg ((fs) ((nI i) - (1 : Int32)).toNatClampNeg)) (fn)) H := hP
                have hD : va_D A (wA cyD cyI cyJ cyZ a1 a2 (vf_upd (fs) ((nI i)).toNatClampNeg ((fs) ((nI i) - (1 : Int32)).toNatClampNeg)) (fn)) := hD
                refine lv_aload_n hx hb dX4_insert_75 rfl (lv_at hl 3 rfl) ?_
                refine lv_iload hx hb dX4_insert_76 (lv_at hl 0 rfl) ?_
                refine lv_aload_n hx hb dX4_insert_78 rfl (lv_at hl 3 rfl) ?_
                refine lv_iload hx hb dX4_insert_79 (lv_at hl 0 rfl) ?_
                refine lv_iconst (v := 1) hx hb dX4_insert_81 (by decide) ?_
                refine lv_isub hx hb dX4_insert_82 ?_
                refine va_dald hx hb hK hP 1 0 rfl rfl (by have h0 : i ≠ 0 := (fun z => c_62 (by rw [z]; exact nI_le (Nat.zero_le _) (by omega))); rw [nI_sub1 (by omega)]; exact vp_in_nI (by omega) (by decide)) dX4_insert_83 ?_
                refine va_dast hx hb hK hP hD hS 1 0 rfl rfl (vp_in_nI (by omega) (by decide)) dX4_insert_84 (fun H locs hP hD hS => ?_)
                have hP : va_P D vwCl (wA cyD cyI cyJ cyZ a1 a2 (vf_upd (fs) ((nI i)).toNatClampNeg ((fs) ((nI i) - (1 : Int32)).toNatClampNeg)) (vf_upd (fn) ((nI i)).toNatClampNeg ((fn) ((nI i) - (1 : Int32)).toNatClampNeg))) H := hP
                have hD : va_D A (wA cyD cyI cyJ cyZ a1 a2 (vf_upd (fs) ((nI i)).toNatClampNeg ((fs) ((nI i) - (1 : Int32)).toNatClampNeg)) (vf_upd (fn) ((nI i)).toNatClampNeg ((fn) ((nI i) - (1 : Int32)).toNatClampNeg))) := hD
                refine lv_iinc (v := (((nI i)) + (-1))) (lv' := [(8, .int (((nI i)) + (-1))), (7, .int ((nI j))), (0, .ref a1), (1, .ref a2), (2, .int p3), (3, .double p4), (5, .double p5)]) hx hb dX4_insert_85 hl (k := 0) rfl rfl (by decide) rfl (fun ls hl => ?_)
                refine lv_goto (tgt := 58) hx hb dX4_insert_88 (by decide) ?_
                exact ih_58 (i - 1) (vf_upd (fs) ((nI i)).toNatClampNeg ((fs) ((nI i) - (1 : Int32)).toNatClampNeg)) (vf_upd (fn) ((nI i)).toNatClampNeg ((fn) ((nI i) - (1 : Int32)).toNatClampNeg)) _ _ (by have h0 : i ≠ 0 := (fun z => c_62 (by rw [z]; exact nI_le (Nat.zero_le _) (by omega))); omega) (by omega) (by have h0 : i ≠ 0 := (fun z => c_62 (by rw [z]; exact nI_le (Nat.zero_le _) (by omega))); rw [← pk_m1 (i - 1), show i - 1 + 1 = i from (by omega)]; rw [hF, fX4_insert_L58, if_neg c_62]) hP hD hS _ (by have h0 : i ≠ 0 := (fun z => c_62 (by rw [z]; exact nI_le (Nat.zero_le _) (by omega))); rw [← pk_m1 (i - 1), show i - 1 + 1 = i from (by omega)]; exact lv_sub hl [0, 1, 2, 3, 4, 5, 6] rfl)
            exact loop_58 21 r sf nf _ _ (by omega) (by omega) (by rw [← hr3]; rw [hF, fX4_insert_L3, if_neg c_6, if_pos c_15, if_neg c_27, if_neg c_36, if_neg c_50]) hP hD hS _ (by rw [← hr3]; exact lv_sub hl [0, 1, 2, 3, 4, 5, 6] rfl)
          refine lv_iconst (v := (-1)) hx hb dX4_insert_53 (by decide) ?_
          have hF9 : (fX4_insert sf nf p3 p4 p5) = ((-1 : Int32), sf, nf) := by rw [hF, fX4_insert_L3, if_neg c_6, if_pos c_15, if_neg c_27, if_neg c_36, if_pos c_50]
          have hP9 : va_P D vwCl (wA cyD cyI cyJ cyZ a1 a2 ((fX4_insert sf nf p3 p4 p5).2.1) ((fX4_insert sf nf p3 p4 p5).2.2)) H := by rw [hF9]; exact hP
          have hD9 : va_D A (wA cyD cyI cyJ cyZ a1 a2 ((fX4_insert sf nf p3 p4 p5).2.1) ((fX4_insert sf nf p3 p4 p5).2.2)) := by rw [hF9]; exact hD
          exact W.iret (v := (-1 : Int32)) hx hb hr (fun t ht hW => ⟨⟨(-1 : Int32), (), rfl, (by rw [hF9]), by rw [ht]; exact hP9, va_K.moved hW.alike hK, hD9⟩, hS.F ht⟩) hS.2.2 dX4_insert_54
        refine lv_aload_n hx hb dX4_insert_39 rfl (lv_at hl 2 rfl) ?_
        refine lv_iload hx hb dX4_insert_40 (lv_at hl 0 rfl) ?_
        refine lv_dload hx hb dX4_insert_42 (lv_at hl 5 rfl) ?_
        refine va_dast hx hb hK hP hD hS 1 0 rfl rfl (vp_in_nI (by omega) (by decide)) dX4_insert_44 (fun H locs hP hD hS => ?_)
        have hP : va_P D vwCl (wA cyD cyI cyJ cyZ a1 a2 sf (vf_upd nf ((nI j)).toNatClampNeg p5)) H := hP
        have hD : va_D A (wA cyD cyI cyJ cyZ a1 a2 sf (vf_upd nf ((nI j)).toNatClampNeg p5)) := hD
        refine lv_iload_n hx hb dX4_insert_45 rfl (lv_at hl 3 rfl) ?_
        have hF9 : (fX4_insert sf nf p3 p4 p5) = (p3, sf, (vf_upd nf ((nI j)).toNatClampNeg p5)) := by rw [hF, fX4_insert_L3, if_neg c_6, if_pos c_15, if_neg c_27, if_pos c_36]
        have hP9 : va_P D vwCl (wA cyD cyI cyJ cyZ a1 a2 ((fX4_insert sf nf p3 p4 p5).2.1) ((fX4_insert sf nf p3 p4 p5).2.2)) H := by rw [hF9]; exact hP
        have hD9 : va_D A (wA cyD cyI cyJ cyZ a1 a2 ((fX4_insert sf nf p3 p4 p5).2.1) ((fX4_insert sf nf p3 p4 p5).2.2)) := by rw [hF9]; exact hD
        exact W.iret (v := p3) hx hb hr (fun t ht hW => ⟨⟨p3, (), rfl, (by rw [hF9]), by rw [ht]; exact hP9, va_K.moved hW.alike hK, hD9⟩, hS.F ht⟩) hS.2.2 dX4_insert_46
      refine lv_iinc (v := (((nI j)) + 1)) (lv' := [(7, .int (((nI j)) + 1)), (0, .ref a1), (1, .ref a2), (2, .int p3), (3, .double p4), (5, .double p5)]) hx hb dX4_insert_18 hl (k := 0) rfl rfl (by decide) rfl (fun ls hl => ?_)
      refine lv_goto (tgt := 3) hx hb dX4_insert_21 (by decide) ?_
      exact ih_3 (j + 1) _ _ (by omega) (by rw [hr3] at c_6; have := Nat.lt_of_not_le (fun q => c_6 (nI_le q (by omega))); omega) (by rw [← nI_1 j]; rw [hF, fX4_insert_L3, if_neg c_6, if_neg c_15]) hP hD hS _ (by rw [← nI_1 j]; exact lv_sub hl [0, 1, 2, 3, 4, 5] rfl)
  exact loop_3 21 0 _ _ rfl (Nat.zero_le _) (by rw [nI_0]; rw [fX4_insert]) hP hD hS _ (by exact lv_sub hl [0, 1, 2, 3, 4, 5] rfl)
def fX4_speed (msn : Int32) (msd : Nat → UInt64) (msv : Nat → UInt64) (p1 : UInt64) (p2 : UInt64) : Int32 × Int32 × (Nat → UInt64) × (Nat → UInt64) := if (fX4_within p1 FP.dconst0 (4666723172467343360 : UInt64)) = 0 then ((0 : Int32), msn, msd, msv) else (if (fX4_within p2 (4653432275910787072 : UInt64) (4655191494515228672 : UInt64)) = 0 then ((0 : Int32), msn, msd, msv) else (if (fX4_insert msd msv msn p1 p2).1 = (-1 : Int32) then (if (fX4_insert msd msv msn p1 p2).1 = (-1 : Int32) then ((0 : Int32), msn, (fX4_insert msd msv msn p1 p2).2.1, (fX4_insert msd msv msn p1 p2).2.2) else (((1 : Int32), msn, (fX4_insert msd msv msn p1 p2).2.1, (fX4_insert msd msv msn p1 p2).2.2))) else (if (fX4_insert msd msv msn p1 p2).1 = (-1 : Int32) then ((0 : Int32), (fX4_insert msd msv msn p1 p2).1, (fX4_insert msd msv msn p1 p2).2.1, (fX4_insert msd msv msn p1 p2).2.2) else (((1 : Int32), (fX4_insert msd msv msn p1 p2).1, (fX4_insert msd msv msn p1 p2).2.1, (fX4_insert msd msv msn p1 p2).2.2)))))
set_option maxHeartbeats 4000000 in
set_option maxRecDepth 100000 in
theorem c_X4_speed {l : Launch} {D : va_G} {cyD cyI cyJ cyZ : ClassId} (am bv bt bl be bdp bi bg bsd bsv bbd bbv br bu bw : Nat) (mn : Nat) (mm : UInt64) (mch : Int32) (msp : UInt64) (msb : UInt64) (mno : UInt64) (msn : Int32) (mbn : Int32) (mhr : Int32) (mro : Int32) (mv : Nat → UInt64) (mt : Nat → Int32) (ml : Nat → Int32) (med : Nat → Int32) (md : Nat → UInt64) (mi : Nat → UInt64) (mg : Nat → UInt64) (msd : Nat → UInt64) (msv : Nat → UInt64) (mbd : Nat → UInt64) (mbv : Nat → UInt64) (mr : Nat → Int32) (mu : Nat → Int64) (mw : Nat → Int32) (sz : Nat) (p1 : UInt64) (p2 : UInt64) (r : Nat) (hmsn : msn = nI r) (hr20 : r ≤ 20) : mZ l yX4_speed wsX4_speed ({ frames := 1, cells := 0, slots := 0, locals := 28 } : Room) D (kT cyD cyI cyJ cyZ) [.ref am, .double p1, .double p2] (wM cyD cyI cyJ cyZ am bv bt bl be bdp bi bg bsd bsv bbd bbv br bu bw mn mm mch msp msb mno msn mbn mhr mro mv mt ml med md mi mg msd msv mbd mbv mr mu mw) (wM cyD cyI cyJ cyZ am bv bt bl be bdp bi bg bsd bsv bbd bbv br bu bw mn mm mch msp msb mno ((fX4_speed msn msd msv p1 p2).2.1) mbn mhr mro mv mt ml med md mi mg ((fX4_speed msn msd msv p1 p2).2.2.1) ((fX4_speed msn msd msv p1 p2).2.2.2) mbd mbv mr mu mw) sz ((fX4_speed msn msd msv p1 p2).1) 0 0 := by
  refine Met.ofW (cc := cX4_speed) (maxL := 6) (ret := (some .boolean)) (by decide) rfl ?_
  intro p e s m args below meth c s₁ B hml hv
  obtain ⟨rfl, hN, hsz, hP, hK, hD0⟩ := hv
  have hx := B.exec
  have hb := B.bytes
  have hr := B.returns
  have hts := atoms_spec (ws := wsX4_speed) B.pre
  have hown : s.vm.findClass RX4 = some m.cls := findClass_of_methodNamed B.named
  have hlocks := B.notSynchronized
  subst hsz
  have hD := hD0.self (sz := s.heap.size)
  generalize hAe : va_A (wM cyD cyI cyJ cyZ am bv bt bl be bdp bi bg bsd bsv bbd bbv br bu bw mn mm mch msp msb mno msn mbn mhr mro mv mt ml med md mi mg msd msv mbd mbv mr mu mw) s.heap.size = A at hD ⊢
  have hA : ∀ q : Nat, s.heap.size ≤ q → A q := fun q h => by rw [← hAe]; exact Or.inr h
  have hS : va_S A s.heap s.heap [] := va_S.rf
  have hP : va_P D vwCl (wM cyD cyI cyJ cyZ am bv bt bl be bdp bi bg bsd bsv bbd bbv br bu bw mn mm mch msp msb mno msn mbn mhr mro mv mt ml med md mi mg msd msv mbd mbv mr mu mw) s.heap := hP
  have hl := lv_entry [.ref am, .double p1, .double p2] (n := 6) (Nat.le_of_ble_eq_true rfl)
  rw [lg_entry_eq]
  generalize (lg_sl [.ref am, .double p1, .double p2] ++ List.replicate (6 - (lg_sl [.ref am, .double p1, .double p2]).length) Slot.unset).toArray = ls at hl ⊢
  have hl : lv_has ls 6 [(0, .ref am), (1, .double p1), (3, .double p2)] := hl
  obtain ⟨H, hHe⟩ : ∃ H : Heap, H = s.heap := ⟨_, rfl⟩
  have hP : va_P D vwCl (wM cyD cyI cyJ cyZ am bv bt bl be bdp bi bg bsd bsv bbd bbv br bu bw mn mm mch msp msb mno msn mbn mhr mro mv mt ml med md mi mg msd msv mbd mbv mr mu mw) H := by rw [hHe]; exact hP
  have hS : va_S A s.heap H [] := by rw [hHe]; exact hS
  rw [← hHe]
  refine lv_dload_n hx hb dX4_speed_0 rfl (lv_at hl 1 rfl) ?_
  refine lv_dconst0 hx hb dX4_speed_1 ?_
  refine lv_ldc2d (v := 4666723172467343360) hx hb hown (hts (.constantDouble RX4 92 (4666723172467343360)) (List.mem_of_getElem? (i := 1) rfl)) dX4_speed_2 ?_
  have hPc : va_P D vwCl [] H := hP.sub [] rfl
  have hDc : va_D A [] := hD.sub [] (by decide) rfl
  refine kzE (ws' := (wM cyD cyI cyJ cyZ am bv bt bl be bdp bi bg bsd bsv bbd bbv br bu bw mn mm mch msp msb mno msn mbn mhr mro mv mt ml med md mi mg msd msv mbd mbv mr mu mw)) (wc := []) (wr := [(am, .inr (4, [.int (nI mn), .double mm, .ref bv, .ref bt, .ref bl, .ref be, .ref bdp, .ref bi, .ref bg, .int mch, .double msp, .double msb, .double mno, .int msn, .ref bsd, .ref bsv, .int mbn, .ref bbd, .ref bbv, .int mhr, .int mro, .ref br, .ref bu, .ref bw])), (bv, .inl (cyD, 8192, .inr (.inr (.inr (.inl mv))))), (bt, .inl (cyZ, 8192, .inl mt)), (bl, .inl (cyZ, 32, .inl ml)), (be, .inl (cyZ, 32, .inl med)), (bdp, .inl (cyD, 32, .inr (.inr (.inr (.inl md))))), (bi, .inl (cyD, 32, .inr (.inr (.inr (.inl mi))))), (bg, .inl (cyD, 32, .inr (.inr (.inr (.inl mg))))), (bsd, .inl (cyD, 21, .inr (.inr (.inr (.inl msd))))), (bsv, .inl (cyD, 21, .inr (.inr (.inr (.inl msv))))), (bbd, .inl (cyD, 21, .inr (.inr (.inr (.inl mbd))))), (bbv, .inl (cyD, 21, .inr (.inr (.inr (.inl mbv))))), (br, .inl (cyI, 32, .inl mr)), (bu, .inl (cyJ, 2048, .inr (.inl mu))), (bw, .inl (cyI, 32, .inl mw))]) (w1 := []) (va_runS (As := [.double p1, .double FP.dconst0, .double (4666723172467343360 : UInt64)]) (rest := []) ⟨hx, hb, hml, hown, hts⟩ (c_X4_within (l := l) (D := D) (cyD := cyD) (cyI := cyI) (cyJ := cyJ) (cyZ := cyZ) H.size p1 FP.dconst0 (4666723172467343360 : UInt64)) (va_cwS 3 hts gX4_speed_X4_within rfl rfl rfl (by decide +kernel) ⟨Nat.le_of_ble_eq_true rfl, Nat.le_of_ble_eq_true rfl⟩) (kS hN hK hPc hDc) rfl rfl hl.1 rfl (lv_room (Nat.le_of_ble_eq_true rfl)) dX4_speed_5 ⟨Nat.le_of_ble_eq_true rfl, Nat.le_of_ble_eq_true rfl⟩) hP hD hS hA [] [0, 1, 2, 3, 4, 5, 6, 7, 8, 9, 10, 11, 12, 13, 14] [0, 1, 2, 3, 4, 5, 6, 7, 8, 9, 10, 11, 12, 13, 14] rfl rfl (by decide) (by decide) rfl (by decide) (fun H locs hz_5 hP hD hS => ?_)
  refine lv_if_eq (tgt := 24) hx hb dX4_speed_8 (by decide) (fun c_8 => ?_) (fun c_8 => ?_)
  · refine lv_iconst (v := 0) hx hb dX4_speed_24 (by decide) ?_
    have hF9 : (fX4_speed msn msd msv p1 p2) = ((0 : Int32), msn, msd, msv) := by rw [fX4_speed, if_pos c_8]
    have hP9 : va_P D vwCl (wM cyD cyI cyJ cyZ am bv bt bl be bdp bi bg bsd bsv bbd bbv br bu bw mn mm mch msp msb mno ((fX4_speed msn msd msv p1 p2).2.1) mbn mhr mro mv mt ml med md mi mg ((fX4_speed msn msd msv p1 p2).2.2.1) ((fX4_speed msn msd msv p1 p2).2.2.2) mbd mbv mr mu mw) H := by rw [hF9]; exact hP
    have hD9 : va_D A (wM cyD cyI cyJ cyZ am bv bt bl be bdp bi bg bsd bsv bbd bbv br bu bw mn mm mch msp msb mno ((fX4_speed msn msd msv p1 p2).2.1) mbn mhr mro mv mt ml med md mi mg ((fX4_speed msn msd msv p1 p2).2.2.1) ((fX4_speed msn msd msv p1 p2).2.2.2) mbd mbv mr mu mw) := by rw [hF9]; exact hD
    exact W.zret (v := (0 : Int32)) hx hb hr (nar_z (Or.inl rfl)) (fun t ht hW => ⟨⟨(0 : Int32), (), rfl, ⟨(by rw [hF9]), (Or.inl rfl)⟩, by rw [ht]; exact hP9, va_K.moved hW.alike hK, hD9⟩, hS.F ht⟩) hS.2.2 dX4_speed_25
  refine lv_dload_n hx hb dX4_speed_11 rfl (lv_at hl 2 rfl) ?_
  refine lv_ldc2d (v := 4653432275910787072) hx hb hown (hts (.constantDouble RX4 173 (4653432275910787072)) (List.mem_of_getElem? (i := 2) rfl)) dX4_speed_12 ?_
  refine lv_ldc2d (v := 4655191494515228672) hx hb hown (hts (.constantDouble RX4 175 (4655191494515228672)) (List.mem_of_getElem? (i := 3) rfl)) dX4_speed_15 ?_
  have hPc : va_P D vwCl [] H := hP.sub [] rfl
  have hDc : va_D A [] := hD.sub [] (by decide) rfl
  refine kzE (ws' := (wM cyD cyI cyJ cyZ am bv bt bl be bdp bi bg bsd bsv bbd bbv br bu bw mn mm mch msp msb mno msn mbn mhr mro mv mt ml med md mi mg msd msv mbd mbv mr mu mw)) (wc := []) (wr := [(am, .inr (4, [.int (nI mn), .double mm, .ref bv, .ref bt, .ref bl, .ref be, .ref bdp, .ref bi, .ref bg, .int mch, .double msp, .double msb, .double mno, .int msn, .ref bsd, .ref bsv, .int mbn, .ref bbd, .ref bbv, .int mhr, .int mro, .ref br, .ref bu, .ref bw])), (bv, .inl (cyD, 8192, .inr (.inr (.inr (.inl mv))))), (bt, .inl (cyZ, 8192, .inl mt)), (bl, .inl (cyZ, 32, .inl ml)), (be, .inl (cyZ, 32, .inl med)), (bdp, .inl (cyD, 32, .inr (.inr (.inr (.inl md))))), (bi, .inl (cyD, 32, .inr (.inr (.inr (.inl mi))))), (bg, .inl (cyD, 32, .inr (.inr (.inr (.inl mg))))), (bsd, .inl (cyD, 21, .inr (.inr (.inr (.inl msd))))), (bsv, .inl (cyD, 21, .inr (.inr (.inr (.inl msv))))), (bbd, .inl (cyD, 21, .inr (.inr (.inr (.inl mbd))))), (bbv, .inl (cyD, 21, .inr (.inr (.inr (.inl mbv))))), (br, .inl (cyI, 32, .inl mr)), (bu, .inl (cyJ, 2048, .inr (.inl mu))), (bw, .inl (cyI, 32, .inl mw))]) (w1 := []) (va_runS (As := [.double p2, .double (4653432275910787072 : UInt64), .double (4655191494515228672 : UInt64)]) (rest := []) ⟨hx, hb, hml, hown, hts⟩ (c_X4_within (l := l) (D := D) (cyD := cyD) (cyI := cyI) (cyJ := cyJ) (cyZ := cyZ) H.size p2 (4653432275910787072 : UInt64) (4655191494515228672 : UInt64)) (va_cwS 3 hts gX4_speed_X4_within rfl rfl rfl (by decide +kernel) ⟨Nat.le_of_ble_eq_true rfl, Nat.le_of_ble_eq_true rfl⟩) (kS hN hK hPc hDc) rfl rfl hl.1 rfl (lv_room (Nat.le_of_ble_eq_true rfl)) dX4_speed_18 ⟨Nat.le_of_ble_eq_true rfl, Nat.le_of_ble_eq_true rfl⟩) hP hD hS hA [] [0, 1, 2, 3, 4, 5, 6, 7, 8, 9, 10, 11, 12, 13, 14] [0, 1, 2, 3, 4, 5, 6, 7, 8, 9, 10, 11, 12, 13, 14] rfl rfl (by decide) (by decide) rfl (by decide) (fun H locs hz_18 hP hD hS => ?_)
  refine lv_if_ne (tgt := 26) hx hb dX4_speed_21 (by decide) (fun c_21 => ?_) (fun c_21 => ?_)
  · refine lv_aload_n hx hb dX4_speed_26 rfl (lv_at hl 0 rfl) ?_
    refine va_get (D := D) (ci := 4) (v := .ref bsd) (C := RX4) (T := TX4) (N := 24) hx hb hts (fun _ h => (List.mem_cons_of_mem _ (List.mem_append_right _ h))) hown hK hP 0 rfl rfl 14 (by decide) (hts (.fieldLink RX4 32 "BottomWalksModel" "speedDepths" "[D") (List.mem_of_getElem? (i := 4) rfl)) (fun _ h9 => h9) rfl dX4_speed_27 ?_
    refine lv_aload_n hx hb dX4_speed_30 rfl (lv_at hl 0 rfl) ?_
    refine va_get (D := D) (ci := 4) (v := .ref bsv) (C := RX4) (T := TX4) (N := 24) hx hb hts (fun _ h => (List.mem_cons_of_mem _ (List.mem_append_right _ h))) hown hK hP 0 rfl rfl 15 (by decide) (hts (.fieldLink RX4 35 "BottomWalksModel" "speedValues" "[D") (List.mem_of_getElem? (i := 5) rfl)) (fun _ h9 => h9) rfl dX4_speed_31 ?_
    refine lv_aload_n hx hb dX4_speed_34 rfl (lv_at hl 0 rfl) ?_
    refine va_get (D := D) (ci := 4) (v := .int msn) (C := RX4) (T := TX4) (N := 24) hx hb hts (fun _ h => (List.mem_cons_of_mem _ (List.mem_append_right _ h))) hown hK hP 0 rfl rfl 13 (by decide) (hts (.fieldLink RX4 177 "BottomWalksModel" "speeds" "I") (List.mem_of_getElem? (i := 6) rfl)) (fun _ h9 => h9) rfl dX4_speed_35 ?_
    refine lv_dload_n hx hb dX4_speed_38 rfl (lv_at hl 1 rfl) ?_
    refine lv_dload_n hx hb dX4_speed_39 rfl (lv_at hl 2 rfl) ?_
    have hPc : va_P D vwCl (wA cyD cyI cyJ cyZ bsd bsv msd msv) H := hP.sub [8, 9] rfl
    have hDc : va_D A (wA cyD cyI cyJ cyZ bsd bsv msd msv) := hD.sub [8, 9] (by decide) rfl
    refine kiE (ws' := (wM cyD cyI cyJ cyZ am bv bt bl be bdp bi bg bsd bsv bbd bbv br bu bw mn mm mch msp msb mno msn mbn mhr mro mv mt ml med md mi mg ((fX4_insert msd msv msn p1 p2).2.1) ((fX4_insert msd msv msn p1 p2).2.2) mbd mbv mr mu mw)) (wc := (wA cyD cyI cyJ cyZ bsd bsv msd msv)) (wr := [(am, .inr (4, [.int (nI mn), .double mm, .ref bv, .ref bt, .ref bl, .ref be, .ref bdp, .ref bi, .ref bg, .int mch, .double msp, .double msb, .double mno, .int msn, .ref bsd, .ref bsv, .int mbn, .ref bbd, .ref bbv, .int mhr, .int mro, .ref br, .ref bu, .ref bw])), (bv, .inl (cyD, 8192, .inr (.inr (.inr (.inl mv))))), (bt, .inl (cyZ, 8192, .inl mt)), (bl, .inl (cyZ, 32, .inl ml)), (be, .inl (cyZ, 32, .inl med)), (bdp, .inl (cyD, 32, .inr (.inr (.inr (.inl md))))), (bi, .inl (cyD, 32, .inr (.inr (.inr (.inl mi))))), (bg, .inl (cyD, 32, .inr (.inr (.inr (.inl mg))))), (bbd, .inl (cyD, 21, .inr (.inr (.inr (.inl mbd))))), (bbv, .inl (cyD, 21, .inr (.inr (.inr (.inl mbv))))), (br, .inl (cyI, 32, .inl mr)), (bu, .inl (cyJ, 2048, .inr (.inl mu))), (bw, .inl (cyI, 32, .inl mw))]) (w1 := (wA cyD cyI cyJ cyZ bsd bsv ((fX4_insert msd msv msn p1 p2).2.1) ((fX4_insert msd msv msn p1 p2).2.2))) (va_runS (As := [.ref bsd, .ref bsv, .int msn, .double p1, .double p2]) (rest := []) ⟨hx, hb, hml, hown, hts⟩ (c_X4_insert (l := l) (D := D) (cyD := cyD) (cyI := cyI) (cyJ := cyJ) (cyZ := cyZ) bsd bsv msd msv H.size msn p1 p2 r hmsn hr20) (va_cwS 5 hts gX4_speed_X4_insert rfl rfl rfl (by decide +kernel) ⟨Nat.le_of_ble_eq_true rfl, Nat.le_of_ble_eq_true rfl⟩) (kS hN hK hPc hDc) rfl rfl hl.1 rfl (lv_room (Nat.le_of_ble_eq_true rfl)) dX4_speed_40 ⟨Nat.le_of_ble_eq_true rfl, Nat.le_of_ble_eq_true rfl⟩) hP hD hS hA [8, 9] [0, 1, 2, 3, 4, 5, 6, 7, 10, 11, 12, 13, 14] [0, 1, 2, 3, 4, 5, 6, 7, 13, 14, 8, 9, 10, 11, 12] rfl rfl (by decide) (by decide) rfl (by decide) (fun H locs hP hD hS => ?_)
    refine lv_istore (lv' := [(5, .int ((fX4_insert msd msv msn p1 p2).1)), (0, .ref am), (1, .double p1), (3, .double p2)]) hx hb dX4_speed_43 hl (by decide) rfl (fun ls hl => ?_)
    refine lv_aload_n hx hb dX4_speed_45 rfl (lv_at hl 1 rfl) ?_
    refine lv_iload hx hb dX4_speed_46 (lv_at hl 0 rfl) ?_
    refine lv_iconst (v := (-1)) hx hb dX4_speed_48 (by decide) ?_
    refine lv_icmp_ne (tgt := 59) hx hb dX4_speed_49 (by decide) (fun c_49 => ?_) (fun c_49 => ?_)
    · refine lv_iload hx hb dX4_speed_59 (lv_at hl 0 rfl) ?_
      refine va_put (D := D) (ci := 4) (v := .int ((fX4_insert msd msv msn p1 p2).1)) (ty := .int) (C := RX4) (T := TX4) (N := 24) hx hb hts (fun _ h => (List.mem_cons_of_mem _ (List.mem_append_right _ h))) tyX4 tyX4_ok nmX4 hown hK hP hD hS 0 rfl rfl 13 (by decide) (hts (.fieldLink RX4 177 "BottomWalksModel" "speeds" "I") (List.mem_of_getElem? (i := 6) rfl)) (fun _ h9 => h9) rfl (by decide +kernel) rfl rfl (Nat.le_of_ble_eq_true rfl) dX4_speed_61 (fun H locs hP hD hS => ?_)
      have hP : va_P D vwCl (wM cyD cyI cyJ cyZ am bv bt bl be bdp bi bg bsd bsv bbd bbv br bu bw mn mm mch msp msb mno ((fX4_insert msd msv msn p1 p2).1) mbn mhr mro mv mt ml med md mi mg ((fX4_insert msd msv msn p1 p2).2.1) ((fX4_insert msd msv msn p1 p2).2.2) mbd mbv mr mu mw) H := hP
      have hD : va_D A (wM cyD cyI cyJ cyZ am bv bt bl be bdp bi bg bsd bsv bbd bbv br bu bw mn mm mch msp msb mno ((fX4_insert msd msv msn p1 p2).1) mbn mhr mro mv mt ml med md mi mg ((fX4_insert msd msv msn p1 p2).2.1) ((fX4_insert msd msv msn p1 p2).2.2) mbd mbv mr mu mw) := hD
      refine lv_iload hx hb dX4_speed_64 (lv_at hl 0 rfl) ?_
      refine lv_iconst (v := (-1)) hx hb dX4_speed_66 (by decide) ?_
      refine lv_icmp_eq (tgt := 74) hx hb dX4_speed_67 (by decide) (fun c_67 => ?_) (fun c_67 => ?_)
      · refine lv_iconst (v := 0) hx hb dX4_speed_74 (by decide) ?_
        have hF9 : (fX4_speed msn msd msv p1 p2) = ((0 : Int32), (fX4_insert msd msv msn p1 p2).1, (fX4_insert msd msv msn p1 p2).2.1, (fX4_insert msd msv msn p1 p2).2.2) := by rw [fX4_speed, if_neg c_8, if_neg c_21, if_neg c_49, if_pos c_67]
        have hP9 : va_P D vwCl (wM cyD cyI cyJ cyZ am bv bt bl be bdp bi bg bsd bsv bbd bbv br bu bw mn mm mch msp msb mno ((fX4_speed msn msd msv p1 p2).2.1) mbn mhr mro mv mt ml med md mi mg ((fX4_speed msn msd msv p1 p2).2.2.1) ((fX4_speed msn msd msv p1 p2).2.2.2) mbd mbv mr mu mw) H := by rw [hF9]; exact hP
        have hD9 : va_D A (wM cyD cyI cyJ cyZ am bv bt bl be bdp bi bg bsd bsv bbd bbv br bu bw mn mm mch msp msb mno ((fX4_speed msn msd msv p1 p2).2.1) mbn mhr mro mv mt ml med md mi mg ((fX4_speed msn msd msv p1 p2).2.2.1) ((fX4_speed msn msd msv p1 p2).2.2.2) mbd mbv mr mu mw) := by rw [hF9]; exact hD
        exact W.zret (v := (0 : Int32)) hx hb hr (nar_z (Or.inl rfl)) (fun t ht hW => ⟨⟨(0 : Int32), (), rfl, ⟨(by rw [hF9]), (Or.inl rfl)⟩, by rw [ht]; exact hP9, va_K.moved hW.alike hK, hD9⟩, hS.F ht⟩) hS.2.2 dX4_speed_75
      refine lv_iconst (v := 1) hx hb dX4_speed_70 (by decide) ?_
      refine lv_goto (tgt := 75) hx hb dX4_speed_71 (by decide) ?_
      have hF9 : (fX4_speed msn msd msv p1 p2) = ((1 : Int32), (fX4_insert msd msv msn p1 p2).1, (fX4_insert msd msv msn p1 p2).2.1, (fX4_insert msd msv msn p1 p2).2.2) := by rw [fX4_speed, if_neg c_8, if_neg c_21, if_neg c_49, if_neg c_67]
      have hP9 : va_P D vwCl (wM cyD cyI cyJ cyZ am bv bt bl be bdp bi bg bsd bsv bbd bbv br bu bw mn mm mch msp msb mno ((fX4_speed msn msd msv p1 p2).2.1) mbn mhr mro mv mt ml med md mi mg ((fX4_speed msn msd msv p1 p2).2.2.1) ((fX4_speed msn msd msv p1 p2).2.2.2) mbd mbv mr mu mw) H := by rw [hF9]; exact hP
      have hD9 : va_D A (wM cyD cyI cyJ cyZ am bv bt bl be bdp bi bg bsd bsv bbd bbv br bu bw mn mm mch msp msb mno ((fX4_speed msn msd msv p1 p2).2.1) mbn mhr mro mv mt ml med md mi mg ((fX4_speed msn msd msv p1 p2).2.2.1) ((fX4_speed msn msd msv p1 p2).2.2.2) mbd mbv mr mu mw) := by rw [hF9]; exact hD
      exact W.zret (v := (1 : Int32)) hx hb hr (nar_z (Or.inr rfl)) (fun t ht hW => ⟨⟨(1 : Int32), (), rfl, ⟨(by rw [hF9]), (Or.inr rfl)⟩, by rw [ht]; exact hP9, va_K.moved hW.alike hK, hD9⟩, hS.F ht⟩) hS.2.2 dX4_speed_75
    refine lv_aload_n hx hb dX4_speed_52 rfl (lv_at hl 1 rfl) ?_
    refine va_get (D := D) (ci := 4) (v := .int msn) (C := RX4) (T := TX4) (N := 24) hx hb hts (fun _ h => (List.mem_cons_of_mem _ (List.mem_append_right _ h))) hown hK hP 0 rfl rfl 13 (by decide) (hts (.fieldLink RX4 177 "BottomWalksModel" "speeds" "I") (List.mem_of_getElem? (i := 6) rfl)) (fun _ h9 => h9) rfl dX4_speed_53 ?_
    refine lv_goto (tgt := 61) hx hb dX4_speed_56 (by decide) ?_
    refine va_put (D := D) (ci := 4) (v := .int msn) (ty := .int) (C := RX4) (T := TX4) (N := 24) hx hb hts (fun _ h => (List.mem_cons_of_mem _ (List.mem_append_right _ h))) tyX4 tyX4_ok nmX4 hown hK hP hD hS 0 rfl rfl 13 (by decide) (hts (.fieldLink RX4 177 "BottomWalksModel" "speeds" "I") (List.mem_of_getElem? (i := 6) rfl)) (fun _ h9 => h9) rfl (by decide +kernel) rfl rfl (Nat.le_of_ble_eq_true rfl) dX4_speed_61 (fun H locs hP hD hS => ?_)
    have hP : va_P D vwCl (wM cyD cyI cyJ cyZ am bv bt bl be bdp bi bg bsd bsv bbd bbv br bu bw mn mm mch msp msb mno msn mbn mhr mro mv mt ml med md mi mg ((fX4_insert msd msv msn p1 p2).2.1) ((fX4_insert msd msv msn p1 p2).2.2) mbd mbv mr mu mw) H := hP
    have hD : va_D A (wM cyD cyI cyJ cyZ am bv bt bl be bdp bi bg bsd bsv bbd bbv br bu bw mn mm mch msp msb mno msn mbn mhr mro mv mt ml med md mi mg ((fX4_insert msd msv msn p1 p2).2.1) ((fX4_insert msd msv msn p1 p2).2.2) mbd mbv mr mu mw) := hD
    refine lv_iload hx hb dX4_speed_64 (lv_at hl 0 rfl) ?_
    refine lv_iconst (v := (-1)) hx hb dX4_speed_66 (by decide) ?_
    refine lv_icmp_eq (tgt := 74) hx hb dX4_speed_67 (by decide) (fun c_67 => ?_) (fun c_67 => ?_)
    · refine lv_iconst (v := 0) hx hb dX4_speed_74 (by decide) ?_
      have hF9 : (fX4_speed msn msd msv p1 p2) = ((0 : Int32), msn, (fX4_insert msd msv msn p1 p2).2.1, (fX4_insert msd msv msn p1 p2).2.2) := by rw [fX4_speed, if_neg c_8, if_neg c_21, if_pos c_49, if_pos c_67]
      have hP9 : va_P D vwCl (wM cyD cyI cyJ cyZ am bv bt bl be bdp bi bg bsd bsv bbd bbv br bu bw mn mm mch msp msb mno ((fX4_speed msn msd msv p1 p2).2.1) mbn mhr mro mv mt ml med md mi mg ((fX4_speed msn msd msv p1 p2).2.2.1) ((fX4_speed msn msd msv p1 p2).2.2.2) mbd mbv mr mu mw) H := by rw [hF9]; exact hP
      have hD9 : va_D A (wM cyD cyI cyJ cyZ am bv bt bl be bdp bi bg bsd bsv bbd bbv br bu bw mn mm mch msp msb mno ((fX4_speed msn msd msv p1 p2).2.1) mbn mhr mro mv mt ml med md mi mg ((fX4_speed msn msd msv p1 p2).2.2.1) ((fX4_speed msn msd msv p1 p2).2.2.2) mbd mbv mr mu mw) := by rw [hF9]; exact hD
      exact W.zret (v := (0 : Int32)) hx hb hr (nar_z (Or.inl rfl)) (fun t ht hW => ⟨⟨(0 : Int32), (), rfl, ⟨(by rw [hF9]), (Or.inl rfl)⟩, by rw [ht]; exact hP9, va_K.moved hW.alike hK, hD9⟩, hS.F ht⟩) hS.2.2 dX4_speed_75
    refine lv_iconst (v := 1) hx hb dX4_speed_70 (by decide) ?_
    refine lv_goto (tgt := 75) hx hb dX4_speed_71 (by decide) ?_
    have hF9 : (fX4_speed msn msd msv p1 p2) = ((1 : Int32), msn, (fX4_insert msd msv msn p1 p2).2.1, (fX4_insert msd msv msn p1 p2).2.2) := by rw [fX4_speed, if_neg c_8, if_neg c_21, if_pos c_49, if_neg c_67]
    have hP9 : va_P D vwCl (wM cyD cyI cyJ cyZ am bv bt bl be bdp bi bg bsd bsv bbd bbv br bu bw mn mm mch msp msb mno ((fX4_speed msn msd msv p1 p2).2.1) mbn mhr mro mv mt ml med md mi mg ((fX4_speed msn msd msv p1 p2).2.2.1) ((fX4_speed msn msd msv p1 p2).2.2.2) mbd mbv mr mu mw) H := by rw [hF9]; exact hP
    have hD9 : va_D A (wM cyD cyI cyJ cyZ am bv bt bl be bdp bi bg bsd bsv bbd bbv br bu bw mn mm mch msp msb mno ((fX4_speed msn msd msv p1 p2).2.1) mbn mhr mro mv mt ml med md mi mg ((fX4_speed msn msd msv p1 p2).2.2.1) ((fX4_speed msn msd msv p1 p2).2.2.2) mbd mbv mr mu mw) := by rw [hF9]; exact hD
    exact W.zret (v := (1 : Int32)) hx hb hr (nar_z (Or.inr rfl)) (fun t ht hW => ⟨⟨(1 : Int32), (), rfl, ⟨(by rw [hF9]), (Or.inr rfl)⟩, by rw [ht]; exact hP9, va_K.moved hW.alike hK, hD9⟩, hS.F ht⟩) hS.2.2 dX4_speed_75
  refine lv_iconst (v := 0) hx hb dX4_speed_24 (by decide) ?_
  have hF9 : (fX4_speed msn msd msv p1 p2) = ((0 : Int32), msn, msd, msv) := by rw [fX4_speed, if_neg c_8, if_pos c_21]
  have hP9 : va_P D vwCl (wM cyD cyI cyJ cyZ am bv bt bl be bdp bi bg bsd bsv bbd bbv br bu bw mn mm mch msp msb mno ((fX4_speed msn msd msv p1 p2).2.1) mbn mhr mro mv mt ml med md mi mg ((fX4_speed msn msd msv p1 p2).2.2.1) ((fX4_speed msn msd msv p1 p2).2.2.2) mbd mbv mr mu mw) H := by rw [hF9]; exact hP
  have hD9 : va_D A (wM cyD cyI cyJ cyZ am bv bt bl be bdp bi bg bsd bsv bbd bbv br bu bw mn mm mch msp msb mno ((fX4_speed msn msd msv p1 p2).2.1) mbn mhr mro mv mt ml med md mi mg ((fX4_speed msn msd msv p1 p2).2.2.1) ((fX4_speed msn msd msv p1 p2).2.2.2) mbd mbv mr mu mw) := by rw [hF9]; exact hD
  exact W.zret (v := (0 : Int32)) hx hb hr (nar_z (Or.inl rfl)) (fun t ht hW => ⟨⟨(0 : Int32), (), rfl, ⟨(by rw [hF9]), (Or.inl rfl)⟩, by rw [ht]; exact hP9, va_K.moved hW.alike hK, hD9⟩, hS.F ht⟩) hS.2.2 dX4_speed_25
def fX4_ball (mbn : Int32) (mbd : Nat → UInt64) (mbv : Nat → UInt64) (p1 : UInt64) (p2 : UInt64) : Int32 × Int32 × (Nat → UInt64) × (Nat → UInt64) := if (fX4_within p1 FP.dconst0 (4681608360884174848 : UInt64)) = 0 then ((0 : Int32), mbn, mbd, mbv) else (if (fX4_within p2 (4591870180066957722 : UInt64) (4621819117588971520 : UInt64)) = 0 then ((0 : Int32), mbn, mbd, mbv) else (if (fX4_insert mbd mbv mbn p1 p2).1 = (-1 : Int32) then (if (fX4_insert mbd mbv mbn p1 p2).1 = (-1 : Int32) then ((0 : Int32), mbn, (fX4_insert mbd mbv mbn p1 p2).2.1, (fX4_insert mbd mbv mbn p1 p2).2.2) else (((1 : Int32), mbn, (fX4_insert mbd mbv mbn p1 p2).2.1, (fX4_insert mbd mbv mbn p1 p2).2.2))) else (if (fX4_insert mbd mbv mbn p1 p2).1 = (-1 : Int32) then ((0 : Int32), (fX4_insert mbd mbv mbn p1 p2).1, (fX4_insert mbd mbv mbn p1 p2).2.1, (fX4_insert mbd mbv mbn p1 p2).2.2) else (((1 : Int32), (fX4_insert mbd mbv mbn p1 p2).1, (fX4_insert mbd mbv mbn p1 p2).2.1, (fX4_insert mbd mbv mbn p1 p2).2.2)))))
set_option maxHeartbeats 4000000 in
set_option maxRecDepth 100000 in
theorem c_X4_ball {l : Launch} {D : va_G} {cyD cyI cyJ cyZ : ClassId} (am bv bt bl be bdp bi bg bsd bsv bbd bbv br bu bw : Nat) (mn : Nat) (mm : UInt64) (mch : Int32) (msp : UInt64) (msb : UInt64) (mno : UInt64) (msn : Int32) (mbn : Int32) (mhr : Int32) (mro : Int32) (mv : Nat → UInt64) (mt : Nat → Int32) (ml : Nat → Int32) (med : Nat → Int32) (md : Nat → UInt64) (mi : Nat → UInt64) (mg : Nat → UInt64) (msd : Nat → UInt64) (msv : Nat → UInt64) (mbd : Nat → UInt64) (mbv : Nat → UInt64) (mr : Nat → Int32) (mu : Nat → Int64) (mw : Nat → Int32) (sz : Nat) (p1 : UInt64) (p2 : UInt64) (r : Nat) (hmbn : mbn = nI r) (hr20 : r ≤ 20) : mZ l yX4_ball wsX4_ball ({ frames := 1, cells := 0, slots := 0, locals := 28 } : Room) D (kT cyD cyI cyJ cyZ) [.ref am, .double p1, .double p2] (wM cyD cyI cyJ cyZ am bv bt bl be bdp bi bg bsd bsv bbd bbv br bu bw mn mm mch msp msb mno msn mbn mhr mro mv mt ml med md mi mg msd msv mbd mbv mr mu mw) (wM cyD cyI cyJ cyZ am bv bt bl be bdp bi bg bsd bsv bbd bbv br bu bw mn mm mch msp msb mno msn ((fX4_ball mbn mbd mbv p1 p2).2.1) mhr mro mv mt ml med md mi mg msd msv ((fX4_ball mbn mbd mbv p1 p2).2.2.1) ((fX4_ball mbn mbd mbv p1 p2).2.2.2) mr mu mw) sz ((fX4_ball mbn mbd mbv p1 p2).1) 0 0 := by
  refine Met.ofW (cc := cX4_ball) (maxL := 6) (ret := (some .boolean)) (by decide) rfl ?_
  intro p e s m args below meth c s₁ B hml hv
  obtain ⟨rfl, hN, hsz, hP, hK, hD0⟩ := hv
  have hx := B.exec
  have hb := B.bytes
  have hr := B.returns
  have hts := atoms_spec (ws := wsX4_ball) B.pre
  have hown : s.vm.findClass RX4 = some m.cls := findClass_of_methodNamed B.named
  have hlocks := B.notSynchronized
  subst hsz
  have hD := hD0.self (sz := s.heap.size)
  generalize hAe : va_A (wM cyD cyI cyJ cyZ am bv bt bl be bdp bi bg bsd bsv bbd bbv br bu bw mn mm mch msp msb mno msn mbn mhr mro mv mt ml med md mi mg msd msv mbd mbv mr mu mw) s.heap.size = A at hD ⊢
  have hA : ∀ q : Nat, s.heap.size ≤ q → A q := fun q h => by rw [← hAe]; exact Or.inr h
  have hS : va_S A s.heap s.heap [] := va_S.rf
  have hP : va_P D vwCl (wM cyD cyI cyJ cyZ am bv bt bl be bdp bi bg bsd bsv bbd bbv br bu bw mn mm mch msp msb mno msn mbn mhr mro mv mt ml med md mi mg msd msv mbd mbv mr mu mw) s.heap := hP
  have hl := lv_entry [.ref am, .double p1, .double p2] (n := 6) (Nat.le_of_ble_eq_true rfl)
  rw [lg_entry_eq]
  generalize (lg_sl [.ref am, .double p1, .double p2] ++ List.replicate (6 - (lg_sl [.ref am, .double p1, .double p2]).length) Slot.unset).toArray = ls at hl ⊢
  have hl : lv_has ls 6 [(0, .ref am), (1, .double p1), (3, .double p2)] := hl
  obtain ⟨H, hHe⟩ : ∃ H : Heap, H = s.heap := ⟨_, rfl⟩
  have hP : va_P D vwCl (wM cyD cyI cyJ cyZ am bv bt bl be bdp bi bg bsd bsv bbd bbv br bu bw mn mm mch msp msb mno msn mbn mhr mro mv mt ml med md mi mg msd msv mbd mbv mr mu mw) H := by rw [hHe]; exact hP
  have hS : va_S A s.heap H [] := by rw [hHe]; exact hS
  rw [← hHe]
  refine lv_dload_n hx hb dX4_ball_0 rfl (lv_at hl 1 rfl) ?_
  refine lv_dconst0 hx hb dX4_ball_1 ?_
  refine lv_ldc2d (v := 4681608360884174848) hx hb hown (hts (.constantDouble RX4 184 (4681608360884174848)) (List.mem_of_getElem? (i := 1) rfl)) dX4_ball_2 ?_
  have hPc : va_P D vwCl [] H := hP.sub [] rfl
  have hDc : va_D A [] := hD.sub [] (by decide) rfl
  refine kzE (ws' := (wM cyD cyI cyJ cyZ am bv bt bl be bdp bi bg bsd bsv bbd bbv br bu bw mn mm mch msp msb mno msn mbn mhr mro mv mt ml med md mi mg msd msv mbd mbv mr mu mw)) (wc := []) (wr := [(am, .inr (4, [.int (nI mn), .double mm, .ref bv, .ref bt, .ref bl, .ref be, .ref bdp, .ref bi, .ref bg, .int mch, .double msp, .double msb, .double mno, .int msn, .ref bsd, .ref bsv, .int mbn, .ref bbd, .ref bbv, .int mhr, .int mro, .ref br, .ref bu, .ref bw])), (bv, .inl (cyD, 8192, .inr (.inr (.inr (.inl mv))))), (bt, .inl (cyZ, 8192, .inl mt)), (bl, .inl (cyZ, 32, .inl ml)), (be, .inl (cyZ, 32, .inl med)), (bdp, .inl (cyD, 32, .inr (.inr (.inr (.inl md))))), (bi, .inl (cyD, 32, .inr (.inr (.inr (.inl mi))))), (bg, .inl (cyD, 32, .inr (.inr (.inr (.inl mg))))), (bsd, .inl (cyD, 21, .inr (.inr (.inr (.inl msd))))), (bsv, .inl (cyD, 21, .inr (.inr (.inr (.inl msv))))), (bbd, .inl (cyD, 21, .inr (.inr (.inr (.inl mbd))))), (bbv, .inl (cyD, 21, .inr (.inr (.inr (.inl mbv))))), (br, .inl (cyI, 32, .inl mr)), (bu, .inl (cyJ, 2048, .inr (.inl mu))), (bw, .inl (cyI, 32, .inl mw))]) (w1 := []) (va_runS (As := [.double p1, .double FP.dconst0, .double (4681608360884174848 : UInt64)]) (rest := []) ⟨hx, hb, hml, hown, hts⟩ (c_X4_within (l := l) (D := D) (cyD := cyD) (cyI := cyI) (cyJ := cyJ) (cyZ := cyZ) H.size p1 FP.dconst0 (4681608360884174848 : UInt64)) (va_cwS 3 hts gX4_ball_X4_within rfl rfl rfl (by decide +kernel) ⟨Nat.le_of_ble_eq_true rfl, Nat.le_of_ble_eq_true rfl⟩) (kS hN hK hPc hDc) rfl rfl hl.1 rfl (lv_room (Nat.le_of_ble_eq_true rfl)) dX4_ball_5 ⟨Nat.le_of_ble_eq_true rfl, Nat.le_of_ble_eq_true rfl⟩) hP hD hS hA [] [0, 1, 2, 3, 4, 5, 6, 7, 8, 9, 10, 11, 12, 13, 14] [0, 1, 2, 3, 4, 5, 6, 7, 8, 9, 10, 11, 12, 13, 14] rfl rfl (by decide) (by decide) rfl (by decide) (fun H locs hz_5 hP hD hS => ?_)
  refine lv_if_eq (tgt := 24) hx hb dX4_ball_8 (by decide) (fun c_8 => ?_) (fun c_8 => ?_)
  · refine lv_iconst (v := 0) hx hb dX4_ball_24 (by decide) ?_
    have hF9 : (fX4_ball mbn mbd mbv p1 p2) = ((0 : Int32), mbn, mbd, mbv) := by rw [fX4_ball, if_pos c_8]
    have hP9 : va_P D vwCl (wM cyD cyI cyJ cyZ am bv bt bl be bdp bi bg bsd bsv bbd bbv br bu bw mn mm mch msp msb mno msn ((fX4_ball mbn mbd mbv p1 p2).2.1) mhr mro mv mt ml med md mi mg msd msv ((fX4_ball mbn mbd mbv p1 p2).2.2.1) ((fX4_ball mbn mbd mbv p1 p2).2.2.2) mr mu mw) H := by rw [hF9]; exact hP
    have hD9 : va_D A (wM cyD cyI cyJ cyZ am bv bt bl be bdp bi bg bsd bsv bbd bbv br bu bw mn mm mch msp msb mno msn ((fX4_ball mbn mbd mbv p1 p2).2.1) mhr mro mv mt ml med md mi mg msd msv ((fX4_ball mbn mbd mbv p1 p2).2.2.1) ((fX4_ball mbn mbd mbv p1 p2).2.2.2) mr mu mw) := by rw [hF9]; exact hD
    exact W.zret (v := (0 : Int32)) hx hb hr (nar_z (Or.inl rfl)) (fun t ht hW => ⟨⟨(0 : Int32), (), rfl, ⟨(by rw [hF9]), (Or.inl rfl)⟩, by rw [ht]; exact hP9, va_K.moved hW.alike hK, hD9⟩, hS.F ht⟩) hS.2.2 dX4_ball_25
  refine lv_dload_n hx hb dX4_ball_11 rfl (lv_at hl 2 rfl) ?_
  refine lv_ldc2d (v := 4591870180066957722) hx hb hown (hts (.constantDouble RX4 186 (4591870180066957722)) (List.mem_of_getElem? (i := 2) rfl)) dX4_ball_12 ?_
  refine lv_ldc2d (v := 4621819117588971520) hx hb hown (hts (.constantDouble RX4 81 (4621819117588971520)) (List.mem_of_getElem? (i := 3) rfl)) dX4_ball_15 ?_
  have hPc : va_P D vwCl [] H := hP.sub [] rfl
  have hDc : va_D A [] := hD.sub [] (by decide) rfl
  refine kzE (ws' := (wM cyD cyI cyJ cyZ am bv bt bl be bdp bi bg bsd bsv bbd bbv br bu bw mn mm mch msp msb mno msn mbn mhr mro mv mt ml med md mi mg msd msv mbd mbv mr mu mw)) (wc := []) (wr := [(am, .inr (4, [.int (nI mn), .double mm, .ref bv, .ref bt, .ref bl, .ref be, .ref bdp, .ref bi, .ref bg, .int mch, .double msp, .double msb, .double mno, .int msn, .ref bsd, .ref bsv, .int mbn, .ref bbd, .ref bbv, .int mhr, .int mro, .ref br, .ref bu, .ref bw])), (bv, .inl (cyD, 8192, .inr (.inr (.inr (.inl mv))))), (bt, .inl (cyZ, 8192, .inl mt)), (bl, .inl (cyZ, 32, .inl ml)), (be, .inl (cyZ, 32, .inl med)), (bdp, .inl (cyD, 32, .inr (.inr (.inr (.inl md))))), (bi, .inl (cyD, 32, .inr (.inr (.inr (.inl mi))))), (bg, .inl (cyD, 32, .inr (.inr (.inr (.inl mg))))), (bsd, .inl (cyD, 21, .inr (.inr (.inr (.inl msd))))), (bsv, .inl (cyD, 21, .inr (.inr (.inr (.inl msv))))), (bbd, .inl (cyD, 21, .inr (.inr (.inr (.inl mbd))))), (bbv, .inl (cyD, 21, .inr (.inr (.inr (.inl mbv))))), (br, .inl (cyI, 32, .inl mr)), (bu, .inl (cyJ, 2048, .inr (.inl mu))), (bw, .inl (cyI, 32, .inl mw))]) (w1 := []) (va_runS (As := [.double p2, .double (4591870180066957722 : UInt64), .double (4621819117588971520 : UInt64)]) (rest := []) ⟨hx, hb, hml, hown, hts⟩ (c_X4_within (l := l) (D := D) (cyD := cyD) (cyI := cyI) (cyJ := cyJ) (cyZ := cyZ) H.size p2 (4591870180066957722 : UInt64) (4621819117588971520 : UInt64)) (va_cwS 3 hts gX4_ball_X4_within rfl rfl rfl (by decide +kernel) ⟨Nat.le_of_ble_eq_true rfl, Nat.le_of_ble_eq_true rfl⟩) (kS hN hK hPc hDc) rfl rfl hl.1 rfl (lv_room (Nat.le_of_ble_eq_true rfl)) dX4_ball_18 ⟨Nat.le_of_ble_eq_true rfl, Nat.le_of_ble_eq_true rfl⟩) hP hD hS hA [] [0, 1, 2, 3, 4, 5, 6, 7, 8, 9, 10, 11, 12, 13, 14] [0, 1, 2, 3, 4, 5, 6, 7, 8, 9, 10, 11, 12, 13, 14] rfl rfl (by decide) (by decide) rfl (by decide) (fun H locs hz_18 hP hD hS => ?_)
  refine lv_if_ne (tgt := 26) hx hb dX4_ball_21 (by decide) (fun c_21 => ?_) (fun c_21 => ?_)
  · refine lv_aload_n hx hb dX4_ball_26 rfl (lv_at hl 0 rfl) ?_
    refine va_get (D := D) (ci := 4) (v := .ref bbd) (C := RX4) (T := TX4) (N := 24) hx hb hts (fun _ h => (List.mem_cons_of_mem _ (List.mem_append_right _ h))) hown hK hP 0 rfl rfl 17 (by decide) (hts (.fieldLink RX4 38 "BottomWalksModel" "ballDays" "[D") (List.mem_of_getElem? (i := 4) rfl)) (fun _ h9 => h9) rfl dX4_ball_27 ?_
    refine lv_aload_n hx hb dX4_ball_30 rfl (lv_at hl 0 rfl) ?_
    refine va_get (D := D) (ci := 4) (v := .ref bbv) (C := RX4) (T := TX4) (N := 24) hx hb hts (fun _ h => (List.mem_cons_of_mem _ (List.mem_append_right _ h))) hown hK hP 0 rfl rfl 18 (by decide) (hts (.fieldLink RX4 41 "BottomWalksModel" "ballValues" "[D") (List.mem_of_getElem? (i := 5) rfl)) (fun _ h9 => h9) rfl dX4_ball_31 ?_
    refine lv_aload_n hx hb dX4_ball_34 rfl (lv_at hl 0 rfl) ?_
    refine va_get (D := D) (ci := 4) (v := .int mbn) (C := RX4) (T := TX4) (N := 24) hx hb hts (fun _ h => (List.mem_cons_of_mem _ (List.mem_append_right _ h))) hown hK hP 0 rfl rfl 16 (by decide) (hts (.fieldLink RX4 188 "BottomWalksModel" "balls" "I") (List.mem_of_getElem? (i := 6) rfl)) (fun _ h9 => h9) rfl dX4_ball_35 ?_
    refine lv_dload_n hx hb dX4_ball_38 rfl (lv_at hl 1 rfl) ?_
    refine lv_dload_n hx hb dX4_ball_39 rfl (lv_at hl 2 rfl) ?_
    have hPc : va_P D vwCl (wA cyD cyI cyJ cyZ bbd bbv mbd mbv) H := hP.sub [10, 11] rfl
    have hDc : va_D A (wA cyD cyI cyJ cyZ bbd bbv mbd mbv) := hD.sub [10, 11] (by decide) rfl
    refine kiE (ws' := (wM cyD cyI cyJ cyZ am bv bt bl be bdp bi bg bsd bsv bbd bbv br bu bw mn mm mch msp msb mno msn mbn mhr mro mv mt ml med md mi mg msd msv ((fX4_insert mbd mbv mbn p1 p2).2.1) ((fX4_insert mbd mbv mbn p1 p2).2.2) mr mu mw)) (wc := (wA cyD cyI cyJ cyZ bbd bbv mbd mbv)) (wr := [(am, .inr (4, [.int (nI mn), .double mm, .ref bv, .ref bt, .ref bl, .ref be, .ref bdp, .ref bi, .ref bg, .int mch, .double msp, .double msb, .double mno, .int msn, .ref bsd, .ref bsv, .int mbn, .ref bbd, .ref bbv, .int mhr, .int mro, .ref br, .ref bu, .ref bw])), (bv, .inl (cyD, 8192, .inr (.inr (.inr (.inl mv))))), (bt, .inl (cyZ, 8192, .inl mt)), (bl, .inl (cyZ, 32, .inl ml)), (be, .inl (cyZ, 32, .inl med)), (bdp, .inl (cyD, 32, .inr (.inr (.inr (.inl md))))), (bi, .inl (cyD, 32, .inr (.inr (.inr (.inl mi))))), (bg, .inl (cyD, 32, .inr (.inr (.inr (.inl mg))))), (bsd, .inl (cyD, 21, .inr (.inr (.inr (.inl msd))))), (bsv, .inl (cyD, 21, .inr (.inr (.inr (.inl msv))))), (br, .inl (cyI, 32, .inl mr)), (bu, .inl (cyJ, 2048, .inr (.inl mu))), (bw, .inl (cyI, 32, .inl mw))]) (w1 := (wA cyD cyI cyJ cyZ bbd bbv ((fX4_insert mbd mbv mbn p1 p2).2.1) ((fX4_insert mbd mbv mbn p1 p2).2.2))) (va_runS (As := [.ref bbd, .ref bbv, .int mbn, .double p1, .double p2]) (rest := []) ⟨hx, hb, hml, hown, hts⟩ (c_X4_insert (l := l) (D := D) (cyD := cyD) (cyI := cyI) (cyJ := cyJ) (cyZ := cyZ) bbd bbv mbd mbv H.size mbn p1 p2 r hmbn hr20) (va_cwS 5 hts gX4_ball_X4_insert rfl rfl rfl (by decide +kernel) ⟨Nat.le_of_ble_eq_true rfl, Nat.le_of_ble_eq_true rfl⟩) (kS hN hK hPc hDc) rfl rfl hl.1 rfl (lv_room (Nat.le_of_ble_eq_true rfl)) dX4_ball_40 ⟨Nat.le_of_ble_eq_true rfl, Nat.le_of_ble_eq_true rfl⟩) hP hD hS hA [10, 11] [0, 1, 2, 3, 4, 5, 6, 7, 8, 9, 12, 13, 14] [0, 1, 2, 3, 4, 5, 6, 7, 8, 9, 13, 14, 10, 11, 12] rfl rfl (by decide) (by decide) rfl (by decide) (fun H locs hP hD hS => ?_)
    refine lv_istore (lv' := [(5, .int ((fX4_insert mbd mbv mbn p1 p2).1)), (0, .ref am), (1, .double p1), (3, .double p2)]) hx hb dX4_ball_43 hl (by decide) rfl (fun ls hl => ?_)
    refine lv_aload_n hx hb dX4_ball_45 rfl (lv_at hl 1 rfl) ?_
    refine lv_iload hx hb dX4_ball_46 (lv_at hl 0 rfl) ?_
    refine lv_iconst (v := (-1)) hx hb dX4_ball_48 (by decide) ?_
    refine lv_icmp_ne (tgt := 59) hx hb dX4_ball_49 (by decide) (fun c_49 => ?_) (fun c_49 => ?_)
    · refine lv_iload hx hb dX4_ball_59 (lv_at hl 0 rfl) ?_
      refine va_put (D := D) (ci := 4) (v := .int ((fX4_insert mbd mbv mbn p1 p2).1)) (ty := .int) (C := RX4) (T := TX4) (N := 24) hx hb hts (fun _ h => (List.mem_cons_of_mem _ (List.mem_append_right _ h))) tyX4 tyX4_ok nmX4 hown hK hP hD hS 0 rfl rfl 16 (by decide) (hts (.fieldLink RX4 188 "BottomWalksModel" "balls" "I") (List.mem_of_getElem? (i := 6) rfl)) (fun _ h9 => h9) rfl (by decide +kernel) rfl rfl (Nat.le_of_ble_eq_true rfl) dX4_ball_61 (fun H locs hP hD hS => ?_)
      have hP : va_P D vwCl (wM cyD cyI cyJ cyZ am bv bt bl be bdp bi bg bsd bsv bbd bbv br bu bw mn mm mch msp msb mno msn ((fX4_insert mbd mbv mbn p1 p2).1) mhr mro mv mt ml med md mi mg msd msv ((fX4_insert mbd mbv mbn p1 p2).2.1) ((fX4_insert mbd mbv mbn p1 p2).2.2) mr mu mw) H := hP
      have hD : va_D A (wM cyD cyI cyJ cyZ am bv bt bl be bdp bi bg bsd bsv bbd bbv br bu bw mn mm mch msp msb mno msn ((fX4_insert mbd mbv mbn p1 p2).1) mhr mro mv mt ml med md mi mg msd msv ((fX4_insert mbd mbv mbn p1 p2).2.1) ((fX4_insert mbd mbv mbn p1 p2).2.2) mr mu mw) := hD
      refine lv_iload hx hb dX4_ball_64 (lv_at hl 0 rfl) ?_
      refine lv_iconst (v := (-1)) hx hb dX4_ball_66 (by decide) ?_
      refine lv_icmp_eq (tgt := 74) hx hb dX4_ball_67 (by decide) (fun c_67 => ?_) (fun c_67 => ?_)
      · refine lv_iconst (v := 0) hx hb dX4_ball_74 (by decide) ?_
        have hF9 : (fX4_ball mbn mbd mbv p1 p2) = ((0 : Int32), (fX4_insert mbd mbv mbn p1 p2).1, (fX4_insert mbd mbv mbn p1 p2).2.1, (fX4_insert mbd mbv mbn p1 p2).2.2) := by rw [fX4_ball, if_neg c_8, if_neg c_21, if_neg c_49, if_pos c_67]
        have hP9 : va_P D vwCl (wM cyD cyI cyJ cyZ am bv bt bl be bdp bi bg bsd bsv bbd bbv br bu bw mn mm mch msp msb mno msn ((fX4_ball mbn mbd mbv p1 p2).2.1) mhr mro mv mt ml med md mi mg msd msv ((fX4_ball mbn mbd mbv p1 p2).2.2.1) ((fX4_ball mbn mbd mbv p1 p2).2.2.2) mr mu mw) H := by rw [hF9]; exact hP
        have hD9 : va_D A (wM cyD cyI cyJ cyZ am bv bt bl be bdp bi bg bsd bsv bbd bbv br bu bw mn mm mch msp msb mno msn ((fX4_ball mbn mbd mbv p1 p2).2.1) mhr mro mv mt ml med md mi mg msd msv ((fX4_ball mbn mbd mbv p1 p2).2.2.1) ((fX4_ball mbn mbd mbv p1 p2).2.2.2) mr mu mw) := by rw [hF9]; exact hD
        exact W.zret (v := (0 : Int32)) hx hb hr (nar_z (Or.inl rfl)) (fun t ht hW => ⟨⟨(0 : Int32), (), rfl, ⟨(by rw [hF9]), (Or.inl rfl)⟩, by rw [ht]; exact hP9, va_K.moved hW.alike hK, hD9⟩, hS.F ht⟩) hS.2.2 dX4_ball_75
      refine lv_iconst (v := 1) hx hb dX4_ball_70 (by decide) ?_
      refine lv_goto (tgt := 75) hx hb dX4_ball_71 (by decide) ?_
      have hF9 : (fX4_ball mbn mbd mbv p1 p2) = ((1 : Int32), (fX4_insert mbd mbv mbn p1 p2).1, (fX4_insert mbd mbv mbn p1 p2).2.1, (fX4_insert mbd mbv mbn p1 p2).2.2) := by rw [fX4_ball, if_neg c_8, if_neg c_21, if_neg c_49, if_neg c_67]
      have hP9 : va_P D vwCl (wM cyD cyI cyJ cyZ am bv bt bl be bdp bi bg bsd bsv bbd bbv br bu bw mn mm mch msp msb mno msn ((fX4_ball mbn mbd mbv p1 p2).2.1) mhr mro mv mt ml med md mi mg msd msv ((fX4_ball mbn mbd mbv p1 p2).2.2.1) ((fX4_ball mbn mbd mbv p1 p2).2.2.2) mr mu mw) H := by rw [hF9]; exact hP
      have hD9 : va_D A (wM cyD cyI cyJ cyZ am bv bt bl be bdp bi bg bsd bsv bbd bbv br bu bw mn mm mch msp msb mno msn ((fX4_ball mbn mbd mbv p1 p2).2.1) mhr mro mv mt ml med md mi mg msd msv ((fX4_ball mbn mbd mbv p1 p2).2.2.1) ((fX4_ball mbn mbd mbv p1 p2).2.2.2) mr mu mw) := by rw [hF9]; exact hD
      exact W.zret (v := (1 : Int32)) hx hb hr (nar_z (Or.inr rfl)) (fun t ht hW => ⟨⟨(1 : Int32), (), rfl, ⟨(by rw [hF9]), (Or.inr rfl)⟩, by rw [ht]; exact hP9, va_K.moved hW.alike hK, hD9⟩, hS.F ht⟩) hS.2.2 dX4_ball_75
    refine lv_aload_n hx hb dX4_ball_52 rfl (lv_at hl 1 rfl) ?_
    refine va_get (D := D) (ci := 4) (v := .int mbn) (C := RX4) (T := TX4) (N := 24) hx hb hts (fun _ h => (List.mem_cons_of_mem _ (List.mem_append_right _ h))) hown hK hP 0 rfl rfl 16 (by decide) (hts (.fieldLink RX4 188 "BottomWalksModel" "balls" "I") (List.mem_of_getElem? (i := 6) rfl)) (fun _ h9 => h9) rfl dX4_ball_53 ?_
    refine lv_goto (tgt := 61) hx hb dX4_ball_56 (by decide) ?_
    refine va_put (D := D) (ci := 4) (v := .int mbn) (ty := .int) (C := RX4) (T := TX4) (N := 24) hx hb hts (fun _ h => (List.mem_cons_of_mem _ (List.mem_append_right _ h))) tyX4 tyX4_ok nmX4 hown hK hP hD hS 0 rfl rfl 16 (by decide) (hts (.fieldLink RX4 188 "BottomWalksModel" "balls" "I") (List.mem_of_getElem? (i := 6) rfl)) (fun _ h9 => h9) rfl (by decide +kernel) rfl rfl (Nat.le_of_ble_eq_true rfl) dX4_ball_61 (fun H locs hP hD hS => ?_)
    have hP : va_P D vwCl (wM cyD cyI cyJ cyZ am bv bt bl be bdp bi bg bsd bsv bbd bbv br bu bw mn mm mch msp msb mno msn mbn mhr mro mv mt ml med md mi mg msd msv ((fX4_insert mbd mbv mbn p1 p2).2.1) ((fX4_insert mbd mbv mbn p1 p2).2.2) mr mu mw) H := hP
    have hD : va_D A (wM cyD cyI cyJ cyZ am bv bt bl be bdp bi bg bsd bsv bbd bbv br bu bw mn mm mch msp msb mno msn mbn mhr mro mv mt ml med md mi mg msd msv ((fX4_insert mbd mbv mbn p1 p2).2.1) ((fX4_insert mbd mbv mbn p1 p2).2.2) mr mu mw) := hD
    refine lv_iload hx hb dX4_ball_64 (lv_at hl 0 rfl) ?_
    refine lv_iconst (v := (-1)) hx hb dX4_ball_66 (by decide) ?_
    refine lv_icmp_eq (tgt := 74) hx hb dX4_ball_67 (by decide) (fun c_67 => ?_) (fun c_67 => ?_)
    · refine lv_iconst (v := 0) hx hb dX4_ball_74 (by decide) ?_
      have hF9 : (fX4_ball mbn mbd mbv p1 p2) = ((0 : Int32), mbn, (fX4_insert mbd mbv mbn p1 p2).2.1, (fX4_insert mbd mbv mbn p1 p2).2.2) := by rw [fX4_ball, if_neg c_8, if_neg c_21, if_pos c_49, if_pos c_67]
      have hP9 : va_P D vwCl (wM cyD cyI cyJ cyZ am bv bt bl be bdp bi bg bsd bsv bbd bbv br bu bw mn mm mch msp msb mno msn ((fX4_ball mbn mbd mbv p1 p2).2.1) mhr mro mv mt ml med md mi mg msd msv ((fX4_ball mbn mbd mbv p1 p2).2.2.1) ((fX4_ball mbn mbd mbv p1 p2).2.2.2) mr mu mw) H := by rw [hF9]; exact hP
      have hD9 : va_D A (wM cyD cyI cyJ cyZ am bv bt bl be bdp bi bg bsd bsv bbd bbv br bu bw mn mm mch msp msb mno msn ((fX4_ball mbn mbd mbv p1 p2).2.1) mhr mro mv mt ml med md mi mg msd msv ((fX4_ball mbn mbd mbv p1 p2).2.2.1) ((fX4_ball mbn mbd mbv p1 p2).2.2.2) mr mu mw) := by rw [hF9]; exact hD
      exact W.zret (v := (0 : Int32)) hx hb hr (nar_z (Or.inl rfl)) (fun t ht hW => ⟨⟨(0 : Int32), (), rfl, ⟨(by rw [hF9]), (Or.inl rfl)⟩, by rw [ht]; exact hP9, va_K.moved hW.alike hK, hD9⟩, hS.F ht⟩) hS.2.2 dX4_ball_75
    refine lv_iconst (v := 1) hx hb dX4_ball_70 (by decide) ?_
    refine lv_goto (tgt := 75) hx hb dX4_ball_71 (by decide) ?_
    have hF9 : (fX4_ball mbn mbd mbv p1 p2) = ((1 : Int32), mbn, (fX4_insert mbd mbv mbn p1 p2).2.1, (fX4_insert mbd mbv mbn p1 p2).2.2) := by rw [fX4_ball, if_neg c_8, if_neg c_21, if_pos c_49, if_neg c_67]
    have hP9 : va_P D vwCl (wM cyD cyI cyJ cyZ am bv bt bl be bdp bi bg bsd bsv bbd bbv br bu bw mn mm mch msp msb mno msn ((fX4_ball mbn mbd mbv p1 p2).2.1) mhr mro mv mt ml med md mi mg msd msv ((fX4_ball mbn mbd mbv p1 p2).2.2.1) ((fX4_ball mbn mbd mbv p1 p2).2.2.2) mr mu mw) H := by rw [hF9]; exact hP
    have hD9 : va_D A (wM cyD cyI cyJ cyZ am bv bt bl be bdp bi bg bsd bsv bbd bbv br bu bw mn mm mch msp msb mno msn ((fX4_ball mbn mbd mbv p1 p2).2.1) mhr mro mv mt ml med md mi mg msd msv ((fX4_ball mbn mbd mbv p1 p2).2.2.1) ((fX4_ball mbn mbd mbv p1 p2).2.2.2) mr mu mw) := by rw [hF9]; exact hD
    exact W.zret (v := (1 : Int32)) hx hb hr (nar_z (Or.inr rfl)) (fun t ht hW => ⟨⟨(1 : Int32), (), rfl, ⟨(by rw [hF9]), (Or.inr rfl)⟩, by rw [ht]; exact hP9, va_K.moved hW.alike hK, hD9⟩, hS.F ht⟩) hS.2.2 dX4_ball_75
  refine lv_iconst (v := 0) hx hb dX4_ball_24 (by decide) ?_
  have hF9 : (fX4_ball mbn mbd mbv p1 p2) = ((0 : Int32), mbn, mbd, mbv) := by rw [fX4_ball, if_neg c_8, if_pos c_21]
  have hP9 : va_P D vwCl (wM cyD cyI cyJ cyZ am bv bt bl be bdp bi bg bsd bsv bbd bbv br bu bw mn mm mch msp msb mno msn ((fX4_ball mbn mbd mbv p1 p2).2.1) mhr mro mv mt ml med md mi mg msd msv ((fX4_ball mbn mbd mbv p1 p2).2.2.1) ((fX4_ball mbn mbd mbv p1 p2).2.2.2) mr mu mw) H := by rw [hF9]; exact hP
  have hD9 : va_D A (wM cyD cyI cyJ cyZ am bv bt bl be bdp bi bg bsd bsv bbd bbv br bu bw mn mm mch msp msb mno msn ((fX4_ball mbn mbd mbv p1 p2).2.1) mhr mro mv mt ml med md mi mg msd msv ((fX4_ball mbn mbd mbv p1 p2).2.2.1) ((fX4_ball mbn mbd mbv p1 p2).2.2.2) mr mu mw) := by rw [hF9]; exact hD
  exact W.zret (v := (0 : Int32)) hx hb hr (nar_z (Or.inl rfl)) (fun t ht hW => ⟨⟨(0 : Int32), (), rfl, ⟨(by rw [hF9]), (Or.inl rfl)⟩, by rw [ht]; exact hP9, va_K.moved hW.alike hK, hD9⟩, hS.F ht⟩) hS.2.2 dX4_ball_25
def fX4_speedAt_L13 (msn : Int32) (msd : Nat → UInt64) (msv : Nat → UInt64)  (p1 : UInt64) : Nat → (Int32) → UInt64
  | 0, v_j => 0
  | k + 1, v_j => if msn ≤ (v_j + (1 : Int32)) then (msv (v_j).toNatClampNeg) else (if 0 < (Op.cmpValue (FP.dcmp (msd (v_j + (1 : Int32)).toNatClampNeg) p1) CmpOp.g) then (msv (v_j).toNatClampNeg) else ((fX4_speedAt_L13 msn msd msv p1 k ((v_j) + 1))))
def fX4_speedAt (msn : Int32) (msd : Nat → UInt64) (msv : Nat → UInt64) (p1 : UInt64) : UInt64 := if msn = 0 then (4654311885213007872 : UInt64) else ((fX4_speedAt_L13 msn msd msv p1 21 (0 : Int32)))
set_option maxHeartbeats 4000000 in
set_option maxRecDepth 100000 in
theorem c_X4_speedAt {l : Launch} {D : va_G} {cyD cyI cyJ cyZ : ClassId} (am bv bt bl be bdp bi bg bsd bsv bbd bbv br bu bw : Nat) (mn : Nat) (mm : UInt64) (mch : Int32) (msp : UInt64) (msb : UInt64) (mno : UInt64) (msn : Int32) (mbn : Int32) (mhr : Int32) (mro : Int32) (mv : Nat → UInt64) (mt : Nat → Int32) (ml : Nat → Int32) (med : Nat → Int32) (md : Nat → UInt64) (mi : Nat → UInt64) (mg : Nat → UInt64) (msd : Nat → UInt64) (msv : Nat → UInt64) (mbd : Nat → UInt64) (mbv : Nat → UInt64) (mr : Nat → Int32) (mu : Nat → Int64) (mw : Nat → Int32) (sz : Nat) (p1 : UInt64) (r : Nat) (hmsn : msn = nI r) (hr20 : r ≤ 20) : mD l yX4_speedAt wsX4_speedAt ({ frames := 0, cells := 0, slots := 0, locals := 0 } : Room) D (kT cyD cyI cyJ cyZ) [.ref am, .double p1] (wM cyD cyI cyJ cyZ am bv bt bl be bdp bi bg bsd bsv bbd bbv br bu bw mn mm mch msp msb mno msn mbn mhr mro mv mt ml med md mi mg msd msv mbd mbv mr mu mw) (wM cyD cyI cyJ cyZ am bv bt bl be bdp bi bg bsd bsv bbd bbv br bu bw mn mm mch msp msb mno msn mbn mhr mro mv mt ml med md mi mg msd msv mbd mbv mr mu mw) sz (fX4_speedAt msn msd msv p1) 0 0 := by
  refine Met.ofW (cc := cX4_speedAt) (maxL := 4) (ret := (some .double)) (by decide) rfl ?_
  intro p e s m args below meth c s₁ B hml hv
  obtain ⟨rfl, hN, hsz, hP, hK, hD0⟩ := hv
  have hx := B.exec
  have hb := B.bytes
  have hr := B.returns
  have hts := atoms_spec (ws := wsX4_speedAt) B.pre
  have hown : s.vm.findClass RX4 = some m.cls := findClass_of_methodNamed B.named
  have hlocks := B.notSynchronized
  subst hsz
  have hD := hD0.self (sz := s.heap.size)
  generalize hAe : va_A (wM cyD cyI cyJ cyZ am bv bt bl be bdp bi bg bsd bsv bbd bbv br bu bw mn mm mch msp msb mno msn mbn mhr mro mv mt ml med md mi mg msd msv mbd mbv mr mu mw) s.heap.size = A at hD ⊢
  have hA : ∀ q : Nat, s.heap.size ≤ q → A q := fun q h => by rw [← hAe]; exact Or.inr h
  have hS : va_S A s.heap s.heap [] := va_S.rf
  have hP : va_P D vwCl (wM cyD cyI cyJ cyZ am bv bt bl be bdp bi bg bsd bsv bbd bbv br bu bw mn mm mch msp msb mno msn mbn mhr mro mv mt ml med md mi mg msd msv mbd mbv mr mu mw) s.heap := hP
  have hl := lv_entry [.ref am, .double p1] (n := 4) (Nat.le_of_ble_eq_true rfl)
  rw [lg_entry_eq]
  generalize (lg_sl [.ref am, .double p1] ++ List.replicate (4 - (lg_sl [.ref am, .double p1]).length) Slot.unset).toArray = ls at hl ⊢
  have hl : lv_has ls 4 [(0, .ref am), (1, .double p1)] := hl
  obtain ⟨H, hHe⟩ : ∃ H : Heap, H = s.heap := ⟨_, rfl⟩
  have hP : va_P D vwCl (wM cyD cyI cyJ cyZ am bv bt bl be bdp bi bg bsd bsv bbd bbv br bu bw mn mm mch msp msb mno msn mbn mhr mro mv mt ml med md mi mg msd msv mbd mbv mr mu mw) H := by rw [hHe]; exact hP
  have hS : va_S A s.heap H [] := by rw [hHe]; exact hS
  rw [← hHe]
  refine lv_aload_n hx hb dX4_speedAt_0 rfl (lv_at hl 0 rfl) ?_
  refine va_get (D := D) (ci := 4) (v := .int msn) (C := RX4) (T := TX4) (N := 24) hx hb hts (fun _ h => (List.mem_cons_of_mem _ (List.mem_append_right _ h))) hown hK hP 0 rfl rfl 13 (by decide) (hts (.fieldLink RX4 177 "BottomWalksModel" "speeds" "I") (List.mem_of_getElem? (i := 1) rfl)) (fun _ h9 => h9) rfl dX4_speedAt_1 ?_
  refine lv_if_ne (tgt := 11) hx hb dX4_speedAt_4 (by decide) (fun c_4 => ?_) (fun c_4 => ?_)
  · refine lv_iconst (v := 0) hx hb dX4_speedAt_11 (by decide) ?_
    refine lv_istore_n (lv' := [(3, .int (0 : Int32)), (0, .ref am), (1, .double p1)]) hx hb dX4_speedAt_12 rfl hl (by decide) rfl (fun ls hl => ?_)
    have loop_13 : ∀ (k : Nat) (j : Nat) (H : Heap) (locs : List Loc), (j + k = 21) → (j < r) → (fX4_speedAt msn msd msv p1) = fX4_speedAt_L13 msn msd msv p1 k ((nI j)) → va_P D vwCl (wM cyD cyI cyJ cyZ am bv bt bl be bdp bi bg bsd bsv bbd bbv br bu bw mn mm mch msp msb mno msn mbn mhr mro mv mt ml med md mi mg msd msv mbd mbv mr mu mw) H → va_D A (wM cyD cyI cyJ cyZ am bv bt bl be bdp bi bg bsd bsv bbd bbv br bu bw mn mm mch msp msb mno msn mbn mhr mro mv mt ml med md mi mg msd msv mbd mbv mr mu mw) → va_S A s.heap H locs → ∀ ls, lv_has ls 4 [(3, .int ((nI j))), (0, .ref am), (1, .double p1)] → W p l e (headSpec wsX4_speedAt ({ frames := 0, cells := 0, slots := 0, locals := 0 } : Room)).room s m ([.ref am, .double p1] : List Value).toArray below meth c H locs 0 0 (MQ below (va_Qd (fun (r : UInt64) (_ : Unit) => r = (fX4_speedAt msn msd msv p1)) (kE D (kT cyD cyI cyJ cyZ) (wM cyD cyI cyJ cyZ am bv bt bl be bdp bi bg bsd bsv bbd bbv br bu bw mn mm mch msp msb mno msn mbn mhr mro mv mt ml med md mi mg msd msv mbd mbv mr mu mw) A) A) ([.ref am, .double p1] : List Value).toArray s 0 0 A) (F0 m 13 ls []) := by
      intro k_13
      induction k_13 with
      | zero => intro j H locs hj hj2 hF hP hD hS ls hl; exact absurd hr20 (by omega)
      | succ k_13 ih_13 =>
        intro j H locs hj hj2 hF hP hD hS ls hl
        refine lv_iload_n hx hb dX4_speedAt_13 rfl (lv_at hl 0 rfl) ?_
        refine lv_iconst (v := 1) hx hb dX4_speedAt_14 (by decide) ?_
        refine lv_iadd hx hb dX4_speedAt_15 ?_
        refine lv_aload_n hx hb dX4_speedAt_16 rfl (lv_at hl 1 rfl) ?_
        refine va_get (D := D) (ci := 4) (v := .int msn) (C := RX4) (T := TX4) (N := 24) hx hb hts (fun _ h => (List.mem_cons_of_mem _ (List.mem_append_right _ h))) hown hK hP 0 rfl rfl 13 (by decide) (hts (.fieldLink RX4 177 "BottomWalksModel" "speeds" "I") (List.mem_of_getElem? (i := 1) rfl)) (fun _ h9 => h9) rfl dX4_speedAt_17 ?_
        refine lv_icmp_ge (tgt := 42) hx hb dX4_speedAt_20 (by decide) (fun c_20 => ?_) (fun c_20 => ?_)
        · refine lv_aload_n hx hb dX4_speedAt_42 rfl (lv_at hl 1 rfl) ?_
          refine va_get (D := D) (ci := 4) (v := .ref bsv) (C := RX4) (T := TX4) (N := 24) hx hb hts (fun _ h => (List.mem_cons_of_mem _ (List.mem_append_right _ h))) hown hK hP 0 rfl rfl 15 (by decide) (hts (.fieldLink RX4 35 "BottomWalksModel" "speedValues" "[D") (List.mem_of_getElem? (i := 4) rfl)) (fun _ h9 => h9) rfl dX4_speedAt_43 ?_
          refine lv_iload_n hx hb dX4_speedAt_46 rfl (lv_at hl 0 rfl) ?_
          refine va_dald hx hb hK hP 9 0 rfl rfl (vp_in_nI (by omega) (by decide)) dX4_speedAt_47 ?_
          have hF9 : (fX4_speedAt msn msd msv p1) = (msv ((nI j)).toNatClampNeg) := by rw [hF, fX4_speedAt_L13, if_pos c_20]
          have hP9 : va_P D vwCl (wM cyD cyI cyJ cyZ am bv bt bl be bdp bi bg bsd bsv bbd bbv br bu bw mn mm mch msp msb mno msn mbn mhr mro mv mt ml med md mi mg msd msv mbd mbv mr mu mw) H := hP
          have hD9 : va_D A (wM cyD cyI cyJ cyZ am bv bt bl be bdp bi bg bsd bsv bbd bbv br bu bw mn mm mch msp msb mno msn mbn mhr mro mv mt ml med md mi mg msd msv mbd mbv mr mu mw) := hD
          exact W.dret (v := (msv ((nI j)).toNatClampNeg)) hx hb hr (fun t ht hW => ⟨⟨(msv ((nI j)).toNatClampNeg), (), rfl, (by rw [hF9]), by rw [ht]; exact hP9, va_K.moved hW.alike hK, hD9⟩, hS.F ht⟩) hS.2.2 dX4_speedAt_48
        refine lv_aload_n hx hb dX4_speedAt_23 rfl (lv_at hl 1 rfl) ?_
        refine va_get (D := D) (ci := 4) (v := .ref bsd) (C := RX4) (T := TX4) (N := 24) hx hb hts (fun _ h => (List.mem_cons_of_mem _ (List.mem_append_right _ h))) hown hK hP 0 rfl rfl 14 (by decide) (hts (.fieldLink RX4 32 "BottomWalksModel" "speedDepths" "[D") (List.mem_of_getElem? (i := 3) rfl)) (fun _ h9 => h9) rfl dX4_speedAt_24 ?_
        refine lv_iload_n hx hb dX4_speedAt_27 rfl (lv_at hl 0 rfl) ?_
        refine lv_iconst (v := 1) hx hb dX4_speedAt_28 (by decide) ?_
        refine lv_iadd hx hb dX4_speedAt_29 ?_
        refine va_dald hx hb hK hP 8 0 rfl rfl (by rw [show nI j + 1 = nI (j + 1) from nI_1 j]; exact vp_in_nI (by omega) (by decide)) dX4_speedAt_30 ?_
        refine lv_dload_n hx hb dX4_speedAt_31 rfl (lv_at hl 2 rfl) ?_
        refine lv_dcmp hx hb dX4_speedAt_32 ?_
        refine lv_if_gt (tgt := 42) hx hb dX4_speedAt_33 (by decide) (fun c_33 => ?_) (fun c_33 => ?_)
        · refine lv_aload_n hx hb dX4_speedAt_42 rfl (lv_at hl 1 rfl) ?_
          refine va_get (D := D) (ci := 4) (v := .ref bsv) (C := RX4) (T := TX4) (N := 24) hx hb hts (fun _ h => (List.mem_cons_of_mem _ (List.mem_append_right _ h))) hown hK hP 0 rfl rfl 15 (by decide) (hts (.fieldLink RX4 35 "BottomWalksModel" "speedValues" "[D") (List.mem_of_getElem? (i := 4) rfl)) (fun _ h9 => h9) rfl dX4_speedAt_43 ?_
          refine lv_iload_n hx hb dX4_speedAt_46 rfl (lv_at hl 0 rfl) ?_
          refine va_dald hx hb hK hP 9 0 rfl rfl (vp_in_nI (by omega) (by decide)) dX4_speedAt_47 ?_
          have hF9 : (fX4_speedAt msn msd msv p1) = (msv ((nI j)).toNatClampNeg) := by rw [hF, fX4_speedAt_L13, if_neg c_20, if_pos c_33]
          have hP9 : va_P D vwCl (wM cyD cyI cyJ cyZ am bv bt bl be bdp bi bg bsd bsv bbd bbv br bu bw mn mm mch msp msb mno msn mbn mhr mro mv mt ml med md mi mg msd msv mbd mbv mr mu mw) H := hP
          have hD9 : va_D A (wM cyD cyI cyJ cyZ am bv bt bl be bdp bi bg bsd bsv bbd bbv br bu bw mn mm mch msp msb mno msn mbn mhr mro mv mt ml med md mi mg msd msv mbd mbv mr mu mw) := hD
          exact W.dret (v := (msv ((nI j)).toNatClampNeg)) hx hb hr (fun t ht hW => ⟨⟨(msv ((nI j)).toNatClampNeg), (), rfl, (by rw [hF9]), by rw [ht]; exact hP9, va_K.moved hW.alike hK, hD9⟩, hS.F ht⟩) hS.2.2 dX4_speedAt_48
        refine lv_iinc (v := (((nI j)) + 1)) (lv' := [(3, .int (((nI j)) + 1)), (0, .ref am), (1, .double p1)]) hx hb dX4_speedAt_36 hl (k := 0) rfl rfl (by decide) rfl (fun ls hl => ?_)
        refine lv_goto (tgt := 13) hx hb dX4_speedAt_39 (by decide) ?_
        exact ih_13 (j + 1) _ _ (by omega) (by rw [hmsn, show nI j + 1 = nI (j + 1) from nI_1 j] at c_20; exact Nat.lt_of_not_le (fun q => c_20 (nI_le q (by omega)))) (by rw [← nI_1 j]; rw [hF, fX4_speedAt_L13, if_neg c_20, if_neg c_33]) hP hD hS _ (by rw [← nI_1 j]; exact lv_sub hl [0, 1, 2] rfl)
    exact loop_13 21 0 _ _ rfl (by rcases Nat.eq_zero_or_pos r with z | z; exact absurd (by rw [hmsn, z]; rfl) c_4; exact z) (by rw [nI_0]; rw [fX4_speedAt, if_neg c_4]) hP hD hS _ (by exact lv_sub hl [0, 1, 2] rfl)
  refine lv_ldc2d (v := 4654311885213007872) hx hb hown (hts (.constantDouble RX4 191 (4654311885213007872)) (List.mem_of_getElem? (i := 2) rfl)) dX4_speedAt_7 ?_
  have hF9 : (fX4_speedAt msn msd msv p1) = (4654311885213007872 : UInt64) := by rw [fX4_speedAt, if_pos c_4]
  have hP9 : va_P D vwCl (wM cyD cyI cyJ cyZ am bv bt bl be bdp bi bg bsd bsv bbd bbv br bu bw mn mm mch msp msb mno msn mbn mhr mro mv mt ml med md mi mg msd msv mbd mbv mr mu mw) H := hP
  have hD9 : va_D A (wM cyD cyI cyJ cyZ am bv bt bl be bdp bi bg bsd bsv bbd bbv br bu bw mn mm mch msp msb mno msn mbn mhr mro mv mt ml med md mi mg msd msv mbd mbv mr mu mw) := hD
  exact W.dret (v := (4654311885213007872 : UInt64)) hx hb hr (fun t ht hW => ⟨⟨(4654311885213007872 : UInt64), (), rfl, (by rw [hF9]), by rw [ht]; exact hP9, va_K.moved hW.alike hK, hD9⟩, hS.F ht⟩) hS.2.2 dX4_speedAt_10
theorem spM_bd {msn : Int32} {msd msv : Nat → UInt64} {w : UInt64} {r : Nat} (hr : msn = nI r) (hr20 : r ≤ 20) (hv : ∀ i, i < 21 → bd 1034 (msv i)) : bd 1034 (fX4_speedAt msn msd msv w) := by
  have K : ∀ (k j : Nat), j + k = 21 → j ≤ 20 → bd 1034 (fX4_speedAt_L13 msn msd msv w k (nI j)) := by
    intro k; induction k with
    | zero => intro j a b; omega
    | succ k ih =>
      intro j a b
      rw [fX4_speedAt_L13]
      by_cases c : msn ≤ nI j + 1
      · rw [if_pos c, nI_clamp (by omega)]; exact hv j (by omega)
      · rw [if_neg c]
        rw [hr, show nI j + 1 = nI (j + 1) from nI_1 j] at c
        have := Nat.lt_of_not_le (fun q => c (nI_le q (by omega)))
        split
        · rw [nI_clamp (by omega)]; exact hv j (by omega)
        · rw [nI_1]; exact ih (j + 1) (by omega) (by omega)
  unfold fX4_speedAt
  split
  · decide
  · exact K 21 0 rfl (by decide)
def fX4_bent_L24 (mn : Nat) (mm : UInt64) (msn : Int32) (mi : Nat → UInt64) (mg : Nat → UInt64) (msd : Nat → UInt64) (msv : Nat → UInt64)  (p1 : Int32) (p2 : Int32) : Nat → (Int32) → (UInt64) → UInt64
  | 0, v_j, v_wy => 0
  | k + 1, v_j, v_wy => if p2 < v_j then (FP.dadd (FP.dmul v_wy (FP.dsub FP.dconst1 (FP.dmul (FP.dmul (FP.dmul (4580687790476533049 : UInt64) (mg p1.toNatClampNeg)) (FP.dmul (4580687790476533049 : UInt64) (mg p1.toNatClampNeg))) (4602678819172646912 : UInt64)))) (mi p1.toNatClampNeg)) else ((fX4_bent_L24 mn mm msn mi mg msd msv p1 p2 k ((v_j) + 1) (FP.dadd v_wy (FP.ddiv (FP.dmul mm (fX4_speedAt msn msd msv (FP.dmul (FP.i2d v_j) mm))) (4654311885213007872 : UInt64)))))
def fX4_bent (mn : Nat) (mm : UInt64) (msn : Int32) (mi : Nat → UInt64) (mg : Nat → UInt64) (msd : Nat → UInt64) (msv : Nat → UInt64) (p1 : Int32) (p2 : Int32) : UInt64 := if (fX4_isPing p1) = 0 then (13830554455654793216 : UInt64) else (if (fX4_isSample mn p2) = 0 then (13830554455654793216 : UInt64) else ((fX4_bent_L24 mn mm msn mi mg msd msv p1 p2 66 (0 : Int32) FP.dconst0)))
set_option maxHeartbeats 4000000 in
set_option maxRecDepth 100000 in
theorem c_X4_bent {l : Launch} {D : va_G} {cyD cyI cyJ cyZ : ClassId} (am bv bt bl be bdp bi bg bsd bsv bbd bbv br bu bw : Nat) (mn : Nat) (mm : UInt64) (mch : Int32) (msp : UInt64) (msb : UInt64) (mno : UInt64) (msn : Int32) (mbn : Int32) (mhr : Int32) (mro : Int32) (mv : Nat → UInt64) (mt : Nat → Int32) (ml : Nat → Int32) (med : Nat → Int32) (md : Nat → UInt64) (mi : Nat → UInt64) (mg : Nat → UInt64) (msd : Nat → UInt64) (msv : Nat → UInt64) (mbd : Nat → UInt64) (mbv : Nat → UInt64) (mr : Nat → Int32) (mu : Nat → Int64) (mw : Nat → Int32) (sz : Nat) (p1 : Int32) (p2 : Int32) (hM : okM mn mm msp msb mno mv) (r : Nat) (hmsn : msn = nI r) (hr20 : r ≤ 20) (hmsv : ∀ i, i < 21 → bd 1034 (msv i)) (hmg : ∀ i, i < 32 → bd 1029 (mg i)) (hmi : ∀ i, i < 32 → bd 1028 (mi i)) : mD l yX4_bent wsX4_bent ({ frames := 1, cells := 0, slots := 0, locals := 23 } : Room) D (kT cyD cyI cyJ cyZ) [.ref am, .int p1, .int p2] (wM cyD cyI cyJ cyZ am bv bt bl be bdp bi bg bsd bsv bbd bbv br bu bw mn mm mch msp msb mno msn mbn mhr mro mv mt ml med md mi mg msd msv mbd mbv mr mu mw) (wM cyD cyI cyJ cyZ am bv bt bl be bdp bi bg bsd bsv bbd bbv br bu bw mn mm mch msp msb mno msn mbn mhr mro mv mt ml med md mi mg msd msv mbd mbv mr mu mw) sz (fX4_bent mn mm msn mi mg msd msv p1 p2) 0 0 := by
  refine Met.ofW (cc := cX4_bent) (maxL := 7) (ret := (some .double)) (by decide) rfl ?_
  intro p e s m args below meth c s₁ B hml hv
  obtain ⟨rfl, hN, hsz, hP, hK, hD0⟩ := hv
  have hx := B.exec
  have hb := B.bytes
  have hr := B.returns
  have hts := atoms_spec (ws := wsX4_bent) B.pre
  have hown : s.vm.findClass RX4 = some m.cls := findClass_of_methodNamed B.named
  have hlocks := B.notSynchronized
  subst hsz
  have hD := hD0.self (sz := s.heap.size)
  generalize hAe : va_A (wM cyD cyI cyJ cyZ am bv bt bl be bdp bi bg bsd bsv bbd bbv br bu bw mn mm mch msp msb mno msn mbn mhr mro mv mt ml med md mi mg msd msv mbd mbv mr mu mw) s.heap.size = A at hD ⊢
  have hA : ∀ q : Nat, s.heap.size ≤ q → A q := fun q h => by rw [← hAe]; exact Or.inr h
  have hS : va_S A s.heap s.heap [] := va_S.rf
  have hP : va_P D vwCl (wM cyD cyI cyJ cyZ am bv bt bl be bdp bi bg bsd bsv bbd bbv br bu bw mn mm mch msp msb mno msn mbn mhr mro mv mt ml med md mi mg msd msv mbd mbv mr mu mw) s.heap := hP
  have hl := lv_entry [.ref am, .int p1, .int p2] (n := 7) (Nat.le_of_ble_eq_true rfl)
  rw [lg_entry_eq]
  generalize (lg_sl [.ref am, .int p1, .int p2] ++ List.replicate (7 - (lg_sl [.ref am, .int p1, .int p2]).length) Slot.unset).toArray = ls at hl ⊢
  have hl : lv_has ls 7 [(0, .ref am), (1, .int p1), (2, .int p2)] := hl
  obtain ⟨H, hHe⟩ : ∃ H : Heap, H = s.heap := ⟨_, rfl⟩
  have hP : va_P D vwCl (wM cyD cyI cyJ cyZ am bv bt bl be bdp bi bg bsd bsv bbd bbv br bu bw mn mm mch msp msb mno msn mbn mhr mro mv mt ml med md mi mg msd msv mbd mbv mr mu mw) H := by rw [hHe]; exact hP
  have hS : va_S A s.heap H [] := by rw [hHe]; exact hS
  rw [← hHe]
  refine lv_iload_n hx hb dX4_bent_0 rfl (lv_at hl 1 rfl) ?_
  have hPc : va_P D vwCl [] H := hP.sub [] rfl
  have hDc : va_D A [] := hD.sub [] (by decide) rfl
  refine kzE (ws' := (wM cyD cyI cyJ cyZ am bv bt bl be bdp bi bg bsd bsv bbd bbv br bu bw mn mm mch msp msb mno msn mbn mhr mro mv mt ml med md mi mg msd msv mbd mbv mr mu mw)) (wc := []) (wr := [(am, .inr (4, [.int (nI mn), .double mm, .ref bv, .ref bt, .ref bl, .ref be, .ref bdp, .ref bi, .ref bg, .int mch, .double msp, .double msb, .double mno, .int msn, .ref bsd, .ref bsv, .int mbn, .ref bbd, .ref bbv, .int mhr, .int mro, .ref br, .ref bu, .ref bw])), (bv, .inl (cyD, 8192, .inr (.inr (.inr (.inl mv))))), (bt, .inl (cyZ, 8192, .inl mt)), (bl, .inl (cyZ, 32, .inl ml)), (be, .inl (cyZ, 32, .inl med)), (bdp, .inl (cyD, 32, .inr (.inr (.inr (.inl md))))), (bi, .inl (cyD, 32, .inr (.inr (.inr (.inl mi))))), (bg, .inl (cyD, 32, .inr (.inr (.inr (.inl mg))))), (bsd, .inl (cyD, 21, .inr (.inr (.inr (.inl msd))))), (bsv, .inl (cyD, 21, .inr (.inr (.inr (.inl msv))))), (bbd, .inl (cyD, 21, .inr (.inr (.inr (.inl mbd))))), (bbv, .inl (cyD, 21, .inr (.inr (.inr (.inl mbv))))), (br, .inl (cyI, 32, .inl mr)), (bu, .inl (cyJ, 2048, .inr (.inl mu))), (bw, .inl (cyI, 32, .inl mw))]) (w1 := []) (va_runS (As := [.int p1]) (rest := []) ⟨hx, hb, hml, hown, hts⟩ (c_X4_isPing (l := l) (D := D) (cyD := cyD) (cyI := cyI) (cyJ := cyJ) (cyZ := cyZ) H.size p1) (va_cwS 1 hts gX4_bent_X4_isPing rfl rfl rfl (by decide +kernel) ⟨Nat.le_of_ble_eq_true rfl, Nat.le_of_ble_eq_true rfl⟩) (kS hN hK hPc hDc) rfl rfl hl.1 rfl (lv_room (Nat.le_of_ble_eq_true rfl)) dX4_bent_1 ⟨Nat.le_of_ble_eq_true rfl, Nat.le_of_ble_eq_true rfl⟩) hP hD hS hA [] [0, 1, 2, 3, 4, 5, 6, 7, 8, 9, 10, 11, 12, 13, 14] [0, 1, 2, 3, 4, 5, 6, 7, 8, 9, 10, 11, 12, 13, 14] rfl rfl (by decide) (by decide) rfl (by decide) (fun H locs hz_1 hP hD hS => ?_)
  refine lv_if_eq (tgt := 15) hx hb dX4_bent_4 (by decide) (fun c_4 => ?_) (fun c_4 => ?_)
  · refine lv_ldc2d (v := 13830554455654793216) hx hb hown (hts (.constantDouble RX4 158 (13830554455654793216)) (List.mem_of_getElem? (i := 1) rfl)) dX4_bent_15 ?_
    have hF9 : (fX4_bent mn mm msn mi mg msd msv p1 p2) = (13830554455654793216 : UInt64) := by rw [fX4_bent, if_pos c_4]
    have hP9 : va_P D vwCl (wM cyD cyI cyJ cyZ am bv bt bl be bdp bi bg bsd bsv bbd bbv br bu bw mn mm mch msp msb mno msn mbn mhr mro mv mt ml med md mi mg msd msv mbd mbv mr mu mw) H := hP
    have hD9 : va_D A (wM cyD cyI cyJ cyZ am bv bt bl be bdp bi bg bsd bsv bbd bbv br bu bw mn mm mch msp msb mno msn mbn mhr mro mv mt ml med md mi mg msd msv mbd mbv mr mu mw) := hD
    exact W.dret (v := (13830554455654793216 : UInt64)) hx hb hr (fun t ht hW => ⟨⟨(13830554455654793216 : UInt64), (), rfl, (by rw [hF9]), by rw [ht]; exact hP9, va_K.moved hW.alike hK, hD9⟩, hS.F ht⟩) hS.2.2 dX4_bent_18
  refine lv_aload_n hx hb dX4_bent_7 rfl (lv_at hl 0 rfl) ?_
  refine lv_iload_n hx hb dX4_bent_8 rfl (lv_at hl 2 rfl) ?_
  have hPc : va_P D vwCl (wM cyD cyI cyJ cyZ am bv bt bl be bdp bi bg bsd bsv bbd bbv br bu bw mn mm mch msp msb mno msn mbn mhr mro mv mt ml med md mi mg msd msv mbd mbv mr mu mw) H := hP.sub [0, 1, 2, 3, 4, 5, 6, 7, 8, 9, 10, 11, 12, 13, 14] rfl
  have hDc : va_D A (wM cyD cyI cyJ cyZ am bv bt bl be bdp bi bg bsd bsv bbd bbv br bu bw mn mm mch msp msb mno msn mbn mhr mro mv mt ml med md mi mg msd msv mbd mbv mr mu mw) := hD.sub [0, 1, 2, 3, 4, 5, 6, 7, 8, 9, 10, 11, 12, 13, 14] (by decide) rfl
  refine kzE (ws' := (wM cyD cyI cyJ cyZ am bv bt bl be bdp bi bg bsd bsv bbd bbv br bu bw mn mm mch msp msb mno msn mbn mhr mro mv mt ml med md mi mg msd msv mbd mbv mr mu mw)) (wc := (wM cyD cyI cyJ cyZ am bv bt bl be bdp bi bg bsd bsv bbd bbv br bu bw mn mm mch msp msb mno msn mbn mhr mro mv mt ml med md mi mg msd msv mbd mbv mr mu mw)) (wr := []) (w1 := (wM cyD cyI cyJ cyZ am bv bt bl be bdp bi bg bsd bsv bbd bbv br bu bw mn mm mch msp msb mno msn mbn mhr mro mv mt ml med md mi mg msd msv mbd mbv mr mu mw)) (va_runV (As := [.int p2]) (rest := []) ⟨hx, hb, hml, hown, hts⟩ (c_X4_isSample (l := l) (D := D) (cyD := cyD) (cyI := cyI) (cyJ := cyJ) (cyZ := cyZ) am bv bt bl be bdp bi bg bsd bsv bbd bbv br bu bw mn mm mch msp msb mno msn mbn mhr mro mv mt ml med md mi mg msd msv mbd mbv mr mu mw H.size p2) (cwV 1 hts gX4_bent_X4_isSample rfl rfl rfl (by decide +kernel) ⟨Nat.le_of_ble_eq_true rfl, Nat.le_of_ble_eq_true rfl⟩) (kV (ci := 4) (q0 := 0) (q := (RX4, TX4, 24)) hN hK hPc hDc rfl rfl rfl) rfl rfl hl.1 rfl (lv_room (Nat.le_of_ble_eq_true rfl)) dX4_bent_9 ⟨Nat.le_of_ble_eq_true rfl, Nat.le_of_ble_eq_true rfl⟩) hP hD hS hA [0, 1, 2, 3, 4, 5, 6, 7, 8, 9, 10, 11, 12, 13, 14] [] [0, 1, 2, 3, 4, 5, 6, 7, 8, 9, 10, 11, 12, 13, 14] rfl rfl (by decide) (by decide) rfl (by decide) (fun H locs hz_9 hP hD hS => ?_)
  refine lv_if_ne (tgt := 19) hx hb dX4_bent_12 (by decide) (fun c_12 => ?_) (fun c_12 => ?_)
  · refine lv_dconst0 hx hb dX4_bent_19 ?_
    refine lv_dstore_n (lv' := [(3, .double FP.dconst0), (0, .ref am), (1, .int p1), (2, .int p2)]) hx hb dX4_bent_20 rfl hl (by decide) rfl (fun ls hl => ?_)
    refine lv_iconst (v := 0) hx hb dX4_bent_21 (by decide) ?_
    refine lv_istore (lv' := [(5, .int (0 : Int32)), (3, .double FP.dconst0), (0, .ref am), (1, .int p1), (2, .int p2)]) hx hb dX4_bent_22 hl (by decide) rfl (fun ls hl => ?_)
    have loop_24 : ∀ (k : Nat) (j : Nat) (wy : UInt64) (H : Heap) (locs : List Loc), (j + k = 66) → (j ≤ 64) → (bd (1035 + 2 * j) wy) → (fX4_bent mn mm msn mi mg msd msv p1 p2) = fX4_bent_L24 mn mm msn mi mg msd msv p1 p2 k ((nI j)) (wy) → va_P D vwCl (wM cyD cyI cyJ cyZ am bv bt bl be bdp bi bg bsd bsv bbd bbv br bu bw mn mm mch msp msb mno msn mbn mhr mro mv mt ml med md mi mg msd msv mbd mbv mr mu mw) H → va_D A (wM cyD cyI cyJ cyZ am bv bt bl be bdp bi bg bsd bsv bbd bbv br bu bw mn mm mch msp msb mno msn mbn mhr mro mv mt ml med md mi mg msd msv mbd mbv mr mu mw) → va_S A s.heap H locs → ∀ ls, lv_has ls 7 [(5, .int ((nI j))), (3, .double (wy)), (0, .ref am), (1, .int p1), (2, .int p2)] → W p l e (headSpec wsX4_bent ({ frames := 1, cells := 0, slots := 0, locals := 23 } : Room)).room s m ([.ref am, .int p1, .int p2] : List Value).toArray below meth c H locs 0 0 (MQ below (va_Qd (fun (r : UInt64) (_ : Unit) => r = (fX4_bent mn mm msn mi mg msd msv p1 p2)) (kE D (kT cyD cyI cyJ cyZ) (wM cyD cyI cyJ cyZ am bv bt bl be bdp bi bg bsd bsv bbd bbv br bu bw mn mm mch msp msb mno msn mbn mhr mro mv mt ml med md mi mg msd msv mbd mbv mr mu mw) A) A) ([.ref am, .int p1, .int p2] : List Value).toArray s 0 0 A) (F0 m 24 ls []) := by
      intro k_24
      induction k_24 with
      | zero => intro j wy H locs hj hj2 hway hF hP hD hS ls hl; exact absurd hj2 (by omega)
      | succ k_24 ih_24 =>
        intro j wy H locs hj hj2 hway hF hP hD hS ls hl
        refine lv_iload hx hb dX4_bent_24 (lv_at hl 0 rfl) ?_
        refine lv_iload_n hx hb dX4_bent_26 rfl (lv_at hl 4 rfl) ?_
        refine lv_icmp_gt (tgt := 60) hx hb dX4_bent_27 (by decide) (fun c_27 => ?_) (fun c_27 => ?_)
        · refine lv_ldc2d (v := 4580687790476533049) hx hb hown (hts (.constantDouble RX4 197 (4580687790476533049)) (List.mem_of_getElem? (i := 4) rfl)) dX4_bent_60 ?_
          refine lv_aload_n hx hb dX4_bent_63 rfl (lv_at hl 2 rfl) ?_
          refine va_get (D := D) (ci := 4) (v := .ref bg) (C := RX4) (T := TX4) (N := 24) hx hb hts (fun _ h => (List.mem_cons_of_mem _ (List.mem_append_right _ h))) hown hK hP 0 rfl rfl 8 (by decide) (hts (.fieldLink RX4 29 "BottomWalksModel" "degrees" "[D") (List.mem_of_getElem? (i := 5) rfl)) (fun _ h9 => h9) rfl dX4_bent_64 ?_
          refine lv_iload_n hx hb dX4_bent_67 rfl (lv_at hl 3 rfl) ?_
          refine va_dald hx hb hK hP 7 0 rfl rfl (pingM_in c_4) dX4_bent_68 ?_
          refine lv_dmul hx hb dX4_bent_69 (bd_n (bd_mul (Ka := 1018) (Kb := 1029) (K := 1025) (by decide) (vpin_bd (pingM_in c_4) (by decide) hmg) (by decide) (by decide) (by decide)) (by decide)) ?_
          refine lv_dstore (lv' := [(5, .double (FP.dmul (4580687790476533049 : UInt64) (mg p1.toNatClampNeg))), (3, .double (wy)), (0, .ref am), (1, .int p1), (2, .int p2)]) hx hb dX4_bent_70 hl (by decide) rfl (fun ls hl => ?_)
          refine lv_dload_n hx hb dX4_bent_72 rfl (lv_at hl 1 rfl) ?_
          refine lv_dconst1 hx hb dX4_bent_73 ?_
          refine lv_dload hx hb dX4_bent_74 (lv_at hl 0 rfl) ?_
          refine lv_dload hx hb dX4_bent_76 (lv_at hl 0 rfl) ?_
          refine lv_dmul hx hb dX4_bent_78 (bd_n (bd_mul (Ka := 1025) (Kb := 1025) (K := 1028) (bd_mul (Ka := 1018) (Kb := 1029) (K := 1025) (by decide) (vpin_bd (pingM_in c_4) (by decide) hmg) (by decide) (by decide) (by decide)) (bd_mul (Ka := 1018) (Kb := 1029) (K := 1025) (by decide) (vpin_bd (pingM_in c_4) (by decide) hmg) (by decide) (by decide) (by decide)) (by decide) (by decide) (by decide)) (by decide)) ?_
          refine lv_ldc2d (v := 4602678819172646912) hx hb hown (hts (.constantDouble RX4 160 (4602678819172646912)) (List.mem_of_getElem? (i := 6) rfl)) dX4_bent_79 ?_
          refine lv_dmul hx hb dX4_bent_82 (bd_n (bd_mul (Ka := 1028) (Kb := 1023) (K := 1029) (bd_mul (Ka := 1025) (Kb := 1025) (K := 1028) (bd_mul (Ka := 1018) (Kb := 1029) (K := 1025) (by decide) (vpin_bd (pingM_in c_4) (by decide) hmg) (by decide) (by decide) (by decide)) (bd_mul (Ka := 1018) (Kb := 1029) (K := 1025) (by decide) (vpin_bd (pingM_in c_4) (by decide) hmg) (by decide) (by decide) (by decide)) (by decide) (by decide) (by decide)) (by decide) (by decide) (by decide) (by decide)) (by decide)) ?_
          refine lv_dsub hx hb dX4_bent_83 (bd_n (bd_sub (Ka := 1024) (Kb := 1029) (K := 1031) (by decide) (bd_mul (Ka := 1028) (Kb := 1023) (K := 1029) (bd_mul (Ka := 1025) (Kb := 1025) (K := 1028) (bd_mul (Ka := 1018) (Kb := 1029) (K := 1025) (by decide) (vpin_bd (pingM_in c_4) (by decide) hmg) (by decide) (by decide) (by decide)) (bd_mul (Ka := 1018) (Kb := 1029) (K := 1025) (by decide) (vpin_bd (pingM_in c_4) (by decide) hmg) (by decide) (by decide) (by decide)) (by decide) (by decide) (by decide)) (by decide) (by decide) (by decide) (by decide)) (by decide) (by decide) (by decide) (by decide)) (by decide)) ?_
          refine lv_dmul hx hb dX4_bent_84 (bd_n (bd_mul (Ka := 1200) (Kb := 1031) (K := 1209) (bd_up hway (K := 1200) (by omega)) (bd_sub (Ka := 1024) (Kb := 1029) (K := 1031) (by decide) (bd_mul (Ka := 1028) (Kb := 1023) (K := 1029) (bd_mul (Ka := 1025) (Kb := 1025) (K := 1028) (bd_mul (Ka := 1018) (Kb := 1029) (K := 1025) (by decide) (vpin_bd (pingM_in c_4) (by decide) hmg) (by decide) (by decide) (by decide)) (bd_mul (Ka := 1018) (Kb := 1029) (K := 1025) (by decide) (vpin_bd (pingM_in c_4) (by decide) hmg) (by decide) (by decide) (by decide)) (by decide) (by decide) (by decide)) (by decide) (by decide) (by decide) (by decide)) (by decide) (by decide) (by decide) (by decide)) (by decide) (by decide) (by decide)) (by decide)) ?_
          refine lv_aload_n hx hb dX4_bent_85 rfl (lv_at hl 2 rfl) ?_
          refine va_get (D := D) (ci := 4) (v := .ref bi) (C := RX4) (T := TX4) (N := 24) hx hb hts (fun _ h => (List.mem_cons_of_mem _ (List.mem_append_right _ h))) hown hK hP 0 rfl rfl 7 (by decide) (hts (.fieldLink RX4 26 "BottomWalksModel" "tides" "[D") (List.mem_of_getElem? (i := 7) rfl)) (fun _ h9 => h9) rfl dX4_bent_86 ?_
          refine lv_iload_n hx hb dX4_bent_89 rfl (lv_at hl 3 rfl) ?_
          refine va_dald hx hb hK hP 6 0 rfl rfl (pingM_in c_4) dX4_bent_90 ?_
          refine lv_dadd hx hb dX4_bent_91 (bd_n (bd_add (Ka := 1209) (Kb := 1028) (K := 1211) (bd_mul (Ka := 1200) (Kb := 1031) (K := 1209) (bd_up hway (K := 1200) (by omega)) (bd_sub (Ka := 1024) (Kb := 1029) (K := 1031) (by decide) (bd_mul (Ka := 1028) (Kb := 1023) (K := 1029) (bd_mul (Ka := 1025) (Kb := 1025) (K := 1028) (bd_mul (Ka := 1018) (Kb := 1029) (K := 1025) (by decide) (vpin_bd (pingM_in c_4) (by decide) hmg) (by decide) (by decide) (by decide)) (bd_mul (Ka := 1018) (Kb := 1029) (K := 1025) (by decide) (vpin_bd (pingM_in c_4) (by decide) hmg) (by decide) (by decide) (by decide)) (by decide) (by decide) (by decide)) (by decide) (by decide) (by decide) (by decide)) (by decide) (by decide) (by decide) (by decide)) (by decide) (by decide) (by decide)) (vpin_bd (pingM_in c_4) (by decide) hmi) (by decide) (by decide) (by decide) (by decide)) (by decide)) ?_
          have hF9 : (fX4_bent mn mm msn mi mg msd msv p1 p2) = (FP.dadd (FP.dmul wy (FP.dsub FP.dconst1 (FP.dmul (FP.dmul (FP.dmul (4580687790476533049 : UInt64) (mg p1.toNatClampNeg)) (FP.dmul (4580687790476533049 : UInt64) (mg p1.toNatClampNeg))) (4602678819172646912 : UInt64)))) (mi p1.toNatClampNeg)) := by rw [hF, fX4_bent_L24, if_pos c_27]
          have hP9 : va_P D vwCl (wM cyD cyI cyJ cyZ am bv bt bl be bdp bi bg bsd bsv bbd bbv br bu bw mn mm mch msp msb mno msn mbn mhr mro mv mt ml med md mi mg msd msv mbd mbv mr mu mw) H := hP
          have hD9 : va_D A (wM cyD cyI cyJ cyZ am bv bt bl be bdp bi bg bsd bsv bbd bbv br bu bw mn mm mch msp msb mno msn mbn mhr mro mv mt ml med md mi mg msd msv mbd mbv mr mu mw) := hD
          exact W.dret (v := (FP.dadd (FP.dmul wy (FP.dsub FP.dconst1 (FP.dmul (FP.dmul (FP.dmul (4580687790476533049 : UInt64) (mg p1.toNatClampNeg)) (FP.dmul (4580687790476533049 : UInt64) (mg p1.toNatClampNeg))) (4602678819172646912 : UInt64)))) (mi p1.toNatClampNeg))) hx hb hr (fun t ht hW => ⟨⟨(FP.dadd (FP.dmul wy (FP.dsub FP.dconst1 (FP.dmul (FP.dmul (FP.dmul (4580687790476533049 : UInt64) (mg p1.toNatClampNeg)) (FP.dmul (4580687790476533049 : UInt64) (mg p1.toNatClampNeg))) (4602678819172646912 : UInt64)))) (mi p1.toNatClampNeg)), (), rfl, (by rw [hF9]), by rw [ht]; exact hP9, va_K.moved hW.alike hK, hD9⟩, hS.F ht⟩) hS.2.2 dX4_bent_92
        refine lv_dload_n hx hb dX4_bent_30 rfl (lv_at hl 1 rfl) ?_
        refine lv_aload_n hx hb dX4_bent_31 rfl (lv_at hl 2 rfl) ?_
        refine va_get (D := D) (ci := 4) (v := .double mm) (C := RX4) (T := TX4) (N := 24) hx hb hts (fun _ h => (List.mem_cons_of_mem _ (List.mem_append_right _ h))) hown hK hP 0 rfl rfl 1 (by decide) (hts (.fieldLink RX4 61 "BottomWalksModel" "metre" "D") (List.mem_of_getElem? (i := 2) rfl)) (fun _ h9 => h9) rfl dX4_bent_32 ?_
        refine lv_aload_n hx hb dX4_bent_35 rfl (lv_at hl 2 rfl) ?_
        refine lv_iload hx hb dX4_bent_36 (lv_at hl 0 rfl) ?_
        refine lv_i2d hx hb dX4_bent_38 ?_
        refine lv_aload_n hx hb dX4_bent_39 rfl (lv_at hl 2 rfl) ?_
        refine va_get (D := D) (ci := 4) (v := .double mm) (C := RX4) (T := TX4) (N := 24) hx hb hts (fun _ h => (List.mem_cons_of_mem _ (List.mem_append_right _ h))) hown hK hP 0 rfl rfl 1 (by decide) (hts (.fieldLink RX4 61 "BottomWalksModel" "metre" "D") (List.mem_of_getElem? (i := 2) rfl)) (fun _ h9 => h9) rfl dX4_bent_40 ?_
        refine lv_dmul hx hb dX4_bent_43 (bd_n (bd_mul (Ka := 1056) (Kb := 1030) (K := 1064) (bd_i2d _) hM.2.2.1 (by decide) (by decide) (by decide)) (by decide)) ?_
        have hPc : va_P D vwCl (wM cyD cyI cyJ cyZ am bv bt bl be bdp bi bg bsd bsv bbd bbv br bu bw mn mm mch msp msb mno msn mbn mhr mro mv mt ml med md mi mg msd msv mbd mbv mr mu mw) H := hP.sub [0, 1, 2, 3, 4, 5, 6, 7, 8, 9, 10, 11, 12, 13, 14] rfl
        have hDc : va_D A (wM cyD cyI cyJ cyZ am bv bt bl be bdp bi bg bsd bsv bbd bbv br bu bw mn mm mch msp msb mno msn mbn mhr mro mv mt ml med md mi mg msd msv mbd mbv mr mu mw) := hD.sub [0, 1, 2, 3, 4, 5, 6, 7, 8, 9, 10, 11, 12, 13, 14] (by decide) rfl
        refine kdE (ws' := (wM cyD cyI cyJ cyZ am bv bt bl be bdp bi bg bsd bsv bbd bbv br bu bw mn mm mch msp msb mno msn mbn mhr mro mv mt ml med md mi mg msd msv mbd mbv mr mu mw)) (wc := (wM cyD cyI cyJ cyZ am bv bt bl be bdp bi bg bsd bsv bbd bbv br bu bw mn mm mch msp msb mno msn mbn mhr mro mv mt ml med md mi mg msd msv mbd mbv mr mu mw)) (wr := []) (w1 := (wM cyD cyI cyJ cyZ am bv bt bl be bdp bi bg bsd bsv bbd bbv br bu bw mn mm mch msp msb mno msn mbn mhr mro mv mt ml med md mi mg msd msv mbd mbv mr mu mw)) (va_runV (As := [.double (FP.dmul (FP.i2d (nI j)) mm)]) (rest := [.double mm, .double (wy)]) ⟨hx, hb, hml, hown, hts⟩ (c_X4_speedAt (l := l) (D := D) (cyD := cyD) (cyI := cyI) (cyJ := cyJ) (cyZ := cyZ) am bv bt bl be bdp bi bg bsd bsv bbd bbv br bu bw mn mm mch msp msb mno msn mbn mhr mro mv mt ml med md mi mg msd msv mbd mbv mr mu mw H.size (FP.dmul (FP.i2d (nI j)) mm) r hmsn hr20) (cwV 1 hts gX4_bent_X4_speedAt rfl rfl rfl (by decide +kernel) ⟨Nat.le_of_ble_eq_true rfl, Nat.le_of_ble_eq_true rfl⟩) (kV (ci := 4) (q0 := 0) (q := (RX4, TX4, 24)) hN hK hPc hDc rfl rfl rfl) rfl rfl hl.1 rfl (lv_room (Nat.le_of_ble_eq_true rfl)) dX4_bent_44 ⟨Nat.le_of_ble_eq_true rfl, Nat.le_of_ble_eq_true rfl⟩) hP hD hS hA [0, 1, 2, 3, 4, 5, 6, 7, 8, 9, 10, 11, 12, 13, 14] [] [0, 1, 2, 3, 4, 5, 6, 7, 8, 9, 10, 11, 12, 13, 14] rfl rfl (by decide) (by decide) rfl (by decide) (fun H locs hP hD hS => ?_)
        refine lv_dmul hx hb dX4_bent_47 (bd_n (bd_mul (Ka := 1030) (Kb := 1034) (K := 1042) hM.2.2.1 (spM_bd hmsn hr20 hmsv) (by decide) (by decide) (by decide)) (by decide)) ?_
        refine lv_ldc2d (v := 4654311885213007872) hx hb hown (hts (.constantDouble RX4 191 (4654311885213007872)) (List.mem_of_getElem? (i := 3) rfl)) dX4_bent_48 ?_
        refine lv_ddiv hx hb dX4_bent_51 (bd_n (bd_div (K := 1042) (L := 1033) (K2 := 1033) (bd_mul (Ka := 1030) (Kb := 1034) (K := 1042) hM.2.2.1 (spM_bd hmsn hr20 hmsv) (by decide) (by decide) (by decide)) (by decide) (by decide) (by decide) (by decide)) (by decide)) ?_
        refine lv_dadd hx hb dX4_bent_52 (bd_n (bd_add (Ka := 1035 + 2 * j) (Kb := 1033) (K := 1035 + 2 * (j + 1)) hway (bd_div (K := 1042) (L := 1033) (K2 := 1033) (bd_mul (Ka := 1030) (Kb := 1034) (K := 1042) hM.2.2.1 (spM_bd hmsn hr20 hmsv) (by decide) (by decide) (by decide)) (by decide) (by decide) (by decide) (by decide)) (by omega) (by decide) (by omega) (by omega)) (by omega)) ?_
        refine lv_dstore_n (lv' := [(3, .double (FP.dadd wy (FP.ddiv (FP.dmul mm (fX4_speedAt msn msd msv (FP.dmul (FP.i2d (nI j)) mm))) (4654311885213007872 : UInt64)))), (5, .int ((nI j))), (0, .ref am), (1, .int p1), (2, .int p2)]) hx hb dX4_bent_53 rfl hl (by decide) rfl (fun ls hl => ?_)
        refine lv_iinc (v := (((nI j)) + 1)) (lv' := [(5, .int (((nI j)) + 1)), (3, .double (FP.dadd wy (FP.ddiv (FP.dmul mm (fX4_speedAt msn msd msv (FP.dmul (FP.i2d (nI j)) mm))) (4654311885213007872 : UInt64)))), (0, .ref am), (1, .int p1), (2, .int p2)]) hx hb dX4_bent_54 hl (k := 1) rfl rfl (by decide) rfl (fun ls hl => ?_)
        refine lv_goto (tgt := 24) hx hb dX4_bent_57 (by decide) ?_
        exact ih_24 (j + 1) (FP.dadd wy (FP.ddiv (FP.dmul mm (fX4_speedAt msn msd msv (FP.dmul (FP.i2d (nI j)) mm))) (4654311885213007872 : UInt64))) _ _ (by omega) (by obtain ⟨K, hKe, hK⟩ := sampM hM.2.1 c_12; rw [hKe] at c_27; have := Nat.le_of_not_lt (fun z => c_27 (nI_lt z (by omega))); have := hM.2.1; omega) (bd_add (Ka := 1035 + 2 * j) (Kb := 1033) (K := 1035 + 2 * (j + 1)) hway (bd_div (K := 1042) (L := 1033) (K2 := 1033) (bd_mul (Ka := 1030) (Kb := 1034) (K := 1042) hM.2.2.1 (spM_bd hmsn hr20 hmsv) (by decide) (by decide) (by decide)) (by decide) (by decide) (by decide) (by decide)) (by omega) (by decide) (by omega) (by omega)) (by rw [← nI_1 j]; rw [hF, fX4_bent_L24, if_neg c_27]) hP hD hS _ (by rw [← nI_1 j]; exact lv_sub hl [0, 1, 2, 3, 4] rfl)
    exact loop_24 66 0 FP.dconst0 _ _ rfl (Nat.zero_le _) (by decide) (by rw [nI_0]; rw [fX4_bent, if_neg c_4, if_neg c_12]) hP hD hS _ (by exact lv_sub hl [0, 1, 2, 3, 4] rfl)
  refine lv_ldc2d (v := 13830554455654793216) hx hb hown (hts (.constantDouble RX4 158 (13830554455654793216)) (List.mem_of_getElem? (i := 1) rfl)) dX4_bent_15 ?_
  have hF9 : (fX4_bent mn mm msn mi mg msd msv p1 p2) = (13830554455654793216 : UInt64) := by rw [fX4_bent, if_neg c_4, if_pos c_12]
  have hP9 : va_P D vwCl (wM cyD cyI cyJ cyZ am bv bt bl be bdp bi bg bsd bsv bbd bbv br bu bw mn mm mch msp msb mno msn mbn mhr mro mv mt ml med md mi mg msd msv mbd mbv mr mu mw) H := hP
  have hD9 : va_D A (wM cyD cyI cyJ cyZ am bv bt bl be bdp bi bg bsd bsv bbd bbv br bu bw mn mm mch msp msb mno msn mbn mhr mro mv mt ml med md mi mg msd msv mbd mbv mr mu mw) := hD
  exact W.dret (v := (13830554455654793216 : UInt64)) hx hb hr (fun t ht hW => ⟨⟨(13830554455654793216 : UInt64), (), rfl, (by rw [hF9]), by rw [ht]; exact hP9, va_K.moved hW.alike hK, hD9⟩, hS.F ht⟩) hS.2.2 dX4_bent_18
theorem i2d_lb2 {n : Nat} (h0 : 1 ≤ n) (h : n < 1000) : lb 1023 (FP.i2d (nI n)) := by
  have := FP.Core.i2d_big (v := nI n) (by rw [nI_toInt (by omega)]; omega)
  exact ⟨this.1, this.2⟩
theorem rangeM_lb {mm : UInt64} (hm : bd 1030 mm) (hl : lb 1020 mm) {k : Int32} {K : Nat} (hk : k = nI K) (hK : K < 900) : lb 1020 (fX4_range mm k) := by
  unfold fX4_range
  rw [hk, show nI K + 1 = nI (K + 1) from nI_1 K]
  exact lb_mul (i2d_lb2 (by omega) (by omega)) hl (by decide) (by decide) (by decide) (by decide) (by decide) (bd_mul (Ka := 1056) (Kb := 1030) (bd_i2d _) hm (by decide) (by decide) (by decide))
theorem rangeM_bd {mm : UInt64} (hm : bd 1030 mm) (k : Int32) : bd 1064 (fX4_range mm k) := bd_mul (Ka := 1056) (Kb := 1030) (bd_i2d _) hm (by decide) (by decide) (by decide)
theorem volM {mm : UInt64} (hm : bd 1030 mm) (hl : lb 1020 mm) {k k2 : Int32} {K : Nat} (hk : k = nI K) (hK : K < 900) : (FP.dadd (FP.dmul (fX4_range mm k) (fX4_range mm k)) (FP.dmul (fX4_range mm k2) (fX4_range mm k2))).toNat % 2 ^ 63 ≠ 0 ∧ nn (FP.dadd (FP.dmul (fX4_range mm k) (fX4_range mm k)) (FP.dmul (fX4_range mm k2) (fX4_range mm k2))) := by
  have r1 := rangeM_bd hm k
  have r2 := rangeM_bd hm k2
  have m1 : bd 1106 (FP.dmul (fX4_range mm k) (fX4_range mm k)) := bd_mul r1 r1 (by decide) (by decide) (by decide)
  have m2 : bd 1106 (FP.dmul (fX4_range mm k2) (fX4_range mm k2)) := bd_mul r2 r2 (by decide) (by decide) (by decide)
  have s : bd 1108 (FP.dadd (FP.dmul (fX4_range mm k) (fX4_range mm k)) (FP.dmul (fX4_range mm k2) (fX4_range mm k2))) := bd_add m1 m2 (by decide) (by decide) (by decide) (by decide)
  have m1' := bd_up m1 (K := 2047) (by decide)
  have m2' := bd_up m2 (K := 2047) (by decide)
  have n1 := nn_sq (bd_up r1 (by decide)) m1'
  have n2 := nn_sq (bd_up r2 (by decide)) m2'
  have l1 := lb_mul (rangeM_lb hm hl hk hK) (rangeM_lb hm hl hk hK) (by decide) (by decide) (L := 1017) (by decide) (by decide) (by decide) m1'
  have mo := mono_add m1' m2' n1 n2
  refine ⟨?_, nn_add m1' m2' (bd_up s (by decide)) n1 n2⟩
  have := l1.1
  omega
theorem rng3 {x : Int32} (h1 : ¬ x < 0) (h2 : ¬ 3 < x) : ∃ q : Nat, x = nI q ∧ q ≤ 3 := rng (n := 3) (by decide) h1 h2
theorem samp_next {mn : Nat} (h2 : mn ≤ 64) {k : Int32} (h : ¬ fX4_isSample mn k = 0) (h3 : ¬ k + 1 = nI mn) : ∃ K : Nat, k + 1 = nI K ∧ K < 64 := by
  obtain ⟨K, e, hK⟩ := sampM h2 h
  refine ⟨K + 1, by rw [e]; exact nI_1 K, ?_⟩
  rcases Nat.lt_or_ge (K + 1) mn with q | q
  · omega
  · exact absurd (by rw [e, show nI K + 1 = nI (K + 1) from nI_1 K, show K + 1 = mn from (by omega)]) h3
def fX4_joined (mn : Nat) (mm : UInt64) (msp : UInt64) (msb : UInt64) (mno : UInt64) (mv : Nat → UInt64) (mt : Nat → Int32) (ml : Nat → Int32) (p1 : Int32) (p2 : Int32) (p3 : Int32) : UInt64 := if p1 < 0 then (13830554455654793216 : UInt64) else (if (3 : Int32) < p1 then (13830554455654793216 : UInt64) else (if (fX4_isPing p2) = 0 then (13830554455654793216 : UInt64) else (if (fX4_isSample mn p3) = 0 then (13830554455654793216 : UInt64) else (if (p3 + (1 : Int32)) = (nI mn) then (FP.l2d (fX4_strength mm msp msb mno mv mt ml p1 p2 p3)) else ((FP.ddiv (FP.dadd (FP.dmul (FP.l2d (fX4_strength mm msp msb mno mv mt ml p1 p2 p3)) (FP.dmul (fX4_range mm p3) (fX4_range mm p3))) (FP.dmul (FP.l2d (fX4_strength mm msp msb mno mv mt ml p1 p2 (p3 + (1 : Int32)))) (FP.dmul (fX4_range mm (p3 + (1 : Int32))) (fX4_range mm (p3 + (1 : Int32)))))) (FP.dadd (FP.dmul (fX4_range mm p3) (fX4_range mm p3)) (FP.dmul (fX4_range mm (p3 + (1 : Int32))) (fX4_range mm (p3 + (1 : Int32)))))))))))
set_option maxHeartbeats 4000000 in
set_option maxRecDepth 100000 in
theorem c_X4_joined {l : Launch} {D : va_G} {cyD cyI cyJ cyZ : ClassId} (am bv bt bl be bdp bi bg bsd bsv bbd bbv br bu bw : Nat) (mn : Nat) (mm : UInt64) (mch : Int32) (msp : UInt64) (msb : UInt64) (mno : UInt64) (msn : Int32) (mbn : Int32) (mhr : Int32) (mro : Int32) (mv : Nat → UInt64) (mt : Nat → Int32) (ml : Nat → Int32) (med : Nat → Int32) (md : Nat → UInt64) (mi : Nat → UInt64) (mg : Nat → UInt64) (msd : Nat → UInt64) (msv : Nat → UInt64) (mbd : Nat → UInt64) (mbv : Nat → UInt64) (mr : Nat → Int32) (mu : Nat → Int64) (mw : Nat → Int32) (sz : Nat) (p1 : Int32) (p2 : Int32) (p3 : Int32) (hM : okM mn mm msp msb mno mv) (hlb : lb 1020 mm) : mD l yX4_joined wsX4_joined ({ frames := 2, cells := 0, slots := 0, locals := 49 } : Room) D (kT cyD cyI cyJ cyZ) [.ref am, .int p1, .int p2, .int p3] (wM cyD cyI cyJ cyZ am bv bt bl be bdp bi bg bsd bsv bbd bbv br bu bw mn mm mch msp msb mno msn mbn mhr mro mv mt ml med md mi mg msd msv mbd mbv mr mu mw) (wM cyD cyI cyJ cyZ am bv bt bl be bdp bi bg bsd bsv bbd bbv br bu bw mn mm mch msp msb mno msn mbn mhr mro mv mt ml med md mi mg msd msv mbd mbv mr mu mw) sz (fX4_joined mn mm msp msb mno mv mt ml p1 p2 p3) 0 0 := by
  refine Met.ofW (cc := cX4_joined) (maxL := 12) (ret := (some .double)) (by decide) rfl ?_
  intro p e s m args below meth c s₁ B hml hv
  obtain ⟨rfl, hN, hsz, hP, hK, hD0⟩ := hv
  have hx := B.exec
  have hb := B.bytes
  have hr := B.returns
  have hts := atoms_spec (ws := wsX4_joined) B.pre
  have hown : s.vm.findClass RX4 = some m.cls := findClass_of_methodNamed B.named
  have hlocks := B.notSynchronized
  subst hsz
  have hD := hD0.self (sz := s.heap.size)
  generalize hAe : va_A (wM cyD cyI cyJ cyZ am bv bt bl be bdp bi bg bsd bsv bbd bbv br bu bw mn mm mch msp msb mno msn mbn mhr mro mv mt ml med md mi mg msd msv mbd mbv mr mu mw) s.heap.size = A at hD ⊢
  have hA : ∀ q : Nat, s.heap.size ≤ q → A q := fun q h => by rw [← hAe]; exact Or.inr h
  have hS : va_S A s.heap s.heap [] := va_S.rf
  have hP : va_P D vwCl (wM cyD cyI cyJ cyZ am bv bt bl be bdp bi bg bsd bsv bbd bbv br bu bw mn mm mch msp msb mno msn mbn mhr mro mv mt ml med md mi mg msd msv mbd mbv mr mu mw) s.heap := hP
  have hl := lv_entry [.ref am, .int p1, .int p2, .int p3] (n := 12) (Nat.le_of_ble_eq_true rfl)
  rw [lg_entry_eq]
  generalize (lg_sl [.ref am, .int p1, .int p2, .int p3] ++ List.replicate (12 - (lg_sl [.ref am, .int p1, .int p2, .int p3]).length) Slot.unset).toArray = ls at hl ⊢
  have hl : lv_has ls 12 [(0, .ref am), (1, .int p1), (2, .int p2), (3, .int p3)] := hl
  obtain ⟨H, hHe⟩ : ∃ H : Heap, H = s.heap := ⟨_, rfl⟩
  have hP : va_P D vwCl (wM cyD cyI cyJ cyZ am bv bt bl be bdp bi bg bsd bsv bbd bbv br bu bw mn mm mch msp msb mno msn mbn mhr mro mv mt ml med md mi mg msd msv mbd mbv mr mu mw) H := by rw [hHe]; exact hP
  have hS : va_S A s.heap H [] := by rw [hHe]; exact hS
  rw [← hHe]
  refine lv_iload_n hx hb dX4_joined_0 rfl (lv_at hl 1 rfl) ?_
  refine lv_if_lt (tgt := 24) hx hb dX4_joined_1 (by decide) (fun c_1 => ?_) (fun c_1 => ?_)
  · refine lv_ldc2d (v := 13830554455654793216) hx hb hown (hts (.constantDouble RX4 158 (13830554455654793216)) (List.mem_of_getElem? (i := 1) rfl)) dX4_joined_24 ?_
    have hF9 : (fX4_joined mn mm msp msb mno mv mt ml p1 p2 p3) = (13830554455654793216 : UInt64) := by rw [fX4_joined, if_pos c_1]
    have hP9 : va_P D vwCl (wM cyD cyI cyJ cyZ am bv bt bl be bdp bi bg bsd bsv bbd bbv br bu bw mn mm mch msp msb mno msn mbn mhr mro mv mt ml med md mi mg msd msv mbd mbv mr mu mw) H := hP
    have hD9 : va_D A (wM cyD cyI cyJ cyZ am bv bt bl be bdp bi bg bsd bsv bbd bbv br bu bw mn mm mch msp msb mno msn mbn mhr mro mv mt ml med md mi mg msd msv mbd mbv mr mu mw) := hD
    exact W.dret (v := (13830554455654793216 : UInt64)) hx hb hr (fun t ht hW => ⟨⟨(13830554455654793216 : UInt64), (), rfl, (by rw [hF9]), by rw [ht]; exact hP9, va_K.moved hW.alike hK, hD9⟩, hS.F ht⟩) hS.2.2 dX4_joined_27
  refine lv_iload_n hx hb dX4_joined_4 rfl (lv_at hl 1 rfl) ?_
  refine lv_iconst (v := 3) hx hb dX4_joined_5 (by decide) ?_
  refine lv_icmp_gt (tgt := 24) hx hb dX4_joined_6 (by decide) (fun c_6 => ?_) (fun c_6 => ?_)
  · refine lv_ldc2d (v := 13830554455654793216) hx hb hown (hts (.constantDouble RX4 158 (13830554455654793216)) (List.mem_of_getElem? (i := 1) rfl)) dX4_joined_24 ?_
    have hF9 : (fX4_joined mn mm msp msb mno mv mt ml p1 p2 p3) = (13830554455654793216 : UInt64) := by rw [fX4_joined, if_neg c_1, if_pos c_6]
    have hP9 : va_P D vwCl (wM cyD cyI cyJ cyZ am bv bt bl be bdp bi bg bsd bsv bbd bbv br bu bw mn mm mch msp msb mno msn mbn mhr mro mv mt ml med md mi mg msd msv mbd mbv mr mu mw) H := hP
    have hD9 : va_D A (wM cyD cyI cyJ cyZ am bv bt bl be bdp bi bg bsd bsv bbd bbv br bu bw mn mm mch msp msb mno msn mbn mhr mro mv mt ml med md mi mg msd msv mbd mbv mr mu mw) := hD
    exact W.dret (v := (13830554455654793216 : UInt64)) hx hb hr (fun t ht hW => ⟨⟨(13830554455654793216 : UInt64), (), rfl, (by rw [hF9]), by rw [ht]; exact hP9, va_K.moved hW.alike hK, hD9⟩, hS.F ht⟩) hS.2.2 dX4_joined_27
  refine lv_iload_n hx hb dX4_joined_9 rfl (lv_at hl 2 rfl) ?_
  have hPc : va_P D vwCl [] H := hP.sub [] rfl
  have hDc : va_D A [] := hD.sub [] (by decide) rfl
  refine kzE (ws' := (wM cyD cyI cyJ cyZ am bv bt bl be bdp bi bg bsd bsv bbd bbv br bu bw mn mm mch msp msb mno msn mbn mhr mro mv mt ml med md mi mg msd msv mbd mbv mr mu mw)) (wc := []) (wr := [(am, .inr (4, [.int (nI mn), .double mm, .ref bv, .ref bt, .ref bl, .ref be, .ref bdp, .ref bi, .ref bg, .int mch, .double msp, .double msb, .double mno, .int msn, .ref bsd, .ref bsv, .int mbn, .ref bbd, .ref bbv, .int mhr, .int mro, .ref br, .ref bu, .ref bw])), (bv, .inl (cyD, 8192, .inr (.inr (.inr (.inl mv))))), (bt, .inl (cyZ, 8192, .inl mt)), (bl, .inl (cyZ, 32, .inl ml)), (be, .inl (cyZ, 32, .inl med)), (bdp, .inl (cyD, 32, .inr (.inr (.inr (.inl md))))), (bi, .inl (cyD, 32, .inr (.inr (.inr (.inl mi))))), (bg, .inl (cyD, 32, .inr (.inr (.inr (.inl mg))))), (bsd, .inl (cyD, 21, .inr (.inr (.inr (.inl msd))))), (bsv, .inl (cyD, 21, .inr (.inr (.inr (.inl msv))))), (bbd, .inl (cyD, 21, .inr (.inr (.inr (.inl mbd))))), (bbv, .inl (cyD, 21, .inr (.inr (.inr (.inl mbv))))), (br, .inl (cyI, 32, .inl mr)), (bu, .inl (cyJ, 2048, .inr (.inl mu))), (bw, .inl (cyI, 32, .inl mw))]) (w1 := []) (va_runS (As := [.int p2]) (rest := []) ⟨hx, hb, hml, hown, hts⟩ (c_X4_isPing (l := l) (D := D) (cyD := cyD) (cyI := cyI) (cyJ := cyJ) (cyZ := cyZ) H.size p2) (va_cwS 1 hts gX4_joined_X4_isPing rfl rfl rfl (by decide +kernel) ⟨Nat.le_of_ble_eq_true rfl, Nat.le_of_ble_eq_true rfl⟩) (kS hN hK hPc hDc) rfl rfl hl.1 rfl (lv_room (Nat.le_of_ble_eq_true rfl)) dX4_joined_10 ⟨Nat.le_of_ble_eq_true rfl, Nat.le_of_ble_eq_true rfl⟩) hP hD hS hA [] [0, 1, 2, 3, 4, 5, 6, 7, 8, 9, 10, 11, 12, 13, 14] [0, 1, 2, 3, 4, 5, 6, 7, 8, 9, 10, 11, 12, 13, 14] rfl rfl (by decide) (by decide) rfl (by decide) (fun H locs hz_10 hP hD hS => ?_)
  refine lv_if_eq (tgt := 24) hx hb dX4_joined_13 (by decide) (fun c_13 => ?_) (fun c_13 => ?_)
  · refine lv_ldc2d (v := 13830554455654793216) hx hb hown (hts (.constantDouble RX4 158 (13830554455654793216)) (List.mem_of_getElem? (i := 1) rfl)) dX4_joined_24 ?_
    have hF9 : (fX4_joined mn mm msp msb mno mv mt ml p1 p2 p3) = (13830554455654793216 : UInt64) := by rw [fX4_joined, if_neg c_1, if_neg c_6, if_pos c_13]
    have hP9 : va_P D vwCl (wM cyD cyI cyJ cyZ am bv bt bl be bdp bi bg bsd bsv bbd bbv br bu bw mn mm mch msp msb mno msn mbn mhr mro mv mt ml med md mi mg msd msv mbd mbv mr mu mw) H := hP
    have hD9 : va_D A (wM cyD cyI cyJ cyZ am bv bt bl be bdp bi bg bsd bsv bbd bbv br bu bw mn mm mch msp msb mno msn mbn mhr mro mv mt ml med md mi mg msd msv mbd mbv mr mu mw) := hD
    exact W.dret (v := (13830554455654793216 : UInt64)) hx hb hr (fun t ht hW => ⟨⟨(13830554455654793216 : UInt64), (), rfl, (by rw [hF9]), by rw [ht]; exact hP9, va_K.moved hW.alike hK, hD9⟩, hS.F ht⟩) hS.2.2 dX4_joined_27
  refine lv_aload_n hx hb dX4_joined_16 rfl (lv_at hl 0 rfl) ?_
  refine lv_iload_n hx hb dX4_joined_17 rfl (lv_at hl 3 rfl) ?_
  have hPc : va_P D vwCl (wM cyD cyI cyJ cyZ am bv bt bl be bdp bi bg bsd bsv bbd bbv br bu bw mn mm mch msp msb mno msn mbn mhr mro mv mt ml med md mi mg msd msv mbd mbv mr mu mw) H := hP.sub [0, 1, 2, 3, 4, 5, 6, 7, 8, 9, 10, 11, 12, 13, 14] rfl
  have hDc : va_D A (wM cyD cyI cyJ cyZ am bv bt bl be bdp bi bg bsd bsv bbd bbv br bu bw mn mm mch msp msb mno msn mbn mhr mro mv mt ml med md mi mg msd msv mbd mbv mr mu mw) := hD.sub [0, 1, 2, 3, 4, 5, 6, 7, 8, 9, 10, 11, 12, 13, 14] (by decide) rfl
  refine kzE (ws' := (wM cyD cyI cyJ cyZ am bv bt bl be bdp bi bg bsd bsv bbd bbv br bu bw mn mm mch msp msb mno msn mbn mhr mro mv mt ml med md mi mg msd msv mbd mbv mr mu mw)) (wc := (wM cyD cyI cyJ cyZ am bv bt bl be bdp bi bg bsd bsv bbd bbv br bu bw mn mm mch msp msb mno msn mbn mhr mro mv mt ml med md mi mg msd msv mbd mbv mr mu mw)) (wr := []) (w1 := (wM cyD cyI cyJ cyZ am bv bt bl be bdp bi bg bsd bsv bbd bbv br bu bw mn mm mch msp msb mno msn mbn mhr mro mv mt ml med md mi mg msd msv mbd mbv mr mu mw)) (va_runV (As := [.int p3]) (rest := []) ⟨hx, hb, hml, hown, hts⟩ (c_X4_isSample (l := l) (D := D) (cyD := cyD) (cyI := cyI) (cyJ := cyJ) (cyZ := cyZ) am bv bt bl be bdp bi bg bsd bsv bbd bbv br bu bw mn mm mch msp msb mno msn mbn mhr mro mv mt ml med md mi mg msd msv mbd mbv mr mu mw H.size p3) (cwV 1 hts gX4_joined_X4_isSample rfl rfl rfl (by decide +kernel) ⟨Nat.le_of_ble_eq_true rfl, Nat.le_of_ble_eq_true rfl⟩) (kV (ci := 4) (q0 := 0) (q := (RX4, TX4, 24)) hN hK hPc hDc rfl rfl rfl) rfl rfl hl.1 rfl (lv_room (Nat.le_of_ble_eq_true rfl)) dX4_joined_18 ⟨Nat.le_of_ble_eq_true rfl, Nat.le_of_ble_eq_true rfl⟩) hP hD hS hA [0, 1, 2, 3, 4, 5, 6, 7, 8, 9, 10, 11, 12, 13, 14] [] [0, 1, 2, 3, 4, 5, 6, 7, 8, 9, 10, 11, 12, 13, 14] rfl rfl (by decide) (by decide) rfl (by decide) (fun H locs hz_18 hP hD hS => ?_)
  refine lv_if_ne (tgt := 28) hx hb dX4_joined_21 (by decide) (fun c_21 => ?_) (fun c_21 => ?_)
  · refine lv_aload_n hx hb dX4_joined_28 rfl (lv_at hl 0 rfl) ?_
    refine lv_iload_n hx hb dX4_joined_29 rfl (lv_at hl 1 rfl) ?_
    refine lv_iload_n hx hb dX4_joined_30 rfl (lv_at hl 2 rfl) ?_
    refine lv_iload_n hx hb dX4_joined_31 rfl (lv_at hl 3 rfl) ?_
    have hPc : va_P D vwCl (wM cyD cyI cyJ cyZ am bv bt bl be bdp bi bg bsd bsv bbd bbv br bu bw mn mm mch msp msb mno msn mbn mhr mro mv mt ml med md mi mg msd msv mbd mbv mr mu mw) H := hP.sub [0, 1, 2, 3, 4, 5, 6, 7, 8, 9, 10, 11, 12, 13, 14] rfl
    have hDc : va_D A (wM cyD cyI cyJ cyZ am bv bt bl be bdp bi bg bsd bsv bbd bbv br bu bw mn mm mch msp msb mno msn mbn mhr mro mv mt ml med md mi mg msd msv mbd mbv mr mu mw) := hD.sub [0, 1, 2, 3, 4, 5, 6, 7, 8, 9, 10, 11, 12, 13, 14] (by decide) rfl
    refine klE (ws' := (wM cyD cyI cyJ cyZ am bv bt bl be bdp bi bg bsd bsv bbd bbv br bu bw mn mm mch msp msb mno msn mbn mhr mro mv mt ml med md mi mg msd msv mbd mbv mr mu mw)) (wc := (wM cyD cyI cyJ cyZ am bv bt bl be bdp bi bg bsd bsv bbd bbv br bu bw mn mm mch msp msb mno msn mbn mhr mro mv mt ml med md mi mg msd msv mbd mbv mr mu mw)) (wr := []) (w1 := (wM cyD cyI cyJ cyZ am bv bt bl be bdp bi bg bsd bsv bbd bbv br bu bw mn mm mch msp msb mno msn mbn mhr mro mv mt ml med md mi mg msd msv mbd mbv mr mu mw)) (va_runV (As := [.int p1, .int p2, .int p3]) (rest := []) ⟨hx, hb, hml, hown, hts⟩ (c_X4_strength (l := l) (D := D) (cyD := cyD) (cyI := cyI) (cyJ := cyJ) (cyZ := cyZ) am bv bt bl be bdp bi bg bsd bsv bbd bbv br bu bw mn mm mch msp msb mno msn mbn mhr mro mv mt ml med md mi mg msd msv mbd mbv mr mu mw H.size p1 p2 p3 hM (rng3 c_1 c_6).choose (rng3 c_1 c_6).choose_spec.1 (by have := (rng3 c_1 c_6).choose_spec.2; omega) (pingM c_13).choose (pingM c_13).choose_spec.1 (pingM c_13).choose_spec.2 (sampM hM.2.1 c_21).choose (sampM hM.2.1 c_21).choose_spec.1 (by have h1 := (sampM hM.2.1 c_21).choose_spec.2; have h2 := hM.2.1; omega)) (cwV 3 hts gX4_joined_X4_strength rfl rfl rfl (by decide +kernel) ⟨Nat.le_of_ble_eq_true rfl, Nat.le_of_ble_eq_true rfl⟩) (kV (ci := 4) (q0 := 0) (q := (RX4, TX4, 24)) hN hK hPc hDc rfl rfl rfl) rfl rfl hl.1 rfl (lv_room (Nat.le_of_ble_eq_true rfl)) dX4_joined_32 ⟨Nat.le_of_ble_eq_true rfl, Nat.le_of_ble_eq_true rfl⟩) hP hD hS hA [0, 1, 2, 3, 4, 5, 6, 7, 8, 9, 10, 11, 12, 13, 14] [] [0, 1, 2, 3, 4, 5, 6, 7, 8, 9, 10, 11, 12, 13, 14] rfl rfl (by decide) (by decide) rfl (by decide) (fun H locs hP hD hS => ?_)
    refine lv_l2d hx hb dX4_joined_35 ?_
    refine lv_dstore (lv' := [(4, .double (FP.l2d (fX4_strength mm msp msb mno mv mt ml p1 p2 p3))), (0, .ref am), (1, .int p1), (2, .int p2), (3, .int p3)]) hx hb dX4_joined_36 hl (by decide) rfl (fun ls hl => ?_)
    refine lv_iload_n hx hb dX4_joined_38 rfl (lv_at hl 4 rfl) ?_
    refine lv_iconst (v := 1) hx hb dX4_joined_39 (by decide) ?_
    refine lv_iadd hx hb dX4_joined_40 ?_
    refine lv_aload_n hx hb dX4_joined_41 rfl (lv_at hl 1 rfl) ?_
    refine va_get (D := D) (ci := 4) (v := .int (nI mn)) (C := RX4) (T := TX4) (N := 24) hx hb hts (fun _ h => (List.mem_cons_of_mem _ (List.mem_append_right _ h))) hown hK hP 0 rfl rfl 0 (by decide) (hts (.fieldLink RX4 55 "BottomWalksModel" "samples" "I") (List.mem_of_getElem? (i := 2) rfl)) (fun _ h9 => h9) rfl dX4_joined_42 ?_
    refine lv_icmp_ne (tgt := 51) hx hb dX4_joined_45 (by decide) (fun c_45 => ?_) (fun c_45 => ?_)
    · refine lv_aload_n hx hb dX4_joined_51 rfl (lv_at hl 1 rfl) ?_
      refine lv_iload_n hx hb dX4_joined_52 rfl (lv_at hl 2 rfl) ?_
      refine lv_iload_n hx hb dX4_joined_53 rfl (lv_at hl 3 rfl) ?_
      refine lv_iload_n hx hb dX4_joined_54 rfl (lv_at hl 4 rfl) ?_
      refine lv_iconst (v := 1) hx hb dX4_joined_55 (by decide) ?_
      refine lv_iadd hx hb dX4_joined_56 ?_
      have hPc : va_P D vwCl (wM cyD cyI cyJ cyZ am bv bt bl be bdp bi bg bsd bsv bbd bbv br bu bw mn mm mch msp msb mno msn mbn mhr mro mv mt ml med md mi mg msd msv mbd mbv mr mu mw) H := hP.sub [0, 1, 2, 3, 4, 5, 6, 7, 8, 9, 10, 11, 12, 13, 14] rfl
      have hDc : va_D A (wM cyD cyI cyJ cyZ am bv bt bl be bdp bi bg bsd bsv bbd bbv br bu bw mn mm mch msp msb mno msn mbn mhr mro mv mt ml med md mi mg msd msv mbd mbv mr mu mw) := hD.sub [0, 1, 2, 3, 4, 5, 6, 7, 8, 9, 10, 11, 12, 13, 14] (by decide) rfl
      refine klE (ws' := (wM cyD cyI cyJ cyZ am bv bt bl be bdp bi bg bsd bsv bbd bbv br bu bw mn mm mch msp msb mno msn mbn mhr mro mv mt ml med md mi mg msd msv mbd mbv mr mu mw)) (wc := (wM cyD cyI cyJ cyZ am bv bt bl be bdp bi bg bsd bsv bbd bbv br bu bw mn mm mch msp msb mno msn mbn mhr mro mv mt ml med md mi mg msd msv mbd mbv mr mu mw)) (wr := []) (w1 := (wM cyD cyI cyJ cyZ am bv bt bl be bdp bi bg bsd bsv bbd bbv br bu bw mn mm mch msp msb mno msn mbn mhr mro mv mt ml med md mi mg msd msv mbd mbv mr mu mw)) (va_runV (As := [.int p1, .int p2, .int (p3 + (1 : Int32))]) (rest := []) ⟨hx, hb, hml, hown, hts⟩ (c_X4_strength (l := l) (D := D) (cyD := cyD) (cyI := cyI) (cyJ := cyJ) (cyZ := cyZ) am bv bt bl be bdp bi bg bsd bsv bbd bbv br bu bw mn mm mch msp msb mno msn mbn mhr mro mv mt ml med md mi mg msd msv mbd mbv mr mu mw H.size p1 p2 (p3 + (1 : Int32)) hM (rng3 c_1 c_6).choose (rng3 c_1 c_6).choose_spec.1 (by have := (rng3 c_1 c_6).choose_spec.2; omega) (pingM c_13).choose (pingM c_13).choose_spec.1 (pingM c_13).choose_spec.2 (samp_next hM.2.1 c_21 c_45).choose (samp_next hM.2.1 c_21 c_45).choose_spec.1 (samp_next hM.2.1 c_21 c_45).choose_spec.2) (cwV 3 hts gX4_joined_X4_strength rfl rfl rfl (by decide +kernel) ⟨Nat.le_of_ble_eq_true rfl, Nat.le_of_ble_eq_true rfl⟩) (kV (ci := 4) (q0 := 0) (q := (RX4, TX4, 24)) hN hK hPc hDc rfl rfl rfl) rfl rfl hl.1 rfl (lv_room (Nat.le_of_ble_eq_true rfl)) dX4_joined_57 ⟨Nat.le_of_ble_eq_true rfl, Nat.le_of_ble_eq_true rfl⟩) hP hD hS hA [0, 1, 2, 3, 4, 5, 6, 7, 8, 9, 10, 11, 12, 13, 14] [] [0, 1, 2, 3, 4, 5, 6, 7, 8, 9, 10, 11, 12, 13, 14] rfl rfl (by decide) (by decide) rfl (by decide) (fun H locs hP hD hS => ?_)
      refine lv_l2d hx hb dX4_joined_60 ?_
      refine lv_dstore (lv' := [(6, .double (FP.l2d (fX4_strength mm msp msb mno mv mt ml p1 p2 (p3 + (1 : Int32))))), (4, .double (FP.l2d (fX4_strength mm msp msb mno mv mt ml p1 p2 p3))), (0, .ref am), (1, .int p1), (2, .int p2), (3, .int p3)]) hx hb dX4_joined_61 hl (by decide) rfl (fun ls hl => ?_)
      refine lv_aload_n hx hb dX4_joined_63 rfl (lv_at hl 2 rfl) ?_
      refine lv_iload_n hx hb dX4_joined_64 rfl (lv_at hl 5 rfl) ?_
      have hPc : va_P D vwCl (wM cyD cyI cyJ cyZ am bv bt bl be bdp bi bg bsd bsv bbd bbv br bu bw mn mm mch msp msb mno msn mbn mhr mro mv mt ml med md mi mg msd msv mbd mbv mr mu mw) H := hP.sub [0, 1, 2, 3, 4, 5, 6, 7, 8, 9, 10, 11, 12, 13, 14] rfl
      have hDc : va_D A (wM cyD cyI cyJ cyZ am bv bt bl be bdp bi bg bsd bsv bbd bbv br bu bw mn mm mch msp msb mno msn mbn mhr mro mv mt ml med md mi mg msd msv mbd mbv mr mu mw) := hD.sub [0, 1, 2, 3, 4, 5, 6, 7, 8, 9, 10, 11, 12, 13, 14] (by decide) rfl
      refine kdE (ws' := (wM cyD cyI cyJ cyZ am bv bt bl be bdp bi bg bsd bsv bbd bbv br bu bw mn mm mch msp msb mno msn mbn mhr mro mv mt ml med md mi mg msd msv mbd mbv mr mu mw)) (wc := (wM cyD cyI cyJ cyZ am bv bt bl be bdp bi bg bsd bsv bbd bbv br bu bw mn mm mch msp msb mno msn mbn mhr mro mv mt ml med md mi mg msd msv mbd mbv mr mu mw)) (wr := []) (w1 := (wM cyD cyI cyJ cyZ am bv bt bl be bdp bi bg bsd bsv bbd bbv br bu bw mn mm mch msp msb mno msn mbn mhr mro mv mt ml med md mi mg msd msv mbd mbv mr mu mw)) (va_runV (As := [.int p3]) (rest := []) ⟨hx, hb, hml, hown, hts⟩ (c_X4_range (l := l) (D := D) (cyD := cyD) (cyI := cyI) (cyJ := cyJ) (cyZ := cyZ) am bv bt bl be bdp bi bg bsd bsv bbd bbv br bu bw mn mm mch msp msb mno msn mbn mhr mro mv mt ml med md mi mg msd msv mbd mbv mr mu mw H.size p3 hM.2.2.1) (cwV 1 hts gX4_joined_X4_range rfl rfl rfl (by decide +kernel) ⟨Nat.le_of_ble_eq_true rfl, Nat.le_of_ble_eq_true rfl⟩) (kV (ci := 4) (q0 := 0) (q := (RX4, TX4, 24)) hN hK hPc hDc rfl rfl rfl) rfl rfl hl.1 rfl (lv_room (Nat.le_of_ble_eq_true rfl)) dX4_joined_65 ⟨Nat.le_of_ble_eq_true rfl, Nat.le_of_ble_eq_true rfl⟩) hP hD hS hA [0, 1, 2, 3, 4, 5, 6, 7, 8, 9, 10, 11, 12, 13, 14] [] [0, 1, 2, 3, 4, 5, 6, 7, 8, 9, 10, 11, 12, 13, 14] rfl rfl (by decide) (by decide) rfl (by decide) (fun H locs hP hD hS => ?_)
      refine lv_aload_n hx hb dX4_joined_68 rfl (lv_at hl 2 rfl) ?_
      refine lv_iload_n hx hb dX4_joined_69 rfl (lv_at hl 5 rfl) ?_
      have hPc : va_P D vwCl (wM cyD cyI cyJ cyZ am bv bt bl be bdp bi bg bsd bsv bbd bbv br bu bw mn mm mch msp msb mno msn mbn mhr mro mv mt ml med md mi mg msd msv mbd mbv mr mu mw) H := hP.sub [0, 1, 2, 3, 4, 5, 6, 7, 8, 9, 10, 11, 12, 13, 14] rfl
      have hDc : va_D A (wM cyD cyI cyJ cyZ am bv bt bl be bdp bi bg bsd bsv bbd bbv br bu bw mn mm mch msp msb mno msn mbn mhr mro mv mt ml med md mi mg msd msv mbd mbv mr mu mw) := hD.sub [0, 1, 2, 3, 4, 5, 6, 7, 8, 9, 10, 11, 12, 13, 14] (by decide) rfl
      refine kdE (ws' := (wM cyD cyI cyJ cyZ am bv bt bl be bdp bi bg bsd bsv bbd bbv br bu bw mn mm mch msp msb mno msn mbn mhr mro mv mt ml med md mi mg msd msv mbd mbv mr mu mw)) (wc := (wM cyD cyI cyJ cyZ am bv bt bl be bdp bi bg bsd bsv bbd bbv br bu bw mn mm mch msp msb mno msn mbn mhr mro mv mt ml med md mi mg msd msv mbd mbv mr mu mw)) (wr := []) (w1 := (wM cyD cyI cyJ cyZ am bv bt bl be bdp bi bg bsd bsv bbd bbv br bu bw mn mm mch msp msb mno msn mbn mhr mro mv mt ml med md mi mg msd msv mbd mbv mr mu mw)) (va_runV (As := [.int p3]) (rest := [.double (fX4_range mm p3)]) ⟨hx, hb, hml, hown, hts⟩ (c_X4_range (l := l) (D := D) (cyD := cyD) (cyI := cyI) (cyJ := cyJ) (cyZ := cyZ) am bv bt bl be bdp bi bg bsd bsv bbd bbv br bu bw mn mm mch msp msb mno msn mbn mhr mro mv mt ml med md mi mg msd msv mbd mbv mr mu mw H.size p3 hM.2.2.1) (cwV 1 hts gX4_joined_X4_range rfl rfl rfl (by decide +kernel) ⟨Nat.le_of_ble_eq_true rfl, Nat.le_of_ble_eq_true rfl⟩) (kV (ci := 4) (q0 := 0) (q := (RX4, TX4, 24)) hN hK hPc hDc rfl rfl rfl) rfl rfl hl.1 rfl (lv_room (Nat.le_of_ble_eq_true rfl)) dX4_joined_70 ⟨Nat.le_of_ble_eq_true rfl, Nat.le_of_ble_eq_true rfl⟩) hP hD hS hA [0, 1, 2, 3, 4, 5, 6, 7, 8, 9, 10, 11, 12, 13, 14] [] [0, 1, 2, 3, 4, 5, 6, 7, 8, 9, 10, 11, 12, 13, 14] rfl rfl (by decide) (by decide) rfl (by decide) (fun H locs hP hD hS => ?_)
      refine lv_dmul hx hb dX4_joined_73 (bd_n (bd_mul (Ka := 1064) (Kb := 1064) (K := 1106) (rangeM_bd hM.2.2.1 _) (rangeM_bd hM.2.2.1 _) (by decide) (by decide) (by decide)) (by decide)) ?_
      refine lv_dstore (lv' := [(8, .double (FP.dmul (fX4_range mm p3) (fX4_range mm p3))), (6, .double (FP.l2d (fX4_strength mm msp msb mno mv mt ml p1 p2 (p3 + (1 : Int32))))), (4, .double (FP.l2d (fX4_strength mm msp msb mno mv mt ml p1 p2 p3))), (0, .ref am), (1, .int p1), (2, .int p2), (3, .int p3)]) hx hb dX4_joined_74 hl (by decide) rfl (fun ls hl => ?_)
      refine lv_aload_n hx hb dX4_joined_76 rfl (lv_at hl 3 rfl) ?_
      refine lv_iload_n hx hb dX4_joined_77 rfl (lv_at hl 6 rfl) ?_
      refine lv_iconst (v := 1) hx hb dX4_joined_78 (by decide) ?_
      refine lv_iadd hx hb dX4_joined_79 ?_
      have hPc : va_P D vwCl (wM cyD cyI cyJ cyZ am bv bt bl be bdp bi bg bsd bsv bbd bbv br bu bw mn mm mch msp msb mno msn mbn mhr mro mv mt ml med md mi mg msd msv mbd mbv mr mu mw) H := hP.sub [0, 1, 2, 3, 4, 5, 6, 7, 8, 9, 10, 11, 12, 13, 14] rfl
      have hDc : va_D A (wM cyD cyI cyJ cyZ am bv bt bl be bdp bi bg bsd bsv bbd bbv br bu bw mn mm mch msp msb mno msn mbn mhr mro mv mt ml med md mi mg msd msv mbd mbv mr mu mw) := hD.sub [0, 1, 2, 3, 4, 5, 6, 7, 8, 9, 10, 11, 12, 13, 14] (by decide) rfl
      refine kdE (ws' := (wM cyD cyI cyJ cyZ am bv bt bl be bdp bi bg bsd bsv bbd bbv br bu bw mn mm mch msp msb mno msn mbn mhr mro mv mt ml med md mi mg msd msv mbd mbv mr mu mw)) (wc := (wM cyD cyI cyJ cyZ am bv bt bl be bdp bi bg bsd bsv bbd bbv br bu bw mn mm mch msp msb mno msn mbn mhr mro mv mt ml med md mi mg msd msv mbd mbv mr mu mw)) (wr := []) (w1 := (wM cyD cyI cyJ cyZ am bv bt bl be bdp bi bg bsd bsv bbd bbv br bu bw mn mm mch msp msb mno msn mbn mhr mro mv mt ml med md mi mg msd msv mbd mbv mr mu mw)) (va_runV (As := [.int (p3 + (1 : Int32))]) (rest := []) ⟨hx, hb, hml, hown, hts⟩ (c_X4_range (l := l) (D := D) (cyD := cyD) (cyI := cyI) (cyJ := cyJ) (cyZ := cyZ) am bv bt bl be bdp bi bg bsd bsv bbd bbv br bu bw mn mm mch msp msb mno msn mbn mhr mro mv mt ml med md mi mg msd msv mbd mbv mr mu mw H.size (p3 + (1 : Int32)) hM.2.2.1) (cwV 1 hts gX4_joined_X4_range rfl rfl rfl (by decide +kernel) ⟨Nat.le_of_ble_eq_true rfl, Nat.le_of_ble_eq_true rfl⟩) (kV (ci := 4) (q0 := 0) (q := (RX4, TX4, 24)) hN hK hPc hDc rfl rfl rfl) rfl rfl hl.1 rfl (lv_room (Nat.le_of_ble_eq_true rfl)) dX4_joined_80 ⟨Nat.le_of_ble_eq_true rfl, Nat.le_of_ble_eq_true rfl⟩) hP hD hS hA [0, 1, 2, 3, 4, 5, 6, 7, 8, 9, 10, 11, 12, 13, 14] [] [0, 1, 2, 3, 4, 5, 6, 7, 8, 9, 10, 11, 12, 13, 14] rfl rfl (by decide) (by decide) rfl (by decide) (fun H locs hP hD hS => ?_)
      refine lv_aload_n hx hb dX4_joined_83 rfl (lv_at hl 3 rfl) ?_
      refine lv_iload_n hx hb dX4_joined_84 rfl (lv_at hl 6 rfl) ?_
      refine lv_iconst (v := 1) hx hb dX4_joined_85 (by decide) ?_
      refine lv_iadd hx hb dX4_joined_86 ?_
      have hPc : va_P D vwCl (wM cyD cyI cyJ cyZ am bv bt bl be bdp bi bg bsd bsv bbd bbv br bu bw mn mm mch msp msb mno msn mbn mhr mro mv mt ml med md mi mg msd msv mbd mbv mr mu mw) H := hP.sub [0, 1, 2, 3, 4, 5, 6, 7, 8, 9, 10, 11, 12, 13, 14] rfl
      have hDc : va_D A (wM cyD cyI cyJ cyZ am bv bt bl be bdp bi bg bsd bsv bbd bbv br bu bw mn mm mch msp msb mno msn mbn mhr mro mv mt ml med md mi mg msd msv mbd mbv mr mu mw) := hD.sub [0, 1, 2, 3, 4, 5, 6, 7, 8, 9, 10, 11, 12, 13, 14] (by decide) rfl
      refine kdE (ws' := (wM cyD cyI cyJ cyZ am bv bt bl be bdp bi bg bsd bsv bbd bbv br bu bw mn mm mch msp msb mno msn mbn mhr mro mv mt ml med md mi mg msd msv mbd mbv mr mu mw)) (wc := (wM cyD cyI cyJ cyZ am bv bt bl be bdp bi bg bsd bsv bbd bbv br bu bw mn mm mch msp msb mno msn mbn mhr mro mv mt ml med md mi mg msd msv mbd mbv mr mu mw)) (wr := []) (w1 := (wM cyD cyI cyJ cyZ am bv bt bl be bdp bi bg bsd bsv bbd bbv br bu bw mn mm mch msp msb mno msn mbn mhr mro mv mt ml med md mi mg msd msv mbd mbv mr mu mw)) (va_runV (As := [.int (p3 + (1 : Int32))]) (rest := [.double (fX4_range mm (p3 + (1 : Int32)))]) ⟨hx, hb, hml, hown, hts⟩ (c_X4_range (l := l) (D := D) (cyD := cyD) (cyI := cyI) (cyJ := cyJ) (cyZ := cyZ) am bv bt bl be bdp bi bg bsd bsv bbd bbv br bu bw mn mm mch msp msb mno msn mbn mhr mro mv mt ml med md mi mg msd msv mbd mbv mr mu mw H.size (p3 + (1 : Int32)) hM.2.2.1) (cwV 1 hts gX4_joined_X4_range rfl rfl rfl (by decide +kernel) ⟨Nat.le_of_ble_eq_true rfl, Nat.le_of_ble_eq_true rfl⟩) (kV (ci := 4) (q0 := 0) (q := (RX4, TX4, 24)) hN hK hPc hDc rfl rfl rfl) rfl rfl hl.1 rfl (lv_room (Nat.le_of_ble_eq_true rfl)) dX4_joined_87 ⟨Nat.le_of_ble_eq_true rfl, Nat.le_of_ble_eq_true rfl⟩) hP hD hS hA [0, 1, 2, 3, 4, 5, 6, 7, 8, 9, 10, 11, 12, 13, 14] [] [0, 1, 2, 3, 4, 5, 6, 7, 8, 9, 10, 11, 12, 13, 14] rfl rfl (by decide) (by decide) rfl (by decide) (fun H locs hP hD hS => ?_)
      refine lv_dmul hx hb dX4_joined_90 (bd_n (bd_mul (Ka := 1064) (Kb := 1064) (K := 1106) (rangeM_bd hM.2.2.1 _) (rangeM_bd hM.2.2.1 _) (by decide) (by decide) (by decide)) (by decide)) ?_
      refine lv_dstore (lv' := [(10, .double (FP.dmul (fX4_range mm (p3 + (1 : Int32))) (fX4_range mm (p3 + (1 : Int32))))), (8, .double (FP.dmul (fX4_range mm p3) (fX4_range mm p3))), (6, .double (FP.l2d (fX4_strength mm msp msb mno mv mt ml p1 p2 (p3 + (1 : Int32))))), (4, .double (FP.l2d (fX4_strength mm msp msb mno mv mt ml p1 p2 p3))), (0, .ref am), (1, .int p1), (2, .int p2), (3, .int p3)]) hx hb dX4_joined_91 hl (by decide) rfl (fun ls hl => ?_)
      refine lv_dload hx hb dX4_joined_93 (lv_at hl 3 rfl) ?_
      refine lv_dload hx hb dX4_joined_95 (lv_at hl 1 rfl) ?_
      refine lv_dmul hx hb dX4_joined_97 (bd_n (bd_mul (Ka := 1088) (Kb := 1106) (K := 1172) (bd_l2d _) (bd_mul (Ka := 1064) (Kb := 1064) (K := 1106) (rangeM_bd hM.2.2.1 _) (rangeM_bd hM.2.2.1 _) (by decide) (by decide) (by decide)) (by decide) (by decide) (by decide)) (by decide)) ?_
      refine lv_dload hx hb dX4_joined_98 (lv_at hl 2 rfl) ?_
      refine lv_dload hx hb dX4_joined_100 (lv_at hl 0 rfl) ?_
      refine lv_dmul hx hb dX4_joined_102 (bd_n (bd_mul (Ka := 1088) (Kb := 1106) (K := 1172) (bd_l2d _) (bd_mul (Ka := 1064) (Kb := 1064) (K := 1106) (rangeM_bd hM.2.2.1 _) (rangeM_bd hM.2.2.1 _) (by decide) (by decide) (by decide)) (by decide) (by decide) (by decide)) (by decide)) ?_
      refine lv_dadd hx hb dX4_joined_103 (bd_n (bd_add (Ka := 1172) (Kb := 1172) (K := 1174) (bd_mul (Ka := 1088) (Kb := 1106) (K := 1172) (bd_l2d _) (bd_mul (Ka := 1064) (Kb := 1064) (K := 1106) (rangeM_bd hM.2.2.1 _) (rangeM_bd hM.2.2.1 _) (by decide) (by decide) (by decide)) (by decide) (by decide) (by decide)) (bd_mul (Ka := 1088) (Kb := 1106) (K := 1172) (bd_l2d _) (bd_mul (Ka := 1064) (Kb := 1064) (K := 1106) (rangeM_bd hM.2.2.1 _) (rangeM_bd hM.2.2.1 _) (by decide) (by decide) (by decide)) (by decide) (by decide) (by decide)) (by decide) (by decide) (by decide) (by decide)) (by decide)) ?_
      refine lv_dload hx hb dX4_joined_104 (lv_at hl 1 rfl) ?_
      refine lv_dload hx hb dX4_joined_106 (lv_at hl 0 rfl) ?_
      refine lv_dadd hx hb dX4_joined_108 (bd_n (bd_add (Ka := 1106) (Kb := 1106) (K := 1108) (bd_mul (Ka := 1064) (Kb := 1064) (K := 1106) (rangeM_bd hM.2.2.1 _) (rangeM_bd hM.2.2.1 _) (by decide) (by decide) (by decide)) (bd_mul (Ka := 1064) (Kb := 1064) (K := 1106) (rangeM_bd hM.2.2.1 _) (rangeM_bd hM.2.2.1 _) (by decide) (by decide) (by decide)) (by decide) (by decide) (by decide) (by decide)) (by decide)) ?_
      refine lv_ddiv hx hb dX4_joined_109 (div_ok (bd_add (Ka := 1172) (Kb := 1172) (K := 1174) (bd_mul (Ka := 1088) (Kb := 1106) (K := 1172) (bd_l2d _) (bd_mul (Ka := 1064) (Kb := 1064) (K := 1106) (rangeM_bd hM.2.2.1 _) (rangeM_bd hM.2.2.1 _) (by decide) (by decide) (by decide)) (by decide) (by decide) (by decide)) (bd_mul (Ka := 1088) (Kb := 1106) (K := 1172) (bd_l2d _) (bd_mul (Ka := 1064) (Kb := 1064) (K := 1106) (rangeM_bd hM.2.2.1 _) (rangeM_bd hM.2.2.1 _) (by decide) (by decide) (by decide)) (by decide) (by decide) (by decide)) (by decide) (by decide) (by decide) (by decide)) (by decide) (bd_add (Ka := 1106) (Kb := 1106) (K := 1108) (bd_mul (Ka := 1064) (Kb := 1064) (K := 1106) (rangeM_bd hM.2.2.1 _) (rangeM_bd hM.2.2.1 _) (by decide) (by decide) (by decide)) (bd_mul (Ka := 1064) (Kb := 1064) (K := 1106) (rangeM_bd hM.2.2.1 _) (rangeM_bd hM.2.2.1 _) (by decide) (by decide) (by decide)) (by decide) (by decide) (by decide) (by decide)) (by decide) (volM hM.2.2.1 hlb (sampM hM.2.1 c_21).choose_spec.1 (by have h1 := (sampM hM.2.1 c_21).choose_spec.2; have h2 := hM.2.1; omega)).1) ?_
      have hF9 : (fX4_joined mn mm msp msb mno mv mt ml p1 p2 p3) = (FP.ddiv (FP.dadd (FP.dmul (FP.l2d (fX4_strength mm msp msb mno mv mt ml p1 p2 p3)) (FP.dmul (fX4_range mm p3) (fX4_range mm p3))) (FP.dmul (FP.l2d (fX4_strength mm msp msb mno mv mt ml p1 p2 (p3 + (1 : Int32)))) (FP.dmul (fX4_range mm (p3 + (1 : Int32))) (fX4_range mm (p3 + (1 : Int32)))))) (FP.dadd (FP.dmul (fX4_range mm p3) (fX4_range mm p3)) (FP.dmul (fX4_range mm (p3 + (1 : Int32))) (fX4_range mm (p3 + (1 : Int32)))))) := by rw [fX4_joined, if_neg c_1, if_neg c_6, if_neg c_13, if_neg c_21, if_neg c_45]
      have hP9 : va_P D vwCl (wM cyD cyI cyJ cyZ am bv bt bl be bdp bi bg bsd bsv bbd bbv br bu bw mn mm mch msp msb mno msn mbn mhr mro mv mt ml med md mi mg msd msv mbd mbv mr mu mw) H := hP
      have hD9 : va_D A (wM cyD cyI cyJ cyZ am bv bt bl be bdp bi bg bsd bsv bbd bbv br bu bw mn mm mch msp msb mno msn mbn mhr mro mv mt ml med md mi mg msd msv mbd mbv mr mu mw) := hD
      exact W.dret (v := (FP.ddiv (FP.dadd (FP.dmul (FP.l2d (fX4_strength mm msp msb mno mv mt ml p1 p2 p3)) (FP.dmul (fX4_range mm p3) (fX4_range mm p3))) (FP.dmul (FP.l2d (fX4_strength mm msp msb mno mv mt ml p1 p2 (p3 + (1 : Int32)))) (FP.dmul (fX4_range mm (p3 + (1 : Int32))) (fX4_range mm (p3 + (1 : Int32)))))) (FP.dadd (FP.dmul (fX4_range mm p3) (fX4_range mm p3)) (FP.dmul (fX4_range mm (p3 + (1 : Int32))) (fX4_range mm (p3 + (1 : Int32))))))) hx hb hr (fun t ht hW => ⟨⟨(FP.ddiv (FP.dadd (FP.dmul (FP.l2d (fX4_strength mm msp msb mno mv mt ml p1 p2 p3)) (FP.dmul (fX4_range mm p3) (fX4_range mm p3))) (FP.dmul (FP.l2d (fX4_strength mm msp msb mno mv mt ml p1 p2 (p3 + (1 : Int32)))) (FP.dmul (fX4_range mm (p3 + (1 : Int32))) (fX4_range mm (p3 + (1 : Int32)))))) (FP.dadd (FP.dmul (fX4_range mm p3) (fX4_range mm p3)) (FP.dmul (fX4_range mm (p3 + (1 : Int32))) (fX4_range mm (p3 + (1 : Int32)))))), (), rfl, (by rw [hF9]), by rw [ht]; exact hP9, va_K.moved hW.alike hK, hD9⟩, hS.F ht⟩) hS.2.2 dX4_joined_110
    refine lv_dload hx hb dX4_joined_48 (lv_at hl 0 rfl) ?_
    have hF9 : (fX4_joined mn mm msp msb mno mv mt ml p1 p2 p3) = (FP.l2d (fX4_strength mm msp msb mno mv mt ml p1 p2 p3)) := by rw [fX4_joined, if_neg c_1, if_neg c_6, if_neg c_13, if_neg c_21, if_pos c_45]
    have hP9 : va_P D vwCl (wM cyD cyI cyJ cyZ am bv bt bl be bdp bi bg bsd bsv bbd bbv br bu bw mn mm mch msp msb mno msn mbn mhr mro mv mt ml med md mi mg msd msv mbd mbv mr mu mw) H := hP
    have hD9 : va_D A (wM cyD cyI cyJ cyZ am bv bt bl be bdp bi bg bsd bsv bbd bbv br bu bw mn mm mch msp msb mno msn mbn mhr mro mv mt ml med md mi mg msd msv mbd mbv mr mu mw) := hD
    exact W.dret (v := (FP.l2d (fX4_strength mm msp msb mno mv mt ml p1 p2 p3))) hx hb hr (fun t ht hW => ⟨⟨(FP.l2d (fX4_strength mm msp msb mno mv mt ml p1 p2 p3)), (), rfl, (by rw [hF9]), by rw [ht]; exact hP9, va_K.moved hW.alike hK, hD9⟩, hS.F ht⟩) hS.2.2 dX4_joined_50
  refine lv_ldc2d (v := 13830554455654793216) hx hb hown (hts (.constantDouble RX4 158 (13830554455654793216)) (List.mem_of_getElem? (i := 1) rfl)) dX4_joined_24 ?_
  have hF9 : (fX4_joined mn mm msp msb mno mv mt ml p1 p2 p3) = (13830554455654793216 : UInt64) := by rw [fX4_joined, if_neg c_1, if_neg c_6, if_neg c_13, if_pos c_21]
  have hP9 : va_P D vwCl (wM cyD cyI cyJ cyZ am bv bt bl be bdp bi bg bsd bsv bbd bbv br bu bw mn mm mch msp msb mno msn mbn mhr mro mv mt ml med md mi mg msd msv mbd mbv mr mu mw) H := hP
  have hD9 : va_D A (wM cyD cyI cyJ cyZ am bv bt bl be bdp bi bg bsd bsv bbd bbv br bu bw mn mm mch msp msb mno msn mbn mhr mro mv mt ml med md mi mg msd msv mbd mbv mr mu mw) := hD
  exact W.dret (v := (13830554455654793216 : UInt64)) hx hb hr (fun t ht hW => ⟨⟨(13830554455654793216 : UInt64), (), rfl, (by rw [hF9]), by rw [ht]; exact hP9, va_K.moved hW.alike hK, hD9⟩, hS.F ht⟩) hS.2.2 dX4_joined_27
