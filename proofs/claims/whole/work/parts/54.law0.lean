/-! ===== the law: what it needs of the tables, its reading of the script, the start of both sides ===== -/
theorem kN_of {s : State} {a : Array Value} (h : ∀ w ∈ lw_tbl, w.before a s = true) : kN s :=
  ⟨va_Nw.of rfl (h _ (List.mem_of_getElem? (i := 47) (by decide +kernel))), va_Nw.of rfl (h _ (List.mem_of_getElem? (i := 174) (by decide +kernel))), va_Nw.of rfl (h _ (List.mem_of_getElem? (i := 177) (by decide +kernel))), va_Nw.of rfl (h _ (List.mem_of_getElem? (i := 185) (by decide +kernel))), va_Nw.of rfl (h _ (List.mem_of_getElem? (i := 227) (by decide +kernel))), va_Nw.of rfl (h _ (List.mem_of_getElem? (i := 314) (by decide +kernel))), va_Nw.of rfl (h _ (List.mem_of_getElem? (i := 335) (by decide +kernel))), va_Nw.of rfl (h _ (List.mem_of_getElem? (i := 429) (by decide +kernel)))⟩
theorem arr_of {s : State} {a : Array Value} {ty : FieldType} (hp : ∀ C, ty ≠ .object C) (h : (Cond.arrayClass ty).before a s = true) : ∃ cA : ClassId, ArrOfT s cA ty ∧ va_RA s cA ty := by
  obtain ⟨cA, kA, comp, h1, h2, h3⟩ := Cond.arrayClass_spec h
  refine ⟨cA, fun n z => ⟨fun k h => (by cases h), kA, h2, comp, h3⟩, ?_⟩
  cases ty with
  | object C => exact absurd rfl (hp C)
  | _ => exact h1
theorem kT_of {s : State} {a : Array Value} (h : ∀ w ∈ lw_tbl, w.before a s = true) : ∃ cyD cyI cyJ cyZ : ClassId, ∀ (k : Nat) (q : ClassId × FieldType), (kT cyD cyI cyJ cyZ)[k]? = some q → ArrOfT s q.1 q.2 ∧ va_RA s q.1 q.2 := by
  obtain ⟨cD, hD⟩ := arr_of (ty := .double) (fun C h => by cases h) (h _ (List.mem_of_getElem? (i := 61) (by decide +kernel)))
  obtain ⟨cZ, hZ⟩ := arr_of (ty := .boolean) (fun C h => by cases h) (h _ (List.mem_of_getElem? (i := 104) (by decide +kernel)))
  obtain ⟨cI, hI⟩ := arr_of (ty := .int) (fun C h => by cases h) (h _ (List.mem_of_getElem? (i := 138) (by decide +kernel)))
  obtain ⟨cJ, hJ⟩ := arr_of (ty := .long) (fun C h => by cases h) (h _ (List.mem_of_getElem? (i := 139) (by decide +kernel)))
  refine ⟨cD, cI, cJ, cZ, fun k q hq => ?_⟩
  match k, hq with
  | 0, hq => cases hq; exact hD
  | 1, hq => cases hq; exact hI
  | 2, hq => cases hq; exact hJ
  | 3, hq => cases hq; exact hZ
  | k + 4, hq => cases hq
/-- what the law reads of the script at a place that may lie behind it -/
def fL_cell (L : Nat) (xs : Nat → Int32) (k : Int32) : Int32 := if nI L ≤ k then 0 else xs k.toNatClampNeg
theorem cell_blind {As : List Value} {b L sz : Nat} {xs : Nat → Int32} : FrameBlind (va_Pc As (fun U => U.heap.size = sz ∧ va_X b L xs U U.heap ∧ b < U.heap.size)) := fun a U g mk q => by
  obtain ⟨q0, q1, q2, q3⟩ := q
  exact ⟨q0, q1, va_X.moved (u := U) (U := U.calling g mk a) (Vm.Alike.refl U.vm) q2, q3⟩
set_option maxHeartbeats 4000000 in
set_option maxRecDepth 100000 in
theorem c_L_cell {l : Launch} (b L : Nat) (xs : Nat → Int32) (sz K : Nat) (hL : L ≤ 2050) (hK : K ≤ 2050) : Met l yL_cell wsL_cell ({ frames := 0, cells := 0, slots := 0, locals := 0 } : Room) (va_Pc [.ref b, .int (nI K)] (fun U => U.heap.size = sz ∧ va_X b L xs U U.heap ∧ b < U.heap.size)) (va_Qi (fun (r : Int32) (_ : Unit) => r = fL_cell L xs (nI K)) (fun _ _ => True) (fun q => sz ≤ q)) 0 0 (fun q => sz ≤ q) := by
  refine Met.ofW (cc := cL_cell) (maxL := 2) (ret := (some .int)) (by decide) rfl ?_
  intro p e s m args below meth c s₁ B hml hv
  obtain ⟨rfl, hsz, hX, hbl⟩ := hv
  have hx := B.exec
  have hb := B.bytes
  have hr := B.returns
  have hlocks := B.notSynchronized
  subst hsz
  have hbA : ¬ (fun q : Nat => s.heap.size ≤ q) b := Nat.not_le.mpr hbl
  have hS : va_S (fun q : Nat => s.heap.size ≤ q) s.heap s.heap [] := va_S.rf
  have hl := lv_entry [.ref b, .int (nI K)] (n := 2) (Nat.le_of_ble_eq_true rfl)
  rw [lg_entry_eq]
  generalize (lg_sl [.ref b, .int (nI K)] ++ List.replicate (2 - (lg_sl [.ref b, .int (nI K)]).length) Slot.unset).toArray = ls at hl ⊢
  have hl : lv_has ls 2 [(0, .ref b), (1, .int (nI K))] := hl
  refine lv_iload_n hx hb dL_cell_0 rfl (lv_at hl 1 rfl) ?_
  refine lv_aload_n hx hb dL_cell_1 rfl (lv_at hl 0 rfl) ?_
  refine va_slen hx hb hX hbl hbA hS dL_cell_2 ?_
  refine lv_icmp_ge (tgt := 12) hx hb dL_cell_3 (by decide) (fun c_3 => ?_) (fun c_3 => ?_)
  · refine lv_iconst (v := 0) hx hb dL_cell_12 (by decide) ?_
    have hF9 : fL_cell L xs (nI K) = 0 := by unfold fL_cell; rw [if_pos (show nI L ≤ nI K from c_3)]
    exact W.iret (v := (0 : Int32)) hx hb hr (fun t ht hW => ⟨⟨(0 : Int32), (), rfl, by rw [hF9], trivial⟩, hS.F ht⟩) hS.2.2 dL_cell_13
  · have hlt : K < L := Nat.lt_of_not_le (fun z => c_3 (nI_le z (by omega)))
    refine lv_aload_n hx hb dL_cell_6 rfl (lv_at hl 0 rfl) ?_
    refine lv_iload_n hx hb dL_cell_7 rfl (lv_at hl 1 rfl) ?_
    refine va_sld hx hb hX hbl hbA hS (vp_in_nI hlt (by omega)) dL_cell_8 ?_
    refine lv_goto (tgt := 13) hx hb dL_cell_9 (by decide) ?_
    have hF9 : fL_cell L xs (nI K) = xs (nI K).toNatClampNeg := by unfold fL_cell; rw [if_neg (show ¬ nI L ≤ nI K from c_3)]
    exact W.iret (v := xs (nI K).toNatClampNeg) hx hb hr (fun t ht hW => ⟨⟨xs (nI K).toNatClampNeg, (), rfl, by rw [hF9], trivial⟩, hS.F ht⟩) hS.2.2 dL_cell_13
theorem and31 (x : Int32) : ∃ n : Nat, n < 32 ∧ x &&& 31 = nI n := by
  refine ⟨(x.toBitVec &&& 31#32).toNat, ?_, ?_⟩
  · rw [BitVec.toNat_and]
    exact Nat.lt_of_le_of_lt Nat.and_le_right (by decide)
  · refine Int32.toBitVec_inj.mp ?_
    rw [Int32.toBitVec_and]
    show _ = BitVec.ofNat 32 (x.toBitVec &&& 31#32).toNat
    rw [BitVec.ofNat_toNat, BitVec.setWidth_eq]; rfl
theorem head4 {L i : Nat} (hL : L ≤ 2050) (hi : i ≤ L + 4) (h : ¬ Int32.ofNat L - 4 < nI i) : i + 4 ≤ L := by
  have e : Int32.ofNat L = nI L := rfl
  rw [e] at h
  rcases Nat.lt_or_ge L 4 with q | q
  · exfalso
    have h1 : nI L - nI 4 < 0 := pk_sneg (by omega) q
    have h2 : ¬ nI i < 0 := nI_pos (by omega)
    exact h (Int32.lt_of_lt_of_le h1 (Int32.not_lt.mp h2))
  · rw [show (4 : Int32) = nI 4 from rfl, pk_sub q] at h
    have h2 : i ≤ L - 4 := Nat.le_of_not_lt (fun z => h (nI_lt z (by omega)))
    omega
theorem mtr_t : ∀ n, n < 801 → 1 ≤ n → lb 1020 (FP.dmul (FP.i2d (nI n)) 4593671619917905920) ∧ bd 1030 (FP.dmul (FP.i2d (nI n)) 4593671619917905920) := by decide +kernel
theorem mtr_bd (e : Int32) : lb 1020 (mtr e) ∧ bd 1030 (mtr e) := by
  unfold mtr
  by_cases h1 : e < 1
  · rw [if_pos h1]; exact ⟨by decide, by decide⟩
  rw [if_neg h1]
  by_cases h2 : 800 < e
  · rw [if_pos h2]; exact ⟨by decide, by decide⟩
  rw [if_neg h2]
  rcases pk_ix e (n := 801) (by omega) with q | q | ⟨K, hK, rfl⟩
  · exact absurd (Int32.lt_trans q (by decide)) h1
  · exact absurd (Int32.lt_of_lt_of_le (show (800 : Int32) < nI 801 by decide) q) h2
  · exact mtr_t K hK (by
      rcases Nat.eq_zero_or_pos K with z | z
      · subst z; exact absurd (by decide) h1
      · exact z)
theorem fill_at {N : Nat} {f : Nat → UInt64} {v : UInt64} (hN : N ≤ 8192) : ∀ i, i < N → fJ7_fill_7f8df N f v i = v := by
  have K : ∀ (k j : Nat) (g : Nat → UInt64), j + k = N + 1 → j ≤ N → (∀ i, i < j → g i = v) → ∀ i, i < N → fJ7_fill_7f8df_L6 N f v k (nI j) g i = v := by
    intro k; induction k with
    | zero => intro j g a b; omega
    | succ k ih =>
      intro j g a b h i hi
      rw [fJ7_fill_7f8df_L6]
      by_cases c : nI N ≤ nI j
      · rw [if_pos c]
        have := (nI_leI (by omega) (by omega)).mp c
        exact h i (by omega)
      · rw [if_neg c]
        have c2 : j < N := Nat.lt_of_not_le (fun z => c (nI_le z (by omega)))
        rw [nI_clamp (by omega), nI_1]
        exact ih (j + 1) _ (by omega) (by omega) (fun q hq => by
          by_cases e : q = j
          · subst e; exact vf_us
          · rw [vf_un e]; exact h q (by omega)) i hi
  exact K (N + 1) 0 f (by omega) (Nat.zero_le _) (fun i hi => by omega)
