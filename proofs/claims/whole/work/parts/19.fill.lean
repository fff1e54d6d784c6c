abbrev wF (cyD cyI cyJ cyZ : ClassId) (fa : Nat) (fN : Nat) (ff : Nat → UInt64) : va_W := [(fa, .inl (cyD, fN, .inr (.inr (.inr (.inl ff)))))]
theorem kna {cyD cyI cyJ cyZ cy : ClassId} {p : Program} {l : Launch} {e : Env} {R : Room} {s : State} {m : MethodId} {args : Array Value} {below : List Frame} {meth : Method} {c : Code} {H H0 : Heap} {locs : List Loc} {cells slots pc : Nat} {Q : State → Prop} {ls : Array Slot} {rest : List Value} {D : va_G} {ws : va_W} {A : Nat → Prop} {cc : ByteArray} {atype : ArrayType} {ty : FieldType} (t0 : Nat) (ht : (kT cyD cyI cyJ cyZ)[t0]? = some (cy, ty)) (hpr : ∀ (U : State) (c : ClassId), va_RA U c ty ↔ U.vm.findClass ("[" ++ ty.toString) = some c) (hexec : p.tables.exec = Jvm.exec) (hb : c.code = cc) (harr : (Cond.arrayClass (newarray.typeOf atype)).before args s = true) (hty : newarray.typeOf atype = ty) (hK : va_K D vwCl (kT cyD cyI cyJ cyZ) s) (hP : va_P D vwCl ws H) (hD : va_D A ws) (hS : va_S A H0 H locs) (hA : ∀ q, H0.size ≤ q → A q)
    {n : Int32} {N' : Nat} {a0 : vp_A} (ha : ∀ cA : ClassId, vp_cell cA a0 = arrV cA N' (fun _ => defaultValue ty)) (hn : ¬ n < 0) (hN : n.toNatClampNeg = N') (hbytes : N' * componentBytes ty ≤ 536870912) (hcells : cells + 1 ≤ R.cells) (hslots : slots + N' ≤ R.slots) (hdg : decode cc pc = .ok (.newarray atype, 2))
    (kk : ∀ (q : Nat) (H1 : Heap), va_P D vwCl (ws ++ [(q, .inl (cy, a0))]) H1 → va_D A (ws ++ [(q, .inl (cy, a0))]) → va_S A H0 H1 locs → W p l e R s m args below meth c H1 locs (cells + 1) (slots + N') Q (F0 m (pc + 2) ls (.ref q :: rest))) : W p l e R s m args below meth c H locs cells slots Q (F0 m pc ls (.int n :: rest)) := by
  refine va_newa hexec hb harr hty hK hP hD hS hA ha hn hN hbytes hcells hslots hdg (fun q cA H1 hK2 hP2 hD2 hS2 => ?_)
  have h1 := (hK2.2 4 (cA, ty) rfl).2
  have h2 := (hK.2 t0 (cy, ty) ht).2
  have h1 := (hpr _ _).mp h1
  have h2 := (hpr _ _).mp h2
  have e : cA = cy := by
    have := h1.symm.trans h2
    exact Option.some.inj this
  subst e
  exact kk q H1 hP2 hD2 hS2
def smp (p : Int32) : Nat := if p < 1 then 1 else if 64 < p then 64 else p.toNatClampNeg
def mtr (e : Int32) : UInt64 := if e < 1 then FP.dconst1 else if 800 < e then FP.dconst1 else FP.dmul (FP.i2d e) 4593671619917905920
theorem smp_rng (p : Int32) : 1 ≤ smp p ∧ smp p ≤ 64 := by
  unfold smp
  by_cases h1 : p < 1
  · rw [if_pos h1]; decide
  · by_cases h2 : 64 < p
    · rw [if_neg h1, if_pos h2]; decide
    · rw [if_neg h1, if_neg h2]
      obtain ⟨q, e, hq⟩ := rng (n := 64) (by decide) (fun z => h1 (Int32.lt_trans z (by decide))) h2
      rw [e] at h1 ⊢
      rw [nI_clamp (by omega)]
      refine ⟨?_, hq⟩
      rcases Nat.eq_zero_or_pos q with z | z
      · exact absurd (by rw [z]; decide) h1
      · exact z
theorem smp_mid {p : Int32} (h1 : ¬ p < 1) (h2 : ¬ 64 < p) : nI (smp p) = p := by
  unfold smp
  rw [if_neg h1, if_neg h2]
  obtain ⟨q, e, hq⟩ := rng (n := 64) (by decide) (fun z => h1 (Int32.lt_trans z (by decide))) h2
  rw [e, nI_clamp (by omega)]
theorem smp_lo {p : Int32} (h1 : p < 1) : nI (smp p) = 1 := by unfold smp; rw [if_pos h1]; rfl
theorem smp_hi {p : Int32} (h1 : ¬ p < 1) (h2 : 64 < p) : nI (smp p) = 64 := by unfold smp; rw [if_neg h1, if_pos h2]; rfl
theorem smp_eq (p : Int32) : (if (1 : Int32) < (if p < (64 : Int32) then p else (64 : Int32)) then (if p < (64 : Int32) then p else (64 : Int32)) else (1 : Int32)) = nI (smp p) := by
  by_cases h1 : p < 1
  · rw [smp_lo h1, if_pos (Int32.lt_trans h1 (by decide))]
    rw [if_neg (fun z => Int32.lt_irrefl (Int32.lt_trans z h1))]
  · by_cases h2 : 64 < p
    · rw [smp_hi h1 h2, if_neg (fun z => Int32.lt_irrefl (Int32.lt_trans z h2))]; rfl
    · have e := smp_mid h1 h2
      rw [e]
      obtain ⟨q, e2, hq⟩ := rng (n := 64) (by decide) (fun z => h1 (Int32.lt_trans z (by decide))) h2
      have e3 : (if p < (64 : Int32) then p else (64 : Int32)) = p := by
        split
        · rfl
        · rename_i g
          rw [e2] at g ⊢
          have : ¬ q < 64 := fun z => g (nI_lt (b := 64) z (by decide))
          rw [show q = 64 by omega]; rfl
      rw [e3]
      split
      · rfl
      · rename_i g
        rw [e2] at g h1 ⊢
        have a1 : ¬ 1 < q := fun z => g (nI_lt z (by omega))
        have a2 : ¬ q < 1 := fun z => h1 (nI_lt (b := 1) z (by decide))
        rw [show q = 1 by omega]; rfl
theorem mtr_1 {e : Int32} (h : e < 1) : mtr e = FP.dconst1 := by unfold mtr; rw [if_pos h]
theorem mtr_2 {e : Int32} (h1 : ¬ e < 1) (h : 800 < e) : mtr e = FP.dconst1 := by unfold mtr; rw [if_neg h1, if_pos h]
theorem mtr_3 {e : Int32} (h1 : ¬ e < 1) (h : ¬ 800 < e) : mtr e = FP.dmul (FP.i2d e) 4593671619917905920 := by unfold mtr; rw [if_neg h1, if_neg h]
theorem eighth_bd (e : Int32) : bd 1055 (FP.dmul (FP.i2d e) 4593671619917905920) := bd_mul (Ka := 1056) (Kb := 1021) (bd_i2d e) (by decide) (by decide) (by decide) (by decide)
section KX
variable {p : Program} {l : Launch} {e : Env} {R : Room} {s : State} {m : MethodId} {args a : Array Value} {below : List Frame} {meth : Method} {c : Code} {H H0 : Heap} {locs : List Loc} {cells slots mc ms pc : Nat} {Q : State → Prop} {ls : Array Slot} {st0 rest : List Value} {D : va_G} {tys : List (ClassId × FieldType)} {ws wc wr : va_W} {A0 : Nat → Prop}
theorem kvx {S : Type} {w1 ws' : S → va_W} (hr : va_Run p l e R s m args below meth c H locs cells slots mc ms (F0 m pc ls st0) rest (va_Qv (fun (_ : S) => True) (fun u t => kE D tys (w1 u) (va_A wc H.size) () t) (va_A wc H.size) a) (va_A wc H.size)) (hP : va_P D vwCl ws H) (hD : va_D A0 ws) (hS : va_S A0 H0 H locs) (hA : ∀ q, H0.size ≤ q → A0 q) (isC isR pm : List Nat) (hC : isC.map (fun i => ws[i]?) = wc.map some) (hR : isR.map (fun i => ws[i]?) = wr.map some) (hn : va_nd isR = true) (hdis : ∀ i ∈ isR, i ∉ isC) (hp : ∀ u, pm.map (fun i => (wr ++ w1 u)[i]?) = (ws' u).map some) (hpn : va_nd pm = true)
    (kk : ∀ (u : S) (H1 : Heap) (locs1 : List Loc), va_P D vwCl (ws' u) H1 → va_D A0 (ws' u) → va_S A0 H0 H1 locs1 → W p l e R s m args below meth c H1 locs1 (cells + mc) (slots + ms) Q (F0 m (pc + 3) ls rest)) : W p l e R s m args below meth c H locs cells slots Q (F0 m pc ls st0) := by
  have hF := va_free (wc := wc) hD hS hA isC hC
  refine va_callv hr hS (fun q _ h => hF q h) hF (fun u t H1 locs1 ht hvm hw hB hz1 hk1 hS1 => ?_)
  obtain ⟨hP1, hK1, hD1⟩ := hB
  rw [ht] at hP1
  obtain ⟨hP2, hD2⟩ := va_join hP hD isC isR hC hR hn hdis hk1 hF hP1 hD1
  obtain ⟨hP3, hD3⟩ := kperm hP2 hD2 pm (hp u) hpn
  exact kk u H1 locs1 hP3 hD3 hS1
end KX
def fJ7_fill_7f8df_L6 (fN : Nat) (ff : Nat → UInt64)  (p2 : UInt64) : Nat → (Int32) → (Nat → UInt64) → (Nat → UInt64)
  | 0, v_j, v_gg => v_gg
  | k + 1, v_j, v_gg => if (nI fN) ≤ v_j then v_gg else ((fJ7_fill_7f8df_L6 fN ff p2 k ((v_j) + 1) (vf_upd (v_gg) (v_j).toNatClampNeg p2)))
def fJ7_fill_7f8df (fN : Nat) (ff : Nat → UInt64) (p2 : UInt64) : (Nat → UInt64) := (fJ7_fill_7f8df_L6 fN ff p2 (fN + 1) (0 : Int32) ff)
set_option maxHeartbeats 4000000 in
set_option maxRecDepth 100000 in
theorem c_J7_fill_7f8df {l : Launch} {D : va_G} {cyD cyI cyJ cyZ : ClassId} (fa : Nat) (fN : Nat) (ff : Nat → UInt64) (sz : Nat) (p2 : UInt64) (hfN : fN < 2 ^ 31) : mV l yJ7_fill_7f8df wsJ7_fill_7f8df ({ frames := 0, cells := 0, slots := 0, locals := 0 } : Room) D (kT cyD cyI cyJ cyZ) [.ref fa, .double p2] (wF cyD cyI cyJ cyZ fa fN ff) (wF cyD cyI cyJ cyZ fa fN (fJ7_fill_7f8df fN ff p2)) sz 0 0 := by
  refine Met.ofW (cc := cJ7_fill_7f8df) (maxL := 5) (ret := none) (by decide) rfl ?_
  intro p e s m args below meth c s₁ B hml hv
  obtain ⟨rfl, hN, hsz, hP, hK, hD0⟩ := hv
  have hx := B.exec
  have hb := B.bytes
  have hr := B.returns
  have hts := atoms_spec (ws := wsJ7_fill_7f8df) B.pre
  have hown : s.vm.findClass RJ7 = some m.cls := findClass_of_methodNamed B.named
  have hlocks := B.notSynchronized
  subst hsz
  have hD := hD0.self (sz := s.heap.size)
  generalize hAe : va_A (wF cyD cyI cyJ cyZ fa fN ff) s.heap.size = A at hD ⊢
  have hA : ∀ q : Nat, s.heap.size ≤ q → A q := fun q h => by rw [← hAe]; exact Or.inr h
  have hS : va_S A s.heap s.heap [] := va_S.rf
  have hP : va_P D vwCl (wF cyD cyI cyJ cyZ fa fN ff) s.heap := hP
  have hl := lv_entry [.ref fa, .double p2] (n := 5) (Nat.le_of_ble_eq_true rfl)
  rw [lg_entry_eq]
  generalize (lg_sl [.ref fa, .double p2] ++ List.replicate (5 - (lg_sl [.ref fa, .double p2]).length) Slot.unset).toArray = ls at hl ⊢
  have hl : lv_has ls 5 [(0, .ref fa), (1, .double p2)] := hl
  obtain ⟨H, hHe⟩ : ∃ H : Heap, H = s.heap := ⟨_, rfl⟩
  have hP : va_P D vwCl (wF cyD cyI cyJ cyZ fa fN ff) H := by rw [hHe]; exact hP
  have hS : va_S A s.heap H [] := by rw [hHe]; exact hS
  rw [← hHe]
  refine lv_iconst (v := 0) hx hb dJ7_fill_7f8df_0 (by decide) ?_
  refine lv_istore_n (lv' := [(3, .int (0 : Int32)), (0, .ref fa), (1, .double p2)]) hx hb dJ7_fill_7f8df_1 rfl hl (by decide) rfl (fun ls hl => ?_)
  refine lv_aload_n hx hb dJ7_fill_7f8df_2 rfl (lv_at hl 1 rfl) ?_
  refine va_alen hx hb hK hP 0 0 rfl rfl (v := (nI fN)) rfl dJ7_fill_7f8df_3 ?_
  refine lv_istore (lv' := [(4, .int (nI fN)), (3, .int (0 : Int32)), (0, .ref fa), (1, .double p2)]) hx hb dJ7_fill_7f8df_4 hl (by decide) rfl (fun ls hl => ?_)
  have loop_6 : ∀ (k : Nat) (j : Nat) (gg : Nat → UInt64) (H : Heap) (locs : List Loc), (j + k = fN + 1) → (j ≤ fN) → (fJ7_fill_7f8df fN ff p2) = fJ7_fill_7f8df_L6 fN ff p2 k ((nI j)) (gg) → va_P D vwCl (wF cyD cyI cyJ cyZ fa fN (gg)) H → va_D A (wF cyD cyI cyJ cyZ fa fN (gg)) → va_S A s.heap H locs → ∀ ls, lv_has ls 5 [(4, .int (nI fN)), (3, .int ((nI j))), (0, .ref fa), (1, .double p2)] → W p l e (headSpec wsJ7_fill_7f8df ({ frames := 0, cells := 0, slots := 0, locals := 0 } : Room)).room s m ([.ref fa, .double p2] : List Value).toArray below meth c H locs 0 0 (MQ below (va_Qv (fun (_ : Unit) => True) (kE D (kT cyD cyI cyJ cyZ) (wF cyD cyI cyJ cyZ fa fN (fJ7_fill_7f8df fN ff p2)) A) A) ([.ref fa, .double p2] : List Value).toArray s 0 0 A) (F0 m 6 ls []) := by
    intro k_6
    induction k_6 with
    | zero => intro j gg H locs hj hj2 hF hP hD hS ls hl; exact absurd hj2 (by omega)
    | succ k_6 ih_6 =>
      intro j gg H locs hj hj2 hF hP hD hS ls hl
      refine lv_iload_n hx hb dJ7_fill_7f8df_6 rfl (lv_at hl 1 rfl) ?_
      refine lv_iload hx hb dJ7_fill_7f8df_7 (lv_at hl 0 rfl) ?_
      refine lv_icmp_ge (tgt := 22) hx hb dJ7_fill_7f8df_9 (by decide) (fun c_9 => ?_) (fun c_9 => ?_)
      · have hF9 : (fJ7_fill_7f8df fN ff p2) = gg := by rw [hF, fJ7_fill_7f8df_L6, if_pos c_9]
        have hP9 : va_P D vwCl (wF cyD cyI cyJ cyZ fa fN (fJ7_fill_7f8df fN ff p2)) H := by rw [hF9]; exact hP
        have hD9 : va_D A (wF cyD cyI cyJ cyZ fa fN (fJ7_fill_7f8df fN ff p2)) := by rw [hF9]; exact hD
        exact W.vret hx hb hr (fun t ht hW => ⟨⟨(), rfl, trivial, by rw [ht]; exact hP9, va_K.moved hW.alike hK, hD9⟩, hS.F ht⟩) hS.2.2 dJ7_fill_7f8df_22
      refine lv_aload_n hx hb dJ7_fill_7f8df_12 rfl (lv_at hl 2 rfl) ?_
      refine lv_iload_n hx hb dJ7_fill_7f8df_13 rfl (lv_at hl 1 rfl) ?_
      refine lv_dload_n hx hb dJ7_fill_7f8df_14 rfl (lv_at hl 3 rfl) ?_
      refine va_dast hx hb hK hP hD hS 0 0 rfl rfl (vp_in_nI (by have := Nat.lt_of_not_le (fun z => c_9 (nI_le (a := fN) z (by omega))); omega) (by omega)) dJ7_fill_7f8df_15 (fun H locs hP hD hS => ?_)
      have hP : va_P D vwCl (wF cyD cyI cyJ cyZ fa fN (vf_upd (gg) ((nI j)).toNatClampNeg p2)) H := hP
      have hD : va_D A (wF cyD cyI cyJ cyZ fa fN (vf_upd (gg) ((nI j)).toNatClampNeg p2)) := hD
      refine lv_iinc (v := (((nI j)) + 1)) (lv' := [(3, .int (((nI j)) + 1)), (4, .int (nI fN)), (0, .ref fa), (1, .double p2)]) hx hb dJ7_fill_7f8df_16 hl (k := 1) rfl rfl (by decide) rfl (fun ls hl => ?_)
      refine lv_goto (tgt := 6) hx hb dJ7_fill_7f8df_19 (by decide) ?_
      exact ih_6 (j + 1) (vf_upd (gg) ((nI j)).toNatClampNeg p2) _ _ (by omega) (by have := Nat.lt_of_not_le (fun z => c_9 (nI_le (a := fN) z (by omega))); omega) (by rw [← nI_1 j]; rw [hF, fJ7_fill_7f8df_L6, if_neg c_9]) hP hD hS _ (by rw [← nI_1 j]; exact lv_sub hl [1, 0, 2, 3] rfl)
  exact loop_6 (fN + 1) 0 ff _ _ (by omega) (Nat.zero_le _) (by rw [nI_0]; rw [fJ7_fill_7f8df]) hP hD hS _ (by exact lv_sub hl [0, 1, 2, 3] rfl)
