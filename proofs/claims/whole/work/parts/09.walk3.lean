theorem samp_lt {sn j : Nat} (hs : sn ≤ 64) (hj : j ≤ 64) (h : ¬ fX0_isSample sn (nI j) = 0) : j < sn := by
  obtain ⟨K, hK, e⟩ := sample_nI hs h
  have := (nI_eq (by omega) (by omega)).mp e
  omega
theorem sumUp_in {sn : Nat} (hs : sn ≤ 64) {P j : Nat} {p : Int32} (hp : p = nI P) (hP : P < 32) (hj : j ≤ 64) (h3 : ¬ fX0_isSample sn (nI j) = 0) : vp_in (p * nI sn + nI j) (32 * sn) := by
  have hK := samp_lt hs hj h3
  rw [hp, pk_mul, nI_add]
  exact vp_in_nI (cell_lt hP hK) (by omega)
theorem bb_L {df : Nat → UInt64} {uf : Nat → Int64} {st : Int32} {sn : Nat} {me : UInt64} {tt p1 p2 p3 : Int32} (htt : ¬ nI 63 < tt) : ∀ (k j : Nat) (bb : Int32) (gs : Int64), 66 ≤ j + k → j ≤ 64 → (∃ b : Nat, b < 64 ∧ bb = nI b) → ∃ b : Nat, b < 64 ∧ fX2_bestBefore_L80 df uf st sn me tt p1 p2 p3 k (nI j) bb gs = nI b := by
  intro k; induction k with
  | zero => intro j bb gs a b; omega
  | succ k ih =>
    intro j bb gs a b hb
    rw [fX2_bestBefore_L80]
    by_cases c : tt < nI j
    · rw [if_pos c]; exact hb
    · rw [if_neg c]
      have h9 : nI j ≤ nI 63 := i_le_of htt c
      have := (nI_leI (by omega) (by decide)).mp h9
      split
      · rw [nI_1]; exact ih (j + 1) _ _ (by omega) (by omega) hb
      · rw [nI_1]; exact ih (j + 1) _ _ (by omega) (by omega) ⟨j, by omega, rfl⟩
theorem bb_L61 {df : Nat → UInt64} {uf : Nat → Int64} {st : Int32} {sn : Nat} {me : UInt64} {tf tt p1 p2 p3 : Int32} (htt : ¬ nI 63 < tt) (ha : ∃ a : Nat, a < 64 ∧ tf = nI a) : ∃ b : Nat, b < 64 ∧ fX2_bestBefore_L61 df uf st sn me p1 p2 p3 1 tf tt = nI b := by
  obtain ⟨a, h1, rfl⟩ := ha
  rw [fX2_bestBefore_L61, show nI a + 1 = nI (a + 1) from nI_1 a]
  exact bb_L htt 66 (a + 1) _ _ (by omega) (by omega) ⟨a, h1, rfl⟩
theorem bb_nI (df : Nat → UInt64) (uf : Nat → Int64) {st : Int32} {sn : Nat} (me : UInt64) (p1 p2 p3 : Int32) (h1 : 1 ≤ sn) (h2 : sn ≤ 64) {K S : Nat} (hk : p3 = nI K) (hK : K < 64) (hS : st = nI S) (hS64 : S ≤ 64) : ∃ b : Nat, b < 64 ∧ fX2_bestBefore df uf st sn me p1 p2 p3 = nI b := by
  unfold fX2_bestBefore
  split
  · exact bb_L61 (to_ok me df p1 h1 h2) (from_ok me df p1 h1 h2)
  · split
    · split
      · exact bb_L61 (toW_ok me df p1 h1 h2 _) (fromW_ok me df p1 h1 h2 hk hK hS hS64)
      · exact bb_L61 (to_ok me df p1 h1 h2) (from_ok me df p1 h1 h2)
    · exact bb_L61 (to_ok me df p1 h1 h2) (from_ok me df p1 h1 h2)
def okR (rf : Nat → Int32) : Prop := ∀ i, i < 32 → ∃ K : Nat, K < 64 ∧ rf i = nI K
theorem sor_nI {rf : Nat → Int32} (h : okR rf) (p : Int32) : ∃ K : Nat, K < 64 ∧ fX2_sampleOfRow rf p = nI K := by
  unfold fX2_sampleOfRow
  by_cases c : fX3_isPing p = 0
  · rw [if_pos c]; exact ⟨0, by decide, rfl⟩
  · rw [if_neg c]
    obtain ⟨j, hj, rfl⟩ := vp_in_of (ping_in c) (by decide)
    rw [nI_clamp (by omega)]; exact h j hj
theorem okR_upd {rf : Nat → Int32} (h : okR rf) (i : Nat) {v : Int32} (hv : ∃ K : Nat, K < 64 ∧ v = nI K) : okR (upd rf i v) := by
  intro j hj
  by_cases c : j = i
  · subst c; rw [pk_us]; exact hv
  · rw [pk_un c]; exact h j hj
theorem trace_i {j : Nat} (h2 : j ≤ 32) (h : ¬ nI j + (-1) < 0) : ∃ i : Nat, j = i + 1 ∧ i < 32 ∧ nI j + (-1) = nI i := by
  rcases j with _ | i
  · exact absurd (by decide) h
  · exact ⟨i, rfl, by omega, pk_m1 i⟩
theorem trace_in {j : Nat} (h2 : j ≤ 32) (h : ¬ nI j + (-1) < 0) : vp_in (nI j + (-1)) 32 := by
  obtain ⟨i, _, h3, e⟩ := trace_i h2 h
  rw [e]; exact vp_in_nI h3 (by decide)
theorem nI_31 : nI 32 + (-1) = 31 := by decide
def fX2_sumUp_L13 (df : Nat → UInt64) (uf : Nat → Int64) (st : Int32) (fw : Int32) (sn : Nat) (me : UInt64) (vf : Nat → UInt64) (lf : Nat → Int32) (sp : UInt64) (sb : UInt64) (no : UInt64)  (p1 : Int32) (p2 : Int32) : Nat → (Int32) → (Nat → Int64) → (Nat → Int64)
  | 0, v_j, v_uu => v_uu
  | k + 1, v_j, v_uu => if (fX2_highest df sn me p1) < v_j then v_uu else (if (fX0_isSample sn (v_j)) = 0 then v_uu else (if p2 = (-1 : Int32) then (fX2_sumUp_L13 df uf st fw sn me vf lf sp sb no p1 p2 k ((v_j) + 1) (vp_updL (v_uu) ((p1 * (nI sn)) + v_j).toNatClampNeg (fX0_strength sn me vf lf sp sb no fw p1 (v_j)))) else ((fX2_sumUp_L13 df uf st fw sn me vf lf sp sb no p1 p2 k ((v_j) + 1) (vp_updL (v_uu) ((p1 * (nI sn)) + v_j).toNatClampNeg ((fX0_strength sn me vf lf sp sb no fw p1 (v_j)) + (fX2_sumAt (v_uu) sn p2 (fX2_bestBefore df (v_uu) st sn me p2 p1 (v_j)))))))))
def fX2_sumUp (df : Nat → UInt64) (uf : Nat → Int64) (st : Int32) (fw : Int32) (sn : Nat) (me : UInt64) (vf : Nat → UInt64) (lf : Nat → Int32) (sp : UInt64) (sb : UInt64) (no : UInt64) (p1 : Int32) (p2 : Int32) : (Nat → Int64) := (fX2_sumUp_L13 df uf st fw sn me vf lf sp sb no p1 p2 65 (fX2_lowest df sn me p1) uf)
set_option maxHeartbeats 4000000 in
set_option maxRecDepth 100000 in
theorem c_X2_sumUp {l : Launch} {D : va_G} {cyD cyI cyJ cyZ : ClassId} (aw ad ak ar au ae av ab : Nat) (df : Nat → UInt64) (kf : Nat → Int32) (rf : Nat → Int32) (uf : Nat → Int64) (st : Int32) (fw : Int32) (fo : Int32) (sn : Nat) (me : UInt64) (vf : Nat → UInt64) (lf : Nat → Int32) (sp : UInt64) (sb : UInt64) (no : UInt64) (sz : Nat) (p1 : Int32) (p2 : Int32) (hE : okE sn me vf sp sb no) (S : Nat) (hS2 : st = nI S) (hS64 : S ≤ 64) (P : Nat) (hp1 : p1 = nI P) (hPP : P < 32) : mV l yX2_sumUp wsX2_sumUp ({ frames := 4, cells := 0, slots := 0, locals := 96 } : Room) D (kT cyD cyI cyJ cyZ) [.ref aw, .int p1, .int p2] (wW cyD cyI cyJ cyZ aw ad ak ar au ae av ab df kf rf uf st fw fo sn me vf lf sp sb no) (wW cyD cyI cyJ cyZ aw ad ak ar au ae av ab df kf rf (fX2_sumUp df uf st fw sn me vf lf sp sb no p1 p2) st fw fo sn me vf lf sp sb no) sz 0 0 := by
  refine Met.ofW (cc := cX2_sumUp) (maxL := 7) (ret := none) (by decide) rfl ?_
  intro p e s m args below meth c s₁ B hml hv
  obtain ⟨rfl, hN, hsz, hP, hK, hD0⟩ := hv
  have hx := B.exec
  have hb := B.bytes
  have hr := B.returns
  have hts := atoms_spec (ws := wsX2_sumUp) B.pre
  have hown : s.vm.findClass RX2 = some m.cls := findClass_of_methodNamed B.named
  have hlocks := B.notSynchronized
  subst hsz
  have hD := hD0.self (sz := s.heap.size)
  generalize hAe : va_A (wW cyD cyI cyJ cyZ aw ad ak ar au ae av ab df kf rf uf st fw fo sn me vf lf sp sb no) s.heap.size = A at hD ⊢
  have hA : ∀ q : Nat, s.heap.size ≤ q → A q := fun q h => by rw [← hAe]; exact Or.inr h
  have hS : va_S A s.heap s.heap [] := va_S.rf
  have hP : va_P D vwCl (wW cyD cyI cyJ cyZ aw ad ak ar au ae av ab df kf rf uf st fw fo sn me vf lf sp sb no) s.heap := hP
  have hl := lv_entry [.ref aw, .int p1, .int p2] (n := 7) (Nat.le_of_ble_eq_true rfl)
  rw [lg_entry_eq]
  generalize (lg_sl [.ref aw, .int p1, .int p2] ++ List.replicate (7 - (lg_sl [.ref aw, .int p1, .int p2]).length) Slot.unset).toArray = ls at hl ⊢
  have hl : lv_has ls 7 [(0, .ref aw), (1, .int p1), (2, .int p2)] := hl
  obtain ⟨H, hHe⟩ : ∃ H : Heap, H = s.heap := ⟨_, rfl⟩
  have hP : va_P D vwCl (wW cyD cyI cyJ cyZ aw ad ak ar au ae av ab df kf rf uf st fw fo sn me vf lf sp sb no) H := by rw [hHe]; exact hP
  have hS : va_S A s.heap H [] := by rw [hHe]; exact hS
  rw [← hHe]
  obtain ⟨q0, hq0, eq0⟩ := lowest_nI me df p1 hE.1 hE.2.1
  have h64 := hE.2.1
  refine lv_aload_n hx hb dX2_sumUp_0 rfl (lv_at hl 0 rfl) ?_
  refine lv_iload_n hx hb dX2_sumUp_1 rfl (lv_at hl 1 rfl) ?_
  have hPc : va_P D vwCl (wW cyD cyI cyJ cyZ aw ad ak ar au ae av ab df kf rf uf st fw fo sn me vf lf sp sb no) H := hP.sub [0, 1, 2, 3, 4, 5, 6, 7] rfl
  have hDc : va_D A (wW cyD cyI cyJ cyZ aw ad ak ar au ae av ab df kf rf uf st fw fo sn me vf lf sp sb no) := hD.sub [0, 1, 2, 3, 4, 5, 6, 7] (by decide) rfl
  refine kiE (ws' := (wW cyD cyI cyJ cyZ aw ad ak ar au ae av ab df kf rf uf st fw fo sn me vf lf sp sb no)) (wc := (wW cyD cyI cyJ cyZ aw ad ak ar au ae av ab df kf rf uf st fw fo sn me vf lf sp sb no)) (wr := []) (w1 := (wW cyD cyI cyJ cyZ aw ad ak ar au ae av ab df kf rf uf st fw fo sn me vf lf sp sb no)) (va_runV (As := [.int p1]) (rest := []) ⟨hx, hb, hml, hown, hts⟩ (c_X2_highest (l := l) (D := D) (cyD := cyD) (cyI := cyI) (cyJ := cyJ) (cyZ := cyZ) aw ad ak ar au ae av ab df kf rf uf st fw fo sn me vf lf sp sb no H.size p1 hE) (cwV 1 hts gX2_sumUp_X2_highest rfl rfl rfl (by decide +kernel) ⟨Nat.le_of_ble_eq_true rfl, Nat.le_of_ble_eq_true rfl⟩) (kV (ci := 2) (q0 := 0) (q := (RX2, TX2, 8)) hN hK hPc hDc rfl rfl rfl) rfl rfl hl.1 rfl (lv_room (Nat.le_of_ble_eq_true rfl)) dX2_sumUp_2 ⟨Nat.le_of_ble_eq_true rfl, Nat.le_of_ble_eq_true rfl⟩) hP hD hS hA [0, 1, 2, 3, 4, 5, 6, 7] [] [0, 1, 2, 3, 4, 5, 6, 7] rfl rfl (by decide) (by decide) rfl (by decide) (fun H locs hP hD hS => ?_)
  refine lv_istore_n (lv' := [(3, .int (fX2_highest df sn me p1)), (0, .ref aw), (1, .int p1), (2, .int p2)]) hx hb dX2_sumUp_5 rfl hl (by decide) rfl (fun ls hl => ?_)
  refine lv_aload_n hx hb dX2_sumUp_6 rfl (lv_at hl 1 rfl) ?_
  refine lv_iload_n hx hb dX2_sumUp_7 rfl (lv_at hl 2 rfl) ?_
  have hPc : va_P D vwCl (wW cyD cyI cyJ cyZ aw ad ak ar au ae av ab df kf rf uf st fw fo sn me vf lf sp sb no) H := hP.sub [0, 1, 2, 3, 4, 5, 6, 7] rfl
  have hDc : va_D A (wW cyD cyI cyJ cyZ aw ad ak ar au ae av ab df kf rf uf st fw fo sn me vf lf sp sb no) := hD.sub [0, 1, 2, 3, 4, 5, 6, 7] (by decide) rfl
  refine kiE (ws' := (wW cyD cyI cyJ cyZ aw ad ak ar au ae av ab df kf rf uf st fw fo sn me vf lf sp sb no)) (wc := (wW cyD cyI cyJ cyZ aw ad ak ar au ae av ab df kf rf uf st fw fo sn me vf lf sp sb no)) (wr := []) (w1 := (wW cyD cyI cyJ cyZ aw ad ak ar au ae av ab df kf rf uf st fw fo sn me vf lf sp sb no)) (va_runV (As := [.int p1]) (rest := []) ⟨hx, hb, hml, hown, hts⟩ (c_X2_lowest (l := l) (D := D) (cyD := cyD) (cyI := cyI) (cyJ := cyJ) (cyZ := cyZ) aw ad ak ar au ae av ab df kf rf uf st fw fo sn me vf lf sp sb no H.size p1 hE) (cwV 1 hts gX2_sumUp_X2_lowest rfl rfl rfl (by decide +kernel) ⟨Nat.le_of_ble_eq_true rfl, Nat.le_of_ble_eq_true rfl⟩) (kV (ci := 2) (q0 := 0) (q := (RX2, TX2, 8)) hN hK hPc hDc rfl rfl rfl) rfl rfl hl.1 rfl (lv_room (Nat.le_of_ble_eq_true rfl)) dX2_sumUp_8 ⟨Nat.le_of_ble_eq_true rfl, Nat.le_of_ble_eq_true rfl⟩) hP hD hS hA [0, 1, 2, 3, 4, 5, 6, 7] [] [0, 1, 2, 3, 4, 5, 6, 7] rfl rfl (by decide) (by decide) rfl (by decide) (fun H locs hP hD hS => ?_)
  refine lv_istore (lv' := [(4, .int (fX2_lowest df sn me p1)), (3, .int (fX2_highest df sn me p1)), (0, .ref aw), (1, .int p1), (2, .int p2)]) hx hb dX2_sumUp_11 hl (by decide) rfl (fun ls hl => ?_)
  have loop_13 : ∀ (k : Nat) (j : Nat) (uu : Nat → Int64) (H : Heap) (locs : List Loc), (65 ≤ j + k) → (j ≤ 64) → (fX2_sumUp df uf st fw sn me vf lf sp sb no p1 p2) = fX2_sumUp_L13 df uf st fw sn me vf lf sp sb no p1 p2 k ((nI j)) (uu) → va_P D vwCl (wW cyD cyI cyJ cyZ aw ad ak ar au ae av ab df kf rf (uu) st fw fo sn me vf lf sp sb no) H → va_D A (wW cyD cyI cyJ cyZ aw ad ak ar au ae av ab df kf rf (uu) st fw fo sn me vf lf sp sb no) → va_S A s.heap H locs → ∀ ls, lv_has ls 7 [(4, .int ((nI j))), (3, .int (fX2_highest df sn me p1)), (0, .ref aw), (1, .int p1), (2, .int p2)] → W p l e (headSpec wsX2_sumUp ({ frames := 4, cells := 0, slots := 0, locals := 96 } : Room)).room s m ([.ref aw, .int p1, .int p2] : List Value).toArray below meth c H locs 0 0 (MQ below (va_Qv (fun (_ : Unit) => True) (kE D (kT cyD cyI cyJ cyZ) (wW cyD cyI cyJ cyZ aw ad ak ar au ae av ab df kf rf (fX2_sumUp df uf st fw sn me vf lf sp sb no p1 p2) st fw fo sn me vf lf sp sb no) A) A) ([.ref aw, .int p1, .int p2] : List Value).toArray s 0 0 A) (F0 m 13 ls []) := by
    intro k
    induction k with
    | zero => intro j uu H locs hj hj3 hF hP hD hS ls hl; exact absurd hj3 (by omega)
    | succ k ih =>
      intro j uu H locs hj hj3 hF hP hD hS ls hl
      refine lv_iload hx hb dX2_sumUp_13 (lv_at hl 0 rfl) ?_
      refine lv_iload_n hx hb dX2_sumUp_15 rfl (lv_at hl 1 rfl) ?_
      refine lv_icmp_gt (tgt := 95) hx hb dX2_sumUp_16 (by decide) (fun c_16 => ?_) (fun c_16 => ?_)
      · have hF9 : (fX2_sumUp df uf st fw sn me vf lf sp sb no p1 p2) = uu := by rw [hF, fX2_sumUp_L13, if_pos c_16]
        have hP9 : va_P D vwCl (wW cyD cyI cyJ cyZ aw ad ak ar au ae av ab df kf rf (fX2_sumUp df uf st fw sn me vf lf sp sb no p1 p2) st fw fo sn me vf lf sp sb no) H := by rw [hF9]; exact hP
        have hD9 : va_D A (wW cyD cyI cyJ cyZ aw ad ak ar au ae av ab df kf rf (fX2_sumUp df uf st fw sn me vf lf sp sb no p1 p2) st fw fo sn me vf lf sp sb no) := by rw [hF9]; exact hD
        exact W.vret hx hb hr (fun t ht hW => ⟨⟨(), rfl, trivial, by rw [ht]; exact hP9, va_K.moved hW.alike hK, hD9⟩, hS.F ht⟩) hS.2.2 dX2_sumUp_95
      refine lv_aload_n hx hb dX2_sumUp_19 rfl (lv_at hl 2 rfl) ?_
      refine va_get (D := D) (ci := 2) (v := .ref ae) (C := RX2) (T := TX2) (N := 8) hx hb hts (fun _ h => (List.mem_cons_of_mem _ (List.mem_append_left _ (List.mem_append_right _ h)))) hown hK hP 0 rfl rfl 0 (by decide) (hts (.fieldLink RX2 34 "BottomWalks$Walk" "echoes" "LBottomWalks$Echoes;") (List.mem_of_getElem? (i := 1) rfl)) (fun _ h9 => h9) rfl dX2_sumUp_20 ?_
      refine lv_iload hx hb dX2_sumUp_23 (lv_at hl 0 rfl) ?_
      have hPc : va_P D vwCl (wE cyD cyI cyJ cyZ ae av ab sn me vf lf sp sb no) H := hP.sub [5, 6, 7] rfl
      have hDc : va_D A (wE cyD cyI cyJ cyZ ae av ab sn me vf lf sp sb no) := hD.sub [5, 6, 7] (by decide) rfl
      refine kzE (ws' := (wW cyD cyI cyJ cyZ aw ad ak ar au ae av ab df kf rf (uu) st fw fo sn me vf lf sp sb no)) (wc := (wE cyD cyI cyJ cyZ ae av ab sn me vf lf sp sb no)) (wr := [(aw, .inr (2, [.ref ae, .ref ad, .ref ak, .ref ar, .ref au, .int st, .int fw, .int fo])), (ad, .inl (cyD, 32, .inr (.inr (.inr (.inl df))))), (ak, .inl (cyZ, 32, .inl kf)), (ar, .inl (cyI, 32, .inl rf)), (au, .inl (cyJ, 32 * sn, .inr (.inl (uu))))]) (w1 := (wE cyD cyI cyJ cyZ ae av ab sn me vf lf sp sb no)) (va_runV (As := [.int ((nI j))]) (rest := []) ⟨hx, hb, hml, hown, hts⟩ (c_X0_isSample (l := l) (D := D) (cyD := cyD) (cyI := cyI) (cyJ := cyJ) (cyZ := cyZ) ae av ab sn me vf lf sp sb no H.size ((nI j))) (cwV 1 hts gX2_sumUp_X0_isSample rfl rfl rfl (by decide +kernel) ⟨Nat.le_of_ble_eq_true rfl, Nat.le_of_ble_eq_true rfl⟩) (kV (ci := 0) (q0 := 0) (q := (RX0, TX0, 7)) hN hK hPc hDc rfl rfl rfl) rfl rfl hl.1 rfl (lv_room (Nat.le_of_ble_eq_true rfl)) dX2_sumUp_25 ⟨Nat.le_of_ble_eq_true rfl, Nat.le_of_ble_eq_true rfl⟩) hP hD hS hA [5, 6, 7] [0, 1, 2, 3, 4] [0, 1, 2, 3, 4, 5, 6, 7] rfl rfl (by decide) (by decide) rfl (by decide) (fun H locs hz_25 hP hD hS => ?_)
      refine lv_if_eq (tgt := 95) hx hb dX2_sumUp_28 (by decide) (fun c_28 => ?_) (fun c_28 => ?_)
      · have hF9 : (fX2_sumUp df uf st fw sn me vf lf sp sb no p1 p2) = uu := by rw [hF, fX2_sumUp_L13, if_neg c_16, if_pos c_28]
        have hP9 : va_P D vwCl (wW cyD cyI cyJ cyZ aw ad ak ar au ae av ab df kf rf (fX2_sumUp df uf st fw sn me vf lf sp sb no p1 p2) st fw fo sn me vf lf sp sb no) H := by rw [hF9]; exact hP
        have hD9 : va_D A (wW cyD cyI cyJ cyZ aw ad ak ar au ae av ab df kf rf (fX2_sumUp df uf st fw sn me vf lf sp sb no p1 p2) st fw fo sn me vf lf sp sb no) := by rw [hF9]; exact hD
        exact W.vret hx hb hr (fun t ht hW => ⟨⟨(), rfl, trivial, by rw [ht]; exact hP9, va_K.moved hW.alike hK, hD9⟩, hS.F ht⟩) hS.2.2 dX2_sumUp_95
      refine lv_aload_n hx hb dX2_sumUp_31 rfl (lv_at hl 2 rfl) ?_
      refine va_get (D := D) (ci := 2) (v := .ref ae) (C := RX2) (T := TX2) (N := 8) hx hb hts (fun _ h => (List.mem_cons_of_mem _ (List.mem_append_left _ (List.mem_append_right _ h)))) hown hK hP 0 rfl rfl 0 (by decide) (hts (.fieldLink RX2 34 "BottomWalks$Walk" "echoes" "LBottomWalks$Echoes;") (List.mem_of_getElem? (i := 1) rfl)) (fun _ h9 => h9) rfl dX2_sumUp_32 ?_
      refine lv_aload_n hx hb dX2_sumUp_35 rfl (lv_at hl 2 rfl) ?_
      refine va_get (D := D) (ci := 2) (v := .int fw) (C := RX2) (T := TX2) (N := 8) hx hb hts (fun _ h => (List.mem_cons_of_mem _ (List.mem_append_left _ (List.mem_append_right _ h)))) hown hK hP 0 rfl rfl 6 (by decide) (hts (.fieldLink RX2 27 "BottomWalks$Walk" "frequencyWalked" "I") (List.mem_of_getElem? (i := 2) rfl)) (fun _ h9 => h9) rfl dX2_sumUp_36 ?_
      refine lv_iload_n hx hb dX2_sumUp_39 rfl (lv_at hl 3 rfl) ?_
      refine lv_iload hx hb dX2_sumUp_40 (lv_at hl 0 rfl) ?_
      have hPc : va_P D vwCl (wE cyD cyI cyJ cyZ ae av ab sn me vf lf sp sb no) H := hP.sub [5, 6, 7] rfl
      have hDc : va_D A (wE cyD cyI cyJ cyZ ae av ab sn me vf lf sp sb no) := hD.sub [5, 6, 7] (by decide) rfl
      refine klE (ws' := (wW cyD cyI cyJ cyZ aw ad ak ar au ae av ab df kf rf (uu) st fw fo sn me vf lf sp sb no)) (wc := (wE cyD cyI cyJ cyZ ae av ab sn me vf lf sp sb no)) (wr := [(aw, .inr (2, [.ref ae, .ref ad, .ref ak, .ref ar, .ref au, .int st, .int fw, .int fo])), (ad, .inl (cyD, 32, .inr (.inr (.inr (.inl df))))), (ak, .inl (cyZ, 32, .inl kf)), (ar, .inl (cyI, 32, .inl rf)), (au, .inl (cyJ, 32 * sn, .inr (.inl (uu))))]) (w1 := (wE cyD cyI cyJ cyZ ae av ab sn me vf lf sp sb no)) (va_runV (As := [.int fw, .int p1, .int ((nI j))]) (rest := []) ⟨hx, hb, hml, hown, hts⟩ (c_X0_strength (l := l) (D := D) (cyD := cyD) (cyI := cyI) (cyJ := cyJ) (cyZ := cyZ) ae av ab sn me vf lf sp sb no H.size fw p1 ((nI j)) hE) (cwV 3 hts gX2_sumUp_X0_strength rfl rfl rfl (by decide +kernel) ⟨Nat.le_of_ble_eq_true rfl, Nat.le_of_ble_eq_true rfl⟩) (kV (ci := 0) (q0 := 0) (q := (RX0, TX0, 7)) hN hK hPc hDc rfl rfl rfl) rfl rfl hl.1 rfl (lv_room (Nat.le_of_ble_eq_true rfl)) dX2_sumUp_42 ⟨Nat.le_of_ble_eq_true rfl, Nat.le_of_ble_eq_true rfl⟩) hP hD hS hA [5, 6, 7] [0, 1, 2, 3, 4] [0, 1, 2, 3, 4, 5, 6, 7] rfl rfl (by decide) (by decide) rfl (by decide) (fun H locs hP hD hS => ?_)
      refine lv_lstore (lv' := [(5, .long (fX0_strength sn me vf lf sp sb no fw p1 ((nI j)))), (4, .int ((nI j))), (3, .int (fX2_highest df sn me p1)), (0, .ref aw), (1, .int p1), (2, .int p2)]) hx hb dX2_sumUp_45 hl (by decide) rfl (fun ls hl => ?_)
      refine lv_iload_n hx hb dX2_sumUp_47 rfl (lv_at hl 5 rfl) ?_
      refine lv_iconst (v := (-1)) hx hb dX2_sumUp_48 (by decide) ?_
      refine lv_icmp_eq (tgt := 70) hx hb dX2_sumUp_49 (by decide) (fun c_49 => ?_) (fun c_49 => ?_)
      · refine lv_aload_n hx hb dX2_sumUp_70 rfl (lv_at hl 3 rfl) ?_
        refine va_get (D := D) (ci := 2) (v := .ref au) (C := RX2) (T := TX2) (N := 8) hx hb hts (fun _ h => (List.mem_cons_of_mem _ (List.mem_append_left _ (List.mem_append_right _ h)))) hown hK hP 0 rfl rfl 4 (by decide) (hts (.fieldLink RX2 43 "BottomWalks$Walk" "sums" "[J") (List.mem_of_getElem? (i := 3) rfl)) (fun _ h9 => h9) rfl dX2_sumUp_71 ?_
        refine lv_iload_n hx hb dX2_sumUp_74 rfl (lv_at hl 4 rfl) ?_
        refine lv_aload_n hx hb dX2_sumUp_75 rfl (lv_at hl 3 rfl) ?_
        refine va_get (D := D) (ci := 2) (v := .ref ae) (C := RX2) (T := TX2) (N := 8) hx hb hts (fun _ h => (List.mem_cons_of_mem _ (List.mem_append_left _ (List.mem_append_right _ h)))) hown hK hP 0 rfl rfl 0 (by decide) (hts (.fieldLink RX2 34 "BottomWalks$Walk" "echoes" "LBottomWalks$Echoes;") (List.mem_of_getElem? (i := 1) rfl)) (fun _ h9 => h9) rfl dX2_sumUp_76 ?_
        refine va_get (D := D) (ci := 0) (v := .int (nI sn)) (C := RX0) (T := TX0) (N := 7) hx hb hts (fun _ h => (List.mem_cons_of_mem _ (List.mem_append_right _ h))) hown hK hP 5 rfl rfl 0 (by decide) (hts (.fieldLink RX2 38 "BottomWalks$Echoes" "samples" "I") (List.mem_of_getElem? (i := 4) rfl)) (fun _ h9 => h9) rfl dX2_sumUp_79 ?_
        refine lv_imul hx hb dX2_sumUp_82 ?_
        refine lv_iload hx hb dX2_sumUp_83 (lv_at hl 1 rfl) ?_
        refine lv_iadd hx hb dX2_sumUp_85 ?_
        refine lv_lload hx hb dX2_sumUp_86 (lv_at hl 0 rfl) ?_
        refine va_last hx hb hK hP hD hS 4 2 rfl rfl (sumUp_in hE.2.1 hp1 hPP hj3 c_28) dX2_sumUp_88 (fun H locs hP hD hS => ?_)
        have hP : va_P D vwCl (wW cyD cyI cyJ cyZ aw ad ak ar au ae av ab df kf rf (vp_updL (uu) ((p1 * (nI sn)) + (nI j)).toNatClampNeg (fX0_strength sn me vf lf sp sb no fw p1 ((nI j)))) st fw fo sn me vf lf sp sb no) H := hP
        have hD : va_D A (wW cyD cyI cyJ cyZ aw ad ak ar au ae av ab df kf rf (vp_updL (uu) ((p1 * (nI sn)) + (nI j)).toNatClampNeg (fX0_strength sn me vf lf sp sb no fw p1 ((nI j)))) st fw fo sn me vf lf sp sb no) := hD
        refine lv_iinc (v := (((nI j)) + 1)) (lv' := [(4, .int (((nI j)) + 1)), (5, .long (fX0_strength sn me vf lf sp sb no fw p1 ((nI j)))), (3, .int (fX2_highest df sn me p1)), (0, .ref aw), (1, .int p1), (2, .int p2)]) hx hb dX2_sumUp_89 hl (k := 1) rfl rfl (by decide) rfl (fun ls hl => ?_)
        refine lv_goto (tgt := 13) hx hb dX2_sumUp_92 (by decide) ?_
        exact ih (j + 1) (vp_updL (uu) ((p1 * (nI sn)) + (nI j)).toNatClampNeg (fX0_strength sn me vf lf sp sb no fw p1 ((nI j)))) _ _ (by omega) (by have := samp_lt hE.2.1 hj3 c_28; omega) (by rw [← nI_1 j]; rw [hF, fX2_sumUp_L13, if_neg c_16, if_neg c_28, if_pos c_49]) hP hD hS _ (by rw [← nI_1 j]; exact lv_sub hl [0, 2, 3, 4, 5] rfl)
      refine lv_lload hx hb dX2_sumUp_52 (lv_at hl 0 rfl) ?_
      refine lv_aload_n hx hb dX2_sumUp_54 rfl (lv_at hl 3 rfl) ?_
      refine lv_iload_n hx hb dX2_sumUp_55 rfl (lv_at hl 5 rfl) ?_
      refine lv_aload_n hx hb dX2_sumUp_56 rfl (lv_at hl 3 rfl) ?_
      refine lv_iload_n hx hb dX2_sumUp_57 rfl (lv_at hl 5 rfl) ?_
      refine lv_iload_n hx hb dX2_sumUp_58 rfl (lv_at hl 4 rfl) ?_
      refine lv_iload hx hb dX2_sumUp_59 (lv_at hl 1 rfl) ?_
      have hPc : va_P D vwCl (wW cyD cyI cyJ cyZ aw ad ak ar au ae av ab df kf rf (uu) st fw fo sn me vf lf sp sb no) H := hP.sub [0, 1, 2, 3, 4, 5, 6, 7] rfl
      have hDc : va_D A (wW cyD cyI cyJ cyZ aw ad ak ar au ae av ab df kf rf (uu) st fw fo sn me vf lf sp sb no) := hD.sub [0, 1, 2, 3, 4, 5, 6, 7] (by decide) rfl
      refine kiE (ws' := (wW cyD cyI cyJ cyZ aw ad ak ar au ae av ab df kf rf (uu) st fw fo sn me vf lf sp sb no)) (wc := (wW cyD cyI cyJ cyZ aw ad ak ar au ae av ab df kf rf (uu) st fw fo sn me vf lf sp sb no)) (wr := []) (w1 := (wW cyD cyI cyJ cyZ aw ad ak ar au ae av ab df kf rf (uu) st fw fo sn me vf lf sp sb no)) (va_runV (As := [.int p2, .int p1, .int ((nI j))]) (rest := [.int p2, .ref aw, .long (fX0_strength sn me vf lf sp sb no fw p1 ((nI j)))]) ⟨hx, hb, hml, hown, hts⟩ (c_X2_bestBefore (l := l) (D := D) (cyD := cyD) (cyI := cyI) (cyJ := cyJ) (cyZ := cyZ) aw ad ak ar au ae av ab df kf rf (uu) st fw fo sn me vf lf sp sb no H.size p2 p1 ((nI j)) hE S hS2 hS64 j rfl (by have := samp_lt hE.2.1 hj3 c_28; omega)) (cwV 3 hts gX2_sumUp_X2_bestBefore rfl rfl rfl (by decide +kernel) ⟨Nat.le_of_ble_eq_true rfl, Nat.le_of_ble_eq_true rfl⟩) (kV (ci := 2) (q0 := 0) (q := (RX2, TX2, 8)) hN hK hPc hDc rfl rfl rfl) rfl rfl hl.1 rfl (lv_room (Nat.le_of_ble_eq_true rfl)) dX2_sumUp_61 ⟨Nat.le_of_ble_eq_true rfl, Nat.le_of_ble_eq_true rfl⟩) hP hD hS hA [0, 1, 2, 3, 4, 5, 6, 7] [] [0, 1, 2, 3, 4, 5, 6, 7] rfl rfl (by decide) (by decide) rfl (by decide) (fun H locs hP hD hS => ?_)
      have hPc : va_P D vwCl (wW cyD cyI cyJ cyZ aw ad ak ar au ae av ab df kf rf (uu) st fw fo sn me vf lf sp sb no) H := hP.sub [0, 1, 2, 3, 4, 5, 6, 7] rfl
      have hDc : va_D A (wW cyD cyI cyJ cyZ aw ad ak ar au ae av ab df kf rf (uu) st fw fo sn me vf lf sp sb no) := hD.sub [0, 1, 2, 3, 4, 5, 6, 7] (by decide) rfl
      refine klE (ws' := (wW cyD cyI cyJ cyZ aw ad ak ar au ae av ab df kf rf (uu) st fw fo sn me vf lf sp sb no)) (wc := (wW cyD cyI cyJ cyZ aw ad ak ar au ae av ab df kf rf (uu) st fw fo sn me vf lf sp sb no)) (wr := []) (w1 := (wW cyD cyI cyJ cyZ aw ad ak ar au ae av ab df kf rf (uu) st fw fo sn me vf lf sp sb no)) (va_runV (As := [.int p2, .int (fX2_bestBefore df (uu) st sn me p2 p1 ((nI j)))]) (rest := [.long (fX0_strength sn me vf lf sp sb no fw p1 ((nI j)))]) ⟨hx, hb, hml, hown, hts⟩ (c_X2_sumAt (l := l) (D := D) (cyD := cyD) (cyI := cyI) (cyJ := cyJ) (cyZ := cyZ) aw ad ak ar au ae av ab df kf rf (uu) st fw fo sn me vf lf sp sb no H.size p2 (fX2_bestBefore df (uu) st sn me p2 p1 ((nI j))) hE) (cwV 2 hts gX2_sumUp_X2_sumAt rfl rfl rfl (by decide +kernel) ⟨Nat.le_of_ble_eq_true rfl, Nat.le_of_ble_eq_true rfl⟩) (kV (ci := 2) (q0 := 0) (q := (RX2, TX2, 8)) hN hK hPc hDc rfl rfl rfl) rfl rfl hl.1 rfl (lv_room (Nat.le_of_ble_eq_true rfl)) dX2_sumUp_64 ⟨Nat.le_of_ble_eq_true rfl, Nat.le_of_ble_eq_true rfl⟩) hP hD hS hA [0, 1, 2, 3, 4, 5, 6, 7] [] [0, 1, 2, 3, 4, 5, 6, 7] rfl rfl (by decide) (by decide) rfl (by decide) (fun H locs hP hD hS => ?_)
      refine lv_ladd hx hb dX2_sumUp_67 ?_
      refine lv_lstore (lv' := [(5, .long ((fX0_strength sn me vf lf sp sb no fw p1 ((nI j))) + (fX2_sumAt (uu) sn p2 (fX2_bestBefore df (uu) st sn me p2 p1 ((nI j)))))), (4, .int ((nI j))), (3, .int (fX2_highest df sn me p1)), (0, .ref aw), (1, .int p1), (2, .int p2)]) hx hb dX2_sumUp_68 hl (by decide) rfl (fun ls hl => ?_)
      refine lv_aload_n hx hb dX2_sumUp_70 rfl (lv_at hl 3 rfl) ?_
      refine va_get (D := D) (ci := 2) (v := .ref au) (C := RX2) (T := TX2) (N := 8) hx hb hts (fun _ h => (List.mem_cons_of_mem _ (List.mem_append_left _ (List.mem_append_right _ h)))) hown hK hP 0 rfl rfl 4 (by decide) (hts (.fieldLink RX2 43 "BottomWalks$Walk" "sums" "[J") (List.mem_of_getElem? (i := 3) rfl)) (fun _ h9 => h9) rfl dX2_sumUp_71 ?_
      refine lv_iload_n hx hb dX2_sumUp_74 rfl (lv_at hl 4 rfl) ?_
      refine lv_aload_n hx hb dX2_sumUp_75 rfl (lv_at hl 3 rfl) ?_
      refine va_get (D := D) (ci := 2) (v := .ref ae) (C := RX2) (T := TX2) (N := 8) hx hb hts (fun _ h => (List.mem_cons_of_mem _ (List.mem_append_left _ (List.mem_append_right _ h)))) hown hK hP 0 rfl rfl 0 (by decide) (hts (.fieldLink RX2 34 "BottomWalks$Walk" "echoes" "LBottomWalks$Echoes;") (List.mem_of_getElem? (i := 1) rfl)) (fun _ h9 => h9) rfl dX2_sumUp_76 ?_
      refine va_get (D := D) (ci := 0) (v := .int (nI sn)) (C := RX0) (T := TX0) (N := 7) hx hb hts (fun _ h => (List.mem_cons_of_mem _ (List.mem_append_right _ h))) hown hK hP 5 rfl rfl 0 (by decide) (hts (.fieldLink RX2 38 "BottomWalks$Echoes" "samples" "I") (List.mem_of_getElem? (i := 4) rfl)) (fun _ h9 => h9) rfl dX2_sumUp_79 ?_
      refine lv_imul hx hb dX2_sumUp_82 ?_
      refine lv_iload hx hb dX2_sumUp_83 (lv_at hl 1 rfl) ?_
      refine lv_iadd hx hb dX2_sumUp_85 ?_
      refine lv_lload hx hb dX2_sumUp_86 (lv_at hl 0 rfl) ?_
      refine va_last hx hb hK hP hD hS 4 2 rfl rfl (sumUp_in hE.2.1 hp1 hPP hj3 c_28) dX2_sumUp_88 (fun H locs hP hD hS => ?_)
      have hP : va_P D vwCl (wW cyD cyI cyJ cyZ aw ad ak ar au ae av ab df kf rf (vp_updL (uu) ((p1 * (nI sn)) + (nI j)).toNatClampNeg ((fX0_strength sn me vf lf sp sb no fw p1 ((nI j))) + (fX2_sumAt (uu) sn p2 (fX2_bestBefore df (uu) st sn me p2 p1 ((nI j)))))) st fw fo sn me vf lf sp sb no) H := hP
      have hD : va_D A (wW cyD cyI cyJ cyZ aw ad ak ar au ae av ab df kf rf (vp_updL (uu) ((p1 * (nI sn)) + (nI j)).toNatClampNeg ((fX0_strength sn me vf lf sp sb no fw p1 ((nI j))) + (fX2_sumAt (uu) sn p2 (fX2_bestBefore df (uu) st sn me p2 p1 ((nI j)))))) st fw fo sn me vf lf sp sb no) := hD
      refine lv_iinc (v := (((nI j)) + 1)) (lv' := [(4, .int (((nI j)) + 1)), (5, .long ((fX0_strength sn me vf lf sp sb no fw p1 ((nI j))) + (fX2_sumAt (uu) sn p2 (fX2_bestBefore df (uu) st sn me p2 p1 ((nI j)))))), (3, .int (fX2_highest df sn me p1)), (0, .ref aw), (1, .int p1), (2, .int p2)]) hx hb dX2_sumUp_89 hl (k := 1) rfl rfl (by decide) rfl (fun ls hl => ?_)
      refine lv_goto (tgt := 13) hx hb dX2_sumUp_92 (by decide) ?_
      exact ih (j + 1) (vp_updL (uu) ((p1 * (nI sn)) + (nI j)).toNatClampNeg ((fX0_strength sn me vf lf sp sb no fw p1 ((nI j))) + (fX2_sumAt (uu) sn p2 (fX2_bestBefore df (uu) st sn me p2 p1 ((nI j)))))) _ _ (by omega) (by have := samp_lt hE.2.1 hj3 c_28; omega) (by rw [← nI_1 j]; rw [hF, fX2_sumUp_L13, if_neg c_16, if_neg c_28, if_neg c_49]) hP hD hS _ (by rw [← nI_1 j]; exact lv_sub hl [0, 2, 3, 4, 5] rfl)
  exact loop_13 65 q0 uf _ _ (by omega) (by omega) (by rw [← eq0]; rw [fX2_sumUp]) hP hD hS _ (by rw [← eq0]; exact lv_sub hl [0, 1, 2, 3, 4] rfl)
def fX2_traceBack_L8 (df : Nat → UInt64) (kf : Nat → Int32) (rf : Nat → Int32) (uf : Nat → Int64) (st : Int32) (sn : Nat) (me : UInt64)   : Nat → (Int32) → (Int32) → (Int64) → (Nat → Int32) → Int64 × (Nat → Int32)
  | 0, v_j, v_bh, v_gg, v_rr => (0, v_rr)
  | k + 1, v_j, v_bh, v_gg, v_rr => if v_j < 0 then (v_gg, v_rr) else (if (kf (v_j).toNatClampNeg) = 0 then (fX2_traceBack_L8 df kf rf uf st sn me k ((v_j) + (-1)) (v_bh) (v_gg) (v_rr)) else (if v_bh = (-1 : Int32) then (fX2_traceBack_L8 df kf rf uf st sn me k ((v_j) + (-1)) (v_j) (fX2_sumAt uf sn (v_j) ((upd (v_rr) (v_j).toNatClampNeg (fX2_bestBefore df uf st sn me (v_j) (v_bh) (fX2_sampleOfRow (v_rr) (v_bh)))) (v_j).toNatClampNeg)) (upd (v_rr) (v_j).toNatClampNeg (fX2_bestBefore df uf st sn me (v_j) (v_bh) (fX2_sampleOfRow (v_rr) (v_bh))))) else ((fX2_traceBack_L8 df kf rf uf st sn me k ((v_j) + (-1)) (v_j) (v_gg) (upd (v_rr) (v_j).toNatClampNeg (fX2_bestBefore df uf st sn me (v_j) (v_bh) (fX2_sampleOfRow (v_rr) (v_bh))))))))
def fX2_traceBack (df : Nat → UInt64) (kf : Nat → Int32) (rf : Nat → Int32) (uf : Nat → Int64) (st : Int32) (sn : Nat) (me : UInt64)  : Int64 × (Nat → Int32) := (fX2_traceBack_L8 df kf rf uf st sn me 33 (31 : Int32) (-1 : Int32) (0 : Int64) rf)
set_option maxHeartbeats 4000000 in
set_option maxRecDepth 100000 in
theorem c_X2_traceBack {l : Launch} {D : va_G} {cyD cyI cyJ cyZ : ClassId} (aw ad ak ar au ae av ab : Nat) (df : Nat → UInt64) (kf : Nat → Int32) (rf : Nat → Int32) (uf : Nat → Int64) (st : Int32) (fw : Int32) (fo : Int32) (sn : Nat) (me : UInt64) (vf : Nat → UInt64) (lf : Nat → Int32) (sp : UInt64) (sb : UInt64) (no : UInt64) (sz : Nat)  (hE : okE sn me vf sp sb no) (S : Nat) (hS2 : st = nI S) (hS64 : S ≤ 64) (hrf : okR rf) : mL l yX2_traceBack wsX2_traceBack ({ frames := 4, cells := 0, slots := 0, locals := 96 } : Room) D (kT cyD cyI cyJ cyZ) [.ref aw] (wW cyD cyI cyJ cyZ aw ad ak ar au ae av ab df kf rf uf st fw fo sn me vf lf sp sb no) (wW cyD cyI cyJ cyZ aw ad ak ar au ae av ab df kf ((fX2_traceBack df kf rf uf st sn me).2) uf st fw fo sn me vf lf sp sb no) sz ((fX2_traceBack df kf rf uf st sn me).1) 0 0 := by
  refine Met.ofW (cc := cX2_traceBack) (maxL := 5) (ret := (some .long)) (by decide) rfl ?_
  intro p e s m args below meth c s₁ B hml hv
  obtain ⟨rfl, hN, hsz, hP, hK, hD0⟩ := hv
  have hx := B.exec
  have hb := B.bytes
  have hr := B.returns
  have hts := atoms_spec (ws := wsX2_traceBack) B.pre
  have hown : s.vm.findClass RX2 = some m.cls := findClass_of_methodNamed B.named
  have hlocks := B.notSynchronized
  subst hsz
  have hD := hD0.self (sz := s.heap.size)
  generalize hAe : va_A (wW cyD cyI cyJ cyZ aw ad ak ar au ae av ab df kf rf uf st fw fo sn me vf lf sp sb no) s.heap.size = A at hD ⊢
  have hA : ∀ q : Nat, s.heap.size ≤ q → A q := fun q h => by rw [← hAe]; exact Or.inr h
  have hS : va_S A s.heap s.heap [] := va_S.rf
  have hP : va_P D vwCl (wW cyD cyI cyJ cyZ aw ad ak ar au ae av ab df kf rf uf st fw fo sn me vf lf sp sb no) s.heap := hP
  have hl := lv_entry [.ref aw] (n := 5) (Nat.le_of_ble_eq_true rfl)
  rw [lg_entry_eq]
  generalize (lg_sl [.ref aw] ++ List.replicate (5 - (lg_sl [.ref aw]).length) Slot.unset).toArray = ls at hl ⊢
  have hl : lv_has ls 5 [(0, .ref aw)] := hl
  obtain ⟨H, hHe⟩ : ∃ H : Heap, H = s.heap := ⟨_, rfl⟩
  have hP : va_P D vwCl (wW cyD cyI cyJ cyZ aw ad ak ar au ae av ab df kf rf uf st fw fo sn me vf lf sp sb no) H := by rw [hHe]; exact hP
  have hS : va_S A s.heap H [] := by rw [hHe]; exact hS
  rw [← hHe]
  refine lv_lconst (v := 0) hx hb dX2_traceBack_0 rfl ?_
  refine lv_lstore_n (lv' := [(1, .long (0 : Int64)), (0, .ref aw)]) hx hb dX2_traceBack_1 rfl hl (by decide) rfl (fun ls hl => ?_)
  refine lv_iconst (v := (-1)) hx hb dX2_traceBack_2 (by decide) ?_
  refine lv_istore_n (lv' := [(3, .int (-1 : Int32)), (1, .long (0 : Int64)), (0, .ref aw)]) hx hb dX2_traceBack_3 rfl hl (by decide) rfl (fun ls hl => ?_)
  refine lv_bipush (v := 31) hx hb dX2_traceBack_4 (by decide) ?_
  refine lv_istore (lv' := [(4, .int (31 : Int32)), (3, .int (-1 : Int32)), (1, .long (0 : Int64)), (0, .ref aw)]) hx hb dX2_traceBack_6 hl (by decide) rfl (fun ls hl => ?_)
  have loop_8 : ∀ (k : Nat) (j : Nat) (bh : Int32) (gg : Int64) (rr : Nat → Int32) (H : Heap) (locs : List Loc), (j < k) → (j ≤ 32) → (okR rr) → (fX2_traceBack df kf rf uf st sn me) = fX2_traceBack_L8 df kf rf uf st sn me k ((nI j + (-1))) (bh) (gg) (rr) → va_P D vwCl (wW cyD cyI cyJ cyZ aw ad ak ar au ae av ab df kf (rr) uf st fw fo sn me vf lf sp sb no) H → va_D A (wW cyD cyI cyJ cyZ aw ad ak ar au ae av ab df kf (rr) uf st fw fo sn me vf lf sp sb no) → va_S A s.heap H locs → ∀ ls, lv_has ls 5 [(4, .int ((nI j + (-1)))), (3, .int (bh)), (1, .long (gg)), (0, .ref aw)] → W p l e (headSpec wsX2_traceBack ({ frames := 4, cells := 0, slots := 0, locals := 96 } : Room)).room s m ([.ref aw] : List Value).toArray below meth c H locs 0 0 (MQ below (va_Ql (fun (r : Int64) (_ : Unit) => r = (fX2_traceBack df kf rf uf st sn me).1) (kE D (kT cyD cyI cyJ cyZ) (wW cyD cyI cyJ cyZ aw ad ak ar au ae av ab df kf ((fX2_traceBack df kf rf uf st sn me).2) uf st fw fo sn me vf lf sp sb no) A) A) ([.ref aw] : List Value).toArray s 0 0 A) (F0 m 8 ls []) := by
    intro k
    induction k with
    | zero => intro j bh gg rr H locs hj hj2 hrr hF hP hD hS ls hl; exact absurd hj (by omega)
    | succ k ih =>
      intro j bh gg rr H locs hj hj2 hrr hF hP hD hS ls hl
      refine lv_iload hx hb dX2_traceBack_8 (lv_at hl 0 rfl) ?_
      refine lv_if_lt (tgt := 74) hx hb dX2_traceBack_10 (by decide) (fun c_10 => ?_) (fun c_10 => ?_)
      · refine lv_lload_n hx hb dX2_traceBack_74 rfl (lv_at hl 2 rfl) ?_
        have hF9 : (fX2_traceBack df kf rf uf st sn me) = (gg, rr) := by rw [hF, fX2_traceBack_L8, if_pos c_10]
        have hP9 : va_P D vwCl (wW cyD cyI cyJ cyZ aw ad ak ar au ae av ab df kf ((fX2_traceBack df kf rf uf st sn me).2) uf st fw fo sn me vf lf sp sb no) H := by rw [hF9]; exact hP
        have hD9 : va_D A (wW cyD cyI cyJ cyZ aw ad ak ar au ae av ab df kf ((fX2_traceBack df kf rf uf st sn me).2) uf st fw fo sn me vf lf sp sb no) := by rw [hF9]; exact hD
        exact W.lret (v := gg) hx hb hr (fun t ht hW => ⟨⟨gg, (), rfl, (by rw [hF9]), by rw [ht]; exact hP9, va_K.moved hW.alike hK, hD9⟩, hS.F ht⟩) hS.2.2 dX2_traceBack_75
      refine lv_aload_n hx hb dX2_traceBack_13 rfl (lv_at hl 3 rfl) ?_
      refine va_get (D := D) (ci := 2) (v := .ref ak) (C := RX2) (T := TX2) (N := 8) hx hb hts (fun _ h => (List.mem_cons_of_mem _ (List.mem_append_left _ (List.mem_append_right _ h)))) hown hK hP 0 rfl rfl 2 (by decide) (hts (.fieldLink RX2 15 "BottomWalks$Walk" "walked" "[Z") (List.mem_of_getElem? (i := 1) rfl)) (fun _ h9 => h9) rfl dX2_traceBack_14 ?_
      refine lv_iload hx hb dX2_traceBack_17 (lv_at hl 0 rfl) ?_
      refine va_zald hx hb hK hP 2 3 rfl rfl (trace_in hj2 c_10) dX2_traceBack_19 ?_
      refine lv_if_eq (tgt := 68) hx hb dX2_traceBack_20 (by decide) (fun c_20 => ?_) (fun c_20 => ?_)
      · refine lv_iinc (v := (((nI j + (-1))) + (-1))) (lv' := [(4, .int (((nI j + (-1))) + (-1))), (3, .int (bh)), (1, .long (gg)), (0, .ref aw)]) hx hb dX2_traceBack_68 hl (k := 0) rfl rfl (by decide) rfl (fun ls hl => ?_)
        refine lv_goto (tgt := 8) hx hb dX2_traceBack_71 (by decide) ?_
        exact ih (j - 1) (bh) (gg) (rr) _ _ (by have h0 : j ≠ 0 := (fun z => by obtain ⟨i, hi, _⟩ := trace_i hj2 c_10; omega); omega) (by omega) hrr (by have h0 : j ≠ 0 := (fun z => by obtain ⟨i, hi, _⟩ := trace_i hj2 c_10; omega); rw [← pk_m1 (j - 1), show j - 1 + 1 = j from (by omega)]; rw [hF, fX2_traceBack_L8, if_neg c_10, if_pos c_20]) hP hD hS _ (by have h0 : j ≠ 0 := (fun z => by obtain ⟨i, hi, _⟩ := trace_i hj2 c_10; omega); rw [← pk_m1 (j - 1), show j - 1 + 1 = j from (by omega)]; exact lv_sub hl [0, 1, 2, 3] rfl)
      refine lv_aload_n hx hb dX2_traceBack_23 rfl (lv_at hl 3 rfl) ?_
      refine va_get (D := D) (ci := 2) (v := .ref ar) (C := RX2) (T := TX2) (N := 8) hx hb hts (fun _ h => (List.mem_cons_of_mem _ (List.mem_append_left _ (List.mem_append_right _ h)))) hown hK hP 0 rfl rfl 3 (by decide) (hts (.fieldLink RX2 19 "BottomWalks$Walk" "row" "[I") (List.mem_of_getElem? (i := 2) rfl)) (fun _ h9 => h9) rfl dX2_traceBack_24 ?_
      refine lv_iload hx hb dX2_traceBack_27 (lv_at hl 0 rfl) ?_
      refine lv_aload_n hx hb dX2_traceBack_29 rfl (lv_at hl 3 rfl) ?_
      refine lv_iload hx hb dX2_traceBack_30 (lv_at hl 0 rfl) ?_
      refine lv_iload_n hx hb dX2_traceBack_32 rfl (lv_at hl 1 rfl) ?_
      refine lv_aload_n hx hb dX2_traceBack_33 rfl (lv_at hl 3 rfl) ?_
      refine lv_iload_n hx hb dX2_traceBack_34 rfl (lv_at hl 1 rfl) ?_
      have hPc : va_P D vwCl (wW cyD cyI cyJ cyZ aw ad ak ar au ae av ab df kf (rr) uf st fw fo sn me vf lf sp sb no) H := hP.sub [0, 1, 2, 3, 4, 5, 6, 7] rfl
      have hDc : va_D A (wW cyD cyI cyJ cyZ aw ad ak ar au ae av ab df kf (rr) uf st fw fo sn me vf lf sp sb no) := hD.sub [0, 1, 2, 3, 4, 5, 6, 7] (by decide) rfl
      refine kiE (ws' := (wW cyD cyI cyJ cyZ aw ad ak ar au ae av ab df kf (rr) uf st fw fo sn me vf lf sp sb no)) (wc := (wW cyD cyI cyJ cyZ aw ad ak ar au ae av ab df kf (rr) uf st fw fo sn me vf lf sp sb no)) (wr := []) (w1 := (wW cyD cyI cyJ cyZ aw ad ak ar au ae av ab df kf (rr) uf st fw fo sn me vf lf sp sb no)) (va_runV (As := [.int (bh)]) (rest := [.int (bh), .int ((nI j + (-1))), .ref aw, .int ((nI j + (-1))), .ref ar]) ⟨hx, hb, hml, hown, hts⟩ (c_X2_sampleOfRow (l := l) (D := D) (cyD := cyD) (cyI := cyI) (cyJ := cyJ) (cyZ := cyZ) aw ad ak ar au ae av ab df kf (rr) uf st fw fo sn me vf lf sp sb no H.size (bh)) (cwV 1 hts gX2_traceBack_X2_sampleOfRow rfl rfl rfl (by decide +kernel) ⟨Nat.le_of_ble_eq_true rfl, Nat.le_of_ble_eq_true rfl⟩) (kV (ci := 2) (q0 := 0) (q := (RX2, TX2, 8)) hN hK hPc hDc rfl rfl rfl) rfl rfl hl.1 rfl (lv_room (Nat.le_of_ble_eq_true rfl)) dX2_traceBack_35 ⟨Nat.le_of_ble_eq_true rfl, Nat.le_of_ble_eq_true rfl⟩) hP hD hS hA [0, 1, 2, 3, 4, 5, 6, 7] [] [0, 1, 2, 3, 4, 5, 6, 7] rfl rfl (by decide) (by decide) rfl (by decide) (fun H locs hP hD hS => ?_)
      have hPc : va_P D vwCl (wW cyD cyI cyJ cyZ aw ad ak ar au ae av ab df kf (rr) uf st fw fo sn me vf lf sp sb no) H := hP.sub [0, 1, 2, 3, 4, 5, 6, 7] rfl
      have hDc : va_D A (wW cyD cyI cyJ cyZ aw ad ak ar au ae av ab df kf (rr) uf st fw fo sn me vf lf sp sb no) := hD.sub [0, 1, 2, 3, 4, 5, 6, 7] (by decide) rfl
      refine kiE (ws' := (wW cyD cyI cyJ cyZ aw ad ak ar au ae av ab df kf (rr) uf st fw fo sn me vf lf sp sb no)) (wc := (wW cyD cyI cyJ cyZ aw ad ak ar au ae av ab df kf (rr) uf st fw fo sn me vf lf sp sb no)) (wr := []) (w1 := (wW cyD cyI cyJ cyZ aw ad ak ar au ae av ab df kf (rr) uf st fw fo sn me vf lf sp sb no)) (va_runV (As := [.int ((nI j + (-1))), .int (bh), .int (fX2_sampleOfRow (rr) (bh))]) (rest := [.int ((nI j + (-1))), .ref ar]) ⟨hx, hb, hml, hown, hts⟩ (c_X2_bestBefore (l := l) (D := D) (cyD := cyD) (cyI := cyI) (cyJ := cyJ) (cyZ := cyZ) aw ad ak ar au ae av ab df kf (rr) uf st fw fo sn me vf lf sp sb no H.size ((nI j + (-1))) (bh) (fX2_sampleOfRow (rr) (bh)) hE S hS2 hS64 (sor_nI hrr bh).choose (sor_nI hrr bh).choose_spec.2 (sor_nI hrr bh).choose_spec.1) (cwV 3 hts gX2_traceBack_X2_bestBefore rfl rfl rfl (by decide +kernel) ⟨Nat.le_of_ble_eq_true rfl, Nat.le_of_ble_eq_true rfl⟩) (kV (ci := 2) (q0 := 0) (q := (RX2, TX2, 8)) hN hK hPc hDc rfl rfl rfl) rfl rfl hl.1 rfl (lv_room (Nat.le_of_ble_eq_true rfl)) dX2_traceBack_38 ⟨Nat.le_of_ble_eq_true rfl, Nat.le_of_ble_eq_true rfl⟩) hP hD hS hA [0, 1, 2, 3, 4, 5, 6, 7] [] [0, 1, 2, 3, 4, 5, 6, 7] rfl rfl (by decide) (by decide) rfl (by decide) (fun H locs hP hD hS => ?_)
      refine va_iast hx hb hK hP hD hS 3 1 rfl rfl (trace_in hj2 c_10) dX2_traceBack_41 (fun H locs hP hD hS => ?_)
      have hP : va_P D vwCl (wW cyD cyI cyJ cyZ aw ad ak ar au ae av ab df kf (upd (rr) ((nI j + (-1))).toNatClampNeg (fX2_bestBefore df uf st sn me ((nI j + (-1))) (bh) (fX2_sampleOfRow (rr) (bh)))) uf st fw fo sn me vf lf sp sb no) H := hP
      have hD : va_D A (wW cyD cyI cyJ cyZ aw ad ak ar au ae av ab df kf (upd (rr) ((nI j + (-1))).toNatClampNeg (fX2_bestBefore df uf st sn me ((nI j + (-1))) (bh) (fX2_sampleOfRow (rr) (bh)))) uf st fw fo sn me vf lf sp sb no) := hD
      refine lv_iload_n hx hb dX2_traceBack_42 rfl (lv_at hl 1 rfl) ?_
      refine lv_iconst (v := (-1)) hx hb dX2_traceBack_43 (by decide) ?_
      refine lv_icmp_ne (tgt := 63) hx hb dX2_traceBack_44 (by decide) (fun c_44 => ?_) (fun c_44 => ?_)
      · refine lv_lload_n hx hb dX2_traceBack_63 rfl (lv_at hl 2 rfl) ?_
        refine lv_lstore_n (lv' := [(1, .long (gg)), (4, .int ((nI j + (-1)))), (3, .int (bh)), (0, .ref aw)]) hx hb dX2_traceBack_64 rfl hl (by decide) rfl (fun ls hl => ?_)
        refine lv_iload hx hb dX2_traceBack_65 (lv_at hl 1 rfl) ?_
        refine lv_istore_n (lv' := [(3, .int ((nI j + (-1)))), (1, .long (gg)), (4, .int ((nI j + (-1)))), (0, .ref aw)]) hx hb dX2_traceBack_67 rfl hl (by decide) rfl (fun ls hl => ?_)
        refine lv_iinc (v := (((nI j + (-1))) + (-1))) (lv' := [(4, .int (((nI j + (-1))) + (-1))), (3, .int ((nI j + (-1)))), (1, .long (gg)), (0, .ref aw)]) hx hb dX2_traceBack_68 hl (k := 2) rfl rfl (by decide) rfl (fun ls hl => ?_)
        refine lv_goto (tgt := 8) hx hb dX2_traceBack_71 (by decide) ?_
        exact ih (j - 1) ((nI j + (-1))) (gg) (upd (rr) ((nI j + (-1))).toNatClampNeg (fX2_bestBefore df uf st sn me ((nI j + (-1))) (bh) (fX2_sampleOfRow (rr) (bh)))) _ _ (by have h0 : j ≠ 0 := (fun z => by obtain ⟨i, hi, _⟩ := trace_i hj2 c_10; omega); omega) (by omega) (okR_upd hrr _ (bb_nI df uf me _ _ _ hE.1 hE.2.1 (sor_nI hrr bh).choose_spec.2 (sor_nI hrr bh).choose_spec.1 hS2 hS64)) (by have h0 : j ≠ 0 := (fun z => by obtain ⟨i, hi, _⟩ := trace_i hj2 c_10; omega); rw [← pk_m1 (j - 1), show j - 1 + 1 = j from (by omega)]; rw [hF, fX2_traceBack_L8, if_neg c_10, if_neg c_20, if_neg c_44]) hP hD hS _ (by have h0 : j ≠ 0 := (fun z => by obtain ⟨i, hi, _⟩ := trace_i hj2 c_10; omega); rw [← pk_m1 (j - 1), show j - 1 + 1 = j from (by omega)]; exact lv_sub hl [0, 1, 2, 3] rfl)
      refine lv_aload_n hx hb dX2_traceBack_47 rfl (lv_at hl 3 rfl) ?_
      refine lv_iload hx hb dX2_traceBack_48 (lv_at hl 0 rfl) ?_
      refine lv_aload_n hx hb dX2_traceBack_50 rfl (lv_at hl 3 rfl) ?_
      refine va_get (D := D) (ci := 2) (v := .ref ar) (C := RX2) (T := TX2) (N := 8) hx hb hts (fun _ h => (List.mem_cons_of_mem _ (List.mem_append_left _ (List.mem_append_right _ h)))) hown hK hP 0 rfl rfl 3 (by decide) (hts (.fieldLink RX2 19 "BottomWalks$Walk" "row" "[I") (List.mem_of_getElem? (i := 2) rfl)) (fun _ h9 => h9) rfl dX2_traceBack_51 ?_
      refine lv_iload hx hb dX2_traceBack_54 (lv_at hl 0 rfl) ?_
      refine va_iald hx hb hK hP 3 1 rfl rfl (trace_in hj2 c_10) dX2_traceBack_56 ?_
      have hPc : va_P D vwCl (wW cyD cyI cyJ cyZ aw ad ak ar au ae av ab df kf (upd (rr) ((nI j + (-1))).toNatClampNeg (fX2_bestBefore df uf st sn me ((nI j + (-1))) (bh) (fX2_sampleOfRow (rr) (bh)))) uf st fw fo sn me vf lf sp sb no) H := hP.sub [0, 1, 2, 3, 4, 5, 6, 7] rfl
      have hDc : va_D A (wW cyD cyI cyJ cyZ aw ad ak ar au ae av ab df kf (upd (rr) ((nI j + (-1))).toNatClampNeg (fX2_bestBefore df uf st sn me ((nI j + (-1))) (bh) (fX2_sampleOfRow (rr) (bh)))) uf st fw fo sn me vf lf sp sb no) := hD.sub [0, 1, 2, 3, 4, 5, 6, 7] (by decide) rfl
      refine klE (ws' := (wW cyD cyI cyJ cyZ aw ad ak ar au ae av ab df kf (upd (rr) ((nI j + (-1))).toNatClampNeg (fX2_bestBefore df uf st sn me ((nI j + (-1))) (bh) (fX2_sampleOfRow (rr) (bh)))) uf st fw fo sn me vf lf sp sb no)) (wc := (wW cyD cyI cyJ cyZ aw ad ak ar au ae av ab df kf (upd (rr) ((nI j + (-1))).toNatClampNeg (fX2_bestBefore df uf st sn me ((nI j + (-1))) (bh) (fX2_sampleOfRow (rr) (bh)))) uf st fw fo sn me vf lf sp sb no)) (wr := []) (w1 := (wW cyD cyI cyJ cyZ aw ad ak ar au ae av ab df kf (upd (rr) ((nI j + (-1))).toNatClampNeg (fX2_bestBefore df uf st sn me ((nI j + (-1))) (bh) (fX2_sampleOfRow (rr) (bh)))) uf st fw fo sn me vf lf sp sb no)) (va_runV (As := [.int ((nI j + (-1))), .int ((upd (rr) ((nI j + (-1))).toNatClampNeg (fX2_bestBefore df uf st sn me ((nI j + (-1))) (bh) (fX2_sampleOfRow (rr) (bh)))) ((nI j + (-1))).toNatClampNeg)]) (rest := []) ⟨hx, hb, hml, hown, hts⟩ (c_X2_sumAt (l := l) (D := D) (cyD := cyD) (cyI := cyI) (cyJ := cyJ) (cyZ := cyZ) aw ad ak ar au ae av ab df kf (upd (rr) ((nI j + (-1))).toNatClampNeg (fX2_bestBefore df uf st sn me ((nI j + (-1))) (bh) (fX2_sampleOfRow (rr) (bh)))) uf st fw fo sn me vf lf sp sb no H.size ((nI j + (-1))) ((upd (rr) ((nI j + (-1))).toNatClampNeg (fX2_bestBefore df uf st sn me ((nI j + (-1))) (bh) (fX2_sampleOfRow (rr) (bh)))) ((nI j + (-1))).toNatClampNeg) hE) (cwV 2 hts gX2_traceBack_X2_sumAt rfl rfl rfl (by decide +kernel) ⟨Nat.le_of_ble_eq_true rfl, Nat.le_of_ble_eq_true rfl⟩) (kV (ci := 2) (q0 := 0) (q := (RX2, TX2, 8)) hN hK hPc hDc rfl rfl rfl) rfl rfl hl.1 rfl (lv_room (Nat.le_of_ble_eq_true rfl)) dX2_traceBack_57 ⟨Nat.le_of_ble_eq_true rfl, Nat.le_of_ble_eq_true rfl⟩) hP hD hS hA [0, 1, 2, 3, 4, 5, 6, 7] [] [0, 1, 2, 3, 4, 5, 6, 7] rfl rfl (by decide) (by decide) rfl (by decide) (fun H locs hP hD hS => ?_)
      refine lv_goto (tgt := 64) hx hb dX2_traceBack_60 (by decide) ?_
      refine lv_lstore_n (lv' := [(1, .long (fX2_sumAt uf sn ((nI j + (-1))) ((upd (rr) ((nI j + (-1))).toNatClampNeg (fX2_bestBefore df uf st sn me ((nI j + (-1))) (bh) (fX2_sampleOfRow (rr) (bh)))) ((nI j + (-1))).toNatClampNeg))), (4, .int ((nI j + (-1)))), (3, .int (bh)), (0, .ref aw)]) hx hb dX2_traceBack_64 rfl hl (by decide) rfl (fun ls hl => ?_)
      refine lv_iload hx hb dX2_traceBack_65 (lv_at hl 1 rfl) ?_
      refine lv_istore_n (lv' := [(3, .int ((nI j + (-1)))), (1, .long (fX2_sumAt uf sn ((nI j + (-1))) ((upd (rr) ((nI j + (-1))).toNatClampNeg (fX2_bestBefore df uf st sn me ((nI j + (-1))) (bh) (fX2_sampleOfRow (rr) (bh)))) ((nI j + (-1))).toNatClampNeg))), (4, .int ((nI j + (-1)))), (0, .ref aw)]) hx hb dX2_traceBack_67 rfl hl (by decide) rfl (fun ls hl => ?_)
      refine lv_iinc (v := (((nI j + (-1))) + (-1))) (lv' := [(4, .int (((nI j + (-1))) + (-1))), (3, .int ((nI j + (-1)))), (1, .long (fX2_sumAt uf sn ((nI j + (-1))) ((upd (rr) ((nI j + (-1))).toNatClampNeg (fX2_bestBefore df uf st sn me ((nI j + (-1))) (bh) (fX2_sampleOfRow (rr) (bh)))) ((nI j + (-1))).toNatClampNeg))), (0, .ref aw)]) hx hb dX2_traceBack_68 hl (k := 2) rfl rfl (by decide) rfl (fun ls hl => ?_)
      refine lv_goto (tgt := 8) hx hb dX2_traceBack_71 (by decide) ?_
      exact ih (j - 1) ((nI j + (-1))) (fX2_sumAt uf sn ((nI j + (-1))) ((upd (rr) ((nI j + (-1))).toNatClampNeg (fX2_bestBefore df uf st sn me ((nI j + (-1))) (bh) (fX2_sampleOfRow (rr) (bh)))) ((nI j + (-1))).toNatClampNeg)) (upd (rr) ((nI j + (-1))).toNatClampNeg (fX2_bestBefore df uf st sn me ((nI j + (-1))) (bh) (fX2_sampleOfRow (rr) (bh)))) _ _ (by have h0 : j ≠ 0 := (fun z => by obtain ⟨i, hi, _⟩ := trace_i hj2 c_10; omega); omega) (by omega) (okR_upd hrr _ (bb_nI df uf me _ _ _ hE.1 hE.2.1 (sor_nI hrr bh).choose_spec.2 (sor_nI hrr bh).choose_spec.1 hS2 hS64)) (by have h0 : j ≠ 0 := (fun z => by obtain ⟨i, hi, _⟩ := trace_i hj2 c_10; omega); rw [← pk_m1 (j - 1), show j - 1 + 1 = j from (by omega)]; rw [hF, fX2_traceBack_L8, if_neg c_10, if_neg c_20, if_pos c_44]) hP hD hS _ (by have h0 : j ≠ 0 := (fun z => by obtain ⟨i, hi, _⟩ := trace_i hj2 c_10; omega); rw [← pk_m1 (j - 1), show j - 1 + 1 = j from (by omega)]; exact lv_sub hl [0, 1, 2, 3] rfl)
  exact loop_8 33 32 (-1 : Int32) (0 : Int64) rf _ _ (by decide) (by decide) hrf (by rw [nI_31]; rw [fX2_traceBack]) hP hD hS _ (by rw [nI_31]; exact lv_sub hl [0, 1, 2, 3] rfl)
def fX2_go_L29 (df : Nat → UInt64) (kf : Nat → Int32) (rf : Nat → Int32) (uf : Nat → Int64) (st : Int32) (fw : Int32) (fo : Int32) (sn : Nat) (me : UInt64) (vf : Nat → UInt64) (lf : Nat → Int32) (sp : UInt64) (sb : UInt64) (no : UInt64)  (p1 : Int32) (p2 : Int32) (p3 : Int32) : Nat → (Int32) → (Nat → Int32) → (Nat → Int64) → Int32 × (Nat → Int32) × (Nat → Int32) × (Nat → Int64) × Int32 × Int32 × Int32
  | 0, v_j, v_ww, v_uu => (0, v_ww, rf, v_uu, st, fw, fo)
  | k + 1, v_j, v_ww, v_uu => if (32 : Int32) ≤ v_j then (((fX2_traceBack df (v_ww) rf (v_uu) p3 sn me).1).toInt32, v_ww, (fX2_traceBack df (v_ww) rf (v_uu) p3 sn me).2, v_uu, p3, p1, (1 : Int32)) else (if p2 ≤ v_j then (if ((upd (v_ww) (v_j).toNatClampNeg (vp_nar .boolean (0 : Int32))) (v_j).toNatClampNeg) = 0 then (fX2_go_L29 df kf rf uf st fw fo sn me vf lf sp sb no p1 p2 p3 k ((v_j) + 1) (upd (v_ww) (v_j).toNatClampNeg (vp_nar .boolean (0 : Int32))) (v_uu)) else ((fX2_go_L29 df kf rf uf st fw fo sn me vf lf sp sb no p1 p2 p3 k ((v_j) + 1) (upd (v_ww) (v_j).toNatClampNeg (vp_nar .boolean (0 : Int32))) (fX2_sumUp df (v_uu) p3 p1 sn me vf lf sp sb no (v_j) (fX2_neighbour (upd (v_ww) (v_j).toNatClampNeg (vp_nar .boolean (0 : Int32))) (v_j) (-1 : Int32)))))) else (if (fX2_isForWalk df sn vf lf p1 (v_j)) = 0 then (if ((upd (v_ww) (v_j).toNatClampNeg (vp_nar .boolean (0 : Int32))) (v_j).toNatClampNeg) = 0 then (fX2_go_L29 df kf rf uf st fw fo sn me vf lf sp sb no p1 p2 p3 k ((v_j) + 1) (upd (v_ww) (v_j).toNatClampNeg (vp_nar .boolean (0 : Int32))) (v_uu)) else ((fX2_go_L29 df kf rf uf st fw fo sn me vf lf sp sb no p1 p2 p3 k ((v_j) + 1) (upd (v_ww) (v_j).toNatClampNeg (vp_nar .boolean (0 : Int32))) (fX2_sumUp df (v_uu) p3 p1 sn me vf lf sp sb no (v_j) (fX2_neighbour (upd (v_ww) (v_j).toNatClampNeg (vp_nar .boolean (0 : Int32))) (v_j) (-1 : Int32)))))) else (if ((upd (v_ww) (v_j).toNatClampNeg (vp_nar .boolean (1 : Int32))) (v_j).toNatClampNeg) = 0 then (fX2_go_L29 df kf rf uf st fw fo sn me vf lf sp sb no p1 p2 p3 k ((v_j) + 1) (upd (v_ww) (v_j).toNatClampNeg (vp_nar .boolean (1 : Int32))) (v_uu)) else ((fX2_go_L29 df kf rf uf st fw fo sn me vf lf sp sb no p1 p2 p3 k ((v_j) + 1) (upd (v_ww) (v_j).toNatClampNeg (vp_nar .boolean (1 : Int32))) (fX2_sumUp df (v_uu) p3 p1 sn me vf lf sp sb no (v_j) (fX2_neighbour (upd (v_ww) (v_j).toNatClampNeg (vp_nar .boolean (1 : Int32))) (v_j) (-1 : Int32))))))))
def fX2_go (df : Nat → UInt64) (kf : Nat → Int32) (rf : Nat → Int32) (uf : Nat → Int64) (st : Int32) (fw : Int32) (fo : Int32) (sn : Nat) (me : UInt64) (vf : Nat → UInt64) (lf : Nat → Int32) (sp : UInt64) (sb : UInt64) (no : UInt64) (p1 : Int32) (p2 : Int32) (p3 : Int32) : Int32 × (Nat → Int32) × (Nat → Int32) × (Nat → Int64) × Int32 × Int32 × Int32 := if (fX2_hasPing df sn vf lf p1 p2) = 0 then ((-1 : Int32), kf, rf, uf, st, fw, fo) else ((fX2_go_L29 df kf rf uf st fw fo sn me vf lf sp sb no p1 p2 p3 33 (0 : Int32) kf uf))
set_option maxHeartbeats 4000000 in
set_option maxRecDepth 100000 in
theorem c_X2_go {l : Launch} {D : va_G} {cyD cyI cyJ cyZ : ClassId} (aw ad ak ar au ae av ab : Nat) (df : Nat → UInt64) (kf : Nat → Int32) (rf : Nat → Int32) (uf : Nat → Int64) (st : Int32) (fw : Int32) (fo : Int32) (sn : Nat) (me : UInt64) (vf : Nat → UInt64) (lf : Nat → Int32) (sp : UInt64) (sb : UInt64) (no : UInt64) (sz : Nat) (p1 : Int32) (p2 : Int32) (p3 : Int32) (hE : okE sn me vf sp sb no) (q : Nat) (hp2 : p2 = nI q) (hq : q ≤ 32) (S : Nat) (hS3 : p3 = nI S) (hS64 : S ≤ 64) (hrf : okR rf) : mI l yX2_go wsX2_go ({ frames := 5, cells := 0, slots := 0, locals := 122 } : Room) D (kT cyD cyI cyJ cyZ) [.ref aw, .int p1, .int p2, .int p3] (wW cyD cyI cyJ cyZ aw ad ak ar au ae av ab df kf rf uf st fw fo sn me vf lf sp sb no) (wW cyD cyI cyJ cyZ aw ad ak ar au ae av ab df ((fX2_go df kf rf uf st fw fo sn me vf lf sp sb no p1 p2 p3).2.1) ((fX2_go df kf rf uf st fw fo sn me vf lf sp sb no p1 p2 p3).2.2.1) ((fX2_go df kf rf uf st fw fo sn me vf lf sp sb no p1 p2 p3).2.2.2.1) ((fX2_go df kf rf uf st fw fo sn me vf lf sp sb no p1 p2 p3).2.2.2.2.1) ((fX2_go df kf rf uf st fw fo sn me vf lf sp sb no p1 p2 p3).2.2.2.2.2.1) ((fX2_go df kf rf uf st fw fo sn me vf lf sp sb no p1 p2 p3).2.2.2.2.2.2) sn me vf lf sp sb no) sz ((fX2_go df kf rf uf st fw fo sn me vf lf sp sb no p1 p2 p3).1) 0 0 := by
  refine Met.ofW (cc := cX2_go) (maxL := 5) (ret := (some .int)) (by decide) rfl ?_
  intro p e s m args below meth c s₁ B hml hv
  obtain ⟨rfl, hN, hsz, hP, hK, hD0⟩ := hv
  have hx := B.exec
  have hb := B.bytes
  have hr := B.returns
  have hts := atoms_spec (ws := wsX2_go) B.pre
  have hown : s.vm.findClass RX2 = some m.cls := findClass_of_methodNamed B.named
  have hlocks := B.notSynchronized
  subst hsz
  have hD := hD0.self (sz := s.heap.size)
  generalize hAe : va_A (wW cyD cyI cyJ cyZ aw ad ak ar au ae av ab df kf rf uf st fw fo sn me vf lf sp sb no) s.heap.size = A at hD ⊢
  have hA : ∀ q : Nat, s.heap.size ≤ q → A q := fun q h => by rw [← hAe]; exact Or.inr h
  have hS : va_S A s.heap s.heap [] := va_S.rf
  have hP : va_P D vwCl (wW cyD cyI cyJ cyZ aw ad ak ar au ae av ab df kf rf uf st fw fo sn me vf lf sp sb no) s.heap := hP
  have hl := lv_entry [.ref aw, .int p1, .int p2, .int p3] (n := 5) (Nat.le_of_ble_eq_true rfl)
  rw [lg_entry_eq]
  generalize (lg_sl [.ref aw, .int p1, .int p2, .int p3] ++ List.replicate (5 - (lg_sl [.ref aw, .int p1, .int p2, .int p3]).length) Slot.unset).toArray = ls at hl ⊢
  have hl : lv_has ls 5 [(0, .ref aw), (1, .int p1), (2, .int p2), (3, .int p3)] := hl
  obtain ⟨H, hHe⟩ : ∃ H : Heap, H = s.heap := ⟨_, rfl⟩
  have hP : va_P D vwCl (wW cyD cyI cyJ cyZ aw ad ak ar au ae av ab df kf rf uf st fw fo sn me vf lf sp sb no) H := by rw [hHe]; exact hP
  have hS : va_S A s.heap H [] := by rw [hHe]; exact hS
  rw [← hHe]
  refine lv_aload_n hx hb dX2_go_0 rfl (lv_at hl 0 rfl) ?_
  refine lv_iload_n hx hb dX2_go_1 rfl (lv_at hl 1 rfl) ?_
  refine lv_iload_n hx hb dX2_go_2 rfl (lv_at hl 2 rfl) ?_
  have hPc : va_P D vwCl (wW cyD cyI cyJ cyZ aw ad ak ar au ae av ab df kf rf uf st fw fo sn me vf lf sp sb no) H := hP.sub [0, 1, 2, 3, 4, 5, 6, 7] rfl
  have hDc : va_D A (wW cyD cyI cyJ cyZ aw ad ak ar au ae av ab df kf rf uf st fw fo sn me vf lf sp sb no) := hD.sub [0, 1, 2, 3, 4, 5, 6, 7] (by decide) rfl
  refine kzE (ws' := (wW cyD cyI cyJ cyZ aw ad ak ar au ae av ab df kf rf uf st fw fo sn me vf lf sp sb no)) (wc := (wW cyD cyI cyJ cyZ aw ad ak ar au ae av ab df kf rf uf st fw fo sn me vf lf sp sb no)) (wr := []) (w1 := (wW cyD cyI cyJ cyZ aw ad ak ar au ae av ab df kf rf uf st fw fo sn me vf lf sp sb no)) (va_runV (As := [.int p1, .int p2]) (rest := []) ⟨hx, hb, hml, hown, hts⟩ (c_X2_hasPing (l := l) (D := D) (cyD := cyD) (cyI := cyI) (cyJ := cyJ) (cyZ := cyZ) aw ad ak ar au ae av ab df kf rf uf st fw fo sn me vf lf sp sb no H.size p1 p2 hE q hp2 hq) (cwV 2 hts gX2_go_X2_hasPing rfl rfl rfl (by decide +kernel) ⟨Nat.le_of_ble_eq_true rfl, Nat.le_of_ble_eq_true rfl⟩) (kV (ci := 2) (q0 := 0) (q := (RX2, TX2, 8)) hN hK hPc hDc rfl rfl rfl) rfl rfl hl.1 rfl (lv_room (Nat.le_of_ble_eq_true rfl)) dX2_go_3 ⟨Nat.le_of_ble_eq_true rfl, Nat.le_of_ble_eq_true rfl⟩) hP hD hS hA [0, 1, 2, 3, 4, 5, 6, 7] [] [0, 1, 2, 3, 4, 5, 6, 7] rfl rfl (by decide) (by decide) rfl (by decide) (fun H locs hz_3 hP hD hS => ?_)
  refine lv_if_ne (tgt := 11) hx hb dX2_go_6 (by decide) (fun c_6 => ?_) (fun c_6 => ?_)
  · refine lv_aload_n hx hb dX2_go_11 rfl (lv_at hl 0 rfl) ?_
    refine lv_iload_n hx hb dX2_go_12 rfl (lv_at hl 1 rfl) ?_
    refine va_put (D := D) (ci := 2) (v := .int p1) (ty := .int) (C := RX2) (T := TX2) (N := 8) hx hb hts (fun _ h => (List.mem_cons_of_mem _ (List.mem_append_left _ (List.mem_append_right _ h)))) tyX2 tyX2_ok nmX2 hown hK hP hD hS 0 rfl rfl 6 (by decide) (hts (.fieldLink RX2 27 "BottomWalks$Walk" "frequencyWalked" "I") (List.mem_of_getElem? (i := 1) rfl)) (fun _ h9 => h9) rfl (by decide +kernel) rfl rfl (Nat.le_of_ble_eq_true rfl) dX2_go_13 (fun H locs hP hD hS => ?_)
    have hP : va_P D vwCl (wW cyD cyI cyJ cyZ aw ad ak ar au ae av ab df kf rf uf st p1 fo sn me vf lf sp sb no) H := hP
    have hD : va_D A (wW cyD cyI cyJ cyZ aw ad ak ar au ae av ab df kf rf uf st p1 fo sn me vf lf sp sb no) := hD
    refine lv_aload_n hx hb dX2_go_16 rfl (lv_at hl 0 rfl) ?_
    refine lv_iload_n hx hb dX2_go_17 rfl (lv_at hl 3 rfl) ?_
    refine va_put (D := D) (ci := 2) (v := .int p3) (ty := .int) (C := RX2) (T := TX2) (N := 8) hx hb hts (fun _ h => (List.mem_cons_of_mem _ (List.mem_append_left _ (List.mem_append_right _ h)))) tyX2 tyX2_ok nmX2 hown hK hP hD hS 0 rfl rfl 5 (by decide) (hts (.fieldLink RX2 23 "BottomWalks$Walk" "steepness" "I") (List.mem_of_getElem? (i := 2) rfl)) (fun _ h9 => h9) rfl (by decide +kernel) rfl rfl (Nat.le_of_ble_eq_true rfl) dX2_go_18 (fun H locs hP hD hS => ?_)
    have hP : va_P D vwCl (wW cyD cyI cyJ cyZ aw ad ak ar au ae av ab df kf rf uf p3 p1 fo sn me vf lf sp sb no) H := hP
    have hD : va_D A (wW cyD cyI cyJ cyZ aw ad ak ar au ae av ab df kf rf uf p3 p1 fo sn me vf lf sp sb no) := hD
    refine lv_aload_n hx hb dX2_go_21 rfl (lv_at hl 0 rfl) ?_
    refine lv_iconst (v := 1) hx hb dX2_go_22 (by decide) ?_
    refine va_put (D := D) (ci := 2) (v := .int (1 : Int32)) (ty := .boolean) (C := RX2) (T := TX2) (N := 8) hx hb hts (fun _ h => (List.mem_cons_of_mem _ (List.mem_append_left _ (List.mem_append_right _ h)))) tyX2 tyX2_ok nmX2 hown hK hP hD hS 0 rfl rfl 7 (by decide) (hts (.fieldLink RX2 30 "BottomWalks$Walk" "found" "Z") (List.mem_of_getElem? (i := 3) rfl)) (fun _ h9 => h9) rfl (by decide +kernel) (nar_z (Or.inr rfl)) rfl (Nat.le_of_ble_eq_true rfl) dX2_go_23 (fun H locs hP hD hS => ?_)
    have hP : va_P D vwCl (wW cyD cyI cyJ cyZ aw ad ak ar au ae av ab df kf rf uf p3 p1 (1 : Int32) sn me vf lf sp sb no) H := hP
    have hD : va_D A (wW cyD cyI cyJ cyZ aw ad ak ar au ae av ab df kf rf uf p3 p1 (1 : Int32) sn me vf lf sp sb no) := hD
    refine lv_iconst (v := 0) hx hb dX2_go_26 (by decide) ?_
    refine lv_istore (lv' := [(4, .int (0 : Int32)), (0, .ref aw), (1, .int p1), (2, .int p2), (3, .int p3)]) hx hb dX2_go_27 hl (by decide) rfl (fun ls hl => ?_)
    have loop_29 : ∀ (k : Nat) (j : Nat) (ww : Nat → Int32) (uu : Nat → Int64) (H : Heap) (locs : List Loc), (j + k = 33) → (j ≤ 32) → (fX2_go df kf rf uf st fw fo sn me vf lf sp sb no p1 p2 p3) = fX2_go_L29 df kf rf uf st fw fo sn me vf lf sp sb no p1 p2 p3 k ((nI j)) (ww) (uu) → va_P D vwCl (wW cyD cyI cyJ cyZ aw ad ak ar au ae av ab df (ww) rf (uu) p3 p1 (1 : Int32) sn me vf lf sp sb no) H → va_D A (wW cyD cyI cyJ cyZ aw ad ak ar au ae av ab df (ww) rf (uu) p3 p1 (1 : Int32) sn me vf lf sp sb no) → va_S A s.heap H locs → ∀ ls, lv_has ls 5 [(4, .int ((nI j))), (0, .ref aw), (1, .int p1), (2, .int p2), (3, .int p3)] → W p l e (headSpec wsX2_go ({ frames := 5, cells := 0, slots := 0, locals := 122 } : Room)).room s m ([.ref aw, .int p1, .int p2, .int p3] : List Value).toArray below meth c H locs 0 0 (MQ below (va_Qi (fun (r : Int32) (_ : Unit) => r = (fX2_go df kf rf uf st fw fo sn me vf lf sp sb no p1 p2 p3).1) (kE D (kT cyD cyI cyJ cyZ) (wW cyD cyI cyJ cyZ aw ad ak ar au ae av ab df ((fX2_go df kf rf uf st fw fo sn me vf lf sp sb no p1 p2 p3).2.1) ((fX2_go df kf rf uf st fw fo sn me vf lf sp sb no p1 p2 p3).2.2.1) ((fX2_go df kf rf uf st fw fo sn me vf lf sp sb no p1 p2 p3).2.2.2.1) ((fX2_go df kf rf uf st fw fo sn me vf lf sp sb no p1 p2 p3).2.2.2.2.1) ((fX2_go df kf rf uf st fw fo sn me vf lf sp sb no p1 p2 p3).2.2.2.2.2.1) ((fX2_go df kf rf uf st fw fo sn me vf lf sp sb no p1 p2 p3).2.2.2.2.2.2) sn me vf lf sp sb no) A) A) ([.ref aw, .int p1, .int p2, .int p3] : List Value).toArray s 0 0 A) (F0 m 29 ls []) := by
      intro k
      induction k with
      | zero => intro j ww uu H locs hj hj2 hF hP hD hS ls hl; exact absurd hj2 (by omega)
      | succ k ih =>
        intro j ww uu H locs hj hj2 hF hP hD hS ls hl
        refine lv_iload hx hb dX2_go_29 (lv_at hl 0 rfl) ?_
        refine lv_bipush (v := 32) hx hb dX2_go_31 (by decide) ?_
        refine lv_icmp_ge (tgt := 93) hx hb dX2_go_33 (by decide) (fun c_33 => ?_) (fun c_33 => ?_)
        · refine lv_aload_n hx hb dX2_go_93 rfl (lv_at hl 1 rfl) ?_
          have hPc : va_P D vwCl (wW cyD cyI cyJ cyZ aw ad ak ar au ae av ab df (ww) rf (uu) p3 p1 (1 : Int32) sn me vf lf sp sb no) H := hP.sub [0, 1, 2, 3, 4, 5, 6, 7] rfl
          have hDc : va_D A (wW cyD cyI cyJ cyZ aw ad ak ar au ae av ab df (ww) rf (uu) p3 p1 (1 : Int32) sn me vf lf sp sb no) := hD.sub [0, 1, 2, 3, 4, 5, 6, 7] (by decide) rfl
          refine klE (ws' := (wW cyD cyI cyJ cyZ aw ad ak ar au ae av ab df (ww) ((fX2_traceBack df (ww) rf (uu) p3 sn me).2) (uu) p3 p1 (1 : Int32) sn me vf lf sp sb no)) (wc := (wW cyD cyI cyJ cyZ aw ad ak ar au ae av ab df (ww) rf (uu) p3 p1 (1 : Int32) sn me vf lf sp sb no)) (wr := []) (w1 := (wW cyD cyI cyJ cyZ aw ad ak ar au ae av ab df (ww) ((fX2_traceBack df (ww) rf (uu) p3 sn me).2) (uu) p3 p1 (1 : Int32) sn me vf lf sp sb no)) (va_runV (As := []) (rest := []) ⟨hx, hb, hml, hown, hts⟩ (c_X2_traceBack (l := l) (D := D) (cyD := cyD) (cyI := cyI) (cyJ := cyJ) (cyZ := cyZ) aw ad ak ar au ae av ab df (ww) rf (uu) p3 p1 (1 : Int32) sn me vf lf sp sb no H.size hE S hS3 hS64 hrf) (cwV 0 hts gX2_go_X2_traceBack rfl rfl rfl (by decide +kernel) ⟨Nat.le_of_ble_eq_true rfl, Nat.le_of_ble_eq_true rfl⟩) (kV (ci := 2) (q0 := 0) (q := (RX2, TX2, 8)) hN hK hPc hDc rfl rfl rfl) rfl rfl hl.1 rfl (lv_room (Nat.le_of_ble_eq_true rfl)) dX2_go_94 ⟨Nat.le_of_ble_eq_true rfl, Nat.le_of_ble_eq_true rfl⟩) hP hD hS hA [0, 1, 2, 3, 4, 5, 6, 7] [] [0, 1, 2, 3, 4, 5, 6, 7] rfl rfl (by decide) (by decide) rfl (by decide) (fun H locs hP hD hS => ?_)
          refine lv_l2i (v := ((fX2_traceBack df (ww) rf (uu) p3 sn me).1).toInt32) hx hb dX2_go_97 rfl ?_
          have hF9 : (fX2_go df kf rf uf st fw fo sn me vf lf sp sb no p1 p2 p3) = (((fX2_traceBack df (ww) rf (uu) p3 sn me).1).toInt32, ww, (fX2_traceBack df (ww) rf (uu) p3 sn me).2, uu, p3, p1, (1 : Int32)) := by rw [hF, fX2_go_L29, if_pos c_33]
          have hP9 : va_P D vwCl (wW cyD cyI cyJ cyZ aw ad ak ar au ae av ab df ((fX2_go df kf rf uf st fw fo sn me vf lf sp sb no p1 p2 p3).2.1) ((fX2_go df kf rf uf st fw fo sn me vf lf sp sb no p1 p2 p3).2.2.1) ((fX2_go df kf rf uf st fw fo sn me vf lf sp sb no p1 p2 p3).2.2.2.1) ((fX2_go df kf rf uf st fw fo sn me vf lf sp sb no p1 p2 p3).2.2.2.2.1) ((fX2_go df kf rf uf st fw fo sn me vf lf sp sb no p1 p2 p3).2.2.2.2.2.1) ((fX2_go df kf rf uf st fw fo sn me vf lf sp sb no p1 p2 p3).2.2.2.2.2.2) sn me vf lf sp sb no) H := by rw [hF9]; exact hP
          have hD9 : va_D A (wW cyD cyI cyJ cyZ aw ad ak ar au ae av ab df ((fX2_go df kf rf uf st fw fo sn me vf lf sp sb no p1 p2 p3).2.1) ((fX2_go df kf rf uf st fw fo sn me vf lf sp sb no p1 p2 p3).2.2.1) ((fX2_go df kf rf uf st fw fo sn me vf lf sp sb no p1 p2 p3).2.2.2.1) ((fX2_go df kf rf uf st fw fo sn me vf lf sp sb no p1 p2 p3).2.2.2.2.1) ((fX2_go df kf rf uf st fw fo sn me vf lf sp sb no p1 p2 p3).2.2.2.2.2.1) ((fX2_go df kf rf uf st fw fo sn me vf lf sp sb no p1 p2 p3).2.2.2.2.2.2) sn me vf lf sp sb no) := by rw [hF9]; exact hD
          exact W.iret (v := ((fX2_traceBack df (ww) rf (uu) p3 sn me).1).toInt32) hx hb hr (fun t ht hW => ⟨⟨((fX2_traceBack df (ww) rf (uu) p3 sn me).1).toInt32, (), rfl, (by rw [hF9]), by rw [ht]; exact hP9, va_K.moved hW.alike hK, hD9⟩, hS.F ht⟩) hS.2.2 dX2_go_98
        refine lv_aload_n hx hb dX2_go_36 rfl (lv_at hl 1 rfl) ?_
        refine va_get (D := D) (ci := 2) (v := .ref ak) (C := RX2) (T := TX2) (N := 8) hx hb hts (fun _ h => (List.mem_cons_of_mem _ (List.mem_append_left _ (List.mem_append_right _ h)))) hown hK hP 0 rfl rfl 2 (by decide) (hts (.fieldLink RX2 15 "BottomWalks$Walk" "walked" "[Z") (List.mem_of_getElem? (i := 4) rfl)) (fun _ h9 => h9) rfl dX2_go_37 ?_
        refine lv_iload hx hb dX2_go_40 (lv_at hl 0 rfl) ?_
        refine lv_iload hx hb dX2_go_42 (lv_at hl 0 rfl) ?_
        refine lv_iload_n hx hb dX2_go_44 rfl (lv_at hl 3 rfl) ?_
        refine lv_icmp_ge (tgt := 62) hx hb dX2_go_45 (by decide) (fun c_45 => ?_) (fun c_45 => ?_)
        · refine lv_iconst (v := 0) hx hb dX2_go_62 (by decide) ?_
          refine va_zast hx hb hK hP hD hS 2 3 rfl rfl (vp_in_nI (by have := Nat.lt_of_not_le (fun z => c_33 (nI_le (a := 32) z (by omega))); omega) (by decide)) dX2_go_63 (fun H locs hP hD hS => ?_)
          have hP : va_P D vwCl (wW cyD cyI cyJ cyZ aw ad ak ar au ae av ab df (upd (ww) ((nI j)).toNatClampNeg (vp_nar .boolean (0 : Int32))) rf (uu) p3 p1 (1 : Int32) sn me vf lf sp sb no) H := hP
          have hD : va_D A (wW cyD cyI cyJ cyZ aw ad ak ar au ae av ab df (upd (ww) ((nI j)).toNatClampNeg (vp_nar .boolean (0 : Int32))) rf (uu) p3 p1 (1 : Int32) sn me vf lf sp sb no) := hD
          refine lv_aload_n hx hb dX2_go_64 rfl (lv_at hl 1 rfl) ?_
          refine va_get (D := D) (ci := 2) (v := .ref ak) (C := RX2) (T := TX2) (N := 8) hx hb hts (fun _ h => (List.mem_cons_of_mem _ (List.mem_append_left _ (List.mem_append_right _ h)))) hown hK hP 0 rfl rfl 2 (by decide) (hts (.fieldLink RX2 15 "BottomWalks$Walk" "walked" "[Z") (List.mem_of_getElem? (i := 4) rfl)) (fun _ h9 => h9) rfl dX2_go_65 ?_
          refine lv_iload hx hb dX2_go_68 (lv_at hl 0 rfl) ?_
          refine va_zald hx hb hK hP 2 3 rfl rfl (vp_in_nI (by have := Nat.lt_of_not_le (fun z => c_33 (nI_le (a := 32) z (by omega))); omega) (by decide)) dX2_go_70 ?_
          refine lv_if_eq (tgt := 87) hx hb dX2_go_71 (by decide) (fun c_71 => ?_) (fun c_71 => ?_)
          · refine lv_iinc (v := (((nI j)) + 1)) (lv' := [(4, .int (((nI j)) + 1)), (0, .ref aw), (1, .int p1), (2, .int p2), (3, .int p3)]) hx hb dX2_go_87 hl (k := 0) rfl rfl (by decide) rfl (fun ls hl => ?_)
            refine lv_goto (tgt := 29) hx hb dX2_go_90 (by decide) ?_
            exact ih (j + 1) (upd (ww) ((nI j)).toNatClampNeg (vp_nar .boolean (0 : Int32))) (uu) _ _ (by omega) (by have := Nat.lt_of_not_le (fun z => c_33 (nI_le (a := 32) z (by omega))); omega) (by rw [← nI_1 j]; rw [hF, fX2_go_L29, if_neg c_33, if_pos c_45, if_pos c_71]) hP hD hS _ (by rw [← nI_1 j]; exact lv_sub hl [0, 1, 2, 3, 4] rfl)
          refine lv_aload_n hx hb dX2_go_74 rfl (lv_at hl 1 rfl) ?_
          refine lv_iload hx hb dX2_go_75 (lv_at hl 0 rfl) ?_
          refine lv_aload_n hx hb dX2_go_77 rfl (lv_at hl 1 rfl) ?_
          refine lv_iload hx hb dX2_go_78 (lv_at hl 0 rfl) ?_
          refine lv_iconst (v := (-1)) hx hb dX2_go_80 (by decide) ?_
          have hPc : va_P D vwCl (wW cyD cyI cyJ cyZ aw ad ak ar au ae av ab df (upd (ww) ((nI j)).toNatClampNeg (vp_nar .boolean (0 : Int32))) rf (uu) p3 p1 (1 : Int32) sn me vf lf sp sb no) H := hP.sub [0, 1, 2, 3, 4, 5, 6, 7] rfl
          have hDc : va_D A (wW cyD cyI cyJ cyZ aw ad ak ar au ae av ab df (upd (ww) ((nI j)).toNatClampNeg (vp_nar .boolean (0 : Int32))) rf (uu) p3 p1 (1 : Int32) sn me vf lf sp sb no) := hD.sub [0, 1, 2, 3, 4, 5, 6, 7] (by decide) rfl
          refine kiE (ws' := (wW cyD cyI cyJ cyZ aw ad ak ar au ae av ab df (upd (ww) ((nI j)).toNatClampNeg (vp_nar .boolean (0 : Int32))) rf (uu) p3 p1 (1 : Int32) sn me vf lf sp sb no)) (wc := (wW cyD cyI cyJ cyZ aw ad ak ar au ae av ab df (upd (ww) ((nI j)).toNatClampNeg (vp_nar .boolean (0 : Int32))) rf (uu) p3 p1 (1 : Int32) sn me vf lf sp sb no)) (wr := []) (w1 := (wW cyD cyI cyJ cyZ aw ad ak ar au ae av ab df (upd (ww) ((nI j)).toNatClampNeg (vp_nar .boolean (0 : Int32))) rf (uu) p3 p1 (1 : Int32) sn me vf lf sp sb no)) (va_runV (As := [.int ((nI j)), .int (-1 : Int32)]) (rest := [.int ((nI j)), .ref aw]) ⟨hx, hb, hml, hown, hts⟩ (c_X2_neighbour (l := l) (D := D) (cyD := cyD) (cyI := cyI) (cyJ := cyJ) (cyZ := cyZ) aw ad ak ar au ae av ab df (upd (ww) ((nI j)).toNatClampNeg (vp_nar .boolean (0 : Int32))) rf (uu) p3 p1 (1 : Int32) sn me vf lf sp sb no H.size ((nI j)) (-1 : Int32)) (cwV 2 hts gX2_go_X2_neighbour rfl rfl rfl (by decide +kernel) ⟨Nat.le_of_ble_eq_true rfl, Nat.le_of_ble_eq_true rfl⟩) (kV (ci := 2) (q0 := 0) (q := (RX2, TX2, 8)) hN hK hPc hDc rfl rfl rfl) rfl rfl hl.1 rfl (lv_room (Nat.le_of_ble_eq_true rfl)) dX2_go_81 ⟨Nat.le_of_ble_eq_true rfl, Nat.le_of_ble_eq_true rfl⟩) hP hD hS hA [0, 1, 2, 3, 4, 5, 6, 7] [] [0, 1, 2, 3, 4, 5, 6, 7] rfl rfl (by decide) (by decide) rfl (by decide) (fun H locs hP hD hS => ?_)
          have hPc : va_P D vwCl (wW cyD cyI cyJ cyZ aw ad ak ar au ae av ab df (upd (ww) ((nI j)).toNatClampNeg (vp_nar .boolean (0 : Int32))) rf (uu) p3 p1 (1 : Int32) sn me vf lf sp sb no) H := hP.sub [0, 1, 2, 3, 4, 5, 6, 7] rfl
          have hDc : va_D A (wW cyD cyI cyJ cyZ aw ad ak ar au ae av ab df (upd (ww) ((nI j)).toNatClampNeg (vp_nar .boolean (0 : Int32))) rf (uu) p3 p1 (1 : Int32) sn me vf lf sp sb no) := hD.sub [0, 1, 2, 3, 4, 5, 6, 7] (by decide) rfl
          refine kv (ws' := (wW cyD cyI cyJ cyZ aw ad ak ar au ae av ab df (upd (ww) ((nI j)).toNatClampNeg (vp_nar .boolean (0 : Int32))) rf (fX2_sumUp df (uu) p3 p1 sn me vf lf sp sb no ((nI j)) (fX2_neighbour (upd (ww) ((nI j)).toNatClampNeg (vp_nar .boolean (0 : Int32))) ((nI j)) (-1 : Int32))) p3 p1 (1 : Int32) sn me vf lf sp sb no)) (wc := (wW cyD cyI cyJ cyZ aw ad ak ar au ae av ab df (upd (ww) ((nI j)).toNatClampNeg (vp_nar .boolean (0 : Int32))) rf (uu) p3 p1 (1 : Int32) sn me vf lf sp sb no)) (wr := []) (w1 := (wW cyD cyI cyJ cyZ aw ad ak ar au ae av ab df (upd (ww) ((nI j)).toNatClampNeg (vp_nar .boolean (0 : Int32))) rf (fX2_sumUp df (uu) p3 p1 sn me vf lf sp sb no ((nI j)) (fX2_neighbour (upd (ww) ((nI j)).toNatClampNeg (vp_nar .boolean (0 : Int32))) ((nI j)) (-1 : Int32))) p3 p1 (1 : Int32) sn me vf lf sp sb no)) (va_runV (As := [.int ((nI j)), .int (fX2_neighbour (upd (ww) ((nI j)).toNatClampNeg (vp_nar .boolean (0 : Int32))) ((nI j)) (-1 : Int32))]) (rest := []) ⟨hx, hb, hml, hown, hts⟩ (c_X2_sumUp (l := l) (D := D) (cyD := cyD) (cyI := cyI) (cyJ := cyJ) (cyZ := cyZ) aw ad ak ar au ae av ab df (upd (ww) ((nI j)).toNatClampNeg (vp_nar .boolean (0 : Int32))) rf (uu) p3 p1 (1 : Int32) sn me vf lf sp sb no H.size ((nI j)) (fX2_neighbour (upd (ww) ((nI j)).toNatClampNeg (vp_nar .boolean (0 : Int32))) ((nI j)) (-1 : Int32)) hE S hS3 hS64 j rfl (by have := Nat.lt_of_not_le (fun z => c_33 (nI_le (a := 32) z (by omega))); omega)) (cwV 2 hts gX2_go_X2_sumUp rfl rfl rfl (by decide +kernel) ⟨Nat.le_of_ble_eq_true rfl, Nat.le_of_ble_eq_true rfl⟩) (kV (ci := 2) (q0 := 0) (q := (RX2, TX2, 8)) hN hK hPc hDc rfl rfl rfl) rfl rfl hl.1 rfl (lv_room (Nat.le_of_ble_eq_true rfl)) dX2_go_84 ⟨Nat.le_of_ble_eq_true rfl, Nat.le_of_ble_eq_true rfl⟩) hP hD hS hA [0, 1, 2, 3, 4, 5, 6, 7] [] [0, 1, 2, 3, 4, 5, 6, 7] rfl rfl (by decide) (by decide) rfl (by decide) (fun H locs hP hD hS => ?_)
          refine lv_iinc (v := (((nI j)) + 1)) (lv' := [(4, .int (((nI j)) + 1)), (0, .ref aw), (1, .int p1), (2, .int p2), (3, .int p3)]) hx hb dX2_go_87 hl (k := 0) rfl rfl (by decide) rfl (fun ls hl => ?_)
          refine lv_goto (tgt := 29) hx hb dX2_go_90 (by decide) ?_
          exact ih (j + 1) (upd (ww) ((nI j)).toNatClampNeg (vp_nar .boolean (0 : Int32))) (fX2_sumUp df (uu) p3 p1 sn me vf lf sp sb no ((nI j)) (fX2_neighbour (upd (ww) ((nI j)).toNatClampNeg (vp_nar .boolean (0 : Int32))) ((nI j)) (-1 : Int32))) _ _ (by omega) (by have := Nat.lt_of_not_le (fun z => c_33 (nI_le (a := 32) z (by omega))); omega) (by rw [← nI_1 j]; rw [hF, fX2_go_L29, if_neg c_33, if_pos c_45, if_neg c_71]) hP hD hS _ (by rw [← nI_1 j]; exact lv_sub hl [0, 1, 2, 3, 4] rfl)
        refine lv_aload_n hx hb dX2_go_48 rfl (lv_at hl 1 rfl) ?_
        refine lv_iload_n hx hb dX2_go_49 rfl (lv_at hl 2 rfl) ?_
        refine lv_iload hx hb dX2_go_50 (lv_at hl 0 rfl) ?_
        have hPc : va_P D vwCl (wW cyD cyI cyJ cyZ aw ad ak ar au ae av ab df (ww) rf (uu) p3 p1 (1 : Int32) sn me vf lf sp sb no) H := hP.sub [0, 1, 2, 3, 4, 5, 6, 7] rfl
        have hDc : va_D A (wW cyD cyI cyJ cyZ aw ad ak ar au ae av ab df (ww) rf (uu) p3 p1 (1 : Int32) sn me vf lf sp sb no) := hD.sub [0, 1, 2, 3, 4, 5, 6, 7] (by decide) rfl
        refine kzE (ws' := (wW cyD cyI cyJ cyZ aw ad ak ar au ae av ab df (ww) rf (uu) p3 p1 (1 : Int32) sn me vf lf sp sb no)) (wc := (wW cyD cyI cyJ cyZ aw ad ak ar au ae av ab df (ww) rf (uu) p3 p1 (1 : Int32) sn me vf lf sp sb no)) (wr := []) (w1 := (wW cyD cyI cyJ cyZ aw ad ak ar au ae av ab df (ww) rf (uu) p3 p1 (1 : Int32) sn me vf lf sp sb no)) (va_runV (As := [.int p1, .int ((nI j))]) (rest := [.int ((nI j)), .ref ak]) ⟨hx, hb, hml, hown, hts⟩ (c_X2_isForWalk (l := l) (D := D) (cyD := cyD) (cyI := cyI) (cyJ := cyJ) (cyZ := cyZ) aw ad ak ar au ae av ab df (ww) rf (uu) p3 p1 (1 : Int32) sn me vf lf sp sb no H.size p1 ((nI j)) hE) (cwV 2 hts gX2_go_X2_isForWalk rfl rfl rfl (by decide +kernel) ⟨Nat.le_of_ble_eq_true rfl, Nat.le_of_ble_eq_true rfl⟩) (kV (ci := 2) (q0 := 0) (q := (RX2, TX2, 8)) hN hK hPc hDc rfl rfl rfl) rfl rfl hl.1 rfl (lv_room (Nat.le_of_ble_eq_true rfl)) dX2_go_52 ⟨Nat.le_of_ble_eq_true rfl, Nat.le_of_ble_eq_true rfl⟩) hP hD hS hA [0, 1, 2, 3, 4, 5, 6, 7] [] [0, 1, 2, 3, 4, 5, 6, 7] rfl rfl (by decide) (by decide) rfl (by decide) (fun H locs hz_52 hP hD hS => ?_)
        refine lv_if_eq (tgt := 62) hx hb dX2_go_55 (by decide) (fun c_55 => ?_) (fun c_55 => ?_)
        · refine lv_iconst (v := 0) hx hb dX2_go_62 (by decide) ?_
          refine va_zast hx hb hK hP hD hS 2 3 rfl rfl (vp_in_nI (by have := Nat.lt_of_not_le (fun z => c_33 (nI_le (a := 32) z (by omega))); omega) (by decide)) dX2_go_63 (fun H locs hP hD hS => ?_)
          have hP : va_P D vwCl (wW cyD cyI cyJ cyZ aw ad ak ar au ae av ab df (upd (ww) ((nI j)).toNatClampNeg (vp_nar .boolean (0 : Int32))) rf (uu) p3 p1 (1 : Int32) sn me vf lf sp sb no) H := hP
          have hD : va_D A (wW cyD cyI cyJ cyZ aw ad ak ar au ae av ab df (upd (ww) ((nI j)).toNatClampNeg (vp_nar .boolean (0 : Int32))) rf (uu) p3 p1 (1 : Int32) sn me vf lf sp sb no) := hD
          refine lv_aload_n hx hb dX2_go_64 rfl (lv_at hl 1 rfl) ?_
          refine va_get (D := D) (ci := 2) (v := .ref ak) (C := RX2) (T := TX2) (N := 8) hx hb hts (fun _ h => (List.mem_cons_of_mem _ (List.mem_append_left _ (List.mem_append_right _ h)))) hown hK hP 0 rfl rfl 2 (by decide) (hts (.fieldLink RX2 15 "BottomWalks$Walk" "walked" "[Z") (List.mem_of_getElem? (i := 4) rfl)) (fun _ h9 => h9) rfl dX2_go_65 ?_
          refine lv_iload hx hb dX2_go_68 (lv_at hl 0 rfl) ?_
          refine va_zald hx hb hK hP 2 3 rfl rfl (vp_in_nI (by have := Nat.lt_of_not_le (fun z => c_33 (nI_le (a := 32) z (by omega))); omega) (by decide)) dX2_go_70 ?_
          refine lv_if_eq (tgt := 87) hx hb dX2_go_71 (by decide) (fun c_71 => ?_) (fun c_71 => ?_)
          · refine lv_iinc (v := (((nI j)) + 1)) (lv' := [(4, .int (((nI j)) + 1)), (0, .ref aw), (1, .int p1), (2, .int p2), (3, .int p3)]) hx hb dX2_go_87 hl (k := 0) rfl rfl (by decide) rfl (fun ls hl => ?_)
            refine lv_goto (tgt := 29) hx hb dX2_go_90 (by decide) ?_
            exact ih (j + 1) (upd (ww) ((nI j)).toNatClampNeg (vp_nar .boolean (0 : Int32))) (uu) _ _ (by omega) (by have := Nat.lt_of_not_le (fun z => c_33 (nI_le (a := 32) z (by omega))); omega) (by rw [← nI_1 j]; rw [hF, fX2_go_L29, if_neg c_33, if_neg c_45, if_pos c_55, if_pos c_71]) hP hD hS _ (by rw [← nI_1 j]; exact lv_sub hl [0, 1, 2, 3, 4] rfl)
          refine lv_aload_n hx hb dX2_go_74 rfl (lv_at hl 1 rfl) ?_
          refine lv_iload hx hb dX2_go_75 (lv_at hl 0 rfl) ?_
          refine lv_aload_n hx hb dX2_go_77 rfl (lv_at hl 1 rfl) ?_
          refine lv_iload hx hb dX2_go_78 (lv_at hl 0 rfl) ?_
          refine lv_iconst (v := (-1)) hx hb dX2_go_80 (by decide) ?_
          have hPc : va_P D vwCl (wW cyD cyI cyJ cyZ aw ad ak ar au ae av ab df (upd (ww) ((nI j)).toNatClampNeg (vp_nar .boolean (0 : Int32))) rf (uu) p3 p1 (1 : Int32) sn me vf lf sp sb no) H := hP.sub [0, 1, 2, 3, 4, 5, 6, 7] rfl
          have hDc : va_D A (wW cyD cyI cyJ cyZ aw ad ak ar au ae av ab df (upd (ww) ((nI j)).toNatClampNeg (vp_nar .boolean (0 : Int32))) rf (uu) p3 p1 (1 : Int32) sn me vf lf sp sb no) := hD.sub [0, 1, 2, 3, 4, 5, 6, 7] (by decide) rfl
          refine kiE (ws' := (wW cyD cyI cyJ cyZ aw ad ak ar au ae av ab df (upd (ww) ((nI j)).toNatClampNeg (vp_nar .boolean (0 : Int32))) rf (uu) p3 p1 (1 : Int32) sn me vf lf sp sb no)) (wc := (wW cyD cyI cyJ cyZ aw ad ak ar au ae av ab df (upd (ww) ((nI j)).toNatClampNeg (vp_nar .boolean (0 : Int32))) rf (uu) p3 p1 (1 : Int32) sn me vf lf sp sb no)) (wr := []) (w1 := (wW cyD cyI cyJ cyZ aw ad ak ar au ae av ab df (upd (ww) ((nI j)).toNatClampNeg (vp_nar .boolean (0 : Int32))) rf (uu) p3 p1 (1 : Int32) sn me vf lf sp sb no)) (va_runV (As := [.int ((nI j)), .int (-1 : Int32)]) (rest := [.int ((nI j)), .ref aw]) ⟨hx, hb, hml, hown, hts⟩ (c_X2_neighbour (l := l) (D := D) (cyD := cyD) (cyI := cyI) (cyJ := cyJ) (cyZ := cyZ) aw ad ak ar au ae av ab df (upd (ww) ((nI j)).toNatClampNeg (vp_nar .boolean (0 : Int32))) rf (uu) p3 p1 (1 : Int32) sn me vf lf sp sb no H.size ((nI j)) (-1 : Int32)) (cwV 2 hts gX2_go_X2_neighbour rfl rfl rfl (by decide +kernel) ⟨Nat.le_of_ble_eq_true rfl, Nat.le_of_ble_eq_true rfl⟩) (kV (ci := 2) (q0 := 0) (q := (RX2, TX2, 8)) hN hK hPc hDc rfl rfl rfl) rfl rfl hl.1 rfl (lv_room (Nat.le_of_ble_eq_true rfl)) dX2_go_81 ⟨Nat.le_of_ble_eq_true rfl, Nat.le_of_ble_eq_true rfl⟩) hP hD hS hA [0, 1, 2, 3, 4, 5, 6, 7] [] [0, 1, 2, 3, 4, 5, 6, 7] rfl rfl (by decide) (by decide) rfl (by decide) (fun H locs hP hD hS => ?_)
          have hPc : va_P D vwCl (wW cyD cyI cyJ cyZ aw ad ak ar au ae av ab df (upd (ww) ((nI j)).toNatClampNeg (vp_nar .boolean (0 : Int32))) rf (uu) p3 p1 (1 : Int32) sn me vf lf sp sb no) H := hP.sub [0, 1, 2, 3, 4, 5, 6, 7] rfl
          have hDc : va_D A (wW cyD cyI cyJ cyZ aw ad ak ar au ae av ab df (upd (ww) ((nI j)).toNatClampNeg (vp_nar .boolean (0 : Int32))) rf (uu) p3 p1 (1 : Int32) sn me vf lf sp sb no) := hD.sub [0, 1, 2, 3, 4, 5, 6, 7] (by decide) rfl
          refine kv (ws' := (wW cyD cyI cyJ cyZ aw ad ak ar au ae av ab df (upd (ww) ((nI j)).toNatClampNeg (vp_nar .boolean (0 : Int32))) rf (fX2_sumUp df (uu) p3 p1 sn me vf lf sp sb no ((nI j)) (fX2_neighbour (upd (ww) ((nI j)).toNatClampNeg (vp_nar .boolean (0 : Int32))) ((nI j)) (-1 : Int32))) p3 p1 (1 : Int32) sn me vf lf sp sb no)) (wc := (wW cyD cyI cyJ cyZ aw ad ak ar au ae av ab df (upd (ww) ((nI j)).toNatClampNeg (vp_nar .boolean (0 : Int32))) rf (uu) p3 p1 (1 : Int32) sn me vf lf sp sb no)) (wr := []) (w1 := (wW cyD cyI cyJ cyZ aw ad ak ar au ae av ab df (upd (ww) ((nI j)).toNatClampNeg (vp_nar .boolean (0 : Int32))) rf (fX2_sumUp df (uu) p3 p1 sn me vf lf sp sb no ((nI j)) (fX2_neighbour (upd (ww) ((nI j)).toNatClampNeg (vp_nar .boolean (0 : Int32))) ((nI j)) (-1 : Int32))) p3 p1 (1 : Int32) sn me vf lf sp sb no)) (va_runV (As := [.int ((nI j)), .int (fX2_neighbour (upd (ww) ((nI j)).toNatClampNeg (vp_nar .boolean (0 : Int32))) ((nI j)) (-1 : Int32))]) (rest := []) ⟨hx, hb, hml, hown, hts⟩ (c_X2_sumUp (l := l) (D := D) (cyD := cyD) (cyI := cyI) (cyJ := cyJ) (cyZ := cyZ) aw ad ak ar au ae av ab df (upd (ww) ((nI j)).toNatClampNeg (vp_nar .boolean (0 : Int32))) rf (uu) p3 p1 (1 : Int32) sn me vf lf sp sb no H.size ((nI j)) (fX2_neighbour (upd (ww) ((nI j)).toNatClampNeg (vp_nar .boolean (0 : Int32))) ((nI j)) (-1 : Int32)) hE S hS3 hS64 j rfl (by have := Nat.lt_of_not_le (fun z => c_33 (nI_le (a := 32) z (by omega))); omega)) (cwV 2 hts gX2_go_X2_sumUp rfl rfl rfl (by decide +kernel) ⟨Nat.le_of_ble_eq_true rfl, Nat.le_of_ble_eq_true rfl⟩) (kV (ci := 2) (q0 := 0) (q := (RX2, TX2, 8)) hN hK hPc hDc rfl rfl rfl) rfl rfl hl.1 rfl (lv_room (Nat.le_of_ble_eq_true rfl)) dX2_go_84 ⟨Nat.le_of_ble_eq_true rfl, Nat.le_of_ble_eq_true rfl⟩) hP hD hS hA [0, 1, 2, 3, 4, 5, 6, 7] [] [0, 1, 2, 3, 4, 5, 6, 7] rfl rfl (by decide) (by decide) rfl (by decide) (fun H locs hP hD hS => ?_)
          refine lv_iinc (v := (((nI j)) + 1)) (lv' := [(4, .int (((nI j)) + 1)), (0, .ref aw), (1, .int p1), (2, .int p2), (3, .int p3)]) hx hb dX2_go_87 hl (k := 0) rfl rfl (by decide) rfl (fun ls hl => ?_)
          refine lv_goto (tgt := 29) hx hb dX2_go_90 (by decide) ?_
          exact ih (j + 1) (upd (ww) ((nI j)).toNatClampNeg (vp_nar .boolean (0 : Int32))) (fX2_sumUp df (uu) p3 p1 sn me vf lf sp sb no ((nI j)) (fX2_neighbour (upd (ww) ((nI j)).toNatClampNeg (vp_nar .boolean (0 : Int32))) ((nI j)) (-1 : Int32))) _ _ (by omega) (by have := Nat.lt_of_not_le (fun z => c_33 (nI_le (a := 32) z (by omega))); omega) (by rw [← nI_1 j]; rw [hF, fX2_go_L29, if_neg c_33, if_neg c_45, if_pos c_55, if_neg c_71]) hP hD hS _ (by rw [← nI_1 j]; exact lv_sub hl [0, 1, 2, 3, 4] rfl)
        refine lv_iconst (v := 1) hx hb dX2_go_58 (by decide) ?_
        refine lv_goto (tgt := 63) hx hb dX2_go_59 (by decide) ?_
        refine va_zast hx hb hK hP hD hS 2 3 rfl rfl (vp_in_nI (by have := Nat.lt_of_not_le (fun z => c_33 (nI_le (a := 32) z (by omega))); omega) (by decide)) dX2_go_63 (fun H locs hP hD hS => ?_)
        have hP : va_P D vwCl (wW cyD cyI cyJ cyZ aw ad ak ar au ae av ab df (upd (ww) ((nI j)).toNatClampNeg (vp_nar .boolean (1 : Int32))) rf (uu) p3 p1 (1 : Int32) sn me vf lf sp sb no) H := hP
        have hD : va_D A (wW cyD cyI cyJ cyZ aw ad ak ar au ae av ab df (upd (ww) ((nI j)).toNatClampNeg (vp_nar .boolean (1 : Int32))) rf (uu) p3 p1 (1 : Int32) sn me vf lf sp sb no) := hD
        refine lv_aload_n hx hb dX2_go_64 rfl (lv_at hl 1 rfl) ?_
        refine va_get (D := D) (ci := 2) (v := .ref ak) (C := RX2) (T := TX2) (N := 8) hx hb hts (fun _ h => (List.mem_cons_of_mem _ (List.mem_append_left _ (List.mem_append_right _ h)))) hown hK hP 0 rfl rfl 2 (by decide) (hts (.fieldLink RX2 15 "BottomWalks$Walk" "walked" "[Z") (List.mem_of_getElem? (i := 4) rfl)) (fun _ h9 => h9) rfl dX2_go_65 ?_
        refine lv_iload hx hb dX2_go_68 (lv_at hl 0 rfl) ?_
        refine va_zald hx hb hK hP 2 3 rfl rfl (vp_in_nI (by have := Nat.lt_of_not_le (fun z => c_33 (nI_le (a := 32) z (by omega))); omega) (by decide)) dX2_go_70 ?_
        refine lv_if_eq (tgt := 87) hx hb dX2_go_71 (by decide) (fun c_71 => ?_) (fun c_71 => ?_)
        · refine lv_iinc (v := (((nI j)) + 1)) (lv' := [(4, .int (((nI j)) + 1)), (0, .ref aw), (1, .int p1), (2, .int p2), (3, .int p3)]) hx hb dX2_go_87 hl (k := 0) rfl rfl (by decide) rfl (fun ls hl => ?_)
          refine lv_goto (tgt := 29) hx hb dX2_go_90 (by decide) ?_
          exact ih (j + 1) (upd (ww) ((nI j)).toNatClampNeg (vp_nar .boolean (1 : Int32))) (uu) _ _ (by omega) (by have := Nat.lt_of_not_le (fun z => c_33 (nI_le (a := 32) z (by omega))); omega) (by rw [← nI_1 j]; rw [hF, fX2_go_L29, if_neg c_33, if_neg c_45, if_neg c_55, if_pos c_71]) hP hD hS _ (by rw [← nI_1 j]; exact lv_sub hl [0, 1, 2, 3, 4] rfl)
        refine lv_aload_n hx hb dX2_go_74 rfl (lv_at hl 1 rfl) ?_
        refine lv_iload hx hb dX2_go_75 (lv_at hl 0 rfl) ?_
        refine lv_aload_n hx hb dX2_go_77 rfl (lv_at hl 1 rfl) ?_
        refine lv_iload hx hb dX2_go_78 (lv_at hl 0 rfl) ?_
        refine lv_iconst (v := (-1)) hx hb dX2_go_80 (by decide) ?_
        have hPc : va_P D vwCl (wW cyD cyI cyJ cyZ aw ad ak ar au ae av ab df (upd (ww) ((nI j)).toNatClampNeg (vp_nar .boolean (1 : Int32))) rf (uu) p3 p1 (1 : Int32) sn me vf lf sp sb no) H := hP.sub [0, 1, 2, 3, 4, 5, 6, 7] rfl
        have hDc : va_D A (wW cyD cyI cyJ cyZ aw ad ak ar au ae av ab df (upd (ww) ((nI j)).toNatClampNeg (vp_nar .boolean (1 : Int32))) rf (uu) p3 p1 (1 : Int32) sn me vf lf sp sb no) := hD.sub [0, 1, 2, 3, 4, 5, 6, 7] (by decide) rfl
        refine kiE (ws' := (wW cyD cyI cyJ cyZ aw ad ak ar au ae av ab df (upd (ww) ((nI j)).toNatClampNeg (vp_nar .boolean (1 : Int32))) rf (uu) p3 p1 (1 : Int32) sn me vf lf sp sb no)) (wc := (wW cyD cyI cyJ cyZ aw ad ak ar au ae av ab df (upd (ww) ((nI j)).toNatClampNeg (vp_nar .boolean (1 : Int32))) rf (uu) p3 p1 (1 : Int32) sn me vf lf sp sb no)) (wr := []) (w1 := (wW cyD cyI cyJ cyZ aw ad ak ar au ae av ab df (upd (ww) ((nI j)).toNatClampNeg (vp_nar .boolean (1 : Int32))) rf (uu) p3 p1 (1 : Int32) sn me vf lf sp sb no)) (va_runV (As := [.int ((nI j)), .int (-1 : Int32)]) (rest := [.int ((nI j)), .ref aw]) ⟨hx, hb, hml, hown, hts⟩ (c_X2_neighbour (l := l) (D := D) (cyD := cyD) (cyI := cyI) (cyJ := cyJ) (cyZ := cyZ) aw ad ak ar au ae av ab df (upd (ww) ((nI j)).toNatClampNeg (vp_nar .boolean (1 : Int32))) rf (uu) p3 p1 (1 : Int32) sn me vf lf sp sb no H.size ((nI j)) (-1 : Int32)) (cwV 2 hts gX2_go_X2_neighbour rfl rfl rfl (by decide +kernel) ⟨Nat.le_of_ble_eq_true rfl, Nat.le_of_ble_eq_true rfl⟩) (kV (ci := 2) (q0 := 0) (q := (RX2, TX2, 8)) hN hK hPc hDc rfl rfl rfl) rfl rfl hl.1 rfl (lv_room (Nat.le_of_ble_eq_true rfl)) dX2_go_81 ⟨Nat.le_of_ble_eq_true rfl, Nat.le_of_ble_eq_true rfl⟩) hP hD hS hA [0, 1, 2, 3, 4, 5, 6, 7] [] [0, 1, 2, 3, 4, 5, 6, 7] rfl rfl (by decide) (by decide) rfl (by decide) (fun H locs hP hD hS => ?_)
        have hPc : va_P D vwCl (wW cyD cyI cyJ cyZ aw ad ak ar au ae av ab df (upd (ww) ((nI j)).toNatClampNeg (vp_nar .boolean (1 : Int32))) rf (uu) p3 p1 (1 : Int32) sn me vf lf sp sb no) H := hP.sub [0, 1, 2, 3, 4, 5, 6, 7] rfl
        have hDc : va_D A (wW cyD cyI cyJ cyZ aw ad ak ar au ae av ab df (upd (ww) ((nI j)).toNatClampNeg (vp_nar .boolean (1 : Int32))) rf (uu) p3 p1 (1 : Int32) sn me vf lf sp sb no) := hD.sub [0, 1, 2, 3, 4, 5, 6, 7] (by decide) rfl
        refine kv (ws' := (wW cyD cyI cyJ cyZ aw ad ak ar au ae av ab df (upd (ww) ((nI j)).toNatClampNeg (vp_nar .boolean (1 : Int32))) rf (fX2_sumUp df (uu) p3 p1 sn me vf lf sp sb no ((nI j)) (fX2_neighbour (upd (ww) ((nI j)).toNatClampNeg (vp_nar .boolean (1 : Int32))) ((nI j)) (-1 : Int32))) p3 p1 (1 : Int32) sn me vf lf sp sb no)) (wc := (wW cyD cyI cyJ cyZ aw ad ak ar au ae av ab df (upd (ww) ((nI j)).toNatClampNeg (vp_nar .boolean (1 : Int32))) rf (uu) p3 p1 (1 : Int32) sn me vf lf sp sb no)) (wr := []) (w1 := (wW cyD cyI cyJ cyZ aw ad ak ar au ae av ab df (upd (ww) ((nI j)).toNatClampNeg (vp_nar .boolean (1 : Int32))) rf (fX2_sumUp df (uu) p3 p1 sn me vf lf sp sb no ((nI j)) (fX2_neighbour (upd (ww) ((nI j)).toNatClampNeg (vp_nar .boolean (1 : Int32))) ((nI j)) (-1 : Int32))) p3 p1 (1 : Int32) sn me vf lf sp sb no)) (va_runV (As := [.int ((nI j)), .int (fX2_neighbour (upd (ww) ((nI j)).toNatClampNeg (vp_nar .boolean (1 : Int32))) ((nI j)) (-1 : Int32))]) (rest := []) ⟨hx, hb, hml, hown, hts⟩ (c_X2_sumUp (l := l) (D := D) (cyD := cyD) (cyI := cyI) (cyJ := cyJ) (cyZ := cyZ) aw ad ak ar au ae av ab df (upd (ww) ((nI j)).toNatClampNeg (vp_nar .boolean (1 : Int32))) rf (uu) p3 p1 (1 : Int32) sn me vf lf sp sb no H.size ((nI j)) (fX2_neighbour (upd (ww) ((nI j)).toNatClampNeg (vp_nar .boolean (1 : Int32))) ((nI j)) (-1 : Int32)) hE S hS3 hS64 j rfl (by have := Nat.lt_of_not_le (fun z => c_33 (nI_le (a := 32) z (by omega))); omega)) (cwV 2 hts gX2_go_X2_sumUp rfl rfl rfl (by decide +kernel) ⟨Nat.le_of_ble_eq_true rfl, Nat.le_of_ble_eq_true rfl⟩) (kV (ci := 2) (q0 := 0) (q := (RX2, TX2, 8)) hN hK hPc hDc rfl rfl rfl) rfl rfl hl.1 rfl (lv_room (Nat.le_of_ble_eq_true rfl)) dX2_go_84 ⟨Nat.le_of_ble_eq_true rfl, Nat.le_of_ble_eq_true rfl⟩) hP hD hS hA [0, 1, 2, 3, 4, 5, 6, 7] [] [0, 1, 2, 3, 4, 5, 6, 7] rfl rfl (by decide) (by decide) rfl (by decide) (fun H locs hP hD hS => ?_)
        refine lv_iinc (v := (((nI j)) + 1)) (lv' := [(4, .int (((nI j)) + 1)), (0, .ref aw), (1, .int p1), (2, .int p2), (3, .int p3)]) hx hb dX2_go_87 hl (k := 0) rfl rfl (by decide) rfl (fun ls hl => ?_)
        refine lv_goto (tgt := 29) hx hb dX2_go_90 (by decide) ?_
        exact ih (j + 1) (upd (ww) ((nI j)).toNatClampNeg (vp_nar .boolean (1 : Int32))) (fX2_sumUp df (uu) p3 p1 sn me vf lf sp sb no ((nI j)) (fX2_neighbour (upd (ww) ((nI j)).toNatClampNeg (vp_nar .boolean (1 : Int32))) ((nI j)) (-1 : Int32))) _ _ (by omega) (by have := Nat.lt_of_not_le (fun z => c_33 (nI_le (a := 32) z (by omega))); omega) (by rw [← nI_1 j]; rw [hF, fX2_go_L29, if_neg c_33, if_neg c_45, if_neg c_55, if_neg c_71]) hP hD hS _ (by rw [← nI_1 j]; exact lv_sub hl [0, 1, 2, 3, 4] rfl)
    exact loop_29 33 0 kf uf _ _ rfl (Nat.zero_le _) (by rw [nI_0]; rw [fX2_go, if_neg c_6]) hP hD hS _ (by exact lv_sub hl [0, 1, 2, 3, 4] rfl)
  refine lv_iconst (v := (-1)) hx hb dX2_go_9 (by decide) ?_
  have hF9 : (fX2_go df kf rf uf st fw fo sn me vf lf sp sb no p1 p2 p3) = ((-1 : Int32), kf, rf, uf, st, fw, fo) := by rw [fX2_go, if_pos c_6]
  have hP9 : va_P D vwCl (wW cyD cyI cyJ cyZ aw ad ak ar au ae av ab df ((fX2_go df kf rf uf st fw fo sn me vf lf sp sb no p1 p2 p3).2.1) ((fX2_go df kf rf uf st fw fo sn me vf lf sp sb no p1 p2 p3).2.2.1) ((fX2_go df kf rf uf st fw fo sn me vf lf sp sb no p1 p2 p3).2.2.2.1) ((fX2_go df kf rf uf st fw fo sn me vf lf sp sb no p1 p2 p3).2.2.2.2.1) ((fX2_go df kf rf uf st fw fo sn me vf lf sp sb no p1 p2 p3).2.2.2.2.2.1) ((fX2_go df kf rf uf st fw fo sn me vf lf sp sb no p1 p2 p3).2.2.2.2.2.2) sn me vf lf sp sb no) H := by rw [hF9]; exact hP
  have hD9 : va_D A (wW cyD cyI cyJ cyZ aw ad ak ar au ae av ab df ((fX2_go df kf rf uf st fw fo sn me vf lf sp sb no p1 p2 p3).2.1) ((fX2_go df kf rf uf st fw fo sn me vf lf sp sb no p1 p2 p3).2.2.1) ((fX2_go df kf rf uf st fw fo sn me vf lf sp sb no p1 p2 p3).2.2.2.1) ((fX2_go df kf rf uf st fw fo sn me vf lf sp sb no p1 p2 p3).2.2.2.2.1) ((fX2_go df kf rf uf st fw fo sn me vf lf sp sb no p1 p2 p3).2.2.2.2.2.1) ((fX2_go df kf rf uf st fw fo sn me vf lf sp sb no p1 p2 p3).2.2.2.2.2.2) sn me vf lf sp sb no) := by rw [hF9]; exact hD
  exact W.iret (v := (-1 : Int32)) hx hb hr (fun t ht hW => ⟨⟨(-1 : Int32), (), rfl, (by rw [hF9]), by rw [ht]; exact hP9, va_K.moved hW.alike hK, hD9⟩, hS.F ht⟩) hS.2.2 dX2_go_10
