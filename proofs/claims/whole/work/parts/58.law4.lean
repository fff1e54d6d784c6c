/-! ===== the law: cases ===== -/
set_option maxHeartbeats 4000000 in
set_option maxRecDepth 100000 in
theorem law_speed {p : Program} {l : Launch} {e : Env} {s : State} {m : MethodId} {below : List Frame} {meth : Method} {c : Code} {D : va_G} {cyD cyI cyJ cyZ : ClassId} {A : Nat → Prop} {Q : State → Prop} {b L : Nat} {xs : Nat → Int32} (LF : lawF p s m c D cyD cyI cyJ cyZ A b L xs) {ax ai ag ats a1s a2s atb a1b a2b aw ad ak ar au ae av ab : Nat} {am bv bt bl be bdp bi bg bsd bsv bbd bbv br bu bw : Nat} {ch : Int32} {tf : Nat → UInt64} {gf : Nat → UInt64} {rns : Int32} {sfs : Nat → UInt64} {nfs : Nat → UInt64} {rnb : Int32} {sfb : Nat → UInt64} {nfb : Nat → UInt64} {df : Nat → UInt64} {kf : Nat → Int32} {rf : Nat → Int32} {uf : Nat → Int64} {st : Int32} {fw : Int32} {fo : Int32} {sn : Nat} {me : UInt64} {vf : Nat → UInt64} {lf : Nat → Int32} {sp : UInt64} {sb : UInt64} {no : UInt64} {mv : Nat → UInt64} {mt : Nat → Int32} {med : Nat → Int32} {md : Nat → UInt64} {mr : Nat → Int32} {mu : Nat → Int64} {mw : Nat → Int32} (hR : RI ch tf gf rns sfs nfs rnb sfb nfb df kf rf fw fo sn me vf lf sp sb no mv mt med md mr) {x3 : Int32} (h1 : vp_in (x3 + 1) L) (h2 : vp_in (x3 + 2) L) (h3 : vp_in (x3 + 3) L) {H : Heap} {locs : List Loc} {ls : Array Slot} (hP : va_P D vwCl (wU cyD cyI cyJ cyZ ax ai ag ats a1s a2s atb a1b a2b aw ad ak ar au ae av ab am bv bt bl be bdp bi bg bsd bsv bbd bbv br bu bw ch tf gf rns sfs nfs rnb sfb nfb df kf rf uf st fw fo sn me vf lf sp sb no mv mt med md mr mu mw) H) (hD : va_D A (wU cyD cyI cyJ cyZ ax ai ag ats a1s a2s atb a1b a2b aw ad ak ar au ae av ab am bv bt bl be bdp bi bg bsd bsv bbd bbv br bu bw ch tf gf rns sfs nfs rnb sfb nfb df kf rf uf st fw fo sn me vf lf sp sb no mv mt med md mr mu mw)) (hS : va_S A s.heap H locs) (hl : lv_has ls 8 [(0, .ref b), (1, .ref ax), (2, .ref am), (3, .int x3)]) (kk : lawK p l e s m below meth c D cyD cyI cyJ cyZ A Q b ax ai ag ats a1s a2s atb a1b a2b aw ad ak ar au ae av ab am bv bt bl be bdp bi bg bsd bsv bbd bbv br bu bw x3) : W p l e room_1 s m #[Value.ref b] below meth c H locs 600000 7302250 Q (F0 m 610 ls []) := by
  obtain ⟨hx, hb, hml, hown, hts, hN, hK, hX, hbl, hbA, hA⟩ := LF
  obtain ⟨hE, hM, hlb, hV, hE2, hRR, hrf, hmr, ⟨C, hC4, hch⟩, ⟨Rn, hR4, hfw⟩, ⟨rs, hTs⟩, ⟨rb, hTb⟩, htf, hgf⟩ := id hR
  have hfo1 : fo = 0 ∨ fo = 1 := hRR.elim (fun q => Or.inl q.1) (fun q => Or.inr q.1)
  obtain ⟨a1, ea1⟩ : ∃ y : Int32, y = xs (x3 + 1).toNatClampNeg := ⟨_, rfl⟩
  obtain ⟨a2, ea2⟩ : ∃ y : Int32, y = xs (x3 + 2).toNatClampNeg := ⟨_, rfl⟩
  obtain ⟨d1, ed1⟩ : ∃ y : UInt64, y = FP.dmul (FP.i2d a1) 4593671619917905920 := ⟨_, rfl⟩
  have hd1 : bd 1055 d1 := by rw [ed1]; exact eighth_bd a1
  obtain ⟨d2, ed2⟩ : ∃ y : UInt64, y = FP.dmul (FP.i2d a2) 4593671619917905920 := ⟨_, rfl⟩
  have hd2 : bd 1055 d2 := by rw [ed2]; exact eighth_bd a2
  obtain ⟨hv8, hv9, hv7⟩ := speedEq hTs hd1 hd2
  have hans : ((fX3_speed rns sfs nfs d1 d2).1) = ((fX4_speed rns sfs nfs d1 d2).1) := hv8
  have hfin : ∀ (ls : Array Slot) (H : Heap) (locs : List Loc), va_P D vwCl ((wB cyD cyI cyJ cyZ ax ai ag ats a1s a2s atb a1b a2b aw ad ak ar au ae av ab ch tf gf ((fX3_speed rns sfs nfs d1 d2).2.1) ((fX3_speed rns sfs nfs d1 d2).2.2.1) ((fX3_speed rns sfs nfs d1 d2).2.2.2) rnb sfb nfb df kf rf uf st fw fo sn me vf lf sp sb no) ++ (wM cyD cyI cyJ cyZ am bv bt bl be bdp bi bg bsd bsv bbd bbv br bu bw sn me ch sp sb no ((fX4_speed rns sfs nfs d1 d2).2.1) rnb fo fw mv mt lf med md tf gf ((fX4_speed rns sfs nfs d1 d2).2.2.1) ((fX4_speed rns sfs nfs d1 d2).2.2.2) sfb nfb mr mu mw)) H → va_D A ((wB cyD cyI cyJ cyZ ax ai ag ats a1s a2s atb a1b a2b aw ad ak ar au ae av ab ch tf gf ((fX3_speed rns sfs nfs d1 d2).2.1) ((fX3_speed rns sfs nfs d1 d2).2.2.1) ((fX3_speed rns sfs nfs d1 d2).2.2.2) rnb sfb nfb df kf rf uf st fw fo sn me vf lf sp sb no) ++ (wM cyD cyI cyJ cyZ am bv bt bl be bdp bi bg bsd bsv bbd bbv br bu bw sn me ch sp sb no ((fX4_speed rns sfs nfs d1 d2).2.1) rnb fo fw mv mt lf med md tf gf ((fX4_speed rns sfs nfs d1 d2).2.2.1) ((fX4_speed rns sfs nfs d1 d2).2.2.2) sfb nfb mr mu mw)) → va_S A s.heap H locs → lv_has ls 8 [(0, .ref b), (1, .ref ax), (2, .ref am), (3, .int x3)] → W p l e room_1 s m #[Value.ref b] below meth c H locs 600000 7302250 Q (F0 m 1173 ls []) := fun ls H locs hP hD hS hl => by
    rw [← hv9] at hP hD
    exact kk ch tf gf ((fX3_speed rns sfs nfs d1 d2).2.1) ((fX3_speed rns sfs nfs d1 d2).2.2.1) ((fX3_speed rns sfs nfs d1 d2).2.2.2) rnb sfb nfb df kf rf uf st fw fo sn me vf lf sp sb no mv mt med md mr mu mw ⟨hE, hM, hlb, hV, hE2, hRR, hrf, hmr, ⟨C, hC4, hch⟩, ⟨Rn, hR4, hfw⟩, hv7, ⟨rb, hTb⟩, htf, hgf⟩ H locs ls hP hD hS hl
  refine lv_aload_n hx hb dL_law_610 rfl (lv_at hl 1 rfl) ?_
  refine lv_aload_n hx hb dL_law_611 rfl (lv_at hl 0 rfl) ?_
  refine lv_iload_n hx hb dL_law_612 rfl (lv_at hl 3 rfl) ?_
  refine lv_iconst (v := 1) hx hb dL_law_613 (by decide) ?_
  refine lv_iadd hx hb dL_law_614 ?_
  refine va_sld hx hb hX hbl hbA hS h1 dL_law_615 ?_
  refine ktopi (y := a1) ea1.symm ?_
  refine lv_i2d hx hb dL_law_616 ?_
  refine lv_ldc2d (v := 4593671619917905920) hx hb hown (hts _ wL21) dL_law_617 ?_
  refine lv_dmul hx hb dL_law_620 (bd_n (eighth_bd a1) (by decide)) ?_
  refine ktopd (y := d1) ed1.symm ?_
  refine lv_aload_n hx hb dL_law_621 rfl (lv_at hl 0 rfl) ?_
  refine lv_iload_n hx hb dL_law_622 rfl (lv_at hl 3 rfl) ?_
  refine lv_iconst (v := 2) hx hb dL_law_623 (by decide) ?_
  refine lv_iadd hx hb dL_law_624 ?_
  refine va_sld hx hb hX hbl hbA hS h2 dL_law_625 ?_
  refine ktopi (y := a2) ea2.symm ?_
  refine lv_i2d hx hb dL_law_626 ?_
  refine lv_ldc2d (v := 4593671619917905920) hx hb hown (hts _ wL21) dL_law_627 ?_
  refine lv_dmul hx hb dL_law_630 (bd_n (eighth_bd a2) (by decide)) ?_
  refine ktopd (y := d2) ed2.symm ?_
  have hPc : va_P D vwCl (wB cyD cyI cyJ cyZ ax ai ag ats a1s a2s atb a1b a2b aw ad ak ar au ae av ab ch tf gf rns sfs nfs rnb sfb nfb df kf rf uf st fw fo sn me vf lf sp sb no) H := hP.sub [0, 1, 2, 3, 4, 5, 6, 7, 8, 9, 10, 11, 12, 13, 14, 15, 16] rfl
  have hDc : va_D A (wB cyD cyI cyJ cyZ ax ai ag ats a1s a2s atb a1b a2b aw ad ak ar au ae av ab ch tf gf rns sfs nfs rnb sfb nfb df kf rf uf st fw fo sn me vf lf sp sb no) := hD.sub [0, 1, 2, 3, 4, 5, 6, 7, 8, 9, 10, 11, 12, 13, 14, 15, 16] (by decide) rfl
  refine kzE (ws' := (wB cyD cyI cyJ cyZ ax ai ag ats a1s a2s atb a1b a2b aw ad ak ar au ae av ab ch tf gf ((fX3_speed rns sfs nfs d1 d2).2.1) ((fX3_speed rns sfs nfs d1 d2).2.2.1) ((fX3_speed rns sfs nfs d1 d2).2.2.2) rnb sfb nfb df kf rf uf st fw fo sn me vf lf sp sb no) ++ (wM cyD cyI cyJ cyZ am bv bt bl be bdp bi bg bsd bsv bbd bbv br bu bw sn me ch sp sb no rns rnb fo fw mv mt lf med md tf gf sfs nfs sfb nfb mr mu mw)) (wc := (wB cyD cyI cyJ cyZ ax ai ag ats a1s a2s atb a1b a2b aw ad ak ar au ae av ab ch tf gf rns sfs nfs rnb sfb nfb df kf rf uf st fw fo sn me vf lf sp sb no)) (wr := (wM cyD cyI cyJ cyZ am bv bt bl be bdp bi bg bsd bsv bbd bbv br bu bw sn me ch sp sb no rns rnb fo fw mv mt lf med md tf gf sfs nfs sfb nfb mr mu mw)) (w1 := (wB cyD cyI cyJ cyZ ax ai ag ats a1s a2s atb a1b a2b aw ad ak ar au ae av ab ch tf gf ((fX3_speed rns sfs nfs d1 d2).2.1) ((fX3_speed rns sfs nfs d1 d2).2.2.1) ((fX3_speed rns sfs nfs d1 d2).2.2.2) rnb sfb nfb df kf rf uf st fw fo sn me vf lf sp sb no)) (va_runV (As := [.double d1, .double d2]) (rest := []) ⟨hx, hb, hml, hown, hts⟩ (c_X3_speed (l := l) (D := D) (cyD := cyD) (cyI := cyI) (cyJ := cyJ) (cyZ := cyZ) ax ai ag ats a1s a2s atb a1b a2b aw ad ak ar au ae av ab ch tf gf rns sfs nfs rnb sfb nfb df kf rf uf st fw fo sn me vf lf sp sb no H.size d1 d2 rs hTs.1 hTs.2.1) (cwV 2 hts gL_law_X3_speed rfl rfl rfl (by decide +kernel) ⟨Nat.le_of_ble_eq_true rfl, Nat.le_of_ble_eq_true rfl⟩) (kV (ci := 3) (q0 := 0) (q := (RX3, TX3, 7)) hN hK hPc hDc rfl rfl rfl) rfl rfl hl.1 rfl (lv_room (Nat.le_of_ble_eq_true rfl)) dL_law_631 ⟨Nat.le_of_ble_eq_true rfl, Nat.le_of_ble_eq_true rfl⟩) hP hD hS hA [0, 1, 2, 3, 4, 5, 6, 7, 8, 9, 10, 11, 12, 13, 14, 15, 16] [17, 18, 19, 20, 21, 22, 23, 24, 25, 26, 27, 28, 29, 30, 31] [15, 16, 17, 18, 19, 20, 21, 22, 23, 24, 25, 26, 27, 28, 29, 30, 31, 0, 1, 2, 3, 4, 5, 6, 7, 8, 9, 10, 11, 12, 13, 14] rfl rfl (by decide) (by decide) rfl (by decide) (fun H locs hz_631 hP hD hS => ?_)
  refine lv_aload_n hx hb dL_law_634 rfl (lv_at hl 2 rfl) ?_
  refine lv_aload_n hx hb dL_law_635 rfl (lv_at hl 0 rfl) ?_
  refine lv_iload_n hx hb dL_law_636 rfl (lv_at hl 3 rfl) ?_
  refine lv_iconst (v := 1) hx hb dL_law_637 (by decide) ?_
  refine lv_iadd hx hb dL_law_638 ?_
  refine va_sld hx hb hX hbl hbA hS h1 dL_law_639 ?_
  refine ktopi (y := a1) ea1.symm ?_
  refine lv_i2d hx hb dL_law_640 ?_
  refine lv_ldc2d (v := 4593671619917905920) hx hb hown (hts _ wL21) dL_law_641 ?_
  refine lv_dmul hx hb dL_law_644 (bd_n (eighth_bd a1) (by decide)) ?_
  refine ktopd (y := d1) ed1.symm ?_
  refine lv_aload_n hx hb dL_law_645 rfl (lv_at hl 0 rfl) ?_
  refine lv_iload_n hx hb dL_law_646 rfl (lv_at hl 3 rfl) ?_
  refine lv_iconst (v := 2) hx hb dL_law_647 (by decide) ?_
  refine lv_iadd hx hb dL_law_648 ?_
  refine va_sld hx hb hX hbl hbA hS h2 dL_law_649 ?_
  refine ktopi (y := a2) ea2.symm ?_
  refine lv_i2d hx hb dL_law_650 ?_
  refine lv_ldc2d (v := 4593671619917905920) hx hb hown (hts _ wL21) dL_law_651 ?_
  refine lv_dmul hx hb dL_law_654 (bd_n (eighth_bd a2) (by decide)) ?_
  refine ktopd (y := d2) ed2.symm ?_
  have hPc : va_P D vwCl (wM cyD cyI cyJ cyZ am bv bt bl be bdp bi bg bsd bsv bbd bbv br bu bw sn me ch sp sb no rns rnb fo fw mv mt lf med md tf gf sfs nfs sfb nfb mr mu mw) H := hP.sub [17, 18, 19, 20, 21, 22, 23, 24, 25, 26, 27, 28, 29, 30, 31] rfl
  have hDc : va_D A (wM cyD cyI cyJ cyZ am bv bt bl be bdp bi bg bsd bsv bbd bbv br bu bw sn me ch sp sb no rns rnb fo fw mv mt lf med md tf gf sfs nfs sfb nfb mr mu mw) := hD.sub [17, 18, 19, 20, 21, 22, 23, 24, 25, 26, 27, 28, 29, 30, 31] (by decide) rfl
  refine kzE (ws' := (wB cyD cyI cyJ cyZ ax ai ag ats a1s a2s atb a1b a2b aw ad ak ar au ae av ab ch tf gf ((fX3_speed rns sfs nfs d1 d2).2.1) ((fX3_speed rns sfs nfs d1 d2).2.2.1) ((fX3_speed rns sfs nfs d1 d2).2.2.2) rnb sfb nfb df kf rf uf st fw fo sn me vf lf sp sb no) ++ (wM cyD cyI cyJ cyZ am bv bt bl be bdp bi bg bsd bsv bbd bbv br bu bw sn me ch sp sb no ((fX4_speed rns sfs nfs d1 d2).2.1) rnb fo fw mv mt lf med md tf gf ((fX4_speed rns sfs nfs d1 d2).2.2.1) ((fX4_speed rns sfs nfs d1 d2).2.2.2) sfb nfb mr mu mw)) (wc := (wM cyD cyI cyJ cyZ am bv bt bl be bdp bi bg bsd bsv bbd bbv br bu bw sn me ch sp sb no rns rnb fo fw mv mt lf med md tf gf sfs nfs sfb nfb mr mu mw)) (wr := (wB cyD cyI cyJ cyZ ax ai ag ats a1s a2s atb a1b a2b aw ad ak ar au ae av ab ch tf gf ((fX3_speed rns sfs nfs d1 d2).2.1) ((fX3_speed rns sfs nfs d1 d2).2.2.1) ((fX3_speed rns sfs nfs d1 d2).2.2.2) rnb sfb nfb df kf rf uf st fw fo sn me vf lf sp sb no)) (w1 := (wM cyD cyI cyJ cyZ am bv bt bl be bdp bi bg bsd bsv bbd bbv br bu bw sn me ch sp sb no ((fX4_speed rns sfs nfs d1 d2).2.1) rnb fo fw mv mt lf med md tf gf ((fX4_speed rns sfs nfs d1 d2).2.2.1) ((fX4_speed rns sfs nfs d1 d2).2.2.2) sfb nfb mr mu mw)) (va_runV (As := [.double d1, .double d2]) (rest := [.int ((fX3_speed rns sfs nfs d1 d2).1)]) ⟨hx, hb, hml, hown, hts⟩ (c_X4_speed (l := l) (D := D) (cyD := cyD) (cyI := cyI) (cyJ := cyJ) (cyZ := cyZ) am bv bt bl be bdp bi bg bsd bsv bbd bbv br bu bw sn me ch sp sb no rns rnb fo fw mv mt lf med md tf gf sfs nfs sfb nfb mr mu mw H.size d1 d2 rs hTs.1 hTs.2.1) (cwV 2 hts gL_law_X4_speed rfl rfl rfl (by decide +kernel) ⟨Nat.le_of_ble_eq_true rfl, Nat.le_of_ble_eq_true rfl⟩) (kV (ci := 4) (q0 := 0) (q := (RX4, TX4, 24)) hN hK hPc hDc rfl rfl rfl) rfl rfl hl.1 rfl (lv_room (Nat.le_of_ble_eq_true rfl)) dL_law_655 ⟨Nat.le_of_ble_eq_true rfl, Nat.le_of_ble_eq_true rfl⟩) hP hD hS hA [17, 18, 19, 20, 21, 22, 23, 24, 25, 26, 27, 28, 29, 30, 31] [0, 1, 2, 3, 4, 5, 6, 7, 8, 9, 10, 11, 12, 13, 14, 15, 16] [0, 1, 2, 3, 4, 5, 6, 7, 8, 9, 10, 11, 12, 13, 14, 15, 16, 17, 18, 19, 20, 21, 22, 23, 24, 25, 26, 27, 28, 29, 30, 31] rfl rfl (by decide) (by decide) rfl (by decide) (fun H locs hz_655 hP hD hS => ?_)
  refine lv_icmp_eq (tgt := 1173) hx hb dL_law_658 (by decide) (fun _ => ?_) (fun h9 => absurd hans h9)
  exact hfin ls H locs hP hD hS hl
set_option maxHeartbeats 4000000 in
set_option maxRecDepth 100000 in
theorem law_bent {p : Program} {l : Launch} {e : Env} {s : State} {m : MethodId} {below : List Frame} {meth : Method} {c : Code} {D : va_G} {cyD cyI cyJ cyZ : ClassId} {A : Nat → Prop} {Q : State → Prop} {b L : Nat} {xs : Nat → Int32} (LF : lawF p s m c D cyD cyI cyJ cyZ A b L xs) {ax ai ag ats a1s a2s atb a1b a2b aw ad ak ar au ae av ab : Nat} {am bv bt bl be bdp bi bg bsd bsv bbd bbv br bu bw : Nat} {ch : Int32} {tf : Nat → UInt64} {gf : Nat → UInt64} {rns : Int32} {sfs : Nat → UInt64} {nfs : Nat → UInt64} {rnb : Int32} {sfb : Nat → UInt64} {nfb : Nat → UInt64} {df : Nat → UInt64} {kf : Nat → Int32} {rf : Nat → Int32} {uf : Nat → Int64} {st : Int32} {fw : Int32} {fo : Int32} {sn : Nat} {me : UInt64} {vf : Nat → UInt64} {lf : Nat → Int32} {sp : UInt64} {sb : UInt64} {no : UInt64} {mv : Nat → UInt64} {mt : Nat → Int32} {med : Nat → Int32} {md : Nat → UInt64} {mr : Nat → Int32} {mu : Nat → Int64} {mw : Nat → Int32} (hR : RI ch tf gf rns sfs nfs rnb sfb nfb df kf rf fw fo sn me vf lf sp sb no mv mt med md mr) {x3 : Int32} (h1 : vp_in (x3 + 1) L) (h2 : vp_in (x3 + 2) L) (h3 : vp_in (x3 + 3) L) {H : Heap} {locs : List Loc} {ls : Array Slot} (hP : va_P D vwCl (wU cyD cyI cyJ cyZ ax ai ag ats a1s a2s atb a1b a2b aw ad ak ar au ae av ab am bv bt bl be bdp bi bg bsd bsv bbd bbv br bu bw ch tf gf rns sfs nfs rnb sfb nfb df kf rf uf st fw fo sn me vf lf sp sb no mv mt med md mr mu mw) H) (hD : va_D A (wU cyD cyI cyJ cyZ ax ai ag ats a1s a2s atb a1b a2b aw ad ak ar au ae av ab am bv bt bl be bdp bi bg bsd bsv bbd bbv br bu bw ch tf gf rns sfs nfs rnb sfb nfb df kf rf uf st fw fo sn me vf lf sp sb no mv mt med md mr mu mw)) (hS : va_S A s.heap H locs) (hl : lv_has ls 8 [(0, .ref b), (1, .ref ax), (2, .ref am), (3, .int x3)]) (kk : lawK p l e s m below meth c D cyD cyI cyJ cyZ A Q b ax ai ag ats a1s a2s atb a1b a2b aw ad ak ar au ae av ab am bv bt bl be bdp bi bg bsd bsv bbd bbv br bu bw x3) : W p l e room_1 s m #[Value.ref b] below meth c H locs 600000 7302250 Q (F0 m 663 ls []) := by
  obtain ⟨hx, hb, hml, hown, hts, hN, hK, hX, hbl, hbA, hA⟩ := LF
  obtain ⟨hE, hM, hlb, hV, hE2, hRR, hrf, hmr, ⟨C, hC4, hch⟩, ⟨Rn, hR4, hfw⟩, ⟨rs, hTs⟩, ⟨rb, hTb⟩, htf, hgf⟩ := id hR
  have hfo1 : fo = 0 ∨ fo = 1 := hRR.elim (fun q => Or.inl q.1) (fun q => Or.inr q.1)
  obtain ⟨a1, ea1⟩ : ∃ y : Int32, y = xs (x3 + 1).toNatClampNeg := ⟨_, rfl⟩
  obtain ⟨a2, ea2⟩ : ∃ y : Int32, y = xs (x3 + 2).toNatClampNeg := ⟨_, rfl⟩
  have hans : (fX3_bent tf gf rns sfs nfs sn me a1 a2) = (fX4_bent sn me rns tf gf sfs nfs a1 a2) := bentEq hM.2.2.1 hTs a1 a2
  have hfin : ∀ (ls : Array Slot) (H : Heap) (locs : List Loc), va_P D vwCl ((wB cyD cyI cyJ cyZ ax ai ag ats a1s a2s atb a1b a2b aw ad ak ar au ae av ab ch tf gf rns sfs nfs rnb sfb nfb df kf rf uf st fw fo sn me vf lf sp sb no) ++ (wM cyD cyI cyJ cyZ am bv bt bl be bdp bi bg bsd bsv bbd bbv br bu bw sn me ch sp sb no rns rnb fo fw mv mt lf med md tf gf sfs nfs sfb nfb mr mu mw)) H → va_D A ((wB cyD cyI cyJ cyZ ax ai ag ats a1s a2s atb a1b a2b aw ad ak ar au ae av ab ch tf gf rns sfs nfs rnb sfb nfb df kf rf uf st fw fo sn me vf lf sp sb no) ++ (wM cyD cyI cyJ cyZ am bv bt bl be bdp bi bg bsd bsv bbd bbv br bu bw sn me ch sp sb no rns rnb fo fw mv mt lf med md tf gf sfs nfs sfb nfb mr mu mw)) → va_S A s.heap H locs → lv_has ls 8 [(0, .ref b), (1, .ref ax), (2, .ref am), (3, .int x3)] → W p l e room_1 s m #[Value.ref b] below meth c H locs 600000 7302250 Q (F0 m 1173 ls []) := fun ls H locs hP hD hS hl => by
    exact kk ch tf gf rns sfs nfs rnb sfb nfb df kf rf uf st fw fo sn me vf lf sp sb no mv mt med md mr mu mw hR H locs ls hP hD hS hl
  refine lv_aload_n hx hb dL_law_663 rfl (lv_at hl 1 rfl) ?_
  refine lv_aload_n hx hb dL_law_664 rfl (lv_at hl 0 rfl) ?_
  refine lv_iload_n hx hb dL_law_665 rfl (lv_at hl 3 rfl) ?_
  refine lv_iconst (v := 1) hx hb dL_law_666 (by decide) ?_
  refine lv_iadd hx hb dL_law_667 ?_
  refine va_sld hx hb hX hbl hbA hS h1 dL_law_668 ?_
  refine ktopi (y := a1) ea1.symm ?_
  refine lv_aload_n hx hb dL_law_669 rfl (lv_at hl 0 rfl) ?_
  refine lv_iload_n hx hb dL_law_670 rfl (lv_at hl 3 rfl) ?_
  refine lv_iconst (v := 2) hx hb dL_law_671 (by decide) ?_
  refine lv_iadd hx hb dL_law_672 ?_
  refine va_sld hx hb hX hbl hbA hS h2 dL_law_673 ?_
  refine ktopi (y := a2) ea2.symm ?_
  have hPc : va_P D vwCl (wB cyD cyI cyJ cyZ ax ai ag ats a1s a2s atb a1b a2b aw ad ak ar au ae av ab ch tf gf rns sfs nfs rnb sfb nfb df kf rf uf st fw fo sn me vf lf sp sb no) H := hP.sub [0, 1, 2, 3, 4, 5, 6, 7, 8, 9, 10, 11, 12, 13, 14, 15, 16] rfl
  have hDc : va_D A (wB cyD cyI cyJ cyZ ax ai ag ats a1s a2s atb a1b a2b aw ad ak ar au ae av ab ch tf gf rns sfs nfs rnb sfb nfb df kf rf uf st fw fo sn me vf lf sp sb no) := hD.sub [0, 1, 2, 3, 4, 5, 6, 7, 8, 9, 10, 11, 12, 13, 14, 15, 16] (by decide) rfl
  refine kdE (ws' := (wB cyD cyI cyJ cyZ ax ai ag ats a1s a2s atb a1b a2b aw ad ak ar au ae av ab ch tf gf rns sfs nfs rnb sfb nfb df kf rf uf st fw fo sn me vf lf sp sb no) ++ (wM cyD cyI cyJ cyZ am bv bt bl be bdp bi bg bsd bsv bbd bbv br bu bw sn me ch sp sb no rns rnb fo fw mv mt lf med md tf gf sfs nfs sfb nfb mr mu mw)) (wc := (wB cyD cyI cyJ cyZ ax ai ag ats a1s a2s atb a1b a2b aw ad ak ar au ae av ab ch tf gf rns sfs nfs rnb sfb nfb df kf rf uf st fw fo sn me vf lf sp sb no)) (wr := (wM cyD cyI cyJ cyZ am bv bt bl be bdp bi bg bsd bsv bbd bbv br bu bw sn me ch sp sb no rns rnb fo fw mv mt lf med md tf gf sfs nfs sfb nfb mr mu mw)) (w1 := (wB cyD cyI cyJ cyZ ax ai ag ats a1s a2s atb a1b a2b aw ad ak ar au ae av ab ch tf gf rns sfs nfs rnb sfb nfb df kf rf uf st fw fo sn me vf lf sp sb no)) (va_runV (As := [.int a1, .int a2]) (rest := []) ⟨hx, hb, hml, hown, hts⟩ (c_X3_bent (l := l) (D := D) (cyD := cyD) (cyI := cyI) (cyJ := cyJ) (cyZ := cyZ) ax ai ag ats a1s a2s atb a1b a2b aw ad ak ar au ae av ab ch tf gf rns sfs nfs rnb sfb nfb df kf rf uf st fw fo sn me vf lf sp sb no H.size a1 a2 hE rs hTs.1 hTs.2.1 (fun i _ => hTs.2.2.2.1 i) hgf htf) (cwV 2 hts gL_law_X3_bent rfl rfl rfl (by decide +kernel) ⟨Nat.le_of_ble_eq_true rfl, Nat.le_of_ble_eq_true rfl⟩) (kV (ci := 3) (q0 := 0) (q := (RX3, TX3, 7)) hN hK hPc hDc rfl rfl rfl) rfl rfl hl.1 rfl (lv_room (Nat.le_of_ble_eq_true rfl)) dL_law_674 ⟨Nat.le_of_ble_eq_true rfl, Nat.le_of_ble_eq_true rfl⟩) hP hD hS hA [0, 1, 2, 3, 4, 5, 6, 7, 8, 9, 10, 11, 12, 13, 14, 15, 16] [17, 18, 19, 20, 21, 22, 23, 24, 25, 26, 27, 28, 29, 30, 31] [15, 16, 17, 18, 19, 20, 21, 22, 23, 24, 25, 26, 27, 28, 29, 30, 31, 0, 1, 2, 3, 4, 5, 6, 7, 8, 9, 10, 11, 12, 13, 14] rfl rfl (by decide) (by decide) rfl (by decide) (fun H locs hP hD hS => ?_)
  refine lv_dstore (lv' := [(4, .double (fX3_bent tf gf rns sfs nfs sn me a1 a2)), (0, .ref b), (1, .ref ax), (2, .ref am), (3, .int x3)]) hx hb dL_law_677 hl (by decide) rfl (fun ls hl => ?_)
  refine lv_aload_n hx hb dL_law_679 rfl (lv_at hl 3 rfl) ?_
  refine lv_aload_n hx hb dL_law_680 rfl (lv_at hl 1 rfl) ?_
  refine lv_iload_n hx hb dL_law_681 rfl (lv_at hl 4 rfl) ?_
  refine lv_iconst (v := 1) hx hb dL_law_682 (by decide) ?_
  refine lv_iadd hx hb dL_law_683 ?_
  refine va_sld hx hb hX hbl hbA hS h1 dL_law_684 ?_
  refine ktopi (y := a1) ea1.symm ?_
  refine lv_aload_n hx hb dL_law_685 rfl (lv_at hl 1 rfl) ?_
  refine lv_iload_n hx hb dL_law_686 rfl (lv_at hl 4 rfl) ?_
  refine lv_iconst (v := 2) hx hb dL_law_687 (by decide) ?_
  refine lv_iadd hx hb dL_law_688 ?_
  refine va_sld hx hb hX hbl hbA hS h2 dL_law_689 ?_
  refine ktopi (y := a2) ea2.symm ?_
  have hPc : va_P D vwCl (wM cyD cyI cyJ cyZ am bv bt bl be bdp bi bg bsd bsv bbd bbv br bu bw sn me ch sp sb no rns rnb fo fw mv mt lf med md tf gf sfs nfs sfb nfb mr mu mw) H := hP.sub [17, 18, 19, 20, 21, 22, 23, 24, 25, 26, 27, 28, 29, 30, 31] rfl
  have hDc : va_D A (wM cyD cyI cyJ cyZ am bv bt bl be bdp bi bg bsd bsv bbd bbv br bu bw sn me ch sp sb no rns rnb fo fw mv mt lf med md tf gf sfs nfs sfb nfb mr mu mw) := hD.sub [17, 18, 19, 20, 21, 22, 23, 24, 25, 26, 27, 28, 29, 30, 31] (by decide) rfl
  refine kdE (ws' := (wB cyD cyI cyJ cyZ ax ai ag ats a1s a2s atb a1b a2b aw ad ak ar au ae av ab ch tf gf rns sfs nfs rnb sfb nfb df kf rf uf st fw fo sn me vf lf sp sb no) ++ (wM cyD cyI cyJ cyZ am bv bt bl be bdp bi bg bsd bsv bbd bbv br bu bw sn me ch sp sb no rns rnb fo fw mv mt lf med md tf gf sfs nfs sfb nfb mr mu mw)) (wc := (wM cyD cyI cyJ cyZ am bv bt bl be bdp bi bg bsd bsv bbd bbv br bu bw sn me ch sp sb no rns rnb fo fw mv mt lf med md tf gf sfs nfs sfb nfb mr mu mw)) (wr := (wB cyD cyI cyJ cyZ ax ai ag ats a1s a2s atb a1b a2b aw ad ak ar au ae av ab ch tf gf rns sfs nfs rnb sfb nfb df kf rf uf st fw fo sn me vf lf sp sb no)) (w1 := (wM cyD cyI cyJ cyZ am bv bt bl be bdp bi bg bsd bsv bbd bbv br bu bw sn me ch sp sb no rns rnb fo fw mv mt lf med md tf gf sfs nfs sfb nfb mr mu mw)) (va_runV (As := [.int a1, .int a2]) (rest := []) ⟨hx, hb, hml, hown, hts⟩ (c_X4_bent (l := l) (D := D) (cyD := cyD) (cyI := cyI) (cyJ := cyJ) (cyZ := cyZ) am bv bt bl be bdp bi bg bsd bsv bbd bbv br bu bw sn me ch sp sb no rns rnb fo fw mv mt lf med md tf gf sfs nfs sfb nfb mr mu mw H.size a1 a2 hM rs hTs.1 hTs.2.1 (fun i _ => hTs.2.2.2.1 i) hgf htf) (cwV 2 hts gL_law_X4_bent rfl rfl rfl (by decide +kernel) ⟨Nat.le_of_ble_eq_true rfl, Nat.le_of_ble_eq_true rfl⟩) (kV (ci := 4) (q0 := 0) (q := (RX4, TX4, 24)) hN hK hPc hDc rfl rfl rfl) rfl rfl hl.1 rfl (lv_room (Nat.le_of_ble_eq_true rfl)) dL_law_690 ⟨Nat.le_of_ble_eq_true rfl, Nat.le_of_ble_eq_true rfl⟩) hP hD hS hA [17, 18, 19, 20, 21, 22, 23, 24, 25, 26, 27, 28, 29, 30, 31] [0, 1, 2, 3, 4, 5, 6, 7, 8, 9, 10, 11, 12, 13, 14, 15, 16] [0, 1, 2, 3, 4, 5, 6, 7, 8, 9, 10, 11, 12, 13, 14, 15, 16, 17, 18, 19, 20, 21, 22, 23, 24, 25, 26, 27, 28, 29, 30, 31] rfl rfl (by decide) (by decide) rfl (by decide) (fun H locs hP hD hS => ?_)
  refine ktopd (y := (fX3_bent tf gf rns sfs nfs sn me a1 a2)) hans.symm ?_
  refine lv_dstore (lv' := [(6, .double (fX3_bent tf gf rns sfs nfs sn me a1 a2)), (4, .double (fX3_bent tf gf rns sfs nfs sn me a1 a2)), (0, .ref b), (1, .ref ax), (2, .ref am), (3, .int x3)]) hx hb dL_law_693 hl (by decide) rfl (fun ls hl => ?_)
  have hfin := hfin ls H locs hP hD hS (lv_sub hl [2, 3, 4, 5] rfl)
  refine lv_dload hx hb dL_law_695 (lv_at hl 1 rfl) ?_
  refine lv_dload hx hb dL_law_697 (lv_at hl 0 rfl) ?_
  refine lv_dcmp hx hb dL_law_699 ?_
  refine lv_if_eq (tgt := 721) hx hb dL_law_700 (by decide) (fun c_1 => ?_) (fun c_1 => ?_)
  · exact lv_goto (tgt := 1173) hx hb dL_law_721 (by decide) hfin
  refine lv_dload hx hb dL_law_703 (lv_at hl 1 rfl) ?_
  refine lv_dload hx hb dL_law_705 (lv_at hl 1 rfl) ?_
  refine lv_dcmp hx hb dL_law_707 ?_
  refine lv_if_eq (tgt := 719) hx hb dL_law_708 (by decide) (fun c_2 => absurd c_2 c_1) (fun c_2 => ?_)
  refine lv_dload hx hb dL_law_711 (lv_at hl 0 rfl) ?_
  refine lv_dload hx hb dL_law_713 (lv_at hl 0 rfl) ?_
  refine lv_dcmp hx hb dL_law_715 ?_
  refine lv_if_ne (tgt := 721) hx hb dL_law_716 (by decide) (fun c_3 => ?_) (fun c_3 => absurd c_3 c_1)
  exact lv_goto (tgt := 1173) hx hb dL_law_721 (by decide) hfin
set_option maxHeartbeats 4000000 in
set_option maxRecDepth 100000 in
theorem law_frequency {p : Program} {l : Launch} {e : Env} {s : State} {m : MethodId} {below : List Frame} {meth : Method} {c : Code} {D : va_G} {cyD cyI cyJ cyZ : ClassId} {A : Nat → Prop} {Q : State → Prop} {b L : Nat} {xs : Nat → Int32} (LF : lawF p s m c D cyD cyI cyJ cyZ A b L xs) {ax ai ag ats a1s a2s atb a1b a2b aw ad ak ar au ae av ab : Nat} {am bv bt bl be bdp bi bg bsd bsv bbd bbv br bu bw : Nat} {ch : Int32} {tf : Nat → UInt64} {gf : Nat → UInt64} {rns : Int32} {sfs : Nat → UInt64} {nfs : Nat → UInt64} {rnb : Int32} {sfb : Nat → UInt64} {nfb : Nat → UInt64} {df : Nat → UInt64} {kf : Nat → Int32} {rf : Nat → Int32} {uf : Nat → Int64} {st : Int32} {fw : Int32} {fo : Int32} {sn : Nat} {me : UInt64} {vf : Nat → UInt64} {lf : Nat → Int32} {sp : UInt64} {sb : UInt64} {no : UInt64} {mv : Nat → UInt64} {mt : Nat → Int32} {med : Nat → Int32} {md : Nat → UInt64} {mr : Nat → Int32} {mu : Nat → Int64} {mw : Nat → Int32} (hR : RI ch tf gf rns sfs nfs rnb sfb nfb df kf rf fw fo sn me vf lf sp sb no mv mt med md mr) {x3 : Int32} (h1 : vp_in (x3 + 1) L) (h2 : vp_in (x3 + 2) L) (h3 : vp_in (x3 + 3) L) {H : Heap} {locs : List Loc} {ls : Array Slot} (hP : va_P D vwCl (wU cyD cyI cyJ cyZ ax ai ag ats a1s a2s atb a1b a2b aw ad ak ar au ae av ab am bv bt bl be bdp bi bg bsd bsv bbd bbv br bu bw ch tf gf rns sfs nfs rnb sfb nfb df kf rf uf st fw fo sn me vf lf sp sb no mv mt med md mr mu mw) H) (hD : va_D A (wU cyD cyI cyJ cyZ ax ai ag ats a1s a2s atb a1b a2b aw ad ak ar au ae av ab am bv bt bl be bdp bi bg bsd bsv bbd bbv br bu bw ch tf gf rns sfs nfs rnb sfb nfb df kf rf uf st fw fo sn me vf lf sp sb no mv mt med md mr mu mw)) (hS : va_S A s.heap H locs) (hl : lv_has ls 8 [(0, .ref b), (1, .ref ax), (2, .ref am), (3, .int x3)]) (kk : lawK p l e s m below meth c D cyD cyI cyJ cyZ A Q b ax ai ag ats a1s a2s atb a1b a2b aw ad ak ar au ae av ab am bv bt bl be bdp bi bg bsd bsv bbd bbv br bu bw x3) : W p l e room_1 s m #[Value.ref b] below meth c H locs 600000 7302250 Q (F0 m 724 ls []) := by
  obtain ⟨hx, hb, hml, hown, hts, hN, hK, hX, hbl, hbA, hA⟩ := LF
  obtain ⟨hE, hM, hlb, hV, hE2, hRR, hrf, hmr, ⟨C, hC4, hch⟩, ⟨Rn, hR4, hfw⟩, ⟨rs, hTs⟩, ⟨rb, hTb⟩, htf, hgf⟩ := id hR
  have hfo1 : fo = 0 ∨ fo = 1 := hRR.elim (fun q => Or.inl q.1) (fun q => Or.inr q.1)
  obtain ⟨a1, ea1⟩ : ∃ y : Int32, y = xs (x3 + 1).toNatClampNeg := ⟨_, rfl⟩
  have hv9 := frequencyEq ch a1
  have hans : ((fX3_frequency ch a1).1) = ((fX4_frequency ch a1).1) := by rw [hv9]
  have hfin : ∀ (ls : Array Slot) (H : Heap) (locs : List Loc), va_P D vwCl ((wB cyD cyI cyJ cyZ ax ai ag ats a1s a2s atb a1b a2b aw ad ak ar au ae av ab ((fX3_frequency ch a1).2) tf gf rns sfs nfs rnb sfb nfb df kf rf uf st fw fo sn me vf lf sp sb no) ++ (wM cyD cyI cyJ cyZ am bv bt bl be bdp bi bg bsd bsv bbd bbv br bu bw sn me ((fX4_frequency ch a1).2) sp sb no rns rnb fo fw mv mt lf med md tf gf sfs nfs sfb nfb mr mu mw)) H → va_D A ((wB cyD cyI cyJ cyZ ax ai ag ats a1s a2s atb a1b a2b aw ad ak ar au ae av ab ((fX3_frequency ch a1).2) tf gf rns sfs nfs rnb sfb nfb df kf rf uf st fw fo sn me vf lf sp sb no) ++ (wM cyD cyI cyJ cyZ am bv bt bl be bdp bi bg bsd bsv bbd bbv br bu bw sn me ((fX4_frequency ch a1).2) sp sb no rns rnb fo fw mv mt lf med md tf gf sfs nfs sfb nfb mr mu mw)) → va_S A s.heap H locs → lv_has ls 8 [(0, .ref b), (1, .ref ax), (2, .ref am), (3, .int x3)] → W p l e room_1 s m #[Value.ref b] below meth c H locs 600000 7302250 Q (F0 m 1173 ls []) := fun ls H locs hP hD hS hl => by
    rw [← hv9] at hP hD
    exact kk ((fX3_frequency ch a1).2) tf gf rns sfs nfs rnb sfb nfb df kf rf uf st fw fo sn me vf lf sp sb no mv mt med md mr mu mw ⟨hE, hM, hlb, hV, hE2, hRR, hrf, hmr, ch_kept ⟨C, hC4, hch⟩, ⟨Rn, hR4, hfw⟩, ⟨rs, hTs⟩, ⟨rb, hTb⟩, htf, hgf⟩ H locs ls hP hD hS hl
  refine lv_aload_n hx hb dL_law_724 rfl (lv_at hl 1 rfl) ?_
  refine lv_aload_n hx hb dL_law_725 rfl (lv_at hl 0 rfl) ?_
  refine lv_iload_n hx hb dL_law_726 rfl (lv_at hl 3 rfl) ?_
  refine lv_iconst (v := 1) hx hb dL_law_727 (by decide) ?_
  refine lv_iadd hx hb dL_law_728 ?_
  refine va_sld hx hb hX hbl hbA hS h1 dL_law_729 ?_
  refine ktopi (y := a1) ea1.symm ?_
  have hPc : va_P D vwCl (wB cyD cyI cyJ cyZ ax ai ag ats a1s a2s atb a1b a2b aw ad ak ar au ae av ab ch tf gf rns sfs nfs rnb sfb nfb df kf rf uf st fw fo sn me vf lf sp sb no) H := hP.sub [0, 1, 2, 3, 4, 5, 6, 7, 8, 9, 10, 11, 12, 13, 14, 15, 16] rfl
  have hDc : va_D A (wB cyD cyI cyJ cyZ ax ai ag ats a1s a2s atb a1b a2b aw ad ak ar au ae av ab ch tf gf rns sfs nfs rnb sfb nfb df kf rf uf st fw fo sn me vf lf sp sb no) := hD.sub [0, 1, 2, 3, 4, 5, 6, 7, 8, 9, 10, 11, 12, 13, 14, 15, 16] (by decide) rfl
  refine kzE (ws' := (wB cyD cyI cyJ cyZ ax ai ag ats a1s a2s atb a1b a2b aw ad ak ar au ae av ab ((fX3_frequency ch a1).2) tf gf rns sfs nfs rnb sfb nfb df kf rf uf st fw fo sn me vf lf sp sb no) ++ (wM cyD cyI cyJ cyZ am bv bt bl be bdp bi bg bsd bsv bbd bbv br bu bw sn me ch sp sb no rns rnb fo fw mv mt lf med md tf gf sfs nfs sfb nfb mr mu mw)) (wc := (wB cyD cyI cyJ cyZ ax ai ag ats a1s a2s atb a1b a2b aw ad ak ar au ae av ab ch tf gf rns sfs nfs rnb sfb nfb df kf rf uf st fw fo sn me vf lf sp sb no)) (wr := (wM cyD cyI cyJ cyZ am bv bt bl be bdp bi bg bsd bsv bbd bbv br bu bw sn me ch sp sb no rns rnb fo fw mv mt lf med md tf gf sfs nfs sfb nfb mr mu mw)) (w1 := (wB cyD cyI cyJ cyZ ax ai ag ats a1s a2s atb a1b a2b aw ad ak ar au ae av ab ((fX3_frequency ch a1).2) tf gf rns sfs nfs rnb sfb nfb df kf rf uf st fw fo sn me vf lf sp sb no)) (va_runV (As := [.int a1]) (rest := []) ⟨hx, hb, hml, hown, hts⟩ (c_X3_frequency (l := l) (D := D) (cyD := cyD) (cyI := cyI) (cyJ := cyJ) (cyZ := cyZ) ax ai ag ats a1s a2s atb a1b a2b aw ad ak ar au ae av ab ch tf gf rns sfs nfs rnb sfb nfb df kf rf uf st fw fo sn me vf lf sp sb no H.size a1) (cwV 1 hts gL_law_X3_frequency rfl rfl rfl (by decide +kernel) ⟨Nat.le_of_ble_eq_true rfl, Nat.le_of_ble_eq_true rfl⟩) (kV (ci := 3) (q0 := 0) (q := (RX3, TX3, 7)) hN hK hPc hDc rfl rfl rfl) rfl rfl hl.1 rfl (lv_room (Nat.le_of_ble_eq_true rfl)) dL_law_730 ⟨Nat.le_of_ble_eq_true rfl, Nat.le_of_ble_eq_true rfl⟩) hP hD hS hA [0, 1, 2, 3, 4, 5, 6, 7, 8, 9, 10, 11, 12, 13, 14, 15, 16] [17, 18, 19, 20, 21, 22, 23, 24, 25, 26, 27, 28, 29, 30, 31] [15, 16, 17, 18, 19, 20, 21, 22, 23, 24, 25, 26, 27, 28, 29, 30, 31, 0, 1, 2, 3, 4, 5, 6, 7, 8, 9, 10, 11, 12, 13, 14] rfl rfl (by decide) (by decide) rfl (by decide) (fun H locs hz_730 hP hD hS => ?_)
  refine lv_aload_n hx hb dL_law_733 rfl (lv_at hl 2 rfl) ?_
  refine lv_aload_n hx hb dL_law_734 rfl (lv_at hl 0 rfl) ?_
  refine lv_iload_n hx hb dL_law_735 rfl (lv_at hl 3 rfl) ?_
  refine lv_iconst (v := 1) hx hb dL_law_736 (by decide) ?_
  refine lv_iadd hx hb dL_law_737 ?_
  refine va_sld hx hb hX hbl hbA hS h1 dL_law_738 ?_
  refine ktopi (y := a1) ea1.symm ?_
  have hPc : va_P D vwCl (wM cyD cyI cyJ cyZ am bv bt bl be bdp bi bg bsd bsv bbd bbv br bu bw sn me ch sp sb no rns rnb fo fw mv mt lf med md tf gf sfs nfs sfb nfb mr mu mw) H := hP.sub [17, 18, 19, 20, 21, 22, 23, 24, 25, 26, 27, 28, 29, 30, 31] rfl
  have hDc : va_D A (wM cyD cyI cyJ cyZ am bv bt bl be bdp bi bg bsd bsv bbd bbv br bu bw sn me ch sp sb no rns rnb fo fw mv mt lf med md tf gf sfs nfs sfb nfb mr mu mw) := hD.sub [17, 18, 19, 20, 21, 22, 23, 24, 25, 26, 27, 28, 29, 30, 31] (by decide) rfl
  refine kzE (ws' := (wB cyD cyI cyJ cyZ ax ai ag ats a1s a2s atb a1b a2b aw ad ak ar au ae av ab ((fX3_frequency ch a1).2) tf gf rns sfs nfs rnb sfb nfb df kf rf uf st fw fo sn me vf lf sp sb no) ++ (wM cyD cyI cyJ cyZ am bv bt bl be bdp bi bg bsd bsv bbd bbv br bu bw sn me ((fX4_frequency ch a1).2) sp sb no rns rnb fo fw mv mt lf med md tf gf sfs nfs sfb nfb mr mu mw)) (wc := (wM cyD cyI cyJ cyZ am bv bt bl be bdp bi bg bsd bsv bbd bbv br bu bw sn me ch sp sb no rns rnb fo fw mv mt lf med md tf gf sfs nfs sfb nfb mr mu mw)) (wr := (wB cyD cyI cyJ cyZ ax ai ag ats a1s a2s atb a1b a2b aw ad ak ar au ae av ab ((fX3_frequency ch a1).2) tf gf rns sfs nfs rnb sfb nfb df kf rf uf st fw fo sn me vf lf sp sb no)) (w1 := (wM cyD cyI cyJ cyZ am bv bt bl be bdp bi bg bsd bsv bbd bbv br bu bw sn me ((fX4_frequency ch a1).2) sp sb no rns rnb fo fw mv mt lf med md tf gf sfs nfs sfb nfb mr mu mw)) (va_runV (As := [.int a1]) (rest := [.int ((fX3_frequency ch a1).1)]) ⟨hx, hb, hml, hown, hts⟩ (c_X4_frequency (l := l) (D := D) (cyD := cyD) (cyI := cyI) (cyJ := cyJ) (cyZ := cyZ) am bv bt bl be bdp bi bg bsd bsv bbd bbv br bu bw sn me ch sp sb no rns rnb fo fw mv mt lf med md tf gf sfs nfs sfb nfb mr mu mw H.size a1) (cwV 1 hts gL_law_X4_frequency rfl rfl rfl (by decide +kernel) ⟨Nat.le_of_ble_eq_true rfl, Nat.le_of_ble_eq_true rfl⟩) (kV (ci := 4) (q0 := 0) (q := (RX4, TX4, 24)) hN hK hPc hDc rfl rfl rfl) rfl rfl hl.1 rfl (lv_room (Nat.le_of_ble_eq_true rfl)) dL_law_739 ⟨Nat.le_of_ble_eq_true rfl, Nat.le_of_ble_eq_true rfl⟩) hP hD hS hA [17, 18, 19, 20, 21, 22, 23, 24, 25, 26, 27, 28, 29, 30, 31] [0, 1, 2, 3, 4, 5, 6, 7, 8, 9, 10, 11, 12, 13, 14, 15, 16] [0, 1, 2, 3, 4, 5, 6, 7, 8, 9, 10, 11, 12, 13, 14, 15, 16, 17, 18, 19, 20, 21, 22, 23, 24, 25, 26, 27, 28, 29, 30, 31] rfl rfl (by decide) (by decide) rfl (by decide) (fun H locs hz_739 hP hD hS => ?_)
  refine lv_icmp_eq (tgt := 1173) hx hb dL_law_742 (by decide) (fun _ => ?_) (fun h9 => absurd hans h9)
  exact hfin ls H locs hP hD hS hl
set_option maxHeartbeats 4000000 in
set_option maxRecDepth 100000 in
theorem law_joined {p : Program} {l : Launch} {e : Env} {s : State} {m : MethodId} {below : List Frame} {meth : Method} {c : Code} {D : va_G} {cyD cyI cyJ cyZ : ClassId} {A : Nat → Prop} {Q : State → Prop} {b L : Nat} {xs : Nat → Int32} (LF : lawF p s m c D cyD cyI cyJ cyZ A b L xs) {ax ai ag ats a1s a2s atb a1b a2b aw ad ak ar au ae av ab : Nat} {am bv bt bl be bdp bi bg bsd bsv bbd bbv br bu bw : Nat} {ch : Int32} {tf : Nat → UInt64} {gf : Nat → UInt64} {rns : Int32} {sfs : Nat → UInt64} {nfs : Nat → UInt64} {rnb : Int32} {sfb : Nat → UInt64} {nfb : Nat → UInt64} {df : Nat → UInt64} {kf : Nat → Int32} {rf : Nat → Int32} {uf : Nat → Int64} {st : Int32} {fw : Int32} {fo : Int32} {sn : Nat} {me : UInt64} {vf : Nat → UInt64} {lf : Nat → Int32} {sp : UInt64} {sb : UInt64} {no : UInt64} {mv : Nat → UInt64} {mt : Nat → Int32} {med : Nat → Int32} {md : Nat → UInt64} {mr : Nat → Int32} {mu : Nat → Int64} {mw : Nat → Int32} (hR : RI ch tf gf rns sfs nfs rnb sfb nfb df kf rf fw fo sn me vf lf sp sb no mv mt med md mr) {x3 : Int32} (h1 : vp_in (x3 + 1) L) (h2 : vp_in (x3 + 2) L) (h3 : vp_in (x3 + 3) L) {H : Heap} {locs : List Loc} {ls : Array Slot} (hP : va_P D vwCl (wU cyD cyI cyJ cyZ ax ai ag ats a1s a2s atb a1b a2b aw ad ak ar au ae av ab am bv bt bl be bdp bi bg bsd bsv bbd bbv br bu bw ch tf gf rns sfs nfs rnb sfb nfb df kf rf uf st fw fo sn me vf lf sp sb no mv mt med md mr mu mw) H) (hD : va_D A (wU cyD cyI cyJ cyZ ax ai ag ats a1s a2s atb a1b a2b aw ad ak ar au ae av ab am bv bt bl be bdp bi bg bsd bsv bbd bbv br bu bw ch tf gf rns sfs nfs rnb sfb nfb df kf rf uf st fw fo sn me vf lf sp sb no mv mt med md mr mu mw)) (hS : va_S A s.heap H locs) (hl : lv_has ls 8 [(0, .ref b), (1, .ref ax), (2, .ref am), (3, .int x3)]) (kk : lawK p l e s m below meth c D cyD cyI cyJ cyZ A Q b ax ai ag ats a1s a2s atb a1b a2b aw ad ak ar au ae av ab am bv bt bl be bdp bi bg bsd bsv bbd bbv br bu bw x3) : W p l e room_1 s m #[Value.ref b] below meth c H locs 600000 7302250 Q (F0 m 747 ls []) := by
  obtain ⟨hx, hb, hml, hown, hts, hN, hK, hX, hbl, hbA, hA⟩ := LF
  obtain ⟨hE, hM, hlb, hV, hE2, hRR, hrf, hmr, ⟨C, hC4, hch⟩, ⟨Rn, hR4, hfw⟩, ⟨rs, hTs⟩, ⟨rb, hTb⟩, htf, hgf⟩ := id hR
  have hfo1 : fo = 0 ∨ fo = 1 := hRR.elim (fun q => Or.inl q.1) (fun q => Or.inr q.1)
  obtain ⟨a1, ea1⟩ : ∃ y : Int32, y = xs (x3 + 1).toNatClampNeg := ⟨_, rfl⟩
  obtain ⟨a2, ea2⟩ : ∃ y : Int32, y = xs (x3 + 2).toNatClampNeg := ⟨_, rfl⟩
  obtain ⟨a3, ea3⟩ : ∃ y : Int32, y = xs (x3 + 3).toNatClampNeg := ⟨_, rfl⟩
  have hans : (fX3_joined sn me vf lf sp sb no a1 a2 a3) = (fX4_joined sn me sp sb no mv mt lf a1 a2 a3) := joinEq hM.2.1 hM.2.2.1 hlb hV a1 a2 a3
  have hfin : ∀ (ls : Array Slot) (H : Heap) (locs : List Loc), va_P D vwCl ((wB cyD cyI cyJ cyZ ax ai ag ats a1s a2s atb a1b a2b aw ad ak ar au ae av ab ch tf gf rns sfs nfs rnb sfb nfb df kf rf uf st fw fo sn me vf lf sp sb no) ++ (wM cyD cyI cyJ cyZ am bv bt bl be bdp bi bg bsd bsv bbd bbv br bu bw sn me ch sp sb no rns rnb fo fw mv mt lf med md tf gf sfs nfs sfb nfb mr mu mw)) H → va_D A ((wB cyD cyI cyJ cyZ ax ai ag ats a1s a2s atb a1b a2b aw ad ak ar au ae av ab ch tf gf rns sfs nfs rnb sfb nfb df kf rf uf st fw fo sn me vf lf sp sb no) ++ (wM cyD cyI cyJ cyZ am bv bt bl be bdp bi bg bsd bsv bbd bbv br bu bw sn me ch sp sb no rns rnb fo fw mv mt lf med md tf gf sfs nfs sfb nfb mr mu mw)) → va_S A s.heap H locs → lv_has ls 8 [(0, .ref b), (1, .ref ax), (2, .ref am), (3, .int x3)] → W p l e room_1 s m #[Value.ref b] below meth c H locs 600000 7302250 Q (F0 m 1173 ls []) := fun ls H locs hP hD hS hl => by
    exact kk ch tf gf rns sfs nfs rnb sfb nfb df kf rf uf st fw fo sn me vf lf sp sb no mv mt med md mr mu mw hR H locs ls hP hD hS hl
  refine lv_aload_n hx hb dL_law_747 rfl (lv_at hl 1 rfl) ?_
  refine lv_aload_n hx hb dL_law_748 rfl (lv_at hl 0 rfl) ?_
  refine lv_iload_n hx hb dL_law_749 rfl (lv_at hl 3 rfl) ?_
  refine lv_iconst (v := 1) hx hb dL_law_750 (by decide) ?_
  refine lv_iadd hx hb dL_law_751 ?_
  refine va_sld hx hb hX hbl hbA hS h1 dL_law_752 ?_
  refine ktopi (y := a1) ea1.symm ?_
  refine lv_aload_n hx hb dL_law_753 rfl (lv_at hl 0 rfl) ?_
  refine lv_iload_n hx hb dL_law_754 rfl (lv_at hl 3 rfl) ?_
  refine lv_iconst (v := 2) hx hb dL_law_755 (by decide) ?_
  refine lv_iadd hx hb dL_law_756 ?_
  refine va_sld hx hb hX hbl hbA hS h2 dL_law_757 ?_
  refine ktopi (y := a2) ea2.symm ?_
  refine lv_aload_n hx hb dL_law_758 rfl (lv_at hl 0 rfl) ?_
  refine lv_iload_n hx hb dL_law_759 rfl (lv_at hl 3 rfl) ?_
  refine lv_iconst (v := 3) hx hb dL_law_760 (by decide) ?_
  refine lv_iadd hx hb dL_law_761 ?_
  refine va_sld hx hb hX hbl hbA hS h3 dL_law_762 ?_
  refine ktopi (y := a3) ea3.symm ?_
  have hPc : va_P D vwCl (wB cyD cyI cyJ cyZ ax ai ag ats a1s a2s atb a1b a2b aw ad ak ar au ae av ab ch tf gf rns sfs nfs rnb sfb nfb df kf rf uf st fw fo sn me vf lf sp sb no) H := hP.sub [0, 1, 2, 3, 4, 5, 6, 7, 8, 9, 10, 11, 12, 13, 14, 15, 16] rfl
  have hDc : va_D A (wB cyD cyI cyJ cyZ ax ai ag ats a1s a2s atb a1b a2b aw ad ak ar au ae av ab ch tf gf rns sfs nfs rnb sfb nfb df kf rf uf st fw fo sn me vf lf sp sb no) := hD.sub [0, 1, 2, 3, 4, 5, 6, 7, 8, 9, 10, 11, 12, 13, 14, 15, 16] (by decide) rfl
  refine kdE (ws' := (wB cyD cyI cyJ cyZ ax ai ag ats a1s a2s atb a1b a2b aw ad ak ar au ae av ab ch tf gf rns sfs nfs rnb sfb nfb df kf rf uf st fw fo sn me vf lf sp sb no) ++ (wM cyD cyI cyJ cyZ am bv bt bl be bdp bi bg bsd bsv bbd bbv br bu bw sn me ch sp sb no rns rnb fo fw mv mt lf med md tf gf sfs nfs sfb nfb mr mu mw)) (wc := (wB cyD cyI cyJ cyZ ax ai ag ats a1s a2s atb a1b a2b aw ad ak ar au ae av ab ch tf gf rns sfs nfs rnb sfb nfb df kf rf uf st fw fo sn me vf lf sp sb no)) (wr := (wM cyD cyI cyJ cyZ am bv bt bl be bdp bi bg bsd bsv bbd bbv br bu bw sn me ch sp sb no rns rnb fo fw mv mt lf med md tf gf sfs nfs sfb nfb mr mu mw)) (w1 := (wB cyD cyI cyJ cyZ ax ai ag ats a1s a2s atb a1b a2b aw ad ak ar au ae av ab ch tf gf rns sfs nfs rnb sfb nfb df kf rf uf st fw fo sn me vf lf sp sb no)) (va_runV (As := [.int a1, .int a2, .int a3]) (rest := []) ⟨hx, hb, hml, hown, hts⟩ (c_X3_joined (l := l) (D := D) (cyD := cyD) (cyI := cyI) (cyJ := cyJ) (cyZ := cyZ) ax ai ag ats a1s a2s atb a1b a2b aw ad ak ar au ae av ab ch tf gf rns sfs nfs rnb sfb nfb df kf rf uf st fw fo sn me vf lf sp sb no H.size a1 a2 a3 hE) (cwV 3 hts gL_law_X3_joined rfl rfl rfl (by decide +kernel) ⟨Nat.le_of_ble_eq_true rfl, Nat.le_of_ble_eq_true rfl⟩) (kV (ci := 3) (q0 := 0) (q := (RX3, TX3, 7)) hN hK hPc hDc rfl rfl rfl) rfl rfl hl.1 rfl (lv_room (Nat.le_of_ble_eq_true rfl)) dL_law_763 ⟨Nat.le_of_ble_eq_true rfl, Nat.le_of_ble_eq_true rfl⟩) hP hD hS hA [0, 1, 2, 3, 4, 5, 6, 7, 8, 9, 10, 11, 12, 13, 14, 15, 16] [17, 18, 19, 20, 21, 22, 23, 24, 25, 26, 27, 28, 29, 30, 31] [15, 16, 17, 18, 19, 20, 21, 22, 23, 24, 25, 26, 27, 28, 29, 30, 31, 0, 1, 2, 3, 4, 5, 6, 7, 8, 9, 10, 11, 12, 13, 14] rfl rfl (by decide) (by decide) rfl (by decide) (fun H locs hP hD hS => ?_)
  refine lv_dstore (lv' := [(4, .double (fX3_joined sn me vf lf sp sb no a1 a2 a3)), (0, .ref b), (1, .ref ax), (2, .ref am), (3, .int x3)]) hx hb dL_law_766 hl (by decide) rfl (fun ls hl => ?_)
  refine lv_aload_n hx hb dL_law_768 rfl (lv_at hl 3 rfl) ?_
  refine lv_aload_n hx hb dL_law_769 rfl (lv_at hl 1 rfl) ?_
  refine lv_iload_n hx hb dL_law_770 rfl (lv_at hl 4 rfl) ?_
  refine lv_iconst (v := 1) hx hb dL_law_771 (by decide) ?_
  refine lv_iadd hx hb dL_law_772 ?_
  refine va_sld hx hb hX hbl hbA hS h1 dL_law_773 ?_
  refine ktopi (y := a1) ea1.symm ?_
  refine lv_aload_n hx hb dL_law_774 rfl (lv_at hl 1 rfl) ?_
  refine lv_iload_n hx hb dL_law_775 rfl (lv_at hl 4 rfl) ?_
  refine lv_iconst (v := 2) hx hb dL_law_776 (by decide) ?_
  refine lv_iadd hx hb dL_law_777 ?_
  refine va_sld hx hb hX hbl hbA hS h2 dL_law_778 ?_
  refine ktopi (y := a2) ea2.symm ?_
  refine lv_aload_n hx hb dL_law_779 rfl (lv_at hl 1 rfl) ?_
  refine lv_iload_n hx hb dL_law_780 rfl (lv_at hl 4 rfl) ?_
  refine lv_iconst (v := 3) hx hb dL_law_781 (by decide) ?_
  refine lv_iadd hx hb dL_law_782 ?_
  refine va_sld hx hb hX hbl hbA hS h3 dL_law_783 ?_
  refine ktopi (y := a3) ea3.symm ?_
  have hPc : va_P D vwCl (wM cyD cyI cyJ cyZ am bv bt bl be bdp bi bg bsd bsv bbd bbv br bu bw sn me ch sp sb no rns rnb fo fw mv mt lf med md tf gf sfs nfs sfb nfb mr mu mw) H := hP.sub [17, 18, 19, 20, 21, 22, 23, 24, 25, 26, 27, 28, 29, 30, 31] rfl
  have hDc : va_D A (wM cyD cyI cyJ cyZ am bv bt bl be bdp bi bg bsd bsv bbd bbv br bu bw sn me ch sp sb no rns rnb fo fw mv mt lf med md tf gf sfs nfs sfb nfb mr mu mw) := hD.sub [17, 18, 19, 20, 21, 22, 23, 24, 25, 26, 27, 28, 29, 30, 31] (by decide) rfl
  refine kdE (ws' := (wB cyD cyI cyJ cyZ ax ai ag ats a1s a2s atb a1b a2b aw ad ak ar au ae av ab ch tf gf rns sfs nfs rnb sfb nfb df kf rf uf st fw fo sn me vf lf sp sb no) ++ (wM cyD cyI cyJ cyZ am bv bt bl be bdp bi bg bsd bsv bbd bbv br bu bw sn me ch sp sb no rns rnb fo fw mv mt lf med md tf gf sfs nfs sfb nfb mr mu mw)) (wc := (wM cyD cyI cyJ cyZ am bv bt bl be bdp bi bg bsd bsv bbd bbv br bu bw sn me ch sp sb no rns rnb fo fw mv mt lf med md tf gf sfs nfs sfb nfb mr mu mw)) (wr := (wB cyD cyI cyJ cyZ ax ai ag ats a1s a2s atb a1b a2b aw ad ak ar au ae av ab ch tf gf rns sfs nfs rnb sfb nfb df kf rf uf st fw fo sn me vf lf sp sb no)) (w1 := (wM cyD cyI cyJ cyZ am bv bt bl be bdp bi bg bsd bsv bbd bbv br bu bw sn me ch sp sb no rns rnb fo fw mv mt lf med md tf gf sfs nfs sfb nfb mr mu mw)) (va_runV (As := [.int a1, .int a2, .int a3]) (rest := []) ⟨hx, hb, hml, hown, hts⟩ (c_X4_joined (l := l) (D := D) (cyD := cyD) (cyI := cyI) (cyJ := cyJ) (cyZ := cyZ) am bv bt bl be bdp bi bg bsd bsv bbd bbv br bu bw sn me ch sp sb no rns rnb fo fw mv mt lf med md tf gf sfs nfs sfb nfb mr mu mw H.size a1 a2 a3 hM hlb) (cwV 3 hts gL_law_X4_joined rfl rfl rfl (by decide +kernel) ⟨Nat.le_of_ble_eq_true rfl, Nat.le_of_ble_eq_true rfl⟩) (kV (ci := 4) (q0 := 0) (q := (RX4, TX4, 24)) hN hK hPc hDc rfl rfl rfl) rfl rfl hl.1 rfl (lv_room (Nat.le_of_ble_eq_true rfl)) dL_law_784 ⟨Nat.le_of_ble_eq_true rfl, Nat.le_of_ble_eq_true rfl⟩) hP hD hS hA [17, 18, 19, 20, 21, 22, 23, 24, 25, 26, 27, 28, 29, 30, 31] [0, 1, 2, 3, 4, 5, 6, 7, 8, 9, 10, 11, 12, 13, 14, 15, 16] [0, 1, 2, 3, 4, 5, 6, 7, 8, 9, 10, 11, 12, 13, 14, 15, 16, 17, 18, 19, 20, 21, 22, 23, 24, 25, 26, 27, 28, 29, 30, 31] rfl rfl (by decide) (by decide) rfl (by decide) (fun H locs hP hD hS => ?_)
  refine ktopd (y := (fX3_joined sn me vf lf sp sb no a1 a2 a3)) hans.symm ?_
  refine lv_dstore (lv' := [(6, .double (fX3_joined sn me vf lf sp sb no a1 a2 a3)), (4, .double (fX3_joined sn me vf lf sp sb no a1 a2 a3)), (0, .ref b), (1, .ref ax), (2, .ref am), (3, .int x3)]) hx hb dL_law_787 hl (by decide) rfl (fun ls hl => ?_)
  have hfin := hfin ls H locs hP hD hS (lv_sub hl [2, 3, 4, 5] rfl)
  refine lv_dload hx hb dL_law_789 (lv_at hl 1 rfl) ?_
  refine lv_dload hx hb dL_law_791 (lv_at hl 0 rfl) ?_
  refine lv_dcmp hx hb dL_law_793 ?_
  refine lv_if_eq (tgt := 815) hx hb dL_law_794 (by decide) (fun c_1 => ?_) (fun c_1 => ?_)
  · exact lv_goto (tgt := 1173) hx hb dL_law_815 (by decide) hfin
  refine lv_dload hx hb dL_law_797 (lv_at hl 1 rfl) ?_
  refine lv_dload hx hb dL_law_799 (lv_at hl 1 rfl) ?_
  refine lv_dcmp hx hb dL_law_801 ?_
  refine lv_if_eq (tgt := 813) hx hb dL_law_802 (by decide) (fun c_2 => absurd c_2 c_1) (fun c_2 => ?_)
  refine lv_dload hx hb dL_law_805 (lv_at hl 0 rfl) ?_
  refine lv_dload hx hb dL_law_807 (lv_at hl 0 rfl) ?_
  refine lv_dcmp hx hb dL_law_809 ?_
  refine lv_if_ne (tgt := 815) hx hb dL_law_810 (by decide) (fun c_3 => ?_) (fun c_3 => absurd c_3 c_1)
  exact lv_goto (tgt := 1173) hx hb dL_law_815 (by decide) hfin
set_option maxHeartbeats 4000000 in
set_option maxRecDepth 100000 in
theorem law_ball {p : Program} {l : Launch} {e : Env} {s : State} {m : MethodId} {below : List Frame} {meth : Method} {c : Code} {D : va_G} {cyD cyI cyJ cyZ : ClassId} {A : Nat → Prop} {Q : State → Prop} {b L : Nat} {xs : Nat → Int32} (LF : lawF p s m c D cyD cyI cyJ cyZ A b L xs) {ax ai ag ats a1s a2s atb a1b a2b aw ad ak ar au ae av ab : Nat} {am bv bt bl be bdp bi bg bsd bsv bbd bbv br bu bw : Nat} {ch : Int32} {tf : Nat → UInt64} {gf : Nat → UInt64} {rns : Int32} {sfs : Nat → UInt64} {nfs : Nat → UInt64} {rnb : Int32} {sfb : Nat → UInt64} {nfb : Nat → UInt64} {df : Nat → UInt64} {kf : Nat → Int32} {rf : Nat → Int32} {uf : Nat → Int64} {st : Int32} {fw : Int32} {fo : Int32} {sn : Nat} {me : UInt64} {vf : Nat → UInt64} {lf : Nat → Int32} {sp : UInt64} {sb : UInt64} {no : UInt64} {mv : Nat → UInt64} {mt : Nat → Int32} {med : Nat → Int32} {md : Nat → UInt64} {mr : Nat → Int32} {mu : Nat → Int64} {mw : Nat → Int32} (hR : RI ch tf gf rns sfs nfs rnb sfb nfb df kf rf fw fo sn me vf lf sp sb no mv mt med md mr) {x3 : Int32} (h1 : vp_in (x3 + 1) L) (h2 : vp_in (x3 + 2) L) (h3 : vp_in (x3 + 3) L) {H : Heap} {locs : List Loc} {ls : Array Slot} (hP : va_P D vwCl (wU cyD cyI cyJ cyZ ax ai ag ats a1s a2s atb a1b a2b aw ad ak ar au ae av ab am bv bt bl be bdp bi bg bsd bsv bbd bbv br bu bw ch tf gf rns sfs nfs rnb sfb nfb df kf rf uf st fw fo sn me vf lf sp sb no mv mt med md mr mu mw) H) (hD : va_D A (wU cyD cyI cyJ cyZ ax ai ag ats a1s a2s atb a1b a2b aw ad ak ar au ae av ab am bv bt bl be bdp bi bg bsd bsv bbd bbv br bu bw ch tf gf rns sfs nfs rnb sfb nfb df kf rf uf st fw fo sn me vf lf sp sb no mv mt med md mr mu mw)) (hS : va_S A s.heap H locs) (hl : lv_has ls 8 [(0, .ref b), (1, .ref ax), (2, .ref am), (3, .int x3)]) (kk : lawK p l e s m below meth c D cyD cyI cyJ cyZ A Q b ax ai ag ats a1s a2s atb a1b a2b aw ad ak ar au ae av ab am bv bt bl be bdp bi bg bsd bsv bbd bbv br bu bw x3) : W p l e room_1 s m #[Value.ref b] below meth c H locs 600000 7302250 Q (F0 m 818 ls []) := by
  obtain ⟨hx, hb, hml, hown, hts, hN, hK, hX, hbl, hbA, hA⟩ := LF
  obtain ⟨hE, hM, hlb, hV, hE2, hRR, hrf, hmr, ⟨C, hC4, hch⟩, ⟨Rn, hR4, hfw⟩, ⟨rs, hTs⟩, ⟨rb, hTb⟩, htf, hgf⟩ := id hR
  have hfo1 : fo = 0 ∨ fo = 1 := hRR.elim (fun q => Or.inl q.1) (fun q => Or.inr q.1)
  obtain ⟨a1, ea1⟩ : ∃ y : Int32, y = xs (x3 + 1).toNatClampNeg := ⟨_, rfl⟩
  obtain ⟨a2, ea2⟩ : ∃ y : Int32, y = xs (x3 + 2).toNatClampNeg := ⟨_, rfl⟩
  obtain ⟨d1, ed1⟩ : ∃ y : UInt64, y = FP.dmul (FP.i2d a1) 4593671619917905920 := ⟨_, rfl⟩
  have hd1 : bd 1055 d1 := by rw [ed1]; exact eighth_bd a1
  obtain ⟨d2, ed2⟩ : ∃ y : UInt64, y = FP.dmul (FP.i2d a2) 4593671619917905920 := ⟨_, rfl⟩
  have hd2 : bd 1055 d2 := by rw [ed2]; exact eighth_bd a2
  obtain ⟨hv8, hv9, hv7⟩ := ballEq hTb hd1 hd2
  have hans : ((fX3_ball rnb sfb nfb d1 d2).1) = ((fX4_ball rnb sfb nfb d1 d2).1) := hv8
  have hfin : ∀ (ls : Array Slot) (H : Heap) (locs : List Loc), va_P D vwCl ((wB cyD cyI cyJ cyZ ax ai ag ats a1s a2s atb a1b a2b aw ad ak ar au ae av ab ch tf gf rns sfs nfs ((fX3_ball rnb sfb nfb d1 d2).2.1) ((fX3_ball rnb sfb nfb d1 d2).2.2.1) ((fX3_ball rnb sfb nfb d1 d2).2.2.2) df kf rf uf st fw fo sn me vf lf sp sb no) ++ (wM cyD cyI cyJ cyZ am bv bt bl be bdp bi bg bsd bsv bbd bbv br bu bw sn me ch sp sb no rns ((fX4_ball rnb sfb nfb d1 d2).2.1) fo fw mv mt lf med md tf gf sfs nfs ((fX4_ball rnb sfb nfb d1 d2).2.2.1) ((fX4_ball rnb sfb nfb d1 d2).2.2.2) mr mu mw)) H → va_D A ((wB cyD cyI cyJ cyZ ax ai ag ats a1s a2s atb a1b a2b aw ad ak ar au ae av ab ch tf gf rns sfs nfs ((fX3_ball rnb sfb nfb d1 d2).2.1) ((fX3_ball rnb sfb nfb d1 d2).2.2.1) ((fX3_ball rnb sfb nfb d1 d2).2.2.2) df kf rf uf st fw fo sn me vf lf sp sb no) ++ (wM cyD cyI cyJ cyZ am bv bt bl be bdp bi bg bsd bsv bbd bbv br bu bw sn me ch sp sb no rns ((fX4_ball rnb sfb nfb d1 d2).2.1) fo fw mv mt lf med md tf gf sfs nfs ((fX4_ball rnb sfb nfb d1 d2).2.2.1) ((fX4_ball rnb sfb nfb d1 d2).2.2.2) mr mu mw)) → va_S A s.heap H locs → lv_has ls 8 [(0, .ref b), (1, .ref ax), (2, .ref am), (3, .int x3)] → W p l e room_1 s m #[Value.ref b] below meth c H locs 600000 7302250 Q (F0 m 1173 ls []) := fun ls H locs hP hD hS hl => by
    rw [← hv9] at hP hD
    exact kk ch tf gf rns sfs nfs ((fX3_ball rnb sfb nfb d1 d2).2.1) ((fX3_ball rnb sfb nfb d1 d2).2.2.1) ((fX3_ball rnb sfb nfb d1 d2).2.2.2) df kf rf uf st fw fo sn me vf lf sp sb no mv mt med md mr mu mw ⟨hE, hM, hlb, hV, hE2, hRR, hrf, hmr, ⟨C, hC4, hch⟩, ⟨Rn, hR4, hfw⟩, ⟨rs, hTs⟩, hv7, htf, hgf⟩ H locs ls hP hD hS hl
  refine lv_aload_n hx hb dL_law_818 rfl (lv_at hl 1 rfl) ?_
  refine lv_aload_n hx hb dL_law_819 rfl (lv_at hl 0 rfl) ?_
  refine lv_iload_n hx hb dL_law_820 rfl (lv_at hl 3 rfl) ?_
  refine lv_iconst (v := 1) hx hb dL_law_821 (by decide) ?_
  refine lv_iadd hx hb dL_law_822 ?_
  refine va_sld hx hb hX hbl hbA hS h1 dL_law_823 ?_
  refine ktopi (y := a1) ea1.symm ?_
  refine lv_i2d hx hb dL_law_824 ?_
  refine lv_ldc2d (v := 4593671619917905920) hx hb hown (hts _ wL21) dL_law_825 ?_
  refine lv_dmul hx hb dL_law_828 (bd_n (eighth_bd a1) (by decide)) ?_
  refine ktopd (y := d1) ed1.symm ?_
  refine lv_aload_n hx hb dL_law_829 rfl (lv_at hl 0 rfl) ?_
  refine lv_iload_n hx hb dL_law_830 rfl (lv_at hl 3 rfl) ?_
  refine lv_iconst (v := 2) hx hb dL_law_831 (by decide) ?_
  refine lv_iadd hx hb dL_law_832 ?_
  refine va_sld hx hb hX hbl hbA hS h2 dL_law_833 ?_
  refine ktopi (y := a2) ea2.symm ?_
  refine lv_i2d hx hb dL_law_834 ?_
  refine lv_ldc2d (v := 4593671619917905920) hx hb hown (hts _ wL21) dL_law_835 ?_
  refine lv_dmul hx hb dL_law_838 (bd_n (eighth_bd a2) (by decide)) ?_
  refine ktopd (y := d2) ed2.symm ?_
  have hPc : va_P D vwCl (wB cyD cyI cyJ cyZ ax ai ag ats a1s a2s atb a1b a2b aw ad ak ar au ae av ab ch tf gf rns sfs nfs rnb sfb nfb df kf rf uf st fw fo sn me vf lf sp sb no) H := hP.sub [0, 1, 2, 3, 4, 5, 6, 7, 8, 9, 10, 11, 12, 13, 14, 15, 16] rfl
  have hDc : va_D A (wB cyD cyI cyJ cyZ ax ai ag ats a1s a2s atb a1b a2b aw ad ak ar au ae av ab ch tf gf rns sfs nfs rnb sfb nfb df kf rf uf st fw fo sn me vf lf sp sb no) := hD.sub [0, 1, 2, 3, 4, 5, 6, 7, 8, 9, 10, 11, 12, 13, 14, 15, 16] (by decide) rfl
  refine kzE (ws' := (wB cyD cyI cyJ cyZ ax ai ag ats a1s a2s atb a1b a2b aw ad ak ar au ae av ab ch tf gf rns sfs nfs ((fX3_ball rnb sfb nfb d1 d2).2.1) ((fX3_ball rnb sfb nfb d1 d2).2.2.1) ((fX3_ball rnb sfb nfb d1 d2).2.2.2) df kf rf uf st fw fo sn me vf lf sp sb no) ++ (wM cyD cyI cyJ cyZ am bv bt bl be bdp bi bg bsd bsv bbd bbv br bu bw sn me ch sp sb no rns rnb fo fw mv mt lf med md tf gf sfs nfs sfb nfb mr mu mw)) (wc := (wB cyD cyI cyJ cyZ ax ai ag ats a1s a2s atb a1b a2b aw ad ak ar au ae av ab ch tf gf rns sfs nfs rnb sfb nfb df kf rf uf st fw fo sn me vf lf sp sb no)) (wr := (wM cyD cyI cyJ cyZ am bv bt bl be bdp bi bg bsd bsv bbd bbv br bu bw sn me ch sp sb no rns rnb fo fw mv mt lf med md tf gf sfs nfs sfb nfb mr mu mw)) (w1 := (wB cyD cyI cyJ cyZ ax ai ag ats a1s a2s atb a1b a2b aw ad ak ar au ae av ab ch tf gf rns sfs nfs ((fX3_ball rnb sfb nfb d1 d2).2.1) ((fX3_ball rnb sfb nfb d1 d2).2.2.1) ((fX3_ball rnb sfb nfb d1 d2).2.2.2) df kf rf uf st fw fo sn me vf lf sp sb no)) (va_runV (As := [.double d1, .double d2]) (rest := []) ⟨hx, hb, hml, hown, hts⟩ (c_X3_ball (l := l) (D := D) (cyD := cyD) (cyI := cyI) (cyJ := cyJ) (cyZ := cyZ) ax ai ag ats a1s a2s atb a1b a2b aw ad ak ar au ae av ab ch tf gf rns sfs nfs rnb sfb nfb df kf rf uf st fw fo sn me vf lf sp sb no H.size d1 d2 rb hTb.1 hTb.2.1) (cwV 2 hts gL_law_X3_ball rfl rfl rfl (by decide +kernel) ⟨Nat.le_of_ble_eq_true rfl, Nat.le_of_ble_eq_true rfl⟩) (kV (ci := 3) (q0 := 0) (q := (RX3, TX3, 7)) hN hK hPc hDc rfl rfl rfl) rfl rfl hl.1 rfl (lv_room (Nat.le_of_ble_eq_true rfl)) dL_law_839 ⟨Nat.le_of_ble_eq_true rfl, Nat.le_of_ble_eq_true rfl⟩) hP hD hS hA [0, 1, 2, 3, 4, 5, 6, 7, 8, 9, 10, 11, 12, 13, 14, 15, 16] [17, 18, 19, 20, 21, 22, 23, 24, 25, 26, 27, 28, 29, 30, 31] [15, 16, 17, 18, 19, 20, 21, 22, 23, 24, 25, 26, 27, 28, 29, 30, 31, 0, 1, 2, 3, 4, 5, 6, 7, 8, 9, 10, 11, 12, 13, 14] rfl rfl (by decide) (by decide) rfl (by decide) (fun H locs hz_839 hP hD hS => ?_)
  refine lv_aload_n hx hb dL_law_842 rfl (lv_at hl 2 rfl) ?_
  refine lv_aload_n hx hb dL_law_843 rfl (lv_at hl 0 rfl) ?_
  refine lv_iload_n hx hb dL_law_844 rfl (lv_at hl 3 rfl) ?_
  refine lv_iconst (v := 1) hx hb dL_law_845 (by decide) ?_
  refine lv_iadd hx hb dL_law_846 ?_
  refine va_sld hx hb hX hbl hbA hS h1 dL_law_847 ?_
  refine ktopi (y := a1) ea1.symm ?_
  refine lv_i2d hx hb dL_law_848 ?_
  refine lv_ldc2d (v := 4593671619917905920) hx hb hown (hts _ wL21) dL_law_849 ?_
  refine lv_dmul hx hb dL_law_852 (bd_n (eighth_bd a1) (by decide)) ?_
  refine ktopd (y := d1) ed1.symm ?_
  refine lv_aload_n hx hb dL_law_853 rfl (lv_at hl 0 rfl) ?_
  refine lv_iload_n hx hb dL_law_854 rfl (lv_at hl 3 rfl) ?_
  refine lv_iconst (v := 2) hx hb dL_law_855 (by decide) ?_
  refine lv_iadd hx hb dL_law_856 ?_
  refine va_sld hx hb hX hbl hbA hS h2 dL_law_857 ?_
  refine ktopi (y := a2) ea2.symm ?_
  refine lv_i2d hx hb dL_law_858 ?_
  refine lv_ldc2d (v := 4593671619917905920) hx hb hown (hts _ wL21) dL_law_859 ?_
  refine lv_dmul hx hb dL_law_862 (bd_n (eighth_bd a2) (by decide)) ?_
  refine ktopd (y := d2) ed2.symm ?_
  have hPc : va_P D vwCl (wM cyD cyI cyJ cyZ am bv bt bl be bdp bi bg bsd bsv bbd bbv br bu bw sn me ch sp sb no rns rnb fo fw mv mt lf med md tf gf sfs nfs sfb nfb mr mu mw) H := hP.sub [17, 18, 19, 20, 21, 22, 23, 24, 25, 26, 27, 28, 29, 30, 31] rfl
  have hDc : va_D A (wM cyD cyI cyJ cyZ am bv bt bl be bdp bi bg bsd bsv bbd bbv br bu bw sn me ch sp sb no rns rnb fo fw mv mt lf med md tf gf sfs nfs sfb nfb mr mu mw) := hD.sub [17, 18, 19, 20, 21, 22, 23, 24, 25, 26, 27, 28, 29, 30, 31] (by decide) rfl
  refine kzE (ws' := (wB cyD cyI cyJ cyZ ax ai ag ats a1s a2s atb a1b a2b aw ad ak ar au ae av ab ch tf gf rns sfs nfs ((fX3_ball rnb sfb nfb d1 d2).2.1) ((fX3_ball rnb sfb nfb d1 d2).2.2.1) ((fX3_ball rnb sfb nfb d1 d2).2.2.2) df kf rf uf st fw fo sn me vf lf sp sb no) ++ (wM cyD cyI cyJ cyZ am bv bt bl be bdp bi bg bsd bsv bbd bbv br bu bw sn me ch sp sb no rns ((fX4_ball rnb sfb nfb d1 d2).2.1) fo fw mv mt lf med md tf gf sfs nfs ((fX4_ball rnb sfb nfb d1 d2).2.2.1) ((fX4_ball rnb sfb nfb d1 d2).2.2.2) mr mu mw)) (wc := (wM cyD cyI cyJ cyZ am bv bt bl be bdp bi bg bsd bsv bbd bbv br bu bw sn me ch sp sb no rns rnb fo fw mv mt lf med md tf gf sfs nfs sfb nfb mr mu mw)) (wr := (wB cyD cyI cyJ cyZ ax ai ag ats a1s a2s atb a1b a2b aw ad ak ar au ae av ab ch tf gf rns sfs nfs ((fX3_ball rnb sfb nfb d1 d2).2.1) ((fX3_ball rnb sfb nfb d1 d2).2.2.1) ((fX3_ball rnb sfb nfb d1 d2).2.2.2) df kf rf uf st fw fo sn me vf lf sp sb no)) (w1 := (wM cyD cyI cyJ cyZ am bv bt bl be bdp bi bg bsd bsv bbd bbv br bu bw sn me ch sp sb no rns ((fX4_ball rnb sfb nfb d1 d2).2.1) fo fw mv mt lf med md tf gf sfs nfs ((fX4_ball rnb sfb nfb d1 d2).2.2.1) ((fX4_ball rnb sfb nfb d1 d2).2.2.2) mr mu mw)) (va_runV (As := [.double d1, .double d2]) (rest := [.int ((fX3_ball rnb sfb nfb d1 d2).1)]) ⟨hx, hb, hml, hown, hts⟩ (c_X4_ball (l := l) (D := D) (cyD := cyD) (cyI := cyI) (cyJ := cyJ) (cyZ := cyZ) am bv bt bl be bdp bi bg bsd bsv bbd bbv br bu bw sn me ch sp sb no rns rnb fo fw mv mt lf med md tf gf sfs nfs sfb nfb mr mu mw H.size d1 d2 rb hTb.1 hTb.2.1) (cwV 2 hts gL_law_X4_ball rfl rfl rfl (by decide +kernel) ⟨Nat.le_of_ble_eq_true rfl, Nat.le_of_ble_eq_true rfl⟩) (kV (ci := 4) (q0 := 0) (q := (RX4, TX4, 24)) hN hK hPc hDc rfl rfl rfl) rfl rfl hl.1 rfl (lv_room (Nat.le_of_ble_eq_true rfl)) dL_law_863 ⟨Nat.le_of_ble_eq_true rfl, Nat.le_of_ble_eq_true rfl⟩) hP hD hS hA [17, 18, 19, 20, 21, 22, 23, 24, 25, 26, 27, 28, 29, 30, 31] [0, 1, 2, 3, 4, 5, 6, 7, 8, 9, 10, 11, 12, 13, 14, 15, 16] [0, 1, 2, 3, 4, 5, 6, 7, 8, 9, 10, 11, 12, 13, 14, 15, 16, 17, 18, 19, 20, 21, 22, 23, 24, 25, 26, 27, 28, 29, 30, 31] rfl rfl (by decide) (by decide) rfl (by decide) (fun H locs hz_863 hP hD hS => ?_)
  refine lv_icmp_eq (tgt := 1173) hx hb dL_law_866 (by decide) (fun _ => ?_) (fun h9 => absurd hans h9)
  exact hfin ls H locs hP hD hS hl
set_option maxHeartbeats 4000000 in
set_option maxRecDepth 100000 in
theorem law_factor {p : Program} {l : Launch} {e : Env} {s : State} {m : MethodId} {below : List Frame} {meth : Method} {c : Code} {D : va_G} {cyD cyI cyJ cyZ : ClassId} {A : Nat → Prop} {Q : State → Prop} {b L : Nat} {xs : Nat → Int32} (LF : lawF p s m c D cyD cyI cyJ cyZ A b L xs) {ax ai ag ats a1s a2s atb a1b a2b aw ad ak ar au ae av ab : Nat} {am bv bt bl be bdp bi bg bsd bsv bbd bbv br bu bw : Nat} {ch : Int32} {tf : Nat → UInt64} {gf : Nat → UInt64} {rns : Int32} {sfs : Nat → UInt64} {nfs : Nat → UInt64} {rnb : Int32} {sfb : Nat → UInt64} {nfb : Nat → UInt64} {df : Nat → UInt64} {kf : Nat → Int32} {rf : Nat → Int32} {uf : Nat → Int64} {st : Int32} {fw : Int32} {fo : Int32} {sn : Nat} {me : UInt64} {vf : Nat → UInt64} {lf : Nat → Int32} {sp : UInt64} {sb : UInt64} {no : UInt64} {mv : Nat → UInt64} {mt : Nat → Int32} {med : Nat → Int32} {md : Nat → UInt64} {mr : Nat → Int32} {mu : Nat → Int64} {mw : Nat → Int32} (hR : RI ch tf gf rns sfs nfs rnb sfb nfb df kf rf fw fo sn me vf lf sp sb no mv mt med md mr) {x3 : Int32} (h1 : vp_in (x3 + 1) L) (h2 : vp_in (x3 + 2) L) (h3 : vp_in (x3 + 3) L) {H : Heap} {locs : List Loc} {ls : Array Slot} (hP : va_P D vwCl (wU cyD cyI cyJ cyZ ax ai ag ats a1s a2s atb a1b a2b aw ad ak ar au ae av ab am bv bt bl be bdp bi bg bsd bsv bbd bbv br bu bw ch tf gf rns sfs nfs rnb sfb nfb df kf rf uf st fw fo sn me vf lf sp sb no mv mt med md mr mu mw) H) (hD : va_D A (wU cyD cyI cyJ cyZ ax ai ag ats a1s a2s atb a1b a2b aw ad ak ar au ae av ab am bv bt bl be bdp bi bg bsd bsv bbd bbv br bu bw ch tf gf rns sfs nfs rnb sfb nfb df kf rf uf st fw fo sn me vf lf sp sb no mv mt med md mr mu mw)) (hS : va_S A s.heap H locs) (hl : lv_has ls 8 [(0, .ref b), (1, .ref ax), (2, .ref am), (3, .int x3)]) (kk : lawK p l e s m below meth c D cyD cyI cyJ cyZ A Q b ax ai ag ats a1s a2s atb a1b a2b aw ad ak ar au ae av ab am bv bt bl be bdp bi bg bsd bsv bbd bbv br bu bw x3) : W p l e room_1 s m #[Value.ref b] below meth c H locs 600000 7302250 Q (F0 m 871 ls []) := by
  obtain ⟨hx, hb, hml, hown, hts, hN, hK, hX, hbl, hbA, hA⟩ := LF
  obtain ⟨hE, hM, hlb, hV, hE2, hRR, hrf, hmr, ⟨C, hC4, hch⟩, ⟨Rn, hR4, hfw⟩, ⟨rs, hTs⟩, ⟨rb, hTb⟩, htf, hgf⟩ := id hR
  have hfo1 : fo = 0 ∨ fo = 1 := hRR.elim (fun q => Or.inl q.1) (fun q => Or.inr q.1)
  obtain ⟨a1, ea1⟩ : ∃ y : Int32, y = xs (x3 + 1).toNatClampNeg := ⟨_, rfl⟩
  obtain ⟨d1, ed1⟩ : ∃ y : UInt64, y = FP.dmul (FP.i2d a1) 4593671619917905920 := ⟨_, rfl⟩
  have hd1 : bd 1055 d1 := by rw [ed1]; exact eighth_bd a1
  have hans : (fX3_factor rnb sfb nfb d1) = (fX4_factor rnb sfb nfb d1) := factorEq hTb hd1
  have hfin : ∀ (ls : Array Slot) (H : Heap) (locs : List Loc), va_P D vwCl ((wB cyD cyI cyJ cyZ ax ai ag ats a1s a2s atb a1b a2b aw ad ak ar au ae av ab ch tf gf rns sfs nfs rnb sfb nfb df kf rf uf st fw fo sn me vf lf sp sb no) ++ (wM cyD cyI cyJ cyZ am bv bt bl be bdp bi bg bsd bsv bbd bbv br bu bw sn me ch sp sb no rns rnb fo fw mv mt lf med md tf gf sfs nfs sfb nfb mr mu mw)) H → va_D A ((wB cyD cyI cyJ cyZ ax ai ag ats a1s a2s atb a1b a2b aw ad ak ar au ae av ab ch tf gf rns sfs nfs rnb sfb nfb df kf rf uf st fw fo sn me vf lf sp sb no) ++ (wM cyD cyI cyJ cyZ am bv bt bl be bdp bi bg bsd bsv bbd bbv br bu bw sn me ch sp sb no rns rnb fo fw mv mt lf med md tf gf sfs nfs sfb nfb mr mu mw)) → va_S A s.heap H locs → lv_has ls 8 [(0, .ref b), (1, .ref ax), (2, .ref am), (3, .int x3)] → W p l e room_1 s m #[Value.ref b] below meth c H locs 600000 7302250 Q (F0 m 1173 ls []) := fun ls H locs hP hD hS hl => by
    exact kk ch tf gf rns sfs nfs rnb sfb nfb df kf rf uf st fw fo sn me vf lf sp sb no mv mt med md mr mu mw hR H locs ls hP hD hS hl
  refine lv_aload_n hx hb dL_law_871 rfl (lv_at hl 1 rfl) ?_
  refine lv_aload_n hx hb dL_law_872 rfl (lv_at hl 0 rfl) ?_
  refine lv_iload_n hx hb dL_law_873 rfl (lv_at hl 3 rfl) ?_
  refine lv_iconst (v := 1) hx hb dL_law_874 (by decide) ?_
  refine lv_iadd hx hb dL_law_875 ?_
  refine va_sld hx hb hX hbl hbA hS h1 dL_law_876 ?_
  refine ktopi (y := a1) ea1.symm ?_
  refine lv_i2d hx hb dL_law_877 ?_
  refine lv_ldc2d (v := 4593671619917905920) hx hb hown (hts _ wL21) dL_law_878 ?_
  refine lv_dmul hx hb dL_law_881 (bd_n (eighth_bd a1) (by decide)) ?_
  refine ktopd (y := d1) ed1.symm ?_
  have hPc : va_P D vwCl (wB cyD cyI cyJ cyZ ax ai ag ats a1s a2s atb a1b a2b aw ad ak ar au ae av ab ch tf gf rns sfs nfs rnb sfb nfb df kf rf uf st fw fo sn me vf lf sp sb no) H := hP.sub [0, 1, 2, 3, 4, 5, 6, 7, 8, 9, 10, 11, 12, 13, 14, 15, 16] rfl
  have hDc : va_D A (wB cyD cyI cyJ cyZ ax ai ag ats a1s a2s atb a1b a2b aw ad ak ar au ae av ab ch tf gf rns sfs nfs rnb sfb nfb df kf rf uf st fw fo sn me vf lf sp sb no) := hD.sub [0, 1, 2, 3, 4, 5, 6, 7, 8, 9, 10, 11, 12, 13, 14, 15, 16] (by decide) rfl
  refine kdE (ws' := (wB cyD cyI cyJ cyZ ax ai ag ats a1s a2s atb a1b a2b aw ad ak ar au ae av ab ch tf gf rns sfs nfs rnb sfb nfb df kf rf uf st fw fo sn me vf lf sp sb no) ++ (wM cyD cyI cyJ cyZ am bv bt bl be bdp bi bg bsd bsv bbd bbv br bu bw sn me ch sp sb no rns rnb fo fw mv mt lf med md tf gf sfs nfs sfb nfb mr mu mw)) (wc := (wB cyD cyI cyJ cyZ ax ai ag ats a1s a2s atb a1b a2b aw ad ak ar au ae av ab ch tf gf rns sfs nfs rnb sfb nfb df kf rf uf st fw fo sn me vf lf sp sb no)) (wr := (wM cyD cyI cyJ cyZ am bv bt bl be bdp bi bg bsd bsv bbd bbv br bu bw sn me ch sp sb no rns rnb fo fw mv mt lf med md tf gf sfs nfs sfb nfb mr mu mw)) (w1 := (wB cyD cyI cyJ cyZ ax ai ag ats a1s a2s atb a1b a2b aw ad ak ar au ae av ab ch tf gf rns sfs nfs rnb sfb nfb df kf rf uf st fw fo sn me vf lf sp sb no)) (va_runV (As := [.double d1]) (rest := []) ⟨hx, hb, hml, hown, hts⟩ (c_X3_factor (l := l) (D := D) (cyD := cyD) (cyI := cyI) (cyJ := cyJ) (cyZ := cyZ) ax ai ag ats a1s a2s atb a1b a2b aw ad ak ar au ae av ab ch tf gf rns sfs nfs rnb sfb nfb df kf rf uf st fw fo sn me vf lf sp sb no H.size d1 rb hTb.1 hTb.2.1 (fun i _ => hTb.2.2.1 i) (fun i _ => hTb.2.2.2.1 i) (ho_ok hTb hd1)) (cwV 1 hts gL_law_X3_factor rfl rfl rfl (by decide +kernel) ⟨Nat.le_of_ble_eq_true rfl, Nat.le_of_ble_eq_true rfl⟩) (kV (ci := 3) (q0 := 0) (q := (RX3, TX3, 7)) hN hK hPc hDc rfl rfl rfl) rfl rfl hl.1 rfl (lv_room (Nat.le_of_ble_eq_true rfl)) dL_law_882 ⟨Nat.le_of_ble_eq_true rfl, Nat.le_of_ble_eq_true rfl⟩) hP hD hS hA [0, 1, 2, 3, 4, 5, 6, 7, 8, 9, 10, 11, 12, 13, 14, 15, 16] [17, 18, 19, 20, 21, 22, 23, 24, 25, 26, 27, 28, 29, 30, 31] [15, 16, 17, 18, 19, 20, 21, 22, 23, 24, 25, 26, 27, 28, 29, 30, 31, 0, 1, 2, 3, 4, 5, 6, 7, 8, 9, 10, 11, 12, 13, 14] rfl rfl (by decide) (by decide) rfl (by decide) (fun H locs hP hD hS => ?_)
  refine lv_dstore (lv' := [(4, .double (fX3_factor rnb sfb nfb d1)), (0, .ref b), (1, .ref ax), (2, .ref am), (3, .int x3)]) hx hb dL_law_885 hl (by decide) rfl (fun ls hl => ?_)
  refine lv_aload_n hx hb dL_law_887 rfl (lv_at hl 3 rfl) ?_
  refine lv_aload_n hx hb dL_law_888 rfl (lv_at hl 1 rfl) ?_
  refine lv_iload_n hx hb dL_law_889 rfl (lv_at hl 4 rfl) ?_
  refine lv_iconst (v := 1) hx hb dL_law_890 (by decide) ?_
  refine lv_iadd hx hb dL_law_891 ?_
  refine va_sld hx hb hX hbl hbA hS h1 dL_law_892 ?_
  refine ktopi (y := a1) ea1.symm ?_
  refine lv_i2d hx hb dL_law_893 ?_
  refine lv_ldc2d (v := 4593671619917905920) hx hb hown (hts _ wL21) dL_law_894 ?_
  refine lv_dmul hx hb dL_law_897 (bd_n (eighth_bd a1) (by decide)) ?_
  refine ktopd (y := d1) ed1.symm ?_
  have hPc : va_P D vwCl (wM cyD cyI cyJ cyZ am bv bt bl be bdp bi bg bsd bsv bbd bbv br bu bw sn me ch sp sb no rns rnb fo fw mv mt lf med md tf gf sfs nfs sfb nfb mr mu mw) H := hP.sub [17, 18, 19, 20, 21, 22, 23, 24, 25, 26, 27, 28, 29, 30, 31] rfl
  have hDc : va_D A (wM cyD cyI cyJ cyZ am bv bt bl be bdp bi bg bsd bsv bbd bbv br bu bw sn me ch sp sb no rns rnb fo fw mv mt lf med md tf gf sfs nfs sfb nfb mr mu mw) := hD.sub [17, 18, 19, 20, 21, 22, 23, 24, 25, 26, 27, 28, 29, 30, 31] (by decide) rfl
  refine kdE (ws' := (wB cyD cyI cyJ cyZ ax ai ag ats a1s a2s atb a1b a2b aw ad ak ar au ae av ab ch tf gf rns sfs nfs rnb sfb nfb df kf rf uf st fw fo sn me vf lf sp sb no) ++ (wM cyD cyI cyJ cyZ am bv bt bl be bdp bi bg bsd bsv bbd bbv br bu bw sn me ch sp sb no rns rnb fo fw mv mt lf med md tf gf sfs nfs sfb nfb mr mu mw)) (wc := (wM cyD cyI cyJ cyZ am bv bt bl be bdp bi bg bsd bsv bbd bbv br bu bw sn me ch sp sb no rns rnb fo fw mv mt lf med md tf gf sfs nfs sfb nfb mr mu mw)) (wr := (wB cyD cyI cyJ cyZ ax ai ag ats a1s a2s atb a1b a2b aw ad ak ar au ae av ab ch tf gf rns sfs nfs rnb sfb nfb df kf rf uf st fw fo sn me vf lf sp sb no)) (w1 := (wM cyD cyI cyJ cyZ am bv bt bl be bdp bi bg bsd bsv bbd bbv br bu bw sn me ch sp sb no rns rnb fo fw mv mt lf med md tf gf sfs nfs sfb nfb mr mu mw)) (va_runV (As := [.double d1]) (rest := []) ⟨hx, hb, hml, hown, hts⟩ (c_X4_factor (l := l) (D := D) (cyD := cyD) (cyI := cyI) (cyJ := cyJ) (cyZ := cyZ) am bv bt bl be bdp bi bg bsd bsv bbd bbv br bu bw sn me ch sp sb no rns rnb fo fw mv mt lf med md tf gf sfs nfs sfb nfb mr mu mw H.size d1 rb hTb.1 hTb.2.1 (fun i _ => hTb.2.2.1 i) (fun i _ => hTb.2.2.2.1 i) (fun h9 => day_bd hd1 h9)) (cwV 1 hts gL_law_X4_factor rfl rfl rfl (by decide +kernel) ⟨Nat.le_of_ble_eq_true rfl, Nat.le_of_ble_eq_true rfl⟩) (kV (ci := 4) (q0 := 0) (q := (RX4, TX4, 24)) hN hK hPc hDc rfl rfl rfl) rfl rfl hl.1 rfl (lv_room (Nat.le_of_ble_eq_true rfl)) dL_law_898 ⟨Nat.le_of_ble_eq_true rfl, Nat.le_of_ble_eq_true rfl⟩) hP hD hS hA [17, 18, 19, 20, 21, 22, 23, 24, 25, 26, 27, 28, 29, 30, 31] [0, 1, 2, 3, 4, 5, 6, 7, 8, 9, 10, 11, 12, 13, 14, 15, 16] [0, 1, 2, 3, 4, 5, 6, 7, 8, 9, 10, 11, 12, 13, 14, 15, 16, 17, 18, 19, 20, 21, 22, 23, 24, 25, 26, 27, 28, 29, 30, 31] rfl rfl (by decide) (by decide) rfl (by decide) (fun H locs hP hD hS => ?_)
  refine ktopd (y := (fX3_factor rnb sfb nfb d1)) hans.symm ?_
  refine lv_dstore (lv' := [(6, .double (fX3_factor rnb sfb nfb d1)), (4, .double (fX3_factor rnb sfb nfb d1)), (0, .ref b), (1, .ref ax), (2, .ref am), (3, .int x3)]) hx hb dL_law_901 hl (by decide) rfl (fun ls hl => ?_)
  have hfin := hfin ls H locs hP hD hS (lv_sub hl [2, 3, 4, 5] rfl)
  refine lv_dload hx hb dL_law_903 (lv_at hl 1 rfl) ?_
  refine lv_dload hx hb dL_law_905 (lv_at hl 0 rfl) ?_
  refine lv_dcmp hx hb dL_law_907 ?_
  refine lv_if_eq (tgt := 929) hx hb dL_law_908 (by decide) (fun c_1 => ?_) (fun c_1 => ?_)
  · exact lv_goto (tgt := 1173) hx hb dL_law_929 (by decide) hfin
  refine lv_dload hx hb dL_law_911 (lv_at hl 1 rfl) ?_
  refine lv_dload hx hb dL_law_913 (lv_at hl 1 rfl) ?_
  refine lv_dcmp hx hb dL_law_915 ?_
  refine lv_if_eq (tgt := 927) hx hb dL_law_916 (by decide) (fun c_2 => absurd c_2 c_1) (fun c_2 => ?_)
  refine lv_dload hx hb dL_law_919 (lv_at hl 0 rfl) ?_
  refine lv_dload hx hb dL_law_921 (lv_at hl 0 rfl) ?_
  refine lv_dcmp hx hb dL_law_923 ?_
  refine lv_if_ne (tgt := 929) hx hb dL_law_924 (by decide) (fun c_3 => ?_) (fun c_3 => absurd c_3 c_1)
  exact lv_goto (tgt := 1173) hx hb dL_law_929 (by decide) hfin
