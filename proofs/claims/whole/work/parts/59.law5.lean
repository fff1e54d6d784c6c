/-! ===== the law: cases ===== -/
set_option maxHeartbeats 4000000 in
set_option maxRecDepth 100000 in
theorem law_tide {p : Program} {l : Launch} {e : Env} {s : State} {m : MethodId} {below : List Frame} {meth : Method} {c : Code} {D : va_G} {cyD cyI cyJ cyZ : ClassId} {A : Nat → Prop} {Q : State → Prop} {b L : Nat} {xs : Nat → Int32} (LF : lawF p s m c D cyD cyI cyJ cyZ A b L xs) {ax ai ag ats a1s a2s atb a1b a2b aw ad ak ar au ae av ab : Nat} {am bv bt bl be bdp bi bg bsd bsv bbd bbv br bu bw : Nat} {ch : Int32} {tf : Nat → UInt64} {gf : Nat → UInt64} {rns : Int32} {sfs : Nat → UInt64} {nfs : Nat → UInt64} {rnb : Int32} {sfb : Nat → UInt64} {nfb : Nat → UInt64} {df : Nat → UInt64} {kf : Nat → Int32} {rf : Nat → Int32} {uf : Nat → Int64} {st : Int32} {fw : Int32} {fo : Int32} {sn : Nat} {me : UInt64} {vf : Nat → UInt64} {lf : Nat → Int32} {sp : UInt64} {sb : UInt64} {no : UInt64} {mv : Nat → UInt64} {mt : Nat → Int32} {med : Nat → Int32} {md : Nat → UInt64} {mr : Nat → Int32} {mu : Nat → Int64} {mw : Nat → Int32} (hR : RI ch tf gf rns sfs nfs rnb sfb nfb df kf rf fw fo sn me vf lf sp sb no mv mt med md mr) {x3 : Int32} (h1 : vp_in (x3 + 1) L) (h2 : vp_in (x3 + 2) L) (h3 : vp_in (x3 + 3) L) {H : Heap} {locs : List Loc} {ls : Array Slot} (hP : va_P D vwCl (wU cyD cyI cyJ cyZ ax ai ag ats a1s a2s atb a1b a2b aw ad ak ar au ae av ab am bv bt bl be bdp bi bg bsd bsv bbd bbv br bu bw ch tf gf rns sfs nfs rnb sfb nfb df kf rf uf st fw fo sn me vf lf sp sb no mv mt med md mr mu mw) H) (hD : va_D A (wU cyD cyI cyJ cyZ ax ai ag ats a1s a2s atb a1b a2b aw ad ak ar au ae av ab am bv bt bl be bdp bi bg bsd bsv bbd bbv br bu bw ch tf gf rns sfs nfs rnb sfb nfb df kf rf uf st fw fo sn me vf lf sp sb no mv mt med md mr mu mw)) (hS : va_S A s.heap H locs) (hl : lv_has ls 8 [(0, .ref b), (1, .ref ax), (2, .ref am), (3, .int x3)]) (kk : lawK p l e s m below meth c D cyD cyI cyJ cyZ A Q b ax ai ag ats a1s a2s atb a1b a2b aw ad ak ar au ae av ab am bv bt bl be bdp bi bg bsd bsv bbd bbv br bu bw x3) : W p l e room_1 s m #[Value.ref b] below meth c H locs 600000 7302250 Q (F0 m 932 ls []) := by
  obtain ⟨hx, hb, hml, hown, hts, hN, hK, hX, hbl, hbA, hA⟩ := LF
  obtain ⟨hE, hM, hlb, hV, hE2, hRR, hrf, hmr, ⟨C, hC4, hch⟩, ⟨Rn, hR4, hfw⟩, ⟨rs, hTs⟩, ⟨rb, hTb⟩, htf, hgf⟩ := id hR
  have hfo1 : fo = 0 ∨ fo = 1 := hRR.elim (fun q => Or.inl q.1) (fun q => Or.inr q.1)
  obtain ⟨a1, ea1⟩ : ∃ y : Int32, y = xs (x3 + 1).toNatClampNeg := ⟨_, rfl⟩
  obtain ⟨a2, ea2⟩ : ∃ y : Int32, y = xs (x3 + 2).toNatClampNeg := ⟨_, rfl⟩
  obtain ⟨d2, ed2⟩ : ∃ y : UInt64, y = FP.dmul (FP.i2d a2) 4593671619917905920 := ⟨_, rfl⟩
  have hd2 : bd 1055 d2 := by rw [ed2]; exact eighth_bd a2
  have hans : ((fX3_tide tf a1 d2).1) = ((fX4_tide tf a1 d2).1) := rfl
  have hfin : ∀ (ls : Array Slot) (H : Heap) (locs : List Loc), va_P D vwCl ((wB cyD cyI cyJ cyZ ax ai ag ats a1s a2s atb a1b a2b aw ad ak ar au ae av ab ch ((fX3_tide tf a1 d2).2) gf rns sfs nfs rnb sfb nfb df kf rf uf st fw fo sn me vf lf sp sb no) ++ (wM cyD cyI cyJ cyZ am bv bt bl be bdp bi bg bsd bsv bbd bbv br bu bw sn me ch sp sb no rns rnb fo fw mv mt lf med md ((fX4_tide tf a1 d2).2) gf sfs nfs sfb nfb mr mu mw)) H → va_D A ((wB cyD cyI cyJ cyZ ax ai ag ats a1s a2s atb a1b a2b aw ad ak ar au ae av ab ch ((fX3_tide tf a1 d2).2) gf rns sfs nfs rnb sfb nfb df kf rf uf st fw fo sn me vf lf sp sb no) ++ (wM cyD cyI cyJ cyZ am bv bt bl be bdp bi bg bsd bsv bbd bbv br bu bw sn me ch sp sb no rns rnb fo fw mv mt lf med md ((fX4_tide tf a1 d2).2) gf sfs nfs sfb nfb mr mu mw)) → va_S A s.heap H locs → lv_has ls 8 [(0, .ref b), (1, .ref ax), (2, .ref am), (3, .int x3)] → W p l e room_1 s m #[Value.ref b] below meth c H locs 600000 7302250 Q (F0 m 1173 ls []) := fun ls H locs hP hD hS hl => by
    exact kk ch ((fX3_tide tf a1 d2).2) gf rns sfs nfs rnb sfb nfb df kf rf uf st fw fo sn me vf lf sp sb no mv mt med md mr mu mw ⟨hE, hM, hlb, hV, hE2, hRR, hrf, hmr, ⟨C, hC4, hch⟩, ⟨Rn, hR4, hfw⟩, ⟨rs, hTs⟩, ⟨rb, hTb⟩, tide_bd hd2 htf, hgf⟩ H locs ls hP hD hS hl
  refine lv_aload_n hx hb dL_law_932 rfl (lv_at hl 1 rfl) ?_
  refine lv_aload_n hx hb dL_law_933 rfl (lv_at hl 0 rfl) ?_
  refine lv_iload_n hx hb dL_law_934 rfl (lv_at hl 3 rfl) ?_
  refine lv_iconst (v := 1) hx hb dL_law_935 (by decide) ?_
  refine lv_iadd hx hb dL_law_936 ?_
  refine va_sld hx hb hX hbl hbA hS h1 dL_law_937 ?_
  refine ktopi (y := a1) ea1.symm ?_
  refine lv_aload_n hx hb dL_law_938 rfl (lv_at hl 0 rfl) ?_
  refine lv_iload_n hx hb dL_law_939 rfl (lv_at hl 3 rfl) ?_
  refine lv_iconst (v := 2) hx hb dL_law_940 (by decide) ?_
  refine lv_iadd hx hb dL_law_941 ?_
  refine va_sld hx hb hX hbl hbA hS h2 dL_law_942 ?_
  refine ktopi (y := a2) ea2.symm ?_
  refine lv_i2d hx hb dL_law_943 ?_
  refine lv_ldc2d (v := 4593671619917905920) hx hb hown (hts _ wL21) dL_law_944 ?_
  refine lv_dmul hx hb dL_law_947 (bd_n (eighth_bd a2) (by decide)) ?_
  refine ktopd (y := d2) ed2.symm ?_
  have hPc : va_P D vwCl (wB cyD cyI cyJ cyZ ax ai ag ats a1s a2s atb a1b a2b aw ad ak ar au ae av ab ch tf gf rns sfs nfs rnb sfb nfb df kf rf uf st fw fo sn me vf lf sp sb no) H := hP.sub [0, 1, 2, 3, 4, 5, 6, 7, 8, 9, 10, 11, 12, 13, 14, 15, 16] rfl
  have hDc : va_D A (wB cyD cyI cyJ cyZ ax ai ag ats a1s a2s atb a1b a2b aw ad ak ar au ae av ab ch tf gf rns sfs nfs rnb sfb nfb df kf rf uf st fw fo sn me vf lf sp sb no) := hD.sub [0, 1, 2, 3, 4, 5, 6, 7, 8, 9, 10, 11, 12, 13, 14, 15, 16] (by decide) rfl
  refine kzE (ws' := (wB cyD cyI cyJ cyZ ax ai ag ats a1s a2s atb a1b a2b aw ad ak ar au ae av ab ch ((fX3_tide tf a1 d2).2) gf rns sfs nfs rnb sfb nfb df kf rf uf st fw fo sn me vf lf sp sb no) ++ (wM cyD cyI cyJ cyZ am bv bt bl be bdp bi bg bsd bsv bbd bbv br bu bw sn me ch sp sb no rns rnb fo fw mv mt lf med md tf gf sfs nfs sfb nfb mr mu mw)) (wc := (wB cyD cyI cyJ cyZ ax ai ag ats a1s a2s atb a1b a2b aw ad ak ar au ae av ab ch tf gf rns sfs nfs rnb sfb nfb df kf rf uf st fw fo sn me vf lf sp sb no)) (wr := (wM cyD cyI cyJ cyZ am bv bt bl be bdp bi bg bsd bsv bbd bbv br bu bw sn me ch sp sb no rns rnb fo fw mv mt lf med md tf gf sfs nfs sfb nfb mr mu mw)) (w1 := (wB cyD cyI cyJ cyZ ax ai ag ats a1s a2s atb a1b a2b aw ad ak ar au ae av ab ch ((fX3_tide tf a1 d2).2) gf rns sfs nfs rnb sfb nfb df kf rf uf st fw fo sn me vf lf sp sb no)) (va_runV (As := [.int a1, .double d2]) (rest := []) ⟨hx, hb, hml, hown, hts⟩ (c_X3_tide (l := l) (D := D) (cyD := cyD) (cyI := cyI) (cyJ := cyJ) (cyZ := cyZ) ax ai ag ats a1s a2s atb a1b a2b aw ad ak ar au ae av ab ch tf gf rns sfs nfs rnb sfb nfb df kf rf uf st fw fo sn me vf lf sp sb no H.size a1 d2) (cwV 2 hts gL_law_X3_tide rfl rfl rfl (by decide +kernel) ⟨Nat.le_of_ble_eq_true rfl, Nat.le_of_ble_eq_true rfl⟩) (kV (ci := 3) (q0 := 0) (q := (RX3, TX3, 7)) hN hK hPc hDc rfl rfl rfl) rfl rfl hl.1 rfl (lv_room (Nat.le_of_ble_eq_true rfl)) dL_law_948 ⟨Nat.le_of_ble_eq_true rfl, Nat.le_of_ble_eq_true rfl⟩) hP hD hS hA [0, 1, 2, 3, 4, 5, 6, 7, 8, 9, 10, 11, 12, 13, 14, 15, 16] [17, 18, 19, 20, 21, 22, 23, 24, 25, 26, 27, 28, 29, 30, 31] [15, 16, 17, 18, 19, 20, 21, 22, 23, 24, 25, 26, 27, 28, 29, 30, 31, 0, 1, 2, 3, 4, 5, 6, 7, 8, 9, 10, 11, 12, 13, 14] rfl rfl (by decide) (by decide) rfl (by decide) (fun H locs hz_948 hP hD hS => ?_)
  refine lv_aload_n hx hb dL_law_951 rfl (lv_at hl 2 rfl) ?_
  refine lv_aload_n hx hb dL_law_952 rfl (lv_at hl 0 rfl) ?_
  refine lv_iload_n hx hb dL_law_953 rfl (lv_at hl 3 rfl) ?_
  refine lv_iconst (v := 1) hx hb dL_law_954 (by decide) ?_
  refine lv_iadd hx hb dL_law_955 ?_
  refine va_sld hx hb hX hbl hbA hS h1 dL_law_956 ?_
  refine ktopi (y := a1) ea1.symm ?_
  refine lv_aload_n hx hb dL_law_957 rfl (lv_at hl 0 rfl) ?_
  refine lv_iload_n hx hb dL_law_958 rfl (lv_at hl 3 rfl) ?_
  refine lv_iconst (v := 2) hx hb dL_law_959 (by decide) ?_
  refine lv_iadd hx hb dL_law_960 ?_
  refine va_sld hx hb hX hbl hbA hS h2 dL_law_961 ?_
  refine ktopi (y := a2) ea2.symm ?_
  refine lv_i2d hx hb dL_law_962 ?_
  refine lv_ldc2d (v := 4593671619917905920) hx hb hown (hts _ wL21) dL_law_963 ?_
  refine lv_dmul hx hb dL_law_966 (bd_n (eighth_bd a2) (by decide)) ?_
  refine ktopd (y := d2) ed2.symm ?_
  have hPc : va_P D vwCl (wM cyD cyI cyJ cyZ am bv bt bl be bdp bi bg bsd bsv bbd bbv br bu bw sn me ch sp sb no rns rnb fo fw mv mt lf med md tf gf sfs nfs sfb nfb mr mu mw) H := hP.sub [17, 18, 19, 20, 21, 22, 23, 24, 25, 26, 27, 28, 29, 30, 31] rfl
  have hDc : va_D A (wM cyD cyI cyJ cyZ am bv bt bl be bdp bi bg bsd bsv bbd bbv br bu bw sn me ch sp sb no rns rnb fo fw mv mt lf med md tf gf sfs nfs sfb nfb mr mu mw) := hD.sub [17, 18, 19, 20, 21, 22, 23, 24, 25, 26, 27, 28, 29, 30, 31] (by decide) rfl
  refine kzE (ws' := (wB cyD cyI cyJ cyZ ax ai ag ats a1s a2s atb a1b a2b aw ad ak ar au ae av ab ch ((fX3_tide tf a1 d2).2) gf rns sfs nfs rnb sfb nfb df kf rf uf st fw fo sn me vf lf sp sb no) ++ (wM cyD cyI cyJ cyZ am bv bt bl be bdp bi bg bsd bsv bbd bbv br bu bw sn me ch sp sb no rns rnb fo fw mv mt lf med md ((fX4_tide tf a1 d2).2) gf sfs nfs sfb nfb mr mu mw)) (wc := (wM cyD cyI cyJ cyZ am bv bt bl be bdp bi bg bsd bsv bbd bbv br bu bw sn me ch sp sb no rns rnb fo fw mv mt lf med md tf gf sfs nfs sfb nfb mr mu mw)) (wr := (wB cyD cyI cyJ cyZ ax ai ag ats a1s a2s atb a1b a2b aw ad ak ar au ae av ab ch ((fX3_tide tf a1 d2).2) gf rns sfs nfs rnb sfb nfb df kf rf uf st fw fo sn me vf lf sp sb no)) (w1 := (wM cyD cyI cyJ cyZ am bv bt bl be bdp bi bg bsd bsv bbd bbv br bu bw sn me ch sp sb no rns rnb fo fw mv mt lf med md ((fX4_tide tf a1 d2).2) gf sfs nfs sfb nfb mr mu mw)) (va_runV (As := [.int a1, .double d2]) (rest := [.int ((fX3_tide tf a1 d2).1)]) ⟨hx, hb, hml, hown, hts⟩ (c_X4_tide (l := l) (D := D) (cyD := cyD) (cyI := cyI) (cyJ := cyJ) (cyZ := cyZ) am bv bt bl be bdp bi bg bsd bsv bbd bbv br bu bw sn me ch sp sb no rns rnb fo fw mv mt lf med md tf gf sfs nfs sfb nfb mr mu mw H.size a1 d2) (cwV 2 hts gL_law_X4_tide rfl rfl rfl (by decide +kernel) ⟨Nat.le_of_ble_eq_true rfl, Nat.le_of_ble_eq_true rfl⟩) (kV (ci := 4) (q0 := 0) (q := (RX4, TX4, 24)) hN hK hPc hDc rfl rfl rfl) rfl rfl hl.1 rfl (lv_room (Nat.le_of_ble_eq_true rfl)) dL_law_967 ⟨Nat.le_of_ble_eq_true rfl, Nat.le_of_ble_eq_true rfl⟩) hP hD hS hA [17, 18, 19, 20, 21, 22, 23, 24, 25, 26, 27, 28, 29, 30, 31] [0, 1, 2, 3, 4, 5, 6, 7, 8, 9, 10, 11, 12, 13, 14, 15, 16] [0, 1, 2, 3, 4, 5, 6, 7, 8, 9, 10, 11, 12, 13, 14, 15, 16, 17, 18, 19, 20, 21, 22, 23, 24, 25, 26, 27, 28, 29, 30, 31] rfl rfl (by decide) (by decide) rfl (by decide) (fun H locs hz_967 hP hD hS => ?_)
  refine lv_icmp_eq (tgt := 1173) hx hb dL_law_970 (by decide) (fun _ => ?_) (fun h9 => absurd hans h9)
  exact hfin ls H locs hP hD hS hl
set_option maxHeartbeats 4000000 in
set_option maxRecDepth 100000 in
theorem law_tail {p : Program} {l : Launch} {e : Env} {s : State} {m : MethodId} {below : List Frame} {meth : Method} {c : Code} {D : va_G} {cyD cyI cyJ cyZ : ClassId} {A : Nat → Prop} {Q : State → Prop} {b L : Nat} {xs : Nat → Int32} (LF : lawF p s m c D cyD cyI cyJ cyZ A b L xs) {ax ai ag ats a1s a2s atb a1b a2b aw ad ak ar au ae av ab : Nat} {am bv bt bl be bdp bi bg bsd bsv bbd bbv br bu bw : Nat} {ch : Int32} {tf : Nat → UInt64} {gf : Nat → UInt64} {rns : Int32} {sfs : Nat → UInt64} {nfs : Nat → UInt64} {rnb : Int32} {sfb : Nat → UInt64} {nfb : Nat → UInt64} {df : Nat → UInt64} {kf : Nat → Int32} {rf : Nat → Int32} {uf : Nat → Int64} {st : Int32} {fw : Int32} {fo : Int32} {sn : Nat} {me : UInt64} {vf : Nat → UInt64} {lf : Nat → Int32} {sp : UInt64} {sb : UInt64} {no : UInt64} {mv : Nat → UInt64} {mt : Nat → Int32} {med : Nat → Int32} {md : Nat → UInt64} {mr : Nat → Int32} {mu : Nat → Int64} {mw : Nat → Int32} (hR : RI ch tf gf rns sfs nfs rnb sfb nfb df kf rf fw fo sn me vf lf sp sb no mv mt med md mr) {x3 : Int32} (h1 : vp_in (x3 + 1) L) (h2 : vp_in (x3 + 2) L) (h3 : vp_in (x3 + 3) L) {H : Heap} {locs : List Loc} {ls : Array Slot} (hP : va_P D vwCl (wU cyD cyI cyJ cyZ ax ai ag ats a1s a2s atb a1b a2b aw ad ak ar au ae av ab am bv bt bl be bdp bi bg bsd bsv bbd bbv br bu bw ch tf gf rns sfs nfs rnb sfb nfb df kf rf uf st fw fo sn me vf lf sp sb no mv mt med md mr mu mw) H) (hD : va_D A (wU cyD cyI cyJ cyZ ax ai ag ats a1s a2s atb a1b a2b aw ad ak ar au ae av ab am bv bt bl be bdp bi bg bsd bsv bbd bbv br bu bw ch tf gf rns sfs nfs rnb sfb nfb df kf rf uf st fw fo sn me vf lf sp sb no mv mt med md mr mu mw)) (hS : va_S A s.heap H locs) (hl : lv_has ls 8 [(0, .ref b), (1, .ref ax), (2, .ref am), (3, .int x3)]) (kk : lawK p l e s m below meth c D cyD cyI cyJ cyZ A Q b ax ai ag ats a1s a2s atb a1b a2b aw ad ak ar au ae av ab am bv bt bl be bdp bi bg bsd bsv bbd bbv br bu bw x3) : W p l e room_1 s m #[Value.ref b] below meth c H locs 600000 7302250 Q (F0 m 975 ls []) := by
  obtain ⟨hx, hb, hml, hown, hts, hN, hK, hX, hbl, hbA, hA⟩ := LF
  obtain ⟨hE, hM, hlb, hV, hE2, hRR, hrf, hmr, ⟨C, hC4, hch⟩, ⟨Rn, hR4, hfw⟩, ⟨rs, hTs⟩, ⟨rb, hTb⟩, htf, hgf⟩ := id hR
  have hfo1 : fo = 0 ∨ fo = 1 := hRR.elim (fun q => Or.inl q.1) (fun q => Or.inr q.1)
  obtain ⟨a1, ea1⟩ : ∃ y : Int32, y = xs (x3 + 1).toNatClampNeg := ⟨_, rfl⟩
  have hans : (fX3_tail df kf rf fw sn me vf lf sp sb no a1) = (fX4_tail sn me sp sb no fo fw mv mt lf med md mr a1) := tailEq hM.1 hM.2.1 hV hE2 hRR hR4 hfw a1
  have hfin : ∀ (ls : Array Slot) (H : Heap) (locs : List Loc), va_P D vwCl ((wB cyD cyI cyJ cyZ ax ai ag ats a1s a2s atb a1b a2b aw ad ak ar au ae av ab ch tf gf rns sfs nfs rnb sfb nfb df kf rf uf st fw fo sn me vf lf sp sb no) ++ (wM cyD cyI cyJ cyZ am bv bt bl be bdp bi bg bsd bsv bbd bbv br bu bw sn me ch sp sb no rns rnb fo fw mv mt lf med md tf gf sfs nfs sfb nfb mr mu mw)) H → va_D A ((wB cyD cyI cyJ cyZ ax ai ag ats a1s a2s atb a1b a2b aw ad ak ar au ae av ab ch tf gf rns sfs nfs rnb sfb nfb df kf rf uf st fw fo sn me vf lf sp sb no) ++ (wM cyD cyI cyJ cyZ am bv bt bl be bdp bi bg bsd bsv bbd bbv br bu bw sn me ch sp sb no rns rnb fo fw mv mt lf med md tf gf sfs nfs sfb nfb mr mu mw)) → va_S A s.heap H locs → lv_has ls 8 [(0, .ref b), (1, .ref ax), (2, .ref am), (3, .int x3)] → W p l e room_1 s m #[Value.ref b] below meth c H locs 600000 7302250 Q (F0 m 1173 ls []) := fun ls H locs hP hD hS hl => by
    exact kk ch tf gf rns sfs nfs rnb sfb nfb df kf rf uf st fw fo sn me vf lf sp sb no mv mt med md mr mu mw hR H locs ls hP hD hS hl
  refine lv_aload_n hx hb dL_law_975 rfl (lv_at hl 1 rfl) ?_
  refine lv_aload_n hx hb dL_law_976 rfl (lv_at hl 0 rfl) ?_
  refine lv_iload_n hx hb dL_law_977 rfl (lv_at hl 3 rfl) ?_
  refine lv_iconst (v := 1) hx hb dL_law_978 (by decide) ?_
  refine lv_iadd hx hb dL_law_979 ?_
  refine va_sld hx hb hX hbl hbA hS h1 dL_law_980 ?_
  refine ktopi (y := a1) ea1.symm ?_
  have hPc : va_P D vwCl (wB cyD cyI cyJ cyZ ax ai ag ats a1s a2s atb a1b a2b aw ad ak ar au ae av ab ch tf gf rns sfs nfs rnb sfb nfb df kf rf uf st fw fo sn me vf lf sp sb no) H := hP.sub [0, 1, 2, 3, 4, 5, 6, 7, 8, 9, 10, 11, 12, 13, 14, 15, 16] rfl
  have hDc : va_D A (wB cyD cyI cyJ cyZ ax ai ag ats a1s a2s atb a1b a2b aw ad ak ar au ae av ab ch tf gf rns sfs nfs rnb sfb nfb df kf rf uf st fw fo sn me vf lf sp sb no) := hD.sub [0, 1, 2, 3, 4, 5, 6, 7, 8, 9, 10, 11, 12, 13, 14, 15, 16] (by decide) rfl
  refine kdE (ws' := (wB cyD cyI cyJ cyZ ax ai ag ats a1s a2s atb a1b a2b aw ad ak ar au ae av ab ch tf gf rns sfs nfs rnb sfb nfb df kf rf uf st fw fo sn me vf lf sp sb no) ++ (wM cyD cyI cyJ cyZ am bv bt bl be bdp bi bg bsd bsv bbd bbv br bu bw sn me ch sp sb no rns rnb fo fw mv mt lf med md tf gf sfs nfs sfb nfb mr mu mw)) (wc := (wB cyD cyI cyJ cyZ ax ai ag ats a1s a2s atb a1b a2b aw ad ak ar au ae av ab ch tf gf rns sfs nfs rnb sfb nfb df kf rf uf st fw fo sn me vf lf sp sb no)) (wr := (wM cyD cyI cyJ cyZ am bv bt bl be bdp bi bg bsd bsv bbd bbv br bu bw sn me ch sp sb no rns rnb fo fw mv mt lf med md tf gf sfs nfs sfb nfb mr mu mw)) (w1 := (wB cyD cyI cyJ cyZ ax ai ag ats a1s a2s atb a1b a2b aw ad ak ar au ae av ab ch tf gf rns sfs nfs rnb sfb nfb df kf rf uf st fw fo sn me vf lf sp sb no)) (va_runV (As := [.int a1]) (rest := []) ⟨hx, hb, hml, hown, hts⟩ (c_X3_tail (l := l) (D := D) (cyD := cyD) (cyI := cyI) (cyJ := cyJ) (cyZ := cyZ) ax ai ag ats a1s a2s atb a1b a2b aw ad ak ar au ae av ab ch tf gf rns sfs nfs rnb sfb nfb df kf rf uf st fw fo sn me vf lf sp sb no H.size a1 hE) (cwV 1 hts gL_law_X3_tail rfl rfl rfl (by decide +kernel) ⟨Nat.le_of_ble_eq_true rfl, Nat.le_of_ble_eq_true rfl⟩) (kV (ci := 3) (q0 := 0) (q := (RX3, TX3, 7)) hN hK hPc hDc rfl rfl rfl) rfl rfl hl.1 rfl (lv_room (Nat.le_of_ble_eq_true rfl)) dL_law_981 ⟨Nat.le_of_ble_eq_true rfl, Nat.le_of_ble_eq_true rfl⟩) hP hD hS hA [0, 1, 2, 3, 4, 5, 6, 7, 8, 9, 10, 11, 12, 13, 14, 15, 16] [17, 18, 19, 20, 21, 22, 23, 24, 25, 26, 27, 28, 29, 30, 31] [15, 16, 17, 18, 19, 20, 21, 22, 23, 24, 25, 26, 27, 28, 29, 30, 31, 0, 1, 2, 3, 4, 5, 6, 7, 8, 9, 10, 11, 12, 13, 14] rfl rfl (by decide) (by decide) rfl (by decide) (fun H locs hP hD hS => ?_)
  refine lv_dstore (lv' := [(4, .double (fX3_tail df kf rf fw sn me vf lf sp sb no a1)), (0, .ref b), (1, .ref ax), (2, .ref am), (3, .int x3)]) hx hb dL_law_984 hl (by decide) rfl (fun ls hl => ?_)
  refine lv_aload_n hx hb dL_law_986 rfl (lv_at hl 3 rfl) ?_
  refine lv_aload_n hx hb dL_law_987 rfl (lv_at hl 1 rfl) ?_
  refine lv_iload_n hx hb dL_law_988 rfl (lv_at hl 4 rfl) ?_
  refine lv_iconst (v := 1) hx hb dL_law_989 (by decide) ?_
  refine lv_iadd hx hb dL_law_990 ?_
  refine va_sld hx hb hX hbl hbA hS h1 dL_law_991 ?_
  refine ktopi (y := a1) ea1.symm ?_
  have hPc : va_P D vwCl (wM cyD cyI cyJ cyZ am bv bt bl be bdp bi bg bsd bsv bbd bbv br bu bw sn me ch sp sb no rns rnb fo fw mv mt lf med md tf gf sfs nfs sfb nfb mr mu mw) H := hP.sub [17, 18, 19, 20, 21, 22, 23, 24, 25, 26, 27, 28, 29, 30, 31] rfl
  have hDc : va_D A (wM cyD cyI cyJ cyZ am bv bt bl be bdp bi bg bsd bsv bbd bbv br bu bw sn me ch sp sb no rns rnb fo fw mv mt lf med md tf gf sfs nfs sfb nfb mr mu mw) := hD.sub [17, 18, 19, 20, 21, 22, 23, 24, 25, 26, 27, 28, 29, 30, 31] (by decide) rfl
  refine kdE (ws' := (wB cyD cyI cyJ cyZ ax ai ag ats a1s a2s atb a1b a2b aw ad ak ar au ae av ab ch tf gf rns sfs nfs rnb sfb nfb df kf rf uf st fw fo sn me vf lf sp sb no) ++ (wM cyD cyI cyJ cyZ am bv bt bl be bdp bi bg bsd bsv bbd bbv br bu bw sn me ch sp sb no rns rnb fo fw mv mt lf med md tf gf sfs nfs sfb nfb mr mu mw)) (wc := (wM cyD cyI cyJ cyZ am bv bt bl be bdp bi bg bsd bsv bbd bbv br bu bw sn me ch sp sb no rns rnb fo fw mv mt lf med md tf gf sfs nfs sfb nfb mr mu mw)) (wr := (wB cyD cyI cyJ cyZ ax ai ag ats a1s a2s atb a1b a2b aw ad ak ar au ae av ab ch tf gf rns sfs nfs rnb sfb nfb df kf rf uf st fw fo sn me vf lf sp sb no)) (w1 := (wM cyD cyI cyJ cyZ am bv bt bl be bdp bi bg bsd bsv bbd bbv br bu bw sn me ch sp sb no rns rnb fo fw mv mt lf med md tf gf sfs nfs sfb nfb mr mu mw)) (va_runV (As := [.int a1]) (rest := []) ⟨hx, hb, hml, hown, hts⟩ (c_X4_tail (l := l) (D := D) (cyD := cyD) (cyI := cyI) (cyJ := cyJ) (cyZ := cyZ) am bv bt bl be bdp bi bg bsd bsv bbd bbv br bu bw sn me ch sp sb no rns rnb fo fw mv mt lf med md tf gf sfs nfs sfb nfb mr mu mw H.size a1 hM Rn hfw hR4 hmr) (cwV 1 hts gL_law_X4_tail rfl rfl rfl (by decide +kernel) ⟨Nat.le_of_ble_eq_true rfl, Nat.le_of_ble_eq_true rfl⟩) (kV (ci := 4) (q0 := 0) (q := (RX4, TX4, 24)) hN hK hPc hDc rfl rfl rfl) rfl rfl hl.1 rfl (lv_room (Nat.le_of_ble_eq_true rfl)) dL_law_992 ⟨Nat.le_of_ble_eq_true rfl, Nat.le_of_ble_eq_true rfl⟩) hP hD hS hA [17, 18, 19, 20, 21, 22, 23, 24, 25, 26, 27, 28, 29, 30, 31] [0, 1, 2, 3, 4, 5, 6, 7, 8, 9, 10, 11, 12, 13, 14, 15, 16] [0, 1, 2, 3, 4, 5, 6, 7, 8, 9, 10, 11, 12, 13, 14, 15, 16, 17, 18, 19, 20, 21, 22, 23, 24, 25, 26, 27, 28, 29, 30, 31] rfl rfl (by decide) (by decide) rfl (by decide) (fun H locs hP hD hS => ?_)
  refine ktopd (y := (fX3_tail df kf rf fw sn me vf lf sp sb no a1)) hans.symm ?_
  refine lv_dstore (lv' := [(6, .double (fX3_tail df kf rf fw sn me vf lf sp sb no a1)), (4, .double (fX3_tail df kf rf fw sn me vf lf sp sb no a1)), (0, .ref b), (1, .ref ax), (2, .ref am), (3, .int x3)]) hx hb dL_law_995 hl (by decide) rfl (fun ls hl => ?_)
  have hfin := hfin ls H locs hP hD hS (lv_sub hl [2, 3, 4, 5] rfl)
  refine lv_dload hx hb dL_law_997 (lv_at hl 1 rfl) ?_
  refine lv_dload hx hb dL_law_999 (lv_at hl 0 rfl) ?_
  refine lv_dcmp hx hb dL_law_1001 ?_
  refine lv_if_eq (tgt := 1023) hx hb dL_law_1002 (by decide) (fun c_1 => ?_) (fun c_1 => ?_)
  · exact lv_goto (tgt := 1173) hx hb dL_law_1023 (by decide) hfin
  refine lv_dload hx hb dL_law_1005 (lv_at hl 1 rfl) ?_
  refine lv_dload hx hb dL_law_1007 (lv_at hl 1 rfl) ?_
  refine lv_dcmp hx hb dL_law_1009 ?_
  refine lv_if_eq (tgt := 1021) hx hb dL_law_1010 (by decide) (fun c_2 => absurd c_2 c_1) (fun c_2 => ?_)
  refine lv_dload hx hb dL_law_1013 (lv_at hl 0 rfl) ?_
  refine lv_dload hx hb dL_law_1015 (lv_at hl 0 rfl) ?_
  refine lv_dcmp hx hb dL_law_1017 ?_
  refine lv_if_ne (tgt := 1023) hx hb dL_law_1018 (by decide) (fun c_3 => ?_) (fun c_3 => absurd c_3 c_1)
  exact lv_goto (tgt := 1173) hx hb dL_law_1023 (by decide) hfin
set_option maxHeartbeats 4000000 in
set_option maxRecDepth 100000 in
theorem law_map {p : Program} {l : Launch} {e : Env} {s : State} {m : MethodId} {below : List Frame} {meth : Method} {c : Code} {D : va_G} {cyD cyI cyJ cyZ : ClassId} {A : Nat → Prop} {Q : State → Prop} {b L : Nat} {xs : Nat → Int32} (LF : lawF p s m c D cyD cyI cyJ cyZ A b L xs) {ax ai ag ats a1s a2s atb a1b a2b aw ad ak ar au ae av ab : Nat} {am bv bt bl be bdp bi bg bsd bsv bbd bbv br bu bw : Nat} {ch : Int32} {tf : Nat → UInt64} {gf : Nat → UInt64} {rns : Int32} {sfs : Nat → UInt64} {nfs : Nat → UInt64} {rnb : Int32} {sfb : Nat → UInt64} {nfb : Nat → UInt64} {df : Nat → UInt64} {kf : Nat → Int32} {rf : Nat → Int32} {uf : Nat → Int64} {st : Int32} {fw : Int32} {fo : Int32} {sn : Nat} {me : UInt64} {vf : Nat → UInt64} {lf : Nat → Int32} {sp : UInt64} {sb : UInt64} {no : UInt64} {mv : Nat → UInt64} {mt : Nat → Int32} {med : Nat → Int32} {md : Nat → UInt64} {mr : Nat → Int32} {mu : Nat → Int64} {mw : Nat → Int32} (hR : RI ch tf gf rns sfs nfs rnb sfb nfb df kf rf fw fo sn me vf lf sp sb no mv mt med md mr) {x3 : Int32} (h1 : vp_in (x3 + 1) L) (h2 : vp_in (x3 + 2) L) (h3 : vp_in (x3 + 3) L) {H : Heap} {locs : List Loc} {ls : Array Slot} (hP : va_P D vwCl (wU cyD cyI cyJ cyZ ax ai ag ats a1s a2s atb a1b a2b aw ad ak ar au ae av ab am bv bt bl be bdp bi bg bsd bsv bbd bbv br bu bw ch tf gf rns sfs nfs rnb sfb nfb df kf rf uf st fw fo sn me vf lf sp sb no mv mt med md mr mu mw) H) (hD : va_D A (wU cyD cyI cyJ cyZ ax ai ag ats a1s a2s atb a1b a2b aw ad ak ar au ae av ab am bv bt bl be bdp bi bg bsd bsv bbd bbv br bu bw ch tf gf rns sfs nfs rnb sfb nfb df kf rf uf st fw fo sn me vf lf sp sb no mv mt med md mr mu mw)) (hS : va_S A s.heap H locs) (hl : lv_has ls 8 [(0, .ref b), (1, .ref ax), (2, .ref am), (3, .int x3)]) (kk : lawK p l e s m below meth c D cyD cyI cyJ cyZ A Q b ax ai ag ats a1s a2s atb a1b a2b aw ad ak ar au ae av ab am bv bt bl be bdp bi bg bsd bsv bbd bbv br bu bw x3) : W p l e room_1 s m #[Value.ref b] below meth c H locs 600000 7302250 Q (F0 m 1026 ls []) := by
  obtain ⟨hx, hb, hml, hown, hts, hN, hK, hX, hbl, hbA, hA⟩ := LF
  obtain ⟨hE, hM, hlb, hV, hE2, hRR, hrf, hmr, ⟨C, hC4, hch⟩, ⟨Rn, hR4, hfw⟩, ⟨rs, hTs⟩, ⟨rb, hTb⟩, htf, hgf⟩ := id hR
  have hfo1 : fo = 0 ∨ fo = 1 := hRR.elim (fun q => Or.inl q.1) (fun q => Or.inr q.1)
  obtain ⟨a1, ea1⟩ : ∃ y : Int32, y = xs (x3 + 1).toNatClampNeg := ⟨_, rfl⟩
  obtain ⟨a2, ea2⟩ : ∃ y : Int32, y = xs (x3 + 2).toNatClampNeg := ⟨_, rfl⟩
  obtain ⟨d1, ed1⟩ : ∃ y : UInt64, y = FP.dmul (FP.i2d a1) 4593671619917905920 := ⟨_, rfl⟩
  have hd1 : bd 1055 d1 := by rw [ed1]; exact eighth_bd a1
  obtain ⟨d2, ed2⟩ : ∃ y : UInt64, y = FP.dmul (FP.i2d a2) 4593671619917905920 := ⟨_, rfl⟩
  have hd2 : bd 1055 d2 := by rw [ed2]; exact eighth_bd a2
  have hans : (fX3_map tf df kf rf me d1 d2) = (fX4_map me fo med md tf mr d1 d2) := mapEq hRR hE2 hd1 hd2
  have hfin : ∀ (ls : Array Slot) (H : Heap) (locs : List Loc), va_P D vwCl ((wB cyD cyI cyJ cyZ ax ai ag ats a1s a2s atb a1b a2b aw ad ak ar au ae av ab ch tf gf rns sfs nfs rnb sfb nfb df kf rf uf st fw fo sn me vf lf sp sb no) ++ (wM cyD cyI cyJ cyZ am bv bt bl be bdp bi bg bsd bsv bbd bbv br bu bw sn me ch sp sb no rns rnb fo fw mv mt lf med md tf gf sfs nfs sfb nfb mr mu mw)) H → va_D A ((wB cyD cyI cyJ cyZ ax ai ag ats a1s a2s atb a1b a2b aw ad ak ar au ae av ab ch tf gf rns sfs nfs rnb sfb nfb df kf rf uf st fw fo sn me vf lf sp sb no) ++ (wM cyD cyI cyJ cyZ am bv bt bl be bdp bi bg bsd bsv bbd bbv br bu bw sn me ch sp sb no rns rnb fo fw mv mt lf med md tf gf sfs nfs sfb nfb mr mu mw)) → va_S A s.heap H locs → lv_has ls 8 [(0, .ref b), (1, .ref ax), (2, .ref am), (3, .int x3)] → W p l e room_1 s m #[Value.ref b] below meth c H locs 600000 7302250 Q (F0 m 1173 ls []) := fun ls H locs hP hD hS hl => by
    exact kk ch tf gf rns sfs nfs rnb sfb nfb df kf rf uf st fw fo sn me vf lf sp sb no mv mt med md mr mu mw hR H locs ls hP hD hS hl
  refine lv_aload_n hx hb dL_law_1026 rfl (lv_at hl 1 rfl) ?_
  refine lv_aload_n hx hb dL_law_1027 rfl (lv_at hl 0 rfl) ?_
  refine lv_iload_n hx hb dL_law_1028 rfl (lv_at hl 3 rfl) ?_
  refine lv_iconst (v := 1) hx hb dL_law_1029 (by decide) ?_
  refine lv_iadd hx hb dL_law_1030 ?_
  refine va_sld hx hb hX hbl hbA hS h1 dL_law_1031 ?_
  refine ktopi (y := a1) ea1.symm ?_
  refine lv_i2d hx hb dL_law_1032 ?_
  refine lv_ldc2d (v := 4593671619917905920) hx hb hown (hts _ wL21) dL_law_1033 ?_
  refine lv_dmul hx hb dL_law_1036 (bd_n (eighth_bd a1) (by decide)) ?_
  refine ktopd (y := d1) ed1.symm ?_
  refine lv_aload_n hx hb dL_law_1037 rfl (lv_at hl 0 rfl) ?_
  refine lv_iload_n hx hb dL_law_1038 rfl (lv_at hl 3 rfl) ?_
  refine lv_iconst (v := 2) hx hb dL_law_1039 (by decide) ?_
  refine lv_iadd hx hb dL_law_1040 ?_
  refine va_sld hx hb hX hbl hbA hS h2 dL_law_1041 ?_
  refine ktopi (y := a2) ea2.symm ?_
  refine lv_i2d hx hb dL_law_1042 ?_
  refine lv_ldc2d (v := 4593671619917905920) hx hb hown (hts _ wL21) dL_law_1043 ?_
  refine lv_dmul hx hb dL_law_1046 (bd_n (eighth_bd a2) (by decide)) ?_
  refine ktopd (y := d2) ed2.symm ?_
  have hPc : va_P D vwCl (wB cyD cyI cyJ cyZ ax ai ag ats a1s a2s atb a1b a2b aw ad ak ar au ae av ab ch tf gf rns sfs nfs rnb sfb nfb df kf rf uf st fw fo sn me vf lf sp sb no) H := hP.sub [0, 1, 2, 3, 4, 5, 6, 7, 8, 9, 10, 11, 12, 13, 14, 15, 16] rfl
  have hDc : va_D A (wB cyD cyI cyJ cyZ ax ai ag ats a1s a2s atb a1b a2b aw ad ak ar au ae av ab ch tf gf rns sfs nfs rnb sfb nfb df kf rf uf st fw fo sn me vf lf sp sb no) := hD.sub [0, 1, 2, 3, 4, 5, 6, 7, 8, 9, 10, 11, 12, 13, 14, 15, 16] (by decide) rfl
  refine kdE (ws' := (wB cyD cyI cyJ cyZ ax ai ag ats a1s a2s atb a1b a2b aw ad ak ar au ae av ab ch tf gf rns sfs nfs rnb sfb nfb df kf rf uf st fw fo sn me vf lf sp sb no) ++ (wM cyD cyI cyJ cyZ am bv bt bl be bdp bi bg bsd bsv bbd bbv br bu bw sn me ch sp sb no rns rnb fo fw mv mt lf med md tf gf sfs nfs sfb nfb mr mu mw)) (wc := (wB cyD cyI cyJ cyZ ax ai ag ats a1s a2s atb a1b a2b aw ad ak ar au ae av ab ch tf gf rns sfs nfs rnb sfb nfb df kf rf uf st fw fo sn me vf lf sp sb no)) (wr := (wM cyD cyI cyJ cyZ am bv bt bl be bdp bi bg bsd bsv bbd bbv br bu bw sn me ch sp sb no rns rnb fo fw mv mt lf med md tf gf sfs nfs sfb nfb mr mu mw)) (w1 := (wB cyD cyI cyJ cyZ ax ai ag ats a1s a2s atb a1b a2b aw ad ak ar au ae av ab ch tf gf rns sfs nfs rnb sfb nfb df kf rf uf st fw fo sn me vf lf sp sb no)) (va_runV (As := [.double d1, .double d2]) (rest := []) ⟨hx, hb, hml, hown, hts⟩ (c_X3_map (l := l) (D := D) (cyD := cyD) (cyI := cyI) (cyJ := cyJ) (cyZ := cyZ) ax ai ag ats a1s a2s atb a1b a2b aw ad ak ar au ae av ab ch tf gf rns sfs nfs rnb sfb nfb df kf rf uf st fw fo sn me vf lf sp sb no H.size d1 d2 hE hE2.2.1 htf hd1 hd2 (fun j hj => (hden_ok hd1 hd2 j hj).1)) (cwV 2 hts gL_law_X3_map rfl rfl rfl (by decide +kernel) ⟨Nat.le_of_ble_eq_true rfl, Nat.le_of_ble_eq_true rfl⟩) (kV (ci := 3) (q0 := 0) (q := (RX3, TX3, 7)) hN hK hPc hDc rfl rfl rfl) rfl rfl hl.1 rfl (lv_room (Nat.le_of_ble_eq_true rfl)) dL_law_1047 ⟨Nat.le_of_ble_eq_true rfl, Nat.le_of_ble_eq_true rfl⟩) hP hD hS hA [0, 1, 2, 3, 4, 5, 6, 7, 8, 9, 10, 11, 12, 13, 14, 15, 16] [17, 18, 19, 20, 21, 22, 23, 24, 25, 26, 27, 28, 29, 30, 31] [15, 16, 17, 18, 19, 20, 21, 22, 23, 24, 25, 26, 27, 28, 29, 30, 31, 0, 1, 2, 3, 4, 5, 6, 7, 8, 9, 10, 11, 12, 13, 14] rfl rfl (by decide) (by decide) rfl (by decide) (fun H locs hP hD hS => ?_)
  refine lv_dstore (lv' := [(4, .double (fX3_map tf df kf rf me d1 d2)), (0, .ref b), (1, .ref ax), (2, .ref am), (3, .int x3)]) hx hb dL_law_1050 hl (by decide) rfl (fun ls hl => ?_)
  refine lv_aload_n hx hb dL_law_1052 rfl (lv_at hl 3 rfl) ?_
  refine lv_aload_n hx hb dL_law_1053 rfl (lv_at hl 1 rfl) ?_
  refine lv_iload_n hx hb dL_law_1054 rfl (lv_at hl 4 rfl) ?_
  refine lv_iconst (v := 1) hx hb dL_law_1055 (by decide) ?_
  refine lv_iadd hx hb dL_law_1056 ?_
  refine va_sld hx hb hX hbl hbA hS h1 dL_law_1057 ?_
  refine ktopi (y := a1) ea1.symm ?_
  refine lv_i2d hx hb dL_law_1058 ?_
  refine lv_ldc2d (v := 4593671619917905920) hx hb hown (hts _ wL21) dL_law_1059 ?_
  refine lv_dmul hx hb dL_law_1062 (bd_n (eighth_bd a1) (by decide)) ?_
  refine ktopd (y := d1) ed1.symm ?_
  refine lv_aload_n hx hb dL_law_1063 rfl (lv_at hl 1 rfl) ?_
  refine lv_iload_n hx hb dL_law_1064 rfl (lv_at hl 4 rfl) ?_
  refine lv_iconst (v := 2) hx hb dL_law_1065 (by decide) ?_
  refine lv_iadd hx hb dL_law_1066 ?_
  refine va_sld hx hb hX hbl hbA hS h2 dL_law_1067 ?_
  refine ktopi (y := a2) ea2.symm ?_
  refine lv_i2d hx hb dL_law_1068 ?_
  refine lv_ldc2d (v := 4593671619917905920) hx hb hown (hts _ wL21) dL_law_1069 ?_
  refine lv_dmul hx hb dL_law_1072 (bd_n (eighth_bd a2) (by decide)) ?_
  refine ktopd (y := d2) ed2.symm ?_
  have hPc : va_P D vwCl (wM cyD cyI cyJ cyZ am bv bt bl be bdp bi bg bsd bsv bbd bbv br bu bw sn me ch sp sb no rns rnb fo fw mv mt lf med md tf gf sfs nfs sfb nfb mr mu mw) H := hP.sub [17, 18, 19, 20, 21, 22, 23, 24, 25, 26, 27, 28, 29, 30, 31] rfl
  have hDc : va_D A (wM cyD cyI cyJ cyZ am bv bt bl be bdp bi bg bsd bsv bbd bbv br bu bw sn me ch sp sb no rns rnb fo fw mv mt lf med md tf gf sfs nfs sfb nfb mr mu mw) := hD.sub [17, 18, 19, 20, 21, 22, 23, 24, 25, 26, 27, 28, 29, 30, 31] (by decide) rfl
  refine kdE (ws' := (wB cyD cyI cyJ cyZ ax ai ag ats a1s a2s atb a1b a2b aw ad ak ar au ae av ab ch tf gf rns sfs nfs rnb sfb nfb df kf rf uf st fw fo sn me vf lf sp sb no) ++ (wM cyD cyI cyJ cyZ am bv bt bl be bdp bi bg bsd bsv bbd bbv br bu bw sn me ch sp sb no rns rnb fo fw mv mt lf med md tf gf sfs nfs sfb nfb mr mu mw)) (wc := (wM cyD cyI cyJ cyZ am bv bt bl be bdp bi bg bsd bsv bbd bbv br bu bw sn me ch sp sb no rns rnb fo fw mv mt lf med md tf gf sfs nfs sfb nfb mr mu mw)) (wr := (wB cyD cyI cyJ cyZ ax ai ag ats a1s a2s atb a1b a2b aw ad ak ar au ae av ab ch tf gf rns sfs nfs rnb sfb nfb df kf rf uf st fw fo sn me vf lf sp sb no)) (w1 := (wM cyD cyI cyJ cyZ am bv bt bl be bdp bi bg bsd bsv bbd bbv br bu bw sn me ch sp sb no rns rnb fo fw mv mt lf med md tf gf sfs nfs sfb nfb mr mu mw)) (va_runV (As := [.double d1, .double d2]) (rest := []) ⟨hx, hb, hml, hown, hts⟩ (c_X4_map (l := l) (D := D) (cyD := cyD) (cyI := cyI) (cyJ := cyJ) (cyZ := cyZ) am bv bt bl be bdp bi bg bsd bsv bbd bbv br bu bw sn me ch sp sb no rns rnb fo fw mv mt lf med md tf gf sfs nfs sfb nfb mr mu mw H.size d1 d2 hM hE2.2.2 htf hd1 hd2 (hden_ok hd1 hd2)) (cwV 2 hts gL_law_X4_map rfl rfl rfl (by decide +kernel) ⟨Nat.le_of_ble_eq_true rfl, Nat.le_of_ble_eq_true rfl⟩) (kV (ci := 4) (q0 := 0) (q := (RX4, TX4, 24)) hN hK hPc hDc rfl rfl rfl) rfl rfl hl.1 rfl (lv_room (Nat.le_of_ble_eq_true rfl)) dL_law_1073 ⟨Nat.le_of_ble_eq_true rfl, Nat.le_of_ble_eq_true rfl⟩) hP hD hS hA [17, 18, 19, 20, 21, 22, 23, 24, 25, 26, 27, 28, 29, 30, 31] [0, 1, 2, 3, 4, 5, 6, 7, 8, 9, 10, 11, 12, 13, 14, 15, 16] [0, 1, 2, 3, 4, 5, 6, 7, 8, 9, 10, 11, 12, 13, 14, 15, 16, 17, 18, 19, 20, 21, 22, 23, 24, 25, 26, 27, 28, 29, 30, 31] rfl rfl (by decide) (by decide) rfl (by decide) (fun H locs hP hD hS => ?_)
  refine ktopd (y := (fX3_map tf df kf rf me d1 d2)) hans.symm ?_
  refine lv_dstore (lv' := [(6, .double (fX3_map tf df kf rf me d1 d2)), (4, .double (fX3_map tf df kf rf me d1 d2)), (0, .ref b), (1, .ref ax), (2, .ref am), (3, .int x3)]) hx hb dL_law_1076 hl (by decide) rfl (fun ls hl => ?_)
  have hfin := hfin ls H locs hP hD hS (lv_sub hl [2, 3, 4, 5] rfl)
  refine lv_dload hx hb dL_law_1078 (lv_at hl 1 rfl) ?_
  refine lv_dload hx hb dL_law_1080 (lv_at hl 0 rfl) ?_
  refine lv_dcmp hx hb dL_law_1082 ?_
  refine lv_if_eq (tgt := 1104) hx hb dL_law_1083 (by decide) (fun c_1 => ?_) (fun c_1 => ?_)
  · exact lv_goto (tgt := 1173) hx hb dL_law_1104 (by decide) hfin
  refine lv_dload hx hb dL_law_1086 (lv_at hl 1 rfl) ?_
  refine lv_dload hx hb dL_law_1088 (lv_at hl 1 rfl) ?_
  refine lv_dcmp hx hb dL_law_1090 ?_
  refine lv_if_eq (tgt := 1102) hx hb dL_law_1091 (by decide) (fun c_2 => absurd c_2 c_1) (fun c_2 => ?_)
  refine lv_dload hx hb dL_law_1094 (lv_at hl 0 rfl) ?_
  refine lv_dload hx hb dL_law_1096 (lv_at hl 0 rfl) ?_
  refine lv_dcmp hx hb dL_law_1098 ?_
  refine lv_if_ne (tgt := 1104) hx hb dL_law_1099 (by decide) (fun c_3 => ?_) (fun c_3 => absurd c_3 c_1)
  exact lv_goto (tgt := 1173) hx hb dL_law_1104 (by decide) hfin
set_option maxHeartbeats 4000000 in
set_option maxRecDepth 100000 in
theorem law_turned {p : Program} {l : Launch} {e : Env} {s : State} {m : MethodId} {below : List Frame} {meth : Method} {c : Code} {D : va_G} {cyD cyI cyJ cyZ : ClassId} {A : Nat → Prop} {Q : State → Prop} {b L : Nat} {xs : Nat → Int32} (LF : lawF p s m c D cyD cyI cyJ cyZ A b L xs) {ax ai ag ats a1s a2s atb a1b a2b aw ad ak ar au ae av ab : Nat} {am bv bt bl be bdp bi bg bsd bsv bbd bbv br bu bw : Nat} {ch : Int32} {tf : Nat → UInt64} {gf : Nat → UInt64} {rns : Int32} {sfs : Nat → UInt64} {nfs : Nat → UInt64} {rnb : Int32} {sfb : Nat → UInt64} {nfb : Nat → UInt64} {df : Nat → UInt64} {kf : Nat → Int32} {rf : Nat → Int32} {uf : Nat → Int64} {st : Int32} {fw : Int32} {fo : Int32} {sn : Nat} {me : UInt64} {vf : Nat → UInt64} {lf : Nat → Int32} {sp : UInt64} {sb : UInt64} {no : UInt64} {mv : Nat → UInt64} {mt : Nat → Int32} {med : Nat → Int32} {md : Nat → UInt64} {mr : Nat → Int32} {mu : Nat → Int64} {mw : Nat → Int32} (hR : RI ch tf gf rns sfs nfs rnb sfb nfb df kf rf fw fo sn me vf lf sp sb no mv mt med md mr) {x3 : Int32} (h1 : vp_in (x3 + 1) L) (h2 : vp_in (x3 + 2) L) (h3 : vp_in (x3 + 3) L) {H : Heap} {locs : List Loc} {ls : Array Slot} (hP : va_P D vwCl (wU cyD cyI cyJ cyZ ax ai ag ats a1s a2s atb a1b a2b aw ad ak ar au ae av ab am bv bt bl be bdp bi bg bsd bsv bbd bbv br bu bw ch tf gf rns sfs nfs rnb sfb nfb df kf rf uf st fw fo sn me vf lf sp sb no mv mt med md mr mu mw) H) (hD : va_D A (wU cyD cyI cyJ cyZ ax ai ag ats a1s a2s atb a1b a2b aw ad ak ar au ae av ab am bv bt bl be bdp bi bg bsd bsv bbd bbv br bu bw ch tf gf rns sfs nfs rnb sfb nfb df kf rf uf st fw fo sn me vf lf sp sb no mv mt med md mr mu mw)) (hS : va_S A s.heap H locs) (hl : lv_has ls 8 [(0, .ref b), (1, .ref ax), (2, .ref am), (3, .int x3)]) (kk : lawK p l e s m below meth c D cyD cyI cyJ cyZ A Q b ax ai ag ats a1s a2s atb a1b a2b aw ad ak ar au ae av ab am bv bt bl be bdp bi bg bsd bsv bbd bbv br bu bw x3) : W p l e room_1 s m #[Value.ref b] below meth c H locs 600000 7302250 Q (F0 m 1107 ls []) := by
  obtain ⟨hx, hb, hml, hown, hts, hN, hK, hX, hbl, hbA, hA⟩ := LF
  obtain ⟨hE, hM, hlb, hV, hE2, hRR, hrf, hmr, ⟨C, hC4, hch⟩, ⟨Rn, hR4, hfw⟩, ⟨rs, hTs⟩, ⟨rb, hTb⟩, htf, hgf⟩ := id hR
  have hfo1 : fo = 0 ∨ fo = 1 := hRR.elim (fun q => Or.inl q.1) (fun q => Or.inr q.1)
  obtain ⟨a1, ea1⟩ : ∃ y : Int32, y = xs (x3 + 1).toNatClampNeg := ⟨_, rfl⟩
  obtain ⟨a2, ea2⟩ : ∃ y : Int32, y = xs (x3 + 2).toNatClampNeg := ⟨_, rfl⟩
  obtain ⟨d2, ed2⟩ : ∃ y : UInt64, y = FP.dmul (FP.i2d a2) 4593671619917905920 := ⟨_, rfl⟩
  have hd2 : bd 1055 d2 := by rw [ed2]; exact eighth_bd a2
  have hans : ((fX3_turned gf a1 d2).1) = ((fX4_turned gf a1 d2).1) := rfl
  have hfin : ∀ (ls : Array Slot) (H : Heap) (locs : List Loc), va_P D vwCl ((wB cyD cyI cyJ cyZ ax ai ag ats a1s a2s atb a1b a2b aw ad ak ar au ae av ab ch tf ((fX3_turned gf a1 d2).2) rns sfs nfs rnb sfb nfb df kf rf uf st fw fo sn me vf lf sp sb no) ++ (wM cyD cyI cyJ cyZ am bv bt bl be bdp bi bg bsd bsv bbd bbv br bu bw sn me ch sp sb no rns rnb fo fw mv mt lf med md tf ((fX4_turned gf a1 d2).2) sfs nfs sfb nfb mr mu mw)) H → va_D A ((wB cyD cyI cyJ cyZ ax ai ag ats a1s a2s atb a1b a2b aw ad ak ar au ae av ab ch tf ((fX3_turned gf a1 d2).2) rns sfs nfs rnb sfb nfb df kf rf uf st fw fo sn me vf lf sp sb no) ++ (wM cyD cyI cyJ cyZ am bv bt bl be bdp bi bg bsd bsv bbd bbv br bu bw sn me ch sp sb no rns rnb fo fw mv mt lf med md tf ((fX4_turned gf a1 d2).2) sfs nfs sfb nfb mr mu mw)) → va_S A s.heap H locs → lv_has ls 8 [(0, .ref b), (1, .ref ax), (2, .ref am), (3, .int x3)] → W p l e room_1 s m #[Value.ref b] below meth c H locs 600000 7302250 Q (F0 m 1173 ls []) := fun ls H locs hP hD hS hl => by
    exact kk ch tf ((fX3_turned gf a1 d2).2) rns sfs nfs rnb sfb nfb df kf rf uf st fw fo sn me vf lf sp sb no mv mt med md mr mu mw ⟨hE, hM, hlb, hV, hE2, hRR, hrf, hmr, ⟨C, hC4, hch⟩, ⟨Rn, hR4, hfw⟩, ⟨rs, hTs⟩, ⟨rb, hTb⟩, htf, turned_bd hd2 hgf⟩ H locs ls hP hD hS hl
  refine lv_aload_n hx hb dL_law_1107 rfl (lv_at hl 1 rfl) ?_
  refine lv_aload_n hx hb dL_law_1108 rfl (lv_at hl 0 rfl) ?_
  refine lv_iload_n hx hb dL_law_1109 rfl (lv_at hl 3 rfl) ?_
  refine lv_iconst (v := 1) hx hb dL_law_1110 (by decide) ?_
  refine lv_iadd hx hb dL_law_1111 ?_
  refine va_sld hx hb hX hbl hbA hS h1 dL_law_1112 ?_
  refine ktopi (y := a1) ea1.symm ?_
  refine lv_aload_n hx hb dL_law_1113 rfl (lv_at hl 0 rfl) ?_
  refine lv_iload_n hx hb dL_law_1114 rfl (lv_at hl 3 rfl) ?_
  refine lv_iconst (v := 2) hx hb dL_law_1115 (by decide) ?_
  refine lv_iadd hx hb dL_law_1116 ?_
  refine va_sld hx hb hX hbl hbA hS h2 dL_law_1117 ?_
  refine ktopi (y := a2) ea2.symm ?_
  refine lv_i2d hx hb dL_law_1118 ?_
  refine lv_ldc2d (v := 4593671619917905920) hx hb hown (hts _ wL21) dL_law_1119 ?_
  refine lv_dmul hx hb dL_law_1122 (bd_n (eighth_bd a2) (by decide)) ?_
  refine ktopd (y := d2) ed2.symm ?_
  have hPc : va_P D vwCl (wB cyD cyI cyJ cyZ ax ai ag ats a1s a2s atb a1b a2b aw ad ak ar au ae av ab ch tf gf rns sfs nfs rnb sfb nfb df kf rf uf st fw fo sn me vf lf sp sb no) H := hP.sub [0, 1, 2, 3, 4, 5, 6, 7, 8, 9, 10, 11, 12, 13, 14, 15, 16] rfl
  have hDc : va_D A (wB cyD cyI cyJ cyZ ax ai ag ats a1s a2s atb a1b a2b aw ad ak ar au ae av ab ch tf gf rns sfs nfs rnb sfb nfb df kf rf uf st fw fo sn me vf lf sp sb no) := hD.sub [0, 1, 2, 3, 4, 5, 6, 7, 8, 9, 10, 11, 12, 13, 14, 15, 16] (by decide) rfl
  refine kzE (ws' := (wB cyD cyI cyJ cyZ ax ai ag ats a1s a2s atb a1b a2b aw ad ak ar au ae av ab ch tf ((fX3_turned gf a1 d2).2) rns sfs nfs rnb sfb nfb df kf rf uf st fw fo sn me vf lf sp sb no) ++ (wM cyD cyI cyJ cyZ am bv bt bl be bdp bi bg bsd bsv bbd bbv br bu bw sn me ch sp sb no rns rnb fo fw mv mt lf med md tf gf sfs nfs sfb nfb mr mu mw)) (wc := (wB cyD cyI cyJ cyZ ax ai ag ats a1s a2s atb a1b a2b aw ad ak ar au ae av ab ch tf gf rns sfs nfs rnb sfb nfb df kf rf uf st fw fo sn me vf lf sp sb no)) (wr := (wM cyD cyI cyJ cyZ am bv bt bl be bdp bi bg bsd bsv bbd bbv br bu bw sn me ch sp sb no rns rnb fo fw mv mt lf med md tf gf sfs nfs sfb nfb mr mu mw)) (w1 := (wB cyD cyI cyJ cyZ ax ai ag ats a1s a2s atb a1b a2b aw ad ak ar au ae av ab ch tf ((fX3_turned gf a1 d2).2) rns sfs nfs rnb sfb nfb df kf rf uf st fw fo sn me vf lf sp sb no)) (va_runV (As := [.int a1, .double d2]) (rest := []) ⟨hx, hb, hml, hown, hts⟩ (c_X3_turned (l := l) (D := D) (cyD := cyD) (cyI := cyI) (cyJ := cyJ) (cyZ := cyZ) ax ai ag ats a1s a2s atb a1b a2b aw ad ak ar au ae av ab ch tf gf rns sfs nfs rnb sfb nfb df kf rf uf st fw fo sn me vf lf sp sb no H.size a1 d2) (cwV 2 hts gL_law_X3_turned rfl rfl rfl (by decide +kernel) ⟨Nat.le_of_ble_eq_true rfl, Nat.le_of_ble_eq_true rfl⟩) (kV (ci := 3) (q0 := 0) (q := (RX3, TX3, 7)) hN hK hPc hDc rfl rfl rfl) rfl rfl hl.1 rfl (lv_room (Nat.le_of_ble_eq_true rfl)) dL_law_1123 ⟨Nat.le_of_ble_eq_true rfl, Nat.le_of_ble_eq_true rfl⟩) hP hD hS hA [0, 1, 2, 3, 4, 5, 6, 7, 8, 9, 10, 11, 12, 13, 14, 15, 16] [17, 18, 19, 20, 21, 22, 23, 24, 25, 26, 27, 28, 29, 30, 31] [15, 16, 17, 18, 19, 20, 21, 22, 23, 24, 25, 26, 27, 28, 29, 30, 31, 0, 1, 2, 3, 4, 5, 6, 7, 8, 9, 10, 11, 12, 13, 14] rfl rfl (by decide) (by decide) rfl (by decide) (fun H locs hz_1123 hP hD hS => ?_)
  refine lv_aload_n hx hb dL_law_1126 rfl (lv_at hl 2 rfl) ?_
  refine lv_aload_n hx hb dL_law_1127 rfl (lv_at hl 0 rfl) ?_
  refine lv_iload_n hx hb dL_law_1128 rfl (lv_at hl 3 rfl) ?_
  refine lv_iconst (v := 1) hx hb dL_law_1129 (by decide) ?_
  refine lv_iadd hx hb dL_law_1130 ?_
  refine va_sld hx hb hX hbl hbA hS h1 dL_law_1131 ?_
  refine ktopi (y := a1) ea1.symm ?_
  refine lv_aload_n hx hb dL_law_1132 rfl (lv_at hl 0 rfl) ?_
  refine lv_iload_n hx hb dL_law_1133 rfl (lv_at hl 3 rfl) ?_
  refine lv_iconst (v := 2) hx hb dL_law_1134 (by decide) ?_
  refine lv_iadd hx hb dL_law_1135 ?_
  refine va_sld hx hb hX hbl hbA hS h2 dL_law_1136 ?_
  refine ktopi (y := a2) ea2.symm ?_
  refine lv_i2d hx hb dL_law_1137 ?_
  refine lv_ldc2d (v := 4593671619917905920) hx hb hown (hts _ wL21) dL_law_1138 ?_
  refine lv_dmul hx hb dL_law_1141 (bd_n (eighth_bd a2) (by decide)) ?_
  refine ktopd (y := d2) ed2.symm ?_
  have hPc : va_P D vwCl (wM cyD cyI cyJ cyZ am bv bt bl be bdp bi bg bsd bsv bbd bbv br bu bw sn me ch sp sb no rns rnb fo fw mv mt lf med md tf gf sfs nfs sfb nfb mr mu mw) H := hP.sub [17, 18, 19, 20, 21, 22, 23, 24, 25, 26, 27, 28, 29, 30, 31] rfl
  have hDc : va_D A (wM cyD cyI cyJ cyZ am bv bt bl be bdp bi bg bsd bsv bbd bbv br bu bw sn me ch sp sb no rns rnb fo fw mv mt lf med md tf gf sfs nfs sfb nfb mr mu mw) := hD.sub [17, 18, 19, 20, 21, 22, 23, 24, 25, 26, 27, 28, 29, 30, 31] (by decide) rfl
  refine kzE (ws' := (wB cyD cyI cyJ cyZ ax ai ag ats a1s a2s atb a1b a2b aw ad ak ar au ae av ab ch tf ((fX3_turned gf a1 d2).2) rns sfs nfs rnb sfb nfb df kf rf uf st fw fo sn me vf lf sp sb no) ++ (wM cyD cyI cyJ cyZ am bv bt bl be bdp bi bg bsd bsv bbd bbv br bu bw sn me ch sp sb no rns rnb fo fw mv mt lf med md tf ((fX4_turned gf a1 d2).2) sfs nfs sfb nfb mr mu mw)) (wc := (wM cyD cyI cyJ cyZ am bv bt bl be bdp bi bg bsd bsv bbd bbv br bu bw sn me ch sp sb no rns rnb fo fw mv mt lf med md tf gf sfs nfs sfb nfb mr mu mw)) (wr := (wB cyD cyI cyJ cyZ ax ai ag ats a1s a2s atb a1b a2b aw ad ak ar au ae av ab ch tf ((fX3_turned gf a1 d2).2) rns sfs nfs rnb sfb nfb df kf rf uf st fw fo sn me vf lf sp sb no)) (w1 := (wM cyD cyI cyJ cyZ am bv bt bl be bdp bi bg bsd bsv bbd bbv br bu bw sn me ch sp sb no rns rnb fo fw mv mt lf med md tf ((fX4_turned gf a1 d2).2) sfs nfs sfb nfb mr mu mw)) (va_runV (As := [.int a1, .double d2]) (rest := [.int ((fX3_turned gf a1 d2).1)]) ⟨hx, hb, hml, hown, hts⟩ (c_X4_turned (l := l) (D := D) (cyD := cyD) (cyI := cyI) (cyJ := cyJ) (cyZ := cyZ) am bv bt bl be bdp bi bg bsd bsv bbd bbv br bu bw sn me ch sp sb no rns rnb fo fw mv mt lf med md tf gf sfs nfs sfb nfb mr mu mw H.size a1 d2) (cwV 2 hts gL_law_X4_turned rfl rfl rfl (by decide +kernel) ⟨Nat.le_of_ble_eq_true rfl, Nat.le_of_ble_eq_true rfl⟩) (kV (ci := 4) (q0 := 0) (q := (RX4, TX4, 24)) hN hK hPc hDc rfl rfl rfl) rfl rfl hl.1 rfl (lv_room (Nat.le_of_ble_eq_true rfl)) dL_law_1142 ⟨Nat.le_of_ble_eq_true rfl, Nat.le_of_ble_eq_true rfl⟩) hP hD hS hA [17, 18, 19, 20, 21, 22, 23, 24, 25, 26, 27, 28, 29, 30, 31] [0, 1, 2, 3, 4, 5, 6, 7, 8, 9, 10, 11, 12, 13, 14, 15, 16] [0, 1, 2, 3, 4, 5, 6, 7, 8, 9, 10, 11, 12, 13, 14, 15, 16, 17, 18, 19, 20, 21, 22, 23, 24, 25, 26, 27, 28, 29, 30, 31] rfl rfl (by decide) (by decide) rfl (by decide) (fun H locs hz_1142 hP hD hS => ?_)
  refine lv_icmp_eq (tgt := 1173) hx hb dL_law_1145 (by decide) (fun _ => ?_) (fun h9 => absurd hans h9)
  exact hfin ls H locs hP hD hS hl
set_option maxHeartbeats 4000000 in
set_option maxRecDepth 100000 in
theorem law_empty {p : Program} {l : Launch} {e : Env} {s : State} {m : MethodId} {below : List Frame} {meth : Method} {c : Code} {D : va_G} {cyD cyI cyJ cyZ : ClassId} {A : Nat → Prop} {Q : State → Prop} {b L : Nat} {xs : Nat → Int32} (LF : lawF p s m c D cyD cyI cyJ cyZ A b L xs) {ax ai ag ats a1s a2s atb a1b a2b aw ad ak ar au ae av ab : Nat} {am bv bt bl be bdp bi bg bsd bsv bbd bbv br bu bw : Nat} {ch : Int32} {tf : Nat → UInt64} {gf : Nat → UInt64} {rns : Int32} {sfs : Nat → UInt64} {nfs : Nat → UInt64} {rnb : Int32} {sfb : Nat → UInt64} {nfb : Nat → UInt64} {df : Nat → UInt64} {kf : Nat → Int32} {rf : Nat → Int32} {uf : Nat → Int64} {st : Int32} {fw : Int32} {fo : Int32} {sn : Nat} {me : UInt64} {vf : Nat → UInt64} {lf : Nat → Int32} {sp : UInt64} {sb : UInt64} {no : UInt64} {mv : Nat → UInt64} {mt : Nat → Int32} {med : Nat → Int32} {md : Nat → UInt64} {mr : Nat → Int32} {mu : Nat → Int64} {mw : Nat → Int32} (hR : RI ch tf gf rns sfs nfs rnb sfb nfb df kf rf fw fo sn me vf lf sp sb no mv mt med md mr) {x3 : Int32} (h1 : vp_in (x3 + 1) L) (h2 : vp_in (x3 + 2) L) (h3 : vp_in (x3 + 3) L) {H : Heap} {locs : List Loc} {ls : Array Slot} (hP : va_P D vwCl (wU cyD cyI cyJ cyZ ax ai ag ats a1s a2s atb a1b a2b aw ad ak ar au ae av ab am bv bt bl be bdp bi bg bsd bsv bbd bbv br bu bw ch tf gf rns sfs nfs rnb sfb nfb df kf rf uf st fw fo sn me vf lf sp sb no mv mt med md mr mu mw) H) (hD : va_D A (wU cyD cyI cyJ cyZ ax ai ag ats a1s a2s atb a1b a2b aw ad ak ar au ae av ab am bv bt bl be bdp bi bg bsd bsv bbd bbv br bu bw ch tf gf rns sfs nfs rnb sfb nfb df kf rf uf st fw fo sn me vf lf sp sb no mv mt med md mr mu mw)) (hS : va_S A s.heap H locs) (hl : lv_has ls 8 [(0, .ref b), (1, .ref ax), (2, .ref am), (3, .int x3)]) (kk : lawK p l e s m below meth c D cyD cyI cyJ cyZ A Q b ax ai ag ats a1s a2s atb a1b a2b aw ad ak ar au ae av ab am bv bt bl be bdp bi bg bsd bsv bbd bbv br bu bw x3) : W p l e room_1 s m #[Value.ref b] below meth c H locs 600000 7302250 Q (F0 m 1150 ls []) := by
  obtain ⟨hx, hb, hml, hown, hts, hN, hK, hX, hbl, hbA, hA⟩ := LF
  obtain ⟨hE, hM, hlb, hV, hE2, hRR, hrf, hmr, ⟨C, hC4, hch⟩, ⟨Rn, hR4, hfw⟩, ⟨rs, hTs⟩, ⟨rb, hTb⟩, htf, hgf⟩ := id hR
  have hfo1 : fo = 0 ∨ fo = 1 := hRR.elim (fun q => Or.inl q.1) (fun q => Or.inr q.1)
  obtain ⟨a1, ea1⟩ : ∃ y : Int32, y = xs (x3 + 1).toNatClampNeg := ⟨_, rfl⟩
  have hans : (fX3_empty ch sn vf a1) = (fX4_empty sn ch mt a1) := emptyEq hM.2.1 hV hC4 hch a1
  have hfin : ∀ (ls : Array Slot) (H : Heap) (locs : List Loc), va_P D vwCl ((wB cyD cyI cyJ cyZ ax ai ag ats a1s a2s atb a1b a2b aw ad ak ar au ae av ab ch tf gf rns sfs nfs rnb sfb nfb df kf rf uf st fw fo sn me vf lf sp sb no) ++ (wM cyD cyI cyJ cyZ am bv bt bl be bdp bi bg bsd bsv bbd bbv br bu bw sn me ch sp sb no rns rnb fo fw mv mt lf med md tf gf sfs nfs sfb nfb mr mu mw)) H → va_D A ((wB cyD cyI cyJ cyZ ax ai ag ats a1s a2s atb a1b a2b aw ad ak ar au ae av ab ch tf gf rns sfs nfs rnb sfb nfb df kf rf uf st fw fo sn me vf lf sp sb no) ++ (wM cyD cyI cyJ cyZ am bv bt bl be bdp bi bg bsd bsv bbd bbv br bu bw sn me ch sp sb no rns rnb fo fw mv mt lf med md tf gf sfs nfs sfb nfb mr mu mw)) → va_S A s.heap H locs → lv_has ls 8 [(0, .ref b), (1, .ref ax), (2, .ref am), (3, .int x3)] → W p l e room_1 s m #[Value.ref b] below meth c H locs 600000 7302250 Q (F0 m 1173 ls []) := fun ls H locs hP hD hS hl => by
    exact kk ch tf gf rns sfs nfs rnb sfb nfb df kf rf uf st fw fo sn me vf lf sp sb no mv mt med md mr mu mw hR H locs ls hP hD hS hl
  refine lv_aload_n hx hb dL_law_1150 rfl (lv_at hl 1 rfl) ?_
  refine lv_aload_n hx hb dL_law_1151 rfl (lv_at hl 0 rfl) ?_
  refine lv_iload_n hx hb dL_law_1152 rfl (lv_at hl 3 rfl) ?_
  refine lv_iconst (v := 1) hx hb dL_law_1153 (by decide) ?_
  refine lv_iadd hx hb dL_law_1154 ?_
  refine va_sld hx hb hX hbl hbA hS h1 dL_law_1155 ?_
  refine ktopi (y := a1) ea1.symm ?_
  have hPc : va_P D vwCl (wB cyD cyI cyJ cyZ ax ai ag ats a1s a2s atb a1b a2b aw ad ak ar au ae av ab ch tf gf rns sfs nfs rnb sfb nfb df kf rf uf st fw fo sn me vf lf sp sb no) H := hP.sub [0, 1, 2, 3, 4, 5, 6, 7, 8, 9, 10, 11, 12, 13, 14, 15, 16] rfl
  have hDc : va_D A (wB cyD cyI cyJ cyZ ax ai ag ats a1s a2s atb a1b a2b aw ad ak ar au ae av ab ch tf gf rns sfs nfs rnb sfb nfb df kf rf uf st fw fo sn me vf lf sp sb no) := hD.sub [0, 1, 2, 3, 4, 5, 6, 7, 8, 9, 10, 11, 12, 13, 14, 15, 16] (by decide) rfl
  refine kzE (ws' := (wB cyD cyI cyJ cyZ ax ai ag ats a1s a2s atb a1b a2b aw ad ak ar au ae av ab ch tf gf rns sfs nfs rnb sfb nfb df kf rf uf st fw fo sn me vf lf sp sb no) ++ (wM cyD cyI cyJ cyZ am bv bt bl be bdp bi bg bsd bsv bbd bbv br bu bw sn me ch sp sb no rns rnb fo fw mv mt lf med md tf gf sfs nfs sfb nfb mr mu mw)) (wc := (wB cyD cyI cyJ cyZ ax ai ag ats a1s a2s atb a1b a2b aw ad ak ar au ae av ab ch tf gf rns sfs nfs rnb sfb nfb df kf rf uf st fw fo sn me vf lf sp sb no)) (wr := (wM cyD cyI cyJ cyZ am bv bt bl be bdp bi bg bsd bsv bbd bbv br bu bw sn me ch sp sb no rns rnb fo fw mv mt lf med md tf gf sfs nfs sfb nfb mr mu mw)) (w1 := (wB cyD cyI cyJ cyZ ax ai ag ats a1s a2s atb a1b a2b aw ad ak ar au ae av ab ch tf gf rns sfs nfs rnb sfb nfb df kf rf uf st fw fo sn me vf lf sp sb no)) (va_runV (As := [.int a1]) (rest := []) ⟨hx, hb, hml, hown, hts⟩ (c_X3_empty (l := l) (D := D) (cyD := cyD) (cyI := cyI) (cyJ := cyJ) (cyZ := cyZ) ax ai ag ats a1s a2s atb a1b a2b aw ad ak ar au ae av ab ch tf gf rns sfs nfs rnb sfb nfb df kf rf uf st fw fo sn me vf lf sp sb no H.size a1 hE) (cwV 1 hts gL_law_X3_empty rfl rfl rfl (by decide +kernel) ⟨Nat.le_of_ble_eq_true rfl, Nat.le_of_ble_eq_true rfl⟩) (kV (ci := 3) (q0 := 0) (q := (RX3, TX3, 7)) hN hK hPc hDc rfl rfl rfl) rfl rfl hl.1 rfl (lv_room (Nat.le_of_ble_eq_true rfl)) dL_law_1156 ⟨Nat.le_of_ble_eq_true rfl, Nat.le_of_ble_eq_true rfl⟩) hP hD hS hA [0, 1, 2, 3, 4, 5, 6, 7, 8, 9, 10, 11, 12, 13, 14, 15, 16] [17, 18, 19, 20, 21, 22, 23, 24, 25, 26, 27, 28, 29, 30, 31] [15, 16, 17, 18, 19, 20, 21, 22, 23, 24, 25, 26, 27, 28, 29, 30, 31, 0, 1, 2, 3, 4, 5, 6, 7, 8, 9, 10, 11, 12, 13, 14] rfl rfl (by decide) (by decide) rfl (by decide) (fun H locs hz_1156 hP hD hS => ?_)
  refine lv_aload_n hx hb dL_law_1159 rfl (lv_at hl 2 rfl) ?_
  refine lv_aload_n hx hb dL_law_1160 rfl (lv_at hl 0 rfl) ?_
  refine lv_iload_n hx hb dL_law_1161 rfl (lv_at hl 3 rfl) ?_
  refine lv_iconst (v := 1) hx hb dL_law_1162 (by decide) ?_
  refine lv_iadd hx hb dL_law_1163 ?_
  refine va_sld hx hb hX hbl hbA hS h1 dL_law_1164 ?_
  refine ktopi (y := a1) ea1.symm ?_
  have hPc : va_P D vwCl (wM cyD cyI cyJ cyZ am bv bt bl be bdp bi bg bsd bsv bbd bbv br bu bw sn me ch sp sb no rns rnb fo fw mv mt lf med md tf gf sfs nfs sfb nfb mr mu mw) H := hP.sub [17, 18, 19, 20, 21, 22, 23, 24, 25, 26, 27, 28, 29, 30, 31] rfl
  have hDc : va_D A (wM cyD cyI cyJ cyZ am bv bt bl be bdp bi bg bsd bsv bbd bbv br bu bw sn me ch sp sb no rns rnb fo fw mv mt lf med md tf gf sfs nfs sfb nfb mr mu mw) := hD.sub [17, 18, 19, 20, 21, 22, 23, 24, 25, 26, 27, 28, 29, 30, 31] (by decide) rfl
  refine kzE (ws' := (wB cyD cyI cyJ cyZ ax ai ag ats a1s a2s atb a1b a2b aw ad ak ar au ae av ab ch tf gf rns sfs nfs rnb sfb nfb df kf rf uf st fw fo sn me vf lf sp sb no) ++ (wM cyD cyI cyJ cyZ am bv bt bl be bdp bi bg bsd bsv bbd bbv br bu bw sn me ch sp sb no rns rnb fo fw mv mt lf med md tf gf sfs nfs sfb nfb mr mu mw)) (wc := (wM cyD cyI cyJ cyZ am bv bt bl be bdp bi bg bsd bsv bbd bbv br bu bw sn me ch sp sb no rns rnb fo fw mv mt lf med md tf gf sfs nfs sfb nfb mr mu mw)) (wr := (wB cyD cyI cyJ cyZ ax ai ag ats a1s a2s atb a1b a2b aw ad ak ar au ae av ab ch tf gf rns sfs nfs rnb sfb nfb df kf rf uf st fw fo sn me vf lf sp sb no)) (w1 := (wM cyD cyI cyJ cyZ am bv bt bl be bdp bi bg bsd bsv bbd bbv br bu bw sn me ch sp sb no rns rnb fo fw mv mt lf med md tf gf sfs nfs sfb nfb mr mu mw)) (va_runV (As := [.int a1]) (rest := [.int (fX3_empty ch sn vf a1)]) ⟨hx, hb, hml, hown, hts⟩ (c_X4_empty (l := l) (D := D) (cyD := cyD) (cyI := cyI) (cyJ := cyJ) (cyZ := cyZ) am bv bt bl be bdp bi bg bsd bsv bbd bbv br bu bw sn me ch sp sb no rns rnb fo fw mv mt lf med md tf gf sfs nfs sfb nfb mr mu mw H.size a1 hM C hch hC4) (cwV 1 hts gL_law_X4_empty rfl rfl rfl (by decide +kernel) ⟨Nat.le_of_ble_eq_true rfl, Nat.le_of_ble_eq_true rfl⟩) (kV (ci := 4) (q0 := 0) (q := (RX4, TX4, 24)) hN hK hPc hDc rfl rfl rfl) rfl rfl hl.1 rfl (lv_room (Nat.le_of_ble_eq_true rfl)) dL_law_1165 ⟨Nat.le_of_ble_eq_true rfl, Nat.le_of_ble_eq_true rfl⟩) hP hD hS hA [17, 18, 19, 20, 21, 22, 23, 24, 25, 26, 27, 28, 29, 30, 31] [0, 1, 2, 3, 4, 5, 6, 7, 8, 9, 10, 11, 12, 13, 14, 15, 16] [0, 1, 2, 3, 4, 5, 6, 7, 8, 9, 10, 11, 12, 13, 14, 15, 16, 17, 18, 19, 20, 21, 22, 23, 24, 25, 26, 27, 28, 29, 30, 31] rfl rfl (by decide) (by decide) rfl (by decide) (fun H locs hz_1165 hP hD hS => ?_)
  refine lv_icmp_eq (tgt := 1173) hx hb dL_law_1168 (by decide) (fun _ => ?_) (fun h9 => absurd hans h9)
  exact hfin ls H locs hP hD hS hl
