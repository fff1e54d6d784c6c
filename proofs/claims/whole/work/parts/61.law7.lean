/-! THE CLAIM OUT OF ONE WALK OF THE LAW'S BODY. Your part is whole_start (and what it stands on); all else here is the same for every law, but numbers. -/
def R_law : String := "BottomWalksLaw"
def lw_P (b : Addr) (xs : List Int32) (args : Array Value) (s : State) : Prop := args = #[.ref b] ∧ s.IntsAt b xs ∧ xs.length ≤ 2050 ∧ (Jvm.Cond.and given_1 narrow_1).before args s = true
/-- what a walk over the start with the record d0 says of its end, said of the start itself -/
theorem lw_closed {s t : State} {o : Outcome} {d0 : Drawn} {L : List Loc} {k n : Nat} (hd0 : s.drawn.sameBut d0 lw_cs) (hv : ∃ v, o = .returned v) (hW : (s.setDrawn d0).WarmedH t.vm) (hs : (s.setDrawn d0).sameButNew ({ t with vm := s.vm } : State) L k n) : State.butDraws s t lw_cs (fun t1 => Framed s o t1 L k n) := by
  have h2 : t.drawn = d0 := congrArg State.drawn hs.1
  refine ⟨⟨hv, hW, State.sameButNew.setDrawn hs s.drawn⟩, ?_, by decide⟩
  rw [h2]
  exact hd0
def lw_Q (_ : Array Value) (s : State) (o : Outcome) (t : State) : Prop := o = .returned (some (.int 1)) ∧ State.butDraws s t lw_cs (fun t1 => Framed s o t1 [] 600000 7302250)
def lw_Z (below : List Frame) (a : Array Value) (s : State) : State → Prop := fun t => ∃ o, t.status = .running ∧ Ended t below o ∧ lw_Q a s o t
/-- the law's own end, with 1 on the stack, nothing written that was there before, its room as the claim has it; d0: the record of draws at this point (at the entry s.drawn: begin with 'refine W.base ?_' and 'have hd0 := Drawn.sameBut.refl s.drawn lw_cs') -/
theorem lw_ret {p : Program} {l : Launch} {e : Env} {s : State} {m : MethodId} {below : List Frame} {meth : Method} {c : Code} {b : Nat} {d0 : Drawn} (hd0 : s.drawn.sameBut d0 lw_cs) (hx : p.tables.exec = Jvm.exec) (hb : c.code = code) (hr : meth.sig.returnType = ret) (hlocks : meth.locks = false) {pc : Nat} {H : Heap} {ls : Array Slot} (hdg : decode code pc = .ok (.ireturn, 1)) : W p l e room_1 (s.setDrawn d0) m #[Value.ref b] below meth c H [] 600000 7302250 (lw_Z below #[Value.ref b] s) (F0 m pc ls [.int 1]) := by
  intro T hT X
  obtain ⟨fs, hret, hrun, hended, hW, hframe⟩ := X.leave (v := some (.int 1)) (hlocks := hlocks) (fun h => by rw [hr] at h; cases h)
  have hmeth' : T.vm.method? m = some meth := X.method'
  refine ⟨T.setFrames fs, ?_, .returned (some (.int 1)), hrun, hended, rfl, lw_closed hd0 ⟨_, rfl⟩ hW hframe⟩
  jvm_step X.here [X.here.top, hx, hb, hdg, hmeth', hr, ret, narrow_b1]
  (try refine ⟨rfl, ?_⟩); (try refine ⟨rfl, ?_⟩)
  first | (intro acts; rw [hret _ acts rfl rfl rfl]) | rw [hret _ _ rfl rfl rfl]
  exact Steps.refl _
/-- what holds at the law's entry: the machine, the code, the tables' words (any of lw_tbl by 'hts w (by decide +kernel)'), the script of L ints xs at the cell b, what the Statement gives of the start (any of its parts by flat_of_before) -/
def lw_At (p : Program) (s : State) (m : MethodId) (meth : Method) (c : Code) (b L : Nat) (xs : Nat → Int32) : Prop :=
  p.tables.exec = Jvm.exec ∧ c.code = code ∧ meth.sig.returnType = ret ∧ c.maxLocals = 8 ∧ s.vm.findClass R_law = some m.cls ∧ (∀ w ∈ lw_tbl, w.before #[Value.ref b] s = true) ∧ va_X b L xs s s.heap ∧ b < s.heap.size ∧ meth.locks = false ∧ (Jvm.Cond.and given_1 narrow_1).before #[Value.ref b] s = true
set_option maxHeartbeats 4000000 in
set_option maxRecDepth 100000 in
theorem law_loop {p : Program} {l : Launch} {e : Env} {s : State} {m : MethodId} {below : List Frame} {meth : Method} {c : Code} {D : va_G} {cyD cyI cyJ cyZ : ClassId} {b L : Nat} {xs : Nat → Int32} (hL : L ≤ 2050) (C0 : lw_At p s m meth c b L xs) (LF : lawF p s m c D cyD cyI cyJ cyZ (fun q : Nat => s.heap.size ≤ q) b L xs) {ax ai ag ats a1s a2s atb a1b a2b aw ad ak ar au ae av ab : Nat} {am bv bt bl be bdp bi bg bsd bsv bbd bbv br bu bw : Nat} : ∀ (n i : Nat), L + 5 ≤ i + n → i ≤ L + 4 → ∀ (ch : Int32) (tf : Nat → UInt64) (gf : Nat → UInt64) (rns : Int32) (sfs : Nat → UInt64) (nfs : Nat → UInt64) (rnb : Int32) (sfb : Nat → UInt64) (nfb : Nat → UInt64) (df : Nat → UInt64) (kf : Nat → Int32) (rf : Nat → Int32) (uf : Nat → Int64) (st : Int32) (fw : Int32) (fo : Int32) (sn : Nat) (me : UInt64) (vf : Nat → UInt64) (lf : Nat → Int32) (sp : UInt64) (sb : UInt64) (no : UInt64) (mv : Nat → UInt64) (mt : Nat → Int32) (med : Nat → Int32) (md : Nat → UInt64) (mr : Nat → Int32) (mu : Nat → Int64) (mw : Nat → Int32), RI ch tf gf rns sfs nfs rnb sfb nfb df kf rf fw fo sn me vf lf sp sb no mv mt med md mr → ∀ (H : Heap) (locs : List Loc) (ls : Array Slot), va_P D vwCl (wU cyD cyI cyJ cyZ ax ai ag ats a1s a2s atb a1b a2b aw ad ak ar au ae av ab am bv bt bl be bdp bi bg bsd bsv bbd bbv br bu bw ch tf gf rns sfs nfs rnb sfb nfb df kf rf uf st fw fo sn me vf lf sp sb no mv mt med md mr mu mw) H → va_D (fun q : Nat => s.heap.size ≤ q) (wU cyD cyI cyJ cyZ ax ai ag ats a1s a2s atb a1b a2b aw ad ak ar au ae av ab am bv bt bl be bdp bi bg bsd bsv bbd bbv br bu bw ch tf gf rns sfs nfs rnb sfb nfb df kf rf uf st fw fo sn me vf lf sp sb no mv mt med md mr mu mw) → va_S (fun q : Nat => s.heap.size ≤ q) s.heap H locs → lv_has ls 8 [(0, .ref b), (1, .ref ax), (2, .ref am), (3, .int (nI i))] → W p l e room_1 s m #[Value.ref b] below meth c H locs 600000 7302250 (lw_Z below #[Value.ref b] s) (F0 m 38 ls []) := by
  obtain ⟨hx, hb, hr, hml, hown0, hts0, hX, hbl, hlocks, hgv⟩ := id C0
  have hbA : ¬ (fun q : Nat => s.heap.size ≤ q) b := Nat.not_le.mpr hbl
  intro n
  induction n with
  | zero =>
    intro i h1 h2
    omega
  | succ n ih =>
    intro i h1 h2 ch tf gf rns sfs nfs rnb sfb nfb df kf rf uf st fw fo sn me vf lf sp sb no mv mt med md mr mu mw hR H locs ls hP hD hS hl
    refine lv_iload_n hx hb dL_law_38 rfl (lv_at hl 3 rfl) ?_
    refine lv_aload_n hx hb dL_law_39 rfl (lv_at hl 0 rfl) ?_
    refine va_slen hx hb hX hbl hbA hS dL_law_40 ?_
    refine lv_iconst (v := 4) hx hb dL_law_41 (by decide) ?_
    refine lv_isub hx hb dL_law_42 ?_
    refine lv_icmp_gt (tgt := 1179) hx hb dL_law_43 (by decide) (fun c_43 => ?_) (fun c_43 => ?_)
    · refine lv_iconst (v := 1) hx hb dL_law_1179 (by decide) ?_
      refine va_forget (fun q hq => hS.2.2 q hq) ?_
      exact W.base (lw_ret (Drawn.sameBut.refl s.drawn lw_cs) hx hb hr hlocks dL_law_1180)
    · have hi4 : i + 4 ≤ L := head4 hL h2 c_43
      have kk : lawK p l e s m below meth c D cyD cyI cyJ cyZ (fun q : Nat => s.heap.size ≤ q) (lw_Z below #[Value.ref b] s) b ax ai ag ats a1s a2s atb a1b a2b aw ad ak ar au ae av ab am bv bt bl be bdp bi bg bsd bsv bbd bbv br bu bw (nI i) := fun ch tf gf rns sfs nfs rnb sfb nfb df kf rf uf st fw fo sn me vf lf sp sb no mv mt med md mr mu mw hR H locs ls hP hD hS hl => by
        refine lv_iinc (v := nI (i + 4)) (lv' := [(3, .int (nI (i + 4))), (0, .ref b), (1, .ref ax), (2, .ref am)]) hx hb dL_law_1173 hl (k := 3) rfl (nI_add i 4) (by decide) rfl (fun ls hl => ?_)
        refine lv_goto (tgt := 38) hx hb dL_law_1176 (by decide) ?_
        exact ih (i + 4) (by omega) (by omega) ch tf gf rns sfs nfs rnb sfb nfb df kf rf uf st fw fo sn me vf lf sp sb no mv mt med md mr mu mw hR H locs ls hP hD hS (lv_sub hl [1, 2, 3, 0] rfl)
      have h_1 : vp_in (nI i + 1) L := by rw [show nI i + 1 = nI (i + 1) from nI_1 i]; exact vp_in_nI (by omega) (by omega)
      have h_2 : vp_in (nI i + 2) L := by rw [show nI i + 2 = nI (i + 2) from nI_add i 2]; exact vp_in_nI (by omega) (by omega)
      have h_3 : vp_in (nI i + 3) L := by rw [show nI i + 3 = nI (i + 3) from nI_add i 3]; exact vp_in_nI (by omega) (by omega)
      refine lv_aload_n hx hb dL_law_46 rfl (lv_at hl 0 rfl) ?_
      refine lv_iload_n hx hb dL_law_47 rfl (lv_at hl 3 rfl) ?_
      refine va_sld hx hb hX hbl hbA hS (vp_in_nI (n := i) (by omega) (by omega)) dL_law_48 ?_
      refine lv_bipush (v := 31) hx hb dL_law_49 (by decide) ?_
      refine lv_iand hx hb dL_law_51 ?_
      obtain ⟨k, hk, ek⟩ := and31 (xs (nI i).toNatClampNeg)
      refine ktopi (y := nI k) ek ?_
      by_cases k0 : k = 0
      · subst k0
        exact lv_tableIn (off := 108) (tgt := 160) hx hb dL_law_52 (by decide) (by decide) (by decide) (by decide) (law_value LF hR h_1 h_2 h_3 hP hD hS hl kk)
      by_cases k1 : k = 1
      · subst k1
        exact lv_tableIn (off := 161) (tgt := 213) hx hb dL_law_52 (by decide) (by decide) (by decide) (by decide) (law_loss LF hR h_1 h_2 h_3 hP hD hS hl kk)
      by_cases k2 : k = 2
      · subst k2
        exact lv_tableIn (off := 214) (tgt := 266) hx hb dL_law_52 (by decide) (by decide) (by decide) (by decide) (law_noise LF hR h_1 h_2 h_3 hP hD hS hl kk)
      by_cases k3 : k = 3
      · subst k3
        exact lv_tableIn (off := 247) (tgt := 299) hx hb dL_law_52 (by decide) (by decide) (by decide) (by decide) (law_run LF hR h_1 h_2 h_3 hP hD hS hl kk)
      by_cases k4 : k = 4
      · subst k4
        exact lv_tableIn (off := 280) (tgt := 332) hx hb dL_law_52 (by decide) (by decide) (by decide) (by decide) (law_bottom LF hR h_1 h_2 h_3 hP hD hS hl kk)
      by_cases k5 : k = 5
      · subst k5
        exact lv_tableIn (off := 331) (tgt := 383) hx hb dL_law_52 (by decide) (by decide) (by decide) (by decide) (law_greatest LF hR h_1 h_2 h_3 hP hD hS hl kk)
      by_cases k6 : k = 6
      · subst k6
        exact lv_tableIn (off := 344) (tgt := 396) hx hb dL_law_52 (by decide) (by decide) (by decide) (by decide) (law_edit LF hR h_1 h_2 h_3 hP hD hS hl kk)
      by_cases k7 : k = 7
      · subst k7
        exact lv_tableIn (off := 387) (tgt := 439) hx hb dL_law_52 (by decide) (by decide) (by decide) (by decide) (law_lost LF hR h_1 h_2 h_3 hP hD hS hl kk)
      by_cases k8 : k = 8
      · subst k8
        exact lv_tableIn (off := 410) (tgt := 462) hx hb dL_law_52 (by decide) (by decide) (by decide) (by decide) (law_bridged LF hR h_1 h_2 h_3 hP hD hS hl kk)
      by_cases k9 : k = 9
      · subst k9
        exact lv_tableIn (off := 433) (tgt := 485) hx hb dL_law_52 (by decide) (by decide) (by decide) (by decide) (law_dead LF hR h_1 h_2 h_3 hP hD hS hl kk)
      by_cases k10 : k = 10
      · subst k10
        exact lv_tableIn (off := 484) (tgt := 536) hx hb dL_law_52 (by decide) (by decide) (by decide) (by decide) (law_surface LF hR h_1 h_2 h_3 hP hD hS hl kk)
      by_cases k11 : k = 11
      · subst k11
        exact lv_tableIn (off := 535) (tgt := 587) hx hb dL_law_52 (by decide) (by decide) (by decide) (by decide) (law_kind LF hR h_1 h_2 h_3 hP hD hS hl kk)
      by_cases k12 : k = 12
      · subst k12
        exact lv_tableIn (off := 558) (tgt := 610) hx hb dL_law_52 (by decide) (by decide) (by decide) (by decide) (law_speed LF hR h_1 h_2 h_3 hP hD hS hl kk)
      by_cases k13 : k = 13
      · subst k13
        exact lv_tableIn (off := 611) (tgt := 663) hx hb dL_law_52 (by decide) (by decide) (by decide) (by decide) (law_bent LF hR h_1 h_2 h_3 hP hD hS hl kk)
      by_cases k14 : k = 14
      · subst k14
        exact lv_tableIn (off := 672) (tgt := 724) hx hb dL_law_52 (by decide) (by decide) (by decide) (by decide) (law_frequency LF hR h_1 h_2 h_3 hP hD hS hl kk)
      by_cases k15 : k = 15
      · subst k15
        exact lv_tableIn (off := 695) (tgt := 747) hx hb dL_law_52 (by decide) (by decide) (by decide) (by decide) (law_joined LF hR h_1 h_2 h_3 hP hD hS hl kk)
      by_cases k16 : k = 16
      · subst k16
        exact lv_tableIn (off := 766) (tgt := 818) hx hb dL_law_52 (by decide) (by decide) (by decide) (by decide) (law_ball LF hR h_1 h_2 h_3 hP hD hS hl kk)
      by_cases k17 : k = 17
      · subst k17
        exact lv_tableIn (off := 819) (tgt := 871) hx hb dL_law_52 (by decide) (by decide) (by decide) (by decide) (law_factor LF hR h_1 h_2 h_3 hP hD hS hl kk)
      by_cases k18 : k = 18
      · subst k18
        exact lv_tableIn (off := 880) (tgt := 932) hx hb dL_law_52 (by decide) (by decide) (by decide) (by decide) (law_tide LF hR h_1 h_2 h_3 hP hD hS hl kk)
      by_cases k19 : k = 19
      · subst k19
        exact lv_tableIn (off := 923) (tgt := 975) hx hb dL_law_52 (by decide) (by decide) (by decide) (by decide) (law_tail LF hR h_1 h_2 h_3 hP hD hS hl kk)
      by_cases k20 : k = 20
      · subst k20
        exact lv_tableIn (off := 974) (tgt := 1026) hx hb dL_law_52 (by decide) (by decide) (by decide) (by decide) (law_map LF hR h_1 h_2 h_3 hP hD hS hl kk)
      by_cases k21 : k = 21
      · subst k21
        exact lv_tableIn (off := 1055) (tgt := 1107) hx hb dL_law_52 (by decide) (by decide) (by decide) (by decide) (law_turned LF hR h_1 h_2 h_3 hP hD hS hl kk)
      by_cases k22 : k = 22
      · subst k22
        exact lv_tableIn (off := 1098) (tgt := 1150) hx hb dL_law_52 (by decide) (by decide) (by decide) (by decide) (law_empty LF hR h_1 h_2 h_3 hP hD hS hl kk)
      exact lv_tableOut (tgt := 1173) hx hb dL_law_52 (Or.inr (by rw [nI_toInt (by omega)]; omega)) (by decide) (kk ch tf gf rns sfs nfs rnb sfb nfb df kf rf uf st fw fo sn me vf lf sp sb no mv mt med md mr mu mw hR H locs ls hP hD hS hl)
