/-! ===== the links of nest mates, and the standard worlds of a contract ===== -/
def kN (U : State) : Prop := va_Nw (.methodLinkNest RX3 9 yX1_init RX3) U ∧ va_Nw (.methodLinkNest RX0 81 yX3_isFrequency RX3) U ∧ va_Nw (.methodLinkNest RX0 65 yX3_isPing RX3) U ∧ va_Nw (.methodLinkNest RX0 61 yX3_within RX3) U ∧ va_Nw (.methodLinkNest RX2 55 yX3_isPing RX3) U ∧ va_Nw (.methodLinkNest RX2 94 yX3_over RX3) U ∧ va_Nw (.methodLinkNest RX2 61 yX3_within RX3) U ∧ va_Nw (.methodLinkNest RX1 36 yX3_over RX3) U
theorem kN.vm {u U : State} (h : u.vm = U.vm) (k : kN u) : kN U := ⟨k.1.same rfl h, k.2.1.same rfl h, k.2.2.1.same rfl h, k.2.2.2.1.same rfl h, k.2.2.2.2.1.same rfl h, k.2.2.2.2.2.1.same rfl h, k.2.2.2.2.2.2.1.same rfl h, k.2.2.2.2.2.2.2.same rfl h⟩
theorem kN.warm {s U : State} (hW : s.WarmedH U.vm) (k : kN s) : kN U := ⟨va_Nw.warmM hW k.1, va_Nw.warmM hW k.2.1, va_Nw.warmM hW k.2.2.1, va_Nw.warmM hW k.2.2.2.1, va_Nw.warmM hW k.2.2.2.2.1, va_Nw.warmM hW k.2.2.2.2.2.1, va_Nw.warmM hW k.2.2.2.2.2.2.1, va_Nw.warmM hW k.2.2.2.2.2.2.2⟩
def kB (D : va_G) (tys : List (ClassId × FieldType)) (ws : va_W) (sz : Nat) (U : State) : Prop := kN U ∧ U.heap.size = sz ∧ va_P D vwCl ws U.heap ∧ va_K D vwCl tys U ∧ va_D (fun _ => True) ws
def kE (D : va_G) (tys : List (ClassId × FieldType)) (ws : va_W) (A : Nat → Prop) (_ : Unit) (t : State) : Prop := va_P D vwCl ws t.heap ∧ va_K D vwCl tys t ∧ va_D A ws
theorem kB_blind {D : va_G} {tys : List (ClassId × FieldType)} {ws : va_W} {sz : Nat} {As : List Value} : FrameBlind (va_Pc As (kB D tys ws sz)) := fun a U g mk q => by
  obtain ⟨q0, q1, q2, qP, qK, qD⟩ := q
  exact ⟨q0, kN.vm (u := U) (U := U.calling g mk a) rfl q1, q2, qP, va_K.moved (u := U) (U := U.calling g mk a) (Vm.Alike.refl U.vm) qK, qD⟩
theorem kS {s : State} {H : Heap} {D : va_G} {tys : List (ClassId × FieldType)} {wc : va_W} {As : List Value} {A : Nat → Prop} (hN : kN s) (hK : va_K D vwCl tys s) (hP : va_P D vwCl wc H) (hD : va_D A wc) : PreS s H (va_Pc As (kB D tys wc H.size)) As :=
  ⟨kB_blind, fun U hU hW => ⟨rfl, hN.warm hW, by rw [hU], by rw [hU]; exact hP, va_K.moved hW.alike hK, hD.weaken (fun _ _ _ _ => trivial)⟩⟩
theorem kV {s : State} {H : Heap} {D : va_G} {tys : List (ClassId × FieldType)} {wc : va_W} {As : List Value} {A : Nat → Prop} {b ci q0 : Nat} {q : vw_C} {fs : List Value} {C : String} (hN : kN s) (hK : va_K D vwCl tys s) (hP : va_P D vwCl wc H) (hD : va_D A wc) (hc : vwCl[ci]? = some q) (hq : q.1 = C) (he : wc[q0]? = some (b, .inr (ci, fs))) : PreV s H C b (va_Pc (.ref b :: As) (kB D tys wc H.size)) As :=
  ⟨kB_blind, hq ▸ va_recv hK hP hc he, fun U hU hW => ⟨rfl, hN.warm hW, by rw [hU], by rw [hU]; exact hP, va_K.moved hW.alike hK, hD.weaken (fun _ _ _ _ => trivial)⟩⟩
section KC
variable {p : Program} {l : Launch} {e : Env} {R : Room} {s : State} {m : MethodId} {args a : Array Value} {below : List Frame} {meth : Method} {c : Code} {H H0 : Heap} {locs : List Loc} {cells slots mc ms pc : Nat} {Q : State → Prop} {ls : Array Slot} {st0 rest : List Value} {D : va_G} {tys : List (ClassId × FieldType)} {ws wc wr w1 ws' : va_W} {A0 : Nat → Prop}
theorem kperm {H1 : Heap} (hP : va_P D vwCl (wr ++ w1) H1) (hD : va_D A0 (wr ++ w1)) (pm : List Nat) (hp : pm.map (fun i => (wr ++ w1)[i]?) = ws'.map some) (hpn : va_nd pm = true) : va_P D vwCl ws' H1 ∧ va_D A0 ws' := by
  refine ⟨?_, hD.sub pm hpn hp⟩
  intro k q hk
  have h1 : (ws'.map some)[k]? = some (some q) := by rw [List.getElem?_map, hk]; rfl
  rw [← hp, List.getElem?_map] at h1
  obtain ⟨i, hi, h2⟩ := Option.map_eq_some_iff.mp h1
  exact hP i q h2
theorem ki {post : Int32 → Unit → Prop} (hr : va_Run p l e R s m args below meth c H locs cells slots mc ms (F0 m pc ls st0) rest (va_Qi post (kE D tys w1 (va_A wc H.size)) (va_A wc H.size) a) (va_A wc H.size)) (hP : va_P D vwCl ws H) (hD : va_D A0 ws) (hS : va_S A0 H0 H locs) (hA : ∀ q, H0.size ≤ q → A0 q) (isC isR pm : List Nat) (hC : isC.map (fun i => ws[i]?) = wc.map some) (hR : isR.map (fun i => ws[i]?) = wr.map some) (hn : va_nd isR = true) (hdis : ∀ i ∈ isR, i ∉ isC) (hp : pm.map (fun i => (wr ++ w1)[i]?) = ws'.map some) (hpn : va_nd pm = true)
    (kk : ∀ (r : Int32) (H1 : Heap) (locs1 : List Loc), post r () → va_P D vwCl ws' H1 → va_D A0 ws' → va_S A0 H0 H1 locs1 → W p l e R s m args below meth c H1 locs1 (cells + mc) (slots + ms) Q (F0 m (pc + 3) ls (.int r :: rest))) : W p l e R s m args below meth c H locs cells slots Q (F0 m pc ls st0) := by
  have hF := va_free (wc := wc) hD hS hA isC hC
  refine va_calli hr hS (fun q _ h => hF q h) hF (fun r u t H1 locs1 ht hvm hw hB hz1 hk1 hS1 => ?_)
  obtain ⟨hP1, hK1, hD1⟩ := hB
  rw [ht] at hP1
  obtain ⟨hP2, hD2⟩ := va_join hP hD isC isR hC hR hn hdis hk1 hF hP1 hD1
  obtain ⟨hP3, hD3⟩ := kperm hP2 hD2 pm hp hpn
  exact kk r H1 locs1 hw hP3 hD3 hS1
theorem kl {post : Int64 → Unit → Prop} (hr : va_Run p l e R s m args below meth c H locs cells slots mc ms (F0 m pc ls st0) rest (va_Ql post (kE D tys w1 (va_A wc H.size)) (va_A wc H.size) a) (va_A wc H.size)) (hP : va_P D vwCl ws H) (hD : va_D A0 ws) (hS : va_S A0 H0 H locs) (hA : ∀ q, H0.size ≤ q → A0 q) (isC isR pm : List Nat) (hC : isC.map (fun i => ws[i]?) = wc.map some) (hR : isR.map (fun i => ws[i]?) = wr.map some) (hn : va_nd isR = true) (hdis : ∀ i ∈ isR, i ∉ isC) (hp : pm.map (fun i => (wr ++ w1)[i]?) = ws'.map some) (hpn : va_nd pm = true)
    (kk : ∀ (r : Int64) (H1 : Heap) (locs1 : List Loc), post r () → va_P D vwCl ws' H1 → va_D A0 ws' → va_S A0 H0 H1 locs1 → W p l e R s m args below meth c H1 locs1 (cells + mc) (slots + ms) Q (F0 m (pc + 3) ls (.long r :: rest))) : W p l e R s m args below meth c H locs cells slots Q (F0 m pc ls st0) := by
  have hF := va_free (wc := wc) hD hS hA isC hC
  refine va_calll hr hS (fun q _ h => hF q h) hF (fun r u t H1 locs1 ht hvm hw hB hz1 hk1 hS1 => ?_)
  obtain ⟨hP1, hK1, hD1⟩ := hB
  rw [ht] at hP1
  obtain ⟨hP2, hD2⟩ := va_join hP hD isC isR hC hR hn hdis hk1 hF hP1 hD1
  obtain ⟨hP3, hD3⟩ := kperm hP2 hD2 pm hp hpn
  exact kk r H1 locs1 hw hP3 hD3 hS1
theorem kd {post : UInt64 → Unit → Prop} (hr : va_Run p l e R s m args below meth c H locs cells slots mc ms (F0 m pc ls st0) rest (va_Qd post (kE D tys w1 (va_A wc H.size)) (va_A wc H.size) a) (va_A wc H.size)) (hP : va_P D vwCl ws H) (hD : va_D A0 ws) (hS : va_S A0 H0 H locs) (hA : ∀ q, H0.size ≤ q → A0 q) (isC isR pm : List Nat) (hC : isC.map (fun i => ws[i]?) = wc.map some) (hR : isR.map (fun i => ws[i]?) = wr.map some) (hn : va_nd isR = true) (hdis : ∀ i ∈ isR, i ∉ isC) (hp : pm.map (fun i => (wr ++ w1)[i]?) = ws'.map some) (hpn : va_nd pm = true)
    (kk : ∀ (r : UInt64) (H1 : Heap) (locs1 : List Loc), post r () → va_P D vwCl ws' H1 → va_D A0 ws' → va_S A0 H0 H1 locs1 → W p l e R s m args below meth c H1 locs1 (cells + mc) (slots + ms) Q (F0 m (pc + 3) ls (.double r :: rest))) : W p l e R s m args below meth c H locs cells slots Q (F0 m pc ls st0) := by
  have hF := va_free (wc := wc) hD hS hA isC hC
  refine va_calld hr hS (fun q _ h => hF q h) hF (fun r u t H1 locs1 ht hvm hw hB hz1 hk1 hS1 => ?_)
  obtain ⟨hP1, hK1, hD1⟩ := hB
  rw [ht] at hP1
  obtain ⟨hP2, hD2⟩ := va_join hP hD isC isR hC hR hn hdis hk1 hF hP1 hD1
  obtain ⟨hP3, hD3⟩ := kperm hP2 hD2 pm hp hpn
  exact kk r H1 locs1 hw hP3 hD3 hS1
theorem kv {post : Unit → Prop} (hr : va_Run p l e R s m args below meth c H locs cells slots mc ms (F0 m pc ls st0) rest (va_Qv post (kE D tys w1 (va_A wc H.size)) (va_A wc H.size) a) (va_A wc H.size)) (hP : va_P D vwCl ws H) (hD : va_D A0 ws) (hS : va_S A0 H0 H locs) (hA : ∀ q, H0.size ≤ q → A0 q) (isC isR pm : List Nat) (hC : isC.map (fun i => ws[i]?) = wc.map some) (hR : isR.map (fun i => ws[i]?) = wr.map some) (hn : va_nd isR = true) (hdis : ∀ i ∈ isR, i ∉ isC) (hp : pm.map (fun i => (wr ++ w1)[i]?) = ws'.map some) (hpn : va_nd pm = true)
    (kk : ∀ (H1 : Heap) (locs1 : List Loc), va_P D vwCl ws' H1 → va_D A0 ws' → va_S A0 H0 H1 locs1 → W p l e R s m args below meth c H1 locs1 (cells + mc) (slots + ms) Q (F0 m (pc + 3) ls rest)) : W p l e R s m args below meth c H locs cells slots Q (F0 m pc ls st0) := by
  have hF := va_free (wc := wc) hD hS hA isC hC
  refine va_callv hr hS (fun q _ h => hF q h) hF (fun u t H1 locs1 ht hvm hw hB hz1 hk1 hS1 => ?_)
  obtain ⟨hP1, hK1, hD1⟩ := hB
  rw [ht] at hP1
  obtain ⟨hP2, hD2⟩ := va_join hP hD isC isR hC hR hn hdis hk1 hF hP1 hD1
  obtain ⟨hP3, hD3⟩ := kperm hP2 hD2 pm hp hpn
  exact kk H1 locs1 hP3 hD3 hS1
theorem kiE {F : Int32} (hr : va_Run p l e R s m args below meth c H locs cells slots mc ms (F0 m pc ls st0) rest (va_Qi (fun (r : Int32) (_ : Unit) => r = F) (kE D tys w1 (va_A wc H.size)) (va_A wc H.size) a) (va_A wc H.size)) (hP : va_P D vwCl ws H) (hD : va_D A0 ws) (hS : va_S A0 H0 H locs) (hA : ∀ q, H0.size ≤ q → A0 q) (isC isR pm : List Nat) (hC : isC.map (fun i => ws[i]?) = wc.map some) (hR : isR.map (fun i => ws[i]?) = wr.map some) (hn : va_nd isR = true) (hdis : ∀ i ∈ isR, i ∉ isC) (hp : pm.map (fun i => (wr ++ w1)[i]?) = ws'.map some) (hpn : va_nd pm = true)
    (kk : ∀ (H1 : Heap) (locs1 : List Loc), va_P D vwCl ws' H1 → va_D A0 ws' → va_S A0 H0 H1 locs1 → W p l e R s m args below meth c H1 locs1 (cells + mc) (slots + ms) Q (F0 m (pc + 3) ls (.int F :: rest))) : W p l e R s m args below meth c H locs cells slots Q (F0 m pc ls st0) :=
  ki hr hP hD hS hA isC isR pm hC hR hn hdis hp hpn (fun r H1 locs1 h a b c => by have h : r = F := h; rw [h]; exact kk H1 locs1 a b c)
theorem klE {F : Int64} (hr : va_Run p l e R s m args below meth c H locs cells slots mc ms (F0 m pc ls st0) rest (va_Ql (fun (r : Int64) (_ : Unit) => r = F) (kE D tys w1 (va_A wc H.size)) (va_A wc H.size) a) (va_A wc H.size)) (hP : va_P D vwCl ws H) (hD : va_D A0 ws) (hS : va_S A0 H0 H locs) (hA : ∀ q, H0.size ≤ q → A0 q) (isC isR pm : List Nat) (hC : isC.map (fun i => ws[i]?) = wc.map some) (hR : isR.map (fun i => ws[i]?) = wr.map some) (hn : va_nd isR = true) (hdis : ∀ i ∈ isR, i ∉ isC) (hp : pm.map (fun i => (wr ++ w1)[i]?) = ws'.map some) (hpn : va_nd pm = true)
    (kk : ∀ (H1 : Heap) (locs1 : List Loc), va_P D vwCl ws' H1 → va_D A0 ws' → va_S A0 H0 H1 locs1 → W p l e R s m args below meth c H1 locs1 (cells + mc) (slots + ms) Q (F0 m (pc + 3) ls (.long F :: rest))) : W p l e R s m args below meth c H locs cells slots Q (F0 m pc ls st0) :=
  kl hr hP hD hS hA isC isR pm hC hR hn hdis hp hpn (fun r H1 locs1 h a b c => by have h : r = F := h; rw [h]; exact kk H1 locs1 a b c)
theorem kdE {F : UInt64} (hr : va_Run p l e R s m args below meth c H locs cells slots mc ms (F0 m pc ls st0) rest (va_Qd (fun (r : UInt64) (_ : Unit) => r = F) (kE D tys w1 (va_A wc H.size)) (va_A wc H.size) a) (va_A wc H.size)) (hP : va_P D vwCl ws H) (hD : va_D A0 ws) (hS : va_S A0 H0 H locs) (hA : ∀ q, H0.size ≤ q → A0 q) (isC isR pm : List Nat) (hC : isC.map (fun i => ws[i]?) = wc.map some) (hR : isR.map (fun i => ws[i]?) = wr.map some) (hn : va_nd isR = true) (hdis : ∀ i ∈ isR, i ∉ isC) (hp : pm.map (fun i => (wr ++ w1)[i]?) = ws'.map some) (hpn : va_nd pm = true)
    (kk : ∀ (H1 : Heap) (locs1 : List Loc), va_P D vwCl ws' H1 → va_D A0 ws' → va_S A0 H0 H1 locs1 → W p l e R s m args below meth c H1 locs1 (cells + mc) (slots + ms) Q (F0 m (pc + 3) ls (.double F :: rest))) : W p l e R s m args below meth c H locs cells slots Q (F0 m pc ls st0) :=
  kd hr hP hD hS hA isC isR pm hC hR hn hdis hp hpn (fun r H1 locs1 h a b c => by have h : r = F := h; rw [h]; exact kk H1 locs1 a b c)
theorem kzE {F : Int32} (hr : va_Run p l e R s m args below meth c H locs cells slots mc ms (F0 m pc ls st0) rest (va_Qi (fun (r : Int32) (_ : Unit) => r = F ∧ (r = 0 ∨ r = 1)) (kE D tys w1 (va_A wc H.size)) (va_A wc H.size) a) (va_A wc H.size)) (hP : va_P D vwCl ws H) (hD : va_D A0 ws) (hS : va_S A0 H0 H locs) (hA : ∀ q, H0.size ≤ q → A0 q) (isC isR pm : List Nat) (hC : isC.map (fun i => ws[i]?) = wc.map some) (hR : isR.map (fun i => ws[i]?) = wr.map some) (hn : va_nd isR = true) (hdis : ∀ i ∈ isR, i ∉ isC) (hp : pm.map (fun i => (wr ++ w1)[i]?) = ws'.map some) (hpn : va_nd pm = true)
    (kk : ∀ (H1 : Heap) (locs1 : List Loc), (F = 0 ∨ F = 1) → va_P D vwCl ws' H1 → va_D A0 ws' → va_S A0 H0 H1 locs1 → W p l e R s m args below meth c H1 locs1 (cells + mc) (slots + ms) Q (F0 m (pc + 3) ls (.int F :: rest))) : W p l e R s m args below meth c H locs cells slots Q (F0 m pc ls st0) :=
  ki hr hP hD hS hA isC isR pm hC hR hn hdis hp hpn (fun r H1 locs1 h a b c => by obtain ⟨h1, h2⟩ := h; have h1 : r = F := h1; rw [h1] at h2 ⊢; exact kk H1 locs1 h2 a b c)
end KC
abbrev mI (l : Launch) (y : MethodName) (wo : List Cond) (rm : Room) (D : va_G) (tys : List (ClassId × FieldType)) (As : List Value) (wd wd' : va_W) (sz : Nat) (F : Int32) (mc ms : Nat) : Prop := Met l y wo rm (va_Pc As (kB D tys wd sz)) (va_Qi (fun (r : Int32) (_ : Unit) => r = F) (kE D tys wd' (va_A wd sz)) (va_A wd sz)) mc ms (va_A wd sz)
abbrev mZ (l : Launch) (y : MethodName) (wo : List Cond) (rm : Room) (D : va_G) (tys : List (ClassId × FieldType)) (As : List Value) (wd wd' : va_W) (sz : Nat) (F : Int32) (mc ms : Nat) : Prop := Met l y wo rm (va_Pc As (kB D tys wd sz)) (va_Qi (fun (r : Int32) (_ : Unit) => r = F ∧ (r = 0 ∨ r = 1)) (kE D tys wd' (va_A wd sz)) (va_A wd sz)) mc ms (va_A wd sz)
abbrev mL (l : Launch) (y : MethodName) (wo : List Cond) (rm : Room) (D : va_G) (tys : List (ClassId × FieldType)) (As : List Value) (wd wd' : va_W) (sz : Nat) (F : Int64) (mc ms : Nat) : Prop := Met l y wo rm (va_Pc As (kB D tys wd sz)) (va_Ql (fun (r : Int64) (_ : Unit) => r = F) (kE D tys wd' (va_A wd sz)) (va_A wd sz)) mc ms (va_A wd sz)
abbrev mD (l : Launch) (y : MethodName) (wo : List Cond) (rm : Room) (D : va_G) (tys : List (ClassId × FieldType)) (As : List Value) (wd wd' : va_W) (sz : Nat) (F : UInt64) (mc ms : Nat) : Prop := Met l y wo rm (va_Pc As (kB D tys wd sz)) (va_Qd (fun (r : UInt64) (_ : Unit) => r = F) (kE D tys wd' (va_A wd sz)) (va_A wd sz)) mc ms (va_A wd sz)
abbrev mV (l : Launch) (y : MethodName) (wo : List Cond) (rm : Room) (D : va_G) (tys : List (ClassId × FieldType)) (As : List Value) (wd wd' : va_W) (sz : Nat) (mc ms : Nat) : Prop := Met l y wo rm (va_Pc As (kB D tys wd sz)) (va_Qv (fun (_ : Unit) => True) (kE D tys wd' (va_A wd sz)) (va_A wd sz)) mc ms (va_A wd sz)
theorem nar_z {v : Int32} (h : v = 0 ∨ v = 1) : narrow .boolean (.int v) = .int v := by rcases h with rfl | rfl <;> rfl
theorem vnar_z {v : Int32} (h : v = 0 ∨ v = 1) : vp_nar .boolean v = v := by rcases h with rfl | rfl <;> rfl
