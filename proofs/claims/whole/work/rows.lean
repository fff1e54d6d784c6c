section
-- ===== PART A: goes FIRST, ahead of the names: the tables' words, and 'selects' of the private methods out of them =====
/-- a private method of a class that the tables say can be made, by its rows of tables_1 -/
def lw_okq (q : MethodName × Nat) : Prop := (q.1.cls ≠ "java/lang/invoke/MethodHandle" ∧ q.1.cls ≠ "java/lang/invoke/VarHandle") ∧ Cond.instantiable q.1.cls q.2 ∈ tables_1 ∧ Cond.privateMethod q.1 ∈ tables_1 ∧ Cond.instanceMethod q.1 ∈ tables_1
theorem lw_p0 : lw_okq (⟨"BottomWalks$Echoes", "placeOf", "(III)I"⟩, 7) := ⟨⟨by decide +kernel, by decide +kernel⟩, List.mem_of_getElem? (i := 34) (by decide +kernel), List.mem_of_getElem? (i := 142) (by decide +kernel), List.mem_of_getElem? (i := 143) (by decide +kernel)⟩
theorem lw_p1 : lw_okq (⟨"BottomWalks$Walk", "hasPing", "(II)Z"⟩, 8) := ⟨⟨by decide +kernel, by decide +kernel⟩, List.mem_of_getElem? (i := 77) (by decide +kernel), List.mem_of_getElem? (i := 187) (by decide +kernel), List.mem_of_getElem? (i := 188) (by decide +kernel)⟩
theorem lw_p2 : lw_okq (⟨"BottomWalks$Walk", "isForWalk", "(II)Z"⟩, 8) := ⟨⟨by decide +kernel, by decide +kernel⟩, List.mem_of_getElem? (i := 77) (by decide +kernel), List.mem_of_getElem? (i := 191) (by decide +kernel), List.mem_of_getElem? (i := 192) (by decide +kernel)⟩
theorem lw_p3 : lw_okq (⟨"BottomWalks$Walk", "isEdited", "(I)Z"⟩, 8) := ⟨⟨by decide +kernel, by decide +kernel⟩, List.mem_of_getElem? (i := 77) (by decide +kernel), List.mem_of_getElem? (i := 195) (by decide +kernel), List.mem_of_getElem? (i := 196) (by decide +kernel)⟩
theorem lw_p4 : lw_okq (⟨"BottomWalks$Walk", "neighbour", "(II)I"⟩, 8) := ⟨⟨by decide +kernel, by decide +kernel⟩, List.mem_of_getElem? (i := 77) (by decide +kernel), List.mem_of_getElem? (i := 208) (by decide +kernel), List.mem_of_getElem? (i := 209) (by decide +kernel)⟩
theorem lw_p5 : lw_okq (⟨"BottomWalks$Walk", "sumUp", "(II)V"⟩, 8) := ⟨⟨by decide +kernel, by decide +kernel⟩, List.mem_of_getElem? (i := 77) (by decide +kernel), List.mem_of_getElem? (i := 216) (by decide +kernel), List.mem_of_getElem? (i := 217) (by decide +kernel)⟩
theorem lw_p6 : lw_okq (⟨"BottomWalks$Walk", "highest", "(I)I"⟩, 8) := ⟨⟨by decide +kernel, by decide +kernel⟩, List.mem_of_getElem? (i := 77) (by decide +kernel), List.mem_of_getElem? (i := 220) (by decide +kernel), List.mem_of_getElem? (i := 221) (by decide +kernel)⟩
theorem lw_p7 : lw_okq (⟨"BottomWalks$Walk", "lowest", "(I)I"⟩, 8) := ⟨⟨by decide +kernel, by decide +kernel⟩, List.mem_of_getElem? (i := 77) (by decide +kernel), List.mem_of_getElem? (i := 232) (by decide +kernel), List.mem_of_getElem? (i := 233) (by decide +kernel)⟩
theorem lw_p8 : lw_okq (⟨"BottomWalks$Walk", "bestBefore", "(III)I"⟩, 8) := ⟨⟨by decide +kernel, by decide +kernel⟩, List.mem_of_getElem? (i := 77) (by decide +kernel), List.mem_of_getElem? (i := 246) (by decide +kernel), List.mem_of_getElem? (i := 247) (by decide +kernel)⟩
theorem lw_p9 : lw_okq (⟨"BottomWalks$Walk", "sumAt", "(II)J"⟩, 8) := ⟨⟨by decide +kernel, by decide +kernel⟩, List.mem_of_getElem? (i := 77) (by decide +kernel), List.mem_of_getElem? (i := 252) (by decide +kernel), List.mem_of_getElem? (i := 253) (by decide +kernel)⟩
theorem lw_p10 : lw_okq (⟨"BottomWalks$Walk", "traceBack", "()J"⟩, 8) := ⟨⟨by decide +kernel, by decide +kernel⟩, List.mem_of_getElem? (i := 77) (by decide +kernel), List.mem_of_getElem? (i := 256) (by decide +kernel), List.mem_of_getElem? (i := 257) (by decide +kernel)⟩
theorem lw_p11 : lw_okq (⟨"BottomWalks$Walk", "sampleOfRow", "(I)I"⟩, 8) := ⟨⟨by decide +kernel, by decide +kernel⟩, List.mem_of_getElem? (i := 77) (by decide +kernel), List.mem_of_getElem? (i := 260) (by decide +kernel), List.mem_of_getElem? (i := 261) (by decide +kernel)⟩
theorem lw_p12 : lw_okq (⟨"BottomWalks$Walk", "depthWalked", "(I)D"⟩, 8) := ⟨⟨by decide +kernel, by decide +kernel⟩, List.mem_of_getElem? (i := 77) (by decide +kernel), List.mem_of_getElem? (i := 281) (by decide +kernel), List.mem_of_getElem? (i := 282) (by decide +kernel)⟩
theorem lw_p13 : lw_okq (⟨"BottomWalks$Table", "rowsUpTo", "(D)I"⟩, 3) := ⟨⟨by decide +kernel, by decide +kernel⟩, List.mem_of_getElem? (i := 17) (by decide +kernel), List.mem_of_getElem? (i := 359) (by decide +kernel), List.mem_of_getElem? (i := 360) (by decide +kernel)⟩
theorem lw_p14 : lw_okq (⟨"BottomWalksModel", "isSample", "(I)Z"⟩, 24) := ⟨⟨by decide +kernel, by decide +kernel⟩, List.mem_of_getElem? (i := 430) (by decide +kernel), List.mem_of_getElem? (i := 517) (by decide +kernel), List.mem_of_getElem? (i := 518) (by decide +kernel)⟩
theorem lw_p15 : lw_okq (⟨"BottomWalksModel", "isEmpty", "(II)Z"⟩, 24) := ⟨⟨by decide +kernel, by decide +kernel⟩, List.mem_of_getElem? (i := 430) (by decide +kernel), List.mem_of_getElem? (i := 563) (by decide +kernel), List.mem_of_getElem? (i := 564) (by decide +kernel)⟩
def lw_privs_1 : List (MethodName × Nat) := [(⟨"BottomWalks$Echoes", "placeOf", "(III)I"⟩, 7), (⟨"BottomWalks$Walk", "hasPing", "(II)Z"⟩, 8), (⟨"BottomWalks$Walk", "isForWalk", "(II)Z"⟩, 8), (⟨"BottomWalks$Walk", "isEdited", "(I)Z"⟩, 8), (⟨"BottomWalks$Walk", "neighbour", "(II)I"⟩, 8), (⟨"BottomWalks$Walk", "sumUp", "(II)V"⟩, 8), (⟨"BottomWalks$Walk", "highest", "(I)I"⟩, 8), (⟨"BottomWalks$Walk", "lowest", "(I)I"⟩, 8), (⟨"BottomWalks$Walk", "bestBefore", "(III)I"⟩, 8), (⟨"BottomWalks$Walk", "sumAt", "(II)J"⟩, 8), (⟨"BottomWalks$Walk", "traceBack", "()J"⟩, 8), (⟨"BottomWalks$Walk", "sampleOfRow", "(I)I"⟩, 8), (⟨"BottomWalks$Walk", "depthWalked", "(I)D"⟩, 8), (⟨"BottomWalks$Table", "rowsUpTo", "(D)I"⟩, 3), (⟨"BottomWalksModel", "isSample", "(I)Z"⟩, 24), (⟨"BottomWalksModel", "isEmpty", "(II)Z"⟩, 24)]
theorem lw_r1 : ∀ q ∈ lw_privs_1, lw_okq q := List.forall_mem_cons.mpr ⟨lw_p0, List.forall_mem_cons.mpr ⟨lw_p1, List.forall_mem_cons.mpr ⟨lw_p2, List.forall_mem_cons.mpr ⟨lw_p3, List.forall_mem_cons.mpr ⟨lw_p4, List.forall_mem_cons.mpr ⟨lw_p5, List.forall_mem_cons.mpr ⟨lw_p6, List.forall_mem_cons.mpr ⟨lw_p7, List.forall_mem_cons.mpr ⟨lw_p8, List.forall_mem_cons.mpr ⟨lw_p9, List.forall_mem_cons.mpr ⟨lw_p10, List.forall_mem_cons.mpr ⟨lw_p11, List.forall_mem_cons.mpr ⟨lw_p12, List.forall_mem_cons.mpr ⟨lw_p13, List.forall_mem_cons.mpr ⟨lw_p14, List.forall_mem_cons.mpr ⟨lw_p15, fun _ h => absurd h List.not_mem_nil⟩⟩⟩⟩⟩⟩⟩⟩⟩⟩⟩⟩⟩⟩⟩⟩
theorem lw_p16 : lw_okq (⟨"BottomWalksModel", "mayStand", "(II)Z"⟩, 24) := ⟨⟨by decide +kernel, by decide +kernel⟩, List.mem_of_getElem? (i := 430) (by decide +kernel), List.mem_of_getElem? (i := 571) (by decide +kernel), List.mem_of_getElem? (i := 572) (by decide +kernel)⟩
theorem lw_p17 : lw_okq (⟨"BottomWalksModel", "counting", "(I)I"⟩, 24) := ⟨⟨by decide +kernel, by decide +kernel⟩, List.mem_of_getElem? (i := 430) (by decide +kernel), List.mem_of_getElem? (i := 575) (by decide +kernel), List.mem_of_getElem? (i := 576) (by decide +kernel)⟩
theorem lw_p18 : lw_okq (⟨"BottomWalksModel", "range", "(I)D"⟩, 24) := ⟨⟨by decide +kernel, by decide +kernel⟩, List.mem_of_getElem? (i := 430) (by decide +kernel), List.mem_of_getElem? (i := 579) (by decide +kernel), List.mem_of_getElem? (i := 580) (by decide +kernel)⟩
theorem lw_p19 : lw_okq (⟨"BottomWalksModel", "bestBefore", "(III)J"⟩, 24) := ⟨⟨by decide +kernel, by decide +kernel⟩, List.mem_of_getElem? (i := 430) (by decide +kernel), List.mem_of_getElem? (i := 583) (by decide +kernel), List.mem_of_getElem? (i := 584) (by decide +kernel)⟩
theorem lw_p20 : lw_okq (⟨"BottomWalksModel", "mayFollow", "(IIIII)Z"⟩, 24) := ⟨⟨by decide +kernel, by decide +kernel⟩, List.mem_of_getElem? (i := 430) (by decide +kernel), List.mem_of_getElem? (i := 588) (by decide +kernel), List.mem_of_getElem? (i := 589) (by decide +kernel)⟩
theorem lw_p21 : lw_okq (⟨"BottomWalksModel", "strength", "(III)J"⟩, 24) := ⟨⟨by decide +kernel, by decide +kernel⟩, List.mem_of_getElem? (i := 430) (by decide +kernel), List.mem_of_getElem? (i := 592) (by decide +kernel), List.mem_of_getElem? (i := 593) (by decide +kernel)⟩
theorem lw_p22 : lw_okq (⟨"BottomWalksModel", "hasBottom", "(I)Z"⟩, 24) := ⟨⟨by decide +kernel, by decide +kernel⟩, List.mem_of_getElem? (i := 430) (by decide +kernel), List.mem_of_getElem? (i := 605) (by decide +kernel), List.mem_of_getElem? (i := 606) (by decide +kernel)⟩
theorem lw_p23 : lw_okq (⟨"BottomWalksModel", "isWalked", "(I)Z"⟩, 24) := ⟨⟨by decide +kernel, by decide +kernel⟩, List.mem_of_getElem? (i := 430) (by decide +kernel), List.mem_of_getElem? (i := 609) (by decide +kernel), List.mem_of_getElem? (i := 610) (by decide +kernel)⟩
theorem lw_p24 : lw_okq (⟨"BottomWalksModel", "isBridged", "(I)Z"⟩, 24) := ⟨⟨by decide +kernel, by decide +kernel⟩, List.mem_of_getElem? (i := 430) (by decide +kernel), List.mem_of_getElem? (i := 613) (by decide +kernel), List.mem_of_getElem? (i := 614) (by decide +kernel)⟩
theorem lw_p25 : lw_okq (⟨"BottomWalksModel", "neighbour", "(II)I"⟩, 24) := ⟨⟨by decide +kernel, by decide +kernel⟩, List.mem_of_getElem? (i := 430) (by decide +kernel), List.mem_of_getElem? (i := 617) (by decide +kernel), List.mem_of_getElem? (i := 618) (by decide +kernel)⟩
theorem lw_p26 : lw_okq (⟨"BottomWalksModel", "plainBottom", "(I)D"⟩, 24) := ⟨⟨by decide +kernel, by decide +kernel⟩, List.mem_of_getElem? (i := 430) (by decide +kernel), List.mem_of_getElem? (i := 621) (by decide +kernel), List.mem_of_getElem? (i := 622) (by decide +kernel)⟩
theorem lw_p27 : lw_okq (⟨"BottomWalksModel", "walkedDepth", "(I)D"⟩, 24) := ⟨⟨by decide +kernel, by decide +kernel⟩, List.mem_of_getElem? (i := 430) (by decide +kernel), List.mem_of_getElem? (i := 625) (by decide +kernel), List.mem_of_getElem? (i := 626) (by decide +kernel)⟩
theorem lw_p28 : lw_okq (⟨"BottomWalksModel", "speedAt", "(D)D"⟩, 24) := ⟨⟨by decide +kernel, by decide +kernel⟩, List.mem_of_getElem? (i := 430) (by decide +kernel), List.mem_of_getElem? (i := 675) (by decide +kernel), List.mem_of_getElem? (i := 676) (by decide +kernel)⟩
def lw_privs_2 : List (MethodName × Nat) := [(⟨"BottomWalksModel", "mayStand", "(II)Z"⟩, 24), (⟨"BottomWalksModel", "counting", "(I)I"⟩, 24), (⟨"BottomWalksModel", "range", "(I)D"⟩, 24), (⟨"BottomWalksModel", "bestBefore", "(III)J"⟩, 24), (⟨"BottomWalksModel", "mayFollow", "(IIIII)Z"⟩, 24), (⟨"BottomWalksModel", "strength", "(III)J"⟩, 24), (⟨"BottomWalksModel", "hasBottom", "(I)Z"⟩, 24), (⟨"BottomWalksModel", "isWalked", "(I)Z"⟩, 24), (⟨"BottomWalksModel", "isBridged", "(I)Z"⟩, 24), (⟨"BottomWalksModel", "neighbour", "(II)I"⟩, 24), (⟨"BottomWalksModel", "plainBottom", "(I)D"⟩, 24), (⟨"BottomWalksModel", "walkedDepth", "(I)D"⟩, 24), (⟨"BottomWalksModel", "speedAt", "(D)D"⟩, 24)]
theorem lw_r2 : ∀ q ∈ lw_privs_2, lw_okq q := List.forall_mem_cons.mpr ⟨lw_p16, List.forall_mem_cons.mpr ⟨lw_p17, List.forall_mem_cons.mpr ⟨lw_p18, List.forall_mem_cons.mpr ⟨lw_p19, List.forall_mem_cons.mpr ⟨lw_p20, List.forall_mem_cons.mpr ⟨lw_p21, List.forall_mem_cons.mpr ⟨lw_p22, List.forall_mem_cons.mpr ⟨lw_p23, List.forall_mem_cons.mpr ⟨lw_p24, List.forall_mem_cons.mpr ⟨lw_p25, List.forall_mem_cons.mpr ⟨lw_p26, List.forall_mem_cons.mpr ⟨lw_p27, List.forall_mem_cons.mpr ⟨lw_p28, fun _ h => absurd h List.not_mem_nil⟩⟩⟩⟩⟩⟩⟩⟩⟩⟩⟩⟩⟩
def lw_privs : List (MethodName × Nat) := lw_privs_1 ++ (lw_privs_2)
def lw_tbl : List Cond := k2_sels lw_privs ++ tables_1
theorem lw_privs_ok : ∀ q ∈ lw_privs, lw_okq q := by
  show ∀ q ∈ lw_privs_1 ++ (lw_privs_2), lw_okq q
  exact List.forall_mem_append.mpr ⟨lw_r1, lw_r2⟩
/-- the streams that the claim lets the run draw from -/
abbrev lw_cs : List Choice := [Jvm.Choice.named "NaN.bits"]
theorem lw_bits : nanBits ∈ lw_cs := by first | decide | exact List.mem_cons_self | simp [lw_cs, nanBits]
end
section
/-! ===== BEGIN words of one list among another's, by their places ===== -/
theorem goodIn_r {big : List Cond} (ws : List Cond) (ps : List Nat) (hp : ws = ps.filterMap (fun i => big[i]?)) (h : ws.all goodWord = true) : GoodIn big ws := by
  intro w hw
  have h1 := List.all_eq_true.mp h w hw
  rw [hp] at hw
  obtain ⟨i, -, hi⟩ := List.mem_filterMap.mp hw
  have hm : w ∈ big := by first | exact List.mem_of_getElem? hi | exact List.getElem?_mem hi
  exact ⟨hm, good_of_word h1⟩
theorem goodIn_app {big a b : List Cond} (ha : GoodIn big a) (hb : GoodIn big b) : GoodIn big (a ++ b) := fun w h => (List.mem_append.mp h).elim (ha w) (hb w)
theorem goodIn_ca {big a b : List Cond} {c : Cond} (ha : GoodIn big (c :: a)) (hb : GoodIn big b) : GoodIn big (c :: (a ++ b)) := fun w h => (List.mem_cons.mp h).elim (fun e => ha w (List.mem_cons.mpr (Or.inl e))) (fun h => (List.mem_append.mp h).elim (fun h => ha w (List.mem_cons.mpr (Or.inr h))) (hb w))
theorem goodIn_sub {big ws : List Cond} (hm : ∀ w ∈ ws, w ∈ big) (h : ws.all goodWord = true) : GoodIn big ws := fun w hw => ⟨hm w hw, good_of_word (List.all_eq_true.mp h w hw)⟩
/-! ===== END ===== -/

/-! ===== BEGIN printed: names, fields, word lists, decode rows ===== -/
def RX0 : String := "BottomWalks$Echoes"
def TX0 : u_T := fun k => match k with
  | 0 => ("BottomWalks$Echoes", "samples", "I", true)
  | 1 => ("BottomWalks$Echoes", "metre", "D", true)
  | 2 => ("BottomWalks$Echoes", "values", "[D", true)
  | 3 => ("BottomWalks$Echoes", "lostPings", "[Z", true)
  | 4 => ("BottomWalks$Echoes", "spread", "D", false)
  | 5 => ("BottomWalks$Echoes", "absorb", "D", false)
  | _ => ("BottomWalks$Echoes", "noiseLevel", "D", false)
def tyX0 : Nat → FieldType := fun k => match k with
  | 0 => .int
  | 1 => .double
  | 2 => .array .double
  | 3 => .array .boolean
  | 4 => .double
  | 5 => .double
  | _ => .double
abbrev wsX00 : List Cond := u_ws RX0 TX0 7
theorem nmX0 : ∀ a, a < 7 → ∀ b, b < 7 → a ≠ b → (TX0 a).2.1 ≠ (TX0 b).2.1 := by decide +kernel
theorem tyX0_ok : ∀ k, k < 7 → parseFieldDescriptor (TX0 k).2.2.1 = some (tyX0 k) := by decide +kernel
abbrev cX0_init : ByteArray := prog_2_method_1_code
def yX0_init : MethodName := ⟨RX0, "<init>", "(II)V"⟩
abbrev cX0_isSample : ByteArray := prog_2_method_2_code
def yX0_isSample : MethodName := ⟨RX0, "isSample", "(I)Z"⟩
abbrev cX0_range : ByteArray := prog_2_method_3_code
def yX0_range : MethodName := ⟨RX0, "range", "(I)D"⟩
abbrev cX0_setLosses : ByteArray := prog_2_method_4_code
def yX0_setLosses : MethodName := ⟨RX0, "setLosses", "(DD)V"⟩
abbrev cX0_setNoiseLevel : ByteArray := prog_2_method_5_code
def yX0_setNoiseLevel : MethodName := ⟨RX0, "setNoiseLevel", "(D)V"⟩
abbrev cX0_tell : ByteArray := prog_2_method_6_code
def yX0_tell : MethodName := ⟨RX0, "tell", "(IIID)Z"⟩
abbrev cX0_lose : ByteArray := prog_2_method_7_code
def yX0_lose : MethodName := ⟨RX0, "lose", "(I)Z"⟩
abbrev cX0_isLost : ByteArray := prog_2_method_8_code
def yX0_isLost : MethodName := ⟨RX0, "isLost", "(I)Z"⟩
abbrev cX0_isSilent : ByteArray := prog_2_method_9_code
def yX0_isSilent : MethodName := ⟨RX0, "isSilent", "(II)Z"⟩
abbrev cX0_strength : ByteArray := prog_2_method_10_code
def yX0_strength : MethodName := ⟨RX0, "strength", "(III)J"⟩
abbrev cX0_sampleFor : ByteArray := prog_2_method_11_code
def yX0_sampleFor : MethodName := ⟨RX0, "sampleFor", "(D)I"⟩
abbrev cX0_placeOf : ByteArray := prog_2_method_12_code
def yX0_placeOf : MethodName := ⟨RX0, "placeOf", "(III)I"⟩
def RX1 : String := "BottomWalks$Table"
def TX1 : u_T := fun k => match k with
  | 0 => ("BottomWalks$Table", "starts", "[D", true)
  | 1 => ("BottomWalks$Table", "numbers", "[D", true)
  | _ => ("BottomWalks$Table", "rows", "I", false)
def tyX1 : Nat → FieldType := fun k => match k with
  | 0 => .array .double
  | 1 => .array .double
  | _ => .int
abbrev wsX10 : List Cond := u_ws RX1 TX1 3
theorem nmX1 : ∀ a, a < 3 → ∀ b, b < 3 → a ≠ b → (TX1 a).2.1 ≠ (TX1 b).2.1 := by decide +kernel
theorem tyX1_ok : ∀ k, k < 3 → parseFieldDescriptor (TX1 k).2.2.1 = some (tyX1 k) := by decide +kernel
abbrev cX1_init : ByteArray := prog_3_method_1_code
def yX1_init : MethodName := ⟨RX1, "<init>", "()V"⟩
abbrev cX1_put : ByteArray := prog_3_method_2_code
def yX1_put : MethodName := ⟨RX1, "put", "(DD)Z"⟩
abbrev cX1_stepAt : ByteArray := prog_3_method_3_code
def yX1_stepAt : MethodName := ⟨RX1, "stepAt", "(DD)D"⟩
abbrev cX1_slopeAt : ByteArray := prog_3_method_4_code
def yX1_slopeAt : MethodName := ⟨RX1, "slopeAt", "(DD)D"⟩
abbrev cX1_rowsUpTo : ByteArray := prog_3_method_5_code
def yX1_rowsUpTo : MethodName := ⟨RX1, "rowsUpTo", "(D)I"⟩
def RX2 : String := "BottomWalks$Walk"
def TX2 : u_T := fun k => match k with
  | 0 => ("BottomWalks$Walk", "echoes", "LBottomWalks$Echoes;", true)
  | 1 => ("BottomWalks$Walk", "depthsTold", "[D", true)
  | 2 => ("BottomWalks$Walk", "walked", "[Z", true)
  | 3 => ("BottomWalks$Walk", "row", "[I", true)
  | 4 => ("BottomWalks$Walk", "sums", "[J", true)
  | 5 => ("BottomWalks$Walk", "steepness", "I", false)
  | 6 => ("BottomWalks$Walk", "frequencyWalked", "I", false)
  | _ => ("BottomWalks$Walk", "found", "Z", false)
def tyX2 : Nat → FieldType := fun k => match k with
  | 0 => .object "BottomWalks$Echoes"
  | 1 => .array .double
  | 2 => .array .boolean
  | 3 => .array .int
  | 4 => .array .long
  | 5 => .int
  | 6 => .int
  | _ => .boolean
abbrev wsX20 : List Cond := u_ws RX2 TX2 8
theorem nmX2 : ∀ a, a < 8 → ∀ b, b < 8 → a ≠ b → (TX2 a).2.1 ≠ (TX2 b).2.1 := by decide +kernel
theorem tyX2_ok : ∀ k, k < 8 → parseFieldDescriptor (TX2 k).2.2.1 = some (tyX2 k) := by decide +kernel
abbrev cX2_init : ByteArray := prog_4_method_1_code
def yX2_init : MethodName := ⟨RX2, "<init>", "(LBottomWalks$Echoes;)V"⟩
abbrev cX2_tellDepth : ByteArray := prog_4_method_2_code
def yX2_tellDepth : MethodName := ⟨RX2, "tellDepth", "(ID)Z"⟩
abbrev cX2_go : ByteArray := prog_4_method_3_code
def yX2_go : MethodName := ⟨RX2, "go", "(III)I"⟩
abbrev cX2_wasFound : ByteArray := prog_4_method_4_code
def yX2_wasFound : MethodName := ⟨RX2, "wasFound", "()Z"⟩
abbrev cX2_isWalked : ByteArray := prog_4_method_5_code
def yX2_isWalked : MethodName := ⟨RX2, "isWalked", "(I)Z"⟩
abbrev cX2_isBridge : ByteArray := prog_4_method_6_code
def yX2_isBridge : MethodName := ⟨RX2, "isBridge", "(I)Z"⟩
abbrev cX2_hasBottom : ByteArray := prog_4_method_7_code
def yX2_hasBottom : MethodName := ⟨RX2, "hasBottom", "(I)Z"⟩
abbrev cX2_depthAt : ByteArray := prog_4_method_8_code
def yX2_depthAt : MethodName := ⟨RX2, "depthAt", "(I)D"⟩
abbrev cX2_strengthsBehind : ByteArray := prog_4_method_9_code
def yX2_strengthsBehind : MethodName := ⟨RX2, "strengthsBehind", "(I)D"⟩
abbrev cX2_hasPing : ByteArray := prog_4_method_10_code
def yX2_hasPing : MethodName := ⟨RX2, "hasPing", "(II)Z"⟩
abbrev cX2_isForWalk : ByteArray := prog_4_method_11_code
def yX2_isForWalk : MethodName := ⟨RX2, "isForWalk", "(II)Z"⟩
abbrev cX2_isEdited : ByteArray := prog_4_method_12_code
def yX2_isEdited : MethodName := ⟨RX2, "isEdited", "(I)Z"⟩
abbrev cX2_depthWalked : ByteArray := prog_4_method_13_code
def yX2_depthWalked : MethodName := ⟨RX2, "depthWalked", "(I)D"⟩
abbrev cX2_sampleOfRow : ByteArray := prog_4_method_14_code
def yX2_sampleOfRow : MethodName := ⟨RX2, "sampleOfRow", "(I)I"⟩
abbrev cX2_neighbour : ByteArray := prog_4_method_15_code
def yX2_neighbour : MethodName := ⟨RX2, "neighbour", "(II)I"⟩
abbrev cX2_lowest : ByteArray := prog_4_method_16_code
def yX2_lowest : MethodName := ⟨RX2, "lowest", "(I)I"⟩
abbrev cX2_highest : ByteArray := prog_4_method_17_code
def yX2_highest : MethodName := ⟨RX2, "highest", "(I)I"⟩
abbrev cX2_sumUp : ByteArray := prog_4_method_18_code
def yX2_sumUp : MethodName := ⟨RX2, "sumUp", "(II)V"⟩
abbrev cX2_traceBack : ByteArray := prog_4_method_19_code
def yX2_traceBack : MethodName := ⟨RX2, "traceBack", "()J"⟩
abbrev cX2_bestBefore : ByteArray := prog_4_method_20_code
def yX2_bestBefore : MethodName := ⟨RX2, "bestBefore", "(III)I"⟩
abbrev cX2_sumAt : ByteArray := prog_4_method_21_code
def yX2_sumAt : MethodName := ⟨RX2, "sumAt", "(II)J"⟩
def RX3 : String := "BottomWalks"
def TX3 : u_T := fun k => match k with
  | 0 => ("BottomWalks", "echoes", "LBottomWalks$Echoes;", true)
  | 1 => ("BottomWalks", "walk", "LBottomWalks$Walk;", true)
  | 2 => ("BottomWalks", "speeds", "LBottomWalks$Table;", true)
  | 3 => ("BottomWalks", "balls", "LBottomWalks$Table;", true)
  | 4 => ("BottomWalks", "tides", "[D", true)
  | 5 => ("BottomWalks", "degreesTurned", "[D", true)
  | _ => ("BottomWalks", "chosen", "I", false)
def tyX3 : Nat → FieldType := fun k => match k with
  | 0 => .object "BottomWalks$Echoes"
  | 1 => .object "BottomWalks$Walk"
  | 2 => .object "BottomWalks$Table"
  | 3 => .object "BottomWalks$Table"
  | 4 => .array .double
  | 5 => .array .double
  | _ => .int
abbrev wsX30 : List Cond := u_ws RX3 TX3 7
theorem nmX3 : ∀ a, a < 7 → ∀ b, b < 7 → a ≠ b → (TX3 a).2.1 ≠ (TX3 b).2.1 := by decide +kernel
theorem tyX3_ok : ∀ k, k < 7 → parseFieldDescriptor (TX3 k).2.2.1 = some (tyX3 k) := by decide +kernel
abbrev cX3_init : ByteArray := prog_1_method_1_code
def yX3_init : MethodName := ⟨RX3, "<init>", "(II)V"⟩
abbrev cX3_value : ByteArray := prog_1_method_2_code
def yX3_value : MethodName := ⟨RX3, "value", "(IID)Z"⟩
abbrev cX3_loss : ByteArray := prog_1_method_3_code
def yX3_loss : MethodName := ⟨RX3, "loss", "(DD)Z"⟩
abbrev cX3_noise : ByteArray := prog_1_method_4_code
def yX3_noise : MethodName := ⟨RX3, "noise", "(D)Z"⟩
abbrev cX3_run : ByteArray := prog_1_method_5_code
def yX3_run : MethodName := ⟨RX3, "run", "(II)I"⟩
abbrev cX3_bottom : ByteArray := prog_1_method_6_code
def yX3_bottom : MethodName := ⟨RX3, "bottom", "(I)D"⟩
abbrev cX3_greatest : ByteArray := prog_1_method_7_code
def yX3_greatest : MethodName := ⟨RX3, "greatest", "()Z"⟩
abbrev cX3_edit : ByteArray := prog_1_method_8_code
def yX3_edit : MethodName := ⟨RX3, "edit", "(ID)Z"⟩
abbrev cX3_lost : ByteArray := prog_1_method_9_code
def yX3_lost : MethodName := ⟨RX3, "lost", "(I)Z"⟩
abbrev cX3_bridged : ByteArray := prog_1_method_10_code
def yX3_bridged : MethodName := ⟨RX3, "bridged", "(I)I"⟩
abbrev cX3_dead : ByteArray := prog_1_method_11_code
def yX3_dead : MethodName := ⟨RX3, "dead", "(I)D"⟩
abbrev cX3_surface : ByteArray := prog_1_method_12_code
def yX3_surface : MethodName := ⟨RX3, "surface", "(I)D"⟩
abbrev cX3_kind : ByteArray := prog_1_method_13_code
def yX3_kind : MethodName := ⟨RX3, "kind", "(I)I"⟩
abbrev cX3_speed : ByteArray := prog_1_method_14_code
def yX3_speed : MethodName := ⟨RX3, "speed", "(DD)Z"⟩
abbrev cX3_bent : ByteArray := prog_1_method_15_code
def yX3_bent : MethodName := ⟨RX3, "bent", "(II)D"⟩
abbrev cX3_frequency : ByteArray := prog_1_method_16_code
def yX3_frequency : MethodName := ⟨RX3, "frequency", "(I)Z"⟩
abbrev cX3_joined : ByteArray := prog_1_method_17_code
def yX3_joined : MethodName := ⟨RX3, "joined", "(III)D"⟩
abbrev cX3_ball : ByteArray := prog_1_method_18_code
def yX3_ball : MethodName := ⟨RX3, "ball", "(DD)Z"⟩
abbrev cX3_factor : ByteArray := prog_1_method_19_code
def yX3_factor : MethodName := ⟨RX3, "factor", "(D)D"⟩
abbrev cX3_tide : ByteArray := prog_1_method_20_code
def yX3_tide : MethodName := ⟨RX3, "tide", "(ID)Z"⟩
abbrev cX3_tail : ByteArray := prog_1_method_21_code
def yX3_tail : MethodName := ⟨RX3, "tail", "(I)D"⟩
abbrev cX3_map : ByteArray := prog_1_method_22_code
def yX3_map : MethodName := ⟨RX3, "map", "(DD)D"⟩
abbrev cX3_turned : ByteArray := prog_1_method_23_code
def yX3_turned : MethodName := ⟨RX3, "turned", "(ID)Z"⟩
abbrev cX3_empty : ByteArray := prog_1_method_24_code
def yX3_empty : MethodName := ⟨RX3, "empty", "(I)Z"⟩
abbrev cX3_isPing : ByteArray := prog_1_method_25_code
def yX3_isPing : MethodName := ⟨RX3, "isPing", "(I)Z"⟩
abbrev cX3_isFrequency : ByteArray := prog_1_method_26_code
def yX3_isFrequency : MethodName := ⟨RX3, "isFrequency", "(I)Z"⟩
abbrev cX3_within : ByteArray := prog_1_method_27_code
def yX3_within : MethodName := ⟨RX3, "within", "(DDD)Z"⟩
abbrev cX3_over : ByteArray := prog_1_method_28_code
def yX3_over : MethodName := ⟨RX3, "over", "(DD)D"⟩
def RX4 : String := "BottomWalksModel"
def TX4 : u_T := fun k => match k with
  | 0 => ("BottomWalksModel", "samples", "I", true)
  | 1 => ("BottomWalksModel", "metre", "D", true)
  | 2 => ("BottomWalksModel", "values", "[D", true)
  | 3 => ("BottomWalksModel", "told", "[Z", true)
  | 4 => ("BottomWalksModel", "isLost", "[Z", true)
  | 5 => ("BottomWalksModel", "isEdited", "[Z", true)
  | 6 => ("BottomWalksModel", "depths", "[D", true)
  | 7 => ("BottomWalksModel", "tides", "[D", true)
  | 8 => ("BottomWalksModel", "degrees", "[D", true)
  | 9 => ("BottomWalksModel", "chosen", "I", false)
  | 10 => ("BottomWalksModel", "spread", "D", false)
  | 11 => ("BottomWalksModel", "absorb", "D", false)
  | 12 => ("BottomWalksModel", "noise", "D", false)
  | 13 => ("BottomWalksModel", "speeds", "I", false)
  | 14 => ("BottomWalksModel", "speedDepths", "[D", true)
  | 15 => ("BottomWalksModel", "speedValues", "[D", true)
  | 16 => ("BottomWalksModel", "balls", "I", false)
  | 17 => ("BottomWalksModel", "ballDays", "[D", true)
  | 18 => ("BottomWalksModel", "ballValues", "[D", true)
  | 19 => ("BottomWalksModel", "hasRun", "Z", false)
  | 20 => ("BottomWalksModel", "runOf", "I", false)
  | 21 => ("BottomWalksModel", "row", "[I", true)
  | 22 => ("BottomWalksModel", "sums", "[J", true)
  | _ => ("BottomWalksModel", "walk", "[I", true)
def tyX4 : Nat → FieldType := fun k => match k with
  | 0 => .int
  | 1 => .double
  | 2 => .array .double
  | 3 => .array .boolean
  | 4 => .array .boolean
  | 5 => .array .boolean
  | 6 => .array .double
  | 7 => .array .double
  | 8 => .array .double
  | 9 => .int
  | 10 => .double
  | 11 => .double
  | 12 => .double
  | 13 => .int
  | 14 => .array .double
  | 15 => .array .double
  | 16 => .int
  | 17 => .array .double
  | 18 => .array .double
  | 19 => .boolean
  | 20 => .int
  | 21 => .array .int
  | 22 => .array .long
  | _ => .array .int
abbrev wsX40 : List Cond := u_ws RX4 TX4 24
theorem nmX4 : ∀ a, a < 24 → ∀ b, b < 24 → a ≠ b → (TX4 a).2.1 ≠ (TX4 b).2.1 := by decide +kernel
theorem tyX4_ok : ∀ k, k < 24 → parseFieldDescriptor (TX4 k).2.2.1 = some (tyX4 k) := by decide +kernel
abbrev cX4_init : ByteArray := prog_6_method_1_code
def yX4_init : MethodName := ⟨RX4, "<init>", "(II)V"⟩
abbrev cX4_isPing : ByteArray := prog_6_method_3_code
def yX4_isPing : MethodName := ⟨RX4, "isPing", "(I)Z"⟩
abbrev cX4_isSample : ByteArray := prog_6_method_4_code
def yX4_isSample : MethodName := ⟨RX4, "isSample", "(I)Z"⟩
abbrev cX4_within : ByteArray := prog_6_method_5_code
def yX4_within : MethodName := ⟨RX4, "within", "(DDD)Z"⟩
abbrev cX4_range : ByteArray := prog_6_method_6_code
def yX4_range : MethodName := ⟨RX4, "range", "(I)D"⟩
abbrev cX4_value : ByteArray := prog_6_method_7_code
def yX4_value : MethodName := ⟨RX4, "value", "(IID)Z"⟩
abbrev cX4_loss : ByteArray := prog_6_method_8_code
def yX4_loss : MethodName := ⟨RX4, "loss", "(DD)Z"⟩
abbrev cX4_noise : ByteArray := prog_6_method_9_code
def yX4_noise : MethodName := ⟨RX4, "noise", "(D)Z"⟩
abbrev cX4_edit : ByteArray := prog_6_method_10_code
def yX4_edit : MethodName := ⟨RX4, "edit", "(ID)Z"⟩
abbrev cX4_lost : ByteArray := prog_6_method_11_code
def yX4_lost : MethodName := ⟨RX4, "lost", "(I)Z"⟩
abbrev cX4_frequency : ByteArray := prog_6_method_12_code
def yX4_frequency : MethodName := ⟨RX4, "frequency", "(I)Z"⟩
abbrev cX4_tide : ByteArray := prog_6_method_13_code
def yX4_tide : MethodName := ⟨RX4, "tide", "(ID)Z"⟩
abbrev cX4_turned : ByteArray := prog_6_method_14_code
def yX4_turned : MethodName := ⟨RX4, "turned", "(ID)Z"⟩
abbrev cX4_strength : ByteArray := prog_6_method_15_code
def yX4_strength : MethodName := ⟨RX4, "strength", "(III)J"⟩
abbrev cX4_isEmpty : ByteArray := prog_6_method_16_code
def yX4_isEmpty : MethodName := ⟨RX4, "isEmpty", "(II)Z"⟩
abbrev cX4_empty : ByteArray := prog_6_method_17_code
def yX4_empty : MethodName := ⟨RX4, "empty", "(I)Z"⟩
abbrev cX4_counting : ByteArray := prog_6_method_18_code
def yX4_counting : MethodName := ⟨RX4, "counting", "(I)I"⟩
abbrev cX4_mayStand : ByteArray := prog_6_method_19_code
def yX4_mayStand : MethodName := ⟨RX4, "mayStand", "(II)Z"⟩
abbrev cX4_mayFollow : ByteArray := prog_6_method_20_code
def yX4_mayFollow : MethodName := ⟨RX4, "mayFollow", "(IIIII)Z"⟩
abbrev cX4_bestBefore : ByteArray := prog_6_method_21_code
def yX4_bestBefore : MethodName := ⟨RX4, "bestBefore", "(III)J"⟩
abbrev cX4_run : ByteArray := prog_6_method_22_code
def yX4_run : MethodName := ⟨RX4, "run", "(II)I"⟩
abbrev cX4_greatest : ByteArray := prog_6_method_23_code
def yX4_greatest : MethodName := ⟨RX4, "greatest", "()Z"⟩
abbrev cX4_isWalked : ByteArray := prog_6_method_24_code
def yX4_isWalked : MethodName := ⟨RX4, "isWalked", "(I)Z"⟩
abbrev cX4_walkedDepth : ByteArray := prog_6_method_25_code
def yX4_walkedDepth : MethodName := ⟨RX4, "walkedDepth", "(I)D"⟩
abbrev cX4_neighbour : ByteArray := prog_6_method_26_code
def yX4_neighbour : MethodName := ⟨RX4, "neighbour", "(II)I"⟩
abbrev cX4_isBridged : ByteArray := prog_6_method_27_code
def yX4_isBridged : MethodName := ⟨RX4, "isBridged", "(I)Z"⟩
abbrev cX4_hasBottom : ByteArray := prog_6_method_28_code
def yX4_hasBottom : MethodName := ⟨RX4, "hasBottom", "(I)Z"⟩
abbrev cX4_plainBottom : ByteArray := prog_6_method_29_code
def yX4_plainBottom : MethodName := ⟨RX4, "plainBottom", "(I)D"⟩
abbrev cX4_bottom : ByteArray := prog_6_method_30_code
def yX4_bottom : MethodName := ⟨RX4, "bottom", "(I)D"⟩
abbrev cX4_bridged : ByteArray := prog_6_method_31_code
def yX4_bridged : MethodName := ⟨RX4, "bridged", "(I)I"⟩
abbrev cX4_dead : ByteArray := prog_6_method_32_code
def yX4_dead : MethodName := ⟨RX4, "dead", "(I)D"⟩
abbrev cX4_surface : ByteArray := prog_6_method_33_code
def yX4_surface : MethodName := ⟨RX4, "surface", "(I)D"⟩
abbrev cX4_tail : ByteArray := prog_6_method_34_code
def yX4_tail : MethodName := ⟨RX4, "tail", "(I)D"⟩
abbrev cX4_kind : ByteArray := prog_6_method_35_code
def yX4_kind : MethodName := ⟨RX4, "kind", "(I)I"⟩
abbrev cX4_insert : ByteArray := prog_6_method_36_code
def yX4_insert : MethodName := ⟨RX4, "insert", "([D[DIDD)I"⟩
abbrev cX4_speed : ByteArray := prog_6_method_37_code
def yX4_speed : MethodName := ⟨RX4, "speed", "(DD)Z"⟩
abbrev cX4_ball : ByteArray := prog_6_method_38_code
def yX4_ball : MethodName := ⟨RX4, "ball", "(DD)Z"⟩
abbrev cX4_speedAt : ByteArray := prog_6_method_39_code
def yX4_speedAt : MethodName := ⟨RX4, "speedAt", "(D)D"⟩
abbrev cX4_bent : ByteArray := prog_6_method_40_code
def yX4_bent : MethodName := ⟨RX4, "bent", "(II)D"⟩
abbrev cX4_joined : ByteArray := prog_6_method_41_code
def yX4_joined : MethodName := ⟨RX4, "joined", "(III)D"⟩
abbrev cX4_factor : ByteArray := prog_6_method_42_code
def yX4_factor : MethodName := ⟨RX4, "factor", "(D)D"⟩
abbrev cX4_map : ByteArray := prog_6_method_43_code
def yX4_map : MethodName := ⟨RX4, "map", "(DD)D"⟩
def RJ9 : String := "java/lang/Math"
def TJ9 : u_T := fun k => match k with
  | _ => ("", "", "", false)
def tyJ9 : Nat → FieldType := fun k => match k with
  | _ => .int
abbrev wsJ90 : List Cond := u_ws RJ9 TJ9 0
theorem nmJ9 : ∀ a, a < 0 → ∀ b, b < 0 → a ≠ b → (TJ9 a).2.1 ≠ (TJ9 b).2.1 := by decide +kernel
theorem tyJ9_ok : ∀ k, k < 0 → parseFieldDescriptor (TJ9 k).2.2.1 = some (tyJ9 k) := by decide +kernel
abbrev cJ9_max_7cf53 : ByteArray := prog_7_method_65_code
def yJ9_max_7cf53 : MethodName := ⟨RJ9, "max", "(II)I"⟩
abbrev cJ9_max_f86c9 : ByteArray := prog_7_method_66_code
def yJ9_max_f86c9 : MethodName := ⟨RJ9, "max", "(JJ)J"⟩
abbrev cJ9_min_7cf53 : ByteArray := prog_7_method_69_code
def yJ9_min_7cf53 : MethodName := ⟨RJ9, "min", "(II)I"⟩
def RJ7 : String := "java/util/Arrays"
def TJ7 : u_T := fun k => match k with
  | _ => ("", "", "", false)
def tyJ7 : Nat → FieldType := fun k => match k with
  | _ => .int
abbrev wsJ70 : List Cond := u_ws RJ7 TJ7 0
theorem nmJ7 : ∀ a, a < 0 → ∀ b, b < 0 → a ≠ b → (TJ7 a).2.1 ≠ (TJ7 b).2.1 := by decide +kernel
theorem tyJ7_ok : ∀ k, k < 0 → parseFieldDescriptor (TJ7 k).2.2.1 = some (tyJ7 k) := by decide +kernel
abbrev cJ7_fill_7f8df : ByteArray := prog_8_method_113_code
def yJ7_fill_7f8df : MethodName := ⟨RJ7, "fill", "([DD)V"⟩
def RL : String := "BottomWalksLaw"
abbrev cL_cell : ByteArray := method_2_code
def yL_cell : MethodName := ⟨RL, "cell", "([II)I"⟩
abbrev cL_law : ByteArray := code
def yL_law : MethodName := ⟨RL, "law", "([I)Z"⟩
def wsJ7_fill_7f8df : List Cond := .code yJ7_fill_7f8df cJ7_fill_7f8df 5 none :: ([])
def wsX0_init_r1 : List Cond := [Cond.methodLink RX0 3 objectInit, Cond.instanceMethod objectInit, Cond.code objectInit ⟨#[0xb1]⟩ 1 none, Cond.arrayClass .boolean, Cond.fieldLink RX0 9 "BottomWalks$Echoes" "lostPings" "[Z", Cond.fieldLink RX0 15 "BottomWalks$Echoes" "spread" "D", Cond.fieldLink RX0 19 "BottomWalks$Echoes" "absorb" "D", Cond.fieldLink RX0 22 "BottomWalks$Echoes" "noiseLevel" "D", Cond.methodLink RX0 25 Lib.Math.min.name, Cond.static Lib.Math.min.name, Cond.initialized "java/lang/Math", Cond.code Lib.Math.min.name Lib.Math.min.code 2 (some .int), Cond.methodLink RX0 31 Lib.Math.max.name, Cond.static Lib.Math.max.name, Cond.code Lib.Math.max.name Lib.Math.max.code 2 (some .int), Cond.fieldLink RX0 34 "BottomWalks$Echoes" "samples" "I", Cond.constantDouble RX0 38 (4593671619917905920), Cond.fieldLink RX0 40 "BottomWalks$Echoes" "metre" "D", Cond.arrayClass .double, Cond.fieldLink RX0 43 "BottomWalks$Echoes" "values" "[D", Cond.constantDouble RX0 47 (13830554455654793216), Cond.methodLink RX0 49 yJ7_fill_7f8df, Cond.static yJ7_fill_7f8df, Cond.initialized RJ7]
def wsX0_init_r2 : List Cond := [Cond.code yJ7_fill_7f8df cJ7_fill_7f8df 5 none]
def wsX0_init : List Cond := .code yX0_init cX0_init 3 none :: ((wsX0_init_r1 ++ wsX0_init_r2) ++ wsX00)
def wsX0_isSample : List Cond := .code yX0_isSample cX0_isSample 2 (some .boolean) :: ([.fieldLink RX0 34 "BottomWalks$Echoes" "samples" "I"] ++ wsX00)
def wsX0_range : List Cond := .code yX0_range cX0_range 2 (some .double) :: ([.fieldLink RX0 40 "BottomWalks$Echoes" "metre" "D"] ++ wsX00)
def wsX0_setLosses : List Cond := .code yX0_setLosses cX0_setLosses 5 none :: ([.fieldLink RX0 15 "BottomWalks$Echoes" "spread" "D", .fieldLink RX0 19 "BottomWalks$Echoes" "absorb" "D"] ++ wsX00)
def wsX0_setNoiseLevel : List Cond := .code yX0_setNoiseLevel cX0_setNoiseLevel 3 none :: ([.fieldLink RX0 22 "BottomWalks$Echoes" "noiseLevel" "D"] ++ wsX00)
def wsX3_isFrequency : List Cond := .code yX3_isFrequency cX3_isFrequency 1 (some .boolean) :: ([])
def wsX3_isPing : List Cond := .code yX3_isPing cX3_isPing 1 (some .boolean) :: ([])
def wsX0_placeOf : List Cond := .code yX0_placeOf cX0_placeOf 4 (some .int) :: ([.fieldLink RX0 34 "BottomWalks$Echoes" "samples" "I", .static yX3_isFrequency, .initialized RX3, .code yX3_isFrequency cX3_isFrequency 1 (some .boolean), .static yX3_isPing, .code yX3_isPing cX3_isPing 1 (some .boolean), .methodLink RX0 84 yX0_isSample, .instanceMethod yX0_isSample, .selects RX0 yX0_isSample yX0_isSample, .initialized RX0, .code yX0_isSample cX0_isSample 2 (some .boolean)] ++ wsX00)
def wsX3_within : List Cond := .code yX3_within cX3_within 6 (some .boolean) :: ([])
def wsX0_tell : List Cond := .code yX0_tell cX0_tell 7 (some .boolean) :: ([.constantDouble RX0 59 (4652007308841189376), .fieldLink RX0 43 "BottomWalks$Echoes" "values" "[D", .methodLink RX0 55 yX0_placeOf, .instanceMethod yX0_placeOf, .selects RX0 yX0_placeOf yX0_placeOf, .initialized RX0, .code yX0_placeOf cX0_placeOf 4 (some .int), .fieldLink RX0 34 "BottomWalks$Echoes" "samples" "I", .static yX3_isFrequency, .initialized RX3, .code yX3_isFrequency cX3_isFrequency 1 (some .boolean), .static yX3_isPing, .code yX3_isPing cX3_isPing 1 (some .boolean), .methodLink RX0 84 yX0_isSample, .instanceMethod yX0_isSample, .selects RX0 yX0_isSample yX0_isSample, .code yX0_isSample cX0_isSample 2 (some .boolean), .static yX3_within, .code yX3_within cX3_within 6 (some .boolean)] ++ wsX00)
def wsX0_lose : List Cond := .code yX0_lose cX0_lose 2 (some .boolean) :: ([.fieldLink RX0 9 "BottomWalks$Echoes" "lostPings" "[Z", .static yX3_isPing, .initialized RX3, .code yX3_isPing cX3_isPing 1 (some .boolean)] ++ wsX00)
def wsX0_isLost : List Cond := .code yX0_isLost cX0_isLost 2 (some .boolean) :: ([.fieldLink RX0 9 "BottomWalks$Echoes" "lostPings" "[Z", .static yX3_isPing, .initialized RX3, .code yX3_isPing cX3_isPing 1 (some .boolean)] ++ wsX00)
def wsX0_isSilent : List Cond := .code yX0_isSilent cX0_isSilent 5 (some .boolean) :: ([.fieldLink RX0 34 "BottomWalks$Echoes" "samples" "I", .fieldLink RX0 43 "BottomWalks$Echoes" "values" "[D", .methodLink RX0 55 yX0_placeOf, .instanceMethod yX0_placeOf, .selects RX0 yX0_placeOf yX0_placeOf, .initialized RX0, .code yX0_placeOf cX0_placeOf 4 (some .int), .static yX3_isFrequency, .initialized RX3, .code yX3_isFrequency cX3_isFrequency 1 (some .boolean), .static yX3_isPing, .code yX3_isPing cX3_isPing 1 (some .boolean), .methodLink RX0 84 yX0_isSample, .instanceMethod yX0_isSample, .selects RX0 yX0_isSample yX0_isSample, .code yX0_isSample cX0_isSample 2 (some .boolean)] ++ wsX00)
def wsX0_strength_r1 : List Cond := [Cond.fieldLink RX0 43 "BottomWalks$Echoes" "values" "[D", Cond.fieldLink RX0 15 "BottomWalks$Echoes" "spread" "D", Cond.fieldLink RX0 19 "BottomWalks$Echoes" "absorb" "D", Cond.constantDouble RX0 76 (4562254508917369340), Cond.fieldLink RX0 22 "BottomWalks$Echoes" "noiseLevel" "D", Cond.methodLink RX0 78 Lib.MathLoose.max_long.x, Cond.static Lib.MathLoose.max_long.x, Cond.initialized "java/lang/Math", Cond.code Lib.MathLoose.max_long.x Lib.MathLoose.max_long.code 4 (some .long), Cond.methodLink RX0 55 yX0_placeOf, Cond.instanceMethod yX0_placeOf, Cond.selects RX0 yX0_placeOf yX0_placeOf, Cond.initialized RX0, Cond.code yX0_placeOf cX0_placeOf 4 (some .int), Cond.fieldLink RX0 34 "BottomWalks$Echoes" "samples" "I", Cond.static yX3_isFrequency, Cond.initialized RX3, Cond.code yX3_isFrequency cX3_isFrequency 1 (some .boolean), Cond.static yX3_isPing, Cond.code yX3_isPing cX3_isPing 1 (some .boolean), Cond.methodLink RX0 84 yX0_isSample, Cond.instanceMethod yX0_isSample, Cond.selects RX0 yX0_isSample yX0_isSample, Cond.code yX0_isSample cX0_isSample 2 (some .boolean)]
def wsX0_strength_r2 : List Cond := [Cond.methodLink RX0 69 yX0_isLost, Cond.instanceMethod yX0_isLost, Cond.selects RX0 yX0_isLost yX0_isLost, Cond.code yX0_isLost cX0_isLost 2 (some .boolean), Cond.fieldLink RX0 9 "BottomWalks$Echoes" "lostPings" "[Z", Cond.methodLink RX0 72 yX0_range, Cond.instanceMethod yX0_range, Cond.selects RX0 yX0_range yX0_range, Cond.code yX0_range cX0_range 2 (some .double), Cond.fieldLink RX0 40 "BottomWalks$Echoes" "metre" "D"]
def wsX0_strength : List Cond := .code yX0_strength cX0_strength 9 (some .long) :: ((wsX0_strength_r1 ++ wsX0_strength_r2) ++ wsX00)
def wsX0_sampleFor : List Cond := .code yX0_sampleFor cX0_sampleFor 4 (some .int) :: ([.fieldLink RX0 34 "BottomWalks$Echoes" "samples" "I", .methodLink RX0 72 yX0_range, .instanceMethod yX0_range, .selects RX0 yX0_range yX0_range, .initialized RX0, .code yX0_range cX0_range 2 (some .double), .fieldLink RX0 40 "BottomWalks$Echoes" "metre" "D"] ++ wsX00)
def wsX1_init : List Cond := .code yX1_init cX1_init 1 none :: ([.methodLink RX1 3 objectInit, .instanceMethod objectInit, .code objectInit ⟨#[0xb1]⟩ 1 none, .arrayClass .double, .fieldLink RX1 9 "BottomWalks$Table" "starts" "[D", .fieldLink RX1 15 "BottomWalks$Table" "numbers" "[D", .fieldLink RX1 18 "BottomWalks$Table" "rows" "I"] ++ wsX10)
def wsX1_rowsUpTo : List Cond := .code yX1_rowsUpTo cX1_rowsUpTo 4 (some .int) :: ([.fieldLink RX1 18 "BottomWalks$Table" "rows" "I", .fieldLink RX1 9 "BottomWalks$Table" "starts" "[D"] ++ wsX10)
def wsX1_put : List Cond := .code yX1_put cX1_put 7 (some .boolean) :: ([.fieldLink RX1 9 "BottomWalks$Table" "starts" "[D", .fieldLink RX1 15 "BottomWalks$Table" "numbers" "[D", .fieldLink RX1 18 "BottomWalks$Table" "rows" "I", .methodLink RX1 22 yX1_rowsUpTo, .instanceMethod yX1_rowsUpTo, .selects RX1 yX1_rowsUpTo yX1_rowsUpTo, .initialized RX1, .code yX1_rowsUpTo cX1_rowsUpTo 4 (some .int)] ++ wsX10)
def wsX1_stepAt : List Cond := .code yX1_stepAt cX1_stepAt 5 (some .double) :: ([.fieldLink RX1 18 "BottomWalks$Table" "rows" "I", .fieldLink RX1 15 "BottomWalks$Table" "numbers" "[D", .methodLink RX1 26 Lib.Math.max.name, .static Lib.Math.max.name, .initialized "java/lang/Math", .code Lib.Math.max.name Lib.Math.max.code 2 (some .int), .methodLink RX1 22 yX1_rowsUpTo, .instanceMethod yX1_rowsUpTo, .selects RX1 yX1_rowsUpTo yX1_rowsUpTo, .initialized RX1, .code yX1_rowsUpTo cX1_rowsUpTo 4 (some .int), .fieldLink RX1 9 "BottomWalks$Table" "starts" "[D"] ++ wsX10)
def wsX3_over : List Cond := .code yX3_over cX3_over 4 (some .double) :: ([])
def wsX1_slopeAt : List Cond := .code yX1_slopeAt cX1_slopeAt 14 (some .double) :: ([.fieldLink RX1 18 "BottomWalks$Table" "rows" "I", .fieldLink RX1 15 "BottomWalks$Table" "numbers" "[D", .fieldLink RX1 9 "BottomWalks$Table" "starts" "[D", .methodLink RX1 22 yX1_rowsUpTo, .instanceMethod yX1_rowsUpTo, .selects RX1 yX1_rowsUpTo yX1_rowsUpTo, .initialized RX1, .code yX1_rowsUpTo cX1_rowsUpTo 4 (some .int), .methodLink RX1 32 yX1_stepAt, .instanceMethod yX1_stepAt, .selects RX1 yX1_stepAt yX1_stepAt, .code yX1_stepAt cX1_stepAt 5 (some .double), .methodLink RX1 26 Lib.Math.max.name, .static Lib.Math.max.name, .initialized "java/lang/Math", .code Lib.Math.max.name Lib.Math.max.code 2 (some .int), .static yX3_over, .initialized RX3, .code yX3_over cX3_over 4 (some .double)] ++ wsX10)
def wsX2_init : List Cond := .code yX2_init cX2_init 2 none :: ([.methodLink RX2 3 objectInit, .instanceMethod objectInit, .code objectInit ⟨#[0xb1]⟩ 1 none, .arrayClass .double, .fieldLink RX2 9 "BottomWalks$Walk" "depthsTold" "[D", .arrayClass .boolean, .fieldLink RX2 15 "BottomWalks$Walk" "walked" "[Z", .arrayClass .int, .fieldLink RX2 19 "BottomWalks$Walk" "row" "[I", .fieldLink RX2 23 "BottomWalks$Walk" "steepness" "I", .fieldLink RX2 27 "BottomWalks$Walk" "frequencyWalked" "I", .fieldLink RX2 30 "BottomWalks$Walk" "found" "Z", .fieldLink RX2 34 "BottomWalks$Walk" "echoes" "LBottomWalks$Echoes;", .fieldLink RX2 38 "BottomWalks$Echoes" "samples" "I", .arrayClass .long, .fieldLink RX2 43 "BottomWalks$Walk" "sums" "[J", .constantDouble RX2 47 (13830554455654793216), .methodLink RX2 49 yJ7_fill_7f8df, .static yJ7_fill_7f8df, .initialized RJ7, .code yJ7_fill_7f8df cJ7_fill_7f8df 5 none] ++ wsX20 ++ wsX00)
def wsX2_tellDepth : List Cond := .code yX2_tellDepth cX2_tellDepth 4 (some .boolean) :: ([.constantDouble RX2 59 (4666723172467343360), .fieldLink RX2 9 "BottomWalks$Walk" "depthsTold" "[D", .static yX3_isPing, .initialized RX3, .code yX3_isPing cX3_isPing 1 (some .boolean), .static yX3_within, .code yX3_within cX3_within 6 (some .boolean)] ++ wsX20)
def wsX2_isEdited : List Cond := .code yX2_isEdited cX2_isEdited 2 (some .boolean) :: ([.fieldLink RX2 9 "BottomWalks$Walk" "depthsTold" "[D", .static yX3_isPing, .initialized RX3, .code yX3_isPing cX3_isPing 1 (some .boolean)] ++ wsX20)
def wsX2_isForWalk_r1 : List Cond := [Cond.fieldLink RX2 34 "BottomWalks$Walk" "echoes" "LBottomWalks$Echoes;", Cond.methodLink RX2 98 yX2_isEdited, Cond.instanceMethod yX2_isEdited, Cond.selects RX2 yX2_isEdited yX2_isEdited, Cond.initialized RX2, Cond.code yX2_isEdited cX2_isEdited 2 (some .boolean), Cond.fieldLink RX2 9 "BottomWalks$Walk" "depthsTold" "[D", Cond.static yX3_isPing, Cond.initialized RX3, Cond.code yX3_isPing cX3_isPing 1 (some .boolean), Cond.methodLink RX2 112 yX0_isLost, Cond.instanceMethod yX0_isLost, Cond.selects RX0 yX0_isLost yX0_isLost, Cond.initialized RX0, Cond.code yX0_isLost cX0_isLost 2 (some .boolean), Cond.fieldLink RX0 9 "BottomWalks$Echoes" "lostPings" "[Z", Cond.methodLink RX2 115 yX0_isSilent, Cond.instanceMethod yX0_isSilent, Cond.selects RX0 yX0_isSilent yX0_isSilent, Cond.code yX0_isSilent cX0_isSilent 5 (some .boolean), Cond.fieldLink RX0 34 "BottomWalks$Echoes" "samples" "I", Cond.fieldLink RX0 43 "BottomWalks$Echoes" "values" "[D", Cond.methodLink RX0 55 yX0_placeOf, Cond.instanceMethod yX0_placeOf]
def wsX2_isForWalk_r2 : List Cond := [Cond.selects RX0 yX0_placeOf yX0_placeOf, Cond.code yX0_placeOf cX0_placeOf 4 (some .int), Cond.static yX3_isFrequency, Cond.code yX3_isFrequency cX3_isFrequency 1 (some .boolean), Cond.methodLink RX0 84 yX0_isSample, Cond.instanceMethod yX0_isSample, Cond.selects RX0 yX0_isSample yX0_isSample, Cond.code yX0_isSample cX0_isSample 2 (some .boolean)]
def wsX2_isForWalk : List Cond := .code yX2_isForWalk cX2_isForWalk 3 (some .boolean) :: ((wsX2_isForWalk_r1 ++ wsX2_isForWalk_r2) ++ wsX20 ++ wsX00)
def wsX2_hasPing_r1 : List Cond := [Cond.methodLink RX2 69 yX2_isForWalk, Cond.instanceMethod yX2_isForWalk, Cond.selects RX2 yX2_isForWalk yX2_isForWalk, Cond.initialized RX2, Cond.code yX2_isForWalk cX2_isForWalk 3 (some .boolean), Cond.fieldLink RX2 34 "BottomWalks$Walk" "echoes" "LBottomWalks$Echoes;", Cond.methodLink RX2 98 yX2_isEdited, Cond.instanceMethod yX2_isEdited, Cond.selects RX2 yX2_isEdited yX2_isEdited, Cond.code yX2_isEdited cX2_isEdited 2 (some .boolean), Cond.fieldLink RX2 9 "BottomWalks$Walk" "depthsTold" "[D", Cond.static yX3_isPing, Cond.initialized RX3, Cond.code yX3_isPing cX3_isPing 1 (some .boolean), Cond.methodLink RX2 112 yX0_isLost, Cond.instanceMethod yX0_isLost, Cond.selects RX0 yX0_isLost yX0_isLost, Cond.initialized RX0, Cond.code yX0_isLost cX0_isLost 2 (some .boolean), Cond.fieldLink RX0 9 "BottomWalks$Echoes" "lostPings" "[Z", Cond.methodLink RX2 115 yX0_isSilent, Cond.instanceMethod yX0_isSilent, Cond.selects RX0 yX0_isSilent yX0_isSilent, Cond.code yX0_isSilent cX0_isSilent 5 (some .boolean)]
def wsX2_hasPing_r2 : List Cond := [Cond.fieldLink RX0 34 "BottomWalks$Echoes" "samples" "I", Cond.fieldLink RX0 43 "BottomWalks$Echoes" "values" "[D", Cond.methodLink RX0 55 yX0_placeOf, Cond.instanceMethod yX0_placeOf, Cond.selects RX0 yX0_placeOf yX0_placeOf, Cond.code yX0_placeOf cX0_placeOf 4 (some .int), Cond.static yX3_isFrequency, Cond.code yX3_isFrequency cX3_isFrequency 1 (some .boolean), Cond.methodLink RX0 84 yX0_isSample, Cond.instanceMethod yX0_isSample, Cond.selects RX0 yX0_isSample yX0_isSample, Cond.code yX0_isSample cX0_isSample 2 (some .boolean)]
def wsX2_hasPing : List Cond := .code yX2_hasPing cX2_hasPing 4 (some .boolean) :: ((wsX2_hasPing_r1 ++ wsX2_hasPing_r2) ++ wsX20 ++ wsX00)
def wsX2_isWalked : List Cond := .code yX2_isWalked cX2_isWalked 2 (some .boolean) :: ([.fieldLink RX2 15 "BottomWalks$Walk" "walked" "[Z", .static yX3_isPing, .initialized RX3, .code yX3_isPing cX3_isPing 1 (some .boolean)] ++ wsX20)
def wsX2_neighbour : List Cond := .code yX2_neighbour cX2_neighbour 4 (some .int) :: ([.methodLink RX2 84 yX2_isWalked, .instanceMethod yX2_isWalked, .selects RX2 yX2_isWalked yX2_isWalked, .initialized RX2, .code yX2_isWalked cX2_isWalked 2 (some .boolean), .fieldLink RX2 15 "BottomWalks$Walk" "walked" "[Z", .static yX3_isPing, .initialized RX3, .code yX3_isPing cX3_isPing 1 (some .boolean)] ++ wsX20)
def wsX2_highest : List Cond := .code yX2_highest cX2_highest 2 (some .int) :: ([.fieldLink RX2 34 "BottomWalks$Walk" "echoes" "LBottomWalks$Echoes;", .fieldLink RX2 9 "BottomWalks$Walk" "depthsTold" "[D", .fieldLink RX2 38 "BottomWalks$Echoes" "samples" "I", .methodLink RX2 98 yX2_isEdited, .instanceMethod yX2_isEdited, .selects RX2 yX2_isEdited yX2_isEdited, .initialized RX2, .code yX2_isEdited cX2_isEdited 2 (some .boolean), .static yX3_isPing, .initialized RX3, .code yX3_isPing cX3_isPing 1 (some .boolean), .methodLink RX2 121 yX0_sampleFor, .instanceMethod yX0_sampleFor, .selects RX0 yX0_sampleFor yX0_sampleFor, .initialized RX0, .code yX0_sampleFor cX0_sampleFor 4 (some .int), .fieldLink RX0 34 "BottomWalks$Echoes" "samples" "I", .methodLink RX0 72 yX0_range, .instanceMethod yX0_range, .selects RX0 yX0_range yX0_range, .code yX0_range cX0_range 2 (some .double), .fieldLink RX0 40 "BottomWalks$Echoes" "metre" "D"] ++ wsX20 ++ wsX00)
def wsX2_lowest : List Cond := .code yX2_lowest cX2_lowest 2 (some .int) :: ([.fieldLink RX2 34 "BottomWalks$Walk" "echoes" "LBottomWalks$Echoes;", .fieldLink RX2 9 "BottomWalks$Walk" "depthsTold" "[D", .methodLink RX2 98 yX2_isEdited, .instanceMethod yX2_isEdited, .selects RX2 yX2_isEdited yX2_isEdited, .initialized RX2, .code yX2_isEdited cX2_isEdited 2 (some .boolean), .static yX3_isPing, .initialized RX3, .code yX3_isPing cX3_isPing 1 (some .boolean), .methodLink RX2 121 yX0_sampleFor, .instanceMethod yX0_sampleFor, .selects RX0 yX0_sampleFor yX0_sampleFor, .initialized RX0, .code yX0_sampleFor cX0_sampleFor 4 (some .int), .fieldLink RX0 34 "BottomWalks$Echoes" "samples" "I", .methodLink RX0 72 yX0_range, .instanceMethod yX0_range, .selects RX0 yX0_range yX0_range, .code yX0_range cX0_range 2 (some .double), .fieldLink RX0 40 "BottomWalks$Echoes" "metre" "D"] ++ wsX20 ++ wsX00)
def wsX2_sumAt : List Cond := .code yX2_sumAt cX2_sumAt 3 (some .long) :: ([.fieldLink RX2 34 "BottomWalks$Walk" "echoes" "LBottomWalks$Echoes;", .fieldLink RX2 43 "BottomWalks$Walk" "sums" "[J", .fieldLink RX2 38 "BottomWalks$Echoes" "samples" "I", .static yX3_isPing, .initialized RX3, .code yX3_isPing cX3_isPing 1 (some .boolean), .methodLink RX2 128 yX0_isSample, .instanceMethod yX0_isSample, .selects RX0 yX0_isSample yX0_isSample, .initialized RX0, .code yX0_isSample cX0_isSample 2 (some .boolean), .fieldLink RX0 34 "BottomWalks$Echoes" "samples" "I"] ++ wsX20 ++ wsX00)
def wsX2_bestBefore_r1 : List Cond := [Cond.fieldLink RX2 23 "BottomWalks$Walk" "steepness" "I", Cond.methodLink RX2 139 Lib.Math.max.name, Cond.static Lib.Math.max.name, Cond.initialized "java/lang/Math", Cond.code Lib.Math.max.name Lib.Math.max.code 2 (some .int), Cond.methodLink RX2 144 Lib.Math.min.name, Cond.static Lib.Math.min.name, Cond.code Lib.Math.min.name Lib.Math.min.code 2 (some .int), Cond.methodLink RX2 101 yX2_lowest, Cond.instanceMethod yX2_lowest, Cond.selects RX2 yX2_lowest yX2_lowest, Cond.initialized RX2, Cond.code yX2_lowest cX2_lowest 2 (some .int), Cond.fieldLink RX2 34 "BottomWalks$Walk" "echoes" "LBottomWalks$Echoes;", Cond.fieldLink RX2 9 "BottomWalks$Walk" "depthsTold" "[D", Cond.methodLink RX2 98 yX2_isEdited, Cond.instanceMethod yX2_isEdited, Cond.selects RX2 yX2_isEdited yX2_isEdited, Cond.code yX2_isEdited cX2_isEdited 2 (some .boolean), Cond.static yX3_isPing, Cond.initialized RX3, Cond.code yX3_isPing cX3_isPing 1 (some .boolean), Cond.methodLink RX2 121 yX0_sampleFor, Cond.instanceMethod yX0_sampleFor]
def wsX2_bestBefore_r2 : List Cond := [Cond.selects RX0 yX0_sampleFor yX0_sampleFor, Cond.initialized RX0, Cond.code yX0_sampleFor cX0_sampleFor 4 (some .int), Cond.fieldLink RX0 34 "BottomWalks$Echoes" "samples" "I", Cond.methodLink RX0 72 yX0_range, Cond.instanceMethod yX0_range, Cond.selects RX0 yX0_range yX0_range, Cond.code yX0_range cX0_range 2 (some .double), Cond.fieldLink RX0 40 "BottomWalks$Echoes" "metre" "D", Cond.methodLink RX2 125 yX2_highest, Cond.instanceMethod yX2_highest, Cond.selects RX2 yX2_highest yX2_highest, Cond.code yX2_highest cX2_highest 2 (some .int), Cond.fieldLink RX2 38 "BottomWalks$Echoes" "samples" "I", Cond.methodLink RX2 135 yX2_sumAt, Cond.instanceMethod yX2_sumAt, Cond.selects RX2 yX2_sumAt yX2_sumAt, Cond.code yX2_sumAt cX2_sumAt 3 (some .long), Cond.fieldLink RX2 43 "BottomWalks$Walk" "sums" "[J", Cond.methodLink RX2 128 yX0_isSample, Cond.instanceMethod yX0_isSample, Cond.selects RX0 yX0_isSample yX0_isSample, Cond.code yX0_isSample cX0_isSample 2 (some .boolean)]
def wsX2_bestBefore : List Cond := .code yX2_bestBefore cX2_bestBefore 12 (some .int) :: ((wsX2_bestBefore_r1 ++ wsX2_bestBefore_r2) ++ wsX20 ++ wsX00)
def wsX2_sumUp_r1 : List Cond := [Cond.fieldLink RX2 34 "BottomWalks$Walk" "echoes" "LBottomWalks$Echoes;", Cond.fieldLink RX2 27 "BottomWalks$Walk" "frequencyWalked" "I", Cond.fieldLink RX2 43 "BottomWalks$Walk" "sums" "[J", Cond.fieldLink RX2 38 "BottomWalks$Echoes" "samples" "I", Cond.methodLink RX2 125 yX2_highest, Cond.instanceMethod yX2_highest, Cond.selects RX2 yX2_highest yX2_highest, Cond.initialized RX2, Cond.code yX2_highest cX2_highest 2 (some .int), Cond.fieldLink RX2 9 "BottomWalks$Walk" "depthsTold" "[D", Cond.methodLink RX2 98 yX2_isEdited, Cond.instanceMethod yX2_isEdited, Cond.selects RX2 yX2_isEdited yX2_isEdited, Cond.code yX2_isEdited cX2_isEdited 2 (some .boolean), Cond.static yX3_isPing, Cond.initialized RX3, Cond.code yX3_isPing cX3_isPing 1 (some .boolean), Cond.methodLink RX2 121 yX0_sampleFor, Cond.instanceMethod yX0_sampleFor, Cond.selects RX0 yX0_sampleFor yX0_sampleFor, Cond.initialized RX0, Cond.code yX0_sampleFor cX0_sampleFor 4 (some .int), Cond.fieldLink RX0 34 "BottomWalks$Echoes" "samples" "I", Cond.methodLink RX0 72 yX0_range]
def wsX2_sumUp_r2 : List Cond := [Cond.instanceMethod yX0_range, Cond.selects RX0 yX0_range yX0_range, Cond.code yX0_range cX0_range 2 (some .double), Cond.fieldLink RX0 40 "BottomWalks$Echoes" "metre" "D", Cond.methodLink RX2 101 yX2_lowest, Cond.instanceMethod yX2_lowest, Cond.selects RX2 yX2_lowest yX2_lowest, Cond.code yX2_lowest cX2_lowest 2 (some .int), Cond.methodLink RX2 128 yX0_isSample, Cond.instanceMethod yX0_isSample, Cond.selects RX0 yX0_isSample yX0_isSample, Cond.code yX0_isSample cX0_isSample 2 (some .boolean), Cond.methodLink RX2 108 yX0_strength, Cond.instanceMethod yX0_strength, Cond.selects RX0 yX0_strength yX0_strength, Cond.code yX0_strength cX0_strength 9 (some .long), Cond.fieldLink RX0 43 "BottomWalks$Echoes" "values" "[D", Cond.fieldLink RX0 15 "BottomWalks$Echoes" "spread" "D", Cond.fieldLink RX0 19 "BottomWalks$Echoes" "absorb" "D", Cond.constantDouble RX0 76 (4562254508917369340), Cond.fieldLink RX0 22 "BottomWalks$Echoes" "noiseLevel" "D", Cond.methodLink RX0 78 Lib.MathLoose.max_long.x, Cond.static Lib.MathLoose.max_long.x, Cond.initialized "java/lang/Math"]
def wsX2_sumUp_r3 : List Cond := [Cond.code Lib.MathLoose.max_long.x Lib.MathLoose.max_long.code 4 (some .long), Cond.methodLink RX0 55 yX0_placeOf, Cond.instanceMethod yX0_placeOf, Cond.selects RX0 yX0_placeOf yX0_placeOf, Cond.code yX0_placeOf cX0_placeOf 4 (some .int), Cond.static yX3_isFrequency, Cond.code yX3_isFrequency cX3_isFrequency 1 (some .boolean), Cond.methodLink RX0 84 yX0_isSample, Cond.methodLink RX0 69 yX0_isLost, Cond.instanceMethod yX0_isLost, Cond.selects RX0 yX0_isLost yX0_isLost, Cond.code yX0_isLost cX0_isLost 2 (some .boolean), Cond.fieldLink RX0 9 "BottomWalks$Echoes" "lostPings" "[Z", Cond.methodLink RX2 131 yX2_bestBefore, Cond.instanceMethod yX2_bestBefore, Cond.selects RX2 yX2_bestBefore yX2_bestBefore, Cond.code yX2_bestBefore cX2_bestBefore 12 (some .int), Cond.fieldLink RX2 23 "BottomWalks$Walk" "steepness" "I", Cond.methodLink RX2 139 Lib.Math.max.name, Cond.static Lib.Math.max.name, Cond.code Lib.Math.max.name Lib.Math.max.code 2 (some .int), Cond.methodLink RX2 144 Lib.Math.min.name, Cond.static Lib.Math.min.name, Cond.code Lib.Math.min.name Lib.Math.min.code 2 (some .int)]
def wsX2_sumUp_r4 : List Cond := [Cond.methodLink RX2 135 yX2_sumAt, Cond.instanceMethod yX2_sumAt, Cond.selects RX2 yX2_sumAt yX2_sumAt, Cond.code yX2_sumAt cX2_sumAt 3 (some .long)]
def wsX2_sumUp : List Cond := .code yX2_sumUp cX2_sumUp 7 none :: ((wsX2_sumUp_r1 ++ (wsX2_sumUp_r2 ++ (wsX2_sumUp_r3 ++ wsX2_sumUp_r4))) ++ wsX20 ++ wsX00)
def wsX2_sampleOfRow : List Cond := .code yX2_sampleOfRow cX2_sampleOfRow 2 (some .int) :: ([.fieldLink RX2 19 "BottomWalks$Walk" "row" "[I", .static yX3_isPing, .initialized RX3, .code yX3_isPing cX3_isPing 1 (some .boolean)] ++ wsX20)
def wsX2_traceBack_r1 : List Cond := [Cond.fieldLink RX2 15 "BottomWalks$Walk" "walked" "[Z", Cond.fieldLink RX2 19 "BottomWalks$Walk" "row" "[I", Cond.methodLink RX2 105 yX2_sampleOfRow, Cond.instanceMethod yX2_sampleOfRow, Cond.selects RX2 yX2_sampleOfRow yX2_sampleOfRow, Cond.initialized RX2, Cond.code yX2_sampleOfRow cX2_sampleOfRow 2 (some .int), Cond.static yX3_isPing, Cond.initialized RX3, Cond.code yX3_isPing cX3_isPing 1 (some .boolean), Cond.methodLink RX2 131 yX2_bestBefore, Cond.instanceMethod yX2_bestBefore, Cond.selects RX2 yX2_bestBefore yX2_bestBefore, Cond.code yX2_bestBefore cX2_bestBefore 12 (some .int), Cond.fieldLink RX2 23 "BottomWalks$Walk" "steepness" "I", Cond.methodLink RX2 139 Lib.Math.max.name, Cond.static Lib.Math.max.name, Cond.initialized "java/lang/Math", Cond.code Lib.Math.max.name Lib.Math.max.code 2 (some .int), Cond.methodLink RX2 144 Lib.Math.min.name, Cond.static Lib.Math.min.name, Cond.code Lib.Math.min.name Lib.Math.min.code 2 (some .int), Cond.methodLink RX2 101 yX2_lowest, Cond.instanceMethod yX2_lowest]
def wsX2_traceBack_r2 : List Cond := [Cond.selects RX2 yX2_lowest yX2_lowest, Cond.code yX2_lowest cX2_lowest 2 (some .int), Cond.fieldLink RX2 34 "BottomWalks$Walk" "echoes" "LBottomWalks$Echoes;", Cond.fieldLink RX2 9 "BottomWalks$Walk" "depthsTold" "[D", Cond.methodLink RX2 98 yX2_isEdited, Cond.instanceMethod yX2_isEdited, Cond.selects RX2 yX2_isEdited yX2_isEdited, Cond.code yX2_isEdited cX2_isEdited 2 (some .boolean), Cond.methodLink RX2 121 yX0_sampleFor, Cond.instanceMethod yX0_sampleFor, Cond.selects RX0 yX0_sampleFor yX0_sampleFor, Cond.initialized RX0, Cond.code yX0_sampleFor cX0_sampleFor 4 (some .int), Cond.fieldLink RX0 34 "BottomWalks$Echoes" "samples" "I", Cond.methodLink RX0 72 yX0_range, Cond.instanceMethod yX0_range, Cond.selects RX0 yX0_range yX0_range, Cond.code yX0_range cX0_range 2 (some .double), Cond.fieldLink RX0 40 "BottomWalks$Echoes" "metre" "D", Cond.methodLink RX2 125 yX2_highest, Cond.instanceMethod yX2_highest, Cond.selects RX2 yX2_highest yX2_highest, Cond.code yX2_highest cX2_highest 2 (some .int), Cond.fieldLink RX2 38 "BottomWalks$Echoes" "samples" "I"]
def wsX2_traceBack_r3 : List Cond := [Cond.methodLink RX2 135 yX2_sumAt, Cond.instanceMethod yX2_sumAt, Cond.selects RX2 yX2_sumAt yX2_sumAt, Cond.code yX2_sumAt cX2_sumAt 3 (some .long), Cond.fieldLink RX2 43 "BottomWalks$Walk" "sums" "[J", Cond.methodLink RX2 128 yX0_isSample, Cond.instanceMethod yX0_isSample, Cond.selects RX0 yX0_isSample yX0_isSample, Cond.code yX0_isSample cX0_isSample 2 (some .boolean)]
def wsX2_traceBack : List Cond := .code yX2_traceBack cX2_traceBack 5 (some .long) :: ((wsX2_traceBack_r1 ++ (wsX2_traceBack_r2 ++ wsX2_traceBack_r3)) ++ wsX20 ++ wsX00)
def wsX2_go_r1 : List Cond := [Cond.fieldLink RX2 27 "BottomWalks$Walk" "frequencyWalked" "I", Cond.fieldLink RX2 23 "BottomWalks$Walk" "steepness" "I", Cond.fieldLink RX2 30 "BottomWalks$Walk" "found" "Z", Cond.fieldLink RX2 15 "BottomWalks$Walk" "walked" "[Z", Cond.methodLink RX2 65 yX2_hasPing, Cond.instanceMethod yX2_hasPing, Cond.selects RX2 yX2_hasPing yX2_hasPing, Cond.initialized RX2, Cond.code yX2_hasPing cX2_hasPing 4 (some .boolean), Cond.methodLink RX2 69 yX2_isForWalk, Cond.instanceMethod yX2_isForWalk, Cond.selects RX2 yX2_isForWalk yX2_isForWalk, Cond.code yX2_isForWalk cX2_isForWalk 3 (some .boolean), Cond.fieldLink RX2 34 "BottomWalks$Walk" "echoes" "LBottomWalks$Echoes;", Cond.methodLink RX2 98 yX2_isEdited, Cond.instanceMethod yX2_isEdited, Cond.selects RX2 yX2_isEdited yX2_isEdited, Cond.code yX2_isEdited cX2_isEdited 2 (some .boolean), Cond.fieldLink RX2 9 "BottomWalks$Walk" "depthsTold" "[D", Cond.static yX3_isPing, Cond.initialized RX3, Cond.code yX3_isPing cX3_isPing 1 (some .boolean), Cond.methodLink RX2 112 yX0_isLost, Cond.instanceMethod yX0_isLost]
def wsX2_go_r2 : List Cond := [Cond.selects RX0 yX0_isLost yX0_isLost, Cond.initialized RX0, Cond.code yX0_isLost cX0_isLost 2 (some .boolean), Cond.fieldLink RX0 9 "BottomWalks$Echoes" "lostPings" "[Z", Cond.methodLink RX2 115 yX0_isSilent, Cond.instanceMethod yX0_isSilent, Cond.selects RX0 yX0_isSilent yX0_isSilent, Cond.code yX0_isSilent cX0_isSilent 5 (some .boolean), Cond.fieldLink RX0 34 "BottomWalks$Echoes" "samples" "I", Cond.fieldLink RX0 43 "BottomWalks$Echoes" "values" "[D", Cond.methodLink RX0 55 yX0_placeOf, Cond.instanceMethod yX0_placeOf, Cond.selects RX0 yX0_placeOf yX0_placeOf, Cond.code yX0_placeOf cX0_placeOf 4 (some .int), Cond.static yX3_isFrequency, Cond.code yX3_isFrequency cX3_isFrequency 1 (some .boolean), Cond.methodLink RX0 84 yX0_isSample, Cond.instanceMethod yX0_isSample, Cond.selects RX0 yX0_isSample yX0_isSample, Cond.code yX0_isSample cX0_isSample 2 (some .boolean), Cond.methodLink RX2 72 yX2_neighbour, Cond.instanceMethod yX2_neighbour, Cond.selects RX2 yX2_neighbour yX2_neighbour, Cond.code yX2_neighbour cX2_neighbour 4 (some .int)]
def wsX2_go_r3 : List Cond := [Cond.methodLink RX2 84 yX2_isWalked, Cond.instanceMethod yX2_isWalked, Cond.selects RX2 yX2_isWalked yX2_isWalked, Cond.code yX2_isWalked cX2_isWalked 2 (some .boolean), Cond.methodLink RX2 76 yX2_sumUp, Cond.instanceMethod yX2_sumUp, Cond.selects RX2 yX2_sumUp yX2_sumUp, Cond.code yX2_sumUp cX2_sumUp 7 none, Cond.fieldLink RX2 43 "BottomWalks$Walk" "sums" "[J", Cond.fieldLink RX2 38 "BottomWalks$Echoes" "samples" "I", Cond.methodLink RX2 125 yX2_highest, Cond.instanceMethod yX2_highest, Cond.selects RX2 yX2_highest yX2_highest, Cond.code yX2_highest cX2_highest 2 (some .int), Cond.methodLink RX2 121 yX0_sampleFor, Cond.instanceMethod yX0_sampleFor, Cond.selects RX0 yX0_sampleFor yX0_sampleFor, Cond.code yX0_sampleFor cX0_sampleFor 4 (some .int), Cond.methodLink RX0 72 yX0_range, Cond.instanceMethod yX0_range, Cond.selects RX0 yX0_range yX0_range, Cond.code yX0_range cX0_range 2 (some .double), Cond.fieldLink RX0 40 "BottomWalks$Echoes" "metre" "D", Cond.methodLink RX2 101 yX2_lowest]
def wsX2_go_r4 : List Cond := [Cond.instanceMethod yX2_lowest, Cond.selects RX2 yX2_lowest yX2_lowest, Cond.code yX2_lowest cX2_lowest 2 (some .int), Cond.methodLink RX2 128 yX0_isSample, Cond.methodLink RX2 108 yX0_strength, Cond.instanceMethod yX0_strength, Cond.selects RX0 yX0_strength yX0_strength, Cond.code yX0_strength cX0_strength 9 (some .long), Cond.fieldLink RX0 15 "BottomWalks$Echoes" "spread" "D", Cond.fieldLink RX0 19 "BottomWalks$Echoes" "absorb" "D", Cond.constantDouble RX0 76 (4562254508917369340), Cond.fieldLink RX0 22 "BottomWalks$Echoes" "noiseLevel" "D", Cond.methodLink RX0 78 Lib.MathLoose.max_long.x, Cond.static Lib.MathLoose.max_long.x, Cond.initialized "java/lang/Math", Cond.code Lib.MathLoose.max_long.x Lib.MathLoose.max_long.code 4 (some .long), Cond.methodLink RX0 69 yX0_isLost, Cond.methodLink RX2 131 yX2_bestBefore, Cond.instanceMethod yX2_bestBefore, Cond.selects RX2 yX2_bestBefore yX2_bestBefore, Cond.code yX2_bestBefore cX2_bestBefore 12 (some .int), Cond.methodLink RX2 139 Lib.Math.max.name, Cond.static Lib.Math.max.name, Cond.code Lib.Math.max.name Lib.Math.max.code 2 (some .int)]
def wsX2_go_r5 : List Cond := [Cond.methodLink RX2 144 Lib.Math.min.name, Cond.static Lib.Math.min.name, Cond.code Lib.Math.min.name Lib.Math.min.code 2 (some .int), Cond.methodLink RX2 135 yX2_sumAt, Cond.instanceMethod yX2_sumAt, Cond.selects RX2 yX2_sumAt yX2_sumAt, Cond.code yX2_sumAt cX2_sumAt 3 (some .long), Cond.methodLink RX2 80 yX2_traceBack, Cond.instanceMethod yX2_traceBack, Cond.selects RX2 yX2_traceBack yX2_traceBack, Cond.code yX2_traceBack cX2_traceBack 5 (some .long), Cond.fieldLink RX2 19 "BottomWalks$Walk" "row" "[I", Cond.methodLink RX2 105 yX2_sampleOfRow, Cond.instanceMethod yX2_sampleOfRow, Cond.selects RX2 yX2_sampleOfRow yX2_sampleOfRow, Cond.code yX2_sampleOfRow cX2_sampleOfRow 2 (some .int)]
def wsX2_go : List Cond := .code yX2_go cX2_go 5 (some .int) :: ((wsX2_go_r1 ++ (wsX2_go_r2 ++ (wsX2_go_r3 ++ (wsX2_go_r4 ++ wsX2_go_r5)))) ++ wsX20 ++ wsX00)
def wsX2_wasFound : List Cond := .code yX2_wasFound cX2_wasFound 1 (some .boolean) :: ([.fieldLink RX2 30 "BottomWalks$Walk" "found" "Z"] ++ wsX20)
def wsX2_isBridge : List Cond := .code yX2_isBridge cX2_isBridge 4 (some .boolean) :: ([.static yX3_isPing, .initialized RX3, .code yX3_isPing cX3_isPing 1 (some .boolean), .methodLink RX2 84 yX2_isWalked, .instanceMethod yX2_isWalked, .selects RX2 yX2_isWalked yX2_isWalked, .initialized RX2, .code yX2_isWalked cX2_isWalked 2 (some .boolean), .fieldLink RX2 15 "BottomWalks$Walk" "walked" "[Z", .methodLink RX2 72 yX2_neighbour, .instanceMethod yX2_neighbour, .selects RX2 yX2_neighbour yX2_neighbour, .code yX2_neighbour cX2_neighbour 4 (some .int)] ++ wsX20)
def wsX2_hasBottom : List Cond := .code yX2_hasBottom cX2_hasBottom 2 (some .boolean) :: ([.methodLink RX2 84 yX2_isWalked, .instanceMethod yX2_isWalked, .selects RX2 yX2_isWalked yX2_isWalked, .initialized RX2, .code yX2_isWalked cX2_isWalked 2 (some .boolean), .fieldLink RX2 15 "BottomWalks$Walk" "walked" "[Z", .static yX3_isPing, .initialized RX3, .code yX3_isPing cX3_isPing 1 (some .boolean), .methodLink RX2 87 yX2_isBridge, .instanceMethod yX2_isBridge, .selects RX2 yX2_isBridge yX2_isBridge, .code yX2_isBridge cX2_isBridge 4 (some .boolean), .methodLink RX2 72 yX2_neighbour, .instanceMethod yX2_neighbour, .selects RX2 yX2_neighbour yX2_neighbour, .code yX2_neighbour cX2_neighbour 4 (some .int)] ++ wsX20)
def wsX2_depthWalked : List Cond := .code yX2_depthWalked cX2_depthWalked 2 (some .double) :: ([.fieldLink RX2 9 "BottomWalks$Walk" "depthsTold" "[D", .fieldLink RX2 34 "BottomWalks$Walk" "echoes" "LBottomWalks$Echoes;", .methodLink RX2 98 yX2_isEdited, .instanceMethod yX2_isEdited, .selects RX2 yX2_isEdited yX2_isEdited, .initialized RX2, .code yX2_isEdited cX2_isEdited 2 (some .boolean), .static yX3_isPing, .initialized RX3, .code yX3_isPing cX3_isPing 1 (some .boolean), .methodLink RX2 105 yX2_sampleOfRow, .instanceMethod yX2_sampleOfRow, .selects RX2 yX2_sampleOfRow yX2_sampleOfRow, .code yX2_sampleOfRow cX2_sampleOfRow 2 (some .int), .fieldLink RX2 19 "BottomWalks$Walk" "row" "[I", .methodLink RX2 118 yX0_range, .instanceMethod yX0_range, .selects RX0 yX0_range yX0_range, .initialized RX0, .code yX0_range cX0_range 2 (some .double), .fieldLink RX0 40 "BottomWalks$Echoes" "metre" "D"] ++ wsX20 ++ wsX00)
def wsX2_depthAt_r1 : List Cond := [Cond.methodLink RX2 87 yX2_isBridge, Cond.instanceMethod yX2_isBridge, Cond.selects RX2 yX2_isBridge yX2_isBridge, Cond.initialized RX2, Cond.code yX2_isBridge cX2_isBridge 4 (some .boolean), Cond.static yX3_isPing, Cond.initialized RX3, Cond.code yX3_isPing cX3_isPing 1 (some .boolean), Cond.methodLink RX2 84 yX2_isWalked, Cond.instanceMethod yX2_isWalked, Cond.selects RX2 yX2_isWalked yX2_isWalked, Cond.code yX2_isWalked cX2_isWalked 2 (some .boolean), Cond.fieldLink RX2 15 "BottomWalks$Walk" "walked" "[Z", Cond.methodLink RX2 72 yX2_neighbour, Cond.instanceMethod yX2_neighbour, Cond.selects RX2 yX2_neighbour yX2_neighbour, Cond.code yX2_neighbour cX2_neighbour 4 (some .int), Cond.methodLink RX2 90 yX2_depthWalked, Cond.instanceMethod yX2_depthWalked, Cond.selects RX2 yX2_depthWalked yX2_depthWalked, Cond.code yX2_depthWalked cX2_depthWalked 2 (some .double), Cond.fieldLink RX2 9 "BottomWalks$Walk" "depthsTold" "[D", Cond.fieldLink RX2 34 "BottomWalks$Walk" "echoes" "LBottomWalks$Echoes;", Cond.methodLink RX2 98 yX2_isEdited]
def wsX2_depthAt_r2 : List Cond := [Cond.instanceMethod yX2_isEdited, Cond.selects RX2 yX2_isEdited yX2_isEdited, Cond.code yX2_isEdited cX2_isEdited 2 (some .boolean), Cond.methodLink RX2 105 yX2_sampleOfRow, Cond.instanceMethod yX2_sampleOfRow, Cond.selects RX2 yX2_sampleOfRow yX2_sampleOfRow, Cond.code yX2_sampleOfRow cX2_sampleOfRow 2 (some .int), Cond.fieldLink RX2 19 "BottomWalks$Walk" "row" "[I", Cond.methodLink RX2 118 yX0_range, Cond.instanceMethod yX0_range, Cond.selects RX0 yX0_range yX0_range, Cond.initialized RX0, Cond.code yX0_range cX0_range 2 (some .double), Cond.fieldLink RX0 40 "BottomWalks$Echoes" "metre" "D", Cond.static yX3_over, Cond.code yX3_over cX3_over 4 (some .double)]
def wsX2_depthAt : List Cond := .code yX2_depthAt cX2_depthAt 8 (some .double) :: ((wsX2_depthAt_r1 ++ wsX2_depthAt_r2) ++ wsX20 ++ wsX00)
def wsX2_strengthsBehind_r1 : List Cond := [Cond.fieldLink RX2 34 "BottomWalks$Walk" "echoes" "LBottomWalks$Echoes;", Cond.fieldLink RX2 27 "BottomWalks$Walk" "frequencyWalked" "I", Cond.methodLink RX2 98 yX2_isEdited, Cond.instanceMethod yX2_isEdited, Cond.selects RX2 yX2_isEdited yX2_isEdited, Cond.initialized RX2, Cond.code yX2_isEdited cX2_isEdited 2 (some .boolean), Cond.fieldLink RX2 9 "BottomWalks$Walk" "depthsTold" "[D", Cond.static yX3_isPing, Cond.initialized RX3, Cond.code yX3_isPing cX3_isPing 1 (some .boolean), Cond.methodLink RX2 101 yX2_lowest, Cond.instanceMethod yX2_lowest, Cond.selects RX2 yX2_lowest yX2_lowest, Cond.code yX2_lowest cX2_lowest 2 (some .int), Cond.methodLink RX2 121 yX0_sampleFor, Cond.instanceMethod yX0_sampleFor, Cond.selects RX0 yX0_sampleFor yX0_sampleFor, Cond.initialized RX0, Cond.code yX0_sampleFor cX0_sampleFor 4 (some .int), Cond.fieldLink RX0 34 "BottomWalks$Echoes" "samples" "I", Cond.methodLink RX0 72 yX0_range, Cond.instanceMethod yX0_range, Cond.selects RX0 yX0_range yX0_range]
def wsX2_strengthsBehind_r2 : List Cond := [Cond.code yX0_range cX0_range 2 (some .double), Cond.fieldLink RX0 40 "BottomWalks$Echoes" "metre" "D", Cond.methodLink RX2 105 yX2_sampleOfRow, Cond.instanceMethod yX2_sampleOfRow, Cond.selects RX2 yX2_sampleOfRow yX2_sampleOfRow, Cond.code yX2_sampleOfRow cX2_sampleOfRow 2 (some .int), Cond.fieldLink RX2 19 "BottomWalks$Walk" "row" "[I", Cond.methodLink RX2 108 yX0_strength, Cond.instanceMethod yX0_strength, Cond.selects RX0 yX0_strength yX0_strength, Cond.code yX0_strength cX0_strength 9 (some .long), Cond.fieldLink RX0 43 "BottomWalks$Echoes" "values" "[D", Cond.fieldLink RX0 15 "BottomWalks$Echoes" "spread" "D", Cond.fieldLink RX0 19 "BottomWalks$Echoes" "absorb" "D", Cond.constantDouble RX0 76 (4562254508917369340), Cond.fieldLink RX0 22 "BottomWalks$Echoes" "noiseLevel" "D", Cond.methodLink RX0 78 Lib.MathLoose.max_long.x, Cond.static Lib.MathLoose.max_long.x, Cond.initialized "java/lang/Math", Cond.code Lib.MathLoose.max_long.x Lib.MathLoose.max_long.code 4 (some .long), Cond.methodLink RX0 55 yX0_placeOf, Cond.instanceMethod yX0_placeOf, Cond.selects RX0 yX0_placeOf yX0_placeOf, Cond.code yX0_placeOf cX0_placeOf 4 (some .int)]
def wsX2_strengthsBehind_r3 : List Cond := [Cond.static yX3_isFrequency, Cond.code yX3_isFrequency cX3_isFrequency 1 (some .boolean), Cond.methodLink RX0 84 yX0_isSample, Cond.instanceMethod yX0_isSample, Cond.selects RX0 yX0_isSample yX0_isSample, Cond.code yX0_isSample cX0_isSample 2 (some .boolean), Cond.methodLink RX0 69 yX0_isLost, Cond.instanceMethod yX0_isLost, Cond.selects RX0 yX0_isLost yX0_isLost, Cond.code yX0_isLost cX0_isLost 2 (some .boolean), Cond.fieldLink RX0 9 "BottomWalks$Echoes" "lostPings" "[Z"]
def wsX2_strengthsBehind : List Cond := .code yX2_strengthsBehind cX2_strengthsBehind 6 (some .double) :: ((wsX2_strengthsBehind_r1 ++ (wsX2_strengthsBehind_r2 ++ wsX2_strengthsBehind_r3)) ++ wsX20 ++ wsX00)
def wsX3_init_r1 : List Cond := [Cond.methodLink RX3 1 objectInit, Cond.instanceMethod objectInit, Cond.code objectInit ⟨#[0xb1]⟩ 1 none, Cond.classLink RX3 7 RX1, Cond.instantiable RX1 3, Cond.initialized RX1, Cond.fieldLink RX3 10 "BottomWalks" "speeds" "LBottomWalks$Table;", Cond.fieldLink RX3 16 "BottomWalks" "balls" "LBottomWalks$Table;", Cond.arrayClass .double, Cond.fieldLink RX3 19 "BottomWalks" "tides" "[D", Cond.fieldLink RX3 23 "BottomWalks" "degreesTurned" "[D", Cond.fieldLink RX3 26 "BottomWalks" "chosen" "I", Cond.classLink RX3 30 RX0, Cond.instantiable RX0 7, Cond.initialized RX0, Cond.fieldLink RX3 35 "BottomWalks" "echoes" "LBottomWalks$Echoes;", Cond.classLink RX3 39 RX2, Cond.instantiable RX2 8, Cond.initialized RX2, Cond.fieldLink RX3 44 "BottomWalks" "walk" "LBottomWalks$Walk;", Cond.instanceMethod yX1_init, Cond.code yX1_init cX1_init 1 none, Cond.methodLink RX1 3 objectInit, Cond.fieldLink RX1 9 "BottomWalks$Table" "starts" "[D"]
def wsX3_init_r2 : List Cond := [Cond.fieldLink RX1 15 "BottomWalks$Table" "numbers" "[D", Cond.fieldLink RX1 18 "BottomWalks$Table" "rows" "I", Cond.methodLink RX3 32 yX0_init, Cond.instanceMethod yX0_init, Cond.code yX0_init cX0_init 3 none, Cond.methodLink RX0 3 objectInit, Cond.arrayClass .boolean, Cond.fieldLink RX0 9 "BottomWalks$Echoes" "lostPings" "[Z", Cond.fieldLink RX0 15 "BottomWalks$Echoes" "spread" "D", Cond.fieldLink RX0 19 "BottomWalks$Echoes" "absorb" "D", Cond.fieldLink RX0 22 "BottomWalks$Echoes" "noiseLevel" "D", Cond.methodLink RX0 25 Lib.Math.min.name, Cond.static Lib.Math.min.name, Cond.initialized "java/lang/Math", Cond.code Lib.Math.min.name Lib.Math.min.code 2 (some .int), Cond.methodLink RX0 31 Lib.Math.max.name, Cond.static Lib.Math.max.name, Cond.code Lib.Math.max.name Lib.Math.max.code 2 (some .int), Cond.fieldLink RX0 34 "BottomWalks$Echoes" "samples" "I", Cond.constantDouble RX0 38 (4593671619917905920), Cond.fieldLink RX0 40 "BottomWalks$Echoes" "metre" "D", Cond.fieldLink RX0 43 "BottomWalks$Echoes" "values" "[D", Cond.constantDouble RX0 47 (13830554455654793216), Cond.methodLink RX0 49 yJ7_fill_7f8df]
def wsX3_init_r3 : List Cond := [Cond.static yJ7_fill_7f8df, Cond.initialized RJ7, Cond.code yJ7_fill_7f8df cJ7_fill_7f8df 5 none, Cond.methodLink RX3 41 yX2_init, Cond.instanceMethod yX2_init, Cond.code yX2_init cX2_init 2 none, Cond.methodLink RX2 3 objectInit, Cond.fieldLink RX2 9 "BottomWalks$Walk" "depthsTold" "[D", Cond.fieldLink RX2 15 "BottomWalks$Walk" "walked" "[Z", Cond.arrayClass .int, Cond.fieldLink RX2 19 "BottomWalks$Walk" "row" "[I", Cond.fieldLink RX2 23 "BottomWalks$Walk" "steepness" "I", Cond.fieldLink RX2 27 "BottomWalks$Walk" "frequencyWalked" "I", Cond.fieldLink RX2 30 "BottomWalks$Walk" "found" "Z", Cond.fieldLink RX2 34 "BottomWalks$Walk" "echoes" "LBottomWalks$Echoes;", Cond.fieldLink RX2 38 "BottomWalks$Echoes" "samples" "I", Cond.arrayClass .long, Cond.fieldLink RX2 43 "BottomWalks$Walk" "sums" "[J", Cond.constantDouble RX2 47 (13830554455654793216), Cond.methodLink RX2 49 yJ7_fill_7f8df]
def wsX3_init : List Cond := .code yX3_init cX3_init 3 none :: ((wsX3_init_r1 ++ (wsX3_init_r2 ++ wsX3_init_r3)) ++ wsX10 ++ wsX30 ++ wsX00 ++ wsX20)
def wsX3_value_r1 : List Cond := [Cond.fieldLink RX3 35 "BottomWalks" "echoes" "LBottomWalks$Echoes;", Cond.fieldLink RX3 26 "BottomWalks" "chosen" "I", Cond.methodLink RX3 48 yX0_tell, Cond.instanceMethod yX0_tell, Cond.selects RX0 yX0_tell yX0_tell, Cond.initialized RX0, Cond.code yX0_tell cX0_tell 7 (some .boolean), Cond.constantDouble RX0 59 (4652007308841189376), Cond.fieldLink RX0 43 "BottomWalks$Echoes" "values" "[D", Cond.methodLink RX0 55 yX0_placeOf, Cond.instanceMethod yX0_placeOf, Cond.selects RX0 yX0_placeOf yX0_placeOf, Cond.code yX0_placeOf cX0_placeOf 4 (some .int), Cond.fieldLink RX0 34 "BottomWalks$Echoes" "samples" "I", Cond.static yX3_isFrequency, Cond.initialized RX3, Cond.code yX3_isFrequency cX3_isFrequency 1 (some .boolean), Cond.static yX3_isPing, Cond.code yX3_isPing cX3_isPing 1 (some .boolean), Cond.methodLink RX0 84 yX0_isSample, Cond.instanceMethod yX0_isSample, Cond.selects RX0 yX0_isSample yX0_isSample, Cond.code yX0_isSample cX0_isSample 2 (some .boolean), Cond.static yX3_within]
def wsX3_value_r2 : List Cond := [Cond.code yX3_within cX3_within 6 (some .boolean)]
def wsX3_value : List Cond := .code yX3_value cX3_value 5 (some .boolean) :: ((wsX3_value_r1 ++ wsX3_value_r2) ++ wsX30 ++ wsX00)
def wsX3_loss : List Cond := .code yX3_loss cX3_loss 5 (some .boolean) :: ([.constantDouble RX3 52 (4621819117588971520), .fieldLink RX3 35 "BottomWalks" "echoes" "LBottomWalks$Echoes;", .methodLink RX3 54 yX3_within, .static yX3_within, .initialized RX3, .code yX3_within cX3_within 6 (some .boolean), .methodLink RX3 58 yX0_setLosses, .instanceMethod yX0_setLosses, .selects RX0 yX0_setLosses yX0_setLosses, .initialized RX0, .code yX0_setLosses cX0_setLosses 5 none, .fieldLink RX0 15 "BottomWalks$Echoes" "spread" "D", .fieldLink RX0 19 "BottomWalks$Echoes" "absorb" "D"] ++ wsX30 ++ wsX00)
def wsX3_noise : List Cond := .code yX3_noise cX3_noise 3 (some .boolean) :: ([.constantDouble RX3 62 (4652007308841189376), .fieldLink RX3 35 "BottomWalks" "echoes" "LBottomWalks$Echoes;", .methodLink RX3 54 yX3_within, .static yX3_within, .initialized RX3, .code yX3_within cX3_within 6 (some .boolean), .methodLink RX3 64 yX0_setNoiseLevel, .instanceMethod yX0_setNoiseLevel, .selects RX0 yX0_setNoiseLevel yX0_setNoiseLevel, .initialized RX0, .code yX0_setNoiseLevel cX0_setNoiseLevel 3 none, .fieldLink RX0 22 "BottomWalks$Echoes" "noiseLevel" "D"] ++ wsX30 ++ wsX00)
def wsX3_run_r1 : List Cond := [Cond.fieldLink RX3 44 "BottomWalks" "walk" "LBottomWalks$Walk;", Cond.fieldLink RX3 26 "BottomWalks" "chosen" "I", Cond.methodLink RX3 68 yX2_go, Cond.instanceMethod yX2_go, Cond.selects RX2 yX2_go yX2_go, Cond.initialized RX2, Cond.code yX2_go cX2_go 5 (some .int), Cond.fieldLink RX2 27 "BottomWalks$Walk" "frequencyWalked" "I", Cond.fieldLink RX2 23 "BottomWalks$Walk" "steepness" "I", Cond.fieldLink RX2 30 "BottomWalks$Walk" "found" "Z", Cond.fieldLink RX2 15 "BottomWalks$Walk" "walked" "[Z", Cond.methodLink RX2 65 yX2_hasPing, Cond.instanceMethod yX2_hasPing, Cond.selects RX2 yX2_hasPing yX2_hasPing, Cond.code yX2_hasPing cX2_hasPing 4 (some .boolean), Cond.methodLink RX2 69 yX2_isForWalk, Cond.instanceMethod yX2_isForWalk, Cond.selects RX2 yX2_isForWalk yX2_isForWalk, Cond.code yX2_isForWalk cX2_isForWalk 3 (some .boolean), Cond.fieldLink RX2 34 "BottomWalks$Walk" "echoes" "LBottomWalks$Echoes;", Cond.methodLink RX2 98 yX2_isEdited, Cond.instanceMethod yX2_isEdited, Cond.selects RX2 yX2_isEdited yX2_isEdited, Cond.code yX2_isEdited cX2_isEdited 2 (some .boolean)]
def wsX3_run_r2 : List Cond := [Cond.fieldLink RX2 9 "BottomWalks$Walk" "depthsTold" "[D", Cond.static yX3_isPing, Cond.initialized RX3, Cond.code yX3_isPing cX3_isPing 1 (some .boolean), Cond.methodLink RX2 112 yX0_isLost, Cond.instanceMethod yX0_isLost, Cond.selects RX0 yX0_isLost yX0_isLost, Cond.initialized RX0, Cond.code yX0_isLost cX0_isLost 2 (some .boolean), Cond.fieldLink RX0 9 "BottomWalks$Echoes" "lostPings" "[Z", Cond.methodLink RX2 115 yX0_isSilent, Cond.instanceMethod yX0_isSilent, Cond.selects RX0 yX0_isSilent yX0_isSilent, Cond.code yX0_isSilent cX0_isSilent 5 (some .boolean), Cond.fieldLink RX0 34 "BottomWalks$Echoes" "samples" "I", Cond.fieldLink RX0 43 "BottomWalks$Echoes" "values" "[D", Cond.methodLink RX0 55 yX0_placeOf, Cond.instanceMethod yX0_placeOf, Cond.selects RX0 yX0_placeOf yX0_placeOf, Cond.code yX0_placeOf cX0_placeOf 4 (some .int), Cond.static yX3_isFrequency, Cond.code yX3_isFrequency cX3_isFrequency 1 (some .boolean), Cond.methodLink RX0 84 yX0_isSample, Cond.instanceMethod yX0_isSample]
def wsX3_run_r3 : List Cond := [Cond.selects RX0 yX0_isSample yX0_isSample, Cond.code yX0_isSample cX0_isSample 2 (some .boolean), Cond.methodLink RX2 72 yX2_neighbour, Cond.instanceMethod yX2_neighbour, Cond.selects RX2 yX2_neighbour yX2_neighbour, Cond.code yX2_neighbour cX2_neighbour 4 (some .int), Cond.methodLink RX2 84 yX2_isWalked, Cond.instanceMethod yX2_isWalked, Cond.selects RX2 yX2_isWalked yX2_isWalked, Cond.code yX2_isWalked cX2_isWalked 2 (some .boolean), Cond.methodLink RX2 76 yX2_sumUp, Cond.instanceMethod yX2_sumUp, Cond.selects RX2 yX2_sumUp yX2_sumUp, Cond.code yX2_sumUp cX2_sumUp 7 none, Cond.fieldLink RX2 43 "BottomWalks$Walk" "sums" "[J", Cond.fieldLink RX2 38 "BottomWalks$Echoes" "samples" "I", Cond.methodLink RX2 125 yX2_highest, Cond.instanceMethod yX2_highest, Cond.selects RX2 yX2_highest yX2_highest, Cond.code yX2_highest cX2_highest 2 (some .int), Cond.methodLink RX2 121 yX0_sampleFor, Cond.instanceMethod yX0_sampleFor, Cond.selects RX0 yX0_sampleFor yX0_sampleFor, Cond.code yX0_sampleFor cX0_sampleFor 4 (some .int)]
def wsX3_run_r4 : List Cond := [Cond.methodLink RX0 72 yX0_range, Cond.instanceMethod yX0_range, Cond.selects RX0 yX0_range yX0_range, Cond.code yX0_range cX0_range 2 (some .double), Cond.fieldLink RX0 40 "BottomWalks$Echoes" "metre" "D", Cond.methodLink RX2 101 yX2_lowest, Cond.instanceMethod yX2_lowest, Cond.selects RX2 yX2_lowest yX2_lowest, Cond.code yX2_lowest cX2_lowest 2 (some .int), Cond.methodLink RX2 128 yX0_isSample, Cond.methodLink RX2 108 yX0_strength, Cond.instanceMethod yX0_strength, Cond.selects RX0 yX0_strength yX0_strength, Cond.code yX0_strength cX0_strength 9 (some .long), Cond.fieldLink RX0 15 "BottomWalks$Echoes" "spread" "D", Cond.fieldLink RX0 19 "BottomWalks$Echoes" "absorb" "D", Cond.constantDouble RX0 76 (4562254508917369340), Cond.fieldLink RX0 22 "BottomWalks$Echoes" "noiseLevel" "D", Cond.methodLink RX0 78 Lib.MathLoose.max_long.x, Cond.static Lib.MathLoose.max_long.x, Cond.initialized "java/lang/Math", Cond.code Lib.MathLoose.max_long.x Lib.MathLoose.max_long.code 4 (some .long), Cond.methodLink RX0 69 yX0_isLost, Cond.methodLink RX2 131 yX2_bestBefore]
def wsX3_run_r5 : List Cond := [Cond.instanceMethod yX2_bestBefore, Cond.selects RX2 yX2_bestBefore yX2_bestBefore, Cond.code yX2_bestBefore cX2_bestBefore 12 (some .int), Cond.methodLink RX2 139 Lib.Math.max.name, Cond.static Lib.Math.max.name, Cond.code Lib.Math.max.name Lib.Math.max.code 2 (some .int), Cond.methodLink RX2 144 Lib.Math.min.name, Cond.static Lib.Math.min.name, Cond.code Lib.Math.min.name Lib.Math.min.code 2 (some .int), Cond.methodLink RX2 135 yX2_sumAt, Cond.instanceMethod yX2_sumAt, Cond.selects RX2 yX2_sumAt yX2_sumAt, Cond.code yX2_sumAt cX2_sumAt 3 (some .long), Cond.methodLink RX2 80 yX2_traceBack, Cond.instanceMethod yX2_traceBack, Cond.selects RX2 yX2_traceBack yX2_traceBack, Cond.code yX2_traceBack cX2_traceBack 5 (some .long), Cond.fieldLink RX2 19 "BottomWalks$Walk" "row" "[I", Cond.methodLink RX2 105 yX2_sampleOfRow, Cond.instanceMethod yX2_sampleOfRow, Cond.selects RX2 yX2_sampleOfRow yX2_sampleOfRow, Cond.code yX2_sampleOfRow cX2_sampleOfRow 2 (some .int)]
def wsX3_run : List Cond := .code yX3_run cX3_run 3 (some .int) :: ((wsX3_run_r1 ++ (wsX3_run_r2 ++ (wsX3_run_r3 ++ (wsX3_run_r4 ++ wsX3_run_r5)))) ++ wsX30 ++ wsX20 ++ wsX00)
def wsX3_bottom_r1 : List Cond := [Cond.fieldLink RX3 44 "BottomWalks" "walk" "LBottomWalks$Walk;", Cond.fieldLink RX3 19 "BottomWalks" "tides" "[D", Cond.constantDouble RX3 83 (13830554455654793216), Cond.methodLink RX3 72 yX3_isPing, Cond.static yX3_isPing, Cond.initialized RX3, Cond.code yX3_isPing cX3_isPing 1 (some .boolean), Cond.methodLink RX3 76 yX2_hasBottom, Cond.instanceMethod yX2_hasBottom, Cond.selects RX2 yX2_hasBottom yX2_hasBottom, Cond.initialized RX2, Cond.code yX2_hasBottom cX2_hasBottom 2 (some .boolean), Cond.methodLink RX2 84 yX2_isWalked, Cond.instanceMethod yX2_isWalked, Cond.selects RX2 yX2_isWalked yX2_isWalked, Cond.code yX2_isWalked cX2_isWalked 2 (some .boolean), Cond.fieldLink RX2 15 "BottomWalks$Walk" "walked" "[Z", Cond.methodLink RX2 87 yX2_isBridge, Cond.instanceMethod yX2_isBridge, Cond.selects RX2 yX2_isBridge yX2_isBridge, Cond.code yX2_isBridge cX2_isBridge 4 (some .boolean), Cond.methodLink RX2 72 yX2_neighbour, Cond.instanceMethod yX2_neighbour, Cond.selects RX2 yX2_neighbour yX2_neighbour]
def wsX3_bottom_r2 : List Cond := [Cond.code yX2_neighbour cX2_neighbour 4 (some .int), Cond.methodLink RX3 79 yX2_depthAt, Cond.instanceMethod yX2_depthAt, Cond.selects RX2 yX2_depthAt yX2_depthAt, Cond.code yX2_depthAt cX2_depthAt 8 (some .double), Cond.methodLink RX2 90 yX2_depthWalked, Cond.instanceMethod yX2_depthWalked, Cond.selects RX2 yX2_depthWalked yX2_depthWalked, Cond.code yX2_depthWalked cX2_depthWalked 2 (some .double), Cond.fieldLink RX2 9 "BottomWalks$Walk" "depthsTold" "[D", Cond.fieldLink RX2 34 "BottomWalks$Walk" "echoes" "LBottomWalks$Echoes;", Cond.methodLink RX2 98 yX2_isEdited, Cond.instanceMethod yX2_isEdited, Cond.selects RX2 yX2_isEdited yX2_isEdited, Cond.code yX2_isEdited cX2_isEdited 2 (some .boolean), Cond.methodLink RX2 105 yX2_sampleOfRow, Cond.instanceMethod yX2_sampleOfRow, Cond.selects RX2 yX2_sampleOfRow yX2_sampleOfRow, Cond.code yX2_sampleOfRow cX2_sampleOfRow 2 (some .int), Cond.fieldLink RX2 19 "BottomWalks$Walk" "row" "[I", Cond.methodLink RX2 118 yX0_range, Cond.instanceMethod yX0_range, Cond.selects RX0 yX0_range yX0_range, Cond.initialized RX0]
def wsX3_bottom_r3 : List Cond := [Cond.code yX0_range cX0_range 2 (some .double), Cond.fieldLink RX0 40 "BottomWalks$Echoes" "metre" "D", Cond.static yX3_over, Cond.code yX3_over cX3_over 4 (some .double)]
def wsX3_bottom : List Cond := .code yX3_bottom cX3_bottom 2 (some .double) :: ((wsX3_bottom_r1 ++ (wsX3_bottom_r2 ++ wsX3_bottom_r3)) ++ wsX30 ++ wsX20 ++ wsX00)
def wsX3_greatest : List Cond := .code yX3_greatest cX3_greatest 1 (some .boolean) :: ([.fieldLink RX3 44 "BottomWalks" "walk" "LBottomWalks$Walk;", .methodLink RX3 85 yX2_wasFound, .instanceMethod yX2_wasFound, .selects RX2 yX2_wasFound yX2_wasFound, .initialized RX2, .code yX2_wasFound cX2_wasFound 1 (some .boolean), .fieldLink RX2 30 "BottomWalks$Walk" "found" "Z"] ++ wsX30 ++ wsX20)
def wsX3_edit : List Cond := .code yX3_edit cX3_edit 4 (some .boolean) :: ([.fieldLink RX3 44 "BottomWalks" "walk" "LBottomWalks$Walk;", .methodLink RX3 89 yX2_tellDepth, .instanceMethod yX2_tellDepth, .selects RX2 yX2_tellDepth yX2_tellDepth, .initialized RX2, .code yX2_tellDepth cX2_tellDepth 4 (some .boolean), .constantDouble RX2 59 (4666723172467343360), .fieldLink RX2 9 "BottomWalks$Walk" "depthsTold" "[D", .static yX3_isPing, .initialized RX3, .code yX3_isPing cX3_isPing 1 (some .boolean), .static yX3_within, .code yX3_within cX3_within 6 (some .boolean)] ++ wsX30 ++ wsX20)
def wsX3_lost : List Cond := .code yX3_lost cX3_lost 2 (some .boolean) :: ([.fieldLink RX3 35 "BottomWalks" "echoes" "LBottomWalks$Echoes;", .methodLink RX3 93 yX0_lose, .instanceMethod yX0_lose, .selects RX0 yX0_lose yX0_lose, .initialized RX0, .code yX0_lose cX0_lose 2 (some .boolean), .fieldLink RX0 9 "BottomWalks$Echoes" "lostPings" "[Z", .static yX3_isPing, .initialized RX3, .code yX3_isPing cX3_isPing 1 (some .boolean)] ++ wsX30 ++ wsX00)
def wsX3_bridged : List Cond := .code yX3_bridged cX3_bridged 4 (some .int) :: ([.fieldLink RX3 44 "BottomWalks" "walk" "LBottomWalks$Walk;", .methodLink RX3 96 yX2_isBridge, .instanceMethod yX2_isBridge, .selects RX2 yX2_isBridge yX2_isBridge, .initialized RX2, .code yX2_isBridge cX2_isBridge 4 (some .boolean), .static yX3_isPing, .initialized RX3, .code yX3_isPing cX3_isPing 1 (some .boolean), .methodLink RX2 84 yX2_isWalked, .instanceMethod yX2_isWalked, .selects RX2 yX2_isWalked yX2_isWalked, .code yX2_isWalked cX2_isWalked 2 (some .boolean), .fieldLink RX2 15 "BottomWalks$Walk" "walked" "[Z", .methodLink RX2 72 yX2_neighbour, .instanceMethod yX2_neighbour, .selects RX2 yX2_neighbour yX2_neighbour, .code yX2_neighbour cX2_neighbour 4 (some .int)] ++ wsX30 ++ wsX20)
def wsX3_dead_r1 : List Cond := [Cond.fieldLink RX3 44 "BottomWalks" "walk" "LBottomWalks$Walk;", Cond.constantDouble RX3 99 (4602678819172646912), Cond.fieldLink RX3 35 "BottomWalks" "echoes" "LBottomWalks$Echoes;", Cond.fieldLink RX3 101 "BottomWalks$Echoes" "metre" "D", Cond.constantDouble RX3 105 (4581421828931458171), Cond.constantDouble RX3 83 (13830554455654793216), Cond.methodLink RX3 76 yX2_hasBottom, Cond.instanceMethod yX2_hasBottom, Cond.selects RX2 yX2_hasBottom yX2_hasBottom, Cond.initialized RX2, Cond.code yX2_hasBottom cX2_hasBottom 2 (some .boolean), Cond.methodLink RX2 84 yX2_isWalked, Cond.instanceMethod yX2_isWalked, Cond.selects RX2 yX2_isWalked yX2_isWalked, Cond.code yX2_isWalked cX2_isWalked 2 (some .boolean), Cond.fieldLink RX2 15 "BottomWalks$Walk" "walked" "[Z", Cond.static yX3_isPing, Cond.initialized RX3, Cond.code yX3_isPing cX3_isPing 1 (some .boolean), Cond.methodLink RX2 87 yX2_isBridge, Cond.instanceMethod yX2_isBridge, Cond.selects RX2 yX2_isBridge yX2_isBridge, Cond.code yX2_isBridge cX2_isBridge 4 (some .boolean), Cond.methodLink RX2 72 yX2_neighbour]
def wsX3_dead_r2 : List Cond := [Cond.instanceMethod yX2_neighbour, Cond.selects RX2 yX2_neighbour yX2_neighbour, Cond.code yX2_neighbour cX2_neighbour 4 (some .int), Cond.methodLink RX3 79 yX2_depthAt, Cond.instanceMethod yX2_depthAt, Cond.selects RX2 yX2_depthAt yX2_depthAt, Cond.code yX2_depthAt cX2_depthAt 8 (some .double), Cond.methodLink RX2 90 yX2_depthWalked, Cond.instanceMethod yX2_depthWalked, Cond.selects RX2 yX2_depthWalked yX2_depthWalked, Cond.code yX2_depthWalked cX2_depthWalked 2 (some .double), Cond.fieldLink RX2 9 "BottomWalks$Walk" "depthsTold" "[D", Cond.fieldLink RX2 34 "BottomWalks$Walk" "echoes" "LBottomWalks$Echoes;", Cond.methodLink RX2 98 yX2_isEdited, Cond.instanceMethod yX2_isEdited, Cond.selects RX2 yX2_isEdited yX2_isEdited, Cond.code yX2_isEdited cX2_isEdited 2 (some .boolean), Cond.methodLink RX2 105 yX2_sampleOfRow, Cond.instanceMethod yX2_sampleOfRow, Cond.selects RX2 yX2_sampleOfRow yX2_sampleOfRow, Cond.code yX2_sampleOfRow cX2_sampleOfRow 2 (some .int), Cond.fieldLink RX2 19 "BottomWalks$Walk" "row" "[I", Cond.methodLink RX2 118 yX0_range, Cond.instanceMethod yX0_range]
def wsX3_dead_r3 : List Cond := [Cond.selects RX0 yX0_range yX0_range, Cond.initialized RX0, Cond.code yX0_range cX0_range 2 (some .double), Cond.fieldLink RX0 40 "BottomWalks$Echoes" "metre" "D", Cond.static yX3_over, Cond.code yX3_over cX3_over 4 (some .double)]
def wsX3_dead : List Cond := .code yX3_dead cX3_dead 2 (some .double) :: ((wsX3_dead_r1 ++ (wsX3_dead_r2 ++ wsX3_dead_r3)) ++ wsX30 ++ wsX00 ++ wsX20)
def wsX3_surface_r1 : List Cond := [Cond.constantDouble RX3 83 (13830554455654793216), Cond.fieldLink RX3 35 "BottomWalks" "echoes" "LBottomWalks$Echoes;", Cond.fieldLink RX3 107 "BottomWalks$Echoes" "samples" "I", Cond.fieldLink RX3 26 "BottomWalks" "chosen" "I", Cond.constantLong RX3 114 (500), Cond.fieldLink RX3 101 "BottomWalks$Echoes" "metre" "D", Cond.methodLink RX3 72 yX3_isPing, Cond.static yX3_isPing, Cond.initialized RX3, Cond.code yX3_isPing cX3_isPing 1 (some .boolean), Cond.methodLink RX3 110 yX0_strength, Cond.instanceMethod yX0_strength, Cond.selects RX0 yX0_strength yX0_strength, Cond.initialized RX0, Cond.code yX0_strength cX0_strength 9 (some .long), Cond.fieldLink RX0 43 "BottomWalks$Echoes" "values" "[D", Cond.fieldLink RX0 15 "BottomWalks$Echoes" "spread" "D", Cond.fieldLink RX0 19 "BottomWalks$Echoes" "absorb" "D", Cond.constantDouble RX0 76 (4562254508917369340), Cond.fieldLink RX0 22 "BottomWalks$Echoes" "noiseLevel" "D", Cond.methodLink RX0 78 Lib.MathLoose.max_long.x, Cond.static Lib.MathLoose.max_long.x, Cond.initialized "java/lang/Math", Cond.code Lib.MathLoose.max_long.x Lib.MathLoose.max_long.code 4 (some .long)]
def wsX3_surface_r2 : List Cond := [Cond.methodLink RX0 55 yX0_placeOf, Cond.instanceMethod yX0_placeOf, Cond.selects RX0 yX0_placeOf yX0_placeOf, Cond.code yX0_placeOf cX0_placeOf 4 (some .int), Cond.fieldLink RX0 34 "BottomWalks$Echoes" "samples" "I", Cond.static yX3_isFrequency, Cond.code yX3_isFrequency cX3_isFrequency 1 (some .boolean), Cond.methodLink RX0 84 yX0_isSample, Cond.instanceMethod yX0_isSample, Cond.selects RX0 yX0_isSample yX0_isSample, Cond.code yX0_isSample cX0_isSample 2 (some .boolean), Cond.methodLink RX0 69 yX0_isLost, Cond.instanceMethod yX0_isLost, Cond.selects RX0 yX0_isLost yX0_isLost, Cond.code yX0_isLost cX0_isLost 2 (some .boolean), Cond.fieldLink RX0 9 "BottomWalks$Echoes" "lostPings" "[Z", Cond.methodLink RX0 72 yX0_range, Cond.instanceMethod yX0_range, Cond.selects RX0 yX0_range yX0_range, Cond.code yX0_range cX0_range 2 (some .double), Cond.fieldLink RX0 40 "BottomWalks$Echoes" "metre" "D"]
def wsX3_surface : List Cond := .code yX3_surface cX3_surface 3 (some .double) :: ((wsX3_surface_r1 ++ wsX3_surface_r2) ++ wsX30 ++ wsX00)
def wsX3_tail_r1 : List Cond := [Cond.fieldLink RX3 44 "BottomWalks" "walk" "LBottomWalks$Walk;", Cond.constantDouble RX3 83 (13830554455654793216), Cond.methodLink RX3 116 yX2_isWalked, Cond.instanceMethod yX2_isWalked, Cond.selects RX2 yX2_isWalked yX2_isWalked, Cond.initialized RX2, Cond.code yX2_isWalked cX2_isWalked 2 (some .boolean), Cond.fieldLink RX2 15 "BottomWalks$Walk" "walked" "[Z", Cond.static yX3_isPing, Cond.initialized RX3, Cond.code yX3_isPing cX3_isPing 1 (some .boolean), Cond.methodLink RX3 167 yX2_strengthsBehind, Cond.instanceMethod yX2_strengthsBehind, Cond.selects RX2 yX2_strengthsBehind yX2_strengthsBehind, Cond.code yX2_strengthsBehind cX2_strengthsBehind 6 (some .double), Cond.fieldLink RX2 34 "BottomWalks$Walk" "echoes" "LBottomWalks$Echoes;", Cond.fieldLink RX2 27 "BottomWalks$Walk" "frequencyWalked" "I", Cond.methodLink RX2 98 yX2_isEdited, Cond.instanceMethod yX2_isEdited, Cond.selects RX2 yX2_isEdited yX2_isEdited, Cond.code yX2_isEdited cX2_isEdited 2 (some .boolean), Cond.fieldLink RX2 9 "BottomWalks$Walk" "depthsTold" "[D", Cond.methodLink RX2 101 yX2_lowest, Cond.instanceMethod yX2_lowest]
def wsX3_tail_r2 : List Cond := [Cond.selects RX2 yX2_lowest yX2_lowest, Cond.code yX2_lowest cX2_lowest 2 (some .int), Cond.methodLink RX2 121 yX0_sampleFor, Cond.instanceMethod yX0_sampleFor, Cond.selects RX0 yX0_sampleFor yX0_sampleFor, Cond.initialized RX0, Cond.code yX0_sampleFor cX0_sampleFor 4 (some .int), Cond.fieldLink RX0 34 "BottomWalks$Echoes" "samples" "I", Cond.methodLink RX0 72 yX0_range, Cond.instanceMethod yX0_range, Cond.selects RX0 yX0_range yX0_range, Cond.code yX0_range cX0_range 2 (some .double), Cond.fieldLink RX0 40 "BottomWalks$Echoes" "metre" "D", Cond.methodLink RX2 105 yX2_sampleOfRow, Cond.instanceMethod yX2_sampleOfRow, Cond.selects RX2 yX2_sampleOfRow yX2_sampleOfRow, Cond.code yX2_sampleOfRow cX2_sampleOfRow 2 (some .int), Cond.fieldLink RX2 19 "BottomWalks$Walk" "row" "[I", Cond.methodLink RX2 108 yX0_strength, Cond.instanceMethod yX0_strength, Cond.selects RX0 yX0_strength yX0_strength, Cond.code yX0_strength cX0_strength 9 (some .long), Cond.fieldLink RX0 43 "BottomWalks$Echoes" "values" "[D", Cond.fieldLink RX0 15 "BottomWalks$Echoes" "spread" "D"]
def wsX3_tail_r3 : List Cond := [Cond.fieldLink RX0 19 "BottomWalks$Echoes" "absorb" "D", Cond.constantDouble RX0 76 (4562254508917369340), Cond.fieldLink RX0 22 "BottomWalks$Echoes" "noiseLevel" "D", Cond.methodLink RX0 78 Lib.MathLoose.max_long.x, Cond.static Lib.MathLoose.max_long.x, Cond.initialized "java/lang/Math", Cond.code Lib.MathLoose.max_long.x Lib.MathLoose.max_long.code 4 (some .long), Cond.methodLink RX0 55 yX0_placeOf, Cond.instanceMethod yX0_placeOf, Cond.selects RX0 yX0_placeOf yX0_placeOf, Cond.code yX0_placeOf cX0_placeOf 4 (some .int), Cond.static yX3_isFrequency, Cond.code yX3_isFrequency cX3_isFrequency 1 (some .boolean), Cond.methodLink RX0 84 yX0_isSample, Cond.instanceMethod yX0_isSample, Cond.selects RX0 yX0_isSample yX0_isSample, Cond.code yX0_isSample cX0_isSample 2 (some .boolean), Cond.methodLink RX0 69 yX0_isLost, Cond.instanceMethod yX0_isLost, Cond.selects RX0 yX0_isLost yX0_isLost, Cond.code yX0_isLost cX0_isLost 2 (some .boolean), Cond.fieldLink RX0 9 "BottomWalks$Echoes" "lostPings" "[Z"]
def wsX3_tail : List Cond := .code yX3_tail cX3_tail 2 (some .double) :: ((wsX3_tail_r1 ++ (wsX3_tail_r2 ++ wsX3_tail_r3)) ++ wsX30 ++ wsX20 ++ wsX00)
def wsX3_kind_r1 : List Cond := [Cond.fieldLink RX3 44 "BottomWalks" "walk" "LBottomWalks$Walk;", Cond.constantDouble RX3 122 (4641240890982006784), Cond.constantDouble RX3 124 (4656510908468559872), Cond.methodLink RX3 116 yX2_isWalked, Cond.instanceMethod yX2_isWalked, Cond.selects RX2 yX2_isWalked yX2_isWalked, Cond.initialized RX2, Cond.code yX2_isWalked cX2_isWalked 2 (some .boolean), Cond.fieldLink RX2 15 "BottomWalks$Walk" "walked" "[Z", Cond.static yX3_isPing, Cond.initialized RX3, Cond.code yX3_isPing cX3_isPing 1 (some .boolean), Cond.methodLink RX3 119 yX3_tail, Cond.instanceMethod yX3_tail, Cond.selects RX3 yX3_tail yX3_tail, Cond.code yX3_tail cX3_tail 2 (some .double), Cond.constantDouble RX3 83 (13830554455654793216), Cond.methodLink RX3 167 yX2_strengthsBehind, Cond.instanceMethod yX2_strengthsBehind, Cond.selects RX2 yX2_strengthsBehind yX2_strengthsBehind, Cond.code yX2_strengthsBehind cX2_strengthsBehind 6 (some .double), Cond.fieldLink RX2 34 "BottomWalks$Walk" "echoes" "LBottomWalks$Echoes;", Cond.fieldLink RX2 27 "BottomWalks$Walk" "frequencyWalked" "I", Cond.methodLink RX2 98 yX2_isEdited]
def wsX3_kind_r2 : List Cond := [Cond.instanceMethod yX2_isEdited, Cond.selects RX2 yX2_isEdited yX2_isEdited, Cond.code yX2_isEdited cX2_isEdited 2 (some .boolean), Cond.fieldLink RX2 9 "BottomWalks$Walk" "depthsTold" "[D", Cond.methodLink RX2 101 yX2_lowest, Cond.instanceMethod yX2_lowest, Cond.selects RX2 yX2_lowest yX2_lowest, Cond.code yX2_lowest cX2_lowest 2 (some .int), Cond.methodLink RX2 121 yX0_sampleFor, Cond.instanceMethod yX0_sampleFor, Cond.selects RX0 yX0_sampleFor yX0_sampleFor, Cond.initialized RX0, Cond.code yX0_sampleFor cX0_sampleFor 4 (some .int), Cond.fieldLink RX0 34 "BottomWalks$Echoes" "samples" "I", Cond.methodLink RX0 72 yX0_range, Cond.instanceMethod yX0_range, Cond.selects RX0 yX0_range yX0_range, Cond.code yX0_range cX0_range 2 (some .double), Cond.fieldLink RX0 40 "BottomWalks$Echoes" "metre" "D", Cond.methodLink RX2 105 yX2_sampleOfRow, Cond.instanceMethod yX2_sampleOfRow, Cond.selects RX2 yX2_sampleOfRow yX2_sampleOfRow, Cond.code yX2_sampleOfRow cX2_sampleOfRow 2 (some .int), Cond.fieldLink RX2 19 "BottomWalks$Walk" "row" "[I"]
def wsX3_kind_r3 : List Cond := [Cond.methodLink RX2 108 yX0_strength, Cond.instanceMethod yX0_strength, Cond.selects RX0 yX0_strength yX0_strength, Cond.code yX0_strength cX0_strength 9 (some .long), Cond.fieldLink RX0 43 "BottomWalks$Echoes" "values" "[D", Cond.fieldLink RX0 15 "BottomWalks$Echoes" "spread" "D", Cond.fieldLink RX0 19 "BottomWalks$Echoes" "absorb" "D", Cond.constantDouble RX0 76 (4562254508917369340), Cond.fieldLink RX0 22 "BottomWalks$Echoes" "noiseLevel" "D", Cond.methodLink RX0 78 Lib.MathLoose.max_long.x, Cond.static Lib.MathLoose.max_long.x, Cond.initialized "java/lang/Math", Cond.code Lib.MathLoose.max_long.x Lib.MathLoose.max_long.code 4 (some .long), Cond.methodLink RX0 55 yX0_placeOf, Cond.instanceMethod yX0_placeOf, Cond.selects RX0 yX0_placeOf yX0_placeOf, Cond.code yX0_placeOf cX0_placeOf 4 (some .int), Cond.static yX3_isFrequency, Cond.code yX3_isFrequency cX3_isFrequency 1 (some .boolean), Cond.methodLink RX0 84 yX0_isSample, Cond.instanceMethod yX0_isSample, Cond.selects RX0 yX0_isSample yX0_isSample, Cond.code yX0_isSample cX0_isSample 2 (some .boolean), Cond.methodLink RX0 69 yX0_isLost]
def wsX3_kind_r4 : List Cond := [Cond.instanceMethod yX0_isLost, Cond.selects RX0 yX0_isLost yX0_isLost, Cond.code yX0_isLost cX0_isLost 2 (some .boolean), Cond.fieldLink RX0 9 "BottomWalks$Echoes" "lostPings" "[Z"]
def wsX3_kind : List Cond := .code yX3_kind cX3_kind 4 (some .int) :: ((wsX3_kind_r1 ++ (wsX3_kind_r2 ++ (wsX3_kind_r3 ++ wsX3_kind_r4))) ++ wsX30 ++ wsX20 ++ wsX00)
def wsX3_speed : List Cond := .code yX3_speed cX3_speed 5 (some .boolean) :: ([.constantDouble RX3 126 (4666723172467343360), .constantDouble RX3 128 (4653432275910787072), .constantDouble RX3 130 (4655191494515228672), .fieldLink RX3 10 "BottomWalks" "speeds" "LBottomWalks$Table;", .methodLink RX3 54 yX3_within, .static yX3_within, .initialized RX3, .code yX3_within cX3_within 6 (some .boolean), .methodLink RX3 132 yX1_put, .instanceMethod yX1_put, .selects RX1 yX1_put yX1_put, .initialized RX1, .code yX1_put cX1_put 7 (some .boolean), .fieldLink RX1 9 "BottomWalks$Table" "starts" "[D", .fieldLink RX1 15 "BottomWalks$Table" "numbers" "[D", .fieldLink RX1 18 "BottomWalks$Table" "rows" "I", .methodLink RX1 22 yX1_rowsUpTo, .instanceMethod yX1_rowsUpTo, .selects RX1 yX1_rowsUpTo yX1_rowsUpTo, .code yX1_rowsUpTo cX1_rowsUpTo 4 (some .int)] ++ wsX30 ++ wsX10)
def wsX3_bent_r1 : List Cond := [Cond.fieldLink RX3 35 "BottomWalks" "echoes" "LBottomWalks$Echoes;", Cond.constantDouble RX3 83 (13830554455654793216), Cond.fieldLink RX3 101 "BottomWalks$Echoes" "metre" "D", Cond.fieldLink RX3 10 "BottomWalks" "speeds" "LBottomWalks$Table;", Cond.constantDouble RX3 139 (4654311885213007872), Cond.constantDouble RX3 145 (4580687790476533049), Cond.fieldLink RX3 23 "BottomWalks" "degreesTurned" "[D", Cond.constantDouble RX3 99 (4602678819172646912), Cond.fieldLink RX3 19 "BottomWalks" "tides" "[D", Cond.methodLink RX3 72 yX3_isPing, Cond.static yX3_isPing, Cond.initialized RX3, Cond.code yX3_isPing cX3_isPing 1 (some .boolean), Cond.methodLink RX3 136 yX0_isSample, Cond.instanceMethod yX0_isSample, Cond.selects RX0 yX0_isSample yX0_isSample, Cond.initialized RX0, Cond.code yX0_isSample cX0_isSample 2 (some .boolean), Cond.fieldLink RX0 34 "BottomWalks$Echoes" "samples" "I", Cond.methodLink RX3 141 yX1_stepAt, Cond.instanceMethod yX1_stepAt, Cond.selects RX1 yX1_stepAt yX1_stepAt, Cond.initialized RX1, Cond.code yX1_stepAt cX1_stepAt 5 (some .double)]
def wsX3_bent_r2 : List Cond := [Cond.fieldLink RX1 18 "BottomWalks$Table" "rows" "I", Cond.fieldLink RX1 15 "BottomWalks$Table" "numbers" "[D", Cond.methodLink RX1 26 Lib.Math.max.name, Cond.static Lib.Math.max.name, Cond.initialized "java/lang/Math", Cond.code Lib.Math.max.name Lib.Math.max.code 2 (some .int), Cond.methodLink RX1 22 yX1_rowsUpTo, Cond.instanceMethod yX1_rowsUpTo, Cond.selects RX1 yX1_rowsUpTo yX1_rowsUpTo, Cond.code yX1_rowsUpTo cX1_rowsUpTo 4 (some .int), Cond.fieldLink RX1 9 "BottomWalks$Table" "starts" "[D"]
def wsX3_bent : List Cond := .code yX3_bent cX3_bent 7 (some .double) :: ((wsX3_bent_r1 ++ wsX3_bent_r2) ++ wsX30 ++ wsX00 ++ wsX10)
def wsX3_frequency : List Cond := .code yX3_frequency cX3_frequency 2 (some .boolean) :: ([.fieldLink RX3 26 "BottomWalks" "chosen" "I", .methodLink RX3 147 yX3_isFrequency, .static yX3_isFrequency, .initialized RX3, .code yX3_isFrequency cX3_isFrequency 1 (some .boolean)] ++ wsX30)
def wsX3_joined_r1 : List Cond := [Cond.fieldLink RX3 35 "BottomWalks" "echoes" "LBottomWalks$Echoes;", Cond.constantDouble RX3 83 (13830554455654793216), Cond.methodLink RX3 147 yX3_isFrequency, Cond.static yX3_isFrequency, Cond.initialized RX3, Cond.code yX3_isFrequency cX3_isFrequency 1 (some .boolean), Cond.methodLink RX3 72 yX3_isPing, Cond.static yX3_isPing, Cond.code yX3_isPing cX3_isPing 1 (some .boolean), Cond.methodLink RX3 136 yX0_isSample, Cond.instanceMethod yX0_isSample, Cond.selects RX0 yX0_isSample yX0_isSample, Cond.initialized RX0, Cond.code yX0_isSample cX0_isSample 2 (some .boolean), Cond.fieldLink RX0 34 "BottomWalks$Echoes" "samples" "I", Cond.methodLink RX3 110 yX0_strength, Cond.instanceMethod yX0_strength, Cond.selects RX0 yX0_strength yX0_strength, Cond.code yX0_strength cX0_strength 9 (some .long), Cond.fieldLink RX0 43 "BottomWalks$Echoes" "values" "[D", Cond.fieldLink RX0 15 "BottomWalks$Echoes" "spread" "D", Cond.fieldLink RX0 19 "BottomWalks$Echoes" "absorb" "D", Cond.constantDouble RX0 76 (4562254508917369340), Cond.fieldLink RX0 22 "BottomWalks$Echoes" "noiseLevel" "D"]
def wsX3_joined_r2 : List Cond := [Cond.methodLink RX0 78 Lib.MathLoose.max_long.x, Cond.static Lib.MathLoose.max_long.x, Cond.initialized "java/lang/Math", Cond.code Lib.MathLoose.max_long.x Lib.MathLoose.max_long.code 4 (some .long), Cond.methodLink RX0 55 yX0_placeOf, Cond.instanceMethod yX0_placeOf, Cond.selects RX0 yX0_placeOf yX0_placeOf, Cond.code yX0_placeOf cX0_placeOf 4 (some .int), Cond.methodLink RX0 84 yX0_isSample, Cond.methodLink RX0 69 yX0_isLost, Cond.instanceMethod yX0_isLost, Cond.selects RX0 yX0_isLost yX0_isLost, Cond.code yX0_isLost cX0_isLost 2 (some .boolean), Cond.fieldLink RX0 9 "BottomWalks$Echoes" "lostPings" "[Z", Cond.methodLink RX0 72 yX0_range, Cond.instanceMethod yX0_range, Cond.selects RX0 yX0_range yX0_range, Cond.code yX0_range cX0_range 2 (some .double), Cond.fieldLink RX0 40 "BottomWalks$Echoes" "metre" "D", Cond.methodLink RX3 150 yX0_range, Cond.methodLink RX3 153 yX3_over, Cond.static yX3_over, Cond.code yX3_over cX3_over 4 (some .double)]
def wsX3_joined : List Cond := .code yX3_joined cX3_joined 12 (some .double) :: ((wsX3_joined_r1 ++ wsX3_joined_r2) ++ wsX30 ++ wsX00)
def wsX3_ball : List Cond := .code yX3_ball cX3_ball 5 (some .boolean) :: ([.constantDouble RX3 156 (4681608360884174848), .constantDouble RX3 158 (4591870180066957722), .constantDouble RX3 52 (4621819117588971520), .fieldLink RX3 16 "BottomWalks" "balls" "LBottomWalks$Table;", .methodLink RX3 54 yX3_within, .static yX3_within, .initialized RX3, .code yX3_within cX3_within 6 (some .boolean), .methodLink RX3 132 yX1_put, .instanceMethod yX1_put, .selects RX1 yX1_put yX1_put, .initialized RX1, .code yX1_put cX1_put 7 (some .boolean), .fieldLink RX1 9 "BottomWalks$Table" "starts" "[D", .fieldLink RX1 15 "BottomWalks$Table" "numbers" "[D", .fieldLink RX1 18 "BottomWalks$Table" "rows" "I", .methodLink RX1 22 yX1_rowsUpTo, .instanceMethod yX1_rowsUpTo, .selects RX1 yX1_rowsUpTo yX1_rowsUpTo, .code yX1_rowsUpTo cX1_rowsUpTo 4 (some .int)] ++ wsX30 ++ wsX10)
def wsX3_factor_r1 : List Cond := [Cond.constantDouble RX3 156 (4681608360884174848), Cond.fieldLink RX3 16 "BottomWalks" "balls" "LBottomWalks$Table;", Cond.methodLink RX3 54 yX3_within, Cond.static yX3_within, Cond.initialized RX3, Cond.code yX3_within cX3_within 6 (some .boolean), Cond.methodLink RX3 160 yX1_slopeAt, Cond.instanceMethod yX1_slopeAt, Cond.selects RX1 yX1_slopeAt yX1_slopeAt, Cond.initialized RX1, Cond.code yX1_slopeAt cX1_slopeAt 14 (some .double), Cond.fieldLink RX1 18 "BottomWalks$Table" "rows" "I", Cond.fieldLink RX1 15 "BottomWalks$Table" "numbers" "[D", Cond.fieldLink RX1 9 "BottomWalks$Table" "starts" "[D", Cond.methodLink RX1 22 yX1_rowsUpTo, Cond.instanceMethod yX1_rowsUpTo, Cond.selects RX1 yX1_rowsUpTo yX1_rowsUpTo, Cond.code yX1_rowsUpTo cX1_rowsUpTo 4 (some .int), Cond.methodLink RX1 32 yX1_stepAt, Cond.instanceMethod yX1_stepAt, Cond.selects RX1 yX1_stepAt yX1_stepAt, Cond.code yX1_stepAt cX1_stepAt 5 (some .double), Cond.methodLink RX1 26 Lib.Math.max.name, Cond.static Lib.Math.max.name]
def wsX3_factor_r2 : List Cond := [Cond.initialized "java/lang/Math", Cond.code Lib.Math.max.name Lib.Math.max.code 2 (some .int), Cond.static yX3_over, Cond.code yX3_over cX3_over 4 (some .double)]
def wsX3_factor : List Cond := .code yX3_factor cX3_factor 3 (some .double) :: ((wsX3_factor_r1 ++ wsX3_factor_r2) ++ wsX30 ++ wsX10)
def wsX3_tide : List Cond := .code yX3_tide cX3_tide 4 (some .boolean) :: ([.constantDouble RX3 163 (13849694754071117824), .constantDouble RX3 165 (4626322717216342016), .fieldLink RX3 19 "BottomWalks" "tides" "[D", .methodLink RX3 72 yX3_isPing, .static yX3_isPing, .initialized RX3, .code yX3_isPing cX3_isPing 1 (some .boolean), .methodLink RX3 54 yX3_within, .static yX3_within, .code yX3_within cX3_within 6 (some .boolean)] ++ wsX30)
def wsX3_map_r1 : List Cond := [Cond.constantDouble RX3 170 (13920209183539462144), Cond.constantDouble RX3 172 (4696837146684686336), Cond.constantDouble RX3 83 (13830554455654793216), Cond.fieldLink RX3 44 "BottomWalks" "walk" "LBottomWalks$Walk;", Cond.methodLink RX3 54 yX3_within, Cond.static yX3_within, Cond.initialized RX3, Cond.code yX3_within cX3_within 6 (some .boolean), Cond.methodLink RX3 76 yX2_hasBottom, Cond.instanceMethod yX2_hasBottom, Cond.selects RX2 yX2_hasBottom yX2_hasBottom, Cond.initialized RX2, Cond.code yX2_hasBottom cX2_hasBottom 2 (some .boolean), Cond.methodLink RX2 84 yX2_isWalked, Cond.instanceMethod yX2_isWalked, Cond.selects RX2 yX2_isWalked yX2_isWalked, Cond.code yX2_isWalked cX2_isWalked 2 (some .boolean), Cond.fieldLink RX2 15 "BottomWalks$Walk" "walked" "[Z", Cond.static yX3_isPing, Cond.code yX3_isPing cX3_isPing 1 (some .boolean), Cond.methodLink RX2 87 yX2_isBridge, Cond.instanceMethod yX2_isBridge, Cond.selects RX2 yX2_isBridge yX2_isBridge, Cond.code yX2_isBridge cX2_isBridge 4 (some .boolean)]
def wsX3_map_r2 : List Cond := [Cond.methodLink RX2 72 yX2_neighbour, Cond.instanceMethod yX2_neighbour, Cond.selects RX2 yX2_neighbour yX2_neighbour, Cond.code yX2_neighbour cX2_neighbour 4 (some .int), Cond.methodLink RX3 153 yX3_over, Cond.static yX3_over, Cond.code yX3_over cX3_over 4 (some .double), Cond.methodLink RX3 174 yX3_bottom, Cond.instanceMethod yX3_bottom, Cond.selects RX3 yX3_bottom yX3_bottom, Cond.code yX3_bottom cX3_bottom 2 (some .double), Cond.fieldLink RX3 19 "BottomWalks" "tides" "[D", Cond.methodLink RX3 72 yX3_isPing, Cond.methodLink RX3 79 yX2_depthAt, Cond.instanceMethod yX2_depthAt, Cond.selects RX2 yX2_depthAt yX2_depthAt, Cond.code yX2_depthAt cX2_depthAt 8 (some .double), Cond.methodLink RX2 90 yX2_depthWalked, Cond.instanceMethod yX2_depthWalked, Cond.selects RX2 yX2_depthWalked yX2_depthWalked, Cond.code yX2_depthWalked cX2_depthWalked 2 (some .double), Cond.fieldLink RX2 9 "BottomWalks$Walk" "depthsTold" "[D", Cond.fieldLink RX2 34 "BottomWalks$Walk" "echoes" "LBottomWalks$Echoes;", Cond.methodLink RX2 98 yX2_isEdited]
def wsX3_map_r3 : List Cond := [Cond.instanceMethod yX2_isEdited, Cond.selects RX2 yX2_isEdited yX2_isEdited, Cond.code yX2_isEdited cX2_isEdited 2 (some .boolean), Cond.methodLink RX2 105 yX2_sampleOfRow, Cond.instanceMethod yX2_sampleOfRow, Cond.selects RX2 yX2_sampleOfRow yX2_sampleOfRow, Cond.code yX2_sampleOfRow cX2_sampleOfRow 2 (some .int), Cond.fieldLink RX2 19 "BottomWalks$Walk" "row" "[I", Cond.methodLink RX2 118 yX0_range, Cond.instanceMethod yX0_range, Cond.selects RX0 yX0_range yX0_range, Cond.initialized RX0, Cond.code yX0_range cX0_range 2 (some .double), Cond.fieldLink RX0 40 "BottomWalks$Echoes" "metre" "D"]
def wsX3_map : List Cond := .code yX3_map cX3_map 12 (some .double) :: ((wsX3_map_r1 ++ (wsX3_map_r2 ++ wsX3_map_r3)) ++ wsX30 ++ wsX20 ++ wsX00)
def wsX3_turned : List Cond := .code yX3_turned cX3_turned 4 (some .boolean) :: ([.constantDouble RX3 177 (13854902041140264960), .constantDouble RX3 179 (4631530004285489152), .fieldLink RX3 23 "BottomWalks" "degreesTurned" "[D", .methodLink RX3 72 yX3_isPing, .static yX3_isPing, .initialized RX3, .code yX3_isPing cX3_isPing 1 (some .boolean), .methodLink RX3 54 yX3_within, .static yX3_within, .code yX3_within cX3_within 6 (some .boolean)] ++ wsX30)
def wsX3_empty : List Cond := .code yX3_empty cX3_empty 2 (some .boolean) :: ([.fieldLink RX3 35 "BottomWalks" "echoes" "LBottomWalks$Echoes;", .fieldLink RX3 26 "BottomWalks" "chosen" "I", .methodLink RX3 181 yX0_isSilent, .instanceMethod yX0_isSilent, .selects RX0 yX0_isSilent yX0_isSilent, .initialized RX0, .code yX0_isSilent cX0_isSilent 5 (some .boolean), .fieldLink RX0 34 "BottomWalks$Echoes" "samples" "I", .fieldLink RX0 43 "BottomWalks$Echoes" "values" "[D", .methodLink RX0 55 yX0_placeOf, .instanceMethod yX0_placeOf, .selects RX0 yX0_placeOf yX0_placeOf, .code yX0_placeOf cX0_placeOf 4 (some .int), .static yX3_isFrequency, .initialized RX3, .code yX3_isFrequency cX3_isFrequency 1 (some .boolean), .static yX3_isPing, .code yX3_isPing cX3_isPing 1 (some .boolean), .methodLink RX0 84 yX0_isSample, .instanceMethod yX0_isSample, .selects RX0 yX0_isSample yX0_isSample, .code yX0_isSample cX0_isSample 2 (some .boolean)] ++ wsX30 ++ wsX00)
def wsX4_init : List Cond := .code yX4_init cX4_init 3 none :: ([.methodLink RX4 1 objectInit, .instanceMethod objectInit, .code objectInit ⟨#[0xb1]⟩ 1 none, .arrayClass .double, .fieldLink RX4 7 "BottomWalksModel" "values" "[D", .arrayClass .boolean, .fieldLink RX4 13 "BottomWalksModel" "told" "[Z", .fieldLink RX4 17 "BottomWalksModel" "isLost" "[Z", .fieldLink RX4 20 "BottomWalksModel" "isEdited" "[Z", .fieldLink RX4 23 "BottomWalksModel" "depths" "[D", .fieldLink RX4 26 "BottomWalksModel" "tides" "[D", .fieldLink RX4 29 "BottomWalksModel" "degrees" "[D", .fieldLink RX4 32 "BottomWalksModel" "speedDepths" "[D", .fieldLink RX4 35 "BottomWalksModel" "speedValues" "[D", .fieldLink RX4 38 "BottomWalksModel" "ballDays" "[D", .fieldLink RX4 41 "BottomWalksModel" "ballValues" "[D", .arrayClass .int, .fieldLink RX4 44 "BottomWalksModel" "row" "[I", .arrayClass .long, .fieldLink RX4 48 "BottomWalksModel" "sums" "[J", .fieldLink RX4 52 "BottomWalksModel" "walk" "[I", .fieldLink RX4 55 "BottomWalksModel" "samples" "I", .constantDouble RX4 59 (4593671619917905920), .fieldLink RX4 61 "BottomWalksModel" "metre" "D"] ++ wsX40)
def wsX4_isPing : List Cond := .code yX4_isPing cX4_isPing 1 (some .boolean) :: ([])
def wsX4_isSample : List Cond := .code yX4_isSample cX4_isSample 2 (some .boolean) :: ([.fieldLink RX4 55 "BottomWalksModel" "samples" "I"] ++ wsX40)
def wsX4_within : List Cond := .code yX4_within cX4_within 6 (some .boolean) :: ([])
def wsX4_range : List Cond := .code yX4_range cX4_range 2 (some .double) :: ([.fieldLink RX4 61 "BottomWalksModel" "metre" "D"] ++ wsX40)
def wsX4_value : List Cond := .code yX4_value cX4_value 5 (some .boolean) :: ([.constantDouble RX4 72 (4652007308841189376), .fieldLink RX4 7 "BottomWalksModel" "values" "[D", .fieldLink RX4 78 "BottomWalksModel" "chosen" "I", .fieldLink RX4 13 "BottomWalksModel" "told" "[Z", .methodLink RX4 65 yX4_isPing, .static yX4_isPing, .initialized RX4, .code yX4_isPing cX4_isPing 1 (some .boolean), .methodLink RX4 69 yX4_isSample, .instanceMethod yX4_isSample, .selects RX4 yX4_isSample yX4_isSample, .code yX4_isSample cX4_isSample 2 (some .boolean), .fieldLink RX4 55 "BottomWalksModel" "samples" "I", .methodLink RX4 74 yX4_within, .static yX4_within, .code yX4_within cX4_within 6 (some .boolean)] ++ wsX40)
def wsX4_loss : List Cond := .code yX4_loss cX4_loss 5 (some .boolean) :: ([.constantDouble RX4 81 (4621819117588971520), .fieldLink RX4 83 "BottomWalksModel" "spread" "D", .fieldLink RX4 86 "BottomWalksModel" "absorb" "D", .methodLink RX4 74 yX4_within, .static yX4_within, .initialized RX4, .code yX4_within cX4_within 6 (some .boolean)] ++ wsX40)
def wsX4_noise : List Cond := .code yX4_noise cX4_noise 3 (some .boolean) :: ([.constantDouble RX4 72 (4652007308841189376), .fieldLink RX4 89 "BottomWalksModel" "noise" "D", .methodLink RX4 74 yX4_within, .static yX4_within, .initialized RX4, .code yX4_within cX4_within 6 (some .boolean)] ++ wsX40)
def wsX4_edit : List Cond := .code yX4_edit cX4_edit 4 (some .boolean) :: ([.constantDouble RX4 92 (4666723172467343360), .fieldLink RX4 20 "BottomWalksModel" "isEdited" "[Z", .fieldLink RX4 23 "BottomWalksModel" "depths" "[D", .methodLink RX4 65 yX4_isPing, .static yX4_isPing, .initialized RX4, .code yX4_isPing cX4_isPing 1 (some .boolean), .methodLink RX4 74 yX4_within, .static yX4_within, .code yX4_within cX4_within 6 (some .boolean)] ++ wsX40)
def wsX4_lost : List Cond := .code yX4_lost cX4_lost 2 (some .boolean) :: ([.fieldLink RX4 17 "BottomWalksModel" "isLost" "[Z", .methodLink RX4 65 yX4_isPing, .static yX4_isPing, .initialized RX4, .code yX4_isPing cX4_isPing 1 (some .boolean)] ++ wsX40)
def wsX4_frequency : List Cond := .code yX4_frequency cX4_frequency 2 (some .boolean) :: ([.fieldLink RX4 78 "BottomWalksModel" "chosen" "I"] ++ wsX40)
def wsX4_tide : List Cond := .code yX4_tide cX4_tide 4 (some .boolean) :: ([.constantDouble RX4 94 (13849694754071117824), .constantDouble RX4 96 (4626322717216342016), .fieldLink RX4 26 "BottomWalksModel" "tides" "[D", .methodLink RX4 65 yX4_isPing, .static yX4_isPing, .initialized RX4, .code yX4_isPing cX4_isPing 1 (some .boolean), .methodLink RX4 74 yX4_within, .static yX4_within, .code yX4_within cX4_within 6 (some .boolean)] ++ wsX40)
def wsX4_turned : List Cond := .code yX4_turned cX4_turned 4 (some .boolean) :: ([.constantDouble RX4 98 (13854902041140264960), .constantDouble RX4 100 (4631530004285489152), .fieldLink RX4 29 "BottomWalksModel" "degrees" "[D", .methodLink RX4 65 yX4_isPing, .static yX4_isPing, .initialized RX4, .code yX4_isPing cX4_isPing 1 (some .boolean), .methodLink RX4 74 yX4_within, .static yX4_within, .code yX4_within cX4_within 6 (some .boolean)] ++ wsX40)
def wsX4_strength : List Cond := .code yX4_strength cX4_strength 9 (some .long) :: ([.fieldLink RX4 13 "BottomWalksModel" "told" "[Z", .fieldLink RX4 17 "BottomWalksModel" "isLost" "[Z", .fieldLink RX4 7 "BottomWalksModel" "values" "[D", .fieldLink RX4 83 "BottomWalksModel" "spread" "D", .fieldLink RX4 86 "BottomWalksModel" "absorb" "D", .constantDouble RX4 106 (4562254508917369340), .fieldLink RX4 89 "BottomWalksModel" "noise" "D", .methodLink RX4 102 yX4_range, .instanceMethod yX4_range, .selects RX4 yX4_range yX4_range, .initialized RX4, .code yX4_range cX4_range 2 (some .double), .fieldLink RX4 61 "BottomWalksModel" "metre" "D"] ++ wsX40)
def wsX4_isEmpty : List Cond := .code yX4_isEmpty cX4_isEmpty 4 (some .boolean) :: ([.fieldLink RX4 55 "BottomWalksModel" "samples" "I", .fieldLink RX4 13 "BottomWalksModel" "told" "[Z"] ++ wsX40)
def wsX4_empty : List Cond := .code yX4_empty cX4_empty 2 (some .boolean) :: ([.fieldLink RX4 78 "BottomWalksModel" "chosen" "I", .methodLink RX4 65 yX4_isPing, .static yX4_isPing, .initialized RX4, .code yX4_isPing cX4_isPing 1 (some .boolean), .methodLink RX4 108 yX4_isEmpty, .instanceMethod yX4_isEmpty, .selects RX4 yX4_isEmpty yX4_isEmpty, .code yX4_isEmpty cX4_isEmpty 4 (some .boolean), .fieldLink RX4 55 "BottomWalksModel" "samples" "I", .fieldLink RX4 13 "BottomWalksModel" "told" "[Z"] ++ wsX40)
def wsX4_counting : List Cond := .code yX4_counting cX4_counting 3 (some .int) :: ([.fieldLink RX4 55 "BottomWalksModel" "samples" "I", .fieldLink RX4 23 "BottomWalksModel" "depths" "[D", .methodLink RX4 102 yX4_range, .instanceMethod yX4_range, .selects RX4 yX4_range yX4_range, .initialized RX4, .code yX4_range cX4_range 2 (some .double), .fieldLink RX4 61 "BottomWalksModel" "metre" "D"] ++ wsX40)
def wsX4_mayStand : List Cond := .code yX4_mayStand cX4_mayStand 3 (some .boolean) :: ([.fieldLink RX4 20 "BottomWalksModel" "isEdited" "[Z", .methodLink RX4 112 yX4_counting, .instanceMethod yX4_counting, .selects RX4 yX4_counting yX4_counting, .initialized RX4, .code yX4_counting cX4_counting 3 (some .int), .fieldLink RX4 55 "BottomWalksModel" "samples" "I", .fieldLink RX4 23 "BottomWalksModel" "depths" "[D", .methodLink RX4 102 yX4_range, .instanceMethod yX4_range, .selects RX4 yX4_range yX4_range, .code yX4_range cX4_range 2 (some .double), .fieldLink RX4 61 "BottomWalksModel" "metre" "D"] ++ wsX40)
def wsX4_mayFollow : List Cond := .code yX4_mayFollow cX4_mayFollow 7 (some .boolean) :: ([.fieldLink RX4 20 "BottomWalksModel" "isEdited" "[Z"] ++ wsX40)
def wsX4_bestBefore : List Cond := .code yX4_bestBefore cX4_bestBefore 9 (some .long) :: ([.constantLong RX4 116 (-1), .fieldLink RX4 55 "BottomWalksModel" "samples" "I", .fieldLink RX4 48 "BottomWalksModel" "sums" "[J", .fieldLink RX4 52 "BottomWalksModel" "walk" "[I", .methodLink RX4 118 yX4_mayFollow, .instanceMethod yX4_mayFollow, .selects RX4 yX4_mayFollow yX4_mayFollow, .initialized RX4, .code yX4_mayFollow cX4_mayFollow 7 (some .boolean), .fieldLink RX4 20 "BottomWalksModel" "isEdited" "[Z"] ++ wsX40)
def wsX4_run_r1 : List Cond := [Cond.fieldLink RX4 20 "BottomWalksModel" "isEdited" "[Z", Cond.fieldLink RX4 17 "BottomWalksModel" "isLost" "[Z", Cond.fieldLink RX4 78 "BottomWalksModel" "chosen" "I", Cond.fieldLink RX4 52 "BottomWalksModel" "walk" "[I", Cond.fieldLink RX4 55 "BottomWalksModel" "samples" "I", Cond.constantLong RX4 116 (-1), Cond.fieldLink RX4 48 "BottomWalksModel" "sums" "[J", Cond.fieldLink RX4 44 "BottomWalksModel" "row" "[I", Cond.fieldLink RX4 132 "BottomWalksModel" "hasRun" "Z", Cond.fieldLink RX4 136 "BottomWalksModel" "runOf" "I", Cond.methodLink RX4 108 yX4_isEmpty, Cond.instanceMethod yX4_isEmpty, Cond.selects RX4 yX4_isEmpty yX4_isEmpty, Cond.initialized RX4, Cond.code yX4_isEmpty cX4_isEmpty 4 (some .boolean), Cond.fieldLink RX4 13 "BottomWalksModel" "told" "[Z", Cond.methodLink RX4 122 yX4_mayStand, Cond.instanceMethod yX4_mayStand, Cond.selects RX4 yX4_mayStand yX4_mayStand, Cond.code yX4_mayStand cX4_mayStand 3 (some .boolean), Cond.methodLink RX4 112 yX4_counting, Cond.instanceMethod yX4_counting, Cond.selects RX4 yX4_counting yX4_counting, Cond.code yX4_counting cX4_counting 3 (some .int)]
def wsX4_run_r2 : List Cond := [Cond.fieldLink RX4 23 "BottomWalksModel" "depths" "[D", Cond.methodLink RX4 102 yX4_range, Cond.instanceMethod yX4_range, Cond.selects RX4 yX4_range yX4_range, Cond.code yX4_range cX4_range 2 (some .double), Cond.fieldLink RX4 61 "BottomWalksModel" "metre" "D", Cond.methodLink RX4 125 yX4_bestBefore, Cond.instanceMethod yX4_bestBefore, Cond.selects RX4 yX4_bestBefore yX4_bestBefore, Cond.code yX4_bestBefore cX4_bestBefore 9 (some .long), Cond.methodLink RX4 118 yX4_mayFollow, Cond.instanceMethod yX4_mayFollow, Cond.selects RX4 yX4_mayFollow yX4_mayFollow, Cond.code yX4_mayFollow cX4_mayFollow 7 (some .boolean), Cond.methodLink RX4 129 yX4_strength, Cond.instanceMethod yX4_strength, Cond.selects RX4 yX4_strength yX4_strength, Cond.code yX4_strength cX4_strength 9 (some .long), Cond.fieldLink RX4 7 "BottomWalksModel" "values" "[D", Cond.fieldLink RX4 83 "BottomWalksModel" "spread" "D", Cond.fieldLink RX4 86 "BottomWalksModel" "absorb" "D", Cond.constantDouble RX4 106 (4562254508917369340), Cond.fieldLink RX4 89 "BottomWalksModel" "noise" "D"]
def wsX4_run : List Cond := .code yX4_run cX4_run 11 (some .int) :: ((wsX4_run_r1 ++ wsX4_run_r2) ++ wsX40)
def wsX4_greatest : List Cond := .code yX4_greatest cX4_greatest 1 (some .boolean) :: ([.fieldLink RX4 132 "BottomWalksModel" "hasRun" "Z"] ++ wsX40)
def wsX4_isWalked : List Cond := .code yX4_isWalked cX4_isWalked 2 (some .boolean) :: ([.fieldLink RX4 132 "BottomWalksModel" "hasRun" "Z", .fieldLink RX4 44 "BottomWalksModel" "row" "[I", .methodLink RX4 65 yX4_isPing, .static yX4_isPing, .initialized RX4, .code yX4_isPing cX4_isPing 1 (some .boolean)] ++ wsX40)
def wsX4_walkedDepth : List Cond := .code yX4_walkedDepth cX4_walkedDepth 2 (some .double) :: ([.fieldLink RX4 20 "BottomWalksModel" "isEdited" "[Z", .fieldLink RX4 23 "BottomWalksModel" "depths" "[D", .fieldLink RX4 44 "BottomWalksModel" "row" "[I", .methodLink RX4 102 yX4_range, .instanceMethod yX4_range, .selects RX4 yX4_range yX4_range, .initialized RX4, .code yX4_range cX4_range 2 (some .double), .fieldLink RX4 61 "BottomWalksModel" "metre" "D"] ++ wsX40)
def wsX4_neighbour : List Cond := .code yX4_neighbour cX4_neighbour 4 (some .int) :: ([.methodLink RX4 65 yX4_isPing, .static yX4_isPing, .initialized RX4, .code yX4_isPing cX4_isPing 1 (some .boolean), .methodLink RX4 139 yX4_isWalked, .instanceMethod yX4_isWalked, .selects RX4 yX4_isWalked yX4_isWalked, .code yX4_isWalked cX4_isWalked 2 (some .boolean), .fieldLink RX4 132 "BottomWalksModel" "hasRun" "Z", .fieldLink RX4 44 "BottomWalksModel" "row" "[I"] ++ wsX40)
def wsX4_isBridged : List Cond := .code yX4_isBridged cX4_isBridged 4 (some .boolean) :: ([.fieldLink RX4 132 "BottomWalksModel" "hasRun" "Z", .methodLink RX4 65 yX4_isPing, .static yX4_isPing, .initialized RX4, .code yX4_isPing cX4_isPing 1 (some .boolean), .methodLink RX4 139 yX4_isWalked, .instanceMethod yX4_isWalked, .selects RX4 yX4_isWalked yX4_isWalked, .code yX4_isWalked cX4_isWalked 2 (some .boolean), .fieldLink RX4 44 "BottomWalksModel" "row" "[I", .methodLink RX4 142 yX4_neighbour, .instanceMethod yX4_neighbour, .selects RX4 yX4_neighbour yX4_neighbour, .code yX4_neighbour cX4_neighbour 4 (some .int)] ++ wsX40)
def wsX4_hasBottom : List Cond := .code yX4_hasBottom cX4_hasBottom 2 (some .boolean) :: ([.methodLink RX4 139 yX4_isWalked, .instanceMethod yX4_isWalked, .selects RX4 yX4_isWalked yX4_isWalked, .initialized RX4, .code yX4_isWalked cX4_isWalked 2 (some .boolean), .fieldLink RX4 132 "BottomWalksModel" "hasRun" "Z", .fieldLink RX4 44 "BottomWalksModel" "row" "[I", .methodLink RX4 65 yX4_isPing, .static yX4_isPing, .code yX4_isPing cX4_isPing 1 (some .boolean), .methodLink RX4 146 yX4_isBridged, .instanceMethod yX4_isBridged, .selects RX4 yX4_isBridged yX4_isBridged, .code yX4_isBridged cX4_isBridged 4 (some .boolean), .methodLink RX4 142 yX4_neighbour, .instanceMethod yX4_neighbour, .selects RX4 yX4_neighbour yX4_neighbour, .code yX4_neighbour cX4_neighbour 4 (some .int)] ++ wsX40)
def wsX4_plainBottom_r1 : List Cond := [Cond.methodLink RX4 139 yX4_isWalked, Cond.instanceMethod yX4_isWalked, Cond.selects RX4 yX4_isWalked yX4_isWalked, Cond.initialized RX4, Cond.code yX4_isWalked cX4_isWalked 2 (some .boolean), Cond.fieldLink RX4 132 "BottomWalksModel" "hasRun" "Z", Cond.fieldLink RX4 44 "BottomWalksModel" "row" "[I", Cond.methodLink RX4 65 yX4_isPing, Cond.static yX4_isPing, Cond.code yX4_isPing cX4_isPing 1 (some .boolean), Cond.methodLink RX4 149 yX4_walkedDepth, Cond.instanceMethod yX4_walkedDepth, Cond.selects RX4 yX4_walkedDepth yX4_walkedDepth, Cond.code yX4_walkedDepth cX4_walkedDepth 2 (some .double), Cond.fieldLink RX4 20 "BottomWalksModel" "isEdited" "[Z", Cond.fieldLink RX4 23 "BottomWalksModel" "depths" "[D", Cond.methodLink RX4 102 yX4_range, Cond.instanceMethod yX4_range, Cond.selects RX4 yX4_range yX4_range, Cond.code yX4_range cX4_range 2 (some .double), Cond.fieldLink RX4 61 "BottomWalksModel" "metre" "D", Cond.methodLink RX4 142 yX4_neighbour, Cond.instanceMethod yX4_neighbour, Cond.selects RX4 yX4_neighbour yX4_neighbour]
def wsX4_plainBottom_r2 : List Cond := [Cond.code yX4_neighbour cX4_neighbour 4 (some .int)]
def wsX4_plainBottom : List Cond := .code yX4_plainBottom cX4_plainBottom 10 (some .double) :: ((wsX4_plainBottom_r1 ++ wsX4_plainBottom_r2) ++ wsX40)
def wsX4_bottom_r1 : List Cond := [Cond.fieldLink RX4 26 "BottomWalksModel" "tides" "[D", Cond.constantDouble RX4 158 (13830554455654793216), Cond.methodLink RX4 152 yX4_hasBottom, Cond.instanceMethod yX4_hasBottom, Cond.selects RX4 yX4_hasBottom yX4_hasBottom, Cond.initialized RX4, Cond.code yX4_hasBottom cX4_hasBottom 2 (some .boolean), Cond.methodLink RX4 139 yX4_isWalked, Cond.instanceMethod yX4_isWalked, Cond.selects RX4 yX4_isWalked yX4_isWalked, Cond.code yX4_isWalked cX4_isWalked 2 (some .boolean), Cond.fieldLink RX4 132 "BottomWalksModel" "hasRun" "Z", Cond.fieldLink RX4 44 "BottomWalksModel" "row" "[I", Cond.methodLink RX4 65 yX4_isPing, Cond.static yX4_isPing, Cond.code yX4_isPing cX4_isPing 1 (some .boolean), Cond.methodLink RX4 146 yX4_isBridged, Cond.instanceMethod yX4_isBridged, Cond.selects RX4 yX4_isBridged yX4_isBridged, Cond.code yX4_isBridged cX4_isBridged 4 (some .boolean), Cond.methodLink RX4 142 yX4_neighbour, Cond.instanceMethod yX4_neighbour, Cond.selects RX4 yX4_neighbour yX4_neighbour, Cond.code yX4_neighbour cX4_neighbour 4 (some .int)]
def wsX4_bottom_r2 : List Cond := [Cond.methodLink RX4 155 yX4_plainBottom, Cond.instanceMethod yX4_plainBottom, Cond.selects RX4 yX4_plainBottom yX4_plainBottom, Cond.code yX4_plainBottom cX4_plainBottom 10 (some .double), Cond.methodLink RX4 149 yX4_walkedDepth, Cond.instanceMethod yX4_walkedDepth, Cond.selects RX4 yX4_walkedDepth yX4_walkedDepth, Cond.code yX4_walkedDepth cX4_walkedDepth 2 (some .double), Cond.fieldLink RX4 20 "BottomWalksModel" "isEdited" "[Z", Cond.fieldLink RX4 23 "BottomWalksModel" "depths" "[D", Cond.methodLink RX4 102 yX4_range, Cond.instanceMethod yX4_range, Cond.selects RX4 yX4_range yX4_range, Cond.code yX4_range cX4_range 2 (some .double), Cond.fieldLink RX4 61 "BottomWalksModel" "metre" "D"]
def wsX4_bottom : List Cond := .code yX4_bottom cX4_bottom 2 (some .double) :: ((wsX4_bottom_r1 ++ wsX4_bottom_r2) ++ wsX40)
def wsX4_bridged : List Cond := .code yX4_bridged cX4_bridged 4 (some .int) :: ([.methodLink RX4 146 yX4_isBridged, .instanceMethod yX4_isBridged, .selects RX4 yX4_isBridged yX4_isBridged, .initialized RX4, .code yX4_isBridged cX4_isBridged 4 (some .boolean), .fieldLink RX4 132 "BottomWalksModel" "hasRun" "Z", .methodLink RX4 65 yX4_isPing, .static yX4_isPing, .code yX4_isPing cX4_isPing 1 (some .boolean), .methodLink RX4 139 yX4_isWalked, .instanceMethod yX4_isWalked, .selects RX4 yX4_isWalked yX4_isWalked, .code yX4_isWalked cX4_isWalked 2 (some .boolean), .fieldLink RX4 44 "BottomWalksModel" "row" "[I", .methodLink RX4 142 yX4_neighbour, .instanceMethod yX4_neighbour, .selects RX4 yX4_neighbour yX4_neighbour, .code yX4_neighbour cX4_neighbour 4 (some .int)] ++ wsX40)
def wsX4_dead_r1 : List Cond := [Cond.constantDouble RX4 160 (4602678819172646912), Cond.fieldLink RX4 61 "BottomWalksModel" "metre" "D", Cond.constantDouble RX4 162 (4581421828931458171), Cond.constantDouble RX4 158 (13830554455654793216), Cond.methodLink RX4 152 yX4_hasBottom, Cond.instanceMethod yX4_hasBottom, Cond.selects RX4 yX4_hasBottom yX4_hasBottom, Cond.initialized RX4, Cond.code yX4_hasBottom cX4_hasBottom 2 (some .boolean), Cond.methodLink RX4 139 yX4_isWalked, Cond.instanceMethod yX4_isWalked, Cond.selects RX4 yX4_isWalked yX4_isWalked, Cond.code yX4_isWalked cX4_isWalked 2 (some .boolean), Cond.fieldLink RX4 132 "BottomWalksModel" "hasRun" "Z", Cond.fieldLink RX4 44 "BottomWalksModel" "row" "[I", Cond.methodLink RX4 65 yX4_isPing, Cond.static yX4_isPing, Cond.code yX4_isPing cX4_isPing 1 (some .boolean), Cond.methodLink RX4 146 yX4_isBridged, Cond.instanceMethod yX4_isBridged, Cond.selects RX4 yX4_isBridged yX4_isBridged, Cond.code yX4_isBridged cX4_isBridged 4 (some .boolean), Cond.methodLink RX4 142 yX4_neighbour, Cond.instanceMethod yX4_neighbour]
def wsX4_dead_r2 : List Cond := [Cond.selects RX4 yX4_neighbour yX4_neighbour, Cond.code yX4_neighbour cX4_neighbour 4 (some .int), Cond.methodLink RX4 155 yX4_plainBottom, Cond.instanceMethod yX4_plainBottom, Cond.selects RX4 yX4_plainBottom yX4_plainBottom, Cond.code yX4_plainBottom cX4_plainBottom 10 (some .double), Cond.methodLink RX4 149 yX4_walkedDepth, Cond.instanceMethod yX4_walkedDepth, Cond.selects RX4 yX4_walkedDepth yX4_walkedDepth, Cond.code yX4_walkedDepth cX4_walkedDepth 2 (some .double), Cond.fieldLink RX4 20 "BottomWalksModel" "isEdited" "[Z", Cond.fieldLink RX4 23 "BottomWalksModel" "depths" "[D", Cond.methodLink RX4 102 yX4_range, Cond.instanceMethod yX4_range, Cond.selects RX4 yX4_range yX4_range, Cond.code yX4_range cX4_range 2 (some .double)]
def wsX4_dead : List Cond := .code yX4_dead cX4_dead 2 (some .double) :: ((wsX4_dead_r1 ++ wsX4_dead_r2) ++ wsX40)
def wsX4_surface : List Cond := .code yX4_surface cX4_surface 3 (some .double) :: ([.constantDouble RX4 158 (13830554455654793216), .fieldLink RX4 55 "BottomWalksModel" "samples" "I", .fieldLink RX4 78 "BottomWalksModel" "chosen" "I", .constantLong RX4 164 (500), .fieldLink RX4 61 "BottomWalksModel" "metre" "D", .methodLink RX4 65 yX4_isPing, .static yX4_isPing, .initialized RX4, .code yX4_isPing cX4_isPing 1 (some .boolean), .methodLink RX4 129 yX4_strength, .instanceMethod yX4_strength, .selects RX4 yX4_strength yX4_strength, .code yX4_strength cX4_strength 9 (some .long), .fieldLink RX4 13 "BottomWalksModel" "told" "[Z", .fieldLink RX4 17 "BottomWalksModel" "isLost" "[Z", .fieldLink RX4 7 "BottomWalksModel" "values" "[D", .fieldLink RX4 83 "BottomWalksModel" "spread" "D", .fieldLink RX4 86 "BottomWalksModel" "absorb" "D", .constantDouble RX4 106 (4562254508917369340), .fieldLink RX4 89 "BottomWalksModel" "noise" "D", .methodLink RX4 102 yX4_range, .instanceMethod yX4_range, .selects RX4 yX4_range yX4_range, .code yX4_range cX4_range 2 (some .double)] ++ wsX40)
def wsX4_tail_r1 : List Cond := [Cond.constantDouble RX4 158 (13830554455654793216), Cond.fieldLink RX4 20 "BottomWalksModel" "isEdited" "[Z", Cond.fieldLink RX4 44 "BottomWalksModel" "row" "[I", Cond.fieldLink RX4 55 "BottomWalksModel" "samples" "I", Cond.fieldLink RX4 136 "BottomWalksModel" "runOf" "I", Cond.methodLink RX4 139 yX4_isWalked, Cond.instanceMethod yX4_isWalked, Cond.selects RX4 yX4_isWalked yX4_isWalked, Cond.initialized RX4, Cond.code yX4_isWalked cX4_isWalked 2 (some .boolean), Cond.fieldLink RX4 132 "BottomWalksModel" "hasRun" "Z", Cond.methodLink RX4 65 yX4_isPing, Cond.static yX4_isPing, Cond.code yX4_isPing cX4_isPing 1 (some .boolean), Cond.methodLink RX4 112 yX4_counting, Cond.instanceMethod yX4_counting, Cond.selects RX4 yX4_counting yX4_counting, Cond.code yX4_counting cX4_counting 3 (some .int), Cond.fieldLink RX4 23 "BottomWalksModel" "depths" "[D", Cond.methodLink RX4 102 yX4_range, Cond.instanceMethod yX4_range, Cond.selects RX4 yX4_range yX4_range, Cond.code yX4_range cX4_range 2 (some .double), Cond.fieldLink RX4 61 "BottomWalksModel" "metre" "D"]
def wsX4_tail_r2 : List Cond := [Cond.methodLink RX4 129 yX4_strength, Cond.instanceMethod yX4_strength, Cond.selects RX4 yX4_strength yX4_strength, Cond.code yX4_strength cX4_strength 9 (some .long), Cond.fieldLink RX4 13 "BottomWalksModel" "told" "[Z", Cond.fieldLink RX4 17 "BottomWalksModel" "isLost" "[Z", Cond.fieldLink RX4 7 "BottomWalksModel" "values" "[D", Cond.fieldLink RX4 83 "BottomWalksModel" "spread" "D", Cond.fieldLink RX4 86 "BottomWalksModel" "absorb" "D", Cond.constantDouble RX4 106 (4562254508917369340), Cond.fieldLink RX4 89 "BottomWalksModel" "noise" "D"]
def wsX4_tail : List Cond := .code yX4_tail cX4_tail 6 (some .double) :: ((wsX4_tail_r1 ++ wsX4_tail_r2) ++ wsX40)
def wsX4_kind_r1 : List Cond := [Cond.constantDouble RX4 158 (13830554455654793216), Cond.constantDouble RX4 169 (4641240890982006784), Cond.constantDouble RX4 171 (4656510908468559872), Cond.methodLink RX4 166 yX4_tail, Cond.instanceMethod yX4_tail, Cond.selects RX4 yX4_tail yX4_tail, Cond.initialized RX4, Cond.code yX4_tail cX4_tail 6 (some .double), Cond.fieldLink RX4 20 "BottomWalksModel" "isEdited" "[Z", Cond.fieldLink RX4 44 "BottomWalksModel" "row" "[I", Cond.fieldLink RX4 55 "BottomWalksModel" "samples" "I", Cond.fieldLink RX4 136 "BottomWalksModel" "runOf" "I", Cond.methodLink RX4 139 yX4_isWalked, Cond.instanceMethod yX4_isWalked, Cond.selects RX4 yX4_isWalked yX4_isWalked, Cond.code yX4_isWalked cX4_isWalked 2 (some .boolean), Cond.fieldLink RX4 132 "BottomWalksModel" "hasRun" "Z", Cond.methodLink RX4 65 yX4_isPing, Cond.static yX4_isPing, Cond.code yX4_isPing cX4_isPing 1 (some .boolean), Cond.methodLink RX4 112 yX4_counting, Cond.instanceMethod yX4_counting, Cond.selects RX4 yX4_counting yX4_counting, Cond.code yX4_counting cX4_counting 3 (some .int)]
def wsX4_kind_r2 : List Cond := [Cond.fieldLink RX4 23 "BottomWalksModel" "depths" "[D", Cond.methodLink RX4 102 yX4_range, Cond.instanceMethod yX4_range, Cond.selects RX4 yX4_range yX4_range, Cond.code yX4_range cX4_range 2 (some .double), Cond.fieldLink RX4 61 "BottomWalksModel" "metre" "D", Cond.methodLink RX4 129 yX4_strength, Cond.instanceMethod yX4_strength, Cond.selects RX4 yX4_strength yX4_strength, Cond.code yX4_strength cX4_strength 9 (some .long), Cond.fieldLink RX4 13 "BottomWalksModel" "told" "[Z", Cond.fieldLink RX4 17 "BottomWalksModel" "isLost" "[Z", Cond.fieldLink RX4 7 "BottomWalksModel" "values" "[D", Cond.fieldLink RX4 83 "BottomWalksModel" "spread" "D", Cond.fieldLink RX4 86 "BottomWalksModel" "absorb" "D", Cond.constantDouble RX4 106 (4562254508917369340), Cond.fieldLink RX4 89 "BottomWalksModel" "noise" "D"]
def wsX4_kind : List Cond := .code yX4_kind cX4_kind 4 (some .int) :: ((wsX4_kind_r1 ++ wsX4_kind_r2) ++ wsX40)
def wsX4_insert : List Cond := .code yX4_insert cX4_insert 9 (some .int) :: ([])
def wsX4_speed : List Cond := .code yX4_speed cX4_speed 6 (some .boolean) :: ([.constantDouble RX4 92 (4666723172467343360), .constantDouble RX4 173 (4653432275910787072), .constantDouble RX4 175 (4655191494515228672), .fieldLink RX4 32 "BottomWalksModel" "speedDepths" "[D", .fieldLink RX4 35 "BottomWalksModel" "speedValues" "[D", .fieldLink RX4 177 "BottomWalksModel" "speeds" "I", .methodLink RX4 74 yX4_within, .static yX4_within, .initialized RX4, .code yX4_within cX4_within 6 (some .boolean), .methodLink RX4 180 yX4_insert, .static yX4_insert, .code yX4_insert cX4_insert 9 (some .int)] ++ wsX40)
def wsX4_ball : List Cond := .code yX4_ball cX4_ball 6 (some .boolean) :: ([.constantDouble RX4 184 (4681608360884174848), .constantDouble RX4 186 (4591870180066957722), .constantDouble RX4 81 (4621819117588971520), .fieldLink RX4 38 "BottomWalksModel" "ballDays" "[D", .fieldLink RX4 41 "BottomWalksModel" "ballValues" "[D", .fieldLink RX4 188 "BottomWalksModel" "balls" "I", .methodLink RX4 74 yX4_within, .static yX4_within, .initialized RX4, .code yX4_within cX4_within 6 (some .boolean), .methodLink RX4 180 yX4_insert, .static yX4_insert, .code yX4_insert cX4_insert 9 (some .int)] ++ wsX40)
def wsX4_speedAt : List Cond := .code yX4_speedAt cX4_speedAt 4 (some .double) :: ([.fieldLink RX4 177 "BottomWalksModel" "speeds" "I", .constantDouble RX4 191 (4654311885213007872), .fieldLink RX4 32 "BottomWalksModel" "speedDepths" "[D", .fieldLink RX4 35 "BottomWalksModel" "speedValues" "[D"] ++ wsX40)
def wsX4_bent : List Cond := .code yX4_bent cX4_bent 7 (some .double) :: ([.constantDouble RX4 158 (13830554455654793216), .fieldLink RX4 61 "BottomWalksModel" "metre" "D", .constantDouble RX4 191 (4654311885213007872), .constantDouble RX4 197 (4580687790476533049), .fieldLink RX4 29 "BottomWalksModel" "degrees" "[D", .constantDouble RX4 160 (4602678819172646912), .fieldLink RX4 26 "BottomWalksModel" "tides" "[D", .methodLink RX4 65 yX4_isPing, .static yX4_isPing, .initialized RX4, .code yX4_isPing cX4_isPing 1 (some .boolean), .methodLink RX4 69 yX4_isSample, .instanceMethod yX4_isSample, .selects RX4 yX4_isSample yX4_isSample, .code yX4_isSample cX4_isSample 2 (some .boolean), .fieldLink RX4 55 "BottomWalksModel" "samples" "I", .methodLink RX4 193 yX4_speedAt, .instanceMethod yX4_speedAt, .selects RX4 yX4_speedAt yX4_speedAt, .code yX4_speedAt cX4_speedAt 4 (some .double), .fieldLink RX4 177 "BottomWalksModel" "speeds" "I", .fieldLink RX4 32 "BottomWalksModel" "speedDepths" "[D", .fieldLink RX4 35 "BottomWalksModel" "speedValues" "[D"] ++ wsX40)
def wsX4_joined_r1 : List Cond := [Cond.constantDouble RX4 158 (13830554455654793216), Cond.fieldLink RX4 55 "BottomWalksModel" "samples" "I", Cond.methodLink RX4 65 yX4_isPing, Cond.static yX4_isPing, Cond.initialized RX4, Cond.code yX4_isPing cX4_isPing 1 (some .boolean), Cond.methodLink RX4 69 yX4_isSample, Cond.instanceMethod yX4_isSample, Cond.selects RX4 yX4_isSample yX4_isSample, Cond.code yX4_isSample cX4_isSample 2 (some .boolean), Cond.methodLink RX4 129 yX4_strength, Cond.instanceMethod yX4_strength, Cond.selects RX4 yX4_strength yX4_strength, Cond.code yX4_strength cX4_strength 9 (some .long), Cond.fieldLink RX4 13 "BottomWalksModel" "told" "[Z", Cond.fieldLink RX4 17 "BottomWalksModel" "isLost" "[Z", Cond.fieldLink RX4 7 "BottomWalksModel" "values" "[D", Cond.fieldLink RX4 83 "BottomWalksModel" "spread" "D", Cond.fieldLink RX4 86 "BottomWalksModel" "absorb" "D", Cond.constantDouble RX4 106 (4562254508917369340), Cond.fieldLink RX4 89 "BottomWalksModel" "noise" "D", Cond.methodLink RX4 102 yX4_range, Cond.instanceMethod yX4_range, Cond.selects RX4 yX4_range yX4_range]
def wsX4_joined_r2 : List Cond := [Cond.code yX4_range cX4_range 2 (some .double), Cond.fieldLink RX4 61 "BottomWalksModel" "metre" "D"]
def wsX4_joined : List Cond := .code yX4_joined cX4_joined 12 (some .double) :: ((wsX4_joined_r1 ++ wsX4_joined_r2) ++ wsX40)
def wsX4_factor : List Cond := .code yX4_factor cX4_factor 12 (some .double) :: ([.fieldLink RX4 188 "BottomWalksModel" "balls" "I", .constantDouble RX4 184 (4681608360884174848), .fieldLink RX4 38 "BottomWalksModel" "ballDays" "[D", .fieldLink RX4 41 "BottomWalksModel" "ballValues" "[D", .methodLink RX4 74 yX4_within, .static yX4_within, .initialized RX4, .code yX4_within cX4_within 6 (some .boolean)] ++ wsX40)
def wsX4_map_r1 : List Cond := [Cond.constantDouble RX4 199 (13920209183539462144), Cond.constantDouble RX4 201 (4696837146684686336), Cond.constantDouble RX4 158 (13830554455654793216), Cond.methodLink RX4 74 yX4_within, Cond.static yX4_within, Cond.initialized RX4, Cond.code yX4_within cX4_within 6 (some .boolean), Cond.methodLink RX4 152 yX4_hasBottom, Cond.instanceMethod yX4_hasBottom, Cond.selects RX4 yX4_hasBottom yX4_hasBottom, Cond.code yX4_hasBottom cX4_hasBottom 2 (some .boolean), Cond.methodLink RX4 139 yX4_isWalked, Cond.instanceMethod yX4_isWalked, Cond.selects RX4 yX4_isWalked yX4_isWalked, Cond.code yX4_isWalked cX4_isWalked 2 (some .boolean), Cond.fieldLink RX4 132 "BottomWalksModel" "hasRun" "Z", Cond.fieldLink RX4 44 "BottomWalksModel" "row" "[I", Cond.methodLink RX4 65 yX4_isPing, Cond.static yX4_isPing, Cond.code yX4_isPing cX4_isPing 1 (some .boolean), Cond.methodLink RX4 146 yX4_isBridged, Cond.instanceMethod yX4_isBridged, Cond.selects RX4 yX4_isBridged yX4_isBridged, Cond.code yX4_isBridged cX4_isBridged 4 (some .boolean)]
def wsX4_map_r2 : List Cond := [Cond.methodLink RX4 142 yX4_neighbour, Cond.instanceMethod yX4_neighbour, Cond.selects RX4 yX4_neighbour yX4_neighbour, Cond.code yX4_neighbour cX4_neighbour 4 (some .int), Cond.methodLink RX4 203 yX4_bottom, Cond.instanceMethod yX4_bottom, Cond.selects RX4 yX4_bottom yX4_bottom, Cond.code yX4_bottom cX4_bottom 2 (some .double), Cond.fieldLink RX4 26 "BottomWalksModel" "tides" "[D", Cond.methodLink RX4 155 yX4_plainBottom, Cond.instanceMethod yX4_plainBottom, Cond.selects RX4 yX4_plainBottom yX4_plainBottom, Cond.code yX4_plainBottom cX4_plainBottom 10 (some .double), Cond.methodLink RX4 149 yX4_walkedDepth, Cond.instanceMethod yX4_walkedDepth, Cond.selects RX4 yX4_walkedDepth yX4_walkedDepth, Cond.code yX4_walkedDepth cX4_walkedDepth 2 (some .double), Cond.fieldLink RX4 20 "BottomWalksModel" "isEdited" "[Z", Cond.fieldLink RX4 23 "BottomWalksModel" "depths" "[D", Cond.methodLink RX4 102 yX4_range, Cond.instanceMethod yX4_range, Cond.selects RX4 yX4_range yX4_range, Cond.code yX4_range cX4_range 2 (some .double), Cond.fieldLink RX4 61 "BottomWalksModel" "metre" "D"]
def wsX4_map : List Cond := .code yX4_map cX4_map 13 (some .double) :: ((wsX4_map_r1 ++ wsX4_map_r2) ++ wsX40)
def wsJ9_max_7cf53 : List Cond := .code yJ9_max_7cf53 cJ9_max_7cf53 2 (some .int) :: ([])
def wsJ9_max_f86c9 : List Cond := .code yJ9_max_f86c9 cJ9_max_f86c9 4 (some .long) :: ([])
def wsJ9_min_7cf53 : List Cond := .code yJ9_min_7cf53 cJ9_min_7cf53 2 (some .int) :: ([])
def wsL_cell : List Cond := .code yL_cell cL_cell 2 (some .int) :: ([])
def wsL_law_r1 : List Cond := [Cond.classLink RL 7 RX3, Cond.instantiable RX3 7, Cond.initialized RX3, Cond.classLink RL 18 RX4, Cond.instantiable RX4 24, Cond.initialized RX4, Cond.constantDouble RL 21 (4593671619917905920), Cond.methodLink RL 9 yL_cell, Cond.static yL_cell, Cond.initialized RL, Cond.code yL_cell cL_cell 2 (some .int), Cond.methodLink RL 15 yX3_init, Cond.instanceMethod yX3_init, Cond.code yX3_init cX3_init 3 none, Cond.methodLink RX3 1 objectInit, Cond.instanceMethod objectInit, Cond.code objectInit ⟨#[0xb1]⟩ 1 none, Cond.classLink RX3 7 RX1, Cond.instantiable RX1 3, Cond.initialized RX1, Cond.fieldLink RX3 10 "BottomWalks" "speeds" "LBottomWalks$Table;", Cond.fieldLink RX3 16 "BottomWalks" "balls" "LBottomWalks$Table;", Cond.arrayClass .double, Cond.fieldLink RX3 19 "BottomWalks" "tides" "[D"]
def wsL_law_r2 : List Cond := [Cond.fieldLink RX3 23 "BottomWalks" "degreesTurned" "[D", Cond.fieldLink RX3 26 "BottomWalks" "chosen" "I", Cond.classLink RX3 30 RX0, Cond.instantiable RX0 7, Cond.initialized RX0, Cond.fieldLink RX3 35 "BottomWalks" "echoes" "LBottomWalks$Echoes;", Cond.classLink RX3 39 RX2, Cond.instantiable RX2 8, Cond.initialized RX2, Cond.fieldLink RX3 44 "BottomWalks" "walk" "LBottomWalks$Walk;", Cond.instanceMethod yX1_init, Cond.code yX1_init cX1_init 1 none, Cond.methodLink RX1 3 objectInit, Cond.fieldLink RX1 9 "BottomWalks$Table" "starts" "[D", Cond.fieldLink RX1 15 "BottomWalks$Table" "numbers" "[D", Cond.fieldLink RX1 18 "BottomWalks$Table" "rows" "I", Cond.methodLink RX3 32 yX0_init, Cond.instanceMethod yX0_init, Cond.code yX0_init cX0_init 3 none, Cond.methodLink RX0 3 objectInit, Cond.arrayClass .boolean, Cond.fieldLink RX0 9 "BottomWalks$Echoes" "lostPings" "[Z", Cond.fieldLink RX0 15 "BottomWalks$Echoes" "spread" "D", Cond.fieldLink RX0 19 "BottomWalks$Echoes" "absorb" "D"]
def wsL_law_r3 : List Cond := [Cond.fieldLink RX0 22 "BottomWalks$Echoes" "noiseLevel" "D", Cond.methodLink RX0 25 Lib.Math.min.name, Cond.static Lib.Math.min.name, Cond.initialized "java/lang/Math", Cond.code Lib.Math.min.name Lib.Math.min.code 2 (some .int), Cond.methodLink RX0 31 Lib.Math.max.name, Cond.static Lib.Math.max.name, Cond.code Lib.Math.max.name Lib.Math.max.code 2 (some .int), Cond.fieldLink RX0 34 "BottomWalks$Echoes" "samples" "I", Cond.constantDouble RX0 38 (4593671619917905920), Cond.fieldLink RX0 40 "BottomWalks$Echoes" "metre" "D", Cond.fieldLink RX0 43 "BottomWalks$Echoes" "values" "[D", Cond.constantDouble RX0 47 (13830554455654793216), Cond.methodLink RX0 49 yJ7_fill_7f8df, Cond.static yJ7_fill_7f8df, Cond.initialized RJ7, Cond.code yJ7_fill_7f8df cJ7_fill_7f8df 5 none, Cond.methodLink RX3 41 yX2_init, Cond.instanceMethod yX2_init, Cond.code yX2_init cX2_init 2 none, Cond.methodLink RX2 3 objectInit, Cond.fieldLink RX2 9 "BottomWalks$Walk" "depthsTold" "[D", Cond.fieldLink RX2 15 "BottomWalks$Walk" "walked" "[Z", Cond.arrayClass .int]
def wsL_law_r4 : List Cond := [Cond.fieldLink RX2 19 "BottomWalks$Walk" "row" "[I", Cond.fieldLink RX2 23 "BottomWalks$Walk" "steepness" "I", Cond.fieldLink RX2 27 "BottomWalks$Walk" "frequencyWalked" "I", Cond.fieldLink RX2 30 "BottomWalks$Walk" "found" "Z", Cond.fieldLink RX2 34 "BottomWalks$Walk" "echoes" "LBottomWalks$Echoes;", Cond.fieldLink RX2 38 "BottomWalks$Echoes" "samples" "I", Cond.arrayClass .long, Cond.fieldLink RX2 43 "BottomWalks$Walk" "sums" "[J", Cond.constantDouble RX2 47 (13830554455654793216), Cond.methodLink RX2 49 yJ7_fill_7f8df, Cond.methodLink RL 20 yX4_init, Cond.instanceMethod yX4_init, Cond.code yX4_init cX4_init 3 none, Cond.methodLink RX4 1 objectInit, Cond.fieldLink RX4 7 "BottomWalksModel" "values" "[D", Cond.fieldLink RX4 13 "BottomWalksModel" "told" "[Z", Cond.fieldLink RX4 17 "BottomWalksModel" "isLost" "[Z", Cond.fieldLink RX4 20 "BottomWalksModel" "isEdited" "[Z", Cond.fieldLink RX4 23 "BottomWalksModel" "depths" "[D", Cond.fieldLink RX4 26 "BottomWalksModel" "tides" "[D", Cond.fieldLink RX4 29 "BottomWalksModel" "degrees" "[D", Cond.fieldLink RX4 32 "BottomWalksModel" "speedDepths" "[D", Cond.fieldLink RX4 35 "BottomWalksModel" "speedValues" "[D", Cond.fieldLink RX4 38 "BottomWalksModel" "ballDays" "[D"]
def wsL_law_r5 : List Cond := [Cond.fieldLink RX4 41 "BottomWalksModel" "ballValues" "[D", Cond.fieldLink RX4 44 "BottomWalksModel" "row" "[I", Cond.fieldLink RX4 48 "BottomWalksModel" "sums" "[J", Cond.fieldLink RX4 52 "BottomWalksModel" "walk" "[I", Cond.fieldLink RX4 55 "BottomWalksModel" "samples" "I", Cond.constantDouble RX4 59 (4593671619917905920), Cond.fieldLink RX4 61 "BottomWalksModel" "metre" "D", Cond.methodLink RL 23 yX3_value, Cond.instanceMethod yX3_value, Cond.selects RX3 yX3_value yX3_value, Cond.code yX3_value cX3_value 5 (some .boolean), Cond.methodLink RX3 48 yX0_tell, Cond.instanceMethod yX0_tell, Cond.selects RX0 yX0_tell yX0_tell, Cond.code yX0_tell cX0_tell 7 (some .boolean), Cond.constantDouble RX0 59 (4652007308841189376), Cond.methodLink RX0 55 yX0_placeOf, Cond.instanceMethod yX0_placeOf, Cond.selects RX0 yX0_placeOf yX0_placeOf, Cond.code yX0_placeOf cX0_placeOf 4 (some .int), Cond.static yX3_isFrequency, Cond.code yX3_isFrequency cX3_isFrequency 1 (some .boolean), Cond.static yX3_isPing, Cond.code yX3_isPing cX3_isPing 1 (some .boolean)]
def wsL_law_r6 : List Cond := [Cond.methodLink RX0 84 yX0_isSample, Cond.instanceMethod yX0_isSample, Cond.selects RX0 yX0_isSample yX0_isSample, Cond.code yX0_isSample cX0_isSample 2 (some .boolean), Cond.static yX3_within, Cond.code yX3_within cX3_within 6 (some .boolean), Cond.methodLink RL 27 yX4_value, Cond.instanceMethod yX4_value, Cond.selects RX4 yX4_value yX4_value, Cond.code yX4_value cX4_value 5 (some .boolean), Cond.constantDouble RX4 72 (4652007308841189376), Cond.fieldLink RX4 78 "BottomWalksModel" "chosen" "I", Cond.methodLink RX4 65 yX4_isPing, Cond.static yX4_isPing, Cond.code yX4_isPing cX4_isPing 1 (some .boolean), Cond.methodLink RX4 69 yX4_isSample, Cond.instanceMethod yX4_isSample, Cond.selects RX4 yX4_isSample yX4_isSample, Cond.code yX4_isSample cX4_isSample 2 (some .boolean), Cond.methodLink RX4 74 yX4_within, Cond.static yX4_within, Cond.code yX4_within cX4_within 6 (some .boolean), Cond.methodLink RL 28 yX3_loss, Cond.instanceMethod yX3_loss]
def wsL_law_r7 : List Cond := [Cond.selects RX3 yX3_loss yX3_loss, Cond.code yX3_loss cX3_loss 5 (some .boolean), Cond.constantDouble RX3 52 (4621819117588971520), Cond.methodLink RX3 54 yX3_within, Cond.methodLink RX3 58 yX0_setLosses, Cond.instanceMethod yX0_setLosses, Cond.selects RX0 yX0_setLosses yX0_setLosses, Cond.code yX0_setLosses cX0_setLosses 5 none, Cond.methodLink RL 32 yX4_loss, Cond.instanceMethod yX4_loss, Cond.selects RX4 yX4_loss yX4_loss, Cond.code yX4_loss cX4_loss 5 (some .boolean), Cond.constantDouble RX4 81 (4621819117588971520), Cond.fieldLink RX4 83 "BottomWalksModel" "spread" "D", Cond.fieldLink RX4 86 "BottomWalksModel" "absorb" "D", Cond.methodLink RL 33 yX3_noise, Cond.instanceMethod yX3_noise, Cond.selects RX3 yX3_noise yX3_noise, Cond.code yX3_noise cX3_noise 3 (some .boolean), Cond.constantDouble RX3 62 (4652007308841189376), Cond.methodLink RX3 64 yX0_setNoiseLevel, Cond.instanceMethod yX0_setNoiseLevel, Cond.selects RX0 yX0_setNoiseLevel yX0_setNoiseLevel, Cond.code yX0_setNoiseLevel cX0_setNoiseLevel 3 none]
def wsL_law_r8 : List Cond := [Cond.methodLink RL 37 yX4_noise, Cond.instanceMethod yX4_noise, Cond.selects RX4 yX4_noise yX4_noise, Cond.code yX4_noise cX4_noise 3 (some .boolean), Cond.fieldLink RX4 89 "BottomWalksModel" "noise" "D", Cond.methodLink RL 38 yX3_run, Cond.instanceMethod yX3_run, Cond.selects RX3 yX3_run yX3_run, Cond.code yX3_run cX3_run 3 (some .int), Cond.methodLink RX3 68 yX2_go, Cond.instanceMethod yX2_go, Cond.selects RX2 yX2_go yX2_go, Cond.code yX2_go cX2_go 5 (some .int), Cond.methodLink RX2 65 yX2_hasPing, Cond.instanceMethod yX2_hasPing, Cond.selects RX2 yX2_hasPing yX2_hasPing, Cond.code yX2_hasPing cX2_hasPing 4 (some .boolean), Cond.methodLink RX2 69 yX2_isForWalk, Cond.instanceMethod yX2_isForWalk, Cond.selects RX2 yX2_isForWalk yX2_isForWalk, Cond.code yX2_isForWalk cX2_isForWalk 3 (some .boolean), Cond.methodLink RX2 98 yX2_isEdited, Cond.instanceMethod yX2_isEdited, Cond.selects RX2 yX2_isEdited yX2_isEdited]
def wsL_law_r9 : List Cond := [Cond.code yX2_isEdited cX2_isEdited 2 (some .boolean), Cond.methodLink RX2 112 yX0_isLost, Cond.instanceMethod yX0_isLost, Cond.selects RX0 yX0_isLost yX0_isLost, Cond.code yX0_isLost cX0_isLost 2 (some .boolean), Cond.methodLink RX2 115 yX0_isSilent, Cond.instanceMethod yX0_isSilent, Cond.selects RX0 yX0_isSilent yX0_isSilent, Cond.code yX0_isSilent cX0_isSilent 5 (some .boolean), Cond.methodLink RX2 72 yX2_neighbour, Cond.instanceMethod yX2_neighbour, Cond.selects RX2 yX2_neighbour yX2_neighbour, Cond.code yX2_neighbour cX2_neighbour 4 (some .int), Cond.methodLink RX2 84 yX2_isWalked, Cond.instanceMethod yX2_isWalked, Cond.selects RX2 yX2_isWalked yX2_isWalked, Cond.code yX2_isWalked cX2_isWalked 2 (some .boolean), Cond.methodLink RX2 76 yX2_sumUp, Cond.instanceMethod yX2_sumUp, Cond.selects RX2 yX2_sumUp yX2_sumUp, Cond.code yX2_sumUp cX2_sumUp 7 none, Cond.methodLink RX2 125 yX2_highest, Cond.instanceMethod yX2_highest, Cond.selects RX2 yX2_highest yX2_highest]
def wsL_law_r10 : List Cond := [Cond.code yX2_highest cX2_highest 2 (some .int), Cond.methodLink RX2 121 yX0_sampleFor, Cond.instanceMethod yX0_sampleFor, Cond.selects RX0 yX0_sampleFor yX0_sampleFor, Cond.code yX0_sampleFor cX0_sampleFor 4 (some .int), Cond.methodLink RX0 72 yX0_range, Cond.instanceMethod yX0_range, Cond.selects RX0 yX0_range yX0_range, Cond.code yX0_range cX0_range 2 (some .double), Cond.methodLink RX2 101 yX2_lowest, Cond.instanceMethod yX2_lowest, Cond.selects RX2 yX2_lowest yX2_lowest, Cond.code yX2_lowest cX2_lowest 2 (some .int), Cond.methodLink RX2 128 yX0_isSample, Cond.methodLink RX2 108 yX0_strength, Cond.instanceMethod yX0_strength, Cond.selects RX0 yX0_strength yX0_strength, Cond.code yX0_strength cX0_strength 9 (some .long), Cond.constantDouble RX0 76 (4562254508917369340), Cond.methodLink RX0 78 Lib.MathLoose.max_long.x, Cond.static Lib.MathLoose.max_long.x, Cond.code Lib.MathLoose.max_long.x Lib.MathLoose.max_long.code 4 (some .long), Cond.methodLink RX0 69 yX0_isLost, Cond.methodLink RX2 131 yX2_bestBefore]
def wsL_law_r11 : List Cond := [Cond.instanceMethod yX2_bestBefore, Cond.selects RX2 yX2_bestBefore yX2_bestBefore, Cond.code yX2_bestBefore cX2_bestBefore 12 (some .int), Cond.methodLink RX2 139 Lib.Math.max.name, Cond.methodLink RX2 144 Lib.Math.min.name, Cond.methodLink RX2 135 yX2_sumAt, Cond.instanceMethod yX2_sumAt, Cond.selects RX2 yX2_sumAt yX2_sumAt, Cond.code yX2_sumAt cX2_sumAt 3 (some .long), Cond.methodLink RX2 80 yX2_traceBack, Cond.instanceMethod yX2_traceBack, Cond.selects RX2 yX2_traceBack yX2_traceBack, Cond.code yX2_traceBack cX2_traceBack 5 (some .long), Cond.methodLink RX2 105 yX2_sampleOfRow, Cond.instanceMethod yX2_sampleOfRow, Cond.selects RX2 yX2_sampleOfRow yX2_sampleOfRow, Cond.code yX2_sampleOfRow cX2_sampleOfRow 2 (some .int), Cond.methodLink RL 42 yX4_run, Cond.instanceMethod yX4_run, Cond.selects RX4 yX4_run yX4_run, Cond.code yX4_run cX4_run 11 (some .int), Cond.constantLong RX4 116 (-1), Cond.fieldLink RX4 132 "BottomWalksModel" "hasRun" "Z", Cond.fieldLink RX4 136 "BottomWalksModel" "runOf" "I"]
def wsL_law_r12 : List Cond := [Cond.methodLink RX4 108 yX4_isEmpty, Cond.instanceMethod yX4_isEmpty, Cond.selects RX4 yX4_isEmpty yX4_isEmpty, Cond.code yX4_isEmpty cX4_isEmpty 4 (some .boolean), Cond.methodLink RX4 122 yX4_mayStand, Cond.instanceMethod yX4_mayStand, Cond.selects RX4 yX4_mayStand yX4_mayStand, Cond.code yX4_mayStand cX4_mayStand 3 (some .boolean), Cond.methodLink RX4 112 yX4_counting, Cond.instanceMethod yX4_counting, Cond.selects RX4 yX4_counting yX4_counting, Cond.code yX4_counting cX4_counting 3 (some .int), Cond.methodLink RX4 102 yX4_range, Cond.instanceMethod yX4_range, Cond.selects RX4 yX4_range yX4_range, Cond.code yX4_range cX4_range 2 (some .double), Cond.methodLink RX4 125 yX4_bestBefore, Cond.instanceMethod yX4_bestBefore, Cond.selects RX4 yX4_bestBefore yX4_bestBefore, Cond.code yX4_bestBefore cX4_bestBefore 9 (some .long), Cond.methodLink RX4 118 yX4_mayFollow, Cond.instanceMethod yX4_mayFollow, Cond.selects RX4 yX4_mayFollow yX4_mayFollow, Cond.code yX4_mayFollow cX4_mayFollow 7 (some .boolean)]
def wsL_law_r13 : List Cond := [Cond.methodLink RX4 129 yX4_strength, Cond.instanceMethod yX4_strength, Cond.selects RX4 yX4_strength yX4_strength, Cond.code yX4_strength cX4_strength 9 (some .long), Cond.constantDouble RX4 106 (4562254508917369340), Cond.methodLink RL 43 yX3_bottom, Cond.instanceMethod yX3_bottom, Cond.selects RX3 yX3_bottom yX3_bottom, Cond.code yX3_bottom cX3_bottom 2 (some .double), Cond.constantDouble RX3 83 (13830554455654793216), Cond.methodLink RX3 72 yX3_isPing, Cond.methodLink RX3 76 yX2_hasBottom, Cond.instanceMethod yX2_hasBottom, Cond.selects RX2 yX2_hasBottom yX2_hasBottom, Cond.code yX2_hasBottom cX2_hasBottom 2 (some .boolean), Cond.methodLink RX2 87 yX2_isBridge, Cond.instanceMethod yX2_isBridge, Cond.selects RX2 yX2_isBridge yX2_isBridge, Cond.code yX2_isBridge cX2_isBridge 4 (some .boolean), Cond.methodLink RX3 79 yX2_depthAt, Cond.instanceMethod yX2_depthAt, Cond.selects RX2 yX2_depthAt yX2_depthAt, Cond.code yX2_depthAt cX2_depthAt 8 (some .double), Cond.methodLink RX2 90 yX2_depthWalked]
def wsL_law_r14 : List Cond := [Cond.instanceMethod yX2_depthWalked, Cond.selects RX2 yX2_depthWalked yX2_depthWalked, Cond.code yX2_depthWalked cX2_depthWalked 2 (some .double), Cond.methodLink RX2 118 yX0_range, Cond.static yX3_over, Cond.code yX3_over cX3_over 4 (some .double), Cond.methodLink RL 47 yX4_bottom, Cond.instanceMethod yX4_bottom, Cond.selects RX4 yX4_bottom yX4_bottom, Cond.code yX4_bottom cX4_bottom 2 (some .double), Cond.constantDouble RX4 158 (13830554455654793216), Cond.methodLink RX4 152 yX4_hasBottom, Cond.instanceMethod yX4_hasBottom, Cond.selects RX4 yX4_hasBottom yX4_hasBottom, Cond.code yX4_hasBottom cX4_hasBottom 2 (some .boolean), Cond.methodLink RX4 139 yX4_isWalked, Cond.instanceMethod yX4_isWalked, Cond.selects RX4 yX4_isWalked yX4_isWalked, Cond.code yX4_isWalked cX4_isWalked 2 (some .boolean), Cond.methodLink RX4 146 yX4_isBridged, Cond.instanceMethod yX4_isBridged, Cond.selects RX4 yX4_isBridged yX4_isBridged, Cond.code yX4_isBridged cX4_isBridged 4 (some .boolean), Cond.methodLink RX4 142 yX4_neighbour]
def wsL_law_r15 : List Cond := [Cond.instanceMethod yX4_neighbour, Cond.selects RX4 yX4_neighbour yX4_neighbour, Cond.code yX4_neighbour cX4_neighbour 4 (some .int), Cond.methodLink RX4 155 yX4_plainBottom, Cond.instanceMethod yX4_plainBottom, Cond.selects RX4 yX4_plainBottom yX4_plainBottom, Cond.code yX4_plainBottom cX4_plainBottom 10 (some .double), Cond.methodLink RX4 149 yX4_walkedDepth, Cond.instanceMethod yX4_walkedDepth, Cond.selects RX4 yX4_walkedDepth yX4_walkedDepth, Cond.code yX4_walkedDepth cX4_walkedDepth 2 (some .double), Cond.methodLink RL 48 yX3_greatest, Cond.instanceMethod yX3_greatest, Cond.selects RX3 yX3_greatest yX3_greatest, Cond.code yX3_greatest cX3_greatest 1 (some .boolean), Cond.methodLink RX3 85 yX2_wasFound, Cond.instanceMethod yX2_wasFound, Cond.selects RX2 yX2_wasFound yX2_wasFound, Cond.code yX2_wasFound cX2_wasFound 1 (some .boolean), Cond.methodLink RL 52 yX4_greatest, Cond.instanceMethod yX4_greatest, Cond.selects RX4 yX4_greatest yX4_greatest, Cond.code yX4_greatest cX4_greatest 1 (some .boolean), Cond.methodLink RL 53 yX3_edit]
def wsL_law_r16 : List Cond := [Cond.instanceMethod yX3_edit, Cond.selects RX3 yX3_edit yX3_edit, Cond.code yX3_edit cX3_edit 4 (some .boolean), Cond.methodLink RX3 89 yX2_tellDepth, Cond.instanceMethod yX2_tellDepth, Cond.selects RX2 yX2_tellDepth yX2_tellDepth, Cond.code yX2_tellDepth cX2_tellDepth 4 (some .boolean), Cond.constantDouble RX2 59 (4666723172467343360), Cond.methodLink RL 57 yX4_edit, Cond.instanceMethod yX4_edit, Cond.selects RX4 yX4_edit yX4_edit, Cond.code yX4_edit cX4_edit 4 (some .boolean), Cond.constantDouble RX4 92 (4666723172467343360), Cond.methodLink RL 58 yX3_lost, Cond.instanceMethod yX3_lost, Cond.selects RX3 yX3_lost yX3_lost, Cond.code yX3_lost cX3_lost 2 (some .boolean), Cond.methodLink RX3 93 yX0_lose, Cond.instanceMethod yX0_lose, Cond.selects RX0 yX0_lose yX0_lose, Cond.code yX0_lose cX0_lose 2 (some .boolean), Cond.methodLink RL 62 yX4_lost, Cond.instanceMethod yX4_lost, Cond.selects RX4 yX4_lost yX4_lost]
def wsL_law_r17 : List Cond := [Cond.code yX4_lost cX4_lost 2 (some .boolean), Cond.methodLink RL 63 yX3_bridged, Cond.instanceMethod yX3_bridged, Cond.selects RX3 yX3_bridged yX3_bridged, Cond.code yX3_bridged cX3_bridged 4 (some .int), Cond.methodLink RX3 96 yX2_isBridge, Cond.methodLink RL 67 yX4_bridged, Cond.instanceMethod yX4_bridged, Cond.selects RX4 yX4_bridged yX4_bridged, Cond.code yX4_bridged cX4_bridged 4 (some .int), Cond.methodLink RL 68 yX3_dead, Cond.instanceMethod yX3_dead, Cond.selects RX3 yX3_dead yX3_dead, Cond.code yX3_dead cX3_dead 2 (some .double), Cond.constantDouble RX3 99 (4602678819172646912), Cond.fieldLink RX3 101 "BottomWalks$Echoes" "metre" "D", Cond.constantDouble RX3 105 (4581421828931458171), Cond.methodLink RL 71 yX4_dead, Cond.instanceMethod yX4_dead, Cond.selects RX4 yX4_dead yX4_dead, Cond.code yX4_dead cX4_dead 2 (some .double), Cond.constantDouble RX4 160 (4602678819172646912), Cond.constantDouble RX4 162 (4581421828931458171), Cond.methodLink RL 72 yX3_surface]
def wsL_law_r18 : List Cond := [Cond.instanceMethod yX3_surface, Cond.selects RX3 yX3_surface yX3_surface, Cond.code yX3_surface cX3_surface 3 (some .double), Cond.fieldLink RX3 107 "BottomWalks$Echoes" "samples" "I", Cond.constantLong RX3 114 (500), Cond.methodLink RX3 110 yX0_strength, Cond.methodLink RL 75 yX4_surface, Cond.instanceMethod yX4_surface, Cond.selects RX4 yX4_surface yX4_surface, Cond.code yX4_surface cX4_surface 3 (some .double), Cond.constantLong RX4 164 (500), Cond.methodLink RL 76 yX3_kind, Cond.instanceMethod yX3_kind, Cond.selects RX3 yX3_kind yX3_kind, Cond.code yX3_kind cX3_kind 4 (some .int), Cond.constantDouble RX3 122 (4641240890982006784), Cond.constantDouble RX3 124 (4656510908468559872), Cond.methodLink RX3 116 yX2_isWalked, Cond.methodLink RX3 119 yX3_tail, Cond.instanceMethod yX3_tail, Cond.selects RX3 yX3_tail yX3_tail, Cond.code yX3_tail cX3_tail 2 (some .double), Cond.methodLink RX3 167 yX2_strengthsBehind, Cond.instanceMethod yX2_strengthsBehind]
def wsL_law_r19 : List Cond := [Cond.selects RX2 yX2_strengthsBehind yX2_strengthsBehind, Cond.code yX2_strengthsBehind cX2_strengthsBehind 6 (some .double), Cond.methodLink RL 79 yX4_kind, Cond.instanceMethod yX4_kind, Cond.selects RX4 yX4_kind yX4_kind, Cond.code yX4_kind cX4_kind 4 (some .int), Cond.constantDouble RX4 169 (4641240890982006784), Cond.constantDouble RX4 171 (4656510908468559872), Cond.methodLink RX4 166 yX4_tail, Cond.instanceMethod yX4_tail, Cond.selects RX4 yX4_tail yX4_tail, Cond.code yX4_tail cX4_tail 6 (some .double), Cond.methodLink RL 80 yX3_speed, Cond.instanceMethod yX3_speed, Cond.selects RX3 yX3_speed yX3_speed, Cond.code yX3_speed cX3_speed 5 (some .boolean), Cond.constantDouble RX3 126 (4666723172467343360), Cond.constantDouble RX3 128 (4653432275910787072), Cond.constantDouble RX3 130 (4655191494515228672), Cond.methodLink RX3 132 yX1_put, Cond.instanceMethod yX1_put, Cond.selects RX1 yX1_put yX1_put, Cond.code yX1_put cX1_put 7 (some .boolean), Cond.methodLink RX1 22 yX1_rowsUpTo]
def wsL_law_r20 : List Cond := [Cond.instanceMethod yX1_rowsUpTo, Cond.selects RX1 yX1_rowsUpTo yX1_rowsUpTo, Cond.code yX1_rowsUpTo cX1_rowsUpTo 4 (some .int), Cond.methodLink RL 83 yX4_speed, Cond.instanceMethod yX4_speed, Cond.selects RX4 yX4_speed yX4_speed, Cond.code yX4_speed cX4_speed 6 (some .boolean), Cond.constantDouble RX4 173 (4653432275910787072), Cond.constantDouble RX4 175 (4655191494515228672), Cond.fieldLink RX4 177 "BottomWalksModel" "speeds" "I", Cond.methodLink RX4 180 yX4_insert, Cond.static yX4_insert, Cond.code yX4_insert cX4_insert 9 (some .int), Cond.methodLink RL 84 yX3_bent, Cond.instanceMethod yX3_bent, Cond.selects RX3 yX3_bent yX3_bent, Cond.code yX3_bent cX3_bent 7 (some .double), Cond.constantDouble RX3 139 (4654311885213007872), Cond.constantDouble RX3 145 (4580687790476533049), Cond.methodLink RX3 136 yX0_isSample, Cond.methodLink RX3 141 yX1_stepAt, Cond.instanceMethod yX1_stepAt, Cond.selects RX1 yX1_stepAt yX1_stepAt, Cond.code yX1_stepAt cX1_stepAt 5 (some .double)]
def wsL_law_r21 : List Cond := [Cond.methodLink RX1 26 Lib.Math.max.name, Cond.methodLink RL 88 yX4_bent, Cond.instanceMethod yX4_bent, Cond.selects RX4 yX4_bent yX4_bent, Cond.code yX4_bent cX4_bent 7 (some .double), Cond.constantDouble RX4 191 (4654311885213007872), Cond.constantDouble RX4 197 (4580687790476533049), Cond.methodLink RX4 193 yX4_speedAt, Cond.instanceMethod yX4_speedAt, Cond.selects RX4 yX4_speedAt yX4_speedAt, Cond.code yX4_speedAt cX4_speedAt 4 (some .double), Cond.methodLink RL 89 yX3_frequency, Cond.instanceMethod yX3_frequency, Cond.selects RX3 yX3_frequency yX3_frequency, Cond.code yX3_frequency cX3_frequency 2 (some .boolean), Cond.methodLink RX3 147 yX3_isFrequency, Cond.methodLink RL 92 yX4_frequency, Cond.instanceMethod yX4_frequency, Cond.selects RX4 yX4_frequency yX4_frequency, Cond.code yX4_frequency cX4_frequency 2 (some .boolean), Cond.methodLink RL 93 yX3_joined, Cond.instanceMethod yX3_joined, Cond.selects RX3 yX3_joined yX3_joined, Cond.code yX3_joined cX3_joined 12 (some .double)]
def wsL_law_r22 : List Cond := [Cond.methodLink RX3 150 yX0_range, Cond.methodLink RX3 153 yX3_over, Cond.methodLink RL 97 yX4_joined, Cond.instanceMethod yX4_joined, Cond.selects RX4 yX4_joined yX4_joined, Cond.code yX4_joined cX4_joined 12 (some .double), Cond.methodLink RL 98 yX3_ball, Cond.instanceMethod yX3_ball, Cond.selects RX3 yX3_ball yX3_ball, Cond.code yX3_ball cX3_ball 5 (some .boolean), Cond.constantDouble RX3 156 (4681608360884174848), Cond.constantDouble RX3 158 (4591870180066957722), Cond.methodLink RL 101 yX4_ball, Cond.instanceMethod yX4_ball, Cond.selects RX4 yX4_ball yX4_ball, Cond.code yX4_ball cX4_ball 6 (some .boolean), Cond.constantDouble RX4 184 (4681608360884174848), Cond.constantDouble RX4 186 (4591870180066957722), Cond.fieldLink RX4 188 "BottomWalksModel" "balls" "I", Cond.methodLink RL 102 yX3_factor, Cond.instanceMethod yX3_factor, Cond.selects RX3 yX3_factor yX3_factor, Cond.code yX3_factor cX3_factor 3 (some .double), Cond.methodLink RX3 160 yX1_slopeAt]
def wsL_law_r23 : List Cond := [Cond.instanceMethod yX1_slopeAt, Cond.selects RX1 yX1_slopeAt yX1_slopeAt, Cond.code yX1_slopeAt cX1_slopeAt 14 (some .double), Cond.methodLink RX1 32 yX1_stepAt, Cond.methodLink RL 106 yX4_factor, Cond.instanceMethod yX4_factor, Cond.selects RX4 yX4_factor yX4_factor, Cond.code yX4_factor cX4_factor 12 (some .double), Cond.methodLink RL 107 yX3_tide, Cond.instanceMethod yX3_tide, Cond.selects RX3 yX3_tide yX3_tide, Cond.code yX3_tide cX3_tide 4 (some .boolean), Cond.constantDouble RX3 163 (13849694754071117824), Cond.constantDouble RX3 165 (4626322717216342016), Cond.methodLink RL 110 yX4_tide, Cond.instanceMethod yX4_tide, Cond.selects RX4 yX4_tide yX4_tide, Cond.code yX4_tide cX4_tide 4 (some .boolean), Cond.constantDouble RX4 94 (13849694754071117824), Cond.constantDouble RX4 96 (4626322717216342016), Cond.methodLink RL 111 yX3_tail, Cond.methodLink RL 114 yX4_tail, Cond.methodLink RL 115 yX3_map, Cond.instanceMethod yX3_map]
def wsL_law_r24 : List Cond := [Cond.selects RX3 yX3_map yX3_map, Cond.code yX3_map cX3_map 12 (some .double), Cond.constantDouble RX3 170 (13920209183539462144), Cond.constantDouble RX3 172 (4696837146684686336), Cond.methodLink RX3 174 yX3_bottom, Cond.methodLink RL 119 yX4_map, Cond.instanceMethod yX4_map, Cond.selects RX4 yX4_map yX4_map, Cond.code yX4_map cX4_map 13 (some .double), Cond.constantDouble RX4 199 (13920209183539462144), Cond.constantDouble RX4 201 (4696837146684686336), Cond.methodLink RX4 203 yX4_bottom, Cond.methodLink RL 120 yX3_turned, Cond.instanceMethod yX3_turned, Cond.selects RX3 yX3_turned yX3_turned, Cond.code yX3_turned cX3_turned 4 (some .boolean), Cond.constantDouble RX3 177 (13854902041140264960), Cond.constantDouble RX3 179 (4631530004285489152), Cond.methodLink RL 123 yX4_turned, Cond.instanceMethod yX4_turned, Cond.selects RX4 yX4_turned yX4_turned, Cond.code yX4_turned cX4_turned 4 (some .boolean), Cond.constantDouble RX4 98 (13854902041140264960), Cond.constantDouble RX4 100 (4631530004285489152)]
def wsL_law_r25 : List Cond := [Cond.methodLink RL 124 yX3_empty, Cond.instanceMethod yX3_empty, Cond.selects RX3 yX3_empty yX3_empty, Cond.code yX3_empty cX3_empty 2 (some .boolean), Cond.methodLink RX3 181 yX0_isSilent, Cond.methodLink RL 127 yX4_empty, Cond.instanceMethod yX4_empty, Cond.selects RX4 yX4_empty yX4_empty, Cond.code yX4_empty cX4_empty 2 (some .boolean)]
def wsL_law : List Cond := (wsL_law_r1 ++ (wsL_law_r2 ++ (wsL_law_r3 ++ (wsL_law_r4 ++ (wsL_law_r5 ++ (wsL_law_r6 ++ (wsL_law_r7 ++ (wsL_law_r8 ++ (wsL_law_r9 ++ (wsL_law_r10 ++ (wsL_law_r11 ++ (wsL_law_r12 ++ (wsL_law_r13 ++ (wsL_law_r14 ++ (wsL_law_r15 ++ (wsL_law_r16 ++ (wsL_law_r17 ++ (wsL_law_r18 ++ (wsL_law_r19 ++ (wsL_law_r20 ++ (wsL_law_r21 ++ (wsL_law_r22 ++ (wsL_law_r23 ++ (wsL_law_r24 ++ wsL_law_r25)))))))))))))))))))))))) ++ wsX30 ++ wsX40 ++ wsX10 ++ wsX00 ++ wsX20 ++ ([] : List Cond)
set_option maxRecDepth 20000 in
theorem wsL_law_r1_in : ∀ w ∈ wsL_law_r1, w ∈ lw_tbl := fun w h => (goodIn_r (big := lw_tbl) wsL_law_r1 [37, 38, 30, 458, 459, 36, 724, 455, 456, 29, 457, 39, 40, 41, 42, 43, 44, 45, 46, 31, 142, 143, 61, 144] (by decide +kernel) (by decide +kernel) w h).1
set_option maxRecDepth 20000 in
theorem wsL_law_r2_in : ∀ w ∈ wsL_law_r2, w ∈ lw_tbl := fun w h => (goodIn_r (big := lw_tbl) wsL_law_r2 [145, 146, 62, 63, 32, 140, 105, 106, 35, 141, 48, 49, 50, 51, 52, 53, 64, 65, 66, 67, 104, 85, 86, 87] (by decide +kernel) (by decide +kernel) w h).1
set_option maxRecDepth 20000 in
theorem wsL_law_r3_in : ∀ w ∈ wsL_law_r3, w ∈ lw_tbl := fun w h => (goodIn_r (big := lw_tbl) wsL_law_r3 [88, 68, 69, 33, 70, 71, 72, 73, 79, 74, 82, 84, 75, 76, 77, 34, 78, 107, 108, 109, 110, 114, 115, 138] (by decide +kernel) (by decide +kernel) w h).1
set_option maxRecDepth 20000 in
theorem wsL_law_r4_in : ∀ w ∈ wsL_law_r4, w ∈ lw_tbl := fun w h => (goodIn_r (big := lw_tbl) wsL_law_r4 [116, 118, 119, 120, 113, 80, 139, 117, 111, 112, 460, 461, 462, 463, 467, 468, 469, 470, 471, 472, 473, 479, 480, 482] (by decide +kernel) (by decide +kernel) w h).1
set_option maxRecDepth 20000 in
theorem wsL_law_r5_in : ∀ w ∈ wsL_law_r5, w ∈ lw_tbl := fun w h => (goodIn_r (big := lw_tbl) wsL_law_r5 [483, 486, 487, 488, 465, 464, 466, 162, 163, 164, 165, 166, 167, 168, 169, 184, 170, 172, 0, 173, 175, 176, 178, 179] (by decide +kernel) (by decide +kernel) w h).1
set_option maxRecDepth 20000 in
theorem wsL_law_r6_in : ∀ w ∈ wsL_law_r6, w ∈ lw_tbl := fun w h => (goodIn_r (big := lw_tbl) wsL_law_r6 [180, 181, 182, 183, 186, 187, 538, 539, 540, 541, 549, 474, 542, 543, 544, 545, 547, 14, 548, 550, 551, 552, 188, 189] (by decide +kernel) (by decide +kernel) w h).1
set_option maxRecDepth 20000 in
theorem wsL_law_r7_in : ∀ w ∈ wsL_law_r7, w ∈ lw_tbl := fun w h => (goodIn_r (big := lw_tbl) wsL_law_r7 [190, 191, 192, 193, 194, 195, 196, 197, 553, 554, 555, 556, 557, 475, 476, 198, 199, 200, 201, 202, 203, 204, 205, 206] (by decide +kernel) (by decide +kernel) w h).1
set_option maxRecDepth 20000 in
theorem wsL_law_r8_in : ∀ w ∈ wsL_law_r8, w ∈ lw_tbl := fun w h => (goodIn_r (big := lw_tbl) wsL_law_r8 [558, 559, 560, 561, 477, 207, 208, 209, 210, 211, 212, 213, 214, 215, 217, 1, 218, 219, 221, 2, 222, 223, 225, 3] (by decide +kernel) (by decide +kernel) w h).1
set_option maxRecDepth 20000 in
theorem wsL_law_r9_in : ∀ w ∈ wsL_law_r9, w ∈ lw_tbl := fun w h => (goodIn_r (big := lw_tbl) wsL_law_r9 [226, 228, 229, 230, 231, 232, 233, 234, 235, 236, 238, 4, 239, 240, 241, 242, 243, 244, 246, 5, 247, 248, 250, 6] (by decide +kernel) (by decide +kernel) w h).1
set_option maxRecDepth 20000 in
theorem wsL_law_r10_in : ∀ w ∈ wsL_law_r10, w ∈ lw_tbl := fun w h => (goodIn_r (big := lw_tbl) wsL_law_r10 [251, 252, 253, 254, 255, 256, 257, 258, 259, 260, 262, 7, 263, 264, 265, 266, 267, 268, 270, 271, 272, 273, 269, 274] (by decide +kernel) (by decide +kernel) w h).1
set_option maxRecDepth 20000 in
theorem wsL_law_r11_in : ∀ w ∈ wsL_law_r11, w ∈ lw_tbl := fun w h => (goodIn_r (big := lw_tbl) wsL_law_r11 [276, 8, 277, 278, 279, 280, 282, 9, 283, 284, 286, 10, 287, 288, 290, 11, 291, 595, 596, 597, 598, 615, 484, 485] (by decide +kernel) (by decide +kernel) w h).1
set_option maxRecDepth 20000 in
theorem wsL_law_r12_in : ∀ w ∈ wsL_law_r12, w ∈ lw_tbl := fun w h => (goodIn_r (big := lw_tbl) wsL_law_r12 [591, 593, 15, 594, 599, 601, 16, 602, 603, 605, 17, 606, 607, 609, 18, 610, 611, 613, 19, 614, 616, 618, 20, 619] (by decide +kernel) (by decide +kernel) w h).1
set_option maxRecDepth 20000 in
theorem wsL_law_r13_in : ∀ w ∈ wsL_law_r13, w ∈ lw_tbl := fun w h => (goodIn_r (big := lw_tbl) wsL_law_r13 [620, 622, 21, 623, 624, 292, 293, 294, 295, 317, 296, 297, 298, 299, 300, 301, 302, 303, 304, 305, 306, 307, 308, 309] (by decide +kernel) (by decide +kernel) w h).1
set_option maxRecDepth 20000 in
theorem wsL_law_r14_in : ∀ w ∈ wsL_law_r14, w ∈ lw_tbl := fun w h => (goodIn_r (big := lw_tbl) wsL_law_r14 [311, 12, 312, 313, 315, 316, 629, 630, 631, 632, 657, 633, 635, 22, 636, 637, 639, 23, 640, 641, 643, 24, 644, 645] (by decide +kernel) (by decide +kernel) w h).1
set_option maxRecDepth 20000 in
theorem wsL_law_r15_in : ∀ w ∈ wsL_law_r15, w ∈ lw_tbl := fun w h => (goodIn_r (big := lw_tbl) wsL_law_r15 [647, 25, 648, 649, 651, 26, 652, 653, 655, 27, 656, 318, 319, 320, 321, 322, 323, 324, 325, 625, 626, 627, 628, 326] (by decide +kernel) (by decide +kernel) w h).1
set_option maxRecDepth 20000 in
theorem wsL_law_r16_in : ∀ w ∈ wsL_law_r16, w ∈ lw_tbl := fun w h => (goodIn_r (big := lw_tbl) wsL_law_r16 [327, 328, 329, 330, 331, 332, 333, 334, 562, 563, 564, 565, 566, 336, 337, 338, 339, 340, 341, 342, 343, 567, 568, 569] (by decide +kernel) (by decide +kernel) w h).1
set_option maxRecDepth 20000 in
theorem wsL_law_r17_in : ∀ w ∈ wsL_law_r17, w ∈ lw_tbl := fun w h => (goodIn_r (big := lw_tbl) wsL_law_r17 [570, 344, 345, 346, 347, 348, 658, 659, 660, 661, 349, 350, 351, 352, 353, 83, 354, 662, 663, 664, 665, 666, 667, 355] (by decide +kernel) (by decide +kernel) w h).1
set_option maxRecDepth 20000 in
theorem wsL_law_r18_in : ∀ w ∈ wsL_law_r18, w ∈ lw_tbl := fun w h => (goodIn_r (big := lw_tbl) wsL_law_r18 [356, 357, 358, 81, 360, 359, 668, 669, 670, 671, 672, 361, 362, 363, 364, 374, 375, 365, 366, 367, 368, 369, 370, 371] (by decide +kernel) (by decide +kernel) w h).1
set_option maxRecDepth 20000 in
theorem wsL_law_r19_in : ∀ w ∈ wsL_law_r19, w ∈ lw_tbl := fun w h => (goodIn_r (big := lw_tbl) wsL_law_r19 [372, 373, 677, 678, 679, 680, 682, 683, 681, 674, 675, 676, 376, 377, 378, 379, 380, 381, 382, 383, 384, 385, 386, 387] (by decide +kernel) (by decide +kernel) w h).1
set_option maxRecDepth 20000 in
theorem wsL_law_r20_in : ∀ w ∈ wsL_law_r20, w ∈ lw_tbl := fun w h => (goodIn_r (big := lw_tbl) wsL_law_r20 [389, 13, 390, 684, 685, 686, 687, 688, 689, 478, 690, 691, 692, 391, 392, 393, 394, 396, 402, 395, 397, 398, 399, 400] (by decide +kernel) (by decide +kernel) w h).1
set_option maxRecDepth 20000 in
theorem wsL_law_r21_in : ∀ w ∈ wsL_law_r21, w ∈ lw_tbl := fun w h => (goodIn_r (big := lw_tbl) wsL_law_r21 [401, 699, 700, 701, 702, 707, 708, 703, 705, 28, 706, 403, 404, 405, 406, 407, 571, 572, 573, 574, 408, 409, 410, 411] (by decide +kernel) (by decide +kernel) w h).1
set_option maxRecDepth 20000 in
theorem wsL_law_r22_in : ∀ w ∈ wsL_law_r22, w ∈ lw_tbl := fun w h => (goodIn_r (big := lw_tbl) wsL_law_r22 [412, 413, 709, 710, 711, 712, 414, 415, 416, 417, 418, 419, 693, 694, 695, 696, 697, 698, 481, 420, 421, 422, 423, 424] (by decide +kernel) (by decide +kernel) w h).1
set_option maxRecDepth 20000 in
theorem wsL_law_r23_in : ∀ w ∈ wsL_law_r23, w ∈ lw_tbl := fun w h => (goodIn_r (big := lw_tbl) wsL_law_r23 [425, 426, 427, 428, 713, 714, 715, 716, 430, 431, 432, 433, 434, 435, 575, 576, 577, 578, 579, 580, 436, 673, 437, 438] (by decide +kernel) (by decide +kernel) w h).1
set_option maxRecDepth 20000 in
theorem wsL_law_r24_in : ∀ w ∈ wsL_law_r24, w ∈ lw_tbl := fun w h => (goodIn_r (big := lw_tbl) wsL_law_r24 [439, 440, 441, 442, 443, 717, 718, 719, 720, 721, 722, 723, 444, 445, 446, 447, 448, 449, 581, 582, 583, 584, 585, 586] (by decide +kernel) (by decide +kernel) w h).1
set_option maxRecDepth 20000 in
theorem wsL_law_r25_in : ∀ w ∈ wsL_law_r25, w ∈ lw_tbl := fun w h => (goodIn_r (big := lw_tbl) wsL_law_r25 [450, 451, 452, 453, 454, 587, 588, 589, 590] (by decide +kernel) (by decide +kernel) w h).1
set_option maxRecDepth 20000 in
theorem wsX00_in : ∀ w ∈ wsX00, w ∈ lw_tbl := fun w h => (goodIn_r (big := lw_tbl) wsX00 [89, 91, 93, 95, 97, 99, 101] (by decide +kernel) (by decide +kernel) w h).1
set_option maxRecDepth 20000 in
theorem wsX10_in : ∀ w ∈ wsX10, w ∈ lw_tbl := fun w h => (goodIn_r (big := lw_tbl) wsX10 [54, 56, 58] (by decide +kernel) (by decide +kernel) w h).1
set_option maxRecDepth 20000 in
theorem wsX20_in : ∀ w ∈ wsX20, w ∈ lw_tbl := fun w h => (goodIn_r (big := lw_tbl) wsX20 [121, 123, 125, 127, 129, 131, 133, 135] (by decide +kernel) (by decide +kernel) w h).1
set_option maxRecDepth 20000 in
theorem wsX30_in : ∀ w ∈ wsX30, w ∈ lw_tbl := fun w h => (goodIn_r (big := lw_tbl) wsX30 [147, 149, 151, 153, 155, 157, 159] (by decide +kernel) (by decide +kernel) w h).1
set_option maxRecDepth 20000 in
theorem wsX40_in : ∀ w ∈ wsX40, w ∈ lw_tbl := fun w h => (goodIn_r (big := lw_tbl) wsX40 [489, 491, 493, 495, 497, 499, 501, 503, 505, 507, 509, 511, 513, 515, 517, 519, 521, 523, 525, 527, 529, 531, 533, 535] (by decide +kernel) (by decide +kernel) w h).1
theorem wsL_law_in : ∀ w ∈ wsL_law, w ∈ lw_tbl := fun w => fun h => (List.mem_append.mp h).elim (fun h => (List.mem_append.mp h).elim (fun h => (List.mem_append.mp h).elim (fun h => (List.mem_append.mp h).elim (fun h => (List.mem_append.mp h).elim (fun h => (List.mem_append.mp h).elim (fun h => (List.mem_append.mp h).elim (fun h => wsL_law_r1_in _ h) (fun h => (List.mem_append.mp h).elim (fun h => wsL_law_r2_in _ h) (fun h => (List.mem_append.mp h).elim (fun h => wsL_law_r3_in _ h) (fun h => (List.mem_append.mp h).elim (fun h => wsL_law_r4_in _ h) (fun h => (List.mem_append.mp h).elim (fun h => wsL_law_r5_in _ h) (fun h => (List.mem_append.mp h).elim (fun h => wsL_law_r6_in _ h) (fun h => (List.mem_append.mp h).elim (fun h => wsL_law_r7_in _ h) (fun h => (List.mem_append.mp h).elim (fun h => wsL_law_r8_in _ h) (fun h => (List.mem_append.mp h).elim (fun h => wsL_law_r9_in _ h) (fun h => (List.mem_append.mp h).elim (fun h => wsL_law_r10_in _ h) (fun h => (List.mem_append.mp h).elim (fun h => wsL_law_r11_in _ h) (fun h => (List.mem_append.mp h).elim (fun h => wsL_law_r12_in _ h) (fun h => (List.mem_append.mp h).elim (fun h => wsL_law_r13_in _ h) (fun h => (List.mem_append.mp h).elim (fun h => wsL_law_r14_in _ h) (fun h => (List.mem_append.mp h).elim (fun h => wsL_law_r15_in _ h) (fun h => (List.mem_append.mp h).elim (fun h => wsL_law_r16_in _ h) (fun h => (List.mem_append.mp h).elim (fun h => wsL_law_r17_in _ h) (fun h => (List.mem_append.mp h).elim (fun h => wsL_law_r18_in _ h) (fun h => (List.mem_append.mp h).elim (fun h => wsL_law_r19_in _ h) (fun h => (List.mem_append.mp h).elim (fun h => wsL_law_r20_in _ h) (fun h => (List.mem_append.mp h).elim (fun h => wsL_law_r21_in _ h) (fun h => (List.mem_append.mp h).elim (fun h => wsL_law_r22_in _ h) (fun h => (List.mem_append.mp h).elim (fun h => wsL_law_r23_in _ h) (fun h => (List.mem_append.mp h).elim (fun h => wsL_law_r24_in _ h) (fun h => wsL_law_r25_in _ h))))))))))))))))))))))))) (fun h => wsX30_in _ h)) (fun h => wsX40_in _ h)) (fun h => wsX10_in _ h)) (fun h => wsX00_in _ h)) (fun h => wsX20_in _ h)) (fun h => absurd h List.not_mem_nil)
theorem inlX0 : ∀ w ∈ wsX00, w ∈ wsL_law := fun _ h => List.mem_append_left _ (List.mem_append_left _ (List.mem_append_right _ h))
theorem inX0 : ∀ w ∈ wsX00, w ∈ lw_tbl := fun w h => wsL_law_in w (inlX0 w h)
theorem inlX1 : ∀ w ∈ wsX10, w ∈ wsL_law := fun _ h => List.mem_append_left _ (List.mem_append_left _ (List.mem_append_left _ (List.mem_append_right _ h)))
theorem inX1 : ∀ w ∈ wsX10, w ∈ lw_tbl := fun w h => wsL_law_in w (inlX1 w h)
theorem inlX2 : ∀ w ∈ wsX20, w ∈ wsL_law := fun _ h => List.mem_append_left _ (List.mem_append_right _ h)
theorem inX2 : ∀ w ∈ wsX20, w ∈ lw_tbl := fun w h => wsL_law_in w (inlX2 w h)
theorem inlX3 : ∀ w ∈ wsX30, w ∈ wsL_law := fun _ h => List.mem_append_left _ (List.mem_append_left _ (List.mem_append_left _ (List.mem_append_left _ (List.mem_append_left _ (List.mem_append_right _ h)))))
theorem inX3 : ∀ w ∈ wsX30, w ∈ lw_tbl := fun w h => wsL_law_in w (inlX3 w h)
theorem inlX4 : ∀ w ∈ wsX40, w ∈ wsL_law := fun _ h => List.mem_append_left _ (List.mem_append_left _ (List.mem_append_left _ (List.mem_append_left _ (List.mem_append_right _ h))))
theorem inX4 : ∀ w ∈ wsX40, w ∈ lw_tbl := fun w h => wsL_law_in w (inlX4 w h)
theorem inJ9 : ∀ w ∈ wsJ90, w ∈ lw_tbl := by decide +kernel
theorem inJ7 : ∀ w ∈ wsJ70, w ∈ lw_tbl := by decide +kernel
end
section
abbrev vwCl : List vw_C := [(RX0, TX0, 7), (RX1, TX1, 3), (RX2, TX2, 8), (RX3, TX3, 7), (RX4, TX4, 24)]
set_option maxRecDepth 20000 in
theorem ggX0_init_J7_fill_7f8df : GoodIn wsX0_init wsJ7_fill_7f8df := goodIn_r _ [25] (by decide +kernel) (by decide +kernel)
set_option maxRecDepth 20000 in
theorem gX0_init_J7_fill_7f8df : GoodIn wsX0_init (va_wsS RX0 49 yJ7_fill_7f8df wsJ7_fill_7f8df) := goodIn_app (goodIn_of _ (by decide +kernel)) ggX0_init_J7_fill_7f8df
theorem dX0_init_0 : decode cX0_init 0 = .ok (.aload_n 0, 1) := by decide +kernel
theorem dX0_init_1 : decode cX0_init 1 = .ok (.invokespecial 3, 3) := by decide +kernel
theorem dX0_init_4 : decode cX0_init 4 = .ok (.aload_n 0, 1) := by decide +kernel
theorem dX0_init_5 : decode cX0_init 5 = .ok (.bipush 32, 2) := by decide +kernel
theorem dX0_init_7 : decode cX0_init 7 = .ok (.newarray .boolean, 2) := by decide +kernel
theorem dX0_init_9 : decode cX0_init 9 = .ok (.putfield 9, 3) := by decide +kernel
theorem dX0_init_12 : decode cX0_init 12 = .ok (.aload_n 0, 1) := by decide +kernel
theorem dX0_init_13 : decode cX0_init 13 = .ok (.dconst 0, 1) := by decide +kernel
theorem dX0_init_14 : decode cX0_init 14 = .ok (.putfield 15, 3) := by decide +kernel
theorem dX0_init_17 : decode cX0_init 17 = .ok (.aload_n 0, 1) := by decide +kernel
theorem dX0_init_18 : decode cX0_init 18 = .ok (.dconst 0, 1) := by decide +kernel
theorem dX0_init_19 : decode cX0_init 19 = .ok (.putfield 19, 3) := by decide +kernel
theorem dX0_init_22 : decode cX0_init 22 = .ok (.aload_n 0, 1) := by decide +kernel
theorem dX0_init_23 : decode cX0_init 23 = .ok (.dconst 0, 1) := by decide +kernel
theorem dX0_init_24 : decode cX0_init 24 = .ok (.putfield 22, 3) := by decide +kernel
theorem dX0_init_27 : decode cX0_init 27 = .ok (.aload_n 0, 1) := by decide +kernel
theorem dX0_init_28 : decode cX0_init 28 = .ok (.iconst 1, 1) := by decide +kernel
theorem dX0_init_29 : decode cX0_init 29 = .ok (.bipush 64, 2) := by decide +kernel
theorem dX0_init_31 : decode cX0_init 31 = .ok (.iload_n 1, 1) := by decide +kernel
theorem dX0_init_32 : decode cX0_init 32 = .ok (.invokestatic 25, 3) := by decide +kernel
theorem dX0_init_35 : decode cX0_init 35 = .ok (.invokestatic 31, 3) := by decide +kernel
theorem dX0_init_38 : decode cX0_init 38 = .ok (.putfield 34, 3) := by decide +kernel
theorem dX0_init_41 : decode cX0_init 41 = .ok (.aload_n 0, 1) := by decide +kernel
theorem dX0_init_42 : decode cX0_init 42 = .ok (.iload_n 2, 1) := by decide +kernel
theorem dX0_init_43 : decode cX0_init 43 = .ok (.iconst 1, 1) := by decide +kernel
theorem dX0_init_44 : decode cX0_init 44 = .ok (.if_icmp .lt 19, 3) := by decide +kernel
theorem dX0_init_47 : decode cX0_init 47 = .ok (.iload_n 2, 1) := by decide +kernel
theorem dX0_init_48 : decode cX0_init 48 = .ok (.sipush 800, 3) := by decide +kernel
theorem dX0_init_51 : decode cX0_init 51 = .ok (.if_icmp .gt 12, 3) := by decide +kernel
theorem dX0_init_54 : decode cX0_init 54 = .ok (.iload_n 2, 1) := by decide +kernel
theorem dX0_init_55 : decode cX0_init 55 = .ok (.i2d, 1) := by decide +kernel
theorem dX0_init_56 : decode cX0_init 56 = .ok (.ldc2_w 38, 3) := by decide +kernel
theorem dX0_init_59 : decode cX0_init 59 = .ok (.dmul, 1) := by decide +kernel
theorem dX0_init_60 : decode cX0_init 60 = .ok (.goto 4, 3) := by decide +kernel
theorem dX0_init_63 : decode cX0_init 63 = .ok (.dconst 1, 1) := by decide +kernel
theorem dX0_init_64 : decode cX0_init 64 = .ok (.putfield 40, 3) := by decide +kernel
theorem dX0_init_67 : decode cX0_init 67 = .ok (.aload_n 0, 1) := by decide +kernel
theorem dX0_init_68 : decode cX0_init 68 = .ok (.sipush 128, 3) := by decide +kernel
theorem dX0_init_71 : decode cX0_init 71 = .ok (.aload_n 0, 1) := by decide +kernel
theorem dX0_init_72 : decode cX0_init 72 = .ok (.getfield 34, 3) := by decide +kernel
theorem dX0_init_75 : decode cX0_init 75 = .ok (.imul, 1) := by decide +kernel
theorem dX0_init_76 : decode cX0_init 76 = .ok (.newarray .double, 2) := by decide +kernel
theorem dX0_init_78 : decode cX0_init 78 = .ok (.putfield 43, 3) := by decide +kernel
theorem dX0_init_81 : decode cX0_init 81 = .ok (.aload_n 0, 1) := by decide +kernel
theorem dX0_init_82 : decode cX0_init 82 = .ok (.getfield 43, 3) := by decide +kernel
theorem dX0_init_85 : decode cX0_init 85 = .ok (.ldc2_w 47, 3) := by decide +kernel
theorem dX0_init_88 : decode cX0_init 88 = .ok (.invokestatic 49, 3) := by decide +kernel
theorem dX0_init_91 : decode cX0_init 91 = .ok (.return_, 1) := by decide +kernel
theorem dX0_isSample_0 : decode cX0_isSample 0 = .ok (.iload_n 1, 1) := by decide +kernel
theorem dX0_isSample_1 : decode cX0_isSample 1 = .ok (.ifCond .lt 15, 3) := by decide +kernel
theorem dX0_isSample_4 : decode cX0_isSample 4 = .ok (.iload_n 1, 1) := by decide +kernel
theorem dX0_isSample_5 : decode cX0_isSample 5 = .ok (.aload_n 0, 1) := by decide +kernel
theorem dX0_isSample_6 : decode cX0_isSample 6 = .ok (.getfield 34, 3) := by decide +kernel
theorem dX0_isSample_9 : decode cX0_isSample 9 = .ok (.if_icmp .ge 7, 3) := by decide +kernel
theorem dX0_isSample_12 : decode cX0_isSample 12 = .ok (.iconst 1, 1) := by decide +kernel
theorem dX0_isSample_13 : decode cX0_isSample 13 = .ok (.goto 4, 3) := by decide +kernel
theorem dX0_isSample_16 : decode cX0_isSample 16 = .ok (.iconst 0, 1) := by decide +kernel
theorem dX0_isSample_17 : decode cX0_isSample 17 = .ok (.ireturn, 1) := by decide +kernel
theorem dX0_range_0 : decode cX0_range 0 = .ok (.iload_n 1, 1) := by decide +kernel
theorem dX0_range_1 : decode cX0_range 1 = .ok (.iconst 1, 1) := by decide +kernel
theorem dX0_range_2 : decode cX0_range 2 = .ok (.iadd, 1) := by decide +kernel
theorem dX0_range_3 : decode cX0_range 3 = .ok (.i2d, 1) := by decide +kernel
theorem dX0_range_4 : decode cX0_range 4 = .ok (.aload_n 0, 1) := by decide +kernel
theorem dX0_range_5 : decode cX0_range 5 = .ok (.getfield 40, 3) := by decide +kernel
theorem dX0_range_8 : decode cX0_range 8 = .ok (.dmul, 1) := by decide +kernel
theorem dX0_range_9 : decode cX0_range 9 = .ok (.dreturn, 1) := by decide +kernel
theorem dX0_setLosses_0 : decode cX0_setLosses 0 = .ok (.aload_n 0, 1) := by decide +kernel
theorem dX0_setLosses_1 : decode cX0_setLosses 1 = .ok (.dload_n 1, 1) := by decide +kernel
theorem dX0_setLosses_2 : decode cX0_setLosses 2 = .ok (.putfield 15, 3) := by decide +kernel
theorem dX0_setLosses_5 : decode cX0_setLosses 5 = .ok (.aload_n 0, 1) := by decide +kernel
theorem dX0_setLosses_6 : decode cX0_setLosses 6 = .ok (.dload_n 3, 1) := by decide +kernel
theorem dX0_setLosses_7 : decode cX0_setLosses 7 = .ok (.putfield 19, 3) := by decide +kernel
theorem dX0_setLosses_10 : decode cX0_setLosses 10 = .ok (.return_, 1) := by decide +kernel
theorem dX0_setNoiseLevel_0 : decode cX0_setNoiseLevel 0 = .ok (.aload_n 0, 1) := by decide +kernel
theorem dX0_setNoiseLevel_1 : decode cX0_setNoiseLevel 1 = .ok (.dload_n 1, 1) := by decide +kernel
theorem dX0_setNoiseLevel_2 : decode cX0_setNoiseLevel 2 = .ok (.putfield 22, 3) := by decide +kernel
theorem dX0_setNoiseLevel_5 : decode cX0_setNoiseLevel 5 = .ok (.return_, 1) := by decide +kernel
set_option maxRecDepth 20000 in
theorem ggX0_tell_X0_placeOf : GoodIn wsX0_tell wsX0_placeOf := goodIn_r _ [7, 8, 9, 10, 11, 12, 13, 14, 15, 16, 6, 17, 20, 21, 22, 23, 24, 25, 26] (by decide +kernel) (by decide +kernel)
set_option maxRecDepth 20000 in
theorem gX0_tell_X0_placeOf : GoodIn wsX0_tell (wsV RX0 55 RX0 yX0_placeOf wsX0_placeOf) := goodIn_app (goodIn_of _ (by decide +kernel)) ggX0_tell_X0_placeOf
set_option maxRecDepth 20000 in
theorem ggX0_tell_X3_within : GoodIn wsX0_tell wsX3_within := goodIn_r _ [19] (by decide +kernel) (by decide +kernel)
set_option maxRecDepth 20000 in
theorem gX0_tell_X3_within_n61 : GoodIn wsX0_tell (wsX3_within) := ggX0_tell_X3_within
theorem dX0_tell_0 : decode cX0_tell 0 = .ok (.aload_n 0, 1) := by decide +kernel
theorem dX0_tell_1 : decode cX0_tell 1 = .ok (.iload_n 1, 1) := by decide +kernel
theorem dX0_tell_2 : decode cX0_tell 2 = .ok (.iload_n 2, 1) := by decide +kernel
theorem dX0_tell_3 : decode cX0_tell 3 = .ok (.iload_n 3, 1) := by decide +kernel
theorem dX0_tell_4 : decode cX0_tell 4 = .ok (.invokevirtual 55, 3) := by decide +kernel
theorem dX0_tell_7 : decode cX0_tell 7 = .ok (.istore 6, 2) := by decide +kernel
theorem dX0_tell_9 : decode cX0_tell 9 = .ok (.iload 6, 2) := by decide +kernel
theorem dX0_tell_11 : decode cX0_tell 11 = .ok (.iconst (-1), 1) := by decide +kernel
theorem dX0_tell_12 : decode cX0_tell 12 = .ok (.if_icmp .eq 15, 3) := by decide +kernel
theorem dX0_tell_15 : decode cX0_tell 15 = .ok (.dload 4, 2) := by decide +kernel
theorem dX0_tell_17 : decode cX0_tell 17 = .ok (.dconst 0, 1) := by decide +kernel
theorem dX0_tell_18 : decode cX0_tell 18 = .ok (.ldc2_w 59, 3) := by decide +kernel
theorem dX0_tell_21 : decode cX0_tell 21 = .ok (.invokestatic 61, 3) := by decide +kernel
theorem dX0_tell_24 : decode cX0_tell 24 = .ok (.ifCond .ne 5, 3) := by decide +kernel
theorem dX0_tell_27 : decode cX0_tell 27 = .ok (.iconst 0, 1) := by decide +kernel
theorem dX0_tell_28 : decode cX0_tell 28 = .ok (.ireturn, 1) := by decide +kernel
theorem dX0_tell_29 : decode cX0_tell 29 = .ok (.aload_n 0, 1) := by decide +kernel
theorem dX0_tell_30 : decode cX0_tell 30 = .ok (.getfield 43, 3) := by decide +kernel
theorem dX0_tell_33 : decode cX0_tell 33 = .ok (.iload 6, 2) := by decide +kernel
theorem dX0_tell_35 : decode cX0_tell 35 = .ok (.dload 4, 2) := by decide +kernel
theorem dX0_tell_37 : decode cX0_tell 37 = .ok (.dastore, 1) := by decide +kernel
theorem dX0_tell_38 : decode cX0_tell 38 = .ok (.iconst 1, 1) := by decide +kernel
theorem dX0_tell_39 : decode cX0_tell 39 = .ok (.ireturn, 1) := by decide +kernel
set_option maxRecDepth 20000 in
theorem ggX0_lose_X3_isPing : GoodIn wsX0_lose wsX3_isPing := goodIn_r _ [4] (by decide +kernel) (by decide +kernel)
set_option maxRecDepth 20000 in
theorem gX0_lose_X3_isPing_n65 : GoodIn wsX0_lose (wsX3_isPing) := ggX0_lose_X3_isPing
theorem dX0_lose_0 : decode cX0_lose 0 = .ok (.iload_n 1, 1) := by decide +kernel
theorem dX0_lose_1 : decode cX0_lose 1 = .ok (.invokestatic 65, 3) := by decide +kernel
theorem dX0_lose_4 : decode cX0_lose 4 = .ok (.ifCond .ne 5, 3) := by decide +kernel
theorem dX0_lose_7 : decode cX0_lose 7 = .ok (.iconst 0, 1) := by decide +kernel
theorem dX0_lose_8 : decode cX0_lose 8 = .ok (.ireturn, 1) := by decide +kernel
theorem dX0_lose_9 : decode cX0_lose 9 = .ok (.aload_n 0, 1) := by decide +kernel
theorem dX0_lose_10 : decode cX0_lose 10 = .ok (.getfield 9, 3) := by decide +kernel
theorem dX0_lose_13 : decode cX0_lose 13 = .ok (.iload_n 1, 1) := by decide +kernel
theorem dX0_lose_14 : decode cX0_lose 14 = .ok (.iconst 1, 1) := by decide +kernel
theorem dX0_lose_15 : decode cX0_lose 15 = .ok (.bastore, 1) := by decide +kernel
theorem dX0_lose_16 : decode cX0_lose 16 = .ok (.iconst 1, 1) := by decide +kernel
theorem dX0_lose_17 : decode cX0_lose 17 = .ok (.ireturn, 1) := by decide +kernel
set_option maxRecDepth 20000 in
theorem ggX0_isLost_X3_isPing : GoodIn wsX0_isLost wsX3_isPing := goodIn_r _ [4] (by decide +kernel) (by decide +kernel)
set_option maxRecDepth 20000 in
theorem gX0_isLost_X3_isPing_n65 : GoodIn wsX0_isLost (wsX3_isPing) := ggX0_isLost_X3_isPing
theorem dX0_isLost_0 : decode cX0_isLost 0 = .ok (.iload_n 1, 1) := by decide +kernel
theorem dX0_isLost_1 : decode cX0_isLost 1 = .ok (.invokestatic 65, 3) := by decide +kernel
theorem dX0_isLost_4 : decode cX0_isLost 4 = .ok (.ifCond .eq 16, 3) := by decide +kernel
theorem dX0_isLost_7 : decode cX0_isLost 7 = .ok (.aload_n 0, 1) := by decide +kernel
theorem dX0_isLost_8 : decode cX0_isLost 8 = .ok (.getfield 9, 3) := by decide +kernel
theorem dX0_isLost_11 : decode cX0_isLost 11 = .ok (.iload_n 1, 1) := by decide +kernel
theorem dX0_isLost_12 : decode cX0_isLost 12 = .ok (.baload, 1) := by decide +kernel
theorem dX0_isLost_13 : decode cX0_isLost 13 = .ok (.ifCond .eq 7, 3) := by decide +kernel
theorem dX0_isLost_16 : decode cX0_isLost 16 = .ok (.iconst 1, 1) := by decide +kernel
theorem dX0_isLost_17 : decode cX0_isLost 17 = .ok (.goto 4, 3) := by decide +kernel
theorem dX0_isLost_20 : decode cX0_isLost 20 = .ok (.iconst 0, 1) := by decide +kernel
theorem dX0_isLost_21 : decode cX0_isLost 21 = .ok (.ireturn, 1) := by decide +kernel
set_option maxRecDepth 20000 in
theorem ggX0_isSilent_X0_placeOf : GoodIn wsX0_isSilent wsX0_placeOf := goodIn_r _ [7, 1, 8, 9, 10, 11, 12, 13, 14, 15, 6, 16, 17, 18, 19, 20, 21, 22, 23] (by decide +kernel) (by decide +kernel)
set_option maxRecDepth 20000 in
theorem gX0_isSilent_X0_placeOf : GoodIn wsX0_isSilent (wsV RX0 55 RX0 yX0_placeOf wsX0_placeOf) := goodIn_app (goodIn_of _ (by decide +kernel)) ggX0_isSilent_X0_placeOf
theorem dX0_isSilent_0 : decode cX0_isSilent 0 = .ok (.iconst 0, 1) := by decide +kernel
theorem dX0_isSilent_1 : decode cX0_isSilent 1 = .ok (.istore_n 3, 1) := by decide +kernel
theorem dX0_isSilent_2 : decode cX0_isSilent 2 = .ok (.iload_n 3, 1) := by decide +kernel
theorem dX0_isSilent_3 : decode cX0_isSilent 3 = .ok (.aload_n 0, 1) := by decide +kernel
theorem dX0_isSilent_4 : decode cX0_isSilent 4 = .ok (.getfield 34, 3) := by decide +kernel
theorem dX0_isSilent_7 : decode cX0_isSilent 7 = .ok (.if_icmp .ge 38, 3) := by decide +kernel
theorem dX0_isSilent_10 : decode cX0_isSilent 10 = .ok (.aload_n 0, 1) := by decide +kernel
theorem dX0_isSilent_11 : decode cX0_isSilent 11 = .ok (.iload_n 1, 1) := by decide +kernel
theorem dX0_isSilent_12 : decode cX0_isSilent 12 = .ok (.iload_n 2, 1) := by decide +kernel
theorem dX0_isSilent_13 : decode cX0_isSilent 13 = .ok (.iload_n 3, 1) := by decide +kernel
theorem dX0_isSilent_14 : decode cX0_isSilent 14 = .ok (.invokevirtual 55, 3) := by decide +kernel
theorem dX0_isSilent_17 : decode cX0_isSilent 17 = .ok (.istore 4, 2) := by decide +kernel
theorem dX0_isSilent_19 : decode cX0_isSilent 19 = .ok (.iload 4, 2) := by decide +kernel
theorem dX0_isSilent_21 : decode cX0_isSilent 21 = .ok (.iconst (-1), 1) := by decide +kernel
theorem dX0_isSilent_22 : decode cX0_isSilent 22 = .ok (.if_icmp .eq 17, 3) := by decide +kernel
theorem dX0_isSilent_25 : decode cX0_isSilent 25 = .ok (.aload_n 0, 1) := by decide +kernel
theorem dX0_isSilent_26 : decode cX0_isSilent 26 = .ok (.getfield 43, 3) := by decide +kernel
theorem dX0_isSilent_29 : decode cX0_isSilent 29 = .ok (.iload 4, 2) := by decide +kernel
theorem dX0_isSilent_31 : decode cX0_isSilent 31 = .ok (.daload, 1) := by decide +kernel
theorem dX0_isSilent_32 : decode cX0_isSilent 32 = .ok (.dconst 0, 1) := by decide +kernel
theorem dX0_isSilent_33 : decode cX0_isSilent 33 = .ok (.dcmp .l, 1) := by decide +kernel
theorem dX0_isSilent_34 : decode cX0_isSilent 34 = .ok (.ifCond .lt 5, 3) := by decide +kernel
theorem dX0_isSilent_37 : decode cX0_isSilent 37 = .ok (.iconst 0, 1) := by decide +kernel
theorem dX0_isSilent_38 : decode cX0_isSilent 38 = .ok (.ireturn, 1) := by decide +kernel
theorem dX0_isSilent_39 : decode cX0_isSilent 39 = .ok (.iinc 3 1, 3) := by decide +kernel
theorem dX0_isSilent_42 : decode cX0_isSilent 42 = .ok (.goto (-40), 3) := by decide +kernel
theorem dX0_isSilent_45 : decode cX0_isSilent 45 = .ok (.iconst 1, 1) := by decide +kernel
theorem dX0_isSilent_46 : decode cX0_isSilent 46 = .ok (.ireturn, 1) := by decide +kernel
set_option maxRecDepth 20000 in
theorem ggX0_strength_X0_placeOf : GoodIn wsX0_strength wsX0_placeOf := goodIn_r _ [14, 15, 16, 17, 18, 19, 20, 21, 22, 23, 13, 24, 35, 36, 37, 38, 39, 40, 41] (by decide +kernel) (by decide +kernel)
set_option maxRecDepth 20000 in
theorem gX0_strength_X0_placeOf : GoodIn wsX0_strength (wsV RX0 55 RX0 yX0_placeOf wsX0_placeOf) := goodIn_app (goodIn_of _ (by decide +kernel)) ggX0_strength_X0_placeOf
set_option maxRecDepth 20000 in
theorem ggX0_strength_X0_isLost : GoodIn wsX0_strength wsX0_isLost := goodIn_r _ [28, 29, 19, 17, 20, 35, 36, 37, 38, 39, 40, 41] (by decide +kernel) (by decide +kernel)
set_option maxRecDepth 20000 in
theorem gX0_strength_X0_isLost : GoodIn wsX0_strength (wsV RX0 69 RX0 yX0_isLost wsX0_isLost) := goodIn_app (goodIn_of _ (by decide +kernel)) ggX0_strength_X0_isLost
set_option maxRecDepth 20000 in
theorem ggX0_strength_X0_range : GoodIn wsX0_strength wsX0_range := goodIn_r _ [33, 34, 35, 36, 37, 38, 39, 40, 41] (by decide +kernel) (by decide +kernel)
set_option maxRecDepth 20000 in
theorem gX0_strength_X0_range : GoodIn wsX0_strength (wsV RX0 72 RX0 yX0_range wsX0_range) := goodIn_app (goodIn_of _ (by decide +kernel)) ggX0_strength_X0_range
theorem dX0_strength_0 : decode cX0_strength 0 = .ok (.aload_n 0, 1) := by decide +kernel
theorem dX0_strength_1 : decode cX0_strength 1 = .ok (.iload_n 1, 1) := by decide +kernel
theorem dX0_strength_2 : decode cX0_strength 2 = .ok (.iload_n 2, 1) := by decide +kernel
theorem dX0_strength_3 : decode cX0_strength 3 = .ok (.iload_n 3, 1) := by decide +kernel
theorem dX0_strength_4 : decode cX0_strength 4 = .ok (.invokevirtual 55, 3) := by decide +kernel
theorem dX0_strength_7 : decode cX0_strength 7 = .ok (.istore 4, 2) := by decide +kernel
theorem dX0_strength_9 : decode cX0_strength 9 = .ok (.iload 4, 2) := by decide +kernel
theorem dX0_strength_11 : decode cX0_strength 11 = .ok (.iconst (-1), 1) := by decide +kernel
theorem dX0_strength_12 : decode cX0_strength 12 = .ok (.if_icmp .eq 23, 3) := by decide +kernel
theorem dX0_strength_15 : decode cX0_strength 15 = .ok (.aload_n 0, 1) := by decide +kernel
theorem dX0_strength_16 : decode cX0_strength 16 = .ok (.getfield 43, 3) := by decide +kernel
theorem dX0_strength_19 : decode cX0_strength 19 = .ok (.iload 4, 2) := by decide +kernel
theorem dX0_strength_21 : decode cX0_strength 21 = .ok (.daload, 1) := by decide +kernel
theorem dX0_strength_22 : decode cX0_strength 22 = .ok (.dconst 0, 1) := by decide +kernel
theorem dX0_strength_23 : decode cX0_strength 23 = .ok (.dcmp .g, 1) := by decide +kernel
theorem dX0_strength_24 : decode cX0_strength 24 = .ok (.ifCond .lt 11, 3) := by decide +kernel
theorem dX0_strength_27 : decode cX0_strength 27 = .ok (.aload_n 0, 1) := by decide +kernel
theorem dX0_strength_28 : decode cX0_strength 28 = .ok (.iload_n 2, 1) := by decide +kernel
theorem dX0_strength_29 : decode cX0_strength 29 = .ok (.invokevirtual 69, 3) := by decide +kernel
theorem dX0_strength_32 : decode cX0_strength 32 = .ok (.ifCond .eq 5, 3) := by decide +kernel
theorem dX0_strength_35 : decode cX0_strength 35 = .ok (.lconst 0, 1) := by decide +kernel
theorem dX0_strength_36 : decode cX0_strength 36 = .ok (.lreturn, 1) := by decide +kernel
theorem dX0_strength_37 : decode cX0_strength 37 = .ok (.aload_n 0, 1) := by decide +kernel
theorem dX0_strength_38 : decode cX0_strength 38 = .ok (.iload_n 3, 1) := by decide +kernel
theorem dX0_strength_39 : decode cX0_strength 39 = .ok (.invokevirtual 72, 3) := by decide +kernel
theorem dX0_strength_42 : decode cX0_strength 42 = .ok (.dstore 5, 2) := by decide +kernel
theorem dX0_strength_44 : decode cX0_strength 44 = .ok (.aload_n 0, 1) := by decide +kernel
theorem dX0_strength_45 : decode cX0_strength 45 = .ok (.getfield 43, 3) := by decide +kernel
theorem dX0_strength_48 : decode cX0_strength 48 = .ok (.iload 4, 2) := by decide +kernel
theorem dX0_strength_50 : decode cX0_strength 50 = .ok (.daload, 1) := by decide +kernel
theorem dX0_strength_51 : decode cX0_strength 51 = .ok (.aload_n 0, 1) := by decide +kernel
theorem dX0_strength_52 : decode cX0_strength 52 = .ok (.getfield 15, 3) := by decide +kernel
theorem dX0_strength_55 : decode cX0_strength 55 = .ok (.dload 5, 2) := by decide +kernel
theorem dX0_strength_57 : decode cX0_strength 57 = .ok (.dmul, 1) := by decide +kernel
theorem dX0_strength_58 : decode cX0_strength 58 = .ok (.dadd, 1) := by decide +kernel
theorem dX0_strength_59 : decode cX0_strength 59 = .ok (.aload_n 0, 1) := by decide +kernel
theorem dX0_strength_60 : decode cX0_strength 60 = .ok (.getfield 19, 3) := by decide +kernel
theorem dX0_strength_63 : decode cX0_strength 63 = .ok (.dload 5, 2) := by decide +kernel
theorem dX0_strength_65 : decode cX0_strength 65 = .ok (.dmul, 1) := by decide +kernel
theorem dX0_strength_66 : decode cX0_strength 66 = .ok (.dload 5, 2) := by decide +kernel
theorem dX0_strength_68 : decode cX0_strength 68 = .ok (.dmul, 1) := by decide +kernel
theorem dX0_strength_69 : decode cX0_strength 69 = .ok (.ldc2_w 76, 3) := by decide +kernel
theorem dX0_strength_72 : decode cX0_strength 72 = .ok (.dmul, 1) := by decide +kernel
theorem dX0_strength_73 : decode cX0_strength 73 = .ok (.dadd, 1) := by decide +kernel
theorem dX0_strength_74 : decode cX0_strength 74 = .ok (.aload_n 0, 1) := by decide +kernel
theorem dX0_strength_75 : decode cX0_strength 75 = .ok (.getfield 22, 3) := by decide +kernel
theorem dX0_strength_78 : decode cX0_strength 78 = .ok (.dsub, 1) := by decide +kernel
theorem dX0_strength_79 : decode cX0_strength 79 = .ok (.d2l, 1) := by decide +kernel
theorem dX0_strength_80 : decode cX0_strength 80 = .ok (.lstore 7, 2) := by decide +kernel
theorem dX0_strength_82 : decode cX0_strength 82 = .ok (.lconst 0, 1) := by decide +kernel
theorem dX0_strength_83 : decode cX0_strength 83 = .ok (.lload 7, 2) := by decide +kernel
theorem dX0_strength_85 : decode cX0_strength 85 = .ok (.invokestatic 78, 3) := by decide +kernel
theorem dX0_strength_88 : decode cX0_strength 88 = .ok (.lreturn, 1) := by decide +kernel
set_option maxRecDepth 20000 in
theorem ggX0_sampleFor_X0_range : GoodIn wsX0_sampleFor wsX0_range := goodIn_r _ [6, 7, 8, 9, 10, 11, 12, 13, 14] (by decide +kernel) (by decide +kernel)
set_option maxRecDepth 20000 in
theorem gX0_sampleFor_X0_range : GoodIn wsX0_sampleFor (wsV RX0 72 RX0 yX0_range wsX0_range) := goodIn_app (goodIn_of _ (by decide +kernel)) ggX0_sampleFor_X0_range
theorem dX0_sampleFor_0 : decode cX0_sampleFor 0 = .ok (.iconst 0, 1) := by decide +kernel
theorem dX0_sampleFor_1 : decode cX0_sampleFor 1 = .ok (.istore_n 3, 1) := by decide +kernel
theorem dX0_sampleFor_2 : decode cX0_sampleFor 2 = .ok (.iload_n 3, 1) := by decide +kernel
theorem dX0_sampleFor_3 : decode cX0_sampleFor 3 = .ok (.aload_n 0, 1) := by decide +kernel
theorem dX0_sampleFor_4 : decode cX0_sampleFor 4 = .ok (.getfield 34, 3) := by decide +kernel
theorem dX0_sampleFor_7 : decode cX0_sampleFor 7 = .ok (.iconst 1, 1) := by decide +kernel
theorem dX0_sampleFor_8 : decode cX0_sampleFor 8 = .ok (.isub, 1) := by decide +kernel
theorem dX0_sampleFor_9 : decode cX0_sampleFor 9 = .ok (.if_icmp .ge 19, 3) := by decide +kernel
theorem dX0_sampleFor_12 : decode cX0_sampleFor 12 = .ok (.aload_n 0, 1) := by decide +kernel
theorem dX0_sampleFor_13 : decode cX0_sampleFor 13 = .ok (.iload_n 3, 1) := by decide +kernel
theorem dX0_sampleFor_14 : decode cX0_sampleFor 14 = .ok (.invokevirtual 72, 3) := by decide +kernel
theorem dX0_sampleFor_17 : decode cX0_sampleFor 17 = .ok (.dload_n 1, 1) := by decide +kernel
theorem dX0_sampleFor_18 : decode cX0_sampleFor 18 = .ok (.dcmp .g, 1) := by decide +kernel
theorem dX0_sampleFor_19 : decode cX0_sampleFor 19 = .ok (.ifCond .ge 9, 3) := by decide +kernel
theorem dX0_sampleFor_22 : decode cX0_sampleFor 22 = .ok (.iinc 3 1, 3) := by decide +kernel
theorem dX0_sampleFor_25 : decode cX0_sampleFor 25 = .ok (.goto (-23), 3) := by decide +kernel
theorem dX0_sampleFor_28 : decode cX0_sampleFor 28 = .ok (.iload_n 3, 1) := by decide +kernel
theorem dX0_sampleFor_29 : decode cX0_sampleFor 29 = .ok (.ireturn, 1) := by decide +kernel
set_option maxRecDepth 20000 in
theorem ggX0_placeOf_X3_isFrequency : GoodIn wsX0_placeOf wsX3_isFrequency := goodIn_r _ [4] (by decide +kernel) (by decide +kernel)
set_option maxRecDepth 20000 in
theorem gX0_placeOf_X3_isFrequency_n81 : GoodIn wsX0_placeOf (wsX3_isFrequency) := ggX0_placeOf_X3_isFrequency
set_option maxRecDepth 20000 in
theorem ggX0_placeOf_X3_isPing : GoodIn wsX0_placeOf wsX3_isPing := goodIn_r _ [6] (by decide +kernel) (by decide +kernel)
set_option maxRecDepth 20000 in
theorem gX0_placeOf_X3_isPing_n65 : GoodIn wsX0_placeOf (wsX3_isPing) := ggX0_placeOf_X3_isPing
set_option maxRecDepth 20000 in
theorem ggX0_placeOf_X0_isSample : GoodIn wsX0_placeOf wsX0_isSample := goodIn_r _ [11, 1, 12, 13, 14, 15, 16, 17, 18] (by decide +kernel) (by decide +kernel)
set_option maxRecDepth 20000 in
theorem gX0_placeOf_X0_isSample : GoodIn wsX0_placeOf (wsV RX0 84 RX0 yX0_isSample wsX0_isSample) := goodIn_app (goodIn_of _ (by decide +kernel)) ggX0_placeOf_X0_isSample
theorem dX0_placeOf_0 : decode cX0_placeOf 0 = .ok (.iload_n 1, 1) := by decide +kernel
theorem dX0_placeOf_1 : decode cX0_placeOf 1 = .ok (.invokestatic 81, 3) := by decide +kernel
theorem dX0_placeOf_4 : decode cX0_placeOf 4 = .ok (.ifCond .eq 18, 3) := by decide +kernel
theorem dX0_placeOf_7 : decode cX0_placeOf 7 = .ok (.iload_n 2, 1) := by decide +kernel
theorem dX0_placeOf_8 : decode cX0_placeOf 8 = .ok (.invokestatic 65, 3) := by decide +kernel
theorem dX0_placeOf_11 : decode cX0_placeOf 11 = .ok (.ifCond .eq 11, 3) := by decide +kernel
theorem dX0_placeOf_14 : decode cX0_placeOf 14 = .ok (.aload_n 0, 1) := by decide +kernel
theorem dX0_placeOf_15 : decode cX0_placeOf 15 = .ok (.iload_n 3, 1) := by decide +kernel
theorem dX0_placeOf_16 : decode cX0_placeOf 16 = .ok (.invokevirtual 84, 3) := by decide +kernel
theorem dX0_placeOf_19 : decode cX0_placeOf 19 = .ok (.ifCond .ne 5, 3) := by decide +kernel
theorem dX0_placeOf_22 : decode cX0_placeOf 22 = .ok (.iconst (-1), 1) := by decide +kernel
theorem dX0_placeOf_23 : decode cX0_placeOf 23 = .ok (.ireturn, 1) := by decide +kernel
theorem dX0_placeOf_24 : decode cX0_placeOf 24 = .ok (.iload_n 1, 1) := by decide +kernel
theorem dX0_placeOf_25 : decode cX0_placeOf 25 = .ok (.bipush 32, 2) := by decide +kernel
theorem dX0_placeOf_27 : decode cX0_placeOf 27 = .ok (.imul, 1) := by decide +kernel
theorem dX0_placeOf_28 : decode cX0_placeOf 28 = .ok (.iload_n 2, 1) := by decide +kernel
theorem dX0_placeOf_29 : decode cX0_placeOf 29 = .ok (.iadd, 1) := by decide +kernel
theorem dX0_placeOf_30 : decode cX0_placeOf 30 = .ok (.aload_n 0, 1) := by decide +kernel
theorem dX0_placeOf_31 : decode cX0_placeOf 31 = .ok (.getfield 34, 3) := by decide +kernel
theorem dX0_placeOf_34 : decode cX0_placeOf 34 = .ok (.imul, 1) := by decide +kernel
theorem dX0_placeOf_35 : decode cX0_placeOf 35 = .ok (.iload_n 3, 1) := by decide +kernel
theorem dX0_placeOf_36 : decode cX0_placeOf 36 = .ok (.iadd, 1) := by decide +kernel
theorem dX0_placeOf_37 : decode cX0_placeOf 37 = .ok (.ireturn, 1) := by decide +kernel
theorem dX1_init_0 : decode cX1_init 0 = .ok (.aload_n 0, 1) := by decide +kernel
theorem dX1_init_1 : decode cX1_init 1 = .ok (.invokespecial 3, 3) := by decide +kernel
theorem dX1_init_4 : decode cX1_init 4 = .ok (.aload_n 0, 1) := by decide +kernel
theorem dX1_init_5 : decode cX1_init 5 = .ok (.bipush 20, 2) := by decide +kernel
theorem dX1_init_7 : decode cX1_init 7 = .ok (.newarray .double, 2) := by decide +kernel
theorem dX1_init_9 : decode cX1_init 9 = .ok (.putfield 9, 3) := by decide +kernel
theorem dX1_init_12 : decode cX1_init 12 = .ok (.aload_n 0, 1) := by decide +kernel
theorem dX1_init_13 : decode cX1_init 13 = .ok (.bipush 20, 2) := by decide +kernel
theorem dX1_init_15 : decode cX1_init 15 = .ok (.newarray .double, 2) := by decide +kernel
theorem dX1_init_17 : decode cX1_init 17 = .ok (.putfield 15, 3) := by decide +kernel
theorem dX1_init_20 : decode cX1_init 20 = .ok (.aload_n 0, 1) := by decide +kernel
theorem dX1_init_21 : decode cX1_init 21 = .ok (.iconst 0, 1) := by decide +kernel
theorem dX1_init_22 : decode cX1_init 22 = .ok (.putfield 18, 3) := by decide +kernel
theorem dX1_init_25 : decode cX1_init 25 = .ok (.return_, 1) := by decide +kernel
set_option maxRecDepth 20000 in
theorem ggX1_put_X1_rowsUpTo : GoodIn wsX1_put wsX1_rowsUpTo := goodIn_r _ [8, 3, 1, 9, 10, 11] (by decide +kernel) (by decide +kernel)
set_option maxRecDepth 20000 in
theorem gX1_put_X1_rowsUpTo : GoodIn wsX1_put (wsV RX1 22 RX1 yX1_rowsUpTo wsX1_rowsUpTo) := goodIn_app (goodIn_of _ (by decide +kernel)) ggX1_put_X1_rowsUpTo
theorem dX1_put_0 : decode cX1_put 0 = .ok (.aload_n 0, 1) := by decide +kernel
theorem dX1_put_1 : decode cX1_put 1 = .ok (.dload_n 1, 1) := by decide +kernel
theorem dX1_put_2 : decode cX1_put 2 = .ok (.invokevirtual 22, 3) := by decide +kernel
theorem dX1_put_5 : decode cX1_put 5 = .ok (.istore 5, 2) := by decide +kernel
theorem dX1_put_7 : decode cX1_put 7 = .ok (.iload 5, 2) := by decide +kernel
theorem dX1_put_9 : decode cX1_put 9 = .ok (.ifCond .le 29, 3) := by decide +kernel
theorem dX1_put_12 : decode cX1_put 12 = .ok (.aload_n 0, 1) := by decide +kernel
theorem dX1_put_13 : decode cX1_put 13 = .ok (.getfield 9, 3) := by decide +kernel
theorem dX1_put_16 : decode cX1_put 16 = .ok (.iload 5, 2) := by decide +kernel
theorem dX1_put_18 : decode cX1_put 18 = .ok (.iconst 1, 1) := by decide +kernel
theorem dX1_put_19 : decode cX1_put 19 = .ok (.isub, 1) := by decide +kernel
theorem dX1_put_20 : decode cX1_put 20 = .ok (.daload, 1) := by decide +kernel
theorem dX1_put_21 : decode cX1_put 21 = .ok (.dload_n 1, 1) := by decide +kernel
theorem dX1_put_22 : decode cX1_put 22 = .ok (.dcmp .l, 1) := by decide +kernel
theorem dX1_put_23 : decode cX1_put 23 = .ok (.ifCond .ne 15, 3) := by decide +kernel
theorem dX1_put_26 : decode cX1_put 26 = .ok (.aload_n 0, 1) := by decide +kernel
theorem dX1_put_27 : decode cX1_put 27 = .ok (.getfield 15, 3) := by decide +kernel
theorem dX1_put_30 : decode cX1_put 30 = .ok (.iload 5, 2) := by decide +kernel
theorem dX1_put_32 : decode cX1_put 32 = .ok (.iconst 1, 1) := by decide +kernel
theorem dX1_put_33 : decode cX1_put 33 = .ok (.isub, 1) := by decide +kernel
theorem dX1_put_34 : decode cX1_put 34 = .ok (.dload_n 3, 1) := by decide +kernel
theorem dX1_put_35 : decode cX1_put 35 = .ok (.dastore, 1) := by decide +kernel
theorem dX1_put_36 : decode cX1_put 36 = .ok (.iconst 1, 1) := by decide +kernel
theorem dX1_put_37 : decode cX1_put 37 = .ok (.ireturn, 1) := by decide +kernel
theorem dX1_put_38 : decode cX1_put 38 = .ok (.aload_n 0, 1) := by decide +kernel
theorem dX1_put_39 : decode cX1_put 39 = .ok (.getfield 18, 3) := by decide +kernel
theorem dX1_put_42 : decode cX1_put 42 = .ok (.bipush 20, 2) := by decide +kernel
theorem dX1_put_44 : decode cX1_put 44 = .ok (.if_icmp .lt 5, 3) := by decide +kernel
theorem dX1_put_47 : decode cX1_put 47 = .ok (.iconst 0, 1) := by decide +kernel
theorem dX1_put_48 : decode cX1_put 48 = .ok (.ireturn, 1) := by decide +kernel
theorem dX1_put_49 : decode cX1_put 49 = .ok (.aload_n 0, 1) := by decide +kernel
theorem dX1_put_50 : decode cX1_put 50 = .ok (.getfield 18, 3) := by decide +kernel
theorem dX1_put_53 : decode cX1_put 53 = .ok (.istore 6, 2) := by decide +kernel
theorem dX1_put_55 : decode cX1_put 55 = .ok (.iload 6, 2) := by decide +kernel
theorem dX1_put_57 : decode cX1_put 57 = .ok (.iload 5, 2) := by decide +kernel
theorem dX1_put_59 : decode cX1_put 59 = .ok (.if_icmp .le 41, 3) := by decide +kernel
theorem dX1_put_62 : decode cX1_put 62 = .ok (.aload_n 0, 1) := by decide +kernel
theorem dX1_put_63 : decode cX1_put 63 = .ok (.getfield 9, 3) := by decide +kernel
theorem dX1_put_66 : decode cX1_put 66 = .ok (.iload 6, 2) := by decide +kernel
theorem dX1_put_68 : decode cX1_put 68 = .ok (.aload_n 0, 1) := by decide +kernel
theorem dX1_put_69 : decode cX1_put 69 = .ok (.getfield 9, 3) := by decide +kernel
theorem dX1_put_72 : decode cX1_put 72 = .ok (.iload 6, 2) := by decide +kernel
theorem dX1_put_74 : decode cX1_put 74 = .ok (.iconst 1, 1) := by decide +kernel
theorem dX1_put_75 : decode cX1_put 75 = .ok (.isub, 1) := by decide +kernel
theorem dX1_put_76 : decode cX1_put 76 = .ok (.daload, 1) := by decide +kernel
theorem dX1_put_77 : decode cX1_put 77 = .ok (.dastore, 1) := by decide +kernel
theorem dX1_put_78 : decode cX1_put 78 = .ok (.aload_n 0, 1) := by decide +kernel
theorem dX1_put_79 : decode cX1_put 79 = .ok (.getfield 15, 3) := by decide +kernel
theorem dX1_put_82 : decode cX1_put 82 = .ok (.iload 6, 2) := by decide +kernel
theorem dX1_put_84 : decode cX1_put 84 = .ok (.aload_n 0, 1) := by decide +kernel
theorem dX1_put_85 : decode cX1_put 85 = .ok (.getfield 15, 3) := by decide +kernel
theorem dX1_put_88 : decode cX1_put 88 = .ok (.iload 6, 2) := by decide +kernel
theorem dX1_put_90 : decode cX1_put 90 = .ok (.iconst 1, 1) := by decide +kernel
theorem dX1_put_91 : decode cX1_put 91 = .ok (.isub, 1) := by decide +kernel
theorem dX1_put_92 : decode cX1_put 92 = .ok (.daload, 1) := by decide +kernel
theorem dX1_put_93 : decode cX1_put 93 = .ok (.dastore, 1) := by decide +kernel
theorem dX1_put_94 : decode cX1_put 94 = .ok (.iinc 6 (-1), 3) := by decide +kernel
theorem dX1_put_97 : decode cX1_put 97 = .ok (.goto (-42), 3) := by decide +kernel
theorem dX1_put_100 : decode cX1_put 100 = .ok (.aload_n 0, 1) := by decide +kernel
theorem dX1_put_101 : decode cX1_put 101 = .ok (.getfield 9, 3) := by decide +kernel
theorem dX1_put_104 : decode cX1_put 104 = .ok (.iload 5, 2) := by decide +kernel
theorem dX1_put_106 : decode cX1_put 106 = .ok (.dload_n 1, 1) := by decide +kernel
theorem dX1_put_107 : decode cX1_put 107 = .ok (.dastore, 1) := by decide +kernel
theorem dX1_put_108 : decode cX1_put 108 = .ok (.aload_n 0, 1) := by decide +kernel
theorem dX1_put_109 : decode cX1_put 109 = .ok (.getfield 15, 3) := by decide +kernel
theorem dX1_put_112 : decode cX1_put 112 = .ok (.iload 5, 2) := by decide +kernel
theorem dX1_put_114 : decode cX1_put 114 = .ok (.dload_n 3, 1) := by decide +kernel
theorem dX1_put_115 : decode cX1_put 115 = .ok (.dastore, 1) := by decide +kernel
theorem dX1_put_116 : decode cX1_put 116 = .ok (.aload_n 0, 1) := by decide +kernel
theorem dX1_put_117 : decode cX1_put 117 = .ok (.dup, 1) := by decide +kernel
theorem dX1_put_118 : decode cX1_put 118 = .ok (.getfield 18, 3) := by decide +kernel
theorem dX1_put_121 : decode cX1_put 121 = .ok (.iconst 1, 1) := by decide +kernel
theorem dX1_put_122 : decode cX1_put 122 = .ok (.iadd, 1) := by decide +kernel
theorem dX1_put_123 : decode cX1_put 123 = .ok (.putfield 18, 3) := by decide +kernel
theorem dX1_put_126 : decode cX1_put 126 = .ok (.iconst 1, 1) := by decide +kernel
theorem dX1_put_127 : decode cX1_put 127 = .ok (.ireturn, 1) := by decide +kernel
set_option maxRecDepth 20000 in
theorem ggX1_stepAt_X1_rowsUpTo : GoodIn wsX1_stepAt wsX1_rowsUpTo := goodIn_r _ [11, 1, 12, 13, 14, 15] (by decide +kernel) (by decide +kernel)
set_option maxRecDepth 20000 in
theorem gX1_stepAt_X1_rowsUpTo : GoodIn wsX1_stepAt (wsV RX1 22 RX1 yX1_rowsUpTo wsX1_rowsUpTo) := goodIn_app (goodIn_of _ (by decide +kernel)) ggX1_stepAt_X1_rowsUpTo
theorem dX1_stepAt_0 : decode cX1_stepAt 0 = .ok (.aload_n 0, 1) := by decide +kernel
theorem dX1_stepAt_1 : decode cX1_stepAt 1 = .ok (.getfield 18, 3) := by decide +kernel
theorem dX1_stepAt_4 : decode cX1_stepAt 4 = .ok (.ifCond .ne 5, 3) := by decide +kernel
theorem dX1_stepAt_7 : decode cX1_stepAt 7 = .ok (.dload_n 3, 1) := by decide +kernel
theorem dX1_stepAt_8 : decode cX1_stepAt 8 = .ok (.dreturn, 1) := by decide +kernel
theorem dX1_stepAt_9 : decode cX1_stepAt 9 = .ok (.aload_n 0, 1) := by decide +kernel
theorem dX1_stepAt_10 : decode cX1_stepAt 10 = .ok (.getfield 15, 3) := by decide +kernel
theorem dX1_stepAt_13 : decode cX1_stepAt 13 = .ok (.iconst 0, 1) := by decide +kernel
theorem dX1_stepAt_14 : decode cX1_stepAt 14 = .ok (.aload_n 0, 1) := by decide +kernel
theorem dX1_stepAt_15 : decode cX1_stepAt 15 = .ok (.dload_n 1, 1) := by decide +kernel
theorem dX1_stepAt_16 : decode cX1_stepAt 16 = .ok (.invokevirtual 22, 3) := by decide +kernel
theorem dX1_stepAt_19 : decode cX1_stepAt 19 = .ok (.iconst 1, 1) := by decide +kernel
theorem dX1_stepAt_20 : decode cX1_stepAt 20 = .ok (.isub, 1) := by decide +kernel
theorem dX1_stepAt_21 : decode cX1_stepAt 21 = .ok (.invokestatic 26, 3) := by decide +kernel
theorem dX1_stepAt_24 : decode cX1_stepAt 24 = .ok (.daload, 1) := by decide +kernel
theorem dX1_stepAt_25 : decode cX1_stepAt 25 = .ok (.dreturn, 1) := by decide +kernel
set_option maxRecDepth 20000 in
theorem ggX1_slopeAt_X1_rowsUpTo : GoodIn wsX1_slopeAt wsX1_rowsUpTo := goodIn_r _ [8, 1, 3, 20, 21, 22] (by decide +kernel) (by decide +kernel)
set_option maxRecDepth 20000 in
theorem gX1_slopeAt_X1_rowsUpTo : GoodIn wsX1_slopeAt (wsV RX1 22 RX1 yX1_rowsUpTo wsX1_rowsUpTo) := goodIn_app (goodIn_of _ (by decide +kernel)) ggX1_slopeAt_X1_rowsUpTo
set_option maxRecDepth 20000 in
theorem ggX1_slopeAt_X1_stepAt : GoodIn wsX1_slopeAt wsX1_stepAt := goodIn_r _ [12, 1, 2, 13, 14, 15, 16, 4, 5, 6, 7, 8, 3, 20, 21, 22] (by decide +kernel) (by decide +kernel)
set_option maxRecDepth 20000 in
theorem gX1_slopeAt_X1_stepAt : GoodIn wsX1_slopeAt (wsV RX1 32 RX1 yX1_stepAt wsX1_stepAt) := goodIn_app (goodIn_of _ (by decide +kernel)) ggX1_slopeAt_X1_stepAt
set_option maxRecDepth 20000 in
theorem ggX1_slopeAt_X3_over : GoodIn wsX1_slopeAt wsX3_over := goodIn_r _ [19] (by decide +kernel) (by decide +kernel)
set_option maxRecDepth 20000 in
theorem gX1_slopeAt_X3_over_n36 : GoodIn wsX1_slopeAt (wsX3_over) := ggX1_slopeAt_X3_over
theorem dX1_slopeAt_0 : decode cX1_slopeAt 0 = .ok (.aload_n 0, 1) := by decide +kernel
theorem dX1_slopeAt_1 : decode cX1_slopeAt 1 = .ok (.dload_n 1, 1) := by decide +kernel
theorem dX1_slopeAt_2 : decode cX1_slopeAt 2 = .ok (.invokevirtual 22, 3) := by decide +kernel
theorem dX1_slopeAt_5 : decode cX1_slopeAt 5 = .ok (.istore 5, 2) := by decide +kernel
theorem dX1_slopeAt_7 : decode cX1_slopeAt 7 = .ok (.iload 5, 2) := by decide +kernel
theorem dX1_slopeAt_9 : decode cX1_slopeAt 9 = .ok (.iconst 1, 1) := by decide +kernel
theorem dX1_slopeAt_10 : decode cX1_slopeAt 10 = .ok (.if_icmp .lt 12, 3) := by decide +kernel
theorem dX1_slopeAt_13 : decode cX1_slopeAt 13 = .ok (.iload 5, 2) := by decide +kernel
theorem dX1_slopeAt_15 : decode cX1_slopeAt 15 = .ok (.aload_n 0, 1) := by decide +kernel
theorem dX1_slopeAt_16 : decode cX1_slopeAt 16 = .ok (.getfield 18, 3) := by decide +kernel
theorem dX1_slopeAt_19 : decode cX1_slopeAt 19 = .ok (.if_icmp .lt 10, 3) := by decide +kernel
theorem dX1_slopeAt_22 : decode cX1_slopeAt 22 = .ok (.aload_n 0, 1) := by decide +kernel
theorem dX1_slopeAt_23 : decode cX1_slopeAt 23 = .ok (.dload_n 1, 1) := by decide +kernel
theorem dX1_slopeAt_24 : decode cX1_slopeAt 24 = .ok (.dload_n 3, 1) := by decide +kernel
theorem dX1_slopeAt_25 : decode cX1_slopeAt 25 = .ok (.invokevirtual 32, 3) := by decide +kernel
theorem dX1_slopeAt_28 : decode cX1_slopeAt 28 = .ok (.dreturn, 1) := by decide +kernel
theorem dX1_slopeAt_29 : decode cX1_slopeAt 29 = .ok (.aload_n 0, 1) := by decide +kernel
theorem dX1_slopeAt_30 : decode cX1_slopeAt 30 = .ok (.getfield 15, 3) := by decide +kernel
theorem dX1_slopeAt_33 : decode cX1_slopeAt 33 = .ok (.iload 5, 2) := by decide +kernel
theorem dX1_slopeAt_35 : decode cX1_slopeAt 35 = .ok (.iconst 1, 1) := by decide +kernel
theorem dX1_slopeAt_36 : decode cX1_slopeAt 36 = .ok (.isub, 1) := by decide +kernel
theorem dX1_slopeAt_37 : decode cX1_slopeAt 37 = .ok (.daload, 1) := by decide +kernel
theorem dX1_slopeAt_38 : decode cX1_slopeAt 38 = .ok (.dstore 6, 2) := by decide +kernel
theorem dX1_slopeAt_40 : decode cX1_slopeAt 40 = .ok (.aload_n 0, 1) := by decide +kernel
theorem dX1_slopeAt_41 : decode cX1_slopeAt 41 = .ok (.getfield 15, 3) := by decide +kernel
theorem dX1_slopeAt_44 : decode cX1_slopeAt 44 = .ok (.iload 5, 2) := by decide +kernel
theorem dX1_slopeAt_46 : decode cX1_slopeAt 46 = .ok (.daload, 1) := by decide +kernel
theorem dX1_slopeAt_47 : decode cX1_slopeAt 47 = .ok (.dstore 8, 2) := by decide +kernel
theorem dX1_slopeAt_49 : decode cX1_slopeAt 49 = .ok (.aload_n 0, 1) := by decide +kernel
theorem dX1_slopeAt_50 : decode cX1_slopeAt 50 = .ok (.getfield 9, 3) := by decide +kernel
theorem dX1_slopeAt_53 : decode cX1_slopeAt 53 = .ok (.iload 5, 2) := by decide +kernel
theorem dX1_slopeAt_55 : decode cX1_slopeAt 55 = .ok (.iconst 1, 1) := by decide +kernel
theorem dX1_slopeAt_56 : decode cX1_slopeAt 56 = .ok (.isub, 1) := by decide +kernel
theorem dX1_slopeAt_57 : decode cX1_slopeAt 57 = .ok (.daload, 1) := by decide +kernel
theorem dX1_slopeAt_58 : decode cX1_slopeAt 58 = .ok (.dstore 10, 2) := by decide +kernel
theorem dX1_slopeAt_60 : decode cX1_slopeAt 60 = .ok (.aload_n 0, 1) := by decide +kernel
theorem dX1_slopeAt_61 : decode cX1_slopeAt 61 = .ok (.getfield 9, 3) := by decide +kernel
theorem dX1_slopeAt_64 : decode cX1_slopeAt 64 = .ok (.iload 5, 2) := by decide +kernel
theorem dX1_slopeAt_66 : decode cX1_slopeAt 66 = .ok (.daload, 1) := by decide +kernel
theorem dX1_slopeAt_67 : decode cX1_slopeAt 67 = .ok (.dstore 12, 2) := by decide +kernel
theorem dX1_slopeAt_69 : decode cX1_slopeAt 69 = .ok (.dload 6, 2) := by decide +kernel
theorem dX1_slopeAt_71 : decode cX1_slopeAt 71 = .ok (.dload 8, 2) := by decide +kernel
theorem dX1_slopeAt_73 : decode cX1_slopeAt 73 = .ok (.dload 6, 2) := by decide +kernel
theorem dX1_slopeAt_75 : decode cX1_slopeAt 75 = .ok (.dsub, 1) := by decide +kernel
theorem dX1_slopeAt_76 : decode cX1_slopeAt 76 = .ok (.dload_n 1, 1) := by decide +kernel
theorem dX1_slopeAt_77 : decode cX1_slopeAt 77 = .ok (.dload 10, 2) := by decide +kernel
theorem dX1_slopeAt_79 : decode cX1_slopeAt 79 = .ok (.dsub, 1) := by decide +kernel
theorem dX1_slopeAt_80 : decode cX1_slopeAt 80 = .ok (.dload 12, 2) := by decide +kernel
theorem dX1_slopeAt_82 : decode cX1_slopeAt 82 = .ok (.dload 10, 2) := by decide +kernel
theorem dX1_slopeAt_84 : decode cX1_slopeAt 84 = .ok (.dsub, 1) := by decide +kernel
theorem dX1_slopeAt_85 : decode cX1_slopeAt 85 = .ok (.invokestatic 36, 3) := by decide +kernel
theorem dX1_slopeAt_88 : decode cX1_slopeAt 88 = .ok (.dmul, 1) := by decide +kernel
theorem dX1_slopeAt_89 : decode cX1_slopeAt 89 = .ok (.dadd, 1) := by decide +kernel
theorem dX1_slopeAt_90 : decode cX1_slopeAt 90 = .ok (.dreturn, 1) := by decide +kernel
theorem dX1_rowsUpTo_0 : decode cX1_rowsUpTo 0 = .ok (.iconst 0, 1) := by decide +kernel
theorem dX1_rowsUpTo_1 : decode cX1_rowsUpTo 1 = .ok (.istore_n 3, 1) := by decide +kernel
theorem dX1_rowsUpTo_2 : decode cX1_rowsUpTo 2 = .ok (.iload_n 3, 1) := by decide +kernel
theorem dX1_rowsUpTo_3 : decode cX1_rowsUpTo 3 = .ok (.aload_n 0, 1) := by decide +kernel
theorem dX1_rowsUpTo_4 : decode cX1_rowsUpTo 4 = .ok (.getfield 18, 3) := by decide +kernel
theorem dX1_rowsUpTo_7 : decode cX1_rowsUpTo 7 = .ok (.if_icmp .ge 20, 3) := by decide +kernel
theorem dX1_rowsUpTo_10 : decode cX1_rowsUpTo 10 = .ok (.aload_n 0, 1) := by decide +kernel
theorem dX1_rowsUpTo_11 : decode cX1_rowsUpTo 11 = .ok (.getfield 9, 3) := by decide +kernel
theorem dX1_rowsUpTo_14 : decode cX1_rowsUpTo 14 = .ok (.iload_n 3, 1) := by decide +kernel
theorem dX1_rowsUpTo_15 : decode cX1_rowsUpTo 15 = .ok (.daload, 1) := by decide +kernel
theorem dX1_rowsUpTo_16 : decode cX1_rowsUpTo 16 = .ok (.dload_n 1, 1) := by decide +kernel
theorem dX1_rowsUpTo_17 : decode cX1_rowsUpTo 17 = .ok (.dcmp .g, 1) := by decide +kernel
theorem dX1_rowsUpTo_18 : decode cX1_rowsUpTo 18 = .ok (.ifCond .gt 9, 3) := by decide +kernel
theorem dX1_rowsUpTo_21 : decode cX1_rowsUpTo 21 = .ok (.iinc 3 1, 3) := by decide +kernel
theorem dX1_rowsUpTo_24 : decode cX1_rowsUpTo 24 = .ok (.goto (-22), 3) := by decide +kernel
theorem dX1_rowsUpTo_27 : decode cX1_rowsUpTo 27 = .ok (.iload_n 3, 1) := by decide +kernel
theorem dX1_rowsUpTo_28 : decode cX1_rowsUpTo 28 = .ok (.ireturn, 1) := by decide +kernel
set_option maxRecDepth 20000 in
theorem ggX2_init_J7_fill_7f8df : GoodIn wsX2_init wsJ7_fill_7f8df := goodIn_r _ [21] (by decide +kernel) (by decide +kernel)
set_option maxRecDepth 20000 in
theorem gX2_init_J7_fill_7f8df : GoodIn wsX2_init (va_wsS RX2 49 yJ7_fill_7f8df wsJ7_fill_7f8df) := goodIn_app (goodIn_of _ (by decide +kernel)) ggX2_init_J7_fill_7f8df
theorem dX2_init_0 : decode cX2_init 0 = .ok (.aload_n 0, 1) := by decide +kernel
theorem dX2_init_1 : decode cX2_init 1 = .ok (.invokespecial 3, 3) := by decide +kernel
theorem dX2_init_4 : decode cX2_init 4 = .ok (.aload_n 0, 1) := by decide +kernel
theorem dX2_init_5 : decode cX2_init 5 = .ok (.bipush 32, 2) := by decide +kernel
theorem dX2_init_7 : decode cX2_init 7 = .ok (.newarray .double, 2) := by decide +kernel
theorem dX2_init_9 : decode cX2_init 9 = .ok (.putfield 9, 3) := by decide +kernel
theorem dX2_init_12 : decode cX2_init 12 = .ok (.aload_n 0, 1) := by decide +kernel
theorem dX2_init_13 : decode cX2_init 13 = .ok (.bipush 32, 2) := by decide +kernel
theorem dX2_init_15 : decode cX2_init 15 = .ok (.newarray .boolean, 2) := by decide +kernel
theorem dX2_init_17 : decode cX2_init 17 = .ok (.putfield 15, 3) := by decide +kernel
theorem dX2_init_20 : decode cX2_init 20 = .ok (.aload_n 0, 1) := by decide +kernel
theorem dX2_init_21 : decode cX2_init 21 = .ok (.bipush 32, 2) := by decide +kernel
theorem dX2_init_23 : decode cX2_init 23 = .ok (.newarray .int, 2) := by decide +kernel
theorem dX2_init_25 : decode cX2_init 25 = .ok (.putfield 19, 3) := by decide +kernel
theorem dX2_init_28 : decode cX2_init 28 = .ok (.aload_n 0, 1) := by decide +kernel
theorem dX2_init_29 : decode cX2_init 29 = .ok (.iconst 0, 1) := by decide +kernel
theorem dX2_init_30 : decode cX2_init 30 = .ok (.putfield 23, 3) := by decide +kernel
theorem dX2_init_33 : decode cX2_init 33 = .ok (.aload_n 0, 1) := by decide +kernel
theorem dX2_init_34 : decode cX2_init 34 = .ok (.iconst 0, 1) := by decide +kernel
theorem dX2_init_35 : decode cX2_init 35 = .ok (.putfield 27, 3) := by decide +kernel
theorem dX2_init_38 : decode cX2_init 38 = .ok (.aload_n 0, 1) := by decide +kernel
theorem dX2_init_39 : decode cX2_init 39 = .ok (.iconst 0, 1) := by decide +kernel
theorem dX2_init_40 : decode cX2_init 40 = .ok (.putfield 30, 3) := by decide +kernel
theorem dX2_init_43 : decode cX2_init 43 = .ok (.aload_n 0, 1) := by decide +kernel
theorem dX2_init_44 : decode cX2_init 44 = .ok (.aload_n 1, 1) := by decide +kernel
theorem dX2_init_45 : decode cX2_init 45 = .ok (.putfield 34, 3) := by decide +kernel
theorem dX2_init_48 : decode cX2_init 48 = .ok (.aload_n 0, 1) := by decide +kernel
theorem dX2_init_49 : decode cX2_init 49 = .ok (.bipush 32, 2) := by decide +kernel
theorem dX2_init_51 : decode cX2_init 51 = .ok (.aload_n 1, 1) := by decide +kernel
theorem dX2_init_52 : decode cX2_init 52 = .ok (.getfield 38, 3) := by decide +kernel
theorem dX2_init_55 : decode cX2_init 55 = .ok (.imul, 1) := by decide +kernel
theorem dX2_init_56 : decode cX2_init 56 = .ok (.newarray .long, 2) := by decide +kernel
theorem dX2_init_58 : decode cX2_init 58 = .ok (.putfield 43, 3) := by decide +kernel
theorem dX2_init_61 : decode cX2_init 61 = .ok (.aload_n 0, 1) := by decide +kernel
theorem dX2_init_62 : decode cX2_init 62 = .ok (.getfield 9, 3) := by decide +kernel
theorem dX2_init_65 : decode cX2_init 65 = .ok (.ldc2_w 47, 3) := by decide +kernel
theorem dX2_init_68 : decode cX2_init 68 = .ok (.invokestatic 49, 3) := by decide +kernel
theorem dX2_init_71 : decode cX2_init 71 = .ok (.return_, 1) := by decide +kernel
set_option maxRecDepth 20000 in
theorem ggX2_tellDepth_X3_isPing : GoodIn wsX2_tellDepth wsX3_isPing := goodIn_r _ [5] (by decide +kernel) (by decide +kernel)
set_option maxRecDepth 20000 in
theorem gX2_tellDepth_X3_isPing_n55 : GoodIn wsX2_tellDepth (wsX3_isPing) := ggX2_tellDepth_X3_isPing
set_option maxRecDepth 20000 in
theorem ggX2_tellDepth_X3_within : GoodIn wsX2_tellDepth wsX3_within := goodIn_r _ [7] (by decide +kernel) (by decide +kernel)
set_option maxRecDepth 20000 in
theorem gX2_tellDepth_X3_within_n61 : GoodIn wsX2_tellDepth (wsX3_within) := ggX2_tellDepth_X3_within
theorem dX2_tellDepth_0 : decode cX2_tellDepth 0 = .ok (.iload_n 1, 1) := by decide +kernel
theorem dX2_tellDepth_1 : decode cX2_tellDepth 1 = .ok (.invokestatic 55, 3) := by decide +kernel
theorem dX2_tellDepth_4 : decode cX2_tellDepth 4 = .ok (.ifCond .eq 14, 3) := by decide +kernel
theorem dX2_tellDepth_7 : decode cX2_tellDepth 7 = .ok (.dload_n 2, 1) := by decide +kernel
theorem dX2_tellDepth_8 : decode cX2_tellDepth 8 = .ok (.dconst 0, 1) := by decide +kernel
theorem dX2_tellDepth_9 : decode cX2_tellDepth 9 = .ok (.ldc2_w 59, 3) := by decide +kernel
theorem dX2_tellDepth_12 : decode cX2_tellDepth 12 = .ok (.invokestatic 61, 3) := by decide +kernel
theorem dX2_tellDepth_15 : decode cX2_tellDepth 15 = .ok (.ifCond .ne 5, 3) := by decide +kernel
theorem dX2_tellDepth_18 : decode cX2_tellDepth 18 = .ok (.iconst 0, 1) := by decide +kernel
theorem dX2_tellDepth_19 : decode cX2_tellDepth 19 = .ok (.ireturn, 1) := by decide +kernel
theorem dX2_tellDepth_20 : decode cX2_tellDepth 20 = .ok (.aload_n 0, 1) := by decide +kernel
theorem dX2_tellDepth_21 : decode cX2_tellDepth 21 = .ok (.getfield 9, 3) := by decide +kernel
theorem dX2_tellDepth_24 : decode cX2_tellDepth 24 = .ok (.iload_n 1, 1) := by decide +kernel
theorem dX2_tellDepth_25 : decode cX2_tellDepth 25 = .ok (.dload_n 2, 1) := by decide +kernel
theorem dX2_tellDepth_26 : decode cX2_tellDepth 26 = .ok (.dastore, 1) := by decide +kernel
theorem dX2_tellDepth_27 : decode cX2_tellDepth 27 = .ok (.iconst 1, 1) := by decide +kernel
theorem dX2_tellDepth_28 : decode cX2_tellDepth 28 = .ok (.ireturn, 1) := by decide +kernel
set_option maxRecDepth 20000 in
theorem ggX2_go_X2_hasPing : GoodIn wsX2_go wsX2_hasPing := goodIn_r _ [9, 10, 11, 12, 8, 13, 14, 15, 16, 17, 18, 19, 20, 21, 22, 23, 24, 25, 26, 27, 28, 29, 30, 31, 32, 33, 34, 35, 36, 37, 38, 39, 40, 41, 42, 43, 44, 113, 114, 115, 116, 117, 118, 119, 120, 121, 122, 123, 124, 125, 126, 127] (by decide +kernel) (by decide +kernel)
set_option maxRecDepth 20000 in
theorem gX2_go_X2_hasPing : GoodIn wsX2_go (wsV RX2 65 RX2 yX2_hasPing wsX2_hasPing) := goodIn_app (goodIn_of _ (by decide +kernel)) ggX2_go_X2_hasPing
set_option maxRecDepth 20000 in
theorem ggX2_go_X2_isForWalk : GoodIn wsX2_go wsX2_isForWalk := goodIn_r _ [13, 14, 15, 16, 17, 8, 18, 19, 20, 21, 22, 23, 24, 25, 26, 27, 28, 29, 30, 31, 32, 33, 34, 35, 36, 37, 38, 39, 40, 41, 42, 43, 44, 113, 114, 115, 116, 117, 118, 119, 120, 121, 122, 123, 124, 125, 126, 127] (by decide +kernel) (by decide +kernel)
set_option maxRecDepth 20000 in
theorem gX2_go_X2_isForWalk : GoodIn wsX2_go (wsV RX2 69 RX2 yX2_isForWalk wsX2_isForWalk) := goodIn_app (goodIn_of _ (by decide +kernel)) ggX2_go_X2_isForWalk
set_option maxRecDepth 20000 in
theorem ggX2_go_X2_neighbour : GoodIn wsX2_go wsX2_neighbour := goodIn_r _ [48, 49, 50, 51, 8, 52, 4, 20, 21, 22, 113, 114, 115, 116, 117, 118, 119, 120] (by decide +kernel) (by decide +kernel)
set_option maxRecDepth 20000 in
theorem gX2_go_X2_neighbour : GoodIn wsX2_go (wsV RX2 72 RX2 yX2_neighbour wsX2_neighbour) := goodIn_app (goodIn_of _ (by decide +kernel)) ggX2_go_X2_neighbour
set_option maxRecDepth 20000 in
theorem ggX2_go_X2_sumUp : GoodIn wsX2_go wsX2_sumUp := goodIn_r _ [56, 14, 1, 57, 58, 59, 60, 61, 8, 62, 19, 15, 16, 17, 18, 20, 21, 22, 63, 64, 65, 26, 66, 33, 67, 68, 69, 70, 71, 72, 73, 74, 75, 76, 42, 43, 44, 77, 78, 79, 80, 34, 81, 82, 83, 84, 85, 86, 87, 88, 35, 36, 37, 38, 39, 40, 41, 89, 24, 25, 27, 28, 90, 91, 92, 93, 2, 94, 95, 96, 97, 98, 99, 100, 101, 102, 103, 113, 114, 115, 116, 117, 118, 119, 120, 121, 122, 123, 124, 125, 126, 127] (by decide +kernel) (by decide +kernel)
set_option maxRecDepth 20000 in
theorem gX2_go_X2_sumUp : GoodIn wsX2_go (wsV RX2 76 RX2 yX2_sumUp wsX2_sumUp) := goodIn_app (goodIn_of _ (by decide +kernel)) ggX2_go_X2_sumUp
set_option maxRecDepth 20000 in
theorem ggX2_go_X2_traceBack : GoodIn wsX2_go wsX2_traceBack := goodIn_r _ [107, 4, 108, 109, 110, 111, 8, 112, 20, 21, 22, 90, 91, 92, 93, 2, 94, 95, 87, 96, 97, 98, 99, 72, 73, 74, 75, 14, 19, 15, 16, 17, 18, 63, 64, 65, 26, 66, 33, 67, 68, 69, 70, 71, 59, 60, 61, 62, 58, 100, 101, 102, 103, 57, 76, 42, 43, 44, 113, 114, 115, 116, 117, 118, 119, 120, 121, 122, 123, 124, 125, 126, 127] (by decide +kernel) (by decide +kernel)
set_option maxRecDepth 20000 in
theorem gX2_go_X2_traceBack : GoodIn wsX2_go (wsV RX2 80 RX2 yX2_traceBack wsX2_traceBack) := goodIn_app (goodIn_of _ (by decide +kernel)) ggX2_go_X2_traceBack
theorem dX2_go_0 : decode cX2_go 0 = .ok (.aload_n 0, 1) := by decide +kernel
theorem dX2_go_1 : decode cX2_go 1 = .ok (.iload_n 1, 1) := by decide +kernel
theorem dX2_go_2 : decode cX2_go 2 = .ok (.iload_n 2, 1) := by decide +kernel
theorem dX2_go_3 : decode cX2_go 3 = .ok (.invokevirtual 65, 3) := by decide +kernel
theorem dX2_go_6 : decode cX2_go 6 = .ok (.ifCond .ne 5, 3) := by decide +kernel
theorem dX2_go_9 : decode cX2_go 9 = .ok (.iconst (-1), 1) := by decide +kernel
theorem dX2_go_10 : decode cX2_go 10 = .ok (.ireturn, 1) := by decide +kernel
theorem dX2_go_11 : decode cX2_go 11 = .ok (.aload_n 0, 1) := by decide +kernel
theorem dX2_go_12 : decode cX2_go 12 = .ok (.iload_n 1, 1) := by decide +kernel
theorem dX2_go_13 : decode cX2_go 13 = .ok (.putfield 27, 3) := by decide +kernel
theorem dX2_go_16 : decode cX2_go 16 = .ok (.aload_n 0, 1) := by decide +kernel
theorem dX2_go_17 : decode cX2_go 17 = .ok (.iload_n 3, 1) := by decide +kernel
theorem dX2_go_18 : decode cX2_go 18 = .ok (.putfield 23, 3) := by decide +kernel
theorem dX2_go_21 : decode cX2_go 21 = .ok (.aload_n 0, 1) := by decide +kernel
theorem dX2_go_22 : decode cX2_go 22 = .ok (.iconst 1, 1) := by decide +kernel
theorem dX2_go_23 : decode cX2_go 23 = .ok (.putfield 30, 3) := by decide +kernel
theorem dX2_go_26 : decode cX2_go 26 = .ok (.iconst 0, 1) := by decide +kernel
theorem dX2_go_27 : decode cX2_go 27 = .ok (.istore 4, 2) := by decide +kernel
theorem dX2_go_29 : decode cX2_go 29 = .ok (.iload 4, 2) := by decide +kernel
theorem dX2_go_31 : decode cX2_go 31 = .ok (.bipush 32, 2) := by decide +kernel
theorem dX2_go_33 : decode cX2_go 33 = .ok (.if_icmp .ge 60, 3) := by decide +kernel
theorem dX2_go_36 : decode cX2_go 36 = .ok (.aload_n 0, 1) := by decide +kernel
theorem dX2_go_37 : decode cX2_go 37 = .ok (.getfield 15, 3) := by decide +kernel
theorem dX2_go_40 : decode cX2_go 40 = .ok (.iload 4, 2) := by decide +kernel
theorem dX2_go_42 : decode cX2_go 42 = .ok (.iload 4, 2) := by decide +kernel
theorem dX2_go_44 : decode cX2_go 44 = .ok (.iload_n 2, 1) := by decide +kernel
theorem dX2_go_45 : decode cX2_go 45 = .ok (.if_icmp .ge 17, 3) := by decide +kernel
theorem dX2_go_48 : decode cX2_go 48 = .ok (.aload_n 0, 1) := by decide +kernel
theorem dX2_go_49 : decode cX2_go 49 = .ok (.iload_n 1, 1) := by decide +kernel
theorem dX2_go_50 : decode cX2_go 50 = .ok (.iload 4, 2) := by decide +kernel
theorem dX2_go_52 : decode cX2_go 52 = .ok (.invokevirtual 69, 3) := by decide +kernel
theorem dX2_go_55 : decode cX2_go 55 = .ok (.ifCond .eq 7, 3) := by decide +kernel
theorem dX2_go_58 : decode cX2_go 58 = .ok (.iconst 1, 1) := by decide +kernel
theorem dX2_go_59 : decode cX2_go 59 = .ok (.goto 4, 3) := by decide +kernel
theorem dX2_go_62 : decode cX2_go 62 = .ok (.iconst 0, 1) := by decide +kernel
theorem dX2_go_63 : decode cX2_go 63 = .ok (.bastore, 1) := by decide +kernel
theorem dX2_go_64 : decode cX2_go 64 = .ok (.aload_n 0, 1) := by decide +kernel
theorem dX2_go_65 : decode cX2_go 65 = .ok (.getfield 15, 3) := by decide +kernel
theorem dX2_go_68 : decode cX2_go 68 = .ok (.iload 4, 2) := by decide +kernel
theorem dX2_go_70 : decode cX2_go 70 = .ok (.baload, 1) := by decide +kernel
theorem dX2_go_71 : decode cX2_go 71 = .ok (.ifCond .eq 16, 3) := by decide +kernel
theorem dX2_go_74 : decode cX2_go 74 = .ok (.aload_n 0, 1) := by decide +kernel
theorem dX2_go_75 : decode cX2_go 75 = .ok (.iload 4, 2) := by decide +kernel
theorem dX2_go_77 : decode cX2_go 77 = .ok (.aload_n 0, 1) := by decide +kernel
theorem dX2_go_78 : decode cX2_go 78 = .ok (.iload 4, 2) := by decide +kernel
theorem dX2_go_80 : decode cX2_go 80 = .ok (.iconst (-1), 1) := by decide +kernel
theorem dX2_go_81 : decode cX2_go 81 = .ok (.invokevirtual 72, 3) := by decide +kernel
theorem dX2_go_84 : decode cX2_go 84 = .ok (.invokevirtual 76, 3) := by decide +kernel
theorem dX2_go_87 : decode cX2_go 87 = .ok (.iinc 4 1, 3) := by decide +kernel
theorem dX2_go_90 : decode cX2_go 90 = .ok (.goto (-61), 3) := by decide +kernel
theorem dX2_go_93 : decode cX2_go 93 = .ok (.aload_n 0, 1) := by decide +kernel
theorem dX2_go_94 : decode cX2_go 94 = .ok (.invokevirtual 80, 3) := by decide +kernel
theorem dX2_go_97 : decode cX2_go 97 = .ok (.l2i, 1) := by decide +kernel
theorem dX2_go_98 : decode cX2_go 98 = .ok (.ireturn, 1) := by decide +kernel
theorem dX2_wasFound_0 : decode cX2_wasFound 0 = .ok (.aload_n 0, 1) := by decide +kernel
theorem dX2_wasFound_1 : decode cX2_wasFound 1 = .ok (.getfield 30, 3) := by decide +kernel
theorem dX2_wasFound_4 : decode cX2_wasFound 4 = .ok (.ireturn, 1) := by decide +kernel
set_option maxRecDepth 20000 in
theorem ggX2_isWalked_X3_isPing : GoodIn wsX2_isWalked wsX3_isPing := goodIn_r _ [4] (by decide +kernel) (by decide +kernel)
set_option maxRecDepth 20000 in
theorem gX2_isWalked_X3_isPing_n55 : GoodIn wsX2_isWalked (wsX3_isPing) := ggX2_isWalked_X3_isPing
theorem dX2_isWalked_0 : decode cX2_isWalked 0 = .ok (.iload_n 1, 1) := by decide +kernel
theorem dX2_isWalked_1 : decode cX2_isWalked 1 = .ok (.invokestatic 55, 3) := by decide +kernel
theorem dX2_isWalked_4 : decode cX2_isWalked 4 = .ok (.ifCond .eq 16, 3) := by decide +kernel
theorem dX2_isWalked_7 : decode cX2_isWalked 7 = .ok (.aload_n 0, 1) := by decide +kernel
theorem dX2_isWalked_8 : decode cX2_isWalked 8 = .ok (.getfield 15, 3) := by decide +kernel
theorem dX2_isWalked_11 : decode cX2_isWalked 11 = .ok (.iload_n 1, 1) := by decide +kernel
theorem dX2_isWalked_12 : decode cX2_isWalked 12 = .ok (.baload, 1) := by decide +kernel
theorem dX2_isWalked_13 : decode cX2_isWalked 13 = .ok (.ifCond .eq 7, 3) := by decide +kernel
theorem dX2_isWalked_16 : decode cX2_isWalked 16 = .ok (.iconst 1, 1) := by decide +kernel
theorem dX2_isWalked_17 : decode cX2_isWalked 17 = .ok (.goto 4, 3) := by decide +kernel
theorem dX2_isWalked_20 : decode cX2_isWalked 20 = .ok (.iconst 0, 1) := by decide +kernel
theorem dX2_isWalked_21 : decode cX2_isWalked 21 = .ok (.ireturn, 1) := by decide +kernel
set_option maxRecDepth 20000 in
theorem ggX2_isBridge_X3_isPing : GoodIn wsX2_isBridge wsX3_isPing := goodIn_r _ [3] (by decide +kernel) (by decide +kernel)
set_option maxRecDepth 20000 in
theorem gX2_isBridge_X3_isPing_n55 : GoodIn wsX2_isBridge (wsX3_isPing) := ggX2_isBridge_X3_isPing
set_option maxRecDepth 20000 in
theorem ggX2_isBridge_X2_isWalked : GoodIn wsX2_isBridge wsX2_isWalked := goodIn_r _ [8, 9, 1, 2, 3, 14, 15, 16, 17, 18, 19, 20, 21] (by decide +kernel) (by decide +kernel)
set_option maxRecDepth 20000 in
theorem gX2_isBridge_X2_isWalked : GoodIn wsX2_isBridge (wsV RX2 84 RX2 yX2_isWalked wsX2_isWalked) := goodIn_app (goodIn_of _ (by decide +kernel)) ggX2_isBridge_X2_isWalked
set_option maxRecDepth 20000 in
theorem ggX2_isBridge_X2_neighbour : GoodIn wsX2_isBridge wsX2_neighbour := goodIn_r _ [13, 4, 5, 6, 7, 8, 9, 1, 2, 3, 14, 15, 16, 17, 18, 19, 20, 21] (by decide +kernel) (by decide +kernel)
set_option maxRecDepth 20000 in
theorem gX2_isBridge_X2_neighbour : GoodIn wsX2_isBridge (wsV RX2 72 RX2 yX2_neighbour wsX2_neighbour) := goodIn_app (goodIn_of _ (by decide +kernel)) ggX2_isBridge_X2_neighbour
theorem dX2_isBridge_0 : decode cX2_isBridge 0 = .ok (.iload_n 1, 1) := by decide +kernel
theorem dX2_isBridge_1 : decode cX2_isBridge 1 = .ok (.invokestatic 55, 3) := by decide +kernel
theorem dX2_isBridge_4 : decode cX2_isBridge 4 = .ok (.ifCond .eq 11, 3) := by decide +kernel
theorem dX2_isBridge_7 : decode cX2_isBridge 7 = .ok (.aload_n 0, 1) := by decide +kernel
theorem dX2_isBridge_8 : decode cX2_isBridge 8 = .ok (.iload_n 1, 1) := by decide +kernel
theorem dX2_isBridge_9 : decode cX2_isBridge 9 = .ok (.invokevirtual 84, 3) := by decide +kernel
theorem dX2_isBridge_12 : decode cX2_isBridge 12 = .ok (.ifCond .eq 5, 3) := by decide +kernel
theorem dX2_isBridge_15 : decode cX2_isBridge 15 = .ok (.iconst 0, 1) := by decide +kernel
theorem dX2_isBridge_16 : decode cX2_isBridge 16 = .ok (.ireturn, 1) := by decide +kernel
theorem dX2_isBridge_17 : decode cX2_isBridge 17 = .ok (.aload_n 0, 1) := by decide +kernel
theorem dX2_isBridge_18 : decode cX2_isBridge 18 = .ok (.iload_n 1, 1) := by decide +kernel
theorem dX2_isBridge_19 : decode cX2_isBridge 19 = .ok (.iconst (-1), 1) := by decide +kernel
theorem dX2_isBridge_20 : decode cX2_isBridge 20 = .ok (.invokevirtual 72, 3) := by decide +kernel
theorem dX2_isBridge_23 : decode cX2_isBridge 23 = .ok (.istore_n 2, 1) := by decide +kernel
theorem dX2_isBridge_24 : decode cX2_isBridge 24 = .ok (.aload_n 0, 1) := by decide +kernel
theorem dX2_isBridge_25 : decode cX2_isBridge 25 = .ok (.iload_n 1, 1) := by decide +kernel
theorem dX2_isBridge_26 : decode cX2_isBridge 26 = .ok (.iconst 1, 1) := by decide +kernel
theorem dX2_isBridge_27 : decode cX2_isBridge 27 = .ok (.invokevirtual 72, 3) := by decide +kernel
theorem dX2_isBridge_30 : decode cX2_isBridge 30 = .ok (.istore_n 3, 1) := by decide +kernel
theorem dX2_isBridge_31 : decode cX2_isBridge 31 = .ok (.iload_n 2, 1) := by decide +kernel
theorem dX2_isBridge_32 : decode cX2_isBridge 32 = .ok (.iconst (-1), 1) := by decide +kernel
theorem dX2_isBridge_33 : decode cX2_isBridge 33 = .ok (.if_icmp .eq 19, 3) := by decide +kernel
theorem dX2_isBridge_36 : decode cX2_isBridge 36 = .ok (.iload_n 3, 1) := by decide +kernel
theorem dX2_isBridge_37 : decode cX2_isBridge 37 = .ok (.iconst (-1), 1) := by decide +kernel
theorem dX2_isBridge_38 : decode cX2_isBridge 38 = .ok (.if_icmp .eq 14, 3) := by decide +kernel
theorem dX2_isBridge_41 : decode cX2_isBridge 41 = .ok (.iload_n 3, 1) := by decide +kernel
theorem dX2_isBridge_42 : decode cX2_isBridge 42 = .ok (.iload_n 2, 1) := by decide +kernel
theorem dX2_isBridge_43 : decode cX2_isBridge 43 = .ok (.isub, 1) := by decide +kernel
theorem dX2_isBridge_44 : decode cX2_isBridge 44 = .ok (.iconst 4, 1) := by decide +kernel
theorem dX2_isBridge_45 : decode cX2_isBridge 45 = .ok (.if_icmp .gt 7, 3) := by decide +kernel
theorem dX2_isBridge_48 : decode cX2_isBridge 48 = .ok (.iconst 1, 1) := by decide +kernel
theorem dX2_isBridge_49 : decode cX2_isBridge 49 = .ok (.goto 4, 3) := by decide +kernel
theorem dX2_isBridge_52 : decode cX2_isBridge 52 = .ok (.iconst 0, 1) := by decide +kernel
theorem dX2_isBridge_53 : decode cX2_isBridge 53 = .ok (.ireturn, 1) := by decide +kernel
set_option maxRecDepth 20000 in
theorem ggX2_hasBottom_X2_isWalked : GoodIn wsX2_hasBottom wsX2_isWalked := goodIn_r _ [5, 6, 7, 8, 9, 18, 19, 20, 21, 22, 23, 24, 25] (by decide +kernel) (by decide +kernel)
set_option maxRecDepth 20000 in
theorem gX2_hasBottom_X2_isWalked : GoodIn wsX2_hasBottom (wsV RX2 84 RX2 yX2_isWalked wsX2_isWalked) := goodIn_app (goodIn_of _ (by decide +kernel)) ggX2_hasBottom_X2_isWalked
set_option maxRecDepth 20000 in
theorem ggX2_hasBottom_X2_isBridge : GoodIn wsX2_hasBottom wsX2_isBridge := goodIn_r _ [13, 7, 8, 9, 1, 2, 3, 4, 5, 6, 14, 15, 16, 17, 18, 19, 20, 21, 22, 23, 24, 25] (by decide +kernel) (by decide +kernel)
set_option maxRecDepth 20000 in
theorem gX2_hasBottom_X2_isBridge : GoodIn wsX2_hasBottom (wsV RX2 87 RX2 yX2_isBridge wsX2_isBridge) := goodIn_app (goodIn_of _ (by decide +kernel)) ggX2_hasBottom_X2_isBridge
theorem dX2_hasBottom_0 : decode cX2_hasBottom 0 = .ok (.aload_n 0, 1) := by decide +kernel
theorem dX2_hasBottom_1 : decode cX2_hasBottom 1 = .ok (.iload_n 1, 1) := by decide +kernel
theorem dX2_hasBottom_2 : decode cX2_hasBottom 2 = .ok (.invokevirtual 84, 3) := by decide +kernel
theorem dX2_hasBottom_5 : decode cX2_hasBottom 5 = .ok (.ifCond .ne 11, 3) := by decide +kernel
theorem dX2_hasBottom_8 : decode cX2_hasBottom 8 = .ok (.aload_n 0, 1) := by decide +kernel
theorem dX2_hasBottom_9 : decode cX2_hasBottom 9 = .ok (.iload_n 1, 1) := by decide +kernel
theorem dX2_hasBottom_10 : decode cX2_hasBottom 10 = .ok (.invokevirtual 87, 3) := by decide +kernel
theorem dX2_hasBottom_13 : decode cX2_hasBottom 13 = .ok (.ifCond .eq 7, 3) := by decide +kernel
theorem dX2_hasBottom_16 : decode cX2_hasBottom 16 = .ok (.iconst 1, 1) := by decide +kernel
theorem dX2_hasBottom_17 : decode cX2_hasBottom 17 = .ok (.goto 4, 3) := by decide +kernel
theorem dX2_hasBottom_20 : decode cX2_hasBottom 20 = .ok (.iconst 0, 1) := by decide +kernel
theorem dX2_hasBottom_21 : decode cX2_hasBottom 21 = .ok (.ireturn, 1) := by decide +kernel
set_option maxRecDepth 20000 in
theorem ggX2_depthAt_X2_isBridge : GoodIn wsX2_depthAt wsX2_isBridge := goodIn_r _ [5, 6, 7, 8, 9, 10, 11, 4, 12, 13, 14, 15, 16, 17, 41, 42, 43, 44, 45, 46, 47, 48] (by decide +kernel) (by decide +kernel)
set_option maxRecDepth 20000 in
theorem gX2_depthAt_X2_isBridge : GoodIn wsX2_depthAt (wsV RX2 87 RX2 yX2_isBridge wsX2_isBridge) := goodIn_app (goodIn_of _ (by decide +kernel)) ggX2_depthAt_X2_isBridge
set_option maxRecDepth 20000 in
theorem ggX2_depthAt_X2_depthWalked : GoodIn wsX2_depthAt wsX2_depthWalked := goodIn_r _ [21, 22, 23, 24, 25, 26, 4, 27, 6, 7, 8, 28, 29, 30, 31, 32, 33, 34, 35, 36, 37, 38, 41, 42, 43, 44, 45, 46, 47, 48, 49, 50, 51, 52, 53, 54, 55] (by decide +kernel) (by decide +kernel)
set_option maxRecDepth 20000 in
theorem gX2_depthAt_X2_depthWalked : GoodIn wsX2_depthAt (wsV RX2 90 RX2 yX2_depthWalked wsX2_depthWalked) := goodIn_app (goodIn_of _ (by decide +kernel)) ggX2_depthAt_X2_depthWalked
set_option maxRecDepth 20000 in
theorem ggX2_depthAt_X2_neighbour : GoodIn wsX2_depthAt wsX2_neighbour := goodIn_r _ [17, 9, 10, 11, 4, 12, 13, 6, 7, 8, 41, 42, 43, 44, 45, 46, 47, 48] (by decide +kernel) (by decide +kernel)
set_option maxRecDepth 20000 in
theorem gX2_depthAt_X2_neighbour : GoodIn wsX2_depthAt (wsV RX2 72 RX2 yX2_neighbour wsX2_neighbour) := goodIn_app (goodIn_of _ (by decide +kernel)) ggX2_depthAt_X2_neighbour
set_option maxRecDepth 20000 in
theorem ggX2_depthAt_X3_over : GoodIn wsX2_depthAt wsX3_over := goodIn_r _ [40] (by decide +kernel) (by decide +kernel)
set_option maxRecDepth 20000 in
theorem gX2_depthAt_X3_over_n94 : GoodIn wsX2_depthAt (wsX3_over) := ggX2_depthAt_X3_over
theorem dX2_depthAt_0 : decode cX2_depthAt 0 = .ok (.aload_n 0, 1) := by decide +kernel
theorem dX2_depthAt_1 : decode cX2_depthAt 1 = .ok (.iload_n 1, 1) := by decide +kernel
theorem dX2_depthAt_2 : decode cX2_depthAt 2 = .ok (.invokevirtual 87, 3) := by decide +kernel
theorem dX2_depthAt_5 : decode cX2_depthAt 5 = .ok (.ifCond .ne 9, 3) := by decide +kernel
theorem dX2_depthAt_8 : decode cX2_depthAt 8 = .ok (.aload_n 0, 1) := by decide +kernel
theorem dX2_depthAt_9 : decode cX2_depthAt 9 = .ok (.iload_n 1, 1) := by decide +kernel
theorem dX2_depthAt_10 : decode cX2_depthAt 10 = .ok (.invokevirtual 90, 3) := by decide +kernel
theorem dX2_depthAt_13 : decode cX2_depthAt 13 = .ok (.dreturn, 1) := by decide +kernel
theorem dX2_depthAt_14 : decode cX2_depthAt 14 = .ok (.aload_n 0, 1) := by decide +kernel
theorem dX2_depthAt_15 : decode cX2_depthAt 15 = .ok (.iload_n 1, 1) := by decide +kernel
theorem dX2_depthAt_16 : decode cX2_depthAt 16 = .ok (.iconst (-1), 1) := by decide +kernel
theorem dX2_depthAt_17 : decode cX2_depthAt 17 = .ok (.invokevirtual 72, 3) := by decide +kernel
theorem dX2_depthAt_20 : decode cX2_depthAt 20 = .ok (.istore_n 2, 1) := by decide +kernel
theorem dX2_depthAt_21 : decode cX2_depthAt 21 = .ok (.aload_n 0, 1) := by decide +kernel
theorem dX2_depthAt_22 : decode cX2_depthAt 22 = .ok (.iload_n 1, 1) := by decide +kernel
theorem dX2_depthAt_23 : decode cX2_depthAt 23 = .ok (.iconst 1, 1) := by decide +kernel
theorem dX2_depthAt_24 : decode cX2_depthAt 24 = .ok (.invokevirtual 72, 3) := by decide +kernel
theorem dX2_depthAt_27 : decode cX2_depthAt 27 = .ok (.istore_n 3, 1) := by decide +kernel
theorem dX2_depthAt_28 : decode cX2_depthAt 28 = .ok (.aload_n 0, 1) := by decide +kernel
theorem dX2_depthAt_29 : decode cX2_depthAt 29 = .ok (.iload_n 2, 1) := by decide +kernel
theorem dX2_depthAt_30 : decode cX2_depthAt 30 = .ok (.invokevirtual 90, 3) := by decide +kernel
theorem dX2_depthAt_33 : decode cX2_depthAt 33 = .ok (.dstore 4, 2) := by decide +kernel
theorem dX2_depthAt_35 : decode cX2_depthAt 35 = .ok (.aload_n 0, 1) := by decide +kernel
theorem dX2_depthAt_36 : decode cX2_depthAt 36 = .ok (.iload_n 3, 1) := by decide +kernel
theorem dX2_depthAt_37 : decode cX2_depthAt 37 = .ok (.invokevirtual 90, 3) := by decide +kernel
theorem dX2_depthAt_40 : decode cX2_depthAt 40 = .ok (.dstore 6, 2) := by decide +kernel
theorem dX2_depthAt_42 : decode cX2_depthAt 42 = .ok (.dload 4, 2) := by decide +kernel
theorem dX2_depthAt_44 : decode cX2_depthAt 44 = .ok (.dload 6, 2) := by decide +kernel
theorem dX2_depthAt_46 : decode cX2_depthAt 46 = .ok (.dload 4, 2) := by decide +kernel
theorem dX2_depthAt_48 : decode cX2_depthAt 48 = .ok (.dsub, 1) := by decide +kernel
theorem dX2_depthAt_49 : decode cX2_depthAt 49 = .ok (.iload_n 1, 1) := by decide +kernel
theorem dX2_depthAt_50 : decode cX2_depthAt 50 = .ok (.iload_n 2, 1) := by decide +kernel
theorem dX2_depthAt_51 : decode cX2_depthAt 51 = .ok (.isub, 1) := by decide +kernel
theorem dX2_depthAt_52 : decode cX2_depthAt 52 = .ok (.i2d, 1) := by decide +kernel
theorem dX2_depthAt_53 : decode cX2_depthAt 53 = .ok (.dmul, 1) := by decide +kernel
theorem dX2_depthAt_54 : decode cX2_depthAt 54 = .ok (.iload_n 3, 1) := by decide +kernel
theorem dX2_depthAt_55 : decode cX2_depthAt 55 = .ok (.iload_n 2, 1) := by decide +kernel
theorem dX2_depthAt_56 : decode cX2_depthAt 56 = .ok (.isub, 1) := by decide +kernel
theorem dX2_depthAt_57 : decode cX2_depthAt 57 = .ok (.i2d, 1) := by decide +kernel
theorem dX2_depthAt_58 : decode cX2_depthAt 58 = .ok (.invokestatic 94, 3) := by decide +kernel
theorem dX2_depthAt_61 : decode cX2_depthAt 61 = .ok (.dadd, 1) := by decide +kernel
theorem dX2_depthAt_62 : decode cX2_depthAt 62 = .ok (.dreturn, 1) := by decide +kernel
set_option maxRecDepth 20000 in
theorem ggX2_strengthsBehind_X2_isEdited : GoodIn wsX2_strengthsBehind wsX2_isEdited := goodIn_r _ [7, 8, 9, 10, 11, 60, 61, 62, 63, 64, 65, 66, 67] (by decide +kernel) (by decide +kernel)
set_option maxRecDepth 20000 in
theorem gX2_strengthsBehind_X2_isEdited : GoodIn wsX2_strengthsBehind (wsV RX2 98 RX2 yX2_isEdited wsX2_isEdited) := goodIn_app (goodIn_of _ (by decide +kernel)) ggX2_strengthsBehind_X2_isEdited
set_option maxRecDepth 20000 in
theorem ggX2_strengthsBehind_X2_lowest : GoodIn wsX2_strengthsBehind wsX2_lowest := goodIn_r _ [15, 1, 8, 3, 4, 5, 6, 7, 9, 10, 11, 16, 17, 18, 19, 20, 21, 22, 23, 24, 25, 26, 60, 61, 62, 63, 64, 65, 66, 67, 68, 69, 70, 71, 72, 73, 74] (by decide +kernel) (by decide +kernel)
set_option maxRecDepth 20000 in
theorem gX2_strengthsBehind_X2_lowest : GoodIn wsX2_strengthsBehind (wsV RX2 101 RX2 yX2_lowest wsX2_lowest) := goodIn_app (goodIn_of _ (by decide +kernel)) ggX2_strengthsBehind_X2_lowest
set_option maxRecDepth 20000 in
theorem ggX2_strengthsBehind_X2_sampleOfRow : GoodIn wsX2_strengthsBehind wsX2_sampleOfRow := goodIn_r _ [30, 31, 9, 10, 11, 60, 61, 62, 63, 64, 65, 66, 67] (by decide +kernel) (by decide +kernel)
set_option maxRecDepth 20000 in
theorem gX2_strengthsBehind_X2_sampleOfRow : GoodIn wsX2_strengthsBehind (wsV RX2 105 RX2 yX2_sampleOfRow wsX2_sampleOfRow) := goodIn_app (goodIn_of _ (by decide +kernel)) ggX2_strengthsBehind_X2_sampleOfRow
set_option maxRecDepth 20000 in
theorem ggX2_strengthsBehind_X0_strength : GoodIn wsX2_strengthsBehind wsX0_strength := goodIn_r _ [35, 36, 37, 38, 39, 40, 41, 42, 43, 44, 45, 46, 47, 19, 48, 21, 49, 10, 50, 9, 11, 51, 52, 53, 54, 55, 56, 57, 58, 59, 22, 23, 24, 25, 26, 68, 69, 70, 71, 72, 73, 74] (by decide +kernel) (by decide +kernel)
set_option maxRecDepth 20000 in
theorem gX2_strengthsBehind_X0_strength : GoodIn wsX2_strengthsBehind (wsV RX2 108 RX0 yX0_strength wsX0_strength) := goodIn_app (goodIn_of _ (by decide +kernel)) ggX2_strengthsBehind_X0_strength
theorem dX2_strengthsBehind_0 : decode cX2_strengthsBehind 0 = .ok (.aload_n 0, 1) := by decide +kernel
theorem dX2_strengthsBehind_1 : decode cX2_strengthsBehind 1 = .ok (.iload_n 1, 1) := by decide +kernel
theorem dX2_strengthsBehind_2 : decode cX2_strengthsBehind 2 = .ok (.invokevirtual 98, 3) := by decide +kernel
theorem dX2_strengthsBehind_5 : decode cX2_strengthsBehind 5 = .ok (.ifCond .eq 11, 3) := by decide +kernel
theorem dX2_strengthsBehind_8 : decode cX2_strengthsBehind 8 = .ok (.aload_n 0, 1) := by decide +kernel
theorem dX2_strengthsBehind_9 : decode cX2_strengthsBehind 9 = .ok (.iload_n 1, 1) := by decide +kernel
theorem dX2_strengthsBehind_10 : decode cX2_strengthsBehind 10 = .ok (.invokevirtual 101, 3) := by decide +kernel
theorem dX2_strengthsBehind_13 : decode cX2_strengthsBehind 13 = .ok (.goto 8, 3) := by decide +kernel
theorem dX2_strengthsBehind_16 : decode cX2_strengthsBehind 16 = .ok (.aload_n 0, 1) := by decide +kernel
theorem dX2_strengthsBehind_17 : decode cX2_strengthsBehind 17 = .ok (.iload_n 1, 1) := by decide +kernel
theorem dX2_strengthsBehind_18 : decode cX2_strengthsBehind 18 = .ok (.invokevirtual 105, 3) := by decide +kernel
theorem dX2_strengthsBehind_21 : decode cX2_strengthsBehind 21 = .ok (.istore_n 2, 1) := by decide +kernel
theorem dX2_strengthsBehind_22 : decode cX2_strengthsBehind 22 = .ok (.lconst 0, 1) := by decide +kernel
theorem dX2_strengthsBehind_23 : decode cX2_strengthsBehind 23 = .ok (.lstore_n 3, 1) := by decide +kernel
theorem dX2_strengthsBehind_24 : decode cX2_strengthsBehind 24 = .ok (.iconst 1, 1) := by decide +kernel
theorem dX2_strengthsBehind_25 : decode cX2_strengthsBehind 25 = .ok (.istore 5, 2) := by decide +kernel
theorem dX2_strengthsBehind_27 : decode cX2_strengthsBehind 27 = .ok (.iload 5, 2) := by decide +kernel
theorem dX2_strengthsBehind_29 : decode cX2_strengthsBehind 29 = .ok (.bipush 8, 2) := by decide +kernel
theorem dX2_strengthsBehind_31 : decode cX2_strengthsBehind 31 = .ok (.if_icmp .gt 28, 3) := by decide +kernel
theorem dX2_strengthsBehind_34 : decode cX2_strengthsBehind 34 = .ok (.lload_n 3, 1) := by decide +kernel
theorem dX2_strengthsBehind_35 : decode cX2_strengthsBehind 35 = .ok (.aload_n 0, 1) := by decide +kernel
theorem dX2_strengthsBehind_36 : decode cX2_strengthsBehind 36 = .ok (.getfield 34, 3) := by decide +kernel
theorem dX2_strengthsBehind_39 : decode cX2_strengthsBehind 39 = .ok (.aload_n 0, 1) := by decide +kernel
theorem dX2_strengthsBehind_40 : decode cX2_strengthsBehind 40 = .ok (.getfield 27, 3) := by decide +kernel
theorem dX2_strengthsBehind_43 : decode cX2_strengthsBehind 43 = .ok (.iload_n 1, 1) := by decide +kernel
theorem dX2_strengthsBehind_44 : decode cX2_strengthsBehind 44 = .ok (.iload_n 2, 1) := by decide +kernel
theorem dX2_strengthsBehind_45 : decode cX2_strengthsBehind 45 = .ok (.iload 5, 2) := by decide +kernel
theorem dX2_strengthsBehind_47 : decode cX2_strengthsBehind 47 = .ok (.iadd, 1) := by decide +kernel
theorem dX2_strengthsBehind_48 : decode cX2_strengthsBehind 48 = .ok (.invokevirtual 108, 3) := by decide +kernel
theorem dX2_strengthsBehind_51 : decode cX2_strengthsBehind 51 = .ok (.ladd, 1) := by decide +kernel
theorem dX2_strengthsBehind_52 : decode cX2_strengthsBehind 52 = .ok (.lstore_n 3, 1) := by decide +kernel
theorem dX2_strengthsBehind_53 : decode cX2_strengthsBehind 53 = .ok (.iinc 5 1, 3) := by decide +kernel
theorem dX2_strengthsBehind_56 : decode cX2_strengthsBehind 56 = .ok (.goto (-29), 3) := by decide +kernel
theorem dX2_strengthsBehind_59 : decode cX2_strengthsBehind 59 = .ok (.lload_n 3, 1) := by decide +kernel
theorem dX2_strengthsBehind_60 : decode cX2_strengthsBehind 60 = .ok (.l2d, 1) := by decide +kernel
theorem dX2_strengthsBehind_61 : decode cX2_strengthsBehind 61 = .ok (.dreturn, 1) := by decide +kernel
set_option maxRecDepth 20000 in
theorem ggX2_hasPing_X2_isForWalk : GoodIn wsX2_hasPing wsX2_isForWalk := goodIn_r _ [5, 6, 7, 8, 9, 4, 10, 11, 12, 13, 14, 15, 16, 17, 18, 19, 20, 21, 22, 23, 24, 25, 26, 27, 28, 29, 30, 31, 32, 33, 34, 35, 36, 37, 38, 39, 40, 41, 42, 43, 44, 45, 46, 47, 48, 49, 50, 51] (by decide +kernel) (by decide +kernel)
set_option maxRecDepth 20000 in
theorem gX2_hasPing_X2_isForWalk : GoodIn wsX2_hasPing (wsV RX2 69 RX2 yX2_isForWalk wsX2_isForWalk) := goodIn_app (goodIn_of _ (by decide +kernel)) ggX2_hasPing_X2_isForWalk
theorem dX2_hasPing_0 : decode cX2_hasPing 0 = .ok (.iconst 0, 1) := by decide +kernel
theorem dX2_hasPing_1 : decode cX2_hasPing 1 = .ok (.istore_n 3, 1) := by decide +kernel
theorem dX2_hasPing_2 : decode cX2_hasPing 2 = .ok (.iload_n 3, 1) := by decide +kernel
theorem dX2_hasPing_3 : decode cX2_hasPing 3 = .ok (.iload_n 2, 1) := by decide +kernel
theorem dX2_hasPing_4 : decode cX2_hasPing 4 = .ok (.if_icmp .ge 20, 3) := by decide +kernel
theorem dX2_hasPing_7 : decode cX2_hasPing 7 = .ok (.aload_n 0, 1) := by decide +kernel
theorem dX2_hasPing_8 : decode cX2_hasPing 8 = .ok (.iload_n 1, 1) := by decide +kernel
theorem dX2_hasPing_9 : decode cX2_hasPing 9 = .ok (.iload_n 3, 1) := by decide +kernel
theorem dX2_hasPing_10 : decode cX2_hasPing 10 = .ok (.invokevirtual 69, 3) := by decide +kernel
theorem dX2_hasPing_13 : decode cX2_hasPing 13 = .ok (.ifCond .eq 5, 3) := by decide +kernel
theorem dX2_hasPing_16 : decode cX2_hasPing 16 = .ok (.iconst 1, 1) := by decide +kernel
theorem dX2_hasPing_17 : decode cX2_hasPing 17 = .ok (.ireturn, 1) := by decide +kernel
theorem dX2_hasPing_18 : decode cX2_hasPing 18 = .ok (.iinc 3 1, 3) := by decide +kernel
theorem dX2_hasPing_21 : decode cX2_hasPing 21 = .ok (.goto (-19), 3) := by decide +kernel
theorem dX2_hasPing_24 : decode cX2_hasPing 24 = .ok (.iconst 0, 1) := by decide +kernel
theorem dX2_hasPing_25 : decode cX2_hasPing 25 = .ok (.ireturn, 1) := by decide +kernel
set_option maxRecDepth 20000 in
theorem ggX2_isForWalk_X2_isEdited : GoodIn wsX2_isForWalk wsX2_isEdited := goodIn_r _ [6, 7, 8, 9, 10, 33, 34, 35, 36, 37, 38, 39, 40] (by decide +kernel) (by decide +kernel)
set_option maxRecDepth 20000 in
theorem gX2_isForWalk_X2_isEdited : GoodIn wsX2_isForWalk (wsV RX2 98 RX2 yX2_isEdited wsX2_isEdited) := goodIn_app (goodIn_of _ (by decide +kernel)) ggX2_isForWalk_X2_isEdited
set_option maxRecDepth 20000 in
theorem ggX2_isForWalk_X0_isLost : GoodIn wsX2_isForWalk wsX0_isLost := goodIn_r _ [15, 16, 8, 9, 10, 41, 42, 43, 44, 45, 46, 47] (by decide +kernel) (by decide +kernel)
set_option maxRecDepth 20000 in
theorem gX2_isForWalk_X0_isLost : GoodIn wsX2_isForWalk (wsV RX2 112 RX0 yX0_isLost wsX0_isLost) := goodIn_app (goodIn_of _ (by decide +kernel)) ggX2_isForWalk_X0_isLost
set_option maxRecDepth 20000 in
theorem ggX2_isForWalk_X0_isSilent : GoodIn wsX2_isForWalk wsX0_isSilent := goodIn_r _ [20, 21, 22, 23, 24, 25, 14, 26, 27, 9, 28, 8, 10, 29, 30, 31, 32, 41, 42, 43, 44, 45, 46, 47] (by decide +kernel) (by decide +kernel)
set_option maxRecDepth 20000 in
theorem gX2_isForWalk_X0_isSilent : GoodIn wsX2_isForWalk (wsV RX2 115 RX0 yX0_isSilent wsX0_isSilent) := goodIn_app (goodIn_of _ (by decide +kernel)) ggX2_isForWalk_X0_isSilent
theorem dX2_isForWalk_0 : decode cX2_isForWalk 0 = .ok (.aload_n 0, 1) := by decide +kernel
theorem dX2_isForWalk_1 : decode cX2_isForWalk 1 = .ok (.iload_n 2, 1) := by decide +kernel
theorem dX2_isForWalk_2 : decode cX2_isForWalk 2 = .ok (.invokevirtual 98, 3) := by decide +kernel
theorem dX2_isForWalk_5 : decode cX2_isForWalk 5 = .ok (.ifCond .ne 26, 3) := by decide +kernel
theorem dX2_isForWalk_8 : decode cX2_isForWalk 8 = .ok (.aload_n 0, 1) := by decide +kernel
theorem dX2_isForWalk_9 : decode cX2_isForWalk 9 = .ok (.getfield 34, 3) := by decide +kernel
theorem dX2_isForWalk_12 : decode cX2_isForWalk 12 = .ok (.iload_n 2, 1) := by decide +kernel
theorem dX2_isForWalk_13 : decode cX2_isForWalk 13 = .ok (.invokevirtual 112, 3) := by decide +kernel
theorem dX2_isForWalk_16 : decode cX2_isForWalk 16 = .ok (.ifCond .ne 19, 3) := by decide +kernel
theorem dX2_isForWalk_19 : decode cX2_isForWalk 19 = .ok (.aload_n 0, 1) := by decide +kernel
theorem dX2_isForWalk_20 : decode cX2_isForWalk 20 = .ok (.getfield 34, 3) := by decide +kernel
theorem dX2_isForWalk_23 : decode cX2_isForWalk 23 = .ok (.iload_n 1, 1) := by decide +kernel
theorem dX2_isForWalk_24 : decode cX2_isForWalk 24 = .ok (.iload_n 2, 1) := by decide +kernel
theorem dX2_isForWalk_25 : decode cX2_isForWalk 25 = .ok (.invokevirtual 115, 3) := by decide +kernel
theorem dX2_isForWalk_28 : decode cX2_isForWalk 28 = .ok (.ifCond .ne 7, 3) := by decide +kernel
theorem dX2_isForWalk_31 : decode cX2_isForWalk 31 = .ok (.iconst 1, 1) := by decide +kernel
theorem dX2_isForWalk_32 : decode cX2_isForWalk 32 = .ok (.goto 4, 3) := by decide +kernel
theorem dX2_isForWalk_35 : decode cX2_isForWalk 35 = .ok (.iconst 0, 1) := by decide +kernel
theorem dX2_isForWalk_36 : decode cX2_isForWalk 36 = .ok (.ireturn, 1) := by decide +kernel
set_option maxRecDepth 20000 in
theorem ggX2_isEdited_X3_isPing : GoodIn wsX2_isEdited wsX3_isPing := goodIn_r _ [4] (by decide +kernel) (by decide +kernel)
set_option maxRecDepth 20000 in
theorem gX2_isEdited_X3_isPing_n55 : GoodIn wsX2_isEdited (wsX3_isPing) := ggX2_isEdited_X3_isPing
theorem dX2_isEdited_0 : decode cX2_isEdited 0 = .ok (.iload_n 1, 1) := by decide +kernel
theorem dX2_isEdited_1 : decode cX2_isEdited 1 = .ok (.invokestatic 55, 3) := by decide +kernel
theorem dX2_isEdited_4 : decode cX2_isEdited 4 = .ok (.ifCond .eq 18, 3) := by decide +kernel
theorem dX2_isEdited_7 : decode cX2_isEdited 7 = .ok (.aload_n 0, 1) := by decide +kernel
theorem dX2_isEdited_8 : decode cX2_isEdited 8 = .ok (.getfield 9, 3) := by decide +kernel
theorem dX2_isEdited_11 : decode cX2_isEdited 11 = .ok (.iload_n 1, 1) := by decide +kernel
theorem dX2_isEdited_12 : decode cX2_isEdited 12 = .ok (.daload, 1) := by decide +kernel
theorem dX2_isEdited_13 : decode cX2_isEdited 13 = .ok (.dconst 0, 1) := by decide +kernel
theorem dX2_isEdited_14 : decode cX2_isEdited 14 = .ok (.dcmp .l, 1) := by decide +kernel
theorem dX2_isEdited_15 : decode cX2_isEdited 15 = .ok (.ifCond .lt 7, 3) := by decide +kernel
theorem dX2_isEdited_18 : decode cX2_isEdited 18 = .ok (.iconst 1, 1) := by decide +kernel
theorem dX2_isEdited_19 : decode cX2_isEdited 19 = .ok (.goto 4, 3) := by decide +kernel
theorem dX2_isEdited_22 : decode cX2_isEdited 22 = .ok (.iconst 0, 1) := by decide +kernel
theorem dX2_isEdited_23 : decode cX2_isEdited 23 = .ok (.ireturn, 1) := by decide +kernel
set_option maxRecDepth 20000 in
theorem ggX2_depthWalked_X2_isEdited : GoodIn wsX2_depthWalked wsX2_isEdited := goodIn_r _ [7, 1, 8, 9, 10, 22, 23, 24, 25, 26, 27, 28, 29] (by decide +kernel) (by decide +kernel)
set_option maxRecDepth 20000 in
theorem gX2_depthWalked_X2_isEdited : GoodIn wsX2_depthWalked (wsV RX2 98 RX2 yX2_isEdited wsX2_isEdited) := goodIn_app (goodIn_of _ (by decide +kernel)) ggX2_depthWalked_X2_isEdited
set_option maxRecDepth 20000 in
theorem ggX2_depthWalked_X2_sampleOfRow : GoodIn wsX2_depthWalked wsX2_sampleOfRow := goodIn_r _ [14, 15, 8, 9, 10, 22, 23, 24, 25, 26, 27, 28, 29] (by decide +kernel) (by decide +kernel)
set_option maxRecDepth 20000 in
theorem gX2_depthWalked_X2_sampleOfRow : GoodIn wsX2_depthWalked (wsV RX2 105 RX2 yX2_sampleOfRow wsX2_sampleOfRow) := goodIn_app (goodIn_of _ (by decide +kernel)) ggX2_depthWalked_X2_sampleOfRow
set_option maxRecDepth 20000 in
theorem ggX2_depthWalked_X0_range : GoodIn wsX2_depthWalked wsX0_range := goodIn_r _ [20, 21, 30, 31, 32, 33, 34, 35, 36] (by decide +kernel) (by decide +kernel)
set_option maxRecDepth 20000 in
theorem gX2_depthWalked_X0_range : GoodIn wsX2_depthWalked (wsV RX2 118 RX0 yX0_range wsX0_range) := goodIn_app (goodIn_of _ (by decide +kernel)) ggX2_depthWalked_X0_range
theorem dX2_depthWalked_0 : decode cX2_depthWalked 0 = .ok (.aload_n 0, 1) := by decide +kernel
theorem dX2_depthWalked_1 : decode cX2_depthWalked 1 = .ok (.iload_n 1, 1) := by decide +kernel
theorem dX2_depthWalked_2 : decode cX2_depthWalked 2 = .ok (.invokevirtual 98, 3) := by decide +kernel
theorem dX2_depthWalked_5 : decode cX2_depthWalked 5 = .ok (.ifCond .eq 12, 3) := by decide +kernel
theorem dX2_depthWalked_8 : decode cX2_depthWalked 8 = .ok (.aload_n 0, 1) := by decide +kernel
theorem dX2_depthWalked_9 : decode cX2_depthWalked 9 = .ok (.getfield 9, 3) := by decide +kernel
theorem dX2_depthWalked_12 : decode cX2_depthWalked 12 = .ok (.iload_n 1, 1) := by decide +kernel
theorem dX2_depthWalked_13 : decode cX2_depthWalked 13 = .ok (.daload, 1) := by decide +kernel
theorem dX2_depthWalked_14 : decode cX2_depthWalked 14 = .ok (.goto 15, 3) := by decide +kernel
theorem dX2_depthWalked_17 : decode cX2_depthWalked 17 = .ok (.aload_n 0, 1) := by decide +kernel
theorem dX2_depthWalked_18 : decode cX2_depthWalked 18 = .ok (.getfield 34, 3) := by decide +kernel
theorem dX2_depthWalked_21 : decode cX2_depthWalked 21 = .ok (.aload_n 0, 1) := by decide +kernel
theorem dX2_depthWalked_22 : decode cX2_depthWalked 22 = .ok (.iload_n 1, 1) := by decide +kernel
theorem dX2_depthWalked_23 : decode cX2_depthWalked 23 = .ok (.invokevirtual 105, 3) := by decide +kernel
theorem dX2_depthWalked_26 : decode cX2_depthWalked 26 = .ok (.invokevirtual 118, 3) := by decide +kernel
theorem dX2_depthWalked_29 : decode cX2_depthWalked 29 = .ok (.dreturn, 1) := by decide +kernel
set_option maxRecDepth 20000 in
theorem ggX2_sampleOfRow_X3_isPing : GoodIn wsX2_sampleOfRow wsX3_isPing := goodIn_r _ [4] (by decide +kernel) (by decide +kernel)
set_option maxRecDepth 20000 in
theorem gX2_sampleOfRow_X3_isPing_n55 : GoodIn wsX2_sampleOfRow (wsX3_isPing) := ggX2_sampleOfRow_X3_isPing
theorem dX2_sampleOfRow_0 : decode cX2_sampleOfRow 0 = .ok (.iload_n 1, 1) := by decide +kernel
theorem dX2_sampleOfRow_1 : decode cX2_sampleOfRow 1 = .ok (.invokestatic 55, 3) := by decide +kernel
theorem dX2_sampleOfRow_4 : decode cX2_sampleOfRow 4 = .ok (.ifCond .eq 12, 3) := by decide +kernel
theorem dX2_sampleOfRow_7 : decode cX2_sampleOfRow 7 = .ok (.aload_n 0, 1) := by decide +kernel
theorem dX2_sampleOfRow_8 : decode cX2_sampleOfRow 8 = .ok (.getfield 19, 3) := by decide +kernel
theorem dX2_sampleOfRow_11 : decode cX2_sampleOfRow 11 = .ok (.iload_n 1, 1) := by decide +kernel
theorem dX2_sampleOfRow_12 : decode cX2_sampleOfRow 12 = .ok (.iaload, 1) := by decide +kernel
theorem dX2_sampleOfRow_13 : decode cX2_sampleOfRow 13 = .ok (.goto 4, 3) := by decide +kernel
theorem dX2_sampleOfRow_16 : decode cX2_sampleOfRow 16 = .ok (.iconst 0, 1) := by decide +kernel
theorem dX2_sampleOfRow_17 : decode cX2_sampleOfRow 17 = .ok (.ireturn, 1) := by decide +kernel
set_option maxRecDepth 20000 in
theorem ggX2_neighbour_X2_isWalked : GoodIn wsX2_neighbour wsX2_isWalked := goodIn_r _ [5, 6, 7, 8, 9, 10, 11, 12, 13, 14, 15, 16, 17] (by decide +kernel) (by decide +kernel)
set_option maxRecDepth 20000 in
theorem gX2_neighbour_X2_isWalked : GoodIn wsX2_neighbour (wsV RX2 84 RX2 yX2_isWalked wsX2_isWalked) := goodIn_app (goodIn_of _ (by decide +kernel)) ggX2_neighbour_X2_isWalked
theorem dX2_neighbour_0 : decode cX2_neighbour 0 = .ok (.iconst 1, 1) := by decide +kernel
theorem dX2_neighbour_1 : decode cX2_neighbour 1 = .ok (.istore_n 3, 1) := by decide +kernel
theorem dX2_neighbour_2 : decode cX2_neighbour 2 = .ok (.iload_n 3, 1) := by decide +kernel
theorem dX2_neighbour_3 : decode cX2_neighbour 3 = .ok (.bipush 32, 2) := by decide +kernel
theorem dX2_neighbour_5 : decode cX2_neighbour 5 = .ok (.if_icmp .ge 27, 3) := by decide +kernel
theorem dX2_neighbour_8 : decode cX2_neighbour 8 = .ok (.aload_n 0, 1) := by decide +kernel
theorem dX2_neighbour_9 : decode cX2_neighbour 9 = .ok (.iload_n 1, 1) := by decide +kernel
theorem dX2_neighbour_10 : decode cX2_neighbour 10 = .ok (.iload_n 3, 1) := by decide +kernel
theorem dX2_neighbour_11 : decode cX2_neighbour 11 = .ok (.iload_n 2, 1) := by decide +kernel
theorem dX2_neighbour_12 : decode cX2_neighbour 12 = .ok (.imul, 1) := by decide +kernel
theorem dX2_neighbour_13 : decode cX2_neighbour 13 = .ok (.iadd, 1) := by decide +kernel
theorem dX2_neighbour_14 : decode cX2_neighbour 14 = .ok (.invokevirtual 84, 3) := by decide +kernel
theorem dX2_neighbour_17 : decode cX2_neighbour 17 = .ok (.ifCond .eq 9, 3) := by decide +kernel
theorem dX2_neighbour_20 : decode cX2_neighbour 20 = .ok (.iload_n 1, 1) := by decide +kernel
theorem dX2_neighbour_21 : decode cX2_neighbour 21 = .ok (.iload_n 3, 1) := by decide +kernel
theorem dX2_neighbour_22 : decode cX2_neighbour 22 = .ok (.iload_n 2, 1) := by decide +kernel
theorem dX2_neighbour_23 : decode cX2_neighbour 23 = .ok (.imul, 1) := by decide +kernel
theorem dX2_neighbour_24 : decode cX2_neighbour 24 = .ok (.iadd, 1) := by decide +kernel
theorem dX2_neighbour_25 : decode cX2_neighbour 25 = .ok (.ireturn, 1) := by decide +kernel
theorem dX2_neighbour_26 : decode cX2_neighbour 26 = .ok (.iinc 3 1, 3) := by decide +kernel
theorem dX2_neighbour_29 : decode cX2_neighbour 29 = .ok (.goto (-27), 3) := by decide +kernel
theorem dX2_neighbour_32 : decode cX2_neighbour 32 = .ok (.iconst (-1), 1) := by decide +kernel
theorem dX2_neighbour_33 : decode cX2_neighbour 33 = .ok (.ireturn, 1) := by decide +kernel
set_option maxRecDepth 20000 in
theorem ggX2_lowest_X2_isEdited : GoodIn wsX2_lowest wsX2_isEdited := goodIn_r _ [7, 2, 8, 9, 10, 22, 23, 24, 25, 26, 27, 28, 29] (by decide +kernel) (by decide +kernel)
set_option maxRecDepth 20000 in
theorem gX2_lowest_X2_isEdited : GoodIn wsX2_lowest (wsV RX2 98 RX2 yX2_isEdited wsX2_isEdited) := goodIn_app (goodIn_of _ (by decide +kernel)) ggX2_lowest_X2_isEdited
set_option maxRecDepth 20000 in
theorem ggX2_lowest_X0_sampleFor : GoodIn wsX2_lowest wsX0_sampleFor := goodIn_r _ [15, 16, 17, 18, 19, 14, 20, 21, 30, 31, 32, 33, 34, 35, 36] (by decide +kernel) (by decide +kernel)
set_option maxRecDepth 20000 in
theorem gX2_lowest_X0_sampleFor : GoodIn wsX2_lowest (wsV RX2 121 RX0 yX0_sampleFor wsX0_sampleFor) := goodIn_app (goodIn_of _ (by decide +kernel)) ggX2_lowest_X0_sampleFor
theorem dX2_lowest_0 : decode cX2_lowest 0 = .ok (.aload_n 0, 1) := by decide +kernel
theorem dX2_lowest_1 : decode cX2_lowest 1 = .ok (.iload_n 1, 1) := by decide +kernel
theorem dX2_lowest_2 : decode cX2_lowest 2 = .ok (.invokevirtual 98, 3) := by decide +kernel
theorem dX2_lowest_5 : decode cX2_lowest 5 = .ok (.ifCond .eq 19, 3) := by decide +kernel
theorem dX2_lowest_8 : decode cX2_lowest 8 = .ok (.aload_n 0, 1) := by decide +kernel
theorem dX2_lowest_9 : decode cX2_lowest 9 = .ok (.getfield 34, 3) := by decide +kernel
theorem dX2_lowest_12 : decode cX2_lowest 12 = .ok (.aload_n 0, 1) := by decide +kernel
theorem dX2_lowest_13 : decode cX2_lowest 13 = .ok (.getfield 9, 3) := by decide +kernel
theorem dX2_lowest_16 : decode cX2_lowest 16 = .ok (.iload_n 1, 1) := by decide +kernel
theorem dX2_lowest_17 : decode cX2_lowest 17 = .ok (.daload, 1) := by decide +kernel
theorem dX2_lowest_18 : decode cX2_lowest 18 = .ok (.invokevirtual 121, 3) := by decide +kernel
theorem dX2_lowest_21 : decode cX2_lowest 21 = .ok (.goto 4, 3) := by decide +kernel
theorem dX2_lowest_24 : decode cX2_lowest 24 = .ok (.iconst 0, 1) := by decide +kernel
theorem dX2_lowest_25 : decode cX2_lowest 25 = .ok (.ireturn, 1) := by decide +kernel
set_option maxRecDepth 20000 in
theorem ggX2_highest_X2_isEdited : GoodIn wsX2_highest wsX2_isEdited := goodIn_r _ [8, 2, 9, 10, 11, 23, 24, 25, 26, 27, 28, 29, 30] (by decide +kernel) (by decide +kernel)
set_option maxRecDepth 20000 in
theorem gX2_highest_X2_isEdited : GoodIn wsX2_highest (wsV RX2 98 RX2 yX2_isEdited wsX2_isEdited) := goodIn_app (goodIn_of _ (by decide +kernel)) ggX2_highest_X2_isEdited
set_option maxRecDepth 20000 in
theorem ggX2_highest_X0_sampleFor : GoodIn wsX2_highest wsX0_sampleFor := goodIn_r _ [16, 17, 18, 19, 20, 15, 21, 22, 31, 32, 33, 34, 35, 36, 37] (by decide +kernel) (by decide +kernel)
set_option maxRecDepth 20000 in
theorem gX2_highest_X0_sampleFor : GoodIn wsX2_highest (wsV RX2 121 RX0 yX0_sampleFor wsX0_sampleFor) := goodIn_app (goodIn_of _ (by decide +kernel)) ggX2_highest_X0_sampleFor
theorem dX2_highest_0 : decode cX2_highest 0 = .ok (.aload_n 0, 1) := by decide +kernel
theorem dX2_highest_1 : decode cX2_highest 1 = .ok (.iload_n 1, 1) := by decide +kernel
theorem dX2_highest_2 : decode cX2_highest 2 = .ok (.invokevirtual 98, 3) := by decide +kernel
theorem dX2_highest_5 : decode cX2_highest 5 = .ok (.ifCond .eq 19, 3) := by decide +kernel
theorem dX2_highest_8 : decode cX2_highest 8 = .ok (.aload_n 0, 1) := by decide +kernel
theorem dX2_highest_9 : decode cX2_highest 9 = .ok (.getfield 34, 3) := by decide +kernel
theorem dX2_highest_12 : decode cX2_highest 12 = .ok (.aload_n 0, 1) := by decide +kernel
theorem dX2_highest_13 : decode cX2_highest 13 = .ok (.getfield 9, 3) := by decide +kernel
theorem dX2_highest_16 : decode cX2_highest 16 = .ok (.iload_n 1, 1) := by decide +kernel
theorem dX2_highest_17 : decode cX2_highest 17 = .ok (.daload, 1) := by decide +kernel
theorem dX2_highest_18 : decode cX2_highest 18 = .ok (.invokevirtual 121, 3) := by decide +kernel
theorem dX2_highest_21 : decode cX2_highest 21 = .ok (.goto 12, 3) := by decide +kernel
theorem dX2_highest_24 : decode cX2_highest 24 = .ok (.aload_n 0, 1) := by decide +kernel
theorem dX2_highest_25 : decode cX2_highest 25 = .ok (.getfield 34, 3) := by decide +kernel
theorem dX2_highest_28 : decode cX2_highest 28 = .ok (.getfield 38, 3) := by decide +kernel
theorem dX2_highest_31 : decode cX2_highest 31 = .ok (.iconst 1, 1) := by decide +kernel
theorem dX2_highest_32 : decode cX2_highest 32 = .ok (.isub, 1) := by decide +kernel
theorem dX2_highest_33 : decode cX2_highest 33 = .ok (.ireturn, 1) := by decide +kernel
set_option maxRecDepth 20000 in
theorem ggX2_sumUp_X2_highest : GoodIn wsX2_sumUp wsX2_highest := goodIn_r _ [9, 1, 10, 4, 11, 12, 13, 8, 14, 15, 16, 17, 18, 19, 20, 21, 22, 23, 24, 25, 26, 27, 28, 77, 78, 79, 80, 81, 82, 83, 84, 85, 86, 87, 88, 89, 90, 91] (by decide +kernel) (by decide +kernel)
set_option maxRecDepth 20000 in
theorem gX2_sumUp_X2_highest : GoodIn wsX2_sumUp (wsV RX2 125 RX2 yX2_highest wsX2_highest) := goodIn_app (goodIn_of _ (by decide +kernel)) ggX2_sumUp_X2_highest
set_option maxRecDepth 20000 in
theorem ggX2_sumUp_X2_lowest : GoodIn wsX2_sumUp wsX2_lowest := goodIn_r _ [32, 1, 10, 11, 12, 13, 8, 14, 15, 16, 17, 18, 19, 20, 21, 22, 23, 24, 25, 26, 27, 28, 77, 78, 79, 80, 81, 82, 83, 84, 85, 86, 87, 88, 89, 90, 91] (by decide +kernel) (by decide +kernel)
set_option maxRecDepth 20000 in
theorem gX2_sumUp_X2_lowest : GoodIn wsX2_sumUp (wsV RX2 101 RX2 yX2_lowest wsX2_lowest) := goodIn_app (goodIn_of _ (by decide +kernel)) ggX2_sumUp_X2_lowest
set_option maxRecDepth 20000 in
theorem ggX2_sumUp_X0_isSample : GoodIn wsX2_sumUp wsX0_isSample := goodIn_r _ [36, 23, 85, 86, 87, 88, 89, 90, 91] (by decide +kernel) (by decide +kernel)
set_option maxRecDepth 20000 in
theorem gX2_sumUp_X0_isSample : GoodIn wsX2_sumUp (wsV RX2 128 RX0 yX0_isSample wsX0_isSample) := goodIn_app (goodIn_of _ (by decide +kernel)) ggX2_sumUp_X0_isSample
set_option maxRecDepth 20000 in
theorem ggX2_sumUp_X0_strength : GoodIn wsX2_sumUp wsX0_strength := goodIn_r _ [40, 41, 42, 43, 44, 45, 46, 47, 48, 49, 50, 51, 52, 21, 53, 23, 54, 16, 55, 15, 17, 56, 34, 35, 36, 57, 58, 59, 60, 61, 24, 25, 26, 27, 28, 85, 86, 87, 88, 89, 90, 91] (by decide +kernel) (by decide +kernel)
set_option maxRecDepth 20000 in
theorem gX2_sumUp_X0_strength : GoodIn wsX2_sumUp (wsV RX2 108 RX0 yX0_strength wsX0_strength) := goodIn_app (goodIn_of _ (by decide +kernel)) ggX2_sumUp_X0_strength
set_option maxRecDepth 20000 in
theorem ggX2_sumUp_X2_bestBefore : GoodIn wsX2_sumUp wsX2_bestBefore := goodIn_r _ [65, 66, 67, 68, 48, 69, 70, 71, 72, 29, 30, 31, 8, 32, 1, 10, 11, 12, 13, 14, 15, 16, 17, 18, 19, 20, 21, 22, 23, 24, 25, 26, 27, 28, 5, 6, 7, 9, 4, 73, 74, 75, 76, 3, 33, 34, 35, 36, 77, 78, 79, 80, 81, 82, 83, 84, 85, 86, 87, 88, 89, 90, 91] (by decide +kernel) (by decide +kernel)
set_option maxRecDepth 20000 in
theorem gX2_sumUp_X2_bestBefore : GoodIn wsX2_sumUp (wsV RX2 131 RX2 yX2_bestBefore wsX2_bestBefore) := goodIn_app (goodIn_of _ (by decide +kernel)) ggX2_sumUp_X2_bestBefore
set_option maxRecDepth 20000 in
theorem ggX2_sumUp_X2_sumAt : GoodIn wsX2_sumUp wsX2_sumAt := goodIn_r _ [76, 1, 3, 4, 15, 16, 17, 33, 34, 35, 21, 36, 23, 77, 78, 79, 80, 81, 82, 83, 84, 85, 86, 87, 88, 89, 90, 91] (by decide +kernel) (by decide +kernel)
set_option maxRecDepth 20000 in
theorem gX2_sumUp_X2_sumAt : GoodIn wsX2_sumUp (wsV RX2 135 RX2 yX2_sumAt wsX2_sumAt) := goodIn_app (goodIn_of _ (by decide +kernel)) ggX2_sumUp_X2_sumAt
theorem dX2_sumUp_0 : decode cX2_sumUp 0 = .ok (.aload_n 0, 1) := by decide +kernel
theorem dX2_sumUp_1 : decode cX2_sumUp 1 = .ok (.iload_n 1, 1) := by decide +kernel
theorem dX2_sumUp_2 : decode cX2_sumUp 2 = .ok (.invokevirtual 125, 3) := by decide +kernel
theorem dX2_sumUp_5 : decode cX2_sumUp 5 = .ok (.istore_n 3, 1) := by decide +kernel
theorem dX2_sumUp_6 : decode cX2_sumUp 6 = .ok (.aload_n 0, 1) := by decide +kernel
theorem dX2_sumUp_7 : decode cX2_sumUp 7 = .ok (.iload_n 1, 1) := by decide +kernel
theorem dX2_sumUp_8 : decode cX2_sumUp 8 = .ok (.invokevirtual 101, 3) := by decide +kernel
theorem dX2_sumUp_11 : decode cX2_sumUp 11 = .ok (.istore 4, 2) := by decide +kernel
theorem dX2_sumUp_13 : decode cX2_sumUp 13 = .ok (.iload 4, 2) := by decide +kernel
theorem dX2_sumUp_15 : decode cX2_sumUp 15 = .ok (.iload_n 3, 1) := by decide +kernel
theorem dX2_sumUp_16 : decode cX2_sumUp 16 = .ok (.if_icmp .gt 79, 3) := by decide +kernel
theorem dX2_sumUp_19 : decode cX2_sumUp 19 = .ok (.aload_n 0, 1) := by decide +kernel
theorem dX2_sumUp_20 : decode cX2_sumUp 20 = .ok (.getfield 34, 3) := by decide +kernel
theorem dX2_sumUp_23 : decode cX2_sumUp 23 = .ok (.iload 4, 2) := by decide +kernel
theorem dX2_sumUp_25 : decode cX2_sumUp 25 = .ok (.invokevirtual 128, 3) := by decide +kernel
theorem dX2_sumUp_28 : decode cX2_sumUp 28 = .ok (.ifCond .eq 67, 3) := by decide +kernel
theorem dX2_sumUp_31 : decode cX2_sumUp 31 = .ok (.aload_n 0, 1) := by decide +kernel
theorem dX2_sumUp_32 : decode cX2_sumUp 32 = .ok (.getfield 34, 3) := by decide +kernel
theorem dX2_sumUp_35 : decode cX2_sumUp 35 = .ok (.aload_n 0, 1) := by decide +kernel
theorem dX2_sumUp_36 : decode cX2_sumUp 36 = .ok (.getfield 27, 3) := by decide +kernel
theorem dX2_sumUp_39 : decode cX2_sumUp 39 = .ok (.iload_n 1, 1) := by decide +kernel
theorem dX2_sumUp_40 : decode cX2_sumUp 40 = .ok (.iload 4, 2) := by decide +kernel
theorem dX2_sumUp_42 : decode cX2_sumUp 42 = .ok (.invokevirtual 108, 3) := by decide +kernel
theorem dX2_sumUp_45 : decode cX2_sumUp 45 = .ok (.lstore 5, 2) := by decide +kernel
theorem dX2_sumUp_47 : decode cX2_sumUp 47 = .ok (.iload_n 2, 1) := by decide +kernel
theorem dX2_sumUp_48 : decode cX2_sumUp 48 = .ok (.iconst (-1), 1) := by decide +kernel
theorem dX2_sumUp_49 : decode cX2_sumUp 49 = .ok (.if_icmp .eq 21, 3) := by decide +kernel
theorem dX2_sumUp_52 : decode cX2_sumUp 52 = .ok (.lload 5, 2) := by decide +kernel
theorem dX2_sumUp_54 : decode cX2_sumUp 54 = .ok (.aload_n 0, 1) := by decide +kernel
theorem dX2_sumUp_55 : decode cX2_sumUp 55 = .ok (.iload_n 2, 1) := by decide +kernel
theorem dX2_sumUp_56 : decode cX2_sumUp 56 = .ok (.aload_n 0, 1) := by decide +kernel
theorem dX2_sumUp_57 : decode cX2_sumUp 57 = .ok (.iload_n 2, 1) := by decide +kernel
theorem dX2_sumUp_58 : decode cX2_sumUp 58 = .ok (.iload_n 1, 1) := by decide +kernel
theorem dX2_sumUp_59 : decode cX2_sumUp 59 = .ok (.iload 4, 2) := by decide +kernel
theorem dX2_sumUp_61 : decode cX2_sumUp 61 = .ok (.invokevirtual 131, 3) := by decide +kernel
theorem dX2_sumUp_64 : decode cX2_sumUp 64 = .ok (.invokevirtual 135, 3) := by decide +kernel
theorem dX2_sumUp_67 : decode cX2_sumUp 67 = .ok (.ladd, 1) := by decide +kernel
theorem dX2_sumUp_68 : decode cX2_sumUp 68 = .ok (.lstore 5, 2) := by decide +kernel
theorem dX2_sumUp_70 : decode cX2_sumUp 70 = .ok (.aload_n 0, 1) := by decide +kernel
theorem dX2_sumUp_71 : decode cX2_sumUp 71 = .ok (.getfield 43, 3) := by decide +kernel
theorem dX2_sumUp_74 : decode cX2_sumUp 74 = .ok (.iload_n 1, 1) := by decide +kernel
theorem dX2_sumUp_75 : decode cX2_sumUp 75 = .ok (.aload_n 0, 1) := by decide +kernel
theorem dX2_sumUp_76 : decode cX2_sumUp 76 = .ok (.getfield 34, 3) := by decide +kernel
theorem dX2_sumUp_79 : decode cX2_sumUp 79 = .ok (.getfield 38, 3) := by decide +kernel
theorem dX2_sumUp_82 : decode cX2_sumUp 82 = .ok (.imul, 1) := by decide +kernel
theorem dX2_sumUp_83 : decode cX2_sumUp 83 = .ok (.iload 4, 2) := by decide +kernel
theorem dX2_sumUp_85 : decode cX2_sumUp 85 = .ok (.iadd, 1) := by decide +kernel
theorem dX2_sumUp_86 : decode cX2_sumUp 86 = .ok (.lload 5, 2) := by decide +kernel
theorem dX2_sumUp_88 : decode cX2_sumUp 88 = .ok (.lastore, 1) := by decide +kernel
theorem dX2_sumUp_89 : decode cX2_sumUp 89 = .ok (.iinc 4 1, 3) := by decide +kernel
theorem dX2_sumUp_92 : decode cX2_sumUp 92 = .ok (.goto (-79), 3) := by decide +kernel
theorem dX2_sumUp_95 : decode cX2_sumUp 95 = .ok (.return_, 1) := by decide +kernel
set_option maxRecDepth 20000 in
theorem ggX2_traceBack_X2_sampleOfRow : GoodIn wsX2_traceBack wsX2_sampleOfRow := goodIn_r _ [7, 2, 8, 9, 10, 58, 59, 60, 61, 62, 63, 64, 65] (by decide +kernel) (by decide +kernel)
set_option maxRecDepth 20000 in
theorem gX2_traceBack_X2_sampleOfRow : GoodIn wsX2_traceBack (wsV RX2 105 RX2 yX2_sampleOfRow wsX2_sampleOfRow) := goodIn_app (goodIn_of _ (by decide +kernel)) ggX2_traceBack_X2_sampleOfRow
set_option maxRecDepth 20000 in
theorem ggX2_traceBack_X2_bestBefore : GoodIn wsX2_traceBack wsX2_bestBefore := goodIn_r _ [14, 15, 16, 17, 18, 19, 20, 21, 22, 23, 24, 25, 6, 26, 27, 28, 29, 30, 31, 32, 8, 9, 10, 33, 34, 35, 36, 37, 38, 39, 40, 41, 42, 43, 44, 45, 46, 47, 48, 49, 50, 51, 52, 53, 54, 55, 56, 57, 58, 59, 60, 61, 62, 63, 64, 65, 66, 67, 68, 69, 70, 71, 72] (by decide +kernel) (by decide +kernel)
set_option maxRecDepth 20000 in
theorem gX2_traceBack_X2_bestBefore : GoodIn wsX2_traceBack (wsV RX2 131 RX2 yX2_bestBefore wsX2_bestBefore) := goodIn_app (goodIn_of _ (by decide +kernel)) ggX2_traceBack_X2_bestBefore
set_option maxRecDepth 20000 in
theorem ggX2_traceBack_X2_sumAt : GoodIn wsX2_traceBack wsX2_sumAt := goodIn_r _ [52, 27, 53, 48, 8, 9, 10, 54, 55, 56, 36, 57, 38, 58, 59, 60, 61, 62, 63, 64, 65, 66, 67, 68, 69, 70, 71, 72] (by decide +kernel) (by decide +kernel)
set_option maxRecDepth 20000 in
theorem gX2_traceBack_X2_sumAt : GoodIn wsX2_traceBack (wsV RX2 135 RX2 yX2_sumAt wsX2_sumAt) := goodIn_app (goodIn_of _ (by decide +kernel)) ggX2_traceBack_X2_sumAt
theorem dX2_traceBack_0 : decode cX2_traceBack 0 = .ok (.lconst 0, 1) := by decide +kernel
theorem dX2_traceBack_1 : decode cX2_traceBack 1 = .ok (.lstore_n 1, 1) := by decide +kernel
theorem dX2_traceBack_2 : decode cX2_traceBack 2 = .ok (.iconst (-1), 1) := by decide +kernel
theorem dX2_traceBack_3 : decode cX2_traceBack 3 = .ok (.istore_n 3, 1) := by decide +kernel
theorem dX2_traceBack_4 : decode cX2_traceBack 4 = .ok (.bipush 31, 2) := by decide +kernel
theorem dX2_traceBack_6 : decode cX2_traceBack 6 = .ok (.istore 4, 2) := by decide +kernel
theorem dX2_traceBack_8 : decode cX2_traceBack 8 = .ok (.iload 4, 2) := by decide +kernel
theorem dX2_traceBack_10 : decode cX2_traceBack 10 = .ok (.ifCond .lt 64, 3) := by decide +kernel
theorem dX2_traceBack_13 : decode cX2_traceBack 13 = .ok (.aload_n 0, 1) := by decide +kernel
theorem dX2_traceBack_14 : decode cX2_traceBack 14 = .ok (.getfield 15, 3) := by decide +kernel
theorem dX2_traceBack_17 : decode cX2_traceBack 17 = .ok (.iload 4, 2) := by decide +kernel
theorem dX2_traceBack_19 : decode cX2_traceBack 19 = .ok (.baload, 1) := by decide +kernel
theorem dX2_traceBack_20 : decode cX2_traceBack 20 = .ok (.ifCond .eq 48, 3) := by decide +kernel
theorem dX2_traceBack_23 : decode cX2_traceBack 23 = .ok (.aload_n 0, 1) := by decide +kernel
theorem dX2_traceBack_24 : decode cX2_traceBack 24 = .ok (.getfield 19, 3) := by decide +kernel
theorem dX2_traceBack_27 : decode cX2_traceBack 27 = .ok (.iload 4, 2) := by decide +kernel
theorem dX2_traceBack_29 : decode cX2_traceBack 29 = .ok (.aload_n 0, 1) := by decide +kernel
theorem dX2_traceBack_30 : decode cX2_traceBack 30 = .ok (.iload 4, 2) := by decide +kernel
theorem dX2_traceBack_32 : decode cX2_traceBack 32 = .ok (.iload_n 3, 1) := by decide +kernel
theorem dX2_traceBack_33 : decode cX2_traceBack 33 = .ok (.aload_n 0, 1) := by decide +kernel
theorem dX2_traceBack_34 : decode cX2_traceBack 34 = .ok (.iload_n 3, 1) := by decide +kernel
theorem dX2_traceBack_35 : decode cX2_traceBack 35 = .ok (.invokevirtual 105, 3) := by decide +kernel
theorem dX2_traceBack_38 : decode cX2_traceBack 38 = .ok (.invokevirtual 131, 3) := by decide +kernel
theorem dX2_traceBack_41 : decode cX2_traceBack 41 = .ok (.iastore, 1) := by decide +kernel
theorem dX2_traceBack_42 : decode cX2_traceBack 42 = .ok (.iload_n 3, 1) := by decide +kernel
theorem dX2_traceBack_43 : decode cX2_traceBack 43 = .ok (.iconst (-1), 1) := by decide +kernel
theorem dX2_traceBack_44 : decode cX2_traceBack 44 = .ok (.if_icmp .ne 19, 3) := by decide +kernel
theorem dX2_traceBack_47 : decode cX2_traceBack 47 = .ok (.aload_n 0, 1) := by decide +kernel
theorem dX2_traceBack_48 : decode cX2_traceBack 48 = .ok (.iload 4, 2) := by decide +kernel
theorem dX2_traceBack_50 : decode cX2_traceBack 50 = .ok (.aload_n 0, 1) := by decide +kernel
theorem dX2_traceBack_51 : decode cX2_traceBack 51 = .ok (.getfield 19, 3) := by decide +kernel
theorem dX2_traceBack_54 : decode cX2_traceBack 54 = .ok (.iload 4, 2) := by decide +kernel
theorem dX2_traceBack_56 : decode cX2_traceBack 56 = .ok (.iaload, 1) := by decide +kernel
theorem dX2_traceBack_57 : decode cX2_traceBack 57 = .ok (.invokevirtual 135, 3) := by decide +kernel
theorem dX2_traceBack_60 : decode cX2_traceBack 60 = .ok (.goto 4, 3) := by decide +kernel
theorem dX2_traceBack_63 : decode cX2_traceBack 63 = .ok (.lload_n 1, 1) := by decide +kernel
theorem dX2_traceBack_64 : decode cX2_traceBack 64 = .ok (.lstore_n 1, 1) := by decide +kernel
theorem dX2_traceBack_65 : decode cX2_traceBack 65 = .ok (.iload 4, 2) := by decide +kernel
theorem dX2_traceBack_67 : decode cX2_traceBack 67 = .ok (.istore_n 3, 1) := by decide +kernel
theorem dX2_traceBack_68 : decode cX2_traceBack 68 = .ok (.iinc 4 (-1), 3) := by decide +kernel
theorem dX2_traceBack_71 : decode cX2_traceBack 71 = .ok (.goto (-63), 3) := by decide +kernel
theorem dX2_traceBack_74 : decode cX2_traceBack 74 = .ok (.lload_n 1, 1) := by decide +kernel
theorem dX2_traceBack_75 : decode cX2_traceBack 75 = .ok (.lreturn, 1) := by decide +kernel
set_option maxRecDepth 20000 in
theorem ggX2_bestBefore_X2_lowest : GoodIn wsX2_bestBefore wsX2_lowest := goodIn_r _ [13, 14, 15, 16, 17, 18, 12, 19, 20, 21, 22, 23, 24, 25, 26, 27, 28, 29, 30, 31, 32, 33, 48, 49, 50, 51, 52, 53, 54, 55, 56, 57, 58, 59, 60, 61, 62] (by decide +kernel) (by decide +kernel)
set_option maxRecDepth 20000 in
theorem gX2_bestBefore_X2_lowest : GoodIn wsX2_bestBefore (wsV RX2 101 RX2 yX2_lowest wsX2_lowest) := goodIn_app (goodIn_of _ (by decide +kernel)) ggX2_bestBefore_X2_lowest
set_option maxRecDepth 20000 in
theorem ggX2_bestBefore_X2_highest : GoodIn wsX2_bestBefore wsX2_highest := goodIn_r _ [37, 14, 15, 38, 16, 17, 18, 12, 19, 20, 21, 22, 23, 24, 25, 26, 27, 28, 29, 30, 31, 32, 33, 48, 49, 50, 51, 52, 53, 54, 55, 56, 57, 58, 59, 60, 61, 62] (by decide +kernel) (by decide +kernel)
set_option maxRecDepth 20000 in
theorem gX2_bestBefore_X2_highest : GoodIn wsX2_bestBefore (wsV RX2 125 RX2 yX2_highest wsX2_highest) := goodIn_app (goodIn_of _ (by decide +kernel)) ggX2_bestBefore_X2_highest
set_option maxRecDepth 20000 in
theorem ggX2_bestBefore_X2_isEdited : GoodIn wsX2_bestBefore wsX2_isEdited := goodIn_r _ [19, 15, 20, 21, 22, 48, 49, 50, 51, 52, 53, 54, 55] (by decide +kernel) (by decide +kernel)
set_option maxRecDepth 20000 in
theorem gX2_bestBefore_X2_isEdited : GoodIn wsX2_bestBefore (wsV RX2 98 RX2 yX2_isEdited wsX2_isEdited) := goodIn_app (goodIn_of _ (by decide +kernel)) ggX2_bestBefore_X2_isEdited
set_option maxRecDepth 20000 in
theorem ggX2_bestBefore_X2_sumAt : GoodIn wsX2_bestBefore wsX2_sumAt := goodIn_r _ [42, 14, 43, 38, 20, 21, 22, 44, 45, 46, 26, 47, 28, 48, 49, 50, 51, 52, 53, 54, 55, 56, 57, 58, 59, 60, 61, 62] (by decide +kernel) (by decide +kernel)
set_option maxRecDepth 20000 in
theorem gX2_bestBefore_X2_sumAt : GoodIn wsX2_bestBefore (wsV RX2 135 RX2 yX2_sumAt wsX2_sumAt) := goodIn_app (goodIn_of _ (by decide +kernel)) ggX2_bestBefore_X2_sumAt
theorem dX2_bestBefore_0 : decode cX2_bestBefore 0 = .ok (.aload_n 0, 1) := by decide +kernel
theorem dX2_bestBefore_1 : decode cX2_bestBefore 1 = .ok (.iload_n 1, 1) := by decide +kernel
theorem dX2_bestBefore_2 : decode cX2_bestBefore 2 = .ok (.invokevirtual 101, 3) := by decide +kernel
theorem dX2_bestBefore_5 : decode cX2_bestBefore 5 = .ok (.istore 4, 2) := by decide +kernel
theorem dX2_bestBefore_7 : decode cX2_bestBefore 7 = .ok (.aload_n 0, 1) := by decide +kernel
theorem dX2_bestBefore_8 : decode cX2_bestBefore 8 = .ok (.iload_n 1, 1) := by decide +kernel
theorem dX2_bestBefore_9 : decode cX2_bestBefore 9 = .ok (.invokevirtual 125, 3) := by decide +kernel
theorem dX2_bestBefore_12 : decode cX2_bestBefore 12 = .ok (.istore 5, 2) := by decide +kernel
theorem dX2_bestBefore_14 : decode cX2_bestBefore 14 = .ok (.iload_n 2, 1) := by decide +kernel
theorem dX2_bestBefore_15 : decode cX2_bestBefore 15 = .ok (.iconst (-1), 1) := by decide +kernel
theorem dX2_bestBefore_16 : decode cX2_bestBefore 16 = .ok (.if_icmp .eq 45, 3) := by decide +kernel
theorem dX2_bestBefore_19 : decode cX2_bestBefore 19 = .ok (.aload_n 0, 1) := by decide +kernel
theorem dX2_bestBefore_20 : decode cX2_bestBefore 20 = .ok (.iload_n 1, 1) := by decide +kernel
theorem dX2_bestBefore_21 : decode cX2_bestBefore 21 = .ok (.invokevirtual 98, 3) := by decide +kernel
theorem dX2_bestBefore_24 : decode cX2_bestBefore 24 = .ok (.ifCond .ne 37, 3) := by decide +kernel
theorem dX2_bestBefore_27 : decode cX2_bestBefore 27 = .ok (.aload_n 0, 1) := by decide +kernel
theorem dX2_bestBefore_28 : decode cX2_bestBefore 28 = .ok (.iload_n 2, 1) := by decide +kernel
theorem dX2_bestBefore_29 : decode cX2_bestBefore 29 = .ok (.invokevirtual 98, 3) := by decide +kernel
theorem dX2_bestBefore_32 : decode cX2_bestBefore 32 = .ok (.ifCond .ne 29, 3) := by decide +kernel
theorem dX2_bestBefore_35 : decode cX2_bestBefore 35 = .ok (.iload 4, 2) := by decide +kernel
theorem dX2_bestBefore_37 : decode cX2_bestBefore 37 = .ok (.iload_n 3, 1) := by decide +kernel
theorem dX2_bestBefore_38 : decode cX2_bestBefore 38 = .ok (.aload_n 0, 1) := by decide +kernel
theorem dX2_bestBefore_39 : decode cX2_bestBefore 39 = .ok (.getfield 23, 3) := by decide +kernel
theorem dX2_bestBefore_42 : decode cX2_bestBefore 42 = .ok (.isub, 1) := by decide +kernel
theorem dX2_bestBefore_43 : decode cX2_bestBefore 43 = .ok (.invokestatic 139, 3) := by decide +kernel
theorem dX2_bestBefore_46 : decode cX2_bestBefore 46 = .ok (.istore 4, 2) := by decide +kernel
theorem dX2_bestBefore_48 : decode cX2_bestBefore 48 = .ok (.iload 5, 2) := by decide +kernel
theorem dX2_bestBefore_50 : decode cX2_bestBefore 50 = .ok (.iload_n 3, 1) := by decide +kernel
theorem dX2_bestBefore_51 : decode cX2_bestBefore 51 = .ok (.aload_n 0, 1) := by decide +kernel
theorem dX2_bestBefore_52 : decode cX2_bestBefore 52 = .ok (.getfield 23, 3) := by decide +kernel
theorem dX2_bestBefore_55 : decode cX2_bestBefore 55 = .ok (.iadd, 1) := by decide +kernel
theorem dX2_bestBefore_56 : decode cX2_bestBefore 56 = .ok (.invokestatic 144, 3) := by decide +kernel
theorem dX2_bestBefore_59 : decode cX2_bestBefore 59 = .ok (.istore 5, 2) := by decide +kernel
theorem dX2_bestBefore_61 : decode cX2_bestBefore 61 = .ok (.iload 4, 2) := by decide +kernel
theorem dX2_bestBefore_63 : decode cX2_bestBefore 63 = .ok (.istore 6, 2) := by decide +kernel
theorem dX2_bestBefore_65 : decode cX2_bestBefore 65 = .ok (.aload_n 0, 1) := by decide +kernel
theorem dX2_bestBefore_66 : decode cX2_bestBefore 66 = .ok (.iload_n 1, 1) := by decide +kernel
theorem dX2_bestBefore_67 : decode cX2_bestBefore 67 = .ok (.iload 4, 2) := by decide +kernel
theorem dX2_bestBefore_69 : decode cX2_bestBefore 69 = .ok (.invokevirtual 135, 3) := by decide +kernel
theorem dX2_bestBefore_72 : decode cX2_bestBefore 72 = .ok (.lstore 7, 2) := by decide +kernel
theorem dX2_bestBefore_74 : decode cX2_bestBefore 74 = .ok (.iload 4, 2) := by decide +kernel
theorem dX2_bestBefore_76 : decode cX2_bestBefore 76 = .ok (.iconst 1, 1) := by decide +kernel
theorem dX2_bestBefore_77 : decode cX2_bestBefore 77 = .ok (.iadd, 1) := by decide +kernel
theorem dX2_bestBefore_78 : decode cX2_bestBefore 78 = .ok (.istore 9, 2) := by decide +kernel
theorem dX2_bestBefore_80 : decode cX2_bestBefore 80 = .ok (.iload 9, 2) := by decide +kernel
theorem dX2_bestBefore_82 : decode cX2_bestBefore 82 = .ok (.iload 5, 2) := by decide +kernel
theorem dX2_bestBefore_84 : decode cX2_bestBefore 84 = .ok (.if_icmp .gt 34, 3) := by decide +kernel
theorem dX2_bestBefore_87 : decode cX2_bestBefore 87 = .ok (.aload_n 0, 1) := by decide +kernel
theorem dX2_bestBefore_88 : decode cX2_bestBefore 88 = .ok (.iload_n 1, 1) := by decide +kernel
theorem dX2_bestBefore_89 : decode cX2_bestBefore 89 = .ok (.iload 9, 2) := by decide +kernel
theorem dX2_bestBefore_91 : decode cX2_bestBefore 91 = .ok (.invokevirtual 135, 3) := by decide +kernel
theorem dX2_bestBefore_94 : decode cX2_bestBefore 94 = .ok (.lstore 10, 2) := by decide +kernel
theorem dX2_bestBefore_96 : decode cX2_bestBefore 96 = .ok (.lload 10, 2) := by decide +kernel
theorem dX2_bestBefore_98 : decode cX2_bestBefore 98 = .ok (.lload 7, 2) := by decide +kernel
theorem dX2_bestBefore_100 : decode cX2_bestBefore 100 = .ok (.lcmp, 1) := by decide +kernel
theorem dX2_bestBefore_101 : decode cX2_bestBefore 101 = .ok (.ifCond .le 11, 3) := by decide +kernel
theorem dX2_bestBefore_104 : decode cX2_bestBefore 104 = .ok (.iload 9, 2) := by decide +kernel
theorem dX2_bestBefore_106 : decode cX2_bestBefore 106 = .ok (.istore 6, 2) := by decide +kernel
theorem dX2_bestBefore_108 : decode cX2_bestBefore 108 = .ok (.lload 10, 2) := by decide +kernel
theorem dX2_bestBefore_110 : decode cX2_bestBefore 110 = .ok (.lstore 7, 2) := by decide +kernel
theorem dX2_bestBefore_112 : decode cX2_bestBefore 112 = .ok (.iinc 9 1, 3) := by decide +kernel
theorem dX2_bestBefore_115 : decode cX2_bestBefore 115 = .ok (.goto (-35), 3) := by decide +kernel
theorem dX2_bestBefore_118 : decode cX2_bestBefore 118 = .ok (.iload 6, 2) := by decide +kernel
theorem dX2_bestBefore_120 : decode cX2_bestBefore 120 = .ok (.ireturn, 1) := by decide +kernel
set_option maxRecDepth 20000 in
theorem ggX2_sumAt_X3_isPing : GoodIn wsX2_sumAt wsX3_isPing := goodIn_r _ [6] (by decide +kernel) (by decide +kernel)
set_option maxRecDepth 20000 in
theorem gX2_sumAt_X3_isPing_n55 : GoodIn wsX2_sumAt (wsX3_isPing) := ggX2_sumAt_X3_isPing
set_option maxRecDepth 20000 in
theorem ggX2_sumAt_X0_isSample : GoodIn wsX2_sumAt wsX0_isSample := goodIn_r _ [11, 12, 21, 22, 23, 24, 25, 26, 27] (by decide +kernel) (by decide +kernel)
set_option maxRecDepth 20000 in
theorem gX2_sumAt_X0_isSample : GoodIn wsX2_sumAt (wsV RX2 128 RX0 yX0_isSample wsX0_isSample) := goodIn_app (goodIn_of _ (by decide +kernel)) ggX2_sumAt_X0_isSample
theorem dX2_sumAt_0 : decode cX2_sumAt 0 = .ok (.iload_n 1, 1) := by decide +kernel
theorem dX2_sumAt_1 : decode cX2_sumAt 1 = .ok (.invokestatic 55, 3) := by decide +kernel
theorem dX2_sumAt_4 : decode cX2_sumAt 4 = .ok (.ifCond .eq 33, 3) := by decide +kernel
theorem dX2_sumAt_7 : decode cX2_sumAt 7 = .ok (.aload_n 0, 1) := by decide +kernel
theorem dX2_sumAt_8 : decode cX2_sumAt 8 = .ok (.getfield 34, 3) := by decide +kernel
theorem dX2_sumAt_11 : decode cX2_sumAt 11 = .ok (.iload_n 2, 1) := by decide +kernel
theorem dX2_sumAt_12 : decode cX2_sumAt 12 = .ok (.invokevirtual 128, 3) := by decide +kernel
theorem dX2_sumAt_15 : decode cX2_sumAt 15 = .ok (.ifCond .eq 22, 3) := by decide +kernel
theorem dX2_sumAt_18 : decode cX2_sumAt 18 = .ok (.aload_n 0, 1) := by decide +kernel
theorem dX2_sumAt_19 : decode cX2_sumAt 19 = .ok (.getfield 43, 3) := by decide +kernel
theorem dX2_sumAt_22 : decode cX2_sumAt 22 = .ok (.iload_n 1, 1) := by decide +kernel
theorem dX2_sumAt_23 : decode cX2_sumAt 23 = .ok (.aload_n 0, 1) := by decide +kernel
theorem dX2_sumAt_24 : decode cX2_sumAt 24 = .ok (.getfield 34, 3) := by decide +kernel
theorem dX2_sumAt_27 : decode cX2_sumAt 27 = .ok (.getfield 38, 3) := by decide +kernel
theorem dX2_sumAt_30 : decode cX2_sumAt 30 = .ok (.imul, 1) := by decide +kernel
theorem dX2_sumAt_31 : decode cX2_sumAt 31 = .ok (.iload_n 2, 1) := by decide +kernel
theorem dX2_sumAt_32 : decode cX2_sumAt 32 = .ok (.iadd, 1) := by decide +kernel
theorem dX2_sumAt_33 : decode cX2_sumAt 33 = .ok (.laload, 1) := by decide +kernel
theorem dX2_sumAt_34 : decode cX2_sumAt 34 = .ok (.goto 4, 3) := by decide +kernel
theorem dX2_sumAt_37 : decode cX2_sumAt 37 = .ok (.lconst 0, 1) := by decide +kernel
theorem dX2_sumAt_38 : decode cX2_sumAt 38 = .ok (.lreturn, 1) := by decide +kernel
theorem dJ9_max_7cf53_0 : decode cJ9_max_7cf53 0 = .ok (.iload_n 0, 1) := by decide +kernel
theorem dJ9_max_7cf53_1 : decode cJ9_max_7cf53 1 = .ok (.iload_n 1, 1) := by decide +kernel
theorem dJ9_max_7cf53_2 : decode cJ9_max_7cf53 2 = .ok (.if_icmp .lt 7, 3) := by decide +kernel
theorem dJ9_max_7cf53_5 : decode cJ9_max_7cf53 5 = .ok (.iload_n 0, 1) := by decide +kernel
theorem dJ9_max_7cf53_6 : decode cJ9_max_7cf53 6 = .ok (.goto 4, 3) := by decide +kernel
theorem dJ9_max_7cf53_9 : decode cJ9_max_7cf53 9 = .ok (.iload_n 1, 1) := by decide +kernel
theorem dJ9_max_7cf53_10 : decode cJ9_max_7cf53 10 = .ok (.ireturn, 1) := by decide +kernel
theorem dJ9_max_f86c9_0 : decode cJ9_max_f86c9 0 = .ok (.lload_n 0, 1) := by decide +kernel
theorem dJ9_max_f86c9_1 : decode cJ9_max_f86c9 1 = .ok (.lload_n 2, 1) := by decide +kernel
theorem dJ9_max_f86c9_2 : decode cJ9_max_f86c9 2 = .ok (.lcmp, 1) := by decide +kernel
theorem dJ9_max_f86c9_3 : decode cJ9_max_f86c9 3 = .ok (.ifCond .lt 7, 3) := by decide +kernel
theorem dJ9_max_f86c9_6 : decode cJ9_max_f86c9 6 = .ok (.lload_n 0, 1) := by decide +kernel
theorem dJ9_max_f86c9_7 : decode cJ9_max_f86c9 7 = .ok (.goto 4, 3) := by decide +kernel
theorem dJ9_max_f86c9_10 : decode cJ9_max_f86c9 10 = .ok (.lload_n 2, 1) := by decide +kernel
theorem dJ9_max_f86c9_11 : decode cJ9_max_f86c9 11 = .ok (.lreturn, 1) := by decide +kernel
theorem dJ9_min_7cf53_0 : decode cJ9_min_7cf53 0 = .ok (.iload_n 0, 1) := by decide +kernel
theorem dJ9_min_7cf53_1 : decode cJ9_min_7cf53 1 = .ok (.iload_n 1, 1) := by decide +kernel
theorem dJ9_min_7cf53_2 : decode cJ9_min_7cf53 2 = .ok (.if_icmp .gt 7, 3) := by decide +kernel
theorem dJ9_min_7cf53_5 : decode cJ9_min_7cf53 5 = .ok (.iload_n 0, 1) := by decide +kernel
theorem dJ9_min_7cf53_6 : decode cJ9_min_7cf53 6 = .ok (.goto 4, 3) := by decide +kernel
theorem dJ9_min_7cf53_9 : decode cJ9_min_7cf53 9 = .ok (.iload_n 1, 1) := by decide +kernel
theorem dJ9_min_7cf53_10 : decode cJ9_min_7cf53 10 = .ok (.ireturn, 1) := by decide +kernel
theorem dJ7_fill_7f8df_0 : decode cJ7_fill_7f8df 0 = .ok (.iconst 0, 1) := by decide +kernel
theorem dJ7_fill_7f8df_1 : decode cJ7_fill_7f8df 1 = .ok (.istore_n 3, 1) := by decide +kernel
theorem dJ7_fill_7f8df_2 : decode cJ7_fill_7f8df 2 = .ok (.aload_n 0, 1) := by decide +kernel
theorem dJ7_fill_7f8df_3 : decode cJ7_fill_7f8df 3 = .ok (.arraylength, 1) := by decide +kernel
theorem dJ7_fill_7f8df_4 : decode cJ7_fill_7f8df 4 = .ok (.istore 4, 2) := by decide +kernel
theorem dJ7_fill_7f8df_6 : decode cJ7_fill_7f8df 6 = .ok (.iload_n 3, 1) := by decide +kernel
theorem dJ7_fill_7f8df_7 : decode cJ7_fill_7f8df 7 = .ok (.iload 4, 2) := by decide +kernel
theorem dJ7_fill_7f8df_9 : decode cJ7_fill_7f8df 9 = .ok (.if_icmp .ge 13, 3) := by decide +kernel
theorem dJ7_fill_7f8df_12 : decode cJ7_fill_7f8df 12 = .ok (.aload_n 0, 1) := by decide +kernel
theorem dJ7_fill_7f8df_13 : decode cJ7_fill_7f8df 13 = .ok (.iload_n 3, 1) := by decide +kernel
theorem dJ7_fill_7f8df_14 : decode cJ7_fill_7f8df 14 = .ok (.dload_n 1, 1) := by decide +kernel
theorem dJ7_fill_7f8df_15 : decode cJ7_fill_7f8df 15 = .ok (.dastore, 1) := by decide +kernel
theorem dJ7_fill_7f8df_16 : decode cJ7_fill_7f8df 16 = .ok (.iinc 3 1, 3) := by decide +kernel
theorem dJ7_fill_7f8df_19 : decode cJ7_fill_7f8df 19 = .ok (.goto (-13), 3) := by decide +kernel
theorem dJ7_fill_7f8df_22 : decode cJ7_fill_7f8df 22 = .ok (.return_, 1) := by decide +kernel
end
section
set_option maxRecDepth 20000 in
theorem ggX3_init_X1_init : GoodIn wsX3_init wsX1_init := goodIn_r _ [22, 23, 2, 3, 9, 24, 25, 26, 69, 70, 71] (by decide +kernel) (by decide +kernel)
set_option maxRecDepth 20000 in
theorem gX3_init_X1_init_n9 : GoodIn wsX3_init (wsX1_init) := ggX3_init_X1_init
set_option maxRecDepth 20000 in
theorem ggX3_init_X0_init : GoodIn wsX3_init wsX0_init := goodIn_r _ [29, 30, 2, 3, 31, 32, 33, 34, 35, 36, 37, 38, 39, 40, 41, 42, 43, 44, 45, 9, 46, 47, 48, 49, 50, 51, 79, 80, 81, 82, 83, 84, 85] (by decide +kernel) (by decide +kernel)
set_option maxRecDepth 20000 in
theorem gX3_init_X0_init : GoodIn wsX3_init (wsX0_init) := ggX3_init_X0_init
set_option maxRecDepth 20000 in
theorem ggX3_init_X2_init : GoodIn wsX3_init wsX2_init := goodIn_r _ [54, 55, 2, 3, 9, 56, 31, 57, 58, 59, 60, 61, 62, 63, 64, 65, 66, 67, 68, 49, 50, 51, 86, 87, 88, 89, 90, 91, 92, 93, 79, 80, 81, 82, 83, 84, 85] (by decide +kernel) (by decide +kernel)
set_option maxRecDepth 20000 in
theorem gX3_init_X2_init : GoodIn wsX3_init (wsX2_init) := ggX3_init_X2_init
theorem dX3_init_0 : decode cX3_init 0 = .ok (.aload_n 0, 1) := by decide +kernel
theorem dX3_init_1 : decode cX3_init 1 = .ok (.invokespecial 1, 3) := by decide +kernel
theorem dX3_init_4 : decode cX3_init 4 = .ok (.aload_n 0, 1) := by decide +kernel
theorem dX3_init_5 : decode cX3_init 5 = .ok (.new 7, 3) := by decide +kernel
theorem dX3_init_8 : decode cX3_init 8 = .ok (.dup, 1) := by decide +kernel
theorem dX3_init_9 : decode cX3_init 9 = .ok (.invokespecial 9, 3) := by decide +kernel
theorem dX3_init_12 : decode cX3_init 12 = .ok (.putfield 10, 3) := by decide +kernel
theorem dX3_init_15 : decode cX3_init 15 = .ok (.aload_n 0, 1) := by decide +kernel
theorem dX3_init_16 : decode cX3_init 16 = .ok (.new 7, 3) := by decide +kernel
theorem dX3_init_19 : decode cX3_init 19 = .ok (.dup, 1) := by decide +kernel
theorem dX3_init_20 : decode cX3_init 20 = .ok (.invokespecial 9, 3) := by decide +kernel
theorem dX3_init_23 : decode cX3_init 23 = .ok (.putfield 16, 3) := by decide +kernel
theorem dX3_init_26 : decode cX3_init 26 = .ok (.aload_n 0, 1) := by decide +kernel
theorem dX3_init_27 : decode cX3_init 27 = .ok (.bipush 32, 2) := by decide +kernel
theorem dX3_init_29 : decode cX3_init 29 = .ok (.newarray .double, 2) := by decide +kernel
theorem dX3_init_31 : decode cX3_init 31 = .ok (.putfield 19, 3) := by decide +kernel
theorem dX3_init_34 : decode cX3_init 34 = .ok (.aload_n 0, 1) := by decide +kernel
theorem dX3_init_35 : decode cX3_init 35 = .ok (.bipush 32, 2) := by decide +kernel
theorem dX3_init_37 : decode cX3_init 37 = .ok (.newarray .double, 2) := by decide +kernel
theorem dX3_init_39 : decode cX3_init 39 = .ok (.putfield 23, 3) := by decide +kernel
theorem dX3_init_42 : decode cX3_init 42 = .ok (.aload_n 0, 1) := by decide +kernel
theorem dX3_init_43 : decode cX3_init 43 = .ok (.iconst 0, 1) := by decide +kernel
theorem dX3_init_44 : decode cX3_init 44 = .ok (.putfield 26, 3) := by decide +kernel
theorem dX3_init_47 : decode cX3_init 47 = .ok (.aload_n 0, 1) := by decide +kernel
theorem dX3_init_48 : decode cX3_init 48 = .ok (.new 30, 3) := by decide +kernel
theorem dX3_init_51 : decode cX3_init 51 = .ok (.dup, 1) := by decide +kernel
theorem dX3_init_52 : decode cX3_init 52 = .ok (.iload_n 1, 1) := by decide +kernel
theorem dX3_init_53 : decode cX3_init 53 = .ok (.iload_n 2, 1) := by decide +kernel
theorem dX3_init_54 : decode cX3_init 54 = .ok (.invokespecial 32, 3) := by decide +kernel
theorem dX3_init_57 : decode cX3_init 57 = .ok (.putfield 35, 3) := by decide +kernel
theorem dX3_init_60 : decode cX3_init 60 = .ok (.aload_n 0, 1) := by decide +kernel
theorem dX3_init_61 : decode cX3_init 61 = .ok (.new 39, 3) := by decide +kernel
theorem dX3_init_64 : decode cX3_init 64 = .ok (.dup, 1) := by decide +kernel
theorem dX3_init_65 : decode cX3_init 65 = .ok (.aload_n 0, 1) := by decide +kernel
theorem dX3_init_66 : decode cX3_init 66 = .ok (.getfield 35, 3) := by decide +kernel
theorem dX3_init_69 : decode cX3_init 69 = .ok (.invokespecial 41, 3) := by decide +kernel
theorem dX3_init_72 : decode cX3_init 72 = .ok (.putfield 44, 3) := by decide +kernel
theorem dX3_init_75 : decode cX3_init 75 = .ok (.return_, 1) := by decide +kernel
set_option maxRecDepth 20000 in
theorem ggX3_value_X0_tell : GoodIn wsX3_value wsX0_tell := goodIn_r _ [7, 8, 9, 10, 11, 12, 6, 13, 14, 15, 16, 17, 18, 19, 20, 21, 22, 23, 24, 25, 33, 34, 35, 36, 37, 38, 39] (by decide +kernel) (by decide +kernel)
set_option maxRecDepth 20000 in
theorem gX3_value_X0_tell : GoodIn wsX3_value (wsV RX3 48 RX0 yX0_tell wsX0_tell) := goodIn_app (goodIn_of _ (by decide +kernel)) ggX3_value_X0_tell
theorem dX3_value_0 : decode cX3_value 0 = .ok (.aload_n 0, 1) := by decide +kernel
theorem dX3_value_1 : decode cX3_value 1 = .ok (.getfield 35, 3) := by decide +kernel
theorem dX3_value_4 : decode cX3_value 4 = .ok (.aload_n 0, 1) := by decide +kernel
theorem dX3_value_5 : decode cX3_value 5 = .ok (.getfield 26, 3) := by decide +kernel
theorem dX3_value_8 : decode cX3_value 8 = .ok (.iload_n 1, 1) := by decide +kernel
theorem dX3_value_9 : decode cX3_value 9 = .ok (.iload_n 2, 1) := by decide +kernel
theorem dX3_value_10 : decode cX3_value 10 = .ok (.dload_n 3, 1) := by decide +kernel
theorem dX3_value_11 : decode cX3_value 11 = .ok (.invokevirtual 48, 3) := by decide +kernel
theorem dX3_value_14 : decode cX3_value 14 = .ok (.ireturn, 1) := by decide +kernel
set_option maxRecDepth 20000 in
theorem ggX3_loss_X3_within : GoodIn wsX3_loss wsX3_within := goodIn_r _ [6] (by decide +kernel) (by decide +kernel)
set_option maxRecDepth 20000 in
theorem gX3_loss_X3_within : GoodIn wsX3_loss (va_wsS RX3 54 yX3_within wsX3_within) := goodIn_app (goodIn_of _ (by decide +kernel)) ggX3_loss_X3_within
set_option maxRecDepth 20000 in
theorem ggX3_loss_X0_setLosses : GoodIn wsX3_loss wsX0_setLosses := goodIn_r _ [11, 12, 13, 21, 22, 23, 24, 25, 26, 27] (by decide +kernel) (by decide +kernel)
set_option maxRecDepth 20000 in
theorem gX3_loss_X0_setLosses : GoodIn wsX3_loss (wsV RX3 58 RX0 yX0_setLosses wsX0_setLosses) := goodIn_app (goodIn_of _ (by decide +kernel)) ggX3_loss_X0_setLosses
theorem dX3_loss_0 : decode cX3_loss 0 = .ok (.dload_n 1, 1) := by decide +kernel
theorem dX3_loss_1 : decode cX3_loss 1 = .ok (.dconst 0, 1) := by decide +kernel
theorem dX3_loss_2 : decode cX3_loss 2 = .ok (.ldc2_w 52, 3) := by decide +kernel
theorem dX3_loss_5 : decode cX3_loss 5 = .ok (.invokestatic 54, 3) := by decide +kernel
theorem dX3_loss_8 : decode cX3_loss 8 = .ok (.ifCond .eq 14, 3) := by decide +kernel
theorem dX3_loss_11 : decode cX3_loss 11 = .ok (.dload_n 3, 1) := by decide +kernel
theorem dX3_loss_12 : decode cX3_loss 12 = .ok (.dconst 0, 1) := by decide +kernel
theorem dX3_loss_13 : decode cX3_loss 13 = .ok (.ldc2_w 52, 3) := by decide +kernel
theorem dX3_loss_16 : decode cX3_loss 16 = .ok (.invokestatic 54, 3) := by decide +kernel
theorem dX3_loss_19 : decode cX3_loss 19 = .ok (.ifCond .ne 5, 3) := by decide +kernel
theorem dX3_loss_22 : decode cX3_loss 22 = .ok (.iconst 0, 1) := by decide +kernel
theorem dX3_loss_23 : decode cX3_loss 23 = .ok (.ireturn, 1) := by decide +kernel
theorem dX3_loss_24 : decode cX3_loss 24 = .ok (.aload_n 0, 1) := by decide +kernel
theorem dX3_loss_25 : decode cX3_loss 25 = .ok (.getfield 35, 3) := by decide +kernel
theorem dX3_loss_28 : decode cX3_loss 28 = .ok (.dload_n 1, 1) := by decide +kernel
theorem dX3_loss_29 : decode cX3_loss 29 = .ok (.dload_n 3, 1) := by decide +kernel
theorem dX3_loss_30 : decode cX3_loss 30 = .ok (.invokevirtual 58, 3) := by decide +kernel
theorem dX3_loss_33 : decode cX3_loss 33 = .ok (.iconst 1, 1) := by decide +kernel
theorem dX3_loss_34 : decode cX3_loss 34 = .ok (.ireturn, 1) := by decide +kernel
set_option maxRecDepth 20000 in
theorem ggX3_noise_X3_within : GoodIn wsX3_noise wsX3_within := goodIn_r _ [6] (by decide +kernel) (by decide +kernel)
set_option maxRecDepth 20000 in
theorem gX3_noise_X3_within : GoodIn wsX3_noise (va_wsS RX3 54 yX3_within wsX3_within) := goodIn_app (goodIn_of _ (by decide +kernel)) ggX3_noise_X3_within
set_option maxRecDepth 20000 in
theorem ggX3_noise_X0_setNoiseLevel : GoodIn wsX3_noise wsX0_setNoiseLevel := goodIn_r _ [11, 12, 20, 21, 22, 23, 24, 25, 26] (by decide +kernel) (by decide +kernel)
set_option maxRecDepth 20000 in
theorem gX3_noise_X0_setNoiseLevel : GoodIn wsX3_noise (wsV RX3 64 RX0 yX0_setNoiseLevel wsX0_setNoiseLevel) := goodIn_app (goodIn_of _ (by decide +kernel)) ggX3_noise_X0_setNoiseLevel
theorem dX3_noise_0 : decode cX3_noise 0 = .ok (.dload_n 1, 1) := by decide +kernel
theorem dX3_noise_1 : decode cX3_noise 1 = .ok (.dconst 0, 1) := by decide +kernel
theorem dX3_noise_2 : decode cX3_noise 2 = .ok (.ldc2_w 62, 3) := by decide +kernel
theorem dX3_noise_5 : decode cX3_noise 5 = .ok (.invokestatic 54, 3) := by decide +kernel
theorem dX3_noise_8 : decode cX3_noise 8 = .ok (.ifCond .ne 5, 3) := by decide +kernel
theorem dX3_noise_11 : decode cX3_noise 11 = .ok (.iconst 0, 1) := by decide +kernel
theorem dX3_noise_12 : decode cX3_noise 12 = .ok (.ireturn, 1) := by decide +kernel
theorem dX3_noise_13 : decode cX3_noise 13 = .ok (.aload_n 0, 1) := by decide +kernel
theorem dX3_noise_14 : decode cX3_noise 14 = .ok (.getfield 35, 3) := by decide +kernel
theorem dX3_noise_17 : decode cX3_noise 17 = .ok (.dload_n 1, 1) := by decide +kernel
theorem dX3_noise_18 : decode cX3_noise 18 = .ok (.invokevirtual 64, 3) := by decide +kernel
theorem dX3_noise_21 : decode cX3_noise 21 = .ok (.iconst 1, 1) := by decide +kernel
theorem dX3_noise_22 : decode cX3_noise 22 = .ok (.ireturn, 1) := by decide +kernel
set_option maxRecDepth 20000 in
theorem ggX3_run_X2_go : GoodIn wsX3_run wsX2_go := goodIn_r _ [7, 8, 9, 10, 11, 12, 13, 14, 6, 15, 16, 17, 18, 19, 20, 21, 22, 23, 24, 25, 26, 27, 28, 29, 30, 31, 32, 33, 34, 35, 36, 37, 38, 39, 40, 41, 42, 43, 44, 45, 46, 47, 48, 49, 50, 51, 52, 53, 54, 55, 56, 57, 58, 59, 60, 61, 62, 63, 64, 65, 66, 67, 68, 69, 70, 71, 72, 73, 74, 75, 76, 77, 78, 79, 80, 81, 82, 83, 84, 85, 86, 87, 88, 89, 90, 91, 92, 93, 94, 95, 96, 97, 98, 99, 100, 101, 102, 103, 104, 105, 106, 107, 108, 109, 110, 111, 112, 113, 114, 115, 116, 117, 118, 126, 127, 128, 129, 130, 131, 132, 133, 134, 135, 136, 137, 138, 139, 140] (by decide +kernel) (by decide +kernel)
set_option maxRecDepth 20000 in
theorem gX3_run_X2_go : GoodIn wsX3_run (wsV RX3 68 RX2 yX2_go wsX2_go) := goodIn_app (goodIn_of _ (by decide +kernel)) ggX3_run_X2_go
theorem dX3_run_0 : decode cX3_run 0 = .ok (.iload_n 1, 1) := by decide +kernel
theorem dX3_run_1 : decode cX3_run 1 = .ok (.iconst 1, 1) := by decide +kernel
theorem dX3_run_2 : decode cX3_run 2 = .ok (.if_icmp .lt 19, 3) := by decide +kernel
theorem dX3_run_5 : decode cX3_run 5 = .ok (.iload_n 1, 1) := by decide +kernel
theorem dX3_run_6 : decode cX3_run 6 = .ok (.bipush 32, 2) := by decide +kernel
theorem dX3_run_8 : decode cX3_run 8 = .ok (.if_icmp .gt 13, 3) := by decide +kernel
theorem dX3_run_11 : decode cX3_run 11 = .ok (.iload_n 2, 1) := by decide +kernel
theorem dX3_run_12 : decode cX3_run 12 = .ok (.ifCond .lt 9, 3) := by decide +kernel
theorem dX3_run_15 : decode cX3_run 15 = .ok (.iload_n 2, 1) := by decide +kernel
theorem dX3_run_16 : decode cX3_run 16 = .ok (.bipush 64, 2) := by decide +kernel
theorem dX3_run_18 : decode cX3_run 18 = .ok (.if_icmp .le 5, 3) := by decide +kernel
theorem dX3_run_21 : decode cX3_run 21 = .ok (.iconst (-1), 1) := by decide +kernel
theorem dX3_run_22 : decode cX3_run 22 = .ok (.ireturn, 1) := by decide +kernel
theorem dX3_run_23 : decode cX3_run 23 = .ok (.aload_n 0, 1) := by decide +kernel
theorem dX3_run_24 : decode cX3_run 24 = .ok (.getfield 44, 3) := by decide +kernel
theorem dX3_run_27 : decode cX3_run 27 = .ok (.aload_n 0, 1) := by decide +kernel
theorem dX3_run_28 : decode cX3_run 28 = .ok (.getfield 26, 3) := by decide +kernel
theorem dX3_run_31 : decode cX3_run 31 = .ok (.iload_n 1, 1) := by decide +kernel
theorem dX3_run_32 : decode cX3_run 32 = .ok (.iload_n 2, 1) := by decide +kernel
theorem dX3_run_33 : decode cX3_run 33 = .ok (.invokevirtual 68, 3) := by decide +kernel
theorem dX3_run_36 : decode cX3_run 36 = .ok (.ireturn, 1) := by decide +kernel
set_option maxRecDepth 20000 in
theorem ggX3_bottom_X3_isPing : GoodIn wsX3_bottom wsX3_isPing := goodIn_r _ [7] (by decide +kernel) (by decide +kernel)
set_option maxRecDepth 20000 in
theorem gX3_bottom_X3_isPing : GoodIn wsX3_bottom (va_wsS RX3 72 yX3_isPing wsX3_isPing) := goodIn_app (goodIn_of _ (by decide +kernel)) ggX3_bottom_X3_isPing
set_option maxRecDepth 20000 in
theorem ggX3_bottom_X2_hasBottom : GoodIn wsX3_bottom wsX2_hasBottom := goodIn_r _ [12, 13, 14, 15, 11, 16, 17, 5, 6, 7, 18, 19, 20, 21, 22, 23, 24, 25, 60, 61, 62, 63, 64, 65, 66, 67] (by decide +kernel) (by decide +kernel)
set_option maxRecDepth 20000 in
theorem gX3_bottom_X2_hasBottom : GoodIn wsX3_bottom (wsV RX3 76 RX2 yX2_hasBottom wsX2_hasBottom) := goodIn_app (goodIn_of _ (by decide +kernel)) ggX3_bottom_X2_hasBottom
set_option maxRecDepth 20000 in
theorem ggX3_bottom_X2_depthAt : GoodIn wsX3_bottom wsX2_depthAt := goodIn_r _ [29, 18, 19, 20, 11, 21, 5, 6, 7, 13, 14, 15, 16, 17, 22, 23, 24, 25, 30, 31, 32, 33, 34, 35, 36, 37, 38, 39, 40, 41, 42, 43, 44, 45, 46, 47, 48, 49, 50, 51, 52, 60, 61, 62, 63, 64, 65, 66, 67, 68, 69, 70, 71, 72, 73, 74] (by decide +kernel) (by decide +kernel)
set_option maxRecDepth 20000 in
theorem gX3_bottom_X2_depthAt : GoodIn wsX3_bottom (wsV RX3 79 RX2 yX2_depthAt wsX2_depthAt) := goodIn_app (goodIn_of _ (by decide +kernel)) ggX3_bottom_X2_depthAt
theorem dX3_bottom_0 : decode cX3_bottom 0 = .ok (.iload_n 1, 1) := by decide +kernel
theorem dX3_bottom_1 : decode cX3_bottom 1 = .ok (.invokestatic 72, 3) := by decide +kernel
theorem dX3_bottom_4 : decode cX3_bottom 4 = .ok (.ifCond .eq 32, 3) := by decide +kernel
theorem dX3_bottom_7 : decode cX3_bottom 7 = .ok (.aload_n 0, 1) := by decide +kernel
theorem dX3_bottom_8 : decode cX3_bottom 8 = .ok (.getfield 44, 3) := by decide +kernel
theorem dX3_bottom_11 : decode cX3_bottom 11 = .ok (.iload_n 1, 1) := by decide +kernel
theorem dX3_bottom_12 : decode cX3_bottom 12 = .ok (.invokevirtual 76, 3) := by decide +kernel
theorem dX3_bottom_15 : decode cX3_bottom 15 = .ok (.ifCond .eq 21, 3) := by decide +kernel
theorem dX3_bottom_18 : decode cX3_bottom 18 = .ok (.aload_n 0, 1) := by decide +kernel
theorem dX3_bottom_19 : decode cX3_bottom 19 = .ok (.getfield 44, 3) := by decide +kernel
theorem dX3_bottom_22 : decode cX3_bottom 22 = .ok (.iload_n 1, 1) := by decide +kernel
theorem dX3_bottom_23 : decode cX3_bottom 23 = .ok (.invokevirtual 79, 3) := by decide +kernel
theorem dX3_bottom_26 : decode cX3_bottom 26 = .ok (.aload_n 0, 1) := by decide +kernel
theorem dX3_bottom_27 : decode cX3_bottom 27 = .ok (.getfield 19, 3) := by decide +kernel
theorem dX3_bottom_30 : decode cX3_bottom 30 = .ok (.iload_n 1, 1) := by decide +kernel
theorem dX3_bottom_31 : decode cX3_bottom 31 = .ok (.daload, 1) := by decide +kernel
theorem dX3_bottom_32 : decode cX3_bottom 32 = .ok (.dadd, 1) := by decide +kernel
theorem dX3_bottom_33 : decode cX3_bottom 33 = .ok (.goto 6, 3) := by decide +kernel
theorem dX3_bottom_36 : decode cX3_bottom 36 = .ok (.ldc2_w 83, 3) := by decide +kernel
theorem dX3_bottom_39 : decode cX3_bottom 39 = .ok (.dreturn, 1) := by decide +kernel
set_option maxRecDepth 20000 in
theorem ggX3_greatest_X2_wasFound : GoodIn wsX3_greatest wsX2_wasFound := goodIn_r _ [6, 7, 15, 16, 17, 18, 19, 20, 21, 22] (by decide +kernel) (by decide +kernel)
set_option maxRecDepth 20000 in
theorem gX3_greatest_X2_wasFound : GoodIn wsX3_greatest (wsV RX3 85 RX2 yX2_wasFound wsX2_wasFound) := goodIn_app (goodIn_of _ (by decide +kernel)) ggX3_greatest_X2_wasFound
theorem dX3_greatest_0 : decode cX3_greatest 0 = .ok (.aload_n 0, 1) := by decide +kernel
theorem dX3_greatest_1 : decode cX3_greatest 1 = .ok (.getfield 44, 3) := by decide +kernel
theorem dX3_greatest_4 : decode cX3_greatest 4 = .ok (.invokevirtual 85, 3) := by decide +kernel
theorem dX3_greatest_7 : decode cX3_greatest 7 = .ok (.ireturn, 1) := by decide +kernel
set_option maxRecDepth 20000 in
theorem ggX3_edit_X2_tellDepth : GoodIn wsX3_edit wsX2_tellDepth := goodIn_r _ [6, 7, 8, 9, 10, 11, 12, 13, 21, 22, 23, 24, 25, 26, 27, 28] (by decide +kernel) (by decide +kernel)
set_option maxRecDepth 20000 in
theorem gX3_edit_X2_tellDepth : GoodIn wsX3_edit (wsV RX3 89 RX2 yX2_tellDepth wsX2_tellDepth) := goodIn_app (goodIn_of _ (by decide +kernel)) ggX3_edit_X2_tellDepth
theorem dX3_edit_0 : decode cX3_edit 0 = .ok (.aload_n 0, 1) := by decide +kernel
theorem dX3_edit_1 : decode cX3_edit 1 = .ok (.getfield 44, 3) := by decide +kernel
theorem dX3_edit_4 : decode cX3_edit 4 = .ok (.iload_n 1, 1) := by decide +kernel
theorem dX3_edit_5 : decode cX3_edit 5 = .ok (.dload_n 2, 1) := by decide +kernel
theorem dX3_edit_6 : decode cX3_edit 6 = .ok (.invokevirtual 89, 3) := by decide +kernel
theorem dX3_edit_9 : decode cX3_edit 9 = .ok (.ireturn, 1) := by decide +kernel
set_option maxRecDepth 20000 in
theorem ggX3_lost_X0_lose : GoodIn wsX3_lost wsX0_lose := goodIn_r _ [6, 7, 8, 9, 10, 18, 19, 20, 21, 22, 23, 24] (by decide +kernel) (by decide +kernel)
set_option maxRecDepth 20000 in
theorem gX3_lost_X0_lose : GoodIn wsX3_lost (wsV RX3 93 RX0 yX0_lose wsX0_lose) := goodIn_app (goodIn_of _ (by decide +kernel)) ggX3_lost_X0_lose
theorem dX3_lost_0 : decode cX3_lost 0 = .ok (.aload_n 0, 1) := by decide +kernel
theorem dX3_lost_1 : decode cX3_lost 1 = .ok (.getfield 35, 3) := by decide +kernel
theorem dX3_lost_4 : decode cX3_lost 4 = .ok (.iload_n 1, 1) := by decide +kernel
theorem dX3_lost_5 : decode cX3_lost 5 = .ok (.invokevirtual 93, 3) := by decide +kernel
theorem dX3_lost_8 : decode cX3_lost 8 = .ok (.ireturn, 1) := by decide +kernel
set_option maxRecDepth 20000 in
theorem ggX3_bridged_X2_isBridge : GoodIn wsX3_bridged wsX2_isBridge := goodIn_r _ [6, 7, 8, 9, 10, 11, 12, 5, 13, 14, 15, 16, 17, 18, 26, 27, 28, 29, 30, 31, 32, 33] (by decide +kernel) (by decide +kernel)
set_option maxRecDepth 20000 in
theorem gX3_bridged_X2_isBridge : GoodIn wsX3_bridged (wsV RX3 96 RX2 yX2_isBridge wsX2_isBridge) := goodIn_app (goodIn_of _ (by decide +kernel)) ggX3_bridged_X2_isBridge
theorem dX3_bridged_0 : decode cX3_bridged 0 = .ok (.iconst 0, 1) := by decide +kernel
theorem dX3_bridged_1 : decode cX3_bridged 1 = .ok (.istore_n 2, 1) := by decide +kernel
theorem dX3_bridged_2 : decode cX3_bridged 2 = .ok (.iconst 0, 1) := by decide +kernel
theorem dX3_bridged_3 : decode cX3_bridged 3 = .ok (.istore_n 3, 1) := by decide +kernel
theorem dX3_bridged_4 : decode cX3_bridged 4 = .ok (.iload_n 3, 1) := by decide +kernel
theorem dX3_bridged_5 : decode cX3_bridged 5 = .ok (.bipush 32, 2) := by decide +kernel
theorem dX3_bridged_7 : decode cX3_bridged 7 = .ok (.if_icmp .ge 30, 3) := by decide +kernel
theorem dX3_bridged_10 : decode cX3_bridged 10 = .ok (.aload_n 0, 1) := by decide +kernel
theorem dX3_bridged_11 : decode cX3_bridged 11 = .ok (.getfield 44, 3) := by decide +kernel
theorem dX3_bridged_14 : decode cX3_bridged 14 = .ok (.iload_n 3, 1) := by decide +kernel
theorem dX3_bridged_15 : decode cX3_bridged 15 = .ok (.invokevirtual 96, 3) := by decide +kernel
theorem dX3_bridged_18 : decode cX3_bridged 18 = .ok (.ifCond .eq 13, 3) := by decide +kernel
theorem dX3_bridged_21 : decode cX3_bridged 21 = .ok (.iload_n 2, 1) := by decide +kernel
theorem dX3_bridged_22 : decode cX3_bridged 22 = .ok (.iload_n 1, 1) := by decide +kernel
theorem dX3_bridged_23 : decode cX3_bridged 23 = .ok (.if_icmp .ne 5, 3) := by decide +kernel
theorem dX3_bridged_26 : decode cX3_bridged 26 = .ok (.iload_n 3, 1) := by decide +kernel
theorem dX3_bridged_27 : decode cX3_bridged 27 = .ok (.ireturn, 1) := by decide +kernel
theorem dX3_bridged_28 : decode cX3_bridged 28 = .ok (.iinc 2 1, 3) := by decide +kernel
theorem dX3_bridged_31 : decode cX3_bridged 31 = .ok (.iinc 3 1, 3) := by decide +kernel
theorem dX3_bridged_34 : decode cX3_bridged 34 = .ok (.goto (-30), 3) := by decide +kernel
theorem dX3_bridged_37 : decode cX3_bridged 37 = .ok (.iconst (-1), 1) := by decide +kernel
theorem dX3_bridged_38 : decode cX3_bridged 38 = .ok (.ireturn, 1) := by decide +kernel
set_option maxRecDepth 20000 in
theorem ggX3_dead_X2_hasBottom : GoodIn wsX3_dead wsX2_hasBottom := goodIn_r _ [11, 12, 13, 14, 10, 15, 16, 17, 18, 19, 20, 21, 22, 23, 24, 25, 26, 27, 69, 70, 71, 72, 73, 74, 75, 76] (by decide +kernel) (by decide +kernel)
set_option maxRecDepth 20000 in
theorem gX3_dead_X2_hasBottom : GoodIn wsX3_dead (wsV RX3 76 RX2 yX2_hasBottom wsX2_hasBottom) := goodIn_app (goodIn_of _ (by decide +kernel)) ggX3_dead_X2_hasBottom
set_option maxRecDepth 20000 in
theorem ggX3_dead_X2_depthAt : GoodIn wsX3_dead wsX2_depthAt := goodIn_r _ [31, 20, 21, 22, 10, 23, 17, 18, 19, 12, 13, 14, 15, 16, 24, 25, 26, 27, 32, 33, 34, 35, 36, 37, 38, 39, 40, 41, 42, 43, 44, 45, 46, 47, 48, 49, 50, 51, 52, 53, 54, 69, 70, 71, 72, 73, 74, 75, 76, 62, 63, 64, 65, 66, 67, 68] (by decide +kernel) (by decide +kernel)
set_option maxRecDepth 20000 in
theorem gX3_dead_X2_depthAt : GoodIn wsX3_dead (wsV RX3 79 RX2 yX2_depthAt wsX2_depthAt) := goodIn_app (goodIn_of _ (by decide +kernel)) ggX3_dead_X2_depthAt
theorem dX3_dead_0 : decode cX3_dead 0 = .ok (.aload_n 0, 1) := by decide +kernel
theorem dX3_dead_1 : decode cX3_dead 1 = .ok (.getfield 44, 3) := by decide +kernel
theorem dX3_dead_4 : decode cX3_dead 4 = .ok (.iload_n 1, 1) := by decide +kernel
theorem dX3_dead_5 : decode cX3_dead 5 = .ok (.invokevirtual 76, 3) := by decide +kernel
theorem dX3_dead_8 : decode cX3_dead 8 = .ok (.ifCond .eq 30, 3) := by decide +kernel
theorem dX3_dead_11 : decode cX3_dead 11 = .ok (.ldc2_w 99, 3) := by decide +kernel
theorem dX3_dead_14 : decode cX3_dead 14 = .ok (.aload_n 0, 1) := by decide +kernel
theorem dX3_dead_15 : decode cX3_dead 15 = .ok (.getfield 35, 3) := by decide +kernel
theorem dX3_dead_18 : decode cX3_dead 18 = .ok (.getfield 101, 3) := by decide +kernel
theorem dX3_dead_21 : decode cX3_dead 21 = .ok (.dmul, 1) := by decide +kernel
theorem dX3_dead_22 : decode cX3_dead 22 = .ok (.ldc2_w 105, 3) := by decide +kernel
theorem dX3_dead_25 : decode cX3_dead 25 = .ok (.aload_n 0, 1) := by decide +kernel
theorem dX3_dead_26 : decode cX3_dead 26 = .ok (.getfield 44, 3) := by decide +kernel
theorem dX3_dead_29 : decode cX3_dead 29 = .ok (.iload_n 1, 1) := by decide +kernel
theorem dX3_dead_30 : decode cX3_dead 30 = .ok (.invokevirtual 79, 3) := by decide +kernel
theorem dX3_dead_33 : decode cX3_dead 33 = .ok (.dmul, 1) := by decide +kernel
theorem dX3_dead_34 : decode cX3_dead 34 = .ok (.dadd, 1) := by decide +kernel
theorem dX3_dead_35 : decode cX3_dead 35 = .ok (.goto 6, 3) := by decide +kernel
theorem dX3_dead_38 : decode cX3_dead 38 = .ok (.ldc2_w 83, 3) := by decide +kernel
theorem dX3_dead_41 : decode cX3_dead 41 = .ok (.dreturn, 1) := by decide +kernel
set_option maxRecDepth 20000 in
theorem ggX3_surface_X3_isPing : GoodIn wsX3_surface wsX3_isPing := goodIn_r _ [10] (by decide +kernel) (by decide +kernel)
set_option maxRecDepth 20000 in
theorem gX3_surface_X3_isPing : GoodIn wsX3_surface (va_wsS RX3 72 yX3_isPing wsX3_isPing) := goodIn_app (goodIn_of _ (by decide +kernel)) ggX3_surface_X3_isPing
set_option maxRecDepth 20000 in
theorem ggX3_surface_X0_strength : GoodIn wsX3_surface wsX0_strength := goodIn_r _ [15, 16, 17, 18, 19, 20, 21, 22, 23, 24, 25, 26, 27, 14, 28, 29, 30, 9, 31, 8, 10, 32, 33, 34, 35, 36, 37, 38, 39, 40, 41, 42, 43, 44, 45, 53, 54, 55, 56, 57, 58, 59] (by decide +kernel) (by decide +kernel)
set_option maxRecDepth 20000 in
theorem gX3_surface_X0_strength : GoodIn wsX3_surface (wsV RX3 110 RX0 yX0_strength wsX0_strength) := goodIn_app (goodIn_of _ (by decide +kernel)) ggX3_surface_X0_strength
theorem dX3_surface_0 : decode cX3_surface 0 = .ok (.iload_n 1, 1) := by decide +kernel
theorem dX3_surface_1 : decode cX3_surface 1 = .ok (.invokestatic 72, 3) := by decide +kernel
theorem dX3_surface_4 : decode cX3_surface 4 = .ok (.ifCond .ne 7, 3) := by decide +kernel
theorem dX3_surface_7 : decode cX3_surface 7 = .ok (.ldc2_w 83, 3) := by decide +kernel
theorem dX3_surface_10 : decode cX3_surface 10 = .ok (.dreturn, 1) := by decide +kernel
theorem dX3_surface_11 : decode cX3_surface 11 = .ok (.iconst 0, 1) := by decide +kernel
theorem dX3_surface_12 : decode cX3_surface 12 = .ok (.istore_n 2, 1) := by decide +kernel
theorem dX3_surface_13 : decode cX3_surface 13 = .ok (.iload_n 2, 1) := by decide +kernel
theorem dX3_surface_14 : decode cX3_surface 14 = .ok (.aload_n 0, 1) := by decide +kernel
theorem dX3_surface_15 : decode cX3_surface 15 = .ok (.getfield 35, 3) := by decide +kernel
theorem dX3_surface_18 : decode cX3_surface 18 = .ok (.getfield 107, 3) := by decide +kernel
theorem dX3_surface_21 : decode cX3_surface 21 = .ok (.if_icmp .ge 29, 3) := by decide +kernel
theorem dX3_surface_24 : decode cX3_surface 24 = .ok (.aload_n 0, 1) := by decide +kernel
theorem dX3_surface_25 : decode cX3_surface 25 = .ok (.getfield 35, 3) := by decide +kernel
theorem dX3_surface_28 : decode cX3_surface 28 = .ok (.aload_n 0, 1) := by decide +kernel
theorem dX3_surface_29 : decode cX3_surface 29 = .ok (.getfield 26, 3) := by decide +kernel
theorem dX3_surface_32 : decode cX3_surface 32 = .ok (.iload_n 1, 1) := by decide +kernel
theorem dX3_surface_33 : decode cX3_surface 33 = .ok (.iload_n 2, 1) := by decide +kernel
theorem dX3_surface_34 : decode cX3_surface 34 = .ok (.invokevirtual 110, 3) := by decide +kernel
theorem dX3_surface_37 : decode cX3_surface 37 = .ok (.ldc2_w 114, 3) := by decide +kernel
theorem dX3_surface_40 : decode cX3_surface 40 = .ok (.lcmp, 1) := by decide +kernel
theorem dX3_surface_41 : decode cX3_surface 41 = .ok (.ifCond .lt 9, 3) := by decide +kernel
theorem dX3_surface_44 : decode cX3_surface 44 = .ok (.iinc 2 1, 3) := by decide +kernel
theorem dX3_surface_47 : decode cX3_surface 47 = .ok (.goto (-34), 3) := by decide +kernel
theorem dX3_surface_50 : decode cX3_surface 50 = .ok (.iload_n 2, 1) := by decide +kernel
theorem dX3_surface_51 : decode cX3_surface 51 = .ok (.i2d, 1) := by decide +kernel
theorem dX3_surface_52 : decode cX3_surface 52 = .ok (.aload_n 0, 1) := by decide +kernel
theorem dX3_surface_53 : decode cX3_surface 53 = .ok (.getfield 35, 3) := by decide +kernel
theorem dX3_surface_56 : decode cX3_surface 56 = .ok (.getfield 101, 3) := by decide +kernel
theorem dX3_surface_59 : decode cX3_surface 59 = .ok (.dmul, 1) := by decide +kernel
theorem dX3_surface_60 : decode cX3_surface 60 = .ok (.dreturn, 1) := by decide +kernel
set_option maxRecDepth 20000 in
theorem ggX3_kind_X2_isWalked : GoodIn wsX3_kind wsX2_isWalked := goodIn_r _ [8, 9, 10, 11, 12, 84, 85, 86, 87, 88, 89, 90, 91] (by decide +kernel) (by decide +kernel)
set_option maxRecDepth 20000 in
theorem gX3_kind_X2_isWalked : GoodIn wsX3_kind (wsV RX3 116 RX2 yX2_isWalked wsX2_isWalked) := goodIn_app (goodIn_of _ (by decide +kernel)) ggX3_kind_X2_isWalked
set_option maxRecDepth 20000 in
theorem ggX3_kind_X3_tail : GoodIn wsX3_kind wsX3_tail := goodIn_r _ [16, 1, 17, 4, 5, 6, 7, 8, 9, 10, 11, 12, 18, 19, 20, 21, 22, 23, 24, 25, 26, 27, 28, 29, 30, 31, 32, 33, 34, 35, 36, 37, 38, 39, 40, 41, 42, 43, 44, 45, 46, 47, 48, 49, 50, 51, 52, 53, 54, 55, 56, 57, 58, 59, 60, 61, 62, 63, 64, 65, 66, 67, 68, 69, 70, 71, 72, 73, 74, 75, 76, 77, 78, 79, 80, 81, 82, 83, 84, 85, 86, 87, 88, 89, 90, 91, 92, 93, 94, 95, 96, 97, 98] (by decide +kernel) (by decide +kernel)
set_option maxRecDepth 20000 in
theorem gX3_kind_X3_tail : GoodIn wsX3_kind (wsV RX3 119 RX3 yX3_tail wsX3_tail) := goodIn_app (goodIn_of _ (by decide +kernel)) ggX3_kind_X3_tail
theorem dX3_kind_0 : decode cX3_kind 0 = .ok (.aload_n 0, 1) := by decide +kernel
theorem dX3_kind_1 : decode cX3_kind 1 = .ok (.getfield 44, 3) := by decide +kernel
theorem dX3_kind_4 : decode cX3_kind 4 = .ok (.iload_n 1, 1) := by decide +kernel
theorem dX3_kind_5 : decode cX3_kind 5 = .ok (.invokevirtual 116, 3) := by decide +kernel
theorem dX3_kind_8 : decode cX3_kind 8 = .ok (.ifCond .ne 5, 3) := by decide +kernel
theorem dX3_kind_11 : decode cX3_kind 11 = .ok (.iconst (-1), 1) := by decide +kernel
theorem dX3_kind_12 : decode cX3_kind 12 = .ok (.ireturn, 1) := by decide +kernel
theorem dX3_kind_13 : decode cX3_kind 13 = .ok (.aload_n 0, 1) := by decide +kernel
theorem dX3_kind_14 : decode cX3_kind 14 = .ok (.iload_n 1, 1) := by decide +kernel
theorem dX3_kind_15 : decode cX3_kind 15 = .ok (.invokevirtual 119, 3) := by decide +kernel
theorem dX3_kind_18 : decode cX3_kind 18 = .ok (.dstore_n 2, 1) := by decide +kernel
theorem dX3_kind_19 : decode cX3_kind 19 = .ok (.dload_n 2, 1) := by decide +kernel
theorem dX3_kind_20 : decode cX3_kind 20 = .ok (.ldc2_w 122, 3) := by decide +kernel
theorem dX3_kind_23 : decode cX3_kind 23 = .ok (.dcmp .g, 1) := by decide +kernel
theorem dX3_kind_24 : decode cX3_kind 24 = .ok (.ifCond .ge 5, 3) := by decide +kernel
theorem dX3_kind_27 : decode cX3_kind 27 = .ok (.iconst 0, 1) := by decide +kernel
theorem dX3_kind_28 : decode cX3_kind 28 = .ok (.ireturn, 1) := by decide +kernel
theorem dX3_kind_29 : decode cX3_kind 29 = .ok (.dload_n 2, 1) := by decide +kernel
theorem dX3_kind_30 : decode cX3_kind 30 = .ok (.ldc2_w 124, 3) := by decide +kernel
theorem dX3_kind_33 : decode cX3_kind 33 = .ok (.dcmp .g, 1) := by decide +kernel
theorem dX3_kind_34 : decode cX3_kind 34 = .ok (.ifCond .ge 7, 3) := by decide +kernel
theorem dX3_kind_37 : decode cX3_kind 37 = .ok (.iconst 1, 1) := by decide +kernel
theorem dX3_kind_38 : decode cX3_kind 38 = .ok (.goto 4, 3) := by decide +kernel
theorem dX3_kind_41 : decode cX3_kind 41 = .ok (.iconst 2, 1) := by decide +kernel
theorem dX3_kind_42 : decode cX3_kind 42 = .ok (.ireturn, 1) := by decide +kernel
set_option maxRecDepth 20000 in
theorem ggX3_speed_X3_within : GoodIn wsX3_speed wsX3_within := goodIn_r _ [8] (by decide +kernel) (by decide +kernel)
set_option maxRecDepth 20000 in
theorem gX3_speed_X3_within : GoodIn wsX3_speed (va_wsS RX3 54 yX3_within wsX3_within) := goodIn_app (goodIn_of _ (by decide +kernel)) ggX3_speed_X3_within
set_option maxRecDepth 20000 in
theorem ggX3_speed_X1_put : GoodIn wsX3_speed wsX1_put := goodIn_r _ [13, 14, 15, 16, 17, 18, 19, 12, 20, 28, 29, 30] (by decide +kernel) (by decide +kernel)
set_option maxRecDepth 20000 in
theorem gX3_speed_X1_put : GoodIn wsX3_speed (wsV RX3 132 RX1 yX1_put wsX1_put) := goodIn_app (goodIn_of _ (by decide +kernel)) ggX3_speed_X1_put
theorem dX3_speed_0 : decode cX3_speed 0 = .ok (.dload_n 1, 1) := by decide +kernel
theorem dX3_speed_1 : decode cX3_speed 1 = .ok (.dconst 0, 1) := by decide +kernel
theorem dX3_speed_2 : decode cX3_speed 2 = .ok (.ldc2_w 126, 3) := by decide +kernel
theorem dX3_speed_5 : decode cX3_speed 5 = .ok (.invokestatic 54, 3) := by decide +kernel
theorem dX3_speed_8 : decode cX3_speed 8 = .ok (.ifCond .eq 32, 3) := by decide +kernel
theorem dX3_speed_11 : decode cX3_speed 11 = .ok (.dload_n 3, 1) := by decide +kernel
theorem dX3_speed_12 : decode cX3_speed 12 = .ok (.ldc2_w 128, 3) := by decide +kernel
theorem dX3_speed_15 : decode cX3_speed 15 = .ok (.ldc2_w 130, 3) := by decide +kernel
theorem dX3_speed_18 : decode cX3_speed 18 = .ok (.invokestatic 54, 3) := by decide +kernel
theorem dX3_speed_21 : decode cX3_speed 21 = .ok (.ifCond .eq 19, 3) := by decide +kernel
theorem dX3_speed_24 : decode cX3_speed 24 = .ok (.aload_n 0, 1) := by decide +kernel
theorem dX3_speed_25 : decode cX3_speed 25 = .ok (.getfield 10, 3) := by decide +kernel
theorem dX3_speed_28 : decode cX3_speed 28 = .ok (.dload_n 1, 1) := by decide +kernel
theorem dX3_speed_29 : decode cX3_speed 29 = .ok (.dload_n 3, 1) := by decide +kernel
theorem dX3_speed_30 : decode cX3_speed 30 = .ok (.invokevirtual 132, 3) := by decide +kernel
theorem dX3_speed_33 : decode cX3_speed 33 = .ok (.ifCond .eq 7, 3) := by decide +kernel
theorem dX3_speed_36 : decode cX3_speed 36 = .ok (.iconst 1, 1) := by decide +kernel
theorem dX3_speed_37 : decode cX3_speed 37 = .ok (.goto 4, 3) := by decide +kernel
theorem dX3_speed_40 : decode cX3_speed 40 = .ok (.iconst 0, 1) := by decide +kernel
theorem dX3_speed_41 : decode cX3_speed 41 = .ok (.ireturn, 1) := by decide +kernel
set_option maxRecDepth 20000 in
theorem ggX3_bent_X3_isPing : GoodIn wsX3_bent wsX3_isPing := goodIn_r _ [13] (by decide +kernel) (by decide +kernel)
set_option maxRecDepth 20000 in
theorem gX3_bent_X3_isPing : GoodIn wsX3_bent (va_wsS RX3 72 yX3_isPing wsX3_isPing) := goodIn_app (goodIn_of _ (by decide +kernel)) ggX3_bent_X3_isPing
set_option maxRecDepth 20000 in
theorem ggX3_bent_X0_isSample : GoodIn wsX3_bent wsX0_isSample := goodIn_r _ [18, 19, 43, 44, 45, 46, 47, 48, 49] (by decide +kernel) (by decide +kernel)
set_option maxRecDepth 20000 in
theorem gX3_bent_X0_isSample : GoodIn wsX3_bent (wsV RX3 136 RX0 yX0_isSample wsX0_isSample) := goodIn_app (goodIn_of _ (by decide +kernel)) ggX3_bent_X0_isSample
set_option maxRecDepth 20000 in
theorem ggX3_bent_X1_stepAt : GoodIn wsX3_bent wsX1_stepAt := goodIn_r _ [24, 25, 26, 27, 28, 29, 30, 31, 32, 33, 23, 34, 35, 50, 51, 52] (by decide +kernel) (by decide +kernel)
set_option maxRecDepth 20000 in
theorem gX3_bent_X1_stepAt : GoodIn wsX3_bent (wsV RX3 141 RX1 yX1_stepAt wsX1_stepAt) := goodIn_app (goodIn_of _ (by decide +kernel)) ggX3_bent_X1_stepAt
theorem dX3_bent_0 : decode cX3_bent 0 = .ok (.iload_n 1, 1) := by decide +kernel
theorem dX3_bent_1 : decode cX3_bent 1 = .ok (.invokestatic 72, 3) := by decide +kernel
theorem dX3_bent_4 : decode cX3_bent 4 = .ok (.ifCond .eq 14, 3) := by decide +kernel
theorem dX3_bent_7 : decode cX3_bent 7 = .ok (.aload_n 0, 1) := by decide +kernel
theorem dX3_bent_8 : decode cX3_bent 8 = .ok (.getfield 35, 3) := by decide +kernel
theorem dX3_bent_11 : decode cX3_bent 11 = .ok (.iload_n 2, 1) := by decide +kernel
theorem dX3_bent_12 : decode cX3_bent 12 = .ok (.invokevirtual 136, 3) := by decide +kernel
theorem dX3_bent_15 : decode cX3_bent 15 = .ok (.ifCond .ne 7, 3) := by decide +kernel
theorem dX3_bent_18 : decode cX3_bent 18 = .ok (.ldc2_w 83, 3) := by decide +kernel
theorem dX3_bent_21 : decode cX3_bent 21 = .ok (.dreturn, 1) := by decide +kernel
theorem dX3_bent_22 : decode cX3_bent 22 = .ok (.dconst 0, 1) := by decide +kernel
theorem dX3_bent_23 : decode cX3_bent 23 = .ok (.dstore_n 3, 1) := by decide +kernel
theorem dX3_bent_24 : decode cX3_bent 24 = .ok (.iconst 0, 1) := by decide +kernel
theorem dX3_bent_25 : decode cX3_bent 25 = .ok (.istore 5, 2) := by decide +kernel
theorem dX3_bent_27 : decode cX3_bent 27 = .ok (.iload 5, 2) := by decide +kernel
theorem dX3_bent_29 : decode cX3_bent 29 = .ok (.iload_n 2, 1) := by decide +kernel
theorem dX3_bent_30 : decode cX3_bent 30 = .ok (.if_icmp .gt 45, 3) := by decide +kernel
theorem dX3_bent_33 : decode cX3_bent 33 = .ok (.dload_n 3, 1) := by decide +kernel
theorem dX3_bent_34 : decode cX3_bent 34 = .ok (.aload_n 0, 1) := by decide +kernel
theorem dX3_bent_35 : decode cX3_bent 35 = .ok (.getfield 35, 3) := by decide +kernel
theorem dX3_bent_38 : decode cX3_bent 38 = .ok (.getfield 101, 3) := by decide +kernel
theorem dX3_bent_41 : decode cX3_bent 41 = .ok (.aload_n 0, 1) := by decide +kernel
theorem dX3_bent_42 : decode cX3_bent 42 = .ok (.getfield 10, 3) := by decide +kernel
theorem dX3_bent_45 : decode cX3_bent 45 = .ok (.iload 5, 2) := by decide +kernel
theorem dX3_bent_47 : decode cX3_bent 47 = .ok (.i2d, 1) := by decide +kernel
theorem dX3_bent_48 : decode cX3_bent 48 = .ok (.aload_n 0, 1) := by decide +kernel
theorem dX3_bent_49 : decode cX3_bent 49 = .ok (.getfield 35, 3) := by decide +kernel
theorem dX3_bent_52 : decode cX3_bent 52 = .ok (.getfield 101, 3) := by decide +kernel
theorem dX3_bent_55 : decode cX3_bent 55 = .ok (.dmul, 1) := by decide +kernel
theorem dX3_bent_56 : decode cX3_bent 56 = .ok (.ldc2_w 139, 3) := by decide +kernel
theorem dX3_bent_59 : decode cX3_bent 59 = .ok (.invokevirtual 141, 3) := by decide +kernel
theorem dX3_bent_62 : decode cX3_bent 62 = .ok (.dmul, 1) := by decide +kernel
theorem dX3_bent_63 : decode cX3_bent 63 = .ok (.ldc2_w 139, 3) := by decide +kernel
theorem dX3_bent_66 : decode cX3_bent 66 = .ok (.ddiv, 1) := by decide +kernel
theorem dX3_bent_67 : decode cX3_bent 67 = .ok (.dadd, 1) := by decide +kernel
theorem dX3_bent_68 : decode cX3_bent 68 = .ok (.dstore_n 3, 1) := by decide +kernel
theorem dX3_bent_69 : decode cX3_bent 69 = .ok (.iinc 5 1, 3) := by decide +kernel
theorem dX3_bent_72 : decode cX3_bent 72 = .ok (.goto (-45), 3) := by decide +kernel
theorem dX3_bent_75 : decode cX3_bent 75 = .ok (.ldc2_w 145, 3) := by decide +kernel
theorem dX3_bent_78 : decode cX3_bent 78 = .ok (.aload_n 0, 1) := by decide +kernel
theorem dX3_bent_79 : decode cX3_bent 79 = .ok (.getfield 23, 3) := by decide +kernel
theorem dX3_bent_82 : decode cX3_bent 82 = .ok (.iload_n 1, 1) := by decide +kernel
theorem dX3_bent_83 : decode cX3_bent 83 = .ok (.daload, 1) := by decide +kernel
theorem dX3_bent_84 : decode cX3_bent 84 = .ok (.dmul, 1) := by decide +kernel
theorem dX3_bent_85 : decode cX3_bent 85 = .ok (.dstore 5, 2) := by decide +kernel
theorem dX3_bent_87 : decode cX3_bent 87 = .ok (.dload_n 3, 1) := by decide +kernel
theorem dX3_bent_88 : decode cX3_bent 88 = .ok (.dconst 1, 1) := by decide +kernel
theorem dX3_bent_89 : decode cX3_bent 89 = .ok (.dload 5, 2) := by decide +kernel
theorem dX3_bent_91 : decode cX3_bent 91 = .ok (.dload 5, 2) := by decide +kernel
theorem dX3_bent_93 : decode cX3_bent 93 = .ok (.dmul, 1) := by decide +kernel
theorem dX3_bent_94 : decode cX3_bent 94 = .ok (.ldc2_w 99, 3) := by decide +kernel
theorem dX3_bent_97 : decode cX3_bent 97 = .ok (.dmul, 1) := by decide +kernel
theorem dX3_bent_98 : decode cX3_bent 98 = .ok (.dsub, 1) := by decide +kernel
theorem dX3_bent_99 : decode cX3_bent 99 = .ok (.dmul, 1) := by decide +kernel
theorem dX3_bent_100 : decode cX3_bent 100 = .ok (.aload_n 0, 1) := by decide +kernel
theorem dX3_bent_101 : decode cX3_bent 101 = .ok (.getfield 19, 3) := by decide +kernel
theorem dX3_bent_104 : decode cX3_bent 104 = .ok (.iload_n 1, 1) := by decide +kernel
theorem dX3_bent_105 : decode cX3_bent 105 = .ok (.daload, 1) := by decide +kernel
theorem dX3_bent_106 : decode cX3_bent 106 = .ok (.dadd, 1) := by decide +kernel
theorem dX3_bent_107 : decode cX3_bent 107 = .ok (.dreturn, 1) := by decide +kernel
set_option maxRecDepth 20000 in
theorem ggX3_frequency_X3_isFrequency : GoodIn wsX3_frequency wsX3_isFrequency := goodIn_r _ [5] (by decide +kernel) (by decide +kernel)
set_option maxRecDepth 20000 in
theorem gX3_frequency_X3_isFrequency : GoodIn wsX3_frequency (va_wsS RX3 147 yX3_isFrequency wsX3_isFrequency) := goodIn_app (goodIn_of _ (by decide +kernel)) ggX3_frequency_X3_isFrequency
theorem dX3_frequency_0 : decode cX3_frequency 0 = .ok (.iload_n 1, 1) := by decide +kernel
theorem dX3_frequency_1 : decode cX3_frequency 1 = .ok (.invokestatic 147, 3) := by decide +kernel
theorem dX3_frequency_4 : decode cX3_frequency 4 = .ok (.ifCond .ne 5, 3) := by decide +kernel
theorem dX3_frequency_7 : decode cX3_frequency 7 = .ok (.iconst 0, 1) := by decide +kernel
theorem dX3_frequency_8 : decode cX3_frequency 8 = .ok (.ireturn, 1) := by decide +kernel
theorem dX3_frequency_9 : decode cX3_frequency 9 = .ok (.aload_n 0, 1) := by decide +kernel
theorem dX3_frequency_10 : decode cX3_frequency 10 = .ok (.iload_n 1, 1) := by decide +kernel
theorem dX3_frequency_11 : decode cX3_frequency 11 = .ok (.putfield 26, 3) := by decide +kernel
theorem dX3_frequency_14 : decode cX3_frequency 14 = .ok (.iconst 1, 1) := by decide +kernel
theorem dX3_frequency_15 : decode cX3_frequency 15 = .ok (.ireturn, 1) := by decide +kernel
set_option maxRecDepth 20000 in
theorem ggX3_joined_X3_isFrequency : GoodIn wsX3_joined wsX3_isFrequency := goodIn_r _ [6] (by decide +kernel) (by decide +kernel)
set_option maxRecDepth 20000 in
theorem gX3_joined_X3_isFrequency : GoodIn wsX3_joined (va_wsS RX3 147 yX3_isFrequency wsX3_isFrequency) := goodIn_app (goodIn_of _ (by decide +kernel)) ggX3_joined_X3_isFrequency
set_option maxRecDepth 20000 in
theorem ggX3_joined_X3_isPing : GoodIn wsX3_joined wsX3_isPing := goodIn_r _ [9] (by decide +kernel) (by decide +kernel)
set_option maxRecDepth 20000 in
theorem gX3_joined_X3_isPing : GoodIn wsX3_joined (va_wsS RX3 72 yX3_isPing wsX3_isPing) := goodIn_app (goodIn_of _ (by decide +kernel)) ggX3_joined_X3_isPing
set_option maxRecDepth 20000 in
theorem ggX3_joined_X0_isSample : GoodIn wsX3_joined wsX0_isSample := goodIn_r _ [14, 15, 55, 56, 57, 58, 59, 60, 61] (by decide +kernel) (by decide +kernel)
set_option maxRecDepth 20000 in
theorem gX3_joined_X0_isSample : GoodIn wsX3_joined (wsV RX3 136 RX0 yX0_isSample wsX0_isSample) := goodIn_app (goodIn_of _ (by decide +kernel)) ggX3_joined_X0_isSample
set_option maxRecDepth 20000 in
theorem ggX3_joined_X0_strength : GoodIn wsX3_joined wsX0_strength := goodIn_r _ [19, 20, 21, 22, 23, 24, 25, 26, 27, 28, 29, 30, 31, 13, 32, 15, 4, 5, 6, 8, 9, 33, 11, 12, 14, 34, 35, 36, 37, 38, 39, 40, 41, 42, 43, 55, 56, 57, 58, 59, 60, 61] (by decide +kernel) (by decide +kernel)
set_option maxRecDepth 20000 in
theorem gX3_joined_X0_strength : GoodIn wsX3_joined (wsV RX3 110 RX0 yX0_strength wsX0_strength) := goodIn_app (goodIn_of _ (by decide +kernel)) ggX3_joined_X0_strength
set_option maxRecDepth 20000 in
theorem ggX3_joined_X0_range : GoodIn wsX3_joined wsX0_range := goodIn_r _ [42, 43, 55, 56, 57, 58, 59, 60, 61] (by decide +kernel) (by decide +kernel)
set_option maxRecDepth 20000 in
theorem gX3_joined_X0_range : GoodIn wsX3_joined (wsV RX3 150 RX0 yX0_range wsX0_range) := goodIn_app (goodIn_of _ (by decide +kernel)) ggX3_joined_X0_range
set_option maxRecDepth 20000 in
theorem ggX3_joined_X3_over : GoodIn wsX3_joined wsX3_over := goodIn_r _ [47] (by decide +kernel) (by decide +kernel)
set_option maxRecDepth 20000 in
theorem gX3_joined_X3_over : GoodIn wsX3_joined (va_wsS RX3 153 yX3_over wsX3_over) := goodIn_app (goodIn_of _ (by decide +kernel)) ggX3_joined_X3_over
theorem dX3_joined_0 : decode cX3_joined 0 = .ok (.iload_n 1, 1) := by decide +kernel
theorem dX3_joined_1 : decode cX3_joined 1 = .ok (.invokestatic 147, 3) := by decide +kernel
theorem dX3_joined_4 : decode cX3_joined 4 = .ok (.ifCond .eq 21, 3) := by decide +kernel
theorem dX3_joined_7 : decode cX3_joined 7 = .ok (.iload_n 2, 1) := by decide +kernel
theorem dX3_joined_8 : decode cX3_joined 8 = .ok (.invokestatic 72, 3) := by decide +kernel
theorem dX3_joined_11 : decode cX3_joined 11 = .ok (.ifCond .eq 14, 3) := by decide +kernel
theorem dX3_joined_14 : decode cX3_joined 14 = .ok (.aload_n 0, 1) := by decide +kernel
theorem dX3_joined_15 : decode cX3_joined 15 = .ok (.getfield 35, 3) := by decide +kernel
theorem dX3_joined_18 : decode cX3_joined 18 = .ok (.iload_n 3, 1) := by decide +kernel
theorem dX3_joined_19 : decode cX3_joined 19 = .ok (.invokevirtual 136, 3) := by decide +kernel
theorem dX3_joined_22 : decode cX3_joined 22 = .ok (.ifCond .ne 7, 3) := by decide +kernel
theorem dX3_joined_25 : decode cX3_joined 25 = .ok (.ldc2_w 83, 3) := by decide +kernel
theorem dX3_joined_28 : decode cX3_joined 28 = .ok (.dreturn, 1) := by decide +kernel
theorem dX3_joined_29 : decode cX3_joined 29 = .ok (.aload_n 0, 1) := by decide +kernel
theorem dX3_joined_30 : decode cX3_joined 30 = .ok (.getfield 35, 3) := by decide +kernel
theorem dX3_joined_33 : decode cX3_joined 33 = .ok (.iload_n 1, 1) := by decide +kernel
theorem dX3_joined_34 : decode cX3_joined 34 = .ok (.iload_n 2, 1) := by decide +kernel
theorem dX3_joined_35 : decode cX3_joined 35 = .ok (.iload_n 3, 1) := by decide +kernel
theorem dX3_joined_36 : decode cX3_joined 36 = .ok (.invokevirtual 110, 3) := by decide +kernel
theorem dX3_joined_39 : decode cX3_joined 39 = .ok (.l2d, 1) := by decide +kernel
theorem dX3_joined_40 : decode cX3_joined 40 = .ok (.dstore 4, 2) := by decide +kernel
theorem dX3_joined_42 : decode cX3_joined 42 = .ok (.aload_n 0, 1) := by decide +kernel
theorem dX3_joined_43 : decode cX3_joined 43 = .ok (.getfield 35, 3) := by decide +kernel
theorem dX3_joined_46 : decode cX3_joined 46 = .ok (.iload_n 3, 1) := by decide +kernel
theorem dX3_joined_47 : decode cX3_joined 47 = .ok (.iconst 1, 1) := by decide +kernel
theorem dX3_joined_48 : decode cX3_joined 48 = .ok (.iadd, 1) := by decide +kernel
theorem dX3_joined_49 : decode cX3_joined 49 = .ok (.invokevirtual 136, 3) := by decide +kernel
theorem dX3_joined_52 : decode cX3_joined 52 = .ok (.ifCond .ne 6, 3) := by decide +kernel
theorem dX3_joined_55 : decode cX3_joined 55 = .ok (.dload 4, 2) := by decide +kernel
theorem dX3_joined_57 : decode cX3_joined 57 = .ok (.dreturn, 1) := by decide +kernel
theorem dX3_joined_58 : decode cX3_joined 58 = .ok (.aload_n 0, 1) := by decide +kernel
theorem dX3_joined_59 : decode cX3_joined 59 = .ok (.getfield 35, 3) := by decide +kernel
theorem dX3_joined_62 : decode cX3_joined 62 = .ok (.iload_n 1, 1) := by decide +kernel
theorem dX3_joined_63 : decode cX3_joined 63 = .ok (.iload_n 2, 1) := by decide +kernel
theorem dX3_joined_64 : decode cX3_joined 64 = .ok (.iload_n 3, 1) := by decide +kernel
theorem dX3_joined_65 : decode cX3_joined 65 = .ok (.iconst 1, 1) := by decide +kernel
theorem dX3_joined_66 : decode cX3_joined 66 = .ok (.iadd, 1) := by decide +kernel
theorem dX3_joined_67 : decode cX3_joined 67 = .ok (.invokevirtual 110, 3) := by decide +kernel
theorem dX3_joined_70 : decode cX3_joined 70 = .ok (.l2d, 1) := by decide +kernel
theorem dX3_joined_71 : decode cX3_joined 71 = .ok (.dstore 6, 2) := by decide +kernel
theorem dX3_joined_73 : decode cX3_joined 73 = .ok (.aload_n 0, 1) := by decide +kernel
theorem dX3_joined_74 : decode cX3_joined 74 = .ok (.getfield 35, 3) := by decide +kernel
theorem dX3_joined_77 : decode cX3_joined 77 = .ok (.iload_n 3, 1) := by decide +kernel
theorem dX3_joined_78 : decode cX3_joined 78 = .ok (.invokevirtual 150, 3) := by decide +kernel
theorem dX3_joined_81 : decode cX3_joined 81 = .ok (.aload_n 0, 1) := by decide +kernel
theorem dX3_joined_82 : decode cX3_joined 82 = .ok (.getfield 35, 3) := by decide +kernel
theorem dX3_joined_85 : decode cX3_joined 85 = .ok (.iload_n 3, 1) := by decide +kernel
theorem dX3_joined_86 : decode cX3_joined 86 = .ok (.invokevirtual 150, 3) := by decide +kernel
theorem dX3_joined_89 : decode cX3_joined 89 = .ok (.dmul, 1) := by decide +kernel
theorem dX3_joined_90 : decode cX3_joined 90 = .ok (.dstore 8, 2) := by decide +kernel
theorem dX3_joined_92 : decode cX3_joined 92 = .ok (.aload_n 0, 1) := by decide +kernel
theorem dX3_joined_93 : decode cX3_joined 93 = .ok (.getfield 35, 3) := by decide +kernel
theorem dX3_joined_96 : decode cX3_joined 96 = .ok (.iload_n 3, 1) := by decide +kernel
theorem dX3_joined_97 : decode cX3_joined 97 = .ok (.iconst 1, 1) := by decide +kernel
theorem dX3_joined_98 : decode cX3_joined 98 = .ok (.iadd, 1) := by decide +kernel
theorem dX3_joined_99 : decode cX3_joined 99 = .ok (.invokevirtual 150, 3) := by decide +kernel
theorem dX3_joined_102 : decode cX3_joined 102 = .ok (.aload_n 0, 1) := by decide +kernel
theorem dX3_joined_103 : decode cX3_joined 103 = .ok (.getfield 35, 3) := by decide +kernel
theorem dX3_joined_106 : decode cX3_joined 106 = .ok (.iload_n 3, 1) := by decide +kernel
theorem dX3_joined_107 : decode cX3_joined 107 = .ok (.iconst 1, 1) := by decide +kernel
theorem dX3_joined_108 : decode cX3_joined 108 = .ok (.iadd, 1) := by decide +kernel
theorem dX3_joined_109 : decode cX3_joined 109 = .ok (.invokevirtual 150, 3) := by decide +kernel
theorem dX3_joined_112 : decode cX3_joined 112 = .ok (.dmul, 1) := by decide +kernel
theorem dX3_joined_113 : decode cX3_joined 113 = .ok (.dstore 10, 2) := by decide +kernel
theorem dX3_joined_115 : decode cX3_joined 115 = .ok (.dload 4, 2) := by decide +kernel
theorem dX3_joined_117 : decode cX3_joined 117 = .ok (.dload 8, 2) := by decide +kernel
theorem dX3_joined_119 : decode cX3_joined 119 = .ok (.dmul, 1) := by decide +kernel
theorem dX3_joined_120 : decode cX3_joined 120 = .ok (.dload 6, 2) := by decide +kernel
theorem dX3_joined_122 : decode cX3_joined 122 = .ok (.dload 10, 2) := by decide +kernel
theorem dX3_joined_124 : decode cX3_joined 124 = .ok (.dmul, 1) := by decide +kernel
theorem dX3_joined_125 : decode cX3_joined 125 = .ok (.dadd, 1) := by decide +kernel
theorem dX3_joined_126 : decode cX3_joined 126 = .ok (.dload 8, 2) := by decide +kernel
theorem dX3_joined_128 : decode cX3_joined 128 = .ok (.dload 10, 2) := by decide +kernel
theorem dX3_joined_130 : decode cX3_joined 130 = .ok (.dadd, 1) := by decide +kernel
theorem dX3_joined_131 : decode cX3_joined 131 = .ok (.invokestatic 153, 3) := by decide +kernel
theorem dX3_joined_134 : decode cX3_joined 134 = .ok (.dreturn, 1) := by decide +kernel
set_option maxRecDepth 20000 in
theorem ggX3_ball_X3_within : GoodIn wsX3_ball wsX3_within := goodIn_r _ [8] (by decide +kernel) (by decide +kernel)
set_option maxRecDepth 20000 in
theorem gX3_ball_X3_within : GoodIn wsX3_ball (va_wsS RX3 54 yX3_within wsX3_within) := goodIn_app (goodIn_of _ (by decide +kernel)) ggX3_ball_X3_within
set_option maxRecDepth 20000 in
theorem ggX3_ball_X1_put : GoodIn wsX3_ball wsX1_put := goodIn_r _ [13, 14, 15, 16, 17, 18, 19, 12, 20, 28, 29, 30] (by decide +kernel) (by decide +kernel)
set_option maxRecDepth 20000 in
theorem gX3_ball_X1_put : GoodIn wsX3_ball (wsV RX3 132 RX1 yX1_put wsX1_put) := goodIn_app (goodIn_of _ (by decide +kernel)) ggX3_ball_X1_put
theorem dX3_ball_0 : decode cX3_ball 0 = .ok (.dload_n 1, 1) := by decide +kernel
theorem dX3_ball_1 : decode cX3_ball 1 = .ok (.dconst 0, 1) := by decide +kernel
theorem dX3_ball_2 : decode cX3_ball 2 = .ok (.ldc2_w 156, 3) := by decide +kernel
theorem dX3_ball_5 : decode cX3_ball 5 = .ok (.invokestatic 54, 3) := by decide +kernel
theorem dX3_ball_8 : decode cX3_ball 8 = .ok (.ifCond .eq 32, 3) := by decide +kernel
theorem dX3_ball_11 : decode cX3_ball 11 = .ok (.dload_n 3, 1) := by decide +kernel
theorem dX3_ball_12 : decode cX3_ball 12 = .ok (.ldc2_w 158, 3) := by decide +kernel
theorem dX3_ball_15 : decode cX3_ball 15 = .ok (.ldc2_w 52, 3) := by decide +kernel
theorem dX3_ball_18 : decode cX3_ball 18 = .ok (.invokestatic 54, 3) := by decide +kernel
theorem dX3_ball_21 : decode cX3_ball 21 = .ok (.ifCond .eq 19, 3) := by decide +kernel
theorem dX3_ball_24 : decode cX3_ball 24 = .ok (.aload_n 0, 1) := by decide +kernel
theorem dX3_ball_25 : decode cX3_ball 25 = .ok (.getfield 16, 3) := by decide +kernel
theorem dX3_ball_28 : decode cX3_ball 28 = .ok (.dload_n 1, 1) := by decide +kernel
theorem dX3_ball_29 : decode cX3_ball 29 = .ok (.dload_n 3, 1) := by decide +kernel
theorem dX3_ball_30 : decode cX3_ball 30 = .ok (.invokevirtual 132, 3) := by decide +kernel
theorem dX3_ball_33 : decode cX3_ball 33 = .ok (.ifCond .eq 7, 3) := by decide +kernel
theorem dX3_ball_36 : decode cX3_ball 36 = .ok (.iconst 1, 1) := by decide +kernel
theorem dX3_ball_37 : decode cX3_ball 37 = .ok (.goto 4, 3) := by decide +kernel
theorem dX3_ball_40 : decode cX3_ball 40 = .ok (.iconst 0, 1) := by decide +kernel
theorem dX3_ball_41 : decode cX3_ball 41 = .ok (.ireturn, 1) := by decide +kernel
set_option maxRecDepth 20000 in
theorem ggX3_factor_X3_within : GoodIn wsX3_factor wsX3_within := goodIn_r _ [6] (by decide +kernel) (by decide +kernel)
set_option maxRecDepth 20000 in
theorem gX3_factor_X3_within : GoodIn wsX3_factor (va_wsS RX3 54 yX3_within wsX3_within) := goodIn_app (goodIn_of _ (by decide +kernel)) ggX3_factor_X3_within
set_option maxRecDepth 20000 in
theorem ggX3_factor_X1_slopeAt : GoodIn wsX3_factor wsX1_slopeAt := goodIn_r _ [11, 12, 13, 14, 15, 16, 17, 10, 18, 19, 20, 21, 22, 23, 24, 25, 26, 27, 5, 28, 36, 37, 38] (by decide +kernel) (by decide +kernel)
set_option maxRecDepth 20000 in
theorem gX3_factor_X1_slopeAt : GoodIn wsX3_factor (wsV RX3 160 RX1 yX1_slopeAt wsX1_slopeAt) := goodIn_app (goodIn_of _ (by decide +kernel)) ggX3_factor_X1_slopeAt
theorem dX3_factor_0 : decode cX3_factor 0 = .ok (.dload_n 1, 1) := by decide +kernel
theorem dX3_factor_1 : decode cX3_factor 1 = .ok (.dconst 0, 1) := by decide +kernel
theorem dX3_factor_2 : decode cX3_factor 2 = .ok (.ldc2_w 156, 3) := by decide +kernel
theorem dX3_factor_5 : decode cX3_factor 5 = .ok (.invokestatic 54, 3) := by decide +kernel
theorem dX3_factor_8 : decode cX3_factor 8 = .ok (.ifCond .eq 15, 3) := by decide +kernel
theorem dX3_factor_11 : decode cX3_factor 11 = .ok (.aload_n 0, 1) := by decide +kernel
theorem dX3_factor_12 : decode cX3_factor 12 = .ok (.getfield 16, 3) := by decide +kernel
theorem dX3_factor_15 : decode cX3_factor 15 = .ok (.dload_n 1, 1) := by decide +kernel
theorem dX3_factor_16 : decode cX3_factor 16 = .ok (.dconst 1, 1) := by decide +kernel
theorem dX3_factor_17 : decode cX3_factor 17 = .ok (.invokevirtual 160, 3) := by decide +kernel
theorem dX3_factor_20 : decode cX3_factor 20 = .ok (.goto 4, 3) := by decide +kernel
theorem dX3_factor_23 : decode cX3_factor 23 = .ok (.dconst 1, 1) := by decide +kernel
theorem dX3_factor_24 : decode cX3_factor 24 = .ok (.dreturn, 1) := by decide +kernel
set_option maxRecDepth 20000 in
theorem ggX3_tide_X3_isPing : GoodIn wsX3_tide wsX3_isPing := goodIn_r _ [7] (by decide +kernel) (by decide +kernel)
set_option maxRecDepth 20000 in
theorem gX3_tide_X3_isPing : GoodIn wsX3_tide (va_wsS RX3 72 yX3_isPing wsX3_isPing) := goodIn_app (goodIn_of _ (by decide +kernel)) ggX3_tide_X3_isPing
set_option maxRecDepth 20000 in
theorem ggX3_tide_X3_within : GoodIn wsX3_tide wsX3_within := goodIn_r _ [10] (by decide +kernel) (by decide +kernel)
set_option maxRecDepth 20000 in
theorem gX3_tide_X3_within : GoodIn wsX3_tide (va_wsS RX3 54 yX3_within wsX3_within) := goodIn_app (goodIn_of _ (by decide +kernel)) ggX3_tide_X3_within
theorem dX3_tide_0 : decode cX3_tide 0 = .ok (.iload_n 1, 1) := by decide +kernel
theorem dX3_tide_1 : decode cX3_tide 1 = .ok (.invokestatic 72, 3) := by decide +kernel
theorem dX3_tide_4 : decode cX3_tide 4 = .ok (.ifCond .eq 16, 3) := by decide +kernel
theorem dX3_tide_7 : decode cX3_tide 7 = .ok (.dload_n 2, 1) := by decide +kernel
theorem dX3_tide_8 : decode cX3_tide 8 = .ok (.ldc2_w 163, 3) := by decide +kernel
theorem dX3_tide_11 : decode cX3_tide 11 = .ok (.ldc2_w 165, 3) := by decide +kernel
theorem dX3_tide_14 : decode cX3_tide 14 = .ok (.invokestatic 54, 3) := by decide +kernel
theorem dX3_tide_17 : decode cX3_tide 17 = .ok (.ifCond .ne 5, 3) := by decide +kernel
theorem dX3_tide_20 : decode cX3_tide 20 = .ok (.iconst 0, 1) := by decide +kernel
theorem dX3_tide_21 : decode cX3_tide 21 = .ok (.ireturn, 1) := by decide +kernel
theorem dX3_tide_22 : decode cX3_tide 22 = .ok (.aload_n 0, 1) := by decide +kernel
theorem dX3_tide_23 : decode cX3_tide 23 = .ok (.getfield 19, 3) := by decide +kernel
theorem dX3_tide_26 : decode cX3_tide 26 = .ok (.iload_n 1, 1) := by decide +kernel
theorem dX3_tide_27 : decode cX3_tide 27 = .ok (.dload_n 2, 1) := by decide +kernel
theorem dX3_tide_28 : decode cX3_tide 28 = .ok (.dastore, 1) := by decide +kernel
theorem dX3_tide_29 : decode cX3_tide 29 = .ok (.iconst 1, 1) := by decide +kernel
theorem dX3_tide_30 : decode cX3_tide 30 = .ok (.ireturn, 1) := by decide +kernel
set_option maxRecDepth 20000 in
theorem ggX3_tail_X2_isWalked : GoodIn wsX3_tail wsX2_isWalked := goodIn_r _ [7, 8, 9, 10, 11, 78, 79, 80, 81, 82, 83, 84, 85] (by decide +kernel) (by decide +kernel)
set_option maxRecDepth 20000 in
theorem gX3_tail_X2_isWalked : GoodIn wsX3_tail (wsV RX3 116 RX2 yX2_isWalked wsX2_isWalked) := goodIn_app (goodIn_of _ (by decide +kernel)) ggX3_tail_X2_isWalked
set_option maxRecDepth 20000 in
theorem ggX3_tail_X2_strengthsBehind : GoodIn wsX3_tail wsX2_strengthsBehind := goodIn_r _ [15, 16, 17, 18, 19, 20, 6, 21, 22, 9, 10, 11, 23, 24, 25, 26, 27, 28, 29, 30, 31, 32, 33, 34, 35, 36, 37, 38, 39, 40, 41, 42, 43, 44, 45, 46, 47, 48, 49, 50, 51, 52, 53, 54, 55, 56, 57, 58, 59, 60, 61, 62, 63, 64, 65, 66, 67, 68, 69, 70, 78, 79, 80, 81, 82, 83, 84, 85, 86, 87, 88, 89, 90, 91, 92] (by decide +kernel) (by decide +kernel)
set_option maxRecDepth 20000 in
theorem gX3_tail_X2_strengthsBehind : GoodIn wsX3_tail (wsV RX3 167 RX2 yX2_strengthsBehind wsX2_strengthsBehind) := goodIn_app (goodIn_of _ (by decide +kernel)) ggX3_tail_X2_strengthsBehind
theorem dX3_tail_0 : decode cX3_tail 0 = .ok (.aload_n 0, 1) := by decide +kernel
theorem dX3_tail_1 : decode cX3_tail 1 = .ok (.getfield 44, 3) := by decide +kernel
theorem dX3_tail_4 : decode cX3_tail 4 = .ok (.iload_n 1, 1) := by decide +kernel
theorem dX3_tail_5 : decode cX3_tail 5 = .ok (.invokevirtual 116, 3) := by decide +kernel
theorem dX3_tail_8 : decode cX3_tail 8 = .ok (.ifCond .eq 14, 3) := by decide +kernel
theorem dX3_tail_11 : decode cX3_tail 11 = .ok (.aload_n 0, 1) := by decide +kernel
theorem dX3_tail_12 : decode cX3_tail 12 = .ok (.getfield 44, 3) := by decide +kernel
theorem dX3_tail_15 : decode cX3_tail 15 = .ok (.iload_n 1, 1) := by decide +kernel
theorem dX3_tail_16 : decode cX3_tail 16 = .ok (.invokevirtual 167, 3) := by decide +kernel
theorem dX3_tail_19 : decode cX3_tail 19 = .ok (.goto 6, 3) := by decide +kernel
theorem dX3_tail_22 : decode cX3_tail 22 = .ok (.ldc2_w 83, 3) := by decide +kernel
theorem dX3_tail_25 : decode cX3_tail 25 = .ok (.dreturn, 1) := by decide +kernel
set_option maxRecDepth 20000 in
theorem ggX3_map_X3_within : GoodIn wsX3_map wsX3_within := goodIn_r _ [8] (by decide +kernel) (by decide +kernel)
set_option maxRecDepth 20000 in
theorem gX3_map_X3_within : GoodIn wsX3_map (va_wsS RX3 54 yX3_within wsX3_within) := goodIn_app (goodIn_of _ (by decide +kernel)) ggX3_map_X3_within
set_option maxRecDepth 20000 in
theorem ggX3_map_X2_hasBottom : GoodIn wsX3_map wsX2_hasBottom := goodIn_r _ [13, 14, 15, 16, 12, 17, 18, 19, 7, 20, 21, 22, 23, 24, 25, 26, 27, 28, 70, 71, 72, 73, 74, 75, 76, 77] (by decide +kernel) (by decide +kernel)
set_option maxRecDepth 20000 in
theorem gX3_map_X2_hasBottom : GoodIn wsX3_map (wsV RX3 76 RX2 yX2_hasBottom wsX2_hasBottom) := goodIn_app (goodIn_of _ (by decide +kernel)) ggX3_map_X2_hasBottom
set_option maxRecDepth 20000 in
theorem ggX3_map_X3_over : GoodIn wsX3_map wsX3_over := goodIn_r _ [31] (by decide +kernel) (by decide +kernel)
set_option maxRecDepth 20000 in
theorem gX3_map_X3_over : GoodIn wsX3_map (va_wsS RX3 153 yX3_over wsX3_over) := goodIn_app (goodIn_of _ (by decide +kernel)) ggX3_map_X3_over
set_option maxRecDepth 20000 in
theorem ggX3_map_X3_bottom : GoodIn wsX3_map wsX3_bottom := goodIn_r _ [35, 4, 36, 3, 37, 19, 7, 20, 9, 10, 11, 12, 13, 14, 15, 16, 17, 18, 21, 22, 23, 24, 25, 26, 27, 28, 38, 39, 40, 41, 42, 43, 44, 45, 46, 47, 48, 49, 50, 51, 52, 53, 54, 55, 56, 57, 58, 59, 60, 61, 62, 30, 31, 63, 64, 65, 66, 67, 68, 69, 70, 71, 72, 73, 74, 75, 76, 77, 78, 79, 80, 81, 82, 83, 84] (by decide +kernel) (by decide +kernel)
set_option maxRecDepth 20000 in
theorem gX3_map_X3_bottom : GoodIn wsX3_map (wsV RX3 174 RX3 yX3_bottom wsX3_bottom) := goodIn_app (goodIn_of _ (by decide +kernel)) ggX3_map_X3_bottom
theorem dX3_map_0 : decode cX3_map 0 = .ok (.dload_n 1, 1) := by decide +kernel
theorem dX3_map_1 : decode cX3_map 1 = .ok (.ldc2_w 170, 3) := by decide +kernel
theorem dX3_map_4 : decode cX3_map 4 = .ok (.ldc2_w 172, 3) := by decide +kernel
theorem dX3_map_7 : decode cX3_map 7 = .ok (.invokestatic 54, 3) := by decide +kernel
theorem dX3_map_10 : decode cX3_map 10 = .ok (.ifCond .eq 16, 3) := by decide +kernel
theorem dX3_map_13 : decode cX3_map 13 = .ok (.dload_n 3, 1) := by decide +kernel
theorem dX3_map_14 : decode cX3_map 14 = .ok (.ldc2_w 170, 3) := by decide +kernel
theorem dX3_map_17 : decode cX3_map 17 = .ok (.ldc2_w 172, 3) := by decide +kernel
theorem dX3_map_20 : decode cX3_map 20 = .ok (.invokestatic 54, 3) := by decide +kernel
theorem dX3_map_23 : decode cX3_map 23 = .ok (.ifCond .ne 7, 3) := by decide +kernel
theorem dX3_map_26 : decode cX3_map 26 = .ok (.ldc2_w 83, 3) := by decide +kernel
theorem dX3_map_29 : decode cX3_map 29 = .ok (.dreturn, 1) := by decide +kernel
theorem dX3_map_30 : decode cX3_map 30 = .ok (.dconst 0, 1) := by decide +kernel
theorem dX3_map_31 : decode cX3_map 31 = .ok (.dstore 5, 2) := by decide +kernel
theorem dX3_map_33 : decode cX3_map 33 = .ok (.dconst 0, 1) := by decide +kernel
theorem dX3_map_34 : decode cX3_map 34 = .ok (.dstore 7, 2) := by decide +kernel
theorem dX3_map_36 : decode cX3_map 36 = .ok (.iconst 0, 1) := by decide +kernel
theorem dX3_map_37 : decode cX3_map 37 = .ok (.istore 9, 2) := by decide +kernel
theorem dX3_map_39 : decode cX3_map 39 = .ok (.iload 9, 2) := by decide +kernel
theorem dX3_map_41 : decode cX3_map 41 = .ok (.bipush 32, 2) := by decide +kernel
theorem dX3_map_43 : decode cX3_map 43 = .ok (.if_icmp .ge 65, 3) := by decide +kernel
theorem dX3_map_46 : decode cX3_map 46 = .ok (.aload_n 0, 1) := by decide +kernel
theorem dX3_map_47 : decode cX3_map 47 = .ok (.getfield 44, 3) := by decide +kernel
theorem dX3_map_50 : decode cX3_map 50 = .ok (.iload 9, 2) := by decide +kernel
theorem dX3_map_52 : decode cX3_map 52 = .ok (.invokevirtual 76, 3) := by decide +kernel
theorem dX3_map_55 : decode cX3_map 55 = .ok (.ifCond .eq 47, 3) := by decide +kernel
theorem dX3_map_58 : decode cX3_map 58 = .ok (.dconst 1, 1) := by decide +kernel
theorem dX3_map_59 : decode cX3_map 59 = .ok (.dconst 1, 1) := by decide +kernel
theorem dX3_map_60 : decode cX3_map 60 = .ok (.dload_n 1, 1) := by decide +kernel
theorem dX3_map_61 : decode cX3_map 61 = .ok (.iload 9, 2) := by decide +kernel
theorem dX3_map_63 : decode cX3_map 63 = .ok (.i2d, 1) := by decide +kernel
theorem dX3_map_64 : decode cX3_map 64 = .ok (.dsub, 1) := by decide +kernel
theorem dX3_map_65 : decode cX3_map 65 = .ok (.dload_n 1, 1) := by decide +kernel
theorem dX3_map_66 : decode cX3_map 66 = .ok (.iload 9, 2) := by decide +kernel
theorem dX3_map_68 : decode cX3_map 68 = .ok (.i2d, 1) := by decide +kernel
theorem dX3_map_69 : decode cX3_map 69 = .ok (.dsub, 1) := by decide +kernel
theorem dX3_map_70 : decode cX3_map 70 = .ok (.dmul, 1) := by decide +kernel
theorem dX3_map_71 : decode cX3_map 71 = .ok (.dadd, 1) := by decide +kernel
theorem dX3_map_72 : decode cX3_map 72 = .ok (.dload_n 3, 1) := by decide +kernel
theorem dX3_map_73 : decode cX3_map 73 = .ok (.dload_n 3, 1) := by decide +kernel
theorem dX3_map_74 : decode cX3_map 74 = .ok (.dmul, 1) := by decide +kernel
theorem dX3_map_75 : decode cX3_map 75 = .ok (.dadd, 1) := by decide +kernel
theorem dX3_map_76 : decode cX3_map 76 = .ok (.invokestatic 153, 3) := by decide +kernel
theorem dX3_map_79 : decode cX3_map 79 = .ok (.dstore 10, 2) := by decide +kernel
theorem dX3_map_81 : decode cX3_map 81 = .ok (.dload 5, 2) := by decide +kernel
theorem dX3_map_83 : decode cX3_map 83 = .ok (.dload 10, 2) := by decide +kernel
theorem dX3_map_85 : decode cX3_map 85 = .ok (.aload_n 0, 1) := by decide +kernel
theorem dX3_map_86 : decode cX3_map 86 = .ok (.iload 9, 2) := by decide +kernel
theorem dX3_map_88 : decode cX3_map 88 = .ok (.invokevirtual 174, 3) := by decide +kernel
theorem dX3_map_91 : decode cX3_map 91 = .ok (.dmul, 1) := by decide +kernel
theorem dX3_map_92 : decode cX3_map 92 = .ok (.dadd, 1) := by decide +kernel
theorem dX3_map_93 : decode cX3_map 93 = .ok (.dstore 5, 2) := by decide +kernel
theorem dX3_map_95 : decode cX3_map 95 = .ok (.dload 7, 2) := by decide +kernel
theorem dX3_map_97 : decode cX3_map 97 = .ok (.dload 10, 2) := by decide +kernel
theorem dX3_map_99 : decode cX3_map 99 = .ok (.dadd, 1) := by decide +kernel
theorem dX3_map_100 : decode cX3_map 100 = .ok (.dstore 7, 2) := by decide +kernel
theorem dX3_map_102 : decode cX3_map 102 = .ok (.iinc 9 1, 3) := by decide +kernel
theorem dX3_map_105 : decode cX3_map 105 = .ok (.goto (-66), 3) := by decide +kernel
theorem dX3_map_108 : decode cX3_map 108 = .ok (.dload 7, 2) := by decide +kernel
theorem dX3_map_110 : decode cX3_map 110 = .ok (.dconst 0, 1) := by decide +kernel
theorem dX3_map_111 : decode cX3_map 111 = .ok (.dcmp .l, 1) := by decide +kernel
theorem dX3_map_112 : decode cX3_map 112 = .ok (.ifCond .le 13, 3) := by decide +kernel
theorem dX3_map_115 : decode cX3_map 115 = .ok (.dload 5, 2) := by decide +kernel
theorem dX3_map_117 : decode cX3_map 117 = .ok (.dload 7, 2) := by decide +kernel
theorem dX3_map_119 : decode cX3_map 119 = .ok (.invokestatic 153, 3) := by decide +kernel
theorem dX3_map_122 : decode cX3_map 122 = .ok (.goto 6, 3) := by decide +kernel
theorem dX3_map_125 : decode cX3_map 125 = .ok (.ldc2_w 83, 3) := by decide +kernel
theorem dX3_map_128 : decode cX3_map 128 = .ok (.dreturn, 1) := by decide +kernel
set_option maxRecDepth 20000 in
theorem ggX3_turned_X3_isPing : GoodIn wsX3_turned wsX3_isPing := goodIn_r _ [7] (by decide +kernel) (by decide +kernel)
set_option maxRecDepth 20000 in
theorem gX3_turned_X3_isPing : GoodIn wsX3_turned (va_wsS RX3 72 yX3_isPing wsX3_isPing) := goodIn_app (goodIn_of _ (by decide +kernel)) ggX3_turned_X3_isPing
set_option maxRecDepth 20000 in
theorem ggX3_turned_X3_within : GoodIn wsX3_turned wsX3_within := goodIn_r _ [10] (by decide +kernel) (by decide +kernel)
set_option maxRecDepth 20000 in
theorem gX3_turned_X3_within : GoodIn wsX3_turned (va_wsS RX3 54 yX3_within wsX3_within) := goodIn_app (goodIn_of _ (by decide +kernel)) ggX3_turned_X3_within
theorem dX3_turned_0 : decode cX3_turned 0 = .ok (.iload_n 1, 1) := by decide +kernel
theorem dX3_turned_1 : decode cX3_turned 1 = .ok (.invokestatic 72, 3) := by decide +kernel
theorem dX3_turned_4 : decode cX3_turned 4 = .ok (.ifCond .eq 16, 3) := by decide +kernel
theorem dX3_turned_7 : decode cX3_turned 7 = .ok (.dload_n 2, 1) := by decide +kernel
theorem dX3_turned_8 : decode cX3_turned 8 = .ok (.ldc2_w 177, 3) := by decide +kernel
theorem dX3_turned_11 : decode cX3_turned 11 = .ok (.ldc2_w 179, 3) := by decide +kernel
theorem dX3_turned_14 : decode cX3_turned 14 = .ok (.invokestatic 54, 3) := by decide +kernel
theorem dX3_turned_17 : decode cX3_turned 17 = .ok (.ifCond .ne 5, 3) := by decide +kernel
theorem dX3_turned_20 : decode cX3_turned 20 = .ok (.iconst 0, 1) := by decide +kernel
theorem dX3_turned_21 : decode cX3_turned 21 = .ok (.ireturn, 1) := by decide +kernel
theorem dX3_turned_22 : decode cX3_turned 22 = .ok (.aload_n 0, 1) := by decide +kernel
theorem dX3_turned_23 : decode cX3_turned 23 = .ok (.getfield 23, 3) := by decide +kernel
theorem dX3_turned_26 : decode cX3_turned 26 = .ok (.iload_n 1, 1) := by decide +kernel
theorem dX3_turned_27 : decode cX3_turned 27 = .ok (.dload_n 2, 1) := by decide +kernel
theorem dX3_turned_28 : decode cX3_turned 28 = .ok (.dastore, 1) := by decide +kernel
theorem dX3_turned_29 : decode cX3_turned 29 = .ok (.iconst 1, 1) := by decide +kernel
theorem dX3_turned_30 : decode cX3_turned 30 = .ok (.ireturn, 1) := by decide +kernel
set_option maxRecDepth 20000 in
theorem ggX3_empty_X0_isSilent : GoodIn wsX3_empty wsX0_isSilent := goodIn_r _ [7, 8, 9, 10, 11, 12, 6, 13, 14, 15, 16, 17, 18, 19, 20, 21, 22, 30, 31, 32, 33, 34, 35, 36] (by decide +kernel) (by decide +kernel)
set_option maxRecDepth 20000 in
theorem gX3_empty_X0_isSilent : GoodIn wsX3_empty (wsV RX3 181 RX0 yX0_isSilent wsX0_isSilent) := goodIn_app (goodIn_of _ (by decide +kernel)) ggX3_empty_X0_isSilent
theorem dX3_empty_0 : decode cX3_empty 0 = .ok (.aload_n 0, 1) := by decide +kernel
theorem dX3_empty_1 : decode cX3_empty 1 = .ok (.getfield 35, 3) := by decide +kernel
theorem dX3_empty_4 : decode cX3_empty 4 = .ok (.aload_n 0, 1) := by decide +kernel
theorem dX3_empty_5 : decode cX3_empty 5 = .ok (.getfield 26, 3) := by decide +kernel
theorem dX3_empty_8 : decode cX3_empty 8 = .ok (.iload_n 1, 1) := by decide +kernel
theorem dX3_empty_9 : decode cX3_empty 9 = .ok (.invokevirtual 181, 3) := by decide +kernel
theorem dX3_empty_12 : decode cX3_empty 12 = .ok (.ireturn, 1) := by decide +kernel
theorem dX3_isPing_0 : decode cX3_isPing 0 = .ok (.iload_n 0, 1) := by decide +kernel
theorem dX3_isPing_1 : decode cX3_isPing 1 = .ok (.ifCond .lt 13, 3) := by decide +kernel
theorem dX3_isPing_4 : decode cX3_isPing 4 = .ok (.iload_n 0, 1) := by decide +kernel
theorem dX3_isPing_5 : decode cX3_isPing 5 = .ok (.bipush 32, 2) := by decide +kernel
theorem dX3_isPing_7 : decode cX3_isPing 7 = .ok (.if_icmp .ge 7, 3) := by decide +kernel
theorem dX3_isPing_10 : decode cX3_isPing 10 = .ok (.iconst 1, 1) := by decide +kernel
theorem dX3_isPing_11 : decode cX3_isPing 11 = .ok (.goto 4, 3) := by decide +kernel
theorem dX3_isPing_14 : decode cX3_isPing 14 = .ok (.iconst 0, 1) := by decide +kernel
theorem dX3_isPing_15 : decode cX3_isPing 15 = .ok (.ireturn, 1) := by decide +kernel
theorem dX3_isFrequency_0 : decode cX3_isFrequency 0 = .ok (.iload_n 0, 1) := by decide +kernel
theorem dX3_isFrequency_1 : decode cX3_isFrequency 1 = .ok (.ifCond .lt 12, 3) := by decide +kernel
theorem dX3_isFrequency_4 : decode cX3_isFrequency 4 = .ok (.iload_n 0, 1) := by decide +kernel
theorem dX3_isFrequency_5 : decode cX3_isFrequency 5 = .ok (.iconst 4, 1) := by decide +kernel
theorem dX3_isFrequency_6 : decode cX3_isFrequency 6 = .ok (.if_icmp .ge 7, 3) := by decide +kernel
theorem dX3_isFrequency_9 : decode cX3_isFrequency 9 = .ok (.iconst 1, 1) := by decide +kernel
theorem dX3_isFrequency_10 : decode cX3_isFrequency 10 = .ok (.goto 4, 3) := by decide +kernel
theorem dX3_isFrequency_13 : decode cX3_isFrequency 13 = .ok (.iconst 0, 1) := by decide +kernel
theorem dX3_isFrequency_14 : decode cX3_isFrequency 14 = .ok (.ireturn, 1) := by decide +kernel
theorem dX3_within_0 : decode cX3_within 0 = .ok (.dload_n 0, 1) := by decide +kernel
theorem dX3_within_1 : decode cX3_within 1 = .ok (.dload_n 2, 1) := by decide +kernel
theorem dX3_within_2 : decode cX3_within 2 = .ok (.dcmp .l, 1) := by decide +kernel
theorem dX3_within_3 : decode cX3_within 3 = .ok (.ifCond .lt 14, 3) := by decide +kernel
theorem dX3_within_6 : decode cX3_within 6 = .ok (.dload_n 0, 1) := by decide +kernel
theorem dX3_within_7 : decode cX3_within 7 = .ok (.dload 4, 2) := by decide +kernel
theorem dX3_within_9 : decode cX3_within 9 = .ok (.dcmp .g, 1) := by decide +kernel
theorem dX3_within_10 : decode cX3_within 10 = .ok (.ifCond .gt 7, 3) := by decide +kernel
theorem dX3_within_13 : decode cX3_within 13 = .ok (.iconst 1, 1) := by decide +kernel
theorem dX3_within_14 : decode cX3_within 14 = .ok (.goto 4, 3) := by decide +kernel
theorem dX3_within_17 : decode cX3_within 17 = .ok (.iconst 0, 1) := by decide +kernel
theorem dX3_within_18 : decode cX3_within 18 = .ok (.ireturn, 1) := by decide +kernel
theorem dX3_over_0 : decode cX3_over 0 = .ok (.dload_n 2, 1) := by decide +kernel
theorem dX3_over_1 : decode cX3_over 1 = .ok (.dconst 0, 1) := by decide +kernel
theorem dX3_over_2 : decode cX3_over 2 = .ok (.dcmp .l, 1) := by decide +kernel
theorem dX3_over_3 : decode cX3_over 3 = .ok (.ifCond .le 9, 3) := by decide +kernel
theorem dX3_over_6 : decode cX3_over 6 = .ok (.dload_n 0, 1) := by decide +kernel
theorem dX3_over_7 : decode cX3_over 7 = .ok (.dload_n 2, 1) := by decide +kernel
theorem dX3_over_8 : decode cX3_over 8 = .ok (.ddiv, 1) := by decide +kernel
theorem dX3_over_9 : decode cX3_over 9 = .ok (.goto 4, 3) := by decide +kernel
theorem dX3_over_12 : decode cX3_over 12 = .ok (.dconst 0, 1) := by decide +kernel
theorem dX3_over_13 : decode cX3_over 13 = .ok (.dreturn, 1) := by decide +kernel
end
section
/-! ===== the links of nest mates, and the standard worlds of a contract ===== -/
def kN (U : State) : Prop := va_Nw (.methodLinkNest RX3 9 yX1_init RX3) U ∧ va_Nw (.methodLinkNest RX0 81 yX3_isFrequency RX3) U ∧ va_Nw (.methodLinkNest RX0 65 yX3_isPing RX3) U ∧ va_Nw (.methodLinkNest RX0 61 yX3_within RX3) U ∧ va_Nw (.methodLinkNest RX2 55 yX3_isPing RX3) U ∧ va_Nw (.methodLinkNest RX2 94 yX3_over RX3) U ∧ va_Nw (.methodLinkNest RX2 61 yX3_within RX3) U ∧ va_Nw (.methodLinkNest RX1 36 yX3_over RX3) U
theorem kN.vm {u U : State} (h : u.vm = U.vm) (k : kN u) : kN U := ⟨k.1.same rfl h, k.2.1.same rfl h, k.2.2.1.same rfl h, k.2.2.2.1.same rfl h, k.2.2.2.2.1.same rfl h, k.2.2.2.2.2.1.same rfl h, k.2.2.2.2.2.2.1.same rfl h, k.2.2.2.2.2.2.2.same rfl h⟩
theorem kN.warm {s U : State} (hW : s.WarmedH U.vm) (k : kN s) : kN U := ⟨va_Nw.warmM hW k.1, va_Nw.warmM hW k.2.1, va_Nw.warmM hW k.2.2.1, va_Nw.warmM hW k.2.2.2.1, va_Nw.warmM hW k.2.2.2.2.1, va_Nw.warmM hW k.2.2.2.2.2.1, va_Nw.warmM hW k.2.2.2.2.2.2.1, va_Nw.warmM hW k.2.2.2.2.2.2.2⟩
def kB (D : va_G) (tys : List (ClassId × FieldType)) (ws : va_W) (sz : Nat) (U : State) : Prop := kN U ∧ U.heap.size = sz ∧ va_P D vwCl ws U.heap ∧ va_K D vwCl tys U ∧ va_D (fun _ => True) ws
def kE (D : va_G) (tys : List (ClassId × FieldType)) (ws : va_W) (A : Nat → Prop) (_ : Unit) (t : State) : Prop := va_P D vwCl ws t.heap ∧ va_K D vwCl tys t ∧ va_D A ws
theorem kB_blind {D : va_G} {tys : List (ClassId × FieldType)} {ws : va_W} {sz : Nat} {As : List Value} : FrameBlind (va_Pc As (kB D tys ws sz)) := fun a U g mk q => by
  obtain ⟨q0, q1, q2, qP, qK, qD⟩ := q
  exact ⟨q0, kN.vm (u := U) (U := U.calling g mk a) rfl q1, q2, qP, va_K.moved (u := U) (U := U.calling g mk a) (Vm.Alike.refl U.vm) qK, qD⟩
theorem kS {s : State} {H : Heap} {D : va_G} {tys : List (ClassId × FieldType)} {wc : va_W} {As : List Value} {A : Nat → Prop} (hN : kN s) (hK : va_K D vwCl tys s) (hP : va_P D vwCl wc H) (hD : va_D A wc) : PreS s H (va_Pc As (kB D tys wc H.size)) As :=
  ⟨kB_blind, fun U hU hW => ⟨rfl, hN.warm hW, by rw [hU], by rw [hU]; exact hP, va_K.moved hW.alike hK, hD.weaken (fun _ _ _ _ => trivial)⟩⟩
theorem kV {s : State} {H : Heap} {D : va_G} {tys : List (ClassId × FieldType)} {wc : va_W} {As : List Value} {A : Nat → Prop} {b ci q0 : Nat} {q : vw_C} {fs : List Value} {C : String} (hN : kN s) (hK : va_K D vwCl tys s) (hP : va_P D vwCl wc H) (hD : va_D A wc) (hc : vwCl[ci]? = some q) (hq : q.1 = C) (he : wc[q0]? = some (b, .inr (ci, fs))) : PreV s H C b (va_Pc (.ref b :: As) (kB D tys wc H.size)) As :=
  ⟨kB_blind, hq ▸ va_recv hK hP hc he, fun U hU hW => ⟨rfl, hN.warm hW, by rw [hU], by rw [hU]; exact hP, va_K.moved hW.alike hK, hD.weaken (fun _ _ _ _ => trivial)⟩⟩
section KC
variable {p : Program} {l : Launch} {e : Env} {R : Room} {s : State} {m : MethodId} {args a : Array Value} {below : List Frame} {meth : Method} {c : Code} {H H0 : Heap} {locs : List Loc} {cells slots mc ms pc : Nat} {Q : State → Prop} {ls : Array Slot} {st0 rest : List Value} {D : va_G} {tys : List (ClassId × FieldType)} {ws wc wr w1 ws' : va_W} {A0 : Nat → Prop}
theorem kperm {H1 : Heap} (hP : va_P D vwCl (wr ++ w1) H1) (hD : va_D A0 (wr ++ w1)) (pm : List Nat) (hp : pm.map (fun i => (wr ++ w1)[i]?) = ws'.map some) (hpn : va_nd pm = true) : va_P D vwCl ws' H1 ∧ va_D A0 ws' := by
  refine ⟨?_, hD.sub pm hpn hp⟩
  intro k q hk
  have h1 : (ws'.map some)[k]? = some (some q) := by rw [List.getElem?_map, hk]; rfl
  rw [← hp, List.getElem?_map] at h1
  obtain ⟨i, hi, h2⟩ := Option.map_eq_some_iff.mp h1
  exact hP i q h2
theorem ki {post : Int32 → Unit → Prop} (hr : va_Run p l e R s m args below meth c H locs cells slots mc ms (F0 m pc ls st0) rest (va_Qi post (kE D tys w1 (va_A wc H.size)) (va_A wc H.size) a) (va_A wc H.size)) (hP : va_P D vwCl ws H) (hD : va_D A0 ws) (hS : va_S A0 H0 H locs) (hA : ∀ q, H0.size ≤ q → A0 q) (isC isR pm : List Nat) (hC : isC.map (fun i => ws[i]?) = wc.map some) (hR : isR.map (fun i => ws[i]?) = wr.map some) (hn : va_nd isR = true) (hdis : ∀ i ∈ isR, i ∉ isC) (hp : pm.map (fun i => (wr ++ w1)[i]?) = ws'.map some) (hpn : va_nd pm = true)
    (kk : ∀ (r : Int32) (H1 : Heap) (locs1 : List Loc), post r () → va_P D vwCl ws' H1 → va_D A0 ws' → va_S A0 H0 H1 locs1 → W p l e R s m args below meth c H1 locs1 (cells + mc) (slots + ms) Q (F0 m (pc + 3) ls (.int r :: rest))) : W p l e R s m args below meth c H locs cells slots Q (F0 m pc ls st0) := by
  have hF := va_free (wc := wc) hD hS hA isC hC
  refine va_calli hr hS (fun q _ h => hF q h) hF (fun r u t H1 locs1 ht hvm hw hB hz1 hk1 hS1 => ?_)
  obtain ⟨hP1, hK1, hD1⟩ := hB
  rw [ht] at hP1
  obtain ⟨hP2, hD2⟩ := va_join hP hD isC isR hC hR hn hdis hk1 hF hP1 hD1
  obtain ⟨hP3, hD3⟩ := kperm hP2 hD2 pm hp hpn
  exact kk r H1 locs1 hw hP3 hD3 hS1
theorem kl {post : Int64 → Unit → Prop} (hr : va_Run p l e R s m args below meth c H locs cells slots mc ms (F0 m pc ls st0) rest (va_Ql post (kE D tys w1 (va_A wc H.size)) (va_A wc H.size) a) (va_A wc H.size)) (hP : va_P D vwCl ws H) (hD : va_D A0 ws) (hS : va_S A0 H0 H locs) (hA : ∀ q, H0.size ≤ q → A0 q) (isC isR pm : List Nat) (hC : isC.map (fun i => ws[i]?) = wc.map some) (hR : isR.map (fun i => ws[i]?) = wr.map some) (hn : va_nd isR = true) (hdis : ∀ i ∈ isR, i ∉ isC) (hp : pm.map (fun i => (wr ++ w1)[i]?) = ws'.map some) (hpn : va_nd pm = true)
    (kk : ∀ (r : Int64) (H1 : Heap) (locs1 : List Loc), post r () → va_P D vwCl ws' H1 → va_D A0 ws' → va_S A0 H0 H1 locs1 → W p l e R s m args below meth c H1 locs1 (cells + mc) (slots + ms) Q (F0 m (pc + 3) ls (.long r :: rest))) : W p l e R s m args below meth c H locs cells slots Q (F0 m pc ls st0) := by
  have hF := va_free (wc := wc) hD hS hA isC hC
  refine va_calll hr hS (fun q _ h => hF q h) hF (fun r u t H1 locs1 ht hvm hw hB hz1 hk1 hS1 => ?_)
  obtain ⟨hP1, hK1, hD1⟩ := hB
  rw [ht] at hP1
  obtain ⟨hP2, hD2⟩ := va_join hP hD isC isR hC hR hn hdis hk1 hF hP1 hD1
  obtain ⟨hP3, hD3⟩ := kperm hP2 hD2 pm hp hpn
  exact kk r H1 locs1 hw hP3 hD3 hS1
theorem kd {post : UInt64 → Unit → Prop} (hr : va_Run p l e R s m args below meth c H locs cells slots mc ms (F0 m pc ls st0) rest (va_Qd post (kE D tys w1 (va_A wc H.size)) (va_A wc H.size) a) (va_A wc H.size)) (hP : va_P D vwCl ws H) (hD : va_D A0 ws) (hS : va_S A0 H0 H locs) (hA : ∀ q, H0.size ≤ q → A0 q) (isC isR pm : List Nat) (hC : isC.map (fun i => ws[i]?) = wc.map some) (hR : isR.map (fun i => ws[i]?) = wr.map some) (hn : va_nd isR = true) (hdis : ∀ i ∈ isR, i ∉ isC) (hp : pm.map (fun i => (wr ++ w1)[i]?) = ws'.map some) (hpn : va_nd pm = true)
    (kk : ∀ (r : UInt64) (H1 : Heap) (locs1 : List Loc), post r () → va_P D vwCl ws' H1 → va_D A0 ws' → va_S A0 H0 H1 locs1 → W p l e R s m args below meth c H1 locs1 (cells + mc) (slots + ms) Q (F0 m (pc + 3) ls (.double r :: rest))) : W p l e R s m args below meth c H locs cells slots Q (F0 m pc ls st0) := by
  have hF := va_free (wc := wc) hD hS hA isC hC
  refine va_calld hr hS (fun q _ h => hF q h) hF (fun r u t H1 locs1 ht hvm hw hB hz1 hk1 hS1 => ?_)
  obtain ⟨hP1, hK1, hD1⟩ := hB
  rw [ht] at hP1
  obtain ⟨hP2, hD2⟩ := va_join hP hD isC isR hC hR hn hdis hk1 hF hP1 hD1
  obtain ⟨hP3, hD3⟩ := kperm hP2 hD2 pm hp hpn
  exact kk r H1 locs1 hw hP3 hD3 hS1
theorem kv {post : Unit → Prop} (hr : va_Run p l e R s m args below meth c H locs cells slots mc ms (F0 m pc ls st0) rest (va_Qv post (kE D tys w1 (va_A wc H.size)) (va_A wc H.size) a) (va_A wc H.size)) (hP : va_P D vwCl ws H) (hD : va_D A0 ws) (hS : va_S A0 H0 H locs) (hA : ∀ q, H0.size ≤ q → A0 q) (isC isR pm : List Nat) (hC : isC.map (fun i => ws[i]?) = wc.map some) (hR : isR.map (fun i => ws[i]?) = wr.map some) (hn : va_nd isR = true) (hdis : ∀ i ∈ isR, i ∉ isC) (hp : pm.map (fun i => (wr ++ w1)[i]?) = ws'.map some) (hpn : va_nd pm = true)
    (kk : ∀ (H1 : Heap) (locs1 : List Loc), va_P D vwCl ws' H1 → va_D A0 ws' → va_S A0 H0 H1 locs1 → W p l e R s m args below meth c H1 locs1 (cells + mc) (slots + ms) Q (F0 m (pc + 3) ls rest)) : W p l e R s m args below meth c H locs cells slots Q (F0 m pc ls st0) := by
  have hF := va_free (wc := wc) hD hS hA isC hC
  refine va_callv hr hS (fun q _ h => hF q h) hF (fun u t H1 locs1 ht hvm hw hB hz1 hk1 hS1 => ?_)
  obtain ⟨hP1, hK1, hD1⟩ := hB
  rw [ht] at hP1
  obtain ⟨hP2, hD2⟩ := va_join hP hD isC isR hC hR hn hdis hk1 hF hP1 hD1
  obtain ⟨hP3, hD3⟩ := kperm hP2 hD2 pm hp hpn
  exact kk H1 locs1 hP3 hD3 hS1
theorem kiE {F : Int32} (hr : va_Run p l e R s m args below meth c H locs cells slots mc ms (F0 m pc ls st0) rest (va_Qi (fun (r : Int32) (_ : Unit) => r = F) (kE D tys w1 (va_A wc H.size)) (va_A wc H.size) a) (va_A wc H.size)) (hP : va_P D vwCl ws H) (hD : va_D A0 ws) (hS : va_S A0 H0 H locs) (hA : ∀ q, H0.size ≤ q → A0 q) (isC isR pm : List Nat) (hC : isC.map (fun i => ws[i]?) = wc.map some) (hR : isR.map (fun i => ws[i]?) = wr.map some) (hn : va_nd isR = true) (hdis : ∀ i ∈ isR, i ∉ isC) (hp : pm.map (fun i => (wr ++ w1)[i]?) = ws'.map some) (hpn : va_nd pm = true)
    (kk : ∀ (H1 : Heap) (locs1 : List Loc), va_P D vwCl ws' H1 → va_D A0 ws' → va_S A0 H0 H1 locs1 → W p l e R s m args below meth c H1 locs1 (cells + mc) (slots + ms) Q (F0 m (pc + 3) ls (.int F :: rest))) : W p l e R s m args below meth c H locs cells slots Q (F0 m pc ls st0) :=
  ki hr hP hD hS hA isC isR pm hC hR hn hdis hp hpn (fun r H1 locs1 h a b c => by have h : r = F := h; rw [h]; exact kk H1 locs1 a b c)
theorem klE {F : Int64} (hr : va_Run p l e R s m args below meth c H locs cells slots mc ms (F0 m pc ls st0) rest (va_Ql (fun (r : Int64) (_ : Unit) => r = F) (kE D tys w1 (va_A wc H.size)) (va_A wc H.size) a) (va_A wc H.size)) (hP : va_P D vwCl ws H) (hD : va_D A0 ws) (hS : va_S A0 H0 H locs) (hA : ∀ q, H0.size ≤ q → A0 q) (isC isR pm : List Nat) (hC : isC.map (fun i => ws[i]?) = wc.map some) (hR : isR.map (fun i => ws[i]?) = wr.map some) (hn : va_nd isR = true) (hdis : ∀ i ∈ isR, i ∉ isC) (hp : pm.map (fun i => (wr ++ w1)[i]?) = ws'.map some) (hpn : va_nd pm = true)
    (kk : ∀ (H1 : Heap) (locs1 : List Loc), va_P D vwCl ws' H1 → va_D A0 ws' → va_S A0 H0 H1 locs1 → W p l e R s m args below meth c H1 locs1 (cells + mc) (slots + ms) Q (F0 m (pc + 3) ls (.long F :: rest))) : W p l e R s m args below meth c H locs cells slots Q (F0 m pc ls st0) :=
  kl hr hP hD hS hA isC isR pm hC hR hn hdis hp hpn (fun r H1 locs1 h a b c => by have h : r = F := h; rw [h]; exact kk H1 locs1 a b c)
theorem kdE {F : UInt64} (hr : va_Run p l e R s m args below meth c H locs cells slots mc ms (F0 m pc ls st0) rest (va_Qd (fun (r : UInt64) (_ : Unit) => r = F) (kE D tys w1 (va_A wc H.size)) (va_A wc H.size) a) (va_A wc H.size)) (hP : va_P D vwCl ws H) (hD : va_D A0 ws) (hS : va_S A0 H0 H locs) (hA : ∀ q, H0.size ≤ q → A0 q) (isC isR pm : List Nat) (hC : isC.map (fun i => ws[i]?) = wc.map some) (hR : isR.map (fun i => ws[i]?) = wr.map some) (hn : va_nd isR = true) (hdis : ∀ i ∈ isR, i ∉ isC) (hp : pm.map (fun i => (wr ++ w1)[i]?) = ws'.map some) (hpn : va_nd pm = true)
    (kk : ∀ (H1 : Heap) (locs1 : List Loc), va_P D vwCl ws' H1 → va_D A0 ws' → va_S A0 H0 H1 locs1 → W p l e R s m args below meth c H1 locs1 (cells + mc) (slots + ms) Q (F0 m (pc + 3) ls (.double F :: rest))) : W p l e R s m args below meth c H locs cells slots Q (F0 m pc ls st0) :=
  kd hr hP hD hS hA isC isR pm hC hR hn hdis hp hpn (fun r H1 locs1 h a b c => by have h : r = F := h; rw [h]; exact kk H1 locs1 a b c)
theorem kzE {F : Int32} (hr : va_Run p l e R s m args below meth c H locs cells slots mc ms (F0 m pc ls st0) rest (va_Qi (fun (r : Int32) (_ : Unit) => r = F ∧ (r = 0 ∨ r = 1)) (kE D tys w1 (va_A wc H.size)) (va_A wc H.size) a) (va_A wc H.size)) (hP : va_P D vwCl ws H) (hD : va_D A0 ws) (hS : va_S A0 H0 H locs) (hA : ∀ q, H0.size ≤ q → A0 q) (isC isR pm : List Nat) (hC : isC.map (fun i => ws[i]?) = wc.map some) (hR : isR.map (fun i => ws[i]?) = wr.map some) (hn : va_nd isR = true) (hdis : ∀ i ∈ isR, i ∉ isC) (hp : pm.map (fun i => (wr ++ w1)[i]?) = ws'.map some) (hpn : va_nd pm = true)
    (kk : ∀ (H1 : Heap) (locs1 : List Loc), (F = 0 ∨ F = 1) → va_P D vwCl ws' H1 → va_D A0 ws' → va_S A0 H0 H1 locs1 → W p l e R s m args below meth c H1 locs1 (cells + mc) (slots + ms) Q (F0 m (pc + 3) ls (.int F :: rest))) : W p l e R s m args below meth c H locs cells slots Q (F0 m pc ls st0) :=
  ki hr hP hD hS hA isC isR pm hC hR hn hdis hp hpn (fun r H1 locs1 h a b c => by obtain ⟨h1, h2⟩ := h; have h1 : r = F := h1; rw [h1] at h2 ⊢; exact kk H1 locs1 h2 a b c)
end KC
abbrev mI (l : Launch) (y : MethodName) (wo : List Cond) (rm : Room) (D : va_G) (tys : List (ClassId × FieldType)) (As : List Value) (wd wd' : va_W) (sz : Nat) (F : Int32) (mc ms : Nat) : Prop := Met l y wo rm (va_Pc As (kB D tys wd sz)) (va_Qi (fun (r : Int32) (_ : Unit) => r = F) (kE D tys wd' (va_A wd sz)) (va_A wd sz)) mc ms (va_A wd sz)
abbrev mZ (l : Launch) (y : MethodName) (wo : List Cond) (rm : Room) (D : va_G) (tys : List (ClassId × FieldType)) (As : List Value) (wd wd' : va_W) (sz : Nat) (F : Int32) (mc ms : Nat) : Prop := Met l y wo rm (va_Pc As (kB D tys wd sz)) (va_Qi (fun (r : Int32) (_ : Unit) => r = F ∧ (r = 0 ∨ r = 1)) (kE D tys wd' (va_A wd sz)) (va_A wd sz)) mc ms (va_A wd sz)
abbrev mL (l : Launch) (y : MethodName) (wo : List Cond) (rm : Room) (D : va_G) (tys : List (ClassId × FieldType)) (As : List Value) (wd wd' : va_W) (sz : Nat) (F : Int64) (mc ms : Nat) : Prop := Met l y wo rm (va_Pc As (kB D tys wd sz)) (va_Ql (fun (r : Int64) (_ : Unit) => r = F) (kE D tys wd' (va_A wd sz)) (va_A wd sz)) mc ms (va_A wd sz)
abbrev mD (l : Launch) (y : MethodName) (wo : List Cond) (rm : Room) (D : va_G) (tys : List (ClassId × FieldType)) (As : List Value) (wd wd' : va_W) (sz : Nat) (F : UInt64) (mc ms : Nat) : Prop := Met l y wo rm (va_Pc As (kB D tys wd sz)) (va_Qd (fun (r : UInt64) (_ : Unit) => r = F) (kE D tys wd' (va_A wd sz)) (va_A wd sz)) mc ms (va_A wd sz)
abbrev mV (l : Launch) (y : MethodName) (wo : List Cond) (rm : Room) (D : va_G) (tys : List (ClassId × FieldType)) (As : List Value) (wd wd' : va_W) (sz : Nat) (mc ms : Nat) : Prop := Met l y wo rm (va_Pc As (kB D tys wd sz)) (va_Qv (fun (_ : Unit) => True) (kE D tys wd' (va_A wd sz)) (va_A wd sz)) mc ms (va_A wd sz)
theorem nar_z {v : Int32} (h : v = 0 ∨ v = 1) : narrow .boolean (.int v) = .int v := by rcases h with rfl | rfl <;> rfl
theorem vnar_z {v : Int32} (h : v = 0 ∨ v = 1) : vp_nar .boolean v = v := by rcases h with rfl | rfl <;> rfl
end
section
abbrev kT (cyD cyI cyJ cyZ : ClassId) : List (ClassId × FieldType) := [(cyD, .double), (cyI, .int), (cyJ, .long), (cyZ, .boolean)]
abbrev wE (cyD cyI cyJ cyZ : ClassId) (ae av ab : Nat) (sn : Nat) (me : UInt64) (vf : Nat → UInt64) (lf : Nat → Int32) (sp : UInt64) (sb : UInt64) (no : UInt64) : va_W := [(ae, .inr (0, [.int (nI sn), .double me, .ref av, .ref ab, .double sp, .double sb, .double no])), (av, .inl (cyD, 128 * sn, .inr (.inr (.inr (.inl vf))))), (ab, .inl (cyZ, 32, .inl lf))]
abbrev wT (cyD cyI cyJ cyZ : ClassId) (at_ a1 a2 : Nat) (rn : Int32) (sf : Nat → UInt64) (nf : Nat → UInt64) : va_W := [(at_, .inr (1, [.ref a1, .ref a2, .int rn])), (a1, .inl (cyD, 20, .inr (.inr (.inr (.inl sf))))), (a2, .inl (cyD, 20, .inr (.inr (.inr (.inl nf)))))]
abbrev wW (cyD cyI cyJ cyZ : ClassId) (aw ad ak ar au ae av ab : Nat) (df : Nat → UInt64) (kf : Nat → Int32) (rf : Nat → Int32) (uf : Nat → Int64) (st : Int32) (fw : Int32) (fo : Int32) (sn : Nat) (me : UInt64) (vf : Nat → UInt64) (lf : Nat → Int32) (sp : UInt64) (sb : UInt64) (no : UInt64) : va_W := [(aw, .inr (2, [.ref ae, .ref ad, .ref ak, .ref ar, .ref au, .int st, .int fw, .int fo])), (ad, .inl (cyD, 32, .inr (.inr (.inr (.inl df))))), (ak, .inl (cyZ, 32, .inl kf)), (ar, .inl (cyI, 32, .inl rf)), (au, .inl (cyJ, 32 * sn, .inr (.inl uf))), (ae, .inr (0, [.int (nI sn), .double me, .ref av, .ref ab, .double sp, .double sb, .double no])), (av, .inl (cyD, 128 * sn, .inr (.inr (.inr (.inl vf))))), (ab, .inl (cyZ, 32, .inl lf))]
abbrev wB (cyD cyI cyJ cyZ : ClassId) (ax ai ag ats a1s a2s atb a1b a2b aw ad ak ar au ae av ab : Nat) (ch : Int32) (tf : Nat → UInt64) (gf : Nat → UInt64) (rns : Int32) (sfs : Nat → UInt64) (nfs : Nat → UInt64) (rnb : Int32) (sfb : Nat → UInt64) (nfb : Nat → UInt64) (df : Nat → UInt64) (kf : Nat → Int32) (rf : Nat → Int32) (uf : Nat → Int64) (st : Int32) (fw : Int32) (fo : Int32) (sn : Nat) (me : UInt64) (vf : Nat → UInt64) (lf : Nat → Int32) (sp : UInt64) (sb : UInt64) (no : UInt64) : va_W := [(ax, .inr (3, [.ref ae, .ref aw, .ref ats, .ref atb, .ref ai, .ref ag, .int ch])), (ai, .inl (cyD, 32, .inr (.inr (.inr (.inl tf))))), (ag, .inl (cyD, 32, .inr (.inr (.inr (.inl gf))))), (ats, .inr (1, [.ref a1s, .ref a2s, .int rns])), (a1s, .inl (cyD, 20, .inr (.inr (.inr (.inl sfs))))), (a2s, .inl (cyD, 20, .inr (.inr (.inr (.inl nfs))))), (atb, .inr (1, [.ref a1b, .ref a2b, .int rnb])), (a1b, .inl (cyD, 20, .inr (.inr (.inr (.inl sfb))))), (a2b, .inl (cyD, 20, .inr (.inr (.inr (.inl nfb))))), (aw, .inr (2, [.ref ae, .ref ad, .ref ak, .ref ar, .ref au, .int st, .int fw, .int fo])), (ad, .inl (cyD, 32, .inr (.inr (.inr (.inl df))))), (ak, .inl (cyZ, 32, .inl kf)), (ar, .inl (cyI, 32, .inl rf)), (au, .inl (cyJ, 32 * sn, .inr (.inl uf))), (ae, .inr (0, [.int (nI sn), .double me, .ref av, .ref ab, .double sp, .double sb, .double no])), (av, .inl (cyD, 128 * sn, .inr (.inr (.inr (.inl vf))))), (ab, .inl (cyZ, 32, .inl lf))]
abbrev wM (cyD cyI cyJ cyZ : ClassId) (am bv bt bl be bd bi bg bsd bsv bbd bbv br bu bw : Nat) (mn : Nat) (mm : UInt64) (mch : Int32) (msp : UInt64) (msb : UInt64) (mno : UInt64) (msn : Int32) (mbn : Int32) (mhr : Int32) (mro : Int32) (mv : Nat → UInt64) (mt : Nat → Int32) (ml : Nat → Int32) (med : Nat → Int32) (md : Nat → UInt64) (mi : Nat → UInt64) (mg : Nat → UInt64) (msd : Nat → UInt64) (msv : Nat → UInt64) (mbd : Nat → UInt64) (mbv : Nat → UInt64) (mr : Nat → Int32) (mu : Nat → Int64) (mw : Nat → Int32) : va_W := [(am, .inr (4, [.int (nI mn), .double mm, .ref bv, .ref bt, .ref bl, .ref be, .ref bd, .ref bi, .ref bg, .int mch, .double msp, .double msb, .double mno, .int msn, .ref bsd, .ref bsv, .int mbn, .ref bbd, .ref bbv, .int mhr, .int mro, .ref br, .ref bu, .ref bw])), (bv, .inl (cyD, 8192, .inr (.inr (.inr (.inl mv))))), (bt, .inl (cyZ, 8192, .inl mt)), (bl, .inl (cyZ, 32, .inl ml)), (be, .inl (cyZ, 32, .inl med)), (bd, .inl (cyD, 32, .inr (.inr (.inr (.inl md))))), (bi, .inl (cyD, 32, .inr (.inr (.inr (.inl mi))))), (bg, .inl (cyD, 32, .inr (.inr (.inr (.inl mg))))), (bsd, .inl (cyD, 21, .inr (.inr (.inr (.inl msd))))), (bsv, .inl (cyD, 21, .inr (.inr (.inr (.inl msv))))), (bbd, .inl (cyD, 21, .inr (.inr (.inr (.inl mbd))))), (bbv, .inl (cyD, 21, .inr (.inr (.inr (.inl mbv))))), (br, .inl (cyI, 32, .inl mr)), (bu, .inl (cyJ, 2048, .inr (.inl mu))), (bw, .inl (cyI, 32, .inl mw))]
def fX3_isPing  (p1 : Int32) : Int32 := if p1 < 0 then (0 : Int32) else (if (32 : Int32) ≤ p1 then (0 : Int32) else ((1 : Int32)))
set_option maxHeartbeats 4000000 in
set_option maxRecDepth 100000 in
theorem c_X3_isPing {l : Launch} {D : va_G} {cyD cyI cyJ cyZ : ClassId} (sz : Nat) (p1 : Int32)  : mZ l yX3_isPing wsX3_isPing ({ frames := 0, cells := 0, slots := 0, locals := 0 } : Room) D (kT cyD cyI cyJ cyZ) [.int p1] [] [] sz (fX3_isPing p1) 0 0 := by
  refine Met.ofW (cc := cX3_isPing) (maxL := 1) (ret := (some .boolean)) (by decide) rfl ?_
  intro p e s m args below meth c s₁ B hml hv
  obtain ⟨rfl, hN, hsz, hP, hK, hD0⟩ := hv
  have hx := B.exec
  have hb := B.bytes
  have hr := B.returns
  have hts := atoms_spec (ws := wsX3_isPing) B.pre
  have hown : s.vm.findClass RX3 = some m.cls := findClass_of_methodNamed B.named
  have hlocks := B.notSynchronized
  subst hsz
  have hD := hD0.self (sz := s.heap.size)
  generalize hAe : va_A [] s.heap.size = A at hD ⊢
  have hA : ∀ q : Nat, s.heap.size ≤ q → A q := fun q h => by rw [← hAe]; exact Or.inr h
  have hS : va_S A s.heap s.heap [] := va_S.rf
  have hP : va_P D vwCl [] s.heap := hP
  have hl := lv_entry [.int p1] (n := 1) (Nat.le_of_ble_eq_true rfl)
  rw [lg_entry_eq]
  generalize (lg_sl [.int p1] ++ List.replicate (1 - (lg_sl [.int p1]).length) Slot.unset).toArray = ls at hl ⊢
  have hl : lv_has ls 1 [(0, .int p1)] := hl
  obtain ⟨H, hHe⟩ : ∃ H : Heap, H = s.heap := ⟨_, rfl⟩
  have hP : va_P D vwCl [] H := by rw [hHe]; exact hP
  have hS : va_S A s.heap H [] := by rw [hHe]; exact hS
  rw [← hHe]
  refine lv_iload_n hx hb dX3_isPing_0 rfl (lv_at hl 0 rfl) ?_
  refine lv_if_lt (tgt := 14) hx hb dX3_isPing_1 (by decide) (fun c_1 => ?_) (fun c_1 => ?_)
  · refine lv_iconst (v := 0) hx hb dX3_isPing_14 (by decide) ?_
    have hF9 : (fX3_isPing p1) = (0 : Int32) := by rw [fX3_isPing, if_pos c_1]
    have hP9 : va_P D vwCl [] H := hP
    have hD9 : va_D A [] := hD
    exact W.zret (v := (0 : Int32)) hx hb hr (nar_z (Or.inl rfl)) (fun t ht hW => ⟨⟨(0 : Int32), (), rfl, ⟨(by rw [hF9]), (Or.inl rfl)⟩, by rw [ht]; exact hP9, va_K.moved hW.alike hK, hD9⟩, hS.F ht⟩) hS.2.2 dX3_isPing_15
  refine lv_iload_n hx hb dX3_isPing_4 rfl (lv_at hl 0 rfl) ?_
  refine lv_bipush (v := 32) hx hb dX3_isPing_5 (by decide) ?_
  refine lv_icmp_ge (tgt := 14) hx hb dX3_isPing_7 (by decide) (fun c_7 => ?_) (fun c_7 => ?_)
  · refine lv_iconst (v := 0) hx hb dX3_isPing_14 (by decide) ?_
    have hF9 : (fX3_isPing p1) = (0 : Int32) := by rw [fX3_isPing, if_neg c_1, if_pos c_7]
    have hP9 : va_P D vwCl [] H := hP
    have hD9 : va_D A [] := hD
    exact W.zret (v := (0 : Int32)) hx hb hr (nar_z (Or.inl rfl)) (fun t ht hW => ⟨⟨(0 : Int32), (), rfl, ⟨(by rw [hF9]), (Or.inl rfl)⟩, by rw [ht]; exact hP9, va_K.moved hW.alike hK, hD9⟩, hS.F ht⟩) hS.2.2 dX3_isPing_15
  refine lv_iconst (v := 1) hx hb dX3_isPing_10 (by decide) ?_
  refine lv_goto (tgt := 15) hx hb dX3_isPing_11 (by decide) ?_
  have hF9 : (fX3_isPing p1) = (1 : Int32) := by rw [fX3_isPing, if_neg c_1, if_neg c_7]
  have hP9 : va_P D vwCl [] H := hP
  have hD9 : va_D A [] := hD
  exact W.zret (v := (1 : Int32)) hx hb hr (nar_z (Or.inr rfl)) (fun t ht hW => ⟨⟨(1 : Int32), (), rfl, ⟨(by rw [hF9]), (Or.inr rfl)⟩, by rw [ht]; exact hP9, va_K.moved hW.alike hK, hD9⟩, hS.F ht⟩) hS.2.2 dX3_isPing_15
def fX3_isFrequency  (p1 : Int32) : Int32 := if p1 < 0 then (0 : Int32) else (if (4 : Int32) ≤ p1 then (0 : Int32) else ((1 : Int32)))
set_option maxHeartbeats 4000000 in
set_option maxRecDepth 100000 in
theorem c_X3_isFrequency {l : Launch} {D : va_G} {cyD cyI cyJ cyZ : ClassId} (sz : Nat) (p1 : Int32)  : mZ l yX3_isFrequency wsX3_isFrequency ({ frames := 0, cells := 0, slots := 0, locals := 0 } : Room) D (kT cyD cyI cyJ cyZ) [.int p1] [] [] sz (fX3_isFrequency p1) 0 0 := by
  refine Met.ofW (cc := cX3_isFrequency) (maxL := 1) (ret := (some .boolean)) (by decide) rfl ?_
  intro p e s m args below meth c s₁ B hml hv
  obtain ⟨rfl, hN, hsz, hP, hK, hD0⟩ := hv
  have hx := B.exec
  have hb := B.bytes
  have hr := B.returns
  have hts := atoms_spec (ws := wsX3_isFrequency) B.pre
  have hown : s.vm.findClass RX3 = some m.cls := findClass_of_methodNamed B.named
  have hlocks := B.notSynchronized
  subst hsz
  have hD := hD0.self (sz := s.heap.size)
  generalize hAe : va_A [] s.heap.size = A at hD ⊢
  have hA : ∀ q : Nat, s.heap.size ≤ q → A q := fun q h => by rw [← hAe]; exact Or.inr h
  have hS : va_S A s.heap s.heap [] := va_S.rf
  have hP : va_P D vwCl [] s.heap := hP
  have hl := lv_entry [.int p1] (n := 1) (Nat.le_of_ble_eq_true rfl)
  rw [lg_entry_eq]
  generalize (lg_sl [.int p1] ++ List.replicate (1 - (lg_sl [.int p1]).length) Slot.unset).toArray = ls at hl ⊢
  have hl : lv_has ls 1 [(0, .int p1)] := hl
  obtain ⟨H, hHe⟩ : ∃ H : Heap, H = s.heap := ⟨_, rfl⟩
  have hP : va_P D vwCl [] H := by rw [hHe]; exact hP
  have hS : va_S A s.heap H [] := by rw [hHe]; exact hS
  rw [← hHe]
  refine lv_iload_n hx hb dX3_isFrequency_0 rfl (lv_at hl 0 rfl) ?_
  refine lv_if_lt (tgt := 13) hx hb dX3_isFrequency_1 (by decide) (fun c_1 => ?_) (fun c_1 => ?_)
  · refine lv_iconst (v := 0) hx hb dX3_isFrequency_13 (by decide) ?_
    have hF9 : (fX3_isFrequency p1) = (0 : Int32) := by rw [fX3_isFrequency, if_pos c_1]
    have hP9 : va_P D vwCl [] H := hP
    have hD9 : va_D A [] := hD
    exact W.zret (v := (0 : Int32)) hx hb hr (nar_z (Or.inl rfl)) (fun t ht hW => ⟨⟨(0 : Int32), (), rfl, ⟨(by rw [hF9]), (Or.inl rfl)⟩, by rw [ht]; exact hP9, va_K.moved hW.alike hK, hD9⟩, hS.F ht⟩) hS.2.2 dX3_isFrequency_14
  refine lv_iload_n hx hb dX3_isFrequency_4 rfl (lv_at hl 0 rfl) ?_
  refine lv_iconst (v := 4) hx hb dX3_isFrequency_5 (by decide) ?_
  refine lv_icmp_ge (tgt := 13) hx hb dX3_isFrequency_6 (by decide) (fun c_6 => ?_) (fun c_6 => ?_)
  · refine lv_iconst (v := 0) hx hb dX3_isFrequency_13 (by decide) ?_
    have hF9 : (fX3_isFrequency p1) = (0 : Int32) := by rw [fX3_isFrequency, if_neg c_1, if_pos c_6]
    have hP9 : va_P D vwCl [] H := hP
    have hD9 : va_D A [] := hD
    exact W.zret (v := (0 : Int32)) hx hb hr (nar_z (Or.inl rfl)) (fun t ht hW => ⟨⟨(0 : Int32), (), rfl, ⟨(by rw [hF9]), (Or.inl rfl)⟩, by rw [ht]; exact hP9, va_K.moved hW.alike hK, hD9⟩, hS.F ht⟩) hS.2.2 dX3_isFrequency_14
  refine lv_iconst (v := 1) hx hb dX3_isFrequency_9 (by decide) ?_
  refine lv_goto (tgt := 14) hx hb dX3_isFrequency_10 (by decide) ?_
  have hF9 : (fX3_isFrequency p1) = (1 : Int32) := by rw [fX3_isFrequency, if_neg c_1, if_neg c_6]
  have hP9 : va_P D vwCl [] H := hP
  have hD9 : va_D A [] := hD
  exact W.zret (v := (1 : Int32)) hx hb hr (nar_z (Or.inr rfl)) (fun t ht hW => ⟨⟨(1 : Int32), (), rfl, ⟨(by rw [hF9]), (Or.inr rfl)⟩, by rw [ht]; exact hP9, va_K.moved hW.alike hK, hD9⟩, hS.F ht⟩) hS.2.2 dX3_isFrequency_14
def fX3_within  (p1 : UInt64) (p2 : UInt64) (p3 : UInt64) : Int32 := if (Op.cmpValue (FP.dcmp p1 p2) CmpOp.l) < 0 then (0 : Int32) else (if 0 < (Op.cmpValue (FP.dcmp p1 p3) CmpOp.g) then (0 : Int32) else ((1 : Int32)))
set_option maxHeartbeats 4000000 in
set_option maxRecDepth 100000 in
theorem c_X3_within {l : Launch} {D : va_G} {cyD cyI cyJ cyZ : ClassId} (sz : Nat) (p1 : UInt64) (p2 : UInt64) (p3 : UInt64)  : mZ l yX3_within wsX3_within ({ frames := 0, cells := 0, slots := 0, locals := 0 } : Room) D (kT cyD cyI cyJ cyZ) [.double p1, .double p2, .double p3] [] [] sz (fX3_within p1 p2 p3) 0 0 := by
  refine Met.ofW (cc := cX3_within) (maxL := 6) (ret := (some .boolean)) (by decide) rfl ?_
  intro p e s m args below meth c s₁ B hml hv
  obtain ⟨rfl, hN, hsz, hP, hK, hD0⟩ := hv
  have hx := B.exec
  have hb := B.bytes
  have hr := B.returns
  have hts := atoms_spec (ws := wsX3_within) B.pre
  have hown : s.vm.findClass RX3 = some m.cls := findClass_of_methodNamed B.named
  have hlocks := B.notSynchronized
  subst hsz
  have hD := hD0.self (sz := s.heap.size)
  generalize hAe : va_A [] s.heap.size = A at hD ⊢
  have hA : ∀ q : Nat, s.heap.size ≤ q → A q := fun q h => by rw [← hAe]; exact Or.inr h
  have hS : va_S A s.heap s.heap [] := va_S.rf
  have hP : va_P D vwCl [] s.heap := hP
  have hl := lv_entry [.double p1, .double p2, .double p3] (n := 6) (Nat.le_of_ble_eq_true rfl)
  rw [lg_entry_eq]
  generalize (lg_sl [.double p1, .double p2, .double p3] ++ List.replicate (6 - (lg_sl [.double p1, .double p2, .double p3]).length) Slot.unset).toArray = ls at hl ⊢
  have hl : lv_has ls 6 [(0, .double p1), (2, .double p2), (4, .double p3)] := hl
  obtain ⟨H, hHe⟩ : ∃ H : Heap, H = s.heap := ⟨_, rfl⟩
  have hP : va_P D vwCl [] H := by rw [hHe]; exact hP
  have hS : va_S A s.heap H [] := by rw [hHe]; exact hS
  rw [← hHe]
  refine lv_dload_n hx hb dX3_within_0 rfl (lv_at hl 0 rfl) ?_
  refine lv_dload_n hx hb dX3_within_1 rfl (lv_at hl 1 rfl) ?_
  refine lv_dcmp hx hb dX3_within_2 ?_
  refine lv_if_lt (tgt := 17) hx hb dX3_within_3 (by decide) (fun c_3 => ?_) (fun c_3 => ?_)
  · refine lv_iconst (v := 0) hx hb dX3_within_17 (by decide) ?_
    have hF9 : (fX3_within p1 p2 p3) = (0 : Int32) := by rw [fX3_within, if_pos c_3]
    have hP9 : va_P D vwCl [] H := hP
    have hD9 : va_D A [] := hD
    exact W.zret (v := (0 : Int32)) hx hb hr (nar_z (Or.inl rfl)) (fun t ht hW => ⟨⟨(0 : Int32), (), rfl, ⟨(by rw [hF9]), (Or.inl rfl)⟩, by rw [ht]; exact hP9, va_K.moved hW.alike hK, hD9⟩, hS.F ht⟩) hS.2.2 dX3_within_18
  refine lv_dload_n hx hb dX3_within_6 rfl (lv_at hl 0 rfl) ?_
  refine lv_dload hx hb dX3_within_7 (lv_at hl 2 rfl) ?_
  refine lv_dcmp hx hb dX3_within_9 ?_
  refine lv_if_gt (tgt := 17) hx hb dX3_within_10 (by decide) (fun c_10 => ?_) (fun c_10 => ?_)
  · refine lv_iconst (v := 0) hx hb dX3_within_17 (by decide) ?_
    have hF9 : (fX3_within p1 p2 p3) = (0 : Int32) := by rw [fX3_within, if_neg c_3, if_pos c_10]
    have hP9 : va_P D vwCl [] H := hP
    have hD9 : va_D A [] := hD
    exact W.zret (v := (0 : Int32)) hx hb hr (nar_z (Or.inl rfl)) (fun t ht hW => ⟨⟨(0 : Int32), (), rfl, ⟨(by rw [hF9]), (Or.inl rfl)⟩, by rw [ht]; exact hP9, va_K.moved hW.alike hK, hD9⟩, hS.F ht⟩) hS.2.2 dX3_within_18
  refine lv_iconst (v := 1) hx hb dX3_within_13 (by decide) ?_
  refine lv_goto (tgt := 18) hx hb dX3_within_14 (by decide) ?_
  have hF9 : (fX3_within p1 p2 p3) = (1 : Int32) := by rw [fX3_within, if_neg c_3, if_neg c_10]
  have hP9 : va_P D vwCl [] H := hP
  have hD9 : va_D A [] := hD
  exact W.zret (v := (1 : Int32)) hx hb hr (nar_z (Or.inr rfl)) (fun t ht hW => ⟨⟨(1 : Int32), (), rfl, ⟨(by rw [hF9]), (Or.inr rfl)⟩, by rw [ht]; exact hP9, va_K.moved hW.alike hK, hD9⟩, hS.F ht⟩) hS.2.2 dX3_within_18
def fX3_over  (p1 : UInt64) (p2 : UInt64) : UInt64 := if (Op.cmpValue (FP.dcmp p2 FP.dconst0) CmpOp.l) ≤ 0 then FP.dconst0 else ((FP.ddiv p1 p2))
set_option maxHeartbeats 4000000 in
set_option maxRecDepth 100000 in
theorem c_X3_over {l : Launch} {D : va_G} {cyD cyI cyJ cyZ : ClassId} (sz : Nat) (p1 : UInt64) (p2 : UInt64) (hn : vf_n64 (FP.ddiv p1 p2)) : mD l yX3_over wsX3_over ({ frames := 0, cells := 0, slots := 0, locals := 0 } : Room) D (kT cyD cyI cyJ cyZ) [.double p1, .double p2] [] [] sz (fX3_over p1 p2) 0 0 := by
  refine Met.ofW (cc := cX3_over) (maxL := 4) (ret := (some .double)) (by decide) rfl ?_
  intro p e s m args below meth c s₁ B hml hv
  obtain ⟨rfl, hN, hsz, hP, hK, hD0⟩ := hv
  have hx := B.exec
  have hb := B.bytes
  have hr := B.returns
  have hts := atoms_spec (ws := wsX3_over) B.pre
  have hown : s.vm.findClass RX3 = some m.cls := findClass_of_methodNamed B.named
  have hlocks := B.notSynchronized
  subst hsz
  have hD := hD0.self (sz := s.heap.size)
  generalize hAe : va_A [] s.heap.size = A at hD ⊢
  have hA : ∀ q : Nat, s.heap.size ≤ q → A q := fun q h => by rw [← hAe]; exact Or.inr h
  have hS : va_S A s.heap s.heap [] := va_S.rf
  have hP : va_P D vwCl [] s.heap := hP
  have hl := lv_entry [.double p1, .double p2] (n := 4) (Nat.le_of_ble_eq_true rfl)
  rw [lg_entry_eq]
  generalize (lg_sl [.double p1, .double p2] ++ List.replicate (4 - (lg_sl [.double p1, .double p2]).length) Slot.unset).toArray = ls at hl ⊢
  have hl : lv_has ls 4 [(0, .double p1), (2, .double p2)] := hl
  obtain ⟨H, hHe⟩ : ∃ H : Heap, H = s.heap := ⟨_, rfl⟩
  have hP : va_P D vwCl [] H := by rw [hHe]; exact hP
  have hS : va_S A s.heap H [] := by rw [hHe]; exact hS
  rw [← hHe]
  refine lv_dload_n hx hb dX3_over_0 rfl (lv_at hl 1 rfl) ?_
  refine lv_dconst0 hx hb dX3_over_1 ?_
  refine lv_dcmp hx hb dX3_over_2 ?_
  refine lv_if_le (tgt := 12) hx hb dX3_over_3 (by decide) (fun c_3 => ?_) (fun c_3 => ?_)
  · refine lv_dconst0 hx hb dX3_over_12 ?_
    have hF9 : (fX3_over p1 p2) = FP.dconst0 := by rw [fX3_over, if_pos c_3]
    have hP9 : va_P D vwCl [] H := hP
    have hD9 : va_D A [] := hD
    exact W.dret (v := FP.dconst0) hx hb hr (fun t ht hW => ⟨⟨FP.dconst0, (), rfl, (by rw [hF9]), by rw [ht]; exact hP9, va_K.moved hW.alike hK, hD9⟩, hS.F ht⟩) hS.2.2 dX3_over_13
  refine lv_dload_n hx hb dX3_over_6 rfl (lv_at hl 0 rfl) ?_
  refine lv_dload_n hx hb dX3_over_7 rfl (lv_at hl 1 rfl) ?_
  refine lv_ddiv hx hb dX3_over_8 hn ?_
  refine lv_goto (tgt := 13) hx hb dX3_over_9 (by decide) ?_
  have hF9 : (fX3_over p1 p2) = (FP.ddiv p1 p2) := by rw [fX3_over, if_neg c_3]
  have hP9 : va_P D vwCl [] H := hP
  have hD9 : va_D A [] := hD
  exact W.dret (v := (FP.ddiv p1 p2)) hx hb hr (fun t ht hW => ⟨⟨(FP.ddiv p1 p2), (), rfl, (by rw [hF9]), by rw [ht]; exact hP9, va_K.moved hW.alike hK, hD9⟩, hS.F ht⟩) hS.2.2 dX3_over_13
end
section
/-! ===== doubles: bounds of magnitude, no NaN ===== -/
abbrev bd (K : Nat) (a : UInt64) : Prop := a.toNat % 2 ^ 63 < K * 2 ^ 52
theorem n64_iff (a : UInt64) : vf_n64 a ↔ a.toNat % 2 ^ 63 ≤ 9218868437227405312 := by
  unfold vf_n64
  rw [UInt64.le_iff_toNat_le, UInt64.toNat_and]
  have h : (9223372036854775807 : UInt64).toNat = 2 ^ 63 - 1 := by decide
  rw [h, Nat.and_two_pow_sub_one_eq_mod]
  exact Iff.rfl
theorem bd_n {K : Nat} {a : UInt64} (h : bd K a) (hK : K ≤ 2047) : vf_n64 a := by
  rw [n64_iff]; have h : a.toNat % 2 ^ 63 < K * 2 ^ 52 := h
  omega
theorem bd_mul {Ka Kb : Nat} {a b : UInt64} (ha : bd Ka a) (hb : bd Kb b) (hKa : Ka ≤ 2047) (hKb : Kb ≤ 2047) {K : Nat} (h : Ka + Kb - 1025 + 3 ≤ K) : bd K (FP.dmul a b) :=
  Nat.lt_of_lt_of_le (FP.Core.dmul_mag ha hb hKa hKb) (Nat.mul_le_mul_right _ h)
theorem bd_up {Ka K : Nat} {a : UInt64} (ha : bd Ka a) (h : Ka ≤ K) : bd K a := Nat.lt_of_lt_of_le ha (Nat.mul_le_mul_right _ h)
theorem bd_add {Ka Kb : Nat} {a b : UInt64} (ha : bd Ka a) (hb : bd Kb b) (hKa : Ka ≤ 2047) (hKb : Kb ≤ 2047) {K : Nat} (h1 : Ka + 2 ≤ K) (h2 : Kb + 2 ≤ K) : bd K (FP.dadd a b) := by
  have h := FP.Core.dadd_mag (K := max Ka Kb) (bd_up ha (Nat.le_max_left _ _)) (bd_up hb (Nat.le_max_right _ _)) (Nat.max_le.mpr ⟨hKa, hKb⟩)
  exact Nat.lt_of_lt_of_le h (Nat.mul_le_mul_right _ (by omega))
theorem bd_sub {Ka Kb : Nat} {a b : UInt64} (ha : bd Ka a) (hb : bd Kb b) (hKa : Ka ≤ 2047) (hKb : Kb ≤ 2047) {K : Nat} (h1 : Ka + 2 ≤ K) (h2 : Kb + 2 ≤ K) : bd K (FP.dsub a b) := by
  have h := FP.Core.dsub_mag (K := max Ka Kb) (bd_up ha (Nat.le_max_left _ _)) (bd_up hb (Nat.le_max_right _ _)) (Nat.max_le.mpr ⟨hKa, hKb⟩)
  exact Nat.lt_of_lt_of_le h (Nat.mul_le_mul_right _ (by omega))
theorem bd_i2d (x : Int32) : bd 1056 (FP.i2d x) := FP.Core.i2d_mag x
theorem bd_l2d (x : Int64) : bd 1088 (FP.l2d x) := FP.Core.l2d_mag x
/-- a is at least 2 ^ (L - 1023) in magnitude, and finite -/
abbrev lb (L : Nat) (a : UInt64) : Prop := L * 2 ^ 52 ≤ a.toNat % 2 ^ 63 ∧ a.toNat % 2 ^ 63 < 2047 * 2 ^ 52
theorem bd_div {K L : Nat} {a b : UInt64} (ha : bd K a) (hb : lb L b) (hK : K ≤ 2047) (hL : 1 ≤ L) {K2 : Nat} (h : K + (1074 - 52 - 1) - L + 3 ≤ K2) : bd K2 (FP.ddiv a b) :=
  Nat.lt_of_lt_of_le (FP.Core.ddiv_mag ha hb.1 hb.2 hK hL) (Nat.mul_le_mul_right _ h)
theorem nI_sub1 {n : Nat} (h : 1 ≤ n) : nI n - 1 = nI (n - 1) := by
  have := pk_sub (a := n) (b := 1) h
  exact this
/-- what the class's samples keep -/
def okE (sn : Nat) (me : UInt64) (vf : Nat → UInt64) (sp sb no : UInt64) : Prop := 1 ≤ sn ∧ sn ≤ 64 ∧ bd 1030 me ∧ (∀ i, i < 128 * sn → bd 1033 (vf i)) ∧ bd 1027 sp ∧ bd 1027 sb ∧ bd 1033 no
theorem ping_in {p : Int32} (h : ¬ fX3_isPing p = 0) : vp_in p 32 := by
  unfold fX3_isPing at h
  by_cases h1 : p < 0
  · rw [if_pos h1] at h; exact absurd rfl h
  · by_cases h2 : 32 ≤ p
    · rw [if_neg h1, if_pos h2] at h; exact absurd rfl h
    · rcases pk_ix p (n := 32) (by decide) with q | q | ⟨j, hj, rfl⟩
      · exact absurd q h1
      · exact absurd q h2
      · exact vp_in_nI hj (by decide)
end
section
def fX0_isSample (sn : Nat) (p1 : Int32) : Int32 := if p1 < 0 then (0 : Int32) else (if (nI sn) ≤ p1 then (0 : Int32) else ((1 : Int32)))
set_option maxHeartbeats 4000000 in
set_option maxRecDepth 100000 in
theorem c_X0_isSample {l : Launch} {D : va_G} {cyD cyI cyJ cyZ : ClassId} (ae av ab : Nat) (sn : Nat) (me : UInt64) (vf : Nat → UInt64) (lf : Nat → Int32) (sp : UInt64) (sb : UInt64) (no : UInt64) (sz : Nat) (p1 : Int32)  : mZ l yX0_isSample wsX0_isSample ({ frames := 0, cells := 0, slots := 0, locals := 0 } : Room) D (kT cyD cyI cyJ cyZ) [.ref ae, .int p1] (wE cyD cyI cyJ cyZ ae av ab sn me vf lf sp sb no) (wE cyD cyI cyJ cyZ ae av ab sn me vf lf sp sb no) sz (fX0_isSample sn p1) 0 0 := by
  refine Met.ofW (cc := cX0_isSample) (maxL := 2) (ret := (some .boolean)) (by decide) rfl ?_
  intro p e s m args below meth c s₁ B hml hv
  obtain ⟨rfl, hN, hsz, hP, hK, hD0⟩ := hv
  have hx := B.exec
  have hb := B.bytes
  have hr := B.returns
  have hts := atoms_spec (ws := wsX0_isSample) B.pre
  have hown : s.vm.findClass RX0 = some m.cls := findClass_of_methodNamed B.named
  have hlocks := B.notSynchronized
  subst hsz
  have hD := hD0.self (sz := s.heap.size)
  generalize hAe : va_A (wE cyD cyI cyJ cyZ ae av ab sn me vf lf sp sb no) s.heap.size = A at hD ⊢
  have hA : ∀ q : Nat, s.heap.size ≤ q → A q := fun q h => by rw [← hAe]; exact Or.inr h
  have hS : va_S A s.heap s.heap [] := va_S.rf
  have hP : va_P D vwCl (wE cyD cyI cyJ cyZ ae av ab sn me vf lf sp sb no) s.heap := hP
  have hl := lv_entry [.ref ae, .int p1] (n := 2) (Nat.le_of_ble_eq_true rfl)
  rw [lg_entry_eq]
  generalize (lg_sl [.ref ae, .int p1] ++ List.replicate (2 - (lg_sl [.ref ae, .int p1]).length) Slot.unset).toArray = ls at hl ⊢
  have hl : lv_has ls 2 [(0, .ref ae), (1, .int p1)] := hl
  obtain ⟨H, hHe⟩ : ∃ H : Heap, H = s.heap := ⟨_, rfl⟩
  have hP : va_P D vwCl (wE cyD cyI cyJ cyZ ae av ab sn me vf lf sp sb no) H := by rw [hHe]; exact hP
  have hS : va_S A s.heap H [] := by rw [hHe]; exact hS
  rw [← hHe]
  refine lv_iload_n hx hb dX0_isSample_0 rfl (lv_at hl 1 rfl) ?_
  refine lv_if_lt (tgt := 16) hx hb dX0_isSample_1 (by decide) (fun c_1 => ?_) (fun c_1 => ?_)
  · refine lv_iconst (v := 0) hx hb dX0_isSample_16 (by decide) ?_
    have hF9 : (fX0_isSample sn p1) = (0 : Int32) := by rw [fX0_isSample, if_pos c_1]
    have hP9 : va_P D vwCl (wE cyD cyI cyJ cyZ ae av ab sn me vf lf sp sb no) H := hP
    have hD9 : va_D A (wE cyD cyI cyJ cyZ ae av ab sn me vf lf sp sb no) := hD
    exact W.zret (v := (0 : Int32)) hx hb hr (nar_z (Or.inl rfl)) (fun t ht hW => ⟨⟨(0 : Int32), (), rfl, ⟨(by rw [hF9]), (Or.inl rfl)⟩, by rw [ht]; exact hP9, va_K.moved hW.alike hK, hD9⟩, hS.F ht⟩) hS.2.2 dX0_isSample_17
  refine lv_iload_n hx hb dX0_isSample_4 rfl (lv_at hl 1 rfl) ?_
  refine lv_aload_n hx hb dX0_isSample_5 rfl (lv_at hl 0 rfl) ?_
  refine va_get (D := D) (ci := 0) (v := .int (nI sn)) (C := RX0) (T := TX0) (N := 7) hx hb hts (fun _ h => (List.mem_cons_of_mem _ (List.mem_append_right _ h))) hown hK hP 0 rfl rfl 0 (by decide) (hts (.fieldLink RX0 34 "BottomWalks$Echoes" "samples" "I") (List.mem_of_getElem? (i := 1) rfl)) (fun _ h9 => h9) rfl dX0_isSample_6 ?_
  refine lv_icmp_ge (tgt := 16) hx hb dX0_isSample_9 (by decide) (fun c_9 => ?_) (fun c_9 => ?_)
  · refine lv_iconst (v := 0) hx hb dX0_isSample_16 (by decide) ?_
    have hF9 : (fX0_isSample sn p1) = (0 : Int32) := by rw [fX0_isSample, if_neg c_1, if_pos c_9]
    have hP9 : va_P D vwCl (wE cyD cyI cyJ cyZ ae av ab sn me vf lf sp sb no) H := hP
    have hD9 : va_D A (wE cyD cyI cyJ cyZ ae av ab sn me vf lf sp sb no) := hD
    exact W.zret (v := (0 : Int32)) hx hb hr (nar_z (Or.inl rfl)) (fun t ht hW => ⟨⟨(0 : Int32), (), rfl, ⟨(by rw [hF9]), (Or.inl rfl)⟩, by rw [ht]; exact hP9, va_K.moved hW.alike hK, hD9⟩, hS.F ht⟩) hS.2.2 dX0_isSample_17
  refine lv_iconst (v := 1) hx hb dX0_isSample_12 (by decide) ?_
  refine lv_goto (tgt := 17) hx hb dX0_isSample_13 (by decide) ?_
  have hF9 : (fX0_isSample sn p1) = (1 : Int32) := by rw [fX0_isSample, if_neg c_1, if_neg c_9]
  have hP9 : va_P D vwCl (wE cyD cyI cyJ cyZ ae av ab sn me vf lf sp sb no) H := hP
  have hD9 : va_D A (wE cyD cyI cyJ cyZ ae av ab sn me vf lf sp sb no) := hD
  exact W.zret (v := (1 : Int32)) hx hb hr (nar_z (Or.inr rfl)) (fun t ht hW => ⟨⟨(1 : Int32), (), rfl, ⟨(by rw [hF9]), (Or.inr rfl)⟩, by rw [ht]; exact hP9, va_K.moved hW.alike hK, hD9⟩, hS.F ht⟩) hS.2.2 dX0_isSample_17
def fX0_range (me : UInt64) (p1 : Int32) : UInt64 := (FP.dmul (FP.i2d (p1 + (1 : Int32))) me)
set_option maxHeartbeats 4000000 in
set_option maxRecDepth 100000 in
theorem c_X0_range {l : Launch} {D : va_G} {cyD cyI cyJ cyZ : ClassId} (ae av ab : Nat) (sn : Nat) (me : UInt64) (vf : Nat → UInt64) (lf : Nat → Int32) (sp : UInt64) (sb : UInt64) (no : UInt64) (sz : Nat) (p1 : Int32) (hm : bd 1030 me) : mD l yX0_range wsX0_range ({ frames := 0, cells := 0, slots := 0, locals := 0 } : Room) D (kT cyD cyI cyJ cyZ) [.ref ae, .int p1] (wE cyD cyI cyJ cyZ ae av ab sn me vf lf sp sb no) (wE cyD cyI cyJ cyZ ae av ab sn me vf lf sp sb no) sz (fX0_range me p1) 0 0 := by
  refine Met.ofW (cc := cX0_range) (maxL := 2) (ret := (some .double)) (by decide) rfl ?_
  intro p e s m args below meth c s₁ B hml hv
  obtain ⟨rfl, hN, hsz, hP, hK, hD0⟩ := hv
  have hx := B.exec
  have hb := B.bytes
  have hr := B.returns
  have hts := atoms_spec (ws := wsX0_range) B.pre
  have hown : s.vm.findClass RX0 = some m.cls := findClass_of_methodNamed B.named
  have hlocks := B.notSynchronized
  subst hsz
  have hD := hD0.self (sz := s.heap.size)
  generalize hAe : va_A (wE cyD cyI cyJ cyZ ae av ab sn me vf lf sp sb no) s.heap.size = A at hD ⊢
  have hA : ∀ q : Nat, s.heap.size ≤ q → A q := fun q h => by rw [← hAe]; exact Or.inr h
  have hS : va_S A s.heap s.heap [] := va_S.rf
  have hP : va_P D vwCl (wE cyD cyI cyJ cyZ ae av ab sn me vf lf sp sb no) s.heap := hP
  have hl := lv_entry [.ref ae, .int p1] (n := 2) (Nat.le_of_ble_eq_true rfl)
  rw [lg_entry_eq]
  generalize (lg_sl [.ref ae, .int p1] ++ List.replicate (2 - (lg_sl [.ref ae, .int p1]).length) Slot.unset).toArray = ls at hl ⊢
  have hl : lv_has ls 2 [(0, .ref ae), (1, .int p1)] := hl
  obtain ⟨H, hHe⟩ : ∃ H : Heap, H = s.heap := ⟨_, rfl⟩
  have hP : va_P D vwCl (wE cyD cyI cyJ cyZ ae av ab sn me vf lf sp sb no) H := by rw [hHe]; exact hP
  have hS : va_S A s.heap H [] := by rw [hHe]; exact hS
  rw [← hHe]
  refine lv_iload_n hx hb dX0_range_0 rfl (lv_at hl 1 rfl) ?_
  refine lv_iconst (v := 1) hx hb dX0_range_1 (by decide) ?_
  refine lv_iadd hx hb dX0_range_2 ?_
  refine lv_i2d hx hb dX0_range_3 ?_
  refine lv_aload_n hx hb dX0_range_4 rfl (lv_at hl 0 rfl) ?_
  refine va_get (D := D) (ci := 0) (v := .double me) (C := RX0) (T := TX0) (N := 7) hx hb hts (fun _ h => (List.mem_cons_of_mem _ (List.mem_append_right _ h))) hown hK hP 0 rfl rfl 1 (by decide) (hts (.fieldLink RX0 40 "BottomWalks$Echoes" "metre" "D") (List.mem_of_getElem? (i := 1) rfl)) (fun _ h9 => h9) rfl dX0_range_5 ?_
  refine lv_dmul hx hb dX0_range_8 (bd_n (bd_mul (Ka := 1056) (Kb := 1030) (K := 1064) (bd_i2d _) hm (by decide) (by decide) (by decide)) (by decide)) ?_
  have hF9 : (fX0_range me p1) = (FP.dmul (FP.i2d (p1 + (1 : Int32))) me) := by rw [fX0_range]
  have hP9 : va_P D vwCl (wE cyD cyI cyJ cyZ ae av ab sn me vf lf sp sb no) H := hP
  have hD9 : va_D A (wE cyD cyI cyJ cyZ ae av ab sn me vf lf sp sb no) := hD
  exact W.dret (v := (FP.dmul (FP.i2d (p1 + (1 : Int32))) me)) hx hb hr (fun t ht hW => ⟨⟨(FP.dmul (FP.i2d (p1 + (1 : Int32))) me), (), rfl, (by rw [hF9]), by rw [ht]; exact hP9, va_K.moved hW.alike hK, hD9⟩, hS.F ht⟩) hS.2.2 dX0_range_9
def fX0_setLosses (sp : UInt64) (sb : UInt64) (p1 : UInt64) (p2 : UInt64) : UInt64 × UInt64 := (p1, p2)
set_option maxHeartbeats 4000000 in
set_option maxRecDepth 100000 in
theorem c_X0_setLosses {l : Launch} {D : va_G} {cyD cyI cyJ cyZ : ClassId} (ae av ab : Nat) (sn : Nat) (me : UInt64) (vf : Nat → UInt64) (lf : Nat → Int32) (sp : UInt64) (sb : UInt64) (no : UInt64) (sz : Nat) (p1 : UInt64) (p2 : UInt64)  : mV l yX0_setLosses wsX0_setLosses ({ frames := 0, cells := 0, slots := 0, locals := 0 } : Room) D (kT cyD cyI cyJ cyZ) [.ref ae, .double p1, .double p2] (wE cyD cyI cyJ cyZ ae av ab sn me vf lf sp sb no) (wE cyD cyI cyJ cyZ ae av ab sn me vf lf ((fX0_setLosses sp sb p1 p2).1) ((fX0_setLosses sp sb p1 p2).2) no) sz 0 0 := by
  refine Met.ofW (cc := cX0_setLosses) (maxL := 5) (ret := none) (by decide) rfl ?_
  intro p e s m args below meth c s₁ B hml hv
  obtain ⟨rfl, hN, hsz, hP, hK, hD0⟩ := hv
  have hx := B.exec
  have hb := B.bytes
  have hr := B.returns
  have hts := atoms_spec (ws := wsX0_setLosses) B.pre
  have hown : s.vm.findClass RX0 = some m.cls := findClass_of_methodNamed B.named
  have hlocks := B.notSynchronized
  subst hsz
  have hD := hD0.self (sz := s.heap.size)
  generalize hAe : va_A (wE cyD cyI cyJ cyZ ae av ab sn me vf lf sp sb no) s.heap.size = A at hD ⊢
  have hA : ∀ q : Nat, s.heap.size ≤ q → A q := fun q h => by rw [← hAe]; exact Or.inr h
  have hS : va_S A s.heap s.heap [] := va_S.rf
  have hP : va_P D vwCl (wE cyD cyI cyJ cyZ ae av ab sn me vf lf sp sb no) s.heap := hP
  have hl := lv_entry [.ref ae, .double p1, .double p2] (n := 5) (Nat.le_of_ble_eq_true rfl)
  rw [lg_entry_eq]
  generalize (lg_sl [.ref ae, .double p1, .double p2] ++ List.replicate (5 - (lg_sl [.ref ae, .double p1, .double p2]).length) Slot.unset).toArray = ls at hl ⊢
  have hl : lv_has ls 5 [(0, .ref ae), (1, .double p1), (3, .double p2)] := hl
  obtain ⟨H, hHe⟩ : ∃ H : Heap, H = s.heap := ⟨_, rfl⟩
  have hP : va_P D vwCl (wE cyD cyI cyJ cyZ ae av ab sn me vf lf sp sb no) H := by rw [hHe]; exact hP
  have hS : va_S A s.heap H [] := by rw [hHe]; exact hS
  rw [← hHe]
  refine lv_aload_n hx hb dX0_setLosses_0 rfl (lv_at hl 0 rfl) ?_
  refine lv_dload_n hx hb dX0_setLosses_1 rfl (lv_at hl 1 rfl) ?_
  refine va_put (D := D) (ci := 0) (v := .double p1) (ty := .double) (C := RX0) (T := TX0) (N := 7) hx hb hts (fun _ h => (List.mem_cons_of_mem _ (List.mem_append_right _ h))) tyX0 tyX0_ok nmX0 hown hK hP hD hS 0 rfl rfl 4 (by decide) (hts (.fieldLink RX0 15 "BottomWalks$Echoes" "spread" "D") (List.mem_of_getElem? (i := 1) rfl)) (fun _ h9 => h9) rfl (by decide +kernel) rfl rfl (Nat.le_of_ble_eq_true rfl) dX0_setLosses_2 (fun H locs hP hD hS => ?_)
  have hP : va_P D vwCl (wE cyD cyI cyJ cyZ ae av ab sn me vf lf p1 sb no) H := hP
  have hD : va_D A (wE cyD cyI cyJ cyZ ae av ab sn me vf lf p1 sb no) := hD
  refine lv_aload_n hx hb dX0_setLosses_5 rfl (lv_at hl 0 rfl) ?_
  refine lv_dload_n hx hb dX0_setLosses_6 rfl (lv_at hl 2 rfl) ?_
  refine va_put (D := D) (ci := 0) (v := .double p2) (ty := .double) (C := RX0) (T := TX0) (N := 7) hx hb hts (fun _ h => (List.mem_cons_of_mem _ (List.mem_append_right _ h))) tyX0 tyX0_ok nmX0 hown hK hP hD hS 0 rfl rfl 5 (by decide) (hts (.fieldLink RX0 19 "BottomWalks$Echoes" "absorb" "D") (List.mem_of_getElem? (i := 2) rfl)) (fun _ h9 => h9) rfl (by decide +kernel) rfl rfl (Nat.le_of_ble_eq_true rfl) dX0_setLosses_7 (fun H locs hP hD hS => ?_)
  have hP : va_P D vwCl (wE cyD cyI cyJ cyZ ae av ab sn me vf lf p1 p2 no) H := hP
  have hD : va_D A (wE cyD cyI cyJ cyZ ae av ab sn me vf lf p1 p2 no) := hD
  have hF9 : (fX0_setLosses sp sb p1 p2) = (p1, p2) := by rw [fX0_setLosses]
  have hP9 : va_P D vwCl (wE cyD cyI cyJ cyZ ae av ab sn me vf lf ((fX0_setLosses sp sb p1 p2).1) ((fX0_setLosses sp sb p1 p2).2) no) H := by rw [hF9]; exact hP
  have hD9 : va_D A (wE cyD cyI cyJ cyZ ae av ab sn me vf lf ((fX0_setLosses sp sb p1 p2).1) ((fX0_setLosses sp sb p1 p2).2) no) := by rw [hF9]; exact hD
  exact W.vret hx hb hr (fun t ht hW => ⟨⟨(), rfl, trivial, by rw [ht]; exact hP9, va_K.moved hW.alike hK, hD9⟩, hS.F ht⟩) hS.2.2 dX0_setLosses_10
def fX0_setNoiseLevel (no : UInt64) (p1 : UInt64) : UInt64 := p1
set_option maxHeartbeats 4000000 in
set_option maxRecDepth 100000 in
theorem c_X0_setNoiseLevel {l : Launch} {D : va_G} {cyD cyI cyJ cyZ : ClassId} (ae av ab : Nat) (sn : Nat) (me : UInt64) (vf : Nat → UInt64) (lf : Nat → Int32) (sp : UInt64) (sb : UInt64) (no : UInt64) (sz : Nat) (p1 : UInt64)  : mV l yX0_setNoiseLevel wsX0_setNoiseLevel ({ frames := 0, cells := 0, slots := 0, locals := 0 } : Room) D (kT cyD cyI cyJ cyZ) [.ref ae, .double p1] (wE cyD cyI cyJ cyZ ae av ab sn me vf lf sp sb no) (wE cyD cyI cyJ cyZ ae av ab sn me vf lf sp sb (fX0_setNoiseLevel no p1)) sz 0 0 := by
  refine Met.ofW (cc := cX0_setNoiseLevel) (maxL := 3) (ret := none) (by decide) rfl ?_
  intro p e s m args below meth c s₁ B hml hv
  obtain ⟨rfl, hN, hsz, hP, hK, hD0⟩ := hv
  have hx := B.exec
  have hb := B.bytes
  have hr := B.returns
  have hts := atoms_spec (ws := wsX0_setNoiseLevel) B.pre
  have hown : s.vm.findClass RX0 = some m.cls := findClass_of_methodNamed B.named
  have hlocks := B.notSynchronized
  subst hsz
  have hD := hD0.self (sz := s.heap.size)
  generalize hAe : va_A (wE cyD cyI cyJ cyZ ae av ab sn me vf lf sp sb no) s.heap.size = A at hD ⊢
  have hA : ∀ q : Nat, s.heap.size ≤ q → A q := fun q h => by rw [← hAe]; exact Or.inr h
  have hS : va_S A s.heap s.heap [] := va_S.rf
  have hP : va_P D vwCl (wE cyD cyI cyJ cyZ ae av ab sn me vf lf sp sb no) s.heap := hP
  have hl := lv_entry [.ref ae, .double p1] (n := 3) (Nat.le_of_ble_eq_true rfl)
  rw [lg_entry_eq]
  generalize (lg_sl [.ref ae, .double p1] ++ List.replicate (3 - (lg_sl [.ref ae, .double p1]).length) Slot.unset).toArray = ls at hl ⊢
  have hl : lv_has ls 3 [(0, .ref ae), (1, .double p1)] := hl
  obtain ⟨H, hHe⟩ : ∃ H : Heap, H = s.heap := ⟨_, rfl⟩
  have hP : va_P D vwCl (wE cyD cyI cyJ cyZ ae av ab sn me vf lf sp sb no) H := by rw [hHe]; exact hP
  have hS : va_S A s.heap H [] := by rw [hHe]; exact hS
  rw [← hHe]
  refine lv_aload_n hx hb dX0_setNoiseLevel_0 rfl (lv_at hl 0 rfl) ?_
  refine lv_dload_n hx hb dX0_setNoiseLevel_1 rfl (lv_at hl 1 rfl) ?_
  refine va_put (D := D) (ci := 0) (v := .double p1) (ty := .double) (C := RX0) (T := TX0) (N := 7) hx hb hts (fun _ h => (List.mem_cons_of_mem _ (List.mem_append_right _ h))) tyX0 tyX0_ok nmX0 hown hK hP hD hS 0 rfl rfl 6 (by decide) (hts (.fieldLink RX0 22 "BottomWalks$Echoes" "noiseLevel" "D") (List.mem_of_getElem? (i := 1) rfl)) (fun _ h9 => h9) rfl (by decide +kernel) rfl rfl (Nat.le_of_ble_eq_true rfl) dX0_setNoiseLevel_2 (fun H locs hP hD hS => ?_)
  have hP : va_P D vwCl (wE cyD cyI cyJ cyZ ae av ab sn me vf lf sp sb p1) H := hP
  have hD : va_D A (wE cyD cyI cyJ cyZ ae av ab sn me vf lf sp sb p1) := hD
  have hF9 : (fX0_setNoiseLevel no p1) = p1 := by rw [fX0_setNoiseLevel]
  have hP9 : va_P D vwCl (wE cyD cyI cyJ cyZ ae av ab sn me vf lf sp sb (fX0_setNoiseLevel no p1)) H := by rw [hF9]; exact hP
  have hD9 : va_D A (wE cyD cyI cyJ cyZ ae av ab sn me vf lf sp sb (fX0_setNoiseLevel no p1)) := by rw [hF9]; exact hD
  exact W.vret hx hb hr (fun t ht hW => ⟨⟨(), rfl, trivial, by rw [ht]; exact hP9, va_K.moved hW.alike hK, hD9⟩, hS.F ht⟩) hS.2.2 dX0_setNoiseLevel_5
def fX0_placeOf (sn : Nat) (p1 : Int32) (p2 : Int32) (p3 : Int32) : Int32 := if (fX3_isFrequency p1) = 0 then (-1 : Int32) else (if (fX3_isPing p2) = 0 then (-1 : Int32) else (if (fX0_isSample sn p3) = 0 then (-1 : Int32) else (((((p1 * (32 : Int32)) + p2) * (nI sn)) + p3))))
set_option maxHeartbeats 4000000 in
set_option maxRecDepth 100000 in
theorem c_X0_placeOf {l : Launch} {D : va_G} {cyD cyI cyJ cyZ : ClassId} (ae av ab : Nat) (sn : Nat) (me : UInt64) (vf : Nat → UInt64) (lf : Nat → Int32) (sp : UInt64) (sb : UInt64) (no : UInt64) (sz : Nat) (p1 : Int32) (p2 : Int32) (p3 : Int32)  : mI l yX0_placeOf wsX0_placeOf ({ frames := 1, cells := 0, slots := 0, locals := 21 } : Room) D (kT cyD cyI cyJ cyZ) [.ref ae, .int p1, .int p2, .int p3] (wE cyD cyI cyJ cyZ ae av ab sn me vf lf sp sb no) (wE cyD cyI cyJ cyZ ae av ab sn me vf lf sp sb no) sz (fX0_placeOf sn p1 p2 p3) 0 0 := by
  refine Met.ofW (cc := cX0_placeOf) (maxL := 4) (ret := (some .int)) (by decide) rfl ?_
  intro p e s m args below meth c s₁ B hml hv
  obtain ⟨rfl, hN, hsz, hP, hK, hD0⟩ := hv
  have hx := B.exec
  have hb := B.bytes
  have hr := B.returns
  have hts := atoms_spec (ws := wsX0_placeOf) B.pre
  have hown : s.vm.findClass RX0 = some m.cls := findClass_of_methodNamed B.named
  have hlocks := B.notSynchronized
  subst hsz
  have hD := hD0.self (sz := s.heap.size)
  generalize hAe : va_A (wE cyD cyI cyJ cyZ ae av ab sn me vf lf sp sb no) s.heap.size = A at hD ⊢
  have hA : ∀ q : Nat, s.heap.size ≤ q → A q := fun q h => by rw [← hAe]; exact Or.inr h
  have hS : va_S A s.heap s.heap [] := va_S.rf
  have hP : va_P D vwCl (wE cyD cyI cyJ cyZ ae av ab sn me vf lf sp sb no) s.heap := hP
  have hl := lv_entry [.ref ae, .int p1, .int p2, .int p3] (n := 4) (Nat.le_of_ble_eq_true rfl)
  rw [lg_entry_eq]
  generalize (lg_sl [.ref ae, .int p1, .int p2, .int p3] ++ List.replicate (4 - (lg_sl [.ref ae, .int p1, .int p2, .int p3]).length) Slot.unset).toArray = ls at hl ⊢
  have hl : lv_has ls 4 [(0, .ref ae), (1, .int p1), (2, .int p2), (3, .int p3)] := hl
  obtain ⟨H, hHe⟩ : ∃ H : Heap, H = s.heap := ⟨_, rfl⟩
  have hP : va_P D vwCl (wE cyD cyI cyJ cyZ ae av ab sn me vf lf sp sb no) H := by rw [hHe]; exact hP
  have hS : va_S A s.heap H [] := by rw [hHe]; exact hS
  rw [← hHe]
  refine lv_iload_n hx hb dX0_placeOf_0 rfl (lv_at hl 1 rfl) ?_
  have hPc : va_P D vwCl [] H := hP.sub [] rfl
  have hDc : va_D A [] := hD.sub [] (by decide) rfl
  refine kzE (ws' := (wE cyD cyI cyJ cyZ ae av ab sn me vf lf sp sb no)) (wc := []) (wr := [(ae, .inr (0, [.int (nI sn), .double me, .ref av, .ref ab, .double sp, .double sb, .double no])), (av, .inl (cyD, 128 * sn, .inr (.inr (.inr (.inl vf))))), (ab, .inl (cyZ, 32, .inl lf))]) (w1 := []) (va_runSN (As := [.int p1]) (rest := []) ⟨hx, hb, hml, hown, hts⟩ (c_X3_isFrequency (l := l) (D := D) (cyD := cyD) (cyI := cyI) (cyJ := cyJ) (cyZ := cyZ) H.size p1) ⟨va_cnB 1 hts gX0_placeOf_X3_isFrequency_n81 rfl rfl rfl hN.2.1 (hts (.initialized RX3) (List.mem_of_getElem? (i := 3) rfl)) (by decide +kernel) ⟨Nat.le_of_ble_eq_true rfl, Nat.le_of_ble_eq_true rfl⟩, (hts (.static yX3_isFrequency) (List.mem_of_getElem? (i := 2) rfl)), trivial⟩ (kS hN hK hPc hDc) rfl rfl hl.1 rfl (lv_room (Nat.le_of_ble_eq_true rfl)) dX0_placeOf_1 ⟨Nat.le_of_ble_eq_true rfl, Nat.le_of_ble_eq_true rfl⟩) hP hD hS hA [] [0, 1, 2] [0, 1, 2] rfl rfl (by decide) (by decide) rfl (by decide) (fun H locs hz_1 hP hD hS => ?_)
  refine lv_if_eq (tgt := 22) hx hb dX0_placeOf_4 (by decide) (fun c_4 => ?_) (fun c_4 => ?_)
  · refine lv_iconst (v := (-1)) hx hb dX0_placeOf_22 (by decide) ?_
    have hF9 : (fX0_placeOf sn p1 p2 p3) = (-1 : Int32) := by rw [fX0_placeOf, if_pos c_4]
    have hP9 : va_P D vwCl (wE cyD cyI cyJ cyZ ae av ab sn me vf lf sp sb no) H := hP
    have hD9 : va_D A (wE cyD cyI cyJ cyZ ae av ab sn me vf lf sp sb no) := hD
    exact W.iret (v := (-1 : Int32)) hx hb hr (fun t ht hW => ⟨⟨(-1 : Int32), (), rfl, (by rw [hF9]), by rw [ht]; exact hP9, va_K.moved hW.alike hK, hD9⟩, hS.F ht⟩) hS.2.2 dX0_placeOf_23
  refine lv_iload_n hx hb dX0_placeOf_7 rfl (lv_at hl 2 rfl) ?_
  have hPc : va_P D vwCl [] H := hP.sub [] rfl
  have hDc : va_D A [] := hD.sub [] (by decide) rfl
  refine kzE (ws' := (wE cyD cyI cyJ cyZ ae av ab sn me vf lf sp sb no)) (wc := []) (wr := [(ae, .inr (0, [.int (nI sn), .double me, .ref av, .ref ab, .double sp, .double sb, .double no])), (av, .inl (cyD, 128 * sn, .inr (.inr (.inr (.inl vf))))), (ab, .inl (cyZ, 32, .inl lf))]) (w1 := []) (va_runSN (As := [.int p2]) (rest := []) ⟨hx, hb, hml, hown, hts⟩ (c_X3_isPing (l := l) (D := D) (cyD := cyD) (cyI := cyI) (cyJ := cyJ) (cyZ := cyZ) H.size p2) ⟨va_cnB 1 hts gX0_placeOf_X3_isPing_n65 rfl rfl rfl hN.2.2.1 (hts (.initialized RX3) (List.mem_of_getElem? (i := 3) rfl)) (by decide +kernel) ⟨Nat.le_of_ble_eq_true rfl, Nat.le_of_ble_eq_true rfl⟩, (hts (.static yX3_isPing) (List.mem_of_getElem? (i := 5) rfl)), trivial⟩ (kS hN hK hPc hDc) rfl rfl hl.1 rfl (lv_room (Nat.le_of_ble_eq_true rfl)) dX0_placeOf_8 ⟨Nat.le_of_ble_eq_true rfl, Nat.le_of_ble_eq_true rfl⟩) hP hD hS hA [] [0, 1, 2] [0, 1, 2] rfl rfl (by decide) (by decide) rfl (by decide) (fun H locs hz_8 hP hD hS => ?_)
  refine lv_if_eq (tgt := 22) hx hb dX0_placeOf_11 (by decide) (fun c_11 => ?_) (fun c_11 => ?_)
  · refine lv_iconst (v := (-1)) hx hb dX0_placeOf_22 (by decide) ?_
    have hF9 : (fX0_placeOf sn p1 p2 p3) = (-1 : Int32) := by rw [fX0_placeOf, if_neg c_4, if_pos c_11]
    have hP9 : va_P D vwCl (wE cyD cyI cyJ cyZ ae av ab sn me vf lf sp sb no) H := hP
    have hD9 : va_D A (wE cyD cyI cyJ cyZ ae av ab sn me vf lf sp sb no) := hD
    exact W.iret (v := (-1 : Int32)) hx hb hr (fun t ht hW => ⟨⟨(-1 : Int32), (), rfl, (by rw [hF9]), by rw [ht]; exact hP9, va_K.moved hW.alike hK, hD9⟩, hS.F ht⟩) hS.2.2 dX0_placeOf_23
  refine lv_aload_n hx hb dX0_placeOf_14 rfl (lv_at hl 0 rfl) ?_
  refine lv_iload_n hx hb dX0_placeOf_15 rfl (lv_at hl 3 rfl) ?_
  have hPc : va_P D vwCl (wE cyD cyI cyJ cyZ ae av ab sn me vf lf sp sb no) H := hP.sub [0, 1, 2] rfl
  have hDc : va_D A (wE cyD cyI cyJ cyZ ae av ab sn me vf lf sp sb no) := hD.sub [0, 1, 2] (by decide) rfl
  refine kzE (ws' := (wE cyD cyI cyJ cyZ ae av ab sn me vf lf sp sb no)) (wc := (wE cyD cyI cyJ cyZ ae av ab sn me vf lf sp sb no)) (wr := []) (w1 := (wE cyD cyI cyJ cyZ ae av ab sn me vf lf sp sb no)) (va_runV (As := [.int p3]) (rest := []) ⟨hx, hb, hml, hown, hts⟩ (c_X0_isSample (l := l) (D := D) (cyD := cyD) (cyI := cyI) (cyJ := cyJ) (cyZ := cyZ) ae av ab sn me vf lf sp sb no H.size p3) (cwV 1 hts gX0_placeOf_X0_isSample rfl rfl rfl (by decide +kernel) ⟨Nat.le_of_ble_eq_true rfl, Nat.le_of_ble_eq_true rfl⟩) (kV (ci := 0) (q0 := 0) (q := (RX0, TX0, 7)) hN hK hPc hDc rfl rfl rfl) rfl rfl hl.1 rfl (lv_room (Nat.le_of_ble_eq_true rfl)) dX0_placeOf_16 ⟨Nat.le_of_ble_eq_true rfl, Nat.le_of_ble_eq_true rfl⟩) hP hD hS hA [0, 1, 2] [] [0, 1, 2] rfl rfl (by decide) (by decide) rfl (by decide) (fun H locs hz_16 hP hD hS => ?_)
  refine lv_if_ne (tgt := 24) hx hb dX0_placeOf_19 (by decide) (fun c_19 => ?_) (fun c_19 => ?_)
  · refine lv_iload_n hx hb dX0_placeOf_24 rfl (lv_at hl 1 rfl) ?_
    refine lv_bipush (v := 32) hx hb dX0_placeOf_25 (by decide) ?_
    refine lv_imul hx hb dX0_placeOf_27 ?_
    refine lv_iload_n hx hb dX0_placeOf_28 rfl (lv_at hl 2 rfl) ?_
    refine lv_iadd hx hb dX0_placeOf_29 ?_
    refine lv_aload_n hx hb dX0_placeOf_30 rfl (lv_at hl 0 rfl) ?_
    refine va_get (D := D) (ci := 0) (v := .int (nI sn)) (C := RX0) (T := TX0) (N := 7) hx hb hts (fun _ h => (List.mem_cons_of_mem _ (List.mem_append_right _ h))) hown hK hP 0 rfl rfl 0 (by decide) (hts (.fieldLink RX0 34 "BottomWalks$Echoes" "samples" "I") (List.mem_of_getElem? (i := 1) rfl)) (fun _ h9 => h9) rfl dX0_placeOf_31 ?_
    refine lv_imul hx hb dX0_placeOf_34 ?_
    refine lv_iload_n hx hb dX0_placeOf_35 rfl (lv_at hl 3 rfl) ?_
    refine lv_iadd hx hb dX0_placeOf_36 ?_
    have hF9 : (fX0_placeOf sn p1 p2 p3) = ((((p1 * (32 : Int32)) + p2) * (nI sn)) + p3) := by rw [fX0_placeOf, if_neg c_4, if_neg c_11, if_neg c_19]
    have hP9 : va_P D vwCl (wE cyD cyI cyJ cyZ ae av ab sn me vf lf sp sb no) H := hP
    have hD9 : va_D A (wE cyD cyI cyJ cyZ ae av ab sn me vf lf sp sb no) := hD
    exact W.iret (v := ((((p1 * (32 : Int32)) + p2) * (nI sn)) + p3)) hx hb hr (fun t ht hW => ⟨⟨((((p1 * (32 : Int32)) + p2) * (nI sn)) + p3), (), rfl, (by rw [hF9]), by rw [ht]; exact hP9, va_K.moved hW.alike hK, hD9⟩, hS.F ht⟩) hS.2.2 dX0_placeOf_37
  refine lv_iconst (v := (-1)) hx hb dX0_placeOf_22 (by decide) ?_
  have hF9 : (fX0_placeOf sn p1 p2 p3) = (-1 : Int32) := by rw [fX0_placeOf, if_neg c_4, if_neg c_11, if_pos c_19]
  have hP9 : va_P D vwCl (wE cyD cyI cyJ cyZ ae av ab sn me vf lf sp sb no) H := hP
  have hD9 : va_D A (wE cyD cyI cyJ cyZ ae av ab sn me vf lf sp sb no) := hD
  exact W.iret (v := (-1 : Int32)) hx hb hr (fun t ht hW => ⟨⟨(-1 : Int32), (), rfl, (by rw [hF9]), by rw [ht]; exact hP9, va_K.moved hW.alike hK, hD9⟩, hS.F ht⟩) hS.2.2 dX0_placeOf_23
theorem place_nI {sn : Nat} (hs : sn ≤ 64) {f p k : Int32} (h : ¬ fX0_placeOf sn f p k = -1) : ∃ F P K : Nat, F < 4 ∧ P < 32 ∧ K < sn ∧ f = nI F ∧ p = nI P ∧ k = nI K ∧ fX0_placeOf sn f p k = nI ((F * 32 + P) * sn + K) := by
  unfold fX0_placeOf at h ⊢
  by_cases h1 : fX3_isFrequency f = 0
  · rw [if_pos h1] at h; exact absurd rfl h
  · by_cases h2 : fX3_isPing p = 0
    · rw [if_neg h1, if_pos h2] at h; exact absurd rfl h
    · by_cases h3 : fX0_isSample sn k = 0
      · rw [if_neg h1, if_neg h2, if_pos h3] at h; exact absurd rfl h
      · rw [if_neg h1, if_neg h2, if_neg h3] at h ⊢
        unfold fX3_isFrequency at h1; unfold fX3_isPing at h2; unfold fX0_isSample at h3
        by_cases a1 : f < 0
        · rw [if_pos a1] at h1; exact absurd rfl h1
        rw [if_neg a1] at h1
        by_cases a2 : 4 ≤ f
        · rw [if_pos a2] at h1; exact absurd rfl h1
        by_cases b1 : p < 0
        · rw [if_pos b1] at h2; exact absurd rfl h2
        rw [if_neg b1] at h2
        by_cases b2 : 32 ≤ p
        · rw [if_pos b2] at h2; exact absurd rfl h2
        by_cases d1 : k < 0
        · rw [if_pos d1] at h3; exact absurd rfl h3
        rw [if_neg d1] at h3
        by_cases d2 : nI sn ≤ k
        · rw [if_pos d2] at h3; exact absurd rfl h3
        rcases pk_ix f (n := 4) (by decide) with q | q | ⟨F, hF, rfl⟩
        · exact absurd q a1
        · exact absurd q a2
        rcases pk_ix p (n := 32) (by decide) with q | q | ⟨P, hP, rfl⟩
        · exact absurd q b1
        · exact absurd q b2
        rcases pk_ix k (n := sn) (by omega) with q | q | ⟨K, hK, rfl⟩
        · exact absurd q d1
        · exact absurd q d2
        refine ⟨F, P, K, hF, hP, hK, rfl, rfl, rfl, ?_⟩
        have e1 : nI F * 32 = nI (F * 32) := pk_mul F 32
        rw [e1, nI_add, pk_mul, nI_add]
theorem place_lt {sn F P K : Nat} (hF : F < 4) (hP : P < 32) (hK : K < sn) : (F * 32 + P) * sn + K < 128 * sn := by
  have h : (F * 32 + P) * sn ≤ 127 * sn := Nat.mul_le_mul_right _ (by omega)
  omega
theorem place_in {sn : Nat} (hs : sn ≤ 64) {f p k : Int32} (h : ¬ fX0_placeOf sn f p k = -1) : vp_in (fX0_placeOf sn f p k) (128 * sn) := by
  obtain ⟨F, P, K, hF, hP, hK, _, _, _, e⟩ := place_nI hs h
  rw [e]; exact vp_in_nI (place_lt hF hP hK) (by omega)
theorem place_bd {sn : Nat} (hs : sn ≤ 64) {f p k : Int32} (h : ¬ fX0_placeOf sn f p k = -1) {vf : Nat → UInt64} {B : Nat} (hv : ∀ i, i < 128 * sn → bd B (vf i)) : bd B (vf (fX0_placeOf sn f p k).toNatClampNeg) := by
  obtain ⟨F, P, K, hF, hP, hK, _, _, _, e⟩ := place_nI hs h
  have := place_lt hF hP hK
  rw [e, nI_clamp (by omega)]; exact hv _ this
def fX0_tell (sn : Nat) (vf : Nat → UInt64) (p1 : Int32) (p2 : Int32) (p3 : Int32) (p4 : UInt64) : Int32 × (Nat → UInt64) := if (fX0_placeOf sn p1 p2 p3) = (-1 : Int32) then ((0 : Int32), vf) else (if (fX3_within p4 FP.dconst0 (4652007308841189376 : UInt64)) = 0 then ((0 : Int32), vf) else (((1 : Int32), (vf_upd vf (fX0_placeOf sn p1 p2 p3).toNatClampNeg p4))))
set_option maxHeartbeats 4000000 in
set_option maxRecDepth 100000 in
theorem c_X0_tell {l : Launch} {D : va_G} {cyD cyI cyJ cyZ : ClassId} (ae av ab : Nat) (sn : Nat) (me : UInt64) (vf : Nat → UInt64) (lf : Nat → Int32) (sp : UInt64) (sb : UInt64) (no : UInt64) (sz : Nat) (p1 : Int32) (p2 : Int32) (p3 : Int32) (p4 : UInt64) (hE : okE sn me vf sp sb no) : mZ l yX0_tell wsX0_tell ({ frames := 2, cells := 0, slots := 0, locals := 44 } : Room) D (kT cyD cyI cyJ cyZ) [.ref ae, .int p1, .int p2, .int p3, .double p4] (wE cyD cyI cyJ cyZ ae av ab sn me vf lf sp sb no) (wE cyD cyI cyJ cyZ ae av ab sn me ((fX0_tell sn vf p1 p2 p3 p4).2) lf sp sb no) sz ((fX0_tell sn vf p1 p2 p3 p4).1) 0 0 := by
  refine Met.ofW (cc := cX0_tell) (maxL := 7) (ret := (some .boolean)) (by decide) rfl ?_
  intro p e s m args below meth c s₁ B hml hv
  obtain ⟨rfl, hN, hsz, hP, hK, hD0⟩ := hv
  have hx := B.exec
  have hb := B.bytes
  have hr := B.returns
  have hts := atoms_spec (ws := wsX0_tell) B.pre
  have hown : s.vm.findClass RX0 = some m.cls := findClass_of_methodNamed B.named
  have hlocks := B.notSynchronized
  subst hsz
  have hD := hD0.self (sz := s.heap.size)
  generalize hAe : va_A (wE cyD cyI cyJ cyZ ae av ab sn me vf lf sp sb no) s.heap.size = A at hD ⊢
  have hA : ∀ q : Nat, s.heap.size ≤ q → A q := fun q h => by rw [← hAe]; exact Or.inr h
  have hS : va_S A s.heap s.heap [] := va_S.rf
  have hP : va_P D vwCl (wE cyD cyI cyJ cyZ ae av ab sn me vf lf sp sb no) s.heap := hP
  have hl := lv_entry [.ref ae, .int p1, .int p2, .int p3, .double p4] (n := 7) (Nat.le_of_ble_eq_true rfl)
  rw [lg_entry_eq]
  generalize (lg_sl [.ref ae, .int p1, .int p2, .int p3, .double p4] ++ List.replicate (7 - (lg_sl [.ref ae, .int p1, .int p2, .int p3, .double p4]).length) Slot.unset).toArray = ls at hl ⊢
  have hl : lv_has ls 7 [(0, .ref ae), (1, .int p1), (2, .int p2), (3, .int p3), (4, .double p4)] := hl
  obtain ⟨H, hHe⟩ : ∃ H : Heap, H = s.heap := ⟨_, rfl⟩
  have hP : va_P D vwCl (wE cyD cyI cyJ cyZ ae av ab sn me vf lf sp sb no) H := by rw [hHe]; exact hP
  have hS : va_S A s.heap H [] := by rw [hHe]; exact hS
  rw [← hHe]
  refine lv_aload_n hx hb dX0_tell_0 rfl (lv_at hl 0 rfl) ?_
  refine lv_iload_n hx hb dX0_tell_1 rfl (lv_at hl 1 rfl) ?_
  refine lv_iload_n hx hb dX0_tell_2 rfl (lv_at hl 2 rfl) ?_
  refine lv_iload_n hx hb dX0_tell_3 rfl (lv_at hl 3 rfl) ?_
  have hPc : va_P D vwCl (wE cyD cyI cyJ cyZ ae av ab sn me vf lf sp sb no) H := hP.sub [0, 1, 2] rfl
  have hDc : va_D A (wE cyD cyI cyJ cyZ ae av ab sn me vf lf sp sb no) := hD.sub [0, 1, 2] (by decide) rfl
  refine kiE (ws' := (wE cyD cyI cyJ cyZ ae av ab sn me vf lf sp sb no)) (wc := (wE cyD cyI cyJ cyZ ae av ab sn me vf lf sp sb no)) (wr := []) (w1 := (wE cyD cyI cyJ cyZ ae av ab sn me vf lf sp sb no)) (va_runV (As := [.int p1, .int p2, .int p3]) (rest := []) ⟨hx, hb, hml, hown, hts⟩ (c_X0_placeOf (l := l) (D := D) (cyD := cyD) (cyI := cyI) (cyJ := cyJ) (cyZ := cyZ) ae av ab sn me vf lf sp sb no H.size p1 p2 p3) (cwV 3 hts gX0_tell_X0_placeOf rfl rfl rfl (by decide +kernel) ⟨Nat.le_of_ble_eq_true rfl, Nat.le_of_ble_eq_true rfl⟩) (kV (ci := 0) (q0 := 0) (q := (RX0, TX0, 7)) hN hK hPc hDc rfl rfl rfl) rfl rfl hl.1 rfl (lv_room (Nat.le_of_ble_eq_true rfl)) dX0_tell_4 ⟨Nat.le_of_ble_eq_true rfl, Nat.le_of_ble_eq_true rfl⟩) hP hD hS hA [0, 1, 2] [] [0, 1, 2] rfl rfl (by decide) (by decide) rfl (by decide) (fun H locs hP hD hS => ?_)
  refine lv_istore (lv' := [(6, .int (fX0_placeOf sn p1 p2 p3)), (0, .ref ae), (1, .int p1), (2, .int p2), (3, .int p3), (4, .double p4)]) hx hb dX0_tell_7 hl (by decide) rfl (fun ls hl => ?_)
  refine lv_iload hx hb dX0_tell_9 (lv_at hl 0 rfl) ?_
  refine lv_iconst (v := (-1)) hx hb dX0_tell_11 (by decide) ?_
  refine lv_icmp_eq (tgt := 27) hx hb dX0_tell_12 (by decide) (fun c_12 => ?_) (fun c_12 => ?_)
  · refine lv_iconst (v := 0) hx hb dX0_tell_27 (by decide) ?_
    have hF9 : (fX0_tell sn vf p1 p2 p3 p4) = ((0 : Int32), vf) := by rw [fX0_tell, if_pos c_12]
    have hP9 : va_P D vwCl (wE cyD cyI cyJ cyZ ae av ab sn me ((fX0_tell sn vf p1 p2 p3 p4).2) lf sp sb no) H := by rw [hF9]; exact hP
    have hD9 : va_D A (wE cyD cyI cyJ cyZ ae av ab sn me ((fX0_tell sn vf p1 p2 p3 p4).2) lf sp sb no) := by rw [hF9]; exact hD
    exact W.zret (v := (0 : Int32)) hx hb hr (nar_z (Or.inl rfl)) (fun t ht hW => ⟨⟨(0 : Int32), (), rfl, ⟨(by rw [hF9]), (Or.inl rfl)⟩, by rw [ht]; exact hP9, va_K.moved hW.alike hK, hD9⟩, hS.F ht⟩) hS.2.2 dX0_tell_28
  refine lv_dload hx hb dX0_tell_15 (lv_at hl 5 rfl) ?_
  refine lv_dconst0 hx hb dX0_tell_17 ?_
  refine lv_ldc2d (v := 4652007308841189376) hx hb hown (hts (.constantDouble RX0 59 (4652007308841189376)) (List.mem_of_getElem? (i := 1) rfl)) dX0_tell_18 ?_
  have hPc : va_P D vwCl [] H := hP.sub [] rfl
  have hDc : va_D A [] := hD.sub [] (by decide) rfl
  refine kzE (ws' := (wE cyD cyI cyJ cyZ ae av ab sn me vf lf sp sb no)) (wc := []) (wr := [(ae, .inr (0, [.int (nI sn), .double me, .ref av, .ref ab, .double sp, .double sb, .double no])), (av, .inl (cyD, 128 * sn, .inr (.inr (.inr (.inl vf))))), (ab, .inl (cyZ, 32, .inl lf))]) (w1 := []) (va_runSN (As := [.double p4, .double FP.dconst0, .double (4652007308841189376 : UInt64)]) (rest := []) ⟨hx, hb, hml, hown, hts⟩ (c_X3_within (l := l) (D := D) (cyD := cyD) (cyI := cyI) (cyJ := cyJ) (cyZ := cyZ) H.size p4 FP.dconst0 (4652007308841189376 : UInt64)) ⟨va_cnB 3 hts gX0_tell_X3_within_n61 rfl rfl rfl hN.2.2.2.1 (hts (.initialized RX3) (List.mem_of_getElem? (i := 10) rfl)) (by decide +kernel) ⟨Nat.le_of_ble_eq_true rfl, Nat.le_of_ble_eq_true rfl⟩, (hts (.static yX3_within) (List.mem_of_getElem? (i := 18) rfl)), trivial⟩ (kS hN hK hPc hDc) rfl rfl hl.1 rfl (lv_room (Nat.le_of_ble_eq_true rfl)) dX0_tell_21 ⟨Nat.le_of_ble_eq_true rfl, Nat.le_of_ble_eq_true rfl⟩) hP hD hS hA [] [0, 1, 2] [0, 1, 2] rfl rfl (by decide) (by decide) rfl (by decide) (fun H locs hz_21 hP hD hS => ?_)
  refine lv_if_ne (tgt := 29) hx hb dX0_tell_24 (by decide) (fun c_24 => ?_) (fun c_24 => ?_)
  · refine lv_aload_n hx hb dX0_tell_29 rfl (lv_at hl 1 rfl) ?_
    refine va_get (D := D) (ci := 0) (v := .ref av) (C := RX0) (T := TX0) (N := 7) hx hb hts (fun _ h => (List.mem_cons_of_mem _ (List.mem_append_right _ h))) hown hK hP 0 rfl rfl 2 (by decide) (hts (.fieldLink RX0 43 "BottomWalks$Echoes" "values" "[D") (List.mem_of_getElem? (i := 2) rfl)) (fun _ h9 => h9) rfl dX0_tell_30 ?_
    refine lv_iload hx hb dX0_tell_33 (lv_at hl 0 rfl) ?_
    refine lv_dload hx hb dX0_tell_35 (lv_at hl 5 rfl) ?_
    refine va_dast hx hb hK hP hD hS 1 0 rfl rfl (place_in hE.2.1 c_12) dX0_tell_37 (fun H locs hP hD hS => ?_)
    have hP : va_P D vwCl (wE cyD cyI cyJ cyZ ae av ab sn me (vf_upd vf (fX0_placeOf sn p1 p2 p3).toNatClampNeg p4) lf sp sb no) H := hP
    have hD : va_D A (wE cyD cyI cyJ cyZ ae av ab sn me (vf_upd vf (fX0_placeOf sn p1 p2 p3).toNatClampNeg p4) lf sp sb no) := hD
    refine lv_iconst (v := 1) hx hb dX0_tell_38 (by decide) ?_
    have hF9 : (fX0_tell sn vf p1 p2 p3 p4) = ((1 : Int32), (vf_upd vf (fX0_placeOf sn p1 p2 p3).toNatClampNeg p4)) := by rw [fX0_tell, if_neg c_12, if_neg c_24]
    have hP9 : va_P D vwCl (wE cyD cyI cyJ cyZ ae av ab sn me ((fX0_tell sn vf p1 p2 p3 p4).2) lf sp sb no) H := by rw [hF9]; exact hP
    have hD9 : va_D A (wE cyD cyI cyJ cyZ ae av ab sn me ((fX0_tell sn vf p1 p2 p3 p4).2) lf sp sb no) := by rw [hF9]; exact hD
    exact W.zret (v := (1 : Int32)) hx hb hr (nar_z (Or.inr rfl)) (fun t ht hW => ⟨⟨(1 : Int32), (), rfl, ⟨(by rw [hF9]), (Or.inr rfl)⟩, by rw [ht]; exact hP9, va_K.moved hW.alike hK, hD9⟩, hS.F ht⟩) hS.2.2 dX0_tell_39
  refine lv_iconst (v := 0) hx hb dX0_tell_27 (by decide) ?_
  have hF9 : (fX0_tell sn vf p1 p2 p3 p4) = ((0 : Int32), vf) := by rw [fX0_tell, if_neg c_12, if_pos c_24]
  have hP9 : va_P D vwCl (wE cyD cyI cyJ cyZ ae av ab sn me ((fX0_tell sn vf p1 p2 p3 p4).2) lf sp sb no) H := by rw [hF9]; exact hP
  have hD9 : va_D A (wE cyD cyI cyJ cyZ ae av ab sn me ((fX0_tell sn vf p1 p2 p3 p4).2) lf sp sb no) := by rw [hF9]; exact hD
  exact W.zret (v := (0 : Int32)) hx hb hr (nar_z (Or.inl rfl)) (fun t ht hW => ⟨⟨(0 : Int32), (), rfl, ⟨(by rw [hF9]), (Or.inl rfl)⟩, by rw [ht]; exact hP9, va_K.moved hW.alike hK, hD9⟩, hS.F ht⟩) hS.2.2 dX0_tell_28
def fX0_lose (lf : Nat → Int32) (p1 : Int32) : Int32 × (Nat → Int32) := if (fX3_isPing p1) = 0 then ((0 : Int32), lf) else (((1 : Int32), (upd lf p1.toNatClampNeg (vp_nar .boolean (1 : Int32)))))
set_option maxHeartbeats 4000000 in
set_option maxRecDepth 100000 in
theorem c_X0_lose {l : Launch} {D : va_G} {cyD cyI cyJ cyZ : ClassId} (ae av ab : Nat) (sn : Nat) (me : UInt64) (vf : Nat → UInt64) (lf : Nat → Int32) (sp : UInt64) (sb : UInt64) (no : UInt64) (sz : Nat) (p1 : Int32)  : mZ l yX0_lose wsX0_lose ({ frames := 1, cells := 0, slots := 0, locals := 20 } : Room) D (kT cyD cyI cyJ cyZ) [.ref ae, .int p1] (wE cyD cyI cyJ cyZ ae av ab sn me vf lf sp sb no) (wE cyD cyI cyJ cyZ ae av ab sn me vf ((fX0_lose lf p1).2) sp sb no) sz ((fX0_lose lf p1).1) 0 0 := by
  refine Met.ofW (cc := cX0_lose) (maxL := 2) (ret := (some .boolean)) (by decide) rfl ?_
  intro p e s m args below meth c s₁ B hml hv
  obtain ⟨rfl, hN, hsz, hP, hK, hD0⟩ := hv
  have hx := B.exec
  have hb := B.bytes
  have hr := B.returns
  have hts := atoms_spec (ws := wsX0_lose) B.pre
  have hown : s.vm.findClass RX0 = some m.cls := findClass_of_methodNamed B.named
  have hlocks := B.notSynchronized
  subst hsz
  have hD := hD0.self (sz := s.heap.size)
  generalize hAe : va_A (wE cyD cyI cyJ cyZ ae av ab sn me vf lf sp sb no) s.heap.size = A at hD ⊢
  have hA : ∀ q : Nat, s.heap.size ≤ q → A q := fun q h => by rw [← hAe]; exact Or.inr h
  have hS : va_S A s.heap s.heap [] := va_S.rf
  have hP : va_P D vwCl (wE cyD cyI cyJ cyZ ae av ab sn me vf lf sp sb no) s.heap := hP
  have hl := lv_entry [.ref ae, .int p1] (n := 2) (Nat.le_of_ble_eq_true rfl)
  rw [lg_entry_eq]
  generalize (lg_sl [.ref ae, .int p1] ++ List.replicate (2 - (lg_sl [.ref ae, .int p1]).length) Slot.unset).toArray = ls at hl ⊢
  have hl : lv_has ls 2 [(0, .ref ae), (1, .int p1)] := hl
  obtain ⟨H, hHe⟩ : ∃ H : Heap, H = s.heap := ⟨_, rfl⟩
  have hP : va_P D vwCl (wE cyD cyI cyJ cyZ ae av ab sn me vf lf sp sb no) H := by rw [hHe]; exact hP
  have hS : va_S A s.heap H [] := by rw [hHe]; exact hS
  rw [← hHe]
  refine lv_iload_n hx hb dX0_lose_0 rfl (lv_at hl 1 rfl) ?_
  have hPc : va_P D vwCl [] H := hP.sub [] rfl
  have hDc : va_D A [] := hD.sub [] (by decide) rfl
  refine kzE (ws' := (wE cyD cyI cyJ cyZ ae av ab sn me vf lf sp sb no)) (wc := []) (wr := [(ae, .inr (0, [.int (nI sn), .double me, .ref av, .ref ab, .double sp, .double sb, .double no])), (av, .inl (cyD, 128 * sn, .inr (.inr (.inr (.inl vf))))), (ab, .inl (cyZ, 32, .inl lf))]) (w1 := []) (va_runSN (As := [.int p1]) (rest := []) ⟨hx, hb, hml, hown, hts⟩ (c_X3_isPing (l := l) (D := D) (cyD := cyD) (cyI := cyI) (cyJ := cyJ) (cyZ := cyZ) H.size p1) ⟨va_cnB 1 hts gX0_lose_X3_isPing_n65 rfl rfl rfl hN.2.2.1 (hts (.initialized RX3) (List.mem_of_getElem? (i := 3) rfl)) (by decide +kernel) ⟨Nat.le_of_ble_eq_true rfl, Nat.le_of_ble_eq_true rfl⟩, (hts (.static yX3_isPing) (List.mem_of_getElem? (i := 2) rfl)), trivial⟩ (kS hN hK hPc hDc) rfl rfl hl.1 rfl (lv_room (Nat.le_of_ble_eq_true rfl)) dX0_lose_1 ⟨Nat.le_of_ble_eq_true rfl, Nat.le_of_ble_eq_true rfl⟩) hP hD hS hA [] [0, 1, 2] [0, 1, 2] rfl rfl (by decide) (by decide) rfl (by decide) (fun H locs hz_1 hP hD hS => ?_)
  refine lv_if_ne (tgt := 9) hx hb dX0_lose_4 (by decide) (fun c_4 => ?_) (fun c_4 => ?_)
  · refine lv_aload_n hx hb dX0_lose_9 rfl (lv_at hl 0 rfl) ?_
    refine va_get (D := D) (ci := 0) (v := .ref ab) (C := RX0) (T := TX0) (N := 7) hx hb hts (fun _ h => (List.mem_cons_of_mem _ (List.mem_append_right _ h))) hown hK hP 0 rfl rfl 3 (by decide) (hts (.fieldLink RX0 9 "BottomWalks$Echoes" "lostPings" "[Z") (List.mem_of_getElem? (i := 1) rfl)) (fun _ h9 => h9) rfl dX0_lose_10 ?_
    refine lv_iload_n hx hb dX0_lose_13 rfl (lv_at hl 1 rfl) ?_
    refine lv_iconst (v := 1) hx hb dX0_lose_14 (by decide) ?_
    refine va_zast hx hb hK hP hD hS 2 3 rfl rfl (ping_in c_4) dX0_lose_15 (fun H locs hP hD hS => ?_)
    have hP : va_P D vwCl (wE cyD cyI cyJ cyZ ae av ab sn me vf (upd lf p1.toNatClampNeg (vp_nar .boolean (1 : Int32))) sp sb no) H := hP
    have hD : va_D A (wE cyD cyI cyJ cyZ ae av ab sn me vf (upd lf p1.toNatClampNeg (vp_nar .boolean (1 : Int32))) sp sb no) := hD
    refine lv_iconst (v := 1) hx hb dX0_lose_16 (by decide) ?_
    have hF9 : (fX0_lose lf p1) = ((1 : Int32), (upd lf p1.toNatClampNeg (vp_nar .boolean (1 : Int32)))) := by rw [fX0_lose, if_neg c_4]
    have hP9 : va_P D vwCl (wE cyD cyI cyJ cyZ ae av ab sn me vf ((fX0_lose lf p1).2) sp sb no) H := by rw [hF9]; exact hP
    have hD9 : va_D A (wE cyD cyI cyJ cyZ ae av ab sn me vf ((fX0_lose lf p1).2) sp sb no) := by rw [hF9]; exact hD
    exact W.zret (v := (1 : Int32)) hx hb hr (nar_z (Or.inr rfl)) (fun t ht hW => ⟨⟨(1 : Int32), (), rfl, ⟨(by rw [hF9]), (Or.inr rfl)⟩, by rw [ht]; exact hP9, va_K.moved hW.alike hK, hD9⟩, hS.F ht⟩) hS.2.2 dX0_lose_17
  refine lv_iconst (v := 0) hx hb dX0_lose_7 (by decide) ?_
  have hF9 : (fX0_lose lf p1) = ((0 : Int32), lf) := by rw [fX0_lose, if_pos c_4]
  have hP9 : va_P D vwCl (wE cyD cyI cyJ cyZ ae av ab sn me vf ((fX0_lose lf p1).2) sp sb no) H := by rw [hF9]; exact hP
  have hD9 : va_D A (wE cyD cyI cyJ cyZ ae av ab sn me vf ((fX0_lose lf p1).2) sp sb no) := by rw [hF9]; exact hD
  exact W.zret (v := (0 : Int32)) hx hb hr (nar_z (Or.inl rfl)) (fun t ht hW => ⟨⟨(0 : Int32), (), rfl, ⟨(by rw [hF9]), (Or.inl rfl)⟩, by rw [ht]; exact hP9, va_K.moved hW.alike hK, hD9⟩, hS.F ht⟩) hS.2.2 dX0_lose_8
def fX0_isLost (lf : Nat → Int32) (p1 : Int32) : Int32 := if (fX3_isPing p1) = 0 then (0 : Int32) else (if (lf p1.toNatClampNeg) = 0 then (0 : Int32) else ((1 : Int32)))
set_option maxHeartbeats 4000000 in
set_option maxRecDepth 100000 in
theorem c_X0_isLost {l : Launch} {D : va_G} {cyD cyI cyJ cyZ : ClassId} (ae av ab : Nat) (sn : Nat) (me : UInt64) (vf : Nat → UInt64) (lf : Nat → Int32) (sp : UInt64) (sb : UInt64) (no : UInt64) (sz : Nat) (p1 : Int32)  : mZ l yX0_isLost wsX0_isLost ({ frames := 1, cells := 0, slots := 0, locals := 20 } : Room) D (kT cyD cyI cyJ cyZ) [.ref ae, .int p1] (wE cyD cyI cyJ cyZ ae av ab sn me vf lf sp sb no) (wE cyD cyI cyJ cyZ ae av ab sn me vf lf sp sb no) sz (fX0_isLost lf p1) 0 0 := by
  refine Met.ofW (cc := cX0_isLost) (maxL := 2) (ret := (some .boolean)) (by decide) rfl ?_
  intro p e s m args below meth c s₁ B hml hv
  obtain ⟨rfl, hN, hsz, hP, hK, hD0⟩ := hv
  have hx := B.exec
  have hb := B.bytes
  have hr := B.returns
  have hts := atoms_spec (ws := wsX0_isLost) B.pre
  have hown : s.vm.findClass RX0 = some m.cls := findClass_of_methodNamed B.named
  have hlocks := B.notSynchronized
  subst hsz
  have hD := hD0.self (sz := s.heap.size)
  generalize hAe : va_A (wE cyD cyI cyJ cyZ ae av ab sn me vf lf sp sb no) s.heap.size = A at hD ⊢
  have hA : ∀ q : Nat, s.heap.size ≤ q → A q := fun q h => by rw [← hAe]; exact Or.inr h
  have hS : va_S A s.heap s.heap [] := va_S.rf
  have hP : va_P D vwCl (wE cyD cyI cyJ cyZ ae av ab sn me vf lf sp sb no) s.heap := hP
  have hl := lv_entry [.ref ae, .int p1] (n := 2) (Nat.le_of_ble_eq_true rfl)
  rw [lg_entry_eq]
  generalize (lg_sl [.ref ae, .int p1] ++ List.replicate (2 - (lg_sl [.ref ae, .int p1]).length) Slot.unset).toArray = ls at hl ⊢
  have hl : lv_has ls 2 [(0, .ref ae), (1, .int p1)] := hl
  obtain ⟨H, hHe⟩ : ∃ H : Heap, H = s.heap := ⟨_, rfl⟩
  have hP : va_P D vwCl (wE cyD cyI cyJ cyZ ae av ab sn me vf lf sp sb no) H := by rw [hHe]; exact hP
  have hS : va_S A s.heap H [] := by rw [hHe]; exact hS
  rw [← hHe]
  refine lv_iload_n hx hb dX0_isLost_0 rfl (lv_at hl 1 rfl) ?_
  have hPc : va_P D vwCl [] H := hP.sub [] rfl
  have hDc : va_D A [] := hD.sub [] (by decide) rfl
  refine kzE (ws' := (wE cyD cyI cyJ cyZ ae av ab sn me vf lf sp sb no)) (wc := []) (wr := [(ae, .inr (0, [.int (nI sn), .double me, .ref av, .ref ab, .double sp, .double sb, .double no])), (av, .inl (cyD, 128 * sn, .inr (.inr (.inr (.inl vf))))), (ab, .inl (cyZ, 32, .inl lf))]) (w1 := []) (va_runSN (As := [.int p1]) (rest := []) ⟨hx, hb, hml, hown, hts⟩ (c_X3_isPing (l := l) (D := D) (cyD := cyD) (cyI := cyI) (cyJ := cyJ) (cyZ := cyZ) H.size p1) ⟨va_cnB 1 hts gX0_isLost_X3_isPing_n65 rfl rfl rfl hN.2.2.1 (hts (.initialized RX3) (List.mem_of_getElem? (i := 3) rfl)) (by decide +kernel) ⟨Nat.le_of_ble_eq_true rfl, Nat.le_of_ble_eq_true rfl⟩, (hts (.static yX3_isPing) (List.mem_of_getElem? (i := 2) rfl)), trivial⟩ (kS hN hK hPc hDc) rfl rfl hl.1 rfl (lv_room (Nat.le_of_ble_eq_true rfl)) dX0_isLost_1 ⟨Nat.le_of_ble_eq_true rfl, Nat.le_of_ble_eq_true rfl⟩) hP hD hS hA [] [0, 1, 2] [0, 1, 2] rfl rfl (by decide) (by decide) rfl (by decide) (fun H locs hz_1 hP hD hS => ?_)
  refine lv_if_eq (tgt := 20) hx hb dX0_isLost_4 (by decide) (fun c_4 => ?_) (fun c_4 => ?_)
  · refine lv_iconst (v := 0) hx hb dX0_isLost_20 (by decide) ?_
    have hF9 : (fX0_isLost lf p1) = (0 : Int32) := by rw [fX0_isLost, if_pos c_4]
    have hP9 : va_P D vwCl (wE cyD cyI cyJ cyZ ae av ab sn me vf lf sp sb no) H := hP
    have hD9 : va_D A (wE cyD cyI cyJ cyZ ae av ab sn me vf lf sp sb no) := hD
    exact W.zret (v := (0 : Int32)) hx hb hr (nar_z (Or.inl rfl)) (fun t ht hW => ⟨⟨(0 : Int32), (), rfl, ⟨(by rw [hF9]), (Or.inl rfl)⟩, by rw [ht]; exact hP9, va_K.moved hW.alike hK, hD9⟩, hS.F ht⟩) hS.2.2 dX0_isLost_21
  refine lv_aload_n hx hb dX0_isLost_7 rfl (lv_at hl 0 rfl) ?_
  refine va_get (D := D) (ci := 0) (v := .ref ab) (C := RX0) (T := TX0) (N := 7) hx hb hts (fun _ h => (List.mem_cons_of_mem _ (List.mem_append_right _ h))) hown hK hP 0 rfl rfl 3 (by decide) (hts (.fieldLink RX0 9 "BottomWalks$Echoes" "lostPings" "[Z") (List.mem_of_getElem? (i := 1) rfl)) (fun _ h9 => h9) rfl dX0_isLost_8 ?_
  refine lv_iload_n hx hb dX0_isLost_11 rfl (lv_at hl 1 rfl) ?_
  refine va_zald hx hb hK hP 2 3 rfl rfl (ping_in c_4) dX0_isLost_12 ?_
  refine lv_if_eq (tgt := 20) hx hb dX0_isLost_13 (by decide) (fun c_13 => ?_) (fun c_13 => ?_)
  · refine lv_iconst (v := 0) hx hb dX0_isLost_20 (by decide) ?_
    have hF9 : (fX0_isLost lf p1) = (0 : Int32) := by rw [fX0_isLost, if_neg c_4, if_pos c_13]
    have hP9 : va_P D vwCl (wE cyD cyI cyJ cyZ ae av ab sn me vf lf sp sb no) H := hP
    have hD9 : va_D A (wE cyD cyI cyJ cyZ ae av ab sn me vf lf sp sb no) := hD
    exact W.zret (v := (0 : Int32)) hx hb hr (nar_z (Or.inl rfl)) (fun t ht hW => ⟨⟨(0 : Int32), (), rfl, ⟨(by rw [hF9]), (Or.inl rfl)⟩, by rw [ht]; exact hP9, va_K.moved hW.alike hK, hD9⟩, hS.F ht⟩) hS.2.2 dX0_isLost_21
  refine lv_iconst (v := 1) hx hb dX0_isLost_16 (by decide) ?_
  refine lv_goto (tgt := 21) hx hb dX0_isLost_17 (by decide) ?_
  have hF9 : (fX0_isLost lf p1) = (1 : Int32) := by rw [fX0_isLost, if_neg c_4, if_neg c_13]
  have hP9 : va_P D vwCl (wE cyD cyI cyJ cyZ ae av ab sn me vf lf sp sb no) H := hP
  have hD9 : va_D A (wE cyD cyI cyJ cyZ ae av ab sn me vf lf sp sb no) := hD
  exact W.zret (v := (1 : Int32)) hx hb hr (nar_z (Or.inr rfl)) (fun t ht hW => ⟨⟨(1 : Int32), (), rfl, ⟨(by rw [hF9]), (Or.inr rfl)⟩, by rw [ht]; exact hP9, va_K.moved hW.alike hK, hD9⟩, hS.F ht⟩) hS.2.2 dX0_isLost_21
def fX0_isSilent_L2 (sn : Nat) (vf : Nat → UInt64)  (p1 : Int32) (p2 : Int32) : Nat → (Int32) → Int32
  | 0, v_j => 0
  | k + 1, v_j => if (nI sn) ≤ v_j then (1 : Int32) else (if (fX0_placeOf sn p1 p2 (v_j)) = (-1 : Int32) then (fX0_isSilent_L2 sn vf p1 p2 k ((v_j) + 1)) else (if (Op.cmpValue (FP.dcmp (vf (fX0_placeOf sn p1 p2 (v_j)).toNatClampNeg) FP.dconst0) CmpOp.l) < 0 then (fX0_isSilent_L2 sn vf p1 p2 k ((v_j) + 1)) else ((0 : Int32))))
def fX0_isSilent (sn : Nat) (vf : Nat → UInt64) (p1 : Int32) (p2 : Int32) : Int32 := (fX0_isSilent_L2 sn vf p1 p2 65 (0 : Int32))
set_option maxHeartbeats 4000000 in
set_option maxRecDepth 100000 in
theorem c_X0_isSilent {l : Launch} {D : va_G} {cyD cyI cyJ cyZ : ClassId} (ae av ab : Nat) (sn : Nat) (me : UInt64) (vf : Nat → UInt64) (lf : Nat → Int32) (sp : UInt64) (sb : UInt64) (no : UInt64) (sz : Nat) (p1 : Int32) (p2 : Int32) (hE : okE sn me vf sp sb no) : mZ l yX0_isSilent wsX0_isSilent ({ frames := 2, cells := 0, slots := 0, locals := 44 } : Room) D (kT cyD cyI cyJ cyZ) [.ref ae, .int p1, .int p2] (wE cyD cyI cyJ cyZ ae av ab sn me vf lf sp sb no) (wE cyD cyI cyJ cyZ ae av ab sn me vf lf sp sb no) sz (fX0_isSilent sn vf p1 p2) 0 0 := by
  refine Met.ofW (cc := cX0_isSilent) (maxL := 5) (ret := (some .boolean)) (by decide) rfl ?_
  intro p e s m args below meth c s₁ B hml hv
  obtain ⟨rfl, hN, hsz, hP, hK, hD0⟩ := hv
  have hx := B.exec
  have hb := B.bytes
  have hr := B.returns
  have hts := atoms_spec (ws := wsX0_isSilent) B.pre
  have hown : s.vm.findClass RX0 = some m.cls := findClass_of_methodNamed B.named
  have hlocks := B.notSynchronized
  subst hsz
  have hD := hD0.self (sz := s.heap.size)
  generalize hAe : va_A (wE cyD cyI cyJ cyZ ae av ab sn me vf lf sp sb no) s.heap.size = A at hD ⊢
  have hA : ∀ q : Nat, s.heap.size ≤ q → A q := fun q h => by rw [← hAe]; exact Or.inr h
  have hS : va_S A s.heap s.heap [] := va_S.rf
  have hP : va_P D vwCl (wE cyD cyI cyJ cyZ ae av ab sn me vf lf sp sb no) s.heap := hP
  have hl := lv_entry [.ref ae, .int p1, .int p2] (n := 5) (Nat.le_of_ble_eq_true rfl)
  rw [lg_entry_eq]
  generalize (lg_sl [.ref ae, .int p1, .int p2] ++ List.replicate (5 - (lg_sl [.ref ae, .int p1, .int p2]).length) Slot.unset).toArray = ls at hl ⊢
  have hl : lv_has ls 5 [(0, .ref ae), (1, .int p1), (2, .int p2)] := hl
  obtain ⟨H, hHe⟩ : ∃ H : Heap, H = s.heap := ⟨_, rfl⟩
  have hP : va_P D vwCl (wE cyD cyI cyJ cyZ ae av ab sn me vf lf sp sb no) H := by rw [hHe]; exact hP
  have hS : va_S A s.heap H [] := by rw [hHe]; exact hS
  rw [← hHe]
  refine lv_iconst (v := 0) hx hb dX0_isSilent_0 (by decide) ?_
  refine lv_istore_n (lv' := [(3, .int (0 : Int32)), (0, .ref ae), (1, .int p1), (2, .int p2)]) hx hb dX0_isSilent_1 rfl hl (by decide) rfl (fun ls hl => ?_)
  have loop_2 : ∀ (k : Nat) (j : Nat) (H : Heap) (locs : List Loc), (j + k = 65) → (j ≤ sn) → (fX0_isSilent sn vf p1 p2) = fX0_isSilent_L2 sn vf p1 p2 k ((nI j)) → va_P D vwCl (wE cyD cyI cyJ cyZ ae av ab sn me vf lf sp sb no) H → va_D A (wE cyD cyI cyJ cyZ ae av ab sn me vf lf sp sb no) → va_S A s.heap H locs → ∀ ls, lv_has ls 5 [(3, .int ((nI j))), (0, .ref ae), (1, .int p1), (2, .int p2)] → W p l e (headSpec wsX0_isSilent ({ frames := 2, cells := 0, slots := 0, locals := 44 } : Room)).room s m ([.ref ae, .int p1, .int p2] : List Value).toArray below meth c H locs 0 0 (MQ below (va_Qi (fun (r : Int32) (_ : Unit) => r = (fX0_isSilent sn vf p1 p2) ∧ (r = 0 ∨ r = 1)) (kE D (kT cyD cyI cyJ cyZ) (wE cyD cyI cyJ cyZ ae av ab sn me vf lf sp sb no) A) A) ([.ref ae, .int p1, .int p2] : List Value).toArray s 0 0 A) (F0 m 2 ls []) := by
    intro k
    induction k with
    | zero => intro j H locs hj hj2 hF hP hD hS ls hl; exact absurd hE.2.1 (by omega)
    | succ k ih =>
      intro j H locs hj hj2 hF hP hD hS ls hl
      have hs64 := hE.2.1
      refine lv_iload_n hx hb dX0_isSilent_2 rfl (lv_at hl 0 rfl) ?_
      refine lv_aload_n hx hb dX0_isSilent_3 rfl (lv_at hl 1 rfl) ?_
      refine va_get (D := D) (ci := 0) (v := .int (nI sn)) (C := RX0) (T := TX0) (N := 7) hx hb hts (fun _ h => (List.mem_cons_of_mem _ (List.mem_append_right _ h))) hown hK hP 0 rfl rfl 0 (by decide) (hts (.fieldLink RX0 34 "BottomWalks$Echoes" "samples" "I") (List.mem_of_getElem? (i := 1) rfl)) (fun _ h9 => h9) rfl dX0_isSilent_4 ?_
      refine lv_icmp_ge (tgt := 45) hx hb dX0_isSilent_7 (by decide) (fun c_7 => ?_) (fun c_7 => ?_)
      · refine lv_iconst (v := 1) hx hb dX0_isSilent_45 (by decide) ?_
        have hF9 : (fX0_isSilent sn vf p1 p2) = (1 : Int32) := by rw [hF, fX0_isSilent_L2, if_pos c_7]
        have hP9 : va_P D vwCl (wE cyD cyI cyJ cyZ ae av ab sn me vf lf sp sb no) H := hP
        have hD9 : va_D A (wE cyD cyI cyJ cyZ ae av ab sn me vf lf sp sb no) := hD
        exact W.zret (v := (1 : Int32)) hx hb hr (nar_z (Or.inr rfl)) (fun t ht hW => ⟨⟨(1 : Int32), (), rfl, ⟨(by rw [hF9]), (Or.inr rfl)⟩, by rw [ht]; exact hP9, va_K.moved hW.alike hK, hD9⟩, hS.F ht⟩) hS.2.2 dX0_isSilent_46
      refine lv_aload_n hx hb dX0_isSilent_10 rfl (lv_at hl 1 rfl) ?_
      refine lv_iload_n hx hb dX0_isSilent_11 rfl (lv_at hl 2 rfl) ?_
      refine lv_iload_n hx hb dX0_isSilent_12 rfl (lv_at hl 3 rfl) ?_
      refine lv_iload_n hx hb dX0_isSilent_13 rfl (lv_at hl 0 rfl) ?_
      have hPc : va_P D vwCl (wE cyD cyI cyJ cyZ ae av ab sn me vf lf sp sb no) H := hP.sub [0, 1, 2] rfl
      have hDc : va_D A (wE cyD cyI cyJ cyZ ae av ab sn me vf lf sp sb no) := hD.sub [0, 1, 2] (by decide) rfl
      refine kiE (ws' := (wE cyD cyI cyJ cyZ ae av ab sn me vf lf sp sb no)) (wc := (wE cyD cyI cyJ cyZ ae av ab sn me vf lf sp sb no)) (wr := []) (w1 := (wE cyD cyI cyJ cyZ ae av ab sn me vf lf sp sb no)) (va_runV (As := [.int p1, .int p2, .int ((nI j))]) (rest := []) ⟨hx, hb, hml, hown, hts⟩ (c_X0_placeOf (l := l) (D := D) (cyD := cyD) (cyI := cyI) (cyJ := cyJ) (cyZ := cyZ) ae av ab sn me vf lf sp sb no H.size p1 p2 ((nI j))) (cwV 3 hts gX0_isSilent_X0_placeOf rfl rfl rfl (by decide +kernel) ⟨Nat.le_of_ble_eq_true rfl, Nat.le_of_ble_eq_true rfl⟩) (kV (ci := 0) (q0 := 0) (q := (RX0, TX0, 7)) hN hK hPc hDc rfl rfl rfl) rfl rfl hl.1 rfl (lv_room (Nat.le_of_ble_eq_true rfl)) dX0_isSilent_14 ⟨Nat.le_of_ble_eq_true rfl, Nat.le_of_ble_eq_true rfl⟩) hP hD hS hA [0, 1, 2] [] [0, 1, 2] rfl rfl (by decide) (by decide) rfl (by decide) (fun H locs hP hD hS => ?_)
      refine lv_istore (lv' := [(4, .int (fX0_placeOf sn p1 p2 ((nI j)))), (3, .int ((nI j))), (0, .ref ae), (1, .int p1), (2, .int p2)]) hx hb dX0_isSilent_17 hl (by decide) rfl (fun ls hl => ?_)
      refine lv_iload hx hb dX0_isSilent_19 (lv_at hl 0 rfl) ?_
      refine lv_iconst (v := (-1)) hx hb dX0_isSilent_21 (by decide) ?_
      refine lv_icmp_eq (tgt := 39) hx hb dX0_isSilent_22 (by decide) (fun c_22 => ?_) (fun c_22 => ?_)
      · refine lv_iinc (v := (((nI j)) + 1)) (lv' := [(3, .int (((nI j)) + 1)), (4, .int (fX0_placeOf sn p1 p2 ((nI j)))), (0, .ref ae), (1, .int p1), (2, .int p2)]) hx hb dX0_isSilent_39 hl (k := 1) rfl rfl (by decide) rfl (fun ls hl => ?_)
        refine lv_goto (tgt := 2) hx hb dX0_isSilent_42 (by decide) ?_
        exact ih (j + 1) _ _ (by omega) (by have := Nat.lt_of_not_le (fun q => c_7 (nI_le q (by omega))); omega) (by rw [← nI_1 j]; rw [hF, fX0_isSilent_L2, if_neg c_7, if_pos c_22]) hP hD hS _ (by rw [← nI_1 j]; exact lv_sub hl [0, 2, 3, 4] rfl)
      refine lv_aload_n hx hb dX0_isSilent_25 rfl (lv_at hl 2 rfl) ?_
      refine va_get (D := D) (ci := 0) (v := .ref av) (C := RX0) (T := TX0) (N := 7) hx hb hts (fun _ h => (List.mem_cons_of_mem _ (List.mem_append_right _ h))) hown hK hP 0 rfl rfl 2 (by decide) (hts (.fieldLink RX0 43 "BottomWalks$Echoes" "values" "[D") (List.mem_of_getElem? (i := 2) rfl)) (fun _ h9 => h9) rfl dX0_isSilent_26 ?_
      refine lv_iload hx hb dX0_isSilent_29 (lv_at hl 0 rfl) ?_
      refine va_dald hx hb hK hP 1 0 rfl rfl (place_in hE.2.1 c_22) dX0_isSilent_31 ?_
      refine lv_dconst0 hx hb dX0_isSilent_32 ?_
      refine lv_dcmp hx hb dX0_isSilent_33 ?_
      refine lv_if_lt (tgt := 39) hx hb dX0_isSilent_34 (by decide) (fun c_34 => ?_) (fun c_34 => ?_)
      · refine lv_iinc (v := (((nI j)) + 1)) (lv' := [(3, .int (((nI j)) + 1)), (4, .int (fX0_placeOf sn p1 p2 ((nI j)))), (0, .ref ae), (1, .int p1), (2, .int p2)]) hx hb dX0_isSilent_39 hl (k := 1) rfl rfl (by decide) rfl (fun ls hl => ?_)
        refine lv_goto (tgt := 2) hx hb dX0_isSilent_42 (by decide) ?_
        exact ih (j + 1) _ _ (by omega) (by have := Nat.lt_of_not_le (fun q => c_7 (nI_le q (by omega))); omega) (by rw [← nI_1 j]; rw [hF, fX0_isSilent_L2, if_neg c_7, if_neg c_22, if_pos c_34]) hP hD hS _ (by rw [← nI_1 j]; exact lv_sub hl [0, 2, 3, 4] rfl)
      refine lv_iconst (v := 0) hx hb dX0_isSilent_37 (by decide) ?_
      have hF9 : (fX0_isSilent sn vf p1 p2) = (0 : Int32) := by rw [hF, fX0_isSilent_L2, if_neg c_7, if_neg c_22, if_neg c_34]
      have hP9 : va_P D vwCl (wE cyD cyI cyJ cyZ ae av ab sn me vf lf sp sb no) H := hP
      have hD9 : va_D A (wE cyD cyI cyJ cyZ ae av ab sn me vf lf sp sb no) := hD
      exact W.zret (v := (0 : Int32)) hx hb hr (nar_z (Or.inl rfl)) (fun t ht hW => ⟨⟨(0 : Int32), (), rfl, ⟨(by rw [hF9]), (Or.inl rfl)⟩, by rw [ht]; exact hP9, va_K.moved hW.alike hK, hD9⟩, hS.F ht⟩) hS.2.2 dX0_isSilent_38
  exact loop_2 65 0 _ _ rfl (Nat.zero_le _) (by rw [nI_0]; rw [fX0_isSilent]) hP hD hS _ (by exact lv_sub hl [0, 1, 2, 3] rfl)
def fX0_sampleFor_L2 (sn : Nat) (me : UInt64)  (p1 : UInt64) : Nat → (Int32) → Int32
  | 0, v_j => 0
  | k + 1, v_j => if ((nI sn) - (1 : Int32)) ≤ v_j then v_j else (if 0 ≤ (Op.cmpValue (FP.dcmp (fX0_range me (v_j)) p1) CmpOp.g) then v_j else ((fX0_sampleFor_L2 sn me p1 k ((v_j) + 1))))
def fX0_sampleFor (sn : Nat) (me : UInt64) (p1 : UInt64) : Int32 := (fX0_sampleFor_L2 sn me p1 65 (0 : Int32))
set_option maxHeartbeats 4000000 in
set_option maxRecDepth 100000 in
theorem c_X0_sampleFor {l : Launch} {D : va_G} {cyD cyI cyJ cyZ : ClassId} (ae av ab : Nat) (sn : Nat) (me : UInt64) (vf : Nat → UInt64) (lf : Nat → Int32) (sp : UInt64) (sb : UInt64) (no : UInt64) (sz : Nat) (p1 : UInt64) (hE : okE sn me vf sp sb no) : mI l yX0_sampleFor wsX0_sampleFor ({ frames := 1, cells := 0, slots := 0, locals := 21 } : Room) D (kT cyD cyI cyJ cyZ) [.ref ae, .double p1] (wE cyD cyI cyJ cyZ ae av ab sn me vf lf sp sb no) (wE cyD cyI cyJ cyZ ae av ab sn me vf lf sp sb no) sz (fX0_sampleFor sn me p1) 0 0 := by
  refine Met.ofW (cc := cX0_sampleFor) (maxL := 4) (ret := (some .int)) (by decide) rfl ?_
  intro p e s m args below meth c s₁ B hml hv
  obtain ⟨rfl, hN, hsz, hP, hK, hD0⟩ := hv
  have hx := B.exec
  have hb := B.bytes
  have hr := B.returns
  have hts := atoms_spec (ws := wsX0_sampleFor) B.pre
  have hown : s.vm.findClass RX0 = some m.cls := findClass_of_methodNamed B.named
  have hlocks := B.notSynchronized
  subst hsz
  have hD := hD0.self (sz := s.heap.size)
  generalize hAe : va_A (wE cyD cyI cyJ cyZ ae av ab sn me vf lf sp sb no) s.heap.size = A at hD ⊢
  have hA : ∀ q : Nat, s.heap.size ≤ q → A q := fun q h => by rw [← hAe]; exact Or.inr h
  have hS : va_S A s.heap s.heap [] := va_S.rf
  have hP : va_P D vwCl (wE cyD cyI cyJ cyZ ae av ab sn me vf lf sp sb no) s.heap := hP
  have hl := lv_entry [.ref ae, .double p1] (n := 4) (Nat.le_of_ble_eq_true rfl)
  rw [lg_entry_eq]
  generalize (lg_sl [.ref ae, .double p1] ++ List.replicate (4 - (lg_sl [.ref ae, .double p1]).length) Slot.unset).toArray = ls at hl ⊢
  have hl : lv_has ls 4 [(0, .ref ae), (1, .double p1)] := hl
  obtain ⟨H, hHe⟩ : ∃ H : Heap, H = s.heap := ⟨_, rfl⟩
  have hP : va_P D vwCl (wE cyD cyI cyJ cyZ ae av ab sn me vf lf sp sb no) H := by rw [hHe]; exact hP
  have hS : va_S A s.heap H [] := by rw [hHe]; exact hS
  rw [← hHe]
  refine lv_iconst (v := 0) hx hb dX0_sampleFor_0 (by decide) ?_
  refine lv_istore_n (lv' := [(3, .int (0 : Int32)), (0, .ref ae), (1, .double p1)]) hx hb dX0_sampleFor_1 rfl hl (by decide) rfl (fun ls hl => ?_)
  have loop_2 : ∀ (k : Nat) (j : Nat) (H : Heap) (locs : List Loc), (j + k = 65) → (j < sn) → (fX0_sampleFor sn me p1) = fX0_sampleFor_L2 sn me p1 k ((nI j)) → va_P D vwCl (wE cyD cyI cyJ cyZ ae av ab sn me vf lf sp sb no) H → va_D A (wE cyD cyI cyJ cyZ ae av ab sn me vf lf sp sb no) → va_S A s.heap H locs → ∀ ls, lv_has ls 4 [(3, .int ((nI j))), (0, .ref ae), (1, .double p1)] → W p l e (headSpec wsX0_sampleFor ({ frames := 1, cells := 0, slots := 0, locals := 21 } : Room)).room s m ([.ref ae, .double p1] : List Value).toArray below meth c H locs 0 0 (MQ below (va_Qi (fun (r : Int32) (_ : Unit) => r = (fX0_sampleFor sn me p1)) (kE D (kT cyD cyI cyJ cyZ) (wE cyD cyI cyJ cyZ ae av ab sn me vf lf sp sb no) A) A) ([.ref ae, .double p1] : List Value).toArray s 0 0 A) (F0 m 2 ls []) := by
    intro k
    induction k with
    | zero => intro j H locs hj hj2 hF hP hD hS ls hl; exact absurd hE.2.1 (by omega)
    | succ k ih =>
      intro j H locs hj hj2 hF hP hD hS ls hl
      have hs64 := hE.2.1
      refine lv_iload_n hx hb dX0_sampleFor_2 rfl (lv_at hl 0 rfl) ?_
      refine lv_aload_n hx hb dX0_sampleFor_3 rfl (lv_at hl 1 rfl) ?_
      refine va_get (D := D) (ci := 0) (v := .int (nI sn)) (C := RX0) (T := TX0) (N := 7) hx hb hts (fun _ h => (List.mem_cons_of_mem _ (List.mem_append_right _ h))) hown hK hP 0 rfl rfl 0 (by decide) (hts (.fieldLink RX0 34 "BottomWalks$Echoes" "samples" "I") (List.mem_of_getElem? (i := 1) rfl)) (fun _ h9 => h9) rfl dX0_sampleFor_4 ?_
      refine lv_iconst (v := 1) hx hb dX0_sampleFor_7 (by decide) ?_
      refine lv_isub hx hb dX0_sampleFor_8 ?_
      refine lv_icmp_ge (tgt := 28) hx hb dX0_sampleFor_9 (by decide) (fun c_9 => ?_) (fun c_9 => ?_)
      · refine lv_iload_n hx hb dX0_sampleFor_28 rfl (lv_at hl 0 rfl) ?_
        have hF9 : (fX0_sampleFor sn me p1) = (nI j) := by rw [hF, fX0_sampleFor_L2, if_pos c_9]
        have hP9 : va_P D vwCl (wE cyD cyI cyJ cyZ ae av ab sn me vf lf sp sb no) H := hP
        have hD9 : va_D A (wE cyD cyI cyJ cyZ ae av ab sn me vf lf sp sb no) := hD
        exact W.iret (v := (nI j)) hx hb hr (fun t ht hW => ⟨⟨(nI j), (), rfl, (by rw [hF9]), by rw [ht]; exact hP9, va_K.moved hW.alike hK, hD9⟩, hS.F ht⟩) hS.2.2 dX0_sampleFor_29
      refine lv_aload_n hx hb dX0_sampleFor_12 rfl (lv_at hl 1 rfl) ?_
      refine lv_iload_n hx hb dX0_sampleFor_13 rfl (lv_at hl 0 rfl) ?_
      have hPc : va_P D vwCl (wE cyD cyI cyJ cyZ ae av ab sn me vf lf sp sb no) H := hP.sub [0, 1, 2] rfl
      have hDc : va_D A (wE cyD cyI cyJ cyZ ae av ab sn me vf lf sp sb no) := hD.sub [0, 1, 2] (by decide) rfl
      refine kdE (ws' := (wE cyD cyI cyJ cyZ ae av ab sn me vf lf sp sb no)) (wc := (wE cyD cyI cyJ cyZ ae av ab sn me vf lf sp sb no)) (wr := []) (w1 := (wE cyD cyI cyJ cyZ ae av ab sn me vf lf sp sb no)) (va_runV (As := [.int ((nI j))]) (rest := []) ⟨hx, hb, hml, hown, hts⟩ (c_X0_range (l := l) (D := D) (cyD := cyD) (cyI := cyI) (cyJ := cyJ) (cyZ := cyZ) ae av ab sn me vf lf sp sb no H.size ((nI j)) hE.2.2.1) (cwV 1 hts gX0_sampleFor_X0_range rfl rfl rfl (by decide +kernel) ⟨Nat.le_of_ble_eq_true rfl, Nat.le_of_ble_eq_true rfl⟩) (kV (ci := 0) (q0 := 0) (q := (RX0, TX0, 7)) hN hK hPc hDc rfl rfl rfl) rfl rfl hl.1 rfl (lv_room (Nat.le_of_ble_eq_true rfl)) dX0_sampleFor_14 ⟨Nat.le_of_ble_eq_true rfl, Nat.le_of_ble_eq_true rfl⟩) hP hD hS hA [0, 1, 2] [] [0, 1, 2] rfl rfl (by decide) (by decide) rfl (by decide) (fun H locs hP hD hS => ?_)
      refine lv_dload_n hx hb dX0_sampleFor_17 rfl (lv_at hl 2 rfl) ?_
      refine lv_dcmp hx hb dX0_sampleFor_18 ?_
      refine lv_if_ge (tgt := 28) hx hb dX0_sampleFor_19 (by decide) (fun c_19 => ?_) (fun c_19 => ?_)
      · refine lv_iload_n hx hb dX0_sampleFor_28 rfl (lv_at hl 0 rfl) ?_
        have hF9 : (fX0_sampleFor sn me p1) = (nI j) := by rw [hF, fX0_sampleFor_L2, if_neg c_9, if_pos c_19]
        have hP9 : va_P D vwCl (wE cyD cyI cyJ cyZ ae av ab sn me vf lf sp sb no) H := hP
        have hD9 : va_D A (wE cyD cyI cyJ cyZ ae av ab sn me vf lf sp sb no) := hD
        exact W.iret (v := (nI j)) hx hb hr (fun t ht hW => ⟨⟨(nI j), (), rfl, (by rw [hF9]), by rw [ht]; exact hP9, va_K.moved hW.alike hK, hD9⟩, hS.F ht⟩) hS.2.2 dX0_sampleFor_29
      refine lv_iinc (v := (((nI j)) + 1)) (lv' := [(3, .int (((nI j)) + 1)), (0, .ref ae), (1, .double p1)]) hx hb dX0_sampleFor_22 hl (k := 0) rfl rfl (by decide) rfl (fun ls hl => ?_)
      refine lv_goto (tgt := 2) hx hb dX0_sampleFor_25 (by decide) ?_
      exact ih (j + 1) _ _ (by omega) (by rw [nI_sub1 hE.1] at c_9; have := Nat.lt_of_not_le (fun q => c_9 (nI_le q (by omega))); omega) (by rw [← nI_1 j]; rw [hF, fX0_sampleFor_L2, if_neg c_9, if_neg c_19]) hP hD hS _ (by rw [← nI_1 j]; exact lv_sub hl [0, 1, 2] rfl)
  exact loop_2 65 0 _ _ rfl (by have := hE.1; omega) (by rw [nI_0]; rw [fX0_sampleFor]) hP hD hS _ (by exact lv_sub hl [0, 1, 2] rfl)
def fX0_strength (sn : Nat) (me : UInt64) (vf : Nat → UInt64) (lf : Nat → Int32) (sp : UInt64) (sb : UInt64) (no : UInt64) (p1 : Int32) (p2 : Int32) (p3 : Int32) : Int64 := if (fX0_placeOf sn p1 p2 p3) = (-1 : Int32) then (0 : Int64) else (if (Op.cmpValue (FP.dcmp (vf (fX0_placeOf sn p1 p2 p3).toNatClampNeg) FP.dconst0) CmpOp.g) < 0 then (0 : Int64) else (if (fX0_isLost lf p2) = 0 then (if (FP.d2l (FP.dsub (FP.dadd (FP.dadd (vf (fX0_placeOf sn p1 p2 p3).toNatClampNeg) (FP.dmul sp (fX0_range me p3))) (FP.dmul (FP.dmul (FP.dmul sb (fX0_range me p3)) (fX0_range me p3)) (4562254508917369340 : UInt64))) no)) < (0 : Int64) then (0 : Int64) else (FP.d2l (FP.dsub (FP.dadd (FP.dadd (vf (fX0_placeOf sn p1 p2 p3).toNatClampNeg) (FP.dmul sp (fX0_range me p3))) (FP.dmul (FP.dmul (FP.dmul sb (fX0_range me p3)) (fX0_range me p3)) (4562254508917369340 : UInt64))) no))) else ((0 : Int64))))
set_option maxHeartbeats 4000000 in
set_option maxRecDepth 100000 in
theorem c_X0_strength {l : Launch} {D : va_G} {cyD cyI cyJ cyZ : ClassId} (ae av ab : Nat) (sn : Nat) (me : UInt64) (vf : Nat → UInt64) (lf : Nat → Int32) (sp : UInt64) (sb : UInt64) (no : UInt64) (sz : Nat) (p1 : Int32) (p2 : Int32) (p3 : Int32) (hE : okE sn me vf sp sb no) : mL l yX0_strength wsX0_strength ({ frames := 2, cells := 0, slots := 0, locals := 44 } : Room) D (kT cyD cyI cyJ cyZ) [.ref ae, .int p1, .int p2, .int p3] (wE cyD cyI cyJ cyZ ae av ab sn me vf lf sp sb no) (wE cyD cyI cyJ cyZ ae av ab sn me vf lf sp sb no) sz (fX0_strength sn me vf lf sp sb no p1 p2 p3) 0 0 := by
  refine Met.ofW (cc := cX0_strength) (maxL := 9) (ret := (some .long)) (by decide) rfl ?_
  intro p e s m args below meth c s₁ B hml hv
  obtain ⟨rfl, hN, hsz, hP, hK, hD0⟩ := hv
  have hx := B.exec
  have hb := B.bytes
  have hr := B.returns
  have hts := atoms_spec (ws := wsX0_strength) B.pre
  have hown : s.vm.findClass RX0 = some m.cls := findClass_of_methodNamed B.named
  have hlocks := B.notSynchronized
  subst hsz
  have hD := hD0.self (sz := s.heap.size)
  generalize hAe : va_A (wE cyD cyI cyJ cyZ ae av ab sn me vf lf sp sb no) s.heap.size = A at hD ⊢
  have hA : ∀ q : Nat, s.heap.size ≤ q → A q := fun q h => by rw [← hAe]; exact Or.inr h
  have hS : va_S A s.heap s.heap [] := va_S.rf
  have hP : va_P D vwCl (wE cyD cyI cyJ cyZ ae av ab sn me vf lf sp sb no) s.heap := hP
  have hl := lv_entry [.ref ae, .int p1, .int p2, .int p3] (n := 9) (Nat.le_of_ble_eq_true rfl)
  rw [lg_entry_eq]
  generalize (lg_sl [.ref ae, .int p1, .int p2, .int p3] ++ List.replicate (9 - (lg_sl [.ref ae, .int p1, .int p2, .int p3]).length) Slot.unset).toArray = ls at hl ⊢
  have hl : lv_has ls 9 [(0, .ref ae), (1, .int p1), (2, .int p2), (3, .int p3)] := hl
  obtain ⟨H, hHe⟩ : ∃ H : Heap, H = s.heap := ⟨_, rfl⟩
  have hP : va_P D vwCl (wE cyD cyI cyJ cyZ ae av ab sn me vf lf sp sb no) H := by rw [hHe]; exact hP
  have hS : va_S A s.heap H [] := by rw [hHe]; exact hS
  rw [← hHe]
  refine lv_aload_n hx hb dX0_strength_0 rfl (lv_at hl 0 rfl) ?_
  refine lv_iload_n hx hb dX0_strength_1 rfl (lv_at hl 1 rfl) ?_
  refine lv_iload_n hx hb dX0_strength_2 rfl (lv_at hl 2 rfl) ?_
  refine lv_iload_n hx hb dX0_strength_3 rfl (lv_at hl 3 rfl) ?_
  have hPc : va_P D vwCl (wE cyD cyI cyJ cyZ ae av ab sn me vf lf sp sb no) H := hP.sub [0, 1, 2] rfl
  have hDc : va_D A (wE cyD cyI cyJ cyZ ae av ab sn me vf lf sp sb no) := hD.sub [0, 1, 2] (by decide) rfl
  refine kiE (ws' := (wE cyD cyI cyJ cyZ ae av ab sn me vf lf sp sb no)) (wc := (wE cyD cyI cyJ cyZ ae av ab sn me vf lf sp sb no)) (wr := []) (w1 := (wE cyD cyI cyJ cyZ ae av ab sn me vf lf sp sb no)) (va_runV (As := [.int p1, .int p2, .int p3]) (rest := []) ⟨hx, hb, hml, hown, hts⟩ (c_X0_placeOf (l := l) (D := D) (cyD := cyD) (cyI := cyI) (cyJ := cyJ) (cyZ := cyZ) ae av ab sn me vf lf sp sb no H.size p1 p2 p3) (cwV 3 hts gX0_strength_X0_placeOf rfl rfl rfl (by decide +kernel) ⟨Nat.le_of_ble_eq_true rfl, Nat.le_of_ble_eq_true rfl⟩) (kV (ci := 0) (q0 := 0) (q := (RX0, TX0, 7)) hN hK hPc hDc rfl rfl rfl) rfl rfl hl.1 rfl (lv_room (Nat.le_of_ble_eq_true rfl)) dX0_strength_4 ⟨Nat.le_of_ble_eq_true rfl, Nat.le_of_ble_eq_true rfl⟩) hP hD hS hA [0, 1, 2] [] [0, 1, 2] rfl rfl (by decide) (by decide) rfl (by decide) (fun H locs hP hD hS => ?_)
  refine lv_istore (lv' := [(4, .int (fX0_placeOf sn p1 p2 p3)), (0, .ref ae), (1, .int p1), (2, .int p2), (3, .int p3)]) hx hb dX0_strength_7 hl (by decide) rfl (fun ls hl => ?_)
  refine lv_iload hx hb dX0_strength_9 (lv_at hl 0 rfl) ?_
  refine lv_iconst (v := (-1)) hx hb dX0_strength_11 (by decide) ?_
  refine lv_icmp_eq (tgt := 35) hx hb dX0_strength_12 (by decide) (fun c_12 => ?_) (fun c_12 => ?_)
  · refine lv_lconst (v := 0) hx hb dX0_strength_35 rfl ?_
    have hF9 : (fX0_strength sn me vf lf sp sb no p1 p2 p3) = (0 : Int64) := by rw [fX0_strength, if_pos c_12]
    have hP9 : va_P D vwCl (wE cyD cyI cyJ cyZ ae av ab sn me vf lf sp sb no) H := hP
    have hD9 : va_D A (wE cyD cyI cyJ cyZ ae av ab sn me vf lf sp sb no) := hD
    exact W.lret (v := (0 : Int64)) hx hb hr (fun t ht hW => ⟨⟨(0 : Int64), (), rfl, (by rw [hF9]), by rw [ht]; exact hP9, va_K.moved hW.alike hK, hD9⟩, hS.F ht⟩) hS.2.2 dX0_strength_36
  refine lv_aload_n hx hb dX0_strength_15 rfl (lv_at hl 1 rfl) ?_
  refine va_get (D := D) (ci := 0) (v := .ref av) (C := RX0) (T := TX0) (N := 7) hx hb hts (fun _ h => (List.mem_cons_of_mem _ (List.mem_append_right _ h))) hown hK hP 0 rfl rfl 2 (by decide) (hts (.fieldLink RX0 43 "BottomWalks$Echoes" "values" "[D") (List.mem_of_getElem? (i := 1) rfl)) (fun _ h9 => h9) rfl dX0_strength_16 ?_
  refine lv_iload hx hb dX0_strength_19 (lv_at hl 0 rfl) ?_
  refine va_dald hx hb hK hP 1 0 rfl rfl (place_in hE.2.1 c_12) dX0_strength_21 ?_
  refine lv_dconst0 hx hb dX0_strength_22 ?_
  refine lv_dcmp hx hb dX0_strength_23 ?_
  refine lv_if_lt (tgt := 35) hx hb dX0_strength_24 (by decide) (fun c_24 => ?_) (fun c_24 => ?_)
  · refine lv_lconst (v := 0) hx hb dX0_strength_35 rfl ?_
    have hF9 : (fX0_strength sn me vf lf sp sb no p1 p2 p3) = (0 : Int64) := by rw [fX0_strength, if_neg c_12, if_pos c_24]
    have hP9 : va_P D vwCl (wE cyD cyI cyJ cyZ ae av ab sn me vf lf sp sb no) H := hP
    have hD9 : va_D A (wE cyD cyI cyJ cyZ ae av ab sn me vf lf sp sb no) := hD
    exact W.lret (v := (0 : Int64)) hx hb hr (fun t ht hW => ⟨⟨(0 : Int64), (), rfl, (by rw [hF9]), by rw [ht]; exact hP9, va_K.moved hW.alike hK, hD9⟩, hS.F ht⟩) hS.2.2 dX0_strength_36
  refine lv_aload_n hx hb dX0_strength_27 rfl (lv_at hl 1 rfl) ?_
  refine lv_iload_n hx hb dX0_strength_28 rfl (lv_at hl 3 rfl) ?_
  have hPc : va_P D vwCl (wE cyD cyI cyJ cyZ ae av ab sn me vf lf sp sb no) H := hP.sub [0, 1, 2] rfl
  have hDc : va_D A (wE cyD cyI cyJ cyZ ae av ab sn me vf lf sp sb no) := hD.sub [0, 1, 2] (by decide) rfl
  refine kzE (ws' := (wE cyD cyI cyJ cyZ ae av ab sn me vf lf sp sb no)) (wc := (wE cyD cyI cyJ cyZ ae av ab sn me vf lf sp sb no)) (wr := []) (w1 := (wE cyD cyI cyJ cyZ ae av ab sn me vf lf sp sb no)) (va_runV (As := [.int p2]) (rest := []) ⟨hx, hb, hml, hown, hts⟩ (c_X0_isLost (l := l) (D := D) (cyD := cyD) (cyI := cyI) (cyJ := cyJ) (cyZ := cyZ) ae av ab sn me vf lf sp sb no H.size p2) (cwV 1 hts gX0_strength_X0_isLost rfl rfl rfl (by decide +kernel) ⟨Nat.le_of_ble_eq_true rfl, Nat.le_of_ble_eq_true rfl⟩) (kV (ci := 0) (q0 := 0) (q := (RX0, TX0, 7)) hN hK hPc hDc rfl rfl rfl) rfl rfl hl.1 rfl (lv_room (Nat.le_of_ble_eq_true rfl)) dX0_strength_29 ⟨Nat.le_of_ble_eq_true rfl, Nat.le_of_ble_eq_true rfl⟩) hP hD hS hA [0, 1, 2] [] [0, 1, 2] rfl rfl (by decide) (by decide) rfl (by decide) (fun H locs hz_29 hP hD hS => ?_)
  refine lv_if_eq (tgt := 37) hx hb dX0_strength_32 (by decide) (fun c_32 => ?_) (fun c_32 => ?_)
  · refine lv_aload_n hx hb dX0_strength_37 rfl (lv_at hl 1 rfl) ?_
    refine lv_iload_n hx hb dX0_strength_38 rfl (lv_at hl 4 rfl) ?_
    have hPc : va_P D vwCl (wE cyD cyI cyJ cyZ ae av ab sn me vf lf sp sb no) H := hP.sub [0, 1, 2] rfl
    have hDc : va_D A (wE cyD cyI cyJ cyZ ae av ab sn me vf lf sp sb no) := hD.sub [0, 1, 2] (by decide) rfl
    refine kdE (ws' := (wE cyD cyI cyJ cyZ ae av ab sn me vf lf sp sb no)) (wc := (wE cyD cyI cyJ cyZ ae av ab sn me vf lf sp sb no)) (wr := []) (w1 := (wE cyD cyI cyJ cyZ ae av ab sn me vf lf sp sb no)) (va_runV (As := [.int p3]) (rest := []) ⟨hx, hb, hml, hown, hts⟩ (c_X0_range (l := l) (D := D) (cyD := cyD) (cyI := cyI) (cyJ := cyJ) (cyZ := cyZ) ae av ab sn me vf lf sp sb no H.size p3 hE.2.2.1) (cwV 1 hts gX0_strength_X0_range rfl rfl rfl (by decide +kernel) ⟨Nat.le_of_ble_eq_true rfl, Nat.le_of_ble_eq_true rfl⟩) (kV (ci := 0) (q0 := 0) (q := (RX0, TX0, 7)) hN hK hPc hDc rfl rfl rfl) rfl rfl hl.1 rfl (lv_room (Nat.le_of_ble_eq_true rfl)) dX0_strength_39 ⟨Nat.le_of_ble_eq_true rfl, Nat.le_of_ble_eq_true rfl⟩) hP hD hS hA [0, 1, 2] [] [0, 1, 2] rfl rfl (by decide) (by decide) rfl (by decide) (fun H locs hP hD hS => ?_)
    refine lv_dstore (lv' := [(5, .double (fX0_range me p3)), (4, .int (fX0_placeOf sn p1 p2 p3)), (0, .ref ae), (1, .int p1), (2, .int p2), (3, .int p3)]) hx hb dX0_strength_42 hl (by decide) rfl (fun ls hl => ?_)
    refine lv_aload_n hx hb dX0_strength_44 rfl (lv_at hl 2 rfl) ?_
    refine va_get (D := D) (ci := 0) (v := .ref av) (C := RX0) (T := TX0) (N := 7) hx hb hts (fun _ h => (List.mem_cons_of_mem _ (List.mem_append_right _ h))) hown hK hP 0 rfl rfl 2 (by decide) (hts (.fieldLink RX0 43 "BottomWalks$Echoes" "values" "[D") (List.mem_of_getElem? (i := 1) rfl)) (fun _ h9 => h9) rfl dX0_strength_45 ?_
    refine lv_iload hx hb dX0_strength_48 (lv_at hl 1 rfl) ?_
    refine va_dald hx hb hK hP 1 0 rfl rfl (place_in hE.2.1 c_12) dX0_strength_50 ?_
    refine lv_aload_n hx hb dX0_strength_51 rfl (lv_at hl 2 rfl) ?_
    refine va_get (D := D) (ci := 0) (v := .double sp) (C := RX0) (T := TX0) (N := 7) hx hb hts (fun _ h => (List.mem_cons_of_mem _ (List.mem_append_right _ h))) hown hK hP 0 rfl rfl 4 (by decide) (hts (.fieldLink RX0 15 "BottomWalks$Echoes" "spread" "D") (List.mem_of_getElem? (i := 2) rfl)) (fun _ h9 => h9) rfl dX0_strength_52 ?_
    refine lv_dload hx hb dX0_strength_55 (lv_at hl 0 rfl) ?_
    refine lv_dmul hx hb dX0_strength_57 (bd_n (bd_mul (Ka := 1027) (Kb := 1064) (K := 1069) hE.2.2.2.2.1 (bd_mul (Ka := 1056) (Kb := 1030) (K := 1064) (bd_i2d _) hE.2.2.1 (by decide) (by decide) (by decide)) (by decide) (by decide) (by decide)) (by decide)) ?_
    refine lv_dadd hx hb dX0_strength_58 (bd_n (bd_add (Ka := 1033) (Kb := 1069) (K := 1071) (place_bd hE.2.1 c_12 hE.2.2.2.1) (bd_mul (Ka := 1027) (Kb := 1064) (K := 1069) hE.2.2.2.2.1 (bd_mul (Ka := 1056) (Kb := 1030) (K := 1064) (bd_i2d _) hE.2.2.1 (by decide) (by decide) (by decide)) (by decide) (by decide) (by decide)) (by decide) (by decide) (by decide) (by decide)) (by decide)) ?_
    refine lv_aload_n hx hb dX0_strength_59 rfl (lv_at hl 2 rfl) ?_
    refine va_get (D := D) (ci := 0) (v := .double sb) (C := RX0) (T := TX0) (N := 7) hx hb hts (fun _ h => (List.mem_cons_of_mem _ (List.mem_append_right _ h))) hown hK hP 0 rfl rfl 5 (by decide) (hts (.fieldLink RX0 19 "BottomWalks$Echoes" "absorb" "D") (List.mem_of_getElem? (i := 3) rfl)) (fun _ h9 => h9) rfl dX0_strength_60 ?_
    refine lv_dload hx hb dX0_strength_63 (lv_at hl 0 rfl) ?_
    refine lv_dmul hx hb dX0_strength_65 (bd_n (bd_mul (Ka := 1027) (Kb := 1064) (K := 1069) hE.2.2.2.2.2.1 (bd_mul (Ka := 1056) (Kb := 1030) (K := 1064) (bd_i2d _) hE.2.2.1 (by decide) (by decide) (by decide)) (by decide) (by decide) (by decide)) (by decide)) ?_
    refine lv_dload hx hb dX0_strength_66 (lv_at hl 0 rfl) ?_
    refine lv_dmul hx hb dX0_strength_68 (bd_n (bd_mul (Ka := 1069) (Kb := 1064) (K := 1111) (bd_mul (Ka := 1027) (Kb := 1064) (K := 1069) hE.2.2.2.2.2.1 (bd_mul (Ka := 1056) (Kb := 1030) (K := 1064) (bd_i2d _) hE.2.2.1 (by decide) (by decide) (by decide)) (by decide) (by decide) (by decide)) (bd_mul (Ka := 1056) (Kb := 1030) (K := 1064) (bd_i2d _) hE.2.2.1 (by decide) (by decide) (by decide)) (by decide) (by decide) (by decide)) (by decide)) ?_
    refine lv_ldc2d (v := 4562254508917369340) hx hb hown (hts (.constantDouble RX0 76 (4562254508917369340)) (List.mem_of_getElem? (i := 4) rfl)) dX0_strength_69 ?_
    refine lv_dmul hx hb dX0_strength_72 (bd_n (bd_mul (Ka := 1111) (Kb := 1014) (K := 1103) (bd_mul (Ka := 1069) (Kb := 1064) (K := 1111) (bd_mul (Ka := 1027) (Kb := 1064) (K := 1069) hE.2.2.2.2.2.1 (bd_mul (Ka := 1056) (Kb := 1030) (K := 1064) (bd_i2d _) hE.2.2.1 (by decide) (by decide) (by decide)) (by decide) (by decide) (by decide)) (bd_mul (Ka := 1056) (Kb := 1030) (K := 1064) (bd_i2d _) hE.2.2.1 (by decide) (by decide) (by decide)) (by decide) (by decide) (by decide)) (by decide) (by decide) (by decide) (by decide)) (by decide)) ?_
    refine lv_dadd hx hb dX0_strength_73 (bd_n (bd_add (Ka := 1071) (Kb := 1103) (K := 1105) (bd_add (Ka := 1033) (Kb := 1069) (K := 1071) (place_bd hE.2.1 c_12 hE.2.2.2.1) (bd_mul (Ka := 1027) (Kb := 1064) (K := 1069) hE.2.2.2.2.1 (bd_mul (Ka := 1056) (Kb := 1030) (K := 1064) (bd_i2d _) hE.2.2.1 (by decide) (by decide) (by decide)) (by decide) (by decide) (by decide)) (by decide) (by decide) (by decide) (by decide)) (bd_mul (Ka := 1111) (Kb := 1014) (K := 1103) (bd_mul (Ka := 1069) (Kb := 1064) (K := 1111) (bd_mul (Ka := 1027) (Kb := 1064) (K := 1069) hE.2.2.2.2.2.1 (bd_mul (Ka := 1056) (Kb := 1030) (K := 1064) (bd_i2d _) hE.2.2.1 (by decide) (by decide) (by decide)) (by decide) (by decide) (by decide)) (bd_mul (Ka := 1056) (Kb := 1030) (K := 1064) (bd_i2d _) hE.2.2.1 (by decide) (by decide) (by decide)) (by decide) (by decide) (by decide)) (by decide) (by decide) (by decide) (by decide)) (by decide) (by decide) (by decide) (by decide)) (by decide)) ?_
    refine lv_aload_n hx hb dX0_strength_74 rfl (lv_at hl 2 rfl) ?_
    refine va_get (D := D) (ci := 0) (v := .double no) (C := RX0) (T := TX0) (N := 7) hx hb hts (fun _ h => (List.mem_cons_of_mem _ (List.mem_append_right _ h))) hown hK hP 0 rfl rfl 6 (by decide) (hts (.fieldLink RX0 22 "BottomWalks$Echoes" "noiseLevel" "D") (List.mem_of_getElem? (i := 5) rfl)) (fun _ h9 => h9) rfl dX0_strength_75 ?_
    refine lv_dsub hx hb dX0_strength_78 (bd_n (bd_sub (Ka := 1105) (Kb := 1033) (K := 1107) (bd_add (Ka := 1071) (Kb := 1103) (K := 1105) (bd_add (Ka := 1033) (Kb := 1069) (K := 1071) (place_bd hE.2.1 c_12 hE.2.2.2.1) (bd_mul (Ka := 1027) (Kb := 1064) (K := 1069) hE.2.2.2.2.1 (bd_mul (Ka := 1056) (Kb := 1030) (K := 1064) (bd_i2d _) hE.2.2.1 (by decide) (by decide) (by decide)) (by decide) (by decide) (by decide)) (by decide) (by decide) (by decide) (by decide)) (bd_mul (Ka := 1111) (Kb := 1014) (K := 1103) (bd_mul (Ka := 1069) (Kb := 1064) (K := 1111) (bd_mul (Ka := 1027) (Kb := 1064) (K := 1069) hE.2.2.2.2.2.1 (bd_mul (Ka := 1056) (Kb := 1030) (K := 1064) (bd_i2d _) hE.2.2.1 (by decide) (by decide) (by decide)) (by decide) (by decide) (by decide)) (bd_mul (Ka := 1056) (Kb := 1030) (K := 1064) (bd_i2d _) hE.2.2.1 (by decide) (by decide) (by decide)) (by decide) (by decide) (by decide)) (by decide) (by decide) (by decide) (by decide)) (by decide) (by decide) (by decide) (by decide)) hE.2.2.2.2.2.2 (by decide) (by decide) (by decide) (by decide)) (by decide)) ?_
    refine lv_d2l hx hb dX0_strength_79 ?_
    refine lv_lstore (lv' := [(7, .long (FP.d2l (FP.dsub (FP.dadd (FP.dadd (vf (fX0_placeOf sn p1 p2 p3).toNatClampNeg) (FP.dmul sp (fX0_range me p3))) (FP.dmul (FP.dmul (FP.dmul sb (fX0_range me p3)) (fX0_range me p3)) (4562254508917369340 : UInt64))) no))), (5, .double (fX0_range me p3)), (4, .int (fX0_placeOf sn p1 p2 p3)), (0, .ref ae), (1, .int p1), (2, .int p2), (3, .int p3)]) hx hb dX0_strength_80 hl (by decide) rfl (fun ls hl => ?_)
    refine lv_lconst (v := 0) hx hb dX0_strength_82 rfl ?_
    refine lv_lload hx hb dX0_strength_83 (lv_at hl 0 rfl) ?_
    refine va_mmax_long hx hb (hml.trans hl.1.symm) hown (hts (.methodLink RX0 78 Lib.MathLoose.max_long.x) (List.mem_of_getElem? (i := 6) rfl)) (hts (.static Lib.MathLoose.max_long.x) (List.mem_of_getElem? (i := 7) rfl)) (hts (.initialized "java/lang/Math") (List.mem_of_getElem? (i := 8) rfl)) (hts (.code Lib.MathLoose.max_long.x Lib.MathLoose.max_long.code 4 (some .long)) (List.mem_of_getElem? (i := 9) rfl)) (Nat.le_of_ble_eq_true rfl) (Nat.le_of_ble_eq_true rfl) (Nat.le_of_ble_eq_true rfl) (Nat.le_of_ble_eq_true rfl) dX0_strength_85 ?_
    have hF9 : (fX0_strength sn me vf lf sp sb no p1 p2 p3) = (if (FP.d2l (FP.dsub (FP.dadd (FP.dadd (vf (fX0_placeOf sn p1 p2 p3).toNatClampNeg) (FP.dmul sp (fX0_range me p3))) (FP.dmul (FP.dmul (FP.dmul sb (fX0_range me p3)) (fX0_range me p3)) (4562254508917369340 : UInt64))) no)) < (0 : Int64) then (0 : Int64) else (FP.d2l (FP.dsub (FP.dadd (FP.dadd (vf (fX0_placeOf sn p1 p2 p3).toNatClampNeg) (FP.dmul sp (fX0_range me p3))) (FP.dmul (FP.dmul (FP.dmul sb (fX0_range me p3)) (fX0_range me p3)) (4562254508917369340 : UInt64))) no))) := by rw [fX0_strength, if_neg c_12, if_neg c_24, if_pos c_32]
    have hP9 : va_P D vwCl (wE cyD cyI cyJ cyZ ae av ab sn me vf lf sp sb no) H := hP
    have hD9 : va_D A (wE cyD cyI cyJ cyZ ae av ab sn me vf lf sp sb no) := hD
    exact W.lret (v := (if (FP.d2l (FP.dsub (FP.dadd (FP.dadd (vf (fX0_placeOf sn p1 p2 p3).toNatClampNeg) (FP.dmul sp (fX0_range me p3))) (FP.dmul (FP.dmul (FP.dmul sb (fX0_range me p3)) (fX0_range me p3)) (4562254508917369340 : UInt64))) no)) < (0 : Int64) then (0 : Int64) else (FP.d2l (FP.dsub (FP.dadd (FP.dadd (vf (fX0_placeOf sn p1 p2 p3).toNatClampNeg) (FP.dmul sp (fX0_range me p3))) (FP.dmul (FP.dmul (FP.dmul sb (fX0_range me p3)) (fX0_range me p3)) (4562254508917369340 : UInt64))) no)))) hx hb hr (fun t ht hW => ⟨⟨(if (FP.d2l (FP.dsub (FP.dadd (FP.dadd (vf (fX0_placeOf sn p1 p2 p3).toNatClampNeg) (FP.dmul sp (fX0_range me p3))) (FP.dmul (FP.dmul (FP.dmul sb (fX0_range me p3)) (fX0_range me p3)) (4562254508917369340 : UInt64))) no)) < (0 : Int64) then (0 : Int64) else (FP.d2l (FP.dsub (FP.dadd (FP.dadd (vf (fX0_placeOf sn p1 p2 p3).toNatClampNeg) (FP.dmul sp (fX0_range me p3))) (FP.dmul (FP.dmul (FP.dmul sb (fX0_range me p3)) (fX0_range me p3)) (4562254508917369340 : UInt64))) no))), (), rfl, (by rw [hF9]), by rw [ht]; exact hP9, va_K.moved hW.alike hK, hD9⟩, hS.F ht⟩) hS.2.2 dX0_strength_88
  refine lv_lconst (v := 0) hx hb dX0_strength_35 rfl ?_
  have hF9 : (fX0_strength sn me vf lf sp sb no p1 p2 p3) = (0 : Int64) := by rw [fX0_strength, if_neg c_12, if_neg c_24, if_neg c_32]
  have hP9 : va_P D vwCl (wE cyD cyI cyJ cyZ ae av ab sn me vf lf sp sb no) H := hP
  have hD9 : va_D A (wE cyD cyI cyJ cyZ ae av ab sn me vf lf sp sb no) := hD
  exact W.lret (v := (0 : Int64)) hx hb hr (fun t ht hW => ⟨⟨(0 : Int64), (), rfl, (by rw [hF9]), by rw [ht]; exact hP9, va_K.moved hW.alike hK, hD9⟩, hS.F ht⟩) hS.2.2 dX0_strength_36
end
section
def fX1_rowsUpTo_L2 (rn : Int32) (sf : Nat → UInt64)  (p1 : UInt64) : Nat → (Int32) → Int32
  | 0, v_j => 0
  | k + 1, v_j => if rn ≤ v_j then v_j else (if 0 < (Op.cmpValue (FP.dcmp (sf (v_j).toNatClampNeg) p1) CmpOp.g) then v_j else ((fX1_rowsUpTo_L2 rn sf p1 k ((v_j) + 1))))
def fX1_rowsUpTo (rn : Int32) (sf : Nat → UInt64) (p1 : UInt64) : Int32 := (fX1_rowsUpTo_L2 rn sf p1 21 (0 : Int32))
set_option maxHeartbeats 4000000 in
set_option maxRecDepth 100000 in
theorem c_X1_rowsUpTo {l : Launch} {D : va_G} {cyD cyI cyJ cyZ : ClassId} (at_ a1 a2 : Nat) (rn : Int32) (sf : Nat → UInt64) (nf : Nat → UInt64) (sz : Nat) (p1 : UInt64) (r : Nat) (hrn : rn = nI r) (hr20 : r ≤ 20) : mI l yX1_rowsUpTo wsX1_rowsUpTo ({ frames := 0, cells := 0, slots := 0, locals := 0 } : Room) D (kT cyD cyI cyJ cyZ) [.ref at_, .double p1] (wT cyD cyI cyJ cyZ at_ a1 a2 rn sf nf) (wT cyD cyI cyJ cyZ at_ a1 a2 rn sf nf) sz (fX1_rowsUpTo rn sf p1) 0 0 := by
  refine Met.ofW (cc := cX1_rowsUpTo) (maxL := 4) (ret := (some .int)) (by decide) rfl ?_
  intro p e s m args below meth c s₁ B hml hv
  obtain ⟨rfl, hN, hsz, hP, hK, hD0⟩ := hv
  have hx := B.exec
  have hb := B.bytes
  have hr := B.returns
  have hts := atoms_spec (ws := wsX1_rowsUpTo) B.pre
  have hown : s.vm.findClass RX1 = some m.cls := findClass_of_methodNamed B.named
  have hlocks := B.notSynchronized
  subst hsz
  have hD := hD0.self (sz := s.heap.size)
  generalize hAe : va_A (wT cyD cyI cyJ cyZ at_ a1 a2 rn sf nf) s.heap.size = A at hD ⊢
  have hA : ∀ q : Nat, s.heap.size ≤ q → A q := fun q h => by rw [← hAe]; exact Or.inr h
  have hS : va_S A s.heap s.heap [] := va_S.rf
  have hP : va_P D vwCl (wT cyD cyI cyJ cyZ at_ a1 a2 rn sf nf) s.heap := hP
  have hl := lv_entry [.ref at_, .double p1] (n := 4) (Nat.le_of_ble_eq_true rfl)
  rw [lg_entry_eq]
  generalize (lg_sl [.ref at_, .double p1] ++ List.replicate (4 - (lg_sl [.ref at_, .double p1]).length) Slot.unset).toArray = ls at hl ⊢
  have hl : lv_has ls 4 [(0, .ref at_), (1, .double p1)] := hl
  obtain ⟨H, hHe⟩ : ∃ H : Heap, H = s.heap := ⟨_, rfl⟩
  have hP : va_P D vwCl (wT cyD cyI cyJ cyZ at_ a1 a2 rn sf nf) H := by rw [hHe]; exact hP
  have hS : va_S A s.heap H [] := by rw [hHe]; exact hS
  rw [← hHe]
  refine lv_iconst (v := 0) hx hb dX1_rowsUpTo_0 (by decide) ?_
  refine lv_istore_n (lv' := [(3, .int (0 : Int32)), (0, .ref at_), (1, .double p1)]) hx hb dX1_rowsUpTo_1 rfl hl (by decide) rfl (fun ls hl => ?_)
  have loop_2 : ∀ (k : Nat) (j : Nat) (H : Heap) (locs : List Loc), (j + k = 21) → (j ≤ r) → (fX1_rowsUpTo rn sf p1) = fX1_rowsUpTo_L2 rn sf p1 k ((nI j)) → va_P D vwCl (wT cyD cyI cyJ cyZ at_ a1 a2 rn sf nf) H → va_D A (wT cyD cyI cyJ cyZ at_ a1 a2 rn sf nf) → va_S A s.heap H locs → ∀ ls, lv_has ls 4 [(3, .int ((nI j))), (0, .ref at_), (1, .double p1)] → W p l e (headSpec wsX1_rowsUpTo ({ frames := 0, cells := 0, slots := 0, locals := 0 } : Room)).room s m ([.ref at_, .double p1] : List Value).toArray below meth c H locs 0 0 (MQ below (va_Qi (fun (r : Int32) (_ : Unit) => r = (fX1_rowsUpTo rn sf p1)) (kE D (kT cyD cyI cyJ cyZ) (wT cyD cyI cyJ cyZ at_ a1 a2 rn sf nf) A) A) ([.ref at_, .double p1] : List Value).toArray s 0 0 A) (F0 m 2 ls []) := by
    intro k
    induction k with
    | zero => intro j H locs hj hj2 hF hP hD hS ls hl; exact absurd hr20 (by omega)
    | succ k ih =>
      intro j H locs hj hj2 hF hP hD hS ls hl
      refine lv_iload_n hx hb dX1_rowsUpTo_2 rfl (lv_at hl 0 rfl) ?_
      refine lv_aload_n hx hb dX1_rowsUpTo_3 rfl (lv_at hl 1 rfl) ?_
      refine va_get (D := D) (ci := 1) (v := .int rn) (C := RX1) (T := TX1) (N := 3) hx hb hts (fun _ h => (List.mem_cons_of_mem _ (List.mem_append_right _ h))) hown hK hP 0 rfl rfl 2 (by decide) (hts (.fieldLink RX1 18 "BottomWalks$Table" "rows" "I") (List.mem_of_getElem? (i := 1) rfl)) (fun _ h9 => h9) rfl dX1_rowsUpTo_4 ?_
      refine lv_icmp_ge (tgt := 27) hx hb dX1_rowsUpTo_7 (by decide) (fun c_7 => ?_) (fun c_7 => ?_)
      · refine lv_iload_n hx hb dX1_rowsUpTo_27 rfl (lv_at hl 0 rfl) ?_
        have hF9 : (fX1_rowsUpTo rn sf p1) = (nI j) := by rw [hF, fX1_rowsUpTo_L2, if_pos c_7]
        have hP9 : va_P D vwCl (wT cyD cyI cyJ cyZ at_ a1 a2 rn sf nf) H := hP
        have hD9 : va_D A (wT cyD cyI cyJ cyZ at_ a1 a2 rn sf nf) := hD
        exact W.iret (v := (nI j)) hx hb hr (fun t ht hW => ⟨⟨(nI j), (), rfl, (by rw [hF9]), by rw [ht]; exact hP9, va_K.moved hW.alike hK, hD9⟩, hS.F ht⟩) hS.2.2 dX1_rowsUpTo_28
      refine lv_aload_n hx hb dX1_rowsUpTo_10 rfl (lv_at hl 1 rfl) ?_
      refine va_get (D := D) (ci := 1) (v := .ref a1) (C := RX1) (T := TX1) (N := 3) hx hb hts (fun _ h => (List.mem_cons_of_mem _ (List.mem_append_right _ h))) hown hK hP 0 rfl rfl 0 (by decide) (hts (.fieldLink RX1 9 "BottomWalks$Table" "starts" "[D") (List.mem_of_getElem? (i := 2) rfl)) (fun _ h9 => h9) rfl dX1_rowsUpTo_11 ?_
      refine lv_iload_n hx hb dX1_rowsUpTo_14 rfl (lv_at hl 0 rfl) ?_
      refine va_dald hx hb hK hP 1 0 rfl rfl (by rw [hrn] at c_7; exact vp_in_nI (by have := Nat.lt_of_not_le (fun q => c_7 (nI_le q (by omega))); omega) (by decide)) dX1_rowsUpTo_15 ?_
      refine lv_dload_n hx hb dX1_rowsUpTo_16 rfl (lv_at hl 2 rfl) ?_
      refine lv_dcmp hx hb dX1_rowsUpTo_17 ?_
      refine lv_if_gt (tgt := 27) hx hb dX1_rowsUpTo_18 (by decide) (fun c_18 => ?_) (fun c_18 => ?_)
      · refine lv_iload_n hx hb dX1_rowsUpTo_27 rfl (lv_at hl 0 rfl) ?_
        have hF9 : (fX1_rowsUpTo rn sf p1) = (nI j) := by rw [hF, fX1_rowsUpTo_L2, if_neg c_7, if_pos c_18]
        have hP9 : va_P D vwCl (wT cyD cyI cyJ cyZ at_ a1 a2 rn sf nf) H := hP
        have hD9 : va_D A (wT cyD cyI cyJ cyZ at_ a1 a2 rn sf nf) := hD
        exact W.iret (v := (nI j)) hx hb hr (fun t ht hW => ⟨⟨(nI j), (), rfl, (by rw [hF9]), by rw [ht]; exact hP9, va_K.moved hW.alike hK, hD9⟩, hS.F ht⟩) hS.2.2 dX1_rowsUpTo_28
      refine lv_iinc (v := (((nI j)) + 1)) (lv' := [(3, .int (((nI j)) + 1)), (0, .ref at_), (1, .double p1)]) hx hb dX1_rowsUpTo_21 hl (k := 0) rfl rfl (by decide) rfl (fun ls hl => ?_)
      refine lv_goto (tgt := 2) hx hb dX1_rowsUpTo_24 (by decide) ?_
      exact ih (j + 1) _ _ (by omega) (by rw [hrn] at c_7; have := Nat.lt_of_not_le (fun q => c_7 (nI_le q (by omega))); omega) (by rw [← nI_1 j]; rw [hF, fX1_rowsUpTo_L2, if_neg c_7, if_neg c_18]) hP hD hS _ (by rw [← nI_1 j]; exact lv_sub hl [0, 1, 2] rfl)
  exact loop_2 21 0 _ _ rfl (Nat.zero_le _) (by rw [nI_0]; rw [fX1_rowsUpTo]) hP hD hS _ (by exact lv_sub hl [0, 1, 2] rfl)
theorem upTo_L {rn : Int32} {sf : Nat → UInt64} {w : UInt64} {r : Nat} (hrn : rn = nI r) (hr : r ≤ 20) : ∀ (k j : Nat), j + k = 21 → j ≤ r → ∃ q : Nat, j ≤ q ∧ q ≤ r ∧ fX1_rowsUpTo_L2 rn sf w k (nI j) = nI q := by
  intro k; induction k with
  | zero => intro j h1 h2; omega
  | succ k ih =>
    intro j h1 h2
    rw [fX1_rowsUpTo_L2]
    by_cases c1 : rn ≤ nI j
    · rw [if_pos c1]; exact ⟨j, Nat.le_refl _, h2, rfl⟩
    · rw [if_neg c1]
      rw [hrn] at c1
      have h3 := Nat.lt_of_not_le (fun q => c1 (nI_le q (by omega)))
      split
      · exact ⟨j, Nat.le_refl _, h2, rfl⟩
      · rw [nI_1]
        obtain ⟨q, a, b, e⟩ := ih (j + 1) (by omega) (by omega)
        exact ⟨q, by omega, b, e⟩
theorem upTo_nI {rn : Int32} (sf : Nat → UInt64) (w : UInt64) {r : Nat} (hrn : rn = nI r) (hr : r ≤ 20) : ∃ q : Nat, q ≤ r ∧ fX1_rowsUpTo rn sf w = nI q := by
  obtain ⟨q, _, b, e⟩ := upTo_L (sf := sf) (w := w) hrn hr 21 0 rfl (Nat.zero_le _)
  exact ⟨q, b, by rw [fX1_rowsUpTo]; exact e⟩
theorem nI_0m : nI 0 - 1 = -1 := by decide
theorem step_in {rn : Int32} (sf : Nat → UInt64) (w : UInt64) {r : Nat} (hrn : rn = nI r) (hr : r ≤ 20) (h0 : ¬ rn = 0) : vp_in (if (0 : Int32) < (fX1_rowsUpTo rn sf w - 1) then (fX1_rowsUpTo rn sf w - 1) else (0 : Int32)) 20 := by
  obtain ⟨q, hq, e⟩ := upTo_nI sf w hrn hr
  rw [e]
  by_cases z : q = 0
  · rw [z, nI_0m, if_neg (by decide)]; exact vp_in_nI (n := 0) (by decide) (by decide)
  · rw [nI_sub1 (by omega)]
    split
    · exact vp_in_nI (by omega) (by decide)
    · exact vp_in_nI (n := 0) (by decide) (by decide)
theorem upm1_in {rn : Int32} (sf : Nat → UInt64) (w : UInt64) {r : Nat} (hrn : rn = nI r) (hr : r ≤ 20) (h0 : ¬ fX1_rowsUpTo rn sf w ≤ 0) : vp_in (fX1_rowsUpTo rn sf w - 1) 20 := by
  obtain ⟨q, hq, e⟩ := upTo_nI sf w hrn hr
  rw [e] at h0 ⊢
  have z : ¬ q = 0 := fun z => h0 (by rw [z]; decide)
  rw [nI_sub1 (by omega)]; exact vp_in_nI (by omega) (by decide)
theorem upm1_in2 {rn : Int32} (sf : Nat → UInt64) (w : UInt64) {r : Nat} (hrn : rn = nI r) (hr : r ≤ 20) (h0 : ¬ fX1_rowsUpTo rn sf w < 1) : vp_in (fX1_rowsUpTo rn sf w - 1) 20 := by
  obtain ⟨q, hq, e⟩ := upTo_nI sf w hrn hr
  rw [e] at h0 ⊢
  have z : ¬ q = 0 := fun z => h0 (by rw [z]; decide)
  rw [nI_sub1 (by omega)]; exact vp_in_nI (by omega) (by decide)
theorem up_in {rn : Int32} (sf : Nat → UInt64) (w : UInt64) {r : Nat} (hrn : rn = nI r) (hr : r ≤ 20) (h0 : fX1_rowsUpTo rn sf w < rn) : vp_in (fX1_rowsUpTo rn sf w) 20 := by
  obtain ⟨q, hq, e⟩ := upTo_nI sf w hrn hr
  rw [e, hrn] at h0
  rw [e]
  have z := (nI_ltI (by omega) (by omega)).mp h0
  exact vp_in_nI (by omega) (by decide)
theorem up_in2 {rn : Int32} (sf : Nat → UInt64) (w : UInt64) {r : Nat} (hrn : rn = nI r) (hr : r ≤ 20) (h0 : rn < 20) : vp_in (fX1_rowsUpTo rn sf w) 20 := by
  obtain ⟨q, hq, e⟩ := upTo_nI sf w hrn hr
  rw [hrn] at h0
  rw [e]
  have z := (nI_ltI (b := 20) (by omega) (by omega)).mp h0
  exact vp_in_nI (by omega) (by decide)
theorem vpin_bd {i : Int32} {n B : Nat} {f : Nat → UInt64} (h : vp_in i n) (hn : n < 2 ^ 31) (hf : ∀ i, i < n → bd B (f i)) : bd B (f i.toNatClampNeg) := by
  obtain ⟨j, hj, rfl⟩ := vp_in_of h hn
  rw [nI_clamp (by omega)]; exact hf j hj
def fX1_stepAt (rn : Int32) (sf : Nat → UInt64) (nf : Nat → UInt64) (p1 : UInt64) (p2 : UInt64) : UInt64 := if rn = 0 then p2 else ((nf (if (0 : Int32) < ((fX1_rowsUpTo rn sf p1) - (1 : Int32)) then ((fX1_rowsUpTo rn sf p1) - (1 : Int32)) else (0 : Int32)).toNatClampNeg))
set_option maxHeartbeats 4000000 in
set_option maxRecDepth 100000 in
theorem c_X1_stepAt {l : Launch} {D : va_G} {cyD cyI cyJ cyZ : ClassId} (at_ a1 a2 : Nat) (rn : Int32) (sf : Nat → UInt64) (nf : Nat → UInt64) (sz : Nat) (p1 : UInt64) (p2 : UInt64) (r : Nat) (hrn : rn = nI r) (hr20 : r ≤ 20) : mD l yX1_stepAt wsX1_stepAt ({ frames := 1, cells := 0, slots := 0, locals := 23 } : Room) D (kT cyD cyI cyJ cyZ) [.ref at_, .double p1, .double p2] (wT cyD cyI cyJ cyZ at_ a1 a2 rn sf nf) (wT cyD cyI cyJ cyZ at_ a1 a2 rn sf nf) sz (fX1_stepAt rn sf nf p1 p2) 0 0 := by
  refine Met.ofW (cc := cX1_stepAt) (maxL := 5) (ret := (some .double)) (by decide) rfl ?_
  intro p e s m args below meth c s₁ B hml hv
  obtain ⟨rfl, hN, hsz, hP, hK, hD0⟩ := hv
  have hx := B.exec
  have hb := B.bytes
  have hr := B.returns
  have hts := atoms_spec (ws := wsX1_stepAt) B.pre
  have hown : s.vm.findClass RX1 = some m.cls := findClass_of_methodNamed B.named
  have hlocks := B.notSynchronized
  subst hsz
  have hD := hD0.self (sz := s.heap.size)
  generalize hAe : va_A (wT cyD cyI cyJ cyZ at_ a1 a2 rn sf nf) s.heap.size = A at hD ⊢
  have hA : ∀ q : Nat, s.heap.size ≤ q → A q := fun q h => by rw [← hAe]; exact Or.inr h
  have hS : va_S A s.heap s.heap [] := va_S.rf
  have hP : va_P D vwCl (wT cyD cyI cyJ cyZ at_ a1 a2 rn sf nf) s.heap := hP
  have hl := lv_entry [.ref at_, .double p1, .double p2] (n := 5) (Nat.le_of_ble_eq_true rfl)
  rw [lg_entry_eq]
  generalize (lg_sl [.ref at_, .double p1, .double p2] ++ List.replicate (5 - (lg_sl [.ref at_, .double p1, .double p2]).length) Slot.unset).toArray = ls at hl ⊢
  have hl : lv_has ls 5 [(0, .ref at_), (1, .double p1), (3, .double p2)] := hl
  obtain ⟨H, hHe⟩ : ∃ H : Heap, H = s.heap := ⟨_, rfl⟩
  have hP : va_P D vwCl (wT cyD cyI cyJ cyZ at_ a1 a2 rn sf nf) H := by rw [hHe]; exact hP
  have hS : va_S A s.heap H [] := by rw [hHe]; exact hS
  rw [← hHe]
  refine lv_aload_n hx hb dX1_stepAt_0 rfl (lv_at hl 0 rfl) ?_
  refine va_get (D := D) (ci := 1) (v := .int rn) (C := RX1) (T := TX1) (N := 3) hx hb hts (fun _ h => (List.mem_cons_of_mem _ (List.mem_append_right _ h))) hown hK hP 0 rfl rfl 2 (by decide) (hts (.fieldLink RX1 18 "BottomWalks$Table" "rows" "I") (List.mem_of_getElem? (i := 1) rfl)) (fun _ h9 => h9) rfl dX1_stepAt_1 ?_
  refine lv_if_ne (tgt := 9) hx hb dX1_stepAt_4 (by decide) (fun c_4 => ?_) (fun c_4 => ?_)
  · refine lv_aload_n hx hb dX1_stepAt_9 rfl (lv_at hl 0 rfl) ?_
    refine va_get (D := D) (ci := 1) (v := .ref a2) (C := RX1) (T := TX1) (N := 3) hx hb hts (fun _ h => (List.mem_cons_of_mem _ (List.mem_append_right _ h))) hown hK hP 0 rfl rfl 1 (by decide) (hts (.fieldLink RX1 15 "BottomWalks$Table" "numbers" "[D") (List.mem_of_getElem? (i := 2) rfl)) (fun _ h9 => h9) rfl dX1_stepAt_10 ?_
    refine lv_iconst (v := 0) hx hb dX1_stepAt_13 (by decide) ?_
    refine lv_aload_n hx hb dX1_stepAt_14 rfl (lv_at hl 0 rfl) ?_
    refine lv_dload_n hx hb dX1_stepAt_15 rfl (lv_at hl 1 rfl) ?_
    have hPc : va_P D vwCl (wT cyD cyI cyJ cyZ at_ a1 a2 rn sf nf) H := hP.sub [0, 1, 2] rfl
    have hDc : va_D A (wT cyD cyI cyJ cyZ at_ a1 a2 rn sf nf) := hD.sub [0, 1, 2] (by decide) rfl
    refine kiE (ws' := (wT cyD cyI cyJ cyZ at_ a1 a2 rn sf nf)) (wc := (wT cyD cyI cyJ cyZ at_ a1 a2 rn sf nf)) (wr := []) (w1 := (wT cyD cyI cyJ cyZ at_ a1 a2 rn sf nf)) (va_runV (As := [.double p1]) (rest := [.int (0 : Int32), .ref a2]) ⟨hx, hb, hml, hown, hts⟩ (c_X1_rowsUpTo (l := l) (D := D) (cyD := cyD) (cyI := cyI) (cyJ := cyJ) (cyZ := cyZ) at_ a1 a2 rn sf nf H.size p1 r hrn hr20) (cwV 1 hts gX1_stepAt_X1_rowsUpTo rfl rfl rfl (by decide +kernel) ⟨Nat.le_of_ble_eq_true rfl, Nat.le_of_ble_eq_true rfl⟩) (kV (ci := 1) (q0 := 0) (q := (RX1, TX1, 3)) hN hK hPc hDc rfl rfl rfl) rfl rfl hl.1 rfl (lv_room (Nat.le_of_ble_eq_true rfl)) dX1_stepAt_16 ⟨Nat.le_of_ble_eq_true rfl, Nat.le_of_ble_eq_true rfl⟩) hP hD hS hA [0, 1, 2] [] [0, 1, 2] rfl rfl (by decide) (by decide) rfl (by decide) (fun H locs hP hD hS => ?_)
    refine lv_iconst (v := 1) hx hb dX1_stepAt_19 (by decide) ?_
    refine lv_isub hx hb dX1_stepAt_20 ?_
    refine va_mmax hx hb (hml.trans hl.1.symm) hown (hts (.methodLink RX1 26 Lib.Math.max.name) (List.mem_of_getElem? (i := 3) rfl)) (hts (.static Lib.Math.max.name) (List.mem_of_getElem? (i := 4) rfl)) (hts (.initialized "java/lang/Math") (List.mem_of_getElem? (i := 5) rfl)) (hts (.code Lib.Math.max.name Lib.Math.max.code 2 (some .int)) (List.mem_of_getElem? (i := 6) rfl)) (Nat.le_of_ble_eq_true rfl) (Nat.le_of_ble_eq_true rfl) (Nat.le_of_ble_eq_true rfl) (Nat.le_of_ble_eq_true rfl) dX1_stepAt_21 ?_
    refine va_dald hx hb hK hP 2 0 rfl rfl (step_in sf p1 hrn hr20 c_4) dX1_stepAt_24 ?_
    have hF9 : (fX1_stepAt rn sf nf p1 p2) = (nf (if (0 : Int32) < ((fX1_rowsUpTo rn sf p1) - (1 : Int32)) then ((fX1_rowsUpTo rn sf p1) - (1 : Int32)) else (0 : Int32)).toNatClampNeg) := by rw [fX1_stepAt, if_neg c_4]
    have hP9 : va_P D vwCl (wT cyD cyI cyJ cyZ at_ a1 a2 rn sf nf) H := hP
    have hD9 : va_D A (wT cyD cyI cyJ cyZ at_ a1 a2 rn sf nf) := hD
    exact W.dret (v := (nf (if (0 : Int32) < ((fX1_rowsUpTo rn sf p1) - (1 : Int32)) then ((fX1_rowsUpTo rn sf p1) - (1 : Int32)) else (0 : Int32)).toNatClampNeg)) hx hb hr (fun t ht hW => ⟨⟨(nf (if (0 : Int32) < ((fX1_rowsUpTo rn sf p1) - (1 : Int32)) then ((fX1_rowsUpTo rn sf p1) - (1 : Int32)) else (0 : Int32)).toNatClampNeg), (), rfl, (by rw [hF9]), by rw [ht]; exact hP9, va_K.moved hW.alike hK, hD9⟩, hS.F ht⟩) hS.2.2 dX1_stepAt_25
  refine lv_dload_n hx hb dX1_stepAt_7 rfl (lv_at hl 2 rfl) ?_
  have hF9 : (fX1_stepAt rn sf nf p1 p2) = p2 := by rw [fX1_stepAt, if_pos c_4]
  have hP9 : va_P D vwCl (wT cyD cyI cyJ cyZ at_ a1 a2 rn sf nf) H := hP
  have hD9 : va_D A (wT cyD cyI cyJ cyZ at_ a1 a2 rn sf nf) := hD
  exact W.dret (v := p2) hx hb hr (fun t ht hW => ⟨⟨p2, (), rfl, (by rw [hF9]), by rw [ht]; exact hP9, va_K.moved hW.alike hK, hD9⟩, hS.F ht⟩) hS.2.2 dX1_stepAt_8
def fX1_slopeAt (rn : Int32) (sf : Nat → UInt64) (nf : Nat → UInt64) (p1 : UInt64) (p2 : UInt64) : UInt64 := if (fX1_rowsUpTo rn sf p1) < (1 : Int32) then (fX1_stepAt rn sf nf p1 p2) else (if (fX1_rowsUpTo rn sf p1) < rn then (FP.dadd (nf ((fX1_rowsUpTo rn sf p1) - (1 : Int32)).toNatClampNeg) (FP.dmul (FP.dsub (nf (fX1_rowsUpTo rn sf p1).toNatClampNeg) (nf ((fX1_rowsUpTo rn sf p1) - (1 : Int32)).toNatClampNeg)) (fX3_over (FP.dsub p1 (sf ((fX1_rowsUpTo rn sf p1) - (1 : Int32)).toNatClampNeg)) (FP.dsub (sf (fX1_rowsUpTo rn sf p1).toNatClampNeg) (sf ((fX1_rowsUpTo rn sf p1) - (1 : Int32)).toNatClampNeg))))) else ((fX1_stepAt rn sf nf p1 p2)))
set_option maxHeartbeats 4000000 in
set_option maxRecDepth 100000 in
theorem c_X1_slopeAt {l : Launch} {D : va_G} {cyD cyI cyJ cyZ : ClassId} (at_ a1 a2 : Nat) (rn : Int32) (sf : Nat → UInt64) (nf : Nat → UInt64) (sz : Nat) (p1 : UInt64) (p2 : UInt64) (r : Nat) (hrn : rn = nI r) (hr20 : r ≤ 20) (hs : ∀ i, i < 20 → bd 1041 (sf i)) (hn : ∀ i, i < 20 → bd 1041 (nf i)) (hp : bd 1041 p1) (ho : ¬ fX1_rowsUpTo rn sf p1 < 1 → fX1_rowsUpTo rn sf p1 < rn → vf_n64 (FP.ddiv (FP.dsub p1 (sf (fX1_rowsUpTo rn sf p1 - 1).toNatClampNeg)) (FP.dsub (sf (fX1_rowsUpTo rn sf p1).toNatClampNeg) (sf (fX1_rowsUpTo rn sf p1 - 1).toNatClampNeg))) ∧ bd 1100 (fX3_over (FP.dsub p1 (sf (fX1_rowsUpTo rn sf p1 - 1).toNatClampNeg)) (FP.dsub (sf (fX1_rowsUpTo rn sf p1).toNatClampNeg) (sf (fX1_rowsUpTo rn sf p1 - 1).toNatClampNeg)))) : mD l yX1_slopeAt wsX1_slopeAt ({ frames := 2, cells := 0, slots := 0, locals := 47 } : Room) D (kT cyD cyI cyJ cyZ) [.ref at_, .double p1, .double p2] (wT cyD cyI cyJ cyZ at_ a1 a2 rn sf nf) (wT cyD cyI cyJ cyZ at_ a1 a2 rn sf nf) sz (fX1_slopeAt rn sf nf p1 p2) 0 0 := by
  refine Met.ofW (cc := cX1_slopeAt) (maxL := 14) (ret := (some .double)) (by decide) rfl ?_
  intro p e s m args below meth c s₁ B hml hv
  obtain ⟨rfl, hN, hsz, hP, hK, hD0⟩ := hv
  have hx := B.exec
  have hb := B.bytes
  have hr := B.returns
  have hts := atoms_spec (ws := wsX1_slopeAt) B.pre
  have hown : s.vm.findClass RX1 = some m.cls := findClass_of_methodNamed B.named
  have hlocks := B.notSynchronized
  subst hsz
  have hD := hD0.self (sz := s.heap.size)
  generalize hAe : va_A (wT cyD cyI cyJ cyZ at_ a1 a2 rn sf nf) s.heap.size = A at hD ⊢
  have hA : ∀ q : Nat, s.heap.size ≤ q → A q := fun q h => by rw [← hAe]; exact Or.inr h
  have hS : va_S A s.heap s.heap [] := va_S.rf
  have hP : va_P D vwCl (wT cyD cyI cyJ cyZ at_ a1 a2 rn sf nf) s.heap := hP
  have hl := lv_entry [.ref at_, .double p1, .double p2] (n := 14) (Nat.le_of_ble_eq_true rfl)
  rw [lg_entry_eq]
  generalize (lg_sl [.ref at_, .double p1, .double p2] ++ List.replicate (14 - (lg_sl [.ref at_, .double p1, .double p2]).length) Slot.unset).toArray = ls at hl ⊢
  have hl : lv_has ls 14 [(0, .ref at_), (1, .double p1), (3, .double p2)] := hl
  obtain ⟨H, hHe⟩ : ∃ H : Heap, H = s.heap := ⟨_, rfl⟩
  have hP : va_P D vwCl (wT cyD cyI cyJ cyZ at_ a1 a2 rn sf nf) H := by rw [hHe]; exact hP
  have hS : va_S A s.heap H [] := by rw [hHe]; exact hS
  rw [← hHe]
  refine lv_aload_n hx hb dX1_slopeAt_0 rfl (lv_at hl 0 rfl) ?_
  refine lv_dload_n hx hb dX1_slopeAt_1 rfl (lv_at hl 1 rfl) ?_
  have hPc : va_P D vwCl (wT cyD cyI cyJ cyZ at_ a1 a2 rn sf nf) H := hP.sub [0, 1, 2] rfl
  have hDc : va_D A (wT cyD cyI cyJ cyZ at_ a1 a2 rn sf nf) := hD.sub [0, 1, 2] (by decide) rfl
  refine kiE (ws' := (wT cyD cyI cyJ cyZ at_ a1 a2 rn sf nf)) (wc := (wT cyD cyI cyJ cyZ at_ a1 a2 rn sf nf)) (wr := []) (w1 := (wT cyD cyI cyJ cyZ at_ a1 a2 rn sf nf)) (va_runV (As := [.double p1]) (rest := []) ⟨hx, hb, hml, hown, hts⟩ (c_X1_rowsUpTo (l := l) (D := D) (cyD := cyD) (cyI := cyI) (cyJ := cyJ) (cyZ := cyZ) at_ a1 a2 rn sf nf H.size p1 r hrn hr20) (cwV 1 hts gX1_slopeAt_X1_rowsUpTo rfl rfl rfl (by decide +kernel) ⟨Nat.le_of_ble_eq_true rfl, Nat.le_of_ble_eq_true rfl⟩) (kV (ci := 1) (q0 := 0) (q := (RX1, TX1, 3)) hN hK hPc hDc rfl rfl rfl) rfl rfl hl.1 rfl (lv_room (Nat.le_of_ble_eq_true rfl)) dX1_slopeAt_2 ⟨Nat.le_of_ble_eq_true rfl, Nat.le_of_ble_eq_true rfl⟩) hP hD hS hA [0, 1, 2] [] [0, 1, 2] rfl rfl (by decide) (by decide) rfl (by decide) (fun H locs hP hD hS => ?_)
  refine lv_istore (lv' := [(5, .int (fX1_rowsUpTo rn sf p1)), (0, .ref at_), (1, .double p1), (3, .double p2)]) hx hb dX1_slopeAt_5 hl (by decide) rfl (fun ls hl => ?_)
  refine lv_iload hx hb dX1_slopeAt_7 (lv_at hl 0 rfl) ?_
  refine lv_iconst (v := 1) hx hb dX1_slopeAt_9 (by decide) ?_
  refine lv_icmp_lt (tgt := 22) hx hb dX1_slopeAt_10 (by decide) (fun c_10 => ?_) (fun c_10 => ?_)
  · refine lv_aload_n hx hb dX1_slopeAt_22 rfl (lv_at hl 1 rfl) ?_
    refine lv_dload_n hx hb dX1_slopeAt_23 rfl (lv_at hl 2 rfl) ?_
    refine lv_dload_n hx hb dX1_slopeAt_24 rfl (lv_at hl 3 rfl) ?_
    have hPc : va_P D vwCl (wT cyD cyI cyJ cyZ at_ a1 a2 rn sf nf) H := hP.sub [0, 1, 2] rfl
    have hDc : va_D A (wT cyD cyI cyJ cyZ at_ a1 a2 rn sf nf) := hD.sub [0, 1, 2] (by decide) rfl
    refine kdE (ws' := (wT cyD cyI cyJ cyZ at_ a1 a2 rn sf nf)) (wc := (wT cyD cyI cyJ cyZ at_ a1 a2 rn sf nf)) (wr := []) (w1 := (wT cyD cyI cyJ cyZ at_ a1 a2 rn sf nf)) (va_runV (As := [.double p1, .double p2]) (rest := []) ⟨hx, hb, hml, hown, hts⟩ (c_X1_stepAt (l := l) (D := D) (cyD := cyD) (cyI := cyI) (cyJ := cyJ) (cyZ := cyZ) at_ a1 a2 rn sf nf H.size p1 p2 r hrn hr20) (cwV 2 hts gX1_slopeAt_X1_stepAt rfl rfl rfl (by decide +kernel) ⟨Nat.le_of_ble_eq_true rfl, Nat.le_of_ble_eq_true rfl⟩) (kV (ci := 1) (q0 := 0) (q := (RX1, TX1, 3)) hN hK hPc hDc rfl rfl rfl) rfl rfl hl.1 rfl (lv_room (Nat.le_of_ble_eq_true rfl)) dX1_slopeAt_25 ⟨Nat.le_of_ble_eq_true rfl, Nat.le_of_ble_eq_true rfl⟩) hP hD hS hA [0, 1, 2] [] [0, 1, 2] rfl rfl (by decide) (by decide) rfl (by decide) (fun H locs hP hD hS => ?_)
    have hF9 : (fX1_slopeAt rn sf nf p1 p2) = (fX1_stepAt rn sf nf p1 p2) := by rw [fX1_slopeAt, if_pos c_10]
    have hP9 : va_P D vwCl (wT cyD cyI cyJ cyZ at_ a1 a2 rn sf nf) H := hP
    have hD9 : va_D A (wT cyD cyI cyJ cyZ at_ a1 a2 rn sf nf) := hD
    exact W.dret (v := (fX1_stepAt rn sf nf p1 p2)) hx hb hr (fun t ht hW => ⟨⟨(fX1_stepAt rn sf nf p1 p2), (), rfl, (by rw [hF9]), by rw [ht]; exact hP9, va_K.moved hW.alike hK, hD9⟩, hS.F ht⟩) hS.2.2 dX1_slopeAt_28
  refine lv_iload hx hb dX1_slopeAt_13 (lv_at hl 0 rfl) ?_
  refine lv_aload_n hx hb dX1_slopeAt_15 rfl (lv_at hl 1 rfl) ?_
  refine va_get (D := D) (ci := 1) (v := .int rn) (C := RX1) (T := TX1) (N := 3) hx hb hts (fun _ h => (List.mem_cons_of_mem _ (List.mem_append_right _ h))) hown hK hP 0 rfl rfl 2 (by decide) (hts (.fieldLink RX1 18 "BottomWalks$Table" "rows" "I") (List.mem_of_getElem? (i := 1) rfl)) (fun _ h9 => h9) rfl dX1_slopeAt_16 ?_
  refine lv_icmp_lt (tgt := 29) hx hb dX1_slopeAt_19 (by decide) (fun c_19 => ?_) (fun c_19 => ?_)
  · refine lv_aload_n hx hb dX1_slopeAt_29 rfl (lv_at hl 1 rfl) ?_
    refine va_get (D := D) (ci := 1) (v := .ref a2) (C := RX1) (T := TX1) (N := 3) hx hb hts (fun _ h => (List.mem_cons_of_mem _ (List.mem_append_right _ h))) hown hK hP 0 rfl rfl 1 (by decide) (hts (.fieldLink RX1 15 "BottomWalks$Table" "numbers" "[D") (List.mem_of_getElem? (i := 2) rfl)) (fun _ h9 => h9) rfl dX1_slopeAt_30 ?_
    refine lv_iload hx hb dX1_slopeAt_33 (lv_at hl 0 rfl) ?_
    refine lv_iconst (v := 1) hx hb dX1_slopeAt_35 (by decide) ?_
    refine lv_isub hx hb dX1_slopeAt_36 ?_
    refine va_dald hx hb hK hP 2 0 rfl rfl (upm1_in2 sf p1 hrn hr20 c_10) dX1_slopeAt_37 ?_
    refine lv_dstore (lv' := [(6, .double (nf ((fX1_rowsUpTo rn sf p1) - (1 : Int32)).toNatClampNeg)), (5, .int (fX1_rowsUpTo rn sf p1)), (0, .ref at_), (1, .double p1), (3, .double p2)]) hx hb dX1_slopeAt_38 hl (by decide) rfl (fun ls hl => ?_)
    refine lv_aload_n hx hb dX1_slopeAt_40 rfl (lv_at hl 2 rfl) ?_
    refine va_get (D := D) (ci := 1) (v := .ref a2) (C := RX1) (T := TX1) (N := 3) hx hb hts (fun _ h => (List.mem_cons_of_mem _ (List.mem_append_right _ h))) hown hK hP 0 rfl rfl 1 (by decide) (hts (.fieldLink RX1 15 "BottomWalks$Table" "numbers" "[D") (List.mem_of_getElem? (i := 2) rfl)) (fun _ h9 => h9) rfl dX1_slopeAt_41 ?_
    refine lv_iload hx hb dX1_slopeAt_44 (lv_at hl 1 rfl) ?_
    refine va_dald hx hb hK hP 2 0 rfl rfl (up_in sf p1 hrn hr20 c_19) dX1_slopeAt_46 ?_
    refine lv_dstore (lv' := [(8, .double (nf (fX1_rowsUpTo rn sf p1).toNatClampNeg)), (6, .double (nf ((fX1_rowsUpTo rn sf p1) - (1 : Int32)).toNatClampNeg)), (5, .int (fX1_rowsUpTo rn sf p1)), (0, .ref at_), (1, .double p1), (3, .double p2)]) hx hb dX1_slopeAt_47 hl (by decide) rfl (fun ls hl => ?_)
    refine lv_aload_n hx hb dX1_slopeAt_49 rfl (lv_at hl 3 rfl) ?_
    refine va_get (D := D) (ci := 1) (v := .ref a1) (C := RX1) (T := TX1) (N := 3) hx hb hts (fun _ h => (List.mem_cons_of_mem _ (List.mem_append_right _ h))) hown hK hP 0 rfl rfl 0 (by decide) (hts (.fieldLink RX1 9 "BottomWalks$Table" "starts" "[D") (List.mem_of_getElem? (i := 3) rfl)) (fun _ h9 => h9) rfl dX1_slopeAt_50 ?_
    refine lv_iload hx hb dX1_slopeAt_53 (lv_at hl 2 rfl) ?_
    refine lv_iconst (v := 1) hx hb dX1_slopeAt_55 (by decide) ?_
    refine lv_isub hx hb dX1_slopeAt_56 ?_
    refine va_dald hx hb hK hP 1 0 rfl rfl (upm1_in2 sf p1 hrn hr20 c_10) dX1_slopeAt_57 ?_
    refine lv_dstore (lv' := [(10, .double (sf ((fX1_rowsUpTo rn sf p1) - (1 : Int32)).toNatClampNeg)), (8, .double (nf (fX1_rowsUpTo rn sf p1).toNatClampNeg)), (6, .double (nf ((fX1_rowsUpTo rn sf p1) - (1 : Int32)).toNatClampNeg)), (5, .int (fX1_rowsUpTo rn sf p1)), (0, .ref at_), (1, .double p1), (3, .double p2)]) hx hb dX1_slopeAt_58 hl (by decide) rfl (fun ls hl => ?_)
    refine lv_aload_n hx hb dX1_slopeAt_60 rfl (lv_at hl 4 rfl) ?_
    refine va_get (D := D) (ci := 1) (v := .ref a1) (C := RX1) (T := TX1) (N := 3) hx hb hts (fun _ h => (List.mem_cons_of_mem _ (List.mem_append_right _ h))) hown hK hP 0 rfl rfl 0 (by decide) (hts (.fieldLink RX1 9 "BottomWalks$Table" "starts" "[D") (List.mem_of_getElem? (i := 3) rfl)) (fun _ h9 => h9) rfl dX1_slopeAt_61 ?_
    refine lv_iload hx hb dX1_slopeAt_64 (lv_at hl 3 rfl) ?_
    refine va_dald hx hb hK hP 1 0 rfl rfl (up_in sf p1 hrn hr20 c_19) dX1_slopeAt_66 ?_
    refine lv_dstore (lv' := [(12, .double (sf (fX1_rowsUpTo rn sf p1).toNatClampNeg)), (10, .double (sf ((fX1_rowsUpTo rn sf p1) - (1 : Int32)).toNatClampNeg)), (8, .double (nf (fX1_rowsUpTo rn sf p1).toNatClampNeg)), (6, .double (nf ((fX1_rowsUpTo rn sf p1) - (1 : Int32)).toNatClampNeg)), (5, .int (fX1_rowsUpTo rn sf p1)), (0, .ref at_), (1, .double p1), (3, .double p2)]) hx hb dX1_slopeAt_67 hl (by decide) rfl (fun ls hl => ?_)
    refine lv_dload hx hb dX1_slopeAt_69 (lv_at hl 3 rfl) ?_
    refine lv_dload hx hb dX1_slopeAt_71 (lv_at hl 2 rfl) ?_
    refine lv_dload hx hb dX1_slopeAt_73 (lv_at hl 3 rfl) ?_
    refine lv_dsub hx hb dX1_slopeAt_75 (bd_n (bd_sub (Ka := 1041) (Kb := 1041) (K := 1043) (vpin_bd (up_in sf p1 hrn hr20 c_19) (by decide) hn) (vpin_bd (upm1_in2 sf p1 hrn hr20 c_10) (by decide) hn) (by decide) (by decide) (by decide) (by decide)) (by decide)) ?_
    refine lv_dload_n hx hb dX1_slopeAt_76 rfl (lv_at hl 6 rfl) ?_
    refine lv_dload hx hb dX1_slopeAt_77 (lv_at hl 1 rfl) ?_
    refine lv_dsub hx hb dX1_slopeAt_79 (bd_n (bd_sub (Ka := 1041) (Kb := 1041) (K := 1043) hp (vpin_bd (upm1_in2 sf p1 hrn hr20 c_10) (by decide) hs) (by decide) (by decide) (by decide) (by decide)) (by decide)) ?_
    refine lv_dload hx hb dX1_slopeAt_80 (lv_at hl 0 rfl) ?_
    refine lv_dload hx hb dX1_slopeAt_82 (lv_at hl 1 rfl) ?_
    refine lv_dsub hx hb dX1_slopeAt_84 (bd_n (bd_sub (Ka := 1041) (Kb := 1041) (K := 1043) (vpin_bd (up_in sf p1 hrn hr20 c_19) (by decide) hs) (vpin_bd (upm1_in2 sf p1 hrn hr20 c_10) (by decide) hs) (by decide) (by decide) (by decide) (by decide)) (by decide)) ?_
    have hPc : va_P D vwCl [] H := hP.sub [] rfl
    have hDc : va_D A [] := hD.sub [] (by decide) rfl
    refine kdE (ws' := (wT cyD cyI cyJ cyZ at_ a1 a2 rn sf nf)) (wc := []) (wr := [(at_, .inr (1, [.ref a1, .ref a2, .int rn])), (a1, .inl (cyD, 20, .inr (.inr (.inr (.inl sf))))), (a2, .inl (cyD, 20, .inr (.inr (.inr (.inl nf)))))]) (w1 := []) (va_runSN (As := [.double (FP.dsub p1 (sf ((fX1_rowsUpTo rn sf p1) - (1 : Int32)).toNatClampNeg)), .double (FP.dsub (sf (fX1_rowsUpTo rn sf p1).toNatClampNeg) (sf ((fX1_rowsUpTo rn sf p1) - (1 : Int32)).toNatClampNeg))]) (rest := [.double (FP.dsub (nf (fX1_rowsUpTo rn sf p1).toNatClampNeg) (nf ((fX1_rowsUpTo rn sf p1) - (1 : Int32)).toNatClampNeg)), .double (nf ((fX1_rowsUpTo rn sf p1) - (1 : Int32)).toNatClampNeg)]) ⟨hx, hb, hml, hown, hts⟩ (c_X3_over (l := l) (D := D) (cyD := cyD) (cyI := cyI) (cyJ := cyJ) (cyZ := cyZ) H.size (FP.dsub p1 (sf ((fX1_rowsUpTo rn sf p1) - (1 : Int32)).toNatClampNeg)) (FP.dsub (sf (fX1_rowsUpTo rn sf p1).toNatClampNeg) (sf ((fX1_rowsUpTo rn sf p1) - (1 : Int32)).toNatClampNeg)) (ho c_10 c_19).1) ⟨va_cnB 2 hts gX1_slopeAt_X3_over_n36 rfl rfl rfl hN.2.2.2.2.2.2.2 (hts (.initialized RX3) (List.mem_of_getElem? (i := 18) rfl)) (by decide +kernel) ⟨Nat.le_of_ble_eq_true rfl, Nat.le_of_ble_eq_true rfl⟩, (hts (.static yX3_over) (List.mem_of_getElem? (i := 17) rfl)), trivial⟩ (kS hN hK hPc hDc) rfl rfl hl.1 rfl (lv_room (Nat.le_of_ble_eq_true rfl)) dX1_slopeAt_85 ⟨Nat.le_of_ble_eq_true rfl, Nat.le_of_ble_eq_true rfl⟩) hP hD hS hA [] [0, 1, 2] [0, 1, 2] rfl rfl (by decide) (by decide) rfl (by decide) (fun H locs hP hD hS => ?_)
    refine lv_dmul hx hb dX1_slopeAt_88 (bd_n (bd_mul (Ka := 1043) (Kb := 1100) (K := 1121) (bd_sub (Ka := 1041) (Kb := 1041) (K := 1043) (vpin_bd (up_in sf p1 hrn hr20 c_19) (by decide) hn) (vpin_bd (upm1_in2 sf p1 hrn hr20 c_10) (by decide) hn) (by decide) (by decide) (by decide) (by decide)) (ho c_10 c_19).2 (by decide) (by decide) (by decide)) (by decide)) ?_
    refine lv_dadd hx hb dX1_slopeAt_89 (bd_n (bd_add (Ka := 1041) (Kb := 1121) (K := 1123) (vpin_bd (upm1_in2 sf p1 hrn hr20 c_10) (by decide) hn) (bd_mul (Ka := 1043) (Kb := 1100) (K := 1121) (bd_sub (Ka := 1041) (Kb := 1041) (K := 1043) (vpin_bd (up_in sf p1 hrn hr20 c_19) (by decide) hn) (vpin_bd (upm1_in2 sf p1 hrn hr20 c_10) (by decide) hn) (by decide) (by decide) (by decide) (by decide)) (ho c_10 c_19).2 (by decide) (by decide) (by decide)) (by decide) (by decide) (by decide) (by decide)) (by decide)) ?_
    have hF9 : (fX1_slopeAt rn sf nf p1 p2) = (FP.dadd (nf ((fX1_rowsUpTo rn sf p1) - (1 : Int32)).toNatClampNeg) (FP.dmul (FP.dsub (nf (fX1_rowsUpTo rn sf p1).toNatClampNeg) (nf ((fX1_rowsUpTo rn sf p1) - (1 : Int32)).toNatClampNeg)) (fX3_over (FP.dsub p1 (sf ((fX1_rowsUpTo rn sf p1) - (1 : Int32)).toNatClampNeg)) (FP.dsub (sf (fX1_rowsUpTo rn sf p1).toNatClampNeg) (sf ((fX1_rowsUpTo rn sf p1) - (1 : Int32)).toNatClampNeg))))) := by rw [fX1_slopeAt, if_neg c_10, if_pos c_19]
    have hP9 : va_P D vwCl (wT cyD cyI cyJ cyZ at_ a1 a2 rn sf nf) H := hP
    have hD9 : va_D A (wT cyD cyI cyJ cyZ at_ a1 a2 rn sf nf) := hD
    exact W.dret (v := (FP.dadd (nf ((fX1_rowsUpTo rn sf p1) - (1 : Int32)).toNatClampNeg) (FP.dmul (FP.dsub (nf (fX1_rowsUpTo rn sf p1).toNatClampNeg) (nf ((fX1_rowsUpTo rn sf p1) - (1 : Int32)).toNatClampNeg)) (fX3_over (FP.dsub p1 (sf ((fX1_rowsUpTo rn sf p1) - (1 : Int32)).toNatClampNeg)) (FP.dsub (sf (fX1_rowsUpTo rn sf p1).toNatClampNeg) (sf ((fX1_rowsUpTo rn sf p1) - (1 : Int32)).toNatClampNeg)))))) hx hb hr (fun t ht hW => ⟨⟨(FP.dadd (nf ((fX1_rowsUpTo rn sf p1) - (1 : Int32)).toNatClampNeg) (FP.dmul (FP.dsub (nf (fX1_rowsUpTo rn sf p1).toNatClampNeg) (nf ((fX1_rowsUpTo rn sf p1) - (1 : Int32)).toNatClampNeg)) (fX3_over (FP.dsub p1 (sf ((fX1_rowsUpTo rn sf p1) - (1 : Int32)).toNatClampNeg)) (FP.dsub (sf (fX1_rowsUpTo rn sf p1).toNatClampNeg) (sf ((fX1_rowsUpTo rn sf p1) - (1 : Int32)).toNatClampNeg))))), (), rfl, (by rw [hF9]), by rw [ht]; exact hP9, va_K.moved hW.alike hK, hD9⟩, hS.F ht⟩) hS.2.2 dX1_slopeAt_90
  refine lv_aload_n hx hb dX1_slopeAt_22 rfl (lv_at hl 1 rfl) ?_
  refine lv_dload_n hx hb dX1_slopeAt_23 rfl (lv_at hl 2 rfl) ?_
  refine lv_dload_n hx hb dX1_slopeAt_24 rfl (lv_at hl 3 rfl) ?_
  have hPc : va_P D vwCl (wT cyD cyI cyJ cyZ at_ a1 a2 rn sf nf) H := hP.sub [0, 1, 2] rfl
  have hDc : va_D A (wT cyD cyI cyJ cyZ at_ a1 a2 rn sf nf) := hD.sub [0, 1, 2] (by decide) rfl
  refine kdE (ws' := (wT cyD cyI cyJ cyZ at_ a1 a2 rn sf nf)) (wc := (wT cyD cyI cyJ cyZ at_ a1 a2 rn sf nf)) (wr := []) (w1 := (wT cyD cyI cyJ cyZ at_ a1 a2 rn sf nf)) (va_runV (As := [.double p1, .double p2]) (rest := []) ⟨hx, hb, hml, hown, hts⟩ (c_X1_stepAt (l := l) (D := D) (cyD := cyD) (cyI := cyI) (cyJ := cyJ) (cyZ := cyZ) at_ a1 a2 rn sf nf H.size p1 p2 r hrn hr20) (cwV 2 hts gX1_slopeAt_X1_stepAt rfl rfl rfl (by decide +kernel) ⟨Nat.le_of_ble_eq_true rfl, Nat.le_of_ble_eq_true rfl⟩) (kV (ci := 1) (q0 := 0) (q := (RX1, TX1, 3)) hN hK hPc hDc rfl rfl rfl) rfl rfl hl.1 rfl (lv_room (Nat.le_of_ble_eq_true rfl)) dX1_slopeAt_25 ⟨Nat.le_of_ble_eq_true rfl, Nat.le_of_ble_eq_true rfl⟩) hP hD hS hA [0, 1, 2] [] [0, 1, 2] rfl rfl (by decide) (by decide) rfl (by decide) (fun H locs hP hD hS => ?_)
  have hF9 : (fX1_slopeAt rn sf nf p1 p2) = (fX1_stepAt rn sf nf p1 p2) := by rw [fX1_slopeAt, if_neg c_10, if_neg c_19]
  have hP9 : va_P D vwCl (wT cyD cyI cyJ cyZ at_ a1 a2 rn sf nf) H := hP
  have hD9 : va_D A (wT cyD cyI cyJ cyZ at_ a1 a2 rn sf nf) := hD
  exact W.dret (v := (fX1_stepAt rn sf nf p1 p2)) hx hb hr (fun t ht hW => ⟨⟨(fX1_stepAt rn sf nf p1 p2), (), rfl, (by rw [hF9]), by rw [ht]; exact hP9, va_K.moved hW.alike hK, hD9⟩, hS.F ht⟩) hS.2.2 dX1_slopeAt_28
theorem up_ge0 {rn : Int32} (sf : Nat → UInt64) (w : UInt64) {r : Nat} (hrn : rn = nI r) (hr : r ≤ 20) : nI 0 ≤ fX1_rowsUpTo rn sf w := by
  obtain ⟨q, hq, e⟩ := upTo_nI sf w hrn hr
  rw [e]; exact nI_le (by omega) (by omega)
def fX1_put_L55 (rn : Int32) (sf : Nat → UInt64) (nf : Nat → UInt64)  (p1 : UInt64) (p2 : UInt64) : Nat → (Int32) → (Nat → UInt64) → (Nat → UInt64) → Int32 × Int32 × (Nat → UInt64) × (Nat → UInt64)
  | 0, v_i, v_fs, v_fn => (0, rn, v_fs, v_fn)
  | k + 1, v_i, v_fs, v_fn => if v_i ≤ (fX1_rowsUpTo rn sf p1) then ((1 : Int32), (rn + (1 : Int32)), (vf_upd (v_fs) (fX1_rowsUpTo rn sf p1).toNatClampNeg p1), (vf_upd (v_fn) (fX1_rowsUpTo rn sf p1).toNatClampNeg p2)) else ((fX1_put_L55 rn sf nf p1 p2 k ((v_i) + (-1)) (vf_upd (v_fs) (v_i).toNatClampNeg ((v_fs) (v_i - (1 : Int32)).toNatClampNeg)) (vf_upd (v_fn) (v_i).toNatClampNeg ((v_fn) (v_i - (1 : Int32)).toNatClampNeg))))
def fX1_put (rn : Int32) (sf : Nat → UInt64) (nf : Nat → UInt64) (p1 : UInt64) (p2 : UInt64) : Int32 × Int32 × (Nat → UInt64) × (Nat → UInt64) := if (fX1_rowsUpTo rn sf p1) ≤ 0 then (if rn < (20 : Int32) then (fX1_put_L55 rn sf nf p1 p2 21 rn sf nf) else (((0 : Int32), rn, sf, nf))) else (if (Op.cmpValue (FP.dcmp (sf ((fX1_rowsUpTo rn sf p1) - (1 : Int32)).toNatClampNeg) p1) CmpOp.l) = 0 then ((1 : Int32), rn, sf, (vf_upd nf ((fX1_rowsUpTo rn sf p1) - (1 : Int32)).toNatClampNeg p2)) else (if rn < (20 : Int32) then (fX1_put_L55 rn sf nf p1 p2 21 rn sf nf) else (((0 : Int32), rn, sf, nf))))
set_option maxHeartbeats 4000000 in
set_option maxRecDepth 100000 in
theorem c_X1_put {l : Launch} {D : va_G} {cyD cyI cyJ cyZ : ClassId} (at_ a1 a2 : Nat) (rn : Int32) (sf : Nat → UInt64) (nf : Nat → UInt64) (sz : Nat) (p1 : UInt64) (p2 : UInt64) (r : Nat) (hrn : rn = nI r) (hr20 : r ≤ 20) : mZ l yX1_put wsX1_put ({ frames := 1, cells := 0, slots := 0, locals := 23 } : Room) D (kT cyD cyI cyJ cyZ) [.ref at_, .double p1, .double p2] (wT cyD cyI cyJ cyZ at_ a1 a2 rn sf nf) (wT cyD cyI cyJ cyZ at_ a1 a2 ((fX1_put rn sf nf p1 p2).2.1) ((fX1_put rn sf nf p1 p2).2.2.1) ((fX1_put rn sf nf p1 p2).2.2.2)) sz ((fX1_put rn sf nf p1 p2).1) 0 0 := by
  refine Met.ofW (cc := cX1_put) (maxL := 7) (ret := (some .boolean)) (by decide) rfl ?_
  intro p e s m args below meth c s₁ B hml hv
  obtain ⟨rfl, hN, hsz, hP, hK, hD0⟩ := hv
  have hx := B.exec
  have hb := B.bytes
  have hr := B.returns
  have hts := atoms_spec (ws := wsX1_put) B.pre
  have hown : s.vm.findClass RX1 = some m.cls := findClass_of_methodNamed B.named
  have hlocks := B.notSynchronized
  subst hsz
  have hD := hD0.self (sz := s.heap.size)
  generalize hAe : va_A (wT cyD cyI cyJ cyZ at_ a1 a2 rn sf nf) s.heap.size = A at hD ⊢
  have hA : ∀ q : Nat, s.heap.size ≤ q → A q := fun q h => by rw [← hAe]; exact Or.inr h
  have hS : va_S A s.heap s.heap [] := va_S.rf
  have hP : va_P D vwCl (wT cyD cyI cyJ cyZ at_ a1 a2 rn sf nf) s.heap := hP
  have hl := lv_entry [.ref at_, .double p1, .double p2] (n := 7) (Nat.le_of_ble_eq_true rfl)
  rw [lg_entry_eq]
  generalize (lg_sl [.ref at_, .double p1, .double p2] ++ List.replicate (7 - (lg_sl [.ref at_, .double p1, .double p2]).length) Slot.unset).toArray = ls at hl ⊢
  have hl : lv_has ls 7 [(0, .ref at_), (1, .double p1), (3, .double p2)] := hl
  obtain ⟨H, hHe⟩ : ∃ H : Heap, H = s.heap := ⟨_, rfl⟩
  have hP : va_P D vwCl (wT cyD cyI cyJ cyZ at_ a1 a2 rn sf nf) H := by rw [hHe]; exact hP
  have hS : va_S A s.heap H [] := by rw [hHe]; exact hS
  rw [← hHe]
  refine lv_aload_n hx hb dX1_put_0 rfl (lv_at hl 0 rfl) ?_
  refine lv_dload_n hx hb dX1_put_1 rfl (lv_at hl 1 rfl) ?_
  have hPc : va_P D vwCl (wT cyD cyI cyJ cyZ at_ a1 a2 rn sf nf) H := hP.sub [0, 1, 2] rfl
  have hDc : va_D A (wT cyD cyI cyJ cyZ at_ a1 a2 rn sf nf) := hD.sub [0, 1, 2] (by decide) rfl
  refine kiE (ws' := (wT cyD cyI cyJ cyZ at_ a1 a2 rn sf nf)) (wc := (wT cyD cyI cyJ cyZ at_ a1 a2 rn sf nf)) (wr := []) (w1 := (wT cyD cyI cyJ cyZ at_ a1 a2 rn sf nf)) (va_runV (As := [.double p1]) (rest := []) ⟨hx, hb, hml, hown, hts⟩ (c_X1_rowsUpTo (l := l) (D := D) (cyD := cyD) (cyI := cyI) (cyJ := cyJ) (cyZ := cyZ) at_ a1 a2 rn sf nf H.size p1 r hrn hr20) (cwV 1 hts gX1_put_X1_rowsUpTo rfl rfl rfl (by decide +kernel) ⟨Nat.le_of_ble_eq_true rfl, Nat.le_of_ble_eq_true rfl⟩) (kV (ci := 1) (q0 := 0) (q := (RX1, TX1, 3)) hN hK hPc hDc rfl rfl rfl) rfl rfl hl.1 rfl (lv_room (Nat.le_of_ble_eq_true rfl)) dX1_put_2 ⟨Nat.le_of_ble_eq_true rfl, Nat.le_of_ble_eq_true rfl⟩) hP hD hS hA [0, 1, 2] [] [0, 1, 2] rfl rfl (by decide) (by decide) rfl (by decide) (fun H locs hP hD hS => ?_)
  refine lv_istore (lv' := [(5, .int (fX1_rowsUpTo rn sf p1)), (0, .ref at_), (1, .double p1), (3, .double p2)]) hx hb dX1_put_5 hl (by decide) rfl (fun ls hl => ?_)
  refine lv_iload hx hb dX1_put_7 (lv_at hl 0 rfl) ?_
  refine lv_if_le (tgt := 38) hx hb dX1_put_9 (by decide) (fun c_9 => ?_) (fun c_9 => ?_)
  · refine lv_aload_n hx hb dX1_put_38 rfl (lv_at hl 1 rfl) ?_
    refine va_get (D := D) (ci := 1) (v := .int rn) (C := RX1) (T := TX1) (N := 3) hx hb hts (fun _ h => (List.mem_cons_of_mem _ (List.mem_append_right _ h))) hown hK hP 0 rfl rfl 2 (by decide) (hts (.fieldLink RX1 18 "BottomWalks$Table" "rows" "I") (List.mem_of_getElem? (i := 3) rfl)) (fun _ h9 => h9) rfl dX1_put_39 ?_
    refine lv_bipush (v := 20) hx hb dX1_put_42 (by decide) ?_
    refine lv_icmp_lt (tgt := 49) hx hb dX1_put_44 (by decide) (fun c_44 => ?_) (fun c_44 => ?_)
    · refine lv_aload_n hx hb dX1_put_49 rfl (lv_at hl 1 rfl) ?_
      refine va_get (D := D) (ci := 1) (v := .int rn) (C := RX1) (T := TX1) (N := 3) hx hb hts (fun _ h => (List.mem_cons_of_mem _ (List.mem_append_right _ h))) hown hK hP 0 rfl rfl 2 (by decide) (hts (.fieldLink RX1 18 "BottomWalks$Table" "rows" "I") (List.mem_of_getElem? (i := 3) rfl)) (fun _ h9 => h9) rfl dX1_put_50 ?_
      refine lv_istore (lv' := [(6, .int rn), (5, .int (fX1_rowsUpTo rn sf p1)), (0, .ref at_), (1, .double p1), (3, .double p2)]) hx hb dX1_put_53 hl (by decide) rfl (fun ls hl => ?_)
      have loop_55 : ∀ (k : Nat) (i : Nat) (fs fn : Nat → UInt64) (H : Heap) (locs : List Loc), (i < k) → (i < 20) → (fX1_put rn sf nf p1 p2) = fX1_put_L55 rn sf nf p1 p2 k ((nI i)) (fs) (fn) → va_P D vwCl (wT cyD cyI cyJ cyZ at_ a1 a2 rn (fs) (fn)) H → va_D A (wT cyD cyI cyJ cyZ at_ a1 a2 rn (fs) (fn)) → va_S A s.heap H locs → ∀ ls, lv_has ls 7 [(6, .int ((nI i))), (5, .int (fX1_rowsUpTo rn sf p1)), (0, .ref at_), (1, .double p1), (3, .double p2)] → W p l e (headSpec wsX1_put ({ frames := 1, cells := 0, slots := 0, locals := 23 } : Room)).room s m ([.ref at_, .double p1, .double p2] : List Value).toArray below meth c H locs 0 0 (MQ below (va_Qi (fun (r : Int32) (_ : Unit) => r = (fX1_put rn sf nf p1 p2).1 ∧ (r = 0 ∨ r = 1)) (kE D (kT cyD cyI cyJ cyZ) (wT cyD cyI cyJ cyZ at_ a1 a2 ((fX1_put rn sf nf p1 p2).2.1) ((fX1_put rn sf nf p1 p2).2.2.1) ((fX1_put rn sf nf p1 p2).2.2.2)) A) A) ([.ref at_, .double p1, .double p2] : List Value).toArray s 0 0 A) (F0 m 55 ls []) := by
        intro k
        induction k with
        | zero => intro i fs fn H locs hi hi2 hF hP hD hS ls hl; exact absurd hi (by omega)
        | succ k ih =>
          intro i fs fn H locs hi hi2 hF hP hD hS ls hl
          have hiu := up_in2 sf p1 hrn hr20 c_44
          refine lv_iload hx hb dX1_put_55 (lv_at hl 0 rfl) ?_
          refine lv_iload hx hb dX1_put_57 (lv_at hl 1 rfl) ?_
          refine lv_icmp_le (tgt := 100) hx hb dX1_put_59 (by decide) (fun c_59 => ?_) (fun c_59 => ?_)
          · refine lv_aload_n hx hb dX1_put_100 rfl (lv_at hl 2 rfl) ?_
            refine va_get (D := D) (ci := 1) (v := .ref a1) (C := RX1) (T := TX1) (N := 3) hx hb hts (fun _ h => (List.mem_cons_of_mem _ (List.mem_append_right _ h))) hown hK hP 0 rfl rfl 0 (by decide) (hts (.fieldLink RX1 9 "BottomWalks$Table" "starts" "[D") (List.mem_of_getElem? (i := 1) rfl)) (fun _ h9 => h9) rfl dX1_put_101 ?_
            refine lv_iload hx hb dX1_put_104 (lv_at hl 1 rfl) ?_
            refine lv_dload_n hx hb dX1_put_106 rfl (lv_at hl 3 rfl) ?_
            refine va_dast hx hb hK hP hD hS 1 0 rfl rfl hiu dX1_put_107 (fun H locs hP hD hS => ?_)
            have hP : va_P D vwCl (wT cyD cyI cyJ cyZ at_ a1 a2 rn (vf_upd (fs) (fX1_rowsUpTo rn sf p1).toNatClampNeg p1) (fn)) H := hP
            have hD : va_D A (wT cyD cyI cyJ cyZ at_ a1 a2 rn (vf_upd (fs) (fX1_rowsUpTo rn sf p1).toNatClampNeg p1) (fn)) := hD
            refine lv_aload_n hx hb dX1_put_108 rfl (lv_at hl 2 rfl) ?_
            refine va_get (D := D) (ci := 1) (v := .ref a2) (C := RX1) (T := TX1) (N := 3) hx hb hts (fun _ h => (List.mem_cons_of_mem _ (List.mem_append_right _ h))) hown hK hP 0 rfl rfl 1 (by decide) (hts (.fieldLink RX1 15 "BottomWalks$Table" "numbers" "[D") (List.mem_of_getElem? (i := 2) rfl)) (fun _ h9 => h9) rfl dX1_put_109 ?_
            refine lv_iload hx hb dX1_put_112 (lv_at hl 1 rfl) ?_
            refine lv_dload_n hx hb dX1_put_114 rfl (lv_at hl 4 rfl) ?_
            refine va_dast hx hb hK hP hD hS 2 0 rfl rfl hiu dX1_put_115 (fun H locs hP hD hS => ?_)
            have hP : va_P D vwCl (wT cyD cyI cyJ cyZ at_ a1 a2 rn (vf_upd (fs) (fX1_rowsUpTo rn sf p1).toNatClampNeg p1) (vf_upd (fn) (fX1_rowsUpTo rn sf p1).toNatClampNeg p2)) H := hP
            have hD : va_D A (wT cyD cyI cyJ cyZ at_ a1 a2 rn (vf_upd (fs) (fX1_rowsUpTo rn sf p1).toNatClampNeg p1) (vf_upd (fn) (fX1_rowsUpTo rn sf p1).toNatClampNeg p2)) := hD
            refine lv_aload_n hx hb dX1_put_116 rfl (lv_at hl 2 rfl) ?_
            refine lv_dup hx hb dX1_put_117 rfl ?_
            refine va_get (D := D) (ci := 1) (v := .int rn) (C := RX1) (T := TX1) (N := 3) hx hb hts (fun _ h => (List.mem_cons_of_mem _ (List.mem_append_right _ h))) hown hK hP 0 rfl rfl 2 (by decide) (hts (.fieldLink RX1 18 "BottomWalks$Table" "rows" "I") (List.mem_of_getElem? (i := 3) rfl)) (fun _ h9 => h9) rfl dX1_put_118 ?_
            refine lv_iconst (v := 1) hx hb dX1_put_121 (by decide) ?_
            refine lv_iadd hx hb dX1_put_122 ?_
            refine va_put (D := D) (ci := 1) (v := .int (rn + (1 : Int32))) (ty := .int) (C := RX1) (T := TX1) (N := 3) hx hb hts (fun _ h => (List.mem_cons_of_mem _ (List.mem_append_right _ h))) tyX1 tyX1_ok nmX1 hown hK hP hD hS 0 rfl rfl 2 (by decide) (hts (.fieldLink RX1 18 "BottomWalks$Table" "rows" "I") (List.mem_of_getElem? (i := 3) rfl)) (fun _ h9 => h9) rfl (by decide +kernel) rfl rfl (Nat.le_of_ble_eq_true rfl) dX1_put_123 (fun H locs hP hD hS => ?_)
            have hP : va_P D vwCl (wT cyD cyI cyJ cyZ at_ a1 a2 (rn + (1 : Int32)) (vf_upd (fs) (fX1_rowsUpTo rn sf p1).toNatClampNeg p1) (vf_upd (fn) (fX1_rowsUpTo rn sf p1).toNatClampNeg p2)) H := hP
            have hD : va_D A (wT cyD cyI cyJ cyZ at_ a1 a2 (rn + (1 : Int32)) (vf_upd (fs) (fX1_rowsUpTo rn sf p1).toNatClampNeg p1) (vf_upd (fn) (fX1_rowsUpTo rn sf p1).toNatClampNeg p2)) := hD
            refine lv_iconst (v := 1) hx hb dX1_put_126 (by decide) ?_
            have hF9 : (fX1_put rn sf nf p1 p2) = ((1 : Int32), (rn + (1 : Int32)), (vf_upd (fs) (fX1_rowsUpTo rn sf p1).toNatClampNeg p1), (vf_upd (fn) (fX1_rowsUpTo rn sf p1).toNatClampNeg p2)) := by rw [hF, fX1_put_L55, if_pos c_59]
            have hP9 : va_P D vwCl (wT cyD cyI cyJ cyZ at_ a1 a2 ((fX1_put rn sf nf p1 p2).2.1) ((fX1_put rn sf nf p1 p2).2.2.1) ((fX1_put rn sf nf p1 p2).2.2.2)) H := by rw [hF9]; exact hP
            have hD9 : va_D A (wT cyD cyI cyJ cyZ at_ a1 a2 ((fX1_put rn sf nf p1 p2).2.1) ((fX1_put rn sf nf p1 p2).2.2.1) ((fX1_put rn sf nf p1 p2).2.2.2)) := by rw [hF9]; exact hD
            exact W.zret (v := (1 : Int32)) hx hb hr (nar_z (Or.inr rfl)) (fun t ht hW => ⟨⟨(1 : Int32), (), rfl, ⟨(by rw [hF9]), (Or.inr rfl)⟩, by rw [ht]; exact hP9, va_K.moved hW.alike hK, hD9⟩, hS.F ht⟩) hS.2.2 dX1_put_127
          refine lv_aload_n hx hb dX1_put_62 rfl (lv_at hl 2 rfl) ?_
          refine va_get (D := D) (ci := 1) (v := .ref a1) (C := RX1) (T := TX1) (N := 3) hx hb hts (fun _ h => (List.mem_cons_of_mem _ (List.mem_append_right _ h))) hown hK hP 0 rfl rfl 0 (by decide) (hts (.fieldLink RX1 9 "BottomWalks$Table" "starts" "[D") (List.mem_of_getElem? (i := 1) rfl)) (fun _ h9 => h9) rfl dX1_put_63 ?_
          refine lv_iload hx hb dX1_put_66 (lv_at hl 0 rfl) ?_
          refine lv_aload_n hx hb dX1_put_68 rfl (lv_at hl 2 rfl) ?_
          refine va_get (D := D) (ci := 1) (v := .ref a1) (C := RX1) (T := TX1) (N := 3) hx hb hts (fun _ h => (List.mem_cons_of_mem _ (List.mem_append_right _ h))) hown hK hP 0 rfl rfl 0 (by decide) (hts (.fieldLink RX1 9 "BottomWalks$Table" "starts" "[D") (List.mem_of_getElem? (i := 1) rfl)) (fun _ h9 => h9) rfl dX1_put_69 ?_
          refine lv_iload hx hb dX1_put_72 (lv_at hl 0 rfl) ?_
          refine lv_iconst (v := 1) hx hb dX1_put_74 (by decide) ?_
          refine lv_isub hx hb dX1_put_75 ?_
          refine va_dald hx hb hK hP 1 0 rfl rfl (by have h0 : i ≠ 0 := fun z => c_59 (by rw [z]; exact up_ge0 sf p1 hrn hr20); rw [nI_sub1 (by omega)]; exact vp_in_nI (by omega) (by decide)) dX1_put_76 ?_
          refine va_dast hx hb hK hP hD hS 1 0 rfl rfl (vp_in_nI (by omega) (by decide)) dX1_put_77 (fun H locs hP hD hS => ?_)
          have hP : va_P D vwCl (wT cyD cyI cyJ cyZ at_ a1 a2 rn (vf_upd (fs) ((nI i)).toNatClampNeg ((fs) ((nI i) - (1 : Int32)).toNatClampNeg)) (fn)) H := hP
          have hD : va_D A (wT cyD cyI cyJ cyZ at_ a1 a2 rn (vf_upd (fs) ((nI i)).toNatClampNeg ((fs) ((nI i) - (1 : Int32)).toNatClampNeg)) (fn)) := hD
          refine lv_aload_n hx hb dX1_put_78 rfl (lv_at hl 2 rfl) ?_
          refine va_get (D := D) (ci := 1) (v := .ref a2) (C := RX1) (T := TX1) (N := 3) hx hb hts (fun _ h => (List.mem_cons_of_mem _ (List.mem_append_right _ h))) hown hK hP 0 rfl rfl 1 (by decide) (hts (.fieldLink RX1 15 "BottomWalks$Table" "numbers" "[D") (List.mem_of_getElem? (i := 2) rfl)) (fun _ h9 => h9) rfl dX1_put_79 ?_
          refine lv_iload hx hb dX1_put_82 (lv_at hl 0 rfl) ?_
          refine lv_aload_n hx hb dX1_put_84 rfl (lv_at hl 2 rfl) ?_
          refine va_get (D := D) (ci := 1) (v := .ref a2) (C := RX1) (T := TX1) (N := 3) hx hb hts (fun _ h => (List.mem_cons_of_mem _ (List.mem_append_right _ h))) hown hK hP 0 rfl rfl 1 (by decide) (hts (.fieldLink RX1 15 "BottomWalks$Table" "numbers" "[D") (List.mem_of_getElem? (i := 2) rfl)) (fun _ h9 => h9) rfl dX1_put_85 ?_
          refine lv_iload hx hb dX1_put_88 (lv_at hl 0 rfl) ?_
          refine lv_iconst (v := 1) hx hb dX1_put_90 (by decide) ?_
          refine lv_isub hx hb dX1_put_91 ?_
          refine va_dald hx hb hK hP 2 0 rfl rfl (by have h0 : i ≠ 0 := fun z => c_59 (by rw [z]; exact up_ge0 sf p1 hrn hr20); rw [nI_sub1 (by omega)]; exact vp_in_nI (by omega) (by decide)) dX1_put_92 ?_
          refine va_dast hx hb hK hP hD hS 2 0 rfl rfl (vp_in_nI (by omega) (by decide)) dX1_put_93 (fun H locs hP hD hS => ?_)
          have hP : va_P D vwCl (wT cyD cyI cyJ cyZ at_ a1 a2 rn (vf_upd (fs) ((nI i)).toNatClampNeg ((fs) ((nI i) - (1 : Int32)).toNatClampNeg)) (vf_upd (fn) ((nI i)).toNatClampNeg ((fn) ((nI i) - (1 : Int32)).toNatClampNeg))) H := hP
          have hD : va_D A (wT cyD cyI cyJ cyZ at_ a1 a2 rn (vf_upd (fs) ((nI i)).toNatClampNeg ((fs) ((nI i) - (1 : Int32)).toNatClampNeg)) (vf_upd (fn) ((nI i)).toNatClampNeg ((fn) ((nI i) - (1 : Int32)).toNatClampNeg))) := hD
          refine lv_iinc (v := (((nI i)) + (-1))) (lv' := [(6, .int (((nI i)) + (-1))), (5, .int (fX1_rowsUpTo rn sf p1)), (0, .ref at_), (1, .double p1), (3, .double p2)]) hx hb dX1_put_94 hl (k := 0) rfl rfl (by decide) rfl (fun ls hl => ?_)
          refine lv_goto (tgt := 55) hx hb dX1_put_97 (by decide) ?_
          exact ih (i - 1) (vf_upd (fs) ((nI i)).toNatClampNeg ((fs) ((nI i) - (1 : Int32)).toNatClampNeg)) (vf_upd (fn) ((nI i)).toNatClampNeg ((fn) ((nI i) - (1 : Int32)).toNatClampNeg)) _ _ (by have h0 : i ≠ 0 := (fun z => c_59 (by rw [z]; exact up_ge0 sf p1 hrn hr20)); omega) (by omega) (by have h0 : i ≠ 0 := (fun z => c_59 (by rw [z]; exact up_ge0 sf p1 hrn hr20)); rw [← pk_m1 (i - 1), show i - 1 + 1 = i from (by omega)]; rw [hF, fX1_put_L55, if_neg c_59]) hP hD hS _ (by have h0 : i ≠ 0 := (fun z => c_59 (by rw [z]; exact up_ge0 sf p1 hrn hr20)); rw [← pk_m1 (i - 1), show i - 1 + 1 = i from (by omega)]; exact lv_sub hl [0, 1, 2, 3, 4] rfl)
      exact loop_55 21 r sf nf _ _ (by omega) (by rw [hrn] at c_44; exact (nI_ltI (b := 20) (by omega) (by omega)).mp c_44) (by rw [← hrn]; rw [fX1_put, if_pos c_9, if_pos c_44]) hP hD hS _ (by rw [← hrn]; exact lv_sub hl [0, 1, 2, 3, 4] rfl)
    refine lv_iconst (v := 0) hx hb dX1_put_47 (by decide) ?_
    have hF9 : (fX1_put rn sf nf p1 p2) = ((0 : Int32), rn, sf, nf) := by rw [fX1_put, if_pos c_9, if_neg c_44]
    have hP9 : va_P D vwCl (wT cyD cyI cyJ cyZ at_ a1 a2 ((fX1_put rn sf nf p1 p2).2.1) ((fX1_put rn sf nf p1 p2).2.2.1) ((fX1_put rn sf nf p1 p2).2.2.2)) H := by rw [hF9]; exact hP
    have hD9 : va_D A (wT cyD cyI cyJ cyZ at_ a1 a2 ((fX1_put rn sf nf p1 p2).2.1) ((fX1_put rn sf nf p1 p2).2.2.1) ((fX1_put rn sf nf p1 p2).2.2.2)) := by rw [hF9]; exact hD
    exact W.zret (v := (0 : Int32)) hx hb hr (nar_z (Or.inl rfl)) (fun t ht hW => ⟨⟨(0 : Int32), (), rfl, ⟨(by rw [hF9]), (Or.inl rfl)⟩, by rw [ht]; exact hP9, va_K.moved hW.alike hK, hD9⟩, hS.F ht⟩) hS.2.2 dX1_put_48
  refine lv_aload_n hx hb dX1_put_12 rfl (lv_at hl 1 rfl) ?_
  refine va_get (D := D) (ci := 1) (v := .ref a1) (C := RX1) (T := TX1) (N := 3) hx hb hts (fun _ h => (List.mem_cons_of_mem _ (List.mem_append_right _ h))) hown hK hP 0 rfl rfl 0 (by decide) (hts (.fieldLink RX1 9 "BottomWalks$Table" "starts" "[D") (List.mem_of_getElem? (i := 1) rfl)) (fun _ h9 => h9) rfl dX1_put_13 ?_
  refine lv_iload hx hb dX1_put_16 (lv_at hl 0 rfl) ?_
  refine lv_iconst (v := 1) hx hb dX1_put_18 (by decide) ?_
  refine lv_isub hx hb dX1_put_19 ?_
  refine va_dald hx hb hK hP 1 0 rfl rfl (upm1_in sf p1 hrn hr20 c_9) dX1_put_20 ?_
  refine lv_dload_n hx hb dX1_put_21 rfl (lv_at hl 2 rfl) ?_
  refine lv_dcmp hx hb dX1_put_22 ?_
  refine lv_if_ne (tgt := 38) hx hb dX1_put_23 (by decide) (fun c_23 => ?_) (fun c_23 => ?_)
  · refine lv_aload_n hx hb dX1_put_38 rfl (lv_at hl 1 rfl) ?_
    refine va_get (D := D) (ci := 1) (v := .int rn) (C := RX1) (T := TX1) (N := 3) hx hb hts (fun _ h => (List.mem_cons_of_mem _ (List.mem_append_right _ h))) hown hK hP 0 rfl rfl 2 (by decide) (hts (.fieldLink RX1 18 "BottomWalks$Table" "rows" "I") (List.mem_of_getElem? (i := 3) rfl)) (fun _ h9 => h9) rfl dX1_put_39 ?_
    refine lv_bipush (v := 20) hx hb dX1_put_42 (by decide) ?_
    refine lv_icmp_lt (tgt := 49) hx hb dX1_put_44 (by decide) (fun c_44 => ?_) (fun c_44 => ?_)
    · refine lv_aload_n hx hb dX1_put_49 rfl (lv_at hl 1 rfl) ?_
      refine va_get (D := D) (ci := 1) (v := .int rn) (C := RX1) (T := TX1) (N := 3) hx hb hts (fun _ h => (List.mem_cons_of_mem _ (List.mem_append_right _ h))) hown hK hP 0 rfl rfl 2 (by decide) (hts (.fieldLink RX1 18 "BottomWalks$Table" "rows" "I") (List.mem_of_getElem? (i := 3) rfl)) (fun _ h9 => h9) rfl dX1_put_50 ?_
      refine lv_istore (lv' := [(6, .int rn), (5, .int (fX1_rowsUpTo rn sf p1)), (0, .ref at_), (1, .double p1), (3, .double p2)]) hx hb dX1_put_53 hl (by decide) rfl (fun ls hl => ?_)
      have loop_55 : ∀ (k : Nat) (i : Nat) (fs fn : Nat → UInt64) (H : Heap) (locs : List Loc), (i < k) → (i < 20) → (fX1_put rn sf nf p1 p2) = fX1_put_L55 rn sf nf p1 p2 k ((nI i)) (fs) (fn) → va_P D vwCl (wT cyD cyI cyJ cyZ at_ a1 a2 rn (fs) (fn)) H → va_D A (wT cyD cyI cyJ cyZ at_ a1 a2 rn (fs) (fn)) → va_S A s.heap H locs → ∀ ls, lv_has ls 7 [(6, .int ((nI i))), (5, .int (fX1_rowsUpTo rn sf p1)), (0, .ref at_), (1, .double p1), (3, .double p2)] → W p l e (headSpec wsX1_put ({ frames := 1, cells := 0, slots := 0, locals := 23 } : Room)).room s m ([.ref at_, .double p1, .double p2] : List Value).toArray below meth c H locs 0 0 (MQ below (va_Qi (fun (r : Int32) (_ : Unit) => r = (fX1_put rn sf nf p1 p2).1 ∧ (r = 0 ∨ r = 1)) (kE D (kT cyD cyI cyJ cyZ) (wT cyD cyI cyJ cyZ at_ a1 a2 ((fX1_put rn sf nf p1 p2).2.1) ((fX1_put rn sf nf p1 p2).2.2.1) ((fX1_put rn sf nf p1 p2).2.2.2)) A) A) ([.ref at_, .double p1, .double p2] : List Value).toArray s 0 0 A) (F0 m 55 ls []) := by
        intro k
        induction k with
        | zero => intro i fs fn H locs hi hi2 hF hP hD hS ls hl; exact absurd hi (by omega)
        | succ k ih =>
          intro i fs fn H locs hi hi2 hF hP hD hS ls hl
          have hiu := up_in2 sf p1 hrn hr20 c_44
          refine lv_iload hx hb dX1_put_55 (lv_at hl 0 rfl) ?_
          refine lv_iload hx hb dX1_put_57 (lv_at hl 1 rfl) ?_
          refine lv_icmp_le (tgt := 100) hx hb dX1_put_59 (by decide) (fun c_59 => ?_) (fun c_59 => ?_)
          · refine lv_aload_n hx hb dX1_put_100 rfl (lv_at hl 2 rfl) ?_
            refine va_get (D := D) (ci := 1) (v := .ref a1) (C := RX1) (T := TX1) (N := 3) hx hb hts (fun _ h => (List.mem_cons_of_mem _ (List.mem_append_right _ h))) hown hK hP 0 rfl rfl 0 (by decide) (hts (.fieldLink RX1 9 "BottomWalks$Table" "starts" "[D") (List.mem_of_getElem? (i := 1) rfl)) (fun _ h9 => h9) rfl dX1_put_101 ?_
            refine lv_iload hx hb dX1_put_104 (lv_at hl 1 rfl) ?_
            refine lv_dload_n hx hb dX1_put_106 rfl (lv_at hl 3 rfl) ?_
            refine va_dast hx hb hK hP hD hS 1 0 rfl rfl hiu dX1_put_107 (fun H locs hP hD hS => ?_)
            have hP : va_P D vwCl (wT cyD cyI cyJ cyZ at_ a1 a2 rn (vf_upd (fs) (fX1_rowsUpTo rn sf p1).toNatClampNeg p1) (fn)) H := hP
            have hD : va_D A (wT cyD cyI cyJ cyZ at_ a1 a2 rn (vf_upd (fs) (fX1_rowsUpTo rn sf p1).toNatClampNeg p1) (fn)) := hD
            refine lv_aload_n hx hb dX1_put_108 rfl (lv_at hl 2 rfl) ?_
            refine va_get (D := D) (ci := 1) (v := .ref a2) (C := RX1) (T := TX1) (N := 3) hx hb hts (fun _ h => (List.mem_cons_of_mem _ (List.mem_append_right _ h))) hown hK hP 0 rfl rfl 1 (by decide) (hts (.fieldLink RX1 15 "BottomWalks$Table" "numbers" "[D") (List.mem_of_getElem? (i := 2) rfl)) (fun _ h9 => h9) rfl dX1_put_109 ?_
            refine lv_iload hx hb dX1_put_112 (lv_at hl 1 rfl) ?_
            refine lv_dload_n hx hb dX1_put_114 rfl (lv_at hl 4 rfl) ?_
            refine va_dast hx hb hK hP hD hS 2 0 rfl rfl hiu dX1_put_115 (fun H locs hP hD hS => ?_)
            have hP : va_P D vwCl (wT cyD cyI cyJ cyZ at_ a1 a2 rn (vf_upd (fs) (fX1_rowsUpTo rn sf p1).toNatClampNeg p1) (vf_upd (fn) (fX1_rowsUpTo rn sf p1).toNatClampNeg p2)) H := hP
            have hD : va_D A (wT cyD cyI cyJ cyZ at_ a1 a2 rn (vf_upd (fs) (fX1_rowsUpTo rn sf p1).toNatClampNeg p1) (vf_upd (fn) (fX1_rowsUpTo rn sf p1).toNatClampNeg p2)) := hD
            refine lv_aload_n hx hb dX1_put_116 rfl (lv_at hl 2 rfl) ?_
            refine lv_dup hx hb dX1_put_117 rfl ?_
            refine va_get (D := D) (ci := 1) (v := .int rn) (C := RX1) (T := TX1) (N := 3) hx hb hts (fun _ h => (List.mem_cons_of_mem _ (List.mem_append_right _ h))) hown hK hP 0 rfl rfl 2 (by decide) (hts (.fieldLink RX1 18 "BottomWalks$Table" "rows" "I") (List.mem_of_getElem? (i := 3) rfl)) (fun _ h9 => h9) rfl dX1_put_118 ?_
            refine lv_iconst (v := 1) hx hb dX1_put_121 (by decide) ?_
            refine lv_iadd hx hb dX1_put_122 ?_
            refine va_put (D := D) (ci := 1) (v := .int (rn + (1 : Int32))) (ty := .int) (C := RX1) (T := TX1) (N := 3) hx hb hts (fun _ h => (List.mem_cons_of_mem _ (List.mem_append_right _ h))) tyX1 tyX1_ok nmX1 hown hK hP hD hS 0 rfl rfl 2 (by decide) (hts (.fieldLink RX1 18 "BottomWalks$Table" "rows" "I") (List.mem_of_getElem? (i := 3) rfl)) (fun _ h9 => h9) rfl (by decide +kernel) rfl rfl (Nat.le_of_ble_eq_true rfl) dX1_put_123 (fun H locs hP hD hS => ?_)
            have hP : va_P D vwCl (wT cyD cyI cyJ cyZ at_ a1 a2 (rn + (1 : Int32)) (vf_upd (fs) (fX1_rowsUpTo rn sf p1).toNatClampNeg p1) (vf_upd (fn) (fX1_rowsUpTo rn sf p1).toNatClampNeg p2)) H := hP
            have hD : va_D A (wT cyD cyI cyJ cyZ at_ a1 a2 (rn + (1 : Int32)) (vf_upd (fs) (fX1_rowsUpTo rn sf p1).toNatClampNeg p1) (vf_upd (fn) (fX1_rowsUpTo rn sf p1).toNatClampNeg p2)) := hD
            refine lv_iconst (v := 1) hx hb dX1_put_126 (by decide) ?_
            have hF9 : (fX1_put rn sf nf p1 p2) = ((1 : Int32), (rn + (1 : Int32)), (vf_upd (fs) (fX1_rowsUpTo rn sf p1).toNatClampNeg p1), (vf_upd (fn) (fX1_rowsUpTo rn sf p1).toNatClampNeg p2)) := by rw [hF, fX1_put_L55, if_pos c_59]
            have hP9 : va_P D vwCl (wT cyD cyI cyJ cyZ at_ a1 a2 ((fX1_put rn sf nf p1 p2).2.1) ((fX1_put rn sf nf p1 p2).2.2.1) ((fX1_put rn sf nf p1 p2).2.2.2)) H := by rw [hF9]; exact hP
            have hD9 : va_D A (wT cyD cyI cyJ cyZ at_ a1 a2 ((fX1_put rn sf nf p1 p2).2.1) ((fX1_put rn sf nf p1 p2).2.2.1) ((fX1_put rn sf nf p1 p2).2.2.2)) := by rw [hF9]; exact hD
            exact W.zret (v := (1 : Int32)) hx hb hr (nar_z (Or.inr rfl)) (fun t ht hW => ⟨⟨(1 : Int32), (), rfl, ⟨(by rw [hF9]), (Or.inr rfl)⟩, by rw [ht]; exact hP9, va_K.moved hW.alike hK, hD9⟩, hS.F ht⟩) hS.2.2 dX1_put_127
          refine lv_aload_n hx hb dX1_put_62 rfl (lv_at hl 2 rfl) ?_
          refine va_get (D := D) (ci := 1) (v := .ref a1) (C := RX1) (T := TX1) (N := 3) hx hb hts (fun _ h => (List.mem_cons_of_mem _ (List.mem_append_right _ h))) hown hK hP 0 rfl rfl 0 (by decide) (hts (.fieldLink RX1 9 "BottomWalks$Table" "starts" "[D") (List.mem_of_getElem? (i := 1) rfl)) (fun _ h9 => h9) rfl dX1_put_63 ?_
          refine lv_iload hx hb dX1_put_66 (lv_at hl 0 rfl) ?_
          refine lv_aload_n hx hb dX1_put_68 rfl (lv_at hl 2 rfl) ?_
          refine va_get (D := D) (ci := 1) (v := .ref a1) (C := RX1) (T := TX1) (N := 3) hx hb hts (fun _ h => (List.mem_cons_of_mem _ (List.mem_append_right _ h))) hown hK hP 0 rfl rfl 0 (by decide) (hts (.fieldLink RX1 9 "BottomWalks$Table" "starts" "[D") (List.mem_of_getElem? (i := 1) rfl)) (fun _ h9 => h9) rfl dX1_put_69 ?_
          refine lv_iload hx hb dX1_put_72 (lv_at hl 0 rfl) ?_
          refine lv_iconst (v := 1) hx hb dX1_put_74 (by decide) ?_
          refine lv_isub hx hb dX1_put_75 ?_
          refine va_dald hx hb hK hP 1 0 rfl rfl (by have h0 : i ≠ 0 := fun z => c_59 (by rw [z]; exact up_ge0 sf p1 hrn hr20); rw [nI_sub1 (by omega)]; exact vp_in_nI (by omega) (by decide)) dX1_put_76 ?_
          refine va_dast hx hb hK hP hD hS 1 0 rfl rfl (vp_in_nI (by omega) (by decide)) dX1_put_77 (fun H locs hP hD hS => ?_)
          have hP : va_P D vwCl (wT cyD cyI cyJ cyZ at_ a1 a2 rn (vf_upd (fs) ((nI i)).toNatClampNeg ((fs) ((nI i) - (1 : Int32)).toNatClampNeg)) (fn)) H := hP
          have hD : va_D A (wT cyD cyI cyJ cyZ at_ a1 a2 rn (vf_upd (fs) ((nI i)).toNatClampNeg ((fs) ((nI i) - (1 : Int32)).toNatClampNeg)) (fn)) := hD
          refine lv_aload_n hx hb dX1_put_78 rfl (lv_at hl 2 rfl) ?_
          refine va_get (D := D) (ci := 1) (v := .ref a2) (C := RX1) (T := TX1) (N := 3) hx hb hts (fun _ h => (List.mem_cons_of_mem _ (List.mem_append_right _ h))) hown hK hP 0 rfl rfl 1 (by decide) (hts (.fieldLink RX1 15 "BottomWalks$Table" "numbers" "[D") (List.mem_of_getElem? (i := 2) rfl)) (fun _ h9 => h9) rfl dX1_put_79 ?_
          refine lv_iload hx hb dX1_put_82 (lv_at hl 0 rfl) ?_
          refine lv_aload_n hx hb dX1_put_84 rfl (lv_at hl 2 rfl) ?_
          refine va_get (D := D) (ci := 1) (v := .ref a2) (C := RX1) (T := TX1) (N := 3) hx hb hts (fun _ h => (List.mem_cons_of_mem _ (List.mem_append_right _ h))) hown hK hP 0 rfl rfl 1 (by decide) (hts (.fieldLink RX1 15 "BottomWalks$Table" "numbers" "[D") (List.mem_of_getElem? (i := 2) rfl)) (fun _ h9 => h9) rfl dX1_put_85 ?_
          refine lv_iload hx hb dX1_put_88 (lv_at hl 0 rfl) ?_
          refine lv_iconst (v := 1) hx hb dX1_put_90 (by decide) ?_
          refine lv_isub hx hb dX1_put_91 ?_
          refine va_dald hx hb hK hP 2 0 rfl rfl (by have h0 : i ≠ 0 := fun z => c_59 (by rw [z]; exact up_ge0 sf p1 hrn hr20); rw [nI_sub1 (by omega)]; exact vp_in_nI (by omega) (by decide)) dX1_put_92 ?_
          refine va_dast hx hb hK hP hD hS 2 0 rfl rfl (vp_in_nI (by omega) (by decide)) dX1_put_93 (fun H locs hP hD hS => ?_)
          have hP : va_P D vwCl (wT cyD cyI cyJ cyZ at_ a1 a2 rn (vf_upd (fs) ((nI i)).toNatClampNeg ((fs) ((nI i) - (1 : Int32)).toNatClampNeg)) (vf_upd (fn) ((nI i)).toNatClampNeg ((fn) ((nI i) - (1 : Int32)).toNatClampNeg))) H := hP
          have hD : va_D A (wT cyD cyI cyJ cyZ at_ a1 a2 rn (vf_upd (fs) ((nI i)).toNatClampNeg ((fs) ((nI i) - (1 : Int32)).toNatClampNeg)) (vf_upd (fn) ((nI i)).toNatClampNeg ((fn) ((nI i) - (1 : Int32)).toNatClampNeg))) := hD
          refine lv_iinc (v := (((nI i)) + (-1))) (lv' := [(6, .int (((nI i)) + (-1))), (5, .int (fX1_rowsUpTo rn sf p1)), (0, .ref at_), (1, .double p1), (3, .double p2)]) hx hb dX1_put_94 hl (k := 0) rfl rfl (by decide) rfl (fun ls hl => ?_)
          refine lv_goto (tgt := 55) hx hb dX1_put_97 (by decide) ?_
          exact ih (i - 1) (vf_upd (fs) ((nI i)).toNatClampNeg ((fs) ((nI i) - (1 : Int32)).toNatClampNeg)) (vf_upd (fn) ((nI i)).toNatClampNeg ((fn) ((nI i) - (1 : Int32)).toNatClampNeg)) _ _ (by have h0 : i ≠ 0 := (fun z => c_59 (by rw [z]; exact up_ge0 sf p1 hrn hr20)); omega) (by omega) (by have h0 : i ≠ 0 := (fun z => c_59 (by rw [z]; exact up_ge0 sf p1 hrn hr20)); rw [← pk_m1 (i - 1), show i - 1 + 1 = i from (by omega)]; rw [hF, fX1_put_L55, if_neg c_59]) hP hD hS _ (by have h0 : i ≠ 0 := (fun z => c_59 (by rw [z]; exact up_ge0 sf p1 hrn hr20)); rw [← pk_m1 (i - 1), show i - 1 + 1 = i from (by omega)]; exact lv_sub hl [0, 1, 2, 3, 4] rfl)
      exact loop_55 21 r sf nf _ _ (by omega) (by rw [hrn] at c_44; exact (nI_ltI (b := 20) (by omega) (by omega)).mp c_44) (by rw [← hrn]; rw [fX1_put, if_neg c_9, if_neg c_23, if_pos c_44]) hP hD hS _ (by rw [← hrn]; exact lv_sub hl [0, 1, 2, 3, 4] rfl)
    refine lv_iconst (v := 0) hx hb dX1_put_47 (by decide) ?_
    have hF9 : (fX1_put rn sf nf p1 p2) = ((0 : Int32), rn, sf, nf) := by rw [fX1_put, if_neg c_9, if_neg c_23, if_neg c_44]
    have hP9 : va_P D vwCl (wT cyD cyI cyJ cyZ at_ a1 a2 ((fX1_put rn sf nf p1 p2).2.1) ((fX1_put rn sf nf p1 p2).2.2.1) ((fX1_put rn sf nf p1 p2).2.2.2)) H := by rw [hF9]; exact hP
    have hD9 : va_D A (wT cyD cyI cyJ cyZ at_ a1 a2 ((fX1_put rn sf nf p1 p2).2.1) ((fX1_put rn sf nf p1 p2).2.2.1) ((fX1_put rn sf nf p1 p2).2.2.2)) := by rw [hF9]; exact hD
    exact W.zret (v := (0 : Int32)) hx hb hr (nar_z (Or.inl rfl)) (fun t ht hW => ⟨⟨(0 : Int32), (), rfl, ⟨(by rw [hF9]), (Or.inl rfl)⟩, by rw [ht]; exact hP9, va_K.moved hW.alike hK, hD9⟩, hS.F ht⟩) hS.2.2 dX1_put_48
  refine lv_aload_n hx hb dX1_put_26 rfl (lv_at hl 1 rfl) ?_
  refine va_get (D := D) (ci := 1) (v := .ref a2) (C := RX1) (T := TX1) (N := 3) hx hb hts (fun _ h => (List.mem_cons_of_mem _ (List.mem_append_right _ h))) hown hK hP 0 rfl rfl 1 (by decide) (hts (.fieldLink RX1 15 "BottomWalks$Table" "numbers" "[D") (List.mem_of_getElem? (i := 2) rfl)) (fun _ h9 => h9) rfl dX1_put_27 ?_
  refine lv_iload hx hb dX1_put_30 (lv_at hl 0 rfl) ?_
  refine lv_iconst (v := 1) hx hb dX1_put_32 (by decide) ?_
  refine lv_isub hx hb dX1_put_33 ?_
  refine lv_dload_n hx hb dX1_put_34 rfl (lv_at hl 3 rfl) ?_
  refine va_dast hx hb hK hP hD hS 2 0 rfl rfl (upm1_in sf p1 hrn hr20 c_9) dX1_put_35 (fun H locs hP hD hS => ?_)
  have hP : va_P D vwCl (wT cyD cyI cyJ cyZ at_ a1 a2 rn sf (vf_upd nf ((fX1_rowsUpTo rn sf p1) - (1 : Int32)).toNatClampNeg p2)) H := hP
  have hD : va_D A (wT cyD cyI cyJ cyZ at_ a1 a2 rn sf (vf_upd nf ((fX1_rowsUpTo rn sf p1) - (1 : Int32)).toNatClampNeg p2)) := hD
  refine lv_iconst (v := 1) hx hb dX1_put_36 (by decide) ?_
  have hF9 : (fX1_put rn sf nf p1 p2) = ((1 : Int32), rn, sf, (vf_upd nf ((fX1_rowsUpTo rn sf p1) - (1 : Int32)).toNatClampNeg p2)) := by rw [fX1_put, if_neg c_9, if_pos c_23]
  have hP9 : va_P D vwCl (wT cyD cyI cyJ cyZ at_ a1 a2 ((fX1_put rn sf nf p1 p2).2.1) ((fX1_put rn sf nf p1 p2).2.2.1) ((fX1_put rn sf nf p1 p2).2.2.2)) H := by rw [hF9]; exact hP
  have hD9 : va_D A (wT cyD cyI cyJ cyZ at_ a1 a2 ((fX1_put rn sf nf p1 p2).2.1) ((fX1_put rn sf nf p1 p2).2.2.1) ((fX1_put rn sf nf p1 p2).2.2.2)) := by rw [hF9]; exact hD
  exact W.zret (v := (1 : Int32)) hx hb hr (nar_z (Or.inr rfl)) (fun t ht hW => ⟨⟨(1 : Int32), (), rfl, ⟨(by rw [hF9]), (Or.inr rfl)⟩, by rw [ht]; exact hP9, va_K.moved hW.alike hK, hD9⟩, hS.F ht⟩) hS.2.2 dX1_put_37
end
section
def fX2_wasFound (fo : Int32)  : Int32 := fo
set_option maxHeartbeats 4000000 in
set_option maxRecDepth 100000 in
theorem c_X2_wasFound {l : Launch} {D : va_G} {cyD cyI cyJ cyZ : ClassId} (aw ad ak ar au ae av ab : Nat) (df : Nat → UInt64) (kf : Nat → Int32) (rf : Nat → Int32) (uf : Nat → Int64) (st : Int32) (fw : Int32) (fo : Int32) (sn : Nat) (me : UInt64) (vf : Nat → UInt64) (lf : Nat → Int32) (sp : UInt64) (sb : UInt64) (no : UInt64) (sz : Nat)  (hfo : fo = 0 ∨ fo = 1) : mZ l yX2_wasFound wsX2_wasFound ({ frames := 0, cells := 0, slots := 0, locals := 0 } : Room) D (kT cyD cyI cyJ cyZ) [.ref aw] (wW cyD cyI cyJ cyZ aw ad ak ar au ae av ab df kf rf uf st fw fo sn me vf lf sp sb no) (wW cyD cyI cyJ cyZ aw ad ak ar au ae av ab df kf rf uf st fw fo sn me vf lf sp sb no) sz (fX2_wasFound fo) 0 0 := by
  refine Met.ofW (cc := cX2_wasFound) (maxL := 1) (ret := (some .boolean)) (by decide) rfl ?_
  intro p e s m args below meth c s₁ B hml hv
  obtain ⟨rfl, hN, hsz, hP, hK, hD0⟩ := hv
  have hx := B.exec
  have hb := B.bytes
  have hr := B.returns
  have hts := atoms_spec (ws := wsX2_wasFound) B.pre
  have hown : s.vm.findClass RX2 = some m.cls := findClass_of_methodNamed B.named
  have hlocks := B.notSynchronized
  subst hsz
  have hD := hD0.self (sz := s.heap.size)
  generalize hAe : va_A (wW cyD cyI cyJ cyZ aw ad ak ar au ae av ab df kf rf uf st fw fo sn me vf lf sp sb no) s.heap.size = A at hD ⊢
  have hA : ∀ q : Nat, s.heap.size ≤ q → A q := fun q h => by rw [← hAe]; exact Or.inr h
  have hS : va_S A s.heap s.heap [] := va_S.rf
  have hP : va_P D vwCl (wW cyD cyI cyJ cyZ aw ad ak ar au ae av ab df kf rf uf st fw fo sn me vf lf sp sb no) s.heap := hP
  have hl := lv_entry [.ref aw] (n := 1) (Nat.le_of_ble_eq_true rfl)
  rw [lg_entry_eq]
  generalize (lg_sl [.ref aw] ++ List.replicate (1 - (lg_sl [.ref aw]).length) Slot.unset).toArray = ls at hl ⊢
  have hl : lv_has ls 1 [(0, .ref aw)] := hl
  obtain ⟨H, hHe⟩ : ∃ H : Heap, H = s.heap := ⟨_, rfl⟩
  have hP : va_P D vwCl (wW cyD cyI cyJ cyZ aw ad ak ar au ae av ab df kf rf uf st fw fo sn me vf lf sp sb no) H := by rw [hHe]; exact hP
  have hS : va_S A s.heap H [] := by rw [hHe]; exact hS
  rw [← hHe]
  refine lv_aload_n hx hb dX2_wasFound_0 rfl (lv_at hl 0 rfl) ?_
  refine va_get (D := D) (ci := 2) (v := .int fo) (C := RX2) (T := TX2) (N := 8) hx hb hts (fun _ h => (List.mem_cons_of_mem _ (List.mem_append_right _ h))) hown hK hP 0 rfl rfl 7 (by decide) (hts (.fieldLink RX2 30 "BottomWalks$Walk" "found" "Z") (List.mem_of_getElem? (i := 1) rfl)) (fun _ h9 => h9) rfl dX2_wasFound_1 ?_
  have hF9 : (fX2_wasFound fo) = fo := by rw [fX2_wasFound]
  have hP9 : va_P D vwCl (wW cyD cyI cyJ cyZ aw ad ak ar au ae av ab df kf rf uf st fw fo sn me vf lf sp sb no) H := hP
  have hD9 : va_D A (wW cyD cyI cyJ cyZ aw ad ak ar au ae av ab df kf rf uf st fw fo sn me vf lf sp sb no) := hD
  exact W.zret (v := fo) hx hb hr (nar_z hfo) (fun t ht hW => ⟨⟨fo, (), rfl, ⟨(by rw [hF9]), hfo⟩, by rw [ht]; exact hP9, va_K.moved hW.alike hK, hD9⟩, hS.F ht⟩) hS.2.2 dX2_wasFound_4
def fX2_tellDepth (df : Nat → UInt64) (p1 : Int32) (p2 : UInt64) : Int32 × (Nat → UInt64) := if (fX3_isPing p1) = 0 then ((0 : Int32), df) else (if (fX3_within p2 FP.dconst0 (4666723172467343360 : UInt64)) = 0 then ((0 : Int32), df) else (((1 : Int32), (vf_upd df p1.toNatClampNeg p2))))
set_option maxHeartbeats 4000000 in
set_option maxRecDepth 100000 in
theorem c_X2_tellDepth {l : Launch} {D : va_G} {cyD cyI cyJ cyZ : ClassId} (aw ad ak ar au ae av ab : Nat) (df : Nat → UInt64) (kf : Nat → Int32) (rf : Nat → Int32) (uf : Nat → Int64) (st : Int32) (fw : Int32) (fo : Int32) (sn : Nat) (me : UInt64) (vf : Nat → UInt64) (lf : Nat → Int32) (sp : UInt64) (sb : UInt64) (no : UInt64) (sz : Nat) (p1 : Int32) (p2 : UInt64)  : mZ l yX2_tellDepth wsX2_tellDepth ({ frames := 1, cells := 0, slots := 0, locals := 25 } : Room) D (kT cyD cyI cyJ cyZ) [.ref aw, .int p1, .double p2] (wW cyD cyI cyJ cyZ aw ad ak ar au ae av ab df kf rf uf st fw fo sn me vf lf sp sb no) (wW cyD cyI cyJ cyZ aw ad ak ar au ae av ab ((fX2_tellDepth df p1 p2).2) kf rf uf st fw fo sn me vf lf sp sb no) sz ((fX2_tellDepth df p1 p2).1) 0 0 := by
  refine Met.ofW (cc := cX2_tellDepth) (maxL := 4) (ret := (some .boolean)) (by decide) rfl ?_
  intro p e s m args below meth c s₁ B hml hv
  obtain ⟨rfl, hN, hsz, hP, hK, hD0⟩ := hv
  have hx := B.exec
  have hb := B.bytes
  have hr := B.returns
  have hts := atoms_spec (ws := wsX2_tellDepth) B.pre
  have hown : s.vm.findClass RX2 = some m.cls := findClass_of_methodNamed B.named
  have hlocks := B.notSynchronized
  subst hsz
  have hD := hD0.self (sz := s.heap.size)
  generalize hAe : va_A (wW cyD cyI cyJ cyZ aw ad ak ar au ae av ab df kf rf uf st fw fo sn me vf lf sp sb no) s.heap.size = A at hD ⊢
  have hA : ∀ q : Nat, s.heap.size ≤ q → A q := fun q h => by rw [← hAe]; exact Or.inr h
  have hS : va_S A s.heap s.heap [] := va_S.rf
  have hP : va_P D vwCl (wW cyD cyI cyJ cyZ aw ad ak ar au ae av ab df kf rf uf st fw fo sn me vf lf sp sb no) s.heap := hP
  have hl := lv_entry [.ref aw, .int p1, .double p2] (n := 4) (Nat.le_of_ble_eq_true rfl)
  rw [lg_entry_eq]
  generalize (lg_sl [.ref aw, .int p1, .double p2] ++ List.replicate (4 - (lg_sl [.ref aw, .int p1, .double p2]).length) Slot.unset).toArray = ls at hl ⊢
  have hl : lv_has ls 4 [(0, .ref aw), (1, .int p1), (2, .double p2)] := hl
  obtain ⟨H, hHe⟩ : ∃ H : Heap, H = s.heap := ⟨_, rfl⟩
  have hP : va_P D vwCl (wW cyD cyI cyJ cyZ aw ad ak ar au ae av ab df kf rf uf st fw fo sn me vf lf sp sb no) H := by rw [hHe]; exact hP
  have hS : va_S A s.heap H [] := by rw [hHe]; exact hS
  rw [← hHe]
  refine lv_iload_n hx hb dX2_tellDepth_0 rfl (lv_at hl 1 rfl) ?_
  have hPc : va_P D vwCl [] H := hP.sub [] rfl
  have hDc : va_D A [] := hD.sub [] (by decide) rfl
  refine kzE (ws' := (wW cyD cyI cyJ cyZ aw ad ak ar au ae av ab df kf rf uf st fw fo sn me vf lf sp sb no)) (wc := []) (wr := [(aw, .inr (2, [.ref ae, .ref ad, .ref ak, .ref ar, .ref au, .int st, .int fw, .int fo])), (ad, .inl (cyD, 32, .inr (.inr (.inr (.inl df))))), (ak, .inl (cyZ, 32, .inl kf)), (ar, .inl (cyI, 32, .inl rf)), (au, .inl (cyJ, 32 * sn, .inr (.inl uf))), (ae, .inr (0, [.int (nI sn), .double me, .ref av, .ref ab, .double sp, .double sb, .double no])), (av, .inl (cyD, 128 * sn, .inr (.inr (.inr (.inl vf))))), (ab, .inl (cyZ, 32, .inl lf))]) (w1 := []) (va_runSN (As := [.int p1]) (rest := []) ⟨hx, hb, hml, hown, hts⟩ (c_X3_isPing (l := l) (D := D) (cyD := cyD) (cyI := cyI) (cyJ := cyJ) (cyZ := cyZ) H.size p1) ⟨va_cnB 1 hts gX2_tellDepth_X3_isPing_n55 rfl rfl rfl hN.2.2.2.2.1 (hts (.initialized RX3) (List.mem_of_getElem? (i := 4) rfl)) (by decide +kernel) ⟨Nat.le_of_ble_eq_true rfl, Nat.le_of_ble_eq_true rfl⟩, (hts (.static yX3_isPing) (List.mem_of_getElem? (i := 3) rfl)), trivial⟩ (kS hN hK hPc hDc) rfl rfl hl.1 rfl (lv_room (Nat.le_of_ble_eq_true rfl)) dX2_tellDepth_1 ⟨Nat.le_of_ble_eq_true rfl, Nat.le_of_ble_eq_true rfl⟩) hP hD hS hA [] [0, 1, 2, 3, 4, 5, 6, 7] [0, 1, 2, 3, 4, 5, 6, 7] rfl rfl (by decide) (by decide) rfl (by decide) (fun H locs hz_1 hP hD hS => ?_)
  refine lv_if_eq (tgt := 18) hx hb dX2_tellDepth_4 (by decide) (fun c_4 => ?_) (fun c_4 => ?_)
  · refine lv_iconst (v := 0) hx hb dX2_tellDepth_18 (by decide) ?_
    have hF9 : (fX2_tellDepth df p1 p2) = ((0 : Int32), df) := by rw [fX2_tellDepth, if_pos c_4]
    have hP9 : va_P D vwCl (wW cyD cyI cyJ cyZ aw ad ak ar au ae av ab ((fX2_tellDepth df p1 p2).2) kf rf uf st fw fo sn me vf lf sp sb no) H := by rw [hF9]; exact hP
    have hD9 : va_D A (wW cyD cyI cyJ cyZ aw ad ak ar au ae av ab ((fX2_tellDepth df p1 p2).2) kf rf uf st fw fo sn me vf lf sp sb no) := by rw [hF9]; exact hD
    exact W.zret (v := (0 : Int32)) hx hb hr (nar_z (Or.inl rfl)) (fun t ht hW => ⟨⟨(0 : Int32), (), rfl, ⟨(by rw [hF9]), (Or.inl rfl)⟩, by rw [ht]; exact hP9, va_K.moved hW.alike hK, hD9⟩, hS.F ht⟩) hS.2.2 dX2_tellDepth_19
  refine lv_dload_n hx hb dX2_tellDepth_7 rfl (lv_at hl 2 rfl) ?_
  refine lv_dconst0 hx hb dX2_tellDepth_8 ?_
  refine lv_ldc2d (v := 4666723172467343360) hx hb hown (hts (.constantDouble RX2 59 (4666723172467343360)) (List.mem_of_getElem? (i := 1) rfl)) dX2_tellDepth_9 ?_
  have hPc : va_P D vwCl [] H := hP.sub [] rfl
  have hDc : va_D A [] := hD.sub [] (by decide) rfl
  refine kzE (ws' := (wW cyD cyI cyJ cyZ aw ad ak ar au ae av ab df kf rf uf st fw fo sn me vf lf sp sb no)) (wc := []) (wr := [(aw, .inr (2, [.ref ae, .ref ad, .ref ak, .ref ar, .ref au, .int st, .int fw, .int fo])), (ad, .inl (cyD, 32, .inr (.inr (.inr (.inl df))))), (ak, .inl (cyZ, 32, .inl kf)), (ar, .inl (cyI, 32, .inl rf)), (au, .inl (cyJ, 32 * sn, .inr (.inl uf))), (ae, .inr (0, [.int (nI sn), .double me, .ref av, .ref ab, .double sp, .double sb, .double no])), (av, .inl (cyD, 128 * sn, .inr (.inr (.inr (.inl vf))))), (ab, .inl (cyZ, 32, .inl lf))]) (w1 := []) (va_runSN (As := [.double p2, .double FP.dconst0, .double (4666723172467343360 : UInt64)]) (rest := []) ⟨hx, hb, hml, hown, hts⟩ (c_X3_within (l := l) (D := D) (cyD := cyD) (cyI := cyI) (cyJ := cyJ) (cyZ := cyZ) H.size p2 FP.dconst0 (4666723172467343360 : UInt64)) ⟨va_cnB 3 hts gX2_tellDepth_X3_within_n61 rfl rfl rfl hN.2.2.2.2.2.2.1 (hts (.initialized RX3) (List.mem_of_getElem? (i := 4) rfl)) (by decide +kernel) ⟨Nat.le_of_ble_eq_true rfl, Nat.le_of_ble_eq_true rfl⟩, (hts (.static yX3_within) (List.mem_of_getElem? (i := 6) rfl)), trivial⟩ (kS hN hK hPc hDc) rfl rfl hl.1 rfl (lv_room (Nat.le_of_ble_eq_true rfl)) dX2_tellDepth_12 ⟨Nat.le_of_ble_eq_true rfl, Nat.le_of_ble_eq_true rfl⟩) hP hD hS hA [] [0, 1, 2, 3, 4, 5, 6, 7] [0, 1, 2, 3, 4, 5, 6, 7] rfl rfl (by decide) (by decide) rfl (by decide) (fun H locs hz_12 hP hD hS => ?_)
  refine lv_if_ne (tgt := 20) hx hb dX2_tellDepth_15 (by decide) (fun c_15 => ?_) (fun c_15 => ?_)
  · refine lv_aload_n hx hb dX2_tellDepth_20 rfl (lv_at hl 0 rfl) ?_
    refine va_get (D := D) (ci := 2) (v := .ref ad) (C := RX2) (T := TX2) (N := 8) hx hb hts (fun _ h => (List.mem_cons_of_mem _ (List.mem_append_right _ h))) hown hK hP 0 rfl rfl 1 (by decide) (hts (.fieldLink RX2 9 "BottomWalks$Walk" "depthsTold" "[D") (List.mem_of_getElem? (i := 2) rfl)) (fun _ h9 => h9) rfl dX2_tellDepth_21 ?_
    refine lv_iload_n hx hb dX2_tellDepth_24 rfl (lv_at hl 1 rfl) ?_
    refine lv_dload_n hx hb dX2_tellDepth_25 rfl (lv_at hl 2 rfl) ?_
    refine va_dast hx hb hK hP hD hS 1 0 rfl rfl (ping_in c_4) dX2_tellDepth_26 (fun H locs hP hD hS => ?_)
    have hP : va_P D vwCl (wW cyD cyI cyJ cyZ aw ad ak ar au ae av ab (vf_upd df p1.toNatClampNeg p2) kf rf uf st fw fo sn me vf lf sp sb no) H := hP
    have hD : va_D A (wW cyD cyI cyJ cyZ aw ad ak ar au ae av ab (vf_upd df p1.toNatClampNeg p2) kf rf uf st fw fo sn me vf lf sp sb no) := hD
    refine lv_iconst (v := 1) hx hb dX2_tellDepth_27 (by decide) ?_
    have hF9 : (fX2_tellDepth df p1 p2) = ((1 : Int32), (vf_upd df p1.toNatClampNeg p2)) := by rw [fX2_tellDepth, if_neg c_4, if_neg c_15]
    have hP9 : va_P D vwCl (wW cyD cyI cyJ cyZ aw ad ak ar au ae av ab ((fX2_tellDepth df p1 p2).2) kf rf uf st fw fo sn me vf lf sp sb no) H := by rw [hF9]; exact hP
    have hD9 : va_D A (wW cyD cyI cyJ cyZ aw ad ak ar au ae av ab ((fX2_tellDepth df p1 p2).2) kf rf uf st fw fo sn me vf lf sp sb no) := by rw [hF9]; exact hD
    exact W.zret (v := (1 : Int32)) hx hb hr (nar_z (Or.inr rfl)) (fun t ht hW => ⟨⟨(1 : Int32), (), rfl, ⟨(by rw [hF9]), (Or.inr rfl)⟩, by rw [ht]; exact hP9, va_K.moved hW.alike hK, hD9⟩, hS.F ht⟩) hS.2.2 dX2_tellDepth_28
  refine lv_iconst (v := 0) hx hb dX2_tellDepth_18 (by decide) ?_
  have hF9 : (fX2_tellDepth df p1 p2) = ((0 : Int32), df) := by rw [fX2_tellDepth, if_neg c_4, if_pos c_15]
  have hP9 : va_P D vwCl (wW cyD cyI cyJ cyZ aw ad ak ar au ae av ab ((fX2_tellDepth df p1 p2).2) kf rf uf st fw fo sn me vf lf sp sb no) H := by rw [hF9]; exact hP
  have hD9 : va_D A (wW cyD cyI cyJ cyZ aw ad ak ar au ae av ab ((fX2_tellDepth df p1 p2).2) kf rf uf st fw fo sn me vf lf sp sb no) := by rw [hF9]; exact hD
  exact W.zret (v := (0 : Int32)) hx hb hr (nar_z (Or.inl rfl)) (fun t ht hW => ⟨⟨(0 : Int32), (), rfl, ⟨(by rw [hF9]), (Or.inl rfl)⟩, by rw [ht]; exact hP9, va_K.moved hW.alike hK, hD9⟩, hS.F ht⟩) hS.2.2 dX2_tellDepth_19
def fX2_isWalked (kf : Nat → Int32) (p1 : Int32) : Int32 := if (fX3_isPing p1) = 0 then (0 : Int32) else (if (kf p1.toNatClampNeg) = 0 then (0 : Int32) else ((1 : Int32)))
set_option maxHeartbeats 4000000 in
set_option maxRecDepth 100000 in
theorem c_X2_isWalked {l : Launch} {D : va_G} {cyD cyI cyJ cyZ : ClassId} (aw ad ak ar au ae av ab : Nat) (df : Nat → UInt64) (kf : Nat → Int32) (rf : Nat → Int32) (uf : Nat → Int64) (st : Int32) (fw : Int32) (fo : Int32) (sn : Nat) (me : UInt64) (vf : Nat → UInt64) (lf : Nat → Int32) (sp : UInt64) (sb : UInt64) (no : UInt64) (sz : Nat) (p1 : Int32)  : mZ l yX2_isWalked wsX2_isWalked ({ frames := 1, cells := 0, slots := 0, locals := 20 } : Room) D (kT cyD cyI cyJ cyZ) [.ref aw, .int p1] (wW cyD cyI cyJ cyZ aw ad ak ar au ae av ab df kf rf uf st fw fo sn me vf lf sp sb no) (wW cyD cyI cyJ cyZ aw ad ak ar au ae av ab df kf rf uf st fw fo sn me vf lf sp sb no) sz (fX2_isWalked kf p1) 0 0 := by
  refine Met.ofW (cc := cX2_isWalked) (maxL := 2) (ret := (some .boolean)) (by decide) rfl ?_
  intro p e s m args below meth c s₁ B hml hv
  obtain ⟨rfl, hN, hsz, hP, hK, hD0⟩ := hv
  have hx := B.exec
  have hb := B.bytes
  have hr := B.returns
  have hts := atoms_spec (ws := wsX2_isWalked) B.pre
  have hown : s.vm.findClass RX2 = some m.cls := findClass_of_methodNamed B.named
  have hlocks := B.notSynchronized
  subst hsz
  have hD := hD0.self (sz := s.heap.size)
  generalize hAe : va_A (wW cyD cyI cyJ cyZ aw ad ak ar au ae av ab df kf rf uf st fw fo sn me vf lf sp sb no) s.heap.size = A at hD ⊢
  have hA : ∀ q : Nat, s.heap.size ≤ q → A q := fun q h => by rw [← hAe]; exact Or.inr h
  have hS : va_S A s.heap s.heap [] := va_S.rf
  have hP : va_P D vwCl (wW cyD cyI cyJ cyZ aw ad ak ar au ae av ab df kf rf uf st fw fo sn me vf lf sp sb no) s.heap := hP
  have hl := lv_entry [.ref aw, .int p1] (n := 2) (Nat.le_of_ble_eq_true rfl)
  rw [lg_entry_eq]
  generalize (lg_sl [.ref aw, .int p1] ++ List.replicate (2 - (lg_sl [.ref aw, .int p1]).length) Slot.unset).toArray = ls at hl ⊢
  have hl : lv_has ls 2 [(0, .ref aw), (1, .int p1)] := hl
  obtain ⟨H, hHe⟩ : ∃ H : Heap, H = s.heap := ⟨_, rfl⟩
  have hP : va_P D vwCl (wW cyD cyI cyJ cyZ aw ad ak ar au ae av ab df kf rf uf st fw fo sn me vf lf sp sb no) H := by rw [hHe]; exact hP
  have hS : va_S A s.heap H [] := by rw [hHe]; exact hS
  rw [← hHe]
  refine lv_iload_n hx hb dX2_isWalked_0 rfl (lv_at hl 1 rfl) ?_
  have hPc : va_P D vwCl [] H := hP.sub [] rfl
  have hDc : va_D A [] := hD.sub [] (by decide) rfl
  refine kzE (ws' := (wW cyD cyI cyJ cyZ aw ad ak ar au ae av ab df kf rf uf st fw fo sn me vf lf sp sb no)) (wc := []) (wr := [(aw, .inr (2, [.ref ae, .ref ad, .ref ak, .ref ar, .ref au, .int st, .int fw, .int fo])), (ad, .inl (cyD, 32, .inr (.inr (.inr (.inl df))))), (ak, .inl (cyZ, 32, .inl kf)), (ar, .inl (cyI, 32, .inl rf)), (au, .inl (cyJ, 32 * sn, .inr (.inl uf))), (ae, .inr (0, [.int (nI sn), .double me, .ref av, .ref ab, .double sp, .double sb, .double no])), (av, .inl (cyD, 128 * sn, .inr (.inr (.inr (.inl vf))))), (ab, .inl (cyZ, 32, .inl lf))]) (w1 := []) (va_runSN (As := [.int p1]) (rest := []) ⟨hx, hb, hml, hown, hts⟩ (c_X3_isPing (l := l) (D := D) (cyD := cyD) (cyI := cyI) (cyJ := cyJ) (cyZ := cyZ) H.size p1) ⟨va_cnB 1 hts gX2_isWalked_X3_isPing_n55 rfl rfl rfl hN.2.2.2.2.1 (hts (.initialized RX3) (List.mem_of_getElem? (i := 3) rfl)) (by decide +kernel) ⟨Nat.le_of_ble_eq_true rfl, Nat.le_of_ble_eq_true rfl⟩, (hts (.static yX3_isPing) (List.mem_of_getElem? (i := 2) rfl)), trivial⟩ (kS hN hK hPc hDc) rfl rfl hl.1 rfl (lv_room (Nat.le_of_ble_eq_true rfl)) dX2_isWalked_1 ⟨Nat.le_of_ble_eq_true rfl, Nat.le_of_ble_eq_true rfl⟩) hP hD hS hA [] [0, 1, 2, 3, 4, 5, 6, 7] [0, 1, 2, 3, 4, 5, 6, 7] rfl rfl (by decide) (by decide) rfl (by decide) (fun H locs hz_1 hP hD hS => ?_)
  refine lv_if_eq (tgt := 20) hx hb dX2_isWalked_4 (by decide) (fun c_4 => ?_) (fun c_4 => ?_)
  · refine lv_iconst (v := 0) hx hb dX2_isWalked_20 (by decide) ?_
    have hF9 : (fX2_isWalked kf p1) = (0 : Int32) := by rw [fX2_isWalked, if_pos c_4]
    have hP9 : va_P D vwCl (wW cyD cyI cyJ cyZ aw ad ak ar au ae av ab df kf rf uf st fw fo sn me vf lf sp sb no) H := hP
    have hD9 : va_D A (wW cyD cyI cyJ cyZ aw ad ak ar au ae av ab df kf rf uf st fw fo sn me vf lf sp sb no) := hD
    exact W.zret (v := (0 : Int32)) hx hb hr (nar_z (Or.inl rfl)) (fun t ht hW => ⟨⟨(0 : Int32), (), rfl, ⟨(by rw [hF9]), (Or.inl rfl)⟩, by rw [ht]; exact hP9, va_K.moved hW.alike hK, hD9⟩, hS.F ht⟩) hS.2.2 dX2_isWalked_21
  refine lv_aload_n hx hb dX2_isWalked_7 rfl (lv_at hl 0 rfl) ?_
  refine va_get (D := D) (ci := 2) (v := .ref ak) (C := RX2) (T := TX2) (N := 8) hx hb hts (fun _ h => (List.mem_cons_of_mem _ (List.mem_append_right _ h))) hown hK hP 0 rfl rfl 2 (by decide) (hts (.fieldLink RX2 15 "BottomWalks$Walk" "walked" "[Z") (List.mem_of_getElem? (i := 1) rfl)) (fun _ h9 => h9) rfl dX2_isWalked_8 ?_
  refine lv_iload_n hx hb dX2_isWalked_11 rfl (lv_at hl 1 rfl) ?_
  refine va_zald hx hb hK hP 2 3 rfl rfl (ping_in c_4) dX2_isWalked_12 ?_
  refine lv_if_eq (tgt := 20) hx hb dX2_isWalked_13 (by decide) (fun c_13 => ?_) (fun c_13 => ?_)
  · refine lv_iconst (v := 0) hx hb dX2_isWalked_20 (by decide) ?_
    have hF9 : (fX2_isWalked kf p1) = (0 : Int32) := by rw [fX2_isWalked, if_neg c_4, if_pos c_13]
    have hP9 : va_P D vwCl (wW cyD cyI cyJ cyZ aw ad ak ar au ae av ab df kf rf uf st fw fo sn me vf lf sp sb no) H := hP
    have hD9 : va_D A (wW cyD cyI cyJ cyZ aw ad ak ar au ae av ab df kf rf uf st fw fo sn me vf lf sp sb no) := hD
    exact W.zret (v := (0 : Int32)) hx hb hr (nar_z (Or.inl rfl)) (fun t ht hW => ⟨⟨(0 : Int32), (), rfl, ⟨(by rw [hF9]), (Or.inl rfl)⟩, by rw [ht]; exact hP9, va_K.moved hW.alike hK, hD9⟩, hS.F ht⟩) hS.2.2 dX2_isWalked_21
  refine lv_iconst (v := 1) hx hb dX2_isWalked_16 (by decide) ?_
  refine lv_goto (tgt := 21) hx hb dX2_isWalked_17 (by decide) ?_
  have hF9 : (fX2_isWalked kf p1) = (1 : Int32) := by rw [fX2_isWalked, if_neg c_4, if_neg c_13]
  have hP9 : va_P D vwCl (wW cyD cyI cyJ cyZ aw ad ak ar au ae av ab df kf rf uf st fw fo sn me vf lf sp sb no) H := hP
  have hD9 : va_D A (wW cyD cyI cyJ cyZ aw ad ak ar au ae av ab df kf rf uf st fw fo sn me vf lf sp sb no) := hD
  exact W.zret (v := (1 : Int32)) hx hb hr (nar_z (Or.inr rfl)) (fun t ht hW => ⟨⟨(1 : Int32), (), rfl, ⟨(by rw [hF9]), (Or.inr rfl)⟩, by rw [ht]; exact hP9, va_K.moved hW.alike hK, hD9⟩, hS.F ht⟩) hS.2.2 dX2_isWalked_21
def fX2_isEdited (df : Nat → UInt64) (p1 : Int32) : Int32 := if (fX3_isPing p1) = 0 then (0 : Int32) else (if (Op.cmpValue (FP.dcmp (df p1.toNatClampNeg) FP.dconst0) CmpOp.l) < 0 then (0 : Int32) else ((1 : Int32)))
set_option maxHeartbeats 4000000 in
set_option maxRecDepth 100000 in
theorem c_X2_isEdited {l : Launch} {D : va_G} {cyD cyI cyJ cyZ : ClassId} (aw ad ak ar au ae av ab : Nat) (df : Nat → UInt64) (kf : Nat → Int32) (rf : Nat → Int32) (uf : Nat → Int64) (st : Int32) (fw : Int32) (fo : Int32) (sn : Nat) (me : UInt64) (vf : Nat → UInt64) (lf : Nat → Int32) (sp : UInt64) (sb : UInt64) (no : UInt64) (sz : Nat) (p1 : Int32)  : mZ l yX2_isEdited wsX2_isEdited ({ frames := 1, cells := 0, slots := 0, locals := 20 } : Room) D (kT cyD cyI cyJ cyZ) [.ref aw, .int p1] (wW cyD cyI cyJ cyZ aw ad ak ar au ae av ab df kf rf uf st fw fo sn me vf lf sp sb no) (wW cyD cyI cyJ cyZ aw ad ak ar au ae av ab df kf rf uf st fw fo sn me vf lf sp sb no) sz (fX2_isEdited df p1) 0 0 := by
  refine Met.ofW (cc := cX2_isEdited) (maxL := 2) (ret := (some .boolean)) (by decide) rfl ?_
  intro p e s m args below meth c s₁ B hml hv
  obtain ⟨rfl, hN, hsz, hP, hK, hD0⟩ := hv
  have hx := B.exec
  have hb := B.bytes
  have hr := B.returns
  have hts := atoms_spec (ws := wsX2_isEdited) B.pre
  have hown : s.vm.findClass RX2 = some m.cls := findClass_of_methodNamed B.named
  have hlocks := B.notSynchronized
  subst hsz
  have hD := hD0.self (sz := s.heap.size)
  generalize hAe : va_A (wW cyD cyI cyJ cyZ aw ad ak ar au ae av ab df kf rf uf st fw fo sn me vf lf sp sb no) s.heap.size = A at hD ⊢
  have hA : ∀ q : Nat, s.heap.size ≤ q → A q := fun q h => by rw [← hAe]; exact Or.inr h
  have hS : va_S A s.heap s.heap [] := va_S.rf
  have hP : va_P D vwCl (wW cyD cyI cyJ cyZ aw ad ak ar au ae av ab df kf rf uf st fw fo sn me vf lf sp sb no) s.heap := hP
  have hl := lv_entry [.ref aw, .int p1] (n := 2) (Nat.le_of_ble_eq_true rfl)
  rw [lg_entry_eq]
  generalize (lg_sl [.ref aw, .int p1] ++ List.replicate (2 - (lg_sl [.ref aw, .int p1]).length) Slot.unset).toArray = ls at hl ⊢
  have hl : lv_has ls 2 [(0, .ref aw), (1, .int p1)] := hl
  obtain ⟨H, hHe⟩ : ∃ H : Heap, H = s.heap := ⟨_, rfl⟩
  have hP : va_P D vwCl (wW cyD cyI cyJ cyZ aw ad ak ar au ae av ab df kf rf uf st fw fo sn me vf lf sp sb no) H := by rw [hHe]; exact hP
  have hS : va_S A s.heap H [] := by rw [hHe]; exact hS
  rw [← hHe]
  refine lv_iload_n hx hb dX2_isEdited_0 rfl (lv_at hl 1 rfl) ?_
  have hPc : va_P D vwCl [] H := hP.sub [] rfl
  have hDc : va_D A [] := hD.sub [] (by decide) rfl
  refine kzE (ws' := (wW cyD cyI cyJ cyZ aw ad ak ar au ae av ab df kf rf uf st fw fo sn me vf lf sp sb no)) (wc := []) (wr := [(aw, .inr (2, [.ref ae, .ref ad, .ref ak, .ref ar, .ref au, .int st, .int fw, .int fo])), (ad, .inl (cyD, 32, .inr (.inr (.inr (.inl df))))), (ak, .inl (cyZ, 32, .inl kf)), (ar, .inl (cyI, 32, .inl rf)), (au, .inl (cyJ, 32 * sn, .inr (.inl uf))), (ae, .inr (0, [.int (nI sn), .double me, .ref av, .ref ab, .double sp, .double sb, .double no])), (av, .inl (cyD, 128 * sn, .inr (.inr (.inr (.inl vf))))), (ab, .inl (cyZ, 32, .inl lf))]) (w1 := []) (va_runSN (As := [.int p1]) (rest := []) ⟨hx, hb, hml, hown, hts⟩ (c_X3_isPing (l := l) (D := D) (cyD := cyD) (cyI := cyI) (cyJ := cyJ) (cyZ := cyZ) H.size p1) ⟨va_cnB 1 hts gX2_isEdited_X3_isPing_n55 rfl rfl rfl hN.2.2.2.2.1 (hts (.initialized RX3) (List.mem_of_getElem? (i := 3) rfl)) (by decide +kernel) ⟨Nat.le_of_ble_eq_true rfl, Nat.le_of_ble_eq_true rfl⟩, (hts (.static yX3_isPing) (List.mem_of_getElem? (i := 2) rfl)), trivial⟩ (kS hN hK hPc hDc) rfl rfl hl.1 rfl (lv_room (Nat.le_of_ble_eq_true rfl)) dX2_isEdited_1 ⟨Nat.le_of_ble_eq_true rfl, Nat.le_of_ble_eq_true rfl⟩) hP hD hS hA [] [0, 1, 2, 3, 4, 5, 6, 7] [0, 1, 2, 3, 4, 5, 6, 7] rfl rfl (by decide) (by decide) rfl (by decide) (fun H locs hz_1 hP hD hS => ?_)
  refine lv_if_eq (tgt := 22) hx hb dX2_isEdited_4 (by decide) (fun c_4 => ?_) (fun c_4 => ?_)
  · refine lv_iconst (v := 0) hx hb dX2_isEdited_22 (by decide) ?_
    have hF9 : (fX2_isEdited df p1) = (0 : Int32) := by rw [fX2_isEdited, if_pos c_4]
    have hP9 : va_P D vwCl (wW cyD cyI cyJ cyZ aw ad ak ar au ae av ab df kf rf uf st fw fo sn me vf lf sp sb no) H := hP
    have hD9 : va_D A (wW cyD cyI cyJ cyZ aw ad ak ar au ae av ab df kf rf uf st fw fo sn me vf lf sp sb no) := hD
    exact W.zret (v := (0 : Int32)) hx hb hr (nar_z (Or.inl rfl)) (fun t ht hW => ⟨⟨(0 : Int32), (), rfl, ⟨(by rw [hF9]), (Or.inl rfl)⟩, by rw [ht]; exact hP9, va_K.moved hW.alike hK, hD9⟩, hS.F ht⟩) hS.2.2 dX2_isEdited_23
  refine lv_aload_n hx hb dX2_isEdited_7 rfl (lv_at hl 0 rfl) ?_
  refine va_get (D := D) (ci := 2) (v := .ref ad) (C := RX2) (T := TX2) (N := 8) hx hb hts (fun _ h => (List.mem_cons_of_mem _ (List.mem_append_right _ h))) hown hK hP 0 rfl rfl 1 (by decide) (hts (.fieldLink RX2 9 "BottomWalks$Walk" "depthsTold" "[D") (List.mem_of_getElem? (i := 1) rfl)) (fun _ h9 => h9) rfl dX2_isEdited_8 ?_
  refine lv_iload_n hx hb dX2_isEdited_11 rfl (lv_at hl 1 rfl) ?_
  refine va_dald hx hb hK hP 1 0 rfl rfl (ping_in c_4) dX2_isEdited_12 ?_
  refine lv_dconst0 hx hb dX2_isEdited_13 ?_
  refine lv_dcmp hx hb dX2_isEdited_14 ?_
  refine lv_if_lt (tgt := 22) hx hb dX2_isEdited_15 (by decide) (fun c_15 => ?_) (fun c_15 => ?_)
  · refine lv_iconst (v := 0) hx hb dX2_isEdited_22 (by decide) ?_
    have hF9 : (fX2_isEdited df p1) = (0 : Int32) := by rw [fX2_isEdited, if_neg c_4, if_pos c_15]
    have hP9 : va_P D vwCl (wW cyD cyI cyJ cyZ aw ad ak ar au ae av ab df kf rf uf st fw fo sn me vf lf sp sb no) H := hP
    have hD9 : va_D A (wW cyD cyI cyJ cyZ aw ad ak ar au ae av ab df kf rf uf st fw fo sn me vf lf sp sb no) := hD
    exact W.zret (v := (0 : Int32)) hx hb hr (nar_z (Or.inl rfl)) (fun t ht hW => ⟨⟨(0 : Int32), (), rfl, ⟨(by rw [hF9]), (Or.inl rfl)⟩, by rw [ht]; exact hP9, va_K.moved hW.alike hK, hD9⟩, hS.F ht⟩) hS.2.2 dX2_isEdited_23
  refine lv_iconst (v := 1) hx hb dX2_isEdited_18 (by decide) ?_
  refine lv_goto (tgt := 23) hx hb dX2_isEdited_19 (by decide) ?_
  have hF9 : (fX2_isEdited df p1) = (1 : Int32) := by rw [fX2_isEdited, if_neg c_4, if_neg c_15]
  have hP9 : va_P D vwCl (wW cyD cyI cyJ cyZ aw ad ak ar au ae av ab df kf rf uf st fw fo sn me vf lf sp sb no) H := hP
  have hD9 : va_D A (wW cyD cyI cyJ cyZ aw ad ak ar au ae av ab df kf rf uf st fw fo sn me vf lf sp sb no) := hD
  exact W.zret (v := (1 : Int32)) hx hb hr (nar_z (Or.inr rfl)) (fun t ht hW => ⟨⟨(1 : Int32), (), rfl, ⟨(by rw [hF9]), (Or.inr rfl)⟩, by rw [ht]; exact hP9, va_K.moved hW.alike hK, hD9⟩, hS.F ht⟩) hS.2.2 dX2_isEdited_23
theorem edited_in {df : Nat → UInt64} {p : Int32} (h : ¬ fX2_isEdited df p = 0) : vp_in p 32 := by
  unfold fX2_isEdited at h
  by_cases c : fX3_isPing p = 0
  · rw [if_pos c] at h; exact absurd rfl h
  · exact ping_in c
theorem nI_one : nI 1 = 1 := rfl
theorem sampleFor_L {sn : Nat} {me w : UInt64} (h1 : 1 ≤ sn) (h2 : sn ≤ 64) : ∀ (k j : Nat), j + k = 65 → j < sn → ∃ q : Nat, q < sn ∧ fX0_sampleFor_L2 sn me w k (nI j) = nI q := by
  intro k; induction k with
  | zero => intro j a b; omega
  | succ k ih =>
    intro j a b
    rw [fX0_sampleFor_L2]
    by_cases c : nI sn - 1 ≤ nI j
    · rw [if_pos c]; exact ⟨j, b, rfl⟩
    · rw [if_neg c]
      rw [nI_sub1 h1] at c
      have := Nat.lt_of_not_le (fun q => c (nI_le q (by omega)))
      split
      · exact ⟨j, b, rfl⟩
      · rw [nI_1]; exact ih (j + 1) (by omega) (by omega)
theorem sampleFor_nI {sn : Nat} (me w : UInt64) (h1 : 1 ≤ sn) (h2 : sn ≤ 64) : ∃ q : Nat, q < sn ∧ fX0_sampleFor sn me w = nI q := sampleFor_L h1 h2 65 0 rfl (by omega)
def fX2_sampleOfRow (rf : Nat → Int32) (p1 : Int32) : Int32 := if (fX3_isPing p1) = 0 then (0 : Int32) else ((rf p1.toNatClampNeg))
set_option maxHeartbeats 4000000 in
set_option maxRecDepth 100000 in
theorem c_X2_sampleOfRow {l : Launch} {D : va_G} {cyD cyI cyJ cyZ : ClassId} (aw ad ak ar au ae av ab : Nat) (df : Nat → UInt64) (kf : Nat → Int32) (rf : Nat → Int32) (uf : Nat → Int64) (st : Int32) (fw : Int32) (fo : Int32) (sn : Nat) (me : UInt64) (vf : Nat → UInt64) (lf : Nat → Int32) (sp : UInt64) (sb : UInt64) (no : UInt64) (sz : Nat) (p1 : Int32)  : mI l yX2_sampleOfRow wsX2_sampleOfRow ({ frames := 1, cells := 0, slots := 0, locals := 20 } : Room) D (kT cyD cyI cyJ cyZ) [.ref aw, .int p1] (wW cyD cyI cyJ cyZ aw ad ak ar au ae av ab df kf rf uf st fw fo sn me vf lf sp sb no) (wW cyD cyI cyJ cyZ aw ad ak ar au ae av ab df kf rf uf st fw fo sn me vf lf sp sb no) sz (fX2_sampleOfRow rf p1) 0 0 := by
  refine Met.ofW (cc := cX2_sampleOfRow) (maxL := 2) (ret := (some .int)) (by decide) rfl ?_
  intro p e s m args below meth c s₁ B hml hv
  obtain ⟨rfl, hN, hsz, hP, hK, hD0⟩ := hv
  have hx := B.exec
  have hb := B.bytes
  have hr := B.returns
  have hts := atoms_spec (ws := wsX2_sampleOfRow) B.pre
  have hown : s.vm.findClass RX2 = some m.cls := findClass_of_methodNamed B.named
  have hlocks := B.notSynchronized
  subst hsz
  have hD := hD0.self (sz := s.heap.size)
  generalize hAe : va_A (wW cyD cyI cyJ cyZ aw ad ak ar au ae av ab df kf rf uf st fw fo sn me vf lf sp sb no) s.heap.size = A at hD ⊢
  have hA : ∀ q : Nat, s.heap.size ≤ q → A q := fun q h => by rw [← hAe]; exact Or.inr h
  have hS : va_S A s.heap s.heap [] := va_S.rf
  have hP : va_P D vwCl (wW cyD cyI cyJ cyZ aw ad ak ar au ae av ab df kf rf uf st fw fo sn me vf lf sp sb no) s.heap := hP
  have hl := lv_entry [.ref aw, .int p1] (n := 2) (Nat.le_of_ble_eq_true rfl)
  rw [lg_entry_eq]
  generalize (lg_sl [.ref aw, .int p1] ++ List.replicate (2 - (lg_sl [.ref aw, .int p1]).length) Slot.unset).toArray = ls at hl ⊢
  have hl : lv_has ls 2 [(0, .ref aw), (1, .int p1)] := hl
  obtain ⟨H, hHe⟩ : ∃ H : Heap, H = s.heap := ⟨_, rfl⟩
  have hP : va_P D vwCl (wW cyD cyI cyJ cyZ aw ad ak ar au ae av ab df kf rf uf st fw fo sn me vf lf sp sb no) H := by rw [hHe]; exact hP
  have hS : va_S A s.heap H [] := by rw [hHe]; exact hS
  rw [← hHe]
  refine lv_iload_n hx hb dX2_sampleOfRow_0 rfl (lv_at hl 1 rfl) ?_
  have hPc : va_P D vwCl [] H := hP.sub [] rfl
  have hDc : va_D A [] := hD.sub [] (by decide) rfl
  refine kzE (ws' := (wW cyD cyI cyJ cyZ aw ad ak ar au ae av ab df kf rf uf st fw fo sn me vf lf sp sb no)) (wc := []) (wr := [(aw, .inr (2, [.ref ae, .ref ad, .ref ak, .ref ar, .ref au, .int st, .int fw, .int fo])), (ad, .inl (cyD, 32, .inr (.inr (.inr (.inl df))))), (ak, .inl (cyZ, 32, .inl kf)), (ar, .inl (cyI, 32, .inl rf)), (au, .inl (cyJ, 32 * sn, .inr (.inl uf))), (ae, .inr (0, [.int (nI sn), .double me, .ref av, .ref ab, .double sp, .double sb, .double no])), (av, .inl (cyD, 128 * sn, .inr (.inr (.inr (.inl vf))))), (ab, .inl (cyZ, 32, .inl lf))]) (w1 := []) (va_runSN (As := [.int p1]) (rest := []) ⟨hx, hb, hml, hown, hts⟩ (c_X3_isPing (l := l) (D := D) (cyD := cyD) (cyI := cyI) (cyJ := cyJ) (cyZ := cyZ) H.size p1) ⟨va_cnB 1 hts gX2_sampleOfRow_X3_isPing_n55 rfl rfl rfl hN.2.2.2.2.1 (hts (.initialized RX3) (List.mem_of_getElem? (i := 3) rfl)) (by decide +kernel) ⟨Nat.le_of_ble_eq_true rfl, Nat.le_of_ble_eq_true rfl⟩, (hts (.static yX3_isPing) (List.mem_of_getElem? (i := 2) rfl)), trivial⟩ (kS hN hK hPc hDc) rfl rfl hl.1 rfl (lv_room (Nat.le_of_ble_eq_true rfl)) dX2_sampleOfRow_1 ⟨Nat.le_of_ble_eq_true rfl, Nat.le_of_ble_eq_true rfl⟩) hP hD hS hA [] [0, 1, 2, 3, 4, 5, 6, 7] [0, 1, 2, 3, 4, 5, 6, 7] rfl rfl (by decide) (by decide) rfl (by decide) (fun H locs hz_1 hP hD hS => ?_)
  refine lv_if_eq (tgt := 16) hx hb dX2_sampleOfRow_4 (by decide) (fun c_4 => ?_) (fun c_4 => ?_)
  · refine lv_iconst (v := 0) hx hb dX2_sampleOfRow_16 (by decide) ?_
    have hF9 : (fX2_sampleOfRow rf p1) = (0 : Int32) := by rw [fX2_sampleOfRow, if_pos c_4]
    have hP9 : va_P D vwCl (wW cyD cyI cyJ cyZ aw ad ak ar au ae av ab df kf rf uf st fw fo sn me vf lf sp sb no) H := hP
    have hD9 : va_D A (wW cyD cyI cyJ cyZ aw ad ak ar au ae av ab df kf rf uf st fw fo sn me vf lf sp sb no) := hD
    exact W.iret (v := (0 : Int32)) hx hb hr (fun t ht hW => ⟨⟨(0 : Int32), (), rfl, (by rw [hF9]), by rw [ht]; exact hP9, va_K.moved hW.alike hK, hD9⟩, hS.F ht⟩) hS.2.2 dX2_sampleOfRow_17
  refine lv_aload_n hx hb dX2_sampleOfRow_7 rfl (lv_at hl 0 rfl) ?_
  refine va_get (D := D) (ci := 2) (v := .ref ar) (C := RX2) (T := TX2) (N := 8) hx hb hts (fun _ h => (List.mem_cons_of_mem _ (List.mem_append_right _ h))) hown hK hP 0 rfl rfl 3 (by decide) (hts (.fieldLink RX2 19 "BottomWalks$Walk" "row" "[I") (List.mem_of_getElem? (i := 1) rfl)) (fun _ h9 => h9) rfl dX2_sampleOfRow_8 ?_
  refine lv_iload_n hx hb dX2_sampleOfRow_11 rfl (lv_at hl 1 rfl) ?_
  refine va_iald hx hb hK hP 3 1 rfl rfl (ping_in c_4) dX2_sampleOfRow_12 ?_
  refine lv_goto (tgt := 17) hx hb dX2_sampleOfRow_13 (by decide) ?_
  have hF9 : (fX2_sampleOfRow rf p1) = (rf p1.toNatClampNeg) := by rw [fX2_sampleOfRow, if_neg c_4]
  have hP9 : va_P D vwCl (wW cyD cyI cyJ cyZ aw ad ak ar au ae av ab df kf rf uf st fw fo sn me vf lf sp sb no) H := hP
  have hD9 : va_D A (wW cyD cyI cyJ cyZ aw ad ak ar au ae av ab df kf rf uf st fw fo sn me vf lf sp sb no) := hD
  exact W.iret (v := (rf p1.toNatClampNeg)) hx hb hr (fun t ht hW => ⟨⟨(rf p1.toNatClampNeg), (), rfl, (by rw [hF9]), by rw [ht]; exact hP9, va_K.moved hW.alike hK, hD9⟩, hS.F ht⟩) hS.2.2 dX2_sampleOfRow_17
def fX2_depthWalked (df : Nat → UInt64) (rf : Nat → Int32) (me : UInt64) (p1 : Int32) : UInt64 := if (fX2_isEdited df p1) = 0 then (fX0_range me (fX2_sampleOfRow rf p1)) else ((df p1.toNatClampNeg))
set_option maxHeartbeats 4000000 in
set_option maxRecDepth 100000 in
theorem c_X2_depthWalked {l : Launch} {D : va_G} {cyD cyI cyJ cyZ : ClassId} (aw ad ak ar au ae av ab : Nat) (df : Nat → UInt64) (kf : Nat → Int32) (rf : Nat → Int32) (uf : Nat → Int64) (st : Int32) (fw : Int32) (fo : Int32) (sn : Nat) (me : UInt64) (vf : Nat → UInt64) (lf : Nat → Int32) (sp : UInt64) (sb : UInt64) (no : UInt64) (sz : Nat) (p1 : Int32) (hE : okE sn me vf sp sb no) : mD l yX2_depthWalked wsX2_depthWalked ({ frames := 2, cells := 0, slots := 0, locals := 41 } : Room) D (kT cyD cyI cyJ cyZ) [.ref aw, .int p1] (wW cyD cyI cyJ cyZ aw ad ak ar au ae av ab df kf rf uf st fw fo sn me vf lf sp sb no) (wW cyD cyI cyJ cyZ aw ad ak ar au ae av ab df kf rf uf st fw fo sn me vf lf sp sb no) sz (fX2_depthWalked df rf me p1) 0 0 := by
  refine Met.ofW (cc := cX2_depthWalked) (maxL := 2) (ret := (some .double)) (by decide) rfl ?_
  intro p e s m args below meth c s₁ B hml hv
  obtain ⟨rfl, hN, hsz, hP, hK, hD0⟩ := hv
  have hx := B.exec
  have hb := B.bytes
  have hr := B.returns
  have hts := atoms_spec (ws := wsX2_depthWalked) B.pre
  have hown : s.vm.findClass RX2 = some m.cls := findClass_of_methodNamed B.named
  have hlocks := B.notSynchronized
  subst hsz
  have hD := hD0.self (sz := s.heap.size)
  generalize hAe : va_A (wW cyD cyI cyJ cyZ aw ad ak ar au ae av ab df kf rf uf st fw fo sn me vf lf sp sb no) s.heap.size = A at hD ⊢
  have hA : ∀ q : Nat, s.heap.size ≤ q → A q := fun q h => by rw [← hAe]; exact Or.inr h
  have hS : va_S A s.heap s.heap [] := va_S.rf
  have hP : va_P D vwCl (wW cyD cyI cyJ cyZ aw ad ak ar au ae av ab df kf rf uf st fw fo sn me vf lf sp sb no) s.heap := hP
  have hl := lv_entry [.ref aw, .int p1] (n := 2) (Nat.le_of_ble_eq_true rfl)
  rw [lg_entry_eq]
  generalize (lg_sl [.ref aw, .int p1] ++ List.replicate (2 - (lg_sl [.ref aw, .int p1]).length) Slot.unset).toArray = ls at hl ⊢
  have hl : lv_has ls 2 [(0, .ref aw), (1, .int p1)] := hl
  obtain ⟨H, hHe⟩ : ∃ H : Heap, H = s.heap := ⟨_, rfl⟩
  have hP : va_P D vwCl (wW cyD cyI cyJ cyZ aw ad ak ar au ae av ab df kf rf uf st fw fo sn me vf lf sp sb no) H := by rw [hHe]; exact hP
  have hS : va_S A s.heap H [] := by rw [hHe]; exact hS
  rw [← hHe]
  refine lv_aload_n hx hb dX2_depthWalked_0 rfl (lv_at hl 0 rfl) ?_
  refine lv_iload_n hx hb dX2_depthWalked_1 rfl (lv_at hl 1 rfl) ?_
  have hPc : va_P D vwCl (wW cyD cyI cyJ cyZ aw ad ak ar au ae av ab df kf rf uf st fw fo sn me vf lf sp sb no) H := hP.sub [0, 1, 2, 3, 4, 5, 6, 7] rfl
  have hDc : va_D A (wW cyD cyI cyJ cyZ aw ad ak ar au ae av ab df kf rf uf st fw fo sn me vf lf sp sb no) := hD.sub [0, 1, 2, 3, 4, 5, 6, 7] (by decide) rfl
  refine kzE (ws' := (wW cyD cyI cyJ cyZ aw ad ak ar au ae av ab df kf rf uf st fw fo sn me vf lf sp sb no)) (wc := (wW cyD cyI cyJ cyZ aw ad ak ar au ae av ab df kf rf uf st fw fo sn me vf lf sp sb no)) (wr := []) (w1 := (wW cyD cyI cyJ cyZ aw ad ak ar au ae av ab df kf rf uf st fw fo sn me vf lf sp sb no)) (va_runV (As := [.int p1]) (rest := []) ⟨hx, hb, hml, hown, hts⟩ (c_X2_isEdited (l := l) (D := D) (cyD := cyD) (cyI := cyI) (cyJ := cyJ) (cyZ := cyZ) aw ad ak ar au ae av ab df kf rf uf st fw fo sn me vf lf sp sb no H.size p1) (cwV 1 hts gX2_depthWalked_X2_isEdited rfl rfl rfl (by decide +kernel) ⟨Nat.le_of_ble_eq_true rfl, Nat.le_of_ble_eq_true rfl⟩) (kV (ci := 2) (q0 := 0) (q := (RX2, TX2, 8)) hN hK hPc hDc rfl rfl rfl) rfl rfl hl.1 rfl (lv_room (Nat.le_of_ble_eq_true rfl)) dX2_depthWalked_2 ⟨Nat.le_of_ble_eq_true rfl, Nat.le_of_ble_eq_true rfl⟩) hP hD hS hA [0, 1, 2, 3, 4, 5, 6, 7] [] [0, 1, 2, 3, 4, 5, 6, 7] rfl rfl (by decide) (by decide) rfl (by decide) (fun H locs hz_2 hP hD hS => ?_)
  refine lv_if_eq (tgt := 17) hx hb dX2_depthWalked_5 (by decide) (fun c_5 => ?_) (fun c_5 => ?_)
  · refine lv_aload_n hx hb dX2_depthWalked_17 rfl (lv_at hl 0 rfl) ?_
    refine va_get (D := D) (ci := 2) (v := .ref ae) (C := RX2) (T := TX2) (N := 8) hx hb hts (fun _ h => (List.mem_cons_of_mem _ (List.mem_append_left _ (List.mem_append_right _ h)))) hown hK hP 0 rfl rfl 0 (by decide) (hts (.fieldLink RX2 34 "BottomWalks$Walk" "echoes" "LBottomWalks$Echoes;") (List.mem_of_getElem? (i := 2) rfl)) (fun _ h9 => h9) rfl dX2_depthWalked_18 ?_
    refine lv_aload_n hx hb dX2_depthWalked_21 rfl (lv_at hl 0 rfl) ?_
    refine lv_iload_n hx hb dX2_depthWalked_22 rfl (lv_at hl 1 rfl) ?_
    have hPc : va_P D vwCl (wW cyD cyI cyJ cyZ aw ad ak ar au ae av ab df kf rf uf st fw fo sn me vf lf sp sb no) H := hP.sub [0, 1, 2, 3, 4, 5, 6, 7] rfl
    have hDc : va_D A (wW cyD cyI cyJ cyZ aw ad ak ar au ae av ab df kf rf uf st fw fo sn me vf lf sp sb no) := hD.sub [0, 1, 2, 3, 4, 5, 6, 7] (by decide) rfl
    refine kiE (ws' := (wW cyD cyI cyJ cyZ aw ad ak ar au ae av ab df kf rf uf st fw fo sn me vf lf sp sb no)) (wc := (wW cyD cyI cyJ cyZ aw ad ak ar au ae av ab df kf rf uf st fw fo sn me vf lf sp sb no)) (wr := []) (w1 := (wW cyD cyI cyJ cyZ aw ad ak ar au ae av ab df kf rf uf st fw fo sn me vf lf sp sb no)) (va_runV (As := [.int p1]) (rest := [.ref ae]) ⟨hx, hb, hml, hown, hts⟩ (c_X2_sampleOfRow (l := l) (D := D) (cyD := cyD) (cyI := cyI) (cyJ := cyJ) (cyZ := cyZ) aw ad ak ar au ae av ab df kf rf uf st fw fo sn me vf lf sp sb no H.size p1) (cwV 1 hts gX2_depthWalked_X2_sampleOfRow rfl rfl rfl (by decide +kernel) ⟨Nat.le_of_ble_eq_true rfl, Nat.le_of_ble_eq_true rfl⟩) (kV (ci := 2) (q0 := 0) (q := (RX2, TX2, 8)) hN hK hPc hDc rfl rfl rfl) rfl rfl hl.1 rfl (lv_room (Nat.le_of_ble_eq_true rfl)) dX2_depthWalked_23 ⟨Nat.le_of_ble_eq_true rfl, Nat.le_of_ble_eq_true rfl⟩) hP hD hS hA [0, 1, 2, 3, 4, 5, 6, 7] [] [0, 1, 2, 3, 4, 5, 6, 7] rfl rfl (by decide) (by decide) rfl (by decide) (fun H locs hP hD hS => ?_)
    have hPc : va_P D vwCl (wE cyD cyI cyJ cyZ ae av ab sn me vf lf sp sb no) H := hP.sub [5, 6, 7] rfl
    have hDc : va_D A (wE cyD cyI cyJ cyZ ae av ab sn me vf lf sp sb no) := hD.sub [5, 6, 7] (by decide) rfl
    refine kdE (ws' := (wW cyD cyI cyJ cyZ aw ad ak ar au ae av ab df kf rf uf st fw fo sn me vf lf sp sb no)) (wc := (wE cyD cyI cyJ cyZ ae av ab sn me vf lf sp sb no)) (wr := [(aw, .inr (2, [.ref ae, .ref ad, .ref ak, .ref ar, .ref au, .int st, .int fw, .int fo])), (ad, .inl (cyD, 32, .inr (.inr (.inr (.inl df))))), (ak, .inl (cyZ, 32, .inl kf)), (ar, .inl (cyI, 32, .inl rf)), (au, .inl (cyJ, 32 * sn, .inr (.inl uf)))]) (w1 := (wE cyD cyI cyJ cyZ ae av ab sn me vf lf sp sb no)) (va_runV (As := [.int (fX2_sampleOfRow rf p1)]) (rest := []) ⟨hx, hb, hml, hown, hts⟩ (c_X0_range (l := l) (D := D) (cyD := cyD) (cyI := cyI) (cyJ := cyJ) (cyZ := cyZ) ae av ab sn me vf lf sp sb no H.size (fX2_sampleOfRow rf p1) hE.2.2.1) (cwV 1 hts gX2_depthWalked_X0_range rfl rfl rfl (by decide +kernel) ⟨Nat.le_of_ble_eq_true rfl, Nat.le_of_ble_eq_true rfl⟩) (kV (ci := 0) (q0 := 0) (q := (RX0, TX0, 7)) hN hK hPc hDc rfl rfl rfl) rfl rfl hl.1 rfl (lv_room (Nat.le_of_ble_eq_true rfl)) dX2_depthWalked_26 ⟨Nat.le_of_ble_eq_true rfl, Nat.le_of_ble_eq_true rfl⟩) hP hD hS hA [5, 6, 7] [0, 1, 2, 3, 4] [0, 1, 2, 3, 4, 5, 6, 7] rfl rfl (by decide) (by decide) rfl (by decide) (fun H locs hP hD hS => ?_)
    have hF9 : (fX2_depthWalked df rf me p1) = (fX0_range me (fX2_sampleOfRow rf p1)) := by rw [fX2_depthWalked, if_pos c_5]
    have hP9 : va_P D vwCl (wW cyD cyI cyJ cyZ aw ad ak ar au ae av ab df kf rf uf st fw fo sn me vf lf sp sb no) H := hP
    have hD9 : va_D A (wW cyD cyI cyJ cyZ aw ad ak ar au ae av ab df kf rf uf st fw fo sn me vf lf sp sb no) := hD
    exact W.dret (v := (fX0_range me (fX2_sampleOfRow rf p1))) hx hb hr (fun t ht hW => ⟨⟨(fX0_range me (fX2_sampleOfRow rf p1)), (), rfl, (by rw [hF9]), by rw [ht]; exact hP9, va_K.moved hW.alike hK, hD9⟩, hS.F ht⟩) hS.2.2 dX2_depthWalked_29
  refine lv_aload_n hx hb dX2_depthWalked_8 rfl (lv_at hl 0 rfl) ?_
  refine va_get (D := D) (ci := 2) (v := .ref ad) (C := RX2) (T := TX2) (N := 8) hx hb hts (fun _ h => (List.mem_cons_of_mem _ (List.mem_append_left _ (List.mem_append_right _ h)))) hown hK hP 0 rfl rfl 1 (by decide) (hts (.fieldLink RX2 9 "BottomWalks$Walk" "depthsTold" "[D") (List.mem_of_getElem? (i := 1) rfl)) (fun _ h9 => h9) rfl dX2_depthWalked_9 ?_
  refine lv_iload_n hx hb dX2_depthWalked_12 rfl (lv_at hl 1 rfl) ?_
  refine va_dald hx hb hK hP 1 0 rfl rfl (edited_in c_5) dX2_depthWalked_13 ?_
  refine lv_goto (tgt := 29) hx hb dX2_depthWalked_14 (by decide) ?_
  have hF9 : (fX2_depthWalked df rf me p1) = (df p1.toNatClampNeg) := by rw [fX2_depthWalked, if_neg c_5]
  have hP9 : va_P D vwCl (wW cyD cyI cyJ cyZ aw ad ak ar au ae av ab df kf rf uf st fw fo sn me vf lf sp sb no) H := hP
  have hD9 : va_D A (wW cyD cyI cyJ cyZ aw ad ak ar au ae av ab df kf rf uf st fw fo sn me vf lf sp sb no) := hD
  exact W.dret (v := (df p1.toNatClampNeg)) hx hb hr (fun t ht hW => ⟨⟨(df p1.toNatClampNeg), (), rfl, (by rw [hF9]), by rw [ht]; exact hP9, va_K.moved hW.alike hK, hD9⟩, hS.F ht⟩) hS.2.2 dX2_depthWalked_29
def fX2_lowest (df : Nat → UInt64) (sn : Nat) (me : UInt64) (p1 : Int32) : Int32 := if (fX2_isEdited df p1) = 0 then (0 : Int32) else ((fX0_sampleFor sn me (df p1.toNatClampNeg)))
set_option maxHeartbeats 4000000 in
set_option maxRecDepth 100000 in
theorem c_X2_lowest {l : Launch} {D : va_G} {cyD cyI cyJ cyZ : ClassId} (aw ad ak ar au ae av ab : Nat) (df : Nat → UInt64) (kf : Nat → Int32) (rf : Nat → Int32) (uf : Nat → Int64) (st : Int32) (fw : Int32) (fo : Int32) (sn : Nat) (me : UInt64) (vf : Nat → UInt64) (lf : Nat → Int32) (sp : UInt64) (sb : UInt64) (no : UInt64) (sz : Nat) (p1 : Int32) (hE : okE sn me vf sp sb no) : mI l yX2_lowest wsX2_lowest ({ frames := 2, cells := 0, slots := 0, locals := 44 } : Room) D (kT cyD cyI cyJ cyZ) [.ref aw, .int p1] (wW cyD cyI cyJ cyZ aw ad ak ar au ae av ab df kf rf uf st fw fo sn me vf lf sp sb no) (wW cyD cyI cyJ cyZ aw ad ak ar au ae av ab df kf rf uf st fw fo sn me vf lf sp sb no) sz (fX2_lowest df sn me p1) 0 0 := by
  refine Met.ofW (cc := cX2_lowest) (maxL := 2) (ret := (some .int)) (by decide) rfl ?_
  intro p e s m args below meth c s₁ B hml hv
  obtain ⟨rfl, hN, hsz, hP, hK, hD0⟩ := hv
  have hx := B.exec
  have hb := B.bytes
  have hr := B.returns
  have hts := atoms_spec (ws := wsX2_lowest) B.pre
  have hown : s.vm.findClass RX2 = some m.cls := findClass_of_methodNamed B.named
  have hlocks := B.notSynchronized
  subst hsz
  have hD := hD0.self (sz := s.heap.size)
  generalize hAe : va_A (wW cyD cyI cyJ cyZ aw ad ak ar au ae av ab df kf rf uf st fw fo sn me vf lf sp sb no) s.heap.size = A at hD ⊢
  have hA : ∀ q : Nat, s.heap.size ≤ q → A q := fun q h => by rw [← hAe]; exact Or.inr h
  have hS : va_S A s.heap s.heap [] := va_S.rf
  have hP : va_P D vwCl (wW cyD cyI cyJ cyZ aw ad ak ar au ae av ab df kf rf uf st fw fo sn me vf lf sp sb no) s.heap := hP
  have hl := lv_entry [.ref aw, .int p1] (n := 2) (Nat.le_of_ble_eq_true rfl)
  rw [lg_entry_eq]
  generalize (lg_sl [.ref aw, .int p1] ++ List.replicate (2 - (lg_sl [.ref aw, .int p1]).length) Slot.unset).toArray = ls at hl ⊢
  have hl : lv_has ls 2 [(0, .ref aw), (1, .int p1)] := hl
  obtain ⟨H, hHe⟩ : ∃ H : Heap, H = s.heap := ⟨_, rfl⟩
  have hP : va_P D vwCl (wW cyD cyI cyJ cyZ aw ad ak ar au ae av ab df kf rf uf st fw fo sn me vf lf sp sb no) H := by rw [hHe]; exact hP
  have hS : va_S A s.heap H [] := by rw [hHe]; exact hS
  rw [← hHe]
  refine lv_aload_n hx hb dX2_lowest_0 rfl (lv_at hl 0 rfl) ?_
  refine lv_iload_n hx hb dX2_lowest_1 rfl (lv_at hl 1 rfl) ?_
  have hPc : va_P D vwCl (wW cyD cyI cyJ cyZ aw ad ak ar au ae av ab df kf rf uf st fw fo sn me vf lf sp sb no) H := hP.sub [0, 1, 2, 3, 4, 5, 6, 7] rfl
  have hDc : va_D A (wW cyD cyI cyJ cyZ aw ad ak ar au ae av ab df kf rf uf st fw fo sn me vf lf sp sb no) := hD.sub [0, 1, 2, 3, 4, 5, 6, 7] (by decide) rfl
  refine kzE (ws' := (wW cyD cyI cyJ cyZ aw ad ak ar au ae av ab df kf rf uf st fw fo sn me vf lf sp sb no)) (wc := (wW cyD cyI cyJ cyZ aw ad ak ar au ae av ab df kf rf uf st fw fo sn me vf lf sp sb no)) (wr := []) (w1 := (wW cyD cyI cyJ cyZ aw ad ak ar au ae av ab df kf rf uf st fw fo sn me vf lf sp sb no)) (va_runV (As := [.int p1]) (rest := []) ⟨hx, hb, hml, hown, hts⟩ (c_X2_isEdited (l := l) (D := D) (cyD := cyD) (cyI := cyI) (cyJ := cyJ) (cyZ := cyZ) aw ad ak ar au ae av ab df kf rf uf st fw fo sn me vf lf sp sb no H.size p1) (cwV 1 hts gX2_lowest_X2_isEdited rfl rfl rfl (by decide +kernel) ⟨Nat.le_of_ble_eq_true rfl, Nat.le_of_ble_eq_true rfl⟩) (kV (ci := 2) (q0 := 0) (q := (RX2, TX2, 8)) hN hK hPc hDc rfl rfl rfl) rfl rfl hl.1 rfl (lv_room (Nat.le_of_ble_eq_true rfl)) dX2_lowest_2 ⟨Nat.le_of_ble_eq_true rfl, Nat.le_of_ble_eq_true rfl⟩) hP hD hS hA [0, 1, 2, 3, 4, 5, 6, 7] [] [0, 1, 2, 3, 4, 5, 6, 7] rfl rfl (by decide) (by decide) rfl (by decide) (fun H locs hz_2 hP hD hS => ?_)
  refine lv_if_eq (tgt := 24) hx hb dX2_lowest_5 (by decide) (fun c_5 => ?_) (fun c_5 => ?_)
  · refine lv_iconst (v := 0) hx hb dX2_lowest_24 (by decide) ?_
    have hF9 : (fX2_lowest df sn me p1) = (0 : Int32) := by rw [fX2_lowest, if_pos c_5]
    have hP9 : va_P D vwCl (wW cyD cyI cyJ cyZ aw ad ak ar au ae av ab df kf rf uf st fw fo sn me vf lf sp sb no) H := hP
    have hD9 : va_D A (wW cyD cyI cyJ cyZ aw ad ak ar au ae av ab df kf rf uf st fw fo sn me vf lf sp sb no) := hD
    exact W.iret (v := (0 : Int32)) hx hb hr (fun t ht hW => ⟨⟨(0 : Int32), (), rfl, (by rw [hF9]), by rw [ht]; exact hP9, va_K.moved hW.alike hK, hD9⟩, hS.F ht⟩) hS.2.2 dX2_lowest_25
  refine lv_aload_n hx hb dX2_lowest_8 rfl (lv_at hl 0 rfl) ?_
  refine va_get (D := D) (ci := 2) (v := .ref ae) (C := RX2) (T := TX2) (N := 8) hx hb hts (fun _ h => (List.mem_cons_of_mem _ (List.mem_append_left _ (List.mem_append_right _ h)))) hown hK hP 0 rfl rfl 0 (by decide) (hts (.fieldLink RX2 34 "BottomWalks$Walk" "echoes" "LBottomWalks$Echoes;") (List.mem_of_getElem? (i := 1) rfl)) (fun _ h9 => h9) rfl dX2_lowest_9 ?_
  refine lv_aload_n hx hb dX2_lowest_12 rfl (lv_at hl 0 rfl) ?_
  refine va_get (D := D) (ci := 2) (v := .ref ad) (C := RX2) (T := TX2) (N := 8) hx hb hts (fun _ h => (List.mem_cons_of_mem _ (List.mem_append_left _ (List.mem_append_right _ h)))) hown hK hP 0 rfl rfl 1 (by decide) (hts (.fieldLink RX2 9 "BottomWalks$Walk" "depthsTold" "[D") (List.mem_of_getElem? (i := 2) rfl)) (fun _ h9 => h9) rfl dX2_lowest_13 ?_
  refine lv_iload_n hx hb dX2_lowest_16 rfl (lv_at hl 1 rfl) ?_
  refine va_dald hx hb hK hP 1 0 rfl rfl (edited_in c_5) dX2_lowest_17 ?_
  have hPc : va_P D vwCl (wE cyD cyI cyJ cyZ ae av ab sn me vf lf sp sb no) H := hP.sub [5, 6, 7] rfl
  have hDc : va_D A (wE cyD cyI cyJ cyZ ae av ab sn me vf lf sp sb no) := hD.sub [5, 6, 7] (by decide) rfl
  refine kiE (ws' := (wW cyD cyI cyJ cyZ aw ad ak ar au ae av ab df kf rf uf st fw fo sn me vf lf sp sb no)) (wc := (wE cyD cyI cyJ cyZ ae av ab sn me vf lf sp sb no)) (wr := [(aw, .inr (2, [.ref ae, .ref ad, .ref ak, .ref ar, .ref au, .int st, .int fw, .int fo])), (ad, .inl (cyD, 32, .inr (.inr (.inr (.inl df))))), (ak, .inl (cyZ, 32, .inl kf)), (ar, .inl (cyI, 32, .inl rf)), (au, .inl (cyJ, 32 * sn, .inr (.inl uf)))]) (w1 := (wE cyD cyI cyJ cyZ ae av ab sn me vf lf sp sb no)) (va_runV (As := [.double (df p1.toNatClampNeg)]) (rest := []) ⟨hx, hb, hml, hown, hts⟩ (c_X0_sampleFor (l := l) (D := D) (cyD := cyD) (cyI := cyI) (cyJ := cyJ) (cyZ := cyZ) ae av ab sn me vf lf sp sb no H.size (df p1.toNatClampNeg) hE) (cwV 1 hts gX2_lowest_X0_sampleFor rfl rfl rfl (by decide +kernel) ⟨Nat.le_of_ble_eq_true rfl, Nat.le_of_ble_eq_true rfl⟩) (kV (ci := 0) (q0 := 0) (q := (RX0, TX0, 7)) hN hK hPc hDc rfl rfl rfl) rfl rfl hl.1 rfl (lv_room (Nat.le_of_ble_eq_true rfl)) dX2_lowest_18 ⟨Nat.le_of_ble_eq_true rfl, Nat.le_of_ble_eq_true rfl⟩) hP hD hS hA [5, 6, 7] [0, 1, 2, 3, 4] [0, 1, 2, 3, 4, 5, 6, 7] rfl rfl (by decide) (by decide) rfl (by decide) (fun H locs hP hD hS => ?_)
  refine lv_goto (tgt := 25) hx hb dX2_lowest_21 (by decide) ?_
  have hF9 : (fX2_lowest df sn me p1) = (fX0_sampleFor sn me (df p1.toNatClampNeg)) := by rw [fX2_lowest, if_neg c_5]
  have hP9 : va_P D vwCl (wW cyD cyI cyJ cyZ aw ad ak ar au ae av ab df kf rf uf st fw fo sn me vf lf sp sb no) H := hP
  have hD9 : va_D A (wW cyD cyI cyJ cyZ aw ad ak ar au ae av ab df kf rf uf st fw fo sn me vf lf sp sb no) := hD
  exact W.iret (v := (fX0_sampleFor sn me (df p1.toNatClampNeg))) hx hb hr (fun t ht hW => ⟨⟨(fX0_sampleFor sn me (df p1.toNatClampNeg)), (), rfl, (by rw [hF9]), by rw [ht]; exact hP9, va_K.moved hW.alike hK, hD9⟩, hS.F ht⟩) hS.2.2 dX2_lowest_25
def fX2_highest (df : Nat → UInt64) (sn : Nat) (me : UInt64) (p1 : Int32) : Int32 := if (fX2_isEdited df p1) = 0 then ((nI sn) - (1 : Int32)) else ((fX0_sampleFor sn me (df p1.toNatClampNeg)))
set_option maxHeartbeats 4000000 in
set_option maxRecDepth 100000 in
theorem c_X2_highest {l : Launch} {D : va_G} {cyD cyI cyJ cyZ : ClassId} (aw ad ak ar au ae av ab : Nat) (df : Nat → UInt64) (kf : Nat → Int32) (rf : Nat → Int32) (uf : Nat → Int64) (st : Int32) (fw : Int32) (fo : Int32) (sn : Nat) (me : UInt64) (vf : Nat → UInt64) (lf : Nat → Int32) (sp : UInt64) (sb : UInt64) (no : UInt64) (sz : Nat) (p1 : Int32) (hE : okE sn me vf sp sb no) : mI l yX2_highest wsX2_highest ({ frames := 2, cells := 0, slots := 0, locals := 44 } : Room) D (kT cyD cyI cyJ cyZ) [.ref aw, .int p1] (wW cyD cyI cyJ cyZ aw ad ak ar au ae av ab df kf rf uf st fw fo sn me vf lf sp sb no) (wW cyD cyI cyJ cyZ aw ad ak ar au ae av ab df kf rf uf st fw fo sn me vf lf sp sb no) sz (fX2_highest df sn me p1) 0 0 := by
  refine Met.ofW (cc := cX2_highest) (maxL := 2) (ret := (some .int)) (by decide) rfl ?_
  intro p e s m args below meth c s₁ B hml hv
  obtain ⟨rfl, hN, hsz, hP, hK, hD0⟩ := hv
  have hx := B.exec
  have hb := B.bytes
  have hr := B.returns
  have hts := atoms_spec (ws := wsX2_highest) B.pre
  have hown : s.vm.findClass RX2 = some m.cls := findClass_of_methodNamed B.named
  have hlocks := B.notSynchronized
  subst hsz
  have hD := hD0.self (sz := s.heap.size)
  generalize hAe : va_A (wW cyD cyI cyJ cyZ aw ad ak ar au ae av ab df kf rf uf st fw fo sn me vf lf sp sb no) s.heap.size = A at hD ⊢
  have hA : ∀ q : Nat, s.heap.size ≤ q → A q := fun q h => by rw [← hAe]; exact Or.inr h
  have hS : va_S A s.heap s.heap [] := va_S.rf
  have hP : va_P D vwCl (wW cyD cyI cyJ cyZ aw ad ak ar au ae av ab df kf rf uf st fw fo sn me vf lf sp sb no) s.heap := hP
  have hl := lv_entry [.ref aw, .int p1] (n := 2) (Nat.le_of_ble_eq_true rfl)
  rw [lg_entry_eq]
  generalize (lg_sl [.ref aw, .int p1] ++ List.replicate (2 - (lg_sl [.ref aw, .int p1]).length) Slot.unset).toArray = ls at hl ⊢
  have hl : lv_has ls 2 [(0, .ref aw), (1, .int p1)] := hl
  obtain ⟨H, hHe⟩ : ∃ H : Heap, H = s.heap := ⟨_, rfl⟩
  have hP : va_P D vwCl (wW cyD cyI cyJ cyZ aw ad ak ar au ae av ab df kf rf uf st fw fo sn me vf lf sp sb no) H := by rw [hHe]; exact hP
  have hS : va_S A s.heap H [] := by rw [hHe]; exact hS
  rw [← hHe]
  refine lv_aload_n hx hb dX2_highest_0 rfl (lv_at hl 0 rfl) ?_
  refine lv_iload_n hx hb dX2_highest_1 rfl (lv_at hl 1 rfl) ?_
  have hPc : va_P D vwCl (wW cyD cyI cyJ cyZ aw ad ak ar au ae av ab df kf rf uf st fw fo sn me vf lf sp sb no) H := hP.sub [0, 1, 2, 3, 4, 5, 6, 7] rfl
  have hDc : va_D A (wW cyD cyI cyJ cyZ aw ad ak ar au ae av ab df kf rf uf st fw fo sn me vf lf sp sb no) := hD.sub [0, 1, 2, 3, 4, 5, 6, 7] (by decide) rfl
  refine kzE (ws' := (wW cyD cyI cyJ cyZ aw ad ak ar au ae av ab df kf rf uf st fw fo sn me vf lf sp sb no)) (wc := (wW cyD cyI cyJ cyZ aw ad ak ar au ae av ab df kf rf uf st fw fo sn me vf lf sp sb no)) (wr := []) (w1 := (wW cyD cyI cyJ cyZ aw ad ak ar au ae av ab df kf rf uf st fw fo sn me vf lf sp sb no)) (va_runV (As := [.int p1]) (rest := []) ⟨hx, hb, hml, hown, hts⟩ (c_X2_isEdited (l := l) (D := D) (cyD := cyD) (cyI := cyI) (cyJ := cyJ) (cyZ := cyZ) aw ad ak ar au ae av ab df kf rf uf st fw fo sn me vf lf sp sb no H.size p1) (cwV 1 hts gX2_highest_X2_isEdited rfl rfl rfl (by decide +kernel) ⟨Nat.le_of_ble_eq_true rfl, Nat.le_of_ble_eq_true rfl⟩) (kV (ci := 2) (q0 := 0) (q := (RX2, TX2, 8)) hN hK hPc hDc rfl rfl rfl) rfl rfl hl.1 rfl (lv_room (Nat.le_of_ble_eq_true rfl)) dX2_highest_2 ⟨Nat.le_of_ble_eq_true rfl, Nat.le_of_ble_eq_true rfl⟩) hP hD hS hA [0, 1, 2, 3, 4, 5, 6, 7] [] [0, 1, 2, 3, 4, 5, 6, 7] rfl rfl (by decide) (by decide) rfl (by decide) (fun H locs hz_2 hP hD hS => ?_)
  refine lv_if_eq (tgt := 24) hx hb dX2_highest_5 (by decide) (fun c_5 => ?_) (fun c_5 => ?_)
  · refine lv_aload_n hx hb dX2_highest_24 rfl (lv_at hl 0 rfl) ?_
    refine va_get (D := D) (ci := 2) (v := .ref ae) (C := RX2) (T := TX2) (N := 8) hx hb hts (fun _ h => (List.mem_cons_of_mem _ (List.mem_append_left _ (List.mem_append_right _ h)))) hown hK hP 0 rfl rfl 0 (by decide) (hts (.fieldLink RX2 34 "BottomWalks$Walk" "echoes" "LBottomWalks$Echoes;") (List.mem_of_getElem? (i := 1) rfl)) (fun _ h9 => h9) rfl dX2_highest_25 ?_
    refine va_get (D := D) (ci := 0) (v := .int (nI sn)) (C := RX0) (T := TX0) (N := 7) hx hb hts (fun _ h => (List.mem_cons_of_mem _ (List.mem_append_right _ h))) hown hK hP 5 rfl rfl 0 (by decide) (hts (.fieldLink RX2 38 "BottomWalks$Echoes" "samples" "I") (List.mem_of_getElem? (i := 3) rfl)) (fun _ h9 => h9) rfl dX2_highest_28 ?_
    refine lv_iconst (v := 1) hx hb dX2_highest_31 (by decide) ?_
    refine lv_isub hx hb dX2_highest_32 ?_
    have hF9 : (fX2_highest df sn me p1) = ((nI sn) - (1 : Int32)) := by rw [fX2_highest, if_pos c_5]
    have hP9 : va_P D vwCl (wW cyD cyI cyJ cyZ aw ad ak ar au ae av ab df kf rf uf st fw fo sn me vf lf sp sb no) H := hP
    have hD9 : va_D A (wW cyD cyI cyJ cyZ aw ad ak ar au ae av ab df kf rf uf st fw fo sn me vf lf sp sb no) := hD
    exact W.iret (v := ((nI sn) - (1 : Int32))) hx hb hr (fun t ht hW => ⟨⟨((nI sn) - (1 : Int32)), (), rfl, (by rw [hF9]), by rw [ht]; exact hP9, va_K.moved hW.alike hK, hD9⟩, hS.F ht⟩) hS.2.2 dX2_highest_33
  refine lv_aload_n hx hb dX2_highest_8 rfl (lv_at hl 0 rfl) ?_
  refine va_get (D := D) (ci := 2) (v := .ref ae) (C := RX2) (T := TX2) (N := 8) hx hb hts (fun _ h => (List.mem_cons_of_mem _ (List.mem_append_left _ (List.mem_append_right _ h)))) hown hK hP 0 rfl rfl 0 (by decide) (hts (.fieldLink RX2 34 "BottomWalks$Walk" "echoes" "LBottomWalks$Echoes;") (List.mem_of_getElem? (i := 1) rfl)) (fun _ h9 => h9) rfl dX2_highest_9 ?_
  refine lv_aload_n hx hb dX2_highest_12 rfl (lv_at hl 0 rfl) ?_
  refine va_get (D := D) (ci := 2) (v := .ref ad) (C := RX2) (T := TX2) (N := 8) hx hb hts (fun _ h => (List.mem_cons_of_mem _ (List.mem_append_left _ (List.mem_append_right _ h)))) hown hK hP 0 rfl rfl 1 (by decide) (hts (.fieldLink RX2 9 "BottomWalks$Walk" "depthsTold" "[D") (List.mem_of_getElem? (i := 2) rfl)) (fun _ h9 => h9) rfl dX2_highest_13 ?_
  refine lv_iload_n hx hb dX2_highest_16 rfl (lv_at hl 1 rfl) ?_
  refine va_dald hx hb hK hP 1 0 rfl rfl (edited_in c_5) dX2_highest_17 ?_
  have hPc : va_P D vwCl (wE cyD cyI cyJ cyZ ae av ab sn me vf lf sp sb no) H := hP.sub [5, 6, 7] rfl
  have hDc : va_D A (wE cyD cyI cyJ cyZ ae av ab sn me vf lf sp sb no) := hD.sub [5, 6, 7] (by decide) rfl
  refine kiE (ws' := (wW cyD cyI cyJ cyZ aw ad ak ar au ae av ab df kf rf uf st fw fo sn me vf lf sp sb no)) (wc := (wE cyD cyI cyJ cyZ ae av ab sn me vf lf sp sb no)) (wr := [(aw, .inr (2, [.ref ae, .ref ad, .ref ak, .ref ar, .ref au, .int st, .int fw, .int fo])), (ad, .inl (cyD, 32, .inr (.inr (.inr (.inl df))))), (ak, .inl (cyZ, 32, .inl kf)), (ar, .inl (cyI, 32, .inl rf)), (au, .inl (cyJ, 32 * sn, .inr (.inl uf)))]) (w1 := (wE cyD cyI cyJ cyZ ae av ab sn me vf lf sp sb no)) (va_runV (As := [.double (df p1.toNatClampNeg)]) (rest := []) ⟨hx, hb, hml, hown, hts⟩ (c_X0_sampleFor (l := l) (D := D) (cyD := cyD) (cyI := cyI) (cyJ := cyJ) (cyZ := cyZ) ae av ab sn me vf lf sp sb no H.size (df p1.toNatClampNeg) hE) (cwV 1 hts gX2_highest_X0_sampleFor rfl rfl rfl (by decide +kernel) ⟨Nat.le_of_ble_eq_true rfl, Nat.le_of_ble_eq_true rfl⟩) (kV (ci := 0) (q0 := 0) (q := (RX0, TX0, 7)) hN hK hPc hDc rfl rfl rfl) rfl rfl hl.1 rfl (lv_room (Nat.le_of_ble_eq_true rfl)) dX2_highest_18 ⟨Nat.le_of_ble_eq_true rfl, Nat.le_of_ble_eq_true rfl⟩) hP hD hS hA [5, 6, 7] [0, 1, 2, 3, 4] [0, 1, 2, 3, 4, 5, 6, 7] rfl rfl (by decide) (by decide) rfl (by decide) (fun H locs hP hD hS => ?_)
  refine lv_goto (tgt := 33) hx hb dX2_highest_21 (by decide) ?_
  have hF9 : (fX2_highest df sn me p1) = (fX0_sampleFor sn me (df p1.toNatClampNeg)) := by rw [fX2_highest, if_neg c_5]
  have hP9 : va_P D vwCl (wW cyD cyI cyJ cyZ aw ad ak ar au ae av ab df kf rf uf st fw fo sn me vf lf sp sb no) H := hP
  have hD9 : va_D A (wW cyD cyI cyJ cyZ aw ad ak ar au ae av ab df kf rf uf st fw fo sn me vf lf sp sb no) := hD
  exact W.iret (v := (fX0_sampleFor sn me (df p1.toNatClampNeg))) hx hb hr (fun t ht hW => ⟨⟨(fX0_sampleFor sn me (df p1.toNatClampNeg)), (), rfl, (by rw [hF9]), by rw [ht]; exact hP9, va_K.moved hW.alike hK, hD9⟩, hS.F ht⟩) hS.2.2 dX2_highest_33
theorem lowest_nI {sn : Nat} (me : UInt64) (df : Nat → UInt64) (p : Int32) (h1 : 1 ≤ sn) (h2 : sn ≤ 64) : ∃ q : Nat, q < sn ∧ fX2_lowest df sn me p = nI q := by
  unfold fX2_lowest
  by_cases c : fX2_isEdited df p = 0
  · rw [if_pos c]; exact ⟨0, by omega, rfl⟩
  · rw [if_neg c]; exact sampleFor_nI _ _ h1 h2
theorem highest_nI {sn : Nat} (me : UInt64) (df : Nat → UInt64) (p : Int32) (h1 : 1 ≤ sn) (h2 : sn ≤ 64) : ∃ q : Nat, q < sn ∧ fX2_highest df sn me p = nI q := by
  unfold fX2_highest
  by_cases c : fX2_isEdited df p = 0
  · rw [if_pos c]; exact ⟨sn - 1, by omega, nI_sub1 h1⟩
  · rw [if_neg c]; exact sampleFor_nI _ _ h1 h2
def fX2_isForWalk (df : Nat → UInt64) (sn : Nat) (vf : Nat → UInt64) (lf : Nat → Int32) (p1 : Int32) (p2 : Int32) : Int32 := if (fX2_isEdited df p2) = 0 then (if (fX0_isLost lf p2) = 0 then (if (fX0_isSilent sn vf p1 p2) = 0 then (1 : Int32) else ((0 : Int32))) else ((0 : Int32))) else ((1 : Int32))
set_option maxHeartbeats 4000000 in
set_option maxRecDepth 100000 in
theorem c_X2_isForWalk {l : Launch} {D : va_G} {cyD cyI cyJ cyZ : ClassId} (aw ad ak ar au ae av ab : Nat) (df : Nat → UInt64) (kf : Nat → Int32) (rf : Nat → Int32) (uf : Nat → Int64) (st : Int32) (fw : Int32) (fo : Int32) (sn : Nat) (me : UInt64) (vf : Nat → UInt64) (lf : Nat → Int32) (sp : UInt64) (sb : UInt64) (no : UInt64) (sz : Nat) (p1 : Int32) (p2 : Int32) (hE : okE sn me vf sp sb no) : mZ l yX2_isForWalk wsX2_isForWalk ({ frames := 3, cells := 0, slots := 0, locals := 68 } : Room) D (kT cyD cyI cyJ cyZ) [.ref aw, .int p1, .int p2] (wW cyD cyI cyJ cyZ aw ad ak ar au ae av ab df kf rf uf st fw fo sn me vf lf sp sb no) (wW cyD cyI cyJ cyZ aw ad ak ar au ae av ab df kf rf uf st fw fo sn me vf lf sp sb no) sz (fX2_isForWalk df sn vf lf p1 p2) 0 0 := by
  refine Met.ofW (cc := cX2_isForWalk) (maxL := 3) (ret := (some .boolean)) (by decide) rfl ?_
  intro p e s m args below meth c s₁ B hml hv
  obtain ⟨rfl, hN, hsz, hP, hK, hD0⟩ := hv
  have hx := B.exec
  have hb := B.bytes
  have hr := B.returns
  have hts := atoms_spec (ws := wsX2_isForWalk) B.pre
  have hown : s.vm.findClass RX2 = some m.cls := findClass_of_methodNamed B.named
  have hlocks := B.notSynchronized
  subst hsz
  have hD := hD0.self (sz := s.heap.size)
  generalize hAe : va_A (wW cyD cyI cyJ cyZ aw ad ak ar au ae av ab df kf rf uf st fw fo sn me vf lf sp sb no) s.heap.size = A at hD ⊢
  have hA : ∀ q : Nat, s.heap.size ≤ q → A q := fun q h => by rw [← hAe]; exact Or.inr h
  have hS : va_S A s.heap s.heap [] := va_S.rf
  have hP : va_P D vwCl (wW cyD cyI cyJ cyZ aw ad ak ar au ae av ab df kf rf uf st fw fo sn me vf lf sp sb no) s.heap := hP
  have hl := lv_entry [.ref aw, .int p1, .int p2] (n := 3) (Nat.le_of_ble_eq_true rfl)
  rw [lg_entry_eq]
  generalize (lg_sl [.ref aw, .int p1, .int p2] ++ List.replicate (3 - (lg_sl [.ref aw, .int p1, .int p2]).length) Slot.unset).toArray = ls at hl ⊢
  have hl : lv_has ls 3 [(0, .ref aw), (1, .int p1), (2, .int p2)] := hl
  obtain ⟨H, hHe⟩ : ∃ H : Heap, H = s.heap := ⟨_, rfl⟩
  have hP : va_P D vwCl (wW cyD cyI cyJ cyZ aw ad ak ar au ae av ab df kf rf uf st fw fo sn me vf lf sp sb no) H := by rw [hHe]; exact hP
  have hS : va_S A s.heap H [] := by rw [hHe]; exact hS
  rw [← hHe]
  refine lv_aload_n hx hb dX2_isForWalk_0 rfl (lv_at hl 0 rfl) ?_
  refine lv_iload_n hx hb dX2_isForWalk_1 rfl (lv_at hl 2 rfl) ?_
  have hPc : va_P D vwCl (wW cyD cyI cyJ cyZ aw ad ak ar au ae av ab df kf rf uf st fw fo sn me vf lf sp sb no) H := hP.sub [0, 1, 2, 3, 4, 5, 6, 7] rfl
  have hDc : va_D A (wW cyD cyI cyJ cyZ aw ad ak ar au ae av ab df kf rf uf st fw fo sn me vf lf sp sb no) := hD.sub [0, 1, 2, 3, 4, 5, 6, 7] (by decide) rfl
  refine kzE (ws' := (wW cyD cyI cyJ cyZ aw ad ak ar au ae av ab df kf rf uf st fw fo sn me vf lf sp sb no)) (wc := (wW cyD cyI cyJ cyZ aw ad ak ar au ae av ab df kf rf uf st fw fo sn me vf lf sp sb no)) (wr := []) (w1 := (wW cyD cyI cyJ cyZ aw ad ak ar au ae av ab df kf rf uf st fw fo sn me vf lf sp sb no)) (va_runV (As := [.int p2]) (rest := []) ⟨hx, hb, hml, hown, hts⟩ (c_X2_isEdited (l := l) (D := D) (cyD := cyD) (cyI := cyI) (cyJ := cyJ) (cyZ := cyZ) aw ad ak ar au ae av ab df kf rf uf st fw fo sn me vf lf sp sb no H.size p2) (cwV 1 hts gX2_isForWalk_X2_isEdited rfl rfl rfl (by decide +kernel) ⟨Nat.le_of_ble_eq_true rfl, Nat.le_of_ble_eq_true rfl⟩) (kV (ci := 2) (q0 := 0) (q := (RX2, TX2, 8)) hN hK hPc hDc rfl rfl rfl) rfl rfl hl.1 rfl (lv_room (Nat.le_of_ble_eq_true rfl)) dX2_isForWalk_2 ⟨Nat.le_of_ble_eq_true rfl, Nat.le_of_ble_eq_true rfl⟩) hP hD hS hA [0, 1, 2, 3, 4, 5, 6, 7] [] [0, 1, 2, 3, 4, 5, 6, 7] rfl rfl (by decide) (by decide) rfl (by decide) (fun H locs hz_2 hP hD hS => ?_)
  refine lv_if_ne (tgt := 31) hx hb dX2_isForWalk_5 (by decide) (fun c_5 => ?_) (fun c_5 => ?_)
  · refine lv_iconst (v := 1) hx hb dX2_isForWalk_31 (by decide) ?_
    refine lv_goto (tgt := 36) hx hb dX2_isForWalk_32 (by decide) ?_
    have hF9 : (fX2_isForWalk df sn vf lf p1 p2) = (1 : Int32) := by rw [fX2_isForWalk, if_neg c_5]
    have hP9 : va_P D vwCl (wW cyD cyI cyJ cyZ aw ad ak ar au ae av ab df kf rf uf st fw fo sn me vf lf sp sb no) H := hP
    have hD9 : va_D A (wW cyD cyI cyJ cyZ aw ad ak ar au ae av ab df kf rf uf st fw fo sn me vf lf sp sb no) := hD
    exact W.zret (v := (1 : Int32)) hx hb hr (nar_z (Or.inr rfl)) (fun t ht hW => ⟨⟨(1 : Int32), (), rfl, ⟨(by rw [hF9]), (Or.inr rfl)⟩, by rw [ht]; exact hP9, va_K.moved hW.alike hK, hD9⟩, hS.F ht⟩) hS.2.2 dX2_isForWalk_36
  refine lv_aload_n hx hb dX2_isForWalk_8 rfl (lv_at hl 0 rfl) ?_
  refine va_get (D := D) (ci := 2) (v := .ref ae) (C := RX2) (T := TX2) (N := 8) hx hb hts (fun _ h => (List.mem_cons_of_mem _ (List.mem_append_left _ (List.mem_append_right _ h)))) hown hK hP 0 rfl rfl 0 (by decide) (hts (.fieldLink RX2 34 "BottomWalks$Walk" "echoes" "LBottomWalks$Echoes;") (List.mem_of_getElem? (i := 1) rfl)) (fun _ h9 => h9) rfl dX2_isForWalk_9 ?_
  refine lv_iload_n hx hb dX2_isForWalk_12 rfl (lv_at hl 2 rfl) ?_
  have hPc : va_P D vwCl (wE cyD cyI cyJ cyZ ae av ab sn me vf lf sp sb no) H := hP.sub [5, 6, 7] rfl
  have hDc : va_D A (wE cyD cyI cyJ cyZ ae av ab sn me vf lf sp sb no) := hD.sub [5, 6, 7] (by decide) rfl
  refine kzE (ws' := (wW cyD cyI cyJ cyZ aw ad ak ar au ae av ab df kf rf uf st fw fo sn me vf lf sp sb no)) (wc := (wE cyD cyI cyJ cyZ ae av ab sn me vf lf sp sb no)) (wr := [(aw, .inr (2, [.ref ae, .ref ad, .ref ak, .ref ar, .ref au, .int st, .int fw, .int fo])), (ad, .inl (cyD, 32, .inr (.inr (.inr (.inl df))))), (ak, .inl (cyZ, 32, .inl kf)), (ar, .inl (cyI, 32, .inl rf)), (au, .inl (cyJ, 32 * sn, .inr (.inl uf)))]) (w1 := (wE cyD cyI cyJ cyZ ae av ab sn me vf lf sp sb no)) (va_runV (As := [.int p2]) (rest := []) ⟨hx, hb, hml, hown, hts⟩ (c_X0_isLost (l := l) (D := D) (cyD := cyD) (cyI := cyI) (cyJ := cyJ) (cyZ := cyZ) ae av ab sn me vf lf sp sb no H.size p2) (cwV 1 hts gX2_isForWalk_X0_isLost rfl rfl rfl (by decide +kernel) ⟨Nat.le_of_ble_eq_true rfl, Nat.le_of_ble_eq_true rfl⟩) (kV (ci := 0) (q0 := 0) (q := (RX0, TX0, 7)) hN hK hPc hDc rfl rfl rfl) rfl rfl hl.1 rfl (lv_room (Nat.le_of_ble_eq_true rfl)) dX2_isForWalk_13 ⟨Nat.le_of_ble_eq_true rfl, Nat.le_of_ble_eq_true rfl⟩) hP hD hS hA [5, 6, 7] [0, 1, 2, 3, 4] [0, 1, 2, 3, 4, 5, 6, 7] rfl rfl (by decide) (by decide) rfl (by decide) (fun H locs hz_13 hP hD hS => ?_)
  refine lv_if_ne (tgt := 35) hx hb dX2_isForWalk_16 (by decide) (fun c_16 => ?_) (fun c_16 => ?_)
  · refine lv_iconst (v := 0) hx hb dX2_isForWalk_35 (by decide) ?_
    have hF9 : (fX2_isForWalk df sn vf lf p1 p2) = (0 : Int32) := by rw [fX2_isForWalk, if_pos c_5, if_neg c_16]
    have hP9 : va_P D vwCl (wW cyD cyI cyJ cyZ aw ad ak ar au ae av ab df kf rf uf st fw fo sn me vf lf sp sb no) H := hP
    have hD9 : va_D A (wW cyD cyI cyJ cyZ aw ad ak ar au ae av ab df kf rf uf st fw fo sn me vf lf sp sb no) := hD
    exact W.zret (v := (0 : Int32)) hx hb hr (nar_z (Or.inl rfl)) (fun t ht hW => ⟨⟨(0 : Int32), (), rfl, ⟨(by rw [hF9]), (Or.inl rfl)⟩, by rw [ht]; exact hP9, va_K.moved hW.alike hK, hD9⟩, hS.F ht⟩) hS.2.2 dX2_isForWalk_36
  refine lv_aload_n hx hb dX2_isForWalk_19 rfl (lv_at hl 0 rfl) ?_
  refine va_get (D := D) (ci := 2) (v := .ref ae) (C := RX2) (T := TX2) (N := 8) hx hb hts (fun _ h => (List.mem_cons_of_mem _ (List.mem_append_left _ (List.mem_append_right _ h)))) hown hK hP 0 rfl rfl 0 (by decide) (hts (.fieldLink RX2 34 "BottomWalks$Walk" "echoes" "LBottomWalks$Echoes;") (List.mem_of_getElem? (i := 1) rfl)) (fun _ h9 => h9) rfl dX2_isForWalk_20 ?_
  refine lv_iload_n hx hb dX2_isForWalk_23 rfl (lv_at hl 1 rfl) ?_
  refine lv_iload_n hx hb dX2_isForWalk_24 rfl (lv_at hl 2 rfl) ?_
  have hPc : va_P D vwCl (wE cyD cyI cyJ cyZ ae av ab sn me vf lf sp sb no) H := hP.sub [5, 6, 7] rfl
  have hDc : va_D A (wE cyD cyI cyJ cyZ ae av ab sn me vf lf sp sb no) := hD.sub [5, 6, 7] (by decide) rfl
  refine kzE (ws' := (wW cyD cyI cyJ cyZ aw ad ak ar au ae av ab df kf rf uf st fw fo sn me vf lf sp sb no)) (wc := (wE cyD cyI cyJ cyZ ae av ab sn me vf lf sp sb no)) (wr := [(aw, .inr (2, [.ref ae, .ref ad, .ref ak, .ref ar, .ref au, .int st, .int fw, .int fo])), (ad, .inl (cyD, 32, .inr (.inr (.inr (.inl df))))), (ak, .inl (cyZ, 32, .inl kf)), (ar, .inl (cyI, 32, .inl rf)), (au, .inl (cyJ, 32 * sn, .inr (.inl uf)))]) (w1 := (wE cyD cyI cyJ cyZ ae av ab sn me vf lf sp sb no)) (va_runV (As := [.int p1, .int p2]) (rest := []) ⟨hx, hb, hml, hown, hts⟩ (c_X0_isSilent (l := l) (D := D) (cyD := cyD) (cyI := cyI) (cyJ := cyJ) (cyZ := cyZ) ae av ab sn me vf lf sp sb no H.size p1 p2 hE) (cwV 2 hts gX2_isForWalk_X0_isSilent rfl rfl rfl (by decide +kernel) ⟨Nat.le_of_ble_eq_true rfl, Nat.le_of_ble_eq_true rfl⟩) (kV (ci := 0) (q0 := 0) (q := (RX0, TX0, 7)) hN hK hPc hDc rfl rfl rfl) rfl rfl hl.1 rfl (lv_room (Nat.le_of_ble_eq_true rfl)) dX2_isForWalk_25 ⟨Nat.le_of_ble_eq_true rfl, Nat.le_of_ble_eq_true rfl⟩) hP hD hS hA [5, 6, 7] [0, 1, 2, 3, 4] [0, 1, 2, 3, 4, 5, 6, 7] rfl rfl (by decide) (by decide) rfl (by decide) (fun H locs hz_25 hP hD hS => ?_)
  refine lv_if_ne (tgt := 35) hx hb dX2_isForWalk_28 (by decide) (fun c_28 => ?_) (fun c_28 => ?_)
  · refine lv_iconst (v := 0) hx hb dX2_isForWalk_35 (by decide) ?_
    have hF9 : (fX2_isForWalk df sn vf lf p1 p2) = (0 : Int32) := by rw [fX2_isForWalk, if_pos c_5, if_pos c_16, if_neg c_28]
    have hP9 : va_P D vwCl (wW cyD cyI cyJ cyZ aw ad ak ar au ae av ab df kf rf uf st fw fo sn me vf lf sp sb no) H := hP
    have hD9 : va_D A (wW cyD cyI cyJ cyZ aw ad ak ar au ae av ab df kf rf uf st fw fo sn me vf lf sp sb no) := hD
    exact W.zret (v := (0 : Int32)) hx hb hr (nar_z (Or.inl rfl)) (fun t ht hW => ⟨⟨(0 : Int32), (), rfl, ⟨(by rw [hF9]), (Or.inl rfl)⟩, by rw [ht]; exact hP9, va_K.moved hW.alike hK, hD9⟩, hS.F ht⟩) hS.2.2 dX2_isForWalk_36
  refine lv_iconst (v := 1) hx hb dX2_isForWalk_31 (by decide) ?_
  refine lv_goto (tgt := 36) hx hb dX2_isForWalk_32 (by decide) ?_
  have hF9 : (fX2_isForWalk df sn vf lf p1 p2) = (1 : Int32) := by rw [fX2_isForWalk, if_pos c_5, if_pos c_16, if_pos c_28]
  have hP9 : va_P D vwCl (wW cyD cyI cyJ cyZ aw ad ak ar au ae av ab df kf rf uf st fw fo sn me vf lf sp sb no) H := hP
  have hD9 : va_D A (wW cyD cyI cyJ cyZ aw ad ak ar au ae av ab df kf rf uf st fw fo sn me vf lf sp sb no) := hD
  exact W.zret (v := (1 : Int32)) hx hb hr (nar_z (Or.inr rfl)) (fun t ht hW => ⟨⟨(1 : Int32), (), rfl, ⟨(by rw [hF9]), (Or.inr rfl)⟩, by rw [ht]; exact hP9, va_K.moved hW.alike hK, hD9⟩, hS.F ht⟩) hS.2.2 dX2_isForWalk_36
def fX2_hasPing_L2 (df : Nat → UInt64) (sn : Nat) (vf : Nat → UInt64) (lf : Nat → Int32)  (p1 : Int32) (p2 : Int32) : Nat → (Int32) → Int32
  | 0, v_j => 0
  | k + 1, v_j => if p2 ≤ v_j then (0 : Int32) else (if (fX2_isForWalk df sn vf lf p1 (v_j)) = 0 then (fX2_hasPing_L2 df sn vf lf p1 p2 k ((v_j) + 1)) else ((1 : Int32)))
def fX2_hasPing (df : Nat → UInt64) (sn : Nat) (vf : Nat → UInt64) (lf : Nat → Int32) (p1 : Int32) (p2 : Int32) : Int32 := (fX2_hasPing_L2 df sn vf lf p1 p2 33 (0 : Int32))
set_option maxHeartbeats 4000000 in
set_option maxRecDepth 100000 in
theorem c_X2_hasPing {l : Launch} {D : va_G} {cyD cyI cyJ cyZ : ClassId} (aw ad ak ar au ae av ab : Nat) (df : Nat → UInt64) (kf : Nat → Int32) (rf : Nat → Int32) (uf : Nat → Int64) (st : Int32) (fw : Int32) (fo : Int32) (sn : Nat) (me : UInt64) (vf : Nat → UInt64) (lf : Nat → Int32) (sp : UInt64) (sb : UInt64) (no : UInt64) (sz : Nat) (p1 : Int32) (p2 : Int32) (hE : okE sn me vf sp sb no) (q : Nat) (hp2 : p2 = nI q) (hq : q ≤ 32) : mZ l yX2_hasPing wsX2_hasPing ({ frames := 4, cells := 0, slots := 0, locals := 90 } : Room) D (kT cyD cyI cyJ cyZ) [.ref aw, .int p1, .int p2] (wW cyD cyI cyJ cyZ aw ad ak ar au ae av ab df kf rf uf st fw fo sn me vf lf sp sb no) (wW cyD cyI cyJ cyZ aw ad ak ar au ae av ab df kf rf uf st fw fo sn me vf lf sp sb no) sz (fX2_hasPing df sn vf lf p1 p2) 0 0 := by
  refine Met.ofW (cc := cX2_hasPing) (maxL := 4) (ret := (some .boolean)) (by decide) rfl ?_
  intro p e s m args below meth c s₁ B hml hv
  obtain ⟨rfl, hN, hsz, hP, hK, hD0⟩ := hv
  have hx := B.exec
  have hb := B.bytes
  have hr := B.returns
  have hts := atoms_spec (ws := wsX2_hasPing) B.pre
  have hown : s.vm.findClass RX2 = some m.cls := findClass_of_methodNamed B.named
  have hlocks := B.notSynchronized
  subst hsz
  have hD := hD0.self (sz := s.heap.size)
  generalize hAe : va_A (wW cyD cyI cyJ cyZ aw ad ak ar au ae av ab df kf rf uf st fw fo sn me vf lf sp sb no) s.heap.size = A at hD ⊢
  have hA : ∀ q : Nat, s.heap.size ≤ q → A q := fun q h => by rw [← hAe]; exact Or.inr h
  have hS : va_S A s.heap s.heap [] := va_S.rf
  have hP : va_P D vwCl (wW cyD cyI cyJ cyZ aw ad ak ar au ae av ab df kf rf uf st fw fo sn me vf lf sp sb no) s.heap := hP
  have hl := lv_entry [.ref aw, .int p1, .int p2] (n := 4) (Nat.le_of_ble_eq_true rfl)
  rw [lg_entry_eq]
  generalize (lg_sl [.ref aw, .int p1, .int p2] ++ List.replicate (4 - (lg_sl [.ref aw, .int p1, .int p2]).length) Slot.unset).toArray = ls at hl ⊢
  have hl : lv_has ls 4 [(0, .ref aw), (1, .int p1), (2, .int p2)] := hl
  obtain ⟨H, hHe⟩ : ∃ H : Heap, H = s.heap := ⟨_, rfl⟩
  have hP : va_P D vwCl (wW cyD cyI cyJ cyZ aw ad ak ar au ae av ab df kf rf uf st fw fo sn me vf lf sp sb no) H := by rw [hHe]; exact hP
  have hS : va_S A s.heap H [] := by rw [hHe]; exact hS
  rw [← hHe]
  refine lv_iconst (v := 0) hx hb dX2_hasPing_0 (by decide) ?_
  refine lv_istore_n (lv' := [(3, .int (0 : Int32)), (0, .ref aw), (1, .int p1), (2, .int p2)]) hx hb dX2_hasPing_1 rfl hl (by decide) rfl (fun ls hl => ?_)
  have loop_2 : ∀ (k : Nat) (j : Nat) (H : Heap) (locs : List Loc), (j + k = 33) → (j ≤ q) → (fX2_hasPing df sn vf lf p1 p2) = fX2_hasPing_L2 df sn vf lf p1 p2 k ((nI j)) → va_P D vwCl (wW cyD cyI cyJ cyZ aw ad ak ar au ae av ab df kf rf uf st fw fo sn me vf lf sp sb no) H → va_D A (wW cyD cyI cyJ cyZ aw ad ak ar au ae av ab df kf rf uf st fw fo sn me vf lf sp sb no) → va_S A s.heap H locs → ∀ ls, lv_has ls 4 [(3, .int ((nI j))), (0, .ref aw), (1, .int p1), (2, .int p2)] → W p l e (headSpec wsX2_hasPing ({ frames := 4, cells := 0, slots := 0, locals := 90 } : Room)).room s m ([.ref aw, .int p1, .int p2] : List Value).toArray below meth c H locs 0 0 (MQ below (va_Qi (fun (r : Int32) (_ : Unit) => r = (fX2_hasPing df sn vf lf p1 p2) ∧ (r = 0 ∨ r = 1)) (kE D (kT cyD cyI cyJ cyZ) (wW cyD cyI cyJ cyZ aw ad ak ar au ae av ab df kf rf uf st fw fo sn me vf lf sp sb no) A) A) ([.ref aw, .int p1, .int p2] : List Value).toArray s 0 0 A) (F0 m 2 ls []) := by
    intro k
    induction k with
    | zero => intro j H locs hj hj2 hF hP hD hS ls hl; exact absurd hq (by omega)
    | succ k ih =>
      intro j H locs hj hj2 hF hP hD hS ls hl
      refine lv_iload_n hx hb dX2_hasPing_2 rfl (lv_at hl 0 rfl) ?_
      refine lv_iload_n hx hb dX2_hasPing_3 rfl (lv_at hl 3 rfl) ?_
      refine lv_icmp_ge (tgt := 24) hx hb dX2_hasPing_4 (by decide) (fun c_4 => ?_) (fun c_4 => ?_)
      · refine lv_iconst (v := 0) hx hb dX2_hasPing_24 (by decide) ?_
        have hF9 : (fX2_hasPing df sn vf lf p1 p2) = (0 : Int32) := by rw [hF, fX2_hasPing_L2, if_pos c_4]
        have hP9 : va_P D vwCl (wW cyD cyI cyJ cyZ aw ad ak ar au ae av ab df kf rf uf st fw fo sn me vf lf sp sb no) H := hP
        have hD9 : va_D A (wW cyD cyI cyJ cyZ aw ad ak ar au ae av ab df kf rf uf st fw fo sn me vf lf sp sb no) := hD
        exact W.zret (v := (0 : Int32)) hx hb hr (nar_z (Or.inl rfl)) (fun t ht hW => ⟨⟨(0 : Int32), (), rfl, ⟨(by rw [hF9]), (Or.inl rfl)⟩, by rw [ht]; exact hP9, va_K.moved hW.alike hK, hD9⟩, hS.F ht⟩) hS.2.2 dX2_hasPing_25
      refine lv_aload_n hx hb dX2_hasPing_7 rfl (lv_at hl 1 rfl) ?_
      refine lv_iload_n hx hb dX2_hasPing_8 rfl (lv_at hl 2 rfl) ?_
      refine lv_iload_n hx hb dX2_hasPing_9 rfl (lv_at hl 0 rfl) ?_
      have hPc : va_P D vwCl (wW cyD cyI cyJ cyZ aw ad ak ar au ae av ab df kf rf uf st fw fo sn me vf lf sp sb no) H := hP.sub [0, 1, 2, 3, 4, 5, 6, 7] rfl
      have hDc : va_D A (wW cyD cyI cyJ cyZ aw ad ak ar au ae av ab df kf rf uf st fw fo sn me vf lf sp sb no) := hD.sub [0, 1, 2, 3, 4, 5, 6, 7] (by decide) rfl
      refine kzE (ws' := (wW cyD cyI cyJ cyZ aw ad ak ar au ae av ab df kf rf uf st fw fo sn me vf lf sp sb no)) (wc := (wW cyD cyI cyJ cyZ aw ad ak ar au ae av ab df kf rf uf st fw fo sn me vf lf sp sb no)) (wr := []) (w1 := (wW cyD cyI cyJ cyZ aw ad ak ar au ae av ab df kf rf uf st fw fo sn me vf lf sp sb no)) (va_runV (As := [.int p1, .int ((nI j))]) (rest := []) ⟨hx, hb, hml, hown, hts⟩ (c_X2_isForWalk (l := l) (D := D) (cyD := cyD) (cyI := cyI) (cyJ := cyJ) (cyZ := cyZ) aw ad ak ar au ae av ab df kf rf uf st fw fo sn me vf lf sp sb no H.size p1 ((nI j)) hE) (cwV 2 hts gX2_hasPing_X2_isForWalk rfl rfl rfl (by decide +kernel) ⟨Nat.le_of_ble_eq_true rfl, Nat.le_of_ble_eq_true rfl⟩) (kV (ci := 2) (q0 := 0) (q := (RX2, TX2, 8)) hN hK hPc hDc rfl rfl rfl) rfl rfl hl.1 rfl (lv_room (Nat.le_of_ble_eq_true rfl)) dX2_hasPing_10 ⟨Nat.le_of_ble_eq_true rfl, Nat.le_of_ble_eq_true rfl⟩) hP hD hS hA [0, 1, 2, 3, 4, 5, 6, 7] [] [0, 1, 2, 3, 4, 5, 6, 7] rfl rfl (by decide) (by decide) rfl (by decide) (fun H locs hz_10 hP hD hS => ?_)
      refine lv_if_eq (tgt := 18) hx hb dX2_hasPing_13 (by decide) (fun c_13 => ?_) (fun c_13 => ?_)
      · refine lv_iinc (v := (((nI j)) + 1)) (lv' := [(3, .int (((nI j)) + 1)), (0, .ref aw), (1, .int p1), (2, .int p2)]) hx hb dX2_hasPing_18 hl (k := 0) rfl rfl (by decide) rfl (fun ls hl => ?_)
        refine lv_goto (tgt := 2) hx hb dX2_hasPing_21 (by decide) ?_
        exact ih (j + 1) _ _ (by omega) (by rw [hp2] at c_4; have := Nat.lt_of_not_le (fun z => c_4 (nI_le z (by omega))); omega) (by rw [← nI_1 j]; rw [hF, fX2_hasPing_L2, if_neg c_4, if_pos c_13]) hP hD hS _ (by rw [← nI_1 j]; exact lv_sub hl [0, 1, 2, 3] rfl)
      refine lv_iconst (v := 1) hx hb dX2_hasPing_16 (by decide) ?_
      have hF9 : (fX2_hasPing df sn vf lf p1 p2) = (1 : Int32) := by rw [hF, fX2_hasPing_L2, if_neg c_4, if_neg c_13]
      have hP9 : va_P D vwCl (wW cyD cyI cyJ cyZ aw ad ak ar au ae av ab df kf rf uf st fw fo sn me vf lf sp sb no) H := hP
      have hD9 : va_D A (wW cyD cyI cyJ cyZ aw ad ak ar au ae av ab df kf rf uf st fw fo sn me vf lf sp sb no) := hD
      exact W.zret (v := (1 : Int32)) hx hb hr (nar_z (Or.inr rfl)) (fun t ht hW => ⟨⟨(1 : Int32), (), rfl, ⟨(by rw [hF9]), (Or.inr rfl)⟩, by rw [ht]; exact hP9, va_K.moved hW.alike hK, hD9⟩, hS.F ht⟩) hS.2.2 dX2_hasPing_17
  exact loop_2 33 0 _ _ rfl (Nat.zero_le _) (by rw [nI_0]; rw [fX2_hasPing]) hP hD hS _ (by exact lv_sub hl [0, 1, 2, 3] rfl)
def fX2_neighbour_L2 (kf : Nat → Int32)  (p1 : Int32) (p2 : Int32) : Nat → (Int32) → Int32
  | 0, v_j => 0
  | k + 1, v_j => if (32 : Int32) ≤ v_j then (-1 : Int32) else (if (fX2_isWalked kf (p1 + (v_j * p2))) = 0 then (fX2_neighbour_L2 kf p1 p2 k ((v_j) + 1)) else ((p1 + (v_j * p2))))
def fX2_neighbour (kf : Nat → Int32) (p1 : Int32) (p2 : Int32) : Int32 := (fX2_neighbour_L2 kf p1 p2 32 (1 : Int32))
set_option maxHeartbeats 4000000 in
set_option maxRecDepth 100000 in
theorem c_X2_neighbour {l : Launch} {D : va_G} {cyD cyI cyJ cyZ : ClassId} (aw ad ak ar au ae av ab : Nat) (df : Nat → UInt64) (kf : Nat → Int32) (rf : Nat → Int32) (uf : Nat → Int64) (st : Int32) (fw : Int32) (fo : Int32) (sn : Nat) (me : UInt64) (vf : Nat → UInt64) (lf : Nat → Int32) (sp : UInt64) (sb : UInt64) (no : UInt64) (sz : Nat) (p1 : Int32) (p2 : Int32)  : mI l yX2_neighbour wsX2_neighbour ({ frames := 2, cells := 0, slots := 0, locals := 41 } : Room) D (kT cyD cyI cyJ cyZ) [.ref aw, .int p1, .int p2] (wW cyD cyI cyJ cyZ aw ad ak ar au ae av ab df kf rf uf st fw fo sn me vf lf sp sb no) (wW cyD cyI cyJ cyZ aw ad ak ar au ae av ab df kf rf uf st fw fo sn me vf lf sp sb no) sz (fX2_neighbour kf p1 p2) 0 0 := by
  refine Met.ofW (cc := cX2_neighbour) (maxL := 4) (ret := (some .int)) (by decide) rfl ?_
  intro p e s m args below meth c s₁ B hml hv
  obtain ⟨rfl, hN, hsz, hP, hK, hD0⟩ := hv
  have hx := B.exec
  have hb := B.bytes
  have hr := B.returns
  have hts := atoms_spec (ws := wsX2_neighbour) B.pre
  have hown : s.vm.findClass RX2 = some m.cls := findClass_of_methodNamed B.named
  have hlocks := B.notSynchronized
  subst hsz
  have hD := hD0.self (sz := s.heap.size)
  generalize hAe : va_A (wW cyD cyI cyJ cyZ aw ad ak ar au ae av ab df kf rf uf st fw fo sn me vf lf sp sb no) s.heap.size = A at hD ⊢
  have hA : ∀ q : Nat, s.heap.size ≤ q → A q := fun q h => by rw [← hAe]; exact Or.inr h
  have hS : va_S A s.heap s.heap [] := va_S.rf
  have hP : va_P D vwCl (wW cyD cyI cyJ cyZ aw ad ak ar au ae av ab df kf rf uf st fw fo sn me vf lf sp sb no) s.heap := hP
  have hl := lv_entry [.ref aw, .int p1, .int p2] (n := 4) (Nat.le_of_ble_eq_true rfl)
  rw [lg_entry_eq]
  generalize (lg_sl [.ref aw, .int p1, .int p2] ++ List.replicate (4 - (lg_sl [.ref aw, .int p1, .int p2]).length) Slot.unset).toArray = ls at hl ⊢
  have hl : lv_has ls 4 [(0, .ref aw), (1, .int p1), (2, .int p2)] := hl
  obtain ⟨H, hHe⟩ : ∃ H : Heap, H = s.heap := ⟨_, rfl⟩
  have hP : va_P D vwCl (wW cyD cyI cyJ cyZ aw ad ak ar au ae av ab df kf rf uf st fw fo sn me vf lf sp sb no) H := by rw [hHe]; exact hP
  have hS : va_S A s.heap H [] := by rw [hHe]; exact hS
  rw [← hHe]
  refine lv_iconst (v := 1) hx hb dX2_neighbour_0 (by decide) ?_
  refine lv_istore_n (lv' := [(3, .int (1 : Int32)), (0, .ref aw), (1, .int p1), (2, .int p2)]) hx hb dX2_neighbour_1 rfl hl (by decide) rfl (fun ls hl => ?_)
  have loop_2 : ∀ (k : Nat) (j : Nat) (H : Heap) (locs : List Loc), (j + k = 33) → (j ≤ 32) → (fX2_neighbour kf p1 p2) = fX2_neighbour_L2 kf p1 p2 k ((nI j)) → va_P D vwCl (wW cyD cyI cyJ cyZ aw ad ak ar au ae av ab df kf rf uf st fw fo sn me vf lf sp sb no) H → va_D A (wW cyD cyI cyJ cyZ aw ad ak ar au ae av ab df kf rf uf st fw fo sn me vf lf sp sb no) → va_S A s.heap H locs → ∀ ls, lv_has ls 4 [(3, .int ((nI j))), (0, .ref aw), (1, .int p1), (2, .int p2)] → W p l e (headSpec wsX2_neighbour ({ frames := 2, cells := 0, slots := 0, locals := 41 } : Room)).room s m ([.ref aw, .int p1, .int p2] : List Value).toArray below meth c H locs 0 0 (MQ below (va_Qi (fun (r : Int32) (_ : Unit) => r = (fX2_neighbour kf p1 p2)) (kE D (kT cyD cyI cyJ cyZ) (wW cyD cyI cyJ cyZ aw ad ak ar au ae av ab df kf rf uf st fw fo sn me vf lf sp sb no) A) A) ([.ref aw, .int p1, .int p2] : List Value).toArray s 0 0 A) (F0 m 2 ls []) := by
    intro k
    induction k with
    | zero => intro j H locs hj hj2 hF hP hD hS ls hl; exact absurd hj2 (by omega)
    | succ k ih =>
      intro j H locs hj hj2 hF hP hD hS ls hl
      refine lv_iload_n hx hb dX2_neighbour_2 rfl (lv_at hl 0 rfl) ?_
      refine lv_bipush (v := 32) hx hb dX2_neighbour_3 (by decide) ?_
      refine lv_icmp_ge (tgt := 32) hx hb dX2_neighbour_5 (by decide) (fun c_5 => ?_) (fun c_5 => ?_)
      · refine lv_iconst (v := (-1)) hx hb dX2_neighbour_32 (by decide) ?_
        have hF9 : (fX2_neighbour kf p1 p2) = (-1 : Int32) := by rw [hF, fX2_neighbour_L2, if_pos c_5]
        have hP9 : va_P D vwCl (wW cyD cyI cyJ cyZ aw ad ak ar au ae av ab df kf rf uf st fw fo sn me vf lf sp sb no) H := hP
        have hD9 : va_D A (wW cyD cyI cyJ cyZ aw ad ak ar au ae av ab df kf rf uf st fw fo sn me vf lf sp sb no) := hD
        exact W.iret (v := (-1 : Int32)) hx hb hr (fun t ht hW => ⟨⟨(-1 : Int32), (), rfl, (by rw [hF9]), by rw [ht]; exact hP9, va_K.moved hW.alike hK, hD9⟩, hS.F ht⟩) hS.2.2 dX2_neighbour_33
      refine lv_aload_n hx hb dX2_neighbour_8 rfl (lv_at hl 1 rfl) ?_
      refine lv_iload_n hx hb dX2_neighbour_9 rfl (lv_at hl 2 rfl) ?_
      refine lv_iload_n hx hb dX2_neighbour_10 rfl (lv_at hl 0 rfl) ?_
      refine lv_iload_n hx hb dX2_neighbour_11 rfl (lv_at hl 3 rfl) ?_
      refine lv_imul hx hb dX2_neighbour_12 ?_
      refine lv_iadd hx hb dX2_neighbour_13 ?_
      have hPc : va_P D vwCl (wW cyD cyI cyJ cyZ aw ad ak ar au ae av ab df kf rf uf st fw fo sn me vf lf sp sb no) H := hP.sub [0, 1, 2, 3, 4, 5, 6, 7] rfl
      have hDc : va_D A (wW cyD cyI cyJ cyZ aw ad ak ar au ae av ab df kf rf uf st fw fo sn me vf lf sp sb no) := hD.sub [0, 1, 2, 3, 4, 5, 6, 7] (by decide) rfl
      refine kzE (ws' := (wW cyD cyI cyJ cyZ aw ad ak ar au ae av ab df kf rf uf st fw fo sn me vf lf sp sb no)) (wc := (wW cyD cyI cyJ cyZ aw ad ak ar au ae av ab df kf rf uf st fw fo sn me vf lf sp sb no)) (wr := []) (w1 := (wW cyD cyI cyJ cyZ aw ad ak ar au ae av ab df kf rf uf st fw fo sn me vf lf sp sb no)) (va_runV (As := [.int (p1 + ((nI j) * p2))]) (rest := []) ⟨hx, hb, hml, hown, hts⟩ (c_X2_isWalked (l := l) (D := D) (cyD := cyD) (cyI := cyI) (cyJ := cyJ) (cyZ := cyZ) aw ad ak ar au ae av ab df kf rf uf st fw fo sn me vf lf sp sb no H.size (p1 + ((nI j) * p2))) (cwV 1 hts gX2_neighbour_X2_isWalked rfl rfl rfl (by decide +kernel) ⟨Nat.le_of_ble_eq_true rfl, Nat.le_of_ble_eq_true rfl⟩) (kV (ci := 2) (q0 := 0) (q := (RX2, TX2, 8)) hN hK hPc hDc rfl rfl rfl) rfl rfl hl.1 rfl (lv_room (Nat.le_of_ble_eq_true rfl)) dX2_neighbour_14 ⟨Nat.le_of_ble_eq_true rfl, Nat.le_of_ble_eq_true rfl⟩) hP hD hS hA [0, 1, 2, 3, 4, 5, 6, 7] [] [0, 1, 2, 3, 4, 5, 6, 7] rfl rfl (by decide) (by decide) rfl (by decide) (fun H locs hz_14 hP hD hS => ?_)
      refine lv_if_eq (tgt := 26) hx hb dX2_neighbour_17 (by decide) (fun c_17 => ?_) (fun c_17 => ?_)
      · refine lv_iinc (v := (((nI j)) + 1)) (lv' := [(3, .int (((nI j)) + 1)), (0, .ref aw), (1, .int p1), (2, .int p2)]) hx hb dX2_neighbour_26 hl (k := 0) rfl rfl (by decide) rfl (fun ls hl => ?_)
        refine lv_goto (tgt := 2) hx hb dX2_neighbour_29 (by decide) ?_
        exact ih (j + 1) _ _ (by omega) (by have := Nat.lt_of_not_le (fun z => c_5 (nI_le (a := 32) z (by omega))); omega) (by rw [← nI_1 j]; rw [hF, fX2_neighbour_L2, if_neg c_5, if_pos c_17]) hP hD hS _ (by rw [← nI_1 j]; exact lv_sub hl [0, 1, 2, 3] rfl)
      refine lv_iload_n hx hb dX2_neighbour_20 rfl (lv_at hl 2 rfl) ?_
      refine lv_iload_n hx hb dX2_neighbour_21 rfl (lv_at hl 0 rfl) ?_
      refine lv_iload_n hx hb dX2_neighbour_22 rfl (lv_at hl 3 rfl) ?_
      refine lv_imul hx hb dX2_neighbour_23 ?_
      refine lv_iadd hx hb dX2_neighbour_24 ?_
      have hF9 : (fX2_neighbour kf p1 p2) = (p1 + ((nI j) * p2)) := by rw [hF, fX2_neighbour_L2, if_neg c_5, if_neg c_17]
      have hP9 : va_P D vwCl (wW cyD cyI cyJ cyZ aw ad ak ar au ae av ab df kf rf uf st fw fo sn me vf lf sp sb no) H := hP
      have hD9 : va_D A (wW cyD cyI cyJ cyZ aw ad ak ar au ae av ab df kf rf uf st fw fo sn me vf lf sp sb no) := hD
      exact W.iret (v := (p1 + ((nI j) * p2))) hx hb hr (fun t ht hW => ⟨⟨(p1 + ((nI j) * p2)), (), rfl, (by rw [hF9]), by rw [ht]; exact hP9, va_K.moved hW.alike hK, hD9⟩, hS.F ht⟩) hS.2.2 dX2_neighbour_25
  exact loop_2 32 1 _ _ rfl (by decide) (by rw [nI_one]; rw [fX2_neighbour]) hP hD hS _ (by exact lv_sub hl [0, 1, 2, 3] rfl)
def fX2_isBridge (kf : Nat → Int32) (p1 : Int32) : Int32 := if (fX3_isPing p1) = 0 then (0 : Int32) else (if (fX2_isWalked kf p1) = 0 then (if (fX2_neighbour kf p1 (-1 : Int32)) = (-1 : Int32) then (0 : Int32) else (if (fX2_neighbour kf p1 (1 : Int32)) = (-1 : Int32) then (0 : Int32) else (if (4 : Int32) < ((fX2_neighbour kf p1 (1 : Int32)) - (fX2_neighbour kf p1 (-1 : Int32))) then (0 : Int32) else ((1 : Int32))))) else ((0 : Int32)))
set_option maxHeartbeats 4000000 in
set_option maxRecDepth 100000 in
theorem c_X2_isBridge {l : Launch} {D : va_G} {cyD cyI cyJ cyZ : ClassId} (aw ad ak ar au ae av ab : Nat) (df : Nat → UInt64) (kf : Nat → Int32) (rf : Nat → Int32) (uf : Nat → Int64) (st : Int32) (fw : Int32) (fo : Int32) (sn : Nat) (me : UInt64) (vf : Nat → UInt64) (lf : Nat → Int32) (sp : UInt64) (sb : UInt64) (no : UInt64) (sz : Nat) (p1 : Int32)  : mZ l yX2_isBridge wsX2_isBridge ({ frames := 3, cells := 0, slots := 0, locals := 64 } : Room) D (kT cyD cyI cyJ cyZ) [.ref aw, .int p1] (wW cyD cyI cyJ cyZ aw ad ak ar au ae av ab df kf rf uf st fw fo sn me vf lf sp sb no) (wW cyD cyI cyJ cyZ aw ad ak ar au ae av ab df kf rf uf st fw fo sn me vf lf sp sb no) sz (fX2_isBridge kf p1) 0 0 := by
  refine Met.ofW (cc := cX2_isBridge) (maxL := 4) (ret := (some .boolean)) (by decide) rfl ?_
  intro p e s m args below meth c s₁ B hml hv
  obtain ⟨rfl, hN, hsz, hP, hK, hD0⟩ := hv
  have hx := B.exec
  have hb := B.bytes
  have hr := B.returns
  have hts := atoms_spec (ws := wsX2_isBridge) B.pre
  have hown : s.vm.findClass RX2 = some m.cls := findClass_of_methodNamed B.named
  have hlocks := B.notSynchronized
  subst hsz
  have hD := hD0.self (sz := s.heap.size)
  generalize hAe : va_A (wW cyD cyI cyJ cyZ aw ad ak ar au ae av ab df kf rf uf st fw fo sn me vf lf sp sb no) s.heap.size = A at hD ⊢
  have hA : ∀ q : Nat, s.heap.size ≤ q → A q := fun q h => by rw [← hAe]; exact Or.inr h
  have hS : va_S A s.heap s.heap [] := va_S.rf
  have hP : va_P D vwCl (wW cyD cyI cyJ cyZ aw ad ak ar au ae av ab df kf rf uf st fw fo sn me vf lf sp sb no) s.heap := hP
  have hl := lv_entry [.ref aw, .int p1] (n := 4) (Nat.le_of_ble_eq_true rfl)
  rw [lg_entry_eq]
  generalize (lg_sl [.ref aw, .int p1] ++ List.replicate (4 - (lg_sl [.ref aw, .int p1]).length) Slot.unset).toArray = ls at hl ⊢
  have hl : lv_has ls 4 [(0, .ref aw), (1, .int p1)] := hl
  obtain ⟨H, hHe⟩ : ∃ H : Heap, H = s.heap := ⟨_, rfl⟩
  have hP : va_P D vwCl (wW cyD cyI cyJ cyZ aw ad ak ar au ae av ab df kf rf uf st fw fo sn me vf lf sp sb no) H := by rw [hHe]; exact hP
  have hS : va_S A s.heap H [] := by rw [hHe]; exact hS
  rw [← hHe]
  refine lv_iload_n hx hb dX2_isBridge_0 rfl (lv_at hl 1 rfl) ?_
  have hPc : va_P D vwCl [] H := hP.sub [] rfl
  have hDc : va_D A [] := hD.sub [] (by decide) rfl
  refine kzE (ws' := (wW cyD cyI cyJ cyZ aw ad ak ar au ae av ab df kf rf uf st fw fo sn me vf lf sp sb no)) (wc := []) (wr := [(aw, .inr (2, [.ref ae, .ref ad, .ref ak, .ref ar, .ref au, .int st, .int fw, .int fo])), (ad, .inl (cyD, 32, .inr (.inr (.inr (.inl df))))), (ak, .inl (cyZ, 32, .inl kf)), (ar, .inl (cyI, 32, .inl rf)), (au, .inl (cyJ, 32 * sn, .inr (.inl uf))), (ae, .inr (0, [.int (nI sn), .double me, .ref av, .ref ab, .double sp, .double sb, .double no])), (av, .inl (cyD, 128 * sn, .inr (.inr (.inr (.inl vf))))), (ab, .inl (cyZ, 32, .inl lf))]) (w1 := []) (va_runSN (As := [.int p1]) (rest := []) ⟨hx, hb, hml, hown, hts⟩ (c_X3_isPing (l := l) (D := D) (cyD := cyD) (cyI := cyI) (cyJ := cyJ) (cyZ := cyZ) H.size p1) ⟨va_cnB 1 hts gX2_isBridge_X3_isPing_n55 rfl rfl rfl hN.2.2.2.2.1 (hts (.initialized RX3) (List.mem_of_getElem? (i := 2) rfl)) (by decide +kernel) ⟨Nat.le_of_ble_eq_true rfl, Nat.le_of_ble_eq_true rfl⟩, (hts (.static yX3_isPing) (List.mem_of_getElem? (i := 1) rfl)), trivial⟩ (kS hN hK hPc hDc) rfl rfl hl.1 rfl (lv_room (Nat.le_of_ble_eq_true rfl)) dX2_isBridge_1 ⟨Nat.le_of_ble_eq_true rfl, Nat.le_of_ble_eq_true rfl⟩) hP hD hS hA [] [0, 1, 2, 3, 4, 5, 6, 7] [0, 1, 2, 3, 4, 5, 6, 7] rfl rfl (by decide) (by decide) rfl (by decide) (fun H locs hz_1 hP hD hS => ?_)
  refine lv_if_eq (tgt := 15) hx hb dX2_isBridge_4 (by decide) (fun c_4 => ?_) (fun c_4 => ?_)
  · refine lv_iconst (v := 0) hx hb dX2_isBridge_15 (by decide) ?_
    have hF9 : (fX2_isBridge kf p1) = (0 : Int32) := by rw [fX2_isBridge, if_pos c_4]
    have hP9 : va_P D vwCl (wW cyD cyI cyJ cyZ aw ad ak ar au ae av ab df kf rf uf st fw fo sn me vf lf sp sb no) H := hP
    have hD9 : va_D A (wW cyD cyI cyJ cyZ aw ad ak ar au ae av ab df kf rf uf st fw fo sn me vf lf sp sb no) := hD
    exact W.zret (v := (0 : Int32)) hx hb hr (nar_z (Or.inl rfl)) (fun t ht hW => ⟨⟨(0 : Int32), (), rfl, ⟨(by rw [hF9]), (Or.inl rfl)⟩, by rw [ht]; exact hP9, va_K.moved hW.alike hK, hD9⟩, hS.F ht⟩) hS.2.2 dX2_isBridge_16
  refine lv_aload_n hx hb dX2_isBridge_7 rfl (lv_at hl 0 rfl) ?_
  refine lv_iload_n hx hb dX2_isBridge_8 rfl (lv_at hl 1 rfl) ?_
  have hPc : va_P D vwCl (wW cyD cyI cyJ cyZ aw ad ak ar au ae av ab df kf rf uf st fw fo sn me vf lf sp sb no) H := hP.sub [0, 1, 2, 3, 4, 5, 6, 7] rfl
  have hDc : va_D A (wW cyD cyI cyJ cyZ aw ad ak ar au ae av ab df kf rf uf st fw fo sn me vf lf sp sb no) := hD.sub [0, 1, 2, 3, 4, 5, 6, 7] (by decide) rfl
  refine kzE (ws' := (wW cyD cyI cyJ cyZ aw ad ak ar au ae av ab df kf rf uf st fw fo sn me vf lf sp sb no)) (wc := (wW cyD cyI cyJ cyZ aw ad ak ar au ae av ab df kf rf uf st fw fo sn me vf lf sp sb no)) (wr := []) (w1 := (wW cyD cyI cyJ cyZ aw ad ak ar au ae av ab df kf rf uf st fw fo sn me vf lf sp sb no)) (va_runV (As := [.int p1]) (rest := []) ⟨hx, hb, hml, hown, hts⟩ (c_X2_isWalked (l := l) (D := D) (cyD := cyD) (cyI := cyI) (cyJ := cyJ) (cyZ := cyZ) aw ad ak ar au ae av ab df kf rf uf st fw fo sn me vf lf sp sb no H.size p1) (cwV 1 hts gX2_isBridge_X2_isWalked rfl rfl rfl (by decide +kernel) ⟨Nat.le_of_ble_eq_true rfl, Nat.le_of_ble_eq_true rfl⟩) (kV (ci := 2) (q0 := 0) (q := (RX2, TX2, 8)) hN hK hPc hDc rfl rfl rfl) rfl rfl hl.1 rfl (lv_room (Nat.le_of_ble_eq_true rfl)) dX2_isBridge_9 ⟨Nat.le_of_ble_eq_true rfl, Nat.le_of_ble_eq_true rfl⟩) hP hD hS hA [0, 1, 2, 3, 4, 5, 6, 7] [] [0, 1, 2, 3, 4, 5, 6, 7] rfl rfl (by decide) (by decide) rfl (by decide) (fun H locs hz_9 hP hD hS => ?_)
  refine lv_if_eq (tgt := 17) hx hb dX2_isBridge_12 (by decide) (fun c_12 => ?_) (fun c_12 => ?_)
  · refine lv_aload_n hx hb dX2_isBridge_17 rfl (lv_at hl 0 rfl) ?_
    refine lv_iload_n hx hb dX2_isBridge_18 rfl (lv_at hl 1 rfl) ?_
    refine lv_iconst (v := (-1)) hx hb dX2_isBridge_19 (by decide) ?_
    have hPc : va_P D vwCl (wW cyD cyI cyJ cyZ aw ad ak ar au ae av ab df kf rf uf st fw fo sn me vf lf sp sb no) H := hP.sub [0, 1, 2, 3, 4, 5, 6, 7] rfl
    have hDc : va_D A (wW cyD cyI cyJ cyZ aw ad ak ar au ae av ab df kf rf uf st fw fo sn me vf lf sp sb no) := hD.sub [0, 1, 2, 3, 4, 5, 6, 7] (by decide) rfl
    refine kiE (ws' := (wW cyD cyI cyJ cyZ aw ad ak ar au ae av ab df kf rf uf st fw fo sn me vf lf sp sb no)) (wc := (wW cyD cyI cyJ cyZ aw ad ak ar au ae av ab df kf rf uf st fw fo sn me vf lf sp sb no)) (wr := []) (w1 := (wW cyD cyI cyJ cyZ aw ad ak ar au ae av ab df kf rf uf st fw fo sn me vf lf sp sb no)) (va_runV (As := [.int p1, .int (-1 : Int32)]) (rest := []) ⟨hx, hb, hml, hown, hts⟩ (c_X2_neighbour (l := l) (D := D) (cyD := cyD) (cyI := cyI) (cyJ := cyJ) (cyZ := cyZ) aw ad ak ar au ae av ab df kf rf uf st fw fo sn me vf lf sp sb no H.size p1 (-1 : Int32)) (cwV 2 hts gX2_isBridge_X2_neighbour rfl rfl rfl (by decide +kernel) ⟨Nat.le_of_ble_eq_true rfl, Nat.le_of_ble_eq_true rfl⟩) (kV (ci := 2) (q0 := 0) (q := (RX2, TX2, 8)) hN hK hPc hDc rfl rfl rfl) rfl rfl hl.1 rfl (lv_room (Nat.le_of_ble_eq_true rfl)) dX2_isBridge_20 ⟨Nat.le_of_ble_eq_true rfl, Nat.le_of_ble_eq_true rfl⟩) hP hD hS hA [0, 1, 2, 3, 4, 5, 6, 7] [] [0, 1, 2, 3, 4, 5, 6, 7] rfl rfl (by decide) (by decide) rfl (by decide) (fun H locs hP hD hS => ?_)
    refine lv_istore_n (lv' := [(2, .int (fX2_neighbour kf p1 (-1 : Int32))), (0, .ref aw), (1, .int p1)]) hx hb dX2_isBridge_23 rfl hl (by decide) rfl (fun ls hl => ?_)
    refine lv_aload_n hx hb dX2_isBridge_24 rfl (lv_at hl 1 rfl) ?_
    refine lv_iload_n hx hb dX2_isBridge_25 rfl (lv_at hl 2 rfl) ?_
    refine lv_iconst (v := 1) hx hb dX2_isBridge_26 (by decide) ?_
    have hPc : va_P D vwCl (wW cyD cyI cyJ cyZ aw ad ak ar au ae av ab df kf rf uf st fw fo sn me vf lf sp sb no) H := hP.sub [0, 1, 2, 3, 4, 5, 6, 7] rfl
    have hDc : va_D A (wW cyD cyI cyJ cyZ aw ad ak ar au ae av ab df kf rf uf st fw fo sn me vf lf sp sb no) := hD.sub [0, 1, 2, 3, 4, 5, 6, 7] (by decide) rfl
    refine kiE (ws' := (wW cyD cyI cyJ cyZ aw ad ak ar au ae av ab df kf rf uf st fw fo sn me vf lf sp sb no)) (wc := (wW cyD cyI cyJ cyZ aw ad ak ar au ae av ab df kf rf uf st fw fo sn me vf lf sp sb no)) (wr := []) (w1 := (wW cyD cyI cyJ cyZ aw ad ak ar au ae av ab df kf rf uf st fw fo sn me vf lf sp sb no)) (va_runV (As := [.int p1, .int (1 : Int32)]) (rest := []) ⟨hx, hb, hml, hown, hts⟩ (c_X2_neighbour (l := l) (D := D) (cyD := cyD) (cyI := cyI) (cyJ := cyJ) (cyZ := cyZ) aw ad ak ar au ae av ab df kf rf uf st fw fo sn me vf lf sp sb no H.size p1 (1 : Int32)) (cwV 2 hts gX2_isBridge_X2_neighbour rfl rfl rfl (by decide +kernel) ⟨Nat.le_of_ble_eq_true rfl, Nat.le_of_ble_eq_true rfl⟩) (kV (ci := 2) (q0 := 0) (q := (RX2, TX2, 8)) hN hK hPc hDc rfl rfl rfl) rfl rfl hl.1 rfl (lv_room (Nat.le_of_ble_eq_true rfl)) dX2_isBridge_27 ⟨Nat.le_of_ble_eq_true rfl, Nat.le_of_ble_eq_true rfl⟩) hP hD hS hA [0, 1, 2, 3, 4, 5, 6, 7] [] [0, 1, 2, 3, 4, 5, 6, 7] rfl rfl (by decide) (by decide) rfl (by decide) (fun H locs hP hD hS => ?_)
    refine lv_istore_n (lv' := [(3, .int (fX2_neighbour kf p1 (1 : Int32))), (2, .int (fX2_neighbour kf p1 (-1 : Int32))), (0, .ref aw), (1, .int p1)]) hx hb dX2_isBridge_30 rfl hl (by decide) rfl (fun ls hl => ?_)
    refine lv_iload_n hx hb dX2_isBridge_31 rfl (lv_at hl 1 rfl) ?_
    refine lv_iconst (v := (-1)) hx hb dX2_isBridge_32 (by decide) ?_
    refine lv_icmp_eq (tgt := 52) hx hb dX2_isBridge_33 (by decide) (fun c_33 => ?_) (fun c_33 => ?_)
    · refine lv_iconst (v := 0) hx hb dX2_isBridge_52 (by decide) ?_
      have hF9 : (fX2_isBridge kf p1) = (0 : Int32) := by rw [fX2_isBridge, if_neg c_4, if_pos c_12, if_pos c_33]
      have hP9 : va_P D vwCl (wW cyD cyI cyJ cyZ aw ad ak ar au ae av ab df kf rf uf st fw fo sn me vf lf sp sb no) H := hP
      have hD9 : va_D A (wW cyD cyI cyJ cyZ aw ad ak ar au ae av ab df kf rf uf st fw fo sn me vf lf sp sb no) := hD
      exact W.zret (v := (0 : Int32)) hx hb hr (nar_z (Or.inl rfl)) (fun t ht hW => ⟨⟨(0 : Int32), (), rfl, ⟨(by rw [hF9]), (Or.inl rfl)⟩, by rw [ht]; exact hP9, va_K.moved hW.alike hK, hD9⟩, hS.F ht⟩) hS.2.2 dX2_isBridge_53
    refine lv_iload_n hx hb dX2_isBridge_36 rfl (lv_at hl 0 rfl) ?_
    refine lv_iconst (v := (-1)) hx hb dX2_isBridge_37 (by decide) ?_
    refine lv_icmp_eq (tgt := 52) hx hb dX2_isBridge_38 (by decide) (fun c_38 => ?_) (fun c_38 => ?_)
    · refine lv_iconst (v := 0) hx hb dX2_isBridge_52 (by decide) ?_
      have hF9 : (fX2_isBridge kf p1) = (0 : Int32) := by rw [fX2_isBridge, if_neg c_4, if_pos c_12, if_neg c_33, if_pos c_38]
      have hP9 : va_P D vwCl (wW cyD cyI cyJ cyZ aw ad ak ar au ae av ab df kf rf uf st fw fo sn me vf lf sp sb no) H := hP
      have hD9 : va_D A (wW cyD cyI cyJ cyZ aw ad ak ar au ae av ab df kf rf uf st fw fo sn me vf lf sp sb no) := hD
      exact W.zret (v := (0 : Int32)) hx hb hr (nar_z (Or.inl rfl)) (fun t ht hW => ⟨⟨(0 : Int32), (), rfl, ⟨(by rw [hF9]), (Or.inl rfl)⟩, by rw [ht]; exact hP9, va_K.moved hW.alike hK, hD9⟩, hS.F ht⟩) hS.2.2 dX2_isBridge_53
    refine lv_iload_n hx hb dX2_isBridge_41 rfl (lv_at hl 0 rfl) ?_
    refine lv_iload_n hx hb dX2_isBridge_42 rfl (lv_at hl 1 rfl) ?_
    refine lv_isub hx hb dX2_isBridge_43 ?_
    refine lv_iconst (v := 4) hx hb dX2_isBridge_44 (by decide) ?_
    refine lv_icmp_gt (tgt := 52) hx hb dX2_isBridge_45 (by decide) (fun c_45 => ?_) (fun c_45 => ?_)
    · refine lv_iconst (v := 0) hx hb dX2_isBridge_52 (by decide) ?_
      have hF9 : (fX2_isBridge kf p1) = (0 : Int32) := by rw [fX2_isBridge, if_neg c_4, if_pos c_12, if_neg c_33, if_neg c_38, if_pos c_45]
      have hP9 : va_P D vwCl (wW cyD cyI cyJ cyZ aw ad ak ar au ae av ab df kf rf uf st fw fo sn me vf lf sp sb no) H := hP
      have hD9 : va_D A (wW cyD cyI cyJ cyZ aw ad ak ar au ae av ab df kf rf uf st fw fo sn me vf lf sp sb no) := hD
      exact W.zret (v := (0 : Int32)) hx hb hr (nar_z (Or.inl rfl)) (fun t ht hW => ⟨⟨(0 : Int32), (), rfl, ⟨(by rw [hF9]), (Or.inl rfl)⟩, by rw [ht]; exact hP9, va_K.moved hW.alike hK, hD9⟩, hS.F ht⟩) hS.2.2 dX2_isBridge_53
    refine lv_iconst (v := 1) hx hb dX2_isBridge_48 (by decide) ?_
    refine lv_goto (tgt := 53) hx hb dX2_isBridge_49 (by decide) ?_
    have hF9 : (fX2_isBridge kf p1) = (1 : Int32) := by rw [fX2_isBridge, if_neg c_4, if_pos c_12, if_neg c_33, if_neg c_38, if_neg c_45]
    have hP9 : va_P D vwCl (wW cyD cyI cyJ cyZ aw ad ak ar au ae av ab df kf rf uf st fw fo sn me vf lf sp sb no) H := hP
    have hD9 : va_D A (wW cyD cyI cyJ cyZ aw ad ak ar au ae av ab df kf rf uf st fw fo sn me vf lf sp sb no) := hD
    exact W.zret (v := (1 : Int32)) hx hb hr (nar_z (Or.inr rfl)) (fun t ht hW => ⟨⟨(1 : Int32), (), rfl, ⟨(by rw [hF9]), (Or.inr rfl)⟩, by rw [ht]; exact hP9, va_K.moved hW.alike hK, hD9⟩, hS.F ht⟩) hS.2.2 dX2_isBridge_53
  refine lv_iconst (v := 0) hx hb dX2_isBridge_15 (by decide) ?_
  have hF9 : (fX2_isBridge kf p1) = (0 : Int32) := by rw [fX2_isBridge, if_neg c_4, if_neg c_12]
  have hP9 : va_P D vwCl (wW cyD cyI cyJ cyZ aw ad ak ar au ae av ab df kf rf uf st fw fo sn me vf lf sp sb no) H := hP
  have hD9 : va_D A (wW cyD cyI cyJ cyZ aw ad ak ar au ae av ab df kf rf uf st fw fo sn me vf lf sp sb no) := hD
  exact W.zret (v := (0 : Int32)) hx hb hr (nar_z (Or.inl rfl)) (fun t ht hW => ⟨⟨(0 : Int32), (), rfl, ⟨(by rw [hF9]), (Or.inl rfl)⟩, by rw [ht]; exact hP9, va_K.moved hW.alike hK, hD9⟩, hS.F ht⟩) hS.2.2 dX2_isBridge_16
def fX2_hasBottom (kf : Nat → Int32) (p1 : Int32) : Int32 := if (fX2_isWalked kf p1) = 0 then (if (fX2_isBridge kf p1) = 0 then (0 : Int32) else ((1 : Int32))) else ((1 : Int32))
set_option maxHeartbeats 4000000 in
set_option maxRecDepth 100000 in
theorem c_X2_hasBottom {l : Launch} {D : va_G} {cyD cyI cyJ cyZ : ClassId} (aw ad ak ar au ae av ab : Nat) (df : Nat → UInt64) (kf : Nat → Int32) (rf : Nat → Int32) (uf : Nat → Int64) (st : Int32) (fw : Int32) (fo : Int32) (sn : Nat) (me : UInt64) (vf : Nat → UInt64) (lf : Nat → Int32) (sp : UInt64) (sb : UInt64) (no : UInt64) (sz : Nat) (p1 : Int32)  : mZ l yX2_hasBottom wsX2_hasBottom ({ frames := 4, cells := 0, slots := 0, locals := 87 } : Room) D (kT cyD cyI cyJ cyZ) [.ref aw, .int p1] (wW cyD cyI cyJ cyZ aw ad ak ar au ae av ab df kf rf uf st fw fo sn me vf lf sp sb no) (wW cyD cyI cyJ cyZ aw ad ak ar au ae av ab df kf rf uf st fw fo sn me vf lf sp sb no) sz (fX2_hasBottom kf p1) 0 0 := by
  refine Met.ofW (cc := cX2_hasBottom) (maxL := 2) (ret := (some .boolean)) (by decide) rfl ?_
  intro p e s m args below meth c s₁ B hml hv
  obtain ⟨rfl, hN, hsz, hP, hK, hD0⟩ := hv
  have hx := B.exec
  have hb := B.bytes
  have hr := B.returns
  have hts := atoms_spec (ws := wsX2_hasBottom) B.pre
  have hown : s.vm.findClass RX2 = some m.cls := findClass_of_methodNamed B.named
  have hlocks := B.notSynchronized
  subst hsz
  have hD := hD0.self (sz := s.heap.size)
  generalize hAe : va_A (wW cyD cyI cyJ cyZ aw ad ak ar au ae av ab df kf rf uf st fw fo sn me vf lf sp sb no) s.heap.size = A at hD ⊢
  have hA : ∀ q : Nat, s.heap.size ≤ q → A q := fun q h => by rw [← hAe]; exact Or.inr h
  have hS : va_S A s.heap s.heap [] := va_S.rf
  have hP : va_P D vwCl (wW cyD cyI cyJ cyZ aw ad ak ar au ae av ab df kf rf uf st fw fo sn me vf lf sp sb no) s.heap := hP
  have hl := lv_entry [.ref aw, .int p1] (n := 2) (Nat.le_of_ble_eq_true rfl)
  rw [lg_entry_eq]
  generalize (lg_sl [.ref aw, .int p1] ++ List.replicate (2 - (lg_sl [.ref aw, .int p1]).length) Slot.unset).toArray = ls at hl ⊢
  have hl : lv_has ls 2 [(0, .ref aw), (1, .int p1)] := hl
  obtain ⟨H, hHe⟩ : ∃ H : Heap, H = s.heap := ⟨_, rfl⟩
  have hP : va_P D vwCl (wW cyD cyI cyJ cyZ aw ad ak ar au ae av ab df kf rf uf st fw fo sn me vf lf sp sb no) H := by rw [hHe]; exact hP
  have hS : va_S A s.heap H [] := by rw [hHe]; exact hS
  rw [← hHe]
  refine lv_aload_n hx hb dX2_hasBottom_0 rfl (lv_at hl 0 rfl) ?_
  refine lv_iload_n hx hb dX2_hasBottom_1 rfl (lv_at hl 1 rfl) ?_
  have hPc : va_P D vwCl (wW cyD cyI cyJ cyZ aw ad ak ar au ae av ab df kf rf uf st fw fo sn me vf lf sp sb no) H := hP.sub [0, 1, 2, 3, 4, 5, 6, 7] rfl
  have hDc : va_D A (wW cyD cyI cyJ cyZ aw ad ak ar au ae av ab df kf rf uf st fw fo sn me vf lf sp sb no) := hD.sub [0, 1, 2, 3, 4, 5, 6, 7] (by decide) rfl
  refine kzE (ws' := (wW cyD cyI cyJ cyZ aw ad ak ar au ae av ab df kf rf uf st fw fo sn me vf lf sp sb no)) (wc := (wW cyD cyI cyJ cyZ aw ad ak ar au ae av ab df kf rf uf st fw fo sn me vf lf sp sb no)) (wr := []) (w1 := (wW cyD cyI cyJ cyZ aw ad ak ar au ae av ab df kf rf uf st fw fo sn me vf lf sp sb no)) (va_runV (As := [.int p1]) (rest := []) ⟨hx, hb, hml, hown, hts⟩ (c_X2_isWalked (l := l) (D := D) (cyD := cyD) (cyI := cyI) (cyJ := cyJ) (cyZ := cyZ) aw ad ak ar au ae av ab df kf rf uf st fw fo sn me vf lf sp sb no H.size p1) (cwV 1 hts gX2_hasBottom_X2_isWalked rfl rfl rfl (by decide +kernel) ⟨Nat.le_of_ble_eq_true rfl, Nat.le_of_ble_eq_true rfl⟩) (kV (ci := 2) (q0 := 0) (q := (RX2, TX2, 8)) hN hK hPc hDc rfl rfl rfl) rfl rfl hl.1 rfl (lv_room (Nat.le_of_ble_eq_true rfl)) dX2_hasBottom_2 ⟨Nat.le_of_ble_eq_true rfl, Nat.le_of_ble_eq_true rfl⟩) hP hD hS hA [0, 1, 2, 3, 4, 5, 6, 7] [] [0, 1, 2, 3, 4, 5, 6, 7] rfl rfl (by decide) (by decide) rfl (by decide) (fun H locs hz_2 hP hD hS => ?_)
  refine lv_if_ne (tgt := 16) hx hb dX2_hasBottom_5 (by decide) (fun c_5 => ?_) (fun c_5 => ?_)
  · refine lv_iconst (v := 1) hx hb dX2_hasBottom_16 (by decide) ?_
    refine lv_goto (tgt := 21) hx hb dX2_hasBottom_17 (by decide) ?_
    have hF9 : (fX2_hasBottom kf p1) = (1 : Int32) := by rw [fX2_hasBottom, if_neg c_5]
    have hP9 : va_P D vwCl (wW cyD cyI cyJ cyZ aw ad ak ar au ae av ab df kf rf uf st fw fo sn me vf lf sp sb no) H := hP
    have hD9 : va_D A (wW cyD cyI cyJ cyZ aw ad ak ar au ae av ab df kf rf uf st fw fo sn me vf lf sp sb no) := hD
    exact W.zret (v := (1 : Int32)) hx hb hr (nar_z (Or.inr rfl)) (fun t ht hW => ⟨⟨(1 : Int32), (), rfl, ⟨(by rw [hF9]), (Or.inr rfl)⟩, by rw [ht]; exact hP9, va_K.moved hW.alike hK, hD9⟩, hS.F ht⟩) hS.2.2 dX2_hasBottom_21
  refine lv_aload_n hx hb dX2_hasBottom_8 rfl (lv_at hl 0 rfl) ?_
  refine lv_iload_n hx hb dX2_hasBottom_9 rfl (lv_at hl 1 rfl) ?_
  have hPc : va_P D vwCl (wW cyD cyI cyJ cyZ aw ad ak ar au ae av ab df kf rf uf st fw fo sn me vf lf sp sb no) H := hP.sub [0, 1, 2, 3, 4, 5, 6, 7] rfl
  have hDc : va_D A (wW cyD cyI cyJ cyZ aw ad ak ar au ae av ab df kf rf uf st fw fo sn me vf lf sp sb no) := hD.sub [0, 1, 2, 3, 4, 5, 6, 7] (by decide) rfl
  refine kzE (ws' := (wW cyD cyI cyJ cyZ aw ad ak ar au ae av ab df kf rf uf st fw fo sn me vf lf sp sb no)) (wc := (wW cyD cyI cyJ cyZ aw ad ak ar au ae av ab df kf rf uf st fw fo sn me vf lf sp sb no)) (wr := []) (w1 := (wW cyD cyI cyJ cyZ aw ad ak ar au ae av ab df kf rf uf st fw fo sn me vf lf sp sb no)) (va_runV (As := [.int p1]) (rest := []) ⟨hx, hb, hml, hown, hts⟩ (c_X2_isBridge (l := l) (D := D) (cyD := cyD) (cyI := cyI) (cyJ := cyJ) (cyZ := cyZ) aw ad ak ar au ae av ab df kf rf uf st fw fo sn me vf lf sp sb no H.size p1) (cwV 1 hts gX2_hasBottom_X2_isBridge rfl rfl rfl (by decide +kernel) ⟨Nat.le_of_ble_eq_true rfl, Nat.le_of_ble_eq_true rfl⟩) (kV (ci := 2) (q0 := 0) (q := (RX2, TX2, 8)) hN hK hPc hDc rfl rfl rfl) rfl rfl hl.1 rfl (lv_room (Nat.le_of_ble_eq_true rfl)) dX2_hasBottom_10 ⟨Nat.le_of_ble_eq_true rfl, Nat.le_of_ble_eq_true rfl⟩) hP hD hS hA [0, 1, 2, 3, 4, 5, 6, 7] [] [0, 1, 2, 3, 4, 5, 6, 7] rfl rfl (by decide) (by decide) rfl (by decide) (fun H locs hz_10 hP hD hS => ?_)
  refine lv_if_eq (tgt := 20) hx hb dX2_hasBottom_13 (by decide) (fun c_13 => ?_) (fun c_13 => ?_)
  · refine lv_iconst (v := 0) hx hb dX2_hasBottom_20 (by decide) ?_
    have hF9 : (fX2_hasBottom kf p1) = (0 : Int32) := by rw [fX2_hasBottom, if_pos c_5, if_pos c_13]
    have hP9 : va_P D vwCl (wW cyD cyI cyJ cyZ aw ad ak ar au ae av ab df kf rf uf st fw fo sn me vf lf sp sb no) H := hP
    have hD9 : va_D A (wW cyD cyI cyJ cyZ aw ad ak ar au ae av ab df kf rf uf st fw fo sn me vf lf sp sb no) := hD
    exact W.zret (v := (0 : Int32)) hx hb hr (nar_z (Or.inl rfl)) (fun t ht hW => ⟨⟨(0 : Int32), (), rfl, ⟨(by rw [hF9]), (Or.inl rfl)⟩, by rw [ht]; exact hP9, va_K.moved hW.alike hK, hD9⟩, hS.F ht⟩) hS.2.2 dX2_hasBottom_21
  refine lv_iconst (v := 1) hx hb dX2_hasBottom_16 (by decide) ?_
  refine lv_goto (tgt := 21) hx hb dX2_hasBottom_17 (by decide) ?_
  have hF9 : (fX2_hasBottom kf p1) = (1 : Int32) := by rw [fX2_hasBottom, if_pos c_5, if_neg c_13]
  have hP9 : va_P D vwCl (wW cyD cyI cyJ cyZ aw ad ak ar au ae av ab df kf rf uf st fw fo sn me vf lf sp sb no) H := hP
  have hD9 : va_D A (wW cyD cyI cyJ cyZ aw ad ak ar au ae av ab df kf rf uf st fw fo sn me vf lf sp sb no) := hD
  exact W.zret (v := (1 : Int32)) hx hb hr (nar_z (Or.inr rfl)) (fun t ht hW => ⟨⟨(1 : Int32), (), rfl, ⟨(by rw [hF9]), (Or.inr rfl)⟩, by rw [ht]; exact hP9, va_K.moved hW.alike hK, hD9⟩, hS.F ht⟩) hS.2.2 dX2_hasBottom_21
theorem sample_nI {sn : Nat} (hs : sn ≤ 64) {k : Int32} (h3 : ¬ fX0_isSample sn k = 0) : ∃ K : Nat, K < sn ∧ k = nI K := by
  unfold fX0_isSample at h3
  by_cases d1 : k < 0
  · rw [if_pos d1] at h3; exact absurd rfl h3
  rw [if_neg d1] at h3
  by_cases d2 : nI sn ≤ k
  · rw [if_pos d2] at h3; exact absurd rfl h3
  rcases pk_ix k (n := sn) (by omega) with q | q | ⟨K, hK, rfl⟩
  · exact absurd q d1
  · exact absurd q d2
  exact ⟨K, hK, rfl⟩
theorem cell_lt {sn P K : Nat} (hP : P < 32) (hK : K < sn) : P * sn + K < 32 * sn := by
  have h : P * sn ≤ 31 * sn := Nat.mul_le_mul_right _ (by omega)
  omega
theorem sumAt_in {sn : Nat} (hs : sn ≤ 64) {p k : Int32} (h1 : ¬ fX3_isPing p = 0) (h3 : ¬ fX0_isSample sn k = 0) : vp_in (p * nI sn + k) (32 * sn) := by
  obtain ⟨P, hP, rfl⟩ := vp_in_of (ping_in h1) (by decide)
  obtain ⟨K, hK, rfl⟩ := sample_nI hs h3
  rw [pk_mul, nI_add]
  exact vp_in_nI (cell_lt hP hK) (by omega)
def fX2_sumAt (uf : Nat → Int64) (sn : Nat) (p1 : Int32) (p2 : Int32) : Int64 := if (fX3_isPing p1) = 0 then (0 : Int64) else (if (fX0_isSample sn p2) = 0 then (0 : Int64) else ((uf ((p1 * (nI sn)) + p2).toNatClampNeg)))
set_option maxHeartbeats 4000000 in
set_option maxRecDepth 100000 in
theorem c_X2_sumAt {l : Launch} {D : va_G} {cyD cyI cyJ cyZ : ClassId} (aw ad ak ar au ae av ab : Nat) (df : Nat → UInt64) (kf : Nat → Int32) (rf : Nat → Int32) (uf : Nat → Int64) (st : Int32) (fw : Int32) (fo : Int32) (sn : Nat) (me : UInt64) (vf : Nat → UInt64) (lf : Nat → Int32) (sp : UInt64) (sb : UInt64) (no : UInt64) (sz : Nat) (p1 : Int32) (p2 : Int32) (hE : okE sn me vf sp sb no) : mL l yX2_sumAt wsX2_sumAt ({ frames := 1, cells := 0, slots := 0, locals := 21 } : Room) D (kT cyD cyI cyJ cyZ) [.ref aw, .int p1, .int p2] (wW cyD cyI cyJ cyZ aw ad ak ar au ae av ab df kf rf uf st fw fo sn me vf lf sp sb no) (wW cyD cyI cyJ cyZ aw ad ak ar au ae av ab df kf rf uf st fw fo sn me vf lf sp sb no) sz (fX2_sumAt uf sn p1 p2) 0 0 := by
  refine Met.ofW (cc := cX2_sumAt) (maxL := 3) (ret := (some .long)) (by decide) rfl ?_
  intro p e s m args below meth c s₁ B hml hv
  obtain ⟨rfl, hN, hsz, hP, hK, hD0⟩ := hv
  have hx := B.exec
  have hb := B.bytes
  have hr := B.returns
  have hts := atoms_spec (ws := wsX2_sumAt) B.pre
  have hown : s.vm.findClass RX2 = some m.cls := findClass_of_methodNamed B.named
  have hlocks := B.notSynchronized
  subst hsz
  have hD := hD0.self (sz := s.heap.size)
  generalize hAe : va_A (wW cyD cyI cyJ cyZ aw ad ak ar au ae av ab df kf rf uf st fw fo sn me vf lf sp sb no) s.heap.size = A at hD ⊢
  have hA : ∀ q : Nat, s.heap.size ≤ q → A q := fun q h => by rw [← hAe]; exact Or.inr h
  have hS : va_S A s.heap s.heap [] := va_S.rf
  have hP : va_P D vwCl (wW cyD cyI cyJ cyZ aw ad ak ar au ae av ab df kf rf uf st fw fo sn me vf lf sp sb no) s.heap := hP
  have hl := lv_entry [.ref aw, .int p1, .int p2] (n := 3) (Nat.le_of_ble_eq_true rfl)
  rw [lg_entry_eq]
  generalize (lg_sl [.ref aw, .int p1, .int p2] ++ List.replicate (3 - (lg_sl [.ref aw, .int p1, .int p2]).length) Slot.unset).toArray = ls at hl ⊢
  have hl : lv_has ls 3 [(0, .ref aw), (1, .int p1), (2, .int p2)] := hl
  obtain ⟨H, hHe⟩ : ∃ H : Heap, H = s.heap := ⟨_, rfl⟩
  have hP : va_P D vwCl (wW cyD cyI cyJ cyZ aw ad ak ar au ae av ab df kf rf uf st fw fo sn me vf lf sp sb no) H := by rw [hHe]; exact hP
  have hS : va_S A s.heap H [] := by rw [hHe]; exact hS
  rw [← hHe]
  refine lv_iload_n hx hb dX2_sumAt_0 rfl (lv_at hl 1 rfl) ?_
  have hPc : va_P D vwCl [] H := hP.sub [] rfl
  have hDc : va_D A [] := hD.sub [] (by decide) rfl
  refine kzE (ws' := (wW cyD cyI cyJ cyZ aw ad ak ar au ae av ab df kf rf uf st fw fo sn me vf lf sp sb no)) (wc := []) (wr := [(aw, .inr (2, [.ref ae, .ref ad, .ref ak, .ref ar, .ref au, .int st, .int fw, .int fo])), (ad, .inl (cyD, 32, .inr (.inr (.inr (.inl df))))), (ak, .inl (cyZ, 32, .inl kf)), (ar, .inl (cyI, 32, .inl rf)), (au, .inl (cyJ, 32 * sn, .inr (.inl uf))), (ae, .inr (0, [.int (nI sn), .double me, .ref av, .ref ab, .double sp, .double sb, .double no])), (av, .inl (cyD, 128 * sn, .inr (.inr (.inr (.inl vf))))), (ab, .inl (cyZ, 32, .inl lf))]) (w1 := []) (va_runSN (As := [.int p1]) (rest := []) ⟨hx, hb, hml, hown, hts⟩ (c_X3_isPing (l := l) (D := D) (cyD := cyD) (cyI := cyI) (cyJ := cyJ) (cyZ := cyZ) H.size p1) ⟨va_cnB 1 hts gX2_sumAt_X3_isPing_n55 rfl rfl rfl hN.2.2.2.2.1 (hts (.initialized RX3) (List.mem_of_getElem? (i := 5) rfl)) (by decide +kernel) ⟨Nat.le_of_ble_eq_true rfl, Nat.le_of_ble_eq_true rfl⟩, (hts (.static yX3_isPing) (List.mem_of_getElem? (i := 4) rfl)), trivial⟩ (kS hN hK hPc hDc) rfl rfl hl.1 rfl (lv_room (Nat.le_of_ble_eq_true rfl)) dX2_sumAt_1 ⟨Nat.le_of_ble_eq_true rfl, Nat.le_of_ble_eq_true rfl⟩) hP hD hS hA [] [0, 1, 2, 3, 4, 5, 6, 7] [0, 1, 2, 3, 4, 5, 6, 7] rfl rfl (by decide) (by decide) rfl (by decide) (fun H locs hz_1 hP hD hS => ?_)
  refine lv_if_eq (tgt := 37) hx hb dX2_sumAt_4 (by decide) (fun c_4 => ?_) (fun c_4 => ?_)
  · refine lv_lconst (v := 0) hx hb dX2_sumAt_37 rfl ?_
    have hF9 : (fX2_sumAt uf sn p1 p2) = (0 : Int64) := by rw [fX2_sumAt, if_pos c_4]
    have hP9 : va_P D vwCl (wW cyD cyI cyJ cyZ aw ad ak ar au ae av ab df kf rf uf st fw fo sn me vf lf sp sb no) H := hP
    have hD9 : va_D A (wW cyD cyI cyJ cyZ aw ad ak ar au ae av ab df kf rf uf st fw fo sn me vf lf sp sb no) := hD
    exact W.lret (v := (0 : Int64)) hx hb hr (fun t ht hW => ⟨⟨(0 : Int64), (), rfl, (by rw [hF9]), by rw [ht]; exact hP9, va_K.moved hW.alike hK, hD9⟩, hS.F ht⟩) hS.2.2 dX2_sumAt_38
  refine lv_aload_n hx hb dX2_sumAt_7 rfl (lv_at hl 0 rfl) ?_
  refine va_get (D := D) (ci := 2) (v := .ref ae) (C := RX2) (T := TX2) (N := 8) hx hb hts (fun _ h => (List.mem_cons_of_mem _ (List.mem_append_left _ (List.mem_append_right _ h)))) hown hK hP 0 rfl rfl 0 (by decide) (hts (.fieldLink RX2 34 "BottomWalks$Walk" "echoes" "LBottomWalks$Echoes;") (List.mem_of_getElem? (i := 1) rfl)) (fun _ h9 => h9) rfl dX2_sumAt_8 ?_
  refine lv_iload_n hx hb dX2_sumAt_11 rfl (lv_at hl 2 rfl) ?_
  have hPc : va_P D vwCl (wE cyD cyI cyJ cyZ ae av ab sn me vf lf sp sb no) H := hP.sub [5, 6, 7] rfl
  have hDc : va_D A (wE cyD cyI cyJ cyZ ae av ab sn me vf lf sp sb no) := hD.sub [5, 6, 7] (by decide) rfl
  refine kzE (ws' := (wW cyD cyI cyJ cyZ aw ad ak ar au ae av ab df kf rf uf st fw fo sn me vf lf sp sb no)) (wc := (wE cyD cyI cyJ cyZ ae av ab sn me vf lf sp sb no)) (wr := [(aw, .inr (2, [.ref ae, .ref ad, .ref ak, .ref ar, .ref au, .int st, .int fw, .int fo])), (ad, .inl (cyD, 32, .inr (.inr (.inr (.inl df))))), (ak, .inl (cyZ, 32, .inl kf)), (ar, .inl (cyI, 32, .inl rf)), (au, .inl (cyJ, 32 * sn, .inr (.inl uf)))]) (w1 := (wE cyD cyI cyJ cyZ ae av ab sn me vf lf sp sb no)) (va_runV (As := [.int p2]) (rest := []) ⟨hx, hb, hml, hown, hts⟩ (c_X0_isSample (l := l) (D := D) (cyD := cyD) (cyI := cyI) (cyJ := cyJ) (cyZ := cyZ) ae av ab sn me vf lf sp sb no H.size p2) (cwV 1 hts gX2_sumAt_X0_isSample rfl rfl rfl (by decide +kernel) ⟨Nat.le_of_ble_eq_true rfl, Nat.le_of_ble_eq_true rfl⟩) (kV (ci := 0) (q0 := 0) (q := (RX0, TX0, 7)) hN hK hPc hDc rfl rfl rfl) rfl rfl hl.1 rfl (lv_room (Nat.le_of_ble_eq_true rfl)) dX2_sumAt_12 ⟨Nat.le_of_ble_eq_true rfl, Nat.le_of_ble_eq_true rfl⟩) hP hD hS hA [5, 6, 7] [0, 1, 2, 3, 4] [0, 1, 2, 3, 4, 5, 6, 7] rfl rfl (by decide) (by decide) rfl (by decide) (fun H locs hz_12 hP hD hS => ?_)
  refine lv_if_eq (tgt := 37) hx hb dX2_sumAt_15 (by decide) (fun c_15 => ?_) (fun c_15 => ?_)
  · refine lv_lconst (v := 0) hx hb dX2_sumAt_37 rfl ?_
    have hF9 : (fX2_sumAt uf sn p1 p2) = (0 : Int64) := by rw [fX2_sumAt, if_neg c_4, if_pos c_15]
    have hP9 : va_P D vwCl (wW cyD cyI cyJ cyZ aw ad ak ar au ae av ab df kf rf uf st fw fo sn me vf lf sp sb no) H := hP
    have hD9 : va_D A (wW cyD cyI cyJ cyZ aw ad ak ar au ae av ab df kf rf uf st fw fo sn me vf lf sp sb no) := hD
    exact W.lret (v := (0 : Int64)) hx hb hr (fun t ht hW => ⟨⟨(0 : Int64), (), rfl, (by rw [hF9]), by rw [ht]; exact hP9, va_K.moved hW.alike hK, hD9⟩, hS.F ht⟩) hS.2.2 dX2_sumAt_38
  refine lv_aload_n hx hb dX2_sumAt_18 rfl (lv_at hl 0 rfl) ?_
  refine va_get (D := D) (ci := 2) (v := .ref au) (C := RX2) (T := TX2) (N := 8) hx hb hts (fun _ h => (List.mem_cons_of_mem _ (List.mem_append_left _ (List.mem_append_right _ h)))) hown hK hP 0 rfl rfl 4 (by decide) (hts (.fieldLink RX2 43 "BottomWalks$Walk" "sums" "[J") (List.mem_of_getElem? (i := 2) rfl)) (fun _ h9 => h9) rfl dX2_sumAt_19 ?_
  refine lv_iload_n hx hb dX2_sumAt_22 rfl (lv_at hl 1 rfl) ?_
  refine lv_aload_n hx hb dX2_sumAt_23 rfl (lv_at hl 0 rfl) ?_
  refine va_get (D := D) (ci := 2) (v := .ref ae) (C := RX2) (T := TX2) (N := 8) hx hb hts (fun _ h => (List.mem_cons_of_mem _ (List.mem_append_left _ (List.mem_append_right _ h)))) hown hK hP 0 rfl rfl 0 (by decide) (hts (.fieldLink RX2 34 "BottomWalks$Walk" "echoes" "LBottomWalks$Echoes;") (List.mem_of_getElem? (i := 1) rfl)) (fun _ h9 => h9) rfl dX2_sumAt_24 ?_
  refine va_get (D := D) (ci := 0) (v := .int (nI sn)) (C := RX0) (T := TX0) (N := 7) hx hb hts (fun _ h => (List.mem_cons_of_mem _ (List.mem_append_right _ h))) hown hK hP 5 rfl rfl 0 (by decide) (hts (.fieldLink RX2 38 "BottomWalks$Echoes" "samples" "I") (List.mem_of_getElem? (i := 3) rfl)) (fun _ h9 => h9) rfl dX2_sumAt_27 ?_
  refine lv_imul hx hb dX2_sumAt_30 ?_
  refine lv_iload_n hx hb dX2_sumAt_31 rfl (lv_at hl 2 rfl) ?_
  refine lv_iadd hx hb dX2_sumAt_32 ?_
  refine va_lald hx hb hK hP 4 2 rfl rfl (sumAt_in hE.2.1 c_4 c_15) dX2_sumAt_33 ?_
  refine lv_goto (tgt := 38) hx hb dX2_sumAt_34 (by decide) ?_
  have hF9 : (fX2_sumAt uf sn p1 p2) = (uf ((p1 * (nI sn)) + p2).toNatClampNeg) := by rw [fX2_sumAt, if_neg c_4, if_neg c_15]
  have hP9 : va_P D vwCl (wW cyD cyI cyJ cyZ aw ad ak ar au ae av ab df kf rf uf st fw fo sn me vf lf sp sb no) H := hP
  have hD9 : va_D A (wW cyD cyI cyJ cyZ aw ad ak ar au ae av ab df kf rf uf st fw fo sn me vf lf sp sb no) := hD
  exact W.lret (v := (uf ((p1 * (nI sn)) + p2).toNatClampNeg)) hx hb hr (fun t ht hW => ⟨⟨(uf ((p1 * (nI sn)) + p2).toNatClampNeg), (), rfl, (by rw [hF9]), by rw [ht]; exact hP9, va_K.moved hW.alike hK, hD9⟩, hS.F ht⟩) hS.2.2 dX2_sumAt_38
end
section
theorem dw_bd {df : Nat → UInt64} {rf : Nat → Int32} {me : UInt64} (hm : bd 1030 me) (hdf : ∀ i, i < 32 → bd 1037 (df i)) (p : Int32) : bd 1064 (fX2_depthWalked df rf me p) := by
  unfold fX2_depthWalked
  by_cases c : fX2_isEdited df p = 0
  · rw [if_pos c]; exact bd_mul (Ka := 1056) (Kb := 1030) (bd_i2d _) hm (by decide) (by decide) (by decide)
  · rw [if_neg c]; exact bd_up (vpin_bd (edited_in c) (by decide) hdf) (by decide)
theorem nb_L {kf : Nat → Int32} {p d : Int32} : ∀ (k j : Nat), j + k = 33 → 1 ≤ j → j ≤ 32 → fX2_neighbour_L2 kf p d k (nI j) = -1 ∨ ∃ q : Nat, j ≤ q ∧ q < 32 ∧ fX2_neighbour_L2 kf p d k (nI j) = p + nI q * d ∧ ¬ fX2_isWalked kf (p + nI q * d) = 0 := by
  intro k; induction k with
  | zero => intro j a b b2; omega
  | succ k ih =>
    intro j a b b2
    rw [fX2_neighbour_L2]
    by_cases c : (32 : Int32) ≤ nI j
    · rw [if_pos c]; exact Or.inl rfl
    · rw [if_neg c]
      have h := Nat.lt_of_not_le (fun z => c (nI_le (a := 32) z (by omega)))
      by_cases c2 : fX2_isWalked kf (p + nI j * d) = 0
      · rw [if_pos c2, nI_1]
        rcases ih (j + 1) (by omega) (by omega) (by omega) with e | ⟨q, q1, q2, q3⟩
        · exact Or.inl e
        · exact Or.inr ⟨q, by omega, q2, q3⟩
      · rw [if_neg c2]; exact Or.inr ⟨j, Nat.le_refl _, h, rfl, c2⟩
theorem nb_nI (kf : Nat → Int32) (p d : Int32) : fX2_neighbour kf p d = -1 ∨ ∃ q : Nat, 1 ≤ q ∧ q < 32 ∧ fX2_neighbour kf p d = p + nI q * d ∧ ¬ fX2_isWalked kf (p + nI q * d) = 0 := by
  rw [fX2_neighbour, ← nI_one]; exact nb_L 32 1 rfl (Nat.le_refl _) (by decide)
theorem i32_ring (p x y : Int32) : p + x * 1 - (p + y * (-1)) = x + y := by
  apply Int32.toBitVec_inj.mp
  simp only [Int32.toBitVec_sub, Int32.toBitVec_add, Int32.toBitVec_mul]
  have h1 : (1 : Int32).toBitVec = 1#32 := rfl
  have h2 : (-1 : Int32).toBitVec = -1#32 := rfl
  rw [h1, h2]
  generalize p.toBitVec = a
  generalize x.toBitVec = b
  generalize y.toBitVec = e
  rw [BitVec.mul_one, BitVec.mul_neg, BitVec.mul_one]
  rw [BitVec.sub_eq_add_neg, BitVec.neg_add]
  rw [BitVec.sub_eq_add_neg, BitVec.neg_neg, BitVec.add_assoc, ← BitVec.add_assoc b, BitVec.add_comm b (-a), BitVec.add_assoc (-a), ← BitVec.add_assoc a, ← BitVec.sub_eq_add_neg, BitVec.sub_self, BitVec.zero_add]
theorem i2d_lb {n : Nat} (h0 : 1 ≤ n) (h : n < 64) : lb 1023 (FP.i2d (nI n)) := by
  have := FP.Core.i2d_big (v := nI n) (by rw [nI_toInt (by omega)]; omega)
  exact ⟨this.1, this.2⟩
theorem bridge_n {kf : Nat → Int32} {p : Int32} (h : ¬ fX2_isBridge kf p = 0) : ∃ n : Nat, 2 ≤ n ∧ n < 64 ∧ fX2_neighbour kf p 1 - fX2_neighbour kf p (-1) = nI n := by
  unfold fX2_isBridge at h
  by_cases c1 : fX3_isPing p = 0
  · rw [if_pos c1] at h; exact absurd rfl h
  rw [if_neg c1] at h
  by_cases c2 : fX2_isWalked kf p = 0
  · rw [if_pos c2] at h
    by_cases c3 : fX2_neighbour kf p (-1) = -1
    · rw [if_pos c3] at h; exact absurd rfl h
    rw [if_neg c3] at h
    by_cases c4 : fX2_neighbour kf p 1 = -1
    · rw [if_pos c4] at h; exact absurd rfl h
    rcases nb_nI kf p (-1) with e | ⟨y, y1, y2, y3, _⟩
    · exact absurd e c3
    rcases nb_nI kf p 1 with e | ⟨x, x1, x2, x3, _⟩
    · exact absurd e c4
    refine ⟨x + y, by omega, by omega, ?_⟩
    rw [x3, y3, i32_ring, nI_add]
  · rw [if_neg c2] at h; exact absurd rfl h
theorem bridge_div {kf : Nat → Int32} {p : Int32} (h : ¬ fX2_isBridge kf p = 0) {t : UInt64} (ht : bd 1100 t) : bd 1101 (FP.ddiv t (FP.i2d (fX2_neighbour kf p 1 - fX2_neighbour kf p (-1)))) := by
  obtain ⟨n, h1, h2, e⟩ := bridge_n h
  rw [e]; exact bd_div ht (i2d_lb (by omega) h2) (by decide) (by decide) (by decide)
theorem over_bd {K : Nat} {a b : UInt64} (h : bd K (FP.ddiv a b)) (hK : 1 ≤ K) : bd K (fX3_over a b) := by
  unfold fX3_over
  split
  · show (0 : UInt64).toNat % 2 ^ 63 < K * 2 ^ 52
    exact Nat.mul_pos hK (by decide)
  · exact h
def fX2_depthAt (df : Nat → UInt64) (kf : Nat → Int32) (rf : Nat → Int32) (me : UInt64) (p1 : Int32) : UInt64 := if (fX2_isBridge kf p1) = 0 then (fX2_depthWalked df rf me p1) else ((FP.dadd (fX2_depthWalked df rf me (fX2_neighbour kf p1 (-1 : Int32))) (fX3_over (FP.dmul (FP.dsub (fX2_depthWalked df rf me (fX2_neighbour kf p1 (1 : Int32))) (fX2_depthWalked df rf me (fX2_neighbour kf p1 (-1 : Int32)))) (FP.i2d (p1 - (fX2_neighbour kf p1 (-1 : Int32))))) (FP.i2d ((fX2_neighbour kf p1 (1 : Int32)) - (fX2_neighbour kf p1 (-1 : Int32)))))))
set_option maxHeartbeats 4000000 in
set_option maxRecDepth 100000 in
theorem c_X2_depthAt {l : Launch} {D : va_G} {cyD cyI cyJ cyZ : ClassId} (aw ad ak ar au ae av ab : Nat) (df : Nat → UInt64) (kf : Nat → Int32) (rf : Nat → Int32) (uf : Nat → Int64) (st : Int32) (fw : Int32) (fo : Int32) (sn : Nat) (me : UInt64) (vf : Nat → UInt64) (lf : Nat → Int32) (sp : UInt64) (sb : UInt64) (no : UInt64) (sz : Nat) (p1 : Int32) (hE : okE sn me vf sp sb no) (hdf : ∀ i, i < 32 → bd 1037 (df i)) : mD l yX2_depthAt wsX2_depthAt ({ frames := 4, cells := 0, slots := 0, locals := 87 } : Room) D (kT cyD cyI cyJ cyZ) [.ref aw, .int p1] (wW cyD cyI cyJ cyZ aw ad ak ar au ae av ab df kf rf uf st fw fo sn me vf lf sp sb no) (wW cyD cyI cyJ cyZ aw ad ak ar au ae av ab df kf rf uf st fw fo sn me vf lf sp sb no) sz (fX2_depthAt df kf rf me p1) 0 0 := by
  refine Met.ofW (cc := cX2_depthAt) (maxL := 8) (ret := (some .double)) (by decide) rfl ?_
  intro p e s m args below meth c s₁ B hml hv
  obtain ⟨rfl, hN, hsz, hP, hK, hD0⟩ := hv
  have hx := B.exec
  have hb := B.bytes
  have hr := B.returns
  have hts := atoms_spec (ws := wsX2_depthAt) B.pre
  have hown : s.vm.findClass RX2 = some m.cls := findClass_of_methodNamed B.named
  have hlocks := B.notSynchronized
  subst hsz
  have hD := hD0.self (sz := s.heap.size)
  generalize hAe : va_A (wW cyD cyI cyJ cyZ aw ad ak ar au ae av ab df kf rf uf st fw fo sn me vf lf sp sb no) s.heap.size = A at hD ⊢
  have hA : ∀ q : Nat, s.heap.size ≤ q → A q := fun q h => by rw [← hAe]; exact Or.inr h
  have hS : va_S A s.heap s.heap [] := va_S.rf
  have hP : va_P D vwCl (wW cyD cyI cyJ cyZ aw ad ak ar au ae av ab df kf rf uf st fw fo sn me vf lf sp sb no) s.heap := hP
  have hl := lv_entry [.ref aw, .int p1] (n := 8) (Nat.le_of_ble_eq_true rfl)
  rw [lg_entry_eq]
  generalize (lg_sl [.ref aw, .int p1] ++ List.replicate (8 - (lg_sl [.ref aw, .int p1]).length) Slot.unset).toArray = ls at hl ⊢
  have hl : lv_has ls 8 [(0, .ref aw), (1, .int p1)] := hl
  obtain ⟨H, hHe⟩ : ∃ H : Heap, H = s.heap := ⟨_, rfl⟩
  have hP : va_P D vwCl (wW cyD cyI cyJ cyZ aw ad ak ar au ae av ab df kf rf uf st fw fo sn me vf lf sp sb no) H := by rw [hHe]; exact hP
  have hS : va_S A s.heap H [] := by rw [hHe]; exact hS
  rw [← hHe]
  refine lv_aload_n hx hb dX2_depthAt_0 rfl (lv_at hl 0 rfl) ?_
  refine lv_iload_n hx hb dX2_depthAt_1 rfl (lv_at hl 1 rfl) ?_
  have hPc : va_P D vwCl (wW cyD cyI cyJ cyZ aw ad ak ar au ae av ab df kf rf uf st fw fo sn me vf lf sp sb no) H := hP.sub [0, 1, 2, 3, 4, 5, 6, 7] rfl
  have hDc : va_D A (wW cyD cyI cyJ cyZ aw ad ak ar au ae av ab df kf rf uf st fw fo sn me vf lf sp sb no) := hD.sub [0, 1, 2, 3, 4, 5, 6, 7] (by decide) rfl
  refine kzE (ws' := (wW cyD cyI cyJ cyZ aw ad ak ar au ae av ab df kf rf uf st fw fo sn me vf lf sp sb no)) (wc := (wW cyD cyI cyJ cyZ aw ad ak ar au ae av ab df kf rf uf st fw fo sn me vf lf sp sb no)) (wr := []) (w1 := (wW cyD cyI cyJ cyZ aw ad ak ar au ae av ab df kf rf uf st fw fo sn me vf lf sp sb no)) (va_runV (As := [.int p1]) (rest := []) ⟨hx, hb, hml, hown, hts⟩ (c_X2_isBridge (l := l) (D := D) (cyD := cyD) (cyI := cyI) (cyJ := cyJ) (cyZ := cyZ) aw ad ak ar au ae av ab df kf rf uf st fw fo sn me vf lf sp sb no H.size p1) (cwV 1 hts gX2_depthAt_X2_isBridge rfl rfl rfl (by decide +kernel) ⟨Nat.le_of_ble_eq_true rfl, Nat.le_of_ble_eq_true rfl⟩) (kV (ci := 2) (q0 := 0) (q := (RX2, TX2, 8)) hN hK hPc hDc rfl rfl rfl) rfl rfl hl.1 rfl (lv_room (Nat.le_of_ble_eq_true rfl)) dX2_depthAt_2 ⟨Nat.le_of_ble_eq_true rfl, Nat.le_of_ble_eq_true rfl⟩) hP hD hS hA [0, 1, 2, 3, 4, 5, 6, 7] [] [0, 1, 2, 3, 4, 5, 6, 7] rfl rfl (by decide) (by decide) rfl (by decide) (fun H locs hz_2 hP hD hS => ?_)
  refine lv_if_ne (tgt := 14) hx hb dX2_depthAt_5 (by decide) (fun c_5 => ?_) (fun c_5 => ?_)
  · refine lv_aload_n hx hb dX2_depthAt_14 rfl (lv_at hl 0 rfl) ?_
    refine lv_iload_n hx hb dX2_depthAt_15 rfl (lv_at hl 1 rfl) ?_
    refine lv_iconst (v := (-1)) hx hb dX2_depthAt_16 (by decide) ?_
    have hPc : va_P D vwCl (wW cyD cyI cyJ cyZ aw ad ak ar au ae av ab df kf rf uf st fw fo sn me vf lf sp sb no) H := hP.sub [0, 1, 2, 3, 4, 5, 6, 7] rfl
    have hDc : va_D A (wW cyD cyI cyJ cyZ aw ad ak ar au ae av ab df kf rf uf st fw fo sn me vf lf sp sb no) := hD.sub [0, 1, 2, 3, 4, 5, 6, 7] (by decide) rfl
    refine kiE (ws' := (wW cyD cyI cyJ cyZ aw ad ak ar au ae av ab df kf rf uf st fw fo sn me vf lf sp sb no)) (wc := (wW cyD cyI cyJ cyZ aw ad ak ar au ae av ab df kf rf uf st fw fo sn me vf lf sp sb no)) (wr := []) (w1 := (wW cyD cyI cyJ cyZ aw ad ak ar au ae av ab df kf rf uf st fw fo sn me vf lf sp sb no)) (va_runV (As := [.int p1, .int (-1 : Int32)]) (rest := []) ⟨hx, hb, hml, hown, hts⟩ (c_X2_neighbour (l := l) (D := D) (cyD := cyD) (cyI := cyI) (cyJ := cyJ) (cyZ := cyZ) aw ad ak ar au ae av ab df kf rf uf st fw fo sn me vf lf sp sb no H.size p1 (-1 : Int32)) (cwV 2 hts gX2_depthAt_X2_neighbour rfl rfl rfl (by decide +kernel) ⟨Nat.le_of_ble_eq_true rfl, Nat.le_of_ble_eq_true rfl⟩) (kV (ci := 2) (q0 := 0) (q := (RX2, TX2, 8)) hN hK hPc hDc rfl rfl rfl) rfl rfl hl.1 rfl (lv_room (Nat.le_of_ble_eq_true rfl)) dX2_depthAt_17 ⟨Nat.le_of_ble_eq_true rfl, Nat.le_of_ble_eq_true rfl⟩) hP hD hS hA [0, 1, 2, 3, 4, 5, 6, 7] [] [0, 1, 2, 3, 4, 5, 6, 7] rfl rfl (by decide) (by decide) rfl (by decide) (fun H locs hP hD hS => ?_)
    refine lv_istore_n (lv' := [(2, .int (fX2_neighbour kf p1 (-1 : Int32))), (0, .ref aw), (1, .int p1)]) hx hb dX2_depthAt_20 rfl hl (by decide) rfl (fun ls hl => ?_)
    refine lv_aload_n hx hb dX2_depthAt_21 rfl (lv_at hl 1 rfl) ?_
    refine lv_iload_n hx hb dX2_depthAt_22 rfl (lv_at hl 2 rfl) ?_
    refine lv_iconst (v := 1) hx hb dX2_depthAt_23 (by decide) ?_
    have hPc : va_P D vwCl (wW cyD cyI cyJ cyZ aw ad ak ar au ae av ab df kf rf uf st fw fo sn me vf lf sp sb no) H := hP.sub [0, 1, 2, 3, 4, 5, 6, 7] rfl
    have hDc : va_D A (wW cyD cyI cyJ cyZ aw ad ak ar au ae av ab df kf rf uf st fw fo sn me vf lf sp sb no) := hD.sub [0, 1, 2, 3, 4, 5, 6, 7] (by decide) rfl
    refine kiE (ws' := (wW cyD cyI cyJ cyZ aw ad ak ar au ae av ab df kf rf uf st fw fo sn me vf lf sp sb no)) (wc := (wW cyD cyI cyJ cyZ aw ad ak ar au ae av ab df kf rf uf st fw fo sn me vf lf sp sb no)) (wr := []) (w1 := (wW cyD cyI cyJ cyZ aw ad ak ar au ae av ab df kf rf uf st fw fo sn me vf lf sp sb no)) (va_runV (As := [.int p1, .int (1 : Int32)]) (rest := []) ⟨hx, hb, hml, hown, hts⟩ (c_X2_neighbour (l := l) (D := D) (cyD := cyD) (cyI := cyI) (cyJ := cyJ) (cyZ := cyZ) aw ad ak ar au ae av ab df kf rf uf st fw fo sn me vf lf sp sb no H.size p1 (1 : Int32)) (cwV 2 hts gX2_depthAt_X2_neighbour rfl rfl rfl (by decide +kernel) ⟨Nat.le_of_ble_eq_true rfl, Nat.le_of_ble_eq_true rfl⟩) (kV (ci := 2) (q0 := 0) (q := (RX2, TX2, 8)) hN hK hPc hDc rfl rfl rfl) rfl rfl hl.1 rfl (lv_room (Nat.le_of_ble_eq_true rfl)) dX2_depthAt_24 ⟨Nat.le_of_ble_eq_true rfl, Nat.le_of_ble_eq_true rfl⟩) hP hD hS hA [0, 1, 2, 3, 4, 5, 6, 7] [] [0, 1, 2, 3, 4, 5, 6, 7] rfl rfl (by decide) (by decide) rfl (by decide) (fun H locs hP hD hS => ?_)
    refine lv_istore_n (lv' := [(3, .int (fX2_neighbour kf p1 (1 : Int32))), (2, .int (fX2_neighbour kf p1 (-1 : Int32))), (0, .ref aw), (1, .int p1)]) hx hb dX2_depthAt_27 rfl hl (by decide) rfl (fun ls hl => ?_)
    refine lv_aload_n hx hb dX2_depthAt_28 rfl (lv_at hl 2 rfl) ?_
    refine lv_iload_n hx hb dX2_depthAt_29 rfl (lv_at hl 1 rfl) ?_
    have hPc : va_P D vwCl (wW cyD cyI cyJ cyZ aw ad ak ar au ae av ab df kf rf uf st fw fo sn me vf lf sp sb no) H := hP.sub [0, 1, 2, 3, 4, 5, 6, 7] rfl
    have hDc : va_D A (wW cyD cyI cyJ cyZ aw ad ak ar au ae av ab df kf rf uf st fw fo sn me vf lf sp sb no) := hD.sub [0, 1, 2, 3, 4, 5, 6, 7] (by decide) rfl
    refine kdE (ws' := (wW cyD cyI cyJ cyZ aw ad ak ar au ae av ab df kf rf uf st fw fo sn me vf lf sp sb no)) (wc := (wW cyD cyI cyJ cyZ aw ad ak ar au ae av ab df kf rf uf st fw fo sn me vf lf sp sb no)) (wr := []) (w1 := (wW cyD cyI cyJ cyZ aw ad ak ar au ae av ab df kf rf uf st fw fo sn me vf lf sp sb no)) (va_runV (As := [.int (fX2_neighbour kf p1 (-1 : Int32))]) (rest := []) ⟨hx, hb, hml, hown, hts⟩ (c_X2_depthWalked (l := l) (D := D) (cyD := cyD) (cyI := cyI) (cyJ := cyJ) (cyZ := cyZ) aw ad ak ar au ae av ab df kf rf uf st fw fo sn me vf lf sp sb no H.size (fX2_neighbour kf p1 (-1 : Int32)) hE) (cwV 1 hts gX2_depthAt_X2_depthWalked rfl rfl rfl (by decide +kernel) ⟨Nat.le_of_ble_eq_true rfl, Nat.le_of_ble_eq_true rfl⟩) (kV (ci := 2) (q0 := 0) (q := (RX2, TX2, 8)) hN hK hPc hDc rfl rfl rfl) rfl rfl hl.1 rfl (lv_room (Nat.le_of_ble_eq_true rfl)) dX2_depthAt_30 ⟨Nat.le_of_ble_eq_true rfl, Nat.le_of_ble_eq_true rfl⟩) hP hD hS hA [0, 1, 2, 3, 4, 5, 6, 7] [] [0, 1, 2, 3, 4, 5, 6, 7] rfl rfl (by decide) (by decide) rfl (by decide) (fun H locs hP hD hS => ?_)
    refine lv_dstore (lv' := [(4, .double (fX2_depthWalked df rf me (fX2_neighbour kf p1 (-1 : Int32)))), (3, .int (fX2_neighbour kf p1 (1 : Int32))), (2, .int (fX2_neighbour kf p1 (-1 : Int32))), (0, .ref aw), (1, .int p1)]) hx hb dX2_depthAt_33 hl (by decide) rfl (fun ls hl => ?_)
    refine lv_aload_n hx hb dX2_depthAt_35 rfl (lv_at hl 3 rfl) ?_
    refine lv_iload_n hx hb dX2_depthAt_36 rfl (lv_at hl 1 rfl) ?_
    have hPc : va_P D vwCl (wW cyD cyI cyJ cyZ aw ad ak ar au ae av ab df kf rf uf st fw fo sn me vf lf sp sb no) H := hP.sub [0, 1, 2, 3, 4, 5, 6, 7] rfl
    have hDc : va_D A (wW cyD cyI cyJ cyZ aw ad ak ar au ae av ab df kf rf uf st fw fo sn me vf lf sp sb no) := hD.sub [0, 1, 2, 3, 4, 5, 6, 7] (by decide) rfl
    refine kdE (ws' := (wW cyD cyI cyJ cyZ aw ad ak ar au ae av ab df kf rf uf st fw fo sn me vf lf sp sb no)) (wc := (wW cyD cyI cyJ cyZ aw ad ak ar au ae av ab df kf rf uf st fw fo sn me vf lf sp sb no)) (wr := []) (w1 := (wW cyD cyI cyJ cyZ aw ad ak ar au ae av ab df kf rf uf st fw fo sn me vf lf sp sb no)) (va_runV (As := [.int (fX2_neighbour kf p1 (1 : Int32))]) (rest := []) ⟨hx, hb, hml, hown, hts⟩ (c_X2_depthWalked (l := l) (D := D) (cyD := cyD) (cyI := cyI) (cyJ := cyJ) (cyZ := cyZ) aw ad ak ar au ae av ab df kf rf uf st fw fo sn me vf lf sp sb no H.size (fX2_neighbour kf p1 (1 : Int32)) hE) (cwV 1 hts gX2_depthAt_X2_depthWalked rfl rfl rfl (by decide +kernel) ⟨Nat.le_of_ble_eq_true rfl, Nat.le_of_ble_eq_true rfl⟩) (kV (ci := 2) (q0 := 0) (q := (RX2, TX2, 8)) hN hK hPc hDc rfl rfl rfl) rfl rfl hl.1 rfl (lv_room (Nat.le_of_ble_eq_true rfl)) dX2_depthAt_37 ⟨Nat.le_of_ble_eq_true rfl, Nat.le_of_ble_eq_true rfl⟩) hP hD hS hA [0, 1, 2, 3, 4, 5, 6, 7] [] [0, 1, 2, 3, 4, 5, 6, 7] rfl rfl (by decide) (by decide) rfl (by decide) (fun H locs hP hD hS => ?_)
    refine lv_dstore (lv' := [(6, .double (fX2_depthWalked df rf me (fX2_neighbour kf p1 (1 : Int32)))), (4, .double (fX2_depthWalked df rf me (fX2_neighbour kf p1 (-1 : Int32)))), (3, .int (fX2_neighbour kf p1 (1 : Int32))), (2, .int (fX2_neighbour kf p1 (-1 : Int32))), (0, .ref aw), (1, .int p1)]) hx hb dX2_depthAt_40 hl (by decide) rfl (fun ls hl => ?_)
    refine lv_dload hx hb dX2_depthAt_42 (lv_at hl 1 rfl) ?_
    refine lv_dload hx hb dX2_depthAt_44 (lv_at hl 0 rfl) ?_
    refine lv_dload hx hb dX2_depthAt_46 (lv_at hl 1 rfl) ?_
    refine lv_dsub hx hb dX2_depthAt_48 (bd_n (bd_sub (Ka := 1064) (Kb := 1064) (K := 1066) (dw_bd hE.2.2.1 hdf _) (dw_bd hE.2.2.1 hdf _) (by decide) (by decide) (by decide) (by decide)) (by decide)) ?_
    refine lv_iload_n hx hb dX2_depthAt_49 rfl (lv_at hl 5 rfl) ?_
    refine lv_iload_n hx hb dX2_depthAt_50 rfl (lv_at hl 3 rfl) ?_
    refine lv_isub hx hb dX2_depthAt_51 ?_
    refine lv_i2d hx hb dX2_depthAt_52 ?_
    refine lv_dmul hx hb dX2_depthAt_53 (bd_n (bd_mul (Ka := 1066) (Kb := 1056) (K := 1100) (bd_sub (Ka := 1064) (Kb := 1064) (K := 1066) (dw_bd hE.2.2.1 hdf _) (dw_bd hE.2.2.1 hdf _) (by decide) (by decide) (by decide) (by decide)) (bd_i2d _) (by decide) (by decide) (by decide)) (by decide)) ?_
    refine lv_iload_n hx hb dX2_depthAt_54 rfl (lv_at hl 2 rfl) ?_
    refine lv_iload_n hx hb dX2_depthAt_55 rfl (lv_at hl 3 rfl) ?_
    refine lv_isub hx hb dX2_depthAt_56 ?_
    refine lv_i2d hx hb dX2_depthAt_57 ?_
    have hPc : va_P D vwCl [] H := hP.sub [] rfl
    have hDc : va_D A [] := hD.sub [] (by decide) rfl
    refine kdE (ws' := (wW cyD cyI cyJ cyZ aw ad ak ar au ae av ab df kf rf uf st fw fo sn me vf lf sp sb no)) (wc := []) (wr := [(aw, .inr (2, [.ref ae, .ref ad, .ref ak, .ref ar, .ref au, .int st, .int fw, .int fo])), (ad, .inl (cyD, 32, .inr (.inr (.inr (.inl df))))), (ak, .inl (cyZ, 32, .inl kf)), (ar, .inl (cyI, 32, .inl rf)), (au, .inl (cyJ, 32 * sn, .inr (.inl uf))), (ae, .inr (0, [.int (nI sn), .double me, .ref av, .ref ab, .double sp, .double sb, .double no])), (av, .inl (cyD, 128 * sn, .inr (.inr (.inr (.inl vf))))), (ab, .inl (cyZ, 32, .inl lf))]) (w1 := []) (va_runSN (As := [.double (FP.dmul (FP.dsub (fX2_depthWalked df rf me (fX2_neighbour kf p1 (1 : Int32))) (fX2_depthWalked df rf me (fX2_neighbour kf p1 (-1 : Int32)))) (FP.i2d (p1 - (fX2_neighbour kf p1 (-1 : Int32))))), .double (FP.i2d ((fX2_neighbour kf p1 (1 : Int32)) - (fX2_neighbour kf p1 (-1 : Int32))))]) (rest := [.double (fX2_depthWalked df rf me (fX2_neighbour kf p1 (-1 : Int32)))]) ⟨hx, hb, hml, hown, hts⟩ (c_X3_over (l := l) (D := D) (cyD := cyD) (cyI := cyI) (cyJ := cyJ) (cyZ := cyZ) H.size (FP.dmul (FP.dsub (fX2_depthWalked df rf me (fX2_neighbour kf p1 (1 : Int32))) (fX2_depthWalked df rf me (fX2_neighbour kf p1 (-1 : Int32)))) (FP.i2d (p1 - (fX2_neighbour kf p1 (-1 : Int32))))) (FP.i2d ((fX2_neighbour kf p1 (1 : Int32)) - (fX2_neighbour kf p1 (-1 : Int32)))) (bd_n (bridge_div c_5 (bd_mul (Ka := 1066) (Kb := 1056) (K := 1100) (bd_sub (Ka := 1064) (Kb := 1064) (K := 1066) (dw_bd hE.2.2.1 hdf _) (dw_bd hE.2.2.1 hdf _) (by decide) (by decide) (by decide) (by decide)) (bd_i2d _) (by decide) (by decide) (by decide))) (by decide))) ⟨va_cnB 2 hts gX2_depthAt_X3_over_n94 rfl rfl rfl hN.2.2.2.2.2.1 (hts (.initialized RX3) (List.mem_of_getElem? (i := 7) rfl)) (by decide +kernel) ⟨Nat.le_of_ble_eq_true rfl, Nat.le_of_ble_eq_true rfl⟩, (hts (.static yX3_over) (List.mem_of_getElem? (i := 39) rfl)), trivial⟩ (kS hN hK hPc hDc) rfl rfl hl.1 rfl (lv_room (Nat.le_of_ble_eq_true rfl)) dX2_depthAt_58 ⟨Nat.le_of_ble_eq_true rfl, Nat.le_of_ble_eq_true rfl⟩) hP hD hS hA [] [0, 1, 2, 3, 4, 5, 6, 7] [0, 1, 2, 3, 4, 5, 6, 7] rfl rfl (by decide) (by decide) rfl (by decide) (fun H locs hP hD hS => ?_)
    refine lv_dadd hx hb dX2_depthAt_61 (bd_n (bd_add (Ka := 1064) (Kb := 1101) (K := 1103) (dw_bd hE.2.2.1 hdf _) (over_bd (bridge_div c_5 (bd_mul (Ka := 1066) (Kb := 1056) (K := 1100) (bd_sub (Ka := 1064) (Kb := 1064) (K := 1066) (dw_bd hE.2.2.1 hdf _) (dw_bd hE.2.2.1 hdf _) (by decide) (by decide) (by decide) (by decide)) (bd_i2d _) (by decide) (by decide) (by decide))) (by decide)) (by decide) (by decide) (by decide) (by decide)) (by decide)) ?_
    have hF9 : (fX2_depthAt df kf rf me p1) = (FP.dadd (fX2_depthWalked df rf me (fX2_neighbour kf p1 (-1 : Int32))) (fX3_over (FP.dmul (FP.dsub (fX2_depthWalked df rf me (fX2_neighbour kf p1 (1 : Int32))) (fX2_depthWalked df rf me (fX2_neighbour kf p1 (-1 : Int32)))) (FP.i2d (p1 - (fX2_neighbour kf p1 (-1 : Int32))))) (FP.i2d ((fX2_neighbour kf p1 (1 : Int32)) - (fX2_neighbour kf p1 (-1 : Int32)))))) := by rw [fX2_depthAt, if_neg c_5]
    have hP9 : va_P D vwCl (wW cyD cyI cyJ cyZ aw ad ak ar au ae av ab df kf rf uf st fw fo sn me vf lf sp sb no) H := hP
    have hD9 : va_D A (wW cyD cyI cyJ cyZ aw ad ak ar au ae av ab df kf rf uf st fw fo sn me vf lf sp sb no) := hD
    exact W.dret (v := (FP.dadd (fX2_depthWalked df rf me (fX2_neighbour kf p1 (-1 : Int32))) (fX3_over (FP.dmul (FP.dsub (fX2_depthWalked df rf me (fX2_neighbour kf p1 (1 : Int32))) (fX2_depthWalked df rf me (fX2_neighbour kf p1 (-1 : Int32)))) (FP.i2d (p1 - (fX2_neighbour kf p1 (-1 : Int32))))) (FP.i2d ((fX2_neighbour kf p1 (1 : Int32)) - (fX2_neighbour kf p1 (-1 : Int32))))))) hx hb hr (fun t ht hW => ⟨⟨(FP.dadd (fX2_depthWalked df rf me (fX2_neighbour kf p1 (-1 : Int32))) (fX3_over (FP.dmul (FP.dsub (fX2_depthWalked df rf me (fX2_neighbour kf p1 (1 : Int32))) (fX2_depthWalked df rf me (fX2_neighbour kf p1 (-1 : Int32)))) (FP.i2d (p1 - (fX2_neighbour kf p1 (-1 : Int32))))) (FP.i2d ((fX2_neighbour kf p1 (1 : Int32)) - (fX2_neighbour kf p1 (-1 : Int32)))))), (), rfl, (by rw [hF9]), by rw [ht]; exact hP9, va_K.moved hW.alike hK, hD9⟩, hS.F ht⟩) hS.2.2 dX2_depthAt_62
  refine lv_aload_n hx hb dX2_depthAt_8 rfl (lv_at hl 0 rfl) ?_
  refine lv_iload_n hx hb dX2_depthAt_9 rfl (lv_at hl 1 rfl) ?_
  have hPc : va_P D vwCl (wW cyD cyI cyJ cyZ aw ad ak ar au ae av ab df kf rf uf st fw fo sn me vf lf sp sb no) H := hP.sub [0, 1, 2, 3, 4, 5, 6, 7] rfl
  have hDc : va_D A (wW cyD cyI cyJ cyZ aw ad ak ar au ae av ab df kf rf uf st fw fo sn me vf lf sp sb no) := hD.sub [0, 1, 2, 3, 4, 5, 6, 7] (by decide) rfl
  refine kdE (ws' := (wW cyD cyI cyJ cyZ aw ad ak ar au ae av ab df kf rf uf st fw fo sn me vf lf sp sb no)) (wc := (wW cyD cyI cyJ cyZ aw ad ak ar au ae av ab df kf rf uf st fw fo sn me vf lf sp sb no)) (wr := []) (w1 := (wW cyD cyI cyJ cyZ aw ad ak ar au ae av ab df kf rf uf st fw fo sn me vf lf sp sb no)) (va_runV (As := [.int p1]) (rest := []) ⟨hx, hb, hml, hown, hts⟩ (c_X2_depthWalked (l := l) (D := D) (cyD := cyD) (cyI := cyI) (cyJ := cyJ) (cyZ := cyZ) aw ad ak ar au ae av ab df kf rf uf st fw fo sn me vf lf sp sb no H.size p1 hE) (cwV 1 hts gX2_depthAt_X2_depthWalked rfl rfl rfl (by decide +kernel) ⟨Nat.le_of_ble_eq_true rfl, Nat.le_of_ble_eq_true rfl⟩) (kV (ci := 2) (q0 := 0) (q := (RX2, TX2, 8)) hN hK hPc hDc rfl rfl rfl) rfl rfl hl.1 rfl (lv_room (Nat.le_of_ble_eq_true rfl)) dX2_depthAt_10 ⟨Nat.le_of_ble_eq_true rfl, Nat.le_of_ble_eq_true rfl⟩) hP hD hS hA [0, 1, 2, 3, 4, 5, 6, 7] [] [0, 1, 2, 3, 4, 5, 6, 7] rfl rfl (by decide) (by decide) rfl (by decide) (fun H locs hP hD hS => ?_)
  have hF9 : (fX2_depthAt df kf rf me p1) = (fX2_depthWalked df rf me p1) := by rw [fX2_depthAt, if_pos c_5]
  have hP9 : va_P D vwCl (wW cyD cyI cyJ cyZ aw ad ak ar au ae av ab df kf rf uf st fw fo sn me vf lf sp sb no) H := hP
  have hD9 : va_D A (wW cyD cyI cyJ cyZ aw ad ak ar au ae av ab df kf rf uf st fw fo sn me vf lf sp sb no) := hD
  exact W.dret (v := (fX2_depthWalked df rf me p1)) hx hb hr (fun t ht hW => ⟨⟨(fX2_depthWalked df rf me p1), (), rfl, (by rw [hF9]), by rw [ht]; exact hP9, va_K.moved hW.alike hK, hD9⟩, hS.F ht⟩) hS.2.2 dX2_depthAt_13
def fX2_strengthsBehind_L27 (df : Nat → UInt64) (rf : Nat → Int32) (fw : Int32) (sn : Nat) (me : UInt64) (vf : Nat → UInt64) (lf : Nat → Int32) (sp : UInt64) (sb : UInt64) (no : UInt64)  (p1 : Int32) : Nat → (Int32) → (Int32) → (Int64) → UInt64
  | 0, v_j, v_kk, v_sm => 0
  | k + 1, v_j, v_kk, v_sm => if (8 : Int32) < v_j then (FP.l2d v_sm) else ((fX2_strengthsBehind_L27 df rf fw sn me vf lf sp sb no p1 k ((v_j) + 1) (v_kk) (v_sm + (fX0_strength sn me vf lf sp sb no fw p1 (v_kk + v_j)))))
def fX2_strengthsBehind (df : Nat → UInt64) (rf : Nat → Int32) (fw : Int32) (sn : Nat) (me : UInt64) (vf : Nat → UInt64) (lf : Nat → Int32) (sp : UInt64) (sb : UInt64) (no : UInt64) (p1 : Int32) : UInt64 := if (fX2_isEdited df p1) = 0 then (fX2_strengthsBehind_L27 df rf fw sn me vf lf sp sb no p1 9 (1 : Int32) (fX2_sampleOfRow rf p1) (0 : Int64)) else ((fX2_strengthsBehind_L27 df rf fw sn me vf lf sp sb no p1 9 (1 : Int32) (fX2_lowest df sn me p1) (0 : Int64)))
set_option maxHeartbeats 4000000 in
set_option maxRecDepth 100000 in
theorem c_X2_strengthsBehind {l : Launch} {D : va_G} {cyD cyI cyJ cyZ : ClassId} (aw ad ak ar au ae av ab : Nat) (df : Nat → UInt64) (kf : Nat → Int32) (rf : Nat → Int32) (uf : Nat → Int64) (st : Int32) (fw : Int32) (fo : Int32) (sn : Nat) (me : UInt64) (vf : Nat → UInt64) (lf : Nat → Int32) (sp : UInt64) (sb : UInt64) (no : UInt64) (sz : Nat) (p1 : Int32) (hE : okE sn me vf sp sb no) : mD l yX2_strengthsBehind wsX2_strengthsBehind ({ frames := 3, cells := 0, slots := 0, locals := 72 } : Room) D (kT cyD cyI cyJ cyZ) [.ref aw, .int p1] (wW cyD cyI cyJ cyZ aw ad ak ar au ae av ab df kf rf uf st fw fo sn me vf lf sp sb no) (wW cyD cyI cyJ cyZ aw ad ak ar au ae av ab df kf rf uf st fw fo sn me vf lf sp sb no) sz (fX2_strengthsBehind df rf fw sn me vf lf sp sb no p1) 0 0 := by
  refine Met.ofW (cc := cX2_strengthsBehind) (maxL := 6) (ret := (some .double)) (by decide) rfl ?_
  intro p e s m args below meth c s₁ B hml hv
  obtain ⟨rfl, hN, hsz, hP, hK, hD0⟩ := hv
  have hx := B.exec
  have hb := B.bytes
  have hr := B.returns
  have hts := atoms_spec (ws := wsX2_strengthsBehind) B.pre
  have hown : s.vm.findClass RX2 = some m.cls := findClass_of_methodNamed B.named
  have hlocks := B.notSynchronized
  subst hsz
  have hD := hD0.self (sz := s.heap.size)
  generalize hAe : va_A (wW cyD cyI cyJ cyZ aw ad ak ar au ae av ab df kf rf uf st fw fo sn me vf lf sp sb no) s.heap.size = A at hD ⊢
  have hA : ∀ q : Nat, s.heap.size ≤ q → A q := fun q h => by rw [← hAe]; exact Or.inr h
  have hS : va_S A s.heap s.heap [] := va_S.rf
  have hP : va_P D vwCl (wW cyD cyI cyJ cyZ aw ad ak ar au ae av ab df kf rf uf st fw fo sn me vf lf sp sb no) s.heap := hP
  have hl := lv_entry [.ref aw, .int p1] (n := 6) (Nat.le_of_ble_eq_true rfl)
  rw [lg_entry_eq]
  generalize (lg_sl [.ref aw, .int p1] ++ List.replicate (6 - (lg_sl [.ref aw, .int p1]).length) Slot.unset).toArray = ls at hl ⊢
  have hl : lv_has ls 6 [(0, .ref aw), (1, .int p1)] := hl
  obtain ⟨H, hHe⟩ : ∃ H : Heap, H = s.heap := ⟨_, rfl⟩
  have hP : va_P D vwCl (wW cyD cyI cyJ cyZ aw ad ak ar au ae av ab df kf rf uf st fw fo sn me vf lf sp sb no) H := by rw [hHe]; exact hP
  have hS : va_S A s.heap H [] := by rw [hHe]; exact hS
  rw [← hHe]
  refine lv_aload_n hx hb dX2_strengthsBehind_0 rfl (lv_at hl 0 rfl) ?_
  refine lv_iload_n hx hb dX2_strengthsBehind_1 rfl (lv_at hl 1 rfl) ?_
  have hPc : va_P D vwCl (wW cyD cyI cyJ cyZ aw ad ak ar au ae av ab df kf rf uf st fw fo sn me vf lf sp sb no) H := hP.sub [0, 1, 2, 3, 4, 5, 6, 7] rfl
  have hDc : va_D A (wW cyD cyI cyJ cyZ aw ad ak ar au ae av ab df kf rf uf st fw fo sn me vf lf sp sb no) := hD.sub [0, 1, 2, 3, 4, 5, 6, 7] (by decide) rfl
  refine kzE (ws' := (wW cyD cyI cyJ cyZ aw ad ak ar au ae av ab df kf rf uf st fw fo sn me vf lf sp sb no)) (wc := (wW cyD cyI cyJ cyZ aw ad ak ar au ae av ab df kf rf uf st fw fo sn me vf lf sp sb no)) (wr := []) (w1 := (wW cyD cyI cyJ cyZ aw ad ak ar au ae av ab df kf rf uf st fw fo sn me vf lf sp sb no)) (va_runV (As := [.int p1]) (rest := []) ⟨hx, hb, hml, hown, hts⟩ (c_X2_isEdited (l := l) (D := D) (cyD := cyD) (cyI := cyI) (cyJ := cyJ) (cyZ := cyZ) aw ad ak ar au ae av ab df kf rf uf st fw fo sn me vf lf sp sb no H.size p1) (cwV 1 hts gX2_strengthsBehind_X2_isEdited rfl rfl rfl (by decide +kernel) ⟨Nat.le_of_ble_eq_true rfl, Nat.le_of_ble_eq_true rfl⟩) (kV (ci := 2) (q0 := 0) (q := (RX2, TX2, 8)) hN hK hPc hDc rfl rfl rfl) rfl rfl hl.1 rfl (lv_room (Nat.le_of_ble_eq_true rfl)) dX2_strengthsBehind_2 ⟨Nat.le_of_ble_eq_true rfl, Nat.le_of_ble_eq_true rfl⟩) hP hD hS hA [0, 1, 2, 3, 4, 5, 6, 7] [] [0, 1, 2, 3, 4, 5, 6, 7] rfl rfl (by decide) (by decide) rfl (by decide) (fun H locs hz_2 hP hD hS => ?_)
  refine lv_if_eq (tgt := 16) hx hb dX2_strengthsBehind_5 (by decide) (fun c_5 => ?_) (fun c_5 => ?_)
  · refine lv_aload_n hx hb dX2_strengthsBehind_16 rfl (lv_at hl 0 rfl) ?_
    refine lv_iload_n hx hb dX2_strengthsBehind_17 rfl (lv_at hl 1 rfl) ?_
    have hPc : va_P D vwCl (wW cyD cyI cyJ cyZ aw ad ak ar au ae av ab df kf rf uf st fw fo sn me vf lf sp sb no) H := hP.sub [0, 1, 2, 3, 4, 5, 6, 7] rfl
    have hDc : va_D A (wW cyD cyI cyJ cyZ aw ad ak ar au ae av ab df kf rf uf st fw fo sn me vf lf sp sb no) := hD.sub [0, 1, 2, 3, 4, 5, 6, 7] (by decide) rfl
    refine kiE (ws' := (wW cyD cyI cyJ cyZ aw ad ak ar au ae av ab df kf rf uf st fw fo sn me vf lf sp sb no)) (wc := (wW cyD cyI cyJ cyZ aw ad ak ar au ae av ab df kf rf uf st fw fo sn me vf lf sp sb no)) (wr := []) (w1 := (wW cyD cyI cyJ cyZ aw ad ak ar au ae av ab df kf rf uf st fw fo sn me vf lf sp sb no)) (va_runV (As := [.int p1]) (rest := []) ⟨hx, hb, hml, hown, hts⟩ (c_X2_sampleOfRow (l := l) (D := D) (cyD := cyD) (cyI := cyI) (cyJ := cyJ) (cyZ := cyZ) aw ad ak ar au ae av ab df kf rf uf st fw fo sn me vf lf sp sb no H.size p1) (cwV 1 hts gX2_strengthsBehind_X2_sampleOfRow rfl rfl rfl (by decide +kernel) ⟨Nat.le_of_ble_eq_true rfl, Nat.le_of_ble_eq_true rfl⟩) (kV (ci := 2) (q0 := 0) (q := (RX2, TX2, 8)) hN hK hPc hDc rfl rfl rfl) rfl rfl hl.1 rfl (lv_room (Nat.le_of_ble_eq_true rfl)) dX2_strengthsBehind_18 ⟨Nat.le_of_ble_eq_true rfl, Nat.le_of_ble_eq_true rfl⟩) hP hD hS hA [0, 1, 2, 3, 4, 5, 6, 7] [] [0, 1, 2, 3, 4, 5, 6, 7] rfl rfl (by decide) (by decide) rfl (by decide) (fun H locs hP hD hS => ?_)
    refine lv_istore_n (lv' := [(2, .int (fX2_sampleOfRow rf p1)), (0, .ref aw), (1, .int p1)]) hx hb dX2_strengthsBehind_21 rfl hl (by decide) rfl (fun ls hl => ?_)
    refine lv_lconst (v := 0) hx hb dX2_strengthsBehind_22 rfl ?_
    refine lv_lstore_n (lv' := [(3, .long (0 : Int64)), (2, .int (fX2_sampleOfRow rf p1)), (0, .ref aw), (1, .int p1)]) hx hb dX2_strengthsBehind_23 rfl hl (by decide) rfl (fun ls hl => ?_)
    refine lv_iconst (v := 1) hx hb dX2_strengthsBehind_24 (by decide) ?_
    refine lv_istore (lv' := [(5, .int (1 : Int32)), (3, .long (0 : Int64)), (2, .int (fX2_sampleOfRow rf p1)), (0, .ref aw), (1, .int p1)]) hx hb dX2_strengthsBehind_25 hl (by decide) rfl (fun ls hl => ?_)
    have loop_27 : ∀ (k : Nat) (j : Nat) (kk : Int32) (sm : Int64) (H : Heap) (locs : List Loc), (j + k = 10) → (j ≤ 9) → (fX2_strengthsBehind df rf fw sn me vf lf sp sb no p1) = fX2_strengthsBehind_L27 df rf fw sn me vf lf sp sb no p1 k ((nI j)) (kk) (sm) → va_P D vwCl (wW cyD cyI cyJ cyZ aw ad ak ar au ae av ab df kf rf uf st fw fo sn me vf lf sp sb no) H → va_D A (wW cyD cyI cyJ cyZ aw ad ak ar au ae av ab df kf rf uf st fw fo sn me vf lf sp sb no) → va_S A s.heap H locs → ∀ ls, lv_has ls 6 [(5, .int ((nI j))), (3, .long (sm)), (2, .int (kk)), (0, .ref aw), (1, .int p1)] → W p l e (headSpec wsX2_strengthsBehind ({ frames := 3, cells := 0, slots := 0, locals := 72 } : Room)).room s m ([.ref aw, .int p1] : List Value).toArray below meth c H locs 0 0 (MQ below (va_Qd (fun (r : UInt64) (_ : Unit) => r = (fX2_strengthsBehind df rf fw sn me vf lf sp sb no p1)) (kE D (kT cyD cyI cyJ cyZ) (wW cyD cyI cyJ cyZ aw ad ak ar au ae av ab df kf rf uf st fw fo sn me vf lf sp sb no) A) A) ([.ref aw, .int p1] : List Value).toArray s 0 0 A) (F0 m 27 ls []) := by
      intro k
      induction k with
      | zero => intro j kk sm H locs hj hj2 hF hP hD hS ls hl; exact absurd hj2 (by omega)
      | succ k ih =>
        intro j kk sm H locs hj hj2 hF hP hD hS ls hl
        refine lv_iload hx hb dX2_strengthsBehind_27 (lv_at hl 0 rfl) ?_
        refine lv_bipush (v := 8) hx hb dX2_strengthsBehind_29 (by decide) ?_
        refine lv_icmp_gt (tgt := 59) hx hb dX2_strengthsBehind_31 (by decide) (fun c_31 => ?_) (fun c_31 => ?_)
        · refine lv_lload_n hx hb dX2_strengthsBehind_59 rfl (lv_at hl 1 rfl) ?_
          refine lv_l2d hx hb dX2_strengthsBehind_60 ?_
          have hF9 : (fX2_strengthsBehind df rf fw sn me vf lf sp sb no p1) = (FP.l2d sm) := by rw [hF, fX2_strengthsBehind_L27, if_pos c_31]
          have hP9 : va_P D vwCl (wW cyD cyI cyJ cyZ aw ad ak ar au ae av ab df kf rf uf st fw fo sn me vf lf sp sb no) H := hP
          have hD9 : va_D A (wW cyD cyI cyJ cyZ aw ad ak ar au ae av ab df kf rf uf st fw fo sn me vf lf sp sb no) := hD
          exact W.dret (v := (FP.l2d sm)) hx hb hr (fun t ht hW => ⟨⟨(FP.l2d sm), (), rfl, (by rw [hF9]), by rw [ht]; exact hP9, va_K.moved hW.alike hK, hD9⟩, hS.F ht⟩) hS.2.2 dX2_strengthsBehind_61
        refine lv_lload_n hx hb dX2_strengthsBehind_34 rfl (lv_at hl 1 rfl) ?_
        refine lv_aload_n hx hb dX2_strengthsBehind_35 rfl (lv_at hl 3 rfl) ?_
        refine va_get (D := D) (ci := 2) (v := .ref ae) (C := RX2) (T := TX2) (N := 8) hx hb hts (fun _ h => (List.mem_cons_of_mem _ (List.mem_append_left _ (List.mem_append_right _ h)))) hown hK hP 0 rfl rfl 0 (by decide) (hts (.fieldLink RX2 34 "BottomWalks$Walk" "echoes" "LBottomWalks$Echoes;") (List.mem_of_getElem? (i := 1) rfl)) (fun _ h9 => h9) rfl dX2_strengthsBehind_36 ?_
        refine lv_aload_n hx hb dX2_strengthsBehind_39 rfl (lv_at hl 3 rfl) ?_
        refine va_get (D := D) (ci := 2) (v := .int fw) (C := RX2) (T := TX2) (N := 8) hx hb hts (fun _ h => (List.mem_cons_of_mem _ (List.mem_append_left _ (List.mem_append_right _ h)))) hown hK hP 0 rfl rfl 6 (by decide) (hts (.fieldLink RX2 27 "BottomWalks$Walk" "frequencyWalked" "I") (List.mem_of_getElem? (i := 2) rfl)) (fun _ h9 => h9) rfl dX2_strengthsBehind_40 ?_
        refine lv_iload_n hx hb dX2_strengthsBehind_43 rfl (lv_at hl 4 rfl) ?_
        refine lv_iload_n hx hb dX2_strengthsBehind_44 rfl (lv_at hl 2 rfl) ?_
        refine lv_iload hx hb dX2_strengthsBehind_45 (lv_at hl 0 rfl) ?_
        refine lv_iadd hx hb dX2_strengthsBehind_47 ?_
        have hPc : va_P D vwCl (wE cyD cyI cyJ cyZ ae av ab sn me vf lf sp sb no) H := hP.sub [5, 6, 7] rfl
        have hDc : va_D A (wE cyD cyI cyJ cyZ ae av ab sn me vf lf sp sb no) := hD.sub [5, 6, 7] (by decide) rfl
        refine klE (ws' := (wW cyD cyI cyJ cyZ aw ad ak ar au ae av ab df kf rf uf st fw fo sn me vf lf sp sb no)) (wc := (wE cyD cyI cyJ cyZ ae av ab sn me vf lf sp sb no)) (wr := [(aw, .inr (2, [.ref ae, .ref ad, .ref ak, .ref ar, .ref au, .int st, .int fw, .int fo])), (ad, .inl (cyD, 32, .inr (.inr (.inr (.inl df))))), (ak, .inl (cyZ, 32, .inl kf)), (ar, .inl (cyI, 32, .inl rf)), (au, .inl (cyJ, 32 * sn, .inr (.inl uf)))]) (w1 := (wE cyD cyI cyJ cyZ ae av ab sn me vf lf sp sb no)) (va_runV (As := [.int fw, .int p1, .int (kk + (nI j))]) (rest := [.long (sm)]) ⟨hx, hb, hml, hown, hts⟩ (c_X0_strength (l := l) (D := D) (cyD := cyD) (cyI := cyI) (cyJ := cyJ) (cyZ := cyZ) ae av ab sn me vf lf sp sb no H.size fw p1 (kk + (nI j)) hE) (cwV 3 hts gX2_strengthsBehind_X0_strength rfl rfl rfl (by decide +kernel) ⟨Nat.le_of_ble_eq_true rfl, Nat.le_of_ble_eq_true rfl⟩) (kV (ci := 0) (q0 := 0) (q := (RX0, TX0, 7)) hN hK hPc hDc rfl rfl rfl) rfl rfl hl.1 rfl (lv_room (Nat.le_of_ble_eq_true rfl)) dX2_strengthsBehind_48 ⟨Nat.le_of_ble_eq_true rfl, Nat.le_of_ble_eq_true rfl⟩) hP hD hS hA [5, 6, 7] [0, 1, 2, 3, 4] [0, 1, 2, 3, 4, 5, 6, 7] rfl rfl (by decide) (by decide) rfl (by decide) (fun H locs hP hD hS => ?_)
        refine lv_ladd hx hb dX2_strengthsBehind_51 ?_
        refine lv_lstore_n (lv' := [(3, .long (sm + (fX0_strength sn me vf lf sp sb no fw p1 (kk + (nI j))))), (5, .int ((nI j))), (2, .int (kk)), (0, .ref aw), (1, .int p1)]) hx hb dX2_strengthsBehind_52 rfl hl (by decide) rfl (fun ls hl => ?_)
        refine lv_iinc (v := (((nI j)) + 1)) (lv' := [(5, .int (((nI j)) + 1)), (3, .long (sm + (fX0_strength sn me vf lf sp sb no fw p1 (kk + (nI j))))), (2, .int (kk)), (0, .ref aw), (1, .int p1)]) hx hb dX2_strengthsBehind_53 hl (k := 1) rfl rfl (by decide) rfl (fun ls hl => ?_)
        refine lv_goto (tgt := 27) hx hb dX2_strengthsBehind_56 (by decide) ?_
        exact ih (j + 1) (kk) (sm + (fX0_strength sn me vf lf sp sb no fw p1 (kk + (nI j)))) _ _ (by omega) (by have := Nat.lt_of_not_le (fun z => c_31 (nI_lt (a := 8) z (by omega))); omega) (by rw [← nI_1 j]; rw [hF, fX2_strengthsBehind_L27, if_neg c_31]) hP hD hS _ (by rw [← nI_1 j]; exact lv_sub hl [0, 1, 2, 3, 4] rfl)
    exact loop_27 9 1 (fX2_sampleOfRow rf p1) 0 _ _ rfl (by decide) (by rw [nI_one]; rw [fX2_strengthsBehind, if_pos c_5]) hP hD hS _ (by exact lv_sub hl [0, 1, 2, 3, 4] rfl)
  refine lv_aload_n hx hb dX2_strengthsBehind_8 rfl (lv_at hl 0 rfl) ?_
  refine lv_iload_n hx hb dX2_strengthsBehind_9 rfl (lv_at hl 1 rfl) ?_
  have hPc : va_P D vwCl (wW cyD cyI cyJ cyZ aw ad ak ar au ae av ab df kf rf uf st fw fo sn me vf lf sp sb no) H := hP.sub [0, 1, 2, 3, 4, 5, 6, 7] rfl
  have hDc : va_D A (wW cyD cyI cyJ cyZ aw ad ak ar au ae av ab df kf rf uf st fw fo sn me vf lf sp sb no) := hD.sub [0, 1, 2, 3, 4, 5, 6, 7] (by decide) rfl
  refine kiE (ws' := (wW cyD cyI cyJ cyZ aw ad ak ar au ae av ab df kf rf uf st fw fo sn me vf lf sp sb no)) (wc := (wW cyD cyI cyJ cyZ aw ad ak ar au ae av ab df kf rf uf st fw fo sn me vf lf sp sb no)) (wr := []) (w1 := (wW cyD cyI cyJ cyZ aw ad ak ar au ae av ab df kf rf uf st fw fo sn me vf lf sp sb no)) (va_runV (As := [.int p1]) (rest := []) ⟨hx, hb, hml, hown, hts⟩ (c_X2_lowest (l := l) (D := D) (cyD := cyD) (cyI := cyI) (cyJ := cyJ) (cyZ := cyZ) aw ad ak ar au ae av ab df kf rf uf st fw fo sn me vf lf sp sb no H.size p1 hE) (cwV 1 hts gX2_strengthsBehind_X2_lowest rfl rfl rfl (by decide +kernel) ⟨Nat.le_of_ble_eq_true rfl, Nat.le_of_ble_eq_true rfl⟩) (kV (ci := 2) (q0 := 0) (q := (RX2, TX2, 8)) hN hK hPc hDc rfl rfl rfl) rfl rfl hl.1 rfl (lv_room (Nat.le_of_ble_eq_true rfl)) dX2_strengthsBehind_10 ⟨Nat.le_of_ble_eq_true rfl, Nat.le_of_ble_eq_true rfl⟩) hP hD hS hA [0, 1, 2, 3, 4, 5, 6, 7] [] [0, 1, 2, 3, 4, 5, 6, 7] rfl rfl (by decide) (by decide) rfl (by decide) (fun H locs hP hD hS => ?_)
  refine lv_goto (tgt := 21) hx hb dX2_strengthsBehind_13 (by decide) ?_
  refine lv_istore_n (lv' := [(2, .int (fX2_lowest df sn me p1)), (0, .ref aw), (1, .int p1)]) hx hb dX2_strengthsBehind_21 rfl hl (by decide) rfl (fun ls hl => ?_)
  refine lv_lconst (v := 0) hx hb dX2_strengthsBehind_22 rfl ?_
  refine lv_lstore_n (lv' := [(3, .long (0 : Int64)), (2, .int (fX2_lowest df sn me p1)), (0, .ref aw), (1, .int p1)]) hx hb dX2_strengthsBehind_23 rfl hl (by decide) rfl (fun ls hl => ?_)
  refine lv_iconst (v := 1) hx hb dX2_strengthsBehind_24 (by decide) ?_
  refine lv_istore (lv' := [(5, .int (1 : Int32)), (3, .long (0 : Int64)), (2, .int (fX2_lowest df sn me p1)), (0, .ref aw), (1, .int p1)]) hx hb dX2_strengthsBehind_25 hl (by decide) rfl (fun ls hl => ?_)
  have loop_27 : ∀ (k : Nat) (j : Nat) (kk : Int32) (sm : Int64) (H : Heap) (locs : List Loc), (j + k = 10) → (j ≤ 9) → (fX2_strengthsBehind df rf fw sn me vf lf sp sb no p1) = fX2_strengthsBehind_L27 df rf fw sn me vf lf sp sb no p1 k ((nI j)) (kk) (sm) → va_P D vwCl (wW cyD cyI cyJ cyZ aw ad ak ar au ae av ab df kf rf uf st fw fo sn me vf lf sp sb no) H → va_D A (wW cyD cyI cyJ cyZ aw ad ak ar au ae av ab df kf rf uf st fw fo sn me vf lf sp sb no) → va_S A s.heap H locs → ∀ ls, lv_has ls 6 [(5, .int ((nI j))), (3, .long (sm)), (2, .int (kk)), (0, .ref aw), (1, .int p1)] → W p l e (headSpec wsX2_strengthsBehind ({ frames := 3, cells := 0, slots := 0, locals := 72 } : Room)).room s m ([.ref aw, .int p1] : List Value).toArray below meth c H locs 0 0 (MQ below (va_Qd (fun (r : UInt64) (_ : Unit) => r = (fX2_strengthsBehind df rf fw sn me vf lf sp sb no p1)) (kE D (kT cyD cyI cyJ cyZ) (wW cyD cyI cyJ cyZ aw ad ak ar au ae av ab df kf rf uf st fw fo sn me vf lf sp sb no) A) A) ([.ref aw, .int p1] : List Value).toArray s 0 0 A) (F0 m 27 ls []) := by
    intro k
    induction k with
    | zero => intro j kk sm H locs hj hj2 hF hP hD hS ls hl; exact absurd hj2 (by omega)
    | succ k ih =>
      intro j kk sm H locs hj hj2 hF hP hD hS ls hl
      refine lv_iload hx hb dX2_strengthsBehind_27 (lv_at hl 0 rfl) ?_
      refine lv_bipush (v := 8) hx hb dX2_strengthsBehind_29 (by decide) ?_
      refine lv_icmp_gt (tgt := 59) hx hb dX2_strengthsBehind_31 (by decide) (fun c_31 => ?_) (fun c_31 => ?_)
      · refine lv_lload_n hx hb dX2_strengthsBehind_59 rfl (lv_at hl 1 rfl) ?_
        refine lv_l2d hx hb dX2_strengthsBehind_60 ?_
        have hF9 : (fX2_strengthsBehind df rf fw sn me vf lf sp sb no p1) = (FP.l2d sm) := by rw [hF, fX2_strengthsBehind_L27, if_pos c_31]
        have hP9 : va_P D vwCl (wW cyD cyI cyJ cyZ aw ad ak ar au ae av ab df kf rf uf st fw fo sn me vf lf sp sb no) H := hP
        have hD9 : va_D A (wW cyD cyI cyJ cyZ aw ad ak ar au ae av ab df kf rf uf st fw fo sn me vf lf sp sb no) := hD
        exact W.dret (v := (FP.l2d sm)) hx hb hr (fun t ht hW => ⟨⟨(FP.l2d sm), (), rfl, (by rw [hF9]), by rw [ht]; exact hP9, va_K.moved hW.alike hK, hD9⟩, hS.F ht⟩) hS.2.2 dX2_strengthsBehind_61
      refine lv_lload_n hx hb dX2_strengthsBehind_34 rfl (lv_at hl 1 rfl) ?_
      refine lv_aload_n hx hb dX2_strengthsBehind_35 rfl (lv_at hl 3 rfl) ?_
      refine va_get (D := D) (ci := 2) (v := .ref ae) (C := RX2) (T := TX2) (N := 8) hx hb hts (fun _ h => (List.mem_cons_of_mem _ (List.mem_append_left _ (List.mem_append_right _ h)))) hown hK hP 0 rfl rfl 0 (by decide) (hts (.fieldLink RX2 34 "BottomWalks$Walk" "echoes" "LBottomWalks$Echoes;") (List.mem_of_getElem? (i := 1) rfl)) (fun _ h9 => h9) rfl dX2_strengthsBehind_36 ?_
      refine lv_aload_n hx hb dX2_strengthsBehind_39 rfl (lv_at hl 3 rfl) ?_
      refine va_get (D := D) (ci := 2) (v := .int fw) (C := RX2) (T := TX2) (N := 8) hx hb hts (fun _ h => (List.mem_cons_of_mem _ (List.mem_append_left _ (List.mem_append_right _ h)))) hown hK hP 0 rfl rfl 6 (by decide) (hts (.fieldLink RX2 27 "BottomWalks$Walk" "frequencyWalked" "I") (List.mem_of_getElem? (i := 2) rfl)) (fun _ h9 => h9) rfl dX2_strengthsBehind_40 ?_
      refine lv_iload_n hx hb dX2_strengthsBehind_43 rfl (lv_at hl 4 rfl) ?_
      refine lv_iload_n hx hb dX2_strengthsBehind_44 rfl (lv_at hl 2 rfl) ?_
      refine lv_iload hx hb dX2_strengthsBehind_45 (lv_at hl 0 rfl) ?_
      refine lv_iadd hx hb dX2_strengthsBehind_47 ?_
      have hPc : va_P D vwCl (wE cyD cyI cyJ cyZ ae av ab sn me vf lf sp sb no) H := hP.sub [5, 6, 7] rfl
      have hDc : va_D A (wE cyD cyI cyJ cyZ ae av ab sn me vf lf sp sb no) := hD.sub [5, 6, 7] (by decide) rfl
      refine klE (ws' := (wW cyD cyI cyJ cyZ aw ad ak ar au ae av ab df kf rf uf st fw fo sn me vf lf sp sb no)) (wc := (wE cyD cyI cyJ cyZ ae av ab sn me vf lf sp sb no)) (wr := [(aw, .inr (2, [.ref ae, .ref ad, .ref ak, .ref ar, .ref au, .int st, .int fw, .int fo])), (ad, .inl (cyD, 32, .inr (.inr (.inr (.inl df))))), (ak, .inl (cyZ, 32, .inl kf)), (ar, .inl (cyI, 32, .inl rf)), (au, .inl (cyJ, 32 * sn, .inr (.inl uf)))]) (w1 := (wE cyD cyI cyJ cyZ ae av ab sn me vf lf sp sb no)) (va_runV (As := [.int fw, .int p1, .int (kk + (nI j))]) (rest := [.long (sm)]) ⟨hx, hb, hml, hown, hts⟩ (c_X0_strength (l := l) (D := D) (cyD := cyD) (cyI := cyI) (cyJ := cyJ) (cyZ := cyZ) ae av ab sn me vf lf sp sb no H.size fw p1 (kk + (nI j)) hE) (cwV 3 hts gX2_strengthsBehind_X0_strength rfl rfl rfl (by decide +kernel) ⟨Nat.le_of_ble_eq_true rfl, Nat.le_of_ble_eq_true rfl⟩) (kV (ci := 0) (q0 := 0) (q := (RX0, TX0, 7)) hN hK hPc hDc rfl rfl rfl) rfl rfl hl.1 rfl (lv_room (Nat.le_of_ble_eq_true rfl)) dX2_strengthsBehind_48 ⟨Nat.le_of_ble_eq_true rfl, Nat.le_of_ble_eq_true rfl⟩) hP hD hS hA [5, 6, 7] [0, 1, 2, 3, 4] [0, 1, 2, 3, 4, 5, 6, 7] rfl rfl (by decide) (by decide) rfl (by decide) (fun H locs hP hD hS => ?_)
      refine lv_ladd hx hb dX2_strengthsBehind_51 ?_
      refine lv_lstore_n (lv' := [(3, .long (sm + (fX0_strength sn me vf lf sp sb no fw p1 (kk + (nI j))))), (5, .int ((nI j))), (2, .int (kk)), (0, .ref aw), (1, .int p1)]) hx hb dX2_strengthsBehind_52 rfl hl (by decide) rfl (fun ls hl => ?_)
      refine lv_iinc (v := (((nI j)) + 1)) (lv' := [(5, .int (((nI j)) + 1)), (3, .long (sm + (fX0_strength sn me vf lf sp sb no fw p1 (kk + (nI j))))), (2, .int (kk)), (0, .ref aw), (1, .int p1)]) hx hb dX2_strengthsBehind_53 hl (k := 1) rfl rfl (by decide) rfl (fun ls hl => ?_)
      refine lv_goto (tgt := 27) hx hb dX2_strengthsBehind_56 (by decide) ?_
      exact ih (j + 1) (kk) (sm + (fX0_strength sn me vf lf sp sb no fw p1 (kk + (nI j)))) _ _ (by omega) (by have := Nat.lt_of_not_le (fun z => c_31 (nI_lt (a := 8) z (by omega))); omega) (by rw [← nI_1 j]; rw [hF, fX2_strengthsBehind_L27, if_neg c_31]) hP hD hS _ (by rw [← nI_1 j]; exact lv_sub hl [0, 1, 2, 3, 4] rfl)
  exact loop_27 9 1 (fX2_lowest df sn me p1) 0 _ _ rfl (by decide) (by rw [nI_one]; rw [fX2_strengthsBehind, if_neg c_5]) hP hD hS _ (by exact lv_sub hl [0, 1, 2, 3, 4] rfl)
theorem i_le_of {x t : Int32} {n : Nat} (h1 : ¬ nI n < t) (h2 : ¬ t < x) : x ≤ nI n := by
  have a := Int32.not_lt.mp h1
  have b := Int32.not_lt.mp h2
  exact Int32.le_trans b a
theorem from_ok {sn : Nat} (me : UInt64) (df : Nat → UInt64) (p : Int32) (h1 : 1 ≤ sn) (h2 : sn ≤ 64) : ∃ a : Nat, a < 64 ∧ fX2_lowest df sn me p = nI a := by
  obtain ⟨q, a, b⟩ := lowest_nI me df p h1 h2
  exact ⟨q, by omega, b⟩
theorem fromW_ok {sn : Nat} (me : UInt64) (df : Nat → UInt64) (p : Int32) (h1 : 1 ≤ sn) (h2 : sn ≤ 64) {K S : Nat} {p3 st : Int32} (hk : p3 = nI K) (hK : K < 64) (hS : st = nI S) (hS64 : S ≤ 64) : ∃ a : Nat, a < 64 ∧ (if fX2_lowest df sn me p < (p3 - st) then (p3 - st) else fX2_lowest df sn me p) = nI a := by
  obtain ⟨q, a, b⟩ := lowest_nI me df p h1 h2
  rw [b, hk, hS]
  by_cases c : S ≤ K
  · rw [pk_sub c]
    split
    · exact ⟨K - S, by omega, rfl⟩
    · exact ⟨q, by omega, rfl⟩
  · have h := pk_sneg (a := K) (b := S) (by omega) (by omega)
    rw [if_neg (fun z => nI_pos (n := q) (by omega) (Int32.lt_trans z h))]
    exact ⟨q, by omega, rfl⟩
theorem to_ok {sn : Nat} (me : UInt64) (df : Nat → UInt64) (p : Int32) (h1 : 1 ≤ sn) (h2 : sn ≤ 64) : ¬ nI 63 < fX2_highest df sn me p := by
  obtain ⟨q, a, b⟩ := highest_nI me df p h1 h2
  rw [b]; exact nI_nlt (by omega) (by decide)
theorem toW_ok {sn : Nat} (me : UInt64) (df : Nat → UInt64) (p : Int32) (h1 : 1 ≤ sn) (h2 : sn ≤ 64) (y : Int32) : ¬ nI 63 < (if y < fX2_highest df sn me p then y else fX2_highest df sn me p) := by
  have h := to_ok me df p h1 h2
  split
  · rename_i c
    exact fun z => h (Int32.lt_trans z c)
  · exact h
def fX2_bestBefore_L80 (df : Nat → UInt64) (uf : Nat → Int64) (st : Int32) (sn : Nat) (me : UInt64) (v_tt : Int32) (p1 : Int32) (p2 : Int32) (p3 : Int32) : Nat → (Int32) → (Int32) → (Int64) → Int32
  | 0, v_j, v_bb, v_gs => 0
  | k + 1, v_j, v_bb, v_gs => if v_tt < v_j then v_bb else (if (lg_cmp (fX2_sumAt uf sn p1 (v_j)) v_gs) ≤ 0 then (fX2_bestBefore_L80 df uf st sn me v_tt p1 p2 p3 k ((v_j) + 1) (v_bb) (v_gs)) else ((fX2_bestBefore_L80 df uf st sn me v_tt p1 p2 p3 k ((v_j) + 1) (v_j) (fX2_sumAt uf sn p1 (v_j)))))
def fX2_bestBefore_L61 (df : Nat → UInt64) (uf : Nat → Int64) (st : Int32) (sn : Nat) (me : UInt64)  (p1 : Int32) (p2 : Int32) (p3 : Int32) : Nat → (Int32) → (Int32) → Int32
  | 0, v_tf, v_tt => 0
  | k + 1, v_tf, v_tt => (fX2_bestBefore_L80 df uf st sn me v_tt p1 p2 p3 66 (v_tf + (1 : Int32)) (v_tf) (fX2_sumAt uf sn p1 (v_tf)))
def fX2_bestBefore (df : Nat → UInt64) (uf : Nat → Int64) (st : Int32) (sn : Nat) (me : UInt64) (p1 : Int32) (p2 : Int32) (p3 : Int32) : Int32 := if p2 = (-1 : Int32) then (fX2_bestBefore_L61 df uf st sn me p1 p2 p3 1 (fX2_lowest df sn me p1) (fX2_highest df sn me p1)) else (if (fX2_isEdited df p1) = 0 then (if (fX2_isEdited df p2) = 0 then (fX2_bestBefore_L61 df uf st sn me p1 p2 p3 1 (if (fX2_lowest df sn me p1) < (p3 - st) then (p3 - st) else (fX2_lowest df sn me p1)) (if (p3 + st) < (fX2_highest df sn me p1) then (p3 + st) else (fX2_highest df sn me p1))) else ((fX2_bestBefore_L61 df uf st sn me p1 p2 p3 1 (fX2_lowest df sn me p1) (fX2_highest df sn me p1)))) else ((fX2_bestBefore_L61 df uf st sn me p1 p2 p3 1 (fX2_lowest df sn me p1) (fX2_highest df sn me p1))))
set_option maxHeartbeats 4000000 in
set_option maxRecDepth 100000 in
theorem c_X2_bestBefore {l : Launch} {D : va_G} {cyD cyI cyJ cyZ : ClassId} (aw ad ak ar au ae av ab : Nat) (df : Nat → UInt64) (kf : Nat → Int32) (rf : Nat → Int32) (uf : Nat → Int64) (st : Int32) (fw : Int32) (fo : Int32) (sn : Nat) (me : UInt64) (vf : Nat → UInt64) (lf : Nat → Int32) (sp : UInt64) (sb : UInt64) (no : UInt64) (sz : Nat) (p1 : Int32) (p2 : Int32) (p3 : Int32) (hE : okE sn me vf sp sb no) (S : Nat) (hS2 : st = nI S) (hS64 : S ≤ 64) (K : Nat) (hk : p3 = nI K) (hK64 : K < 64) : mI l yX2_bestBefore wsX2_bestBefore ({ frames := 3, cells := 0, slots := 0, locals := 65 } : Room) D (kT cyD cyI cyJ cyZ) [.ref aw, .int p1, .int p2, .int p3] (wW cyD cyI cyJ cyZ aw ad ak ar au ae av ab df kf rf uf st fw fo sn me vf lf sp sb no) (wW cyD cyI cyJ cyZ aw ad ak ar au ae av ab df kf rf uf st fw fo sn me vf lf sp sb no) sz (fX2_bestBefore df uf st sn me p1 p2 p3) 0 0 := by
  refine Met.ofW (cc := cX2_bestBefore) (maxL := 12) (ret := (some .int)) (by decide) rfl ?_
  intro p e s m args below meth c s₁ B hml hv
  obtain ⟨rfl, hN, hsz, hP, hK, hD0⟩ := hv
  have hx := B.exec
  have hb := B.bytes
  have hr := B.returns
  have hts := atoms_spec (ws := wsX2_bestBefore) B.pre
  have hown : s.vm.findClass RX2 = some m.cls := findClass_of_methodNamed B.named
  have hlocks := B.notSynchronized
  subst hsz
  have hD := hD0.self (sz := s.heap.size)
  generalize hAe : va_A (wW cyD cyI cyJ cyZ aw ad ak ar au ae av ab df kf rf uf st fw fo sn me vf lf sp sb no) s.heap.size = A at hD ⊢
  have hA : ∀ q : Nat, s.heap.size ≤ q → A q := fun q h => by rw [← hAe]; exact Or.inr h
  have hS : va_S A s.heap s.heap [] := va_S.rf
  have hP : va_P D vwCl (wW cyD cyI cyJ cyZ aw ad ak ar au ae av ab df kf rf uf st fw fo sn me vf lf sp sb no) s.heap := hP
  have hl := lv_entry [.ref aw, .int p1, .int p2, .int p3] (n := 12) (Nat.le_of_ble_eq_true rfl)
  rw [lg_entry_eq]
  generalize (lg_sl [.ref aw, .int p1, .int p2, .int p3] ++ List.replicate (12 - (lg_sl [.ref aw, .int p1, .int p2, .int p3]).length) Slot.unset).toArray = ls at hl ⊢
  have hl : lv_has ls 12 [(0, .ref aw), (1, .int p1), (2, .int p2), (3, .int p3)] := hl
  obtain ⟨H, hHe⟩ : ∃ H : Heap, H = s.heap := ⟨_, rfl⟩
  have hP : va_P D vwCl (wW cyD cyI cyJ cyZ aw ad ak ar au ae av ab df kf rf uf st fw fo sn me vf lf sp sb no) H := by rw [hHe]; exact hP
  have hS : va_S A s.heap H [] := by rw [hHe]; exact hS
  rw [← hHe]
  refine lv_aload_n hx hb dX2_bestBefore_0 rfl (lv_at hl 0 rfl) ?_
  refine lv_iload_n hx hb dX2_bestBefore_1 rfl (lv_at hl 1 rfl) ?_
  have hPc : va_P D vwCl (wW cyD cyI cyJ cyZ aw ad ak ar au ae av ab df kf rf uf st fw fo sn me vf lf sp sb no) H := hP.sub [0, 1, 2, 3, 4, 5, 6, 7] rfl
  have hDc : va_D A (wW cyD cyI cyJ cyZ aw ad ak ar au ae av ab df kf rf uf st fw fo sn me vf lf sp sb no) := hD.sub [0, 1, 2, 3, 4, 5, 6, 7] (by decide) rfl
  refine kiE (ws' := (wW cyD cyI cyJ cyZ aw ad ak ar au ae av ab df kf rf uf st fw fo sn me vf lf sp sb no)) (wc := (wW cyD cyI cyJ cyZ aw ad ak ar au ae av ab df kf rf uf st fw fo sn me vf lf sp sb no)) (wr := []) (w1 := (wW cyD cyI cyJ cyZ aw ad ak ar au ae av ab df kf rf uf st fw fo sn me vf lf sp sb no)) (va_runV (As := [.int p1]) (rest := []) ⟨hx, hb, hml, hown, hts⟩ (c_X2_lowest (l := l) (D := D) (cyD := cyD) (cyI := cyI) (cyJ := cyJ) (cyZ := cyZ) aw ad ak ar au ae av ab df kf rf uf st fw fo sn me vf lf sp sb no H.size p1 hE) (cwV 1 hts gX2_bestBefore_X2_lowest rfl rfl rfl (by decide +kernel) ⟨Nat.le_of_ble_eq_true rfl, Nat.le_of_ble_eq_true rfl⟩) (kV (ci := 2) (q0 := 0) (q := (RX2, TX2, 8)) hN hK hPc hDc rfl rfl rfl) rfl rfl hl.1 rfl (lv_room (Nat.le_of_ble_eq_true rfl)) dX2_bestBefore_2 ⟨Nat.le_of_ble_eq_true rfl, Nat.le_of_ble_eq_true rfl⟩) hP hD hS hA [0, 1, 2, 3, 4, 5, 6, 7] [] [0, 1, 2, 3, 4, 5, 6, 7] rfl rfl (by decide) (by decide) rfl (by decide) (fun H locs hP hD hS => ?_)
  refine lv_istore (lv' := [(4, .int (fX2_lowest df sn me p1)), (0, .ref aw), (1, .int p1), (2, .int p2), (3, .int p3)]) hx hb dX2_bestBefore_5 hl (by decide) rfl (fun ls hl => ?_)
  refine lv_aload_n hx hb dX2_bestBefore_7 rfl (lv_at hl 1 rfl) ?_
  refine lv_iload_n hx hb dX2_bestBefore_8 rfl (lv_at hl 2 rfl) ?_
  have hPc : va_P D vwCl (wW cyD cyI cyJ cyZ aw ad ak ar au ae av ab df kf rf uf st fw fo sn me vf lf sp sb no) H := hP.sub [0, 1, 2, 3, 4, 5, 6, 7] rfl
  have hDc : va_D A (wW cyD cyI cyJ cyZ aw ad ak ar au ae av ab df kf rf uf st fw fo sn me vf lf sp sb no) := hD.sub [0, 1, 2, 3, 4, 5, 6, 7] (by decide) rfl
  refine kiE (ws' := (wW cyD cyI cyJ cyZ aw ad ak ar au ae av ab df kf rf uf st fw fo sn me vf lf sp sb no)) (wc := (wW cyD cyI cyJ cyZ aw ad ak ar au ae av ab df kf rf uf st fw fo sn me vf lf sp sb no)) (wr := []) (w1 := (wW cyD cyI cyJ cyZ aw ad ak ar au ae av ab df kf rf uf st fw fo sn me vf lf sp sb no)) (va_runV (As := [.int p1]) (rest := []) ⟨hx, hb, hml, hown, hts⟩ (c_X2_highest (l := l) (D := D) (cyD := cyD) (cyI := cyI) (cyJ := cyJ) (cyZ := cyZ) aw ad ak ar au ae av ab df kf rf uf st fw fo sn me vf lf sp sb no H.size p1 hE) (cwV 1 hts gX2_bestBefore_X2_highest rfl rfl rfl (by decide +kernel) ⟨Nat.le_of_ble_eq_true rfl, Nat.le_of_ble_eq_true rfl⟩) (kV (ci := 2) (q0 := 0) (q := (RX2, TX2, 8)) hN hK hPc hDc rfl rfl rfl) rfl rfl hl.1 rfl (lv_room (Nat.le_of_ble_eq_true rfl)) dX2_bestBefore_9 ⟨Nat.le_of_ble_eq_true rfl, Nat.le_of_ble_eq_true rfl⟩) hP hD hS hA [0, 1, 2, 3, 4, 5, 6, 7] [] [0, 1, 2, 3, 4, 5, 6, 7] rfl rfl (by decide) (by decide) rfl (by decide) (fun H locs hP hD hS => ?_)
  refine lv_istore (lv' := [(5, .int (fX2_highest df sn me p1)), (4, .int (fX2_lowest df sn me p1)), (0, .ref aw), (1, .int p1), (2, .int p2), (3, .int p3)]) hx hb dX2_bestBefore_12 hl (by decide) rfl (fun ls hl => ?_)
  refine lv_iload_n hx hb dX2_bestBefore_14 rfl (lv_at hl 4 rfl) ?_
  refine lv_iconst (v := (-1)) hx hb dX2_bestBefore_15 (by decide) ?_
  refine lv_icmp_eq (tgt := 61) hx hb dX2_bestBefore_16 (by decide) (fun c_16 => ?_) (fun c_16 => ?_)
  · have loop_61 : ∀ (k : Nat) (tf tt : Int32) (H : Heap) (locs : List Loc), (k = 1) → (∃ a : Nat, a < 64 ∧ tf = nI a) → (¬ nI 63 < tt) → (fX2_bestBefore df uf st sn me p1 p2 p3) = fX2_bestBefore_L61 df uf st sn me p1 p2 p3 k (tf) (tt) → va_P D vwCl (wW cyD cyI cyJ cyZ aw ad ak ar au ae av ab df kf rf uf st fw fo sn me vf lf sp sb no) H → va_D A (wW cyD cyI cyJ cyZ aw ad ak ar au ae av ab df kf rf uf st fw fo sn me vf lf sp sb no) → va_S A s.heap H locs → ∀ ls, lv_has ls 12 [(5, .int (tt)), (4, .int (tf)), (0, .ref aw), (1, .int p1)] → W p l e (headSpec wsX2_bestBefore ({ frames := 3, cells := 0, slots := 0, locals := 65 } : Room)).room s m ([.ref aw, .int p1, .int p2, .int p3] : List Value).toArray below meth c H locs 0 0 (MQ below (va_Qi (fun (r : Int32) (_ : Unit) => r = (fX2_bestBefore df uf st sn me p1 p2 p3)) (kE D (kT cyD cyI cyJ cyZ) (wW cyD cyI cyJ cyZ aw ad ak ar au ae av ab df kf rf uf st fw fo sn me vf lf sp sb no) A) A) ([.ref aw, .int p1, .int p2, .int p3] : List Value).toArray s 0 0 A) (F0 m 61 ls []) := by
      intro k
      induction k with
      | zero => intro tf tt H locs hkk ha htt hF hP hD hS ls hl; exact absurd hkk (by decide)
      | succ k ih =>
        intro tf tt H locs hkk ha htt hF hP hD hS ls hl
        obtain ⟨a, ha1, hta⟩ := ha
        refine lv_iload hx hb dX2_bestBefore_61 (lv_at hl 1 rfl) ?_
        refine lv_istore (lv' := [(6, .int (tf)), (5, .int (tt)), (4, .int (tf)), (0, .ref aw), (1, .int p1)]) hx hb dX2_bestBefore_63 hl (by decide) rfl (fun ls hl => ?_)
        refine lv_aload_n hx hb dX2_bestBefore_65 rfl (lv_at hl 3 rfl) ?_
        refine lv_iload_n hx hb dX2_bestBefore_66 rfl (lv_at hl 4 rfl) ?_
        refine lv_iload hx hb dX2_bestBefore_67 (lv_at hl 2 rfl) ?_
        have hPc : va_P D vwCl (wW cyD cyI cyJ cyZ aw ad ak ar au ae av ab df kf rf uf st fw fo sn me vf lf sp sb no) H := hP.sub [0, 1, 2, 3, 4, 5, 6, 7] rfl
        have hDc : va_D A (wW cyD cyI cyJ cyZ aw ad ak ar au ae av ab df kf rf uf st fw fo sn me vf lf sp sb no) := hD.sub [0, 1, 2, 3, 4, 5, 6, 7] (by decide) rfl
        refine klE (ws' := (wW cyD cyI cyJ cyZ aw ad ak ar au ae av ab df kf rf uf st fw fo sn me vf lf sp sb no)) (wc := (wW cyD cyI cyJ cyZ aw ad ak ar au ae av ab df kf rf uf st fw fo sn me vf lf sp sb no)) (wr := []) (w1 := (wW cyD cyI cyJ cyZ aw ad ak ar au ae av ab df kf rf uf st fw fo sn me vf lf sp sb no)) (va_runV (As := [.int p1, .int (tf)]) (rest := []) ⟨hx, hb, hml, hown, hts⟩ (c_X2_sumAt (l := l) (D := D) (cyD := cyD) (cyI := cyI) (cyJ := cyJ) (cyZ := cyZ) aw ad ak ar au ae av ab df kf rf uf st fw fo sn me vf lf sp sb no H.size p1 (tf) hE) (cwV 2 hts gX2_bestBefore_X2_sumAt rfl rfl rfl (by decide +kernel) ⟨Nat.le_of_ble_eq_true rfl, Nat.le_of_ble_eq_true rfl⟩) (kV (ci := 2) (q0 := 0) (q := (RX2, TX2, 8)) hN hK hPc hDc rfl rfl rfl) rfl rfl hl.1 rfl (lv_room (Nat.le_of_ble_eq_true rfl)) dX2_bestBefore_69 ⟨Nat.le_of_ble_eq_true rfl, Nat.le_of_ble_eq_true rfl⟩) hP hD hS hA [0, 1, 2, 3, 4, 5, 6, 7] [] [0, 1, 2, 3, 4, 5, 6, 7] rfl rfl (by decide) (by decide) rfl (by decide) (fun H locs hP hD hS => ?_)
        refine lv_lstore (lv' := [(7, .long (fX2_sumAt uf sn p1 (tf))), (6, .int (tf)), (5, .int (tt)), (4, .int (tf)), (0, .ref aw), (1, .int p1)]) hx hb dX2_bestBefore_72 hl (by decide) rfl (fun ls hl => ?_)
        refine lv_iload hx hb dX2_bestBefore_74 (lv_at hl 3 rfl) ?_
        refine lv_iconst (v := 1) hx hb dX2_bestBefore_76 (by decide) ?_
        refine lv_iadd hx hb dX2_bestBefore_77 ?_
        refine lv_istore (lv' := [(9, .int (tf + (1 : Int32))), (7, .long (fX2_sumAt uf sn p1 (tf))), (6, .int (tf)), (5, .int (tt)), (4, .int (tf)), (0, .ref aw), (1, .int p1)]) hx hb dX2_bestBefore_78 hl (by decide) rfl (fun ls hl => ?_)
        have loop_80 : ∀ (k : Nat) (j : Nat) (bb : Int32) (gs : Int64) (H : Heap) (locs : List Loc), (66 ≤ j + k) → (j ≤ 64) → (fX2_bestBefore df uf st sn me p1 p2 p3) = fX2_bestBefore_L80 df uf st sn me tt p1 p2 p3 k ((nI j)) (bb) (gs) → va_P D vwCl (wW cyD cyI cyJ cyZ aw ad ak ar au ae av ab df kf rf uf st fw fo sn me vf lf sp sb no) H → va_D A (wW cyD cyI cyJ cyZ aw ad ak ar au ae av ab df kf rf uf st fw fo sn me vf lf sp sb no) → va_S A s.heap H locs → ∀ ls, lv_has ls 12 [(9, .int ((nI j))), (7, .long (gs)), (6, .int (bb)), (5, .int (tt)), (0, .ref aw), (1, .int p1)] → W p l e (headSpec wsX2_bestBefore ({ frames := 3, cells := 0, slots := 0, locals := 65 } : Room)).room s m ([.ref aw, .int p1, .int p2, .int p3] : List Value).toArray below meth c H locs 0 0 (MQ below (va_Qi (fun (r : Int32) (_ : Unit) => r = (fX2_bestBefore df uf st sn me p1 p2 p3)) (kE D (kT cyD cyI cyJ cyZ) (wW cyD cyI cyJ cyZ aw ad ak ar au ae av ab df kf rf uf st fw fo sn me vf lf sp sb no) A) A) ([.ref aw, .int p1, .int p2, .int p3] : List Value).toArray s 0 0 A) (F0 m 80 ls []) := by
          intro k
          induction k with
          | zero => intro j bb gs H locs hj hj3 hF hP hD hS ls hl; exact absurd hj3 (by omega)
          | succ k ih =>
            intro j bb gs H locs hj hj3 hF hP hD hS ls hl
            refine lv_iload hx hb dX2_bestBefore_80 (lv_at hl 0 rfl) ?_
            refine lv_iload hx hb dX2_bestBefore_82 (lv_at hl 3 rfl) ?_
            refine lv_icmp_gt (tgt := 118) hx hb dX2_bestBefore_84 (by decide) (fun c_84 => ?_) (fun c_84 => ?_)
            · refine lv_iload hx hb dX2_bestBefore_118 (lv_at hl 2 rfl) ?_
              have hF9 : (fX2_bestBefore df uf st sn me p1 p2 p3) = bb := by rw [hF, fX2_bestBefore_L80, if_pos c_84]
              have hP9 : va_P D vwCl (wW cyD cyI cyJ cyZ aw ad ak ar au ae av ab df kf rf uf st fw fo sn me vf lf sp sb no) H := hP
              have hD9 : va_D A (wW cyD cyI cyJ cyZ aw ad ak ar au ae av ab df kf rf uf st fw fo sn me vf lf sp sb no) := hD
              exact W.iret (v := bb) hx hb hr (fun t ht hW => ⟨⟨bb, (), rfl, (by rw [hF9]), by rw [ht]; exact hP9, va_K.moved hW.alike hK, hD9⟩, hS.F ht⟩) hS.2.2 dX2_bestBefore_120
            refine lv_aload_n hx hb dX2_bestBefore_87 rfl (lv_at hl 4 rfl) ?_
            refine lv_iload_n hx hb dX2_bestBefore_88 rfl (lv_at hl 5 rfl) ?_
            refine lv_iload hx hb dX2_bestBefore_89 (lv_at hl 0 rfl) ?_
            have hPc : va_P D vwCl (wW cyD cyI cyJ cyZ aw ad ak ar au ae av ab df kf rf uf st fw fo sn me vf lf sp sb no) H := hP.sub [0, 1, 2, 3, 4, 5, 6, 7] rfl
            have hDc : va_D A (wW cyD cyI cyJ cyZ aw ad ak ar au ae av ab df kf rf uf st fw fo sn me vf lf sp sb no) := hD.sub [0, 1, 2, 3, 4, 5, 6, 7] (by decide) rfl
            refine klE (ws' := (wW cyD cyI cyJ cyZ aw ad ak ar au ae av ab df kf rf uf st fw fo sn me vf lf sp sb no)) (wc := (wW cyD cyI cyJ cyZ aw ad ak ar au ae av ab df kf rf uf st fw fo sn me vf lf sp sb no)) (wr := []) (w1 := (wW cyD cyI cyJ cyZ aw ad ak ar au ae av ab df kf rf uf st fw fo sn me vf lf sp sb no)) (va_runV (As := [.int p1, .int ((nI j))]) (rest := []) ⟨hx, hb, hml, hown, hts⟩ (c_X2_sumAt (l := l) (D := D) (cyD := cyD) (cyI := cyI) (cyJ := cyJ) (cyZ := cyZ) aw ad ak ar au ae av ab df kf rf uf st fw fo sn me vf lf sp sb no H.size p1 ((nI j)) hE) (cwV 2 hts gX2_bestBefore_X2_sumAt rfl rfl rfl (by decide +kernel) ⟨Nat.le_of_ble_eq_true rfl, Nat.le_of_ble_eq_true rfl⟩) (kV (ci := 2) (q0 := 0) (q := (RX2, TX2, 8)) hN hK hPc hDc rfl rfl rfl) rfl rfl hl.1 rfl (lv_room (Nat.le_of_ble_eq_true rfl)) dX2_bestBefore_91 ⟨Nat.le_of_ble_eq_true rfl, Nat.le_of_ble_eq_true rfl⟩) hP hD hS hA [0, 1, 2, 3, 4, 5, 6, 7] [] [0, 1, 2, 3, 4, 5, 6, 7] rfl rfl (by decide) (by decide) rfl (by decide) (fun H locs hP hD hS => ?_)
            refine lv_lstore (lv' := [(10, .long (fX2_sumAt uf sn p1 ((nI j)))), (9, .int ((nI j))), (7, .long (gs)), (6, .int (bb)), (5, .int (tt)), (0, .ref aw), (1, .int p1)]) hx hb dX2_bestBefore_94 hl (by decide) rfl (fun ls hl => ?_)
            refine lv_lload hx hb dX2_bestBefore_96 (lv_at hl 0 rfl) ?_
            refine lv_lload hx hb dX2_bestBefore_98 (lv_at hl 2 rfl) ?_
            refine W.lcmp hx hb dX2_bestBefore_100 ?_
            refine lv_if_le (tgt := 112) hx hb dX2_bestBefore_101 (by decide) (fun c_101 => ?_) (fun c_101 => ?_)
            · refine lv_iinc (v := (((nI j)) + 1)) (lv' := [(9, .int (((nI j)) + 1)), (10, .long (fX2_sumAt uf sn p1 ((nI j)))), (7, .long (gs)), (6, .int (bb)), (5, .int (tt)), (0, .ref aw), (1, .int p1)]) hx hb dX2_bestBefore_112 hl (k := 1) rfl rfl (by decide) rfl (fun ls hl => ?_)
              refine lv_goto (tgt := 80) hx hb dX2_bestBefore_115 (by decide) ?_
              exact ih (j + 1) (bb) (gs) _ _ (by omega) (by have h9 : nI j ≤ nI 63 := i_le_of htt c_84; have := (nI_leI (by omega) (by decide)).mp h9; omega) (by rw [← nI_1 j]; rw [hF, fX2_bestBefore_L80, if_neg c_84, if_pos c_101]) hP hD hS _ (by rw [← nI_1 j]; exact lv_sub hl [0, 2, 3, 4, 5, 6] rfl)
            refine lv_iload hx hb dX2_bestBefore_104 (lv_at hl 1 rfl) ?_
            refine lv_istore (lv' := [(6, .int ((nI j))), (10, .long (fX2_sumAt uf sn p1 ((nI j)))), (9, .int ((nI j))), (7, .long (gs)), (5, .int (tt)), (0, .ref aw), (1, .int p1)]) hx hb dX2_bestBefore_106 hl (by decide) rfl (fun ls hl => ?_)
            refine lv_lload hx hb dX2_bestBefore_108 (lv_at hl 1 rfl) ?_
            refine lv_lstore (lv' := [(7, .long (fX2_sumAt uf sn p1 ((nI j)))), (6, .int ((nI j))), (10, .long (fX2_sumAt uf sn p1 ((nI j)))), (9, .int ((nI j))), (5, .int (tt)), (0, .ref aw), (1, .int p1)]) hx hb dX2_bestBefore_110 hl (by decide) rfl (fun ls hl => ?_)
            refine lv_iinc (v := (((nI j)) + 1)) (lv' := [(9, .int (((nI j)) + 1)), (7, .long (fX2_sumAt uf sn p1 ((nI j)))), (6, .int ((nI j))), (10, .long (fX2_sumAt uf sn p1 ((nI j)))), (5, .int (tt)), (0, .ref aw), (1, .int p1)]) hx hb dX2_bestBefore_112 hl (k := 3) rfl rfl (by decide) rfl (fun ls hl => ?_)
            refine lv_goto (tgt := 80) hx hb dX2_bestBefore_115 (by decide) ?_
            exact ih (j + 1) ((nI j)) (fX2_sumAt uf sn p1 ((nI j))) _ _ (by omega) (by have h9 : nI j ≤ nI 63 := i_le_of htt c_84; have := (nI_leI (by omega) (by decide)).mp h9; omega) (by rw [← nI_1 j]; rw [hF, fX2_bestBefore_L80, if_neg c_84, if_neg c_101]) hP hD hS _ (by rw [← nI_1 j]; exact lv_sub hl [0, 1, 2, 4, 5, 6] rfl)
        exact loop_80 66 (a + 1) tf (fX2_sumAt uf sn p1 (tf)) _ _ (by omega) (by omega) (by rw [← nI_1 a, ← hta]; rw [hF, fX2_bestBefore_L61]) hP hD hS _ (by rw [← nI_1 a, ← hta]; exact lv_sub hl [0, 1, 2, 3, 5, 6] rfl)
    exact loop_61 1 (fX2_lowest df sn me p1) (fX2_highest df sn me p1) _ _ rfl (from_ok me df p1 hE.1 hE.2.1) (to_ok me df p1 hE.1 hE.2.1) (by rw [fX2_bestBefore, if_pos c_16]) hP hD hS _ (by exact lv_sub hl [0, 1, 2, 3] rfl)
  refine lv_aload_n hx hb dX2_bestBefore_19 rfl (lv_at hl 2 rfl) ?_
  refine lv_iload_n hx hb dX2_bestBefore_20 rfl (lv_at hl 3 rfl) ?_
  have hPc : va_P D vwCl (wW cyD cyI cyJ cyZ aw ad ak ar au ae av ab df kf rf uf st fw fo sn me vf lf sp sb no) H := hP.sub [0, 1, 2, 3, 4, 5, 6, 7] rfl
  have hDc : va_D A (wW cyD cyI cyJ cyZ aw ad ak ar au ae av ab df kf rf uf st fw fo sn me vf lf sp sb no) := hD.sub [0, 1, 2, 3, 4, 5, 6, 7] (by decide) rfl
  refine kzE (ws' := (wW cyD cyI cyJ cyZ aw ad ak ar au ae av ab df kf rf uf st fw fo sn me vf lf sp sb no)) (wc := (wW cyD cyI cyJ cyZ aw ad ak ar au ae av ab df kf rf uf st fw fo sn me vf lf sp sb no)) (wr := []) (w1 := (wW cyD cyI cyJ cyZ aw ad ak ar au ae av ab df kf rf uf st fw fo sn me vf lf sp sb no)) (va_runV (As := [.int p1]) (rest := []) ⟨hx, hb, hml, hown, hts⟩ (c_X2_isEdited (l := l) (D := D) (cyD := cyD) (cyI := cyI) (cyJ := cyJ) (cyZ := cyZ) aw ad ak ar au ae av ab df kf rf uf st fw fo sn me vf lf sp sb no H.size p1) (cwV 1 hts gX2_bestBefore_X2_isEdited rfl rfl rfl (by decide +kernel) ⟨Nat.le_of_ble_eq_true rfl, Nat.le_of_ble_eq_true rfl⟩) (kV (ci := 2) (q0 := 0) (q := (RX2, TX2, 8)) hN hK hPc hDc rfl rfl rfl) rfl rfl hl.1 rfl (lv_room (Nat.le_of_ble_eq_true rfl)) dX2_bestBefore_21 ⟨Nat.le_of_ble_eq_true rfl, Nat.le_of_ble_eq_true rfl⟩) hP hD hS hA [0, 1, 2, 3, 4, 5, 6, 7] [] [0, 1, 2, 3, 4, 5, 6, 7] rfl rfl (by decide) (by decide) rfl (by decide) (fun H locs hz_21 hP hD hS => ?_)
  refine lv_if_ne (tgt := 61) hx hb dX2_bestBefore_24 (by decide) (fun c_24 => ?_) (fun c_24 => ?_)
  · have loop_61 : ∀ (k : Nat) (tf tt : Int32) (H : Heap) (locs : List Loc), (k = 1) → (∃ a : Nat, a < 64 ∧ tf = nI a) → (¬ nI 63 < tt) → (fX2_bestBefore df uf st sn me p1 p2 p3) = fX2_bestBefore_L61 df uf st sn me p1 p2 p3 k (tf) (tt) → va_P D vwCl (wW cyD cyI cyJ cyZ aw ad ak ar au ae av ab df kf rf uf st fw fo sn me vf lf sp sb no) H → va_D A (wW cyD cyI cyJ cyZ aw ad ak ar au ae av ab df kf rf uf st fw fo sn me vf lf sp sb no) → va_S A s.heap H locs → ∀ ls, lv_has ls 12 [(5, .int (tt)), (4, .int (tf)), (0, .ref aw), (1, .int p1)] → W p l e (headSpec wsX2_bestBefore ({ frames := 3, cells := 0, slots := 0, locals := 65 } : Room)).room s m ([.ref aw, .int p1, .int p2, .int p3] : List Value).toArray below meth c H locs 0 0 (MQ below (va_Qi (fun (r : Int32) (_ : Unit) => r = (fX2_bestBefore df uf st sn me p1 p2 p3)) (kE D (kT cyD cyI cyJ cyZ) (wW cyD cyI cyJ cyZ aw ad ak ar au ae av ab df kf rf uf st fw fo sn me vf lf sp sb no) A) A) ([.ref aw, .int p1, .int p2, .int p3] : List Value).toArray s 0 0 A) (F0 m 61 ls []) := by
      intro k
      induction k with
      | zero => intro tf tt H locs hkk ha htt hF hP hD hS ls hl; exact absurd hkk (by decide)
      | succ k ih =>
        intro tf tt H locs hkk ha htt hF hP hD hS ls hl
        obtain ⟨a, ha1, hta⟩ := ha
        refine lv_iload hx hb dX2_bestBefore_61 (lv_at hl 1 rfl) ?_
        refine lv_istore (lv' := [(6, .int (tf)), (5, .int (tt)), (4, .int (tf)), (0, .ref aw), (1, .int p1)]) hx hb dX2_bestBefore_63 hl (by decide) rfl (fun ls hl => ?_)
        refine lv_aload_n hx hb dX2_bestBefore_65 rfl (lv_at hl 3 rfl) ?_
        refine lv_iload_n hx hb dX2_bestBefore_66 rfl (lv_at hl 4 rfl) ?_
        refine lv_iload hx hb dX2_bestBefore_67 (lv_at hl 2 rfl) ?_
        have hPc : va_P D vwCl (wW cyD cyI cyJ cyZ aw ad ak ar au ae av ab df kf rf uf st fw fo sn me vf lf sp sb no) H := hP.sub [0, 1, 2, 3, 4, 5, 6, 7] rfl
        have hDc : va_D A (wW cyD cyI cyJ cyZ aw ad ak ar au ae av ab df kf rf uf st fw fo sn me vf lf sp sb no) := hD.sub [0, 1, 2, 3, 4, 5, 6, 7] (by decide) rfl
        refine klE (ws' := (wW cyD cyI cyJ cyZ aw ad ak ar au ae av ab df kf rf uf st fw fo sn me vf lf sp sb no)) (wc := (wW cyD cyI cyJ cyZ aw ad ak ar au ae av ab df kf rf uf st fw fo sn me vf lf sp sb no)) (wr := []) (w1 := (wW cyD cyI cyJ cyZ aw ad ak ar au ae av ab df kf rf uf st fw fo sn me vf lf sp sb no)) (va_runV (As := [.int p1, .int (tf)]) (rest := []) ⟨hx, hb, hml, hown, hts⟩ (c_X2_sumAt (l := l) (D := D) (cyD := cyD) (cyI := cyI) (cyJ := cyJ) (cyZ := cyZ) aw ad ak ar au ae av ab df kf rf uf st fw fo sn me vf lf sp sb no H.size p1 (tf) hE) (cwV 2 hts gX2_bestBefore_X2_sumAt rfl rfl rfl (by decide +kernel) ⟨Nat.le_of_ble_eq_true rfl, Nat.le_of_ble_eq_true rfl⟩) (kV (ci := 2) (q0 := 0) (q := (RX2, TX2, 8)) hN hK hPc hDc rfl rfl rfl) rfl rfl hl.1 rfl (lv_room (Nat.le_of_ble_eq_true rfl)) dX2_bestBefore_69 ⟨Nat.le_of_ble_eq_true rfl, Nat.le_of_ble_eq_true rfl⟩) hP hD hS hA [0, 1, 2, 3, 4, 5, 6, 7] [] [0, 1, 2, 3, 4, 5, 6, 7] rfl rfl (by decide) (by decide) rfl (by decide) (fun H locs hP hD hS => ?_)
        refine lv_lstore (lv' := [(7, .long (fX2_sumAt uf sn p1 (tf))), (6, .int (tf)), (5, .int (tt)), (4, .int (tf)), (0, .ref aw), (1, .int p1)]) hx hb dX2_bestBefore_72 hl (by decide) rfl (fun ls hl => ?_)
        refine lv_iload hx hb dX2_bestBefore_74 (lv_at hl 3 rfl) ?_
        refine lv_iconst (v := 1) hx hb dX2_bestBefore_76 (by decide) ?_
        refine lv_iadd hx hb dX2_bestBefore_77 ?_
        refine lv_istore (lv' := [(9, .int (tf + (1 : Int32))), (7, .long (fX2_sumAt uf sn p1 (tf))), (6, .int (tf)), (5, .int (tt)), (4, .int (tf)), (0, .ref aw), (1, .int p1)]) hx hb dX2_bestBefore_78 hl (by decide) rfl (fun ls hl => ?_)
        have loop_80 : ∀ (k : Nat) (j : Nat) (bb : Int32) (gs : Int64) (H : Heap) (locs : List Loc), (66 ≤ j + k) → (j ≤ 64) → (fX2_bestBefore df uf st sn me p1 p2 p3) = fX2_bestBefore_L80 df uf st sn me tt p1 p2 p3 k ((nI j)) (bb) (gs) → va_P D vwCl (wW cyD cyI cyJ cyZ aw ad ak ar au ae av ab df kf rf uf st fw fo sn me vf lf sp sb no) H → va_D A (wW cyD cyI cyJ cyZ aw ad ak ar au ae av ab df kf rf uf st fw fo sn me vf lf sp sb no) → va_S A s.heap H locs → ∀ ls, lv_has ls 12 [(9, .int ((nI j))), (7, .long (gs)), (6, .int (bb)), (5, .int (tt)), (0, .ref aw), (1, .int p1)] → W p l e (headSpec wsX2_bestBefore ({ frames := 3, cells := 0, slots := 0, locals := 65 } : Room)).room s m ([.ref aw, .int p1, .int p2, .int p3] : List Value).toArray below meth c H locs 0 0 (MQ below (va_Qi (fun (r : Int32) (_ : Unit) => r = (fX2_bestBefore df uf st sn me p1 p2 p3)) (kE D (kT cyD cyI cyJ cyZ) (wW cyD cyI cyJ cyZ aw ad ak ar au ae av ab df kf rf uf st fw fo sn me vf lf sp sb no) A) A) ([.ref aw, .int p1, .int p2, .int p3] : List Value).toArray s 0 0 A) (F0 m 80 ls []) := by
          intro k
          induction k with
          | zero => intro j bb gs H locs hj hj3 hF hP hD hS ls hl; exact absurd hj3 (by omega)
          | succ k ih =>
            intro j bb gs H locs hj hj3 hF hP hD hS ls hl
            refine lv_iload hx hb dX2_bestBefore_80 (lv_at hl 0 rfl) ?_
            refine lv_iload hx hb dX2_bestBefore_82 (lv_at hl 3 rfl) ?_
            refine lv_icmp_gt (tgt := 118) hx hb dX2_bestBefore_84 (by decide) (fun c_84 => ?_) (fun c_84 => ?_)
            · refine lv_iload hx hb dX2_bestBefore_118 (lv_at hl 2 rfl) ?_
              have hF9 : (fX2_bestBefore df uf st sn me p1 p2 p3) = bb := by rw [hF, fX2_bestBefore_L80, if_pos c_84]
              have hP9 : va_P D vwCl (wW cyD cyI cyJ cyZ aw ad ak ar au ae av ab df kf rf uf st fw fo sn me vf lf sp sb no) H := hP
              have hD9 : va_D A (wW cyD cyI cyJ cyZ aw ad ak ar au ae av ab df kf rf uf st fw fo sn me vf lf sp sb no) := hD
              exact W.iret (v := bb) hx hb hr (fun t ht hW => ⟨⟨bb, (), rfl, (by rw [hF9]), by rw [ht]; exact hP9, va_K.moved hW.alike hK, hD9⟩, hS.F ht⟩) hS.2.2 dX2_bestBefore_120
            refine lv_aload_n hx hb dX2_bestBefore_87 rfl (lv_at hl 4 rfl) ?_
            refine lv_iload_n hx hb dX2_bestBefore_88 rfl (lv_at hl 5 rfl) ?_
            refine lv_iload hx hb dX2_bestBefore_89 (lv_at hl 0 rfl) ?_
            have hPc : va_P D vwCl (wW cyD cyI cyJ cyZ aw ad ak ar au ae av ab df kf rf uf st fw fo sn me vf lf sp sb no) H := hP.sub [0, 1, 2, 3, 4, 5, 6, 7] rfl
            have hDc : va_D A (wW cyD cyI cyJ cyZ aw ad ak ar au ae av ab df kf rf uf st fw fo sn me vf lf sp sb no) := hD.sub [0, 1, 2, 3, 4, 5, 6, 7] (by decide) rfl
            refine klE (ws' := (wW cyD cyI cyJ cyZ aw ad ak ar au ae av ab df kf rf uf st fw fo sn me vf lf sp sb no)) (wc := (wW cyD cyI cyJ cyZ aw ad ak ar au ae av ab df kf rf uf st fw fo sn me vf lf sp sb no)) (wr := []) (w1 := (wW cyD cyI cyJ cyZ aw ad ak ar au ae av ab df kf rf uf st fw fo sn me vf lf sp sb no)) (va_runV (As := [.int p1, .int ((nI j))]) (rest := []) ⟨hx, hb, hml, hown, hts⟩ (c_X2_sumAt (l := l) (D := D) (cyD := cyD) (cyI := cyI) (cyJ := cyJ) (cyZ := cyZ) aw ad ak ar au ae av ab df kf rf uf st fw fo sn me vf lf sp sb no H.size p1 ((nI j)) hE) (cwV 2 hts gX2_bestBefore_X2_sumAt rfl rfl rfl (by decide +kernel) ⟨Nat.le_of_ble_eq_true rfl, Nat.le_of_ble_eq_true rfl⟩) (kV (ci := 2) (q0 := 0) (q := (RX2, TX2, 8)) hN hK hPc hDc rfl rfl rfl) rfl rfl hl.1 rfl (lv_room (Nat.le_of_ble_eq_true rfl)) dX2_bestBefore_91 ⟨Nat.le_of_ble_eq_true rfl, Nat.le_of_ble_eq_true rfl⟩) hP hD hS hA [0, 1, 2, 3, 4, 5, 6, 7] [] [0, 1, 2, 3, 4, 5, 6, 7] rfl rfl (by decide) (by decide) rfl (by decide) (fun H locs hP hD hS => ?_)
            refine lv_lstore (lv' := [(10, .long (fX2_sumAt uf sn p1 ((nI j)))), (9, .int ((nI j))), (7, .long (gs)), (6, .int (bb)), (5, .int (tt)), (0, .ref aw), (1, .int p1)]) hx hb dX2_bestBefore_94 hl (by decide) rfl (fun ls hl => ?_)
            refine lv_lload hx hb dX2_bestBefore_96 (lv_at hl 0 rfl) ?_
            refine lv_lload hx hb dX2_bestBefore_98 (lv_at hl 2 rfl) ?_
            refine W.lcmp hx hb dX2_bestBefore_100 ?_
            refine lv_if_le (tgt := 112) hx hb dX2_bestBefore_101 (by decide) (fun c_101 => ?_) (fun c_101 => ?_)
            · refine lv_iinc (v := (((nI j)) + 1)) (lv' := [(9, .int (((nI j)) + 1)), (10, .long (fX2_sumAt uf sn p1 ((nI j)))), (7, .long (gs)), (6, .int (bb)), (5, .int (tt)), (0, .ref aw), (1, .int p1)]) hx hb dX2_bestBefore_112 hl (k := 1) rfl rfl (by decide) rfl (fun ls hl => ?_)
              refine lv_goto (tgt := 80) hx hb dX2_bestBefore_115 (by decide) ?_
              exact ih (j + 1) (bb) (gs) _ _ (by omega) (by have h9 : nI j ≤ nI 63 := i_le_of htt c_84; have := (nI_leI (by omega) (by decide)).mp h9; omega) (by rw [← nI_1 j]; rw [hF, fX2_bestBefore_L80, if_neg c_84, if_pos c_101]) hP hD hS _ (by rw [← nI_1 j]; exact lv_sub hl [0, 2, 3, 4, 5, 6] rfl)
            refine lv_iload hx hb dX2_bestBefore_104 (lv_at hl 1 rfl) ?_
            refine lv_istore (lv' := [(6, .int ((nI j))), (10, .long (fX2_sumAt uf sn p1 ((nI j)))), (9, .int ((nI j))), (7, .long (gs)), (5, .int (tt)), (0, .ref aw), (1, .int p1)]) hx hb dX2_bestBefore_106 hl (by decide) rfl (fun ls hl => ?_)
            refine lv_lload hx hb dX2_bestBefore_108 (lv_at hl 1 rfl) ?_
            refine lv_lstore (lv' := [(7, .long (fX2_sumAt uf sn p1 ((nI j)))), (6, .int ((nI j))), (10, .long (fX2_sumAt uf sn p1 ((nI j)))), (9, .int ((nI j))), (5, .int (tt)), (0, .ref aw), (1, .int p1)]) hx hb dX2_bestBefore_110 hl (by decide) rfl (fun ls hl => ?_)
            refine lv_iinc (v := (((nI j)) + 1)) (lv' := [(9, .int (((nI j)) + 1)), (7, .long (fX2_sumAt uf sn p1 ((nI j)))), (6, .int ((nI j))), (10, .long (fX2_sumAt uf sn p1 ((nI j)))), (5, .int (tt)), (0, .ref aw), (1, .int p1)]) hx hb dX2_bestBefore_112 hl (k := 3) rfl rfl (by decide) rfl (fun ls hl => ?_)
            refine lv_goto (tgt := 80) hx hb dX2_bestBefore_115 (by decide) ?_
            exact ih (j + 1) ((nI j)) (fX2_sumAt uf sn p1 ((nI j))) _ _ (by omega) (by have h9 : nI j ≤ nI 63 := i_le_of htt c_84; have := (nI_leI (by omega) (by decide)).mp h9; omega) (by rw [← nI_1 j]; rw [hF, fX2_bestBefore_L80, if_neg c_84, if_neg c_101]) hP hD hS _ (by rw [← nI_1 j]; exact lv_sub hl [0, 1, 2, 4, 5, 6] rfl)
        exact loop_80 66 (a + 1) tf (fX2_sumAt uf sn p1 (tf)) _ _ (by omega) (by omega) (by rw [← nI_1 a, ← hta]; rw [hF, fX2_bestBefore_L61]) hP hD hS _ (by rw [← nI_1 a, ← hta]; exact lv_sub hl [0, 1, 2, 3, 5, 6] rfl)
    exact loop_61 1 (fX2_lowest df sn me p1) (fX2_highest df sn me p1) _ _ rfl (from_ok me df p1 hE.1 hE.2.1) (to_ok me df p1 hE.1 hE.2.1) (by rw [fX2_bestBefore, if_neg c_16, if_neg c_24]) hP hD hS _ (by exact lv_sub hl [0, 1, 2, 3] rfl)
  refine lv_aload_n hx hb dX2_bestBefore_27 rfl (lv_at hl 2 rfl) ?_
  refine lv_iload_n hx hb dX2_bestBefore_28 rfl (lv_at hl 4 rfl) ?_
  have hPc : va_P D vwCl (wW cyD cyI cyJ cyZ aw ad ak ar au ae av ab df kf rf uf st fw fo sn me vf lf sp sb no) H := hP.sub [0, 1, 2, 3, 4, 5, 6, 7] rfl
  have hDc : va_D A (wW cyD cyI cyJ cyZ aw ad ak ar au ae av ab df kf rf uf st fw fo sn me vf lf sp sb no) := hD.sub [0, 1, 2, 3, 4, 5, 6, 7] (by decide) rfl
  refine kzE (ws' := (wW cyD cyI cyJ cyZ aw ad ak ar au ae av ab df kf rf uf st fw fo sn me vf lf sp sb no)) (wc := (wW cyD cyI cyJ cyZ aw ad ak ar au ae av ab df kf rf uf st fw fo sn me vf lf sp sb no)) (wr := []) (w1 := (wW cyD cyI cyJ cyZ aw ad ak ar au ae av ab df kf rf uf st fw fo sn me vf lf sp sb no)) (va_runV (As := [.int p2]) (rest := []) ⟨hx, hb, hml, hown, hts⟩ (c_X2_isEdited (l := l) (D := D) (cyD := cyD) (cyI := cyI) (cyJ := cyJ) (cyZ := cyZ) aw ad ak ar au ae av ab df kf rf uf st fw fo sn me vf lf sp sb no H.size p2) (cwV 1 hts gX2_bestBefore_X2_isEdited rfl rfl rfl (by decide +kernel) ⟨Nat.le_of_ble_eq_true rfl, Nat.le_of_ble_eq_true rfl⟩) (kV (ci := 2) (q0 := 0) (q := (RX2, TX2, 8)) hN hK hPc hDc rfl rfl rfl) rfl rfl hl.1 rfl (lv_room (Nat.le_of_ble_eq_true rfl)) dX2_bestBefore_29 ⟨Nat.le_of_ble_eq_true rfl, Nat.le_of_ble_eq_true rfl⟩) hP hD hS hA [0, 1, 2, 3, 4, 5, 6, 7] [] [0, 1, 2, 3, 4, 5, 6, 7] rfl rfl (by decide) (by decide) rfl (by decide) (fun H locs hz_29 hP hD hS => ?_)
  refine lv_if_ne (tgt := 61) hx hb dX2_bestBefore_32 (by decide) (fun c_32 => ?_) (fun c_32 => ?_)
  · have loop_61 : ∀ (k : Nat) (tf tt : Int32) (H : Heap) (locs : List Loc), (k = 1) → (∃ a : Nat, a < 64 ∧ tf = nI a) → (¬ nI 63 < tt) → (fX2_bestBefore df uf st sn me p1 p2 p3) = fX2_bestBefore_L61 df uf st sn me p1 p2 p3 k (tf) (tt) → va_P D vwCl (wW cyD cyI cyJ cyZ aw ad ak ar au ae av ab df kf rf uf st fw fo sn me vf lf sp sb no) H → va_D A (wW cyD cyI cyJ cyZ aw ad ak ar au ae av ab df kf rf uf st fw fo sn me vf lf sp sb no) → va_S A s.heap H locs → ∀ ls, lv_has ls 12 [(5, .int (tt)), (4, .int (tf)), (0, .ref aw), (1, .int p1)] → W p l e (headSpec wsX2_bestBefore ({ frames := 3, cells := 0, slots := 0, locals := 65 } : Room)).room s m ([.ref aw, .int p1, .int p2, .int p3] : List Value).toArray below meth c H locs 0 0 (MQ below (va_Qi (fun (r : Int32) (_ : Unit) => r = (fX2_bestBefore df uf st sn me p1 p2 p3)) (kE D (kT cyD cyI cyJ cyZ) (wW cyD cyI cyJ cyZ aw ad ak ar au ae av ab df kf rf uf st fw fo sn me vf lf sp sb no) A) A) ([.ref aw, .int p1, .int p2, .int p3] : List Value).toArray s 0 0 A) (F0 m 61 ls []) := by
      intro k
      induction k with
      | zero => intro tf tt H locs hkk ha htt hF hP hD hS ls hl; exact absurd hkk (by decide)
      | succ k ih =>
        intro tf tt H locs hkk ha htt hF hP hD hS ls hl
        obtain ⟨a, ha1, hta⟩ := ha
        refine lv_iload hx hb dX2_bestBefore_61 (lv_at hl 1 rfl) ?_
        refine lv_istore (lv' := [(6, .int (tf)), (5, .int (tt)), (4, .int (tf)), (0, .ref aw), (1, .int p1)]) hx hb dX2_bestBefore_63 hl (by decide) rfl (fun ls hl => ?_)
        refine lv_aload_n hx hb dX2_bestBefore_65 rfl (lv_at hl 3 rfl) ?_
        refine lv_iload_n hx hb dX2_bestBefore_66 rfl (lv_at hl 4 rfl) ?_
        refine lv_iload hx hb dX2_bestBefore_67 (lv_at hl 2 rfl) ?_
        have hPc : va_P D vwCl (wW cyD cyI cyJ cyZ aw ad ak ar au ae av ab df kf rf uf st fw fo sn me vf lf sp sb no) H := hP.sub [0, 1, 2, 3, 4, 5, 6, 7] rfl
        have hDc : va_D A (wW cyD cyI cyJ cyZ aw ad ak ar au ae av ab df kf rf uf st fw fo sn me vf lf sp sb no) := hD.sub [0, 1, 2, 3, 4, 5, 6, 7] (by decide) rfl
        refine klE (ws' := (wW cyD cyI cyJ cyZ aw ad ak ar au ae av ab df kf rf uf st fw fo sn me vf lf sp sb no)) (wc := (wW cyD cyI cyJ cyZ aw ad ak ar au ae av ab df kf rf uf st fw fo sn me vf lf sp sb no)) (wr := []) (w1 := (wW cyD cyI cyJ cyZ aw ad ak ar au ae av ab df kf rf uf st fw fo sn me vf lf sp sb no)) (va_runV (As := [.int p1, .int (tf)]) (rest := []) ⟨hx, hb, hml, hown, hts⟩ (c_X2_sumAt (l := l) (D := D) (cyD := cyD) (cyI := cyI) (cyJ := cyJ) (cyZ := cyZ) aw ad ak ar au ae av ab df kf rf uf st fw fo sn me vf lf sp sb no H.size p1 (tf) hE) (cwV 2 hts gX2_bestBefore_X2_sumAt rfl rfl rfl (by decide +kernel) ⟨Nat.le_of_ble_eq_true rfl, Nat.le_of_ble_eq_true rfl⟩) (kV (ci := 2) (q0 := 0) (q := (RX2, TX2, 8)) hN hK hPc hDc rfl rfl rfl) rfl rfl hl.1 rfl (lv_room (Nat.le_of_ble_eq_true rfl)) dX2_bestBefore_69 ⟨Nat.le_of_ble_eq_true rfl, Nat.le_of_ble_eq_true rfl⟩) hP hD hS hA [0, 1, 2, 3, 4, 5, 6, 7] [] [0, 1, 2, 3, 4, 5, 6, 7] rfl rfl (by decide) (by decide) rfl (by decide) (fun H locs hP hD hS => ?_)
        refine lv_lstore (lv' := [(7, .long (fX2_sumAt uf sn p1 (tf))), (6, .int (tf)), (5, .int (tt)), (4, .int (tf)), (0, .ref aw), (1, .int p1)]) hx hb dX2_bestBefore_72 hl (by decide) rfl (fun ls hl => ?_)
        refine lv_iload hx hb dX2_bestBefore_74 (lv_at hl 3 rfl) ?_
        refine lv_iconst (v := 1) hx hb dX2_bestBefore_76 (by decide) ?_
        refine lv_iadd hx hb dX2_bestBefore_77 ?_
        refine lv_istore (lv' := [(9, .int (tf + (1 : Int32))), (7, .long (fX2_sumAt uf sn p1 (tf))), (6, .int (tf)), (5, .int (tt)), (4, .int (tf)), (0, .ref aw), (1, .int p1)]) hx hb dX2_bestBefore_78 hl (by decide) rfl (fun ls hl => ?_)
        have loop_80 : ∀ (k : Nat) (j : Nat) (bb : Int32) (gs : Int64) (H : Heap) (locs : List Loc), (66 ≤ j + k) → (j ≤ 64) → (fX2_bestBefore df uf st sn me p1 p2 p3) = fX2_bestBefore_L80 df uf st sn me tt p1 p2 p3 k ((nI j)) (bb) (gs) → va_P D vwCl (wW cyD cyI cyJ cyZ aw ad ak ar au ae av ab df kf rf uf st fw fo sn me vf lf sp sb no) H → va_D A (wW cyD cyI cyJ cyZ aw ad ak ar au ae av ab df kf rf uf st fw fo sn me vf lf sp sb no) → va_S A s.heap H locs → ∀ ls, lv_has ls 12 [(9, .int ((nI j))), (7, .long (gs)), (6, .int (bb)), (5, .int (tt)), (0, .ref aw), (1, .int p1)] → W p l e (headSpec wsX2_bestBefore ({ frames := 3, cells := 0, slots := 0, locals := 65 } : Room)).room s m ([.ref aw, .int p1, .int p2, .int p3] : List Value).toArray below meth c H locs 0 0 (MQ below (va_Qi (fun (r : Int32) (_ : Unit) => r = (fX2_bestBefore df uf st sn me p1 p2 p3)) (kE D (kT cyD cyI cyJ cyZ) (wW cyD cyI cyJ cyZ aw ad ak ar au ae av ab df kf rf uf st fw fo sn me vf lf sp sb no) A) A) ([.ref aw, .int p1, .int p2, .int p3] : List Value).toArray s 0 0 A) (F0 m 80 ls []) := by
          intro k
          induction k with
          | zero => intro j bb gs H locs hj hj3 hF hP hD hS ls hl; exact absurd hj3 (by omega)
          | succ k ih =>
            intro j bb gs H locs hj hj3 hF hP hD hS ls hl
            refine lv_iload hx hb dX2_bestBefore_80 (lv_at hl 0 rfl) ?_
            refine lv_iload hx hb dX2_bestBefore_82 (lv_at hl 3 rfl) ?_
            refine lv_icmp_gt (tgt := 118) hx hb dX2_bestBefore_84 (by decide) (fun c_84 => ?_) (fun c_84 => ?_)
            · refine lv_iload hx hb dX2_bestBefore_118 (lv_at hl 2 rfl) ?_
              have hF9 : (fX2_bestBefore df uf st sn me p1 p2 p3) = bb := by rw [hF, fX2_bestBefore_L80, if_pos c_84]
              have hP9 : va_P D vwCl (wW cyD cyI cyJ cyZ aw ad ak ar au ae av ab df kf rf uf st fw fo sn me vf lf sp sb no) H := hP
              have hD9 : va_D A (wW cyD cyI cyJ cyZ aw ad ak ar au ae av ab df kf rf uf st fw fo sn me vf lf sp sb no) := hD
              exact W.iret (v := bb) hx hb hr (fun t ht hW => ⟨⟨bb, (), rfl, (by rw [hF9]), by rw [ht]; exact hP9, va_K.moved hW.alike hK, hD9⟩, hS.F ht⟩) hS.2.2 dX2_bestBefore_120
            refine lv_aload_n hx hb dX2_bestBefore_87 rfl (lv_at hl 4 rfl) ?_
            refine lv_iload_n hx hb dX2_bestBefore_88 rfl (lv_at hl 5 rfl) ?_
            refine lv_iload hx hb dX2_bestBefore_89 (lv_at hl 0 rfl) ?_
            have hPc : va_P D vwCl (wW cyD cyI cyJ cyZ aw ad ak ar au ae av ab df kf rf uf st fw fo sn me vf lf sp sb no) H := hP.sub [0, 1, 2, 3, 4, 5, 6, 7] rfl
            have hDc : va_D A (wW cyD cyI cyJ cyZ aw ad ak ar au ae av ab df kf rf uf st fw fo sn me vf lf sp sb no) := hD.sub [0, 1, 2, 3, 4, 5, 6, 7] (by decide) rfl
            refine klE (ws' := (wW cyD cyI cyJ cyZ aw ad ak ar au ae av ab df kf rf uf st fw fo sn me vf lf sp sb no)) (wc := (wW cyD cyI cyJ cyZ aw ad ak ar au ae av ab df kf rf uf st fw fo sn me vf lf sp sb no)) (wr := []) (w1 := (wW cyD cyI cyJ cyZ aw ad ak ar au ae av ab df kf rf uf st fw fo sn me vf lf sp sb no)) (va_runV (As := [.int p1, .int ((nI j))]) (rest := []) ⟨hx, hb, hml, hown, hts⟩ (c_X2_sumAt (l := l) (D := D) (cyD := cyD) (cyI := cyI) (cyJ := cyJ) (cyZ := cyZ) aw ad ak ar au ae av ab df kf rf uf st fw fo sn me vf lf sp sb no H.size p1 ((nI j)) hE) (cwV 2 hts gX2_bestBefore_X2_sumAt rfl rfl rfl (by decide +kernel) ⟨Nat.le_of_ble_eq_true rfl, Nat.le_of_ble_eq_true rfl⟩) (kV (ci := 2) (q0 := 0) (q := (RX2, TX2, 8)) hN hK hPc hDc rfl rfl rfl) rfl rfl hl.1 rfl (lv_room (Nat.le_of_ble_eq_true rfl)) dX2_bestBefore_91 ⟨Nat.le_of_ble_eq_true rfl, Nat.le_of_ble_eq_true rfl⟩) hP hD hS hA [0, 1, 2, 3, 4, 5, 6, 7] [] [0, 1, 2, 3, 4, 5, 6, 7] rfl rfl (by decide) (by decide) rfl (by decide) (fun H locs hP hD hS => ?_)
            refine lv_lstore (lv' := [(10, .long (fX2_sumAt uf sn p1 ((nI j)))), (9, .int ((nI j))), (7, .long (gs)), (6, .int (bb)), (5, .int (tt)), (0, .ref aw), (1, .int p1)]) hx hb dX2_bestBefore_94 hl (by decide) rfl (fun ls hl => ?_)
            refine lv_lload hx hb dX2_bestBefore_96 (lv_at hl 0 rfl) ?_
            refine lv_lload hx hb dX2_bestBefore_98 (lv_at hl 2 rfl) ?_
            refine W.lcmp hx hb dX2_bestBefore_100 ?_
            refine lv_if_le (tgt := 112) hx hb dX2_bestBefore_101 (by decide) (fun c_101 => ?_) (fun c_101 => ?_)
            · refine lv_iinc (v := (((nI j)) + 1)) (lv' := [(9, .int (((nI j)) + 1)), (10, .long (fX2_sumAt uf sn p1 ((nI j)))), (7, .long (gs)), (6, .int (bb)), (5, .int (tt)), (0, .ref aw), (1, .int p1)]) hx hb dX2_bestBefore_112 hl (k := 1) rfl rfl (by decide) rfl (fun ls hl => ?_)
              refine lv_goto (tgt := 80) hx hb dX2_bestBefore_115 (by decide) ?_
              exact ih (j + 1) (bb) (gs) _ _ (by omega) (by have h9 : nI j ≤ nI 63 := i_le_of htt c_84; have := (nI_leI (by omega) (by decide)).mp h9; omega) (by rw [← nI_1 j]; rw [hF, fX2_bestBefore_L80, if_neg c_84, if_pos c_101]) hP hD hS _ (by rw [← nI_1 j]; exact lv_sub hl [0, 2, 3, 4, 5, 6] rfl)
            refine lv_iload hx hb dX2_bestBefore_104 (lv_at hl 1 rfl) ?_
            refine lv_istore (lv' := [(6, .int ((nI j))), (10, .long (fX2_sumAt uf sn p1 ((nI j)))), (9, .int ((nI j))), (7, .long (gs)), (5, .int (tt)), (0, .ref aw), (1, .int p1)]) hx hb dX2_bestBefore_106 hl (by decide) rfl (fun ls hl => ?_)
            refine lv_lload hx hb dX2_bestBefore_108 (lv_at hl 1 rfl) ?_
            refine lv_lstore (lv' := [(7, .long (fX2_sumAt uf sn p1 ((nI j)))), (6, .int ((nI j))), (10, .long (fX2_sumAt uf sn p1 ((nI j)))), (9, .int ((nI j))), (5, .int (tt)), (0, .ref aw), (1, .int p1)]) hx hb dX2_bestBefore_110 hl (by decide) rfl (fun ls hl => ?_)
            refine lv_iinc (v := (((nI j)) + 1)) (lv' := [(9, .int (((nI j)) + 1)), (7, .long (fX2_sumAt uf sn p1 ((nI j)))), (6, .int ((nI j))), (10, .long (fX2_sumAt uf sn p1 ((nI j)))), (5, .int (tt)), (0, .ref aw), (1, .int p1)]) hx hb dX2_bestBefore_112 hl (k := 3) rfl rfl (by decide) rfl (fun ls hl => ?_)
            refine lv_goto (tgt := 80) hx hb dX2_bestBefore_115 (by decide) ?_
            exact ih (j + 1) ((nI j)) (fX2_sumAt uf sn p1 ((nI j))) _ _ (by omega) (by have h9 : nI j ≤ nI 63 := i_le_of htt c_84; have := (nI_leI (by omega) (by decide)).mp h9; omega) (by rw [← nI_1 j]; rw [hF, fX2_bestBefore_L80, if_neg c_84, if_neg c_101]) hP hD hS _ (by rw [← nI_1 j]; exact lv_sub hl [0, 1, 2, 4, 5, 6] rfl)
        exact loop_80 66 (a + 1) tf (fX2_sumAt uf sn p1 (tf)) _ _ (by omega) (by omega) (by rw [← nI_1 a, ← hta]; rw [hF, fX2_bestBefore_L61]) hP hD hS _ (by rw [← nI_1 a, ← hta]; exact lv_sub hl [0, 1, 2, 3, 5, 6] rfl)
    exact loop_61 1 (fX2_lowest df sn me p1) (fX2_highest df sn me p1) _ _ rfl (from_ok me df p1 hE.1 hE.2.1) (to_ok me df p1 hE.1 hE.2.1) (by rw [fX2_bestBefore, if_neg c_16, if_pos c_24, if_neg c_32]) hP hD hS _ (by exact lv_sub hl [0, 1, 2, 3] rfl)
  refine lv_iload hx hb dX2_bestBefore_35 (lv_at hl 1 rfl) ?_
  refine lv_iload_n hx hb dX2_bestBefore_37 rfl (lv_at hl 5 rfl) ?_
  refine lv_aload_n hx hb dX2_bestBefore_38 rfl (lv_at hl 2 rfl) ?_
  refine va_get (D := D) (ci := 2) (v := .int st) (C := RX2) (T := TX2) (N := 8) hx hb hts (fun _ h => (List.mem_cons_of_mem _ (List.mem_append_left _ (List.mem_append_right _ h)))) hown hK hP 0 rfl rfl 5 (by decide) (hts (.fieldLink RX2 23 "BottomWalks$Walk" "steepness" "I") (List.mem_of_getElem? (i := 1) rfl)) (fun _ h9 => h9) rfl dX2_bestBefore_39 ?_
  refine lv_isub hx hb dX2_bestBefore_42 ?_
  refine va_mmax hx hb (hml.trans hl.1.symm) hown (hts (.methodLink RX2 139 Lib.Math.max.name) (List.mem_of_getElem? (i := 2) rfl)) (hts (.static Lib.Math.max.name) (List.mem_of_getElem? (i := 3) rfl)) (hts (.initialized "java/lang/Math") (List.mem_of_getElem? (i := 4) rfl)) (hts (.code Lib.Math.max.name Lib.Math.max.code 2 (some .int)) (List.mem_of_getElem? (i := 5) rfl)) (Nat.le_of_ble_eq_true rfl) (Nat.le_of_ble_eq_true rfl) (Nat.le_of_ble_eq_true rfl) (Nat.le_of_ble_eq_true rfl) dX2_bestBefore_43 ?_
  refine lv_istore (lv' := [(4, .int (if (fX2_lowest df sn me p1) < (p3 - st) then (p3 - st) else (fX2_lowest df sn me p1))), (5, .int (fX2_highest df sn me p1)), (0, .ref aw), (1, .int p1), (2, .int p2), (3, .int p3)]) hx hb dX2_bestBefore_46 hl (by decide) rfl (fun ls hl => ?_)
  refine lv_iload hx hb dX2_bestBefore_48 (lv_at hl 1 rfl) ?_
  refine lv_iload_n hx hb dX2_bestBefore_50 rfl (lv_at hl 5 rfl) ?_
  refine lv_aload_n hx hb dX2_bestBefore_51 rfl (lv_at hl 2 rfl) ?_
  refine va_get (D := D) (ci := 2) (v := .int st) (C := RX2) (T := TX2) (N := 8) hx hb hts (fun _ h => (List.mem_cons_of_mem _ (List.mem_append_left _ (List.mem_append_right _ h)))) hown hK hP 0 rfl rfl 5 (by decide) (hts (.fieldLink RX2 23 "BottomWalks$Walk" "steepness" "I") (List.mem_of_getElem? (i := 1) rfl)) (fun _ h9 => h9) rfl dX2_bestBefore_52 ?_
  refine lv_iadd hx hb dX2_bestBefore_55 ?_
  refine va_mmin hx hb (hml.trans hl.1.symm) hown (hts (.methodLink RX2 144 Lib.Math.min.name) (List.mem_of_getElem? (i := 6) rfl)) (hts (.static Lib.Math.min.name) (List.mem_of_getElem? (i := 7) rfl)) (hts (.initialized "java/lang/Math") (List.mem_of_getElem? (i := 4) rfl)) (hts (.code Lib.Math.min.name Lib.Math.min.code 2 (some .int)) (List.mem_of_getElem? (i := 8) rfl)) (Nat.le_of_ble_eq_true rfl) (Nat.le_of_ble_eq_true rfl) (Nat.le_of_ble_eq_true rfl) (Nat.le_of_ble_eq_true rfl) dX2_bestBefore_56 ?_
  refine lv_istore (lv' := [(5, .int (if (p3 + st) < (fX2_highest df sn me p1) then (p3 + st) else (fX2_highest df sn me p1))), (4, .int (if (fX2_lowest df sn me p1) < (p3 - st) then (p3 - st) else (fX2_lowest df sn me p1))), (0, .ref aw), (1, .int p1), (2, .int p2), (3, .int p3)]) hx hb dX2_bestBefore_59 hl (by decide) rfl (fun ls hl => ?_)
  have loop_61 : ∀ (k : Nat) (tf tt : Int32) (H : Heap) (locs : List Loc), (k = 1) → (∃ a : Nat, a < 64 ∧ tf = nI a) → (¬ nI 63 < tt) → (fX2_bestBefore df uf st sn me p1 p2 p3) = fX2_bestBefore_L61 df uf st sn me p1 p2 p3 k (tf) (tt) → va_P D vwCl (wW cyD cyI cyJ cyZ aw ad ak ar au ae av ab df kf rf uf st fw fo sn me vf lf sp sb no) H → va_D A (wW cyD cyI cyJ cyZ aw ad ak ar au ae av ab df kf rf uf st fw fo sn me vf lf sp sb no) → va_S A s.heap H locs → ∀ ls, lv_has ls 12 [(5, .int (tt)), (4, .int (tf)), (0, .ref aw), (1, .int p1)] → W p l e (headSpec wsX2_bestBefore ({ frames := 3, cells := 0, slots := 0, locals := 65 } : Room)).room s m ([.ref aw, .int p1, .int p2, .int p3] : List Value).toArray below meth c H locs 0 0 (MQ below (va_Qi (fun (r : Int32) (_ : Unit) => r = (fX2_bestBefore df uf st sn me p1 p2 p3)) (kE D (kT cyD cyI cyJ cyZ) (wW cyD cyI cyJ cyZ aw ad ak ar au ae av ab df kf rf uf st fw fo sn me vf lf sp sb no) A) A) ([.ref aw, .int p1, .int p2, .int p3] : List Value).toArray s 0 0 A) (F0 m 61 ls []) := by
    intro k
    induction k with
    | zero => intro tf tt H locs hkk ha htt hF hP hD hS ls hl; exact absurd hkk (by decide)
    | succ k ih =>
      intro tf tt H locs hkk ha htt hF hP hD hS ls hl
      obtain ⟨a, ha1, hta⟩ := ha
      refine lv_iload hx hb dX2_bestBefore_61 (lv_at hl 1 rfl) ?_
      refine lv_istore (lv' := [(6, .int (tf)), (5, .int (tt)), (4, .int (tf)), (0, .ref aw), (1, .int p1)]) hx hb dX2_bestBefore_63 hl (by decide) rfl (fun ls hl => ?_)
      refine lv_aload_n hx hb dX2_bestBefore_65 rfl (lv_at hl 3 rfl) ?_
      refine lv_iload_n hx hb dX2_bestBefore_66 rfl (lv_at hl 4 rfl) ?_
      refine lv_iload hx hb dX2_bestBefore_67 (lv_at hl 2 rfl) ?_
      have hPc : va_P D vwCl (wW cyD cyI cyJ cyZ aw ad ak ar au ae av ab df kf rf uf st fw fo sn me vf lf sp sb no) H := hP.sub [0, 1, 2, 3, 4, 5, 6, 7] rfl
      have hDc : va_D A (wW cyD cyI cyJ cyZ aw ad ak ar au ae av ab df kf rf uf st fw fo sn me vf lf sp sb no) := hD.sub [0, 1, 2, 3, 4, 5, 6, 7] (by decide) rfl
      refine klE (ws' := (wW cyD cyI cyJ cyZ aw ad ak ar au ae av ab df kf rf uf st fw fo sn me vf lf sp sb no)) (wc := (wW cyD cyI cyJ cyZ aw ad ak ar au ae av ab df kf rf uf st fw fo sn me vf lf sp sb no)) (wr := []) (w1 := (wW cyD cyI cyJ cyZ aw ad ak ar au ae av ab df kf rf uf st fw fo sn me vf lf sp sb no)) (va_runV (As := [.int p1, .int (tf)]) (rest := []) ⟨hx, hb, hml, hown, hts⟩ (c_X2_sumAt (l := l) (D := D) (cyD := cyD) (cyI := cyI) (cyJ := cyJ) (cyZ := cyZ) aw ad ak ar au ae av ab df kf rf uf st fw fo sn me vf lf sp sb no H.size p1 (tf) hE) (cwV 2 hts gX2_bestBefore_X2_sumAt rfl rfl rfl (by decide +kernel) ⟨Nat.le_of_ble_eq_true rfl, Nat.le_of_ble_eq_true rfl⟩) (kV (ci := 2) (q0 := 0) (q := (RX2, TX2, 8)) hN hK hPc hDc rfl rfl rfl) rfl rfl hl.1 rfl (lv_room (Nat.le_of_ble_eq_true rfl)) dX2_bestBefore_69 ⟨Nat.le_of_ble_eq_true rfl, Nat.le_of_ble_eq_true rfl⟩) hP hD hS hA [0, 1, 2, 3, 4, 5, 6, 7] [] [0, 1, 2, 3, 4, 5, 6, 7] rfl rfl (by decide) (by decide) rfl (by decide) (fun H locs hP hD hS => ?_)
      refine lv_lstore (lv' := [(7, .long (fX2_sumAt uf sn p1 (tf))), (6, .int (tf)), (5, .int (tt)), (4, .int (tf)), (0, .ref aw), (1, .int p1)]) hx hb dX2_bestBefore_72 hl (by decide) rfl (fun ls hl => ?_)
      refine lv_iload hx hb dX2_bestBefore_74 (lv_at hl 3 rfl) ?_
      refine lv_iconst (v := 1) hx hb dX2_bestBefore_76 (by decide) ?_
      refine lv_iadd hx hb dX2_bestBefore_77 ?_
      refine lv_istore (lv' := [(9, .int (tf + (1 : Int32))), (7, .long (fX2_sumAt uf sn p1 (tf))), (6, .int (tf)), (5, .int (tt)), (4, .int (tf)), (0, .ref aw), (1, .int p1)]) hx hb dX2_bestBefore_78 hl (by decide) rfl (fun ls hl => ?_)
      have loop_80 : ∀ (k : Nat) (j : Nat) (bb : Int32) (gs : Int64) (H : Heap) (locs : List Loc), (66 ≤ j + k) → (j ≤ 64) → (fX2_bestBefore df uf st sn me p1 p2 p3) = fX2_bestBefore_L80 df uf st sn me tt p1 p2 p3 k ((nI j)) (bb) (gs) → va_P D vwCl (wW cyD cyI cyJ cyZ aw ad ak ar au ae av ab df kf rf uf st fw fo sn me vf lf sp sb no) H → va_D A (wW cyD cyI cyJ cyZ aw ad ak ar au ae av ab df kf rf uf st fw fo sn me vf lf sp sb no) → va_S A s.heap H locs → ∀ ls, lv_has ls 12 [(9, .int ((nI j))), (7, .long (gs)), (6, .int (bb)), (5, .int (tt)), (0, .ref aw), (1, .int p1)] → W p l e (headSpec wsX2_bestBefore ({ frames := 3, cells := 0, slots := 0, locals := 65 } : Room)).room s m ([.ref aw, .int p1, .int p2, .int p3] : List Value).toArray below meth c H locs 0 0 (MQ below (va_Qi (fun (r : Int32) (_ : Unit) => r = (fX2_bestBefore df uf st sn me p1 p2 p3)) (kE D (kT cyD cyI cyJ cyZ) (wW cyD cyI cyJ cyZ aw ad ak ar au ae av ab df kf rf uf st fw fo sn me vf lf sp sb no) A) A) ([.ref aw, .int p1, .int p2, .int p3] : List Value).toArray s 0 0 A) (F0 m 80 ls []) := by
        intro k
        induction k with
        | zero => intro j bb gs H locs hj hj3 hF hP hD hS ls hl; exact absurd hj3 (by omega)
        | succ k ih =>
          intro j bb gs H locs hj hj3 hF hP hD hS ls hl
          refine lv_iload hx hb dX2_bestBefore_80 (lv_at hl 0 rfl) ?_
          refine lv_iload hx hb dX2_bestBefore_82 (lv_at hl 3 rfl) ?_
          refine lv_icmp_gt (tgt := 118) hx hb dX2_bestBefore_84 (by decide) (fun c_84 => ?_) (fun c_84 => ?_)
          · refine lv_iload hx hb dX2_bestBefore_118 (lv_at hl 2 rfl) ?_
            have hF9 : (fX2_bestBefore df uf st sn me p1 p2 p3) = bb := by rw [hF, fX2_bestBefore_L80, if_pos c_84]
            have hP9 : va_P D vwCl (wW cyD cyI cyJ cyZ aw ad ak ar au ae av ab df kf rf uf st fw fo sn me vf lf sp sb no) H := hP
            have hD9 : va_D A (wW cyD cyI cyJ cyZ aw ad ak ar au ae av ab df kf rf uf st fw fo sn me vf lf sp sb no) := hD
            exact W.iret (v := bb) hx hb hr (fun t ht hW => ⟨⟨bb, (), rfl, (by rw [hF9]), by rw [ht]; exact hP9, va_K.moved hW.alike hK, hD9⟩, hS.F ht⟩) hS.2.2 dX2_bestBefore_120
          refine lv_aload_n hx hb dX2_bestBefore_87 rfl (lv_at hl 4 rfl) ?_
          refine lv_iload_n hx hb dX2_bestBefore_88 rfl (lv_at hl 5 rfl) ?_
          refine lv_iload hx hb dX2_bestBefore_89 (lv_at hl 0 rfl) ?_
          have hPc : va_P D vwCl (wW cyD cyI cyJ cyZ aw ad ak ar au ae av ab df kf rf uf st fw fo sn me vf lf sp sb no) H := hP.sub [0, 1, 2, 3, 4, 5, 6, 7] rfl
          have hDc : va_D A (wW cyD cyI cyJ cyZ aw ad ak ar au ae av ab df kf rf uf st fw fo sn me vf lf sp sb no) := hD.sub [0, 1, 2, 3, 4, 5, 6, 7] (by decide) rfl
          refine klE (ws' := (wW cyD cyI cyJ cyZ aw ad ak ar au ae av ab df kf rf uf st fw fo sn me vf lf sp sb no)) (wc := (wW cyD cyI cyJ cyZ aw ad ak ar au ae av ab df kf rf uf st fw fo sn me vf lf sp sb no)) (wr := []) (w1 := (wW cyD cyI cyJ cyZ aw ad ak ar au ae av ab df kf rf uf st fw fo sn me vf lf sp sb no)) (va_runV (As := [.int p1, .int ((nI j))]) (rest := []) ⟨hx, hb, hml, hown, hts⟩ (c_X2_sumAt (l := l) (D := D) (cyD := cyD) (cyI := cyI) (cyJ := cyJ) (cyZ := cyZ) aw ad ak ar au ae av ab df kf rf uf st fw fo sn me vf lf sp sb no H.size p1 ((nI j)) hE) (cwV 2 hts gX2_bestBefore_X2_sumAt rfl rfl rfl (by decide +kernel) ⟨Nat.le_of_ble_eq_true rfl, Nat.le_of_ble_eq_true rfl⟩) (kV (ci := 2) (q0 := 0) (q := (RX2, TX2, 8)) hN hK hPc hDc rfl rfl rfl) rfl rfl hl.1 rfl (lv_room (Nat.le_of_ble_eq_true rfl)) dX2_bestBefore_91 ⟨Nat.le_of_ble_eq_true rfl, Nat.le_of_ble_eq_true rfl⟩) hP hD hS hA [0, 1, 2, 3, 4, 5, 6, 7] [] [0, 1, 2, 3, 4, 5, 6, 7] rfl rfl (by decide) (by decide) rfl (by decide) (fun H locs hP hD hS => ?_)
          refine lv_lstore (lv' := [(10, .long (fX2_sumAt uf sn p1 ((nI j)))), (9, .int ((nI j))), (7, .long (gs)), (6, .int (bb)), (5, .int (tt)), (0, .ref aw), (1, .int p1)]) hx hb dX2_bestBefore_94 hl (by decide) rfl (fun ls hl => ?_)
          refine lv_lload hx hb dX2_bestBefore_96 (lv_at hl 0 rfl) ?_
          refine lv_lload hx hb dX2_bestBefore_98 (lv_at hl 2 rfl) ?_
          refine W.lcmp hx hb dX2_bestBefore_100 ?_
          refine lv_if_le (tgt := 112) hx hb dX2_bestBefore_101 (by decide) (fun c_101 => ?_) (fun c_101 => ?_)
          · refine lv_iinc (v := (((nI j)) + 1)) (lv' := [(9, .int (((nI j)) + 1)), (10, .long (fX2_sumAt uf sn p1 ((nI j)))), (7, .long (gs)), (6, .int (bb)), (5, .int (tt)), (0, .ref aw), (1, .int p1)]) hx hb dX2_bestBefore_112 hl (k := 1) rfl rfl (by decide) rfl (fun ls hl => ?_)
            refine lv_goto (tgt := 80) hx hb dX2_bestBefore_115 (by decide) ?_
            exact ih (j + 1) (bb) (gs) _ _ (by omega) (by have h9 : nI j ≤ nI 63 := i_le_of htt c_84; have := (nI_leI (by omega) (by decide)).mp h9; omega) (by rw [← nI_1 j]; rw [hF, fX2_bestBefore_L80, if_neg c_84, if_pos c_101]) hP hD hS _ (by rw [← nI_1 j]; exact lv_sub hl [0, 2, 3, 4, 5, 6] rfl)
          refine lv_iload hx hb dX2_bestBefore_104 (lv_at hl 1 rfl) ?_
          refine lv_istore (lv' := [(6, .int ((nI j))), (10, .long (fX2_sumAt uf sn p1 ((nI j)))), (9, .int ((nI j))), (7, .long (gs)), (5, .int (tt)), (0, .ref aw), (1, .int p1)]) hx hb dX2_bestBefore_106 hl (by decide) rfl (fun ls hl => ?_)
          refine lv_lload hx hb dX2_bestBefore_108 (lv_at hl 1 rfl) ?_
          refine lv_lstore (lv' := [(7, .long (fX2_sumAt uf sn p1 ((nI j)))), (6, .int ((nI j))), (10, .long (fX2_sumAt uf sn p1 ((nI j)))), (9, .int ((nI j))), (5, .int (tt)), (0, .ref aw), (1, .int p1)]) hx hb dX2_bestBefore_110 hl (by decide) rfl (fun ls hl => ?_)
          refine lv_iinc (v := (((nI j)) + 1)) (lv' := [(9, .int (((nI j)) + 1)), (7, .long (fX2_sumAt uf sn p1 ((nI j)))), (6, .int ((nI j))), (10, .long (fX2_sumAt uf sn p1 ((nI j)))), (5, .int (tt)), (0, .ref aw), (1, .int p1)]) hx hb dX2_bestBefore_112 hl (k := 3) rfl rfl (by decide) rfl (fun ls hl => ?_)
          refine lv_goto (tgt := 80) hx hb dX2_bestBefore_115 (by decide) ?_
          exact ih (j + 1) ((nI j)) (fX2_sumAt uf sn p1 ((nI j))) _ _ (by omega) (by have h9 : nI j ≤ nI 63 := i_le_of htt c_84; have := (nI_leI (by omega) (by decide)).mp h9; omega) (by rw [← nI_1 j]; rw [hF, fX2_bestBefore_L80, if_neg c_84, if_neg c_101]) hP hD hS _ (by rw [← nI_1 j]; exact lv_sub hl [0, 1, 2, 4, 5, 6] rfl)
      exact loop_80 66 (a + 1) tf (fX2_sumAt uf sn p1 (tf)) _ _ (by omega) (by omega) (by rw [← nI_1 a, ← hta]; rw [hF, fX2_bestBefore_L61]) hP hD hS _ (by rw [← nI_1 a, ← hta]; exact lv_sub hl [0, 1, 2, 3, 5, 6] rfl)
  exact loop_61 1 (if (fX2_lowest df sn me p1) < (p3 - st) then (p3 - st) else (fX2_lowest df sn me p1)) (if (p3 + st) < (fX2_highest df sn me p1) then (p3 + st) else (fX2_highest df sn me p1)) _ _ rfl (fromW_ok me df p1 hE.1 hE.2.1 hk hK64 hS2 hS64) (toW_ok me df p1 hE.1 hE.2.1 _) (by rw [fX2_bestBefore, if_neg c_16, if_pos c_24, if_pos c_32]) hP hD hS _ (by exact lv_sub hl [0, 1, 2, 3] rfl)
end
section
theorem samp_lt {sn j : Nat} (hs : sn ≤ 64) (hj : j ≤ 64) (h : ¬ fX0_isSample sn (nI j) = 0) : j < sn := by
  obtain ⟨K, hK, e⟩ := sample_nI hs h
  have := (nI_eq (by omega) (by omega)).mp e
  omega
theorem sumUp_in {sn : Nat} (hs : sn ≤ 64) {P j : Nat} {p : Int32} (hp : p = nI P) (hP : P < 32) (hj : j ≤ 64) (h3 : ¬ fX0_isSample sn (nI j) = 0) : vp_in (p * nI sn + nI j) (32 * sn) := by
  have hK := samp_lt hs hj h3
  rw [hp, pk_mul, nI_add]
  exact vp_in_nI (cell_lt hP hK) (by omega)
theorem bb_L {df : Nat → UInt64} {uf : Nat → Int64} {st : Int32} {sn : Nat} {me : UInt64} {tt p1 p2 p3 : Int32} (htt : ¬ nI 63 < tt) : ∀ (k j : Nat) (bb : Int32) (gs : Int64), 66 ≤ j + k → j ≤ 64 → (∃ b : Nat, b < 64 ∧ bb = nI b) → ∃ b : Nat, b < 64 ∧ fX2_bestBefore_L80 df uf st sn me tt p1 p2 p3 k (nI j) bb gs = nI b := by
  intro k; induction k with
  | zero => intro j bb gs a b; omega
  | succ k ih =>
    intro j bb gs a b hb
    rw [fX2_bestBefore_L80]
    by_cases c : tt < nI j
    · rw [if_pos c]; exact hb
    · rw [if_neg c]
      have h9 : nI j ≤ nI 63 := i_le_of htt c
      have := (nI_leI (by omega) (by decide)).mp h9
      split
      · rw [nI_1]; exact ih (j + 1) _ _ (by omega) (by omega) hb
      · rw [nI_1]; exact ih (j + 1) _ _ (by omega) (by omega) ⟨j, by omega, rfl⟩
theorem bb_L61 {df : Nat → UInt64} {uf : Nat → Int64} {st : Int32} {sn : Nat} {me : UInt64} {tf tt p1 p2 p3 : Int32} (htt : ¬ nI 63 < tt) (ha : ∃ a : Nat, a < 64 ∧ tf = nI a) : ∃ b : Nat, b < 64 ∧ fX2_bestBefore_L61 df uf st sn me p1 p2 p3 1 tf tt = nI b := by
  obtain ⟨a, h1, rfl⟩ := ha
  rw [fX2_bestBefore_L61, show nI a + 1 = nI (a + 1) from nI_1 a]
  exact bb_L htt 66 (a + 1) _ _ (by omega) (by omega) ⟨a, h1, rfl⟩
theorem bb_nI (df : Nat → UInt64) (uf : Nat → Int64) {st : Int32} {sn : Nat} (me : UInt64) (p1 p2 p3 : Int32) (h1 : 1 ≤ sn) (h2 : sn ≤ 64) {K S : Nat} (hk : p3 = nI K) (hK : K < 64) (hS : st = nI S) (hS64 : S ≤ 64) : ∃ b : Nat, b < 64 ∧ fX2_bestBefore df uf st sn me p1 p2 p3 = nI b := by
  unfold fX2_bestBefore
  split
  · exact bb_L61 (to_ok me df p1 h1 h2) (from_ok me df p1 h1 h2)
  · split
    · split
      · exact bb_L61 (toW_ok me df p1 h1 h2 _) (fromW_ok me df p1 h1 h2 hk hK hS hS64)
      · exact bb_L61 (to_ok me df p1 h1 h2) (from_ok me df p1 h1 h2)
    · exact bb_L61 (to_ok me df p1 h1 h2) (from_ok me df p1 h1 h2)
def okR (rf : Nat → Int32) : Prop := ∀ i, i < 32 → ∃ K : Nat, K < 64 ∧ rf i = nI K
theorem sor_nI {rf : Nat → Int32} (h : okR rf) (p : Int32) : ∃ K : Nat, K < 64 ∧ fX2_sampleOfRow rf p = nI K := by
  unfold fX2_sampleOfRow
  by_cases c : fX3_isPing p = 0
  · rw [if_pos c]; exact ⟨0, by decide, rfl⟩
  · rw [if_neg c]
    obtain ⟨j, hj, rfl⟩ := vp_in_of (ping_in c) (by decide)
    rw [nI_clamp (by omega)]; exact h j hj
theorem okR_upd {rf : Nat → Int32} (h : okR rf) (i : Nat) {v : Int32} (hv : ∃ K : Nat, K < 64 ∧ v = nI K) : okR (upd rf i v) := by
  intro j hj
  by_cases c : j = i
  · subst c; rw [pk_us]; exact hv
  · rw [pk_un c]; exact h j hj
theorem trace_i {j : Nat} (h2 : j ≤ 32) (h : ¬ nI j + (-1) < 0) : ∃ i : Nat, j = i + 1 ∧ i < 32 ∧ nI j + (-1) = nI i := by
  rcases j with _ | i
  · exact absurd (by decide) h
  · exact ⟨i, rfl, by omega, pk_m1 i⟩
theorem trace_in {j : Nat} (h2 : j ≤ 32) (h : ¬ nI j + (-1) < 0) : vp_in (nI j + (-1)) 32 := by
  obtain ⟨i, _, h3, e⟩ := trace_i h2 h
  rw [e]; exact vp_in_nI h3 (by decide)
theorem nI_31 : nI 32 + (-1) = 31 := by decide
def fX2_sumUp_L13 (df : Nat → UInt64) (uf : Nat → Int64) (st : Int32) (fw : Int32) (sn : Nat) (me : UInt64) (vf : Nat → UInt64) (lf : Nat → Int32) (sp : UInt64) (sb : UInt64) (no : UInt64)  (p1 : Int32) (p2 : Int32) : Nat → (Int32) → (Nat → Int64) → (Nat → Int64)
  | 0, v_j, v_uu => v_uu
  | k + 1, v_j, v_uu => if (fX2_highest df sn me p1) < v_j then v_uu else (if (fX0_isSample sn (v_j)) = 0 then v_uu else (if p2 = (-1 : Int32) then (fX2_sumUp_L13 df uf st fw sn me vf lf sp sb no p1 p2 k ((v_j) + 1) (vp_updL (v_uu) ((p1 * (nI sn)) + v_j).toNatClampNeg (fX0_strength sn me vf lf sp sb no fw p1 (v_j)))) else ((fX2_sumUp_L13 df uf st fw sn me vf lf sp sb no p1 p2 k ((v_j) + 1) (vp_updL (v_uu) ((p1 * (nI sn)) + v_j).toNatClampNeg ((fX0_strength sn me vf lf sp sb no fw p1 (v_j)) + (fX2_sumAt (v_uu) sn p2 (fX2_bestBefore df (v_uu) st sn me p2 p1 (v_j)))))))))
def fX2_sumUp (df : Nat → UInt64) (uf : Nat → Int64) (st : Int32) (fw : Int32) (sn : Nat) (me : UInt64) (vf : Nat → UInt64) (lf : Nat → Int32) (sp : UInt64) (sb : UInt64) (no : UInt64) (p1 : Int32) (p2 : Int32) : (Nat → Int64) := (fX2_sumUp_L13 df uf st fw sn me vf lf sp sb no p1 p2 65 (fX2_lowest df sn me p1) uf)
set_option maxHeartbeats 4000000 in
set_option maxRecDepth 100000 in
theorem c_X2_sumUp {l : Launch} {D : va_G} {cyD cyI cyJ cyZ : ClassId} (aw ad ak ar au ae av ab : Nat) (df : Nat → UInt64) (kf : Nat → Int32) (rf : Nat → Int32) (uf : Nat → Int64) (st : Int32) (fw : Int32) (fo : Int32) (sn : Nat) (me : UInt64) (vf : Nat → UInt64) (lf : Nat → Int32) (sp : UInt64) (sb : UInt64) (no : UInt64) (sz : Nat) (p1 : Int32) (p2 : Int32) (hE : okE sn me vf sp sb no) (S : Nat) (hS2 : st = nI S) (hS64 : S ≤ 64) (P : Nat) (hp1 : p1 = nI P) (hPP : P < 32) : mV l yX2_sumUp wsX2_sumUp ({ frames := 4, cells := 0, slots := 0, locals := 96 } : Room) D (kT cyD cyI cyJ cyZ) [.ref aw, .int p1, .int p2] (wW cyD cyI cyJ cyZ aw ad ak ar au ae av ab df kf rf uf st fw fo sn me vf lf sp sb no) (wW cyD cyI cyJ cyZ aw ad ak ar au ae av ab df kf rf (fX2_sumUp df uf st fw sn me vf lf sp sb no p1 p2) st fw fo sn me vf lf sp sb no) sz 0 0 := by
  refine Met.ofW (cc := cX2_sumUp) (maxL := 7) (ret := none) (by decide) rfl ?_
  intro p e s m args below meth c s₁ B hml hv
  obtain ⟨rfl, hN, hsz, hP, hK, hD0⟩ := hv
  have hx := B.exec
  have hb := B.bytes
  have hr := B.returns
  have hts := atoms_spec (ws := wsX2_sumUp) B.pre
  have hown : s.vm.findClass RX2 = some m.cls := findClass_of_methodNamed B.named
  have hlocks := B.notSynchronized
  subst hsz
  have hD := hD0.self (sz := s.heap.size)
  generalize hAe : va_A (wW cyD cyI cyJ cyZ aw ad ak ar au ae av ab df kf rf uf st fw fo sn me vf lf sp sb no) s.heap.size = A at hD ⊢
  have hA : ∀ q : Nat, s.heap.size ≤ q → A q := fun q h => by rw [← hAe]; exact Or.inr h
  have hS : va_S A s.heap s.heap [] := va_S.rf
  have hP : va_P D vwCl (wW cyD cyI cyJ cyZ aw ad ak ar au ae av ab df kf rf uf st fw fo sn me vf lf sp sb no) s.heap := hP
  have hl := lv_entry [.ref aw, .int p1, .int p2] (n := 7) (Nat.le_of_ble_eq_true rfl)
  rw [lg_entry_eq]
  generalize (lg_sl [.ref aw, .int p1, .int p2] ++ List.replicate (7 - (lg_sl [.ref aw, .int p1, .int p2]).length) Slot.unset).toArray = ls at hl ⊢
  have hl : lv_has ls 7 [(0, .ref aw), (1, .int p1), (2, .int p2)] := hl
  obtain ⟨H, hHe⟩ : ∃ H : Heap, H = s.heap := ⟨_, rfl⟩
  have hP : va_P D vwCl (wW cyD cyI cyJ cyZ aw ad ak ar au ae av ab df kf rf uf st fw fo sn me vf lf sp sb no) H := by rw [hHe]; exact hP
  have hS : va_S A s.heap H [] := by rw [hHe]; exact hS
  rw [← hHe]
  obtain ⟨q0, hq0, eq0⟩ := lowest_nI me df p1 hE.1 hE.2.1
  have h64 := hE.2.1
  refine lv_aload_n hx hb dX2_sumUp_0 rfl (lv_at hl 0 rfl) ?_
  refine lv_iload_n hx hb dX2_sumUp_1 rfl (lv_at hl 1 rfl) ?_
  have hPc : va_P D vwCl (wW cyD cyI cyJ cyZ aw ad ak ar au ae av ab df kf rf uf st fw fo sn me vf lf sp sb no) H := hP.sub [0, 1, 2, 3, 4, 5, 6, 7] rfl
  have hDc : va_D A (wW cyD cyI cyJ cyZ aw ad ak ar au ae av ab df kf rf uf st fw fo sn me vf lf sp sb no) := hD.sub [0, 1, 2, 3, 4, 5, 6, 7] (by decide) rfl
  refine kiE (ws' := (wW cyD cyI cyJ cyZ aw ad ak ar au ae av ab df kf rf uf st fw fo sn me vf lf sp sb no)) (wc := (wW cyD cyI cyJ cyZ aw ad ak ar au ae av ab df kf rf uf st fw fo sn me vf lf sp sb no)) (wr := []) (w1 := (wW cyD cyI cyJ cyZ aw ad ak ar au ae av ab df kf rf uf st fw fo sn me vf lf sp sb no)) (va_runV (As := [.int p1]) (rest := []) ⟨hx, hb, hml, hown, hts⟩ (c_X2_highest (l := l) (D := D) (cyD := cyD) (cyI := cyI) (cyJ := cyJ) (cyZ := cyZ) aw ad ak ar au ae av ab df kf rf uf st fw fo sn me vf lf sp sb no H.size p1 hE) (cwV 1 hts gX2_sumUp_X2_highest rfl rfl rfl (by decide +kernel) ⟨Nat.le_of_ble_eq_true rfl, Nat.le_of_ble_eq_true rfl⟩) (kV (ci := 2) (q0 := 0) (q := (RX2, TX2, 8)) hN hK hPc hDc rfl rfl rfl) rfl rfl hl.1 rfl (lv_room (Nat.le_of_ble_eq_true rfl)) dX2_sumUp_2 ⟨Nat.le_of_ble_eq_true rfl, Nat.le_of_ble_eq_true rfl⟩) hP hD hS hA [0, 1, 2, 3, 4, 5, 6, 7] [] [0, 1, 2, 3, 4, 5, 6, 7] rfl rfl (by decide) (by decide) rfl (by decide) (fun H locs hP hD hS => ?_)
  refine lv_istore_n (lv' := [(3, .int (fX2_highest df sn me p1)), (0, .ref aw), (1, .int p1), (2, .int p2)]) hx hb dX2_sumUp_5 rfl hl (by decide) rfl (fun ls hl => ?_)
  refine lv_aload_n hx hb dX2_sumUp_6 rfl (lv_at hl 1 rfl) ?_
  refine lv_iload_n hx hb dX2_sumUp_7 rfl (lv_at hl 2 rfl) ?_
  have hPc : va_P D vwCl (wW cyD cyI cyJ cyZ aw ad ak ar au ae av ab df kf rf uf st fw fo sn me vf lf sp sb no) H := hP.sub [0, 1, 2, 3, 4, 5, 6, 7] rfl
  have hDc : va_D A (wW cyD cyI cyJ cyZ aw ad ak ar au ae av ab df kf rf uf st fw fo sn me vf lf sp sb no) := hD.sub [0, 1, 2, 3, 4, 5, 6, 7] (by decide) rfl
  refine kiE (ws' := (wW cyD cyI cyJ cyZ aw ad ak ar au ae av ab df kf rf uf st fw fo sn me vf lf sp sb no)) (wc := (wW cyD cyI cyJ cyZ aw ad ak ar au ae av ab df kf rf uf st fw fo sn me vf lf sp sb no)) (wr := []) (w1 := (wW cyD cyI cyJ cyZ aw ad ak ar au ae av ab df kf rf uf st fw fo sn me vf lf sp sb no)) (va_runV (As := [.int p1]) (rest := []) ⟨hx, hb, hml, hown, hts⟩ (c_X2_lowest (l := l) (D := D) (cyD := cyD) (cyI := cyI) (cyJ := cyJ) (cyZ := cyZ) aw ad ak ar au ae av ab df kf rf uf st fw fo sn me vf lf sp sb no H.size p1 hE) (cwV 1 hts gX2_sumUp_X2_lowest rfl rfl rfl (by decide +kernel) ⟨Nat.le_of_ble_eq_true rfl, Nat.le_of_ble_eq_true rfl⟩) (kV (ci := 2) (q0 := 0) (q := (RX2, TX2, 8)) hN hK hPc hDc rfl rfl rfl) rfl rfl hl.1 rfl (lv_room (Nat.le_of_ble_eq_true rfl)) dX2_sumUp_8 ⟨Nat.le_of_ble_eq_true rfl, Nat.le_of_ble_eq_true rfl⟩) hP hD hS hA [0, 1, 2, 3, 4, 5, 6, 7] [] [0, 1, 2, 3, 4, 5, 6, 7] rfl rfl (by decide) (by decide) rfl (by decide) (fun H locs hP hD hS => ?_)
  refine lv_istore (lv' := [(4, .int (fX2_lowest df sn me p1)), (3, .int (fX2_highest df sn me p1)), (0, .ref aw), (1, .int p1), (2, .int p2)]) hx hb dX2_sumUp_11 hl (by decide) rfl (fun ls hl => ?_)
  have loop_13 : ∀ (k : Nat) (j : Nat) (uu : Nat → Int64) (H : Heap) (locs : List Loc), (65 ≤ j + k) → (j ≤ 64) → (fX2_sumUp df uf st fw sn me vf lf sp sb no p1 p2) = fX2_sumUp_L13 df uf st fw sn me vf lf sp sb no p1 p2 k ((nI j)) (uu) → va_P D vwCl (wW cyD cyI cyJ cyZ aw ad ak ar au ae av ab df kf rf (uu) st fw fo sn me vf lf sp sb no) H → va_D A (wW cyD cyI cyJ cyZ aw ad ak ar au ae av ab df kf rf (uu) st fw fo sn me vf lf sp sb no) → va_S A s.heap H locs → ∀ ls, lv_has ls 7 [(4, .int ((nI j))), (3, .int (fX2_highest df sn me p1)), (0, .ref aw), (1, .int p1), (2, .int p2)] → W p l e (headSpec wsX2_sumUp ({ frames := 4, cells := 0, slots := 0, locals := 96 } : Room)).room s m ([.ref aw, .int p1, .int p2] : List Value).toArray below meth c H locs 0 0 (MQ below (va_Qv (fun (_ : Unit) => True) (kE D (kT cyD cyI cyJ cyZ) (wW cyD cyI cyJ cyZ aw ad ak ar au ae av ab df kf rf (fX2_sumUp df uf st fw sn me vf lf sp sb no p1 p2) st fw fo sn me vf lf sp sb no) A) A) ([.ref aw, .int p1, .int p2] : List Value).toArray s 0 0 A) (F0 m 13 ls []) := by
    intro k
    induction k with
    | zero => intro j uu H locs hj hj3 hF hP hD hS ls hl; exact absurd hj3 (by omega)
    | succ k ih =>
      intro j uu H locs hj hj3 hF hP hD hS ls hl
      refine lv_iload hx hb dX2_sumUp_13 (lv_at hl 0 rfl) ?_
      refine lv_iload_n hx hb dX2_sumUp_15 rfl (lv_at hl 1 rfl) ?_
      refine lv_icmp_gt (tgt := 95) hx hb dX2_sumUp_16 (by decide) (fun c_16 => ?_) (fun c_16 => ?_)
      · have hF9 : (fX2_sumUp df uf st fw sn me vf lf sp sb no p1 p2) = uu := by rw [hF, fX2_sumUp_L13, if_pos c_16]
        have hP9 : va_P D vwCl (wW cyD cyI cyJ cyZ aw ad ak ar au ae av ab df kf rf (fX2_sumUp df uf st fw sn me vf lf sp sb no p1 p2) st fw fo sn me vf lf sp sb no) H := by rw [hF9]; exact hP
        have hD9 : va_D A (wW cyD cyI cyJ cyZ aw ad ak ar au ae av ab df kf rf (fX2_sumUp df uf st fw sn me vf lf sp sb no p1 p2) st fw fo sn me vf lf sp sb no) := by rw [hF9]; exact hD
        exact W.vret hx hb hr (fun t ht hW => ⟨⟨(), rfl, trivial, by rw [ht]; exact hP9, va_K.moved hW.alike hK, hD9⟩, hS.F ht⟩) hS.2.2 dX2_sumUp_95
      refine lv_aload_n hx hb dX2_sumUp_19 rfl (lv_at hl 2 rfl) ?_
      refine va_get (D := D) (ci := 2) (v := .ref ae) (C := RX2) (T := TX2) (N := 8) hx hb hts (fun _ h => (List.mem_cons_of_mem _ (List.mem_append_left _ (List.mem_append_right _ h)))) hown hK hP 0 rfl rfl 0 (by decide) (hts (.fieldLink RX2 34 "BottomWalks$Walk" "echoes" "LBottomWalks$Echoes;") (List.mem_of_getElem? (i := 1) rfl)) (fun _ h9 => h9) rfl dX2_sumUp_20 ?_
      refine lv_iload hx hb dX2_sumUp_23 (lv_at hl 0 rfl) ?_
      have hPc : va_P D vwCl (wE cyD cyI cyJ cyZ ae av ab sn me vf lf sp sb no) H := hP.sub [5, 6, 7] rfl
      have hDc : va_D A (wE cyD cyI cyJ cyZ ae av ab sn me vf lf sp sb no) := hD.sub [5, 6, 7] (by decide) rfl
      refine kzE (ws' := (wW cyD cyI cyJ cyZ aw ad ak ar au ae av ab df kf rf (uu) st fw fo sn me vf lf sp sb no)) (wc := (wE cyD cyI cyJ cyZ ae av ab sn me vf lf sp sb no)) (wr := [(aw, .inr (2, [.ref ae, .ref ad, .ref ak, .ref ar, .ref au, .int st, .int fw, .int fo])), (ad, .inl (cyD, 32, .inr (.inr (.inr (.inl df))))), (ak, .inl (cyZ, 32, .inl kf)), (ar, .inl (cyI, 32, .inl rf)), (au, .inl (cyJ, 32 * sn, .inr (.inl (uu))))]) (w1 := (wE cyD cyI cyJ cyZ ae av ab sn me vf lf sp sb no)) (va_runV (As := [.int ((nI j))]) (rest := []) ⟨hx, hb, hml, hown, hts⟩ (c_X0_isSample (l := l) (D := D) (cyD := cyD) (cyI := cyI) (cyJ := cyJ) (cyZ := cyZ) ae av ab sn me vf lf sp sb no H.size ((nI j))) (cwV 1 hts gX2_sumUp_X0_isSample rfl rfl rfl (by decide +kernel) ⟨Nat.le_of_ble_eq_true rfl, Nat.le_of_ble_eq_true rfl⟩) (kV (ci := 0) (q0 := 0) (q := (RX0, TX0, 7)) hN hK hPc hDc rfl rfl rfl) rfl rfl hl.1 rfl (lv_room (Nat.le_of_ble_eq_true rfl)) dX2_sumUp_25 ⟨Nat.le_of_ble_eq_true rfl, Nat.le_of_ble_eq_true rfl⟩) hP hD hS hA [5, 6, 7] [0, 1, 2, 3, 4] [0, 1, 2, 3, 4, 5, 6, 7] rfl rfl (by decide) (by decide) rfl (by decide) (fun H locs hz_25 hP hD hS => ?_)
      refine lv_if_eq (tgt := 95) hx hb dX2_sumUp_28 (by decide) (fun c_28 => ?_) (fun c_28 => ?_)
      · have hF9 : (fX2_sumUp df uf st fw sn me vf lf sp sb no p1 p2) = uu := by rw [hF, fX2_sumUp_L13, if_neg c_16, if_pos c_28]
        have hP9 : va_P D vwCl (wW cyD cyI cyJ cyZ aw ad ak ar au ae av ab df kf rf (fX2_sumUp df uf st fw sn me vf lf sp sb no p1 p2) st fw fo sn me vf lf sp sb no) H := by rw [hF9]; exact hP
        have hD9 : va_D A (wW cyD cyI cyJ cyZ aw ad ak ar au ae av ab df kf rf (fX2_sumUp df uf st fw sn me vf lf sp sb no p1 p2) st fw fo sn me vf lf sp sb no) := by rw [hF9]; exact hD
        exact W.vret hx hb hr (fun t ht hW => ⟨⟨(), rfl, trivial, by rw [ht]; exact hP9, va_K.moved hW.alike hK, hD9⟩, hS.F ht⟩) hS.2.2 dX2_sumUp_95
      refine lv_aload_n hx hb dX2_sumUp_31 rfl (lv_at hl 2 rfl) ?_
      refine va_get (D := D) (ci := 2) (v := .ref ae) (C := RX2) (T := TX2) (N := 8) hx hb hts (fun _ h => (List.mem_cons_of_mem _ (List.mem_append_left _ (List.mem_append_right _ h)))) hown hK hP 0 rfl rfl 0 (by decide) (hts (.fieldLink RX2 34 "BottomWalks$Walk" "echoes" "LBottomWalks$Echoes;") (List.mem_of_getElem? (i := 1) rfl)) (fun _ h9 => h9) rfl dX2_sumUp_32 ?_
      refine lv_aload_n hx hb dX2_sumUp_35 rfl (lv_at hl 2 rfl) ?_
      refine va_get (D := D) (ci := 2) (v := .int fw) (C := RX2) (T := TX2) (N := 8) hx hb hts (fun _ h => (List.mem_cons_of_mem _ (List.mem_append_left _ (List.mem_append_right _ h)))) hown hK hP 0 rfl rfl 6 (by decide) (hts (.fieldLink RX2 27 "BottomWalks$Walk" "frequencyWalked" "I") (List.mem_of_getElem? (i := 2) rfl)) (fun _ h9 => h9) rfl dX2_sumUp_36 ?_
      refine lv_iload_n hx hb dX2_sumUp_39 rfl (lv_at hl 3 rfl) ?_
      refine lv_iload hx hb dX2_sumUp_40 (lv_at hl 0 rfl) ?_
      have hPc : va_P D vwCl (wE cyD cyI cyJ cyZ ae av ab sn me vf lf sp sb no) H := hP.sub [5, 6, 7] rfl
      have hDc : va_D A (wE cyD cyI cyJ cyZ ae av ab sn me vf lf sp sb no) := hD.sub [5, 6, 7] (by decide) rfl
      refine klE (ws' := (wW cyD cyI cyJ cyZ aw ad ak ar au ae av ab df kf rf (uu) st fw fo sn me vf lf sp sb no)) (wc := (wE cyD cyI cyJ cyZ ae av ab sn me vf lf sp sb no)) (wr := [(aw, .inr (2, [.ref ae, .ref ad, .ref ak, .ref ar, .ref au, .int st, .int fw, .int fo])), (ad, .inl (cyD, 32, .inr (.inr (.inr (.inl df))))), (ak, .inl (cyZ, 32, .inl kf)), (ar, .inl (cyI, 32, .inl rf)), (au, .inl (cyJ, 32 * sn, .inr (.inl (uu))))]) (w1 := (wE cyD cyI cyJ cyZ ae av ab sn me vf lf sp sb no)) (va_runV (As := [.int fw, .int p1, .int ((nI j))]) (rest := []) ⟨hx, hb, hml, hown, hts⟩ (c_X0_strength (l := l) (D := D) (cyD := cyD) (cyI := cyI) (cyJ := cyJ) (cyZ := cyZ) ae av ab sn me vf lf sp sb no H.size fw p1 ((nI j)) hE) (cwV 3 hts gX2_sumUp_X0_strength rfl rfl rfl (by decide +kernel) ⟨Nat.le_of_ble_eq_true rfl, Nat.le_of_ble_eq_true rfl⟩) (kV (ci := 0) (q0 := 0) (q := (RX0, TX0, 7)) hN hK hPc hDc rfl rfl rfl) rfl rfl hl.1 rfl (lv_room (Nat.le_of_ble_eq_true rfl)) dX2_sumUp_42 ⟨Nat.le_of_ble_eq_true rfl, Nat.le_of_ble_eq_true rfl⟩) hP hD hS hA [5, 6, 7] [0, 1, 2, 3, 4] [0, 1, 2, 3, 4, 5, 6, 7] rfl rfl (by decide) (by decide) rfl (by decide) (fun H locs hP hD hS => ?_)
      refine lv_lstore (lv' := [(5, .long (fX0_strength sn me vf lf sp sb no fw p1 ((nI j)))), (4, .int ((nI j))), (3, .int (fX2_highest df sn me p1)), (0, .ref aw), (1, .int p1), (2, .int p2)]) hx hb dX2_sumUp_45 hl (by decide) rfl (fun ls hl => ?_)
      refine lv_iload_n hx hb dX2_sumUp_47 rfl (lv_at hl 5 rfl) ?_
      refine lv_iconst (v := (-1)) hx hb dX2_sumUp_48 (by decide) ?_
      refine lv_icmp_eq (tgt := 70) hx hb dX2_sumUp_49 (by decide) (fun c_49 => ?_) (fun c_49 => ?_)
      · refine lv_aload_n hx hb dX2_sumUp_70 rfl (lv_at hl 3 rfl) ?_
        refine va_get (D := D) (ci := 2) (v := .ref au) (C := RX2) (T := TX2) (N := 8) hx hb hts (fun _ h => (List.mem_cons_of_mem _ (List.mem_append_left _ (List.mem_append_right _ h)))) hown hK hP 0 rfl rfl 4 (by decide) (hts (.fieldLink RX2 43 "BottomWalks$Walk" "sums" "[J") (List.mem_of_getElem? (i := 3) rfl)) (fun _ h9 => h9) rfl dX2_sumUp_71 ?_
        refine lv_iload_n hx hb dX2_sumUp_74 rfl (lv_at hl 4 rfl) ?_
        refine lv_aload_n hx hb dX2_sumUp_75 rfl (lv_at hl 3 rfl) ?_
        refine va_get (D := D) (ci := 2) (v := .ref ae) (C := RX2) (T := TX2) (N := 8) hx hb hts (fun _ h => (List.mem_cons_of_mem _ (List.mem_append_left _ (List.mem_append_right _ h)))) hown hK hP 0 rfl rfl 0 (by decide) (hts (.fieldLink RX2 34 "BottomWalks$Walk" "echoes" "LBottomWalks$Echoes;") (List.mem_of_getElem? (i := 1) rfl)) (fun _ h9 => h9) rfl dX2_sumUp_76 ?_
        refine va_get (D := D) (ci := 0) (v := .int (nI sn)) (C := RX0) (T := TX0) (N := 7) hx hb hts (fun _ h => (List.mem_cons_of_mem _ (List.mem_append_right _ h))) hown hK hP 5 rfl rfl 0 (by decide) (hts (.fieldLink RX2 38 "BottomWalks$Echoes" "samples" "I") (List.mem_of_getElem? (i := 4) rfl)) (fun _ h9 => h9) rfl dX2_sumUp_79 ?_
        refine lv_imul hx hb dX2_sumUp_82 ?_
        refine lv_iload hx hb dX2_sumUp_83 (lv_at hl 1 rfl) ?_
        refine lv_iadd hx hb dX2_sumUp_85 ?_
        refine lv_lload hx hb dX2_sumUp_86 (lv_at hl 0 rfl) ?_
        refine va_last hx hb hK hP hD hS 4 2 rfl rfl (sumUp_in hE.2.1 hp1 hPP hj3 c_28) dX2_sumUp_88 (fun H locs hP hD hS => ?_)
        have hP : va_P D vwCl (wW cyD cyI cyJ cyZ aw ad ak ar au ae av ab df kf rf (vp_updL (uu) ((p1 * (nI sn)) + (nI j)).toNatClampNeg (fX0_strength sn me vf lf sp sb no fw p1 ((nI j)))) st fw fo sn me vf lf sp sb no) H := hP
        have hD : va_D A (wW cyD cyI cyJ cyZ aw ad ak ar au ae av ab df kf rf (vp_updL (uu) ((p1 * (nI sn)) + (nI j)).toNatClampNeg (fX0_strength sn me vf lf sp sb no fw p1 ((nI j)))) st fw fo sn me vf lf sp sb no) := hD
        refine lv_iinc (v := (((nI j)) + 1)) (lv' := [(4, .int (((nI j)) + 1)), (5, .long (fX0_strength sn me vf lf sp sb no fw p1 ((nI j)))), (3, .int (fX2_highest df sn me p1)), (0, .ref aw), (1, .int p1), (2, .int p2)]) hx hb dX2_sumUp_89 hl (k := 1) rfl rfl (by decide) rfl (fun ls hl => ?_)
        refine lv_goto (tgt := 13) hx hb dX2_sumUp_92 (by decide) ?_
        exact ih (j + 1) (vp_updL (uu) ((p1 * (nI sn)) + (nI j)).toNatClampNeg (fX0_strength sn me vf lf sp sb no fw p1 ((nI j)))) _ _ (by omega) (by have := samp_lt hE.2.1 hj3 c_28; omega) (by rw [← nI_1 j]; rw [hF, fX2_sumUp_L13, if_neg c_16, if_neg c_28, if_pos c_49]) hP hD hS _ (by rw [← nI_1 j]; exact lv_sub hl [0, 2, 3, 4, 5] rfl)
      refine lv_lload hx hb dX2_sumUp_52 (lv_at hl 0 rfl) ?_
      refine lv_aload_n hx hb dX2_sumUp_54 rfl (lv_at hl 3 rfl) ?_
      refine lv_iload_n hx hb dX2_sumUp_55 rfl (lv_at hl 5 rfl) ?_
      refine lv_aload_n hx hb dX2_sumUp_56 rfl (lv_at hl 3 rfl) ?_
      refine lv_iload_n hx hb dX2_sumUp_57 rfl (lv_at hl 5 rfl) ?_
      refine lv_iload_n hx hb dX2_sumUp_58 rfl (lv_at hl 4 rfl) ?_
      refine lv_iload hx hb dX2_sumUp_59 (lv_at hl 1 rfl) ?_
      have hPc : va_P D vwCl (wW cyD cyI cyJ cyZ aw ad ak ar au ae av ab df kf rf (uu) st fw fo sn me vf lf sp sb no) H := hP.sub [0, 1, 2, 3, 4, 5, 6, 7] rfl
      have hDc : va_D A (wW cyD cyI cyJ cyZ aw ad ak ar au ae av ab df kf rf (uu) st fw fo sn me vf lf sp sb no) := hD.sub [0, 1, 2, 3, 4, 5, 6, 7] (by decide) rfl
      refine kiE (ws' := (wW cyD cyI cyJ cyZ aw ad ak ar au ae av ab df kf rf (uu) st fw fo sn me vf lf sp sb no)) (wc := (wW cyD cyI cyJ cyZ aw ad ak ar au ae av ab df kf rf (uu) st fw fo sn me vf lf sp sb no)) (wr := []) (w1 := (wW cyD cyI cyJ cyZ aw ad ak ar au ae av ab df kf rf (uu) st fw fo sn me vf lf sp sb no)) (va_runV (As := [.int p2, .int p1, .int ((nI j))]) (rest := [.int p2, .ref aw, .long (fX0_strength sn me vf lf sp sb no fw p1 ((nI j)))]) ⟨hx, hb, hml, hown, hts⟩ (c_X2_bestBefore (l := l) (D := D) (cyD := cyD) (cyI := cyI) (cyJ := cyJ) (cyZ := cyZ) aw ad ak ar au ae av ab df kf rf (uu) st fw fo sn me vf lf sp sb no H.size p2 p1 ((nI j)) hE S hS2 hS64 j rfl (by have := samp_lt hE.2.1 hj3 c_28; omega)) (cwV 3 hts gX2_sumUp_X2_bestBefore rfl rfl rfl (by decide +kernel) ⟨Nat.le_of_ble_eq_true rfl, Nat.le_of_ble_eq_true rfl⟩) (kV (ci := 2) (q0 := 0) (q := (RX2, TX2, 8)) hN hK hPc hDc rfl rfl rfl) rfl rfl hl.1 rfl (lv_room (Nat.le_of_ble_eq_true rfl)) dX2_sumUp_61 ⟨Nat.le_of_ble_eq_true rfl, Nat.le_of_ble_eq_true rfl⟩) hP hD hS hA [0, 1, 2, 3, 4, 5, 6, 7] [] [0, 1, 2, 3, 4, 5, 6, 7] rfl rfl (by decide) (by decide) rfl (by decide) (fun H locs hP hD hS => ?_)
      have hPc : va_P D vwCl (wW cyD cyI cyJ cyZ aw ad ak ar au ae av ab df kf rf (uu) st fw fo sn me vf lf sp sb no) H := hP.sub [0, 1, 2, 3, 4, 5, 6, 7] rfl
      have hDc : va_D A (wW cyD cyI cyJ cyZ aw ad ak ar au ae av ab df kf rf (uu) st fw fo sn me vf lf sp sb no) := hD.sub [0, 1, 2, 3, 4, 5, 6, 7] (by decide) rfl
      refine klE (ws' := (wW cyD cyI cyJ cyZ aw ad ak ar au ae av ab df kf rf (uu) st fw fo sn me vf lf sp sb no)) (wc := (wW cyD cyI cyJ cyZ aw ad ak ar au ae av ab df kf rf (uu) st fw fo sn me vf lf sp sb no)) (wr := []) (w1 := (wW cyD cyI cyJ cyZ aw ad ak ar au ae av ab df kf rf (uu) st fw fo sn me vf lf sp sb no)) (va_runV (As := [.int p2, .int (fX2_bestBefore df (uu) st sn me p2 p1 ((nI j)))]) (rest := [.long (fX0_strength sn me vf lf sp sb no fw p1 ((nI j)))]) ⟨hx, hb, hml, hown, hts⟩ (c_X2_sumAt (l := l) (D := D) (cyD := cyD) (cyI := cyI) (cyJ := cyJ) (cyZ := cyZ) aw ad ak ar au ae av ab df kf rf (uu) st fw fo sn me vf lf sp sb no H.size p2 (fX2_bestBefore df (uu) st sn me p2 p1 ((nI j))) hE) (cwV 2 hts gX2_sumUp_X2_sumAt rfl rfl rfl (by decide +kernel) ⟨Nat.le_of_ble_eq_true rfl, Nat.le_of_ble_eq_true rfl⟩) (kV (ci := 2) (q0 := 0) (q := (RX2, TX2, 8)) hN hK hPc hDc rfl rfl rfl) rfl rfl hl.1 rfl (lv_room (Nat.le_of_ble_eq_true rfl)) dX2_sumUp_64 ⟨Nat.le_of_ble_eq_true rfl, Nat.le_of_ble_eq_true rfl⟩) hP hD hS hA [0, 1, 2, 3, 4, 5, 6, 7] [] [0, 1, 2, 3, 4, 5, 6, 7] rfl rfl (by decide) (by decide) rfl (by decide) (fun H locs hP hD hS => ?_)
      refine lv_ladd hx hb dX2_sumUp_67 ?_
      refine lv_lstore (lv' := [(5, .long ((fX0_strength sn me vf lf sp sb no fw p1 ((nI j))) + (fX2_sumAt (uu) sn p2 (fX2_bestBefore df (uu) st sn me p2 p1 ((nI j)))))), (4, .int ((nI j))), (3, .int (fX2_highest df sn me p1)), (0, .ref aw), (1, .int p1), (2, .int p2)]) hx hb dX2_sumUp_68 hl (by decide) rfl (fun ls hl => ?_)
      refine lv_aload_n hx hb dX2_sumUp_70 rfl (lv_at hl 3 rfl) ?_
      refine va_get (D := D) (ci := 2) (v := .ref au) (C := RX2) (T := TX2) (N := 8) hx hb hts (fun _ h => (List.mem_cons_of_mem _ (List.mem_append_left _ (List.mem_append_right _ h)))) hown hK hP 0 rfl rfl 4 (by decide) (hts (.fieldLink RX2 43 "BottomWalks$Walk" "sums" "[J") (List.mem_of_getElem? (i := 3) rfl)) (fun _ h9 => h9) rfl dX2_sumUp_71 ?_
      refine lv_iload_n hx hb dX2_sumUp_74 rfl (lv_at hl 4 rfl) ?_
      refine lv_aload_n hx hb dX2_sumUp_75 rfl (lv_at hl 3 rfl) ?_
      refine va_get (D := D) (ci := 2) (v := .ref ae) (C := RX2) (T := TX2) (N := 8) hx hb hts (fun _ h => (List.mem_cons_of_mem _ (List.mem_append_left _ (List.mem_append_right _ h)))) hown hK hP 0 rfl rfl 0 (by decide) (hts (.fieldLink RX2 34 "BottomWalks$Walk" "echoes" "LBottomWalks$Echoes;") (List.mem_of_getElem? (i := 1) rfl)) (fun _ h9 => h9) rfl dX2_sumUp_76 ?_
      refine va_get (D := D) (ci := 0) (v := .int (nI sn)) (C := RX0) (T := TX0) (N := 7) hx hb hts (fun _ h => (List.mem_cons_of_mem _ (List.mem_append_right _ h))) hown hK hP 5 rfl rfl 0 (by decide) (hts (.fieldLink RX2 38 "BottomWalks$Echoes" "samples" "I") (List.mem_of_getElem? (i := 4) rfl)) (fun _ h9 => h9) rfl dX2_sumUp_79 ?_
      refine lv_imul hx hb dX2_sumUp_82 ?_
      refine lv_iload hx hb dX2_sumUp_83 (lv_at hl 1 rfl) ?_
      refine lv_iadd hx hb dX2_sumUp_85 ?_
      refine lv_lload hx hb dX2_sumUp_86 (lv_at hl 0 rfl) ?_
      refine va_last hx hb hK hP hD hS 4 2 rfl rfl (sumUp_in hE.2.1 hp1 hPP hj3 c_28) dX2_sumUp_88 (fun H locs hP hD hS => ?_)
      have hP : va_P D vwCl (wW cyD cyI cyJ cyZ aw ad ak ar au ae av ab df kf rf (vp_updL (uu) ((p1 * (nI sn)) + (nI j)).toNatClampNeg ((fX0_strength sn me vf lf sp sb no fw p1 ((nI j))) + (fX2_sumAt (uu) sn p2 (fX2_bestBefore df (uu) st sn me p2 p1 ((nI j)))))) st fw fo sn me vf lf sp sb no) H := hP
      have hD : va_D A (wW cyD cyI cyJ cyZ aw ad ak ar au ae av ab df kf rf (vp_updL (uu) ((p1 * (nI sn)) + (nI j)).toNatClampNeg ((fX0_strength sn me vf lf sp sb no fw p1 ((nI j))) + (fX2_sumAt (uu) sn p2 (fX2_bestBefore df (uu) st sn me p2 p1 ((nI j)))))) st fw fo sn me vf lf sp sb no) := hD
      refine lv_iinc (v := (((nI j)) + 1)) (lv' := [(4, .int (((nI j)) + 1)), (5, .long ((fX0_strength sn me vf lf sp sb no fw p1 ((nI j))) + (fX2_sumAt (uu) sn p2 (fX2_bestBefore df (uu) st sn me p2 p1 ((nI j)))))), (3, .int (fX2_highest df sn me p1)), (0, .ref aw), (1, .int p1), (2, .int p2)]) hx hb dX2_sumUp_89 hl (k := 1) rfl rfl (by decide) rfl (fun ls hl => ?_)
      refine lv_goto (tgt := 13) hx hb dX2_sumUp_92 (by decide) ?_
      exact ih (j + 1) (vp_updL (uu) ((p1 * (nI sn)) + (nI j)).toNatClampNeg ((fX0_strength sn me vf lf sp sb no fw p1 ((nI j))) + (fX2_sumAt (uu) sn p2 (fX2_bestBefore df (uu) st sn me p2 p1 ((nI j)))))) _ _ (by omega) (by have := samp_lt hE.2.1 hj3 c_28; omega) (by rw [← nI_1 j]; rw [hF, fX2_sumUp_L13, if_neg c_16, if_neg c_28, if_neg c_49]) hP hD hS _ (by rw [← nI_1 j]; exact lv_sub hl [0, 2, 3, 4, 5] rfl)
  exact loop_13 65 q0 uf _ _ (by omega) (by omega) (by rw [← eq0]; rw [fX2_sumUp]) hP hD hS _ (by rw [← eq0]; exact lv_sub hl [0, 1, 2, 3, 4] rfl)
def fX2_traceBack_L8 (df : Nat → UInt64) (kf : Nat → Int32) (rf : Nat → Int32) (uf : Nat → Int64) (st : Int32) (sn : Nat) (me : UInt64)   : Nat → (Int32) → (Int32) → (Int64) → (Nat → Int32) → Int64 × (Nat → Int32)
  | 0, v_j, v_bh, v_gg, v_rr => (0, v_rr)
  | k + 1, v_j, v_bh, v_gg, v_rr => if v_j < 0 then (v_gg, v_rr) else (if (kf (v_j).toNatClampNeg) = 0 then (fX2_traceBack_L8 df kf rf uf st sn me k ((v_j) + (-1)) (v_bh) (v_gg) (v_rr)) else (if v_bh = (-1 : Int32) then (fX2_traceBack_L8 df kf rf uf st sn me k ((v_j) + (-1)) (v_j) (fX2_sumAt uf sn (v_j) ((upd (v_rr) (v_j).toNatClampNeg (fX2_bestBefore df uf st sn me (v_j) (v_bh) (fX2_sampleOfRow (v_rr) (v_bh)))) (v_j).toNatClampNeg)) (upd (v_rr) (v_j).toNatClampNeg (fX2_bestBefore df uf st sn me (v_j) (v_bh) (fX2_sampleOfRow (v_rr) (v_bh))))) else ((fX2_traceBack_L8 df kf rf uf st sn me k ((v_j) + (-1)) (v_j) (v_gg) (upd (v_rr) (v_j).toNatClampNeg (fX2_bestBefore df uf st sn me (v_j) (v_bh) (fX2_sampleOfRow (v_rr) (v_bh))))))))
def fX2_traceBack (df : Nat → UInt64) (kf : Nat → Int32) (rf : Nat → Int32) (uf : Nat → Int64) (st : Int32) (sn : Nat) (me : UInt64)  : Int64 × (Nat → Int32) := (fX2_traceBack_L8 df kf rf uf st sn me 33 (31 : Int32) (-1 : Int32) (0 : Int64) rf)
set_option maxHeartbeats 4000000 in
set_option maxRecDepth 100000 in
theorem c_X2_traceBack {l : Launch} {D : va_G} {cyD cyI cyJ cyZ : ClassId} (aw ad ak ar au ae av ab : Nat) (df : Nat → UInt64) (kf : Nat → Int32) (rf : Nat → Int32) (uf : Nat → Int64) (st : Int32) (fw : Int32) (fo : Int32) (sn : Nat) (me : UInt64) (vf : Nat → UInt64) (lf : Nat → Int32) (sp : UInt64) (sb : UInt64) (no : UInt64) (sz : Nat)  (hE : okE sn me vf sp sb no) (S : Nat) (hS2 : st = nI S) (hS64 : S ≤ 64) (hrf : okR rf) : mL l yX2_traceBack wsX2_traceBack ({ frames := 4, cells := 0, slots := 0, locals := 96 } : Room) D (kT cyD cyI cyJ cyZ) [.ref aw] (wW cyD cyI cyJ cyZ aw ad ak ar au ae av ab df kf rf uf st fw fo sn me vf lf sp sb no) (wW cyD cyI cyJ cyZ aw ad ak ar au ae av ab df kf ((fX2_traceBack df kf rf uf st sn me).2) uf st fw fo sn me vf lf sp sb no) sz ((fX2_traceBack df kf rf uf st sn me).1) 0 0 := by
  refine Met.ofW (cc := cX2_traceBack) (maxL := 5) (ret := (some .long)) (by decide) rfl ?_
  intro p e s m args below meth c s₁ B hml hv
  obtain ⟨rfl, hN, hsz, hP, hK, hD0⟩ := hv
  have hx := B.exec
  have hb := B.bytes
  have hr := B.returns
  have hts := atoms_spec (ws := wsX2_traceBack) B.pre
  have hown : s.vm.findClass RX2 = some m.cls := findClass_of_methodNamed B.named
  have hlocks := B.notSynchronized
  subst hsz
  have hD := hD0.self (sz := s.heap.size)
  generalize hAe : va_A (wW cyD cyI cyJ cyZ aw ad ak ar au ae av ab df kf rf uf st fw fo sn me vf lf sp sb no) s.heap.size = A at hD ⊢
  have hA : ∀ q : Nat, s.heap.size ≤ q → A q := fun q h => by rw [← hAe]; exact Or.inr h
  have hS : va_S A s.heap s.heap [] := va_S.rf
  have hP : va_P D vwCl (wW cyD cyI cyJ cyZ aw ad ak ar au ae av ab df kf rf uf st fw fo sn me vf lf sp sb no) s.heap := hP
  have hl := lv_entry [.ref aw] (n := 5) (Nat.le_of_ble_eq_true rfl)
  rw [lg_entry_eq]
  generalize (lg_sl [.ref aw] ++ List.replicate (5 - (lg_sl [.ref aw]).length) Slot.unset).toArray = ls at hl ⊢
  have hl : lv_has ls 5 [(0, .ref aw)] := hl
  obtain ⟨H, hHe⟩ : ∃ H : Heap, H = s.heap := ⟨_, rfl⟩
  have hP : va_P D vwCl (wW cyD cyI cyJ cyZ aw ad ak ar au ae av ab df kf rf uf st fw fo sn me vf lf sp sb no) H := by rw [hHe]; exact hP
  have hS : va_S A s.heap H [] := by rw [hHe]; exact hS
  rw [← hHe]
  refine lv_lconst (v := 0) hx hb dX2_traceBack_0 rfl ?_
  refine lv_lstore_n (lv' := [(1, .long (0 : Int64)), (0, .ref aw)]) hx hb dX2_traceBack_1 rfl hl (by decide) rfl (fun ls hl => ?_)
  refine lv_iconst (v := (-1)) hx hb dX2_traceBack_2 (by decide) ?_
  refine lv_istore_n (lv' := [(3, .int (-1 : Int32)), (1, .long (0 : Int64)), (0, .ref aw)]) hx hb dX2_traceBack_3 rfl hl (by decide) rfl (fun ls hl => ?_)
  refine lv_bipush (v := 31) hx hb dX2_traceBack_4 (by decide) ?_
  refine lv_istore (lv' := [(4, .int (31 : Int32)), (3, .int (-1 : Int32)), (1, .long (0 : Int64)), (0, .ref aw)]) hx hb dX2_traceBack_6 hl (by decide) rfl (fun ls hl => ?_)
  have loop_8 : ∀ (k : Nat) (j : Nat) (bh : Int32) (gg : Int64) (rr : Nat → Int32) (H : Heap) (locs : List Loc), (j < k) → (j ≤ 32) → (okR rr) → (fX2_traceBack df kf rf uf st sn me) = fX2_traceBack_L8 df kf rf uf st sn me k ((nI j + (-1))) (bh) (gg) (rr) → va_P D vwCl (wW cyD cyI cyJ cyZ aw ad ak ar au ae av ab df kf (rr) uf st fw fo sn me vf lf sp sb no) H → va_D A (wW cyD cyI cyJ cyZ aw ad ak ar au ae av ab df kf (rr) uf st fw fo sn me vf lf sp sb no) → va_S A s.heap H locs → ∀ ls, lv_has ls 5 [(4, .int ((nI j + (-1)))), (3, .int (bh)), (1, .long (gg)), (0, .ref aw)] → W p l e (headSpec wsX2_traceBack ({ frames := 4, cells := 0, slots := 0, locals := 96 } : Room)).room s m ([.ref aw] : List Value).toArray below meth c H locs 0 0 (MQ below (va_Ql (fun (r : Int64) (_ : Unit) => r = (fX2_traceBack df kf rf uf st sn me).1) (kE D (kT cyD cyI cyJ cyZ) (wW cyD cyI cyJ cyZ aw ad ak ar au ae av ab df kf ((fX2_traceBack df kf rf uf st sn me).2) uf st fw fo sn me vf lf sp sb no) A) A) ([.ref aw] : List Value).toArray s 0 0 A) (F0 m 8 ls []) := by
    intro k
    induction k with
    | zero => intro j bh gg rr H locs hj hj2 hrr hF hP hD hS ls hl; exact absurd hj (by omega)
    | succ k ih =>
      intro j bh gg rr H locs hj hj2 hrr hF hP hD hS ls hl
      refine lv_iload hx hb dX2_traceBack_8 (lv_at hl 0 rfl) ?_
      refine lv_if_lt (tgt := 74) hx hb dX2_traceBack_10 (by decide) (fun c_10 => ?_) (fun c_10 => ?_)
      · refine lv_lload_n hx hb dX2_traceBack_74 rfl (lv_at hl 2 rfl) ?_
        have hF9 : (fX2_traceBack df kf rf uf st sn me) = (gg, rr) := by rw [hF, fX2_traceBack_L8, if_pos c_10]
        have hP9 : va_P D vwCl (wW cyD cyI cyJ cyZ aw ad ak ar au ae av ab df kf ((fX2_traceBack df kf rf uf st sn me).2) uf st fw fo sn me vf lf sp sb no) H := by rw [hF9]; exact hP
        have hD9 : va_D A (wW cyD cyI cyJ cyZ aw ad ak ar au ae av ab df kf ((fX2_traceBack df kf rf uf st sn me).2) uf st fw fo sn me vf lf sp sb no) := by rw [hF9]; exact hD
        exact W.lret (v := gg) hx hb hr (fun t ht hW => ⟨⟨gg, (), rfl, (by rw [hF9]), by rw [ht]; exact hP9, va_K.moved hW.alike hK, hD9⟩, hS.F ht⟩) hS.2.2 dX2_traceBack_75
      refine lv_aload_n hx hb dX2_traceBack_13 rfl (lv_at hl 3 rfl) ?_
      refine va_get (D := D) (ci := 2) (v := .ref ak) (C := RX2) (T := TX2) (N := 8) hx hb hts (fun _ h => (List.mem_cons_of_mem _ (List.mem_append_left _ (List.mem_append_right _ h)))) hown hK hP 0 rfl rfl 2 (by decide) (hts (.fieldLink RX2 15 "BottomWalks$Walk" "walked" "[Z") (List.mem_of_getElem? (i := 1) rfl)) (fun _ h9 => h9) rfl dX2_traceBack_14 ?_
      refine lv_iload hx hb dX2_traceBack_17 (lv_at hl 0 rfl) ?_
      refine va_zald hx hb hK hP 2 3 rfl rfl (trace_in hj2 c_10) dX2_traceBack_19 ?_
      refine lv_if_eq (tgt := 68) hx hb dX2_traceBack_20 (by decide) (fun c_20 => ?_) (fun c_20 => ?_)
      · refine lv_iinc (v := (((nI j + (-1))) + (-1))) (lv' := [(4, .int (((nI j + (-1))) + (-1))), (3, .int (bh)), (1, .long (gg)), (0, .ref aw)]) hx hb dX2_traceBack_68 hl (k := 0) rfl rfl (by decide) rfl (fun ls hl => ?_)
        refine lv_goto (tgt := 8) hx hb dX2_traceBack_71 (by decide) ?_
        exact ih (j - 1) (bh) (gg) (rr) _ _ (by have h0 : j ≠ 0 := (fun z => by obtain ⟨i, hi, _⟩ := trace_i hj2 c_10; omega); omega) (by omega) hrr (by have h0 : j ≠ 0 := (fun z => by obtain ⟨i, hi, _⟩ := trace_i hj2 c_10; omega); rw [← pk_m1 (j - 1), show j - 1 + 1 = j from (by omega)]; rw [hF, fX2_traceBack_L8, if_neg c_10, if_pos c_20]) hP hD hS _ (by have h0 : j ≠ 0 := (fun z => by obtain ⟨i, hi, _⟩ := trace_i hj2 c_10; omega); rw [← pk_m1 (j - 1), show j - 1 + 1 = j from (by omega)]; exact lv_sub hl [0, 1, 2, 3] rfl)
      refine lv_aload_n hx hb dX2_traceBack_23 rfl (lv_at hl 3 rfl) ?_
      refine va_get (D := D) (ci := 2) (v := .ref ar) (C := RX2) (T := TX2) (N := 8) hx hb hts (fun _ h => (List.mem_cons_of_mem _ (List.mem_append_left _ (List.mem_append_right _ h)))) hown hK hP 0 rfl rfl 3 (by decide) (hts (.fieldLink RX2 19 "BottomWalks$Walk" "row" "[I") (List.mem_of_getElem? (i := 2) rfl)) (fun _ h9 => h9) rfl dX2_traceBack_24 ?_
      refine lv_iload hx hb dX2_traceBack_27 (lv_at hl 0 rfl) ?_
      refine lv_aload_n hx hb dX2_traceBack_29 rfl (lv_at hl 3 rfl) ?_
      refine lv_iload hx hb dX2_traceBack_30 (lv_at hl 0 rfl) ?_
      refine lv_iload_n hx hb dX2_traceBack_32 rfl (lv_at hl 1 rfl) ?_
      refine lv_aload_n hx hb dX2_traceBack_33 rfl (lv_at hl 3 rfl) ?_
      refine lv_iload_n hx hb dX2_traceBack_34 rfl (lv_at hl 1 rfl) ?_
      have hPc : va_P D vwCl (wW cyD cyI cyJ cyZ aw ad ak ar au ae av ab df kf (rr) uf st fw fo sn me vf lf sp sb no) H := hP.sub [0, 1, 2, 3, 4, 5, 6, 7] rfl
      have hDc : va_D A (wW cyD cyI cyJ cyZ aw ad ak ar au ae av ab df kf (rr) uf st fw fo sn me vf lf sp sb no) := hD.sub [0, 1, 2, 3, 4, 5, 6, 7] (by decide) rfl
      refine kiE (ws' := (wW cyD cyI cyJ cyZ aw ad ak ar au ae av ab df kf (rr) uf st fw fo sn me vf lf sp sb no)) (wc := (wW cyD cyI cyJ cyZ aw ad ak ar au ae av ab df kf (rr) uf st fw fo sn me vf lf sp sb no)) (wr := []) (w1 := (wW cyD cyI cyJ cyZ aw ad ak ar au ae av ab df kf (rr) uf st fw fo sn me vf lf sp sb no)) (va_runV (As := [.int (bh)]) (rest := [.int (bh), .int ((nI j + (-1))), .ref aw, .int ((nI j + (-1))), .ref ar]) ⟨hx, hb, hml, hown, hts⟩ (c_X2_sampleOfRow (l := l) (D := D) (cyD := cyD) (cyI := cyI) (cyJ := cyJ) (cyZ := cyZ) aw ad ak ar au ae av ab df kf (rr) uf st fw fo sn me vf lf sp sb no H.size (bh)) (cwV 1 hts gX2_traceBack_X2_sampleOfRow rfl rfl rfl (by decide +kernel) ⟨Nat.le_of_ble_eq_true rfl, Nat.le_of_ble_eq_true rfl⟩) (kV (ci := 2) (q0 := 0) (q := (RX2, TX2, 8)) hN hK hPc hDc rfl rfl rfl) rfl rfl hl.1 rfl (lv_room (Nat.le_of_ble_eq_true rfl)) dX2_traceBack_35 ⟨Nat.le_of_ble_eq_true rfl, Nat.le_of_ble_eq_true rfl⟩) hP hD hS hA [0, 1, 2, 3, 4, 5, 6, 7] [] [0, 1, 2, 3, 4, 5, 6, 7] rfl rfl (by decide) (by decide) rfl (by decide) (fun H locs hP hD hS => ?_)
      have hPc : va_P D vwCl (wW cyD cyI cyJ cyZ aw ad ak ar au ae av ab df kf (rr) uf st fw fo sn me vf lf sp sb no) H := hP.sub [0, 1, 2, 3, 4, 5, 6, 7] rfl
      have hDc : va_D A (wW cyD cyI cyJ cyZ aw ad ak ar au ae av ab df kf (rr) uf st fw fo sn me vf lf sp sb no) := hD.sub [0, 1, 2, 3, 4, 5, 6, 7] (by decide) rfl
      refine kiE (ws' := (wW cyD cyI cyJ cyZ aw ad ak ar au ae av ab df kf (rr) uf st fw fo sn me vf lf sp sb no)) (wc := (wW cyD cyI cyJ cyZ aw ad ak ar au ae av ab df kf (rr) uf st fw fo sn me vf lf sp sb no)) (wr := []) (w1 := (wW cyD cyI cyJ cyZ aw ad ak ar au ae av ab df kf (rr) uf st fw fo sn me vf lf sp sb no)) (va_runV (As := [.int ((nI j + (-1))), .int (bh), .int (fX2_sampleOfRow (rr) (bh))]) (rest := [.int ((nI j + (-1))), .ref ar]) ⟨hx, hb, hml, hown, hts⟩ (c_X2_bestBefore (l := l) (D := D) (cyD := cyD) (cyI := cyI) (cyJ := cyJ) (cyZ := cyZ) aw ad ak ar au ae av ab df kf (rr) uf st fw fo sn me vf lf sp sb no H.size ((nI j + (-1))) (bh) (fX2_sampleOfRow (rr) (bh)) hE S hS2 hS64 (sor_nI hrr bh).choose (sor_nI hrr bh).choose_spec.2 (sor_nI hrr bh).choose_spec.1) (cwV 3 hts gX2_traceBack_X2_bestBefore rfl rfl rfl (by decide +kernel) ⟨Nat.le_of_ble_eq_true rfl, Nat.le_of_ble_eq_true rfl⟩) (kV (ci := 2) (q0 := 0) (q := (RX2, TX2, 8)) hN hK hPc hDc rfl rfl rfl) rfl rfl hl.1 rfl (lv_room (Nat.le_of_ble_eq_true rfl)) dX2_traceBack_38 ⟨Nat.le_of_ble_eq_true rfl, Nat.le_of_ble_eq_true rfl⟩) hP hD hS hA [0, 1, 2, 3, 4, 5, 6, 7] [] [0, 1, 2, 3, 4, 5, 6, 7] rfl rfl (by decide) (by decide) rfl (by decide) (fun H locs hP hD hS => ?_)
      refine va_iast hx hb hK hP hD hS 3 1 rfl rfl (trace_in hj2 c_10) dX2_traceBack_41 (fun H locs hP hD hS => ?_)
      have hP : va_P D vwCl (wW cyD cyI cyJ cyZ aw ad ak ar au ae av ab df kf (upd (rr) ((nI j + (-1))).toNatClampNeg (fX2_bestBefore df uf st sn me ((nI j + (-1))) (bh) (fX2_sampleOfRow (rr) (bh)))) uf st fw fo sn me vf lf sp sb no) H := hP
      have hD : va_D A (wW cyD cyI cyJ cyZ aw ad ak ar au ae av ab df kf (upd (rr) ((nI j + (-1))).toNatClampNeg (fX2_bestBefore df uf st sn me ((nI j + (-1))) (bh) (fX2_sampleOfRow (rr) (bh)))) uf st fw fo sn me vf lf sp sb no) := hD
      refine lv_iload_n hx hb dX2_traceBack_42 rfl (lv_at hl 1 rfl) ?_
      refine lv_iconst (v := (-1)) hx hb dX2_traceBack_43 (by decide) ?_
      refine lv_icmp_ne (tgt := 63) hx hb dX2_traceBack_44 (by decide) (fun c_44 => ?_) (fun c_44 => ?_)
      · refine lv_lload_n hx hb dX2_traceBack_63 rfl (lv_at hl 2 rfl) ?_
        refine lv_lstore_n (lv' := [(1, .long (gg)), (4, .int ((nI j + (-1)))), (3, .int (bh)), (0, .ref aw)]) hx hb dX2_traceBack_64 rfl hl (by decide) rfl (fun ls hl => ?_)
        refine lv_iload hx hb dX2_traceBack_65 (lv_at hl 1 rfl) ?_
        refine lv_istore_n (lv' := [(3, .int ((nI j + (-1)))), (1, .long (gg)), (4, .int ((nI j + (-1)))), (0, .ref aw)]) hx hb dX2_traceBack_67 rfl hl (by decide) rfl (fun ls hl => ?_)
        refine lv_iinc (v := (((nI j + (-1))) + (-1))) (lv' := [(4, .int (((nI j + (-1))) + (-1))), (3, .int ((nI j + (-1)))), (1, .long (gg)), (0, .ref aw)]) hx hb dX2_traceBack_68 hl (k := 2) rfl rfl (by decide) rfl (fun ls hl => ?_)
        refine lv_goto (tgt := 8) hx hb dX2_traceBack_71 (by decide) ?_
        exact ih (j - 1) ((nI j + (-1))) (gg) (upd (rr) ((nI j + (-1))).toNatClampNeg (fX2_bestBefore df uf st sn me ((nI j + (-1))) (bh) (fX2_sampleOfRow (rr) (bh)))) _ _ (by have h0 : j ≠ 0 := (fun z => by obtain ⟨i, hi, _⟩ := trace_i hj2 c_10; omega); omega) (by omega) (okR_upd hrr _ (bb_nI df uf me _ _ _ hE.1 hE.2.1 (sor_nI hrr bh).choose_spec.2 (sor_nI hrr bh).choose_spec.1 hS2 hS64)) (by have h0 : j ≠ 0 := (fun z => by obtain ⟨i, hi, _⟩ := trace_i hj2 c_10; omega); rw [← pk_m1 (j - 1), show j - 1 + 1 = j from (by omega)]; rw [hF, fX2_traceBack_L8, if_neg c_10, if_neg c_20, if_neg c_44]) hP hD hS _ (by have h0 : j ≠ 0 := (fun z => by obtain ⟨i, hi, _⟩ := trace_i hj2 c_10; omega); rw [← pk_m1 (j - 1), show j - 1 + 1 = j from (by omega)]; exact lv_sub hl [0, 1, 2, 3] rfl)
      refine lv_aload_n hx hb dX2_traceBack_47 rfl (lv_at hl 3 rfl) ?_
      refine lv_iload hx hb dX2_traceBack_48 (lv_at hl 0 rfl) ?_
      refine lv_aload_n hx hb dX2_traceBack_50 rfl (lv_at hl 3 rfl) ?_
      refine va_get (D := D) (ci := 2) (v := .ref ar) (C := RX2) (T := TX2) (N := 8) hx hb hts (fun _ h => (List.mem_cons_of_mem _ (List.mem_append_left _ (List.mem_append_right _ h)))) hown hK hP 0 rfl rfl 3 (by decide) (hts (.fieldLink RX2 19 "BottomWalks$Walk" "row" "[I") (List.mem_of_getElem? (i := 2) rfl)) (fun _ h9 => h9) rfl dX2_traceBack_51 ?_
      refine lv_iload hx hb dX2_traceBack_54 (lv_at hl 0 rfl) ?_
      refine va_iald hx hb hK hP 3 1 rfl rfl (trace_in hj2 c_10) dX2_traceBack_56 ?_
      have hPc : va_P D vwCl (wW cyD cyI cyJ cyZ aw ad ak ar au ae av ab df kf (upd (rr) ((nI j + (-1))).toNatClampNeg (fX2_bestBefore df uf st sn me ((nI j + (-1))) (bh) (fX2_sampleOfRow (rr) (bh)))) uf st fw fo sn me vf lf sp sb no) H := hP.sub [0, 1, 2, 3, 4, 5, 6, 7] rfl
      have hDc : va_D A (wW cyD cyI cyJ cyZ aw ad ak ar au ae av ab df kf (upd (rr) ((nI j + (-1))).toNatClampNeg (fX2_bestBefore df uf st sn me ((nI j + (-1))) (bh) (fX2_sampleOfRow (rr) (bh)))) uf st fw fo sn me vf lf sp sb no) := hD.sub [0, 1, 2, 3, 4, 5, 6, 7] (by decide) rfl
      refine klE (ws' := (wW cyD cyI cyJ cyZ aw ad ak ar au ae av ab df kf (upd (rr) ((nI j + (-1))).toNatClampNeg (fX2_bestBefore df uf st sn me ((nI j + (-1))) (bh) (fX2_sampleOfRow (rr) (bh)))) uf st fw fo sn me vf lf sp sb no)) (wc := (wW cyD cyI cyJ cyZ aw ad ak ar au ae av ab df kf (upd (rr) ((nI j + (-1))).toNatClampNeg (fX2_bestBefore df uf st sn me ((nI j + (-1))) (bh) (fX2_sampleOfRow (rr) (bh)))) uf st fw fo sn me vf lf sp sb no)) (wr := []) (w1 := (wW cyD cyI cyJ cyZ aw ad ak ar au ae av ab df kf (upd (rr) ((nI j + (-1))).toNatClampNeg (fX2_bestBefore df uf st sn me ((nI j + (-1))) (bh) (fX2_sampleOfRow (rr) (bh)))) uf st fw fo sn me vf lf sp sb no)) (va_runV (As := [.int ((nI j + (-1))), .int ((upd (rr) ((nI j + (-1))).toNatClampNeg (fX2_bestBefore df uf st sn me ((nI j + (-1))) (bh) (fX2_sampleOfRow (rr) (bh)))) ((nI j + (-1))).toNatClampNeg)]) (rest := []) ⟨hx, hb, hml, hown, hts⟩ (c_X2_sumAt (l := l) (D := D) (cyD := cyD) (cyI := cyI) (cyJ := cyJ) (cyZ := cyZ) aw ad ak ar au ae av ab df kf (upd (rr) ((nI j + (-1))).toNatClampNeg (fX2_bestBefore df uf st sn me ((nI j + (-1))) (bh) (fX2_sampleOfRow (rr) (bh)))) uf st fw fo sn me vf lf sp sb no H.size ((nI j + (-1))) ((upd (rr) ((nI j + (-1))).toNatClampNeg (fX2_bestBefore df uf st sn me ((nI j + (-1))) (bh) (fX2_sampleOfRow (rr) (bh)))) ((nI j + (-1))).toNatClampNeg) hE) (cwV 2 hts gX2_traceBack_X2_sumAt rfl rfl rfl (by decide +kernel) ⟨Nat.le_of_ble_eq_true rfl, Nat.le_of_ble_eq_true rfl⟩) (kV (ci := 2) (q0 := 0) (q := (RX2, TX2, 8)) hN hK hPc hDc rfl rfl rfl) rfl rfl hl.1 rfl (lv_room (Nat.le_of_ble_eq_true rfl)) dX2_traceBack_57 ⟨Nat.le_of_ble_eq_true rfl, Nat.le_of_ble_eq_true rfl⟩) hP hD hS hA [0, 1, 2, 3, 4, 5, 6, 7] [] [0, 1, 2, 3, 4, 5, 6, 7] rfl rfl (by decide) (by decide) rfl (by decide) (fun H locs hP hD hS => ?_)
      refine lv_goto (tgt := 64) hx hb dX2_traceBack_60 (by decide) ?_
      refine lv_lstore_n (lv' := [(1, .long (fX2_sumAt uf sn ((nI j + (-1))) ((upd (rr) ((nI j + (-1))).toNatClampNeg (fX2_bestBefore df uf st sn me ((nI j + (-1))) (bh) (fX2_sampleOfRow (rr) (bh)))) ((nI j + (-1))).toNatClampNeg))), (4, .int ((nI j + (-1)))), (3, .int (bh)), (0, .ref aw)]) hx hb dX2_traceBack_64 rfl hl (by decide) rfl (fun ls hl => ?_)
      refine lv_iload hx hb dX2_traceBack_65 (lv_at hl 1 rfl) ?_
      refine lv_istore_n (lv' := [(3, .int ((nI j + (-1)))), (1, .long (fX2_sumAt uf sn ((nI j + (-1))) ((upd (rr) ((nI j + (-1))).toNatClampNeg (fX2_bestBefore df uf st sn me ((nI j + (-1))) (bh) (fX2_sampleOfRow (rr) (bh)))) ((nI j + (-1))).toNatClampNeg))), (4, .int ((nI j + (-1)))), (0, .ref aw)]) hx hb dX2_traceBack_67 rfl hl (by decide) rfl (fun ls hl => ?_)
      refine lv_iinc (v := (((nI j + (-1))) + (-1))) (lv' := [(4, .int (((nI j + (-1))) + (-1))), (3, .int ((nI j + (-1)))), (1, .long (fX2_sumAt uf sn ((nI j + (-1))) ((upd (rr) ((nI j + (-1))).toNatClampNeg (fX2_bestBefore df uf st sn me ((nI j + (-1))) (bh) (fX2_sampleOfRow (rr) (bh)))) ((nI j + (-1))).toNatClampNeg))), (0, .ref aw)]) hx hb dX2_traceBack_68 hl (k := 2) rfl rfl (by decide) rfl (fun ls hl => ?_)
      refine lv_goto (tgt := 8) hx hb dX2_traceBack_71 (by decide) ?_
      exact ih (j - 1) ((nI j + (-1))) (fX2_sumAt uf sn ((nI j + (-1))) ((upd (rr) ((nI j + (-1))).toNatClampNeg (fX2_bestBefore df uf st sn me ((nI j + (-1))) (bh) (fX2_sampleOfRow (rr) (bh)))) ((nI j + (-1))).toNatClampNeg)) (upd (rr) ((nI j + (-1))).toNatClampNeg (fX2_bestBefore df uf st sn me ((nI j + (-1))) (bh) (fX2_sampleOfRow (rr) (bh)))) _ _ (by have h0 : j ≠ 0 := (fun z => by obtain ⟨i, hi, _⟩ := trace_i hj2 c_10; omega); omega) (by omega) (okR_upd hrr _ (bb_nI df uf me _ _ _ hE.1 hE.2.1 (sor_nI hrr bh).choose_spec.2 (sor_nI hrr bh).choose_spec.1 hS2 hS64)) (by have h0 : j ≠ 0 := (fun z => by obtain ⟨i, hi, _⟩ := trace_i hj2 c_10; omega); rw [← pk_m1 (j - 1), show j - 1 + 1 = j from (by omega)]; rw [hF, fX2_traceBack_L8, if_neg c_10, if_neg c_20, if_pos c_44]) hP hD hS _ (by have h0 : j ≠ 0 := (fun z => by obtain ⟨i, hi, _⟩ := trace_i hj2 c_10; omega); rw [← pk_m1 (j - 1), show j - 1 + 1 = j from (by omega)]; exact lv_sub hl [0, 1, 2, 3] rfl)
  exact loop_8 33 32 (-1 : Int32) (0 : Int64) rf _ _ (by decide) (by decide) hrf (by rw [nI_31]; rw [fX2_traceBack]) hP hD hS _ (by rw [nI_31]; exact lv_sub hl [0, 1, 2, 3] rfl)
def fX2_go_L29 (df : Nat → UInt64) (kf : Nat → Int32) (rf : Nat → Int32) (uf : Nat → Int64) (st : Int32) (fw : Int32) (fo : Int32) (sn : Nat) (me : UInt64) (vf : Nat → UInt64) (lf : Nat → Int32) (sp : UInt64) (sb : UInt64) (no : UInt64)  (p1 : Int32) (p2 : Int32) (p3 : Int32) : Nat → (Int32) → (Nat → Int32) → (Nat → Int64) → Int32 × (Nat → Int32) × (Nat → Int32) × (Nat → Int64) × Int32 × Int32 × Int32
  | 0, v_j, v_ww, v_uu => (0, v_ww, rf, v_uu, st, fw, fo)
  | k + 1, v_j, v_ww, v_uu => if (32 : Int32) ≤ v_j then (((fX2_traceBack df (v_ww) rf (v_uu) p3 sn me).1).toInt32, v_ww, (fX2_traceBack df (v_ww) rf (v_uu) p3 sn me).2, v_uu, p3, p1, (1 : Int32)) else (if p2 ≤ v_j then (if ((upd (v_ww) (v_j).toNatClampNeg (vp_nar .boolean (0 : Int32))) (v_j).toNatClampNeg) = 0 then (fX2_go_L29 df kf rf uf st fw fo sn me vf lf sp sb no p1 p2 p3 k ((v_j) + 1) (upd (v_ww) (v_j).toNatClampNeg (vp_nar .boolean (0 : Int32))) (v_uu)) else ((fX2_go_L29 df kf rf uf st fw fo sn me vf lf sp sb no p1 p2 p3 k ((v_j) + 1) (upd (v_ww) (v_j).toNatClampNeg (vp_nar .boolean (0 : Int32))) (fX2_sumUp df (v_uu) p3 p1 sn me vf lf sp sb no (v_j) (fX2_neighbour (upd (v_ww) (v_j).toNatClampNeg (vp_nar .boolean (0 : Int32))) (v_j) (-1 : Int32)))))) else (if (fX2_isForWalk df sn vf lf p1 (v_j)) = 0 then (if ((upd (v_ww) (v_j).toNatClampNeg (vp_nar .boolean (0 : Int32))) (v_j).toNatClampNeg) = 0 then (fX2_go_L29 df kf rf uf st fw fo sn me vf lf sp sb no p1 p2 p3 k ((v_j) + 1) (upd (v_ww) (v_j).toNatClampNeg (vp_nar .boolean (0 : Int32))) (v_uu)) else ((fX2_go_L29 df kf rf uf st fw fo sn me vf lf sp sb no p1 p2 p3 k ((v_j) + 1) (upd (v_ww) (v_j).toNatClampNeg (vp_nar .boolean (0 : Int32))) (fX2_sumUp df (v_uu) p3 p1 sn me vf lf sp sb no (v_j) (fX2_neighbour (upd (v_ww) (v_j).toNatClampNeg (vp_nar .boolean (0 : Int32))) (v_j) (-1 : Int32)))))) else (if ((upd (v_ww) (v_j).toNatClampNeg (vp_nar .boolean (1 : Int32))) (v_j).toNatClampNeg) = 0 then (fX2_go_L29 df kf rf uf st fw fo sn me vf lf sp sb no p1 p2 p3 k ((v_j) + 1) (upd (v_ww) (v_j).toNatClampNeg (vp_nar .boolean (1 : Int32))) (v_uu)) else ((fX2_go_L29 df kf rf uf st fw fo sn me vf lf sp sb no p1 p2 p3 k ((v_j) + 1) (upd (v_ww) (v_j).toNatClampNeg (vp_nar .boolean (1 : Int32))) (fX2_sumUp df (v_uu) p3 p1 sn me vf lf sp sb no (v_j) (fX2_neighbour (upd (v_ww) (v_j).toNatClampNeg (vp_nar .boolean (1 : Int32))) (v_j) (-1 : Int32))))))))
def fX2_go (df : Nat → UInt64) (kf : Nat → Int32) (rf : Nat → Int32) (uf : Nat → Int64) (st : Int32) (fw : Int32) (fo : Int32) (sn : Nat) (me : UInt64) (vf : Nat → UInt64) (lf : Nat → Int32) (sp : UInt64) (sb : UInt64) (no : UInt64) (p1 : Int32) (p2 : Int32) (p3 : Int32) : Int32 × (Nat → Int32) × (Nat → Int32) × (Nat → Int64) × Int32 × Int32 × Int32 := if (fX2_hasPing df sn vf lf p1 p2) = 0 then ((-1 : Int32), kf, rf, uf, st, fw, fo) else ((fX2_go_L29 df kf rf uf st fw fo sn me vf lf sp sb no p1 p2 p3 33 (0 : Int32) kf uf))
set_option maxHeartbeats 4000000 in
set_option maxRecDepth 100000 in
theorem c_X2_go {l : Launch} {D : va_G} {cyD cyI cyJ cyZ : ClassId} (aw ad ak ar au ae av ab : Nat) (df : Nat → UInt64) (kf : Nat → Int32) (rf : Nat → Int32) (uf : Nat → Int64) (st : Int32) (fw : Int32) (fo : Int32) (sn : Nat) (me : UInt64) (vf : Nat → UInt64) (lf : Nat → Int32) (sp : UInt64) (sb : UInt64) (no : UInt64) (sz : Nat) (p1 : Int32) (p2 : Int32) (p3 : Int32) (hE : okE sn me vf sp sb no) (q : Nat) (hp2 : p2 = nI q) (hq : q ≤ 32) (S : Nat) (hS3 : p3 = nI S) (hS64 : S ≤ 64) (hrf : okR rf) : mI l yX2_go wsX2_go ({ frames := 5, cells := 0, slots := 0, locals := 122 } : Room) D (kT cyD cyI cyJ cyZ) [.ref aw, .int p1, .int p2, .int p3] (wW cyD cyI cyJ cyZ aw ad ak ar au ae av ab df kf rf uf st fw fo sn me vf lf sp sb no) (wW cyD cyI cyJ cyZ aw ad ak ar au ae av ab df ((fX2_go df kf rf uf st fw fo sn me vf lf sp sb no p1 p2 p3).2.1) ((fX2_go df kf rf uf st fw fo sn me vf lf sp sb no p1 p2 p3).2.2.1) ((fX2_go df kf rf uf st fw fo sn me vf lf sp sb no p1 p2 p3).2.2.2.1) ((fX2_go df kf rf uf st fw fo sn me vf lf sp sb no p1 p2 p3).2.2.2.2.1) ((fX2_go df kf rf uf st fw fo sn me vf lf sp sb no p1 p2 p3).2.2.2.2.2.1) ((fX2_go df kf rf uf st fw fo sn me vf lf sp sb no p1 p2 p3).2.2.2.2.2.2) sn me vf lf sp sb no) sz ((fX2_go df kf rf uf st fw fo sn me vf lf sp sb no p1 p2 p3).1) 0 0 := by
  refine Met.ofW (cc := cX2_go) (maxL := 5) (ret := (some .int)) (by decide) rfl ?_
  intro p e s m args below meth c s₁ B hml hv
  obtain ⟨rfl, hN, hsz, hP, hK, hD0⟩ := hv
  have hx := B.exec
  have hb := B.bytes
  have hr := B.returns
  have hts := atoms_spec (ws := wsX2_go) B.pre
  have hown : s.vm.findClass RX2 = some m.cls := findClass_of_methodNamed B.named
  have hlocks := B.notSynchronized
  subst hsz
  have hD := hD0.self (sz := s.heap.size)
  generalize hAe : va_A (wW cyD cyI cyJ cyZ aw ad ak ar au ae av ab df kf rf uf st fw fo sn me vf lf sp sb no) s.heap.size = A at hD ⊢
  have hA : ∀ q : Nat, s.heap.size ≤ q → A q := fun q h => by rw [← hAe]; exact Or.inr h
  have hS : va_S A s.heap s.heap [] := va_S.rf
  have hP : va_P D vwCl (wW cyD cyI cyJ cyZ aw ad ak ar au ae av ab df kf rf uf st fw fo sn me vf lf sp sb no) s.heap := hP
  have hl := lv_entry [.ref aw, .int p1, .int p2, .int p3] (n := 5) (Nat.le_of_ble_eq_true rfl)
  rw [lg_entry_eq]
  generalize (lg_sl [.ref aw, .int p1, .int p2, .int p3] ++ List.replicate (5 - (lg_sl [.ref aw, .int p1, .int p2, .int p3]).length) Slot.unset).toArray = ls at hl ⊢
  have hl : lv_has ls 5 [(0, .ref aw), (1, .int p1), (2, .int p2), (3, .int p3)] := hl
  obtain ⟨H, hHe⟩ : ∃ H : Heap, H = s.heap := ⟨_, rfl⟩
  have hP : va_P D vwCl (wW cyD cyI cyJ cyZ aw ad ak ar au ae av ab df kf rf uf st fw fo sn me vf lf sp sb no) H := by rw [hHe]; exact hP
  have hS : va_S A s.heap H [] := by rw [hHe]; exact hS
  rw [← hHe]
  refine lv_aload_n hx hb dX2_go_0 rfl (lv_at hl 0 rfl) ?_
  refine lv_iload_n hx hb dX2_go_1 rfl (lv_at hl 1 rfl) ?_
  refine lv_iload_n hx hb dX2_go_2 rfl (lv_at hl 2 rfl) ?_
  have hPc : va_P D vwCl (wW cyD cyI cyJ cyZ aw ad ak ar au ae av ab df kf rf uf st fw fo sn me vf lf sp sb no) H := hP.sub [0, 1, 2, 3, 4, 5, 6, 7] rfl
  have hDc : va_D A (wW cyD cyI cyJ cyZ aw ad ak ar au ae av ab df kf rf uf st fw fo sn me vf lf sp sb no) := hD.sub [0, 1, 2, 3, 4, 5, 6, 7] (by decide) rfl
  refine kzE (ws' := (wW cyD cyI cyJ cyZ aw ad ak ar au ae av ab df kf rf uf st fw fo sn me vf lf sp sb no)) (wc := (wW cyD cyI cyJ cyZ aw ad ak ar au ae av ab df kf rf uf st fw fo sn me vf lf sp sb no)) (wr := []) (w1 := (wW cyD cyI cyJ cyZ aw ad ak ar au ae av ab df kf rf uf st fw fo sn me vf lf sp sb no)) (va_runV (As := [.int p1, .int p2]) (rest := []) ⟨hx, hb, hml, hown, hts⟩ (c_X2_hasPing (l := l) (D := D) (cyD := cyD) (cyI := cyI) (cyJ := cyJ) (cyZ := cyZ) aw ad ak ar au ae av ab df kf rf uf st fw fo sn me vf lf sp sb no H.size p1 p2 hE q hp2 hq) (cwV 2 hts gX2_go_X2_hasPing rfl rfl rfl (by decide +kernel) ⟨Nat.le_of_ble_eq_true rfl, Nat.le_of_ble_eq_true rfl⟩) (kV (ci := 2) (q0 := 0) (q := (RX2, TX2, 8)) hN hK hPc hDc rfl rfl rfl) rfl rfl hl.1 rfl (lv_room (Nat.le_of_ble_eq_true rfl)) dX2_go_3 ⟨Nat.le_of_ble_eq_true rfl, Nat.le_of_ble_eq_true rfl⟩) hP hD hS hA [0, 1, 2, 3, 4, 5, 6, 7] [] [0, 1, 2, 3, 4, 5, 6, 7] rfl rfl (by decide) (by decide) rfl (by decide) (fun H locs hz_3 hP hD hS => ?_)
  refine lv_if_ne (tgt := 11) hx hb dX2_go_6 (by decide) (fun c_6 => ?_) (fun c_6 => ?_)
  · refine lv_aload_n hx hb dX2_go_11 rfl (lv_at hl 0 rfl) ?_
    refine lv_iload_n hx hb dX2_go_12 rfl (lv_at hl 1 rfl) ?_
    refine va_put (D := D) (ci := 2) (v := .int p1) (ty := .int) (C := RX2) (T := TX2) (N := 8) hx hb hts (fun _ h => (List.mem_cons_of_mem _ (List.mem_append_left _ (List.mem_append_right _ h)))) tyX2 tyX2_ok nmX2 hown hK hP hD hS 0 rfl rfl 6 (by decide) (hts (.fieldLink RX2 27 "BottomWalks$Walk" "frequencyWalked" "I") (List.mem_of_getElem? (i := 1) rfl)) (fun _ h9 => h9) rfl (by decide +kernel) rfl rfl (Nat.le_of_ble_eq_true rfl) dX2_go_13 (fun H locs hP hD hS => ?_)
    have hP : va_P D vwCl (wW cyD cyI cyJ cyZ aw ad ak ar au ae av ab df kf rf uf st p1 fo sn me vf lf sp sb no) H := hP
    have hD : va_D A (wW cyD cyI cyJ cyZ aw ad ak ar au ae av ab df kf rf uf st p1 fo sn me vf lf sp sb no) := hD
    refine lv_aload_n hx hb dX2_go_16 rfl (lv_at hl 0 rfl) ?_
    refine lv_iload_n hx hb dX2_go_17 rfl (lv_at hl 3 rfl) ?_
    refine va_put (D := D) (ci := 2) (v := .int p3) (ty := .int) (C := RX2) (T := TX2) (N := 8) hx hb hts (fun _ h => (List.mem_cons_of_mem _ (List.mem_append_left _ (List.mem_append_right _ h)))) tyX2 tyX2_ok nmX2 hown hK hP hD hS 0 rfl rfl 5 (by decide) (hts (.fieldLink RX2 23 "BottomWalks$Walk" "steepness" "I") (List.mem_of_getElem? (i := 2) rfl)) (fun _ h9 => h9) rfl (by decide +kernel) rfl rfl (Nat.le_of_ble_eq_true rfl) dX2_go_18 (fun H locs hP hD hS => ?_)
    have hP : va_P D vwCl (wW cyD cyI cyJ cyZ aw ad ak ar au ae av ab df kf rf uf p3 p1 fo sn me vf lf sp sb no) H := hP
    have hD : va_D A (wW cyD cyI cyJ cyZ aw ad ak ar au ae av ab df kf rf uf p3 p1 fo sn me vf lf sp sb no) := hD
    refine lv_aload_n hx hb dX2_go_21 rfl (lv_at hl 0 rfl) ?_
    refine lv_iconst (v := 1) hx hb dX2_go_22 (by decide) ?_
    refine va_put (D := D) (ci := 2) (v := .int (1 : Int32)) (ty := .boolean) (C := RX2) (T := TX2) (N := 8) hx hb hts (fun _ h => (List.mem_cons_of_mem _ (List.mem_append_left _ (List.mem_append_right _ h)))) tyX2 tyX2_ok nmX2 hown hK hP hD hS 0 rfl rfl 7 (by decide) (hts (.fieldLink RX2 30 "BottomWalks$Walk" "found" "Z") (List.mem_of_getElem? (i := 3) rfl)) (fun _ h9 => h9) rfl (by decide +kernel) (nar_z (Or.inr rfl)) rfl (Nat.le_of_ble_eq_true rfl) dX2_go_23 (fun H locs hP hD hS => ?_)
    have hP : va_P D vwCl (wW cyD cyI cyJ cyZ aw ad ak ar au ae av ab df kf rf uf p3 p1 (1 : Int32) sn me vf lf sp sb no) H := hP
    have hD : va_D A (wW cyD cyI cyJ cyZ aw ad ak ar au ae av ab df kf rf uf p3 p1 (1 : Int32) sn me vf lf sp sb no) := hD
    refine lv_iconst (v := 0) hx hb dX2_go_26 (by decide) ?_
    refine lv_istore (lv' := [(4, .int (0 : Int32)), (0, .ref aw), (1, .int p1), (2, .int p2), (3, .int p3)]) hx hb dX2_go_27 hl (by decide) rfl (fun ls hl => ?_)
    have loop_29 : ∀ (k : Nat) (j : Nat) (ww : Nat → Int32) (uu : Nat → Int64) (H : Heap) (locs : List Loc), (j + k = 33) → (j ≤ 32) → (fX2_go df kf rf uf st fw fo sn me vf lf sp sb no p1 p2 p3) = fX2_go_L29 df kf rf uf st fw fo sn me vf lf sp sb no p1 p2 p3 k ((nI j)) (ww) (uu) → va_P D vwCl (wW cyD cyI cyJ cyZ aw ad ak ar au ae av ab df (ww) rf (uu) p3 p1 (1 : Int32) sn me vf lf sp sb no) H → va_D A (wW cyD cyI cyJ cyZ aw ad ak ar au ae av ab df (ww) rf (uu) p3 p1 (1 : Int32) sn me vf lf sp sb no) → va_S A s.heap H locs → ∀ ls, lv_has ls 5 [(4, .int ((nI j))), (0, .ref aw), (1, .int p1), (2, .int p2), (3, .int p3)] → W p l e (headSpec wsX2_go ({ frames := 5, cells := 0, slots := 0, locals := 122 } : Room)).room s m ([.ref aw, .int p1, .int p2, .int p3] : List Value).toArray below meth c H locs 0 0 (MQ below (va_Qi (fun (r : Int32) (_ : Unit) => r = (fX2_go df kf rf uf st fw fo sn me vf lf sp sb no p1 p2 p3).1) (kE D (kT cyD cyI cyJ cyZ) (wW cyD cyI cyJ cyZ aw ad ak ar au ae av ab df ((fX2_go df kf rf uf st fw fo sn me vf lf sp sb no p1 p2 p3).2.1) ((fX2_go df kf rf uf st fw fo sn me vf lf sp sb no p1 p2 p3).2.2.1) ((fX2_go df kf rf uf st fw fo sn me vf lf sp sb no p1 p2 p3).2.2.2.1) ((fX2_go df kf rf uf st fw fo sn me vf lf sp sb no p1 p2 p3).2.2.2.2.1) ((fX2_go df kf rf uf st fw fo sn me vf lf sp sb no p1 p2 p3).2.2.2.2.2.1) ((fX2_go df kf rf uf st fw fo sn me vf lf sp sb no p1 p2 p3).2.2.2.2.2.2) sn me vf lf sp sb no) A) A) ([.ref aw, .int p1, .int p2, .int p3] : List Value).toArray s 0 0 A) (F0 m 29 ls []) := by
      intro k
      induction k with
      | zero => intro j ww uu H locs hj hj2 hF hP hD hS ls hl; exact absurd hj2 (by omega)
      | succ k ih =>
        intro j ww uu H locs hj hj2 hF hP hD hS ls hl
        refine lv_iload hx hb dX2_go_29 (lv_at hl 0 rfl) ?_
        refine lv_bipush (v := 32) hx hb dX2_go_31 (by decide) ?_
        refine lv_icmp_ge (tgt := 93) hx hb dX2_go_33 (by decide) (fun c_33 => ?_) (fun c_33 => ?_)
        · refine lv_aload_n hx hb dX2_go_93 rfl (lv_at hl 1 rfl) ?_
          have hPc : va_P D vwCl (wW cyD cyI cyJ cyZ aw ad ak ar au ae av ab df (ww) rf (uu) p3 p1 (1 : Int32) sn me vf lf sp sb no) H := hP.sub [0, 1, 2, 3, 4, 5, 6, 7] rfl
          have hDc : va_D A (wW cyD cyI cyJ cyZ aw ad ak ar au ae av ab df (ww) rf (uu) p3 p1 (1 : Int32) sn me vf lf sp sb no) := hD.sub [0, 1, 2, 3, 4, 5, 6, 7] (by decide) rfl
          refine klE (ws' := (wW cyD cyI cyJ cyZ aw ad ak ar au ae av ab df (ww) ((fX2_traceBack df (ww) rf (uu) p3 sn me).2) (uu) p3 p1 (1 : Int32) sn me vf lf sp sb no)) (wc := (wW cyD cyI cyJ cyZ aw ad ak ar au ae av ab df (ww) rf (uu) p3 p1 (1 : Int32) sn me vf lf sp sb no)) (wr := []) (w1 := (wW cyD cyI cyJ cyZ aw ad ak ar au ae av ab df (ww) ((fX2_traceBack df (ww) rf (uu) p3 sn me).2) (uu) p3 p1 (1 : Int32) sn me vf lf sp sb no)) (va_runV (As := []) (rest := []) ⟨hx, hb, hml, hown, hts⟩ (c_X2_traceBack (l := l) (D := D) (cyD := cyD) (cyI := cyI) (cyJ := cyJ) (cyZ := cyZ) aw ad ak ar au ae av ab df (ww) rf (uu) p3 p1 (1 : Int32) sn me vf lf sp sb no H.size hE S hS3 hS64 hrf) (cwV 0 hts gX2_go_X2_traceBack rfl rfl rfl (by decide +kernel) ⟨Nat.le_of_ble_eq_true rfl, Nat.le_of_ble_eq_true rfl⟩) (kV (ci := 2) (q0 := 0) (q := (RX2, TX2, 8)) hN hK hPc hDc rfl rfl rfl) rfl rfl hl.1 rfl (lv_room (Nat.le_of_ble_eq_true rfl)) dX2_go_94 ⟨Nat.le_of_ble_eq_true rfl, Nat.le_of_ble_eq_true rfl⟩) hP hD hS hA [0, 1, 2, 3, 4, 5, 6, 7] [] [0, 1, 2, 3, 4, 5, 6, 7] rfl rfl (by decide) (by decide) rfl (by decide) (fun H locs hP hD hS => ?_)
          refine lv_l2i (v := ((fX2_traceBack df (ww) rf (uu) p3 sn me).1).toInt32) hx hb dX2_go_97 rfl ?_
          have hF9 : (fX2_go df kf rf uf st fw fo sn me vf lf sp sb no p1 p2 p3) = (((fX2_traceBack df (ww) rf (uu) p3 sn me).1).toInt32, ww, (fX2_traceBack df (ww) rf (uu) p3 sn me).2, uu, p3, p1, (1 : Int32)) := by rw [hF, fX2_go_L29, if_pos c_33]
          have hP9 : va_P D vwCl (wW cyD cyI cyJ cyZ aw ad ak ar au ae av ab df ((fX2_go df kf rf uf st fw fo sn me vf lf sp sb no p1 p2 p3).2.1) ((fX2_go df kf rf uf st fw fo sn me vf lf sp sb no p1 p2 p3).2.2.1) ((fX2_go df kf rf uf st fw fo sn me vf lf sp sb no p1 p2 p3).2.2.2.1) ((fX2_go df kf rf uf st fw fo sn me vf lf sp sb no p1 p2 p3).2.2.2.2.1) ((fX2_go df kf rf uf st fw fo sn me vf lf sp sb no p1 p2 p3).2.2.2.2.2.1) ((fX2_go df kf rf uf st fw fo sn me vf lf sp sb no p1 p2 p3).2.2.2.2.2.2) sn me vf lf sp sb no) H := by rw [hF9]; exact hP
          have hD9 : va_D A (wW cyD cyI cyJ cyZ aw ad ak ar au ae av ab df ((fX2_go df kf rf uf st fw fo sn me vf lf sp sb no p1 p2 p3).2.1) ((fX2_go df kf rf uf st fw fo sn me vf lf sp sb no p1 p2 p3).2.2.1) ((fX2_go df kf rf uf st fw fo sn me vf lf sp sb no p1 p2 p3).2.2.2.1) ((fX2_go df kf rf uf st fw fo sn me vf lf sp sb no p1 p2 p3).2.2.2.2.1) ((fX2_go df kf rf uf st fw fo sn me vf lf sp sb no p1 p2 p3).2.2.2.2.2.1) ((fX2_go df kf rf uf st fw fo sn me vf lf sp sb no p1 p2 p3).2.2.2.2.2.2) sn me vf lf sp sb no) := by rw [hF9]; exact hD
          exact W.iret (v := ((fX2_traceBack df (ww) rf (uu) p3 sn me).1).toInt32) hx hb hr (fun t ht hW => ⟨⟨((fX2_traceBack df (ww) rf (uu) p3 sn me).1).toInt32, (), rfl, (by rw [hF9]), by rw [ht]; exact hP9, va_K.moved hW.alike hK, hD9⟩, hS.F ht⟩) hS.2.2 dX2_go_98
        refine lv_aload_n hx hb dX2_go_36 rfl (lv_at hl 1 rfl) ?_
        refine va_get (D := D) (ci := 2) (v := .ref ak) (C := RX2) (T := TX2) (N := 8) hx hb hts (fun _ h => (List.mem_cons_of_mem _ (List.mem_append_left _ (List.mem_append_right _ h)))) hown hK hP 0 rfl rfl 2 (by decide) (hts (.fieldLink RX2 15 "BottomWalks$Walk" "walked" "[Z") (List.mem_of_getElem? (i := 4) rfl)) (fun _ h9 => h9) rfl dX2_go_37 ?_
        refine lv_iload hx hb dX2_go_40 (lv_at hl 0 rfl) ?_
        refine lv_iload hx hb dX2_go_42 (lv_at hl 0 rfl) ?_
        refine lv_iload_n hx hb dX2_go_44 rfl (lv_at hl 3 rfl) ?_
        refine lv_icmp_ge (tgt := 62) hx hb dX2_go_45 (by decide) (fun c_45 => ?_) (fun c_45 => ?_)
        · refine lv_iconst (v := 0) hx hb dX2_go_62 (by decide) ?_
          refine va_zast hx hb hK hP hD hS 2 3 rfl rfl (vp_in_nI (by have := Nat.lt_of_not_le (fun z => c_33 (nI_le (a := 32) z (by omega))); omega) (by decide)) dX2_go_63 (fun H locs hP hD hS => ?_)
          have hP : va_P D vwCl (wW cyD cyI cyJ cyZ aw ad ak ar au ae av ab df (upd (ww) ((nI j)).toNatClampNeg (vp_nar .boolean (0 : Int32))) rf (uu) p3 p1 (1 : Int32) sn me vf lf sp sb no) H := hP
          have hD : va_D A (wW cyD cyI cyJ cyZ aw ad ak ar au ae av ab df (upd (ww) ((nI j)).toNatClampNeg (vp_nar .boolean (0 : Int32))) rf (uu) p3 p1 (1 : Int32) sn me vf lf sp sb no) := hD
          refine lv_aload_n hx hb dX2_go_64 rfl (lv_at hl 1 rfl) ?_
          refine va_get (D := D) (ci := 2) (v := .ref ak) (C := RX2) (T := TX2) (N := 8) hx hb hts (fun _ h => (List.mem_cons_of_mem _ (List.mem_append_left _ (List.mem_append_right _ h)))) hown hK hP 0 rfl rfl 2 (by decide) (hts (.fieldLink RX2 15 "BottomWalks$Walk" "walked" "[Z") (List.mem_of_getElem? (i := 4) rfl)) (fun _ h9 => h9) rfl dX2_go_65 ?_
          refine lv_iload hx hb dX2_go_68 (lv_at hl 0 rfl) ?_
          refine va_zald hx hb hK hP 2 3 rfl rfl (vp_in_nI (by have := Nat.lt_of_not_le (fun z => c_33 (nI_le (a := 32) z (by omega))); omega) (by decide)) dX2_go_70 ?_
          refine lv_if_eq (tgt := 87) hx hb dX2_go_71 (by decide) (fun c_71 => ?_) (fun c_71 => ?_)
          · refine lv_iinc (v := (((nI j)) + 1)) (lv' := [(4, .int (((nI j)) + 1)), (0, .ref aw), (1, .int p1), (2, .int p2), (3, .int p3)]) hx hb dX2_go_87 hl (k := 0) rfl rfl (by decide) rfl (fun ls hl => ?_)
            refine lv_goto (tgt := 29) hx hb dX2_go_90 (by decide) ?_
            exact ih (j + 1) (upd (ww) ((nI j)).toNatClampNeg (vp_nar .boolean (0 : Int32))) (uu) _ _ (by omega) (by have := Nat.lt_of_not_le (fun z => c_33 (nI_le (a := 32) z (by omega))); omega) (by rw [← nI_1 j]; rw [hF, fX2_go_L29, if_neg c_33, if_pos c_45, if_pos c_71]) hP hD hS _ (by rw [← nI_1 j]; exact lv_sub hl [0, 1, 2, 3, 4] rfl)
          refine lv_aload_n hx hb dX2_go_74 rfl (lv_at hl 1 rfl) ?_
          refine lv_iload hx hb dX2_go_75 (lv_at hl 0 rfl) ?_
          refine lv_aload_n hx hb dX2_go_77 rfl (lv_at hl 1 rfl) ?_
          refine lv_iload hx hb dX2_go_78 (lv_at hl 0 rfl) ?_
          refine lv_iconst (v := (-1)) hx hb dX2_go_80 (by decide) ?_
          have hPc : va_P D vwCl (wW cyD cyI cyJ cyZ aw ad ak ar au ae av ab df (upd (ww) ((nI j)).toNatClampNeg (vp_nar .boolean (0 : Int32))) rf (uu) p3 p1 (1 : Int32) sn me vf lf sp sb no) H := hP.sub [0, 1, 2, 3, 4, 5, 6, 7] rfl
          have hDc : va_D A (wW cyD cyI cyJ cyZ aw ad ak ar au ae av ab df (upd (ww) ((nI j)).toNatClampNeg (vp_nar .boolean (0 : Int32))) rf (uu) p3 p1 (1 : Int32) sn me vf lf sp sb no) := hD.sub [0, 1, 2, 3, 4, 5, 6, 7] (by decide) rfl
          refine kiE (ws' := (wW cyD cyI cyJ cyZ aw ad ak ar au ae av ab df (upd (ww) ((nI j)).toNatClampNeg (vp_nar .boolean (0 : Int32))) rf (uu) p3 p1 (1 : Int32) sn me vf lf sp sb no)) (wc := (wW cyD cyI cyJ cyZ aw ad ak ar au ae av ab df (upd (ww) ((nI j)).toNatClampNeg (vp_nar .boolean (0 : Int32))) rf (uu) p3 p1 (1 : Int32) sn me vf lf sp sb no)) (wr := []) (w1 := (wW cyD cyI cyJ cyZ aw ad ak ar au ae av ab df (upd (ww) ((nI j)).toNatClampNeg (vp_nar .boolean (0 : Int32))) rf (uu) p3 p1 (1 : Int32) sn me vf lf sp sb no)) (va_runV (As := [.int ((nI j)), .int (-1 : Int32)]) (rest := [.int ((nI j)), .ref aw]) ⟨hx, hb, hml, hown, hts⟩ (c_X2_neighbour (l := l) (D := D) (cyD := cyD) (cyI := cyI) (cyJ := cyJ) (cyZ := cyZ) aw ad ak ar au ae av ab df (upd (ww) ((nI j)).toNatClampNeg (vp_nar .boolean (0 : Int32))) rf (uu) p3 p1 (1 : Int32) sn me vf lf sp sb no H.size ((nI j)) (-1 : Int32)) (cwV 2 hts gX2_go_X2_neighbour rfl rfl rfl (by decide +kernel) ⟨Nat.le_of_ble_eq_true rfl, Nat.le_of_ble_eq_true rfl⟩) (kV (ci := 2) (q0 := 0) (q := (RX2, TX2, 8)) hN hK hPc hDc rfl rfl rfl) rfl rfl hl.1 rfl (lv_room (Nat.le_of_ble_eq_true rfl)) dX2_go_81 ⟨Nat.le_of_ble_eq_true rfl, Nat.le_of_ble_eq_true rfl⟩) hP hD hS hA [0, 1, 2, 3, 4, 5, 6, 7] [] [0, 1, 2, 3, 4, 5, 6, 7] rfl rfl (by decide) (by decide) rfl (by decide) (fun H locs hP hD hS => ?_)
          have hPc : va_P D vwCl (wW cyD cyI cyJ cyZ aw ad ak ar au ae av ab df (upd (ww) ((nI j)).toNatClampNeg (vp_nar .boolean (0 : Int32))) rf (uu) p3 p1 (1 : Int32) sn me vf lf sp sb no) H := hP.sub [0, 1, 2, 3, 4, 5, 6, 7] rfl
          have hDc : va_D A (wW cyD cyI cyJ cyZ aw ad ak ar au ae av ab df (upd (ww) ((nI j)).toNatClampNeg (vp_nar .boolean (0 : Int32))) rf (uu) p3 p1 (1 : Int32) sn me vf lf sp sb no) := hD.sub [0, 1, 2, 3, 4, 5, 6, 7] (by decide) rfl
          refine kv (ws' := (wW cyD cyI cyJ cyZ aw ad ak ar au ae av ab df (upd (ww) ((nI j)).toNatClampNeg (vp_nar .boolean (0 : Int32))) rf (fX2_sumUp df (uu) p3 p1 sn me vf lf sp sb no ((nI j)) (fX2_neighbour (upd (ww) ((nI j)).toNatClampNeg (vp_nar .boolean (0 : Int32))) ((nI j)) (-1 : Int32))) p3 p1 (1 : Int32) sn me vf lf sp sb no)) (wc := (wW cyD cyI cyJ cyZ aw ad ak ar au ae av ab df (upd (ww) ((nI j)).toNatClampNeg (vp_nar .boolean (0 : Int32))) rf (uu) p3 p1 (1 : Int32) sn me vf lf sp sb no)) (wr := []) (w1 := (wW cyD cyI cyJ cyZ aw ad ak ar au ae av ab df (upd (ww) ((nI j)).toNatClampNeg (vp_nar .boolean (0 : Int32))) rf (fX2_sumUp df (uu) p3 p1 sn me vf lf sp sb no ((nI j)) (fX2_neighbour (upd (ww) ((nI j)).toNatClampNeg (vp_nar .boolean (0 : Int32))) ((nI j)) (-1 : Int32))) p3 p1 (1 : Int32) sn me vf lf sp sb no)) (va_runV (As := [.int ((nI j)), .int (fX2_neighbour (upd (ww) ((nI j)).toNatClampNeg (vp_nar .boolean (0 : Int32))) ((nI j)) (-1 : Int32))]) (rest := []) ⟨hx, hb, hml, hown, hts⟩ (c_X2_sumUp (l := l) (D := D) (cyD := cyD) (cyI := cyI) (cyJ := cyJ) (cyZ := cyZ) aw ad ak ar au ae av ab df (upd (ww) ((nI j)).toNatClampNeg (vp_nar .boolean (0 : Int32))) rf (uu) p3 p1 (1 : Int32) sn me vf lf sp sb no H.size ((nI j)) (fX2_neighbour (upd (ww) ((nI j)).toNatClampNeg (vp_nar .boolean (0 : Int32))) ((nI j)) (-1 : Int32)) hE S hS3 hS64 j rfl (by have := Nat.lt_of_not_le (fun z => c_33 (nI_le (a := 32) z (by omega))); omega)) (cwV 2 hts gX2_go_X2_sumUp rfl rfl rfl (by decide +kernel) ⟨Nat.le_of_ble_eq_true rfl, Nat.le_of_ble_eq_true rfl⟩) (kV (ci := 2) (q0 := 0) (q := (RX2, TX2, 8)) hN hK hPc hDc rfl rfl rfl) rfl rfl hl.1 rfl (lv_room (Nat.le_of_ble_eq_true rfl)) dX2_go_84 ⟨Nat.le_of_ble_eq_true rfl, Nat.le_of_ble_eq_true rfl⟩) hP hD hS hA [0, 1, 2, 3, 4, 5, 6, 7] [] [0, 1, 2, 3, 4, 5, 6, 7] rfl rfl (by decide) (by decide) rfl (by decide) (fun H locs hP hD hS => ?_)
          refine lv_iinc (v := (((nI j)) + 1)) (lv' := [(4, .int (((nI j)) + 1)), (0, .ref aw), (1, .int p1), (2, .int p2), (3, .int p3)]) hx hb dX2_go_87 hl (k := 0) rfl rfl (by decide) rfl (fun ls hl => ?_)
          refine lv_goto (tgt := 29) hx hb dX2_go_90 (by decide) ?_
          exact ih (j + 1) (upd (ww) ((nI j)).toNatClampNeg (vp_nar .boolean (0 : Int32))) (fX2_sumUp df (uu) p3 p1 sn me vf lf sp sb no ((nI j)) (fX2_neighbour (upd (ww) ((nI j)).toNatClampNeg (vp_nar .boolean (0 : Int32))) ((nI j)) (-1 : Int32))) _ _ (by omega) (by have := Nat.lt_of_not_le (fun z => c_33 (nI_le (a := 32) z (by omega))); omega) (by rw [← nI_1 j]; rw [hF, fX2_go_L29, if_neg c_33, if_pos c_45, if_neg c_71]) hP hD hS _ (by rw [← nI_1 j]; exact lv_sub hl [0, 1, 2, 3, 4] rfl)
        refine lv_aload_n hx hb dX2_go_48 rfl (lv_at hl 1 rfl) ?_
        refine lv_iload_n hx hb dX2_go_49 rfl (lv_at hl 2 rfl) ?_
        refine lv_iload hx hb dX2_go_50 (lv_at hl 0 rfl) ?_
        have hPc : va_P D vwCl (wW cyD cyI cyJ cyZ aw ad ak ar au ae av ab df (ww) rf (uu) p3 p1 (1 : Int32) sn me vf lf sp sb no) H := hP.sub [0, 1, 2, 3, 4, 5, 6, 7] rfl
        have hDc : va_D A (wW cyD cyI cyJ cyZ aw ad ak ar au ae av ab df (ww) rf (uu) p3 p1 (1 : Int32) sn me vf lf sp sb no) := hD.sub [0, 1, 2, 3, 4, 5, 6, 7] (by decide) rfl
        refine kzE (ws' := (wW cyD cyI cyJ cyZ aw ad ak ar au ae av ab df (ww) rf (uu) p3 p1 (1 : Int32) sn me vf lf sp sb no)) (wc := (wW cyD cyI cyJ cyZ aw ad ak ar au ae av ab df (ww) rf (uu) p3 p1 (1 : Int32) sn me vf lf sp sb no)) (wr := []) (w1 := (wW cyD cyI cyJ cyZ aw ad ak ar au ae av ab df (ww) rf (uu) p3 p1 (1 : Int32) sn me vf lf sp sb no)) (va_runV (As := [.int p1, .int ((nI j))]) (rest := [.int ((nI j)), .ref ak]) ⟨hx, hb, hml, hown, hts⟩ (c_X2_isForWalk (l := l) (D := D) (cyD := cyD) (cyI := cyI) (cyJ := cyJ) (cyZ := cyZ) aw ad ak ar au ae av ab df (ww) rf (uu) p3 p1 (1 : Int32) sn me vf lf sp sb no H.size p1 ((nI j)) hE) (cwV 2 hts gX2_go_X2_isForWalk rfl rfl rfl (by decide +kernel) ⟨Nat.le_of_ble_eq_true rfl, Nat.le_of_ble_eq_true rfl⟩) (kV (ci := 2) (q0 := 0) (q := (RX2, TX2, 8)) hN hK hPc hDc rfl rfl rfl) rfl rfl hl.1 rfl (lv_room (Nat.le_of_ble_eq_true rfl)) dX2_go_52 ⟨Nat.le_of_ble_eq_true rfl, Nat.le_of_ble_eq_true rfl⟩) hP hD hS hA [0, 1, 2, 3, 4, 5, 6, 7] [] [0, 1, 2, 3, 4, 5, 6, 7] rfl rfl (by decide) (by decide) rfl (by decide) (fun H locs hz_52 hP hD hS => ?_)
        refine lv_if_eq (tgt := 62) hx hb dX2_go_55 (by decide) (fun c_55 => ?_) (fun c_55 => ?_)
        · refine lv_iconst (v := 0) hx hb dX2_go_62 (by decide) ?_
          refine va_zast hx hb hK hP hD hS 2 3 rfl rfl (vp_in_nI (by have := Nat.lt_of_not_le (fun z => c_33 (nI_le (a := 32) z (by omega))); omega) (by decide)) dX2_go_63 (fun H locs hP hD hS => ?_)
          have hP : va_P D vwCl (wW cyD cyI cyJ cyZ aw ad ak ar au ae av ab df (upd (ww) ((nI j)).toNatClampNeg (vp_nar .boolean (0 : Int32))) rf (uu) p3 p1 (1 : Int32) sn me vf lf sp sb no) H := hP
          have hD : va_D A (wW cyD cyI cyJ cyZ aw ad ak ar au ae av ab df (upd (ww) ((nI j)).toNatClampNeg (vp_nar .boolean (0 : Int32))) rf (uu) p3 p1 (1 : Int32) sn me vf lf sp sb no) := hD
          refine lv_aload_n hx hb dX2_go_64 rfl (lv_at hl 1 rfl) ?_
          refine va_get (D := D) (ci := 2) (v := .ref ak) (C := RX2) (T := TX2) (N := 8) hx hb hts (fun _ h => (List.mem_cons_of_mem _ (List.mem_append_left _ (List.mem_append_right _ h)))) hown hK hP 0 rfl rfl 2 (by decide) (hts (.fieldLink RX2 15 "BottomWalks$Walk" "walked" "[Z") (List.mem_of_getElem? (i := 4) rfl)) (fun _ h9 => h9) rfl dX2_go_65 ?_
          refine lv_iload hx hb dX2_go_68 (lv_at hl 0 rfl) ?_
          refine va_zald hx hb hK hP 2 3 rfl rfl (vp_in_nI (by have := Nat.lt_of_not_le (fun z => c_33 (nI_le (a := 32) z (by omega))); omega) (by decide)) dX2_go_70 ?_
          refine lv_if_eq (tgt := 87) hx hb dX2_go_71 (by decide) (fun c_71 => ?_) (fun c_71 => ?_)
          · refine lv_iinc (v := (((nI j)) + 1)) (lv' := [(4, .int (((nI j)) + 1)), (0, .ref aw), (1, .int p1), (2, .int p2), (3, .int p3)]) hx hb dX2_go_87 hl (k := 0) rfl rfl (by decide) rfl (fun ls hl => ?_)
            refine lv_goto (tgt := 29) hx hb dX2_go_90 (by decide) ?_
            exact ih (j + 1) (upd (ww) ((nI j)).toNatClampNeg (vp_nar .boolean (0 : Int32))) (uu) _ _ (by omega) (by have := Nat.lt_of_not_le (fun z => c_33 (nI_le (a := 32) z (by omega))); omega) (by rw [← nI_1 j]; rw [hF, fX2_go_L29, if_neg c_33, if_neg c_45, if_pos c_55, if_pos c_71]) hP hD hS _ (by rw [← nI_1 j]; exact lv_sub hl [0, 1, 2, 3, 4] rfl)
          refine lv_aload_n hx hb dX2_go_74 rfl (lv_at hl 1 rfl) ?_
          refine lv_iload hx hb dX2_go_75 (lv_at hl 0 rfl) ?_
          refine lv_aload_n hx hb dX2_go_77 rfl (lv_at hl 1 rfl) ?_
          refine lv_iload hx hb dX2_go_78 (lv_at hl 0 rfl) ?_
          refine lv_iconst (v := (-1)) hx hb dX2_go_80 (by decide) ?_
          have hPc : va_P D vwCl (wW cyD cyI cyJ cyZ aw ad ak ar au ae av ab df (upd (ww) ((nI j)).toNatClampNeg (vp_nar .boolean (0 : Int32))) rf (uu) p3 p1 (1 : Int32) sn me vf lf sp sb no) H := hP.sub [0, 1, 2, 3, 4, 5, 6, 7] rfl
          have hDc : va_D A (wW cyD cyI cyJ cyZ aw ad ak ar au ae av ab df (upd (ww) ((nI j)).toNatClampNeg (vp_nar .boolean (0 : Int32))) rf (uu) p3 p1 (1 : Int32) sn me vf lf sp sb no) := hD.sub [0, 1, 2, 3, 4, 5, 6, 7] (by decide) rfl
          refine kiE (ws' := (wW cyD cyI cyJ cyZ aw ad ak ar au ae av ab df (upd (ww) ((nI j)).toNatClampNeg (vp_nar .boolean (0 : Int32))) rf (uu) p3 p1 (1 : Int32) sn me vf lf sp sb no)) (wc := (wW cyD cyI cyJ cyZ aw ad ak ar au ae av ab df (upd (ww) ((nI j)).toNatClampNeg (vp_nar .boolean (0 : Int32))) rf (uu) p3 p1 (1 : Int32) sn me vf lf sp sb no)) (wr := []) (w1 := (wW cyD cyI cyJ cyZ aw ad ak ar au ae av ab df (upd (ww) ((nI j)).toNatClampNeg (vp_nar .boolean (0 : Int32))) rf (uu) p3 p1 (1 : Int32) sn me vf lf sp sb no)) (va_runV (As := [.int ((nI j)), .int (-1 : Int32)]) (rest := [.int ((nI j)), .ref aw]) ⟨hx, hb, hml, hown, hts⟩ (c_X2_neighbour (l := l) (D := D) (cyD := cyD) (cyI := cyI) (cyJ := cyJ) (cyZ := cyZ) aw ad ak ar au ae av ab df (upd (ww) ((nI j)).toNatClampNeg (vp_nar .boolean (0 : Int32))) rf (uu) p3 p1 (1 : Int32) sn me vf lf sp sb no H.size ((nI j)) (-1 : Int32)) (cwV 2 hts gX2_go_X2_neighbour rfl rfl rfl (by decide +kernel) ⟨Nat.le_of_ble_eq_true rfl, Nat.le_of_ble_eq_true rfl⟩) (kV (ci := 2) (q0 := 0) (q := (RX2, TX2, 8)) hN hK hPc hDc rfl rfl rfl) rfl rfl hl.1 rfl (lv_room (Nat.le_of_ble_eq_true rfl)) dX2_go_81 ⟨Nat.le_of_ble_eq_true rfl, Nat.le_of_ble_eq_true rfl⟩) hP hD hS hA [0, 1, 2, 3, 4, 5, 6, 7] [] [0, 1, 2, 3, 4, 5, 6, 7] rfl rfl (by decide) (by decide) rfl (by decide) (fun H locs hP hD hS => ?_)
          have hPc : va_P D vwCl (wW cyD cyI cyJ cyZ aw ad ak ar au ae av ab df (upd (ww) ((nI j)).toNatClampNeg (vp_nar .boolean (0 : Int32))) rf (uu) p3 p1 (1 : Int32) sn me vf lf sp sb no) H := hP.sub [0, 1, 2, 3, 4, 5, 6, 7] rfl
          have hDc : va_D A (wW cyD cyI cyJ cyZ aw ad ak ar au ae av ab df (upd (ww) ((nI j)).toNatClampNeg (vp_nar .boolean (0 : Int32))) rf (uu) p3 p1 (1 : Int32) sn me vf lf sp sb no) := hD.sub [0, 1, 2, 3, 4, 5, 6, 7] (by decide) rfl
          refine kv (ws' := (wW cyD cyI cyJ cyZ aw ad ak ar au ae av ab df (upd (ww) ((nI j)).toNatClampNeg (vp_nar .boolean (0 : Int32))) rf (fX2_sumUp df (uu) p3 p1 sn me vf lf sp sb no ((nI j)) (fX2_neighbour (upd (ww) ((nI j)).toNatClampNeg (vp_nar .boolean (0 : Int32))) ((nI j)) (-1 : Int32))) p3 p1 (1 : Int32) sn me vf lf sp sb no)) (wc := (wW cyD cyI cyJ cyZ aw ad ak ar au ae av ab df (upd (ww) ((nI j)).toNatClampNeg (vp_nar .boolean (0 : Int32))) rf (uu) p3 p1 (1 : Int32) sn me vf lf sp sb no)) (wr := []) (w1 := (wW cyD cyI cyJ cyZ aw ad ak ar au ae av ab df (upd (ww) ((nI j)).toNatClampNeg (vp_nar .boolean (0 : Int32))) rf (fX2_sumUp df (uu) p3 p1 sn me vf lf sp sb no ((nI j)) (fX2_neighbour (upd (ww) ((nI j)).toNatClampNeg (vp_nar .boolean (0 : Int32))) ((nI j)) (-1 : Int32))) p3 p1 (1 : Int32) sn me vf lf sp sb no)) (va_runV (As := [.int ((nI j)), .int (fX2_neighbour (upd (ww) ((nI j)).toNatClampNeg (vp_nar .boolean (0 : Int32))) ((nI j)) (-1 : Int32))]) (rest := []) ⟨hx, hb, hml, hown, hts⟩ (c_X2_sumUp (l := l) (D := D) (cyD := cyD) (cyI := cyI) (cyJ := cyJ) (cyZ := cyZ) aw ad ak ar au ae av ab df (upd (ww) ((nI j)).toNatClampNeg (vp_nar .boolean (0 : Int32))) rf (uu) p3 p1 (1 : Int32) sn me vf lf sp sb no H.size ((nI j)) (fX2_neighbour (upd (ww) ((nI j)).toNatClampNeg (vp_nar .boolean (0 : Int32))) ((nI j)) (-1 : Int32)) hE S hS3 hS64 j rfl (by have := Nat.lt_of_not_le (fun z => c_33 (nI_le (a := 32) z (by omega))); omega)) (cwV 2 hts gX2_go_X2_sumUp rfl rfl rfl (by decide +kernel) ⟨Nat.le_of_ble_eq_true rfl, Nat.le_of_ble_eq_true rfl⟩) (kV (ci := 2) (q0 := 0) (q := (RX2, TX2, 8)) hN hK hPc hDc rfl rfl rfl) rfl rfl hl.1 rfl (lv_room (Nat.le_of_ble_eq_true rfl)) dX2_go_84 ⟨Nat.le_of_ble_eq_true rfl, Nat.le_of_ble_eq_true rfl⟩) hP hD hS hA [0, 1, 2, 3, 4, 5, 6, 7] [] [0, 1, 2, 3, 4, 5, 6, 7] rfl rfl (by decide) (by decide) rfl (by decide) (fun H locs hP hD hS => ?_)
          refine lv_iinc (v := (((nI j)) + 1)) (lv' := [(4, .int (((nI j)) + 1)), (0, .ref aw), (1, .int p1), (2, .int p2), (3, .int p3)]) hx hb dX2_go_87 hl (k := 0) rfl rfl (by decide) rfl (fun ls hl => ?_)
          refine lv_goto (tgt := 29) hx hb dX2_go_90 (by decide) ?_
          exact ih (j + 1) (upd (ww) ((nI j)).toNatClampNeg (vp_nar .boolean (0 : Int32))) (fX2_sumUp df (uu) p3 p1 sn me vf lf sp sb no ((nI j)) (fX2_neighbour (upd (ww) ((nI j)).toNatClampNeg (vp_nar .boolean (0 : Int32))) ((nI j)) (-1 : Int32))) _ _ (by omega) (by have := Nat.lt_of_not_le (fun z => c_33 (nI_le (a := 32) z (by omega))); omega) (by rw [← nI_1 j]; rw [hF, fX2_go_L29, if_neg c_33, if_neg c_45, if_pos c_55, if_neg c_71]) hP hD hS _ (by rw [← nI_1 j]; exact lv_sub hl [0, 1, 2, 3, 4] rfl)
        refine lv_iconst (v := 1) hx hb dX2_go_58 (by decide) ?_
        refine lv_goto (tgt := 63) hx hb dX2_go_59 (by decide) ?_
        refine va_zast hx hb hK hP hD hS 2 3 rfl rfl (vp_in_nI (by have := Nat.lt_of_not_le (fun z => c_33 (nI_le (a := 32) z (by omega))); omega) (by decide)) dX2_go_63 (fun H locs hP hD hS => ?_)
        have hP : va_P D vwCl (wW cyD cyI cyJ cyZ aw ad ak ar au ae av ab df (upd (ww) ((nI j)).toNatClampNeg (vp_nar .boolean (1 : Int32))) rf (uu) p3 p1 (1 : Int32) sn me vf lf sp sb no) H := hP
        have hD : va_D A (wW cyD cyI cyJ cyZ aw ad ak ar au ae av ab df (upd (ww) ((nI j)).toNatClampNeg (vp_nar .boolean (1 : Int32))) rf (uu) p3 p1 (1 : Int32) sn me vf lf sp sb no) := hD
        refine lv_aload_n hx hb dX2_go_64 rfl (lv_at hl 1 rfl) ?_
        refine va_get (D := D) (ci := 2) (v := .ref ak) (C := RX2) (T := TX2) (N := 8) hx hb hts (fun _ h => (List.mem_cons_of_mem _ (List.mem_append_left _ (List.mem_append_right _ h)))) hown hK hP 0 rfl rfl 2 (by decide) (hts (.fieldLink RX2 15 "BottomWalks$Walk" "walked" "[Z") (List.mem_of_getElem? (i := 4) rfl)) (fun _ h9 => h9) rfl dX2_go_65 ?_
        refine lv_iload hx hb dX2_go_68 (lv_at hl 0 rfl) ?_
        refine va_zald hx hb hK hP 2 3 rfl rfl (vp_in_nI (by have := Nat.lt_of_not_le (fun z => c_33 (nI_le (a := 32) z (by omega))); omega) (by decide)) dX2_go_70 ?_
        refine lv_if_eq (tgt := 87) hx hb dX2_go_71 (by decide) (fun c_71 => ?_) (fun c_71 => ?_)
        · refine lv_iinc (v := (((nI j)) + 1)) (lv' := [(4, .int (((nI j)) + 1)), (0, .ref aw), (1, .int p1), (2, .int p2), (3, .int p3)]) hx hb dX2_go_87 hl (k := 0) rfl rfl (by decide) rfl (fun ls hl => ?_)
          refine lv_goto (tgt := 29) hx hb dX2_go_90 (by decide) ?_
          exact ih (j + 1) (upd (ww) ((nI j)).toNatClampNeg (vp_nar .boolean (1 : Int32))) (uu) _ _ (by omega) (by have := Nat.lt_of_not_le (fun z => c_33 (nI_le (a := 32) z (by omega))); omega) (by rw [← nI_1 j]; rw [hF, fX2_go_L29, if_neg c_33, if_neg c_45, if_neg c_55, if_pos c_71]) hP hD hS _ (by rw [← nI_1 j]; exact lv_sub hl [0, 1, 2, 3, 4] rfl)
        refine lv_aload_n hx hb dX2_go_74 rfl (lv_at hl 1 rfl) ?_
        refine lv_iload hx hb dX2_go_75 (lv_at hl 0 rfl) ?_
        refine lv_aload_n hx hb dX2_go_77 rfl (lv_at hl 1 rfl) ?_
        refine lv_iload hx hb dX2_go_78 (lv_at hl 0 rfl) ?_
        refine lv_iconst (v := (-1)) hx hb dX2_go_80 (by decide) ?_
        have hPc : va_P D vwCl (wW cyD cyI cyJ cyZ aw ad ak ar au ae av ab df (upd (ww) ((nI j)).toNatClampNeg (vp_nar .boolean (1 : Int32))) rf (uu) p3 p1 (1 : Int32) sn me vf lf sp sb no) H := hP.sub [0, 1, 2, 3, 4, 5, 6, 7] rfl
        have hDc : va_D A (wW cyD cyI cyJ cyZ aw ad ak ar au ae av ab df (upd (ww) ((nI j)).toNatClampNeg (vp_nar .boolean (1 : Int32))) rf (uu) p3 p1 (1 : Int32) sn me vf lf sp sb no) := hD.sub [0, 1, 2, 3, 4, 5, 6, 7] (by decide) rfl
        refine kiE (ws' := (wW cyD cyI cyJ cyZ aw ad ak ar au ae av ab df (upd (ww) ((nI j)).toNatClampNeg (vp_nar .boolean (1 : Int32))) rf (uu) p3 p1 (1 : Int32) sn me vf lf sp sb no)) (wc := (wW cyD cyI cyJ cyZ aw ad ak ar au ae av ab df (upd (ww) ((nI j)).toNatClampNeg (vp_nar .boolean (1 : Int32))) rf (uu) p3 p1 (1 : Int32) sn me vf lf sp sb no)) (wr := []) (w1 := (wW cyD cyI cyJ cyZ aw ad ak ar au ae av ab df (upd (ww) ((nI j)).toNatClampNeg (vp_nar .boolean (1 : Int32))) rf (uu) p3 p1 (1 : Int32) sn me vf lf sp sb no)) (va_runV (As := [.int ((nI j)), .int (-1 : Int32)]) (rest := [.int ((nI j)), .ref aw]) ⟨hx, hb, hml, hown, hts⟩ (c_X2_neighbour (l := l) (D := D) (cyD := cyD) (cyI := cyI) (cyJ := cyJ) (cyZ := cyZ) aw ad ak ar au ae av ab df (upd (ww) ((nI j)).toNatClampNeg (vp_nar .boolean (1 : Int32))) rf (uu) p3 p1 (1 : Int32) sn me vf lf sp sb no H.size ((nI j)) (-1 : Int32)) (cwV 2 hts gX2_go_X2_neighbour rfl rfl rfl (by decide +kernel) ⟨Nat.le_of_ble_eq_true rfl, Nat.le_of_ble_eq_true rfl⟩) (kV (ci := 2) (q0 := 0) (q := (RX2, TX2, 8)) hN hK hPc hDc rfl rfl rfl) rfl rfl hl.1 rfl (lv_room (Nat.le_of_ble_eq_true rfl)) dX2_go_81 ⟨Nat.le_of_ble_eq_true rfl, Nat.le_of_ble_eq_true rfl⟩) hP hD hS hA [0, 1, 2, 3, 4, 5, 6, 7] [] [0, 1, 2, 3, 4, 5, 6, 7] rfl rfl (by decide) (by decide) rfl (by decide) (fun H locs hP hD hS => ?_)
        have hPc : va_P D vwCl (wW cyD cyI cyJ cyZ aw ad ak ar au ae av ab df (upd (ww) ((nI j)).toNatClampNeg (vp_nar .boolean (1 : Int32))) rf (uu) p3 p1 (1 : Int32) sn me vf lf sp sb no) H := hP.sub [0, 1, 2, 3, 4, 5, 6, 7] rfl
        have hDc : va_D A (wW cyD cyI cyJ cyZ aw ad ak ar au ae av ab df (upd (ww) ((nI j)).toNatClampNeg (vp_nar .boolean (1 : Int32))) rf (uu) p3 p1 (1 : Int32) sn me vf lf sp sb no) := hD.sub [0, 1, 2, 3, 4, 5, 6, 7] (by decide) rfl
        refine kv (ws' := (wW cyD cyI cyJ cyZ aw ad ak ar au ae av ab df (upd (ww) ((nI j)).toNatClampNeg (vp_nar .boolean (1 : Int32))) rf (fX2_sumUp df (uu) p3 p1 sn me vf lf sp sb no ((nI j)) (fX2_neighbour (upd (ww) ((nI j)).toNatClampNeg (vp_nar .boolean (1 : Int32))) ((nI j)) (-1 : Int32))) p3 p1 (1 : Int32) sn me vf lf sp sb no)) (wc := (wW cyD cyI cyJ cyZ aw ad ak ar au ae av ab df (upd (ww) ((nI j)).toNatClampNeg (vp_nar .boolean (1 : Int32))) rf (uu) p3 p1 (1 : Int32) sn me vf lf sp sb no)) (wr := []) (w1 := (wW cyD cyI cyJ cyZ aw ad ak ar au ae av ab df (upd (ww) ((nI j)).toNatClampNeg (vp_nar .boolean (1 : Int32))) rf (fX2_sumUp df (uu) p3 p1 sn me vf lf sp sb no ((nI j)) (fX2_neighbour (upd (ww) ((nI j)).toNatClampNeg (vp_nar .boolean (1 : Int32))) ((nI j)) (-1 : Int32))) p3 p1 (1 : Int32) sn me vf lf sp sb no)) (va_runV (As := [.int ((nI j)), .int (fX2_neighbour (upd (ww) ((nI j)).toNatClampNeg (vp_nar .boolean (1 : Int32))) ((nI j)) (-1 : Int32))]) (rest := []) ⟨hx, hb, hml, hown, hts⟩ (c_X2_sumUp (l := l) (D := D) (cyD := cyD) (cyI := cyI) (cyJ := cyJ) (cyZ := cyZ) aw ad ak ar au ae av ab df (upd (ww) ((nI j)).toNatClampNeg (vp_nar .boolean (1 : Int32))) rf (uu) p3 p1 (1 : Int32) sn me vf lf sp sb no H.size ((nI j)) (fX2_neighbour (upd (ww) ((nI j)).toNatClampNeg (vp_nar .boolean (1 : Int32))) ((nI j)) (-1 : Int32)) hE S hS3 hS64 j rfl (by have := Nat.lt_of_not_le (fun z => c_33 (nI_le (a := 32) z (by omega))); omega)) (cwV 2 hts gX2_go_X2_sumUp rfl rfl rfl (by decide +kernel) ⟨Nat.le_of_ble_eq_true rfl, Nat.le_of_ble_eq_true rfl⟩) (kV (ci := 2) (q0 := 0) (q := (RX2, TX2, 8)) hN hK hPc hDc rfl rfl rfl) rfl rfl hl.1 rfl (lv_room (Nat.le_of_ble_eq_true rfl)) dX2_go_84 ⟨Nat.le_of_ble_eq_true rfl, Nat.le_of_ble_eq_true rfl⟩) hP hD hS hA [0, 1, 2, 3, 4, 5, 6, 7] [] [0, 1, 2, 3, 4, 5, 6, 7] rfl rfl (by decide) (by decide) rfl (by decide) (fun H locs hP hD hS => ?_)
        refine lv_iinc (v := (((nI j)) + 1)) (lv' := [(4, .int (((nI j)) + 1)), (0, .ref aw), (1, .int p1), (2, .int p2), (3, .int p3)]) hx hb dX2_go_87 hl (k := 0) rfl rfl (by decide) rfl (fun ls hl => ?_)
        refine lv_goto (tgt := 29) hx hb dX2_go_90 (by decide) ?_
        exact ih (j + 1) (upd (ww) ((nI j)).toNatClampNeg (vp_nar .boolean (1 : Int32))) (fX2_sumUp df (uu) p3 p1 sn me vf lf sp sb no ((nI j)) (fX2_neighbour (upd (ww) ((nI j)).toNatClampNeg (vp_nar .boolean (1 : Int32))) ((nI j)) (-1 : Int32))) _ _ (by omega) (by have := Nat.lt_of_not_le (fun z => c_33 (nI_le (a := 32) z (by omega))); omega) (by rw [← nI_1 j]; rw [hF, fX2_go_L29, if_neg c_33, if_neg c_45, if_neg c_55, if_neg c_71]) hP hD hS _ (by rw [← nI_1 j]; exact lv_sub hl [0, 1, 2, 3, 4] rfl)
    exact loop_29 33 0 kf uf _ _ rfl (Nat.zero_le _) (by rw [nI_0]; rw [fX2_go, if_neg c_6]) hP hD hS _ (by exact lv_sub hl [0, 1, 2, 3, 4] rfl)
  refine lv_iconst (v := (-1)) hx hb dX2_go_9 (by decide) ?_
  have hF9 : (fX2_go df kf rf uf st fw fo sn me vf lf sp sb no p1 p2 p3) = ((-1 : Int32), kf, rf, uf, st, fw, fo) := by rw [fX2_go, if_pos c_6]
  have hP9 : va_P D vwCl (wW cyD cyI cyJ cyZ aw ad ak ar au ae av ab df ((fX2_go df kf rf uf st fw fo sn me vf lf sp sb no p1 p2 p3).2.1) ((fX2_go df kf rf uf st fw fo sn me vf lf sp sb no p1 p2 p3).2.2.1) ((fX2_go df kf rf uf st fw fo sn me vf lf sp sb no p1 p2 p3).2.2.2.1) ((fX2_go df kf rf uf st fw fo sn me vf lf sp sb no p1 p2 p3).2.2.2.2.1) ((fX2_go df kf rf uf st fw fo sn me vf lf sp sb no p1 p2 p3).2.2.2.2.2.1) ((fX2_go df kf rf uf st fw fo sn me vf lf sp sb no p1 p2 p3).2.2.2.2.2.2) sn me vf lf sp sb no) H := by rw [hF9]; exact hP
  have hD9 : va_D A (wW cyD cyI cyJ cyZ aw ad ak ar au ae av ab df ((fX2_go df kf rf uf st fw fo sn me vf lf sp sb no p1 p2 p3).2.1) ((fX2_go df kf rf uf st fw fo sn me vf lf sp sb no p1 p2 p3).2.2.1) ((fX2_go df kf rf uf st fw fo sn me vf lf sp sb no p1 p2 p3).2.2.2.1) ((fX2_go df kf rf uf st fw fo sn me vf lf sp sb no p1 p2 p3).2.2.2.2.1) ((fX2_go df kf rf uf st fw fo sn me vf lf sp sb no p1 p2 p3).2.2.2.2.2.1) ((fX2_go df kf rf uf st fw fo sn me vf lf sp sb no p1 p2 p3).2.2.2.2.2.2) sn me vf lf sp sb no) := by rw [hF9]; exact hD
  exact W.iret (v := (-1 : Int32)) hx hb hr (fun t ht hW => ⟨⟨(-1 : Int32), (), rfl, (by rw [hF9]), by rw [ht]; exact hP9, va_K.moved hW.alike hK, hD9⟩, hS.F ht⟩) hS.2.2 dX2_go_10
end
