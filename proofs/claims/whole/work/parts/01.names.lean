-- ===== PART A: goes FIRST, ahead of the names: the tables' words, and 'selects' of the private methods out of them =====
/-- a private method of a class that the tables say can be made, by its rows of tables_1 -/
def lw_okq (q : MethodName × Nat) : Prop := (q.1.cls ≠ "java/lang/invoke/MethodHandle" ∧ q.1.cls ≠ "java/lang/invoke/VarHandle") ∧ Cond.instantiable q.1.cls q.2 ∈ tables_1 ∧ Cond.privateMethod q.1 ∈ tables_1 ∧ Cond.instanceMethod q.1 ∈ tables_1
theorem lw_p0 : lw_okq (⟨"LeverHall", "heldBy", "(I)I"⟩, 13) := ⟨⟨by decide +kernel, by decide +kernel⟩, List.mem_of_getElem? (i := 5) (by decide +kernel), List.mem_of_getElem? (i := 62) (by decide +kernel), List.mem_of_getElem? (i := 63) (by decide +kernel)⟩
theorem lw_p1 : lw_okq (⟨"LeverHall", "pour", "(II)V"⟩, 13) := ⟨⟨by decide +kernel, by decide +kernel⟩, List.mem_of_getElem? (i := 5) (by decide +kernel), List.mem_of_getElem? (i := 69) (by decide +kernel), List.mem_of_getElem? (i := 70) (by decide +kernel)⟩
theorem lw_p2 : lw_okq (⟨"LeverHall", "gaugeNow", "(I)[I"⟩, 13) := ⟨⟨by decide +kernel, by decide +kernel⟩, List.mem_of_getElem? (i := 5) (by decide +kernel), List.mem_of_getElem? (i := 88) (by decide +kernel), List.mem_of_getElem? (i := 89) (by decide +kernel)⟩
theorem lw_p3 : lw_okq (⟨"LeverHall", "inSlot", "(I)LLeverHall$Deed;"⟩, 13) := ⟨⟨by decide +kernel, by decide +kernel⟩, List.mem_of_getElem? (i := 5) (by decide +kernel), List.mem_of_getElem? (i := 111) (by decide +kernel), List.mem_of_getElem? (i := 112) (by decide +kernel)⟩
theorem lw_p4 : lw_okq (⟨"LeverHall", "refuse", "(I)I"⟩, 13) := ⟨⟨by decide +kernel, by decide +kernel⟩, List.mem_of_getElem? (i := 5) (by decide +kernel), List.mem_of_getElem? (i := 180) (by decide +kernel), List.mem_of_getElem? (i := 181) (by decide +kernel)⟩
theorem lw_p5 : lw_okq (⟨"LeverHall", "begin", "()V"⟩, 13) := ⟨⟨by decide +kernel, by decide +kernel⟩, List.mem_of_getElem? (i := 5) (by decide +kernel), List.mem_of_getElem? (i := 184) (by decide +kernel), List.mem_of_getElem? (i := 185) (by decide +kernel)⟩
theorem lw_p6 : lw_okq (⟨"LeverHall", "doDeed", "(LLeverHall$Deed;II)I"⟩, 13) := ⟨⟨by decide +kernel, by decide +kernel⟩, List.mem_of_getElem? (i := 5) (by decide +kernel), List.mem_of_getElem? (i := 188) (by decide +kernel), List.mem_of_getElem? (i := 189) (by decide +kernel)⟩
theorem lw_p7 : lw_okq (⟨"LeverHall", "fail", "(I)I"⟩, 13) := ⟨⟨by decide +kernel, by decide +kernel⟩, List.mem_of_getElem? (i := 5) (by decide +kernel), List.mem_of_getElem? (i := 192) (by decide +kernel), List.mem_of_getElem? (i := 193) (by decide +kernel)⟩
theorem lw_p8 : lw_okq (⟨"LeverHall", "doAlone", "(LLeverHall$Deed;I)I"⟩, 13) := ⟨⟨by decide +kernel, by decide +kernel⟩, List.mem_of_getElem? (i := 5) (by decide +kernel), List.mem_of_getElem? (i := 196) (by decide +kernel), List.mem_of_getElem? (i := 197) (by decide +kernel)⟩
theorem lw_p9 : lw_okq (⟨"LeverHall", "doSet", "(LLeverHall$Deed;I)I"⟩, 13) := ⟨⟨by decide +kernel, by decide +kernel⟩, List.mem_of_getElem? (i := 5) (by decide +kernel), List.mem_of_getElem? (i := 200) (by decide +kernel), List.mem_of_getElem? (i := 201) (by decide +kernel)⟩
theorem lw_p10 : lw_okq (⟨"LeverHall", "doAdd", "(LLeverHall$Deed;I)I"⟩, 13) := ⟨⟨by decide +kernel, by decide +kernel⟩, List.mem_of_getElem? (i := 5) (by decide +kernel), List.mem_of_getElem? (i := 204) (by decide +kernel), List.mem_of_getElem? (i := 205) (by decide +kernel)⟩
theorem lw_p11 : lw_okq (⟨"LeverHall", "doDraw", "(LLeverHall$Deed;I)I"⟩, 13) := ⟨⟨by decide +kernel, by decide +kernel⟩, List.mem_of_getElem? (i := 5) (by decide +kernel), List.mem_of_getElem? (i := 208) (by decide +kernel), List.mem_of_getElem? (i := 209) (by decide +kernel)⟩
theorem lw_p12 : lw_okq (⟨"LeverHall", "doMark", "(LLeverHall$Deed;I)I"⟩, 13) := ⟨⟨by decide +kernel, by decide +kernel⟩, List.mem_of_getElem? (i := 5) (by decide +kernel), List.mem_of_getElem? (i := 212) (by decide +kernel), List.mem_of_getElem? (i := 213) (by decide +kernel)⟩
theorem lw_p13 : lw_okq (⟨"LeverHall", "doThroughOthers", "(LLeverHall$Deed;II)I"⟩, 13) := ⟨⟨by decide +kernel, by decide +kernel⟩, List.mem_of_getElem? (i := 5) (by decide +kernel), List.mem_of_getElem? (i := 216) (by decide +kernel), List.mem_of_getElem? (i := 217) (by decide +kernel)⟩
theorem lw_p14 : lw_okq (⟨"LeverHall", "doThen", "(LLeverHall$Deed;II)I"⟩, 13) := ⟨⟨by decide +kernel, by decide +kernel⟩, List.mem_of_getElem? (i := 5) (by decide +kernel), List.mem_of_getElem? (i := 220) (by decide +kernel), List.mem_of_getElem? (i := 221) (by decide +kernel)⟩
theorem lw_p15 : lw_okq (⟨"LeverHall", "doTimes", "(LLeverHall$Deed;II)I"⟩, 13) := ⟨⟨by decide +kernel, by decide +kernel⟩, List.mem_of_getElem? (i := 5) (by decide +kernel), List.mem_of_getElem? (i := 224) (by decide +kernel), List.mem_of_getElem? (i := 225) (by decide +kernel)⟩
def lw_privs_1 : List (MethodName × Nat) := [(⟨"LeverHall", "heldBy", "(I)I"⟩, 13), (⟨"LeverHall", "pour", "(II)V"⟩, 13), (⟨"LeverHall", "gaugeNow", "(I)[I"⟩, 13), (⟨"LeverHall", "inSlot", "(I)LLeverHall$Deed;"⟩, 13), (⟨"LeverHall", "refuse", "(I)I"⟩, 13), (⟨"LeverHall", "begin", "()V"⟩, 13), (⟨"LeverHall", "doDeed", "(LLeverHall$Deed;II)I"⟩, 13), (⟨"LeverHall", "fail", "(I)I"⟩, 13), (⟨"LeverHall", "doAlone", "(LLeverHall$Deed;I)I"⟩, 13), (⟨"LeverHall", "doSet", "(LLeverHall$Deed;I)I"⟩, 13), (⟨"LeverHall", "doAdd", "(LLeverHall$Deed;I)I"⟩, 13), (⟨"LeverHall", "doDraw", "(LLeverHall$Deed;I)I"⟩, 13), (⟨"LeverHall", "doMark", "(LLeverHall$Deed;I)I"⟩, 13), (⟨"LeverHall", "doThroughOthers", "(LLeverHall$Deed;II)I"⟩, 13), (⟨"LeverHall", "doThen", "(LLeverHall$Deed;II)I"⟩, 13), (⟨"LeverHall", "doTimes", "(LLeverHall$Deed;II)I"⟩, 13)]
theorem lw_r1 : ∀ q ∈ lw_privs_1, lw_okq q := List.forall_mem_cons.mpr ⟨lw_p0, List.forall_mem_cons.mpr ⟨lw_p1, List.forall_mem_cons.mpr ⟨lw_p2, List.forall_mem_cons.mpr ⟨lw_p3, List.forall_mem_cons.mpr ⟨lw_p4, List.forall_mem_cons.mpr ⟨lw_p5, List.forall_mem_cons.mpr ⟨lw_p6, List.forall_mem_cons.mpr ⟨lw_p7, List.forall_mem_cons.mpr ⟨lw_p8, List.forall_mem_cons.mpr ⟨lw_p9, List.forall_mem_cons.mpr ⟨lw_p10, List.forall_mem_cons.mpr ⟨lw_p11, List.forall_mem_cons.mpr ⟨lw_p12, List.forall_mem_cons.mpr ⟨lw_p13, List.forall_mem_cons.mpr ⟨lw_p14, List.forall_mem_cons.mpr ⟨lw_p15, fun _ h => absurd h List.not_mem_nil⟩⟩⟩⟩⟩⟩⟩⟩⟩⟩⟩⟩⟩⟩⟩⟩
theorem lw_p16 : lw_okq (⟨"LeverHall", "doTry", "(LLeverHall$Deed;II)I"⟩, 13) := ⟨⟨by decide +kernel, by decide +kernel⟩, List.mem_of_getElem? (i := 5) (by decide +kernel), List.mem_of_getElem? (i := 228) (by decide +kernel), List.mem_of_getElem? (i := 229) (by decide +kernel)⟩
theorem lw_p17 : lw_okq (⟨"LeverHall", "doLater", "(LLeverHall$Deed;I)I"⟩, 13) := ⟨⟨by decide +kernel, by decide +kernel⟩, List.mem_of_getElem? (i := 5) (by decide +kernel), List.mem_of_getElem? (i := 232) (by decide +kernel), List.mem_of_getElem? (i := 233) (by decide +kernel)⟩
theorem lw_p18 : lw_okq (⟨"LeverHall", "doCount", "(LLeverHall$Deed;II)I"⟩, 13) := ⟨⟨by decide +kernel, by decide +kernel⟩, List.mem_of_getElem? (i := 5) (by decide +kernel), List.mem_of_getElem? (i := 236) (by decide +kernel), List.mem_of_getElem? (i := 237) (by decide +kernel)⟩
theorem lw_p19 : lw_okq (⟨"LeverHall", "doPlaces", "(III)I"⟩, 13) := ⟨⟨by decide +kernel, by decide +kernel⟩, List.mem_of_getElem? (i := 5) (by decide +kernel), List.mem_of_getElem? (i := 240) (by decide +kernel), List.mem_of_getElem? (i := 241) (by decide +kernel)⟩
theorem lw_p20 : lw_okq (⟨"LeverHall", "atPlace", "(II)LLeverHall$Deed;"⟩, 13) := ⟨⟨by decide +kernel, by decide +kernel⟩, List.mem_of_getElem? (i := 5) (by decide +kernel), List.mem_of_getElem? (i := 244) (by decide +kernel), List.mem_of_getElem? (i := 245) (by decide +kernel)⟩
theorem lw_p21 : lw_okq (⟨"LeverHall", "noteFailure", "()V"⟩, 13) := ⟨⟨by decide +kernel, by decide +kernel⟩, List.mem_of_getElem? (i := 5) (by decide +kernel), List.mem_of_getElem? (i := 248) (by decide +kernel), List.mem_of_getElem? (i := 249) (by decide +kernel)⟩
theorem lw_p22 : lw_okq (⟨"LeverHall", "doLongestWaiting", "()V"⟩, 13) := ⟨⟨by decide +kernel, by decide +kernel⟩, List.mem_of_getElem? (i := 5) (by decide +kernel), List.mem_of_getElem? (i := 260) (by decide +kernel), List.mem_of_getElem? (i := 261) (by decide +kernel)⟩
theorem lw_p23 : lw_okq (⟨"LeverHall", "slotsInUse", "()I"⟩, 13) := ⟨⟨by decide +kernel, by decide +kernel⟩, List.mem_of_getElem? (i := 5) (by decide +kernel), List.mem_of_getElem? (i := 272) (by decide +kernel), List.mem_of_getElem? (i := 273) (by decide +kernel)⟩
theorem lw_p24 : lw_okq (⟨"LeverHall", "emptyHall", "()V"⟩, 13) := ⟨⟨by decide +kernel, by decide +kernel⟩, List.mem_of_getElem? (i := 5) (by decide +kernel), List.mem_of_getElem? (i := 280) (by decide +kernel), List.mem_of_getElem? (i := 281) (by decide +kernel)⟩
theorem lw_p25 : lw_okq (⟨"LeverHall", "emptyDeeds", "()V"⟩, 13) := ⟨⟨by decide +kernel, by decide +kernel⟩, List.mem_of_getElem? (i := 5) (by decide +kernel), List.mem_of_getElem? (i := 284) (by decide +kernel), List.mem_of_getElem? (i := 285) (by decide +kernel)⟩
theorem lw_p26 : lw_okq (⟨"LeverHallModel", "reset", "()V"⟩, 26) := ⟨⟨by decide +kernel, by decide +kernel⟩, List.mem_of_getElem? (i := 288) (by decide +kernel), List.mem_of_getElem? (i := 294) (by decide +kernel), List.mem_of_getElem? (i := 295) (by decide +kernel)⟩
theorem lw_p27 : lw_okq (⟨"LeverHallModel", "refuse", "(I)I"⟩, 26) := ⟨⟨by decide +kernel, by decide +kernel⟩, List.mem_of_getElem? (i := 288) (by decide +kernel), List.mem_of_getElem? (i := 439) (by decide +kernel), List.mem_of_getElem? (i := 440) (by decide +kernel)⟩
theorem lw_p28 : lw_okq (⟨"LeverHallModel", "doing", "(II)I"⟩, 26) := ⟨⟨by decide +kernel, by decide +kernel⟩, List.mem_of_getElem? (i := 288) (by decide +kernel), List.mem_of_getElem? (i := 443) (by decide +kernel), List.mem_of_getElem? (i := 444) (by decide +kernel)⟩
theorem lw_p29 : lw_okq (⟨"LeverHallModel", "enter", "(II)V"⟩, 26) := ⟨⟨by decide +kernel, by decide +kernel⟩, List.mem_of_getElem? (i := 288) (by decide +kernel), List.mem_of_getElem? (i := 447) (by decide +kernel), List.mem_of_getElem? (i := 448) (by decide +kernel)⟩
theorem lw_p30 : lw_okq (⟨"LeverHallModel", "fall", "()V"⟩, 26) := ⟨⟨by decide +kernel, by decide +kernel⟩, List.mem_of_getElem? (i := 288) (by decide +kernel), List.mem_of_getElem? (i := 451) (by decide +kernel), List.mem_of_getElem? (i := 452) (by decide +kernel)⟩
theorem lw_p31 : lw_okq (⟨"LeverHallModel", "goOn", "()V"⟩, 26) := ⟨⟨by decide +kernel, by decide +kernel⟩, List.mem_of_getElem? (i := 288) (by decide +kernel), List.mem_of_getElem? (i := 455) (by decide +kernel), List.mem_of_getElem? (i := 456) (by decide +kernel)⟩
def lw_privs_2 : List (MethodName × Nat) := [(⟨"LeverHall", "doTry", "(LLeverHall$Deed;II)I"⟩, 13), (⟨"LeverHall", "doLater", "(LLeverHall$Deed;I)I"⟩, 13), (⟨"LeverHall", "doCount", "(LLeverHall$Deed;II)I"⟩, 13), (⟨"LeverHall", "doPlaces", "(III)I"⟩, 13), (⟨"LeverHall", "atPlace", "(II)LLeverHall$Deed;"⟩, 13), (⟨"LeverHall", "noteFailure", "()V"⟩, 13), (⟨"LeverHall", "doLongestWaiting", "()V"⟩, 13), (⟨"LeverHall", "slotsInUse", "()I"⟩, 13), (⟨"LeverHall", "emptyHall", "()V"⟩, 13), (⟨"LeverHall", "emptyDeeds", "()V"⟩, 13), (⟨"LeverHallModel", "reset", "()V"⟩, 26), (⟨"LeverHallModel", "refuse", "(I)I"⟩, 26), (⟨"LeverHallModel", "doing", "(II)I"⟩, 26), (⟨"LeverHallModel", "enter", "(II)V"⟩, 26), (⟨"LeverHallModel", "fall", "()V"⟩, 26), (⟨"LeverHallModel", "goOn", "()V"⟩, 26)]
theorem lw_r2 : ∀ q ∈ lw_privs_2, lw_okq q := List.forall_mem_cons.mpr ⟨lw_p16, List.forall_mem_cons.mpr ⟨lw_p17, List.forall_mem_cons.mpr ⟨lw_p18, List.forall_mem_cons.mpr ⟨lw_p19, List.forall_mem_cons.mpr ⟨lw_p20, List.forall_mem_cons.mpr ⟨lw_p21, List.forall_mem_cons.mpr ⟨lw_p22, List.forall_mem_cons.mpr ⟨lw_p23, List.forall_mem_cons.mpr ⟨lw_p24, List.forall_mem_cons.mpr ⟨lw_p25, List.forall_mem_cons.mpr ⟨lw_p26, List.forall_mem_cons.mpr ⟨lw_p27, List.forall_mem_cons.mpr ⟨lw_p28, List.forall_mem_cons.mpr ⟨lw_p29, List.forall_mem_cons.mpr ⟨lw_p30, List.forall_mem_cons.mpr ⟨lw_p31, fun _ h => absurd h List.not_mem_nil⟩⟩⟩⟩⟩⟩⟩⟩⟩⟩⟩⟩⟩⟩⟩⟩
theorem lw_p32 : lw_okq (⟨"LeverHallModel", "give", "(I)V"⟩, 26) := ⟨⟨by decide +kernel, by decide +kernel⟩, List.mem_of_getElem? (i := 288) (by decide +kernel), List.mem_of_getElem? (i := 459) (by decide +kernel), List.mem_of_getElem? (i := 460) (by decide +kernel)⟩
theorem lw_p33 : lw_okq (⟨"LeverHallModel", "alone", "(II)V"⟩, 26) := ⟨⟨by decide +kernel, by decide +kernel⟩, List.mem_of_getElem? (i := 288) (by decide +kernel), List.mem_of_getElem? (i := 463) (by decide +kernel), List.mem_of_getElem? (i := 464) (by decide +kernel)⟩
theorem lw_p34 : lw_okq (⟨"LeverHallModel", "draw", "(III)V"⟩, 26) := ⟨⟨by decide +kernel, by decide +kernel⟩, List.mem_of_getElem? (i := 288) (by decide +kernel), List.mem_of_getElem? (i := 467) (by decide +kernel), List.mem_of_getElem? (i := 468) (by decide +kernel)⟩
theorem lw_p35 : lw_okq (⟨"LeverHallModel", "later", "(II)V"⟩, 26) := ⟨⟨by decide +kernel, by decide +kernel⟩, List.mem_of_getElem? (i := 288) (by decide +kernel), List.mem_of_getElem? (i := 471) (by decide +kernel), List.mem_of_getElem? (i := 472) (by decide +kernel)⟩
def lw_privs_3 : List (MethodName × Nat) := [(⟨"LeverHallModel", "give", "(I)V"⟩, 26), (⟨"LeverHallModel", "alone", "(II)V"⟩, 26), (⟨"LeverHallModel", "draw", "(III)V"⟩, 26), (⟨"LeverHallModel", "later", "(II)V"⟩, 26)]
theorem lw_r3 : ∀ q ∈ lw_privs_3, lw_okq q := List.forall_mem_cons.mpr ⟨lw_p32, List.forall_mem_cons.mpr ⟨lw_p33, List.forall_mem_cons.mpr ⟨lw_p34, List.forall_mem_cons.mpr ⟨lw_p35, fun _ h => absurd h List.not_mem_nil⟩⟩⟩⟩
def lw_privs : List (MethodName × Nat) := lw_privs_1 ++ (lw_privs_2 ++ (lw_privs_3))
def lw_tbl : List Cond := k2_sels lw_privs ++ tables_1
theorem lw_privs_ok : ∀ q ∈ lw_privs, lw_okq q := by
  show ∀ q ∈ lw_privs_1 ++ (lw_privs_2 ++ (lw_privs_3)), lw_okq q
  exact List.forall_mem_append.mpr ⟨lw_r1, List.forall_mem_append.mpr ⟨lw_r2, lw_r3⟩⟩

def RX0 : String := "LeverHall$Deed"
def TX0 : u_T := fun k => match k with
  | 0 => ("LeverHall$Deed", "kind", "I", true)
  | 1 => ("LeverHall$Deed", "x", "I", true)
  | 2 => ("LeverHall$Deed", "y", "I", true)
  | 3 => ("LeverHall$Deed", "z", "I", true)
  | 4 => ("LeverHall$Deed", "first", "LLeverHall$Deed;", true)
  | 5 => ("LeverHall$Deed", "second", "LLeverHall$Deed;", true)
  | 6 => ("LeverHall$Deed", "gauge", "[I", true)
  | _ => ("LeverHall$Deed", "times", "I", false)
def tyX0 : Nat → FieldType := fun k => match k with
  | 0 => .int
  | 1 => .int
  | 2 => .int
  | 3 => .int
  | 4 => .object "LeverHall$Deed"
  | 5 => .object "LeverHall$Deed"
  | 6 => .array .int
  | _ => .int
abbrev wsX00 : List Cond := u_ws RX0 TX0 8
theorem nmX0 : ∀ a, a < 8 → ∀ b, b < 8 → a ≠ b → (TX0 a).2.1 ≠ (TX0 b).2.1 := by decide +kernel
theorem tyX0_ok : ∀ k, k < 8 → parseFieldDescriptor (TX0 k).2.2.1 = some (tyX0 k) := by decide +kernel
abbrev cX0_init : ByteArray := prog_2_method_1_code
def yX0_init : MethodName := ⟨RX0, "<init>", "(IIIILLeverHall$Deed;LLeverHall$Deed;[I)V"⟩
def RX1 : String := "LeverHall"
def TX1 : u_T := fun k => match k with
  | 0 => ("LeverHall", "basins", "[I", true)
  | 1 => ("LeverHall", "gauges", "[[I", true)
  | 2 => ("LeverHall", "slots", "[LLeverHall$Deed;", true)
  | 3 => ("LeverHall", "places", "[LLeverHall$Deed;", true)
  | 4 => ("LeverHall", "queue", "[LLeverHall$Deed;", true)
  | 5 => ("LeverHall", "powers", "[I", true)
  | 6 => ("LeverHall", "head", "I", false)
  | 7 => ("LeverHall", "waiting", "I", false)
  | 8 => ("LeverHall", "made", "I", false)
  | 9 => ("LeverHall", "steps", "I", false)
  | 10 => ("LeverHall", "failures", "I", false)
  | 11 => ("LeverHall", "why", "I", false)
  | _ => ("LeverHall", "latest", "I", false)
def tyX1 : Nat → FieldType := fun k => match k with
  | 0 => .array .int
  | 1 => .array (.array .int)
  | 2 => .array (.object "LeverHall$Deed")
  | 3 => .array (.object "LeverHall$Deed")
  | 4 => .array (.object "LeverHall$Deed")
  | 5 => .array .int
  | 6 => .int
  | 7 => .int
  | 8 => .int
  | 9 => .int
  | 10 => .int
  | 11 => .int
  | _ => .int
abbrev wsX10 : List Cond := u_ws RX1 TX1 13
theorem nmX1 : ∀ a, a < 13 → ∀ b, b < 13 → a ≠ b → (TX1 a).2.1 ≠ (TX1 b).2.1 := by decide +kernel
theorem tyX1_ok : ∀ k, k < 13 → parseFieldDescriptor (TX1 k).2.2.1 = some (tyX1 k) := by decide +kernel
abbrev cX1_init : ByteArray := prog_1_method_1_code
def yX1_init : MethodName := ⟨RX1, "<init>", "()V"⟩
abbrev cX1_fill : ByteArray := prog_1_method_2_code
def yX1_fill : MethodName := ⟨RX1, "fill", "(II)I"⟩
abbrev cX1_basin : ByteArray := prog_1_method_3_code
def yX1_basin : MethodName := ⟨RX1, "basin", "(I)I"⟩
abbrev cX1_gauge : ByteArray := prog_1_method_4_code
def yX1_gauge : MethodName := ⟨RX1, "gauge", "(II)I"⟩
abbrev cX1_mark : ByteArray := prog_1_method_5_code
def yX1_mark : MethodName := ⟨RX1, "mark", "(II)I"⟩
abbrev cX1_deed : ByteArray := prog_1_method_6_code
def yX1_deed : MethodName := ⟨RX1, "deed", "(IIIII)I"⟩
abbrev cX1_copy : ByteArray := prog_1_method_7_code
def yX1_copy : MethodName := ⟨RX1, "copy", "(II)I"⟩
abbrev cX1_drop : ByteArray := prog_1_method_8_code
def yX1_drop : MethodName := ⟨RX1, "drop", "(I)I"⟩
abbrev cX1_lever : ByteArray := prog_1_method_9_code
def yX1_lever : MethodName := ⟨RX1, "lever", "(III)I"⟩
abbrev cX1_same : ByteArray := prog_1_method_10_code
def yX1_same : MethodName := ⟨RX1, "same", "(II)I"⟩
abbrev cX1_count : ByteArray := prog_1_method_11_code
def yX1_count : MethodName := ⟨RX1, "count", "(I)I"⟩
abbrev cX1_act : ByteArray := prog_1_method_12_code
def yX1_act : MethodName := ⟨RX1, "act", "(II)I"⟩
abbrev cX1_pull : ByteArray := prog_1_method_13_code
def yX1_pull : MethodName := ⟨RX1, "pull", "(II)I"⟩
abbrev cX1_tick : ByteArray := prog_1_method_14_code
def yX1_tick : MethodName := ⟨RX1, "tick", "()I"⟩
abbrev cX1_failed : ByteArray := prog_1_method_15_code
def yX1_failed : MethodName := ⟨RX1, "failed", "()I"⟩
abbrev cX1_told : ByteArray := prog_1_method_16_code
def yX1_told : MethodName := ⟨RX1, "told", "(I)I"⟩
abbrev cX1_clear : ByteArray := prog_1_method_17_code
def yX1_clear : MethodName := ⟨RX1, "clear", "()I"⟩
abbrev cX1_isBasin : ByteArray := prog_1_method_18_code
def yX1_isBasin : MethodName := ⟨RX1, "isBasin", "(I)Z"⟩
abbrev cX1_isGauge : ByteArray := prog_1_method_19_code
def yX1_isGauge : MethodName := ⟨RX1, "isGauge", "(I)Z"⟩
abbrev cX1_isSlot : ByteArray := prog_1_method_20_code
def yX1_isSlot : MethodName := ⟨RX1, "isSlot", "(I)Z"⟩
abbrev cX1_isLever : ByteArray := prog_1_method_21_code
def yX1_isLever : MethodName := ⟨RX1, "isLever", "(I)Z"⟩
abbrev cX1_hasMark : ByteArray := prog_1_method_22_code
def yX1_hasMark : MethodName := ⟨RX1, "hasMark", "([II)Z"⟩
abbrev cX1_heldBy : ByteArray := prog_1_method_23_code
def yX1_heldBy : MethodName := ⟨RX1, "heldBy", "(I)I"⟩
abbrev cX1_pour : ByteArray := prog_1_method_24_code
def yX1_pour : MethodName := ⟨RX1, "pour", "(II)V"⟩
abbrev cX1_gaugeNow : ByteArray := prog_1_method_25_code
def yX1_gaugeNow : MethodName := ⟨RX1, "gaugeNow", "(I)[I"⟩
abbrev cX1_inSlot : ByteArray := prog_1_method_26_code
def yX1_inSlot : MethodName := ⟨RX1, "inSlot", "(I)LLeverHall$Deed;"⟩
abbrev cX1_atPlace : ByteArray := prog_1_method_27_code
def yX1_atPlace : MethodName := ⟨RX1, "atPlace", "(II)LLeverHall$Deed;"⟩
abbrev cX1_slotsInUse : ByteArray := prog_1_method_28_code
def yX1_slotsInUse : MethodName := ⟨RX1, "slotsInUse", "()I"⟩
abbrev cX1_emptyHall : ByteArray := prog_1_method_29_code
def yX1_emptyHall : MethodName := ⟨RX1, "emptyHall", "()V"⟩
abbrev cX1_emptyDeeds : ByteArray := prog_1_method_30_code
def yX1_emptyDeeds : MethodName := ⟨RX1, "emptyDeeds", "()V"⟩
abbrev cX1_namesWhatThereIs : ByteArray := prog_1_method_31_code
def yX1_namesWhatThereIs : MethodName := ⟨RX1, "namesWhatThereIs", "(IIII)Z"⟩
abbrev cX1_holdsFirst : ByteArray := prog_1_method_32_code
def yX1_holdsFirst : MethodName := ⟨RX1, "holdsFirst", "(I)Z"⟩
abbrev cX1_holdsSecond : ByteArray := prog_1_method_33_code
def yX1_holdsSecond : MethodName := ⟨RX1, "holdsSecond", "(I)Z"⟩
abbrev cX1_refuse : ByteArray := prog_1_method_34_code
def yX1_refuse : MethodName := ⟨RX1, "refuse", "(I)I"⟩
abbrev cX1_begin : ByteArray := prog_1_method_35_code
def yX1_begin : MethodName := ⟨RX1, "begin", "()V"⟩
abbrev cX1_noteFailure : ByteArray := prog_1_method_36_code
def yX1_noteFailure : MethodName := ⟨RX1, "noteFailure", "()V"⟩
abbrev cX1_fail : ByteArray := prog_1_method_37_code
def yX1_fail : MethodName := ⟨RX1, "fail", "(I)I"⟩
abbrev cX1_doLongestWaiting : ByteArray := prog_1_method_38_code
def yX1_doLongestWaiting : MethodName := ⟨RX1, "doLongestWaiting", "()V"⟩
abbrev cX1_doDeed : ByteArray := prog_1_method_39_code
def yX1_doDeed : MethodName := ⟨RX1, "doDeed", "(LLeverHall$Deed;II)I"⟩
abbrev cX1_doAlone : ByteArray := prog_1_method_40_code
def yX1_doAlone : MethodName := ⟨RX1, "doAlone", "(LLeverHall$Deed;I)I"⟩
abbrev cX1_doThroughOthers : ByteArray := prog_1_method_41_code
def yX1_doThroughOthers : MethodName := ⟨RX1, "doThroughOthers", "(LLeverHall$Deed;II)I"⟩
abbrev cX1_doSet : ByteArray := prog_1_method_42_code
def yX1_doSet : MethodName := ⟨RX1, "doSet", "(LLeverHall$Deed;I)I"⟩
abbrev cX1_doAdd : ByteArray := prog_1_method_43_code
def yX1_doAdd : MethodName := ⟨RX1, "doAdd", "(LLeverHall$Deed;I)I"⟩
abbrev cX1_doDraw : ByteArray := prog_1_method_44_code
def yX1_doDraw : MethodName := ⟨RX1, "doDraw", "(LLeverHall$Deed;I)I"⟩
abbrev cX1_doMark : ByteArray := prog_1_method_45_code
def yX1_doMark : MethodName := ⟨RX1, "doMark", "(LLeverHall$Deed;I)I"⟩
abbrev cX1_doThen : ByteArray := prog_1_method_46_code
def yX1_doThen : MethodName := ⟨RX1, "doThen", "(LLeverHall$Deed;II)I"⟩
abbrev cX1_doTimes : ByteArray := prog_1_method_47_code
def yX1_doTimes : MethodName := ⟨RX1, "doTimes", "(LLeverHall$Deed;II)I"⟩
abbrev cX1_doTry : ByteArray := prog_1_method_48_code
def yX1_doTry : MethodName := ⟨RX1, "doTry", "(LLeverHall$Deed;II)I"⟩
abbrev cX1_doLater : ByteArray := prog_1_method_49_code
def yX1_doLater : MethodName := ⟨RX1, "doLater", "(LLeverHall$Deed;I)I"⟩
abbrev cX1_doCount : ByteArray := prog_1_method_50_code
def yX1_doCount : MethodName := ⟨RX1, "doCount", "(LLeverHall$Deed;II)I"⟩
abbrev cX1_doPlaces : ByteArray := prog_1_method_51_code
def yX1_doPlaces : MethodName := ⟨RX1, "doPlaces", "(III)I"⟩
def RX2 : String := "LeverHallModel"
def TX2 : u_T := fun k => match k with
  | 0 => ("LeverHallModel", "basins", "[I", true)
  | 1 => ("LeverHallModel", "gauges", "I", false)
  | 2 => ("LeverHallModel", "wide", "[I", true)
  | 3 => ("LeverHallModel", "marks", "[I", true)
  | 4 => ("LeverHallModel", "gaugeNow", "[I", true)
  | 5 => ("LeverHallModel", "deeds", "I", false)
  | 6 => ("LeverHallModel", "kind", "[I", true)
  | 7 => ("LeverHallModel", "one", "[I", true)
  | 8 => ("LeverHallModel", "two", "[I", true)
  | 9 => ("LeverHallModel", "three", "[I", true)
  | 10 => ("LeverHallModel", "counts", "[I", true)
  | 11 => ("LeverHallModel", "slots", "[I", true)
  | 12 => ("LeverHallModel", "places", "[I", true)
  | 13 => ("LeverHallModel", "waiting", "I", false)
  | 14 => ("LeverHallModel", "waits", "[I", true)
  | 15 => ("LeverHallModel", "waitPower", "[I", true)
  | 16 => ("LeverHallModel", "steps", "I", false)
  | 17 => ("LeverHallModel", "failed", "I", false)
  | 18 => ("LeverHallModel", "failures", "I", false)
  | 19 => ("LeverHallModel", "pile", "I", false)
  | 20 => ("LeverHallModel", "deedAt", "[I", true)
  | 21 => ("LeverHallModel", "powerAt", "[I", true)
  | 22 => ("LeverHallModel", "stageAt", "[I", true)
  | 23 => ("LeverHallModel", "valueAt", "[I", true)
  | 24 => ("LeverHallModel", "fault", "I", false)
  | _ => ("LeverHallModel", "gave", "I", false)
def tyX2 : Nat → FieldType := fun k => match k with
  | 0 => .array .int
  | 1 => .int
  | 2 => .array .int
  | 3 => .array .int
  | 4 => .array .int
  | 5 => .int
  | 6 => .array .int
  | 7 => .array .int
  | 8 => .array .int
  | 9 => .array .int
  | 10 => .array .int
  | 11 => .array .int
  | 12 => .array .int
  | 13 => .int
  | 14 => .array .int
  | 15 => .array .int
  | 16 => .int
  | 17 => .int
  | 18 => .int
  | 19 => .int
  | 20 => .array .int
  | 21 => .array .int
  | 22 => .array .int
  | 23 => .array .int
  | 24 => .int
  | _ => .int
abbrev wsX20 : List Cond := u_ws RX2 TX2 26
theorem nmX2 : ∀ a, a < 26 → ∀ b, b < 26 → a ≠ b → (TX2 a).2.1 ≠ (TX2 b).2.1 := by decide +kernel
theorem tyX2_ok : ∀ k, k < 26 → parseFieldDescriptor (TX2 k).2.2.1 = some (tyX2 k) := by decide +kernel
abbrev cX2_init : ByteArray := prog_4_method_1_code
def yX2_init : MethodName := ⟨RX2, "<init>", "()V"⟩
abbrev cX2_reset : ByteArray := prog_4_method_2_code
def yX2_reset : MethodName := ⟨RX2, "reset", "()V"⟩
abbrev cX2_isIn : ByteArray := prog_4_method_3_code
def yX2_isIn : MethodName := ⟨RX2, "isIn", "(III)Z"⟩
abbrev cX2_isBasin : ByteArray := prog_4_method_4_code
def yX2_isBasin : MethodName := ⟨RX2, "isBasin", "(I)Z"⟩
abbrev cX2_isSlot : ByteArray := prog_4_method_5_code
def yX2_isSlot : MethodName := ⟨RX2, "isSlot", "(I)Z"⟩
abbrev cX2_fill : ByteArray := prog_4_method_6_code
def yX2_fill : MethodName := ⟨RX2, "fill", "(II)I"⟩
abbrev cX2_basin : ByteArray := prog_4_method_7_code
def yX2_basin : MethodName := ⟨RX2, "basin", "(I)I"⟩
abbrev cX2_gauge : ByteArray := prog_4_method_8_code
def yX2_gauge : MethodName := ⟨RX2, "gauge", "(II)I"⟩
abbrev cX2_mark : ByteArray := prog_4_method_9_code
def yX2_mark : MethodName := ⟨RX2, "mark", "(II)I"⟩
abbrev cX2_isRight : ByteArray := prog_4_method_10_code
def yX2_isRight : MethodName := ⟨RX2, "isRight", "(IIII)Z"⟩
abbrev cX2_holdsOne : ByteArray := prog_4_method_11_code
def yX2_holdsOne : MethodName := ⟨RX2, "holdsOne", "(I)Z"⟩
abbrev cX2_holdsTwo : ByteArray := prog_4_method_12_code
def yX2_holdsTwo : MethodName := ⟨RX2, "holdsTwo", "(I)Z"⟩
abbrev cX2_deed : ByteArray := prog_4_method_13_code
def yX2_deed : MethodName := ⟨RX2, "deed", "(IIIII)I"⟩
abbrev cX2_copy : ByteArray := prog_4_method_14_code
def yX2_copy : MethodName := ⟨RX2, "copy", "(II)I"⟩
abbrev cX2_drop : ByteArray := prog_4_method_15_code
def yX2_drop : MethodName := ⟨RX2, "drop", "(I)I"⟩
abbrev cX2_lever : ByteArray := prog_4_method_16_code
def yX2_lever : MethodName := ⟨RX2, "lever", "(III)I"⟩
abbrev cX2_same : ByteArray := prog_4_method_17_code
def yX2_same : MethodName := ⟨RX2, "same", "(II)I"⟩
abbrev cX2_count : ByteArray := prog_4_method_18_code
def yX2_count : MethodName := ⟨RX2, "count", "(I)I"⟩
abbrev cX2_enter : ByteArray := prog_4_method_19_code
def yX2_enter : MethodName := ⟨RX2, "enter", "(II)V"⟩
abbrev cX2_give : ByteArray := prog_4_method_20_code
def yX2_give : MethodName := ⟨RX2, "give", "(I)V"⟩
abbrev cX2_fall : ByteArray := prog_4_method_21_code
def yX2_fall : MethodName := ⟨RX2, "fall", "()V"⟩
abbrev cX2_draw : ByteArray := prog_4_method_22_code
def yX2_draw : MethodName := ⟨RX2, "draw", "(III)V"⟩
abbrev cX2_alone : ByteArray := prog_4_method_23_code
def yX2_alone : MethodName := ⟨RX2, "alone", "(II)V"⟩
abbrev cX2_later : ByteArray := prog_4_method_24_code
def yX2_later : MethodName := ⟨RX2, "later", "(II)V"⟩
abbrev cX2_goOn : ByteArray := prog_4_method_25_code
def yX2_goOn : MethodName := ⟨RX2, "goOn", "()V"⟩
abbrev cX2_doing : ByteArray := prog_4_method_26_code
def yX2_doing : MethodName := ⟨RX2, "doing", "(II)I"⟩
abbrev cX2_refuse : ByteArray := prog_4_method_27_code
def yX2_refuse : MethodName := ⟨RX2, "refuse", "(I)I"⟩
abbrev cX2_act : ByteArray := prog_4_method_28_code
def yX2_act : MethodName := ⟨RX2, "act", "(II)I"⟩
abbrev cX2_pull : ByteArray := prog_4_method_29_code
def yX2_pull : MethodName := ⟨RX2, "pull", "(II)I"⟩
abbrev cX2_tick : ByteArray := prog_4_method_30_code
def yX2_tick : MethodName := ⟨RX2, "tick", "()I"⟩
abbrev cX2_failed : ByteArray := prog_4_method_31_code
def yX2_failed : MethodName := ⟨RX2, "failed", "()I"⟩
abbrev cX2_told : ByteArray := prog_4_method_32_code
def yX2_told : MethodName := ⟨RX2, "told", "(I)I"⟩
abbrev cX2_clear : ByteArray := prog_4_method_33_code
def yX2_clear : MethodName := ⟨RX2, "clear", "()I"⟩
def RL : String := "LeverHallLaw"
abbrev cL_law : ByteArray := code
def yL_law : MethodName := ⟨RL, "law", "([I)Z"⟩
abbrev vwCl : List vw_C := [(RX0, TX0, 8), (RX1, TX1, 13), (RX2, TX2, 26)]

/-! words of the tables, by their places; wsA: those that a callee may ask -/
def wsA : List Cond := lw_tbl.filter goodWord
theorem wa_in : ∀ w ∈ wsA, w ∈ lw_tbl := fun _ h => (List.mem_filter.mp h).1
theorem gl_all : ∀ w ∈ wsA, goodWord w = true := fun _ h => (List.mem_filter.mp h).2
theorem wl_X0_0 : u_lay RX0 TX0 0 ∈ wsA := (List.mem_filter.mpr ⟨List.mem_of_getElem? (i := 174) (by decide +kernel), by decide +kernel⟩)
theorem wl_X0_1 : u_lay RX0 TX0 1 ∈ wsA := (List.mem_filter.mpr ⟨List.mem_of_getElem? (i := 176) (by decide +kernel), by decide +kernel⟩)
theorem wl_X0_2 : u_lay RX0 TX0 2 ∈ wsA := (List.mem_filter.mpr ⟨List.mem_of_getElem? (i := 178) (by decide +kernel), by decide +kernel⟩)
theorem wl_X0_3 : u_lay RX0 TX0 3 ∈ wsA := (List.mem_filter.mpr ⟨List.mem_of_getElem? (i := 180) (by decide +kernel), by decide +kernel⟩)
theorem wl_X0_4 : u_lay RX0 TX0 4 ∈ wsA := (List.mem_filter.mpr ⟨List.mem_of_getElem? (i := 182) (by decide +kernel), by decide +kernel⟩)
theorem wl_X0_5 : u_lay RX0 TX0 5 ∈ wsA := (List.mem_filter.mpr ⟨List.mem_of_getElem? (i := 184) (by decide +kernel), by decide +kernel⟩)
theorem wl_X0_6 : u_lay RX0 TX0 6 ∈ wsA := (List.mem_filter.mpr ⟨List.mem_of_getElem? (i := 186) (by decide +kernel), by decide +kernel⟩)
theorem wl_X0_7 : u_lay RX0 TX0 7 ∈ wsA := (List.mem_filter.mpr ⟨List.mem_of_getElem? (i := 188) (by decide +kernel), by decide +kernel⟩)
theorem inlX0 : ∀ w ∈ wsX00, w ∈ wsA := by
  intro w hw
  obtain ⟨k, hk, rfl⟩ := List.mem_map.mp hw
  have hk := List.mem_range.mp hk
  match k, hk with
  | 0, _ => exact wl_X0_0
  | 1, _ => exact wl_X0_1
  | 2, _ => exact wl_X0_2
  | 3, _ => exact wl_X0_3
  | 4, _ => exact wl_X0_4
  | 5, _ => exact wl_X0_5
  | 6, _ => exact wl_X0_6
  | 7, _ => exact wl_X0_7
  | k + 8, hk => exact absurd hk (by omega)
theorem wl_X1_0 : u_lay RX1 TX1 0 ∈ wsA := (List.mem_filter.mpr ⟨List.mem_of_getElem? (i := 65) (by decide +kernel), by decide +kernel⟩)
theorem wl_X1_1 : u_lay RX1 TX1 1 ∈ wsA := (List.mem_filter.mpr ⟨List.mem_of_getElem? (i := 67) (by decide +kernel), by decide +kernel⟩)
theorem wl_X1_2 : u_lay RX1 TX1 2 ∈ wsA := (List.mem_filter.mpr ⟨List.mem_of_getElem? (i := 69) (by decide +kernel), by decide +kernel⟩)
theorem wl_X1_3 : u_lay RX1 TX1 3 ∈ wsA := (List.mem_filter.mpr ⟨List.mem_of_getElem? (i := 71) (by decide +kernel), by decide +kernel⟩)
theorem wl_X1_4 : u_lay RX1 TX1 4 ∈ wsA := (List.mem_filter.mpr ⟨List.mem_of_getElem? (i := 73) (by decide +kernel), by decide +kernel⟩)
theorem wl_X1_5 : u_lay RX1 TX1 5 ∈ wsA := (List.mem_filter.mpr ⟨List.mem_of_getElem? (i := 75) (by decide +kernel), by decide +kernel⟩)
theorem wl_X1_6 : u_lay RX1 TX1 6 ∈ wsA := (List.mem_filter.mpr ⟨List.mem_of_getElem? (i := 77) (by decide +kernel), by decide +kernel⟩)
theorem wl_X1_7 : u_lay RX1 TX1 7 ∈ wsA := (List.mem_filter.mpr ⟨List.mem_of_getElem? (i := 79) (by decide +kernel), by decide +kernel⟩)
theorem wl_X1_8 : u_lay RX1 TX1 8 ∈ wsA := (List.mem_filter.mpr ⟨List.mem_of_getElem? (i := 81) (by decide +kernel), by decide +kernel⟩)
theorem wl_X1_9 : u_lay RX1 TX1 9 ∈ wsA := (List.mem_filter.mpr ⟨List.mem_of_getElem? (i := 83) (by decide +kernel), by decide +kernel⟩)
theorem wl_X1_10 : u_lay RX1 TX1 10 ∈ wsA := (List.mem_filter.mpr ⟨List.mem_of_getElem? (i := 85) (by decide +kernel), by decide +kernel⟩)
theorem wl_X1_11 : u_lay RX1 TX1 11 ∈ wsA := (List.mem_filter.mpr ⟨List.mem_of_getElem? (i := 87) (by decide +kernel), by decide +kernel⟩)
theorem wl_X1_12 : u_lay RX1 TX1 12 ∈ wsA := (List.mem_filter.mpr ⟨List.mem_of_getElem? (i := 89) (by decide +kernel), by decide +kernel⟩)
theorem inlX1 : ∀ w ∈ wsX10, w ∈ wsA := by
  intro w hw
  obtain ⟨k, hk, rfl⟩ := List.mem_map.mp hw
  have hk := List.mem_range.mp hk
  match k, hk with
  | 0, _ => exact wl_X1_0
  | 1, _ => exact wl_X1_1
  | 2, _ => exact wl_X1_2
  | 3, _ => exact wl_X1_3
  | 4, _ => exact wl_X1_4
  | 5, _ => exact wl_X1_5
  | 6, _ => exact wl_X1_6
  | 7, _ => exact wl_X1_7
  | 8, _ => exact wl_X1_8
  | 9, _ => exact wl_X1_9
  | 10, _ => exact wl_X1_10
  | 11, _ => exact wl_X1_11
  | 12, _ => exact wl_X1_12
  | k + 13, hk => exact absurd hk (by omega)
theorem wl_X2_0 : u_lay RX2 TX2 0 ∈ wsA := (List.mem_filter.mpr ⟨List.mem_of_getElem? (i := 359) (by decide +kernel), by decide +kernel⟩)
theorem wl_X2_1 : u_lay RX2 TX2 1 ∈ wsA := (List.mem_filter.mpr ⟨List.mem_of_getElem? (i := 361) (by decide +kernel), by decide +kernel⟩)
theorem wl_X2_2 : u_lay RX2 TX2 2 ∈ wsA := (List.mem_filter.mpr ⟨List.mem_of_getElem? (i := 363) (by decide +kernel), by decide +kernel⟩)
theorem wl_X2_3 : u_lay RX2 TX2 3 ∈ wsA := (List.mem_filter.mpr ⟨List.mem_of_getElem? (i := 365) (by decide +kernel), by decide +kernel⟩)
theorem wl_X2_4 : u_lay RX2 TX2 4 ∈ wsA := (List.mem_filter.mpr ⟨List.mem_of_getElem? (i := 367) (by decide +kernel), by decide +kernel⟩)
theorem wl_X2_5 : u_lay RX2 TX2 5 ∈ wsA := (List.mem_filter.mpr ⟨List.mem_of_getElem? (i := 369) (by decide +kernel), by decide +kernel⟩)
theorem wl_X2_6 : u_lay RX2 TX2 6 ∈ wsA := (List.mem_filter.mpr ⟨List.mem_of_getElem? (i := 371) (by decide +kernel), by decide +kernel⟩)
theorem wl_X2_7 : u_lay RX2 TX2 7 ∈ wsA := (List.mem_filter.mpr ⟨List.mem_of_getElem? (i := 373) (by decide +kernel), by decide +kernel⟩)
theorem wl_X2_8 : u_lay RX2 TX2 8 ∈ wsA := (List.mem_filter.mpr ⟨List.mem_of_getElem? (i := 375) (by decide +kernel), by decide +kernel⟩)
theorem wl_X2_9 : u_lay RX2 TX2 9 ∈ wsA := (List.mem_filter.mpr ⟨List.mem_of_getElem? (i := 377) (by decide +kernel), by decide +kernel⟩)
theorem wl_X2_10 : u_lay RX2 TX2 10 ∈ wsA := (List.mem_filter.mpr ⟨List.mem_of_getElem? (i := 379) (by decide +kernel), by decide +kernel⟩)
theorem wl_X2_11 : u_lay RX2 TX2 11 ∈ wsA := (List.mem_filter.mpr ⟨List.mem_of_getElem? (i := 381) (by decide +kernel), by decide +kernel⟩)
theorem wl_X2_12 : u_lay RX2 TX2 12 ∈ wsA := (List.mem_filter.mpr ⟨List.mem_of_getElem? (i := 383) (by decide +kernel), by decide +kernel⟩)
theorem wl_X2_13 : u_lay RX2 TX2 13 ∈ wsA := (List.mem_filter.mpr ⟨List.mem_of_getElem? (i := 385) (by decide +kernel), by decide +kernel⟩)
theorem wl_X2_14 : u_lay RX2 TX2 14 ∈ wsA := (List.mem_filter.mpr ⟨List.mem_of_getElem? (i := 387) (by decide +kernel), by decide +kernel⟩)
theorem wl_X2_15 : u_lay RX2 TX2 15 ∈ wsA := (List.mem_filter.mpr ⟨List.mem_of_getElem? (i := 389) (by decide +kernel), by decide +kernel⟩)
theorem wl_X2_16 : u_lay RX2 TX2 16 ∈ wsA := (List.mem_filter.mpr ⟨List.mem_of_getElem? (i := 391) (by decide +kernel), by decide +kernel⟩)
theorem wl_X2_17 : u_lay RX2 TX2 17 ∈ wsA := (List.mem_filter.mpr ⟨List.mem_of_getElem? (i := 393) (by decide +kernel), by decide +kernel⟩)
theorem wl_X2_18 : u_lay RX2 TX2 18 ∈ wsA := (List.mem_filter.mpr ⟨List.mem_of_getElem? (i := 395) (by decide +kernel), by decide +kernel⟩)
theorem wl_X2_19 : u_lay RX2 TX2 19 ∈ wsA := (List.mem_filter.mpr ⟨List.mem_of_getElem? (i := 397) (by decide +kernel), by decide +kernel⟩)
theorem wl_X2_20 : u_lay RX2 TX2 20 ∈ wsA := (List.mem_filter.mpr ⟨List.mem_of_getElem? (i := 399) (by decide +kernel), by decide +kernel⟩)
theorem wl_X2_21 : u_lay RX2 TX2 21 ∈ wsA := (List.mem_filter.mpr ⟨List.mem_of_getElem? (i := 401) (by decide +kernel), by decide +kernel⟩)
theorem wl_X2_22 : u_lay RX2 TX2 22 ∈ wsA := (List.mem_filter.mpr ⟨List.mem_of_getElem? (i := 403) (by decide +kernel), by decide +kernel⟩)
theorem wl_X2_23 : u_lay RX2 TX2 23 ∈ wsA := (List.mem_filter.mpr ⟨List.mem_of_getElem? (i := 405) (by decide +kernel), by decide +kernel⟩)
theorem wl_X2_24 : u_lay RX2 TX2 24 ∈ wsA := (List.mem_filter.mpr ⟨List.mem_of_getElem? (i := 407) (by decide +kernel), by decide +kernel⟩)
theorem wl_X2_25 : u_lay RX2 TX2 25 ∈ wsA := (List.mem_filter.mpr ⟨List.mem_of_getElem? (i := 409) (by decide +kernel), by decide +kernel⟩)
theorem inlX2 : ∀ w ∈ wsX20, w ∈ wsA := by
  intro w hw
  obtain ⟨k, hk, rfl⟩ := List.mem_map.mp hw
  have hk := List.mem_range.mp hk
  match k, hk with
  | 0, _ => exact wl_X2_0
  | 1, _ => exact wl_X2_1
  | 2, _ => exact wl_X2_2
  | 3, _ => exact wl_X2_3
  | 4, _ => exact wl_X2_4
  | 5, _ => exact wl_X2_5
  | 6, _ => exact wl_X2_6
  | 7, _ => exact wl_X2_7
  | 8, _ => exact wl_X2_8
  | 9, _ => exact wl_X2_9
  | 10, _ => exact wl_X2_10
  | 11, _ => exact wl_X2_11
  | 12, _ => exact wl_X2_12
  | 13, _ => exact wl_X2_13
  | 14, _ => exact wl_X2_14
  | 15, _ => exact wl_X2_15
  | 16, _ => exact wl_X2_16
  | 17, _ => exact wl_X2_17
  | 18, _ => exact wl_X2_18
  | 19, _ => exact wl_X2_19
  | 20, _ => exact wl_X2_20
  | 21, _ => exact wl_X2_21
  | 22, _ => exact wl_X2_22
  | 23, _ => exact wl_X2_23
  | 24, _ => exact wl_X2_24
  | 25, _ => exact wl_X2_25
  | k + 26, hk => exact absurd hk (by omega)
theorem wi_X0 : Cond.initialized RX0 ∈ wsA := (List.mem_filter.mpr ⟨List.mem_of_getElem? (i := 39) (by decide +kernel), by decide +kernel⟩)
theorem wi_X1 : Cond.initialized RX1 ∈ wsA := (List.mem_filter.mpr ⟨List.mem_of_getElem? (i := 37) (by decide +kernel), by decide +kernel⟩)
theorem wi_X2 : Cond.initialized RX2 ∈ wsA := (List.mem_filter.mpr ⟨List.mem_of_getElem? (i := 38) (by decide +kernel), by decide +kernel⟩)
theorem wi_L : Cond.initialized RL ∈ wsA := (List.mem_filter.mpr ⟨List.mem_of_getElem? (i := 36) (by decide +kernel), by decide +kernel⟩)
theorem wn_X1 : Cond.instantiable RX1 13 ∈ wsA := (List.mem_filter.mpr ⟨List.mem_of_getElem? (i := 41) (by decide +kernel), by decide +kernel⟩)
theorem wn_X0 : Cond.instantiable RX0 8 ∈ wsA := (List.mem_filter.mpr ⟨List.mem_of_getElem? (i := 153) (by decide +kernel), by decide +kernel⟩)
theorem wn_X2 : Cond.instantiable RX2 26 ∈ wsA := (List.mem_filter.mpr ⟨List.mem_of_getElem? (i := 324) (by decide +kernel), by decide +kernel⟩)
theorem wc_L_7 : Cond.classLink RL 7 RX1 ∈ wsA := (List.mem_filter.mpr ⟨List.mem_of_getElem? (i := 40) (by decide +kernel), by decide +kernel⟩)
theorem wc_X1_13 : Cond.classLink RX1 13 "[I" ∈ wsA := (List.mem_filter.mpr ⟨List.mem_of_getElem? (i := 48) (by decide +kernel), by decide +kernel⟩)
theorem wc_X1_18 : Cond.classLink RX1 18 RX0 ∈ wsA := (List.mem_filter.mpr ⟨List.mem_of_getElem? (i := 50) (by decide +kernel), by decide +kernel⟩)
theorem wf_X1_9 : Cond.fieldLink RX1 9 "LeverHall" "basins" "[I" ∈ wsA := (List.mem_filter.mpr ⟨List.mem_of_getElem? (i := 52) (by decide +kernel), by decide +kernel⟩)
theorem wf_X1_14 : Cond.fieldLink RX1 14 "LeverHall" "gauges" "[[I" ∈ wsA := (List.mem_filter.mpr ⟨List.mem_of_getElem? (i := 53) (by decide +kernel), by decide +kernel⟩)
theorem wf_X1_20 : Cond.fieldLink RX1 20 "LeverHall" "slots" "[LLeverHall$Deed;" ∈ wsA := (List.mem_filter.mpr ⟨List.mem_of_getElem? (i := 54) (by decide +kernel), by decide +kernel⟩)
theorem wf_X1_24 : Cond.fieldLink RX1 24 "LeverHall" "places" "[LLeverHall$Deed;" ∈ wsA := (List.mem_filter.mpr ⟨List.mem_of_getElem? (i := 55) (by decide +kernel), by decide +kernel⟩)
theorem wf_X1_27 : Cond.fieldLink RX1 27 "LeverHall" "queue" "[LLeverHall$Deed;" ∈ wsA := (List.mem_filter.mpr ⟨List.mem_of_getElem? (i := 56) (by decide +kernel), by decide +kernel⟩)
theorem wf_X1_30 : Cond.fieldLink RX1 30 "LeverHall" "powers" "[I" ∈ wsA := (List.mem_filter.mpr ⟨List.mem_of_getElem? (i := 57) (by decide +kernel), by decide +kernel⟩)
theorem wf_X1_33 : Cond.fieldLink RX1 33 "LeverHall" "head" "I" ∈ wsA := (List.mem_filter.mpr ⟨List.mem_of_getElem? (i := 58) (by decide +kernel), by decide +kernel⟩)
theorem wf_X1_37 : Cond.fieldLink RX1 37 "LeverHall" "waiting" "I" ∈ wsA := (List.mem_filter.mpr ⟨List.mem_of_getElem? (i := 59) (by decide +kernel), by decide +kernel⟩)
theorem wf_X1_40 : Cond.fieldLink RX1 40 "LeverHall" "made" "I" ∈ wsA := (List.mem_filter.mpr ⟨List.mem_of_getElem? (i := 60) (by decide +kernel), by decide +kernel⟩)
theorem wf_X1_43 : Cond.fieldLink RX1 43 "LeverHall" "steps" "I" ∈ wsA := (List.mem_filter.mpr ⟨List.mem_of_getElem? (i := 61) (by decide +kernel), by decide +kernel⟩)
theorem wf_X1_46 : Cond.fieldLink RX1 46 "LeverHall" "failures" "I" ∈ wsA := (List.mem_filter.mpr ⟨List.mem_of_getElem? (i := 62) (by decide +kernel), by decide +kernel⟩)
theorem wf_X1_49 : Cond.fieldLink RX1 49 "LeverHall" "why" "I" ∈ wsA := (List.mem_filter.mpr ⟨List.mem_of_getElem? (i := 63) (by decide +kernel), by decide +kernel⟩)
theorem wf_X1_52 : Cond.fieldLink RX1 52 "LeverHall" "latest" "I" ∈ wsA := (List.mem_filter.mpr ⟨List.mem_of_getElem? (i := 64) (by decide +kernel), by decide +kernel⟩)
theorem wf_X0_13 : Cond.fieldLink RX0 13 "LeverHall$Deed" "kind" "I" ∈ wsA := (List.mem_filter.mpr ⟨List.mem_of_getElem? (i := 158) (by decide +kernel), by decide +kernel⟩)
theorem wf_X0_16 : Cond.fieldLink RX0 16 "LeverHall$Deed" "x" "I" ∈ wsA := (List.mem_filter.mpr ⟨List.mem_of_getElem? (i := 160) (by decide +kernel), by decide +kernel⟩)
theorem wf_X0_19 : Cond.fieldLink RX0 19 "LeverHall$Deed" "y" "I" ∈ wsA := (List.mem_filter.mpr ⟨List.mem_of_getElem? (i := 162) (by decide +kernel), by decide +kernel⟩)
theorem wf_X0_22 : Cond.fieldLink RX0 22 "LeverHall$Deed" "z" "I" ∈ wsA := (List.mem_filter.mpr ⟨List.mem_of_getElem? (i := 164) (by decide +kernel), by decide +kernel⟩)
theorem wf_X0_25 : Cond.fieldLink RX0 25 "LeverHall$Deed" "first" "LLeverHall$Deed;" ∈ wsA := (List.mem_filter.mpr ⟨List.mem_of_getElem? (i := 166) (by decide +kernel), by decide +kernel⟩)
theorem wf_X0_29 : Cond.fieldLink RX0 29 "LeverHall$Deed" "second" "LLeverHall$Deed;" ∈ wsA := (List.mem_filter.mpr ⟨List.mem_of_getElem? (i := 168) (by decide +kernel), by decide +kernel⟩)
theorem wf_X0_32 : Cond.fieldLink RX0 32 "LeverHall$Deed" "gauge" "[I" ∈ wsA := (List.mem_filter.mpr ⟨List.mem_of_getElem? (i := 170) (by decide +kernel), by decide +kernel⟩)
theorem wf_X0_7 : Cond.fieldLink RX0 7 "LeverHall$Deed" "times" "I" ∈ wsA := (List.mem_filter.mpr ⟨List.mem_of_getElem? (i := 172) (by decide +kernel), by decide +kernel⟩)
theorem wc_L_10 : Cond.classLink RL 10 RX2 ∈ wsA := (List.mem_filter.mpr ⟨List.mem_of_getElem? (i := 323) (by decide +kernel), by decide +kernel⟩)
theorem wf_X2_7 : Cond.fieldLink RX2 7 "LeverHallModel" "basins" "[I" ∈ wsA := (List.mem_filter.mpr ⟨List.mem_of_getElem? (i := 333) (by decide +kernel), by decide +kernel⟩)
theorem wf_X2_64 : Cond.fieldLink RX2 64 "LeverHallModel" "gauges" "I" ∈ wsA := (List.mem_filter.mpr ⟨List.mem_of_getElem? (i := 334) (by decide +kernel), by decide +kernel⟩)
theorem wf_X2_13 : Cond.fieldLink RX2 13 "LeverHallModel" "wide" "[I" ∈ wsA := (List.mem_filter.mpr ⟨List.mem_of_getElem? (i := 335) (by decide +kernel), by decide +kernel⟩)
theorem wf_X2_16 : Cond.fieldLink RX2 16 "LeverHallModel" "marks" "[I" ∈ wsA := (List.mem_filter.mpr ⟨List.mem_of_getElem? (i := 336) (by decide +kernel), by decide +kernel⟩)
theorem wf_X2_19 : Cond.fieldLink RX2 19 "LeverHallModel" "gaugeNow" "[I" ∈ wsA := (List.mem_filter.mpr ⟨List.mem_of_getElem? (i := 337) (by decide +kernel), by decide +kernel⟩)
theorem wf_X2_68 : Cond.fieldLink RX2 68 "LeverHallModel" "deeds" "I" ∈ wsA := (List.mem_filter.mpr ⟨List.mem_of_getElem? (i := 338) (by decide +kernel), by decide +kernel⟩)
theorem wf_X2_22 : Cond.fieldLink RX2 22 "LeverHallModel" "kind" "[I" ∈ wsA := (List.mem_filter.mpr ⟨List.mem_of_getElem? (i := 339) (by decide +kernel), by decide +kernel⟩)
theorem wf_X2_25 : Cond.fieldLink RX2 25 "LeverHallModel" "one" "[I" ∈ wsA := (List.mem_filter.mpr ⟨List.mem_of_getElem? (i := 340) (by decide +kernel), by decide +kernel⟩)
theorem wf_X2_28 : Cond.fieldLink RX2 28 "LeverHallModel" "two" "[I" ∈ wsA := (List.mem_filter.mpr ⟨List.mem_of_getElem? (i := 341) (by decide +kernel), by decide +kernel⟩)
theorem wf_X2_31 : Cond.fieldLink RX2 31 "LeverHallModel" "three" "[I" ∈ wsA := (List.mem_filter.mpr ⟨List.mem_of_getElem? (i := 342) (by decide +kernel), by decide +kernel⟩)
theorem wf_X2_34 : Cond.fieldLink RX2 34 "LeverHallModel" "counts" "[I" ∈ wsA := (List.mem_filter.mpr ⟨List.mem_of_getElem? (i := 343) (by decide +kernel), by decide +kernel⟩)
theorem wf_X2_37 : Cond.fieldLink RX2 37 "LeverHallModel" "slots" "[I" ∈ wsA := (List.mem_filter.mpr ⟨List.mem_of_getElem? (i := 344) (by decide +kernel), by decide +kernel⟩)
theorem wf_X2_40 : Cond.fieldLink RX2 40 "LeverHallModel" "places" "[I" ∈ wsA := (List.mem_filter.mpr ⟨List.mem_of_getElem? (i := 345) (by decide +kernel), by decide +kernel⟩)
theorem wf_X2_71 : Cond.fieldLink RX2 71 "LeverHallModel" "waiting" "I" ∈ wsA := (List.mem_filter.mpr ⟨List.mem_of_getElem? (i := 346) (by decide +kernel), by decide +kernel⟩)
theorem wf_X2_43 : Cond.fieldLink RX2 43 "LeverHallModel" "waits" "[I" ∈ wsA := (List.mem_filter.mpr ⟨List.mem_of_getElem? (i := 347) (by decide +kernel), by decide +kernel⟩)
theorem wf_X2_46 : Cond.fieldLink RX2 46 "LeverHallModel" "waitPower" "[I" ∈ wsA := (List.mem_filter.mpr ⟨List.mem_of_getElem? (i := 348) (by decide +kernel), by decide +kernel⟩)
theorem wf_X2_74 : Cond.fieldLink RX2 74 "LeverHallModel" "steps" "I" ∈ wsA := (List.mem_filter.mpr ⟨List.mem_of_getElem? (i := 349) (by decide +kernel), by decide +kernel⟩)
theorem wf_X2_77 : Cond.fieldLink RX2 77 "LeverHallModel" "failed" "I" ∈ wsA := (List.mem_filter.mpr ⟨List.mem_of_getElem? (i := 350) (by decide +kernel), by decide +kernel⟩)
theorem wf_X2_80 : Cond.fieldLink RX2 80 "LeverHallModel" "failures" "I" ∈ wsA := (List.mem_filter.mpr ⟨List.mem_of_getElem? (i := 351) (by decide +kernel), by decide +kernel⟩)
theorem wf_X2_107 : Cond.fieldLink RX2 107 "LeverHallModel" "pile" "I" ∈ wsA := (List.mem_filter.mpr ⟨List.mem_of_getElem? (i := 352) (by decide +kernel), by decide +kernel⟩)
theorem wf_X2_49 : Cond.fieldLink RX2 49 "LeverHallModel" "deedAt" "[I" ∈ wsA := (List.mem_filter.mpr ⟨List.mem_of_getElem? (i := 353) (by decide +kernel), by decide +kernel⟩)
theorem wf_X2_52 : Cond.fieldLink RX2 52 "LeverHallModel" "powerAt" "[I" ∈ wsA := (List.mem_filter.mpr ⟨List.mem_of_getElem? (i := 354) (by decide +kernel), by decide +kernel⟩)
theorem wf_X2_55 : Cond.fieldLink RX2 55 "LeverHallModel" "stageAt" "[I" ∈ wsA := (List.mem_filter.mpr ⟨List.mem_of_getElem? (i := 355) (by decide +kernel), by decide +kernel⟩)
theorem wf_X2_58 : Cond.fieldLink RX2 58 "LeverHallModel" "valueAt" "[I" ∈ wsA := (List.mem_filter.mpr ⟨List.mem_of_getElem? (i := 356) (by decide +kernel), by decide +kernel⟩)
theorem wf_X2_104 : Cond.fieldLink RX2 104 "LeverHallModel" "fault" "I" ∈ wsA := (List.mem_filter.mpr ⟨List.mem_of_getElem? (i := 357) (by decide +kernel), by decide +kernel⟩)
theorem wf_X2_110 : Cond.fieldLink RX2 110 "LeverHallModel" "gave" "I" ∈ wsA := (List.mem_filter.mpr ⟨List.mem_of_getElem? (i := 358) (by decide +kernel), by decide +kernel⟩)
theorem wo_i : Cond.instanceMethod objectInit ∈ wsA := (List.mem_filter.mpr ⟨List.mem_of_getElem? (i := 46) (by decide +kernel), by decide +kernel⟩)
theorem wo_c : Cond.code objectInit ⟨#[0xb1]⟩ 1 none ∈ wsA := (List.mem_filter.mpr ⟨List.mem_of_getElem? (i := 47) (by decide +kernel), by decide +kernel⟩)
theorem wa_I : Cond.arrayClass .int ∈ wsA := (List.mem_filter.mpr ⟨List.mem_of_getElem? (i := 92) (by decide +kernel), rfl⟩)
abbrev kX1_init : Cond := .code yX1_init cX1_init 1 none
set_option maxRecDepth 20000 in
theorem wk_X1_init : kX1_init ∈ wsA := (List.mem_filter.mpr ⟨List.mem_of_getElem? (i := 44) rfl, by decide +kernel⟩)
abbrev kX1_fill : Cond := .code yX1_fill cX1_fill 4 (some (.int))
set_option maxRecDepth 20000 in
theorem wk_X1_fill : kX1_fill ∈ wsA := (List.mem_filter.mpr ⟨List.mem_of_getElem? (i := 96) rfl, by decide +kernel⟩)
abbrev kX1_heldBy : Cond := .code yX1_heldBy cX1_heldBy 2 (some (.int))
set_option maxRecDepth 20000 in
theorem wk_X1_heldBy : kX1_heldBy ∈ wsA := (List.mem_filter.mpr ⟨List.mem_of_getElem? (i := 100) rfl, by decide +kernel⟩)
abbrev kX1_isBasin : Cond := .code yX1_isBasin cX1_isBasin 1 (some (.boolean))
set_option maxRecDepth 20000 in
theorem wk_X1_isBasin : kX1_isBasin ∈ wsA := (List.mem_filter.mpr ⟨List.mem_of_getElem? (i := 103) rfl, by decide +kernel⟩)
abbrev kX1_pour : Cond := .code yX1_pour cX1_pour 3 none
set_option maxRecDepth 20000 in
theorem wk_X1_pour : kX1_pour ∈ wsA := (List.mem_filter.mpr ⟨List.mem_of_getElem? (i := 107) rfl, by decide +kernel⟩)
abbrev kX1_basin : Cond := .code yX1_basin cX1_basin 2 (some (.int))
set_option maxRecDepth 20000 in
theorem wk_X1_basin : kX1_basin ∈ wsA := (List.mem_filter.mpr ⟨List.mem_of_getElem? (i := 111) rfl, by decide +kernel⟩)
abbrev kX1_gauge : Cond := .code yX1_gauge cX1_gauge 3 (some (.int))
set_option maxRecDepth 20000 in
theorem wk_X1_gauge : kX1_gauge ∈ wsA := (List.mem_filter.mpr ⟨List.mem_of_getElem? (i := 115) rfl, by decide +kernel⟩)
abbrev kX1_isGauge : Cond := .code yX1_isGauge cX1_isGauge 1 (some (.boolean))
set_option maxRecDepth 20000 in
theorem wk_X1_isGauge : kX1_isGauge ∈ wsA := (List.mem_filter.mpr ⟨List.mem_of_getElem? (i := 118) rfl, by decide +kernel⟩)
abbrev kX1_mark : Cond := .code yX1_mark cX1_mark 4 (some (.int))
set_option maxRecDepth 20000 in
theorem wk_X1_mark : kX1_mark ∈ wsA := (List.mem_filter.mpr ⟨List.mem_of_getElem? (i := 122) rfl, by decide +kernel⟩)
abbrev kX1_gaugeNow : Cond := .code yX1_gaugeNow cX1_gaugeNow 2 (some (.array .int))
set_option maxRecDepth 20000 in
theorem wk_X1_gaugeNow : kX1_gaugeNow ∈ wsA := (List.mem_filter.mpr ⟨List.mem_of_getElem? (i := 126) rfl, by decide +kernel⟩)
abbrev kX1_hasMark : Cond := .code yX1_hasMark cX1_hasMark 2 (some (.boolean))
set_option maxRecDepth 20000 in
theorem wk_X1_hasMark : kX1_hasMark ∈ wsA := (List.mem_filter.mpr ⟨List.mem_of_getElem? (i := 129) rfl, by decide +kernel⟩)
abbrev kX1_deed : Cond := .code yX1_deed cX1_deed 10 (some (.int))
set_option maxRecDepth 20000 in
theorem wk_X1_deed : kX1_deed ∈ wsA := (List.mem_filter.mpr ⟨List.mem_of_getElem? (i := 133) rfl, by decide +kernel⟩)
abbrev kX1_isSlot : Cond := .code yX1_isSlot cX1_isSlot 1 (some (.boolean))
set_option maxRecDepth 20000 in
theorem wk_X1_isSlot : kX1_isSlot ∈ wsA := (List.mem_filter.mpr ⟨List.mem_of_getElem? (i := 136) rfl, by decide +kernel⟩)
abbrev kX1_namesWhatThereIs : Cond := .code yX1_namesWhatThereIs cX1_namesWhatThereIs 4 (some (.boolean))
set_option maxRecDepth 20000 in
theorem wk_X1_namesWhatThereIs : kX1_namesWhatThereIs ∈ wsA := (List.mem_filter.mpr ⟨List.mem_of_getElem? (i := 139) rfl, by decide +kernel⟩)
abbrev kX1_isLever : Cond := .code yX1_isLever cX1_isLever 1 (some (.boolean))
set_option maxRecDepth 20000 in
theorem wk_X1_isLever : kX1_isLever ∈ wsA := (List.mem_filter.mpr ⟨List.mem_of_getElem? (i := 142) rfl, by decide +kernel⟩)
abbrev kX1_holdsFirst : Cond := .code yX1_holdsFirst cX1_holdsFirst 1 (some (.boolean))
set_option maxRecDepth 20000 in
theorem wk_X1_holdsFirst : kX1_holdsFirst ∈ wsA := (List.mem_filter.mpr ⟨List.mem_of_getElem? (i := 145) rfl, by decide +kernel⟩)
abbrev kX1_inSlot : Cond := .code yX1_inSlot cX1_inSlot 2 (some (.object "LeverHall$Deed"))
set_option maxRecDepth 20000 in
theorem wk_X1_inSlot : kX1_inSlot ∈ wsA := (List.mem_filter.mpr ⟨List.mem_of_getElem? (i := 149) rfl, by decide +kernel⟩)
abbrev kX1_holdsSecond : Cond := .code yX1_holdsSecond cX1_holdsSecond 1 (some (.boolean))
set_option maxRecDepth 20000 in
theorem wk_X1_holdsSecond : kX1_holdsSecond ∈ wsA := (List.mem_filter.mpr ⟨List.mem_of_getElem? (i := 152) rfl, by decide +kernel⟩)
abbrev kX0_init : Cond := .code yX0_init cX0_init 8 none
set_option maxRecDepth 20000 in
theorem wk_X0_init : kX0_init ∈ wsA := (List.mem_filter.mpr ⟨List.mem_of_getElem? (i := 156) rfl, by decide +kernel⟩)
abbrev kX1_copy : Cond := .code yX1_copy cX1_copy 3 (some (.int))
set_option maxRecDepth 20000 in
theorem wk_X1_copy : kX1_copy ∈ wsA := (List.mem_filter.mpr ⟨List.mem_of_getElem? (i := 194) rfl, by decide +kernel⟩)
abbrev kX1_drop : Cond := .code yX1_drop cX1_drop 2 (some (.int))
set_option maxRecDepth 20000 in
theorem wk_X1_drop : kX1_drop ∈ wsA := (List.mem_filter.mpr ⟨List.mem_of_getElem? (i := 198) rfl, by decide +kernel⟩)
abbrev kX1_lever : Cond := .code yX1_lever cX1_lever 5 (some (.int))
set_option maxRecDepth 20000 in
theorem wk_X1_lever : kX1_lever ∈ wsA := (List.mem_filter.mpr ⟨List.mem_of_getElem? (i := 202) rfl, by decide +kernel⟩)
abbrev kX1_same : Cond := .code yX1_same cX1_same 3 (some (.int))
set_option maxRecDepth 20000 in
theorem wk_X1_same : kX1_same ∈ wsA := (List.mem_filter.mpr ⟨List.mem_of_getElem? (i := 206) rfl, by decide +kernel⟩)
abbrev kX1_count : Cond := .code yX1_count cX1_count 3 (some (.int))
set_option maxRecDepth 20000 in
theorem wk_X1_count : kX1_count ∈ wsA := (List.mem_filter.mpr ⟨List.mem_of_getElem? (i := 210) rfl, by decide +kernel⟩)
abbrev kX1_act : Cond := .code yX1_act cX1_act 4 (some (.int))
set_option maxRecDepth 20000 in
theorem wk_X1_act : kX1_act ∈ wsA := (List.mem_filter.mpr ⟨List.mem_of_getElem? (i := 214) rfl, by decide +kernel⟩)
abbrev kX1_refuse : Cond := .code yX1_refuse cX1_refuse 2 (some (.int))
set_option maxRecDepth 20000 in
theorem wk_X1_refuse : kX1_refuse ∈ wsA := (List.mem_filter.mpr ⟨List.mem_of_getElem? (i := 218) rfl, by decide +kernel⟩)
abbrev kX1_begin : Cond := .code yX1_begin cX1_begin 1 none
set_option maxRecDepth 20000 in
theorem wk_X1_begin : kX1_begin ∈ wsA := (List.mem_filter.mpr ⟨List.mem_of_getElem? (i := 222) rfl, by decide +kernel⟩)
abbrev kX1_doDeed : Cond := .code yX1_doDeed cX1_doDeed 4 (some (.int))
set_option maxRecDepth 20000 in
theorem wk_X1_doDeed : kX1_doDeed ∈ wsA := (List.mem_filter.mpr ⟨List.mem_of_getElem? (i := 226) rfl, by decide +kernel⟩)
abbrev kX1_fail : Cond := .code yX1_fail cX1_fail 2 (some (.int))
set_option maxRecDepth 20000 in
theorem wk_X1_fail : kX1_fail ∈ wsA := (List.mem_filter.mpr ⟨List.mem_of_getElem? (i := 230) rfl, by decide +kernel⟩)
abbrev kX1_doAlone : Cond := .code yX1_doAlone cX1_doAlone 3 (some (.int))
set_option maxRecDepth 20000 in
theorem wk_X1_doAlone : kX1_doAlone ∈ wsA := (List.mem_filter.mpr ⟨List.mem_of_getElem? (i := 234) rfl, by decide +kernel⟩)
abbrev kX1_doSet : Cond := .code yX1_doSet cX1_doSet 4 (some (.int))
set_option maxRecDepth 20000 in
theorem wk_X1_doSet : kX1_doSet ∈ wsA := (List.mem_filter.mpr ⟨List.mem_of_getElem? (i := 238) rfl, by decide +kernel⟩)
abbrev kX1_doAdd : Cond := .code yX1_doAdd cX1_doAdd 3 (some (.int))
set_option maxRecDepth 20000 in
theorem wk_X1_doAdd : kX1_doAdd ∈ wsA := (List.mem_filter.mpr ⟨List.mem_of_getElem? (i := 242) rfl, by decide +kernel⟩)
abbrev kX1_doDraw : Cond := .code yX1_doDraw cX1_doDraw 3 (some (.int))
set_option maxRecDepth 20000 in
theorem wk_X1_doDraw : kX1_doDraw ∈ wsA := (List.mem_filter.mpr ⟨List.mem_of_getElem? (i := 246) rfl, by decide +kernel⟩)
abbrev kX1_doMark : Cond := .code yX1_doMark cX1_doMark 4 (some (.int))
set_option maxRecDepth 20000 in
theorem wk_X1_doMark : kX1_doMark ∈ wsA := (List.mem_filter.mpr ⟨List.mem_of_getElem? (i := 250) rfl, by decide +kernel⟩)
abbrev kX1_doThroughOthers : Cond := .code yX1_doThroughOthers cX1_doThroughOthers 4 (some (.int))
set_option maxRecDepth 20000 in
theorem wk_X1_doThroughOthers : kX1_doThroughOthers ∈ wsA := (List.mem_filter.mpr ⟨List.mem_of_getElem? (i := 254) rfl, by decide +kernel⟩)
abbrev kX1_doThen : Cond := .code yX1_doThen cX1_doThen 5 (some (.int))
set_option maxRecDepth 20000 in
theorem wk_X1_doThen : kX1_doThen ∈ wsA := (List.mem_filter.mpr ⟨List.mem_of_getElem? (i := 258) rfl, by decide +kernel⟩)
abbrev kX1_doTimes : Cond := .code yX1_doTimes cX1_doTimes 6 (some (.int))
set_option maxRecDepth 20000 in
theorem wk_X1_doTimes : kX1_doTimes ∈ wsA := (List.mem_filter.mpr ⟨List.mem_of_getElem? (i := 262) rfl, by decide +kernel⟩)
abbrev kX1_doTry : Cond := .code yX1_doTry cX1_doTry 5 (some (.int))
set_option maxRecDepth 20000 in
theorem wk_X1_doTry : kX1_doTry ∈ wsA := (List.mem_filter.mpr ⟨List.mem_of_getElem? (i := 266) rfl, by decide +kernel⟩)
abbrev kX1_doLater : Cond := .code yX1_doLater cX1_doLater 4 (some (.int))
set_option maxRecDepth 20000 in
theorem wk_X1_doLater : kX1_doLater ∈ wsA := (List.mem_filter.mpr ⟨List.mem_of_getElem? (i := 270) rfl, by decide +kernel⟩)
abbrev kX1_doCount : Cond := .code yX1_doCount cX1_doCount 4 (some (.int))
set_option maxRecDepth 20000 in
theorem wk_X1_doCount : kX1_doCount ∈ wsA := (List.mem_filter.mpr ⟨List.mem_of_getElem? (i := 274) rfl, by decide +kernel⟩)
abbrev kX1_doPlaces : Cond := .code yX1_doPlaces cX1_doPlaces 6 (some (.int))
set_option maxRecDepth 20000 in
theorem wk_X1_doPlaces : kX1_doPlaces ∈ wsA := (List.mem_filter.mpr ⟨List.mem_of_getElem? (i := 278) rfl, by decide +kernel⟩)
abbrev kX1_atPlace : Cond := .code yX1_atPlace cX1_atPlace 3 (some (.object "LeverHall$Deed"))
set_option maxRecDepth 20000 in
theorem wk_X1_atPlace : kX1_atPlace ∈ wsA := (List.mem_filter.mpr ⟨List.mem_of_getElem? (i := 282) rfl, by decide +kernel⟩)
abbrev kX1_noteFailure : Cond := .code yX1_noteFailure cX1_noteFailure 1 none
set_option maxRecDepth 20000 in
theorem wk_X1_noteFailure : kX1_noteFailure ∈ wsA := (List.mem_filter.mpr ⟨List.mem_of_getElem? (i := 286) rfl, by decide +kernel⟩)
abbrev kX1_pull : Cond := .code yX1_pull cX1_pull 4 (some (.int))
set_option maxRecDepth 20000 in
theorem wk_X1_pull : kX1_pull ∈ wsA := (List.mem_filter.mpr ⟨List.mem_of_getElem? (i := 290) rfl, by decide +kernel⟩)
abbrev kX1_tick : Cond := .code yX1_tick cX1_tick 4 (some (.int))
set_option maxRecDepth 20000 in
theorem wk_X1_tick : kX1_tick ∈ wsA := (List.mem_filter.mpr ⟨List.mem_of_getElem? (i := 294) rfl, by decide +kernel⟩)
abbrev kX1_doLongestWaiting : Cond := .code yX1_doLongestWaiting cX1_doLongestWaiting 3 none
set_option maxRecDepth 20000 in
theorem wk_X1_doLongestWaiting : kX1_doLongestWaiting ∈ wsA := (List.mem_filter.mpr ⟨List.mem_of_getElem? (i := 298) rfl, by decide +kernel⟩)
abbrev kX1_failed : Cond := .code yX1_failed cX1_failed 1 (some (.int))
set_option maxRecDepth 20000 in
theorem wk_X1_failed : kX1_failed ∈ wsA := (List.mem_filter.mpr ⟨List.mem_of_getElem? (i := 302) rfl, by decide +kernel⟩)
abbrev kX1_told : Cond := .code yX1_told cX1_told 2 (some (.int))
set_option maxRecDepth 20000 in
theorem wk_X1_told : kX1_told ∈ wsA := (List.mem_filter.mpr ⟨List.mem_of_getElem? (i := 306) rfl, by decide +kernel⟩)
abbrev kX1_slotsInUse : Cond := .code yX1_slotsInUse cX1_slotsInUse 3 (some (.int))
set_option maxRecDepth 20000 in
theorem wk_X1_slotsInUse : kX1_slotsInUse ∈ wsA := (List.mem_filter.mpr ⟨List.mem_of_getElem? (i := 310) rfl, by decide +kernel⟩)
abbrev kX1_clear : Cond := .code yX1_clear cX1_clear 2 (some (.int))
set_option maxRecDepth 20000 in
theorem wk_X1_clear : kX1_clear ∈ wsA := (List.mem_filter.mpr ⟨List.mem_of_getElem? (i := 314) rfl, by decide +kernel⟩)
abbrev kX1_emptyHall : Cond := .code yX1_emptyHall cX1_emptyHall 2 none
set_option maxRecDepth 20000 in
theorem wk_X1_emptyHall : kX1_emptyHall ∈ wsA := (List.mem_filter.mpr ⟨List.mem_of_getElem? (i := 318) rfl, by decide +kernel⟩)
abbrev kX1_emptyDeeds : Cond := .code yX1_emptyDeeds cX1_emptyDeeds 2 none
set_option maxRecDepth 20000 in
theorem wk_X1_emptyDeeds : kX1_emptyDeeds ∈ wsA := (List.mem_filter.mpr ⟨List.mem_of_getElem? (i := 322) rfl, by decide +kernel⟩)
abbrev kX2_init : Cond := .code yX2_init cX2_init 1 none
set_option maxRecDepth 20000 in
theorem wk_X2_init : kX2_init ∈ wsA := (List.mem_filter.mpr ⟨List.mem_of_getElem? (i := 327) rfl, by decide +kernel⟩)
abbrev kX2_reset : Cond := .code yX2_reset cX2_reset 2 none
set_option maxRecDepth 20000 in
theorem wk_X2_reset : kX2_reset ∈ wsA := (List.mem_filter.mpr ⟨List.mem_of_getElem? (i := 332) rfl, by decide +kernel⟩)
abbrev kX2_fill : Cond := .code yX2_fill cX2_fill 4 (some (.int))
set_option maxRecDepth 20000 in
theorem wk_X2_fill : kX2_fill ∈ wsA := (List.mem_filter.mpr ⟨List.mem_of_getElem? (i := 415) rfl, by decide +kernel⟩)
abbrev kX2_isBasin : Cond := .code yX2_isBasin cX2_isBasin 1 (some (.boolean))
set_option maxRecDepth 20000 in
theorem wk_X2_isBasin : kX2_isBasin ∈ wsA := (List.mem_filter.mpr ⟨List.mem_of_getElem? (i := 418) rfl, by decide +kernel⟩)
abbrev kX2_isIn : Cond := .code yX2_isIn cX2_isIn 3 (some (.boolean))
set_option maxRecDepth 20000 in
theorem wk_X2_isIn : kX2_isIn ∈ wsA := (List.mem_filter.mpr ⟨List.mem_of_getElem? (i := 421) rfl, by decide +kernel⟩)
abbrev kX2_basin : Cond := .code yX2_basin cX2_basin 2 (some (.int))
set_option maxRecDepth 20000 in
theorem wk_X2_basin : kX2_basin ∈ wsA := (List.mem_filter.mpr ⟨List.mem_of_getElem? (i := 425) rfl, by decide +kernel⟩)
abbrev kX2_gauge : Cond := .code yX2_gauge cX2_gauge 4 (some (.int))
set_option maxRecDepth 20000 in
theorem wk_X2_gauge : kX2_gauge ∈ wsA := (List.mem_filter.mpr ⟨List.mem_of_getElem? (i := 429) rfl, by decide +kernel⟩)
abbrev kX2_mark : Cond := .code yX2_mark cX2_mark 3 (some (.int))
set_option maxRecDepth 20000 in
theorem wk_X2_mark : kX2_mark ∈ wsA := (List.mem_filter.mpr ⟨List.mem_of_getElem? (i := 433) rfl, by decide +kernel⟩)
abbrev kX2_deed : Cond := .code yX2_deed cX2_deed 6 (some (.int))
set_option maxRecDepth 20000 in
theorem wk_X2_deed : kX2_deed ∈ wsA := (List.mem_filter.mpr ⟨List.mem_of_getElem? (i := 437) rfl, by decide +kernel⟩)
abbrev kX2_isSlot : Cond := .code yX2_isSlot cX2_isSlot 1 (some (.boolean))
set_option maxRecDepth 20000 in
theorem wk_X2_isSlot : kX2_isSlot ∈ wsA := (List.mem_filter.mpr ⟨List.mem_of_getElem? (i := 440) rfl, by decide +kernel⟩)
abbrev kX2_isRight : Cond := .code yX2_isRight cX2_isRight 4 (some (.boolean))
set_option maxRecDepth 20000 in
theorem wk_X2_isRight : kX2_isRight ∈ wsA := (List.mem_filter.mpr ⟨List.mem_of_getElem? (i := 443) rfl, by decide +kernel⟩)
abbrev kX2_holdsOne : Cond := .code yX2_holdsOne cX2_holdsOne 1 (some (.boolean))
set_option maxRecDepth 20000 in
theorem wk_X2_holdsOne : kX2_holdsOne ∈ wsA := (List.mem_filter.mpr ⟨List.mem_of_getElem? (i := 446) rfl, by decide +kernel⟩)
abbrev kX2_holdsTwo : Cond := .code yX2_holdsTwo cX2_holdsTwo 1 (some (.boolean))
set_option maxRecDepth 20000 in
theorem wk_X2_holdsTwo : kX2_holdsTwo ∈ wsA := (List.mem_filter.mpr ⟨List.mem_of_getElem? (i := 449) rfl, by decide +kernel⟩)
abbrev kX2_copy : Cond := .code yX2_copy cX2_copy 3 (some (.int))
set_option maxRecDepth 20000 in
theorem wk_X2_copy : kX2_copy ∈ wsA := (List.mem_filter.mpr ⟨List.mem_of_getElem? (i := 453) rfl, by decide +kernel⟩)
abbrev kX2_drop : Cond := .code yX2_drop cX2_drop 2 (some (.int))
set_option maxRecDepth 20000 in
theorem wk_X2_drop : kX2_drop ∈ wsA := (List.mem_filter.mpr ⟨List.mem_of_getElem? (i := 457) rfl, by decide +kernel⟩)
abbrev kX2_lever : Cond := .code yX2_lever cX2_lever 4 (some (.int))
set_option maxRecDepth 20000 in
theorem wk_X2_lever : kX2_lever ∈ wsA := (List.mem_filter.mpr ⟨List.mem_of_getElem? (i := 461) rfl, by decide +kernel⟩)
abbrev kX2_same : Cond := .code yX2_same cX2_same 3 (some (.int))
set_option maxRecDepth 20000 in
theorem wk_X2_same : kX2_same ∈ wsA := (List.mem_filter.mpr ⟨List.mem_of_getElem? (i := 465) rfl, by decide +kernel⟩)
abbrev kX2_count : Cond := .code yX2_count cX2_count 2 (some (.int))
set_option maxRecDepth 20000 in
theorem wk_X2_count : kX2_count ∈ wsA := (List.mem_filter.mpr ⟨List.mem_of_getElem? (i := 469) rfl, by decide +kernel⟩)
abbrev kX2_act : Cond := .code yX2_act cX2_act 3 (some (.int))
set_option maxRecDepth 20000 in
theorem wk_X2_act : kX2_act ∈ wsA := (List.mem_filter.mpr ⟨List.mem_of_getElem? (i := 473) rfl, by decide +kernel⟩)
abbrev kX2_refuse : Cond := .code yX2_refuse cX2_refuse 2 (some (.int))
set_option maxRecDepth 20000 in
theorem wk_X2_refuse : kX2_refuse ∈ wsA := (List.mem_filter.mpr ⟨List.mem_of_getElem? (i := 477) rfl, by decide +kernel⟩)
abbrev kX2_doing : Cond := .code yX2_doing cX2_doing 3 (some (.int))
set_option maxRecDepth 20000 in
theorem wk_X2_doing : kX2_doing ∈ wsA := (List.mem_filter.mpr ⟨List.mem_of_getElem? (i := 481) rfl, by decide +kernel⟩)
abbrev kX2_enter : Cond := .code yX2_enter cX2_enter 3 none
set_option maxRecDepth 20000 in
theorem wk_X2_enter : kX2_enter ∈ wsA := (List.mem_filter.mpr ⟨List.mem_of_getElem? (i := 485) rfl, by decide +kernel⟩)
abbrev kX2_fall : Cond := .code yX2_fall cX2_fall 3 none
set_option maxRecDepth 20000 in
theorem wk_X2_fall : kX2_fall ∈ wsA := (List.mem_filter.mpr ⟨List.mem_of_getElem? (i := 489) rfl, by decide +kernel⟩)
abbrev kX2_goOn : Cond := .code yX2_goOn cX2_goOn 6 none
set_option maxRecDepth 20000 in
theorem wk_X2_goOn : kX2_goOn ∈ wsA := (List.mem_filter.mpr ⟨List.mem_of_getElem? (i := 493) rfl, by decide +kernel⟩)
abbrev kX2_give : Cond := .code yX2_give cX2_give 2 none
set_option maxRecDepth 20000 in
theorem wk_X2_give : kX2_give ∈ wsA := (List.mem_filter.mpr ⟨List.mem_of_getElem? (i := 497) rfl, by decide +kernel⟩)
abbrev kX2_alone : Cond := .code yX2_alone cX2_alone 6 none
set_option maxRecDepth 20000 in
theorem wk_X2_alone : kX2_alone ∈ wsA := (List.mem_filter.mpr ⟨List.mem_of_getElem? (i := 501) rfl, by decide +kernel⟩)
abbrev kX2_draw : Cond := .code yX2_draw cX2_draw 4 none
set_option maxRecDepth 20000 in
theorem wk_X2_draw : kX2_draw ∈ wsA := (List.mem_filter.mpr ⟨List.mem_of_getElem? (i := 505) rfl, by decide +kernel⟩)
abbrev kX2_later : Cond := .code yX2_later cX2_later 3 none
set_option maxRecDepth 20000 in
theorem wk_X2_later : kX2_later ∈ wsA := (List.mem_filter.mpr ⟨List.mem_of_getElem? (i := 509) rfl, by decide +kernel⟩)
abbrev kX2_pull : Cond := .code yX2_pull cX2_pull 5 (some (.int))
set_option maxRecDepth 20000 in
theorem wk_X2_pull : kX2_pull ∈ wsA := (List.mem_filter.mpr ⟨List.mem_of_getElem? (i := 513) rfl, by decide +kernel⟩)
abbrev kX2_tick : Cond := .code yX2_tick cX2_tick 7 (some (.int))
set_option maxRecDepth 20000 in
theorem wk_X2_tick : kX2_tick ∈ wsA := (List.mem_filter.mpr ⟨List.mem_of_getElem? (i := 517) rfl, by decide +kernel⟩)
abbrev kX2_failed : Cond := .code yX2_failed cX2_failed 1 (some (.int))
set_option maxRecDepth 20000 in
theorem wk_X2_failed : kX2_failed ∈ wsA := (List.mem_filter.mpr ⟨List.mem_of_getElem? (i := 521) rfl, by decide +kernel⟩)
abbrev kX2_told : Cond := .code yX2_told cX2_told 4 (some (.int))
set_option maxRecDepth 20000 in
theorem wk_X2_told : kX2_told ∈ wsA := (List.mem_filter.mpr ⟨List.mem_of_getElem? (i := 525) rfl, by decide +kernel⟩)
abbrev kX2_clear : Cond := .code yX2_clear cX2_clear 2 (some (.int))
set_option maxRecDepth 20000 in
theorem wk_X2_clear : kX2_clear ∈ wsA := (List.mem_filter.mpr ⟨List.mem_of_getElem? (i := 529) rfl, by decide +kernel⟩)
def vwd (own : String) (idx : Nat) (y : MethodName) (cd : Cond) : Prop := Cond.methodLink own idx y ∈ wsA ∧ Cond.instanceMethod y ∈ wsA ∧ Cond.selects y.cls y y ∈ wsA ∧ Cond.initialized y.cls ∈ wsA ∧ cd ∈ wsA
def swd (own : String) (idx : Nat) (y : MethodName) (cd : Cond) : Prop := Cond.methodLink own idx y ∈ wsA ∧ Cond.static y ∈ wsA ∧ Cond.initialized own ∈ wsA ∧ cd ∈ wsA
def iwd (own : String) (idx : Nat) (y : MethodName) (cd : Cond) : Prop := Cond.methodLink own idx y ∈ wsA ∧ Cond.instanceMethod y ∈ wsA ∧ Cond.initialized y.cls ∈ wsA ∧ cd ∈ wsA
theorem wm_X1_init : Cond.instanceMethod yX1_init ∈ wsA := (List.mem_filter.mpr ⟨List.mem_of_getElem? (i := 43) (by decide +kernel), by decide +kernel⟩)
theorem wm_X1_fill : Cond.instanceMethod yX1_fill ∈ wsA := (List.mem_filter.mpr ⟨List.mem_of_getElem? (i := 94) (by decide +kernel), by decide +kernel⟩)
theorem ws_X1_fill : Cond.selects RX1 yX1_fill yX1_fill ∈ wsA := (List.mem_filter.mpr ⟨List.mem_of_getElem? (i := 95) (by decide +kernel), by decide +kernel⟩)
theorem wm_X1_heldBy : Cond.instanceMethod yX1_heldBy ∈ wsA := (List.mem_filter.mpr ⟨List.mem_of_getElem? (i := 99) (by decide +kernel), by decide +kernel⟩)
theorem ws_X1_heldBy : Cond.selects RX1 yX1_heldBy yX1_heldBy ∈ wsA := (List.mem_filter.mpr ⟨List.mem_of_getElem? (i := 0) (by decide +kernel), by decide +kernel⟩)
theorem wm_X1_isBasin : Cond.static yX1_isBasin ∈ wsA := (List.mem_filter.mpr ⟨List.mem_of_getElem? (i := 102) (by decide +kernel), by decide +kernel⟩)
theorem wm_X1_pour : Cond.instanceMethod yX1_pour ∈ wsA := (List.mem_filter.mpr ⟨List.mem_of_getElem? (i := 106) (by decide +kernel), by decide +kernel⟩)
theorem ws_X1_pour : Cond.selects RX1 yX1_pour yX1_pour ∈ wsA := (List.mem_filter.mpr ⟨List.mem_of_getElem? (i := 1) (by decide +kernel), by decide +kernel⟩)
theorem wm_X1_basin : Cond.instanceMethod yX1_basin ∈ wsA := (List.mem_filter.mpr ⟨List.mem_of_getElem? (i := 109) (by decide +kernel), by decide +kernel⟩)
theorem ws_X1_basin : Cond.selects RX1 yX1_basin yX1_basin ∈ wsA := (List.mem_filter.mpr ⟨List.mem_of_getElem? (i := 110) (by decide +kernel), by decide +kernel⟩)
theorem wm_X1_gauge : Cond.instanceMethod yX1_gauge ∈ wsA := (List.mem_filter.mpr ⟨List.mem_of_getElem? (i := 113) (by decide +kernel), by decide +kernel⟩)
theorem ws_X1_gauge : Cond.selects RX1 yX1_gauge yX1_gauge ∈ wsA := (List.mem_filter.mpr ⟨List.mem_of_getElem? (i := 114) (by decide +kernel), by decide +kernel⟩)
theorem wm_X1_isGauge : Cond.static yX1_isGauge ∈ wsA := (List.mem_filter.mpr ⟨List.mem_of_getElem? (i := 117) (by decide +kernel), by decide +kernel⟩)
theorem wm_X1_mark : Cond.instanceMethod yX1_mark ∈ wsA := (List.mem_filter.mpr ⟨List.mem_of_getElem? (i := 120) (by decide +kernel), by decide +kernel⟩)
theorem ws_X1_mark : Cond.selects RX1 yX1_mark yX1_mark ∈ wsA := (List.mem_filter.mpr ⟨List.mem_of_getElem? (i := 121) (by decide +kernel), by decide +kernel⟩)
theorem wm_X1_gaugeNow : Cond.instanceMethod yX1_gaugeNow ∈ wsA := (List.mem_filter.mpr ⟨List.mem_of_getElem? (i := 125) (by decide +kernel), by decide +kernel⟩)
theorem ws_X1_gaugeNow : Cond.selects RX1 yX1_gaugeNow yX1_gaugeNow ∈ wsA := (List.mem_filter.mpr ⟨List.mem_of_getElem? (i := 2) (by decide +kernel), by decide +kernel⟩)
theorem wm_X1_hasMark : Cond.static yX1_hasMark ∈ wsA := (List.mem_filter.mpr ⟨List.mem_of_getElem? (i := 128) (by decide +kernel), by decide +kernel⟩)
theorem wm_X1_deed : Cond.instanceMethod yX1_deed ∈ wsA := (List.mem_filter.mpr ⟨List.mem_of_getElem? (i := 131) (by decide +kernel), by decide +kernel⟩)
theorem ws_X1_deed : Cond.selects RX1 yX1_deed yX1_deed ∈ wsA := (List.mem_filter.mpr ⟨List.mem_of_getElem? (i := 132) (by decide +kernel), by decide +kernel⟩)
theorem wm_X1_isSlot : Cond.static yX1_isSlot ∈ wsA := (List.mem_filter.mpr ⟨List.mem_of_getElem? (i := 135) (by decide +kernel), by decide +kernel⟩)
theorem wm_X1_namesWhatThereIs : Cond.static yX1_namesWhatThereIs ∈ wsA := (List.mem_filter.mpr ⟨List.mem_of_getElem? (i := 138) (by decide +kernel), by decide +kernel⟩)
theorem wm_X1_isLever : Cond.static yX1_isLever ∈ wsA := (List.mem_filter.mpr ⟨List.mem_of_getElem? (i := 141) (by decide +kernel), by decide +kernel⟩)
theorem wm_X1_holdsFirst : Cond.static yX1_holdsFirst ∈ wsA := (List.mem_filter.mpr ⟨List.mem_of_getElem? (i := 144) (by decide +kernel), by decide +kernel⟩)
theorem wm_X1_inSlot : Cond.instanceMethod yX1_inSlot ∈ wsA := (List.mem_filter.mpr ⟨List.mem_of_getElem? (i := 148) (by decide +kernel), by decide +kernel⟩)
theorem ws_X1_inSlot : Cond.selects RX1 yX1_inSlot yX1_inSlot ∈ wsA := (List.mem_filter.mpr ⟨List.mem_of_getElem? (i := 3) (by decide +kernel), by decide +kernel⟩)
theorem wm_X1_holdsSecond : Cond.static yX1_holdsSecond ∈ wsA := (List.mem_filter.mpr ⟨List.mem_of_getElem? (i := 151) (by decide +kernel), by decide +kernel⟩)
theorem wm_X0_init : Cond.instanceMethod yX0_init ∈ wsA := (List.mem_filter.mpr ⟨List.mem_of_getElem? (i := 155) (by decide +kernel), by decide +kernel⟩)
theorem wm_X1_copy : Cond.instanceMethod yX1_copy ∈ wsA := (List.mem_filter.mpr ⟨List.mem_of_getElem? (i := 192) (by decide +kernel), by decide +kernel⟩)
theorem ws_X1_copy : Cond.selects RX1 yX1_copy yX1_copy ∈ wsA := (List.mem_filter.mpr ⟨List.mem_of_getElem? (i := 193) (by decide +kernel), by decide +kernel⟩)
theorem wm_X1_drop : Cond.instanceMethod yX1_drop ∈ wsA := (List.mem_filter.mpr ⟨List.mem_of_getElem? (i := 196) (by decide +kernel), by decide +kernel⟩)
theorem ws_X1_drop : Cond.selects RX1 yX1_drop yX1_drop ∈ wsA := (List.mem_filter.mpr ⟨List.mem_of_getElem? (i := 197) (by decide +kernel), by decide +kernel⟩)
theorem wm_X1_lever : Cond.instanceMethod yX1_lever ∈ wsA := (List.mem_filter.mpr ⟨List.mem_of_getElem? (i := 200) (by decide +kernel), by decide +kernel⟩)
theorem ws_X1_lever : Cond.selects RX1 yX1_lever yX1_lever ∈ wsA := (List.mem_filter.mpr ⟨List.mem_of_getElem? (i := 201) (by decide +kernel), by decide +kernel⟩)
theorem wm_X1_same : Cond.instanceMethod yX1_same ∈ wsA := (List.mem_filter.mpr ⟨List.mem_of_getElem? (i := 204) (by decide +kernel), by decide +kernel⟩)
theorem ws_X1_same : Cond.selects RX1 yX1_same yX1_same ∈ wsA := (List.mem_filter.mpr ⟨List.mem_of_getElem? (i := 205) (by decide +kernel), by decide +kernel⟩)
theorem wm_X1_count : Cond.instanceMethod yX1_count ∈ wsA := (List.mem_filter.mpr ⟨List.mem_of_getElem? (i := 208) (by decide +kernel), by decide +kernel⟩)
theorem ws_X1_count : Cond.selects RX1 yX1_count yX1_count ∈ wsA := (List.mem_filter.mpr ⟨List.mem_of_getElem? (i := 209) (by decide +kernel), by decide +kernel⟩)
theorem wm_X1_act : Cond.instanceMethod yX1_act ∈ wsA := (List.mem_filter.mpr ⟨List.mem_of_getElem? (i := 212) (by decide +kernel), by decide +kernel⟩)
theorem ws_X1_act : Cond.selects RX1 yX1_act yX1_act ∈ wsA := (List.mem_filter.mpr ⟨List.mem_of_getElem? (i := 213) (by decide +kernel), by decide +kernel⟩)
theorem wm_X1_refuse : Cond.instanceMethod yX1_refuse ∈ wsA := (List.mem_filter.mpr ⟨List.mem_of_getElem? (i := 217) (by decide +kernel), by decide +kernel⟩)
theorem ws_X1_refuse : Cond.selects RX1 yX1_refuse yX1_refuse ∈ wsA := (List.mem_filter.mpr ⟨List.mem_of_getElem? (i := 4) (by decide +kernel), by decide +kernel⟩)
theorem wm_X1_begin : Cond.instanceMethod yX1_begin ∈ wsA := (List.mem_filter.mpr ⟨List.mem_of_getElem? (i := 221) (by decide +kernel), by decide +kernel⟩)
theorem ws_X1_begin : Cond.selects RX1 yX1_begin yX1_begin ∈ wsA := (List.mem_filter.mpr ⟨List.mem_of_getElem? (i := 5) (by decide +kernel), by decide +kernel⟩)
theorem wm_X1_doDeed : Cond.instanceMethod yX1_doDeed ∈ wsA := (List.mem_filter.mpr ⟨List.mem_of_getElem? (i := 225) (by decide +kernel), by decide +kernel⟩)
theorem ws_X1_doDeed : Cond.selects RX1 yX1_doDeed yX1_doDeed ∈ wsA := (List.mem_filter.mpr ⟨List.mem_of_getElem? (i := 6) (by decide +kernel), by decide +kernel⟩)
theorem wm_X1_fail : Cond.instanceMethod yX1_fail ∈ wsA := (List.mem_filter.mpr ⟨List.mem_of_getElem? (i := 229) (by decide +kernel), by decide +kernel⟩)
theorem ws_X1_fail : Cond.selects RX1 yX1_fail yX1_fail ∈ wsA := (List.mem_filter.mpr ⟨List.mem_of_getElem? (i := 7) (by decide +kernel), by decide +kernel⟩)
theorem wm_X1_doAlone : Cond.instanceMethod yX1_doAlone ∈ wsA := (List.mem_filter.mpr ⟨List.mem_of_getElem? (i := 233) (by decide +kernel), by decide +kernel⟩)
theorem ws_X1_doAlone : Cond.selects RX1 yX1_doAlone yX1_doAlone ∈ wsA := (List.mem_filter.mpr ⟨List.mem_of_getElem? (i := 8) (by decide +kernel), by decide +kernel⟩)
theorem wm_X1_doSet : Cond.instanceMethod yX1_doSet ∈ wsA := (List.mem_filter.mpr ⟨List.mem_of_getElem? (i := 237) (by decide +kernel), by decide +kernel⟩)
theorem ws_X1_doSet : Cond.selects RX1 yX1_doSet yX1_doSet ∈ wsA := (List.mem_filter.mpr ⟨List.mem_of_getElem? (i := 9) (by decide +kernel), by decide +kernel⟩)
theorem wm_X1_doAdd : Cond.instanceMethod yX1_doAdd ∈ wsA := (List.mem_filter.mpr ⟨List.mem_of_getElem? (i := 241) (by decide +kernel), by decide +kernel⟩)
theorem ws_X1_doAdd : Cond.selects RX1 yX1_doAdd yX1_doAdd ∈ wsA := (List.mem_filter.mpr ⟨List.mem_of_getElem? (i := 10) (by decide +kernel), by decide +kernel⟩)
theorem wm_X1_doDraw : Cond.instanceMethod yX1_doDraw ∈ wsA := (List.mem_filter.mpr ⟨List.mem_of_getElem? (i := 245) (by decide +kernel), by decide +kernel⟩)
theorem ws_X1_doDraw : Cond.selects RX1 yX1_doDraw yX1_doDraw ∈ wsA := (List.mem_filter.mpr ⟨List.mem_of_getElem? (i := 11) (by decide +kernel), by decide +kernel⟩)
theorem wm_X1_doMark : Cond.instanceMethod yX1_doMark ∈ wsA := (List.mem_filter.mpr ⟨List.mem_of_getElem? (i := 249) (by decide +kernel), by decide +kernel⟩)
theorem ws_X1_doMark : Cond.selects RX1 yX1_doMark yX1_doMark ∈ wsA := (List.mem_filter.mpr ⟨List.mem_of_getElem? (i := 12) (by decide +kernel), by decide +kernel⟩)
theorem wm_X1_doThroughOthers : Cond.instanceMethod yX1_doThroughOthers ∈ wsA := (List.mem_filter.mpr ⟨List.mem_of_getElem? (i := 253) (by decide +kernel), by decide +kernel⟩)
theorem ws_X1_doThroughOthers : Cond.selects RX1 yX1_doThroughOthers yX1_doThroughOthers ∈ wsA := (List.mem_filter.mpr ⟨List.mem_of_getElem? (i := 13) (by decide +kernel), by decide +kernel⟩)
theorem wm_X1_doThen : Cond.instanceMethod yX1_doThen ∈ wsA := (List.mem_filter.mpr ⟨List.mem_of_getElem? (i := 257) (by decide +kernel), by decide +kernel⟩)
theorem ws_X1_doThen : Cond.selects RX1 yX1_doThen yX1_doThen ∈ wsA := (List.mem_filter.mpr ⟨List.mem_of_getElem? (i := 14) (by decide +kernel), by decide +kernel⟩)
theorem wm_X1_doTimes : Cond.instanceMethod yX1_doTimes ∈ wsA := (List.mem_filter.mpr ⟨List.mem_of_getElem? (i := 261) (by decide +kernel), by decide +kernel⟩)
theorem ws_X1_doTimes : Cond.selects RX1 yX1_doTimes yX1_doTimes ∈ wsA := (List.mem_filter.mpr ⟨List.mem_of_getElem? (i := 15) (by decide +kernel), by decide +kernel⟩)
theorem wm_X1_doTry : Cond.instanceMethod yX1_doTry ∈ wsA := (List.mem_filter.mpr ⟨List.mem_of_getElem? (i := 265) (by decide +kernel), by decide +kernel⟩)
theorem ws_X1_doTry : Cond.selects RX1 yX1_doTry yX1_doTry ∈ wsA := (List.mem_filter.mpr ⟨List.mem_of_getElem? (i := 16) (by decide +kernel), by decide +kernel⟩)
theorem wm_X1_doLater : Cond.instanceMethod yX1_doLater ∈ wsA := (List.mem_filter.mpr ⟨List.mem_of_getElem? (i := 269) (by decide +kernel), by decide +kernel⟩)
theorem ws_X1_doLater : Cond.selects RX1 yX1_doLater yX1_doLater ∈ wsA := (List.mem_filter.mpr ⟨List.mem_of_getElem? (i := 17) (by decide +kernel), by decide +kernel⟩)
theorem wm_X1_doCount : Cond.instanceMethod yX1_doCount ∈ wsA := (List.mem_filter.mpr ⟨List.mem_of_getElem? (i := 273) (by decide +kernel), by decide +kernel⟩)
theorem ws_X1_doCount : Cond.selects RX1 yX1_doCount yX1_doCount ∈ wsA := (List.mem_filter.mpr ⟨List.mem_of_getElem? (i := 18) (by decide +kernel), by decide +kernel⟩)
theorem wm_X1_doPlaces : Cond.instanceMethod yX1_doPlaces ∈ wsA := (List.mem_filter.mpr ⟨List.mem_of_getElem? (i := 277) (by decide +kernel), by decide +kernel⟩)
theorem ws_X1_doPlaces : Cond.selects RX1 yX1_doPlaces yX1_doPlaces ∈ wsA := (List.mem_filter.mpr ⟨List.mem_of_getElem? (i := 19) (by decide +kernel), by decide +kernel⟩)
theorem wm_X1_atPlace : Cond.instanceMethod yX1_atPlace ∈ wsA := (List.mem_filter.mpr ⟨List.mem_of_getElem? (i := 281) (by decide +kernel), by decide +kernel⟩)
theorem ws_X1_atPlace : Cond.selects RX1 yX1_atPlace yX1_atPlace ∈ wsA := (List.mem_filter.mpr ⟨List.mem_of_getElem? (i := 20) (by decide +kernel), by decide +kernel⟩)
theorem wm_X1_noteFailure : Cond.instanceMethod yX1_noteFailure ∈ wsA := (List.mem_filter.mpr ⟨List.mem_of_getElem? (i := 285) (by decide +kernel), by decide +kernel⟩)
theorem ws_X1_noteFailure : Cond.selects RX1 yX1_noteFailure yX1_noteFailure ∈ wsA := (List.mem_filter.mpr ⟨List.mem_of_getElem? (i := 21) (by decide +kernel), by decide +kernel⟩)
theorem wm_X1_pull : Cond.instanceMethod yX1_pull ∈ wsA := (List.mem_filter.mpr ⟨List.mem_of_getElem? (i := 288) (by decide +kernel), by decide +kernel⟩)
theorem ws_X1_pull : Cond.selects RX1 yX1_pull yX1_pull ∈ wsA := (List.mem_filter.mpr ⟨List.mem_of_getElem? (i := 289) (by decide +kernel), by decide +kernel⟩)
theorem wm_X1_tick : Cond.instanceMethod yX1_tick ∈ wsA := (List.mem_filter.mpr ⟨List.mem_of_getElem? (i := 292) (by decide +kernel), by decide +kernel⟩)
theorem ws_X1_tick : Cond.selects RX1 yX1_tick yX1_tick ∈ wsA := (List.mem_filter.mpr ⟨List.mem_of_getElem? (i := 293) (by decide +kernel), by decide +kernel⟩)
theorem wm_X1_doLongestWaiting : Cond.instanceMethod yX1_doLongestWaiting ∈ wsA := (List.mem_filter.mpr ⟨List.mem_of_getElem? (i := 297) (by decide +kernel), by decide +kernel⟩)
theorem ws_X1_doLongestWaiting : Cond.selects RX1 yX1_doLongestWaiting yX1_doLongestWaiting ∈ wsA := (List.mem_filter.mpr ⟨List.mem_of_getElem? (i := 22) (by decide +kernel), by decide +kernel⟩)
theorem wm_X1_failed : Cond.instanceMethod yX1_failed ∈ wsA := (List.mem_filter.mpr ⟨List.mem_of_getElem? (i := 300) (by decide +kernel), by decide +kernel⟩)
theorem ws_X1_failed : Cond.selects RX1 yX1_failed yX1_failed ∈ wsA := (List.mem_filter.mpr ⟨List.mem_of_getElem? (i := 301) (by decide +kernel), by decide +kernel⟩)
theorem wm_X1_told : Cond.instanceMethod yX1_told ∈ wsA := (List.mem_filter.mpr ⟨List.mem_of_getElem? (i := 304) (by decide +kernel), by decide +kernel⟩)
theorem ws_X1_told : Cond.selects RX1 yX1_told yX1_told ∈ wsA := (List.mem_filter.mpr ⟨List.mem_of_getElem? (i := 305) (by decide +kernel), by decide +kernel⟩)
theorem wm_X1_slotsInUse : Cond.instanceMethod yX1_slotsInUse ∈ wsA := (List.mem_filter.mpr ⟨List.mem_of_getElem? (i := 309) (by decide +kernel), by decide +kernel⟩)
theorem ws_X1_slotsInUse : Cond.selects RX1 yX1_slotsInUse yX1_slotsInUse ∈ wsA := (List.mem_filter.mpr ⟨List.mem_of_getElem? (i := 23) (by decide +kernel), by decide +kernel⟩)
theorem wm_X1_clear : Cond.instanceMethod yX1_clear ∈ wsA := (List.mem_filter.mpr ⟨List.mem_of_getElem? (i := 312) (by decide +kernel), by decide +kernel⟩)
theorem ws_X1_clear : Cond.selects RX1 yX1_clear yX1_clear ∈ wsA := (List.mem_filter.mpr ⟨List.mem_of_getElem? (i := 313) (by decide +kernel), by decide +kernel⟩)
theorem wm_X1_emptyHall : Cond.instanceMethod yX1_emptyHall ∈ wsA := (List.mem_filter.mpr ⟨List.mem_of_getElem? (i := 317) (by decide +kernel), by decide +kernel⟩)
theorem ws_X1_emptyHall : Cond.selects RX1 yX1_emptyHall yX1_emptyHall ∈ wsA := (List.mem_filter.mpr ⟨List.mem_of_getElem? (i := 24) (by decide +kernel), by decide +kernel⟩)
theorem wm_X1_emptyDeeds : Cond.instanceMethod yX1_emptyDeeds ∈ wsA := (List.mem_filter.mpr ⟨List.mem_of_getElem? (i := 321) (by decide +kernel), by decide +kernel⟩)
theorem ws_X1_emptyDeeds : Cond.selects RX1 yX1_emptyDeeds yX1_emptyDeeds ∈ wsA := (List.mem_filter.mpr ⟨List.mem_of_getElem? (i := 25) (by decide +kernel), by decide +kernel⟩)
theorem wm_X2_init : Cond.instanceMethod yX2_init ∈ wsA := (List.mem_filter.mpr ⟨List.mem_of_getElem? (i := 326) (by decide +kernel), by decide +kernel⟩)
theorem wm_X2_reset : Cond.instanceMethod yX2_reset ∈ wsA := (List.mem_filter.mpr ⟨List.mem_of_getElem? (i := 331) (by decide +kernel), by decide +kernel⟩)
theorem ws_X2_reset : Cond.selects RX2 yX2_reset yX2_reset ∈ wsA := (List.mem_filter.mpr ⟨List.mem_of_getElem? (i := 26) (by decide +kernel), by decide +kernel⟩)
theorem wm_X2_fill : Cond.instanceMethod yX2_fill ∈ wsA := (List.mem_filter.mpr ⟨List.mem_of_getElem? (i := 413) (by decide +kernel), by decide +kernel⟩)
theorem ws_X2_fill : Cond.selects RX2 yX2_fill yX2_fill ∈ wsA := (List.mem_filter.mpr ⟨List.mem_of_getElem? (i := 414) (by decide +kernel), by decide +kernel⟩)
theorem wm_X2_isBasin : Cond.static yX2_isBasin ∈ wsA := (List.mem_filter.mpr ⟨List.mem_of_getElem? (i := 417) (by decide +kernel), by decide +kernel⟩)
theorem wm_X2_isIn : Cond.static yX2_isIn ∈ wsA := (List.mem_filter.mpr ⟨List.mem_of_getElem? (i := 420) (by decide +kernel), by decide +kernel⟩)
theorem wm_X2_basin : Cond.instanceMethod yX2_basin ∈ wsA := (List.mem_filter.mpr ⟨List.mem_of_getElem? (i := 423) (by decide +kernel), by decide +kernel⟩)
theorem ws_X2_basin : Cond.selects RX2 yX2_basin yX2_basin ∈ wsA := (List.mem_filter.mpr ⟨List.mem_of_getElem? (i := 424) (by decide +kernel), by decide +kernel⟩)
theorem wm_X2_gauge : Cond.instanceMethod yX2_gauge ∈ wsA := (List.mem_filter.mpr ⟨List.mem_of_getElem? (i := 427) (by decide +kernel), by decide +kernel⟩)
theorem ws_X2_gauge : Cond.selects RX2 yX2_gauge yX2_gauge ∈ wsA := (List.mem_filter.mpr ⟨List.mem_of_getElem? (i := 428) (by decide +kernel), by decide +kernel⟩)
theorem wm_X2_mark : Cond.instanceMethod yX2_mark ∈ wsA := (List.mem_filter.mpr ⟨List.mem_of_getElem? (i := 431) (by decide +kernel), by decide +kernel⟩)
theorem ws_X2_mark : Cond.selects RX2 yX2_mark yX2_mark ∈ wsA := (List.mem_filter.mpr ⟨List.mem_of_getElem? (i := 432) (by decide +kernel), by decide +kernel⟩)
theorem wm_X2_deed : Cond.instanceMethod yX2_deed ∈ wsA := (List.mem_filter.mpr ⟨List.mem_of_getElem? (i := 435) (by decide +kernel), by decide +kernel⟩)
theorem ws_X2_deed : Cond.selects RX2 yX2_deed yX2_deed ∈ wsA := (List.mem_filter.mpr ⟨List.mem_of_getElem? (i := 436) (by decide +kernel), by decide +kernel⟩)
theorem wm_X2_isSlot : Cond.static yX2_isSlot ∈ wsA := (List.mem_filter.mpr ⟨List.mem_of_getElem? (i := 439) (by decide +kernel), by decide +kernel⟩)
theorem wm_X2_isRight : Cond.static yX2_isRight ∈ wsA := (List.mem_filter.mpr ⟨List.mem_of_getElem? (i := 442) (by decide +kernel), by decide +kernel⟩)
theorem wm_X2_holdsOne : Cond.static yX2_holdsOne ∈ wsA := (List.mem_filter.mpr ⟨List.mem_of_getElem? (i := 445) (by decide +kernel), by decide +kernel⟩)
theorem wm_X2_holdsTwo : Cond.static yX2_holdsTwo ∈ wsA := (List.mem_filter.mpr ⟨List.mem_of_getElem? (i := 448) (by decide +kernel), by decide +kernel⟩)
theorem wm_X2_copy : Cond.instanceMethod yX2_copy ∈ wsA := (List.mem_filter.mpr ⟨List.mem_of_getElem? (i := 451) (by decide +kernel), by decide +kernel⟩)
theorem ws_X2_copy : Cond.selects RX2 yX2_copy yX2_copy ∈ wsA := (List.mem_filter.mpr ⟨List.mem_of_getElem? (i := 452) (by decide +kernel), by decide +kernel⟩)
theorem wm_X2_drop : Cond.instanceMethod yX2_drop ∈ wsA := (List.mem_filter.mpr ⟨List.mem_of_getElem? (i := 455) (by decide +kernel), by decide +kernel⟩)
theorem ws_X2_drop : Cond.selects RX2 yX2_drop yX2_drop ∈ wsA := (List.mem_filter.mpr ⟨List.mem_of_getElem? (i := 456) (by decide +kernel), by decide +kernel⟩)
theorem wm_X2_lever : Cond.instanceMethod yX2_lever ∈ wsA := (List.mem_filter.mpr ⟨List.mem_of_getElem? (i := 459) (by decide +kernel), by decide +kernel⟩)
theorem ws_X2_lever : Cond.selects RX2 yX2_lever yX2_lever ∈ wsA := (List.mem_filter.mpr ⟨List.mem_of_getElem? (i := 460) (by decide +kernel), by decide +kernel⟩)
theorem wm_X2_same : Cond.instanceMethod yX2_same ∈ wsA := (List.mem_filter.mpr ⟨List.mem_of_getElem? (i := 463) (by decide +kernel), by decide +kernel⟩)
theorem ws_X2_same : Cond.selects RX2 yX2_same yX2_same ∈ wsA := (List.mem_filter.mpr ⟨List.mem_of_getElem? (i := 464) (by decide +kernel), by decide +kernel⟩)
theorem wm_X2_count : Cond.instanceMethod yX2_count ∈ wsA := (List.mem_filter.mpr ⟨List.mem_of_getElem? (i := 467) (by decide +kernel), by decide +kernel⟩)
theorem ws_X2_count : Cond.selects RX2 yX2_count yX2_count ∈ wsA := (List.mem_filter.mpr ⟨List.mem_of_getElem? (i := 468) (by decide +kernel), by decide +kernel⟩)
theorem wm_X2_act : Cond.instanceMethod yX2_act ∈ wsA := (List.mem_filter.mpr ⟨List.mem_of_getElem? (i := 471) (by decide +kernel), by decide +kernel⟩)
theorem ws_X2_act : Cond.selects RX2 yX2_act yX2_act ∈ wsA := (List.mem_filter.mpr ⟨List.mem_of_getElem? (i := 472) (by decide +kernel), by decide +kernel⟩)
theorem wm_X2_refuse : Cond.instanceMethod yX2_refuse ∈ wsA := (List.mem_filter.mpr ⟨List.mem_of_getElem? (i := 476) (by decide +kernel), by decide +kernel⟩)
theorem ws_X2_refuse : Cond.selects RX2 yX2_refuse yX2_refuse ∈ wsA := (List.mem_filter.mpr ⟨List.mem_of_getElem? (i := 27) (by decide +kernel), by decide +kernel⟩)
theorem wm_X2_doing : Cond.instanceMethod yX2_doing ∈ wsA := (List.mem_filter.mpr ⟨List.mem_of_getElem? (i := 480) (by decide +kernel), by decide +kernel⟩)
theorem ws_X2_doing : Cond.selects RX2 yX2_doing yX2_doing ∈ wsA := (List.mem_filter.mpr ⟨List.mem_of_getElem? (i := 28) (by decide +kernel), by decide +kernel⟩)
theorem wm_X2_enter : Cond.instanceMethod yX2_enter ∈ wsA := (List.mem_filter.mpr ⟨List.mem_of_getElem? (i := 484) (by decide +kernel), by decide +kernel⟩)
theorem ws_X2_enter : Cond.selects RX2 yX2_enter yX2_enter ∈ wsA := (List.mem_filter.mpr ⟨List.mem_of_getElem? (i := 29) (by decide +kernel), by decide +kernel⟩)
theorem wm_X2_fall : Cond.instanceMethod yX2_fall ∈ wsA := (List.mem_filter.mpr ⟨List.mem_of_getElem? (i := 488) (by decide +kernel), by decide +kernel⟩)
theorem ws_X2_fall : Cond.selects RX2 yX2_fall yX2_fall ∈ wsA := (List.mem_filter.mpr ⟨List.mem_of_getElem? (i := 30) (by decide +kernel), by decide +kernel⟩)
theorem wm_X2_goOn : Cond.instanceMethod yX2_goOn ∈ wsA := (List.mem_filter.mpr ⟨List.mem_of_getElem? (i := 492) (by decide +kernel), by decide +kernel⟩)
theorem ws_X2_goOn : Cond.selects RX2 yX2_goOn yX2_goOn ∈ wsA := (List.mem_filter.mpr ⟨List.mem_of_getElem? (i := 31) (by decide +kernel), by decide +kernel⟩)
theorem wm_X2_give : Cond.instanceMethod yX2_give ∈ wsA := (List.mem_filter.mpr ⟨List.mem_of_getElem? (i := 496) (by decide +kernel), by decide +kernel⟩)
theorem ws_X2_give : Cond.selects RX2 yX2_give yX2_give ∈ wsA := (List.mem_filter.mpr ⟨List.mem_of_getElem? (i := 32) (by decide +kernel), by decide +kernel⟩)
theorem wm_X2_alone : Cond.instanceMethod yX2_alone ∈ wsA := (List.mem_filter.mpr ⟨List.mem_of_getElem? (i := 500) (by decide +kernel), by decide +kernel⟩)
theorem ws_X2_alone : Cond.selects RX2 yX2_alone yX2_alone ∈ wsA := (List.mem_filter.mpr ⟨List.mem_of_getElem? (i := 33) (by decide +kernel), by decide +kernel⟩)
theorem wm_X2_draw : Cond.instanceMethod yX2_draw ∈ wsA := (List.mem_filter.mpr ⟨List.mem_of_getElem? (i := 504) (by decide +kernel), by decide +kernel⟩)
theorem ws_X2_draw : Cond.selects RX2 yX2_draw yX2_draw ∈ wsA := (List.mem_filter.mpr ⟨List.mem_of_getElem? (i := 34) (by decide +kernel), by decide +kernel⟩)
theorem wm_X2_later : Cond.instanceMethod yX2_later ∈ wsA := (List.mem_filter.mpr ⟨List.mem_of_getElem? (i := 508) (by decide +kernel), by decide +kernel⟩)
theorem ws_X2_later : Cond.selects RX2 yX2_later yX2_later ∈ wsA := (List.mem_filter.mpr ⟨List.mem_of_getElem? (i := 35) (by decide +kernel), by decide +kernel⟩)
theorem wm_X2_pull : Cond.instanceMethod yX2_pull ∈ wsA := (List.mem_filter.mpr ⟨List.mem_of_getElem? (i := 511) (by decide +kernel), by decide +kernel⟩)
theorem ws_X2_pull : Cond.selects RX2 yX2_pull yX2_pull ∈ wsA := (List.mem_filter.mpr ⟨List.mem_of_getElem? (i := 512) (by decide +kernel), by decide +kernel⟩)
theorem wm_X2_tick : Cond.instanceMethod yX2_tick ∈ wsA := (List.mem_filter.mpr ⟨List.mem_of_getElem? (i := 515) (by decide +kernel), by decide +kernel⟩)
theorem ws_X2_tick : Cond.selects RX2 yX2_tick yX2_tick ∈ wsA := (List.mem_filter.mpr ⟨List.mem_of_getElem? (i := 516) (by decide +kernel), by decide +kernel⟩)
theorem wm_X2_failed : Cond.instanceMethod yX2_failed ∈ wsA := (List.mem_filter.mpr ⟨List.mem_of_getElem? (i := 519) (by decide +kernel), by decide +kernel⟩)
theorem ws_X2_failed : Cond.selects RX2 yX2_failed yX2_failed ∈ wsA := (List.mem_filter.mpr ⟨List.mem_of_getElem? (i := 520) (by decide +kernel), by decide +kernel⟩)
theorem wm_X2_told : Cond.instanceMethod yX2_told ∈ wsA := (List.mem_filter.mpr ⟨List.mem_of_getElem? (i := 523) (by decide +kernel), by decide +kernel⟩)
theorem ws_X2_told : Cond.selects RX2 yX2_told yX2_told ∈ wsA := (List.mem_filter.mpr ⟨List.mem_of_getElem? (i := 524) (by decide +kernel), by decide +kernel⟩)
theorem wm_X2_clear : Cond.instanceMethod yX2_clear ∈ wsA := (List.mem_filter.mpr ⟨List.mem_of_getElem? (i := 527) (by decide +kernel), by decide +kernel⟩)
theorem ws_X2_clear : Cond.selects RX2 yX2_clear yX2_clear ∈ wsA := (List.mem_filter.mpr ⟨List.mem_of_getElem? (i := 528) (by decide +kernel), by decide +kernel⟩)
theorem wq_L_9 : Cond.methodLink RL 9 yX1_init ∈ wsA := (List.mem_filter.mpr ⟨List.mem_of_getElem? (i := 42) (by decide +kernel), by decide +kernel⟩)
theorem wv_L_9 : iwd RL 9 yX1_init kX1_init := ⟨wq_L_9, wm_X1_init, wi_X1, wk_X1_init⟩
theorem wq_X1_1 : Cond.methodLink RX1 1 objectInit ∈ wsA := (List.mem_filter.mpr ⟨List.mem_of_getElem? (i := 45) (by decide +kernel), by decide +kernel⟩)
theorem wq_L_13 : Cond.methodLink RL 13 yX1_fill ∈ wsA := (List.mem_filter.mpr ⟨List.mem_of_getElem? (i := 93) (by decide +kernel), by decide +kernel⟩)
theorem wv_L_13 : vwd RL 13 yX1_fill kX1_fill := ⟨wq_L_13, wm_X1_fill, ws_X1_fill, wi_X1, wk_X1_fill⟩
theorem wq_X1_55 : Cond.methodLink RX1 55 yX1_heldBy ∈ wsA := (List.mem_filter.mpr ⟨List.mem_of_getElem? (i := 97) (by decide +kernel), by decide +kernel⟩)
theorem wv_X1_55 : vwd RX1 55 yX1_heldBy kX1_heldBy := ⟨wq_X1_55, wm_X1_heldBy, ws_X1_heldBy, wi_X1, wk_X1_heldBy⟩
theorem wq_X1_134 : Cond.methodLink RX1 134 yX1_isBasin ∈ wsA := (List.mem_filter.mpr ⟨List.mem_of_getElem? (i := 101) (by decide +kernel), by decide +kernel⟩)
theorem wv_X1_134 : swd RX1 134 yX1_isBasin kX1_isBasin := ⟨wq_X1_134, wm_X1_isBasin, wi_X1, wk_X1_isBasin⟩
theorem wq_X1_59 : Cond.methodLink RX1 59 yX1_pour ∈ wsA := (List.mem_filter.mpr ⟨List.mem_of_getElem? (i := 104) (by decide +kernel), by decide +kernel⟩)
theorem wv_X1_59 : vwd RX1 59 yX1_pour kX1_pour := ⟨wq_X1_59, wm_X1_pour, ws_X1_pour, wi_X1, wk_X1_pour⟩
theorem wq_L_18 : Cond.methodLink RL 18 yX1_basin ∈ wsA := (List.mem_filter.mpr ⟨List.mem_of_getElem? (i := 108) (by decide +kernel), by decide +kernel⟩)
theorem wv_L_18 : vwd RL 18 yX1_basin kX1_basin := ⟨wq_L_18, wm_X1_basin, ws_X1_basin, wi_X1, wk_X1_basin⟩
theorem wq_L_23 : Cond.methodLink RL 23 yX1_gauge ∈ wsA := (List.mem_filter.mpr ⟨List.mem_of_getElem? (i := 112) (by decide +kernel), by decide +kernel⟩)
theorem wv_L_23 : vwd RL 23 yX1_gauge kX1_gauge := ⟨wq_L_23, wm_X1_gauge, ws_X1_gauge, wi_X1, wk_X1_gauge⟩
theorem wq_X1_63 : Cond.methodLink RX1 63 yX1_isGauge ∈ wsA := (List.mem_filter.mpr ⟨List.mem_of_getElem? (i := 116) (by decide +kernel), by decide +kernel⟩)
theorem wv_X1_63 : swd RX1 63 yX1_isGauge kX1_isGauge := ⟨wq_X1_63, wm_X1_isGauge, wi_X1, wk_X1_isGauge⟩
theorem wq_L_27 : Cond.methodLink RL 27 yX1_mark ∈ wsA := (List.mem_filter.mpr ⟨List.mem_of_getElem? (i := 119) (by decide +kernel), by decide +kernel⟩)
theorem wv_L_27 : vwd RL 27 yX1_mark kX1_mark := ⟨wq_L_27, wm_X1_mark, ws_X1_mark, wi_X1, wk_X1_mark⟩
theorem wq_X1_67 : Cond.methodLink RX1 67 yX1_gaugeNow ∈ wsA := (List.mem_filter.mpr ⟨List.mem_of_getElem? (i := 123) (by decide +kernel), by decide +kernel⟩)
theorem wv_X1_67 : vwd RX1 67 yX1_gaugeNow kX1_gaugeNow := ⟨wq_X1_67, wm_X1_gaugeNow, ws_X1_gaugeNow, wi_X1, wk_X1_gaugeNow⟩
theorem wq_X1_71 : Cond.methodLink RX1 71 yX1_hasMark ∈ wsA := (List.mem_filter.mpr ⟨List.mem_of_getElem? (i := 127) (by decide +kernel), by decide +kernel⟩)
theorem wv_X1_71 : swd RX1 71 yX1_hasMark kX1_hasMark := ⟨wq_X1_71, wm_X1_hasMark, wi_X1, wk_X1_hasMark⟩
theorem wq_L_31 : Cond.methodLink RL 31 yX1_deed ∈ wsA := (List.mem_filter.mpr ⟨List.mem_of_getElem? (i := 130) (by decide +kernel), by decide +kernel⟩)
theorem wv_L_31 : vwd RL 31 yX1_deed kX1_deed := ⟨wq_L_31, wm_X1_deed, ws_X1_deed, wi_X1, wk_X1_deed⟩
theorem wq_X1_75 : Cond.methodLink RX1 75 yX1_isSlot ∈ wsA := (List.mem_filter.mpr ⟨List.mem_of_getElem? (i := 134) (by decide +kernel), by decide +kernel⟩)
theorem wv_X1_75 : swd RX1 75 yX1_isSlot kX1_isSlot := ⟨wq_X1_75, wm_X1_isSlot, wi_X1, wk_X1_isSlot⟩
theorem wq_X1_78 : Cond.methodLink RX1 78 yX1_namesWhatThereIs ∈ wsA := (List.mem_filter.mpr ⟨List.mem_of_getElem? (i := 137) (by decide +kernel), by decide +kernel⟩)
theorem wv_X1_78 : swd RX1 78 yX1_namesWhatThereIs kX1_namesWhatThereIs := ⟨wq_X1_78, wm_X1_namesWhatThereIs, wi_X1, wk_X1_namesWhatThereIs⟩
theorem wq_X1_95 : Cond.methodLink RX1 95 yX1_isLever ∈ wsA := (List.mem_filter.mpr ⟨List.mem_of_getElem? (i := 140) (by decide +kernel), by decide +kernel⟩)
theorem wv_X1_95 : swd RX1 95 yX1_isLever kX1_isLever := ⟨wq_X1_95, wm_X1_isLever, wi_X1, wk_X1_isLever⟩
theorem wq_X1_82 : Cond.methodLink RX1 82 yX1_holdsFirst ∈ wsA := (List.mem_filter.mpr ⟨List.mem_of_getElem? (i := 143) (by decide +kernel), by decide +kernel⟩)
theorem wv_X1_82 : swd RX1 82 yX1_holdsFirst kX1_holdsFirst := ⟨wq_X1_82, wm_X1_holdsFirst, wi_X1, wk_X1_holdsFirst⟩
theorem wq_X1_85 : Cond.methodLink RX1 85 yX1_inSlot ∈ wsA := (List.mem_filter.mpr ⟨List.mem_of_getElem? (i := 146) (by decide +kernel), by decide +kernel⟩)
theorem wv_X1_85 : vwd RX1 85 yX1_inSlot kX1_inSlot := ⟨wq_X1_85, wm_X1_inSlot, ws_X1_inSlot, wi_X1, wk_X1_inSlot⟩
theorem wq_X1_89 : Cond.methodLink RX1 89 yX1_holdsSecond ∈ wsA := (List.mem_filter.mpr ⟨List.mem_of_getElem? (i := 150) (by decide +kernel), by decide +kernel⟩)
theorem wv_X1_89 : swd RX1 89 yX1_holdsSecond kX1_holdsSecond := ⟨wq_X1_89, wm_X1_holdsSecond, wi_X1, wk_X1_holdsSecond⟩
theorem wq_X0_1 : Cond.methodLink RX0 1 objectInit ∈ wsA := (List.mem_filter.mpr ⟨List.mem_of_getElem? (i := 157) (by decide +kernel), by decide +kernel⟩)
theorem wq_L_36 : Cond.methodLink RL 36 yX1_copy ∈ wsA := (List.mem_filter.mpr ⟨List.mem_of_getElem? (i := 191) (by decide +kernel), by decide +kernel⟩)
theorem wv_L_36 : vwd RL 36 yX1_copy kX1_copy := ⟨wq_L_36, wm_X1_copy, ws_X1_copy, wi_X1, wk_X1_copy⟩
theorem wq_L_40 : Cond.methodLink RL 40 yX1_drop ∈ wsA := (List.mem_filter.mpr ⟨List.mem_of_getElem? (i := 195) (by decide +kernel), by decide +kernel⟩)
theorem wv_L_40 : vwd RL 40 yX1_drop kX1_drop := ⟨wq_L_40, wm_X1_drop, ws_X1_drop, wi_X1, wk_X1_drop⟩
theorem wq_L_44 : Cond.methodLink RL 44 yX1_lever ∈ wsA := (List.mem_filter.mpr ⟨List.mem_of_getElem? (i := 199) (by decide +kernel), by decide +kernel⟩)
theorem wv_L_44 : vwd RL 44 yX1_lever kX1_lever := ⟨wq_L_44, wm_X1_lever, ws_X1_lever, wi_X1, wk_X1_lever⟩
theorem wq_L_49 : Cond.methodLink RL 49 yX1_same ∈ wsA := (List.mem_filter.mpr ⟨List.mem_of_getElem? (i := 203) (by decide +kernel), by decide +kernel⟩)
theorem wv_L_49 : vwd RL 49 yX1_same kX1_same := ⟨wq_L_49, wm_X1_same, ws_X1_same, wi_X1, wk_X1_same⟩
theorem wq_L_53 : Cond.methodLink RL 53 yX1_count ∈ wsA := (List.mem_filter.mpr ⟨List.mem_of_getElem? (i := 207) (by decide +kernel), by decide +kernel⟩)
theorem wv_L_53 : vwd RL 53 yX1_count kX1_count := ⟨wq_L_53, wm_X1_count, ws_X1_count, wi_X1, wk_X1_count⟩
theorem wq_L_57 : Cond.methodLink RL 57 yX1_act ∈ wsA := (List.mem_filter.mpr ⟨List.mem_of_getElem? (i := 211) (by decide +kernel), by decide +kernel⟩)
theorem wv_L_57 : vwd RL 57 yX1_act kX1_act := ⟨wq_L_57, wm_X1_act, ws_X1_act, wi_X1, wk_X1_act⟩
theorem wq_X1_104 : Cond.methodLink RX1 104 yX1_refuse ∈ wsA := (List.mem_filter.mpr ⟨List.mem_of_getElem? (i := 215) (by decide +kernel), by decide +kernel⟩)
theorem wv_X1_104 : vwd RX1 104 yX1_refuse kX1_refuse := ⟨wq_X1_104, wm_X1_refuse, ws_X1_refuse, wi_X1, wk_X1_refuse⟩
theorem wq_X1_107 : Cond.methodLink RX1 107 yX1_begin ∈ wsA := (List.mem_filter.mpr ⟨List.mem_of_getElem? (i := 219) (by decide +kernel), by decide +kernel⟩)
theorem wv_X1_107 : vwd RX1 107 yX1_begin kX1_begin := ⟨wq_X1_107, wm_X1_begin, ws_X1_begin, wi_X1, wk_X1_begin⟩
theorem wq_X1_110 : Cond.methodLink RX1 110 yX1_doDeed ∈ wsA := (List.mem_filter.mpr ⟨List.mem_of_getElem? (i := 223) (by decide +kernel), by decide +kernel⟩)
theorem wv_X1_110 : vwd RX1 110 yX1_doDeed kX1_doDeed := ⟨wq_X1_110, wm_X1_doDeed, ws_X1_doDeed, wi_X1, wk_X1_doDeed⟩
theorem wq_X1_137 : Cond.methodLink RX1 137 yX1_fail ∈ wsA := (List.mem_filter.mpr ⟨List.mem_of_getElem? (i := 227) (by decide +kernel), by decide +kernel⟩)
theorem wv_X1_137 : vwd RX1 137 yX1_fail kX1_fail := ⟨wq_X1_137, wm_X1_fail, ws_X1_fail, wi_X1, wk_X1_fail⟩
theorem wq_X1_140 : Cond.methodLink RX1 140 yX1_doAlone ∈ wsA := (List.mem_filter.mpr ⟨List.mem_of_getElem? (i := 231) (by decide +kernel), by decide +kernel⟩)
theorem wv_X1_140 : vwd RX1 140 yX1_doAlone kX1_doAlone := ⟨wq_X1_140, wm_X1_doAlone, ws_X1_doAlone, wi_X1, wk_X1_doAlone⟩
theorem wq_X1_150 : Cond.methodLink RX1 150 yX1_doSet ∈ wsA := (List.mem_filter.mpr ⟨List.mem_of_getElem? (i := 235) (by decide +kernel), by decide +kernel⟩)
theorem wv_X1_150 : vwd RX1 150 yX1_doSet kX1_doSet := ⟨wq_X1_150, wm_X1_doSet, ws_X1_doSet, wi_X1, wk_X1_doSet⟩
theorem wq_X1_153 : Cond.methodLink RX1 153 yX1_doAdd ∈ wsA := (List.mem_filter.mpr ⟨List.mem_of_getElem? (i := 239) (by decide +kernel), by decide +kernel⟩)
theorem wv_X1_153 : vwd RX1 153 yX1_doAdd kX1_doAdd := ⟨wq_X1_153, wm_X1_doAdd, ws_X1_doAdd, wi_X1, wk_X1_doAdd⟩
theorem wq_X1_156 : Cond.methodLink RX1 156 yX1_doDraw ∈ wsA := (List.mem_filter.mpr ⟨List.mem_of_getElem? (i := 243) (by decide +kernel), by decide +kernel⟩)
theorem wv_X1_156 : vwd RX1 156 yX1_doDraw kX1_doDraw := ⟨wq_X1_156, wm_X1_doDraw, ws_X1_doDraw, wi_X1, wk_X1_doDraw⟩
theorem wq_X1_159 : Cond.methodLink RX1 159 yX1_doMark ∈ wsA := (List.mem_filter.mpr ⟨List.mem_of_getElem? (i := 247) (by decide +kernel), by decide +kernel⟩)
theorem wv_X1_159 : vwd RX1 159 yX1_doMark kX1_doMark := ⟨wq_X1_159, wm_X1_doMark, ws_X1_doMark, wi_X1, wk_X1_doMark⟩
theorem wq_X1_144 : Cond.methodLink RX1 144 yX1_doThroughOthers ∈ wsA := (List.mem_filter.mpr ⟨List.mem_of_getElem? (i := 251) (by decide +kernel), by decide +kernel⟩)
theorem wv_X1_144 : vwd RX1 144 yX1_doThroughOthers kX1_doThroughOthers := ⟨wq_X1_144, wm_X1_doThroughOthers, ws_X1_doThroughOthers, wi_X1, wk_X1_doThroughOthers⟩
theorem wq_X1_162 : Cond.methodLink RX1 162 yX1_doThen ∈ wsA := (List.mem_filter.mpr ⟨List.mem_of_getElem? (i := 255) (by decide +kernel), by decide +kernel⟩)
theorem wv_X1_162 : vwd RX1 162 yX1_doThen kX1_doThen := ⟨wq_X1_162, wm_X1_doThen, ws_X1_doThen, wi_X1, wk_X1_doThen⟩
theorem wq_X1_175 : Cond.methodLink RX1 175 yX1_doTimes ∈ wsA := (List.mem_filter.mpr ⟨List.mem_of_getElem? (i := 259) (by decide +kernel), by decide +kernel⟩)
theorem wv_X1_175 : vwd RX1 175 yX1_doTimes kX1_doTimes := ⟨wq_X1_175, wm_X1_doTimes, ws_X1_doTimes, wi_X1, wk_X1_doTimes⟩
theorem wq_X1_178 : Cond.methodLink RX1 178 yX1_doTry ∈ wsA := (List.mem_filter.mpr ⟨List.mem_of_getElem? (i := 263) (by decide +kernel), by decide +kernel⟩)
theorem wv_X1_178 : vwd RX1 178 yX1_doTry kX1_doTry := ⟨wq_X1_178, wm_X1_doTry, ws_X1_doTry, wi_X1, wk_X1_doTry⟩
theorem wq_X1_181 : Cond.methodLink RX1 181 yX1_doLater ∈ wsA := (List.mem_filter.mpr ⟨List.mem_of_getElem? (i := 267) (by decide +kernel), by decide +kernel⟩)
theorem wv_X1_181 : vwd RX1 181 yX1_doLater kX1_doLater := ⟨wq_X1_181, wm_X1_doLater, ws_X1_doLater, wi_X1, wk_X1_doLater⟩
theorem wq_X1_184 : Cond.methodLink RX1 184 yX1_doCount ∈ wsA := (List.mem_filter.mpr ⟨List.mem_of_getElem? (i := 271) (by decide +kernel), by decide +kernel⟩)
theorem wv_X1_184 : vwd RX1 184 yX1_doCount kX1_doCount := ⟨wq_X1_184, wm_X1_doCount, ws_X1_doCount, wi_X1, wk_X1_doCount⟩
theorem wq_X1_117 : Cond.methodLink RX1 117 yX1_doPlaces ∈ wsA := (List.mem_filter.mpr ⟨List.mem_of_getElem? (i := 275) (by decide +kernel), by decide +kernel⟩)
theorem wv_X1_117 : vwd RX1 117 yX1_doPlaces kX1_doPlaces := ⟨wq_X1_117, wm_X1_doPlaces, ws_X1_doPlaces, wi_X1, wk_X1_doPlaces⟩
theorem wq_X1_193 : Cond.methodLink RX1 193 yX1_atPlace ∈ wsA := (List.mem_filter.mpr ⟨List.mem_of_getElem? (i := 279) (by decide +kernel), by decide +kernel⟩)
theorem wv_X1_193 : vwd RX1 193 yX1_atPlace kX1_atPlace := ⟨wq_X1_193, wm_X1_atPlace, ws_X1_atPlace, wi_X1, wk_X1_atPlace⟩
theorem wq_X1_114 : Cond.methodLink RX1 114 yX1_noteFailure ∈ wsA := (List.mem_filter.mpr ⟨List.mem_of_getElem? (i := 283) (by decide +kernel), by decide +kernel⟩)
theorem wv_X1_114 : vwd RX1 114 yX1_noteFailure kX1_noteFailure := ⟨wq_X1_114, wm_X1_noteFailure, ws_X1_noteFailure, wi_X1, wk_X1_noteFailure⟩
theorem wq_L_61 : Cond.methodLink RL 61 yX1_pull ∈ wsA := (List.mem_filter.mpr ⟨List.mem_of_getElem? (i := 287) (by decide +kernel), by decide +kernel⟩)
theorem wv_L_61 : vwd RL 61 yX1_pull kX1_pull := ⟨wq_L_61, wm_X1_pull, ws_X1_pull, wi_X1, wk_X1_pull⟩
theorem wq_L_65 : Cond.methodLink RL 65 yX1_tick ∈ wsA := (List.mem_filter.mpr ⟨List.mem_of_getElem? (i := 291) (by decide +kernel), by decide +kernel⟩)
theorem wv_L_65 : vwd RL 65 yX1_tick kX1_tick := ⟨wq_L_65, wm_X1_tick, ws_X1_tick, wi_X1, wk_X1_tick⟩
theorem wq_X1_121 : Cond.methodLink RX1 121 yX1_doLongestWaiting ∈ wsA := (List.mem_filter.mpr ⟨List.mem_of_getElem? (i := 295) (by decide +kernel), by decide +kernel⟩)
theorem wv_X1_121 : vwd RX1 121 yX1_doLongestWaiting kX1_doLongestWaiting := ⟨wq_X1_121, wm_X1_doLongestWaiting, ws_X1_doLongestWaiting, wi_X1, wk_X1_doLongestWaiting⟩
theorem wq_L_70 : Cond.methodLink RL 70 yX1_failed ∈ wsA := (List.mem_filter.mpr ⟨List.mem_of_getElem? (i := 299) (by decide +kernel), by decide +kernel⟩)
theorem wv_L_70 : vwd RL 70 yX1_failed kX1_failed := ⟨wq_L_70, wm_X1_failed, ws_X1_failed, wi_X1, wk_X1_failed⟩
theorem wq_L_74 : Cond.methodLink RL 74 yX1_told ∈ wsA := (List.mem_filter.mpr ⟨List.mem_of_getElem? (i := 303) (by decide +kernel), by decide +kernel⟩)
theorem wv_L_74 : vwd RL 74 yX1_told kX1_told := ⟨wq_L_74, wm_X1_told, ws_X1_told, wi_X1, wk_X1_told⟩
theorem wq_X1_124 : Cond.methodLink RX1 124 yX1_slotsInUse ∈ wsA := (List.mem_filter.mpr ⟨List.mem_of_getElem? (i := 307) (by decide +kernel), by decide +kernel⟩)
theorem wv_X1_124 : vwd RX1 124 yX1_slotsInUse kX1_slotsInUse := ⟨wq_X1_124, wm_X1_slotsInUse, ws_X1_slotsInUse, wi_X1, wk_X1_slotsInUse⟩
theorem wq_L_78 : Cond.methodLink RL 78 yX1_clear ∈ wsA := (List.mem_filter.mpr ⟨List.mem_of_getElem? (i := 311) (by decide +kernel), by decide +kernel⟩)
theorem wv_L_78 : vwd RL 78 yX1_clear kX1_clear := ⟨wq_L_78, wm_X1_clear, ws_X1_clear, wi_X1, wk_X1_clear⟩
theorem wq_X1_128 : Cond.methodLink RX1 128 yX1_emptyHall ∈ wsA := (List.mem_filter.mpr ⟨List.mem_of_getElem? (i := 315) (by decide +kernel), by decide +kernel⟩)
theorem wv_X1_128 : vwd RX1 128 yX1_emptyHall kX1_emptyHall := ⟨wq_X1_128, wm_X1_emptyHall, ws_X1_emptyHall, wi_X1, wk_X1_emptyHall⟩
theorem wq_X1_131 : Cond.methodLink RX1 131 yX1_emptyDeeds ∈ wsA := (List.mem_filter.mpr ⟨List.mem_of_getElem? (i := 319) (by decide +kernel), by decide +kernel⟩)
theorem wv_X1_131 : vwd RX1 131 yX1_emptyDeeds kX1_emptyDeeds := ⟨wq_X1_131, wm_X1_emptyDeeds, ws_X1_emptyDeeds, wi_X1, wk_X1_emptyDeeds⟩
theorem wq_L_12 : Cond.methodLink RL 12 yX2_init ∈ wsA := (List.mem_filter.mpr ⟨List.mem_of_getElem? (i := 325) (by decide +kernel), by decide +kernel⟩)
theorem wv_L_12 : iwd RL 12 yX2_init kX2_init := ⟨wq_L_12, wm_X2_init, wi_X2, wk_X2_init⟩
theorem wq_X2_1 : Cond.methodLink RX2 1 objectInit ∈ wsA := (List.mem_filter.mpr ⟨List.mem_of_getElem? (i := 328) (by decide +kernel), by decide +kernel⟩)
theorem wq_X2_61 : Cond.methodLink RX2 61 yX2_reset ∈ wsA := (List.mem_filter.mpr ⟨List.mem_of_getElem? (i := 329) (by decide +kernel), by decide +kernel⟩)
theorem wv_X2_61 : vwd RX2 61 yX2_reset kX2_reset := ⟨wq_X2_61, wm_X2_reset, ws_X2_reset, wi_X2, wk_X2_reset⟩
theorem wq_L_17 : Cond.methodLink RL 17 yX2_fill ∈ wsA := (List.mem_filter.mpr ⟨List.mem_of_getElem? (i := 412) (by decide +kernel), by decide +kernel⟩)
theorem wv_L_17 : vwd RL 17 yX2_fill kX2_fill := ⟨wq_L_17, wm_X2_fill, ws_X2_fill, wi_X2, wk_X2_fill⟩
theorem wq_X2_87 : Cond.methodLink RX2 87 yX2_isBasin ∈ wsA := (List.mem_filter.mpr ⟨List.mem_of_getElem? (i := 416) (by decide +kernel), by decide +kernel⟩)
theorem wv_X2_87 : swd RX2 87 yX2_isBasin kX2_isBasin := ⟨wq_X2_87, wm_X2_isBasin, wi_X2, wk_X2_isBasin⟩
theorem wq_X2_83 : Cond.methodLink RX2 83 yX2_isIn ∈ wsA := (List.mem_filter.mpr ⟨List.mem_of_getElem? (i := 419) (by decide +kernel), by decide +kernel⟩)
theorem wv_X2_83 : swd RX2 83 yX2_isIn kX2_isIn := ⟨wq_X2_83, wm_X2_isIn, wi_X2, wk_X2_isIn⟩
theorem wq_L_22 : Cond.methodLink RL 22 yX2_basin ∈ wsA := (List.mem_filter.mpr ⟨List.mem_of_getElem? (i := 422) (by decide +kernel), by decide +kernel⟩)
theorem wv_L_22 : vwd RL 22 yX2_basin kX2_basin := ⟨wq_L_22, wm_X2_basin, ws_X2_basin, wi_X2, wk_X2_basin⟩
theorem wq_L_26 : Cond.methodLink RL 26 yX2_gauge ∈ wsA := (List.mem_filter.mpr ⟨List.mem_of_getElem? (i := 426) (by decide +kernel), by decide +kernel⟩)
theorem wv_L_26 : vwd RL 26 yX2_gauge kX2_gauge := ⟨wq_L_26, wm_X2_gauge, ws_X2_gauge, wi_X2, wk_X2_gauge⟩
theorem wq_L_30 : Cond.methodLink RL 30 yX2_mark ∈ wsA := (List.mem_filter.mpr ⟨List.mem_of_getElem? (i := 430) (by decide +kernel), by decide +kernel⟩)
theorem wv_L_30 : vwd RL 30 yX2_mark kX2_mark := ⟨wq_L_30, wm_X2_mark, ws_X2_mark, wi_X2, wk_X2_mark⟩
theorem wq_L_35 : Cond.methodLink RL 35 yX2_deed ∈ wsA := (List.mem_filter.mpr ⟨List.mem_of_getElem? (i := 434) (by decide +kernel), by decide +kernel⟩)
theorem wv_L_35 : vwd RL 35 yX2_deed kX2_deed := ⟨wq_L_35, wm_X2_deed, ws_X2_deed, wi_X2, wk_X2_deed⟩
theorem wq_X2_91 : Cond.methodLink RX2 91 yX2_isSlot ∈ wsA := (List.mem_filter.mpr ⟨List.mem_of_getElem? (i := 438) (by decide +kernel), by decide +kernel⟩)
theorem wv_X2_91 : swd RX2 91 yX2_isSlot kX2_isSlot := ⟨wq_X2_91, wm_X2_isSlot, wi_X2, wk_X2_isSlot⟩
theorem wq_X2_94 : Cond.methodLink RX2 94 yX2_isRight ∈ wsA := (List.mem_filter.mpr ⟨List.mem_of_getElem? (i := 441) (by decide +kernel), by decide +kernel⟩)
theorem wv_X2_94 : swd RX2 94 yX2_isRight kX2_isRight := ⟨wq_X2_94, wm_X2_isRight, wi_X2, wk_X2_isRight⟩
theorem wq_X2_98 : Cond.methodLink RX2 98 yX2_holdsOne ∈ wsA := (List.mem_filter.mpr ⟨List.mem_of_getElem? (i := 444) (by decide +kernel), by decide +kernel⟩)
theorem wv_X2_98 : swd RX2 98 yX2_holdsOne kX2_holdsOne := ⟨wq_X2_98, wm_X2_holdsOne, wi_X2, wk_X2_holdsOne⟩
theorem wq_X2_101 : Cond.methodLink RX2 101 yX2_holdsTwo ∈ wsA := (List.mem_filter.mpr ⟨List.mem_of_getElem? (i := 447) (by decide +kernel), by decide +kernel⟩)
theorem wv_X2_101 : swd RX2 101 yX2_holdsTwo kX2_holdsTwo := ⟨wq_X2_101, wm_X2_holdsTwo, wi_X2, wk_X2_holdsTwo⟩
theorem wq_L_39 : Cond.methodLink RL 39 yX2_copy ∈ wsA := (List.mem_filter.mpr ⟨List.mem_of_getElem? (i := 450) (by decide +kernel), by decide +kernel⟩)
theorem wv_L_39 : vwd RL 39 yX2_copy kX2_copy := ⟨wq_L_39, wm_X2_copy, ws_X2_copy, wi_X2, wk_X2_copy⟩
theorem wq_L_43 : Cond.methodLink RL 43 yX2_drop ∈ wsA := (List.mem_filter.mpr ⟨List.mem_of_getElem? (i := 454) (by decide +kernel), by decide +kernel⟩)
theorem wv_L_43 : vwd RL 43 yX2_drop kX2_drop := ⟨wq_L_43, wm_X2_drop, ws_X2_drop, wi_X2, wk_X2_drop⟩
theorem wq_L_48 : Cond.methodLink RL 48 yX2_lever ∈ wsA := (List.mem_filter.mpr ⟨List.mem_of_getElem? (i := 458) (by decide +kernel), by decide +kernel⟩)
theorem wv_L_48 : vwd RL 48 yX2_lever kX2_lever := ⟨wq_L_48, wm_X2_lever, ws_X2_lever, wi_X2, wk_X2_lever⟩
theorem wq_L_52 : Cond.methodLink RL 52 yX2_same ∈ wsA := (List.mem_filter.mpr ⟨List.mem_of_getElem? (i := 462) (by decide +kernel), by decide +kernel⟩)
theorem wv_L_52 : vwd RL 52 yX2_same kX2_same := ⟨wq_L_52, wm_X2_same, ws_X2_same, wi_X2, wk_X2_same⟩
theorem wq_L_56 : Cond.methodLink RL 56 yX2_count ∈ wsA := (List.mem_filter.mpr ⟨List.mem_of_getElem? (i := 466) (by decide +kernel), by decide +kernel⟩)
theorem wv_L_56 : vwd RL 56 yX2_count kX2_count := ⟨wq_L_56, wm_X2_count, ws_X2_count, wi_X2, wk_X2_count⟩
theorem wq_L_60 : Cond.methodLink RL 60 yX2_act ∈ wsA := (List.mem_filter.mpr ⟨List.mem_of_getElem? (i := 470) (by decide +kernel), by decide +kernel⟩)
theorem wv_L_60 : vwd RL 60 yX2_act kX2_act := ⟨wq_L_60, wm_X2_act, ws_X2_act, wi_X2, wk_X2_act⟩
theorem wq_X2_137 : Cond.methodLink RX2 137 yX2_refuse ∈ wsA := (List.mem_filter.mpr ⟨List.mem_of_getElem? (i := 474) (by decide +kernel), by decide +kernel⟩)
theorem wv_X2_137 : vwd RX2 137 yX2_refuse kX2_refuse := ⟨wq_X2_137, wm_X2_refuse, ws_X2_refuse, wi_X2, wk_X2_refuse⟩
theorem wq_X2_141 : Cond.methodLink RX2 141 yX2_doing ∈ wsA := (List.mem_filter.mpr ⟨List.mem_of_getElem? (i := 478) (by decide +kernel), by decide +kernel⟩)
theorem wv_X2_141 : vwd RX2 141 yX2_doing kX2_doing := ⟨wq_X2_141, wm_X2_doing, ws_X2_doing, wi_X2, wk_X2_doing⟩
theorem wq_X2_113 : Cond.methodLink RX2 113 yX2_enter ∈ wsA := (List.mem_filter.mpr ⟨List.mem_of_getElem? (i := 482) (by decide +kernel), by decide +kernel⟩)
theorem wv_X2_113 : vwd RX2 113 yX2_enter kX2_enter := ⟨wq_X2_113, wm_X2_enter, ws_X2_enter, wi_X2, wk_X2_enter⟩
theorem wq_X2_131 : Cond.methodLink RX2 131 yX2_fall ∈ wsA := (List.mem_filter.mpr ⟨List.mem_of_getElem? (i := 486) (by decide +kernel), by decide +kernel⟩)
theorem wv_X2_131 : vwd RX2 131 yX2_fall kX2_fall := ⟨wq_X2_131, wm_X2_fall, ws_X2_fall, wi_X2, wk_X2_fall⟩
theorem wq_X2_134 : Cond.methodLink RX2 134 yX2_goOn ∈ wsA := (List.mem_filter.mpr ⟨List.mem_of_getElem? (i := 490) (by decide +kernel), by decide +kernel⟩)
theorem wv_X2_134 : vwd RX2 134 yX2_goOn kX2_goOn := ⟨wq_X2_134, wm_X2_goOn, ws_X2_goOn, wi_X2, wk_X2_goOn⟩
theorem wq_X2_117 : Cond.methodLink RX2 117 yX2_give ∈ wsA := (List.mem_filter.mpr ⟨List.mem_of_getElem? (i := 494) (by decide +kernel), by decide +kernel⟩)
theorem wv_X2_117 : vwd RX2 117 yX2_give kX2_give := ⟨wq_X2_117, wm_X2_give, ws_X2_give, wi_X2, wk_X2_give⟩
theorem wq_X2_128 : Cond.methodLink RX2 128 yX2_alone ∈ wsA := (List.mem_filter.mpr ⟨List.mem_of_getElem? (i := 498) (by decide +kernel), by decide +kernel⟩)
theorem wv_X2_128 : vwd RX2 128 yX2_alone kX2_alone := ⟨wq_X2_128, wm_X2_alone, ws_X2_alone, wi_X2, wk_X2_alone⟩
theorem wq_X2_121 : Cond.methodLink RX2 121 yX2_draw ∈ wsA := (List.mem_filter.mpr ⟨List.mem_of_getElem? (i := 502) (by decide +kernel), by decide +kernel⟩)
theorem wv_X2_121 : vwd RX2 121 yX2_draw kX2_draw := ⟨wq_X2_121, wm_X2_draw, ws_X2_draw, wi_X2, wk_X2_draw⟩
theorem wq_X2_125 : Cond.methodLink RX2 125 yX2_later ∈ wsA := (List.mem_filter.mpr ⟨List.mem_of_getElem? (i := 506) (by decide +kernel), by decide +kernel⟩)
theorem wv_X2_125 : vwd RX2 125 yX2_later kX2_later := ⟨wq_X2_125, wm_X2_later, ws_X2_later, wi_X2, wk_X2_later⟩
theorem wq_L_64 : Cond.methodLink RL 64 yX2_pull ∈ wsA := (List.mem_filter.mpr ⟨List.mem_of_getElem? (i := 510) (by decide +kernel), by decide +kernel⟩)
theorem wv_L_64 : vwd RL 64 yX2_pull kX2_pull := ⟨wq_L_64, wm_X2_pull, ws_X2_pull, wi_X2, wk_X2_pull⟩
theorem wq_L_69 : Cond.methodLink RL 69 yX2_tick ∈ wsA := (List.mem_filter.mpr ⟨List.mem_of_getElem? (i := 514) (by decide +kernel), by decide +kernel⟩)
theorem wv_L_69 : vwd RL 69 yX2_tick kX2_tick := ⟨wq_L_69, wm_X2_tick, ws_X2_tick, wi_X2, wk_X2_tick⟩
theorem wq_L_73 : Cond.methodLink RL 73 yX2_failed ∈ wsA := (List.mem_filter.mpr ⟨List.mem_of_getElem? (i := 518) (by decide +kernel), by decide +kernel⟩)
theorem wv_L_73 : vwd RL 73 yX2_failed kX2_failed := ⟨wq_L_73, wm_X2_failed, ws_X2_failed, wi_X2, wk_X2_failed⟩
theorem wq_L_77 : Cond.methodLink RL 77 yX2_told ∈ wsA := (List.mem_filter.mpr ⟨List.mem_of_getElem? (i := 522) (by decide +kernel), by decide +kernel⟩)
theorem wv_L_77 : vwd RL 77 yX2_told kX2_told := ⟨wq_L_77, wm_X2_told, ws_X2_told, wi_X2, wk_X2_told⟩
theorem wq_L_81 : Cond.methodLink RL 81 yX2_clear ∈ wsA := (List.mem_filter.mpr ⟨List.mem_of_getElem? (i := 526) (by decide +kernel), by decide +kernel⟩)
theorem wv_L_81 : vwd RL 81 yX2_clear kX2_clear := ⟨wq_L_81, wm_X2_clear, ws_X2_clear, wi_X2, wk_X2_clear⟩
