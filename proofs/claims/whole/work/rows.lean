section
-- ===== PART A: goes FIRST, ahead of the names: the tables' words, and 'selects' of the private methods out of them =====
/-- a private method of a class that the tables say can be made, by its rows of tables_1 -/
def lw_okq (q : MethodName × Nat) : Prop := (q.1.cls ≠ "java/lang/invoke/MethodHandle" ∧ q.1.cls ≠ "java/lang/invoke/VarHandle") ∧ Cond.instantiable q.1.cls q.2 ∈ tables_1 ∧ Cond.privateMethod q.1 ∈ tables_1 ∧ Cond.instanceMethod q.1 ∈ tables_1
theorem lw_p0 : lw_okq (⟨"LeverHall", "heldBy", "(I)I"⟩, 13) := ⟨⟨by decide +kernel, by decide +kernel⟩, List.mem_of_getElem? (i := 5) (by decide +kernel), List.mem_of_getElem? (i := 62) (by decide +kernel), List.mem_of_getElem? (i := 63) (by decide +kernel)⟩
theorem lw_p1 : lw_okq (⟨"LeverHall", "pour", "(II)V"⟩, 13) := ⟨⟨by decide +kernel, by decide +kernel⟩, List.mem_of_getElem? (i := 5) (by decide +kernel), List.mem_of_getElem? (i := 69) (by decide +kernel), List.mem_of_getElem? (i := 70) (by decide +kernel)⟩
theorem lw_p2 : lw_okq (⟨"LeverHall", "gaugeNow", "(I)[I"⟩, 13) := ⟨⟨by decide +kernel, by decide +kernel⟩, List.mem_of_getElem? (i := 5) (by decide +kernel), List.mem_of_getElem? (i := 88) (by decide +kernel), List.mem_of_getElem? (i := 89) (by decide +kernel)⟩
theorem lw_p3 : lw_okq (⟨"LeverHall", "inSlot", "(I)LLeverHall$Deed;"⟩, 13) := ⟨⟨by decide +kernel, by decide +kernel⟩, List.mem_of_getElem? (i := 5) (by decide +kernel), List.mem_of_getElem? (i := 111) (by decide +kernel), List.mem_of_getElem? (i := 112) (by decide +kernel)⟩
theorem lw_p4 : lw_okq (⟨"LeverHall", "refuse", "(I)I"⟩, 13) := ⟨⟨by decide +kernel, by decide +kernel⟩, List.mem_of_getElem? (i := 5) (by decide +kernel), List.mem_of_getElem? (i := 180) (by decide +kernel), List.mem_of_getElem? (i := 181) (by decide +kernel)⟩
theorem lw_p5 : lw_okq (⟨"LeverHall", "begin", "()V"⟩, 13) := ⟨⟨by decide +kernel, by decide +kernel⟩, List.mem_of_getElem? (i := 5) (by decide +kernel), List.mem_of_getElem? (i := 184) (by decide +kernel), List.mem_of_getElem? (i := 185) (by decide +kernel)⟩
theorem lw_p6 : lw_okq (⟨"LeverHall", "doDeed", "(LLeverHall$Deed;II)I"⟩, 13) := ⟨⟨by decide +kernel, by decide +kernel⟩, List.mem_of_getElem? (i := 5) (by decide +kernel), List.mem_of_getElem? (i := 188) (by decide +kernel), List.mem_of_getElem? (i := 189) (by decide +kernel)⟩
theorem lw_p7 : lw_okq (⟨"LeverHall", "fail", "(I)I"⟩, 13) := ⟨⟨by decide +kernel, by decide +kernel⟩, List.mem_of_getElem? (i := 5) (by decide +kernel), List.mem_of_getElem? (i := 192) (by decide +kernel), List.mem_of_getElem? (i := 193) (by decide +kernel)⟩
theorem lw_p8 : lw_okq (⟨"LeverHall", "doAlone", "(LLeverHall$Deed;I)I"⟩, 13) := ⟨⟨by decide +kernel, by decide +kernel⟩, List.mem_of_getElem? (i := 5) (by decide +kernel), List.mem_of_getElem? (i := 196) (by decide +kernel), List.mem_of_getElem? (i := 197) (by decide +kernel)⟩
theorem lw_p9 : lw_okq (⟨"LeverHall", "doSet", "(LLeverHall$Deed;I)I"⟩, 13) := ⟨⟨by decide +kernel, by decide +kernel⟩, List.mem_of_getElem? (i := 5) (by decide +kernel), List.mem_of_getElem? (i := 200) (by decide +kernel), List.mem_of_getElem? (i := 201) (by decide +kernel)⟩
theorem lw_p10 : lw_okq (⟨"LeverHall", "doAdd", "(LLeverHall$Deed;I)I"⟩, 13) := ⟨⟨by decide +kernel, by decide +kernel⟩, List.mem_of_getElem? (i := 5) (by decide +kernel), List.mem_of_getElem? (i := 204) (by decide +kernel), List.mem_of_getElem? (i := 205) (by decide +kernel)⟩
theorem lw_p11 : lw_okq (⟨"LeverHall", "doDraw", "(LLeverHall$Deed;I)I"⟩, 13) := ⟨⟨by decide +kernel, by decide +kernel⟩, List.mem_of_getElem? (i := 5) (by decide +kernel), List.mem_of_getElem? (i := 208) (by decide +kernel), List.mem_of_getElem? (i := 209) (by decide +kernel)⟩
theorem lw_p12 : lw_okq (⟨"LeverHall", "doMark", "(LLeverHall$Deed;I)I"⟩, 13) := ⟨⟨by decide +kernel, by decide +kernel⟩, List.mem_of_getElem? (i := 5) (by decide +kernel), List.mem_of_getElem? (i := 212) (by decide +kernel), List.mem_of_getElem? (i := 213) (by decide +kernel)⟩
theorem lw_p13 : lw_okq (⟨"LeverHall", "doThroughOthers", "(LLeverHall$Deed;II)I"⟩, 13) := ⟨⟨by decide +kernel, by decide +kernel⟩, List.mem_of_getElem? (i := 5) (by decide +kernel), List.mem_of_getElem? (i := 216) (by decide +kernel), List.mem_of_getElem? (i := 217) (by decide +kernel)⟩
theorem lw_p14 : lw_okq (⟨"LeverHall", "doThen", "(LLeverHall$Deed;II)I"⟩, 13) := ⟨⟨by decide +kernel, by decide +kernel⟩, List.mem_of_getElem? (i := 5) (by decide +kernel), List.mem_of_getElem? (i := 220) (by decide +kernel), List.mem_of_getElem? (i := 221) (by decide +kernel)⟩
theorem lw_p15 : lw_okq (⟨"LeverHall", "doTimes", "(LLeverHall$Deed;II)I"⟩, 13) := ⟨⟨by decide +kernel, by decide +kernel⟩, List.mem_of_getElem? (i := 5) (by decide +kernel), List.mem_of_getElem? (i := 224) (by decide +kernel), List.mem_of_getElem? (i := 225) (by decide +kernel)⟩
def lw_privs_1 : List (MethodName × Nat) := [(⟨"LeverHall", "heldBy", "(I)I"⟩, 13), (⟨"LeverHall", "pour", "(II)V"⟩, 13), (⟨"LeverHall", "gaugeNow", "(I)[I"⟩, 13), (⟨"LeverHall", "inSlot", "(I)LLeverHall$Deed;"⟩, 13), (⟨"LeverHall", "refuse", "(I)I"⟩, 13), (⟨"LeverHall", "begin", "()V"⟩, 13), (⟨"LeverHall", "doDeed", "(LLeverHall$Deed;II)I"⟩, 13), (⟨"LeverHall", "fail", "(I)I"⟩, 13), (⟨"LeverHall", "doAlone", "(LLeverHall$Deed;I)I"⟩, 13), (⟨"LeverHall", "doSet", "(LLeverHall$Deed;I)I"⟩, 13), (⟨"LeverHall", "doAdd", "(LLeverHall$Deed;I)I"⟩, 13), (⟨"LeverHall", "doDraw", "(LLeverHall$Deed;I)I"⟩, 13), (⟨"LeverHall", "doMark", "(LLeverHall$Deed;I)I"⟩, 13), (⟨"LeverHall", "doThroughOthers", "(LLeverHall$Deed;II)I"⟩, 13), (⟨"LeverHall", "doThen", "(LLeverHall$Deed;II)I"⟩, 13), (⟨"LeverHall", "doTimes", "(LLeverHall$Deed;II)I"⟩, 13)]
theorem lw_r1 : ∀ q ∈ lw_privs_1, lw_okq q := List.forall_mem_cons.mpr ⟨lw_p0, List.forall_mem_cons.mpr ⟨lw_p1, List.forall_mem_cons.mpr ⟨lw_p2, List.forall_mem_cons.mpr ⟨lw_p3, List.forall_mem_cons.mpr ⟨lw_p4, List.forall_mem_cons.mpr ⟨lw_p5, List.forall_mem_cons.mpr ⟨lw_p6, List.forall_mem_cons.mpr ⟨lw_p7, List.forall_mem_cons.mpr ⟨lw_p8, List.forall_mem_cons.mpr ⟨lw_p9, List.forall_mem_cons.mpr ⟨lw_p10, List.forall_mem_cons.mpr ⟨lw_p11, List.forall_mem_cons.mpr ⟨lw_p12, List.forall_mem_cons.mpr ⟨lw_p13, List.forall_mem_cons.mpr ⟨lw_p14, List.forall_mem_cons.mpr ⟨lw_p15, fun _ h => absurd h List.not_mem_nil⟩⟩⟩⟩⟩⟩⟩⟩⟩⟩⟩⟩⟩⟩⟩⟩
theorem lw_p16 : lw_okq (⟨"LeverHall", "doTry", "(LLeverHall$Deed;II)I"⟩, 13) := ⟨⟨by decide +kernel, by decide +kernel⟩, List.mem_of_getElem? (i := 5) (by decide +kernel), List.mem_of_getElem? (i := 228) (by decide +kernel), List.mem_of_getElem? (i := 229) (by decide +kernel)⟩
theorem lw_p17 : lw_okq (⟨"LeverHall", "doLater", "(LLeverHall$Deed;I)I"⟩, 13) := ⟨⟨by decide +kernel, by decide +kernel⟩, List.mem_of_getElem? (i := 5) (by decide +kernel), List.mem_of_getElem? (i := 232) (by decide +kernel), List.mem_of_getElem? (i := 233) (by decide +kernel)⟩
theorem lw_p18 : lw_okq (⟨"LeverHall", "doCount", "(LLeverHall$Deed;II)I"⟩, 13) := ⟨⟨by decide +kernel, by decide +kernel⟩, List.mem_of_getElem? (i := 5) (by decide +kernel), List.mem_of_getElem? (i := 236) (by decide +kernel), List.mem_of_getElem? (i := 237) (by decide +kernel)⟩
theorem lw_p19 : lw_okq (⟨"LeverHall", "doPlaces", "(III)I"⟩, 13) := ⟨⟨by decide +kernel, by decide +kernel⟩, List.mem_of_getElem? (i := 5) (by decide +kernel), List.mem_of_getElem? (i := 240) (by decide +kernel), List.mem_of_getElem? (i := 241) (by decide +kernel)⟩
theorem lw_p20 : lw_okq (⟨"LeverHall", "atPlace", "(II)LLeverHall$Deed;"⟩, 13) := ⟨⟨by decide +kernel, by decide +kernel⟩, List.mem_of_getElem? (i := 5) (by decide +kernel), List.mem_of_getElem? (i := 244) (by decide +kernel), List.mem_of_getElem? (i := 245) (by decide +kernel)⟩
theorem lw_p21 : lw_okq (⟨"LeverHall", "noteFailure", "()V"⟩, 13) := ⟨⟨by decide +kernel, by decide +kernel⟩, List.mem_of_getElem? (i := 5) (by decide +kernel), List.mem_of_getElem? (i := 248) (by decide +kernel), List.mem_of_getElem? (i := 249) (by decide +kernel)⟩
theorem lw_p22 : lw_okq (⟨"LeverHall", "doLongestWaiting", "()V"⟩, 13) := ⟨⟨by decide +kernel, by decide +kernel⟩, List.mem_of_getElem? (i := 5) (by decide +kernel), List.mem_of_getElem? (i := 260) (by decide +kernel), List.mem_of_getElem? (i := 261) (by decide +kernel)⟩
theorem lw_p23 : lw_okq (⟨"LeverHall", "slotsInUse", "()I"⟩, 13) := ⟨⟨by decide +kernel, by decide +kernel⟩, List.mem_of_getElem? (i := 5) (by decide +kernel), List.mem_of_getElem? (i := 272) (by decide +kernel), List.mem_of_getElem? (i := 273) (by decide +kernel)⟩
theorem lw_p24 : lw_okq (⟨"LeverHall", "emptyHall", "()V"⟩, 13) := ⟨⟨by decide +kernel, by decide +kernel⟩, List.mem_of_getElem? (i := 5) (by decide +kernel), List.mem_of_getElem? (i := 280) (by decide +kernel), List.mem_of_getElem? (i := 281) (by decide +kernel)⟩
theorem lw_p25 : lw_okq (⟨"LeverHall", "emptyDeeds", "()V"⟩, 13) := ⟨⟨by decide +kernel, by decide +kernel⟩, List.mem_of_getElem? (i := 5) (by decide +kernel), List.mem_of_getElem? (i := 284) (by decide +kernel), List.mem_of_getElem? (i := 285) (by decide +kernel)⟩
theorem lw_p26 : lw_okq (⟨"LeverHallModel", "reset", "()V"⟩, 26) := ⟨⟨by decide +kernel, by decide +kernel⟩, List.mem_of_getElem? (i := 288) (by decide +kernel), List.mem_of_getElem? (i := 294) (by decide +kernel), List.mem_of_getElem? (i := 295) (by decide +kernel)⟩
theorem lw_p27 : lw_okq (⟨"LeverHallModel", "refuse", "(I)I"⟩, 26) := ⟨⟨by decide +kernel, by decide +kernel⟩, List.mem_of_getElem? (i := 288) (by decide +kernel), List.mem_of_getElem? (i := 439) (by decide +kernel), List.mem_of_getElem? (i := 440) (by decide +kernel)⟩
theorem lw_p28 : lw_okq (⟨"LeverHallModel", "doing", "(II)I"⟩, 26) := ⟨⟨by decide +kernel, by decide +kernel⟩, List.mem_of_getElem? (i := 288) (by decide +kernel), List.mem_of_getElem? (i := 443) (by decide +kernel), List.mem_of_getElem? (i := 444) (by decide +kernel)⟩
theorem lw_p29 : lw_okq (⟨"LeverHallModel", "enter", "(II)V"⟩, 26) := ⟨⟨by decide +kernel, by decide +kernel⟩, List.mem_of_getElem? (i := 288) (by decide +kernel), List.mem_of_getElem? (i := 447) (by decide +kernel), List.mem_of_getElem? (i := 448) (by decide +kernel)⟩
theorem lw_p30 : lw_okq (⟨"LeverHallModel", "fall", "()V"⟩, 26) := ⟨⟨by decide +kernel, by decide +kernel⟩, List.mem_of_getElem? (i := 288) (by decide +kernel), List.mem_of_getElem? (i := 451) (by decide +kernel), List.mem_of_getElem? (i := 452) (by decide +kernel)⟩
theorem lw_p31 : lw_okq (⟨"LeverHallModel", "goOn", "()V"⟩, 26) := ⟨⟨by decide +kernel, by decide +kernel⟩, List.mem_of_getElem? (i := 288) (by decide +kernel), List.mem_of_getElem? (i := 455) (by decide +kernel), List.mem_of_getElem? (i := 456) (by decide +kernel)⟩
def lw_privs_2 : List (MethodName × Nat) := [(⟨"LeverHall", "doTry", "(LLeverHall$Deed;II)I"⟩, 13), (⟨"LeverHall", "doLater", "(LLeverHall$Deed;I)I"⟩, 13), (⟨"LeverHall", "doCount", "(LLeverHall$Deed;II)I"⟩, 13), (⟨"LeverHall", "doPlaces", "(III)I"⟩, 13), (⟨"LeverHall", "atPlace", "(II)LLeverHall$Deed;"⟩, 13), (⟨"LeverHall", "noteFailure", "()V"⟩, 13), (⟨"LeverHall", "doLongestWaiting", "()V"⟩, 13), (⟨"LeverHall", "slotsInUse", "()I"⟩, 13), (⟨"LeverHall", "emptyHall", "()V"⟩, 13), (⟨"LeverHall", "emptyDeeds", "()V"⟩, 13), (⟨"LeverHallModel", "reset", "()V"⟩, 26), (⟨"LeverHallModel", "refuse", "(I)I"⟩, 26), (⟨"LeverHallModel", "doing", "(II)I"⟩, 26), (⟨"LeverHallModel", "enter", "(II)V"⟩, 26), (⟨"LeverHallModel", "fall", "()V"⟩, 26), (⟨"LeverHallModel", "goOn", "()V"⟩, 26)]
theorem lw_r2 : ∀ q ∈ lw_privs_2, lw_okq q := List.forall_mem_cons.mpr ⟨lw_p16, List.forall_mem_cons.mpr ⟨lw_p17, List.forall_mem_cons.mpr ⟨lw_p18, List.forall_mem_cons.mpr ⟨lw_p19, List.forall_mem_cons.mpr ⟨lw_p20, List.forall_mem_cons.mpr ⟨lw_p21, List.forall_mem_cons.mpr ⟨lw_p22, List.forall_mem_cons.mpr ⟨lw_p23, List.forall_mem_cons.mpr ⟨lw_p24, List.forall_mem_cons.mpr ⟨lw_p25, List.forall_mem_cons.mpr ⟨lw_p26, List.forall_mem_cons.mpr ⟨lw_p27, List.forall_mem_cons.mpr ⟨lw_p28, List.forall_mem_cons.mpr ⟨lw_p29, List.forall_mem_cons.mpr ⟨lw_p30, List.forall_mem_cons.mpr ⟨lw_p31, fun _ h => absurd h List.not_mem_nil⟩⟩⟩⟩⟩⟩⟩⟩⟩⟩⟩⟩⟩⟩⟩⟩
theorem lw_p32 : lw_okq (⟨"LeverHallModel", "give", "(I)V"⟩, 26) := ⟨⟨by decide +kernel, by decide +kernel⟩, List.mem_of_getElem? (i := 288) (by decide +kernel), List.mem_of_getElem? (i := 459) (by decide +kernel), List.mem_of_getElem? (i := 460) (by decide +kernel)⟩
theorem lw_p33 : lw_okq (⟨"LeverHallModel", "alone", "(II)V"⟩, 26) := ⟨⟨by decide +kernel, by decide +kernel⟩, List.mem_of_getElem? (i := 288) (by decide +kernel), List.mem_of_getElem? (i := 463) (by decide +kernel), List.mem_of_getElem? (i := 464) (by decide +kernel)⟩
theorem lw_p34 : lw_okq (⟨"LeverHallModel", "draw", "(III)V"⟩, 26) := ⟨⟨by decide +kernel, by decide +kernel⟩, List.mem_of_getElem? (i := 288) (by decide +kernel), List.mem_of_getElem? (i := 467) (by decide +kernel), List.mem_of_getElem? (i := 468) (by decide +kernel)⟩
theorem lw_p35 : lw_okq (⟨"LeverHallModel", "later", "(II)V"⟩, 26) := ⟨⟨by decide +kernel, by decide +kernel⟩, List.mem_of_getElem? (i := 288) (by decide +kernel), List.mem_of_getElem? (i := 471) (by decide +kernel), List.mem_of_getElem? (i := 472) (by decide +kernel)⟩
def lw_privs_3 : List (MethodName × Nat) := [(⟨"LeverHallModel", "give", "(I)V"⟩, 26), (⟨"LeverHallModel", "alone", "(II)V"⟩, 26), (⟨"LeverHallModel", "draw", "(III)V"⟩, 26), (⟨"LeverHallModel", "later", "(II)V"⟩, 26)]
theorem lw_r3 : ∀ q ∈ lw_privs_3, lw_okq q := List.forall_mem_cons.mpr ⟨lw_p32, List.forall_mem_cons.mpr ⟨lw_p33, List.forall_mem_cons.mpr ⟨lw_p34, List.forall_mem_cons.mpr ⟨lw_p35, fun _ h => absurd h List.not_mem_nil⟩⟩⟩⟩
def lw_privs : List (MethodName × Nat) := lw_privs_1 ++ (lw_privs_2 ++ (lw_privs_3))
def lw_tbl : List Cond := k2_sels lw_privs ++ tables_1
theorem lw_privs_ok : ∀ q ∈ lw_privs, lw_okq q := by
  show ∀ q ∈ lw_privs_1 ++ (lw_privs_2 ++ (lw_privs_3)), lw_okq q
  exact List.forall_mem_append.mpr ⟨lw_r1, List.forall_mem_append.mpr ⟨lw_r2, lw_r3⟩⟩

def RX0 : String := "LeverHall$Deed"
def TX0 : u_T := fun k => match k with
  | 0 => ("LeverHall$Deed", "kind", "I", true)
  | 1 => ("LeverHall$Deed", "x", "I", true)
  | 2 => ("LeverHall$Deed", "y", "I", true)
  | 3 => ("LeverHall$Deed", "z", "I", true)
  | 4 => ("LeverHall$Deed", "first", "LLeverHall$Deed;", true)
  | 5 => ("LeverHall$Deed", "second", "LLeverHall$Deed;", true)
  | 6 => ("LeverHall$Deed", "gauge", "[I", true)
  | _ => ("LeverHall$Deed", "times", "I", false)
def tyX0 : Nat → FieldType := fun k => match k with
  | 0 => .int
  | 1 => .int
  | 2 => .int
  | 3 => .int
  | 4 => .object "LeverHall$Deed"
  | 5 => .object "LeverHall$Deed"
  | 6 => .array .int
  | _ => .int
abbrev wsX00 : List Cond := u_ws RX0 TX0 8
theorem nmX0 : ∀ a, a < 8 → ∀ b, b < 8 → a ≠ b → (TX0 a).2.1 ≠ (TX0 b).2.1 := by decide +kernel
theorem tyX0_ok : ∀ k, k < 8 → parseFieldDescriptor (TX0 k).2.2.1 = some (tyX0 k) := by decide +kernel
abbrev cX0_init : ByteArray := prog_2_method_1_code
def yX0_init : MethodName := ⟨RX0, "<init>", "(IIIILLeverHall$Deed;LLeverHall$Deed;[I)V"⟩
def RX1 : String := "LeverHall"
def TX1 : u_T := fun k => match k with
  | 0 => ("LeverHall", "basins", "[I", true)
  | 1 => ("LeverHall", "gauges", "[[I", true)
  | 2 => ("LeverHall", "slots", "[LLeverHall$Deed;", true)
  | 3 => ("LeverHall", "places", "[LLeverHall$Deed;", true)
  | 4 => ("LeverHall", "queue", "[LLeverHall$Deed;", true)
  | 5 => ("LeverHall", "powers", "[I", true)
  | 6 => ("LeverHall", "head", "I", false)
  | 7 => ("LeverHall", "waiting", "I", false)
  | 8 => ("LeverHall", "made", "I", false)
  | 9 => ("LeverHall", "steps", "I", false)
  | 10 => ("LeverHall", "failures", "I", false)
  | 11 => ("LeverHall", "why", "I", false)
  | _ => ("LeverHall", "latest", "I", false)
def tyX1 : Nat → FieldType := fun k => match k with
  | 0 => .array .int
  | 1 => .array (.array .int)
  | 2 => .array (.object "LeverHall$Deed")
  | 3 => .array (.object "LeverHall$Deed")
  | 4 => .array (.object "LeverHall$Deed")
  | 5 => .array .int
  | 6 => .int
  | 7 => .int
  | 8 => .int
  | 9 => .int
  | 10 => .int
  | 11 => .int
  | _ => .int
abbrev wsX10 : List Cond := u_ws RX1 TX1 13
theorem nmX1 : ∀ a, a < 13 → ∀ b, b < 13 → a ≠ b → (TX1 a).2.1 ≠ (TX1 b).2.1 := by decide +kernel
theorem tyX1_ok : ∀ k, k < 13 → parseFieldDescriptor (TX1 k).2.2.1 = some (tyX1 k) := by decide +kernel
abbrev cX1_init : ByteArray := prog_1_method_1_code
def yX1_init : MethodName := ⟨RX1, "<init>", "()V"⟩
abbrev cX1_fill : ByteArray := prog_1_method_2_code
def yX1_fill : MethodName := ⟨RX1, "fill", "(II)I"⟩
abbrev cX1_basin : ByteArray := prog_1_method_3_code
def yX1_basin : MethodName := ⟨RX1, "basin", "(I)I"⟩
abbrev cX1_gauge : ByteArray := prog_1_method_4_code
def yX1_gauge : MethodName := ⟨RX1, "gauge", "(II)I"⟩
abbrev cX1_mark : ByteArray := prog_1_method_5_code
def yX1_mark : MethodName := ⟨RX1, "mark", "(II)I"⟩
abbrev cX1_deed : ByteArray := prog_1_method_6_code
def yX1_deed : MethodName := ⟨RX1, "deed", "(IIIII)I"⟩
abbrev cX1_copy : ByteArray := prog_1_method_7_code
def yX1_copy : MethodName := ⟨RX1, "copy", "(II)I"⟩
abbrev cX1_drop : ByteArray := prog_1_method_8_code
def yX1_drop : MethodName := ⟨RX1, "drop", "(I)I"⟩
abbrev cX1_lever : ByteArray := prog_1_method_9_code
def yX1_lever : MethodName := ⟨RX1, "lever", "(III)I"⟩
abbrev cX1_same : ByteArray := prog_1_method_10_code
def yX1_same : MethodName := ⟨RX1, "same", "(II)I"⟩
abbrev cX1_count : ByteArray := prog_1_method_11_code
def yX1_count : MethodName := ⟨RX1, "count", "(I)I"⟩
abbrev cX1_act : ByteArray := prog_1_method_12_code
def yX1_act : MethodName := ⟨RX1, "act", "(II)I"⟩
abbrev cX1_pull : ByteArray := prog_1_method_13_code
def yX1_pull : MethodName := ⟨RX1, "pull", "(II)I"⟩
abbrev cX1_tick : ByteArray := prog_1_method_14_code
def yX1_tick : MethodName := ⟨RX1, "tick", "()I"⟩
abbrev cX1_failed : ByteArray := prog_1_method_15_code
def yX1_failed : MethodName := ⟨RX1, "failed", "()I"⟩
abbrev cX1_told : ByteArray := prog_1_method_16_code
def yX1_told : MethodName := ⟨RX1, "told", "(I)I"⟩
abbrev cX1_clear : ByteArray := prog_1_method_17_code
def yX1_clear : MethodName := ⟨RX1, "clear", "()I"⟩
abbrev cX1_isBasin : ByteArray := prog_1_method_18_code
def yX1_isBasin : MethodName := ⟨RX1, "isBasin", "(I)Z"⟩
abbrev cX1_isGauge : ByteArray := prog_1_method_19_code
def yX1_isGauge : MethodName := ⟨RX1, "isGauge", "(I)Z"⟩
abbrev cX1_isSlot : ByteArray := prog_1_method_20_code
def yX1_isSlot : MethodName := ⟨RX1, "isSlot", "(I)Z"⟩
abbrev cX1_isLever : ByteArray := prog_1_method_21_code
def yX1_isLever : MethodName := ⟨RX1, "isLever", "(I)Z"⟩
abbrev cX1_hasMark : ByteArray := prog_1_method_22_code
def yX1_hasMark : MethodName := ⟨RX1, "hasMark", "([II)Z"⟩
abbrev cX1_heldBy : ByteArray := prog_1_method_23_code
def yX1_heldBy : MethodName := ⟨RX1, "heldBy", "(I)I"⟩
abbrev cX1_pour : ByteArray := prog_1_method_24_code
def yX1_pour : MethodName := ⟨RX1, "pour", "(II)V"⟩
abbrev cX1_gaugeNow : ByteArray := prog_1_method_25_code
def yX1_gaugeNow : MethodName := ⟨RX1, "gaugeNow", "(I)[I"⟩
abbrev cX1_inSlot : ByteArray := prog_1_method_26_code
def yX1_inSlot : MethodName := ⟨RX1, "inSlot", "(I)LLeverHall$Deed;"⟩
abbrev cX1_atPlace : ByteArray := prog_1_method_27_code
def yX1_atPlace : MethodName := ⟨RX1, "atPlace", "(II)LLeverHall$Deed;"⟩
abbrev cX1_slotsInUse : ByteArray := prog_1_method_28_code
def yX1_slotsInUse : MethodName := ⟨RX1, "slotsInUse", "()I"⟩
abbrev cX1_emptyHall : ByteArray := prog_1_method_29_code
def yX1_emptyHall : MethodName := ⟨RX1, "emptyHall", "()V"⟩
abbrev cX1_emptyDeeds : ByteArray := prog_1_method_30_code
def yX1_emptyDeeds : MethodName := ⟨RX1, "emptyDeeds", "()V"⟩
abbrev cX1_namesWhatThereIs : ByteArray := prog_1_method_31_code
def yX1_namesWhatThereIs : MethodName := ⟨RX1, "namesWhatThereIs", "(IIII)Z"⟩
abbrev cX1_holdsFirst : ByteArray := prog_1_method_32_code
def yX1_holdsFirst : MethodName := ⟨RX1, "holdsFirst", "(I)Z"⟩
abbrev cX1_holdsSecond : ByteArray := prog_1_method_33_code
def yX1_holdsSecond : MethodName := ⟨RX1, "holdsSecond", "(I)Z"⟩
abbrev cX1_refuse : ByteArray := prog_1_method_34_code
def yX1_refuse : MethodName := ⟨RX1, "refuse", "(I)I"⟩
abbrev cX1_begin : ByteArray := prog_1_method_35_code
def yX1_begin : MethodName := ⟨RX1, "begin", "()V"⟩
abbrev cX1_noteFailure : ByteArray := prog_1_method_36_code
def yX1_noteFailure : MethodName := ⟨RX1, "noteFailure", "()V"⟩
abbrev cX1_fail : ByteArray := prog_1_method_37_code
def yX1_fail : MethodName := ⟨RX1, "fail", "(I)I"⟩
abbrev cX1_doLongestWaiting : ByteArray := prog_1_method_38_code
def yX1_doLongestWaiting : MethodName := ⟨RX1, "doLongestWaiting", "()V"⟩
abbrev cX1_doDeed : ByteArray := prog_1_method_39_code
def yX1_doDeed : MethodName := ⟨RX1, "doDeed", "(LLeverHall$Deed;II)I"⟩
abbrev cX1_doAlone : ByteArray := prog_1_method_40_code
def yX1_doAlone : MethodName := ⟨RX1, "doAlone", "(LLeverHall$Deed;I)I"⟩
abbrev cX1_doThroughOthers : ByteArray := prog_1_method_41_code
def yX1_doThroughOthers : MethodName := ⟨RX1, "doThroughOthers", "(LLeverHall$Deed;II)I"⟩
abbrev cX1_doSet : ByteArray := prog_1_method_42_code
def yX1_doSet : MethodName := ⟨RX1, "doSet", "(LLeverHall$Deed;I)I"⟩
abbrev cX1_doAdd : ByteArray := prog_1_method_43_code
def yX1_doAdd : MethodName := ⟨RX1, "doAdd", "(LLeverHall$Deed;I)I"⟩
abbrev cX1_doDraw : ByteArray := prog_1_method_44_code
def yX1_doDraw : MethodName := ⟨RX1, "doDraw", "(LLeverHall$Deed;I)I"⟩
abbrev cX1_doMark : ByteArray := prog_1_method_45_code
def yX1_doMark : MethodName := ⟨RX1, "doMark", "(LLeverHall$Deed;I)I"⟩
abbrev cX1_doThen : ByteArray := prog_1_method_46_code
def yX1_doThen : MethodName := ⟨RX1, "doThen", "(LLeverHall$Deed;II)I"⟩
abbrev cX1_doTimes : ByteArray := prog_1_method_47_code
def yX1_doTimes : MethodName := ⟨RX1, "doTimes", "(LLeverHall$Deed;II)I"⟩
abbrev cX1_doTry : ByteArray := prog_1_method_48_code
def yX1_doTry : MethodName := ⟨RX1, "doTry", "(LLeverHall$Deed;II)I"⟩
abbrev cX1_doLater : ByteArray := prog_1_method_49_code
def yX1_doLater : MethodName := ⟨RX1, "doLater", "(LLeverHall$Deed;I)I"⟩
abbrev cX1_doCount : ByteArray := prog_1_method_50_code
def yX1_doCount : MethodName := ⟨RX1, "doCount", "(LLeverHall$Deed;II)I"⟩
abbrev cX1_doPlaces : ByteArray := prog_1_method_51_code
def yX1_doPlaces : MethodName := ⟨RX1, "doPlaces", "(III)I"⟩
def RX2 : String := "LeverHallModel"
def TX2 : u_T := fun k => match k with
  | 0 => ("LeverHallModel", "basins", "[I", true)
  | 1 => ("LeverHallModel", "gauges", "I", false)
  | 2 => ("LeverHallModel", "wide", "[I", true)
  | 3 => ("LeverHallModel", "marks", "[I", true)
  | 4 => ("LeverHallModel", "gaugeNow", "[I", true)
  | 5 => ("LeverHallModel", "deeds", "I", false)
  | 6 => ("LeverHallModel", "kind", "[I", true)
  | 7 => ("LeverHallModel", "one", "[I", true)
  | 8 => ("LeverHallModel", "two", "[I", true)
  | 9 => ("LeverHallModel", "three", "[I", true)
  | 10 => ("LeverHallModel", "counts", "[I", true)
  | 11 => ("LeverHallModel", "slots", "[I", true)
  | 12 => ("LeverHallModel", "places", "[I", true)
  | 13 => ("LeverHallModel", "waiting", "I", false)
  | 14 => ("LeverHallModel", "waits", "[I", true)
  | 15 => ("LeverHallModel", "waitPower", "[I", true)
  | 16 => ("LeverHallModel", "steps", "I", false)
  | 17 => ("LeverHallModel", "failed", "I", false)
  | 18 => ("LeverHallModel", "failures", "I", false)
  | 19 => ("LeverHallModel", "pile", "I", false)
  | 20 => ("LeverHallModel", "deedAt", "[I", true)
  | 21 => ("LeverHallModel", "powerAt", "[I", true)
  | 22 => ("LeverHallModel", "stageAt", "[I", true)
  | 23 => ("LeverHallModel", "valueAt", "[I", true)
  | 24 => ("LeverHallModel", "fault", "I", false)
  | _ => ("LeverHallModel", "gave", "I", false)
def tyX2 : Nat → FieldType := fun k => match k with
  | 0 => .array .int
  | 1 => .int
  | 2 => .array .int
  | 3 => .array .int
  | 4 => .array .int
  | 5 => .int
  | 6 => .array .int
  | 7 => .array .int
  | 8 => .array .int
  | 9 => .array .int
  | 10 => .array .int
  | 11 => .array .int
  | 12 => .array .int
  | 13 => .int
  | 14 => .array .int
  | 15 => .array .int
  | 16 => .int
  | 17 => .int
  | 18 => .int
  | 19 => .int
  | 20 => .array .int
  | 21 => .array .int
  | 22 => .array .int
  | 23 => .array .int
  | 24 => .int
  | _ => .int
abbrev wsX20 : List Cond := u_ws RX2 TX2 26
theorem nmX2 : ∀ a, a < 26 → ∀ b, b < 26 → a ≠ b → (TX2 a).2.1 ≠ (TX2 b).2.1 := by decide +kernel
theorem tyX2_ok : ∀ k, k < 26 → parseFieldDescriptor (TX2 k).2.2.1 = some (tyX2 k) := by decide +kernel
abbrev cX2_init : ByteArray := prog_4_method_1_code
def yX2_init : MethodName := ⟨RX2, "<init>", "()V"⟩
abbrev cX2_reset : ByteArray := prog_4_method_2_code
def yX2_reset : MethodName := ⟨RX2, "reset", "()V"⟩
abbrev cX2_isIn : ByteArray := prog_4_method_3_code
def yX2_isIn : MethodName := ⟨RX2, "isIn", "(III)Z"⟩
abbrev cX2_isBasin : ByteArray := prog_4_method_4_code
def yX2_isBasin : MethodName := ⟨RX2, "isBasin", "(I)Z"⟩
abbrev cX2_isSlot : ByteArray := prog_4_method_5_code
def yX2_isSlot : MethodName := ⟨RX2, "isSlot", "(I)Z"⟩
abbrev cX2_fill : ByteArray := prog_4_method_6_code
def yX2_fill : MethodName := ⟨RX2, "fill", "(II)I"⟩
abbrev cX2_basin : ByteArray := prog_4_method_7_code
def yX2_basin : MethodName := ⟨RX2, "basin", "(I)I"⟩
abbrev cX2_gauge : ByteArray := prog_4_method_8_code
def yX2_gauge : MethodName := ⟨RX2, "gauge", "(II)I"⟩
abbrev cX2_mark : ByteArray := prog_4_method_9_code
def yX2_mark : MethodName := ⟨RX2, "mark", "(II)I"⟩
abbrev cX2_isRight : ByteArray := prog_4_method_10_code
def yX2_isRight : MethodName := ⟨RX2, "isRight", "(IIII)Z"⟩
abbrev cX2_holdsOne : ByteArray := prog_4_method_11_code
def yX2_holdsOne : MethodName := ⟨RX2, "holdsOne", "(I)Z"⟩
abbrev cX2_holdsTwo : ByteArray := prog_4_method_12_code
def yX2_holdsTwo : MethodName := ⟨RX2, "holdsTwo", "(I)Z"⟩
abbrev cX2_deed : ByteArray := prog_4_method_13_code
def yX2_deed : MethodName := ⟨RX2, "deed", "(IIIII)I"⟩
abbrev cX2_copy : ByteArray := prog_4_method_14_code
def yX2_copy : MethodName := ⟨RX2, "copy", "(II)I"⟩
abbrev cX2_drop : ByteArray := prog_4_method_15_code
def yX2_drop : MethodName := ⟨RX2, "drop", "(I)I"⟩
abbrev cX2_lever : ByteArray := prog_4_method_16_code
def yX2_lever : MethodName := ⟨RX2, "lever", "(III)I"⟩
abbrev cX2_same : ByteArray := prog_4_method_17_code
def yX2_same : MethodName := ⟨RX2, "same", "(II)I"⟩
abbrev cX2_count : ByteArray := prog_4_method_18_code
def yX2_count : MethodName := ⟨RX2, "count", "(I)I"⟩
abbrev cX2_enter : ByteArray := prog_4_method_19_code
def yX2_enter : MethodName := ⟨RX2, "enter", "(II)V"⟩
abbrev cX2_give : ByteArray := prog_4_method_20_code
def yX2_give : MethodName := ⟨RX2, "give", "(I)V"⟩
abbrev cX2_fall : ByteArray := prog_4_method_21_code
def yX2_fall : MethodName := ⟨RX2, "fall", "()V"⟩
abbrev cX2_draw : ByteArray := prog_4_method_22_code
def yX2_draw : MethodName := ⟨RX2, "draw", "(III)V"⟩
abbrev cX2_alone : ByteArray := prog_4_method_23_code
def yX2_alone : MethodName := ⟨RX2, "alone", "(II)V"⟩
abbrev cX2_later : ByteArray := prog_4_method_24_code
def yX2_later : MethodName := ⟨RX2, "later", "(II)V"⟩
abbrev cX2_goOn : ByteArray := prog_4_method_25_code
def yX2_goOn : MethodName := ⟨RX2, "goOn", "()V"⟩
abbrev cX2_doing : ByteArray := prog_4_method_26_code
def yX2_doing : MethodName := ⟨RX2, "doing", "(II)I"⟩
abbrev cX2_refuse : ByteArray := prog_4_method_27_code
def yX2_refuse : MethodName := ⟨RX2, "refuse", "(I)I"⟩
abbrev cX2_act : ByteArray := prog_4_method_28_code
def yX2_act : MethodName := ⟨RX2, "act", "(II)I"⟩
abbrev cX2_pull : ByteArray := prog_4_method_29_code
def yX2_pull : MethodName := ⟨RX2, "pull", "(II)I"⟩
abbrev cX2_tick : ByteArray := prog_4_method_30_code
def yX2_tick : MethodName := ⟨RX2, "tick", "()I"⟩
abbrev cX2_failed : ByteArray := prog_4_method_31_code
def yX2_failed : MethodName := ⟨RX2, "failed", "()I"⟩
abbrev cX2_told : ByteArray := prog_4_method_32_code
def yX2_told : MethodName := ⟨RX2, "told", "(I)I"⟩
abbrev cX2_clear : ByteArray := prog_4_method_33_code
def yX2_clear : MethodName := ⟨RX2, "clear", "()I"⟩
def RL : String := "LeverHallLaw"
abbrev cL_law : ByteArray := code
def yL_law : MethodName := ⟨RL, "law", "([I)Z"⟩
abbrev vwCl : List vw_C := [(RX0, TX0, 8), (RX1, TX1, 13), (RX2, TX2, 26)]

/-! words of the tables, by their places; wsA: those that a callee may ask -/
def wsA : List Cond := lw_tbl.filter goodWord
theorem wa_in : ∀ w ∈ wsA, w ∈ lw_tbl := fun _ h => (List.mem_filter.mp h).1
theorem gl_all : ∀ w ∈ wsA, goodWord w = true := fun _ h => (List.mem_filter.mp h).2
theorem wl_X0_0 : u_lay RX0 TX0 0 ∈ wsA := (List.mem_filter.mpr ⟨List.mem_of_getElem? (i := 174) (by decide +kernel), by decide +kernel⟩)
theorem wl_X0_1 : u_lay RX0 TX0 1 ∈ wsA := (List.mem_filter.mpr ⟨List.mem_of_getElem? (i := 176) (by decide +kernel), by decide +kernel⟩)
theorem wl_X0_2 : u_lay RX0 TX0 2 ∈ wsA := (List.mem_filter.mpr ⟨List.mem_of_getElem? (i := 178) (by decide +kernel), by decide +kernel⟩)
theorem wl_X0_3 : u_lay RX0 TX0 3 ∈ wsA := (List.mem_filter.mpr ⟨List.mem_of_getElem? (i := 180) (by decide +kernel), by decide +kernel⟩)
theorem wl_X0_4 : u_lay RX0 TX0 4 ∈ wsA := (List.mem_filter.mpr ⟨List.mem_of_getElem? (i := 182) (by decide +kernel), by decide +kernel⟩)
theorem wl_X0_5 : u_lay RX0 TX0 5 ∈ wsA := (List.mem_filter.mpr ⟨List.mem_of_getElem? (i := 184) (by decide +kernel), by decide +kernel⟩)
theorem wl_X0_6 : u_lay RX0 TX0 6 ∈ wsA := (List.mem_filter.mpr ⟨List.mem_of_getElem? (i := 186) (by decide +kernel), by decide +kernel⟩)
theorem wl_X0_7 : u_lay RX0 TX0 7 ∈ wsA := (List.mem_filter.mpr ⟨List.mem_of_getElem? (i := 188) (by decide +kernel), by decide +kernel⟩)
theorem inlX0 : ∀ w ∈ wsX00, w ∈ wsA := by
  intro w hw
  obtain ⟨k, hk, rfl⟩ := List.mem_map.mp hw
  have hk := List.mem_range.mp hk
  match k, hk with
  | 0, _ => exact wl_X0_0
  | 1, _ => exact wl_X0_1
  | 2, _ => exact wl_X0_2
  | 3, _ => exact wl_X0_3
  | 4, _ => exact wl_X0_4
  | 5, _ => exact wl_X0_5
  | 6, _ => exact wl_X0_6
  | 7, _ => exact wl_X0_7
  | k + 8, hk => exact absurd hk (by omega)
theorem wl_X1_0 : u_lay RX1 TX1 0 ∈ wsA := (List.mem_filter.mpr ⟨List.mem_of_getElem? (i := 65) (by decide +kernel), by decide +kernel⟩)
theorem wl_X1_1 : u_lay RX1 TX1 1 ∈ wsA := (List.mem_filter.mpr ⟨List.mem_of_getElem? (i := 67) (by decide +kernel), by decide +kernel⟩)
theorem wl_X1_2 : u_lay RX1 TX1 2 ∈ wsA := (List.mem_filter.mpr ⟨List.mem_of_getElem? (i := 69) (by decide +kernel), by decide +kernel⟩)
theorem wl_X1_3 : u_lay RX1 TX1 3 ∈ wsA := (List.mem_filter.mpr ⟨List.mem_of_getElem? (i := 71) (by decide +kernel), by decide +kernel⟩)
theorem wl_X1_4 : u_lay RX1 TX1 4 ∈ wsA := (List.mem_filter.mpr ⟨List.mem_of_getElem? (i := 73) (by decide +kernel), by decide +kernel⟩)
theorem wl_X1_5 : u_lay RX1 TX1 5 ∈ wsA := (List.mem_filter.mpr ⟨List.mem_of_getElem? (i := 75) (by decide +kernel), by decide +kernel⟩)
theorem wl_X1_6 : u_lay RX1 TX1 6 ∈ wsA := (List.mem_filter.mpr ⟨List.mem_of_getElem? (i := 77) (by decide +kernel), by decide +kernel⟩)
theorem wl_X1_7 : u_lay RX1 TX1 7 ∈ wsA := (List.mem_filter.mpr ⟨List.mem_of_getElem? (i := 79) (by decide +kernel), by decide +kernel⟩)
theorem wl_X1_8 : u_lay RX1 TX1 8 ∈ wsA := (List.mem_filter.mpr ⟨List.mem_of_getElem? (i := 81) (by decide +kernel), by decide +kernel⟩)
theorem wl_X1_9 : u_lay RX1 TX1 9 ∈ wsA := (List.mem_filter.mpr ⟨List.mem_of_getElem? (i := 83) (by decide +kernel), by decide +kernel⟩)
theorem wl_X1_10 : u_lay RX1 TX1 10 ∈ wsA := (List.mem_filter.mpr ⟨List.mem_of_getElem? (i := 85) (by decide +kernel), by decide +kernel⟩)
theorem wl_X1_11 : u_lay RX1 TX1 11 ∈ wsA := (List.mem_filter.mpr ⟨List.mem_of_getElem? (i := 87) (by decide +kernel), by decide +kernel⟩)
theorem wl_X1_12 : u_lay RX1 TX1 12 ∈ wsA := (List.mem_filter.mpr ⟨List.mem_of_getElem? (i := 89) (by decide +kernel), by decide +kernel⟩)
theorem inlX1 : ∀ w ∈ wsX10, w ∈ wsA := by
  intro w hw
  obtain ⟨k, hk, rfl⟩ := List.mem_map.mp hw
  have hk := List.mem_range.mp hk
  match k, hk with
  | 0, _ => exact wl_X1_0
  | 1, _ => exact wl_X1_1
  | 2, _ => exact wl_X1_2
  | 3, _ => exact wl_X1_3
  | 4, _ => exact wl_X1_4
  | 5, _ => exact wl_X1_5
  | 6, _ => exact wl_X1_6
  | 7, _ => exact wl_X1_7
  | 8, _ => exact wl_X1_8
  | 9, _ => exact wl_X1_9
  | 10, _ => exact wl_X1_10
  | 11, _ => exact wl_X1_11
  | 12, _ => exact wl_X1_12
  | k + 13, hk => exact absurd hk (by omega)
theorem wl_X2_0 : u_lay RX2 TX2 0 ∈ wsA := (List.mem_filter.mpr ⟨List.mem_of_getElem? (i := 359) (by decide +kernel), by decide +kernel⟩)
theorem wl_X2_1 : u_lay RX2 TX2 1 ∈ wsA := (List.mem_filter.mpr ⟨List.mem_of_getElem? (i := 361) (by decide +kernel), by decide +kernel⟩)
theorem wl_X2_2 : u_lay RX2 TX2 2 ∈ wsA := (List.mem_filter.mpr ⟨List.mem_of_getElem? (i := 363) (by decide +kernel), by decide +kernel⟩)
theorem wl_X2_3 : u_lay RX2 TX2 3 ∈ wsA := (List.mem_filter.mpr ⟨List.mem_of_getElem? (i := 365) (by decide +kernel), by decide +kernel⟩)
theorem wl_X2_4 : u_lay RX2 TX2 4 ∈ wsA := (List.mem_filter.mpr ⟨List.mem_of_getElem? (i := 367) (by decide +kernel), by decide +kernel⟩)
theorem wl_X2_5 : u_lay RX2 TX2 5 ∈ wsA := (List.mem_filter.mpr ⟨List.mem_of_getElem? (i := 369) (by decide +kernel), by decide +kernel⟩)
theorem wl_X2_6 : u_lay RX2 TX2 6 ∈ wsA := (List.mem_filter.mpr ⟨List.mem_of_getElem? (i := 371) (by decide +kernel), by decide +kernel⟩)
theorem wl_X2_7 : u_lay RX2 TX2 7 ∈ wsA := (List.mem_filter.mpr ⟨List.mem_of_getElem? (i := 373) (by decide +kernel), by decide +kernel⟩)
theorem wl_X2_8 : u_lay RX2 TX2 8 ∈ wsA := (List.mem_filter.mpr ⟨List.mem_of_getElem? (i := 375) (by decide +kernel), by decide +kernel⟩)
theorem wl_X2_9 : u_lay RX2 TX2 9 ∈ wsA := (List.mem_filter.mpr ⟨List.mem_of_getElem? (i := 377) (by decide +kernel), by decide +kernel⟩)
theorem wl_X2_10 : u_lay RX2 TX2 10 ∈ wsA := (List.mem_filter.mpr ⟨List.mem_of_getElem? (i := 379) (by decide +kernel), by decide +kernel⟩)
theorem wl_X2_11 : u_lay RX2 TX2 11 ∈ wsA := (List.mem_filter.mpr ⟨List.mem_of_getElem? (i := 381) (by decide +kernel), by decide +kernel⟩)
theorem wl_X2_12 : u_lay RX2 TX2 12 ∈ wsA := (List.mem_filter.mpr ⟨List.mem_of_getElem? (i := 383) (by decide +kernel), by decide +kernel⟩)
theorem wl_X2_13 : u_lay RX2 TX2 13 ∈ wsA := (List.mem_filter.mpr ⟨List.mem_of_getElem? (i := 385) (by decide +kernel), by decide +kernel⟩)
theorem wl_X2_14 : u_lay RX2 TX2 14 ∈ wsA := (List.mem_filter.mpr ⟨List.mem_of_getElem? (i := 387) (by decide +kernel), by decide +kernel⟩)
theorem wl_X2_15 : u_lay RX2 TX2 15 ∈ wsA := (List.mem_filter.mpr ⟨List.mem_of_getElem? (i := 389) (by decide +kernel), by decide +kernel⟩)
theorem wl_X2_16 : u_lay RX2 TX2 16 ∈ wsA := (List.mem_filter.mpr ⟨List.mem_of_getElem? (i := 391) (by decide +kernel), by decide +kernel⟩)
theorem wl_X2_17 : u_lay RX2 TX2 17 ∈ wsA := (List.mem_filter.mpr ⟨List.mem_of_getElem? (i := 393) (by decide +kernel), by decide +kernel⟩)
theorem wl_X2_18 : u_lay RX2 TX2 18 ∈ wsA := (List.mem_filter.mpr ⟨List.mem_of_getElem? (i := 395) (by decide +kernel), by decide +kernel⟩)
theorem wl_X2_19 : u_lay RX2 TX2 19 ∈ wsA := (List.mem_filter.mpr ⟨List.mem_of_getElem? (i := 397) (by decide +kernel), by decide +kernel⟩)
theorem wl_X2_20 : u_lay RX2 TX2 20 ∈ wsA := (List.mem_filter.mpr ⟨List.mem_of_getElem? (i := 399) (by decide +kernel), by decide +kernel⟩)
theorem wl_X2_21 : u_lay RX2 TX2 21 ∈ wsA := (List.mem_filter.mpr ⟨List.mem_of_getElem? (i := 401) (by decide +kernel), by decide +kernel⟩)
theorem wl_X2_22 : u_lay RX2 TX2 22 ∈ wsA := (List.mem_filter.mpr ⟨List.mem_of_getElem? (i := 403) (by decide +kernel), by decide +kernel⟩)
theorem wl_X2_23 : u_lay RX2 TX2 23 ∈ wsA := (List.mem_filter.mpr ⟨List.mem_of_getElem? (i := 405) (by decide +kernel), by decide +kernel⟩)
theorem wl_X2_24 : u_lay RX2 TX2 24 ∈ wsA := (List.mem_filter.mpr ⟨List.mem_of_getElem? (i := 407) (by decide +kernel), by decide +kernel⟩)
theorem wl_X2_25 : u_lay RX2 TX2 25 ∈ wsA := (List.mem_filter.mpr ⟨List.mem_of_getElem? (i := 409) (by decide +kernel), by decide +kernel⟩)
theorem inlX2 : ∀ w ∈ wsX20, w ∈ wsA := by
  intro w hw
  obtain ⟨k, hk, rfl⟩ := List.mem_map.mp hw
  have hk := List.mem_range.mp hk
  match k, hk with
  | 0, _ => exact wl_X2_0
  | 1, _ => exact wl_X2_1
  | 2, _ => exact wl_X2_2
  | 3, _ => exact wl_X2_3
  | 4, _ => exact wl_X2_4
  | 5, _ => exact wl_X2_5
  | 6, _ => exact wl_X2_6
  | 7, _ => exact wl_X2_7
  | 8, _ => exact wl_X2_8
  | 9, _ => exact wl_X2_9
  | 10, _ => exact wl_X2_10
  | 11, _ => exact wl_X2_11
  | 12, _ => exact wl_X2_12
  | 13, _ => exact wl_X2_13
  | 14, _ => exact wl_X2_14
  | 15, _ => exact wl_X2_15
  | 16, _ => exact wl_X2_16
  | 17, _ => exact wl_X2_17
  | 18, _ => exact wl_X2_18
  | 19, _ => exact wl_X2_19
  | 20, _ => exact wl_X2_20
  | 21, _ => exact wl_X2_21
  | 22, _ => exact wl_X2_22
  | 23, _ => exact wl_X2_23
  | 24, _ => exact wl_X2_24
  | 25, _ => exact wl_X2_25
  | k + 26, hk => exact absurd hk (by omega)
theorem wi_X0 : Cond.initialized RX0 ∈ wsA := (List.mem_filter.mpr ⟨List.mem_of_getElem? (i := 39) (by decide +kernel), by decide +kernel⟩)
theorem wi_X1 : Cond.initialized RX1 ∈ wsA := (List.mem_filter.mpr ⟨List.mem_of_getElem? (i := 37) (by decide +kernel), by decide +kernel⟩)
theorem wi_X2 : Cond.initialized RX2 ∈ wsA := (List.mem_filter.mpr ⟨List.mem_of_getElem? (i := 38) (by decide +kernel), by decide +kernel⟩)
theorem wi_L : Cond.initialized RL ∈ wsA := (List.mem_filter.mpr ⟨List.mem_of_getElem? (i := 36) (by decide +kernel), by decide +kernel⟩)
theorem wn_X1 : Cond.instantiable RX1 13 ∈ wsA := (List.mem_filter.mpr ⟨List.mem_of_getElem? (i := 41) (by decide +kernel), by decide +kernel⟩)
theorem wn_X0 : Cond.instantiable RX0 8 ∈ wsA := (List.mem_filter.mpr ⟨List.mem_of_getElem? (i := 153) (by decide +kernel), by decide +kernel⟩)
theorem wn_X2 : Cond.instantiable RX2 26 ∈ wsA := (List.mem_filter.mpr ⟨List.mem_of_getElem? (i := 324) (by decide +kernel), by decide +kernel⟩)
theorem wc_L_7 : Cond.classLink RL 7 RX1 ∈ wsA := (List.mem_filter.mpr ⟨List.mem_of_getElem? (i := 40) (by decide +kernel), by decide +kernel⟩)
theorem wc_X1_13 : Cond.classLink RX1 13 "[I" ∈ wsA := (List.mem_filter.mpr ⟨List.mem_of_getElem? (i := 48) (by decide +kernel), by decide +kernel⟩)
theorem wc_X1_18 : Cond.classLink RX1 18 RX0 ∈ wsA := (List.mem_filter.mpr ⟨List.mem_of_getElem? (i := 50) (by decide +kernel), by decide +kernel⟩)
theorem wf_X1_9 : Cond.fieldLink RX1 9 "LeverHall" "basins" "[I" ∈ wsA := (List.mem_filter.mpr ⟨List.mem_of_getElem? (i := 52) (by decide +kernel), by decide +kernel⟩)
theorem wf_X1_14 : Cond.fieldLink RX1 14 "LeverHall" "gauges" "[[I" ∈ wsA := (List.mem_filter.mpr ⟨List.mem_of_getElem? (i := 53) (by decide +kernel), by decide +kernel⟩)
theorem wf_X1_20 : Cond.fieldLink RX1 20 "LeverHall" "slots" "[LLeverHall$Deed;" ∈ wsA := (List.mem_filter.mpr ⟨List.mem_of_getElem? (i := 54) (by decide +kernel), by decide +kernel⟩)
theorem wf_X1_24 : Cond.fieldLink RX1 24 "LeverHall" "places" "[LLeverHall$Deed;" ∈ wsA := (List.mem_filter.mpr ⟨List.mem_of_getElem? (i := 55) (by decide +kernel), by decide +kernel⟩)
theorem wf_X1_27 : Cond.fieldLink RX1 27 "LeverHall" "queue" "[LLeverHall$Deed;" ∈ wsA := (List.mem_filter.mpr ⟨List.mem_of_getElem? (i := 56) (by decide +kernel), by decide +kernel⟩)
theorem wf_X1_30 : Cond.fieldLink RX1 30 "LeverHall" "powers" "[I" ∈ wsA := (List.mem_filter.mpr ⟨List.mem_of_getElem? (i := 57) (by decide +kernel), by decide +kernel⟩)
theorem wf_X1_33 : Cond.fieldLink RX1 33 "LeverHall" "head" "I" ∈ wsA := (List.mem_filter.mpr ⟨List.mem_of_getElem? (i := 58) (by decide +kernel), by decide +kernel⟩)
theorem wf_X1_37 : Cond.fieldLink RX1 37 "LeverHall" "waiting" "I" ∈ wsA := (List.mem_filter.mpr ⟨List.mem_of_getElem? (i := 59) (by decide +kernel), by decide +kernel⟩)
theorem wf_X1_40 : Cond.fieldLink RX1 40 "LeverHall" "made" "I" ∈ wsA := (List.mem_filter.mpr ⟨List.mem_of_getElem? (i := 60) (by decide +kernel), by decide +kernel⟩)
theorem wf_X1_43 : Cond.fieldLink RX1 43 "LeverHall" "steps" "I" ∈ wsA := (List.mem_filter.mpr ⟨List.mem_of_getElem? (i := 61) (by decide +kernel), by decide +kernel⟩)
theorem wf_X1_46 : Cond.fieldLink RX1 46 "LeverHall" "failures" "I" ∈ wsA := (List.mem_filter.mpr ⟨List.mem_of_getElem? (i := 62) (by decide +kernel), by decide +kernel⟩)
theorem wf_X1_49 : Cond.fieldLink RX1 49 "LeverHall" "why" "I" ∈ wsA := (List.mem_filter.mpr ⟨List.mem_of_getElem? (i := 63) (by decide +kernel), by decide +kernel⟩)
theorem wf_X1_52 : Cond.fieldLink RX1 52 "LeverHall" "latest" "I" ∈ wsA := (List.mem_filter.mpr ⟨List.mem_of_getElem? (i := 64) (by decide +kernel), by decide +kernel⟩)
theorem wf_X0_13 : Cond.fieldLink RX0 13 "LeverHall$Deed" "kind" "I" ∈ wsA := (List.mem_filter.mpr ⟨List.mem_of_getElem? (i := 158) (by decide +kernel), by decide +kernel⟩)
theorem wf_X0_16 : Cond.fieldLink RX0 16 "LeverHall$Deed" "x" "I" ∈ wsA := (List.mem_filter.mpr ⟨List.mem_of_getElem? (i := 160) (by decide +kernel), by decide +kernel⟩)
theorem wf_X0_19 : Cond.fieldLink RX0 19 "LeverHall$Deed" "y" "I" ∈ wsA := (List.mem_filter.mpr ⟨List.mem_of_getElem? (i := 162) (by decide +kernel), by decide +kernel⟩)
theorem wf_X0_22 : Cond.fieldLink RX0 22 "LeverHall$Deed" "z" "I" ∈ wsA := (List.mem_filter.mpr ⟨List.mem_of_getElem? (i := 164) (by decide +kernel), by decide +kernel⟩)
theorem wf_X0_25 : Cond.fieldLink RX0 25 "LeverHall$Deed" "first" "LLeverHall$Deed;" ∈ wsA := (List.mem_filter.mpr ⟨List.mem_of_getElem? (i := 166) (by decide +kernel), by decide +kernel⟩)
theorem wf_X0_29 : Cond.fieldLink RX0 29 "LeverHall$Deed" "second" "LLeverHall$Deed;" ∈ wsA := (List.mem_filter.mpr ⟨List.mem_of_getElem? (i := 168) (by decide +kernel), by decide +kernel⟩)
theorem wf_X0_32 : Cond.fieldLink RX0 32 "LeverHall$Deed" "gauge" "[I" ∈ wsA := (List.mem_filter.mpr ⟨List.mem_of_getElem? (i := 170) (by decide +kernel), by decide +kernel⟩)
theorem wf_X0_7 : Cond.fieldLink RX0 7 "LeverHall$Deed" "times" "I" ∈ wsA := (List.mem_filter.mpr ⟨List.mem_of_getElem? (i := 172) (by decide +kernel), by decide +kernel⟩)
theorem wc_L_10 : Cond.classLink RL 10 RX2 ∈ wsA := (List.mem_filter.mpr ⟨List.mem_of_getElem? (i := 323) (by decide +kernel), by decide +kernel⟩)
theorem wf_X2_7 : Cond.fieldLink RX2 7 "LeverHallModel" "basins" "[I" ∈ wsA := (List.mem_filter.mpr ⟨List.mem_of_getElem? (i := 333) (by decide +kernel), by decide +kernel⟩)
theorem wf_X2_64 : Cond.fieldLink RX2 64 "LeverHallModel" "gauges" "I" ∈ wsA := (List.mem_filter.mpr ⟨List.mem_of_getElem? (i := 334) (by decide +kernel), by decide +kernel⟩)
theorem wf_X2_13 : Cond.fieldLink RX2 13 "LeverHallModel" "wide" "[I" ∈ wsA := (List.mem_filter.mpr ⟨List.mem_of_getElem? (i := 335) (by decide +kernel), by decide +kernel⟩)
theorem wf_X2_16 : Cond.fieldLink RX2 16 "LeverHallModel" "marks" "[I" ∈ wsA := (List.mem_filter.mpr ⟨List.mem_of_getElem? (i := 336) (by decide +kernel), by decide +kernel⟩)
theorem wf_X2_19 : Cond.fieldLink RX2 19 "LeverHallModel" "gaugeNow" "[I" ∈ wsA := (List.mem_filter.mpr ⟨List.mem_of_getElem? (i := 337) (by decide +kernel), by decide +kernel⟩)
theorem wf_X2_68 : Cond.fieldLink RX2 68 "LeverHallModel" "deeds" "I" ∈ wsA := (List.mem_filter.mpr ⟨List.mem_of_getElem? (i := 338) (by decide +kernel), by decide +kernel⟩)
theorem wf_X2_22 : Cond.fieldLink RX2 22 "LeverHallModel" "kind" "[I" ∈ wsA := (List.mem_filter.mpr ⟨List.mem_of_getElem? (i := 339) (by decide +kernel), by decide +kernel⟩)
theorem wf_X2_25 : Cond.fieldLink RX2 25 "LeverHallModel" "one" "[I" ∈ wsA := (List.mem_filter.mpr ⟨List.mem_of_getElem? (i := 340) (by decide +kernel), by decide +kernel⟩)
theorem wf_X2_28 : Cond.fieldLink RX2 28 "LeverHallModel" "two" "[I" ∈ wsA := (List.mem_filter.mpr ⟨List.mem_of_getElem? (i := 341) (by decide +kernel), by decide +kernel⟩)
theorem wf_X2_31 : Cond.fieldLink RX2 31 "LeverHallModel" "three" "[I" ∈ wsA := (List.mem_filter.mpr ⟨List.mem_of_getElem? (i := 342) (by decide +kernel), by decide +kernel⟩)
theorem wf_X2_34 : Cond.fieldLink RX2 34 "LeverHallModel" "counts" "[I" ∈ wsA := (List.mem_filter.mpr ⟨List.mem_of_getElem? (i := 343) (by decide +kernel), by decide +kernel⟩)
theorem wf_X2_37 : Cond.fieldLink RX2 37 "LeverHallModel" "slots" "[I" ∈ wsA := (List.mem_filter.mpr ⟨List.mem_of_getElem? (i := 344) (by decide +kernel), by decide +kernel⟩)
theorem wf_X2_40 : Cond.fieldLink RX2 40 "LeverHallModel" "places" "[I" ∈ wsA := (List.mem_filter.mpr ⟨List.mem_of_getElem? (i := 345) (by decide +kernel), by decide +kernel⟩)
theorem wf_X2_71 : Cond.fieldLink RX2 71 "LeverHallModel" "waiting" "I" ∈ wsA := (List.mem_filter.mpr ⟨List.mem_of_getElem? (i := 346) (by decide +kernel), by decide +kernel⟩)
theorem wf_X2_43 : Cond.fieldLink RX2 43 "LeverHallModel" "waits" "[I" ∈ wsA := (List.mem_filter.mpr ⟨List.mem_of_getElem? (i := 347) (by decide +kernel), by decide +kernel⟩)
theorem wf_X2_46 : Cond.fieldLink RX2 46 "LeverHallModel" "waitPower" "[I" ∈ wsA := (List.mem_filter.mpr ⟨List.mem_of_getElem? (i := 348) (by decide +kernel), by decide +kernel⟩)
theorem wf_X2_74 : Cond.fieldLink RX2 74 "LeverHallModel" "steps" "I" ∈ wsA := (List.mem_filter.mpr ⟨List.mem_of_getElem? (i := 349) (by decide +kernel), by decide +kernel⟩)
theorem wf_X2_77 : Cond.fieldLink RX2 77 "LeverHallModel" "failed" "I" ∈ wsA := (List.mem_filter.mpr ⟨List.mem_of_getElem? (i := 350) (by decide +kernel), by decide +kernel⟩)
theorem wf_X2_80 : Cond.fieldLink RX2 80 "LeverHallModel" "failures" "I" ∈ wsA := (List.mem_filter.mpr ⟨List.mem_of_getElem? (i := 351) (by decide +kernel), by decide +kernel⟩)
theorem wf_X2_107 : Cond.fieldLink RX2 107 "LeverHallModel" "pile" "I" ∈ wsA := (List.mem_filter.mpr ⟨List.mem_of_getElem? (i := 352) (by decide +kernel), by decide +kernel⟩)
theorem wf_X2_49 : Cond.fieldLink RX2 49 "LeverHallModel" "deedAt" "[I" ∈ wsA := (List.mem_filter.mpr ⟨List.mem_of_getElem? (i := 353) (by decide +kernel), by decide +kernel⟩)
theorem wf_X2_52 : Cond.fieldLink RX2 52 "LeverHallModel" "powerAt" "[I" ∈ wsA := (List.mem_filter.mpr ⟨List.mem_of_getElem? (i := 354) (by decide +kernel), by decide +kernel⟩)
theorem wf_X2_55 : Cond.fieldLink RX2 55 "LeverHallModel" "stageAt" "[I" ∈ wsA := (List.mem_filter.mpr ⟨List.mem_of_getElem? (i := 355) (by decide +kernel), by decide +kernel⟩)
theorem wf_X2_58 : Cond.fieldLink RX2 58 "LeverHallModel" "valueAt" "[I" ∈ wsA := (List.mem_filter.mpr ⟨List.mem_of_getElem? (i := 356) (by decide +kernel), by decide +kernel⟩)
theorem wf_X2_104 : Cond.fieldLink RX2 104 "LeverHallModel" "fault" "I" ∈ wsA := (List.mem_filter.mpr ⟨List.mem_of_getElem? (i := 357) (by decide +kernel), by decide +kernel⟩)
theorem wf_X2_110 : Cond.fieldLink RX2 110 "LeverHallModel" "gave" "I" ∈ wsA := (List.mem_filter.mpr ⟨List.mem_of_getElem? (i := 358) (by decide +kernel), by decide +kernel⟩)
theorem wo_i : Cond.instanceMethod objectInit ∈ wsA := (List.mem_filter.mpr ⟨List.mem_of_getElem? (i := 46) (by decide +kernel), by decide +kernel⟩)
theorem wo_c : Cond.code objectInit ⟨#[0xb1]⟩ 1 none ∈ wsA := (List.mem_filter.mpr ⟨List.mem_of_getElem? (i := 47) (by decide +kernel), by decide +kernel⟩)
theorem wa_I : Cond.arrayClass .int ∈ wsA := (List.mem_filter.mpr ⟨List.mem_of_getElem? (i := 92) (by decide +kernel), rfl⟩)
abbrev kX1_init : Cond := .code yX1_init cX1_init 1 none
set_option maxRecDepth 20000 in
theorem wk_X1_init : kX1_init ∈ wsA := (List.mem_filter.mpr ⟨List.mem_of_getElem? (i := 44) rfl, by decide +kernel⟩)
abbrev kX1_fill : Cond := .code yX1_fill cX1_fill 4 (some (.int))
set_option maxRecDepth 20000 in
theorem wk_X1_fill : kX1_fill ∈ wsA := (List.mem_filter.mpr ⟨List.mem_of_getElem? (i := 96) rfl, by decide +kernel⟩)
abbrev kX1_heldBy : Cond := .code yX1_heldBy cX1_heldBy 2 (some (.int))
set_option maxRecDepth 20000 in
theorem wk_X1_heldBy : kX1_heldBy ∈ wsA := (List.mem_filter.mpr ⟨List.mem_of_getElem? (i := 100) rfl, by decide +kernel⟩)
abbrev kX1_isBasin : Cond := .code yX1_isBasin cX1_isBasin 1 (some (.boolean))
set_option maxRecDepth 20000 in
theorem wk_X1_isBasin : kX1_isBasin ∈ wsA := (List.mem_filter.mpr ⟨List.mem_of_getElem? (i := 103) rfl, by decide +kernel⟩)
abbrev kX1_pour : Cond := .code yX1_pour cX1_pour 3 none
set_option maxRecDepth 20000 in
theorem wk_X1_pour : kX1_pour ∈ wsA := (List.mem_filter.mpr ⟨List.mem_of_getElem? (i := 107) rfl, by decide +kernel⟩)
abbrev kX1_basin : Cond := .code yX1_basin cX1_basin 2 (some (.int))
set_option maxRecDepth 20000 in
theorem wk_X1_basin : kX1_basin ∈ wsA := (List.mem_filter.mpr ⟨List.mem_of_getElem? (i := 111) rfl, by decide +kernel⟩)
abbrev kX1_gauge : Cond := .code yX1_gauge cX1_gauge 3 (some (.int))
set_option maxRecDepth 20000 in
theorem wk_X1_gauge : kX1_gauge ∈ wsA := (List.mem_filter.mpr ⟨List.mem_of_getElem? (i := 115) rfl, by decide +kernel⟩)
abbrev kX1_isGauge : Cond := .code yX1_isGauge cX1_isGauge 1 (some (.boolean))
set_option maxRecDepth 20000 in
theorem wk_X1_isGauge : kX1_isGauge ∈ wsA := (List.mem_filter.mpr ⟨List.mem_of_getElem? (i := 118) rfl, by decide +kernel⟩)
abbrev kX1_mark : Cond := .code yX1_mark cX1_mark 4 (some (.int))
set_option maxRecDepth 20000 in
theorem wk_X1_mark : kX1_mark ∈ wsA := (List.mem_filter.mpr ⟨List.mem_of_getElem? (i := 122) rfl, by decide +kernel⟩)
abbrev kX1_gaugeNow : Cond := .code yX1_gaugeNow cX1_gaugeNow 2 (some (.array .int))
set_option maxRecDepth 20000 in
theorem wk_X1_gaugeNow : kX1_gaugeNow ∈ wsA := (List.mem_filter.mpr ⟨List.mem_of_getElem? (i := 126) rfl, by decide +kernel⟩)
abbrev kX1_hasMark : Cond := .code yX1_hasMark cX1_hasMark 2 (some (.boolean))
set_option maxRecDepth 20000 in
theorem wk_X1_hasMark : kX1_hasMark ∈ wsA := (List.mem_filter.mpr ⟨List.mem_of_getElem? (i := 129) rfl, by decide +kernel⟩)
abbrev kX1_deed : Cond := .code yX1_deed cX1_deed 10 (some (.int))
set_option maxRecDepth 20000 in
theorem wk_X1_deed : kX1_deed ∈ wsA := (List.mem_filter.mpr ⟨List.mem_of_getElem? (i := 133) rfl, by decide +kernel⟩)
abbrev kX1_isSlot : Cond := .code yX1_isSlot cX1_isSlot 1 (some (.boolean))
set_option maxRecDepth 20000 in
theorem wk_X1_isSlot : kX1_isSlot ∈ wsA := (List.mem_filter.mpr ⟨List.mem_of_getElem? (i := 136) rfl, by decide +kernel⟩)
abbrev kX1_namesWhatThereIs : Cond := .code yX1_namesWhatThereIs cX1_namesWhatThereIs 4 (some (.boolean))
set_option maxRecDepth 20000 in
theorem wk_X1_namesWhatThereIs : kX1_namesWhatThereIs ∈ wsA := (List.mem_filter.mpr ⟨List.mem_of_getElem? (i := 139) rfl, by decide +kernel⟩)
abbrev kX1_isLever : Cond := .code yX1_isLever cX1_isLever 1 (some (.boolean))
set_option maxRecDepth 20000 in
theorem wk_X1_isLever : kX1_isLever ∈ wsA := (List.mem_filter.mpr ⟨List.mem_of_getElem? (i := 142) rfl, by decide +kernel⟩)
abbrev kX1_holdsFirst : Cond := .code yX1_holdsFirst cX1_holdsFirst 1 (some (.boolean))
set_option maxRecDepth 20000 in
theorem wk_X1_holdsFirst : kX1_holdsFirst ∈ wsA := (List.mem_filter.mpr ⟨List.mem_of_getElem? (i := 145) rfl, by decide +kernel⟩)
abbrev kX1_inSlot : Cond := .code yX1_inSlot cX1_inSlot 2 (some (.object "LeverHall$Deed"))
set_option maxRecDepth 20000 in
theorem wk_X1_inSlot : kX1_inSlot ∈ wsA := (List.mem_filter.mpr ⟨List.mem_of_getElem? (i := 149) rfl, by decide +kernel⟩)
abbrev kX1_holdsSecond : Cond := .code yX1_holdsSecond cX1_holdsSecond 1 (some (.boolean))
set_option maxRecDepth 20000 in
theorem wk_X1_holdsSecond : kX1_holdsSecond ∈ wsA := (List.mem_filter.mpr ⟨List.mem_of_getElem? (i := 152) rfl, by decide +kernel⟩)
abbrev kX0_init : Cond := .code yX0_init cX0_init 8 none
set_option maxRecDepth 20000 in
theorem wk_X0_init : kX0_init ∈ wsA := (List.mem_filter.mpr ⟨List.mem_of_getElem? (i := 156) rfl, by decide +kernel⟩)
abbrev kX1_copy : Cond := .code yX1_copy cX1_copy 3 (some (.int))
set_option maxRecDepth 20000 in
theorem wk_X1_copy : kX1_copy ∈ wsA := (List.mem_filter.mpr ⟨List.mem_of_getElem? (i := 194) rfl, by decide +kernel⟩)
abbrev kX1_drop : Cond := .code yX1_drop cX1_drop 2 (some (.int))
set_option maxRecDepth 20000 in
theorem wk_X1_drop : kX1_drop ∈ wsA := (List.mem_filter.mpr ⟨List.mem_of_getElem? (i := 198) rfl, by decide +kernel⟩)
abbrev kX1_lever : Cond := .code yX1_lever cX1_lever 5 (some (.int))
set_option maxRecDepth 20000 in
theorem wk_X1_lever : kX1_lever ∈ wsA := (List.mem_filter.mpr ⟨List.mem_of_getElem? (i := 202) rfl, by decide +kernel⟩)
abbrev kX1_same : Cond := .code yX1_same cX1_same 3 (some (.int))
set_option maxRecDepth 20000 in
theorem wk_X1_same : kX1_same ∈ wsA := (List.mem_filter.mpr ⟨List.mem_of_getElem? (i := 206) rfl, by decide +kernel⟩)
abbrev kX1_count : Cond := .code yX1_count cX1_count 3 (some (.int))
set_option maxRecDepth 20000 in
theorem wk_X1_count : kX1_count ∈ wsA := (List.mem_filter.mpr ⟨List.mem_of_getElem? (i := 210) rfl, by decide +kernel⟩)
abbrev kX1_act : Cond := .code yX1_act cX1_act 4 (some (.int))
set_option maxRecDepth 20000 in
theorem wk_X1_act : kX1_act ∈ wsA := (List.mem_filter.mpr ⟨List.mem_of_getElem? (i := 214) rfl, by decide +kernel⟩)
abbrev kX1_refuse : Cond := .code yX1_refuse cX1_refuse 2 (some (.int))
set_option maxRecDepth 20000 in
theorem wk_X1_refuse : kX1_refuse ∈ wsA := (List.mem_filter.mpr ⟨List.mem_of_getElem? (i := 218) rfl, by decide +kernel⟩)
abbrev kX1_begin : Cond := .code yX1_begin cX1_begin 1 none
set_option maxRecDepth 20000 in
theorem wk_X1_begin : kX1_begin ∈ wsA := (List.mem_filter.mpr ⟨List.mem_of_getElem? (i := 222) rfl, by decide +kernel⟩)
abbrev kX1_doDeed : Cond := .code yX1_doDeed cX1_doDeed 4 (some (.int))
set_option maxRecDepth 20000 in
theorem wk_X1_doDeed : kX1_doDeed ∈ wsA := (List.mem_filter.mpr ⟨List.mem_of_getElem? (i := 226) rfl, by decide +kernel⟩)
abbrev kX1_fail : Cond := .code yX1_fail cX1_fail 2 (some (.int))
set_option maxRecDepth 20000 in
theorem wk_X1_fail : kX1_fail ∈ wsA := (List.mem_filter.mpr ⟨List.mem_of_getElem? (i := 230) rfl, by decide +kernel⟩)
abbrev kX1_doAlone : Cond := .code yX1_doAlone cX1_doAlone 3 (some (.int))
set_option maxRecDepth 20000 in
theorem wk_X1_doAlone : kX1_doAlone ∈ wsA := (List.mem_filter.mpr ⟨List.mem_of_getElem? (i := 234) rfl, by decide +kernel⟩)
abbrev kX1_doSet : Cond := .code yX1_doSet cX1_doSet 4 (some (.int))
set_option maxRecDepth 20000 in
theorem wk_X1_doSet : kX1_doSet ∈ wsA := (List.mem_filter.mpr ⟨List.mem_of_getElem? (i := 238) rfl, by decide +kernel⟩)
abbrev kX1_doAdd : Cond := .code yX1_doAdd cX1_doAdd 3 (some (.int))
set_option maxRecDepth 20000 in
theorem wk_X1_doAdd : kX1_doAdd ∈ wsA := (List.mem_filter.mpr ⟨List.mem_of_getElem? (i := 242) rfl, by decide +kernel⟩)
abbrev kX1_doDraw : Cond := .code yX1_doDraw cX1_doDraw 3 (some (.int))
set_option maxRecDepth 20000 in
theorem wk_X1_doDraw : kX1_doDraw ∈ wsA := (List.mem_filter.mpr ⟨List.mem_of_getElem? (i := 246) rfl, by decide +kernel⟩)
abbrev kX1_doMark : Cond := .code yX1_doMark cX1_doMark 4 (some (.int))
set_option maxRecDepth 20000 in
theorem wk_X1_doMark : kX1_doMark ∈ wsA := (List.mem_filter.mpr ⟨List.mem_of_getElem? (i := 250) rfl, by decide +kernel⟩)
abbrev kX1_doThroughOthers : Cond := .code yX1_doThroughOthers cX1_doThroughOthers 4 (some (.int))
set_option maxRecDepth 20000 in
theorem wk_X1_doThroughOthers : kX1_doThroughOthers ∈ wsA := (List.mem_filter.mpr ⟨List.mem_of_getElem? (i := 254) rfl, by decide +kernel⟩)
abbrev kX1_doThen : Cond := .code yX1_doThen cX1_doThen 5 (some (.int))
set_option maxRecDepth 20000 in
theorem wk_X1_doThen : kX1_doThen ∈ wsA := (List.mem_filter.mpr ⟨List.mem_of_getElem? (i := 258) rfl, by decide +kernel⟩)
abbrev kX1_doTimes : Cond := .code yX1_doTimes cX1_doTimes 6 (some (.int))
set_option maxRecDepth 20000 in
theorem wk_X1_doTimes : kX1_doTimes ∈ wsA := (List.mem_filter.mpr ⟨List.mem_of_getElem? (i := 262) rfl, by decide +kernel⟩)
abbrev kX1_doTry : Cond := .code yX1_doTry cX1_doTry 5 (some (.int))
set_option maxRecDepth 20000 in
theorem wk_X1_doTry : kX1_doTry ∈ wsA := (List.mem_filter.mpr ⟨List.mem_of_getElem? (i := 266) rfl, by decide +kernel⟩)
abbrev kX1_doLater : Cond := .code yX1_doLater cX1_doLater 4 (some (.int))
set_option maxRecDepth 20000 in
theorem wk_X1_doLater : kX1_doLater ∈ wsA := (List.mem_filter.mpr ⟨List.mem_of_getElem? (i := 270) rfl, by decide +kernel⟩)
abbrev kX1_doCount : Cond := .code yX1_doCount cX1_doCount 4 (some (.int))
set_option maxRecDepth 20000 in
theorem wk_X1_doCount : kX1_doCount ∈ wsA := (List.mem_filter.mpr ⟨List.mem_of_getElem? (i := 274) rfl, by decide +kernel⟩)
abbrev kX1_doPlaces : Cond := .code yX1_doPlaces cX1_doPlaces 6 (some (.int))
set_option maxRecDepth 20000 in
theorem wk_X1_doPlaces : kX1_doPlaces ∈ wsA := (List.mem_filter.mpr ⟨List.mem_of_getElem? (i := 278) rfl, by decide +kernel⟩)
abbrev kX1_atPlace : Cond := .code yX1_atPlace cX1_atPlace 3 (some (.object "LeverHall$Deed"))
set_option maxRecDepth 20000 in
theorem wk_X1_atPlace : kX1_atPlace ∈ wsA := (List.mem_filter.mpr ⟨List.mem_of_getElem? (i := 282) rfl, by decide +kernel⟩)
abbrev kX1_noteFailure : Cond := .code yX1_noteFailure cX1_noteFailure 1 none
set_option maxRecDepth 20000 in
theorem wk_X1_noteFailure : kX1_noteFailure ∈ wsA := (List.mem_filter.mpr ⟨List.mem_of_getElem? (i := 286) rfl, by decide +kernel⟩)
abbrev kX1_pull : Cond := .code yX1_pull cX1_pull 4 (some (.int))
set_option maxRecDepth 20000 in
theorem wk_X1_pull : kX1_pull ∈ wsA := (List.mem_filter.mpr ⟨List.mem_of_getElem? (i := 290) rfl, by decide +kernel⟩)
abbrev kX1_tick : Cond := .code yX1_tick cX1_tick 4 (some (.int))
set_option maxRecDepth 20000 in
theorem wk_X1_tick : kX1_tick ∈ wsA := (List.mem_filter.mpr ⟨List.mem_of_getElem? (i := 294) rfl, by decide +kernel⟩)
abbrev kX1_doLongestWaiting : Cond := .code yX1_doLongestWaiting cX1_doLongestWaiting 3 none
set_option maxRecDepth 20000 in
theorem wk_X1_doLongestWaiting : kX1_doLongestWaiting ∈ wsA := (List.mem_filter.mpr ⟨List.mem_of_getElem? (i := 298) rfl, by decide +kernel⟩)
abbrev kX1_failed : Cond := .code yX1_failed cX1_failed 1 (some (.int))
set_option maxRecDepth 20000 in
theorem wk_X1_failed : kX1_failed ∈ wsA := (List.mem_filter.mpr ⟨List.mem_of_getElem? (i := 302) rfl, by decide +kernel⟩)
abbrev kX1_told : Cond := .code yX1_told cX1_told 2 (some (.int))
set_option maxRecDepth 20000 in
theorem wk_X1_told : kX1_told ∈ wsA := (List.mem_filter.mpr ⟨List.mem_of_getElem? (i := 306) rfl, by decide +kernel⟩)
abbrev kX1_slotsInUse : Cond := .code yX1_slotsInUse cX1_slotsInUse 3 (some (.int))
set_option maxRecDepth 20000 in
theorem wk_X1_slotsInUse : kX1_slotsInUse ∈ wsA := (List.mem_filter.mpr ⟨List.mem_of_getElem? (i := 310) rfl, by decide +kernel⟩)
abbrev kX1_clear : Cond := .code yX1_clear cX1_clear 2 (some (.int))
set_option maxRecDepth 20000 in
theorem wk_X1_clear : kX1_clear ∈ wsA := (List.mem_filter.mpr ⟨List.mem_of_getElem? (i := 314) rfl, by decide +kernel⟩)
abbrev kX1_emptyHall : Cond := .code yX1_emptyHall cX1_emptyHall 2 none
set_option maxRecDepth 20000 in
theorem wk_X1_emptyHall : kX1_emptyHall ∈ wsA := (List.mem_filter.mpr ⟨List.mem_of_getElem? (i := 318) rfl, by decide +kernel⟩)
abbrev kX1_emptyDeeds : Cond := .code yX1_emptyDeeds cX1_emptyDeeds 2 none
set_option maxRecDepth 20000 in
theorem wk_X1_emptyDeeds : kX1_emptyDeeds ∈ wsA := (List.mem_filter.mpr ⟨List.mem_of_getElem? (i := 322) rfl, by decide +kernel⟩)
abbrev kX2_init : Cond := .code yX2_init cX2_init 1 none
set_option maxRecDepth 20000 in
theorem wk_X2_init : kX2_init ∈ wsA := (List.mem_filter.mpr ⟨List.mem_of_getElem? (i := 327) rfl, by decide +kernel⟩)
abbrev kX2_reset : Cond := .code yX2_reset cX2_reset 2 none
set_option maxRecDepth 20000 in
theorem wk_X2_reset : kX2_reset ∈ wsA := (List.mem_filter.mpr ⟨List.mem_of_getElem? (i := 332) rfl, by decide +kernel⟩)
abbrev kX2_fill : Cond := .code yX2_fill cX2_fill 4 (some (.int))
set_option maxRecDepth 20000 in
theorem wk_X2_fill : kX2_fill ∈ wsA := (List.mem_filter.mpr ⟨List.mem_of_getElem? (i := 415) rfl, by decide +kernel⟩)
abbrev kX2_isBasin : Cond := .code yX2_isBasin cX2_isBasin 1 (some (.boolean))
set_option maxRecDepth 20000 in
theorem wk_X2_isBasin : kX2_isBasin ∈ wsA := (List.mem_filter.mpr ⟨List.mem_of_getElem? (i := 418) rfl, by decide +kernel⟩)
abbrev kX2_isIn : Cond := .code yX2_isIn cX2_isIn 3 (some (.boolean))
set_option maxRecDepth 20000 in
theorem wk_X2_isIn : kX2_isIn ∈ wsA := (List.mem_filter.mpr ⟨List.mem_of_getElem? (i := 421) rfl, by decide +kernel⟩)
abbrev kX2_basin : Cond := .code yX2_basin cX2_basin 2 (some (.int))
set_option maxRecDepth 20000 in
theorem wk_X2_basin : kX2_basin ∈ wsA := (List.mem_filter.mpr ⟨List.mem_of_getElem? (i := 425) rfl, by decide +kernel⟩)
abbrev kX2_gauge : Cond := .code yX2_gauge cX2_gauge 4 (some (.int))
set_option maxRecDepth 20000 in
theorem wk_X2_gauge : kX2_gauge ∈ wsA := (List.mem_filter.mpr ⟨List.mem_of_getElem? (i := 429) rfl, by decide +kernel⟩)
abbrev kX2_mark : Cond := .code yX2_mark cX2_mark 3 (some (.int))
set_option maxRecDepth 20000 in
theorem wk_X2_mark : kX2_mark ∈ wsA := (List.mem_filter.mpr ⟨List.mem_of_getElem? (i := 433) rfl, by decide +kernel⟩)
abbrev kX2_deed : Cond := .code yX2_deed cX2_deed 6 (some (.int))
set_option maxRecDepth 20000 in
theorem wk_X2_deed : kX2_deed ∈ wsA := (List.mem_filter.mpr ⟨List.mem_of_getElem? (i := 437) rfl, by decide +kernel⟩)
abbrev kX2_isSlot : Cond := .code yX2_isSlot cX2_isSlot 1 (some (.boolean))
set_option maxRecDepth 20000 in
theorem wk_X2_isSlot : kX2_isSlot ∈ wsA := (List.mem_filter.mpr ⟨List.mem_of_getElem? (i := 440) rfl, by decide +kernel⟩)
abbrev kX2_isRight : Cond := .code yX2_isRight cX2_isRight 4 (some (.boolean))
set_option maxRecDepth 20000 in
theorem wk_X2_isRight : kX2_isRight ∈ wsA := (List.mem_filter.mpr ⟨List.mem_of_getElem? (i := 443) rfl, by decide +kernel⟩)
abbrev kX2_holdsOne : Cond := .code yX2_holdsOne cX2_holdsOne 1 (some (.boolean))
set_option maxRecDepth 20000 in
theorem wk_X2_holdsOne : kX2_holdsOne ∈ wsA := (List.mem_filter.mpr ⟨List.mem_of_getElem? (i := 446) rfl, by decide +kernel⟩)
abbrev kX2_holdsTwo : Cond := .code yX2_holdsTwo cX2_holdsTwo 1 (some (.boolean))
set_option maxRecDepth 20000 in
theorem wk_X2_holdsTwo : kX2_holdsTwo ∈ wsA := (List.mem_filter.mpr ⟨List.mem_of_getElem? (i := 449) rfl, by decide +kernel⟩)
abbrev kX2_copy : Cond := .code yX2_copy cX2_copy 3 (some (.int))
set_option maxRecDepth 20000 in
theorem wk_X2_copy : kX2_copy ∈ wsA := (List.mem_filter.mpr ⟨List.mem_of_getElem? (i := 453) rfl, by decide +kernel⟩)
abbrev kX2_drop : Cond := .code yX2_drop cX2_drop 2 (some (.int))
set_option maxRecDepth 20000 in
theorem wk_X2_drop : kX2_drop ∈ wsA := (List.mem_filter.mpr ⟨List.mem_of_getElem? (i := 457) rfl, by decide +kernel⟩)
abbrev kX2_lever : Cond := .code yX2_lever cX2_lever 4 (some (.int))
set_option maxRecDepth 20000 in
theorem wk_X2_lever : kX2_lever ∈ wsA := (List.mem_filter.mpr ⟨List.mem_of_getElem? (i := 461) rfl, by decide +kernel⟩)
abbrev kX2_same : Cond := .code yX2_same cX2_same 3 (some (.int))
set_option maxRecDepth 20000 in
theorem wk_X2_same : kX2_same ∈ wsA := (List.mem_filter.mpr ⟨List.mem_of_getElem? (i := 465) rfl, by decide +kernel⟩)
abbrev kX2_count : Cond := .code yX2_count cX2_count 2 (some (.int))
set_option maxRecDepth 20000 in
theorem wk_X2_count : kX2_count ∈ wsA := (List.mem_filter.mpr ⟨List.mem_of_getElem? (i := 469) rfl, by decide +kernel⟩)
abbrev kX2_act : Cond := .code yX2_act cX2_act 3 (some (.int))
set_option maxRecDepth 20000 in
theorem wk_X2_act : kX2_act ∈ wsA := (List.mem_filter.mpr ⟨List.mem_of_getElem? (i := 473) rfl, by decide +kernel⟩)
abbrev kX2_refuse : Cond := .code yX2_refuse cX2_refuse 2 (some (.int))
set_option maxRecDepth 20000 in
theorem wk_X2_refuse : kX2_refuse ∈ wsA := (List.mem_filter.mpr ⟨List.mem_of_getElem? (i := 477) rfl, by decide +kernel⟩)
abbrev kX2_doing : Cond := .code yX2_doing cX2_doing 3 (some (.int))
set_option maxRecDepth 20000 in
theorem wk_X2_doing : kX2_doing ∈ wsA := (List.mem_filter.mpr ⟨List.mem_of_getElem? (i := 481) rfl, by decide +kernel⟩)
abbrev kX2_enter : Cond := .code yX2_enter cX2_enter 3 none
set_option maxRecDepth 20000 in
theorem wk_X2_enter : kX2_enter ∈ wsA := (List.mem_filter.mpr ⟨List.mem_of_getElem? (i := 485) rfl, by decide +kernel⟩)
abbrev kX2_fall : Cond := .code yX2_fall cX2_fall 3 none
set_option maxRecDepth 20000 in
theorem wk_X2_fall : kX2_fall ∈ wsA := (List.mem_filter.mpr ⟨List.mem_of_getElem? (i := 489) rfl, by decide +kernel⟩)
abbrev kX2_goOn : Cond := .code yX2_goOn cX2_goOn 6 none
set_option maxRecDepth 20000 in
theorem wk_X2_goOn : kX2_goOn ∈ wsA := (List.mem_filter.mpr ⟨List.mem_of_getElem? (i := 493) rfl, by decide +kernel⟩)
abbrev kX2_give : Cond := .code yX2_give cX2_give 2 none
set_option maxRecDepth 20000 in
theorem wk_X2_give : kX2_give ∈ wsA := (List.mem_filter.mpr ⟨List.mem_of_getElem? (i := 497) rfl, by decide +kernel⟩)
abbrev kX2_alone : Cond := .code yX2_alone cX2_alone 6 none
set_option maxRecDepth 20000 in
theorem wk_X2_alone : kX2_alone ∈ wsA := (List.mem_filter.mpr ⟨List.mem_of_getElem? (i := 501) rfl, by decide +kernel⟩)
abbrev kX2_draw : Cond := .code yX2_draw cX2_draw 4 none
set_option maxRecDepth 20000 in
theorem wk_X2_draw : kX2_draw ∈ wsA := (List.mem_filter.mpr ⟨List.mem_of_getElem? (i := 505) rfl, by decide +kernel⟩)
abbrev kX2_later : Cond := .code yX2_later cX2_later 3 none
set_option maxRecDepth 20000 in
theorem wk_X2_later : kX2_later ∈ wsA := (List.mem_filter.mpr ⟨List.mem_of_getElem? (i := 509) rfl, by decide +kernel⟩)
abbrev kX2_pull : Cond := .code yX2_pull cX2_pull 5 (some (.int))
set_option maxRecDepth 20000 in
theorem wk_X2_pull : kX2_pull ∈ wsA := (List.mem_filter.mpr ⟨List.mem_of_getElem? (i := 513) rfl, by decide +kernel⟩)
abbrev kX2_tick : Cond := .code yX2_tick cX2_tick 7 (some (.int))
set_option maxRecDepth 20000 in
theorem wk_X2_tick : kX2_tick ∈ wsA := (List.mem_filter.mpr ⟨List.mem_of_getElem? (i := 517) rfl, by decide +kernel⟩)
abbrev kX2_failed : Cond := .code yX2_failed cX2_failed 1 (some (.int))
set_option maxRecDepth 20000 in
theorem wk_X2_failed : kX2_failed ∈ wsA := (List.mem_filter.mpr ⟨List.mem_of_getElem? (i := 521) rfl, by decide +kernel⟩)
abbrev kX2_told : Cond := .code yX2_told cX2_told 4 (some (.int))
set_option maxRecDepth 20000 in
theorem wk_X2_told : kX2_told ∈ wsA := (List.mem_filter.mpr ⟨List.mem_of_getElem? (i := 525) rfl, by decide +kernel⟩)
abbrev kX2_clear : Cond := .code yX2_clear cX2_clear 2 (some (.int))
set_option maxRecDepth 20000 in
theorem wk_X2_clear : kX2_clear ∈ wsA := (List.mem_filter.mpr ⟨List.mem_of_getElem? (i := 529) rfl, by decide +kernel⟩)
def vwd (own : String) (idx : Nat) (y : MethodName) (cd : Cond) : Prop := Cond.methodLink own idx y ∈ wsA ∧ Cond.instanceMethod y ∈ wsA ∧ Cond.selects y.cls y y ∈ wsA ∧ Cond.initialized y.cls ∈ wsA ∧ cd ∈ wsA
def swd (own : String) (idx : Nat) (y : MethodName) (cd : Cond) : Prop := Cond.methodLink own idx y ∈ wsA ∧ Cond.static y ∈ wsA ∧ Cond.initialized own ∈ wsA ∧ cd ∈ wsA
def iwd (own : String) (idx : Nat) (y : MethodName) (cd : Cond) : Prop := Cond.methodLink own idx y ∈ wsA ∧ Cond.instanceMethod y ∈ wsA ∧ Cond.initialized y.cls ∈ wsA ∧ cd ∈ wsA
theorem wm_X1_init : Cond.instanceMethod yX1_init ∈ wsA := (List.mem_filter.mpr ⟨List.mem_of_getElem? (i := 43) (by decide +kernel), by decide +kernel⟩)
theorem wm_X1_fill : Cond.instanceMethod yX1_fill ∈ wsA := (List.mem_filter.mpr ⟨List.mem_of_getElem? (i := 94) (by decide +kernel), by decide +kernel⟩)
theorem ws_X1_fill : Cond.selects RX1 yX1_fill yX1_fill ∈ wsA := (List.mem_filter.mpr ⟨List.mem_of_getElem? (i := 95) (by decide +kernel), by decide +kernel⟩)
theorem wm_X1_heldBy : Cond.instanceMethod yX1_heldBy ∈ wsA := (List.mem_filter.mpr ⟨List.mem_of_getElem? (i := 99) (by decide +kernel), by decide +kernel⟩)
theorem ws_X1_heldBy : Cond.selects RX1 yX1_heldBy yX1_heldBy ∈ wsA := (List.mem_filter.mpr ⟨List.mem_of_getElem? (i := 0) (by decide +kernel), by decide +kernel⟩)
theorem wm_X1_isBasin : Cond.static yX1_isBasin ∈ wsA := (List.mem_filter.mpr ⟨List.mem_of_getElem? (i := 102) (by decide +kernel), by decide +kernel⟩)
theorem wm_X1_pour : Cond.instanceMethod yX1_pour ∈ wsA := (List.mem_filter.mpr ⟨List.mem_of_getElem? (i := 106) (by decide +kernel), by decide +kernel⟩)
theorem ws_X1_pour : Cond.selects RX1 yX1_pour yX1_pour ∈ wsA := (List.mem_filter.mpr ⟨List.mem_of_getElem? (i := 1) (by decide +kernel), by decide +kernel⟩)
theorem wm_X1_basin : Cond.instanceMethod yX1_basin ∈ wsA := (List.mem_filter.mpr ⟨List.mem_of_getElem? (i := 109) (by decide +kernel), by decide +kernel⟩)
theorem ws_X1_basin : Cond.selects RX1 yX1_basin yX1_basin ∈ wsA := (List.mem_filter.mpr ⟨List.mem_of_getElem? (i := 110) (by decide +kernel), by decide +kernel⟩)
theorem wm_X1_gauge : Cond.instanceMethod yX1_gauge ∈ wsA := (List.mem_filter.mpr ⟨List.mem_of_getElem? (i := 113) (by decide +kernel), by decide +kernel⟩)
theorem ws_X1_gauge : Cond.selects RX1 yX1_gauge yX1_gauge ∈ wsA := (List.mem_filter.mpr ⟨List.mem_of_getElem? (i := 114) (by decide +kernel), by decide +kernel⟩)
theorem wm_X1_isGauge : Cond.static yX1_isGauge ∈ wsA := (List.mem_filter.mpr ⟨List.mem_of_getElem? (i := 117) (by decide +kernel), by decide +kernel⟩)
theorem wm_X1_mark : Cond.instanceMethod yX1_mark ∈ wsA := (List.mem_filter.mpr ⟨List.mem_of_getElem? (i := 120) (by decide +kernel), by decide +kernel⟩)
theorem ws_X1_mark : Cond.selects RX1 yX1_mark yX1_mark ∈ wsA := (List.mem_filter.mpr ⟨List.mem_of_getElem? (i := 121) (by decide +kernel), by decide +kernel⟩)
theorem wm_X1_gaugeNow : Cond.instanceMethod yX1_gaugeNow ∈ wsA := (List.mem_filter.mpr ⟨List.mem_of_getElem? (i := 125) (by decide +kernel), by decide +kernel⟩)
theorem ws_X1_gaugeNow : Cond.selects RX1 yX1_gaugeNow yX1_gaugeNow ∈ wsA := (List.mem_filter.mpr ⟨List.mem_of_getElem? (i := 2) (by decide +kernel), by decide +kernel⟩)
theorem wm_X1_hasMark : Cond.static yX1_hasMark ∈ wsA := (List.mem_filter.mpr ⟨List.mem_of_getElem? (i := 128) (by decide +kernel), by decide +kernel⟩)
theorem wm_X1_deed : Cond.instanceMethod yX1_deed ∈ wsA := (List.mem_filter.mpr ⟨List.mem_of_getElem? (i := 131) (by decide +kernel), by decide +kernel⟩)
theorem ws_X1_deed : Cond.selects RX1 yX1_deed yX1_deed ∈ wsA := (List.mem_filter.mpr ⟨List.mem_of_getElem? (i := 132) (by decide +kernel), by decide +kernel⟩)
theorem wm_X1_isSlot : Cond.static yX1_isSlot ∈ wsA := (List.mem_filter.mpr ⟨List.mem_of_getElem? (i := 135) (by decide +kernel), by decide +kernel⟩)
theorem wm_X1_namesWhatThereIs : Cond.static yX1_namesWhatThereIs ∈ wsA := (List.mem_filter.mpr ⟨List.mem_of_getElem? (i := 138) (by decide +kernel), by decide +kernel⟩)
theorem wm_X1_isLever : Cond.static yX1_isLever ∈ wsA := (List.mem_filter.mpr ⟨List.mem_of_getElem? (i := 141) (by decide +kernel), by decide +kernel⟩)
theorem wm_X1_holdsFirst : Cond.static yX1_holdsFirst ∈ wsA := (List.mem_filter.mpr ⟨List.mem_of_getElem? (i := 144) (by decide +kernel), by decide +kernel⟩)
theorem wm_X1_inSlot : Cond.instanceMethod yX1_inSlot ∈ wsA := (List.mem_filter.mpr ⟨List.mem_of_getElem? (i := 148) (by decide +kernel), by decide +kernel⟩)
theorem ws_X1_inSlot : Cond.selects RX1 yX1_inSlot yX1_inSlot ∈ wsA := (List.mem_filter.mpr ⟨List.mem_of_getElem? (i := 3) (by decide +kernel), by decide +kernel⟩)
theorem wm_X1_holdsSecond : Cond.static yX1_holdsSecond ∈ wsA := (List.mem_filter.mpr ⟨List.mem_of_getElem? (i := 151) (by decide +kernel), by decide +kernel⟩)
theorem wm_X0_init : Cond.instanceMethod yX0_init ∈ wsA := (List.mem_filter.mpr ⟨List.mem_of_getElem? (i := 155) (by decide +kernel), by decide +kernel⟩)
theorem wm_X1_copy : Cond.instanceMethod yX1_copy ∈ wsA := (List.mem_filter.mpr ⟨List.mem_of_getElem? (i := 192) (by decide +kernel), by decide +kernel⟩)
theorem ws_X1_copy : Cond.selects RX1 yX1_copy yX1_copy ∈ wsA := (List.mem_filter.mpr ⟨List.mem_of_getElem? (i := 193) (by decide +kernel), by decide +kernel⟩)
theorem wm_X1_drop : Cond.instanceMethod yX1_drop ∈ wsA := (List.mem_filter.mpr ⟨List.mem_of_getElem? (i := 196) (by decide +kernel), by decide +kernel⟩)
theorem ws_X1_drop : Cond.selects RX1 yX1_drop yX1_drop ∈ wsA := (List.mem_filter.mpr ⟨List.mem_of_getElem? (i := 197) (by decide +kernel), by decide +kernel⟩)
theorem wm_X1_lever : Cond.instanceMethod yX1_lever ∈ wsA := (List.mem_filter.mpr ⟨List.mem_of_getElem? (i := 200) (by decide +kernel), by decide +kernel⟩)
theorem ws_X1_lever : Cond.selects RX1 yX1_lever yX1_lever ∈ wsA := (List.mem_filter.mpr ⟨List.mem_of_getElem? (i := 201) (by decide +kernel), by decide +kernel⟩)
theorem wm_X1_same : Cond.instanceMethod yX1_same ∈ wsA := (List.mem_filter.mpr ⟨List.mem_of_getElem? (i := 204) (by decide +kernel), by decide +kernel⟩)
theorem ws_X1_same : Cond.selects RX1 yX1_same yX1_same ∈ wsA := (List.mem_filter.mpr ⟨List.mem_of_getElem? (i := 205) (by decide +kernel), by decide +kernel⟩)
theorem wm_X1_count : Cond.instanceMethod yX1_count ∈ wsA := (List.mem_filter.mpr ⟨List.mem_of_getElem? (i := 208) (by decide +kernel), by decide +kernel⟩)
theorem ws_X1_count : Cond.selects RX1 yX1_count yX1_count ∈ wsA := (List.mem_filter.mpr ⟨List.mem_of_getElem? (i := 209) (by decide +kernel), by decide +kernel⟩)
theorem wm_X1_act : Cond.instanceMethod yX1_act ∈ wsA := (List.mem_filter.mpr ⟨List.mem_of_getElem? (i := 212) (by decide +kernel), by decide +kernel⟩)
theorem ws_X1_act : Cond.selects RX1 yX1_act yX1_act ∈ wsA := (List.mem_filter.mpr ⟨List.mem_of_getElem? (i := 213) (by decide +kernel), by decide +kernel⟩)
theorem wm_X1_refuse : Cond.instanceMethod yX1_refuse ∈ wsA := (List.mem_filter.mpr ⟨List.mem_of_getElem? (i := 217) (by decide +kernel), by decide +kernel⟩)
theorem ws_X1_refuse : Cond.selects RX1 yX1_refuse yX1_refuse ∈ wsA := (List.mem_filter.mpr ⟨List.mem_of_getElem? (i := 4) (by decide +kernel), by decide +kernel⟩)
theorem wm_X1_begin : Cond.instanceMethod yX1_begin ∈ wsA := (List.mem_filter.mpr ⟨List.mem_of_getElem? (i := 221) (by decide +kernel), by decide +kernel⟩)
theorem ws_X1_begin : Cond.selects RX1 yX1_begin yX1_begin ∈ wsA := (List.mem_filter.mpr ⟨List.mem_of_getElem? (i := 5) (by decide +kernel), by decide +kernel⟩)
theorem wm_X1_doDeed : Cond.instanceMethod yX1_doDeed ∈ wsA := (List.mem_filter.mpr ⟨List.mem_of_getElem? (i := 225) (by decide +kernel), by decide +kernel⟩)
theorem ws_X1_doDeed : Cond.selects RX1 yX1_doDeed yX1_doDeed ∈ wsA := (List.mem_filter.mpr ⟨List.mem_of_getElem? (i := 6) (by decide +kernel), by decide +kernel⟩)
theorem wm_X1_fail : Cond.instanceMethod yX1_fail ∈ wsA := (List.mem_filter.mpr ⟨List.mem_of_getElem? (i := 229) (by decide +kernel), by decide +kernel⟩)
theorem ws_X1_fail : Cond.selects RX1 yX1_fail yX1_fail ∈ wsA := (List.mem_filter.mpr ⟨List.mem_of_getElem? (i := 7) (by decide +kernel), by decide +kernel⟩)
theorem wm_X1_doAlone : Cond.instanceMethod yX1_doAlone ∈ wsA := (List.mem_filter.mpr ⟨List.mem_of_getElem? (i := 233) (by decide +kernel), by decide +kernel⟩)
theorem ws_X1_doAlone : Cond.selects RX1 yX1_doAlone yX1_doAlone ∈ wsA := (List.mem_filter.mpr ⟨List.mem_of_getElem? (i := 8) (by decide +kernel), by decide +kernel⟩)
theorem wm_X1_doSet : Cond.instanceMethod yX1_doSet ∈ wsA := (List.mem_filter.mpr ⟨List.mem_of_getElem? (i := 237) (by decide +kernel), by decide +kernel⟩)
theorem ws_X1_doSet : Cond.selects RX1 yX1_doSet yX1_doSet ∈ wsA := (List.mem_filter.mpr ⟨List.mem_of_getElem? (i := 9) (by decide +kernel), by decide +kernel⟩)
theorem wm_X1_doAdd : Cond.instanceMethod yX1_doAdd ∈ wsA := (List.mem_filter.mpr ⟨List.mem_of_getElem? (i := 241) (by decide +kernel), by decide +kernel⟩)
theorem ws_X1_doAdd : Cond.selects RX1 yX1_doAdd yX1_doAdd ∈ wsA := (List.mem_filter.mpr ⟨List.mem_of_getElem? (i := 10) (by decide +kernel), by decide +kernel⟩)
theorem wm_X1_doDraw : Cond.instanceMethod yX1_doDraw ∈ wsA := (List.mem_filter.mpr ⟨List.mem_of_getElem? (i := 245) (by decide +kernel), by decide +kernel⟩)
theorem ws_X1_doDraw : Cond.selects RX1 yX1_doDraw yX1_doDraw ∈ wsA := (List.mem_filter.mpr ⟨List.mem_of_getElem? (i := 11) (by decide +kernel), by decide +kernel⟩)
theorem wm_X1_doMark : Cond.instanceMethod yX1_doMark ∈ wsA := (List.mem_filter.mpr ⟨List.mem_of_getElem? (i := 249) (by decide +kernel), by decide +kernel⟩)
theorem ws_X1_doMark : Cond.selects RX1 yX1_doMark yX1_doMark ∈ wsA := (List.mem_filter.mpr ⟨List.mem_of_getElem? (i := 12) (by decide +kernel), by decide +kernel⟩)
theorem wm_X1_doThroughOthers : Cond.instanceMethod yX1_doThroughOthers ∈ wsA := (List.mem_filter.mpr ⟨List.mem_of_getElem? (i := 253) (by decide +kernel), by decide +kernel⟩)
theorem ws_X1_doThroughOthers : Cond.selects RX1 yX1_doThroughOthers yX1_doThroughOthers ∈ wsA := (List.mem_filter.mpr ⟨List.mem_of_getElem? (i := 13) (by decide +kernel), by decide +kernel⟩)
theorem wm_X1_doThen : Cond.instanceMethod yX1_doThen ∈ wsA := (List.mem_filter.mpr ⟨List.mem_of_getElem? (i := 257) (by decide +kernel), by decide +kernel⟩)
theorem ws_X1_doThen : Cond.selects RX1 yX1_doThen yX1_doThen ∈ wsA := (List.mem_filter.mpr ⟨List.mem_of_getElem? (i := 14) (by decide +kernel), by decide +kernel⟩)
theorem wm_X1_doTimes : Cond.instanceMethod yX1_doTimes ∈ wsA := (List.mem_filter.mpr ⟨List.mem_of_getElem? (i := 261) (by decide +kernel), by decide +kernel⟩)
theorem ws_X1_doTimes : Cond.selects RX1 yX1_doTimes yX1_doTimes ∈ wsA := (List.mem_filter.mpr ⟨List.mem_of_getElem? (i := 15) (by decide +kernel), by decide +kernel⟩)
theorem wm_X1_doTry : Cond.instanceMethod yX1_doTry ∈ wsA := (List.mem_filter.mpr ⟨List.mem_of_getElem? (i := 265) (by decide +kernel), by decide +kernel⟩)
theorem ws_X1_doTry : Cond.selects RX1 yX1_doTry yX1_doTry ∈ wsA := (List.mem_filter.mpr ⟨List.mem_of_getElem? (i := 16) (by decide +kernel), by decide +kernel⟩)
theorem wm_X1_doLater : Cond.instanceMethod yX1_doLater ∈ wsA := (List.mem_filter.mpr ⟨List.mem_of_getElem? (i := 269) (by decide +kernel), by decide +kernel⟩)
theorem ws_X1_doLater : Cond.selects RX1 yX1_doLater yX1_doLater ∈ wsA := (List.mem_filter.mpr ⟨List.mem_of_getElem? (i := 17) (by decide +kernel), by decide +kernel⟩)
theorem wm_X1_doCount : Cond.instanceMethod yX1_doCount ∈ wsA := (List.mem_filter.mpr ⟨List.mem_of_getElem? (i := 273) (by decide +kernel), by decide +kernel⟩)
theorem ws_X1_doCount : Cond.selects RX1 yX1_doCount yX1_doCount ∈ wsA := (List.mem_filter.mpr ⟨List.mem_of_getElem? (i := 18) (by decide +kernel), by decide +kernel⟩)
theorem wm_X1_doPlaces : Cond.instanceMethod yX1_doPlaces ∈ wsA := (List.mem_filter.mpr ⟨List.mem_of_getElem? (i := 277) (by decide +kernel), by decide +kernel⟩)
theorem ws_X1_doPlaces : Cond.selects RX1 yX1_doPlaces yX1_doPlaces ∈ wsA := (List.mem_filter.mpr ⟨List.mem_of_getElem? (i := 19) (by decide +kernel), by decide +kernel⟩)
theorem wm_X1_atPlace : Cond.instanceMethod yX1_atPlace ∈ wsA := (List.mem_filter.mpr ⟨List.mem_of_getElem? (i := 281) (by decide +kernel), by decide +kernel⟩)
theorem ws_X1_atPlace : Cond.selects RX1 yX1_atPlace yX1_atPlace ∈ wsA := (List.mem_filter.mpr ⟨List.mem_of_getElem? (i := 20) (by decide +kernel), by decide +kernel⟩)
theorem wm_X1_noteFailure : Cond.instanceMethod yX1_noteFailure ∈ wsA := (List.mem_filter.mpr ⟨List.mem_of_getElem? (i := 285) (by decide +kernel), by decide +kernel⟩)
theorem ws_X1_noteFailure : Cond.selects RX1 yX1_noteFailure yX1_noteFailure ∈ wsA := (List.mem_filter.mpr ⟨List.mem_of_getElem? (i := 21) (by decide +kernel), by decide +kernel⟩)
theorem wm_X1_pull : Cond.instanceMethod yX1_pull ∈ wsA := (List.mem_filter.mpr ⟨List.mem_of_getElem? (i := 288) (by decide +kernel), by decide +kernel⟩)
theorem ws_X1_pull : Cond.selects RX1 yX1_pull yX1_pull ∈ wsA := (List.mem_filter.mpr ⟨List.mem_of_getElem? (i := 289) (by decide +kernel), by decide +kernel⟩)
theorem wm_X1_tick : Cond.instanceMethod yX1_tick ∈ wsA := (List.mem_filter.mpr ⟨List.mem_of_getElem? (i := 292) (by decide +kernel), by decide +kernel⟩)
theorem ws_X1_tick : Cond.selects RX1 yX1_tick yX1_tick ∈ wsA := (List.mem_filter.mpr ⟨List.mem_of_getElem? (i := 293) (by decide +kernel), by decide +kernel⟩)
theorem wm_X1_doLongestWaiting : Cond.instanceMethod yX1_doLongestWaiting ∈ wsA := (List.mem_filter.mpr ⟨List.mem_of_getElem? (i := 297) (by decide +kernel), by decide +kernel⟩)
theorem ws_X1_doLongestWaiting : Cond.selects RX1 yX1_doLongestWaiting yX1_doLongestWaiting ∈ wsA := (List.mem_filter.mpr ⟨List.mem_of_getElem? (i := 22) (by decide +kernel), by decide +kernel⟩)
theorem wm_X1_failed : Cond.instanceMethod yX1_failed ∈ wsA := (List.mem_filter.mpr ⟨List.mem_of_getElem? (i := 300) (by decide +kernel), by decide +kernel⟩)
theorem ws_X1_failed : Cond.selects RX1 yX1_failed yX1_failed ∈ wsA := (List.mem_filter.mpr ⟨List.mem_of_getElem? (i := 301) (by decide +kernel), by decide +kernel⟩)
theorem wm_X1_told : Cond.instanceMethod yX1_told ∈ wsA := (List.mem_filter.mpr ⟨List.mem_of_getElem? (i := 304) (by decide +kernel), by decide +kernel⟩)
theorem ws_X1_told : Cond.selects RX1 yX1_told yX1_told ∈ wsA := (List.mem_filter.mpr ⟨List.mem_of_getElem? (i := 305) (by decide +kernel), by decide +kernel⟩)
theorem wm_X1_slotsInUse : Cond.instanceMethod yX1_slotsInUse ∈ wsA := (List.mem_filter.mpr ⟨List.mem_of_getElem? (i := 309) (by decide +kernel), by decide +kernel⟩)
theorem ws_X1_slotsInUse : Cond.selects RX1 yX1_slotsInUse yX1_slotsInUse ∈ wsA := (List.mem_filter.mpr ⟨List.mem_of_getElem? (i := 23) (by decide +kernel), by decide +kernel⟩)
theorem wm_X1_clear : Cond.instanceMethod yX1_clear ∈ wsA := (List.mem_filter.mpr ⟨List.mem_of_getElem? (i := 312) (by decide +kernel), by decide +kernel⟩)
theorem ws_X1_clear : Cond.selects RX1 yX1_clear yX1_clear ∈ wsA := (List.mem_filter.mpr ⟨List.mem_of_getElem? (i := 313) (by decide +kernel), by decide +kernel⟩)
theorem wm_X1_emptyHall : Cond.instanceMethod yX1_emptyHall ∈ wsA := (List.mem_filter.mpr ⟨List.mem_of_getElem? (i := 317) (by decide +kernel), by decide +kernel⟩)
theorem ws_X1_emptyHall : Cond.selects RX1 yX1_emptyHall yX1_emptyHall ∈ wsA := (List.mem_filter.mpr ⟨List.mem_of_getElem? (i := 24) (by decide +kernel), by decide +kernel⟩)
theorem wm_X1_emptyDeeds : Cond.instanceMethod yX1_emptyDeeds ∈ wsA := (List.mem_filter.mpr ⟨List.mem_of_getElem? (i := 321) (by decide +kernel), by decide +kernel⟩)
theorem ws_X1_emptyDeeds : Cond.selects RX1 yX1_emptyDeeds yX1_emptyDeeds ∈ wsA := (List.mem_filter.mpr ⟨List.mem_of_getElem? (i := 25) (by decide +kernel), by decide +kernel⟩)
theorem wm_X2_init : Cond.instanceMethod yX2_init ∈ wsA := (List.mem_filter.mpr ⟨List.mem_of_getElem? (i := 326) (by decide +kernel), by decide +kernel⟩)
theorem wm_X2_reset : Cond.instanceMethod yX2_reset ∈ wsA := (List.mem_filter.mpr ⟨List.mem_of_getElem? (i := 331) (by decide +kernel), by decide +kernel⟩)
theorem ws_X2_reset : Cond.selects RX2 yX2_reset yX2_reset ∈ wsA := (List.mem_filter.mpr ⟨List.mem_of_getElem? (i := 26) (by decide +kernel), by decide +kernel⟩)
theorem wm_X2_fill : Cond.instanceMethod yX2_fill ∈ wsA := (List.mem_filter.mpr ⟨List.mem_of_getElem? (i := 413) (by decide +kernel), by decide +kernel⟩)
theorem ws_X2_fill : Cond.selects RX2 yX2_fill yX2_fill ∈ wsA := (List.mem_filter.mpr ⟨List.mem_of_getElem? (i := 414) (by decide +kernel), by decide +kernel⟩)
theorem wm_X2_isBasin : Cond.static yX2_isBasin ∈ wsA := (List.mem_filter.mpr ⟨List.mem_of_getElem? (i := 417) (by decide +kernel), by decide +kernel⟩)
theorem wm_X2_isIn : Cond.static yX2_isIn ∈ wsA := (List.mem_filter.mpr ⟨List.mem_of_getElem? (i := 420) (by decide +kernel), by decide +kernel⟩)
theorem wm_X2_basin : Cond.instanceMethod yX2_basin ∈ wsA := (List.mem_filter.mpr ⟨List.mem_of_getElem? (i := 423) (by decide +kernel), by decide +kernel⟩)
theorem ws_X2_basin : Cond.selects RX2 yX2_basin yX2_basin ∈ wsA := (List.mem_filter.mpr ⟨List.mem_of_getElem? (i := 424) (by decide +kernel), by decide +kernel⟩)
theorem wm_X2_gauge : Cond.instanceMethod yX2_gauge ∈ wsA := (List.mem_filter.mpr ⟨List.mem_of_getElem? (i := 427) (by decide +kernel), by decide +kernel⟩)
theorem ws_X2_gauge : Cond.selects RX2 yX2_gauge yX2_gauge ∈ wsA := (List.mem_filter.mpr ⟨List.mem_of_getElem? (i := 428) (by decide +kernel), by decide +kernel⟩)
theorem wm_X2_mark : Cond.instanceMethod yX2_mark ∈ wsA := (List.mem_filter.mpr ⟨List.mem_of_getElem? (i := 431) (by decide +kernel), by decide +kernel⟩)
theorem ws_X2_mark : Cond.selects RX2 yX2_mark yX2_mark ∈ wsA := (List.mem_filter.mpr ⟨List.mem_of_getElem? (i := 432) (by decide +kernel), by decide +kernel⟩)
theorem wm_X2_deed : Cond.instanceMethod yX2_deed ∈ wsA := (List.mem_filter.mpr ⟨List.mem_of_getElem? (i := 435) (by decide +kernel), by decide +kernel⟩)
theorem ws_X2_deed : Cond.selects RX2 yX2_deed yX2_deed ∈ wsA := (List.mem_filter.mpr ⟨List.mem_of_getElem? (i := 436) (by decide +kernel), by decide +kernel⟩)
theorem wm_X2_isSlot : Cond.static yX2_isSlot ∈ wsA := (List.mem_filter.mpr ⟨List.mem_of_getElem? (i := 439) (by decide +kernel), by decide +kernel⟩)
theorem wm_X2_isRight : Cond.static yX2_isRight ∈ wsA := (List.mem_filter.mpr ⟨List.mem_of_getElem? (i := 442) (by decide +kernel), by decide +kernel⟩)
theorem wm_X2_holdsOne : Cond.static yX2_holdsOne ∈ wsA := (List.mem_filter.mpr ⟨List.mem_of_getElem? (i := 445) (by decide +kernel), by decide +kernel⟩)
theorem wm_X2_holdsTwo : Cond.static yX2_holdsTwo ∈ wsA := (List.mem_filter.mpr ⟨List.mem_of_getElem? (i := 448) (by decide +kernel), by decide +kernel⟩)
theorem wm_X2_copy : Cond.instanceMethod yX2_copy ∈ wsA := (List.mem_filter.mpr ⟨List.mem_of_getElem? (i := 451) (by decide +kernel), by decide +kernel⟩)
theorem ws_X2_copy : Cond.selects RX2 yX2_copy yX2_copy ∈ wsA := (List.mem_filter.mpr ⟨List.mem_of_getElem? (i := 452) (by decide +kernel), by decide +kernel⟩)
theorem wm_X2_drop : Cond.instanceMethod yX2_drop ∈ wsA := (List.mem_filter.mpr ⟨List.mem_of_getElem? (i := 455) (by decide +kernel), by decide +kernel⟩)
theorem ws_X2_drop : Cond.selects RX2 yX2_drop yX2_drop ∈ wsA := (List.mem_filter.mpr ⟨List.mem_of_getElem? (i := 456) (by decide +kernel), by decide +kernel⟩)
theorem wm_X2_lever : Cond.instanceMethod yX2_lever ∈ wsA := (List.mem_filter.mpr ⟨List.mem_of_getElem? (i := 459) (by decide +kernel), by decide +kernel⟩)
theorem ws_X2_lever : Cond.selects RX2 yX2_lever yX2_lever ∈ wsA := (List.mem_filter.mpr ⟨List.mem_of_getElem? (i := 460) (by decide +kernel), by decide +kernel⟩)
theorem wm_X2_same : Cond.instanceMethod yX2_same ∈ wsA := (List.mem_filter.mpr ⟨List.mem_of_getElem? (i := 463) (by decide +kernel), by decide +kernel⟩)
theorem ws_X2_same : Cond.selects RX2 yX2_same yX2_same ∈ wsA := (List.mem_filter.mpr ⟨List.mem_of_getElem? (i := 464) (by decide +kernel), by decide +kernel⟩)
theorem wm_X2_count : Cond.instanceMethod yX2_count ∈ wsA := (List.mem_filter.mpr ⟨List.mem_of_getElem? (i := 467) (by decide +kernel), by decide +kernel⟩)
theorem ws_X2_count : Cond.selects RX2 yX2_count yX2_count ∈ wsA := (List.mem_filter.mpr ⟨List.mem_of_getElem? (i := 468) (by decide +kernel), by decide +kernel⟩)
theorem wm_X2_act : Cond.instanceMethod yX2_act ∈ wsA := (List.mem_filter.mpr ⟨List.mem_of_getElem? (i := 471) (by decide +kernel), by decide +kernel⟩)
theorem ws_X2_act : Cond.selects RX2 yX2_act yX2_act ∈ wsA := (List.mem_filter.mpr ⟨List.mem_of_getElem? (i := 472) (by decide +kernel), by decide +kernel⟩)
theorem wm_X2_refuse : Cond.instanceMethod yX2_refuse ∈ wsA := (List.mem_filter.mpr ⟨List.mem_of_getElem? (i := 476) (by decide +kernel), by decide +kernel⟩)
theorem ws_X2_refuse : Cond.selects RX2 yX2_refuse yX2_refuse ∈ wsA := (List.mem_filter.mpr ⟨List.mem_of_getElem? (i := 27) (by decide +kernel), by decide +kernel⟩)
theorem wm_X2_doing : Cond.instanceMethod yX2_doing ∈ wsA := (List.mem_filter.mpr ⟨List.mem_of_getElem? (i := 480) (by decide +kernel), by decide +kernel⟩)
theorem ws_X2_doing : Cond.selects RX2 yX2_doing yX2_doing ∈ wsA := (List.mem_filter.mpr ⟨List.mem_of_getElem? (i := 28) (by decide +kernel), by decide +kernel⟩)
theorem wm_X2_enter : Cond.instanceMethod yX2_enter ∈ wsA := (List.mem_filter.mpr ⟨List.mem_of_getElem? (i := 484) (by decide +kernel), by decide +kernel⟩)
theorem ws_X2_enter : Cond.selects RX2 yX2_enter yX2_enter ∈ wsA := (List.mem_filter.mpr ⟨List.mem_of_getElem? (i := 29) (by decide +kernel), by decide +kernel⟩)
theorem wm_X2_fall : Cond.instanceMethod yX2_fall ∈ wsA := (List.mem_filter.mpr ⟨List.mem_of_getElem? (i := 488) (by decide +kernel), by decide +kernel⟩)
theorem ws_X2_fall : Cond.selects RX2 yX2_fall yX2_fall ∈ wsA := (List.mem_filter.mpr ⟨List.mem_of_getElem? (i := 30) (by decide +kernel), by decide +kernel⟩)
theorem wm_X2_goOn : Cond.instanceMethod yX2_goOn ∈ wsA := (List.mem_filter.mpr ⟨List.mem_of_getElem? (i := 492) (by decide +kernel), by decide +kernel⟩)
theorem ws_X2_goOn : Cond.selects RX2 yX2_goOn yX2_goOn ∈ wsA := (List.mem_filter.mpr ⟨List.mem_of_getElem? (i := 31) (by decide +kernel), by decide +kernel⟩)
theorem wm_X2_give : Cond.instanceMethod yX2_give ∈ wsA := (List.mem_filter.mpr ⟨List.mem_of_getElem? (i := 496) (by decide +kernel), by decide +kernel⟩)
theorem ws_X2_give : Cond.selects RX2 yX2_give yX2_give ∈ wsA := (List.mem_filter.mpr ⟨List.mem_of_getElem? (i := 32) (by decide +kernel), by decide +kernel⟩)
theorem wm_X2_alone : Cond.instanceMethod yX2_alone ∈ wsA := (List.mem_filter.mpr ⟨List.mem_of_getElem? (i := 500) (by decide +kernel), by decide +kernel⟩)
theorem ws_X2_alone : Cond.selects RX2 yX2_alone yX2_alone ∈ wsA := (List.mem_filter.mpr ⟨List.mem_of_getElem? (i := 33) (by decide +kernel), by decide +kernel⟩)
theorem wm_X2_draw : Cond.instanceMethod yX2_draw ∈ wsA := (List.mem_filter.mpr ⟨List.mem_of_getElem? (i := 504) (by decide +kernel), by decide +kernel⟩)
theorem ws_X2_draw : Cond.selects RX2 yX2_draw yX2_draw ∈ wsA := (List.mem_filter.mpr ⟨List.mem_of_getElem? (i := 34) (by decide +kernel), by decide +kernel⟩)
theorem wm_X2_later : Cond.instanceMethod yX2_later ∈ wsA := (List.mem_filter.mpr ⟨List.mem_of_getElem? (i := 508) (by decide +kernel), by decide +kernel⟩)
theorem ws_X2_later : Cond.selects RX2 yX2_later yX2_later ∈ wsA := (List.mem_filter.mpr ⟨List.mem_of_getElem? (i := 35) (by decide +kernel), by decide +kernel⟩)
theorem wm_X2_pull : Cond.instanceMethod yX2_pull ∈ wsA := (List.mem_filter.mpr ⟨List.mem_of_getElem? (i := 511) (by decide +kernel), by decide +kernel⟩)
theorem ws_X2_pull : Cond.selects RX2 yX2_pull yX2_pull ∈ wsA := (List.mem_filter.mpr ⟨List.mem_of_getElem? (i := 512) (by decide +kernel), by decide +kernel⟩)
theorem wm_X2_tick : Cond.instanceMethod yX2_tick ∈ wsA := (List.mem_filter.mpr ⟨List.mem_of_getElem? (i := 515) (by decide +kernel), by decide +kernel⟩)
theorem ws_X2_tick : Cond.selects RX2 yX2_tick yX2_tick ∈ wsA := (List.mem_filter.mpr ⟨List.mem_of_getElem? (i := 516) (by decide +kernel), by decide +kernel⟩)
theorem wm_X2_failed : Cond.instanceMethod yX2_failed ∈ wsA := (List.mem_filter.mpr ⟨List.mem_of_getElem? (i := 519) (by decide +kernel), by decide +kernel⟩)
theorem ws_X2_failed : Cond.selects RX2 yX2_failed yX2_failed ∈ wsA := (List.mem_filter.mpr ⟨List.mem_of_getElem? (i := 520) (by decide +kernel), by decide +kernel⟩)
theorem wm_X2_told : Cond.instanceMethod yX2_told ∈ wsA := (List.mem_filter.mpr ⟨List.mem_of_getElem? (i := 523) (by decide +kernel), by decide +kernel⟩)
theorem ws_X2_told : Cond.selects RX2 yX2_told yX2_told ∈ wsA := (List.mem_filter.mpr ⟨List.mem_of_getElem? (i := 524) (by decide +kernel), by decide +kernel⟩)
theorem wm_X2_clear : Cond.instanceMethod yX2_clear ∈ wsA := (List.mem_filter.mpr ⟨List.mem_of_getElem? (i := 527) (by decide +kernel), by decide +kernel⟩)
theorem ws_X2_clear : Cond.selects RX2 yX2_clear yX2_clear ∈ wsA := (List.mem_filter.mpr ⟨List.mem_of_getElem? (i := 528) (by decide +kernel), by decide +kernel⟩)
theorem wq_L_9 : Cond.methodLink RL 9 yX1_init ∈ wsA := (List.mem_filter.mpr ⟨List.mem_of_getElem? (i := 42) (by decide +kernel), by decide +kernel⟩)
theorem wv_L_9 : iwd RL 9 yX1_init kX1_init := ⟨wq_L_9, wm_X1_init, wi_X1, wk_X1_init⟩
theorem wq_X1_1 : Cond.methodLink RX1 1 objectInit ∈ wsA := (List.mem_filter.mpr ⟨List.mem_of_getElem? (i := 45) (by decide +kernel), by decide +kernel⟩)
theorem wq_L_13 : Cond.methodLink RL 13 yX1_fill ∈ wsA := (List.mem_filter.mpr ⟨List.mem_of_getElem? (i := 93) (by decide +kernel), by decide +kernel⟩)
theorem wv_L_13 : vwd RL 13 yX1_fill kX1_fill := ⟨wq_L_13, wm_X1_fill, ws_X1_fill, wi_X1, wk_X1_fill⟩
theorem wq_X1_55 : Cond.methodLink RX1 55 yX1_heldBy ∈ wsA := (List.mem_filter.mpr ⟨List.mem_of_getElem? (i := 97) (by decide +kernel), by decide +kernel⟩)
theorem wv_X1_55 : vwd RX1 55 yX1_heldBy kX1_heldBy := ⟨wq_X1_55, wm_X1_heldBy, ws_X1_heldBy, wi_X1, wk_X1_heldBy⟩
theorem wq_X1_134 : Cond.methodLink RX1 134 yX1_isBasin ∈ wsA := (List.mem_filter.mpr ⟨List.mem_of_getElem? (i := 101) (by decide +kernel), by decide +kernel⟩)
theorem wv_X1_134 : swd RX1 134 yX1_isBasin kX1_isBasin := ⟨wq_X1_134, wm_X1_isBasin, wi_X1, wk_X1_isBasin⟩
theorem wq_X1_59 : Cond.methodLink RX1 59 yX1_pour ∈ wsA := (List.mem_filter.mpr ⟨List.mem_of_getElem? (i := 104) (by decide +kernel), by decide +kernel⟩)
theorem wv_X1_59 : vwd RX1 59 yX1_pour kX1_pour := ⟨wq_X1_59, wm_X1_pour, ws_X1_pour, wi_X1, wk_X1_pour⟩
theorem wq_L_18 : Cond.methodLink RL 18 yX1_basin ∈ wsA := (List.mem_filter.mpr ⟨List.mem_of_getElem? (i := 108) (by decide +kernel), by decide +kernel⟩)
theorem wv_L_18 : vwd RL 18 yX1_basin kX1_basin := ⟨wq_L_18, wm_X1_basin, ws_X1_basin, wi_X1, wk_X1_basin⟩
theorem wq_L_23 : Cond.methodLink RL 23 yX1_gauge ∈ wsA := (List.mem_filter.mpr ⟨List.mem_of_getElem? (i := 112) (by decide +kernel), by decide +kernel⟩)
theorem wv_L_23 : vwd RL 23 yX1_gauge kX1_gauge := ⟨wq_L_23, wm_X1_gauge, ws_X1_gauge, wi_X1, wk_X1_gauge⟩
theorem wq_X1_63 : Cond.methodLink RX1 63 yX1_isGauge ∈ wsA := (List.mem_filter.mpr ⟨List.mem_of_getElem? (i := 116) (by decide +kernel), by decide +kernel⟩)
theorem wv_X1_63 : swd RX1 63 yX1_isGauge kX1_isGauge := ⟨wq_X1_63, wm_X1_isGauge, wi_X1, wk_X1_isGauge⟩
theorem wq_L_27 : Cond.methodLink RL 27 yX1_mark ∈ wsA := (List.mem_filter.mpr ⟨List.mem_of_getElem? (i := 119) (by decide +kernel), by decide +kernel⟩)
theorem wv_L_27 : vwd RL 27 yX1_mark kX1_mark := ⟨wq_L_27, wm_X1_mark, ws_X1_mark, wi_X1, wk_X1_mark⟩
theorem wq_X1_67 : Cond.methodLink RX1 67 yX1_gaugeNow ∈ wsA := (List.mem_filter.mpr ⟨List.mem_of_getElem? (i := 123) (by decide +kernel), by decide +kernel⟩)
theorem wv_X1_67 : vwd RX1 67 yX1_gaugeNow kX1_gaugeNow := ⟨wq_X1_67, wm_X1_gaugeNow, ws_X1_gaugeNow, wi_X1, wk_X1_gaugeNow⟩
theorem wq_X1_71 : Cond.methodLink RX1 71 yX1_hasMark ∈ wsA := (List.mem_filter.mpr ⟨List.mem_of_getElem? (i := 127) (by decide +kernel), by decide +kernel⟩)
theorem wv_X1_71 : swd RX1 71 yX1_hasMark kX1_hasMark := ⟨wq_X1_71, wm_X1_hasMark, wi_X1, wk_X1_hasMark⟩
theorem wq_L_31 : Cond.methodLink RL 31 yX1_deed ∈ wsA := (List.mem_filter.mpr ⟨List.mem_of_getElem? (i := 130) (by decide +kernel), by decide +kernel⟩)
theorem wv_L_31 : vwd RL 31 yX1_deed kX1_deed := ⟨wq_L_31, wm_X1_deed, ws_X1_deed, wi_X1, wk_X1_deed⟩
theorem wq_X1_75 : Cond.methodLink RX1 75 yX1_isSlot ∈ wsA := (List.mem_filter.mpr ⟨List.mem_of_getElem? (i := 134) (by decide +kernel), by decide +kernel⟩)
theorem wv_X1_75 : swd RX1 75 yX1_isSlot kX1_isSlot := ⟨wq_X1_75, wm_X1_isSlot, wi_X1, wk_X1_isSlot⟩
theorem wq_X1_78 : Cond.methodLink RX1 78 yX1_namesWhatThereIs ∈ wsA := (List.mem_filter.mpr ⟨List.mem_of_getElem? (i := 137) (by decide +kernel), by decide +kernel⟩)
theorem wv_X1_78 : swd RX1 78 yX1_namesWhatThereIs kX1_namesWhatThereIs := ⟨wq_X1_78, wm_X1_namesWhatThereIs, wi_X1, wk_X1_namesWhatThereIs⟩
theorem wq_X1_95 : Cond.methodLink RX1 95 yX1_isLever ∈ wsA := (List.mem_filter.mpr ⟨List.mem_of_getElem? (i := 140) (by decide +kernel), by decide +kernel⟩)
theorem wv_X1_95 : swd RX1 95 yX1_isLever kX1_isLever := ⟨wq_X1_95, wm_X1_isLever, wi_X1, wk_X1_isLever⟩
theorem wq_X1_82 : Cond.methodLink RX1 82 yX1_holdsFirst ∈ wsA := (List.mem_filter.mpr ⟨List.mem_of_getElem? (i := 143) (by decide +kernel), by decide +kernel⟩)
theorem wv_X1_82 : swd RX1 82 yX1_holdsFirst kX1_holdsFirst := ⟨wq_X1_82, wm_X1_holdsFirst, wi_X1, wk_X1_holdsFirst⟩
theorem wq_X1_85 : Cond.methodLink RX1 85 yX1_inSlot ∈ wsA := (List.mem_filter.mpr ⟨List.mem_of_getElem? (i := 146) (by decide +kernel), by decide +kernel⟩)
theorem wv_X1_85 : vwd RX1 85 yX1_inSlot kX1_inSlot := ⟨wq_X1_85, wm_X1_inSlot, ws_X1_inSlot, wi_X1, wk_X1_inSlot⟩
theorem wq_X1_89 : Cond.methodLink RX1 89 yX1_holdsSecond ∈ wsA := (List.mem_filter.mpr ⟨List.mem_of_getElem? (i := 150) (by decide +kernel), by decide +kernel⟩)
theorem wv_X1_89 : swd RX1 89 yX1_holdsSecond kX1_holdsSecond := ⟨wq_X1_89, wm_X1_holdsSecond, wi_X1, wk_X1_holdsSecond⟩
theorem wq_X0_1 : Cond.methodLink RX0 1 objectInit ∈ wsA := (List.mem_filter.mpr ⟨List.mem_of_getElem? (i := 157) (by decide +kernel), by decide +kernel⟩)
theorem wq_L_36 : Cond.methodLink RL 36 yX1_copy ∈ wsA := (List.mem_filter.mpr ⟨List.mem_of_getElem? (i := 191) (by decide +kernel), by decide +kernel⟩)
theorem wv_L_36 : vwd RL 36 yX1_copy kX1_copy := ⟨wq_L_36, wm_X1_copy, ws_X1_copy, wi_X1, wk_X1_copy⟩
theorem wq_L_40 : Cond.methodLink RL 40 yX1_drop ∈ wsA := (List.mem_filter.mpr ⟨List.mem_of_getElem? (i := 195) (by decide +kernel), by decide +kernel⟩)
theorem wv_L_40 : vwd RL 40 yX1_drop kX1_drop := ⟨wq_L_40, wm_X1_drop, ws_X1_drop, wi_X1, wk_X1_drop⟩
theorem wq_L_44 : Cond.methodLink RL 44 yX1_lever ∈ wsA := (List.mem_filter.mpr ⟨List.mem_of_getElem? (i := 199) (by decide +kernel), by decide +kernel⟩)
theorem wv_L_44 : vwd RL 44 yX1_lever kX1_lever := ⟨wq_L_44, wm_X1_lever, ws_X1_lever, wi_X1, wk_X1_lever⟩
theorem wq_L_49 : Cond.methodLink RL 49 yX1_same ∈ wsA := (List.mem_filter.mpr ⟨List.mem_of_getElem? (i := 203) (by decide +kernel), by decide +kernel⟩)
theorem wv_L_49 : vwd RL 49 yX1_same kX1_same := ⟨wq_L_49, wm_X1_same, ws_X1_same, wi_X1, wk_X1_same⟩
theorem wq_L_53 : Cond.methodLink RL 53 yX1_count ∈ wsA := (List.mem_filter.mpr ⟨List.mem_of_getElem? (i := 207) (by decide +kernel), by decide +kernel⟩)
theorem wv_L_53 : vwd RL 53 yX1_count kX1_count := ⟨wq_L_53, wm_X1_count, ws_X1_count, wi_X1, wk_X1_count⟩
theorem wq_L_57 : Cond.methodLink RL 57 yX1_act ∈ wsA := (List.mem_filter.mpr ⟨List.mem_of_getElem? (i := 211) (by decide +kernel), by decide +kernel⟩)
theorem wv_L_57 : vwd RL 57 yX1_act kX1_act := ⟨wq_L_57, wm_X1_act, ws_X1_act, wi_X1, wk_X1_act⟩
theorem wq_X1_104 : Cond.methodLink RX1 104 yX1_refuse ∈ wsA := (List.mem_filter.mpr ⟨List.mem_of_getElem? (i := 215) (by decide +kernel), by decide +kernel⟩)
theorem wv_X1_104 : vwd RX1 104 yX1_refuse kX1_refuse := ⟨wq_X1_104, wm_X1_refuse, ws_X1_refuse, wi_X1, wk_X1_refuse⟩
theorem wq_X1_107 : Cond.methodLink RX1 107 yX1_begin ∈ wsA := (List.mem_filter.mpr ⟨List.mem_of_getElem? (i := 219) (by decide +kernel), by decide +kernel⟩)
theorem wv_X1_107 : vwd RX1 107 yX1_begin kX1_begin := ⟨wq_X1_107, wm_X1_begin, ws_X1_begin, wi_X1, wk_X1_begin⟩
theorem wq_X1_110 : Cond.methodLink RX1 110 yX1_doDeed ∈ wsA := (List.mem_filter.mpr ⟨List.mem_of_getElem? (i := 223) (by decide +kernel), by decide +kernel⟩)
theorem wv_X1_110 : vwd RX1 110 yX1_doDeed kX1_doDeed := ⟨wq_X1_110, wm_X1_doDeed, ws_X1_doDeed, wi_X1, wk_X1_doDeed⟩
theorem wq_X1_137 : Cond.methodLink RX1 137 yX1_fail ∈ wsA := (List.mem_filter.mpr ⟨List.mem_of_getElem? (i := 227) (by decide +kernel), by decide +kernel⟩)
theorem wv_X1_137 : vwd RX1 137 yX1_fail kX1_fail := ⟨wq_X1_137, wm_X1_fail, ws_X1_fail, wi_X1, wk_X1_fail⟩
theorem wq_X1_140 : Cond.methodLink RX1 140 yX1_doAlone ∈ wsA := (List.mem_filter.mpr ⟨List.mem_of_getElem? (i := 231) (by decide +kernel), by decide +kernel⟩)
theorem wv_X1_140 : vwd RX1 140 yX1_doAlone kX1_doAlone := ⟨wq_X1_140, wm_X1_doAlone, ws_X1_doAlone, wi_X1, wk_X1_doAlone⟩
theorem wq_X1_150 : Cond.methodLink RX1 150 yX1_doSet ∈ wsA := (List.mem_filter.mpr ⟨List.mem_of_getElem? (i := 235) (by decide +kernel), by decide +kernel⟩)
theorem wv_X1_150 : vwd RX1 150 yX1_doSet kX1_doSet := ⟨wq_X1_150, wm_X1_doSet, ws_X1_doSet, wi_X1, wk_X1_doSet⟩
theorem wq_X1_153 : Cond.methodLink RX1 153 yX1_doAdd ∈ wsA := (List.mem_filter.mpr ⟨List.mem_of_getElem? (i := 239) (by decide +kernel), by decide +kernel⟩)
theorem wv_X1_153 : vwd RX1 153 yX1_doAdd kX1_doAdd := ⟨wq_X1_153, wm_X1_doAdd, ws_X1_doAdd, wi_X1, wk_X1_doAdd⟩
theorem wq_X1_156 : Cond.methodLink RX1 156 yX1_doDraw ∈ wsA := (List.mem_filter.mpr ⟨List.mem_of_getElem? (i := 243) (by decide +kernel), by decide +kernel⟩)
theorem wv_X1_156 : vwd RX1 156 yX1_doDraw kX1_doDraw := ⟨wq_X1_156, wm_X1_doDraw, ws_X1_doDraw, wi_X1, wk_X1_doDraw⟩
theorem wq_X1_159 : Cond.methodLink RX1 159 yX1_doMark ∈ wsA := (List.mem_filter.mpr ⟨List.mem_of_getElem? (i := 247) (by decide +kernel), by decide +kernel⟩)
theorem wv_X1_159 : vwd RX1 159 yX1_doMark kX1_doMark := ⟨wq_X1_159, wm_X1_doMark, ws_X1_doMark, wi_X1, wk_X1_doMark⟩
theorem wq_X1_144 : Cond.methodLink RX1 144 yX1_doThroughOthers ∈ wsA := (List.mem_filter.mpr ⟨List.mem_of_getElem? (i := 251) (by decide +kernel), by decide +kernel⟩)
theorem wv_X1_144 : vwd RX1 144 yX1_doThroughOthers kX1_doThroughOthers := ⟨wq_X1_144, wm_X1_doThroughOthers, ws_X1_doThroughOthers, wi_X1, wk_X1_doThroughOthers⟩
theorem wq_X1_162 : Cond.methodLink RX1 162 yX1_doThen ∈ wsA := (List.mem_filter.mpr ⟨List.mem_of_getElem? (i := 255) (by decide +kernel), by decide +kernel⟩)
theorem wv_X1_162 : vwd RX1 162 yX1_doThen kX1_doThen := ⟨wq_X1_162, wm_X1_doThen, ws_X1_doThen, wi_X1, wk_X1_doThen⟩
theorem wq_X1_175 : Cond.methodLink RX1 175 yX1_doTimes ∈ wsA := (List.mem_filter.mpr ⟨List.mem_of_getElem? (i := 259) (by decide +kernel), by decide +kernel⟩)
theorem wv_X1_175 : vwd RX1 175 yX1_doTimes kX1_doTimes := ⟨wq_X1_175, wm_X1_doTimes, ws_X1_doTimes, wi_X1, wk_X1_doTimes⟩
theorem wq_X1_178 : Cond.methodLink RX1 178 yX1_doTry ∈ wsA := (List.mem_filter.mpr ⟨List.mem_of_getElem? (i := 263) (by decide +kernel), by decide +kernel⟩)
theorem wv_X1_178 : vwd RX1 178 yX1_doTry kX1_doTry := ⟨wq_X1_178, wm_X1_doTry, ws_X1_doTry, wi_X1, wk_X1_doTry⟩
theorem wq_X1_181 : Cond.methodLink RX1 181 yX1_doLater ∈ wsA := (List.mem_filter.mpr ⟨List.mem_of_getElem? (i := 267) (by decide +kernel), by decide +kernel⟩)
theorem wv_X1_181 : vwd RX1 181 yX1_doLater kX1_doLater := ⟨wq_X1_181, wm_X1_doLater, ws_X1_doLater, wi_X1, wk_X1_doLater⟩
theorem wq_X1_184 : Cond.methodLink RX1 184 yX1_doCount ∈ wsA := (List.mem_filter.mpr ⟨List.mem_of_getElem? (i := 271) (by decide +kernel), by decide +kernel⟩)
theorem wv_X1_184 : vwd RX1 184 yX1_doCount kX1_doCount := ⟨wq_X1_184, wm_X1_doCount, ws_X1_doCount, wi_X1, wk_X1_doCount⟩
theorem wq_X1_117 : Cond.methodLink RX1 117 yX1_doPlaces ∈ wsA := (List.mem_filter.mpr ⟨List.mem_of_getElem? (i := 275) (by decide +kernel), by decide +kernel⟩)
theorem wv_X1_117 : vwd RX1 117 yX1_doPlaces kX1_doPlaces := ⟨wq_X1_117, wm_X1_doPlaces, ws_X1_doPlaces, wi_X1, wk_X1_doPlaces⟩
theorem wq_X1_193 : Cond.methodLink RX1 193 yX1_atPlace ∈ wsA := (List.mem_filter.mpr ⟨List.mem_of_getElem? (i := 279) (by decide +kernel), by decide +kernel⟩)
theorem wv_X1_193 : vwd RX1 193 yX1_atPlace kX1_atPlace := ⟨wq_X1_193, wm_X1_atPlace, ws_X1_atPlace, wi_X1, wk_X1_atPlace⟩
theorem wq_X1_114 : Cond.methodLink RX1 114 yX1_noteFailure ∈ wsA := (List.mem_filter.mpr ⟨List.mem_of_getElem? (i := 283) (by decide +kernel), by decide +kernel⟩)
theorem wv_X1_114 : vwd RX1 114 yX1_noteFailure kX1_noteFailure := ⟨wq_X1_114, wm_X1_noteFailure, ws_X1_noteFailure, wi_X1, wk_X1_noteFailure⟩
theorem wq_L_61 : Cond.methodLink RL 61 yX1_pull ∈ wsA := (List.mem_filter.mpr ⟨List.mem_of_getElem? (i := 287) (by decide +kernel), by decide +kernel⟩)
theorem wv_L_61 : vwd RL 61 yX1_pull kX1_pull := ⟨wq_L_61, wm_X1_pull, ws_X1_pull, wi_X1, wk_X1_pull⟩
theorem wq_L_65 : Cond.methodLink RL 65 yX1_tick ∈ wsA := (List.mem_filter.mpr ⟨List.mem_of_getElem? (i := 291) (by decide +kernel), by decide +kernel⟩)
theorem wv_L_65 : vwd RL 65 yX1_tick kX1_tick := ⟨wq_L_65, wm_X1_tick, ws_X1_tick, wi_X1, wk_X1_tick⟩
theorem wq_X1_121 : Cond.methodLink RX1 121 yX1_doLongestWaiting ∈ wsA := (List.mem_filter.mpr ⟨List.mem_of_getElem? (i := 295) (by decide +kernel), by decide +kernel⟩)
theorem wv_X1_121 : vwd RX1 121 yX1_doLongestWaiting kX1_doLongestWaiting := ⟨wq_X1_121, wm_X1_doLongestWaiting, ws_X1_doLongestWaiting, wi_X1, wk_X1_doLongestWaiting⟩
theorem wq_L_70 : Cond.methodLink RL 70 yX1_failed ∈ wsA := (List.mem_filter.mpr ⟨List.mem_of_getElem? (i := 299) (by decide +kernel), by decide +kernel⟩)
theorem wv_L_70 : vwd RL 70 yX1_failed kX1_failed := ⟨wq_L_70, wm_X1_failed, ws_X1_failed, wi_X1, wk_X1_failed⟩
theorem wq_L_74 : Cond.methodLink RL 74 yX1_told ∈ wsA := (List.mem_filter.mpr ⟨List.mem_of_getElem? (i := 303) (by decide +kernel), by decide +kernel⟩)
theorem wv_L_74 : vwd RL 74 yX1_told kX1_told := ⟨wq_L_74, wm_X1_told, ws_X1_told, wi_X1, wk_X1_told⟩
theorem wq_X1_124 : Cond.methodLink RX1 124 yX1_slotsInUse ∈ wsA := (List.mem_filter.mpr ⟨List.mem_of_getElem? (i := 307) (by decide +kernel), by decide +kernel⟩)
theorem wv_X1_124 : vwd RX1 124 yX1_slotsInUse kX1_slotsInUse := ⟨wq_X1_124, wm_X1_slotsInUse, ws_X1_slotsInUse, wi_X1, wk_X1_slotsInUse⟩
theorem wq_L_78 : Cond.methodLink RL 78 yX1_clear ∈ wsA := (List.mem_filter.mpr ⟨List.mem_of_getElem? (i := 311) (by decide +kernel), by decide +kernel⟩)
theorem wv_L_78 : vwd RL 78 yX1_clear kX1_clear := ⟨wq_L_78, wm_X1_clear, ws_X1_clear, wi_X1, wk_X1_clear⟩
theorem wq_X1_128 : Cond.methodLink RX1 128 yX1_emptyHall ∈ wsA := (List.mem_filter.mpr ⟨List.mem_of_getElem? (i := 315) (by decide +kernel), by decide +kernel⟩)
theorem wv_X1_128 : vwd RX1 128 yX1_emptyHall kX1_emptyHall := ⟨wq_X1_128, wm_X1_emptyHall, ws_X1_emptyHall, wi_X1, wk_X1_emptyHall⟩
theorem wq_X1_131 : Cond.methodLink RX1 131 yX1_emptyDeeds ∈ wsA := (List.mem_filter.mpr ⟨List.mem_of_getElem? (i := 319) (by decide +kernel), by decide +kernel⟩)
theorem wv_X1_131 : vwd RX1 131 yX1_emptyDeeds kX1_emptyDeeds := ⟨wq_X1_131, wm_X1_emptyDeeds, ws_X1_emptyDeeds, wi_X1, wk_X1_emptyDeeds⟩
theorem wq_L_12 : Cond.methodLink RL 12 yX2_init ∈ wsA := (List.mem_filter.mpr ⟨List.mem_of_getElem? (i := 325) (by decide +kernel), by decide +kernel⟩)
theorem wv_L_12 : iwd RL 12 yX2_init kX2_init := ⟨wq_L_12, wm_X2_init, wi_X2, wk_X2_init⟩
theorem wq_X2_1 : Cond.methodLink RX2 1 objectInit ∈ wsA := (List.mem_filter.mpr ⟨List.mem_of_getElem? (i := 328) (by decide +kernel), by decide +kernel⟩)
theorem wq_X2_61 : Cond.methodLink RX2 61 yX2_reset ∈ wsA := (List.mem_filter.mpr ⟨List.mem_of_getElem? (i := 329) (by decide +kernel), by decide +kernel⟩)
theorem wv_X2_61 : vwd RX2 61 yX2_reset kX2_reset := ⟨wq_X2_61, wm_X2_reset, ws_X2_reset, wi_X2, wk_X2_reset⟩
theorem wq_L_17 : Cond.methodLink RL 17 yX2_fill ∈ wsA := (List.mem_filter.mpr ⟨List.mem_of_getElem? (i := 412) (by decide +kernel), by decide +kernel⟩)
theorem wv_L_17 : vwd RL 17 yX2_fill kX2_fill := ⟨wq_L_17, wm_X2_fill, ws_X2_fill, wi_X2, wk_X2_fill⟩
theorem wq_X2_87 : Cond.methodLink RX2 87 yX2_isBasin ∈ wsA := (List.mem_filter.mpr ⟨List.mem_of_getElem? (i := 416) (by decide +kernel), by decide +kernel⟩)
theorem wv_X2_87 : swd RX2 87 yX2_isBasin kX2_isBasin := ⟨wq_X2_87, wm_X2_isBasin, wi_X2, wk_X2_isBasin⟩
theorem wq_X2_83 : Cond.methodLink RX2 83 yX2_isIn ∈ wsA := (List.mem_filter.mpr ⟨List.mem_of_getElem? (i := 419) (by decide +kernel), by decide +kernel⟩)
theorem wv_X2_83 : swd RX2 83 yX2_isIn kX2_isIn := ⟨wq_X2_83, wm_X2_isIn, wi_X2, wk_X2_isIn⟩
theorem wq_L_22 : Cond.methodLink RL 22 yX2_basin ∈ wsA := (List.mem_filter.mpr ⟨List.mem_of_getElem? (i := 422) (by decide +kernel), by decide +kernel⟩)
theorem wv_L_22 : vwd RL 22 yX2_basin kX2_basin := ⟨wq_L_22, wm_X2_basin, ws_X2_basin, wi_X2, wk_X2_basin⟩
theorem wq_L_26 : Cond.methodLink RL 26 yX2_gauge ∈ wsA := (List.mem_filter.mpr ⟨List.mem_of_getElem? (i := 426) (by decide +kernel), by decide +kernel⟩)
theorem wv_L_26 : vwd RL 26 yX2_gauge kX2_gauge := ⟨wq_L_26, wm_X2_gauge, ws_X2_gauge, wi_X2, wk_X2_gauge⟩
theorem wq_L_30 : Cond.methodLink RL 30 yX2_mark ∈ wsA := (List.mem_filter.mpr ⟨List.mem_of_getElem? (i := 430) (by decide +kernel), by decide +kernel⟩)
theorem wv_L_30 : vwd RL 30 yX2_mark kX2_mark := ⟨wq_L_30, wm_X2_mark, ws_X2_mark, wi_X2, wk_X2_mark⟩
theorem wq_L_35 : Cond.methodLink RL 35 yX2_deed ∈ wsA := (List.mem_filter.mpr ⟨List.mem_of_getElem? (i := 434) (by decide +kernel), by decide +kernel⟩)
theorem wv_L_35 : vwd RL 35 yX2_deed kX2_deed := ⟨wq_L_35, wm_X2_deed, ws_X2_deed, wi_X2, wk_X2_deed⟩
theorem wq_X2_91 : Cond.methodLink RX2 91 yX2_isSlot ∈ wsA := (List.mem_filter.mpr ⟨List.mem_of_getElem? (i := 438) (by decide +kernel), by decide +kernel⟩)
theorem wv_X2_91 : swd RX2 91 yX2_isSlot kX2_isSlot := ⟨wq_X2_91, wm_X2_isSlot, wi_X2, wk_X2_isSlot⟩
theorem wq_X2_94 : Cond.methodLink RX2 94 yX2_isRight ∈ wsA := (List.mem_filter.mpr ⟨List.mem_of_getElem? (i := 441) (by decide +kernel), by decide +kernel⟩)
theorem wv_X2_94 : swd RX2 94 yX2_isRight kX2_isRight := ⟨wq_X2_94, wm_X2_isRight, wi_X2, wk_X2_isRight⟩
theorem wq_X2_98 : Cond.methodLink RX2 98 yX2_holdsOne ∈ wsA := (List.mem_filter.mpr ⟨List.mem_of_getElem? (i := 444) (by decide +kernel), by decide +kernel⟩)
theorem wv_X2_98 : swd RX2 98 yX2_holdsOne kX2_holdsOne := ⟨wq_X2_98, wm_X2_holdsOne, wi_X2, wk_X2_holdsOne⟩
theorem wq_X2_101 : Cond.methodLink RX2 101 yX2_holdsTwo ∈ wsA := (List.mem_filter.mpr ⟨List.mem_of_getElem? (i := 447) (by decide +kernel), by decide +kernel⟩)
theorem wv_X2_101 : swd RX2 101 yX2_holdsTwo kX2_holdsTwo := ⟨wq_X2_101, wm_X2_holdsTwo, wi_X2, wk_X2_holdsTwo⟩
theorem wq_L_39 : Cond.methodLink RL 39 yX2_copy ∈ wsA := (List.mem_filter.mpr ⟨List.mem_of_getElem? (i := 450) (by decide +kernel), by decide +kernel⟩)
theorem wv_L_39 : vwd RL 39 yX2_copy kX2_copy := ⟨wq_L_39, wm_X2_copy, ws_X2_copy, wi_X2, wk_X2_copy⟩
theorem wq_L_43 : Cond.methodLink RL 43 yX2_drop ∈ wsA := (List.mem_filter.mpr ⟨List.mem_of_getElem? (i := 454) (by decide +kernel), by decide +kernel⟩)
theorem wv_L_43 : vwd RL 43 yX2_drop kX2_drop := ⟨wq_L_43, wm_X2_drop, ws_X2_drop, wi_X2, wk_X2_drop⟩
theorem wq_L_48 : Cond.methodLink RL 48 yX2_lever ∈ wsA := (List.mem_filter.mpr ⟨List.mem_of_getElem? (i := 458) (by decide +kernel), by decide +kernel⟩)
theorem wv_L_48 : vwd RL 48 yX2_lever kX2_lever := ⟨wq_L_48, wm_X2_lever, ws_X2_lever, wi_X2, wk_X2_lever⟩
theorem wq_L_52 : Cond.methodLink RL 52 yX2_same ∈ wsA := (List.mem_filter.mpr ⟨List.mem_of_getElem? (i := 462) (by decide +kernel), by decide +kernel⟩)
theorem wv_L_52 : vwd RL 52 yX2_same kX2_same := ⟨wq_L_52, wm_X2_same, ws_X2_same, wi_X2, wk_X2_same⟩
theorem wq_L_56 : Cond.methodLink RL 56 yX2_count ∈ wsA := (List.mem_filter.mpr ⟨List.mem_of_getElem? (i := 466) (by decide +kernel), by decide +kernel⟩)
theorem wv_L_56 : vwd RL 56 yX2_count kX2_count := ⟨wq_L_56, wm_X2_count, ws_X2_count, wi_X2, wk_X2_count⟩
theorem wq_L_60 : Cond.methodLink RL 60 yX2_act ∈ wsA := (List.mem_filter.mpr ⟨List.mem_of_getElem? (i := 470) (by decide +kernel), by decide +kernel⟩)
theorem wv_L_60 : vwd RL 60 yX2_act kX2_act := ⟨wq_L_60, wm_X2_act, ws_X2_act, wi_X2, wk_X2_act⟩
theorem wq_X2_137 : Cond.methodLink RX2 137 yX2_refuse ∈ wsA := (List.mem_filter.mpr ⟨List.mem_of_getElem? (i := 474) (by decide +kernel), by decide +kernel⟩)
theorem wv_X2_137 : vwd RX2 137 yX2_refuse kX2_refuse := ⟨wq_X2_137, wm_X2_refuse, ws_X2_refuse, wi_X2, wk_X2_refuse⟩
theorem wq_X2_141 : Cond.methodLink RX2 141 yX2_doing ∈ wsA := (List.mem_filter.mpr ⟨List.mem_of_getElem? (i := 478) (by decide +kernel), by decide +kernel⟩)
theorem wv_X2_141 : vwd RX2 141 yX2_doing kX2_doing := ⟨wq_X2_141, wm_X2_doing, ws_X2_doing, wi_X2, wk_X2_doing⟩
theorem wq_X2_113 : Cond.methodLink RX2 113 yX2_enter ∈ wsA := (List.mem_filter.mpr ⟨List.mem_of_getElem? (i := 482) (by decide +kernel), by decide +kernel⟩)
theorem wv_X2_113 : vwd RX2 113 yX2_enter kX2_enter := ⟨wq_X2_113, wm_X2_enter, ws_X2_enter, wi_X2, wk_X2_enter⟩
theorem wq_X2_131 : Cond.methodLink RX2 131 yX2_fall ∈ wsA := (List.mem_filter.mpr ⟨List.mem_of_getElem? (i := 486) (by decide +kernel), by decide +kernel⟩)
theorem wv_X2_131 : vwd RX2 131 yX2_fall kX2_fall := ⟨wq_X2_131, wm_X2_fall, ws_X2_fall, wi_X2, wk_X2_fall⟩
theorem wq_X2_134 : Cond.methodLink RX2 134 yX2_goOn ∈ wsA := (List.mem_filter.mpr ⟨List.mem_of_getElem? (i := 490) (by decide +kernel), by decide +kernel⟩)
theorem wv_X2_134 : vwd RX2 134 yX2_goOn kX2_goOn := ⟨wq_X2_134, wm_X2_goOn, ws_X2_goOn, wi_X2, wk_X2_goOn⟩
theorem wq_X2_117 : Cond.methodLink RX2 117 yX2_give ∈ wsA := (List.mem_filter.mpr ⟨List.mem_of_getElem? (i := 494) (by decide +kernel), by decide +kernel⟩)
theorem wv_X2_117 : vwd RX2 117 yX2_give kX2_give := ⟨wq_X2_117, wm_X2_give, ws_X2_give, wi_X2, wk_X2_give⟩
theorem wq_X2_128 : Cond.methodLink RX2 128 yX2_alone ∈ wsA := (List.mem_filter.mpr ⟨List.mem_of_getElem? (i := 498) (by decide +kernel), by decide +kernel⟩)
theorem wv_X2_128 : vwd RX2 128 yX2_alone kX2_alone := ⟨wq_X2_128, wm_X2_alone, ws_X2_alone, wi_X2, wk_X2_alone⟩
theorem wq_X2_121 : Cond.methodLink RX2 121 yX2_draw ∈ wsA := (List.mem_filter.mpr ⟨List.mem_of_getElem? (i := 502) (by decide +kernel), by decide +kernel⟩)
theorem wv_X2_121 : vwd RX2 121 yX2_draw kX2_draw := ⟨wq_X2_121, wm_X2_draw, ws_X2_draw, wi_X2, wk_X2_draw⟩
theorem wq_X2_125 : Cond.methodLink RX2 125 yX2_later ∈ wsA := (List.mem_filter.mpr ⟨List.mem_of_getElem? (i := 506) (by decide +kernel), by decide +kernel⟩)
theorem wv_X2_125 : vwd RX2 125 yX2_later kX2_later := ⟨wq_X2_125, wm_X2_later, ws_X2_later, wi_X2, wk_X2_later⟩
theorem wq_L_64 : Cond.methodLink RL 64 yX2_pull ∈ wsA := (List.mem_filter.mpr ⟨List.mem_of_getElem? (i := 510) (by decide +kernel), by decide +kernel⟩)
theorem wv_L_64 : vwd RL 64 yX2_pull kX2_pull := ⟨wq_L_64, wm_X2_pull, ws_X2_pull, wi_X2, wk_X2_pull⟩
theorem wq_L_69 : Cond.methodLink RL 69 yX2_tick ∈ wsA := (List.mem_filter.mpr ⟨List.mem_of_getElem? (i := 514) (by decide +kernel), by decide +kernel⟩)
theorem wv_L_69 : vwd RL 69 yX2_tick kX2_tick := ⟨wq_L_69, wm_X2_tick, ws_X2_tick, wi_X2, wk_X2_tick⟩
theorem wq_L_73 : Cond.methodLink RL 73 yX2_failed ∈ wsA := (List.mem_filter.mpr ⟨List.mem_of_getElem? (i := 518) (by decide +kernel), by decide +kernel⟩)
theorem wv_L_73 : vwd RL 73 yX2_failed kX2_failed := ⟨wq_L_73, wm_X2_failed, ws_X2_failed, wi_X2, wk_X2_failed⟩
theorem wq_L_77 : Cond.methodLink RL 77 yX2_told ∈ wsA := (List.mem_filter.mpr ⟨List.mem_of_getElem? (i := 522) (by decide +kernel), by decide +kernel⟩)
theorem wv_L_77 : vwd RL 77 yX2_told kX2_told := ⟨wq_L_77, wm_X2_told, ws_X2_told, wi_X2, wk_X2_told⟩
theorem wq_L_81 : Cond.methodLink RL 81 yX2_clear ∈ wsA := (List.mem_filter.mpr ⟨List.mem_of_getElem? (i := 526) (by decide +kernel), by decide +kernel⟩)
theorem wv_L_81 : vwd RL 81 yX2_clear kX2_clear := ⟨wq_L_81, wm_X2_clear, ws_X2_clear, wi_X2, wk_X2_clear⟩
end
section
theorem dX0_init_0 : decode cX0_init 0 = .ok (.aload_n 0, 1) := by decide +kernel
theorem dX0_init_1 : decode cX0_init 1 = .ok (.invokespecial 1, 3) := by decide +kernel
theorem dX0_init_4 : decode cX0_init 4 = .ok (.aload_n 0, 1) := by decide +kernel
theorem dX0_init_5 : decode cX0_init 5 = .ok (.iconst 0, 1) := by decide +kernel
theorem dX0_init_6 : decode cX0_init 6 = .ok (.putfield 7, 3) := by decide +kernel
theorem dX0_init_9 : decode cX0_init 9 = .ok (.aload_n 0, 1) := by decide +kernel
theorem dX0_init_10 : decode cX0_init 10 = .ok (.iload_n 1, 1) := by decide +kernel
theorem dX0_init_11 : decode cX0_init 11 = .ok (.putfield 13, 3) := by decide +kernel
theorem dX0_init_14 : decode cX0_init 14 = .ok (.aload_n 0, 1) := by decide +kernel
theorem dX0_init_15 : decode cX0_init 15 = .ok (.iload_n 2, 1) := by decide +kernel
theorem dX0_init_16 : decode cX0_init 16 = .ok (.putfield 16, 3) := by decide +kernel
theorem dX0_init_19 : decode cX0_init 19 = .ok (.aload_n 0, 1) := by decide +kernel
theorem dX0_init_20 : decode cX0_init 20 = .ok (.iload_n 3, 1) := by decide +kernel
theorem dX0_init_21 : decode cX0_init 21 = .ok (.putfield 19, 3) := by decide +kernel
theorem dX0_init_24 : decode cX0_init 24 = .ok (.aload_n 0, 1) := by decide +kernel
theorem dX0_init_25 : decode cX0_init 25 = .ok (.iload 4, 2) := by decide +kernel
theorem dX0_init_27 : decode cX0_init 27 = .ok (.putfield 22, 3) := by decide +kernel
theorem dX0_init_30 : decode cX0_init 30 = .ok (.aload_n 0, 1) := by decide +kernel
theorem dX0_init_31 : decode cX0_init 31 = .ok (.aload 5, 2) := by decide +kernel
theorem dX0_init_33 : decode cX0_init 33 = .ok (.putfield 25, 3) := by decide +kernel
theorem dX0_init_36 : decode cX0_init 36 = .ok (.aload_n 0, 1) := by decide +kernel
theorem dX0_init_37 : decode cX0_init 37 = .ok (.aload 6, 2) := by decide +kernel
theorem dX0_init_39 : decode cX0_init 39 = .ok (.putfield 29, 3) := by decide +kernel
theorem dX0_init_42 : decode cX0_init 42 = .ok (.aload_n 0, 1) := by decide +kernel
theorem dX0_init_43 : decode cX0_init 43 = .ok (.aload 7, 2) := by decide +kernel
theorem dX0_init_45 : decode cX0_init 45 = .ok (.putfield 32, 3) := by decide +kernel
theorem dX0_init_48 : decode cX0_init 48 = .ok (.return_, 1) := by decide +kernel
theorem dX1_init_0 : decode cX1_init 0 = .ok (.aload_n 0, 1) := by decide +kernel
theorem dX1_init_1 : decode cX1_init 1 = .ok (.invokespecial 1, 3) := by decide +kernel
theorem dX1_init_4 : decode cX1_init 4 = .ok (.aload_n 0, 1) := by decide +kernel
theorem dX1_init_5 : decode cX1_init 5 = .ok (.bipush 10, 2) := by decide +kernel
theorem dX1_init_7 : decode cX1_init 7 = .ok (.newarray .int, 2) := by decide +kernel
theorem dX1_init_9 : decode cX1_init 9 = .ok (.putfield 9, 3) := by decide +kernel
theorem dX1_init_12 : decode cX1_init 12 = .ok (.aload_n 0, 1) := by decide +kernel
theorem dX1_init_13 : decode cX1_init 13 = .ok (.iconst 3, 1) := by decide +kernel
theorem dX1_init_14 : decode cX1_init 14 = .ok (.anewarray 13, 3) := by decide +kernel
theorem dX1_init_17 : decode cX1_init 17 = .ok (.putfield 14, 3) := by decide +kernel
theorem dX1_init_20 : decode cX1_init 20 = .ok (.aload_n 0, 1) := by decide +kernel
theorem dX1_init_21 : decode cX1_init 21 = .ok (.bipush 20, 2) := by decide +kernel
theorem dX1_init_23 : decode cX1_init 23 = .ok (.anewarray 18, 3) := by decide +kernel
theorem dX1_init_26 : decode cX1_init 26 = .ok (.putfield 20, 3) := by decide +kernel
theorem dX1_init_29 : decode cX1_init 29 = .ok (.aload_n 0, 1) := by decide +kernel
theorem dX1_init_30 : decode cX1_init 30 = .ok (.bipush 20, 2) := by decide +kernel
theorem dX1_init_32 : decode cX1_init 32 = .ok (.anewarray 18, 3) := by decide +kernel
theorem dX1_init_35 : decode cX1_init 35 = .ok (.putfield 24, 3) := by decide +kernel
theorem dX1_init_38 : decode cX1_init 38 = .ok (.aload_n 0, 1) := by decide +kernel
theorem dX1_init_39 : decode cX1_init 39 = .ok (.bipush 12, 2) := by decide +kernel
theorem dX1_init_41 : decode cX1_init 41 = .ok (.anewarray 18, 3) := by decide +kernel
theorem dX1_init_44 : decode cX1_init 44 = .ok (.putfield 27, 3) := by decide +kernel
theorem dX1_init_47 : decode cX1_init 47 = .ok (.aload_n 0, 1) := by decide +kernel
theorem dX1_init_48 : decode cX1_init 48 = .ok (.bipush 12, 2) := by decide +kernel
theorem dX1_init_50 : decode cX1_init 50 = .ok (.newarray .int, 2) := by decide +kernel
theorem dX1_init_52 : decode cX1_init 52 = .ok (.putfield 30, 3) := by decide +kernel
theorem dX1_init_55 : decode cX1_init 55 = .ok (.aload_n 0, 1) := by decide +kernel
theorem dX1_init_56 : decode cX1_init 56 = .ok (.iconst 0, 1) := by decide +kernel
theorem dX1_init_57 : decode cX1_init 57 = .ok (.putfield 33, 3) := by decide +kernel
theorem dX1_init_60 : decode cX1_init 60 = .ok (.aload_n 0, 1) := by decide +kernel
theorem dX1_init_61 : decode cX1_init 61 = .ok (.iconst 0, 1) := by decide +kernel
theorem dX1_init_62 : decode cX1_init 62 = .ok (.putfield 37, 3) := by decide +kernel
theorem dX1_init_65 : decode cX1_init 65 = .ok (.aload_n 0, 1) := by decide +kernel
theorem dX1_init_66 : decode cX1_init 66 = .ok (.iconst 0, 1) := by decide +kernel
theorem dX1_init_67 : decode cX1_init 67 = .ok (.putfield 40, 3) := by decide +kernel
theorem dX1_init_70 : decode cX1_init 70 = .ok (.aload_n 0, 1) := by decide +kernel
theorem dX1_init_71 : decode cX1_init 71 = .ok (.iconst 0, 1) := by decide +kernel
theorem dX1_init_72 : decode cX1_init 72 = .ok (.putfield 43, 3) := by decide +kernel
theorem dX1_init_75 : decode cX1_init 75 = .ok (.aload_n 0, 1) := by decide +kernel
theorem dX1_init_76 : decode cX1_init 76 = .ok (.iconst 0, 1) := by decide +kernel
theorem dX1_init_77 : decode cX1_init 77 = .ok (.putfield 46, 3) := by decide +kernel
theorem dX1_init_80 : decode cX1_init 80 = .ok (.aload_n 0, 1) := by decide +kernel
theorem dX1_init_81 : decode cX1_init 81 = .ok (.iconst 0, 1) := by decide +kernel
theorem dX1_init_82 : decode cX1_init 82 = .ok (.putfield 49, 3) := by decide +kernel
theorem dX1_init_85 : decode cX1_init 85 = .ok (.aload_n 0, 1) := by decide +kernel
theorem dX1_init_86 : decode cX1_init 86 = .ok (.iconst 0, 1) := by decide +kernel
theorem dX1_init_87 : decode cX1_init 87 = .ok (.putfield 52, 3) := by decide +kernel
theorem dX1_init_90 : decode cX1_init 90 = .ok (.return_, 1) := by decide +kernel
theorem dX1_fill_0 : decode cX1_fill 0 = .ok (.aload_n 0, 1) := by decide +kernel
theorem dX1_fill_1 : decode cX1_fill 1 = .ok (.iload_n 1, 1) := by decide +kernel
theorem dX1_fill_2 : decode cX1_fill 2 = .ok (.invokevirtual 55, 3) := by decide +kernel
theorem dX1_fill_5 : decode cX1_fill 5 = .ok (.istore_n 3, 1) := by decide +kernel
theorem dX1_fill_6 : decode cX1_fill 6 = .ok (.aload_n 0, 1) := by decide +kernel
theorem dX1_fill_7 : decode cX1_fill 7 = .ok (.iload_n 1, 1) := by decide +kernel
theorem dX1_fill_8 : decode cX1_fill 8 = .ok (.iload_n 2, 1) := by decide +kernel
theorem dX1_fill_9 : decode cX1_fill 9 = .ok (.invokevirtual 59, 3) := by decide +kernel
theorem dX1_fill_12 : decode cX1_fill 12 = .ok (.iload_n 3, 1) := by decide +kernel
theorem dX1_fill_13 : decode cX1_fill 13 = .ok (.ireturn, 1) := by decide +kernel
theorem dX1_basin_0 : decode cX1_basin 0 = .ok (.aload_n 0, 1) := by decide +kernel
theorem dX1_basin_1 : decode cX1_basin 1 = .ok (.iload_n 1, 1) := by decide +kernel
theorem dX1_basin_2 : decode cX1_basin 2 = .ok (.invokevirtual 55, 3) := by decide +kernel
theorem dX1_basin_5 : decode cX1_basin 5 = .ok (.ireturn, 1) := by decide +kernel
theorem dX1_gauge_0 : decode cX1_gauge 0 = .ok (.iload_n 1, 1) := by decide +kernel
theorem dX1_gauge_1 : decode cX1_gauge 1 = .ok (.invokestatic 63, 3) := by decide +kernel
theorem dX1_gauge_4 : decode cX1_gauge 4 = .ok (.ifCond .eq 13, 3) := by decide +kernel
theorem dX1_gauge_7 : decode cX1_gauge 7 = .ok (.iload_n 2, 1) := by decide +kernel
theorem dX1_gauge_8 : decode cX1_gauge 8 = .ok (.ifCond .lt 9, 3) := by decide +kernel
theorem dX1_gauge_11 : decode cX1_gauge 11 = .ok (.iload_n 2, 1) := by decide +kernel
theorem dX1_gauge_12 : decode cX1_gauge 12 = .ok (.bipush 6, 2) := by decide +kernel
theorem dX1_gauge_14 : decode cX1_gauge 14 = .ok (.if_icmp .le 5, 3) := by decide +kernel
theorem dX1_gauge_17 : decode cX1_gauge 17 = .ok (.iconst (-1), 1) := by decide +kernel
theorem dX1_gauge_18 : decode cX1_gauge 18 = .ok (.ireturn, 1) := by decide +kernel
theorem dX1_gauge_19 : decode cX1_gauge 19 = .ok (.aload_n 0, 1) := by decide +kernel
theorem dX1_gauge_20 : decode cX1_gauge 20 = .ok (.getfield 14, 3) := by decide +kernel
theorem dX1_gauge_23 : decode cX1_gauge 23 = .ok (.iload_n 1, 1) := by decide +kernel
theorem dX1_gauge_24 : decode cX1_gauge 24 = .ok (.iload_n 2, 1) := by decide +kernel
theorem dX1_gauge_25 : decode cX1_gauge 25 = .ok (.newarray .int, 2) := by decide +kernel
theorem dX1_gauge_27 : decode cX1_gauge 27 = .ok (.aastore, 1) := by decide +kernel
theorem dX1_gauge_28 : decode cX1_gauge 28 = .ok (.iconst 1, 1) := by decide +kernel
theorem dX1_gauge_29 : decode cX1_gauge 29 = .ok (.ireturn, 1) := by decide +kernel
theorem dX1_mark_0 : decode cX1_mark 0 = .ok (.aload_n 0, 1) := by decide +kernel
theorem dX1_mark_1 : decode cX1_mark 1 = .ok (.iload_n 1, 1) := by decide +kernel
theorem dX1_mark_2 : decode cX1_mark 2 = .ok (.invokevirtual 67, 3) := by decide +kernel
theorem dX1_mark_5 : decode cX1_mark 5 = .ok (.astore_n 3, 1) := by decide +kernel
theorem dX1_mark_6 : decode cX1_mark 6 = .ok (.aload_n 3, 1) := by decide +kernel
theorem dX1_mark_7 : decode cX1_mark 7 = .ok (.iload_n 2, 1) := by decide +kernel
theorem dX1_mark_8 : decode cX1_mark 8 = .ok (.invokestatic 71, 3) := by decide +kernel
theorem dX1_mark_11 : decode cX1_mark 11 = .ok (.ifCond .eq 9, 3) := by decide +kernel
theorem dX1_mark_14 : decode cX1_mark 14 = .ok (.aload_n 3, 1) := by decide +kernel
theorem dX1_mark_15 : decode cX1_mark 15 = .ok (.iload_n 2, 1) := by decide +kernel
theorem dX1_mark_16 : decode cX1_mark 16 = .ok (.iaload, 1) := by decide +kernel
theorem dX1_mark_17 : decode cX1_mark 17 = .ok (.goto 4, 3) := by decide +kernel
theorem dX1_mark_20 : decode cX1_mark 20 = .ok (.iconst 0, 1) := by decide +kernel
theorem dX1_mark_21 : decode cX1_mark 21 = .ok (.ireturn, 1) := by decide +kernel
theorem dX1_deed_0 : decode cX1_deed 0 = .ok (.iload_n 1, 1) := by decide +kernel
theorem dX1_deed_1 : decode cX1_deed 1 = .ok (.invokestatic 75, 3) := by decide +kernel
theorem dX1_deed_4 : decode cX1_deed 4 = .ok (.ifCond .eq 15, 3) := by decide +kernel
theorem dX1_deed_7 : decode cX1_deed 7 = .ok (.iload_n 2, 1) := by decide +kernel
theorem dX1_deed_8 : decode cX1_deed 8 = .ok (.iload_n 3, 1) := by decide +kernel
theorem dX1_deed_9 : decode cX1_deed 9 = .ok (.iload 4, 2) := by decide +kernel
theorem dX1_deed_11 : decode cX1_deed 11 = .ok (.iload 5, 2) := by decide +kernel
theorem dX1_deed_13 : decode cX1_deed 13 = .ok (.invokestatic 78, 3) := by decide +kernel
theorem dX1_deed_16 : decode cX1_deed 16 = .ok (.ifCond .ne 5, 3) := by decide +kernel
theorem dX1_deed_19 : decode cX1_deed 19 = .ok (.iconst (-1), 1) := by decide +kernel
theorem dX1_deed_20 : decode cX1_deed 20 = .ok (.ireturn, 1) := by decide +kernel
theorem dX1_deed_21 : decode cX1_deed 21 = .ok (.iload_n 2, 1) := by decide +kernel
theorem dX1_deed_22 : decode cX1_deed 22 = .ok (.invokestatic 82, 3) := by decide +kernel
theorem dX1_deed_25 : decode cX1_deed 25 = .ok (.ifCond .eq 11, 3) := by decide +kernel
theorem dX1_deed_28 : decode cX1_deed 28 = .ok (.aload_n 0, 1) := by decide +kernel
theorem dX1_deed_29 : decode cX1_deed 29 = .ok (.iload_n 3, 1) := by decide +kernel
theorem dX1_deed_30 : decode cX1_deed 30 = .ok (.invokevirtual 85, 3) := by decide +kernel
theorem dX1_deed_33 : decode cX1_deed 33 = .ok (.goto 4, 3) := by decide +kernel
theorem dX1_deed_36 : decode cX1_deed 36 = .ok (.aconst_null, 1) := by decide +kernel
theorem dX1_deed_37 : decode cX1_deed 37 = .ok (.astore 6, 2) := by decide +kernel
theorem dX1_deed_39 : decode cX1_deed 39 = .ok (.iload_n 2, 1) := by decide +kernel
theorem dX1_deed_40 : decode cX1_deed 40 = .ok (.invokestatic 89, 3) := by decide +kernel
theorem dX1_deed_43 : decode cX1_deed 43 = .ok (.ifCond .eq 12, 3) := by decide +kernel
theorem dX1_deed_46 : decode cX1_deed 46 = .ok (.aload_n 0, 1) := by decide +kernel
theorem dX1_deed_47 : decode cX1_deed 47 = .ok (.iload 4, 2) := by decide +kernel
theorem dX1_deed_49 : decode cX1_deed 49 = .ok (.invokevirtual 85, 3) := by decide +kernel
theorem dX1_deed_52 : decode cX1_deed 52 = .ok (.goto 4, 3) := by decide +kernel
theorem dX1_deed_55 : decode cX1_deed 55 = .ok (.aconst_null, 1) := by decide +kernel
theorem dX1_deed_56 : decode cX1_deed 56 = .ok (.astore 7, 2) := by decide +kernel
theorem dX1_deed_58 : decode cX1_deed 58 = .ok (.iload_n 2, 1) := by decide +kernel
theorem dX1_deed_59 : decode cX1_deed 59 = .ok (.invokestatic 82, 3) := by decide +kernel
theorem dX1_deed_62 : decode cX1_deed 62 = .ok (.ifCond .eq 8, 3) := by decide +kernel
theorem dX1_deed_65 : decode cX1_deed 65 = .ok (.aload 6, 2) := by decide +kernel
theorem dX1_deed_67 : decode cX1_deed 67 = .ok (.ifnull 15, 3) := by decide +kernel
theorem dX1_deed_70 : decode cX1_deed 70 = .ok (.iload_n 2, 1) := by decide +kernel
theorem dX1_deed_71 : decode cX1_deed 71 = .ok (.invokestatic 89, 3) := by decide +kernel
theorem dX1_deed_74 : decode cX1_deed 74 = .ok (.ifCond .eq 11, 3) := by decide +kernel
theorem dX1_deed_77 : decode cX1_deed 77 = .ok (.aload 7, 2) := by decide +kernel
theorem dX1_deed_79 : decode cX1_deed 79 = .ok (.ifnonnull 6, 3) := by decide +kernel
theorem dX1_deed_82 : decode cX1_deed 82 = .ok (.bipush (-2), 2) := by decide +kernel
theorem dX1_deed_84 : decode cX1_deed 84 = .ok (.ireturn, 1) := by decide +kernel
theorem dX1_deed_85 : decode cX1_deed 85 = .ok (.iload_n 2, 1) := by decide +kernel
theorem dX1_deed_86 : decode cX1_deed 86 = .ok (.iconst 4, 1) := by decide +kernel
theorem dX1_deed_87 : decode cX1_deed 87 = .ok (.if_icmp .ne 11, 3) := by decide +kernel
theorem dX1_deed_90 : decode cX1_deed 90 = .ok (.aload_n 0, 1) := by decide +kernel
theorem dX1_deed_91 : decode cX1_deed 91 = .ok (.iload_n 3, 1) := by decide +kernel
theorem dX1_deed_92 : decode cX1_deed 92 = .ok (.invokevirtual 67, 3) := by decide +kernel
theorem dX1_deed_95 : decode cX1_deed 95 = .ok (.goto 4, 3) := by decide +kernel
theorem dX1_deed_98 : decode cX1_deed 98 = .ok (.aconst_null, 1) := by decide +kernel
theorem dX1_deed_99 : decode cX1_deed 99 = .ok (.astore 8, 2) := by decide +kernel
theorem dX1_deed_101 : decode cX1_deed 101 = .ok (.iload_n 2, 1) := by decide +kernel
theorem dX1_deed_102 : decode cX1_deed 102 = .ok (.bipush 6, 2) := by decide +kernel
theorem dX1_deed_104 : decode cX1_deed 104 = .ok (.if_icmp .ne 11, 3) := by decide +kernel
theorem dX1_deed_107 : decode cX1_deed 107 = .ok (.aload_n 0, 1) := by decide +kernel
theorem dX1_deed_108 : decode cX1_deed 108 = .ok (.iload_n 3, 1) := by decide +kernel
theorem dX1_deed_109 : decode cX1_deed 109 = .ok (.invokevirtual 55, 3) := by decide +kernel
theorem dX1_deed_112 : decode cX1_deed 112 = .ok (.goto 4, 3) := by decide +kernel
theorem dX1_deed_115 : decode cX1_deed 115 = .ok (.iload_n 3, 1) := by decide +kernel
theorem dX1_deed_116 : decode cX1_deed 116 = .ok (.istore 9, 2) := by decide +kernel
theorem dX1_deed_118 : decode cX1_deed 118 = .ok (.aload_n 0, 1) := by decide +kernel
theorem dX1_deed_119 : decode cX1_deed 119 = .ok (.getfield 20, 3) := by decide +kernel
theorem dX1_deed_122 : decode cX1_deed 122 = .ok (.iload_n 1, 1) := by decide +kernel
theorem dX1_deed_123 : decode cX1_deed 123 = .ok (.new 18, 3) := by decide +kernel
theorem dX1_deed_126 : decode cX1_deed 126 = .ok (.dup, 1) := by decide +kernel
theorem dX1_deed_127 : decode cX1_deed 127 = .ok (.iload_n 2, 1) := by decide +kernel
theorem dX1_deed_128 : decode cX1_deed 128 = .ok (.iload 9, 2) := by decide +kernel
theorem dX1_deed_130 : decode cX1_deed 130 = .ok (.iload 4, 2) := by decide +kernel
theorem dX1_deed_132 : decode cX1_deed 132 = .ok (.iload 5, 2) := by decide +kernel
theorem dX1_deed_134 : decode cX1_deed 134 = .ok (.aload 6, 2) := by decide +kernel
theorem dX1_deed_136 : decode cX1_deed 136 = .ok (.aload 7, 2) := by decide +kernel
theorem dX1_deed_138 : decode cX1_deed 138 = .ok (.aload 8, 2) := by decide +kernel
theorem dX1_deed_140 : decode cX1_deed 140 = .ok (.invokespecial 92, 3) := by decide +kernel
theorem dX1_deed_143 : decode cX1_deed 143 = .ok (.aastore, 1) := by decide +kernel
theorem dX1_deed_144 : decode cX1_deed 144 = .ok (.aload_n 0, 1) := by decide +kernel
theorem dX1_deed_145 : decode cX1_deed 145 = .ok (.dup, 1) := by decide +kernel
theorem dX1_deed_146 : decode cX1_deed 146 = .ok (.getfield 40, 3) := by decide +kernel
theorem dX1_deed_149 : decode cX1_deed 149 = .ok (.iconst 1, 1) := by decide +kernel
theorem dX1_deed_150 : decode cX1_deed 150 = .ok (.iadd, 1) := by decide +kernel
theorem dX1_deed_151 : decode cX1_deed 151 = .ok (.putfield 40, 3) := by decide +kernel
theorem dX1_deed_154 : decode cX1_deed 154 = .ok (.aload_n 0, 1) := by decide +kernel
theorem dX1_deed_155 : decode cX1_deed 155 = .ok (.getfield 40, 3) := by decide +kernel
theorem dX1_deed_158 : decode cX1_deed 158 = .ok (.ireturn, 1) := by decide +kernel
theorem dX1_copy_0 : decode cX1_copy 0 = .ok (.iload_n 1, 1) := by decide +kernel
theorem dX1_copy_1 : decode cX1_copy 1 = .ok (.invokestatic 75, 3) := by decide +kernel
theorem dX1_copy_4 : decode cX1_copy 4 = .ok (.ifCond .eq 10, 3) := by decide +kernel
theorem dX1_copy_7 : decode cX1_copy 7 = .ok (.iload_n 2, 1) := by decide +kernel
theorem dX1_copy_8 : decode cX1_copy 8 = .ok (.invokestatic 75, 3) := by decide +kernel
theorem dX1_copy_11 : decode cX1_copy 11 = .ok (.ifCond .ne 5, 3) := by decide +kernel
theorem dX1_copy_14 : decode cX1_copy 14 = .ok (.iconst (-1), 1) := by decide +kernel
theorem dX1_copy_15 : decode cX1_copy 15 = .ok (.ireturn, 1) := by decide +kernel
theorem dX1_copy_16 : decode cX1_copy 16 = .ok (.aload_n 0, 1) := by decide +kernel
theorem dX1_copy_17 : decode cX1_copy 17 = .ok (.getfield 20, 3) := by decide +kernel
theorem dX1_copy_20 : decode cX1_copy 20 = .ok (.iload_n 1, 1) := by decide +kernel
theorem dX1_copy_21 : decode cX1_copy 21 = .ok (.aaload, 1) := by decide +kernel
theorem dX1_copy_22 : decode cX1_copy 22 = .ok (.ifnonnull 6, 3) := by decide +kernel
theorem dX1_copy_25 : decode cX1_copy 25 = .ok (.bipush (-2), 2) := by decide +kernel
theorem dX1_copy_27 : decode cX1_copy 27 = .ok (.ireturn, 1) := by decide +kernel
theorem dX1_copy_28 : decode cX1_copy 28 = .ok (.aload_n 0, 1) := by decide +kernel
theorem dX1_copy_29 : decode cX1_copy 29 = .ok (.getfield 20, 3) := by decide +kernel
theorem dX1_copy_32 : decode cX1_copy 32 = .ok (.iload_n 2, 1) := by decide +kernel
theorem dX1_copy_33 : decode cX1_copy 33 = .ok (.aload_n 0, 1) := by decide +kernel
theorem dX1_copy_34 : decode cX1_copy 34 = .ok (.getfield 20, 3) := by decide +kernel
theorem dX1_copy_37 : decode cX1_copy 37 = .ok (.iload_n 1, 1) := by decide +kernel
theorem dX1_copy_38 : decode cX1_copy 38 = .ok (.aaload, 1) := by decide +kernel
theorem dX1_copy_39 : decode cX1_copy 39 = .ok (.aastore, 1) := by decide +kernel
theorem dX1_copy_40 : decode cX1_copy 40 = .ok (.iconst 1, 1) := by decide +kernel
theorem dX1_copy_41 : decode cX1_copy 41 = .ok (.ireturn, 1) := by decide +kernel
theorem dX1_drop_0 : decode cX1_drop 0 = .ok (.iload_n 1, 1) := by decide +kernel
theorem dX1_drop_1 : decode cX1_drop 1 = .ok (.invokestatic 75, 3) := by decide +kernel
theorem dX1_drop_4 : decode cX1_drop 4 = .ok (.ifCond .ne 5, 3) := by decide +kernel
theorem dX1_drop_7 : decode cX1_drop 7 = .ok (.iconst (-1), 1) := by decide +kernel
theorem dX1_drop_8 : decode cX1_drop 8 = .ok (.ireturn, 1) := by decide +kernel
theorem dX1_drop_9 : decode cX1_drop 9 = .ok (.aload_n 0, 1) := by decide +kernel
theorem dX1_drop_10 : decode cX1_drop 10 = .ok (.getfield 20, 3) := by decide +kernel
theorem dX1_drop_13 : decode cX1_drop 13 = .ok (.iload_n 1, 1) := by decide +kernel
theorem dX1_drop_14 : decode cX1_drop 14 = .ok (.aaload, 1) := by decide +kernel
theorem dX1_drop_15 : decode cX1_drop 15 = .ok (.ifnonnull 6, 3) := by decide +kernel
theorem dX1_drop_18 : decode cX1_drop 18 = .ok (.bipush (-2), 2) := by decide +kernel
theorem dX1_drop_20 : decode cX1_drop 20 = .ok (.ireturn, 1) := by decide +kernel
theorem dX1_drop_21 : decode cX1_drop 21 = .ok (.aload_n 0, 1) := by decide +kernel
theorem dX1_drop_22 : decode cX1_drop 22 = .ok (.getfield 20, 3) := by decide +kernel
theorem dX1_drop_25 : decode cX1_drop 25 = .ok (.iload_n 1, 1) := by decide +kernel
theorem dX1_drop_26 : decode cX1_drop 26 = .ok (.aconst_null, 1) := by decide +kernel
theorem dX1_drop_27 : decode cX1_drop 27 = .ok (.aastore, 1) := by decide +kernel
theorem dX1_drop_28 : decode cX1_drop 28 = .ok (.iconst 1, 1) := by decide +kernel
theorem dX1_drop_29 : decode cX1_drop 29 = .ok (.ireturn, 1) := by decide +kernel
theorem dX1_lever_0 : decode cX1_lever 0 = .ok (.iload_n 1, 1) := by decide +kernel
theorem dX1_lever_1 : decode cX1_lever 1 = .ok (.invokestatic 95, 3) := by decide +kernel
theorem dX1_lever_4 : decode cX1_lever 4 = .ok (.ifCond .eq 24, 3) := by decide +kernel
theorem dX1_lever_7 : decode cX1_lever 7 = .ok (.iload_n 2, 1) := by decide +kernel
theorem dX1_lever_8 : decode cX1_lever 8 = .ok (.ifCond .lt 20, 3) := by decide +kernel
theorem dX1_lever_11 : decode cX1_lever 11 = .ok (.iload_n 2, 1) := by decide +kernel
theorem dX1_lever_12 : decode cX1_lever 12 = .ok (.iconst 4, 1) := by decide +kernel
theorem dX1_lever_13 : decode cX1_lever 13 = .ok (.if_icmp .ge 15, 3) := by decide +kernel
theorem dX1_lever_16 : decode cX1_lever 16 = .ok (.iload_n 3, 1) := by decide +kernel
theorem dX1_lever_17 : decode cX1_lever 17 = .ok (.iconst (-1), 1) := by decide +kernel
theorem dX1_lever_18 : decode cX1_lever 18 = .ok (.if_icmp .eq 12, 3) := by decide +kernel
theorem dX1_lever_21 : decode cX1_lever 21 = .ok (.iload_n 3, 1) := by decide +kernel
theorem dX1_lever_22 : decode cX1_lever 22 = .ok (.invokestatic 75, 3) := by decide +kernel
theorem dX1_lever_25 : decode cX1_lever 25 = .ok (.ifCond .ne 5, 3) := by decide +kernel
theorem dX1_lever_28 : decode cX1_lever 28 = .ok (.iconst (-1), 1) := by decide +kernel
theorem dX1_lever_29 : decode cX1_lever 29 = .ok (.ireturn, 1) := by decide +kernel
theorem dX1_lever_30 : decode cX1_lever 30 = .ok (.aload_n 0, 1) := by decide +kernel
theorem dX1_lever_31 : decode cX1_lever 31 = .ok (.iload_n 3, 1) := by decide +kernel
theorem dX1_lever_32 : decode cX1_lever 32 = .ok (.invokevirtual 85, 3) := by decide +kernel
theorem dX1_lever_35 : decode cX1_lever 35 = .ok (.astore 4, 2) := by decide +kernel
theorem dX1_lever_37 : decode cX1_lever 37 = .ok (.iload_n 3, 1) := by decide +kernel
theorem dX1_lever_38 : decode cX1_lever 38 = .ok (.iconst (-1), 1) := by decide +kernel
theorem dX1_lever_39 : decode cX1_lever 39 = .ok (.if_icmp .eq 11, 3) := by decide +kernel
theorem dX1_lever_42 : decode cX1_lever 42 = .ok (.aload 4, 2) := by decide +kernel
theorem dX1_lever_44 : decode cX1_lever 44 = .ok (.ifnonnull 6, 3) := by decide +kernel
theorem dX1_lever_47 : decode cX1_lever 47 = .ok (.bipush (-2), 2) := by decide +kernel
theorem dX1_lever_49 : decode cX1_lever 49 = .ok (.ireturn, 1) := by decide +kernel
theorem dX1_lever_50 : decode cX1_lever 50 = .ok (.aload_n 0, 1) := by decide +kernel
theorem dX1_lever_51 : decode cX1_lever 51 = .ok (.getfield 24, 3) := by decide +kernel
theorem dX1_lever_54 : decode cX1_lever 54 = .ok (.iload_n 1, 1) := by decide +kernel
theorem dX1_lever_55 : decode cX1_lever 55 = .ok (.iconst 4, 1) := by decide +kernel
theorem dX1_lever_56 : decode cX1_lever 56 = .ok (.imul, 1) := by decide +kernel
theorem dX1_lever_57 : decode cX1_lever 57 = .ok (.iload_n 2, 1) := by decide +kernel
theorem dX1_lever_58 : decode cX1_lever 58 = .ok (.iadd, 1) := by decide +kernel
theorem dX1_lever_59 : decode cX1_lever 59 = .ok (.aload 4, 2) := by decide +kernel
theorem dX1_lever_61 : decode cX1_lever 61 = .ok (.aastore, 1) := by decide +kernel
theorem dX1_lever_62 : decode cX1_lever 62 = .ok (.iconst 1, 1) := by decide +kernel
theorem dX1_lever_63 : decode cX1_lever 63 = .ok (.ireturn, 1) := by decide +kernel
theorem dX1_same_0 : decode cX1_same 0 = .ok (.iload_n 1, 1) := by decide +kernel
theorem dX1_same_1 : decode cX1_same 1 = .ok (.invokestatic 75, 3) := by decide +kernel
theorem dX1_same_4 : decode cX1_same 4 = .ok (.ifCond .eq 10, 3) := by decide +kernel
theorem dX1_same_7 : decode cX1_same 7 = .ok (.iload_n 2, 1) := by decide +kernel
theorem dX1_same_8 : decode cX1_same 8 = .ok (.invokestatic 75, 3) := by decide +kernel
theorem dX1_same_11 : decode cX1_same 11 = .ok (.ifCond .ne 5, 3) := by decide +kernel
theorem dX1_same_14 : decode cX1_same 14 = .ok (.iconst (-1), 1) := by decide +kernel
theorem dX1_same_15 : decode cX1_same 15 = .ok (.ireturn, 1) := by decide +kernel
theorem dX1_same_16 : decode cX1_same 16 = .ok (.aload_n 0, 1) := by decide +kernel
theorem dX1_same_17 : decode cX1_same 17 = .ok (.getfield 20, 3) := by decide +kernel
theorem dX1_same_20 : decode cX1_same 20 = .ok (.iload_n 1, 1) := by decide +kernel
theorem dX1_same_21 : decode cX1_same 21 = .ok (.aaload, 1) := by decide +kernel
theorem dX1_same_22 : decode cX1_same 22 = .ok (.ifnull 22, 3) := by decide +kernel
theorem dX1_same_25 : decode cX1_same 25 = .ok (.aload_n 0, 1) := by decide +kernel
theorem dX1_same_26 : decode cX1_same 26 = .ok (.getfield 20, 3) := by decide +kernel
theorem dX1_same_29 : decode cX1_same 29 = .ok (.iload_n 1, 1) := by decide +kernel
theorem dX1_same_30 : decode cX1_same 30 = .ok (.aaload, 1) := by decide +kernel
theorem dX1_same_31 : decode cX1_same 31 = .ok (.aload_n 0, 1) := by decide +kernel
theorem dX1_same_32 : decode cX1_same 32 = .ok (.getfield 20, 3) := by decide +kernel
theorem dX1_same_35 : decode cX1_same 35 = .ok (.iload_n 2, 1) := by decide +kernel
theorem dX1_same_36 : decode cX1_same 36 = .ok (.aaload, 1) := by decide +kernel
theorem dX1_same_37 : decode cX1_same 37 = .ok (.if_acmp .ne 7, 3) := by decide +kernel
theorem dX1_same_40 : decode cX1_same 40 = .ok (.iconst 1, 1) := by decide +kernel
theorem dX1_same_41 : decode cX1_same 41 = .ok (.goto 4, 3) := by decide +kernel
theorem dX1_same_44 : decode cX1_same 44 = .ok (.iconst 0, 1) := by decide +kernel
theorem dX1_same_45 : decode cX1_same 45 = .ok (.ireturn, 1) := by decide +kernel
theorem dX1_count_0 : decode cX1_count 0 = .ok (.iload_n 1, 1) := by decide +kernel
theorem dX1_count_1 : decode cX1_count 1 = .ok (.invokestatic 75, 3) := by decide +kernel
theorem dX1_count_4 : decode cX1_count 4 = .ok (.ifCond .ne 5, 3) := by decide +kernel
theorem dX1_count_7 : decode cX1_count 7 = .ok (.iconst (-1), 1) := by decide +kernel
theorem dX1_count_8 : decode cX1_count 8 = .ok (.ireturn, 1) := by decide +kernel
theorem dX1_count_9 : decode cX1_count 9 = .ok (.aload_n 0, 1) := by decide +kernel
theorem dX1_count_10 : decode cX1_count 10 = .ok (.getfield 20, 3) := by decide +kernel
theorem dX1_count_13 : decode cX1_count 13 = .ok (.iload_n 1, 1) := by decide +kernel
theorem dX1_count_14 : decode cX1_count 14 = .ok (.aaload, 1) := by decide +kernel
theorem dX1_count_15 : decode cX1_count 15 = .ok (.astore_n 2, 1) := by decide +kernel
theorem dX1_count_16 : decode cX1_count 16 = .ok (.aload_n 2, 1) := by decide +kernel
theorem dX1_count_17 : decode cX1_count 17 = .ok (.ifnull 19, 3) := by decide +kernel
theorem dX1_count_20 : decode cX1_count 20 = .ok (.aload_n 2, 1) := by decide +kernel
theorem dX1_count_21 : decode cX1_count 21 = .ok (.getfield 98, 3) := by decide +kernel
theorem dX1_count_24 : decode cX1_count 24 = .ok (.bipush 12, 2) := by decide +kernel
theorem dX1_count_26 : decode cX1_count 26 = .ok (.if_icmp .ne 10, 3) := by decide +kernel
theorem dX1_count_29 : decode cX1_count 29 = .ok (.aload_n 2, 1) := by decide +kernel
theorem dX1_count_30 : decode cX1_count 30 = .ok (.getfield 101, 3) := by decide +kernel
theorem dX1_count_33 : decode cX1_count 33 = .ok (.goto 5, 3) := by decide +kernel
theorem dX1_count_36 : decode cX1_count 36 = .ok (.bipush (-2), 2) := by decide +kernel
theorem dX1_count_38 : decode cX1_count 38 = .ok (.ireturn, 1) := by decide +kernel
theorem dX1_act_0 : decode cX1_act 0 = .ok (.iload_n 1, 1) := by decide +kernel
theorem dX1_act_1 : decode cX1_act 1 = .ok (.invokestatic 75, 3) := by decide +kernel
theorem dX1_act_4 : decode cX1_act 4 = .ok (.ifCond .ne 9, 3) := by decide +kernel
theorem dX1_act_7 : decode cX1_act 7 = .ok (.aload_n 0, 1) := by decide +kernel
theorem dX1_act_8 : decode cX1_act 8 = .ok (.iconst (-1), 1) := by decide +kernel
theorem dX1_act_9 : decode cX1_act 9 = .ok (.invokevirtual 104, 3) := by decide +kernel
theorem dX1_act_12 : decode cX1_act 12 = .ok (.ireturn, 1) := by decide +kernel
theorem dX1_act_13 : decode cX1_act 13 = .ok (.aload_n 0, 1) := by decide +kernel
theorem dX1_act_14 : decode cX1_act 14 = .ok (.getfield 20, 3) := by decide +kernel
theorem dX1_act_17 : decode cX1_act 17 = .ok (.iload_n 1, 1) := by decide +kernel
theorem dX1_act_18 : decode cX1_act 18 = .ok (.aaload, 1) := by decide +kernel
theorem dX1_act_19 : decode cX1_act 19 = .ok (.ifnonnull 10, 3) := by decide +kernel
theorem dX1_act_22 : decode cX1_act 22 = .ok (.aload_n 0, 1) := by decide +kernel
theorem dX1_act_23 : decode cX1_act 23 = .ok (.bipush (-2), 2) := by decide +kernel
theorem dX1_act_25 : decode cX1_act 25 = .ok (.invokevirtual 104, 3) := by decide +kernel
theorem dX1_act_28 : decode cX1_act 28 = .ok (.ireturn, 1) := by decide +kernel
theorem dX1_act_29 : decode cX1_act 29 = .ok (.aload_n 0, 1) := by decide +kernel
theorem dX1_act_30 : decode cX1_act 30 = .ok (.invokevirtual 107, 3) := by decide +kernel
theorem dX1_act_33 : decode cX1_act 33 = .ok (.aload_n 0, 1) := by decide +kernel
theorem dX1_act_34 : decode cX1_act 34 = .ok (.aload_n 0, 1) := by decide +kernel
theorem dX1_act_35 : decode cX1_act 35 = .ok (.getfield 20, 3) := by decide +kernel
theorem dX1_act_38 : decode cX1_act 38 = .ok (.iload_n 1, 1) := by decide +kernel
theorem dX1_act_39 : decode cX1_act 39 = .ok (.aaload, 1) := by decide +kernel
theorem dX1_act_40 : decode cX1_act 40 = .ok (.iload_n 2, 1) := by decide +kernel
theorem dX1_act_41 : decode cX1_act 41 = .ok (.iconst 0, 1) := by decide +kernel
theorem dX1_act_42 : decode cX1_act 42 = .ok (.invokevirtual 110, 3) := by decide +kernel
theorem dX1_act_45 : decode cX1_act 45 = .ok (.istore_n 3, 1) := by decide +kernel
theorem dX1_act_46 : decode cX1_act 46 = .ok (.aload_n 0, 1) := by decide +kernel
theorem dX1_act_47 : decode cX1_act 47 = .ok (.invokevirtual 114, 3) := by decide +kernel
theorem dX1_act_50 : decode cX1_act 50 = .ok (.iload_n 3, 1) := by decide +kernel
theorem dX1_act_51 : decode cX1_act 51 = .ok (.ireturn, 1) := by decide +kernel
theorem dX1_pull_0 : decode cX1_pull 0 = .ok (.iload_n 1, 1) := by decide +kernel
theorem dX1_pull_1 : decode cX1_pull 1 = .ok (.invokestatic 95, 3) := by decide +kernel
theorem dX1_pull_4 : decode cX1_pull 4 = .ok (.ifCond .ne 9, 3) := by decide +kernel
theorem dX1_pull_7 : decode cX1_pull 7 = .ok (.aload_n 0, 1) := by decide +kernel
theorem dX1_pull_8 : decode cX1_pull 8 = .ok (.iconst (-1), 1) := by decide +kernel
theorem dX1_pull_9 : decode cX1_pull 9 = .ok (.invokevirtual 104, 3) := by decide +kernel
theorem dX1_pull_12 : decode cX1_pull 12 = .ok (.ireturn, 1) := by decide +kernel
theorem dX1_pull_13 : decode cX1_pull 13 = .ok (.aload_n 0, 1) := by decide +kernel
theorem dX1_pull_14 : decode cX1_pull 14 = .ok (.invokevirtual 107, 3) := by decide +kernel
theorem dX1_pull_17 : decode cX1_pull 17 = .ok (.aload_n 0, 1) := by decide +kernel
theorem dX1_pull_18 : decode cX1_pull 18 = .ok (.iload_n 1, 1) := by decide +kernel
theorem dX1_pull_19 : decode cX1_pull 19 = .ok (.iload_n 2, 1) := by decide +kernel
theorem dX1_pull_20 : decode cX1_pull 20 = .ok (.iconst 0, 1) := by decide +kernel
theorem dX1_pull_21 : decode cX1_pull 21 = .ok (.invokevirtual 117, 3) := by decide +kernel
theorem dX1_pull_24 : decode cX1_pull 24 = .ok (.istore_n 3, 1) := by decide +kernel
theorem dX1_pull_25 : decode cX1_pull 25 = .ok (.aload_n 0, 1) := by decide +kernel
theorem dX1_pull_26 : decode cX1_pull 26 = .ok (.invokevirtual 114, 3) := by decide +kernel
theorem dX1_pull_29 : decode cX1_pull 29 = .ok (.iload_n 3, 1) := by decide +kernel
theorem dX1_pull_30 : decode cX1_pull 30 = .ok (.ireturn, 1) := by decide +kernel
theorem dX1_tick_0 : decode cX1_tick 0 = .ok (.aload_n 0, 1) := by decide +kernel
theorem dX1_tick_1 : decode cX1_tick 1 = .ok (.invokevirtual 107, 3) := by decide +kernel
theorem dX1_tick_4 : decode cX1_tick 4 = .ok (.aload_n 0, 1) := by decide +kernel
theorem dX1_tick_5 : decode cX1_tick 5 = .ok (.getfield 37, 3) := by decide +kernel
theorem dX1_tick_8 : decode cX1_tick 8 = .ok (.istore_n 1, 1) := by decide +kernel
theorem dX1_tick_9 : decode cX1_tick 9 = .ok (.iconst 0, 1) := by decide +kernel
theorem dX1_tick_10 : decode cX1_tick 10 = .ok (.istore_n 2, 1) := by decide +kernel
theorem dX1_tick_11 : decode cX1_tick 11 = .ok (.iconst 0, 1) := by decide +kernel
theorem dX1_tick_12 : decode cX1_tick 12 = .ok (.istore_n 3, 1) := by decide +kernel
theorem dX1_tick_13 : decode cX1_tick 13 = .ok (.iload_n 3, 1) := by decide +kernel
theorem dX1_tick_14 : decode cX1_tick 14 = .ok (.iload_n 1, 1) := by decide +kernel
theorem dX1_tick_15 : decode cX1_tick 15 = .ok (.if_icmp .ge 32, 3) := by decide +kernel
theorem dX1_tick_18 : decode cX1_tick 18 = .ok (.aload_n 0, 1) := by decide +kernel
theorem dX1_tick_19 : decode cX1_tick 19 = .ok (.iconst 0, 1) := by decide +kernel
theorem dX1_tick_20 : decode cX1_tick 20 = .ok (.putfield 49, 3) := by decide +kernel
theorem dX1_tick_23 : decode cX1_tick 23 = .ok (.aload_n 0, 1) := by decide +kernel
theorem dX1_tick_24 : decode cX1_tick 24 = .ok (.invokevirtual 121, 3) := by decide +kernel
theorem dX1_tick_27 : decode cX1_tick 27 = .ok (.aload_n 0, 1) := by decide +kernel
theorem dX1_tick_28 : decode cX1_tick 28 = .ok (.invokevirtual 114, 3) := by decide +kernel
theorem dX1_tick_31 : decode cX1_tick 31 = .ok (.aload_n 0, 1) := by decide +kernel
theorem dX1_tick_32 : decode cX1_tick 32 = .ok (.getfield 49, 3) := by decide +kernel
theorem dX1_tick_35 : decode cX1_tick 35 = .ok (.ifCond .ne 6, 3) := by decide +kernel
theorem dX1_tick_38 : decode cX1_tick 38 = .ok (.iinc 2 1, 3) := by decide +kernel
theorem dX1_tick_41 : decode cX1_tick 41 = .ok (.iinc 3 1, 3) := by decide +kernel
theorem dX1_tick_44 : decode cX1_tick 44 = .ok (.goto (-31), 3) := by decide +kernel
theorem dX1_tick_47 : decode cX1_tick 47 = .ok (.iload_n 2, 1) := by decide +kernel
theorem dX1_tick_48 : decode cX1_tick 48 = .ok (.ireturn, 1) := by decide +kernel
theorem dX1_failed_0 : decode cX1_failed 0 = .ok (.aload_n 0, 1) := by decide +kernel
theorem dX1_failed_1 : decode cX1_failed 1 = .ok (.getfield 52, 3) := by decide +kernel
theorem dX1_failed_4 : decode cX1_failed 4 = .ok (.ireturn, 1) := by decide +kernel
theorem dX1_told_0 : decode cX1_told 0 = .ok (.iload_n 1, 1) := by decide +kernel
theorem dX1_told_1 : decode cX1_told 1 = .ok (.tableswitch 60 0 4 #[35, 40, 45, 50, 55], 35) := by decide +kernel
theorem dX1_told_36 : decode cX1_told 36 = .ok (.aload_n 0, 1) := by decide +kernel
theorem dX1_told_37 : decode cX1_told 37 = .ok (.getfield 40, 3) := by decide +kernel
theorem dX1_told_40 : decode cX1_told 40 = .ok (.ireturn, 1) := by decide +kernel
theorem dX1_told_41 : decode cX1_told 41 = .ok (.aload_n 0, 1) := by decide +kernel
theorem dX1_told_42 : decode cX1_told 42 = .ok (.getfield 37, 3) := by decide +kernel
theorem dX1_told_45 : decode cX1_told 45 = .ok (.ireturn, 1) := by decide +kernel
theorem dX1_told_46 : decode cX1_told 46 = .ok (.aload_n 0, 1) := by decide +kernel
theorem dX1_told_47 : decode cX1_told 47 = .ok (.getfield 43, 3) := by decide +kernel
theorem dX1_told_50 : decode cX1_told 50 = .ok (.ireturn, 1) := by decide +kernel
theorem dX1_told_51 : decode cX1_told 51 = .ok (.aload_n 0, 1) := by decide +kernel
theorem dX1_told_52 : decode cX1_told 52 = .ok (.getfield 46, 3) := by decide +kernel
theorem dX1_told_55 : decode cX1_told 55 = .ok (.ireturn, 1) := by decide +kernel
theorem dX1_told_56 : decode cX1_told 56 = .ok (.aload_n 0, 1) := by decide +kernel
theorem dX1_told_57 : decode cX1_told 57 = .ok (.invokevirtual 124, 3) := by decide +kernel
theorem dX1_told_60 : decode cX1_told 60 = .ok (.ireturn, 1) := by decide +kernel
theorem dX1_told_61 : decode cX1_told 61 = .ok (.iconst (-1), 1) := by decide +kernel
theorem dX1_told_62 : decode cX1_told 62 = .ok (.ireturn, 1) := by decide +kernel
theorem dX1_clear_0 : decode cX1_clear 0 = .ok (.aload_n 0, 1) := by decide +kernel
theorem dX1_clear_1 : decode cX1_clear 1 = .ok (.getfield 40, 3) := by decide +kernel
theorem dX1_clear_4 : decode cX1_clear 4 = .ok (.istore_n 1, 1) := by decide +kernel
theorem dX1_clear_5 : decode cX1_clear 5 = .ok (.aload_n 0, 1) := by decide +kernel
theorem dX1_clear_6 : decode cX1_clear 6 = .ok (.invokevirtual 128, 3) := by decide +kernel
theorem dX1_clear_9 : decode cX1_clear 9 = .ok (.aload_n 0, 1) := by decide +kernel
theorem dX1_clear_10 : decode cX1_clear 10 = .ok (.invokevirtual 131, 3) := by decide +kernel
theorem dX1_clear_13 : decode cX1_clear 13 = .ok (.aload_n 0, 1) := by decide +kernel
theorem dX1_clear_14 : decode cX1_clear 14 = .ok (.iconst 0, 1) := by decide +kernel
theorem dX1_clear_15 : decode cX1_clear 15 = .ok (.putfield 33, 3) := by decide +kernel
theorem dX1_clear_18 : decode cX1_clear 18 = .ok (.aload_n 0, 1) := by decide +kernel
theorem dX1_clear_19 : decode cX1_clear 19 = .ok (.iconst 0, 1) := by decide +kernel
theorem dX1_clear_20 : decode cX1_clear 20 = .ok (.putfield 37, 3) := by decide +kernel
theorem dX1_clear_23 : decode cX1_clear 23 = .ok (.aload_n 0, 1) := by decide +kernel
theorem dX1_clear_24 : decode cX1_clear 24 = .ok (.iconst 0, 1) := by decide +kernel
theorem dX1_clear_25 : decode cX1_clear 25 = .ok (.putfield 40, 3) := by decide +kernel
theorem dX1_clear_28 : decode cX1_clear 28 = .ok (.aload_n 0, 1) := by decide +kernel
theorem dX1_clear_29 : decode cX1_clear 29 = .ok (.iconst 0, 1) := by decide +kernel
theorem dX1_clear_30 : decode cX1_clear 30 = .ok (.putfield 46, 3) := by decide +kernel
theorem dX1_clear_33 : decode cX1_clear 33 = .ok (.aload_n 0, 1) := by decide +kernel
theorem dX1_clear_34 : decode cX1_clear 34 = .ok (.invokevirtual 107, 3) := by decide +kernel
theorem dX1_clear_37 : decode cX1_clear 37 = .ok (.iload_n 1, 1) := by decide +kernel
theorem dX1_clear_38 : decode cX1_clear 38 = .ok (.ireturn, 1) := by decide +kernel
theorem dX1_isBasin_0 : decode cX1_isBasin 0 = .ok (.iload_n 0, 1) := by decide +kernel
theorem dX1_isBasin_1 : decode cX1_isBasin 1 = .ok (.ifCond .lt 13, 3) := by decide +kernel
theorem dX1_isBasin_4 : decode cX1_isBasin 4 = .ok (.iload_n 0, 1) := by decide +kernel
theorem dX1_isBasin_5 : decode cX1_isBasin 5 = .ok (.bipush 10, 2) := by decide +kernel
theorem dX1_isBasin_7 : decode cX1_isBasin 7 = .ok (.if_icmp .ge 7, 3) := by decide +kernel
theorem dX1_isBasin_10 : decode cX1_isBasin 10 = .ok (.iconst 1, 1) := by decide +kernel
theorem dX1_isBasin_11 : decode cX1_isBasin 11 = .ok (.goto 4, 3) := by decide +kernel
theorem dX1_isBasin_14 : decode cX1_isBasin 14 = .ok (.iconst 0, 1) := by decide +kernel
theorem dX1_isBasin_15 : decode cX1_isBasin 15 = .ok (.ireturn, 1) := by decide +kernel
theorem dX1_isGauge_0 : decode cX1_isGauge 0 = .ok (.iload_n 0, 1) := by decide +kernel
theorem dX1_isGauge_1 : decode cX1_isGauge 1 = .ok (.ifCond .lt 12, 3) := by decide +kernel
theorem dX1_isGauge_4 : decode cX1_isGauge 4 = .ok (.iload_n 0, 1) := by decide +kernel
theorem dX1_isGauge_5 : decode cX1_isGauge 5 = .ok (.iconst 3, 1) := by decide +kernel
theorem dX1_isGauge_6 : decode cX1_isGauge 6 = .ok (.if_icmp .ge 7, 3) := by decide +kernel
theorem dX1_isGauge_9 : decode cX1_isGauge 9 = .ok (.iconst 1, 1) := by decide +kernel
theorem dX1_isGauge_10 : decode cX1_isGauge 10 = .ok (.goto 4, 3) := by decide +kernel
theorem dX1_isGauge_13 : decode cX1_isGauge 13 = .ok (.iconst 0, 1) := by decide +kernel
theorem dX1_isGauge_14 : decode cX1_isGauge 14 = .ok (.ireturn, 1) := by decide +kernel
theorem dX1_isSlot_0 : decode cX1_isSlot 0 = .ok (.iload_n 0, 1) := by decide +kernel
theorem dX1_isSlot_1 : decode cX1_isSlot 1 = .ok (.ifCond .lt 13, 3) := by decide +kernel
theorem dX1_isSlot_4 : decode cX1_isSlot 4 = .ok (.iload_n 0, 1) := by decide +kernel
theorem dX1_isSlot_5 : decode cX1_isSlot 5 = .ok (.bipush 20, 2) := by decide +kernel
theorem dX1_isSlot_7 : decode cX1_isSlot 7 = .ok (.if_icmp .ge 7, 3) := by decide +kernel
theorem dX1_isSlot_10 : decode cX1_isSlot 10 = .ok (.iconst 1, 1) := by decide +kernel
theorem dX1_isSlot_11 : decode cX1_isSlot 11 = .ok (.goto 4, 3) := by decide +kernel
theorem dX1_isSlot_14 : decode cX1_isSlot 14 = .ok (.iconst 0, 1) := by decide +kernel
theorem dX1_isSlot_15 : decode cX1_isSlot 15 = .ok (.ireturn, 1) := by decide +kernel
theorem dX1_isLever_0 : decode cX1_isLever 0 = .ok (.iload_n 0, 1) := by decide +kernel
theorem dX1_isLever_1 : decode cX1_isLever 1 = .ok (.ifCond .lt 12, 3) := by decide +kernel
theorem dX1_isLever_4 : decode cX1_isLever 4 = .ok (.iload_n 0, 1) := by decide +kernel
theorem dX1_isLever_5 : decode cX1_isLever 5 = .ok (.iconst 5, 1) := by decide +kernel
theorem dX1_isLever_6 : decode cX1_isLever 6 = .ok (.if_icmp .ge 7, 3) := by decide +kernel
theorem dX1_isLever_9 : decode cX1_isLever 9 = .ok (.iconst 1, 1) := by decide +kernel
theorem dX1_isLever_10 : decode cX1_isLever 10 = .ok (.goto 4, 3) := by decide +kernel
theorem dX1_isLever_13 : decode cX1_isLever 13 = .ok (.iconst 0, 1) := by decide +kernel
theorem dX1_isLever_14 : decode cX1_isLever 14 = .ok (.ireturn, 1) := by decide +kernel
theorem dX1_hasMark_0 : decode cX1_hasMark 0 = .ok (.aload_n 0, 1) := by decide +kernel
theorem dX1_hasMark_1 : decode cX1_hasMark 1 = .ok (.ifnull 17, 3) := by decide +kernel
theorem dX1_hasMark_4 : decode cX1_hasMark 4 = .ok (.iload_n 1, 1) := by decide +kernel
theorem dX1_hasMark_5 : decode cX1_hasMark 5 = .ok (.ifCond .lt 13, 3) := by decide +kernel
theorem dX1_hasMark_8 : decode cX1_hasMark 8 = .ok (.iload_n 1, 1) := by decide +kernel
theorem dX1_hasMark_9 : decode cX1_hasMark 9 = .ok (.aload_n 0, 1) := by decide +kernel
theorem dX1_hasMark_10 : decode cX1_hasMark 10 = .ok (.arraylength, 1) := by decide +kernel
theorem dX1_hasMark_11 : decode cX1_hasMark 11 = .ok (.if_icmp .ge 7, 3) := by decide +kernel
theorem dX1_hasMark_14 : decode cX1_hasMark 14 = .ok (.iconst 1, 1) := by decide +kernel
theorem dX1_hasMark_15 : decode cX1_hasMark 15 = .ok (.goto 4, 3) := by decide +kernel
theorem dX1_hasMark_18 : decode cX1_hasMark 18 = .ok (.iconst 0, 1) := by decide +kernel
theorem dX1_hasMark_19 : decode cX1_hasMark 19 = .ok (.ireturn, 1) := by decide +kernel
theorem dX1_heldBy_0 : decode cX1_heldBy 0 = .ok (.iload_n 1, 1) := by decide +kernel
theorem dX1_heldBy_1 : decode cX1_heldBy 1 = .ok (.invokestatic 134, 3) := by decide +kernel
theorem dX1_heldBy_4 : decode cX1_heldBy 4 = .ok (.ifCond .eq 12, 3) := by decide +kernel
theorem dX1_heldBy_7 : decode cX1_heldBy 7 = .ok (.aload_n 0, 1) := by decide +kernel
theorem dX1_heldBy_8 : decode cX1_heldBy 8 = .ok (.getfield 9, 3) := by decide +kernel
theorem dX1_heldBy_11 : decode cX1_heldBy 11 = .ok (.iload_n 1, 1) := by decide +kernel
theorem dX1_heldBy_12 : decode cX1_heldBy 12 = .ok (.iaload, 1) := by decide +kernel
theorem dX1_heldBy_13 : decode cX1_heldBy 13 = .ok (.goto 4, 3) := by decide +kernel
theorem dX1_heldBy_16 : decode cX1_heldBy 16 = .ok (.iconst 0, 1) := by decide +kernel
theorem dX1_heldBy_17 : decode cX1_heldBy 17 = .ok (.ireturn, 1) := by decide +kernel
theorem dX1_pour_0 : decode cX1_pour 0 = .ok (.iload_n 1, 1) := by decide +kernel
theorem dX1_pour_1 : decode cX1_pour 1 = .ok (.invokestatic 134, 3) := by decide +kernel
theorem dX1_pour_4 : decode cX1_pour 4 = .ok (.ifCond .eq 10, 3) := by decide +kernel
theorem dX1_pour_7 : decode cX1_pour 7 = .ok (.aload_n 0, 1) := by decide +kernel
theorem dX1_pour_8 : decode cX1_pour 8 = .ok (.getfield 9, 3) := by decide +kernel
theorem dX1_pour_11 : decode cX1_pour 11 = .ok (.iload_n 1, 1) := by decide +kernel
theorem dX1_pour_12 : decode cX1_pour 12 = .ok (.iload_n 2, 1) := by decide +kernel
theorem dX1_pour_13 : decode cX1_pour 13 = .ok (.iastore, 1) := by decide +kernel
theorem dX1_pour_14 : decode cX1_pour 14 = .ok (.return_, 1) := by decide +kernel
theorem dX1_gaugeNow_0 : decode cX1_gaugeNow 0 = .ok (.iload_n 1, 1) := by decide +kernel
theorem dX1_gaugeNow_1 : decode cX1_gaugeNow 1 = .ok (.invokestatic 63, 3) := by decide +kernel
theorem dX1_gaugeNow_4 : decode cX1_gaugeNow 4 = .ok (.ifCond .eq 12, 3) := by decide +kernel
theorem dX1_gaugeNow_7 : decode cX1_gaugeNow 7 = .ok (.aload_n 0, 1) := by decide +kernel
theorem dX1_gaugeNow_8 : decode cX1_gaugeNow 8 = .ok (.getfield 14, 3) := by decide +kernel
theorem dX1_gaugeNow_11 : decode cX1_gaugeNow 11 = .ok (.iload_n 1, 1) := by decide +kernel
theorem dX1_gaugeNow_12 : decode cX1_gaugeNow 12 = .ok (.aaload, 1) := by decide +kernel
theorem dX1_gaugeNow_13 : decode cX1_gaugeNow 13 = .ok (.goto 4, 3) := by decide +kernel
theorem dX1_gaugeNow_16 : decode cX1_gaugeNow 16 = .ok (.aconst_null, 1) := by decide +kernel
theorem dX1_gaugeNow_17 : decode cX1_gaugeNow 17 = .ok (.areturn, 1) := by decide +kernel
theorem dX1_inSlot_0 : decode cX1_inSlot 0 = .ok (.iload_n 1, 1) := by decide +kernel
theorem dX1_inSlot_1 : decode cX1_inSlot 1 = .ok (.invokestatic 75, 3) := by decide +kernel
theorem dX1_inSlot_4 : decode cX1_inSlot 4 = .ok (.ifCond .eq 12, 3) := by decide +kernel
theorem dX1_inSlot_7 : decode cX1_inSlot 7 = .ok (.aload_n 0, 1) := by decide +kernel
theorem dX1_inSlot_8 : decode cX1_inSlot 8 = .ok (.getfield 20, 3) := by decide +kernel
theorem dX1_inSlot_11 : decode cX1_inSlot 11 = .ok (.iload_n 1, 1) := by decide +kernel
theorem dX1_inSlot_12 : decode cX1_inSlot 12 = .ok (.aaload, 1) := by decide +kernel
theorem dX1_inSlot_13 : decode cX1_inSlot 13 = .ok (.goto 4, 3) := by decide +kernel
theorem dX1_inSlot_16 : decode cX1_inSlot 16 = .ok (.aconst_null, 1) := by decide +kernel
theorem dX1_inSlot_17 : decode cX1_inSlot 17 = .ok (.areturn, 1) := by decide +kernel
theorem dX1_atPlace_0 : decode cX1_atPlace 0 = .ok (.iload_n 1, 1) := by decide +kernel
theorem dX1_atPlace_1 : decode cX1_atPlace 1 = .ok (.invokestatic 95, 3) := by decide +kernel
theorem dX1_atPlace_4 : decode cX1_atPlace 4 = .ok (.ifCond .eq 25, 3) := by decide +kernel
theorem dX1_atPlace_7 : decode cX1_atPlace 7 = .ok (.iload_n 2, 1) := by decide +kernel
theorem dX1_atPlace_8 : decode cX1_atPlace 8 = .ok (.ifCond .lt 21, 3) := by decide +kernel
theorem dX1_atPlace_11 : decode cX1_atPlace 11 = .ok (.iload_n 2, 1) := by decide +kernel
theorem dX1_atPlace_12 : decode cX1_atPlace 12 = .ok (.iconst 4, 1) := by decide +kernel
theorem dX1_atPlace_13 : decode cX1_atPlace 13 = .ok (.if_icmp .ge 16, 3) := by decide +kernel
theorem dX1_atPlace_16 : decode cX1_atPlace 16 = .ok (.aload_n 0, 1) := by decide +kernel
theorem dX1_atPlace_17 : decode cX1_atPlace 17 = .ok (.getfield 24, 3) := by decide +kernel
theorem dX1_atPlace_20 : decode cX1_atPlace 20 = .ok (.iload_n 1, 1) := by decide +kernel
theorem dX1_atPlace_21 : decode cX1_atPlace 21 = .ok (.iconst 4, 1) := by decide +kernel
theorem dX1_atPlace_22 : decode cX1_atPlace 22 = .ok (.imul, 1) := by decide +kernel
theorem dX1_atPlace_23 : decode cX1_atPlace 23 = .ok (.iload_n 2, 1) := by decide +kernel
theorem dX1_atPlace_24 : decode cX1_atPlace 24 = .ok (.iadd, 1) := by decide +kernel
theorem dX1_atPlace_25 : decode cX1_atPlace 25 = .ok (.aaload, 1) := by decide +kernel
theorem dX1_atPlace_26 : decode cX1_atPlace 26 = .ok (.goto 4, 3) := by decide +kernel
theorem dX1_atPlace_29 : decode cX1_atPlace 29 = .ok (.aconst_null, 1) := by decide +kernel
theorem dX1_atPlace_30 : decode cX1_atPlace 30 = .ok (.areturn, 1) := by decide +kernel
theorem dX1_slotsInUse_0 : decode cX1_slotsInUse 0 = .ok (.iconst 0, 1) := by decide +kernel
theorem dX1_slotsInUse_1 : decode cX1_slotsInUse 1 = .ok (.istore_n 1, 1) := by decide +kernel
theorem dX1_slotsInUse_2 : decode cX1_slotsInUse 2 = .ok (.iconst 0, 1) := by decide +kernel
theorem dX1_slotsInUse_3 : decode cX1_slotsInUse 3 = .ok (.istore_n 2, 1) := by decide +kernel
theorem dX1_slotsInUse_4 : decode cX1_slotsInUse 4 = .ok (.iload_n 2, 1) := by decide +kernel
theorem dX1_slotsInUse_5 : decode cX1_slotsInUse 5 = .ok (.bipush 20, 2) := by decide +kernel
theorem dX1_slotsInUse_7 : decode cX1_slotsInUse 7 = .ok (.if_icmp .ge 21, 3) := by decide +kernel
theorem dX1_slotsInUse_10 : decode cX1_slotsInUse 10 = .ok (.aload_n 0, 1) := by decide +kernel
theorem dX1_slotsInUse_11 : decode cX1_slotsInUse 11 = .ok (.getfield 20, 3) := by decide +kernel
theorem dX1_slotsInUse_14 : decode cX1_slotsInUse 14 = .ok (.iload_n 2, 1) := by decide +kernel
theorem dX1_slotsInUse_15 : decode cX1_slotsInUse 15 = .ok (.aaload, 1) := by decide +kernel
theorem dX1_slotsInUse_16 : decode cX1_slotsInUse 16 = .ok (.ifnull 6, 3) := by decide +kernel
theorem dX1_slotsInUse_19 : decode cX1_slotsInUse 19 = .ok (.iinc 1 1, 3) := by decide +kernel
theorem dX1_slotsInUse_22 : decode cX1_slotsInUse 22 = .ok (.iinc 2 1, 3) := by decide +kernel
theorem dX1_slotsInUse_25 : decode cX1_slotsInUse 25 = .ok (.goto (-21), 3) := by decide +kernel
theorem dX1_slotsInUse_28 : decode cX1_slotsInUse 28 = .ok (.iload_n 1, 1) := by decide +kernel
theorem dX1_slotsInUse_29 : decode cX1_slotsInUse 29 = .ok (.ireturn, 1) := by decide +kernel
theorem dX1_emptyHall_0 : decode cX1_emptyHall 0 = .ok (.iconst 0, 1) := by decide +kernel
theorem dX1_emptyHall_1 : decode cX1_emptyHall 1 = .ok (.istore_n 1, 1) := by decide +kernel
theorem dX1_emptyHall_2 : decode cX1_emptyHall 2 = .ok (.iload_n 1, 1) := by decide +kernel
theorem dX1_emptyHall_3 : decode cX1_emptyHall 3 = .ok (.bipush 10, 2) := by decide +kernel
theorem dX1_emptyHall_5 : decode cX1_emptyHall 5 = .ok (.if_icmp .ge 16, 3) := by decide +kernel
theorem dX1_emptyHall_8 : decode cX1_emptyHall 8 = .ok (.aload_n 0, 1) := by decide +kernel
theorem dX1_emptyHall_9 : decode cX1_emptyHall 9 = .ok (.getfield 9, 3) := by decide +kernel
theorem dX1_emptyHall_12 : decode cX1_emptyHall 12 = .ok (.iload_n 1, 1) := by decide +kernel
theorem dX1_emptyHall_13 : decode cX1_emptyHall 13 = .ok (.iconst 0, 1) := by decide +kernel
theorem dX1_emptyHall_14 : decode cX1_emptyHall 14 = .ok (.iastore, 1) := by decide +kernel
theorem dX1_emptyHall_15 : decode cX1_emptyHall 15 = .ok (.iinc 1 1, 3) := by decide +kernel
theorem dX1_emptyHall_18 : decode cX1_emptyHall 18 = .ok (.goto (-16), 3) := by decide +kernel
theorem dX1_emptyHall_21 : decode cX1_emptyHall 21 = .ok (.iconst 0, 1) := by decide +kernel
theorem dX1_emptyHall_22 : decode cX1_emptyHall 22 = .ok (.istore_n 1, 1) := by decide +kernel
theorem dX1_emptyHall_23 : decode cX1_emptyHall 23 = .ok (.iload_n 1, 1) := by decide +kernel
theorem dX1_emptyHall_24 : decode cX1_emptyHall 24 = .ok (.iconst 3, 1) := by decide +kernel
theorem dX1_emptyHall_25 : decode cX1_emptyHall 25 = .ok (.if_icmp .ge 16, 3) := by decide +kernel
theorem dX1_emptyHall_28 : decode cX1_emptyHall 28 = .ok (.aload_n 0, 1) := by decide +kernel
theorem dX1_emptyHall_29 : decode cX1_emptyHall 29 = .ok (.getfield 14, 3) := by decide +kernel
theorem dX1_emptyHall_32 : decode cX1_emptyHall 32 = .ok (.iload_n 1, 1) := by decide +kernel
theorem dX1_emptyHall_33 : decode cX1_emptyHall 33 = .ok (.aconst_null, 1) := by decide +kernel
theorem dX1_emptyHall_34 : decode cX1_emptyHall 34 = .ok (.aastore, 1) := by decide +kernel
theorem dX1_emptyHall_35 : decode cX1_emptyHall 35 = .ok (.iinc 1 1, 3) := by decide +kernel
theorem dX1_emptyHall_38 : decode cX1_emptyHall 38 = .ok (.goto (-15), 3) := by decide +kernel
theorem dX1_emptyHall_41 : decode cX1_emptyHall 41 = .ok (.return_, 1) := by decide +kernel
theorem dX1_emptyDeeds_0 : decode cX1_emptyDeeds 0 = .ok (.iconst 0, 1) := by decide +kernel
theorem dX1_emptyDeeds_1 : decode cX1_emptyDeeds 1 = .ok (.istore_n 1, 1) := by decide +kernel
theorem dX1_emptyDeeds_2 : decode cX1_emptyDeeds 2 = .ok (.iload_n 1, 1) := by decide +kernel
theorem dX1_emptyDeeds_3 : decode cX1_emptyDeeds 3 = .ok (.bipush 20, 2) := by decide +kernel
theorem dX1_emptyDeeds_5 : decode cX1_emptyDeeds 5 = .ok (.if_icmp .ge 16, 3) := by decide +kernel
theorem dX1_emptyDeeds_8 : decode cX1_emptyDeeds 8 = .ok (.aload_n 0, 1) := by decide +kernel
theorem dX1_emptyDeeds_9 : decode cX1_emptyDeeds 9 = .ok (.getfield 20, 3) := by decide +kernel
theorem dX1_emptyDeeds_12 : decode cX1_emptyDeeds 12 = .ok (.iload_n 1, 1) := by decide +kernel
theorem dX1_emptyDeeds_13 : decode cX1_emptyDeeds 13 = .ok (.aconst_null, 1) := by decide +kernel
theorem dX1_emptyDeeds_14 : decode cX1_emptyDeeds 14 = .ok (.aastore, 1) := by decide +kernel
theorem dX1_emptyDeeds_15 : decode cX1_emptyDeeds 15 = .ok (.iinc 1 1, 3) := by decide +kernel
theorem dX1_emptyDeeds_18 : decode cX1_emptyDeeds 18 = .ok (.goto (-16), 3) := by decide +kernel
theorem dX1_emptyDeeds_21 : decode cX1_emptyDeeds 21 = .ok (.iconst 0, 1) := by decide +kernel
theorem dX1_emptyDeeds_22 : decode cX1_emptyDeeds 22 = .ok (.istore_n 1, 1) := by decide +kernel
theorem dX1_emptyDeeds_23 : decode cX1_emptyDeeds 23 = .ok (.iload_n 1, 1) := by decide +kernel
theorem dX1_emptyDeeds_24 : decode cX1_emptyDeeds 24 = .ok (.bipush 20, 2) := by decide +kernel
theorem dX1_emptyDeeds_26 : decode cX1_emptyDeeds 26 = .ok (.if_icmp .ge 16, 3) := by decide +kernel
theorem dX1_emptyDeeds_29 : decode cX1_emptyDeeds 29 = .ok (.aload_n 0, 1) := by decide +kernel
theorem dX1_emptyDeeds_30 : decode cX1_emptyDeeds 30 = .ok (.getfield 24, 3) := by decide +kernel
theorem dX1_emptyDeeds_33 : decode cX1_emptyDeeds 33 = .ok (.iload_n 1, 1) := by decide +kernel
theorem dX1_emptyDeeds_34 : decode cX1_emptyDeeds 34 = .ok (.aconst_null, 1) := by decide +kernel
theorem dX1_emptyDeeds_35 : decode cX1_emptyDeeds 35 = .ok (.aastore, 1) := by decide +kernel
theorem dX1_emptyDeeds_36 : decode cX1_emptyDeeds 36 = .ok (.iinc 1 1, 3) := by decide +kernel
theorem dX1_emptyDeeds_39 : decode cX1_emptyDeeds 39 = .ok (.goto (-16), 3) := by decide +kernel
theorem dX1_emptyDeeds_42 : decode cX1_emptyDeeds 42 = .ok (.iconst 0, 1) := by decide +kernel
theorem dX1_emptyDeeds_43 : decode cX1_emptyDeeds 43 = .ok (.istore_n 1, 1) := by decide +kernel
theorem dX1_emptyDeeds_44 : decode cX1_emptyDeeds 44 = .ok (.iload_n 1, 1) := by decide +kernel
theorem dX1_emptyDeeds_45 : decode cX1_emptyDeeds 45 = .ok (.bipush 12, 2) := by decide +kernel
theorem dX1_emptyDeeds_47 : decode cX1_emptyDeeds 47 = .ok (.if_icmp .ge 16, 3) := by decide +kernel
theorem dX1_emptyDeeds_50 : decode cX1_emptyDeeds 50 = .ok (.aload_n 0, 1) := by decide +kernel
theorem dX1_emptyDeeds_51 : decode cX1_emptyDeeds 51 = .ok (.getfield 27, 3) := by decide +kernel
theorem dX1_emptyDeeds_54 : decode cX1_emptyDeeds 54 = .ok (.iload_n 1, 1) := by decide +kernel
theorem dX1_emptyDeeds_55 : decode cX1_emptyDeeds 55 = .ok (.aconst_null, 1) := by decide +kernel
theorem dX1_emptyDeeds_56 : decode cX1_emptyDeeds 56 = .ok (.aastore, 1) := by decide +kernel
theorem dX1_emptyDeeds_57 : decode cX1_emptyDeeds 57 = .ok (.iinc 1 1, 3) := by decide +kernel
theorem dX1_emptyDeeds_60 : decode cX1_emptyDeeds 60 = .ok (.goto (-16), 3) := by decide +kernel
theorem dX1_emptyDeeds_63 : decode cX1_emptyDeeds 63 = .ok (.return_, 1) := by decide +kernel
theorem dX1_namesWhatThereIs_0 : decode cX1_namesWhatThereIs 0 = .ok (.iload_n 0, 1) := by decide +kernel
theorem dX1_namesWhatThereIs_1 : decode cX1_namesWhatThereIs 1 = .ok (.tableswitch 186 0 14 #[75, 77, 77, 82, 102, 75, 77, 107, 127, 154, 107, 176, 176, 181, 176], 75) := by decide +kernel
theorem dX1_namesWhatThereIs_76 : decode cX1_namesWhatThereIs 76 = .ok (.iconst 1, 1) := by decide +kernel
theorem dX1_namesWhatThereIs_77 : decode cX1_namesWhatThereIs 77 = .ok (.ireturn, 1) := by decide +kernel
theorem dX1_namesWhatThereIs_78 : decode cX1_namesWhatThereIs 78 = .ok (.iload_n 1, 1) := by decide +kernel
theorem dX1_namesWhatThereIs_79 : decode cX1_namesWhatThereIs 79 = .ok (.invokestatic 134, 3) := by decide +kernel
theorem dX1_namesWhatThereIs_82 : decode cX1_namesWhatThereIs 82 = .ok (.ireturn, 1) := by decide +kernel
theorem dX1_namesWhatThereIs_83 : decode cX1_namesWhatThereIs 83 = .ok (.iload_n 1, 1) := by decide +kernel
theorem dX1_namesWhatThereIs_84 : decode cX1_namesWhatThereIs 84 = .ok (.invokestatic 134, 3) := by decide +kernel
theorem dX1_namesWhatThereIs_87 : decode cX1_namesWhatThereIs 87 = .ok (.ifCond .eq 14, 3) := by decide +kernel
theorem dX1_namesWhatThereIs_90 : decode cX1_namesWhatThereIs 90 = .ok (.iload_n 2, 1) := by decide +kernel
theorem dX1_namesWhatThereIs_91 : decode cX1_namesWhatThereIs 91 = .ok (.invokestatic 134, 3) := by decide +kernel
theorem dX1_namesWhatThereIs_94 : decode cX1_namesWhatThereIs 94 = .ok (.ifCond .eq 7, 3) := by decide +kernel
theorem dX1_namesWhatThereIs_97 : decode cX1_namesWhatThereIs 97 = .ok (.iconst 1, 1) := by decide +kernel
theorem dX1_namesWhatThereIs_98 : decode cX1_namesWhatThereIs 98 = .ok (.goto 4, 3) := by decide +kernel
theorem dX1_namesWhatThereIs_101 : decode cX1_namesWhatThereIs 101 = .ok (.iconst 0, 1) := by decide +kernel
theorem dX1_namesWhatThereIs_102 : decode cX1_namesWhatThereIs 102 = .ok (.ireturn, 1) := by decide +kernel
theorem dX1_namesWhatThereIs_103 : decode cX1_namesWhatThereIs 103 = .ok (.iload_n 1, 1) := by decide +kernel
theorem dX1_namesWhatThereIs_104 : decode cX1_namesWhatThereIs 104 = .ok (.invokestatic 63, 3) := by decide +kernel
theorem dX1_namesWhatThereIs_107 : decode cX1_namesWhatThereIs 107 = .ok (.ireturn, 1) := by decide +kernel
theorem dX1_namesWhatThereIs_108 : decode cX1_namesWhatThereIs 108 = .ok (.iload_n 1, 1) := by decide +kernel
theorem dX1_namesWhatThereIs_109 : decode cX1_namesWhatThereIs 109 = .ok (.invokestatic 75, 3) := by decide +kernel
theorem dX1_namesWhatThereIs_112 : decode cX1_namesWhatThereIs 112 = .ok (.ifCond .eq 14, 3) := by decide +kernel
theorem dX1_namesWhatThereIs_115 : decode cX1_namesWhatThereIs 115 = .ok (.iload_n 2, 1) := by decide +kernel
theorem dX1_namesWhatThereIs_116 : decode cX1_namesWhatThereIs 116 = .ok (.invokestatic 75, 3) := by decide +kernel
theorem dX1_namesWhatThereIs_119 : decode cX1_namesWhatThereIs 119 = .ok (.ifCond .eq 7, 3) := by decide +kernel
theorem dX1_namesWhatThereIs_122 : decode cX1_namesWhatThereIs 122 = .ok (.iconst 1, 1) := by decide +kernel
theorem dX1_namesWhatThereIs_123 : decode cX1_namesWhatThereIs 123 = .ok (.goto 4, 3) := by decide +kernel
theorem dX1_namesWhatThereIs_126 : decode cX1_namesWhatThereIs 126 = .ok (.iconst 0, 1) := by decide +kernel
theorem dX1_namesWhatThereIs_127 : decode cX1_namesWhatThereIs 127 = .ok (.ireturn, 1) := by decide +kernel
theorem dX1_namesWhatThereIs_128 : decode cX1_namesWhatThereIs 128 = .ok (.iload_n 1, 1) := by decide +kernel
theorem dX1_namesWhatThereIs_129 : decode cX1_namesWhatThereIs 129 = .ok (.invokestatic 75, 3) := by decide +kernel
theorem dX1_namesWhatThereIs_132 : decode cX1_namesWhatThereIs 132 = .ok (.ifCond .eq 21, 3) := by decide +kernel
theorem dX1_namesWhatThereIs_135 : decode cX1_namesWhatThereIs 135 = .ok (.iload_n 2, 1) := by decide +kernel
theorem dX1_namesWhatThereIs_136 : decode cX1_namesWhatThereIs 136 = .ok (.invokestatic 75, 3) := by decide +kernel
theorem dX1_namesWhatThereIs_139 : decode cX1_namesWhatThereIs 139 = .ok (.ifCond .eq 14, 3) := by decide +kernel
theorem dX1_namesWhatThereIs_142 : decode cX1_namesWhatThereIs 142 = .ok (.iload_n 3, 1) := by decide +kernel
theorem dX1_namesWhatThereIs_143 : decode cX1_namesWhatThereIs 143 = .ok (.invokestatic 134, 3) := by decide +kernel
theorem dX1_namesWhatThereIs_146 : decode cX1_namesWhatThereIs 146 = .ok (.ifCond .eq 7, 3) := by decide +kernel
theorem dX1_namesWhatThereIs_149 : decode cX1_namesWhatThereIs 149 = .ok (.iconst 1, 1) := by decide +kernel
theorem dX1_namesWhatThereIs_150 : decode cX1_namesWhatThereIs 150 = .ok (.goto 4, 3) := by decide +kernel
theorem dX1_namesWhatThereIs_153 : decode cX1_namesWhatThereIs 153 = .ok (.iconst 0, 1) := by decide +kernel
theorem dX1_namesWhatThereIs_154 : decode cX1_namesWhatThereIs 154 = .ok (.ireturn, 1) := by decide +kernel
theorem dX1_namesWhatThereIs_155 : decode cX1_namesWhatThereIs 155 = .ok (.iload_n 1, 1) := by decide +kernel
theorem dX1_namesWhatThereIs_156 : decode cX1_namesWhatThereIs 156 = .ok (.invokestatic 75, 3) := by decide +kernel
theorem dX1_namesWhatThereIs_159 : decode cX1_namesWhatThereIs 159 = .ok (.ifCond .eq 16, 3) := by decide +kernel
theorem dX1_namesWhatThereIs_162 : decode cX1_namesWhatThereIs 162 = .ok (.iload_n 2, 1) := by decide +kernel
theorem dX1_namesWhatThereIs_163 : decode cX1_namesWhatThereIs 163 = .ok (.ifCond .lt 12, 3) := by decide +kernel
theorem dX1_namesWhatThereIs_166 : decode cX1_namesWhatThereIs 166 = .ok (.iload_n 2, 1) := by decide +kernel
theorem dX1_namesWhatThereIs_167 : decode cX1_namesWhatThereIs 167 = .ok (.iconst 5, 1) := by decide +kernel
theorem dX1_namesWhatThereIs_168 : decode cX1_namesWhatThereIs 168 = .ok (.if_icmp .gt 7, 3) := by decide +kernel
theorem dX1_namesWhatThereIs_171 : decode cX1_namesWhatThereIs 171 = .ok (.iconst 1, 1) := by decide +kernel
theorem dX1_namesWhatThereIs_172 : decode cX1_namesWhatThereIs 172 = .ok (.goto 4, 3) := by decide +kernel
theorem dX1_namesWhatThereIs_175 : decode cX1_namesWhatThereIs 175 = .ok (.iconst 0, 1) := by decide +kernel
theorem dX1_namesWhatThereIs_176 : decode cX1_namesWhatThereIs 176 = .ok (.ireturn, 1) := by decide +kernel
theorem dX1_namesWhatThereIs_177 : decode cX1_namesWhatThereIs 177 = .ok (.iload_n 1, 1) := by decide +kernel
theorem dX1_namesWhatThereIs_178 : decode cX1_namesWhatThereIs 178 = .ok (.invokestatic 75, 3) := by decide +kernel
theorem dX1_namesWhatThereIs_181 : decode cX1_namesWhatThereIs 181 = .ok (.ireturn, 1) := by decide +kernel
theorem dX1_namesWhatThereIs_182 : decode cX1_namesWhatThereIs 182 = .ok (.iload_n 1, 1) := by decide +kernel
theorem dX1_namesWhatThereIs_183 : decode cX1_namesWhatThereIs 183 = .ok (.invokestatic 95, 3) := by decide +kernel
theorem dX1_namesWhatThereIs_186 : decode cX1_namesWhatThereIs 186 = .ok (.ireturn, 1) := by decide +kernel
theorem dX1_namesWhatThereIs_187 : decode cX1_namesWhatThereIs 187 = .ok (.iconst 0, 1) := by decide +kernel
theorem dX1_namesWhatThereIs_188 : decode cX1_namesWhatThereIs 188 = .ok (.ireturn, 1) := by decide +kernel
theorem dX1_holdsFirst_0 : decode cX1_holdsFirst 0 = .ok (.iload_n 0, 1) := by decide +kernel
theorem dX1_holdsFirst_1 : decode cX1_holdsFirst 1 = .ok (.bipush 7, 2) := by decide +kernel
theorem dX1_holdsFirst_3 : decode cX1_holdsFirst 3 = .ok (.if_icmp .lt 13, 3) := by decide +kernel
theorem dX1_holdsFirst_6 : decode cX1_holdsFirst 6 = .ok (.iload_n 0, 1) := by decide +kernel
theorem dX1_holdsFirst_7 : decode cX1_holdsFirst 7 = .ok (.bipush 12, 2) := by decide +kernel
theorem dX1_holdsFirst_9 : decode cX1_holdsFirst 9 = .ok (.if_icmp .gt 7, 3) := by decide +kernel
theorem dX1_holdsFirst_12 : decode cX1_holdsFirst 12 = .ok (.iconst 1, 1) := by decide +kernel
theorem dX1_holdsFirst_13 : decode cX1_holdsFirst 13 = .ok (.goto 4, 3) := by decide +kernel
theorem dX1_holdsFirst_16 : decode cX1_holdsFirst 16 = .ok (.iconst 0, 1) := by decide +kernel
theorem dX1_holdsFirst_17 : decode cX1_holdsFirst 17 = .ok (.ireturn, 1) := by decide +kernel
theorem dX1_holdsSecond_0 : decode cX1_holdsSecond 0 = .ok (.iload_n 0, 1) := by decide +kernel
theorem dX1_holdsSecond_1 : decode cX1_holdsSecond 1 = .ok (.bipush 7, 2) := by decide +kernel
theorem dX1_holdsSecond_3 : decode cX1_holdsSecond 3 = .ok (.if_icmp .eq 15, 3) := by decide +kernel
theorem dX1_holdsSecond_6 : decode cX1_holdsSecond 6 = .ok (.iload_n 0, 1) := by decide +kernel
theorem dX1_holdsSecond_7 : decode cX1_holdsSecond 7 = .ok (.bipush 8, 2) := by decide +kernel
theorem dX1_holdsSecond_9 : decode cX1_holdsSecond 9 = .ok (.if_icmp .eq 9, 3) := by decide +kernel
theorem dX1_holdsSecond_12 : decode cX1_holdsSecond 12 = .ok (.iload_n 0, 1) := by decide +kernel
theorem dX1_holdsSecond_13 : decode cX1_holdsSecond 13 = .ok (.bipush 10, 2) := by decide +kernel
theorem dX1_holdsSecond_15 : decode cX1_holdsSecond 15 = .ok (.if_icmp .ne 7, 3) := by decide +kernel
theorem dX1_holdsSecond_18 : decode cX1_holdsSecond 18 = .ok (.iconst 1, 1) := by decide +kernel
theorem dX1_holdsSecond_19 : decode cX1_holdsSecond 19 = .ok (.goto 4, 3) := by decide +kernel
theorem dX1_holdsSecond_22 : decode cX1_holdsSecond 22 = .ok (.iconst 0, 1) := by decide +kernel
theorem dX1_holdsSecond_23 : decode cX1_holdsSecond 23 = .ok (.ireturn, 1) := by decide +kernel
theorem dX1_refuse_0 : decode cX1_refuse 0 = .ok (.aload_n 0, 1) := by decide +kernel
theorem dX1_refuse_1 : decode cX1_refuse 1 = .ok (.iconst 0, 1) := by decide +kernel
theorem dX1_refuse_2 : decode cX1_refuse 2 = .ok (.putfield 43, 3) := by decide +kernel
theorem dX1_refuse_5 : decode cX1_refuse 5 = .ok (.aload_n 0, 1) := by decide +kernel
theorem dX1_refuse_6 : decode cX1_refuse 6 = .ok (.iload_n 1, 1) := by decide +kernel
theorem dX1_refuse_7 : decode cX1_refuse 7 = .ok (.putfield 52, 3) := by decide +kernel
theorem dX1_refuse_10 : decode cX1_refuse 10 = .ok (.iconst 0, 1) := by decide +kernel
theorem dX1_refuse_11 : decode cX1_refuse 11 = .ok (.ireturn, 1) := by decide +kernel
theorem dX1_begin_0 : decode cX1_begin 0 = .ok (.aload_n 0, 1) := by decide +kernel
theorem dX1_begin_1 : decode cX1_begin 1 = .ok (.iconst 0, 1) := by decide +kernel
theorem dX1_begin_2 : decode cX1_begin 2 = .ok (.putfield 43, 3) := by decide +kernel
theorem dX1_begin_5 : decode cX1_begin 5 = .ok (.aload_n 0, 1) := by decide +kernel
theorem dX1_begin_6 : decode cX1_begin 6 = .ok (.iconst 0, 1) := by decide +kernel
theorem dX1_begin_7 : decode cX1_begin 7 = .ok (.putfield 49, 3) := by decide +kernel
theorem dX1_begin_10 : decode cX1_begin 10 = .ok (.aload_n 0, 1) := by decide +kernel
theorem dX1_begin_11 : decode cX1_begin 11 = .ok (.iconst 0, 1) := by decide +kernel
theorem dX1_begin_12 : decode cX1_begin 12 = .ok (.putfield 52, 3) := by decide +kernel
theorem dX1_begin_15 : decode cX1_begin 15 = .ok (.return_, 1) := by decide +kernel
theorem dX1_noteFailure_0 : decode cX1_noteFailure 0 = .ok (.aload_n 0, 1) := by decide +kernel
theorem dX1_noteFailure_1 : decode cX1_noteFailure 1 = .ok (.getfield 49, 3) := by decide +kernel
theorem dX1_noteFailure_4 : decode cX1_noteFailure 4 = .ok (.ifCond .eq 21, 3) := by decide +kernel
theorem dX1_noteFailure_7 : decode cX1_noteFailure 7 = .ok (.aload_n 0, 1) := by decide +kernel
theorem dX1_noteFailure_8 : decode cX1_noteFailure 8 = .ok (.dup, 1) := by decide +kernel
theorem dX1_noteFailure_9 : decode cX1_noteFailure 9 = .ok (.getfield 46, 3) := by decide +kernel
theorem dX1_noteFailure_12 : decode cX1_noteFailure 12 = .ok (.iconst 1, 1) := by decide +kernel
theorem dX1_noteFailure_13 : decode cX1_noteFailure 13 = .ok (.iadd, 1) := by decide +kernel
theorem dX1_noteFailure_14 : decode cX1_noteFailure 14 = .ok (.putfield 46, 3) := by decide +kernel
theorem dX1_noteFailure_17 : decode cX1_noteFailure 17 = .ok (.aload_n 0, 1) := by decide +kernel
theorem dX1_noteFailure_18 : decode cX1_noteFailure 18 = .ok (.aload_n 0, 1) := by decide +kernel
theorem dX1_noteFailure_19 : decode cX1_noteFailure 19 = .ok (.getfield 49, 3) := by decide +kernel
theorem dX1_noteFailure_22 : decode cX1_noteFailure 22 = .ok (.putfield 52, 3) := by decide +kernel
theorem dX1_noteFailure_25 : decode cX1_noteFailure 25 = .ok (.return_, 1) := by decide +kernel
theorem dX1_fail_0 : decode cX1_fail 0 = .ok (.aload_n 0, 1) := by decide +kernel
theorem dX1_fail_1 : decode cX1_fail 1 = .ok (.iload_n 1, 1) := by decide +kernel
theorem dX1_fail_2 : decode cX1_fail 2 = .ok (.putfield 49, 3) := by decide +kernel
theorem dX1_fail_5 : decode cX1_fail 5 = .ok (.iconst 0, 1) := by decide +kernel
theorem dX1_fail_6 : decode cX1_fail 6 = .ok (.ireturn, 1) := by decide +kernel
theorem dX1_doLongestWaiting_0 : decode cX1_doLongestWaiting 0 = .ok (.aload_n 0, 1) := by decide +kernel
theorem dX1_doLongestWaiting_1 : decode cX1_doLongestWaiting 1 = .ok (.getfield 27, 3) := by decide +kernel
theorem dX1_doLongestWaiting_4 : decode cX1_doLongestWaiting 4 = .ok (.aload_n 0, 1) := by decide +kernel
theorem dX1_doLongestWaiting_5 : decode cX1_doLongestWaiting 5 = .ok (.getfield 33, 3) := by decide +kernel
theorem dX1_doLongestWaiting_8 : decode cX1_doLongestWaiting 8 = .ok (.aaload, 1) := by decide +kernel
theorem dX1_doLongestWaiting_9 : decode cX1_doLongestWaiting 9 = .ok (.astore_n 1, 1) := by decide +kernel
theorem dX1_doLongestWaiting_10 : decode cX1_doLongestWaiting 10 = .ok (.aload_n 0, 1) := by decide +kernel
theorem dX1_doLongestWaiting_11 : decode cX1_doLongestWaiting 11 = .ok (.getfield 30, 3) := by decide +kernel
theorem dX1_doLongestWaiting_14 : decode cX1_doLongestWaiting 14 = .ok (.aload_n 0, 1) := by decide +kernel
theorem dX1_doLongestWaiting_15 : decode cX1_doLongestWaiting 15 = .ok (.getfield 33, 3) := by decide +kernel
theorem dX1_doLongestWaiting_18 : decode cX1_doLongestWaiting 18 = .ok (.iaload, 1) := by decide +kernel
theorem dX1_doLongestWaiting_19 : decode cX1_doLongestWaiting 19 = .ok (.istore_n 2, 1) := by decide +kernel
theorem dX1_doLongestWaiting_20 : decode cX1_doLongestWaiting 20 = .ok (.aload_n 0, 1) := by decide +kernel
theorem dX1_doLongestWaiting_21 : decode cX1_doLongestWaiting 21 = .ok (.getfield 27, 3) := by decide +kernel
theorem dX1_doLongestWaiting_24 : decode cX1_doLongestWaiting 24 = .ok (.aload_n 0, 1) := by decide +kernel
theorem dX1_doLongestWaiting_25 : decode cX1_doLongestWaiting 25 = .ok (.getfield 33, 3) := by decide +kernel
theorem dX1_doLongestWaiting_28 : decode cX1_doLongestWaiting 28 = .ok (.aconst_null, 1) := by decide +kernel
theorem dX1_doLongestWaiting_29 : decode cX1_doLongestWaiting 29 = .ok (.aastore, 1) := by decide +kernel
theorem dX1_doLongestWaiting_30 : decode cX1_doLongestWaiting 30 = .ok (.aload_n 0, 1) := by decide +kernel
theorem dX1_doLongestWaiting_31 : decode cX1_doLongestWaiting 31 = .ok (.aload_n 0, 1) := by decide +kernel
theorem dX1_doLongestWaiting_32 : decode cX1_doLongestWaiting 32 = .ok (.getfield 33, 3) := by decide +kernel
theorem dX1_doLongestWaiting_35 : decode cX1_doLongestWaiting 35 = .ok (.iconst 1, 1) := by decide +kernel
theorem dX1_doLongestWaiting_36 : decode cX1_doLongestWaiting 36 = .ok (.iadd, 1) := by decide +kernel
theorem dX1_doLongestWaiting_37 : decode cX1_doLongestWaiting 37 = .ok (.bipush 12, 2) := by decide +kernel
theorem dX1_doLongestWaiting_39 : decode cX1_doLongestWaiting 39 = .ok (.irem, 1) := by decide +kernel
theorem dX1_doLongestWaiting_40 : decode cX1_doLongestWaiting 40 = .ok (.putfield 33, 3) := by decide +kernel
theorem dX1_doLongestWaiting_43 : decode cX1_doLongestWaiting 43 = .ok (.aload_n 0, 1) := by decide +kernel
theorem dX1_doLongestWaiting_44 : decode cX1_doLongestWaiting 44 = .ok (.dup, 1) := by decide +kernel
theorem dX1_doLongestWaiting_45 : decode cX1_doLongestWaiting 45 = .ok (.getfield 37, 3) := by decide +kernel
theorem dX1_doLongestWaiting_48 : decode cX1_doLongestWaiting 48 = .ok (.iconst 1, 1) := by decide +kernel
theorem dX1_doLongestWaiting_49 : decode cX1_doLongestWaiting 49 = .ok (.isub, 1) := by decide +kernel
theorem dX1_doLongestWaiting_50 : decode cX1_doLongestWaiting 50 = .ok (.putfield 37, 3) := by decide +kernel
theorem dX1_doLongestWaiting_53 : decode cX1_doLongestWaiting 53 = .ok (.aload_n 0, 1) := by decide +kernel
theorem dX1_doLongestWaiting_54 : decode cX1_doLongestWaiting 54 = .ok (.aload_n 1, 1) := by decide +kernel
theorem dX1_doLongestWaiting_55 : decode cX1_doLongestWaiting 55 = .ok (.iload_n 2, 1) := by decide +kernel
theorem dX1_doLongestWaiting_56 : decode cX1_doLongestWaiting 56 = .ok (.iconst 0, 1) := by decide +kernel
theorem dX1_doLongestWaiting_57 : decode cX1_doLongestWaiting 57 = .ok (.invokevirtual 110, 3) := by decide +kernel
theorem dX1_doLongestWaiting_60 : decode cX1_doLongestWaiting 60 = .ok (.pop, 1) := by decide +kernel
theorem dX1_doLongestWaiting_61 : decode cX1_doLongestWaiting 61 = .ok (.return_, 1) := by decide +kernel
theorem dX1_doDeed_0 : decode cX1_doDeed 0 = .ok (.aload_n 0, 1) := by decide +kernel
theorem dX1_doDeed_1 : decode cX1_doDeed 1 = .ok (.getfield 43, 3) := by decide +kernel
theorem dX1_doDeed_4 : decode cX1_doDeed 4 = .ok (.bipush 60, 2) := by decide +kernel
theorem dX1_doDeed_6 : decode cX1_doDeed 6 = .ok (.if_icmp .lt 10, 3) := by decide +kernel
theorem dX1_doDeed_9 : decode cX1_doDeed 9 = .ok (.aload_n 0, 1) := by decide +kernel
theorem dX1_doDeed_10 : decode cX1_doDeed 10 = .ok (.bipush (-8), 2) := by decide +kernel
theorem dX1_doDeed_12 : decode cX1_doDeed 12 = .ok (.invokevirtual 137, 3) := by decide +kernel
theorem dX1_doDeed_15 : decode cX1_doDeed 15 = .ok (.ireturn, 1) := by decide +kernel
theorem dX1_doDeed_16 : decode cX1_doDeed 16 = .ok (.aload_n 0, 1) := by decide +kernel
theorem dX1_doDeed_17 : decode cX1_doDeed 17 = .ok (.dup, 1) := by decide +kernel
theorem dX1_doDeed_18 : decode cX1_doDeed 18 = .ok (.getfield 43, 3) := by decide +kernel
theorem dX1_doDeed_21 : decode cX1_doDeed 21 = .ok (.iconst 1, 1) := by decide +kernel
theorem dX1_doDeed_22 : decode cX1_doDeed 22 = .ok (.iadd, 1) := by decide +kernel
theorem dX1_doDeed_23 : decode cX1_doDeed 23 = .ok (.putfield 43, 3) := by decide +kernel
theorem dX1_doDeed_26 : decode cX1_doDeed 26 = .ok (.iload_n 3, 1) := by decide +kernel
theorem dX1_doDeed_27 : decode cX1_doDeed 27 = .ok (.bipush 16, 2) := by decide +kernel
theorem dX1_doDeed_29 : decode cX1_doDeed 29 = .ok (.if_icmp .lt 10, 3) := by decide +kernel
theorem dX1_doDeed_32 : decode cX1_doDeed 32 = .ok (.aload_n 0, 1) := by decide +kernel
theorem dX1_doDeed_33 : decode cX1_doDeed 33 = .ok (.bipush (-9), 2) := by decide +kernel
theorem dX1_doDeed_35 : decode cX1_doDeed 35 = .ok (.invokevirtual 137, 3) := by decide +kernel
theorem dX1_doDeed_38 : decode cX1_doDeed 38 = .ok (.ireturn, 1) := by decide +kernel
theorem dX1_doDeed_39 : decode cX1_doDeed 39 = .ok (.aload_n 1, 1) := by decide +kernel
theorem dX1_doDeed_40 : decode cX1_doDeed 40 = .ok (.ifnonnull 10, 3) := by decide +kernel
theorem dX1_doDeed_43 : decode cX1_doDeed 43 = .ok (.aload_n 0, 1) := by decide +kernel
theorem dX1_doDeed_44 : decode cX1_doDeed 44 = .ok (.bipush (-6), 2) := by decide +kernel
theorem dX1_doDeed_46 : decode cX1_doDeed 46 = .ok (.invokevirtual 137, 3) := by decide +kernel
theorem dX1_doDeed_49 : decode cX1_doDeed 49 = .ok (.ireturn, 1) := by decide +kernel
theorem dX1_doDeed_50 : decode cX1_doDeed 50 = .ok (.aload_n 1, 1) := by decide +kernel
theorem dX1_doDeed_51 : decode cX1_doDeed 51 = .ok (.getfield 98, 3) := by decide +kernel
theorem dX1_doDeed_54 : decode cX1_doDeed 54 = .ok (.bipush 7, 2) := by decide +kernel
theorem dX1_doDeed_56 : decode cX1_doDeed 56 = .ok (.if_icmp .ge 12, 3) := by decide +kernel
theorem dX1_doDeed_59 : decode cX1_doDeed 59 = .ok (.aload_n 0, 1) := by decide +kernel
theorem dX1_doDeed_60 : decode cX1_doDeed 60 = .ok (.aload_n 1, 1) := by decide +kernel
theorem dX1_doDeed_61 : decode cX1_doDeed 61 = .ok (.iload_n 2, 1) := by decide +kernel
theorem dX1_doDeed_62 : decode cX1_doDeed 62 = .ok (.invokevirtual 140, 3) := by decide +kernel
theorem dX1_doDeed_65 : decode cX1_doDeed 65 = .ok (.goto 12, 3) := by decide +kernel
theorem dX1_doDeed_68 : decode cX1_doDeed 68 = .ok (.aload_n 0, 1) := by decide +kernel
theorem dX1_doDeed_69 : decode cX1_doDeed 69 = .ok (.aload_n 1, 1) := by decide +kernel
theorem dX1_doDeed_70 : decode cX1_doDeed 70 = .ok (.iload_n 2, 1) := by decide +kernel
theorem dX1_doDeed_71 : decode cX1_doDeed 71 = .ok (.iload_n 3, 1) := by decide +kernel
theorem dX1_doDeed_72 : decode cX1_doDeed 72 = .ok (.iconst 1, 1) := by decide +kernel
theorem dX1_doDeed_73 : decode cX1_doDeed 73 = .ok (.iadd, 1) := by decide +kernel
theorem dX1_doDeed_74 : decode cX1_doDeed 74 = .ok (.invokevirtual 144, 3) := by decide +kernel
theorem dX1_doDeed_77 : decode cX1_doDeed 77 = .ok (.ireturn, 1) := by decide +kernel
theorem dX1_doAlone_0 : decode cX1_doAlone 0 = .ok (.aload_n 1, 1) := by decide +kernel
theorem dX1_doAlone_1 : decode cX1_doAlone 1 = .ok (.getfield 98, 3) := by decide +kernel
theorem dX1_doAlone_4 : decode cX1_doAlone 4 = .ok (.tableswitch 107 0 6 #[44, 49, 56, 63, 70, 77, 100], 44) := by decide +kernel
theorem dX1_doAlone_48 : decode cX1_doAlone 48 = .ok (.aload_n 1, 1) := by decide +kernel
theorem dX1_doAlone_49 : decode cX1_doAlone 49 = .ok (.getfield 147, 3) := by decide +kernel
theorem dX1_doAlone_52 : decode cX1_doAlone 52 = .ok (.ireturn, 1) := by decide +kernel
theorem dX1_doAlone_53 : decode cX1_doAlone 53 = .ok (.aload_n 0, 1) := by decide +kernel
theorem dX1_doAlone_54 : decode cX1_doAlone 54 = .ok (.aload_n 1, 1) := by decide +kernel
theorem dX1_doAlone_55 : decode cX1_doAlone 55 = .ok (.iload_n 2, 1) := by decide +kernel
theorem dX1_doAlone_56 : decode cX1_doAlone 56 = .ok (.invokevirtual 150, 3) := by decide +kernel
theorem dX1_doAlone_59 : decode cX1_doAlone 59 = .ok (.ireturn, 1) := by decide +kernel
theorem dX1_doAlone_60 : decode cX1_doAlone 60 = .ok (.aload_n 0, 1) := by decide +kernel
theorem dX1_doAlone_61 : decode cX1_doAlone 61 = .ok (.aload_n 1, 1) := by decide +kernel
theorem dX1_doAlone_62 : decode cX1_doAlone 62 = .ok (.iload_n 2, 1) := by decide +kernel
theorem dX1_doAlone_63 : decode cX1_doAlone 63 = .ok (.invokevirtual 153, 3) := by decide +kernel
theorem dX1_doAlone_66 : decode cX1_doAlone 66 = .ok (.ireturn, 1) := by decide +kernel
theorem dX1_doAlone_67 : decode cX1_doAlone 67 = .ok (.aload_n 0, 1) := by decide +kernel
theorem dX1_doAlone_68 : decode cX1_doAlone 68 = .ok (.aload_n 1, 1) := by decide +kernel
theorem dX1_doAlone_69 : decode cX1_doAlone 69 = .ok (.iload_n 2, 1) := by decide +kernel
theorem dX1_doAlone_70 : decode cX1_doAlone 70 = .ok (.invokevirtual 156, 3) := by decide +kernel
theorem dX1_doAlone_73 : decode cX1_doAlone 73 = .ok (.ireturn, 1) := by decide +kernel
theorem dX1_doAlone_74 : decode cX1_doAlone 74 = .ok (.aload_n 0, 1) := by decide +kernel
theorem dX1_doAlone_75 : decode cX1_doAlone 75 = .ok (.aload_n 1, 1) := by decide +kernel
theorem dX1_doAlone_76 : decode cX1_doAlone 76 = .ok (.iload_n 2, 1) := by decide +kernel
theorem dX1_doAlone_77 : decode cX1_doAlone 77 = .ok (.invokevirtual 159, 3) := by decide +kernel
theorem dX1_doAlone_80 : decode cX1_doAlone 80 = .ok (.ireturn, 1) := by decide +kernel
theorem dX1_doAlone_81 : decode cX1_doAlone 81 = .ok (.aload_n 1, 1) := by decide +kernel
theorem dX1_doAlone_82 : decode cX1_doAlone 82 = .ok (.getfield 147, 3) := by decide +kernel
theorem dX1_doAlone_85 : decode cX1_doAlone 85 = .ok (.ifCond .ne 12, 3) := by decide +kernel
theorem dX1_doAlone_88 : decode cX1_doAlone 88 = .ok (.aload_n 0, 1) := by decide +kernel
theorem dX1_doAlone_89 : decode cX1_doAlone 89 = .ok (.bipush (-5), 2) := by decide +kernel
theorem dX1_doAlone_91 : decode cX1_doAlone 91 = .ok (.invokevirtual 137, 3) := by decide +kernel
theorem dX1_doAlone_94 : decode cX1_doAlone 94 = .ok (.goto 9, 3) := by decide +kernel
theorem dX1_doAlone_97 : decode cX1_doAlone 97 = .ok (.iload_n 2, 1) := by decide +kernel
theorem dX1_doAlone_98 : decode cX1_doAlone 98 = .ok (.aload_n 1, 1) := by decide +kernel
theorem dX1_doAlone_99 : decode cX1_doAlone 99 = .ok (.getfield 147, 3) := by decide +kernel
theorem dX1_doAlone_102 : decode cX1_doAlone 102 = .ok (.idiv, 1) := by decide +kernel
theorem dX1_doAlone_103 : decode cX1_doAlone 103 = .ok (.ireturn, 1) := by decide +kernel
theorem dX1_doAlone_104 : decode cX1_doAlone 104 = .ok (.iload_n 2, 1) := by decide +kernel
theorem dX1_doAlone_105 : decode cX1_doAlone 105 = .ok (.aload_n 1, 1) := by decide +kernel
theorem dX1_doAlone_106 : decode cX1_doAlone 106 = .ok (.getfield 147, 3) := by decide +kernel
theorem dX1_doAlone_109 : decode cX1_doAlone 109 = .ok (.iadd, 1) := by decide +kernel
theorem dX1_doAlone_110 : decode cX1_doAlone 110 = .ok (.ireturn, 1) := by decide +kernel
theorem dX1_doAlone_111 : decode cX1_doAlone 111 = .ok (.aload_n 0, 1) := by decide +kernel
theorem dX1_doAlone_112 : decode cX1_doAlone 112 = .ok (.bipush (-6), 2) := by decide +kernel
theorem dX1_doAlone_114 : decode cX1_doAlone 114 = .ok (.invokevirtual 137, 3) := by decide +kernel
theorem dX1_doAlone_117 : decode cX1_doAlone 117 = .ok (.ireturn, 1) := by decide +kernel
theorem dX1_doThroughOthers_0 : decode cX1_doThroughOthers 0 = .ok (.aload_n 1, 1) := by decide +kernel
theorem dX1_doThroughOthers_1 : decode cX1_doThroughOthers 1 = .ok (.getfield 98, 3) := by decide +kernel
theorem dX1_doThroughOthers_4 : decode cX1_doThroughOthers 4 = .ok (.tableswitch 143 7 14 #[48, 56, 86, 94, 102, 109, 117, 128], 48) := by decide +kernel
theorem dX1_doThroughOthers_52 : decode cX1_doThroughOthers 52 = .ok (.aload_n 0, 1) := by decide +kernel
theorem dX1_doThroughOthers_53 : decode cX1_doThroughOthers 53 = .ok (.aload_n 1, 1) := by decide +kernel
theorem dX1_doThroughOthers_54 : decode cX1_doThroughOthers 54 = .ok (.iload_n 2, 1) := by decide +kernel
theorem dX1_doThroughOthers_55 : decode cX1_doThroughOthers 55 = .ok (.iload_n 3, 1) := by decide +kernel
theorem dX1_doThroughOthers_56 : decode cX1_doThroughOthers 56 = .ok (.invokevirtual 162, 3) := by decide +kernel
theorem dX1_doThroughOthers_59 : decode cX1_doThroughOthers 59 = .ok (.ireturn, 1) := by decide +kernel
theorem dX1_doThroughOthers_60 : decode cX1_doThroughOthers 60 = .ok (.aload_n 0, 1) := by decide +kernel
theorem dX1_doThroughOthers_61 : decode cX1_doThroughOthers 61 = .ok (.aload_n 0, 1) := by decide +kernel
theorem dX1_doThroughOthers_62 : decode cX1_doThroughOthers 62 = .ok (.aload_n 1, 1) := by decide +kernel
theorem dX1_doThroughOthers_63 : decode cX1_doThroughOthers 63 = .ok (.getfield 165, 3) := by decide +kernel
theorem dX1_doThroughOthers_66 : decode cX1_doThroughOthers 66 = .ok (.invokevirtual 55, 3) := by decide +kernel
theorem dX1_doThroughOthers_69 : decode cX1_doThroughOthers 69 = .ok (.iload_n 2, 1) := by decide +kernel
theorem dX1_doThroughOthers_70 : decode cX1_doThroughOthers 70 = .ok (.if_icmp .le 10, 3) := by decide +kernel
theorem dX1_doThroughOthers_73 : decode cX1_doThroughOthers 73 = .ok (.aload_n 1, 1) := by decide +kernel
theorem dX1_doThroughOthers_74 : decode cX1_doThroughOthers 74 = .ok (.getfield 168, 3) := by decide +kernel
theorem dX1_doThroughOthers_77 : decode cX1_doThroughOthers 77 = .ok (.goto 7, 3) := by decide +kernel
theorem dX1_doThroughOthers_80 : decode cX1_doThroughOthers 80 = .ok (.aload_n 1, 1) := by decide +kernel
theorem dX1_doThroughOthers_81 : decode cX1_doThroughOthers 81 = .ok (.getfield 172, 3) := by decide +kernel
theorem dX1_doThroughOthers_84 : decode cX1_doThroughOthers 84 = .ok (.iload_n 2, 1) := by decide +kernel
theorem dX1_doThroughOthers_85 : decode cX1_doThroughOthers 85 = .ok (.iload_n 3, 1) := by decide +kernel
theorem dX1_doThroughOthers_86 : decode cX1_doThroughOthers 86 = .ok (.invokevirtual 110, 3) := by decide +kernel
theorem dX1_doThroughOthers_89 : decode cX1_doThroughOthers 89 = .ok (.ireturn, 1) := by decide +kernel
theorem dX1_doThroughOthers_90 : decode cX1_doThroughOthers 90 = .ok (.aload_n 0, 1) := by decide +kernel
theorem dX1_doThroughOthers_91 : decode cX1_doThroughOthers 91 = .ok (.aload_n 1, 1) := by decide +kernel
theorem dX1_doThroughOthers_92 : decode cX1_doThroughOthers 92 = .ok (.iload_n 2, 1) := by decide +kernel
theorem dX1_doThroughOthers_93 : decode cX1_doThroughOthers 93 = .ok (.iload_n 3, 1) := by decide +kernel
theorem dX1_doThroughOthers_94 : decode cX1_doThroughOthers 94 = .ok (.invokevirtual 175, 3) := by decide +kernel
theorem dX1_doThroughOthers_97 : decode cX1_doThroughOthers 97 = .ok (.ireturn, 1) := by decide +kernel
theorem dX1_doThroughOthers_98 : decode cX1_doThroughOthers 98 = .ok (.aload_n 0, 1) := by decide +kernel
theorem dX1_doThroughOthers_99 : decode cX1_doThroughOthers 99 = .ok (.aload_n 1, 1) := by decide +kernel
theorem dX1_doThroughOthers_100 : decode cX1_doThroughOthers 100 = .ok (.iload_n 2, 1) := by decide +kernel
theorem dX1_doThroughOthers_101 : decode cX1_doThroughOthers 101 = .ok (.iload_n 3, 1) := by decide +kernel
theorem dX1_doThroughOthers_102 : decode cX1_doThroughOthers 102 = .ok (.invokevirtual 178, 3) := by decide +kernel
theorem dX1_doThroughOthers_105 : decode cX1_doThroughOthers 105 = .ok (.ireturn, 1) := by decide +kernel
theorem dX1_doThroughOthers_106 : decode cX1_doThroughOthers 106 = .ok (.aload_n 0, 1) := by decide +kernel
theorem dX1_doThroughOthers_107 : decode cX1_doThroughOthers 107 = .ok (.aload_n 1, 1) := by decide +kernel
theorem dX1_doThroughOthers_108 : decode cX1_doThroughOthers 108 = .ok (.iload_n 2, 1) := by decide +kernel
theorem dX1_doThroughOthers_109 : decode cX1_doThroughOthers 109 = .ok (.invokevirtual 181, 3) := by decide +kernel
theorem dX1_doThroughOthers_112 : decode cX1_doThroughOthers 112 = .ok (.ireturn, 1) := by decide +kernel
theorem dX1_doThroughOthers_113 : decode cX1_doThroughOthers 113 = .ok (.aload_n 0, 1) := by decide +kernel
theorem dX1_doThroughOthers_114 : decode cX1_doThroughOthers 114 = .ok (.aload_n 1, 1) := by decide +kernel
theorem dX1_doThroughOthers_115 : decode cX1_doThroughOthers 115 = .ok (.iload_n 2, 1) := by decide +kernel
theorem dX1_doThroughOthers_116 : decode cX1_doThroughOthers 116 = .ok (.iload_n 3, 1) := by decide +kernel
theorem dX1_doThroughOthers_117 : decode cX1_doThroughOthers 117 = .ok (.invokevirtual 184, 3) := by decide +kernel
theorem dX1_doThroughOthers_120 : decode cX1_doThroughOthers 120 = .ok (.ireturn, 1) := by decide +kernel
theorem dX1_doThroughOthers_121 : decode cX1_doThroughOthers 121 = .ok (.aload_n 0, 1) := by decide +kernel
theorem dX1_doThroughOthers_122 : decode cX1_doThroughOthers 122 = .ok (.aload_n 1, 1) := by decide +kernel
theorem dX1_doThroughOthers_123 : decode cX1_doThroughOthers 123 = .ok (.getfield 147, 3) := by decide +kernel
theorem dX1_doThroughOthers_126 : decode cX1_doThroughOthers 126 = .ok (.iload_n 2, 1) := by decide +kernel
theorem dX1_doThroughOthers_127 : decode cX1_doThroughOthers 127 = .ok (.iload_n 3, 1) := by decide +kernel
theorem dX1_doThroughOthers_128 : decode cX1_doThroughOthers 128 = .ok (.invokevirtual 117, 3) := by decide +kernel
theorem dX1_doThroughOthers_131 : decode cX1_doThroughOthers 131 = .ok (.ireturn, 1) := by decide +kernel
theorem dX1_doThroughOthers_132 : decode cX1_doThroughOthers 132 = .ok (.aload_n 0, 1) := by decide +kernel
theorem dX1_doThroughOthers_133 : decode cX1_doThroughOthers 133 = .ok (.aload_n 0, 1) := by decide +kernel
theorem dX1_doThroughOthers_134 : decode cX1_doThroughOthers 134 = .ok (.aload_n 1, 1) := by decide +kernel
theorem dX1_doThroughOthers_135 : decode cX1_doThroughOthers 135 = .ok (.getfield 147, 3) := by decide +kernel
theorem dX1_doThroughOthers_138 : decode cX1_doThroughOthers 138 = .ok (.invokevirtual 85, 3) := by decide +kernel
theorem dX1_doThroughOthers_141 : decode cX1_doThroughOthers 141 = .ok (.iload_n 2, 1) := by decide +kernel
theorem dX1_doThroughOthers_142 : decode cX1_doThroughOthers 142 = .ok (.iload_n 3, 1) := by decide +kernel
theorem dX1_doThroughOthers_143 : decode cX1_doThroughOthers 143 = .ok (.invokevirtual 110, 3) := by decide +kernel
theorem dX1_doThroughOthers_146 : decode cX1_doThroughOthers 146 = .ok (.ireturn, 1) := by decide +kernel
theorem dX1_doThroughOthers_147 : decode cX1_doThroughOthers 147 = .ok (.aload_n 0, 1) := by decide +kernel
theorem dX1_doThroughOthers_148 : decode cX1_doThroughOthers 148 = .ok (.bipush (-6), 2) := by decide +kernel
theorem dX1_doThroughOthers_150 : decode cX1_doThroughOthers 150 = .ok (.invokevirtual 137, 3) := by decide +kernel
theorem dX1_doThroughOthers_153 : decode cX1_doThroughOthers 153 = .ok (.ireturn, 1) := by decide +kernel
theorem dX1_doSet_0 : decode cX1_doSet 0 = .ok (.aload_n 0, 1) := by decide +kernel
theorem dX1_doSet_1 : decode cX1_doSet 1 = .ok (.aload_n 1, 1) := by decide +kernel
theorem dX1_doSet_2 : decode cX1_doSet 2 = .ok (.getfield 147, 3) := by decide +kernel
theorem dX1_doSet_5 : decode cX1_doSet 5 = .ok (.invokevirtual 55, 3) := by decide +kernel
theorem dX1_doSet_8 : decode cX1_doSet 8 = .ok (.istore_n 3, 1) := by decide +kernel
theorem dX1_doSet_9 : decode cX1_doSet 9 = .ok (.aload_n 0, 1) := by decide +kernel
theorem dX1_doSet_10 : decode cX1_doSet 10 = .ok (.aload_n 1, 1) := by decide +kernel
theorem dX1_doSet_11 : decode cX1_doSet 11 = .ok (.getfield 147, 3) := by decide +kernel
theorem dX1_doSet_14 : decode cX1_doSet 14 = .ok (.iload_n 2, 1) := by decide +kernel
theorem dX1_doSet_15 : decode cX1_doSet 15 = .ok (.invokevirtual 59, 3) := by decide +kernel
theorem dX1_doSet_18 : decode cX1_doSet 18 = .ok (.iload_n 3, 1) := by decide +kernel
theorem dX1_doSet_19 : decode cX1_doSet 19 = .ok (.ireturn, 1) := by decide +kernel
theorem dX1_doAdd_0 : decode cX1_doAdd 0 = .ok (.aload_n 0, 1) := by decide +kernel
theorem dX1_doAdd_1 : decode cX1_doAdd 1 = .ok (.aload_n 1, 1) := by decide +kernel
theorem dX1_doAdd_2 : decode cX1_doAdd 2 = .ok (.getfield 147, 3) := by decide +kernel
theorem dX1_doAdd_5 : decode cX1_doAdd 5 = .ok (.aload_n 0, 1) := by decide +kernel
theorem dX1_doAdd_6 : decode cX1_doAdd 6 = .ok (.aload_n 1, 1) := by decide +kernel
theorem dX1_doAdd_7 : decode cX1_doAdd 7 = .ok (.getfield 147, 3) := by decide +kernel
theorem dX1_doAdd_10 : decode cX1_doAdd 10 = .ok (.invokevirtual 55, 3) := by decide +kernel
theorem dX1_doAdd_13 : decode cX1_doAdd 13 = .ok (.iload_n 2, 1) := by decide +kernel
theorem dX1_doAdd_14 : decode cX1_doAdd 14 = .ok (.aload_n 1, 1) := by decide +kernel
theorem dX1_doAdd_15 : decode cX1_doAdd 15 = .ok (.getfield 187, 3) := by decide +kernel
theorem dX1_doAdd_18 : decode cX1_doAdd 18 = .ok (.imul, 1) := by decide +kernel
theorem dX1_doAdd_19 : decode cX1_doAdd 19 = .ok (.iadd, 1) := by decide +kernel
theorem dX1_doAdd_20 : decode cX1_doAdd 20 = .ok (.invokevirtual 59, 3) := by decide +kernel
theorem dX1_doAdd_23 : decode cX1_doAdd 23 = .ok (.aload_n 0, 1) := by decide +kernel
theorem dX1_doAdd_24 : decode cX1_doAdd 24 = .ok (.aload_n 1, 1) := by decide +kernel
theorem dX1_doAdd_25 : decode cX1_doAdd 25 = .ok (.getfield 147, 3) := by decide +kernel
theorem dX1_doAdd_28 : decode cX1_doAdd 28 = .ok (.invokevirtual 55, 3) := by decide +kernel
theorem dX1_doAdd_31 : decode cX1_doAdd 31 = .ok (.ireturn, 1) := by decide +kernel
theorem dX1_doDraw_0 : decode cX1_doDraw 0 = .ok (.iload_n 2, 1) := by decide +kernel
theorem dX1_doDraw_1 : decode cX1_doDraw 1 = .ok (.ifCond .lt 15, 3) := by decide +kernel
theorem dX1_doDraw_4 : decode cX1_doDraw 4 = .ok (.iload_n 2, 1) := by decide +kernel
theorem dX1_doDraw_5 : decode cX1_doDraw 5 = .ok (.aload_n 0, 1) := by decide +kernel
theorem dX1_doDraw_6 : decode cX1_doDraw 6 = .ok (.aload_n 1, 1) := by decide +kernel
theorem dX1_doDraw_7 : decode cX1_doDraw 7 = .ok (.getfield 147, 3) := by decide +kernel
theorem dX1_doDraw_10 : decode cX1_doDraw 10 = .ok (.invokevirtual 55, 3) := by decide +kernel
theorem dX1_doDraw_13 : decode cX1_doDraw 13 = .ok (.if_icmp .le 10, 3) := by decide +kernel
theorem dX1_doDraw_16 : decode cX1_doDraw 16 = .ok (.aload_n 0, 1) := by decide +kernel
theorem dX1_doDraw_17 : decode cX1_doDraw 17 = .ok (.bipush (-3), 2) := by decide +kernel
theorem dX1_doDraw_19 : decode cX1_doDraw 19 = .ok (.invokevirtual 137, 3) := by decide +kernel
theorem dX1_doDraw_22 : decode cX1_doDraw 22 = .ok (.ireturn, 1) := by decide +kernel
theorem dX1_doDraw_23 : decode cX1_doDraw 23 = .ok (.aload_n 0, 1) := by decide +kernel
theorem dX1_doDraw_24 : decode cX1_doDraw 24 = .ok (.aload_n 1, 1) := by decide +kernel
theorem dX1_doDraw_25 : decode cX1_doDraw 25 = .ok (.getfield 147, 3) := by decide +kernel
theorem dX1_doDraw_28 : decode cX1_doDraw 28 = .ok (.aload_n 0, 1) := by decide +kernel
theorem dX1_doDraw_29 : decode cX1_doDraw 29 = .ok (.aload_n 1, 1) := by decide +kernel
theorem dX1_doDraw_30 : decode cX1_doDraw 30 = .ok (.getfield 147, 3) := by decide +kernel
theorem dX1_doDraw_33 : decode cX1_doDraw 33 = .ok (.invokevirtual 55, 3) := by decide +kernel
theorem dX1_doDraw_36 : decode cX1_doDraw 36 = .ok (.iload_n 2, 1) := by decide +kernel
theorem dX1_doDraw_37 : decode cX1_doDraw 37 = .ok (.isub, 1) := by decide +kernel
theorem dX1_doDraw_38 : decode cX1_doDraw 38 = .ok (.invokevirtual 59, 3) := by decide +kernel
theorem dX1_doDraw_41 : decode cX1_doDraw 41 = .ok (.aload_n 0, 1) := by decide +kernel
theorem dX1_doDraw_42 : decode cX1_doDraw 42 = .ok (.aload_n 1, 1) := by decide +kernel
theorem dX1_doDraw_43 : decode cX1_doDraw 43 = .ok (.getfield 187, 3) := by decide +kernel
theorem dX1_doDraw_46 : decode cX1_doDraw 46 = .ok (.aload_n 0, 1) := by decide +kernel
theorem dX1_doDraw_47 : decode cX1_doDraw 47 = .ok (.aload_n 1, 1) := by decide +kernel
theorem dX1_doDraw_48 : decode cX1_doDraw 48 = .ok (.getfield 187, 3) := by decide +kernel
theorem dX1_doDraw_51 : decode cX1_doDraw 51 = .ok (.invokevirtual 55, 3) := by decide +kernel
theorem dX1_doDraw_54 : decode cX1_doDraw 54 = .ok (.iload_n 2, 1) := by decide +kernel
theorem dX1_doDraw_55 : decode cX1_doDraw 55 = .ok (.iadd, 1) := by decide +kernel
theorem dX1_doDraw_56 : decode cX1_doDraw 56 = .ok (.invokevirtual 59, 3) := by decide +kernel
theorem dX1_doDraw_59 : decode cX1_doDraw 59 = .ok (.aload_n 0, 1) := by decide +kernel
theorem dX1_doDraw_60 : decode cX1_doDraw 60 = .ok (.aload_n 1, 1) := by decide +kernel
theorem dX1_doDraw_61 : decode cX1_doDraw 61 = .ok (.getfield 147, 3) := by decide +kernel
theorem dX1_doDraw_64 : decode cX1_doDraw 64 = .ok (.invokevirtual 55, 3) := by decide +kernel
theorem dX1_doDraw_67 : decode cX1_doDraw 67 = .ok (.ireturn, 1) := by decide +kernel
theorem dX1_doMark_0 : decode cX1_doMark 0 = .ok (.aload_n 1, 1) := by decide +kernel
theorem dX1_doMark_1 : decode cX1_doMark 1 = .ok (.getfield 190, 3) := by decide +kernel
theorem dX1_doMark_4 : decode cX1_doMark 4 = .ok (.astore_n 3, 1) := by decide +kernel
theorem dX1_doMark_5 : decode cX1_doMark 5 = .ok (.aload_n 3, 1) := by decide +kernel
theorem dX1_doMark_6 : decode cX1_doMark 6 = .ok (.aload_n 1, 1) := by decide +kernel
theorem dX1_doMark_7 : decode cX1_doMark 7 = .ok (.getfield 187, 3) := by decide +kernel
theorem dX1_doMark_10 : decode cX1_doMark 10 = .ok (.invokestatic 71, 3) := by decide +kernel
theorem dX1_doMark_13 : decode cX1_doMark 13 = .ok (.ifCond .ne 10, 3) := by decide +kernel
theorem dX1_doMark_16 : decode cX1_doMark 16 = .ok (.aload_n 0, 1) := by decide +kernel
theorem dX1_doMark_17 : decode cX1_doMark 17 = .ok (.bipush (-4), 2) := by decide +kernel
theorem dX1_doMark_19 : decode cX1_doMark 19 = .ok (.invokevirtual 137, 3) := by decide +kernel
theorem dX1_doMark_22 : decode cX1_doMark 22 = .ok (.ireturn, 1) := by decide +kernel
theorem dX1_doMark_23 : decode cX1_doMark 23 = .ok (.aload_n 3, 1) := by decide +kernel
theorem dX1_doMark_24 : decode cX1_doMark 24 = .ok (.aload_n 1, 1) := by decide +kernel
theorem dX1_doMark_25 : decode cX1_doMark 25 = .ok (.getfield 187, 3) := by decide +kernel
theorem dX1_doMark_28 : decode cX1_doMark 28 = .ok (.dup2, 1) := by decide +kernel
theorem dX1_doMark_29 : decode cX1_doMark 29 = .ok (.iaload, 1) := by decide +kernel
theorem dX1_doMark_30 : decode cX1_doMark 30 = .ok (.iload_n 2, 1) := by decide +kernel
theorem dX1_doMark_31 : decode cX1_doMark 31 = .ok (.iadd, 1) := by decide +kernel
theorem dX1_doMark_32 : decode cX1_doMark 32 = .ok (.iastore, 1) := by decide +kernel
theorem dX1_doMark_33 : decode cX1_doMark 33 = .ok (.aload_n 3, 1) := by decide +kernel
theorem dX1_doMark_34 : decode cX1_doMark 34 = .ok (.aload_n 1, 1) := by decide +kernel
theorem dX1_doMark_35 : decode cX1_doMark 35 = .ok (.getfield 187, 3) := by decide +kernel
theorem dX1_doMark_38 : decode cX1_doMark 38 = .ok (.iaload, 1) := by decide +kernel
theorem dX1_doMark_39 : decode cX1_doMark 39 = .ok (.ireturn, 1) := by decide +kernel
theorem dX1_doThen_0 : decode cX1_doThen 0 = .ok (.aload_n 0, 1) := by decide +kernel
theorem dX1_doThen_1 : decode cX1_doThen 1 = .ok (.aload_n 1, 1) := by decide +kernel
theorem dX1_doThen_2 : decode cX1_doThen 2 = .ok (.getfield 172, 3) := by decide +kernel
theorem dX1_doThen_5 : decode cX1_doThen 5 = .ok (.iload_n 2, 1) := by decide +kernel
theorem dX1_doThen_6 : decode cX1_doThen 6 = .ok (.iload_n 3, 1) := by decide +kernel
theorem dX1_doThen_7 : decode cX1_doThen 7 = .ok (.invokevirtual 110, 3) := by decide +kernel
theorem dX1_doThen_10 : decode cX1_doThen 10 = .ok (.istore 4, 2) := by decide +kernel
theorem dX1_doThen_12 : decode cX1_doThen 12 = .ok (.aload_n 0, 1) := by decide +kernel
theorem dX1_doThen_13 : decode cX1_doThen 13 = .ok (.getfield 49, 3) := by decide +kernel
theorem dX1_doThen_16 : decode cX1_doThen 16 = .ok (.ifCond .ne 17, 3) := by decide +kernel
theorem dX1_doThen_19 : decode cX1_doThen 19 = .ok (.aload_n 0, 1) := by decide +kernel
theorem dX1_doThen_20 : decode cX1_doThen 20 = .ok (.aload_n 1, 1) := by decide +kernel
theorem dX1_doThen_21 : decode cX1_doThen 21 = .ok (.getfield 168, 3) := by decide +kernel
theorem dX1_doThen_24 : decode cX1_doThen 24 = .ok (.iload 4, 2) := by decide +kernel
theorem dX1_doThen_26 : decode cX1_doThen 26 = .ok (.iload_n 3, 1) := by decide +kernel
theorem dX1_doThen_27 : decode cX1_doThen 27 = .ok (.invokevirtual 110, 3) := by decide +kernel
theorem dX1_doThen_30 : decode cX1_doThen 30 = .ok (.goto 4, 3) := by decide +kernel
theorem dX1_doThen_33 : decode cX1_doThen 33 = .ok (.iconst 0, 1) := by decide +kernel
theorem dX1_doThen_34 : decode cX1_doThen 34 = .ok (.ireturn, 1) := by decide +kernel
theorem dX1_doTimes_0 : decode cX1_doTimes 0 = .ok (.iload_n 2, 1) := by decide +kernel
theorem dX1_doTimes_1 : decode cX1_doTimes 1 = .ok (.istore 4, 2) := by decide +kernel
theorem dX1_doTimes_3 : decode cX1_doTimes 3 = .ok (.iconst 0, 1) := by decide +kernel
theorem dX1_doTimes_4 : decode cX1_doTimes 4 = .ok (.istore 5, 2) := by decide +kernel
theorem dX1_doTimes_6 : decode cX1_doTimes 6 = .ok (.iload 5, 2) := by decide +kernel
theorem dX1_doTimes_8 : decode cX1_doTimes 8 = .ok (.aload_n 1, 1) := by decide +kernel
theorem dX1_doTimes_9 : decode cX1_doTimes 9 = .ok (.getfield 187, 3) := by decide +kernel
theorem dX1_doTimes_12 : decode cX1_doTimes 12 = .ok (.if_icmp .ge 29, 3) := by decide +kernel
theorem dX1_doTimes_15 : decode cX1_doTimes 15 = .ok (.aload_n 0, 1) := by decide +kernel
theorem dX1_doTimes_16 : decode cX1_doTimes 16 = .ok (.getfield 49, 3) := by decide +kernel
theorem dX1_doTimes_19 : decode cX1_doTimes 19 = .ok (.ifCond .ne 22, 3) := by decide +kernel
theorem dX1_doTimes_22 : decode cX1_doTimes 22 = .ok (.aload_n 0, 1) := by decide +kernel
theorem dX1_doTimes_23 : decode cX1_doTimes 23 = .ok (.aload_n 1, 1) := by decide +kernel
theorem dX1_doTimes_24 : decode cX1_doTimes 24 = .ok (.getfield 172, 3) := by decide +kernel
theorem dX1_doTimes_27 : decode cX1_doTimes 27 = .ok (.iload 4, 2) := by decide +kernel
theorem dX1_doTimes_29 : decode cX1_doTimes 29 = .ok (.iload_n 3, 1) := by decide +kernel
theorem dX1_doTimes_30 : decode cX1_doTimes 30 = .ok (.invokevirtual 110, 3) := by decide +kernel
theorem dX1_doTimes_33 : decode cX1_doTimes 33 = .ok (.istore 4, 2) := by decide +kernel
theorem dX1_doTimes_35 : decode cX1_doTimes 35 = .ok (.iinc 5 1, 3) := by decide +kernel
theorem dX1_doTimes_38 : decode cX1_doTimes 38 = .ok (.goto (-32), 3) := by decide +kernel
theorem dX1_doTimes_41 : decode cX1_doTimes 41 = .ok (.iload 4, 2) := by decide +kernel
theorem dX1_doTimes_43 : decode cX1_doTimes 43 = .ok (.ireturn, 1) := by decide +kernel
theorem dX1_doTry_0 : decode cX1_doTry 0 = .ok (.aload_n 0, 1) := by decide +kernel
theorem dX1_doTry_1 : decode cX1_doTry 1 = .ok (.aload_n 1, 1) := by decide +kernel
theorem dX1_doTry_2 : decode cX1_doTry 2 = .ok (.getfield 172, 3) := by decide +kernel
theorem dX1_doTry_5 : decode cX1_doTry 5 = .ok (.iload_n 2, 1) := by decide +kernel
theorem dX1_doTry_6 : decode cX1_doTry 6 = .ok (.iload_n 3, 1) := by decide +kernel
theorem dX1_doTry_7 : decode cX1_doTry 7 = .ok (.invokevirtual 110, 3) := by decide +kernel
theorem dX1_doTry_10 : decode cX1_doTry 10 = .ok (.istore 4, 2) := by decide +kernel
theorem dX1_doTry_12 : decode cX1_doTry 12 = .ok (.aload_n 0, 1) := by decide +kernel
theorem dX1_doTry_13 : decode cX1_doTry 13 = .ok (.getfield 49, 3) := by decide +kernel
theorem dX1_doTry_16 : decode cX1_doTry 16 = .ok (.ifCond .eq 21, 3) := by decide +kernel
theorem dX1_doTry_19 : decode cX1_doTry 19 = .ok (.aload_n 0, 1) := by decide +kernel
theorem dX1_doTry_20 : decode cX1_doTry 20 = .ok (.getfield 49, 3) := by decide +kernel
theorem dX1_doTry_23 : decode cX1_doTry 23 = .ok (.bipush (-8), 2) := by decide +kernel
theorem dX1_doTry_25 : decode cX1_doTry 25 = .ok (.if_icmp .eq 12, 3) := by decide +kernel
theorem dX1_doTry_28 : decode cX1_doTry 28 = .ok (.aload_n 0, 1) := by decide +kernel
theorem dX1_doTry_29 : decode cX1_doTry 29 = .ok (.getfield 49, 3) := by decide +kernel
theorem dX1_doTry_32 : decode cX1_doTry 32 = .ok (.bipush (-9), 2) := by decide +kernel
theorem dX1_doTry_34 : decode cX1_doTry 34 = .ok (.if_icmp .ne 6, 3) := by decide +kernel
theorem dX1_doTry_37 : decode cX1_doTry 37 = .ok (.iload 4, 2) := by decide +kernel
theorem dX1_doTry_39 : decode cX1_doTry 39 = .ok (.ireturn, 1) := by decide +kernel
theorem dX1_doTry_40 : decode cX1_doTry 40 = .ok (.aload_n 0, 1) := by decide +kernel
theorem dX1_doTry_41 : decode cX1_doTry 41 = .ok (.iconst 0, 1) := by decide +kernel
theorem dX1_doTry_42 : decode cX1_doTry 42 = .ok (.putfield 49, 3) := by decide +kernel
theorem dX1_doTry_45 : decode cX1_doTry 45 = .ok (.aload_n 0, 1) := by decide +kernel
theorem dX1_doTry_46 : decode cX1_doTry 46 = .ok (.aload_n 1, 1) := by decide +kernel
theorem dX1_doTry_47 : decode cX1_doTry 47 = .ok (.getfield 168, 3) := by decide +kernel
theorem dX1_doTry_50 : decode cX1_doTry 50 = .ok (.iload_n 2, 1) := by decide +kernel
theorem dX1_doTry_51 : decode cX1_doTry 51 = .ok (.iload_n 3, 1) := by decide +kernel
theorem dX1_doTry_52 : decode cX1_doTry 52 = .ok (.invokevirtual 110, 3) := by decide +kernel
theorem dX1_doTry_55 : decode cX1_doTry 55 = .ok (.ireturn, 1) := by decide +kernel
theorem dX1_doLater_0 : decode cX1_doLater 0 = .ok (.aload_n 0, 1) := by decide +kernel
theorem dX1_doLater_1 : decode cX1_doLater 1 = .ok (.getfield 37, 3) := by decide +kernel
theorem dX1_doLater_4 : decode cX1_doLater 4 = .ok (.bipush 12, 2) := by decide +kernel
theorem dX1_doLater_6 : decode cX1_doLater 6 = .ok (.if_icmp .lt 10, 3) := by decide +kernel
theorem dX1_doLater_9 : decode cX1_doLater 9 = .ok (.aload_n 0, 1) := by decide +kernel
theorem dX1_doLater_10 : decode cX1_doLater 10 = .ok (.bipush (-7), 2) := by decide +kernel
theorem dX1_doLater_12 : decode cX1_doLater 12 = .ok (.invokevirtual 137, 3) := by decide +kernel
theorem dX1_doLater_15 : decode cX1_doLater 15 = .ok (.ireturn, 1) := by decide +kernel
theorem dX1_doLater_16 : decode cX1_doLater 16 = .ok (.aload_n 0, 1) := by decide +kernel
theorem dX1_doLater_17 : decode cX1_doLater 17 = .ok (.getfield 33, 3) := by decide +kernel
theorem dX1_doLater_20 : decode cX1_doLater 20 = .ok (.aload_n 0, 1) := by decide +kernel
theorem dX1_doLater_21 : decode cX1_doLater 21 = .ok (.getfield 37, 3) := by decide +kernel
theorem dX1_doLater_24 : decode cX1_doLater 24 = .ok (.iadd, 1) := by decide +kernel
theorem dX1_doLater_25 : decode cX1_doLater 25 = .ok (.bipush 12, 2) := by decide +kernel
theorem dX1_doLater_27 : decode cX1_doLater 27 = .ok (.irem, 1) := by decide +kernel
theorem dX1_doLater_28 : decode cX1_doLater 28 = .ok (.istore_n 3, 1) := by decide +kernel
theorem dX1_doLater_29 : decode cX1_doLater 29 = .ok (.aload_n 0, 1) := by decide +kernel
theorem dX1_doLater_30 : decode cX1_doLater 30 = .ok (.getfield 27, 3) := by decide +kernel
theorem dX1_doLater_33 : decode cX1_doLater 33 = .ok (.iload_n 3, 1) := by decide +kernel
theorem dX1_doLater_34 : decode cX1_doLater 34 = .ok (.aload_n 1, 1) := by decide +kernel
theorem dX1_doLater_35 : decode cX1_doLater 35 = .ok (.getfield 172, 3) := by decide +kernel
theorem dX1_doLater_38 : decode cX1_doLater 38 = .ok (.aastore, 1) := by decide +kernel
theorem dX1_doLater_39 : decode cX1_doLater 39 = .ok (.aload_n 0, 1) := by decide +kernel
theorem dX1_doLater_40 : decode cX1_doLater 40 = .ok (.getfield 30, 3) := by decide +kernel
theorem dX1_doLater_43 : decode cX1_doLater 43 = .ok (.iload_n 3, 1) := by decide +kernel
theorem dX1_doLater_44 : decode cX1_doLater 44 = .ok (.iload_n 2, 1) := by decide +kernel
theorem dX1_doLater_45 : decode cX1_doLater 45 = .ok (.iastore, 1) := by decide +kernel
theorem dX1_doLater_46 : decode cX1_doLater 46 = .ok (.aload_n 0, 1) := by decide +kernel
theorem dX1_doLater_47 : decode cX1_doLater 47 = .ok (.dup, 1) := by decide +kernel
theorem dX1_doLater_48 : decode cX1_doLater 48 = .ok (.getfield 37, 3) := by decide +kernel
theorem dX1_doLater_51 : decode cX1_doLater 51 = .ok (.iconst 1, 1) := by decide +kernel
theorem dX1_doLater_52 : decode cX1_doLater 52 = .ok (.iadd, 1) := by decide +kernel
theorem dX1_doLater_53 : decode cX1_doLater 53 = .ok (.putfield 37, 3) := by decide +kernel
theorem dX1_doLater_56 : decode cX1_doLater 56 = .ok (.aload_n 0, 1) := by decide +kernel
theorem dX1_doLater_57 : decode cX1_doLater 57 = .ok (.getfield 37, 3) := by decide +kernel
theorem dX1_doLater_60 : decode cX1_doLater 60 = .ok (.ireturn, 1) := by decide +kernel
theorem dX1_doCount_0 : decode cX1_doCount 0 = .ok (.aload_n 0, 1) := by decide +kernel
theorem dX1_doCount_1 : decode cX1_doCount 1 = .ok (.aload_n 1, 1) := by decide +kernel
theorem dX1_doCount_2 : decode cX1_doCount 2 = .ok (.getfield 172, 3) := by decide +kernel
theorem dX1_doCount_5 : decode cX1_doCount 5 = .ok (.iload_n 2, 1) := by decide +kernel
theorem dX1_doCount_6 : decode cX1_doCount 6 = .ok (.iload_n 3, 1) := by decide +kernel
theorem dX1_doCount_7 : decode cX1_doCount 7 = .ok (.invokevirtual 110, 3) := by decide +kernel
theorem dX1_doCount_10 : decode cX1_doCount 10 = .ok (.pop, 1) := by decide +kernel
theorem dX1_doCount_11 : decode cX1_doCount 11 = .ok (.aload_n 0, 1) := by decide +kernel
theorem dX1_doCount_12 : decode cX1_doCount 12 = .ok (.getfield 49, 3) := by decide +kernel
theorem dX1_doCount_15 : decode cX1_doCount 15 = .ok (.ifCond .eq 5, 3) := by decide +kernel
theorem dX1_doCount_18 : decode cX1_doCount 18 = .ok (.iconst 0, 1) := by decide +kernel
theorem dX1_doCount_19 : decode cX1_doCount 19 = .ok (.ireturn, 1) := by decide +kernel
theorem dX1_doCount_20 : decode cX1_doCount 20 = .ok (.aload_n 1, 1) := by decide +kernel
theorem dX1_doCount_21 : decode cX1_doCount 21 = .ok (.dup, 1) := by decide +kernel
theorem dX1_doCount_22 : decode cX1_doCount 22 = .ok (.getfield 101, 3) := by decide +kernel
theorem dX1_doCount_25 : decode cX1_doCount 25 = .ok (.iconst 1, 1) := by decide +kernel
theorem dX1_doCount_26 : decode cX1_doCount 26 = .ok (.iadd, 1) := by decide +kernel
theorem dX1_doCount_27 : decode cX1_doCount 27 = .ok (.putfield 101, 3) := by decide +kernel
theorem dX1_doCount_30 : decode cX1_doCount 30 = .ok (.aload_n 1, 1) := by decide +kernel
theorem dX1_doCount_31 : decode cX1_doCount 31 = .ok (.getfield 101, 3) := by decide +kernel
theorem dX1_doCount_34 : decode cX1_doCount 34 = .ok (.ireturn, 1) := by decide +kernel
theorem dX1_doPlaces_0 : decode cX1_doPlaces 0 = .ok (.iload_n 2, 1) := by decide +kernel
theorem dX1_doPlaces_1 : decode cX1_doPlaces 1 = .ok (.istore 4, 2) := by decide +kernel
theorem dX1_doPlaces_3 : decode cX1_doPlaces 3 = .ok (.iconst 0, 1) := by decide +kernel
theorem dX1_doPlaces_4 : decode cX1_doPlaces 4 = .ok (.istore 5, 2) := by decide +kernel
theorem dX1_doPlaces_6 : decode cX1_doPlaces 6 = .ok (.iload 5, 2) := by decide +kernel
theorem dX1_doPlaces_8 : decode cX1_doPlaces 8 = .ok (.iconst 4, 1) := by decide +kernel
theorem dX1_doPlaces_9 : decode cX1_doPlaces 9 = .ok (.if_icmp .ge 32, 3) := by decide +kernel
theorem dX1_doPlaces_12 : decode cX1_doPlaces 12 = .ok (.aload_n 0, 1) := by decide +kernel
theorem dX1_doPlaces_13 : decode cX1_doPlaces 13 = .ok (.getfield 49, 3) := by decide +kernel
theorem dX1_doPlaces_16 : decode cX1_doPlaces 16 = .ok (.ifCond .ne 25, 3) := by decide +kernel
theorem dX1_doPlaces_19 : decode cX1_doPlaces 19 = .ok (.aload_n 0, 1) := by decide +kernel
theorem dX1_doPlaces_20 : decode cX1_doPlaces 20 = .ok (.aload_n 0, 1) := by decide +kernel
theorem dX1_doPlaces_21 : decode cX1_doPlaces 21 = .ok (.iload_n 1, 1) := by decide +kernel
theorem dX1_doPlaces_22 : decode cX1_doPlaces 22 = .ok (.iload 5, 2) := by decide +kernel
theorem dX1_doPlaces_24 : decode cX1_doPlaces 24 = .ok (.invokevirtual 193, 3) := by decide +kernel
theorem dX1_doPlaces_27 : decode cX1_doPlaces 27 = .ok (.iload 4, 2) := by decide +kernel
theorem dX1_doPlaces_29 : decode cX1_doPlaces 29 = .ok (.iload_n 3, 1) := by decide +kernel
theorem dX1_doPlaces_30 : decode cX1_doPlaces 30 = .ok (.invokevirtual 110, 3) := by decide +kernel
theorem dX1_doPlaces_33 : decode cX1_doPlaces 33 = .ok (.istore 4, 2) := by decide +kernel
theorem dX1_doPlaces_35 : decode cX1_doPlaces 35 = .ok (.iinc 5 1, 3) := by decide +kernel
theorem dX1_doPlaces_38 : decode cX1_doPlaces 38 = .ok (.goto (-32), 3) := by decide +kernel
theorem dX1_doPlaces_41 : decode cX1_doPlaces 41 = .ok (.iload 4, 2) := by decide +kernel
theorem dX1_doPlaces_43 : decode cX1_doPlaces 43 = .ok (.ireturn, 1) := by decide +kernel
end
section
theorem dX2_init_0 : decode cX2_init 0 = .ok (.aload_n 0, 1) := by decide +kernel
theorem dX2_init_1 : decode cX2_init 1 = .ok (.invokespecial 1, 3) := by decide +kernel
theorem dX2_init_4 : decode cX2_init 4 = .ok (.aload_n 0, 1) := by decide +kernel
theorem dX2_init_5 : decode cX2_init 5 = .ok (.bipush 10, 2) := by decide +kernel
theorem dX2_init_7 : decode cX2_init 7 = .ok (.newarray .int, 2) := by decide +kernel
theorem dX2_init_9 : decode cX2_init 9 = .ok (.putfield 7, 3) := by decide +kernel
theorem dX2_init_12 : decode cX2_init 12 = .ok (.aload_n 0, 1) := by decide +kernel
theorem dX2_init_13 : decode cX2_init 13 = .ok (.sipush 600, 3) := by decide +kernel
theorem dX2_init_16 : decode cX2_init 16 = .ok (.newarray .int, 2) := by decide +kernel
theorem dX2_init_18 : decode cX2_init 18 = .ok (.putfield 13, 3) := by decide +kernel
theorem dX2_init_21 : decode cX2_init 21 = .ok (.aload_n 0, 1) := by decide +kernel
theorem dX2_init_22 : decode cX2_init 22 = .ok (.sipush 3600, 3) := by decide +kernel
theorem dX2_init_25 : decode cX2_init 25 = .ok (.newarray .int, 2) := by decide +kernel
theorem dX2_init_27 : decode cX2_init 27 = .ok (.putfield 16, 3) := by decide +kernel
theorem dX2_init_30 : decode cX2_init 30 = .ok (.aload_n 0, 1) := by decide +kernel
theorem dX2_init_31 : decode cX2_init 31 = .ok (.iconst 3, 1) := by decide +kernel
theorem dX2_init_32 : decode cX2_init 32 = .ok (.newarray .int, 2) := by decide +kernel
theorem dX2_init_34 : decode cX2_init 34 = .ok (.putfield 19, 3) := by decide +kernel
theorem dX2_init_37 : decode cX2_init 37 = .ok (.aload_n 0, 1) := by decide +kernel
theorem dX2_init_38 : decode cX2_init 38 = .ok (.sipush 600, 3) := by decide +kernel
theorem dX2_init_41 : decode cX2_init 41 = .ok (.newarray .int, 2) := by decide +kernel
theorem dX2_init_43 : decode cX2_init 43 = .ok (.putfield 22, 3) := by decide +kernel
theorem dX2_init_46 : decode cX2_init 46 = .ok (.aload_n 0, 1) := by decide +kernel
theorem dX2_init_47 : decode cX2_init 47 = .ok (.sipush 600, 3) := by decide +kernel
theorem dX2_init_50 : decode cX2_init 50 = .ok (.newarray .int, 2) := by decide +kernel
theorem dX2_init_52 : decode cX2_init 52 = .ok (.putfield 25, 3) := by decide +kernel
theorem dX2_init_55 : decode cX2_init 55 = .ok (.aload_n 0, 1) := by decide +kernel
theorem dX2_init_56 : decode cX2_init 56 = .ok (.sipush 600, 3) := by decide +kernel
theorem dX2_init_59 : decode cX2_init 59 = .ok (.newarray .int, 2) := by decide +kernel
theorem dX2_init_61 : decode cX2_init 61 = .ok (.putfield 28, 3) := by decide +kernel
theorem dX2_init_64 : decode cX2_init 64 = .ok (.aload_n 0, 1) := by decide +kernel
theorem dX2_init_65 : decode cX2_init 65 = .ok (.sipush 600, 3) := by decide +kernel
theorem dX2_init_68 : decode cX2_init 68 = .ok (.newarray .int, 2) := by decide +kernel
theorem dX2_init_70 : decode cX2_init 70 = .ok (.putfield 31, 3) := by decide +kernel
theorem dX2_init_73 : decode cX2_init 73 = .ok (.aload_n 0, 1) := by decide +kernel
theorem dX2_init_74 : decode cX2_init 74 = .ok (.sipush 600, 3) := by decide +kernel
theorem dX2_init_77 : decode cX2_init 77 = .ok (.newarray .int, 2) := by decide +kernel
theorem dX2_init_79 : decode cX2_init 79 = .ok (.putfield 34, 3) := by decide +kernel
theorem dX2_init_82 : decode cX2_init 82 = .ok (.aload_n 0, 1) := by decide +kernel
theorem dX2_init_83 : decode cX2_init 83 = .ok (.bipush 20, 2) := by decide +kernel
theorem dX2_init_85 : decode cX2_init 85 = .ok (.newarray .int, 2) := by decide +kernel
theorem dX2_init_87 : decode cX2_init 87 = .ok (.putfield 37, 3) := by decide +kernel
theorem dX2_init_90 : decode cX2_init 90 = .ok (.aload_n 0, 1) := by decide +kernel
theorem dX2_init_91 : decode cX2_init 91 = .ok (.bipush 20, 2) := by decide +kernel
theorem dX2_init_93 : decode cX2_init 93 = .ok (.newarray .int, 2) := by decide +kernel
theorem dX2_init_95 : decode cX2_init 95 = .ok (.putfield 40, 3) := by decide +kernel
theorem dX2_init_98 : decode cX2_init 98 = .ok (.aload_n 0, 1) := by decide +kernel
theorem dX2_init_99 : decode cX2_init 99 = .ok (.bipush 12, 2) := by decide +kernel
theorem dX2_init_101 : decode cX2_init 101 = .ok (.newarray .int, 2) := by decide +kernel
theorem dX2_init_103 : decode cX2_init 103 = .ok (.putfield 43, 3) := by decide +kernel
theorem dX2_init_106 : decode cX2_init 106 = .ok (.aload_n 0, 1) := by decide +kernel
theorem dX2_init_107 : decode cX2_init 107 = .ok (.bipush 12, 2) := by decide +kernel
theorem dX2_init_109 : decode cX2_init 109 = .ok (.newarray .int, 2) := by decide +kernel
theorem dX2_init_111 : decode cX2_init 111 = .ok (.putfield 46, 3) := by decide +kernel
theorem dX2_init_114 : decode cX2_init 114 = .ok (.aload_n 0, 1) := by decide +kernel
theorem dX2_init_115 : decode cX2_init 115 = .ok (.bipush 16, 2) := by decide +kernel
theorem dX2_init_117 : decode cX2_init 117 = .ok (.newarray .int, 2) := by decide +kernel
theorem dX2_init_119 : decode cX2_init 119 = .ok (.putfield 49, 3) := by decide +kernel
theorem dX2_init_122 : decode cX2_init 122 = .ok (.aload_n 0, 1) := by decide +kernel
theorem dX2_init_123 : decode cX2_init 123 = .ok (.bipush 16, 2) := by decide +kernel
theorem dX2_init_125 : decode cX2_init 125 = .ok (.newarray .int, 2) := by decide +kernel
theorem dX2_init_127 : decode cX2_init 127 = .ok (.putfield 52, 3) := by decide +kernel
theorem dX2_init_130 : decode cX2_init 130 = .ok (.aload_n 0, 1) := by decide +kernel
theorem dX2_init_131 : decode cX2_init 131 = .ok (.bipush 16, 2) := by decide +kernel
theorem dX2_init_133 : decode cX2_init 133 = .ok (.newarray .int, 2) := by decide +kernel
theorem dX2_init_135 : decode cX2_init 135 = .ok (.putfield 55, 3) := by decide +kernel
theorem dX2_init_138 : decode cX2_init 138 = .ok (.aload_n 0, 1) := by decide +kernel
theorem dX2_init_139 : decode cX2_init 139 = .ok (.bipush 16, 2) := by decide +kernel
theorem dX2_init_141 : decode cX2_init 141 = .ok (.newarray .int, 2) := by decide +kernel
theorem dX2_init_143 : decode cX2_init 143 = .ok (.putfield 58, 3) := by decide +kernel
theorem dX2_init_146 : decode cX2_init 146 = .ok (.aload_n 0, 1) := by decide +kernel
theorem dX2_init_147 : decode cX2_init 147 = .ok (.invokevirtual 61, 3) := by decide +kernel
theorem dX2_init_150 : decode cX2_init 150 = .ok (.return_, 1) := by decide +kernel
theorem dX2_reset_0 : decode cX2_reset 0 = .ok (.iconst 0, 1) := by decide +kernel
theorem dX2_reset_1 : decode cX2_reset 1 = .ok (.istore_n 1, 1) := by decide +kernel
theorem dX2_reset_2 : decode cX2_reset 2 = .ok (.iload_n 1, 1) := by decide +kernel
theorem dX2_reset_3 : decode cX2_reset 3 = .ok (.bipush 10, 2) := by decide +kernel
theorem dX2_reset_5 : decode cX2_reset 5 = .ok (.if_icmp .ge 16, 3) := by decide +kernel
theorem dX2_reset_8 : decode cX2_reset 8 = .ok (.aload_n 0, 1) := by decide +kernel
theorem dX2_reset_9 : decode cX2_reset 9 = .ok (.getfield 7, 3) := by decide +kernel
theorem dX2_reset_12 : decode cX2_reset 12 = .ok (.iload_n 1, 1) := by decide +kernel
theorem dX2_reset_13 : decode cX2_reset 13 = .ok (.iconst 0, 1) := by decide +kernel
theorem dX2_reset_14 : decode cX2_reset 14 = .ok (.iastore, 1) := by decide +kernel
theorem dX2_reset_15 : decode cX2_reset 15 = .ok (.iinc 1 1, 3) := by decide +kernel
theorem dX2_reset_18 : decode cX2_reset 18 = .ok (.goto (-16), 3) := by decide +kernel
theorem dX2_reset_21 : decode cX2_reset 21 = .ok (.aload_n 0, 1) := by decide +kernel
theorem dX2_reset_22 : decode cX2_reset 22 = .ok (.iconst 1, 1) := by decide +kernel
theorem dX2_reset_23 : decode cX2_reset 23 = .ok (.putfield 64, 3) := by decide +kernel
theorem dX2_reset_26 : decode cX2_reset 26 = .ok (.aload_n 0, 1) := by decide +kernel
theorem dX2_reset_27 : decode cX2_reset 27 = .ok (.getfield 13, 3) := by decide +kernel
theorem dX2_reset_30 : decode cX2_reset 30 = .ok (.iconst 0, 1) := by decide +kernel
theorem dX2_reset_31 : decode cX2_reset 31 = .ok (.iconst 0, 1) := by decide +kernel
theorem dX2_reset_32 : decode cX2_reset 32 = .ok (.iastore, 1) := by decide +kernel
theorem dX2_reset_33 : decode cX2_reset 33 = .ok (.iconst 0, 1) := by decide +kernel
theorem dX2_reset_34 : decode cX2_reset 34 = .ok (.istore_n 1, 1) := by decide +kernel
theorem dX2_reset_35 : decode cX2_reset 35 = .ok (.iload_n 1, 1) := by decide +kernel
theorem dX2_reset_36 : decode cX2_reset 36 = .ok (.iconst 3, 1) := by decide +kernel
theorem dX2_reset_37 : decode cX2_reset 37 = .ok (.if_icmp .ge 16, 3) := by decide +kernel
theorem dX2_reset_40 : decode cX2_reset 40 = .ok (.aload_n 0, 1) := by decide +kernel
theorem dX2_reset_41 : decode cX2_reset 41 = .ok (.getfield 19, 3) := by decide +kernel
theorem dX2_reset_44 : decode cX2_reset 44 = .ok (.iload_n 1, 1) := by decide +kernel
theorem dX2_reset_45 : decode cX2_reset 45 = .ok (.iconst 0, 1) := by decide +kernel
theorem dX2_reset_46 : decode cX2_reset 46 = .ok (.iastore, 1) := by decide +kernel
theorem dX2_reset_47 : decode cX2_reset 47 = .ok (.iinc 1 1, 3) := by decide +kernel
theorem dX2_reset_50 : decode cX2_reset 50 = .ok (.goto (-15), 3) := by decide +kernel
theorem dX2_reset_53 : decode cX2_reset 53 = .ok (.aload_n 0, 1) := by decide +kernel
theorem dX2_reset_54 : decode cX2_reset 54 = .ok (.iconst 0, 1) := by decide +kernel
theorem dX2_reset_55 : decode cX2_reset 55 = .ok (.putfield 68, 3) := by decide +kernel
theorem dX2_reset_58 : decode cX2_reset 58 = .ok (.iconst 0, 1) := by decide +kernel
theorem dX2_reset_59 : decode cX2_reset 59 = .ok (.istore_n 1, 1) := by decide +kernel
theorem dX2_reset_60 : decode cX2_reset 60 = .ok (.iload_n 1, 1) := by decide +kernel
theorem dX2_reset_61 : decode cX2_reset 61 = .ok (.bipush 20, 2) := by decide +kernel
theorem dX2_reset_63 : decode cX2_reset 63 = .ok (.if_icmp .ge 25, 3) := by decide +kernel
theorem dX2_reset_66 : decode cX2_reset 66 = .ok (.aload_n 0, 1) := by decide +kernel
theorem dX2_reset_67 : decode cX2_reset 67 = .ok (.getfield 37, 3) := by decide +kernel
theorem dX2_reset_70 : decode cX2_reset 70 = .ok (.iload_n 1, 1) := by decide +kernel
theorem dX2_reset_71 : decode cX2_reset 71 = .ok (.bipush (-2), 2) := by decide +kernel
theorem dX2_reset_73 : decode cX2_reset 73 = .ok (.iastore, 1) := by decide +kernel
theorem dX2_reset_74 : decode cX2_reset 74 = .ok (.aload_n 0, 1) := by decide +kernel
theorem dX2_reset_75 : decode cX2_reset 75 = .ok (.getfield 40, 3) := by decide +kernel
theorem dX2_reset_78 : decode cX2_reset 78 = .ok (.iload_n 1, 1) := by decide +kernel
theorem dX2_reset_79 : decode cX2_reset 79 = .ok (.bipush (-2), 2) := by decide +kernel
theorem dX2_reset_81 : decode cX2_reset 81 = .ok (.iastore, 1) := by decide +kernel
theorem dX2_reset_82 : decode cX2_reset 82 = .ok (.iinc 1 1, 3) := by decide +kernel
theorem dX2_reset_85 : decode cX2_reset 85 = .ok (.goto (-25), 3) := by decide +kernel
theorem dX2_reset_88 : decode cX2_reset 88 = .ok (.aload_n 0, 1) := by decide +kernel
theorem dX2_reset_89 : decode cX2_reset 89 = .ok (.iconst 0, 1) := by decide +kernel
theorem dX2_reset_90 : decode cX2_reset 90 = .ok (.putfield 71, 3) := by decide +kernel
theorem dX2_reset_93 : decode cX2_reset 93 = .ok (.aload_n 0, 1) := by decide +kernel
theorem dX2_reset_94 : decode cX2_reset 94 = .ok (.iconst 0, 1) := by decide +kernel
theorem dX2_reset_95 : decode cX2_reset 95 = .ok (.putfield 74, 3) := by decide +kernel
theorem dX2_reset_98 : decode cX2_reset 98 = .ok (.aload_n 0, 1) := by decide +kernel
theorem dX2_reset_99 : decode cX2_reset 99 = .ok (.iconst 0, 1) := by decide +kernel
theorem dX2_reset_100 : decode cX2_reset 100 = .ok (.putfield 77, 3) := by decide +kernel
theorem dX2_reset_103 : decode cX2_reset 103 = .ok (.aload_n 0, 1) := by decide +kernel
theorem dX2_reset_104 : decode cX2_reset 104 = .ok (.iconst 0, 1) := by decide +kernel
theorem dX2_reset_105 : decode cX2_reset 105 = .ok (.putfield 80, 3) := by decide +kernel
theorem dX2_reset_108 : decode cX2_reset 108 = .ok (.return_, 1) := by decide +kernel
theorem dX2_isIn_0 : decode cX2_isIn 0 = .ok (.iload_n 0, 1) := by decide +kernel
theorem dX2_isIn_1 : decode cX2_isIn 1 = .ok (.iload_n 1, 1) := by decide +kernel
theorem dX2_isIn_2 : decode cX2_isIn 2 = .ok (.if_icmp .lt 12, 3) := by decide +kernel
theorem dX2_isIn_5 : decode cX2_isIn 5 = .ok (.iload_n 0, 1) := by decide +kernel
theorem dX2_isIn_6 : decode cX2_isIn 6 = .ok (.iload_n 2, 1) := by decide +kernel
theorem dX2_isIn_7 : decode cX2_isIn 7 = .ok (.if_icmp .gt 7, 3) := by decide +kernel
theorem dX2_isIn_10 : decode cX2_isIn 10 = .ok (.iconst 1, 1) := by decide +kernel
theorem dX2_isIn_11 : decode cX2_isIn 11 = .ok (.goto 4, 3) := by decide +kernel
theorem dX2_isIn_14 : decode cX2_isIn 14 = .ok (.iconst 0, 1) := by decide +kernel
theorem dX2_isIn_15 : decode cX2_isIn 15 = .ok (.ireturn, 1) := by decide +kernel
theorem dX2_isBasin_0 : decode cX2_isBasin 0 = .ok (.iload_n 0, 1) := by decide +kernel
theorem dX2_isBasin_1 : decode cX2_isBasin 1 = .ok (.iconst 0, 1) := by decide +kernel
theorem dX2_isBasin_2 : decode cX2_isBasin 2 = .ok (.bipush 9, 2) := by decide +kernel
theorem dX2_isBasin_4 : decode cX2_isBasin 4 = .ok (.invokestatic 83, 3) := by decide +kernel
theorem dX2_isBasin_7 : decode cX2_isBasin 7 = .ok (.ireturn, 1) := by decide +kernel
theorem dX2_isSlot_0 : decode cX2_isSlot 0 = .ok (.iload_n 0, 1) := by decide +kernel
theorem dX2_isSlot_1 : decode cX2_isSlot 1 = .ok (.iconst 0, 1) := by decide +kernel
theorem dX2_isSlot_2 : decode cX2_isSlot 2 = .ok (.bipush 19, 2) := by decide +kernel
theorem dX2_isSlot_4 : decode cX2_isSlot 4 = .ok (.invokestatic 83, 3) := by decide +kernel
theorem dX2_isSlot_7 : decode cX2_isSlot 7 = .ok (.ireturn, 1) := by decide +kernel
theorem dX2_fill_0 : decode cX2_fill 0 = .ok (.iload_n 1, 1) := by decide +kernel
theorem dX2_fill_1 : decode cX2_fill 1 = .ok (.invokestatic 87, 3) := by decide +kernel
theorem dX2_fill_4 : decode cX2_fill 4 = .ok (.ifCond .ne 5, 3) := by decide +kernel
theorem dX2_fill_7 : decode cX2_fill 7 = .ok (.iconst 0, 1) := by decide +kernel
theorem dX2_fill_8 : decode cX2_fill 8 = .ok (.ireturn, 1) := by decide +kernel
theorem dX2_fill_9 : decode cX2_fill 9 = .ok (.aload_n 0, 1) := by decide +kernel
theorem dX2_fill_10 : decode cX2_fill 10 = .ok (.getfield 7, 3) := by decide +kernel
theorem dX2_fill_13 : decode cX2_fill 13 = .ok (.iload_n 1, 1) := by decide +kernel
theorem dX2_fill_14 : decode cX2_fill 14 = .ok (.iaload, 1) := by decide +kernel
theorem dX2_fill_15 : decode cX2_fill 15 = .ok (.istore_n 3, 1) := by decide +kernel
theorem dX2_fill_16 : decode cX2_fill 16 = .ok (.aload_n 0, 1) := by decide +kernel
theorem dX2_fill_17 : decode cX2_fill 17 = .ok (.getfield 7, 3) := by decide +kernel
theorem dX2_fill_20 : decode cX2_fill 20 = .ok (.iload_n 1, 1) := by decide +kernel
theorem dX2_fill_21 : decode cX2_fill 21 = .ok (.iload_n 2, 1) := by decide +kernel
theorem dX2_fill_22 : decode cX2_fill 22 = .ok (.iastore, 1) := by decide +kernel
theorem dX2_fill_23 : decode cX2_fill 23 = .ok (.iload_n 3, 1) := by decide +kernel
theorem dX2_fill_24 : decode cX2_fill 24 = .ok (.ireturn, 1) := by decide +kernel
theorem dX2_basin_0 : decode cX2_basin 0 = .ok (.iload_n 1, 1) := by decide +kernel
theorem dX2_basin_1 : decode cX2_basin 1 = .ok (.invokestatic 87, 3) := by decide +kernel
theorem dX2_basin_4 : decode cX2_basin 4 = .ok (.ifCond .eq 12, 3) := by decide +kernel
theorem dX2_basin_7 : decode cX2_basin 7 = .ok (.aload_n 0, 1) := by decide +kernel
theorem dX2_basin_8 : decode cX2_basin 8 = .ok (.getfield 7, 3) := by decide +kernel
theorem dX2_basin_11 : decode cX2_basin 11 = .ok (.iload_n 1, 1) := by decide +kernel
theorem dX2_basin_12 : decode cX2_basin 12 = .ok (.iaload, 1) := by decide +kernel
theorem dX2_basin_13 : decode cX2_basin 13 = .ok (.goto 4, 3) := by decide +kernel
theorem dX2_basin_16 : decode cX2_basin 16 = .ok (.iconst 0, 1) := by decide +kernel
theorem dX2_basin_17 : decode cX2_basin 17 = .ok (.ireturn, 1) := by decide +kernel
theorem dX2_gauge_0 : decode cX2_gauge 0 = .ok (.iload_n 1, 1) := by decide +kernel
theorem dX2_gauge_1 : decode cX2_gauge 1 = .ok (.iconst 0, 1) := by decide +kernel
theorem dX2_gauge_2 : decode cX2_gauge 2 = .ok (.iconst 2, 1) := by decide +kernel
theorem dX2_gauge_3 : decode cX2_gauge 3 = .ok (.invokestatic 83, 3) := by decide +kernel
theorem dX2_gauge_6 : decode cX2_gauge 6 = .ok (.ifCond .eq 13, 3) := by decide +kernel
theorem dX2_gauge_9 : decode cX2_gauge 9 = .ok (.iload_n 2, 1) := by decide +kernel
theorem dX2_gauge_10 : decode cX2_gauge 10 = .ok (.iconst 0, 1) := by decide +kernel
theorem dX2_gauge_11 : decode cX2_gauge 11 = .ok (.bipush 6, 2) := by decide +kernel
theorem dX2_gauge_13 : decode cX2_gauge 13 = .ok (.invokestatic 83, 3) := by decide +kernel
theorem dX2_gauge_16 : decode cX2_gauge 16 = .ok (.ifCond .ne 5, 3) := by decide +kernel
theorem dX2_gauge_19 : decode cX2_gauge 19 = .ok (.iconst (-1), 1) := by decide +kernel
theorem dX2_gauge_20 : decode cX2_gauge 20 = .ok (.ireturn, 1) := by decide +kernel
theorem dX2_gauge_21 : decode cX2_gauge 21 = .ok (.aload_n 0, 1) := by decide +kernel
theorem dX2_gauge_22 : decode cX2_gauge 22 = .ok (.getfield 13, 3) := by decide +kernel
theorem dX2_gauge_25 : decode cX2_gauge 25 = .ok (.aload_n 0, 1) := by decide +kernel
theorem dX2_gauge_26 : decode cX2_gauge 26 = .ok (.getfield 64, 3) := by decide +kernel
theorem dX2_gauge_29 : decode cX2_gauge 29 = .ok (.iload_n 2, 1) := by decide +kernel
theorem dX2_gauge_30 : decode cX2_gauge 30 = .ok (.iastore, 1) := by decide +kernel
theorem dX2_gauge_31 : decode cX2_gauge 31 = .ok (.iconst 0, 1) := by decide +kernel
theorem dX2_gauge_32 : decode cX2_gauge 32 = .ok (.istore_n 3, 1) := by decide +kernel
theorem dX2_gauge_33 : decode cX2_gauge 33 = .ok (.iload_n 3, 1) := by decide +kernel
theorem dX2_gauge_34 : decode cX2_gauge 34 = .ok (.bipush 6, 2) := by decide +kernel
theorem dX2_gauge_36 : decode cX2_gauge 36 = .ok (.if_icmp .ge 24, 3) := by decide +kernel
theorem dX2_gauge_39 : decode cX2_gauge 39 = .ok (.aload_n 0, 1) := by decide +kernel
theorem dX2_gauge_40 : decode cX2_gauge 40 = .ok (.getfield 16, 3) := by decide +kernel
theorem dX2_gauge_43 : decode cX2_gauge 43 = .ok (.bipush 6, 2) := by decide +kernel
theorem dX2_gauge_45 : decode cX2_gauge 45 = .ok (.aload_n 0, 1) := by decide +kernel
theorem dX2_gauge_46 : decode cX2_gauge 46 = .ok (.getfield 64, 3) := by decide +kernel
theorem dX2_gauge_49 : decode cX2_gauge 49 = .ok (.imul, 1) := by decide +kernel
theorem dX2_gauge_50 : decode cX2_gauge 50 = .ok (.iload_n 3, 1) := by decide +kernel
theorem dX2_gauge_51 : decode cX2_gauge 51 = .ok (.iadd, 1) := by decide +kernel
theorem dX2_gauge_52 : decode cX2_gauge 52 = .ok (.iconst 0, 1) := by decide +kernel
theorem dX2_gauge_53 : decode cX2_gauge 53 = .ok (.iastore, 1) := by decide +kernel
theorem dX2_gauge_54 : decode cX2_gauge 54 = .ok (.iinc 3 1, 3) := by decide +kernel
theorem dX2_gauge_57 : decode cX2_gauge 57 = .ok (.goto (-24), 3) := by decide +kernel
theorem dX2_gauge_60 : decode cX2_gauge 60 = .ok (.aload_n 0, 1) := by decide +kernel
theorem dX2_gauge_61 : decode cX2_gauge 61 = .ok (.getfield 19, 3) := by decide +kernel
theorem dX2_gauge_64 : decode cX2_gauge 64 = .ok (.iload_n 1, 1) := by decide +kernel
theorem dX2_gauge_65 : decode cX2_gauge 65 = .ok (.aload_n 0, 1) := by decide +kernel
theorem dX2_gauge_66 : decode cX2_gauge 66 = .ok (.getfield 64, 3) := by decide +kernel
theorem dX2_gauge_69 : decode cX2_gauge 69 = .ok (.iastore, 1) := by decide +kernel
theorem dX2_gauge_70 : decode cX2_gauge 70 = .ok (.aload_n 0, 1) := by decide +kernel
theorem dX2_gauge_71 : decode cX2_gauge 71 = .ok (.dup, 1) := by decide +kernel
theorem dX2_gauge_72 : decode cX2_gauge 72 = .ok (.getfield 64, 3) := by decide +kernel
theorem dX2_gauge_75 : decode cX2_gauge 75 = .ok (.iconst 1, 1) := by decide +kernel
theorem dX2_gauge_76 : decode cX2_gauge 76 = .ok (.iadd, 1) := by decide +kernel
theorem dX2_gauge_77 : decode cX2_gauge 77 = .ok (.putfield 64, 3) := by decide +kernel
theorem dX2_gauge_80 : decode cX2_gauge 80 = .ok (.iconst 1, 1) := by decide +kernel
theorem dX2_gauge_81 : decode cX2_gauge 81 = .ok (.ireturn, 1) := by decide +kernel
theorem dX2_mark_0 : decode cX2_mark 0 = .ok (.iload_n 1, 1) := by decide +kernel
theorem dX2_mark_1 : decode cX2_mark 1 = .ok (.iconst 0, 1) := by decide +kernel
theorem dX2_mark_2 : decode cX2_mark 2 = .ok (.iconst 2, 1) := by decide +kernel
theorem dX2_mark_3 : decode cX2_mark 3 = .ok (.invokestatic 83, 3) := by decide +kernel
theorem dX2_mark_6 : decode cX2_mark 6 = .ok (.ifCond .eq 43, 3) := by decide +kernel
theorem dX2_mark_9 : decode cX2_mark 9 = .ok (.iload_n 2, 1) := by decide +kernel
theorem dX2_mark_10 : decode cX2_mark 10 = .ok (.iconst 0, 1) := by decide +kernel
theorem dX2_mark_11 : decode cX2_mark 11 = .ok (.aload_n 0, 1) := by decide +kernel
theorem dX2_mark_12 : decode cX2_mark 12 = .ok (.getfield 13, 3) := by decide +kernel
theorem dX2_mark_15 : decode cX2_mark 15 = .ok (.aload_n 0, 1) := by decide +kernel
theorem dX2_mark_16 : decode cX2_mark 16 = .ok (.getfield 19, 3) := by decide +kernel
theorem dX2_mark_19 : decode cX2_mark 19 = .ok (.iload_n 1, 1) := by decide +kernel
theorem dX2_mark_20 : decode cX2_mark 20 = .ok (.iaload, 1) := by decide +kernel
theorem dX2_mark_21 : decode cX2_mark 21 = .ok (.iaload, 1) := by decide +kernel
theorem dX2_mark_22 : decode cX2_mark 22 = .ok (.iconst 1, 1) := by decide +kernel
theorem dX2_mark_23 : decode cX2_mark 23 = .ok (.isub, 1) := by decide +kernel
theorem dX2_mark_24 : decode cX2_mark 24 = .ok (.invokestatic 83, 3) := by decide +kernel
theorem dX2_mark_27 : decode cX2_mark 27 = .ok (.ifCond .eq 22, 3) := by decide +kernel
theorem dX2_mark_30 : decode cX2_mark 30 = .ok (.aload_n 0, 1) := by decide +kernel
theorem dX2_mark_31 : decode cX2_mark 31 = .ok (.getfield 16, 3) := by decide +kernel
theorem dX2_mark_34 : decode cX2_mark 34 = .ok (.bipush 6, 2) := by decide +kernel
theorem dX2_mark_36 : decode cX2_mark 36 = .ok (.aload_n 0, 1) := by decide +kernel
theorem dX2_mark_37 : decode cX2_mark 37 = .ok (.getfield 19, 3) := by decide +kernel
theorem dX2_mark_40 : decode cX2_mark 40 = .ok (.iload_n 1, 1) := by decide +kernel
theorem dX2_mark_41 : decode cX2_mark 41 = .ok (.iaload, 1) := by decide +kernel
theorem dX2_mark_42 : decode cX2_mark 42 = .ok (.imul, 1) := by decide +kernel
theorem dX2_mark_43 : decode cX2_mark 43 = .ok (.iload_n 2, 1) := by decide +kernel
theorem dX2_mark_44 : decode cX2_mark 44 = .ok (.iadd, 1) := by decide +kernel
theorem dX2_mark_45 : decode cX2_mark 45 = .ok (.iaload, 1) := by decide +kernel
theorem dX2_mark_46 : decode cX2_mark 46 = .ok (.goto 4, 3) := by decide +kernel
theorem dX2_mark_49 : decode cX2_mark 49 = .ok (.iconst 0, 1) := by decide +kernel
theorem dX2_mark_50 : decode cX2_mark 50 = .ok (.ireturn, 1) := by decide +kernel
theorem dX2_isRight_0 : decode cX2_isRight 0 = .ok (.iload_n 0, 1) := by decide +kernel
theorem dX2_isRight_1 : decode cX2_isRight 1 = .ok (.tableswitch 184 1 14 #[71, 71, 76, 96, 184, 71, 103, 123, 150, 103, 172, 172, 177, 172], 71) := by decide +kernel
theorem dX2_isRight_72 : decode cX2_isRight 72 = .ok (.iload_n 1, 1) := by decide +kernel
theorem dX2_isRight_73 : decode cX2_isRight 73 = .ok (.invokestatic 87, 3) := by decide +kernel
theorem dX2_isRight_76 : decode cX2_isRight 76 = .ok (.ireturn, 1) := by decide +kernel
theorem dX2_isRight_77 : decode cX2_isRight 77 = .ok (.iload_n 1, 1) := by decide +kernel
theorem dX2_isRight_78 : decode cX2_isRight 78 = .ok (.invokestatic 87, 3) := by decide +kernel
theorem dX2_isRight_81 : decode cX2_isRight 81 = .ok (.ifCond .eq 14, 3) := by decide +kernel
theorem dX2_isRight_84 : decode cX2_isRight 84 = .ok (.iload_n 2, 1) := by decide +kernel
theorem dX2_isRight_85 : decode cX2_isRight 85 = .ok (.invokestatic 87, 3) := by decide +kernel
theorem dX2_isRight_88 : decode cX2_isRight 88 = .ok (.ifCond .eq 7, 3) := by decide +kernel
theorem dX2_isRight_91 : decode cX2_isRight 91 = .ok (.iconst 1, 1) := by decide +kernel
theorem dX2_isRight_92 : decode cX2_isRight 92 = .ok (.goto 4, 3) := by decide +kernel
theorem dX2_isRight_95 : decode cX2_isRight 95 = .ok (.iconst 0, 1) := by decide +kernel
theorem dX2_isRight_96 : decode cX2_isRight 96 = .ok (.ireturn, 1) := by decide +kernel
theorem dX2_isRight_97 : decode cX2_isRight 97 = .ok (.iload_n 1, 1) := by decide +kernel
theorem dX2_isRight_98 : decode cX2_isRight 98 = .ok (.iconst 0, 1) := by decide +kernel
theorem dX2_isRight_99 : decode cX2_isRight 99 = .ok (.iconst 2, 1) := by decide +kernel
theorem dX2_isRight_100 : decode cX2_isRight 100 = .ok (.invokestatic 83, 3) := by decide +kernel
theorem dX2_isRight_103 : decode cX2_isRight 103 = .ok (.ireturn, 1) := by decide +kernel
theorem dX2_isRight_104 : decode cX2_isRight 104 = .ok (.iload_n 1, 1) := by decide +kernel
theorem dX2_isRight_105 : decode cX2_isRight 105 = .ok (.invokestatic 91, 3) := by decide +kernel
theorem dX2_isRight_108 : decode cX2_isRight 108 = .ok (.ifCond .eq 14, 3) := by decide +kernel
theorem dX2_isRight_111 : decode cX2_isRight 111 = .ok (.iload_n 2, 1) := by decide +kernel
theorem dX2_isRight_112 : decode cX2_isRight 112 = .ok (.invokestatic 91, 3) := by decide +kernel
theorem dX2_isRight_115 : decode cX2_isRight 115 = .ok (.ifCond .eq 7, 3) := by decide +kernel
theorem dX2_isRight_118 : decode cX2_isRight 118 = .ok (.iconst 1, 1) := by decide +kernel
theorem dX2_isRight_119 : decode cX2_isRight 119 = .ok (.goto 4, 3) := by decide +kernel
theorem dX2_isRight_122 : decode cX2_isRight 122 = .ok (.iconst 0, 1) := by decide +kernel
theorem dX2_isRight_123 : decode cX2_isRight 123 = .ok (.ireturn, 1) := by decide +kernel
theorem dX2_isRight_124 : decode cX2_isRight 124 = .ok (.iload_n 1, 1) := by decide +kernel
theorem dX2_isRight_125 : decode cX2_isRight 125 = .ok (.invokestatic 91, 3) := by decide +kernel
theorem dX2_isRight_128 : decode cX2_isRight 128 = .ok (.ifCond .eq 21, 3) := by decide +kernel
theorem dX2_isRight_131 : decode cX2_isRight 131 = .ok (.iload_n 2, 1) := by decide +kernel
theorem dX2_isRight_132 : decode cX2_isRight 132 = .ok (.invokestatic 91, 3) := by decide +kernel
theorem dX2_isRight_135 : decode cX2_isRight 135 = .ok (.ifCond .eq 14, 3) := by decide +kernel
theorem dX2_isRight_138 : decode cX2_isRight 138 = .ok (.iload_n 3, 1) := by decide +kernel
theorem dX2_isRight_139 : decode cX2_isRight 139 = .ok (.invokestatic 87, 3) := by decide +kernel
theorem dX2_isRight_142 : decode cX2_isRight 142 = .ok (.ifCond .eq 7, 3) := by decide +kernel
theorem dX2_isRight_145 : decode cX2_isRight 145 = .ok (.iconst 1, 1) := by decide +kernel
theorem dX2_isRight_146 : decode cX2_isRight 146 = .ok (.goto 4, 3) := by decide +kernel
theorem dX2_isRight_149 : decode cX2_isRight 149 = .ok (.iconst 0, 1) := by decide +kernel
theorem dX2_isRight_150 : decode cX2_isRight 150 = .ok (.ireturn, 1) := by decide +kernel
theorem dX2_isRight_151 : decode cX2_isRight 151 = .ok (.iload_n 1, 1) := by decide +kernel
theorem dX2_isRight_152 : decode cX2_isRight 152 = .ok (.invokestatic 91, 3) := by decide +kernel
theorem dX2_isRight_155 : decode cX2_isRight 155 = .ok (.ifCond .eq 16, 3) := by decide +kernel
theorem dX2_isRight_158 : decode cX2_isRight 158 = .ok (.iload_n 2, 1) := by decide +kernel
theorem dX2_isRight_159 : decode cX2_isRight 159 = .ok (.iconst 0, 1) := by decide +kernel
theorem dX2_isRight_160 : decode cX2_isRight 160 = .ok (.iconst 5, 1) := by decide +kernel
theorem dX2_isRight_161 : decode cX2_isRight 161 = .ok (.invokestatic 83, 3) := by decide +kernel
theorem dX2_isRight_164 : decode cX2_isRight 164 = .ok (.ifCond .eq 7, 3) := by decide +kernel
theorem dX2_isRight_167 : decode cX2_isRight 167 = .ok (.iconst 1, 1) := by decide +kernel
theorem dX2_isRight_168 : decode cX2_isRight 168 = .ok (.goto 4, 3) := by decide +kernel
theorem dX2_isRight_171 : decode cX2_isRight 171 = .ok (.iconst 0, 1) := by decide +kernel
theorem dX2_isRight_172 : decode cX2_isRight 172 = .ok (.ireturn, 1) := by decide +kernel
theorem dX2_isRight_173 : decode cX2_isRight 173 = .ok (.iload_n 1, 1) := by decide +kernel
theorem dX2_isRight_174 : decode cX2_isRight 174 = .ok (.invokestatic 91, 3) := by decide +kernel
theorem dX2_isRight_177 : decode cX2_isRight 177 = .ok (.ireturn, 1) := by decide +kernel
theorem dX2_isRight_178 : decode cX2_isRight 178 = .ok (.iload_n 1, 1) := by decide +kernel
theorem dX2_isRight_179 : decode cX2_isRight 179 = .ok (.iconst 0, 1) := by decide +kernel
theorem dX2_isRight_180 : decode cX2_isRight 180 = .ok (.iconst 4, 1) := by decide +kernel
theorem dX2_isRight_181 : decode cX2_isRight 181 = .ok (.invokestatic 83, 3) := by decide +kernel
theorem dX2_isRight_184 : decode cX2_isRight 184 = .ok (.ireturn, 1) := by decide +kernel
theorem dX2_isRight_185 : decode cX2_isRight 185 = .ok (.iload_n 0, 1) := by decide +kernel
theorem dX2_isRight_186 : decode cX2_isRight 186 = .ok (.ifCond .eq 8, 3) := by decide +kernel
theorem dX2_isRight_189 : decode cX2_isRight 189 = .ok (.iload_n 0, 1) := by decide +kernel
theorem dX2_isRight_190 : decode cX2_isRight 190 = .ok (.iconst 5, 1) := by decide +kernel
theorem dX2_isRight_191 : decode cX2_isRight 191 = .ok (.if_icmp .ne 7, 3) := by decide +kernel
theorem dX2_isRight_194 : decode cX2_isRight 194 = .ok (.iconst 1, 1) := by decide +kernel
theorem dX2_isRight_195 : decode cX2_isRight 195 = .ok (.goto 4, 3) := by decide +kernel
theorem dX2_isRight_198 : decode cX2_isRight 198 = .ok (.iconst 0, 1) := by decide +kernel
theorem dX2_isRight_199 : decode cX2_isRight 199 = .ok (.ireturn, 1) := by decide +kernel
theorem dX2_holdsOne_0 : decode cX2_holdsOne 0 = .ok (.iload_n 0, 1) := by decide +kernel
theorem dX2_holdsOne_1 : decode cX2_holdsOne 1 = .ok (.bipush 7, 2) := by decide +kernel
theorem dX2_holdsOne_3 : decode cX2_holdsOne 3 = .ok (.bipush 12, 2) := by decide +kernel
theorem dX2_holdsOne_5 : decode cX2_holdsOne 5 = .ok (.invokestatic 83, 3) := by decide +kernel
theorem dX2_holdsOne_8 : decode cX2_holdsOne 8 = .ok (.ireturn, 1) := by decide +kernel
theorem dX2_holdsTwo_0 : decode cX2_holdsTwo 0 = .ok (.iload_n 0, 1) := by decide +kernel
theorem dX2_holdsTwo_1 : decode cX2_holdsTwo 1 = .ok (.bipush 7, 2) := by decide +kernel
theorem dX2_holdsTwo_3 : decode cX2_holdsTwo 3 = .ok (.if_icmp .eq 15, 3) := by decide +kernel
theorem dX2_holdsTwo_6 : decode cX2_holdsTwo 6 = .ok (.iload_n 0, 1) := by decide +kernel
theorem dX2_holdsTwo_7 : decode cX2_holdsTwo 7 = .ok (.bipush 8, 2) := by decide +kernel
theorem dX2_holdsTwo_9 : decode cX2_holdsTwo 9 = .ok (.if_icmp .eq 9, 3) := by decide +kernel
theorem dX2_holdsTwo_12 : decode cX2_holdsTwo 12 = .ok (.iload_n 0, 1) := by decide +kernel
theorem dX2_holdsTwo_13 : decode cX2_holdsTwo 13 = .ok (.bipush 10, 2) := by decide +kernel
theorem dX2_holdsTwo_15 : decode cX2_holdsTwo 15 = .ok (.if_icmp .ne 7, 3) := by decide +kernel
theorem dX2_holdsTwo_18 : decode cX2_holdsTwo 18 = .ok (.iconst 1, 1) := by decide +kernel
theorem dX2_holdsTwo_19 : decode cX2_holdsTwo 19 = .ok (.goto 4, 3) := by decide +kernel
theorem dX2_holdsTwo_22 : decode cX2_holdsTwo 22 = .ok (.iconst 0, 1) := by decide +kernel
theorem dX2_holdsTwo_23 : decode cX2_holdsTwo 23 = .ok (.ireturn, 1) := by decide +kernel
theorem dX2_deed_0 : decode cX2_deed 0 = .ok (.iload_n 1, 1) := by decide +kernel
theorem dX2_deed_1 : decode cX2_deed 1 = .ok (.invokestatic 91, 3) := by decide +kernel
theorem dX2_deed_4 : decode cX2_deed 4 = .ok (.ifCond .eq 15, 3) := by decide +kernel
theorem dX2_deed_7 : decode cX2_deed 7 = .ok (.iload_n 2, 1) := by decide +kernel
theorem dX2_deed_8 : decode cX2_deed 8 = .ok (.iload_n 3, 1) := by decide +kernel
theorem dX2_deed_9 : decode cX2_deed 9 = .ok (.iload 4, 2) := by decide +kernel
theorem dX2_deed_11 : decode cX2_deed 11 = .ok (.iload 5, 2) := by decide +kernel
theorem dX2_deed_13 : decode cX2_deed 13 = .ok (.invokestatic 94, 3) := by decide +kernel
theorem dX2_deed_16 : decode cX2_deed 16 = .ok (.ifCond .ne 5, 3) := by decide +kernel
theorem dX2_deed_19 : decode cX2_deed 19 = .ok (.iconst (-1), 1) := by decide +kernel
theorem dX2_deed_20 : decode cX2_deed 20 = .ok (.ireturn, 1) := by decide +kernel
theorem dX2_deed_21 : decode cX2_deed 21 = .ok (.iload_n 2, 1) := by decide +kernel
theorem dX2_deed_22 : decode cX2_deed 22 = .ok (.invokestatic 98, 3) := by decide +kernel
theorem dX2_deed_25 : decode cX2_deed 25 = .ok (.ifCond .eq 14, 3) := by decide +kernel
theorem dX2_deed_28 : decode cX2_deed 28 = .ok (.aload_n 0, 1) := by decide +kernel
theorem dX2_deed_29 : decode cX2_deed 29 = .ok (.getfield 37, 3) := by decide +kernel
theorem dX2_deed_32 : decode cX2_deed 32 = .ok (.iload_n 3, 1) := by decide +kernel
theorem dX2_deed_33 : decode cX2_deed 33 = .ok (.iaload, 1) := by decide +kernel
theorem dX2_deed_34 : decode cX2_deed 34 = .ok (.bipush (-2), 2) := by decide +kernel
theorem dX2_deed_36 : decode cX2_deed 36 = .ok (.if_icmp .eq 22, 3) := by decide +kernel
theorem dX2_deed_39 : decode cX2_deed 39 = .ok (.iload_n 2, 1) := by decide +kernel
theorem dX2_deed_40 : decode cX2_deed 40 = .ok (.invokestatic 101, 3) := by decide +kernel
theorem dX2_deed_43 : decode cX2_deed 43 = .ok (.ifCond .eq 18, 3) := by decide +kernel
theorem dX2_deed_46 : decode cX2_deed 46 = .ok (.aload_n 0, 1) := by decide +kernel
theorem dX2_deed_47 : decode cX2_deed 47 = .ok (.getfield 37, 3) := by decide +kernel
theorem dX2_deed_50 : decode cX2_deed 50 = .ok (.iload 4, 2) := by decide +kernel
theorem dX2_deed_52 : decode cX2_deed 52 = .ok (.iaload, 1) := by decide +kernel
theorem dX2_deed_53 : decode cX2_deed 53 = .ok (.bipush (-2), 2) := by decide +kernel
theorem dX2_deed_55 : decode cX2_deed 55 = .ok (.if_icmp .ne 6, 3) := by decide +kernel
theorem dX2_deed_58 : decode cX2_deed 58 = .ok (.bipush (-2), 2) := by decide +kernel
theorem dX2_deed_60 : decode cX2_deed 60 = .ok (.ireturn, 1) := by decide +kernel
theorem dX2_deed_61 : decode cX2_deed 61 = .ok (.aload_n 0, 1) := by decide +kernel
theorem dX2_deed_62 : decode cX2_deed 62 = .ok (.getfield 22, 3) := by decide +kernel
theorem dX2_deed_65 : decode cX2_deed 65 = .ok (.aload_n 0, 1) := by decide +kernel
theorem dX2_deed_66 : decode cX2_deed 66 = .ok (.getfield 68, 3) := by decide +kernel
theorem dX2_deed_69 : decode cX2_deed 69 = .ok (.iload_n 2, 1) := by decide +kernel
theorem dX2_deed_70 : decode cX2_deed 70 = .ok (.iastore, 1) := by decide +kernel
theorem dX2_deed_71 : decode cX2_deed 71 = .ok (.aload_n 0, 1) := by decide +kernel
theorem dX2_deed_72 : decode cX2_deed 72 = .ok (.getfield 25, 3) := by decide +kernel
theorem dX2_deed_75 : decode cX2_deed 75 = .ok (.aload_n 0, 1) := by decide +kernel
theorem dX2_deed_76 : decode cX2_deed 76 = .ok (.getfield 68, 3) := by decide +kernel
theorem dX2_deed_79 : decode cX2_deed 79 = .ok (.iload_n 2, 1) := by decide +kernel
theorem dX2_deed_80 : decode cX2_deed 80 = .ok (.invokestatic 98, 3) := by decide +kernel
theorem dX2_deed_83 : decode cX2_deed 83 = .ok (.ifCond .eq 12, 3) := by decide +kernel
theorem dX2_deed_86 : decode cX2_deed 86 = .ok (.aload_n 0, 1) := by decide +kernel
theorem dX2_deed_87 : decode cX2_deed 87 = .ok (.getfield 37, 3) := by decide +kernel
theorem dX2_deed_90 : decode cX2_deed 90 = .ok (.iload_n 3, 1) := by decide +kernel
theorem dX2_deed_91 : decode cX2_deed 91 = .ok (.iaload, 1) := by decide +kernel
theorem dX2_deed_92 : decode cX2_deed 92 = .ok (.goto 33, 3) := by decide +kernel
theorem dX2_deed_95 : decode cX2_deed 95 = .ok (.iload_n 2, 1) := by decide +kernel
theorem dX2_deed_96 : decode cX2_deed 96 = .ok (.iconst 4, 1) := by decide +kernel
theorem dX2_deed_97 : decode cX2_deed 97 = .ok (.if_icmp .ne 12, 3) := by decide +kernel
theorem dX2_deed_100 : decode cX2_deed 100 = .ok (.aload_n 0, 1) := by decide +kernel
theorem dX2_deed_101 : decode cX2_deed 101 = .ok (.getfield 19, 3) := by decide +kernel
theorem dX2_deed_104 : decode cX2_deed 104 = .ok (.iload_n 3, 1) := by decide +kernel
theorem dX2_deed_105 : decode cX2_deed 105 = .ok (.iaload, 1) := by decide +kernel
theorem dX2_deed_106 : decode cX2_deed 106 = .ok (.goto 19, 3) := by decide +kernel
theorem dX2_deed_109 : decode cX2_deed 109 = .ok (.iload_n 2, 1) := by decide +kernel
theorem dX2_deed_110 : decode cX2_deed 110 = .ok (.bipush 6, 2) := by decide +kernel
theorem dX2_deed_112 : decode cX2_deed 112 = .ok (.if_icmp .ne 12, 3) := by decide +kernel
theorem dX2_deed_115 : decode cX2_deed 115 = .ok (.aload_n 0, 1) := by decide +kernel
theorem dX2_deed_116 : decode cX2_deed 116 = .ok (.getfield 7, 3) := by decide +kernel
theorem dX2_deed_119 : decode cX2_deed 119 = .ok (.iload_n 3, 1) := by decide +kernel
theorem dX2_deed_120 : decode cX2_deed 120 = .ok (.iaload, 1) := by decide +kernel
theorem dX2_deed_121 : decode cX2_deed 121 = .ok (.goto 4, 3) := by decide +kernel
theorem dX2_deed_124 : decode cX2_deed 124 = .ok (.iload_n 3, 1) := by decide +kernel
theorem dX2_deed_125 : decode cX2_deed 125 = .ok (.iastore, 1) := by decide +kernel
theorem dX2_deed_126 : decode cX2_deed 126 = .ok (.aload_n 0, 1) := by decide +kernel
theorem dX2_deed_127 : decode cX2_deed 127 = .ok (.getfield 28, 3) := by decide +kernel
theorem dX2_deed_130 : decode cX2_deed 130 = .ok (.aload_n 0, 1) := by decide +kernel
theorem dX2_deed_131 : decode cX2_deed 131 = .ok (.getfield 68, 3) := by decide +kernel
theorem dX2_deed_134 : decode cX2_deed 134 = .ok (.iload_n 2, 1) := by decide +kernel
theorem dX2_deed_135 : decode cX2_deed 135 = .ok (.invokestatic 101, 3) := by decide +kernel
theorem dX2_deed_138 : decode cX2_deed 138 = .ok (.ifCond .eq 13, 3) := by decide +kernel
theorem dX2_deed_141 : decode cX2_deed 141 = .ok (.aload_n 0, 1) := by decide +kernel
theorem dX2_deed_142 : decode cX2_deed 142 = .ok (.getfield 37, 3) := by decide +kernel
theorem dX2_deed_145 : decode cX2_deed 145 = .ok (.iload 4, 2) := by decide +kernel
theorem dX2_deed_147 : decode cX2_deed 147 = .ok (.iaload, 1) := by decide +kernel
theorem dX2_deed_148 : decode cX2_deed 148 = .ok (.goto 5, 3) := by decide +kernel
theorem dX2_deed_151 : decode cX2_deed 151 = .ok (.iload 4, 2) := by decide +kernel
theorem dX2_deed_153 : decode cX2_deed 153 = .ok (.iastore, 1) := by decide +kernel
theorem dX2_deed_154 : decode cX2_deed 154 = .ok (.aload_n 0, 1) := by decide +kernel
theorem dX2_deed_155 : decode cX2_deed 155 = .ok (.getfield 31, 3) := by decide +kernel
theorem dX2_deed_158 : decode cX2_deed 158 = .ok (.aload_n 0, 1) := by decide +kernel
theorem dX2_deed_159 : decode cX2_deed 159 = .ok (.getfield 68, 3) := by decide +kernel
theorem dX2_deed_162 : decode cX2_deed 162 = .ok (.iload 5, 2) := by decide +kernel
theorem dX2_deed_164 : decode cX2_deed 164 = .ok (.iastore, 1) := by decide +kernel
theorem dX2_deed_165 : decode cX2_deed 165 = .ok (.aload_n 0, 1) := by decide +kernel
theorem dX2_deed_166 : decode cX2_deed 166 = .ok (.getfield 34, 3) := by decide +kernel
theorem dX2_deed_169 : decode cX2_deed 169 = .ok (.aload_n 0, 1) := by decide +kernel
theorem dX2_deed_170 : decode cX2_deed 170 = .ok (.getfield 68, 3) := by decide +kernel
theorem dX2_deed_173 : decode cX2_deed 173 = .ok (.iconst 0, 1) := by decide +kernel
theorem dX2_deed_174 : decode cX2_deed 174 = .ok (.iastore, 1) := by decide +kernel
theorem dX2_deed_175 : decode cX2_deed 175 = .ok (.aload_n 0, 1) := by decide +kernel
theorem dX2_deed_176 : decode cX2_deed 176 = .ok (.getfield 37, 3) := by decide +kernel
theorem dX2_deed_179 : decode cX2_deed 179 = .ok (.iload_n 1, 1) := by decide +kernel
theorem dX2_deed_180 : decode cX2_deed 180 = .ok (.aload_n 0, 1) := by decide +kernel
theorem dX2_deed_181 : decode cX2_deed 181 = .ok (.getfield 68, 3) := by decide +kernel
theorem dX2_deed_184 : decode cX2_deed 184 = .ok (.iastore, 1) := by decide +kernel
theorem dX2_deed_185 : decode cX2_deed 185 = .ok (.aload_n 0, 1) := by decide +kernel
theorem dX2_deed_186 : decode cX2_deed 186 = .ok (.dup, 1) := by decide +kernel
theorem dX2_deed_187 : decode cX2_deed 187 = .ok (.getfield 68, 3) := by decide +kernel
theorem dX2_deed_190 : decode cX2_deed 190 = .ok (.iconst 1, 1) := by decide +kernel
theorem dX2_deed_191 : decode cX2_deed 191 = .ok (.iadd, 1) := by decide +kernel
theorem dX2_deed_192 : decode cX2_deed 192 = .ok (.putfield 68, 3) := by decide +kernel
theorem dX2_deed_195 : decode cX2_deed 195 = .ok (.aload_n 0, 1) := by decide +kernel
theorem dX2_deed_196 : decode cX2_deed 196 = .ok (.getfield 68, 3) := by decide +kernel
theorem dX2_deed_199 : decode cX2_deed 199 = .ok (.ireturn, 1) := by decide +kernel
theorem dX2_copy_0 : decode cX2_copy 0 = .ok (.iload_n 1, 1) := by decide +kernel
theorem dX2_copy_1 : decode cX2_copy 1 = .ok (.invokestatic 91, 3) := by decide +kernel
theorem dX2_copy_4 : decode cX2_copy 4 = .ok (.ifCond .eq 10, 3) := by decide +kernel
theorem dX2_copy_7 : decode cX2_copy 7 = .ok (.iload_n 2, 1) := by decide +kernel
theorem dX2_copy_8 : decode cX2_copy 8 = .ok (.invokestatic 91, 3) := by decide +kernel
theorem dX2_copy_11 : decode cX2_copy 11 = .ok (.ifCond .ne 5, 3) := by decide +kernel
theorem dX2_copy_14 : decode cX2_copy 14 = .ok (.iconst (-1), 1) := by decide +kernel
theorem dX2_copy_15 : decode cX2_copy 15 = .ok (.ireturn, 1) := by decide +kernel
theorem dX2_copy_16 : decode cX2_copy 16 = .ok (.aload_n 0, 1) := by decide +kernel
theorem dX2_copy_17 : decode cX2_copy 17 = .ok (.getfield 37, 3) := by decide +kernel
theorem dX2_copy_20 : decode cX2_copy 20 = .ok (.iload_n 1, 1) := by decide +kernel
theorem dX2_copy_21 : decode cX2_copy 21 = .ok (.iaload, 1) := by decide +kernel
theorem dX2_copy_22 : decode cX2_copy 22 = .ok (.bipush (-2), 2) := by decide +kernel
theorem dX2_copy_24 : decode cX2_copy 24 = .ok (.if_icmp .ne 6, 3) := by decide +kernel
theorem dX2_copy_27 : decode cX2_copy 27 = .ok (.bipush (-2), 2) := by decide +kernel
theorem dX2_copy_29 : decode cX2_copy 29 = .ok (.ireturn, 1) := by decide +kernel
theorem dX2_copy_30 : decode cX2_copy 30 = .ok (.aload_n 0, 1) := by decide +kernel
theorem dX2_copy_31 : decode cX2_copy 31 = .ok (.getfield 37, 3) := by decide +kernel
theorem dX2_copy_34 : decode cX2_copy 34 = .ok (.iload_n 2, 1) := by decide +kernel
theorem dX2_copy_35 : decode cX2_copy 35 = .ok (.aload_n 0, 1) := by decide +kernel
theorem dX2_copy_36 : decode cX2_copy 36 = .ok (.getfield 37, 3) := by decide +kernel
theorem dX2_copy_39 : decode cX2_copy 39 = .ok (.iload_n 1, 1) := by decide +kernel
theorem dX2_copy_40 : decode cX2_copy 40 = .ok (.iaload, 1) := by decide +kernel
theorem dX2_copy_41 : decode cX2_copy 41 = .ok (.iastore, 1) := by decide +kernel
theorem dX2_copy_42 : decode cX2_copy 42 = .ok (.iconst 1, 1) := by decide +kernel
theorem dX2_copy_43 : decode cX2_copy 43 = .ok (.ireturn, 1) := by decide +kernel
theorem dX2_drop_0 : decode cX2_drop 0 = .ok (.iload_n 1, 1) := by decide +kernel
theorem dX2_drop_1 : decode cX2_drop 1 = .ok (.invokestatic 91, 3) := by decide +kernel
theorem dX2_drop_4 : decode cX2_drop 4 = .ok (.ifCond .ne 5, 3) := by decide +kernel
theorem dX2_drop_7 : decode cX2_drop 7 = .ok (.iconst (-1), 1) := by decide +kernel
theorem dX2_drop_8 : decode cX2_drop 8 = .ok (.ireturn, 1) := by decide +kernel
theorem dX2_drop_9 : decode cX2_drop 9 = .ok (.aload_n 0, 1) := by decide +kernel
theorem dX2_drop_10 : decode cX2_drop 10 = .ok (.getfield 37, 3) := by decide +kernel
theorem dX2_drop_13 : decode cX2_drop 13 = .ok (.iload_n 1, 1) := by decide +kernel
theorem dX2_drop_14 : decode cX2_drop 14 = .ok (.iaload, 1) := by decide +kernel
theorem dX2_drop_15 : decode cX2_drop 15 = .ok (.bipush (-2), 2) := by decide +kernel
theorem dX2_drop_17 : decode cX2_drop 17 = .ok (.if_icmp .ne 6, 3) := by decide +kernel
theorem dX2_drop_20 : decode cX2_drop 20 = .ok (.bipush (-2), 2) := by decide +kernel
theorem dX2_drop_22 : decode cX2_drop 22 = .ok (.ireturn, 1) := by decide +kernel
theorem dX2_drop_23 : decode cX2_drop 23 = .ok (.aload_n 0, 1) := by decide +kernel
theorem dX2_drop_24 : decode cX2_drop 24 = .ok (.getfield 37, 3) := by decide +kernel
theorem dX2_drop_27 : decode cX2_drop 27 = .ok (.iload_n 1, 1) := by decide +kernel
theorem dX2_drop_28 : decode cX2_drop 28 = .ok (.bipush (-2), 2) := by decide +kernel
theorem dX2_drop_30 : decode cX2_drop 30 = .ok (.iastore, 1) := by decide +kernel
theorem dX2_drop_31 : decode cX2_drop 31 = .ok (.iconst 1, 1) := by decide +kernel
theorem dX2_drop_32 : decode cX2_drop 32 = .ok (.ireturn, 1) := by decide +kernel
theorem dX2_lever_0 : decode cX2_lever 0 = .ok (.iload_n 1, 1) := by decide +kernel
theorem dX2_lever_1 : decode cX2_lever 1 = .ok (.iconst 0, 1) := by decide +kernel
theorem dX2_lever_2 : decode cX2_lever 2 = .ok (.iconst 4, 1) := by decide +kernel
theorem dX2_lever_3 : decode cX2_lever 3 = .ok (.invokestatic 83, 3) := by decide +kernel
theorem dX2_lever_6 : decode cX2_lever 6 = .ok (.ifCond .eq 22, 3) := by decide +kernel
theorem dX2_lever_9 : decode cX2_lever 9 = .ok (.iload_n 2, 1) := by decide +kernel
theorem dX2_lever_10 : decode cX2_lever 10 = .ok (.iconst 0, 1) := by decide +kernel
theorem dX2_lever_11 : decode cX2_lever 11 = .ok (.iconst 3, 1) := by decide +kernel
theorem dX2_lever_12 : decode cX2_lever 12 = .ok (.invokestatic 83, 3) := by decide +kernel
theorem dX2_lever_15 : decode cX2_lever 15 = .ok (.ifCond .eq 13, 3) := by decide +kernel
theorem dX2_lever_18 : decode cX2_lever 18 = .ok (.iload_n 3, 1) := by decide +kernel
theorem dX2_lever_19 : decode cX2_lever 19 = .ok (.iconst (-1), 1) := by decide +kernel
theorem dX2_lever_20 : decode cX2_lever 20 = .ok (.bipush 19, 2) := by decide +kernel
theorem dX2_lever_22 : decode cX2_lever 22 = .ok (.invokestatic 83, 3) := by decide +kernel
theorem dX2_lever_25 : decode cX2_lever 25 = .ok (.ifCond .ne 5, 3) := by decide +kernel
theorem dX2_lever_28 : decode cX2_lever 28 = .ok (.iconst (-1), 1) := by decide +kernel
theorem dX2_lever_29 : decode cX2_lever 29 = .ok (.ireturn, 1) := by decide +kernel
theorem dX2_lever_30 : decode cX2_lever 30 = .ok (.iload_n 3, 1) := by decide +kernel
theorem dX2_lever_31 : decode cX2_lever 31 = .ok (.ifCond .lt 17, 3) := by decide +kernel
theorem dX2_lever_34 : decode cX2_lever 34 = .ok (.aload_n 0, 1) := by decide +kernel
theorem dX2_lever_35 : decode cX2_lever 35 = .ok (.getfield 37, 3) := by decide +kernel
theorem dX2_lever_38 : decode cX2_lever 38 = .ok (.iload_n 3, 1) := by decide +kernel
theorem dX2_lever_39 : decode cX2_lever 39 = .ok (.iaload, 1) := by decide +kernel
theorem dX2_lever_40 : decode cX2_lever 40 = .ok (.bipush (-2), 2) := by decide +kernel
theorem dX2_lever_42 : decode cX2_lever 42 = .ok (.if_icmp .ne 6, 3) := by decide +kernel
theorem dX2_lever_45 : decode cX2_lever 45 = .ok (.bipush (-2), 2) := by decide +kernel
theorem dX2_lever_47 : decode cX2_lever 47 = .ok (.ireturn, 1) := by decide +kernel
theorem dX2_lever_48 : decode cX2_lever 48 = .ok (.aload_n 0, 1) := by decide +kernel
theorem dX2_lever_49 : decode cX2_lever 49 = .ok (.getfield 40, 3) := by decide +kernel
theorem dX2_lever_52 : decode cX2_lever 52 = .ok (.iconst 4, 1) := by decide +kernel
theorem dX2_lever_53 : decode cX2_lever 53 = .ok (.iload_n 1, 1) := by decide +kernel
theorem dX2_lever_54 : decode cX2_lever 54 = .ok (.imul, 1) := by decide +kernel
theorem dX2_lever_55 : decode cX2_lever 55 = .ok (.iload_n 2, 1) := by decide +kernel
theorem dX2_lever_56 : decode cX2_lever 56 = .ok (.iadd, 1) := by decide +kernel
theorem dX2_lever_57 : decode cX2_lever 57 = .ok (.iload_n 3, 1) := by decide +kernel
theorem dX2_lever_58 : decode cX2_lever 58 = .ok (.ifCond .ge 8, 3) := by decide +kernel
theorem dX2_lever_61 : decode cX2_lever 61 = .ok (.bipush (-2), 2) := by decide +kernel
theorem dX2_lever_63 : decode cX2_lever 63 = .ok (.goto 9, 3) := by decide +kernel
theorem dX2_lever_66 : decode cX2_lever 66 = .ok (.aload_n 0, 1) := by decide +kernel
theorem dX2_lever_67 : decode cX2_lever 67 = .ok (.getfield 37, 3) := by decide +kernel
theorem dX2_lever_70 : decode cX2_lever 70 = .ok (.iload_n 3, 1) := by decide +kernel
theorem dX2_lever_71 : decode cX2_lever 71 = .ok (.iaload, 1) := by decide +kernel
theorem dX2_lever_72 : decode cX2_lever 72 = .ok (.iastore, 1) := by decide +kernel
theorem dX2_lever_73 : decode cX2_lever 73 = .ok (.iconst 1, 1) := by decide +kernel
theorem dX2_lever_74 : decode cX2_lever 74 = .ok (.ireturn, 1) := by decide +kernel
theorem dX2_same_0 : decode cX2_same 0 = .ok (.iload_n 1, 1) := by decide +kernel
theorem dX2_same_1 : decode cX2_same 1 = .ok (.invokestatic 91, 3) := by decide +kernel
theorem dX2_same_4 : decode cX2_same 4 = .ok (.ifCond .eq 10, 3) := by decide +kernel
theorem dX2_same_7 : decode cX2_same 7 = .ok (.iload_n 2, 1) := by decide +kernel
theorem dX2_same_8 : decode cX2_same 8 = .ok (.invokestatic 91, 3) := by decide +kernel
theorem dX2_same_11 : decode cX2_same 11 = .ok (.ifCond .ne 5, 3) := by decide +kernel
theorem dX2_same_14 : decode cX2_same 14 = .ok (.iconst (-1), 1) := by decide +kernel
theorem dX2_same_15 : decode cX2_same 15 = .ok (.ireturn, 1) := by decide +kernel
theorem dX2_same_16 : decode cX2_same 16 = .ok (.aload_n 0, 1) := by decide +kernel
theorem dX2_same_17 : decode cX2_same 17 = .ok (.getfield 37, 3) := by decide +kernel
theorem dX2_same_20 : decode cX2_same 20 = .ok (.iload_n 1, 1) := by decide +kernel
theorem dX2_same_21 : decode cX2_same 21 = .ok (.iaload, 1) := by decide +kernel
theorem dX2_same_22 : decode cX2_same 22 = .ok (.bipush (-2), 2) := by decide +kernel
theorem dX2_same_24 : decode cX2_same 24 = .ok (.if_icmp .eq 22, 3) := by decide +kernel
theorem dX2_same_27 : decode cX2_same 27 = .ok (.aload_n 0, 1) := by decide +kernel
theorem dX2_same_28 : decode cX2_same 28 = .ok (.getfield 37, 3) := by decide +kernel
theorem dX2_same_31 : decode cX2_same 31 = .ok (.iload_n 1, 1) := by decide +kernel
theorem dX2_same_32 : decode cX2_same 32 = .ok (.iaload, 1) := by decide +kernel
theorem dX2_same_33 : decode cX2_same 33 = .ok (.aload_n 0, 1) := by decide +kernel
theorem dX2_same_34 : decode cX2_same 34 = .ok (.getfield 37, 3) := by decide +kernel
theorem dX2_same_37 : decode cX2_same 37 = .ok (.iload_n 2, 1) := by decide +kernel
theorem dX2_same_38 : decode cX2_same 38 = .ok (.iaload, 1) := by decide +kernel
theorem dX2_same_39 : decode cX2_same 39 = .ok (.if_icmp .ne 7, 3) := by decide +kernel
theorem dX2_same_42 : decode cX2_same 42 = .ok (.iconst 1, 1) := by decide +kernel
theorem dX2_same_43 : decode cX2_same 43 = .ok (.goto 4, 3) := by decide +kernel
theorem dX2_same_46 : decode cX2_same 46 = .ok (.iconst 0, 1) := by decide +kernel
theorem dX2_same_47 : decode cX2_same 47 = .ok (.ireturn, 1) := by decide +kernel
theorem dX2_count_0 : decode cX2_count 0 = .ok (.iload_n 1, 1) := by decide +kernel
theorem dX2_count_1 : decode cX2_count 1 = .ok (.invokestatic 91, 3) := by decide +kernel
theorem dX2_count_4 : decode cX2_count 4 = .ok (.ifCond .ne 5, 3) := by decide +kernel
theorem dX2_count_7 : decode cX2_count 7 = .ok (.iconst (-1), 1) := by decide +kernel
theorem dX2_count_8 : decode cX2_count 8 = .ok (.ireturn, 1) := by decide +kernel
theorem dX2_count_9 : decode cX2_count 9 = .ok (.aload_n 0, 1) := by decide +kernel
theorem dX2_count_10 : decode cX2_count 10 = .ok (.getfield 37, 3) := by decide +kernel
theorem dX2_count_13 : decode cX2_count 13 = .ok (.iload_n 1, 1) := by decide +kernel
theorem dX2_count_14 : decode cX2_count 14 = .ok (.iaload, 1) := by decide +kernel
theorem dX2_count_15 : decode cX2_count 15 = .ok (.bipush (-2), 2) := by decide +kernel
theorem dX2_count_17 : decode cX2_count 17 = .ok (.if_icmp .eq 19, 3) := by decide +kernel
theorem dX2_count_20 : decode cX2_count 20 = .ok (.aload_n 0, 1) := by decide +kernel
theorem dX2_count_21 : decode cX2_count 21 = .ok (.getfield 22, 3) := by decide +kernel
theorem dX2_count_24 : decode cX2_count 24 = .ok (.aload_n 0, 1) := by decide +kernel
theorem dX2_count_25 : decode cX2_count 25 = .ok (.getfield 37, 3) := by decide +kernel
theorem dX2_count_28 : decode cX2_count 28 = .ok (.iload_n 1, 1) := by decide +kernel
theorem dX2_count_29 : decode cX2_count 29 = .ok (.iaload, 1) := by decide +kernel
theorem dX2_count_30 : decode cX2_count 30 = .ok (.iaload, 1) := by decide +kernel
theorem dX2_count_31 : decode cX2_count 31 = .ok (.bipush 12, 2) := by decide +kernel
theorem dX2_count_33 : decode cX2_count 33 = .ok (.if_icmp .eq 8, 3) := by decide +kernel
theorem dX2_count_36 : decode cX2_count 36 = .ok (.bipush (-2), 2) := by decide +kernel
theorem dX2_count_38 : decode cX2_count 38 = .ok (.goto 14, 3) := by decide +kernel
theorem dX2_count_41 : decode cX2_count 41 = .ok (.aload_n 0, 1) := by decide +kernel
theorem dX2_count_42 : decode cX2_count 42 = .ok (.getfield 34, 3) := by decide +kernel
theorem dX2_count_45 : decode cX2_count 45 = .ok (.aload_n 0, 1) := by decide +kernel
theorem dX2_count_46 : decode cX2_count 46 = .ok (.getfield 37, 3) := by decide +kernel
theorem dX2_count_49 : decode cX2_count 49 = .ok (.iload_n 1, 1) := by decide +kernel
theorem dX2_count_50 : decode cX2_count 50 = .ok (.iaload, 1) := by decide +kernel
theorem dX2_count_51 : decode cX2_count 51 = .ok (.iaload, 1) := by decide +kernel
theorem dX2_count_52 : decode cX2_count 52 = .ok (.ireturn, 1) := by decide +kernel
theorem dX2_enter_0 : decode cX2_enter 0 = .ok (.aload_n 0, 1) := by decide +kernel
theorem dX2_enter_1 : decode cX2_enter 1 = .ok (.getfield 74, 3) := by decide +kernel
theorem dX2_enter_4 : decode cX2_enter 4 = .ok (.bipush 60, 2) := by decide +kernel
theorem dX2_enter_6 : decode cX2_enter 6 = .ok (.if_icmp .ne 10, 3) := by decide +kernel
theorem dX2_enter_9 : decode cX2_enter 9 = .ok (.aload_n 0, 1) := by decide +kernel
theorem dX2_enter_10 : decode cX2_enter 10 = .ok (.bipush (-8), 2) := by decide +kernel
theorem dX2_enter_12 : decode cX2_enter 12 = .ok (.putfield 104, 3) := by decide +kernel
theorem dX2_enter_15 : decode cX2_enter 15 = .ok (.return_, 1) := by decide +kernel
theorem dX2_enter_16 : decode cX2_enter 16 = .ok (.aload_n 0, 1) := by decide +kernel
theorem dX2_enter_17 : decode cX2_enter 17 = .ok (.dup, 1) := by decide +kernel
theorem dX2_enter_18 : decode cX2_enter 18 = .ok (.getfield 74, 3) := by decide +kernel
theorem dX2_enter_21 : decode cX2_enter 21 = .ok (.iconst 1, 1) := by decide +kernel
theorem dX2_enter_22 : decode cX2_enter 22 = .ok (.iadd, 1) := by decide +kernel
theorem dX2_enter_23 : decode cX2_enter 23 = .ok (.putfield 74, 3) := by decide +kernel
theorem dX2_enter_26 : decode cX2_enter 26 = .ok (.aload_n 0, 1) := by decide +kernel
theorem dX2_enter_27 : decode cX2_enter 27 = .ok (.getfield 107, 3) := by decide +kernel
theorem dX2_enter_30 : decode cX2_enter 30 = .ok (.bipush 16, 2) := by decide +kernel
theorem dX2_enter_32 : decode cX2_enter 32 = .ok (.if_icmp .ne 12, 3) := by decide +kernel
theorem dX2_enter_35 : decode cX2_enter 35 = .ok (.aload_n 0, 1) := by decide +kernel
theorem dX2_enter_36 : decode cX2_enter 36 = .ok (.bipush (-9), 2) := by decide +kernel
theorem dX2_enter_38 : decode cX2_enter 38 = .ok (.putfield 104, 3) := by decide +kernel
theorem dX2_enter_41 : decode cX2_enter 41 = .ok (.goto 68, 3) := by decide +kernel
theorem dX2_enter_44 : decode cX2_enter 44 = .ok (.iload_n 1, 1) := by decide +kernel
theorem dX2_enter_45 : decode cX2_enter 45 = .ok (.bipush (-2), 2) := by decide +kernel
theorem dX2_enter_47 : decode cX2_enter 47 = .ok (.if_icmp .ne 12, 3) := by decide +kernel
theorem dX2_enter_50 : decode cX2_enter 50 = .ok (.aload_n 0, 1) := by decide +kernel
theorem dX2_enter_51 : decode cX2_enter 51 = .ok (.bipush (-6), 2) := by decide +kernel
theorem dX2_enter_53 : decode cX2_enter 53 = .ok (.putfield 104, 3) := by decide +kernel
theorem dX2_enter_56 : decode cX2_enter 56 = .ok (.goto 53, 3) := by decide +kernel
theorem dX2_enter_59 : decode cX2_enter 59 = .ok (.aload_n 0, 1) := by decide +kernel
theorem dX2_enter_60 : decode cX2_enter 60 = .ok (.getfield 49, 3) := by decide +kernel
theorem dX2_enter_63 : decode cX2_enter 63 = .ok (.aload_n 0, 1) := by decide +kernel
theorem dX2_enter_64 : decode cX2_enter 64 = .ok (.getfield 107, 3) := by decide +kernel
theorem dX2_enter_67 : decode cX2_enter 67 = .ok (.iload_n 1, 1) := by decide +kernel
theorem dX2_enter_68 : decode cX2_enter 68 = .ok (.iastore, 1) := by decide +kernel
theorem dX2_enter_69 : decode cX2_enter 69 = .ok (.aload_n 0, 1) := by decide +kernel
theorem dX2_enter_70 : decode cX2_enter 70 = .ok (.getfield 52, 3) := by decide +kernel
theorem dX2_enter_73 : decode cX2_enter 73 = .ok (.aload_n 0, 1) := by decide +kernel
theorem dX2_enter_74 : decode cX2_enter 74 = .ok (.getfield 107, 3) := by decide +kernel
theorem dX2_enter_77 : decode cX2_enter 77 = .ok (.iload_n 2, 1) := by decide +kernel
theorem dX2_enter_78 : decode cX2_enter 78 = .ok (.iastore, 1) := by decide +kernel
theorem dX2_enter_79 : decode cX2_enter 79 = .ok (.aload_n 0, 1) := by decide +kernel
theorem dX2_enter_80 : decode cX2_enter 80 = .ok (.getfield 55, 3) := by decide +kernel
theorem dX2_enter_83 : decode cX2_enter 83 = .ok (.aload_n 0, 1) := by decide +kernel
theorem dX2_enter_84 : decode cX2_enter 84 = .ok (.getfield 107, 3) := by decide +kernel
theorem dX2_enter_87 : decode cX2_enter 87 = .ok (.iconst 0, 1) := by decide +kernel
theorem dX2_enter_88 : decode cX2_enter 88 = .ok (.iastore, 1) := by decide +kernel
theorem dX2_enter_89 : decode cX2_enter 89 = .ok (.aload_n 0, 1) := by decide +kernel
theorem dX2_enter_90 : decode cX2_enter 90 = .ok (.getfield 58, 3) := by decide +kernel
theorem dX2_enter_93 : decode cX2_enter 93 = .ok (.aload_n 0, 1) := by decide +kernel
theorem dX2_enter_94 : decode cX2_enter 94 = .ok (.getfield 107, 3) := by decide +kernel
theorem dX2_enter_97 : decode cX2_enter 97 = .ok (.iload_n 2, 1) := by decide +kernel
theorem dX2_enter_98 : decode cX2_enter 98 = .ok (.iastore, 1) := by decide +kernel
theorem dX2_enter_99 : decode cX2_enter 99 = .ok (.aload_n 0, 1) := by decide +kernel
theorem dX2_enter_100 : decode cX2_enter 100 = .ok (.dup, 1) := by decide +kernel
theorem dX2_enter_101 : decode cX2_enter 101 = .ok (.getfield 107, 3) := by decide +kernel
theorem dX2_enter_104 : decode cX2_enter 104 = .ok (.iconst 1, 1) := by decide +kernel
theorem dX2_enter_105 : decode cX2_enter 105 = .ok (.iadd, 1) := by decide +kernel
theorem dX2_enter_106 : decode cX2_enter 106 = .ok (.putfield 107, 3) := by decide +kernel
theorem dX2_enter_109 : decode cX2_enter 109 = .ok (.return_, 1) := by decide +kernel
theorem dX2_give_0 : decode cX2_give 0 = .ok (.aload_n 0, 1) := by decide +kernel
theorem dX2_give_1 : decode cX2_give 1 = .ok (.dup, 1) := by decide +kernel
theorem dX2_give_2 : decode cX2_give 2 = .ok (.getfield 107, 3) := by decide +kernel
theorem dX2_give_5 : decode cX2_give 5 = .ok (.iconst 1, 1) := by decide +kernel
theorem dX2_give_6 : decode cX2_give 6 = .ok (.isub, 1) := by decide +kernel
theorem dX2_give_7 : decode cX2_give 7 = .ok (.putfield 107, 3) := by decide +kernel
theorem dX2_give_10 : decode cX2_give 10 = .ok (.aload_n 0, 1) := by decide +kernel
theorem dX2_give_11 : decode cX2_give 11 = .ok (.iload_n 1, 1) := by decide +kernel
theorem dX2_give_12 : decode cX2_give 12 = .ok (.putfield 110, 3) := by decide +kernel
theorem dX2_give_15 : decode cX2_give 15 = .ok (.aload_n 0, 1) := by decide +kernel
theorem dX2_give_16 : decode cX2_give 16 = .ok (.getfield 107, 3) := by decide +kernel
theorem dX2_give_19 : decode cX2_give 19 = .ok (.ifCond .le 15, 3) := by decide +kernel
theorem dX2_give_22 : decode cX2_give 22 = .ok (.aload_n 0, 1) := by decide +kernel
theorem dX2_give_23 : decode cX2_give 23 = .ok (.getfield 58, 3) := by decide +kernel
theorem dX2_give_26 : decode cX2_give 26 = .ok (.aload_n 0, 1) := by decide +kernel
theorem dX2_give_27 : decode cX2_give 27 = .ok (.getfield 107, 3) := by decide +kernel
theorem dX2_give_30 : decode cX2_give 30 = .ok (.iconst 1, 1) := by decide +kernel
theorem dX2_give_31 : decode cX2_give 31 = .ok (.isub, 1) := by decide +kernel
theorem dX2_give_32 : decode cX2_give 32 = .ok (.iload_n 1, 1) := by decide +kernel
theorem dX2_give_33 : decode cX2_give 33 = .ok (.iastore, 1) := by decide +kernel
theorem dX2_give_34 : decode cX2_give 34 = .ok (.return_, 1) := by decide +kernel
theorem dX2_fall_0 : decode cX2_fall 0 = .ok (.aload_n 0, 1) := by decide +kernel
theorem dX2_fall_1 : decode cX2_fall 1 = .ok (.getfield 107, 3) := by decide +kernel
theorem dX2_fall_4 : decode cX2_fall 4 = .ok (.iconst 1, 1) := by decide +kernel
theorem dX2_fall_5 : decode cX2_fall 5 = .ok (.isub, 1) := by decide +kernel
theorem dX2_fall_6 : decode cX2_fall 6 = .ok (.istore_n 1, 1) := by decide +kernel
theorem dX2_fall_7 : decode cX2_fall 7 = .ok (.aload_n 0, 1) := by decide +kernel
theorem dX2_fall_8 : decode cX2_fall 8 = .ok (.getfield 22, 3) := by decide +kernel
theorem dX2_fall_11 : decode cX2_fall 11 = .ok (.aload_n 0, 1) := by decide +kernel
theorem dX2_fall_12 : decode cX2_fall 12 = .ok (.getfield 49, 3) := by decide +kernel
theorem dX2_fall_15 : decode cX2_fall 15 = .ok (.iload_n 1, 1) := by decide +kernel
theorem dX2_fall_16 : decode cX2_fall 16 = .ok (.iaload, 1) := by decide +kernel
theorem dX2_fall_17 : decode cX2_fall 17 = .ok (.iaload, 1) := by decide +kernel
theorem dX2_fall_18 : decode cX2_fall 18 = .ok (.bipush 10, 2) := by decide +kernel
theorem dX2_fall_20 : decode cX2_fall 20 = .ok (.if_icmp .ne 35, 3) := by decide +kernel
theorem dX2_fall_23 : decode cX2_fall 23 = .ok (.aload_n 0, 1) := by decide +kernel
theorem dX2_fall_24 : decode cX2_fall 24 = .ok (.getfield 55, 3) := by decide +kernel
theorem dX2_fall_27 : decode cX2_fall 27 = .ok (.iload_n 1, 1) := by decide +kernel
theorem dX2_fall_28 : decode cX2_fall 28 = .ok (.iaload, 1) := by decide +kernel
theorem dX2_fall_29 : decode cX2_fall 29 = .ok (.iconst 1, 1) := by decide +kernel
theorem dX2_fall_30 : decode cX2_fall 30 = .ok (.if_icmp .ne 25, 3) := by decide +kernel
theorem dX2_fall_33 : decode cX2_fall 33 = .ok (.aload_n 0, 1) := by decide +kernel
theorem dX2_fall_34 : decode cX2_fall 34 = .ok (.getfield 104, 3) := by decide +kernel
theorem dX2_fall_37 : decode cX2_fall 37 = .ok (.bipush (-8), 2) := by decide +kernel
theorem dX2_fall_39 : decode cX2_fall 39 = .ok (.if_icmp .eq 16, 3) := by decide +kernel
theorem dX2_fall_42 : decode cX2_fall 42 = .ok (.aload_n 0, 1) := by decide +kernel
theorem dX2_fall_43 : decode cX2_fall 43 = .ok (.getfield 104, 3) := by decide +kernel
theorem dX2_fall_46 : decode cX2_fall 46 = .ok (.bipush (-9), 2) := by decide +kernel
theorem dX2_fall_48 : decode cX2_fall 48 = .ok (.if_icmp .eq 7, 3) := by decide +kernel
theorem dX2_fall_51 : decode cX2_fall 51 = .ok (.iconst 1, 1) := by decide +kernel
theorem dX2_fall_52 : decode cX2_fall 52 = .ok (.goto 4, 3) := by decide +kernel
theorem dX2_fall_55 : decode cX2_fall 55 = .ok (.iconst 0, 1) := by decide +kernel
theorem dX2_fall_56 : decode cX2_fall 56 = .ok (.istore_n 2, 1) := by decide +kernel
theorem dX2_fall_57 : decode cX2_fall 57 = .ok (.iload_n 2, 1) := by decide +kernel
theorem dX2_fall_58 : decode cX2_fall 58 = .ok (.ifCond .eq 39, 3) := by decide +kernel
theorem dX2_fall_61 : decode cX2_fall 61 = .ok (.aload_n 0, 1) := by decide +kernel
theorem dX2_fall_62 : decode cX2_fall 62 = .ok (.iconst 0, 1) := by decide +kernel
theorem dX2_fall_63 : decode cX2_fall 63 = .ok (.putfield 104, 3) := by decide +kernel
theorem dX2_fall_66 : decode cX2_fall 66 = .ok (.aload_n 0, 1) := by decide +kernel
theorem dX2_fall_67 : decode cX2_fall 67 = .ok (.getfield 55, 3) := by decide +kernel
theorem dX2_fall_70 : decode cX2_fall 70 = .ok (.iload_n 1, 1) := by decide +kernel
theorem dX2_fall_71 : decode cX2_fall 71 = .ok (.iconst 2, 1) := by decide +kernel
theorem dX2_fall_72 : decode cX2_fall 72 = .ok (.iastore, 1) := by decide +kernel
theorem dX2_fall_73 : decode cX2_fall 73 = .ok (.aload_n 0, 1) := by decide +kernel
theorem dX2_fall_74 : decode cX2_fall 74 = .ok (.aload_n 0, 1) := by decide +kernel
theorem dX2_fall_75 : decode cX2_fall 75 = .ok (.getfield 28, 3) := by decide +kernel
theorem dX2_fall_78 : decode cX2_fall 78 = .ok (.aload_n 0, 1) := by decide +kernel
theorem dX2_fall_79 : decode cX2_fall 79 = .ok (.getfield 49, 3) := by decide +kernel
theorem dX2_fall_82 : decode cX2_fall 82 = .ok (.iload_n 1, 1) := by decide +kernel
theorem dX2_fall_83 : decode cX2_fall 83 = .ok (.iaload, 1) := by decide +kernel
theorem dX2_fall_84 : decode cX2_fall 84 = .ok (.iaload, 1) := by decide +kernel
theorem dX2_fall_85 : decode cX2_fall 85 = .ok (.aload_n 0, 1) := by decide +kernel
theorem dX2_fall_86 : decode cX2_fall 86 = .ok (.getfield 52, 3) := by decide +kernel
theorem dX2_fall_89 : decode cX2_fall 89 = .ok (.iload_n 1, 1) := by decide +kernel
theorem dX2_fall_90 : decode cX2_fall 90 = .ok (.iaload, 1) := by decide +kernel
theorem dX2_fall_91 : decode cX2_fall 91 = .ok (.invokevirtual 113, 3) := by decide +kernel
theorem dX2_fall_94 : decode cX2_fall 94 = .ok (.goto 13, 3) := by decide +kernel
theorem dX2_fall_97 : decode cX2_fall 97 = .ok (.aload_n 0, 1) := by decide +kernel
theorem dX2_fall_98 : decode cX2_fall 98 = .ok (.dup, 1) := by decide +kernel
theorem dX2_fall_99 : decode cX2_fall 99 = .ok (.getfield 107, 3) := by decide +kernel
theorem dX2_fall_102 : decode cX2_fall 102 = .ok (.iconst 1, 1) := by decide +kernel
theorem dX2_fall_103 : decode cX2_fall 103 = .ok (.isub, 1) := by decide +kernel
theorem dX2_fall_104 : decode cX2_fall 104 = .ok (.putfield 107, 3) := by decide +kernel
theorem dX2_fall_107 : decode cX2_fall 107 = .ok (.return_, 1) := by decide +kernel
theorem dX2_draw_0 : decode cX2_draw 0 = .ok (.iload_n 3, 1) := by decide +kernel
theorem dX2_draw_1 : decode cX2_draw 1 = .ok (.ifCond .lt 13, 3) := by decide +kernel
theorem dX2_draw_4 : decode cX2_draw 4 = .ok (.iload_n 3, 1) := by decide +kernel
theorem dX2_draw_5 : decode cX2_draw 5 = .ok (.aload_n 0, 1) := by decide +kernel
theorem dX2_draw_6 : decode cX2_draw 6 = .ok (.getfield 7, 3) := by decide +kernel
theorem dX2_draw_9 : decode cX2_draw 9 = .ok (.iload_n 1, 1) := by decide +kernel
theorem dX2_draw_10 : decode cX2_draw 10 = .ok (.iaload, 1) := by decide +kernel
theorem dX2_draw_11 : decode cX2_draw 11 = .ok (.if_icmp .le 10, 3) := by decide +kernel
theorem dX2_draw_14 : decode cX2_draw 14 = .ok (.aload_n 0, 1) := by decide +kernel
theorem dX2_draw_15 : decode cX2_draw 15 = .ok (.bipush (-3), 2) := by decide +kernel
theorem dX2_draw_17 : decode cX2_draw 17 = .ok (.putfield 104, 3) := by decide +kernel
theorem dX2_draw_20 : decode cX2_draw 20 = .ok (.return_, 1) := by decide +kernel
theorem dX2_draw_21 : decode cX2_draw 21 = .ok (.aload_n 0, 1) := by decide +kernel
theorem dX2_draw_22 : decode cX2_draw 22 = .ok (.getfield 7, 3) := by decide +kernel
theorem dX2_draw_25 : decode cX2_draw 25 = .ok (.iload_n 1, 1) := by decide +kernel
theorem dX2_draw_26 : decode cX2_draw 26 = .ok (.dup2, 1) := by decide +kernel
theorem dX2_draw_27 : decode cX2_draw 27 = .ok (.iaload, 1) := by decide +kernel
theorem dX2_draw_28 : decode cX2_draw 28 = .ok (.iload_n 3, 1) := by decide +kernel
theorem dX2_draw_29 : decode cX2_draw 29 = .ok (.isub, 1) := by decide +kernel
theorem dX2_draw_30 : decode cX2_draw 30 = .ok (.iastore, 1) := by decide +kernel
theorem dX2_draw_31 : decode cX2_draw 31 = .ok (.aload_n 0, 1) := by decide +kernel
theorem dX2_draw_32 : decode cX2_draw 32 = .ok (.getfield 7, 3) := by decide +kernel
theorem dX2_draw_35 : decode cX2_draw 35 = .ok (.iload_n 2, 1) := by decide +kernel
theorem dX2_draw_36 : decode cX2_draw 36 = .ok (.dup2, 1) := by decide +kernel
theorem dX2_draw_37 : decode cX2_draw 37 = .ok (.iaload, 1) := by decide +kernel
theorem dX2_draw_38 : decode cX2_draw 38 = .ok (.iload_n 3, 1) := by decide +kernel
theorem dX2_draw_39 : decode cX2_draw 39 = .ok (.iadd, 1) := by decide +kernel
theorem dX2_draw_40 : decode cX2_draw 40 = .ok (.iastore, 1) := by decide +kernel
theorem dX2_draw_41 : decode cX2_draw 41 = .ok (.aload_n 0, 1) := by decide +kernel
theorem dX2_draw_42 : decode cX2_draw 42 = .ok (.aload_n 0, 1) := by decide +kernel
theorem dX2_draw_43 : decode cX2_draw 43 = .ok (.getfield 7, 3) := by decide +kernel
theorem dX2_draw_46 : decode cX2_draw 46 = .ok (.iload_n 1, 1) := by decide +kernel
theorem dX2_draw_47 : decode cX2_draw 47 = .ok (.iaload, 1) := by decide +kernel
theorem dX2_draw_48 : decode cX2_draw 48 = .ok (.invokevirtual 117, 3) := by decide +kernel
theorem dX2_draw_51 : decode cX2_draw 51 = .ok (.return_, 1) := by decide +kernel
theorem dX2_alone_0 : decode cX2_alone 0 = .ok (.aload_n 0, 1) := by decide +kernel
theorem dX2_alone_1 : decode cX2_alone 1 = .ok (.getfield 25, 3) := by decide +kernel
theorem dX2_alone_4 : decode cX2_alone 4 = .ok (.iload_n 1, 1) := by decide +kernel
theorem dX2_alone_5 : decode cX2_alone 5 = .ok (.iaload, 1) := by decide +kernel
theorem dX2_alone_6 : decode cX2_alone 6 = .ok (.istore_n 3, 1) := by decide +kernel
theorem dX2_alone_7 : decode cX2_alone 7 = .ok (.aload_n 0, 1) := by decide +kernel
theorem dX2_alone_8 : decode cX2_alone 8 = .ok (.getfield 28, 3) := by decide +kernel
theorem dX2_alone_11 : decode cX2_alone 11 = .ok (.iload_n 1, 1) := by decide +kernel
theorem dX2_alone_12 : decode cX2_alone 12 = .ok (.iaload, 1) := by decide +kernel
theorem dX2_alone_13 : decode cX2_alone 13 = .ok (.istore 4, 2) := by decide +kernel
theorem dX2_alone_15 : decode cX2_alone 15 = .ok (.aload_n 0, 1) := by decide +kernel
theorem dX2_alone_16 : decode cX2_alone 16 = .ok (.getfield 22, 3) := by decide +kernel
theorem dX2_alone_19 : decode cX2_alone 19 = .ok (.iload_n 1, 1) := by decide +kernel
theorem dX2_alone_20 : decode cX2_alone 20 = .ok (.iaload, 1) := by decide +kernel
theorem dX2_alone_21 : decode cX2_alone 21 = .ok (.tableswitch 206 0 6 #[43, 51, 75, 101, 112, 173, 196], 43) := by decide +kernel
theorem dX2_alone_64 : decode cX2_alone 64 = .ok (.aload_n 0, 1) := by decide +kernel
theorem dX2_alone_65 : decode cX2_alone 65 = .ok (.iload_n 3, 1) := by decide +kernel
theorem dX2_alone_66 : decode cX2_alone 66 = .ok (.invokevirtual 117, 3) := by decide +kernel
theorem dX2_alone_69 : decode cX2_alone 69 = .ok (.goto 164, 3) := by decide +kernel
theorem dX2_alone_72 : decode cX2_alone 72 = .ok (.aload_n 0, 1) := by decide +kernel
theorem dX2_alone_73 : decode cX2_alone 73 = .ok (.getfield 7, 3) := by decide +kernel
theorem dX2_alone_76 : decode cX2_alone 76 = .ok (.iload_n 3, 1) := by decide +kernel
theorem dX2_alone_77 : decode cX2_alone 77 = .ok (.iaload, 1) := by decide +kernel
theorem dX2_alone_78 : decode cX2_alone 78 = .ok (.istore 5, 2) := by decide +kernel
theorem dX2_alone_80 : decode cX2_alone 80 = .ok (.aload_n 0, 1) := by decide +kernel
theorem dX2_alone_81 : decode cX2_alone 81 = .ok (.getfield 7, 3) := by decide +kernel
theorem dX2_alone_84 : decode cX2_alone 84 = .ok (.iload_n 3, 1) := by decide +kernel
theorem dX2_alone_85 : decode cX2_alone 85 = .ok (.iload_n 2, 1) := by decide +kernel
theorem dX2_alone_86 : decode cX2_alone 86 = .ok (.iastore, 1) := by decide +kernel
theorem dX2_alone_87 : decode cX2_alone 87 = .ok (.aload_n 0, 1) := by decide +kernel
theorem dX2_alone_88 : decode cX2_alone 88 = .ok (.iload 5, 2) := by decide +kernel
theorem dX2_alone_90 : decode cX2_alone 90 = .ok (.invokevirtual 117, 3) := by decide +kernel
theorem dX2_alone_93 : decode cX2_alone 93 = .ok (.goto 140, 3) := by decide +kernel
theorem dX2_alone_96 : decode cX2_alone 96 = .ok (.aload_n 0, 1) := by decide +kernel
theorem dX2_alone_97 : decode cX2_alone 97 = .ok (.getfield 7, 3) := by decide +kernel
theorem dX2_alone_100 : decode cX2_alone 100 = .ok (.iload_n 3, 1) := by decide +kernel
theorem dX2_alone_101 : decode cX2_alone 101 = .ok (.dup2, 1) := by decide +kernel
theorem dX2_alone_102 : decode cX2_alone 102 = .ok (.iaload, 1) := by decide +kernel
theorem dX2_alone_103 : decode cX2_alone 103 = .ok (.iload_n 2, 1) := by decide +kernel
theorem dX2_alone_104 : decode cX2_alone 104 = .ok (.iload 4, 2) := by decide +kernel
theorem dX2_alone_106 : decode cX2_alone 106 = .ok (.imul, 1) := by decide +kernel
theorem dX2_alone_107 : decode cX2_alone 107 = .ok (.iadd, 1) := by decide +kernel
theorem dX2_alone_108 : decode cX2_alone 108 = .ok (.iastore, 1) := by decide +kernel
theorem dX2_alone_109 : decode cX2_alone 109 = .ok (.aload_n 0, 1) := by decide +kernel
theorem dX2_alone_110 : decode cX2_alone 110 = .ok (.aload_n 0, 1) := by decide +kernel
theorem dX2_alone_111 : decode cX2_alone 111 = .ok (.getfield 7, 3) := by decide +kernel
theorem dX2_alone_114 : decode cX2_alone 114 = .ok (.iload_n 3, 1) := by decide +kernel
theorem dX2_alone_115 : decode cX2_alone 115 = .ok (.iaload, 1) := by decide +kernel
theorem dX2_alone_116 : decode cX2_alone 116 = .ok (.invokevirtual 117, 3) := by decide +kernel
theorem dX2_alone_119 : decode cX2_alone 119 = .ok (.goto 114, 3) := by decide +kernel
theorem dX2_alone_122 : decode cX2_alone 122 = .ok (.aload_n 0, 1) := by decide +kernel
theorem dX2_alone_123 : decode cX2_alone 123 = .ok (.iload_n 3, 1) := by decide +kernel
theorem dX2_alone_124 : decode cX2_alone 124 = .ok (.iload 4, 2) := by decide +kernel
theorem dX2_alone_126 : decode cX2_alone 126 = .ok (.iload_n 2, 1) := by decide +kernel
theorem dX2_alone_127 : decode cX2_alone 127 = .ok (.invokevirtual 121, 3) := by decide +kernel
theorem dX2_alone_130 : decode cX2_alone 130 = .ok (.goto 103, 3) := by decide +kernel
theorem dX2_alone_133 : decode cX2_alone 133 = .ok (.iload 4, 2) := by decide +kernel
theorem dX2_alone_135 : decode cX2_alone 135 = .ok (.iconst 0, 1) := by decide +kernel
theorem dX2_alone_136 : decode cX2_alone 136 = .ok (.aload_n 0, 1) := by decide +kernel
theorem dX2_alone_137 : decode cX2_alone 137 = .ok (.getfield 13, 3) := by decide +kernel
theorem dX2_alone_140 : decode cX2_alone 140 = .ok (.iload_n 3, 1) := by decide +kernel
theorem dX2_alone_141 : decode cX2_alone 141 = .ok (.iaload, 1) := by decide +kernel
theorem dX2_alone_142 : decode cX2_alone 142 = .ok (.iconst 1, 1) := by decide +kernel
theorem dX2_alone_143 : decode cX2_alone 143 = .ok (.isub, 1) := by decide +kernel
theorem dX2_alone_144 : decode cX2_alone 144 = .ok (.invokestatic 83, 3) := by decide +kernel
theorem dX2_alone_147 : decode cX2_alone 147 = .ok (.ifCond .eq 38, 3) := by decide +kernel
theorem dX2_alone_150 : decode cX2_alone 150 = .ok (.aload_n 0, 1) := by decide +kernel
theorem dX2_alone_151 : decode cX2_alone 151 = .ok (.getfield 16, 3) := by decide +kernel
theorem dX2_alone_154 : decode cX2_alone 154 = .ok (.bipush 6, 2) := by decide +kernel
theorem dX2_alone_156 : decode cX2_alone 156 = .ok (.iload_n 3, 1) := by decide +kernel
theorem dX2_alone_157 : decode cX2_alone 157 = .ok (.imul, 1) := by decide +kernel
theorem dX2_alone_158 : decode cX2_alone 158 = .ok (.iload 4, 2) := by decide +kernel
theorem dX2_alone_160 : decode cX2_alone 160 = .ok (.iadd, 1) := by decide +kernel
theorem dX2_alone_161 : decode cX2_alone 161 = .ok (.dup2, 1) := by decide +kernel
theorem dX2_alone_162 : decode cX2_alone 162 = .ok (.iaload, 1) := by decide +kernel
theorem dX2_alone_163 : decode cX2_alone 163 = .ok (.iload_n 2, 1) := by decide +kernel
theorem dX2_alone_164 : decode cX2_alone 164 = .ok (.iadd, 1) := by decide +kernel
theorem dX2_alone_165 : decode cX2_alone 165 = .ok (.iastore, 1) := by decide +kernel
theorem dX2_alone_166 : decode cX2_alone 166 = .ok (.aload_n 0, 1) := by decide +kernel
theorem dX2_alone_167 : decode cX2_alone 167 = .ok (.aload_n 0, 1) := by decide +kernel
theorem dX2_alone_168 : decode cX2_alone 168 = .ok (.getfield 16, 3) := by decide +kernel
theorem dX2_alone_171 : decode cX2_alone 171 = .ok (.bipush 6, 2) := by decide +kernel
theorem dX2_alone_173 : decode cX2_alone 173 = .ok (.iload_n 3, 1) := by decide +kernel
theorem dX2_alone_174 : decode cX2_alone 174 = .ok (.imul, 1) := by decide +kernel
theorem dX2_alone_175 : decode cX2_alone 175 = .ok (.iload 4, 2) := by decide +kernel
theorem dX2_alone_177 : decode cX2_alone 177 = .ok (.iadd, 1) := by decide +kernel
theorem dX2_alone_178 : decode cX2_alone 178 = .ok (.iaload, 1) := by decide +kernel
theorem dX2_alone_179 : decode cX2_alone 179 = .ok (.invokevirtual 117, 3) := by decide +kernel
theorem dX2_alone_182 : decode cX2_alone 182 = .ok (.goto 51, 3) := by decide +kernel
theorem dX2_alone_185 : decode cX2_alone 185 = .ok (.aload_n 0, 1) := by decide +kernel
theorem dX2_alone_186 : decode cX2_alone 186 = .ok (.bipush (-4), 2) := by decide +kernel
theorem dX2_alone_188 : decode cX2_alone 188 = .ok (.putfield 104, 3) := by decide +kernel
theorem dX2_alone_191 : decode cX2_alone 191 = .ok (.goto 42, 3) := by decide +kernel
theorem dX2_alone_194 : decode cX2_alone 194 = .ok (.iload_n 3, 1) := by decide +kernel
theorem dX2_alone_195 : decode cX2_alone 195 = .ok (.ifCond .ne 12, 3) := by decide +kernel
theorem dX2_alone_198 : decode cX2_alone 198 = .ok (.aload_n 0, 1) := by decide +kernel
theorem dX2_alone_199 : decode cX2_alone 199 = .ok (.bipush (-5), 2) := by decide +kernel
theorem dX2_alone_201 : decode cX2_alone 201 = .ok (.putfield 104, 3) := by decide +kernel
theorem dX2_alone_204 : decode cX2_alone 204 = .ok (.goto 29, 3) := by decide +kernel
theorem dX2_alone_207 : decode cX2_alone 207 = .ok (.aload_n 0, 1) := by decide +kernel
theorem dX2_alone_208 : decode cX2_alone 208 = .ok (.iload_n 2, 1) := by decide +kernel
theorem dX2_alone_209 : decode cX2_alone 209 = .ok (.iload_n 3, 1) := by decide +kernel
theorem dX2_alone_210 : decode cX2_alone 210 = .ok (.idiv, 1) := by decide +kernel
theorem dX2_alone_211 : decode cX2_alone 211 = .ok (.invokevirtual 117, 3) := by decide +kernel
theorem dX2_alone_214 : decode cX2_alone 214 = .ok (.goto 19, 3) := by decide +kernel
theorem dX2_alone_217 : decode cX2_alone 217 = .ok (.aload_n 0, 1) := by decide +kernel
theorem dX2_alone_218 : decode cX2_alone 218 = .ok (.iload_n 2, 1) := by decide +kernel
theorem dX2_alone_219 : decode cX2_alone 219 = .ok (.iload_n 3, 1) := by decide +kernel
theorem dX2_alone_220 : decode cX2_alone 220 = .ok (.iadd, 1) := by decide +kernel
theorem dX2_alone_221 : decode cX2_alone 221 = .ok (.invokevirtual 117, 3) := by decide +kernel
theorem dX2_alone_224 : decode cX2_alone 224 = .ok (.goto 9, 3) := by decide +kernel
theorem dX2_alone_227 : decode cX2_alone 227 = .ok (.aload_n 0, 1) := by decide +kernel
theorem dX2_alone_228 : decode cX2_alone 228 = .ok (.iload_n 3, 1) := by decide +kernel
theorem dX2_alone_229 : decode cX2_alone 229 = .ok (.iload_n 2, 1) := by decide +kernel
theorem dX2_alone_230 : decode cX2_alone 230 = .ok (.invokevirtual 125, 3) := by decide +kernel
theorem dX2_alone_233 : decode cX2_alone 233 = .ok (.return_, 1) := by decide +kernel
theorem dX2_later_0 : decode cX2_later 0 = .ok (.aload_n 0, 1) := by decide +kernel
theorem dX2_later_1 : decode cX2_later 1 = .ok (.getfield 71, 3) := by decide +kernel
theorem dX2_later_4 : decode cX2_later 4 = .ok (.bipush 12, 2) := by decide +kernel
theorem dX2_later_6 : decode cX2_later 6 = .ok (.if_icmp .ne 10, 3) := by decide +kernel
theorem dX2_later_9 : decode cX2_later 9 = .ok (.aload_n 0, 1) := by decide +kernel
theorem dX2_later_10 : decode cX2_later 10 = .ok (.bipush (-7), 2) := by decide +kernel
theorem dX2_later_12 : decode cX2_later 12 = .ok (.putfield 104, 3) := by decide +kernel
theorem dX2_later_15 : decode cX2_later 15 = .ok (.return_, 1) := by decide +kernel
theorem dX2_later_16 : decode cX2_later 16 = .ok (.aload_n 0, 1) := by decide +kernel
theorem dX2_later_17 : decode cX2_later 17 = .ok (.getfield 43, 3) := by decide +kernel
theorem dX2_later_20 : decode cX2_later 20 = .ok (.aload_n 0, 1) := by decide +kernel
theorem dX2_later_21 : decode cX2_later 21 = .ok (.getfield 71, 3) := by decide +kernel
theorem dX2_later_24 : decode cX2_later 24 = .ok (.iload_n 1, 1) := by decide +kernel
theorem dX2_later_25 : decode cX2_later 25 = .ok (.iastore, 1) := by decide +kernel
theorem dX2_later_26 : decode cX2_later 26 = .ok (.aload_n 0, 1) := by decide +kernel
theorem dX2_later_27 : decode cX2_later 27 = .ok (.getfield 46, 3) := by decide +kernel
theorem dX2_later_30 : decode cX2_later 30 = .ok (.aload_n 0, 1) := by decide +kernel
theorem dX2_later_31 : decode cX2_later 31 = .ok (.getfield 71, 3) := by decide +kernel
theorem dX2_later_34 : decode cX2_later 34 = .ok (.iload_n 2, 1) := by decide +kernel
theorem dX2_later_35 : decode cX2_later 35 = .ok (.iastore, 1) := by decide +kernel
theorem dX2_later_36 : decode cX2_later 36 = .ok (.aload_n 0, 1) := by decide +kernel
theorem dX2_later_37 : decode cX2_later 37 = .ok (.dup, 1) := by decide +kernel
theorem dX2_later_38 : decode cX2_later 38 = .ok (.getfield 71, 3) := by decide +kernel
theorem dX2_later_41 : decode cX2_later 41 = .ok (.iconst 1, 1) := by decide +kernel
theorem dX2_later_42 : decode cX2_later 42 = .ok (.iadd, 1) := by decide +kernel
theorem dX2_later_43 : decode cX2_later 43 = .ok (.putfield 71, 3) := by decide +kernel
theorem dX2_later_46 : decode cX2_later 46 = .ok (.aload_n 0, 1) := by decide +kernel
theorem dX2_later_47 : decode cX2_later 47 = .ok (.aload_n 0, 1) := by decide +kernel
theorem dX2_later_48 : decode cX2_later 48 = .ok (.getfield 71, 3) := by decide +kernel
theorem dX2_later_51 : decode cX2_later 51 = .ok (.invokevirtual 117, 3) := by decide +kernel
theorem dX2_later_54 : decode cX2_later 54 = .ok (.return_, 1) := by decide +kernel
theorem dX2_goOn_0 : decode cX2_goOn 0 = .ok (.aload_n 0, 1) := by decide +kernel
theorem dX2_goOn_1 : decode cX2_goOn 1 = .ok (.getfield 107, 3) := by decide +kernel
theorem dX2_goOn_4 : decode cX2_goOn 4 = .ok (.iconst 1, 1) := by decide +kernel
theorem dX2_goOn_5 : decode cX2_goOn 5 = .ok (.isub, 1) := by decide +kernel
theorem dX2_goOn_6 : decode cX2_goOn 6 = .ok (.istore_n 1, 1) := by decide +kernel
theorem dX2_goOn_7 : decode cX2_goOn 7 = .ok (.aload_n 0, 1) := by decide +kernel
theorem dX2_goOn_8 : decode cX2_goOn 8 = .ok (.getfield 49, 3) := by decide +kernel
theorem dX2_goOn_11 : decode cX2_goOn 11 = .ok (.iload_n 1, 1) := by decide +kernel
theorem dX2_goOn_12 : decode cX2_goOn 12 = .ok (.iaload, 1) := by decide +kernel
theorem dX2_goOn_13 : decode cX2_goOn 13 = .ok (.istore_n 2, 1) := by decide +kernel
theorem dX2_goOn_14 : decode cX2_goOn 14 = .ok (.aload_n 0, 1) := by decide +kernel
theorem dX2_goOn_15 : decode cX2_goOn 15 = .ok (.getfield 52, 3) := by decide +kernel
theorem dX2_goOn_18 : decode cX2_goOn 18 = .ok (.iload_n 1, 1) := by decide +kernel
theorem dX2_goOn_19 : decode cX2_goOn 19 = .ok (.iaload, 1) := by decide +kernel
theorem dX2_goOn_20 : decode cX2_goOn 20 = .ok (.istore_n 3, 1) := by decide +kernel
theorem dX2_goOn_21 : decode cX2_goOn 21 = .ok (.aload_n 0, 1) := by decide +kernel
theorem dX2_goOn_22 : decode cX2_goOn 22 = .ok (.getfield 58, 3) := by decide +kernel
theorem dX2_goOn_25 : decode cX2_goOn 25 = .ok (.iload_n 1, 1) := by decide +kernel
theorem dX2_goOn_26 : decode cX2_goOn 26 = .ok (.iaload, 1) := by decide +kernel
theorem dX2_goOn_27 : decode cX2_goOn 27 = .ok (.istore 4, 2) := by decide +kernel
theorem dX2_goOn_29 : decode cX2_goOn 29 = .ok (.aload_n 0, 1) := by decide +kernel
theorem dX2_goOn_30 : decode cX2_goOn 30 = .ok (.getfield 55, 3) := by decide +kernel
theorem dX2_goOn_33 : decode cX2_goOn 33 = .ok (.iload_n 1, 1) := by decide +kernel
theorem dX2_goOn_34 : decode cX2_goOn 34 = .ok (.iaload, 1) := by decide +kernel
theorem dX2_goOn_35 : decode cX2_goOn 35 = .ok (.istore 5, 2) := by decide +kernel
theorem dX2_goOn_37 : decode cX2_goOn 37 = .ok (.aload_n 0, 1) := by decide +kernel
theorem dX2_goOn_38 : decode cX2_goOn 38 = .ok (.getfield 55, 3) := by decide +kernel
theorem dX2_goOn_41 : decode cX2_goOn 41 = .ok (.iload_n 1, 1) := by decide +kernel
theorem dX2_goOn_42 : decode cX2_goOn 42 = .ok (.dup2, 1) := by decide +kernel
theorem dX2_goOn_43 : decode cX2_goOn 43 = .ok (.iaload, 1) := by decide +kernel
theorem dX2_goOn_44 : decode cX2_goOn 44 = .ok (.iconst 1, 1) := by decide +kernel
theorem dX2_goOn_45 : decode cX2_goOn 45 = .ok (.iadd, 1) := by decide +kernel
theorem dX2_goOn_46 : decode cX2_goOn 46 = .ok (.iastore, 1) := by decide +kernel
theorem dX2_goOn_47 : decode cX2_goOn 47 = .ok (.aload_n 0, 1) := by decide +kernel
theorem dX2_goOn_48 : decode cX2_goOn 48 = .ok (.getfield 22, 3) := by decide +kernel
theorem dX2_goOn_51 : decode cX2_goOn 51 = .ok (.iload_n 2, 1) := by decide +kernel
theorem dX2_goOn_52 : decode cX2_goOn 52 = .ok (.iaload, 1) := by decide +kernel
theorem dX2_goOn_53 : decode cX2_goOn 53 = .ok (.tableswitch 313 7 14 #[47, 91, 143, 178, 313, 231, 273, 178], 47) := by decide +kernel
theorem dX2_goOn_100 : decode cX2_goOn 100 = .ok (.iload 5, 2) := by decide +kernel
theorem dX2_goOn_102 : decode cX2_goOn 102 = .ok (.iconst 2, 1) := by decide +kernel
theorem dX2_goOn_103 : decode cX2_goOn 103 = .ok (.if_icmp .ge 32, 3) := by decide +kernel
theorem dX2_goOn_106 : decode cX2_goOn 106 = .ok (.aload_n 0, 1) := by decide +kernel
theorem dX2_goOn_107 : decode cX2_goOn 107 = .ok (.iload 5, 2) := by decide +kernel
theorem dX2_goOn_109 : decode cX2_goOn 109 = .ok (.ifCond .ne 12, 3) := by decide +kernel
theorem dX2_goOn_112 : decode cX2_goOn 112 = .ok (.aload_n 0, 1) := by decide +kernel
theorem dX2_goOn_113 : decode cX2_goOn 113 = .ok (.getfield 25, 3) := by decide +kernel
theorem dX2_goOn_116 : decode cX2_goOn 116 = .ok (.iload_n 2, 1) := by decide +kernel
theorem dX2_goOn_117 : decode cX2_goOn 117 = .ok (.iaload, 1) := by decide +kernel
theorem dX2_goOn_118 : decode cX2_goOn 118 = .ok (.goto 9, 3) := by decide +kernel
theorem dX2_goOn_121 : decode cX2_goOn 121 = .ok (.aload_n 0, 1) := by decide +kernel
theorem dX2_goOn_122 : decode cX2_goOn 122 = .ok (.getfield 28, 3) := by decide +kernel
theorem dX2_goOn_125 : decode cX2_goOn 125 = .ok (.iload_n 2, 1) := by decide +kernel
theorem dX2_goOn_126 : decode cX2_goOn 126 = .ok (.iaload, 1) := by decide +kernel
theorem dX2_goOn_127 : decode cX2_goOn 127 = .ok (.iload 4, 2) := by decide +kernel
theorem dX2_goOn_129 : decode cX2_goOn 129 = .ok (.invokevirtual 113, 3) := by decide +kernel
theorem dX2_goOn_132 : decode cX2_goOn 132 = .ok (.goto 240, 3) := by decide +kernel
theorem dX2_goOn_135 : decode cX2_goOn 135 = .ok (.aload_n 0, 1) := by decide +kernel
theorem dX2_goOn_136 : decode cX2_goOn 136 = .ok (.iload 4, 2) := by decide +kernel
theorem dX2_goOn_138 : decode cX2_goOn 138 = .ok (.invokevirtual 117, 3) := by decide +kernel
theorem dX2_goOn_141 : decode cX2_goOn 141 = .ok (.goto 231, 3) := by decide +kernel
theorem dX2_goOn_144 : decode cX2_goOn 144 = .ok (.iload 5, 2) := by decide +kernel
theorem dX2_goOn_146 : decode cX2_goOn 146 = .ok (.ifCond .ne 41, 3) := by decide +kernel
theorem dX2_goOn_149 : decode cX2_goOn 149 = .ok (.aload_n 0, 1) := by decide +kernel
theorem dX2_goOn_150 : decode cX2_goOn 150 = .ok (.aload_n 0, 1) := by decide +kernel
theorem dX2_goOn_151 : decode cX2_goOn 151 = .ok (.getfield 7, 3) := by decide +kernel
theorem dX2_goOn_154 : decode cX2_goOn 154 = .ok (.aload_n 0, 1) := by decide +kernel
theorem dX2_goOn_155 : decode cX2_goOn 155 = .ok (.getfield 31, 3) := by decide +kernel
theorem dX2_goOn_158 : decode cX2_goOn 158 = .ok (.iload_n 2, 1) := by decide +kernel
theorem dX2_goOn_159 : decode cX2_goOn 159 = .ok (.iaload, 1) := by decide +kernel
theorem dX2_goOn_160 : decode cX2_goOn 160 = .ok (.iaload, 1) := by decide +kernel
theorem dX2_goOn_161 : decode cX2_goOn 161 = .ok (.iload_n 3, 1) := by decide +kernel
theorem dX2_goOn_162 : decode cX2_goOn 162 = .ok (.if_icmp .le 12, 3) := by decide +kernel
theorem dX2_goOn_165 : decode cX2_goOn 165 = .ok (.aload_n 0, 1) := by decide +kernel
theorem dX2_goOn_166 : decode cX2_goOn 166 = .ok (.getfield 28, 3) := by decide +kernel
theorem dX2_goOn_169 : decode cX2_goOn 169 = .ok (.iload_n 2, 1) := by decide +kernel
theorem dX2_goOn_170 : decode cX2_goOn 170 = .ok (.iaload, 1) := by decide +kernel
theorem dX2_goOn_171 : decode cX2_goOn 171 = .ok (.goto 9, 3) := by decide +kernel
theorem dX2_goOn_174 : decode cX2_goOn 174 = .ok (.aload_n 0, 1) := by decide +kernel
theorem dX2_goOn_175 : decode cX2_goOn 175 = .ok (.getfield 25, 3) := by decide +kernel
theorem dX2_goOn_178 : decode cX2_goOn 178 = .ok (.iload_n 2, 1) := by decide +kernel
theorem dX2_goOn_179 : decode cX2_goOn 179 = .ok (.iaload, 1) := by decide +kernel
theorem dX2_goOn_180 : decode cX2_goOn 180 = .ok (.iload_n 3, 1) := by decide +kernel
theorem dX2_goOn_181 : decode cX2_goOn 181 = .ok (.invokevirtual 113, 3) := by decide +kernel
theorem dX2_goOn_184 : decode cX2_goOn 184 = .ok (.goto 188, 3) := by decide +kernel
theorem dX2_goOn_187 : decode cX2_goOn 187 = .ok (.aload_n 0, 1) := by decide +kernel
theorem dX2_goOn_188 : decode cX2_goOn 188 = .ok (.iload 4, 2) := by decide +kernel
theorem dX2_goOn_190 : decode cX2_goOn 190 = .ok (.invokevirtual 117, 3) := by decide +kernel
theorem dX2_goOn_193 : decode cX2_goOn 193 = .ok (.goto 179, 3) := by decide +kernel
theorem dX2_goOn_196 : decode cX2_goOn 196 = .ok (.iload 5, 2) := by decide +kernel
theorem dX2_goOn_198 : decode cX2_goOn 198 = .ok (.aload_n 0, 1) := by decide +kernel
theorem dX2_goOn_199 : decode cX2_goOn 199 = .ok (.getfield 28, 3) := by decide +kernel
theorem dX2_goOn_202 : decode cX2_goOn 202 = .ok (.iload_n 2, 1) := by decide +kernel
theorem dX2_goOn_203 : decode cX2_goOn 203 = .ok (.iaload, 1) := by decide +kernel
theorem dX2_goOn_204 : decode cX2_goOn 204 = .ok (.if_icmp .ge 18, 3) := by decide +kernel
theorem dX2_goOn_207 : decode cX2_goOn 207 = .ok (.aload_n 0, 1) := by decide +kernel
theorem dX2_goOn_208 : decode cX2_goOn 208 = .ok (.aload_n 0, 1) := by decide +kernel
theorem dX2_goOn_209 : decode cX2_goOn 209 = .ok (.getfield 25, 3) := by decide +kernel
theorem dX2_goOn_212 : decode cX2_goOn 212 = .ok (.iload_n 2, 1) := by decide +kernel
theorem dX2_goOn_213 : decode cX2_goOn 213 = .ok (.iaload, 1) := by decide +kernel
theorem dX2_goOn_214 : decode cX2_goOn 214 = .ok (.iload 4, 2) := by decide +kernel
theorem dX2_goOn_216 : decode cX2_goOn 216 = .ok (.invokevirtual 113, 3) := by decide +kernel
theorem dX2_goOn_219 : decode cX2_goOn 219 = .ok (.goto 153, 3) := by decide +kernel
theorem dX2_goOn_222 : decode cX2_goOn 222 = .ok (.aload_n 0, 1) := by decide +kernel
theorem dX2_goOn_223 : decode cX2_goOn 223 = .ok (.iload 4, 2) := by decide +kernel
theorem dX2_goOn_225 : decode cX2_goOn 225 = .ok (.invokevirtual 117, 3) := by decide +kernel
theorem dX2_goOn_228 : decode cX2_goOn 228 = .ok (.goto 144, 3) := by decide +kernel
theorem dX2_goOn_231 : decode cX2_goOn 231 = .ok (.iload 5, 2) := by decide +kernel
theorem dX2_goOn_233 : decode cX2_goOn 233 = .ok (.ifCond .ne 42, 3) := by decide +kernel
theorem dX2_goOn_236 : decode cX2_goOn 236 = .ok (.aload_n 0, 1) := by decide +kernel
theorem dX2_goOn_237 : decode cX2_goOn 237 = .ok (.aload_n 0, 1) := by decide +kernel
theorem dX2_goOn_238 : decode cX2_goOn 238 = .ok (.getfield 22, 3) := by decide +kernel
theorem dX2_goOn_241 : decode cX2_goOn 241 = .ok (.iload_n 2, 1) := by decide +kernel
theorem dX2_goOn_242 : decode cX2_goOn 242 = .ok (.iaload, 1) := by decide +kernel
theorem dX2_goOn_243 : decode cX2_goOn 243 = .ok (.bipush 10, 2) := by decide +kernel
theorem dX2_goOn_245 : decode cX2_goOn 245 = .ok (.if_icmp .ne 12, 3) := by decide +kernel
theorem dX2_goOn_248 : decode cX2_goOn 248 = .ok (.aload_n 0, 1) := by decide +kernel
theorem dX2_goOn_249 : decode cX2_goOn 249 = .ok (.getfield 25, 3) := by decide +kernel
theorem dX2_goOn_252 : decode cX2_goOn 252 = .ok (.iload_n 2, 1) := by decide +kernel
theorem dX2_goOn_253 : decode cX2_goOn 253 = .ok (.iaload, 1) := by decide +kernel
theorem dX2_goOn_254 : decode cX2_goOn 254 = .ok (.goto 14, 3) := by decide +kernel
theorem dX2_goOn_257 : decode cX2_goOn 257 = .ok (.aload_n 0, 1) := by decide +kernel
theorem dX2_goOn_258 : decode cX2_goOn 258 = .ok (.getfield 37, 3) := by decide +kernel
theorem dX2_goOn_261 : decode cX2_goOn 261 = .ok (.aload_n 0, 1) := by decide +kernel
theorem dX2_goOn_262 : decode cX2_goOn 262 = .ok (.getfield 25, 3) := by decide +kernel
theorem dX2_goOn_265 : decode cX2_goOn 265 = .ok (.iload_n 2, 1) := by decide +kernel
theorem dX2_goOn_266 : decode cX2_goOn 266 = .ok (.iaload, 1) := by decide +kernel
theorem dX2_goOn_267 : decode cX2_goOn 267 = .ok (.iaload, 1) := by decide +kernel
theorem dX2_goOn_268 : decode cX2_goOn 268 = .ok (.iload_n 3, 1) := by decide +kernel
theorem dX2_goOn_269 : decode cX2_goOn 269 = .ok (.invokevirtual 113, 3) := by decide +kernel
theorem dX2_goOn_272 : decode cX2_goOn 272 = .ok (.goto 100, 3) := by decide +kernel
theorem dX2_goOn_275 : decode cX2_goOn 275 = .ok (.aload_n 0, 1) := by decide +kernel
theorem dX2_goOn_276 : decode cX2_goOn 276 = .ok (.iload 4, 2) := by decide +kernel
theorem dX2_goOn_278 : decode cX2_goOn 278 = .ok (.invokevirtual 117, 3) := by decide +kernel
theorem dX2_goOn_281 : decode cX2_goOn 281 = .ok (.goto 91, 3) := by decide +kernel
theorem dX2_goOn_284 : decode cX2_goOn 284 = .ok (.iload 5, 2) := by decide +kernel
theorem dX2_goOn_286 : decode cX2_goOn 286 = .ok (.ifCond .ne 17, 3) := by decide +kernel
theorem dX2_goOn_289 : decode cX2_goOn 289 = .ok (.aload_n 0, 1) := by decide +kernel
theorem dX2_goOn_290 : decode cX2_goOn 290 = .ok (.aload_n 0, 1) := by decide +kernel
theorem dX2_goOn_291 : decode cX2_goOn 291 = .ok (.getfield 25, 3) := by decide +kernel
theorem dX2_goOn_294 : decode cX2_goOn 294 = .ok (.iload_n 2, 1) := by decide +kernel
theorem dX2_goOn_295 : decode cX2_goOn 295 = .ok (.iaload, 1) := by decide +kernel
theorem dX2_goOn_296 : decode cX2_goOn 296 = .ok (.iload_n 3, 1) := by decide +kernel
theorem dX2_goOn_297 : decode cX2_goOn 297 = .ok (.invokevirtual 113, 3) := by decide +kernel
theorem dX2_goOn_300 : decode cX2_goOn 300 = .ok (.goto 72, 3) := by decide +kernel
theorem dX2_goOn_303 : decode cX2_goOn 303 = .ok (.aload_n 0, 1) := by decide +kernel
theorem dX2_goOn_304 : decode cX2_goOn 304 = .ok (.getfield 34, 3) := by decide +kernel
theorem dX2_goOn_307 : decode cX2_goOn 307 = .ok (.iload_n 2, 1) := by decide +kernel
theorem dX2_goOn_308 : decode cX2_goOn 308 = .ok (.dup2, 1) := by decide +kernel
theorem dX2_goOn_309 : decode cX2_goOn 309 = .ok (.iaload, 1) := by decide +kernel
theorem dX2_goOn_310 : decode cX2_goOn 310 = .ok (.iconst 1, 1) := by decide +kernel
theorem dX2_goOn_311 : decode cX2_goOn 311 = .ok (.iadd, 1) := by decide +kernel
theorem dX2_goOn_312 : decode cX2_goOn 312 = .ok (.iastore, 1) := by decide +kernel
theorem dX2_goOn_313 : decode cX2_goOn 313 = .ok (.aload_n 0, 1) := by decide +kernel
theorem dX2_goOn_314 : decode cX2_goOn 314 = .ok (.aload_n 0, 1) := by decide +kernel
theorem dX2_goOn_315 : decode cX2_goOn 315 = .ok (.getfield 34, 3) := by decide +kernel
theorem dX2_goOn_318 : decode cX2_goOn 318 = .ok (.iload_n 2, 1) := by decide +kernel
theorem dX2_goOn_319 : decode cX2_goOn 319 = .ok (.iaload, 1) := by decide +kernel
theorem dX2_goOn_320 : decode cX2_goOn 320 = .ok (.invokevirtual 117, 3) := by decide +kernel
theorem dX2_goOn_323 : decode cX2_goOn 323 = .ok (.goto 49, 3) := by decide +kernel
theorem dX2_goOn_326 : decode cX2_goOn 326 = .ok (.iload 5, 2) := by decide +kernel
theorem dX2_goOn_328 : decode cX2_goOn 328 = .ok (.iconst 4, 1) := by decide +kernel
theorem dX2_goOn_329 : decode cX2_goOn 329 = .ok (.if_icmp .ge 28, 3) := by decide +kernel
theorem dX2_goOn_332 : decode cX2_goOn 332 = .ok (.aload_n 0, 1) := by decide +kernel
theorem dX2_goOn_333 : decode cX2_goOn 333 = .ok (.aload_n 0, 1) := by decide +kernel
theorem dX2_goOn_334 : decode cX2_goOn 334 = .ok (.getfield 40, 3) := by decide +kernel
theorem dX2_goOn_337 : decode cX2_goOn 337 = .ok (.iconst 4, 1) := by decide +kernel
theorem dX2_goOn_338 : decode cX2_goOn 338 = .ok (.aload_n 0, 1) := by decide +kernel
theorem dX2_goOn_339 : decode cX2_goOn 339 = .ok (.getfield 25, 3) := by decide +kernel
theorem dX2_goOn_342 : decode cX2_goOn 342 = .ok (.iload_n 2, 1) := by decide +kernel
theorem dX2_goOn_343 : decode cX2_goOn 343 = .ok (.iaload, 1) := by decide +kernel
theorem dX2_goOn_344 : decode cX2_goOn 344 = .ok (.imul, 1) := by decide +kernel
theorem dX2_goOn_345 : decode cX2_goOn 345 = .ok (.iload 5, 2) := by decide +kernel
theorem dX2_goOn_347 : decode cX2_goOn 347 = .ok (.iadd, 1) := by decide +kernel
theorem dX2_goOn_348 : decode cX2_goOn 348 = .ok (.iaload, 1) := by decide +kernel
theorem dX2_goOn_349 : decode cX2_goOn 349 = .ok (.iload 4, 2) := by decide +kernel
theorem dX2_goOn_351 : decode cX2_goOn 351 = .ok (.invokevirtual 113, 3) := by decide +kernel
theorem dX2_goOn_354 : decode cX2_goOn 354 = .ok (.goto 18, 3) := by decide +kernel
theorem dX2_goOn_357 : decode cX2_goOn 357 = .ok (.aload_n 0, 1) := by decide +kernel
theorem dX2_goOn_358 : decode cX2_goOn 358 = .ok (.iload 4, 2) := by decide +kernel
theorem dX2_goOn_360 : decode cX2_goOn 360 = .ok (.invokevirtual 117, 3) := by decide +kernel
theorem dX2_goOn_363 : decode cX2_goOn 363 = .ok (.goto 9, 3) := by decide +kernel
theorem dX2_goOn_366 : decode cX2_goOn 366 = .ok (.aload_n 0, 1) := by decide +kernel
theorem dX2_goOn_367 : decode cX2_goOn 367 = .ok (.iload_n 2, 1) := by decide +kernel
theorem dX2_goOn_368 : decode cX2_goOn 368 = .ok (.iload_n 3, 1) := by decide +kernel
theorem dX2_goOn_369 : decode cX2_goOn 369 = .ok (.invokevirtual 128, 3) := by decide +kernel
theorem dX2_goOn_372 : decode cX2_goOn 372 = .ok (.return_, 1) := by decide +kernel
theorem dX2_doing_0 : decode cX2_doing 0 = .ok (.aload_n 0, 1) := by decide +kernel
theorem dX2_doing_1 : decode cX2_doing 1 = .ok (.iconst 0, 1) := by decide +kernel
theorem dX2_doing_2 : decode cX2_doing 2 = .ok (.putfield 107, 3) := by decide +kernel
theorem dX2_doing_5 : decode cX2_doing 5 = .ok (.aload_n 0, 1) := by decide +kernel
theorem dX2_doing_6 : decode cX2_doing 6 = .ok (.iconst 0, 1) := by decide +kernel
theorem dX2_doing_7 : decode cX2_doing 7 = .ok (.putfield 104, 3) := by decide +kernel
theorem dX2_doing_10 : decode cX2_doing 10 = .ok (.aload_n 0, 1) := by decide +kernel
theorem dX2_doing_11 : decode cX2_doing 11 = .ok (.iconst 0, 1) := by decide +kernel
theorem dX2_doing_12 : decode cX2_doing 12 = .ok (.putfield 110, 3) := by decide +kernel
theorem dX2_doing_15 : decode cX2_doing 15 = .ok (.aload_n 0, 1) := by decide +kernel
theorem dX2_doing_16 : decode cX2_doing 16 = .ok (.iload_n 1, 1) := by decide +kernel
theorem dX2_doing_17 : decode cX2_doing 17 = .ok (.iload_n 2, 1) := by decide +kernel
theorem dX2_doing_18 : decode cX2_doing 18 = .ok (.invokevirtual 113, 3) := by decide +kernel
theorem dX2_doing_21 : decode cX2_doing 21 = .ok (.aload_n 0, 1) := by decide +kernel
theorem dX2_doing_22 : decode cX2_doing 22 = .ok (.getfield 107, 3) := by decide +kernel
theorem dX2_doing_25 : decode cX2_doing 25 = .ok (.ifCond .le 24, 3) := by decide +kernel
theorem dX2_doing_28 : decode cX2_doing 28 = .ok (.aload_n 0, 1) := by decide +kernel
theorem dX2_doing_29 : decode cX2_doing 29 = .ok (.getfield 104, 3) := by decide +kernel
theorem dX2_doing_32 : decode cX2_doing 32 = .ok (.ifCond .eq 10, 3) := by decide +kernel
theorem dX2_doing_35 : decode cX2_doing 35 = .ok (.aload_n 0, 1) := by decide +kernel
theorem dX2_doing_36 : decode cX2_doing 36 = .ok (.invokevirtual 131, 3) := by decide +kernel
theorem dX2_doing_39 : decode cX2_doing 39 = .ok (.goto (-18), 3) := by decide +kernel
theorem dX2_doing_42 : decode cX2_doing 42 = .ok (.aload_n 0, 1) := by decide +kernel
theorem dX2_doing_43 : decode cX2_doing 43 = .ok (.invokevirtual 134, 3) := by decide +kernel
theorem dX2_doing_46 : decode cX2_doing 46 = .ok (.goto (-25), 3) := by decide +kernel
theorem dX2_doing_49 : decode cX2_doing 49 = .ok (.aload_n 0, 1) := by decide +kernel
theorem dX2_doing_50 : decode cX2_doing 50 = .ok (.getfield 104, 3) := by decide +kernel
theorem dX2_doing_53 : decode cX2_doing 53 = .ok (.ireturn, 1) := by decide +kernel
theorem dX2_refuse_0 : decode cX2_refuse 0 = .ok (.aload_n 0, 1) := by decide +kernel
theorem dX2_refuse_1 : decode cX2_refuse 1 = .ok (.iload_n 1, 1) := by decide +kernel
theorem dX2_refuse_2 : decode cX2_refuse 2 = .ok (.putfield 77, 3) := by decide +kernel
theorem dX2_refuse_5 : decode cX2_refuse 5 = .ok (.aload_n 0, 1) := by decide +kernel
theorem dX2_refuse_6 : decode cX2_refuse 6 = .ok (.iconst 0, 1) := by decide +kernel
theorem dX2_refuse_7 : decode cX2_refuse 7 = .ok (.putfield 74, 3) := by decide +kernel
theorem dX2_refuse_10 : decode cX2_refuse 10 = .ok (.iconst 0, 1) := by decide +kernel
theorem dX2_refuse_11 : decode cX2_refuse 11 = .ok (.ireturn, 1) := by decide +kernel
theorem dX2_act_0 : decode cX2_act 0 = .ok (.iload_n 1, 1) := by decide +kernel
theorem dX2_act_1 : decode cX2_act 1 = .ok (.invokestatic 91, 3) := by decide +kernel
theorem dX2_act_4 : decode cX2_act 4 = .ok (.ifCond .ne 9, 3) := by decide +kernel
theorem dX2_act_7 : decode cX2_act 7 = .ok (.aload_n 0, 1) := by decide +kernel
theorem dX2_act_8 : decode cX2_act 8 = .ok (.iconst (-1), 1) := by decide +kernel
theorem dX2_act_9 : decode cX2_act 9 = .ok (.invokevirtual 137, 3) := by decide +kernel
theorem dX2_act_12 : decode cX2_act 12 = .ok (.ireturn, 1) := by decide +kernel
theorem dX2_act_13 : decode cX2_act 13 = .ok (.aload_n 0, 1) := by decide +kernel
theorem dX2_act_14 : decode cX2_act 14 = .ok (.getfield 37, 3) := by decide +kernel
theorem dX2_act_17 : decode cX2_act 17 = .ok (.iload_n 1, 1) := by decide +kernel
theorem dX2_act_18 : decode cX2_act 18 = .ok (.iaload, 1) := by decide +kernel
theorem dX2_act_19 : decode cX2_act 19 = .ok (.bipush (-2), 2) := by decide +kernel
theorem dX2_act_21 : decode cX2_act 21 = .ok (.if_icmp .ne 10, 3) := by decide +kernel
theorem dX2_act_24 : decode cX2_act 24 = .ok (.aload_n 0, 1) := by decide +kernel
theorem dX2_act_25 : decode cX2_act 25 = .ok (.bipush (-2), 2) := by decide +kernel
theorem dX2_act_27 : decode cX2_act 27 = .ok (.invokevirtual 137, 3) := by decide +kernel
theorem dX2_act_30 : decode cX2_act 30 = .ok (.ireturn, 1) := by decide +kernel
theorem dX2_act_31 : decode cX2_act 31 = .ok (.aload_n 0, 1) := by decide +kernel
theorem dX2_act_32 : decode cX2_act 32 = .ok (.iconst 0, 1) := by decide +kernel
theorem dX2_act_33 : decode cX2_act 33 = .ok (.putfield 74, 3) := by decide +kernel
theorem dX2_act_36 : decode cX2_act 36 = .ok (.aload_n 0, 1) := by decide +kernel
theorem dX2_act_37 : decode cX2_act 37 = .ok (.aload_n 0, 1) := by decide +kernel
theorem dX2_act_38 : decode cX2_act 38 = .ok (.aload_n 0, 1) := by decide +kernel
theorem dX2_act_39 : decode cX2_act 39 = .ok (.getfield 37, 3) := by decide +kernel
theorem dX2_act_42 : decode cX2_act 42 = .ok (.iload_n 1, 1) := by decide +kernel
theorem dX2_act_43 : decode cX2_act 43 = .ok (.iaload, 1) := by decide +kernel
theorem dX2_act_44 : decode cX2_act 44 = .ok (.iload_n 2, 1) := by decide +kernel
theorem dX2_act_45 : decode cX2_act 45 = .ok (.invokevirtual 141, 3) := by decide +kernel
theorem dX2_act_48 : decode cX2_act 48 = .ok (.putfield 77, 3) := by decide +kernel
theorem dX2_act_51 : decode cX2_act 51 = .ok (.aload_n 0, 1) := by decide +kernel
theorem dX2_act_52 : decode cX2_act 52 = .ok (.dup, 1) := by decide +kernel
theorem dX2_act_53 : decode cX2_act 53 = .ok (.getfield 80, 3) := by decide +kernel
theorem dX2_act_56 : decode cX2_act 56 = .ok (.aload_n 0, 1) := by decide +kernel
theorem dX2_act_57 : decode cX2_act 57 = .ok (.getfield 77, 3) := by decide +kernel
theorem dX2_act_60 : decode cX2_act 60 = .ok (.ifCond .ne 7, 3) := by decide +kernel
theorem dX2_act_63 : decode cX2_act 63 = .ok (.iconst 0, 1) := by decide +kernel
theorem dX2_act_64 : decode cX2_act 64 = .ok (.goto 4, 3) := by decide +kernel
theorem dX2_act_67 : decode cX2_act 67 = .ok (.iconst 1, 1) := by decide +kernel
theorem dX2_act_68 : decode cX2_act 68 = .ok (.iadd, 1) := by decide +kernel
theorem dX2_act_69 : decode cX2_act 69 = .ok (.putfield 80, 3) := by decide +kernel
theorem dX2_act_72 : decode cX2_act 72 = .ok (.aload_n 0, 1) := by decide +kernel
theorem dX2_act_73 : decode cX2_act 73 = .ok (.getfield 77, 3) := by decide +kernel
theorem dX2_act_76 : decode cX2_act 76 = .ok (.ifCond .ne 10, 3) := by decide +kernel
theorem dX2_act_79 : decode cX2_act 79 = .ok (.aload_n 0, 1) := by decide +kernel
theorem dX2_act_80 : decode cX2_act 80 = .ok (.getfield 110, 3) := by decide +kernel
theorem dX2_act_83 : decode cX2_act 83 = .ok (.goto 4, 3) := by decide +kernel
theorem dX2_act_86 : decode cX2_act 86 = .ok (.iconst 0, 1) := by decide +kernel
theorem dX2_act_87 : decode cX2_act 87 = .ok (.ireturn, 1) := by decide +kernel
theorem dX2_pull_0 : decode cX2_pull 0 = .ok (.iload_n 1, 1) := by decide +kernel
theorem dX2_pull_1 : decode cX2_pull 1 = .ok (.iconst 0, 1) := by decide +kernel
theorem dX2_pull_2 : decode cX2_pull 2 = .ok (.iconst 4, 1) := by decide +kernel
theorem dX2_pull_3 : decode cX2_pull 3 = .ok (.invokestatic 83, 3) := by decide +kernel
theorem dX2_pull_6 : decode cX2_pull 6 = .ok (.ifCond .ne 9, 3) := by decide +kernel
theorem dX2_pull_9 : decode cX2_pull 9 = .ok (.aload_n 0, 1) := by decide +kernel
theorem dX2_pull_10 : decode cX2_pull 10 = .ok (.iconst (-1), 1) := by decide +kernel
theorem dX2_pull_11 : decode cX2_pull 11 = .ok (.invokevirtual 137, 3) := by decide +kernel
theorem dX2_pull_14 : decode cX2_pull 14 = .ok (.ireturn, 1) := by decide +kernel
theorem dX2_pull_15 : decode cX2_pull 15 = .ok (.aload_n 0, 1) := by decide +kernel
theorem dX2_pull_16 : decode cX2_pull 16 = .ok (.iconst 0, 1) := by decide +kernel
theorem dX2_pull_17 : decode cX2_pull 17 = .ok (.putfield 74, 3) := by decide +kernel
theorem dX2_pull_20 : decode cX2_pull 20 = .ok (.aload_n 0, 1) := by decide +kernel
theorem dX2_pull_21 : decode cX2_pull 21 = .ok (.iconst 0, 1) := by decide +kernel
theorem dX2_pull_22 : decode cX2_pull 22 = .ok (.putfield 77, 3) := by decide +kernel
theorem dX2_pull_25 : decode cX2_pull 25 = .ok (.iload_n 2, 1) := by decide +kernel
theorem dX2_pull_26 : decode cX2_pull 26 = .ok (.istore_n 3, 1) := by decide +kernel
theorem dX2_pull_27 : decode cX2_pull 27 = .ok (.iconst 0, 1) := by decide +kernel
theorem dX2_pull_28 : decode cX2_pull 28 = .ok (.istore 4, 2) := by decide +kernel
theorem dX2_pull_30 : decode cX2_pull 30 = .ok (.iload 4, 2) := by decide +kernel
theorem dX2_pull_32 : decode cX2_pull 32 = .ok (.iconst 4, 1) := by decide +kernel
theorem dX2_pull_33 : decode cX2_pull 33 = .ok (.if_icmp .ge 41, 3) := by decide +kernel
theorem dX2_pull_36 : decode cX2_pull 36 = .ok (.aload_n 0, 1) := by decide +kernel
theorem dX2_pull_37 : decode cX2_pull 37 = .ok (.getfield 77, 3) := by decide +kernel
theorem dX2_pull_40 : decode cX2_pull 40 = .ok (.ifCond .ne 34, 3) := by decide +kernel
theorem dX2_pull_43 : decode cX2_pull 43 = .ok (.aload_n 0, 1) := by decide +kernel
theorem dX2_pull_44 : decode cX2_pull 44 = .ok (.aload_n 0, 1) := by decide +kernel
theorem dX2_pull_45 : decode cX2_pull 45 = .ok (.aload_n 0, 1) := by decide +kernel
theorem dX2_pull_46 : decode cX2_pull 46 = .ok (.getfield 40, 3) := by decide +kernel
theorem dX2_pull_49 : decode cX2_pull 49 = .ok (.iconst 4, 1) := by decide +kernel
theorem dX2_pull_50 : decode cX2_pull 50 = .ok (.iload_n 1, 1) := by decide +kernel
theorem dX2_pull_51 : decode cX2_pull 51 = .ok (.imul, 1) := by decide +kernel
theorem dX2_pull_52 : decode cX2_pull 52 = .ok (.iload 4, 2) := by decide +kernel
theorem dX2_pull_54 : decode cX2_pull 54 = .ok (.iadd, 1) := by decide +kernel
theorem dX2_pull_55 : decode cX2_pull 55 = .ok (.iaload, 1) := by decide +kernel
theorem dX2_pull_56 : decode cX2_pull 56 = .ok (.iload_n 3, 1) := by decide +kernel
theorem dX2_pull_57 : decode cX2_pull 57 = .ok (.invokevirtual 141, 3) := by decide +kernel
theorem dX2_pull_60 : decode cX2_pull 60 = .ok (.putfield 77, 3) := by decide +kernel
theorem dX2_pull_63 : decode cX2_pull 63 = .ok (.aload_n 0, 1) := by decide +kernel
theorem dX2_pull_64 : decode cX2_pull 64 = .ok (.getfield 110, 3) := by decide +kernel
theorem dX2_pull_67 : decode cX2_pull 67 = .ok (.istore_n 3, 1) := by decide +kernel
theorem dX2_pull_68 : decode cX2_pull 68 = .ok (.iinc 4 1, 3) := by decide +kernel
theorem dX2_pull_71 : decode cX2_pull 71 = .ok (.goto (-41), 3) := by decide +kernel
theorem dX2_pull_74 : decode cX2_pull 74 = .ok (.aload_n 0, 1) := by decide +kernel
theorem dX2_pull_75 : decode cX2_pull 75 = .ok (.dup, 1) := by decide +kernel
theorem dX2_pull_76 : decode cX2_pull 76 = .ok (.getfield 80, 3) := by decide +kernel
theorem dX2_pull_79 : decode cX2_pull 79 = .ok (.aload_n 0, 1) := by decide +kernel
theorem dX2_pull_80 : decode cX2_pull 80 = .ok (.getfield 77, 3) := by decide +kernel
theorem dX2_pull_83 : decode cX2_pull 83 = .ok (.ifCond .ne 7, 3) := by decide +kernel
theorem dX2_pull_86 : decode cX2_pull 86 = .ok (.iconst 0, 1) := by decide +kernel
theorem dX2_pull_87 : decode cX2_pull 87 = .ok (.goto 4, 3) := by decide +kernel
theorem dX2_pull_90 : decode cX2_pull 90 = .ok (.iconst 1, 1) := by decide +kernel
theorem dX2_pull_91 : decode cX2_pull 91 = .ok (.iadd, 1) := by decide +kernel
theorem dX2_pull_92 : decode cX2_pull 92 = .ok (.putfield 80, 3) := by decide +kernel
theorem dX2_pull_95 : decode cX2_pull 95 = .ok (.aload_n 0, 1) := by decide +kernel
theorem dX2_pull_96 : decode cX2_pull 96 = .ok (.getfield 77, 3) := by decide +kernel
theorem dX2_pull_99 : decode cX2_pull 99 = .ok (.ifCond .ne 7, 3) := by decide +kernel
theorem dX2_pull_102 : decode cX2_pull 102 = .ok (.iload_n 3, 1) := by decide +kernel
theorem dX2_pull_103 : decode cX2_pull 103 = .ok (.goto 4, 3) := by decide +kernel
theorem dX2_pull_106 : decode cX2_pull 106 = .ok (.iconst 0, 1) := by decide +kernel
theorem dX2_pull_107 : decode cX2_pull 107 = .ok (.ireturn, 1) := by decide +kernel
theorem dX2_tick_0 : decode cX2_tick 0 = .ok (.aload_n 0, 1) := by decide +kernel
theorem dX2_tick_1 : decode cX2_tick 1 = .ok (.iconst 0, 1) := by decide +kernel
theorem dX2_tick_2 : decode cX2_tick 2 = .ok (.putfield 74, 3) := by decide +kernel
theorem dX2_tick_5 : decode cX2_tick 5 = .ok (.aload_n 0, 1) := by decide +kernel
theorem dX2_tick_6 : decode cX2_tick 6 = .ok (.iconst 0, 1) := by decide +kernel
theorem dX2_tick_7 : decode cX2_tick 7 = .ok (.putfield 77, 3) := by decide +kernel
theorem dX2_tick_10 : decode cX2_tick 10 = .ok (.aload_n 0, 1) := by decide +kernel
theorem dX2_tick_11 : decode cX2_tick 11 = .ok (.getfield 71, 3) := by decide +kernel
theorem dX2_tick_14 : decode cX2_tick 14 = .ok (.istore_n 1, 1) := by decide +kernel
theorem dX2_tick_15 : decode cX2_tick 15 = .ok (.iconst 0, 1) := by decide +kernel
theorem dX2_tick_16 : decode cX2_tick 16 = .ok (.istore_n 2, 1) := by decide +kernel
theorem dX2_tick_17 : decode cX2_tick 17 = .ok (.iconst 0, 1) := by decide +kernel
theorem dX2_tick_18 : decode cX2_tick 18 = .ok (.istore_n 3, 1) := by decide +kernel
theorem dX2_tick_19 : decode cX2_tick 19 = .ok (.iload_n 3, 1) := by decide +kernel
theorem dX2_tick_20 : decode cX2_tick 20 = .ok (.iload_n 1, 1) := by decide +kernel
theorem dX2_tick_21 : decode cX2_tick 21 = .ok (.if_icmp .ge 145, 3) := by decide +kernel
theorem dX2_tick_24 : decode cX2_tick 24 = .ok (.aload_n 0, 1) := by decide +kernel
theorem dX2_tick_25 : decode cX2_tick 25 = .ok (.getfield 43, 3) := by decide +kernel
theorem dX2_tick_28 : decode cX2_tick 28 = .ok (.iconst 0, 1) := by decide +kernel
theorem dX2_tick_29 : decode cX2_tick 29 = .ok (.iaload, 1) := by decide +kernel
theorem dX2_tick_30 : decode cX2_tick 30 = .ok (.istore 4, 2) := by decide +kernel
theorem dX2_tick_32 : decode cX2_tick 32 = .ok (.aload_n 0, 1) := by decide +kernel
theorem dX2_tick_33 : decode cX2_tick 33 = .ok (.getfield 46, 3) := by decide +kernel
theorem dX2_tick_36 : decode cX2_tick 36 = .ok (.iconst 0, 1) := by decide +kernel
theorem dX2_tick_37 : decode cX2_tick 37 = .ok (.iaload, 1) := by decide +kernel
theorem dX2_tick_38 : decode cX2_tick 38 = .ok (.istore 5, 2) := by decide +kernel
theorem dX2_tick_40 : decode cX2_tick 40 = .ok (.aload_n 0, 1) := by decide +kernel
theorem dX2_tick_41 : decode cX2_tick 41 = .ok (.dup, 1) := by decide +kernel
theorem dX2_tick_42 : decode cX2_tick 42 = .ok (.getfield 71, 3) := by decide +kernel
theorem dX2_tick_45 : decode cX2_tick 45 = .ok (.iconst 1, 1) := by decide +kernel
theorem dX2_tick_46 : decode cX2_tick 46 = .ok (.isub, 1) := by decide +kernel
theorem dX2_tick_47 : decode cX2_tick 47 = .ok (.putfield 71, 3) := by decide +kernel
theorem dX2_tick_50 : decode cX2_tick 50 = .ok (.iconst 0, 1) := by decide +kernel
theorem dX2_tick_51 : decode cX2_tick 51 = .ok (.istore 6, 2) := by decide +kernel
theorem dX2_tick_53 : decode cX2_tick 53 = .ok (.iload 6, 2) := by decide +kernel
theorem dX2_tick_55 : decode cX2_tick 55 = .ok (.aload_n 0, 1) := by decide +kernel
theorem dX2_tick_56 : decode cX2_tick 56 = .ok (.getfield 71, 3) := by decide +kernel
theorem dX2_tick_59 : decode cX2_tick 59 = .ok (.if_icmp .ge 41, 3) := by decide +kernel
theorem dX2_tick_62 : decode cX2_tick 62 = .ok (.aload_n 0, 1) := by decide +kernel
theorem dX2_tick_63 : decode cX2_tick 63 = .ok (.getfield 43, 3) := by decide +kernel
theorem dX2_tick_66 : decode cX2_tick 66 = .ok (.iload 6, 2) := by decide +kernel
theorem dX2_tick_68 : decode cX2_tick 68 = .ok (.aload_n 0, 1) := by decide +kernel
theorem dX2_tick_69 : decode cX2_tick 69 = .ok (.getfield 43, 3) := by decide +kernel
theorem dX2_tick_72 : decode cX2_tick 72 = .ok (.iload 6, 2) := by decide +kernel
theorem dX2_tick_74 : decode cX2_tick 74 = .ok (.iconst 1, 1) := by decide +kernel
theorem dX2_tick_75 : decode cX2_tick 75 = .ok (.iadd, 1) := by decide +kernel
theorem dX2_tick_76 : decode cX2_tick 76 = .ok (.iaload, 1) := by decide +kernel
theorem dX2_tick_77 : decode cX2_tick 77 = .ok (.iastore, 1) := by decide +kernel
theorem dX2_tick_78 : decode cX2_tick 78 = .ok (.aload_n 0, 1) := by decide +kernel
theorem dX2_tick_79 : decode cX2_tick 79 = .ok (.getfield 46, 3) := by decide +kernel
theorem dX2_tick_82 : decode cX2_tick 82 = .ok (.iload 6, 2) := by decide +kernel
theorem dX2_tick_84 : decode cX2_tick 84 = .ok (.aload_n 0, 1) := by decide +kernel
theorem dX2_tick_85 : decode cX2_tick 85 = .ok (.getfield 46, 3) := by decide +kernel
theorem dX2_tick_88 : decode cX2_tick 88 = .ok (.iload 6, 2) := by decide +kernel
theorem dX2_tick_90 : decode cX2_tick 90 = .ok (.iconst 1, 1) := by decide +kernel
theorem dX2_tick_91 : decode cX2_tick 91 = .ok (.iadd, 1) := by decide +kernel
theorem dX2_tick_92 : decode cX2_tick 92 = .ok (.iaload, 1) := by decide +kernel
theorem dX2_tick_93 : decode cX2_tick 93 = .ok (.iastore, 1) := by decide +kernel
theorem dX2_tick_94 : decode cX2_tick 94 = .ok (.iinc 6 1, 3) := by decide +kernel
theorem dX2_tick_97 : decode cX2_tick 97 = .ok (.goto (-44), 3) := by decide +kernel
theorem dX2_tick_100 : decode cX2_tick 100 = .ok (.aload_n 0, 1) := by decide +kernel
theorem dX2_tick_101 : decode cX2_tick 101 = .ok (.iload 4, 2) := by decide +kernel
theorem dX2_tick_103 : decode cX2_tick 103 = .ok (.iload 5, 2) := by decide +kernel
theorem dX2_tick_105 : decode cX2_tick 105 = .ok (.invokevirtual 141, 3) := by decide +kernel
theorem dX2_tick_108 : decode cX2_tick 108 = .ok (.istore 6, 2) := by decide +kernel
theorem dX2_tick_110 : decode cX2_tick 110 = .ok (.iload_n 2, 1) := by decide +kernel
theorem dX2_tick_111 : decode cX2_tick 111 = .ok (.iload 6, 2) := by decide +kernel
theorem dX2_tick_113 : decode cX2_tick 113 = .ok (.ifCond .ne 7, 3) := by decide +kernel
theorem dX2_tick_116 : decode cX2_tick 116 = .ok (.iconst 1, 1) := by decide +kernel
theorem dX2_tick_117 : decode cX2_tick 117 = .ok (.goto 4, 3) := by decide +kernel
theorem dX2_tick_120 : decode cX2_tick 120 = .ok (.iconst 0, 1) := by decide +kernel
theorem dX2_tick_121 : decode cX2_tick 121 = .ok (.iadd, 1) := by decide +kernel
theorem dX2_tick_122 : decode cX2_tick 122 = .ok (.istore_n 2, 1) := by decide +kernel
theorem dX2_tick_123 : decode cX2_tick 123 = .ok (.aload_n 0, 1) := by decide +kernel
theorem dX2_tick_124 : decode cX2_tick 124 = .ok (.dup, 1) := by decide +kernel
theorem dX2_tick_125 : decode cX2_tick 125 = .ok (.getfield 80, 3) := by decide +kernel
theorem dX2_tick_128 : decode cX2_tick 128 = .ok (.iload 6, 2) := by decide +kernel
theorem dX2_tick_130 : decode cX2_tick 130 = .ok (.ifCond .ne 7, 3) := by decide +kernel
theorem dX2_tick_133 : decode cX2_tick 133 = .ok (.iconst 0, 1) := by decide +kernel
theorem dX2_tick_134 : decode cX2_tick 134 = .ok (.goto 4, 3) := by decide +kernel
theorem dX2_tick_137 : decode cX2_tick 137 = .ok (.iconst 1, 1) := by decide +kernel
theorem dX2_tick_138 : decode cX2_tick 138 = .ok (.iadd, 1) := by decide +kernel
theorem dX2_tick_139 : decode cX2_tick 139 = .ok (.putfield 80, 3) := by decide +kernel
theorem dX2_tick_142 : decode cX2_tick 142 = .ok (.aload_n 0, 1) := by decide +kernel
theorem dX2_tick_143 : decode cX2_tick 143 = .ok (.iload 6, 2) := by decide +kernel
theorem dX2_tick_145 : decode cX2_tick 145 = .ok (.ifCond .ne 10, 3) := by decide +kernel
theorem dX2_tick_148 : decode cX2_tick 148 = .ok (.aload_n 0, 1) := by decide +kernel
theorem dX2_tick_149 : decode cX2_tick 149 = .ok (.getfield 77, 3) := by decide +kernel
theorem dX2_tick_152 : decode cX2_tick 152 = .ok (.goto 5, 3) := by decide +kernel
theorem dX2_tick_155 : decode cX2_tick 155 = .ok (.iload 6, 2) := by decide +kernel
theorem dX2_tick_157 : decode cX2_tick 157 = .ok (.putfield 77, 3) := by decide +kernel
theorem dX2_tick_160 : decode cX2_tick 160 = .ok (.iinc 3 1, 3) := by decide +kernel
theorem dX2_tick_163 : decode cX2_tick 163 = .ok (.goto (-144), 3) := by decide +kernel
theorem dX2_tick_166 : decode cX2_tick 166 = .ok (.iload_n 2, 1) := by decide +kernel
theorem dX2_tick_167 : decode cX2_tick 167 = .ok (.ireturn, 1) := by decide +kernel
theorem dX2_failed_0 : decode cX2_failed 0 = .ok (.aload_n 0, 1) := by decide +kernel
theorem dX2_failed_1 : decode cX2_failed 1 = .ok (.getfield 77, 3) := by decide +kernel
theorem dX2_failed_4 : decode cX2_failed 4 = .ok (.ireturn, 1) := by decide +kernel
theorem dX2_told_0 : decode cX2_told 0 = .ok (.iconst 0, 1) := by decide +kernel
theorem dX2_told_1 : decode cX2_told 1 = .ok (.istore_n 2, 1) := by decide +kernel
theorem dX2_told_2 : decode cX2_told 2 = .ok (.iconst 0, 1) := by decide +kernel
theorem dX2_told_3 : decode cX2_told 3 = .ok (.istore_n 3, 1) := by decide +kernel
theorem dX2_told_4 : decode cX2_told 4 = .ok (.iload_n 3, 1) := by decide +kernel
theorem dX2_told_5 : decode cX2_told 5 = .ok (.bipush 20, 2) := by decide +kernel
theorem dX2_told_7 : decode cX2_told 7 = .ok (.if_icmp .ge 28, 3) := by decide +kernel
theorem dX2_told_10 : decode cX2_told 10 = .ok (.iload_n 2, 1) := by decide +kernel
theorem dX2_told_11 : decode cX2_told 11 = .ok (.aload_n 0, 1) := by decide +kernel
theorem dX2_told_12 : decode cX2_told 12 = .ok (.getfield 37, 3) := by decide +kernel
theorem dX2_told_15 : decode cX2_told 15 = .ok (.iload_n 3, 1) := by decide +kernel
theorem dX2_told_16 : decode cX2_told 16 = .ok (.iaload, 1) := by decide +kernel
theorem dX2_told_17 : decode cX2_told 17 = .ok (.bipush (-2), 2) := by decide +kernel
theorem dX2_told_19 : decode cX2_told 19 = .ok (.if_icmp .ne 7, 3) := by decide +kernel
theorem dX2_told_22 : decode cX2_told 22 = .ok (.iconst 0, 1) := by decide +kernel
theorem dX2_told_23 : decode cX2_told 23 = .ok (.goto 4, 3) := by decide +kernel
theorem dX2_told_26 : decode cX2_told 26 = .ok (.iconst 1, 1) := by decide +kernel
theorem dX2_told_27 : decode cX2_told 27 = .ok (.iadd, 1) := by decide +kernel
theorem dX2_told_28 : decode cX2_told 28 = .ok (.istore_n 2, 1) := by decide +kernel
theorem dX2_told_29 : decode cX2_told 29 = .ok (.iinc 3 1, 3) := by decide +kernel
theorem dX2_told_32 : decode cX2_told 32 = .ok (.goto (-28), 3) := by decide +kernel
theorem dX2_told_35 : decode cX2_told 35 = .ok (.iload_n 1, 1) := by decide +kernel
theorem dX2_told_36 : decode cX2_told 36 = .ok (.ifCond .ne 10, 3) := by decide +kernel
theorem dX2_told_39 : decode cX2_told 39 = .ok (.aload_n 0, 1) := by decide +kernel
theorem dX2_told_40 : decode cX2_told 40 = .ok (.getfield 68, 3) := by decide +kernel
theorem dX2_told_43 : decode cX2_told 43 = .ok (.goto 49, 3) := by decide +kernel
theorem dX2_told_46 : decode cX2_told 46 = .ok (.iload_n 1, 1) := by decide +kernel
theorem dX2_told_47 : decode cX2_told 47 = .ok (.iconst 1, 1) := by decide +kernel
theorem dX2_told_48 : decode cX2_told 48 = .ok (.if_icmp .ne 10, 3) := by decide +kernel
theorem dX2_told_51 : decode cX2_told 51 = .ok (.aload_n 0, 1) := by decide +kernel
theorem dX2_told_52 : decode cX2_told 52 = .ok (.getfield 71, 3) := by decide +kernel
theorem dX2_told_55 : decode cX2_told 55 = .ok (.goto 37, 3) := by decide +kernel
theorem dX2_told_58 : decode cX2_told 58 = .ok (.iload_n 1, 1) := by decide +kernel
theorem dX2_told_59 : decode cX2_told 59 = .ok (.iconst 2, 1) := by decide +kernel
theorem dX2_told_60 : decode cX2_told 60 = .ok (.if_icmp .ne 10, 3) := by decide +kernel
theorem dX2_told_63 : decode cX2_told 63 = .ok (.aload_n 0, 1) := by decide +kernel
theorem dX2_told_64 : decode cX2_told 64 = .ok (.getfield 74, 3) := by decide +kernel
theorem dX2_told_67 : decode cX2_told 67 = .ok (.goto 25, 3) := by decide +kernel
theorem dX2_told_70 : decode cX2_told 70 = .ok (.iload_n 1, 1) := by decide +kernel
theorem dX2_told_71 : decode cX2_told 71 = .ok (.iconst 3, 1) := by decide +kernel
theorem dX2_told_72 : decode cX2_told 72 = .ok (.if_icmp .ne 10, 3) := by decide +kernel
theorem dX2_told_75 : decode cX2_told 75 = .ok (.aload_n 0, 1) := by decide +kernel
theorem dX2_told_76 : decode cX2_told 76 = .ok (.getfield 80, 3) := by decide +kernel
theorem dX2_told_79 : decode cX2_told 79 = .ok (.goto 13, 3) := by decide +kernel
theorem dX2_told_82 : decode cX2_told 82 = .ok (.iload_n 1, 1) := by decide +kernel
theorem dX2_told_83 : decode cX2_told 83 = .ok (.iconst 4, 1) := by decide +kernel
theorem dX2_told_84 : decode cX2_told 84 = .ok (.if_icmp .ne 7, 3) := by decide +kernel
theorem dX2_told_87 : decode cX2_told 87 = .ok (.iload_n 2, 1) := by decide +kernel
theorem dX2_told_88 : decode cX2_told 88 = .ok (.goto 4, 3) := by decide +kernel
theorem dX2_told_91 : decode cX2_told 91 = .ok (.iconst (-1), 1) := by decide +kernel
theorem dX2_told_92 : decode cX2_told 92 = .ok (.ireturn, 1) := by decide +kernel
theorem dX2_clear_0 : decode cX2_clear 0 = .ok (.aload_n 0, 1) := by decide +kernel
theorem dX2_clear_1 : decode cX2_clear 1 = .ok (.getfield 68, 3) := by decide +kernel
theorem dX2_clear_4 : decode cX2_clear 4 = .ok (.istore_n 1, 1) := by decide +kernel
theorem dX2_clear_5 : decode cX2_clear 5 = .ok (.aload_n 0, 1) := by decide +kernel
theorem dX2_clear_6 : decode cX2_clear 6 = .ok (.invokevirtual 61, 3) := by decide +kernel
theorem dX2_clear_9 : decode cX2_clear 9 = .ok (.iload_n 1, 1) := by decide +kernel
theorem dX2_clear_10 : decode cX2_clear 10 = .ok (.ireturn, 1) := by decide +kernel
end
section
theorem dL_law_0 : decode cL_law 0 = .ok (.new 7, 3) := by decide +kernel
theorem dL_law_3 : decode cL_law 3 = .ok (.dup, 1) := by decide +kernel
theorem dL_law_4 : decode cL_law 4 = .ok (.invokespecial 9, 3) := by decide +kernel
theorem dL_law_7 : decode cL_law 7 = .ok (.astore_n 1, 1) := by decide +kernel
theorem dL_law_8 : decode cL_law 8 = .ok (.new 10, 3) := by decide +kernel
theorem dL_law_11 : decode cL_law 11 = .ok (.dup, 1) := by decide +kernel
theorem dL_law_12 : decode cL_law 12 = .ok (.invokespecial 12, 3) := by decide +kernel
theorem dL_law_15 : decode cL_law 15 = .ok (.astore_n 2, 1) := by decide +kernel
theorem dL_law_16 : decode cL_law 16 = .ok (.iconst 0, 1) := by decide +kernel
theorem dL_law_17 : decode cL_law 17 = .ok (.istore_n 3, 1) := by decide +kernel
theorem dL_law_18 : decode cL_law 18 = .ok (.iload_n 3, 1) := by decide +kernel
theorem dL_law_19 : decode cL_law 19 = .ok (.aload_n 0, 1) := by decide +kernel
theorem dL_law_20 : decode cL_law 20 = .ok (.arraylength, 1) := by decide +kernel
theorem dL_law_21 : decode cL_law 21 = .ok (.bipush 6, 2) := by decide +kernel
theorem dL_law_23 : decode cL_law 23 = .ok (.isub, 1) := by decide +kernel
theorem dL_law_24 : decode cL_law 24 = .ok (.if_icmp .gt 562, 3) := by decide +kernel
theorem dL_law_27 : decode cL_law 27 = .ok (.aload_n 0, 1) := by decide +kernel
theorem dL_law_28 : decode cL_law 28 = .ok (.iload_n 3, 1) := by decide +kernel
theorem dL_law_29 : decode cL_law 29 = .ok (.iaload, 1) := by decide +kernel
theorem dL_law_30 : decode cL_law 30 = .ok (.bipush 15, 2) := by decide +kernel
theorem dL_law_32 : decode cL_law 32 = .ok (.iand, 1) := by decide +kernel
theorem dL_law_33 : decode cL_law 33 = .ok (.tableswitch 547 0 15 #[79, 112, 135, 168, 201, 264, 297, 320, 363, 396, 419, 452, 485, 498, 511, 534], 79) := by decide +kernel
theorem dL_law_112 : decode cL_law 112 = .ok (.aload_n 1, 1) := by decide +kernel
theorem dL_law_113 : decode cL_law 113 = .ok (.aload_n 0, 1) := by decide +kernel
theorem dL_law_114 : decode cL_law 114 = .ok (.iload_n 3, 1) := by decide +kernel
theorem dL_law_115 : decode cL_law 115 = .ok (.iconst 1, 1) := by decide +kernel
theorem dL_law_116 : decode cL_law 116 = .ok (.iadd, 1) := by decide +kernel
theorem dL_law_117 : decode cL_law 117 = .ok (.iaload, 1) := by decide +kernel
theorem dL_law_118 : decode cL_law 118 = .ok (.aload_n 0, 1) := by decide +kernel
theorem dL_law_119 : decode cL_law 119 = .ok (.iload_n 3, 1) := by decide +kernel
theorem dL_law_120 : decode cL_law 120 = .ok (.iconst 2, 1) := by decide +kernel
theorem dL_law_121 : decode cL_law 121 = .ok (.iadd, 1) := by decide +kernel
theorem dL_law_122 : decode cL_law 122 = .ok (.iaload, 1) := by decide +kernel
theorem dL_law_123 : decode cL_law 123 = .ok (.invokevirtual 13, 3) := by decide +kernel
theorem dL_law_126 : decode cL_law 126 = .ok (.aload_n 2, 1) := by decide +kernel
theorem dL_law_127 : decode cL_law 127 = .ok (.aload_n 0, 1) := by decide +kernel
theorem dL_law_128 : decode cL_law 128 = .ok (.iload_n 3, 1) := by decide +kernel
theorem dL_law_129 : decode cL_law 129 = .ok (.iconst 1, 1) := by decide +kernel
theorem dL_law_130 : decode cL_law 130 = .ok (.iadd, 1) := by decide +kernel
theorem dL_law_131 : decode cL_law 131 = .ok (.iaload, 1) := by decide +kernel
theorem dL_law_132 : decode cL_law 132 = .ok (.aload_n 0, 1) := by decide +kernel
theorem dL_law_133 : decode cL_law 133 = .ok (.iload_n 3, 1) := by decide +kernel
theorem dL_law_134 : decode cL_law 134 = .ok (.iconst 2, 1) := by decide +kernel
theorem dL_law_135 : decode cL_law 135 = .ok (.iadd, 1) := by decide +kernel
theorem dL_law_136 : decode cL_law 136 = .ok (.iaload, 1) := by decide +kernel
theorem dL_law_137 : decode cL_law 137 = .ok (.invokevirtual 17, 3) := by decide +kernel
theorem dL_law_140 : decode cL_law 140 = .ok (.if_icmp .eq 440, 3) := by decide +kernel
theorem dL_law_143 : decode cL_law 143 = .ok (.iconst 0, 1) := by decide +kernel
theorem dL_law_144 : decode cL_law 144 = .ok (.ireturn, 1) := by decide +kernel
theorem dL_law_145 : decode cL_law 145 = .ok (.aload_n 1, 1) := by decide +kernel
theorem dL_law_146 : decode cL_law 146 = .ok (.aload_n 0, 1) := by decide +kernel
theorem dL_law_147 : decode cL_law 147 = .ok (.iload_n 3, 1) := by decide +kernel
theorem dL_law_148 : decode cL_law 148 = .ok (.iconst 1, 1) := by decide +kernel
theorem dL_law_149 : decode cL_law 149 = .ok (.iadd, 1) := by decide +kernel
theorem dL_law_150 : decode cL_law 150 = .ok (.iaload, 1) := by decide +kernel
theorem dL_law_151 : decode cL_law 151 = .ok (.invokevirtual 18, 3) := by decide +kernel
theorem dL_law_154 : decode cL_law 154 = .ok (.aload_n 2, 1) := by decide +kernel
theorem dL_law_155 : decode cL_law 155 = .ok (.aload_n 0, 1) := by decide +kernel
theorem dL_law_156 : decode cL_law 156 = .ok (.iload_n 3, 1) := by decide +kernel
theorem dL_law_157 : decode cL_law 157 = .ok (.iconst 1, 1) := by decide +kernel
theorem dL_law_158 : decode cL_law 158 = .ok (.iadd, 1) := by decide +kernel
theorem dL_law_159 : decode cL_law 159 = .ok (.iaload, 1) := by decide +kernel
theorem dL_law_160 : decode cL_law 160 = .ok (.invokevirtual 22, 3) := by decide +kernel
theorem dL_law_163 : decode cL_law 163 = .ok (.if_icmp .eq 417, 3) := by decide +kernel
theorem dL_law_166 : decode cL_law 166 = .ok (.iconst 0, 1) := by decide +kernel
theorem dL_law_167 : decode cL_law 167 = .ok (.ireturn, 1) := by decide +kernel
theorem dL_law_168 : decode cL_law 168 = .ok (.aload_n 1, 1) := by decide +kernel
theorem dL_law_169 : decode cL_law 169 = .ok (.aload_n 0, 1) := by decide +kernel
theorem dL_law_170 : decode cL_law 170 = .ok (.iload_n 3, 1) := by decide +kernel
theorem dL_law_171 : decode cL_law 171 = .ok (.iconst 1, 1) := by decide +kernel
theorem dL_law_172 : decode cL_law 172 = .ok (.iadd, 1) := by decide +kernel
theorem dL_law_173 : decode cL_law 173 = .ok (.iaload, 1) := by decide +kernel
theorem dL_law_174 : decode cL_law 174 = .ok (.aload_n 0, 1) := by decide +kernel
theorem dL_law_175 : decode cL_law 175 = .ok (.iload_n 3, 1) := by decide +kernel
theorem dL_law_176 : decode cL_law 176 = .ok (.iconst 2, 1) := by decide +kernel
theorem dL_law_177 : decode cL_law 177 = .ok (.iadd, 1) := by decide +kernel
theorem dL_law_178 : decode cL_law 178 = .ok (.iaload, 1) := by decide +kernel
theorem dL_law_179 : decode cL_law 179 = .ok (.invokevirtual 23, 3) := by decide +kernel
theorem dL_law_182 : decode cL_law 182 = .ok (.aload_n 2, 1) := by decide +kernel
theorem dL_law_183 : decode cL_law 183 = .ok (.aload_n 0, 1) := by decide +kernel
theorem dL_law_184 : decode cL_law 184 = .ok (.iload_n 3, 1) := by decide +kernel
theorem dL_law_185 : decode cL_law 185 = .ok (.iconst 1, 1) := by decide +kernel
theorem dL_law_186 : decode cL_law 186 = .ok (.iadd, 1) := by decide +kernel
theorem dL_law_187 : decode cL_law 187 = .ok (.iaload, 1) := by decide +kernel
theorem dL_law_188 : decode cL_law 188 = .ok (.aload_n 0, 1) := by decide +kernel
theorem dL_law_189 : decode cL_law 189 = .ok (.iload_n 3, 1) := by decide +kernel
theorem dL_law_190 : decode cL_law 190 = .ok (.iconst 2, 1) := by decide +kernel
theorem dL_law_191 : decode cL_law 191 = .ok (.iadd, 1) := by decide +kernel
theorem dL_law_192 : decode cL_law 192 = .ok (.iaload, 1) := by decide +kernel
theorem dL_law_193 : decode cL_law 193 = .ok (.invokevirtual 26, 3) := by decide +kernel
theorem dL_law_196 : decode cL_law 196 = .ok (.if_icmp .eq 384, 3) := by decide +kernel
theorem dL_law_199 : decode cL_law 199 = .ok (.iconst 0, 1) := by decide +kernel
theorem dL_law_200 : decode cL_law 200 = .ok (.ireturn, 1) := by decide +kernel
theorem dL_law_201 : decode cL_law 201 = .ok (.aload_n 1, 1) := by decide +kernel
theorem dL_law_202 : decode cL_law 202 = .ok (.aload_n 0, 1) := by decide +kernel
theorem dL_law_203 : decode cL_law 203 = .ok (.iload_n 3, 1) := by decide +kernel
theorem dL_law_204 : decode cL_law 204 = .ok (.iconst 1, 1) := by decide +kernel
theorem dL_law_205 : decode cL_law 205 = .ok (.iadd, 1) := by decide +kernel
theorem dL_law_206 : decode cL_law 206 = .ok (.iaload, 1) := by decide +kernel
theorem dL_law_207 : decode cL_law 207 = .ok (.aload_n 0, 1) := by decide +kernel
theorem dL_law_208 : decode cL_law 208 = .ok (.iload_n 3, 1) := by decide +kernel
theorem dL_law_209 : decode cL_law 209 = .ok (.iconst 2, 1) := by decide +kernel
theorem dL_law_210 : decode cL_law 210 = .ok (.iadd, 1) := by decide +kernel
theorem dL_law_211 : decode cL_law 211 = .ok (.iaload, 1) := by decide +kernel
theorem dL_law_212 : decode cL_law 212 = .ok (.invokevirtual 27, 3) := by decide +kernel
theorem dL_law_215 : decode cL_law 215 = .ok (.aload_n 2, 1) := by decide +kernel
theorem dL_law_216 : decode cL_law 216 = .ok (.aload_n 0, 1) := by decide +kernel
theorem dL_law_217 : decode cL_law 217 = .ok (.iload_n 3, 1) := by decide +kernel
theorem dL_law_218 : decode cL_law 218 = .ok (.iconst 1, 1) := by decide +kernel
theorem dL_law_219 : decode cL_law 219 = .ok (.iadd, 1) := by decide +kernel
theorem dL_law_220 : decode cL_law 220 = .ok (.iaload, 1) := by decide +kernel
theorem dL_law_221 : decode cL_law 221 = .ok (.aload_n 0, 1) := by decide +kernel
theorem dL_law_222 : decode cL_law 222 = .ok (.iload_n 3, 1) := by decide +kernel
theorem dL_law_223 : decode cL_law 223 = .ok (.iconst 2, 1) := by decide +kernel
theorem dL_law_224 : decode cL_law 224 = .ok (.iadd, 1) := by decide +kernel
theorem dL_law_225 : decode cL_law 225 = .ok (.iaload, 1) := by decide +kernel
theorem dL_law_226 : decode cL_law 226 = .ok (.invokevirtual 30, 3) := by decide +kernel
theorem dL_law_229 : decode cL_law 229 = .ok (.if_icmp .eq 351, 3) := by decide +kernel
theorem dL_law_232 : decode cL_law 232 = .ok (.iconst 0, 1) := by decide +kernel
theorem dL_law_233 : decode cL_law 233 = .ok (.ireturn, 1) := by decide +kernel
theorem dL_law_234 : decode cL_law 234 = .ok (.aload_n 1, 1) := by decide +kernel
theorem dL_law_235 : decode cL_law 235 = .ok (.aload_n 0, 1) := by decide +kernel
theorem dL_law_236 : decode cL_law 236 = .ok (.iload_n 3, 1) := by decide +kernel
theorem dL_law_237 : decode cL_law 237 = .ok (.iconst 1, 1) := by decide +kernel
theorem dL_law_238 : decode cL_law 238 = .ok (.iadd, 1) := by decide +kernel
theorem dL_law_239 : decode cL_law 239 = .ok (.iaload, 1) := by decide +kernel
theorem dL_law_240 : decode cL_law 240 = .ok (.aload_n 0, 1) := by decide +kernel
theorem dL_law_241 : decode cL_law 241 = .ok (.iload_n 3, 1) := by decide +kernel
theorem dL_law_242 : decode cL_law 242 = .ok (.iconst 2, 1) := by decide +kernel
theorem dL_law_243 : decode cL_law 243 = .ok (.iadd, 1) := by decide +kernel
theorem dL_law_244 : decode cL_law 244 = .ok (.iaload, 1) := by decide +kernel
theorem dL_law_245 : decode cL_law 245 = .ok (.aload_n 0, 1) := by decide +kernel
theorem dL_law_246 : decode cL_law 246 = .ok (.iload_n 3, 1) := by decide +kernel
theorem dL_law_247 : decode cL_law 247 = .ok (.iconst 3, 1) := by decide +kernel
theorem dL_law_248 : decode cL_law 248 = .ok (.iadd, 1) := by decide +kernel
theorem dL_law_249 : decode cL_law 249 = .ok (.iaload, 1) := by decide +kernel
theorem dL_law_250 : decode cL_law 250 = .ok (.aload_n 0, 1) := by decide +kernel
theorem dL_law_251 : decode cL_law 251 = .ok (.iload_n 3, 1) := by decide +kernel
theorem dL_law_252 : decode cL_law 252 = .ok (.iconst 4, 1) := by decide +kernel
theorem dL_law_253 : decode cL_law 253 = .ok (.iadd, 1) := by decide +kernel
theorem dL_law_254 : decode cL_law 254 = .ok (.iaload, 1) := by decide +kernel
theorem dL_law_255 : decode cL_law 255 = .ok (.aload_n 0, 1) := by decide +kernel
theorem dL_law_256 : decode cL_law 256 = .ok (.iload_n 3, 1) := by decide +kernel
theorem dL_law_257 : decode cL_law 257 = .ok (.iconst 5, 1) := by decide +kernel
theorem dL_law_258 : decode cL_law 258 = .ok (.iadd, 1) := by decide +kernel
theorem dL_law_259 : decode cL_law 259 = .ok (.iaload, 1) := by decide +kernel
theorem dL_law_260 : decode cL_law 260 = .ok (.invokevirtual 31, 3) := by decide +kernel
theorem dL_law_263 : decode cL_law 263 = .ok (.aload_n 2, 1) := by decide +kernel
theorem dL_law_264 : decode cL_law 264 = .ok (.aload_n 0, 1) := by decide +kernel
theorem dL_law_265 : decode cL_law 265 = .ok (.iload_n 3, 1) := by decide +kernel
theorem dL_law_266 : decode cL_law 266 = .ok (.iconst 1, 1) := by decide +kernel
theorem dL_law_267 : decode cL_law 267 = .ok (.iadd, 1) := by decide +kernel
theorem dL_law_268 : decode cL_law 268 = .ok (.iaload, 1) := by decide +kernel
theorem dL_law_269 : decode cL_law 269 = .ok (.aload_n 0, 1) := by decide +kernel
theorem dL_law_270 : decode cL_law 270 = .ok (.iload_n 3, 1) := by decide +kernel
theorem dL_law_271 : decode cL_law 271 = .ok (.iconst 2, 1) := by decide +kernel
theorem dL_law_272 : decode cL_law 272 = .ok (.iadd, 1) := by decide +kernel
theorem dL_law_273 : decode cL_law 273 = .ok (.iaload, 1) := by decide +kernel
theorem dL_law_274 : decode cL_law 274 = .ok (.aload_n 0, 1) := by decide +kernel
theorem dL_law_275 : decode cL_law 275 = .ok (.iload_n 3, 1) := by decide +kernel
theorem dL_law_276 : decode cL_law 276 = .ok (.iconst 3, 1) := by decide +kernel
theorem dL_law_277 : decode cL_law 277 = .ok (.iadd, 1) := by decide +kernel
theorem dL_law_278 : decode cL_law 278 = .ok (.iaload, 1) := by decide +kernel
theorem dL_law_279 : decode cL_law 279 = .ok (.aload_n 0, 1) := by decide +kernel
theorem dL_law_280 : decode cL_law 280 = .ok (.iload_n 3, 1) := by decide +kernel
theorem dL_law_281 : decode cL_law 281 = .ok (.iconst 4, 1) := by decide +kernel
theorem dL_law_282 : decode cL_law 282 = .ok (.iadd, 1) := by decide +kernel
theorem dL_law_283 : decode cL_law 283 = .ok (.iaload, 1) := by decide +kernel
theorem dL_law_284 : decode cL_law 284 = .ok (.aload_n 0, 1) := by decide +kernel
theorem dL_law_285 : decode cL_law 285 = .ok (.iload_n 3, 1) := by decide +kernel
theorem dL_law_286 : decode cL_law 286 = .ok (.iconst 5, 1) := by decide +kernel
theorem dL_law_287 : decode cL_law 287 = .ok (.iadd, 1) := by decide +kernel
theorem dL_law_288 : decode cL_law 288 = .ok (.iaload, 1) := by decide +kernel
theorem dL_law_289 : decode cL_law 289 = .ok (.invokevirtual 35, 3) := by decide +kernel
theorem dL_law_292 : decode cL_law 292 = .ok (.if_icmp .eq 288, 3) := by decide +kernel
theorem dL_law_295 : decode cL_law 295 = .ok (.iconst 0, 1) := by decide +kernel
theorem dL_law_296 : decode cL_law 296 = .ok (.ireturn, 1) := by decide +kernel
theorem dL_law_297 : decode cL_law 297 = .ok (.aload_n 1, 1) := by decide +kernel
theorem dL_law_298 : decode cL_law 298 = .ok (.aload_n 0, 1) := by decide +kernel
theorem dL_law_299 : decode cL_law 299 = .ok (.iload_n 3, 1) := by decide +kernel
theorem dL_law_300 : decode cL_law 300 = .ok (.iconst 1, 1) := by decide +kernel
theorem dL_law_301 : decode cL_law 301 = .ok (.iadd, 1) := by decide +kernel
theorem dL_law_302 : decode cL_law 302 = .ok (.iaload, 1) := by decide +kernel
theorem dL_law_303 : decode cL_law 303 = .ok (.aload_n 0, 1) := by decide +kernel
theorem dL_law_304 : decode cL_law 304 = .ok (.iload_n 3, 1) := by decide +kernel
theorem dL_law_305 : decode cL_law 305 = .ok (.iconst 2, 1) := by decide +kernel
theorem dL_law_306 : decode cL_law 306 = .ok (.iadd, 1) := by decide +kernel
theorem dL_law_307 : decode cL_law 307 = .ok (.iaload, 1) := by decide +kernel
theorem dL_law_308 : decode cL_law 308 = .ok (.invokevirtual 36, 3) := by decide +kernel
theorem dL_law_311 : decode cL_law 311 = .ok (.aload_n 2, 1) := by decide +kernel
theorem dL_law_312 : decode cL_law 312 = .ok (.aload_n 0, 1) := by decide +kernel
theorem dL_law_313 : decode cL_law 313 = .ok (.iload_n 3, 1) := by decide +kernel
theorem dL_law_314 : decode cL_law 314 = .ok (.iconst 1, 1) := by decide +kernel
theorem dL_law_315 : decode cL_law 315 = .ok (.iadd, 1) := by decide +kernel
theorem dL_law_316 : decode cL_law 316 = .ok (.iaload, 1) := by decide +kernel
theorem dL_law_317 : decode cL_law 317 = .ok (.aload_n 0, 1) := by decide +kernel
theorem dL_law_318 : decode cL_law 318 = .ok (.iload_n 3, 1) := by decide +kernel
theorem dL_law_319 : decode cL_law 319 = .ok (.iconst 2, 1) := by decide +kernel
theorem dL_law_320 : decode cL_law 320 = .ok (.iadd, 1) := by decide +kernel
theorem dL_law_321 : decode cL_law 321 = .ok (.iaload, 1) := by decide +kernel
theorem dL_law_322 : decode cL_law 322 = .ok (.invokevirtual 39, 3) := by decide +kernel
theorem dL_law_325 : decode cL_law 325 = .ok (.if_icmp .eq 255, 3) := by decide +kernel
theorem dL_law_328 : decode cL_law 328 = .ok (.iconst 0, 1) := by decide +kernel
theorem dL_law_329 : decode cL_law 329 = .ok (.ireturn, 1) := by decide +kernel
theorem dL_law_330 : decode cL_law 330 = .ok (.aload_n 1, 1) := by decide +kernel
theorem dL_law_331 : decode cL_law 331 = .ok (.aload_n 0, 1) := by decide +kernel
theorem dL_law_332 : decode cL_law 332 = .ok (.iload_n 3, 1) := by decide +kernel
theorem dL_law_333 : decode cL_law 333 = .ok (.iconst 1, 1) := by decide +kernel
theorem dL_law_334 : decode cL_law 334 = .ok (.iadd, 1) := by decide +kernel
theorem dL_law_335 : decode cL_law 335 = .ok (.iaload, 1) := by decide +kernel
theorem dL_law_336 : decode cL_law 336 = .ok (.invokevirtual 40, 3) := by decide +kernel
theorem dL_law_339 : decode cL_law 339 = .ok (.aload_n 2, 1) := by decide +kernel
theorem dL_law_340 : decode cL_law 340 = .ok (.aload_n 0, 1) := by decide +kernel
theorem dL_law_341 : decode cL_law 341 = .ok (.iload_n 3, 1) := by decide +kernel
theorem dL_law_342 : decode cL_law 342 = .ok (.iconst 1, 1) := by decide +kernel
theorem dL_law_343 : decode cL_law 343 = .ok (.iadd, 1) := by decide +kernel
theorem dL_law_344 : decode cL_law 344 = .ok (.iaload, 1) := by decide +kernel
theorem dL_law_345 : decode cL_law 345 = .ok (.invokevirtual 43, 3) := by decide +kernel
theorem dL_law_348 : decode cL_law 348 = .ok (.if_icmp .eq 232, 3) := by decide +kernel
theorem dL_law_351 : decode cL_law 351 = .ok (.iconst 0, 1) := by decide +kernel
theorem dL_law_352 : decode cL_law 352 = .ok (.ireturn, 1) := by decide +kernel
theorem dL_law_353 : decode cL_law 353 = .ok (.aload_n 1, 1) := by decide +kernel
theorem dL_law_354 : decode cL_law 354 = .ok (.aload_n 0, 1) := by decide +kernel
theorem dL_law_355 : decode cL_law 355 = .ok (.iload_n 3, 1) := by decide +kernel
theorem dL_law_356 : decode cL_law 356 = .ok (.iconst 1, 1) := by decide +kernel
theorem dL_law_357 : decode cL_law 357 = .ok (.iadd, 1) := by decide +kernel
theorem dL_law_358 : decode cL_law 358 = .ok (.iaload, 1) := by decide +kernel
theorem dL_law_359 : decode cL_law 359 = .ok (.aload_n 0, 1) := by decide +kernel
theorem dL_law_360 : decode cL_law 360 = .ok (.iload_n 3, 1) := by decide +kernel
theorem dL_law_361 : decode cL_law 361 = .ok (.iconst 2, 1) := by decide +kernel
theorem dL_law_362 : decode cL_law 362 = .ok (.iadd, 1) := by decide +kernel
theorem dL_law_363 : decode cL_law 363 = .ok (.iaload, 1) := by decide +kernel
theorem dL_law_364 : decode cL_law 364 = .ok (.aload_n 0, 1) := by decide +kernel
theorem dL_law_365 : decode cL_law 365 = .ok (.iload_n 3, 1) := by decide +kernel
theorem dL_law_366 : decode cL_law 366 = .ok (.iconst 3, 1) := by decide +kernel
theorem dL_law_367 : decode cL_law 367 = .ok (.iadd, 1) := by decide +kernel
theorem dL_law_368 : decode cL_law 368 = .ok (.iaload, 1) := by decide +kernel
theorem dL_law_369 : decode cL_law 369 = .ok (.invokevirtual 44, 3) := by decide +kernel
theorem dL_law_372 : decode cL_law 372 = .ok (.aload_n 2, 1) := by decide +kernel
theorem dL_law_373 : decode cL_law 373 = .ok (.aload_n 0, 1) := by decide +kernel
theorem dL_law_374 : decode cL_law 374 = .ok (.iload_n 3, 1) := by decide +kernel
theorem dL_law_375 : decode cL_law 375 = .ok (.iconst 1, 1) := by decide +kernel
theorem dL_law_376 : decode cL_law 376 = .ok (.iadd, 1) := by decide +kernel
theorem dL_law_377 : decode cL_law 377 = .ok (.iaload, 1) := by decide +kernel
theorem dL_law_378 : decode cL_law 378 = .ok (.aload_n 0, 1) := by decide +kernel
theorem dL_law_379 : decode cL_law 379 = .ok (.iload_n 3, 1) := by decide +kernel
theorem dL_law_380 : decode cL_law 380 = .ok (.iconst 2, 1) := by decide +kernel
theorem dL_law_381 : decode cL_law 381 = .ok (.iadd, 1) := by decide +kernel
theorem dL_law_382 : decode cL_law 382 = .ok (.iaload, 1) := by decide +kernel
theorem dL_law_383 : decode cL_law 383 = .ok (.aload_n 0, 1) := by decide +kernel
theorem dL_law_384 : decode cL_law 384 = .ok (.iload_n 3, 1) := by decide +kernel
theorem dL_law_385 : decode cL_law 385 = .ok (.iconst 3, 1) := by decide +kernel
theorem dL_law_386 : decode cL_law 386 = .ok (.iadd, 1) := by decide +kernel
theorem dL_law_387 : decode cL_law 387 = .ok (.iaload, 1) := by decide +kernel
theorem dL_law_388 : decode cL_law 388 = .ok (.invokevirtual 48, 3) := by decide +kernel
theorem dL_law_391 : decode cL_law 391 = .ok (.if_icmp .eq 189, 3) := by decide +kernel
theorem dL_law_394 : decode cL_law 394 = .ok (.iconst 0, 1) := by decide +kernel
theorem dL_law_395 : decode cL_law 395 = .ok (.ireturn, 1) := by decide +kernel
theorem dL_law_396 : decode cL_law 396 = .ok (.aload_n 1, 1) := by decide +kernel
theorem dL_law_397 : decode cL_law 397 = .ok (.aload_n 0, 1) := by decide +kernel
theorem dL_law_398 : decode cL_law 398 = .ok (.iload_n 3, 1) := by decide +kernel
theorem dL_law_399 : decode cL_law 399 = .ok (.iconst 1, 1) := by decide +kernel
theorem dL_law_400 : decode cL_law 400 = .ok (.iadd, 1) := by decide +kernel
theorem dL_law_401 : decode cL_law 401 = .ok (.iaload, 1) := by decide +kernel
theorem dL_law_402 : decode cL_law 402 = .ok (.aload_n 0, 1) := by decide +kernel
theorem dL_law_403 : decode cL_law 403 = .ok (.iload_n 3, 1) := by decide +kernel
theorem dL_law_404 : decode cL_law 404 = .ok (.iconst 2, 1) := by decide +kernel
theorem dL_law_405 : decode cL_law 405 = .ok (.iadd, 1) := by decide +kernel
theorem dL_law_406 : decode cL_law 406 = .ok (.iaload, 1) := by decide +kernel
theorem dL_law_407 : decode cL_law 407 = .ok (.invokevirtual 49, 3) := by decide +kernel
theorem dL_law_410 : decode cL_law 410 = .ok (.aload_n 2, 1) := by decide +kernel
theorem dL_law_411 : decode cL_law 411 = .ok (.aload_n 0, 1) := by decide +kernel
theorem dL_law_412 : decode cL_law 412 = .ok (.iload_n 3, 1) := by decide +kernel
theorem dL_law_413 : decode cL_law 413 = .ok (.iconst 1, 1) := by decide +kernel
theorem dL_law_414 : decode cL_law 414 = .ok (.iadd, 1) := by decide +kernel
theorem dL_law_415 : decode cL_law 415 = .ok (.iaload, 1) := by decide +kernel
theorem dL_law_416 : decode cL_law 416 = .ok (.aload_n 0, 1) := by decide +kernel
theorem dL_law_417 : decode cL_law 417 = .ok (.iload_n 3, 1) := by decide +kernel
theorem dL_law_418 : decode cL_law 418 = .ok (.iconst 2, 1) := by decide +kernel
theorem dL_law_419 : decode cL_law 419 = .ok (.iadd, 1) := by decide +kernel
theorem dL_law_420 : decode cL_law 420 = .ok (.iaload, 1) := by decide +kernel
theorem dL_law_421 : decode cL_law 421 = .ok (.invokevirtual 52, 3) := by decide +kernel
theorem dL_law_424 : decode cL_law 424 = .ok (.if_icmp .eq 156, 3) := by decide +kernel
theorem dL_law_427 : decode cL_law 427 = .ok (.iconst 0, 1) := by decide +kernel
theorem dL_law_428 : decode cL_law 428 = .ok (.ireturn, 1) := by decide +kernel
theorem dL_law_429 : decode cL_law 429 = .ok (.aload_n 1, 1) := by decide +kernel
theorem dL_law_430 : decode cL_law 430 = .ok (.aload_n 0, 1) := by decide +kernel
theorem dL_law_431 : decode cL_law 431 = .ok (.iload_n 3, 1) := by decide +kernel
theorem dL_law_432 : decode cL_law 432 = .ok (.iconst 1, 1) := by decide +kernel
theorem dL_law_433 : decode cL_law 433 = .ok (.iadd, 1) := by decide +kernel
theorem dL_law_434 : decode cL_law 434 = .ok (.iaload, 1) := by decide +kernel
theorem dL_law_435 : decode cL_law 435 = .ok (.invokevirtual 53, 3) := by decide +kernel
theorem dL_law_438 : decode cL_law 438 = .ok (.aload_n 2, 1) := by decide +kernel
theorem dL_law_439 : decode cL_law 439 = .ok (.aload_n 0, 1) := by decide +kernel
theorem dL_law_440 : decode cL_law 440 = .ok (.iload_n 3, 1) := by decide +kernel
theorem dL_law_441 : decode cL_law 441 = .ok (.iconst 1, 1) := by decide +kernel
theorem dL_law_442 : decode cL_law 442 = .ok (.iadd, 1) := by decide +kernel
theorem dL_law_443 : decode cL_law 443 = .ok (.iaload, 1) := by decide +kernel
theorem dL_law_444 : decode cL_law 444 = .ok (.invokevirtual 56, 3) := by decide +kernel
theorem dL_law_447 : decode cL_law 447 = .ok (.if_icmp .eq 133, 3) := by decide +kernel
theorem dL_law_450 : decode cL_law 450 = .ok (.iconst 0, 1) := by decide +kernel
theorem dL_law_451 : decode cL_law 451 = .ok (.ireturn, 1) := by decide +kernel
theorem dL_law_452 : decode cL_law 452 = .ok (.aload_n 1, 1) := by decide +kernel
theorem dL_law_453 : decode cL_law 453 = .ok (.aload_n 0, 1) := by decide +kernel
theorem dL_law_454 : decode cL_law 454 = .ok (.iload_n 3, 1) := by decide +kernel
theorem dL_law_455 : decode cL_law 455 = .ok (.iconst 1, 1) := by decide +kernel
theorem dL_law_456 : decode cL_law 456 = .ok (.iadd, 1) := by decide +kernel
theorem dL_law_457 : decode cL_law 457 = .ok (.iaload, 1) := by decide +kernel
theorem dL_law_458 : decode cL_law 458 = .ok (.aload_n 0, 1) := by decide +kernel
theorem dL_law_459 : decode cL_law 459 = .ok (.iload_n 3, 1) := by decide +kernel
theorem dL_law_460 : decode cL_law 460 = .ok (.iconst 2, 1) := by decide +kernel
theorem dL_law_461 : decode cL_law 461 = .ok (.iadd, 1) := by decide +kernel
theorem dL_law_462 : decode cL_law 462 = .ok (.iaload, 1) := by decide +kernel
theorem dL_law_463 : decode cL_law 463 = .ok (.invokevirtual 57, 3) := by decide +kernel
theorem dL_law_466 : decode cL_law 466 = .ok (.aload_n 2, 1) := by decide +kernel
theorem dL_law_467 : decode cL_law 467 = .ok (.aload_n 0, 1) := by decide +kernel
theorem dL_law_468 : decode cL_law 468 = .ok (.iload_n 3, 1) := by decide +kernel
theorem dL_law_469 : decode cL_law 469 = .ok (.iconst 1, 1) := by decide +kernel
theorem dL_law_470 : decode cL_law 470 = .ok (.iadd, 1) := by decide +kernel
theorem dL_law_471 : decode cL_law 471 = .ok (.iaload, 1) := by decide +kernel
theorem dL_law_472 : decode cL_law 472 = .ok (.aload_n 0, 1) := by decide +kernel
theorem dL_law_473 : decode cL_law 473 = .ok (.iload_n 3, 1) := by decide +kernel
theorem dL_law_474 : decode cL_law 474 = .ok (.iconst 2, 1) := by decide +kernel
theorem dL_law_475 : decode cL_law 475 = .ok (.iadd, 1) := by decide +kernel
theorem dL_law_476 : decode cL_law 476 = .ok (.iaload, 1) := by decide +kernel
theorem dL_law_477 : decode cL_law 477 = .ok (.invokevirtual 60, 3) := by decide +kernel
theorem dL_law_480 : decode cL_law 480 = .ok (.if_icmp .eq 100, 3) := by decide +kernel
theorem dL_law_483 : decode cL_law 483 = .ok (.iconst 0, 1) := by decide +kernel
theorem dL_law_484 : decode cL_law 484 = .ok (.ireturn, 1) := by decide +kernel
theorem dL_law_485 : decode cL_law 485 = .ok (.aload_n 1, 1) := by decide +kernel
theorem dL_law_486 : decode cL_law 486 = .ok (.aload_n 0, 1) := by decide +kernel
theorem dL_law_487 : decode cL_law 487 = .ok (.iload_n 3, 1) := by decide +kernel
theorem dL_law_488 : decode cL_law 488 = .ok (.iconst 1, 1) := by decide +kernel
theorem dL_law_489 : decode cL_law 489 = .ok (.iadd, 1) := by decide +kernel
theorem dL_law_490 : decode cL_law 490 = .ok (.iaload, 1) := by decide +kernel
theorem dL_law_491 : decode cL_law 491 = .ok (.aload_n 0, 1) := by decide +kernel
theorem dL_law_492 : decode cL_law 492 = .ok (.iload_n 3, 1) := by decide +kernel
theorem dL_law_493 : decode cL_law 493 = .ok (.iconst 2, 1) := by decide +kernel
theorem dL_law_494 : decode cL_law 494 = .ok (.iadd, 1) := by decide +kernel
theorem dL_law_495 : decode cL_law 495 = .ok (.iaload, 1) := by decide +kernel
theorem dL_law_496 : decode cL_law 496 = .ok (.invokevirtual 61, 3) := by decide +kernel
theorem dL_law_499 : decode cL_law 499 = .ok (.aload_n 2, 1) := by decide +kernel
theorem dL_law_500 : decode cL_law 500 = .ok (.aload_n 0, 1) := by decide +kernel
theorem dL_law_501 : decode cL_law 501 = .ok (.iload_n 3, 1) := by decide +kernel
theorem dL_law_502 : decode cL_law 502 = .ok (.iconst 1, 1) := by decide +kernel
theorem dL_law_503 : decode cL_law 503 = .ok (.iadd, 1) := by decide +kernel
theorem dL_law_504 : decode cL_law 504 = .ok (.iaload, 1) := by decide +kernel
theorem dL_law_505 : decode cL_law 505 = .ok (.aload_n 0, 1) := by decide +kernel
theorem dL_law_506 : decode cL_law 506 = .ok (.iload_n 3, 1) := by decide +kernel
theorem dL_law_507 : decode cL_law 507 = .ok (.iconst 2, 1) := by decide +kernel
theorem dL_law_508 : decode cL_law 508 = .ok (.iadd, 1) := by decide +kernel
theorem dL_law_509 : decode cL_law 509 = .ok (.iaload, 1) := by decide +kernel
theorem dL_law_510 : decode cL_law 510 = .ok (.invokevirtual 64, 3) := by decide +kernel
theorem dL_law_513 : decode cL_law 513 = .ok (.if_icmp .eq 67, 3) := by decide +kernel
theorem dL_law_516 : decode cL_law 516 = .ok (.iconst 0, 1) := by decide +kernel
theorem dL_law_517 : decode cL_law 517 = .ok (.ireturn, 1) := by decide +kernel
theorem dL_law_518 : decode cL_law 518 = .ok (.aload_n 1, 1) := by decide +kernel
theorem dL_law_519 : decode cL_law 519 = .ok (.invokevirtual 65, 3) := by decide +kernel
theorem dL_law_522 : decode cL_law 522 = .ok (.aload_n 2, 1) := by decide +kernel
theorem dL_law_523 : decode cL_law 523 = .ok (.invokevirtual 69, 3) := by decide +kernel
theorem dL_law_526 : decode cL_law 526 = .ok (.if_icmp .eq 54, 3) := by decide +kernel
theorem dL_law_529 : decode cL_law 529 = .ok (.iconst 0, 1) := by decide +kernel
theorem dL_law_530 : decode cL_law 530 = .ok (.ireturn, 1) := by decide +kernel
theorem dL_law_531 : decode cL_law 531 = .ok (.aload_n 1, 1) := by decide +kernel
theorem dL_law_532 : decode cL_law 532 = .ok (.invokevirtual 70, 3) := by decide +kernel
theorem dL_law_535 : decode cL_law 535 = .ok (.aload_n 2, 1) := by decide +kernel
theorem dL_law_536 : decode cL_law 536 = .ok (.invokevirtual 73, 3) := by decide +kernel
theorem dL_law_539 : decode cL_law 539 = .ok (.if_icmp .eq 41, 3) := by decide +kernel
theorem dL_law_542 : decode cL_law 542 = .ok (.iconst 0, 1) := by decide +kernel
theorem dL_law_543 : decode cL_law 543 = .ok (.ireturn, 1) := by decide +kernel
theorem dL_law_544 : decode cL_law 544 = .ok (.aload_n 1, 1) := by decide +kernel
theorem dL_law_545 : decode cL_law 545 = .ok (.aload_n 0, 1) := by decide +kernel
theorem dL_law_546 : decode cL_law 546 = .ok (.iload_n 3, 1) := by decide +kernel
theorem dL_law_547 : decode cL_law 547 = .ok (.iconst 1, 1) := by decide +kernel
theorem dL_law_548 : decode cL_law 548 = .ok (.iadd, 1) := by decide +kernel
theorem dL_law_549 : decode cL_law 549 = .ok (.iaload, 1) := by decide +kernel
theorem dL_law_550 : decode cL_law 550 = .ok (.invokevirtual 74, 3) := by decide +kernel
theorem dL_law_553 : decode cL_law 553 = .ok (.aload_n 2, 1) := by decide +kernel
theorem dL_law_554 : decode cL_law 554 = .ok (.aload_n 0, 1) := by decide +kernel
theorem dL_law_555 : decode cL_law 555 = .ok (.iload_n 3, 1) := by decide +kernel
theorem dL_law_556 : decode cL_law 556 = .ok (.iconst 1, 1) := by decide +kernel
theorem dL_law_557 : decode cL_law 557 = .ok (.iadd, 1) := by decide +kernel
theorem dL_law_558 : decode cL_law 558 = .ok (.iaload, 1) := by decide +kernel
theorem dL_law_559 : decode cL_law 559 = .ok (.invokevirtual 77, 3) := by decide +kernel
theorem dL_law_562 : decode cL_law 562 = .ok (.if_icmp .eq 18, 3) := by decide +kernel
theorem dL_law_565 : decode cL_law 565 = .ok (.iconst 0, 1) := by decide +kernel
theorem dL_law_566 : decode cL_law 566 = .ok (.ireturn, 1) := by decide +kernel
theorem dL_law_567 : decode cL_law 567 = .ok (.aload_n 1, 1) := by decide +kernel
theorem dL_law_568 : decode cL_law 568 = .ok (.invokevirtual 78, 3) := by decide +kernel
theorem dL_law_571 : decode cL_law 571 = .ok (.aload_n 2, 1) := by decide +kernel
theorem dL_law_572 : decode cL_law 572 = .ok (.invokevirtual 81, 3) := by decide +kernel
theorem dL_law_575 : decode cL_law 575 = .ok (.if_icmp .eq 5, 3) := by decide +kernel
theorem dL_law_578 : decode cL_law 578 = .ok (.iconst 0, 1) := by decide +kernel
theorem dL_law_579 : decode cL_law 579 = .ok (.ireturn, 1) := by decide +kernel
theorem dL_law_580 : decode cL_law 580 = .ok (.iinc 3 6, 3) := by decide +kernel
theorem dL_law_583 : decode cL_law 583 = .ok (.goto (-565), 3) := by decide +kernel
theorem dL_law_586 : decode cL_law 586 = .ok (.iconst 1, 1) := by decide +kernel
theorem dL_law_587 : decode cL_law 587 = .ok (.ireturn, 1) := by decide +kernel
end
section
/-! rows of this claim's own: what stands fixed in a body (fx), the world as one thing (wb), contracts over the whole world (ctI, ctV, ctQ, ctS), how a body begins, ends, calls -/
abbrev Gm : Type := va_G × (ClassId × ClassId × ClassId)
abbrev tyL (G : Gm) : List (ClassId × FieldType) := [(G.2.1, .int), (G.2.2.1, .object RX0), (G.2.2.2, .array .int)]
def nestW : List Cond := [.fieldLinkNest RX1 98 "LeverHall$Deed" "kind" "I" RX1, .fieldLinkNest RX1 147 "LeverHall$Deed" "x" "I" RX1, .fieldLinkNest RX1 187 "LeverHall$Deed" "y" "I" RX1, .fieldLinkNest RX1 165 "LeverHall$Deed" "z" "I" RX1, .fieldLinkNest RX1 172 "LeverHall$Deed" "first" "LLeverHall$Deed;" RX1, .fieldLinkNest RX1 168 "LeverHall$Deed" "second" "LLeverHall$Deed;" RX1, .fieldLinkNest RX1 190 "LeverHall$Deed" "gauge" "[I" RX1, .fieldLinkNest RX1 101 "LeverHall$Deed" "times" "I" RX1, .methodLinkNest RX1 92 yX0_init RX1]
def agK (G : Gm) (U : State) : Prop := ∃ (kA kI : Class), U.vm.classes[G.2.2.2]? = some kA ∧ kA.kind = .array G.2.1 (.array .int) ∧ U.vm.classes[G.2.1]? = some kI
theorem agK.moved {G : Gm} {u U : State} (hvm : u.vm.Alike U.vm) (h : agK G u) : agK G U := by
  obtain ⟨kA, kI, h1, h2, h3⟩ := h
  obtain ⟨k', hk', he⟩ := hvm.2.2 _ _ h1
  obtain ⟨k2, hk2, -⟩ := hvm.2.2 _ _ h3
  exact ⟨k', k2, hk', by rw [he]; exact h2, hk2⟩
def kx (G : Gm) (U : State) : Prop := va_K G.1 vwCl (tyL G) U ∧ agK G U ∧ (∀ w ∈ nestW, va_Nw w U) ∧ va_AO RX0 U ∧ va_Nw (.arrayOver (.array .int)) U
theorem nest_warm {s U : State} (hW : s.WarmedH U.vm) (h : ∀ w ∈ nestW, va_Nw w s) : ∀ w ∈ nestW, va_Nw w U := by
  unfold nestW at h ⊢
  simp only [List.forall_mem_cons] at h ⊢
  obtain ⟨h1, h2, h3, h4, h5, h6, h7, h8, h9, -⟩ := h
  exact ⟨h1.warmF hW, h2.warmF hW, h3.warmF hW, h4.warmF hW, h5.warmF hW, h6.warmF hW, h7.warmF hW, h8.warmF hW, h9.warmM hW, fun _ h => absurd h List.not_mem_nil⟩
theorem kx_warm {G : Gm} {s U : State} (hW : s.WarmedH U.vm) (h : kx G s) : kx G U :=
  ⟨va_K.moved hW.alike h.1, h.2.1.moved hW.alike, nest_warm hW h.2.2.1, h.2.2.2.1.moved hW.alike, over_moved hW.alike h.2.2.2.2⟩
theorem kx_same {G : Gm} {u U : State} (hv : u.vm = U.vm) (h : kx G u) : kx G U := by
  have hal : u.vm.Alike U.vm := by rw [hv]; exact Vm.Alike.refl _
  refine ⟨va_K.moved hal h.1, h.2.1.moved hal, fun w hw => ?_, h.2.2.2.1.moved hal, over_moved hal h.2.2.2.2⟩
  have h1 := h.2.2.1 w hw
  have ht : w.onTables = true := by
    have hall : ∀ w ∈ nestW, w.onTables = true := by unfold nestW; simp only [List.forall_mem_cons]; exact ⟨rfl, rfl, rfl, rfl, rfl, rfl, rfl, rfl, rfl, fun _ h => absurd h List.not_mem_nil⟩
    exact hall w hw
  exact va_Nw.same ht hv h1
def fx (p : Program) (s : State) (m : MethodId) (args : Array Value) (meth : Method) (c : Code) (cc : ByteArray) (nL : Nat) (own : String) (c0 : Cond) (ret : Option FieldType) : Prop :=
  CallFix p m c cc nL s args (c0 :: wsA) own ∧ meth.sig.returnType = ret ∧ meth.locks = false
def wb (G : Gm) (A : Nat → Prop) (s : State) (ws : va_W) (H : Heap) (locs : List Loc) : Prop := kx G s ∧ va_P G.1 vwCl ws H ∧ va_D A ws ∧ va_S A s.heap H locs ∧ ∀ q, s.heap.size ≤ q → A q
def pr (G : Gm) (ws : va_W) (sz : Nat) (U : State) : Prop := U.heap.size = sz ∧ va_P G.1 vwCl ws U.heap ∧ kx G U ∧ va_D (fun _ => True) ws
def po (G : Gm) {S : Type} (A : Nat → Prop) (wf : S → va_W) (u : S) (t : State) : Prop := va_P G.1 vwCl (wf u) t.heap ∧ va_D A (wf u)
def ctI (l : Launch) (y : MethodName) (cc : ByteArray) (n : Nat) (rt : FieldType) (rm : Room) (G : Gm) (av : List Value) (ws : va_W) {S : Type} (post : Int32 → S → Prop) (wf : S → va_W) : Prop :=
  ∀ sz : Nat, Met l y (.code y cc n (some rt) :: wsA) rm (va_Pc av (pr G ws sz)) (va_Qi post (po G (va_A ws sz) wf) (va_A ws sz)) rm.cells rm.slots (va_A ws sz)
def ctQ (l : Launch) (y : MethodName) (cc : ByteArray) (n : Nat) (rt : FieldType) (rm : Room) (G : Gm) (av : List Value) (ws : va_W) {S : Type} (post : Option Nat → S → Prop) (wf : S → va_W) : Prop :=
  ∀ sz : Nat, Met l y (.code y cc n (some rt) :: wsA) rm (va_Pc av (pr G ws sz)) (va_Qq post (po G (va_A ws sz) wf) (va_A ws sz)) rm.cells rm.slots (va_A ws sz)
def ctV (l : Launch) (y : MethodName) (cc : ByteArray) (n : Nat) (rm : Room) (G : Gm) (av : List Value) (ws : va_W) {S : Type} (post : S → Prop) (wf : S → va_W) : Prop :=
  ∀ sz : Nat, Met l y (.code y cc n none :: wsA) rm (va_Pc av (pr G ws sz)) (va_Qv post (po G (va_A ws sz) wf) (va_A ws sz)) rm.cells rm.slots (va_A ws sz)
def ctS (l : Launch) (y : MethodName) (cc : ByteArray) (n : Nat) (rt : FieldType) (rm : Room) (av : List Value) (post : Int32 → Prop) : Prop :=
  Met l y (.code y cc n (some rt) :: wsA) rm (va_Pc av (fun _ => True)) (vp_Si post) 0 0 (fun _ => False)
section EN
variable {l : Launch} {y : MethodName} {cc : ByteArray} {n : Nat} {rt : FieldType} {rm : Room} {G : Gm} {av : List Value} {ws : va_W} {S : Type} {wf : S → va_W}
theorem en_I {post : Int32 → S → Prop} (hy : plainName y.cls = true) (hlen : (lg_sl av).length ≤ n)
    (body : ∀ (p : Program) (e : Env) (s : State) (m : MethodId) (below : List Frame) (meth : Method) (c : Code) (A : Nat → Prop) (ls : Array Slot), fx p s m av.toArray meth c cc n y.cls (.code y cc n (some rt)) (some rt) → wb G A s ws s.heap [] → lv_has ls n (lv_args 0 av) →
      W p l e rm s m av.toArray below meth c s.heap [] 0 0 (MQ below (va_Qi post (po G A wf) A) av.toArray s rm.cells rm.slots A) (F0 m 0 ls [])) : ctI l y cc n rt rm G av ws post wf := by
  intro sz
  refine Met.ofW (cc := cc) (maxL := n) (ret := some rt) hy rfl ?_
  intro p e s m args below meth c s₁ B hml hv
  obtain ⟨rfl, hsz, hP, hK, hD0⟩ := hv
  subst hsz
  have hD := hD0.self (sz := s.heap.size)
  have hA : ∀ q : Nat, s.heap.size ≤ q → va_A ws s.heap.size q := fun q h => Or.inr h
  generalize va_A ws s.heap.size = A at hD hA ⊢
  have hl := lv_entry av (n := n) hlen
  rw [lg_entry_eq]
  generalize (lg_sl av ++ List.replicate (n - (lg_sl av).length) Slot.unset).toArray = ls at hl ⊢
  exact body p e s m below meth c A ls ⟨⟨B.exec, B.bytes, hml, findClass_of_methodNamed B.named, atoms_spec (ws := .code y cc n (some rt) :: wsA) B.pre⟩, B.returns, B.notSynchronized⟩ ⟨hK, hP, hD, va_S.rf, hA⟩ hl
theorem en_Q {post : Option Nat → S → Prop} (hy : plainName y.cls = true) (hlen : (lg_sl av).length ≤ n)
    (body : ∀ (p : Program) (e : Env) (s : State) (m : MethodId) (below : List Frame) (meth : Method) (c : Code) (A : Nat → Prop) (ls : Array Slot), fx p s m av.toArray meth c cc n y.cls (.code y cc n (some rt)) (some rt) → wb G A s ws s.heap [] → lv_has ls n (lv_args 0 av) →
      W p l e rm s m av.toArray below meth c s.heap [] 0 0 (MQ below (va_Qq post (po G A wf) A) av.toArray s rm.cells rm.slots A) (F0 m 0 ls [])) : ctQ l y cc n rt rm G av ws post wf := by
  intro sz
  refine Met.ofW (cc := cc) (maxL := n) (ret := some rt) hy rfl ?_
  intro p e s m args below meth c s₁ B hml hv
  obtain ⟨rfl, hsz, hP, hK, hD0⟩ := hv
  subst hsz
  have hD := hD0.self (sz := s.heap.size)
  have hA : ∀ q : Nat, s.heap.size ≤ q → va_A ws s.heap.size q := fun q h => Or.inr h
  generalize va_A ws s.heap.size = A at hD hA ⊢
  have hl := lv_entry av (n := n) hlen
  rw [lg_entry_eq]
  generalize (lg_sl av ++ List.replicate (n - (lg_sl av).length) Slot.unset).toArray = ls at hl ⊢
  exact body p e s m below meth c A ls ⟨⟨B.exec, B.bytes, hml, findClass_of_methodNamed B.named, atoms_spec (ws := .code y cc n (some rt) :: wsA) B.pre⟩, B.returns, B.notSynchronized⟩ ⟨hK, hP, hD, va_S.rf, hA⟩ hl
theorem en_V {post : S → Prop} (hy : plainName y.cls = true) (hlen : (lg_sl av).length ≤ n)
    (body : ∀ (p : Program) (e : Env) (s : State) (m : MethodId) (below : List Frame) (meth : Method) (c : Code) (A : Nat → Prop) (ls : Array Slot), fx p s m av.toArray meth c cc n y.cls (.code y cc n none) none → meth.name = y.name → wb G A s ws s.heap [] → lv_has ls n (lv_args 0 av) →
      W p l e rm s m av.toArray below meth c s.heap [] 0 0 (MQ below (va_Qv post (po G A wf) A) av.toArray s rm.cells rm.slots A) (F0 m 0 ls [])) : ctV l y cc n rm G av ws post wf := by
  intro sz
  refine Met.ofW (cc := cc) (maxL := n) (ret := none) hy rfl ?_
  intro p e s m args below meth c s₁ B hml hv
  obtain ⟨rfl, hsz, hP, hK, hD0⟩ := hv
  subst hsz
  have hD := hD0.self (sz := s.heap.size)
  have hA : ∀ q : Nat, s.heap.size ≤ q → va_A ws s.heap.size q := fun q h => Or.inr h
  generalize va_A ws s.heap.size = A at hD hA ⊢
  have hl := lv_entry av (n := n) hlen
  rw [lg_entry_eq]
  generalize (lg_sl av ++ List.replicate (n - (lg_sl av).length) Slot.unset).toArray = ls at hl ⊢
  exact body p e s m below meth c A ls ⟨⟨B.exec, B.bytes, hml, findClass_of_methodNamed B.named, atoms_spec (ws := .code y cc n none :: wsA) B.pre⟩, B.returns, B.notSynchronized⟩ (name_of_methodNamed B.named B.method).1 ⟨hK, hP, hD, va_S.rf, hA⟩ hl
theorem en_S {post : Int32 → Prop} (hy : plainName y.cls = true) (hlen : (lg_sl av).length ≤ n)
    (body : ∀ (p : Program) (e : Env) (s : State) (m : MethodId) (below : List Frame) (meth : Method) (c : Code) (ls : Array Slot), fx p s m av.toArray meth c cc n y.cls (.code y cc n (some rt)) (some rt) → lv_has ls n (lv_args 0 av) →
      W p l e rm s m av.toArray below meth c s.heap [] 0 0 (MQ below (vp_Si post) av.toArray s 0 0 (fun _ => False)) (F0 m 0 ls [])) : ctS l y cc n rt rm av post := by
  refine Met.ofW (cc := cc) (maxL := n) (ret := some rt) hy rfl ?_
  intro p e s m args below meth c s₁ B hml hv
  obtain ⟨rfl, -⟩ := hv
  have hl := lv_entry av (n := n) hlen
  rw [lg_entry_eq]
  generalize (lg_sl av ++ List.replicate (n - (lg_sl av).length) Slot.unset).toArray = ls at hl ⊢
  exact body p e s m below meth c ls ⟨⟨B.exec, B.bytes, hml, findClass_of_methodNamed B.named, atoms_spec (ws := .code y cc n (some rt) :: wsA) B.pre⟩, B.returns, B.notSynchronized⟩ hl
end EN
theorem gi_one {c0 w : Cond} (h : w ∈ wsA) : w ∈ c0 :: wsA ∧ ((w.onTables && w.keeps) = true ∨ ∃ ty, w = .arrayClass ty) := ⟨List.mem_cons_of_mem _ h, good_of_word (gl_all w h)⟩
theorem gi_V {c0 cd : Cond} {own : String} {idx : Nat} {y : MethodName} (h : vwd own idx y cd) : GoodIn (c0 :: wsA) (wsV own idx y.cls y (cd :: wsA)) := by
  obtain ⟨h1, h2, h3, h4, h5⟩ := h
  intro w hw
  unfold wsV at hw
  rcases List.mem_append.mp hw with hw | hw
  · simp only [List.mem_cons, List.not_mem_nil, or_false] at hw
    rcases hw with rfl | rfl | rfl | rfl
    · exact gi_one h1
    · exact gi_one h2
    · exact gi_one h3
    · exact gi_one h4
  · rcases List.mem_cons.mp hw with rfl | hw
    · exact gi_one h5
    · exact gi_one hw
theorem gi_S {c0 cd : Cond} {own : String} {idx : Nat} {y : MethodName} (h : swd own idx y cd) : GoodIn (c0 :: wsA) (wsS own idx y (cd :: wsA)) := by
  obtain ⟨h1, h2, h3, h5⟩ := h
  intro w hw
  unfold wsS at hw
  rcases List.mem_append.mp hw with hw | hw
  · simp only [List.mem_cons, List.not_mem_nil, or_false] at hw
    rcases hw with rfl | rfl | rfl
    · exact gi_one h1
    · exact gi_one h2
    · exact gi_one h3
  · rcases List.mem_cons.mp hw with rfl | hw
    · exact gi_one h5
    · exact gi_one hw
theorem gi_C {c0 cd : Cond} (h : cd ∈ wsA) : GoodIn (c0 :: wsA) (cd :: wsA) := by
  intro w hw
  rcases List.mem_cons.mp hw with rfl | hw
  · exact gi_one h
  · exact gi_one hw
end
section
/-! ends, calls, fields and arrays, over fx and wb -/
theorem fx.w {p : Program} {s : State} {m : MethodId} {args : Array Value} {meth : Method} {c : Code} {cc : ByteArray} {nL : Nat} {own : String} {c0 : Cond} {ret : Option FieldType} (hF : fx p s m args meth c cc nL own c0 ret) {w : Cond} (h : w ∈ wsA) : w.before args s = true := hF.1.2.2.2.2 w (List.mem_cons_of_mem _ h)
theorem fx.x {p : Program} {s : State} {m : MethodId} {args : Array Value} {meth : Method} {c : Code} {cc : ByteArray} {nL : Nat} {own : String} {c0 : Cond} {ret : Option FieldType} (hF : fx p s m args meth c cc nL own c0 ret) : p.tables.exec = Jvm.exec := hF.1.1
theorem fx.b {p : Program} {s : State} {m : MethodId} {args : Array Value} {meth : Method} {c : Code} {cc : ByteArray} {nL : Nat} {own : String} {c0 : Cond} {ret : Option FieldType} (hF : fx p s m args meth c cc nL own c0 ret) : c.code = cc := hF.1.2.1
section RW
variable {p : Program} {l : Launch} {e : Env} {R : Room} {s : State} {m : MethodId} {args : Array Value} {below : List Frame} {meth : Method} {c : Code} {H : Heap} {locs : List Loc} {cells slots : Nat} {Q : State → Prop}
variable {cc : ByteArray} {pc : Nat} {ls : Array Slot} {rest : List Value} {G : Gm} {A : Nat → Prop} {ws : va_W} {nL : Nat} {own : String} {c0 : Cond} {ret : Option FieldType} {S : Type} {wf : S → va_W} {u : S} {kc ks : Nat}
theorem rt_I {post : Int32 → S → Prop} {r : Int32} (hF : fx p s m args meth c cc nL own c0 (some .int)) (hw : wb G A s (wf u) H locs) (hp : post r u) (hc : cells ≤ kc) (hs : slots ≤ ks) (hd : decode cc pc = .ok (.ireturn, 1)) :
    W p l e R s m args below meth c H locs cells slots (MQ below (va_Qi post (po G A wf) A) args s kc ks A) (F0 m pc ls [.int r]) := by
  refine W.widen (k := kc) (n := ks) hc hs ?_
  exact W.iret hF.x hF.b hF.2.1 (fun t ht hW => ⟨⟨r, u, rfl, hp, by rw [ht]; exact hw.2.1, hw.2.2.1⟩, hw.2.2.2.1.F ht⟩) hw.2.2.2.1.2.2 hd hF.2.2
theorem rt_Z {post : Int32 → S → Prop} {r : Int32} (hF : fx p s m args meth c cc nL own c0 (some .boolean)) (hz : r = 0 ∨ r = 1) (hw : wb G A s (wf u) H locs) (hp : post r u) (hc : cells ≤ kc) (hs : slots ≤ ks) (hd : decode cc pc = .ok (.ireturn, 1)) :
    W p l e R s m args below meth c H locs cells slots (MQ below (va_Qi post (po G A wf) A) args s kc ks A) (F0 m pc ls [.int r]) := by
  refine W.widen (k := kc) (n := ks) hc hs ?_
  exact W.zret hF.x hF.b hF.2.1 (by rcases hz with rfl | rfl <;> rfl) (fun t ht hW => ⟨⟨r, u, rfl, hp, by rw [ht]; exact hw.2.1, hw.2.2.1⟩, hw.2.2.2.1.F ht⟩) hw.2.2.2.1.2.2 hd hF.2.2
theorem rt_Q {post : Option Nat → S → Prop} {r : Option Nat} {rt : FieldType} (hF : fx p s m args meth c cc nL own c0 (some rt)) (hrt : (∃ n, rt = .object n) ∨ ∃ t, rt = .array t) (hw : wb G A s (wf u) H locs) (hp : post r u) (hc : cells ≤ kc) (hs : slots ≤ ks) (hd : decode cc pc = .ok (.areturn, 1)) :
    W p l e R s m args below meth c H locs cells slots (MQ below (va_Qq post (po G A wf) A) args s kc ks A) (F0 m pc ls [va_rf r]) := by
  refine W.widen (k := kc) (n := ks) hc hs ?_
  exact W.aret hF.x hF.b hF.2.1 hrt (va_rf_or r) (fun t ht hW => ⟨⟨r, u, rfl, hp, by rw [ht]; exact hw.2.1, hw.2.2.1⟩, hw.2.2.2.1.F ht⟩) hw.2.2.2.1.2.2 hd hF.2.2
theorem rt_V {post : S → Prop} (hF : fx p s m args meth c cc nL own c0 none) (hw : wb G A s (wf u) H locs) (hp : post u) (hc : cells ≤ kc) (hs : slots ≤ ks) (hd : decode cc pc = .ok (.return_, 1)) :
    W p l e R s m args below meth c H locs cells slots (MQ below (va_Qv post (po G A wf) A) args s kc ks A) (F0 m pc ls []) := by
  refine W.widen (k := kc) (n := ks) hc hs ?_
  exact W.vret hF.x hF.b hF.2.1 (fun t ht hW => ⟨⟨u, rfl, hp, by rw [ht]; exact hw.2.1, hw.2.2.1⟩, hw.2.2.2.1.F ht⟩) hw.2.2.2.1.2.2 hd hF.2.2
theorem rt_S {post : Int32 → Prop} {r : Int32} (hF : fx p s m args meth c cc nL own c0 (some .boolean)) (hz : r = 0 ∨ r = 1) (hp : post r) (hd : decode cc pc = .ok (.ireturn, 1)) :
    W p l e R s m args below meth c s.heap [] 0 0 (MQ below (vp_Si post) args s 0 0 (fun _ => False)) (F0 m pc ls [.int r]) :=
  W.zret hF.x hF.b hF.2.1 (by rcases hz with rfl | rfl <;> rfl) (fun t ht hW => ⟨r, rfl, hp, ht⟩) (fun q h => by cases h) hd hF.2.2
theorem wb.free (hw : wb G A s ws H locs) : ∀ q, va_A ws H.size q → A q := by
  obtain ⟨hk, hP, hD, hS, hA⟩ := hw
  intro q h
  rcases h with ⟨k, e, h⟩ | h
  · exact hD.2 k _ h
  · exact hA q (Nat.le_trans hS.1 h)
theorem wb.blind {av : List Value} {sz : Nat} : FrameBlind (va_Pc av (pr G ws sz)) := fun a U g mk q => by
  obtain ⟨q0, q1, qP, qK, qD⟩ := q
  exact ⟨q0, q1, qP, kx_same (u := U) (U := U.calling g mk a) rfl qK, qD⟩
theorem wb.pre {av : List Value} (hw : wb G A s ws H locs) : ∀ U : State, U.heap = H → s.WarmedH U.vm → va_Pc av (pr G ws H.size) av.toArray U := fun U hU hW =>
  ⟨rfl, by rw [hU], by rw [hU]; exact hw.2.1, kx_warm hW hw.1, hw.2.2.1.weaken (fun _ _ _ _ => trivial)⟩
variable {y2 : MethodName} {cc2 : ByteArray} {n2 : Nat} {rt2 : FieldType} {rm2 : Room} {As st0 : List Value} {b idx : Nat} {S2 : Type} {wf2 : S2 → va_W}
theorem ca_I {post2 : Int32 → S2 → Prop} (hF : fx p s m args meth c cc nL own c0 ret) (hw : wb G A s ws H locs) (hM : ctI l y2 cc2 n2 rt2 rm2 G (.ref b :: As) ws post2 wf2) (hv : vwd own idx y2 (.code y2 cc2 n2 (some rt2)))
    {q0 ci : Nat} {q : vw_C} {fs : List Value} (hq : vwCl[ci]? = some q) (hqn : q.1 = y2.cls) (he : ws[q0]? = some (b, .inr (ci, fs)))
    (hd : y2.cls ≠ "java/lang/invoke/MethodHandle" ∧ y2.cls ≠ "java/lang/invoke/VarHandle" ∧ (parseMethodDescriptor y2.desc).map (fun d => d.parameters.length) = some As.length)
    (hR : rm2.frames + 1 ≤ R.frames ∧ 8 + (n2 + 11) + rm2.locals ≤ R.locals) (hC : cells + rm2.cells ≤ R.cells ∧ slots + rm2.slots ≤ R.slots)
    (hls : ls.size = nL) (hst : st0 = As.reverse ++ .ref b :: rest) (hsum : (rest.map fun v => v.category).sum ≤ 8) (hdg : decode cc pc = .ok (.invokevirtual idx, 3))
    (kk : ∀ (r : Int32) (u : S2) (H1 : Heap) (locs1 : List Loc), post2 r u → wb G A s (wf2 u) H1 locs1 → W p l e R s m args below meth c H1 locs1 (cells + rm2.cells) (slots + rm2.slots) Q (F0 m (pc + 3) ls (.int r :: rest))) :
    W p l e R s m args below meth c H locs cells slots Q (F0 m pc ls st0) := by
  have hFc := hw.free
  refine va_calli (va_runV (As := As) (rest := rest) hF.1 (hM H.size) (cwV As.length hF.1.2.2.2.2 (gi_V hv) rfl rfl rfl ⟨rfl, hd.1, hd.2.1, hd.2.2⟩ hR) ⟨wb.blind, by rw [← hqn]; exact va_recv hw.1.1 hw.2.1 hq he, hw.pre⟩ rfl rfl hls (by rw [hst]) (lv_room hsum) hdg hC) hw.2.2.2.1 (fun q _ h => hFc q h) hFc (fun r u t H1 locs1 ht hvm hp hB hz hk1 hS1 => ?_)
  exact kk r u H1 locs1 hp ⟨hw.1, by rw [← ht]; exact hB.1, hB.2.weaken (fun _ _ _ h => hFc _ h), hS1, hw.2.2.2.2⟩
theorem ca_Q {post2 : Option Nat → S2 → Prop} (hF : fx p s m args meth c cc nL own c0 ret) (hw : wb G A s ws H locs) (hM : ctQ l y2 cc2 n2 rt2 rm2 G (.ref b :: As) ws post2 wf2) (hv : vwd own idx y2 (.code y2 cc2 n2 (some rt2)))
    {q0 ci : Nat} {q : vw_C} {fs : List Value} (hq : vwCl[ci]? = some q) (hqn : q.1 = y2.cls) (he : ws[q0]? = some (b, .inr (ci, fs)))
    (hd : y2.cls ≠ "java/lang/invoke/MethodHandle" ∧ y2.cls ≠ "java/lang/invoke/VarHandle" ∧ (parseMethodDescriptor y2.desc).map (fun d => d.parameters.length) = some As.length)
    (hR : rm2.frames + 1 ≤ R.frames ∧ 8 + (n2 + 11) + rm2.locals ≤ R.locals) (hC : cells + rm2.cells ≤ R.cells ∧ slots + rm2.slots ≤ R.slots)
    (hls : ls.size = nL) (hst : st0 = As.reverse ++ .ref b :: rest) (hsum : (rest.map fun v => v.category).sum ≤ 8) (hdg : decode cc pc = .ok (.invokevirtual idx, 3))
    (kk : ∀ (r : Option Nat) (u : S2) (H1 : Heap) (locs1 : List Loc), post2 r u → wb G A s (wf2 u) H1 locs1 → W p l e R s m args below meth c H1 locs1 (cells + rm2.cells) (slots + rm2.slots) Q (F0 m (pc + 3) ls (va_rf r :: rest))) :
    W p l e R s m args below meth c H locs cells slots Q (F0 m pc ls st0) := by
  have hFc := hw.free
  refine va_callq (va_runV (As := As) (rest := rest) hF.1 (hM H.size) (cwV As.length hF.1.2.2.2.2 (gi_V hv) rfl rfl rfl ⟨rfl, hd.1, hd.2.1, hd.2.2⟩ hR) ⟨wb.blind, by rw [← hqn]; exact va_recv hw.1.1 hw.2.1 hq he, hw.pre⟩ rfl rfl hls (by rw [hst]) (lv_room hsum) hdg hC) hw.2.2.2.1 (fun q _ h => hFc q h) hFc (fun r u t H1 locs1 ht hvm hp hB hz hk1 hS1 => ?_)
  exact kk r u H1 locs1 hp ⟨hw.1, by rw [← ht]; exact hB.1, hB.2.weaken (fun _ _ _ h => hFc _ h), hS1, hw.2.2.2.2⟩
theorem ca_V {post2 : S2 → Prop} (hF : fx p s m args meth c cc nL own c0 ret) (hw : wb G A s ws H locs) (hM : ctV l y2 cc2 n2 rm2 G (.ref b :: As) ws post2 wf2) (hv : vwd own idx y2 (.code y2 cc2 n2 none))
    {q0 ci : Nat} {q : vw_C} {fs : List Value} (hq : vwCl[ci]? = some q) (hqn : q.1 = y2.cls) (he : ws[q0]? = some (b, .inr (ci, fs)))
    (hd : y2.cls ≠ "java/lang/invoke/MethodHandle" ∧ y2.cls ≠ "java/lang/invoke/VarHandle" ∧ (parseMethodDescriptor y2.desc).map (fun d => d.parameters.length) = some As.length)
    (hR : rm2.frames + 1 ≤ R.frames ∧ 8 + (n2 + 11) + rm2.locals ≤ R.locals) (hC : cells + rm2.cells ≤ R.cells ∧ slots + rm2.slots ≤ R.slots)
    (hls : ls.size = nL) (hst : st0 = As.reverse ++ .ref b :: rest) (hsum : (rest.map fun v => v.category).sum ≤ 8) (hdg : decode cc pc = .ok (.invokevirtual idx, 3))
    (kk : ∀ (u : S2) (H1 : Heap) (locs1 : List Loc), post2 u → wb G A s (wf2 u) H1 locs1 → W p l e R s m args below meth c H1 locs1 (cells + rm2.cells) (slots + rm2.slots) Q (F0 m (pc + 3) ls rest)) :
    W p l e R s m args below meth c H locs cells slots Q (F0 m pc ls st0) := by
  have hFc := hw.free
  refine va_callv (va_runV (As := As) (rest := rest) hF.1 (hM H.size) (cwV As.length hF.1.2.2.2.2 (gi_V hv) rfl rfl rfl ⟨rfl, hd.1, hd.2.1, hd.2.2⟩ hR) ⟨wb.blind, by rw [← hqn]; exact va_recv hw.1.1 hw.2.1 hq he, hw.pre⟩ rfl rfl hls (by rw [hst]) (lv_room hsum) hdg hC) hw.2.2.2.1 (fun q _ h => hFc q h) hFc (fun u t H1 locs1 ht hvm hp hB hz hk1 hS1 => ?_)
  exact kk u H1 locs1 hp ⟨hw.1, by rw [← ht]; exact hB.1, hB.2.weaken (fun _ _ _ h => hFc _ h), hS1, hw.2.2.2.2⟩
theorem ca_W {post2 : Int32 → S2 → Prop} (hF : fx p s m args meth c cc nL own c0 ret) (hw : wb G A s ws H locs) (hM : ctI l y2 cc2 n2 rt2 rm2 G As ws post2 wf2) (hv : swd own idx y2 (.code y2 cc2 n2 (some rt2)))
    (hd : y2.cls = own ∧ y2.cls ≠ "java/lang/invoke/MethodHandle" ∧ y2.cls ≠ "java/lang/invoke/VarHandle" ∧ (parseMethodDescriptor y2.desc).map (fun d => d.parameters.length) = some As.length)
    (hR : rm2.frames + 1 ≤ R.frames ∧ 8 + (n2 + 11) + rm2.locals ≤ R.locals) (hC : cells + rm2.cells ≤ R.cells ∧ slots + rm2.slots ≤ R.slots)
    (hls : ls.size = nL) (hst : st0 = As.reverse ++ rest) (hsum : (rest.map fun v => v.category).sum ≤ 8) (hdg : decode cc pc = .ok (.invokestatic idx, 3))
    (kk : ∀ (r : Int32) (u : S2) (H1 : Heap) (locs1 : List Loc), post2 r u → wb G A s (wf2 u) H1 locs1 → W p l e R s m args below meth c H1 locs1 (cells + rm2.cells) (slots + rm2.slots) Q (F0 m (pc + 3) ls (.int r :: rest))) :
    W p l e R s m args below meth c H locs cells slots Q (F0 m pc ls st0) := by
  have hFc := hw.free
  refine va_calli (va_runS (As := As) (rest := rest) hF.1 (hM H.size) (cwS As.length hF.1.2.2.2.2 (gi_S hv) rfl rfl rfl hd hR) ⟨wb.blind, hw.pre⟩ rfl rfl hls (by rw [hst]) (lv_room hsum) hdg hC) hw.2.2.2.1 (fun q _ h => hFc q h) hFc (fun r u t H1 locs1 ht hvm hp hB hz hk1 hS1 => ?_)
  exact kk r u H1 locs1 hp ⟨hw.1, by rw [← ht]; exact hB.1, hB.2.weaken (fun _ _ _ h => hFc _ h), hS1, hw.2.2.2.2⟩
theorem ca_S {post2 : Int32 → Prop} (hF : fx p s m args meth c cc nL own c0 ret) (hM : ctS l y2 cc2 n2 rt2 rm2 As post2) (hv : swd own idx y2 (.code y2 cc2 n2 (some rt2)))
    (hd : y2.cls = own ∧ y2.cls ≠ "java/lang/invoke/MethodHandle" ∧ y2.cls ≠ "java/lang/invoke/VarHandle" ∧ (parseMethodDescriptor y2.desc).map (fun d => d.parameters.length) = some As.length)
    (hz : rm2.cells = 0 ∧ rm2.slots = 0) (hR : rm2.frames + 1 ≤ R.frames ∧ 8 + (n2 + 11) + rm2.locals ≤ R.locals) (hC : cells ≤ R.cells ∧ slots ≤ R.slots)
    (hls : ls.size = nL) (hst : st0 = As.reverse ++ rest) (hsum : (rest.map fun v => v.category).sum ≤ 8) (hdg : decode cc pc = .ok (.invokestatic idx, 3))
    (kk : ∀ r : Int32, post2 r → W p l e R s m args below meth c H locs cells slots Q (F0 m (pc + 3) ls (.int r :: rest))) :
    W p l e R s m args below meth c H locs cells slots Q (F0 m pc ls st0) := by
  exact vp_callSi (W.runS (As := As) (rest := rest) hF.1 hM (cwS As.length hF.1.2.2.2.2 (gi_S hv) rfl hz.1 hz.2 hd hR) ⟨fun a U g mk q => ⟨q.1, trivial⟩, fun U hU hW => ⟨rfl, trivial⟩⟩ rfl rfl hls (by rw [hst]) (lv_room hsum) hdg hC) kk
-- fields
theorem r_get (hF : fx p s m args meth c cc nL own c0 ret) (hw : wb G A s ws H locs) {a ci idx : Nat} {fs : List Value} {C : String} {T : u_T} {N : Nat} (q0 : Nat) (he : ws[q0]? = some (a, .inr (ci, fs))) (hc : vwCl[ci]? = some (C, T, N)) (hin : ∀ w ∈ u_ws C T N, w ∈ wsA) (k : Nat) (hk : k < N) (hl : Cond.fieldLink own idx (T k).1 (T k).2.1 (T k).2.2.1 ∈ wsA) {v : Value} (hv : fs[k]? = some v) (hdg : decode cc pc = .ok (.getfield idx, 3))
    (kk : W p l e R s m args below meth c H locs cells slots Q (F0 m (pc + 3) ls (v :: rest))) : W p l e R s m args below meth c H locs cells slots Q (F0 m pc ls (.ref a :: rest)) :=
  va_get hF.x hF.b (Ts := wsA) (fun w h => hF.w h) hin hF.1.2.2.2.1 hw.1.1 hw.2.1 q0 he hc k hk (hF.w hl) (fun _ h9 => h9) hv hdg kk
theorem r_getN (hF : fx p s m args meth c cc nL own c0 ret) (hw : wb G A s ws H locs) {a ci idx : Nat} {fs : List Value} {C host : String} {T : u_T} {N : Nat} (q0 : Nat) (he : ws[q0]? = some (a, .inr (ci, fs))) (hc : vwCl[ci]? = some (C, T, N)) (hin : ∀ w ∈ u_ws C T N, w ∈ wsA) (k : Nat) (hk : k < N) (hl : Cond.fieldLinkNest own idx (T k).1 (T k).2.1 (T k).2.2.1 host ∈ nestW) {v : Value} (hv : fs[k]? = some v) (hdg : decode cc pc = .ok (.getfield idx, 3))
    (kk : W p l e R s m args below meth c H locs cells slots Q (F0 m (pc + 3) ls (v :: rest))) : W p l e R s m args below meth c H locs cells slots Q (F0 m pc ls (.ref a :: rest)) :=
  va_getN hF.x hF.b (Ts := wsA) (fun w h => hF.w h) hin hF.1.2.2.2.1 hw.1.1 hw.2.1 q0 he hc k hk (va_Nw.use rfl (hw.1.2.2.1 _ hl)) (fun _ h9 => h9) hv hdg kk
theorem r_put (hF : fx p s m args meth c cc nL own c0 ret) (hw : wb G A s ws H locs) {a ci idx : Nat} {fs : List Value} {C : String} {T : u_T} {N : Nat} {ws' : va_W} (q0 : Nat) (he : ws[q0]? = some (a, .inr (ci, fs))) (hc : vwCl[ci]? = some (C, T, N)) (hin : ∀ w ∈ u_ws C T N, w ∈ wsA) (ty0 : Nat → FieldType) (hty : ∀ k, k < N → parseFieldDescriptor (T k).2.2.1 = some (ty0 k)) (hnm : ∀ a, a < N → ∀ b, b < N → a ≠ b → (T a).2.1 ≠ (T b).2.1) (k : Nat) (hk : k < N) (hl : Cond.fieldLink own idx (T k).1 (T k).2.1 (T k).2.2.1 ∈ wsA) (hfin : (T k).2.2.2 = false) {v : Value} (hn : narrow (ty0 k) v = v) (hfit : fits (ty0 k) v = true) (hlen : k < fs.length) (hws : ws.set q0 (a, .inr (ci, fs.set k v)) = ws') (hdg : decode cc pc = .ok (.putfield idx, 3))
    (kk : ∀ (H1 : Heap) (locs1 : List Loc), wb G A s ws' H1 locs1 → W p l e R s m args below meth c H1 locs1 cells slots Q (F0 m (pc + 3) ls rest)) : W p l e R s m args below meth c H locs cells slots Q (F0 m pc ls (v :: .ref a :: rest)) := by
  subst hws
  exact va_put hF.x hF.b (Ts := wsA) (fun w h => hF.w h) hin ty0 hty hnm hF.1.2.2.2.1 hw.1.1 hw.2.1 hw.2.2.1 hw.2.2.2.1 q0 he hc k hk (hF.w hl) (fun _ h9 => h9) hfin (hty k hk) hn hfit hlen hdg (fun H1 locs1 hP hD hS => kk H1 locs1 ⟨hw.1, hP, hD, hS, hw.2.2.2.2⟩)
theorem r_putN (hF : fx p s m args meth c cc nL own c0 ret) (hw : wb G A s ws H locs) {a ci idx : Nat} {fs : List Value} {C host : String} {T : u_T} {N : Nat} {ws' : va_W} (q0 : Nat) (he : ws[q0]? = some (a, .inr (ci, fs))) (hc : vwCl[ci]? = some (C, T, N)) (hin : ∀ w ∈ u_ws C T N, w ∈ wsA) (ty0 : Nat → FieldType) (hty : ∀ k, k < N → parseFieldDescriptor (T k).2.2.1 = some (ty0 k)) (hnm : ∀ a, a < N → ∀ b, b < N → a ≠ b → (T a).2.1 ≠ (T b).2.1) (k : Nat) (hk : k < N) (hl : Cond.fieldLinkNest own idx (T k).1 (T k).2.1 (T k).2.2.1 host ∈ nestW) (hfin : (T k).2.2.2 = false) {v : Value} (hn : narrow (ty0 k) v = v) (hfit : fits (ty0 k) v = true) (hlen : k < fs.length) (hws : ws.set q0 (a, .inr (ci, fs.set k v)) = ws') (hdg : decode cc pc = .ok (.putfield idx, 3))
    (kk : ∀ (H1 : Heap) (locs1 : List Loc), wb G A s ws' H1 locs1 → W p l e R s m args below meth c H1 locs1 cells slots Q (F0 m (pc + 3) ls rest)) : W p l e R s m args below meth c H locs cells slots Q (F0 m pc ls (v :: .ref a :: rest)) := by
  subst hws
  exact va_putN hF.x hF.b (Ts := wsA) (fun w h => hF.w h) hin ty0 hty hnm hF.1.2.2.2.1 hw.1.1 hw.2.1 hw.2.2.1 hw.2.2.2.1 q0 he hc k hk (va_Nw.use rfl (hw.1.2.2.1 _ hl)) (fun _ h9 => h9) hfin (hty k hk) hn hfit hlen hdg (fun H1 locs1 hP hD hS => kk H1 locs1 ⟨hw.1, hP, hD, hS, hw.2.2.2.2⟩)
theorem r_putF (hF : fx p s m args meth c cc nL own c0 ret) (hw : wb G A s ws H locs) (hin2 : meth.name = "<init>") {a ci idx : Nat} {fs : List Value} {C : String} {T : u_T} {N : Nat} {ws' : va_W} (q0 : Nat) (he : ws[q0]? = some (a, .inr (ci, fs))) (hc : vwCl[ci]? = some (C, T, N)) (hin : ∀ w ∈ u_ws C T N, w ∈ wsA) (ty0 : Nat → FieldType) (hty : ∀ k, k < N → parseFieldDescriptor (T k).2.2.1 = some (ty0 k)) (hnm : ∀ a, a < N → ∀ b, b < N → a ≠ b → (T a).2.1 ≠ (T b).2.1) (k : Nat) (hk : k < N) (hl : Cond.fieldLink own idx (T k).1 (T k).2.1 (T k).2.2.1 ∈ wsA) (hfin : (T k).2.2.2 = true) (hdecl : (T k).1 = own) {v : Value} (hn : narrow (ty0 k) v = v) (hfit : fits (ty0 k) v = true) (hlen : k < fs.length) (hws : ws.set q0 (a, .inr (ci, fs.set k v)) = ws') (hdg : decode cc pc = .ok (.putfield idx, 3))
    (kk : ∀ (H1 : Heap) (locs1 : List Loc), wb G A s ws' H1 locs1 → W p l e R s m args below meth c H1 locs1 cells slots Q (F0 m (pc + 3) ls rest)) : W p l e R s m args below meth c H locs cells slots Q (F0 m pc ls (v :: .ref a :: rest)) := by
  subst hws
  exact va_putF hF.x hF.b (Ts := wsA) (fun w h => hF.w h) hin ty0 hty hnm hF.1.2.2.2.1 hw.1.1 hw.2.1 hw.2.2.1 hw.2.2.2.1 q0 he hc k hk (hF.w hl) (fun _ h9 => h9) hfin hin2 hdecl (hty k hk) hn hfit hlen hdg (fun H1 locs1 hP hD hS => kk H1 locs1 ⟨hw.1, hP, hD, hS, hw.2.2.2.2⟩)
-- arrays
theorem r_iald (hF : fx p s m args meth c cc nL own c0 ret) (hw : wb G A s ws H locs) {a n : Nat} {f : Nat → Int32} (q0 : Nat) (ha : ws[q0]? = some (a, .inl (G.2.1, n, .inl f))) {i : Int32} (hin : vp_in i n) (hdg : decode cc pc = .ok (.iaload, 1))
    (kk : W p l e R s m args below meth c H locs cells slots Q (F0 m (pc + 1) ls (.int (f i.toNatClampNeg) :: rest))) : W p l e R s m args below meth c H locs cells slots Q (F0 m pc ls (.int i :: .ref a :: rest)) :=
  va_iald hF.x hF.b hw.1.1 hw.2.1 q0 0 ha rfl hin hdg kk
theorem r_iast (hF : fx p s m args meth c cc nL own c0 ret) (hw : wb G A s ws H locs) {a n : Nat} {f : Nat → Int32} {ws' : va_W} (q0 : Nat) (ha : ws[q0]? = some (a, .inl (G.2.1, n, .inl f))) {i x : Int32} (hin : vp_in i n) (hws : ws.set q0 (a, .inl (G.2.1, n, .inl (upd f i.toNatClampNeg x))) = ws') (hdg : decode cc pc = .ok (.iastore, 1))
    (kk : ∀ (H1 : Heap) (locs1 : List Loc), wb G A s ws' H1 locs1 → W p l e R s m args below meth c H1 locs1 cells slots Q (F0 m (pc + 1) ls rest)) : W p l e R s m args below meth c H locs cells slots Q (F0 m pc ls (.int x :: .int i :: .ref a :: rest)) := by
  subst hws
  exact va_iast hF.x hF.b hw.1.1 hw.2.1 hw.2.2.1 hw.2.2.2.1 q0 0 ha rfl hin hdg (fun H1 locs1 hP hD hS => kk H1 locs1 ⟨hw.1, hP, hD, hS, hw.2.2.2.2⟩)
theorem r_alen (hF : fx p s m args meth c cc nL own c0 ret) (hw : wb G A s ws H locs) {a n : Nat} {f : Nat → Int32} (q0 : Nat) (ha : ws[q0]? = some (a, .inl (G.2.1, n, .inl f))) {v : Int32} (hv : Int32.ofNat n = v) (hdg : decode cc pc = .ok (.arraylength, 1))
    (kk : W p l e R s m args below meth c H locs cells slots Q (F0 m (pc + 1) ls (.int v :: rest))) : W p l e R s m args below meth c H locs cells slots Q (F0 m pc ls (.ref a :: rest)) :=
  va_alen hF.x hF.b hw.1.1 hw.2.1 q0 0 ha rfl hv hdg kk
theorem r_aald (hF : fx p s m args meth c cc nL own c0 ret) (hw : wb G A s ws H locs) {a n : Nat} {f : Nat → Option Nat} (q0 : Nat) (ha : ws[q0]? = some (a, .inl (G.2.2.1, n, .inr (.inr (.inr (.inr f)))))) {i : Int32} (hin : vp_in i n) (hdg : decode cc pc = .ok (.aaload, 1))
    (kk : W p l e R s m args below meth c H locs cells slots Q (F0 m (pc + 1) ls (va_rf (f i.toNatClampNeg) :: rest))) : W p l e R s m args below meth c H locs cells slots Q (F0 m pc ls (.int i :: .ref a :: rest)) :=
  va_aldq hF.x hF.b hw.1.1 hw.2.1 q0 1 (C := RX0) ha rfl hin hdg kk
theorem r_aast (hF : fx p s m args meth c cc nL own c0 ret) (hw : wb G A s ws H locs) {a n v : Nat} {f : Nat → Option Nat} {vs : List Value} {ws' : va_W} (q0 qk : Nat) (ha : ws[q0]? = some (a, .inl (G.2.2.1, n, .inr (.inr (.inr (.inr f)))))) (hv : ws[qk]? = some (v, .inr (0, vs))) {i : Int32} (hin : vp_in i n) (hws : ws.set q0 (a, .inl (G.2.2.1, n, .inr (.inr (.inr (.inr (va_up f i.toNatClampNeg (some v))))))) = ws') (hdg : decode cc pc = .ok (.aastore, 1))
    (kk : ∀ (H1 : Heap) (locs1 : List Loc), wb G A s ws' H1 locs1 → W p l e R s m args below meth c H1 locs1 cells slots Q (F0 m (pc + 1) ls rest)) : W p l e R s m args below meth c H locs cells slots Q (F0 m pc ls (.ref v :: .int i :: .ref a :: rest)) := by
  subst hws
  exact va_astq hF.x hF.b hw.1.1 hw.2.1 hw.2.2.1 hw.2.2.2.1 q0 1 qk 0 (r := (RX0, TX0, 8)) ha rfl hv rfl hin hdg (fun H1 locs1 hP hD hS => kk H1 locs1 ⟨hw.1, hP, hD, hS, hw.2.2.2.2⟩)
theorem r_aastN (hF : fx p s m args meth c cc nL own c0 ret) (hw : wb G A s ws H locs) {a n : Nat} {f : Nat → Option Nat} {ws' : va_W} (q0 : Nat) (ha : ws[q0]? = some (a, .inl (G.2.2.1, n, .inr (.inr (.inr (.inr f)))))) {i : Int32} (hin : vp_in i n) (hws : ws.set q0 (a, .inl (G.2.2.1, n, .inr (.inr (.inr (.inr (va_up f i.toNatClampNeg none)))))) = ws') (hdg : decode cc pc = .ok (.aastore, 1))
    (kk : ∀ (H1 : Heap) (locs1 : List Loc), wb G A s ws' H1 locs1 → W p l e R s m args below meth c H1 locs1 cells slots Q (F0 m (pc + 1) ls rest)) : W p l e R s m args below meth c H locs cells slots Q (F0 m pc ls (.null :: .int i :: .ref a :: rest)) := by
  subst hws
  exact va_astqN hF.x hF.b hw.1.1 hw.2.1 hw.2.2.1 hw.2.2.2.1 q0 1 (C := RX0) ha rfl hin hdg (fun H1 locs1 hP hD hS => kk H1 locs1 ⟨hw.1, hP, hD, hS, hw.2.2.2.2⟩)
-- the array of int arrays
theorem r_aaldG (hF : fx p s m args meth c cc nL own c0 ret) (hw : wb G A s ws H locs) {a n : Nat} {f : Nat → Option Nat} (q0 : Nat) (ha : ws[q0]? = some (a, .inl (G.2.2.2, n, .inr (.inr (.inr (.inr f)))))) {i : Int32} (hin : vp_in i n) (hdg : decode cc pc = .ok (.aaload, 1))
    (kk : W p l e R s m args below meth c H locs cells slots Q (F0 m (pc + 1) ls (va_rf (f i.toNatClampNeg) :: rest))) : W p l e R s m args below meth c H locs cells slots Q (F0 m pc ls (.int i :: .ref a :: rest)) := by
  have hlt : i.toNatClampNeg < n := Nat.not_le.mp fun q => hin (Or.inr q)
  exact W.aald (v := va_rf (f i.toNatClampNeg)) (ty := .array .int) hF.x hF.b (hw.2.1 q0 _ ha) ((hw.1.1.2 2 _ rfl).1 n (fun j => va_rf (f j))) rfl (fun q => by cases q) (by show ¬ (i < 0 ∨ (arrV _ _ _).slots.size ≤ _); rw [arrV_size]; exact hin) (by show (arrV _ _ _).slots[_]? = _; rw [arrV_read _ _ hlt]) rfl rfl hdg kk
theorem r_aastG (hF : fx p s m args meth c cc nL own c0 ret) (hw : wb G A s ws H locs) {a n v nv : Nat} {f : Nat → Option Nat} {fv : Nat → Int32} {ws' : va_W} (q0 qk : Nat) (ha : ws[q0]? = some (a, .inl (G.2.2.2, n, .inr (.inr (.inr (.inr f)))))) (hv : ws[qk]? = some (v, .inl (G.2.1, nv, .inl fv))) {i : Int32} (hin : vp_in i n) (hws : ws.set q0 (a, .inl (G.2.2.2, n, .inr (.inr (.inr (.inr (va_up f i.toNatClampNeg (some v))))))) = ws') (hdg : decode cc pc = .ok (.aastore, 1))
    (kk : ∀ (H1 : Heap) (locs1 : List Loc), wb G A s ws' H1 locs1 → W p l e R s m args below meth c H1 locs1 cells slots Q (F0 m (pc + 1) ls rest)) : W p l e R s m args below meth c H locs cells slots Q (F0 m pc ls (.ref v :: .int i :: .ref a :: rest)) := by
  subst hws
  have hlt : i.toNatClampNeg < n := Nat.not_le.mp fun q => hin (Or.inr q)
  have h0 : ¬ i < 0 := fun q => hin (Or.inl q)
  obtain ⟨kA, kI, k1, k2, k3⟩ := hw.1.2.1
  have hvc : H[v]? = some (vp_cell G.2.1 (nv, .inl fv)) := hw.2.1 qk _ hv
  refine W.aast hF.x hF.b (hw.2.1 q0 _ ha) (fun q h => by cases h) (fun h => by cases h) k1 k2 rfl k3 ⟨h0, by show _ < (arrV _ _ _).slots.size; rw [arrV_size]; exact hlt⟩ hvc (fun q h => by cases h) k3 (va_asg _ _) rfl rfl hdg fun H1 e z oq => ?_
  refine kk H1 _ ⟨hw.1, hw.2.1.set hw.2.2.1 ha ?_ oq, hw.2.2.1.set ha, hw.2.2.2.1.put z oq (hw.2.2.1.2 q0 _ ha), hw.2.2.2.2⟩
  show H1[a]? = some (vp_cell _ _)
  rw [e]
  rw [vp_cell_q, vp_cell_q, arrV_store]
  congr 2
  funext q
  by_cases hq : q = i.toNatClampNeg
  · subst hq
    simp [updV, va_up, va_rf]
  · simp [updV, va_up, hq]
theorem r_aastGN (hF : fx p s m args meth c cc nL own c0 ret) (hw : wb G A s ws H locs) {a n : Nat} {f : Nat → Option Nat} {ws' : va_W} (q0 : Nat) (ha : ws[q0]? = some (a, .inl (G.2.2.2, n, .inr (.inr (.inr (.inr f)))))) {i : Int32} (hin : vp_in i n) (hws : ws.set q0 (a, .inl (G.2.2.2, n, .inr (.inr (.inr (.inr (va_up f i.toNatClampNeg none)))))) = ws') (hdg : decode cc pc = .ok (.aastore, 1))
    (kk : ∀ (H1 : Heap) (locs1 : List Loc), wb G A s ws' H1 locs1 → W p l e R s m args below meth c H1 locs1 cells slots Q (F0 m (pc + 1) ls rest)) : W p l e R s m args below meth c H locs cells slots Q (F0 m pc ls (.null :: .int i :: .ref a :: rest)) := by
  subst hws
  have hlt : i.toNatClampNeg < n := Nat.not_le.mp fun q => hin (Or.inr q)
  have h0 : ¬ i < 0 := fun q => hin (Or.inl q)
  obtain ⟨kA, kI, k1, k2, k3⟩ := hw.1.2.1
  have hcell : H[a]? = some (vp_cell G.2.2.2 (n, .inr (.inr (.inr (.inr f))))) := hw.2.1 q0 _ ha
  have main : ∀ H1 : Heap, H1[a]? = some ((vp_cell G.2.2.2 (n, .inr (.inr (.inr (.inr f))))).setSlot i.toNatClampNeg .null) → H1.size = H.size → (∀ q, q ≠ a → H1[q]? = H[q]?) → wb G A s (ws.set q0 (a, .inl (G.2.2.2, n, .inr (.inr (.inr (.inr (va_up f i.toNatClampNeg none))))))) H1 (locs ++ [⟨a, i.toNatClampNeg⟩]) := by
    intro H1 e z oq
    refine ⟨hw.1, hw.2.1.set hw.2.2.1 ha ?_ oq, hw.2.2.1.set ha, hw.2.2.2.1.put z oq (hw.2.2.1.2 q0 _ ha), hw.2.2.2.2⟩
    show H1[a]? = some (vp_cell _ _)
    rw [e]
    rw [vp_cell_q, vp_cell_q, arrV_store]
    congr 2
    funext q
    by_cases hq : q = i.toNatClampNeg
    · subst hq
      simp [updV, va_up, va_rf]
    · simp [updV, va_up, hq]
  intro T hT X
  have hT' : T.heap[a]? = some (vp_cell G.2.2.2 (n, .inr (.inr (.inr (.inr f))))) := by rw [hT]; exact hcell
  obtain ⟨X', st⟩ := X.aastoreNullIn hF.x hT' (fun q h => by cases h) (fun h => by cases h) k1 k2 rfl (j := i) ⟨h0, by show _ < (arrV _ _ _).slots.size; rw [arrV_size]; exact hlt⟩ (g := F0 m pc ls (.null :: .int i :: .ref a :: rest)) rfl rfl (by rw [hF.b]; exact hdg)
  have hlt2 : a < T.heap.size := (Array.getElem?_eq_some_iff.mp hT').1
  obtain ⟨t', a1, b1⟩ := kk _ _ (main _ (heapAt_setCell_self _ hlt2) (by rw [size_setCell, hT]) (fun q hq => by rw [heapAt_setCell_ne _ (Ne.symm hq), hT])) _ rfl X'
  exact ⟨t', st t' a1, b1⟩
-- what may be null
theorem lq_aload_n {k : Fin 4} {i : Nat} {o : Option Nat} (hF : fx p s m args meth c cc nL own c0 ret) (hdg : decode cc pc = .ok (.aload_n k, 1)) (hi : (k : Nat) = i) (hl : ls[i]? = some (.val (va_rf o)))
    (kk : W p l e R s m args below meth c H locs cells slots Q (F0 m (pc + 1) ls (va_rf o :: rest))) : W p l e R s m args below meth c H locs cells slots Q (F0 m pc ls rest) := by
  cases o with
  | none => exact lv_aload_nN hF.x hF.b hdg hi hl kk
  | some a => exact lv_aload_n hF.x hF.b hdg hi hl kk
theorem lq_aload {i : Nat} {o : Option Nat} (hF : fx p s m args meth c cc nL own c0 ret) (hdg : decode cc pc = .ok (.aload i, 2)) (hl : ls[i]? = some (.val (va_rf o)))
    (kk : W p l e R s m args below meth c H locs cells slots Q (F0 m (pc + 2) ls (va_rf o :: rest))) : W p l e R s m args below meth c H locs cells slots Q (F0 m pc ls rest) := by
  cases o with
  | none => exact lv_aloadN hF.x hF.b hdg hl kk
  | some a => exact lv_aload hF.x hF.b hdg hl kk
theorem lq_astore_n {k : Fin 4} {i nL' : Nat} {o : Option Nat} {lv lv' : List (Nat × Value)} (hF : fx p s m args meth c cc nL own c0 ret) (hdg : decode cc pc = .ok (.astore_n k, 1)) (hi : (k : Nat) = i) (h : lv_has ls nL' lv) (hn : i < nL') (hl : (i, va_rf o) :: lv.filter (fun q => !(q.1 == i) && !(q.1 + 1 == i && q.2.category == 2)) = lv')
    (kk : ∀ ls' : Array Slot, lv_has ls' nL' lv' → W p l e R s m args below meth c H locs cells slots Q (F0 m (pc + 1) ls' rest)) : W p l e R s m args below meth c H locs cells slots Q (F0 m pc ls (va_rf o :: rest)) := by
  cases o with
  | none => exact lv_astore_nN hF.x hF.b hdg hi h hn hl kk
  | some a => exact lv_astore_n hF.x hF.b hdg hi h hn hl kk
theorem lq_astore {i nL' : Nat} {o : Option Nat} {lv lv' : List (Nat × Value)} (hF : fx p s m args meth c cc nL own c0 ret) (hdg : decode cc pc = .ok (.astore i, 2)) (h : lv_has ls nL' lv) (hn : i < nL') (hl : (i, va_rf o) :: lv.filter (fun q => !(q.1 == i) && !(q.1 + 1 == i && q.2.category == 2)) = lv')
    (kk : ∀ ls' : Array Slot, lv_has ls' nL' lv' → W p l e R s m args below meth c H locs cells slots Q (F0 m (pc + 2) ls' rest)) : W p l e R s m args below meth c H locs cells slots Q (F0 m pc ls (va_rf o :: rest)) := by
  cases o with
  | none => exact lv_astoreN hF.x hF.b hdg h hn hl kk
  | some a => exact lv_astore hF.x hF.b hdg h hn hl kk
theorem lq_ifnull {off : Int} {tgt : Nat} {o : Option Nat} (hF : fx p s m args meth c cc nL own c0 ret) (hdg : decode cc pc = .ok (.ifnull off, 3)) (ht : (pc : Int) + off = (tgt : Int))
    (kt : o = none → W p l e R s m args below meth c H locs cells slots Q (F0 m tgt ls rest)) (kf : ∀ a, o = some a → W p l e R s m args below meth c H locs cells slots Q (F0 m (pc + 3) ls rest)) : W p l e R s m args below meth c H locs cells slots Q (F0 m pc ls (va_rf o :: rest)) := by
  cases o with
  | none => exact lv_ifnullN hF.x hF.b hdg ht (kt rfl)
  | some a => exact lv_ifnull hF.x hF.b hdg (kf a rfl)
theorem lq_ifnonnull {off : Int} {tgt : Nat} {o : Option Nat} (hF : fx p s m args meth c cc nL own c0 ret) (hdg : decode cc pc = .ok (.ifnonnull off, 3)) (ht : (pc : Int) + off = (tgt : Int))
    (kt : ∀ a, o = some a → W p l e R s m args below meth c H locs cells slots Q (F0 m tgt ls rest)) (kf : o = none → W p l e R s m args below meth c H locs cells slots Q (F0 m (pc + 3) ls rest)) : W p l e R s m args below meth c H locs cells slots Q (F0 m pc ls (va_rf o :: rest)) := by
  cases o with
  | none => exact lv_ifnonnullN hF.x hF.b hdg (kf rfl)
  | some a => exact lv_ifnonnull hF.x hF.b hdg ht (kt a rfl)
end RW
end
section
/-! how many parameters the methods have -/
theorem nd_X0 : RX0 ≠ "java/lang/invoke/MethodHandle" ∧ RX0 ≠ "java/lang/invoke/VarHandle" := ⟨by decide +kernel, by decide +kernel⟩
theorem nd_X1 : RX1 ≠ "java/lang/invoke/MethodHandle" ∧ RX1 ≠ "java/lang/invoke/VarHandle" := ⟨by decide +kernel, by decide +kernel⟩
theorem nd_X2 : RX2 ≠ "java/lang/invoke/MethodHandle" ∧ RX2 ≠ "java/lang/invoke/VarHandle" := ⟨by decide +kernel, by decide +kernel⟩
theorem pd_X1_init : (parseMethodDescriptor yX1_init.desc).map (fun d => d.parameters.length) = some 0 := by decide +kernel
theorem pd_X1_fill : (parseMethodDescriptor yX1_fill.desc).map (fun d => d.parameters.length) = some 2 := by decide +kernel
theorem pd_X1_heldBy : (parseMethodDescriptor yX1_heldBy.desc).map (fun d => d.parameters.length) = some 1 := by decide +kernel
theorem pd_X1_isBasin : (parseMethodDescriptor yX1_isBasin.desc).map (fun d => d.parameters.length) = some 1 := by decide +kernel
theorem pd_X1_pour : (parseMethodDescriptor yX1_pour.desc).map (fun d => d.parameters.length) = some 2 := by decide +kernel
theorem pd_X1_basin : (parseMethodDescriptor yX1_basin.desc).map (fun d => d.parameters.length) = some 1 := by decide +kernel
theorem pd_X1_gauge : (parseMethodDescriptor yX1_gauge.desc).map (fun d => d.parameters.length) = some 2 := by decide +kernel
theorem pd_X1_isGauge : (parseMethodDescriptor yX1_isGauge.desc).map (fun d => d.parameters.length) = some 1 := by decide +kernel
theorem pd_X1_mark : (parseMethodDescriptor yX1_mark.desc).map (fun d => d.parameters.length) = some 2 := by decide +kernel
theorem pd_X1_gaugeNow : (parseMethodDescriptor yX1_gaugeNow.desc).map (fun d => d.parameters.length) = some 1 := by decide +kernel
theorem pd_X1_hasMark : (parseMethodDescriptor yX1_hasMark.desc).map (fun d => d.parameters.length) = some 2 := by decide +kernel
theorem pd_X1_deed : (parseMethodDescriptor yX1_deed.desc).map (fun d => d.parameters.length) = some 5 := by decide +kernel
theorem pd_X1_isSlot : (parseMethodDescriptor yX1_isSlot.desc).map (fun d => d.parameters.length) = some 1 := by decide +kernel
theorem pd_X1_namesWhatThereIs : (parseMethodDescriptor yX1_namesWhatThereIs.desc).map (fun d => d.parameters.length) = some 4 := by decide +kernel
theorem pd_X1_isLever : (parseMethodDescriptor yX1_isLever.desc).map (fun d => d.parameters.length) = some 1 := by decide +kernel
theorem pd_X1_holdsFirst : (parseMethodDescriptor yX1_holdsFirst.desc).map (fun d => d.parameters.length) = some 1 := by decide +kernel
theorem pd_X1_inSlot : (parseMethodDescriptor yX1_inSlot.desc).map (fun d => d.parameters.length) = some 1 := by decide +kernel
theorem pd_X1_holdsSecond : (parseMethodDescriptor yX1_holdsSecond.desc).map (fun d => d.parameters.length) = some 1 := by decide +kernel
theorem pd_X0_init : (parseMethodDescriptor yX0_init.desc).map (fun d => d.parameters.length) = some 7 := by decide +kernel
theorem pd_X1_copy : (parseMethodDescriptor yX1_copy.desc).map (fun d => d.parameters.length) = some 2 := by decide +kernel
theorem pd_X1_drop : (parseMethodDescriptor yX1_drop.desc).map (fun d => d.parameters.length) = some 1 := by decide +kernel
theorem pd_X1_lever : (parseMethodDescriptor yX1_lever.desc).map (fun d => d.parameters.length) = some 3 := by decide +kernel
theorem pd_X1_same : (parseMethodDescriptor yX1_same.desc).map (fun d => d.parameters.length) = some 2 := by decide +kernel
theorem pd_X1_count : (parseMethodDescriptor yX1_count.desc).map (fun d => d.parameters.length) = some 1 := by decide +kernel
theorem pd_X1_act : (parseMethodDescriptor yX1_act.desc).map (fun d => d.parameters.length) = some 2 := by decide +kernel
theorem pd_X1_refuse : (parseMethodDescriptor yX1_refuse.desc).map (fun d => d.parameters.length) = some 1 := by decide +kernel
theorem pd_X1_begin : (parseMethodDescriptor yX1_begin.desc).map (fun d => d.parameters.length) = some 0 := by decide +kernel
theorem pd_X1_doDeed : (parseMethodDescriptor yX1_doDeed.desc).map (fun d => d.parameters.length) = some 3 := by decide +kernel
theorem pd_X1_fail : (parseMethodDescriptor yX1_fail.desc).map (fun d => d.parameters.length) = some 1 := by decide +kernel
theorem pd_X1_doAlone : (parseMethodDescriptor yX1_doAlone.desc).map (fun d => d.parameters.length) = some 2 := by decide +kernel
theorem pd_X1_doSet : (parseMethodDescriptor yX1_doSet.desc).map (fun d => d.parameters.length) = some 2 := by decide +kernel
theorem pd_X1_doAdd : (parseMethodDescriptor yX1_doAdd.desc).map (fun d => d.parameters.length) = some 2 := by decide +kernel
theorem pd_X1_doDraw : (parseMethodDescriptor yX1_doDraw.desc).map (fun d => d.parameters.length) = some 2 := by decide +kernel
theorem pd_X1_doMark : (parseMethodDescriptor yX1_doMark.desc).map (fun d => d.parameters.length) = some 2 := by decide +kernel
theorem pd_X1_doThroughOthers : (parseMethodDescriptor yX1_doThroughOthers.desc).map (fun d => d.parameters.length) = some 3 := by decide +kernel
theorem pd_X1_doThen : (parseMethodDescriptor yX1_doThen.desc).map (fun d => d.parameters.length) = some 3 := by decide +kernel
theorem pd_X1_doTimes : (parseMethodDescriptor yX1_doTimes.desc).map (fun d => d.parameters.length) = some 3 := by decide +kernel
theorem pd_X1_doTry : (parseMethodDescriptor yX1_doTry.desc).map (fun d => d.parameters.length) = some 3 := by decide +kernel
theorem pd_X1_doLater : (parseMethodDescriptor yX1_doLater.desc).map (fun d => d.parameters.length) = some 2 := by decide +kernel
theorem pd_X1_doCount : (parseMethodDescriptor yX1_doCount.desc).map (fun d => d.parameters.length) = some 3 := by decide +kernel
theorem pd_X1_doPlaces : (parseMethodDescriptor yX1_doPlaces.desc).map (fun d => d.parameters.length) = some 3 := by decide +kernel
theorem pd_X1_atPlace : (parseMethodDescriptor yX1_atPlace.desc).map (fun d => d.parameters.length) = some 2 := by decide +kernel
theorem pd_X1_noteFailure : (parseMethodDescriptor yX1_noteFailure.desc).map (fun d => d.parameters.length) = some 0 := by decide +kernel
theorem pd_X1_pull : (parseMethodDescriptor yX1_pull.desc).map (fun d => d.parameters.length) = some 2 := by decide +kernel
theorem pd_X1_tick : (parseMethodDescriptor yX1_tick.desc).map (fun d => d.parameters.length) = some 0 := by decide +kernel
theorem pd_X1_doLongestWaiting : (parseMethodDescriptor yX1_doLongestWaiting.desc).map (fun d => d.parameters.length) = some 0 := by decide +kernel
theorem pd_X1_failed : (parseMethodDescriptor yX1_failed.desc).map (fun d => d.parameters.length) = some 0 := by decide +kernel
theorem pd_X1_told : (parseMethodDescriptor yX1_told.desc).map (fun d => d.parameters.length) = some 1 := by decide +kernel
theorem pd_X1_slotsInUse : (parseMethodDescriptor yX1_slotsInUse.desc).map (fun d => d.parameters.length) = some 0 := by decide +kernel
theorem pd_X1_clear : (parseMethodDescriptor yX1_clear.desc).map (fun d => d.parameters.length) = some 0 := by decide +kernel
theorem pd_X1_emptyHall : (parseMethodDescriptor yX1_emptyHall.desc).map (fun d => d.parameters.length) = some 0 := by decide +kernel
theorem pd_X1_emptyDeeds : (parseMethodDescriptor yX1_emptyDeeds.desc).map (fun d => d.parameters.length) = some 0 := by decide +kernel
theorem pd_X2_init : (parseMethodDescriptor yX2_init.desc).map (fun d => d.parameters.length) = some 0 := by decide +kernel
theorem pd_X2_reset : (parseMethodDescriptor yX2_reset.desc).map (fun d => d.parameters.length) = some 0 := by decide +kernel
theorem pd_X2_fill : (parseMethodDescriptor yX2_fill.desc).map (fun d => d.parameters.length) = some 2 := by decide +kernel
theorem pd_X2_isBasin : (parseMethodDescriptor yX2_isBasin.desc).map (fun d => d.parameters.length) = some 1 := by decide +kernel
theorem pd_X2_isIn : (parseMethodDescriptor yX2_isIn.desc).map (fun d => d.parameters.length) = some 3 := by decide +kernel
theorem pd_X2_basin : (parseMethodDescriptor yX2_basin.desc).map (fun d => d.parameters.length) = some 1 := by decide +kernel
theorem pd_X2_gauge : (parseMethodDescriptor yX2_gauge.desc).map (fun d => d.parameters.length) = some 2 := by decide +kernel
theorem pd_X2_mark : (parseMethodDescriptor yX2_mark.desc).map (fun d => d.parameters.length) = some 2 := by decide +kernel
theorem pd_X2_deed : (parseMethodDescriptor yX2_deed.desc).map (fun d => d.parameters.length) = some 5 := by decide +kernel
theorem pd_X2_isSlot : (parseMethodDescriptor yX2_isSlot.desc).map (fun d => d.parameters.length) = some 1 := by decide +kernel
theorem pd_X2_isRight : (parseMethodDescriptor yX2_isRight.desc).map (fun d => d.parameters.length) = some 4 := by decide +kernel
theorem pd_X2_holdsOne : (parseMethodDescriptor yX2_holdsOne.desc).map (fun d => d.parameters.length) = some 1 := by decide +kernel
theorem pd_X2_holdsTwo : (parseMethodDescriptor yX2_holdsTwo.desc).map (fun d => d.parameters.length) = some 1 := by decide +kernel
theorem pd_X2_copy : (parseMethodDescriptor yX2_copy.desc).map (fun d => d.parameters.length) = some 2 := by decide +kernel
theorem pd_X2_drop : (parseMethodDescriptor yX2_drop.desc).map (fun d => d.parameters.length) = some 1 := by decide +kernel
theorem pd_X2_lever : (parseMethodDescriptor yX2_lever.desc).map (fun d => d.parameters.length) = some 3 := by decide +kernel
theorem pd_X2_same : (parseMethodDescriptor yX2_same.desc).map (fun d => d.parameters.length) = some 2 := by decide +kernel
theorem pd_X2_count : (parseMethodDescriptor yX2_count.desc).map (fun d => d.parameters.length) = some 1 := by decide +kernel
theorem pd_X2_act : (parseMethodDescriptor yX2_act.desc).map (fun d => d.parameters.length) = some 2 := by decide +kernel
theorem pd_X2_refuse : (parseMethodDescriptor yX2_refuse.desc).map (fun d => d.parameters.length) = some 1 := by decide +kernel
theorem pd_X2_doing : (parseMethodDescriptor yX2_doing.desc).map (fun d => d.parameters.length) = some 2 := by decide +kernel
theorem pd_X2_enter : (parseMethodDescriptor yX2_enter.desc).map (fun d => d.parameters.length) = some 2 := by decide +kernel
theorem pd_X2_fall : (parseMethodDescriptor yX2_fall.desc).map (fun d => d.parameters.length) = some 0 := by decide +kernel
theorem pd_X2_goOn : (parseMethodDescriptor yX2_goOn.desc).map (fun d => d.parameters.length) = some 0 := by decide +kernel
theorem pd_X2_give : (parseMethodDescriptor yX2_give.desc).map (fun d => d.parameters.length) = some 1 := by decide +kernel
theorem pd_X2_alone : (parseMethodDescriptor yX2_alone.desc).map (fun d => d.parameters.length) = some 2 := by decide +kernel
theorem pd_X2_draw : (parseMethodDescriptor yX2_draw.desc).map (fun d => d.parameters.length) = some 3 := by decide +kernel
theorem pd_X2_later : (parseMethodDescriptor yX2_later.desc).map (fun d => d.parameters.length) = some 2 := by decide +kernel
theorem pd_X2_pull : (parseMethodDescriptor yX2_pull.desc).map (fun d => d.parameters.length) = some 2 := by decide +kernel
theorem pd_X2_tick : (parseMethodDescriptor yX2_tick.desc).map (fun d => d.parameters.length) = some 0 := by decide +kernel
theorem pd_X2_failed : (parseMethodDescriptor yX2_failed.desc).map (fun d => d.parameters.length) = some 0 := by decide +kernel
theorem pd_X2_told : (parseMethodDescriptor yX2_told.desc).map (fun d => d.parameters.length) = some 1 := by decide +kernel
theorem pd_X2_clear : (parseMethodDescriptor yX2_clear.desc).map (fun d => d.parameters.length) = some 0 := by decide +kernel
end
section
/-! rows that make cells, over fx and wb; constructors -/
section MK
variable {p : Program} {l : Launch} {e : Env} {R : Room} {s : State} {m : MethodId} {args : Array Value} {below : List Frame} {meth : Method} {c : Code} {H : Heap} {locs : List Loc} {cells slots : Nat} {Q : State → Prop}
variable {cc : ByteArray} {pc : Nat} {ls : Array Slot} {rest : List Value} {G : Gm} {A : Nat → Prop} {ws : va_W} {nL : Nat} {own : String} {c0 : Cond} {ret : Option FieldType}
theorem r_newi {n : Int32} {N : Nat} (hF : fx p s m args meth c cc nL own c0 ret) (hw : wb G A s ws H locs) (hn : ¬ n < 0) (hN : n.toNatClampNeg = N) (hbytes : N * 4 ≤ 536870912) (hcells : cells + 1 ≤ R.cells) (hslots : slots + N ≤ R.slots) (hdg : decode cc pc = .ok (.newarray .int, 2))
    (kk : ∀ (q : Nat) (H1 : Heap), wb G A s (ws ++ [(q, .inl (G.2.1, N, .inl (fun _ => 0)))]) H1 locs → W p l e R s m args below meth c H1 locs (cells + 1) (slots + N) Q (F0 m (pc + 2) ls (.ref q :: rest))) :
    W p l e R s m args below meth c H locs cells slots Q (F0 m pc ls (.int n :: rest)) := by
  refine va_newa (atype := .int) (ty := .int) (a0 := (N, .inl (fun _ => 0))) hF.x hF.b (hF.w wa_I) rfl hw.1.1 hw.2.1 hw.2.2.1 hw.2.2.2.1 hw.2.2.2.2 (fun cA => vp_cell_i cA N _) hn hN hbytes hcells hslots hdg (fun q cA H1 hK hP hD hS => ?_)
  have h1 : s.vm.findClass "[I" = some cA := va_nm_int (hK.2 3 (cA, .int) rfl).2
  have h2 : s.vm.findClass "[I" = some G.2.1 := va_nm_int (hw.1.1.2 0 (G.2.1, .int) rfl).2
  have e : cA = G.2.1 := Option.some.inj (h1.symm.trans h2)
  subst e
  exact kk q H1 ⟨hw.1, hP, hD, hS, hw.2.2.2.2⟩
theorem r_newD {n : Int32} {N idx : Nat} (hF : fx p s m args meth c cc nL own c0 ret) (hw : wb G A s ws H locs) (hcl : Cond.classLink own idx RX0 ∈ wsA) (hn : ¬ n < 0) (hN : n.toNatClampNeg = N) (hbytes : N * 4 ≤ 536870912) (hcells : cells + 1 ≤ R.cells) (hslots : slots + N ≤ R.slots) (hdg : decode cc pc = .ok (.anewarray idx, 3))
    (kk : ∀ (q : Nat) (H1 : Heap), wb G A s (ws ++ [(q, .inl (G.2.2.1, N, .inr (.inr (.inr (.inr (fun _ => none))))))]) H1 locs → W p l e R s m args below meth c H1 locs (cells + 1) (slots + N) Q (F0 m (pc + 3) ls (.ref q :: rest))) :
    W p l e R s m args below meth c H locs cells slots Q (F0 m pc ls (.int n :: rest)) := by
  refine va_newq (C := RX0) hF.x hF.b hF.1.2.2.2.1 (hF.w hcl) hw.1.2.2.2.1 hw.1.1 hw.2.1 hw.2.2.1 hw.2.2.2.1 hw.2.2.2.2 hn hN hbytes hcells hslots hdg (fun q cA H1 hK hP hD hS => ?_)
  obtain ⟨k1, c1, -, -, -, h1⟩ := (hK.2 3 (cA, .object RX0) rfl).2
  obtain ⟨k2, c2, -, -, -, h2⟩ := (hw.1.1.2 1 (G.2.2.1, .object RX0) rfl).2
  have e : cA = G.2.2.1 := Option.some.inj (h1.symm.trans h2)
  subst e
  exact kk q H1 ⟨hw.1, hP, hD, hS, hw.2.2.2.2⟩
theorem r_newG {n : Int32} {N idx : Nat} (hF : fx p s m args meth c cc nL own c0 ret) (hw : wb G A s ws H locs) (hcl : Cond.classLink own idx "[I" ∈ wsA) (hn : ¬ n < 0) (hN : n.toNatClampNeg = N) (hbytes : N * 4 ≤ 536870912) (hcells : cells + 1 ≤ R.cells) (hslots : slots + N ≤ R.slots) (hdg : decode cc pc = .ok (.anewarray idx, 3))
    (kk : ∀ (q : Nat) (H1 : Heap), wb G A s (ws ++ [(q, .inl (G.2.2.2, N, .inr (.inr (.inr (.inr (fun _ => none))))))]) H1 locs → W p l e R s m args below meth c H1 locs (cells + 1) (slots + N) Q (F0 m (pc + 3) ls (.ref q :: rest))) :
    W p l e R s m args below meth c H locs cells slots Q (F0 m pc ls (.int n :: rest)) := by
  subst hN
  have hts : (FieldType.array FieldType.int).toString = "[I" := by decide +kernel
  refine W.anewA (t := .int) hF.x hF.b hF.1.2.2.2.1 (by rw [hts]; exact hF.w hcl) (over_moved (Vm.Alike.refl _) hw.1.2.2.2.2) rfl hdg rfl hn hbytes hcells hslots fun cA kA comp f1 f2 f3 f4 => ?_
  have h2 : s.vm.findClass ("[" ++ (FieldType.array FieldType.int).toString) = some G.2.2.2 := (hw.1.1.2 2 (G.2.2.2, .array .int) rfl).2
  have e : cA = G.2.2.2 := Option.some.inj (f1.symm.trans h2)
  subst e
  have hP := hw.2.1
  have hS := hw.2.2.2.1
  generalize hH1 : H.push ({ cls := G.2.2.2, slots := Array.replicate n.toNatClampNeg .null, vm := .none } : Cell) = H1
  have z1 : H1.size = H.size + 1 := by rw [← hH1, Array.size_push]
  have e1 : H1[H.size]? = some (arrV G.2.2.2 n.toNatClampNeg (fun _ => .null)) := by rw [← hH1, Array.getElem?_push_size, ← arrV_new]
  have o1 : ∀ q : Nat, q < H.size → H1[q]? = H[q]? := fun q hq => by rw [← hH1, Array.getElem?_push, if_neg (Nat.ne_of_lt hq)]
  have hk : ∀ (k : Nat) (x : Nat × va_E), ws[k]? = some x → H1[x.1]? = H[x.1]? := fun k x hx => o1 x.1 ((hP k x hx).lt)
  refine kk H.size H1 ⟨hw.1, (hP.kept hk).app (fun k x hx => ?_), hw.2.2.1.push hP rfl (hw.2.2.2.2 _ hS.1), ⟨Nat.le_trans hS.1 (by omega), fun x h1 h2 => (o1 x (Nat.lt_of_lt_of_le h1 hS.1)).trans (hS.2.1 x h1 h2), hS.2.2⟩, hw.2.2.2.2⟩
  have hz : k < 1 := (List.getElem?_eq_some_iff.mp hx).1
  rw [show k = 0 by omega] at hx
  cases hx
  show H1[H.size]? = some (vp_cell _ _)
  rw [vp_cell_q]
  exact e1
theorem r_new {ci idx : Nat} {fs : List Value} {C : String} {T : u_T} {N : Nat} (hF : fx p s m args meth c cc nL own c0 ret) (hw : wb G A s ws H locs) (hc : vwCl[ci]? = some (C, T, N)) (hin : ∀ w ∈ u_ws C T N, w ∈ wsA) (ty : Nat → FieldType) (hty : ∀ k, k < N → parseFieldDescriptor (T k).2.2.1 = some (ty k)) (hcl : Cond.classLink own idx C ∈ wsA) (hinst : Cond.instantiable C N ∈ wsA) (hini : Cond.initialized C ∈ wsA) (hfs : ∀ j, j < N → defaultValue (ty j) = vp_V fs j) (hcells : cells + 1 ≤ R.cells) (hslots : slots + N ≤ R.slots) (hdg : decode cc pc = .ok (.new idx, 3))
    (kk : ∀ (q : Nat) (H1 : Heap), wb G A s (ws ++ [(q, .inr (ci, fs))]) H1 locs → W p l e R s m args below meth c H1 locs (cells + 1) (slots + N) Q (F0 m (pc + 3) ls (.ref q :: rest))) :
    W p l e R s m args below meth c H locs cells slots Q (F0 m pc ls rest) :=
  va_new hF.x hF.b (Ts := wsA) (fun w h => hF.w h) hin ty hty hF.1.2.2.2.1 (hF.w hcl) (hF.w hinst) (hF.w hini) hw.1.1 hw.2.1 hw.2.2.1 hw.2.2.2.1 hw.2.2.2.2 hc hfs hcells hslots hdg (fun q H1 hP hD hS => kk q H1 ⟨hw.1, hP, hD, hS, hw.2.2.2.2⟩)
theorem r_obj {idx a : Nat} (hF : fx p s m args meth c cc nL own c0 ret) (hl : lv_has ls nL [] ∨ ls.size = nL) (hq : Cond.methodLink own idx objectInit ∈ wsA) (hfr : 1 ≤ R.frames) (hlo : 12 ≤ R.locals) (hdg : decode cc pc = .ok (.invokespecial idx, 3))
    (kk : W p l e R s m args below meth c H locs cells slots Q (F0 m (pc + 3) ls [])) : W p l e R s m args below meth c H locs cells slots Q (F0 m pc ls [.ref a]) := by
  have hsz : ls.size = c.maxLocals := by
    rw [hF.1.2.2.1]
    rcases hl with h | h
    · exact h.1
    · exact h
  exact W.objInit hF.x hF.b hF.1.2.2.2.1 (hF.w hq) (hF.w wo_i) (hF.w wo_c) rfl hsz rfl hdg hfr (by show 2 * 0 + 0 + 12 ≤ _; omega) kk
variable {y2 : MethodName} {cc2 : ByteArray} {n2 : Nat} {rm2 : Room} {As st0 : List Value} {b idx : Nat} {S2 : Type} {wf2 : S2 → va_W}
theorem ca_N {post2 : S2 → Prop} {host : String} (hF : fx p s m args meth c cc nL own c0 ret) (hw : wb G A s ws H locs) (hM : ctV l y2 cc2 n2 rm2 G (.ref b :: As) ws post2 wf2) (hl : Cond.methodLinkNest own idx y2 host ∈ nestW) (hi : Cond.instanceMethod y2 ∈ wsA) (hini : Cond.initialized y2.cls ∈ wsA) (hcd : Cond.code y2 cc2 n2 none ∈ wsA) (hnm : y2.name = "<init>")
    (hd : y2.cls ≠ "java/lang/invoke/MethodHandle" ∧ y2.cls ≠ "java/lang/invoke/VarHandle" ∧ (parseMethodDescriptor y2.desc).map (fun d => d.parameters.length) = some As.length)
    (hR : rm2.frames + 1 ≤ R.frames ∧ 8 + (n2 + 11) + rm2.locals ≤ R.locals) (hC : cells + rm2.cells ≤ R.cells ∧ slots + rm2.slots ≤ R.slots)
    (hls : ls.size = nL) (hst : st0 = As.reverse ++ .ref b :: rest) (hsum : (rest.map fun v => v.category).sum ≤ 8) (hdg : decode cc pc = .ok (.invokespecial idx, 3))
    (kk : ∀ (u : S2) (H1 : Heap) (locs1 : List Loc), post2 u → wb G A s (wf2 u) H1 locs1 → W p l e R s m args below meth c H1 locs1 (cells + rm2.cells) (slots + rm2.slots) Q (F0 m (pc + 3) ls rest)) :
    W p l e R s m args below meth c H locs cells slots Q (F0 m pc ls st0) := by
  have hFc := hw.free
  refine va_callv (va_runIN (As := As) (rest := rest) hF.1 (hM H.size) ⟨va_cnB As.length hF.1.2.2.2.2 (gi_C hcd) rfl rfl rfl (hw.1.2.2.1 _ hl) (hF.w hini) hd hR, hnm, hF.w hi⟩ ⟨wb.blind, hw.pre⟩ rfl rfl hls (by rw [hst]) (lv_room hsum) hdg hC) hw.2.2.2.1 (fun q _ h => hFc q h) hFc (fun u t H1 locs1 ht hvm hp hB hz hk1 hS1 => ?_)
  exact kk u H1 locs1 hp ⟨hw.1, by rw [← ht]; exact hB.1, hB.2.weaken (fun _ _ _ h => hFc _ h), hS1, hw.2.2.2.2⟩
theorem ca_C {post2 : S2 → Prop} (hF : fx p s m args meth c cc nL own c0 ret) (hw : wb G A s ws H locs) (hM : ctV l y2 cc2 n2 rm2 G (.ref b :: As) ws post2 wf2) (hv : iwd own idx y2 (.code y2 cc2 n2 none)) (hnm : y2.name = "<init>")
    (hd : y2.cls ≠ "java/lang/invoke/MethodHandle" ∧ y2.cls ≠ "java/lang/invoke/VarHandle" ∧ (parseMethodDescriptor y2.desc).map (fun d => d.parameters.length) = some As.length)
    (hR : rm2.frames + 1 ≤ R.frames ∧ 8 + (n2 + 11) + rm2.locals ≤ R.locals) (hC : cells + rm2.cells ≤ R.cells ∧ slots + rm2.slots ≤ R.slots)
    (hls : ls.size = nL) (hst : st0 = As.reverse ++ .ref b :: rest) (hsum : (rest.map fun v => v.category).sum ≤ 8) (hdg : decode cc pc = .ok (.invokespecial idx, 3))
    (kk : ∀ (u : S2) (H1 : Heap) (locs1 : List Loc), post2 u → wb G A s (wf2 u) H1 locs1 → W p l e R s m args below meth c H1 locs1 (cells + rm2.cells) (slots + rm2.slots) Q (F0 m (pc + 3) ls rest)) :
    W p l e R s m args below meth c H locs cells slots Q (F0 m pc ls st0) := by
  have hFc := hw.free
  obtain ⟨w1, w2, w3, w4⟩ := hv
  refine va_callv (va_runI (As := As) (rest := rest) hF.1 (hM H.size) (cwI As.length hF.1.2.2.2.2 (gi_C w4) rfl rfl rfl (hF.w w3) (hF.w w1) (hF.w w2) hnm hd hR) ⟨wb.blind, hw.pre⟩ rfl rfl hls (by rw [hst]) (lv_room hsum) hdg hC) hw.2.2.2.1 (fun q _ h => hFc q h) hFc (fun u t H1 locs1 ht hvm hp hB hz hk1 hS1 => ?_)
  exact kk u H1 locs1 hp ⟨hw.1, by rw [← ht]; exact hB.1, hB.2.weaken (fun _ _ _ h => hFc _ h), hS1, hw.2.2.2.2⟩
end MK
end
section
/-! the world of a LeverHall: ints by field number, int arrays by field number, arrays of references by field number, deeds and rows by the number of their making -/
abbrev AX : Type := (Nat → Nat) × (Nat → Nat) × (Nat → Nat)
abbrev DX : Type := (Nat → Int32) × (Nat → Option Nat)
abbrev SX : Type := (Nat → Int32) × (Nat → Nat → Int32) × (Nat → Nat → Option Nat) × (Nat × (Nat → DX)) × (Nat × (Nat → Nat × (Nat → Int32)))
def dF (a : AX) (d : DX) : List Value := [.int (d.1 0), .int (d.1 1), .int (d.1 2), .int (d.1 3), va_rf ((d.2 4).map a.2.1), va_rf ((d.2 5).map a.2.1), va_rf ((d.2 6).map a.2.2), .int (d.1 7)]
def hFs (a : AX) (σ : SX) : List Value := [.ref (a.1 0), .ref (a.1 1), .ref (a.1 2), .ref (a.1 3), .ref (a.1 4), .ref (a.1 5), .int (σ.1 6), .int (σ.1 7), .int (σ.1 8), .int (σ.1 9), .int (σ.1 10), .int (σ.1 11), .int (σ.1 12)]
abbrev qA (f : Nat → Option Nat) : (Nat → Int32) ⊕ (Nat → Int64) ⊕ (Nat → UInt32) ⊕ (Nat → UInt64) ⊕ (Nat → Option Nat) := .inr (.inr (.inr (.inr f)))
def dPl (a : AX) (n : Nat) (D : Nat → DX) : va_W := (List.range n).map (fun d => (a.2.1 d, .inr (0, dF a (D d))))
def rPl (G : Gm) (a : AX) (n : Nat) (r : Nat → Nat × (Nat → Int32)) : va_W := (List.range n).map (fun k => (a.2.2 k, .inl (G.2.1, (r k).1, .inl (r k).2)))
def wX (G : Gm) (a : AX) (σ : SX) : va_W := (a.1 13, .inr (1, hFs a σ)) :: (a.1 0, .inl (G.2.1, 10, .inl (σ.2.1 0))) :: (a.1 1, .inl (G.2.2.2, 3, qA (fun i => (σ.2.2.1 1 i).map a.2.2))) :: (a.1 2, .inl (G.2.2.1, 20, qA (fun i => (σ.2.2.1 2 i).map a.2.1))) :: (a.1 3, .inl (G.2.2.1, 20, qA (fun i => (σ.2.2.1 3 i).map a.2.1))) :: (a.1 4, .inl (G.2.2.1, 12, qA (fun i => (σ.2.2.1 4 i).map a.2.1))) :: (a.1 5, .inl (G.2.1, 12, .inl (σ.2.1 5))) :: (dPl a σ.2.2.2.1.1 σ.2.2.2.1.2 ++ rPl G a σ.2.2.2.2.1 σ.2.2.2.2.2)
theorem pl_get {α : Type} (f : Nat → α) {n d : Nat} (h : d < n) : ((List.range n).map f)[d]? = some (f d) := by simp [h]
theorem pl_set {α : Type} (f : Nat → α) {n d : Nat} (v : α) (h : d < n) : ((List.range n).map f).set d v = (List.range n).map (va_up f d v) := by
  apply List.ext_getElem?
  intro i
  by_cases hi : i < n
  · by_cases e : i = d
    · subst e
      simp [List.getElem?_set, h, va_up]
    · have e' : ¬ d = i := fun q => e q.symm
      simp [List.getElem?_set, hi, e, e', va_up]
  · by_cases e : d = i
    · omega
    · simp [List.getElem?_set, hi, e]
theorem wX_d {G : Gm} {a : AX} {σ : SX} {d : Nat} (h : d < σ.2.2.2.1.1) : (wX G a σ)[7 + d]? = some (a.2.1 d, .inr (0, dF a (σ.2.2.2.1.2 d))) := by
  have e : 7 + d = d + 1 + 1 + 1 + 1 + 1 + 1 + 1 := by omega
  rw [e]
  simp only [wX, List.getElem?_cons_succ]
  rw [List.getElem?_append_left (by simp [dPl, h])]
  exact pl_get _ h
theorem wX_r {G : Gm} {a : AX} {σ : SX} {r : Nat} (h : r < σ.2.2.2.2.1) : (wX G a σ)[7 + (σ.2.2.2.1.1 + r)]? = some (a.2.2 r, .inl (G.2.1, (σ.2.2.2.2.2 r).1, .inl (σ.2.2.2.2.2 r).2)) := by
  have e : 7 + (σ.2.2.2.1.1 + r) = (σ.2.2.2.1.1 + r) + 1 + 1 + 1 + 1 + 1 + 1 + 1 := by omega
  rw [e]
  simp only [wX, List.getElem?_cons_succ]
  rw [List.getElem?_append_right (by simp [dPl])]
  simp only [dPl, List.length_map, List.length_range, Nat.add_sub_cancel_left]
  exact pl_get _ h
theorem wX_sd {G : Gm} {a : AX} {σ : SX} {d : Nat} (v : DX) (h : d < σ.2.2.2.1.1) : (wX G a σ).set (7 + d) (a.2.1 d, .inr (0, dF a v)) = wX G a (σ.1, σ.2.1, σ.2.2.1, (σ.2.2.2.1.1, va_up σ.2.2.2.1.2 d v), σ.2.2.2.2) := by
  have e : 7 + d = d + 1 + 1 + 1 + 1 + 1 + 1 + 1 := by omega
  rw [e]
  simp only [wX, List.set_cons_succ]
  rw [List.set_append_left _ _ (by simp [dPl, h])]
  unfold dPl
  rw [pl_set _ _ h]
  have : va_up (fun d => ((a.2.1 d, .inr (0, dF a (σ.2.2.2.1.2 d))) : Nat × va_E)) d (a.2.1 d, .inr (0, dF a v)) = fun x => (a.2.1 x, .inr (0, dF a (va_up σ.2.2.2.1.2 d v x))) := by
    funext x
    by_cases hx : x = d
    · subst hx; simp [va_up]
    · simp [va_up, hx]
  rw [this]
  rfl
theorem wX_sr {G : Gm} {a : AX} {σ : SX} {r : Nat} (f : Nat → Int32) (h : r < σ.2.2.2.2.1) : (wX G a σ).set (7 + (σ.2.2.2.1.1 + r)) (a.2.2 r, .inl (G.2.1, (σ.2.2.2.2.2 r).1, .inl f)) = wX G a (σ.1, σ.2.1, σ.2.2.1, σ.2.2.2.1, (σ.2.2.2.2.1, va_up σ.2.2.2.2.2 r ((σ.2.2.2.2.2 r).1, f))) := by
  have e : 7 + (σ.2.2.2.1.1 + r) = (σ.2.2.2.1.1 + r) + 1 + 1 + 1 + 1 + 1 + 1 + 1 := by omega
  rw [e]
  simp only [wX, List.set_cons_succ]
  rw [List.set_append_right _ _ (by simp [dPl])]
  simp only [dPl, List.length_map, List.length_range, Nat.add_sub_cancel_left]
  unfold rPl
  rw [pl_set _ _ h]
  have : va_up (fun k => ((a.2.2 k, .inl (G.2.1, (σ.2.2.2.2.2 k).1, .inl (σ.2.2.2.2.2 k).2)) : Nat × va_E)) r (a.2.2 r, .inl (G.2.1, (σ.2.2.2.2.2 r).1, .inl f)) = fun x => (a.2.2 x, .inl (G.2.1, (va_up σ.2.2.2.2.2 r ((σ.2.2.2.2.2 r).1, f) x).1, .inl (va_up σ.2.2.2.2.2 r ((σ.2.2.2.2.2 r).1, f) x).2)) := by
    funext x
    by_cases hx : x = r
    · subst hx; simp [va_up]
    · simp [va_up, hx]
  rw [this]
  rfl
theorem up_map (f : Nat → Option Nat) (g : Nat → Nat) (k : Nat) (o : Option Nat) : va_up (fun i => (f i).map g) k (o.map g) = fun i => (va_up f k o i).map g := by
  funext x
  by_cases hx : x = k
  · subst hx; simp [va_up]
  · simp [va_up, hx]
theorem wX_sI {G : Gm} {a : AX} {σ : SX} {k : Nat} (v : Int32) (hk : 6 ≤ k ∧ k < 13) : (wX G a σ).set 0 (a.1 13, .inr (1, (hFs a σ).set k (.int v))) = wX G a (va_up σ.1 k v, σ.2) := by
  obtain ⟨h1, h2⟩ := hk
  have : k = 6 ∨ k = 7 ∨ k = 8 ∨ k = 9 ∨ k = 10 ∨ k = 11 ∨ k = 12 := by omega
  rcases this with rfl | rfl | rfl | rfl | rfl | rfl | rfl <;> simp [wX, hFs, va_up]
theorem wX_sF {G : Gm} {a : AX} {σ : SX} {k n : Nat} (f : Nat → Int32) (hk : (k = 0 ∧ n = 10) ∨ (k = 5 ∧ n = 12)) : (wX G a σ).set (k + 1) (a.1 k, .inl (G.2.1, n, .inl f)) = wX G a (σ.1, va_up σ.2.1 k f, σ.2.2) := by
  rcases hk with ⟨rfl, rfl⟩ | ⟨rfl, rfl⟩ <;> simp [wX, hFs, va_up]
theorem wX_sO {G : Gm} {a : AX} {σ : SX} {k n : Nat} (f : Nat → Option Nat) (hk : (k = 2 ∧ n = 20) ∨ (k = 3 ∧ n = 20) ∨ (k = 4 ∧ n = 12)) : (wX G a σ).set (k + 1) (a.1 k, .inl (G.2.2.1, n, qA (fun i => (f i).map a.2.1))) = wX G a (σ.1, σ.2.1, va_up σ.2.2.1 k f, σ.2.2.2) := by
  rcases hk with ⟨rfl, rfl⟩ | ⟨rfl, rfl⟩ | ⟨rfl, rfl⟩ <;> simp [wX, hFs, va_up]
theorem wX_sG {G : Gm} {a : AX} {σ : SX} (f : Nat → Option Nat) : (wX G a σ).set 2 (a.1 1, .inl (G.2.2.2, 3, qA (fun i => (f i).map a.2.2))) = wX G a (σ.1, σ.2.1, va_up σ.2.2.1 1 f, σ.2.2.2) := by
  simp [wX, hFs, va_up]
section RX
variable {p : Program} {l : Launch} {e : Env} {R : Room} {s : State} {m : MethodId} {args : Array Value} {below : List Frame} {meth : Method} {c : Code} {H : Heap} {locs : List Loc} {cells slots : Nat} {Q : State → Prop}
variable {cc : ByteArray} {pc : Nat} {ls : Array Slot} {rest : List Value} {G : Gm} {A : Nat → Prop} {a : AX} {σ : SX} {nL : Nat} {c0 : Cond} {ret : Option FieldType}
theorem rx_put {idx : Nat} {v : Int32} (k : Nat) (hF : fx p s m args meth c cc nL RX1 c0 ret) (hw : wb G A s (wX G a σ) H locs) (hk : 6 ≤ k ∧ k < 13) (hl : Cond.fieldLink RX1 idx (TX1 k).1 (TX1 k).2.1 (TX1 k).2.2.1 ∈ wsA) (hdg : decode cc pc = .ok (.putfield idx, 3))
    (kk : ∀ (σ1 : SX) (H1 : Heap) (locs1 : List Loc), σ1 = (va_up σ.1 k v, σ.2) → wb G A s (wX G a σ1) H1 locs1 → W p l e R s m args below meth c H1 locs1 cells slots Q (F0 m (pc + 3) ls rest)) : W p l e R s m args below meth c H locs cells slots Q (F0 m pc ls (.int v :: .ref (a.1 13) :: rest)) := by
  have hh := hk
  obtain ⟨h1, h2⟩ := hk
  have ht : tyX1 k = .int ∧ (TX1 k).2.2.2 = false := by
    have : k = 6 ∨ k = 7 ∨ k = 8 ∨ k = 9 ∨ k = 10 ∨ k = 11 ∨ k = 12 := by omega
    rcases this with rfl | rfl | rfl | rfl | rfl | rfl | rfl <;> exact ⟨rfl, rfl⟩
  exact r_put hF hw 0 rfl rfl inlX1 tyX1 tyX1_ok nmX1 k h2 hl ht.2 (by rw [ht.1]; rfl) (by rw [ht.1]; rfl) h2 (wX_sI v hh) hdg (fun H1 locs1 hw => kk _ H1 locs1 rfl hw)
theorem rx_iald {i : Int32} (k n : Nat) (hF : fx p s m args meth c cc nL RX1 c0 ret) (hw : wb G A s (wX G a σ) H locs) (hk : (k = 0 ∧ n = 10) ∨ (k = 5 ∧ n = 12)) (hin : vp_in i n) (hdg : decode cc pc = .ok (.iaload, 1))
    (kk : W p l e R s m args below meth c H locs cells slots Q (F0 m (pc + 1) ls (.int (σ.2.1 k i.toNatClampNeg) :: rest))) : W p l e R s m args below meth c H locs cells slots Q (F0 m pc ls (.int i :: .ref (a.1 k) :: rest)) := by
  rcases hk with ⟨rfl, rfl⟩ | ⟨rfl, rfl⟩
  · exact r_iald hF hw 1 rfl hin hdg kk
  · exact r_iald hF hw 6 rfl hin hdg kk
theorem rx_iast {i x : Int32} (k n : Nat) (hF : fx p s m args meth c cc nL RX1 c0 ret) (hw : wb G A s (wX G a σ) H locs) (hk : (k = 0 ∧ n = 10) ∨ (k = 5 ∧ n = 12)) (hin : vp_in i n) (hdg : decode cc pc = .ok (.iastore, 1))
    (kk : ∀ (σ1 : SX) (H1 : Heap) (locs1 : List Loc), σ1 = (σ.1, va_up σ.2.1 k (upd (σ.2.1 k) i.toNatClampNeg x), σ.2.2) → wb G A s (wX G a σ1) H1 locs1 → W p l e R s m args below meth c H1 locs1 cells slots Q (F0 m (pc + 1) ls rest)) : W p l e R s m args below meth c H locs cells slots Q (F0 m pc ls (.int x :: .int i :: .ref (a.1 k) :: rest)) := by
  have hh := hk
  rcases hk with ⟨rfl, rfl⟩ | ⟨rfl, rfl⟩
  · exact r_iast hF hw 1 rfl hin (wX_sF _ hh) hdg (fun H1 locs1 hw => kk _ H1 locs1 rfl hw)
  · exact r_iast hF hw 6 rfl hin (wX_sF _ hh) hdg (fun H1 locs1 hw => kk _ H1 locs1 rfl hw)
theorem rx_aald {i : Int32} (k n : Nat) (hF : fx p s m args meth c cc nL RX1 c0 ret) (hw : wb G A s (wX G a σ) H locs) (hk : (k = 2 ∧ n = 20) ∨ (k = 3 ∧ n = 20) ∨ (k = 4 ∧ n = 12)) (hin : vp_in i n) (hdg : decode cc pc = .ok (.aaload, 1))
    (kk : ∀ o : Option Nat, o = σ.2.2.1 k i.toNatClampNeg → W p l e R s m args below meth c H locs cells slots Q (F0 m (pc + 1) ls (va_rf (o.map a.2.1) :: rest))) : W p l e R s m args below meth c H locs cells slots Q (F0 m pc ls (.int i :: .ref (a.1 k) :: rest)) := by
  rcases hk with ⟨rfl, rfl⟩ | ⟨rfl, rfl⟩ | ⟨rfl, rfl⟩
  · exact r_aald hF hw 3 rfl hin hdg (kk _ rfl)
  · exact r_aald hF hw 4 rfl hin hdg (kk _ rfl)
  · exact r_aald hF hw 5 rfl hin hdg (kk _ rfl)
theorem rx_gald {i : Int32} (hF : fx p s m args meth c cc nL RX1 c0 ret) (hw : wb G A s (wX G a σ) H locs) (hin : vp_in i 3) (hdg : decode cc pc = .ok (.aaload, 1))
    (kk : ∀ o : Option Nat, o = σ.2.2.1 1 i.toNatClampNeg → W p l e R s m args below meth c H locs cells slots Q (F0 m (pc + 1) ls (va_rf (o.map a.2.2) :: rest))) : W p l e R s m args below meth c H locs cells slots Q (F0 m pc ls (.int i :: .ref (a.1 1) :: rest)) :=
  r_aaldG hF hw 2 rfl hin hdg (kk _ rfl)
theorem rx_aast {i : Int32} {o : Option Nat} (k n : Nat) (hF : fx p s m args meth c cc nL RX1 c0 ret) (hw : wb G A s (wX G a σ) H locs) (hk : (k = 2 ∧ n = 20) ∨ (k = 3 ∧ n = 20) ∨ (k = 4 ∧ n = 12)) (hin : vp_in i n) (ho : ∀ d, o = some d → d < σ.2.2.2.1.1) (hdg : decode cc pc = .ok (.aastore, 1))
    (kk : ∀ (σ1 : SX) (H1 : Heap) (locs1 : List Loc), σ1 = (σ.1, σ.2.1, va_up σ.2.2.1 k (va_up (σ.2.2.1 k) i.toNatClampNeg o), σ.2.2.2) → wb G A s (wX G a σ1) H1 locs1 → W p l e R s m args below meth c H1 locs1 cells slots Q (F0 m (pc + 1) ls rest)) : W p l e R s m args below meth c H locs cells slots Q (F0 m pc ls (va_rf (o.map a.2.1) :: .int i :: .ref (a.1 k) :: rest)) := by
  have hh := hk
  have hq : ∀ q0 : Nat, (wX G a σ)[q0]? = some (a.1 k, .inl (G.2.2.1, n, qA (fun i => (σ.2.2.1 k i).map a.2.1))) → q0 = k + 1 → W p l e R s m args below meth c H locs cells slots Q (F0 m pc ls (va_rf (o.map a.2.1) :: .int i :: .ref (a.1 k) :: rest)) := by
    intro q0 hq0 hqk
    subst hqk
    cases o with
    | none => exact r_aastN hF hw (k + 1) hq0 hin (by rw [show (none : Option Nat) = (none : Option Nat).map a.2.1 from rfl, up_map]; exact wX_sO _ hh) hdg (fun H1 locs1 hw => kk _ H1 locs1 rfl hw)
    | some d => exact r_aast hF hw (k + 1) (7 + d) hq0 (wX_d (ho d rfl)) hin (by rw [show some (a.2.1 d) = (some d).map a.2.1 from rfl, up_map]; exact wX_sO _ hh) hdg (fun H1 locs1 hw => kk _ H1 locs1 rfl hw)
  rcases hk with ⟨rfl, rfl⟩ | ⟨rfl, rfl⟩ | ⟨rfl, rfl⟩
  · exact hq 3 rfl rfl
  · exact hq 4 rfl rfl
  · exact hq 5 rfl rfl
theorem rx_gast {i : Int32} {o : Option Nat} (hF : fx p s m args meth c cc nL RX1 c0 ret) (hw : wb G A s (wX G a σ) H locs) (hin : vp_in i 3) (ho : ∀ d, o = some d → d < σ.2.2.2.2.1) (hdg : decode cc pc = .ok (.aastore, 1))
    (kk : ∀ (σ1 : SX) (H1 : Heap) (locs1 : List Loc), σ1 = (σ.1, σ.2.1, va_up σ.2.2.1 1 (va_up (σ.2.2.1 1) i.toNatClampNeg o), σ.2.2.2) → wb G A s (wX G a σ1) H1 locs1 → W p l e R s m args below meth c H1 locs1 cells slots Q (F0 m (pc + 1) ls rest)) : W p l e R s m args below meth c H locs cells slots Q (F0 m pc ls (va_rf (o.map a.2.2) :: .int i :: .ref (a.1 1) :: rest)) := by
  cases o with
  | none => exact r_aastGN hF hw 2 rfl hin (by rw [show (none : Option Nat) = (none : Option Nat).map a.2.2 from rfl, up_map]; exact wX_sG _) hdg (fun H1 locs1 hw => kk _ H1 locs1 rfl hw)
  | some d => exact r_aastG hF hw 2 (7 + (σ.2.2.2.1.1 + d)) rfl (wX_r (ho d rfl)) hin (by rw [show some (a.2.2 d) = (some d).map a.2.2 from rfl, up_map]; exact wX_sG _) hdg (fun H1 locs1 hw => kk _ H1 locs1 rfl hw)
theorem rx_dget {d idx k : Nat} {v : Value} (hF : fx p s m args meth c cc nL RX1 c0 ret) (hw : wb G A s (wX G a σ) H locs) (hd : d < σ.2.2.2.1.1) (hk : k < 8) (hl : Cond.fieldLinkNest RX1 idx (TX0 k).1 (TX0 k).2.1 (TX0 k).2.2.1 RX1 ∈ nestW) (hv : (dF a (σ.2.2.2.1.2 d))[k]? = some v) (hdg : decode cc pc = .ok (.getfield idx, 3))
    (kk : W p l e R s m args below meth c H locs cells slots Q (F0 m (pc + 3) ls (v :: rest))) : W p l e R s m args below meth c H locs cells slots Q (F0 m pc ls (.ref (a.2.1 d) :: rest)) :=
  r_getN hF hw (7 + d) (wX_d hd) rfl inlX0 k hk hl hv hdg kk
theorem rx_dputT {d : Nat} {v : Int32} (hF : fx p s m args meth c cc nL RX1 c0 ret) (hw : wb G A s (wX G a σ) H locs) (hd : d < σ.2.2.2.1.1) (hdg : decode cc pc = .ok (.putfield 101, 3))
    (kk : ∀ (σ1 : SX) (H1 : Heap) (locs1 : List Loc), σ1 = (σ.1, σ.2.1, σ.2.2.1, (σ.2.2.2.1.1, va_up σ.2.2.2.1.2 d (va_up (σ.2.2.2.1.2 d).1 7 v, (σ.2.2.2.1.2 d).2)), σ.2.2.2.2) → wb G A s (wX G a σ1) H1 locs1 → W p l e R s m args below meth c H1 locs1 cells slots Q (F0 m (pc + 3) ls rest)) : W p l e R s m args below meth c H locs cells slots Q (F0 m pc ls (.int v :: .ref (a.2.1 d) :: rest)) := by
  refine r_putN (T := TX0) hF hw (7 + d) (wX_d hd) rfl inlX0 tyX0 tyX0_ok nmX0 7 (by decide) (host := RX1) (by unfold nestW; simp [TX0]) rfl rfl rfl (Nat.le_of_ble_eq_true rfl) ?_ hdg (fun H1 locs1 hw => kk _ H1 locs1 rfl hw)
  rw [← wX_sd _ hd]
  simp [dF, va_up]
theorem rx_rald {r : Nat} {i : Int32} (hF : fx p s m args meth c cc nL RX1 c0 ret) (hw : wb G A s (wX G a σ) H locs) (hr : r < σ.2.2.2.2.1) (hin : vp_in i (σ.2.2.2.2.2 r).1) (hdg : decode cc pc = .ok (.iaload, 1))
    (kk : W p l e R s m args below meth c H locs cells slots Q (F0 m (pc + 1) ls (.int ((σ.2.2.2.2.2 r).2 i.toNatClampNeg) :: rest))) : W p l e R s m args below meth c H locs cells slots Q (F0 m pc ls (.int i :: .ref (a.2.2 r) :: rest)) :=
  r_iald hF hw (7 + (σ.2.2.2.1.1 + r)) (wX_r hr) hin hdg kk
theorem rx_rast {r : Nat} {i x : Int32} (hF : fx p s m args meth c cc nL RX1 c0 ret) (hw : wb G A s (wX G a σ) H locs) (hr : r < σ.2.2.2.2.1) (hin : vp_in i (σ.2.2.2.2.2 r).1) (hdg : decode cc pc = .ok (.iastore, 1))
    (kk : ∀ (σ1 : SX) (H1 : Heap) (locs1 : List Loc), σ1 = (σ.1, σ.2.1, σ.2.2.1, σ.2.2.2.1, (σ.2.2.2.2.1, va_up σ.2.2.2.2.2 r ((σ.2.2.2.2.2 r).1, upd (σ.2.2.2.2.2 r).2 i.toNatClampNeg x))) → wb G A s (wX G a σ1) H1 locs1 → W p l e R s m args below meth c H1 locs1 cells slots Q (F0 m (pc + 1) ls rest)) : W p l e R s m args below meth c H locs cells slots Q (F0 m pc ls (.int x :: .int i :: .ref (a.2.2 r) :: rest)) :=
  r_iast hF hw (7 + (σ.2.2.2.1.1 + r)) (wX_r hr) hin (wX_sr _ hr) hdg (fun H1 locs1 hw => kk _ H1 locs1 rfl hw)
theorem rx_rlen {r : Nat} (hF : fx p s m args meth c cc nL RX1 c0 ret) (hw : wb G A s (wX G a σ) H locs) (hr : r < σ.2.2.2.2.1) (hdg : decode cc pc = .ok (.arraylength, 1))
    (kk : W p l e R s m args below meth c H locs cells slots Q (F0 m (pc + 1) ls (.int (nI (σ.2.2.2.2.2 r).1) :: rest))) : W p l e R s m args below meth c H locs cells slots Q (F0 m pc ls (.ref (a.2.2 r) :: rest)) :=
  r_alen hF hw (7 + (σ.2.2.2.1.1 + r)) (wX_r hr) rfl hdg kk
/-- a reference named by its number: null or not -/
theorem lm_ifnull {off : Int} {tgt : Nat} {o : Option Nat} {g : Nat → Nat} {own : String} (hF : fx p s m args meth c cc nL own c0 ret) (hdg : decode cc pc = .ok (.ifnull off, 3)) (ht : (pc : Int) + off = (tgt : Int))
    (kt : o = none → W p l e R s m args below meth c H locs cells slots Q (F0 m tgt ls rest)) (kf : ∀ d, o = some d → W p l e R s m args below meth c H locs cells slots Q (F0 m (pc + 3) ls rest)) : W p l e R s m args below meth c H locs cells slots Q (F0 m pc ls (va_rf (o.map g) :: rest)) := by
  cases o with
  | none => exact lv_ifnullN hF.x hF.b hdg ht (kt rfl)
  | some a => exact lv_ifnull hF.x hF.b hdg (kf a rfl)
theorem lm_ifnonnull {off : Int} {tgt : Nat} {o : Option Nat} {g : Nat → Nat} {own : String} (hF : fx p s m args meth c cc nL own c0 ret) (hdg : decode cc pc = .ok (.ifnonnull off, 3)) (ht : (pc : Int) + off = (tgt : Int))
    (kt : ∀ d, o = some d → W p l e R s m args below meth c H locs cells slots Q (F0 m tgt ls rest)) (kf : o = none → W p l e R s m args below meth c H locs cells slots Q (F0 m (pc + 3) ls rest)) : W p l e R s m args below meth c H locs cells slots Q (F0 m pc ls (va_rf (o.map g) :: rest)) := by
  cases o with
  | none => exact lv_ifnonnullN hF.x hF.b hdg (kf rfl)
  | some a => exact lv_ifnonnull hF.x hF.b hdg ht (kt a rfl)
end RX
end
section
/-! what the methods of a LeverHall answer and change: words for their contracts -/
abbrev rr (f lo : Nat) : Room := { frames := f, cells := 0, slots := 0, locals := lo }
theorem cat_rf (o : Option Nat) : (va_rf o).category = 1 := by cases o <;> rfl
theorem sw_in {x : Int32} {lo hi : Nat} (h : ¬ (x.toInt < (lo : Int) ∨ (hi : Int) < x.toInt)) (hh : hi < 2 ^ 31) : ∃ j : Nat, lo ≤ j ∧ j ≤ hi ∧ x = nI j := by
  have h1 : (lo : Int) ≤ x.toInt := by omega
  have h2 : x.toInt ≤ (hi : Int) := by omega
  refine ⟨x.toInt.toNat, by omega, by omega, ?_⟩
  apply Int32.toInt_inj.mp
  rw [nI_toInt (by omega)]
  omega
theorem wX_ap {G : Gm} {A : Nat → Prop} {s : State} {a : AX} {σ : SX} {H : Heap} {locs : List Loc} {x y : Option Nat} (hw : wb G A s (wX G a σ) H locs) (hx : ∀ z, x = some z → z < σ.2.2.2.1.1) (hy : ∀ z, y = some z → z < σ.2.2.2.1.1) (h : x.map a.2.1 = y.map a.2.1) : x = y := by
  cases x with
  | none => cases y with
    | none => rfl
    | some b => cases h
  | some b => cases y with
    | none => cases h
    | some b' =>
      have h2 : a.2.1 b = a.2.1 b' := Option.some.inj h
      have := hw.2.2.1.1 (7 + b) (7 + b') _ _ (wX_d (hx b rfl)) (wX_d (hy b' rfl)) h2
      rw [show b = b' by omega]
def f1_rng (n k : Int32) : Int32 := if k < 0 then 0 else if n ≤ k then 0 else 1
abbrev f1_isBasin (k : Int32) : Int32 := f1_rng 10 k
abbrev f1_isGauge (k : Int32) : Int32 := f1_rng 3 k
abbrev f1_isSlot (k : Int32) : Int32 := f1_rng 20 k
abbrev f1_isLever (k : Int32) : Int32 := f1_rng 5 k
theorem zf1_rng (n k : Int32) : f1_rng n k = 0 ∨ f1_rng n k = 1 := by unfold f1_rng; split <;> (try split) <;> simp
theorem zf1_isBasin (k : Int32) : f1_isBasin k = 0 ∨ f1_isBasin k = 1 := zf1_rng _ _
theorem zf1_isGauge (k : Int32) : f1_isGauge k = 0 ∨ f1_isGauge k = 1 := zf1_rng _ _
theorem zf1_isSlot (k : Int32) : f1_isSlot k = 0 ∨ f1_isSlot k = 1 := zf1_rng _ _
theorem zf1_isLever (k : Int32) : f1_isLever k = 0 ∨ f1_isLever k = 1 := zf1_rng _ _
theorem in_rng {n : Int32} {N : Nat} (hN : n.toInt = (N : Int)) {k : Int32} (h : ¬ f1_rng n k = 0) : vp_in k N := by
  unfold f1_rng at h
  rw [vp_in_iff]
  by_cases h1 : k < 0
  · rw [if_pos h1] at h; exact absurd rfl h
  · rw [if_neg h1] at h
    by_cases h2 : n ≤ k
    · rw [if_pos h2] at h; exact absurd rfl h
    · rw [Int32.lt_iff_toInt_lt] at h1
      rw [Int32.le_iff_toInt_le, hN] at h2
      have : (0 : Int32).toInt = 0 := by decide
      omega
theorem in_B {k : Int32} (h : ¬ f1_isBasin k = 0) : vp_in k 10 := in_rng (by decide) h
theorem in_G {k : Int32} (h : ¬ f1_isGauge k = 0) : vp_in k 3 := in_rng (by decide) h
theorem in_S {k : Int32} (h : ¬ f1_isSlot k = 0) : vp_in k 20 := in_rng (by decide) h
theorem in_L {k : Int32} (h : ¬ f1_isLever k = 0) : vp_in k 5 := in_rng (by decide) h
def f1_holdsFirst (k : Int32) : Int32 := if k < 7 then 0 else if 12 < k then 0 else 1
def f1_holdsSecond (k : Int32) : Int32 := if k = 7 then 1 else if k = 8 then 1 else if ¬ k = 10 then 0 else 1
/-- whether a kind's numbers name what there is -/
def f1_namesWhatThereIs (k x y z : Int32) : Int32 :=
  if k = 0 ∨ k = 5 then 1
  else if k = 1 ∨ k = 2 ∨ k = 6 then f1_isBasin x
  else if k = 3 then (if f1_isBasin x = 0 then 0 else f1_isBasin y)
  else if k = 4 then f1_isGauge x
  else if k = 7 ∨ k = 10 then (if f1_isSlot x = 0 then 0 else f1_isSlot y)
  else if k = 8 then (if f1_isSlot x = 0 then 0 else if f1_isSlot y = 0 then 0 else f1_isBasin z)
  else if k = 9 then (if f1_isSlot x = 0 then 0 else if y < 0 then 0 else if 5 < y then 0 else 1)
  else if k = 11 ∨ k = 12 ∨ k = 14 then f1_isSlot x
  else if k = 13 then f1_isLever x
  else 0
-- states, set
abbrev sxI (σ : SX) (k : Nat) (v : Int32) : SX := (va_up σ.1 k v, σ.2)
abbrev sxF (σ : SX) (k : Nat) (f : Nat → Int32) : SX := (σ.1, va_up σ.2.1 k f, σ.2.2)
abbrev sxO (σ : SX) (k : Nat) (f : Nat → Option Nat) : SX := (σ.1, σ.2.1, va_up σ.2.2.1 k f, σ.2.2.2)
def q1_hasMark (σ : SX) (g : Option Nat) (_ : Int32) : Prop := ∀ r, g = some r → r < σ.2.2.2.2.1
def f1_hasMark (σ : SX) (g : Option Nat) (i : Int32) : Int32 × SX := (match g with
  | none => 0
  | some r => if i < 0 then 0 else if nI (σ.2.2.2.2.2 r).1 ≤ i then 0 else 1, σ)
abbrev q1_heldBy (_ : SX) (_ : Int32) : Prop := True
def f1_heldBy (σ : SX) (k : Int32) : Int32 × SX := (if f1_isBasin k = 0 then 0 else σ.2.1 0 k.toNatClampNeg, σ)
abbrev q1_pour (_ : SX) (_ _ : Int32) : Prop := True
def f1_pour (σ : SX) (k v : Int32) : SX := if f1_isBasin k = 0 then σ else sxF σ 0 (upd (σ.2.1 0) k.toNatClampNeg v)
abbrev q1_gaugeNow (_ : SX) (_ : Int32) : Prop := True
def f1_gaugeNow (σ : SX) (g : Int32) : Option Nat × SX := (if f1_isGauge g = 0 then none else σ.2.2.1 1 g.toNatClampNeg, σ)
abbrev q1_inSlot (_ : SX) (_ : Int32) : Prop := True
def f1_inSlot (σ : SX) (k : Int32) : Option Nat × SX := (if f1_isSlot k = 0 then none else σ.2.2.1 2 k.toNatClampNeg, σ)
abbrev q1_atPlace (_ : SX) (_ _ : Int32) : Prop := True
def f1_atPlace (σ : SX) (lv pl : Int32) : Option Nat × SX := (if f1_isLever lv = 0 then none else if pl < 0 then none else if 4 ≤ pl then none else σ.2.2.1 3 (lv * 4 + pl).toNatClampNeg, σ)
abbrev q1_refuse (_ : SX) (_ : Int32) : Prop := True
def f1_refuse (σ : SX) (r : Int32) : Int32 × SX := (0, sxI (sxI σ 9 0) 12 r)
abbrev q1_begin (_ : SX) : Prop := True
def f1_begin (σ : SX) : SX := sxI (sxI (sxI σ 9 0) 11 0) 12 0
abbrev q1_noteFailure (_ : SX) : Prop := True
def f1_noteFailure (σ : SX) : SX := if σ.1 11 = 0 then σ else sxI (sxI σ 10 (σ.1 10 + 1)) 12 (σ.1 11)
abbrev q1_fail (_ : SX) (_ : Int32) : Prop := True
def f1_fail (σ : SX) (r : Int32) : Int32 × SX := (0, sxI σ 11 r)
end
section
/-! a deed's constructor -/
theorem ap_get (r : va_W) (x : Nat × va_E) : (r ++ [x])[r.length]? = some x := by simp
theorem ap_set (r : va_W) (x y : Nat × va_E) : (r ++ [x]).set r.length y = r ++ [y] := by simp
theorem nr_o (C : String) (o : Option Nat) : narrow (.object C) (va_rf o) = va_rf o := by cases o <;> rfl
theorem nr_a (t : FieldType) (o : Option Nat) : narrow (.array t) (va_rf o) = va_rf o := by cases o <;> rfl
theorem ft_o (C : String) (o : Option Nat) : fits (.object C) (va_rf o) = true := by cases o <;> rfl
theorem ft_a (t : FieldType) (o : Option Nat) : fits (.array t) (va_rf o) = true := by cases o <;> rfl

set_option maxHeartbeats 4000000 in
set_option maxRecDepth 100000 in
theorem k_X0_init {l : Launch} {p : Program} {e : Env} {s : State} {m : MethodId} {below : List Frame} {meth : Method} {c : Code} {args : Array Value} {A : Nat → Prop} {G : Gm} (hF : fx p s m args meth c cX0_init 8 yX0_init.cls kX0_init none) (hn : meth.name = "<init>") (rest : va_W) (q : Nat) (k x y z : Int32) (f g h : Option Nat) {H : Heap} {locs : List Loc} {ls : Array Slot} (hw : wb G A s (rest ++ [(q, .inr (0, [.int 0, .int 0, .int 0, .int 0, .null, .null, .null, .int 0]))]) H locs) (hl : lv_has ls 8 [(0, .ref q), (1, .int k), (2, .int x), (3, .int y), (4, .int z), (5, va_rf f), (6, va_rf g), (7, va_rf h)]) :
    W p l e (rr 1 12) s m args below meth c H locs 0 0 (MQ below (va_Qv (fun _ : Unit => True) (po G A (fun _ : Unit => rest ++ [(q, .inr (0, [.int k, .int x, .int y, .int z, va_rf f, va_rf g, va_rf h, .int 0]))])) A) args s 0 0 A) (F0 m 0 ls []) := by
  refine lv_aload_n hF.x hF.b dX0_init_0 rfl (lv_at hl 0 rfl) ?_
  refine r_obj hF (Or.inr hl.1) wq_X0_1 (by decide) (by decide) dX0_init_1 ?_
  refine lv_aload_n hF.x hF.b dX0_init_4 rfl (lv_at hl 0 rfl) ?_
  refine lv_iconst (v := 0) hF.x hF.b dX0_init_5 (by decide) ?_
  refine r_put (ws' := rest ++ [(q, .inr (0, [.int 0, .int 0, .int 0, .int 0, .null, .null, .null, .int 0]))]) hF hw rest.length (ap_get _ _) rfl inlX0 tyX0 tyX0_ok nmX0 7 (by decide) wf_X0_7 rfl rfl rfl (Nat.le_of_ble_eq_true rfl) (ap_set _ _ _) dX0_init_6 (fun H locs hw => ?_)
  refine lv_aload_n hF.x hF.b dX0_init_9 rfl (lv_at hl 0 rfl) ?_
  refine lv_iload_n hF.x hF.b dX0_init_10 rfl (lv_at hl 1 rfl) ?_
  refine r_putF (ws' := rest ++ [(q, .inr (0, [.int k, .int 0, .int 0, .int 0, .null, .null, .null, .int 0]))]) hF hw hn rest.length (ap_get _ _) rfl inlX0 tyX0 tyX0_ok nmX0 0 (by decide) wf_X0_13 rfl rfl rfl rfl (Nat.le_of_ble_eq_true rfl) (ap_set _ _ _) dX0_init_11 (fun H locs hw => ?_)
  refine lv_aload_n hF.x hF.b dX0_init_14 rfl (lv_at hl 0 rfl) ?_
  refine lv_iload_n hF.x hF.b dX0_init_15 rfl (lv_at hl 2 rfl) ?_
  refine r_putF (ws' := rest ++ [(q, .inr (0, [.int k, .int x, .int 0, .int 0, .null, .null, .null, .int 0]))]) hF hw hn rest.length (ap_get _ _) rfl inlX0 tyX0 tyX0_ok nmX0 1 (by decide) wf_X0_16 rfl rfl rfl rfl (Nat.le_of_ble_eq_true rfl) (ap_set _ _ _) dX0_init_16 (fun H locs hw => ?_)
  refine lv_aload_n hF.x hF.b dX0_init_19 rfl (lv_at hl 0 rfl) ?_
  refine lv_iload_n hF.x hF.b dX0_init_20 rfl (lv_at hl 3 rfl) ?_
  refine r_putF (ws' := rest ++ [(q, .inr (0, [.int k, .int x, .int y, .int 0, .null, .null, .null, .int 0]))]) hF hw hn rest.length (ap_get _ _) rfl inlX0 tyX0 tyX0_ok nmX0 2 (by decide) wf_X0_19 rfl rfl rfl rfl (Nat.le_of_ble_eq_true rfl) (ap_set _ _ _) dX0_init_21 (fun H locs hw => ?_)
  refine lv_aload_n hF.x hF.b dX0_init_24 rfl (lv_at hl 0 rfl) ?_
  refine lv_iload hF.x hF.b dX0_init_25 (lv_at hl 4 rfl) ?_
  refine r_putF (ws' := rest ++ [(q, .inr (0, [.int k, .int x, .int y, .int z, .null, .null, .null, .int 0]))]) hF hw hn rest.length (ap_get _ _) rfl inlX0 tyX0 tyX0_ok nmX0 3 (by decide) wf_X0_22 rfl rfl rfl rfl (Nat.le_of_ble_eq_true rfl) (ap_set _ _ _) dX0_init_27 (fun H locs hw => ?_)
  refine lv_aload_n hF.x hF.b dX0_init_30 rfl (lv_at hl 0 rfl) ?_
  refine lq_aload hF dX0_init_31 (lv_at hl 5 rfl) ?_
  refine r_putF (ws' := rest ++ [(q, .inr (0, [.int k, .int x, .int y, .int z, va_rf f, .null, .null, .int 0]))]) hF hw hn rest.length (ap_get _ _) rfl inlX0 tyX0 tyX0_ok nmX0 4 (by decide) wf_X0_25 rfl rfl (nr_o _ _) (ft_o _ _) (Nat.le_of_ble_eq_true rfl) (ap_set _ _ _) dX0_init_33 (fun H locs hw => ?_)
  refine lv_aload_n hF.x hF.b dX0_init_36 rfl (lv_at hl 0 rfl) ?_
  refine lq_aload hF dX0_init_37 (lv_at hl 6 rfl) ?_
  refine r_putF (ws' := rest ++ [(q, .inr (0, [.int k, .int x, .int y, .int z, va_rf f, va_rf g, .null, .int 0]))]) hF hw hn rest.length (ap_get _ _) rfl inlX0 tyX0 tyX0_ok nmX0 5 (by decide) wf_X0_29 rfl rfl (nr_o _ _) (ft_o _ _) (Nat.le_of_ble_eq_true rfl) (ap_set _ _ _) dX0_init_39 (fun H locs hw => ?_)
  refine lv_aload_n hF.x hF.b dX0_init_42 rfl (lv_at hl 0 rfl) ?_
  refine lq_aload hF dX0_init_43 (lv_at hl 7 rfl) ?_
  refine r_putF (ws' := rest ++ [(q, .inr (0, [.int k, .int x, .int y, .int z, va_rf f, va_rf g, va_rf h, .int 0]))]) hF hw hn rest.length (ap_get _ _) rfl inlX0 tyX0 tyX0_ok nmX0 6 (by decide) wf_X0_32 rfl rfl (nr_a _ _) (ft_a _ _) (Nat.le_of_ble_eq_true rfl) (ap_set _ _ _) dX0_init_45 (fun H locs hw => ?_)
  exact rt_V (u := ()) hF hw trivial (Nat.zero_le _) (Nat.zero_le _) dX0_init_48
theorem c0_init (l : Launch) (G : Gm) (rest : va_W) (q : Nat) (k x y z : Int32) (f g h : Option Nat) : ctV l yX0_init cX0_init 8 (rr 1 12) G [.ref q, .int k, .int x, .int y, .int z, va_rf f, va_rf g, va_rf h] (rest ++ [(q, .inr (0, [.int 0, .int 0, .int 0, .int 0, .null, .null, .null, .int 0]))]) (fun _ : Unit => True) (fun _ : Unit => rest ++ [(q, .inr (0, [.int k, .int x, .int y, .int z, va_rf f, va_rf g, va_rf h, .int 0]))]) := by
  cases f <;> cases g <;> cases h <;>
  · refine en_V (by decide +kernel) (Nat.le_of_ble_eq_true rfl) (fun p e s m below meth c A ls hF hn hw hl => ?_)
    exact k_X0_init hF hn rest q k x y z _ _ _ hw hl
end
section
/-! a hall's constructor -/
def sx0 : SX := (fun _ => 0, fun _ _ => 0, fun _ _ => none, (0, fun _ => (fun _ => 0, fun _ => none)), (0, fun _ => (0, fun _ => 0)))
def ax0 (b0 b1 b2 b3 b4 b5 q : Nat) : AX := (fun k => if k = 0 then b0 else if k = 1 then b1 else if k = 2 then b2 else if k = 3 then b3 else if k = 4 then b4 else if k = 5 then b5 else q, fun _ => 0, fun _ => 0)
set_option maxHeartbeats 4000000 in
set_option maxRecDepth 100000 in
theorem c1_init (l : Launch) (G : Gm) (q : Nat) : ctV l yX1_init cX1_init 1 { frames := 1, cells := 6, slots := 77, locals := 12 } G [.ref q] [(q, .inr (1, [.null, .null, .null, .null, .null, .null, .int 0, .int 0, .int 0, .int 0, .int 0, .int 0, .int 0]))] (fun u : AX × SX => u.2 = sx0 ∧ u.1.1 13 = q) (fun u : AX × SX => wX G u.1 u.2) := by
  refine en_V (by decide +kernel) (Nat.le_of_ble_eq_true rfl) (fun p e s m below meth c A ls hF hn hw hl => ?_)
  have hl : lv_has ls 1 [(0, .ref q)] := hl
  generalize s.heap = H at hw ⊢
  generalize ([] : List Loc) = locs at hw ⊢
  refine lv_aload_n hF.x hF.b dX1_init_0 rfl (lv_at hl 0 rfl) ?_
  refine r_obj hF (Or.inr hl.1) wq_X1_1 (by decide) (by decide) dX1_init_1 ?_
  refine lv_aload_n hF.x hF.b dX1_init_4 rfl (lv_at hl 0 rfl) ?_
  refine lv_bipush (v := 10) hF.x hF.b dX1_init_5 (by decide) ?_
  refine r_newi (N := 10) hF hw (by decide) (by decide) (by decide) (by show 0 + 1 ≤ 6; decide) (by show 0 + 10 ≤ 77; decide) dX1_init_7 (fun b0 H hw => ?_)
  have hw : wb G A s [(q, .inr (1, [.null, .null, .null, .null, .null, .null, .int 0, .int 0, .int 0, .int 0, .int 0, .int 0, .int 0])), (b0, .inl (G.2.1, 10, .inl (fun _ => 0)))] H locs := hw
  refine W.widen (k := 1) (n := 10) (Nat.le_refl _) (Nat.le_refl _) ?_
  refine r_putF (ws' := [(q, .inr (1, [.ref b0, .null, .null, .null, .null, .null, .int 0, .int 0, .int 0, .int 0, .int 0, .int 0, .int 0])), (b0, .inl (G.2.1, 10, .inl (fun _ => 0)))]) hF hw hn 0 rfl rfl inlX1 tyX1 tyX1_ok nmX1 0 (by decide) wf_X1_9 rfl rfl rfl rfl (Nat.le_of_ble_eq_true rfl) rfl dX1_init_9 (fun H locs hw => ?_)
  refine lv_aload_n hF.x hF.b dX1_init_12 rfl (lv_at hl 0 rfl) ?_
  refine lv_iconst (v := 3) hF.x hF.b dX1_init_13 (by decide) ?_
  refine r_newG (N := 3) hF hw wc_X1_13 (by decide) (by decide) (by decide) (by show 1 + 1 ≤ 6; decide) (by show 10 + 3 ≤ 77; decide) dX1_init_14 (fun b1 H hw => ?_)
  have hw : wb G A s [(q, .inr (1, [.ref b0, .null, .null, .null, .null, .null, .int 0, .int 0, .int 0, .int 0, .int 0, .int 0, .int 0])), (b0, .inl (G.2.1, 10, .inl (fun _ => 0))), (b1, .inl (G.2.2.2, 3, qA (fun _ => none)))] H locs := hw
  refine W.widen (k := 2) (n := 13) (Nat.le_refl _) (Nat.le_refl _) ?_
  refine r_putF (ws' := [(q, .inr (1, [.ref b0, .ref b1, .null, .null, .null, .null, .int 0, .int 0, .int 0, .int 0, .int 0, .int 0, .int 0])), (b0, .inl (G.2.1, 10, .inl (fun _ => 0))), (b1, .inl (G.2.2.2, 3, qA (fun _ => none)))]) hF hw hn 0 rfl rfl inlX1 tyX1 tyX1_ok nmX1 1 (by decide) wf_X1_14 rfl rfl rfl rfl (Nat.le_of_ble_eq_true rfl) rfl dX1_init_17 (fun H locs hw => ?_)
  refine lv_aload_n hF.x hF.b dX1_init_20 rfl (lv_at hl 0 rfl) ?_
  refine lv_bipush (v := 20) hF.x hF.b dX1_init_21 (by decide) ?_
  refine r_newD (N := 20) hF hw wc_X1_18 (by decide) (by decide) (by decide) (by show 2 + 1 ≤ 6; decide) (by show 13 + 20 ≤ 77; decide) dX1_init_23 (fun b2 H hw => ?_)
  have hw : wb G A s [(q, .inr (1, [.ref b0, .ref b1, .null, .null, .null, .null, .int 0, .int 0, .int 0, .int 0, .int 0, .int 0, .int 0])), (b0, .inl (G.2.1, 10, .inl (fun _ => 0))), (b1, .inl (G.2.2.2, 3, qA (fun _ => none))), (b2, .inl (G.2.2.1, 20, qA (fun _ => none)))] H locs := hw
  refine W.widen (k := 3) (n := 33) (Nat.le_refl _) (Nat.le_refl _) ?_
  refine r_putF (ws' := [(q, .inr (1, [.ref b0, .ref b1, .ref b2, .null, .null, .null, .int 0, .int 0, .int 0, .int 0, .int 0, .int 0, .int 0])), (b0, .inl (G.2.1, 10, .inl (fun _ => 0))), (b1, .inl (G.2.2.2, 3, qA (fun _ => none))), (b2, .inl (G.2.2.1, 20, qA (fun _ => none)))]) hF hw hn 0 rfl rfl inlX1 tyX1 tyX1_ok nmX1 2 (by decide) wf_X1_20 rfl rfl rfl rfl (Nat.le_of_ble_eq_true rfl) rfl dX1_init_26 (fun H locs hw => ?_)
  refine lv_aload_n hF.x hF.b dX1_init_29 rfl (lv_at hl 0 rfl) ?_
  refine lv_bipush (v := 20) hF.x hF.b dX1_init_30 (by decide) ?_
  refine r_newD (N := 20) hF hw wc_X1_18 (by decide) (by decide) (by decide) (by show 3 + 1 ≤ 6; decide) (by show 33 + 20 ≤ 77; decide) dX1_init_32 (fun b3 H hw => ?_)
  have hw : wb G A s [(q, .inr (1, [.ref b0, .ref b1, .ref b2, .null, .null, .null, .int 0, .int 0, .int 0, .int 0, .int 0, .int 0, .int 0])), (b0, .inl (G.2.1, 10, .inl (fun _ => 0))), (b1, .inl (G.2.2.2, 3, qA (fun _ => none))), (b2, .inl (G.2.2.1, 20, qA (fun _ => none))), (b3, .inl (G.2.2.1, 20, qA (fun _ => none)))] H locs := hw
  refine W.widen (k := 4) (n := 53) (Nat.le_refl _) (Nat.le_refl _) ?_
  refine r_putF (ws' := [(q, .inr (1, [.ref b0, .ref b1, .ref b2, .ref b3, .null, .null, .int 0, .int 0, .int 0, .int 0, .int 0, .int 0, .int 0])), (b0, .inl (G.2.1, 10, .inl (fun _ => 0))), (b1, .inl (G.2.2.2, 3, qA (fun _ => none))), (b2, .inl (G.2.2.1, 20, qA (fun _ => none))), (b3, .inl (G.2.2.1, 20, qA (fun _ => none)))]) hF hw hn 0 rfl rfl inlX1 tyX1 tyX1_ok nmX1 3 (by decide) wf_X1_24 rfl rfl rfl rfl (Nat.le_of_ble_eq_true rfl) rfl dX1_init_35 (fun H locs hw => ?_)
  refine lv_aload_n hF.x hF.b dX1_init_38 rfl (lv_at hl 0 rfl) ?_
  refine lv_bipush (v := 12) hF.x hF.b dX1_init_39 (by decide) ?_
  refine r_newD (N := 12) hF hw wc_X1_18 (by decide) (by decide) (by decide) (by show 4 + 1 ≤ 6; decide) (by show 53 + 12 ≤ 77; decide) dX1_init_41 (fun b4 H hw => ?_)
  have hw : wb G A s [(q, .inr (1, [.ref b0, .ref b1, .ref b2, .ref b3, .null, .null, .int 0, .int 0, .int 0, .int 0, .int 0, .int 0, .int 0])), (b0, .inl (G.2.1, 10, .inl (fun _ => 0))), (b1, .inl (G.2.2.2, 3, qA (fun _ => none))), (b2, .inl (G.2.2.1, 20, qA (fun _ => none))), (b3, .inl (G.2.2.1, 20, qA (fun _ => none))), (b4, .inl (G.2.2.1, 12, qA (fun _ => none)))] H locs := hw
  refine W.widen (k := 5) (n := 65) (Nat.le_refl _) (Nat.le_refl _) ?_
  refine r_putF (ws' := [(q, .inr (1, [.ref b0, .ref b1, .ref b2, .ref b3, .ref b4, .null, .int 0, .int 0, .int 0, .int 0, .int 0, .int 0, .int 0])), (b0, .inl (G.2.1, 10, .inl (fun _ => 0))), (b1, .inl (G.2.2.2, 3, qA (fun _ => none))), (b2, .inl (G.2.2.1, 20, qA (fun _ => none))), (b3, .inl (G.2.2.1, 20, qA (fun _ => none))), (b4, .inl (G.2.2.1, 12, qA (fun _ => none)))]) hF hw hn 0 rfl rfl inlX1 tyX1 tyX1_ok nmX1 4 (by decide) wf_X1_27 rfl rfl rfl rfl (Nat.le_of_ble_eq_true rfl) rfl dX1_init_44 (fun H locs hw => ?_)
  refine lv_aload_n hF.x hF.b dX1_init_47 rfl (lv_at hl 0 rfl) ?_
  refine lv_bipush (v := 12) hF.x hF.b dX1_init_48 (by decide) ?_
  refine r_newi (N := 12) hF hw (by decide) (by decide) (by decide) (by show 5 + 1 ≤ 6; decide) (by show 65 + 12 ≤ 77; decide) dX1_init_50 (fun b5 H hw => ?_)
  have hw : wb G A s [(q, .inr (1, [.ref b0, .ref b1, .ref b2, .ref b3, .ref b4, .null, .int 0, .int 0, .int 0, .int 0, .int 0, .int 0, .int 0])), (b0, .inl (G.2.1, 10, .inl (fun _ => 0))), (b1, .inl (G.2.2.2, 3, qA (fun _ => none))), (b2, .inl (G.2.2.1, 20, qA (fun _ => none))), (b3, .inl (G.2.2.1, 20, qA (fun _ => none))), (b4, .inl (G.2.2.1, 12, qA (fun _ => none))), (b5, .inl (G.2.1, 12, .inl (fun _ => 0)))] H locs := hw
  refine W.widen (k := 6) (n := 77) (Nat.le_refl _) (Nat.le_refl _) ?_
  refine r_putF (ws' := [(q, .inr (1, [.ref b0, .ref b1, .ref b2, .ref b3, .ref b4, .ref b5, .int 0, .int 0, .int 0, .int 0, .int 0, .int 0, .int 0])), (b0, .inl (G.2.1, 10, .inl (fun _ => 0))), (b1, .inl (G.2.2.2, 3, qA (fun _ => none))), (b2, .inl (G.2.2.1, 20, qA (fun _ => none))), (b3, .inl (G.2.2.1, 20, qA (fun _ => none))), (b4, .inl (G.2.2.1, 12, qA (fun _ => none))), (b5, .inl (G.2.1, 12, .inl (fun _ => 0)))]) hF hw hn 0 rfl rfl inlX1 tyX1 tyX1_ok nmX1 5 (by decide) wf_X1_30 rfl rfl rfl rfl (Nat.le_of_ble_eq_true rfl) rfl dX1_init_52 (fun H locs hw => ?_)
  refine lv_aload_n hF.x hF.b dX1_init_55 rfl (lv_at hl 0 rfl) ?_
  refine lv_iconst (v := 0) hF.x hF.b dX1_init_56 (by decide) ?_
  refine r_put (ws' := [(q, .inr (1, [.ref b0, .ref b1, .ref b2, .ref b3, .ref b4, .ref b5, .int 0, .int 0, .int 0, .int 0, .int 0, .int 0, .int 0])), (b0, .inl (G.2.1, 10, .inl (fun _ => 0))), (b1, .inl (G.2.2.2, 3, qA (fun _ => none))), (b2, .inl (G.2.2.1, 20, qA (fun _ => none))), (b3, .inl (G.2.2.1, 20, qA (fun _ => none))), (b4, .inl (G.2.2.1, 12, qA (fun _ => none))), (b5, .inl (G.2.1, 12, .inl (fun _ => 0)))]) hF hw 0 rfl rfl inlX1 tyX1 tyX1_ok nmX1 6 (by decide) wf_X1_33 rfl rfl rfl (Nat.le_of_ble_eq_true rfl) rfl dX1_init_57 (fun H locs hw => ?_)
  refine lv_aload_n hF.x hF.b dX1_init_60 rfl (lv_at hl 0 rfl) ?_
  refine lv_iconst (v := 0) hF.x hF.b dX1_init_61 (by decide) ?_
  refine r_put (ws' := [(q, .inr (1, [.ref b0, .ref b1, .ref b2, .ref b3, .ref b4, .ref b5, .int 0, .int 0, .int 0, .int 0, .int 0, .int 0, .int 0])), (b0, .inl (G.2.1, 10, .inl (fun _ => 0))), (b1, .inl (G.2.2.2, 3, qA (fun _ => none))), (b2, .inl (G.2.2.1, 20, qA (fun _ => none))), (b3, .inl (G.2.2.1, 20, qA (fun _ => none))), (b4, .inl (G.2.2.1, 12, qA (fun _ => none))), (b5, .inl (G.2.1, 12, .inl (fun _ => 0)))]) hF hw 0 rfl rfl inlX1 tyX1 tyX1_ok nmX1 7 (by decide) wf_X1_37 rfl rfl rfl (Nat.le_of_ble_eq_true rfl) rfl dX1_init_62 (fun H locs hw => ?_)
  refine lv_aload_n hF.x hF.b dX1_init_65 rfl (lv_at hl 0 rfl) ?_
  refine lv_iconst (v := 0) hF.x hF.b dX1_init_66 (by decide) ?_
  refine r_put (ws' := [(q, .inr (1, [.ref b0, .ref b1, .ref b2, .ref b3, .ref b4, .ref b5, .int 0, .int 0, .int 0, .int 0, .int 0, .int 0, .int 0])), (b0, .inl (G.2.1, 10, .inl (fun _ => 0))), (b1, .inl (G.2.2.2, 3, qA (fun _ => none))), (b2, .inl (G.2.2.1, 20, qA (fun _ => none))), (b3, .inl (G.2.2.1, 20, qA (fun _ => none))), (b4, .inl (G.2.2.1, 12, qA (fun _ => none))), (b5, .inl (G.2.1, 12, .inl (fun _ => 0)))]) hF hw 0 rfl rfl inlX1 tyX1 tyX1_ok nmX1 8 (by decide) wf_X1_40 rfl rfl rfl (Nat.le_of_ble_eq_true rfl) rfl dX1_init_67 (fun H locs hw => ?_)
  refine lv_aload_n hF.x hF.b dX1_init_70 rfl (lv_at hl 0 rfl) ?_
  refine lv_iconst (v := 0) hF.x hF.b dX1_init_71 (by decide) ?_
  refine r_put (ws' := [(q, .inr (1, [.ref b0, .ref b1, .ref b2, .ref b3, .ref b4, .ref b5, .int 0, .int 0, .int 0, .int 0, .int 0, .int 0, .int 0])), (b0, .inl (G.2.1, 10, .inl (fun _ => 0))), (b1, .inl (G.2.2.2, 3, qA (fun _ => none))), (b2, .inl (G.2.2.1, 20, qA (fun _ => none))), (b3, .inl (G.2.2.1, 20, qA (fun _ => none))), (b4, .inl (G.2.2.1, 12, qA (fun _ => none))), (b5, .inl (G.2.1, 12, .inl (fun _ => 0)))]) hF hw 0 rfl rfl inlX1 tyX1 tyX1_ok nmX1 9 (by decide) wf_X1_43 rfl rfl rfl (Nat.le_of_ble_eq_true rfl) rfl dX1_init_72 (fun H locs hw => ?_)
  refine lv_aload_n hF.x hF.b dX1_init_75 rfl (lv_at hl 0 rfl) ?_
  refine lv_iconst (v := 0) hF.x hF.b dX1_init_76 (by decide) ?_
  refine r_put (ws' := [(q, .inr (1, [.ref b0, .ref b1, .ref b2, .ref b3, .ref b4, .ref b5, .int 0, .int 0, .int 0, .int 0, .int 0, .int 0, .int 0])), (b0, .inl (G.2.1, 10, .inl (fun _ => 0))), (b1, .inl (G.2.2.2, 3, qA (fun _ => none))), (b2, .inl (G.2.2.1, 20, qA (fun _ => none))), (b3, .inl (G.2.2.1, 20, qA (fun _ => none))), (b4, .inl (G.2.2.1, 12, qA (fun _ => none))), (b5, .inl (G.2.1, 12, .inl (fun _ => 0)))]) hF hw 0 rfl rfl inlX1 tyX1 tyX1_ok nmX1 10 (by decide) wf_X1_46 rfl rfl rfl (Nat.le_of_ble_eq_true rfl) rfl dX1_init_77 (fun H locs hw => ?_)
  refine lv_aload_n hF.x hF.b dX1_init_80 rfl (lv_at hl 0 rfl) ?_
  refine lv_iconst (v := 0) hF.x hF.b dX1_init_81 (by decide) ?_
  refine r_put (ws' := [(q, .inr (1, [.ref b0, .ref b1, .ref b2, .ref b3, .ref b4, .ref b5, .int 0, .int 0, .int 0, .int 0, .int 0, .int 0, .int 0])), (b0, .inl (G.2.1, 10, .inl (fun _ => 0))), (b1, .inl (G.2.2.2, 3, qA (fun _ => none))), (b2, .inl (G.2.2.1, 20, qA (fun _ => none))), (b3, .inl (G.2.2.1, 20, qA (fun _ => none))), (b4, .inl (G.2.2.1, 12, qA (fun _ => none))), (b5, .inl (G.2.1, 12, .inl (fun _ => 0)))]) hF hw 0 rfl rfl inlX1 tyX1 tyX1_ok nmX1 11 (by decide) wf_X1_49 rfl rfl rfl (Nat.le_of_ble_eq_true rfl) rfl dX1_init_82 (fun H locs hw => ?_)
  refine lv_aload_n hF.x hF.b dX1_init_85 rfl (lv_at hl 0 rfl) ?_
  refine lv_iconst (v := 0) hF.x hF.b dX1_init_86 (by decide) ?_
  refine r_put (ws' := [(q, .inr (1, [.ref b0, .ref b1, .ref b2, .ref b3, .ref b4, .ref b5, .int 0, .int 0, .int 0, .int 0, .int 0, .int 0, .int 0])), (b0, .inl (G.2.1, 10, .inl (fun _ => 0))), (b1, .inl (G.2.2.2, 3, qA (fun _ => none))), (b2, .inl (G.2.2.1, 20, qA (fun _ => none))), (b3, .inl (G.2.2.1, 20, qA (fun _ => none))), (b4, .inl (G.2.2.1, 12, qA (fun _ => none))), (b5, .inl (G.2.1, 12, .inl (fun _ => 0)))]) hF hw 0 rfl rfl inlX1 tyX1 tyX1_ok nmX1 12 (by decide) wf_X1_52 rfl rfl rfl (Nat.le_of_ble_eq_true rfl) rfl dX1_init_87 (fun H locs hw => ?_)
  have hw : wb G A s (wX G (ax0 b0 b1 b2 b3 b4 b5 q) sx0) H locs := hw
  exact rt_V (wf := fun u : AX × SX => wX G u.1 u.2) (u := (ax0 b0 b1 b2 b3 b4 b5 q, sx0)) hF hw ⟨rfl, rfl⟩ (Nat.le_refl _) (Nat.le_refl _) dX1_init_90
end
section
def wp_X1_isBasin_0 (v0 : Int32)  (post : Int32 → Prop) : Prop :=
  (v0 < 0 → post 0) ∧ (¬ v0 < 0 → (10 ≤ v0 → post 0) ∧ (¬ 10 ≤ v0 → post 1))
set_option maxHeartbeats 4000000 in
set_option maxRecDepth 100000 in
theorem k_X1_isBasin_0 {l : Launch} {p : Program} {e : Env} {s : State} {m : MethodId} {below : List Frame} {meth : Method} {c : Code} {args : Array Value}  (hF : fx p s m args meth c cX1_isBasin 1 yX1_isBasin.cls kX1_isBasin (some (.boolean))) {post : Int32 → Prop}  (v0 : Int32) {ls : Array Slot} (hl : lv_has ls 1 [(0, .int v0)]) (hok : wp_X1_isBasin_0 v0  post) :
    W p l e (rr 0 0) s m args below meth c s.heap [] 0 0 (MQ below (vp_Si post) args s 0 0 (fun _ => False)) (F0 m 0 ls []) := by
  unfold wp_X1_isBasin_0 at hok
  refine lv_iload_n hF.x hF.b dX1_isBasin_0 rfl (lv_at hl 0 rfl) ?_
  refine lv_if_lt (tgt := 14) hF.x hF.b dX1_isBasin_1 (by decide) (fun c1 => ?_) (fun c1 => ?_)
  · replace hok := hok.1 c1
    refine lv_iconst (v := 0) hF.x hF.b dX1_isBasin_14 (by decide) ?_
    exact rt_S hF (Or.inl rfl) hok dX1_isBasin_15
  · replace hok := hok.2 c1
    refine lv_iload_n hF.x hF.b dX1_isBasin_4 rfl (lv_at hl 0 rfl) ?_
    refine lv_bipush (v := 10) hF.x hF.b dX1_isBasin_5 (by decide) ?_
    refine lv_icmp_ge (tgt := 14) hF.x hF.b dX1_isBasin_7 (by decide) (fun c2 => ?_) (fun c2 => ?_)
    · replace hok := hok.1 c2
      refine lv_iconst (v := 0) hF.x hF.b dX1_isBasin_14 (by decide) ?_
      exact rt_S hF (Or.inl rfl) hok dX1_isBasin_15
    · replace hok := hok.2 c2
      refine lv_iconst (v := 1) hF.x hF.b dX1_isBasin_10 (by decide) ?_
      refine lv_goto (tgt := 15) hF.x hF.b dX1_isBasin_11 (by decide) ?_
      exact rt_S hF (Or.inr rfl) hok dX1_isBasin_15

theorem p1_isBasin (v0 : Int32) : wp_X1_isBasin_0 v0 (fun r => r = f1_isBasin v0) := by
  unfold wp_X1_isBasin_0 f1_isBasin f1_rng
  exact ⟨fun h => by rw [if_pos h], fun h => ⟨fun h2 => by rw [if_neg h, if_pos h2], fun h2 => by rw [if_neg h, if_neg h2]⟩⟩

theorem c1_isBasin (l : Launch) (v0 : Int32) : ctS l yX1_isBasin cX1_isBasin 1 .boolean (rr 0 0) [.int v0] (fun r => r = f1_isBasin v0) := by
  refine en_S (by decide +kernel) (Nat.le_of_ble_eq_true rfl) (fun p e s m below meth c ls hF hl => ?_)
  exact k_X1_isBasin_0 hF v0 hl (p1_isBasin v0)

def wp_X1_isGauge_0 (v0 : Int32)  (post : Int32 → Prop) : Prop :=
  (v0 < 0 → post 0) ∧ (¬ v0 < 0 → (3 ≤ v0 → post 0) ∧ (¬ 3 ≤ v0 → post 1))
set_option maxHeartbeats 4000000 in
set_option maxRecDepth 100000 in
theorem k_X1_isGauge_0 {l : Launch} {p : Program} {e : Env} {s : State} {m : MethodId} {below : List Frame} {meth : Method} {c : Code} {args : Array Value}  (hF : fx p s m args meth c cX1_isGauge 1 yX1_isGauge.cls kX1_isGauge (some (.boolean))) {post : Int32 → Prop}  (v0 : Int32) {ls : Array Slot} (hl : lv_has ls 1 [(0, .int v0)]) (hok : wp_X1_isGauge_0 v0  post) :
    W p l e (rr 0 0) s m args below meth c s.heap [] 0 0 (MQ below (vp_Si post) args s 0 0 (fun _ => False)) (F0 m 0 ls []) := by
  unfold wp_X1_isGauge_0 at hok
  refine lv_iload_n hF.x hF.b dX1_isGauge_0 rfl (lv_at hl 0 rfl) ?_
  refine lv_if_lt (tgt := 13) hF.x hF.b dX1_isGauge_1 (by decide) (fun c1 => ?_) (fun c1 => ?_)
  · replace hok := hok.1 c1
    refine lv_iconst (v := 0) hF.x hF.b dX1_isGauge_13 (by decide) ?_
    exact rt_S hF (Or.inl rfl) hok dX1_isGauge_14
  · replace hok := hok.2 c1
    refine lv_iload_n hF.x hF.b dX1_isGauge_4 rfl (lv_at hl 0 rfl) ?_
    refine lv_iconst (v := 3) hF.x hF.b dX1_isGauge_5 (by decide) ?_
    refine lv_icmp_ge (tgt := 13) hF.x hF.b dX1_isGauge_6 (by decide) (fun c2 => ?_) (fun c2 => ?_)
    · replace hok := hok.1 c2
      refine lv_iconst (v := 0) hF.x hF.b dX1_isGauge_13 (by decide) ?_
      exact rt_S hF (Or.inl rfl) hok dX1_isGauge_14
    · replace hok := hok.2 c2
      refine lv_iconst (v := 1) hF.x hF.b dX1_isGauge_9 (by decide) ?_
      refine lv_goto (tgt := 14) hF.x hF.b dX1_isGauge_10 (by decide) ?_
      exact rt_S hF (Or.inr rfl) hok dX1_isGauge_14

theorem p1_isGauge (v0 : Int32) : wp_X1_isGauge_0 v0 (fun r => r = f1_isGauge v0) := by
  unfold wp_X1_isGauge_0 f1_isGauge f1_rng
  exact ⟨fun h => by rw [if_pos h], fun h => ⟨fun h2 => by rw [if_neg h, if_pos h2], fun h2 => by rw [if_neg h, if_neg h2]⟩⟩

theorem c1_isGauge (l : Launch) (v0 : Int32) : ctS l yX1_isGauge cX1_isGauge 1 .boolean (rr 0 0) [.int v0] (fun r => r = f1_isGauge v0) := by
  refine en_S (by decide +kernel) (Nat.le_of_ble_eq_true rfl) (fun p e s m below meth c ls hF hl => ?_)
  exact k_X1_isGauge_0 hF v0 hl (p1_isGauge v0)

def wp_X1_isSlot_0 (v0 : Int32)  (post : Int32 → Prop) : Prop :=
  (v0 < 0 → post 0) ∧ (¬ v0 < 0 → (20 ≤ v0 → post 0) ∧ (¬ 20 ≤ v0 → post 1))
set_option maxHeartbeats 4000000 in
set_option maxRecDepth 100000 in
theorem k_X1_isSlot_0 {l : Launch} {p : Program} {e : Env} {s : State} {m : MethodId} {below : List Frame} {meth : Method} {c : Code} {args : Array Value}  (hF : fx p s m args meth c cX1_isSlot 1 yX1_isSlot.cls kX1_isSlot (some (.boolean))) {post : Int32 → Prop}  (v0 : Int32) {ls : Array Slot} (hl : lv_has ls 1 [(0, .int v0)]) (hok : wp_X1_isSlot_0 v0  post) :
    W p l e (rr 0 0) s m args below meth c s.heap [] 0 0 (MQ below (vp_Si post) args s 0 0 (fun _ => False)) (F0 m 0 ls []) := by
  unfold wp_X1_isSlot_0 at hok
  refine lv_iload_n hF.x hF.b dX1_isSlot_0 rfl (lv_at hl 0 rfl) ?_
  refine lv_if_lt (tgt := 14) hF.x hF.b dX1_isSlot_1 (by decide) (fun c1 => ?_) (fun c1 => ?_)
  · replace hok := hok.1 c1
    refine lv_iconst (v := 0) hF.x hF.b dX1_isSlot_14 (by decide) ?_
    exact rt_S hF (Or.inl rfl) hok dX1_isSlot_15
  · replace hok := hok.2 c1
    refine lv_iload_n hF.x hF.b dX1_isSlot_4 rfl (lv_at hl 0 rfl) ?_
    refine lv_bipush (v := 20) hF.x hF.b dX1_isSlot_5 (by decide) ?_
    refine lv_icmp_ge (tgt := 14) hF.x hF.b dX1_isSlot_7 (by decide) (fun c2 => ?_) (fun c2 => ?_)
    · replace hok := hok.1 c2
      refine lv_iconst (v := 0) hF.x hF.b dX1_isSlot_14 (by decide) ?_
      exact rt_S hF (Or.inl rfl) hok dX1_isSlot_15
    · replace hok := hok.2 c2
      refine lv_iconst (v := 1) hF.x hF.b dX1_isSlot_10 (by decide) ?_
      refine lv_goto (tgt := 15) hF.x hF.b dX1_isSlot_11 (by decide) ?_
      exact rt_S hF (Or.inr rfl) hok dX1_isSlot_15

theorem p1_isSlot (v0 : Int32) : wp_X1_isSlot_0 v0 (fun r => r = f1_isSlot v0) := by
  unfold wp_X1_isSlot_0 f1_isSlot f1_rng
  exact ⟨fun h => by rw [if_pos h], fun h => ⟨fun h2 => by rw [if_neg h, if_pos h2], fun h2 => by rw [if_neg h, if_neg h2]⟩⟩

theorem c1_isSlot (l : Launch) (v0 : Int32) : ctS l yX1_isSlot cX1_isSlot 1 .boolean (rr 0 0) [.int v0] (fun r => r = f1_isSlot v0) := by
  refine en_S (by decide +kernel) (Nat.le_of_ble_eq_true rfl) (fun p e s m below meth c ls hF hl => ?_)
  exact k_X1_isSlot_0 hF v0 hl (p1_isSlot v0)

def wp_X1_isLever_0 (v0 : Int32)  (post : Int32 → Prop) : Prop :=
  (v0 < 0 → post 0) ∧ (¬ v0 < 0 → (5 ≤ v0 → post 0) ∧ (¬ 5 ≤ v0 → post 1))
set_option maxHeartbeats 4000000 in
set_option maxRecDepth 100000 in
theorem k_X1_isLever_0 {l : Launch} {p : Program} {e : Env} {s : State} {m : MethodId} {below : List Frame} {meth : Method} {c : Code} {args : Array Value}  (hF : fx p s m args meth c cX1_isLever 1 yX1_isLever.cls kX1_isLever (some (.boolean))) {post : Int32 → Prop}  (v0 : Int32) {ls : Array Slot} (hl : lv_has ls 1 [(0, .int v0)]) (hok : wp_X1_isLever_0 v0  post) :
    W p l e (rr 0 0) s m args below meth c s.heap [] 0 0 (MQ below (vp_Si post) args s 0 0 (fun _ => False)) (F0 m 0 ls []) := by
  unfold wp_X1_isLever_0 at hok
  refine lv_iload_n hF.x hF.b dX1_isLever_0 rfl (lv_at hl 0 rfl) ?_
  refine lv_if_lt (tgt := 13) hF.x hF.b dX1_isLever_1 (by decide) (fun c1 => ?_) (fun c1 => ?_)
  · replace hok := hok.1 c1
    refine lv_iconst (v := 0) hF.x hF.b dX1_isLever_13 (by decide) ?_
    exact rt_S hF (Or.inl rfl) hok dX1_isLever_14
  · replace hok := hok.2 c1
    refine lv_iload_n hF.x hF.b dX1_isLever_4 rfl (lv_at hl 0 rfl) ?_
    refine lv_iconst (v := 5) hF.x hF.b dX1_isLever_5 (by decide) ?_
    refine lv_icmp_ge (tgt := 13) hF.x hF.b dX1_isLever_6 (by decide) (fun c2 => ?_) (fun c2 => ?_)
    · replace hok := hok.1 c2
      refine lv_iconst (v := 0) hF.x hF.b dX1_isLever_13 (by decide) ?_
      exact rt_S hF (Or.inl rfl) hok dX1_isLever_14
    · replace hok := hok.2 c2
      refine lv_iconst (v := 1) hF.x hF.b dX1_isLever_9 (by decide) ?_
      refine lv_goto (tgt := 14) hF.x hF.b dX1_isLever_10 (by decide) ?_
      exact rt_S hF (Or.inr rfl) hok dX1_isLever_14

theorem p1_isLever (v0 : Int32) : wp_X1_isLever_0 v0 (fun r => r = f1_isLever v0) := by
  unfold wp_X1_isLever_0 f1_isLever f1_rng
  exact ⟨fun h => by rw [if_pos h], fun h => ⟨fun h2 => by rw [if_neg h, if_pos h2], fun h2 => by rw [if_neg h, if_neg h2]⟩⟩

theorem c1_isLever (l : Launch) (v0 : Int32) : ctS l yX1_isLever cX1_isLever 1 .boolean (rr 0 0) [.int v0] (fun r => r = f1_isLever v0) := by
  refine en_S (by decide +kernel) (Nat.le_of_ble_eq_true rfl) (fun p e s m below meth c ls hF hl => ?_)
  exact k_X1_isLever_0 hF v0 hl (p1_isLever v0)

def wp_X1_holdsFirst_0 (v0 : Int32)  (post : Int32 → Prop) : Prop :=
  (v0 < 7 → post 0) ∧ (¬ v0 < 7 → (12 < v0 → post 0) ∧ (¬ 12 < v0 → post 1))
set_option maxHeartbeats 4000000 in
set_option maxRecDepth 100000 in
theorem k_X1_holdsFirst_0 {l : Launch} {p : Program} {e : Env} {s : State} {m : MethodId} {below : List Frame} {meth : Method} {c : Code} {args : Array Value}  (hF : fx p s m args meth c cX1_holdsFirst 1 yX1_holdsFirst.cls kX1_holdsFirst (some (.boolean))) {post : Int32 → Prop}  (v0 : Int32) {ls : Array Slot} (hl : lv_has ls 1 [(0, .int v0)]) (hok : wp_X1_holdsFirst_0 v0  post) :
    W p l e (rr 0 0) s m args below meth c s.heap [] 0 0 (MQ below (vp_Si post) args s 0 0 (fun _ => False)) (F0 m 0 ls []) := by
  unfold wp_X1_holdsFirst_0 at hok
  refine lv_iload_n hF.x hF.b dX1_holdsFirst_0 rfl (lv_at hl 0 rfl) ?_
  refine lv_bipush (v := 7) hF.x hF.b dX1_holdsFirst_1 (by decide) ?_
  refine lv_icmp_lt (tgt := 16) hF.x hF.b dX1_holdsFirst_3 (by decide) (fun c1 => ?_) (fun c1 => ?_)
  · replace hok := hok.1 c1
    refine lv_iconst (v := 0) hF.x hF.b dX1_holdsFirst_16 (by decide) ?_
    exact rt_S hF (Or.inl rfl) hok dX1_holdsFirst_17
  · replace hok := hok.2 c1
    refine lv_iload_n hF.x hF.b dX1_holdsFirst_6 rfl (lv_at hl 0 rfl) ?_
    refine lv_bipush (v := 12) hF.x hF.b dX1_holdsFirst_7 (by decide) ?_
    refine lv_icmp_gt (tgt := 16) hF.x hF.b dX1_holdsFirst_9 (by decide) (fun c2 => ?_) (fun c2 => ?_)
    · replace hok := hok.1 c2
      refine lv_iconst (v := 0) hF.x hF.b dX1_holdsFirst_16 (by decide) ?_
      exact rt_S hF (Or.inl rfl) hok dX1_holdsFirst_17
    · replace hok := hok.2 c2
      refine lv_iconst (v := 1) hF.x hF.b dX1_holdsFirst_12 (by decide) ?_
      refine lv_goto (tgt := 17) hF.x hF.b dX1_holdsFirst_13 (by decide) ?_
      exact rt_S hF (Or.inr rfl) hok dX1_holdsFirst_17

theorem p1_holdsFirst (v0 : Int32) : wp_X1_holdsFirst_0 v0 (fun r => r = f1_holdsFirst v0) := by
  unfold wp_X1_holdsFirst_0 f1_holdsFirst
  exact ⟨fun h => by rw [if_pos h], fun h => ⟨fun h2 => by rw [if_neg h, if_pos h2], fun h2 => by rw [if_neg h, if_neg h2]⟩⟩

theorem c1_holdsFirst (l : Launch) (v0 : Int32) : ctS l yX1_holdsFirst cX1_holdsFirst 1 .boolean (rr 0 0) [.int v0] (fun r => r = f1_holdsFirst v0) := by
  refine en_S (by decide +kernel) (Nat.le_of_ble_eq_true rfl) (fun p e s m below meth c ls hF hl => ?_)
  exact k_X1_holdsFirst_0 hF v0 hl (p1_holdsFirst v0)

def wp_X1_holdsSecond_0 (v0 : Int32)  (post : Int32 → Prop) : Prop :=
  (v0 = 7 → post 1) ∧ (¬ v0 = 7 → (v0 = 8 → post 1) ∧ (¬ v0 = 8 → (¬ v0 = 10 → post 0) ∧ (v0 = 10 → post 1)))
set_option maxHeartbeats 4000000 in
set_option maxRecDepth 100000 in
theorem k_X1_holdsSecond_0 {l : Launch} {p : Program} {e : Env} {s : State} {m : MethodId} {below : List Frame} {meth : Method} {c : Code} {args : Array Value}  (hF : fx p s m args meth c cX1_holdsSecond 1 yX1_holdsSecond.cls kX1_holdsSecond (some (.boolean))) {post : Int32 → Prop}  (v0 : Int32) {ls : Array Slot} (hl : lv_has ls 1 [(0, .int v0)]) (hok : wp_X1_holdsSecond_0 v0  post) :
    W p l e (rr 0 0) s m args below meth c s.heap [] 0 0 (MQ below (vp_Si post) args s 0 0 (fun _ => False)) (F0 m 0 ls []) := by
  unfold wp_X1_holdsSecond_0 at hok
  refine lv_iload_n hF.x hF.b dX1_holdsSecond_0 rfl (lv_at hl 0 rfl) ?_
  refine lv_bipush (v := 7) hF.x hF.b dX1_holdsSecond_1 (by decide) ?_
  refine lv_icmp_eq (tgt := 18) hF.x hF.b dX1_holdsSecond_3 (by decide) (fun c1 => ?_) (fun c1 => ?_)
  · replace hok := hok.1 c1
    refine lv_iconst (v := 1) hF.x hF.b dX1_holdsSecond_18 (by decide) ?_
    refine lv_goto (tgt := 23) hF.x hF.b dX1_holdsSecond_19 (by decide) ?_
    exact rt_S hF (Or.inr rfl) hok dX1_holdsSecond_23
  · replace hok := hok.2 c1
    refine lv_iload_n hF.x hF.b dX1_holdsSecond_6 rfl (lv_at hl 0 rfl) ?_
    refine lv_bipush (v := 8) hF.x hF.b dX1_holdsSecond_7 (by decide) ?_
    refine lv_icmp_eq (tgt := 18) hF.x hF.b dX1_holdsSecond_9 (by decide) (fun c2 => ?_) (fun c2 => ?_)
    · replace hok := hok.1 c2
      refine lv_iconst (v := 1) hF.x hF.b dX1_holdsSecond_18 (by decide) ?_
      refine lv_goto (tgt := 23) hF.x hF.b dX1_holdsSecond_19 (by decide) ?_
      exact rt_S hF (Or.inr rfl) hok dX1_holdsSecond_23
    · replace hok := hok.2 c2
      refine lv_iload_n hF.x hF.b dX1_holdsSecond_12 rfl (lv_at hl 0 rfl) ?_
      refine lv_bipush (v := 10) hF.x hF.b dX1_holdsSecond_13 (by decide) ?_
      refine lv_icmp_ne (tgt := 22) hF.x hF.b dX1_holdsSecond_15 (by decide) (fun c3 => ?_) (fun c3 => ?_)
      · replace hok := hok.1 c3
        refine lv_iconst (v := 0) hF.x hF.b dX1_holdsSecond_22 (by decide) ?_
        exact rt_S hF (Or.inl rfl) hok dX1_holdsSecond_23
      · replace hok := hok.2 c3
        refine lv_iconst (v := 1) hF.x hF.b dX1_holdsSecond_18 (by decide) ?_
        refine lv_goto (tgt := 23) hF.x hF.b dX1_holdsSecond_19 (by decide) ?_
        exact rt_S hF (Or.inr rfl) hok dX1_holdsSecond_23

theorem p1_holdsSecond (v0 : Int32) : wp_X1_holdsSecond_0 v0 (fun r => r = f1_holdsSecond v0) := by
  unfold wp_X1_holdsSecond_0 f1_holdsSecond
  exact ⟨fun h => by rw [if_pos h], fun h => ⟨fun h2 => by rw [if_neg h, if_pos h2], fun h2 => ⟨fun h3 => by rw [if_neg h, if_neg h2, if_pos h3], fun h3 => by rw [if_neg h, if_neg h2, if_neg (fun q => q h3)]⟩⟩⟩

theorem c1_holdsSecond (l : Launch) (v0 : Int32) : ctS l yX1_holdsSecond cX1_holdsSecond 1 .boolean (rr 0 0) [.int v0] (fun r => r = f1_holdsSecond v0) := by
  refine en_S (by decide +kernel) (Nat.le_of_ble_eq_true rfl) (fun p e s m below meth c ls hF hl => ?_)
  exact k_X1_holdsSecond_0 hF v0 hl (p1_holdsSecond v0)

def wp_X1_namesWhatThereIs_108 (v0 : Int32) (v1 : Int32) (v2 : Int32) (v3 : Int32)  (post : Int32 → Prop) : Prop :=
  ∀ r1 : Int32, r1 = f1_isSlot v1 → (r1 = 0 → post 0) ∧ (¬ r1 = 0 → ∀ r3 : Int32, r3 = f1_isSlot v2 → (r3 = 0 → post 0) ∧ (¬ r3 = 0 → post 1))
set_option maxHeartbeats 4000000 in
set_option maxRecDepth 100000 in
theorem k_X1_namesWhatThereIs_108 {l : Launch} {p : Program} {e : Env} {s : State} {m : MethodId} {below : List Frame} {meth : Method} {c : Code} {args : Array Value}  (hF : fx p s m args meth c cX1_namesWhatThereIs 4 yX1_namesWhatThereIs.cls kX1_namesWhatThereIs (some (.boolean))) {post : Int32 → Prop}  (v0 : Int32) (v1 : Int32) (v2 : Int32) (v3 : Int32) {ls : Array Slot} (hl : lv_has ls 4 [(0, .int v0), (1, .int v1), (2, .int v2), (3, .int v3)]) (hok : wp_X1_namesWhatThereIs_108 v0 v1 v2 v3  post) :
    W p l e (rr 1 20) s m args below meth c s.heap [] 0 0 (MQ below (vp_Si post) args s 0 0 (fun _ => False)) (F0 m 108 ls []) := by
  unfold wp_X1_namesWhatThereIs_108 at hok
  refine lv_iload_n hF.x hF.b dX1_namesWhatThereIs_108 rfl (lv_at hl 1 rfl) ?_
  refine ca_S hF (c1_isSlot l v1) wv_X1_75 ⟨rfl, nd_X1.1, nd_X1.2, pd_X1_isSlot⟩ ⟨rfl, rfl⟩ ⟨Nat.le_of_ble_eq_true rfl, Nat.le_of_ble_eq_true rfl⟩ ⟨Nat.zero_le _, Nat.zero_le _⟩ hl.1 rfl (by first | exact Nat.le_of_ble_eq_true rfl | simp [cat_rf, Value.category]) dX1_namesWhatThereIs_109 (fun r1 er1 => ?_)
  replace hok := hok r1 er1
  refine lv_if_eq (tgt := 126) hF.x hF.b dX1_namesWhatThereIs_112 (by decide) (fun c2 => ?_) (fun c2 => ?_)
  · replace hok := hok.1 c2
    refine lv_iconst (v := 0) hF.x hF.b dX1_namesWhatThereIs_126 (by decide) ?_
    exact rt_S hF (Or.inl rfl) hok dX1_namesWhatThereIs_127
  · replace hok := hok.2 c2
    refine lv_iload_n hF.x hF.b dX1_namesWhatThereIs_115 rfl (lv_at hl 2 rfl) ?_
    refine ca_S hF (c1_isSlot l v2) wv_X1_75 ⟨rfl, nd_X1.1, nd_X1.2, pd_X1_isSlot⟩ ⟨rfl, rfl⟩ ⟨Nat.le_of_ble_eq_true rfl, Nat.le_of_ble_eq_true rfl⟩ ⟨Nat.zero_le _, Nat.zero_le _⟩ hl.1 rfl (by first | exact Nat.le_of_ble_eq_true rfl | simp [cat_rf, Value.category]) dX1_namesWhatThereIs_116 (fun r3 er3 => ?_)
    replace hok := hok r3 er3
    refine lv_if_eq (tgt := 126) hF.x hF.b dX1_namesWhatThereIs_119 (by decide) (fun c4 => ?_) (fun c4 => ?_)
    · replace hok := hok.1 c4
      refine lv_iconst (v := 0) hF.x hF.b dX1_namesWhatThereIs_126 (by decide) ?_
      exact rt_S hF (Or.inl rfl) hok dX1_namesWhatThereIs_127
    · replace hok := hok.2 c4
      refine lv_iconst (v := 1) hF.x hF.b dX1_namesWhatThereIs_122 (by decide) ?_
      refine lv_goto (tgt := 127) hF.x hF.b dX1_namesWhatThereIs_123 (by decide) ?_
      exact rt_S hF (Or.inr rfl) hok dX1_namesWhatThereIs_127
def wp_X1_namesWhatThereIs_0 (v0 : Int32) (v1 : Int32) (v2 : Int32) (v3 : Int32)  (post : Int32 → Prop) : Prop :=
  (v0.toInt < 0 ∨ 14 < v0.toInt → post 0) ∧ (v0 = 0 → post 1) ∧ (v0 = 1 → ∀ r2 : Int32, r2 = f1_isBasin v1 → post r2) ∧ (v0 = 2 → ∀ r3 : Int32, r3 = f1_isBasin v1 → post r3) ∧ (v0 = 3 → ∀ r4 : Int32, r4 = f1_isBasin v1 → (r4 = 0 → post 0) ∧ (¬ r4 = 0 → ∀ r6 : Int32, r6 = f1_isBasin v2 → (r6 = 0 → post 0) ∧ (¬ r6 = 0 → post 1))) ∧ (v0 = 4 → ∀ r8 : Int32, r8 = f1_isGauge v1 → post r8) ∧ (v0 = 5 → post 1) ∧ (v0 = 6 → ∀ r9 : Int32, r9 = f1_isBasin v1 → post r9) ∧ (v0 = 7 → wp_X1_namesWhatThereIs_108 v0 v1 v2 v3  post) ∧ (v0 = 8 → ∀ r10 : Int32, r10 = f1_isSlot v1 → (r10 = 0 → post 0) ∧ (¬ r10 = 0 → ∀ r12 : Int32, r12 = f1_isSlot v2 → (r12 = 0 → post 0) ∧ (¬ r12 = 0 → ∀ r14 : Int32, r14 = f1_isBasin v3 → (r14 = 0 → post 0) ∧ (¬ r14 = 0 → post 1)))) ∧ (v0 = 9 → ∀ r16 : Int32, r16 = f1_isSlot v1 → (r16 = 0 → post 0) ∧ (¬ r16 = 0 → (v2 < 0 → post 0) ∧ (¬ v2 < 0 → (5 < v2 → post 0) ∧ (¬ 5 < v2 → post 1)))) ∧ (v0 = 10 → wp_X1_namesWhatThereIs_108 v0 v1 v2 v3  post) ∧ (v0 = 11 → ∀ r20 : Int32, r20 = f1_isSlot v1 → post r20) ∧ (v0 = 12 → ∀ r21 : Int32, r21 = f1_isSlot v1 → post r21) ∧ (v0 = 13 → ∀ r22 : Int32, r22 = f1_isLever v1 → post r22) ∧ (v0 = 14 → ∀ r23 : Int32, r23 = f1_isSlot v1 → post r23)
set_option maxHeartbeats 4000000 in
set_option maxRecDepth 100000 in
theorem k_X1_namesWhatThereIs_0 {l : Launch} {p : Program} {e : Env} {s : State} {m : MethodId} {below : List Frame} {meth : Method} {c : Code} {args : Array Value}  (hF : fx p s m args meth c cX1_namesWhatThereIs 4 yX1_namesWhatThereIs.cls kX1_namesWhatThereIs (some (.boolean))) {post : Int32 → Prop}  (v0 : Int32) (v1 : Int32) (v2 : Int32) (v3 : Int32) {ls : Array Slot} (hl : lv_has ls 4 [(0, .int v0), (1, .int v1), (2, .int v2), (3, .int v3)]) (hok : wp_X1_namesWhatThereIs_0 v0 v1 v2 v3  post) :
    W p l e (rr 1 20) s m args below meth c s.heap [] 0 0 (MQ below (vp_Si post) args s 0 0 (fun _ => False)) (F0 m 0 ls []) := by
  unfold wp_X1_namesWhatThereIs_0 at hok
  refine lv_iload_n hF.x hF.b dX1_namesWhatThereIs_0 rfl (lv_at hl 0 rfl) ?_
  by_cases c1 : v0.toInt < 0 ∨ 14 < v0.toInt
  · replace hok := hok.1 c1
    refine lv_tableOut (tgt := 187) hF.x hF.b dX1_namesWhatThereIs_1 c1 (by decide) ?_
    refine lv_iconst (v := 0) hF.x hF.b dX1_namesWhatThereIs_187 (by decide) ?_
    exact rt_S hF (Or.inl rfl) hok dX1_namesWhatThereIs_188
  · obtain ⟨j, hj1, hj2, ex⟩ := sw_in (lo := 0) (hi := 14) c1 (by decide)
    rcases (show j = 0 ∨ j = 1 ∨ j = 2 ∨ j = 3 ∨ j = 4 ∨ j = 5 ∨ j = 6 ∨ j = 7 ∨ j = 8 ∨ j = 9 ∨ j = 10 ∨ j = 11 ∨ j = 12 ∨ j = 13 ∨ j = 14 by omega) with rfl | rfl | rfl | rfl | rfl | rfl | rfl | rfl | rfl | rfl | rfl | rfl | rfl | rfl | rfl
    · replace hok := hok.2.1 ex
      refine lv_tableIn (off := 75) (tgt := 76) hF.x hF.b dX1_namesWhatThereIs_1 (by rw [ex]; decide) (by rw [ex]; decide) (by rw [ex]; rfl) (by decide) ?_
      refine lv_iconst (v := 1) hF.x hF.b dX1_namesWhatThereIs_76 (by decide) ?_
      exact rt_S hF (Or.inr rfl) hok dX1_namesWhatThereIs_77
    · replace hok := hok.2.2.1 ex
      refine lv_tableIn (off := 77) (tgt := 78) hF.x hF.b dX1_namesWhatThereIs_1 (by rw [ex]; decide) (by rw [ex]; decide) (by rw [ex]; rfl) (by decide) ?_
      refine lv_iload_n hF.x hF.b dX1_namesWhatThereIs_78 rfl (lv_at hl 1 rfl) ?_
      refine ca_S hF (c1_isBasin l v1) wv_X1_134 ⟨rfl, nd_X1.1, nd_X1.2, pd_X1_isBasin⟩ ⟨rfl, rfl⟩ ⟨Nat.le_of_ble_eq_true rfl, Nat.le_of_ble_eq_true rfl⟩ ⟨Nat.zero_le _, Nat.zero_le _⟩ hl.1 rfl (by first | exact Nat.le_of_ble_eq_true rfl | simp [cat_rf, Value.category]) dX1_namesWhatThereIs_79 (fun r2 er2 => ?_)
      replace hok := hok r2 er2
      exact rt_S hF (by rw [er2]; apply zf1_isBasin) hok dX1_namesWhatThereIs_82
    · replace hok := hok.2.2.2.1 ex
      refine lv_tableIn (off := 77) (tgt := 78) hF.x hF.b dX1_namesWhatThereIs_1 (by rw [ex]; decide) (by rw [ex]; decide) (by rw [ex]; rfl) (by decide) ?_
      refine lv_iload_n hF.x hF.b dX1_namesWhatThereIs_78 rfl (lv_at hl 1 rfl) ?_
      refine ca_S hF (c1_isBasin l v1) wv_X1_134 ⟨rfl, nd_X1.1, nd_X1.2, pd_X1_isBasin⟩ ⟨rfl, rfl⟩ ⟨Nat.le_of_ble_eq_true rfl, Nat.le_of_ble_eq_true rfl⟩ ⟨Nat.zero_le _, Nat.zero_le _⟩ hl.1 rfl (by first | exact Nat.le_of_ble_eq_true rfl | simp [cat_rf, Value.category]) dX1_namesWhatThereIs_79 (fun r3 er3 => ?_)
      replace hok := hok r3 er3
      exact rt_S hF (by rw [er3]; apply zf1_isBasin) hok dX1_namesWhatThereIs_82
    · replace hok := hok.2.2.2.2.1 ex
      refine lv_tableIn (off := 82) (tgt := 83) hF.x hF.b dX1_namesWhatThereIs_1 (by rw [ex]; decide) (by rw [ex]; decide) (by rw [ex]; rfl) (by decide) ?_
      refine lv_iload_n hF.x hF.b dX1_namesWhatThereIs_83 rfl (lv_at hl 1 rfl) ?_
      refine ca_S hF (c1_isBasin l v1) wv_X1_134 ⟨rfl, nd_X1.1, nd_X1.2, pd_X1_isBasin⟩ ⟨rfl, rfl⟩ ⟨Nat.le_of_ble_eq_true rfl, Nat.le_of_ble_eq_true rfl⟩ ⟨Nat.zero_le _, Nat.zero_le _⟩ hl.1 rfl (by first | exact Nat.le_of_ble_eq_true rfl | simp [cat_rf, Value.category]) dX1_namesWhatThereIs_84 (fun r4 er4 => ?_)
      replace hok := hok r4 er4
      refine lv_if_eq (tgt := 101) hF.x hF.b dX1_namesWhatThereIs_87 (by decide) (fun c5 => ?_) (fun c5 => ?_)
      · replace hok := hok.1 c5
        refine lv_iconst (v := 0) hF.x hF.b dX1_namesWhatThereIs_101 (by decide) ?_
        exact rt_S hF (Or.inl rfl) hok dX1_namesWhatThereIs_102
      · replace hok := hok.2 c5
        refine lv_iload_n hF.x hF.b dX1_namesWhatThereIs_90 rfl (lv_at hl 2 rfl) ?_
        refine ca_S hF (c1_isBasin l v2) wv_X1_134 ⟨rfl, nd_X1.1, nd_X1.2, pd_X1_isBasin⟩ ⟨rfl, rfl⟩ ⟨Nat.le_of_ble_eq_true rfl, Nat.le_of_ble_eq_true rfl⟩ ⟨Nat.zero_le _, Nat.zero_le _⟩ hl.1 rfl (by first | exact Nat.le_of_ble_eq_true rfl | simp [cat_rf, Value.category]) dX1_namesWhatThereIs_91 (fun r6 er6 => ?_)
        replace hok := hok r6 er6
        refine lv_if_eq (tgt := 101) hF.x hF.b dX1_namesWhatThereIs_94 (by decide) (fun c7 => ?_) (fun c7 => ?_)
        · replace hok := hok.1 c7
          refine lv_iconst (v := 0) hF.x hF.b dX1_namesWhatThereIs_101 (by decide) ?_
          exact rt_S hF (Or.inl rfl) hok dX1_namesWhatThereIs_102
        · replace hok := hok.2 c7
          refine lv_iconst (v := 1) hF.x hF.b dX1_namesWhatThereIs_97 (by decide) ?_
          refine lv_goto (tgt := 102) hF.x hF.b dX1_namesWhatThereIs_98 (by decide) ?_
          exact rt_S hF (Or.inr rfl) hok dX1_namesWhatThereIs_102
    · replace hok := hok.2.2.2.2.2.1 ex
      refine lv_tableIn (off := 102) (tgt := 103) hF.x hF.b dX1_namesWhatThereIs_1 (by rw [ex]; decide) (by rw [ex]; decide) (by rw [ex]; rfl) (by decide) ?_
      refine lv_iload_n hF.x hF.b dX1_namesWhatThereIs_103 rfl (lv_at hl 1 rfl) ?_
      refine ca_S hF (c1_isGauge l v1) wv_X1_63 ⟨rfl, nd_X1.1, nd_X1.2, pd_X1_isGauge⟩ ⟨rfl, rfl⟩ ⟨Nat.le_of_ble_eq_true rfl, Nat.le_of_ble_eq_true rfl⟩ ⟨Nat.zero_le _, Nat.zero_le _⟩ hl.1 rfl (by first | exact Nat.le_of_ble_eq_true rfl | simp [cat_rf, Value.category]) dX1_namesWhatThereIs_104 (fun r8 er8 => ?_)
      replace hok := hok r8 er8
      exact rt_S hF (by rw [er8]; apply zf1_isGauge) hok dX1_namesWhatThereIs_107
    · replace hok := hok.2.2.2.2.2.2.1 ex
      refine lv_tableIn (off := 75) (tgt := 76) hF.x hF.b dX1_namesWhatThereIs_1 (by rw [ex]; decide) (by rw [ex]; decide) (by rw [ex]; rfl) (by decide) ?_
      refine lv_iconst (v := 1) hF.x hF.b dX1_namesWhatThereIs_76 (by decide) ?_
      exact rt_S hF (Or.inr rfl) hok dX1_namesWhatThereIs_77
    · replace hok := hok.2.2.2.2.2.2.2.1 ex
      refine lv_tableIn (off := 77) (tgt := 78) hF.x hF.b dX1_namesWhatThereIs_1 (by rw [ex]; decide) (by rw [ex]; decide) (by rw [ex]; rfl) (by decide) ?_
      refine lv_iload_n hF.x hF.b dX1_namesWhatThereIs_78 rfl (lv_at hl 1 rfl) ?_
      refine ca_S hF (c1_isBasin l v1) wv_X1_134 ⟨rfl, nd_X1.1, nd_X1.2, pd_X1_isBasin⟩ ⟨rfl, rfl⟩ ⟨Nat.le_of_ble_eq_true rfl, Nat.le_of_ble_eq_true rfl⟩ ⟨Nat.zero_le _, Nat.zero_le _⟩ hl.1 rfl (by first | exact Nat.le_of_ble_eq_true rfl | simp [cat_rf, Value.category]) dX1_namesWhatThereIs_79 (fun r9 er9 => ?_)
      replace hok := hok r9 er9
      exact rt_S hF (by rw [er9]; apply zf1_isBasin) hok dX1_namesWhatThereIs_82
    · replace hok := hok.2.2.2.2.2.2.2.2.1 ex
      refine lv_tableIn (off := 107) (tgt := 108) hF.x hF.b dX1_namesWhatThereIs_1 (by rw [ex]; decide) (by rw [ex]; decide) (by rw [ex]; rfl) (by decide) ?_
      exact k_X1_namesWhatThereIs_108  hF  v0 v1 v2 v3 (lv_sub hl [0, 1, 2, 3] rfl) hok
    · replace hok := hok.2.2.2.2.2.2.2.2.2.1 ex
      refine lv_tableIn (off := 127) (tgt := 128) hF.x hF.b dX1_namesWhatThereIs_1 (by rw [ex]; decide) (by rw [ex]; decide) (by rw [ex]; rfl) (by decide) ?_
      refine lv_iload_n hF.x hF.b dX1_namesWhatThereIs_128 rfl (lv_at hl 1 rfl) ?_
      refine ca_S hF (c1_isSlot l v1) wv_X1_75 ⟨rfl, nd_X1.1, nd_X1.2, pd_X1_isSlot⟩ ⟨rfl, rfl⟩ ⟨Nat.le_of_ble_eq_true rfl, Nat.le_of_ble_eq_true rfl⟩ ⟨Nat.zero_le _, Nat.zero_le _⟩ hl.1 rfl (by first | exact Nat.le_of_ble_eq_true rfl | simp [cat_rf, Value.category]) dX1_namesWhatThereIs_129 (fun r10 er10 => ?_)
      replace hok := hok r10 er10
      refine lv_if_eq (tgt := 153) hF.x hF.b dX1_namesWhatThereIs_132 (by decide) (fun c11 => ?_) (fun c11 => ?_)
      · replace hok := hok.1 c11
        refine lv_iconst (v := 0) hF.x hF.b dX1_namesWhatThereIs_153 (by decide) ?_
        exact rt_S hF (Or.inl rfl) hok dX1_namesWhatThereIs_154
      · replace hok := hok.2 c11
        refine lv_iload_n hF.x hF.b dX1_namesWhatThereIs_135 rfl (lv_at hl 2 rfl) ?_
        refine ca_S hF (c1_isSlot l v2) wv_X1_75 ⟨rfl, nd_X1.1, nd_X1.2, pd_X1_isSlot⟩ ⟨rfl, rfl⟩ ⟨Nat.le_of_ble_eq_true rfl, Nat.le_of_ble_eq_true rfl⟩ ⟨Nat.zero_le _, Nat.zero_le _⟩ hl.1 rfl (by first | exact Nat.le_of_ble_eq_true rfl | simp [cat_rf, Value.category]) dX1_namesWhatThereIs_136 (fun r12 er12 => ?_)
        replace hok := hok r12 er12
        refine lv_if_eq (tgt := 153) hF.x hF.b dX1_namesWhatThereIs_139 (by decide) (fun c13 => ?_) (fun c13 => ?_)
        · replace hok := hok.1 c13
          refine lv_iconst (v := 0) hF.x hF.b dX1_namesWhatThereIs_153 (by decide) ?_
          exact rt_S hF (Or.inl rfl) hok dX1_namesWhatThereIs_154
        · replace hok := hok.2 c13
          refine lv_iload_n hF.x hF.b dX1_namesWhatThereIs_142 rfl (lv_at hl 3 rfl) ?_
          refine ca_S hF (c1_isBasin l v3) wv_X1_134 ⟨rfl, nd_X1.1, nd_X1.2, pd_X1_isBasin⟩ ⟨rfl, rfl⟩ ⟨Nat.le_of_ble_eq_true rfl, Nat.le_of_ble_eq_true rfl⟩ ⟨Nat.zero_le _, Nat.zero_le _⟩ hl.1 rfl (by first | exact Nat.le_of_ble_eq_true rfl | simp [cat_rf, Value.category]) dX1_namesWhatThereIs_143 (fun r14 er14 => ?_)
          replace hok := hok r14 er14
          refine lv_if_eq (tgt := 153) hF.x hF.b dX1_namesWhatThereIs_146 (by decide) (fun c15 => ?_) (fun c15 => ?_)
          · replace hok := hok.1 c15
            refine lv_iconst (v := 0) hF.x hF.b dX1_namesWhatThereIs_153 (by decide) ?_
            exact rt_S hF (Or.inl rfl) hok dX1_namesWhatThereIs_154
          · replace hok := hok.2 c15
            refine lv_iconst (v := 1) hF.x hF.b dX1_namesWhatThereIs_149 (by decide) ?_
            refine lv_goto (tgt := 154) hF.x hF.b dX1_namesWhatThereIs_150 (by decide) ?_
            exact rt_S hF (Or.inr rfl) hok dX1_namesWhatThereIs_154
    · replace hok := hok.2.2.2.2.2.2.2.2.2.2.1 ex
      refine lv_tableIn (off := 154) (tgt := 155) hF.x hF.b dX1_namesWhatThereIs_1 (by rw [ex]; decide) (by rw [ex]; decide) (by rw [ex]; rfl) (by decide) ?_
      refine lv_iload_n hF.x hF.b dX1_namesWhatThereIs_155 rfl (lv_at hl 1 rfl) ?_
      refine ca_S hF (c1_isSlot l v1) wv_X1_75 ⟨rfl, nd_X1.1, nd_X1.2, pd_X1_isSlot⟩ ⟨rfl, rfl⟩ ⟨Nat.le_of_ble_eq_true rfl, Nat.le_of_ble_eq_true rfl⟩ ⟨Nat.zero_le _, Nat.zero_le _⟩ hl.1 rfl (by first | exact Nat.le_of_ble_eq_true rfl | simp [cat_rf, Value.category]) dX1_namesWhatThereIs_156 (fun r16 er16 => ?_)
      replace hok := hok r16 er16
      refine lv_if_eq (tgt := 175) hF.x hF.b dX1_namesWhatThereIs_159 (by decide) (fun c17 => ?_) (fun c17 => ?_)
      · replace hok := hok.1 c17
        refine lv_iconst (v := 0) hF.x hF.b dX1_namesWhatThereIs_175 (by decide) ?_
        exact rt_S hF (Or.inl rfl) hok dX1_namesWhatThereIs_176
      · replace hok := hok.2 c17
        refine lv_iload_n hF.x hF.b dX1_namesWhatThereIs_162 rfl (lv_at hl 2 rfl) ?_
        refine lv_if_lt (tgt := 175) hF.x hF.b dX1_namesWhatThereIs_163 (by decide) (fun c18 => ?_) (fun c18 => ?_)
        · replace hok := hok.1 c18
          refine lv_iconst (v := 0) hF.x hF.b dX1_namesWhatThereIs_175 (by decide) ?_
          exact rt_S hF (Or.inl rfl) hok dX1_namesWhatThereIs_176
        · replace hok := hok.2 c18
          refine lv_iload_n hF.x hF.b dX1_namesWhatThereIs_166 rfl (lv_at hl 2 rfl) ?_
          refine lv_iconst (v := 5) hF.x hF.b dX1_namesWhatThereIs_167 (by decide) ?_
          refine lv_icmp_gt (tgt := 175) hF.x hF.b dX1_namesWhatThereIs_168 (by decide) (fun c19 => ?_) (fun c19 => ?_)
          · replace hok := hok.1 c19
            refine lv_iconst (v := 0) hF.x hF.b dX1_namesWhatThereIs_175 (by decide) ?_
            exact rt_S hF (Or.inl rfl) hok dX1_namesWhatThereIs_176
          · replace hok := hok.2 c19
            refine lv_iconst (v := 1) hF.x hF.b dX1_namesWhatThereIs_171 (by decide) ?_
            refine lv_goto (tgt := 176) hF.x hF.b dX1_namesWhatThereIs_172 (by decide) ?_
            exact rt_S hF (Or.inr rfl) hok dX1_namesWhatThereIs_176
    · replace hok := hok.2.2.2.2.2.2.2.2.2.2.2.1 ex
      refine lv_tableIn (off := 107) (tgt := 108) hF.x hF.b dX1_namesWhatThereIs_1 (by rw [ex]; decide) (by rw [ex]; decide) (by rw [ex]; rfl) (by decide) ?_
      exact k_X1_namesWhatThereIs_108  hF  v0 v1 v2 v3 (lv_sub hl [0, 1, 2, 3] rfl) hok
    · replace hok := hok.2.2.2.2.2.2.2.2.2.2.2.2.1 ex
      refine lv_tableIn (off := 176) (tgt := 177) hF.x hF.b dX1_namesWhatThereIs_1 (by rw [ex]; decide) (by rw [ex]; decide) (by rw [ex]; rfl) (by decide) ?_
      refine lv_iload_n hF.x hF.b dX1_namesWhatThereIs_177 rfl (lv_at hl 1 rfl) ?_
      refine ca_S hF (c1_isSlot l v1) wv_X1_75 ⟨rfl, nd_X1.1, nd_X1.2, pd_X1_isSlot⟩ ⟨rfl, rfl⟩ ⟨Nat.le_of_ble_eq_true rfl, Nat.le_of_ble_eq_true rfl⟩ ⟨Nat.zero_le _, Nat.zero_le _⟩ hl.1 rfl (by first | exact Nat.le_of_ble_eq_true rfl | simp [cat_rf, Value.category]) dX1_namesWhatThereIs_178 (fun r20 er20 => ?_)
      replace hok := hok r20 er20
      exact rt_S hF (by rw [er20]; apply zf1_isSlot) hok dX1_namesWhatThereIs_181
    · replace hok := hok.2.2.2.2.2.2.2.2.2.2.2.2.2.1 ex
      refine lv_tableIn (off := 176) (tgt := 177) hF.x hF.b dX1_namesWhatThereIs_1 (by rw [ex]; decide) (by rw [ex]; decide) (by rw [ex]; rfl) (by decide) ?_
      refine lv_iload_n hF.x hF.b dX1_namesWhatThereIs_177 rfl (lv_at hl 1 rfl) ?_
      refine ca_S hF (c1_isSlot l v1) wv_X1_75 ⟨rfl, nd_X1.1, nd_X1.2, pd_X1_isSlot⟩ ⟨rfl, rfl⟩ ⟨Nat.le_of_ble_eq_true rfl, Nat.le_of_ble_eq_true rfl⟩ ⟨Nat.zero_le _, Nat.zero_le _⟩ hl.1 rfl (by first | exact Nat.le_of_ble_eq_true rfl | simp [cat_rf, Value.category]) dX1_namesWhatThereIs_178 (fun r21 er21 => ?_)
      replace hok := hok r21 er21
      exact rt_S hF (by rw [er21]; apply zf1_isSlot) hok dX1_namesWhatThereIs_181
    · replace hok := hok.2.2.2.2.2.2.2.2.2.2.2.2.2.2.1 ex
      refine lv_tableIn (off := 181) (tgt := 182) hF.x hF.b dX1_namesWhatThereIs_1 (by rw [ex]; decide) (by rw [ex]; decide) (by rw [ex]; rfl) (by decide) ?_
      refine lv_iload_n hF.x hF.b dX1_namesWhatThereIs_182 rfl (lv_at hl 1 rfl) ?_
      refine ca_S hF (c1_isLever l v1) wv_X1_95 ⟨rfl, nd_X1.1, nd_X1.2, pd_X1_isLever⟩ ⟨rfl, rfl⟩ ⟨Nat.le_of_ble_eq_true rfl, Nat.le_of_ble_eq_true rfl⟩ ⟨Nat.zero_le _, Nat.zero_le _⟩ hl.1 rfl (by first | exact Nat.le_of_ble_eq_true rfl | simp [cat_rf, Value.category]) dX1_namesWhatThereIs_183 (fun r22 er22 => ?_)
      replace hok := hok r22 er22
      exact rt_S hF (by rw [er22]; apply zf1_isLever) hok dX1_namesWhatThereIs_186
    · replace hok := hok.2.2.2.2.2.2.2.2.2.2.2.2.2.2.2 ex
      refine lv_tableIn (off := 176) (tgt := 177) hF.x hF.b dX1_namesWhatThereIs_1 (by rw [ex]; decide) (by rw [ex]; decide) (by rw [ex]; rfl) (by decide) ?_
      refine lv_iload_n hF.x hF.b dX1_namesWhatThereIs_177 rfl (lv_at hl 1 rfl) ?_
      refine ca_S hF (c1_isSlot l v1) wv_X1_75 ⟨rfl, nd_X1.1, nd_X1.2, pd_X1_isSlot⟩ ⟨rfl, rfl⟩ ⟨Nat.le_of_ble_eq_true rfl, Nat.le_of_ble_eq_true rfl⟩ ⟨Nat.zero_le _, Nat.zero_le _⟩ hl.1 rfl (by first | exact Nat.le_of_ble_eq_true rfl | simp [cat_rf, Value.category]) dX1_namesWhatThereIs_178 (fun r23 er23 => ?_)
      replace hok := hok r23 er23
      exact rt_S hF (by rw [er23]; apply zf1_isSlot) hok dX1_namesWhatThereIs_181

theorem nm_0 (v1 v2 v3 : Int32) : f1_namesWhatThereIs 0 v1 v2 v3 = 1 := by
  unfold f1_namesWhatThereIs
  rw [if_pos (by decide)]
theorem nm_1 (v1 v2 v3 : Int32) : f1_namesWhatThereIs 1 v1 v2 v3 = f1_isBasin v1 := by
  unfold f1_namesWhatThereIs
  rw [if_neg (by decide), if_pos (by decide)]
theorem nm_2 (v1 v2 v3 : Int32) : f1_namesWhatThereIs 2 v1 v2 v3 = f1_isBasin v1 := by
  unfold f1_namesWhatThereIs
  rw [if_neg (by decide), if_pos (by decide)]
theorem nm_3 (v1 v2 v3 : Int32) : f1_namesWhatThereIs 3 v1 v2 v3 = (if f1_isBasin v1 = 0 then 0 else f1_isBasin v2) := by
  unfold f1_namesWhatThereIs
  rw [if_neg (by decide), if_neg (by decide), if_pos (by decide)]
theorem nm_4 (v1 v2 v3 : Int32) : f1_namesWhatThereIs 4 v1 v2 v3 = f1_isGauge v1 := by
  unfold f1_namesWhatThereIs
  rw [if_neg (by decide), if_neg (by decide), if_neg (by decide), if_pos (by decide)]
theorem nm_5 (v1 v2 v3 : Int32) : f1_namesWhatThereIs 5 v1 v2 v3 = 1 := by
  unfold f1_namesWhatThereIs
  rw [if_pos (by decide)]
theorem nm_6 (v1 v2 v3 : Int32) : f1_namesWhatThereIs 6 v1 v2 v3 = f1_isBasin v1 := by
  unfold f1_namesWhatThereIs
  rw [if_neg (by decide), if_pos (by decide)]
theorem nm_7 (v1 v2 v3 : Int32) : f1_namesWhatThereIs 7 v1 v2 v3 = (if f1_isSlot v1 = 0 then 0 else f1_isSlot v2) := by
  unfold f1_namesWhatThereIs
  rw [if_neg (by decide), if_neg (by decide), if_neg (by decide), if_neg (by decide), if_pos (by decide)]
theorem nm_8 (v1 v2 v3 : Int32) : f1_namesWhatThereIs 8 v1 v2 v3 = (if f1_isSlot v1 = 0 then 0 else if f1_isSlot v2 = 0 then 0 else f1_isBasin v3) := by
  unfold f1_namesWhatThereIs
  rw [if_neg (by decide), if_neg (by decide), if_neg (by decide), if_neg (by decide), if_neg (by decide), if_pos (by decide)]
theorem nm_9 (v1 v2 v3 : Int32) : f1_namesWhatThereIs 9 v1 v2 v3 = (if f1_isSlot v1 = 0 then 0 else if v2 < 0 then 0 else if 5 < v2 then 0 else 1) := by
  unfold f1_namesWhatThereIs
  rw [if_neg (by decide), if_neg (by decide), if_neg (by decide), if_neg (by decide), if_neg (by decide), if_neg (by decide), if_pos (by decide)]
theorem nm_10 (v1 v2 v3 : Int32) : f1_namesWhatThereIs 10 v1 v2 v3 = (if f1_isSlot v1 = 0 then 0 else f1_isSlot v2) := by
  unfold f1_namesWhatThereIs
  rw [if_neg (by decide), if_neg (by decide), if_neg (by decide), if_neg (by decide), if_pos (by decide)]
theorem nm_11 (v1 v2 v3 : Int32) : f1_namesWhatThereIs 11 v1 v2 v3 = f1_isSlot v1 := by
  unfold f1_namesWhatThereIs
  rw [if_neg (by decide), if_neg (by decide), if_neg (by decide), if_neg (by decide), if_neg (by decide), if_neg (by decide), if_neg (by decide), if_pos (by decide)]
theorem nm_12 (v1 v2 v3 : Int32) : f1_namesWhatThereIs 12 v1 v2 v3 = f1_isSlot v1 := by
  unfold f1_namesWhatThereIs
  rw [if_neg (by decide), if_neg (by decide), if_neg (by decide), if_neg (by decide), if_neg (by decide), if_neg (by decide), if_neg (by decide), if_pos (by decide)]
theorem nm_13 (v1 v2 v3 : Int32) : f1_namesWhatThereIs 13 v1 v2 v3 = f1_isLever v1 := by
  unfold f1_namesWhatThereIs
  rw [if_neg (by decide), if_neg (by decide), if_neg (by decide), if_neg (by decide), if_neg (by decide), if_neg (by decide), if_neg (by decide), if_neg (by decide), if_pos (by decide)]
theorem nm_14 (v1 v2 v3 : Int32) : f1_namesWhatThereIs 14 v1 v2 v3 = f1_isSlot v1 := by
  unfold f1_namesWhatThereIs
  rw [if_neg (by decide), if_neg (by decide), if_neg (by decide), if_neg (by decide), if_neg (by decide), if_neg (by decide), if_neg (by decide), if_pos (by decide)]
theorem p1_names_108 (v0 v1 v2 v3 : Int32) (post : Int32 → Prop) (h : post (if f1_isSlot v1 = 0 then 0 else f1_isSlot v2)) : wp_X1_namesWhatThereIs_108 v0 v1 v2 v3 post := by
  intro r e; subst e
  refine ⟨fun h1 => by rw [if_pos h1] at h; exact h, fun h1 r2 e2 => ?_⟩
  subst e2
  rw [if_neg h1] at h
  exact ⟨fun h2 => by rw [h2] at h; exact h, fun h2 => by rw [(zf1_isSlot v2).resolve_left h2] at h; exact h⟩
theorem p1_namesWhatThereIs (v0 v1 v2 v3 : Int32) : wp_X1_namesWhatThereIs_0 v0 v1 v2 v3 (fun r => r = f1_namesWhatThereIs v0 v1 v2 v3) := ⟨
  fun h => by
    have h0 : ¬ v0 = 0 := fun e => by rw [e] at h; revert h; decide
    have h1 : ¬ v0 = 1 := fun e => by rw [e] at h; revert h; decide
    have h2 : ¬ v0 = 2 := fun e => by rw [e] at h; revert h; decide
    have h3 : ¬ v0 = 3 := fun e => by rw [e] at h; revert h; decide
    have h4 : ¬ v0 = 4 := fun e => by rw [e] at h; revert h; decide
    have h5 : ¬ v0 = 5 := fun e => by rw [e] at h; revert h; decide
    have h6 : ¬ v0 = 6 := fun e => by rw [e] at h; revert h; decide
    have h7 : ¬ v0 = 7 := fun e => by rw [e] at h; revert h; decide
    have h8 : ¬ v0 = 8 := fun e => by rw [e] at h; revert h; decide
    have h9 : ¬ v0 = 9 := fun e => by rw [e] at h; revert h; decide
    have h10 : ¬ v0 = 10 := fun e => by rw [e] at h; revert h; decide
    have h11 : ¬ v0 = 11 := fun e => by rw [e] at h; revert h; decide
    have h12 : ¬ v0 = 12 := fun e => by rw [e] at h; revert h; decide
    have h13 : ¬ v0 = 13 := fun e => by rw [e] at h; revert h; decide
    have h14 : ¬ v0 = 14 := fun e => by rw [e] at h; revert h; decide
    simp [f1_namesWhatThereIs, h0, h1, h2, h3, h4, h5, h6, h7, h8, h9, h10, h11, h12, h13, h14],
  fun h => by subst h; exact (nm_0 _ _ _).symm,
  fun h => by subst h; exact fun r e => by rw [nm_1]; exact e,
  fun h => by subst h; exact fun r e => by rw [nm_2]; exact e,
  fun h => by subst h; exact fun r e => ⟨fun h1 => by subst e; rw [nm_3, if_pos h1], fun h1 r2 e2 => ⟨fun h2 => by subst e; subst e2; rw [nm_3, if_neg h1, h2], fun h2 => by subst e; subst e2; rw [nm_3, if_neg h1]; exact ((zf1_isBasin v2).resolve_left h2).symm⟩⟩,
  fun h => by subst h; exact fun r e => by rw [nm_4]; exact e,
  fun h => by subst h; exact (nm_5 _ _ _).symm,
  fun h => by subst h; exact fun r e => by rw [nm_6]; exact e,
  fun h => by subst h; exact p1_names_108 7 v1 v2 v3 (fun r => r = f1_namesWhatThereIs 7 v1 v2 v3) (nm_7 _ _ _).symm,
  fun h => by
    subst h
    have e0 := nm_8 v1 v2 v3
    intro r e; subst e
    refine ⟨fun h1 => by rw [e0, if_pos h1], fun h1 r2 e2 => ?_⟩
    subst e2
    refine ⟨fun h2 => by rw [e0, if_neg h1, if_pos h2], fun h2 r3 e3 => ?_⟩
    subst e3
    exact ⟨fun h3 => by rw [e0, if_neg h1, if_neg h2, h3], fun h3 => by rw [e0, if_neg h1, if_neg h2]; exact ((zf1_isBasin v3).resolve_left h3).symm⟩,
  fun h => by
    subst h
    have e0 := nm_9 v1 v2 v3
    intro r e; subst e
    refine ⟨fun h1 => by rw [e0, if_pos h1], fun h1 => ⟨fun h2 => by rw [e0, if_neg h1, if_pos h2], fun h2 => ⟨fun h3 => by rw [e0, if_neg h1, if_neg h2, if_pos h3], fun h3 => by rw [e0, if_neg h1, if_neg h2, if_neg h3]⟩⟩⟩,
  fun h => by subst h; exact p1_names_108 10 v1 v2 v3 (fun r => r = f1_namesWhatThereIs 10 v1 v2 v3) (nm_10 _ _ _).symm,
  fun h => by subst h; exact fun r e => by rw [nm_11]; exact e,
  fun h => by subst h; exact fun r e => by rw [nm_12]; exact e,
  fun h => by subst h; exact fun r e => by rw [nm_13]; exact e,
  fun h => by subst h; exact fun r e => by rw [nm_14]; exact e⟩

theorem c1_namesWhatThereIs (l : Launch) (v0 : Int32) (v1 : Int32) (v2 : Int32) (v3 : Int32) : ctS l yX1_namesWhatThereIs cX1_namesWhatThereIs 4 .boolean (rr 1 20) [.int v0, .int v1, .int v2, .int v3] (fun r => r = f1_namesWhatThereIs v0 v1 v2 v3) := by
  refine en_S (by decide +kernel) (Nat.le_of_ble_eq_true rfl) (fun p e s m below meth c ls hF hl => ?_)
  exact k_X1_namesWhatThereIs_0 hF v0 v1 v2 v3 hl (p1_namesWhatThereIs v0 v1 v2 v3)

def wp_X1_hasMark_0 (σ : SX) (g0 : Option Nat) (v1 : Int32)  (post : Int32 → SX → Prop) : Prop :=
  (g0 = none → post 0 σ) ∧ (∀ d1 : Nat, g0 = some d1 → (v1 < 0 → post 0 σ) ∧ (¬ v1 < 0 → d1 < σ.2.2.2.2.1 ∧ ((nI (σ.2.2.2.2.2 d1).1) ≤ v1 → post 0 σ) ∧ (¬ (nI (σ.2.2.2.2.2 d1).1) ≤ v1 → post 1 σ)))
set_option maxHeartbeats 4000000 in
set_option maxRecDepth 100000 in
theorem k_X1_hasMark_0 {l : Launch} {p : Program} {e : Env} {s : State} {m : MethodId} {below : List Frame} {meth : Method} {c : Code} {args : Array Value} {A : Nat → Prop} {G : Gm} {a : AX}  (hF : fx p s m args meth c cX1_hasMark 2 yX1_hasMark.cls kX1_hasMark (some (.boolean))) {post : Int32 → SX → Prop}  (σ : SX) (g0 : Option Nat) (v1 : Int32) {H : Heap} {locs : List Loc} {ls : Array Slot} (hw : wb G A s (wX G a σ) H locs) (hl : lv_has ls 2 [(0, va_rf (Option.map a.2.2 g0)), (1, .int v1)]) (hok : wp_X1_hasMark_0 σ g0 v1  post) :
    W p l e (rr 0 0) s m args below meth c H locs 0 0 (MQ below (va_Qi post (po G A (wX G a)) A) args s 0 0 A) (F0 m 0 ls []) := by
  unfold wp_X1_hasMark_0 at hok
  refine lq_aload_n hF dX1_hasMark_0 rfl (lv_at hl 0 rfl) ?_
  refine lm_ifnull (o := g0) (tgt := 18) hF dX1_hasMark_1 (by decide) (fun ed1 => ?_) (fun d1 ed1 => ?_)
  · replace hok := hok.1 ed1
    subst ed1
    have hl : lv_has ls 2 [(0, .null), (1, .int v1)] := hl
    refine lv_iconst (v := 0) hF.x hF.b dX1_hasMark_18 (by decide) ?_
    exact rt_Z (u := σ) hF (Or.inl rfl) hw hok (Nat.zero_le _) (Nat.zero_le _) dX1_hasMark_19
  · replace hok := hok.2 d1 ed1
    subst ed1
    have hl : lv_has ls 2 [(0, .ref (a.2.2 d1)), (1, .int v1)] := hl
    refine lv_iload_n hF.x hF.b dX1_hasMark_4 rfl (lv_at hl 1 rfl) ?_
    refine lv_if_lt (tgt := 18) hF.x hF.b dX1_hasMark_5 (by decide) (fun c2 => ?_) (fun c2 => ?_)
    · replace hok := hok.1 c2
      refine lv_iconst (v := 0) hF.x hF.b dX1_hasMark_18 (by decide) ?_
      exact rt_Z (u := σ) hF (Or.inl rfl) hw hok (Nat.zero_le _) (Nat.zero_le _) dX1_hasMark_19
    · replace hok := hok.2 c2
      refine lv_iload_n hF.x hF.b dX1_hasMark_8 rfl (lv_at hl 1 rfl) ?_
      refine lv_aload_n hF.x hF.b dX1_hasMark_9 rfl (lv_at hl 0 rfl) ?_
      refine rx_rlen hF hw hok.1 dX1_hasMark_10 ?_
      replace hok := hok.2
      refine lv_icmp_ge (tgt := 18) hF.x hF.b dX1_hasMark_11 (by decide) (fun c3 => ?_) (fun c3 => ?_)
      · replace hok := hok.1 c3
        refine lv_iconst (v := 0) hF.x hF.b dX1_hasMark_18 (by decide) ?_
        exact rt_Z (u := σ) hF (Or.inl rfl) hw hok (Nat.zero_le _) (Nat.zero_le _) dX1_hasMark_19
      · replace hok := hok.2 c3
        refine lv_iconst (v := 1) hF.x hF.b dX1_hasMark_14 (by decide) ?_
        refine lv_goto (tgt := 19) hF.x hF.b dX1_hasMark_15 (by decide) ?_
        exact rt_Z (u := σ) hF (Or.inr rfl) hw hok (Nat.zero_le _) (Nat.zero_le _) dX1_hasMark_19

theorem p1_hasMark (σ : SX) (g0 : Option Nat) (v1 : Int32) (h : q1_hasMark σ g0 v1) : wp_X1_hasMark_0 σ g0 v1 (fun r u => r = (f1_hasMark σ g0 v1).1 ∧ u = (f1_hasMark σ g0 v1).2) := by
  refine ⟨fun e => ?_, fun d e => ⟨fun h1 => ?_, fun h1 => ⟨h d e, fun h2 => ?_, fun h2 => ?_⟩⟩⟩ <;> subst e
  · exact ⟨rfl, rfl⟩
  · exact ⟨by simp only [f1_hasMark]; rw [if_pos h1], rfl⟩
  · exact ⟨by simp only [f1_hasMark]; rw [if_neg h1, if_pos h2], rfl⟩
  · exact ⟨by simp only [f1_hasMark]; rw [if_neg h1, if_neg h2], rfl⟩

theorem c1_hasMark (l : Launch) (G : Gm) (a : AX) (σ : SX) (g0 : Option Nat) (v1 : Int32) (h : q1_hasMark σ g0 v1) : ctI l yX1_hasMark cX1_hasMark 2 .boolean (rr 0 0) G [va_rf (Option.map a.2.2 g0), .int v1] (wX G a σ) (fun (r : Int32) (u : SX) => r = (f1_hasMark σ g0 v1).1 ∧ u = (f1_hasMark σ g0 v1).2) (wX G a) := by
  cases g0 with
  | none =>
    refine en_I (by decide +kernel) (Nat.le_of_ble_eq_true rfl) (fun p e s m below meth c A ls hF hw hl => ?_)
    exact k_X1_hasMark_0 hF σ none v1 hw hl (p1_hasMark σ none v1 h)
  | some z1 =>
    refine en_I (by decide +kernel) (Nat.le_of_ble_eq_true rfl) (fun p e s m below meth c A ls hF hw hl => ?_)
    exact k_X1_hasMark_0 hF σ (some z1) v1 hw hl (p1_hasMark σ (some z1) v1 h)

def wp_X1_heldBy_0 (σ : SX) (v1 : Int32)  (post : Int32 → SX → Prop) : Prop :=
  ∀ r1 : Int32, r1 = f1_isBasin v1 → (r1 = 0 → post 0 σ) ∧ (¬ r1 = 0 → vp_in v1 10 ∧ post (σ.2.1 0 v1.toNatClampNeg) σ)
set_option maxHeartbeats 4000000 in
set_option maxRecDepth 100000 in
theorem k_X1_heldBy_0 {l : Launch} {p : Program} {e : Env} {s : State} {m : MethodId} {below : List Frame} {meth : Method} {c : Code} {args : Array Value} {A : Nat → Prop} {G : Gm} {a : AX}  (hF : fx p s m args meth c cX1_heldBy 2 yX1_heldBy.cls kX1_heldBy (some (.int))) {post : Int32 → SX → Prop}  (σ : SX) (v1 : Int32) {H : Heap} {locs : List Loc} {ls : Array Slot} (hw : wb G A s (wX G a σ) H locs) (hl : lv_has ls 2 [(0, .ref (a.1 13)), (1, .int v1)]) (hok : wp_X1_heldBy_0 σ v1  post) :
    W p l e (rr 1 20) s m args below meth c H locs 0 0 (MQ below (va_Qi post (po G A (wX G a)) A) args s 0 0 A) (F0 m 0 ls []) := by
  unfold wp_X1_heldBy_0 at hok
  refine lv_iload_n hF.x hF.b dX1_heldBy_0 rfl (lv_at hl 1 rfl) ?_
  refine ca_S hF (c1_isBasin l v1) wv_X1_134 ⟨rfl, nd_X1.1, nd_X1.2, pd_X1_isBasin⟩ ⟨rfl, rfl⟩ ⟨Nat.le_of_ble_eq_true rfl, Nat.le_of_ble_eq_true rfl⟩ ⟨Nat.zero_le _, Nat.zero_le _⟩ hl.1 rfl (by first | exact Nat.le_of_ble_eq_true rfl | simp [cat_rf, Value.category]) dX1_heldBy_1 (fun r1 er1 => ?_)
  replace hok := hok r1 er1
  refine lv_if_eq (tgt := 16) hF.x hF.b dX1_heldBy_4 (by decide) (fun c2 => ?_) (fun c2 => ?_)
  · replace hok := hok.1 c2
    refine lv_iconst (v := 0) hF.x hF.b dX1_heldBy_16 (by decide) ?_
    exact rt_I (u := σ) hF hw hok (Nat.zero_le _) (Nat.zero_le _) dX1_heldBy_17
  · replace hok := hok.2 c2
    refine lv_aload_n hF.x hF.b dX1_heldBy_7 rfl (lv_at hl 0 rfl) ?_
    refine r_get hF hw 0 rfl rfl inlX1 0 (by decide) wf_X1_9 rfl dX1_heldBy_8 ?_
    refine lv_iload_n hF.x hF.b dX1_heldBy_11 rfl (lv_at hl 1 rfl) ?_
    refine rx_iald 0 10 hF hw (by decide) hok.1 dX1_heldBy_12 ?_
    replace hok := hok.2
    refine lv_goto (tgt := 17) hF.x hF.b dX1_heldBy_13 (by decide) ?_
    exact rt_I (u := σ) hF hw hok (Nat.zero_le _) (Nat.zero_le _) dX1_heldBy_17

theorem p1_heldBy (σ : SX) (v1 : Int32) (_ : q1_heldBy σ v1) : wp_X1_heldBy_0 σ v1 (fun r u => r = (f1_heldBy σ v1).1 ∧ u = (f1_heldBy σ v1).2) := by
  intro r e; subst e
  exact ⟨fun h => ⟨by simp only [f1_heldBy]; rw [if_pos h], rfl⟩, fun h => ⟨in_B h, by simp only [f1_heldBy]; rw [if_neg h], rfl⟩⟩

theorem c1_heldBy (l : Launch) (G : Gm) (a : AX) (σ : SX) (v1 : Int32) (h : q1_heldBy σ v1) : ctI l yX1_heldBy cX1_heldBy 2 .int (rr 1 20) G [.ref (a.1 13), .int v1] (wX G a σ) (fun (r : Int32) (u : SX) => r = (f1_heldBy σ v1).1 ∧ u = (f1_heldBy σ v1).2) (wX G a) := by
  refine en_I (by decide +kernel) (Nat.le_of_ble_eq_true rfl) (fun p e s m below meth c A ls hF hw hl => ?_)
  exact k_X1_heldBy_0 hF σ v1 hw hl (p1_heldBy σ v1 h)

def wp_X1_pour_0 (σ : SX) (v1 : Int32) (v2 : Int32)  (post : SX → Prop) : Prop :=
  ∀ r1 : Int32, r1 = f1_isBasin v1 → (r1 = 0 → post σ) ∧ (¬ r1 = 0 → vp_in v1 10 ∧ ∀ σ3 : SX, σ3 = (σ.1, va_up σ.2.1 0 (upd (σ.2.1 0) v1.toNatClampNeg v2), σ.2.2) → post σ3)
set_option maxHeartbeats 4000000 in
set_option maxRecDepth 100000 in
theorem k_X1_pour_0 {l : Launch} {p : Program} {e : Env} {s : State} {m : MethodId} {below : List Frame} {meth : Method} {c : Code} {args : Array Value} {A : Nat → Prop} {G : Gm} {a : AX}  (hF : fx p s m args meth c cX1_pour 3 yX1_pour.cls kX1_pour none) {post : SX → Prop}  (σ : SX) (v1 : Int32) (v2 : Int32) {H : Heap} {locs : List Loc} {ls : Array Slot} (hw : wb G A s (wX G a σ) H locs) (hl : lv_has ls 3 [(0, .ref (a.1 13)), (1, .int v1), (2, .int v2)]) (hok : wp_X1_pour_0 σ v1 v2  post) :
    W p l e (rr 1 20) s m args below meth c H locs 0 0 (MQ below (va_Qv post (po G A (wX G a)) A) args s 0 0 A) (F0 m 0 ls []) := by
  unfold wp_X1_pour_0 at hok
  refine lv_iload_n hF.x hF.b dX1_pour_0 rfl (lv_at hl 1 rfl) ?_
  refine ca_S hF (c1_isBasin l v1) wv_X1_134 ⟨rfl, nd_X1.1, nd_X1.2, pd_X1_isBasin⟩ ⟨rfl, rfl⟩ ⟨Nat.le_of_ble_eq_true rfl, Nat.le_of_ble_eq_true rfl⟩ ⟨Nat.zero_le _, Nat.zero_le _⟩ hl.1 rfl (by first | exact Nat.le_of_ble_eq_true rfl | simp [cat_rf, Value.category]) dX1_pour_1 (fun r1 er1 => ?_)
  replace hok := hok r1 er1
  refine lv_if_eq (tgt := 14) hF.x hF.b dX1_pour_4 (by decide) (fun c2 => ?_) (fun c2 => ?_)
  · replace hok := hok.1 c2
    exact rt_V (u := σ) hF hw hok (Nat.zero_le _) (Nat.zero_le _) dX1_pour_14
  · replace hok := hok.2 c2
    refine lv_aload_n hF.x hF.b dX1_pour_7 rfl (lv_at hl 0 rfl) ?_
    refine r_get hF hw 0 rfl rfl inlX1 0 (by decide) wf_X1_9 rfl dX1_pour_8 ?_
    refine lv_iload_n hF.x hF.b dX1_pour_11 rfl (lv_at hl 1 rfl) ?_
    refine lv_iload_n hF.x hF.b dX1_pour_12 rfl (lv_at hl 2 rfl) ?_
    refine rx_iast 0 10 hF hw (by decide) hok.1 dX1_pour_13 (fun σ3 H locs eσ3 hw => ?_)
    replace hok := hok.2 σ3 eσ3
    exact rt_V (u := σ3) hF hw hok (Nat.zero_le _) (Nat.zero_le _) dX1_pour_14

theorem p1_pour (σ : SX) (v1 v2 : Int32) (_ : q1_pour σ v1 v2) : wp_X1_pour_0 σ v1 v2 (fun u => u = f1_pour σ v1 v2) := by
  intro r e; subst e
  exact ⟨fun h => by simp only [f1_pour]; rw [if_pos h], fun h => ⟨in_B h, fun σ3 e3 => by subst e3; simp only [f1_pour]; rw [if_neg h]⟩⟩

theorem c1_pour (l : Launch) (G : Gm) (a : AX) (σ : SX) (v1 : Int32) (v2 : Int32) (h : q1_pour σ v1 v2) : ctV l yX1_pour cX1_pour 3 (rr 1 20) G [.ref (a.1 13), .int v1, .int v2] (wX G a σ) (fun (u : SX) => u = f1_pour σ v1 v2) (wX G a) := by
  refine en_V (by decide +kernel) (Nat.le_of_ble_eq_true rfl) (fun p e s m below meth c A ls hF hn hw hl => ?_)
  exact k_X1_pour_0 hF σ v1 v2 hw hl (p1_pour σ v1 v2 h)

def wp_X1_gaugeNow_0 (σ : SX) (v1 : Int32)  (post : Option Nat → SX → Prop) : Prop :=
  ∀ r1 : Int32, r1 = f1_isGauge v1 → (r1 = 0 → post none σ) ∧ (¬ r1 = 0 → vp_in v1 3 ∧ ∀ o3 : Option Nat, o3 = σ.2.2.1 1 v1.toNatClampNeg → post o3 σ)
set_option maxHeartbeats 4000000 in
set_option maxRecDepth 100000 in
theorem k_X1_gaugeNow_0 {l : Launch} {p : Program} {e : Env} {s : State} {m : MethodId} {below : List Frame} {meth : Method} {c : Code} {args : Array Value} {A : Nat → Prop} {G : Gm} {a : AX}  (hF : fx p s m args meth c cX1_gaugeNow 2 yX1_gaugeNow.cls kX1_gaugeNow (some (.array .int))) {post : Option Nat → SX → Prop}  (σ : SX) (v1 : Int32) {H : Heap} {locs : List Loc} {ls : Array Slot} (hw : wb G A s (wX G a σ) H locs) (hl : lv_has ls 2 [(0, .ref (a.1 13)), (1, .int v1)]) (hok : wp_X1_gaugeNow_0 σ v1  post) :
    W p l e (rr 1 20) s m args below meth c H locs 0 0 (MQ below (va_Qq (fun r u => ∃ o, r = Option.map a.2.2 o ∧ post o u) (po G A (wX G a)) A) args s 0 0 A) (F0 m 0 ls []) := by
  unfold wp_X1_gaugeNow_0 at hok
  refine lv_iload_n hF.x hF.b dX1_gaugeNow_0 rfl (lv_at hl 1 rfl) ?_
  refine ca_S hF (c1_isGauge l v1) wv_X1_63 ⟨rfl, nd_X1.1, nd_X1.2, pd_X1_isGauge⟩ ⟨rfl, rfl⟩ ⟨Nat.le_of_ble_eq_true rfl, Nat.le_of_ble_eq_true rfl⟩ ⟨Nat.zero_le _, Nat.zero_le _⟩ hl.1 rfl (by first | exact Nat.le_of_ble_eq_true rfl | simp [cat_rf, Value.category]) dX1_gaugeNow_1 (fun r1 er1 => ?_)
  replace hok := hok r1 er1
  refine lv_if_eq (tgt := 16) hF.x hF.b dX1_gaugeNow_4 (by decide) (fun c2 => ?_) (fun c2 => ?_)
  · replace hok := hok.1 c2
    refine lv_null hF.x hF.b dX1_gaugeNow_16 ?_
    exact rt_Q (r := Option.map a.2.2 none) (u := σ) hF (Or.inr ⟨_, rfl⟩) hw ⟨none, rfl, hok⟩ (Nat.zero_le _) (Nat.zero_le _) dX1_gaugeNow_17
  · replace hok := hok.2 c2
    refine lv_aload_n hF.x hF.b dX1_gaugeNow_7 rfl (lv_at hl 0 rfl) ?_
    refine r_get hF hw 0 rfl rfl inlX1 1 (by decide) wf_X1_14 rfl dX1_gaugeNow_8 ?_
    refine lv_iload_n hF.x hF.b dX1_gaugeNow_11 rfl (lv_at hl 1 rfl) ?_
    refine rx_gald hF hw hok.1 dX1_gaugeNow_12 (fun o3 eo3 => ?_)
    replace hok := hok.2 o3 eo3
    refine lv_goto (tgt := 17) hF.x hF.b dX1_gaugeNow_13 (by decide) ?_
    exact rt_Q (r := Option.map a.2.2 o3) (u := σ) hF (Or.inr ⟨_, rfl⟩) hw ⟨o3, rfl, hok⟩ (Nat.zero_le _) (Nat.zero_le _) dX1_gaugeNow_17

theorem p1_gaugeNow (σ : SX) (v1 : Int32) (_ : q1_gaugeNow σ v1) : wp_X1_gaugeNow_0 σ v1 (fun o u => o = (f1_gaugeNow σ v1).1 ∧ u = (f1_gaugeNow σ v1).2) := by
  intro r e; subst e
  exact ⟨fun h => ⟨by simp only [f1_gaugeNow]; rw [if_pos h], rfl⟩, fun h => ⟨in_G h, fun o eo => ⟨by rw [eo]; simp only [f1_gaugeNow]; rw [if_neg h], rfl⟩⟩⟩

theorem c1_gaugeNow (l : Launch) (G : Gm) (a : AX) (σ : SX) (v1 : Int32) (h : q1_gaugeNow σ v1) : ctQ l yX1_gaugeNow cX1_gaugeNow 2 (.array .int) (rr 1 20) G [.ref (a.1 13), .int v1] (wX G a σ) (fun (r : Option Nat) (u : SX) => ∃ o, r = Option.map a.2.2 o ∧ (o = (f1_gaugeNow σ v1).1 ∧ u = (f1_gaugeNow σ v1).2)) (wX G a) := by
  refine en_Q (by decide +kernel) (Nat.le_of_ble_eq_true rfl) (fun p e s m below meth c A ls hF hw hl => ?_)
  exact k_X1_gaugeNow_0 (post := fun o u => o = (f1_gaugeNow σ v1).1 ∧ u = (f1_gaugeNow σ v1).2) hF σ v1 hw hl (p1_gaugeNow σ v1 h)

def wp_X1_inSlot_0 (σ : SX) (v1 : Int32)  (post : Option Nat → SX → Prop) : Prop :=
  ∀ r1 : Int32, r1 = f1_isSlot v1 → (r1 = 0 → post none σ) ∧ (¬ r1 = 0 → vp_in v1 20 ∧ ∀ o3 : Option Nat, o3 = σ.2.2.1 2 v1.toNatClampNeg → post o3 σ)
set_option maxHeartbeats 4000000 in
set_option maxRecDepth 100000 in
theorem k_X1_inSlot_0 {l : Launch} {p : Program} {e : Env} {s : State} {m : MethodId} {below : List Frame} {meth : Method} {c : Code} {args : Array Value} {A : Nat → Prop} {G : Gm} {a : AX}  (hF : fx p s m args meth c cX1_inSlot 2 yX1_inSlot.cls kX1_inSlot (some (.object "LeverHall$Deed"))) {post : Option Nat → SX → Prop}  (σ : SX) (v1 : Int32) {H : Heap} {locs : List Loc} {ls : Array Slot} (hw : wb G A s (wX G a σ) H locs) (hl : lv_has ls 2 [(0, .ref (a.1 13)), (1, .int v1)]) (hok : wp_X1_inSlot_0 σ v1  post) :
    W p l e (rr 1 20) s m args below meth c H locs 0 0 (MQ below (va_Qq (fun r u => ∃ o, r = Option.map a.2.1 o ∧ post o u) (po G A (wX G a)) A) args s 0 0 A) (F0 m 0 ls []) := by
  unfold wp_X1_inSlot_0 at hok
  refine lv_iload_n hF.x hF.b dX1_inSlot_0 rfl (lv_at hl 1 rfl) ?_
  refine ca_S hF (c1_isSlot l v1) wv_X1_75 ⟨rfl, nd_X1.1, nd_X1.2, pd_X1_isSlot⟩ ⟨rfl, rfl⟩ ⟨Nat.le_of_ble_eq_true rfl, Nat.le_of_ble_eq_true rfl⟩ ⟨Nat.zero_le _, Nat.zero_le _⟩ hl.1 rfl (by first | exact Nat.le_of_ble_eq_true rfl | simp [cat_rf, Value.category]) dX1_inSlot_1 (fun r1 er1 => ?_)
  replace hok := hok r1 er1
  refine lv_if_eq (tgt := 16) hF.x hF.b dX1_inSlot_4 (by decide) (fun c2 => ?_) (fun c2 => ?_)
  · replace hok := hok.1 c2
    refine lv_null hF.x hF.b dX1_inSlot_16 ?_
    exact rt_Q (r := Option.map a.2.1 none) (u := σ) hF (Or.inl ⟨_, rfl⟩) hw ⟨none, rfl, hok⟩ (Nat.zero_le _) (Nat.zero_le _) dX1_inSlot_17
  · replace hok := hok.2 c2
    refine lv_aload_n hF.x hF.b dX1_inSlot_7 rfl (lv_at hl 0 rfl) ?_
    refine r_get hF hw 0 rfl rfl inlX1 2 (by decide) wf_X1_20 rfl dX1_inSlot_8 ?_
    refine lv_iload_n hF.x hF.b dX1_inSlot_11 rfl (lv_at hl 1 rfl) ?_
    refine rx_aald 2 20 hF hw (by decide) hok.1 dX1_inSlot_12 (fun o3 eo3 => ?_)
    replace hok := hok.2 o3 eo3
    refine lv_goto (tgt := 17) hF.x hF.b dX1_inSlot_13 (by decide) ?_
    exact rt_Q (r := Option.map a.2.1 o3) (u := σ) hF (Or.inl ⟨_, rfl⟩) hw ⟨o3, rfl, hok⟩ (Nat.zero_le _) (Nat.zero_le _) dX1_inSlot_17

theorem p1_inSlot (σ : SX) (v1 : Int32) (_ : q1_inSlot σ v1) : wp_X1_inSlot_0 σ v1 (fun o u => o = (f1_inSlot σ v1).1 ∧ u = (f1_inSlot σ v1).2) := by
  intro r e; subst e
  exact ⟨fun h => ⟨by simp only [f1_inSlot]; rw [if_pos h], rfl⟩, fun h => ⟨in_S h, fun o eo => ⟨by rw [eo]; simp only [f1_inSlot]; rw [if_neg h], rfl⟩⟩⟩

theorem c1_inSlot (l : Launch) (G : Gm) (a : AX) (σ : SX) (v1 : Int32) (h : q1_inSlot σ v1) : ctQ l yX1_inSlot cX1_inSlot 2 (.object "LeverHall$Deed") (rr 1 20) G [.ref (a.1 13), .int v1] (wX G a σ) (fun (r : Option Nat) (u : SX) => ∃ o, r = Option.map a.2.1 o ∧ (o = (f1_inSlot σ v1).1 ∧ u = (f1_inSlot σ v1).2)) (wX G a) := by
  refine en_Q (by decide +kernel) (Nat.le_of_ble_eq_true rfl) (fun p e s m below meth c A ls hF hw hl => ?_)
  exact k_X1_inSlot_0 (post := fun o u => o = (f1_inSlot σ v1).1 ∧ u = (f1_inSlot σ v1).2) hF σ v1 hw hl (p1_inSlot σ v1 h)

def wp_X1_atPlace_0 (σ : SX) (v1 : Int32) (v2 : Int32)  (post : Option Nat → SX → Prop) : Prop :=
  ∀ r1 : Int32, r1 = f1_isLever v1 → (r1 = 0 → post none σ) ∧ (¬ r1 = 0 → (v2 < 0 → post none σ) ∧ (¬ v2 < 0 → (4 ≤ v2 → post none σ) ∧ (¬ 4 ≤ v2 → ∀ x5 : Int32, x5 = v1 * 4 → ∀ x6 : Int32, x6 = x5 + v2 → vp_in x6 20 ∧ ∀ o7 : Option Nat, o7 = σ.2.2.1 3 x6.toNatClampNeg → post o7 σ)))
set_option maxHeartbeats 4000000 in
set_option maxRecDepth 100000 in
theorem k_X1_atPlace_0 {l : Launch} {p : Program} {e : Env} {s : State} {m : MethodId} {below : List Frame} {meth : Method} {c : Code} {args : Array Value} {A : Nat → Prop} {G : Gm} {a : AX}  (hF : fx p s m args meth c cX1_atPlace 3 yX1_atPlace.cls kX1_atPlace (some (.object "LeverHall$Deed"))) {post : Option Nat → SX → Prop}  (σ : SX) (v1 : Int32) (v2 : Int32) {H : Heap} {locs : List Loc} {ls : Array Slot} (hw : wb G A s (wX G a σ) H locs) (hl : lv_has ls 3 [(0, .ref (a.1 13)), (1, .int v1), (2, .int v2)]) (hok : wp_X1_atPlace_0 σ v1 v2  post) :
    W p l e (rr 1 20) s m args below meth c H locs 0 0 (MQ below (va_Qq (fun r u => ∃ o, r = Option.map a.2.1 o ∧ post o u) (po G A (wX G a)) A) args s 0 0 A) (F0 m 0 ls []) := by
  unfold wp_X1_atPlace_0 at hok
  refine lv_iload_n hF.x hF.b dX1_atPlace_0 rfl (lv_at hl 1 rfl) ?_
  refine ca_S hF (c1_isLever l v1) wv_X1_95 ⟨rfl, nd_X1.1, nd_X1.2, pd_X1_isLever⟩ ⟨rfl, rfl⟩ ⟨Nat.le_of_ble_eq_true rfl, Nat.le_of_ble_eq_true rfl⟩ ⟨Nat.zero_le _, Nat.zero_le _⟩ hl.1 rfl (by first | exact Nat.le_of_ble_eq_true rfl | simp [cat_rf, Value.category]) dX1_atPlace_1 (fun r1 er1 => ?_)
  replace hok := hok r1 er1
  refine lv_if_eq (tgt := 29) hF.x hF.b dX1_atPlace_4 (by decide) (fun c2 => ?_) (fun c2 => ?_)
  · replace hok := hok.1 c2
    refine lv_null hF.x hF.b dX1_atPlace_29 ?_
    exact rt_Q (r := Option.map a.2.1 none) (u := σ) hF (Or.inl ⟨_, rfl⟩) hw ⟨none, rfl, hok⟩ (Nat.zero_le _) (Nat.zero_le _) dX1_atPlace_30
  · replace hok := hok.2 c2
    refine lv_iload_n hF.x hF.b dX1_atPlace_7 rfl (lv_at hl 2 rfl) ?_
    refine lv_if_lt (tgt := 29) hF.x hF.b dX1_atPlace_8 (by decide) (fun c3 => ?_) (fun c3 => ?_)
    · replace hok := hok.1 c3
      refine lv_null hF.x hF.b dX1_atPlace_29 ?_
      exact rt_Q (r := Option.map a.2.1 none) (u := σ) hF (Or.inl ⟨_, rfl⟩) hw ⟨none, rfl, hok⟩ (Nat.zero_le _) (Nat.zero_le _) dX1_atPlace_30
    · replace hok := hok.2 c3
      refine lv_iload_n hF.x hF.b dX1_atPlace_11 rfl (lv_at hl 2 rfl) ?_
      refine lv_iconst (v := 4) hF.x hF.b dX1_atPlace_12 (by decide) ?_
      refine lv_icmp_ge (tgt := 29) hF.x hF.b dX1_atPlace_13 (by decide) (fun c4 => ?_) (fun c4 => ?_)
      · replace hok := hok.1 c4
        refine lv_null hF.x hF.b dX1_atPlace_29 ?_
        exact rt_Q (r := Option.map a.2.1 none) (u := σ) hF (Or.inl ⟨_, rfl⟩) hw ⟨none, rfl, hok⟩ (Nat.zero_le _) (Nat.zero_le _) dX1_atPlace_30
      · replace hok := hok.2 c4
        refine lv_aload_n hF.x hF.b dX1_atPlace_16 rfl (lv_at hl 0 rfl) ?_
        refine r_get hF hw 0 rfl rfl inlX1 3 (by decide) wf_X1_24 rfl dX1_atPlace_17 ?_
        refine lv_iload_n hF.x hF.b dX1_atPlace_20 rfl (lv_at hl 1 rfl) ?_
        refine lv_iconst (v := 4) hF.x hF.b dX1_atPlace_21 (by decide) ?_
        refine lv_imul hF.x hF.b dX1_atPlace_22 ?_
        refine lv_topi (fun x5 ex5 => ?_)
        replace hok := hok x5 ex5
        refine lv_iload_n hF.x hF.b dX1_atPlace_23 rfl (lv_at hl 2 rfl) ?_
        refine lv_iadd hF.x hF.b dX1_atPlace_24 ?_
        refine lv_topi (fun x6 ex6 => ?_)
        replace hok := hok x6 ex6
        refine rx_aald 3 20 hF hw (by decide) hok.1 dX1_atPlace_25 (fun o7 eo7 => ?_)
        replace hok := hok.2 o7 eo7
        refine lv_goto (tgt := 30) hF.x hF.b dX1_atPlace_26 (by decide) ?_
        exact rt_Q (r := Option.map a.2.1 o7) (u := σ) hF (Or.inl ⟨_, rfl⟩) hw ⟨o7, rfl, hok⟩ (Nat.zero_le _) (Nat.zero_le _) dX1_atPlace_30

theorem in_LP {v1 v2 : Int32} (h : ¬ f1_isLever v1 = 0) (h2 : ¬ v2 < 0) (h3 : ¬ 4 ≤ v2) : ∃ i j : Nat, i < 5 ∧ j < 4 ∧ v1 = nI i ∧ v2 = nI j ∧ v1 * 4 + v2 = nI (4 * i + j) := by
  obtain ⟨i, hi, rfl⟩ := vp_in_of (in_L h) (by decide)
  obtain ⟨j, hj, rfl⟩ := vp_in_of (x := v2) (n := 4) (by
    rw [vp_in_iff]
    rw [Int32.lt_iff_toInt_lt] at h2
    rw [Int32.le_iff_toInt_le] at h3
    have h0 : (0 : Int32).toInt = 0 := by decide
    have h4 : (4 : Int32).toInt = 4 := by decide
    omega) (by decide)
  refine ⟨i, j, hi, hj, rfl, rfl, ?_⟩
  rw [show (4 : Int32) = nI 4 from rfl, pk_mul, nI_add, Nat.mul_comm]
theorem p1_atPlace (σ : SX) (v1 v2 : Int32) (_ : q1_atPlace σ v1 v2) : wp_X1_atPlace_0 σ v1 v2 (fun o u => o = (f1_atPlace σ v1 v2).1 ∧ u = (f1_atPlace σ v1 v2).2) := by
  intro r e; subst e
  refine ⟨fun h => ⟨by simp only [f1_atPlace]; rw [if_pos h], rfl⟩, fun h => ⟨fun h2 => ⟨by simp only [f1_atPlace]; rw [if_neg h, if_pos h2], rfl⟩, fun h2 => ⟨fun h3 => ⟨by simp only [f1_atPlace]; rw [if_neg h, if_neg h2, if_pos h3], rfl⟩, fun h3 x5 e5 x6 e6 => ?_⟩⟩⟩
  subst e5; subst e6
  obtain ⟨i, j, hi, hj, -, -, e⟩ := in_LP h h2 h3
  exact ⟨by rw [e]; exact vp_in_nI (by omega) (by decide), fun o eo => ⟨by rw [eo]; simp only [f1_atPlace]; rw [if_neg h, if_neg h2, if_neg h3], rfl⟩⟩

theorem c1_atPlace (l : Launch) (G : Gm) (a : AX) (σ : SX) (v1 : Int32) (v2 : Int32) (h : q1_atPlace σ v1 v2) : ctQ l yX1_atPlace cX1_atPlace 3 (.object "LeverHall$Deed") (rr 1 20) G [.ref (a.1 13), .int v1, .int v2] (wX G a σ) (fun (r : Option Nat) (u : SX) => ∃ o, r = Option.map a.2.1 o ∧ (o = (f1_atPlace σ v1 v2).1 ∧ u = (f1_atPlace σ v1 v2).2)) (wX G a) := by
  refine en_Q (by decide +kernel) (Nat.le_of_ble_eq_true rfl) (fun p e s m below meth c A ls hF hw hl => ?_)
  exact k_X1_atPlace_0 (post := fun o u => o = (f1_atPlace σ v1 v2).1 ∧ u = (f1_atPlace σ v1 v2).2) hF σ v1 v2 hw hl (p1_atPlace σ v1 v2 h)

def wp_X1_refuse_0 (σ : SX) (v1 : Int32)  (post : Int32 → SX → Prop) : Prop :=
  ∀ σ1 : SX, σ1 = (va_up σ.1 9 0, σ.2) → ∀ σ2 : SX, σ2 = (va_up σ1.1 12 v1, σ1.2) → post 0 σ2
set_option maxHeartbeats 4000000 in
set_option maxRecDepth 100000 in
theorem k_X1_refuse_0 {l : Launch} {p : Program} {e : Env} {s : State} {m : MethodId} {below : List Frame} {meth : Method} {c : Code} {args : Array Value} {A : Nat → Prop} {G : Gm} {a : AX}  (hF : fx p s m args meth c cX1_refuse 2 yX1_refuse.cls kX1_refuse (some (.int))) {post : Int32 → SX → Prop}  (σ : SX) (v1 : Int32) {H : Heap} {locs : List Loc} {ls : Array Slot} (hw : wb G A s (wX G a σ) H locs) (hl : lv_has ls 2 [(0, .ref (a.1 13)), (1, .int v1)]) (hok : wp_X1_refuse_0 σ v1  post) :
    W p l e (rr 0 0) s m args below meth c H locs 0 0 (MQ below (va_Qi post (po G A (wX G a)) A) args s 0 0 A) (F0 m 0 ls []) := by
  unfold wp_X1_refuse_0 at hok
  refine lv_aload_n hF.x hF.b dX1_refuse_0 rfl (lv_at hl 0 rfl) ?_
  refine lv_iconst (v := 0) hF.x hF.b dX1_refuse_1 (by decide) ?_
  refine rx_put (v := 0) 9 hF hw (by decide) wf_X1_43 dX1_refuse_2 (fun σ1 H locs eσ1 hw => ?_)
  replace hok := hok σ1 eσ1
  refine lv_aload_n hF.x hF.b dX1_refuse_5 rfl (lv_at hl 0 rfl) ?_
  refine lv_iload_n hF.x hF.b dX1_refuse_6 rfl (lv_at hl 1 rfl) ?_
  refine rx_put (v := v1) 12 hF hw (by decide) wf_X1_52 dX1_refuse_7 (fun σ2 H locs eσ2 hw => ?_)
  replace hok := hok σ2 eσ2
  refine lv_iconst (v := 0) hF.x hF.b dX1_refuse_10 (by decide) ?_
  exact rt_I (u := σ2) hF hw hok (Nat.zero_le _) (Nat.zero_le _) dX1_refuse_11

theorem p1_refuse (σ : SX) (v1 : Int32) (_ : q1_refuse σ v1) : wp_X1_refuse_0 σ v1 (fun r u => r = (f1_refuse σ v1).1 ∧ u = (f1_refuse σ v1).2) := by
  intro σ1 e1 σ2 e2; subst e1; subst e2
  exact ⟨rfl, rfl⟩

theorem c1_refuse (l : Launch) (G : Gm) (a : AX) (σ : SX) (v1 : Int32) (h : q1_refuse σ v1) : ctI l yX1_refuse cX1_refuse 2 .int (rr 0 0) G [.ref (a.1 13), .int v1] (wX G a σ) (fun (r : Int32) (u : SX) => r = (f1_refuse σ v1).1 ∧ u = (f1_refuse σ v1).2) (wX G a) := by
  refine en_I (by decide +kernel) (Nat.le_of_ble_eq_true rfl) (fun p e s m below meth c A ls hF hw hl => ?_)
  exact k_X1_refuse_0 hF σ v1 hw hl (p1_refuse σ v1 h)

def wp_X1_begin_0 (σ : SX)   (post : SX → Prop) : Prop :=
  ∀ σ1 : SX, σ1 = (va_up σ.1 9 0, σ.2) → ∀ σ2 : SX, σ2 = (va_up σ1.1 11 0, σ1.2) → ∀ σ3 : SX, σ3 = (va_up σ2.1 12 0, σ2.2) → post σ3
set_option maxHeartbeats 4000000 in
set_option maxRecDepth 100000 in
theorem k_X1_begin_0 {l : Launch} {p : Program} {e : Env} {s : State} {m : MethodId} {below : List Frame} {meth : Method} {c : Code} {args : Array Value} {A : Nat → Prop} {G : Gm} {a : AX}  (hF : fx p s m args meth c cX1_begin 1 yX1_begin.cls kX1_begin none) {post : SX → Prop}  (σ : SX)  {H : Heap} {locs : List Loc} {ls : Array Slot} (hw : wb G A s (wX G a σ) H locs) (hl : lv_has ls 1 [(0, .ref (a.1 13))]) (hok : wp_X1_begin_0 σ   post) :
    W p l e (rr 0 0) s m args below meth c H locs 0 0 (MQ below (va_Qv post (po G A (wX G a)) A) args s 0 0 A) (F0 m 0 ls []) := by
  unfold wp_X1_begin_0 at hok
  refine lv_aload_n hF.x hF.b dX1_begin_0 rfl (lv_at hl 0 rfl) ?_
  refine lv_iconst (v := 0) hF.x hF.b dX1_begin_1 (by decide) ?_
  refine rx_put (v := 0) 9 hF hw (by decide) wf_X1_43 dX1_begin_2 (fun σ1 H locs eσ1 hw => ?_)
  replace hok := hok σ1 eσ1
  refine lv_aload_n hF.x hF.b dX1_begin_5 rfl (lv_at hl 0 rfl) ?_
  refine lv_iconst (v := 0) hF.x hF.b dX1_begin_6 (by decide) ?_
  refine rx_put (v := 0) 11 hF hw (by decide) wf_X1_49 dX1_begin_7 (fun σ2 H locs eσ2 hw => ?_)
  replace hok := hok σ2 eσ2
  refine lv_aload_n hF.x hF.b dX1_begin_10 rfl (lv_at hl 0 rfl) ?_
  refine lv_iconst (v := 0) hF.x hF.b dX1_begin_11 (by decide) ?_
  refine rx_put (v := 0) 12 hF hw (by decide) wf_X1_52 dX1_begin_12 (fun σ3 H locs eσ3 hw => ?_)
  replace hok := hok σ3 eσ3
  exact rt_V (u := σ3) hF hw hok (Nat.zero_le _) (Nat.zero_le _) dX1_begin_15

theorem p1_begin (σ : SX) (_ : q1_begin σ) : wp_X1_begin_0 σ (fun u => u = f1_begin σ) := by
  intro σ1 e1 σ2 e2 σ3 e3; subst e1; subst e2; subst e3
  rfl

theorem c1_begin (l : Launch) (G : Gm) (a : AX) (σ : SX)  (h : q1_begin σ ) : ctV l yX1_begin cX1_begin 1 (rr 0 0) G [.ref (a.1 13)] (wX G a σ) (fun (u : SX) => u = f1_begin σ ) (wX G a) := by
  refine en_V (by decide +kernel) (Nat.le_of_ble_eq_true rfl) (fun p e s m below meth c A ls hF hn hw hl => ?_)
  exact k_X1_begin_0 hF σ  hw hl (p1_begin σ  h)

def wp_X1_noteFailure_0 (σ : SX)   (post : SX → Prop) : Prop :=
  ((σ.1 11) = 0 → post σ) ∧ (¬ (σ.1 11) = 0 → ∀ x2 : Int32, x2 = (σ.1 10) + 1 → ∀ σ3 : SX, σ3 = (va_up σ.1 10 x2, σ.2) → ∀ σ4 : SX, σ4 = (va_up σ3.1 12 (σ3.1 11), σ3.2) → post σ4)
set_option maxHeartbeats 4000000 in
set_option maxRecDepth 100000 in
theorem k_X1_noteFailure_0 {l : Launch} {p : Program} {e : Env} {s : State} {m : MethodId} {below : List Frame} {meth : Method} {c : Code} {args : Array Value} {A : Nat → Prop} {G : Gm} {a : AX}  (hF : fx p s m args meth c cX1_noteFailure 1 yX1_noteFailure.cls kX1_noteFailure none) {post : SX → Prop}  (σ : SX)  {H : Heap} {locs : List Loc} {ls : Array Slot} (hw : wb G A s (wX G a σ) H locs) (hl : lv_has ls 1 [(0, .ref (a.1 13))]) (hok : wp_X1_noteFailure_0 σ   post) :
    W p l e (rr 0 0) s m args below meth c H locs 0 0 (MQ below (va_Qv post (po G A (wX G a)) A) args s 0 0 A) (F0 m 0 ls []) := by
  unfold wp_X1_noteFailure_0 at hok
  refine lv_aload_n hF.x hF.b dX1_noteFailure_0 rfl (lv_at hl 0 rfl) ?_
  refine r_get hF hw 0 rfl rfl inlX1 11 (by decide) wf_X1_49 rfl dX1_noteFailure_1 ?_
  refine lv_if_eq (tgt := 25) hF.x hF.b dX1_noteFailure_4 (by decide) (fun c1 => ?_) (fun c1 => ?_)
  · replace hok := hok.1 c1
    exact rt_V (u := σ) hF hw hok (Nat.zero_le _) (Nat.zero_le _) dX1_noteFailure_25
  · replace hok := hok.2 c1
    refine lv_aload_n hF.x hF.b dX1_noteFailure_7 rfl (lv_at hl 0 rfl) ?_
    refine lv_dup hF.x hF.b dX1_noteFailure_8 rfl ?_
    refine r_get hF hw 0 rfl rfl inlX1 10 (by decide) wf_X1_46 rfl dX1_noteFailure_9 ?_
    refine lv_iconst (v := 1) hF.x hF.b dX1_noteFailure_12 (by decide) ?_
    refine lv_iadd hF.x hF.b dX1_noteFailure_13 ?_
    refine lv_topi (fun x2 ex2 => ?_)
    replace hok := hok x2 ex2
    refine rx_put (v := x2) 10 hF hw (by decide) wf_X1_46 dX1_noteFailure_14 (fun σ3 H locs eσ3 hw => ?_)
    replace hok := hok σ3 eσ3
    refine lv_aload_n hF.x hF.b dX1_noteFailure_17 rfl (lv_at hl 0 rfl) ?_
    refine lv_aload_n hF.x hF.b dX1_noteFailure_18 rfl (lv_at hl 0 rfl) ?_
    refine r_get hF hw 0 rfl rfl inlX1 11 (by decide) wf_X1_49 rfl dX1_noteFailure_19 ?_
    refine rx_put (v := σ3.1 11) 12 hF hw (by decide) wf_X1_52 dX1_noteFailure_22 (fun σ4 H locs eσ4 hw => ?_)
    replace hok := hok σ4 eσ4
    exact rt_V (u := σ4) hF hw hok (Nat.zero_le _) (Nat.zero_le _) dX1_noteFailure_25

theorem p1_noteFailure (σ : SX) (_ : q1_noteFailure σ) : wp_X1_noteFailure_0 σ (fun u => u = f1_noteFailure σ) := by
  refine ⟨fun h => by unfold f1_noteFailure; rw [if_pos h], fun h x2 e2 σ3 e3 σ4 e4 => ?_⟩
  subst e2; subst e3; subst e4
  unfold f1_noteFailure
  rw [if_neg h]
  simp [va_up]

theorem c1_noteFailure (l : Launch) (G : Gm) (a : AX) (σ : SX)  (h : q1_noteFailure σ ) : ctV l yX1_noteFailure cX1_noteFailure 1 (rr 0 0) G [.ref (a.1 13)] (wX G a σ) (fun (u : SX) => u = f1_noteFailure σ ) (wX G a) := by
  refine en_V (by decide +kernel) (Nat.le_of_ble_eq_true rfl) (fun p e s m below meth c A ls hF hn hw hl => ?_)
  exact k_X1_noteFailure_0 hF σ  hw hl (p1_noteFailure σ  h)

def wp_X1_fail_0 (σ : SX) (v1 : Int32)  (post : Int32 → SX → Prop) : Prop :=
  ∀ σ1 : SX, σ1 = (va_up σ.1 11 v1, σ.2) → post 0 σ1
set_option maxHeartbeats 4000000 in
set_option maxRecDepth 100000 in
theorem k_X1_fail_0 {l : Launch} {p : Program} {e : Env} {s : State} {m : MethodId} {below : List Frame} {meth : Method} {c : Code} {args : Array Value} {A : Nat → Prop} {G : Gm} {a : AX}  (hF : fx p s m args meth c cX1_fail 2 yX1_fail.cls kX1_fail (some (.int))) {post : Int32 → SX → Prop}  (σ : SX) (v1 : Int32) {H : Heap} {locs : List Loc} {ls : Array Slot} (hw : wb G A s (wX G a σ) H locs) (hl : lv_has ls 2 [(0, .ref (a.1 13)), (1, .int v1)]) (hok : wp_X1_fail_0 σ v1  post) :
    W p l e (rr 0 0) s m args below meth c H locs 0 0 (MQ below (va_Qi post (po G A (wX G a)) A) args s 0 0 A) (F0 m 0 ls []) := by
  unfold wp_X1_fail_0 at hok
  refine lv_aload_n hF.x hF.b dX1_fail_0 rfl (lv_at hl 0 rfl) ?_
  refine lv_iload_n hF.x hF.b dX1_fail_1 rfl (lv_at hl 1 rfl) ?_
  refine rx_put (v := v1) 11 hF hw (by decide) wf_X1_49 dX1_fail_2 (fun σ1 H locs eσ1 hw => ?_)
  replace hok := hok σ1 eσ1
  refine lv_iconst (v := 0) hF.x hF.b dX1_fail_5 (by decide) ?_
  exact rt_I (u := σ1) hF hw hok (Nat.zero_le _) (Nat.zero_le _) dX1_fail_6

theorem p1_fail (σ : SX) (v1 : Int32) (_ : q1_fail σ v1) : wp_X1_fail_0 σ v1 (fun r u => r = (f1_fail σ v1).1 ∧ u = (f1_fail σ v1).2) := by
  intro σ1 e1; subst e1
  exact ⟨rfl, rfl⟩

theorem c1_fail (l : Launch) (G : Gm) (a : AX) (σ : SX) (v1 : Int32) (h : q1_fail σ v1) : ctI l yX1_fail cX1_fail 2 .int (rr 0 0) G [.ref (a.1 13), .int v1] (wX G a σ) (fun (r : Int32) (u : SX) => r = (f1_fail σ v1).1 ∧ u = (f1_fail σ v1).2) (wX G a) := by
  refine en_I (by decide +kernel) (Nat.le_of_ble_eq_true rfl) (fun p e s m below meth c A ls hF hw hl => ?_)
  exact k_X1_fail_0 hF σ v1 hw hl (p1_fail σ v1 h)
end
section
/-- what holds of a hall's state at all times -/
def WFX (σ : SX) : Prop := (∀ k i d, (k = 2 ∨ k = 3 ∨ k = 4) → σ.2.2.1 k i = some d → d < σ.2.2.2.1.1) ∧ (∀ i r, σ.2.2.1 1 i = some r → r < σ.2.2.2.2.1) ∧ (∀ d, d < σ.2.2.2.1.1 → (∀ e, (σ.2.2.2.1.2 d).2 4 = some e → e < σ.2.2.2.1.1) ∧ (∀ e, (σ.2.2.2.1.2 d).2 5 = some e → e < σ.2.2.2.1.1) ∧ ∀ r, (σ.2.2.2.1.2 d).2 6 = some r → r < σ.2.2.2.2.1) ∧ (∀ r, (σ.2.2.2.2.2 r).1 < 2 ^ 31) ∧ ∃ h w : Nat, h < 12 ∧ w ≤ 12 ∧ σ.1 6 = nI h ∧ σ.1 7 = nI w
abbrev q1_d (σ : SX) (d : Nat) : Prop := WFX σ ∧ d < σ.2.2.2.1.1
abbrev q1_doSet (σ : SX) (d : Nat) (_ : Int32) : Prop := q1_d σ d
abbrev q1_doAdd (σ : SX) (d : Nat) (_ : Int32) : Prop := q1_d σ d
abbrev q1_doDraw (σ : SX) (d : Nat) (_ : Int32) : Prop := q1_d σ d
abbrev q1_doMark (σ : SX) (d : Nat) (_ : Int32) : Prop := q1_d σ d
abbrev q1_doLater (σ : SX) (d : Nat) (_ : Int32) : Prop := q1_d σ d
abbrev q1_doAlone (σ : SX) (d : Nat) (_ : Int32) : Prop := q1_d σ d
theorem pour_D (σ : SX) (k v : Int32) : (f1_pour σ k v).2.2 = σ.2.2 := by unfold f1_pour; split <;> rfl
theorem pour_I (σ : SX) (k v : Int32) : (f1_pour σ k v).1 = σ.1 := by unfold f1_pour; split <;> rfl
def f1_doSet (σ : SX) (d : Nat) (p : Int32) : Int32 × SX := ((f1_heldBy σ ((σ.2.2.2.1.2 d).1 1)).1, f1_pour σ ((σ.2.2.2.1.2 d).1 1) p)
def f1_doAdd (σ : SX) (d : Nat) (p : Int32) : Int32 × SX :=
  let x := (σ.2.2.2.1.2 d).1 1
  let σ5 := f1_pour σ x ((f1_heldBy σ x).1 + p * (σ.2.2.2.1.2 d).1 2)
  ((f1_heldBy σ5 x).1, σ5)
def f1_doDraw (σ : SX) (d : Nat) (p : Int32) : Int32 × SX :=
  let x := (σ.2.2.2.1.2 d).1 1
  let y := (σ.2.2.2.1.2 d).1 2
  if p < 0 then f1_fail σ (-3) else if p ≤ (f1_heldBy σ x).1 then
    let σ1 := f1_pour σ x ((f1_heldBy σ x).1 - p)
    let σ2 := f1_pour σ1 y ((f1_heldBy σ1 y).1 + p)
    ((f1_heldBy σ2 x).1, σ2)
  else f1_fail σ (-3)
def f1_doMark (σ : SX) (d : Nat) (p : Int32) : Int32 × SX :=
  match (σ.2.2.2.1.2 d).2 6 with
  | none => f1_fail σ (-4)
  | some r =>
    let y := (σ.2.2.2.1.2 d).1 2
    if (f1_hasMark σ (some r) y).1 = 0 then f1_fail σ (-4) else
    let v := (σ.2.2.2.2.2 r).2 y.toNatClampNeg + p
    (v, (σ.1, σ.2.1, σ.2.2.1, σ.2.2.2.1, (σ.2.2.2.2.1, va_up σ.2.2.2.2.2 r ((σ.2.2.2.2.2 r).1, upd (σ.2.2.2.2.2 r).2 y.toNatClampNeg v))))
def x_end (σ : SX) : Int32 := (σ.1 6 + σ.1 7) - (σ.1 6 + σ.1 7) / 12 * 12
def f1_doLater (σ : SX) (d : Nat) (p : Int32) : Int32 × SX :=
  if σ.1 7 < 12 then (σ.1 7 + 1, (va_up σ.1 7 (σ.1 7 + 1), va_up σ.2.1 5 (upd (σ.2.1 5) (x_end σ).toNatClampNeg p), va_up σ.2.2.1 4 (va_up (σ.2.2.1 4) (x_end σ).toNatClampNeg ((σ.2.2.2.1.2 d).2 4)), σ.2.2.2))
  else f1_fail σ (-7)
def f1_doAlone (σ : SX) (d : Nat) (p : Int32) : Int32 × SX :=
  let k := (σ.2.2.2.1.2 d).1 0
  let x := (σ.2.2.2.1.2 d).1 1
  if k = 0 then (x, σ) else if k = 1 then f1_doSet σ d p else if k = 2 then f1_doAdd σ d p else if k = 3 then f1_doDraw σ d p else if k = 4 then f1_doMark σ d p
  else if k = 5 then (if x = 0 then f1_fail σ (-5) else (p / x, σ)) else if k = 6 then (p + x, σ) else f1_fail σ (-6)
theorem x_end_at {σ : SX} {h w : Nat} (hh : h < 12) (hw : w ≤ 12) (e1 : σ.1 6 = nI h) (e2 : σ.1 7 = nI w) : x_end σ = nI ((h + w) % 12) := by
  unfold x_end
  rw [e1, e2, nI_add, show (12 : Int32) = nI 12 from rfl, pk_rem (by omega) (by decide) (by decide)]
theorem hasMark_in {σ : SX} {r : Nat} {i : Int32} (h : ¬ (f1_hasMark σ (some r) i).1 = 0) (hl : (σ.2.2.2.2.2 r).1 < 2 ^ 31) : vp_in i (σ.2.2.2.2.2 r).1 := by
  simp only [f1_hasMark] at h
  rw [vp_in_iff]
  by_cases h1 : i < 0
  · rw [if_pos h1] at h; exact absurd rfl h
  · rw [if_neg h1] at h
    by_cases h2 : nI (σ.2.2.2.2.2 r).1 ≤ i
    · rw [if_pos h2] at h; exact absurd rfl h
    · rw [Int32.lt_iff_toInt_lt] at h1
      rw [Int32.le_iff_toInt_le, nI_toInt hl] at h2
      have : (0 : Int32).toInt = 0 := by decide
      omega

def wp_X1_doSet_0 (σ : SX) (d1 : Nat) (v2 : Int32)  (post : Int32 → SX → Prop) : Prop :=
  d1 < σ.2.2.2.1.1 ∧ q1_heldBy σ ((σ.2.2.2.1.2 d1).1 1) ∧ ∀ (r1 : Int32) (σ2 : SX), r1 = (f1_heldBy σ ((σ.2.2.2.1.2 d1).1 1)).1 → σ2 = (f1_heldBy σ ((σ.2.2.2.1.2 d1).1 1)).2 → d1 < σ2.2.2.2.1.1 ∧ q1_pour σ2 ((σ2.2.2.2.1.2 d1).1 1) v2 ∧ ∀ σ3 : SX, σ3 = (f1_pour σ2 ((σ2.2.2.2.1.2 d1).1 1) v2) → post r1 σ3
set_option maxHeartbeats 4000000 in
set_option maxRecDepth 100000 in
theorem k_X1_doSet_0 {l : Launch} {p : Program} {e : Env} {s : State} {m : MethodId} {below : List Frame} {meth : Method} {c : Code} {args : Array Value} {A : Nat → Prop} {G : Gm} {a : AX}  (hF : fx p s m args meth c cX1_doSet 4 yX1_doSet.cls kX1_doSet (some (.int))) {post : Int32 → SX → Prop}  (σ : SX) (d1 : Nat) (v2 : Int32) {H : Heap} {locs : List Loc} {ls : Array Slot} (hw : wb G A s (wX G a σ) H locs) (hl : lv_has ls 4 [(0, .ref (a.1 13)), (1, .ref (a.2.1 d1)), (2, .int v2)]) (hok : wp_X1_doSet_0 σ d1 v2  post) :
    W p l e (rr 2 42) s m args below meth c H locs 0 0 (MQ below (va_Qi post (po G A (wX G a)) A) args s 0 0 A) (F0 m 0 ls []) := by
  unfold wp_X1_doSet_0 at hok
  refine lv_aload_n hF.x hF.b dX1_doSet_0 rfl (lv_at hl 0 rfl) ?_
  refine lv_aload_n hF.x hF.b dX1_doSet_1 rfl (lv_at hl 1 rfl) ?_
  refine rx_dget (k := 1) hF hw hok.1 (by decide) (by unfold nestW; simp [TX0]) rfl dX1_doSet_2 ?_
  replace hok := hok.2
  refine ca_I hF hw (c1_heldBy l G a σ ((σ.2.2.2.1.2 d1).1 1) hok.1) wv_X1_55 (q0 := 0) rfl rfl rfl ⟨nd_X1.1, nd_X1.2, pd_X1_heldBy⟩ ⟨Nat.le_of_ble_eq_true rfl, Nat.le_of_ble_eq_true rfl⟩ ⟨Nat.zero_le _, Nat.zero_le _⟩ hl.1 rfl (by first | exact Nat.le_of_ble_eq_true rfl | simp [cat_rf, Value.category]) dX1_doSet_5 (fun r1 σ2 H locs hp hw => ?_)
  obtain ⟨er1, eσ2⟩ := hp
  replace hok := hok.2 r1 σ2 er1 eσ2
  refine lv_istore_n (lv' := [(3, .int r1), (0, .ref (a.1 13)), (1, .ref (a.2.1 d1)), (2, .int v2)]) hF.x hF.b dX1_doSet_8 rfl hl (by decide) rfl (fun ls hl => ?_)
  refine lv_aload_n hF.x hF.b dX1_doSet_9 rfl (lv_at hl 1 rfl) ?_
  refine lv_aload_n hF.x hF.b dX1_doSet_10 rfl (lv_at hl 2 rfl) ?_
  refine rx_dget (k := 1) hF hw hok.1 (by decide) (by unfold nestW; simp [TX0]) rfl dX1_doSet_11 ?_
  replace hok := hok.2
  refine lv_iload_n hF.x hF.b dX1_doSet_14 rfl (lv_at hl 3 rfl) ?_
  refine ca_V hF hw (c1_pour l G a σ2 ((σ2.2.2.2.1.2 d1).1 1) v2 hok.1) wv_X1_59 (q0 := 0) rfl rfl rfl ⟨nd_X1.1, nd_X1.2, pd_X1_pour⟩ ⟨Nat.le_of_ble_eq_true rfl, Nat.le_of_ble_eq_true rfl⟩ ⟨Nat.zero_le _, Nat.zero_le _⟩ hl.1 rfl (by first | exact Nat.le_of_ble_eq_true rfl | simp [cat_rf, Value.category]) dX1_doSet_15 (fun σ3 H locs eσ3 hw => ?_)
  replace hok := hok.2 σ3 eσ3
  refine lv_iload_n hF.x hF.b dX1_doSet_18 rfl (lv_at hl 0 rfl) ?_
  exact rt_I (u := σ3) hF hw hok (Nat.zero_le _) (Nat.zero_le _) dX1_doSet_19

theorem p1_doSet (σ : SX) (d1 : Nat) (v2 : Int32) (h : q1_doSet σ d1 v2) : wp_X1_doSet_0 σ d1 v2 (fun r u => r = (f1_doSet σ d1 v2).1 ∧ u = (f1_doSet σ d1 v2).2) := by
  refine ⟨h.2, trivial, fun r1 σ2 e1 e2 => ?_⟩
  obtain rfl : σ2 = σ := e2
  exact ⟨h.2, trivial, fun σ3 e3 => ⟨e1, e3⟩⟩

theorem c1_doSet (l : Launch) (G : Gm) (a : AX) (σ : SX) (d1 : Nat) (v2 : Int32) (h : q1_doSet σ d1 v2) : ctI l yX1_doSet cX1_doSet 4 .int (rr 2 42) G [.ref (a.1 13), .ref (a.2.1 d1), .int v2] (wX G a σ) (fun (r : Int32) (u : SX) => r = (f1_doSet σ d1 v2).1 ∧ u = (f1_doSet σ d1 v2).2) (wX G a) := by
  refine en_I (by decide +kernel) (Nat.le_of_ble_eq_true rfl) (fun p e s m below meth c A ls hF hw hl => ?_)
  exact k_X1_doSet_0 hF σ d1 v2 hw hl (p1_doSet σ d1 v2 h)

def wp_X1_doAdd_0 (σ : SX) (d1 : Nat) (v2 : Int32)  (post : Int32 → SX → Prop) : Prop :=
  d1 < σ.2.2.2.1.1 ∧ d1 < σ.2.2.2.1.1 ∧ q1_heldBy σ ((σ.2.2.2.1.2 d1).1 1) ∧ ∀ (r1 : Int32) (σ2 : SX), r1 = (f1_heldBy σ ((σ.2.2.2.1.2 d1).1 1)).1 → σ2 = (f1_heldBy σ ((σ.2.2.2.1.2 d1).1 1)).2 → d1 < σ2.2.2.2.1.1 ∧ ∀ x3 : Int32, x3 = v2 * ((σ2.2.2.2.1.2 d1).1 2) → ∀ x4 : Int32, x4 = r1 + x3 → q1_pour σ2 ((σ.2.2.2.1.2 d1).1 1) x4 ∧ ∀ σ5 : SX, σ5 = (f1_pour σ2 ((σ.2.2.2.1.2 d1).1 1) x4) → d1 < σ5.2.2.2.1.1 ∧ q1_heldBy σ5 ((σ5.2.2.2.1.2 d1).1 1) ∧ ∀ (r6 : Int32) (σ7 : SX), r6 = (f1_heldBy σ5 ((σ5.2.2.2.1.2 d1).1 1)).1 → σ7 = (f1_heldBy σ5 ((σ5.2.2.2.1.2 d1).1 1)).2 → post r6 σ7
set_option maxHeartbeats 4000000 in
set_option maxRecDepth 100000 in
theorem k_X1_doAdd_0 {l : Launch} {p : Program} {e : Env} {s : State} {m : MethodId} {below : List Frame} {meth : Method} {c : Code} {args : Array Value} {A : Nat → Prop} {G : Gm} {a : AX}  (hF : fx p s m args meth c cX1_doAdd 3 yX1_doAdd.cls kX1_doAdd (some (.int))) {post : Int32 → SX → Prop}  (σ : SX) (d1 : Nat) (v2 : Int32) {H : Heap} {locs : List Loc} {ls : Array Slot} (hw : wb G A s (wX G a σ) H locs) (hl : lv_has ls 3 [(0, .ref (a.1 13)), (1, .ref (a.2.1 d1)), (2, .int v2)]) (hok : wp_X1_doAdd_0 σ d1 v2  post) :
    W p l e (rr 2 42) s m args below meth c H locs 0 0 (MQ below (va_Qi post (po G A (wX G a)) A) args s 0 0 A) (F0 m 0 ls []) := by
  unfold wp_X1_doAdd_0 at hok
  refine lv_aload_n hF.x hF.b dX1_doAdd_0 rfl (lv_at hl 0 rfl) ?_
  refine lv_aload_n hF.x hF.b dX1_doAdd_1 rfl (lv_at hl 1 rfl) ?_
  refine rx_dget (k := 1) hF hw hok.1 (by decide) (by unfold nestW; simp [TX0]) rfl dX1_doAdd_2 ?_
  replace hok := hok.2
  refine lv_aload_n hF.x hF.b dX1_doAdd_5 rfl (lv_at hl 0 rfl) ?_
  refine lv_aload_n hF.x hF.b dX1_doAdd_6 rfl (lv_at hl 1 rfl) ?_
  refine rx_dget (k := 1) hF hw hok.1 (by decide) (by unfold nestW; simp [TX0]) rfl dX1_doAdd_7 ?_
  replace hok := hok.2
  refine ca_I hF hw (c1_heldBy l G a σ ((σ.2.2.2.1.2 d1).1 1) hok.1) wv_X1_55 (q0 := 0) rfl rfl rfl ⟨nd_X1.1, nd_X1.2, pd_X1_heldBy⟩ ⟨Nat.le_of_ble_eq_true rfl, Nat.le_of_ble_eq_true rfl⟩ ⟨Nat.zero_le _, Nat.zero_le _⟩ hl.1 rfl (by first | exact Nat.le_of_ble_eq_true rfl | simp [cat_rf, Value.category]) dX1_doAdd_10 (fun r1 σ2 H locs hp hw => ?_)
  obtain ⟨er1, eσ2⟩ := hp
  replace hok := hok.2 r1 σ2 er1 eσ2
  refine lv_iload_n hF.x hF.b dX1_doAdd_13 rfl (lv_at hl 2 rfl) ?_
  refine lv_aload_n hF.x hF.b dX1_doAdd_14 rfl (lv_at hl 1 rfl) ?_
  refine rx_dget (k := 2) hF hw hok.1 (by decide) (by unfold nestW; simp [TX0]) rfl dX1_doAdd_15 ?_
  replace hok := hok.2
  refine lv_imul hF.x hF.b dX1_doAdd_18 ?_
  refine lv_topi (fun x3 ex3 => ?_)
  replace hok := hok x3 ex3
  refine lv_iadd hF.x hF.b dX1_doAdd_19 ?_
  refine lv_topi (fun x4 ex4 => ?_)
  replace hok := hok x4 ex4
  refine ca_V hF hw (c1_pour l G a σ2 ((σ.2.2.2.1.2 d1).1 1) x4 hok.1) wv_X1_59 (q0 := 0) rfl rfl rfl ⟨nd_X1.1, nd_X1.2, pd_X1_pour⟩ ⟨Nat.le_of_ble_eq_true rfl, Nat.le_of_ble_eq_true rfl⟩ ⟨Nat.zero_le _, Nat.zero_le _⟩ hl.1 rfl (by first | exact Nat.le_of_ble_eq_true rfl | simp [cat_rf, Value.category]) dX1_doAdd_20 (fun σ5 H locs eσ5 hw => ?_)
  replace hok := hok.2 σ5 eσ5
  refine lv_aload_n hF.x hF.b dX1_doAdd_23 rfl (lv_at hl 0 rfl) ?_
  refine lv_aload_n hF.x hF.b dX1_doAdd_24 rfl (lv_at hl 1 rfl) ?_
  refine rx_dget (k := 1) hF hw hok.1 (by decide) (by unfold nestW; simp [TX0]) rfl dX1_doAdd_25 ?_
  replace hok := hok.2
  refine ca_I hF hw (c1_heldBy l G a σ5 ((σ5.2.2.2.1.2 d1).1 1) hok.1) wv_X1_55 (q0 := 0) rfl rfl rfl ⟨nd_X1.1, nd_X1.2, pd_X1_heldBy⟩ ⟨Nat.le_of_ble_eq_true rfl, Nat.le_of_ble_eq_true rfl⟩ ⟨Nat.zero_le _, Nat.zero_le _⟩ hl.1 rfl (by first | exact Nat.le_of_ble_eq_true rfl | simp [cat_rf, Value.category]) dX1_doAdd_28 (fun r6 σ7 H locs hp hw => ?_)
  obtain ⟨er6, eσ7⟩ := hp
  replace hok := hok.2 r6 σ7 er6 eσ7
  exact rt_I (u := σ7) hF hw hok (Nat.zero_le _) (Nat.zero_le _) dX1_doAdd_31

theorem p1_doAdd (σ : SX) (d1 : Nat) (v2 : Int32) (h : q1_doAdd σ d1 v2) : wp_X1_doAdd_0 σ d1 v2 (fun r u => r = (f1_doAdd σ d1 v2).1 ∧ u = (f1_doAdd σ d1 v2).2) := by
  refine ⟨h.2, h.2, trivial, fun r1 σ2 e1 e2 => ?_⟩
  obtain rfl : σ2 = σ := e2
  refine ⟨h.2, fun x3 e3 x4 e4 => ⟨trivial, fun σ5 e5 => ?_⟩⟩
  subst e1; subst e3; subst e4
  have hD : σ5.2.2 = σ2.2.2 := by rw [e5, pour_D]
  rw [hD]
  refine ⟨h.2, trivial, fun r6 σ7 e6 e7 => ?_⟩
  obtain rfl : σ7 = σ5 := e7
  subst e5
  exact ⟨e6, rfl⟩

theorem c1_doAdd (l : Launch) (G : Gm) (a : AX) (σ : SX) (d1 : Nat) (v2 : Int32) (h : q1_doAdd σ d1 v2) : ctI l yX1_doAdd cX1_doAdd 3 .int (rr 2 42) G [.ref (a.1 13), .ref (a.2.1 d1), .int v2] (wX G a σ) (fun (r : Int32) (u : SX) => r = (f1_doAdd σ d1 v2).1 ∧ u = (f1_doAdd σ d1 v2).2) (wX G a) := by
  refine en_I (by decide +kernel) (Nat.le_of_ble_eq_true rfl) (fun p e s m below meth c A ls hF hw hl => ?_)
  exact k_X1_doAdd_0 hF σ d1 v2 hw hl (p1_doAdd σ d1 v2 h)

def wp_X1_doDraw_0 (σ : SX) (d1 : Nat) (v2 : Int32)  (post : Int32 → SX → Prop) : Prop :=
  (v2 < 0 → q1_fail σ ((-3)) ∧ ∀ (r2 : Int32) (σ3 : SX), r2 = (f1_fail σ ((-3))).1 → σ3 = (f1_fail σ ((-3))).2 → post r2 σ3) ∧ (¬ v2 < 0 → d1 < σ.2.2.2.1.1 ∧ q1_heldBy σ ((σ.2.2.2.1.2 d1).1 1) ∧ ∀ (r4 : Int32) (σ5 : SX), r4 = (f1_heldBy σ ((σ.2.2.2.1.2 d1).1 1)).1 → σ5 = (f1_heldBy σ ((σ.2.2.2.1.2 d1).1 1)).2 → (v2 ≤ r4 → d1 < σ5.2.2.2.1.1 ∧ d1 < σ5.2.2.2.1.1 ∧ q1_heldBy σ5 ((σ5.2.2.2.1.2 d1).1 1) ∧ ∀ (r7 : Int32) (σ8 : SX), r7 = (f1_heldBy σ5 ((σ5.2.2.2.1.2 d1).1 1)).1 → σ8 = (f1_heldBy σ5 ((σ5.2.2.2.1.2 d1).1 1)).2 → ∀ x9 : Int32, x9 = r7 - v2 → q1_pour σ8 ((σ5.2.2.2.1.2 d1).1 1) x9 ∧ ∀ σ10 : SX, σ10 = (f1_pour σ8 ((σ5.2.2.2.1.2 d1).1 1) x9) → d1 < σ10.2.2.2.1.1 ∧ d1 < σ10.2.2.2.1.1 ∧ q1_heldBy σ10 ((σ10.2.2.2.1.2 d1).1 2) ∧ ∀ (r11 : Int32) (σ12 : SX), r11 = (f1_heldBy σ10 ((σ10.2.2.2.1.2 d1).1 2)).1 → σ12 = (f1_heldBy σ10 ((σ10.2.2.2.1.2 d1).1 2)).2 → ∀ x13 : Int32, x13 = r11 + v2 → q1_pour σ12 ((σ10.2.2.2.1.2 d1).1 2) x13 ∧ ∀ σ14 : SX, σ14 = (f1_pour σ12 ((σ10.2.2.2.1.2 d1).1 2) x13) → d1 < σ14.2.2.2.1.1 ∧ q1_heldBy σ14 ((σ14.2.2.2.1.2 d1).1 1) ∧ ∀ (r15 : Int32) (σ16 : SX), r15 = (f1_heldBy σ14 ((σ14.2.2.2.1.2 d1).1 1)).1 → σ16 = (f1_heldBy σ14 ((σ14.2.2.2.1.2 d1).1 1)).2 → post r15 σ16) ∧ (¬ v2 ≤ r4 → q1_fail σ5 ((-3)) ∧ ∀ (r17 : Int32) (σ18 : SX), r17 = (f1_fail σ5 ((-3))).1 → σ18 = (f1_fail σ5 ((-3))).2 → post r17 σ18))
set_option maxHeartbeats 4000000 in
set_option maxRecDepth 100000 in
theorem k_X1_doDraw_0 {l : Launch} {p : Program} {e : Env} {s : State} {m : MethodId} {below : List Frame} {meth : Method} {c : Code} {args : Array Value} {A : Nat → Prop} {G : Gm} {a : AX}  (hF : fx p s m args meth c cX1_doDraw 3 yX1_doDraw.cls kX1_doDraw (some (.int))) {post : Int32 → SX → Prop}  (σ : SX) (d1 : Nat) (v2 : Int32) {H : Heap} {locs : List Loc} {ls : Array Slot} (hw : wb G A s (wX G a σ) H locs) (hl : lv_has ls 3 [(0, .ref (a.1 13)), (1, .ref (a.2.1 d1)), (2, .int v2)]) (hok : wp_X1_doDraw_0 σ d1 v2  post) :
    W p l e (rr 2 42) s m args below meth c H locs 0 0 (MQ below (va_Qi post (po G A (wX G a)) A) args s 0 0 A) (F0 m 0 ls []) := by
  unfold wp_X1_doDraw_0 at hok
  refine lv_iload_n hF.x hF.b dX1_doDraw_0 rfl (lv_at hl 2 rfl) ?_
  refine lv_if_lt (tgt := 16) hF.x hF.b dX1_doDraw_1 (by decide) (fun c1 => ?_) (fun c1 => ?_)
  · replace hok := hok.1 c1
    refine lv_aload_n hF.x hF.b dX1_doDraw_16 rfl (lv_at hl 0 rfl) ?_
    refine lv_bipush (v := (-3)) hF.x hF.b dX1_doDraw_17 (by decide) ?_
    refine ca_I hF hw (c1_fail l G a σ ((-3)) hok.1) wv_X1_137 (q0 := 0) rfl rfl rfl ⟨nd_X1.1, nd_X1.2, pd_X1_fail⟩ ⟨Nat.le_of_ble_eq_true rfl, Nat.le_of_ble_eq_true rfl⟩ ⟨Nat.zero_le _, Nat.zero_le _⟩ hl.1 rfl (by first | exact Nat.le_of_ble_eq_true rfl | simp [cat_rf, Value.category]) dX1_doDraw_19 (fun r2 σ3 H locs hp hw => ?_)
    obtain ⟨er2, eσ3⟩ := hp
    replace hok := hok.2 r2 σ3 er2 eσ3
    exact rt_I (u := σ3) hF hw hok (Nat.zero_le _) (Nat.zero_le _) dX1_doDraw_22
  · replace hok := hok.2 c1
    refine lv_iload_n hF.x hF.b dX1_doDraw_4 rfl (lv_at hl 2 rfl) ?_
    refine lv_aload_n hF.x hF.b dX1_doDraw_5 rfl (lv_at hl 0 rfl) ?_
    refine lv_aload_n hF.x hF.b dX1_doDraw_6 rfl (lv_at hl 1 rfl) ?_
    refine rx_dget (k := 1) hF hw hok.1 (by decide) (by unfold nestW; simp [TX0]) rfl dX1_doDraw_7 ?_
    replace hok := hok.2
    refine ca_I hF hw (c1_heldBy l G a σ ((σ.2.2.2.1.2 d1).1 1) hok.1) wv_X1_55 (q0 := 0) rfl rfl rfl ⟨nd_X1.1, nd_X1.2, pd_X1_heldBy⟩ ⟨Nat.le_of_ble_eq_true rfl, Nat.le_of_ble_eq_true rfl⟩ ⟨Nat.zero_le _, Nat.zero_le _⟩ hl.1 rfl (by first | exact Nat.le_of_ble_eq_true rfl | simp [cat_rf, Value.category]) dX1_doDraw_10 (fun r4 σ5 H locs hp hw => ?_)
    obtain ⟨er4, eσ5⟩ := hp
    replace hok := hok.2 r4 σ5 er4 eσ5
    refine lv_icmp_le (tgt := 23) hF.x hF.b dX1_doDraw_13 (by decide) (fun c6 => ?_) (fun c6 => ?_)
    · replace hok := hok.1 c6
      refine lv_aload_n hF.x hF.b dX1_doDraw_23 rfl (lv_at hl 0 rfl) ?_
      refine lv_aload_n hF.x hF.b dX1_doDraw_24 rfl (lv_at hl 1 rfl) ?_
      refine rx_dget (k := 1) hF hw hok.1 (by decide) (by unfold nestW; simp [TX0]) rfl dX1_doDraw_25 ?_
      replace hok := hok.2
      refine lv_aload_n hF.x hF.b dX1_doDraw_28 rfl (lv_at hl 0 rfl) ?_
      refine lv_aload_n hF.x hF.b dX1_doDraw_29 rfl (lv_at hl 1 rfl) ?_
      refine rx_dget (k := 1) hF hw hok.1 (by decide) (by unfold nestW; simp [TX0]) rfl dX1_doDraw_30 ?_
      replace hok := hok.2
      refine ca_I hF hw (c1_heldBy l G a σ5 ((σ5.2.2.2.1.2 d1).1 1) hok.1) wv_X1_55 (q0 := 0) rfl rfl rfl ⟨nd_X1.1, nd_X1.2, pd_X1_heldBy⟩ ⟨Nat.le_of_ble_eq_true rfl, Nat.le_of_ble_eq_true rfl⟩ ⟨Nat.zero_le _, Nat.zero_le _⟩ hl.1 rfl (by first | exact Nat.le_of_ble_eq_true rfl | simp [cat_rf, Value.category]) dX1_doDraw_33 (fun r7 σ8 H locs hp hw => ?_)
      obtain ⟨er7, eσ8⟩ := hp
      replace hok := hok.2 r7 σ8 er7 eσ8
      refine lv_iload_n hF.x hF.b dX1_doDraw_36 rfl (lv_at hl 2 rfl) ?_
      refine lv_isub hF.x hF.b dX1_doDraw_37 ?_
      refine lv_topi (fun x9 ex9 => ?_)
      replace hok := hok x9 ex9
      refine ca_V hF hw (c1_pour l G a σ8 ((σ5.2.2.2.1.2 d1).1 1) x9 hok.1) wv_X1_59 (q0 := 0) rfl rfl rfl ⟨nd_X1.1, nd_X1.2, pd_X1_pour⟩ ⟨Nat.le_of_ble_eq_true rfl, Nat.le_of_ble_eq_true rfl⟩ ⟨Nat.zero_le _, Nat.zero_le _⟩ hl.1 rfl (by first | exact Nat.le_of_ble_eq_true rfl | simp [cat_rf, Value.category]) dX1_doDraw_38 (fun σ10 H locs eσ10 hw => ?_)
      replace hok := hok.2 σ10 eσ10
      refine lv_aload_n hF.x hF.b dX1_doDraw_41 rfl (lv_at hl 0 rfl) ?_
      refine lv_aload_n hF.x hF.b dX1_doDraw_42 rfl (lv_at hl 1 rfl) ?_
      refine rx_dget (k := 2) hF hw hok.1 (by decide) (by unfold nestW; simp [TX0]) rfl dX1_doDraw_43 ?_
      replace hok := hok.2
      refine lv_aload_n hF.x hF.b dX1_doDraw_46 rfl (lv_at hl 0 rfl) ?_
      refine lv_aload_n hF.x hF.b dX1_doDraw_47 rfl (lv_at hl 1 rfl) ?_
      refine rx_dget (k := 2) hF hw hok.1 (by decide) (by unfold nestW; simp [TX0]) rfl dX1_doDraw_48 ?_
      replace hok := hok.2
      refine ca_I hF hw (c1_heldBy l G a σ10 ((σ10.2.2.2.1.2 d1).1 2) hok.1) wv_X1_55 (q0 := 0) rfl rfl rfl ⟨nd_X1.1, nd_X1.2, pd_X1_heldBy⟩ ⟨Nat.le_of_ble_eq_true rfl, Nat.le_of_ble_eq_true rfl⟩ ⟨Nat.zero_le _, Nat.zero_le _⟩ hl.1 rfl (by first | exact Nat.le_of_ble_eq_true rfl | simp [cat_rf, Value.category]) dX1_doDraw_51 (fun r11 σ12 H locs hp hw => ?_)
      obtain ⟨er11, eσ12⟩ := hp
      replace hok := hok.2 r11 σ12 er11 eσ12
      refine lv_iload_n hF.x hF.b dX1_doDraw_54 rfl (lv_at hl 2 rfl) ?_
      refine lv_iadd hF.x hF.b dX1_doDraw_55 ?_
      refine lv_topi (fun x13 ex13 => ?_)
      replace hok := hok x13 ex13
      refine ca_V hF hw (c1_pour l G a σ12 ((σ10.2.2.2.1.2 d1).1 2) x13 hok.1) wv_X1_59 (q0 := 0) rfl rfl rfl ⟨nd_X1.1, nd_X1.2, pd_X1_pour⟩ ⟨Nat.le_of_ble_eq_true rfl, Nat.le_of_ble_eq_true rfl⟩ ⟨Nat.zero_le _, Nat.zero_le _⟩ hl.1 rfl (by first | exact Nat.le_of_ble_eq_true rfl | simp [cat_rf, Value.category]) dX1_doDraw_56 (fun σ14 H locs eσ14 hw => ?_)
      replace hok := hok.2 σ14 eσ14
      refine lv_aload_n hF.x hF.b dX1_doDraw_59 rfl (lv_at hl 0 rfl) ?_
      refine lv_aload_n hF.x hF.b dX1_doDraw_60 rfl (lv_at hl 1 rfl) ?_
      refine rx_dget (k := 1) hF hw hok.1 (by decide) (by unfold nestW; simp [TX0]) rfl dX1_doDraw_61 ?_
      replace hok := hok.2
      refine ca_I hF hw (c1_heldBy l G a σ14 ((σ14.2.2.2.1.2 d1).1 1) hok.1) wv_X1_55 (q0 := 0) rfl rfl rfl ⟨nd_X1.1, nd_X1.2, pd_X1_heldBy⟩ ⟨Nat.le_of_ble_eq_true rfl, Nat.le_of_ble_eq_true rfl⟩ ⟨Nat.zero_le _, Nat.zero_le _⟩ hl.1 rfl (by first | exact Nat.le_of_ble_eq_true rfl | simp [cat_rf, Value.category]) dX1_doDraw_64 (fun r15 σ16 H locs hp hw => ?_)
      obtain ⟨er15, eσ16⟩ := hp
      replace hok := hok.2 r15 σ16 er15 eσ16
      exact rt_I (u := σ16) hF hw hok (Nat.zero_le _) (Nat.zero_le _) dX1_doDraw_67
    · replace hok := hok.2 c6
      refine lv_aload_n hF.x hF.b dX1_doDraw_16 rfl (lv_at hl 0 rfl) ?_
      refine lv_bipush (v := (-3)) hF.x hF.b dX1_doDraw_17 (by decide) ?_
      refine ca_I hF hw (c1_fail l G a σ5 ((-3)) hok.1) wv_X1_137 (q0 := 0) rfl rfl rfl ⟨nd_X1.1, nd_X1.2, pd_X1_fail⟩ ⟨Nat.le_of_ble_eq_true rfl, Nat.le_of_ble_eq_true rfl⟩ ⟨Nat.zero_le _, Nat.zero_le _⟩ hl.1 rfl (by first | exact Nat.le_of_ble_eq_true rfl | simp [cat_rf, Value.category]) dX1_doDraw_19 (fun r17 σ18 H locs hp hw => ?_)
      obtain ⟨er17, eσ18⟩ := hp
      replace hok := hok.2 r17 σ18 er17 eσ18
      exact rt_I (u := σ18) hF hw hok (Nat.zero_le _) (Nat.zero_le _) dX1_doDraw_22

theorem p1_doDraw (σ : SX) (d1 : Nat) (v2 : Int32) (h : q1_doDraw σ d1 v2) : wp_X1_doDraw_0 σ d1 v2 (fun r u => r = (f1_doDraw σ d1 v2).1 ∧ u = (f1_doDraw σ d1 v2).2) := by
  refine ⟨fun c1 => ⟨trivial, fun r2 σ3 e2 e3 => ?_⟩, fun c1 => ⟨h.2, trivial, fun r4 σ5 e4 e5 => ?_⟩⟩
  · simp only [f1_doDraw]
    rw [if_pos c1]
    exact ⟨e2, e3⟩
  · obtain rfl : σ5 = σ := e5
    subst e4
    refine ⟨fun c2 => ⟨h.2, h.2, trivial, fun r7 σ8 e7 e8 => ?_⟩, fun c2 => ⟨trivial, fun r17 σ18 e17 e18 => ?_⟩⟩
    · obtain rfl : σ8 = σ5 := e8
      subst e7
      refine fun x9 e9 => ⟨trivial, fun σ10 e10 => ?_⟩
      subst e9
      have hD : σ10.2.2 = σ8.2.2 := by rw [e10, pour_D]
      rw [hD]
      refine ⟨h.2, h.2, trivial, fun r11 σ12 e11 e12 => ?_⟩
      obtain rfl : σ12 = σ10 := e12
      subst e11
      refine fun x13 e13 => ⟨trivial, fun σ14 e14 => ?_⟩
      subst e13
      have hD2 : σ14.2.2 = σ8.2.2 := by rw [e14, pour_D, hD]
      rw [hD2]
      refine ⟨h.2, trivial, fun r15 σ16 e15 e16 => ?_⟩
      obtain rfl : σ16 = σ14 := e16
      subst e14; subst e10
      simp only [f1_doDraw]
      rw [if_neg c1, if_pos c2]
      exact ⟨e15, rfl⟩
    · simp only [f1_doDraw]
      rw [if_neg c1, if_neg c2]
      exact ⟨e17, e18⟩

theorem c1_doDraw (l : Launch) (G : Gm) (a : AX) (σ : SX) (d1 : Nat) (v2 : Int32) (h : q1_doDraw σ d1 v2) : ctI l yX1_doDraw cX1_doDraw 3 .int (rr 2 42) G [.ref (a.1 13), .ref (a.2.1 d1), .int v2] (wX G a σ) (fun (r : Int32) (u : SX) => r = (f1_doDraw σ d1 v2).1 ∧ u = (f1_doDraw σ d1 v2).2) (wX G a) := by
  refine en_I (by decide +kernel) (Nat.le_of_ble_eq_true rfl) (fun p e s m below meth c A ls hF hw hl => ?_)
  exact k_X1_doDraw_0 hF σ d1 v2 hw hl (p1_doDraw σ d1 v2 h)

def wp_X1_doMark_0 (σ : SX) (d1 : Nat) (v2 : Int32)  (post : Int32 → SX → Prop) : Prop :=
  d1 < σ.2.2.2.1.1 ∧ ∀ o1 : Option Nat, o1 = (σ.2.2.2.1.2 d1).2 6 → d1 < σ.2.2.2.1.1 ∧ q1_hasMark σ o1 ((σ.2.2.2.1.2 d1).1 2) ∧ ∀ (r2 : Int32) (σ3 : SX), r2 = (f1_hasMark σ o1 ((σ.2.2.2.1.2 d1).1 2)).1 → σ3 = (f1_hasMark σ o1 ((σ.2.2.2.1.2 d1).1 2)).2 → (¬ r2 = 0 → d1 < σ3.2.2.2.1.1 ∧ ∃ w5 : Nat, o1 = some w5 ∧ w5 < σ3.2.2.2.2.1 ∧ vp_in ((σ3.2.2.2.1.2 d1).1 2) (σ3.2.2.2.2.2 w5).1 ∧ ∀ x6 : Int32, x6 = ((σ3.2.2.2.2.2 w5).2 ((σ3.2.2.2.1.2 d1).1 2).toNatClampNeg) + v2 → w5 < σ3.2.2.2.2.1 ∧ vp_in ((σ3.2.2.2.1.2 d1).1 2) (σ3.2.2.2.2.2 w5).1 ∧ ∀ σ7 : SX, σ7 = (σ3.1, σ3.2.1, σ3.2.2.1, σ3.2.2.2.1, (σ3.2.2.2.2.1, va_up σ3.2.2.2.2.2 w5 ((σ3.2.2.2.2.2 w5).1, upd (σ3.2.2.2.2.2 w5).2 ((σ3.2.2.2.1.2 d1).1 2).toNatClampNeg x6))) → d1 < σ7.2.2.2.1.1 ∧ w5 < σ7.2.2.2.2.1 ∧ vp_in ((σ7.2.2.2.1.2 d1).1 2) (σ7.2.2.2.2.2 w5).1 ∧ post ((σ7.2.2.2.2.2 w5).2 ((σ7.2.2.2.1.2 d1).1 2).toNatClampNeg) σ7) ∧ (r2 = 0 → q1_fail σ3 ((-4)) ∧ ∀ (r8 : Int32) (σ9 : SX), r8 = (f1_fail σ3 ((-4))).1 → σ9 = (f1_fail σ3 ((-4))).2 → post r8 σ9)
set_option maxHeartbeats 4000000 in
set_option maxRecDepth 100000 in
theorem k_X1_doMark_0 {l : Launch} {p : Program} {e : Env} {s : State} {m : MethodId} {below : List Frame} {meth : Method} {c : Code} {args : Array Value} {A : Nat → Prop} {G : Gm} {a : AX}  (hF : fx p s m args meth c cX1_doMark 4 yX1_doMark.cls kX1_doMark (some (.int))) {post : Int32 → SX → Prop}  (σ : SX) (d1 : Nat) (v2 : Int32) {H : Heap} {locs : List Loc} {ls : Array Slot} (hw : wb G A s (wX G a σ) H locs) (hl : lv_has ls 4 [(0, .ref (a.1 13)), (1, .ref (a.2.1 d1)), (2, .int v2)]) (hok : wp_X1_doMark_0 σ d1 v2  post) :
    W p l e (rr 1 21) s m args below meth c H locs 0 0 (MQ below (va_Qi post (po G A (wX G a)) A) args s 0 0 A) (F0 m 0 ls []) := by
  unfold wp_X1_doMark_0 at hok
  refine lv_aload_n hF.x hF.b dX1_doMark_0 rfl (lv_at hl 1 rfl) ?_
  refine rx_dget (k := 6) hF hw hok.1 (by decide) (by unfold nestW; simp [TX0]) rfl dX1_doMark_1 ?_
  obtain ⟨o1, eo1⟩ : ∃ z : Option Nat, z = (σ.2.2.2.1.2 d1).2 6 := ⟨_, rfl⟩
  rw [← eo1]
  replace hok := hok.2 o1 eo1
  refine lq_astore_n (lv' := [(3, va_rf (Option.map a.2.2 o1)), (0, .ref (a.1 13)), (1, .ref (a.2.1 d1)), (2, .int v2)]) hF dX1_doMark_4 rfl hl (by decide) (by first | rfl | (simp [cat_rf]; done) | (simp [cat_rf]; decide)) (fun ls hl => ?_)
  refine lq_aload_n hF dX1_doMark_5 rfl (lv_at hl 0 rfl) ?_
  refine lv_aload_n hF.x hF.b dX1_doMark_6 rfl (lv_at hl 2 rfl) ?_
  refine rx_dget (k := 2) hF hw hok.1 (by decide) (by unfold nestW; simp [TX0]) rfl dX1_doMark_7 ?_
  replace hok := hok.2
  refine ca_W hF hw (c1_hasMark l G a σ o1 ((σ.2.2.2.1.2 d1).1 2) hok.1) wv_X1_71 ⟨rfl, nd_X1.1, nd_X1.2, pd_X1_hasMark⟩ ⟨Nat.le_of_ble_eq_true rfl, Nat.le_of_ble_eq_true rfl⟩ ⟨Nat.zero_le _, Nat.zero_le _⟩ hl.1 rfl (by first | exact Nat.le_of_ble_eq_true rfl | simp [cat_rf, Value.category]) dX1_doMark_10 (fun r2 σ3 H locs hp hw => ?_)
  obtain ⟨er2, eσ3⟩ := hp
  replace hok := hok.2 r2 σ3 er2 eσ3
  refine lv_if_ne (tgt := 23) hF.x hF.b dX1_doMark_13 (by decide) (fun c4 => ?_) (fun c4 => ?_)
  · replace hok := hok.1 c4
    refine lq_aload_n hF dX1_doMark_23 rfl (lv_at hl 0 rfl) ?_
    refine lv_aload_n hF.x hF.b dX1_doMark_24 rfl (lv_at hl 2 rfl) ?_
    refine rx_dget (k := 2) hF hw hok.1 (by decide) (by unfold nestW; simp [TX0]) rfl dX1_doMark_25 ?_
    replace hok := hok.2
    refine lv_dup2_11 hF.x hF.b dX1_doMark_28 rfl (cat_rf _) ?_
    obtain ⟨w5, ew5, hok⟩ := hok
    subst ew5
    have hl : lv_has ls 4 [(3, .ref (a.2.2 w5)), (0, .ref (a.1 13)), (1, .ref (a.2.1 d1)), (2, .int v2)] := hl
    refine rx_rald hF hw hok.1 hok.2.1 dX1_doMark_29 ?_
    replace hok := hok.2.2
    refine lv_iload_n hF.x hF.b dX1_doMark_30 rfl (lv_at hl 3 rfl) ?_
    refine lv_iadd hF.x hF.b dX1_doMark_31 ?_
    refine lv_topi (fun x6 ex6 => ?_)
    replace hok := hok x6 ex6
    refine rx_rast hF hw hok.1 hok.2.1 dX1_doMark_32 (fun σ7 H locs eσ7 hw => ?_)
    replace hok := hok.2.2 σ7 eσ7
    refine lv_aload_n hF.x hF.b dX1_doMark_33 rfl (lv_at hl 0 rfl) ?_
    refine lv_aload_n hF.x hF.b dX1_doMark_34 rfl (lv_at hl 2 rfl) ?_
    refine rx_dget (k := 2) hF hw hok.1 (by decide) (by unfold nestW; simp [TX0]) rfl dX1_doMark_35 ?_
    replace hok := hok.2
    refine rx_rald hF hw hok.1 hok.2.1 dX1_doMark_38 ?_
    replace hok := hok.2.2
    exact rt_I (u := σ7) hF hw hok (Nat.zero_le _) (Nat.zero_le _) dX1_doMark_39
  · replace hok := hok.2 c4
    refine lv_aload_n hF.x hF.b dX1_doMark_16 rfl (lv_at hl 1 rfl) ?_
    refine lv_bipush (v := (-4)) hF.x hF.b dX1_doMark_17 (by decide) ?_
    refine ca_I hF hw (c1_fail l G a σ3 ((-4)) hok.1) wv_X1_137 (q0 := 0) rfl rfl rfl ⟨nd_X1.1, nd_X1.2, pd_X1_fail⟩ ⟨Nat.le_of_ble_eq_true rfl, Nat.le_of_ble_eq_true rfl⟩ ⟨Nat.zero_le _, Nat.zero_le _⟩ hl.1 rfl (by first | exact Nat.le_of_ble_eq_true rfl | simp [cat_rf, Value.category]) dX1_doMark_19 (fun r8 σ9 H locs hp hw => ?_)
    obtain ⟨er8, eσ9⟩ := hp
    replace hok := hok.2 r8 σ9 er8 eσ9
    exact rt_I (u := σ9) hF hw hok (Nat.zero_le _) (Nat.zero_le _) dX1_doMark_22

theorem p1_doMark (σ : SX) (d1 : Nat) (v2 : Int32) (h : q1_doMark σ d1 v2) : wp_X1_doMark_0 σ d1 v2 (fun r u => r = (f1_doMark σ d1 v2).1 ∧ u = (f1_doMark σ d1 v2).2) := by
  refine ⟨h.2, fun o1 e1 => ⟨h.2, fun r hr => (h.1.2.2.1 d1 h.2).2.2 r (by rw [← e1]; exact hr), fun r2 σ3 e2 e3 => ?_⟩⟩
  obtain rfl : σ3 = σ := e3
  subst e2
  refine ⟨fun c => ⟨h.2, ?_⟩, fun c => ⟨trivial, fun r8 σ9 e8 e9 => ?_⟩⟩
  · cases o1 with
    | none => exact absurd rfl c
    | some r =>
      have hr : r < σ3.2.2.2.2.1 := (h.1.2.2.1 d1 h.2).2.2 r e1.symm
      have hin : vp_in ((σ3.2.2.2.1.2 d1).1 2) (σ3.2.2.2.2.2 r).1 := hasMark_in c (h.1.2.2.2.1 r)
      refine ⟨r, rfl, hr, hin, fun x6 e6 => ⟨hr, hin, fun σ7 e7 => ?_⟩⟩
      subst e6; subst e7
      refine ⟨h.2, hr, ?_, ?_⟩
      · simp only [va_up_self]
        exact hin
      · simp only [f1_doMark]
        rw [← e1]
        dsimp only
        rw [if_neg c]
        exact ⟨by simp [va_up, upd], rfl⟩
  · simp only [f1_doMark]
    cases o1 with
    | none => rw [← e1]; exact ⟨e8, e9⟩
    | some r => rw [← e1]; dsimp only; rw [if_pos c]; exact ⟨e8, e9⟩

theorem c1_doMark (l : Launch) (G : Gm) (a : AX) (σ : SX) (d1 : Nat) (v2 : Int32) (h : q1_doMark σ d1 v2) : ctI l yX1_doMark cX1_doMark 4 .int (rr 1 21) G [.ref (a.1 13), .ref (a.2.1 d1), .int v2] (wX G a σ) (fun (r : Int32) (u : SX) => r = (f1_doMark σ d1 v2).1 ∧ u = (f1_doMark σ d1 v2).2) (wX G a) := by
  refine en_I (by decide +kernel) (Nat.le_of_ble_eq_true rfl) (fun p e s m below meth c A ls hF hw hl => ?_)
  exact k_X1_doMark_0 hF σ d1 v2 hw hl (p1_doMark σ d1 v2 h)

def wp_X1_doLater_0 (σ : SX) (d1 : Nat) (v2 : Int32)  (post : Int32 → SX → Prop) : Prop :=
  ((σ.1 7) < 12 → ∀ x2 : Int32, x2 = (σ.1 6) + (σ.1 7) → ¬ (12 : Int32) = 0 ∧ ∀ x3 : Int32, x3 = x2 - x2 / 12 * 12 → d1 < σ.2.2.2.1.1 ∧ ∀ o4 : Option Nat, o4 = (σ.2.2.2.1.2 d1).2 4 → vp_in x3 12 ∧ (∀ z, o4 = some z → z < σ.2.2.2.1.1) ∧ ∀ σ5 : SX, σ5 = (σ.1, σ.2.1, va_up σ.2.2.1 4 (va_up (σ.2.2.1 4) x3.toNatClampNeg o4), σ.2.2.2) → vp_in x3 12 ∧ ∀ σ6 : SX, σ6 = (σ5.1, va_up σ5.2.1 5 (upd (σ5.2.1 5) x3.toNatClampNeg v2), σ5.2.2) → ∀ x7 : Int32, x7 = (σ6.1 7) + 1 → ∀ σ8 : SX, σ8 = (va_up σ6.1 7 x7, σ6.2) → post (σ8.1 7) σ8) ∧ (¬ (σ.1 7) < 12 → q1_fail σ ((-7)) ∧ ∀ (r9 : Int32) (σ10 : SX), r9 = (f1_fail σ ((-7))).1 → σ10 = (f1_fail σ ((-7))).2 → post r9 σ10)
set_option maxHeartbeats 4000000 in
set_option maxRecDepth 100000 in
theorem k_X1_doLater_0 {l : Launch} {p : Program} {e : Env} {s : State} {m : MethodId} {below : List Frame} {meth : Method} {c : Code} {args : Array Value} {A : Nat → Prop} {G : Gm} {a : AX}  (hF : fx p s m args meth c cX1_doLater 4 yX1_doLater.cls kX1_doLater (some (.int))) {post : Int32 → SX → Prop}  (σ : SX) (d1 : Nat) (v2 : Int32) {H : Heap} {locs : List Loc} {ls : Array Slot} (hw : wb G A s (wX G a σ) H locs) (hl : lv_has ls 4 [(0, .ref (a.1 13)), (1, .ref (a.2.1 d1)), (2, .int v2)]) (hok : wp_X1_doLater_0 σ d1 v2  post) :
    W p l e (rr 1 21) s m args below meth c H locs 0 0 (MQ below (va_Qi post (po G A (wX G a)) A) args s 0 0 A) (F0 m 0 ls []) := by
  unfold wp_X1_doLater_0 at hok
  refine lv_aload_n hF.x hF.b dX1_doLater_0 rfl (lv_at hl 0 rfl) ?_
  refine r_get hF hw 0 rfl rfl inlX1 7 (by decide) wf_X1_37 rfl dX1_doLater_1 ?_
  refine lv_bipush (v := 12) hF.x hF.b dX1_doLater_4 (by decide) ?_
  refine lv_icmp_lt (tgt := 16) hF.x hF.b dX1_doLater_6 (by decide) (fun c1 => ?_) (fun c1 => ?_)
  · replace hok := hok.1 c1
    refine lv_aload_n hF.x hF.b dX1_doLater_16 rfl (lv_at hl 0 rfl) ?_
    refine r_get hF hw 0 rfl rfl inlX1 6 (by decide) wf_X1_33 rfl dX1_doLater_17 ?_
    refine lv_aload_n hF.x hF.b dX1_doLater_20 rfl (lv_at hl 0 rfl) ?_
    refine r_get hF hw 0 rfl rfl inlX1 7 (by decide) wf_X1_37 rfl dX1_doLater_21 ?_
    refine lv_iadd hF.x hF.b dX1_doLater_24 ?_
    refine lv_topi (fun x2 ex2 => ?_)
    replace hok := hok x2 ex2
    refine lv_bipush (v := 12) hF.x hF.b dX1_doLater_25 (by decide) ?_
    refine lv_irem hF.x hF.b dX1_doLater_27 hok.1 ?_
    refine lv_topi (fun x3 ex3 => ?_)
    replace hok := hok.2 x3 ex3
    refine lv_istore_n (lv' := [(3, .int x3), (0, .ref (a.1 13)), (1, .ref (a.2.1 d1)), (2, .int v2)]) hF.x hF.b dX1_doLater_28 rfl hl (by decide) rfl (fun ls hl => ?_)
    refine lv_aload_n hF.x hF.b dX1_doLater_29 rfl (lv_at hl 1 rfl) ?_
    refine r_get hF hw 0 rfl rfl inlX1 4 (by decide) wf_X1_27 rfl dX1_doLater_30 ?_
    refine lv_iload_n hF.x hF.b dX1_doLater_33 rfl (lv_at hl 0 rfl) ?_
    refine lv_aload_n hF.x hF.b dX1_doLater_34 rfl (lv_at hl 2 rfl) ?_
    refine rx_dget (k := 4) hF hw hok.1 (by decide) (by unfold nestW; simp [TX0]) rfl dX1_doLater_35 ?_
    obtain ⟨o4, eo4⟩ : ∃ z : Option Nat, z = (σ.2.2.2.1.2 d1).2 4 := ⟨_, rfl⟩
    rw [← eo4]
    replace hok := hok.2 o4 eo4
    refine rx_aast (o := o4) 4 12 hF hw (by decide) hok.1 hok.2.1 dX1_doLater_38 (fun σ5 H locs eσ5 hw => ?_)
    replace hok := hok.2.2 σ5 eσ5
    refine lv_aload_n hF.x hF.b dX1_doLater_39 rfl (lv_at hl 1 rfl) ?_
    refine r_get hF hw 0 rfl rfl inlX1 5 (by decide) wf_X1_30 rfl dX1_doLater_40 ?_
    refine lv_iload_n hF.x hF.b dX1_doLater_43 rfl (lv_at hl 0 rfl) ?_
    refine lv_iload_n hF.x hF.b dX1_doLater_44 rfl (lv_at hl 3 rfl) ?_
    refine rx_iast 5 12 hF hw (by decide) hok.1 dX1_doLater_45 (fun σ6 H locs eσ6 hw => ?_)
    replace hok := hok.2 σ6 eσ6
    refine lv_aload_n hF.x hF.b dX1_doLater_46 rfl (lv_at hl 1 rfl) ?_
    refine lv_dup hF.x hF.b dX1_doLater_47 rfl ?_
    refine r_get hF hw 0 rfl rfl inlX1 7 (by decide) wf_X1_37 rfl dX1_doLater_48 ?_
    refine lv_iconst (v := 1) hF.x hF.b dX1_doLater_51 (by decide) ?_
    refine lv_iadd hF.x hF.b dX1_doLater_52 ?_
    refine lv_topi (fun x7 ex7 => ?_)
    replace hok := hok x7 ex7
    refine rx_put (v := x7) 7 hF hw (by decide) wf_X1_37 dX1_doLater_53 (fun σ8 H locs eσ8 hw => ?_)
    replace hok := hok σ8 eσ8
    refine lv_aload_n hF.x hF.b dX1_doLater_56 rfl (lv_at hl 1 rfl) ?_
    refine r_get hF hw 0 rfl rfl inlX1 7 (by decide) wf_X1_37 rfl dX1_doLater_57 ?_
    exact rt_I (u := σ8) hF hw hok (Nat.zero_le _) (Nat.zero_le _) dX1_doLater_60
  · replace hok := hok.2 c1
    refine lv_aload_n hF.x hF.b dX1_doLater_9 rfl (lv_at hl 0 rfl) ?_
    refine lv_bipush (v := (-7)) hF.x hF.b dX1_doLater_10 (by decide) ?_
    refine ca_I hF hw (c1_fail l G a σ ((-7)) hok.1) wv_X1_137 (q0 := 0) rfl rfl rfl ⟨nd_X1.1, nd_X1.2, pd_X1_fail⟩ ⟨Nat.le_of_ble_eq_true rfl, Nat.le_of_ble_eq_true rfl⟩ ⟨Nat.zero_le _, Nat.zero_le _⟩ hl.1 rfl (by first | exact Nat.le_of_ble_eq_true rfl | simp [cat_rf, Value.category]) dX1_doLater_12 (fun r9 σ10 H locs hp hw => ?_)
    obtain ⟨er9, eσ10⟩ := hp
    replace hok := hok.2 r9 σ10 er9 eσ10
    exact rt_I (u := σ10) hF hw hok (Nat.zero_le _) (Nat.zero_le _) dX1_doLater_15

theorem p1_doLater (σ : SX) (d1 : Nat) (v2 : Int32) (h : q1_doLater σ d1 v2) : wp_X1_doLater_0 σ d1 v2 (fun r u => r = (f1_doLater σ d1 v2).1 ∧ u = (f1_doLater σ d1 v2).2) := by
  obtain ⟨hq, w, hh, hw, e6, e7⟩ := h.1.2.2.2.2
  refine ⟨fun c x2 e2 => ⟨by decide, fun x3 e3 => ⟨h.2, fun o4 e4 => ?_⟩⟩, fun c => ⟨trivial, fun r8 σ9 e8 e9 => ?_⟩⟩
  · subst e2
    have e3' : x3 = x_end σ := e3
    have hin : vp_in x3 12 := by rw [e3', x_end_at hh hw e6 e7]; exact vp_in_nI (by omega) (by decide)
    refine ⟨hin, fun z hz => (h.1.2.2.1 d1 h.2).1 z (by rw [← e4]; exact hz), fun σ5 e5 => ⟨hin, fun σ6 e6' x7 e7' σ8 e8 => ?_⟩⟩
    subst e5; subst e6'; subst e7'; subst e8; subst e3'; subst e4
    simp only [f1_doLater]
    rw [if_pos c]
    exact ⟨by simp [va_up], rfl⟩
  · simp only [f1_doLater]
    rw [if_neg c]
    exact ⟨e8, e9⟩

theorem c1_doLater (l : Launch) (G : Gm) (a : AX) (σ : SX) (d1 : Nat) (v2 : Int32) (h : q1_doLater σ d1 v2) : ctI l yX1_doLater cX1_doLater 4 .int (rr 1 21) G [.ref (a.1 13), .ref (a.2.1 d1), .int v2] (wX G a σ) (fun (r : Int32) (u : SX) => r = (f1_doLater σ d1 v2).1 ∧ u = (f1_doLater σ d1 v2).2) (wX G a) := by
  refine en_I (by decide +kernel) (Nat.le_of_ble_eq_true rfl) (fun p e s m below meth c A ls hF hw hl => ?_)
  exact k_X1_doLater_0 hF σ d1 v2 hw hl (p1_doLater σ d1 v2 h)

def wp_X1_doAlone_0 (σ : SX) (d1 : Nat) (v2 : Int32)  (post : Int32 → SX → Prop) : Prop :=
  d1 < σ.2.2.2.1.1 ∧ (((σ.2.2.2.1.2 d1).1 0).toInt < 0 ∨ 6 < ((σ.2.2.2.1.2 d1).1 0).toInt → q1_fail σ ((-6)) ∧ ∀ (r2 : Int32) (σ3 : SX), r2 = (f1_fail σ ((-6))).1 → σ3 = (f1_fail σ ((-6))).2 → post r2 σ3) ∧ (((σ.2.2.2.1.2 d1).1 0) = 0 → d1 < σ.2.2.2.1.1 ∧ post ((σ.2.2.2.1.2 d1).1 1) σ) ∧ (((σ.2.2.2.1.2 d1).1 0) = 1 → q1_doSet σ d1 v2 ∧ ∀ (r4 : Int32) (σ5 : SX), r4 = (f1_doSet σ d1 v2).1 → σ5 = (f1_doSet σ d1 v2).2 → post r4 σ5) ∧ (((σ.2.2.2.1.2 d1).1 0) = 2 → q1_doAdd σ d1 v2 ∧ ∀ (r6 : Int32) (σ7 : SX), r6 = (f1_doAdd σ d1 v2).1 → σ7 = (f1_doAdd σ d1 v2).2 → post r6 σ7) ∧ (((σ.2.2.2.1.2 d1).1 0) = 3 → q1_doDraw σ d1 v2 ∧ ∀ (r8 : Int32) (σ9 : SX), r8 = (f1_doDraw σ d1 v2).1 → σ9 = (f1_doDraw σ d1 v2).2 → post r8 σ9) ∧ (((σ.2.2.2.1.2 d1).1 0) = 4 → q1_doMark σ d1 v2 ∧ ∀ (r10 : Int32) (σ11 : SX), r10 = (f1_doMark σ d1 v2).1 → σ11 = (f1_doMark σ d1 v2).2 → post r10 σ11) ∧ (((σ.2.2.2.1.2 d1).1 0) = 5 → d1 < σ.2.2.2.1.1 ∧ (¬ ((σ.2.2.2.1.2 d1).1 1) = 0 → d1 < σ.2.2.2.1.1 ∧ ¬ ((σ.2.2.2.1.2 d1).1 1 : Int32) = 0 ∧ ∀ x13 : Int32, x13 = v2 / ((σ.2.2.2.1.2 d1).1 1) → post x13 σ) ∧ (((σ.2.2.2.1.2 d1).1 1) = 0 → q1_fail σ ((-5)) ∧ ∀ (r14 : Int32) (σ15 : SX), r14 = (f1_fail σ ((-5))).1 → σ15 = (f1_fail σ ((-5))).2 → post r14 σ15)) ∧ (((σ.2.2.2.1.2 d1).1 0) = 6 → d1 < σ.2.2.2.1.1 ∧ ∀ x16 : Int32, x16 = v2 + ((σ.2.2.2.1.2 d1).1 1) → post x16 σ)
set_option maxHeartbeats 4000000 in
set_option maxRecDepth 100000 in
theorem k_X1_doAlone_0 {l : Launch} {p : Program} {e : Env} {s : State} {m : MethodId} {below : List Frame} {meth : Method} {c : Code} {args : Array Value} {A : Nat → Prop} {G : Gm} {a : AX}  (hF : fx p s m args meth c cX1_doAlone 3 yX1_doAlone.cls kX1_doAlone (some (.int))) {post : Int32 → SX → Prop}  (σ : SX) (d1 : Nat) (v2 : Int32) {H : Heap} {locs : List Loc} {ls : Array Slot} (hw : wb G A s (wX G a σ) H locs) (hl : lv_has ls 3 [(0, .ref (a.1 13)), (1, .ref (a.2.1 d1)), (2, .int v2)]) (hok : wp_X1_doAlone_0 σ d1 v2  post) :
    W p l e (rr 3 65) s m args below meth c H locs 0 0 (MQ below (va_Qi post (po G A (wX G a)) A) args s 0 0 A) (F0 m 0 ls []) := by
  unfold wp_X1_doAlone_0 at hok
  refine lv_aload_n hF.x hF.b dX1_doAlone_0 rfl (lv_at hl 1 rfl) ?_
  refine rx_dget (k := 0) hF hw hok.1 (by decide) (by unfold nestW; simp [TX0]) rfl dX1_doAlone_1 ?_
  replace hok := hok.2
  by_cases c1 : ((σ.2.2.2.1.2 d1).1 0).toInt < 0 ∨ 6 < ((σ.2.2.2.1.2 d1).1 0).toInt
  · replace hok := hok.1 c1
    refine lv_tableOut (tgt := 111) hF.x hF.b dX1_doAlone_4 c1 (by decide) ?_
    refine lv_aload_n hF.x hF.b dX1_doAlone_111 rfl (lv_at hl 0 rfl) ?_
    refine lv_bipush (v := (-6)) hF.x hF.b dX1_doAlone_112 (by decide) ?_
    refine ca_I hF hw (c1_fail l G a σ ((-6)) hok.1) wv_X1_137 (q0 := 0) rfl rfl rfl ⟨nd_X1.1, nd_X1.2, pd_X1_fail⟩ ⟨Nat.le_of_ble_eq_true rfl, Nat.le_of_ble_eq_true rfl⟩ ⟨Nat.zero_le _, Nat.zero_le _⟩ hl.1 rfl (by first | exact Nat.le_of_ble_eq_true rfl | simp [cat_rf, Value.category]) dX1_doAlone_114 (fun r2 σ3 H locs hp hw => ?_)
    obtain ⟨er2, eσ3⟩ := hp
    replace hok := hok.2 r2 σ3 er2 eσ3
    exact rt_I (u := σ3) hF hw hok (Nat.zero_le _) (Nat.zero_le _) dX1_doAlone_117
  · obtain ⟨j, hj1, hj2, ex⟩ := sw_in (lo := 0) (hi := 6) c1 (by decide)
    rcases (show j = 0 ∨ j = 1 ∨ j = 2 ∨ j = 3 ∨ j = 4 ∨ j = 5 ∨ j = 6 by omega) with rfl | rfl | rfl | rfl | rfl | rfl | rfl
    · replace hok := hok.2.1 ex
      refine lv_tableIn (off := 44) (tgt := 48) hF.x hF.b dX1_doAlone_4 (by rw [ex]; decide) (by rw [ex]; decide) (by rw [ex]; rfl) (by decide) ?_
      refine lv_aload_n hF.x hF.b dX1_doAlone_48 rfl (lv_at hl 1 rfl) ?_
      refine rx_dget (k := 1) hF hw hok.1 (by decide) (by unfold nestW; simp [TX0]) rfl dX1_doAlone_49 ?_
      replace hok := hok.2
      exact rt_I (u := σ) hF hw hok (Nat.zero_le _) (Nat.zero_le _) dX1_doAlone_52
    · replace hok := hok.2.2.1 ex
      refine lv_tableIn (off := 49) (tgt := 53) hF.x hF.b dX1_doAlone_4 (by rw [ex]; decide) (by rw [ex]; decide) (by rw [ex]; rfl) (by decide) ?_
      refine lv_aload_n hF.x hF.b dX1_doAlone_53 rfl (lv_at hl 0 rfl) ?_
      refine lv_aload_n hF.x hF.b dX1_doAlone_54 rfl (lv_at hl 1 rfl) ?_
      refine lv_iload_n hF.x hF.b dX1_doAlone_55 rfl (lv_at hl 2 rfl) ?_
      refine ca_I hF hw (c1_doSet l G a σ d1 v2 hok.1) wv_X1_150 (q0 := 0) rfl rfl rfl ⟨nd_X1.1, nd_X1.2, pd_X1_doSet⟩ ⟨Nat.le_of_ble_eq_true rfl, Nat.le_of_ble_eq_true rfl⟩ ⟨Nat.zero_le _, Nat.zero_le _⟩ hl.1 rfl (by first | exact Nat.le_of_ble_eq_true rfl | simp [cat_rf, Value.category]) dX1_doAlone_56 (fun r4 σ5 H locs hp hw => ?_)
      obtain ⟨er4, eσ5⟩ := hp
      replace hok := hok.2 r4 σ5 er4 eσ5
      exact rt_I (u := σ5) hF hw hok (Nat.zero_le _) (Nat.zero_le _) dX1_doAlone_59
    · replace hok := hok.2.2.2.1 ex
      refine lv_tableIn (off := 56) (tgt := 60) hF.x hF.b dX1_doAlone_4 (by rw [ex]; decide) (by rw [ex]; decide) (by rw [ex]; rfl) (by decide) ?_
      refine lv_aload_n hF.x hF.b dX1_doAlone_60 rfl (lv_at hl 0 rfl) ?_
      refine lv_aload_n hF.x hF.b dX1_doAlone_61 rfl (lv_at hl 1 rfl) ?_
      refine lv_iload_n hF.x hF.b dX1_doAlone_62 rfl (lv_at hl 2 rfl) ?_
      refine ca_I hF hw (c1_doAdd l G a σ d1 v2 hok.1) wv_X1_153 (q0 := 0) rfl rfl rfl ⟨nd_X1.1, nd_X1.2, pd_X1_doAdd⟩ ⟨Nat.le_of_ble_eq_true rfl, Nat.le_of_ble_eq_true rfl⟩ ⟨Nat.zero_le _, Nat.zero_le _⟩ hl.1 rfl (by first | exact Nat.le_of_ble_eq_true rfl | simp [cat_rf, Value.category]) dX1_doAlone_63 (fun r6 σ7 H locs hp hw => ?_)
      obtain ⟨er6, eσ7⟩ := hp
      replace hok := hok.2 r6 σ7 er6 eσ7
      exact rt_I (u := σ7) hF hw hok (Nat.zero_le _) (Nat.zero_le _) dX1_doAlone_66
    · replace hok := hok.2.2.2.2.1 ex
      refine lv_tableIn (off := 63) (tgt := 67) hF.x hF.b dX1_doAlone_4 (by rw [ex]; decide) (by rw [ex]; decide) (by rw [ex]; rfl) (by decide) ?_
      refine lv_aload_n hF.x hF.b dX1_doAlone_67 rfl (lv_at hl 0 rfl) ?_
      refine lv_aload_n hF.x hF.b dX1_doAlone_68 rfl (lv_at hl 1 rfl) ?_
      refine lv_iload_n hF.x hF.b dX1_doAlone_69 rfl (lv_at hl 2 rfl) ?_
      refine ca_I hF hw (c1_doDraw l G a σ d1 v2 hok.1) wv_X1_156 (q0 := 0) rfl rfl rfl ⟨nd_X1.1, nd_X1.2, pd_X1_doDraw⟩ ⟨Nat.le_of_ble_eq_true rfl, Nat.le_of_ble_eq_true rfl⟩ ⟨Nat.zero_le _, Nat.zero_le _⟩ hl.1 rfl (by first | exact Nat.le_of_ble_eq_true rfl | simp [cat_rf, Value.category]) dX1_doAlone_70 (fun r8 σ9 H locs hp hw => ?_)
      obtain ⟨er8, eσ9⟩ := hp
      replace hok := hok.2 r8 σ9 er8 eσ9
      exact rt_I (u := σ9) hF hw hok (Nat.zero_le _) (Nat.zero_le _) dX1_doAlone_73
    · replace hok := hok.2.2.2.2.2.1 ex
      refine lv_tableIn (off := 70) (tgt := 74) hF.x hF.b dX1_doAlone_4 (by rw [ex]; decide) (by rw [ex]; decide) (by rw [ex]; rfl) (by decide) ?_
      refine lv_aload_n hF.x hF.b dX1_doAlone_74 rfl (lv_at hl 0 rfl) ?_
      refine lv_aload_n hF.x hF.b dX1_doAlone_75 rfl (lv_at hl 1 rfl) ?_
      refine lv_iload_n hF.x hF.b dX1_doAlone_76 rfl (lv_at hl 2 rfl) ?_
      refine ca_I hF hw (c1_doMark l G a σ d1 v2 hok.1) wv_X1_159 (q0 := 0) rfl rfl rfl ⟨nd_X1.1, nd_X1.2, pd_X1_doMark⟩ ⟨Nat.le_of_ble_eq_true rfl, Nat.le_of_ble_eq_true rfl⟩ ⟨Nat.zero_le _, Nat.zero_le _⟩ hl.1 rfl (by first | exact Nat.le_of_ble_eq_true rfl | simp [cat_rf, Value.category]) dX1_doAlone_77 (fun r10 σ11 H locs hp hw => ?_)
      obtain ⟨er10, eσ11⟩ := hp
      replace hok := hok.2 r10 σ11 er10 eσ11
      exact rt_I (u := σ11) hF hw hok (Nat.zero_le _) (Nat.zero_le _) dX1_doAlone_80
    · replace hok := hok.2.2.2.2.2.2.1 ex
      refine lv_tableIn (off := 77) (tgt := 81) hF.x hF.b dX1_doAlone_4 (by rw [ex]; decide) (by rw [ex]; decide) (by rw [ex]; rfl) (by decide) ?_
      refine lv_aload_n hF.x hF.b dX1_doAlone_81 rfl (lv_at hl 1 rfl) ?_
      refine rx_dget (k := 1) hF hw hok.1 (by decide) (by unfold nestW; simp [TX0]) rfl dX1_doAlone_82 ?_
      replace hok := hok.2
      refine lv_if_ne (tgt := 97) hF.x hF.b dX1_doAlone_85 (by decide) (fun c12 => ?_) (fun c12 => ?_)
      · replace hok := hok.1 c12
        refine lv_iload_n hF.x hF.b dX1_doAlone_97 rfl (lv_at hl 2 rfl) ?_
        refine lv_aload_n hF.x hF.b dX1_doAlone_98 rfl (lv_at hl 1 rfl) ?_
        refine rx_dget (k := 1) hF hw hok.1 (by decide) (by unfold nestW; simp [TX0]) rfl dX1_doAlone_99 ?_
        replace hok := hok.2
        refine lv_idiv hF.x hF.b dX1_doAlone_102 hok.1 ?_
        refine lv_topi (fun x13 ex13 => ?_)
        replace hok := hok.2 x13 ex13
        exact rt_I (u := σ) hF hw hok (Nat.zero_le _) (Nat.zero_le _) dX1_doAlone_103
      · replace hok := hok.2 c12
        refine lv_aload_n hF.x hF.b dX1_doAlone_88 rfl (lv_at hl 0 rfl) ?_
        refine lv_bipush (v := (-5)) hF.x hF.b dX1_doAlone_89 (by decide) ?_
        refine ca_I hF hw (c1_fail l G a σ ((-5)) hok.1) wv_X1_137 (q0 := 0) rfl rfl rfl ⟨nd_X1.1, nd_X1.2, pd_X1_fail⟩ ⟨Nat.le_of_ble_eq_true rfl, Nat.le_of_ble_eq_true rfl⟩ ⟨Nat.zero_le _, Nat.zero_le _⟩ hl.1 rfl (by first | exact Nat.le_of_ble_eq_true rfl | simp [cat_rf, Value.category]) dX1_doAlone_91 (fun r14 σ15 H locs hp hw => ?_)
        obtain ⟨er14, eσ15⟩ := hp
        replace hok := hok.2 r14 σ15 er14 eσ15
        refine lv_goto (tgt := 103) hF.x hF.b dX1_doAlone_94 (by decide) ?_
        exact rt_I (u := σ15) hF hw hok (Nat.zero_le _) (Nat.zero_le _) dX1_doAlone_103
    · replace hok := hok.2.2.2.2.2.2.2 ex
      refine lv_tableIn (off := 100) (tgt := 104) hF.x hF.b dX1_doAlone_4 (by rw [ex]; decide) (by rw [ex]; decide) (by rw [ex]; rfl) (by decide) ?_
      refine lv_iload_n hF.x hF.b dX1_doAlone_104 rfl (lv_at hl 2 rfl) ?_
      refine lv_aload_n hF.x hF.b dX1_doAlone_105 rfl (lv_at hl 1 rfl) ?_
      refine rx_dget (k := 1) hF hw hok.1 (by decide) (by unfold nestW; simp [TX0]) rfl dX1_doAlone_106 ?_
      replace hok := hok.2
      refine lv_iadd hF.x hF.b dX1_doAlone_109 ?_
      refine lv_topi (fun x16 ex16 => ?_)
      replace hok := hok x16 ex16
      exact rt_I (u := σ) hF hw hok (Nat.zero_le _) (Nat.zero_le _) dX1_doAlone_110

theorem p1_doAlone (σ : SX) (d1 : Nat) (v2 : Int32) (h : q1_doAlone σ d1 v2) : wp_X1_doAlone_0 σ d1 v2 (fun r u => r = (f1_doAlone σ d1 v2).1 ∧ u = (f1_doAlone σ d1 v2).2) := by
  refine ⟨h.2, fun c => ⟨trivial, fun r2 σ3 e2 e3 => ?_⟩, fun c => ⟨h.2, ?_⟩, fun c => ⟨h, fun r4 σ5 e4 e5 => ?_⟩, fun c => ⟨h, fun r4 σ5 e4 e5 => ?_⟩, fun c => ⟨h, fun r4 σ5 e4 e5 => ?_⟩, fun c => ⟨h, fun r4 σ5 e4 e5 => ?_⟩, fun c => ⟨h.2, fun c2 => ⟨h.2, c2, fun x13 e13 => ?_⟩, fun c2 => ⟨trivial, fun r4 σ5 e4 e5 => ?_⟩⟩, fun c => ⟨h.2, fun x16 e16 => ?_⟩⟩ <;> simp only [f1_doAlone]
  · have hk : ∀ n : Nat, n ≤ 6 → ¬ (σ.2.2.2.1.2 d1).1 0 = nI n := fun n hn e => by
      rw [e, nI_toInt (by omega)] at c
      omega
    rw [if_neg (show ¬ (σ.2.2.2.1.2 d1).1 0 = 0 from hk 0 (by decide)), if_neg (show ¬ (σ.2.2.2.1.2 d1).1 0 = 1 from hk 1 (by decide)), if_neg (show ¬ (σ.2.2.2.1.2 d1).1 0 = 2 from hk 2 (by decide)), if_neg (show ¬ (σ.2.2.2.1.2 d1).1 0 = 3 from hk 3 (by decide)), if_neg (show ¬ (σ.2.2.2.1.2 d1).1 0 = 4 from hk 4 (by decide)), if_neg (show ¬ (σ.2.2.2.1.2 d1).1 0 = 5 from hk 5 (by decide)), if_neg (show ¬ (σ.2.2.2.1.2 d1).1 0 = 6 from hk 6 (by decide))]
    exact ⟨e2, e3⟩
  · rw [c, if_pos (by decide)]; exact ⟨rfl, rfl⟩
  · rw [c, if_neg (by decide), if_pos (by decide)]; exact ⟨e4, e5⟩
  · rw [c, if_neg (by decide), if_neg (by decide), if_pos (by decide)]; exact ⟨e4, e5⟩
  · rw [c, if_neg (by decide), if_neg (by decide), if_neg (by decide), if_pos (by decide)]; exact ⟨e4, e5⟩
  · rw [c, if_neg (by decide), if_neg (by decide), if_neg (by decide), if_neg (by decide), if_pos (by decide)]; exact ⟨e4, e5⟩
  · rw [c, if_neg (by decide), if_neg (by decide), if_neg (by decide), if_neg (by decide), if_neg (by decide), if_pos (by decide), if_neg c2]; exact ⟨e13, rfl⟩
  · rw [c, if_neg (by decide), if_neg (by decide), if_neg (by decide), if_neg (by decide), if_neg (by decide), if_pos (by decide), if_pos c2]; exact ⟨e4, e5⟩
  · rw [c, if_neg (by decide), if_neg (by decide), if_neg (by decide), if_neg (by decide), if_neg (by decide), if_neg (by decide), if_pos (by decide)]; exact ⟨e16, rfl⟩

theorem c1_doAlone (l : Launch) (G : Gm) (a : AX) (σ : SX) (d1 : Nat) (v2 : Int32) (h : q1_doAlone σ d1 v2) : ctI l yX1_doAlone cX1_doAlone 3 .int (rr 3 65) G [.ref (a.1 13), .ref (a.2.1 d1), .int v2] (wX G a σ) (fun (r : Int32) (u : SX) => r = (f1_doAlone σ d1 v2).1 ∧ u = (f1_doAlone σ d1 v2).2) (wX G a) := by
  refine en_I (by decide +kernel) (Nat.le_of_ble_eq_true rfl) (fun p e s m below meth c A ls hF hw hl => ?_)
  exact k_X1_doAlone_0 hF σ d1 v2 hw hl (p1_doAlone σ d1 v2 h)
end
section
/-! doing: the recursion, by the number of deeds that may still be begun within one another -/
abbrev rDo (k : Nat) : Room := rr (3 * k + 6) (75 * k + 160)
abbrev rTh (k : Nat) : Room := rr (3 * k + 7) (75 * k + 183)
abbrev rTO (k : Nat) : Room := rr (3 * k + 8) (75 * k + 208)
abbrev RecX : Type := SX → Option Nat → Int32 → Int32 × SX
def fx_it (rec : RecX) (oi : SX → Nat → Option Nat) : Nat → Nat → SX → Int32 → Int32 × SX
  | 0, _, σ, g => (g, σ)
  | n + 1, i, σ, g => if σ.1 11 = 0 then fx_it rec oi n (i + 1) (rec σ (oi σ i) g).2 (rec σ (oi σ i) g).1 else (g, σ)
def fx_then (rec : RecX) (σ : SX) (d : Nat) (p : Int32) : Int32 × SX :=
  let q := rec σ ((σ.2.2.2.1.2 d).2 4) p
  if q.2.1 11 = 0 then rec q.2 ((q.2.2.2.2.1.2 d).2 5) q.1 else (0, q.2)
def fx_times (rec : RecX) (σ : SX) (d : Nat) (p : Int32) : Int32 × SX := fx_it rec (fun σ' _ => (σ'.2.2.2.1.2 d).2 4) ((σ.2.2.2.1.2 d).1 2).toNatClampNeg 0 σ p
def fx_places (rec : RecX) (σ : SX) (lv : Int32) (p : Int32) : Int32 × SX := fx_it rec (fun σ' i => (f1_atPlace σ' lv (nI i)).1) 4 0 σ p
def fx_try (rec : RecX) (σ : SX) (d : Nat) (p : Int32) : Int32 × SX :=
  let q := rec σ ((σ.2.2.2.1.2 d).2 4) p
  if q.2.1 11 = 0 ∨ q.2.1 11 = -8 ∨ q.2.1 11 = -9 then q else rec (sxI q.2 11 0) ((q.2.2.2.2.1.2 d).2 5) p
def sxT (σ : SX) (d : Nat) (v : Int32) : SX := (σ.1, σ.2.1, σ.2.2.1, (σ.2.2.2.1.1, va_up σ.2.2.2.1.2 d (va_up (σ.2.2.2.1.2 d).1 7 v, (σ.2.2.2.1.2 d).2)), σ.2.2.2.2)
def fx_count (rec : RecX) (σ : SX) (d : Nat) (p : Int32) : Int32 × SX :=
  let q := rec σ ((σ.2.2.2.1.2 d).2 4) p
  if q.2.1 11 = 0 then ((q.2.2.2.2.1.2 d).1 7 + 1, sxT q.2 d ((q.2.2.2.2.1.2 d).1 7 + 1)) else (0, q.2)
def fx_to (rec : RecX) (σ : SX) (d : Nat) (p : Int32) : Int32 × SX :=
  let k := (σ.2.2.2.1.2 d).1 0
  if k = 7 then fx_then rec σ d p
  else if k = 8 then (if (f1_heldBy σ ((σ.2.2.2.1.2 d).1 3)).1 ≤ p then rec σ ((σ.2.2.2.1.2 d).2 4) p else rec σ ((σ.2.2.2.1.2 d).2 5) p)
  else if k = 9 then fx_times rec σ d p
  else if k = 10 then fx_try rec σ d p
  else if k = 11 then f1_doLater σ d p
  else if k = 12 then fx_count rec σ d p
  else if k = 13 then fx_places rec σ ((σ.2.2.2.1.2 d).1 1) p
  else if k = 14 then rec σ (f1_inSlot σ ((σ.2.2.2.1.2 d).1 1)).1 p
  else f1_fail σ (-6)
def fdo : Nat → RecX
  | 0, σ, _, _ => if σ.1 9 < 60 then f1_fail (sxI σ 9 (σ.1 9 + 1)) (-9) else f1_fail σ (-8)
  | k + 1, σ, o, p => if σ.1 9 < 60 then
      (match o with
      | none => f1_fail (sxI σ 9 (σ.1 9 + 1)) (-6)
      | some d => if 7 ≤ (σ.2.2.2.1.2 d).1 0 then fx_to (fdo k) (sxI σ 9 (σ.1 9 + 1)) d p else f1_doAlone (sxI σ 9 (σ.1 9 + 1)) d p)
    else f1_fail σ (-8)
abbrev f1_do (k : Nat) (σ : SX) (o : Option Nat) (p : Int32) (_ : Int32) : Int32 × SX := fdo k σ o p
/-- what a doing keeps -/
def XK (σ σ' : SX) : Prop := WFX σ' ∧ σ'.2.2.2.1.1 = σ.2.2.2.1.1 ∧ (∀ d, (σ'.2.2.2.1.2 d).2 = (σ.2.2.2.1.2 d).2 ∧ ∀ j, j ≠ 7 → (σ'.2.2.2.1.2 d).1 j = (σ.2.2.2.1.2 d).1 j) ∧ σ'.2.2.2.2.1 = σ.2.2.2.2.1 ∧ (∀ r, (σ'.2.2.2.2.2 r).1 = (σ.2.2.2.2.2 r).1) ∧ (∀ k, k ≠ 4 → σ'.2.2.1 k = σ.2.2.1 k) ∧ σ'.1 6 = σ.1 6 ∧ (σ.1 7).toInt ≤ (σ'.1 7).toInt
theorem XK.rf {σ : SX} (h : WFX σ) : XK σ σ := ⟨h, rfl, fun _ => ⟨rfl, fun _ _ => rfl⟩, rfl, fun _ => rfl, fun _ _ => rfl, rfl, Int.le_refl _⟩
theorem XK.tr {σ σ' σ'' : SX} (h : XK σ σ') (g : XK σ' σ'') : XK σ σ'' := by
  obtain ⟨-, h2, h3, h4, h5, h6, h7, h8⟩ := h
  obtain ⟨g1, g2, g3, g4, g5, g6, g7, g8⟩ := g
  exact ⟨g1, g2.trans h2, fun d => ⟨(g3 d).1.trans (h3 d).1, fun j hj => ((g3 d).2 j hj).trans ((h3 d).2 j hj)⟩, g4.trans h4, fun r => (g5 r).trans (h5 r), fun k hk => (g6 k hk).trans (h6 k hk), g7.trans h7, Int.le_trans h8 g8⟩
theorem wf_of {σ σ' : SX} (h : WFX σ) (h1 : σ'.2.2.1 = σ.2.2.1) (h2 : σ'.2.2.2.1.1 = σ.2.2.2.1.1) (h3 : ∀ d, (σ'.2.2.2.1.2 d).2 = (σ.2.2.2.1.2 d).2) (h4 : σ'.2.2.2.2.1 = σ.2.2.2.2.1) (h5 : ∀ r, (σ'.2.2.2.2.2 r).1 = (σ.2.2.2.2.2 r).1) (h6 : σ'.1 6 = σ.1 6) (h7 : σ'.1 7 = σ.1 7) : WFX σ' := by
  obtain ⟨a1, a2, a3, a4, a5⟩ := h
  refine ⟨?_, ?_, ?_, ?_, ?_⟩
  · intro k i d hk; rw [h1, h2]; exact a1 k i d hk
  · intro i r; rw [h1, h4]; exact a2 i r
  · intro d; rw [h2, h3 d, h4]; exact a3 d
  · intro r; rw [h5]; exact a4 r
  · rw [h6, h7]; exact a5
theorem XK.sI {σ : SX} (h : WFX σ) (k : Nat) (v : Int32) (h6 : k ≠ 6) (h7 : k ≠ 7) : XK σ (sxI σ k v) :=
  ⟨wf_of h rfl rfl (fun _ => rfl) rfl (fun _ => rfl) (va_up_ne _ _ (Ne.symm h6)) (va_up_ne _ _ (Ne.symm h7)), rfl, fun _ => ⟨rfl, fun _ _ => rfl⟩, rfl, fun _ => rfl, fun _ _ => rfl, va_up_ne _ _ (Ne.symm h6), by rw [show (sxI σ k v).1 7 = σ.1 7 from va_up_ne _ _ (Ne.symm h7)]; exact Int.le_refl _⟩
theorem XK.fail {σ : SX} (h : WFX σ) (v : Int32) : XK σ (f1_fail σ v).2 := XK.sI h 11 v (by decide) (by decide)
theorem XK.pour {σ : SX} (h : WFX σ) (k v : Int32) : XK σ (f1_pour σ k v) := by
  unfold f1_pour
  split
  · exact XK.rf h
  · exact ⟨wf_of h rfl rfl (fun _ => rfl) rfl (fun _ => rfl) rfl rfl, rfl, fun _ => ⟨rfl, fun _ _ => rfl⟩, rfl, fun _ => rfl, fun _ _ => rfl, rfl, Int.le_refl _⟩
theorem XK.sT {σ : SX} (h : WFX σ) (d : Nat) (v : Int32) : XK σ (sxT σ d v) := by
  have e : ∀ d', ((sxT σ d v).2.2.2.1.2 d').2 = (σ.2.2.2.1.2 d').2 ∧ ∀ j, j ≠ 7 → ((sxT σ d v).2.2.2.1.2 d').1 j = (σ.2.2.2.1.2 d').1 j := by
    intro d'
    by_cases hd : d' = d
    · subst hd
      refine ⟨by simp [sxT, va_up], fun j hj => ?_⟩
      simp [sxT, va_up, hj]
    · exact ⟨by simp [sxT, va_up, hd], fun j _ => by simp [sxT, va_up, hd]⟩
  exact ⟨wf_of h rfl rfl (fun d' => (e d').1) rfl (fun _ => rfl) rfl rfl, rfl, e, rfl, fun _ => rfl, fun _ _ => rfl, rfl, Int.le_refl _⟩
theorem XK.mark {σ : SX} (h : WFX σ) (d : Nat) (p : Int32) : XK σ (f1_doMark σ d p).2 := by
  unfold f1_doMark
  split
  · exact XK.fail h _
  · rename_i r _
    dsimp only
    split
    · exact XK.fail h _
    · have e : ∀ x, ((va_up σ.2.2.2.2.2 r ((σ.2.2.2.2.2 r).1, upd (σ.2.2.2.2.2 r).2 ((σ.2.2.2.1.2 d).1 2).toNatClampNeg ((σ.2.2.2.2.2 r).2 ((σ.2.2.2.1.2 d).1 2).toNatClampNeg + p))) x).1 = (σ.2.2.2.2.2 x).1 := by
        intro x
        by_cases hx : x = r
        · subst hx; simp [va_up]
        · simp [va_up, hx]
      exact ⟨wf_of h rfl rfl (fun _ => rfl) rfl e rfl rfl, rfl, fun _ => ⟨rfl, fun _ _ => rfl⟩, rfl, e, fun _ _ => rfl, rfl, Int.le_refl _⟩
theorem XK.later {σ : SX} (h : WFX σ) (d : Nat) (hd : d < σ.2.2.2.1.1) (p : Int32) : XK σ (f1_doLater σ d p).2 := by
  unfold f1_doLater
  by_cases c : σ.1 7 < 12
  · rw [if_pos c]
    obtain ⟨a1, a2, a3, a4, q, w, hq, hw, e6, e7⟩ := h
    have hw2 : w < 12 := by
      rw [e7, show (12 : Int32) = nI 12 from rfl, nI_ltI (by omega) (by decide)] at c
      exact c
    refine ⟨⟨?_, ?_, a3, a4, q, w + 1, hq, by omega, ?_, ?_⟩, rfl, fun _ => ⟨rfl, fun _ _ => rfl⟩, rfl, fun _ => rfl, fun k hk => va_up_ne _ _ hk, va_up_ne σ.1 (k := 7) (j := 6) (σ.1 7 + 1) (by decide), ?_⟩
    · intro k i e hk he
      dsimp only at he ⊢
      by_cases k4 : k = 4
      · subst k4
        rw [show (va_up σ.2.2.1 4 (va_up (σ.2.2.1 4) (x_end σ).toNatClampNeg ((σ.2.2.2.1.2 d).2 4))) 4 = va_up (σ.2.2.1 4) (x_end σ).toNatClampNeg ((σ.2.2.2.1.2 d).2 4) from va_up_self _ _ _] at he
        by_cases hi : i = (x_end σ).toNatClampNeg
        · subst hi
          rw [va_up_self] at he
          exact (a3 d hd).1 e he
        · rw [va_up_ne _ _ hi] at he
          exact a1 4 i e hk he
      · rw [show (va_up σ.2.2.1 4 (va_up (σ.2.2.1 4) (x_end σ).toNatClampNeg ((σ.2.2.2.1.2 d).2 4))) k = σ.2.2.1 k from va_up_ne _ _ k4] at he
        exact a1 k i e hk he
    · intro i r hr
      dsimp only at hr ⊢
      rw [show (va_up σ.2.2.1 4 (va_up (σ.2.2.1 4) (x_end σ).toNatClampNeg ((σ.2.2.2.1.2 d).2 4))) 1 = σ.2.2.1 1 from va_up_ne _ _ (by decide)] at hr
      exact a2 i r hr
    · show va_up σ.1 7 (σ.1 7 + 1) 6 = nI q
      rw [va_up_ne _ _ (by decide)]; exact e6
    · show va_up σ.1 7 (σ.1 7 + 1) 7 = nI (w + 1)
      rw [va_up_self, e7, nI_1]
    · show (σ.1 7).toInt ≤ (va_up σ.1 7 (σ.1 7 + 1) 7).toInt
      rw [va_up_self, e7, nI_1, nI_toInt (by omega), nI_toInt (by omega)]
      omega
  · rw [if_neg c]; exact XK.fail h _
theorem XK.alone {σ : SX} (h : WFX σ) (d : Nat) (p : Int32) : XK σ (f1_doAlone σ d p).2 := by
  simp only [f1_doAlone]
  split
  · exact XK.rf h
  split
  · exact XK.pour h _ _
  split
  · exact XK.pour h _ _
  split
  · simp only [f1_doDraw]
    split
    · exact XK.fail h _
    split
    · exact (XK.pour h _ _).tr (XK.pour (XK.pour h _ _).1 _ _)
    · exact XK.fail h _
  split
  · exact XK.mark h d p
  split
  · split
    · exact XK.fail h _
    · exact XK.rf h
  split
  · exact XK.rf h
  · exact XK.fail h _
/-- the deed is one that there is -/
abbrev okO (σ : SX) (o : Option Nat) : Prop := ∀ d, o = some d → d < σ.2.2.2.1.1
abbrev recK (rec : RecX) : Prop := ∀ (σ : SX) (o : Option Nat) (p : Int32), WFX σ → okO σ o → XK σ (rec σ o p).2
theorem okO.f {σ : SX} (h : WFX σ) {d : Nat} (hd : d < σ.2.2.2.1.1) : okO σ ((σ.2.2.2.1.2 d).2 4) := (h.2.2.1 d hd).1
theorem okO.s {σ : SX} (h : WFX σ) {d : Nat} (hd : d < σ.2.2.2.1.1) : okO σ ((σ.2.2.2.1.2 d).2 5) := (h.2.2.1 d hd).2.1
theorem XK.nd {σ σ' : SX} (h : XK σ σ') {d : Nat} (hd : d < σ.2.2.2.1.1) : d < σ'.2.2.2.1.1 := by rw [h.2.1]; exact hd
theorem okO.at {σ : SX} (h : WFX σ) (a b : Int32) : okO σ (f1_atPlace σ a b).1 := by
  intro d hd
  simp only [f1_atPlace] at hd
  split at hd
  · cases hd
  split at hd
  · cases hd
  split at hd
  · cases hd
  · exact h.1 3 _ d (Or.inr (Or.inl rfl)) hd
theorem okO.in {σ : SX} (h : WFX σ) (a : Int32) : okO σ (f1_inSlot σ a).1 := by
  intro d hd
  simp only [f1_inSlot] at hd
  split at hd
  · cases hd
  · exact h.1 2 _ d (Or.inl rfl) hd
theorem it_K {rec : RecX} (hr : recK rec) {oi : SX → Nat → Option Nat} {σ0 : SX} (ho : ∀ σ i, XK σ0 σ → okO σ (oi σ i)) : ∀ (n i : Nat) (σ : SX) (g : Int32), XK σ0 σ → XK σ0 (fx_it rec oi n i σ g).2 := by
  intro n
  induction n with
  | zero => intro i σ g h; exact h
  | succ n ih =>
    intro i σ g h
    simp only [fx_it]
    split
    · exact ih (i + 1) _ _ (h.tr (hr σ _ g h.1 (ho σ i h)))
    · exact h
theorem to_K {rec : RecX} (hr : recK rec) {σ : SX} (h : WFX σ) {d : Nat} (hd : d < σ.2.2.2.1.1) (p : Int32) : XK σ (fx_to rec σ d p).2 := by
  have h1 := hr σ ((σ.2.2.2.1.2 d).2 4) p h (okO.f h hd)
  simp only [fx_to]
  split
  · simp only [fx_then]
    split
    · exact h1.tr (hr _ _ _ h1.1 (okO.s h1.1 (h1.nd hd)))
    · exact h1
  split
  · split
    · exact h1
    · exact hr σ _ p h (okO.s h hd)
  split
  · exact it_K hr (fun σ' i h' => okO.f h'.1 (h'.nd hd)) _ _ _ _ (XK.rf h)
  split
  · simp only [fx_try]
    split
    · exact h1
    · have h2 := XK.sI h1.1 11 0 (by decide) (by decide)
      exact (h1.tr h2).tr (hr _ _ _ h2.1 (okO.s h1.1 (h1.nd hd)))
  split
  · exact XK.later h d hd p
  split
  · simp only [fx_count]
    split
    · exact h1.tr (XK.sT h1.1 _ _)
    · exact h1
  split
  · exact it_K hr (fun σ' i h' => okO.at h'.1 _ _) _ _ _ _ (XK.rf h)
  split
  · exact hr σ _ p h (okO.in h _)
  · exact XK.fail h _
theorem fdo_K : ∀ k : Nat, recK (fdo k) := by
  intro k
  induction k with
  | zero =>
    intro σ o p h ho
    simp only [fdo]
    split
    · exact (XK.sI h 9 _ (by decide) (by decide)).tr (XK.fail (XK.sI h 9 _ (by decide) (by decide)).1 _)
    · exact XK.fail h _
  | succ k ih =>
    intro σ o p h ho
    have h9 := XK.sI h 9 (σ.1 9 + 1) (by decide) (by decide)
    simp only [fdo]
    split
    · cases o with
      | none => exact h9.tr (XK.fail h9.1 _)
      | some d =>
        dsimp only
        split
        · exact h9.tr (to_K ih h9.1 (ho d rfl) p)
        · exact h9.tr (XK.alone h9.1 d p)
    · exact XK.fail h _
abbrev q1_do (k : Nat) (σ : SX) (o : Option Nat) (_ op : Int32) : Prop := WFX σ ∧ okO σ o ∧ k ≤ 16 ∧ op = nI (16 - k)
abbrev q1_doThen (k : Nat) (σ : SX) (d : Nat) (_ op : Int32) : Prop := WFX σ ∧ d < σ.2.2.2.1.1 ∧ k ≤ 16 ∧ op = nI (16 - k)
abbrev q1_doTimes := q1_doThen
abbrev q1_doTry := q1_doThen
abbrev q1_doCount := q1_doThen
abbrev q1_doThroughOthers := q1_doThen
abbrev q1_doPlaces (k : Nat) (σ : SX) (_ _ op : Int32) : Prop := WFX σ ∧ k ≤ 16 ∧ op = nI (16 - k)
abbrev f1_doThen (k : Nat) (σ : SX) (d : Nat) (p _op : Int32) : Int32 × SX := fx_then (fdo k) σ d p
abbrev f1_doTimes (k : Nat) (σ : SX) (d : Nat) (p _op : Int32) : Int32 × SX := fx_times (fdo k) σ d p
abbrev f1_doTry (k : Nat) (σ : SX) (d : Nat) (p _op : Int32) : Int32 × SX := fx_try (fdo k) σ d p
abbrev f1_doCount (k : Nat) (σ : SX) (d : Nat) (p _op : Int32) : Int32 × SX := fx_count (fdo k) σ d p
abbrev f1_doPlaces (k : Nat) (σ : SX) (lv p _op : Int32) : Int32 × SX := fx_places (fdo k) σ lv p
abbrev f1_doThroughOthers (k : Nat) (σ : SX) (d : Nat) (p _op : Int32) : Int32 × SX := fx_to (fdo k) σ d p

def wp_X1_doThen_0 (k : Nat) (σ : SX) (d1 : Nat) (v2 : Int32) (v3 : Int32)  (post : Int32 → SX → Prop) : Prop :=
  d1 < σ.2.2.2.1.1 ∧ ∀ o1 : Option Nat, o1 = (σ.2.2.2.1.2 d1).2 4 → q1_do k σ o1 v2 v3 ∧ ∀ (r2 : Int32) (σ3 : SX), r2 = (f1_do k σ o1 v2 v3).1 → σ3 = (f1_do k σ o1 v2 v3).2 → (¬ (σ3.1 11) = 0 → post 0 σ3) ∧ ((σ3.1 11) = 0 → d1 < σ3.2.2.2.1.1 ∧ ∀ o5 : Option Nat, o5 = (σ3.2.2.2.1.2 d1).2 5 → q1_do k σ3 o5 r2 v3 ∧ ∀ (r6 : Int32) (σ7 : SX), r6 = (f1_do k σ3 o5 r2 v3).1 → σ7 = (f1_do k σ3 o5 r2 v3).2 → post r6 σ7)
set_option maxHeartbeats 4000000 in
set_option maxRecDepth 100000 in
theorem k_X1_doThen_0 {l : Launch} {p : Program} {e : Env} {s : State} {m : MethodId} {below : List Frame} {meth : Method} {c : Code} {args : Array Value} {A : Nat → Prop} {G : Gm} {a : AX} {k : Nat} (hDo : ∀ (σ : SX) (o : Option Nat) (v2 v3 : Int32), q1_do k σ o v2 v3 → ctI l yX1_doDeed cX1_doDeed 4 .int (rDo k) G [.ref (a.1 13), va_rf (Option.map a.2.1 o), .int v2, .int v3] (wX G a σ) (fun (r : Int32) (u : SX) => r = (f1_do k σ o v2 v3).1 ∧ u = (f1_do k σ o v2 v3).2) (wX G a))  (hF : fx p s m args meth c cX1_doThen 5 yX1_doThen.cls kX1_doThen (some (.int))) {post : Int32 → SX → Prop}  (σ : SX) (d1 : Nat) (v2 : Int32) (v3 : Int32) {H : Heap} {locs : List Loc} {ls : Array Slot} (hw : wb G A s (wX G a σ) H locs) (hl : lv_has ls 5 [(0, .ref (a.1 13)), (1, .ref (a.2.1 d1)), (2, .int v2), (3, .int v3)]) (hok : wp_X1_doThen_0 k σ d1 v2 v3  post) :
    W p l e (rTh k) s m args below meth c H locs 0 0 (MQ below (va_Qi post (po G A (wX G a)) A) args s 0 0 A) (F0 m 0 ls []) := by
  unfold wp_X1_doThen_0 at hok
  refine lv_aload_n hF.x hF.b dX1_doThen_0 rfl (lv_at hl 0 rfl) ?_
  refine lv_aload_n hF.x hF.b dX1_doThen_1 rfl (lv_at hl 1 rfl) ?_
  refine rx_dget (k := 4) hF hw hok.1 (by decide) (by unfold nestW; simp [TX0]) rfl dX1_doThen_2 ?_
  obtain ⟨o1, eo1⟩ : ∃ z : Option Nat, z = (σ.2.2.2.1.2 d1).2 4 := ⟨_, rfl⟩
  rw [← eo1]
  replace hok := hok.2 o1 eo1
  refine lv_iload_n hF.x hF.b dX1_doThen_5 rfl (lv_at hl 2 rfl) ?_
  refine lv_iload_n hF.x hF.b dX1_doThen_6 rfl (lv_at hl 3 rfl) ?_
  refine ca_I hF hw (hDo σ o1 v2 v3 hok.1) wv_X1_110 (q0 := 0) rfl rfl rfl ⟨nd_X1.1, nd_X1.2, pd_X1_doDeed⟩ ⟨by show 3 * k + 6 + 1 ≤ 3 * k + 7; omega, by show 8 + (4 + 11) + (75 * k + 160) ≤ 75 * k + 183; omega⟩ ⟨Nat.zero_le _, Nat.zero_le _⟩ hl.1 rfl (by first | exact Nat.le_of_ble_eq_true rfl | simp [cat_rf, Value.category]) dX1_doThen_7 (fun r2 σ3 H locs hp hw => ?_)
  obtain ⟨er2, eσ3⟩ := hp
  replace hok := hok.2 r2 σ3 er2 eσ3
  refine lv_istore (lv' := [(4, .int r2), (0, .ref (a.1 13)), (1, .ref (a.2.1 d1)), (2, .int v2), (3, .int v3)]) hF.x hF.b dX1_doThen_10 hl (by decide) rfl (fun ls hl => ?_)
  refine lv_aload_n hF.x hF.b dX1_doThen_12 rfl (lv_at hl 1 rfl) ?_
  refine r_get hF hw 0 rfl rfl inlX1 11 (by decide) wf_X1_49 rfl dX1_doThen_13 ?_
  refine lv_if_ne (tgt := 33) hF.x hF.b dX1_doThen_16 (by decide) (fun c4 => ?_) (fun c4 => ?_)
  · replace hok := hok.1 c4
    refine lv_iconst (v := 0) hF.x hF.b dX1_doThen_33 (by decide) ?_
    exact rt_I (u := σ3) hF hw hok (Nat.zero_le _) (Nat.zero_le _) dX1_doThen_34
  · replace hok := hok.2 c4
    refine lv_aload_n hF.x hF.b dX1_doThen_19 rfl (lv_at hl 1 rfl) ?_
    refine lv_aload_n hF.x hF.b dX1_doThen_20 rfl (lv_at hl 2 rfl) ?_
    refine rx_dget (k := 5) hF hw hok.1 (by decide) (by unfold nestW; simp [TX0]) rfl dX1_doThen_21 ?_
    obtain ⟨o5, eo5⟩ : ∃ z : Option Nat, z = (σ3.2.2.2.1.2 d1).2 5 := ⟨_, rfl⟩
    rw [← eo5]
    replace hok := hok.2 o5 eo5
    refine lv_iload hF.x hF.b dX1_doThen_24 (lv_at hl 0 rfl) ?_
    refine lv_iload_n hF.x hF.b dX1_doThen_26 rfl (lv_at hl 4 rfl) ?_
    refine ca_I hF hw (hDo σ3 o5 r2 v3 hok.1) wv_X1_110 (q0 := 0) rfl rfl rfl ⟨nd_X1.1, nd_X1.2, pd_X1_doDeed⟩ ⟨by show 3 * k + 6 + 1 ≤ 3 * k + 7; omega, by show 8 + (4 + 11) + (75 * k + 160) ≤ 75 * k + 183; omega⟩ ⟨Nat.zero_le _, Nat.zero_le _⟩ hl.1 rfl (by first | exact Nat.le_of_ble_eq_true rfl | simp [cat_rf, Value.category]) dX1_doThen_27 (fun r6 σ7 H locs hp hw => ?_)
    obtain ⟨er6, eσ7⟩ := hp
    replace hok := hok.2 r6 σ7 er6 eσ7
    refine lv_goto (tgt := 34) hF.x hF.b dX1_doThen_30 (by decide) ?_
    exact rt_I (u := σ7) hF hw hok (Nat.zero_le _) (Nat.zero_le _) dX1_doThen_34

theorem p1_doThen {k : Nat} (σ : SX) (d1 : Nat) (v2 v3 : Int32) (h : q1_doThen k σ d1 v2 v3) : wp_X1_doThen_0 k σ d1 v2 v3 (fun r u => r = (f1_doThen k σ d1 v2 v3).1 ∧ u = (f1_doThen k σ d1 v2 v3).2) := by
  refine ⟨h.2.1, fun o1 e1 => ⟨⟨h.1, by rw [e1]; exact okO.f h.1 h.2.1, h.2.2⟩, fun r2 σ3 e2 e3 => ?_⟩⟩
  have h1 : XK σ σ3 := by rw [e3]; exact fdo_K k σ o1 v2 h.1 (by rw [e1]; exact okO.f h.1 h.2.1)
  subst e1
  refine ⟨fun c => ?_, fun c => ⟨h1.nd h.2.1, fun o5 e5 => ⟨⟨h1.1, by rw [e5]; exact okO.s h1.1 (h1.nd h.2.1), h.2.2⟩, fun r6 σ7 e6 e7 => ?_⟩⟩⟩
  · subst e3
    simp only [f1_doThen, fx_then]
    rw [if_neg c]
    exact ⟨rfl, rfl⟩
  · subst e2; subst e3; subst e5
    simp only [f1_doThen, fx_then]
    rw [if_pos c]
    exact ⟨e6, e7⟩

theorem c1_doThen {l : Launch} {G : Gm} {a : AX} {k : Nat} (hDo : ∀ (σ : SX) (o : Option Nat) (v2 v3 : Int32), q1_do k σ o v2 v3 → ctI l yX1_doDeed cX1_doDeed 4 .int (rDo k) G [.ref (a.1 13), va_rf (Option.map a.2.1 o), .int v2, .int v3] (wX G a σ) (fun (r : Int32) (u : SX) => r = (f1_do k σ o v2 v3).1 ∧ u = (f1_do k σ o v2 v3).2) (wX G a)) (σ : SX) (d1 : Nat) (v2 : Int32) (v3 : Int32) (h : q1_doThen k σ d1 v2 v3) : ctI l yX1_doThen cX1_doThen 5 .int (rTh k) G [.ref (a.1 13), .ref (a.2.1 d1), .int v2, .int v3] (wX G a σ) (fun (r : Int32) (u : SX) => r = (f1_doThen k σ d1 v2 v3).1 ∧ u = (f1_doThen k σ d1 v2 v3).2) (wX G a) := by
  refine en_I (by decide +kernel) (Nat.le_of_ble_eq_true rfl) (fun p e s m below meth c A ls hF hw hl => ?_)
  exact k_X1_doThen_0 hDo hF σ d1 v2 v3 hw hl (p1_doThen σ d1 v2 v3 h)

def wp_X1_doTimes_6 (k : Nat) (σ : SX) (d1 : Nat) (v2 : Int32) (v3 : Int32) (v4 : Int32) (v5 : Int32) (K6 : SX → Nat → Int32 → Int32 → Int32 → Int32 → Prop) (post : Int32 → SX → Prop) : Prop :=
  d1 < σ.2.2.2.1.1 ∧ (((σ.2.2.2.1.2 d1).1 2) ≤ v5 → post v4 σ) ∧ (¬ ((σ.2.2.2.1.2 d1).1 2) ≤ v5 → (¬ (σ.1 11) = 0 → post v4 σ) ∧ ((σ.1 11) = 0 → d1 < σ.2.2.2.1.1 ∧ ∀ o3 : Option Nat, o3 = (σ.2.2.2.1.2 d1).2 4 → q1_do k σ o3 v4 v3 ∧ ∀ (r4 : Int32) (σ5 : SX), r4 = (f1_do k σ o3 v4 v3).1 → σ5 = (f1_do k σ o3 v4 v3).2 → ∀ x6 : Int32, x6 = v5 + 1 → K6 σ5 d1 v2 v3 r4 x6))
set_option maxHeartbeats 4000000 in
set_option maxRecDepth 100000 in
theorem k_X1_doTimes_6 {l : Launch} {p : Program} {e : Env} {s : State} {m : MethodId} {below : List Frame} {meth : Method} {c : Code} {args : Array Value} {A : Nat → Prop} {G : Gm} {a : AX} {k : Nat} (hDo : ∀ (σ : SX) (o : Option Nat) (v2 v3 : Int32), q1_do k σ o v2 v3 → ctI l yX1_doDeed cX1_doDeed 4 .int (rDo k) G [.ref (a.1 13), va_rf (Option.map a.2.1 o), .int v2, .int v3] (wX G a σ) (fun (r : Int32) (u : SX) => r = (f1_do k σ o v2 v3).1 ∧ u = (f1_do k σ o v2 v3).2) (wX G a))  (hF : fx p s m args meth c cX1_doTimes 6 yX1_doTimes.cls kX1_doTimes (some (.int))) {post : Int32 → SX → Prop} {K6 : SX → Nat → Int32 → Int32 → Int32 → Int32 → Prop} (hK6 : ∀ (σ : SX) (d1 : Nat) (v2 : Int32) (v3 : Int32) (v4 : Int32) (v5 : Int32) {H : Heap} {locs : List Loc} {ls : Array Slot}, K6 σ d1 v2 v3 v4 v5 → wb G A s (wX G a σ) H locs → lv_has ls 6 [(0, .ref (a.1 13)), (1, .ref (a.2.1 d1)), (2, .int v2), (3, .int v3), (4, .int v4), (5, .int v5)] → W p l e (rTh k) s m args below meth c H locs 0 0 (MQ below (va_Qi post (po G A (wX G a)) A) args s 0 0 A) (F0 m 6 ls [])) (σ : SX) (d1 : Nat) (v2 : Int32) (v3 : Int32) (v4 : Int32) (v5 : Int32) {H : Heap} {locs : List Loc} {ls : Array Slot} (hw : wb G A s (wX G a σ) H locs) (hl : lv_has ls 6 [(0, .ref (a.1 13)), (1, .ref (a.2.1 d1)), (2, .int v2), (3, .int v3), (4, .int v4), (5, .int v5)]) (hok : wp_X1_doTimes_6 k σ d1 v2 v3 v4 v5 K6 post) :
    W p l e (rTh k) s m args below meth c H locs 0 0 (MQ below (va_Qi post (po G A (wX G a)) A) args s 0 0 A) (F0 m 6 ls []) := by
  unfold wp_X1_doTimes_6 at hok
  refine lv_iload hF.x hF.b dX1_doTimes_6 (lv_at hl 5 rfl) ?_
  refine lv_aload_n hF.x hF.b dX1_doTimes_8 rfl (lv_at hl 1 rfl) ?_
  refine rx_dget (k := 2) hF hw hok.1 (by decide) (by unfold nestW; simp [TX0]) rfl dX1_doTimes_9 ?_
  replace hok := hok.2
  refine lv_icmp_ge (tgt := 41) hF.x hF.b dX1_doTimes_12 (by decide) (fun c1 => ?_) (fun c1 => ?_)
  · replace hok := hok.1 c1
    refine lv_iload hF.x hF.b dX1_doTimes_41 (lv_at hl 4 rfl) ?_
    exact rt_I (u := σ) hF hw hok (Nat.zero_le _) (Nat.zero_le _) dX1_doTimes_43
  · replace hok := hok.2 c1
    refine lv_aload_n hF.x hF.b dX1_doTimes_15 rfl (lv_at hl 0 rfl) ?_
    refine r_get hF hw 0 rfl rfl inlX1 11 (by decide) wf_X1_49 rfl dX1_doTimes_16 ?_
    refine lv_if_ne (tgt := 41) hF.x hF.b dX1_doTimes_19 (by decide) (fun c2 => ?_) (fun c2 => ?_)
    · replace hok := hok.1 c2
      refine lv_iload hF.x hF.b dX1_doTimes_41 (lv_at hl 4 rfl) ?_
      exact rt_I (u := σ) hF hw hok (Nat.zero_le _) (Nat.zero_le _) dX1_doTimes_43
    · replace hok := hok.2 c2
      refine lv_aload_n hF.x hF.b dX1_doTimes_22 rfl (lv_at hl 0 rfl) ?_
      refine lv_aload_n hF.x hF.b dX1_doTimes_23 rfl (lv_at hl 1 rfl) ?_
      refine rx_dget (k := 4) hF hw hok.1 (by decide) (by unfold nestW; simp [TX0]) rfl dX1_doTimes_24 ?_
      obtain ⟨o3, eo3⟩ : ∃ z : Option Nat, z = (σ.2.2.2.1.2 d1).2 4 := ⟨_, rfl⟩
      rw [← eo3]
      replace hok := hok.2 o3 eo3
      refine lv_iload hF.x hF.b dX1_doTimes_27 (lv_at hl 4 rfl) ?_
      refine lv_iload_n hF.x hF.b dX1_doTimes_29 rfl (lv_at hl 3 rfl) ?_
      refine ca_I hF hw (hDo σ o3 v4 v3 hok.1) wv_X1_110 (q0 := 0) rfl rfl rfl ⟨nd_X1.1, nd_X1.2, pd_X1_doDeed⟩ ⟨by show 3 * k + 6 + 1 ≤ 3 * k + 7; omega, by show 8 + (4 + 11) + (75 * k + 160) ≤ 75 * k + 183; omega⟩ ⟨Nat.zero_le _, Nat.zero_le _⟩ hl.1 rfl (by first | exact Nat.le_of_ble_eq_true rfl | simp [cat_rf, Value.category]) dX1_doTimes_30 (fun r4 σ5 H locs hp hw => ?_)
      obtain ⟨er4, eσ5⟩ := hp
      replace hok := hok.2 r4 σ5 er4 eσ5
      refine lv_istore (lv' := [(4, .int r4), (0, .ref (a.1 13)), (1, .ref (a.2.1 d1)), (2, .int v2), (3, .int v3), (5, .int v5)]) hF.x hF.b dX1_doTimes_33 hl (by decide) rfl (fun ls hl => ?_)
      obtain ⟨x6, ex6⟩ : ∃ z : Int32, z = v5 + 1 := ⟨_, rfl⟩
      replace hok := hok x6 ex6
      refine lv_iinc (v := x6) (lv' := [(5, .int x6), (4, .int r4), (0, .ref (a.1 13)), (1, .ref (a.2.1 d1)), (2, .int v2), (3, .int v3)]) hF.x hF.b dX1_doTimes_35 hl (k := 5) rfl (by rw [ex6]; rfl) (by decide) rfl (fun ls hl => ?_)
      refine lv_goto (tgt := 6) hF.x hF.b dX1_doTimes_38 (by decide) ?_
      exact hK6 σ5 d1 v2 v3 r4 x6 hok hw (lv_sub hl [2, 3, 4, 5, 1, 0] rfl)
def wp_X1_doTimes_0 (k : Nat) (σ : SX) (d1 : Nat) (v2 : Int32) (v3 : Int32) (K6 : SX → Nat → Int32 → Int32 → Int32 → Int32 → Prop) (post : Int32 → SX → Prop) : Prop :=
  K6 σ d1 v2 v3 v2 0
set_option maxHeartbeats 4000000 in
set_option maxRecDepth 100000 in
theorem k_X1_doTimes_0 {l : Launch} {p : Program} {e : Env} {s : State} {m : MethodId} {below : List Frame} {meth : Method} {c : Code} {args : Array Value} {A : Nat → Prop} {G : Gm} {a : AX} {k : Nat} (hDo : ∀ (σ : SX) (o : Option Nat) (v2 v3 : Int32), q1_do k σ o v2 v3 → ctI l yX1_doDeed cX1_doDeed 4 .int (rDo k) G [.ref (a.1 13), va_rf (Option.map a.2.1 o), .int v2, .int v3] (wX G a σ) (fun (r : Int32) (u : SX) => r = (f1_do k σ o v2 v3).1 ∧ u = (f1_do k σ o v2 v3).2) (wX G a))  (hF : fx p s m args meth c cX1_doTimes 6 yX1_doTimes.cls kX1_doTimes (some (.int))) {post : Int32 → SX → Prop} {K6 : SX → Nat → Int32 → Int32 → Int32 → Int32 → Prop} (hK6 : ∀ (σ : SX) (d1 : Nat) (v2 : Int32) (v3 : Int32) (v4 : Int32) (v5 : Int32) {H : Heap} {locs : List Loc} {ls : Array Slot}, K6 σ d1 v2 v3 v4 v5 → wb G A s (wX G a σ) H locs → lv_has ls 6 [(0, .ref (a.1 13)), (1, .ref (a.2.1 d1)), (2, .int v2), (3, .int v3), (4, .int v4), (5, .int v5)] → W p l e (rTh k) s m args below meth c H locs 0 0 (MQ below (va_Qi post (po G A (wX G a)) A) args s 0 0 A) (F0 m 6 ls [])) (σ : SX) (d1 : Nat) (v2 : Int32) (v3 : Int32) {H : Heap} {locs : List Loc} {ls : Array Slot} (hw : wb G A s (wX G a σ) H locs) (hl : lv_has ls 6 [(0, .ref (a.1 13)), (1, .ref (a.2.1 d1)), (2, .int v2), (3, .int v3)]) (hok : wp_X1_doTimes_0 k σ d1 v2 v3 K6 post) :
    W p l e (rTh k) s m args below meth c H locs 0 0 (MQ below (va_Qi post (po G A (wX G a)) A) args s 0 0 A) (F0 m 0 ls []) := by
  unfold wp_X1_doTimes_0 at hok
  refine lv_iload_n hF.x hF.b dX1_doTimes_0 rfl (lv_at hl 2 rfl) ?_
  refine lv_istore (lv' := [(4, .int v2), (0, .ref (a.1 13)), (1, .ref (a.2.1 d1)), (2, .int v2), (3, .int v3)]) hF.x hF.b dX1_doTimes_1 hl (by decide) rfl (fun ls hl => ?_)
  refine lv_iconst (v := 0) hF.x hF.b dX1_doTimes_3 (by decide) ?_
  refine lv_istore (lv' := [(5, .int 0), (4, .int v2), (0, .ref (a.1 13)), (1, .ref (a.2.1 d1)), (2, .int v2), (3, .int v3)]) hF.x hF.b dX1_doTimes_4 hl (by decide) rfl (fun ls hl => ?_)
  exact hK6 σ d1 v2 v3 v2 0 hok hw (lv_sub hl [2, 3, 4, 5, 1, 0] rfl)

theorem lp_X1_doTimes_6 {l : Launch} {p : Program} {e : Env} {s : State} {m : MethodId} {below : List Frame} {meth : Method} {c : Code} {args : Array Value} {A : Nat → Prop} {G : Gm} {a : AX} {k : Nat} (hDo : ∀ (σ : SX) (o : Option Nat) (v2 v3 : Int32), q1_do k σ o v2 v3 → ctI l yX1_doDeed cX1_doDeed 4 .int (rDo k) G [.ref (a.1 13), va_rf (Option.map a.2.1 o), .int v2, .int v3] (wX G a σ) (fun (r : Int32) (u : SX) => r = (f1_do k σ o v2 v3).1 ∧ u = (f1_do k σ o v2 v3).2) (wX G a))  (hF : fx p s m args meth c cX1_doTimes 6 yX1_doTimes.cls kX1_doTimes (some (.int))) {post : Int32 → SX → Prop}  (Inv : Nat → SX → Nat → Int32 → Int32 → Int32 → Int32 → Prop) (hstep : ∀ (n : Nat) (σ : SX) (d1 : Nat) (v2 : Int32) (v3 : Int32) (v4 : Int32) (v5 : Int32), Inv n σ d1 v2 v3 v4 v5 → wp_X1_doTimes_6 k σ d1 v2 v3 v4 v5 (fun σq d1' v2' v3' v4' v5' => ∃ nq, nq < n ∧ Inv nq σq d1' v2' v3' v4' v5') post) :
    ∀ (n : Nat) (σ : SX) (d1 : Nat) (v2 : Int32) (v3 : Int32) (v4 : Int32) (v5 : Int32) {H : Heap} {locs : List Loc} {ls : Array Slot}, Inv n σ d1 v2 v3 v4 v5 → wb G A s (wX G a σ) H locs → lv_has ls 6 [(0, .ref (a.1 13)), (1, .ref (a.2.1 d1)), (2, .int v2), (3, .int v3), (4, .int v4), (5, .int v5)] → W p l e (rTh k) s m args below meth c H locs 0 0 (MQ below (va_Qi post (po G A (wX G a)) A) args s 0 0 A) (F0 m 6 ls []) := by
  intro n
  induction n using Nat.strongRecOn with
  | _ n ih =>
    intro σ d1 v2 v3 v4 v5 H locs ls hI hw hl
    exact k_X1_doTimes_6 hDo hF (post := post) (K6 := fun σq d1' v2' v3' v4' v5' => ∃ nq, nq < n ∧ Inv nq σq d1' v2' v3' v4' v5') (by intro σq d1' v2' v3' v4' v5' H locs ls hI hw hl; exact ih hI.choose hI.choose_spec.1 σq d1' v2' v3' v4' v5' hI.choose_spec.2 hw hl) σ d1 v2 v3 v4 v5 hw hl (hstep n σ d1 v2 v3 v4 v5 hI)

theorem p1_times_step {k : Nat} {σ0 : SX} {d : Nat} {op : Int32} (hk : k ≤ 16) (hop : op = nI (16 - k)) (hd : d < σ0.2.2.2.1.1) (tg : Int32 × SX) (n : Nat) (σ : SX) (d1 : Nat) (v2 v3 v4 v5 : Int32)
    (hI : d1 = d ∧ v3 = op ∧ XK σ0 σ ∧ ∃ j : Nat, j + n = ((σ0.2.2.2.1.2 d).1 2).toNatClampNeg ∧ v5 = nI j ∧ fx_it (fdo k) (fun σ' _ => (σ'.2.2.2.1.2 d).2 4) n j σ v4 = tg) :
    wp_X1_doTimes_6 k σ d1 v2 v3 v4 v5 (fun σq d1' v2' v3' v4' v5' => ∃ nq, nq < n ∧ (d1' = d ∧ v3' = op ∧ XK σ0 σq ∧ ∃ j : Nat, j + nq = ((σ0.2.2.2.1.2 d).1 2).toNatClampNeg ∧ v5' = nI j ∧ fx_it (fdo k) (fun σ' _ => (σ'.2.2.2.1.2 d).2 4) nq j σq v4' = tg)) (fun r u => r = tg.1 ∧ u = tg.2) := by
  obtain ⟨rfl, rfl, hX, j, hj, rfl, ht⟩ := hI
  have hy : (σ.2.2.2.1.2 d1).1 2 = (σ0.2.2.2.1.2 d1).1 2 := (hX.2.2.1 d1).2 2 (by decide)
  have hylt : ((σ0.2.2.2.1.2 d1).1 2).toNatClampNeg < 2 ^ 31 := by
    have := Int32.toInt_lt ((σ0.2.2.2.1.2 d1).1 2)
    simp only [Int32.toNatClampNeg]
    omega
  refine ⟨hX.nd hd, fun c => ?_, fun c => ⟨fun c2 => ?_, fun c2 => ⟨hX.nd hd, fun o3 e3 => ⟨⟨hX.1, by rw [e3]; exact okO.f hX.1 (hX.nd hd), hk, hop⟩, fun r4 σ5 e4 e5 x6 e6 => ?_⟩⟩⟩⟩
  · have hn : n = 0 := by
      rw [hy, Int32.le_iff_toInt_le, nI_toInt (by omega)] at c
      simp only [Int32.toNatClampNeg] at hj
      omega
    subst hn
    rw [← ht]
    exact ⟨rfl, rfl⟩
  · cases n with
    | zero => rw [← ht]; exact ⟨rfl, rfl⟩
    | succ n =>
      simp only [fx_it] at ht
      rw [if_neg c2] at ht
      rw [← ht]; exact ⟨rfl, rfl⟩
  · cases n with
    | zero =>
      exfalso
      apply c
      rw [hy, Int32.le_iff_toInt_le, nI_toInt (by omega)]
      simp only [Int32.toNatClampNeg] at hj
      omega
    | succ n =>
      simp only [fx_it] at ht
      rw [if_pos c2] at ht
      subst e3; subst e4; subst e5
      exact ⟨n, Nat.lt_succ_self n, rfl, rfl, hX.tr (fdo_K k σ _ v4 hX.1 (okO.f hX.1 (hX.nd hd))), j + 1, by omega, by rw [e6, nI_1], ht⟩

theorem c1_doTimes {l : Launch} {G : Gm} {a : AX} {k : Nat} (hDo : ∀ (σ : SX) (o : Option Nat) (v2 v3 : Int32), q1_do k σ o v2 v3 → ctI l yX1_doDeed cX1_doDeed 4 .int (rDo k) G [.ref (a.1 13), va_rf (Option.map a.2.1 o), .int v2, .int v3] (wX G a σ) (fun (r : Int32) (u : SX) => r = (f1_do k σ o v2 v3).1 ∧ u = (f1_do k σ o v2 v3).2) (wX G a)) (σ : SX) (d1 : Nat) (v2 : Int32) (v3 : Int32) (h : q1_doTimes k σ d1 v2 v3) : ctI l yX1_doTimes cX1_doTimes 6 .int (rTh k) G [.ref (a.1 13), .ref (a.2.1 d1), .int v2, .int v3] (wX G a σ) (fun (r : Int32) (u : SX) => r = (f1_doTimes k σ d1 v2 v3).1 ∧ u = (f1_doTimes k σ d1 v2 v3).2) (wX G a) := by
  refine en_I (by decide +kernel) (Nat.le_of_ble_eq_true rfl) (fun p e s m below meth c A ls hF hw hl => ?_)
  refine k_X1_doTimes_0 hDo hF (K6 := fun σq d1' v2' v3' v4' v5' => ∃ nq, (d1' = d1 ∧ v3' = v3 ∧ XK σ σq ∧ ∃ j : Nat, j + nq = ((σ.2.2.2.1.2 d1).1 2).toNatClampNeg ∧ v5' = nI j ∧ fx_it (fdo k) (fun σ' _ => (σ'.2.2.2.1.2 d1).2 4) nq j σq v4' = f1_doTimes k σ d1 v2 v3)) ?_ σ d1 v2 v3 hw hl ?_
  · intro σq d1' v2' v3' v4' v5' H locs ls hI hw hl
    exact lp_X1_doTimes_6 hDo hF _ (p1_times_step (σ0 := σ) (d := d1) h.2.2.1 h.2.2.2 h.2.1 (f1_doTimes k σ d1 v2 v3)) hI.choose σq d1' v2' v3' v4' v5' hI.choose_spec hw hl
  · exact ⟨_, rfl, rfl, XK.rf h.1, 0, Nat.zero_add _, rfl, rfl⟩

def wp_X1_doTry_0 (k : Nat) (σ : SX) (d1 : Nat) (v2 : Int32) (v3 : Int32)  (post : Int32 → SX → Prop) : Prop :=
  d1 < σ.2.2.2.1.1 ∧ ∀ o1 : Option Nat, o1 = (σ.2.2.2.1.2 d1).2 4 → q1_do k σ o1 v2 v3 ∧ ∀ (r2 : Int32) (σ3 : SX), r2 = (f1_do k σ o1 v2 v3).1 → σ3 = (f1_do k σ o1 v2 v3).2 → ((σ3.1 11) = 0 → post r2 σ3) ∧ (¬ (σ3.1 11) = 0 → ((σ3.1 11) = ((-8)) → post r2 σ3) ∧ (¬ (σ3.1 11) = ((-8)) → (¬ (σ3.1 11) = ((-9)) → ∀ σ7 : SX, σ7 = (va_up σ3.1 11 0, σ3.2) → d1 < σ7.2.2.2.1.1 ∧ ∀ o8 : Option Nat, o8 = (σ7.2.2.2.1.2 d1).2 5 → q1_do k σ7 o8 v2 v3 ∧ ∀ (r9 : Int32) (σ10 : SX), r9 = (f1_do k σ7 o8 v2 v3).1 → σ10 = (f1_do k σ7 o8 v2 v3).2 → post r9 σ10) ∧ ((σ3.1 11) = ((-9)) → post r2 σ3)))
set_option maxHeartbeats 4000000 in
set_option maxRecDepth 100000 in
theorem k_X1_doTry_0 {l : Launch} {p : Program} {e : Env} {s : State} {m : MethodId} {below : List Frame} {meth : Method} {c : Code} {args : Array Value} {A : Nat → Prop} {G : Gm} {a : AX} {k : Nat} (hDo : ∀ (σ : SX) (o : Option Nat) (v2 v3 : Int32), q1_do k σ o v2 v3 → ctI l yX1_doDeed cX1_doDeed 4 .int (rDo k) G [.ref (a.1 13), va_rf (Option.map a.2.1 o), .int v2, .int v3] (wX G a σ) (fun (r : Int32) (u : SX) => r = (f1_do k σ o v2 v3).1 ∧ u = (f1_do k σ o v2 v3).2) (wX G a))  (hF : fx p s m args meth c cX1_doTry 5 yX1_doTry.cls kX1_doTry (some (.int))) {post : Int32 → SX → Prop}  (σ : SX) (d1 : Nat) (v2 : Int32) (v3 : Int32) {H : Heap} {locs : List Loc} {ls : Array Slot} (hw : wb G A s (wX G a σ) H locs) (hl : lv_has ls 5 [(0, .ref (a.1 13)), (1, .ref (a.2.1 d1)), (2, .int v2), (3, .int v3)]) (hok : wp_X1_doTry_0 k σ d1 v2 v3  post) :
    W p l e (rTh k) s m args below meth c H locs 0 0 (MQ below (va_Qi post (po G A (wX G a)) A) args s 0 0 A) (F0 m 0 ls []) := by
  unfold wp_X1_doTry_0 at hok
  refine lv_aload_n hF.x hF.b dX1_doTry_0 rfl (lv_at hl 0 rfl) ?_
  refine lv_aload_n hF.x hF.b dX1_doTry_1 rfl (lv_at hl 1 rfl) ?_
  refine rx_dget (k := 4) hF hw hok.1 (by decide) (by unfold nestW; simp [TX0]) rfl dX1_doTry_2 ?_
  obtain ⟨o1, eo1⟩ : ∃ z : Option Nat, z = (σ.2.2.2.1.2 d1).2 4 := ⟨_, rfl⟩
  rw [← eo1]
  replace hok := hok.2 o1 eo1
  refine lv_iload_n hF.x hF.b dX1_doTry_5 rfl (lv_at hl 2 rfl) ?_
  refine lv_iload_n hF.x hF.b dX1_doTry_6 rfl (lv_at hl 3 rfl) ?_
  refine ca_I hF hw (hDo σ o1 v2 v3 hok.1) wv_X1_110 (q0 := 0) rfl rfl rfl ⟨nd_X1.1, nd_X1.2, pd_X1_doDeed⟩ ⟨by show 3 * k + 6 + 1 ≤ 3 * k + 7; omega, by show 8 + (4 + 11) + (75 * k + 160) ≤ 75 * k + 183; omega⟩ ⟨Nat.zero_le _, Nat.zero_le _⟩ hl.1 rfl (by first | exact Nat.le_of_ble_eq_true rfl | simp [cat_rf, Value.category]) dX1_doTry_7 (fun r2 σ3 H locs hp hw => ?_)
  obtain ⟨er2, eσ3⟩ := hp
  replace hok := hok.2 r2 σ3 er2 eσ3
  refine lv_istore (lv' := [(4, .int r2), (0, .ref (a.1 13)), (1, .ref (a.2.1 d1)), (2, .int v2), (3, .int v3)]) hF.x hF.b dX1_doTry_10 hl (by decide) rfl (fun ls hl => ?_)
  refine lv_aload_n hF.x hF.b dX1_doTry_12 rfl (lv_at hl 1 rfl) ?_
  refine r_get hF hw 0 rfl rfl inlX1 11 (by decide) wf_X1_49 rfl dX1_doTry_13 ?_
  refine lv_if_eq (tgt := 37) hF.x hF.b dX1_doTry_16 (by decide) (fun c4 => ?_) (fun c4 => ?_)
  · replace hok := hok.1 c4
    refine lv_iload hF.x hF.b dX1_doTry_37 (lv_at hl 0 rfl) ?_
    exact rt_I (u := σ3) hF hw hok (Nat.zero_le _) (Nat.zero_le _) dX1_doTry_39
  · replace hok := hok.2 c4
    refine lv_aload_n hF.x hF.b dX1_doTry_19 rfl (lv_at hl 1 rfl) ?_
    refine r_get hF hw 0 rfl rfl inlX1 11 (by decide) wf_X1_49 rfl dX1_doTry_20 ?_
    refine lv_bipush (v := (-8)) hF.x hF.b dX1_doTry_23 (by decide) ?_
    refine lv_icmp_eq (tgt := 37) hF.x hF.b dX1_doTry_25 (by decide) (fun c5 => ?_) (fun c5 => ?_)
    · replace hok := hok.1 c5
      refine lv_iload hF.x hF.b dX1_doTry_37 (lv_at hl 0 rfl) ?_
      exact rt_I (u := σ3) hF hw hok (Nat.zero_le _) (Nat.zero_le _) dX1_doTry_39
    · replace hok := hok.2 c5
      refine lv_aload_n hF.x hF.b dX1_doTry_28 rfl (lv_at hl 1 rfl) ?_
      refine r_get hF hw 0 rfl rfl inlX1 11 (by decide) wf_X1_49 rfl dX1_doTry_29 ?_
      refine lv_bipush (v := (-9)) hF.x hF.b dX1_doTry_32 (by decide) ?_
      refine lv_icmp_ne (tgt := 40) hF.x hF.b dX1_doTry_34 (by decide) (fun c6 => ?_) (fun c6 => ?_)
      · replace hok := hok.1 c6
        refine lv_aload_n hF.x hF.b dX1_doTry_40 rfl (lv_at hl 1 rfl) ?_
        refine lv_iconst (v := 0) hF.x hF.b dX1_doTry_41 (by decide) ?_
        refine rx_put (v := 0) 11 hF hw (by decide) wf_X1_49 dX1_doTry_42 (fun σ7 H locs eσ7 hw => ?_)
        replace hok := hok σ7 eσ7
        refine lv_aload_n hF.x hF.b dX1_doTry_45 rfl (lv_at hl 1 rfl) ?_
        refine lv_aload_n hF.x hF.b dX1_doTry_46 rfl (lv_at hl 2 rfl) ?_
        refine rx_dget (k := 5) hF hw hok.1 (by decide) (by unfold nestW; simp [TX0]) rfl dX1_doTry_47 ?_
        obtain ⟨o8, eo8⟩ : ∃ z : Option Nat, z = (σ7.2.2.2.1.2 d1).2 5 := ⟨_, rfl⟩
        rw [← eo8]
        replace hok := hok.2 o8 eo8
        refine lv_iload_n hF.x hF.b dX1_doTry_50 rfl (lv_at hl 3 rfl) ?_
        refine lv_iload_n hF.x hF.b dX1_doTry_51 rfl (lv_at hl 4 rfl) ?_
        refine ca_I hF hw (hDo σ7 o8 v2 v3 hok.1) wv_X1_110 (q0 := 0) rfl rfl rfl ⟨nd_X1.1, nd_X1.2, pd_X1_doDeed⟩ ⟨by show 3 * k + 6 + 1 ≤ 3 * k + 7; omega, by show 8 + (4 + 11) + (75 * k + 160) ≤ 75 * k + 183; omega⟩ ⟨Nat.zero_le _, Nat.zero_le _⟩ hl.1 rfl (by first | exact Nat.le_of_ble_eq_true rfl | simp [cat_rf, Value.category]) dX1_doTry_52 (fun r9 σ10 H locs hp hw => ?_)
        obtain ⟨er9, eσ10⟩ := hp
        replace hok := hok.2 r9 σ10 er9 eσ10
        exact rt_I (u := σ10) hF hw hok (Nat.zero_le _) (Nat.zero_le _) dX1_doTry_55
      · replace hok := hok.2 c6
        refine lv_iload hF.x hF.b dX1_doTry_37 (lv_at hl 0 rfl) ?_
        exact rt_I (u := σ3) hF hw hok (Nat.zero_le _) (Nat.zero_le _) dX1_doTry_39

theorem p1_doTry {k : Nat} (σ : SX) (d1 : Nat) (v2 v3 : Int32) (h : q1_doTry k σ d1 v2 v3) : wp_X1_doTry_0 k σ d1 v2 v3 (fun r u => r = (f1_doTry k σ d1 v2 v3).1 ∧ u = (f1_doTry k σ d1 v2 v3).2) := by
  refine ⟨h.2.1, fun o1 e1 => ⟨⟨h.1, by rw [e1]; exact okO.f h.1 h.2.1, h.2.2⟩, fun r2 σ3 e2 e3 => ?_⟩⟩
  have h1 : XK σ σ3 := by rw [e3]; exact fdo_K k σ o1 v2 h.1 (by rw [e1]; exact okO.f h.1 h.2.1)
  have h2 := XK.sI h1.1 11 0 (by decide) (by decide)
  subst e1
  refine ⟨fun c => ?_, fun c => ⟨fun c2 => ?_, fun c2 => ⟨fun c3 σ7 e7 => ⟨by rw [e7]; exact h1.nd h.2.1, fun o8 e8 => ⟨⟨by rw [e7]; exact h2.1, by rw [e8, e7]; exact okO.s h1.1 (h1.nd h.2.1), h.2.2⟩, fun r9 σ10 e9 e10 => ?_⟩⟩, fun c3 => ?_⟩⟩⟩
  · subst e3
    simp only [f1_doTry, fx_try]
    rw [if_pos (Or.inl c)]
    exact ⟨e2, rfl⟩
  · subst e3
    simp only [f1_doTry, fx_try]
    rw [if_pos (Or.inr (Or.inl c2))]
    exact ⟨e2, rfl⟩
  · subst e7; subst e8; subst e3
    simp only [f1_doTry, fx_try]
    rw [if_neg (fun q => q.elim c (fun q => q.elim c2 c3))]
    exact ⟨e9, e10⟩
  · subst e3
    simp only [f1_doTry, fx_try]
    rw [if_pos (Or.inr (Or.inr c3))]
    exact ⟨e2, rfl⟩

theorem c1_doTry {l : Launch} {G : Gm} {a : AX} {k : Nat} (hDo : ∀ (σ : SX) (o : Option Nat) (v2 v3 : Int32), q1_do k σ o v2 v3 → ctI l yX1_doDeed cX1_doDeed 4 .int (rDo k) G [.ref (a.1 13), va_rf (Option.map a.2.1 o), .int v2, .int v3] (wX G a σ) (fun (r : Int32) (u : SX) => r = (f1_do k σ o v2 v3).1 ∧ u = (f1_do k σ o v2 v3).2) (wX G a)) (σ : SX) (d1 : Nat) (v2 : Int32) (v3 : Int32) (h : q1_doTry k σ d1 v2 v3) : ctI l yX1_doTry cX1_doTry 5 .int (rTh k) G [.ref (a.1 13), .ref (a.2.1 d1), .int v2, .int v3] (wX G a σ) (fun (r : Int32) (u : SX) => r = (f1_doTry k σ d1 v2 v3).1 ∧ u = (f1_doTry k σ d1 v2 v3).2) (wX G a) := by
  refine en_I (by decide +kernel) (Nat.le_of_ble_eq_true rfl) (fun p e s m below meth c A ls hF hw hl => ?_)
  exact k_X1_doTry_0 hDo hF σ d1 v2 v3 hw hl (p1_doTry σ d1 v2 v3 h)

def wp_X1_doCount_0 (k : Nat) (σ : SX) (d1 : Nat) (v2 : Int32) (v3 : Int32)  (post : Int32 → SX → Prop) : Prop :=
  d1 < σ.2.2.2.1.1 ∧ ∀ o1 : Option Nat, o1 = (σ.2.2.2.1.2 d1).2 4 → q1_do k σ o1 v2 v3 ∧ ∀ (r2 : Int32) (σ3 : SX), r2 = (f1_do k σ o1 v2 v3).1 → σ3 = (f1_do k σ o1 v2 v3).2 → ((σ3.1 11) = 0 → d1 < σ3.2.2.2.1.1 ∧ ∀ x5 : Int32, x5 = ((σ3.2.2.2.1.2 d1).1 7) + 1 → d1 < σ3.2.2.2.1.1 ∧ ∀ σ6 : SX, σ6 = (σ3.1, σ3.2.1, σ3.2.2.1, (σ3.2.2.2.1.1, va_up σ3.2.2.2.1.2 d1 (va_up (σ3.2.2.2.1.2 d1).1 7 x5, (σ3.2.2.2.1.2 d1).2)), σ3.2.2.2.2) → d1 < σ6.2.2.2.1.1 ∧ post ((σ6.2.2.2.1.2 d1).1 7) σ6) ∧ (¬ (σ3.1 11) = 0 → post 0 σ3)
set_option maxHeartbeats 4000000 in
set_option maxRecDepth 100000 in
theorem k_X1_doCount_0 {l : Launch} {p : Program} {e : Env} {s : State} {m : MethodId} {below : List Frame} {meth : Method} {c : Code} {args : Array Value} {A : Nat → Prop} {G : Gm} {a : AX} {k : Nat} (hDo : ∀ (σ : SX) (o : Option Nat) (v2 v3 : Int32), q1_do k σ o v2 v3 → ctI l yX1_doDeed cX1_doDeed 4 .int (rDo k) G [.ref (a.1 13), va_rf (Option.map a.2.1 o), .int v2, .int v3] (wX G a σ) (fun (r : Int32) (u : SX) => r = (f1_do k σ o v2 v3).1 ∧ u = (f1_do k σ o v2 v3).2) (wX G a))  (hF : fx p s m args meth c cX1_doCount 4 yX1_doCount.cls kX1_doCount (some (.int))) {post : Int32 → SX → Prop}  (σ : SX) (d1 : Nat) (v2 : Int32) (v3 : Int32) {H : Heap} {locs : List Loc} {ls : Array Slot} (hw : wb G A s (wX G a σ) H locs) (hl : lv_has ls 4 [(0, .ref (a.1 13)), (1, .ref (a.2.1 d1)), (2, .int v2), (3, .int v3)]) (hok : wp_X1_doCount_0 k σ d1 v2 v3  post) :
    W p l e (rTh k) s m args below meth c H locs 0 0 (MQ below (va_Qi post (po G A (wX G a)) A) args s 0 0 A) (F0 m 0 ls []) := by
  unfold wp_X1_doCount_0 at hok
  refine lv_aload_n hF.x hF.b dX1_doCount_0 rfl (lv_at hl 0 rfl) ?_
  refine lv_aload_n hF.x hF.b dX1_doCount_1 rfl (lv_at hl 1 rfl) ?_
  refine rx_dget (k := 4) hF hw hok.1 (by decide) (by unfold nestW; simp [TX0]) rfl dX1_doCount_2 ?_
  obtain ⟨o1, eo1⟩ : ∃ z : Option Nat, z = (σ.2.2.2.1.2 d1).2 4 := ⟨_, rfl⟩
  rw [← eo1]
  replace hok := hok.2 o1 eo1
  refine lv_iload_n hF.x hF.b dX1_doCount_5 rfl (lv_at hl 2 rfl) ?_
  refine lv_iload_n hF.x hF.b dX1_doCount_6 rfl (lv_at hl 3 rfl) ?_
  refine ca_I hF hw (hDo σ o1 v2 v3 hok.1) wv_X1_110 (q0 := 0) rfl rfl rfl ⟨nd_X1.1, nd_X1.2, pd_X1_doDeed⟩ ⟨by show 3 * k + 6 + 1 ≤ 3 * k + 7; omega, by show 8 + (4 + 11) + (75 * k + 160) ≤ 75 * k + 183; omega⟩ ⟨Nat.zero_le _, Nat.zero_le _⟩ hl.1 rfl (by first | exact Nat.le_of_ble_eq_true rfl | simp [cat_rf, Value.category]) dX1_doCount_7 (fun r2 σ3 H locs hp hw => ?_)
  obtain ⟨er2, eσ3⟩ := hp
  replace hok := hok.2 r2 σ3 er2 eσ3
  refine lv_pop hF.x hF.b dX1_doCount_10 rfl ?_
  refine lv_aload_n hF.x hF.b dX1_doCount_11 rfl (lv_at hl 0 rfl) ?_
  refine r_get hF hw 0 rfl rfl inlX1 11 (by decide) wf_X1_49 rfl dX1_doCount_12 ?_
  refine lv_if_eq (tgt := 20) hF.x hF.b dX1_doCount_15 (by decide) (fun c4 => ?_) (fun c4 => ?_)
  · replace hok := hok.1 c4
    refine lv_aload_n hF.x hF.b dX1_doCount_20 rfl (lv_at hl 1 rfl) ?_
    refine lv_dup hF.x hF.b dX1_doCount_21 rfl ?_
    refine rx_dget (k := 7) hF hw hok.1 (by decide) (by unfold nestW; simp [TX0]) rfl dX1_doCount_22 ?_
    replace hok := hok.2
    refine lv_iconst (v := 1) hF.x hF.b dX1_doCount_25 (by decide) ?_
    refine lv_iadd hF.x hF.b dX1_doCount_26 ?_
    refine lv_topi (fun x5 ex5 => ?_)
    replace hok := hok x5 ex5
    refine rx_dputT (v := x5) hF hw hok.1 dX1_doCount_27 (fun σ6 H locs eσ6 hw => ?_)
    replace hok := hok.2 σ6 eσ6
    refine lv_aload_n hF.x hF.b dX1_doCount_30 rfl (lv_at hl 1 rfl) ?_
    refine rx_dget (k := 7) hF hw hok.1 (by decide) (by unfold nestW; simp [TX0]) rfl dX1_doCount_31 ?_
    replace hok := hok.2
    exact rt_I (u := σ6) hF hw hok (Nat.zero_le _) (Nat.zero_le _) dX1_doCount_34
  · replace hok := hok.2 c4
    refine lv_iconst (v := 0) hF.x hF.b dX1_doCount_18 (by decide) ?_
    exact rt_I (u := σ3) hF hw hok (Nat.zero_le _) (Nat.zero_le _) dX1_doCount_19

theorem p1_doCount {k : Nat} (σ : SX) (d1 : Nat) (v2 v3 : Int32) (h : q1_doCount k σ d1 v2 v3) : wp_X1_doCount_0 k σ d1 v2 v3 (fun r u => r = (f1_doCount k σ d1 v2 v3).1 ∧ u = (f1_doCount k σ d1 v2 v3).2) := by
  refine ⟨h.2.1, fun o1 e1 => ⟨⟨h.1, by rw [e1]; exact okO.f h.1 h.2.1, h.2.2⟩, fun r2 σ3 e2 e3 => ?_⟩⟩
  have h1 : XK σ σ3 := by rw [e3]; exact fdo_K k σ o1 v2 h.1 (by rw [e1]; exact okO.f h.1 h.2.1)
  subst e1
  refine ⟨fun c => ⟨h1.nd h.2.1, fun x5 e5 => ⟨h1.nd h.2.1, fun σ6 e6 => ⟨by rw [e6]; exact h1.nd h.2.1, ?_⟩⟩⟩, fun c => ?_⟩
  · subst e5; subst e6; subst e3
    simp only [f1_doCount, fx_count]
    rw [if_pos c]
    exact ⟨by simp [va_up], rfl⟩
  · subst e3
    simp only [f1_doCount, fx_count]
    rw [if_neg c]
    exact ⟨rfl, rfl⟩

theorem c1_doCount {l : Launch} {G : Gm} {a : AX} {k : Nat} (hDo : ∀ (σ : SX) (o : Option Nat) (v2 v3 : Int32), q1_do k σ o v2 v3 → ctI l yX1_doDeed cX1_doDeed 4 .int (rDo k) G [.ref (a.1 13), va_rf (Option.map a.2.1 o), .int v2, .int v3] (wX G a σ) (fun (r : Int32) (u : SX) => r = (f1_do k σ o v2 v3).1 ∧ u = (f1_do k σ o v2 v3).2) (wX G a)) (σ : SX) (d1 : Nat) (v2 : Int32) (v3 : Int32) (h : q1_doCount k σ d1 v2 v3) : ctI l yX1_doCount cX1_doCount 4 .int (rTh k) G [.ref (a.1 13), .ref (a.2.1 d1), .int v2, .int v3] (wX G a σ) (fun (r : Int32) (u : SX) => r = (f1_doCount k σ d1 v2 v3).1 ∧ u = (f1_doCount k σ d1 v2 v3).2) (wX G a) := by
  refine en_I (by decide +kernel) (Nat.le_of_ble_eq_true rfl) (fun p e s m below meth c A ls hF hw hl => ?_)
  exact k_X1_doCount_0 hDo hF σ d1 v2 v3 hw hl (p1_doCount σ d1 v2 v3 h)

def wp_X1_doPlaces_6 (k : Nat) (σ : SX) (v1 : Int32) (v2 : Int32) (v3 : Int32) (v4 : Int32) (v5 : Int32) (K6 : SX → Int32 → Int32 → Int32 → Int32 → Int32 → Prop) (post : Int32 → SX → Prop) : Prop :=
  (4 ≤ v5 → post v4 σ) ∧ (¬ 4 ≤ v5 → (¬ (σ.1 11) = 0 → post v4 σ) ∧ ((σ.1 11) = 0 → q1_atPlace σ v1 v5 ∧ ∀ (o3 : Option Nat) (σ4 : SX), o3 = (f1_atPlace σ v1 v5).1 → σ4 = (f1_atPlace σ v1 v5).2 → q1_do k σ4 o3 v4 v3 ∧ ∀ (r5 : Int32) (σ6 : SX), r5 = (f1_do k σ4 o3 v4 v3).1 → σ6 = (f1_do k σ4 o3 v4 v3).2 → ∀ x7 : Int32, x7 = v5 + 1 → K6 σ6 v1 v2 v3 r5 x7))
set_option maxHeartbeats 4000000 in
set_option maxRecDepth 100000 in
theorem k_X1_doPlaces_6 {l : Launch} {p : Program} {e : Env} {s : State} {m : MethodId} {below : List Frame} {meth : Method} {c : Code} {args : Array Value} {A : Nat → Prop} {G : Gm} {a : AX} {k : Nat} (hDo : ∀ (σ : SX) (o : Option Nat) (v2 v3 : Int32), q1_do k σ o v2 v3 → ctI l yX1_doDeed cX1_doDeed 4 .int (rDo k) G [.ref (a.1 13), va_rf (Option.map a.2.1 o), .int v2, .int v3] (wX G a σ) (fun (r : Int32) (u : SX) => r = (f1_do k σ o v2 v3).1 ∧ u = (f1_do k σ o v2 v3).2) (wX G a))  (hF : fx p s m args meth c cX1_doPlaces 6 yX1_doPlaces.cls kX1_doPlaces (some (.int))) {post : Int32 → SX → Prop} {K6 : SX → Int32 → Int32 → Int32 → Int32 → Int32 → Prop} (hK6 : ∀ (σ : SX) (v1 : Int32) (v2 : Int32) (v3 : Int32) (v4 : Int32) (v5 : Int32) {H : Heap} {locs : List Loc} {ls : Array Slot}, K6 σ v1 v2 v3 v4 v5 → wb G A s (wX G a σ) H locs → lv_has ls 6 [(0, .ref (a.1 13)), (1, .int v1), (2, .int v2), (3, .int v3), (4, .int v4), (5, .int v5)] → W p l e (rTh k) s m args below meth c H locs 0 0 (MQ below (va_Qi post (po G A (wX G a)) A) args s 0 0 A) (F0 m 6 ls [])) (σ : SX) (v1 : Int32) (v2 : Int32) (v3 : Int32) (v4 : Int32) (v5 : Int32) {H : Heap} {locs : List Loc} {ls : Array Slot} (hw : wb G A s (wX G a σ) H locs) (hl : lv_has ls 6 [(0, .ref (a.1 13)), (1, .int v1), (2, .int v2), (3, .int v3), (4, .int v4), (5, .int v5)]) (hok : wp_X1_doPlaces_6 k σ v1 v2 v3 v4 v5 K6 post) :
    W p l e (rTh k) s m args below meth c H locs 0 0 (MQ below (va_Qi post (po G A (wX G a)) A) args s 0 0 A) (F0 m 6 ls []) := by
  unfold wp_X1_doPlaces_6 at hok
  refine lv_iload hF.x hF.b dX1_doPlaces_6 (lv_at hl 5 rfl) ?_
  refine lv_iconst (v := 4) hF.x hF.b dX1_doPlaces_8 (by decide) ?_
  refine lv_icmp_ge (tgt := 41) hF.x hF.b dX1_doPlaces_9 (by decide) (fun c1 => ?_) (fun c1 => ?_)
  · replace hok := hok.1 c1
    refine lv_iload hF.x hF.b dX1_doPlaces_41 (lv_at hl 4 rfl) ?_
    exact rt_I (u := σ) hF hw hok (Nat.zero_le _) (Nat.zero_le _) dX1_doPlaces_43
  · replace hok := hok.2 c1
    refine lv_aload_n hF.x hF.b dX1_doPlaces_12 rfl (lv_at hl 0 rfl) ?_
    refine r_get hF hw 0 rfl rfl inlX1 11 (by decide) wf_X1_49 rfl dX1_doPlaces_13 ?_
    refine lv_if_ne (tgt := 41) hF.x hF.b dX1_doPlaces_16 (by decide) (fun c2 => ?_) (fun c2 => ?_)
    · replace hok := hok.1 c2
      refine lv_iload hF.x hF.b dX1_doPlaces_41 (lv_at hl 4 rfl) ?_
      exact rt_I (u := σ) hF hw hok (Nat.zero_le _) (Nat.zero_le _) dX1_doPlaces_43
    · replace hok := hok.2 c2
      refine lv_aload_n hF.x hF.b dX1_doPlaces_19 rfl (lv_at hl 0 rfl) ?_
      refine lv_aload_n hF.x hF.b dX1_doPlaces_20 rfl (lv_at hl 0 rfl) ?_
      refine lv_iload_n hF.x hF.b dX1_doPlaces_21 rfl (lv_at hl 1 rfl) ?_
      refine lv_iload hF.x hF.b dX1_doPlaces_22 (lv_at hl 5 rfl) ?_
      refine ca_Q hF hw (c1_atPlace l G a σ v1 v5 hok.1) wv_X1_193 (q0 := 0) rfl rfl rfl ⟨nd_X1.1, nd_X1.2, pd_X1_atPlace⟩ ⟨by show 1 + 1 ≤ 3 * k + 7; omega, by show 8 + (3 + 11) + 20 ≤ 75 * k + 183; omega⟩ ⟨Nat.zero_le _, Nat.zero_le _⟩ hl.1 rfl (by first | exact Nat.le_of_ble_eq_true rfl | simp [cat_rf, Value.category]) dX1_doPlaces_24 (fun rq σ4 H locs hp hw => ?_)
      obtain ⟨o3, hr, eo3, eσ4⟩ := hp
      subst hr
      replace hok := hok.2 o3 σ4 eo3 eσ4
      refine lv_iload hF.x hF.b dX1_doPlaces_27 (lv_at hl 4 rfl) ?_
      refine lv_iload_n hF.x hF.b dX1_doPlaces_29 rfl (lv_at hl 3 rfl) ?_
      refine ca_I hF hw (hDo σ4 o3 v4 v3 hok.1) wv_X1_110 (q0 := 0) rfl rfl rfl ⟨nd_X1.1, nd_X1.2, pd_X1_doDeed⟩ ⟨by show 3 * k + 6 + 1 ≤ 3 * k + 7; omega, by show 8 + (4 + 11) + (75 * k + 160) ≤ 75 * k + 183; omega⟩ ⟨Nat.zero_le _, Nat.zero_le _⟩ hl.1 rfl (by first | exact Nat.le_of_ble_eq_true rfl | simp [cat_rf, Value.category]) dX1_doPlaces_30 (fun r5 σ6 H locs hp hw => ?_)
      obtain ⟨er5, eσ6⟩ := hp
      replace hok := hok.2 r5 σ6 er5 eσ6
      refine lv_istore (lv' := [(4, .int r5), (0, .ref (a.1 13)), (1, .int v1), (2, .int v2), (3, .int v3), (5, .int v5)]) hF.x hF.b dX1_doPlaces_33 hl (by decide) rfl (fun ls hl => ?_)
      obtain ⟨x7, ex7⟩ : ∃ z : Int32, z = v5 + 1 := ⟨_, rfl⟩
      replace hok := hok x7 ex7
      refine lv_iinc (v := x7) (lv' := [(5, .int x7), (4, .int r5), (0, .ref (a.1 13)), (1, .int v1), (2, .int v2), (3, .int v3)]) hF.x hF.b dX1_doPlaces_35 hl (k := 5) rfl (by rw [ex7]; rfl) (by decide) rfl (fun ls hl => ?_)
      refine lv_goto (tgt := 6) hF.x hF.b dX1_doPlaces_38 (by decide) ?_
      exact hK6 σ6 v1 v2 v3 r5 x7 hok hw (lv_sub hl [2, 3, 4, 5, 1, 0] rfl)
def wp_X1_doPlaces_0 (k : Nat) (σ : SX) (v1 : Int32) (v2 : Int32) (v3 : Int32) (K6 : SX → Int32 → Int32 → Int32 → Int32 → Int32 → Prop) (post : Int32 → SX → Prop) : Prop :=
  K6 σ v1 v2 v3 v2 0
set_option maxHeartbeats 4000000 in
set_option maxRecDepth 100000 in
theorem k_X1_doPlaces_0 {l : Launch} {p : Program} {e : Env} {s : State} {m : MethodId} {below : List Frame} {meth : Method} {c : Code} {args : Array Value} {A : Nat → Prop} {G : Gm} {a : AX} {k : Nat} (hDo : ∀ (σ : SX) (o : Option Nat) (v2 v3 : Int32), q1_do k σ o v2 v3 → ctI l yX1_doDeed cX1_doDeed 4 .int (rDo k) G [.ref (a.1 13), va_rf (Option.map a.2.1 o), .int v2, .int v3] (wX G a σ) (fun (r : Int32) (u : SX) => r = (f1_do k σ o v2 v3).1 ∧ u = (f1_do k σ o v2 v3).2) (wX G a))  (hF : fx p s m args meth c cX1_doPlaces 6 yX1_doPlaces.cls kX1_doPlaces (some (.int))) {post : Int32 → SX → Prop} {K6 : SX → Int32 → Int32 → Int32 → Int32 → Int32 → Prop} (hK6 : ∀ (σ : SX) (v1 : Int32) (v2 : Int32) (v3 : Int32) (v4 : Int32) (v5 : Int32) {H : Heap} {locs : List Loc} {ls : Array Slot}, K6 σ v1 v2 v3 v4 v5 → wb G A s (wX G a σ) H locs → lv_has ls 6 [(0, .ref (a.1 13)), (1, .int v1), (2, .int v2), (3, .int v3), (4, .int v4), (5, .int v5)] → W p l e (rTh k) s m args below meth c H locs 0 0 (MQ below (va_Qi post (po G A (wX G a)) A) args s 0 0 A) (F0 m 6 ls [])) (σ : SX) (v1 : Int32) (v2 : Int32) (v3 : Int32) {H : Heap} {locs : List Loc} {ls : Array Slot} (hw : wb G A s (wX G a σ) H locs) (hl : lv_has ls 6 [(0, .ref (a.1 13)), (1, .int v1), (2, .int v2), (3, .int v3)]) (hok : wp_X1_doPlaces_0 k σ v1 v2 v3 K6 post) :
    W p l e (rTh k) s m args below meth c H locs 0 0 (MQ below (va_Qi post (po G A (wX G a)) A) args s 0 0 A) (F0 m 0 ls []) := by
  unfold wp_X1_doPlaces_0 at hok
  refine lv_iload_n hF.x hF.b dX1_doPlaces_0 rfl (lv_at hl 2 rfl) ?_
  refine lv_istore (lv' := [(4, .int v2), (0, .ref (a.1 13)), (1, .int v1), (2, .int v2), (3, .int v3)]) hF.x hF.b dX1_doPlaces_1 hl (by decide) rfl (fun ls hl => ?_)
  refine lv_iconst (v := 0) hF.x hF.b dX1_doPlaces_3 (by decide) ?_
  refine lv_istore (lv' := [(5, .int 0), (4, .int v2), (0, .ref (a.1 13)), (1, .int v1), (2, .int v2), (3, .int v3)]) hF.x hF.b dX1_doPlaces_4 hl (by decide) rfl (fun ls hl => ?_)
  exact hK6 σ v1 v2 v3 v2 0 hok hw (lv_sub hl [2, 3, 4, 5, 1, 0] rfl)

theorem lp_X1_doPlaces_6 {l : Launch} {p : Program} {e : Env} {s : State} {m : MethodId} {below : List Frame} {meth : Method} {c : Code} {args : Array Value} {A : Nat → Prop} {G : Gm} {a : AX} {k : Nat} (hDo : ∀ (σ : SX) (o : Option Nat) (v2 v3 : Int32), q1_do k σ o v2 v3 → ctI l yX1_doDeed cX1_doDeed 4 .int (rDo k) G [.ref (a.1 13), va_rf (Option.map a.2.1 o), .int v2, .int v3] (wX G a σ) (fun (r : Int32) (u : SX) => r = (f1_do k σ o v2 v3).1 ∧ u = (f1_do k σ o v2 v3).2) (wX G a))  (hF : fx p s m args meth c cX1_doPlaces 6 yX1_doPlaces.cls kX1_doPlaces (some (.int))) {post : Int32 → SX → Prop}  (Inv : Nat → SX → Int32 → Int32 → Int32 → Int32 → Int32 → Prop) (hstep : ∀ (n : Nat) (σ : SX) (v1 : Int32) (v2 : Int32) (v3 : Int32) (v4 : Int32) (v5 : Int32), Inv n σ v1 v2 v3 v4 v5 → wp_X1_doPlaces_6 k σ v1 v2 v3 v4 v5 (fun σq v1' v2' v3' v4' v5' => ∃ nq, nq < n ∧ Inv nq σq v1' v2' v3' v4' v5') post) :
    ∀ (n : Nat) (σ : SX) (v1 : Int32) (v2 : Int32) (v3 : Int32) (v4 : Int32) (v5 : Int32) {H : Heap} {locs : List Loc} {ls : Array Slot}, Inv n σ v1 v2 v3 v4 v5 → wb G A s (wX G a σ) H locs → lv_has ls 6 [(0, .ref (a.1 13)), (1, .int v1), (2, .int v2), (3, .int v3), (4, .int v4), (5, .int v5)] → W p l e (rTh k) s m args below meth c H locs 0 0 (MQ below (va_Qi post (po G A (wX G a)) A) args s 0 0 A) (F0 m 6 ls []) := by
  intro n
  induction n using Nat.strongRecOn with
  | _ n ih =>
    intro σ v1 v2 v3 v4 v5 H locs ls hI hw hl
    exact k_X1_doPlaces_6 hDo hF (post := post) (K6 := fun σq v1' v2' v3' v4' v5' => ∃ nq, nq < n ∧ Inv nq σq v1' v2' v3' v4' v5') (by intro σq v1' v2' v3' v4' v5' H locs ls hI hw hl; exact ih hI.choose hI.choose_spec.1 σq v1' v2' v3' v4' v5' hI.choose_spec.2 hw hl) σ v1 v2 v3 v4 v5 hw hl (hstep n σ v1 v2 v3 v4 v5 hI)

theorem p1_places_step {k : Nat} {σ0 : SX} {lv op : Int32} (hk : k ≤ 16) (hop : op = nI (16 - k)) (tg : Int32 × SX) (n : Nat) (σ : SX) (v1 v2 v3 v4 v5 : Int32)
    (hI : v1 = lv ∧ v3 = op ∧ XK σ0 σ ∧ ∃ j : Nat, j + n = 4 ∧ v5 = nI j ∧ fx_it (fdo k) (fun σ' i => (f1_atPlace σ' lv (nI i)).1) n j σ v4 = tg) :
    wp_X1_doPlaces_6 k σ v1 v2 v3 v4 v5 (fun σq v1' v2' v3' v4' v5' => ∃ nq, nq < n ∧ (v1' = lv ∧ v3' = op ∧ XK σ0 σq ∧ ∃ j : Nat, j + nq = 4 ∧ v5' = nI j ∧ fx_it (fdo k) (fun σ' i => (f1_atPlace σ' lv (nI i)).1) nq j σq v4' = tg)) (fun r u => r = tg.1 ∧ u = tg.2) := by
  obtain ⟨rfl, rfl, hX, j, hj, rfl, ht⟩ := hI
  refine ⟨fun c => ?_, fun c => ⟨fun c2 => ?_, fun c2 => ⟨trivial, fun o3 σ4 e3 e4 => ?_⟩⟩⟩
  · have hn : n = 0 := by
      rw [show (4 : Int32) = nI 4 from rfl, nI_leI (by decide) (by omega)] at c
      omega
    subst hn
    rw [← ht]
    exact ⟨rfl, rfl⟩
  · cases n with
    | zero => rw [← ht]; exact ⟨rfl, rfl⟩
    | succ n =>
      simp only [fx_it] at ht
      rw [if_neg c2] at ht
      rw [← ht]; exact ⟨rfl, rfl⟩
  · obtain rfl : σ4 = σ := e4
    refine ⟨⟨hX.1, by rw [e3]; exact okO.at hX.1 _ _, hk, hop⟩, fun r5 σ6 e5 e6 x7 e7 => ?_⟩
    cases n with
    | zero =>
      exfalso
      apply c
      rw [show (4 : Int32) = nI 4 from rfl, nI_leI (by decide) (by omega)]
      omega
    | succ n =>
      simp only [fx_it] at ht
      rw [if_pos c2] at ht
      subst e3; subst e5; subst e6
      exact ⟨n, Nat.lt_succ_self n, rfl, rfl, hX.tr (fdo_K k σ4 _ v4 hX.1 (okO.at hX.1 _ _)), j + 1, by omega, by rw [e7, nI_1], ht⟩

theorem c1_doPlaces {l : Launch} {G : Gm} {a : AX} {k : Nat} (hDo : ∀ (σ : SX) (o : Option Nat) (v2 v3 : Int32), q1_do k σ o v2 v3 → ctI l yX1_doDeed cX1_doDeed 4 .int (rDo k) G [.ref (a.1 13), va_rf (Option.map a.2.1 o), .int v2, .int v3] (wX G a σ) (fun (r : Int32) (u : SX) => r = (f1_do k σ o v2 v3).1 ∧ u = (f1_do k σ o v2 v3).2) (wX G a)) (σ : SX) (v1 : Int32) (v2 : Int32) (v3 : Int32) (h : q1_doPlaces k σ v1 v2 v3) : ctI l yX1_doPlaces cX1_doPlaces 6 .int (rTh k) G [.ref (a.1 13), .int v1, .int v2, .int v3] (wX G a σ) (fun (r : Int32) (u : SX) => r = (f1_doPlaces k σ v1 v2 v3).1 ∧ u = (f1_doPlaces k σ v1 v2 v3).2) (wX G a) := by
  refine en_I (by decide +kernel) (Nat.le_of_ble_eq_true rfl) (fun p e s m below meth c A ls hF hw hl => ?_)
  refine k_X1_doPlaces_0 hDo hF (K6 := fun σq v1' v2' v3' v4' v5' => ∃ nq, (v1' = v1 ∧ v3' = v3 ∧ XK σ σq ∧ ∃ j : Nat, j + nq = 4 ∧ v5' = nI j ∧ fx_it (fdo k) (fun σ' i => (f1_atPlace σ' v1 (nI i)).1) nq j σq v4' = f1_doPlaces k σ v1 v2 v3)) ?_ σ v1 v2 v3 hw hl ?_
  · intro σq v1' v2' v3' v4' v5' H locs ls hI hw hl
    exact lp_X1_doPlaces_6 hDo hF _ (p1_places_step (σ0 := σ) (lv := v1) h.2.1 h.2.2 (f1_doPlaces k σ v1 v2 v3)) hI.choose σq v1' v2' v3' v4' v5' hI.choose_spec hw hl
  · exact ⟨4, rfl, rfl, XK.rf h.1, 0, rfl, rfl, rfl⟩
end
section
def wp_X1_doThroughOthers_0 (k : Nat) (σ : SX) (d1 : Nat) (v2 : Int32) (v3 : Int32)  (post : Int32 → SX → Prop) : Prop :=
  d1 < σ.2.2.2.1.1 ∧ (((σ.2.2.2.1.2 d1).1 0).toInt < 7 ∨ 14 < ((σ.2.2.2.1.2 d1).1 0).toInt → q1_fail σ ((-6)) ∧ ∀ (r2 : Int32) (σ3 : SX), r2 = (f1_fail σ ((-6))).1 → σ3 = (f1_fail σ ((-6))).2 → post r2 σ3) ∧ (((σ.2.2.2.1.2 d1).1 0) = 7 → q1_doThen k σ d1 v2 v3 ∧ ∀ (r4 : Int32) (σ5 : SX), r4 = (f1_doThen k σ d1 v2 v3).1 → σ5 = (f1_doThen k σ d1 v2 v3).2 → post r4 σ5) ∧ (((σ.2.2.2.1.2 d1).1 0) = 8 → d1 < σ.2.2.2.1.1 ∧ q1_heldBy σ ((σ.2.2.2.1.2 d1).1 3) ∧ ∀ (r6 : Int32) (σ7 : SX), r6 = (f1_heldBy σ ((σ.2.2.2.1.2 d1).1 3)).1 → σ7 = (f1_heldBy σ ((σ.2.2.2.1.2 d1).1 3)).2 → (r6 ≤ v2 → d1 < σ7.2.2.2.1.1 ∧ ∀ o9 : Option Nat, o9 = (σ7.2.2.2.1.2 d1).2 4 → q1_do k σ7 o9 v2 v3 ∧ ∀ (r10 : Int32) (σ11 : SX), r10 = (f1_do k σ7 o9 v2 v3).1 → σ11 = (f1_do k σ7 o9 v2 v3).2 → post r10 σ11) ∧ (¬ r6 ≤ v2 → d1 < σ7.2.2.2.1.1 ∧ ∀ o12 : Option Nat, o12 = (σ7.2.2.2.1.2 d1).2 5 → q1_do k σ7 o12 v2 v3 ∧ ∀ (r13 : Int32) (σ14 : SX), r13 = (f1_do k σ7 o12 v2 v3).1 → σ14 = (f1_do k σ7 o12 v2 v3).2 → post r13 σ14)) ∧ (((σ.2.2.2.1.2 d1).1 0) = 9 → q1_doTimes k σ d1 v2 v3 ∧ ∀ (r15 : Int32) (σ16 : SX), r15 = (f1_doTimes k σ d1 v2 v3).1 → σ16 = (f1_doTimes k σ d1 v2 v3).2 → post r15 σ16) ∧ (((σ.2.2.2.1.2 d1).1 0) = 10 → q1_doTry k σ d1 v2 v3 ∧ ∀ (r17 : Int32) (σ18 : SX), r17 = (f1_doTry k σ d1 v2 v3).1 → σ18 = (f1_doTry k σ d1 v2 v3).2 → post r17 σ18) ∧ (((σ.2.2.2.1.2 d1).1 0) = 11 → q1_doLater σ d1 v2 ∧ ∀ (r19 : Int32) (σ20 : SX), r19 = (f1_doLater σ d1 v2).1 → σ20 = (f1_doLater σ d1 v2).2 → post r19 σ20) ∧ (((σ.2.2.2.1.2 d1).1 0) = 12 → q1_doCount k σ d1 v2 v3 ∧ ∀ (r21 : Int32) (σ22 : SX), r21 = (f1_doCount k σ d1 v2 v3).1 → σ22 = (f1_doCount k σ d1 v2 v3).2 → post r21 σ22) ∧ (((σ.2.2.2.1.2 d1).1 0) = 13 → d1 < σ.2.2.2.1.1 ∧ q1_doPlaces k σ ((σ.2.2.2.1.2 d1).1 1) v2 v3 ∧ ∀ (r23 : Int32) (σ24 : SX), r23 = (f1_doPlaces k σ ((σ.2.2.2.1.2 d1).1 1) v2 v3).1 → σ24 = (f1_doPlaces k σ ((σ.2.2.2.1.2 d1).1 1) v2 v3).2 → post r23 σ24) ∧ (((σ.2.2.2.1.2 d1).1 0) = 14 → d1 < σ.2.2.2.1.1 ∧ q1_inSlot σ ((σ.2.2.2.1.2 d1).1 1) ∧ ∀ (o25 : Option Nat) (σ26 : SX), o25 = (f1_inSlot σ ((σ.2.2.2.1.2 d1).1 1)).1 → σ26 = (f1_inSlot σ ((σ.2.2.2.1.2 d1).1 1)).2 → q1_do k σ26 o25 v2 v3 ∧ ∀ (r27 : Int32) (σ28 : SX), r27 = (f1_do k σ26 o25 v2 v3).1 → σ28 = (f1_do k σ26 o25 v2 v3).2 → post r27 σ28)
set_option maxHeartbeats 4000000 in
set_option maxRecDepth 100000 in
theorem k_X1_doThroughOthers_0 {l : Launch} {p : Program} {e : Env} {s : State} {m : MethodId} {below : List Frame} {meth : Method} {c : Code} {args : Array Value} {A : Nat → Prop} {G : Gm} {a : AX} {k : Nat} (hDo : ∀ (σ : SX) (o : Option Nat) (v2 v3 : Int32), q1_do k σ o v2 v3 → ctI l yX1_doDeed cX1_doDeed 4 .int (rDo k) G [.ref (a.1 13), va_rf (Option.map a.2.1 o), .int v2, .int v3] (wX G a σ) (fun (r : Int32) (u : SX) => r = (f1_do k σ o v2 v3).1 ∧ u = (f1_do k σ o v2 v3).2) (wX G a))  (hF : fx p s m args meth c cX1_doThroughOthers 4 yX1_doThroughOthers.cls kX1_doThroughOthers (some (.int))) {post : Int32 → SX → Prop}  (σ : SX) (d1 : Nat) (v2 : Int32) (v3 : Int32) {H : Heap} {locs : List Loc} {ls : Array Slot} (hw : wb G A s (wX G a σ) H locs) (hl : lv_has ls 4 [(0, .ref (a.1 13)), (1, .ref (a.2.1 d1)), (2, .int v2), (3, .int v3)]) (hok : wp_X1_doThroughOthers_0 k σ d1 v2 v3  post) :
    W p l e (rTO k) s m args below meth c H locs 0 0 (MQ below (va_Qi post (po G A (wX G a)) A) args s 0 0 A) (F0 m 0 ls []) := by
  unfold wp_X1_doThroughOthers_0 at hok
  refine lv_aload_n hF.x hF.b dX1_doThroughOthers_0 rfl (lv_at hl 1 rfl) ?_
  refine rx_dget (k := 0) hF hw hok.1 (by decide) (by unfold nestW; simp [TX0]) rfl dX1_doThroughOthers_1 ?_
  replace hok := hok.2
  by_cases c1 : ((σ.2.2.2.1.2 d1).1 0).toInt < 7 ∨ 14 < ((σ.2.2.2.1.2 d1).1 0).toInt
  · replace hok := hok.1 c1
    refine lv_tableOut (tgt := 147) hF.x hF.b dX1_doThroughOthers_4 c1 (by decide) ?_
    refine lv_aload_n hF.x hF.b dX1_doThroughOthers_147 rfl (lv_at hl 0 rfl) ?_
    refine lv_bipush (v := (-6)) hF.x hF.b dX1_doThroughOthers_148 (by decide) ?_
    refine ca_I hF hw (c1_fail l G a σ ((-6)) hok.1) wv_X1_137 (q0 := 0) rfl rfl rfl ⟨nd_X1.1, nd_X1.2, pd_X1_fail⟩ ⟨by show 0 + 1 ≤ 3 * k + 8; omega, by show 8 + (2 + 11) + 0 ≤ 75 * k + 208; omega⟩ ⟨Nat.zero_le _, Nat.zero_le _⟩ hl.1 rfl (by first | exact Nat.le_of_ble_eq_true rfl | simp [cat_rf, Value.category]) dX1_doThroughOthers_150 (fun r2 σ3 H locs hp hw => ?_)
    obtain ⟨er2, eσ3⟩ := hp
    replace hok := hok.2 r2 σ3 er2 eσ3
    exact rt_I (u := σ3) hF hw hok (Nat.zero_le _) (Nat.zero_le _) dX1_doThroughOthers_153
  · obtain ⟨j, hj1, hj2, ex⟩ := sw_in (lo := 7) (hi := 14) c1 (by decide)
    rcases (show j = 7 ∨ j = 8 ∨ j = 9 ∨ j = 10 ∨ j = 11 ∨ j = 12 ∨ j = 13 ∨ j = 14 by omega) with rfl | rfl | rfl | rfl | rfl | rfl | rfl | rfl
    · replace hok := hok.2.1 ex
      refine lv_tableIn (off := 48) (tgt := 52) hF.x hF.b dX1_doThroughOthers_4 (by rw [ex]; decide) (by rw [ex]; decide) (by rw [ex]; rfl) (by decide) ?_
      refine lv_aload_n hF.x hF.b dX1_doThroughOthers_52 rfl (lv_at hl 0 rfl) ?_
      refine lv_aload_n hF.x hF.b dX1_doThroughOthers_53 rfl (lv_at hl 1 rfl) ?_
      refine lv_iload_n hF.x hF.b dX1_doThroughOthers_54 rfl (lv_at hl 2 rfl) ?_
      refine lv_iload_n hF.x hF.b dX1_doThroughOthers_55 rfl (lv_at hl 3 rfl) ?_
      refine ca_I hF hw (c1_doThen hDo σ d1 v2 v3 hok.1) wv_X1_162 (q0 := 0) rfl rfl rfl ⟨nd_X1.1, nd_X1.2, pd_X1_doThen⟩ ⟨by show 3 * k + 7 + 1 ≤ 3 * k + 8; omega, by show 8 + (5 + 11) + (75 * k + 183) ≤ 75 * k + 208; omega⟩ ⟨Nat.zero_le _, Nat.zero_le _⟩ hl.1 rfl (by first | exact Nat.le_of_ble_eq_true rfl | simp [cat_rf, Value.category]) dX1_doThroughOthers_56 (fun r4 σ5 H locs hp hw => ?_)
      obtain ⟨er4, eσ5⟩ := hp
      replace hok := hok.2 r4 σ5 er4 eσ5
      exact rt_I (u := σ5) hF hw hok (Nat.zero_le _) (Nat.zero_le _) dX1_doThroughOthers_59
    · replace hok := hok.2.2.1 ex
      refine lv_tableIn (off := 56) (tgt := 60) hF.x hF.b dX1_doThroughOthers_4 (by rw [ex]; decide) (by rw [ex]; decide) (by rw [ex]; rfl) (by decide) ?_
      refine lv_aload_n hF.x hF.b dX1_doThroughOthers_60 rfl (lv_at hl 0 rfl) ?_
      refine lv_aload_n hF.x hF.b dX1_doThroughOthers_61 rfl (lv_at hl 0 rfl) ?_
      refine lv_aload_n hF.x hF.b dX1_doThroughOthers_62 rfl (lv_at hl 1 rfl) ?_
      refine rx_dget (k := 3) hF hw hok.1 (by decide) (by unfold nestW; simp [TX0]) rfl dX1_doThroughOthers_63 ?_
      replace hok := hok.2
      refine ca_I hF hw (c1_heldBy l G a σ ((σ.2.2.2.1.2 d1).1 3) hok.1) wv_X1_55 (q0 := 0) rfl rfl rfl ⟨nd_X1.1, nd_X1.2, pd_X1_heldBy⟩ ⟨by show 1 + 1 ≤ 3 * k + 8; omega, by show 8 + (2 + 11) + 20 ≤ 75 * k + 208; omega⟩ ⟨Nat.zero_le _, Nat.zero_le _⟩ hl.1 rfl (by first | exact Nat.le_of_ble_eq_true rfl | simp [cat_rf, Value.category]) dX1_doThroughOthers_66 (fun r6 σ7 H locs hp hw => ?_)
      obtain ⟨er6, eσ7⟩ := hp
      replace hok := hok.2 r6 σ7 er6 eσ7
      refine lv_iload_n hF.x hF.b dX1_doThroughOthers_69 rfl (lv_at hl 2 rfl) ?_
      refine lv_icmp_le (tgt := 80) hF.x hF.b dX1_doThroughOthers_70 (by decide) (fun c8 => ?_) (fun c8 => ?_)
      · replace hok := hok.1 c8
        refine lv_aload_n hF.x hF.b dX1_doThroughOthers_80 rfl (lv_at hl 1 rfl) ?_
        refine rx_dget (k := 4) hF hw hok.1 (by decide) (by unfold nestW; simp [TX0]) rfl dX1_doThroughOthers_81 ?_
        obtain ⟨o9, eo9⟩ : ∃ z : Option Nat, z = (σ7.2.2.2.1.2 d1).2 4 := ⟨_, rfl⟩
        rw [← eo9]
        replace hok := hok.2 o9 eo9
        refine lv_iload_n hF.x hF.b dX1_doThroughOthers_84 rfl (lv_at hl 2 rfl) ?_
        refine lv_iload_n hF.x hF.b dX1_doThroughOthers_85 rfl (lv_at hl 3 rfl) ?_
        refine ca_I hF hw (hDo σ7 o9 v2 v3 hok.1) wv_X1_110 (q0 := 0) rfl rfl rfl ⟨nd_X1.1, nd_X1.2, pd_X1_doDeed⟩ ⟨by show 3 * k + 6 + 1 ≤ 3 * k + 8; omega, by show 8 + (4 + 11) + (75 * k + 160) ≤ 75 * k + 208; omega⟩ ⟨Nat.zero_le _, Nat.zero_le _⟩ hl.1 rfl (by first | exact Nat.le_of_ble_eq_true rfl | simp [cat_rf, Value.category]) dX1_doThroughOthers_86 (fun r10 σ11 H locs hp hw => ?_)
        obtain ⟨er10, eσ11⟩ := hp
        replace hok := hok.2 r10 σ11 er10 eσ11
        exact rt_I (u := σ11) hF hw hok (Nat.zero_le _) (Nat.zero_le _) dX1_doThroughOthers_89
      · replace hok := hok.2 c8
        refine lv_aload_n hF.x hF.b dX1_doThroughOthers_73 rfl (lv_at hl 1 rfl) ?_
        refine rx_dget (k := 5) hF hw hok.1 (by decide) (by unfold nestW; simp [TX0]) rfl dX1_doThroughOthers_74 ?_
        obtain ⟨o12, eo12⟩ : ∃ z : Option Nat, z = (σ7.2.2.2.1.2 d1).2 5 := ⟨_, rfl⟩
        rw [← eo12]
        replace hok := hok.2 o12 eo12
        refine lv_goto (tgt := 84) hF.x hF.b dX1_doThroughOthers_77 (by decide) ?_
        refine lv_iload_n hF.x hF.b dX1_doThroughOthers_84 rfl (lv_at hl 2 rfl) ?_
        refine lv_iload_n hF.x hF.b dX1_doThroughOthers_85 rfl (lv_at hl 3 rfl) ?_
        refine ca_I hF hw (hDo σ7 o12 v2 v3 hok.1) wv_X1_110 (q0 := 0) rfl rfl rfl ⟨nd_X1.1, nd_X1.2, pd_X1_doDeed⟩ ⟨by show 3 * k + 6 + 1 ≤ 3 * k + 8; omega, by show 8 + (4 + 11) + (75 * k + 160) ≤ 75 * k + 208; omega⟩ ⟨Nat.zero_le _, Nat.zero_le _⟩ hl.1 rfl (by first | exact Nat.le_of_ble_eq_true rfl | simp [cat_rf, Value.category]) dX1_doThroughOthers_86 (fun r13 σ14 H locs hp hw => ?_)
        obtain ⟨er13, eσ14⟩ := hp
        replace hok := hok.2 r13 σ14 er13 eσ14
        exact rt_I (u := σ14) hF hw hok (Nat.zero_le _) (Nat.zero_le _) dX1_doThroughOthers_89
    · replace hok := hok.2.2.2.1 ex
      refine lv_tableIn (off := 86) (tgt := 90) hF.x hF.b dX1_doThroughOthers_4 (by rw [ex]; decide) (by rw [ex]; decide) (by rw [ex]; rfl) (by decide) ?_
      refine lv_aload_n hF.x hF.b dX1_doThroughOthers_90 rfl (lv_at hl 0 rfl) ?_
      refine lv_aload_n hF.x hF.b dX1_doThroughOthers_91 rfl (lv_at hl 1 rfl) ?_
      refine lv_iload_n hF.x hF.b dX1_doThroughOthers_92 rfl (lv_at hl 2 rfl) ?_
      refine lv_iload_n hF.x hF.b dX1_doThroughOthers_93 rfl (lv_at hl 3 rfl) ?_
      refine ca_I hF hw (c1_doTimes hDo σ d1 v2 v3 hok.1) wv_X1_175 (q0 := 0) rfl rfl rfl ⟨nd_X1.1, nd_X1.2, pd_X1_doTimes⟩ ⟨by show 3 * k + 7 + 1 ≤ 3 * k + 8; omega, by show 8 + (6 + 11) + (75 * k + 183) ≤ 75 * k + 208; omega⟩ ⟨Nat.zero_le _, Nat.zero_le _⟩ hl.1 rfl (by first | exact Nat.le_of_ble_eq_true rfl | simp [cat_rf, Value.category]) dX1_doThroughOthers_94 (fun r15 σ16 H locs hp hw => ?_)
      obtain ⟨er15, eσ16⟩ := hp
      replace hok := hok.2 r15 σ16 er15 eσ16
      exact rt_I (u := σ16) hF hw hok (Nat.zero_le _) (Nat.zero_le _) dX1_doThroughOthers_97
    · replace hok := hok.2.2.2.2.1 ex
      refine lv_tableIn (off := 94) (tgt := 98) hF.x hF.b dX1_doThroughOthers_4 (by rw [ex]; decide) (by rw [ex]; decide) (by rw [ex]; rfl) (by decide) ?_
      refine lv_aload_n hF.x hF.b dX1_doThroughOthers_98 rfl (lv_at hl 0 rfl) ?_
      refine lv_aload_n hF.x hF.b dX1_doThroughOthers_99 rfl (lv_at hl 1 rfl) ?_
      refine lv_iload_n hF.x hF.b dX1_doThroughOthers_100 rfl (lv_at hl 2 rfl) ?_
      refine lv_iload_n hF.x hF.b dX1_doThroughOthers_101 rfl (lv_at hl 3 rfl) ?_
      refine ca_I hF hw (c1_doTry hDo σ d1 v2 v3 hok.1) wv_X1_178 (q0 := 0) rfl rfl rfl ⟨nd_X1.1, nd_X1.2, pd_X1_doTry⟩ ⟨by show 3 * k + 7 + 1 ≤ 3 * k + 8; omega, by show 8 + (5 + 11) + (75 * k + 183) ≤ 75 * k + 208; omega⟩ ⟨Nat.zero_le _, Nat.zero_le _⟩ hl.1 rfl (by first | exact Nat.le_of_ble_eq_true rfl | simp [cat_rf, Value.category]) dX1_doThroughOthers_102 (fun r17 σ18 H locs hp hw => ?_)
      obtain ⟨er17, eσ18⟩ := hp
      replace hok := hok.2 r17 σ18 er17 eσ18
      exact rt_I (u := σ18) hF hw hok (Nat.zero_le _) (Nat.zero_le _) dX1_doThroughOthers_105
    · replace hok := hok.2.2.2.2.2.1 ex
      refine lv_tableIn (off := 102) (tgt := 106) hF.x hF.b dX1_doThroughOthers_4 (by rw [ex]; decide) (by rw [ex]; decide) (by rw [ex]; rfl) (by decide) ?_
      refine lv_aload_n hF.x hF.b dX1_doThroughOthers_106 rfl (lv_at hl 0 rfl) ?_
      refine lv_aload_n hF.x hF.b dX1_doThroughOthers_107 rfl (lv_at hl 1 rfl) ?_
      refine lv_iload_n hF.x hF.b dX1_doThroughOthers_108 rfl (lv_at hl 2 rfl) ?_
      refine ca_I hF hw (c1_doLater l G a σ d1 v2 hok.1) wv_X1_181 (q0 := 0) rfl rfl rfl ⟨nd_X1.1, nd_X1.2, pd_X1_doLater⟩ ⟨by show 1 + 1 ≤ 3 * k + 8; omega, by show 8 + (4 + 11) + 21 ≤ 75 * k + 208; omega⟩ ⟨Nat.zero_le _, Nat.zero_le _⟩ hl.1 rfl (by first | exact Nat.le_of_ble_eq_true rfl | simp [cat_rf, Value.category]) dX1_doThroughOthers_109 (fun r19 σ20 H locs hp hw => ?_)
      obtain ⟨er19, eσ20⟩ := hp
      replace hok := hok.2 r19 σ20 er19 eσ20
      exact rt_I (u := σ20) hF hw hok (Nat.zero_le _) (Nat.zero_le _) dX1_doThroughOthers_112
    · replace hok := hok.2.2.2.2.2.2.1 ex
      refine lv_tableIn (off := 109) (tgt := 113) hF.x hF.b dX1_doThroughOthers_4 (by rw [ex]; decide) (by rw [ex]; decide) (by rw [ex]; rfl) (by decide) ?_
      refine lv_aload_n hF.x hF.b dX1_doThroughOthers_113 rfl (lv_at hl 0 rfl) ?_
      refine lv_aload_n hF.x hF.b dX1_doThroughOthers_114 rfl (lv_at hl 1 rfl) ?_
      refine lv_iload_n hF.x hF.b dX1_doThroughOthers_115 rfl (lv_at hl 2 rfl) ?_
      refine lv_iload_n hF.x hF.b dX1_doThroughOthers_116 rfl (lv_at hl 3 rfl) ?_
      refine ca_I hF hw (c1_doCount hDo σ d1 v2 v3 hok.1) wv_X1_184 (q0 := 0) rfl rfl rfl ⟨nd_X1.1, nd_X1.2, pd_X1_doCount⟩ ⟨by show 3 * k + 7 + 1 ≤ 3 * k + 8; omega, by show 8 + (4 + 11) + (75 * k + 183) ≤ 75 * k + 208; omega⟩ ⟨Nat.zero_le _, Nat.zero_le _⟩ hl.1 rfl (by first | exact Nat.le_of_ble_eq_true rfl | simp [cat_rf, Value.category]) dX1_doThroughOthers_117 (fun r21 σ22 H locs hp hw => ?_)
      obtain ⟨er21, eσ22⟩ := hp
      replace hok := hok.2 r21 σ22 er21 eσ22
      exact rt_I (u := σ22) hF hw hok (Nat.zero_le _) (Nat.zero_le _) dX1_doThroughOthers_120
    · replace hok := hok.2.2.2.2.2.2.2.1 ex
      refine lv_tableIn (off := 117) (tgt := 121) hF.x hF.b dX1_doThroughOthers_4 (by rw [ex]; decide) (by rw [ex]; decide) (by rw [ex]; rfl) (by decide) ?_
      refine lv_aload_n hF.x hF.b dX1_doThroughOthers_121 rfl (lv_at hl 0 rfl) ?_
      refine lv_aload_n hF.x hF.b dX1_doThroughOthers_122 rfl (lv_at hl 1 rfl) ?_
      refine rx_dget (k := 1) hF hw hok.1 (by decide) (by unfold nestW; simp [TX0]) rfl dX1_doThroughOthers_123 ?_
      replace hok := hok.2
      refine lv_iload_n hF.x hF.b dX1_doThroughOthers_126 rfl (lv_at hl 2 rfl) ?_
      refine lv_iload_n hF.x hF.b dX1_doThroughOthers_127 rfl (lv_at hl 3 rfl) ?_
      refine ca_I hF hw (c1_doPlaces hDo σ ((σ.2.2.2.1.2 d1).1 1) v2 v3 hok.1) wv_X1_117 (q0 := 0) rfl rfl rfl ⟨nd_X1.1, nd_X1.2, pd_X1_doPlaces⟩ ⟨by show 3 * k + 7 + 1 ≤ 3 * k + 8; omega, by show 8 + (6 + 11) + (75 * k + 183) ≤ 75 * k + 208; omega⟩ ⟨Nat.zero_le _, Nat.zero_le _⟩ hl.1 rfl (by first | exact Nat.le_of_ble_eq_true rfl | simp [cat_rf, Value.category]) dX1_doThroughOthers_128 (fun r23 σ24 H locs hp hw => ?_)
      obtain ⟨er23, eσ24⟩ := hp
      replace hok := hok.2 r23 σ24 er23 eσ24
      exact rt_I (u := σ24) hF hw hok (Nat.zero_le _) (Nat.zero_le _) dX1_doThroughOthers_131
    · replace hok := hok.2.2.2.2.2.2.2.2 ex
      refine lv_tableIn (off := 128) (tgt := 132) hF.x hF.b dX1_doThroughOthers_4 (by rw [ex]; decide) (by rw [ex]; decide) (by rw [ex]; rfl) (by decide) ?_
      refine lv_aload_n hF.x hF.b dX1_doThroughOthers_132 rfl (lv_at hl 0 rfl) ?_
      refine lv_aload_n hF.x hF.b dX1_doThroughOthers_133 rfl (lv_at hl 0 rfl) ?_
      refine lv_aload_n hF.x hF.b dX1_doThroughOthers_134 rfl (lv_at hl 1 rfl) ?_
      refine rx_dget (k := 1) hF hw hok.1 (by decide) (by unfold nestW; simp [TX0]) rfl dX1_doThroughOthers_135 ?_
      replace hok := hok.2
      refine ca_Q hF hw (c1_inSlot l G a σ ((σ.2.2.2.1.2 d1).1 1) hok.1) wv_X1_85 (q0 := 0) rfl rfl rfl ⟨nd_X1.1, nd_X1.2, pd_X1_inSlot⟩ ⟨by show 1 + 1 ≤ 3 * k + 8; omega, by show 8 + (2 + 11) + 20 ≤ 75 * k + 208; omega⟩ ⟨Nat.zero_le _, Nat.zero_le _⟩ hl.1 rfl (by first | exact Nat.le_of_ble_eq_true rfl | simp [cat_rf, Value.category]) dX1_doThroughOthers_138 (fun rq σ26 H locs hp hw => ?_)
      obtain ⟨o25, hr, eo25, eσ26⟩ := hp
      subst hr
      replace hok := hok.2 o25 σ26 eo25 eσ26
      refine lv_iload_n hF.x hF.b dX1_doThroughOthers_141 rfl (lv_at hl 2 rfl) ?_
      refine lv_iload_n hF.x hF.b dX1_doThroughOthers_142 rfl (lv_at hl 3 rfl) ?_
      refine ca_I hF hw (hDo σ26 o25 v2 v3 hok.1) wv_X1_110 (q0 := 0) rfl rfl rfl ⟨nd_X1.1, nd_X1.2, pd_X1_doDeed⟩ ⟨by show 3 * k + 6 + 1 ≤ 3 * k + 8; omega, by show 8 + (4 + 11) + (75 * k + 160) ≤ 75 * k + 208; omega⟩ ⟨Nat.zero_le _, Nat.zero_le _⟩ hl.1 rfl (by first | exact Nat.le_of_ble_eq_true rfl | simp [cat_rf, Value.category]) dX1_doThroughOthers_143 (fun r27 σ28 H locs hp hw => ?_)
      obtain ⟨er27, eσ28⟩ := hp
      replace hok := hok.2 r27 σ28 er27 eσ28
      exact rt_I (u := σ28) hF hw hok (Nat.zero_le _) (Nat.zero_le _) dX1_doThroughOthers_146

theorem p1_doThroughOthers {k : Nat} (σ : SX) (d1 : Nat) (v2 v3 : Int32) (h : q1_doThroughOthers k σ d1 v2 v3) : wp_X1_doThroughOthers_0 k σ d1 v2 v3 (fun r u => r = (f1_doThroughOthers k σ d1 v2 v3).1 ∧ u = (f1_doThroughOthers k σ d1 v2 v3).2) := by
  have hn : ∀ n : Nat, n < 16 → ∀ x y : Int32, x = nI n → ¬ nI n = y → ¬ x = y := fun n _ x y e h2 h3 => h2 (e.symm.trans h3)
  refine ⟨h.2.1, fun c => ⟨trivial, fun r2 σ3 e2 e3 => ?_⟩, fun c => ⟨h, fun r4 σ5 e4 e5 => ?_⟩, fun c => ⟨h.2.1, trivial, fun r6 σ7 e6 e7 => ?_⟩, fun c => ⟨h, fun r4 σ5 e4 e5 => ?_⟩, fun c => ⟨h, fun r4 σ5 e4 e5 => ?_⟩, fun c => ⟨⟨h.1, h.2.1⟩, fun r4 σ5 e4 e5 => ?_⟩, fun c => ⟨h, fun r4 σ5 e4 e5 => ?_⟩, fun c => ⟨h.2.1, ⟨h.1, h.2.2⟩, fun r4 σ5 e4 e5 => ?_⟩, fun c => ⟨h.2.1, trivial, fun o3 σ4 e3 e4 => ?_⟩⟩
  · have hk : ∀ n : Nat, 7 ≤ n → n ≤ 14 → ¬ (σ.2.2.2.1.2 d1).1 0 = nI n := fun n hn hn2 e => by
      rw [e, nI_toInt (by omega)] at c
      omega
    simp only [fx_to]
    rw [if_neg (show ¬ (σ.2.2.2.1.2 d1).1 0 = 7 from hk 7 (by decide) (by decide)), if_neg (show ¬ (σ.2.2.2.1.2 d1).1 0 = 8 from hk 8 (by decide) (by decide)), if_neg (show ¬ (σ.2.2.2.1.2 d1).1 0 = 9 from hk 9 (by decide) (by decide)), if_neg (show ¬ (σ.2.2.2.1.2 d1).1 0 = 10 from hk 10 (by decide) (by decide)), if_neg (show ¬ (σ.2.2.2.1.2 d1).1 0 = 11 from hk 11 (by decide) (by decide)), if_neg (show ¬ (σ.2.2.2.1.2 d1).1 0 = 12 from hk 12 (by decide) (by decide)), if_neg (show ¬ (σ.2.2.2.1.2 d1).1 0 = 13 from hk 13 (by decide) (by decide)), if_neg (show ¬ (σ.2.2.2.1.2 d1).1 0 = 14 from hk 14 (by decide) (by decide))]
    exact ⟨e2, e3⟩
  · simp only [fx_to]
    rw [c, if_pos (by decide)]; exact ⟨e4, e5⟩
  · obtain rfl : σ7 = σ := e7
    subst e6
    refine ⟨fun c2 => ⟨h.2.1, fun o9 e9 => ?_⟩, fun c2 => ⟨h.2.1, fun o9 e9 => ?_⟩⟩
    · refine ⟨⟨h.1, by rw [e9]; exact okO.f h.1 h.2.1, h.2.2⟩, fun r1 σ1 e1 e2 => ?_⟩
      subst e9
      simp only [fx_to]
      rw [c, if_neg (by decide), if_pos (by decide), if_pos c2]
      exact ⟨e1, e2⟩
    · refine ⟨⟨h.1, by rw [e9]; exact okO.s h.1 h.2.1, h.2.2⟩, fun r1 σ1 e1 e2 => ?_⟩
      subst e9
      simp only [fx_to]
      rw [c, if_neg (by decide), if_pos (by decide), if_neg c2]
      exact ⟨e1, e2⟩
  · simp only [fx_to]
    rw [c, if_neg (by decide), if_neg (by decide), if_pos (by decide)]; exact ⟨e4, e5⟩
  · simp only [fx_to]
    rw [c, if_neg (by decide), if_neg (by decide), if_neg (by decide), if_pos (by decide)]; exact ⟨e4, e5⟩
  · simp only [fx_to]
    rw [c, if_neg (by decide), if_neg (by decide), if_neg (by decide), if_neg (by decide), if_pos (by decide)]; exact ⟨e4, e5⟩
  · simp only [fx_to]
    rw [c, if_neg (by decide), if_neg (by decide), if_neg (by decide), if_neg (by decide), if_neg (by decide), if_pos (by decide)]; exact ⟨e4, e5⟩
  · simp only [fx_to]
    rw [c, if_neg (by decide), if_neg (by decide), if_neg (by decide), if_neg (by decide), if_neg (by decide), if_neg (by decide), if_pos (by decide)]; exact ⟨e4, e5⟩
  · obtain rfl : σ4 = σ := e4
    refine ⟨⟨h.1, by rw [e3]; exact okO.in h.1 _, h.2.2⟩, fun r1 σ1 e1 e2 => ?_⟩
    subst e3
    simp only [fx_to]
    rw [c, if_neg (by decide), if_neg (by decide), if_neg (by decide), if_neg (by decide), if_neg (by decide), if_neg (by decide), if_neg (by decide), if_pos (by decide)]; exact ⟨e1, e2⟩
theorem c1_doThroughOthers {l : Launch} {G : Gm} {a : AX} {k : Nat} (hDo : ∀ (σ : SX) (o : Option Nat) (v2 v3 : Int32), q1_do k σ o v2 v3 → ctI l yX1_doDeed cX1_doDeed 4 .int (rDo k) G [.ref (a.1 13), va_rf (Option.map a.2.1 o), .int v2, .int v3] (wX G a σ) (fun (r : Int32) (u : SX) => r = (f1_do k σ o v2 v3).1 ∧ u = (f1_do k σ o v2 v3).2) (wX G a)) (σ : SX) (d1 : Nat) (v2 v3 : Int32) (h : q1_doThroughOthers k σ d1 v2 v3) : ctI l yX1_doThroughOthers cX1_doThroughOthers 4 .int (rTO k) G [.ref (a.1 13), .ref (a.2.1 d1), .int v2, .int v3] (wX G a σ) (fun (r : Int32) (u : SX) => r = (f1_doThroughOthers k σ d1 v2 v3).1 ∧ u = (f1_doThroughOthers k σ d1 v2 v3).2) (wX G a) := by
  refine en_I (by decide +kernel) (Nat.le_of_ble_eq_true rfl) (fun p e s m below meth c A ls hF hw hl => ?_)
  exact k_X1_doThroughOthers_0 hDo hF σ d1 v2 v3 hw hl (p1_doThroughOthers σ d1 v2 v3 h)

def wp_X1_doDeed_0 (k : Nat) (σ : SX) (o1 : Option Nat) (v2 : Int32) (v3 : Int32)  (post : Int32 → SX → Prop) : Prop :=
  ((σ.1 9) < 60 → ∀ x2 : Int32, x2 = (σ.1 9) + 1 → ∀ σ3 : SX, σ3 = (va_up σ.1 9 x2, σ.2) → (v3 < 16 → (o1 = none → q1_fail σ3 ((-6)) ∧ ∀ (r6 : Int32) (σ7 : SX), r6 = (f1_fail σ3 ((-6))).1 → σ7 = (f1_fail σ3 ((-6))).2 → post r6 σ7) ∧ (∀ d5 : Nat, o1 = some d5 → d5 < σ3.2.2.2.1.1 ∧ (7 ≤ ((σ3.2.2.2.1.2 d5).1 0) → ∀ x9 : Int32, x9 = v3 + 1 → q1_doThroughOthers k σ3 d5 v2 x9 ∧ ∀ (r10 : Int32) (σ11 : SX), r10 = (f1_doThroughOthers k σ3 d5 v2 x9).1 → σ11 = (f1_doThroughOthers k σ3 d5 v2 x9).2 → post r10 σ11) ∧ (¬ 7 ≤ ((σ3.2.2.2.1.2 d5).1 0) → q1_doAlone σ3 d5 v2 ∧ ∀ (r12 : Int32) (σ13 : SX), r12 = (f1_doAlone σ3 d5 v2).1 → σ13 = (f1_doAlone σ3 d5 v2).2 → post r12 σ13))) ∧ (¬ v3 < 16 → q1_fail σ3 ((-9)) ∧ ∀ (r14 : Int32) (σ15 : SX), r14 = (f1_fail σ3 ((-9))).1 → σ15 = (f1_fail σ3 ((-9))).2 → post r14 σ15)) ∧ (¬ (σ.1 9) < 60 → q1_fail σ ((-8)) ∧ ∀ (r16 : Int32) (σ17 : SX), r16 = (f1_fail σ ((-8))).1 → σ17 = (f1_fail σ ((-8))).2 → post r16 σ17)
set_option maxHeartbeats 4000000 in
set_option maxRecDepth 100000 in
theorem k_X1_doDeed_0 {l : Launch} {p : Program} {e : Env} {s : State} {m : MethodId} {below : List Frame} {meth : Method} {c : Code} {args : Array Value} {A : Nat → Prop} {G : Gm} {a : AX} {k : Nat} (hTO : ∀ (σ : SX) (d : Nat) (v2 v3 : Int32), q1_doThroughOthers k σ d v2 v3 → ctI l yX1_doThroughOthers cX1_doThroughOthers 4 .int (rTO k) G [.ref (a.1 13), .ref (a.2.1 d), .int v2, .int v3] (wX G a σ) (fun (r : Int32) (u : SX) => r = (f1_doThroughOthers k σ d v2 v3).1 ∧ u = (f1_doThroughOthers k σ d v2 v3).2) (wX G a))  (hF : fx p s m args meth c cX1_doDeed 4 yX1_doDeed.cls kX1_doDeed (some (.int))) {post : Int32 → SX → Prop}  (σ : SX) (o1 : Option Nat) (v2 : Int32) (v3 : Int32) {H : Heap} {locs : List Loc} {ls : Array Slot} (hw : wb G A s (wX G a σ) H locs) (hl : lv_has ls 4 [(0, .ref (a.1 13)), (1, va_rf (Option.map a.2.1 o1)), (2, .int v2), (3, .int v3)]) (hok : wp_X1_doDeed_0 k σ o1 v2 v3  post) :
    W p l e (rDo (k + 1)) s m args below meth c H locs 0 0 (MQ below (va_Qi post (po G A (wX G a)) A) args s 0 0 A) (F0 m 0 ls []) := by
  unfold wp_X1_doDeed_0 at hok
  refine lv_aload_n hF.x hF.b dX1_doDeed_0 rfl (lv_at hl 0 rfl) ?_
  refine r_get hF hw 0 rfl rfl inlX1 9 (by decide) wf_X1_43 rfl dX1_doDeed_1 ?_
  refine lv_bipush (v := 60) hF.x hF.b dX1_doDeed_4 (by decide) ?_
  refine lv_icmp_lt (tgt := 16) hF.x hF.b dX1_doDeed_6 (by decide) (fun c1 => ?_) (fun c1 => ?_)
  · replace hok := hok.1 c1
    refine lv_aload_n hF.x hF.b dX1_doDeed_16 rfl (lv_at hl 0 rfl) ?_
    refine lv_dup hF.x hF.b dX1_doDeed_17 rfl ?_
    refine r_get hF hw 0 rfl rfl inlX1 9 (by decide) wf_X1_43 rfl dX1_doDeed_18 ?_
    refine lv_iconst (v := 1) hF.x hF.b dX1_doDeed_21 (by decide) ?_
    refine lv_iadd hF.x hF.b dX1_doDeed_22 ?_
    refine lv_topi (fun x2 ex2 => ?_)
    replace hok := hok x2 ex2
    refine rx_put (v := x2) 9 hF hw (by decide) wf_X1_43 dX1_doDeed_23 (fun σ3 H locs eσ3 hw => ?_)
    replace hok := hok σ3 eσ3
    refine lv_iload_n hF.x hF.b dX1_doDeed_26 rfl (lv_at hl 3 rfl) ?_
    refine lv_bipush (v := 16) hF.x hF.b dX1_doDeed_27 (by decide) ?_
    refine lv_icmp_lt (tgt := 39) hF.x hF.b dX1_doDeed_29 (by decide) (fun c4 => ?_) (fun c4 => ?_)
    · replace hok := hok.1 c4
      refine lq_aload_n hF dX1_doDeed_39 rfl (lv_at hl 1 rfl) ?_
      refine lm_ifnonnull (o := o1) (tgt := 50) hF dX1_doDeed_40 (by decide) (fun d5 ed5 => ?_) (fun ed5 => ?_)
      · replace hok := hok.2 d5 ed5
        subst ed5
        have hl : lv_has ls 4 [(0, .ref (a.1 13)), (1, .ref (a.2.1 d5)), (2, .int v2), (3, .int v3)] := hl
        refine lv_aload_n hF.x hF.b dX1_doDeed_50 rfl (lv_at hl 1 rfl) ?_
        refine rx_dget (k := 0) hF hw hok.1 (by decide) (by unfold nestW; simp [TX0]) rfl dX1_doDeed_51 ?_
        replace hok := hok.2
        refine lv_bipush (v := 7) hF.x hF.b dX1_doDeed_54 (by decide) ?_
        refine lv_icmp_ge (tgt := 68) hF.x hF.b dX1_doDeed_56 (by decide) (fun c8 => ?_) (fun c8 => ?_)
        · replace hok := hok.1 c8
          refine lv_aload_n hF.x hF.b dX1_doDeed_68 rfl (lv_at hl 0 rfl) ?_
          refine lv_aload_n hF.x hF.b dX1_doDeed_69 rfl (lv_at hl 1 rfl) ?_
          refine lv_iload_n hF.x hF.b dX1_doDeed_70 rfl (lv_at hl 2 rfl) ?_
          refine lv_iload_n hF.x hF.b dX1_doDeed_71 rfl (lv_at hl 3 rfl) ?_
          refine lv_iconst (v := 1) hF.x hF.b dX1_doDeed_72 (by decide) ?_
          refine lv_iadd hF.x hF.b dX1_doDeed_73 ?_
          refine lv_topi (fun x9 ex9 => ?_)
          replace hok := hok x9 ex9
          refine ca_I hF hw (hTO σ3 d5 v2 x9 hok.1) wv_X1_144 (q0 := 0) rfl rfl rfl ⟨nd_X1.1, nd_X1.2, pd_X1_doThroughOthers⟩ ⟨by show 3 * k + 8 + 1 ≤ 3 * (k + 1) + 6; omega, by show 8 + (4 + 11) + (75 * k + 208) ≤ 75 * (k + 1) + 160; omega⟩ ⟨Nat.zero_le _, Nat.zero_le _⟩ hl.1 rfl (by first | exact Nat.le_of_ble_eq_true rfl | simp [cat_rf, Value.category]) dX1_doDeed_74 (fun r10 σ11 H locs hp hw => ?_)
          obtain ⟨er10, eσ11⟩ := hp
          replace hok := hok.2 r10 σ11 er10 eσ11
          exact rt_I (u := σ11) hF hw hok (Nat.zero_le _) (Nat.zero_le _) dX1_doDeed_77
        · replace hok := hok.2 c8
          refine lv_aload_n hF.x hF.b dX1_doDeed_59 rfl (lv_at hl 0 rfl) ?_
          refine lv_aload_n hF.x hF.b dX1_doDeed_60 rfl (lv_at hl 1 rfl) ?_
          refine lv_iload_n hF.x hF.b dX1_doDeed_61 rfl (lv_at hl 2 rfl) ?_
          refine ca_I hF hw (c1_doAlone l G a σ3 d5 v2 hok.1) wv_X1_140 (q0 := 0) rfl rfl rfl ⟨nd_X1.1, nd_X1.2, pd_X1_doAlone⟩ ⟨by show 3 + 1 ≤ 3 * (k + 1) + 6; omega, by show 8 + (3 + 11) + 65 ≤ 75 * (k + 1) + 160; omega⟩ ⟨Nat.zero_le _, Nat.zero_le _⟩ hl.1 rfl (by first | exact Nat.le_of_ble_eq_true rfl | simp [cat_rf, Value.category]) dX1_doDeed_62 (fun r12 σ13 H locs hp hw => ?_)
          obtain ⟨er12, eσ13⟩ := hp
          replace hok := hok.2 r12 σ13 er12 eσ13
          refine lv_goto (tgt := 77) hF.x hF.b dX1_doDeed_65 (by decide) ?_
          exact rt_I (u := σ13) hF hw hok (Nat.zero_le _) (Nat.zero_le _) dX1_doDeed_77
      · replace hok := hok.1 ed5
        subst ed5
        have hl : lv_has ls 4 [(0, .ref (a.1 13)), (1, .null), (2, .int v2), (3, .int v3)] := hl
        refine lv_aload_n hF.x hF.b dX1_doDeed_43 rfl (lv_at hl 0 rfl) ?_
        refine lv_bipush (v := (-6)) hF.x hF.b dX1_doDeed_44 (by decide) ?_
        refine ca_I hF hw (c1_fail l G a σ3 ((-6)) hok.1) wv_X1_137 (q0 := 0) rfl rfl rfl ⟨nd_X1.1, nd_X1.2, pd_X1_fail⟩ ⟨by show 0 + 1 ≤ 3 * (k + 1) + 6; omega, by show 8 + (2 + 11) + 0 ≤ 75 * (k + 1) + 160; omega⟩ ⟨Nat.zero_le _, Nat.zero_le _⟩ hl.1 rfl (by first | exact Nat.le_of_ble_eq_true rfl | simp [cat_rf, Value.category]) dX1_doDeed_46 (fun r6 σ7 H locs hp hw => ?_)
        obtain ⟨er6, eσ7⟩ := hp
        replace hok := hok.2 r6 σ7 er6 eσ7
        exact rt_I (u := σ7) hF hw hok (Nat.zero_le _) (Nat.zero_le _) dX1_doDeed_49
    · replace hok := hok.2 c4
      refine lv_aload_n hF.x hF.b dX1_doDeed_32 rfl (lv_at hl 0 rfl) ?_
      refine lv_bipush (v := (-9)) hF.x hF.b dX1_doDeed_33 (by decide) ?_
      refine ca_I hF hw (c1_fail l G a σ3 ((-9)) hok.1) wv_X1_137 (q0 := 0) rfl rfl rfl ⟨nd_X1.1, nd_X1.2, pd_X1_fail⟩ ⟨by show 0 + 1 ≤ 3 * (k + 1) + 6; omega, by show 8 + (2 + 11) + 0 ≤ 75 * (k + 1) + 160; omega⟩ ⟨Nat.zero_le _, Nat.zero_le _⟩ hl.1 rfl (by first | exact Nat.le_of_ble_eq_true rfl | simp [cat_rf, Value.category]) dX1_doDeed_35 (fun r14 σ15 H locs hp hw => ?_)
      obtain ⟨er14, eσ15⟩ := hp
      replace hok := hok.2 r14 σ15 er14 eσ15
      exact rt_I (u := σ15) hF hw hok (Nat.zero_le _) (Nat.zero_le _) dX1_doDeed_38
  · replace hok := hok.2 c1
    refine lv_aload_n hF.x hF.b dX1_doDeed_9 rfl (lv_at hl 0 rfl) ?_
    refine lv_bipush (v := (-8)) hF.x hF.b dX1_doDeed_10 (by decide) ?_
    refine ca_I hF hw (c1_fail l G a σ ((-8)) hok.1) wv_X1_137 (q0 := 0) rfl rfl rfl ⟨nd_X1.1, nd_X1.2, pd_X1_fail⟩ ⟨by show 0 + 1 ≤ 3 * (k + 1) + 6; omega, by show 8 + (2 + 11) + 0 ≤ 75 * (k + 1) + 160; omega⟩ ⟨Nat.zero_le _, Nat.zero_le _⟩ hl.1 rfl (by first | exact Nat.le_of_ble_eq_true rfl | simp [cat_rf, Value.category]) dX1_doDeed_12 (fun r16 σ17 H locs hp hw => ?_)
    obtain ⟨er16, eσ17⟩ := hp
    replace hok := hok.2 r16 σ17 er16 eσ17
    exact rt_I (u := σ17) hF hw hok (Nat.zero_le _) (Nat.zero_le _) dX1_doDeed_15

def wp_X1_doDeedz_0 (σ : SX) (o1 : Option Nat) (v2 : Int32) (v3 : Int32)  (post : Int32 → SX → Prop) : Prop :=
  ((σ.1 9) < 60 → ∀ x2 : Int32, x2 = (σ.1 9) + 1 → ∀ σ3 : SX, σ3 = (va_up σ.1 9 x2, σ.2) → (v3 < 16 → (o1 = none → q1_fail σ3 ((-6)) ∧ ∀ (r6 : Int32) (σ7 : SX), r6 = (f1_fail σ3 ((-6))).1 → σ7 = (f1_fail σ3 ((-6))).2 → post r6 σ7) ∧ (∀ d5 : Nat, o1 = some d5 → d5 < σ3.2.2.2.1.1 ∧ (7 ≤ ((σ3.2.2.2.1.2 d5).1 0) → ∀ x9 : Int32, x9 = v3 + 1 → False) ∧ (¬ 7 ≤ ((σ3.2.2.2.1.2 d5).1 0) → q1_doAlone σ3 d5 v2 ∧ ∀ (r10 : Int32) (σ11 : SX), r10 = (f1_doAlone σ3 d5 v2).1 → σ11 = (f1_doAlone σ3 d5 v2).2 → post r10 σ11))) ∧ (¬ v3 < 16 → q1_fail σ3 ((-9)) ∧ ∀ (r12 : Int32) (σ13 : SX), r12 = (f1_fail σ3 ((-9))).1 → σ13 = (f1_fail σ3 ((-9))).2 → post r12 σ13)) ∧ (¬ (σ.1 9) < 60 → q1_fail σ ((-8)) ∧ ∀ (r14 : Int32) (σ15 : SX), r14 = (f1_fail σ ((-8))).1 → σ15 = (f1_fail σ ((-8))).2 → post r14 σ15)
set_option maxHeartbeats 4000000 in
set_option maxRecDepth 100000 in
theorem k_X1_doDeedz_0 {l : Launch} {p : Program} {e : Env} {s : State} {m : MethodId} {below : List Frame} {meth : Method} {c : Code} {args : Array Value} {A : Nat → Prop} {G : Gm} {a : AX}  (hF : fx p s m args meth c cX1_doDeed 4 yX1_doDeed.cls kX1_doDeed (some (.int))) {post : Int32 → SX → Prop}  (σ : SX) (o1 : Option Nat) (v2 : Int32) (v3 : Int32) {H : Heap} {locs : List Loc} {ls : Array Slot} (hw : wb G A s (wX G a σ) H locs) (hl : lv_has ls 4 [(0, .ref (a.1 13)), (1, va_rf (Option.map a.2.1 o1)), (2, .int v2), (3, .int v3)]) (hok : wp_X1_doDeedz_0 σ o1 v2 v3  post) :
    W p l e (rDo 0) s m args below meth c H locs 0 0 (MQ below (va_Qi post (po G A (wX G a)) A) args s 0 0 A) (F0 m 0 ls []) := by
  unfold wp_X1_doDeedz_0 at hok
  refine lv_aload_n hF.x hF.b dX1_doDeed_0 rfl (lv_at hl 0 rfl) ?_
  refine r_get hF hw 0 rfl rfl inlX1 9 (by decide) wf_X1_43 rfl dX1_doDeed_1 ?_
  refine lv_bipush (v := 60) hF.x hF.b dX1_doDeed_4 (by decide) ?_
  refine lv_icmp_lt (tgt := 16) hF.x hF.b dX1_doDeed_6 (by decide) (fun c1 => ?_) (fun c1 => ?_)
  · replace hok := hok.1 c1
    refine lv_aload_n hF.x hF.b dX1_doDeed_16 rfl (lv_at hl 0 rfl) ?_
    refine lv_dup hF.x hF.b dX1_doDeed_17 rfl ?_
    refine r_get hF hw 0 rfl rfl inlX1 9 (by decide) wf_X1_43 rfl dX1_doDeed_18 ?_
    refine lv_iconst (v := 1) hF.x hF.b dX1_doDeed_21 (by decide) ?_
    refine lv_iadd hF.x hF.b dX1_doDeed_22 ?_
    refine lv_topi (fun x2 ex2 => ?_)
    replace hok := hok x2 ex2
    refine rx_put (v := x2) 9 hF hw (by decide) wf_X1_43 dX1_doDeed_23 (fun σ3 H locs eσ3 hw => ?_)
    replace hok := hok σ3 eσ3
    refine lv_iload_n hF.x hF.b dX1_doDeed_26 rfl (lv_at hl 3 rfl) ?_
    refine lv_bipush (v := 16) hF.x hF.b dX1_doDeed_27 (by decide) ?_
    refine lv_icmp_lt (tgt := 39) hF.x hF.b dX1_doDeed_29 (by decide) (fun c4 => ?_) (fun c4 => ?_)
    · replace hok := hok.1 c4
      refine lq_aload_n hF dX1_doDeed_39 rfl (lv_at hl 1 rfl) ?_
      refine lm_ifnonnull (o := o1) (tgt := 50) hF dX1_doDeed_40 (by decide) (fun d5 ed5 => ?_) (fun ed5 => ?_)
      · replace hok := hok.2 d5 ed5
        subst ed5
        have hl : lv_has ls 4 [(0, .ref (a.1 13)), (1, .ref (a.2.1 d5)), (2, .int v2), (3, .int v3)] := hl
        refine lv_aload_n hF.x hF.b dX1_doDeed_50 rfl (lv_at hl 1 rfl) ?_
        refine rx_dget (k := 0) hF hw hok.1 (by decide) (by unfold nestW; simp [TX0]) rfl dX1_doDeed_51 ?_
        replace hok := hok.2
        refine lv_bipush (v := 7) hF.x hF.b dX1_doDeed_54 (by decide) ?_
        refine lv_icmp_ge (tgt := 68) hF.x hF.b dX1_doDeed_56 (by decide) (fun c8 => ?_) (fun c8 => ?_)
        · replace hok := hok.1 c8
          refine lv_aload_n hF.x hF.b dX1_doDeed_68 rfl (lv_at hl 0 rfl) ?_
          refine lv_aload_n hF.x hF.b dX1_doDeed_69 rfl (lv_at hl 1 rfl) ?_
          refine lv_iload_n hF.x hF.b dX1_doDeed_70 rfl (lv_at hl 2 rfl) ?_
          refine lv_iload_n hF.x hF.b dX1_doDeed_71 rfl (lv_at hl 3 rfl) ?_
          refine lv_iconst (v := 1) hF.x hF.b dX1_doDeed_72 (by decide) ?_
          refine lv_iadd hF.x hF.b dX1_doDeed_73 ?_
          refine lv_topi (fun x9 ex9 => ?_)
          replace hok := hok x9 ex9
          exact hok.elim
        · replace hok := hok.2 c8
          refine lv_aload_n hF.x hF.b dX1_doDeed_59 rfl (lv_at hl 0 rfl) ?_
          refine lv_aload_n hF.x hF.b dX1_doDeed_60 rfl (lv_at hl 1 rfl) ?_
          refine lv_iload_n hF.x hF.b dX1_doDeed_61 rfl (lv_at hl 2 rfl) ?_
          refine ca_I hF hw (c1_doAlone l G a σ3 d5 v2 hok.1) wv_X1_140 (q0 := 0) rfl rfl rfl ⟨nd_X1.1, nd_X1.2, pd_X1_doAlone⟩ ⟨by show 3 + 1 ≤ 3 * 0 + 6; omega, by show 8 + (3 + 11) + 65 ≤ 75 * 0 + 160; omega⟩ ⟨Nat.zero_le _, Nat.zero_le _⟩ hl.1 rfl (by first | exact Nat.le_of_ble_eq_true rfl | simp [cat_rf, Value.category]) dX1_doDeed_62 (fun r10 σ11 H locs hp hw => ?_)
          obtain ⟨er10, eσ11⟩ := hp
          replace hok := hok.2 r10 σ11 er10 eσ11
          refine lv_goto (tgt := 77) hF.x hF.b dX1_doDeed_65 (by decide) ?_
          exact rt_I (u := σ11) hF hw hok (Nat.zero_le _) (Nat.zero_le _) dX1_doDeed_77
      · replace hok := hok.1 ed5
        subst ed5
        have hl : lv_has ls 4 [(0, .ref (a.1 13)), (1, .null), (2, .int v2), (3, .int v3)] := hl
        refine lv_aload_n hF.x hF.b dX1_doDeed_43 rfl (lv_at hl 0 rfl) ?_
        refine lv_bipush (v := (-6)) hF.x hF.b dX1_doDeed_44 (by decide) ?_
        refine ca_I hF hw (c1_fail l G a σ3 ((-6)) hok.1) wv_X1_137 (q0 := 0) rfl rfl rfl ⟨nd_X1.1, nd_X1.2, pd_X1_fail⟩ ⟨by show 0 + 1 ≤ 3 * 0 + 6; omega, by show 8 + (2 + 11) + 0 ≤ 75 * 0 + 160; omega⟩ ⟨Nat.zero_le _, Nat.zero_le _⟩ hl.1 rfl (by first | exact Nat.le_of_ble_eq_true rfl | simp [cat_rf, Value.category]) dX1_doDeed_46 (fun r6 σ7 H locs hp hw => ?_)
        obtain ⟨er6, eσ7⟩ := hp
        replace hok := hok.2 r6 σ7 er6 eσ7
        exact rt_I (u := σ7) hF hw hok (Nat.zero_le _) (Nat.zero_le _) dX1_doDeed_49
    · replace hok := hok.2 c4
      refine lv_aload_n hF.x hF.b dX1_doDeed_32 rfl (lv_at hl 0 rfl) ?_
      refine lv_bipush (v := (-9)) hF.x hF.b dX1_doDeed_33 (by decide) ?_
      refine ca_I hF hw (c1_fail l G a σ3 ((-9)) hok.1) wv_X1_137 (q0 := 0) rfl rfl rfl ⟨nd_X1.1, nd_X1.2, pd_X1_fail⟩ ⟨by show 0 + 1 ≤ 3 * 0 + 6; omega, by show 8 + (2 + 11) + 0 ≤ 75 * 0 + 160; omega⟩ ⟨Nat.zero_le _, Nat.zero_le _⟩ hl.1 rfl (by first | exact Nat.le_of_ble_eq_true rfl | simp [cat_rf, Value.category]) dX1_doDeed_35 (fun r12 σ13 H locs hp hw => ?_)
      obtain ⟨er12, eσ13⟩ := hp
      replace hok := hok.2 r12 σ13 er12 eσ13
      exact rt_I (u := σ13) hF hw hok (Nat.zero_le _) (Nat.zero_le _) dX1_doDeed_38
  · replace hok := hok.2 c1
    refine lv_aload_n hF.x hF.b dX1_doDeed_9 rfl (lv_at hl 0 rfl) ?_
    refine lv_bipush (v := (-8)) hF.x hF.b dX1_doDeed_10 (by decide) ?_
    refine ca_I hF hw (c1_fail l G a σ ((-8)) hok.1) wv_X1_137 (q0 := 0) rfl rfl rfl ⟨nd_X1.1, nd_X1.2, pd_X1_fail⟩ ⟨by show 0 + 1 ≤ 3 * 0 + 6; omega, by show 8 + (2 + 11) + 0 ≤ 75 * 0 + 160; omega⟩ ⟨Nat.zero_le _, Nat.zero_le _⟩ hl.1 rfl (by first | exact Nat.le_of_ble_eq_true rfl | simp [cat_rf, Value.category]) dX1_doDeed_12 (fun r14 σ15 H locs hp hw => ?_)
    obtain ⟨er14, eσ15⟩ := hp
    replace hok := hok.2 r14 σ15 er14 eσ15
    exact rt_I (u := σ15) hF hw hok (Nat.zero_le _) (Nat.zero_le _) dX1_doDeed_15

theorem p1_doDeed_s {k : Nat} (σ : SX) (o1 : Option Nat) (v2 v3 : Int32) (h : q1_do (k + 1) σ o1 v2 v3) : wp_X1_doDeed_0 k σ o1 v2 v3 (fun r u => r = (f1_do (k + 1) σ o1 v2 v3).1 ∧ u = (f1_do (k + 1) σ o1 v2 v3).2) := by
  obtain ⟨hW, ho, hk, hop⟩ := h
  have h9 := XK.sI hW 9 (σ.1 9 + 1) (by decide) (by decide)
  have hlt : v3 < 16 := by rw [hop, show (16 : Int32) = nI 16 from rfl]; exact nI_lt (by omega) (by decide)
  refine ⟨fun c => ?_, fun c => ⟨trivial, fun r2 σ3 e2 e3 => ?_⟩⟩
  · intro x2 e2 σ3 e3
    subst e2; subst e3
    refine ⟨fun _ => ⟨fun e1 => ⟨trivial, fun r σ' e4 e5 => ?_⟩, fun d e1 => ⟨ho d e1, fun c3 x9 e9 => ⟨⟨h9.1, ho d e1, by omega, ?_⟩, fun r σ' e4 e5 => ?_⟩, fun c3 => ⟨⟨h9.1, ho d e1⟩, fun r σ' e4 e5 => ?_⟩⟩⟩, fun c2 => absurd hlt c2⟩
    · subst e1
      simp only [fdo]
      rw [if_pos c]
      exact ⟨e4, e5⟩
    · rw [e9, hop, nI_1]
      congr 1
      omega
    · subst e1
      simp only [fdo]
      rw [if_pos c, if_pos c3]
      exact ⟨e4, e5⟩
    · subst e1
      simp only [fdo]
      rw [if_pos c, if_neg c3]
      exact ⟨e4, e5⟩
  · cases o1 <;> (simp only [fdo]; rw [if_neg c]; exact ⟨e2, e3⟩)
theorem p1_doDeed_z (σ : SX) (o1 : Option Nat) (v2 v3 : Int32) (h : q1_do 0 σ o1 v2 v3) : wp_X1_doDeedz_0 σ o1 v2 v3 (fun r u => r = (f1_do 0 σ o1 v2 v3).1 ∧ u = (f1_do 0 σ o1 v2 v3).2) := by
  obtain ⟨hW, ho, hk, hop⟩ := h
  have hlt : ¬ v3 < 16 := by rw [hop, show (16 : Int32) = nI 16 from rfl]; exact nI_nlt (by omega) (by decide)
  refine ⟨fun c => ?_, fun c => ⟨trivial, fun r2 σ3 e2 e3 => ?_⟩⟩
  · intro x2 e2 σ3 e3
    subst e2; subst e3
    refine ⟨fun c2 => absurd c2 hlt, fun c2 => ⟨trivial, fun r σ' e4 e5 => ?_⟩⟩
    simp only [fdo]
    rw [if_pos c]
    exact ⟨e4, e5⟩
  · simp only [fdo]
    rw [if_neg c]
    exact ⟨e2, e3⟩
theorem c1_doDeed {l : Launch} {G : Gm} {a : AX} : ∀ (k : Nat) (σ : SX) (o : Option Nat) (v2 v3 : Int32), q1_do k σ o v2 v3 → ctI l yX1_doDeed cX1_doDeed 4 .int (rDo k) G [.ref (a.1 13), va_rf (Option.map a.2.1 o), .int v2, .int v3] (wX G a σ) (fun (r : Int32) (u : SX) => r = (f1_do k σ o v2 v3).1 ∧ u = (f1_do k σ o v2 v3).2) (wX G a) := by
  intro k
  induction k with
  | zero =>
    intro σ o v2 v3 h
    cases o with
    | none =>
      refine en_I (by decide +kernel) (Nat.le_of_ble_eq_true rfl) (fun p e s m below meth c A ls hF hw hl => ?_)
      exact k_X1_doDeedz_0 hF σ none v2 v3 hw hl (p1_doDeed_z σ none v2 v3 h)
    | some d =>
      refine en_I (by decide +kernel) (Nat.le_of_ble_eq_true rfl) (fun p e s m below meth c A ls hF hw hl => ?_)
      exact k_X1_doDeedz_0 hF σ (some d) v2 v3 hw hl (p1_doDeed_z σ (some d) v2 v3 h)
  | succ k ih =>
    intro σ o v2 v3 h
    cases o with
    | none =>
      refine en_I (by decide +kernel) (Nat.le_of_ble_eq_true rfl) (fun p e s m below meth c A ls hF hw hl => ?_)
      exact k_X1_doDeed_0 (c1_doThroughOthers ih) hF σ none v2 v3 hw hl (p1_doDeed_s σ none v2 v3 h)
    | some d =>
      refine en_I (by decide +kernel) (Nat.le_of_ble_eq_true rfl) (fun p e s m below meth c A ls hF hw hl => ?_)
      exact k_X1_doDeed_0 (c1_doThroughOthers ih) hF σ (some d) v2 v3 hw hl (p1_doDeed_s σ (some d) v2 v3 h)
end
section
/-! the calls of a hall that make nothing -/
abbrev q1_fill (_ : SX) (_ _ : Int32) : Prop := True
def f1_fill (σ : SX) (b v : Int32) : Int32 × SX := ((f1_heldBy σ b).1, f1_pour σ b v)
abbrev q1_basin (_ : SX) (_ : Int32) : Prop := True
def f1_basin (σ : SX) (b : Int32) : Int32 × SX := ((f1_heldBy σ b).1, σ)
abbrev q1_mark (σ : SX) (_ _ : Int32) : Prop := WFX σ
def f1_mark (σ : SX) (g i : Int32) : Int32 × SX := (match (f1_gaugeNow σ g).1 with
  | none => 0
  | some r => if (f1_hasMark σ (some r) i).1 = 0 then 0 else (σ.2.2.2.2.2 r).2 i.toNatClampNeg, σ)
abbrev q1_copy (σ : SX) (_ _ : Int32) : Prop := WFX σ
def f1_copy (σ : SX) (x y : Int32) : Int32 × SX := if f1_isSlot x = 0 then (-1, σ) else if f1_isSlot y = 0 then (-1, σ) else
  match σ.2.2.1 2 x.toNatClampNeg with
  | none => (-2, σ)
  | some d => (1, sxO σ 2 (va_up (σ.2.2.1 2) y.toNatClampNeg (some d)))
abbrev q1_drop (σ : SX) (_ : Int32) : Prop := WFX σ
def f1_drop (σ : SX) (x : Int32) : Int32 × SX := if f1_isSlot x = 0 then (-1, σ) else
  match σ.2.2.1 2 x.toNatClampNeg with
  | none => (-2, σ)
  | some _ => (1, sxO σ 2 (va_up (σ.2.2.1 2) x.toNatClampNeg none))
abbrev q1_lever (σ : SX) (_ _ _ : Int32) : Prop := WFX σ
def f1_lever (σ : SX) (l pl sl : Int32) : Int32 × SX :=
  if f1_isLever l = 0 then (-1, σ) else if pl < 0 then (-1, σ) else if 4 ≤ pl then (-1, σ)
  else if ¬ sl = -1 ∧ f1_isSlot sl = 0 then (-1, σ)
  else if ¬ sl = -1 ∧ (f1_inSlot σ sl).1 = none then (-2, σ)
  else (1, sxO σ 3 (va_up (σ.2.2.1 3) (l * 4 + pl).toNatClampNeg (f1_inSlot σ sl).1))
abbrev q1_same (σ : SX) (_ _ : Int32) : Prop := WFX σ
def f1_same (σ : SX) (x y : Int32) : Int32 × SX := if f1_isSlot x = 0 then (-1, σ) else if f1_isSlot y = 0 then (-1, σ) else
  (match σ.2.2.1 2 x.toNatClampNeg with
  | none => 0
  | some d => if some d = σ.2.2.1 2 y.toNatClampNeg then 1 else 0, σ)
abbrev q1_count (σ : SX) (_ : Int32) : Prop := WFX σ
def f1_count (σ : SX) (x : Int32) : Int32 × SX := if f1_isSlot x = 0 then (-1, σ) else
  (match σ.2.2.1 2 x.toNatClampNeg with
  | none => -2
  | some d => if (σ.2.2.2.1.2 d).1 0 = 12 then (σ.2.2.2.1.2 d).1 7 else -2, σ)
abbrev q1_act (σ : SX) (_ _ : Int32) : Prop := WFX σ
def f1_act (σ : SX) (x p : Int32) : Int32 × SX := if f1_isSlot x = 0 then f1_refuse σ (-1) else
  match σ.2.2.1 2 x.toNatClampNeg with
  | none => f1_refuse σ (-2)
  | some d => ((fdo 16 (f1_begin σ) (some d) p).1, f1_noteFailure (fdo 16 (f1_begin σ) (some d) p).2)
abbrev q1_pull (σ : SX) (_ _ : Int32) : Prop := WFX σ
def f1_pull (σ : SX) (x p : Int32) : Int32 × SX := if f1_isLever x = 0 then f1_refuse σ (-1) else
  ((fx_places (fdo 16) (f1_begin σ) x p).1, f1_noteFailure (fx_places (fdo 16) (f1_begin σ) x p).2)
/-- the longest waiting is taken out -/
def x_out (σ : SX) : SX := (va_up (va_up σ.1 6 ((σ.1 6 + 1) - (σ.1 6 + 1) / 12 * 12)) 7 (σ.1 7 - 1), σ.2.1, va_up σ.2.2.1 4 (va_up (σ.2.2.1 4) (σ.1 6).toNatClampNeg none), σ.2.2.2)
def WF1 (σ : SX) : Prop := WFX σ ∧ 1 ≤ (σ.1 7).toInt
abbrev q1_doLongestWaiting (σ : SX) : Prop := WF1 σ
def f1_doLongestWaiting (σ : SX) : SX := (fdo 16 (x_out σ) (σ.2.2.1 4 (σ.1 6).toNatClampNeg) (σ.2.1 5 (σ.1 6).toNatClampNeg)).2
def fx_tick1 (σ : SX) : SX := f1_noteFailure (f1_doLongestWaiting (sxI σ 11 0))
def fx_tick : Nat → SX → Int32 → Int32 × SX
  | 0, σ, g => (g, σ)
  | n + 1, σ, g => fx_tick n (fx_tick1 σ) (if (fx_tick1 σ).1 11 = 0 then g + 1 else g)
abbrev q1_tick (σ : SX) : Prop := WFX σ
def f1_tick (σ : SX) : Int32 × SX := fx_tick (σ.1 7).toNatClampNeg (f1_begin σ) 0
abbrev q1_failed (_ : SX) : Prop := True
def f1_failed (σ : SX) : Int32 × SX := (σ.1 12, σ)
def x_inUse (f : Nat → Option Nat) : Nat → Nat
  | 0 => 0
  | n + 1 => x_inUse f n + (if f n = none then 0 else 1)
theorem x_inUse_le (f : Nat → Option Nat) : ∀ n, x_inUse f n ≤ n := by
  intro n
  induction n with
  | zero => exact Nat.le_refl 0
  | succ n ih => simp only [x_inUse]; split <;> omega
abbrev q1_slotsInUse (_ : SX) : Prop := True
def f1_slotsInUse (σ : SX) : Int32 × SX := (nI (x_inUse (σ.2.2.1 2) 20), σ)
abbrev q1_told (_ : SX) (_ : Int32) : Prop := True
def f1_told (σ : SX) (w : Int32) : Int32 × SX := (if w = 0 then σ.1 8 else if w = 1 then σ.1 7 else if w = 2 then σ.1 9 else if w = 3 then σ.1 10 else if w = 4 then nI (x_inUse (σ.2.2.1 2) 20) else -1, σ)
def wipe {α : Type} (f : Nat → α) (v : α) (n : Nat) : Nat → α := fun i => if i < n then v else f i
theorem wipe_0 {α : Type} (f : Nat → α) (v : α) : wipe f v 0 = f := by funext i; simp [wipe]
theorem wipe_s {α : Type} (f : Nat → α) (v : α) (n : Nat) : va_up (wipe f v n) n v = wipe f v (n + 1) := by
  funext i
  by_cases h : i = n
  · subst h; simp [va_up, wipe]
  · simp only [va_up, wipe, if_neg h]
    by_cases h2 : i < n
    · rw [if_pos h2, if_pos (by omega)]
    · rw [if_neg h2, if_neg (by omega)]
theorem upd_va (f : Nat → Int32) (k : Nat) (v : Int32) : upd f k v = va_up f k v := rfl
abbrev q1_emptyHall (_ : SX) : Prop := True
def f1_emptyHall (σ : SX) : SX := (σ.1, va_up σ.2.1 0 (wipe (σ.2.1 0) 0 10), va_up σ.2.2.1 1 (wipe (σ.2.2.1 1) none 3), σ.2.2.2)
abbrev q1_emptyDeeds (_ : SX) : Prop := True
def f1_emptyDeeds (σ : SX) : SX := sxO (sxO (sxO σ 2 (wipe (σ.2.2.1 2) none 20)) 3 (wipe (σ.2.2.1 3) none 20)) 4 (wipe (σ.2.2.1 4) none 12)
abbrev q1_clear (_ : SX) : Prop := True
def f1_clear (σ : SX) : Int32 × SX := (σ.1 8, f1_begin (sxI (sxI (sxI (sxI (f1_emptyDeeds (f1_emptyHall σ)) 6 0) 7 0) 8 0) 10 0))
theorem up_same {α : Type} (f : Nat → α) (k : Nat) : va_up f k (f k) = f := by
  funext i
  by_cases h : i = k
  · subst h; simp [va_up]
  · simp [va_up, h]
theorem up_up {α : Type} (f : Nat → α) (k : Nat) (v w : α) : va_up (va_up f k v) k w = va_up f k w := by
  funext i
  by_cases h : i = k
  · subst h; simp [va_up]
  · simp [va_up, h]
theorem XK.begin {σ : SX} (h : WFX σ) : XK σ (f1_begin σ) :=
  have h1 := XK.sI h 9 0 (by decide) (by decide)
  have h2 := XK.sI h1.1 11 0 (by decide) (by decide)
  (h1.tr h2).tr (XK.sI h2.1 12 0 (by decide) (by decide))
theorem XK.note {σ : SX} (h : WFX σ) : XK σ (f1_noteFailure σ) := by
  unfold f1_noteFailure
  split
  · exact XK.rf h
  · have h1 := XK.sI h 10 (σ.1 10 + 1) (by decide) (by decide)
    exact h1.tr (XK.sI h1.1 12 _ (by decide) (by decide))
/-- behind the taking out: all as before, one less waits -/
theorem wf_out {σ : SX} (h : WF1 σ) : WFX (x_out σ) ∧ ((x_out σ).1 7).toInt = (σ.1 7).toInt - 1 := by
  obtain ⟨⟨a1, a2, a3, a4, q, w, hq, hw, e6, e7⟩, h1⟩ := h
  rw [e7, nI_toInt (by omega)] at h1
  have ew : σ.1 7 - 1 = nI (w - 1) := by
    rw [e7, show (1 : Int32) = nI 1 from rfl, pk_sub (by omega)]
  have eq : (σ.1 6 + 1) - (σ.1 6 + 1) / 12 * 12 = nI ((q + 1) % 12) := by
    rw [e6, nI_1, show (12 : Int32) = nI 12 from rfl, pk_rem (by omega) (by decide) (by decide)]
  refine ⟨⟨?_, ?_, a3, a4, (q + 1) % 12, w - 1, by omega, by omega, ?_, ?_⟩, ?_⟩
  · intro k i e hk he
    simp only [x_out] at he ⊢
    by_cases k4 : k = 4
    · subst k4
      rw [va_up_self] at he
      by_cases hi : i = (σ.1 6).toNatClampNeg
      · subst hi; rw [va_up_self] at he; cases he
      · rw [va_up_ne _ _ hi] at he; exact a1 4 i e hk he
    · rw [va_up_ne _ _ k4] at he
      exact a1 k i e hk he
  · intro i r hr
    simp only [x_out] at hr ⊢
    rw [va_up_ne _ _ (by decide)] at hr
    exact a2 i r hr
  · simp only [x_out]
    rw [va_up_ne _ _ (by decide), va_up_self, eq]
  · simp only [x_out]
    rw [va_up_self, ew]
  · simp only [x_out]
    rw [va_up_self, ew, e7, nI_toInt (by omega), nI_toInt (by omega)]
    omega
theorem in_12 {σ : SX} (h : WFX σ) : vp_in (σ.1 6) 12 := by
  obtain ⟨-, -, -, -, q, w, hq, hw, e6, e7⟩ := h
  rw [e6]
  exact vp_in_nI hq (by decide)
theorem okO.q {σ : SX} (h : WF1 σ) : okO (x_out σ) (σ.2.2.1 4 (σ.1 6).toNatClampNeg) := fun d hd => h.1.1 4 _ d (Or.inr (Or.inr rfl)) hd
theorem dlw_K {σ : SX} (h : WF1 σ) : WFX (f1_doLongestWaiting σ) ∧ (σ.1 7).toInt - 1 ≤ ((f1_doLongestWaiting σ).1 7).toInt := by
  have h1 := wf_out h
  have h2 := fdo_K 16 (x_out σ) (σ.2.2.1 4 (σ.1 6).toNatClampNeg) (σ.2.1 5 (σ.1 6).toNatClampNeg) h1.1 (okO.q h)
  exact ⟨h2.1, by rw [← h1.2]; exact h2.2.2.2.2.2.2.2⟩
theorem tick1_K {σ : SX} (h : WF1 σ) : WFX (fx_tick1 σ) ∧ (σ.1 7).toInt - 1 ≤ ((fx_tick1 σ).1 7).toInt := by
  have h0 : WF1 (sxI σ 11 0) := ⟨(XK.sI h.1 11 0 (by decide) (by decide)).1, h.2⟩
  have h1 := dlw_K h0
  have h2 := XK.note h1.1
  exact ⟨h2.1, Int.le_trans h1.2 h2.2.2.2.2.2.2.2⟩

def wp_X1_slotsInUse_22 (σ : SX) (v1 : Int32) (v2 : Int32) (K4 : SX → Int32 → Int32 → Prop) (post : Int32 → SX → Prop) : Prop :=
  ∀ x1 : Int32, x1 = v2 + 1 → K4 σ v1 x1
set_option maxHeartbeats 4000000 in
set_option maxRecDepth 100000 in
theorem k_X1_slotsInUse_22 {l : Launch} {p : Program} {e : Env} {s : State} {m : MethodId} {below : List Frame} {meth : Method} {c : Code} {args : Array Value} {A : Nat → Prop} {G : Gm} {a : AX}  (hF : fx p s m args meth c cX1_slotsInUse 3 yX1_slotsInUse.cls kX1_slotsInUse (some (.int))) {post : Int32 → SX → Prop} {K4 : SX → Int32 → Int32 → Prop} (hK4 : ∀ (σ : SX) (v1 : Int32) (v2 : Int32) {H : Heap} {locs : List Loc} {ls : Array Slot}, K4 σ v1 v2 → wb G A s (wX G a σ) H locs → lv_has ls 3 [(0, .ref (a.1 13)), (1, .int v1), (2, .int v2)] → W p l e (rr 0 0) s m args below meth c H locs 0 0 (MQ below (va_Qi post (po G A (wX G a)) A) args s 0 0 A) (F0 m 4 ls [])) (σ : SX) (v1 : Int32) (v2 : Int32) {H : Heap} {locs : List Loc} {ls : Array Slot} (hw : wb G A s (wX G a σ) H locs) (hl : lv_has ls 3 [(0, .ref (a.1 13)), (1, .int v1), (2, .int v2)]) (hok : wp_X1_slotsInUse_22 σ v1 v2 K4 post) :
    W p l e (rr 0 0) s m args below meth c H locs 0 0 (MQ below (va_Qi post (po G A (wX G a)) A) args s 0 0 A) (F0 m 22 ls []) := by
  unfold wp_X1_slotsInUse_22 at hok
  obtain ⟨x1, ex1⟩ : ∃ z : Int32, z = v2 + 1 := ⟨_, rfl⟩
  replace hok := hok x1 ex1
  refine lv_iinc (v := x1) (lv' := [(2, .int x1), (0, .ref (a.1 13)), (1, .int v1)]) hF.x hF.b dX1_slotsInUse_22 hl (k := 2) rfl (by rw [ex1]; rfl) (by decide) rfl (fun ls hl => ?_)
  refine lv_goto (tgt := 4) hF.x hF.b dX1_slotsInUse_25 (by decide) ?_
  exact hK4 σ v1 x1 hok hw (lv_sub hl [1, 2, 0] rfl)
def wp_X1_slotsInUse_4 (σ : SX) (v1 : Int32) (v2 : Int32) (K4 : SX → Int32 → Int32 → Prop) (post : Int32 → SX → Prop) : Prop :=
  (20 ≤ v2 → post v1 σ) ∧ (¬ 20 ≤ v2 → vp_in v2 20 ∧ ∀ o2 : Option Nat, o2 = σ.2.2.1 2 v2.toNatClampNeg → (o2 = none → wp_X1_slotsInUse_22 σ v1 v2 K4 post) ∧ (∀ d3 : Nat, o2 = some d3 → ∀ x4 : Int32, x4 = v1 + 1 → wp_X1_slotsInUse_22 σ x4 v2 K4 post))
set_option maxHeartbeats 4000000 in
set_option maxRecDepth 100000 in
theorem k_X1_slotsInUse_4 {l : Launch} {p : Program} {e : Env} {s : State} {m : MethodId} {below : List Frame} {meth : Method} {c : Code} {args : Array Value} {A : Nat → Prop} {G : Gm} {a : AX}  (hF : fx p s m args meth c cX1_slotsInUse 3 yX1_slotsInUse.cls kX1_slotsInUse (some (.int))) {post : Int32 → SX → Prop} {K4 : SX → Int32 → Int32 → Prop} (hK4 : ∀ (σ : SX) (v1 : Int32) (v2 : Int32) {H : Heap} {locs : List Loc} {ls : Array Slot}, K4 σ v1 v2 → wb G A s (wX G a σ) H locs → lv_has ls 3 [(0, .ref (a.1 13)), (1, .int v1), (2, .int v2)] → W p l e (rr 0 0) s m args below meth c H locs 0 0 (MQ below (va_Qi post (po G A (wX G a)) A) args s 0 0 A) (F0 m 4 ls [])) (σ : SX) (v1 : Int32) (v2 : Int32) {H : Heap} {locs : List Loc} {ls : Array Slot} (hw : wb G A s (wX G a σ) H locs) (hl : lv_has ls 3 [(0, .ref (a.1 13)), (1, .int v1), (2, .int v2)]) (hok : wp_X1_slotsInUse_4 σ v1 v2 K4 post) :
    W p l e (rr 0 0) s m args below meth c H locs 0 0 (MQ below (va_Qi post (po G A (wX G a)) A) args s 0 0 A) (F0 m 4 ls []) := by
  unfold wp_X1_slotsInUse_4 at hok
  refine lv_iload_n hF.x hF.b dX1_slotsInUse_4 rfl (lv_at hl 2 rfl) ?_
  refine lv_bipush (v := 20) hF.x hF.b dX1_slotsInUse_5 (by decide) ?_
  refine lv_icmp_ge (tgt := 28) hF.x hF.b dX1_slotsInUse_7 (by decide) (fun c1 => ?_) (fun c1 => ?_)
  · replace hok := hok.1 c1
    refine lv_iload_n hF.x hF.b dX1_slotsInUse_28 rfl (lv_at hl 1 rfl) ?_
    exact rt_I (u := σ) hF hw hok (Nat.zero_le _) (Nat.zero_le _) dX1_slotsInUse_29
  · replace hok := hok.2 c1
    refine lv_aload_n hF.x hF.b dX1_slotsInUse_10 rfl (lv_at hl 0 rfl) ?_
    refine r_get hF hw 0 rfl rfl inlX1 2 (by decide) wf_X1_20 rfl dX1_slotsInUse_11 ?_
    refine lv_iload_n hF.x hF.b dX1_slotsInUse_14 rfl (lv_at hl 2 rfl) ?_
    refine rx_aald 2 20 hF hw (by decide) hok.1 dX1_slotsInUse_15 (fun o2 eo2 => ?_)
    replace hok := hok.2 o2 eo2
    refine lm_ifnull (o := o2) (tgt := 22) hF dX1_slotsInUse_16 (by decide) (fun ed3 => ?_) (fun d3 ed3 => ?_)
    · replace hok := hok.1 ed3
      subst ed3
      have hl : lv_has ls 3 [(0, .ref (a.1 13)), (1, .int v1), (2, .int v2)] := hl
      exact k_X1_slotsInUse_22  hF hK4 σ v1 v2 hw (lv_sub hl [0, 1, 2] rfl) hok
    · replace hok := hok.2 d3 ed3
      subst ed3
      have hl : lv_has ls 3 [(0, .ref (a.1 13)), (1, .int v1), (2, .int v2)] := hl
      obtain ⟨x4, ex4⟩ : ∃ z : Int32, z = v1 + 1 := ⟨_, rfl⟩
      replace hok := hok x4 ex4
      refine lv_iinc (v := x4) (lv' := [(1, .int x4), (0, .ref (a.1 13)), (2, .int v2)]) hF.x hF.b dX1_slotsInUse_19 hl (k := 1) rfl (by rw [ex4]; rfl) (by decide) rfl (fun ls hl => ?_)
      exact k_X1_slotsInUse_22  hF hK4 σ x4 v2 hw (lv_sub hl [1, 0, 2] rfl) hok
def wp_X1_slotsInUse_0 (σ : SX)  (K4 : SX → Int32 → Int32 → Prop) (post : Int32 → SX → Prop) : Prop :=
  K4 σ 0 0
set_option maxHeartbeats 4000000 in
set_option maxRecDepth 100000 in
theorem k_X1_slotsInUse_0 {l : Launch} {p : Program} {e : Env} {s : State} {m : MethodId} {below : List Frame} {meth : Method} {c : Code} {args : Array Value} {A : Nat → Prop} {G : Gm} {a : AX}  (hF : fx p s m args meth c cX1_slotsInUse 3 yX1_slotsInUse.cls kX1_slotsInUse (some (.int))) {post : Int32 → SX → Prop} {K4 : SX → Int32 → Int32 → Prop} (hK4 : ∀ (σ : SX) (v1 : Int32) (v2 : Int32) {H : Heap} {locs : List Loc} {ls : Array Slot}, K4 σ v1 v2 → wb G A s (wX G a σ) H locs → lv_has ls 3 [(0, .ref (a.1 13)), (1, .int v1), (2, .int v2)] → W p l e (rr 0 0) s m args below meth c H locs 0 0 (MQ below (va_Qi post (po G A (wX G a)) A) args s 0 0 A) (F0 m 4 ls [])) (σ : SX)  {H : Heap} {locs : List Loc} {ls : Array Slot} (hw : wb G A s (wX G a σ) H locs) (hl : lv_has ls 3 [(0, .ref (a.1 13))]) (hok : wp_X1_slotsInUse_0 σ  K4 post) :
    W p l e (rr 0 0) s m args below meth c H locs 0 0 (MQ below (va_Qi post (po G A (wX G a)) A) args s 0 0 A) (F0 m 0 ls []) := by
  unfold wp_X1_slotsInUse_0 at hok
  refine lv_iconst (v := 0) hF.x hF.b dX1_slotsInUse_0 (by decide) ?_
  refine lv_istore_n (lv' := [(1, .int 0), (0, .ref (a.1 13))]) hF.x hF.b dX1_slotsInUse_1 rfl hl (by decide) rfl (fun ls hl => ?_)
  refine lv_iconst (v := 0) hF.x hF.b dX1_slotsInUse_2 (by decide) ?_
  refine lv_istore_n (lv' := [(2, .int 0), (1, .int 0), (0, .ref (a.1 13))]) hF.x hF.b dX1_slotsInUse_3 rfl hl (by decide) rfl (fun ls hl => ?_)
  exact hK4 σ 0 0 hok hw (lv_sub hl [2, 1, 0] rfl)

theorem lp_X1_slotsInUse_4 {l : Launch} {p : Program} {e : Env} {s : State} {m : MethodId} {below : List Frame} {meth : Method} {c : Code} {args : Array Value} {A : Nat → Prop} {G : Gm} {a : AX}  (hF : fx p s m args meth c cX1_slotsInUse 3 yX1_slotsInUse.cls kX1_slotsInUse (some (.int))) {post : Int32 → SX → Prop}  (Inv : Nat → SX → Int32 → Int32 → Prop) (hstep : ∀ (n : Nat) (σ : SX) (v1 : Int32) (v2 : Int32), Inv n σ v1 v2 → wp_X1_slotsInUse_4 σ v1 v2 (fun σq v1' v2' => ∃ nq, nq < n ∧ Inv nq σq v1' v2') post) :
    ∀ (n : Nat) (σ : SX) (v1 : Int32) (v2 : Int32) {H : Heap} {locs : List Loc} {ls : Array Slot}, Inv n σ v1 v2 → wb G A s (wX G a σ) H locs → lv_has ls 3 [(0, .ref (a.1 13)), (1, .int v1), (2, .int v2)] → W p l e (rr 0 0) s m args below meth c H locs 0 0 (MQ below (va_Qi post (po G A (wX G a)) A) args s 0 0 A) (F0 m 4 ls []) := by
  intro n
  induction n using Nat.strongRecOn with
  | _ n ih =>
    intro σ v1 v2 H locs ls hI hw hl
    exact k_X1_slotsInUse_4  hF (post := post) (K4 := fun σq v1' v2' => ∃ nq, nq < n ∧ Inv nq σq v1' v2') (by intro σq v1' v2' H locs ls hI hw hl; exact ih hI.choose hI.choose_spec.1 σq v1' v2' hI.choose_spec.2 hw hl) σ v1 v2 hw hl (hstep n σ v1 v2 hI)

theorem p1_use_step (σ0 : SX) (n : Nat) (σ : SX) (v1 v2 : Int32) (hI : σ = σ0 ∧ ∃ j : Nat, j + n = 20 ∧ v2 = nI j ∧ v1 = nI (x_inUse (σ0.2.2.1 2) j)) :
    wp_X1_slotsInUse_4 σ v1 v2 (fun σq v1' v2' => ∃ nq, nq < n ∧ (σq = σ0 ∧ ∃ j : Nat, j + nq = 20 ∧ v2' = nI j ∧ v1' = nI (x_inUse (σ0.2.2.1 2) j))) (fun r u => r = (f1_slotsInUse σ0).1 ∧ u = (f1_slotsInUse σ0).2) := by
  obtain ⟨rfl, j, hj, rfl, rfl⟩ := hI
  refine ⟨fun c => ?_, fun c => ?_⟩
  · rw [show (20 : Int32) = nI 20 from rfl, nI_leI (by decide) (by omega)] at c
    have : j = 20 := by omega
    subst this
    exact ⟨rfl, rfl⟩
  · rw [show (20 : Int32) = nI 20 from rfl, nI_leI (by decide) (by omega)] at c
    refine ⟨vp_in_nI (by omega) (by decide), fun o2 e2 => ?_⟩
    rw [nI_clamp (by omega)] at e2
    refine ⟨fun e => ?_, fun d e x4 e4 => ?_⟩
    · intro x1 e1
      exact ⟨n - 1, by omega, rfl, j + 1, by omega, by rw [e1, nI_1], by simp only [x_inUse]; rw [← e2, if_pos e]; rfl⟩
    · intro x1 e1
      exact ⟨n - 1, by omega, rfl, j + 1, by omega, by rw [e1, nI_1], by simp only [x_inUse]; rw [← e2, if_neg (by rw [e]; exact fun q => by cases q), e4, nI_1]⟩
theorem c1_slotsInUse (l : Launch) (G : Gm) (a : AX) (σ : SX) (_ : q1_slotsInUse σ) : ctI l yX1_slotsInUse cX1_slotsInUse 3 .int (rr 0 0) G [.ref (a.1 13)] (wX G a σ) (fun (r : Int32) (u : SX) => r = (f1_slotsInUse σ).1 ∧ u = (f1_slotsInUse σ).2) (wX G a) := by
  refine en_I (by decide +kernel) (Nat.le_of_ble_eq_true rfl) (fun p e s m below meth c A ls hF hw hl => ?_)
  refine k_X1_slotsInUse_0 hF (K4 := fun σq v1' v2' => ∃ nq, (σq = σ ∧ ∃ j : Nat, j + nq = 20 ∧ v2' = nI j ∧ v1' = nI (x_inUse (σ.2.2.1 2) j))) ?_ σ hw hl ?_
  · intro σq v1' v2' H locs ls hI hw hl
    exact lp_X1_slotsInUse_4 hF _ (p1_use_step σ) hI.choose σq v1' v2' hI.choose_spec hw hl
  · exact ⟨20, rfl, 0, rfl, rfl, rfl⟩

def wp_X1_emptyHall_23 (σ : SX) (v1 : Int32) (K2 : SX → Int32 → Prop) (K23 : SX → Int32 → Prop) (post : SX → Prop) : Prop :=
  (3 ≤ v1 → post σ) ∧ (¬ 3 ≤ v1 → vp_in v1 3 ∧ (∀ z, none = some z → z < σ.2.2.2.2.1) ∧ ∀ σ2 : SX, σ2 = (σ.1, σ.2.1, va_up σ.2.2.1 1 (va_up (σ.2.2.1 1) v1.toNatClampNeg none), σ.2.2.2) → ∀ x3 : Int32, x3 = v1 + 1 → K23 σ2 x3)
set_option maxHeartbeats 4000000 in
set_option maxRecDepth 100000 in
theorem k_X1_emptyHall_23 {l : Launch} {p : Program} {e : Env} {s : State} {m : MethodId} {below : List Frame} {meth : Method} {c : Code} {args : Array Value} {A : Nat → Prop} {G : Gm} {a : AX}  (hF : fx p s m args meth c cX1_emptyHall 2 yX1_emptyHall.cls kX1_emptyHall none) {post : SX → Prop} {K2 : SX → Int32 → Prop} {K23 : SX → Int32 → Prop} (hK2 : ∀ (σ : SX) (v1 : Int32) {H : Heap} {locs : List Loc} {ls : Array Slot}, K2 σ v1 → wb G A s (wX G a σ) H locs → lv_has ls 2 [(0, .ref (a.1 13)), (1, .int v1)] → W p l e (rr 0 0) s m args below meth c H locs 0 0 (MQ below (va_Qv post (po G A (wX G a)) A) args s 0 0 A) (F0 m 2 ls [])) (hK23 : ∀ (σ : SX) (v1 : Int32) {H : Heap} {locs : List Loc} {ls : Array Slot}, K23 σ v1 → wb G A s (wX G a σ) H locs → lv_has ls 2 [(0, .ref (a.1 13)), (1, .int v1)] → W p l e (rr 0 0) s m args below meth c H locs 0 0 (MQ below (va_Qv post (po G A (wX G a)) A) args s 0 0 A) (F0 m 23 ls [])) (σ : SX) (v1 : Int32) {H : Heap} {locs : List Loc} {ls : Array Slot} (hw : wb G A s (wX G a σ) H locs) (hl : lv_has ls 2 [(0, .ref (a.1 13)), (1, .int v1)]) (hok : wp_X1_emptyHall_23 σ v1 K2 K23 post) :
    W p l e (rr 0 0) s m args below meth c H locs 0 0 (MQ below (va_Qv post (po G A (wX G a)) A) args s 0 0 A) (F0 m 23 ls []) := by
  unfold wp_X1_emptyHall_23 at hok
  refine lv_iload_n hF.x hF.b dX1_emptyHall_23 rfl (lv_at hl 1 rfl) ?_
  refine lv_iconst (v := 3) hF.x hF.b dX1_emptyHall_24 (by decide) ?_
  refine lv_icmp_ge (tgt := 41) hF.x hF.b dX1_emptyHall_25 (by decide) (fun c1 => ?_) (fun c1 => ?_)
  · replace hok := hok.1 c1
    exact rt_V (u := σ) hF hw hok (Nat.zero_le _) (Nat.zero_le _) dX1_emptyHall_41
  · replace hok := hok.2 c1
    refine lv_aload_n hF.x hF.b dX1_emptyHall_28 rfl (lv_at hl 0 rfl) ?_
    refine r_get hF hw 0 rfl rfl inlX1 1 (by decide) wf_X1_14 rfl dX1_emptyHall_29 ?_
    refine lv_iload_n hF.x hF.b dX1_emptyHall_32 rfl (lv_at hl 1 rfl) ?_
    refine lv_null hF.x hF.b dX1_emptyHall_33 ?_
    refine rx_gast (o := none) hF hw hok.1 hok.2.1 dX1_emptyHall_34 (fun σ2 H locs eσ2 hw => ?_)
    replace hok := hok.2.2 σ2 eσ2
    obtain ⟨x3, ex3⟩ : ∃ z : Int32, z = v1 + 1 := ⟨_, rfl⟩
    replace hok := hok x3 ex3
    refine lv_iinc (v := x3) (lv' := [(1, .int x3), (0, .ref (a.1 13))]) hF.x hF.b dX1_emptyHall_35 hl (k := 1) rfl (by rw [ex3]; rfl) (by decide) rfl (fun ls hl => ?_)
    refine lv_goto (tgt := 23) hF.x hF.b dX1_emptyHall_38 (by decide) ?_
    exact hK23 σ2 x3 hok hw (lv_sub hl [1, 0] rfl)
def wp_X1_emptyHall_2 (σ : SX) (v1 : Int32) (K2 : SX → Int32 → Prop) (K23 : SX → Int32 → Prop) (post : SX → Prop) : Prop :=
  (10 ≤ v1 → K23 σ 0) ∧ (¬ 10 ≤ v1 → vp_in v1 10 ∧ ∀ σ2 : SX, σ2 = (σ.1, va_up σ.2.1 0 (upd (σ.2.1 0) v1.toNatClampNeg 0), σ.2.2) → ∀ x3 : Int32, x3 = v1 + 1 → K2 σ2 x3)
set_option maxHeartbeats 4000000 in
set_option maxRecDepth 100000 in
theorem k_X1_emptyHall_2 {l : Launch} {p : Program} {e : Env} {s : State} {m : MethodId} {below : List Frame} {meth : Method} {c : Code} {args : Array Value} {A : Nat → Prop} {G : Gm} {a : AX}  (hF : fx p s m args meth c cX1_emptyHall 2 yX1_emptyHall.cls kX1_emptyHall none) {post : SX → Prop} {K2 : SX → Int32 → Prop} {K23 : SX → Int32 → Prop} (hK2 : ∀ (σ : SX) (v1 : Int32) {H : Heap} {locs : List Loc} {ls : Array Slot}, K2 σ v1 → wb G A s (wX G a σ) H locs → lv_has ls 2 [(0, .ref (a.1 13)), (1, .int v1)] → W p l e (rr 0 0) s m args below meth c H locs 0 0 (MQ below (va_Qv post (po G A (wX G a)) A) args s 0 0 A) (F0 m 2 ls [])) (hK23 : ∀ (σ : SX) (v1 : Int32) {H : Heap} {locs : List Loc} {ls : Array Slot}, K23 σ v1 → wb G A s (wX G a σ) H locs → lv_has ls 2 [(0, .ref (a.1 13)), (1, .int v1)] → W p l e (rr 0 0) s m args below meth c H locs 0 0 (MQ below (va_Qv post (po G A (wX G a)) A) args s 0 0 A) (F0 m 23 ls [])) (σ : SX) (v1 : Int32) {H : Heap} {locs : List Loc} {ls : Array Slot} (hw : wb G A s (wX G a σ) H locs) (hl : lv_has ls 2 [(0, .ref (a.1 13)), (1, .int v1)]) (hok : wp_X1_emptyHall_2 σ v1 K2 K23 post) :
    W p l e (rr 0 0) s m args below meth c H locs 0 0 (MQ below (va_Qv post (po G A (wX G a)) A) args s 0 0 A) (F0 m 2 ls []) := by
  unfold wp_X1_emptyHall_2 at hok
  refine lv_iload_n hF.x hF.b dX1_emptyHall_2 rfl (lv_at hl 1 rfl) ?_
  refine lv_bipush (v := 10) hF.x hF.b dX1_emptyHall_3 (by decide) ?_
  refine lv_icmp_ge (tgt := 21) hF.x hF.b dX1_emptyHall_5 (by decide) (fun c1 => ?_) (fun c1 => ?_)
  · replace hok := hok.1 c1
    refine lv_iconst (v := 0) hF.x hF.b dX1_emptyHall_21 (by decide) ?_
    refine lv_istore_n (lv' := [(1, .int 0), (0, .ref (a.1 13))]) hF.x hF.b dX1_emptyHall_22 rfl hl (by decide) rfl (fun ls hl => ?_)
    exact hK23 σ 0 hok hw (lv_sub hl [1, 0] rfl)
  · replace hok := hok.2 c1
    refine lv_aload_n hF.x hF.b dX1_emptyHall_8 rfl (lv_at hl 0 rfl) ?_
    refine r_get hF hw 0 rfl rfl inlX1 0 (by decide) wf_X1_9 rfl dX1_emptyHall_9 ?_
    refine lv_iload_n hF.x hF.b dX1_emptyHall_12 rfl (lv_at hl 1 rfl) ?_
    refine lv_iconst (v := 0) hF.x hF.b dX1_emptyHall_13 (by decide) ?_
    refine rx_iast 0 10 hF hw (by decide) hok.1 dX1_emptyHall_14 (fun σ2 H locs eσ2 hw => ?_)
    replace hok := hok.2 σ2 eσ2
    obtain ⟨x3, ex3⟩ : ∃ z : Int32, z = v1 + 1 := ⟨_, rfl⟩
    replace hok := hok x3 ex3
    refine lv_iinc (v := x3) (lv' := [(1, .int x3), (0, .ref (a.1 13))]) hF.x hF.b dX1_emptyHall_15 hl (k := 1) rfl (by rw [ex3]; rfl) (by decide) rfl (fun ls hl => ?_)
    refine lv_goto (tgt := 2) hF.x hF.b dX1_emptyHall_18 (by decide) ?_
    exact hK2 σ2 x3 hok hw (lv_sub hl [1, 0] rfl)
def wp_X1_emptyHall_0 (σ : SX)  (K2 : SX → Int32 → Prop) (K23 : SX → Int32 → Prop) (post : SX → Prop) : Prop :=
  K2 σ 0
set_option maxHeartbeats 4000000 in
set_option maxRecDepth 100000 in
theorem k_X1_emptyHall_0 {l : Launch} {p : Program} {e : Env} {s : State} {m : MethodId} {below : List Frame} {meth : Method} {c : Code} {args : Array Value} {A : Nat → Prop} {G : Gm} {a : AX}  (hF : fx p s m args meth c cX1_emptyHall 2 yX1_emptyHall.cls kX1_emptyHall none) {post : SX → Prop} {K2 : SX → Int32 → Prop} {K23 : SX → Int32 → Prop} (hK2 : ∀ (σ : SX) (v1 : Int32) {H : Heap} {locs : List Loc} {ls : Array Slot}, K2 σ v1 → wb G A s (wX G a σ) H locs → lv_has ls 2 [(0, .ref (a.1 13)), (1, .int v1)] → W p l e (rr 0 0) s m args below meth c H locs 0 0 (MQ below (va_Qv post (po G A (wX G a)) A) args s 0 0 A) (F0 m 2 ls [])) (hK23 : ∀ (σ : SX) (v1 : Int32) {H : Heap} {locs : List Loc} {ls : Array Slot}, K23 σ v1 → wb G A s (wX G a σ) H locs → lv_has ls 2 [(0, .ref (a.1 13)), (1, .int v1)] → W p l e (rr 0 0) s m args below meth c H locs 0 0 (MQ below (va_Qv post (po G A (wX G a)) A) args s 0 0 A) (F0 m 23 ls [])) (σ : SX)  {H : Heap} {locs : List Loc} {ls : Array Slot} (hw : wb G A s (wX G a σ) H locs) (hl : lv_has ls 2 [(0, .ref (a.1 13))]) (hok : wp_X1_emptyHall_0 σ  K2 K23 post) :
    W p l e (rr 0 0) s m args below meth c H locs 0 0 (MQ below (va_Qv post (po G A (wX G a)) A) args s 0 0 A) (F0 m 0 ls []) := by
  unfold wp_X1_emptyHall_0 at hok
  refine lv_iconst (v := 0) hF.x hF.b dX1_emptyHall_0 (by decide) ?_
  refine lv_istore_n (lv' := [(1, .int 0), (0, .ref (a.1 13))]) hF.x hF.b dX1_emptyHall_1 rfl hl (by decide) rfl (fun ls hl => ?_)
  exact hK2 σ 0 hok hw (lv_sub hl [1, 0] rfl)

theorem lp_X1_emptyHall_2 {l : Launch} {p : Program} {e : Env} {s : State} {m : MethodId} {below : List Frame} {meth : Method} {c : Code} {args : Array Value} {A : Nat → Prop} {G : Gm} {a : AX}  (hF : fx p s m args meth c cX1_emptyHall 2 yX1_emptyHall.cls kX1_emptyHall none) {post : SX → Prop} {K23 : SX → Int32 → Prop} (hK23 : ∀ (σ : SX) (v1 : Int32) {H : Heap} {locs : List Loc} {ls : Array Slot}, K23 σ v1 → wb G A s (wX G a σ) H locs → lv_has ls 2 [(0, .ref (a.1 13)), (1, .int v1)] → W p l e (rr 0 0) s m args below meth c H locs 0 0 (MQ below (va_Qv post (po G A (wX G a)) A) args s 0 0 A) (F0 m 23 ls [])) (Inv : Nat → SX → Int32 → Prop) (hstep : ∀ (n : Nat) (σ : SX) (v1 : Int32), Inv n σ v1 → wp_X1_emptyHall_2 σ v1 (fun σq v1' => ∃ nq, nq < n ∧ Inv nq σq v1') K23 post) :
    ∀ (n : Nat) (σ : SX) (v1 : Int32) {H : Heap} {locs : List Loc} {ls : Array Slot}, Inv n σ v1 → wb G A s (wX G a σ) H locs → lv_has ls 2 [(0, .ref (a.1 13)), (1, .int v1)] → W p l e (rr 0 0) s m args below meth c H locs 0 0 (MQ below (va_Qv post (po G A (wX G a)) A) args s 0 0 A) (F0 m 2 ls []) := by
  intro n
  induction n using Nat.strongRecOn with
  | _ n ih =>
    intro σ v1 H locs ls hI hw hl
    exact k_X1_emptyHall_2  hF (post := post) (K2 := fun σq v1' => ∃ nq, nq < n ∧ Inv nq σq v1') (K23 := K23) (by intro σq v1' H locs ls hI hw hl; exact ih hI.choose hI.choose_spec.1 σq v1' hI.choose_spec.2 hw hl) hK23 σ v1 hw hl (hstep n σ v1 hI)

theorem lp_X1_emptyHall_23 {l : Launch} {p : Program} {e : Env} {s : State} {m : MethodId} {below : List Frame} {meth : Method} {c : Code} {args : Array Value} {A : Nat → Prop} {G : Gm} {a : AX}  (hF : fx p s m args meth c cX1_emptyHall 2 yX1_emptyHall.cls kX1_emptyHall none) {post : SX → Prop} {K2 : SX → Int32 → Prop} (hK2 : ∀ (σ : SX) (v1 : Int32) {H : Heap} {locs : List Loc} {ls : Array Slot}, K2 σ v1 → wb G A s (wX G a σ) H locs → lv_has ls 2 [(0, .ref (a.1 13)), (1, .int v1)] → W p l e (rr 0 0) s m args below meth c H locs 0 0 (MQ below (va_Qv post (po G A (wX G a)) A) args s 0 0 A) (F0 m 2 ls [])) (Inv : Nat → SX → Int32 → Prop) (hstep : ∀ (n : Nat) (σ : SX) (v1 : Int32), Inv n σ v1 → wp_X1_emptyHall_23 σ v1 K2 (fun σq v1' => ∃ nq, nq < n ∧ Inv nq σq v1') post) :
    ∀ (n : Nat) (σ : SX) (v1 : Int32) {H : Heap} {locs : List Loc} {ls : Array Slot}, Inv n σ v1 → wb G A s (wX G a σ) H locs → lv_has ls 2 [(0, .ref (a.1 13)), (1, .int v1)] → W p l e (rr 0 0) s m args below meth c H locs 0 0 (MQ below (va_Qv post (po G A (wX G a)) A) args s 0 0 A) (F0 m 23 ls []) := by
  intro n
  induction n using Nat.strongRecOn with
  | _ n ih =>
    intro σ v1 H locs ls hI hw hl
    exact k_X1_emptyHall_23  hF (post := post) (K2 := K2) (K23 := fun σq v1' => ∃ nq, nq < n ∧ Inv nq σq v1') hK2 (by intro σq v1' H locs ls hI hw hl; exact ih hI.choose hI.choose_spec.1 σq v1' hI.choose_spec.2 hw hl) σ v1 hw hl (hstep n σ v1 hI)

theorem p1_eh_23 (σ0 : SX) (K2 : SX → Int32 → Prop) (n : Nat) (σ : SX) (v1 : Int32) (hI : ∃ j : Nat, j + n = 3 ∧ v1 = nI j ∧ σ = sxO σ0 1 (wipe (σ0.2.2.1 1) none j)) :
    wp_X1_emptyHall_23 σ v1 K2 (fun σq v1' => ∃ nq, nq < n ∧ ∃ j : Nat, j + nq = 3 ∧ v1' = nI j ∧ σq = sxO σ0 1 (wipe (σ0.2.2.1 1) none j)) (fun u => u = sxO σ0 1 (wipe (σ0.2.2.1 1) none 3)) := by
  obtain ⟨j, hj, rfl, rfl⟩ := hI
  refine ⟨fun c => ?_, fun c => ?_⟩
  · rw [show (3 : Int32) = nI 3 from rfl, nI_leI (by decide) (by omega)] at c
    have : j = 3 := by omega
    subst this
    rfl
  · rw [show (3 : Int32) = nI 3 from rfl, nI_leI (by decide) (by omega)] at c
    refine ⟨vp_in_nI (by omega) (by decide), fun z hz => (by cases hz), fun σ2 e2 x3 e3 => ⟨n - 1, by omega, j + 1, by omega, by rw [e3, nI_1], ?_⟩⟩
    rw [e2, nI_clamp (by omega)]
    simp only [sxO]
    rw [va_up_self, wipe_s, up_up]
theorem p1_eh_2 (σ0 : SX) (K23 : SX → Int32 → Prop) (hK : K23 (sxF σ0 0 (wipe (σ0.2.1 0) 0 10)) 0) (post : SX → Prop) (n : Nat) (σ : SX) (v1 : Int32) (hI : ∃ j : Nat, j + n = 10 ∧ v1 = nI j ∧ σ = sxF σ0 0 (wipe (σ0.2.1 0) 0 j)) :
    wp_X1_emptyHall_2 σ v1 (fun σq v1' => ∃ nq, nq < n ∧ ∃ j : Nat, j + nq = 10 ∧ v1' = nI j ∧ σq = sxF σ0 0 (wipe (σ0.2.1 0) 0 j)) K23 post := by
  obtain ⟨j, hj, rfl, rfl⟩ := hI
  refine ⟨fun c => ?_, fun c => ?_⟩
  · rw [show (10 : Int32) = nI 10 from rfl, nI_leI (by decide) (by omega)] at c
    have : j = 10 := by omega
    subst this
    exact hK
  · rw [show (10 : Int32) = nI 10 from rfl, nI_leI (by decide) (by omega)] at c
    refine ⟨vp_in_nI (by omega) (by decide), fun σ2 e2 x3 e3 => ⟨n - 1, by omega, j + 1, by omega, by rw [e3, nI_1], ?_⟩⟩
    rw [e2, nI_clamp (by omega)]
    simp only [sxF]
    rw [va_up_self, upd_va, wipe_s, up_up]
theorem c1_emptyHall (l : Launch) (G : Gm) (a : AX) (σ : SX) (_ : q1_emptyHall σ) : ctV l yX1_emptyHall cX1_emptyHall 2 (rr 0 0) G [.ref (a.1 13)] (wX G a σ) (fun (u : SX) => u = f1_emptyHall σ) (wX G a) := by
  refine en_V (by decide +kernel) (Nat.le_of_ble_eq_true rfl) (fun p e s m below meth c A ls hF hn hw hl => ?_)
  have h23 := lp_X1_emptyHall_23 (l := l) (e := e) (below := below) (A := A) (G := G) (a := a) (post := fun u => u = f1_emptyHall σ) hF (K2 := fun _ _ => False) (fun _ _ _ _ _ h => h.elim) _ (p1_eh_23 (sxF σ 0 (wipe (σ.2.1 0) 0 10)) (fun _ _ => False))
  have h2 := lp_X1_emptyHall_2 (l := l) (e := e) (below := below) (A := A) (G := G) (a := a) (post := fun u => u = f1_emptyHall σ) hF (K23 := fun σq v1' => ∃ nq : Nat, ∃ j : Nat, j + nq = 3 ∧ v1' = nI j ∧ σq = sxO (sxF σ 0 (wipe (σ.2.1 0) 0 10)) 1 (wipe ((sxF σ 0 (wipe (σ.2.1 0) 0 10)).2.2.1 1) none j)) (by
    intro σq v1' H locs ls hI hw hl
    exact h23 hI.choose σq v1' hI.choose_spec hw hl) _ (p1_eh_2 σ _ ⟨3, 0, rfl, rfl, by rw [wipe_0]; simp only [sxO]; rw [up_same]⟩ _)
  refine k_X1_emptyHall_0 hF (K2 := fun σq v1' => ∃ nq : Nat, ∃ j : Nat, j + nq = 10 ∧ v1' = nI j ∧ σq = sxF σ 0 (wipe (σ.2.1 0) 0 j)) (K23 := fun _ _ => False) ?_ (fun _ _ _ _ _ h => h.elim) σ hw hl ?_
  · intro σq v1' H locs ls hI hw hl
    exact h2 hI.choose σq v1' hI.choose_spec hw hl
  · exact ⟨10, 0, rfl, rfl, by rw [wipe_0]; simp only [sxF]; rw [up_same]⟩

def wp_X1_emptyDeeds_44 (σ : SX) (v1 : Int32) (K2 : SX → Int32 → Prop) (K23 : SX → Int32 → Prop) (K44 : SX → Int32 → Prop) (post : SX → Prop) : Prop :=
  (12 ≤ v1 → post σ) ∧ (¬ 12 ≤ v1 → vp_in v1 12 ∧ (∀ z, none = some z → z < σ.2.2.2.1.1) ∧ ∀ σ2 : SX, σ2 = (σ.1, σ.2.1, va_up σ.2.2.1 4 (va_up (σ.2.2.1 4) v1.toNatClampNeg none), σ.2.2.2) → ∀ x3 : Int32, x3 = v1 + 1 → K44 σ2 x3)
set_option maxHeartbeats 4000000 in
set_option maxRecDepth 100000 in
theorem k_X1_emptyDeeds_44 {l : Launch} {p : Program} {e : Env} {s : State} {m : MethodId} {below : List Frame} {meth : Method} {c : Code} {args : Array Value} {A : Nat → Prop} {G : Gm} {a : AX}  (hF : fx p s m args meth c cX1_emptyDeeds 2 yX1_emptyDeeds.cls kX1_emptyDeeds none) {post : SX → Prop} {K2 : SX → Int32 → Prop} {K23 : SX → Int32 → Prop} {K44 : SX → Int32 → Prop} (hK2 : ∀ (σ : SX) (v1 : Int32) {H : Heap} {locs : List Loc} {ls : Array Slot}, K2 σ v1 → wb G A s (wX G a σ) H locs → lv_has ls 2 [(0, .ref (a.1 13)), (1, .int v1)] → W p l e (rr 0 0) s m args below meth c H locs 0 0 (MQ below (va_Qv post (po G A (wX G a)) A) args s 0 0 A) (F0 m 2 ls [])) (hK23 : ∀ (σ : SX) (v1 : Int32) {H : Heap} {locs : List Loc} {ls : Array Slot}, K23 σ v1 → wb G A s (wX G a σ) H locs → lv_has ls 2 [(0, .ref (a.1 13)), (1, .int v1)] → W p l e (rr 0 0) s m args below meth c H locs 0 0 (MQ below (va_Qv post (po G A (wX G a)) A) args s 0 0 A) (F0 m 23 ls [])) (hK44 : ∀ (σ : SX) (v1 : Int32) {H : Heap} {locs : List Loc} {ls : Array Slot}, K44 σ v1 → wb G A s (wX G a σ) H locs → lv_has ls 2 [(0, .ref (a.1 13)), (1, .int v1)] → W p l e (rr 0 0) s m args below meth c H locs 0 0 (MQ below (va_Qv post (po G A (wX G a)) A) args s 0 0 A) (F0 m 44 ls [])) (σ : SX) (v1 : Int32) {H : Heap} {locs : List Loc} {ls : Array Slot} (hw : wb G A s (wX G a σ) H locs) (hl : lv_has ls 2 [(0, .ref (a.1 13)), (1, .int v1)]) (hok : wp_X1_emptyDeeds_44 σ v1 K2 K23 K44 post) :
    W p l e (rr 0 0) s m args below meth c H locs 0 0 (MQ below (va_Qv post (po G A (wX G a)) A) args s 0 0 A) (F0 m 44 ls []) := by
  unfold wp_X1_emptyDeeds_44 at hok
  refine lv_iload_n hF.x hF.b dX1_emptyDeeds_44 rfl (lv_at hl 1 rfl) ?_
  refine lv_bipush (v := 12) hF.x hF.b dX1_emptyDeeds_45 (by decide) ?_
  refine lv_icmp_ge (tgt := 63) hF.x hF.b dX1_emptyDeeds_47 (by decide) (fun c1 => ?_) (fun c1 => ?_)
  · replace hok := hok.1 c1
    exact rt_V (u := σ) hF hw hok (Nat.zero_le _) (Nat.zero_le _) dX1_emptyDeeds_63
  · replace hok := hok.2 c1
    refine lv_aload_n hF.x hF.b dX1_emptyDeeds_50 rfl (lv_at hl 0 rfl) ?_
    refine r_get hF hw 0 rfl rfl inlX1 4 (by decide) wf_X1_27 rfl dX1_emptyDeeds_51 ?_
    refine lv_iload_n hF.x hF.b dX1_emptyDeeds_54 rfl (lv_at hl 1 rfl) ?_
    refine lv_null hF.x hF.b dX1_emptyDeeds_55 ?_
    refine rx_aast (o := none) 4 12 hF hw (by decide) hok.1 hok.2.1 dX1_emptyDeeds_56 (fun σ2 H locs eσ2 hw => ?_)
    replace hok := hok.2.2 σ2 eσ2
    obtain ⟨x3, ex3⟩ : ∃ z : Int32, z = v1 + 1 := ⟨_, rfl⟩
    replace hok := hok x3 ex3
    refine lv_iinc (v := x3) (lv' := [(1, .int x3), (0, .ref (a.1 13))]) hF.x hF.b dX1_emptyDeeds_57 hl (k := 1) rfl (by rw [ex3]; rfl) (by decide) rfl (fun ls hl => ?_)
    refine lv_goto (tgt := 44) hF.x hF.b dX1_emptyDeeds_60 (by decide) ?_
    exact hK44 σ2 x3 hok hw (lv_sub hl [1, 0] rfl)
def wp_X1_emptyDeeds_23 (σ : SX) (v1 : Int32) (K2 : SX → Int32 → Prop) (K23 : SX → Int32 → Prop) (K44 : SX → Int32 → Prop) (post : SX → Prop) : Prop :=
  (20 ≤ v1 → K44 σ 0) ∧ (¬ 20 ≤ v1 → vp_in v1 20 ∧ (∀ z, none = some z → z < σ.2.2.2.1.1) ∧ ∀ σ2 : SX, σ2 = (σ.1, σ.2.1, va_up σ.2.2.1 3 (va_up (σ.2.2.1 3) v1.toNatClampNeg none), σ.2.2.2) → ∀ x3 : Int32, x3 = v1 + 1 → K23 σ2 x3)
set_option maxHeartbeats 4000000 in
set_option maxRecDepth 100000 in
theorem k_X1_emptyDeeds_23 {l : Launch} {p : Program} {e : Env} {s : State} {m : MethodId} {below : List Frame} {meth : Method} {c : Code} {args : Array Value} {A : Nat → Prop} {G : Gm} {a : AX}  (hF : fx p s m args meth c cX1_emptyDeeds 2 yX1_emptyDeeds.cls kX1_emptyDeeds none) {post : SX → Prop} {K2 : SX → Int32 → Prop} {K23 : SX → Int32 → Prop} {K44 : SX → Int32 → Prop} (hK2 : ∀ (σ : SX) (v1 : Int32) {H : Heap} {locs : List Loc} {ls : Array Slot}, K2 σ v1 → wb G A s (wX G a σ) H locs → lv_has ls 2 [(0, .ref (a.1 13)), (1, .int v1)] → W p l e (rr 0 0) s m args below meth c H locs 0 0 (MQ below (va_Qv post (po G A (wX G a)) A) args s 0 0 A) (F0 m 2 ls [])) (hK23 : ∀ (σ : SX) (v1 : Int32) {H : Heap} {locs : List Loc} {ls : Array Slot}, K23 σ v1 → wb G A s (wX G a σ) H locs → lv_has ls 2 [(0, .ref (a.1 13)), (1, .int v1)] → W p l e (rr 0 0) s m args below meth c H locs 0 0 (MQ below (va_Qv post (po G A (wX G a)) A) args s 0 0 A) (F0 m 23 ls [])) (hK44 : ∀ (σ : SX) (v1 : Int32) {H : Heap} {locs : List Loc} {ls : Array Slot}, K44 σ v1 → wb G A s (wX G a σ) H locs → lv_has ls 2 [(0, .ref (a.1 13)), (1, .int v1)] → W p l e (rr 0 0) s m args below meth c H locs 0 0 (MQ below (va_Qv post (po G A (wX G a)) A) args s 0 0 A) (F0 m 44 ls [])) (σ : SX) (v1 : Int32) {H : Heap} {locs : List Loc} {ls : Array Slot} (hw : wb G A s (wX G a σ) H locs) (hl : lv_has ls 2 [(0, .ref (a.1 13)), (1, .int v1)]) (hok : wp_X1_emptyDeeds_23 σ v1 K2 K23 K44 post) :
    W p l e (rr 0 0) s m args below meth c H locs 0 0 (MQ below (va_Qv post (po G A (wX G a)) A) args s 0 0 A) (F0 m 23 ls []) := by
  unfold wp_X1_emptyDeeds_23 at hok
  refine lv_iload_n hF.x hF.b dX1_emptyDeeds_23 rfl (lv_at hl 1 rfl) ?_
  refine lv_bipush (v := 20) hF.x hF.b dX1_emptyDeeds_24 (by decide) ?_
  refine lv_icmp_ge (tgt := 42) hF.x hF.b dX1_emptyDeeds_26 (by decide) (fun c1 => ?_) (fun c1 => ?_)
  · replace hok := hok.1 c1
    refine lv_iconst (v := 0) hF.x hF.b dX1_emptyDeeds_42 (by decide) ?_
    refine lv_istore_n (lv' := [(1, .int 0), (0, .ref (a.1 13))]) hF.x hF.b dX1_emptyDeeds_43 rfl hl (by decide) rfl (fun ls hl => ?_)
    exact hK44 σ 0 hok hw (lv_sub hl [1, 0] rfl)
  · replace hok := hok.2 c1
    refine lv_aload_n hF.x hF.b dX1_emptyDeeds_29 rfl (lv_at hl 0 rfl) ?_
    refine r_get hF hw 0 rfl rfl inlX1 3 (by decide) wf_X1_24 rfl dX1_emptyDeeds_30 ?_
    refine lv_iload_n hF.x hF.b dX1_emptyDeeds_33 rfl (lv_at hl 1 rfl) ?_
    refine lv_null hF.x hF.b dX1_emptyDeeds_34 ?_
    refine rx_aast (o := none) 3 20 hF hw (by decide) hok.1 hok.2.1 dX1_emptyDeeds_35 (fun σ2 H locs eσ2 hw => ?_)
    replace hok := hok.2.2 σ2 eσ2
    obtain ⟨x3, ex3⟩ : ∃ z : Int32, z = v1 + 1 := ⟨_, rfl⟩
    replace hok := hok x3 ex3
    refine lv_iinc (v := x3) (lv' := [(1, .int x3), (0, .ref (a.1 13))]) hF.x hF.b dX1_emptyDeeds_36 hl (k := 1) rfl (by rw [ex3]; rfl) (by decide) rfl (fun ls hl => ?_)
    refine lv_goto (tgt := 23) hF.x hF.b dX1_emptyDeeds_39 (by decide) ?_
    exact hK23 σ2 x3 hok hw (lv_sub hl [1, 0] rfl)
def wp_X1_emptyDeeds_2 (σ : SX) (v1 : Int32) (K2 : SX → Int32 → Prop) (K23 : SX → Int32 → Prop) (K44 : SX → Int32 → Prop) (post : SX → Prop) : Prop :=
  (20 ≤ v1 → K23 σ 0) ∧ (¬ 20 ≤ v1 → vp_in v1 20 ∧ (∀ z, none = some z → z < σ.2.2.2.1.1) ∧ ∀ σ2 : SX, σ2 = (σ.1, σ.2.1, va_up σ.2.2.1 2 (va_up (σ.2.2.1 2) v1.toNatClampNeg none), σ.2.2.2) → ∀ x3 : Int32, x3 = v1 + 1 → K2 σ2 x3)
set_option maxHeartbeats 4000000 in
set_option maxRecDepth 100000 in
theorem k_X1_emptyDeeds_2 {l : Launch} {p : Program} {e : Env} {s : State} {m : MethodId} {below : List Frame} {meth : Method} {c : Code} {args : Array Value} {A : Nat → Prop} {G : Gm} {a : AX}  (hF : fx p s m args meth c cX1_emptyDeeds 2 yX1_emptyDeeds.cls kX1_emptyDeeds none) {post : SX → Prop} {K2 : SX → Int32 → Prop} {K23 : SX → Int32 → Prop} {K44 : SX → Int32 → Prop} (hK2 : ∀ (σ : SX) (v1 : Int32) {H : Heap} {locs : List Loc} {ls : Array Slot}, K2 σ v1 → wb G A s (wX G a σ) H locs → lv_has ls 2 [(0, .ref (a.1 13)), (1, .int v1)] → W p l e (rr 0 0) s m args below meth c H locs 0 0 (MQ below (va_Qv post (po G A (wX G a)) A) args s 0 0 A) (F0 m 2 ls [])) (hK23 : ∀ (σ : SX) (v1 : Int32) {H : Heap} {locs : List Loc} {ls : Array Slot}, K23 σ v1 → wb G A s (wX G a σ) H locs → lv_has ls 2 [(0, .ref (a.1 13)), (1, .int v1)] → W p l e (rr 0 0) s m args below meth c H locs 0 0 (MQ below (va_Qv post (po G A (wX G a)) A) args s 0 0 A) (F0 m 23 ls [])) (hK44 : ∀ (σ : SX) (v1 : Int32) {H : Heap} {locs : List Loc} {ls : Array Slot}, K44 σ v1 → wb G A s (wX G a σ) H locs → lv_has ls 2 [(0, .ref (a.1 13)), (1, .int v1)] → W p l e (rr 0 0) s m args below meth c H locs 0 0 (MQ below (va_Qv post (po G A (wX G a)) A) args s 0 0 A) (F0 m 44 ls [])) (σ : SX) (v1 : Int32) {H : Heap} {locs : List Loc} {ls : Array Slot} (hw : wb G A s (wX G a σ) H locs) (hl : lv_has ls 2 [(0, .ref (a.1 13)), (1, .int v1)]) (hok : wp_X1_emptyDeeds_2 σ v1 K2 K23 K44 post) :
    W p l e (rr 0 0) s m args below meth c H locs 0 0 (MQ below (va_Qv post (po G A (wX G a)) A) args s 0 0 A) (F0 m 2 ls []) := by
  unfold wp_X1_emptyDeeds_2 at hok
  refine lv_iload_n hF.x hF.b dX1_emptyDeeds_2 rfl (lv_at hl 1 rfl) ?_
  refine lv_bipush (v := 20) hF.x hF.b dX1_emptyDeeds_3 (by decide) ?_
  refine lv_icmp_ge (tgt := 21) hF.x hF.b dX1_emptyDeeds_5 (by decide) (fun c1 => ?_) (fun c1 => ?_)
  · replace hok := hok.1 c1
    refine lv_iconst (v := 0) hF.x hF.b dX1_emptyDeeds_21 (by decide) ?_
    refine lv_istore_n (lv' := [(1, .int 0), (0, .ref (a.1 13))]) hF.x hF.b dX1_emptyDeeds_22 rfl hl (by decide) rfl (fun ls hl => ?_)
    exact hK23 σ 0 hok hw (lv_sub hl [1, 0] rfl)
  · replace hok := hok.2 c1
    refine lv_aload_n hF.x hF.b dX1_emptyDeeds_8 rfl (lv_at hl 0 rfl) ?_
    refine r_get hF hw 0 rfl rfl inlX1 2 (by decide) wf_X1_20 rfl dX1_emptyDeeds_9 ?_
    refine lv_iload_n hF.x hF.b dX1_emptyDeeds_12 rfl (lv_at hl 1 rfl) ?_
    refine lv_null hF.x hF.b dX1_emptyDeeds_13 ?_
    refine rx_aast (o := none) 2 20 hF hw (by decide) hok.1 hok.2.1 dX1_emptyDeeds_14 (fun σ2 H locs eσ2 hw => ?_)
    replace hok := hok.2.2 σ2 eσ2
    obtain ⟨x3, ex3⟩ : ∃ z : Int32, z = v1 + 1 := ⟨_, rfl⟩
    replace hok := hok x3 ex3
    refine lv_iinc (v := x3) (lv' := [(1, .int x3), (0, .ref (a.1 13))]) hF.x hF.b dX1_emptyDeeds_15 hl (k := 1) rfl (by rw [ex3]; rfl) (by decide) rfl (fun ls hl => ?_)
    refine lv_goto (tgt := 2) hF.x hF.b dX1_emptyDeeds_18 (by decide) ?_
    exact hK2 σ2 x3 hok hw (lv_sub hl [1, 0] rfl)
def wp_X1_emptyDeeds_0 (σ : SX)  (K2 : SX → Int32 → Prop) (K23 : SX → Int32 → Prop) (K44 : SX → Int32 → Prop) (post : SX → Prop) : Prop :=
  K2 σ 0
set_option maxHeartbeats 4000000 in
set_option maxRecDepth 100000 in
theorem k_X1_emptyDeeds_0 {l : Launch} {p : Program} {e : Env} {s : State} {m : MethodId} {below : List Frame} {meth : Method} {c : Code} {args : Array Value} {A : Nat → Prop} {G : Gm} {a : AX}  (hF : fx p s m args meth c cX1_emptyDeeds 2 yX1_emptyDeeds.cls kX1_emptyDeeds none) {post : SX → Prop} {K2 : SX → Int32 → Prop} {K23 : SX → Int32 → Prop} {K44 : SX → Int32 → Prop} (hK2 : ∀ (σ : SX) (v1 : Int32) {H : Heap} {locs : List Loc} {ls : Array Slot}, K2 σ v1 → wb G A s (wX G a σ) H locs → lv_has ls 2 [(0, .ref (a.1 13)), (1, .int v1)] → W p l e (rr 0 0) s m args below meth c H locs 0 0 (MQ below (va_Qv post (po G A (wX G a)) A) args s 0 0 A) (F0 m 2 ls [])) (hK23 : ∀ (σ : SX) (v1 : Int32) {H : Heap} {locs : List Loc} {ls : Array Slot}, K23 σ v1 → wb G A s (wX G a σ) H locs → lv_has ls 2 [(0, .ref (a.1 13)), (1, .int v1)] → W p l e (rr 0 0) s m args below meth c H locs 0 0 (MQ below (va_Qv post (po G A (wX G a)) A) args s 0 0 A) (F0 m 23 ls [])) (hK44 : ∀ (σ : SX) (v1 : Int32) {H : Heap} {locs : List Loc} {ls : Array Slot}, K44 σ v1 → wb G A s (wX G a σ) H locs → lv_has ls 2 [(0, .ref (a.1 13)), (1, .int v1)] → W p l e (rr 0 0) s m args below meth c H locs 0 0 (MQ below (va_Qv post (po G A (wX G a)) A) args s 0 0 A) (F0 m 44 ls [])) (σ : SX)  {H : Heap} {locs : List Loc} {ls : Array Slot} (hw : wb G A s (wX G a σ) H locs) (hl : lv_has ls 2 [(0, .ref (a.1 13))]) (hok : wp_X1_emptyDeeds_0 σ  K2 K23 K44 post) :
    W p l e (rr 0 0) s m args below meth c H locs 0 0 (MQ below (va_Qv post (po G A (wX G a)) A) args s 0 0 A) (F0 m 0 ls []) := by
  unfold wp_X1_emptyDeeds_0 at hok
  refine lv_iconst (v := 0) hF.x hF.b dX1_emptyDeeds_0 (by decide) ?_
  refine lv_istore_n (lv' := [(1, .int 0), (0, .ref (a.1 13))]) hF.x hF.b dX1_emptyDeeds_1 rfl hl (by decide) rfl (fun ls hl => ?_)
  exact hK2 σ 0 hok hw (lv_sub hl [1, 0] rfl)

theorem lp_X1_emptyDeeds_2 {l : Launch} {p : Program} {e : Env} {s : State} {m : MethodId} {below : List Frame} {meth : Method} {c : Code} {args : Array Value} {A : Nat → Prop} {G : Gm} {a : AX}  (hF : fx p s m args meth c cX1_emptyDeeds 2 yX1_emptyDeeds.cls kX1_emptyDeeds none) {post : SX → Prop} {K23 : SX → Int32 → Prop} {K44 : SX → Int32 → Prop} (hK23 : ∀ (σ : SX) (v1 : Int32) {H : Heap} {locs : List Loc} {ls : Array Slot}, K23 σ v1 → wb G A s (wX G a σ) H locs → lv_has ls 2 [(0, .ref (a.1 13)), (1, .int v1)] → W p l e (rr 0 0) s m args below meth c H locs 0 0 (MQ below (va_Qv post (po G A (wX G a)) A) args s 0 0 A) (F0 m 23 ls [])) (hK44 : ∀ (σ : SX) (v1 : Int32) {H : Heap} {locs : List Loc} {ls : Array Slot}, K44 σ v1 → wb G A s (wX G a σ) H locs → lv_has ls 2 [(0, .ref (a.1 13)), (1, .int v1)] → W p l e (rr 0 0) s m args below meth c H locs 0 0 (MQ below (va_Qv post (po G A (wX G a)) A) args s 0 0 A) (F0 m 44 ls [])) (Inv : Nat → SX → Int32 → Prop) (hstep : ∀ (n : Nat) (σ : SX) (v1 : Int32), Inv n σ v1 → wp_X1_emptyDeeds_2 σ v1 (fun σq v1' => ∃ nq, nq < n ∧ Inv nq σq v1') K23 K44 post) :
    ∀ (n : Nat) (σ : SX) (v1 : Int32) {H : Heap} {locs : List Loc} {ls : Array Slot}, Inv n σ v1 → wb G A s (wX G a σ) H locs → lv_has ls 2 [(0, .ref (a.1 13)), (1, .int v1)] → W p l e (rr 0 0) s m args below meth c H locs 0 0 (MQ below (va_Qv post (po G A (wX G a)) A) args s 0 0 A) (F0 m 2 ls []) := by
  intro n
  induction n using Nat.strongRecOn with
  | _ n ih =>
    intro σ v1 H locs ls hI hw hl
    exact k_X1_emptyDeeds_2  hF (post := post) (K2 := fun σq v1' => ∃ nq, nq < n ∧ Inv nq σq v1') (K23 := K23) (K44 := K44) (by intro σq v1' H locs ls hI hw hl; exact ih hI.choose hI.choose_spec.1 σq v1' hI.choose_spec.2 hw hl) hK23 hK44 σ v1 hw hl (hstep n σ v1 hI)

theorem lp_X1_emptyDeeds_23 {l : Launch} {p : Program} {e : Env} {s : State} {m : MethodId} {below : List Frame} {meth : Method} {c : Code} {args : Array Value} {A : Nat → Prop} {G : Gm} {a : AX}  (hF : fx p s m args meth c cX1_emptyDeeds 2 yX1_emptyDeeds.cls kX1_emptyDeeds none) {post : SX → Prop} {K2 : SX → Int32 → Prop} {K44 : SX → Int32 → Prop} (hK2 : ∀ (σ : SX) (v1 : Int32) {H : Heap} {locs : List Loc} {ls : Array Slot}, K2 σ v1 → wb G A s (wX G a σ) H locs → lv_has ls 2 [(0, .ref (a.1 13)), (1, .int v1)] → W p l e (rr 0 0) s m args below meth c H locs 0 0 (MQ below (va_Qv post (po G A (wX G a)) A) args s 0 0 A) (F0 m 2 ls [])) (hK44 : ∀ (σ : SX) (v1 : Int32) {H : Heap} {locs : List Loc} {ls : Array Slot}, K44 σ v1 → wb G A s (wX G a σ) H locs → lv_has ls 2 [(0, .ref (a.1 13)), (1, .int v1)] → W p l e (rr 0 0) s m args below meth c H locs 0 0 (MQ below (va_Qv post (po G A (wX G a)) A) args s 0 0 A) (F0 m 44 ls [])) (Inv : Nat → SX → Int32 → Prop) (hstep : ∀ (n : Nat) (σ : SX) (v1 : Int32), Inv n σ v1 → wp_X1_emptyDeeds_23 σ v1 K2 (fun σq v1' => ∃ nq, nq < n ∧ Inv nq σq v1') K44 post) :
    ∀ (n : Nat) (σ : SX) (v1 : Int32) {H : Heap} {locs : List Loc} {ls : Array Slot}, Inv n σ v1 → wb G A s (wX G a σ) H locs → lv_has ls 2 [(0, .ref (a.1 13)), (1, .int v1)] → W p l e (rr 0 0) s m args below meth c H locs 0 0 (MQ below (va_Qv post (po G A (wX G a)) A) args s 0 0 A) (F0 m 23 ls []) := by
  intro n
  induction n using Nat.strongRecOn with
  | _ n ih =>
    intro σ v1 H locs ls hI hw hl
    exact k_X1_emptyDeeds_23  hF (post := post) (K2 := K2) (K23 := fun σq v1' => ∃ nq, nq < n ∧ Inv nq σq v1') (K44 := K44) hK2 (by intro σq v1' H locs ls hI hw hl; exact ih hI.choose hI.choose_spec.1 σq v1' hI.choose_spec.2 hw hl) hK44 σ v1 hw hl (hstep n σ v1 hI)

theorem lp_X1_emptyDeeds_44 {l : Launch} {p : Program} {e : Env} {s : State} {m : MethodId} {below : List Frame} {meth : Method} {c : Code} {args : Array Value} {A : Nat → Prop} {G : Gm} {a : AX}  (hF : fx p s m args meth c cX1_emptyDeeds 2 yX1_emptyDeeds.cls kX1_emptyDeeds none) {post : SX → Prop} {K2 : SX → Int32 → Prop} {K23 : SX → Int32 → Prop} (hK2 : ∀ (σ : SX) (v1 : Int32) {H : Heap} {locs : List Loc} {ls : Array Slot}, K2 σ v1 → wb G A s (wX G a σ) H locs → lv_has ls 2 [(0, .ref (a.1 13)), (1, .int v1)] → W p l e (rr 0 0) s m args below meth c H locs 0 0 (MQ below (va_Qv post (po G A (wX G a)) A) args s 0 0 A) (F0 m 2 ls [])) (hK23 : ∀ (σ : SX) (v1 : Int32) {H : Heap} {locs : List Loc} {ls : Array Slot}, K23 σ v1 → wb G A s (wX G a σ) H locs → lv_has ls 2 [(0, .ref (a.1 13)), (1, .int v1)] → W p l e (rr 0 0) s m args below meth c H locs 0 0 (MQ below (va_Qv post (po G A (wX G a)) A) args s 0 0 A) (F0 m 23 ls [])) (Inv : Nat → SX → Int32 → Prop) (hstep : ∀ (n : Nat) (σ : SX) (v1 : Int32), Inv n σ v1 → wp_X1_emptyDeeds_44 σ v1 K2 K23 (fun σq v1' => ∃ nq, nq < n ∧ Inv nq σq v1') post) :
    ∀ (n : Nat) (σ : SX) (v1 : Int32) {H : Heap} {locs : List Loc} {ls : Array Slot}, Inv n σ v1 → wb G A s (wX G a σ) H locs → lv_has ls 2 [(0, .ref (a.1 13)), (1, .int v1)] → W p l e (rr 0 0) s m args below meth c H locs 0 0 (MQ below (va_Qv post (po G A (wX G a)) A) args s 0 0 A) (F0 m 44 ls []) := by
  intro n
  induction n using Nat.strongRecOn with
  | _ n ih =>
    intro σ v1 H locs ls hI hw hl
    exact k_X1_emptyDeeds_44  hF (post := post) (K2 := K2) (K23 := K23) (K44 := fun σq v1' => ∃ nq, nq < n ∧ Inv nq σq v1') hK2 hK23 (by intro σq v1' H locs ls hI hw hl; exact ih hI.choose hI.choose_spec.1 σq v1' hI.choose_spec.2 hw hl) σ v1 hw hl (hstep n σ v1 hI)

theorem p1_ed_44 (σ0 : SX) (K2 : SX → Int32 → Prop) (K23 : SX → Int32 → Prop) (post : SX → Prop) (hK : post (sxO σ0 4 (wipe (σ0.2.2.1 4) none 12))) (n : Nat) (σ : SX) (v1 : Int32) (hI : ∃ j : Nat, j + n = 12 ∧ v1 = nI j ∧ σ = sxO σ0 4 (wipe (σ0.2.2.1 4) none j)) :
    wp_X1_emptyDeeds_44 σ v1 K2 K23 (fun σq v1' => ∃ nq, nq < n ∧ ∃ j : Nat, j + nq = 12 ∧ v1' = nI j ∧ σq = sxO σ0 4 (wipe (σ0.2.2.1 4) none j)) post := by
  obtain ⟨j, hj, rfl, rfl⟩ := hI
  refine ⟨fun c => ?_, fun c => ?_⟩
  · rw [show (12 : Int32) = nI 12 from rfl, nI_leI (by decide) (by omega)] at c
    have : j = 12 := by omega
    subst this
    exact hK
  · rw [show (12 : Int32) = nI 12 from rfl, nI_leI (by decide) (by omega)] at c
    refine ⟨vp_in_nI (by omega) (by decide), fun z hz => (by cases hz), fun σ2 e2 x3 e3 => ⟨n - 1, by omega, j + 1, by omega, by rw [e3, nI_1], ?_⟩⟩
    rw [e2, nI_clamp (by omega)]
    simp only [sxO]
    rw [va_up_self, wipe_s, up_up]

theorem p1_ed_23 (σ0 : SX) (K2 : SX → Int32 → Prop) (K44 : SX → Int32 → Prop) (post : SX → Prop) (hK : K44 (sxO σ0 3 (wipe (σ0.2.2.1 3) none 20)) 0) (n : Nat) (σ : SX) (v1 : Int32) (hI : ∃ j : Nat, j + n = 20 ∧ v1 = nI j ∧ σ = sxO σ0 3 (wipe (σ0.2.2.1 3) none j)) :
    wp_X1_emptyDeeds_23 σ v1 K2 (fun σq v1' => ∃ nq, nq < n ∧ ∃ j : Nat, j + nq = 20 ∧ v1' = nI j ∧ σq = sxO σ0 3 (wipe (σ0.2.2.1 3) none j)) K44 post := by
  obtain ⟨j, hj, rfl, rfl⟩ := hI
  refine ⟨fun c => ?_, fun c => ?_⟩
  · rw [show (20 : Int32) = nI 20 from rfl, nI_leI (by decide) (by omega)] at c
    have : j = 20 := by omega
    subst this
    exact hK
  · rw [show (20 : Int32) = nI 20 from rfl, nI_leI (by decide) (by omega)] at c
    refine ⟨vp_in_nI (by omega) (by decide), fun z hz => (by cases hz), fun σ2 e2 x3 e3 => ⟨n - 1, by omega, j + 1, by omega, by rw [e3, nI_1], ?_⟩⟩
    rw [e2, nI_clamp (by omega)]
    simp only [sxO]
    rw [va_up_self, wipe_s, up_up]

theorem p1_ed_2 (σ0 : SX) (K23 : SX → Int32 → Prop) (K44 : SX → Int32 → Prop) (post : SX → Prop) (hK : K23 (sxO σ0 2 (wipe (σ0.2.2.1 2) none 20)) 0) (n : Nat) (σ : SX) (v1 : Int32) (hI : ∃ j : Nat, j + n = 20 ∧ v1 = nI j ∧ σ = sxO σ0 2 (wipe (σ0.2.2.1 2) none j)) :
    wp_X1_emptyDeeds_2 σ v1 (fun σq v1' => ∃ nq, nq < n ∧ ∃ j : Nat, j + nq = 20 ∧ v1' = nI j ∧ σq = sxO σ0 2 (wipe (σ0.2.2.1 2) none j)) K23 K44 post := by
  obtain ⟨j, hj, rfl, rfl⟩ := hI
  refine ⟨fun c => ?_, fun c => ?_⟩
  · rw [show (20 : Int32) = nI 20 from rfl, nI_leI (by decide) (by omega)] at c
    have : j = 20 := by omega
    subst this
    exact hK
  · rw [show (20 : Int32) = nI 20 from rfl, nI_leI (by decide) (by omega)] at c
    refine ⟨vp_in_nI (by omega) (by decide), fun z hz => (by cases hz), fun σ2 e2 x3 e3 => ⟨n - 1, by omega, j + 1, by omega, by rw [e3, nI_1], ?_⟩⟩
    rw [e2, nI_clamp (by omega)]
    simp only [sxO]
    rw [va_up_self, wipe_s, up_up]

theorem c1_emptyDeeds (l : Launch) (G : Gm) (a : AX) (σ : SX) (_ : q1_emptyDeeds σ) : ctV l yX1_emptyDeeds cX1_emptyDeeds 2 (rr 0 0) G [.ref (a.1 13)] (wX G a σ) (fun (u : SX) => u = f1_emptyDeeds σ) (wX G a) := by
  refine en_V (by decide +kernel) (Nat.le_of_ble_eq_true rfl) (fun p e s m below meth c A ls hF hn hw hl => ?_)
  obtain ⟨σa, ea⟩ : ∃ z, z = sxO σ 2 (wipe (σ.2.2.1 2) none 20) := ⟨_, rfl⟩
  obtain ⟨σb, eb⟩ : ∃ z, z = sxO σa 3 (wipe (σa.2.2.1 3) none 20) := ⟨_, rfl⟩
  have hfin : sxO σb 4 (wipe (σb.2.2.1 4) none 12) = f1_emptyDeeds σ := by subst eb; subst ea; rfl
  have h44 := lp_X1_emptyDeeds_44 (l := l) (e := e) (below := below) (A := A) (G := G) (a := a) (post := fun u => u = f1_emptyDeeds σ) hF (K2 := fun _ _ => False) (K23 := fun _ _ => False) (fun _ _ _ _ _ h => h.elim) (fun _ _ _ _ _ h => h.elim) _ (p1_ed_44 σb (fun _ _ => False) (fun _ _ => False) _ hfin)
  have h23 := lp_X1_emptyDeeds_23 (l := l) (e := e) (below := below) (A := A) (G := G) (a := a) (post := fun u => u = f1_emptyDeeds σ) hF (K2 := fun _ _ => False) (K44 := fun σq v1' => ∃ nq : Nat, ∃ j : Nat, j + nq = 12 ∧ v1' = nI j ∧ σq = sxO σb 4 (wipe (σb.2.2.1 4) none j)) (fun _ _ _ _ _ h => h.elim) (by
    intro σq v1' H locs ls hI hw hl
    exact h44 hI.choose σq v1' hI.choose_spec hw hl) _ (p1_ed_23 σa (fun _ _ => False) _ _ ⟨12, 0, rfl, rfl, by rw [wipe_0, ← eb]; simp only [sxO]; rw [up_same]⟩)
  have h2 := lp_X1_emptyDeeds_2 (l := l) (e := e) (below := below) (A := A) (G := G) (a := a) (post := fun u => u = f1_emptyDeeds σ) hF (K23 := fun σq v1' => ∃ nq : Nat, ∃ j : Nat, j + nq = 20 ∧ v1' = nI j ∧ σq = sxO σa 3 (wipe (σa.2.2.1 3) none j)) (K44 := fun _ _ => False) (by
    intro σq v1' H locs ls hI hw hl
    exact h23 hI.choose σq v1' hI.choose_spec hw hl) (fun _ _ _ _ _ h => h.elim) _ (p1_ed_2 σ _ (fun _ _ => False) _ ⟨20, 0, rfl, rfl, by rw [wipe_0, ← ea]; simp only [sxO]; rw [up_same]⟩)
  refine k_X1_emptyDeeds_0 hF (K2 := fun σq v1' => ∃ nq : Nat, ∃ j : Nat, j + nq = 20 ∧ v1' = nI j ∧ σq = sxO σ 2 (wipe (σ.2.2.1 2) none j)) (K23 := fun _ _ => False) (K44 := fun _ _ => False) ?_ (fun _ _ _ _ _ h => h.elim) (fun _ _ _ _ _ h => h.elim) σ hw hl ?_
  · intro σq v1' H locs ls hI hw hl
    exact h2 hI.choose σq v1' hI.choose_spec hw hl
  · exact ⟨20, 0, rfl, rfl, by rw [wipe_0]; simp only [sxO]; rw [up_same]⟩

def wp_X1_fill_0 (σ : SX) (v1 : Int32) (v2 : Int32)  (post : Int32 → SX → Prop) : Prop :=
  q1_heldBy σ v1 ∧ ∀ (r1 : Int32) (σ2 : SX), r1 = (f1_heldBy σ v1).1 → σ2 = (f1_heldBy σ v1).2 → q1_pour σ2 v1 v2 ∧ ∀ σ3 : SX, σ3 = (f1_pour σ2 v1 v2) → post r1 σ3
set_option maxHeartbeats 4000000 in
set_option maxRecDepth 100000 in
theorem k_X1_fill_0 {l : Launch} {p : Program} {e : Env} {s : State} {m : MethodId} {below : List Frame} {meth : Method} {c : Code} {args : Array Value} {A : Nat → Prop} {G : Gm} {a : AX}  (hF : fx p s m args meth c cX1_fill 4 yX1_fill.cls kX1_fill (some (.int))) {post : Int32 → SX → Prop}  (σ : SX) (v1 : Int32) (v2 : Int32) {H : Heap} {locs : List Loc} {ls : Array Slot} (hw : wb G A s (wX G a σ) H locs) (hl : lv_has ls 4 [(0, .ref (a.1 13)), (1, .int v1), (2, .int v2)]) (hok : wp_X1_fill_0 σ v1 v2  post) :
    W p l e (rr 2 42) s m args below meth c H locs 0 0 (MQ below (va_Qi post (po G A (wX G a)) A) args s 0 0 A) (F0 m 0 ls []) := by
  unfold wp_X1_fill_0 at hok
  refine lv_aload_n hF.x hF.b dX1_fill_0 rfl (lv_at hl 0 rfl) ?_
  refine lv_iload_n hF.x hF.b dX1_fill_1 rfl (lv_at hl 1 rfl) ?_
  refine ca_I hF hw (c1_heldBy l G a σ v1 hok.1) wv_X1_55 (q0 := 0) rfl rfl rfl ⟨nd_X1.1, nd_X1.2, pd_X1_heldBy⟩ ⟨Nat.le_of_ble_eq_true rfl, Nat.le_of_ble_eq_true rfl⟩ ⟨Nat.zero_le _, Nat.zero_le _⟩ hl.1 rfl (by first | exact Nat.le_of_ble_eq_true rfl | simp [cat_rf, Value.category]) dX1_fill_2 (fun r1 σ2 H locs hp hw => ?_)
  obtain ⟨er1, eσ2⟩ := hp
  replace hok := hok.2 r1 σ2 er1 eσ2
  refine lv_istore_n (lv' := [(3, .int r1), (0, .ref (a.1 13)), (1, .int v1), (2, .int v2)]) hF.x hF.b dX1_fill_5 rfl hl (by decide) rfl (fun ls hl => ?_)
  refine lv_aload_n hF.x hF.b dX1_fill_6 rfl (lv_at hl 1 rfl) ?_
  refine lv_iload_n hF.x hF.b dX1_fill_7 rfl (lv_at hl 2 rfl) ?_
  refine lv_iload_n hF.x hF.b dX1_fill_8 rfl (lv_at hl 3 rfl) ?_
  refine ca_V hF hw (c1_pour l G a σ2 v1 v2 hok.1) wv_X1_59 (q0 := 0) rfl rfl rfl ⟨nd_X1.1, nd_X1.2, pd_X1_pour⟩ ⟨Nat.le_of_ble_eq_true rfl, Nat.le_of_ble_eq_true rfl⟩ ⟨Nat.zero_le _, Nat.zero_le _⟩ hl.1 rfl (by first | exact Nat.le_of_ble_eq_true rfl | simp [cat_rf, Value.category]) dX1_fill_9 (fun σ3 H locs eσ3 hw => ?_)
  replace hok := hok.2 σ3 eσ3
  refine lv_iload_n hF.x hF.b dX1_fill_12 rfl (lv_at hl 0 rfl) ?_
  exact rt_I (u := σ3) hF hw hok (Nat.zero_le _) (Nat.zero_le _) dX1_fill_13

theorem p1_fill (σ : SX) (v1 v2 : Int32) (_ : q1_fill σ v1 v2) : wp_X1_fill_0 σ v1 v2 (fun r u => r = (f1_fill σ v1 v2).1 ∧ u = (f1_fill σ v1 v2).2) := by
  refine ⟨trivial, fun r1 σ2 e1 e2 => ?_⟩
  obtain rfl : σ2 = σ := e2
  exact ⟨trivial, fun σ3 e3 => ⟨e1, e3⟩⟩

theorem c1_fill (l : Launch) (G : Gm) (a : AX) (σ : SX) (v1 : Int32) (v2 : Int32) (h : q1_fill σ v1 v2) : ctI l yX1_fill cX1_fill 4 .int (rr 2 42) G [.ref (a.1 13), .int v1, .int v2] (wX G a σ) (fun (r : Int32) (u : SX) => r = (f1_fill σ v1 v2).1 ∧ u = (f1_fill σ v1 v2).2) (wX G a) := by
  refine en_I (by decide +kernel) (Nat.le_of_ble_eq_true rfl) (fun p e s m below meth c A ls hF hw hl => ?_)
  exact k_X1_fill_0 hF σ v1 v2 hw hl (p1_fill σ v1 v2 h)

def wp_X1_basin_0 (σ : SX) (v1 : Int32)  (post : Int32 → SX → Prop) : Prop :=
  q1_heldBy σ v1 ∧ ∀ (r1 : Int32) (σ2 : SX), r1 = (f1_heldBy σ v1).1 → σ2 = (f1_heldBy σ v1).2 → post r1 σ2
set_option maxHeartbeats 4000000 in
set_option maxRecDepth 100000 in
theorem k_X1_basin_0 {l : Launch} {p : Program} {e : Env} {s : State} {m : MethodId} {below : List Frame} {meth : Method} {c : Code} {args : Array Value} {A : Nat → Prop} {G : Gm} {a : AX}  (hF : fx p s m args meth c cX1_basin 2 yX1_basin.cls kX1_basin (some (.int))) {post : Int32 → SX → Prop}  (σ : SX) (v1 : Int32) {H : Heap} {locs : List Loc} {ls : Array Slot} (hw : wb G A s (wX G a σ) H locs) (hl : lv_has ls 2 [(0, .ref (a.1 13)), (1, .int v1)]) (hok : wp_X1_basin_0 σ v1  post) :
    W p l e (rr 2 41) s m args below meth c H locs 0 0 (MQ below (va_Qi post (po G A (wX G a)) A) args s 0 0 A) (F0 m 0 ls []) := by
  unfold wp_X1_basin_0 at hok
  refine lv_aload_n hF.x hF.b dX1_basin_0 rfl (lv_at hl 0 rfl) ?_
  refine lv_iload_n hF.x hF.b dX1_basin_1 rfl (lv_at hl 1 rfl) ?_
  refine ca_I hF hw (c1_heldBy l G a σ v1 hok.1) wv_X1_55 (q0 := 0) rfl rfl rfl ⟨nd_X1.1, nd_X1.2, pd_X1_heldBy⟩ ⟨Nat.le_of_ble_eq_true rfl, Nat.le_of_ble_eq_true rfl⟩ ⟨Nat.zero_le _, Nat.zero_le _⟩ hl.1 rfl (by first | exact Nat.le_of_ble_eq_true rfl | simp [cat_rf, Value.category]) dX1_basin_2 (fun r1 σ2 H locs hp hw => ?_)
  obtain ⟨er1, eσ2⟩ := hp
  replace hok := hok.2 r1 σ2 er1 eσ2
  exact rt_I (u := σ2) hF hw hok (Nat.zero_le _) (Nat.zero_le _) dX1_basin_5

theorem p1_basin (σ : SX) (v1 : Int32) (_ : q1_basin σ v1) : wp_X1_basin_0 σ v1 (fun r u => r = (f1_basin σ v1).1 ∧ u = (f1_basin σ v1).2) :=
  ⟨trivial, fun r1 σ2 e1 e2 => ⟨e1, e2⟩⟩

theorem c1_basin (l : Launch) (G : Gm) (a : AX) (σ : SX) (v1 : Int32) (h : q1_basin σ v1) : ctI l yX1_basin cX1_basin 2 .int (rr 2 41) G [.ref (a.1 13), .int v1] (wX G a σ) (fun (r : Int32) (u : SX) => r = (f1_basin σ v1).1 ∧ u = (f1_basin σ v1).2) (wX G a) := by
  refine en_I (by decide +kernel) (Nat.le_of_ble_eq_true rfl) (fun p e s m below meth c A ls hF hw hl => ?_)
  exact k_X1_basin_0 hF σ v1 hw hl (p1_basin σ v1 h)

def wp_X1_mark_0 (σ : SX) (v1 : Int32) (v2 : Int32)  (post : Int32 → SX → Prop) : Prop :=
  q1_gaugeNow σ v1 ∧ ∀ (o1 : Option Nat) (σ2 : SX), o1 = (f1_gaugeNow σ v1).1 → σ2 = (f1_gaugeNow σ v1).2 → q1_hasMark σ2 o1 v2 ∧ ∀ (r3 : Int32) (σ4 : SX), r3 = (f1_hasMark σ2 o1 v2).1 → σ4 = (f1_hasMark σ2 o1 v2).2 → (r3 = 0 → post 0 σ4) ∧ (¬ r3 = 0 → ∃ w6 : Nat, o1 = some w6 ∧ w6 < σ4.2.2.2.2.1 ∧ vp_in v2 (σ4.2.2.2.2.2 w6).1 ∧ post ((σ4.2.2.2.2.2 w6).2 v2.toNatClampNeg) σ4)
set_option maxHeartbeats 4000000 in
set_option maxRecDepth 100000 in
theorem k_X1_mark_0 {l : Launch} {p : Program} {e : Env} {s : State} {m : MethodId} {below : List Frame} {meth : Method} {c : Code} {args : Array Value} {A : Nat → Prop} {G : Gm} {a : AX}  (hF : fx p s m args meth c cX1_mark 4 yX1_mark.cls kX1_mark (some (.int))) {post : Int32 → SX → Prop}  (σ : SX) (v1 : Int32) (v2 : Int32) {H : Heap} {locs : List Loc} {ls : Array Slot} (hw : wb G A s (wX G a σ) H locs) (hl : lv_has ls 4 [(0, .ref (a.1 13)), (1, .int v1), (2, .int v2)]) (hok : wp_X1_mark_0 σ v1 v2  post) :
    W p l e (rr 2 41) s m args below meth c H locs 0 0 (MQ below (va_Qi post (po G A (wX G a)) A) args s 0 0 A) (F0 m 0 ls []) := by
  unfold wp_X1_mark_0 at hok
  refine lv_aload_n hF.x hF.b dX1_mark_0 rfl (lv_at hl 0 rfl) ?_
  refine lv_iload_n hF.x hF.b dX1_mark_1 rfl (lv_at hl 1 rfl) ?_
  refine ca_Q hF hw (c1_gaugeNow l G a σ v1 hok.1) wv_X1_67 (q0 := 0) rfl rfl rfl ⟨nd_X1.1, nd_X1.2, pd_X1_gaugeNow⟩ ⟨Nat.le_of_ble_eq_true rfl, Nat.le_of_ble_eq_true rfl⟩ ⟨Nat.zero_le _, Nat.zero_le _⟩ hl.1 rfl (by first | exact Nat.le_of_ble_eq_true rfl | simp [cat_rf, Value.category]) dX1_mark_2 (fun rq σ2 H locs hp hw => ?_)
  obtain ⟨o1, hr, eo1, eσ2⟩ := hp
  subst hr
  replace hok := hok.2 o1 σ2 eo1 eσ2
  refine lq_astore_n (lv' := [(3, va_rf (Option.map a.2.2 o1)), (0, .ref (a.1 13)), (1, .int v1), (2, .int v2)]) hF dX1_mark_5 rfl hl (by decide) (by first | rfl | (simp [cat_rf]; done) | (simp [cat_rf]; decide)) (fun ls hl => ?_)
  refine lq_aload_n hF dX1_mark_6 rfl (lv_at hl 0 rfl) ?_
  refine lv_iload_n hF.x hF.b dX1_mark_7 rfl (lv_at hl 3 rfl) ?_
  refine ca_W hF hw (c1_hasMark l G a σ2 o1 v2 hok.1) wv_X1_71 ⟨rfl, nd_X1.1, nd_X1.2, pd_X1_hasMark⟩ ⟨Nat.le_of_ble_eq_true rfl, Nat.le_of_ble_eq_true rfl⟩ ⟨Nat.zero_le _, Nat.zero_le _⟩ hl.1 rfl (by first | exact Nat.le_of_ble_eq_true rfl | simp [cat_rf, Value.category]) dX1_mark_8 (fun r3 σ4 H locs hp hw => ?_)
  obtain ⟨er3, eσ4⟩ := hp
  replace hok := hok.2 r3 σ4 er3 eσ4
  refine lv_if_eq (tgt := 20) hF.x hF.b dX1_mark_11 (by decide) (fun c5 => ?_) (fun c5 => ?_)
  · replace hok := hok.1 c5
    refine lv_iconst (v := 0) hF.x hF.b dX1_mark_20 (by decide) ?_
    exact rt_I (u := σ4) hF hw hok (Nat.zero_le _) (Nat.zero_le _) dX1_mark_21
  · replace hok := hok.2 c5
    refine lq_aload_n hF dX1_mark_14 rfl (lv_at hl 0 rfl) ?_
    refine lv_iload_n hF.x hF.b dX1_mark_15 rfl (lv_at hl 3 rfl) ?_
    obtain ⟨w6, ew6, hok⟩ := hok
    subst ew6
    have hl : lv_has ls 4 [(3, .ref (a.2.2 w6)), (0, .ref (a.1 13)), (1, .int v1), (2, .int v2)] := hl
    refine rx_rald hF hw hok.1 hok.2.1 dX1_mark_16 ?_
    replace hok := hok.2.2
    refine lv_goto (tgt := 21) hF.x hF.b dX1_mark_17 (by decide) ?_
    exact rt_I (u := σ4) hF hw hok (Nat.zero_le _) (Nat.zero_le _) dX1_mark_21

theorem okG {σ : SX} (h : WFX σ) (g : Int32) : ∀ r, (f1_gaugeNow σ g).1 = some r → r < σ.2.2.2.2.1 := by
  intro r hr
  simp only [f1_gaugeNow] at hr
  split at hr
  · cases hr
  · exact h.2.1 _ r hr
theorem p1_mark (σ : SX) (v1 v2 : Int32) (h : q1_mark σ v1 v2) : wp_X1_mark_0 σ v1 v2 (fun r u => r = (f1_mark σ v1 v2).1 ∧ u = (f1_mark σ v1 v2).2) := by
  refine ⟨trivial, fun o1 σ2 e1 e2 => ?_⟩
  obtain rfl : σ2 = σ := e2
  refine ⟨fun r hr => okG h v1 r (by rw [← e1]; exact hr), fun r3 σ4 e3 e4 => ?_⟩
  obtain rfl : σ4 = σ2 := e4
  subst e3
  refine ⟨fun c => ⟨?_, rfl⟩, fun c => ?_⟩
  · simp only [f1_mark]
    rw [← e1]
    cases o1 with
    | none => rfl
    | some r => dsimp only; rw [if_pos c]
  · cases o1 with
    | none => exact absurd rfl c
    | some r =>
      refine ⟨r, rfl, okG h v1 r e1.symm, hasMark_in c (h.2.2.2.1 r), ?_, rfl⟩
      simp only [f1_mark]
      rw [← e1]
      dsimp only
      rw [if_neg c]

theorem c1_mark (l : Launch) (G : Gm) (a : AX) (σ : SX) (v1 : Int32) (v2 : Int32) (h : q1_mark σ v1 v2) : ctI l yX1_mark cX1_mark 4 .int (rr 2 41) G [.ref (a.1 13), .int v1, .int v2] (wX G a σ) (fun (r : Int32) (u : SX) => r = (f1_mark σ v1 v2).1 ∧ u = (f1_mark σ v1 v2).2) (wX G a) := by
  refine en_I (by decide +kernel) (Nat.le_of_ble_eq_true rfl) (fun p e s m below meth c A ls hF hw hl => ?_)
  exact k_X1_mark_0 hF σ v1 v2 hw hl (p1_mark σ v1 v2 h)

def wp_X1_copy_0 (σ : SX) (v1 : Int32) (v2 : Int32)  (post : Int32 → SX → Prop) : Prop :=
  ∀ r1 : Int32, r1 = f1_isSlot v1 → (r1 = 0 → post ((-1)) σ) ∧ (¬ r1 = 0 → ∀ r3 : Int32, r3 = f1_isSlot v2 → (¬ r3 = 0 → vp_in v1 20 ∧ ∀ o5 : Option Nat, o5 = σ.2.2.1 2 v1.toNatClampNeg → (o5 = none → post ((-2)) σ) ∧ (∀ d6 : Nat, o5 = some d6 → vp_in v1 20 ∧ ∀ o7 : Option Nat, o7 = σ.2.2.1 2 v1.toNatClampNeg → vp_in v2 20 ∧ (∀ z, o7 = some z → z < σ.2.2.2.1.1) ∧ ∀ σ8 : SX, σ8 = (σ.1, σ.2.1, va_up σ.2.2.1 2 (va_up (σ.2.2.1 2) v2.toNatClampNeg o7), σ.2.2.2) → post 1 σ8)) ∧ (r3 = 0 → post ((-1)) σ))
set_option maxHeartbeats 4000000 in
set_option maxRecDepth 100000 in
theorem k_X1_copy_0 {l : Launch} {p : Program} {e : Env} {s : State} {m : MethodId} {below : List Frame} {meth : Method} {c : Code} {args : Array Value} {A : Nat → Prop} {G : Gm} {a : AX}  (hF : fx p s m args meth c cX1_copy 3 yX1_copy.cls kX1_copy (some (.int))) {post : Int32 → SX → Prop}  (σ : SX) (v1 : Int32) (v2 : Int32) {H : Heap} {locs : List Loc} {ls : Array Slot} (hw : wb G A s (wX G a σ) H locs) (hl : lv_has ls 3 [(0, .ref (a.1 13)), (1, .int v1), (2, .int v2)]) (hok : wp_X1_copy_0 σ v1 v2  post) :
    W p l e (rr 1 20) s m args below meth c H locs 0 0 (MQ below (va_Qi post (po G A (wX G a)) A) args s 0 0 A) (F0 m 0 ls []) := by
  unfold wp_X1_copy_0 at hok
  refine lv_iload_n hF.x hF.b dX1_copy_0 rfl (lv_at hl 1 rfl) ?_
  refine ca_S hF (c1_isSlot l v1) wv_X1_75 ⟨rfl, nd_X1.1, nd_X1.2, pd_X1_isSlot⟩ ⟨rfl, rfl⟩ ⟨Nat.le_of_ble_eq_true rfl, Nat.le_of_ble_eq_true rfl⟩ ⟨Nat.zero_le _, Nat.zero_le _⟩ hl.1 rfl (by first | exact Nat.le_of_ble_eq_true rfl | simp [cat_rf, Value.category]) dX1_copy_1 (fun r1 er1 => ?_)
  replace hok := hok r1 er1
  refine lv_if_eq (tgt := 14) hF.x hF.b dX1_copy_4 (by decide) (fun c2 => ?_) (fun c2 => ?_)
  · replace hok := hok.1 c2
    refine lv_iconst (v := (-1)) hF.x hF.b dX1_copy_14 (by decide) ?_
    exact rt_I (u := σ) hF hw hok (Nat.zero_le _) (Nat.zero_le _) dX1_copy_15
  · replace hok := hok.2 c2
    refine lv_iload_n hF.x hF.b dX1_copy_7 rfl (lv_at hl 2 rfl) ?_
    refine ca_S hF (c1_isSlot l v2) wv_X1_75 ⟨rfl, nd_X1.1, nd_X1.2, pd_X1_isSlot⟩ ⟨rfl, rfl⟩ ⟨Nat.le_of_ble_eq_true rfl, Nat.le_of_ble_eq_true rfl⟩ ⟨Nat.zero_le _, Nat.zero_le _⟩ hl.1 rfl (by first | exact Nat.le_of_ble_eq_true rfl | simp [cat_rf, Value.category]) dX1_copy_8 (fun r3 er3 => ?_)
    replace hok := hok r3 er3
    refine lv_if_ne (tgt := 16) hF.x hF.b dX1_copy_11 (by decide) (fun c4 => ?_) (fun c4 => ?_)
    · replace hok := hok.1 c4
      refine lv_aload_n hF.x hF.b dX1_copy_16 rfl (lv_at hl 0 rfl) ?_
      refine r_get hF hw 0 rfl rfl inlX1 2 (by decide) wf_X1_20 rfl dX1_copy_17 ?_
      refine lv_iload_n hF.x hF.b dX1_copy_20 rfl (lv_at hl 1 rfl) ?_
      refine rx_aald 2 20 hF hw (by decide) hok.1 dX1_copy_21 (fun o5 eo5 => ?_)
      replace hok := hok.2 o5 eo5
      refine lm_ifnonnull (o := o5) (tgt := 28) hF dX1_copy_22 (by decide) (fun d6 ed6 => ?_) (fun ed6 => ?_)
      · replace hok := hok.2 d6 ed6
        subst ed6
        have hl : lv_has ls 3 [(0, .ref (a.1 13)), (1, .int v1), (2, .int v2)] := hl
        refine lv_aload_n hF.x hF.b dX1_copy_28 rfl (lv_at hl 0 rfl) ?_
        refine r_get hF hw 0 rfl rfl inlX1 2 (by decide) wf_X1_20 rfl dX1_copy_29 ?_
        refine lv_iload_n hF.x hF.b dX1_copy_32 rfl (lv_at hl 2 rfl) ?_
        refine lv_aload_n hF.x hF.b dX1_copy_33 rfl (lv_at hl 0 rfl) ?_
        refine r_get hF hw 0 rfl rfl inlX1 2 (by decide) wf_X1_20 rfl dX1_copy_34 ?_
        refine lv_iload_n hF.x hF.b dX1_copy_37 rfl (lv_at hl 1 rfl) ?_
        refine rx_aald 2 20 hF hw (by decide) hok.1 dX1_copy_38 (fun o7 eo7 => ?_)
        replace hok := hok.2 o7 eo7
        refine rx_aast (o := o7) 2 20 hF hw (by decide) hok.1 hok.2.1 dX1_copy_39 (fun σ8 H locs eσ8 hw => ?_)
        replace hok := hok.2.2 σ8 eσ8
        refine lv_iconst (v := 1) hF.x hF.b dX1_copy_40 (by decide) ?_
        exact rt_I (u := σ8) hF hw hok (Nat.zero_le _) (Nat.zero_le _) dX1_copy_41
      · replace hok := hok.1 ed6
        subst ed6
        have hl : lv_has ls 3 [(0, .ref (a.1 13)), (1, .int v1), (2, .int v2)] := hl
        refine lv_bipush (v := (-2)) hF.x hF.b dX1_copy_25 (by decide) ?_
        exact rt_I (u := σ) hF hw hok (Nat.zero_le _) (Nat.zero_le _) dX1_copy_27
    · replace hok := hok.2 c4
      refine lv_iconst (v := (-1)) hF.x hF.b dX1_copy_14 (by decide) ?_
      exact rt_I (u := σ) hF hw hok (Nat.zero_le _) (Nat.zero_le _) dX1_copy_15

theorem p1_copy (σ : SX) (v1 v2 : Int32) (h : q1_copy σ v1 v2) : wp_X1_copy_0 σ v1 v2 (fun r u => r = (f1_copy σ v1 v2).1 ∧ u = (f1_copy σ v1 v2).2) := by
  intro r1 e1; subst e1
  refine ⟨fun c => ?_, fun c r3 e3 => ?_⟩
  · simp only [f1_copy]; rw [if_pos c]; exact ⟨rfl, rfl⟩
  · subst e3
    refine ⟨fun c2 => ⟨in_S c, fun o5 e5 => ⟨fun e => ?_, fun d e => ⟨in_S c, fun o7 e7 => ⟨in_S c2, fun z hz => h.1 2 _ z (Or.inl rfl) (by rw [← e7]; exact hz), fun σ8 e8 => ?_⟩⟩⟩⟩, fun c2 => ?_⟩
    · simp only [f1_copy]; rw [if_neg c, if_neg c2, ← e5, e]; exact ⟨rfl, rfl⟩
    · have e7' : o7 = some d := by rw [e7, ← e5, e]
      subst e8
      simp only [f1_copy]; rw [if_neg c, if_neg c2, ← e5, e, e7']; exact ⟨rfl, rfl⟩
    · simp only [f1_copy]; rw [if_neg c, if_pos c2]; exact ⟨rfl, rfl⟩

theorem c1_copy (l : Launch) (G : Gm) (a : AX) (σ : SX) (v1 : Int32) (v2 : Int32) (h : q1_copy σ v1 v2) : ctI l yX1_copy cX1_copy 3 .int (rr 1 20) G [.ref (a.1 13), .int v1, .int v2] (wX G a σ) (fun (r : Int32) (u : SX) => r = (f1_copy σ v1 v2).1 ∧ u = (f1_copy σ v1 v2).2) (wX G a) := by
  refine en_I (by decide +kernel) (Nat.le_of_ble_eq_true rfl) (fun p e s m below meth c A ls hF hw hl => ?_)
  exact k_X1_copy_0 hF σ v1 v2 hw hl (p1_copy σ v1 v2 h)

def wp_X1_drop_0 (σ : SX) (v1 : Int32)  (post : Int32 → SX → Prop) : Prop :=
  ∀ r1 : Int32, r1 = f1_isSlot v1 → (¬ r1 = 0 → vp_in v1 20 ∧ ∀ o3 : Option Nat, o3 = σ.2.2.1 2 v1.toNatClampNeg → (o3 = none → post ((-2)) σ) ∧ (∀ d4 : Nat, o3 = some d4 → vp_in v1 20 ∧ (∀ z, none = some z → z < σ.2.2.2.1.1) ∧ ∀ σ5 : SX, σ5 = (σ.1, σ.2.1, va_up σ.2.2.1 2 (va_up (σ.2.2.1 2) v1.toNatClampNeg none), σ.2.2.2) → post 1 σ5)) ∧ (r1 = 0 → post ((-1)) σ)
set_option maxHeartbeats 4000000 in
set_option maxRecDepth 100000 in
theorem k_X1_drop_0 {l : Launch} {p : Program} {e : Env} {s : State} {m : MethodId} {below : List Frame} {meth : Method} {c : Code} {args : Array Value} {A : Nat → Prop} {G : Gm} {a : AX}  (hF : fx p s m args meth c cX1_drop 2 yX1_drop.cls kX1_drop (some (.int))) {post : Int32 → SX → Prop}  (σ : SX) (v1 : Int32) {H : Heap} {locs : List Loc} {ls : Array Slot} (hw : wb G A s (wX G a σ) H locs) (hl : lv_has ls 2 [(0, .ref (a.1 13)), (1, .int v1)]) (hok : wp_X1_drop_0 σ v1  post) :
    W p l e (rr 1 20) s m args below meth c H locs 0 0 (MQ below (va_Qi post (po G A (wX G a)) A) args s 0 0 A) (F0 m 0 ls []) := by
  unfold wp_X1_drop_0 at hok
  refine lv_iload_n hF.x hF.b dX1_drop_0 rfl (lv_at hl 1 rfl) ?_
  refine ca_S hF (c1_isSlot l v1) wv_X1_75 ⟨rfl, nd_X1.1, nd_X1.2, pd_X1_isSlot⟩ ⟨rfl, rfl⟩ ⟨Nat.le_of_ble_eq_true rfl, Nat.le_of_ble_eq_true rfl⟩ ⟨Nat.zero_le _, Nat.zero_le _⟩ hl.1 rfl (by first | exact Nat.le_of_ble_eq_true rfl | simp [cat_rf, Value.category]) dX1_drop_1 (fun r1 er1 => ?_)
  replace hok := hok r1 er1
  refine lv_if_ne (tgt := 9) hF.x hF.b dX1_drop_4 (by decide) (fun c2 => ?_) (fun c2 => ?_)
  · replace hok := hok.1 c2
    refine lv_aload_n hF.x hF.b dX1_drop_9 rfl (lv_at hl 0 rfl) ?_
    refine r_get hF hw 0 rfl rfl inlX1 2 (by decide) wf_X1_20 rfl dX1_drop_10 ?_
    refine lv_iload_n hF.x hF.b dX1_drop_13 rfl (lv_at hl 1 rfl) ?_
    refine rx_aald 2 20 hF hw (by decide) hok.1 dX1_drop_14 (fun o3 eo3 => ?_)
    replace hok := hok.2 o3 eo3
    refine lm_ifnonnull (o := o3) (tgt := 21) hF dX1_drop_15 (by decide) (fun d4 ed4 => ?_) (fun ed4 => ?_)
    · replace hok := hok.2 d4 ed4
      subst ed4
      have hl : lv_has ls 2 [(0, .ref (a.1 13)), (1, .int v1)] := hl
      refine lv_aload_n hF.x hF.b dX1_drop_21 rfl (lv_at hl 0 rfl) ?_
      refine r_get hF hw 0 rfl rfl inlX1 2 (by decide) wf_X1_20 rfl dX1_drop_22 ?_
      refine lv_iload_n hF.x hF.b dX1_drop_25 rfl (lv_at hl 1 rfl) ?_
      refine lv_null hF.x hF.b dX1_drop_26 ?_
      refine rx_aast (o := none) 2 20 hF hw (by decide) hok.1 hok.2.1 dX1_drop_27 (fun σ5 H locs eσ5 hw => ?_)
      replace hok := hok.2.2 σ5 eσ5
      refine lv_iconst (v := 1) hF.x hF.b dX1_drop_28 (by decide) ?_
      exact rt_I (u := σ5) hF hw hok (Nat.zero_le _) (Nat.zero_le _) dX1_drop_29
    · replace hok := hok.1 ed4
      subst ed4
      have hl : lv_has ls 2 [(0, .ref (a.1 13)), (1, .int v1)] := hl
      refine lv_bipush (v := (-2)) hF.x hF.b dX1_drop_18 (by decide) ?_
      exact rt_I (u := σ) hF hw hok (Nat.zero_le _) (Nat.zero_le _) dX1_drop_20
  · replace hok := hok.2 c2
    refine lv_iconst (v := (-1)) hF.x hF.b dX1_drop_7 (by decide) ?_
    exact rt_I (u := σ) hF hw hok (Nat.zero_le _) (Nat.zero_le _) dX1_drop_8

theorem p1_drop (σ : SX) (v1 : Int32) (_ : q1_drop σ v1) : wp_X1_drop_0 σ v1 (fun r u => r = (f1_drop σ v1).1 ∧ u = (f1_drop σ v1).2) := by
  intro r1 e1; subst e1
  refine ⟨fun c => ⟨in_S c, fun o5 e5 => ⟨fun e => ?_, fun d e => ⟨in_S c, fun z hz => (by cases hz), fun σ8 e8 => ?_⟩⟩⟩, fun c => ?_⟩
  · simp only [f1_drop]; rw [if_neg c, ← e5, e]; exact ⟨rfl, rfl⟩
  · subst e8
    simp only [f1_drop]; rw [if_neg c, ← e5, e]; exact ⟨rfl, rfl⟩
  · simp only [f1_drop]; rw [if_pos c]; exact ⟨rfl, rfl⟩

theorem c1_drop (l : Launch) (G : Gm) (a : AX) (σ : SX) (v1 : Int32) (h : q1_drop σ v1) : ctI l yX1_drop cX1_drop 2 .int (rr 1 20) G [.ref (a.1 13), .int v1] (wX G a σ) (fun (r : Int32) (u : SX) => r = (f1_drop σ v1).1 ∧ u = (f1_drop σ v1).2) (wX G a) := by
  refine en_I (by decide +kernel) (Nat.le_of_ble_eq_true rfl) (fun p e s m below meth c A ls hF hw hl => ?_)
  exact k_X1_drop_0 hF σ v1 hw hl (p1_drop σ v1 h)

def wp_X1_lever_50 (σ : SX) (v1 : Int32) (v2 : Int32) (v3 : Int32) (o4 : Option Nat)  (post : Int32 → SX → Prop) : Prop :=
  ∀ x1 : Int32, x1 = v1 * 4 → ∀ x2 : Int32, x2 = x1 + v2 → vp_in x2 20 ∧ (∀ z, o4 = some z → z < σ.2.2.2.1.1) ∧ ∀ σ3 : SX, σ3 = (σ.1, σ.2.1, va_up σ.2.2.1 3 (va_up (σ.2.2.1 3) x2.toNatClampNeg o4), σ.2.2.2) → post 1 σ3
set_option maxHeartbeats 4000000 in
set_option maxRecDepth 100000 in
theorem k_X1_lever_50 {l : Launch} {p : Program} {e : Env} {s : State} {m : MethodId} {below : List Frame} {meth : Method} {c : Code} {args : Array Value} {A : Nat → Prop} {G : Gm} {a : AX}  (hF : fx p s m args meth c cX1_lever 5 yX1_lever.cls kX1_lever (some (.int))) {post : Int32 → SX → Prop}  (σ : SX) (v1 : Int32) (v2 : Int32) (v3 : Int32) (o4 : Option Nat) {H : Heap} {locs : List Loc} {ls : Array Slot} (hw : wb G A s (wX G a σ) H locs) (hl : lv_has ls 5 [(0, .ref (a.1 13)), (1, .int v1), (2, .int v2), (3, .int v3), (4, va_rf (Option.map a.2.1 o4))]) (hok : wp_X1_lever_50 σ v1 v2 v3 o4  post) :
    W p l e (rr 2 41) s m args below meth c H locs 0 0 (MQ below (va_Qi post (po G A (wX G a)) A) args s 0 0 A) (F0 m 50 ls []) := by
  unfold wp_X1_lever_50 at hok
  refine lv_aload_n hF.x hF.b dX1_lever_50 rfl (lv_at hl 0 rfl) ?_
  refine r_get hF hw 0 rfl rfl inlX1 3 (by decide) wf_X1_24 rfl dX1_lever_51 ?_
  refine lv_iload_n hF.x hF.b dX1_lever_54 rfl (lv_at hl 1 rfl) ?_
  refine lv_iconst (v := 4) hF.x hF.b dX1_lever_55 (by decide) ?_
  refine lv_imul hF.x hF.b dX1_lever_56 ?_
  refine lv_topi (fun x1 ex1 => ?_)
  replace hok := hok x1 ex1
  refine lv_iload_n hF.x hF.b dX1_lever_57 rfl (lv_at hl 2 rfl) ?_
  refine lv_iadd hF.x hF.b dX1_lever_58 ?_
  refine lv_topi (fun x2 ex2 => ?_)
  replace hok := hok x2 ex2
  refine lq_aload hF dX1_lever_59 (lv_at hl 4 rfl) ?_
  refine rx_aast (o := o4) 3 20 hF hw (by decide) hok.1 hok.2.1 dX1_lever_61 (fun σ3 H locs eσ3 hw => ?_)
  replace hok := hok.2.2 σ3 eσ3
  refine lv_iconst (v := 1) hF.x hF.b dX1_lever_62 (by decide) ?_
  exact rt_I (u := σ3) hF hw hok (Nat.zero_le _) (Nat.zero_le _) dX1_lever_63
def wp_X1_lever_30 (σ : SX) (v1 : Int32) (v2 : Int32) (v3 : Int32)  (post : Int32 → SX → Prop) : Prop :=
  q1_inSlot σ v3 ∧ ∀ (o1 : Option Nat) (σ2 : SX), o1 = (f1_inSlot σ v3).1 → σ2 = (f1_inSlot σ v3).2 → (v3 = ((-1)) → wp_X1_lever_50 σ2 v1 v2 v3 o1  post) ∧ (¬ v3 = ((-1)) → (o1 = none → post ((-2)) σ2) ∧ (∀ d4 : Nat, o1 = some d4 → wp_X1_lever_50 σ2 v1 v2 v3 (some d4)  post))
set_option maxHeartbeats 4000000 in
set_option maxRecDepth 100000 in
theorem k_X1_lever_30 {l : Launch} {p : Program} {e : Env} {s : State} {m : MethodId} {below : List Frame} {meth : Method} {c : Code} {args : Array Value} {A : Nat → Prop} {G : Gm} {a : AX}  (hF : fx p s m args meth c cX1_lever 5 yX1_lever.cls kX1_lever (some (.int))) {post : Int32 → SX → Prop}  (σ : SX) (v1 : Int32) (v2 : Int32) (v3 : Int32) {H : Heap} {locs : List Loc} {ls : Array Slot} (hw : wb G A s (wX G a σ) H locs) (hl : lv_has ls 5 [(0, .ref (a.1 13)), (1, .int v1), (2, .int v2), (3, .int v3)]) (hok : wp_X1_lever_30 σ v1 v2 v3  post) :
    W p l e (rr 2 41) s m args below meth c H locs 0 0 (MQ below (va_Qi post (po G A (wX G a)) A) args s 0 0 A) (F0 m 30 ls []) := by
  unfold wp_X1_lever_30 at hok
  refine lv_aload_n hF.x hF.b dX1_lever_30 rfl (lv_at hl 0 rfl) ?_
  refine lv_iload_n hF.x hF.b dX1_lever_31 rfl (lv_at hl 3 rfl) ?_
  refine ca_Q hF hw (c1_inSlot l G a σ v3 hok.1) wv_X1_85 (q0 := 0) rfl rfl rfl ⟨nd_X1.1, nd_X1.2, pd_X1_inSlot⟩ ⟨Nat.le_of_ble_eq_true rfl, Nat.le_of_ble_eq_true rfl⟩ ⟨Nat.zero_le _, Nat.zero_le _⟩ hl.1 rfl (by first | exact Nat.le_of_ble_eq_true rfl | simp [cat_rf, Value.category]) dX1_lever_32 (fun rq σ2 H locs hp hw => ?_)
  obtain ⟨o1, hr, eo1, eσ2⟩ := hp
  subst hr
  replace hok := hok.2 o1 σ2 eo1 eσ2
  refine lq_astore (lv' := [(4, va_rf (Option.map a.2.1 o1)), (0, .ref (a.1 13)), (1, .int v1), (2, .int v2), (3, .int v3)]) hF dX1_lever_35 hl (by decide) (by first | rfl | (simp [cat_rf]; done) | (simp [cat_rf]; decide)) (fun ls hl => ?_)
  refine lv_iload_n hF.x hF.b dX1_lever_37 rfl (lv_at hl 4 rfl) ?_
  refine lv_iconst (v := (-1)) hF.x hF.b dX1_lever_38 (by decide) ?_
  refine lv_icmp_eq (tgt := 50) hF.x hF.b dX1_lever_39 (by decide) (fun c3 => ?_) (fun c3 => ?_)
  · replace hok := hok.1 c3
    exact k_X1_lever_50  hF  σ2 v1 v2 v3 o1 hw (lv_sub hl [1, 2, 3, 4, 0] rfl) hok
  · replace hok := hok.2 c3
    refine lq_aload hF dX1_lever_42 (lv_at hl 0 rfl) ?_
    refine lm_ifnonnull (o := o1) (tgt := 50) hF dX1_lever_44 (by decide) (fun d4 ed4 => ?_) (fun ed4 => ?_)
    · replace hok := hok.2 d4 ed4
      subst ed4
      have hl : lv_has ls 5 [(4, .ref (a.2.1 d4)), (0, .ref (a.1 13)), (1, .int v1), (2, .int v2), (3, .int v3)] := hl
      exact k_X1_lever_50  hF  σ2 v1 v2 v3 (some d4) hw (lv_sub hl [1, 2, 3, 4, 0] rfl) hok
    · replace hok := hok.1 ed4
      subst ed4
      have hl : lv_has ls 5 [(4, .null), (0, .ref (a.1 13)), (1, .int v1), (2, .int v2), (3, .int v3)] := hl
      refine lv_bipush (v := (-2)) hF.x hF.b dX1_lever_47 (by decide) ?_
      exact rt_I (u := σ2) hF hw hok (Nat.zero_le _) (Nat.zero_le _) dX1_lever_49
def wp_X1_lever_0 (σ : SX) (v1 : Int32) (v2 : Int32) (v3 : Int32)  (post : Int32 → SX → Prop) : Prop :=
  ∀ r1 : Int32, r1 = f1_isLever v1 → (r1 = 0 → post ((-1)) σ) ∧ (¬ r1 = 0 → (v2 < 0 → post ((-1)) σ) ∧ (¬ v2 < 0 → (4 ≤ v2 → post ((-1)) σ) ∧ (¬ 4 ≤ v2 → (v3 = ((-1)) → wp_X1_lever_30 σ v1 v2 v3  post) ∧ (¬ v3 = ((-1)) → ∀ r6 : Int32, r6 = f1_isSlot v3 → (¬ r6 = 0 → wp_X1_lever_30 σ v1 v2 v3  post) ∧ (r6 = 0 → post ((-1)) σ)))))
set_option maxHeartbeats 4000000 in
set_option maxRecDepth 100000 in
theorem k_X1_lever_0 {l : Launch} {p : Program} {e : Env} {s : State} {m : MethodId} {below : List Frame} {meth : Method} {c : Code} {args : Array Value} {A : Nat → Prop} {G : Gm} {a : AX}  (hF : fx p s m args meth c cX1_lever 5 yX1_lever.cls kX1_lever (some (.int))) {post : Int32 → SX → Prop}  (σ : SX) (v1 : Int32) (v2 : Int32) (v3 : Int32) {H : Heap} {locs : List Loc} {ls : Array Slot} (hw : wb G A s (wX G a σ) H locs) (hl : lv_has ls 5 [(0, .ref (a.1 13)), (1, .int v1), (2, .int v2), (3, .int v3)]) (hok : wp_X1_lever_0 σ v1 v2 v3  post) :
    W p l e (rr 2 41) s m args below meth c H locs 0 0 (MQ below (va_Qi post (po G A (wX G a)) A) args s 0 0 A) (F0 m 0 ls []) := by
  unfold wp_X1_lever_0 at hok
  refine lv_iload_n hF.x hF.b dX1_lever_0 rfl (lv_at hl 1 rfl) ?_
  refine ca_S hF (c1_isLever l v1) wv_X1_95 ⟨rfl, nd_X1.1, nd_X1.2, pd_X1_isLever⟩ ⟨rfl, rfl⟩ ⟨Nat.le_of_ble_eq_true rfl, Nat.le_of_ble_eq_true rfl⟩ ⟨Nat.zero_le _, Nat.zero_le _⟩ hl.1 rfl (by first | exact Nat.le_of_ble_eq_true rfl | simp [cat_rf, Value.category]) dX1_lever_1 (fun r1 er1 => ?_)
  replace hok := hok r1 er1
  refine lv_if_eq (tgt := 28) hF.x hF.b dX1_lever_4 (by decide) (fun c2 => ?_) (fun c2 => ?_)
  · replace hok := hok.1 c2
    refine lv_iconst (v := (-1)) hF.x hF.b dX1_lever_28 (by decide) ?_
    exact rt_I (u := σ) hF hw hok (Nat.zero_le _) (Nat.zero_le _) dX1_lever_29
  · replace hok := hok.2 c2
    refine lv_iload_n hF.x hF.b dX1_lever_7 rfl (lv_at hl 2 rfl) ?_
    refine lv_if_lt (tgt := 28) hF.x hF.b dX1_lever_8 (by decide) (fun c3 => ?_) (fun c3 => ?_)
    · replace hok := hok.1 c3
      refine lv_iconst (v := (-1)) hF.x hF.b dX1_lever_28 (by decide) ?_
      exact rt_I (u := σ) hF hw hok (Nat.zero_le _) (Nat.zero_le _) dX1_lever_29
    · replace hok := hok.2 c3
      refine lv_iload_n hF.x hF.b dX1_lever_11 rfl (lv_at hl 2 rfl) ?_
      refine lv_iconst (v := 4) hF.x hF.b dX1_lever_12 (by decide) ?_
      refine lv_icmp_ge (tgt := 28) hF.x hF.b dX1_lever_13 (by decide) (fun c4 => ?_) (fun c4 => ?_)
      · replace hok := hok.1 c4
        refine lv_iconst (v := (-1)) hF.x hF.b dX1_lever_28 (by decide) ?_
        exact rt_I (u := σ) hF hw hok (Nat.zero_le _) (Nat.zero_le _) dX1_lever_29
      · replace hok := hok.2 c4
        refine lv_iload_n hF.x hF.b dX1_lever_16 rfl (lv_at hl 3 rfl) ?_
        refine lv_iconst (v := (-1)) hF.x hF.b dX1_lever_17 (by decide) ?_
        refine lv_icmp_eq (tgt := 30) hF.x hF.b dX1_lever_18 (by decide) (fun c5 => ?_) (fun c5 => ?_)
        · replace hok := hok.1 c5
          exact k_X1_lever_30  hF  σ v1 v2 v3 hw (lv_sub hl [0, 1, 2, 3] rfl) hok
        · replace hok := hok.2 c5
          refine lv_iload_n hF.x hF.b dX1_lever_21 rfl (lv_at hl 3 rfl) ?_
          refine ca_S hF (c1_isSlot l v3) wv_X1_75 ⟨rfl, nd_X1.1, nd_X1.2, pd_X1_isSlot⟩ ⟨rfl, rfl⟩ ⟨Nat.le_of_ble_eq_true rfl, Nat.le_of_ble_eq_true rfl⟩ ⟨Nat.zero_le _, Nat.zero_le _⟩ hl.1 rfl (by first | exact Nat.le_of_ble_eq_true rfl | simp [cat_rf, Value.category]) dX1_lever_22 (fun r6 er6 => ?_)
          replace hok := hok r6 er6
          refine lv_if_ne (tgt := 30) hF.x hF.b dX1_lever_25 (by decide) (fun c7 => ?_) (fun c7 => ?_)
          · replace hok := hok.1 c7
            exact k_X1_lever_30  hF  σ v1 v2 v3 hw (lv_sub hl [0, 1, 2, 3] rfl) hok
          · replace hok := hok.2 c7
            refine lv_iconst (v := (-1)) hF.x hF.b dX1_lever_28 (by decide) ?_
            exact rt_I (u := σ) hF hw hok (Nat.zero_le _) (Nat.zero_le _) dX1_lever_29

theorem p1_lever_50 (σ : SX) (v1 v2 v3 : Int32) (o : Option Nat) (post : Int32 → SX → Prop) (h1 : ¬ f1_isLever v1 = 0) (h2 : ¬ v2 < 0) (h3 : ¬ 4 ≤ v2) (ho : okO σ o) (hp : post 1 (sxO σ 3 (va_up (σ.2.2.1 3) (v1 * 4 + v2).toNatClampNeg o))) : wp_X1_lever_50 σ v1 v2 v3 o post := by
  intro x1 e1 x2 e2
  subst e1; subst e2
  obtain ⟨i, j, hi, hj, -, -, e⟩ := in_LP h1 h2 h3
  exact ⟨by rw [e]; exact vp_in_nI (by omega) (by decide), ho, fun σ3 e3 => by subst e3; exact hp⟩
theorem p1_lever_30 (σ : SX) (v1 v2 v3 : Int32) (h : WFX σ) (h1 : ¬ f1_isLever v1 = 0) (h2 : ¬ v2 < 0) (h3 : ¬ 4 ≤ v2) (h4 : ¬ (¬ v3 = -1 ∧ f1_isSlot v3 = 0)) : wp_X1_lever_30 σ v1 v2 v3 (fun r u => r = (f1_lever σ v1 v2 v3).1 ∧ u = (f1_lever σ v1 v2 v3).2) := by
  refine ⟨trivial, fun o1 σ2 e1 e2 => ?_⟩
  obtain rfl : σ2 = σ := e2
  refine ⟨fun c => ?_, fun c => ⟨fun e => ?_, fun d e => ?_⟩⟩
  · refine p1_lever_50 σ2 v1 v2 v3 o1 _ h1 h2 h3 (by rw [e1]; exact okO.in h v3) ?_
    simp only [f1_lever]
    rw [if_neg h1, if_neg h2, if_neg h3, if_neg h4, if_neg (fun q => q.1 c), e1]
    exact ⟨rfl, rfl⟩
  · simp only [f1_lever]
    rw [if_neg h1, if_neg h2, if_neg h3, if_neg h4, if_pos ⟨c, by rw [← e1]; exact e⟩]
    exact ⟨rfl, rfl⟩
  · refine p1_lever_50 σ2 v1 v2 v3 (some d) _ h1 h2 h3 (by rw [← e, e1]; exact okO.in h v3) ?_
    simp only [f1_lever]
    rw [if_neg h1, if_neg h2, if_neg h3, if_neg h4, if_neg (fun q => by rw [← e1, e] at q; cases q.2), ← e1, e]
    exact ⟨rfl, rfl⟩
theorem p1_lever (σ : SX) (v1 v2 v3 : Int32) (h : q1_lever σ v1 v2 v3) : wp_X1_lever_0 σ v1 v2 v3 (fun r u => r = (f1_lever σ v1 v2 v3).1 ∧ u = (f1_lever σ v1 v2 v3).2) := by
  intro r1 e1; subst e1
  refine ⟨fun c => ?_, fun c => ⟨fun c2 => ?_, fun c2 => ⟨fun c3 => ?_, fun c3 => ⟨fun c4 => ?_, fun c4 r6 e6 => ?_⟩⟩⟩⟩
  · simp only [f1_lever]; rw [if_pos c]; exact ⟨rfl, rfl⟩
  · simp only [f1_lever]; rw [if_neg c, if_pos c2]; exact ⟨rfl, rfl⟩
  · simp only [f1_lever]; rw [if_neg c, if_neg c2, if_pos c3]; exact ⟨rfl, rfl⟩
  · exact p1_lever_30 σ v1 v2 v3 h c c2 c3 (fun q => q.1 c4)
  · subst e6
    refine ⟨fun c5 => p1_lever_30 σ v1 v2 v3 h c c2 c3 (fun q => c5 q.2), fun c5 => ?_⟩
    simp only [f1_lever]; rw [if_neg c, if_neg c2, if_neg c3, if_pos ⟨c4, c5⟩]; exact ⟨rfl, rfl⟩

theorem c1_lever (l : Launch) (G : Gm) (a : AX) (σ : SX) (v1 : Int32) (v2 : Int32) (v3 : Int32) (h : q1_lever σ v1 v2 v3) : ctI l yX1_lever cX1_lever 5 .int (rr 2 41) G [.ref (a.1 13), .int v1, .int v2, .int v3] (wX G a σ) (fun (r : Int32) (u : SX) => r = (f1_lever σ v1 v2 v3).1 ∧ u = (f1_lever σ v1 v2 v3).2) (wX G a) := by
  refine en_I (by decide +kernel) (Nat.le_of_ble_eq_true rfl) (fun p e s m below meth c A ls hF hw hl => ?_)
  exact k_X1_lever_0 hF σ v1 v2 v3 hw hl (p1_lever σ v1 v2 v3 h)

def wp_X1_same_0 (σ : SX) (v1 : Int32) (v2 : Int32)  (post : Int32 → SX → Prop) : Prop :=
  ∀ r1 : Int32, r1 = f1_isSlot v1 → (r1 = 0 → post ((-1)) σ) ∧ (¬ r1 = 0 → ∀ r3 : Int32, r3 = f1_isSlot v2 → (¬ r3 = 0 → vp_in v1 20 ∧ ∀ o5 : Option Nat, o5 = σ.2.2.1 2 v1.toNatClampNeg → (o5 = none → post 0 σ) ∧ (∀ d6 : Nat, o5 = some d6 → vp_in v1 20 ∧ ∀ o7 : Option Nat, o7 = σ.2.2.1 2 v1.toNatClampNeg → vp_in v2 20 ∧ ∀ o8 : Option Nat, o8 = σ.2.2.1 2 v2.toNatClampNeg → (∀ z, o7 = some z → z < σ.2.2.2.1.1) ∧ (∀ z, o8 = some z → z < σ.2.2.2.1.1) ∧ (¬ o7 = o8 → post 0 σ) ∧ (o7 = o8 → post 1 σ))) ∧ (r3 = 0 → post ((-1)) σ))
set_option maxHeartbeats 4000000 in
set_option maxRecDepth 100000 in
theorem k_X1_same_0 {l : Launch} {p : Program} {e : Env} {s : State} {m : MethodId} {below : List Frame} {meth : Method} {c : Code} {args : Array Value} {A : Nat → Prop} {G : Gm} {a : AX}  (hF : fx p s m args meth c cX1_same 3 yX1_same.cls kX1_same (some (.int))) {post : Int32 → SX → Prop}  (σ : SX) (v1 : Int32) (v2 : Int32) {H : Heap} {locs : List Loc} {ls : Array Slot} (hw : wb G A s (wX G a σ) H locs) (hl : lv_has ls 3 [(0, .ref (a.1 13)), (1, .int v1), (2, .int v2)]) (hok : wp_X1_same_0 σ v1 v2  post) :
    W p l e (rr 1 20) s m args below meth c H locs 0 0 (MQ below (va_Qi post (po G A (wX G a)) A) args s 0 0 A) (F0 m 0 ls []) := by
  unfold wp_X1_same_0 at hok
  refine lv_iload_n hF.x hF.b dX1_same_0 rfl (lv_at hl 1 rfl) ?_
  refine ca_S hF (c1_isSlot l v1) wv_X1_75 ⟨rfl, nd_X1.1, nd_X1.2, pd_X1_isSlot⟩ ⟨rfl, rfl⟩ ⟨Nat.le_of_ble_eq_true rfl, Nat.le_of_ble_eq_true rfl⟩ ⟨Nat.zero_le _, Nat.zero_le _⟩ hl.1 rfl (by first | exact Nat.le_of_ble_eq_true rfl | simp [cat_rf, Value.category]) dX1_same_1 (fun r1 er1 => ?_)
  replace hok := hok r1 er1
  refine lv_if_eq (tgt := 14) hF.x hF.b dX1_same_4 (by decide) (fun c2 => ?_) (fun c2 => ?_)
  · replace hok := hok.1 c2
    refine lv_iconst (v := (-1)) hF.x hF.b dX1_same_14 (by decide) ?_
    exact rt_I (u := σ) hF hw hok (Nat.zero_le _) (Nat.zero_le _) dX1_same_15
  · replace hok := hok.2 c2
    refine lv_iload_n hF.x hF.b dX1_same_7 rfl (lv_at hl 2 rfl) ?_
    refine ca_S hF (c1_isSlot l v2) wv_X1_75 ⟨rfl, nd_X1.1, nd_X1.2, pd_X1_isSlot⟩ ⟨rfl, rfl⟩ ⟨Nat.le_of_ble_eq_true rfl, Nat.le_of_ble_eq_true rfl⟩ ⟨Nat.zero_le _, Nat.zero_le _⟩ hl.1 rfl (by first | exact Nat.le_of_ble_eq_true rfl | simp [cat_rf, Value.category]) dX1_same_8 (fun r3 er3 => ?_)
    replace hok := hok r3 er3
    refine lv_if_ne (tgt := 16) hF.x hF.b dX1_same_11 (by decide) (fun c4 => ?_) (fun c4 => ?_)
    · replace hok := hok.1 c4
      refine lv_aload_n hF.x hF.b dX1_same_16 rfl (lv_at hl 0 rfl) ?_
      refine r_get hF hw 0 rfl rfl inlX1 2 (by decide) wf_X1_20 rfl dX1_same_17 ?_
      refine lv_iload_n hF.x hF.b dX1_same_20 rfl (lv_at hl 1 rfl) ?_
      refine rx_aald 2 20 hF hw (by decide) hok.1 dX1_same_21 (fun o5 eo5 => ?_)
      replace hok := hok.2 o5 eo5
      refine lm_ifnull (o := o5) (tgt := 44) hF dX1_same_22 (by decide) (fun ed6 => ?_) (fun d6 ed6 => ?_)
      · replace hok := hok.1 ed6
        subst ed6
        have hl : lv_has ls 3 [(0, .ref (a.1 13)), (1, .int v1), (2, .int v2)] := hl
        refine lv_iconst (v := 0) hF.x hF.b dX1_same_44 (by decide) ?_
        exact rt_I (u := σ) hF hw hok (Nat.zero_le _) (Nat.zero_le _) dX1_same_45
      · replace hok := hok.2 d6 ed6
        subst ed6
        have hl : lv_has ls 3 [(0, .ref (a.1 13)), (1, .int v1), (2, .int v2)] := hl
        refine lv_aload_n hF.x hF.b dX1_same_25 rfl (lv_at hl 0 rfl) ?_
        refine r_get hF hw 0 rfl rfl inlX1 2 (by decide) wf_X1_20 rfl dX1_same_26 ?_
        refine lv_iload_n hF.x hF.b dX1_same_29 rfl (lv_at hl 1 rfl) ?_
        refine rx_aald 2 20 hF hw (by decide) hok.1 dX1_same_30 (fun o7 eo7 => ?_)
        replace hok := hok.2 o7 eo7
        refine lv_aload_n hF.x hF.b dX1_same_31 rfl (lv_at hl 0 rfl) ?_
        refine r_get hF hw 0 rfl rfl inlX1 2 (by decide) wf_X1_20 rfl dX1_same_32 ?_
        refine lv_iload_n hF.x hF.b dX1_same_35 rfl (lv_at hl 2 rfl) ?_
        refine rx_aald 2 20 hF hw (by decide) hok.1 dX1_same_36 (fun o8 eo8 => ?_)
        replace hok := hok.2 o8 eo8
        have hap := wX_ap hw hok.1 hok.2.1
        replace hok := hok.2.2
        refine lv_acmp_ne (rx := (o7).map a.2.1) (ry := (o8).map a.2.1) (tgt := 44) hF.x hF.b dX1_same_37 (by decide) (fun c9 => ?_) (fun c9 => ?_)
        · replace hok := hok.1 (fun q => c9 (congrArg (Option.map a.2.1) q))
          refine lv_iconst (v := 0) hF.x hF.b dX1_same_44 (by decide) ?_
          exact rt_I (u := σ) hF hw hok (Nat.zero_le _) (Nat.zero_le _) dX1_same_45
        · replace hok := hok.2 (hap c9)
          refine lv_iconst (v := 1) hF.x hF.b dX1_same_40 (by decide) ?_
          refine lv_goto (tgt := 45) hF.x hF.b dX1_same_41 (by decide) ?_
          exact rt_I (u := σ) hF hw hok (Nat.zero_le _) (Nat.zero_le _) dX1_same_45
    · replace hok := hok.2 c4
      refine lv_iconst (v := (-1)) hF.x hF.b dX1_same_14 (by decide) ?_
      exact rt_I (u := σ) hF hw hok (Nat.zero_le _) (Nat.zero_le _) dX1_same_15

theorem p1_same (σ : SX) (v1 v2 : Int32) (h : q1_same σ v1 v2) : wp_X1_same_0 σ v1 v2 (fun r u => r = (f1_same σ v1 v2).1 ∧ u = (f1_same σ v1 v2).2) := by
  intro r1 e1; subst e1
  refine ⟨fun c => ?_, fun c r3 e3 => ?_⟩
  · simp only [f1_same]; rw [if_pos c]; exact ⟨rfl, rfl⟩
  · subst e3
    refine ⟨fun c2 => ⟨in_S c, fun o5 e5 => ⟨fun e => ?_, fun d e => ⟨in_S c, fun o7 e7 => ⟨in_S c2, fun o8 e8 => ⟨fun z hz => h.1 2 _ z (Or.inl rfl) (by rw [← e7]; exact hz), fun z hz => h.1 2 _ z (Or.inl rfl) (by rw [← e8]; exact hz), fun c3 => ?_, fun c3 => ?_⟩⟩⟩⟩⟩, fun c2 => ?_⟩
    · simp only [f1_same]; rw [if_neg c, if_neg c2, ← e5, e]; exact ⟨rfl, rfl⟩
    · have e7' : o7 = some d := by rw [e7, ← e5, e]
      simp only [f1_same]; rw [if_neg c, if_neg c2, ← e5, e]; dsimp only; rw [if_neg (by rw [← e7', ← e8]; exact c3)]; exact ⟨rfl, rfl⟩
    · have e7' : o7 = some d := by rw [e7, ← e5, e]
      simp only [f1_same]; rw [if_neg c, if_neg c2, ← e5, e]; dsimp only; rw [if_pos (by rw [← e7', ← e8]; exact c3)]; exact ⟨rfl, rfl⟩
    · simp only [f1_same]; rw [if_neg c, if_pos c2]; exact ⟨rfl, rfl⟩

theorem c1_same (l : Launch) (G : Gm) (a : AX) (σ : SX) (v1 : Int32) (v2 : Int32) (h : q1_same σ v1 v2) : ctI l yX1_same cX1_same 3 .int (rr 1 20) G [.ref (a.1 13), .int v1, .int v2] (wX G a σ) (fun (r : Int32) (u : SX) => r = (f1_same σ v1 v2).1 ∧ u = (f1_same σ v1 v2).2) (wX G a) := by
  refine en_I (by decide +kernel) (Nat.le_of_ble_eq_true rfl) (fun p e s m below meth c A ls hF hw hl => ?_)
  exact k_X1_same_0 hF σ v1 v2 hw hl (p1_same σ v1 v2 h)

def wp_X1_count_0 (σ : SX) (v1 : Int32)  (post : Int32 → SX → Prop) : Prop :=
  ∀ r1 : Int32, r1 = f1_isSlot v1 → (¬ r1 = 0 → vp_in v1 20 ∧ ∀ o3 : Option Nat, o3 = σ.2.2.1 2 v1.toNatClampNeg → (o3 = none → post ((-2)) σ) ∧ (∀ d4 : Nat, o3 = some d4 → d4 < σ.2.2.2.1.1 ∧ (¬ ((σ.2.2.2.1.2 d4).1 0) = 12 → post ((-2)) σ) ∧ (((σ.2.2.2.1.2 d4).1 0) = 12 → d4 < σ.2.2.2.1.1 ∧ post ((σ.2.2.2.1.2 d4).1 7) σ))) ∧ (r1 = 0 → post ((-1)) σ)
set_option maxHeartbeats 4000000 in
set_option maxRecDepth 100000 in
theorem k_X1_count_0 {l : Launch} {p : Program} {e : Env} {s : State} {m : MethodId} {below : List Frame} {meth : Method} {c : Code} {args : Array Value} {A : Nat → Prop} {G : Gm} {a : AX}  (hF : fx p s m args meth c cX1_count 3 yX1_count.cls kX1_count (some (.int))) {post : Int32 → SX → Prop}  (σ : SX) (v1 : Int32) {H : Heap} {locs : List Loc} {ls : Array Slot} (hw : wb G A s (wX G a σ) H locs) (hl : lv_has ls 3 [(0, .ref (a.1 13)), (1, .int v1)]) (hok : wp_X1_count_0 σ v1  post) :
    W p l e (rr 1 20) s m args below meth c H locs 0 0 (MQ below (va_Qi post (po G A (wX G a)) A) args s 0 0 A) (F0 m 0 ls []) := by
  unfold wp_X1_count_0 at hok
  refine lv_iload_n hF.x hF.b dX1_count_0 rfl (lv_at hl 1 rfl) ?_
  refine ca_S hF (c1_isSlot l v1) wv_X1_75 ⟨rfl, nd_X1.1, nd_X1.2, pd_X1_isSlot⟩ ⟨rfl, rfl⟩ ⟨Nat.le_of_ble_eq_true rfl, Nat.le_of_ble_eq_true rfl⟩ ⟨Nat.zero_le _, Nat.zero_le _⟩ hl.1 rfl (by first | exact Nat.le_of_ble_eq_true rfl | simp [cat_rf, Value.category]) dX1_count_1 (fun r1 er1 => ?_)
  replace hok := hok r1 er1
  refine lv_if_ne (tgt := 9) hF.x hF.b dX1_count_4 (by decide) (fun c2 => ?_) (fun c2 => ?_)
  · replace hok := hok.1 c2
    refine lv_aload_n hF.x hF.b dX1_count_9 rfl (lv_at hl 0 rfl) ?_
    refine r_get hF hw 0 rfl rfl inlX1 2 (by decide) wf_X1_20 rfl dX1_count_10 ?_
    refine lv_iload_n hF.x hF.b dX1_count_13 rfl (lv_at hl 1 rfl) ?_
    refine rx_aald 2 20 hF hw (by decide) hok.1 dX1_count_14 (fun o3 eo3 => ?_)
    replace hok := hok.2 o3 eo3
    refine lq_astore_n (lv' := [(2, va_rf (Option.map a.2.1 o3)), (0, .ref (a.1 13)), (1, .int v1)]) hF dX1_count_15 rfl hl (by decide) (by first | rfl | (simp [cat_rf]; done) | (simp [cat_rf]; decide)) (fun ls hl => ?_)
    refine lq_aload_n hF dX1_count_16 rfl (lv_at hl 0 rfl) ?_
    refine lm_ifnull (o := o3) (tgt := 36) hF dX1_count_17 (by decide) (fun ed4 => ?_) (fun d4 ed4 => ?_)
    · replace hok := hok.1 ed4
      subst ed4
      have hl : lv_has ls 3 [(2, .null), (0, .ref (a.1 13)), (1, .int v1)] := hl
      refine lv_bipush (v := (-2)) hF.x hF.b dX1_count_36 (by decide) ?_
      exact rt_I (u := σ) hF hw hok (Nat.zero_le _) (Nat.zero_le _) dX1_count_38
    · replace hok := hok.2 d4 ed4
      subst ed4
      have hl : lv_has ls 3 [(2, .ref (a.2.1 d4)), (0, .ref (a.1 13)), (1, .int v1)] := hl
      refine lv_aload_n hF.x hF.b dX1_count_20 rfl (lv_at hl 0 rfl) ?_
      refine rx_dget (k := 0) hF hw hok.1 (by decide) (by unfold nestW; simp [TX0]) rfl dX1_count_21 ?_
      replace hok := hok.2
      refine lv_bipush (v := 12) hF.x hF.b dX1_count_24 (by decide) ?_
      refine lv_icmp_ne (tgt := 36) hF.x hF.b dX1_count_26 (by decide) (fun c5 => ?_) (fun c5 => ?_)
      · replace hok := hok.1 c5
        refine lv_bipush (v := (-2)) hF.x hF.b dX1_count_36 (by decide) ?_
        exact rt_I (u := σ) hF hw hok (Nat.zero_le _) (Nat.zero_le _) dX1_count_38
      · replace hok := hok.2 c5
        refine lv_aload_n hF.x hF.b dX1_count_29 rfl (lv_at hl 0 rfl) ?_
        refine rx_dget (k := 7) hF hw hok.1 (by decide) (by unfold nestW; simp [TX0]) rfl dX1_count_30 ?_
        replace hok := hok.2
        refine lv_goto (tgt := 38) hF.x hF.b dX1_count_33 (by decide) ?_
        exact rt_I (u := σ) hF hw hok (Nat.zero_le _) (Nat.zero_le _) dX1_count_38
  · replace hok := hok.2 c2
    refine lv_iconst (v := (-1)) hF.x hF.b dX1_count_7 (by decide) ?_
    exact rt_I (u := σ) hF hw hok (Nat.zero_le _) (Nat.zero_le _) dX1_count_8

theorem p1_count (σ : SX) (v1 : Int32) (h : q1_count σ v1) : wp_X1_count_0 σ v1 (fun r u => r = (f1_count σ v1).1 ∧ u = (f1_count σ v1).2) := by
  intro r1 e1; subst e1
  refine ⟨fun c => ⟨in_S c, fun o5 e5 => ⟨fun e => ?_, fun d e => ⟨h.1 2 _ d (Or.inl rfl) (by rw [← e5]; exact e), fun c2 => ?_, fun c2 => ⟨h.1 2 _ d (Or.inl rfl) (by rw [← e5]; exact e), ?_⟩⟩⟩⟩, fun c => ?_⟩
  · simp only [f1_count]; rw [if_neg c, ← e5, e]; exact ⟨rfl, rfl⟩
  · simp only [f1_count]; rw [if_neg c, ← e5, e]; dsimp only; rw [if_neg c2]; exact ⟨rfl, rfl⟩
  · simp only [f1_count]; rw [if_neg c, ← e5, e]; dsimp only; rw [if_pos c2]; exact ⟨rfl, rfl⟩
  · simp only [f1_count]; rw [if_pos c]; exact ⟨rfl, rfl⟩

theorem c1_count (l : Launch) (G : Gm) (a : AX) (σ : SX) (v1 : Int32) (h : q1_count σ v1) : ctI l yX1_count cX1_count 3 .int (rr 1 20) G [.ref (a.1 13), .int v1] (wX G a σ) (fun (r : Int32) (u : SX) => r = (f1_count σ v1).1 ∧ u = (f1_count σ v1).2) (wX G a) := by
  refine en_I (by decide +kernel) (Nat.le_of_ble_eq_true rfl) (fun p e s m below meth c A ls hF hw hl => ?_)
  exact k_X1_count_0 hF σ v1 hw hl (p1_count σ v1 h)

def wp_X1_act_0 (σ : SX) (v1 : Int32) (v2 : Int32)  (post : Int32 → SX → Prop) : Prop :=
  ∀ r1 : Int32, r1 = f1_isSlot v1 → (¬ r1 = 0 → vp_in v1 20 ∧ ∀ o3 : Option Nat, o3 = σ.2.2.1 2 v1.toNatClampNeg → (o3 = none → q1_refuse σ ((-2)) ∧ ∀ (r5 : Int32) (σ6 : SX), r5 = (f1_refuse σ ((-2))).1 → σ6 = (f1_refuse σ ((-2))).2 → post r5 σ6) ∧ (∀ d4 : Nat, o3 = some d4 → q1_begin σ  ∧ ∀ σ7 : SX, σ7 = (f1_begin σ ) → vp_in v1 20 ∧ ∀ o8 : Option Nat, o8 = σ7.2.2.1 2 v1.toNatClampNeg → q1_do 16 σ7 o8 v2 0 ∧ ∀ (r9 : Int32) (σ10 : SX), r9 = (f1_do 16 σ7 o8 v2 0).1 → σ10 = (f1_do 16 σ7 o8 v2 0).2 → q1_noteFailure σ10  ∧ ∀ σ11 : SX, σ11 = (f1_noteFailure σ10 ) → post r9 σ11)) ∧ (r1 = 0 → q1_refuse σ ((-1)) ∧ ∀ (r12 : Int32) (σ13 : SX), r12 = (f1_refuse σ ((-1))).1 → σ13 = (f1_refuse σ ((-1))).2 → post r12 σ13)
set_option maxHeartbeats 4000000 in
set_option maxRecDepth 100000 in
theorem k_X1_act_0 {l : Launch} {p : Program} {e : Env} {s : State} {m : MethodId} {below : List Frame} {meth : Method} {c : Code} {args : Array Value} {A : Nat → Prop} {G : Gm} {a : AX}  (hF : fx p s m args meth c cX1_act 4 yX1_act.cls kX1_act (some (.int))) {post : Int32 → SX → Prop}  (σ : SX) (v1 : Int32) (v2 : Int32) {H : Heap} {locs : List Loc} {ls : Array Slot} (hw : wb G A s (wX G a σ) H locs) (hl : lv_has ls 4 [(0, .ref (a.1 13)), (1, .int v1), (2, .int v2)]) (hok : wp_X1_act_0 σ v1 v2  post) :
    W p l e (rr 55 1383) s m args below meth c H locs 0 0 (MQ below (va_Qi post (po G A (wX G a)) A) args s 0 0 A) (F0 m 0 ls []) := by
  unfold wp_X1_act_0 at hok
  refine lv_iload_n hF.x hF.b dX1_act_0 rfl (lv_at hl 1 rfl) ?_
  refine ca_S hF (c1_isSlot l v1) wv_X1_75 ⟨rfl, nd_X1.1, nd_X1.2, pd_X1_isSlot⟩ ⟨rfl, rfl⟩ ⟨Nat.le_of_ble_eq_true rfl, Nat.le_of_ble_eq_true rfl⟩ ⟨Nat.zero_le _, Nat.zero_le _⟩ hl.1 rfl (by first | exact Nat.le_of_ble_eq_true rfl | simp [cat_rf, Value.category]) dX1_act_1 (fun r1 er1 => ?_)
  replace hok := hok r1 er1
  refine lv_if_ne (tgt := 13) hF.x hF.b dX1_act_4 (by decide) (fun c2 => ?_) (fun c2 => ?_)
  · replace hok := hok.1 c2
    refine lv_aload_n hF.x hF.b dX1_act_13 rfl (lv_at hl 0 rfl) ?_
    refine r_get hF hw 0 rfl rfl inlX1 2 (by decide) wf_X1_20 rfl dX1_act_14 ?_
    refine lv_iload_n hF.x hF.b dX1_act_17 rfl (lv_at hl 1 rfl) ?_
    refine rx_aald 2 20 hF hw (by decide) hok.1 dX1_act_18 (fun o3 eo3 => ?_)
    replace hok := hok.2 o3 eo3
    refine lm_ifnonnull (o := o3) (tgt := 29) hF dX1_act_19 (by decide) (fun d4 ed4 => ?_) (fun ed4 => ?_)
    · replace hok := hok.2 d4 ed4
      subst ed4
      have hl : lv_has ls 4 [(0, .ref (a.1 13)), (1, .int v1), (2, .int v2)] := hl
      refine lv_aload_n hF.x hF.b dX1_act_29 rfl (lv_at hl 0 rfl) ?_
      refine ca_V hF hw (c1_begin l G a σ  hok.1) wv_X1_107 (q0 := 0) rfl rfl rfl ⟨nd_X1.1, nd_X1.2, pd_X1_begin⟩ ⟨Nat.le_of_ble_eq_true rfl, Nat.le_of_ble_eq_true rfl⟩ ⟨Nat.zero_le _, Nat.zero_le _⟩ hl.1 rfl (by first | exact Nat.le_of_ble_eq_true rfl | simp [cat_rf, Value.category]) dX1_act_30 (fun σ7 H locs eσ7 hw => ?_)
      replace hok := hok.2 σ7 eσ7
      refine lv_aload_n hF.x hF.b dX1_act_33 rfl (lv_at hl 0 rfl) ?_
      refine lv_aload_n hF.x hF.b dX1_act_34 rfl (lv_at hl 0 rfl) ?_
      refine r_get hF hw 0 rfl rfl inlX1 2 (by decide) wf_X1_20 rfl dX1_act_35 ?_
      refine lv_iload_n hF.x hF.b dX1_act_38 rfl (lv_at hl 1 rfl) ?_
      refine rx_aald 2 20 hF hw (by decide) hok.1 dX1_act_39 (fun o8 eo8 => ?_)
      replace hok := hok.2 o8 eo8
      refine lv_iload_n hF.x hF.b dX1_act_40 rfl (lv_at hl 2 rfl) ?_
      refine lv_iconst (v := 0) hF.x hF.b dX1_act_41 (by decide) ?_
      refine ca_I hF hw (c1_doDeed 16 σ7 o8 v2 0 hok.1) wv_X1_110 (q0 := 0) rfl rfl rfl ⟨nd_X1.1, nd_X1.2, pd_X1_doDeed⟩ ⟨Nat.le_of_ble_eq_true rfl, Nat.le_of_ble_eq_true rfl⟩ ⟨Nat.zero_le _, Nat.zero_le _⟩ hl.1 rfl (by first | exact Nat.le_of_ble_eq_true rfl | simp [cat_rf, Value.category]) dX1_act_42 (fun r9 σ10 H locs hp hw => ?_)
      obtain ⟨er9, eσ10⟩ := hp
      replace hok := hok.2 r9 σ10 er9 eσ10
      refine lv_istore_n (lv' := [(3, .int r9), (0, .ref (a.1 13)), (1, .int v1), (2, .int v2)]) hF.x hF.b dX1_act_45 rfl hl (by decide) rfl (fun ls hl => ?_)
      refine lv_aload_n hF.x hF.b dX1_act_46 rfl (lv_at hl 1 rfl) ?_
      refine ca_V hF hw (c1_noteFailure l G a σ10  hok.1) wv_X1_114 (q0 := 0) rfl rfl rfl ⟨nd_X1.1, nd_X1.2, pd_X1_noteFailure⟩ ⟨Nat.le_of_ble_eq_true rfl, Nat.le_of_ble_eq_true rfl⟩ ⟨Nat.zero_le _, Nat.zero_le _⟩ hl.1 rfl (by first | exact Nat.le_of_ble_eq_true rfl | simp [cat_rf, Value.category]) dX1_act_47 (fun σ11 H locs eσ11 hw => ?_)
      replace hok := hok.2 σ11 eσ11
      refine lv_iload_n hF.x hF.b dX1_act_50 rfl (lv_at hl 0 rfl) ?_
      exact rt_I (u := σ11) hF hw hok (Nat.zero_le _) (Nat.zero_le _) dX1_act_51
    · replace hok := hok.1 ed4
      subst ed4
      have hl : lv_has ls 4 [(0, .ref (a.1 13)), (1, .int v1), (2, .int v2)] := hl
      refine lv_aload_n hF.x hF.b dX1_act_22 rfl (lv_at hl 0 rfl) ?_
      refine lv_bipush (v := (-2)) hF.x hF.b dX1_act_23 (by decide) ?_
      refine ca_I hF hw (c1_refuse l G a σ ((-2)) hok.1) wv_X1_104 (q0 := 0) rfl rfl rfl ⟨nd_X1.1, nd_X1.2, pd_X1_refuse⟩ ⟨Nat.le_of_ble_eq_true rfl, Nat.le_of_ble_eq_true rfl⟩ ⟨Nat.zero_le _, Nat.zero_le _⟩ hl.1 rfl (by first | exact Nat.le_of_ble_eq_true rfl | simp [cat_rf, Value.category]) dX1_act_25 (fun r5 σ6 H locs hp hw => ?_)
      obtain ⟨er5, eσ6⟩ := hp
      replace hok := hok.2 r5 σ6 er5 eσ6
      exact rt_I (u := σ6) hF hw hok (Nat.zero_le _) (Nat.zero_le _) dX1_act_28
  · replace hok := hok.2 c2
    refine lv_aload_n hF.x hF.b dX1_act_7 rfl (lv_at hl 0 rfl) ?_
    refine lv_iconst (v := (-1)) hF.x hF.b dX1_act_8 (by decide) ?_
    refine ca_I hF hw (c1_refuse l G a σ ((-1)) hok.1) wv_X1_104 (q0 := 0) rfl rfl rfl ⟨nd_X1.1, nd_X1.2, pd_X1_refuse⟩ ⟨Nat.le_of_ble_eq_true rfl, Nat.le_of_ble_eq_true rfl⟩ ⟨Nat.zero_le _, Nat.zero_le _⟩ hl.1 rfl (by first | exact Nat.le_of_ble_eq_true rfl | simp [cat_rf, Value.category]) dX1_act_9 (fun r12 σ13 H locs hp hw => ?_)
    obtain ⟨er12, eσ13⟩ := hp
    replace hok := hok.2 r12 σ13 er12 eσ13
    exact rt_I (u := σ13) hF hw hok (Nat.zero_le _) (Nat.zero_le _) dX1_act_12

theorem p1_act (σ : SX) (v1 v2 : Int32) (h : q1_act σ v1 v2) : wp_X1_act_0 σ v1 v2 (fun r u => r = (f1_act σ v1 v2).1 ∧ u = (f1_act σ v1 v2).2) := by
  intro r1 e1; subst e1
  have hb := XK.begin h
  refine ⟨fun c => ⟨in_S c, fun o5 e5 => ⟨fun e => ⟨trivial, fun r σ' e6 e7 => ?_⟩, fun d e => ⟨trivial, fun σ7 e7 => ⟨in_S c, fun o8 e8 => ?_⟩⟩⟩⟩, fun c => ⟨trivial, fun r σ' e6 e7 => ?_⟩⟩
  · simp only [f1_act]; rw [if_neg c, ← e5, e]; exact ⟨e6, e7⟩
  · subst e7
    have e8' : o8 = some d := by rw [e8, ← e, e5]; rfl
    refine ⟨⟨hb.1, fun z hz => hb.1.1 2 _ z (Or.inl rfl) (by rw [← e8]; exact hz), by decide, rfl⟩, fun r9 σ10 e9 e10 => ⟨trivial, fun σ11 e11 => ?_⟩⟩
    subst e8'; subst e9; subst e10; subst e11
    simp only [f1_act]; rw [if_neg c, ← e5, e]; exact ⟨rfl, rfl⟩
  · simp only [f1_act]; rw [if_pos c]; exact ⟨e6, e7⟩

theorem c1_act (l : Launch) (G : Gm) (a : AX) (σ : SX) (v1 : Int32) (v2 : Int32) (h : q1_act σ v1 v2) : ctI l yX1_act cX1_act 4 .int (rr 55 1383) G [.ref (a.1 13), .int v1, .int v2] (wX G a σ) (fun (r : Int32) (u : SX) => r = (f1_act σ v1 v2).1 ∧ u = (f1_act σ v1 v2).2) (wX G a) := by
  refine en_I (by decide +kernel) (Nat.le_of_ble_eq_true rfl) (fun p e s m below meth c A ls hF hw hl => ?_)
  exact k_X1_act_0 hF σ v1 v2 hw hl (p1_act σ v1 v2 h)

def wp_X1_pull_0 (σ : SX) (v1 : Int32) (v2 : Int32)  (post : Int32 → SX → Prop) : Prop :=
  ∀ r1 : Int32, r1 = f1_isLever v1 → (¬ r1 = 0 → q1_begin σ  ∧ ∀ σ3 : SX, σ3 = (f1_begin σ ) → q1_doPlaces 16 σ3 v1 v2 0 ∧ ∀ (r4 : Int32) (σ5 : SX), r4 = (f1_doPlaces 16 σ3 v1 v2 0).1 → σ5 = (f1_doPlaces 16 σ3 v1 v2 0).2 → q1_noteFailure σ5  ∧ ∀ σ6 : SX, σ6 = (f1_noteFailure σ5 ) → post r4 σ6) ∧ (r1 = 0 → q1_refuse σ ((-1)) ∧ ∀ (r7 : Int32) (σ8 : SX), r7 = (f1_refuse σ ((-1))).1 → σ8 = (f1_refuse σ ((-1))).2 → post r7 σ8)
set_option maxHeartbeats 4000000 in
set_option maxRecDepth 100000 in
theorem k_X1_pull_0 {l : Launch} {p : Program} {e : Env} {s : State} {m : MethodId} {below : List Frame} {meth : Method} {c : Code} {args : Array Value} {A : Nat → Prop} {G : Gm} {a : AX}  (hF : fx p s m args meth c cX1_pull 4 yX1_pull.cls kX1_pull (some (.int))) {post : Int32 → SX → Prop}  (σ : SX) (v1 : Int32) (v2 : Int32) {H : Heap} {locs : List Loc} {ls : Array Slot} (hw : wb G A s (wX G a σ) H locs) (hl : lv_has ls 4 [(0, .ref (a.1 13)), (1, .int v1), (2, .int v2)]) (hok : wp_X1_pull_0 σ v1 v2  post) :
    W p l e (rr 56 1408) s m args below meth c H locs 0 0 (MQ below (va_Qi post (po G A (wX G a)) A) args s 0 0 A) (F0 m 0 ls []) := by
  unfold wp_X1_pull_0 at hok
  refine lv_iload_n hF.x hF.b dX1_pull_0 rfl (lv_at hl 1 rfl) ?_
  refine ca_S hF (c1_isLever l v1) wv_X1_95 ⟨rfl, nd_X1.1, nd_X1.2, pd_X1_isLever⟩ ⟨rfl, rfl⟩ ⟨Nat.le_of_ble_eq_true rfl, Nat.le_of_ble_eq_true rfl⟩ ⟨Nat.zero_le _, Nat.zero_le _⟩ hl.1 rfl (by first | exact Nat.le_of_ble_eq_true rfl | simp [cat_rf, Value.category]) dX1_pull_1 (fun r1 er1 => ?_)
  replace hok := hok r1 er1
  refine lv_if_ne (tgt := 13) hF.x hF.b dX1_pull_4 (by decide) (fun c2 => ?_) (fun c2 => ?_)
  · replace hok := hok.1 c2
    refine lv_aload_n hF.x hF.b dX1_pull_13 rfl (lv_at hl 0 rfl) ?_
    refine ca_V hF hw (c1_begin l G a σ  hok.1) wv_X1_107 (q0 := 0) rfl rfl rfl ⟨nd_X1.1, nd_X1.2, pd_X1_begin⟩ ⟨Nat.le_of_ble_eq_true rfl, Nat.le_of_ble_eq_true rfl⟩ ⟨Nat.zero_le _, Nat.zero_le _⟩ hl.1 rfl (by first | exact Nat.le_of_ble_eq_true rfl | simp [cat_rf, Value.category]) dX1_pull_14 (fun σ3 H locs eσ3 hw => ?_)
    replace hok := hok.2 σ3 eσ3
    refine lv_aload_n hF.x hF.b dX1_pull_17 rfl (lv_at hl 0 rfl) ?_
    refine lv_iload_n hF.x hF.b dX1_pull_18 rfl (lv_at hl 1 rfl) ?_
    refine lv_iload_n hF.x hF.b dX1_pull_19 rfl (lv_at hl 2 rfl) ?_
    refine lv_iconst (v := 0) hF.x hF.b dX1_pull_20 (by decide) ?_
    refine ca_I hF hw (c1_doPlaces (c1_doDeed 16) σ3 v1 v2 0 hok.1) wv_X1_117 (q0 := 0) rfl rfl rfl ⟨nd_X1.1, nd_X1.2, pd_X1_doPlaces⟩ ⟨Nat.le_of_ble_eq_true rfl, Nat.le_of_ble_eq_true rfl⟩ ⟨Nat.zero_le _, Nat.zero_le _⟩ hl.1 rfl (by first | exact Nat.le_of_ble_eq_true rfl | simp [cat_rf, Value.category]) dX1_pull_21 (fun r4 σ5 H locs hp hw => ?_)
    obtain ⟨er4, eσ5⟩ := hp
    replace hok := hok.2 r4 σ5 er4 eσ5
    refine lv_istore_n (lv' := [(3, .int r4), (0, .ref (a.1 13)), (1, .int v1), (2, .int v2)]) hF.x hF.b dX1_pull_24 rfl hl (by decide) rfl (fun ls hl => ?_)
    refine lv_aload_n hF.x hF.b dX1_pull_25 rfl (lv_at hl 1 rfl) ?_
    refine ca_V hF hw (c1_noteFailure l G a σ5  hok.1) wv_X1_114 (q0 := 0) rfl rfl rfl ⟨nd_X1.1, nd_X1.2, pd_X1_noteFailure⟩ ⟨Nat.le_of_ble_eq_true rfl, Nat.le_of_ble_eq_true rfl⟩ ⟨Nat.zero_le _, Nat.zero_le _⟩ hl.1 rfl (by first | exact Nat.le_of_ble_eq_true rfl | simp [cat_rf, Value.category]) dX1_pull_26 (fun σ6 H locs eσ6 hw => ?_)
    replace hok := hok.2 σ6 eσ6
    refine lv_iload_n hF.x hF.b dX1_pull_29 rfl (lv_at hl 0 rfl) ?_
    exact rt_I (u := σ6) hF hw hok (Nat.zero_le _) (Nat.zero_le _) dX1_pull_30
  · replace hok := hok.2 c2
    refine lv_aload_n hF.x hF.b dX1_pull_7 rfl (lv_at hl 0 rfl) ?_
    refine lv_iconst (v := (-1)) hF.x hF.b dX1_pull_8 (by decide) ?_
    refine ca_I hF hw (c1_refuse l G a σ ((-1)) hok.1) wv_X1_104 (q0 := 0) rfl rfl rfl ⟨nd_X1.1, nd_X1.2, pd_X1_refuse⟩ ⟨Nat.le_of_ble_eq_true rfl, Nat.le_of_ble_eq_true rfl⟩ ⟨Nat.zero_le _, Nat.zero_le _⟩ hl.1 rfl (by first | exact Nat.le_of_ble_eq_true rfl | simp [cat_rf, Value.category]) dX1_pull_9 (fun r7 σ8 H locs hp hw => ?_)
    obtain ⟨er7, eσ8⟩ := hp
    replace hok := hok.2 r7 σ8 er7 eσ8
    exact rt_I (u := σ8) hF hw hok (Nat.zero_le _) (Nat.zero_le _) dX1_pull_12

theorem p1_pull (σ : SX) (v1 v2 : Int32) (h : q1_pull σ v1 v2) : wp_X1_pull_0 σ v1 v2 (fun r u => r = (f1_pull σ v1 v2).1 ∧ u = (f1_pull σ v1 v2).2) := by
  intro r1 e1; subst e1
  have hb := XK.begin h
  refine ⟨fun c => ⟨trivial, fun σ3 e3 => ?_⟩, fun c => ⟨trivial, fun r σ' e6 e7 => ?_⟩⟩
  · subst e3
    refine ⟨⟨hb.1, by decide, rfl⟩, fun r4 σ5 e4 e5 => ⟨trivial, fun σ6 e6 => ?_⟩⟩
    subst e4; subst e5; subst e6
    simp only [f1_pull]; rw [if_neg c]; exact ⟨rfl, rfl⟩
  · simp only [f1_pull]; rw [if_pos c]; exact ⟨e6, e7⟩

theorem c1_pull (l : Launch) (G : Gm) (a : AX) (σ : SX) (v1 : Int32) (v2 : Int32) (h : q1_pull σ v1 v2) : ctI l yX1_pull cX1_pull 4 .int (rr 56 1408) G [.ref (a.1 13), .int v1, .int v2] (wX G a σ) (fun (r : Int32) (u : SX) => r = (f1_pull σ v1 v2).1 ∧ u = (f1_pull σ v1 v2).2) (wX G a) := by
  refine en_I (by decide +kernel) (Nat.le_of_ble_eq_true rfl) (fun p e s m below meth c A ls hF hw hl => ?_)
  exact k_X1_pull_0 hF σ v1 v2 hw hl (p1_pull σ v1 v2 h)

def wp_X1_doLongestWaiting_0 (σ : SX)   (post : SX → Prop) : Prop :=
  vp_in (σ.1 6) 12 ∧ ∀ o1 : Option Nat, o1 = σ.2.2.1 4 (σ.1 6).toNatClampNeg → vp_in (σ.1 6) 12 ∧ vp_in (σ.1 6) 12 ∧ (∀ z, none = some z → z < σ.2.2.2.1.1) ∧ ∀ σ2 : SX, σ2 = (σ.1, σ.2.1, va_up σ.2.2.1 4 (va_up (σ.2.2.1 4) (σ.1 6).toNatClampNeg none), σ.2.2.2) → ∀ x3 : Int32, x3 = (σ2.1 6) + 1 → ¬ (12 : Int32) = 0 ∧ ∀ x4 : Int32, x4 = x3 - x3 / 12 * 12 → ∀ σ5 : SX, σ5 = (va_up σ2.1 6 x4, σ2.2) → ∀ x6 : Int32, x6 = (σ5.1 7) - 1 → ∀ σ7 : SX, σ7 = (va_up σ5.1 7 x6, σ5.2) → q1_do 16 σ7 o1 (σ.2.1 5 (σ.1 6).toNatClampNeg) 0 ∧ ∀ (r8 : Int32) (σ9 : SX), r8 = (f1_do 16 σ7 o1 (σ.2.1 5 (σ.1 6).toNatClampNeg) 0).1 → σ9 = (f1_do 16 σ7 o1 (σ.2.1 5 (σ.1 6).toNatClampNeg) 0).2 → post σ9
set_option maxHeartbeats 4000000 in
set_option maxRecDepth 100000 in
theorem k_X1_doLongestWaiting_0 {l : Launch} {p : Program} {e : Env} {s : State} {m : MethodId} {below : List Frame} {meth : Method} {c : Code} {args : Array Value} {A : Nat → Prop} {G : Gm} {a : AX}  (hF : fx p s m args meth c cX1_doLongestWaiting 3 yX1_doLongestWaiting.cls kX1_doLongestWaiting none) {post : SX → Prop}  (σ : SX)  {H : Heap} {locs : List Loc} {ls : Array Slot} (hw : wb G A s (wX G a σ) H locs) (hl : lv_has ls 3 [(0, .ref (a.1 13))]) (hok : wp_X1_doLongestWaiting_0 σ   post) :
    W p l e (rr 55 1383) s m args below meth c H locs 0 0 (MQ below (va_Qv post (po G A (wX G a)) A) args s 0 0 A) (F0 m 0 ls []) := by
  unfold wp_X1_doLongestWaiting_0 at hok
  refine lv_aload_n hF.x hF.b dX1_doLongestWaiting_0 rfl (lv_at hl 0 rfl) ?_
  refine r_get hF hw 0 rfl rfl inlX1 4 (by decide) wf_X1_27 rfl dX1_doLongestWaiting_1 ?_
  refine lv_aload_n hF.x hF.b dX1_doLongestWaiting_4 rfl (lv_at hl 0 rfl) ?_
  refine r_get hF hw 0 rfl rfl inlX1 6 (by decide) wf_X1_33 rfl dX1_doLongestWaiting_5 ?_
  refine rx_aald 4 12 hF hw (by decide) hok.1 dX1_doLongestWaiting_8 (fun o1 eo1 => ?_)
  replace hok := hok.2 o1 eo1
  refine lq_astore_n (lv' := [(1, va_rf (Option.map a.2.1 o1)), (0, .ref (a.1 13))]) hF dX1_doLongestWaiting_9 rfl hl (by decide) (by first | rfl | (simp [cat_rf]; done) | (simp [cat_rf]; decide)) (fun ls hl => ?_)
  refine lv_aload_n hF.x hF.b dX1_doLongestWaiting_10 rfl (lv_at hl 1 rfl) ?_
  refine r_get hF hw 0 rfl rfl inlX1 5 (by decide) wf_X1_30 rfl dX1_doLongestWaiting_11 ?_
  refine lv_aload_n hF.x hF.b dX1_doLongestWaiting_14 rfl (lv_at hl 1 rfl) ?_
  refine r_get hF hw 0 rfl rfl inlX1 6 (by decide) wf_X1_33 rfl dX1_doLongestWaiting_15 ?_
  refine rx_iald 5 12 hF hw (by decide) hok.1 dX1_doLongestWaiting_18 ?_
  replace hok := hok.2
  refine lv_istore_n (lv' := [(2, .int (σ.2.1 5 (σ.1 6).toNatClampNeg)), (1, va_rf (Option.map a.2.1 o1)), (0, .ref (a.1 13))]) hF.x hF.b dX1_doLongestWaiting_19 rfl hl (by decide) (by first | rfl | (simp [cat_rf]; done) | (simp [cat_rf]; decide)) (fun ls hl => ?_)
  refine lv_aload_n hF.x hF.b dX1_doLongestWaiting_20 rfl (lv_at hl 2 rfl) ?_
  refine r_get hF hw 0 rfl rfl inlX1 4 (by decide) wf_X1_27 rfl dX1_doLongestWaiting_21 ?_
  refine lv_aload_n hF.x hF.b dX1_doLongestWaiting_24 rfl (lv_at hl 2 rfl) ?_
  refine r_get hF hw 0 rfl rfl inlX1 6 (by decide) wf_X1_33 rfl dX1_doLongestWaiting_25 ?_
  refine lv_null hF.x hF.b dX1_doLongestWaiting_28 ?_
  refine rx_aast (o := none) 4 12 hF hw (by decide) hok.1 hok.2.1 dX1_doLongestWaiting_29 (fun σ2 H locs eσ2 hw => ?_)
  replace hok := hok.2.2 σ2 eσ2
  refine lv_aload_n hF.x hF.b dX1_doLongestWaiting_30 rfl (lv_at hl 2 rfl) ?_
  refine lv_aload_n hF.x hF.b dX1_doLongestWaiting_31 rfl (lv_at hl 2 rfl) ?_
  refine r_get hF hw 0 rfl rfl inlX1 6 (by decide) wf_X1_33 rfl dX1_doLongestWaiting_32 ?_
  refine lv_iconst (v := 1) hF.x hF.b dX1_doLongestWaiting_35 (by decide) ?_
  refine lv_iadd hF.x hF.b dX1_doLongestWaiting_36 ?_
  refine lv_topi (fun x3 ex3 => ?_)
  replace hok := hok x3 ex3
  refine lv_bipush (v := 12) hF.x hF.b dX1_doLongestWaiting_37 (by decide) ?_
  refine lv_irem hF.x hF.b dX1_doLongestWaiting_39 hok.1 ?_
  refine lv_topi (fun x4 ex4 => ?_)
  replace hok := hok.2 x4 ex4
  refine rx_put (v := x4) 6 hF hw (by decide) wf_X1_33 dX1_doLongestWaiting_40 (fun σ5 H locs eσ5 hw => ?_)
  replace hok := hok σ5 eσ5
  refine lv_aload_n hF.x hF.b dX1_doLongestWaiting_43 rfl (lv_at hl 2 rfl) ?_
  refine lv_dup hF.x hF.b dX1_doLongestWaiting_44 rfl ?_
  refine r_get hF hw 0 rfl rfl inlX1 7 (by decide) wf_X1_37 rfl dX1_doLongestWaiting_45 ?_
  refine lv_iconst (v := 1) hF.x hF.b dX1_doLongestWaiting_48 (by decide) ?_
  refine lv_isub hF.x hF.b dX1_doLongestWaiting_49 ?_
  refine lv_topi (fun x6 ex6 => ?_)
  replace hok := hok x6 ex6
  refine rx_put (v := x6) 7 hF hw (by decide) wf_X1_37 dX1_doLongestWaiting_50 (fun σ7 H locs eσ7 hw => ?_)
  replace hok := hok σ7 eσ7
  refine lv_aload_n hF.x hF.b dX1_doLongestWaiting_53 rfl (lv_at hl 2 rfl) ?_
  refine lq_aload_n hF dX1_doLongestWaiting_54 rfl (lv_at hl 1 rfl) ?_
  refine lv_iload_n hF.x hF.b dX1_doLongestWaiting_55 rfl (lv_at hl 0 rfl) ?_
  refine lv_iconst (v := 0) hF.x hF.b dX1_doLongestWaiting_56 (by decide) ?_
  refine ca_I hF hw (c1_doDeed 16 σ7 o1 (σ.2.1 5 (σ.1 6).toNatClampNeg) 0 hok.1) wv_X1_110 (q0 := 0) rfl rfl rfl ⟨nd_X1.1, nd_X1.2, pd_X1_doDeed⟩ ⟨Nat.le_of_ble_eq_true rfl, Nat.le_of_ble_eq_true rfl⟩ ⟨Nat.zero_le _, Nat.zero_le _⟩ hl.1 rfl (by first | exact Nat.le_of_ble_eq_true rfl | simp [cat_rf, Value.category]) dX1_doLongestWaiting_57 (fun r8 σ9 H locs hp hw => ?_)
  obtain ⟨er8, eσ9⟩ := hp
  replace hok := hok.2 r8 σ9 er8 eσ9
  refine lv_pop hF.x hF.b dX1_doLongestWaiting_60 rfl ?_
  exact rt_V (u := σ9) hF hw hok (Nat.zero_le _) (Nat.zero_le _) dX1_doLongestWaiting_61

theorem p1_doLongestWaiting (σ : SX) (h : q1_doLongestWaiting σ) : wp_X1_doLongestWaiting_0 σ (fun u => u = f1_doLongestWaiting σ) := by
  have hi := in_12 h.1
  refine ⟨hi, fun o1 e1 => ⟨hi, hi, fun z hz => (by cases hz), fun σ2 e2 x3 e3 => ⟨by decide, fun x4 e4 σ5 e5 x6 e6 σ7 e7 => ?_⟩⟩⟩
  subst e2; subst e3; subst e4; subst e5; subst e6
  have e7' : σ7 = x_out σ := by
    subst e7
    simp [x_out, va_up]
  subst e7'; subst e1
  exact ⟨⟨(wf_out h).1, okO.q h, by decide, rfl⟩, fun r8 σ9 e8 e9 => e9⟩

theorem c1_doLongestWaiting (l : Launch) (G : Gm) (a : AX) (σ : SX)  (h : q1_doLongestWaiting σ ) : ctV l yX1_doLongestWaiting cX1_doLongestWaiting 3 (rr 55 1383) G [.ref (a.1 13)] (wX G a σ) (fun (u : SX) => u = f1_doLongestWaiting σ ) (wX G a) := by
  refine en_V (by decide +kernel) (Nat.le_of_ble_eq_true rfl) (fun p e s m below meth c A ls hF hn hw hl => ?_)
  exact k_X1_doLongestWaiting_0 hF σ  hw hl (p1_doLongestWaiting σ  h)

def wp_X1_tick_41 (σ : SX) (v1 : Int32) (v2 : Int32) (v3 : Int32) (K13 : SX → Int32 → Int32 → Int32 → Prop) (post : Int32 → SX → Prop) : Prop :=
  ∀ x1 : Int32, x1 = v3 + 1 → K13 σ v1 v2 x1
set_option maxHeartbeats 4000000 in
set_option maxRecDepth 100000 in
theorem k_X1_tick_41 {l : Launch} {p : Program} {e : Env} {s : State} {m : MethodId} {below : List Frame} {meth : Method} {c : Code} {args : Array Value} {A : Nat → Prop} {G : Gm} {a : AX}  (hF : fx p s m args meth c cX1_tick 4 yX1_tick.cls kX1_tick (some (.int))) {post : Int32 → SX → Prop} {K13 : SX → Int32 → Int32 → Int32 → Prop} (hK13 : ∀ (σ : SX) (v1 : Int32) (v2 : Int32) (v3 : Int32) {H : Heap} {locs : List Loc} {ls : Array Slot}, K13 σ v1 v2 v3 → wb G A s (wX G a σ) H locs → lv_has ls 4 [(0, .ref (a.1 13)), (1, .int v1), (2, .int v2), (3, .int v3)] → W p l e (rr 56 1405) s m args below meth c H locs 0 0 (MQ below (va_Qi post (po G A (wX G a)) A) args s 0 0 A) (F0 m 13 ls [])) (σ : SX) (v1 : Int32) (v2 : Int32) (v3 : Int32) {H : Heap} {locs : List Loc} {ls : Array Slot} (hw : wb G A s (wX G a σ) H locs) (hl : lv_has ls 4 [(0, .ref (a.1 13)), (1, .int v1), (2, .int v2), (3, .int v3)]) (hok : wp_X1_tick_41 σ v1 v2 v3 K13 post) :
    W p l e (rr 56 1405) s m args below meth c H locs 0 0 (MQ below (va_Qi post (po G A (wX G a)) A) args s 0 0 A) (F0 m 41 ls []) := by
  unfold wp_X1_tick_41 at hok
  obtain ⟨x1, ex1⟩ : ∃ z : Int32, z = v3 + 1 := ⟨_, rfl⟩
  replace hok := hok x1 ex1
  refine lv_iinc (v := x1) (lv' := [(3, .int x1), (0, .ref (a.1 13)), (1, .int v1), (2, .int v2)]) hF.x hF.b dX1_tick_41 hl (k := 3) rfl (by rw [ex1]; rfl) (by decide) rfl (fun ls hl => ?_)
  refine lv_goto (tgt := 13) hF.x hF.b dX1_tick_44 (by decide) ?_
  exact hK13 σ v1 v2 x1 hok hw (lv_sub hl [1, 2, 3, 0] rfl)
def wp_X1_tick_13 (σ : SX) (v1 : Int32) (v2 : Int32) (v3 : Int32) (K13 : SX → Int32 → Int32 → Int32 → Prop) (post : Int32 → SX → Prop) : Prop :=
  (v1 ≤ v3 → post v2 σ) ∧ (¬ v1 ≤ v3 → ∀ σ2 : SX, σ2 = (va_up σ.1 11 0, σ.2) → q1_doLongestWaiting σ2  ∧ ∀ σ3 : SX, σ3 = (f1_doLongestWaiting σ2 ) → q1_noteFailure σ3  ∧ ∀ σ4 : SX, σ4 = (f1_noteFailure σ3 ) → (¬ (σ4.1 11) = 0 → wp_X1_tick_41 σ4 v1 v2 v3 K13 post) ∧ ((σ4.1 11) = 0 → ∀ x6 : Int32, x6 = v2 + 1 → wp_X1_tick_41 σ4 v1 x6 v3 K13 post))
set_option maxHeartbeats 4000000 in
set_option maxRecDepth 100000 in
theorem k_X1_tick_13 {l : Launch} {p : Program} {e : Env} {s : State} {m : MethodId} {below : List Frame} {meth : Method} {c : Code} {args : Array Value} {A : Nat → Prop} {G : Gm} {a : AX}  (hF : fx p s m args meth c cX1_tick 4 yX1_tick.cls kX1_tick (some (.int))) {post : Int32 → SX → Prop} {K13 : SX → Int32 → Int32 → Int32 → Prop} (hK13 : ∀ (σ : SX) (v1 : Int32) (v2 : Int32) (v3 : Int32) {H : Heap} {locs : List Loc} {ls : Array Slot}, K13 σ v1 v2 v3 → wb G A s (wX G a σ) H locs → lv_has ls 4 [(0, .ref (a.1 13)), (1, .int v1), (2, .int v2), (3, .int v3)] → W p l e (rr 56 1405) s m args below meth c H locs 0 0 (MQ below (va_Qi post (po G A (wX G a)) A) args s 0 0 A) (F0 m 13 ls [])) (σ : SX) (v1 : Int32) (v2 : Int32) (v3 : Int32) {H : Heap} {locs : List Loc} {ls : Array Slot} (hw : wb G A s (wX G a σ) H locs) (hl : lv_has ls 4 [(0, .ref (a.1 13)), (1, .int v1), (2, .int v2), (3, .int v3)]) (hok : wp_X1_tick_13 σ v1 v2 v3 K13 post) :
    W p l e (rr 56 1405) s m args below meth c H locs 0 0 (MQ below (va_Qi post (po G A (wX G a)) A) args s 0 0 A) (F0 m 13 ls []) := by
  unfold wp_X1_tick_13 at hok
  refine lv_iload_n hF.x hF.b dX1_tick_13 rfl (lv_at hl 3 rfl) ?_
  refine lv_iload_n hF.x hF.b dX1_tick_14 rfl (lv_at hl 1 rfl) ?_
  refine lv_icmp_ge (tgt := 47) hF.x hF.b dX1_tick_15 (by decide) (fun c1 => ?_) (fun c1 => ?_)
  · replace hok := hok.1 c1
    refine lv_iload_n hF.x hF.b dX1_tick_47 rfl (lv_at hl 2 rfl) ?_
    exact rt_I (u := σ) hF hw hok (Nat.zero_le _) (Nat.zero_le _) dX1_tick_48
  · replace hok := hok.2 c1
    refine lv_aload_n hF.x hF.b dX1_tick_18 rfl (lv_at hl 0 rfl) ?_
    refine lv_iconst (v := 0) hF.x hF.b dX1_tick_19 (by decide) ?_
    refine rx_put (v := 0) 11 hF hw (by decide) wf_X1_49 dX1_tick_20 (fun σ2 H locs eσ2 hw => ?_)
    replace hok := hok σ2 eσ2
    refine lv_aload_n hF.x hF.b dX1_tick_23 rfl (lv_at hl 0 rfl) ?_
    refine ca_V hF hw (c1_doLongestWaiting l G a σ2  hok.1) wv_X1_121 (q0 := 0) rfl rfl rfl ⟨nd_X1.1, nd_X1.2, pd_X1_doLongestWaiting⟩ ⟨Nat.le_of_ble_eq_true rfl, Nat.le_of_ble_eq_true rfl⟩ ⟨Nat.zero_le _, Nat.zero_le _⟩ hl.1 rfl (by first | exact Nat.le_of_ble_eq_true rfl | simp [cat_rf, Value.category]) dX1_tick_24 (fun σ3 H locs eσ3 hw => ?_)
    replace hok := hok.2 σ3 eσ3
    refine lv_aload_n hF.x hF.b dX1_tick_27 rfl (lv_at hl 0 rfl) ?_
    refine ca_V hF hw (c1_noteFailure l G a σ3  hok.1) wv_X1_114 (q0 := 0) rfl rfl rfl ⟨nd_X1.1, nd_X1.2, pd_X1_noteFailure⟩ ⟨Nat.le_of_ble_eq_true rfl, Nat.le_of_ble_eq_true rfl⟩ ⟨Nat.zero_le _, Nat.zero_le _⟩ hl.1 rfl (by first | exact Nat.le_of_ble_eq_true rfl | simp [cat_rf, Value.category]) dX1_tick_28 (fun σ4 H locs eσ4 hw => ?_)
    replace hok := hok.2 σ4 eσ4
    refine lv_aload_n hF.x hF.b dX1_tick_31 rfl (lv_at hl 0 rfl) ?_
    refine r_get hF hw 0 rfl rfl inlX1 11 (by decide) wf_X1_49 rfl dX1_tick_32 ?_
    refine lv_if_ne (tgt := 41) hF.x hF.b dX1_tick_35 (by decide) (fun c5 => ?_) (fun c5 => ?_)
    · replace hok := hok.1 c5
      exact k_X1_tick_41  hF hK13 σ4 v1 v2 v3 hw (lv_sub hl [0, 1, 2, 3] rfl) hok
    · replace hok := hok.2 c5
      obtain ⟨x6, ex6⟩ : ∃ z : Int32, z = v2 + 1 := ⟨_, rfl⟩
      replace hok := hok x6 ex6
      refine lv_iinc (v := x6) (lv' := [(2, .int x6), (0, .ref (a.1 13)), (1, .int v1), (3, .int v3)]) hF.x hF.b dX1_tick_38 hl (k := 2) rfl (by rw [ex6]; rfl) (by decide) rfl (fun ls hl => ?_)
      exact k_X1_tick_41  hF hK13 σ4 v1 x6 v3 hw (lv_sub hl [1, 2, 0, 3] rfl) hok
def wp_X1_tick_0 (σ : SX)  (K13 : SX → Int32 → Int32 → Int32 → Prop) (post : Int32 → SX → Prop) : Prop :=
  q1_begin σ  ∧ ∀ σ1 : SX, σ1 = (f1_begin σ ) → K13 σ1 (σ1.1 7) 0 0
set_option maxHeartbeats 4000000 in
set_option maxRecDepth 100000 in
theorem k_X1_tick_0 {l : Launch} {p : Program} {e : Env} {s : State} {m : MethodId} {below : List Frame} {meth : Method} {c : Code} {args : Array Value} {A : Nat → Prop} {G : Gm} {a : AX}  (hF : fx p s m args meth c cX1_tick 4 yX1_tick.cls kX1_tick (some (.int))) {post : Int32 → SX → Prop} {K13 : SX → Int32 → Int32 → Int32 → Prop} (hK13 : ∀ (σ : SX) (v1 : Int32) (v2 : Int32) (v3 : Int32) {H : Heap} {locs : List Loc} {ls : Array Slot}, K13 σ v1 v2 v3 → wb G A s (wX G a σ) H locs → lv_has ls 4 [(0, .ref (a.1 13)), (1, .int v1), (2, .int v2), (3, .int v3)] → W p l e (rr 56 1405) s m args below meth c H locs 0 0 (MQ below (va_Qi post (po G A (wX G a)) A) args s 0 0 A) (F0 m 13 ls [])) (σ : SX)  {H : Heap} {locs : List Loc} {ls : Array Slot} (hw : wb G A s (wX G a σ) H locs) (hl : lv_has ls 4 [(0, .ref (a.1 13))]) (hok : wp_X1_tick_0 σ  K13 post) :
    W p l e (rr 56 1405) s m args below meth c H locs 0 0 (MQ below (va_Qi post (po G A (wX G a)) A) args s 0 0 A) (F0 m 0 ls []) := by
  unfold wp_X1_tick_0 at hok
  refine lv_aload_n hF.x hF.b dX1_tick_0 rfl (lv_at hl 0 rfl) ?_
  refine ca_V hF hw (c1_begin l G a σ  hok.1) wv_X1_107 (q0 := 0) rfl rfl rfl ⟨nd_X1.1, nd_X1.2, pd_X1_begin⟩ ⟨Nat.le_of_ble_eq_true rfl, Nat.le_of_ble_eq_true rfl⟩ ⟨Nat.zero_le _, Nat.zero_le _⟩ hl.1 rfl (by first | exact Nat.le_of_ble_eq_true rfl | simp [cat_rf, Value.category]) dX1_tick_1 (fun σ1 H locs eσ1 hw => ?_)
  replace hok := hok.2 σ1 eσ1
  refine lv_aload_n hF.x hF.b dX1_tick_4 rfl (lv_at hl 0 rfl) ?_
  refine r_get hF hw 0 rfl rfl inlX1 7 (by decide) wf_X1_37 rfl dX1_tick_5 ?_
  refine lv_istore_n (lv' := [(1, .int (σ1.1 7)), (0, .ref (a.1 13))]) hF.x hF.b dX1_tick_8 rfl hl (by decide) rfl (fun ls hl => ?_)
  refine lv_iconst (v := 0) hF.x hF.b dX1_tick_9 (by decide) ?_
  refine lv_istore_n (lv' := [(2, .int 0), (1, .int (σ1.1 7)), (0, .ref (a.1 13))]) hF.x hF.b dX1_tick_10 rfl hl (by decide) rfl (fun ls hl => ?_)
  refine lv_iconst (v := 0) hF.x hF.b dX1_tick_11 (by decide) ?_
  refine lv_istore_n (lv' := [(3, .int 0), (2, .int 0), (1, .int (σ1.1 7)), (0, .ref (a.1 13))]) hF.x hF.b dX1_tick_12 rfl hl (by decide) rfl (fun ls hl => ?_)
  exact hK13 σ1 (σ1.1 7) 0 0 hok hw (lv_sub hl [3, 2, 1, 0] rfl)

theorem lp_X1_tick_13 {l : Launch} {p : Program} {e : Env} {s : State} {m : MethodId} {below : List Frame} {meth : Method} {c : Code} {args : Array Value} {A : Nat → Prop} {G : Gm} {a : AX}  (hF : fx p s m args meth c cX1_tick 4 yX1_tick.cls kX1_tick (some (.int))) {post : Int32 → SX → Prop}  (Inv : Nat → SX → Int32 → Int32 → Int32 → Prop) (hstep : ∀ (n : Nat) (σ : SX) (v1 : Int32) (v2 : Int32) (v3 : Int32), Inv n σ v1 v2 v3 → wp_X1_tick_13 σ v1 v2 v3 (fun σq v1' v2' v3' => ∃ nq, nq < n ∧ Inv nq σq v1' v2' v3') post) :
    ∀ (n : Nat) (σ : SX) (v1 : Int32) (v2 : Int32) (v3 : Int32) {H : Heap} {locs : List Loc} {ls : Array Slot}, Inv n σ v1 v2 v3 → wb G A s (wX G a σ) H locs → lv_has ls 4 [(0, .ref (a.1 13)), (1, .int v1), (2, .int v2), (3, .int v3)] → W p l e (rr 56 1405) s m args below meth c H locs 0 0 (MQ below (va_Qi post (po G A (wX G a)) A) args s 0 0 A) (F0 m 13 ls []) := by
  intro n
  induction n using Nat.strongRecOn with
  | _ n ih =>
    intro σ v1 v2 v3 H locs ls hI hw hl
    exact k_X1_tick_13  hF (post := post) (K13 := fun σq v1' v2' v3' => ∃ nq, nq < n ∧ Inv nq σq v1' v2' v3') (by intro σq v1' v2' v3' H locs ls hI hw hl; exact ih hI.choose hI.choose_spec.1 σq v1' v2' v3' hI.choose_spec.2 hw hl) σ v1 v2 v3 hw hl (hstep n σ v1 v2 v3 hI)

theorem p1_tick_step {N : Int32} (tg : Int32 × SX) (n : Nat) (σ : SX) (v1 v2 v3 : Int32) (hI : v1 = N ∧ WFX σ ∧ (n : Int) ≤ (σ.1 7).toInt ∧ ∃ j : Nat, N = nI (j + n) ∧ j + n ≤ 12 ∧ v3 = nI j ∧ fx_tick n σ v2 = tg) :
    wp_X1_tick_13 σ v1 v2 v3 (fun σq v1' v2' v3' => ∃ nq, nq < n ∧ (v1' = N ∧ WFX σq ∧ (nq : Int) ≤ (σq.1 7).toInt ∧ ∃ j : Nat, N = nI (j + nq) ∧ j + nq ≤ 12 ∧ v3' = nI j ∧ fx_tick nq σq v2' = tg)) (fun r u => r = tg.1 ∧ u = tg.2) := by
  obtain ⟨rfl, hW, hn, j, e1, hj, rfl, ht⟩ := hI
  refine ⟨fun c => ?_, fun c σ2 e2 => ?_⟩
  · rw [e1, nI_leI (by omega) (by omega)] at c
    have : n = 0 := by omega
    subst this
    rw [← ht]
    exact ⟨rfl, rfl⟩
  · rw [e1, nI_leI (by omega) (by omega)] at c
    cases n with
    | zero => omega
    | succ n =>
      have h0 : WF1 σ := ⟨hW, by omega⟩
      have hs : WF1 (sxI σ 11 0) := ⟨(XK.sI hW 11 0 (by decide) (by decide)).1, h0.2⟩
      have hk := tick1_K h0
      subst e2
      refine ⟨hs, fun σ3 e3 => ⟨trivial, fun σ4 e4 => ?_⟩⟩
      subst e3
      obtain rfl : σ4 = fx_tick1 σ := e4
      simp only [fx_tick] at ht
      refine ⟨fun c2 => ?_, fun c2 x6 e6 => ?_⟩
      · intro x1 ex
        rw [if_neg c2] at ht
        exact ⟨n, Nat.lt_succ_self n, rfl, hk.1, by omega, j + 1, by rw [e1]; congr 1; omega, by omega, by rw [ex, nI_1], ht⟩
      · intro x1 ex
        rw [if_pos c2] at ht
        exact ⟨n, Nat.lt_succ_self n, rfl, hk.1, by omega, j + 1, by rw [e1]; congr 1; omega, by omega, by rw [ex, nI_1], by rw [e6]; exact ht⟩
theorem c1_tick (l : Launch) (G : Gm) (a : AX) (σ : SX) (h : q1_tick σ) : ctI l yX1_tick cX1_tick 4 .int (rr 56 1405) G [.ref (a.1 13)] (wX G a σ) (fun (r : Int32) (u : SX) => r = (f1_tick σ).1 ∧ u = (f1_tick σ).2) (wX G a) := by
  refine en_I (by decide +kernel) (Nat.le_of_ble_eq_true rfl) (fun p e s m below meth c A ls hF hw hl => ?_)
  have hb := XK.begin h
  refine k_X1_tick_0 hF (K13 := fun σq v1' v2' v3' => ∃ nq : Nat, (v1' = σ.1 7 ∧ WFX σq ∧ (nq : Int) ≤ (σq.1 7).toInt ∧ ∃ j : Nat, σ.1 7 = nI (j + nq) ∧ j + nq ≤ 12 ∧ v3' = nI j ∧ fx_tick nq σq v2' = f1_tick σ)) ?_ σ hw hl ?_
  · intro σq v1' v2' v3' H locs ls hI hw hl
    exact lp_X1_tick_13 hF _ (p1_tick_step (f1_tick σ)) hI.choose σq v1' v2' v3' hI.choose_spec hw hl
  · refine ⟨trivial, fun σ1 e1 => ?_⟩
    subst e1
    obtain ⟨q, w, hq, hww, e6, e7⟩ := h.2.2.2.2
    have ec : (σ.1 7).toNatClampNeg = w := by rw [e7, nI_clamp (by omega)]
    refine ⟨w, rfl, hb.1, ?_, 0, by rw [e7, Nat.zero_add], by omega, rfl, by simp only [f1_tick]; rw [ec]⟩
    rw [show (f1_begin σ).1 7 = σ.1 7 from rfl, e7, nI_toInt (by omega)]
    omega

def wp_X1_failed_0 (σ : SX)   (post : Int32 → SX → Prop) : Prop :=
  post (σ.1 12) σ
set_option maxHeartbeats 4000000 in
set_option maxRecDepth 100000 in
theorem k_X1_failed_0 {l : Launch} {p : Program} {e : Env} {s : State} {m : MethodId} {below : List Frame} {meth : Method} {c : Code} {args : Array Value} {A : Nat → Prop} {G : Gm} {a : AX}  (hF : fx p s m args meth c cX1_failed 1 yX1_failed.cls kX1_failed (some (.int))) {post : Int32 → SX → Prop}  (σ : SX)  {H : Heap} {locs : List Loc} {ls : Array Slot} (hw : wb G A s (wX G a σ) H locs) (hl : lv_has ls 1 [(0, .ref (a.1 13))]) (hok : wp_X1_failed_0 σ   post) :
    W p l e (rr 0 0) s m args below meth c H locs 0 0 (MQ below (va_Qi post (po G A (wX G a)) A) args s 0 0 A) (F0 m 0 ls []) := by
  unfold wp_X1_failed_0 at hok
  refine lv_aload_n hF.x hF.b dX1_failed_0 rfl (lv_at hl 0 rfl) ?_
  refine r_get hF hw 0 rfl rfl inlX1 12 (by decide) wf_X1_52 rfl dX1_failed_1 ?_
  exact rt_I (u := σ) hF hw hok (Nat.zero_le _) (Nat.zero_le _) dX1_failed_4

theorem p1_failed (σ : SX) (_ : q1_failed σ) : wp_X1_failed_0 σ (fun r u => r = (f1_failed σ).1 ∧ u = (f1_failed σ).2) := ⟨rfl, rfl⟩

theorem c1_failed (l : Launch) (G : Gm) (a : AX) (σ : SX)  (h : q1_failed σ ) : ctI l yX1_failed cX1_failed 1 .int (rr 0 0) G [.ref (a.1 13)] (wX G a σ) (fun (r : Int32) (u : SX) => r = (f1_failed σ ).1 ∧ u = (f1_failed σ ).2) (wX G a) := by
  refine en_I (by decide +kernel) (Nat.le_of_ble_eq_true rfl) (fun p e s m below meth c A ls hF hw hl => ?_)
  exact k_X1_failed_0 hF σ  hw hl (p1_failed σ  h)

def wp_X1_told_0 (σ : SX) (v1 : Int32)  (post : Int32 → SX → Prop) : Prop :=
  (v1.toInt < 0 ∨ 4 < v1.toInt → post ((-1)) σ) ∧ (v1 = 0 → post (σ.1 8) σ) ∧ (v1 = 1 → post (σ.1 7) σ) ∧ (v1 = 2 → post (σ.1 9) σ) ∧ (v1 = 3 → post (σ.1 10) σ) ∧ (v1 = 4 → q1_slotsInUse σ  ∧ ∀ (r2 : Int32) (σ3 : SX), r2 = (f1_slotsInUse σ ).1 → σ3 = (f1_slotsInUse σ ).2 → post r2 σ3)
set_option maxHeartbeats 4000000 in
set_option maxRecDepth 100000 in
theorem k_X1_told_0 {l : Launch} {p : Program} {e : Env} {s : State} {m : MethodId} {below : List Frame} {meth : Method} {c : Code} {args : Array Value} {A : Nat → Prop} {G : Gm} {a : AX}  (hF : fx p s m args meth c cX1_told 2 yX1_told.cls kX1_told (some (.int))) {post : Int32 → SX → Prop}  (σ : SX) (v1 : Int32) {H : Heap} {locs : List Loc} {ls : Array Slot} (hw : wb G A s (wX G a σ) H locs) (hl : lv_has ls 2 [(0, .ref (a.1 13)), (1, .int v1)]) (hok : wp_X1_told_0 σ v1  post) :
    W p l e (rr 1 22) s m args below meth c H locs 0 0 (MQ below (va_Qi post (po G A (wX G a)) A) args s 0 0 A) (F0 m 0 ls []) := by
  unfold wp_X1_told_0 at hok
  refine lv_iload_n hF.x hF.b dX1_told_0 rfl (lv_at hl 1 rfl) ?_
  by_cases c1 : v1.toInt < 0 ∨ 4 < v1.toInt
  · replace hok := hok.1 c1
    refine lv_tableOut (tgt := 61) hF.x hF.b dX1_told_1 c1 (by decide) ?_
    refine lv_iconst (v := (-1)) hF.x hF.b dX1_told_61 (by decide) ?_
    exact rt_I (u := σ) hF hw hok (Nat.zero_le _) (Nat.zero_le _) dX1_told_62
  · obtain ⟨j, hj1, hj2, ex⟩ := sw_in (lo := 0) (hi := 4) c1 (by decide)
    rcases (show j = 0 ∨ j = 1 ∨ j = 2 ∨ j = 3 ∨ j = 4 by omega) with rfl | rfl | rfl | rfl | rfl
    · replace hok := hok.2.1 ex
      refine lv_tableIn (off := 35) (tgt := 36) hF.x hF.b dX1_told_1 (by rw [ex]; decide) (by rw [ex]; decide) (by rw [ex]; rfl) (by decide) ?_
      refine lv_aload_n hF.x hF.b dX1_told_36 rfl (lv_at hl 0 rfl) ?_
      refine r_get hF hw 0 rfl rfl inlX1 8 (by decide) wf_X1_40 rfl dX1_told_37 ?_
      exact rt_I (u := σ) hF hw hok (Nat.zero_le _) (Nat.zero_le _) dX1_told_40
    · replace hok := hok.2.2.1 ex
      refine lv_tableIn (off := 40) (tgt := 41) hF.x hF.b dX1_told_1 (by rw [ex]; decide) (by rw [ex]; decide) (by rw [ex]; rfl) (by decide) ?_
      refine lv_aload_n hF.x hF.b dX1_told_41 rfl (lv_at hl 0 rfl) ?_
      refine r_get hF hw 0 rfl rfl inlX1 7 (by decide) wf_X1_37 rfl dX1_told_42 ?_
      exact rt_I (u := σ) hF hw hok (Nat.zero_le _) (Nat.zero_le _) dX1_told_45
    · replace hok := hok.2.2.2.1 ex
      refine lv_tableIn (off := 45) (tgt := 46) hF.x hF.b dX1_told_1 (by rw [ex]; decide) (by rw [ex]; decide) (by rw [ex]; rfl) (by decide) ?_
      refine lv_aload_n hF.x hF.b dX1_told_46 rfl (lv_at hl 0 rfl) ?_
      refine r_get hF hw 0 rfl rfl inlX1 9 (by decide) wf_X1_43 rfl dX1_told_47 ?_
      exact rt_I (u := σ) hF hw hok (Nat.zero_le _) (Nat.zero_le _) dX1_told_50
    · replace hok := hok.2.2.2.2.1 ex
      refine lv_tableIn (off := 50) (tgt := 51) hF.x hF.b dX1_told_1 (by rw [ex]; decide) (by rw [ex]; decide) (by rw [ex]; rfl) (by decide) ?_
      refine lv_aload_n hF.x hF.b dX1_told_51 rfl (lv_at hl 0 rfl) ?_
      refine r_get hF hw 0 rfl rfl inlX1 10 (by decide) wf_X1_46 rfl dX1_told_52 ?_
      exact rt_I (u := σ) hF hw hok (Nat.zero_le _) (Nat.zero_le _) dX1_told_55
    · replace hok := hok.2.2.2.2.2 ex
      refine lv_tableIn (off := 55) (tgt := 56) hF.x hF.b dX1_told_1 (by rw [ex]; decide) (by rw [ex]; decide) (by rw [ex]; rfl) (by decide) ?_
      refine lv_aload_n hF.x hF.b dX1_told_56 rfl (lv_at hl 0 rfl) ?_
      refine ca_I hF hw (c1_slotsInUse l G a σ  hok.1) wv_X1_124 (q0 := 0) rfl rfl rfl ⟨nd_X1.1, nd_X1.2, pd_X1_slotsInUse⟩ ⟨Nat.le_of_ble_eq_true rfl, Nat.le_of_ble_eq_true rfl⟩ ⟨Nat.zero_le _, Nat.zero_le _⟩ hl.1 rfl (by first | exact Nat.le_of_ble_eq_true rfl | simp [cat_rf, Value.category]) dX1_told_57 (fun r2 σ3 H locs hp hw => ?_)
      obtain ⟨er2, eσ3⟩ := hp
      replace hok := hok.2 r2 σ3 er2 eσ3
      exact rt_I (u := σ3) hF hw hok (Nat.zero_le _) (Nat.zero_le _) dX1_told_60

theorem p1_told (σ : SX) (v1 : Int32) (_ : q1_told σ v1) : wp_X1_told_0 σ v1 (fun r u => r = (f1_told σ v1).1 ∧ u = (f1_told σ v1).2) := by
  refine ⟨fun c => ⟨?_, rfl⟩, fun c => ⟨?_, rfl⟩, fun c => ⟨?_, rfl⟩, fun c => ⟨?_, rfl⟩, fun c => ⟨?_, rfl⟩, fun c => ⟨trivial, fun r2 σ3 e2 e3 => ⟨?_, e3⟩⟩⟩ <;> simp only [f1_told]
  · have hk : ∀ n : Nat, n ≤ 4 → ¬ v1 = nI n := fun n hn e => by
      rw [e, nI_toInt (by omega)] at c
      omega
    rw [if_neg (show ¬ v1 = 0 from hk 0 (by decide)), if_neg (show ¬ v1 = 1 from hk 1 (by decide)), if_neg (show ¬ v1 = 2 from hk 2 (by decide)), if_neg (show ¬ v1 = 3 from hk 3 (by decide)), if_neg (show ¬ v1 = 4 from hk 4 (by decide))]
  · rw [c, if_pos (by decide)]
  · rw [c, if_neg (by decide), if_pos (by decide)]
  · rw [c, if_neg (by decide), if_neg (by decide), if_pos (by decide)]
  · rw [c, if_neg (by decide), if_neg (by decide), if_neg (by decide), if_pos (by decide)]
  · rw [c, if_neg (by decide), if_neg (by decide), if_neg (by decide), if_neg (by decide), if_pos (by decide)]; exact e2

theorem c1_told (l : Launch) (G : Gm) (a : AX) (σ : SX) (v1 : Int32) (h : q1_told σ v1) : ctI l yX1_told cX1_told 2 .int (rr 1 22) G [.ref (a.1 13), .int v1] (wX G a σ) (fun (r : Int32) (u : SX) => r = (f1_told σ v1).1 ∧ u = (f1_told σ v1).2) (wX G a) := by
  refine en_I (by decide +kernel) (Nat.le_of_ble_eq_true rfl) (fun p e s m below meth c A ls hF hw hl => ?_)
  exact k_X1_told_0 hF σ v1 hw hl (p1_told σ v1 h)

def wp_X1_clear_0 (σ : SX)   (post : Int32 → SX → Prop) : Prop :=
  q1_emptyHall σ  ∧ ∀ σ1 : SX, σ1 = (f1_emptyHall σ ) → q1_emptyDeeds σ1  ∧ ∀ σ2 : SX, σ2 = (f1_emptyDeeds σ1 ) → ∀ σ3 : SX, σ3 = (va_up σ2.1 6 0, σ2.2) → ∀ σ4 : SX, σ4 = (va_up σ3.1 7 0, σ3.2) → ∀ σ5 : SX, σ5 = (va_up σ4.1 8 0, σ4.2) → ∀ σ6 : SX, σ6 = (va_up σ5.1 10 0, σ5.2) → q1_begin σ6  ∧ ∀ σ7 : SX, σ7 = (f1_begin σ6 ) → post (σ.1 8) σ7
set_option maxHeartbeats 4000000 in
set_option maxRecDepth 100000 in
theorem k_X1_clear_0 {l : Launch} {p : Program} {e : Env} {s : State} {m : MethodId} {below : List Frame} {meth : Method} {c : Code} {args : Array Value} {A : Nat → Prop} {G : Gm} {a : AX}  (hF : fx p s m args meth c cX1_clear 2 yX1_clear.cls kX1_clear (some (.int))) {post : Int32 → SX → Prop}  (σ : SX)  {H : Heap} {locs : List Loc} {ls : Array Slot} (hw : wb G A s (wX G a σ) H locs) (hl : lv_has ls 2 [(0, .ref (a.1 13))]) (hok : wp_X1_clear_0 σ   post) :
    W p l e (rr 1 21) s m args below meth c H locs 0 0 (MQ below (va_Qi post (po G A (wX G a)) A) args s 0 0 A) (F0 m 0 ls []) := by
  unfold wp_X1_clear_0 at hok
  refine lv_aload_n hF.x hF.b dX1_clear_0 rfl (lv_at hl 0 rfl) ?_
  refine r_get hF hw 0 rfl rfl inlX1 8 (by decide) wf_X1_40 rfl dX1_clear_1 ?_
  refine lv_istore_n (lv' := [(1, .int (σ.1 8)), (0, .ref (a.1 13))]) hF.x hF.b dX1_clear_4 rfl hl (by decide) rfl (fun ls hl => ?_)
  refine lv_aload_n hF.x hF.b dX1_clear_5 rfl (lv_at hl 1 rfl) ?_
  refine ca_V hF hw (c1_emptyHall l G a σ  hok.1) wv_X1_128 (q0 := 0) rfl rfl rfl ⟨nd_X1.1, nd_X1.2, pd_X1_emptyHall⟩ ⟨Nat.le_of_ble_eq_true rfl, Nat.le_of_ble_eq_true rfl⟩ ⟨Nat.zero_le _, Nat.zero_le _⟩ hl.1 rfl (by first | exact Nat.le_of_ble_eq_true rfl | simp [cat_rf, Value.category]) dX1_clear_6 (fun σ1 H locs eσ1 hw => ?_)
  replace hok := hok.2 σ1 eσ1
  refine lv_aload_n hF.x hF.b dX1_clear_9 rfl (lv_at hl 1 rfl) ?_
  refine ca_V hF hw (c1_emptyDeeds l G a σ1  hok.1) wv_X1_131 (q0 := 0) rfl rfl rfl ⟨nd_X1.1, nd_X1.2, pd_X1_emptyDeeds⟩ ⟨Nat.le_of_ble_eq_true rfl, Nat.le_of_ble_eq_true rfl⟩ ⟨Nat.zero_le _, Nat.zero_le _⟩ hl.1 rfl (by first | exact Nat.le_of_ble_eq_true rfl | simp [cat_rf, Value.category]) dX1_clear_10 (fun σ2 H locs eσ2 hw => ?_)
  replace hok := hok.2 σ2 eσ2
  refine lv_aload_n hF.x hF.b dX1_clear_13 rfl (lv_at hl 1 rfl) ?_
  refine lv_iconst (v := 0) hF.x hF.b dX1_clear_14 (by decide) ?_
  refine rx_put (v := 0) 6 hF hw (by decide) wf_X1_33 dX1_clear_15 (fun σ3 H locs eσ3 hw => ?_)
  replace hok := hok σ3 eσ3
  refine lv_aload_n hF.x hF.b dX1_clear_18 rfl (lv_at hl 1 rfl) ?_
  refine lv_iconst (v := 0) hF.x hF.b dX1_clear_19 (by decide) ?_
  refine rx_put (v := 0) 7 hF hw (by decide) wf_X1_37 dX1_clear_20 (fun σ4 H locs eσ4 hw => ?_)
  replace hok := hok σ4 eσ4
  refine lv_aload_n hF.x hF.b dX1_clear_23 rfl (lv_at hl 1 rfl) ?_
  refine lv_iconst (v := 0) hF.x hF.b dX1_clear_24 (by decide) ?_
  refine rx_put (v := 0) 8 hF hw (by decide) wf_X1_40 dX1_clear_25 (fun σ5 H locs eσ5 hw => ?_)
  replace hok := hok σ5 eσ5
  refine lv_aload_n hF.x hF.b dX1_clear_28 rfl (lv_at hl 1 rfl) ?_
  refine lv_iconst (v := 0) hF.x hF.b dX1_clear_29 (by decide) ?_
  refine rx_put (v := 0) 10 hF hw (by decide) wf_X1_46 dX1_clear_30 (fun σ6 H locs eσ6 hw => ?_)
  replace hok := hok σ6 eσ6
  refine lv_aload_n hF.x hF.b dX1_clear_33 rfl (lv_at hl 1 rfl) ?_
  refine ca_V hF hw (c1_begin l G a σ6  hok.1) wv_X1_107 (q0 := 0) rfl rfl rfl ⟨nd_X1.1, nd_X1.2, pd_X1_begin⟩ ⟨Nat.le_of_ble_eq_true rfl, Nat.le_of_ble_eq_true rfl⟩ ⟨Nat.zero_le _, Nat.zero_le _⟩ hl.1 rfl (by first | exact Nat.le_of_ble_eq_true rfl | simp [cat_rf, Value.category]) dX1_clear_34 (fun σ7 H locs eσ7 hw => ?_)
  replace hok := hok.2 σ7 eσ7
  refine lv_iload_n hF.x hF.b dX1_clear_37 rfl (lv_at hl 0 rfl) ?_
  exact rt_I (u := σ7) hF hw hok (Nat.zero_le _) (Nat.zero_le _) dX1_clear_38

theorem p1_clear (σ : SX) (_ : q1_clear σ) : wp_X1_clear_0 σ (fun r u => r = (f1_clear σ).1 ∧ u = (f1_clear σ).2) := by
  refine ⟨trivial, fun σ1 e1 => ⟨trivial, fun σ2 e2 σ3 e3 σ4 e4 σ5 e5 σ6 e6 => ⟨trivial, fun σ7 e7 => ?_⟩⟩⟩
  subst e1; subst e2; subst e3; subst e4; subst e5; subst e6; subst e7
  exact ⟨rfl, rfl⟩

theorem c1_clear (l : Launch) (G : Gm) (a : AX) (σ : SX)  (h : q1_clear σ ) : ctI l yX1_clear cX1_clear 2 .int (rr 1 21) G [.ref (a.1 13)] (wX G a σ) (fun (r : Int32) (u : SX) => r = (f1_clear σ ).1 ∧ u = (f1_clear σ ).2) (wX G a) := by
  refine en_I (by decide +kernel) (Nat.le_of_ble_eq_true rfl) (fun p e s m below meth c A ls hF hw hl => ?_)
  exact k_X1_clear_0 hF σ  hw hl (p1_clear σ  h)
end
section
/-! the calls that make: gauge, deed -/
theorem range_up {α : Type} (f g : Nat → α) (n : Nat) (h : ∀ d, d < n → f d = g d) : (List.range n).map f = (List.range n).map g := List.map_congr_left (fun d hd => h d (List.mem_range.mp hd))
theorem map_up {o : Option Nat} {f : Nat → Nat} {n q : Nat} (h : ∀ d, o = some d → d < n) : o.map (va_up f n q) = o.map f := by
  cases o with
  | none => rfl
  | some d => simp only [Option.map_some]; rw [va_up_ne _ _ (Nat.ne_of_lt (h d rfl))]
theorem wX_newR {G : Gm} {a : AX} {σ : SX} (h : WFX σ) (q N : Nat) (f : Nat → Int32) : wX G a σ ++ [(q, .inl (G.2.1, N, .inl f))] = wX G (a.1, a.2.1, va_up a.2.2 σ.2.2.2.2.1 q) (σ.1, σ.2.1, σ.2.2.1, σ.2.2.2.1, (σ.2.2.2.2.1 + 1, va_up σ.2.2.2.2.2 σ.2.2.2.2.1 (N, f))) := by
  have e1 : (fun i => (σ.2.2.1 1 i).map (va_up a.2.2 σ.2.2.2.2.1 q)) = fun i => (σ.2.2.1 1 i).map a.2.2 := by
    funext i
    exact map_up (fun d hd => h.2.1 i d hd)
  have e2 : dPl (a.1, a.2.1, va_up a.2.2 σ.2.2.2.2.1 q) σ.2.2.2.1.1 σ.2.2.2.1.2 = dPl a σ.2.2.2.1.1 σ.2.2.2.1.2 := by
    unfold dPl
    refine range_up _ _ _ (fun d hd => ?_)
    simp only [dF]
    rw [map_up (fun r hr => (h.2.2.1 d hd).2.2 r hr)]
  have e3 : rPl G (a.1, a.2.1, va_up a.2.2 σ.2.2.2.2.1 q) (σ.2.2.2.2.1 + 1) (va_up σ.2.2.2.2.2 σ.2.2.2.2.1 (N, f)) = rPl G a σ.2.2.2.2.1 σ.2.2.2.2.2 ++ [(q, .inl (G.2.1, N, .inl f))] := by
    unfold rPl
    rw [List.range_succ, List.map_append]
    congr 1
    · refine range_up _ _ _ (fun d hd => ?_)
      simp only [va_up_ne _ _ (Nat.ne_of_lt hd)]
    · simp only [List.map_cons, List.map_nil, va_up_self]
  simp only [wX]
  rw [e1, e2, e3]
  simp only [List.cons_append, List.append_assoc]
  rfl
/-- a deed as it is made -/
def mkD (k x y z : Int32) (f s g : Option Nat) : DX := (fun j => if j = 0 then k else if j = 1 then x else if j = 2 then y else if j = 3 then z else 0, fun j => if j = 4 then f else if j = 5 then s else if j = 6 then g else none)
theorem wb_newD {G : Gm} {A : Nat → Prop} {s : State} {a : AX} {σ : SX} {H : Heap} {locs : List Loc} (h : WFX σ) (q : Nat) (k x y z : Int32) (fo so g : Option Nat) (hf : okO σ fo) (hs : okO σ so) (hw : wb G A s (wX G a σ ++ [(q, .inr (0, [.int k, .int x, .int y, .int z, va_rf (fo.map a.2.1), va_rf (so.map a.2.1), va_rf (g.map a.2.2), .int 0]))]) H locs) :
    wb G A s (wX G (a.1, va_up a.2.1 σ.2.2.2.1.1 q, a.2.2) (σ.1, σ.2.1, σ.2.2.1, (σ.2.2.2.1.1 + 1, va_up σ.2.2.2.1.2 σ.2.2.2.1.1 (mkD k x y z fo so g)), σ.2.2.2.2)) H locs := by
  have eO : ∀ j, (j = 2 ∨ j = 3 ∨ j = 4) → (fun i => (σ.2.2.1 j i).map (va_up a.2.1 σ.2.2.2.1.1 q)) = fun i => (σ.2.2.1 j i).map a.2.1 := by
    intro j hj
    funext i
    exact map_up (fun d hd => h.1 j i d hj hd)
  have e2 : dPl (a.1, va_up a.2.1 σ.2.2.2.1.1 q, a.2.2) (σ.2.2.2.1.1 + 1) (va_up σ.2.2.2.1.2 σ.2.2.2.1.1 (mkD k x y z fo so g)) = dPl a σ.2.2.2.1.1 σ.2.2.2.1.2 ++ [(q, .inr (0, [.int k, .int x, .int y, .int z, va_rf (fo.map a.2.1), va_rf (so.map a.2.1), va_rf (g.map a.2.2), .int 0]))] := by
    unfold dPl
    rw [List.range_succ, List.map_append]
    congr 1
    · refine range_up _ _ _ (fun d hd => ?_)
      rw [va_up_ne _ _ (Nat.ne_of_lt hd)]
      simp only [dF]
      rw [va_up_ne _ _ (Nat.ne_of_lt hd), map_up (fun r hr => (h.2.2.1 d hd).1 r hr), map_up (fun r hr => (h.2.2.1 d hd).2.1 r hr)]
    · simp only [List.map_cons, List.map_nil, va_up_self, dF, mkD]
      simp only [show ¬ (1 : Nat) = 0 by decide, show ¬ (2 : Nat) = 0 by decide, show ¬ (2 : Nat) = 1 by decide, show ¬ (3 : Nat) = 0 by decide, show ¬ (3 : Nat) = 1 by decide, show ¬ (3 : Nat) = 2 by decide, show ¬ (7 : Nat) = 0 by decide, show ¬ (7 : Nat) = 1 by decide, show ¬ (7 : Nat) = 2 by decide, show ¬ (7 : Nat) = 3 by decide, show ¬ (5 : Nat) = 4 by decide, show ¬ (6 : Nat) = 4 by decide, show ¬ (6 : Nat) = 5 by decide, if_true, if_false]
      rw [map_up hf, map_up hs]
  obtain ⟨h1, h2, h3, h4, h5⟩ := hw
  have e : wX G (a.1, va_up a.2.1 σ.2.2.2.1.1 q, a.2.2) (σ.1, σ.2.1, σ.2.2.1, (σ.2.2.2.1.1 + 1, va_up σ.2.2.2.1.2 σ.2.2.2.1.1 (mkD k x y z fo so g)), σ.2.2.2.2) = (((a.1 13, .inr (1, hFs a σ)) :: (a.1 0, .inl (G.2.1, 10, .inl (σ.2.1 0))) :: (a.1 1, .inl (G.2.2.2, 3, qA (fun i => (σ.2.2.1 1 i).map a.2.2))) :: (a.1 2, .inl (G.2.2.1, 20, qA (fun i => (σ.2.2.1 2 i).map a.2.1))) :: (a.1 3, .inl (G.2.2.1, 20, qA (fun i => (σ.2.2.1 3 i).map a.2.1))) :: (a.1 4, .inl (G.2.2.1, 12, qA (fun i => (σ.2.2.1 4 i).map a.2.1))) :: (a.1 5, .inl (G.2.1, 12, .inl (σ.2.1 5))) :: dPl a σ.2.2.2.1.1 σ.2.2.2.1.2) ++ [(q, .inr (0, [.int k, .int x, .int y, .int z, va_rf (fo.map a.2.1), va_rf (so.map a.2.1), va_rf (g.map a.2.2), .int 0]))]) ++ rPl G a σ.2.2.2.2.1 σ.2.2.2.2.2 := by
    simp only [wX]
    rw [e2, eO 2 (Or.inl rfl), eO 3 (Or.inr (Or.inl rfl)), eO 4 (Or.inr (Or.inr rfl))]
    simp only [List.cons_append, List.append_assoc]
    rfl
  have e0 : wX G a σ ++ [(q, .inr (0, [.int k, .int x, .int y, .int z, va_rf (fo.map a.2.1), va_rf (so.map a.2.1), va_rf (g.map a.2.2), .int 0]))] = (((a.1 13, .inr (1, hFs a σ)) :: (a.1 0, .inl (G.2.1, 10, .inl (σ.2.1 0))) :: (a.1 1, .inl (G.2.2.2, 3, qA (fun i => (σ.2.2.1 1 i).map a.2.2))) :: (a.1 2, .inl (G.2.2.1, 20, qA (fun i => (σ.2.2.1 2 i).map a.2.1))) :: (a.1 3, .inl (G.2.2.1, 20, qA (fun i => (σ.2.2.1 3 i).map a.2.1))) :: (a.1 4, .inl (G.2.2.1, 12, qA (fun i => (σ.2.2.1 4 i).map a.2.1))) :: (a.1 5, .inl (G.2.1, 12, .inl (σ.2.1 5))) :: dPl a σ.2.2.2.1.1 σ.2.2.2.1.2) ++ rPl G a σ.2.2.2.2.1 σ.2.2.2.2.2) ++ [(q, .inr (0, [.int k, .int x, .int y, .int z, va_rf (fo.map a.2.1), va_rf (so.map a.2.1), va_rf (g.map a.2.2), .int 0]))] := by
    simp only [wX, List.cons_append, List.append_assoc]
  rw [e0] at h2 h3
  rw [e]
  exact ⟨h1, h2.swap, h3.swap, h4, h5⟩
section RXM
variable {p : Program} {l : Launch} {e : Env} {R : Room} {s : State} {m : MethodId} {args : Array Value} {below : List Frame} {meth : Method} {c : Code} {H : Heap} {locs : List Loc} {cells slots : Nat} {Q : State → Prop}
variable {cc : ByteArray} {pc : Nat} {ls : Array Slot} {rest : List Value} {G : Gm} {A : Nat → Prop} {a : AX} {σ : SX} {nL : Nat} {c0 : Cond} {ret : Option FieldType}
theorem rx_gastv {i : Int32} {o : Option Nat} {v : Value} (hv : v = va_rf (o.map a.2.2)) (hF : fx p s m args meth c cc nL RX1 c0 ret) (hw : wb G A s (wX G a σ) H locs) (hin : vp_in i 3) (ho : ∀ d, o = some d → d < σ.2.2.2.2.1) (hdg : decode cc pc = .ok (.aastore, 1))
    (kk : ∀ (σ1 : SX) (H1 : Heap) (locs1 : List Loc), σ1 = (σ.1, σ.2.1, va_up σ.2.2.1 1 (va_up (σ.2.2.1 1) i.toNatClampNeg o), σ.2.2.2) → wb G A s (wX G a σ1) H1 locs1 → W p l e R s m args below meth c H1 locs1 cells slots Q (F0 m (pc + 1) ls rest)) : W p l e R s m args below meth c H locs cells slots Q (F0 m pc ls (v :: .int i :: .ref (a.1 1) :: rest)) := by
  subst hv
  exact rx_gast hF hw hin ho hdg kk
theorem rx_aastv {i : Int32} {o : Option Nat} {v : Value} (hv : v = va_rf (o.map a.2.1)) (k n : Nat) (hF : fx p s m args meth c cc nL RX1 c0 ret) (hw : wb G A s (wX G a σ) H locs) (hk : (k = 2 ∧ n = 20) ∨ (k = 3 ∧ n = 20) ∨ (k = 4 ∧ n = 12)) (hin : vp_in i n) (ho : ∀ d, o = some d → d < σ.2.2.2.1.1) (hdg : decode cc pc = .ok (.aastore, 1))
    (kk : ∀ (σ1 : SX) (H1 : Heap) (locs1 : List Loc), σ1 = (σ.1, σ.2.1, va_up σ.2.2.1 k (va_up (σ.2.2.1 k) i.toNatClampNeg o), σ.2.2.2) → wb G A s (wX G a σ1) H1 locs1 → W p l e R s m args below meth c H1 locs1 cells slots Q (F0 m (pc + 1) ls rest)) : W p l e R s m args below meth c H locs cells slots Q (F0 m pc ls (v :: .int i :: .ref (a.1 k) :: rest)) := by
  subst hv
  exact rx_aast k n hF hw hk hin ho hdg kk
end RXM
abbrev q1_gauge (σ : SX) (_ _ : Int32) : Prop := WFX σ
def f1_gauge (σ : SX) (g n : Int32) : Int32 × SX := if f1_isGauge g = 0 then (-1, σ) else if n < 0 then (-1, σ) else if n ≤ 6 then
    (1, (σ.1, σ.2.1, va_up σ.2.2.1 1 (va_up (σ.2.2.1 1) g.toNatClampNeg (some σ.2.2.2.2.1)), σ.2.2.2.1, (σ.2.2.2.2.1 + 1, va_up σ.2.2.2.2.2 σ.2.2.2.2.1 (n.toNatClampNeg, fun _ => 0)))) else (-1, σ)
def sx_new (σ : SX) (sl : Int32) (d : DX) : SX := (va_up σ.1 8 (σ.1 8 + 1), σ.2.1, va_up σ.2.2.1 2 (va_up (σ.2.2.1 2) sl.toNatClampNeg (some σ.2.2.2.1.1)), (σ.2.2.2.1.1 + 1, va_up σ.2.2.2.1.2 σ.2.2.2.1.1 d), σ.2.2.2.2)
abbrev q1_deed (σ : SX) (_ _ _ _ _ : Int32) : Prop := WFX σ
/-- what a deed is to hold of others, by its kind -/
def x_first (σ : SX) (k x : Int32) : Option Nat := if f1_holdsFirst k = 0 then none else (f1_inSlot σ x).1
def x_second (σ : SX) (k y : Int32) : Option Nat := if f1_holdsSecond k = 0 then none else (f1_inSlot σ y).1
def x_gauge (σ : SX) (k x : Int32) : Option Nat := if k = 4 then (f1_gaugeNow σ x).1 else none
def x_num (σ : SX) (k x : Int32) : Int32 := if k = 6 then (f1_heldBy σ x).1 else x
def f1_deed (σ : SX) (sl k x y z : Int32) : Int32 × SX :=
  if f1_isSlot sl = 0 then (-1, σ) else if f1_namesWhatThereIs k x y z = 0 then (-1, σ)
  else if (¬ f1_holdsFirst k = 0 ∧ x_first σ k x = none) ∨ (¬ f1_holdsSecond k = 0 ∧ x_second σ k y = none) then (-2, σ)
  else (σ.1 8 + 1, sx_new σ sl (mkD k (x_num σ k x) y z (x_first σ k x) (x_second σ k y) (x_gauge σ k x)))

def wp_X1_gauge_0 (σ : SX) (v1 : Int32) (v2 : Int32) (K19 : SX → Int32 → Int32 → Prop) (post : Int32 → SX → Prop) : Prop :=
  ∀ r1 : Int32, r1 = f1_isGauge v1 → (r1 = 0 → post ((-1)) σ) ∧ (¬ r1 = 0 → (v2 < 0 → post ((-1)) σ) ∧ (¬ v2 < 0 → (v2 ≤ 6 → K19 σ v1 v2) ∧ (¬ v2 ≤ 6 → post ((-1)) σ)))
set_option maxHeartbeats 4000000 in
set_option maxRecDepth 100000 in
theorem k_X1_gauge_0 {l : Launch} {p : Program} {e : Env} {s : State} {m : MethodId} {below : List Frame} {meth : Method} {c : Code} {args : Array Value} {A : Nat → Prop} {G : Gm} {a : AX}  (hF : fx p s m args meth c cX1_gauge 3 yX1_gauge.cls kX1_gauge (some (.int))) {post : Int32 → SX → Prop} {K19 : SX → Int32 → Int32 → Prop} (hK19 : ∀ (σ : SX) (v1 : Int32) (v2 : Int32) {H : Heap} {locs : List Loc} {ls : Array Slot}, K19 σ v1 v2 → wb G A s (wX G a σ) H locs → lv_has ls 3 [(0, .ref (a.1 13)), (1, .int v1), (2, .int v2)] → W p l e ({ frames := 1, cells := 1, slots := 6, locals := 20 } : Room) s m args below meth c H locs 0 0 (MQ below (va_Qi (fun (r : Int32) (u : AX × SX) => post r u.2 ∧ u.1.1 = a.1) (po G A (fun u : AX × SX => wX G u.1 u.2)) A) args s 1 6 A) (F0 m 19 ls [])) (σ : SX) (v1 : Int32) (v2 : Int32) {H : Heap} {locs : List Loc} {ls : Array Slot} (hw : wb G A s (wX G a σ) H locs) (hl : lv_has ls 3 [(0, .ref (a.1 13)), (1, .int v1), (2, .int v2)]) (hok : wp_X1_gauge_0 σ v1 v2 K19 post) :
    W p l e ({ frames := 1, cells := 1, slots := 6, locals := 20 } : Room) s m args below meth c H locs 0 0 (MQ below (va_Qi (fun (r : Int32) (u : AX × SX) => post r u.2 ∧ u.1.1 = a.1) (po G A (fun u : AX × SX => wX G u.1 u.2)) A) args s 1 6 A) (F0 m 0 ls []) := by
  unfold wp_X1_gauge_0 at hok
  refine lv_iload_n hF.x hF.b dX1_gauge_0 rfl (lv_at hl 1 rfl) ?_
  refine ca_S hF (c1_isGauge l v1) wv_X1_63 ⟨rfl, nd_X1.1, nd_X1.2, pd_X1_isGauge⟩ ⟨rfl, rfl⟩ ⟨by show 0 + 1 ≤ 1; omega, by show 8 + (1 + 11) + 0 ≤ 20; omega⟩ ⟨Nat.zero_le _, Nat.zero_le _⟩ hl.1 rfl (by first | exact Nat.le_of_ble_eq_true rfl | simp [cat_rf, Value.category]) dX1_gauge_1 (fun r1 er1 => ?_)
  replace hok := hok r1 er1
  refine lv_if_eq (tgt := 17) hF.x hF.b dX1_gauge_4 (by decide) (fun c2 => ?_) (fun c2 => ?_)
  · replace hok := hok.1 c2
    refine lv_iconst (v := (-1)) hF.x hF.b dX1_gauge_17 (by decide) ?_
    exact rt_I (wf := fun u : AX × SX => wX G u.1 u.2) (u := (a, σ)) hF hw ⟨hok, rfl⟩ (Nat.zero_le _) (Nat.zero_le _) dX1_gauge_18
  · replace hok := hok.2 c2
    refine lv_iload_n hF.x hF.b dX1_gauge_7 rfl (lv_at hl 2 rfl) ?_
    refine lv_if_lt (tgt := 17) hF.x hF.b dX1_gauge_8 (by decide) (fun c3 => ?_) (fun c3 => ?_)
    · replace hok := hok.1 c3
      refine lv_iconst (v := (-1)) hF.x hF.b dX1_gauge_17 (by decide) ?_
      exact rt_I (wf := fun u : AX × SX => wX G u.1 u.2) (u := (a, σ)) hF hw ⟨hok, rfl⟩ (Nat.zero_le _) (Nat.zero_le _) dX1_gauge_18
    · replace hok := hok.2 c3
      refine lv_iload_n hF.x hF.b dX1_gauge_11 rfl (lv_at hl 2 rfl) ?_
      refine lv_bipush (v := 6) hF.x hF.b dX1_gauge_12 (by decide) ?_
      refine lv_icmp_le (tgt := 19) hF.x hF.b dX1_gauge_14 (by decide) (fun c4 => ?_) (fun c4 => ?_)
      · replace hok := hok.1 c4
        exact hK19 σ v1 v2 hok hw (lv_sub hl [0, 1, 2] rfl)
      · replace hok := hok.2 c4
        refine lv_iconst (v := (-1)) hF.x hF.b dX1_gauge_17 (by decide) ?_
        exact rt_I (wf := fun u : AX × SX => wX G u.1 u.2) (u := (a, σ)) hF hw ⟨hok, rfl⟩ (Nat.zero_le _) (Nat.zero_le _) dX1_gauge_18

set_option maxHeartbeats 4000000 in
set_option maxRecDepth 100000 in
theorem k_X1_gauge_19 {l : Launch} {p : Program} {e : Env} {s : State} {m : MethodId} {below : List Frame} {meth : Method} {c : Code} {args : Array Value} {A : Nat → Prop} {G : Gm} {a : AX} (hF : fx p s m args meth c cX1_gauge 3 yX1_gauge.cls kX1_gauge (some (.int))) {post : Int32 → SX → Prop} (σ : SX) (v1 v2 : Int32) {H : Heap} {locs : List Loc} {ls : Array Slot} (hW : WFX σ) (hg : ¬ f1_isGauge v1 = 0) (h0 : ¬ v2 < 0) (h6 : v2 ≤ 6) (hp : post 1 (f1_gauge σ v1 v2).2) (hw : wb G A s (wX G a σ) H locs) (hl : lv_has ls 3 [(0, .ref (a.1 13)), (1, .int v1), (2, .int v2)]) :
    W p l e ({ frames := 1, cells := 1, slots := 6, locals := 20 } : Room) s m args below meth c H locs 0 0 (MQ below (va_Qi (fun (r : Int32) (u : AX × SX) => post r u.2 ∧ u.1.1 = a.1) (po G A (fun u : AX × SX => wX G u.1 u.2)) A) args s 1 6 A) (F0 m 19 ls []) := by
  obtain ⟨N, hN, rfl⟩ := nI_of2 (M := 6) (n := 6) (by decide) h0 h6
  have hc : (nI N).toNatClampNeg = N := nI_clamp (by omega)
  refine lv_aload_n hF.x hF.b dX1_gauge_19 rfl (lv_at hl 0 rfl) ?_
  refine r_get hF hw 0 rfl rfl inlX1 1 (by decide) wf_X1_14 rfl dX1_gauge_20 ?_
  refine lv_iload_n hF.x hF.b dX1_gauge_23 rfl (lv_at hl 1 rfl) ?_
  refine lv_iload_n hF.x hF.b dX1_gauge_24 rfl (lv_at hl 2 rfl) ?_
  refine r_newi (N := N) hF hw h0 hc (by omega) (by show 0 + 1 ≤ 1; decide) (by show 0 + N ≤ 6; omega) dX1_gauge_25 (fun q H hw => ?_)
  rw [wX_newR hW] at hw
  refine rx_gastv (a := (a.1, a.2.1, va_up a.2.2 σ.2.2.2.2.1 q)) (o := some σ.2.2.2.2.1) (by simp [va_rf, va_up]) hF hw (in_G hg) (fun d hd => by cases hd; exact Nat.lt_succ_self _) dX1_gauge_27 (fun σ1 H locs e1 hw => ?_)
  refine lv_iconst (v := 1) hF.x hF.b dX1_gauge_28 (by decide) ?_
  refine rt_I (wf := fun u : AX × SX => wX G u.1 u.2) (u := ((a.1, a.2.1, va_up a.2.2 σ.2.2.2.2.1 q), σ1)) hF hw ⟨?_, rfl⟩ (Nat.le_refl _) (by show 0 + N ≤ 6; omega) dX1_gauge_29
  have e2 : σ1 = (f1_gauge σ v1 (nI N)).2 := by
    subst e1
    simp only [f1_gauge]
    rw [if_neg hg, if_neg h0, if_pos h6, hc]
  rw [e2]
  exact hp
theorem p1_gauge (σ : SX) (v1 v2 : Int32) : wp_X1_gauge_0 σ v1 v2 (fun σq v1' v2' => σq = σ ∧ v1' = v1 ∧ v2' = v2 ∧ ¬ f1_isGauge v1 = 0 ∧ ¬ v2 < 0 ∧ v2 ≤ 6) (fun r u => r = (f1_gauge σ v1 v2).1 ∧ u = (f1_gauge σ v1 v2).2) := by
  intro r1 e1; subst e1
  refine ⟨fun c => ?_, fun c => ⟨fun c2 => ?_, fun c2 => ⟨fun c3 => ⟨rfl, rfl, rfl, c, c2, c3⟩, fun c3 => ?_⟩⟩⟩
  · simp only [f1_gauge]; rw [if_pos c]; exact ⟨rfl, rfl⟩
  · simp only [f1_gauge]; rw [if_neg c, if_pos c2]; exact ⟨rfl, rfl⟩
  · simp only [f1_gauge]; rw [if_neg c, if_neg c2, if_neg c3]; exact ⟨rfl, rfl⟩
theorem c1_gauge (l : Launch) (G : Gm) (a : AX) (σ : SX) (v1 v2 : Int32) (h : q1_gauge σ v1 v2) : ctI l yX1_gauge cX1_gauge 3 .int { frames := 1, cells := 1, slots := 6, locals := 20 } G [.ref (a.1 13), .int v1, .int v2] (wX G a σ) (fun (r : Int32) (u : AX × SX) => (r = (f1_gauge σ v1 v2).1 ∧ u.2 = (f1_gauge σ v1 v2).2) ∧ u.1.1 = a.1) (fun u : AX × SX => wX G u.1 u.2) := by
  refine en_I (by decide +kernel) (Nat.le_of_ble_eq_true rfl) (fun p e s m below meth c A ls hF hw hl => ?_)
  refine k_X1_gauge_0 (post := fun r u => r = (f1_gauge σ v1 v2).1 ∧ u = (f1_gauge σ v1 v2).2) hF ?_ σ v1 v2 hw hl (p1_gauge σ v1 v2)
  intro σq v1' v2' H locs ls hI hw' hl'
  obtain ⟨rfl, rfl, rfl, c1, c2, c3⟩ := hI
  refine k_X1_gauge_19 (post := fun r u => r = (f1_gauge σq v1' v2').1 ∧ u = (f1_gauge σq v1' v2').2) hF σq v1' v2' h c1 c2 c3 ⟨?_, rfl⟩ hw' hl'
  simp only [f1_gauge]; rw [if_neg c1, if_neg c2, if_pos c3]

def wp_X1_deed_116 (σ : SX) (v1 : Int32) (v2 : Int32) (v3 : Int32) (v4 : Int32) (v5 : Int32) (o6 : Option Nat) (o7 : Option Nat) (g8 : Option Nat) (vs0 : Int32) (K118 : SX → Int32 → Int32 → Int32 → Int32 → Int32 → Option Nat → Option Nat → Option Nat → Int32 → Prop) (post : Int32 → SX → Prop) : Prop :=
  K118 σ v1 v2 v3 v4 v5 o6 o7 g8 vs0
set_option maxHeartbeats 4000000 in
set_option maxRecDepth 100000 in
theorem k_X1_deed_116 {l : Launch} {p : Program} {e : Env} {s : State} {m : MethodId} {below : List Frame} {meth : Method} {c : Code} {args : Array Value} {A : Nat → Prop} {G : Gm} {a : AX}  (hF : fx p s m args meth c cX1_deed 10 yX1_deed.cls kX1_deed (some (.int))) {post : Int32 → SX → Prop} {K118 : SX → Int32 → Int32 → Int32 → Int32 → Int32 → Option Nat → Option Nat → Option Nat → Int32 → Prop} (hK118 : ∀ (σ : SX) (v1 : Int32) (v2 : Int32) (v3 : Int32) (v4 : Int32) (v5 : Int32) (o6 : Option Nat) (o7 : Option Nat) (g8 : Option Nat) (v9 : Int32) {H : Heap} {locs : List Loc} {ls : Array Slot}, K118 σ v1 v2 v3 v4 v5 o6 o7 g8 v9 → wb G A s (wX G a σ) H locs → lv_has ls 10 [(0, .ref (a.1 13)), (1, .int v1), (2, .int v2), (3, .int v3), (4, .int v4), (5, .int v5), (6, va_rf (Option.map a.2.1 o6)), (7, va_rf (Option.map a.2.1 o7)), (8, va_rf (Option.map a.2.2 g8)), (9, .int v9)] → W p l e ({ frames := 3, cells := 1, slots := 8, locals := 70 } : Room) s m args below meth c H locs 0 0 (MQ below (va_Qi (fun (r : Int32) (u : AX × SX) => post r u.2 ∧ u.1.1 = a.1) (po G A (fun u : AX × SX => wX G u.1 u.2)) A) args s 1 8 A) (F0 m 118 ls [])) (σ : SX) (v1 : Int32) (v2 : Int32) (v3 : Int32) (v4 : Int32) (v5 : Int32) (o6 : Option Nat) (o7 : Option Nat) (g8 : Option Nat) (vs0 : Int32) {H : Heap} {locs : List Loc} {ls : Array Slot} (hw : wb G A s (wX G a σ) H locs) (hl : lv_has ls 10 [(0, .ref (a.1 13)), (1, .int v1), (2, .int v2), (3, .int v3), (4, .int v4), (5, .int v5), (6, va_rf (Option.map a.2.1 o6)), (7, va_rf (Option.map a.2.1 o7)), (8, va_rf (Option.map a.2.2 g8))]) (hok : wp_X1_deed_116 σ v1 v2 v3 v4 v5 o6 o7 g8 vs0 K118 post) :
    W p l e ({ frames := 3, cells := 1, slots := 8, locals := 70 } : Room) s m args below meth c H locs 0 0 (MQ below (va_Qi (fun (r : Int32) (u : AX × SX) => post r u.2 ∧ u.1.1 = a.1) (po G A (fun u : AX × SX => wX G u.1 u.2)) A) args s 1 8 A) (F0 m 116 ls [.int vs0]) := by
  unfold wp_X1_deed_116 at hok
  refine lv_istore (lv' := [(9, .int vs0), (0, .ref (a.1 13)), (1, .int v1), (2, .int v2), (3, .int v3), (4, .int v4), (5, .int v5), (6, va_rf (Option.map a.2.1 o6)), (7, va_rf (Option.map a.2.1 o7)), (8, va_rf (Option.map a.2.2 g8))]) hF.x hF.b dX1_deed_116 hl (by decide) (by first | rfl | (simp [cat_rf]; done) | (simp [cat_rf]; decide)) (fun ls hl => ?_)
  exact hK118 σ v1 v2 v3 v4 v5 o6 o7 g8 vs0 hok hw (lv_sub hl [1, 2, 3, 4, 5, 6, 7, 8, 9, 0] rfl)
def wp_X1_deed_99 (σ : SX) (v1 : Int32) (v2 : Int32) (v3 : Int32) (v4 : Int32) (v5 : Int32) (o6 : Option Nat) (o7 : Option Nat) (gs0 : Option Nat) (K118 : SX → Int32 → Int32 → Int32 → Int32 → Int32 → Option Nat → Option Nat → Option Nat → Int32 → Prop) (post : Int32 → SX → Prop) : Prop :=
  (¬ v2 = 6 → wp_X1_deed_116 σ v1 v2 v3 v4 v5 o6 o7 gs0 v3 K118 post) ∧ (v2 = 6 → q1_heldBy σ v3 ∧ ∀ (r2 : Int32) (σ3 : SX), r2 = (f1_heldBy σ v3).1 → σ3 = (f1_heldBy σ v3).2 → wp_X1_deed_116 σ3 v1 v2 v3 v4 v5 o6 o7 gs0 r2 K118 post)
set_option maxHeartbeats 4000000 in
set_option maxRecDepth 100000 in
theorem k_X1_deed_99 {l : Launch} {p : Program} {e : Env} {s : State} {m : MethodId} {below : List Frame} {meth : Method} {c : Code} {args : Array Value} {A : Nat → Prop} {G : Gm} {a : AX}  (hF : fx p s m args meth c cX1_deed 10 yX1_deed.cls kX1_deed (some (.int))) {post : Int32 → SX → Prop} {K118 : SX → Int32 → Int32 → Int32 → Int32 → Int32 → Option Nat → Option Nat → Option Nat → Int32 → Prop} (hK118 : ∀ (σ : SX) (v1 : Int32) (v2 : Int32) (v3 : Int32) (v4 : Int32) (v5 : Int32) (o6 : Option Nat) (o7 : Option Nat) (g8 : Option Nat) (v9 : Int32) {H : Heap} {locs : List Loc} {ls : Array Slot}, K118 σ v1 v2 v3 v4 v5 o6 o7 g8 v9 → wb G A s (wX G a σ) H locs → lv_has ls 10 [(0, .ref (a.1 13)), (1, .int v1), (2, .int v2), (3, .int v3), (4, .int v4), (5, .int v5), (6, va_rf (Option.map a.2.1 o6)), (7, va_rf (Option.map a.2.1 o7)), (8, va_rf (Option.map a.2.2 g8)), (9, .int v9)] → W p l e ({ frames := 3, cells := 1, slots := 8, locals := 70 } : Room) s m args below meth c H locs 0 0 (MQ below (va_Qi (fun (r : Int32) (u : AX × SX) => post r u.2 ∧ u.1.1 = a.1) (po G A (fun u : AX × SX => wX G u.1 u.2)) A) args s 1 8 A) (F0 m 118 ls [])) (σ : SX) (v1 : Int32) (v2 : Int32) (v3 : Int32) (v4 : Int32) (v5 : Int32) (o6 : Option Nat) (o7 : Option Nat) (gs0 : Option Nat) {H : Heap} {locs : List Loc} {ls : Array Slot} (hw : wb G A s (wX G a σ) H locs) (hl : lv_has ls 10 [(0, .ref (a.1 13)), (1, .int v1), (2, .int v2), (3, .int v3), (4, .int v4), (5, .int v5), (6, va_rf (Option.map a.2.1 o6)), (7, va_rf (Option.map a.2.1 o7))]) (hok : wp_X1_deed_99 σ v1 v2 v3 v4 v5 o6 o7 gs0 K118 post) :
    W p l e ({ frames := 3, cells := 1, slots := 8, locals := 70 } : Room) s m args below meth c H locs 0 0 (MQ below (va_Qi (fun (r : Int32) (u : AX × SX) => post r u.2 ∧ u.1.1 = a.1) (po G A (fun u : AX × SX => wX G u.1 u.2)) A) args s 1 8 A) (F0 m 99 ls [va_rf (Option.map a.2.2 gs0)]) := by
  unfold wp_X1_deed_99 at hok
  refine lq_astore (lv' := [(8, va_rf (Option.map a.2.2 gs0)), (0, .ref (a.1 13)), (1, .int v1), (2, .int v2), (3, .int v3), (4, .int v4), (5, .int v5), (6, va_rf (Option.map a.2.1 o6)), (7, va_rf (Option.map a.2.1 o7))]) hF dX1_deed_99 hl (by decide) (by first | rfl | (simp [cat_rf]; done) | (simp [cat_rf]; decide)) (fun ls hl => ?_)
  refine lv_iload_n hF.x hF.b dX1_deed_101 rfl (lv_at hl 3 rfl) ?_
  refine lv_bipush (v := 6) hF.x hF.b dX1_deed_102 (by decide) ?_
  refine lv_icmp_ne (tgt := 115) hF.x hF.b dX1_deed_104 (by decide) (fun c1 => ?_) (fun c1 => ?_)
  · replace hok := hok.1 c1
    refine lv_iload_n hF.x hF.b dX1_deed_115 rfl (lv_at hl 4 rfl) ?_
    exact k_X1_deed_116  hF hK118 σ v1 v2 v3 v4 v5 o6 o7 gs0 v3 hw (lv_sub hl [1, 2, 3, 4, 5, 6, 7, 8, 0] rfl) hok
  · replace hok := hok.2 c1
    refine lv_aload_n hF.x hF.b dX1_deed_107 rfl (lv_at hl 1 rfl) ?_
    refine lv_iload_n hF.x hF.b dX1_deed_108 rfl (lv_at hl 4 rfl) ?_
    refine ca_I hF hw (c1_heldBy l G a σ v3 hok.1) wv_X1_55 (q0 := 0) rfl rfl rfl ⟨nd_X1.1, nd_X1.2, pd_X1_heldBy⟩ ⟨by show 1 + 1 ≤ 3; omega, by show 8 + (2 + 11) + 20 ≤ 70; omega⟩ ⟨Nat.zero_le _, Nat.zero_le _⟩ hl.1 rfl (by first | exact Nat.le_of_ble_eq_true rfl | simp [cat_rf, Value.category]) dX1_deed_109 (fun r2 σ3 H locs hp hw => ?_)
    obtain ⟨er2, eσ3⟩ := hp
    replace hok := hok.2 r2 σ3 er2 eσ3
    refine lv_goto (tgt := 116) hF.x hF.b dX1_deed_112 (by decide) ?_
    exact k_X1_deed_116  hF hK118 σ3 v1 v2 v3 v4 v5 o6 o7 gs0 r2 hw (lv_sub hl [1, 2, 3, 4, 5, 6, 7, 8, 0] rfl) hok
def wp_X1_deed_85 (σ : SX) (v1 : Int32) (v2 : Int32) (v3 : Int32) (v4 : Int32) (v5 : Int32) (o6 : Option Nat) (o7 : Option Nat) (K118 : SX → Int32 → Int32 → Int32 → Int32 → Int32 → Option Nat → Option Nat → Option Nat → Int32 → Prop) (post : Int32 → SX → Prop) : Prop :=
  (¬ v2 = 4 → wp_X1_deed_99 σ v1 v2 v3 v4 v5 o6 o7 none K118 post) ∧ (v2 = 4 → q1_gaugeNow σ v3 ∧ ∀ (o2 : Option Nat) (σ3 : SX), o2 = (f1_gaugeNow σ v3).1 → σ3 = (f1_gaugeNow σ v3).2 → wp_X1_deed_99 σ3 v1 v2 v3 v4 v5 o6 o7 o2 K118 post)
set_option maxHeartbeats 4000000 in
set_option maxRecDepth 100000 in
theorem k_X1_deed_85 {l : Launch} {p : Program} {e : Env} {s : State} {m : MethodId} {below : List Frame} {meth : Method} {c : Code} {args : Array Value} {A : Nat → Prop} {G : Gm} {a : AX}  (hF : fx p s m args meth c cX1_deed 10 yX1_deed.cls kX1_deed (some (.int))) {post : Int32 → SX → Prop} {K118 : SX → Int32 → Int32 → Int32 → Int32 → Int32 → Option Nat → Option Nat → Option Nat → Int32 → Prop} (hK118 : ∀ (σ : SX) (v1 : Int32) (v2 : Int32) (v3 : Int32) (v4 : Int32) (v5 : Int32) (o6 : Option Nat) (o7 : Option Nat) (g8 : Option Nat) (v9 : Int32) {H : Heap} {locs : List Loc} {ls : Array Slot}, K118 σ v1 v2 v3 v4 v5 o6 o7 g8 v9 → wb G A s (wX G a σ) H locs → lv_has ls 10 [(0, .ref (a.1 13)), (1, .int v1), (2, .int v2), (3, .int v3), (4, .int v4), (5, .int v5), (6, va_rf (Option.map a.2.1 o6)), (7, va_rf (Option.map a.2.1 o7)), (8, va_rf (Option.map a.2.2 g8)), (9, .int v9)] → W p l e ({ frames := 3, cells := 1, slots := 8, locals := 70 } : Room) s m args below meth c H locs 0 0 (MQ below (va_Qi (fun (r : Int32) (u : AX × SX) => post r u.2 ∧ u.1.1 = a.1) (po G A (fun u : AX × SX => wX G u.1 u.2)) A) args s 1 8 A) (F0 m 118 ls [])) (σ : SX) (v1 : Int32) (v2 : Int32) (v3 : Int32) (v4 : Int32) (v5 : Int32) (o6 : Option Nat) (o7 : Option Nat) {H : Heap} {locs : List Loc} {ls : Array Slot} (hw : wb G A s (wX G a σ) H locs) (hl : lv_has ls 10 [(0, .ref (a.1 13)), (1, .int v1), (2, .int v2), (3, .int v3), (4, .int v4), (5, .int v5), (6, va_rf (Option.map a.2.1 o6)), (7, va_rf (Option.map a.2.1 o7))]) (hok : wp_X1_deed_85 σ v1 v2 v3 v4 v5 o6 o7 K118 post) :
    W p l e ({ frames := 3, cells := 1, slots := 8, locals := 70 } : Room) s m args below meth c H locs 0 0 (MQ below (va_Qi (fun (r : Int32) (u : AX × SX) => post r u.2 ∧ u.1.1 = a.1) (po G A (fun u : AX × SX => wX G u.1 u.2)) A) args s 1 8 A) (F0 m 85 ls []) := by
  unfold wp_X1_deed_85 at hok
  refine lv_iload_n hF.x hF.b dX1_deed_85 rfl (lv_at hl 2 rfl) ?_
  refine lv_iconst (v := 4) hF.x hF.b dX1_deed_86 (by decide) ?_
  refine lv_icmp_ne (tgt := 98) hF.x hF.b dX1_deed_87 (by decide) (fun c1 => ?_) (fun c1 => ?_)
  · replace hok := hok.1 c1
    refine lv_null hF.x hF.b dX1_deed_98 ?_
    exact k_X1_deed_99  hF hK118 σ v1 v2 v3 v4 v5 o6 o7 none hw (lv_sub hl [0, 1, 2, 3, 4, 5, 6, 7] rfl) hok
  · replace hok := hok.2 c1
    refine lv_aload_n hF.x hF.b dX1_deed_90 rfl (lv_at hl 0 rfl) ?_
    refine lv_iload_n hF.x hF.b dX1_deed_91 rfl (lv_at hl 3 rfl) ?_
    refine ca_Q hF hw (c1_gaugeNow l G a σ v3 hok.1) wv_X1_67 (q0 := 0) rfl rfl rfl ⟨nd_X1.1, nd_X1.2, pd_X1_gaugeNow⟩ ⟨by show 1 + 1 ≤ 3; omega, by show 8 + (2 + 11) + 20 ≤ 70; omega⟩ ⟨Nat.zero_le _, Nat.zero_le _⟩ hl.1 rfl (by first | exact Nat.le_of_ble_eq_true rfl | simp [cat_rf, Value.category]) dX1_deed_92 (fun rq σ3 H locs hp hw => ?_)
    obtain ⟨o2, hr, eo2, eσ3⟩ := hp
    subst hr
    replace hok := hok.2 o2 σ3 eo2 eσ3
    refine lv_goto (tgt := 99) hF.x hF.b dX1_deed_95 (by decide) ?_
    exact k_X1_deed_99  hF hK118 σ3 v1 v2 v3 v4 v5 o6 o7 o2 hw (lv_sub hl [0, 1, 2, 3, 4, 5, 6, 7] rfl) hok
def wp_X1_deed_70 (σ : SX) (v1 : Int32) (v2 : Int32) (v3 : Int32) (v4 : Int32) (v5 : Int32) (o6 : Option Nat) (o7 : Option Nat) (K118 : SX → Int32 → Int32 → Int32 → Int32 → Int32 → Option Nat → Option Nat → Option Nat → Int32 → Prop) (post : Int32 → SX → Prop) : Prop :=
  ∀ r1 : Int32, r1 = f1_holdsSecond v2 → (r1 = 0 → wp_X1_deed_85 σ v1 v2 v3 v4 v5 o6 o7 K118 post) ∧ (¬ r1 = 0 → (o7 = none → post ((-2)) σ) ∧ (∀ d3 : Nat, o7 = some d3 → wp_X1_deed_85 σ v1 v2 v3 v4 v5 o6 (some d3) K118 post))
set_option maxHeartbeats 4000000 in
set_option maxRecDepth 100000 in
theorem k_X1_deed_70 {l : Launch} {p : Program} {e : Env} {s : State} {m : MethodId} {below : List Frame} {meth : Method} {c : Code} {args : Array Value} {A : Nat → Prop} {G : Gm} {a : AX}  (hF : fx p s m args meth c cX1_deed 10 yX1_deed.cls kX1_deed (some (.int))) {post : Int32 → SX → Prop} {K118 : SX → Int32 → Int32 → Int32 → Int32 → Int32 → Option Nat → Option Nat → Option Nat → Int32 → Prop} (hK118 : ∀ (σ : SX) (v1 : Int32) (v2 : Int32) (v3 : Int32) (v4 : Int32) (v5 : Int32) (o6 : Option Nat) (o7 : Option Nat) (g8 : Option Nat) (v9 : Int32) {H : Heap} {locs : List Loc} {ls : Array Slot}, K118 σ v1 v2 v3 v4 v5 o6 o7 g8 v9 → wb G A s (wX G a σ) H locs → lv_has ls 10 [(0, .ref (a.1 13)), (1, .int v1), (2, .int v2), (3, .int v3), (4, .int v4), (5, .int v5), (6, va_rf (Option.map a.2.1 o6)), (7, va_rf (Option.map a.2.1 o7)), (8, va_rf (Option.map a.2.2 g8)), (9, .int v9)] → W p l e ({ frames := 3, cells := 1, slots := 8, locals := 70 } : Room) s m args below meth c H locs 0 0 (MQ below (va_Qi (fun (r : Int32) (u : AX × SX) => post r u.2 ∧ u.1.1 = a.1) (po G A (fun u : AX × SX => wX G u.1 u.2)) A) args s 1 8 A) (F0 m 118 ls [])) (σ : SX) (v1 : Int32) (v2 : Int32) (v3 : Int32) (v4 : Int32) (v5 : Int32) (o6 : Option Nat) (o7 : Option Nat) {H : Heap} {locs : List Loc} {ls : Array Slot} (hw : wb G A s (wX G a σ) H locs) (hl : lv_has ls 10 [(0, .ref (a.1 13)), (1, .int v1), (2, .int v2), (3, .int v3), (4, .int v4), (5, .int v5), (6, va_rf (Option.map a.2.1 o6)), (7, va_rf (Option.map a.2.1 o7))]) (hok : wp_X1_deed_70 σ v1 v2 v3 v4 v5 o6 o7 K118 post) :
    W p l e ({ frames := 3, cells := 1, slots := 8, locals := 70 } : Room) s m args below meth c H locs 0 0 (MQ below (va_Qi (fun (r : Int32) (u : AX × SX) => post r u.2 ∧ u.1.1 = a.1) (po G A (fun u : AX × SX => wX G u.1 u.2)) A) args s 1 8 A) (F0 m 70 ls []) := by
  unfold wp_X1_deed_70 at hok
  refine lv_iload_n hF.x hF.b dX1_deed_70 rfl (lv_at hl 2 rfl) ?_
  refine ca_S hF (c1_holdsSecond l v2) wv_X1_89 ⟨rfl, nd_X1.1, nd_X1.2, pd_X1_holdsSecond⟩ ⟨rfl, rfl⟩ ⟨by show 0 + 1 ≤ 3; omega, by show 8 + (1 + 11) + 0 ≤ 70; omega⟩ ⟨Nat.zero_le _, Nat.zero_le _⟩ hl.1 rfl (by first | exact Nat.le_of_ble_eq_true rfl | simp [cat_rf, Value.category]) dX1_deed_71 (fun r1 er1 => ?_)
  replace hok := hok r1 er1
  refine lv_if_eq (tgt := 85) hF.x hF.b dX1_deed_74 (by decide) (fun c2 => ?_) (fun c2 => ?_)
  · replace hok := hok.1 c2
    exact k_X1_deed_85  hF hK118 σ v1 v2 v3 v4 v5 o6 o7 hw (lv_sub hl [0, 1, 2, 3, 4, 5, 6, 7] rfl) hok
  · replace hok := hok.2 c2
    refine lq_aload hF dX1_deed_77 (lv_at hl 7 rfl) ?_
    refine lm_ifnonnull (o := o7) (tgt := 85) hF dX1_deed_79 (by decide) (fun d3 ed3 => ?_) (fun ed3 => ?_)
    · replace hok := hok.2 d3 ed3
      subst ed3
      have hl : lv_has ls 10 [(0, .ref (a.1 13)), (1, .int v1), (2, .int v2), (3, .int v3), (4, .int v4), (5, .int v5), (6, va_rf (Option.map a.2.1 o6)), (7, .ref (a.2.1 d3))] := hl
      exact k_X1_deed_85  hF hK118 σ v1 v2 v3 v4 v5 o6 (some d3) hw (lv_sub hl [0, 1, 2, 3, 4, 5, 6, 7] rfl) hok
    · replace hok := hok.1 ed3
      subst ed3
      have hl : lv_has ls 10 [(0, .ref (a.1 13)), (1, .int v1), (2, .int v2), (3, .int v3), (4, .int v4), (5, .int v5), (6, va_rf (Option.map a.2.1 o6)), (7, .null)] := hl
      refine lv_bipush (v := (-2)) hF.x hF.b dX1_deed_82 (by decide) ?_
      exact rt_I (wf := fun u : AX × SX => wX G u.1 u.2) (u := (a, σ)) hF hw ⟨hok, rfl⟩ (Nat.zero_le _) (Nat.zero_le _) dX1_deed_84
def wp_X1_deed_56 (σ : SX) (v1 : Int32) (v2 : Int32) (v3 : Int32) (v4 : Int32) (v5 : Int32) (o6 : Option Nat) (os0 : Option Nat) (K118 : SX → Int32 → Int32 → Int32 → Int32 → Int32 → Option Nat → Option Nat → Option Nat → Int32 → Prop) (post : Int32 → SX → Prop) : Prop :=
  ∀ r1 : Int32, r1 = f1_holdsFirst v2 → (r1 = 0 → wp_X1_deed_70 σ v1 v2 v3 v4 v5 o6 os0 K118 post) ∧ (¬ r1 = 0 → (o6 = none → post ((-2)) σ) ∧ (∀ d3 : Nat, o6 = some d3 → wp_X1_deed_70 σ v1 v2 v3 v4 v5 (some d3) os0 K118 post))
set_option maxHeartbeats 4000000 in
set_option maxRecDepth 100000 in
theorem k_X1_deed_56 {l : Launch} {p : Program} {e : Env} {s : State} {m : MethodId} {below : List Frame} {meth : Method} {c : Code} {args : Array Value} {A : Nat → Prop} {G : Gm} {a : AX}  (hF : fx p s m args meth c cX1_deed 10 yX1_deed.cls kX1_deed (some (.int))) {post : Int32 → SX → Prop} {K118 : SX → Int32 → Int32 → Int32 → Int32 → Int32 → Option Nat → Option Nat → Option Nat → Int32 → Prop} (hK118 : ∀ (σ : SX) (v1 : Int32) (v2 : Int32) (v3 : Int32) (v4 : Int32) (v5 : Int32) (o6 : Option Nat) (o7 : Option Nat) (g8 : Option Nat) (v9 : Int32) {H : Heap} {locs : List Loc} {ls : Array Slot}, K118 σ v1 v2 v3 v4 v5 o6 o7 g8 v9 → wb G A s (wX G a σ) H locs → lv_has ls 10 [(0, .ref (a.1 13)), (1, .int v1), (2, .int v2), (3, .int v3), (4, .int v4), (5, .int v5), (6, va_rf (Option.map a.2.1 o6)), (7, va_rf (Option.map a.2.1 o7)), (8, va_rf (Option.map a.2.2 g8)), (9, .int v9)] → W p l e ({ frames := 3, cells := 1, slots := 8, locals := 70 } : Room) s m args below meth c H locs 0 0 (MQ below (va_Qi (fun (r : Int32) (u : AX × SX) => post r u.2 ∧ u.1.1 = a.1) (po G A (fun u : AX × SX => wX G u.1 u.2)) A) args s 1 8 A) (F0 m 118 ls [])) (σ : SX) (v1 : Int32) (v2 : Int32) (v3 : Int32) (v4 : Int32) (v5 : Int32) (o6 : Option Nat) (os0 : Option Nat) {H : Heap} {locs : List Loc} {ls : Array Slot} (hw : wb G A s (wX G a σ) H locs) (hl : lv_has ls 10 [(0, .ref (a.1 13)), (1, .int v1), (2, .int v2), (3, .int v3), (4, .int v4), (5, .int v5), (6, va_rf (Option.map a.2.1 o6))]) (hok : wp_X1_deed_56 σ v1 v2 v3 v4 v5 o6 os0 K118 post) :
    W p l e ({ frames := 3, cells := 1, slots := 8, locals := 70 } : Room) s m args below meth c H locs 0 0 (MQ below (va_Qi (fun (r : Int32) (u : AX × SX) => post r u.2 ∧ u.1.1 = a.1) (po G A (fun u : AX × SX => wX G u.1 u.2)) A) args s 1 8 A) (F0 m 56 ls [va_rf (Option.map a.2.1 os0)]) := by
  unfold wp_X1_deed_56 at hok
  refine lq_astore (lv' := [(7, va_rf (Option.map a.2.1 os0)), (0, .ref (a.1 13)), (1, .int v1), (2, .int v2), (3, .int v3), (4, .int v4), (5, .int v5), (6, va_rf (Option.map a.2.1 o6))]) hF dX1_deed_56 hl (by decide) (by first | rfl | (simp [cat_rf]; done) | (simp [cat_rf]; decide)) (fun ls hl => ?_)
  refine lv_iload_n hF.x hF.b dX1_deed_58 rfl (lv_at hl 3 rfl) ?_
  refine ca_S hF (c1_holdsFirst l v2) wv_X1_82 ⟨rfl, nd_X1.1, nd_X1.2, pd_X1_holdsFirst⟩ ⟨rfl, rfl⟩ ⟨by show 0 + 1 ≤ 3; omega, by show 8 + (1 + 11) + 0 ≤ 70; omega⟩ ⟨Nat.zero_le _, Nat.zero_le _⟩ hl.1 rfl (by first | exact Nat.le_of_ble_eq_true rfl | simp [cat_rf, Value.category]) dX1_deed_59 (fun r1 er1 => ?_)
  replace hok := hok r1 er1
  refine lv_if_eq (tgt := 70) hF.x hF.b dX1_deed_62 (by decide) (fun c2 => ?_) (fun c2 => ?_)
  · replace hok := hok.1 c2
    exact k_X1_deed_70  hF hK118 σ v1 v2 v3 v4 v5 o6 os0 hw (lv_sub hl [1, 2, 3, 4, 5, 6, 7, 0] rfl) hok
  · replace hok := hok.2 c2
    refine lq_aload hF dX1_deed_65 (lv_at hl 7 rfl) ?_
    refine lm_ifnull (o := o6) (tgt := 82) hF dX1_deed_67 (by decide) (fun ed3 => ?_) (fun d3 ed3 => ?_)
    · replace hok := hok.1 ed3
      subst ed3
      have hl : lv_has ls 10 [(7, va_rf (Option.map a.2.1 os0)), (0, .ref (a.1 13)), (1, .int v1), (2, .int v2), (3, .int v3), (4, .int v4), (5, .int v5), (6, .null)] := hl
      refine lv_bipush (v := (-2)) hF.x hF.b dX1_deed_82 (by decide) ?_
      exact rt_I (wf := fun u : AX × SX => wX G u.1 u.2) (u := (a, σ)) hF hw ⟨hok, rfl⟩ (Nat.zero_le _) (Nat.zero_le _) dX1_deed_84
    · replace hok := hok.2 d3 ed3
      subst ed3
      have hl : lv_has ls 10 [(7, va_rf (Option.map a.2.1 os0)), (0, .ref (a.1 13)), (1, .int v1), (2, .int v2), (3, .int v3), (4, .int v4), (5, .int v5), (6, .ref (a.2.1 d3))] := hl
      exact k_X1_deed_70  hF hK118 σ v1 v2 v3 v4 v5 (some d3) os0 hw (lv_sub hl [1, 2, 3, 4, 5, 6, 7, 0] rfl) hok
def wp_X1_deed_37 (σ : SX) (v1 : Int32) (v2 : Int32) (v3 : Int32) (v4 : Int32) (v5 : Int32) (os0 : Option Nat) (K118 : SX → Int32 → Int32 → Int32 → Int32 → Int32 → Option Nat → Option Nat → Option Nat → Int32 → Prop) (post : Int32 → SX → Prop) : Prop :=
  ∀ r1 : Int32, r1 = f1_holdsSecond v2 → (r1 = 0 → wp_X1_deed_56 σ v1 v2 v3 v4 v5 os0 none K118 post) ∧ (¬ r1 = 0 → q1_inSlot σ v4 ∧ ∀ (o3 : Option Nat) (σ4 : SX), o3 = (f1_inSlot σ v4).1 → σ4 = (f1_inSlot σ v4).2 → wp_X1_deed_56 σ4 v1 v2 v3 v4 v5 os0 o3 K118 post)
set_option maxHeartbeats 4000000 in
set_option maxRecDepth 100000 in
theorem k_X1_deed_37 {l : Launch} {p : Program} {e : Env} {s : State} {m : MethodId} {below : List Frame} {meth : Method} {c : Code} {args : Array Value} {A : Nat → Prop} {G : Gm} {a : AX}  (hF : fx p s m args meth c cX1_deed 10 yX1_deed.cls kX1_deed (some (.int))) {post : Int32 → SX → Prop} {K118 : SX → Int32 → Int32 → Int32 → Int32 → Int32 → Option Nat → Option Nat → Option Nat → Int32 → Prop} (hK118 : ∀ (σ : SX) (v1 : Int32) (v2 : Int32) (v3 : Int32) (v4 : Int32) (v5 : Int32) (o6 : Option Nat) (o7 : Option Nat) (g8 : Option Nat) (v9 : Int32) {H : Heap} {locs : List Loc} {ls : Array Slot}, K118 σ v1 v2 v3 v4 v5 o6 o7 g8 v9 → wb G A s (wX G a σ) H locs → lv_has ls 10 [(0, .ref (a.1 13)), (1, .int v1), (2, .int v2), (3, .int v3), (4, .int v4), (5, .int v5), (6, va_rf (Option.map a.2.1 o6)), (7, va_rf (Option.map a.2.1 o7)), (8, va_rf (Option.map a.2.2 g8)), (9, .int v9)] → W p l e ({ frames := 3, cells := 1, slots := 8, locals := 70 } : Room) s m args below meth c H locs 0 0 (MQ below (va_Qi (fun (r : Int32) (u : AX × SX) => post r u.2 ∧ u.1.1 = a.1) (po G A (fun u : AX × SX => wX G u.1 u.2)) A) args s 1 8 A) (F0 m 118 ls [])) (σ : SX) (v1 : Int32) (v2 : Int32) (v3 : Int32) (v4 : Int32) (v5 : Int32) (os0 : Option Nat) {H : Heap} {locs : List Loc} {ls : Array Slot} (hw : wb G A s (wX G a σ) H locs) (hl : lv_has ls 10 [(0, .ref (a.1 13)), (1, .int v1), (2, .int v2), (3, .int v3), (4, .int v4), (5, .int v5)]) (hok : wp_X1_deed_37 σ v1 v2 v3 v4 v5 os0 K118 post) :
    W p l e ({ frames := 3, cells := 1, slots := 8, locals := 70 } : Room) s m args below meth c H locs 0 0 (MQ below (va_Qi (fun (r : Int32) (u : AX × SX) => post r u.2 ∧ u.1.1 = a.1) (po G A (fun u : AX × SX => wX G u.1 u.2)) A) args s 1 8 A) (F0 m 37 ls [va_rf (Option.map a.2.1 os0)]) := by
  unfold wp_X1_deed_37 at hok
  refine lq_astore (lv' := [(6, va_rf (Option.map a.2.1 os0)), (0, .ref (a.1 13)), (1, .int v1), (2, .int v2), (3, .int v3), (4, .int v4), (5, .int v5)]) hF dX1_deed_37 hl (by decide) (by first | rfl | (simp [cat_rf]; done) | (simp [cat_rf]; decide)) (fun ls hl => ?_)
  refine lv_iload_n hF.x hF.b dX1_deed_39 rfl (lv_at hl 3 rfl) ?_
  refine ca_S hF (c1_holdsSecond l v2) wv_X1_89 ⟨rfl, nd_X1.1, nd_X1.2, pd_X1_holdsSecond⟩ ⟨rfl, rfl⟩ ⟨by show 0 + 1 ≤ 3; omega, by show 8 + (1 + 11) + 0 ≤ 70; omega⟩ ⟨Nat.zero_le _, Nat.zero_le _⟩ hl.1 rfl (by first | exact Nat.le_of_ble_eq_true rfl | simp [cat_rf, Value.category]) dX1_deed_40 (fun r1 er1 => ?_)
  replace hok := hok r1 er1
  refine lv_if_eq (tgt := 55) hF.x hF.b dX1_deed_43 (by decide) (fun c2 => ?_) (fun c2 => ?_)
  · replace hok := hok.1 c2
    refine lv_null hF.x hF.b dX1_deed_55 ?_
    exact k_X1_deed_56  hF hK118 σ v1 v2 v3 v4 v5 os0 none hw (lv_sub hl [1, 2, 3, 4, 5, 6, 0] rfl) hok
  · replace hok := hok.2 c2
    refine lv_aload_n hF.x hF.b dX1_deed_46 rfl (lv_at hl 1 rfl) ?_
    refine lv_iload hF.x hF.b dX1_deed_47 (lv_at hl 5 rfl) ?_
    refine ca_Q hF hw (c1_inSlot l G a σ v4 hok.1) wv_X1_85 (q0 := 0) rfl rfl rfl ⟨nd_X1.1, nd_X1.2, pd_X1_inSlot⟩ ⟨by show 1 + 1 ≤ 3; omega, by show 8 + (2 + 11) + 20 ≤ 70; omega⟩ ⟨Nat.zero_le _, Nat.zero_le _⟩ hl.1 rfl (by first | exact Nat.le_of_ble_eq_true rfl | simp [cat_rf, Value.category]) dX1_deed_49 (fun rq σ4 H locs hp hw => ?_)
    obtain ⟨o3, hr, eo3, eσ4⟩ := hp
    subst hr
    replace hok := hok.2 o3 σ4 eo3 eσ4
    refine lv_goto (tgt := 56) hF.x hF.b dX1_deed_52 (by decide) ?_
    exact k_X1_deed_56  hF hK118 σ4 v1 v2 v3 v4 v5 os0 o3 hw (lv_sub hl [1, 2, 3, 4, 5, 6, 0] rfl) hok
def wp_X1_deed_0 (σ : SX) (v1 : Int32) (v2 : Int32) (v3 : Int32) (v4 : Int32) (v5 : Int32) (K118 : SX → Int32 → Int32 → Int32 → Int32 → Int32 → Option Nat → Option Nat → Option Nat → Int32 → Prop) (post : Int32 → SX → Prop) : Prop :=
  ∀ r1 : Int32, r1 = f1_isSlot v1 → (r1 = 0 → post ((-1)) σ) ∧ (¬ r1 = 0 → ∀ r3 : Int32, r3 = f1_namesWhatThereIs v2 v3 v4 v5 → (¬ r3 = 0 → ∀ r5 : Int32, r5 = f1_holdsFirst v2 → (r5 = 0 → wp_X1_deed_37 σ v1 v2 v3 v4 v5 none K118 post) ∧ (¬ r5 = 0 → q1_inSlot σ v3 ∧ ∀ (o7 : Option Nat) (σ8 : SX), o7 = (f1_inSlot σ v3).1 → σ8 = (f1_inSlot σ v3).2 → wp_X1_deed_37 σ8 v1 v2 v3 v4 v5 o7 K118 post)) ∧ (r3 = 0 → post ((-1)) σ))
set_option maxHeartbeats 4000000 in
set_option maxRecDepth 100000 in
theorem k_X1_deed_0 {l : Launch} {p : Program} {e : Env} {s : State} {m : MethodId} {below : List Frame} {meth : Method} {c : Code} {args : Array Value} {A : Nat → Prop} {G : Gm} {a : AX}  (hF : fx p s m args meth c cX1_deed 10 yX1_deed.cls kX1_deed (some (.int))) {post : Int32 → SX → Prop} {K118 : SX → Int32 → Int32 → Int32 → Int32 → Int32 → Option Nat → Option Nat → Option Nat → Int32 → Prop} (hK118 : ∀ (σ : SX) (v1 : Int32) (v2 : Int32) (v3 : Int32) (v4 : Int32) (v5 : Int32) (o6 : Option Nat) (o7 : Option Nat) (g8 : Option Nat) (v9 : Int32) {H : Heap} {locs : List Loc} {ls : Array Slot}, K118 σ v1 v2 v3 v4 v5 o6 o7 g8 v9 → wb G A s (wX G a σ) H locs → lv_has ls 10 [(0, .ref (a.1 13)), (1, .int v1), (2, .int v2), (3, .int v3), (4, .int v4), (5, .int v5), (6, va_rf (Option.map a.2.1 o6)), (7, va_rf (Option.map a.2.1 o7)), (8, va_rf (Option.map a.2.2 g8)), (9, .int v9)] → W p l e ({ frames := 3, cells := 1, slots := 8, locals := 70 } : Room) s m args below meth c H locs 0 0 (MQ below (va_Qi (fun (r : Int32) (u : AX × SX) => post r u.2 ∧ u.1.1 = a.1) (po G A (fun u : AX × SX => wX G u.1 u.2)) A) args s 1 8 A) (F0 m 118 ls [])) (σ : SX) (v1 : Int32) (v2 : Int32) (v3 : Int32) (v4 : Int32) (v5 : Int32) {H : Heap} {locs : List Loc} {ls : Array Slot} (hw : wb G A s (wX G a σ) H locs) (hl : lv_has ls 10 [(0, .ref (a.1 13)), (1, .int v1), (2, .int v2), (3, .int v3), (4, .int v4), (5, .int v5)]) (hok : wp_X1_deed_0 σ v1 v2 v3 v4 v5 K118 post) :
    W p l e ({ frames := 3, cells := 1, slots := 8, locals := 70 } : Room) s m args below meth c H locs 0 0 (MQ below (va_Qi (fun (r : Int32) (u : AX × SX) => post r u.2 ∧ u.1.1 = a.1) (po G A (fun u : AX × SX => wX G u.1 u.2)) A) args s 1 8 A) (F0 m 0 ls []) := by
  unfold wp_X1_deed_0 at hok
  refine lv_iload_n hF.x hF.b dX1_deed_0 rfl (lv_at hl 1 rfl) ?_
  refine ca_S hF (c1_isSlot l v1) wv_X1_75 ⟨rfl, nd_X1.1, nd_X1.2, pd_X1_isSlot⟩ ⟨rfl, rfl⟩ ⟨by show 0 + 1 ≤ 3; omega, by show 8 + (1 + 11) + 0 ≤ 70; omega⟩ ⟨Nat.zero_le _, Nat.zero_le _⟩ hl.1 rfl (by first | exact Nat.le_of_ble_eq_true rfl | simp [cat_rf, Value.category]) dX1_deed_1 (fun r1 er1 => ?_)
  replace hok := hok r1 er1
  refine lv_if_eq (tgt := 19) hF.x hF.b dX1_deed_4 (by decide) (fun c2 => ?_) (fun c2 => ?_)
  · replace hok := hok.1 c2
    refine lv_iconst (v := (-1)) hF.x hF.b dX1_deed_19 (by decide) ?_
    exact rt_I (wf := fun u : AX × SX => wX G u.1 u.2) (u := (a, σ)) hF hw ⟨hok, rfl⟩ (Nat.zero_le _) (Nat.zero_le _) dX1_deed_20
  · replace hok := hok.2 c2
    refine lv_iload_n hF.x hF.b dX1_deed_7 rfl (lv_at hl 2 rfl) ?_
    refine lv_iload_n hF.x hF.b dX1_deed_8 rfl (lv_at hl 3 rfl) ?_
    refine lv_iload hF.x hF.b dX1_deed_9 (lv_at hl 4 rfl) ?_
    refine lv_iload hF.x hF.b dX1_deed_11 (lv_at hl 5 rfl) ?_
    refine ca_S hF (c1_namesWhatThereIs l v2 v3 v4 v5) wv_X1_78 ⟨rfl, nd_X1.1, nd_X1.2, pd_X1_namesWhatThereIs⟩ ⟨rfl, rfl⟩ ⟨by show 1 + 1 ≤ 3; omega, by show 8 + (4 + 11) + 20 ≤ 70; omega⟩ ⟨Nat.zero_le _, Nat.zero_le _⟩ hl.1 rfl (by first | exact Nat.le_of_ble_eq_true rfl | simp [cat_rf, Value.category]) dX1_deed_13 (fun r3 er3 => ?_)
    replace hok := hok r3 er3
    refine lv_if_ne (tgt := 21) hF.x hF.b dX1_deed_16 (by decide) (fun c4 => ?_) (fun c4 => ?_)
    · replace hok := hok.1 c4
      refine lv_iload_n hF.x hF.b dX1_deed_21 rfl (lv_at hl 2 rfl) ?_
      refine ca_S hF (c1_holdsFirst l v2) wv_X1_82 ⟨rfl, nd_X1.1, nd_X1.2, pd_X1_holdsFirst⟩ ⟨rfl, rfl⟩ ⟨by show 0 + 1 ≤ 3; omega, by show 8 + (1 + 11) + 0 ≤ 70; omega⟩ ⟨Nat.zero_le _, Nat.zero_le _⟩ hl.1 rfl (by first | exact Nat.le_of_ble_eq_true rfl | simp [cat_rf, Value.category]) dX1_deed_22 (fun r5 er5 => ?_)
      replace hok := hok r5 er5
      refine lv_if_eq (tgt := 36) hF.x hF.b dX1_deed_25 (by decide) (fun c6 => ?_) (fun c6 => ?_)
      · replace hok := hok.1 c6
        refine lv_null hF.x hF.b dX1_deed_36 ?_
        exact k_X1_deed_37  hF hK118 σ v1 v2 v3 v4 v5 none hw (lv_sub hl [0, 1, 2, 3, 4, 5] rfl) hok
      · replace hok := hok.2 c6
        refine lv_aload_n hF.x hF.b dX1_deed_28 rfl (lv_at hl 0 rfl) ?_
        refine lv_iload_n hF.x hF.b dX1_deed_29 rfl (lv_at hl 3 rfl) ?_
        refine ca_Q hF hw (c1_inSlot l G a σ v3 hok.1) wv_X1_85 (q0 := 0) rfl rfl rfl ⟨nd_X1.1, nd_X1.2, pd_X1_inSlot⟩ ⟨by show 1 + 1 ≤ 3; omega, by show 8 + (2 + 11) + 20 ≤ 70; omega⟩ ⟨Nat.zero_le _, Nat.zero_le _⟩ hl.1 rfl (by first | exact Nat.le_of_ble_eq_true rfl | simp [cat_rf, Value.category]) dX1_deed_30 (fun rq σ8 H locs hp hw => ?_)
        obtain ⟨o7, hr, eo7, eσ8⟩ := hp
        subst hr
        replace hok := hok.2 o7 σ8 eo7 eσ8
        refine lv_goto (tgt := 37) hF.x hF.b dX1_deed_33 (by decide) ?_
        exact k_X1_deed_37  hF hK118 σ8 v1 v2 v3 v4 v5 o7 hw (lv_sub hl [0, 1, 2, 3, 4, 5] rfl) hok
    · replace hok := hok.2 c4
      refine lv_iconst (v := (-1)) hF.x hF.b dX1_deed_19 (by decide) ?_
      exact rt_I (wf := fun u : AX × SX => wX G u.1 u.2) (u := (a, σ)) hF hw ⟨hok, rfl⟩ (Nat.zero_le _) (Nat.zero_le _) dX1_deed_20

set_option maxHeartbeats 4000000 in
set_option maxRecDepth 100000 in
theorem k_X1_deed_118 {l : Launch} {p : Program} {e : Env} {s : State} {m : MethodId} {below : List Frame} {meth : Method} {c : Code} {args : Array Value} {A : Nat → Prop} {G : Gm} {a : AX} (hF : fx p s m args meth c cX1_deed 10 yX1_deed.cls kX1_deed (some (.int))) {post : Int32 → SX → Prop} (σ : SX) (v1 v2 v3 v4 v5 : Int32) (o6 o7 g8 : Option Nat) (v9 : Int32) {H : Heap} {locs : List Loc} {ls : Array Slot} (hW : WFX σ) (hsl : ¬ f1_isSlot v1 = 0) (h6 : okO σ o6) (h7 : okO σ o7) (hp : post (σ.1 8 + 1) (sx_new σ v1 (mkD v2 v9 v4 v5 o6 o7 g8))) (hw : wb G A s (wX G a σ) H locs) (hl : lv_has ls 10 [(0, .ref (a.1 13)), (1, .int v1), (2, .int v2), (3, .int v3), (4, .int v4), (5, .int v5), (6, va_rf (Option.map a.2.1 o6)), (7, va_rf (Option.map a.2.1 o7)), (8, va_rf (Option.map a.2.2 g8)), (9, .int v9)]) :
    W p l e ({ frames := 3, cells := 1, slots := 8, locals := 70 } : Room) s m args below meth c H locs 0 0 (MQ below (va_Qi (fun (r : Int32) (u : AX × SX) => post r u.2 ∧ u.1.1 = a.1) (po G A (fun u : AX × SX => wX G u.1 u.2)) A) args s 1 8 A) (F0 m 118 ls []) := by
  have hnest : Cond.methodLinkNest RX1 92 yX0_init RX1 ∈ nestW := by unfold nestW; simp
  refine lv_aload_n hF.x hF.b dX1_deed_118 rfl (lv_at hl 0 rfl) ?_
  refine r_get hF hw 0 rfl rfl inlX1 2 (by decide) wf_X1_20 rfl dX1_deed_119 ?_
  refine lv_iload_n hF.x hF.b dX1_deed_122 rfl (lv_at hl 1 rfl) ?_
  refine r_new (ci := 0) (fs := [.int 0, .int 0, .int 0, .int 0, .null, .null, .null, .int 0]) hF hw rfl inlX0 tyX0 tyX0_ok wc_X1_18 wn_X0 wi_X0 (fun j hj => ?_) (by show 0 + 1 ≤ 1; decide) (by show 0 + 8 ≤ 8; decide) dX1_deed_123 (fun q H hw => ?_)
  · match j, hj with
    | 0, _ => rfl
    | 1, _ => rfl
    | 2, _ => rfl
    | 3, _ => rfl
    | 4, _ => rfl
    | 5, _ => rfl
    | 6, _ => rfl
    | 7, _ => rfl
    | j + 8, hj => omega
  refine lv_dup hF.x hF.b dX1_deed_126 rfl ?_
  refine lv_iload_n hF.x hF.b dX1_deed_127 rfl (lv_at hl 2 rfl) ?_
  refine lv_iload hF.x hF.b dX1_deed_128 (lv_at hl 9 rfl) ?_
  refine lv_iload hF.x hF.b dX1_deed_130 (lv_at hl 4 rfl) ?_
  refine lv_iload hF.x hF.b dX1_deed_132 (lv_at hl 5 rfl) ?_
  refine lq_aload hF dX1_deed_134 (lv_at hl 6 rfl) ?_
  refine lq_aload hF dX1_deed_136 (lv_at hl 7 rfl) ?_
  refine lq_aload hF dX1_deed_138 (lv_at hl 8 rfl) ?_
  refine ca_N (As := [.int v2, .int v9, .int v4, .int v5, va_rf (Option.map a.2.1 o6), va_rf (Option.map a.2.1 o7), va_rf (Option.map a.2.2 g8)]) (host := RX1) hF hw (c0_init l G (wX G a σ) q v2 v9 v4 v5 _ _ _) hnest wm_X0_init wi_X0 wk_X0_init rfl ⟨nd_X0.1, nd_X0.2, pd_X0_init⟩ ⟨by show 1 + 1 ≤ 3; decide, by show 8 + (8 + 11) + 12 ≤ 70; decide⟩ ⟨by show 0 + 1 + 0 ≤ 1; decide, by show 0 + 8 + 0 ≤ 8; decide⟩ hl.1 rfl (Nat.le_of_ble_eq_true rfl) dX1_deed_140 (fun u H locs hu hw => ?_)
  have hw := wb_newD hW q v2 v9 v4 v5 o6 o7 g8 h6 h7 hw
  refine rx_aastv (a := (a.1, va_up a.2.1 σ.2.2.2.1.1 q, a.2.2)) (o := some σ.2.2.2.1.1) (by simp [va_rf, va_up]) 2 20 hF hw (by decide) (in_S hsl) (fun d hd => by cases hd; exact Nat.lt_succ_self _) dX1_deed_143 (fun σ1 H locs e1 hw => ?_)
  refine lv_aload_n hF.x hF.b dX1_deed_144 rfl (lv_at hl 0 rfl) ?_
  refine lv_dup hF.x hF.b dX1_deed_145 rfl ?_
  refine r_get hF hw 0 rfl rfl inlX1 8 (by decide) wf_X1_40 rfl dX1_deed_146 ?_
  refine lv_iconst (v := 1) hF.x hF.b dX1_deed_149 (by decide) ?_
  refine lv_iadd hF.x hF.b dX1_deed_150 ?_
  refine lv_topi (fun x2 e2 => ?_)
  refine rx_put (a := (a.1, va_up a.2.1 σ.2.2.2.1.1 q, a.2.2)) (v := x2) 8 hF hw (by decide) wf_X1_40 dX1_deed_151 (fun σ2 H locs e3 hw => ?_)
  refine lv_aload_n hF.x hF.b dX1_deed_154 rfl (lv_at hl 0 rfl) ?_
  refine r_get hF hw 0 rfl rfl inlX1 8 (by decide) wf_X1_40 rfl dX1_deed_155 ?_
  refine rt_I (wf := fun u : AX × SX => wX G u.1 u.2) (u := ((a.1, va_up a.2.1 σ.2.2.2.1.1 q, a.2.2), σ2)) hF hw ⟨?_, rfl⟩ (Nat.le_refl _) (Nat.le_refl _) dX1_deed_158
  have e4 : σ2 = sx_new σ v1 (mkD v2 v9 v4 v5 o6 o7 g8) := by
    subst e3; subst e2; subst e1
    rfl
  have e5 : σ2.1 8 = σ.1 8 + 1 := by rw [e4]; show va_up σ.1 8 (σ.1 8 + 1) 8 = _; exact va_up_self _ _ _
  show post (σ2.1 8) σ2
  rw [e5, e4]
  exact hp

theorem p1_deed_85 {σ : SX} {v1 v2 v3 v4 v5 : Int32} {o6 o7 : Option Nat} {K : SX → Int32 → Int32 → Int32 → Int32 → Int32 → Option Nat → Option Nat → Option Nat → Int32 → Prop} {post : Int32 → SX → Prop} (h : K σ v1 v2 v3 v4 v5 o6 o7 (x_gauge σ v2 v3) (x_num σ v2 v3)) : wp_X1_deed_85 σ v1 v2 v3 v4 v5 o6 o7 K post := by
  have h99 : ∀ g, g = x_gauge σ v2 v3 → wp_X1_deed_99 σ v1 v2 v3 v4 v5 o6 o7 g K post := by
    intro g eg
    subst eg
    refine ⟨fun c => ?_, fun c => ⟨trivial, fun r2 σ3 e2 e3 => ?_⟩⟩
    · show K σ v1 v2 v3 v4 v5 o6 o7 (x_gauge σ v2 v3) v3
      rw [show x_num σ v2 v3 = v3 from if_neg c] at h
      exact h
    · obtain rfl : σ3 = σ := e3
      show K σ3 v1 v2 v3 v4 v5 o6 o7 (x_gauge σ3 v2 v3) r2
      rw [show x_num σ3 v2 v3 = r2 from by rw [e2]; exact if_pos c] at h
      exact h
  refine ⟨fun c => h99 none (if_neg c).symm, fun c => ⟨trivial, fun o2 σ3 e2 e3 => ?_⟩⟩
  obtain rfl : σ3 = σ := e3
  exact h99 o2 (by rw [e2]; exact (if_pos c).symm)
theorem p1_deed_56 {σ : SX} {v1 v2 v3 v4 v5 : Int32} {o6 o7 : Option Nat} {K : SX → Int32 → Int32 → Int32 → Int32 → Int32 → Option Nat → Option Nat → Option Nat → Int32 → Prop} {post : Int32 → SX → Prop} (hn : (¬ f1_holdsFirst v2 = 0 ∧ o6 = none) ∨ (¬ f1_holdsSecond v2 = 0 ∧ o7 = none) → post (-2) σ) (h : ¬ ((¬ f1_holdsFirst v2 = 0 ∧ o6 = none) ∨ (¬ f1_holdsSecond v2 = 0 ∧ o7 = none)) → K σ v1 v2 v3 v4 v5 o6 o7 (x_gauge σ v2 v3) (x_num σ v2 v3)) : wp_X1_deed_56 σ v1 v2 v3 v4 v5 o6 o7 K post := by
  have h70 : ¬ (¬ f1_holdsFirst v2 = 0 ∧ o6 = none) → wp_X1_deed_70 σ v1 v2 v3 v4 v5 o6 o7 K post := by
    intro h1 r1 e1
    subst e1
    refine ⟨fun c => p1_deed_85 (h (fun q => q.elim h1 (fun q => q.1 c))), fun c => ⟨fun e => hn (Or.inr ⟨c, e⟩), fun d e => ?_⟩⟩
    subst e
    exact p1_deed_85 (h (fun q => q.elim h1 (fun q => by cases q.2)))
  intro r1 e1
  subst e1
  refine ⟨fun c => h70 (fun q => q.1 c), fun c => ⟨fun e => hn (Or.inl ⟨c, e⟩), fun d e => ?_⟩⟩
  subst e
  exact h70 (fun q => by cases q.2)
theorem p1_deed (σ : SX) (v1 v2 v3 v4 v5 : Int32) : wp_X1_deed_0 σ v1 v2 v3 v4 v5 (fun σq v1' v2' v3' v4' v5' o6' o7' g8' v9' => σq = σ ∧ v1' = v1 ∧ v2' = v2 ∧ v4' = v4 ∧ v5' = v5 ∧ ¬ f1_isSlot v1 = 0 ∧ o6' = x_first σ v2 v3 ∧ o7' = x_second σ v2 v4 ∧ g8' = x_gauge σ v2 v3 ∧ v9' = x_num σ v2 v3 ∧ f1_deed σ v1 v2 v3 v4 v5 = (σ.1 8 + 1, sx_new σ v1 (mkD v2 (x_num σ v2 v3) v4 v5 (x_first σ v2 v3) (x_second σ v2 v4) (x_gauge σ v2 v3)))) (fun r u => r = (f1_deed σ v1 v2 v3 v4 v5).1 ∧ u = (f1_deed σ v1 v2 v3 v4 v5).2) := by
  intro r1 e1; subst e1
  refine ⟨fun c => ?_, fun c r3 e3 => ?_⟩
  · simp only [f1_deed]; rw [if_pos c]; exact ⟨rfl, rfl⟩
  subst e3
  refine ⟨fun c2 => ?_, fun c2 => ?_⟩
  · have hmain : ∀ o6, o6 = x_first σ v2 v3 → wp_X1_deed_37 σ v1 v2 v3 v4 v5 o6 (fun σq v1' v2' v3' v4' v5' o6' o7' g8' v9' => σq = σ ∧ v1' = v1 ∧ v2' = v2 ∧ v4' = v4 ∧ v5' = v5 ∧ ¬ f1_isSlot v1 = 0 ∧ o6' = x_first σ v2 v3 ∧ o7' = x_second σ v2 v4 ∧ g8' = x_gauge σ v2 v3 ∧ v9' = x_num σ v2 v3 ∧ f1_deed σ v1 v2 v3 v4 v5 = (σ.1 8 + 1, sx_new σ v1 (mkD v2 (x_num σ v2 v3) v4 v5 (x_first σ v2 v3) (x_second σ v2 v4) (x_gauge σ v2 v3)))) (fun r u => r = (f1_deed σ v1 v2 v3 v4 v5).1 ∧ u = (f1_deed σ v1 v2 v3 v4 v5).2) := by
      intro o6 e6
      have h56 : ∀ o7, o7 = x_second σ v2 v4 → wp_X1_deed_56 σ v1 v2 v3 v4 v5 o6 o7 (fun σq v1' v2' v3' v4' v5' o6' o7' g8' v9' => σq = σ ∧ v1' = v1 ∧ v2' = v2 ∧ v4' = v4 ∧ v5' = v5 ∧ ¬ f1_isSlot v1 = 0 ∧ o6' = x_first σ v2 v3 ∧ o7' = x_second σ v2 v4 ∧ g8' = x_gauge σ v2 v3 ∧ v9' = x_num σ v2 v3 ∧ f1_deed σ v1 v2 v3 v4 v5 = (σ.1 8 + 1, sx_new σ v1 (mkD v2 (x_num σ v2 v3) v4 v5 (x_first σ v2 v3) (x_second σ v2 v4) (x_gauge σ v2 v3)))) (fun r u => r = (f1_deed σ v1 v2 v3 v4 v5).1 ∧ u = (f1_deed σ v1 v2 v3 v4 v5).2) := by
        intro o7 e7
        subst e6; subst e7
        refine p1_deed_56 (fun hn => ?_) (fun hn => ?_)
        · simp only [f1_deed]; rw [if_neg c, if_neg c2, if_pos hn]; exact ⟨rfl, rfl⟩
        · refine ⟨rfl, rfl, rfl, rfl, rfl, c, rfl, rfl, rfl, rfl, ?_⟩
          simp only [f1_deed]; rw [if_neg c, if_neg c2, if_neg hn]
      intro r1 e1
      subst e1
      refine ⟨fun c3 => h56 none (if_pos c3).symm, fun c3 => ⟨trivial, fun o3 σ4 e3 e4 => ?_⟩⟩
      obtain rfl : σ4 = σ := e4
      exact h56 o3 (by rw [e3]; exact (if_neg c3).symm)
    intro r5 e5
    subst e5
    refine ⟨fun c3 => hmain none (if_pos c3).symm, fun c3 => ⟨trivial, fun o3 σ4 e3 e4 => ?_⟩⟩
    obtain rfl : σ4 = σ := e4
    exact hmain o3 (by rw [e3]; exact (if_neg c3).symm)
  · simp only [f1_deed]; rw [if_neg c, if_pos c2]; exact ⟨rfl, rfl⟩
theorem c1_deed (l : Launch) (G : Gm) (a : AX) (σ : SX) (v1 v2 v3 v4 v5 : Int32) (h : q1_deed σ v1 v2 v3 v4 v5) : ctI l yX1_deed cX1_deed 10 .int { frames := 3, cells := 1, slots := 8, locals := 70 } G [.ref (a.1 13), .int v1, .int v2, .int v3, .int v4, .int v5] (wX G a σ) (fun (r : Int32) (u : AX × SX) => (r = (f1_deed σ v1 v2 v3 v4 v5).1 ∧ u.2 = (f1_deed σ v1 v2 v3 v4 v5).2) ∧ u.1.1 = a.1) (fun u : AX × SX => wX G u.1 u.2) := by
  refine en_I (by decide +kernel) (Nat.le_of_ble_eq_true rfl) (fun p e s m below meth c A ls hF hw hl => ?_)
  refine k_X1_deed_0 (post := fun r u => r = (f1_deed σ v1 v2 v3 v4 v5).1 ∧ u = (f1_deed σ v1 v2 v3 v4 v5).2) hF ?_ σ v1 v2 v3 v4 v5 hw hl (p1_deed σ v1 v2 v3 v4 v5)
  intro σq v1' v2' v3' v4' v5' o6' o7' g8' v9' H locs ls hI hw' hl'
  obtain ⟨rfl, rfl, rfl, rfl, rfl, c1, rfl, rfl, rfl, rfl, hf⟩ := hI
  refine k_X1_deed_118 (post := fun r u => r = (f1_deed σq v1' v2' v3 v4' v5').1 ∧ u = (f1_deed σq v1' v2' v3 v4' v5').2) hF σq v1' v2' v3' v4' v5' _ _ _ _ h c1 ?_ ?_ ?_ hw' hl'
  · intro d hd
    simp only [x_first] at hd
    split at hd
    · cases hd
    · exact okO.in h _ d hd
  · intro d hd
    simp only [x_second] at hd
    split at hd
    · cases hd
    · exact okO.in h _ d hd
  · rw [hf]; exact ⟨rfl, rfl⟩
end
