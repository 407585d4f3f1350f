/-! rows of this claim's own: what stands fixed in a body (fx), the world as one thing (wb), contracts over the whole world (ctI, ctV, ctQ, ctS), how a body begins, ends, calls -/
abbrev Gm : Type := va_G × (ClassId × ClassId × ClassId)
abbrev tyL (G : Gm) : List (ClassId × FieldType) := [(G.2.1, .int), (G.2.2.1, .object RX0), (G.2.2.2, .array .int)]
def nestW : List Cond := [.fieldLinkNest RX1 98 "LeverHall$Deed" "kind" "I" RX1, .fieldLinkNest RX1 147 "LeverHall$Deed" "x" "I" RX1, .fieldLinkNest RX1 187 "LeverHall$Deed" "y" "I" RX1, .fieldLinkNest RX1 165 "LeverHall$Deed" "z" "I" RX1, .fieldLinkNest RX1 172 "LeverHall$Deed" "first" "LLeverHall$Deed;" RX1, .fieldLinkNest RX1 168 "LeverHall$Deed" "second" "LLeverHall$Deed;" RX1, .fieldLinkNest RX1 190 "LeverHall$Deed" "gauge" "[I" RX1, .fieldLinkNest RX1 101 "LeverHall$Deed" "times" "I" RX1, .methodLinkNest RX1 92 yX0_init RX1]
def agK (G : Gm) (U : State) : Prop := ∃ (kA kI : Class), U.vm.classes[G.2.2.2]? = some kA ∧ kA.kind = .array G.2.1 (.array .int) ∧ U.vm.classes[G.2.1]? = some kI
theorem agK.moved {G : Gm} {u U : State} (hvm : u.vm.Alike U.vm) (h : agK G u) : agK G U := by
  obtain ⟨kA, kI, h1, h2, h3⟩ := h
  obtain ⟨k', hk', he⟩ := hvm.2.2 _ _ h1
  obtain ⟨k2, hk2, -⟩ := hvm.2.2 _ _ h3
  exact ⟨k', k2, hk', by rw [he]; exact h2, hk2⟩
def kx (G : Gm) (U : State) : Prop := va_K G.1 vwCl (tyL G) U ∧ agK G U ∧ (∀ w ∈ nestW, va_Nw w U) ∧ va_AO RX0 U ∧ va_Nw (.arrayOver (.array .int)) U
theorem nest_warm {s U : State} (hW : s.WarmedH U.vm) (h : ∀ w ∈ nestW, va_Nw w s) : ∀ w ∈ nestW, va_Nw w U := by
  unfold nestW at h ⊢
  simp only [List.forall_mem_cons] at h ⊢
  obtain ⟨h1, h2, h3, h4, h5, h6, h7, h8, h9, -⟩ := h
  exact ⟨h1.warmF hW, h2.warmF hW, h3.warmF hW, h4.warmF hW, h5.warmF hW, h6.warmF hW, h7.warmF hW, h8.warmF hW, h9.warmM hW, fun _ h => absurd h List.not_mem_nil⟩
theorem kx_warm {G : Gm} {s U : State} (hW : s.WarmedH U.vm) (h : kx G s) : kx G U :=
  ⟨va_K.moved hW.alike h.1, h.2.1.moved hW.alike, nest_warm hW h.2.2.1, h.2.2.2.1.moved hW.alike, over_moved hW.alike h.2.2.2.2⟩
theorem kx_same {G : Gm} {u U : State} (hv : u.vm = U.vm) (h : kx G u) : kx G U := by
  have hal : u.vm.Alike U.vm := by rw [hv]; exact Vm.Alike.refl _
  refine ⟨va_K.moved hal h.1, h.2.1.moved hal, fun w hw => ?_, h.2.2.2.1.moved hal, over_moved hal h.2.2.2.2⟩
  have h1 := h.2.2.1 w hw
  have ht : w.onTables = true := by
    have hall : ∀ w ∈ nestW, w.onTables = true := by unfold nestW; simp only [List.forall_mem_cons]; exact ⟨rfl, rfl, rfl, rfl, rfl, rfl, rfl, rfl, rfl, fun _ h => absurd h List.not_mem_nil⟩
    exact hall w hw
  exact va_Nw.same ht hv h1
def fx (p : Program) (s : State) (m : MethodId) (args : Array Value) (meth : Method) (c : Code) (cc : ByteArray) (nL : Nat) (own : String) (c0 : Cond) (ret : Option FieldType) : Prop :=
  CallFix p m c cc nL s args (c0 :: wsA) own ∧ meth.sig.returnType = ret ∧ meth.locks = false
def wb (G : Gm) (A : Nat → Prop) (s : State) (ws : va_W) (H : Heap) (locs : List Loc) : Prop := kx G s ∧ va_P G.1 vwCl ws H ∧ va_D A ws ∧ va_S A s.heap H locs ∧ ∀ q, s.heap.size ≤ q → A q
def pr (G : Gm) (ws : va_W) (sz : Nat) (U : State) : Prop := U.heap.size = sz ∧ va_P G.1 vwCl ws U.heap ∧ kx G U ∧ va_D (fun _ => True) ws
def po (G : Gm) {S : Type} (A : Nat → Prop) (wf : S → va_W) (u : S) (t : State) : Prop := va_P G.1 vwCl (wf u) t.heap ∧ va_D A (wf u)
def ctI (l : Launch) (y : MethodName) (cc : ByteArray) (n : Nat) (rt : FieldType) (rm : Room) (G : Gm) (av : List Value) (ws : va_W) {S : Type} (post : Int32 → S → Prop) (wf : S → va_W) : Prop :=
  ∀ sz : Nat, Met l y (.code y cc n (some rt) :: wsA) rm (va_Pc av (pr G ws sz)) (va_Qi post (po G (va_A ws sz) wf) (va_A ws sz)) rm.cells rm.slots (va_A ws sz)
def ctQ (l : Launch) (y : MethodName) (cc : ByteArray) (n : Nat) (rt : FieldType) (rm : Room) (G : Gm) (av : List Value) (ws : va_W) {S : Type} (post : Option Nat → S → Prop) (wf : S → va_W) : Prop :=
  ∀ sz : Nat, Met l y (.code y cc n (some rt) :: wsA) rm (va_Pc av (pr G ws sz)) (va_Qq post (po G (va_A ws sz) wf) (va_A ws sz)) rm.cells rm.slots (va_A ws sz)
def ctV (l : Launch) (y : MethodName) (cc : ByteArray) (n : Nat) (rm : Room) (G : Gm) (av : List Value) (ws : va_W) {S : Type} (post : S → Prop) (wf : S → va_W) : Prop :=
  ∀ sz : Nat, Met l y (.code y cc n none :: wsA) rm (va_Pc av (pr G ws sz)) (va_Qv post (po G (va_A ws sz) wf) (va_A ws sz)) rm.cells rm.slots (va_A ws sz)
def ctS (l : Launch) (y : MethodName) (cc : ByteArray) (n : Nat) (rt : FieldType) (rm : Room) (av : List Value) (post : Int32 → Prop) : Prop :=
  Met l y (.code y cc n (some rt) :: wsA) rm (va_Pc av (fun _ => True)) (vp_Si post) 0 0 (fun _ => False)
section EN
variable {l : Launch} {y : MethodName} {cc : ByteArray} {n : Nat} {rt : FieldType} {rm : Room} {G : Gm} {av : List Value} {ws : va_W} {S : Type} {wf : S → va_W}
theorem en_I {post : Int32 → S → Prop} (hy : plainName y.cls = true) (hlen : (lg_sl av).length ≤ n)
    (body : ∀ (p : Program) (e : Env) (s : State) (m : MethodId) (below : List Frame) (meth : Method) (c : Code) (A : Nat → Prop) (ls : Array Slot), fx p s m av.toArray meth c cc n y.cls (.code y cc n (some rt)) (some rt) → wb G A s ws s.heap [] → lv_has ls n (lv_args 0 av) →
      W p l e rm s m av.toArray below meth c s.heap [] 0 0 (MQ below (va_Qi post (po G A wf) A) av.toArray s rm.cells rm.slots A) (F0 m 0 ls [])) : ctI l y cc n rt rm G av ws post wf := by
  intro sz
  refine Met.ofW (cc := cc) (maxL := n) (ret := some rt) hy rfl ?_
  intro p e s m args below meth c s₁ B hml hv
  obtain ⟨rfl, hsz, hP, hK, hD0⟩ := hv
  subst hsz
  have hD := hD0.self (sz := s.heap.size)
  have hA : ∀ q : Nat, s.heap.size ≤ q → va_A ws s.heap.size q := fun q h => Or.inr h
  generalize va_A ws s.heap.size = A at hD hA ⊢
  have hl := lv_entry av (n := n) hlen
  rw [lg_entry_eq]
  generalize (lg_sl av ++ List.replicate (n - (lg_sl av).length) Slot.unset).toArray = ls at hl ⊢
  exact body p e s m below meth c A ls ⟨⟨B.exec, B.bytes, hml, findClass_of_methodNamed B.named, atoms_spec (ws := .code y cc n (some rt) :: wsA) B.pre⟩, B.returns, B.notSynchronized⟩ ⟨hK, hP, hD, va_S.rf, hA⟩ hl
theorem en_Q {post : Option Nat → S → Prop} (hy : plainName y.cls = true) (hlen : (lg_sl av).length ≤ n)
    (body : ∀ (p : Program) (e : Env) (s : State) (m : MethodId) (below : List Frame) (meth : Method) (c : Code) (A : Nat → Prop) (ls : Array Slot), fx p s m av.toArray meth c cc n y.cls (.code y cc n (some rt)) (some rt) → wb G A s ws s.heap [] → lv_has ls n (lv_args 0 av) →
      W p l e rm s m av.toArray below meth c s.heap [] 0 0 (MQ below (va_Qq post (po G A wf) A) av.toArray s rm.cells rm.slots A) (F0 m 0 ls [])) : ctQ l y cc n rt rm G av ws post wf := by
  intro sz
  refine Met.ofW (cc := cc) (maxL := n) (ret := some rt) hy rfl ?_
  intro p e s m args below meth c s₁ B hml hv
  obtain ⟨rfl, hsz, hP, hK, hD0⟩ := hv
  subst hsz
  have hD := hD0.self (sz := s.heap.size)
  have hA : ∀ q : Nat, s.heap.size ≤ q → va_A ws s.heap.size q := fun q h => Or.inr h
  generalize va_A ws s.heap.size = A at hD hA ⊢
  have hl := lv_entry av (n := n) hlen
  rw [lg_entry_eq]
  generalize (lg_sl av ++ List.replicate (n - (lg_sl av).length) Slot.unset).toArray = ls at hl ⊢
  exact body p e s m below meth c A ls ⟨⟨B.exec, B.bytes, hml, findClass_of_methodNamed B.named, atoms_spec (ws := .code y cc n (some rt) :: wsA) B.pre⟩, B.returns, B.notSynchronized⟩ ⟨hK, hP, hD, va_S.rf, hA⟩ hl
theorem en_V {post : S → Prop} (hy : plainName y.cls = true) (hlen : (lg_sl av).length ≤ n)
    (body : ∀ (p : Program) (e : Env) (s : State) (m : MethodId) (below : List Frame) (meth : Method) (c : Code) (A : Nat → Prop) (ls : Array Slot), fx p s m av.toArray meth c cc n y.cls (.code y cc n none) none → meth.name = y.name → wb G A s ws s.heap [] → lv_has ls n (lv_args 0 av) →
      W p l e rm s m av.toArray below meth c s.heap [] 0 0 (MQ below (va_Qv post (po G A wf) A) av.toArray s rm.cells rm.slots A) (F0 m 0 ls [])) : ctV l y cc n rm G av ws post wf := by
  intro sz
  refine Met.ofW (cc := cc) (maxL := n) (ret := none) hy rfl ?_
  intro p e s m args below meth c s₁ B hml hv
  obtain ⟨rfl, hsz, hP, hK, hD0⟩ := hv
  subst hsz
  have hD := hD0.self (sz := s.heap.size)
  have hA : ∀ q : Nat, s.heap.size ≤ q → va_A ws s.heap.size q := fun q h => Or.inr h
  generalize va_A ws s.heap.size = A at hD hA ⊢
  have hl := lv_entry av (n := n) hlen
  rw [lg_entry_eq]
  generalize (lg_sl av ++ List.replicate (n - (lg_sl av).length) Slot.unset).toArray = ls at hl ⊢
  exact body p e s m below meth c A ls ⟨⟨B.exec, B.bytes, hml, findClass_of_methodNamed B.named, atoms_spec (ws := .code y cc n none :: wsA) B.pre⟩, B.returns, B.notSynchronized⟩ (name_of_methodNamed B.named B.method).1 ⟨hK, hP, hD, va_S.rf, hA⟩ hl
theorem en_S {post : Int32 → Prop} (hy : plainName y.cls = true) (hlen : (lg_sl av).length ≤ n)
    (body : ∀ (p : Program) (e : Env) (s : State) (m : MethodId) (below : List Frame) (meth : Method) (c : Code) (ls : Array Slot), fx p s m av.toArray meth c cc n y.cls (.code y cc n (some rt)) (some rt) → lv_has ls n (lv_args 0 av) →
      W p l e rm s m av.toArray below meth c s.heap [] 0 0 (MQ below (vp_Si post) av.toArray s 0 0 (fun _ => False)) (F0 m 0 ls [])) : ctS l y cc n rt rm av post := by
  refine Met.ofW (cc := cc) (maxL := n) (ret := some rt) hy rfl ?_
  intro p e s m args below meth c s₁ B hml hv
  obtain ⟨rfl, -⟩ := hv
  have hl := lv_entry av (n := n) hlen
  rw [lg_entry_eq]
  generalize (lg_sl av ++ List.replicate (n - (lg_sl av).length) Slot.unset).toArray = ls at hl ⊢
  exact body p e s m below meth c ls ⟨⟨B.exec, B.bytes, hml, findClass_of_methodNamed B.named, atoms_spec (ws := .code y cc n (some rt) :: wsA) B.pre⟩, B.returns, B.notSynchronized⟩ hl
end EN
theorem gi_one {c0 w : Cond} (h : w ∈ wsA) : w ∈ c0 :: wsA ∧ ((w.onTables && w.keeps) = true ∨ ∃ ty, w = .arrayClass ty) := ⟨List.mem_cons_of_mem _ h, good_of_word (gl_all w h)⟩
theorem gi_V {c0 cd : Cond} {own : String} {idx : Nat} {y : MethodName} (h : vwd own idx y cd) : GoodIn (c0 :: wsA) (wsV own idx y.cls y (cd :: wsA)) := by
  obtain ⟨h1, h2, h3, h4, h5⟩ := h
  intro w hw
  unfold wsV at hw
  rcases List.mem_append.mp hw with hw | hw
  · simp only [List.mem_cons, List.not_mem_nil, or_false] at hw
    rcases hw with rfl | rfl | rfl | rfl
    · exact gi_one h1
    · exact gi_one h2
    · exact gi_one h3
    · exact gi_one h4
  · rcases List.mem_cons.mp hw with rfl | hw
    · exact gi_one h5
    · exact gi_one hw
theorem gi_S {c0 cd : Cond} {own : String} {idx : Nat} {y : MethodName} (h : swd own idx y cd) : GoodIn (c0 :: wsA) (wsS own idx y (cd :: wsA)) := by
  obtain ⟨h1, h2, h3, h5⟩ := h
  intro w hw
  unfold wsS at hw
  rcases List.mem_append.mp hw with hw | hw
  · simp only [List.mem_cons, List.not_mem_nil, or_false] at hw
    rcases hw with rfl | rfl | rfl
    · exact gi_one h1
    · exact gi_one h2
    · exact gi_one h3
  · rcases List.mem_cons.mp hw with rfl | hw
    · exact gi_one h5
    · exact gi_one hw
theorem gi_C {c0 cd : Cond} (h : cd ∈ wsA) : GoodIn (c0 :: wsA) (cd :: wsA) := by
  intro w hw
  rcases List.mem_cons.mp hw with rfl | hw
  · exact gi_one h
  · exact gi_one hw
