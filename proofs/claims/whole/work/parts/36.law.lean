/-! the law: what holds at its entry, two worlds side by side -/
def R_law : String := "LeverHallLaw"
def lw_P (b : Addr) (xs : List Int32) (args : Array Value) (s : State) : Prop := args = #[.ref b] ∧ s.IntsAt b xs ∧ xs.length ≤ 3072 ∧ (Jvm.Cond.and given_1 narrow_1).before args s = true
def lw_Q (_ : Array Value) (s : State) (o : Outcome) (t : State) : Prop := o = .returned (some (.int 1)) ∧ Framed s o t [] 600000 7302250
def lw_Z (below : List Frame) (a : Array Value) (s : State) : State → Prop := fun t => ∃ o, t.status = .running ∧ Ended t below o ∧ lw_Q a s o t
/-- the law's own end, with 1 on the stack, nothing written that was there before, its room as the claim has it -/
theorem lw_ret {p : Program} {l : Launch} {e : Env} {s : State} {m : MethodId} {below : List Frame} {meth : Method} {c : Code} {b : Nat} (hx : p.tables.exec = Jvm.exec) (hb : c.code = code) (hr : meth.sig.returnType = ret) (hlocks : meth.locks = false) {pc : Nat} {H : Heap} {ls : Array Slot} (hdg : decode code pc = .ok (.ireturn, 1)) : W p l e room_1 s m #[Value.ref b] below meth c H [] 600000 7302250 (lw_Z below #[Value.ref b] s) (F0 m pc ls [.int 1]) := by
  intro T hT X
  obtain ⟨fs, hret, hrun, hended, hW, hframe⟩ := X.leave (v := some (.int 1)) (hlocks := hlocks) (fun h => by rw [hr] at h; cases h)
  have hmeth' : T.vm.method? m = some meth := X.method'
  refine ⟨T.setFrames fs, ?_, .returned (some (.int 1)), hrun, hended, rfl, ⟨_, rfl⟩, hW, hframe⟩
  jvm_step X.here [X.here.top, hx, hb, hdg, hmeth', hr, ret, narrow_b1]
  (try refine ⟨rfl, ?_⟩); (try refine ⟨rfl, ?_⟩)
  first | (intro acts; rw [hret _ acts rfl rfl rfl]) | rw [hret _ _ rfl rfl rfl]
  exact Steps.refl _
/-- what holds at the law's entry: the machine, the code, the tables' words (any of lw_tbl by 'hts w (by decide +kernel)'), the script of L ints xs at the cell b, what the Statement gives of the start (any of its parts by flat_of_before) -/
def lw_At (p : Program) (s : State) (m : MethodId) (meth : Method) (c : Code) (b L : Nat) (xs : Nat → Int32) : Prop :=
  p.tables.exec = Jvm.exec ∧ c.code = code ∧ meth.sig.returnType = ret ∧ c.maxLocals = 4 ∧ s.vm.findClass R_law = some m.cls ∧ (∀ w ∈ lw_tbl, w.before #[Value.ref b] s = true) ∧ va_X b L xs s s.heap ∧ b < s.heap.size ∧ meth.locks = false ∧ (Jvm.Cond.and given_1 narrow_1).before #[Value.ref b] s = true
section TWO
variable {p : Program} {l : Launch} {e : Env} {R : Room} {s : State} {m : MethodId} {args : Array Value} {below : List Frame} {meth : Method} {c : Code} {H H1 : Heap} {locs locs1 : List Loc} {cells slots : Nat} {Q : State → Prop}
variable {cc : ByteArray} {pc : Nat} {ls : Array Slot} {rest : List Value} {G : Gm} {A : Nat → Prop} {w1 w2 wn : va_W} {nL : Nat} {own : String} {c0 : Cond} {ret : Option FieldType}
theorem ap_l {k : Nat} {q : Nat × va_E} (h : w1[k]? = some q) : (w1 ++ w2)[k]? = some q := by
  have hk : k < w1.length := (List.getElem?_eq_some_iff.mp h).1
  rw [List.getElem?_append_left hk]
  exact h
theorem ap_r {k : Nat} {q : Nat × va_E} (h : w2[k]? = some q) : (w1 ++ w2)[w1.length + k]? = some q := by
  rw [List.getElem?_append_right (by omega), Nat.add_sub_cancel_left]
  exact h
theorem wb.apL (hw : wb G A s (w1 ++ w2) H locs) : wb G A s w1 H locs :=
  ⟨hw.1, fun k q hk => hw.2.1 k q (ap_l hk), ⟨fun i j x y hi hj e => hw.2.2.1.1 i j x y (ap_l hi) (ap_l hj) e, fun k q hk => hw.2.2.1.2 k q (ap_l hk)⟩, hw.2.2.2.1, hw.2.2.2.2⟩
theorem wb.out (hw : wb G A s (w1 ++ w2) H locs) {k : Nat} {q : Nat × va_E} (hk : w2[k]? = some q) : q.1 < H.size ∧ ¬ va_A w1 H.size q.1 := by
  have hlt : q.1 < H.size := (hw.2.1 _ q (ap_r hk)).lt
  refine ⟨hlt, fun h => ?_⟩
  rcases h with ⟨k', e', h'⟩ | h'
  · have := hw.2.2.1.1 k' (w1.length + k) _ _ (ap_l h') (ap_r hk) rfl
    have hl : k' < w1.length := (List.getElem?_eq_some_iff.mp h').1
    omega
  · omega
theorem wb.join (hw : wb G A s (w1 ++ w2) H locs) (hP1 : va_P G.1 vwCl wn H1) (hD1 : va_D (va_A w1 H.size) wn) (hk : ∀ q : Nat, q < H.size → ¬ va_A w1 H.size q → H1[q]? = H[q]?) (hS1 : va_S A s.heap H1 locs1) : wb G A s (wn ++ w2) H1 locs1 := by
  have hP2 : va_P G.1 vwCl w2 H := fun k q h => hw.2.1 _ q (ap_r h)
  have hD2 : va_D A w2 := ⟨fun i j x y hi hj e => by have := hw.2.2.1.1 _ _ x y (ap_r hi) (ap_r hj) e; omega, fun k q h => hw.2.2.1.2 _ q (ap_r h)⟩
  refine ⟨hw.1, hP1.app (hP2.kept (fun k q h => hk q.1 (hw.out h).1 (hw.out h).2)), (hD1.weaken (fun _ _ _ h => hw.apL.free _ h)).app hD2 (fun i j x y hi hj e => ?_), hS1, hw.2.2.2.2⟩
  have h1 := hD1.2 i x hi
  rw [e] at h1
  exact (hw.out hj).2 h1
theorem wb.sw (hw : wb G A s (w1 ++ w2) H locs) : wb G A s (w2 ++ w1) H locs :=
  ⟨hw.1, va_P.swap (a := []) hw.2.1, va_D.swap (a := []) hw.2.2.1, hw.2.2.2.1, hw.2.2.2.2⟩
variable {y2 : MethodName} {cc2 : ByteArray} {n2 : Nat} {rt2 : FieldType} {rm2 : Room} {As st0 : List Value} {b idx : Nat} {S2 : Type} {wf2 : S2 → va_W}
theorem la_I {post2 : Int32 → S2 → Prop} (hF : fx p s m args meth c cc nL own c0 ret) (hw : wb G A s (w1 ++ w2) H locs) (hM : ctI l y2 cc2 n2 rt2 rm2 G (.ref b :: As) w1 post2 wf2) (hv : vwd own idx y2 (.code y2 cc2 n2 (some rt2)))
    {q0 ci : Nat} {q : vw_C} {fs : List Value} (hq : vwCl[ci]? = some q) (hqn : q.1 = y2.cls) (he : w1[q0]? = some (b, .inr (ci, fs)))
    (hd : y2.cls ≠ "java/lang/invoke/MethodHandle" ∧ y2.cls ≠ "java/lang/invoke/VarHandle" ∧ (parseMethodDescriptor y2.desc).map (fun d => d.parameters.length) = some As.length)
    (hR : rm2.frames + 1 ≤ R.frames ∧ 8 + (n2 + 11) + rm2.locals ≤ R.locals) (hC : cells + rm2.cells ≤ R.cells ∧ slots + rm2.slots ≤ R.slots)
    (hls : ls.size = nL) (hst : st0 = As.reverse ++ .ref b :: rest) (hsum : (rest.map fun v => v.category).sum ≤ 8) (hdg : decode cc pc = .ok (.invokevirtual idx, 3))
    (kk : ∀ (r : Int32) (u : S2) (H1 : Heap) (locs1 : List Loc), post2 r u → wb G A s (wf2 u ++ w2) H1 locs1 → W p l e R s m args below meth c H1 locs1 (cells + rm2.cells) (slots + rm2.slots) Q (F0 m (pc + 3) ls (.int r :: rest))) :
    W p l e R s m args below meth c H locs cells slots Q (F0 m pc ls st0) := by
  have hwl := hw.apL
  have hFc := hwl.free
  refine va_calli (va_runV (As := As) (rest := rest) hF.1 (hM H.size) (cwV As.length hF.1.2.2.2.2 (gi_V hv) rfl rfl rfl ⟨rfl, hd.1, hd.2.1, hd.2.2⟩ hR) ⟨wb.blind, by rw [← hqn]; exact va_recv hwl.1.1 hwl.2.1 hq he, hwl.pre⟩ rfl rfl hls (by rw [hst]) (lv_room hsum) hdg hC) hwl.2.2.2.1 (fun q _ h => hFc q h) hFc (fun r u t H1 locs1 ht hvm hp hB hz hk1 hS1 => ?_)
  exact kk r u H1 locs1 hp (hw.join (by rw [← ht]; exact hB.1) hB.2 hk1 hS1)
theorem la_C {post2 : S2 → Prop} (hF : fx p s m args meth c cc nL own c0 ret) (hw : wb G A s (w1 ++ w2) H locs) (hM : ctV l y2 cc2 n2 rm2 G (.ref b :: As) w1 post2 wf2) (hv : iwd own idx y2 (.code y2 cc2 n2 none)) (hnm : y2.name = "<init>")
    (hd : y2.cls ≠ "java/lang/invoke/MethodHandle" ∧ y2.cls ≠ "java/lang/invoke/VarHandle" ∧ (parseMethodDescriptor y2.desc).map (fun d => d.parameters.length) = some As.length)
    (hR : rm2.frames + 1 ≤ R.frames ∧ 8 + (n2 + 11) + rm2.locals ≤ R.locals) (hC : cells + rm2.cells ≤ R.cells ∧ slots + rm2.slots ≤ R.slots)
    (hls : ls.size = nL) (hst : st0 = As.reverse ++ .ref b :: rest) (hsum : (rest.map fun v => v.category).sum ≤ 8) (hdg : decode cc pc = .ok (.invokespecial idx, 3))
    (kk : ∀ (u : S2) (H1 : Heap) (locs1 : List Loc), post2 u → wb G A s (wf2 u ++ w2) H1 locs1 → W p l e R s m args below meth c H1 locs1 (cells + rm2.cells) (slots + rm2.slots) Q (F0 m (pc + 3) ls rest)) :
    W p l e R s m args below meth c H locs cells slots Q (F0 m pc ls st0) := by
  have hwl := hw.apL
  have hFc := hwl.free
  obtain ⟨v1, v2, v3, v4⟩ := hv
  refine va_callv (va_runI (As := As) (rest := rest) hF.1 (hM H.size) (cwI As.length hF.1.2.2.2.2 (gi_C v4) rfl rfl rfl (hF.w v3) (hF.w v1) (hF.w v2) hnm hd hR) ⟨wb.blind, hwl.pre⟩ rfl rfl hls (by rw [hst]) (lv_room hsum) hdg hC) hwl.2.2.2.1 (fun q _ h => hFc q h) hFc (fun u t H1 locs1 ht hvm hp hB hz hk1 hS1 => ?_)
  exact kk u H1 locs1 hp (hw.join (by rw [← ht]; exact hB.1) hB.2 hk1 hS1)
/-- a world may be left for one that says less -/
theorem wb.by {ws ws' : va_W} (hw : wb G A s ws H locs) (g : Nat → Nat) (hg : ∀ (k : Nat) (q' : Nat × va_E), ws'[k]? = some q' → ∃ q, ws[g k]? = some q ∧ q.1 = q'.1 ∧ (va_at G.1 vwCl q H → va_at G.1 vwCl q' H)) (gi : ∀ i j : Nat, g i = g j → i = j) : wb G A s ws' H locs := by
  refine ⟨hw.1, fun k q' hk => ?_, ⟨fun i j x y hi hj e => ?_, fun k q' hk => ?_⟩, hw.2.2.2.1, hw.2.2.2.2⟩
  · obtain ⟨q, h1, h2, h3⟩ := hg k q' hk
    exact h3 (hw.2.1 _ q h1)
  · obtain ⟨x1, a1, a2, -⟩ := hg i x hi
    obtain ⟨y1, b1, b2, -⟩ := hg j y hj
    exact gi i j (hw.2.2.1.1 _ _ x1 y1 a1 b1 (by rw [a2, b2, e]))
  · obtain ⟨q, h1, h2, -⟩ := hg k q' hk
    rw [← h2]
    exact hw.2.2.1.2 _ q h1
theorem arrV_ext {cI : ClassId} {N : Nat} {f g : Nat → Value} (h : ∀ j, j < N → f j = g j) : arrV cI N f = arrV cI N g := by
  unfold arrV
  congr 1
  congr 1
  funext j
  exact h j.val j.isLt
theorem at_none {cA : ClassId} {N q : Nat} {f : Nat → Option Nat} (h : ∀ j, j < N → f j = none) (hh : va_at G.1 vwCl (q, .inl (cA, N, qA f)) H) : va_at G.1 vwCl (q, .inl (cA, N, qA (fun _ => none))) H := by
  have h1 : H[q]? = some (arrV cA N (fun j => va_rf (f j))) := hh
  show H[q]? = some (arrV cA N (fun j => va_rf none))
  rw [h1]
  congr 1
  exact arrV_ext (fun j hj => by rw [h j hj])
theorem wb.dr {a : AX} {σ : SX} (hw : wb G A s (wX G a σ ++ w2) H locs) (h1 : ∀ i, i < 3 → σ.2.2.1 1 i = none) (h2 : ∀ i, i < 20 → σ.2.2.1 2 i = none) (h3 : ∀ i, i < 20 → σ.2.2.1 3 i = none) (h4 : ∀ i, i < 12 → σ.2.2.1 4 i = none) : wb G A s (wX G a (x_dr σ) ++ w2) H locs := by
  refine hw.by (fun k => if k < 7 then k else k + (σ.2.2.2.1.1 + σ.2.2.2.2.1)) (fun k q' hk => ?_) (fun i j e => ?_)
  · match k, hk with
    | 0, hk => cases hk; exact ⟨_, rfl, rfl, fun h => h⟩
    | 1, hk => cases hk; exact ⟨_, rfl, rfl, fun h => h⟩
    | 2, hk => cases hk; exact ⟨_, rfl, rfl, fun h => at_none (fun j hj => by rw [h1 j hj]; rfl) h⟩
    | 3, hk => cases hk; exact ⟨_, rfl, rfl, fun h => at_none (fun j hj => by rw [h2 j hj]; rfl) h⟩
    | 4, hk => cases hk; exact ⟨_, rfl, rfl, fun h => at_none (fun j hj => by rw [h3 j hj]; rfl) h⟩
    | 5, hk => cases hk; exact ⟨_, rfl, rfl, fun h => at_none (fun j hj => by rw [h4 j hj]; rfl) h⟩
    | 6, hk => cases hk; exact ⟨_, rfl, rfl, fun h => h⟩
    | k + 7, hk =>
      have hk' : w2[k]? = some q' := hk
      refine ⟨q', ?_, rfl, fun h => h⟩
      have hlen : (wX G a σ).length = 7 + (σ.2.2.2.1.1 + σ.2.2.2.2.1) := by simp [wX, dPl, rPl]; omega
      have := ap_r (w1 := wX G a σ) hk'
      rw [hlen] at this
      rw [if_neg (by omega), show k + 7 + (σ.2.2.2.1.1 + σ.2.2.2.2.1) = 7 + (σ.2.2.2.1.1 + σ.2.2.2.2.1) + k by omega]
      exact this
  · split at e <;> split at e <;> omega
end TWO
