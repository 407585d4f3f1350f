/-! rows that make cells, over fx and wb; constructors -/
section MK
variable {p : Program} {l : Launch} {e : Env} {R : Room} {s : State} {m : MethodId} {args : Array Value} {below : List Frame} {meth : Method} {c : Code} {H : Heap} {locs : List Loc} {cells slots : Nat} {Q : State → Prop}
variable {cc : ByteArray} {pc : Nat} {ls : Array Slot} {rest : List Value} {G : Gm} {A : Nat → Prop} {ws : va_W} {nL : Nat} {own : String} {c0 : Cond} {ret : Option FieldType}
theorem r_newi {n : Int32} {N : Nat} (hF : fx p s m args meth c cc nL own c0 ret) (hw : wb G A s ws H locs) (hn : ¬ n < 0) (hN : n.toNatClampNeg = N) (hbytes : N * 4 ≤ 536870912) (hcells : cells + 1 ≤ R.cells) (hslots : slots + N ≤ R.slots) (hdg : decode cc pc = .ok (.newarray .int, 2))
    (kk : ∀ (q : Nat) (H1 : Heap), wb G A s (ws ++ [(q, .inl (G.2.1, N, .inl (fun _ => 0)))]) H1 locs → W p l e R s m args below meth c H1 locs (cells + 1) (slots + N) Q (F0 m (pc + 2) ls (.ref q :: rest))) :
    W p l e R s m args below meth c H locs cells slots Q (F0 m pc ls (.int n :: rest)) := by
  refine va_newa (atype := .int) (ty := .int) (a0 := (N, .inl (fun _ => 0))) hF.x hF.b (hF.w wa_I) rfl hw.1.1 hw.2.1 hw.2.2.1 hw.2.2.2.1 hw.2.2.2.2 (fun cA => vp_cell_i cA N _) hn hN hbytes hcells hslots hdg (fun q cA H1 hK hP hD hS => ?_)
  have h1 : s.vm.findClass "[I" = some cA := va_nm_int (hK.2 3 (cA, .int) rfl).2
  have h2 : s.vm.findClass "[I" = some G.2.1 := va_nm_int (hw.1.1.2 0 (G.2.1, .int) rfl).2
  have e : cA = G.2.1 := Option.some.inj (h1.symm.trans h2)
  subst e
  exact kk q H1 ⟨hw.1, hP, hD, hS, hw.2.2.2.2⟩
theorem r_newD {n : Int32} {N idx : Nat} (hF : fx p s m args meth c cc nL own c0 ret) (hw : wb G A s ws H locs) (hcl : Cond.classLink own idx RX0 ∈ wsA) (hn : ¬ n < 0) (hN : n.toNatClampNeg = N) (hbytes : N * 4 ≤ 536870912) (hcells : cells + 1 ≤ R.cells) (hslots : slots + N ≤ R.slots) (hdg : decode cc pc = .ok (.anewarray idx, 3))
    (kk : ∀ (q : Nat) (H1 : Heap), wb G A s (ws ++ [(q, .inl (G.2.2.1, N, .inr (.inr (.inr (.inr (fun _ => none))))))]) H1 locs → W p l e R s m args below meth c H1 locs (cells + 1) (slots + N) Q (F0 m (pc + 3) ls (.ref q :: rest))) :
    W p l e R s m args below meth c H locs cells slots Q (F0 m pc ls (.int n :: rest)) := by
  refine va_newq (C := RX0) hF.x hF.b hF.1.2.2.2.1 (hF.w hcl) hw.1.2.2.2.1 hw.1.1 hw.2.1 hw.2.2.1 hw.2.2.2.1 hw.2.2.2.2 hn hN hbytes hcells hslots hdg (fun q cA H1 hK hP hD hS => ?_)
  obtain ⟨k1, c1, -, -, -, h1⟩ := (hK.2 3 (cA, .object RX0) rfl).2
  obtain ⟨k2, c2, -, -, -, h2⟩ := (hw.1.1.2 1 (G.2.2.1, .object RX0) rfl).2
  have e : cA = G.2.2.1 := Option.some.inj (h1.symm.trans h2)
  subst e
  exact kk q H1 ⟨hw.1, hP, hD, hS, hw.2.2.2.2⟩
theorem r_newG {n : Int32} {N idx : Nat} (hF : fx p s m args meth c cc nL own c0 ret) (hw : wb G A s ws H locs) (hcl : Cond.classLink own idx "[I" ∈ wsA) (hn : ¬ n < 0) (hN : n.toNatClampNeg = N) (hbytes : N * 4 ≤ 536870912) (hcells : cells + 1 ≤ R.cells) (hslots : slots + N ≤ R.slots) (hdg : decode cc pc = .ok (.anewarray idx, 3))
    (kk : ∀ (q : Nat) (H1 : Heap), wb G A s (ws ++ [(q, .inl (G.2.2.2, N, .inr (.inr (.inr (.inr (fun _ => none))))))]) H1 locs → W p l e R s m args below meth c H1 locs (cells + 1) (slots + N) Q (F0 m (pc + 3) ls (.ref q :: rest))) :
    W p l e R s m args below meth c H locs cells slots Q (F0 m pc ls (.int n :: rest)) := by
  subst hN
  have hts : (FieldType.array FieldType.int).toString = "[I" := by decide +kernel
  refine W.anewA (t := .int) hF.x hF.b hF.1.2.2.2.1 (by rw [hts]; exact hF.w hcl) (over_moved (Vm.Alike.refl _) hw.1.2.2.2.2) rfl hdg rfl hn hbytes hcells hslots fun cA kA comp f1 f2 f3 f4 => ?_
  have h2 : s.vm.findClass ("[" ++ (FieldType.array FieldType.int).toString) = some G.2.2.2 := (hw.1.1.2 2 (G.2.2.2, .array .int) rfl).2
  have e : cA = G.2.2.2 := Option.some.inj (f1.symm.trans h2)
  subst e
  have hP := hw.2.1
  have hS := hw.2.2.2.1
  generalize hH1 : H.push ({ cls := G.2.2.2, slots := Array.replicate n.toNatClampNeg .null, vm := .none } : Cell) = H1
  have z1 : H1.size = H.size + 1 := by rw [← hH1, Array.size_push]
  have e1 : H1[H.size]? = some (arrV G.2.2.2 n.toNatClampNeg (fun _ => .null)) := by rw [← hH1, Array.getElem?_push_size, ← arrV_new]
  have o1 : ∀ q : Nat, q < H.size → H1[q]? = H[q]? := fun q hq => by rw [← hH1, Array.getElem?_push, if_neg (Nat.ne_of_lt hq)]
  have hk : ∀ (k : Nat) (x : Nat × va_E), ws[k]? = some x → H1[x.1]? = H[x.1]? := fun k x hx => o1 x.1 ((hP k x hx).lt)
  refine kk H.size H1 ⟨hw.1, (hP.kept hk).app (fun k x hx => ?_), hw.2.2.1.push hP rfl (hw.2.2.2.2 _ hS.1), ⟨Nat.le_trans hS.1 (by omega), fun x h1 h2 => (o1 x (Nat.lt_of_lt_of_le h1 hS.1)).trans (hS.2.1 x h1 h2), hS.2.2⟩, hw.2.2.2.2⟩
  have hz : k < 1 := (List.getElem?_eq_some_iff.mp hx).1
  rw [show k = 0 by omega] at hx
  cases hx
  show H1[H.size]? = some (vp_cell _ _)
  rw [vp_cell_q]
  exact e1
theorem r_new {ci idx : Nat} {fs : List Value} {C : String} {T : u_T} {N : Nat} (hF : fx p s m args meth c cc nL own c0 ret) (hw : wb G A s ws H locs) (hc : vwCl[ci]? = some (C, T, N)) (hin : ∀ w ∈ u_ws C T N, w ∈ wsA) (ty : Nat → FieldType) (hty : ∀ k, k < N → parseFieldDescriptor (T k).2.2.1 = some (ty k)) (hcl : Cond.classLink own idx C ∈ wsA) (hinst : Cond.instantiable C N ∈ wsA) (hini : Cond.initialized C ∈ wsA) (hfs : ∀ j, j < N → defaultValue (ty j) = vp_V fs j) (hcells : cells + 1 ≤ R.cells) (hslots : slots + N ≤ R.slots) (hdg : decode cc pc = .ok (.new idx, 3))
    (kk : ∀ (q : Nat) (H1 : Heap), wb G A s (ws ++ [(q, .inr (ci, fs))]) H1 locs → W p l e R s m args below meth c H1 locs (cells + 1) (slots + N) Q (F0 m (pc + 3) ls (.ref q :: rest))) :
    W p l e R s m args below meth c H locs cells slots Q (F0 m pc ls rest) :=
  va_new hF.x hF.b (Ts := wsA) (fun w h => hF.w h) hin ty hty hF.1.2.2.2.1 (hF.w hcl) (hF.w hinst) (hF.w hini) hw.1.1 hw.2.1 hw.2.2.1 hw.2.2.2.1 hw.2.2.2.2 hc hfs hcells hslots hdg (fun q H1 hP hD hS => kk q H1 ⟨hw.1, hP, hD, hS, hw.2.2.2.2⟩)
theorem r_obj {idx a : Nat} (hF : fx p s m args meth c cc nL own c0 ret) (hl : lv_has ls nL [] ∨ ls.size = nL) (hq : Cond.methodLink own idx objectInit ∈ wsA) (hfr : 1 ≤ R.frames) (hlo : 12 ≤ R.locals) (hdg : decode cc pc = .ok (.invokespecial idx, 3))
    (kk : W p l e R s m args below meth c H locs cells slots Q (F0 m (pc + 3) ls [])) : W p l e R s m args below meth c H locs cells slots Q (F0 m pc ls [.ref a]) := by
  have hsz : ls.size = c.maxLocals := by
    rw [hF.1.2.2.1]
    rcases hl with h | h
    · exact h.1
    · exact h
  exact W.objInit hF.x hF.b hF.1.2.2.2.1 (hF.w hq) (hF.w wo_i) (hF.w wo_c) rfl hsz rfl hdg hfr (by show 2 * 0 + 0 + 12 ≤ _; omega) kk
variable {y2 : MethodName} {cc2 : ByteArray} {n2 : Nat} {rm2 : Room} {As st0 : List Value} {b idx : Nat} {S2 : Type} {wf2 : S2 → va_W}
theorem ca_N {post2 : S2 → Prop} {host : String} (hF : fx p s m args meth c cc nL own c0 ret) (hw : wb G A s ws H locs) (hM : ctV l y2 cc2 n2 rm2 G (.ref b :: As) ws post2 wf2) (hl : Cond.methodLinkNest own idx y2 host ∈ nestW) (hi : Cond.instanceMethod y2 ∈ wsA) (hini : Cond.initialized y2.cls ∈ wsA) (hcd : Cond.code y2 cc2 n2 none ∈ wsA) (hnm : y2.name = "<init>")
    (hd : y2.cls ≠ "java/lang/invoke/MethodHandle" ∧ y2.cls ≠ "java/lang/invoke/VarHandle" ∧ (parseMethodDescriptor y2.desc).map (fun d => d.parameters.length) = some As.length)
    (hR : rm2.frames + 1 ≤ R.frames ∧ 8 + (n2 + 11) + rm2.locals ≤ R.locals) (hC : cells + rm2.cells ≤ R.cells ∧ slots + rm2.slots ≤ R.slots)
    (hls : ls.size = nL) (hst : st0 = As.reverse ++ .ref b :: rest) (hsum : (rest.map fun v => v.category).sum ≤ 8) (hdg : decode cc pc = .ok (.invokespecial idx, 3))
    (kk : ∀ (u : S2) (H1 : Heap) (locs1 : List Loc), post2 u → wb G A s (wf2 u) H1 locs1 → W p l e R s m args below meth c H1 locs1 (cells + rm2.cells) (slots + rm2.slots) Q (F0 m (pc + 3) ls rest)) :
    W p l e R s m args below meth c H locs cells slots Q (F0 m pc ls st0) := by
  have hFc := hw.free
  refine va_callv (va_runIN (As := As) (rest := rest) hF.1 (hM H.size) ⟨va_cnB As.length hF.1.2.2.2.2 (gi_C hcd) rfl rfl rfl (hw.1.2.2.1 _ hl) (hF.w hini) hd hR, hnm, hF.w hi⟩ ⟨wb.blind, hw.pre⟩ rfl rfl hls (by rw [hst]) (lv_room hsum) hdg hC) hw.2.2.2.1 (fun q _ h => hFc q h) hFc (fun u t H1 locs1 ht hvm hp hB hz hk1 hS1 => ?_)
  exact kk u H1 locs1 hp ⟨hw.1, by rw [← ht]; exact hB.1, hB.2.weaken (fun _ _ _ h => hFc _ h), hS1, hw.2.2.2.2⟩
theorem ca_C {post2 : S2 → Prop} (hF : fx p s m args meth c cc nL own c0 ret) (hw : wb G A s ws H locs) (hM : ctV l y2 cc2 n2 rm2 G (.ref b :: As) ws post2 wf2) (hv : iwd own idx y2 (.code y2 cc2 n2 none)) (hnm : y2.name = "<init>")
    (hd : y2.cls ≠ "java/lang/invoke/MethodHandle" ∧ y2.cls ≠ "java/lang/invoke/VarHandle" ∧ (parseMethodDescriptor y2.desc).map (fun d => d.parameters.length) = some As.length)
    (hR : rm2.frames + 1 ≤ R.frames ∧ 8 + (n2 + 11) + rm2.locals ≤ R.locals) (hC : cells + rm2.cells ≤ R.cells ∧ slots + rm2.slots ≤ R.slots)
    (hls : ls.size = nL) (hst : st0 = As.reverse ++ .ref b :: rest) (hsum : (rest.map fun v => v.category).sum ≤ 8) (hdg : decode cc pc = .ok (.invokespecial idx, 3))
    (kk : ∀ (u : S2) (H1 : Heap) (locs1 : List Loc), post2 u → wb G A s (wf2 u) H1 locs1 → W p l e R s m args below meth c H1 locs1 (cells + rm2.cells) (slots + rm2.slots) Q (F0 m (pc + 3) ls rest)) :
    W p l e R s m args below meth c H locs cells slots Q (F0 m pc ls st0) := by
  have hFc := hw.free
  obtain ⟨w1, w2, w3, w4⟩ := hv
  refine va_callv (va_runI (As := As) (rest := rest) hF.1 (hM H.size) (cwI As.length hF.1.2.2.2.2 (gi_C w4) rfl rfl rfl (hF.w w3) (hF.w w1) (hF.w w2) hnm hd hR) ⟨wb.blind, hw.pre⟩ rfl rfl hls (by rw [hst]) (lv_room hsum) hdg hC) hw.2.2.2.1 (fun q _ h => hFc q h) hFc (fun u t H1 locs1 ht hvm hp hB hz hk1 hS1 => ?_)
  exact kk u H1 locs1 hp ⟨hw.1, by rw [← ht]; exact hB.1, hB.2.weaken (fun _ _ _ h => hFc _ h), hS1, hw.2.2.2.2⟩
end MK
