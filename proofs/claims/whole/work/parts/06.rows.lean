/-! ends, calls, fields and arrays, over fx and wb -/
theorem fx.w {p : Program} {s : State} {m : MethodId} {args : Array Value} {meth : Method} {c : Code} {cc : ByteArray} {nL : Nat} {own : String} {c0 : Cond} {ret : Option FieldType} (hF : fx p s m args meth c cc nL own c0 ret) {w : Cond} (h : w ∈ wsA) : w.before args s = true := hF.1.2.2.2.2 w (List.mem_cons_of_mem _ h)
theorem fx.x {p : Program} {s : State} {m : MethodId} {args : Array Value} {meth : Method} {c : Code} {cc : ByteArray} {nL : Nat} {own : String} {c0 : Cond} {ret : Option FieldType} (hF : fx p s m args meth c cc nL own c0 ret) : p.tables.exec = Jvm.exec := hF.1.1
theorem fx.b {p : Program} {s : State} {m : MethodId} {args : Array Value} {meth : Method} {c : Code} {cc : ByteArray} {nL : Nat} {own : String} {c0 : Cond} {ret : Option FieldType} (hF : fx p s m args meth c cc nL own c0 ret) : c.code = cc := hF.1.2.1
section RW
variable {p : Program} {l : Launch} {e : Env} {R : Room} {s : State} {m : MethodId} {args : Array Value} {below : List Frame} {meth : Method} {c : Code} {H : Heap} {locs : List Loc} {cells slots : Nat} {Q : State → Prop}
variable {cc : ByteArray} {pc : Nat} {ls : Array Slot} {rest : List Value} {G : Gm} {A : Nat → Prop} {ws : va_W} {nL : Nat} {own : String} {c0 : Cond} {ret : Option FieldType} {S : Type} {wf : S → va_W} {u : S} {kc ks : Nat}
theorem rt_I {post : Int32 → S → Prop} {r : Int32} (hF : fx p s m args meth c cc nL own c0 (some .int)) (hw : wb G A s (wf u) H locs) (hp : post r u) (hc : cells ≤ kc) (hs : slots ≤ ks) (hd : decode cc pc = .ok (.ireturn, 1)) :
    W p l e R s m args below meth c H locs cells slots (MQ below (va_Qi post (po G A wf) A) args s kc ks A) (F0 m pc ls [.int r]) := by
  refine W.widen (k := kc) (n := ks) hc hs ?_
  exact W.iret hF.x hF.b hF.2.1 (fun t ht hW => ⟨⟨r, u, rfl, hp, by rw [ht]; exact hw.2.1, hw.2.2.1⟩, hw.2.2.2.1.F ht⟩) hw.2.2.2.1.2.2 hd hF.2.2
theorem rt_Z {post : Int32 → S → Prop} {r : Int32} (hF : fx p s m args meth c cc nL own c0 (some .boolean)) (hz : r = 0 ∨ r = 1) (hw : wb G A s (wf u) H locs) (hp : post r u) (hc : cells ≤ kc) (hs : slots ≤ ks) (hd : decode cc pc = .ok (.ireturn, 1)) :
    W p l e R s m args below meth c H locs cells slots (MQ below (va_Qi post (po G A wf) A) args s kc ks A) (F0 m pc ls [.int r]) := by
  refine W.widen (k := kc) (n := ks) hc hs ?_
  exact W.zret hF.x hF.b hF.2.1 (by rcases hz with rfl | rfl <;> rfl) (fun t ht hW => ⟨⟨r, u, rfl, hp, by rw [ht]; exact hw.2.1, hw.2.2.1⟩, hw.2.2.2.1.F ht⟩) hw.2.2.2.1.2.2 hd hF.2.2
theorem rt_Q {post : Option Nat → S → Prop} {r : Option Nat} {rt : FieldType} (hF : fx p s m args meth c cc nL own c0 (some rt)) (hrt : (∃ n, rt = .object n) ∨ ∃ t, rt = .array t) (hw : wb G A s (wf u) H locs) (hp : post r u) (hc : cells ≤ kc) (hs : slots ≤ ks) (hd : decode cc pc = .ok (.areturn, 1)) :
    W p l e R s m args below meth c H locs cells slots (MQ below (va_Qq post (po G A wf) A) args s kc ks A) (F0 m pc ls [va_rf r]) := by
  refine W.widen (k := kc) (n := ks) hc hs ?_
  exact W.aret hF.x hF.b hF.2.1 hrt (va_rf_or r) (fun t ht hW => ⟨⟨r, u, rfl, hp, by rw [ht]; exact hw.2.1, hw.2.2.1⟩, hw.2.2.2.1.F ht⟩) hw.2.2.2.1.2.2 hd hF.2.2
theorem rt_V {post : S → Prop} (hF : fx p s m args meth c cc nL own c0 none) (hw : wb G A s (wf u) H locs) (hp : post u) (hc : cells ≤ kc) (hs : slots ≤ ks) (hd : decode cc pc = .ok (.return_, 1)) :
    W p l e R s m args below meth c H locs cells slots (MQ below (va_Qv post (po G A wf) A) args s kc ks A) (F0 m pc ls []) := by
  refine W.widen (k := kc) (n := ks) hc hs ?_
  exact W.vret hF.x hF.b hF.2.1 (fun t ht hW => ⟨⟨u, rfl, hp, by rw [ht]; exact hw.2.1, hw.2.2.1⟩, hw.2.2.2.1.F ht⟩) hw.2.2.2.1.2.2 hd hF.2.2
theorem rt_S {post : Int32 → Prop} {r : Int32} (hF : fx p s m args meth c cc nL own c0 (some .boolean)) (hz : r = 0 ∨ r = 1) (hp : post r) (hd : decode cc pc = .ok (.ireturn, 1)) :
    W p l e R s m args below meth c s.heap [] 0 0 (MQ below (vp_Si post) args s 0 0 (fun _ => False)) (F0 m pc ls [.int r]) :=
  W.zret hF.x hF.b hF.2.1 (by rcases hz with rfl | rfl <;> rfl) (fun t ht hW => ⟨r, rfl, hp, ht⟩) (fun q h => by cases h) hd hF.2.2
theorem wb.free (hw : wb G A s ws H locs) : ∀ q, va_A ws H.size q → A q := by
  obtain ⟨hk, hP, hD, hS, hA⟩ := hw
  intro q h
  rcases h with ⟨k, e, h⟩ | h
  · exact hD.2 k _ h
  · exact hA q (Nat.le_trans hS.1 h)
theorem wb.blind {av : List Value} {sz : Nat} : FrameBlind (va_Pc av (pr G ws sz)) := fun a U g mk q => by
  obtain ⟨q0, q1, qP, qK, qD⟩ := q
  exact ⟨q0, q1, qP, kx_same (u := U) (U := U.calling g mk a) rfl qK, qD⟩
theorem wb.pre {av : List Value} (hw : wb G A s ws H locs) : ∀ U : State, U.heap = H → s.WarmedH U.vm → va_Pc av (pr G ws H.size) av.toArray U := fun U hU hW =>
  ⟨rfl, by rw [hU], by rw [hU]; exact hw.2.1, kx_warm hW hw.1, hw.2.2.1.weaken (fun _ _ _ _ => trivial)⟩
variable {y2 : MethodName} {cc2 : ByteArray} {n2 : Nat} {rt2 : FieldType} {rm2 : Room} {As st0 : List Value} {b idx : Nat} {S2 : Type} {wf2 : S2 → va_W}
theorem ca_I {post2 : Int32 → S2 → Prop} (hF : fx p s m args meth c cc nL own c0 ret) (hw : wb G A s ws H locs) (hM : ctI l y2 cc2 n2 rt2 rm2 G (.ref b :: As) ws post2 wf2) (hv : vwd own idx y2 (.code y2 cc2 n2 (some rt2)))
    {q0 ci : Nat} {q : vw_C} {fs : List Value} (hq : vwCl[ci]? = some q) (hqn : q.1 = y2.cls) (he : ws[q0]? = some (b, .inr (ci, fs)))
    (hd : y2.cls ≠ "java/lang/invoke/MethodHandle" ∧ y2.cls ≠ "java/lang/invoke/VarHandle" ∧ (parseMethodDescriptor y2.desc).map (fun d => d.parameters.length) = some As.length)
    (hR : rm2.frames + 1 ≤ R.frames ∧ 8 + (n2 + 11) + rm2.locals ≤ R.locals) (hC : cells + rm2.cells ≤ R.cells ∧ slots + rm2.slots ≤ R.slots)
    (hls : ls.size = nL) (hst : st0 = As.reverse ++ .ref b :: rest) (hsum : (rest.map fun v => v.category).sum ≤ 8) (hdg : decode cc pc = .ok (.invokevirtual idx, 3))
    (kk : ∀ (r : Int32) (u : S2) (H1 : Heap) (locs1 : List Loc), post2 r u → wb G A s (wf2 u) H1 locs1 → W p l e R s m args below meth c H1 locs1 (cells + rm2.cells) (slots + rm2.slots) Q (F0 m (pc + 3) ls (.int r :: rest))) :
    W p l e R s m args below meth c H locs cells slots Q (F0 m pc ls st0) := by
  have hFc := hw.free
  refine va_calli (va_runV (As := As) (rest := rest) hF.1 (hM H.size) (cwV As.length hF.1.2.2.2.2 (gi_V hv) rfl rfl rfl ⟨rfl, hd.1, hd.2.1, hd.2.2⟩ hR) ⟨wb.blind, by rw [← hqn]; exact va_recv hw.1.1 hw.2.1 hq he, hw.pre⟩ rfl rfl hls (by rw [hst]) (lv_room hsum) hdg hC) hw.2.2.2.1 (fun q _ h => hFc q h) hFc (fun r u t H1 locs1 ht hvm hp hB hz hk1 hS1 => ?_)
  exact kk r u H1 locs1 hp ⟨hw.1, by rw [← ht]; exact hB.1, hB.2.weaken (fun _ _ _ h => hFc _ h), hS1, hw.2.2.2.2⟩
theorem ca_Q {post2 : Option Nat → S2 → Prop} (hF : fx p s m args meth c cc nL own c0 ret) (hw : wb G A s ws H locs) (hM : ctQ l y2 cc2 n2 rt2 rm2 G (.ref b :: As) ws post2 wf2) (hv : vwd own idx y2 (.code y2 cc2 n2 (some rt2)))
    {q0 ci : Nat} {q : vw_C} {fs : List Value} (hq : vwCl[ci]? = some q) (hqn : q.1 = y2.cls) (he : ws[q0]? = some (b, .inr (ci, fs)))
    (hd : y2.cls ≠ "java/lang/invoke/MethodHandle" ∧ y2.cls ≠ "java/lang/invoke/VarHandle" ∧ (parseMethodDescriptor y2.desc).map (fun d => d.parameters.length) = some As.length)
    (hR : rm2.frames + 1 ≤ R.frames ∧ 8 + (n2 + 11) + rm2.locals ≤ R.locals) (hC : cells + rm2.cells ≤ R.cells ∧ slots + rm2.slots ≤ R.slots)
    (hls : ls.size = nL) (hst : st0 = As.reverse ++ .ref b :: rest) (hsum : (rest.map fun v => v.category).sum ≤ 8) (hdg : decode cc pc = .ok (.invokevirtual idx, 3))
    (kk : ∀ (r : Option Nat) (u : S2) (H1 : Heap) (locs1 : List Loc), post2 r u → wb G A s (wf2 u) H1 locs1 → W p l e R s m args below meth c H1 locs1 (cells + rm2.cells) (slots + rm2.slots) Q (F0 m (pc + 3) ls (va_rf r :: rest))) :
    W p l e R s m args below meth c H locs cells slots Q (F0 m pc ls st0) := by
  have hFc := hw.free
  refine va_callq (va_runV (As := As) (rest := rest) hF.1 (hM H.size) (cwV As.length hF.1.2.2.2.2 (gi_V hv) rfl rfl rfl ⟨rfl, hd.1, hd.2.1, hd.2.2⟩ hR) ⟨wb.blind, by rw [← hqn]; exact va_recv hw.1.1 hw.2.1 hq he, hw.pre⟩ rfl rfl hls (by rw [hst]) (lv_room hsum) hdg hC) hw.2.2.2.1 (fun q _ h => hFc q h) hFc (fun r u t H1 locs1 ht hvm hp hB hz hk1 hS1 => ?_)
  exact kk r u H1 locs1 hp ⟨hw.1, by rw [← ht]; exact hB.1, hB.2.weaken (fun _ _ _ h => hFc _ h), hS1, hw.2.2.2.2⟩
theorem ca_V {post2 : S2 → Prop} (hF : fx p s m args meth c cc nL own c0 ret) (hw : wb G A s ws H locs) (hM : ctV l y2 cc2 n2 rm2 G (.ref b :: As) ws post2 wf2) (hv : vwd own idx y2 (.code y2 cc2 n2 none))
    {q0 ci : Nat} {q : vw_C} {fs : List Value} (hq : vwCl[ci]? = some q) (hqn : q.1 = y2.cls) (he : ws[q0]? = some (b, .inr (ci, fs)))
    (hd : y2.cls ≠ "java/lang/invoke/MethodHandle" ∧ y2.cls ≠ "java/lang/invoke/VarHandle" ∧ (parseMethodDescriptor y2.desc).map (fun d => d.parameters.length) = some As.length)
    (hR : rm2.frames + 1 ≤ R.frames ∧ 8 + (n2 + 11) + rm2.locals ≤ R.locals) (hC : cells + rm2.cells ≤ R.cells ∧ slots + rm2.slots ≤ R.slots)
    (hls : ls.size = nL) (hst : st0 = As.reverse ++ .ref b :: rest) (hsum : (rest.map fun v => v.category).sum ≤ 8) (hdg : decode cc pc = .ok (.invokevirtual idx, 3))
    (kk : ∀ (u : S2) (H1 : Heap) (locs1 : List Loc), post2 u → wb G A s (wf2 u) H1 locs1 → W p l e R s m args below meth c H1 locs1 (cells + rm2.cells) (slots + rm2.slots) Q (F0 m (pc + 3) ls rest)) :
    W p l e R s m args below meth c H locs cells slots Q (F0 m pc ls st0) := by
  have hFc := hw.free
  refine va_callv (va_runV (As := As) (rest := rest) hF.1 (hM H.size) (cwV As.length hF.1.2.2.2.2 (gi_V hv) rfl rfl rfl ⟨rfl, hd.1, hd.2.1, hd.2.2⟩ hR) ⟨wb.blind, by rw [← hqn]; exact va_recv hw.1.1 hw.2.1 hq he, hw.pre⟩ rfl rfl hls (by rw [hst]) (lv_room hsum) hdg hC) hw.2.2.2.1 (fun q _ h => hFc q h) hFc (fun u t H1 locs1 ht hvm hp hB hz hk1 hS1 => ?_)
  exact kk u H1 locs1 hp ⟨hw.1, by rw [← ht]; exact hB.1, hB.2.weaken (fun _ _ _ h => hFc _ h), hS1, hw.2.2.2.2⟩
theorem ca_W {post2 : Int32 → S2 → Prop} (hF : fx p s m args meth c cc nL own c0 ret) (hw : wb G A s ws H locs) (hM : ctI l y2 cc2 n2 rt2 rm2 G As ws post2 wf2) (hv : swd own idx y2 (.code y2 cc2 n2 (some rt2)))
    (hd : y2.cls = own ∧ y2.cls ≠ "java/lang/invoke/MethodHandle" ∧ y2.cls ≠ "java/lang/invoke/VarHandle" ∧ (parseMethodDescriptor y2.desc).map (fun d => d.parameters.length) = some As.length)
    (hR : rm2.frames + 1 ≤ R.frames ∧ 8 + (n2 + 11) + rm2.locals ≤ R.locals) (hC : cells + rm2.cells ≤ R.cells ∧ slots + rm2.slots ≤ R.slots)
    (hls : ls.size = nL) (hst : st0 = As.reverse ++ rest) (hsum : (rest.map fun v => v.category).sum ≤ 8) (hdg : decode cc pc = .ok (.invokestatic idx, 3))
    (kk : ∀ (r : Int32) (u : S2) (H1 : Heap) (locs1 : List Loc), post2 r u → wb G A s (wf2 u) H1 locs1 → W p l e R s m args below meth c H1 locs1 (cells + rm2.cells) (slots + rm2.slots) Q (F0 m (pc + 3) ls (.int r :: rest))) :
    W p l e R s m args below meth c H locs cells slots Q (F0 m pc ls st0) := by
  have hFc := hw.free
  refine va_calli (va_runS (As := As) (rest := rest) hF.1 (hM H.size) (cwS As.length hF.1.2.2.2.2 (gi_S hv) rfl rfl rfl hd hR) ⟨wb.blind, hw.pre⟩ rfl rfl hls (by rw [hst]) (lv_room hsum) hdg hC) hw.2.2.2.1 (fun q _ h => hFc q h) hFc (fun r u t H1 locs1 ht hvm hp hB hz hk1 hS1 => ?_)
  exact kk r u H1 locs1 hp ⟨hw.1, by rw [← ht]; exact hB.1, hB.2.weaken (fun _ _ _ h => hFc _ h), hS1, hw.2.2.2.2⟩
theorem ca_S {post2 : Int32 → Prop} (hF : fx p s m args meth c cc nL own c0 ret) (hM : ctS l y2 cc2 n2 rt2 rm2 As post2) (hv : swd own idx y2 (.code y2 cc2 n2 (some rt2)))
    (hd : y2.cls = own ∧ y2.cls ≠ "java/lang/invoke/MethodHandle" ∧ y2.cls ≠ "java/lang/invoke/VarHandle" ∧ (parseMethodDescriptor y2.desc).map (fun d => d.parameters.length) = some As.length)
    (hz : rm2.cells = 0 ∧ rm2.slots = 0) (hR : rm2.frames + 1 ≤ R.frames ∧ 8 + (n2 + 11) + rm2.locals ≤ R.locals) (hC : cells ≤ R.cells ∧ slots ≤ R.slots)
    (hls : ls.size = nL) (hst : st0 = As.reverse ++ rest) (hsum : (rest.map fun v => v.category).sum ≤ 8) (hdg : decode cc pc = .ok (.invokestatic idx, 3))
    (kk : ∀ r : Int32, post2 r → W p l e R s m args below meth c H locs cells slots Q (F0 m (pc + 3) ls (.int r :: rest))) :
    W p l e R s m args below meth c H locs cells slots Q (F0 m pc ls st0) := by
  exact vp_callSi (W.runS (As := As) (rest := rest) hF.1 hM (cwS As.length hF.1.2.2.2.2 (gi_S hv) rfl hz.1 hz.2 hd hR) ⟨fun a U g mk q => ⟨q.1, trivial⟩, fun U hU hW => ⟨rfl, trivial⟩⟩ rfl rfl hls (by rw [hst]) (lv_room hsum) hdg hC) kk
-- fields
theorem r_get (hF : fx p s m args meth c cc nL own c0 ret) (hw : wb G A s ws H locs) {a ci idx : Nat} {fs : List Value} {C : String} {T : u_T} {N : Nat} (q0 : Nat) (he : ws[q0]? = some (a, .inr (ci, fs))) (hc : vwCl[ci]? = some (C, T, N)) (hin : ∀ w ∈ u_ws C T N, w ∈ wsA) (k : Nat) (hk : k < N) (hl : Cond.fieldLink own idx (T k).1 (T k).2.1 (T k).2.2.1 ∈ wsA) {v : Value} (hv : fs[k]? = some v) (hdg : decode cc pc = .ok (.getfield idx, 3))
    (kk : W p l e R s m args below meth c H locs cells slots Q (F0 m (pc + 3) ls (v :: rest))) : W p l e R s m args below meth c H locs cells slots Q (F0 m pc ls (.ref a :: rest)) :=
  va_get hF.x hF.b (Ts := wsA) (fun w h => hF.w h) hin hF.1.2.2.2.1 hw.1.1 hw.2.1 q0 he hc k hk (hF.w hl) (fun _ h9 => h9) hv hdg kk
theorem r_getN (hF : fx p s m args meth c cc nL own c0 ret) (hw : wb G A s ws H locs) {a ci idx : Nat} {fs : List Value} {C host : String} {T : u_T} {N : Nat} (q0 : Nat) (he : ws[q0]? = some (a, .inr (ci, fs))) (hc : vwCl[ci]? = some (C, T, N)) (hin : ∀ w ∈ u_ws C T N, w ∈ wsA) (k : Nat) (hk : k < N) (hl : Cond.fieldLinkNest own idx (T k).1 (T k).2.1 (T k).2.2.1 host ∈ nestW) {v : Value} (hv : fs[k]? = some v) (hdg : decode cc pc = .ok (.getfield idx, 3))
    (kk : W p l e R s m args below meth c H locs cells slots Q (F0 m (pc + 3) ls (v :: rest))) : W p l e R s m args below meth c H locs cells slots Q (F0 m pc ls (.ref a :: rest)) :=
  va_getN hF.x hF.b (Ts := wsA) (fun w h => hF.w h) hin hF.1.2.2.2.1 hw.1.1 hw.2.1 q0 he hc k hk (va_Nw.use rfl (hw.1.2.2.1 _ hl)) (fun _ h9 => h9) hv hdg kk
theorem r_put (hF : fx p s m args meth c cc nL own c0 ret) (hw : wb G A s ws H locs) {a ci idx : Nat} {fs : List Value} {C : String} {T : u_T} {N : Nat} {ws' : va_W} (q0 : Nat) (he : ws[q0]? = some (a, .inr (ci, fs))) (hc : vwCl[ci]? = some (C, T, N)) (hin : ∀ w ∈ u_ws C T N, w ∈ wsA) (ty0 : Nat → FieldType) (hty : ∀ k, k < N → parseFieldDescriptor (T k).2.2.1 = some (ty0 k)) (hnm : ∀ a, a < N → ∀ b, b < N → a ≠ b → (T a).2.1 ≠ (T b).2.1) (k : Nat) (hk : k < N) (hl : Cond.fieldLink own idx (T k).1 (T k).2.1 (T k).2.2.1 ∈ wsA) (hfin : (T k).2.2.2 = false) {v : Value} (hn : narrow (ty0 k) v = v) (hfit : fits (ty0 k) v = true) (hlen : k < fs.length) (hws : ws.set q0 (a, .inr (ci, fs.set k v)) = ws') (hdg : decode cc pc = .ok (.putfield idx, 3))
    (kk : ∀ (H1 : Heap) (locs1 : List Loc), wb G A s ws' H1 locs1 → W p l e R s m args below meth c H1 locs1 cells slots Q (F0 m (pc + 3) ls rest)) : W p l e R s m args below meth c H locs cells slots Q (F0 m pc ls (v :: .ref a :: rest)) := by
  subst hws
  exact va_put hF.x hF.b (Ts := wsA) (fun w h => hF.w h) hin ty0 hty hnm hF.1.2.2.2.1 hw.1.1 hw.2.1 hw.2.2.1 hw.2.2.2.1 q0 he hc k hk (hF.w hl) (fun _ h9 => h9) hfin (hty k hk) hn hfit hlen hdg (fun H1 locs1 hP hD hS => kk H1 locs1 ⟨hw.1, hP, hD, hS, hw.2.2.2.2⟩)
theorem r_putN (hF : fx p s m args meth c cc nL own c0 ret) (hw : wb G A s ws H locs) {a ci idx : Nat} {fs : List Value} {C host : String} {T : u_T} {N : Nat} {ws' : va_W} (q0 : Nat) (he : ws[q0]? = some (a, .inr (ci, fs))) (hc : vwCl[ci]? = some (C, T, N)) (hin : ∀ w ∈ u_ws C T N, w ∈ wsA) (ty0 : Nat → FieldType) (hty : ∀ k, k < N → parseFieldDescriptor (T k).2.2.1 = some (ty0 k)) (hnm : ∀ a, a < N → ∀ b, b < N → a ≠ b → (T a).2.1 ≠ (T b).2.1) (k : Nat) (hk : k < N) (hl : Cond.fieldLinkNest own idx (T k).1 (T k).2.1 (T k).2.2.1 host ∈ nestW) (hfin : (T k).2.2.2 = false) {v : Value} (hn : narrow (ty0 k) v = v) (hfit : fits (ty0 k) v = true) (hlen : k < fs.length) (hws : ws.set q0 (a, .inr (ci, fs.set k v)) = ws') (hdg : decode cc pc = .ok (.putfield idx, 3))
    (kk : ∀ (H1 : Heap) (locs1 : List Loc), wb G A s ws' H1 locs1 → W p l e R s m args below meth c H1 locs1 cells slots Q (F0 m (pc + 3) ls rest)) : W p l e R s m args below meth c H locs cells slots Q (F0 m pc ls (v :: .ref a :: rest)) := by
  subst hws
  exact va_putN hF.x hF.b (Ts := wsA) (fun w h => hF.w h) hin ty0 hty hnm hF.1.2.2.2.1 hw.1.1 hw.2.1 hw.2.2.1 hw.2.2.2.1 q0 he hc k hk (va_Nw.use rfl (hw.1.2.2.1 _ hl)) (fun _ h9 => h9) hfin (hty k hk) hn hfit hlen hdg (fun H1 locs1 hP hD hS => kk H1 locs1 ⟨hw.1, hP, hD, hS, hw.2.2.2.2⟩)
theorem r_putF (hF : fx p s m args meth c cc nL own c0 ret) (hw : wb G A s ws H locs) (hin2 : meth.name = "<init>") {a ci idx : Nat} {fs : List Value} {C : String} {T : u_T} {N : Nat} {ws' : va_W} (q0 : Nat) (he : ws[q0]? = some (a, .inr (ci, fs))) (hc : vwCl[ci]? = some (C, T, N)) (hin : ∀ w ∈ u_ws C T N, w ∈ wsA) (ty0 : Nat → FieldType) (hty : ∀ k, k < N → parseFieldDescriptor (T k).2.2.1 = some (ty0 k)) (hnm : ∀ a, a < N → ∀ b, b < N → a ≠ b → (T a).2.1 ≠ (T b).2.1) (k : Nat) (hk : k < N) (hl : Cond.fieldLink own idx (T k).1 (T k).2.1 (T k).2.2.1 ∈ wsA) (hfin : (T k).2.2.2 = true) (hdecl : (T k).1 = own) {v : Value} (hn : narrow (ty0 k) v = v) (hfit : fits (ty0 k) v = true) (hlen : k < fs.length) (hws : ws.set q0 (a, .inr (ci, fs.set k v)) = ws') (hdg : decode cc pc = .ok (.putfield idx, 3))
    (kk : ∀ (H1 : Heap) (locs1 : List Loc), wb G A s ws' H1 locs1 → W p l e R s m args below meth c H1 locs1 cells slots Q (F0 m (pc + 3) ls rest)) : W p l e R s m args below meth c H locs cells slots Q (F0 m pc ls (v :: .ref a :: rest)) := by
  subst hws
  exact va_putF hF.x hF.b (Ts := wsA) (fun w h => hF.w h) hin ty0 hty hnm hF.1.2.2.2.1 hw.1.1 hw.2.1 hw.2.2.1 hw.2.2.2.1 q0 he hc k hk (hF.w hl) (fun _ h9 => h9) hfin hin2 hdecl (hty k hk) hn hfit hlen hdg (fun H1 locs1 hP hD hS => kk H1 locs1 ⟨hw.1, hP, hD, hS, hw.2.2.2.2⟩)
-- arrays
theorem r_iald (hF : fx p s m args meth c cc nL own c0 ret) (hw : wb G A s ws H locs) {a n : Nat} {f : Nat → Int32} (q0 : Nat) (ha : ws[q0]? = some (a, .inl (G.2.1, n, .inl f))) {i : Int32} (hin : vp_in i n) (hdg : decode cc pc = .ok (.iaload, 1))
    (kk : W p l e R s m args below meth c H locs cells slots Q (F0 m (pc + 1) ls (.int (f i.toNatClampNeg) :: rest))) : W p l e R s m args below meth c H locs cells slots Q (F0 m pc ls (.int i :: .ref a :: rest)) :=
  va_iald hF.x hF.b hw.1.1 hw.2.1 q0 0 ha rfl hin hdg kk
theorem r_iast (hF : fx p s m args meth c cc nL own c0 ret) (hw : wb G A s ws H locs) {a n : Nat} {f : Nat → Int32} {ws' : va_W} (q0 : Nat) (ha : ws[q0]? = some (a, .inl (G.2.1, n, .inl f))) {i x : Int32} (hin : vp_in i n) (hws : ws.set q0 (a, .inl (G.2.1, n, .inl (upd f i.toNatClampNeg x))) = ws') (hdg : decode cc pc = .ok (.iastore, 1))
    (kk : ∀ (H1 : Heap) (locs1 : List Loc), wb G A s ws' H1 locs1 → W p l e R s m args below meth c H1 locs1 cells slots Q (F0 m (pc + 1) ls rest)) : W p l e R s m args below meth c H locs cells slots Q (F0 m pc ls (.int x :: .int i :: .ref a :: rest)) := by
  subst hws
  exact va_iast hF.x hF.b hw.1.1 hw.2.1 hw.2.2.1 hw.2.2.2.1 q0 0 ha rfl hin hdg (fun H1 locs1 hP hD hS => kk H1 locs1 ⟨hw.1, hP, hD, hS, hw.2.2.2.2⟩)
theorem r_alen (hF : fx p s m args meth c cc nL own c0 ret) (hw : wb G A s ws H locs) {a n : Nat} {f : Nat → Int32} (q0 : Nat) (ha : ws[q0]? = some (a, .inl (G.2.1, n, .inl f))) {v : Int32} (hv : Int32.ofNat n = v) (hdg : decode cc pc = .ok (.arraylength, 1))
    (kk : W p l e R s m args below meth c H locs cells slots Q (F0 m (pc + 1) ls (.int v :: rest))) : W p l e R s m args below meth c H locs cells slots Q (F0 m pc ls (.ref a :: rest)) :=
  va_alen hF.x hF.b hw.1.1 hw.2.1 q0 0 ha rfl hv hdg kk
theorem r_aald (hF : fx p s m args meth c cc nL own c0 ret) (hw : wb G A s ws H locs) {a n : Nat} {f : Nat → Option Nat} (q0 : Nat) (ha : ws[q0]? = some (a, .inl (G.2.2.1, n, .inr (.inr (.inr (.inr f)))))) {i : Int32} (hin : vp_in i n) (hdg : decode cc pc = .ok (.aaload, 1))
    (kk : W p l e R s m args below meth c H locs cells slots Q (F0 m (pc + 1) ls (va_rf (f i.toNatClampNeg) :: rest))) : W p l e R s m args below meth c H locs cells slots Q (F0 m pc ls (.int i :: .ref a :: rest)) :=
  va_aldq hF.x hF.b hw.1.1 hw.2.1 q0 1 (C := RX0) ha rfl hin hdg kk
theorem r_aast (hF : fx p s m args meth c cc nL own c0 ret) (hw : wb G A s ws H locs) {a n v : Nat} {f : Nat → Option Nat} {vs : List Value} {ws' : va_W} (q0 qk : Nat) (ha : ws[q0]? = some (a, .inl (G.2.2.1, n, .inr (.inr (.inr (.inr f)))))) (hv : ws[qk]? = some (v, .inr (0, vs))) {i : Int32} (hin : vp_in i n) (hws : ws.set q0 (a, .inl (G.2.2.1, n, .inr (.inr (.inr (.inr (va_up f i.toNatClampNeg (some v))))))) = ws') (hdg : decode cc pc = .ok (.aastore, 1))
    (kk : ∀ (H1 : Heap) (locs1 : List Loc), wb G A s ws' H1 locs1 → W p l e R s m args below meth c H1 locs1 cells slots Q (F0 m (pc + 1) ls rest)) : W p l e R s m args below meth c H locs cells slots Q (F0 m pc ls (.ref v :: .int i :: .ref a :: rest)) := by
  subst hws
  exact va_astq hF.x hF.b hw.1.1 hw.2.1 hw.2.2.1 hw.2.2.2.1 q0 1 qk 0 (r := (RX0, TX0, 8)) ha rfl hv rfl hin hdg (fun H1 locs1 hP hD hS => kk H1 locs1 ⟨hw.1, hP, hD, hS, hw.2.2.2.2⟩)
theorem r_aastN (hF : fx p s m args meth c cc nL own c0 ret) (hw : wb G A s ws H locs) {a n : Nat} {f : Nat → Option Nat} {ws' : va_W} (q0 : Nat) (ha : ws[q0]? = some (a, .inl (G.2.2.1, n, .inr (.inr (.inr (.inr f)))))) {i : Int32} (hin : vp_in i n) (hws : ws.set q0 (a, .inl (G.2.2.1, n, .inr (.inr (.inr (.inr (va_up f i.toNatClampNeg none)))))) = ws') (hdg : decode cc pc = .ok (.aastore, 1))
    (kk : ∀ (H1 : Heap) (locs1 : List Loc), wb G A s ws' H1 locs1 → W p l e R s m args below meth c H1 locs1 cells slots Q (F0 m (pc + 1) ls rest)) : W p l e R s m args below meth c H locs cells slots Q (F0 m pc ls (.null :: .int i :: .ref a :: rest)) := by
  subst hws
  exact va_astqN hF.x hF.b hw.1.1 hw.2.1 hw.2.2.1 hw.2.2.2.1 q0 1 (C := RX0) ha rfl hin hdg (fun H1 locs1 hP hD hS => kk H1 locs1 ⟨hw.1, hP, hD, hS, hw.2.2.2.2⟩)
-- the array of int arrays
theorem r_aaldG (hF : fx p s m args meth c cc nL own c0 ret) (hw : wb G A s ws H locs) {a n : Nat} {f : Nat → Option Nat} (q0 : Nat) (ha : ws[q0]? = some (a, .inl (G.2.2.2, n, .inr (.inr (.inr (.inr f)))))) {i : Int32} (hin : vp_in i n) (hdg : decode cc pc = .ok (.aaload, 1))
    (kk : W p l e R s m args below meth c H locs cells slots Q (F0 m (pc + 1) ls (va_rf (f i.toNatClampNeg) :: rest))) : W p l e R s m args below meth c H locs cells slots Q (F0 m pc ls (.int i :: .ref a :: rest)) := by
  have hlt : i.toNatClampNeg < n := Nat.not_le.mp fun q => hin (Or.inr q)
  exact W.aald (v := va_rf (f i.toNatClampNeg)) (ty := .array .int) hF.x hF.b (hw.2.1 q0 _ ha) ((hw.1.1.2 2 _ rfl).1 n (fun j => va_rf (f j))) rfl (fun q => by cases q) (by show ¬ (i < 0 ∨ (arrV _ _ _).slots.size ≤ _); rw [arrV_size]; exact hin) (by show (arrV _ _ _).slots[_]? = _; rw [arrV_read _ _ hlt]) rfl rfl hdg kk
theorem r_aastG (hF : fx p s m args meth c cc nL own c0 ret) (hw : wb G A s ws H locs) {a n v nv : Nat} {f : Nat → Option Nat} {fv : Nat → Int32} {ws' : va_W} (q0 qk : Nat) (ha : ws[q0]? = some (a, .inl (G.2.2.2, n, .inr (.inr (.inr (.inr f)))))) (hv : ws[qk]? = some (v, .inl (G.2.1, nv, .inl fv))) {i : Int32} (hin : vp_in i n) (hws : ws.set q0 (a, .inl (G.2.2.2, n, .inr (.inr (.inr (.inr (va_up f i.toNatClampNeg (some v))))))) = ws') (hdg : decode cc pc = .ok (.aastore, 1))
    (kk : ∀ (H1 : Heap) (locs1 : List Loc), wb G A s ws' H1 locs1 → W p l e R s m args below meth c H1 locs1 cells slots Q (F0 m (pc + 1) ls rest)) : W p l e R s m args below meth c H locs cells slots Q (F0 m pc ls (.ref v :: .int i :: .ref a :: rest)) := by
  subst hws
  have hlt : i.toNatClampNeg < n := Nat.not_le.mp fun q => hin (Or.inr q)
  have h0 : ¬ i < 0 := fun q => hin (Or.inl q)
  obtain ⟨kA, kI, k1, k2, k3⟩ := hw.1.2.1
  have hvc : H[v]? = some (vp_cell G.2.1 (nv, .inl fv)) := hw.2.1 qk _ hv
  refine W.aast hF.x hF.b (hw.2.1 q0 _ ha) (fun q h => by cases h) (fun h => by cases h) k1 k2 rfl k3 ⟨h0, by show _ < (arrV _ _ _).slots.size; rw [arrV_size]; exact hlt⟩ hvc (fun q h => by cases h) k3 (va_asg _ _) rfl rfl hdg fun H1 e z oq => ?_
  refine kk H1 _ ⟨hw.1, hw.2.1.set hw.2.2.1 ha ?_ oq, hw.2.2.1.set ha, hw.2.2.2.1.put z oq (hw.2.2.1.2 q0 _ ha), hw.2.2.2.2⟩
  show H1[a]? = some (vp_cell _ _)
  rw [e]
  rw [vp_cell_q, vp_cell_q, arrV_store]
  congr 2
  funext q
  by_cases hq : q = i.toNatClampNeg
  · subst hq
    simp [updV, va_up, va_rf]
  · simp [updV, va_up, hq]
theorem r_aastGN (hF : fx p s m args meth c cc nL own c0 ret) (hw : wb G A s ws H locs) {a n : Nat} {f : Nat → Option Nat} {ws' : va_W} (q0 : Nat) (ha : ws[q0]? = some (a, .inl (G.2.2.2, n, .inr (.inr (.inr (.inr f)))))) {i : Int32} (hin : vp_in i n) (hws : ws.set q0 (a, .inl (G.2.2.2, n, .inr (.inr (.inr (.inr (va_up f i.toNatClampNeg none)))))) = ws') (hdg : decode cc pc = .ok (.aastore, 1))
    (kk : ∀ (H1 : Heap) (locs1 : List Loc), wb G A s ws' H1 locs1 → W p l e R s m args below meth c H1 locs1 cells slots Q (F0 m (pc + 1) ls rest)) : W p l e R s m args below meth c H locs cells slots Q (F0 m pc ls (.null :: .int i :: .ref a :: rest)) := by
  subst hws
  have hlt : i.toNatClampNeg < n := Nat.not_le.mp fun q => hin (Or.inr q)
  have h0 : ¬ i < 0 := fun q => hin (Or.inl q)
  obtain ⟨kA, kI, k1, k2, k3⟩ := hw.1.2.1
  have hcell : H[a]? = some (vp_cell G.2.2.2 (n, .inr (.inr (.inr (.inr f))))) := hw.2.1 q0 _ ha
  have main : ∀ H1 : Heap, H1[a]? = some ((vp_cell G.2.2.2 (n, .inr (.inr (.inr (.inr f))))).setSlot i.toNatClampNeg .null) → H1.size = H.size → (∀ q, q ≠ a → H1[q]? = H[q]?) → wb G A s (ws.set q0 (a, .inl (G.2.2.2, n, .inr (.inr (.inr (.inr (va_up f i.toNatClampNeg none))))))) H1 (locs ++ [⟨a, i.toNatClampNeg⟩]) := by
    intro H1 e z oq
    refine ⟨hw.1, hw.2.1.set hw.2.2.1 ha ?_ oq, hw.2.2.1.set ha, hw.2.2.2.1.put z oq (hw.2.2.1.2 q0 _ ha), hw.2.2.2.2⟩
    show H1[a]? = some (vp_cell _ _)
    rw [e]
    rw [vp_cell_q, vp_cell_q, arrV_store]
    congr 2
    funext q
    by_cases hq : q = i.toNatClampNeg
    · subst hq
      simp [updV, va_up, va_rf]
    · simp [updV, va_up, hq]
  intro T hT X
  have hT' : T.heap[a]? = some (vp_cell G.2.2.2 (n, .inr (.inr (.inr (.inr f))))) := by rw [hT]; exact hcell
  obtain ⟨X', st⟩ := X.aastoreNullIn hF.x hT' (fun q h => by cases h) (fun h => by cases h) k1 k2 rfl (j := i) ⟨h0, by show _ < (arrV _ _ _).slots.size; rw [arrV_size]; exact hlt⟩ (g := F0 m pc ls (.null :: .int i :: .ref a :: rest)) rfl rfl (by rw [hF.b]; exact hdg)
  have hlt2 : a < T.heap.size := (Array.getElem?_eq_some_iff.mp hT').1
  obtain ⟨t', a1, b1⟩ := kk _ _ (main _ (heapAt_setCell_self _ hlt2) (by rw [size_setCell, hT]) (fun q hq => by rw [heapAt_setCell_ne _ (Ne.symm hq), hT])) _ rfl X'
  exact ⟨t', st t' a1, b1⟩
-- what may be null
theorem lq_aload_n {k : Fin 4} {i : Nat} {o : Option Nat} (hF : fx p s m args meth c cc nL own c0 ret) (hdg : decode cc pc = .ok (.aload_n k, 1)) (hi : (k : Nat) = i) (hl : ls[i]? = some (.val (va_rf o)))
    (kk : W p l e R s m args below meth c H locs cells slots Q (F0 m (pc + 1) ls (va_rf o :: rest))) : W p l e R s m args below meth c H locs cells slots Q (F0 m pc ls rest) := by
  cases o with
  | none => exact lv_aload_nN hF.x hF.b hdg hi hl kk
  | some a => exact lv_aload_n hF.x hF.b hdg hi hl kk
theorem lq_aload {i : Nat} {o : Option Nat} (hF : fx p s m args meth c cc nL own c0 ret) (hdg : decode cc pc = .ok (.aload i, 2)) (hl : ls[i]? = some (.val (va_rf o)))
    (kk : W p l e R s m args below meth c H locs cells slots Q (F0 m (pc + 2) ls (va_rf o :: rest))) : W p l e R s m args below meth c H locs cells slots Q (F0 m pc ls rest) := by
  cases o with
  | none => exact lv_aloadN hF.x hF.b hdg hl kk
  | some a => exact lv_aload hF.x hF.b hdg hl kk
theorem lq_astore_n {k : Fin 4} {i nL' : Nat} {o : Option Nat} {lv lv' : List (Nat × Value)} (hF : fx p s m args meth c cc nL own c0 ret) (hdg : decode cc pc = .ok (.astore_n k, 1)) (hi : (k : Nat) = i) (h : lv_has ls nL' lv) (hn : i < nL') (hl : (i, va_rf o) :: lv.filter (fun q => !(q.1 == i) && !(q.1 + 1 == i && q.2.category == 2)) = lv')
    (kk : ∀ ls' : Array Slot, lv_has ls' nL' lv' → W p l e R s m args below meth c H locs cells slots Q (F0 m (pc + 1) ls' rest)) : W p l e R s m args below meth c H locs cells slots Q (F0 m pc ls (va_rf o :: rest)) := by
  cases o with
  | none => exact lv_astore_nN hF.x hF.b hdg hi h hn hl kk
  | some a => exact lv_astore_n hF.x hF.b hdg hi h hn hl kk
theorem lq_astore {i nL' : Nat} {o : Option Nat} {lv lv' : List (Nat × Value)} (hF : fx p s m args meth c cc nL own c0 ret) (hdg : decode cc pc = .ok (.astore i, 2)) (h : lv_has ls nL' lv) (hn : i < nL') (hl : (i, va_rf o) :: lv.filter (fun q => !(q.1 == i) && !(q.1 + 1 == i && q.2.category == 2)) = lv')
    (kk : ∀ ls' : Array Slot, lv_has ls' nL' lv' → W p l e R s m args below meth c H locs cells slots Q (F0 m (pc + 2) ls' rest)) : W p l e R s m args below meth c H locs cells slots Q (F0 m pc ls (va_rf o :: rest)) := by
  cases o with
  | none => exact lv_astoreN hF.x hF.b hdg h hn hl kk
  | some a => exact lv_astore hF.x hF.b hdg h hn hl kk
theorem lq_ifnull {off : Int} {tgt : Nat} {o : Option Nat} (hF : fx p s m args meth c cc nL own c0 ret) (hdg : decode cc pc = .ok (.ifnull off, 3)) (ht : (pc : Int) + off = (tgt : Int))
    (kt : o = none → W p l e R s m args below meth c H locs cells slots Q (F0 m tgt ls rest)) (kf : ∀ a, o = some a → W p l e R s m args below meth c H locs cells slots Q (F0 m (pc + 3) ls rest)) : W p l e R s m args below meth c H locs cells slots Q (F0 m pc ls (va_rf o :: rest)) := by
  cases o with
  | none => exact lv_ifnullN hF.x hF.b hdg ht (kt rfl)
  | some a => exact lv_ifnull hF.x hF.b hdg (kf a rfl)
theorem lq_ifnonnull {off : Int} {tgt : Nat} {o : Option Nat} (hF : fx p s m args meth c cc nL own c0 ret) (hdg : decode cc pc = .ok (.ifnonnull off, 3)) (ht : (pc : Int) + off = (tgt : Int))
    (kt : ∀ a, o = some a → W p l e R s m args below meth c H locs cells slots Q (F0 m tgt ls rest)) (kf : o = none → W p l e R s m args below meth c H locs cells slots Q (F0 m (pc + 3) ls rest)) : W p l e R s m args below meth c H locs cells slots Q (F0 m pc ls (va_rf o :: rest)) := by
  cases o with
  | none => exact lv_ifnonnullN hF.x hF.b hdg (kf rfl)
  | some a => exact lv_ifnonnull hF.x hF.b hdg ht (kt a rfl)
end RW
