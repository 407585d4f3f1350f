/-! the calls that make: gauge, deed -/
theorem range_up {α : Type} (f g : Nat → α) (n : Nat) (h : ∀ d, d < n → f d = g d) : (List.range n).map f = (List.range n).map g := List.map_congr_left (fun d hd => h d (List.mem_range.mp hd))
theorem map_up {o : Option Nat} {f : Nat → Nat} {n q : Nat} (h : ∀ d, o = some d → d < n) : o.map (va_up f n q) = o.map f := by
  cases o with
  | none => rfl
  | some d => simp only [Option.map_some]; rw [va_up_ne _ _ (Nat.ne_of_lt (h d rfl))]
theorem wX_newR {G : Gm} {a : AX} {σ : SX} (h : WFX σ) (q N : Nat) (f : Nat → Int32) : wX G a σ ++ [(q, .inl (G.2.1, N, .inl f))] = wX G (a.1, a.2.1, va_up a.2.2 σ.2.2.2.2.1 q) (σ.1, σ.2.1, σ.2.2.1, σ.2.2.2.1, (σ.2.2.2.2.1 + 1, va_up σ.2.2.2.2.2 σ.2.2.2.2.1 (N, f))) := by
  have e1 : (fun i => (σ.2.2.1 1 i).map (va_up a.2.2 σ.2.2.2.2.1 q)) = fun i => (σ.2.2.1 1 i).map a.2.2 := by
    funext i
    exact map_up (fun d hd => h.2.1 i d hd)
  have e2 : dPl (a.1, a.2.1, va_up a.2.2 σ.2.2.2.2.1 q) σ.2.2.2.1.1 σ.2.2.2.1.2 = dPl a σ.2.2.2.1.1 σ.2.2.2.1.2 := by
    unfold dPl
    refine range_up _ _ _ (fun d hd => ?_)
    simp only [dF]
    rw [map_up (fun r hr => (h.2.2.1 d hd).2.2 r hr)]
  have e3 : rPl G (a.1, a.2.1, va_up a.2.2 σ.2.2.2.2.1 q) (σ.2.2.2.2.1 + 1) (va_up σ.2.2.2.2.2 σ.2.2.2.2.1 (N, f)) = rPl G a σ.2.2.2.2.1 σ.2.2.2.2.2 ++ [(q, .inl (G.2.1, N, .inl f))] := by
    unfold rPl
    rw [List.range_succ, List.map_append]
    congr 1
    · refine range_up _ _ _ (fun d hd => ?_)
      simp only [va_up_ne _ _ (Nat.ne_of_lt hd)]
    · simp only [List.map_cons, List.map_nil, va_up_self]
  simp only [wX]
  rw [e1, e2, e3]
  simp only [List.cons_append, List.append_assoc]
  rfl
/-- a deed as it is made -/
def mkD (k x y z : Int32) (f s g : Option Nat) : DX := (fun j => if j = 0 then k else if j = 1 then x else if j = 2 then y else if j = 3 then z else 0, fun j => if j = 4 then f else if j = 5 then s else if j = 6 then g else none)
theorem wb_newD {G : Gm} {A : Nat → Prop} {s : State} {a : AX} {σ : SX} {H : Heap} {locs : List Loc} (h : WFX σ) (q : Nat) (k x y z : Int32) (fo so g : Option Nat) (hf : okO σ fo) (hs : okO σ so) (hw : wb G A s (wX G a σ ++ [(q, .inr (0, [.int k, .int x, .int y, .int z, va_rf (fo.map a.2.1), va_rf (so.map a.2.1), va_rf (g.map a.2.2), .int 0]))]) H locs) :
    wb G A s (wX G (a.1, va_up a.2.1 σ.2.2.2.1.1 q, a.2.2) (σ.1, σ.2.1, σ.2.2.1, (σ.2.2.2.1.1 + 1, va_up σ.2.2.2.1.2 σ.2.2.2.1.1 (mkD k x y z fo so g)), σ.2.2.2.2)) H locs := by
  have eO : ∀ j, (j = 2 ∨ j = 3 ∨ j = 4) → (fun i => (σ.2.2.1 j i).map (va_up a.2.1 σ.2.2.2.1.1 q)) = fun i => (σ.2.2.1 j i).map a.2.1 := by
    intro j hj
    funext i
    exact map_up (fun d hd => h.1 j i d hj hd)
  have e2 : dPl (a.1, va_up a.2.1 σ.2.2.2.1.1 q, a.2.2) (σ.2.2.2.1.1 + 1) (va_up σ.2.2.2.1.2 σ.2.2.2.1.1 (mkD k x y z fo so g)) = dPl a σ.2.2.2.1.1 σ.2.2.2.1.2 ++ [(q, .inr (0, [.int k, .int x, .int y, .int z, va_rf (fo.map a.2.1), va_rf (so.map a.2.1), va_rf (g.map a.2.2), .int 0]))] := by
    unfold dPl
    rw [List.range_succ, List.map_append]
    congr 1
    · refine range_up _ _ _ (fun d hd => ?_)
      rw [va_up_ne _ _ (Nat.ne_of_lt hd)]
      simp only [dF]
      rw [va_up_ne _ _ (Nat.ne_of_lt hd), map_up (fun r hr => (h.2.2.1 d hd).1 r hr), map_up (fun r hr => (h.2.2.1 d hd).2.1 r hr)]
    · simp only [List.map_cons, List.map_nil, va_up_self, dF, mkD]
      simp only [show ¬ (1 : Nat) = 0 by decide, show ¬ (2 : Nat) = 0 by decide, show ¬ (2 : Nat) = 1 by decide, show ¬ (3 : Nat) = 0 by decide, show ¬ (3 : Nat) = 1 by decide, show ¬ (3 : Nat) = 2 by decide, show ¬ (7 : Nat) = 0 by decide, show ¬ (7 : Nat) = 1 by decide, show ¬ (7 : Nat) = 2 by decide, show ¬ (7 : Nat) = 3 by decide, show ¬ (5 : Nat) = 4 by decide, show ¬ (6 : Nat) = 4 by decide, show ¬ (6 : Nat) = 5 by decide, if_true, if_false]
      rw [map_up hf, map_up hs]
  obtain ⟨h1, h2, h3, h4, h5⟩ := hw
  have e : wX G (a.1, va_up a.2.1 σ.2.2.2.1.1 q, a.2.2) (σ.1, σ.2.1, σ.2.2.1, (σ.2.2.2.1.1 + 1, va_up σ.2.2.2.1.2 σ.2.2.2.1.1 (mkD k x y z fo so g)), σ.2.2.2.2) = (((a.1 13, .inr (1, hFs a σ)) :: (a.1 0, .inl (G.2.1, 10, .inl (σ.2.1 0))) :: (a.1 1, .inl (G.2.2.2, 3, qA (fun i => (σ.2.2.1 1 i).map a.2.2))) :: (a.1 2, .inl (G.2.2.1, 20, qA (fun i => (σ.2.2.1 2 i).map a.2.1))) :: (a.1 3, .inl (G.2.2.1, 20, qA (fun i => (σ.2.2.1 3 i).map a.2.1))) :: (a.1 4, .inl (G.2.2.1, 12, qA (fun i => (σ.2.2.1 4 i).map a.2.1))) :: (a.1 5, .inl (G.2.1, 12, .inl (σ.2.1 5))) :: dPl a σ.2.2.2.1.1 σ.2.2.2.1.2) ++ [(q, .inr (0, [.int k, .int x, .int y, .int z, va_rf (fo.map a.2.1), va_rf (so.map a.2.1), va_rf (g.map a.2.2), .int 0]))]) ++ rPl G a σ.2.2.2.2.1 σ.2.2.2.2.2 := by
    simp only [wX]
    rw [e2, eO 2 (Or.inl rfl), eO 3 (Or.inr (Or.inl rfl)), eO 4 (Or.inr (Or.inr rfl))]
    simp only [List.cons_append, List.append_assoc]
    rfl
  have e0 : wX G a σ ++ [(q, .inr (0, [.int k, .int x, .int y, .int z, va_rf (fo.map a.2.1), va_rf (so.map a.2.1), va_rf (g.map a.2.2), .int 0]))] = (((a.1 13, .inr (1, hFs a σ)) :: (a.1 0, .inl (G.2.1, 10, .inl (σ.2.1 0))) :: (a.1 1, .inl (G.2.2.2, 3, qA (fun i => (σ.2.2.1 1 i).map a.2.2))) :: (a.1 2, .inl (G.2.2.1, 20, qA (fun i => (σ.2.2.1 2 i).map a.2.1))) :: (a.1 3, .inl (G.2.2.1, 20, qA (fun i => (σ.2.2.1 3 i).map a.2.1))) :: (a.1 4, .inl (G.2.2.1, 12, qA (fun i => (σ.2.2.1 4 i).map a.2.1))) :: (a.1 5, .inl (G.2.1, 12, .inl (σ.2.1 5))) :: dPl a σ.2.2.2.1.1 σ.2.2.2.1.2) ++ rPl G a σ.2.2.2.2.1 σ.2.2.2.2.2) ++ [(q, .inr (0, [.int k, .int x, .int y, .int z, va_rf (fo.map a.2.1), va_rf (so.map a.2.1), va_rf (g.map a.2.2), .int 0]))] := by
    simp only [wX, List.cons_append, List.append_assoc]
  rw [e0] at h2 h3
  rw [e]
  exact ⟨h1, h2.swap, h3.swap, h4, h5⟩
section RXM
variable {p : Program} {l : Launch} {e : Env} {R : Room} {s : State} {m : MethodId} {args : Array Value} {below : List Frame} {meth : Method} {c : Code} {H : Heap} {locs : List Loc} {cells slots : Nat} {Q : State → Prop}
variable {cc : ByteArray} {pc : Nat} {ls : Array Slot} {rest : List Value} {G : Gm} {A : Nat → Prop} {a : AX} {σ : SX} {nL : Nat} {c0 : Cond} {ret : Option FieldType}
theorem rx_gastv {i : Int32} {o : Option Nat} {v : Value} (hv : v = va_rf (o.map a.2.2)) (hF : fx p s m args meth c cc nL RX1 c0 ret) (hw : wb G A s (wX G a σ) H locs) (hin : vp_in i 3) (ho : ∀ d, o = some d → d < σ.2.2.2.2.1) (hdg : decode cc pc = .ok (.aastore, 1))
    (kk : ∀ (σ1 : SX) (H1 : Heap) (locs1 : List Loc), σ1 = (σ.1, σ.2.1, va_up σ.2.2.1 1 (va_up (σ.2.2.1 1) i.toNatClampNeg o), σ.2.2.2) → wb G A s (wX G a σ1) H1 locs1 → W p l e R s m args below meth c H1 locs1 cells slots Q (F0 m (pc + 1) ls rest)) : W p l e R s m args below meth c H locs cells slots Q (F0 m pc ls (v :: .int i :: .ref (a.1 1) :: rest)) := by
  subst hv
  exact rx_gast hF hw hin ho hdg kk
theorem rx_aastv {i : Int32} {o : Option Nat} {v : Value} (hv : v = va_rf (o.map a.2.1)) (k n : Nat) (hF : fx p s m args meth c cc nL RX1 c0 ret) (hw : wb G A s (wX G a σ) H locs) (hk : (k = 2 ∧ n = 20) ∨ (k = 3 ∧ n = 20) ∨ (k = 4 ∧ n = 12)) (hin : vp_in i n) (ho : ∀ d, o = some d → d < σ.2.2.2.1.1) (hdg : decode cc pc = .ok (.aastore, 1))
    (kk : ∀ (σ1 : SX) (H1 : Heap) (locs1 : List Loc), σ1 = (σ.1, σ.2.1, va_up σ.2.2.1 k (va_up (σ.2.2.1 k) i.toNatClampNeg o), σ.2.2.2) → wb G A s (wX G a σ1) H1 locs1 → W p l e R s m args below meth c H1 locs1 cells slots Q (F0 m (pc + 1) ls rest)) : W p l e R s m args below meth c H locs cells slots Q (F0 m pc ls (v :: .int i :: .ref (a.1 k) :: rest)) := by
  subst hv
  exact rx_aast k n hF hw hk hin ho hdg kk
end RXM
abbrev q1_gauge (σ : SX) (_ _ : Int32) : Prop := WFX σ
def f1_gauge (σ : SX) (g n : Int32) : Int32 × SX := if f1_isGauge g = 0 then (-1, σ) else if n < 0 then (-1, σ) else if n ≤ 6 then
    (1, (σ.1, σ.2.1, va_up σ.2.2.1 1 (va_up (σ.2.2.1 1) g.toNatClampNeg (some σ.2.2.2.2.1)), σ.2.2.2.1, (σ.2.2.2.2.1 + 1, va_up σ.2.2.2.2.2 σ.2.2.2.2.1 (n.toNatClampNeg, fun _ => 0)))) else (-1, σ)
def sx_new (σ : SX) (sl : Int32) (d : DX) : SX := (va_up σ.1 8 (σ.1 8 + 1), σ.2.1, va_up σ.2.2.1 2 (va_up (σ.2.2.1 2) sl.toNatClampNeg (some σ.2.2.2.1.1)), (σ.2.2.2.1.1 + 1, va_up σ.2.2.2.1.2 σ.2.2.2.1.1 d), σ.2.2.2.2)
abbrev q1_deed (σ : SX) (_ _ _ _ _ : Int32) : Prop := WFX σ
/-- what a deed is to hold of others, by its kind -/
def x_first (σ : SX) (k x : Int32) : Option Nat := if f1_holdsFirst k = 0 then none else (f1_inSlot σ x).1
def x_second (σ : SX) (k y : Int32) : Option Nat := if f1_holdsSecond k = 0 then none else (f1_inSlot σ y).1
def x_gauge (σ : SX) (k x : Int32) : Option Nat := if k = 4 then (f1_gaugeNow σ x).1 else none
def x_num (σ : SX) (k x : Int32) : Int32 := if k = 6 then (f1_heldBy σ x).1 else x
def f1_deed (σ : SX) (sl k x y z : Int32) : Int32 × SX :=
  if f1_isSlot sl = 0 then (-1, σ) else if f1_namesWhatThereIs k x y z = 0 then (-1, σ)
  else if (¬ f1_holdsFirst k = 0 ∧ x_first σ k x = none) ∨ (¬ f1_holdsSecond k = 0 ∧ x_second σ k y = none) then (-2, σ)
  else (σ.1 8 + 1, sx_new σ sl (mkD k (x_num σ k x) y z (x_first σ k x) (x_second σ k y) (x_gauge σ k x)))

def wp_X1_gauge_0 (σ : SX) (v1 : Int32) (v2 : Int32) (K19 : SX → Int32 → Int32 → Prop) (post : Int32 → SX → Prop) : Prop :=
  ∀ r1 : Int32, r1 = f1_isGauge v1 → (r1 = 0 → post ((-1)) σ) ∧ (¬ r1 = 0 → (v2 < 0 → post ((-1)) σ) ∧ (¬ v2 < 0 → (v2 ≤ 6 → K19 σ v1 v2) ∧ (¬ v2 ≤ 6 → post ((-1)) σ)))
set_option maxHeartbeats 4000000 in
set_option maxRecDepth 100000 in
theorem k_X1_gauge_0 {l : Launch} {p : Program} {e : Env} {s : State} {m : MethodId} {below : List Frame} {meth : Method} {c : Code} {args : Array Value} {A : Nat → Prop} {G : Gm} {a : AX}  (hF : fx p s m args meth c cX1_gauge 3 yX1_gauge.cls kX1_gauge (some (.int))) {post : Int32 → SX → Prop} {K19 : SX → Int32 → Int32 → Prop} (hK19 : ∀ (σ : SX) (v1 : Int32) (v2 : Int32) {H : Heap} {locs : List Loc} {ls : Array Slot}, K19 σ v1 v2 → wb G A s (wX G a σ) H locs → lv_has ls 3 [(0, .ref (a.1 13)), (1, .int v1), (2, .int v2)] → W p l e ({ frames := 1, cells := 1, slots := 6, locals := 20 } : Room) s m args below meth c H locs 0 0 (MQ below (va_Qi (fun (r : Int32) (u : AX × SX) => post r u.2 ∧ u.1.1 = a.1) (po G A (fun u : AX × SX => wX G u.1 u.2)) A) args s 1 6 A) (F0 m 19 ls [])) (σ : SX) (v1 : Int32) (v2 : Int32) {H : Heap} {locs : List Loc} {ls : Array Slot} (hw : wb G A s (wX G a σ) H locs) (hl : lv_has ls 3 [(0, .ref (a.1 13)), (1, .int v1), (2, .int v2)]) (hok : wp_X1_gauge_0 σ v1 v2 K19 post) :
    W p l e ({ frames := 1, cells := 1, slots := 6, locals := 20 } : Room) s m args below meth c H locs 0 0 (MQ below (va_Qi (fun (r : Int32) (u : AX × SX) => post r u.2 ∧ u.1.1 = a.1) (po G A (fun u : AX × SX => wX G u.1 u.2)) A) args s 1 6 A) (F0 m 0 ls []) := by
  unfold wp_X1_gauge_0 at hok
  refine lv_iload_n hF.x hF.b dX1_gauge_0 rfl (lv_at hl 1 rfl) ?_
  refine ca_S hF (c1_isGauge l v1) wv_X1_63 ⟨rfl, nd_X1.1, nd_X1.2, pd_X1_isGauge⟩ ⟨rfl, rfl⟩ ⟨by show 0 + 1 ≤ 1; omega, by show 8 + (1 + 11) + 0 ≤ 20; omega⟩ ⟨Nat.zero_le _, Nat.zero_le _⟩ hl.1 rfl (by first | exact Nat.le_of_ble_eq_true rfl | simp [cat_rf, Value.category]) dX1_gauge_1 (fun r1 er1 => ?_)
  replace hok := hok r1 er1
  refine lv_if_eq (tgt := 17) hF.x hF.b dX1_gauge_4 (by decide) (fun c2 => ?_) (fun c2 => ?_)
  · replace hok := hok.1 c2
    refine lv_iconst (v := (-1)) hF.x hF.b dX1_gauge_17 (by decide) ?_
    exact rt_I (wf := fun u : AX × SX => wX G u.1 u.2) (u := (a, σ)) hF hw ⟨hok, rfl⟩ (Nat.zero_le _) (Nat.zero_le _) dX1_gauge_18
  · replace hok := hok.2 c2
    refine lv_iload_n hF.x hF.b dX1_gauge_7 rfl (lv_at hl 2 rfl) ?_
    refine lv_if_lt (tgt := 17) hF.x hF.b dX1_gauge_8 (by decide) (fun c3 => ?_) (fun c3 => ?_)
    · replace hok := hok.1 c3
      refine lv_iconst (v := (-1)) hF.x hF.b dX1_gauge_17 (by decide) ?_
      exact rt_I (wf := fun u : AX × SX => wX G u.1 u.2) (u := (a, σ)) hF hw ⟨hok, rfl⟩ (Nat.zero_le _) (Nat.zero_le _) dX1_gauge_18
    · replace hok := hok.2 c3
      refine lv_iload_n hF.x hF.b dX1_gauge_11 rfl (lv_at hl 2 rfl) ?_
      refine lv_bipush (v := 6) hF.x hF.b dX1_gauge_12 (by decide) ?_
      refine lv_icmp_le (tgt := 19) hF.x hF.b dX1_gauge_14 (by decide) (fun c4 => ?_) (fun c4 => ?_)
      · replace hok := hok.1 c4
        exact hK19 σ v1 v2 hok hw (lv_sub hl [0, 1, 2] rfl)
      · replace hok := hok.2 c4
        refine lv_iconst (v := (-1)) hF.x hF.b dX1_gauge_17 (by decide) ?_
        exact rt_I (wf := fun u : AX × SX => wX G u.1 u.2) (u := (a, σ)) hF hw ⟨hok, rfl⟩ (Nat.zero_le _) (Nat.zero_le _) dX1_gauge_18

set_option maxHeartbeats 4000000 in
set_option maxRecDepth 100000 in
theorem k_X1_gauge_19 {l : Launch} {p : Program} {e : Env} {s : State} {m : MethodId} {below : List Frame} {meth : Method} {c : Code} {args : Array Value} {A : Nat → Prop} {G : Gm} {a : AX} (hF : fx p s m args meth c cX1_gauge 3 yX1_gauge.cls kX1_gauge (some (.int))) {post : Int32 → SX → Prop} (σ : SX) (v1 v2 : Int32) {H : Heap} {locs : List Loc} {ls : Array Slot} (hW : WFX σ) (hg : ¬ f1_isGauge v1 = 0) (h0 : ¬ v2 < 0) (h6 : v2 ≤ 6) (hp : post 1 (f1_gauge σ v1 v2).2) (hw : wb G A s (wX G a σ) H locs) (hl : lv_has ls 3 [(0, .ref (a.1 13)), (1, .int v1), (2, .int v2)]) :
    W p l e ({ frames := 1, cells := 1, slots := 6, locals := 20 } : Room) s m args below meth c H locs 0 0 (MQ below (va_Qi (fun (r : Int32) (u : AX × SX) => post r u.2 ∧ u.1.1 = a.1) (po G A (fun u : AX × SX => wX G u.1 u.2)) A) args s 1 6 A) (F0 m 19 ls []) := by
  obtain ⟨N, hN, rfl⟩ := nI_of2 (M := 6) (n := 6) (by decide) h0 h6
  have hc : (nI N).toNatClampNeg = N := nI_clamp (by omega)
  refine lv_aload_n hF.x hF.b dX1_gauge_19 rfl (lv_at hl 0 rfl) ?_
  refine r_get hF hw 0 rfl rfl inlX1 1 (by decide) wf_X1_14 rfl dX1_gauge_20 ?_
  refine lv_iload_n hF.x hF.b dX1_gauge_23 rfl (lv_at hl 1 rfl) ?_
  refine lv_iload_n hF.x hF.b dX1_gauge_24 rfl (lv_at hl 2 rfl) ?_
  refine r_newi (N := N) hF hw h0 hc (by omega) (by show 0 + 1 ≤ 1; decide) (by show 0 + N ≤ 6; omega) dX1_gauge_25 (fun q H hw => ?_)
  rw [wX_newR hW] at hw
  refine rx_gastv (a := (a.1, a.2.1, va_up a.2.2 σ.2.2.2.2.1 q)) (o := some σ.2.2.2.2.1) (by simp [va_rf, va_up]) hF hw (in_G hg) (fun d hd => by cases hd; exact Nat.lt_succ_self _) dX1_gauge_27 (fun σ1 H locs e1 hw => ?_)
  refine lv_iconst (v := 1) hF.x hF.b dX1_gauge_28 (by decide) ?_
  refine rt_I (wf := fun u : AX × SX => wX G u.1 u.2) (u := ((a.1, a.2.1, va_up a.2.2 σ.2.2.2.2.1 q), σ1)) hF hw ⟨?_, rfl⟩ (Nat.le_refl _) (by show 0 + N ≤ 6; omega) dX1_gauge_29
  have e2 : σ1 = (f1_gauge σ v1 (nI N)).2 := by
    subst e1
    simp only [f1_gauge]
    rw [if_neg hg, if_neg h0, if_pos h6, hc]
  rw [e2]
  exact hp
theorem p1_gauge (σ : SX) (v1 v2 : Int32) : wp_X1_gauge_0 σ v1 v2 (fun σq v1' v2' => σq = σ ∧ v1' = v1 ∧ v2' = v2 ∧ ¬ f1_isGauge v1 = 0 ∧ ¬ v2 < 0 ∧ v2 ≤ 6) (fun r u => r = (f1_gauge σ v1 v2).1 ∧ u = (f1_gauge σ v1 v2).2) := by
  intro r1 e1; subst e1
  refine ⟨fun c => ?_, fun c => ⟨fun c2 => ?_, fun c2 => ⟨fun c3 => ⟨rfl, rfl, rfl, c, c2, c3⟩, fun c3 => ?_⟩⟩⟩
  · simp only [f1_gauge]; rw [if_pos c]; exact ⟨rfl, rfl⟩
  · simp only [f1_gauge]; rw [if_neg c, if_pos c2]; exact ⟨rfl, rfl⟩
  · simp only [f1_gauge]; rw [if_neg c, if_neg c2, if_neg c3]; exact ⟨rfl, rfl⟩
theorem c1_gauge (l : Launch) (G : Gm) (a : AX) (σ : SX) (v1 v2 : Int32) (h : q1_gauge σ v1 v2) : ctI l yX1_gauge cX1_gauge 3 .int { frames := 1, cells := 1, slots := 6, locals := 20 } G [.ref (a.1 13), .int v1, .int v2] (wX G a σ) (fun (r : Int32) (u : AX × SX) => (r = (f1_gauge σ v1 v2).1 ∧ u.2 = (f1_gauge σ v1 v2).2) ∧ u.1.1 = a.1) (fun u : AX × SX => wX G u.1 u.2) := by
  refine en_I (by decide +kernel) (Nat.le_of_ble_eq_true rfl) (fun p e s m below meth c A ls hF hw hl => ?_)
  refine k_X1_gauge_0 (post := fun r u => r = (f1_gauge σ v1 v2).1 ∧ u = (f1_gauge σ v1 v2).2) hF ?_ σ v1 v2 hw hl (p1_gauge σ v1 v2)
  intro σq v1' v2' H locs ls hI hw' hl'
  obtain ⟨rfl, rfl, rfl, c1, c2, c3⟩ := hI
  refine k_X1_gauge_19 (post := fun r u => r = (f1_gauge σq v1' v2').1 ∧ u = (f1_gauge σq v1' v2').2) hF σq v1' v2' h c1 c2 c3 ⟨?_, rfl⟩ hw' hl'
  simp only [f1_gauge]; rw [if_neg c1, if_neg c2, if_pos c3]

def wp_X1_deed_116 (σ : SX) (v1 : Int32) (v2 : Int32) (v3 : Int32) (v4 : Int32) (v5 : Int32) (o6 : Option Nat) (o7 : Option Nat) (g8 : Option Nat) (vs0 : Int32) (K118 : SX → Int32 → Int32 → Int32 → Int32 → Int32 → Option Nat → Option Nat → Option Nat → Int32 → Prop) (post : Int32 → SX → Prop) : Prop :=
  K118 σ v1 v2 v3 v4 v5 o6 o7 g8 vs0
set_option maxHeartbeats 4000000 in
set_option maxRecDepth 100000 in
theorem k_X1_deed_116 {l : Launch} {p : Program} {e : Env} {s : State} {m : MethodId} {below : List Frame} {meth : Method} {c : Code} {args : Array Value} {A : Nat → Prop} {G : Gm} {a : AX}  (hF : fx p s m args meth c cX1_deed 10 yX1_deed.cls kX1_deed (some (.int))) {post : Int32 → SX → Prop} {K118 : SX → Int32 → Int32 → Int32 → Int32 → Int32 → Option Nat → Option Nat → Option Nat → Int32 → Prop} (hK118 : ∀ (σ : SX) (v1 : Int32) (v2 : Int32) (v3 : Int32) (v4 : Int32) (v5 : Int32) (o6 : Option Nat) (o7 : Option Nat) (g8 : Option Nat) (v9 : Int32) {H : Heap} {locs : List Loc} {ls : Array Slot}, K118 σ v1 v2 v3 v4 v5 o6 o7 g8 v9 → wb G A s (wX G a σ) H locs → lv_has ls 10 [(0, .ref (a.1 13)), (1, .int v1), (2, .int v2), (3, .int v3), (4, .int v4), (5, .int v5), (6, va_rf (Option.map a.2.1 o6)), (7, va_rf (Option.map a.2.1 o7)), (8, va_rf (Option.map a.2.2 g8)), (9, .int v9)] → W p l e ({ frames := 3, cells := 1, slots := 8, locals := 70 } : Room) s m args below meth c H locs 0 0 (MQ below (va_Qi (fun (r : Int32) (u : AX × SX) => post r u.2 ∧ u.1.1 = a.1) (po G A (fun u : AX × SX => wX G u.1 u.2)) A) args s 1 8 A) (F0 m 118 ls [])) (σ : SX) (v1 : Int32) (v2 : Int32) (v3 : Int32) (v4 : Int32) (v5 : Int32) (o6 : Option Nat) (o7 : Option Nat) (g8 : Option Nat) (vs0 : Int32) {H : Heap} {locs : List Loc} {ls : Array Slot} (hw : wb G A s (wX G a σ) H locs) (hl : lv_has ls 10 [(0, .ref (a.1 13)), (1, .int v1), (2, .int v2), (3, .int v3), (4, .int v4), (5, .int v5), (6, va_rf (Option.map a.2.1 o6)), (7, va_rf (Option.map a.2.1 o7)), (8, va_rf (Option.map a.2.2 g8))]) (hok : wp_X1_deed_116 σ v1 v2 v3 v4 v5 o6 o7 g8 vs0 K118 post) :
    W p l e ({ frames := 3, cells := 1, slots := 8, locals := 70 } : Room) s m args below meth c H locs 0 0 (MQ below (va_Qi (fun (r : Int32) (u : AX × SX) => post r u.2 ∧ u.1.1 = a.1) (po G A (fun u : AX × SX => wX G u.1 u.2)) A) args s 1 8 A) (F0 m 116 ls [.int vs0]) := by
  unfold wp_X1_deed_116 at hok
  refine lv_istore (lv' := [(9, .int vs0), (0, .ref (a.1 13)), (1, .int v1), (2, .int v2), (3, .int v3), (4, .int v4), (5, .int v5), (6, va_rf (Option.map a.2.1 o6)), (7, va_rf (Option.map a.2.1 o7)), (8, va_rf (Option.map a.2.2 g8))]) hF.x hF.b dX1_deed_116 hl (by decide) (by first | rfl | (simp [cat_rf]; done) | (simp [cat_rf]; decide)) (fun ls hl => ?_)
  exact hK118 σ v1 v2 v3 v4 v5 o6 o7 g8 vs0 hok hw (lv_sub hl [1, 2, 3, 4, 5, 6, 7, 8, 9, 0] rfl)
def wp_X1_deed_99 (σ : SX) (v1 : Int32) (v2 : Int32) (v3 : Int32) (v4 : Int32) (v5 : Int32) (o6 : Option Nat) (o7 : Option Nat) (gs0 : Option Nat) (K118 : SX → Int32 → Int32 → Int32 → Int32 → Int32 → Option Nat → Option Nat → Option Nat → Int32 → Prop) (post : Int32 → SX → Prop) : Prop :=
  (¬ v2 = 6 → wp_X1_deed_116 σ v1 v2 v3 v4 v5 o6 o7 gs0 v3 K118 post) ∧ (v2 = 6 → q1_heldBy σ v3 ∧ ∀ (r2 : Int32) (σ3 : SX), r2 = (f1_heldBy σ v3).1 → σ3 = (f1_heldBy σ v3).2 → wp_X1_deed_116 σ3 v1 v2 v3 v4 v5 o6 o7 gs0 r2 K118 post)
set_option maxHeartbeats 4000000 in
set_option maxRecDepth 100000 in
theorem k_X1_deed_99 {l : Launch} {p : Program} {e : Env} {s : State} {m : MethodId} {below : List Frame} {meth : Method} {c : Code} {args : Array Value} {A : Nat → Prop} {G : Gm} {a : AX}  (hF : fx p s m args meth c cX1_deed 10 yX1_deed.cls kX1_deed (some (.int))) {post : Int32 → SX → Prop} {K118 : SX → Int32 → Int32 → Int32 → Int32 → Int32 → Option Nat → Option Nat → Option Nat → Int32 → Prop} (hK118 : ∀ (σ : SX) (v1 : Int32) (v2 : Int32) (v3 : Int32) (v4 : Int32) (v5 : Int32) (o6 : Option Nat) (o7 : Option Nat) (g8 : Option Nat) (v9 : Int32) {H : Heap} {locs : List Loc} {ls : Array Slot}, K118 σ v1 v2 v3 v4 v5 o6 o7 g8 v9 → wb G A s (wX G a σ) H locs → lv_has ls 10 [(0, .ref (a.1 13)), (1, .int v1), (2, .int v2), (3, .int v3), (4, .int v4), (5, .int v5), (6, va_rf (Option.map a.2.1 o6)), (7, va_rf (Option.map a.2.1 o7)), (8, va_rf (Option.map a.2.2 g8)), (9, .int v9)] → W p l e ({ frames := 3, cells := 1, slots := 8, locals := 70 } : Room) s m args below meth c H locs 0 0 (MQ below (va_Qi (fun (r : Int32) (u : AX × SX) => post r u.2 ∧ u.1.1 = a.1) (po G A (fun u : AX × SX => wX G u.1 u.2)) A) args s 1 8 A) (F0 m 118 ls [])) (σ : SX) (v1 : Int32) (v2 : Int32) (v3 : Int32) (v4 : Int32) (v5 : Int32) (o6 : Option Nat) (o7 : Option Nat) (gs0 : Option Nat) {H : Heap} {locs : List Loc} {ls : Array Slot} (hw : wb G A s (wX G a σ) H locs) (hl : lv_has ls 10 [(0, .ref (a.1 13)), (1, .int v1), (2, .int v2), (3, .int v3), (4, .int v4), (5, .int v5), (6, va_rf (Option.map a.2.1 o6)), (7, va_rf (Option.map a.2.1 o7))]) (hok : wp_X1_deed_99 σ v1 v2 v3 v4 v5 o6 o7 gs0 K118 post) :
    W p l e ({ frames := 3, cells := 1, slots := 8, locals := 70 } : Room) s m args below meth c H locs 0 0 (MQ below (va_Qi (fun (r : Int32) (u : AX × SX) => post r u.2 ∧ u.1.1 = a.1) (po G A (fun u : AX × SX => wX G u.1 u.2)) A) args s 1 8 A) (F0 m 99 ls [va_rf (Option.map a.2.2 gs0)]) := by
  unfold wp_X1_deed_99 at hok
  refine lq_astore (lv' := [(8, va_rf (Option.map a.2.2 gs0)), (0, .ref (a.1 13)), (1, .int v1), (2, .int v2), (3, .int v3), (4, .int v4), (5, .int v5), (6, va_rf (Option.map a.2.1 o6)), (7, va_rf (Option.map a.2.1 o7))]) hF dX1_deed_99 hl (by decide) (by first | rfl | (simp [cat_rf]; done) | (simp [cat_rf]; decide)) (fun ls hl => ?_)
  refine lv_iload_n hF.x hF.b dX1_deed_101 rfl (lv_at hl 3 rfl) ?_
  refine lv_bipush (v := 6) hF.x hF.b dX1_deed_102 (by decide) ?_
  refine lv_icmp_ne (tgt := 115) hF.x hF.b dX1_deed_104 (by decide) (fun c1 => ?_) (fun c1 => ?_)
  · replace hok := hok.1 c1
    refine lv_iload_n hF.x hF.b dX1_deed_115 rfl (lv_at hl 4 rfl) ?_
    exact k_X1_deed_116  hF hK118 σ v1 v2 v3 v4 v5 o6 o7 gs0 v3 hw (lv_sub hl [1, 2, 3, 4, 5, 6, 7, 8, 0] rfl) hok
  · replace hok := hok.2 c1
    refine lv_aload_n hF.x hF.b dX1_deed_107 rfl (lv_at hl 1 rfl) ?_
    refine lv_iload_n hF.x hF.b dX1_deed_108 rfl (lv_at hl 4 rfl) ?_
    refine ca_I hF hw (c1_heldBy l G a σ v3 hok.1) wv_X1_55 (q0 := 0) rfl rfl rfl ⟨nd_X1.1, nd_X1.2, pd_X1_heldBy⟩ ⟨by show 1 + 1 ≤ 3; omega, by show 8 + (2 + 11) + 20 ≤ 70; omega⟩ ⟨Nat.zero_le _, Nat.zero_le _⟩ hl.1 rfl (by first | exact Nat.le_of_ble_eq_true rfl | simp [cat_rf, Value.category]) dX1_deed_109 (fun r2 σ3 H locs hp hw => ?_)
    obtain ⟨er2, eσ3⟩ := hp
    replace hok := hok.2 r2 σ3 er2 eσ3
    refine lv_goto (tgt := 116) hF.x hF.b dX1_deed_112 (by decide) ?_
    exact k_X1_deed_116  hF hK118 σ3 v1 v2 v3 v4 v5 o6 o7 gs0 r2 hw (lv_sub hl [1, 2, 3, 4, 5, 6, 7, 8, 0] rfl) hok
def wp_X1_deed_85 (σ : SX) (v1 : Int32) (v2 : Int32) (v3 : Int32) (v4 : Int32) (v5 : Int32) (o6 : Option Nat) (o7 : Option Nat) (K118 : SX → Int32 → Int32 → Int32 → Int32 → Int32 → Option Nat → Option Nat → Option Nat → Int32 → Prop) (post : Int32 → SX → Prop) : Prop :=
  (¬ v2 = 4 → wp_X1_deed_99 σ v1 v2 v3 v4 v5 o6 o7 none K118 post) ∧ (v2 = 4 → q1_gaugeNow σ v3 ∧ ∀ (o2 : Option Nat) (σ3 : SX), o2 = (f1_gaugeNow σ v3).1 → σ3 = (f1_gaugeNow σ v3).2 → wp_X1_deed_99 σ3 v1 v2 v3 v4 v5 o6 o7 o2 K118 post)
set_option maxHeartbeats 4000000 in
set_option maxRecDepth 100000 in
theorem k_X1_deed_85 {l : Launch} {p : Program} {e : Env} {s : State} {m : MethodId} {below : List Frame} {meth : Method} {c : Code} {args : Array Value} {A : Nat → Prop} {G : Gm} {a : AX}  (hF : fx p s m args meth c cX1_deed 10 yX1_deed.cls kX1_deed (some (.int))) {post : Int32 → SX → Prop} {K118 : SX → Int32 → Int32 → Int32 → Int32 → Int32 → Option Nat → Option Nat → Option Nat → Int32 → Prop} (hK118 : ∀ (σ : SX) (v1 : Int32) (v2 : Int32) (v3 : Int32) (v4 : Int32) (v5 : Int32) (o6 : Option Nat) (o7 : Option Nat) (g8 : Option Nat) (v9 : Int32) {H : Heap} {locs : List Loc} {ls : Array Slot}, K118 σ v1 v2 v3 v4 v5 o6 o7 g8 v9 → wb G A s (wX G a σ) H locs → lv_has ls 10 [(0, .ref (a.1 13)), (1, .int v1), (2, .int v2), (3, .int v3), (4, .int v4), (5, .int v5), (6, va_rf (Option.map a.2.1 o6)), (7, va_rf (Option.map a.2.1 o7)), (8, va_rf (Option.map a.2.2 g8)), (9, .int v9)] → W p l e ({ frames := 3, cells := 1, slots := 8, locals := 70 } : Room) s m args below meth c H locs 0 0 (MQ below (va_Qi (fun (r : Int32) (u : AX × SX) => post r u.2 ∧ u.1.1 = a.1) (po G A (fun u : AX × SX => wX G u.1 u.2)) A) args s 1 8 A) (F0 m 118 ls [])) (σ : SX) (v1 : Int32) (v2 : Int32) (v3 : Int32) (v4 : Int32) (v5 : Int32) (o6 : Option Nat) (o7 : Option Nat) {H : Heap} {locs : List Loc} {ls : Array Slot} (hw : wb G A s (wX G a σ) H locs) (hl : lv_has ls 10 [(0, .ref (a.1 13)), (1, .int v1), (2, .int v2), (3, .int v3), (4, .int v4), (5, .int v5), (6, va_rf (Option.map a.2.1 o6)), (7, va_rf (Option.map a.2.1 o7))]) (hok : wp_X1_deed_85 σ v1 v2 v3 v4 v5 o6 o7 K118 post) :
    W p l e ({ frames := 3, cells := 1, slots := 8, locals := 70 } : Room) s m args below meth c H locs 0 0 (MQ below (va_Qi (fun (r : Int32) (u : AX × SX) => post r u.2 ∧ u.1.1 = a.1) (po G A (fun u : AX × SX => wX G u.1 u.2)) A) args s 1 8 A) (F0 m 85 ls []) := by
  unfold wp_X1_deed_85 at hok
  refine lv_iload_n hF.x hF.b dX1_deed_85 rfl (lv_at hl 2 rfl) ?_
  refine lv_iconst (v := 4) hF.x hF.b dX1_deed_86 (by decide) ?_
  refine lv_icmp_ne (tgt := 98) hF.x hF.b dX1_deed_87 (by decide) (fun c1 => ?_) (fun c1 => ?_)
  · replace hok := hok.1 c1
    refine lv_null hF.x hF.b dX1_deed_98 ?_
    exact k_X1_deed_99  hF hK118 σ v1 v2 v3 v4 v5 o6 o7 none hw (lv_sub hl [0, 1, 2, 3, 4, 5, 6, 7] rfl) hok
  · replace hok := hok.2 c1
    refine lv_aload_n hF.x hF.b dX1_deed_90 rfl (lv_at hl 0 rfl) ?_
    refine lv_iload_n hF.x hF.b dX1_deed_91 rfl (lv_at hl 3 rfl) ?_
    refine ca_Q hF hw (c1_gaugeNow l G a σ v3 hok.1) wv_X1_67 (q0 := 0) rfl rfl rfl ⟨nd_X1.1, nd_X1.2, pd_X1_gaugeNow⟩ ⟨by show 1 + 1 ≤ 3; omega, by show 8 + (2 + 11) + 20 ≤ 70; omega⟩ ⟨Nat.zero_le _, Nat.zero_le _⟩ hl.1 rfl (by first | exact Nat.le_of_ble_eq_true rfl | simp [cat_rf, Value.category]) dX1_deed_92 (fun rq σ3 H locs hp hw => ?_)
    obtain ⟨o2, hr, eo2, eσ3⟩ := hp
    subst hr
    replace hok := hok.2 o2 σ3 eo2 eσ3
    refine lv_goto (tgt := 99) hF.x hF.b dX1_deed_95 (by decide) ?_
    exact k_X1_deed_99  hF hK118 σ3 v1 v2 v3 v4 v5 o6 o7 o2 hw (lv_sub hl [0, 1, 2, 3, 4, 5, 6, 7] rfl) hok
def wp_X1_deed_70 (σ : SX) (v1 : Int32) (v2 : Int32) (v3 : Int32) (v4 : Int32) (v5 : Int32) (o6 : Option Nat) (o7 : Option Nat) (K118 : SX → Int32 → Int32 → Int32 → Int32 → Int32 → Option Nat → Option Nat → Option Nat → Int32 → Prop) (post : Int32 → SX → Prop) : Prop :=
  ∀ r1 : Int32, r1 = f1_holdsSecond v2 → (r1 = 0 → wp_X1_deed_85 σ v1 v2 v3 v4 v5 o6 o7 K118 post) ∧ (¬ r1 = 0 → (o7 = none → post ((-2)) σ) ∧ (∀ d3 : Nat, o7 = some d3 → wp_X1_deed_85 σ v1 v2 v3 v4 v5 o6 (some d3) K118 post))
set_option maxHeartbeats 4000000 in
set_option maxRecDepth 100000 in
theorem k_X1_deed_70 {l : Launch} {p : Program} {e : Env} {s : State} {m : MethodId} {below : List Frame} {meth : Method} {c : Code} {args : Array Value} {A : Nat → Prop} {G : Gm} {a : AX}  (hF : fx p s m args meth c cX1_deed 10 yX1_deed.cls kX1_deed (some (.int))) {post : Int32 → SX → Prop} {K118 : SX → Int32 → Int32 → Int32 → Int32 → Int32 → Option Nat → Option Nat → Option Nat → Int32 → Prop} (hK118 : ∀ (σ : SX) (v1 : Int32) (v2 : Int32) (v3 : Int32) (v4 : Int32) (v5 : Int32) (o6 : Option Nat) (o7 : Option Nat) (g8 : Option Nat) (v9 : Int32) {H : Heap} {locs : List Loc} {ls : Array Slot}, K118 σ v1 v2 v3 v4 v5 o6 o7 g8 v9 → wb G A s (wX G a σ) H locs → lv_has ls 10 [(0, .ref (a.1 13)), (1, .int v1), (2, .int v2), (3, .int v3), (4, .int v4), (5, .int v5), (6, va_rf (Option.map a.2.1 o6)), (7, va_rf (Option.map a.2.1 o7)), (8, va_rf (Option.map a.2.2 g8)), (9, .int v9)] → W p l e ({ frames := 3, cells := 1, slots := 8, locals := 70 } : Room) s m args below meth c H locs 0 0 (MQ below (va_Qi (fun (r : Int32) (u : AX × SX) => post r u.2 ∧ u.1.1 = a.1) (po G A (fun u : AX × SX => wX G u.1 u.2)) A) args s 1 8 A) (F0 m 118 ls [])) (σ : SX) (v1 : Int32) (v2 : Int32) (v3 : Int32) (v4 : Int32) (v5 : Int32) (o6 : Option Nat) (o7 : Option Nat) {H : Heap} {locs : List Loc} {ls : Array Slot} (hw : wb G A s (wX G a σ) H locs) (hl : lv_has ls 10 [(0, .ref (a.1 13)), (1, .int v1), (2, .int v2), (3, .int v3), (4, .int v4), (5, .int v5), (6, va_rf (Option.map a.2.1 o6)), (7, va_rf (Option.map a.2.1 o7))]) (hok : wp_X1_deed_70 σ v1 v2 v3 v4 v5 o6 o7 K118 post) :
    W p l e ({ frames := 3, cells := 1, slots := 8, locals := 70 } : Room) s m args below meth c H locs 0 0 (MQ below (va_Qi (fun (r : Int32) (u : AX × SX) => post r u.2 ∧ u.1.1 = a.1) (po G A (fun u : AX × SX => wX G u.1 u.2)) A) args s 1 8 A) (F0 m 70 ls []) := by
  unfold wp_X1_deed_70 at hok
  refine lv_iload_n hF.x hF.b dX1_deed_70 rfl (lv_at hl 2 rfl) ?_
  refine ca_S hF (c1_holdsSecond l v2) wv_X1_89 ⟨rfl, nd_X1.1, nd_X1.2, pd_X1_holdsSecond⟩ ⟨rfl, rfl⟩ ⟨by show 0 + 1 ≤ 3; omega, by show 8 + (1 + 11) + 0 ≤ 70; omega⟩ ⟨Nat.zero_le _, Nat.zero_le _⟩ hl.1 rfl (by first | exact Nat.le_of_ble_eq_true rfl | simp [cat_rf, Value.category]) dX1_deed_71 (fun r1 er1 => ?_)
  replace hok := hok r1 er1
  refine lv_if_eq (tgt := 85) hF.x hF.b dX1_deed_74 (by decide) (fun c2 => ?_) (fun c2 => ?_)
  · replace hok := hok.1 c2
    exact k_X1_deed_85  hF hK118 σ v1 v2 v3 v4 v5 o6 o7 hw (lv_sub hl [0, 1, 2, 3, 4, 5, 6, 7] rfl) hok
  · replace hok := hok.2 c2
    refine lq_aload hF dX1_deed_77 (lv_at hl 7 rfl) ?_
    refine lm_ifnonnull (o := o7) (tgt := 85) hF dX1_deed_79 (by decide) (fun d3 ed3 => ?_) (fun ed3 => ?_)
    · replace hok := hok.2 d3 ed3
      subst ed3
      have hl : lv_has ls 10 [(0, .ref (a.1 13)), (1, .int v1), (2, .int v2), (3, .int v3), (4, .int v4), (5, .int v5), (6, va_rf (Option.map a.2.1 o6)), (7, .ref (a.2.1 d3))] := hl
      exact k_X1_deed_85  hF hK118 σ v1 v2 v3 v4 v5 o6 (some d3) hw (lv_sub hl [0, 1, 2, 3, 4, 5, 6, 7] rfl) hok
    · replace hok := hok.1 ed3
      subst ed3
      have hl : lv_has ls 10 [(0, .ref (a.1 13)), (1, .int v1), (2, .int v2), (3, .int v3), (4, .int v4), (5, .int v5), (6, va_rf (Option.map a.2.1 o6)), (7, .null)] := hl
      refine lv_bipush (v := (-2)) hF.x hF.b dX1_deed_82 (by decide) ?_
      exact rt_I (wf := fun u : AX × SX => wX G u.1 u.2) (u := (a, σ)) hF hw ⟨hok, rfl⟩ (Nat.zero_le _) (Nat.zero_le _) dX1_deed_84
def wp_X1_deed_56 (σ : SX) (v1 : Int32) (v2 : Int32) (v3 : Int32) (v4 : Int32) (v5 : Int32) (o6 : Option Nat) (os0 : Option Nat) (K118 : SX → Int32 → Int32 → Int32 → Int32 → Int32 → Option Nat → Option Nat → Option Nat → Int32 → Prop) (post : Int32 → SX → Prop) : Prop :=
  ∀ r1 : Int32, r1 = f1_holdsFirst v2 → (r1 = 0 → wp_X1_deed_70 σ v1 v2 v3 v4 v5 o6 os0 K118 post) ∧ (¬ r1 = 0 → (o6 = none → post ((-2)) σ) ∧ (∀ d3 : Nat, o6 = some d3 → wp_X1_deed_70 σ v1 v2 v3 v4 v5 (some d3) os0 K118 post))
set_option maxHeartbeats 4000000 in
set_option maxRecDepth 100000 in
theorem k_X1_deed_56 {l : Launch} {p : Program} {e : Env} {s : State} {m : MethodId} {below : List Frame} {meth : Method} {c : Code} {args : Array Value} {A : Nat → Prop} {G : Gm} {a : AX}  (hF : fx p s m args meth c cX1_deed 10 yX1_deed.cls kX1_deed (some (.int))) {post : Int32 → SX → Prop} {K118 : SX → Int32 → Int32 → Int32 → Int32 → Int32 → Option Nat → Option Nat → Option Nat → Int32 → Prop} (hK118 : ∀ (σ : SX) (v1 : Int32) (v2 : Int32) (v3 : Int32) (v4 : Int32) (v5 : Int32) (o6 : Option Nat) (o7 : Option Nat) (g8 : Option Nat) (v9 : Int32) {H : Heap} {locs : List Loc} {ls : Array Slot}, K118 σ v1 v2 v3 v4 v5 o6 o7 g8 v9 → wb G A s (wX G a σ) H locs → lv_has ls 10 [(0, .ref (a.1 13)), (1, .int v1), (2, .int v2), (3, .int v3), (4, .int v4), (5, .int v5), (6, va_rf (Option.map a.2.1 o6)), (7, va_rf (Option.map a.2.1 o7)), (8, va_rf (Option.map a.2.2 g8)), (9, .int v9)] → W p l e ({ frames := 3, cells := 1, slots := 8, locals := 70 } : Room) s m args below meth c H locs 0 0 (MQ below (va_Qi (fun (r : Int32) (u : AX × SX) => post r u.2 ∧ u.1.1 = a.1) (po G A (fun u : AX × SX => wX G u.1 u.2)) A) args s 1 8 A) (F0 m 118 ls [])) (σ : SX) (v1 : Int32) (v2 : Int32) (v3 : Int32) (v4 : Int32) (v5 : Int32) (o6 : Option Nat) (os0 : Option Nat) {H : Heap} {locs : List Loc} {ls : Array Slot} (hw : wb G A s (wX G a σ) H locs) (hl : lv_has ls 10 [(0, .ref (a.1 13)), (1, .int v1), (2, .int v2), (3, .int v3), (4, .int v4), (5, .int v5), (6, va_rf (Option.map a.2.1 o6))]) (hok : wp_X1_deed_56 σ v1 v2 v3 v4 v5 o6 os0 K118 post) :
    W p l e ({ frames := 3, cells := 1, slots := 8, locals := 70 } : Room) s m args below meth c H locs 0 0 (MQ below (va_Qi (fun (r : Int32) (u : AX × SX) => post r u.2 ∧ u.1.1 = a.1) (po G A (fun u : AX × SX => wX G u.1 u.2)) A) args s 1 8 A) (F0 m 56 ls [va_rf (Option.map a.2.1 os0)]) := by
  unfold wp_X1_deed_56 at hok
  refine lq_astore (lv' := [(7, va_rf (Option.map a.2.1 os0)), (0, .ref (a.1 13)), (1, .int v1), (2, .int v2), (3, .int v3), (4, .int v4), (5, .int v5), (6, va_rf (Option.map a.2.1 o6))]) hF dX1_deed_56 hl (by decide) (by first | rfl | (simp [cat_rf]; done) | (simp [cat_rf]; decide)) (fun ls hl => ?_)
  refine lv_iload_n hF.x hF.b dX1_deed_58 rfl (lv_at hl 3 rfl) ?_
  refine ca_S hF (c1_holdsFirst l v2) wv_X1_82 ⟨rfl, nd_X1.1, nd_X1.2, pd_X1_holdsFirst⟩ ⟨rfl, rfl⟩ ⟨by show 0 + 1 ≤ 3; omega, by show 8 + (1 + 11) + 0 ≤ 70; omega⟩ ⟨Nat.zero_le _, Nat.zero_le _⟩ hl.1 rfl (by first | exact Nat.le_of_ble_eq_true rfl | simp [cat_rf, Value.category]) dX1_deed_59 (fun r1 er1 => ?_)
  replace hok := hok r1 er1
  refine lv_if_eq (tgt := 70) hF.x hF.b dX1_deed_62 (by decide) (fun c2 => ?_) (fun c2 => ?_)
  · replace hok := hok.1 c2
    exact k_X1_deed_70  hF hK118 σ v1 v2 v3 v4 v5 o6 os0 hw (lv_sub hl [1, 2, 3, 4, 5, 6, 7, 0] rfl) hok
  · replace hok := hok.2 c2
    refine lq_aload hF dX1_deed_65 (lv_at hl 7 rfl) ?_
    refine lm_ifnull (o := o6) (tgt := 82) hF dX1_deed_67 (by decide) (fun ed3 => ?_) (fun d3 ed3 => ?_)
    · replace hok := hok.1 ed3
      subst ed3
      have hl : lv_has ls 10 [(7, va_rf (Option.map a.2.1 os0)), (0, .ref (a.1 13)), (1, .int v1), (2, .int v2), (3, .int v3), (4, .int v4), (5, .int v5), (6, .null)] := hl
      refine lv_bipush (v := (-2)) hF.x hF.b dX1_deed_82 (by decide) ?_
      exact rt_I (wf := fun u : AX × SX => wX G u.1 u.2) (u := (a, σ)) hF hw ⟨hok, rfl⟩ (Nat.zero_le _) (Nat.zero_le _) dX1_deed_84
    · replace hok := hok.2 d3 ed3
      subst ed3
      have hl : lv_has ls 10 [(7, va_rf (Option.map a.2.1 os0)), (0, .ref (a.1 13)), (1, .int v1), (2, .int v2), (3, .int v3), (4, .int v4), (5, .int v5), (6, .ref (a.2.1 d3))] := hl
      exact k_X1_deed_70  hF hK118 σ v1 v2 v3 v4 v5 (some d3) os0 hw (lv_sub hl [1, 2, 3, 4, 5, 6, 7, 0] rfl) hok
def wp_X1_deed_37 (σ : SX) (v1 : Int32) (v2 : Int32) (v3 : Int32) (v4 : Int32) (v5 : Int32) (os0 : Option Nat) (K118 : SX → Int32 → Int32 → Int32 → Int32 → Int32 → Option Nat → Option Nat → Option Nat → Int32 → Prop) (post : Int32 → SX → Prop) : Prop :=
  ∀ r1 : Int32, r1 = f1_holdsSecond v2 → (r1 = 0 → wp_X1_deed_56 σ v1 v2 v3 v4 v5 os0 none K118 post) ∧ (¬ r1 = 0 → q1_inSlot σ v4 ∧ ∀ (o3 : Option Nat) (σ4 : SX), o3 = (f1_inSlot σ v4).1 → σ4 = (f1_inSlot σ v4).2 → wp_X1_deed_56 σ4 v1 v2 v3 v4 v5 os0 o3 K118 post)
set_option maxHeartbeats 4000000 in
set_option maxRecDepth 100000 in
theorem k_X1_deed_37 {l : Launch} {p : Program} {e : Env} {s : State} {m : MethodId} {below : List Frame} {meth : Method} {c : Code} {args : Array Value} {A : Nat → Prop} {G : Gm} {a : AX}  (hF : fx p s m args meth c cX1_deed 10 yX1_deed.cls kX1_deed (some (.int))) {post : Int32 → SX → Prop} {K118 : SX → Int32 → Int32 → Int32 → Int32 → Int32 → Option Nat → Option Nat → Option Nat → Int32 → Prop} (hK118 : ∀ (σ : SX) (v1 : Int32) (v2 : Int32) (v3 : Int32) (v4 : Int32) (v5 : Int32) (o6 : Option Nat) (o7 : Option Nat) (g8 : Option Nat) (v9 : Int32) {H : Heap} {locs : List Loc} {ls : Array Slot}, K118 σ v1 v2 v3 v4 v5 o6 o7 g8 v9 → wb G A s (wX G a σ) H locs → lv_has ls 10 [(0, .ref (a.1 13)), (1, .int v1), (2, .int v2), (3, .int v3), (4, .int v4), (5, .int v5), (6, va_rf (Option.map a.2.1 o6)), (7, va_rf (Option.map a.2.1 o7)), (8, va_rf (Option.map a.2.2 g8)), (9, .int v9)] → W p l e ({ frames := 3, cells := 1, slots := 8, locals := 70 } : Room) s m args below meth c H locs 0 0 (MQ below (va_Qi (fun (r : Int32) (u : AX × SX) => post r u.2 ∧ u.1.1 = a.1) (po G A (fun u : AX × SX => wX G u.1 u.2)) A) args s 1 8 A) (F0 m 118 ls [])) (σ : SX) (v1 : Int32) (v2 : Int32) (v3 : Int32) (v4 : Int32) (v5 : Int32) (os0 : Option Nat) {H : Heap} {locs : List Loc} {ls : Array Slot} (hw : wb G A s (wX G a σ) H locs) (hl : lv_has ls 10 [(0, .ref (a.1 13)), (1, .int v1), (2, .int v2), (3, .int v3), (4, .int v4), (5, .int v5)]) (hok : wp_X1_deed_37 σ v1 v2 v3 v4 v5 os0 K118 post) :
    W p l e ({ frames := 3, cells := 1, slots := 8, locals := 70 } : Room) s m args below meth c H locs 0 0 (MQ below (va_Qi (fun (r : Int32) (u : AX × SX) => post r u.2 ∧ u.1.1 = a.1) (po G A (fun u : AX × SX => wX G u.1 u.2)) A) args s 1 8 A) (F0 m 37 ls [va_rf (Option.map a.2.1 os0)]) := by
  unfold wp_X1_deed_37 at hok
  refine lq_astore (lv' := [(6, va_rf (Option.map a.2.1 os0)), (0, .ref (a.1 13)), (1, .int v1), (2, .int v2), (3, .int v3), (4, .int v4), (5, .int v5)]) hF dX1_deed_37 hl (by decide) (by first | rfl | (simp [cat_rf]; done) | (simp [cat_rf]; decide)) (fun ls hl => ?_)
  refine lv_iload_n hF.x hF.b dX1_deed_39 rfl (lv_at hl 3 rfl) ?_
  refine ca_S hF (c1_holdsSecond l v2) wv_X1_89 ⟨rfl, nd_X1.1, nd_X1.2, pd_X1_holdsSecond⟩ ⟨rfl, rfl⟩ ⟨by show 0 + 1 ≤ 3; omega, by show 8 + (1 + 11) + 0 ≤ 70; omega⟩ ⟨Nat.zero_le _, Nat.zero_le _⟩ hl.1 rfl (by first | exact Nat.le_of_ble_eq_true rfl | simp [cat_rf, Value.category]) dX1_deed_40 (fun r1 er1 => ?_)
  replace hok := hok r1 er1
  refine lv_if_eq (tgt := 55) hF.x hF.b dX1_deed_43 (by decide) (fun c2 => ?_) (fun c2 => ?_)
  · replace hok := hok.1 c2
    refine lv_null hF.x hF.b dX1_deed_55 ?_
    exact k_X1_deed_56  hF hK118 σ v1 v2 v3 v4 v5 os0 none hw (lv_sub hl [1, 2, 3, 4, 5, 6, 0] rfl) hok
  · replace hok := hok.2 c2
    refine lv_aload_n hF.x hF.b dX1_deed_46 rfl (lv_at hl 1 rfl) ?_
    refine lv_iload hF.x hF.b dX1_deed_47 (lv_at hl 5 rfl) ?_
    refine ca_Q hF hw (c1_inSlot l G a σ v4 hok.1) wv_X1_85 (q0 := 0) rfl rfl rfl ⟨nd_X1.1, nd_X1.2, pd_X1_inSlot⟩ ⟨by show 1 + 1 ≤ 3; omega, by show 8 + (2 + 11) + 20 ≤ 70; omega⟩ ⟨Nat.zero_le _, Nat.zero_le _⟩ hl.1 rfl (by first | exact Nat.le_of_ble_eq_true rfl | simp [cat_rf, Value.category]) dX1_deed_49 (fun rq σ4 H locs hp hw => ?_)
    obtain ⟨o3, hr, eo3, eσ4⟩ := hp
    subst hr
    replace hok := hok.2 o3 σ4 eo3 eσ4
    refine lv_goto (tgt := 56) hF.x hF.b dX1_deed_52 (by decide) ?_
    exact k_X1_deed_56  hF hK118 σ4 v1 v2 v3 v4 v5 os0 o3 hw (lv_sub hl [1, 2, 3, 4, 5, 6, 0] rfl) hok
def wp_X1_deed_0 (σ : SX) (v1 : Int32) (v2 : Int32) (v3 : Int32) (v4 : Int32) (v5 : Int32) (K118 : SX → Int32 → Int32 → Int32 → Int32 → Int32 → Option Nat → Option Nat → Option Nat → Int32 → Prop) (post : Int32 → SX → Prop) : Prop :=
  ∀ r1 : Int32, r1 = f1_isSlot v1 → (r1 = 0 → post ((-1)) σ) ∧ (¬ r1 = 0 → ∀ r3 : Int32, r3 = f1_namesWhatThereIs v2 v3 v4 v5 → (¬ r3 = 0 → ∀ r5 : Int32, r5 = f1_holdsFirst v2 → (r5 = 0 → wp_X1_deed_37 σ v1 v2 v3 v4 v5 none K118 post) ∧ (¬ r5 = 0 → q1_inSlot σ v3 ∧ ∀ (o7 : Option Nat) (σ8 : SX), o7 = (f1_inSlot σ v3).1 → σ8 = (f1_inSlot σ v3).2 → wp_X1_deed_37 σ8 v1 v2 v3 v4 v5 o7 K118 post)) ∧ (r3 = 0 → post ((-1)) σ))
set_option maxHeartbeats 4000000 in
set_option maxRecDepth 100000 in
theorem k_X1_deed_0 {l : Launch} {p : Program} {e : Env} {s : State} {m : MethodId} {below : List Frame} {meth : Method} {c : Code} {args : Array Value} {A : Nat → Prop} {G : Gm} {a : AX}  (hF : fx p s m args meth c cX1_deed 10 yX1_deed.cls kX1_deed (some (.int))) {post : Int32 → SX → Prop} {K118 : SX → Int32 → Int32 → Int32 → Int32 → Int32 → Option Nat → Option Nat → Option Nat → Int32 → Prop} (hK118 : ∀ (σ : SX) (v1 : Int32) (v2 : Int32) (v3 : Int32) (v4 : Int32) (v5 : Int32) (o6 : Option Nat) (o7 : Option Nat) (g8 : Option Nat) (v9 : Int32) {H : Heap} {locs : List Loc} {ls : Array Slot}, K118 σ v1 v2 v3 v4 v5 o6 o7 g8 v9 → wb G A s (wX G a σ) H locs → lv_has ls 10 [(0, .ref (a.1 13)), (1, .int v1), (2, .int v2), (3, .int v3), (4, .int v4), (5, .int v5), (6, va_rf (Option.map a.2.1 o6)), (7, va_rf (Option.map a.2.1 o7)), (8, va_rf (Option.map a.2.2 g8)), (9, .int v9)] → W p l e ({ frames := 3, cells := 1, slots := 8, locals := 70 } : Room) s m args below meth c H locs 0 0 (MQ below (va_Qi (fun (r : Int32) (u : AX × SX) => post r u.2 ∧ u.1.1 = a.1) (po G A (fun u : AX × SX => wX G u.1 u.2)) A) args s 1 8 A) (F0 m 118 ls [])) (σ : SX) (v1 : Int32) (v2 : Int32) (v3 : Int32) (v4 : Int32) (v5 : Int32) {H : Heap} {locs : List Loc} {ls : Array Slot} (hw : wb G A s (wX G a σ) H locs) (hl : lv_has ls 10 [(0, .ref (a.1 13)), (1, .int v1), (2, .int v2), (3, .int v3), (4, .int v4), (5, .int v5)]) (hok : wp_X1_deed_0 σ v1 v2 v3 v4 v5 K118 post) :
    W p l e ({ frames := 3, cells := 1, slots := 8, locals := 70 } : Room) s m args below meth c H locs 0 0 (MQ below (va_Qi (fun (r : Int32) (u : AX × SX) => post r u.2 ∧ u.1.1 = a.1) (po G A (fun u : AX × SX => wX G u.1 u.2)) A) args s 1 8 A) (F0 m 0 ls []) := by
  unfold wp_X1_deed_0 at hok
  refine lv_iload_n hF.x hF.b dX1_deed_0 rfl (lv_at hl 1 rfl) ?_
  refine ca_S hF (c1_isSlot l v1) wv_X1_75 ⟨rfl, nd_X1.1, nd_X1.2, pd_X1_isSlot⟩ ⟨rfl, rfl⟩ ⟨by show 0 + 1 ≤ 3; omega, by show 8 + (1 + 11) + 0 ≤ 70; omega⟩ ⟨Nat.zero_le _, Nat.zero_le _⟩ hl.1 rfl (by first | exact Nat.le_of_ble_eq_true rfl | simp [cat_rf, Value.category]) dX1_deed_1 (fun r1 er1 => ?_)
  replace hok := hok r1 er1
  refine lv_if_eq (tgt := 19) hF.x hF.b dX1_deed_4 (by decide) (fun c2 => ?_) (fun c2 => ?_)
  · replace hok := hok.1 c2
    refine lv_iconst (v := (-1)) hF.x hF.b dX1_deed_19 (by decide) ?_
    exact rt_I (wf := fun u : AX × SX => wX G u.1 u.2) (u := (a, σ)) hF hw ⟨hok, rfl⟩ (Nat.zero_le _) (Nat.zero_le _) dX1_deed_20
  · replace hok := hok.2 c2
    refine lv_iload_n hF.x hF.b dX1_deed_7 rfl (lv_at hl 2 rfl) ?_
    refine lv_iload_n hF.x hF.b dX1_deed_8 rfl (lv_at hl 3 rfl) ?_
    refine lv_iload hF.x hF.b dX1_deed_9 (lv_at hl 4 rfl) ?_
    refine lv_iload hF.x hF.b dX1_deed_11 (lv_at hl 5 rfl) ?_
    refine ca_S hF (c1_namesWhatThereIs l v2 v3 v4 v5) wv_X1_78 ⟨rfl, nd_X1.1, nd_X1.2, pd_X1_namesWhatThereIs⟩ ⟨rfl, rfl⟩ ⟨by show 1 + 1 ≤ 3; omega, by show 8 + (4 + 11) + 20 ≤ 70; omega⟩ ⟨Nat.zero_le _, Nat.zero_le _⟩ hl.1 rfl (by first | exact Nat.le_of_ble_eq_true rfl | simp [cat_rf, Value.category]) dX1_deed_13 (fun r3 er3 => ?_)
    replace hok := hok r3 er3
    refine lv_if_ne (tgt := 21) hF.x hF.b dX1_deed_16 (by decide) (fun c4 => ?_) (fun c4 => ?_)
    · replace hok := hok.1 c4
      refine lv_iload_n hF.x hF.b dX1_deed_21 rfl (lv_at hl 2 rfl) ?_
      refine ca_S hF (c1_holdsFirst l v2) wv_X1_82 ⟨rfl, nd_X1.1, nd_X1.2, pd_X1_holdsFirst⟩ ⟨rfl, rfl⟩ ⟨by show 0 + 1 ≤ 3; omega, by show 8 + (1 + 11) + 0 ≤ 70; omega⟩ ⟨Nat.zero_le _, Nat.zero_le _⟩ hl.1 rfl (by first | exact Nat.le_of_ble_eq_true rfl | simp [cat_rf, Value.category]) dX1_deed_22 (fun r5 er5 => ?_)
      replace hok := hok r5 er5
      refine lv_if_eq (tgt := 36) hF.x hF.b dX1_deed_25 (by decide) (fun c6 => ?_) (fun c6 => ?_)
      · replace hok := hok.1 c6
        refine lv_null hF.x hF.b dX1_deed_36 ?_
        exact k_X1_deed_37  hF hK118 σ v1 v2 v3 v4 v5 none hw (lv_sub hl [0, 1, 2, 3, 4, 5] rfl) hok
      · replace hok := hok.2 c6
        refine lv_aload_n hF.x hF.b dX1_deed_28 rfl (lv_at hl 0 rfl) ?_
        refine lv_iload_n hF.x hF.b dX1_deed_29 rfl (lv_at hl 3 rfl) ?_
        refine ca_Q hF hw (c1_inSlot l G a σ v3 hok.1) wv_X1_85 (q0 := 0) rfl rfl rfl ⟨nd_X1.1, nd_X1.2, pd_X1_inSlot⟩ ⟨by show 1 + 1 ≤ 3; omega, by show 8 + (2 + 11) + 20 ≤ 70; omega⟩ ⟨Nat.zero_le _, Nat.zero_le _⟩ hl.1 rfl (by first | exact Nat.le_of_ble_eq_true rfl | simp [cat_rf, Value.category]) dX1_deed_30 (fun rq σ8 H locs hp hw => ?_)
        obtain ⟨o7, hr, eo7, eσ8⟩ := hp
        subst hr
        replace hok := hok.2 o7 σ8 eo7 eσ8
        refine lv_goto (tgt := 37) hF.x hF.b dX1_deed_33 (by decide) ?_
        exact k_X1_deed_37  hF hK118 σ8 v1 v2 v3 v4 v5 o7 hw (lv_sub hl [0, 1, 2, 3, 4, 5] rfl) hok
    · replace hok := hok.2 c4
      refine lv_iconst (v := (-1)) hF.x hF.b dX1_deed_19 (by decide) ?_
      exact rt_I (wf := fun u : AX × SX => wX G u.1 u.2) (u := (a, σ)) hF hw ⟨hok, rfl⟩ (Nat.zero_le _) (Nat.zero_le _) dX1_deed_20

set_option maxHeartbeats 4000000 in
set_option maxRecDepth 100000 in
theorem k_X1_deed_118 {l : Launch} {p : Program} {e : Env} {s : State} {m : MethodId} {below : List Frame} {meth : Method} {c : Code} {args : Array Value} {A : Nat → Prop} {G : Gm} {a : AX} (hF : fx p s m args meth c cX1_deed 10 yX1_deed.cls kX1_deed (some (.int))) {post : Int32 → SX → Prop} (σ : SX) (v1 v2 v3 v4 v5 : Int32) (o6 o7 g8 : Option Nat) (v9 : Int32) {H : Heap} {locs : List Loc} {ls : Array Slot} (hW : WFX σ) (hsl : ¬ f1_isSlot v1 = 0) (h6 : okO σ o6) (h7 : okO σ o7) (hp : post (σ.1 8 + 1) (sx_new σ v1 (mkD v2 v9 v4 v5 o6 o7 g8))) (hw : wb G A s (wX G a σ) H locs) (hl : lv_has ls 10 [(0, .ref (a.1 13)), (1, .int v1), (2, .int v2), (3, .int v3), (4, .int v4), (5, .int v5), (6, va_rf (Option.map a.2.1 o6)), (7, va_rf (Option.map a.2.1 o7)), (8, va_rf (Option.map a.2.2 g8)), (9, .int v9)]) :
    W p l e ({ frames := 3, cells := 1, slots := 8, locals := 70 } : Room) s m args below meth c H locs 0 0 (MQ below (va_Qi (fun (r : Int32) (u : AX × SX) => post r u.2 ∧ u.1.1 = a.1) (po G A (fun u : AX × SX => wX G u.1 u.2)) A) args s 1 8 A) (F0 m 118 ls []) := by
  have hnest : Cond.methodLinkNest RX1 92 yX0_init RX1 ∈ nestW := by unfold nestW; simp
  refine lv_aload_n hF.x hF.b dX1_deed_118 rfl (lv_at hl 0 rfl) ?_
  refine r_get hF hw 0 rfl rfl inlX1 2 (by decide) wf_X1_20 rfl dX1_deed_119 ?_
  refine lv_iload_n hF.x hF.b dX1_deed_122 rfl (lv_at hl 1 rfl) ?_
  refine r_new (ci := 0) (fs := [.int 0, .int 0, .int 0, .int 0, .null, .null, .null, .int 0]) hF hw rfl inlX0 tyX0 tyX0_ok wc_X1_18 wn_X0 wi_X0 (fun j hj => ?_) (by show 0 + 1 ≤ 1; decide) (by show 0 + 8 ≤ 8; decide) dX1_deed_123 (fun q H hw => ?_)
  · match j, hj with
    | 0, _ => rfl
    | 1, _ => rfl
    | 2, _ => rfl
    | 3, _ => rfl
    | 4, _ => rfl
    | 5, _ => rfl
    | 6, _ => rfl
    | 7, _ => rfl
    | j + 8, hj => omega
  refine lv_dup hF.x hF.b dX1_deed_126 rfl ?_
  refine lv_iload_n hF.x hF.b dX1_deed_127 rfl (lv_at hl 2 rfl) ?_
  refine lv_iload hF.x hF.b dX1_deed_128 (lv_at hl 9 rfl) ?_
  refine lv_iload hF.x hF.b dX1_deed_130 (lv_at hl 4 rfl) ?_
  refine lv_iload hF.x hF.b dX1_deed_132 (lv_at hl 5 rfl) ?_
  refine lq_aload hF dX1_deed_134 (lv_at hl 6 rfl) ?_
  refine lq_aload hF dX1_deed_136 (lv_at hl 7 rfl) ?_
  refine lq_aload hF dX1_deed_138 (lv_at hl 8 rfl) ?_
  refine ca_N (As := [.int v2, .int v9, .int v4, .int v5, va_rf (Option.map a.2.1 o6), va_rf (Option.map a.2.1 o7), va_rf (Option.map a.2.2 g8)]) (host := RX1) hF hw (c0_init l G (wX G a σ) q v2 v9 v4 v5 _ _ _) hnest wm_X0_init wi_X0 wk_X0_init rfl ⟨nd_X0.1, nd_X0.2, pd_X0_init⟩ ⟨by show 1 + 1 ≤ 3; decide, by show 8 + (8 + 11) + 12 ≤ 70; decide⟩ ⟨by show 0 + 1 + 0 ≤ 1; decide, by show 0 + 8 + 0 ≤ 8; decide⟩ hl.1 rfl (Nat.le_of_ble_eq_true rfl) dX1_deed_140 (fun u H locs hu hw => ?_)
  have hw := wb_newD hW q v2 v9 v4 v5 o6 o7 g8 h6 h7 hw
  refine rx_aastv (a := (a.1, va_up a.2.1 σ.2.2.2.1.1 q, a.2.2)) (o := some σ.2.2.2.1.1) (by simp [va_rf, va_up]) 2 20 hF hw (by decide) (in_S hsl) (fun d hd => by cases hd; exact Nat.lt_succ_self _) dX1_deed_143 (fun σ1 H locs e1 hw => ?_)
  refine lv_aload_n hF.x hF.b dX1_deed_144 rfl (lv_at hl 0 rfl) ?_
  refine lv_dup hF.x hF.b dX1_deed_145 rfl ?_
  refine r_get hF hw 0 rfl rfl inlX1 8 (by decide) wf_X1_40 rfl dX1_deed_146 ?_
  refine lv_iconst (v := 1) hF.x hF.b dX1_deed_149 (by decide) ?_
  refine lv_iadd hF.x hF.b dX1_deed_150 ?_
  refine lv_topi (fun x2 e2 => ?_)
  refine rx_put (a := (a.1, va_up a.2.1 σ.2.2.2.1.1 q, a.2.2)) (v := x2) 8 hF hw (by decide) wf_X1_40 dX1_deed_151 (fun σ2 H locs e3 hw => ?_)
  refine lv_aload_n hF.x hF.b dX1_deed_154 rfl (lv_at hl 0 rfl) ?_
  refine r_get hF hw 0 rfl rfl inlX1 8 (by decide) wf_X1_40 rfl dX1_deed_155 ?_
  refine rt_I (wf := fun u : AX × SX => wX G u.1 u.2) (u := ((a.1, va_up a.2.1 σ.2.2.2.1.1 q, a.2.2), σ2)) hF hw ⟨?_, rfl⟩ (Nat.le_refl _) (Nat.le_refl _) dX1_deed_158
  have e4 : σ2 = sx_new σ v1 (mkD v2 v9 v4 v5 o6 o7 g8) := by
    subst e3; subst e2; subst e1
    rfl
  have e5 : σ2.1 8 = σ.1 8 + 1 := by rw [e4]; show va_up σ.1 8 (σ.1 8 + 1) 8 = _; exact va_up_self _ _ _
  show post (σ2.1 8) σ2
  rw [e5, e4]
  exact hp

theorem p1_deed_85 {σ : SX} {v1 v2 v3 v4 v5 : Int32} {o6 o7 : Option Nat} {K : SX → Int32 → Int32 → Int32 → Int32 → Int32 → Option Nat → Option Nat → Option Nat → Int32 → Prop} {post : Int32 → SX → Prop} (h : K σ v1 v2 v3 v4 v5 o6 o7 (x_gauge σ v2 v3) (x_num σ v2 v3)) : wp_X1_deed_85 σ v1 v2 v3 v4 v5 o6 o7 K post := by
  have h99 : ∀ g, g = x_gauge σ v2 v3 → wp_X1_deed_99 σ v1 v2 v3 v4 v5 o6 o7 g K post := by
    intro g eg
    subst eg
    refine ⟨fun c => ?_, fun c => ⟨trivial, fun r2 σ3 e2 e3 => ?_⟩⟩
    · show K σ v1 v2 v3 v4 v5 o6 o7 (x_gauge σ v2 v3) v3
      rw [show x_num σ v2 v3 = v3 from if_neg c] at h
      exact h
    · obtain rfl : σ3 = σ := e3
      show K σ3 v1 v2 v3 v4 v5 o6 o7 (x_gauge σ3 v2 v3) r2
      rw [show x_num σ3 v2 v3 = r2 from by rw [e2]; exact if_pos c] at h
      exact h
  refine ⟨fun c => h99 none (if_neg c).symm, fun c => ⟨trivial, fun o2 σ3 e2 e3 => ?_⟩⟩
  obtain rfl : σ3 = σ := e3
  exact h99 o2 (by rw [e2]; exact (if_pos c).symm)
theorem p1_deed_56 {σ : SX} {v1 v2 v3 v4 v5 : Int32} {o6 o7 : Option Nat} {K : SX → Int32 → Int32 → Int32 → Int32 → Int32 → Option Nat → Option Nat → Option Nat → Int32 → Prop} {post : Int32 → SX → Prop} (hn : (¬ f1_holdsFirst v2 = 0 ∧ o6 = none) ∨ (¬ f1_holdsSecond v2 = 0 ∧ o7 = none) → post (-2) σ) (h : ¬ ((¬ f1_holdsFirst v2 = 0 ∧ o6 = none) ∨ (¬ f1_holdsSecond v2 = 0 ∧ o7 = none)) → K σ v1 v2 v3 v4 v5 o6 o7 (x_gauge σ v2 v3) (x_num σ v2 v3)) : wp_X1_deed_56 σ v1 v2 v3 v4 v5 o6 o7 K post := by
  have h70 : ¬ (¬ f1_holdsFirst v2 = 0 ∧ o6 = none) → wp_X1_deed_70 σ v1 v2 v3 v4 v5 o6 o7 K post := by
    intro h1 r1 e1
    subst e1
    refine ⟨fun c => p1_deed_85 (h (fun q => q.elim h1 (fun q => q.1 c))), fun c => ⟨fun e => hn (Or.inr ⟨c, e⟩), fun d e => ?_⟩⟩
    subst e
    exact p1_deed_85 (h (fun q => q.elim h1 (fun q => by cases q.2)))
  intro r1 e1
  subst e1
  refine ⟨fun c => h70 (fun q => q.1 c), fun c => ⟨fun e => hn (Or.inl ⟨c, e⟩), fun d e => ?_⟩⟩
  subst e
  exact h70 (fun q => by cases q.2)
theorem p1_deed (σ : SX) (v1 v2 v3 v4 v5 : Int32) : wp_X1_deed_0 σ v1 v2 v3 v4 v5 (fun σq v1' v2' v3' v4' v5' o6' o7' g8' v9' => σq = σ ∧ v1' = v1 ∧ v2' = v2 ∧ v4' = v4 ∧ v5' = v5 ∧ ¬ f1_isSlot v1 = 0 ∧ o6' = x_first σ v2 v3 ∧ o7' = x_second σ v2 v4 ∧ g8' = x_gauge σ v2 v3 ∧ v9' = x_num σ v2 v3 ∧ f1_deed σ v1 v2 v3 v4 v5 = (σ.1 8 + 1, sx_new σ v1 (mkD v2 (x_num σ v2 v3) v4 v5 (x_first σ v2 v3) (x_second σ v2 v4) (x_gauge σ v2 v3)))) (fun r u => r = (f1_deed σ v1 v2 v3 v4 v5).1 ∧ u = (f1_deed σ v1 v2 v3 v4 v5).2) := by
  intro r1 e1; subst e1
  refine ⟨fun c => ?_, fun c r3 e3 => ?_⟩
  · simp only [f1_deed]; rw [if_pos c]; exact ⟨rfl, rfl⟩
  subst e3
  refine ⟨fun c2 => ?_, fun c2 => ?_⟩
  · have hmain : ∀ o6, o6 = x_first σ v2 v3 → wp_X1_deed_37 σ v1 v2 v3 v4 v5 o6 (fun σq v1' v2' v3' v4' v5' o6' o7' g8' v9' => σq = σ ∧ v1' = v1 ∧ v2' = v2 ∧ v4' = v4 ∧ v5' = v5 ∧ ¬ f1_isSlot v1 = 0 ∧ o6' = x_first σ v2 v3 ∧ o7' = x_second σ v2 v4 ∧ g8' = x_gauge σ v2 v3 ∧ v9' = x_num σ v2 v3 ∧ f1_deed σ v1 v2 v3 v4 v5 = (σ.1 8 + 1, sx_new σ v1 (mkD v2 (x_num σ v2 v3) v4 v5 (x_first σ v2 v3) (x_second σ v2 v4) (x_gauge σ v2 v3)))) (fun r u => r = (f1_deed σ v1 v2 v3 v4 v5).1 ∧ u = (f1_deed σ v1 v2 v3 v4 v5).2) := by
      intro o6 e6
      have h56 : ∀ o7, o7 = x_second σ v2 v4 → wp_X1_deed_56 σ v1 v2 v3 v4 v5 o6 o7 (fun σq v1' v2' v3' v4' v5' o6' o7' g8' v9' => σq = σ ∧ v1' = v1 ∧ v2' = v2 ∧ v4' = v4 ∧ v5' = v5 ∧ ¬ f1_isSlot v1 = 0 ∧ o6' = x_first σ v2 v3 ∧ o7' = x_second σ v2 v4 ∧ g8' = x_gauge σ v2 v3 ∧ v9' = x_num σ v2 v3 ∧ f1_deed σ v1 v2 v3 v4 v5 = (σ.1 8 + 1, sx_new σ v1 (mkD v2 (x_num σ v2 v3) v4 v5 (x_first σ v2 v3) (x_second σ v2 v4) (x_gauge σ v2 v3)))) (fun r u => r = (f1_deed σ v1 v2 v3 v4 v5).1 ∧ u = (f1_deed σ v1 v2 v3 v4 v5).2) := by
        intro o7 e7
        subst e6; subst e7
        refine p1_deed_56 (fun hn => ?_) (fun hn => ?_)
        · simp only [f1_deed]; rw [if_neg c, if_neg c2, if_pos hn]; exact ⟨rfl, rfl⟩
        · refine ⟨rfl, rfl, rfl, rfl, rfl, c, rfl, rfl, rfl, rfl, ?_⟩
          simp only [f1_deed]; rw [if_neg c, if_neg c2, if_neg hn]
      intro r1 e1
      subst e1
      refine ⟨fun c3 => h56 none (if_pos c3).symm, fun c3 => ⟨trivial, fun o3 σ4 e3 e4 => ?_⟩⟩
      obtain rfl : σ4 = σ := e4
      exact h56 o3 (by rw [e3]; exact (if_neg c3).symm)
    intro r5 e5
    subst e5
    refine ⟨fun c3 => hmain none (if_pos c3).symm, fun c3 => ⟨trivial, fun o3 σ4 e3 e4 => ?_⟩⟩
    obtain rfl : σ4 = σ := e4
    exact hmain o3 (by rw [e3]; exact (if_neg c3).symm)
  · simp only [f1_deed]; rw [if_neg c, if_pos c2]; exact ⟨rfl, rfl⟩
theorem c1_deed (l : Launch) (G : Gm) (a : AX) (σ : SX) (v1 v2 v3 v4 v5 : Int32) (h : q1_deed σ v1 v2 v3 v4 v5) : ctI l yX1_deed cX1_deed 10 .int { frames := 3, cells := 1, slots := 8, locals := 70 } G [.ref (a.1 13), .int v1, .int v2, .int v3, .int v4, .int v5] (wX G a σ) (fun (r : Int32) (u : AX × SX) => (r = (f1_deed σ v1 v2 v3 v4 v5).1 ∧ u.2 = (f1_deed σ v1 v2 v3 v4 v5).2) ∧ u.1.1 = a.1) (fun u : AX × SX => wX G u.1 u.2) := by
  refine en_I (by decide +kernel) (Nat.le_of_ble_eq_true rfl) (fun p e s m below meth c A ls hF hw hl => ?_)
  refine k_X1_deed_0 (post := fun r u => r = (f1_deed σ v1 v2 v3 v4 v5).1 ∧ u = (f1_deed σ v1 v2 v3 v4 v5).2) hF ?_ σ v1 v2 v3 v4 v5 hw hl (p1_deed σ v1 v2 v3 v4 v5)
  intro σq v1' v2' v3' v4' v5' o6' o7' g8' v9' H locs ls hI hw' hl'
  obtain ⟨rfl, rfl, rfl, rfl, rfl, c1, rfl, rfl, rfl, rfl, hf⟩ := hI
  refine k_X1_deed_118 (post := fun r u => r = (f1_deed σq v1' v2' v3 v4' v5').1 ∧ u = (f1_deed σq v1' v2' v3 v4' v5').2) hF σq v1' v2' v3' v4' v5' _ _ _ _ h c1 ?_ ?_ ?_ hw' hl'
  · intro d hd
    simp only [x_first] at hd
    split at hd
    · cases hd
    · exact okO.in h _ d hd
  · intro d hd
    simp only [x_second] at hd
    split at hd
    · cases hd
    · exact okO.in h _ d hd
  · rw [hf]; exact ⟨rfl, rfl⟩
