/-! the world of a LeverHall: ints by field number, int arrays by field number, arrays of references by field number, deeds and rows by the number of their making -/
abbrev AX : Type := (Nat → Nat) × (Nat → Nat) × (Nat → Nat)
abbrev DX : Type := (Nat → Int32) × (Nat → Option Nat)
abbrev SX : Type := (Nat → Int32) × (Nat → Nat → Int32) × (Nat → Nat → Option Nat) × (Nat × (Nat → DX)) × (Nat × (Nat → Nat × (Nat → Int32)))
def dF (a : AX) (d : DX) : List Value := [.int (d.1 0), .int (d.1 1), .int (d.1 2), .int (d.1 3), va_rf ((d.2 4).map a.2.1), va_rf ((d.2 5).map a.2.1), va_rf ((d.2 6).map a.2.2), .int (d.1 7)]
def hFs (a : AX) (σ : SX) : List Value := [.ref (a.1 0), .ref (a.1 1), .ref (a.1 2), .ref (a.1 3), .ref (a.1 4), .ref (a.1 5), .int (σ.1 6), .int (σ.1 7), .int (σ.1 8), .int (σ.1 9), .int (σ.1 10), .int (σ.1 11), .int (σ.1 12)]
abbrev qA (f : Nat → Option Nat) : (Nat → Int32) ⊕ (Nat → Int64) ⊕ (Nat → UInt32) ⊕ (Nat → UInt64) ⊕ (Nat → Option Nat) := .inr (.inr (.inr (.inr f)))
def dPl (a : AX) (n : Nat) (D : Nat → DX) : va_W := (List.range n).map (fun d => (a.2.1 d, .inr (0, dF a (D d))))
def rPl (G : Gm) (a : AX) (n : Nat) (r : Nat → Nat × (Nat → Int32)) : va_W := (List.range n).map (fun k => (a.2.2 k, .inl (G.2.1, (r k).1, .inl (r k).2)))
def wX (G : Gm) (a : AX) (σ : SX) : va_W := (a.1 13, .inr (1, hFs a σ)) :: (a.1 0, .inl (G.2.1, 10, .inl (σ.2.1 0))) :: (a.1 1, .inl (G.2.2.2, 3, qA (fun i => (σ.2.2.1 1 i).map a.2.2))) :: (a.1 2, .inl (G.2.2.1, 20, qA (fun i => (σ.2.2.1 2 i).map a.2.1))) :: (a.1 3, .inl (G.2.2.1, 20, qA (fun i => (σ.2.2.1 3 i).map a.2.1))) :: (a.1 4, .inl (G.2.2.1, 12, qA (fun i => (σ.2.2.1 4 i).map a.2.1))) :: (a.1 5, .inl (G.2.1, 12, .inl (σ.2.1 5))) :: (dPl a σ.2.2.2.1.1 σ.2.2.2.1.2 ++ rPl G a σ.2.2.2.2.1 σ.2.2.2.2.2)
theorem pl_get {α : Type} (f : Nat → α) {n d : Nat} (h : d < n) : ((List.range n).map f)[d]? = some (f d) := by simp [h]
theorem pl_set {α : Type} (f : Nat → α) {n d : Nat} (v : α) (h : d < n) : ((List.range n).map f).set d v = (List.range n).map (va_up f d v) := by
  apply List.ext_getElem?
  intro i
  by_cases hi : i < n
  · by_cases e : i = d
    · subst e
      simp [List.getElem?_set, h, va_up]
    · have e' : ¬ d = i := fun q => e q.symm
      simp [List.getElem?_set, hi, e, e', va_up]
  · by_cases e : d = i
    · omega
    · simp [List.getElem?_set, hi, e]
theorem wX_d {G : Gm} {a : AX} {σ : SX} {d : Nat} (h : d < σ.2.2.2.1.1) : (wX G a σ)[7 + d]? = some (a.2.1 d, .inr (0, dF a (σ.2.2.2.1.2 d))) := by
  have e : 7 + d = d + 1 + 1 + 1 + 1 + 1 + 1 + 1 := by omega
  rw [e]
  simp only [wX, List.getElem?_cons_succ]
  rw [List.getElem?_append_left (by simp [dPl, h])]
  exact pl_get _ h
theorem wX_r {G : Gm} {a : AX} {σ : SX} {r : Nat} (h : r < σ.2.2.2.2.1) : (wX G a σ)[7 + (σ.2.2.2.1.1 + r)]? = some (a.2.2 r, .inl (G.2.1, (σ.2.2.2.2.2 r).1, .inl (σ.2.2.2.2.2 r).2)) := by
  have e : 7 + (σ.2.2.2.1.1 + r) = (σ.2.2.2.1.1 + r) + 1 + 1 + 1 + 1 + 1 + 1 + 1 := by omega
  rw [e]
  simp only [wX, List.getElem?_cons_succ]
  rw [List.getElem?_append_right (by simp [dPl])]
  simp only [dPl, List.length_map, List.length_range, Nat.add_sub_cancel_left]
  exact pl_get _ h
theorem wX_sd {G : Gm} {a : AX} {σ : SX} {d : Nat} (v : DX) (h : d < σ.2.2.2.1.1) : (wX G a σ).set (7 + d) (a.2.1 d, .inr (0, dF a v)) = wX G a (σ.1, σ.2.1, σ.2.2.1, (σ.2.2.2.1.1, va_up σ.2.2.2.1.2 d v), σ.2.2.2.2) := by
  have e : 7 + d = d + 1 + 1 + 1 + 1 + 1 + 1 + 1 := by omega
  rw [e]
  simp only [wX, List.set_cons_succ]
  rw [List.set_append_left _ _ (by simp [dPl, h])]
  unfold dPl
  rw [pl_set _ _ h]
  have : va_up (fun d => ((a.2.1 d, .inr (0, dF a (σ.2.2.2.1.2 d))) : Nat × va_E)) d (a.2.1 d, .inr (0, dF a v)) = fun x => (a.2.1 x, .inr (0, dF a (va_up σ.2.2.2.1.2 d v x))) := by
    funext x
    by_cases hx : x = d
    · subst hx; simp [va_up]
    · simp [va_up, hx]
  rw [this]
  rfl
theorem wX_sr {G : Gm} {a : AX} {σ : SX} {r : Nat} (f : Nat → Int32) (h : r < σ.2.2.2.2.1) : (wX G a σ).set (7 + (σ.2.2.2.1.1 + r)) (a.2.2 r, .inl (G.2.1, (σ.2.2.2.2.2 r).1, .inl f)) = wX G a (σ.1, σ.2.1, σ.2.2.1, σ.2.2.2.1, (σ.2.2.2.2.1, va_up σ.2.2.2.2.2 r ((σ.2.2.2.2.2 r).1, f))) := by
  have e : 7 + (σ.2.2.2.1.1 + r) = (σ.2.2.2.1.1 + r) + 1 + 1 + 1 + 1 + 1 + 1 + 1 := by omega
  rw [e]
  simp only [wX, List.set_cons_succ]
  rw [List.set_append_right _ _ (by simp [dPl])]
  simp only [dPl, List.length_map, List.length_range, Nat.add_sub_cancel_left]
  unfold rPl
  rw [pl_set _ _ h]
  have : va_up (fun k => ((a.2.2 k, .inl (G.2.1, (σ.2.2.2.2.2 k).1, .inl (σ.2.2.2.2.2 k).2)) : Nat × va_E)) r (a.2.2 r, .inl (G.2.1, (σ.2.2.2.2.2 r).1, .inl f)) = fun x => (a.2.2 x, .inl (G.2.1, (va_up σ.2.2.2.2.2 r ((σ.2.2.2.2.2 r).1, f) x).1, .inl (va_up σ.2.2.2.2.2 r ((σ.2.2.2.2.2 r).1, f) x).2)) := by
    funext x
    by_cases hx : x = r
    · subst hx; simp [va_up]
    · simp [va_up, hx]
  rw [this]
  rfl
theorem up_map (f : Nat → Option Nat) (g : Nat → Nat) (k : Nat) (o : Option Nat) : va_up (fun i => (f i).map g) k (o.map g) = fun i => (va_up f k o i).map g := by
  funext x
  by_cases hx : x = k
  · subst hx; simp [va_up]
  · simp [va_up, hx]
theorem wX_sI {G : Gm} {a : AX} {σ : SX} {k : Nat} (v : Int32) (hk : 6 ≤ k ∧ k < 13) : (wX G a σ).set 0 (a.1 13, .inr (1, (hFs a σ).set k (.int v))) = wX G a (va_up σ.1 k v, σ.2) := by
  obtain ⟨h1, h2⟩ := hk
  have : k = 6 ∨ k = 7 ∨ k = 8 ∨ k = 9 ∨ k = 10 ∨ k = 11 ∨ k = 12 := by omega
  rcases this with rfl | rfl | rfl | rfl | rfl | rfl | rfl <;> simp [wX, hFs, va_up]
theorem wX_sF {G : Gm} {a : AX} {σ : SX} {k n : Nat} (f : Nat → Int32) (hk : (k = 0 ∧ n = 10) ∨ (k = 5 ∧ n = 12)) : (wX G a σ).set (k + 1) (a.1 k, .inl (G.2.1, n, .inl f)) = wX G a (σ.1, va_up σ.2.1 k f, σ.2.2) := by
  rcases hk with ⟨rfl, rfl⟩ | ⟨rfl, rfl⟩ <;> simp [wX, hFs, va_up]
theorem wX_sO {G : Gm} {a : AX} {σ : SX} {k n : Nat} (f : Nat → Option Nat) (hk : (k = 2 ∧ n = 20) ∨ (k = 3 ∧ n = 20) ∨ (k = 4 ∧ n = 12)) : (wX G a σ).set (k + 1) (a.1 k, .inl (G.2.2.1, n, qA (fun i => (f i).map a.2.1))) = wX G a (σ.1, σ.2.1, va_up σ.2.2.1 k f, σ.2.2.2) := by
  rcases hk with ⟨rfl, rfl⟩ | ⟨rfl, rfl⟩ | ⟨rfl, rfl⟩ <;> simp [wX, hFs, va_up]
theorem wX_sG {G : Gm} {a : AX} {σ : SX} (f : Nat → Option Nat) : (wX G a σ).set 2 (a.1 1, .inl (G.2.2.2, 3, qA (fun i => (f i).map a.2.2))) = wX G a (σ.1, σ.2.1, va_up σ.2.2.1 1 f, σ.2.2.2) := by
  simp [wX, hFs, va_up]
section RX
variable {p : Program} {l : Launch} {e : Env} {R : Room} {s : State} {m : MethodId} {args : Array Value} {below : List Frame} {meth : Method} {c : Code} {H : Heap} {locs : List Loc} {cells slots : Nat} {Q : State → Prop}
variable {cc : ByteArray} {pc : Nat} {ls : Array Slot} {rest : List Value} {G : Gm} {A : Nat → Prop} {a : AX} {σ : SX} {nL : Nat} {c0 : Cond} {ret : Option FieldType}
theorem rx_put {idx : Nat} {v : Int32} (k : Nat) (hF : fx p s m args meth c cc nL RX1 c0 ret) (hw : wb G A s (wX G a σ) H locs) (hk : 6 ≤ k ∧ k < 13) (hl : Cond.fieldLink RX1 idx (TX1 k).1 (TX1 k).2.1 (TX1 k).2.2.1 ∈ wsA) (hdg : decode cc pc = .ok (.putfield idx, 3))
    (kk : ∀ (σ1 : SX) (H1 : Heap) (locs1 : List Loc), σ1 = (va_up σ.1 k v, σ.2) → wb G A s (wX G a σ1) H1 locs1 → W p l e R s m args below meth c H1 locs1 cells slots Q (F0 m (pc + 3) ls rest)) : W p l e R s m args below meth c H locs cells slots Q (F0 m pc ls (.int v :: .ref (a.1 13) :: rest)) := by
  have hh := hk
  obtain ⟨h1, h2⟩ := hk
  have ht : tyX1 k = .int ∧ (TX1 k).2.2.2 = false := by
    have : k = 6 ∨ k = 7 ∨ k = 8 ∨ k = 9 ∨ k = 10 ∨ k = 11 ∨ k = 12 := by omega
    rcases this with rfl | rfl | rfl | rfl | rfl | rfl | rfl <;> exact ⟨rfl, rfl⟩
  exact r_put hF hw 0 rfl rfl inlX1 tyX1 tyX1_ok nmX1 k h2 hl ht.2 (by rw [ht.1]; rfl) (by rw [ht.1]; rfl) h2 (wX_sI v hh) hdg (fun H1 locs1 hw => kk _ H1 locs1 rfl hw)
theorem rx_iald {i : Int32} (k n : Nat) (hF : fx p s m args meth c cc nL RX1 c0 ret) (hw : wb G A s (wX G a σ) H locs) (hk : (k = 0 ∧ n = 10) ∨ (k = 5 ∧ n = 12)) (hin : vp_in i n) (hdg : decode cc pc = .ok (.iaload, 1))
    (kk : W p l e R s m args below meth c H locs cells slots Q (F0 m (pc + 1) ls (.int (σ.2.1 k i.toNatClampNeg) :: rest))) : W p l e R s m args below meth c H locs cells slots Q (F0 m pc ls (.int i :: .ref (a.1 k) :: rest)) := by
  rcases hk with ⟨rfl, rfl⟩ | ⟨rfl, rfl⟩
  · exact r_iald hF hw 1 rfl hin hdg kk
  · exact r_iald hF hw 6 rfl hin hdg kk
theorem rx_iast {i x : Int32} (k n : Nat) (hF : fx p s m args meth c cc nL RX1 c0 ret) (hw : wb G A s (wX G a σ) H locs) (hk : (k = 0 ∧ n = 10) ∨ (k = 5 ∧ n = 12)) (hin : vp_in i n) (hdg : decode cc pc = .ok (.iastore, 1))
    (kk : ∀ (σ1 : SX) (H1 : Heap) (locs1 : List Loc), σ1 = (σ.1, va_up σ.2.1 k (upd (σ.2.1 k) i.toNatClampNeg x), σ.2.2) → wb G A s (wX G a σ1) H1 locs1 → W p l e R s m args below meth c H1 locs1 cells slots Q (F0 m (pc + 1) ls rest)) : W p l e R s m args below meth c H locs cells slots Q (F0 m pc ls (.int x :: .int i :: .ref (a.1 k) :: rest)) := by
  have hh := hk
  rcases hk with ⟨rfl, rfl⟩ | ⟨rfl, rfl⟩
  · exact r_iast hF hw 1 rfl hin (wX_sF _ hh) hdg (fun H1 locs1 hw => kk _ H1 locs1 rfl hw)
  · exact r_iast hF hw 6 rfl hin (wX_sF _ hh) hdg (fun H1 locs1 hw => kk _ H1 locs1 rfl hw)
theorem rx_aald {i : Int32} (k n : Nat) (hF : fx p s m args meth c cc nL RX1 c0 ret) (hw : wb G A s (wX G a σ) H locs) (hk : (k = 2 ∧ n = 20) ∨ (k = 3 ∧ n = 20) ∨ (k = 4 ∧ n = 12)) (hin : vp_in i n) (hdg : decode cc pc = .ok (.aaload, 1))
    (kk : ∀ o : Option Nat, o = σ.2.2.1 k i.toNatClampNeg → W p l e R s m args below meth c H locs cells slots Q (F0 m (pc + 1) ls (va_rf (o.map a.2.1) :: rest))) : W p l e R s m args below meth c H locs cells slots Q (F0 m pc ls (.int i :: .ref (a.1 k) :: rest)) := by
  rcases hk with ⟨rfl, rfl⟩ | ⟨rfl, rfl⟩ | ⟨rfl, rfl⟩
  · exact r_aald hF hw 3 rfl hin hdg (kk _ rfl)
  · exact r_aald hF hw 4 rfl hin hdg (kk _ rfl)
  · exact r_aald hF hw 5 rfl hin hdg (kk _ rfl)
theorem rx_gald {i : Int32} (hF : fx p s m args meth c cc nL RX1 c0 ret) (hw : wb G A s (wX G a σ) H locs) (hin : vp_in i 3) (hdg : decode cc pc = .ok (.aaload, 1))
    (kk : ∀ o : Option Nat, o = σ.2.2.1 1 i.toNatClampNeg → W p l e R s m args below meth c H locs cells slots Q (F0 m (pc + 1) ls (va_rf (o.map a.2.2) :: rest))) : W p l e R s m args below meth c H locs cells slots Q (F0 m pc ls (.int i :: .ref (a.1 1) :: rest)) :=
  r_aaldG hF hw 2 rfl hin hdg (kk _ rfl)
theorem rx_aast {i : Int32} {o : Option Nat} (k n : Nat) (hF : fx p s m args meth c cc nL RX1 c0 ret) (hw : wb G A s (wX G a σ) H locs) (hk : (k = 2 ∧ n = 20) ∨ (k = 3 ∧ n = 20) ∨ (k = 4 ∧ n = 12)) (hin : vp_in i n) (ho : ∀ d, o = some d → d < σ.2.2.2.1.1) (hdg : decode cc pc = .ok (.aastore, 1))
    (kk : ∀ (σ1 : SX) (H1 : Heap) (locs1 : List Loc), σ1 = (σ.1, σ.2.1, va_up σ.2.2.1 k (va_up (σ.2.2.1 k) i.toNatClampNeg o), σ.2.2.2) → wb G A s (wX G a σ1) H1 locs1 → W p l e R s m args below meth c H1 locs1 cells slots Q (F0 m (pc + 1) ls rest)) : W p l e R s m args below meth c H locs cells slots Q (F0 m pc ls (va_rf (o.map a.2.1) :: .int i :: .ref (a.1 k) :: rest)) := by
  have hh := hk
  have hq : ∀ q0 : Nat, (wX G a σ)[q0]? = some (a.1 k, .inl (G.2.2.1, n, qA (fun i => (σ.2.2.1 k i).map a.2.1))) → q0 = k + 1 → W p l e R s m args below meth c H locs cells slots Q (F0 m pc ls (va_rf (o.map a.2.1) :: .int i :: .ref (a.1 k) :: rest)) := by
    intro q0 hq0 hqk
    subst hqk
    cases o with
    | none => exact r_aastN hF hw (k + 1) hq0 hin (by rw [show (none : Option Nat) = (none : Option Nat).map a.2.1 from rfl, up_map]; exact wX_sO _ hh) hdg (fun H1 locs1 hw => kk _ H1 locs1 rfl hw)
    | some d => exact r_aast hF hw (k + 1) (7 + d) hq0 (wX_d (ho d rfl)) hin (by rw [show some (a.2.1 d) = (some d).map a.2.1 from rfl, up_map]; exact wX_sO _ hh) hdg (fun H1 locs1 hw => kk _ H1 locs1 rfl hw)
  rcases hk with ⟨rfl, rfl⟩ | ⟨rfl, rfl⟩ | ⟨rfl, rfl⟩
  · exact hq 3 rfl rfl
  · exact hq 4 rfl rfl
  · exact hq 5 rfl rfl
theorem rx_gast {i : Int32} {o : Option Nat} (hF : fx p s m args meth c cc nL RX1 c0 ret) (hw : wb G A s (wX G a σ) H locs) (hin : vp_in i 3) (ho : ∀ d, o = some d → d < σ.2.2.2.2.1) (hdg : decode cc pc = .ok (.aastore, 1))
    (kk : ∀ (σ1 : SX) (H1 : Heap) (locs1 : List Loc), σ1 = (σ.1, σ.2.1, va_up σ.2.2.1 1 (va_up (σ.2.2.1 1) i.toNatClampNeg o), σ.2.2.2) → wb G A s (wX G a σ1) H1 locs1 → W p l e R s m args below meth c H1 locs1 cells slots Q (F0 m (pc + 1) ls rest)) : W p l e R s m args below meth c H locs cells slots Q (F0 m pc ls (va_rf (o.map a.2.2) :: .int i :: .ref (a.1 1) :: rest)) := by
  cases o with
  | none => exact r_aastGN hF hw 2 rfl hin (by rw [show (none : Option Nat) = (none : Option Nat).map a.2.2 from rfl, up_map]; exact wX_sG _) hdg (fun H1 locs1 hw => kk _ H1 locs1 rfl hw)
  | some d => exact r_aastG hF hw 2 (7 + (σ.2.2.2.1.1 + d)) rfl (wX_r (ho d rfl)) hin (by rw [show some (a.2.2 d) = (some d).map a.2.2 from rfl, up_map]; exact wX_sG _) hdg (fun H1 locs1 hw => kk _ H1 locs1 rfl hw)
theorem rx_dget {d idx k : Nat} {v : Value} (hF : fx p s m args meth c cc nL RX1 c0 ret) (hw : wb G A s (wX G a σ) H locs) (hd : d < σ.2.2.2.1.1) (hk : k < 8) (hl : Cond.fieldLinkNest RX1 idx (TX0 k).1 (TX0 k).2.1 (TX0 k).2.2.1 RX1 ∈ nestW) (hv : (dF a (σ.2.2.2.1.2 d))[k]? = some v) (hdg : decode cc pc = .ok (.getfield idx, 3))
    (kk : W p l e R s m args below meth c H locs cells slots Q (F0 m (pc + 3) ls (v :: rest))) : W p l e R s m args below meth c H locs cells slots Q (F0 m pc ls (.ref (a.2.1 d) :: rest)) :=
  r_getN hF hw (7 + d) (wX_d hd) rfl inlX0 k hk hl hv hdg kk
theorem rx_dputT {d : Nat} {v : Int32} (hF : fx p s m args meth c cc nL RX1 c0 ret) (hw : wb G A s (wX G a σ) H locs) (hd : d < σ.2.2.2.1.1) (hdg : decode cc pc = .ok (.putfield 101, 3))
    (kk : ∀ (σ1 : SX) (H1 : Heap) (locs1 : List Loc), σ1 = (σ.1, σ.2.1, σ.2.2.1, (σ.2.2.2.1.1, va_up σ.2.2.2.1.2 d (va_up (σ.2.2.2.1.2 d).1 7 v, (σ.2.2.2.1.2 d).2)), σ.2.2.2.2) → wb G A s (wX G a σ1) H1 locs1 → W p l e R s m args below meth c H1 locs1 cells slots Q (F0 m (pc + 3) ls rest)) : W p l e R s m args below meth c H locs cells slots Q (F0 m pc ls (.int v :: .ref (a.2.1 d) :: rest)) := by
  refine r_putN (T := TX0) hF hw (7 + d) (wX_d hd) rfl inlX0 tyX0 tyX0_ok nmX0 7 (by decide) (host := RX1) (by unfold nestW; simp [TX0]) rfl rfl rfl (Nat.le_of_ble_eq_true rfl) ?_ hdg (fun H1 locs1 hw => kk _ H1 locs1 rfl hw)
  rw [← wX_sd _ hd]
  simp [dF, va_up]
theorem rx_rald {r : Nat} {i : Int32} (hF : fx p s m args meth c cc nL RX1 c0 ret) (hw : wb G A s (wX G a σ) H locs) (hr : r < σ.2.2.2.2.1) (hin : vp_in i (σ.2.2.2.2.2 r).1) (hdg : decode cc pc = .ok (.iaload, 1))
    (kk : W p l e R s m args below meth c H locs cells slots Q (F0 m (pc + 1) ls (.int ((σ.2.2.2.2.2 r).2 i.toNatClampNeg) :: rest))) : W p l e R s m args below meth c H locs cells slots Q (F0 m pc ls (.int i :: .ref (a.2.2 r) :: rest)) :=
  r_iald hF hw (7 + (σ.2.2.2.1.1 + r)) (wX_r hr) hin hdg kk
theorem rx_rast {r : Nat} {i x : Int32} (hF : fx p s m args meth c cc nL RX1 c0 ret) (hw : wb G A s (wX G a σ) H locs) (hr : r < σ.2.2.2.2.1) (hin : vp_in i (σ.2.2.2.2.2 r).1) (hdg : decode cc pc = .ok (.iastore, 1))
    (kk : ∀ (σ1 : SX) (H1 : Heap) (locs1 : List Loc), σ1 = (σ.1, σ.2.1, σ.2.2.1, σ.2.2.2.1, (σ.2.2.2.2.1, va_up σ.2.2.2.2.2 r ((σ.2.2.2.2.2 r).1, upd (σ.2.2.2.2.2 r).2 i.toNatClampNeg x))) → wb G A s (wX G a σ1) H1 locs1 → W p l e R s m args below meth c H1 locs1 cells slots Q (F0 m (pc + 1) ls rest)) : W p l e R s m args below meth c H locs cells slots Q (F0 m pc ls (.int x :: .int i :: .ref (a.2.2 r) :: rest)) :=
  r_iast hF hw (7 + (σ.2.2.2.1.1 + r)) (wX_r hr) hin (wX_sr _ hr) hdg (fun H1 locs1 hw => kk _ H1 locs1 rfl hw)
theorem rx_rlen {r : Nat} (hF : fx p s m args meth c cc nL RX1 c0 ret) (hw : wb G A s (wX G a σ) H locs) (hr : r < σ.2.2.2.2.1) (hdg : decode cc pc = .ok (.arraylength, 1))
    (kk : W p l e R s m args below meth c H locs cells slots Q (F0 m (pc + 1) ls (.int (nI (σ.2.2.2.2.2 r).1) :: rest))) : W p l e R s m args below meth c H locs cells slots Q (F0 m pc ls (.ref (a.2.2 r) :: rest)) :=
  r_alen hF hw (7 + (σ.2.2.2.1.1 + r)) (wX_r hr) rfl hdg kk
/-- a reference named by its number: null or not -/
theorem lm_ifnull {off : Int} {tgt : Nat} {o : Option Nat} {g : Nat → Nat} {own : String} (hF : fx p s m args meth c cc nL own c0 ret) (hdg : decode cc pc = .ok (.ifnull off, 3)) (ht : (pc : Int) + off = (tgt : Int))
    (kt : o = none → W p l e R s m args below meth c H locs cells slots Q (F0 m tgt ls rest)) (kf : ∀ d, o = some d → W p l e R s m args below meth c H locs cells slots Q (F0 m (pc + 3) ls rest)) : W p l e R s m args below meth c H locs cells slots Q (F0 m pc ls (va_rf (o.map g) :: rest)) := by
  cases o with
  | none => exact lv_ifnullN hF.x hF.b hdg ht (kt rfl)
  | some a => exact lv_ifnull hF.x hF.b hdg (kf a rfl)
theorem lm_ifnonnull {off : Int} {tgt : Nat} {o : Option Nat} {g : Nat → Nat} {own : String} (hF : fx p s m args meth c cc nL own c0 ret) (hdg : decode cc pc = .ok (.ifnonnull off, 3)) (ht : (pc : Int) + off = (tgt : Int))
    (kt : ∀ d, o = some d → W p l e R s m args below meth c H locs cells slots Q (F0 m tgt ls rest)) (kf : o = none → W p l e R s m args below meth c H locs cells slots Q (F0 m (pc + 3) ls rest)) : W p l e R s m args below meth c H locs cells slots Q (F0 m pc ls (va_rf (o.map g) :: rest)) := by
  cases o with
  | none => exact lv_ifnonnullN hF.x hF.b hdg (kf rfl)
  | some a => exact lv_ifnonnull hF.x hF.b hdg ht (kt a rfl)
end RX
