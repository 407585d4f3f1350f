/-- what holds of a hall's state at all times -/
def WFX (σ : SX) : Prop := (∀ k i d, (k = 2 ∨ k = 3 ∨ k = 4) → σ.2.2.1 k i = some d → d < σ.2.2.2.1.1) ∧ (∀ i r, σ.2.2.1 1 i = some r → r < σ.2.2.2.2.1) ∧ (∀ d, d < σ.2.2.2.1.1 → (∀ e, (σ.2.2.2.1.2 d).2 4 = some e → e < σ.2.2.2.1.1) ∧ (∀ e, (σ.2.2.2.1.2 d).2 5 = some e → e < σ.2.2.2.1.1) ∧ ∀ r, (σ.2.2.2.1.2 d).2 6 = some r → r < σ.2.2.2.2.1) ∧ (∀ r, (σ.2.2.2.2.2 r).1 < 2 ^ 31) ∧ ∃ h w : Nat, h < 12 ∧ w ≤ 12 ∧ σ.1 6 = nI h ∧ σ.1 7 = nI w
abbrev q1_d (σ : SX) (d : Nat) : Prop := WFX σ ∧ d < σ.2.2.2.1.1
abbrev q1_doSet (σ : SX) (d : Nat) (_ : Int32) : Prop := q1_d σ d
abbrev q1_doAdd (σ : SX) (d : Nat) (_ : Int32) : Prop := q1_d σ d
abbrev q1_doDraw (σ : SX) (d : Nat) (_ : Int32) : Prop := q1_d σ d
abbrev q1_doMark (σ : SX) (d : Nat) (_ : Int32) : Prop := q1_d σ d
abbrev q1_doLater (σ : SX) (d : Nat) (_ : Int32) : Prop := q1_d σ d
abbrev q1_doAlone (σ : SX) (d : Nat) (_ : Int32) : Prop := q1_d σ d
theorem pour_D (σ : SX) (k v : Int32) : (f1_pour σ k v).2.2 = σ.2.2 := by unfold f1_pour; split <;> rfl
theorem pour_I (σ : SX) (k v : Int32) : (f1_pour σ k v).1 = σ.1 := by unfold f1_pour; split <;> rfl
def f1_doSet (σ : SX) (d : Nat) (p : Int32) : Int32 × SX := ((f1_heldBy σ ((σ.2.2.2.1.2 d).1 1)).1, f1_pour σ ((σ.2.2.2.1.2 d).1 1) p)
def f1_doAdd (σ : SX) (d : Nat) (p : Int32) : Int32 × SX :=
  let x := (σ.2.2.2.1.2 d).1 1
  let σ5 := f1_pour σ x ((f1_heldBy σ x).1 + p * (σ.2.2.2.1.2 d).1 2)
  ((f1_heldBy σ5 x).1, σ5)
def f1_doDraw (σ : SX) (d : Nat) (p : Int32) : Int32 × SX :=
  let x := (σ.2.2.2.1.2 d).1 1
  let y := (σ.2.2.2.1.2 d).1 2
  if p < 0 then f1_fail σ (-3) else if p ≤ (f1_heldBy σ x).1 then
    let σ1 := f1_pour σ x ((f1_heldBy σ x).1 - p)
    let σ2 := f1_pour σ1 y ((f1_heldBy σ1 y).1 + p)
    ((f1_heldBy σ2 x).1, σ2)
  else f1_fail σ (-3)
def f1_doMark (σ : SX) (d : Nat) (p : Int32) : Int32 × SX :=
  match (σ.2.2.2.1.2 d).2 6 with
  | none => f1_fail σ (-4)
  | some r =>
    let y := (σ.2.2.2.1.2 d).1 2
    if (f1_hasMark σ (some r) y).1 = 0 then f1_fail σ (-4) else
    let v := (σ.2.2.2.2.2 r).2 y.toNatClampNeg + p
    (v, (σ.1, σ.2.1, σ.2.2.1, σ.2.2.2.1, (σ.2.2.2.2.1, va_up σ.2.2.2.2.2 r ((σ.2.2.2.2.2 r).1, upd (σ.2.2.2.2.2 r).2 y.toNatClampNeg v))))
def x_end (σ : SX) : Int32 := (σ.1 6 + σ.1 7) - (σ.1 6 + σ.1 7) / 12 * 12
def f1_doLater (σ : SX) (d : Nat) (p : Int32) : Int32 × SX :=
  if σ.1 7 < 12 then (σ.1 7 + 1, (va_up σ.1 7 (σ.1 7 + 1), va_up σ.2.1 5 (upd (σ.2.1 5) (x_end σ).toNatClampNeg p), va_up σ.2.2.1 4 (va_up (σ.2.2.1 4) (x_end σ).toNatClampNeg ((σ.2.2.2.1.2 d).2 4)), σ.2.2.2))
  else f1_fail σ (-7)
def f1_doAlone (σ : SX) (d : Nat) (p : Int32) : Int32 × SX :=
  let k := (σ.2.2.2.1.2 d).1 0
  let x := (σ.2.2.2.1.2 d).1 1
  if k = 0 then (x, σ) else if k = 1 then f1_doSet σ d p else if k = 2 then f1_doAdd σ d p else if k = 3 then f1_doDraw σ d p else if k = 4 then f1_doMark σ d p
  else if k = 5 then (if x = 0 then f1_fail σ (-5) else (p / x, σ)) else if k = 6 then (p + x, σ) else f1_fail σ (-6)
theorem x_end_at {σ : SX} {h w : Nat} (hh : h < 12) (hw : w ≤ 12) (e1 : σ.1 6 = nI h) (e2 : σ.1 7 = nI w) : x_end σ = nI ((h + w) % 12) := by
  unfold x_end
  rw [e1, e2, nI_add, show (12 : Int32) = nI 12 from rfl, pk_rem (by omega) (by decide) (by decide)]
theorem hasMark_in {σ : SX} {r : Nat} {i : Int32} (h : ¬ (f1_hasMark σ (some r) i).1 = 0) (hl : (σ.2.2.2.2.2 r).1 < 2 ^ 31) : vp_in i (σ.2.2.2.2.2 r).1 := by
  simp only [f1_hasMark] at h
  rw [vp_in_iff]
  by_cases h1 : i < 0
  · rw [if_pos h1] at h; exact absurd rfl h
  · rw [if_neg h1] at h
    by_cases h2 : nI (σ.2.2.2.2.2 r).1 ≤ i
    · rw [if_pos h2] at h; exact absurd rfl h
    · rw [Int32.lt_iff_toInt_lt] at h1
      rw [Int32.le_iff_toInt_le, nI_toInt hl] at h2
      have : (0 : Int32).toInt = 0 := by decide
      omega

def wp_X1_doSet_0 (σ : SX) (d1 : Nat) (v2 : Int32)  (post : Int32 → SX → Prop) : Prop :=
  d1 < σ.2.2.2.1.1 ∧ q1_heldBy σ ((σ.2.2.2.1.2 d1).1 1) ∧ ∀ (r1 : Int32) (σ2 : SX), r1 = (f1_heldBy σ ((σ.2.2.2.1.2 d1).1 1)).1 → σ2 = (f1_heldBy σ ((σ.2.2.2.1.2 d1).1 1)).2 → d1 < σ2.2.2.2.1.1 ∧ q1_pour σ2 ((σ2.2.2.2.1.2 d1).1 1) v2 ∧ ∀ σ3 : SX, σ3 = (f1_pour σ2 ((σ2.2.2.2.1.2 d1).1 1) v2) → post r1 σ3
set_option maxHeartbeats 4000000 in
set_option maxRecDepth 100000 in
theorem k_X1_doSet_0 {l : Launch} {p : Program} {e : Env} {s : State} {m : MethodId} {below : List Frame} {meth : Method} {c : Code} {args : Array Value} {A : Nat → Prop} {G : Gm} {a : AX}  (hF : fx p s m args meth c cX1_doSet 4 yX1_doSet.cls kX1_doSet (some (.int))) {post : Int32 → SX → Prop}  (σ : SX) (d1 : Nat) (v2 : Int32) {H : Heap} {locs : List Loc} {ls : Array Slot} (hw : wb G A s (wX G a σ) H locs) (hl : lv_has ls 4 [(0, .ref (a.1 13)), (1, .ref (a.2.1 d1)), (2, .int v2)]) (hok : wp_X1_doSet_0 σ d1 v2  post) :
    W p l e (rr 2 42) s m args below meth c H locs 0 0 (MQ below (va_Qi post (po G A (wX G a)) A) args s 0 0 A) (F0 m 0 ls []) := by
  unfold wp_X1_doSet_0 at hok
  refine lv_aload_n hF.x hF.b dX1_doSet_0 rfl (lv_at hl 0 rfl) ?_
  refine lv_aload_n hF.x hF.b dX1_doSet_1 rfl (lv_at hl 1 rfl) ?_
  refine rx_dget (k := 1) hF hw hok.1 (by decide) (by unfold nestW; simp [TX0]) rfl dX1_doSet_2 ?_
  replace hok := hok.2
  refine ca_I hF hw (c1_heldBy l G a σ ((σ.2.2.2.1.2 d1).1 1) hok.1) wv_X1_55 (q0 := 0) rfl rfl rfl ⟨nd_X1.1, nd_X1.2, pd_X1_heldBy⟩ ⟨Nat.le_of_ble_eq_true rfl, Nat.le_of_ble_eq_true rfl⟩ ⟨Nat.zero_le _, Nat.zero_le _⟩ hl.1 rfl (by first | exact Nat.le_of_ble_eq_true rfl | simp [cat_rf, Value.category]) dX1_doSet_5 (fun r1 σ2 H locs hp hw => ?_)
  obtain ⟨er1, eσ2⟩ := hp
  replace hok := hok.2 r1 σ2 er1 eσ2
  refine lv_istore_n (lv' := [(3, .int r1), (0, .ref (a.1 13)), (1, .ref (a.2.1 d1)), (2, .int v2)]) hF.x hF.b dX1_doSet_8 rfl hl (by decide) rfl (fun ls hl => ?_)
  refine lv_aload_n hF.x hF.b dX1_doSet_9 rfl (lv_at hl 1 rfl) ?_
  refine lv_aload_n hF.x hF.b dX1_doSet_10 rfl (lv_at hl 2 rfl) ?_
  refine rx_dget (k := 1) hF hw hok.1 (by decide) (by unfold nestW; simp [TX0]) rfl dX1_doSet_11 ?_
  replace hok := hok.2
  refine lv_iload_n hF.x hF.b dX1_doSet_14 rfl (lv_at hl 3 rfl) ?_
  refine ca_V hF hw (c1_pour l G a σ2 ((σ2.2.2.2.1.2 d1).1 1) v2 hok.1) wv_X1_59 (q0 := 0) rfl rfl rfl ⟨nd_X1.1, nd_X1.2, pd_X1_pour⟩ ⟨Nat.le_of_ble_eq_true rfl, Nat.le_of_ble_eq_true rfl⟩ ⟨Nat.zero_le _, Nat.zero_le _⟩ hl.1 rfl (by first | exact Nat.le_of_ble_eq_true rfl | simp [cat_rf, Value.category]) dX1_doSet_15 (fun σ3 H locs eσ3 hw => ?_)
  replace hok := hok.2 σ3 eσ3
  refine lv_iload_n hF.x hF.b dX1_doSet_18 rfl (lv_at hl 0 rfl) ?_
  exact rt_I (u := σ3) hF hw hok (Nat.zero_le _) (Nat.zero_le _) dX1_doSet_19

theorem p1_doSet (σ : SX) (d1 : Nat) (v2 : Int32) (h : q1_doSet σ d1 v2) : wp_X1_doSet_0 σ d1 v2 (fun r u => r = (f1_doSet σ d1 v2).1 ∧ u = (f1_doSet σ d1 v2).2) := by
  refine ⟨h.2, trivial, fun r1 σ2 e1 e2 => ?_⟩
  obtain rfl : σ2 = σ := e2
  exact ⟨h.2, trivial, fun σ3 e3 => ⟨e1, e3⟩⟩

theorem c1_doSet (l : Launch) (G : Gm) (a : AX) (σ : SX) (d1 : Nat) (v2 : Int32) (h : q1_doSet σ d1 v2) : ctI l yX1_doSet cX1_doSet 4 .int (rr 2 42) G [.ref (a.1 13), .ref (a.2.1 d1), .int v2] (wX G a σ) (fun (r : Int32) (u : SX) => r = (f1_doSet σ d1 v2).1 ∧ u = (f1_doSet σ d1 v2).2) (wX G a) := by
  refine en_I (by decide +kernel) (Nat.le_of_ble_eq_true rfl) (fun p e s m below meth c A ls hF hw hl => ?_)
  exact k_X1_doSet_0 hF σ d1 v2 hw hl (p1_doSet σ d1 v2 h)

def wp_X1_doAdd_0 (σ : SX) (d1 : Nat) (v2 : Int32)  (post : Int32 → SX → Prop) : Prop :=
  d1 < σ.2.2.2.1.1 ∧ d1 < σ.2.2.2.1.1 ∧ q1_heldBy σ ((σ.2.2.2.1.2 d1).1 1) ∧ ∀ (r1 : Int32) (σ2 : SX), r1 = (f1_heldBy σ ((σ.2.2.2.1.2 d1).1 1)).1 → σ2 = (f1_heldBy σ ((σ.2.2.2.1.2 d1).1 1)).2 → d1 < σ2.2.2.2.1.1 ∧ ∀ x3 : Int32, x3 = v2 * ((σ2.2.2.2.1.2 d1).1 2) → ∀ x4 : Int32, x4 = r1 + x3 → q1_pour σ2 ((σ.2.2.2.1.2 d1).1 1) x4 ∧ ∀ σ5 : SX, σ5 = (f1_pour σ2 ((σ.2.2.2.1.2 d1).1 1) x4) → d1 < σ5.2.2.2.1.1 ∧ q1_heldBy σ5 ((σ5.2.2.2.1.2 d1).1 1) ∧ ∀ (r6 : Int32) (σ7 : SX), r6 = (f1_heldBy σ5 ((σ5.2.2.2.1.2 d1).1 1)).1 → σ7 = (f1_heldBy σ5 ((σ5.2.2.2.1.2 d1).1 1)).2 → post r6 σ7
set_option maxHeartbeats 4000000 in
set_option maxRecDepth 100000 in
theorem k_X1_doAdd_0 {l : Launch} {p : Program} {e : Env} {s : State} {m : MethodId} {below : List Frame} {meth : Method} {c : Code} {args : Array Value} {A : Nat → Prop} {G : Gm} {a : AX}  (hF : fx p s m args meth c cX1_doAdd 3 yX1_doAdd.cls kX1_doAdd (some (.int))) {post : Int32 → SX → Prop}  (σ : SX) (d1 : Nat) (v2 : Int32) {H : Heap} {locs : List Loc} {ls : Array Slot} (hw : wb G A s (wX G a σ) H locs) (hl : lv_has ls 3 [(0, .ref (a.1 13)), (1, .ref (a.2.1 d1)), (2, .int v2)]) (hok : wp_X1_doAdd_0 σ d1 v2  post) :
    W p l e (rr 2 42) s m args below meth c H locs 0 0 (MQ below (va_Qi post (po G A (wX G a)) A) args s 0 0 A) (F0 m 0 ls []) := by
  unfold wp_X1_doAdd_0 at hok
  refine lv_aload_n hF.x hF.b dX1_doAdd_0 rfl (lv_at hl 0 rfl) ?_
  refine lv_aload_n hF.x hF.b dX1_doAdd_1 rfl (lv_at hl 1 rfl) ?_
  refine rx_dget (k := 1) hF hw hok.1 (by decide) (by unfold nestW; simp [TX0]) rfl dX1_doAdd_2 ?_
  replace hok := hok.2
  refine lv_aload_n hF.x hF.b dX1_doAdd_5 rfl (lv_at hl 0 rfl) ?_
  refine lv_aload_n hF.x hF.b dX1_doAdd_6 rfl (lv_at hl 1 rfl) ?_
  refine rx_dget (k := 1) hF hw hok.1 (by decide) (by unfold nestW; simp [TX0]) rfl dX1_doAdd_7 ?_
  replace hok := hok.2
  refine ca_I hF hw (c1_heldBy l G a σ ((σ.2.2.2.1.2 d1).1 1) hok.1) wv_X1_55 (q0 := 0) rfl rfl rfl ⟨nd_X1.1, nd_X1.2, pd_X1_heldBy⟩ ⟨Nat.le_of_ble_eq_true rfl, Nat.le_of_ble_eq_true rfl⟩ ⟨Nat.zero_le _, Nat.zero_le _⟩ hl.1 rfl (by first | exact Nat.le_of_ble_eq_true rfl | simp [cat_rf, Value.category]) dX1_doAdd_10 (fun r1 σ2 H locs hp hw => ?_)
  obtain ⟨er1, eσ2⟩ := hp
  replace hok := hok.2 r1 σ2 er1 eσ2
  refine lv_iload_n hF.x hF.b dX1_doAdd_13 rfl (lv_at hl 2 rfl) ?_
  refine lv_aload_n hF.x hF.b dX1_doAdd_14 rfl (lv_at hl 1 rfl) ?_
  refine rx_dget (k := 2) hF hw hok.1 (by decide) (by unfold nestW; simp [TX0]) rfl dX1_doAdd_15 ?_
  replace hok := hok.2
  refine lv_imul hF.x hF.b dX1_doAdd_18 ?_
  refine lv_topi (fun x3 ex3 => ?_)
  replace hok := hok x3 ex3
  refine lv_iadd hF.x hF.b dX1_doAdd_19 ?_
  refine lv_topi (fun x4 ex4 => ?_)
  replace hok := hok x4 ex4
  refine ca_V hF hw (c1_pour l G a σ2 ((σ.2.2.2.1.2 d1).1 1) x4 hok.1) wv_X1_59 (q0 := 0) rfl rfl rfl ⟨nd_X1.1, nd_X1.2, pd_X1_pour⟩ ⟨Nat.le_of_ble_eq_true rfl, Nat.le_of_ble_eq_true rfl⟩ ⟨Nat.zero_le _, Nat.zero_le _⟩ hl.1 rfl (by first | exact Nat.le_of_ble_eq_true rfl | simp [cat_rf, Value.category]) dX1_doAdd_20 (fun σ5 H locs eσ5 hw => ?_)
  replace hok := hok.2 σ5 eσ5
  refine lv_aload_n hF.x hF.b dX1_doAdd_23 rfl (lv_at hl 0 rfl) ?_
  refine lv_aload_n hF.x hF.b dX1_doAdd_24 rfl (lv_at hl 1 rfl) ?_
  refine rx_dget (k := 1) hF hw hok.1 (by decide) (by unfold nestW; simp [TX0]) rfl dX1_doAdd_25 ?_
  replace hok := hok.2
  refine ca_I hF hw (c1_heldBy l G a σ5 ((σ5.2.2.2.1.2 d1).1 1) hok.1) wv_X1_55 (q0 := 0) rfl rfl rfl ⟨nd_X1.1, nd_X1.2, pd_X1_heldBy⟩ ⟨Nat.le_of_ble_eq_true rfl, Nat.le_of_ble_eq_true rfl⟩ ⟨Nat.zero_le _, Nat.zero_le _⟩ hl.1 rfl (by first | exact Nat.le_of_ble_eq_true rfl | simp [cat_rf, Value.category]) dX1_doAdd_28 (fun r6 σ7 H locs hp hw => ?_)
  obtain ⟨er6, eσ7⟩ := hp
  replace hok := hok.2 r6 σ7 er6 eσ7
  exact rt_I (u := σ7) hF hw hok (Nat.zero_le _) (Nat.zero_le _) dX1_doAdd_31

theorem p1_doAdd (σ : SX) (d1 : Nat) (v2 : Int32) (h : q1_doAdd σ d1 v2) : wp_X1_doAdd_0 σ d1 v2 (fun r u => r = (f1_doAdd σ d1 v2).1 ∧ u = (f1_doAdd σ d1 v2).2) := by
  refine ⟨h.2, h.2, trivial, fun r1 σ2 e1 e2 => ?_⟩
  obtain rfl : σ2 = σ := e2
  refine ⟨h.2, fun x3 e3 x4 e4 => ⟨trivial, fun σ5 e5 => ?_⟩⟩
  subst e1; subst e3; subst e4
  have hD : σ5.2.2 = σ2.2.2 := by rw [e5, pour_D]
  rw [hD]
  refine ⟨h.2, trivial, fun r6 σ7 e6 e7 => ?_⟩
  obtain rfl : σ7 = σ5 := e7
  subst e5
  exact ⟨e6, rfl⟩

theorem c1_doAdd (l : Launch) (G : Gm) (a : AX) (σ : SX) (d1 : Nat) (v2 : Int32) (h : q1_doAdd σ d1 v2) : ctI l yX1_doAdd cX1_doAdd 3 .int (rr 2 42) G [.ref (a.1 13), .ref (a.2.1 d1), .int v2] (wX G a σ) (fun (r : Int32) (u : SX) => r = (f1_doAdd σ d1 v2).1 ∧ u = (f1_doAdd σ d1 v2).2) (wX G a) := by
  refine en_I (by decide +kernel) (Nat.le_of_ble_eq_true rfl) (fun p e s m below meth c A ls hF hw hl => ?_)
  exact k_X1_doAdd_0 hF σ d1 v2 hw hl (p1_doAdd σ d1 v2 h)

def wp_X1_doDraw_0 (σ : SX) (d1 : Nat) (v2 : Int32)  (post : Int32 → SX → Prop) : Prop :=
  (v2 < 0 → q1_fail σ ((-3)) ∧ ∀ (r2 : Int32) (σ3 : SX), r2 = (f1_fail σ ((-3))).1 → σ3 = (f1_fail σ ((-3))).2 → post r2 σ3) ∧ (¬ v2 < 0 → d1 < σ.2.2.2.1.1 ∧ q1_heldBy σ ((σ.2.2.2.1.2 d1).1 1) ∧ ∀ (r4 : Int32) (σ5 : SX), r4 = (f1_heldBy σ ((σ.2.2.2.1.2 d1).1 1)).1 → σ5 = (f1_heldBy σ ((σ.2.2.2.1.2 d1).1 1)).2 → (v2 ≤ r4 → d1 < σ5.2.2.2.1.1 ∧ d1 < σ5.2.2.2.1.1 ∧ q1_heldBy σ5 ((σ5.2.2.2.1.2 d1).1 1) ∧ ∀ (r7 : Int32) (σ8 : SX), r7 = (f1_heldBy σ5 ((σ5.2.2.2.1.2 d1).1 1)).1 → σ8 = (f1_heldBy σ5 ((σ5.2.2.2.1.2 d1).1 1)).2 → ∀ x9 : Int32, x9 = r7 - v2 → q1_pour σ8 ((σ5.2.2.2.1.2 d1).1 1) x9 ∧ ∀ σ10 : SX, σ10 = (f1_pour σ8 ((σ5.2.2.2.1.2 d1).1 1) x9) → d1 < σ10.2.2.2.1.1 ∧ d1 < σ10.2.2.2.1.1 ∧ q1_heldBy σ10 ((σ10.2.2.2.1.2 d1).1 2) ∧ ∀ (r11 : Int32) (σ12 : SX), r11 = (f1_heldBy σ10 ((σ10.2.2.2.1.2 d1).1 2)).1 → σ12 = (f1_heldBy σ10 ((σ10.2.2.2.1.2 d1).1 2)).2 → ∀ x13 : Int32, x13 = r11 + v2 → q1_pour σ12 ((σ10.2.2.2.1.2 d1).1 2) x13 ∧ ∀ σ14 : SX, σ14 = (f1_pour σ12 ((σ10.2.2.2.1.2 d1).1 2) x13) → d1 < σ14.2.2.2.1.1 ∧ q1_heldBy σ14 ((σ14.2.2.2.1.2 d1).1 1) ∧ ∀ (r15 : Int32) (σ16 : SX), r15 = (f1_heldBy σ14 ((σ14.2.2.2.1.2 d1).1 1)).1 → σ16 = (f1_heldBy σ14 ((σ14.2.2.2.1.2 d1).1 1)).2 → post r15 σ16) ∧ (¬ v2 ≤ r4 → q1_fail σ5 ((-3)) ∧ ∀ (r17 : Int32) (σ18 : SX), r17 = (f1_fail σ5 ((-3))).1 → σ18 = (f1_fail σ5 ((-3))).2 → post r17 σ18))
set_option maxHeartbeats 4000000 in
set_option maxRecDepth 100000 in
theorem k_X1_doDraw_0 {l : Launch} {p : Program} {e : Env} {s : State} {m : MethodId} {below : List Frame} {meth : Method} {c : Code} {args : Array Value} {A : Nat → Prop} {G : Gm} {a : AX}  (hF : fx p s m args meth c cX1_doDraw 3 yX1_doDraw.cls kX1_doDraw (some (.int))) {post : Int32 → SX → Prop}  (σ : SX) (d1 : Nat) (v2 : Int32) {H : Heap} {locs : List Loc} {ls : Array Slot} (hw : wb G A s (wX G a σ) H locs) (hl : lv_has ls 3 [(0, .ref (a.1 13)), (1, .ref (a.2.1 d1)), (2, .int v2)]) (hok : wp_X1_doDraw_0 σ d1 v2  post) :
    W p l e (rr 2 42) s m args below meth c H locs 0 0 (MQ below (va_Qi post (po G A (wX G a)) A) args s 0 0 A) (F0 m 0 ls []) := by
  unfold wp_X1_doDraw_0 at hok
  refine lv_iload_n hF.x hF.b dX1_doDraw_0 rfl (lv_at hl 2 rfl) ?_
  refine lv_if_lt (tgt := 16) hF.x hF.b dX1_doDraw_1 (by decide) (fun c1 => ?_) (fun c1 => ?_)
  · replace hok := hok.1 c1
    refine lv_aload_n hF.x hF.b dX1_doDraw_16 rfl (lv_at hl 0 rfl) ?_
    refine lv_bipush (v := (-3)) hF.x hF.b dX1_doDraw_17 (by decide) ?_
    refine ca_I hF hw (c1_fail l G a σ ((-3)) hok.1) wv_X1_137 (q0 := 0) rfl rfl rfl ⟨nd_X1.1, nd_X1.2, pd_X1_fail⟩ ⟨Nat.le_of_ble_eq_true rfl, Nat.le_of_ble_eq_true rfl⟩ ⟨Nat.zero_le _, Nat.zero_le _⟩ hl.1 rfl (by first | exact Nat.le_of_ble_eq_true rfl | simp [cat_rf, Value.category]) dX1_doDraw_19 (fun r2 σ3 H locs hp hw => ?_)
    obtain ⟨er2, eσ3⟩ := hp
    replace hok := hok.2 r2 σ3 er2 eσ3
    exact rt_I (u := σ3) hF hw hok (Nat.zero_le _) (Nat.zero_le _) dX1_doDraw_22
  · replace hok := hok.2 c1
    refine lv_iload_n hF.x hF.b dX1_doDraw_4 rfl (lv_at hl 2 rfl) ?_
    refine lv_aload_n hF.x hF.b dX1_doDraw_5 rfl (lv_at hl 0 rfl) ?_
    refine lv_aload_n hF.x hF.b dX1_doDraw_6 rfl (lv_at hl 1 rfl) ?_
    refine rx_dget (k := 1) hF hw hok.1 (by decide) (by unfold nestW; simp [TX0]) rfl dX1_doDraw_7 ?_
    replace hok := hok.2
    refine ca_I hF hw (c1_heldBy l G a σ ((σ.2.2.2.1.2 d1).1 1) hok.1) wv_X1_55 (q0 := 0) rfl rfl rfl ⟨nd_X1.1, nd_X1.2, pd_X1_heldBy⟩ ⟨Nat.le_of_ble_eq_true rfl, Nat.le_of_ble_eq_true rfl⟩ ⟨Nat.zero_le _, Nat.zero_le _⟩ hl.1 rfl (by first | exact Nat.le_of_ble_eq_true rfl | simp [cat_rf, Value.category]) dX1_doDraw_10 (fun r4 σ5 H locs hp hw => ?_)
    obtain ⟨er4, eσ5⟩ := hp
    replace hok := hok.2 r4 σ5 er4 eσ5
    refine lv_icmp_le (tgt := 23) hF.x hF.b dX1_doDraw_13 (by decide) (fun c6 => ?_) (fun c6 => ?_)
    · replace hok := hok.1 c6
      refine lv_aload_n hF.x hF.b dX1_doDraw_23 rfl (lv_at hl 0 rfl) ?_
      refine lv_aload_n hF.x hF.b dX1_doDraw_24 rfl (lv_at hl 1 rfl) ?_
      refine rx_dget (k := 1) hF hw hok.1 (by decide) (by unfold nestW; simp [TX0]) rfl dX1_doDraw_25 ?_
      replace hok := hok.2
      refine lv_aload_n hF.x hF.b dX1_doDraw_28 rfl (lv_at hl 0 rfl) ?_
      refine lv_aload_n hF.x hF.b dX1_doDraw_29 rfl (lv_at hl 1 rfl) ?_
      refine rx_dget (k := 1) hF hw hok.1 (by decide) (by unfold nestW; simp [TX0]) rfl dX1_doDraw_30 ?_
      replace hok := hok.2
      refine ca_I hF hw (c1_heldBy l G a σ5 ((σ5.2.2.2.1.2 d1).1 1) hok.1) wv_X1_55 (q0 := 0) rfl rfl rfl ⟨nd_X1.1, nd_X1.2, pd_X1_heldBy⟩ ⟨Nat.le_of_ble_eq_true rfl, Nat.le_of_ble_eq_true rfl⟩ ⟨Nat.zero_le _, Nat.zero_le _⟩ hl.1 rfl (by first | exact Nat.le_of_ble_eq_true rfl | simp [cat_rf, Value.category]) dX1_doDraw_33 (fun r7 σ8 H locs hp hw => ?_)
      obtain ⟨er7, eσ8⟩ := hp
      replace hok := hok.2 r7 σ8 er7 eσ8
      refine lv_iload_n hF.x hF.b dX1_doDraw_36 rfl (lv_at hl 2 rfl) ?_
      refine lv_isub hF.x hF.b dX1_doDraw_37 ?_
      refine lv_topi (fun x9 ex9 => ?_)
      replace hok := hok x9 ex9
      refine ca_V hF hw (c1_pour l G a σ8 ((σ5.2.2.2.1.2 d1).1 1) x9 hok.1) wv_X1_59 (q0 := 0) rfl rfl rfl ⟨nd_X1.1, nd_X1.2, pd_X1_pour⟩ ⟨Nat.le_of_ble_eq_true rfl, Nat.le_of_ble_eq_true rfl⟩ ⟨Nat.zero_le _, Nat.zero_le _⟩ hl.1 rfl (by first | exact Nat.le_of_ble_eq_true rfl | simp [cat_rf, Value.category]) dX1_doDraw_38 (fun σ10 H locs eσ10 hw => ?_)
      replace hok := hok.2 σ10 eσ10
      refine lv_aload_n hF.x hF.b dX1_doDraw_41 rfl (lv_at hl 0 rfl) ?_
      refine lv_aload_n hF.x hF.b dX1_doDraw_42 rfl (lv_at hl 1 rfl) ?_
      refine rx_dget (k := 2) hF hw hok.1 (by decide) (by unfold nestW; simp [TX0]) rfl dX1_doDraw_43 ?_
      replace hok := hok.2
      refine lv_aload_n hF.x hF.b dX1_doDraw_46 rfl (lv_at hl 0 rfl) ?_
      refine lv_aload_n hF.x hF.b dX1_doDraw_47 rfl (lv_at hl 1 rfl) ?_
      refine rx_dget (k := 2) hF hw hok.1 (by decide) (by unfold nestW; simp [TX0]) rfl dX1_doDraw_48 ?_
      replace hok := hok.2
      refine ca_I hF hw (c1_heldBy l G a σ10 ((σ10.2.2.2.1.2 d1).1 2) hok.1) wv_X1_55 (q0 := 0) rfl rfl rfl ⟨nd_X1.1, nd_X1.2, pd_X1_heldBy⟩ ⟨Nat.le_of_ble_eq_true rfl, Nat.le_of_ble_eq_true rfl⟩ ⟨Nat.zero_le _, Nat.zero_le _⟩ hl.1 rfl (by first | exact Nat.le_of_ble_eq_true rfl | simp [cat_rf, Value.category]) dX1_doDraw_51 (fun r11 σ12 H locs hp hw => ?_)
      obtain ⟨er11, eσ12⟩ := hp
      replace hok := hok.2 r11 σ12 er11 eσ12
      refine lv_iload_n hF.x hF.b dX1_doDraw_54 rfl (lv_at hl 2 rfl) ?_
      refine lv_iadd hF.x hF.b dX1_doDraw_55 ?_
      refine lv_topi (fun x13 ex13 => ?_)
      replace hok := hok x13 ex13
      refine ca_V hF hw (c1_pour l G a σ12 ((σ10.2.2.2.1.2 d1).1 2) x13 hok.1) wv_X1_59 (q0 := 0) rfl rfl rfl ⟨nd_X1.1, nd_X1.2, pd_X1_pour⟩ ⟨Nat.le_of_ble_eq_true rfl, Nat.le_of_ble_eq_true rfl⟩ ⟨Nat.zero_le _, Nat.zero_le _⟩ hl.1 rfl (by first | exact Nat.le_of_ble_eq_true rfl | simp [cat_rf, Value.category]) dX1_doDraw_56 (fun σ14 H locs eσ14 hw => ?_)
      replace hok := hok.2 σ14 eσ14
      refine lv_aload_n hF.x hF.b dX1_doDraw_59 rfl (lv_at hl 0 rfl) ?_
      refine lv_aload_n hF.x hF.b dX1_doDraw_60 rfl (lv_at hl 1 rfl) ?_
      refine rx_dget (k := 1) hF hw hok.1 (by decide) (by unfold nestW; simp [TX0]) rfl dX1_doDraw_61 ?_
      replace hok := hok.2
      refine ca_I hF hw (c1_heldBy l G a σ14 ((σ14.2.2.2.1.2 d1).1 1) hok.1) wv_X1_55 (q0 := 0) rfl rfl rfl ⟨nd_X1.1, nd_X1.2, pd_X1_heldBy⟩ ⟨Nat.le_of_ble_eq_true rfl, Nat.le_of_ble_eq_true rfl⟩ ⟨Nat.zero_le _, Nat.zero_le _⟩ hl.1 rfl (by first | exact Nat.le_of_ble_eq_true rfl | simp [cat_rf, Value.category]) dX1_doDraw_64 (fun r15 σ16 H locs hp hw => ?_)
      obtain ⟨er15, eσ16⟩ := hp
      replace hok := hok.2 r15 σ16 er15 eσ16
      exact rt_I (u := σ16) hF hw hok (Nat.zero_le _) (Nat.zero_le _) dX1_doDraw_67
    · replace hok := hok.2 c6
      refine lv_aload_n hF.x hF.b dX1_doDraw_16 rfl (lv_at hl 0 rfl) ?_
      refine lv_bipush (v := (-3)) hF.x hF.b dX1_doDraw_17 (by decide) ?_
      refine ca_I hF hw (c1_fail l G a σ5 ((-3)) hok.1) wv_X1_137 (q0 := 0) rfl rfl rfl ⟨nd_X1.1, nd_X1.2, pd_X1_fail⟩ ⟨Nat.le_of_ble_eq_true rfl, Nat.le_of_ble_eq_true rfl⟩ ⟨Nat.zero_le _, Nat.zero_le _⟩ hl.1 rfl (by first | exact Nat.le_of_ble_eq_true rfl | simp [cat_rf, Value.category]) dX1_doDraw_19 (fun r17 σ18 H locs hp hw => ?_)
      obtain ⟨er17, eσ18⟩ := hp
      replace hok := hok.2 r17 σ18 er17 eσ18
      exact rt_I (u := σ18) hF hw hok (Nat.zero_le _) (Nat.zero_le _) dX1_doDraw_22

theorem p1_doDraw (σ : SX) (d1 : Nat) (v2 : Int32) (h : q1_doDraw σ d1 v2) : wp_X1_doDraw_0 σ d1 v2 (fun r u => r = (f1_doDraw σ d1 v2).1 ∧ u = (f1_doDraw σ d1 v2).2) := by
  refine ⟨fun c1 => ⟨trivial, fun r2 σ3 e2 e3 => ?_⟩, fun c1 => ⟨h.2, trivial, fun r4 σ5 e4 e5 => ?_⟩⟩
  · simp only [f1_doDraw]
    rw [if_pos c1]
    exact ⟨e2, e3⟩
  · obtain rfl : σ5 = σ := e5
    subst e4
    refine ⟨fun c2 => ⟨h.2, h.2, trivial, fun r7 σ8 e7 e8 => ?_⟩, fun c2 => ⟨trivial, fun r17 σ18 e17 e18 => ?_⟩⟩
    · obtain rfl : σ8 = σ5 := e8
      subst e7
      refine fun x9 e9 => ⟨trivial, fun σ10 e10 => ?_⟩
      subst e9
      have hD : σ10.2.2 = σ8.2.2 := by rw [e10, pour_D]
      rw [hD]
      refine ⟨h.2, h.2, trivial, fun r11 σ12 e11 e12 => ?_⟩
      obtain rfl : σ12 = σ10 := e12
      subst e11
      refine fun x13 e13 => ⟨trivial, fun σ14 e14 => ?_⟩
      subst e13
      have hD2 : σ14.2.2 = σ8.2.2 := by rw [e14, pour_D, hD]
      rw [hD2]
      refine ⟨h.2, trivial, fun r15 σ16 e15 e16 => ?_⟩
      obtain rfl : σ16 = σ14 := e16
      subst e14; subst e10
      simp only [f1_doDraw]
      rw [if_neg c1, if_pos c2]
      exact ⟨e15, rfl⟩
    · simp only [f1_doDraw]
      rw [if_neg c1, if_neg c2]
      exact ⟨e17, e18⟩

theorem c1_doDraw (l : Launch) (G : Gm) (a : AX) (σ : SX) (d1 : Nat) (v2 : Int32) (h : q1_doDraw σ d1 v2) : ctI l yX1_doDraw cX1_doDraw 3 .int (rr 2 42) G [.ref (a.1 13), .ref (a.2.1 d1), .int v2] (wX G a σ) (fun (r : Int32) (u : SX) => r = (f1_doDraw σ d1 v2).1 ∧ u = (f1_doDraw σ d1 v2).2) (wX G a) := by
  refine en_I (by decide +kernel) (Nat.le_of_ble_eq_true rfl) (fun p e s m below meth c A ls hF hw hl => ?_)
  exact k_X1_doDraw_0 hF σ d1 v2 hw hl (p1_doDraw σ d1 v2 h)

def wp_X1_doMark_0 (σ : SX) (d1 : Nat) (v2 : Int32)  (post : Int32 → SX → Prop) : Prop :=
  d1 < σ.2.2.2.1.1 ∧ ∀ o1 : Option Nat, o1 = (σ.2.2.2.1.2 d1).2 6 → d1 < σ.2.2.2.1.1 ∧ q1_hasMark σ o1 ((σ.2.2.2.1.2 d1).1 2) ∧ ∀ (r2 : Int32) (σ3 : SX), r2 = (f1_hasMark σ o1 ((σ.2.2.2.1.2 d1).1 2)).1 → σ3 = (f1_hasMark σ o1 ((σ.2.2.2.1.2 d1).1 2)).2 → (¬ r2 = 0 → d1 < σ3.2.2.2.1.1 ∧ ∃ w5 : Nat, o1 = some w5 ∧ w5 < σ3.2.2.2.2.1 ∧ vp_in ((σ3.2.2.2.1.2 d1).1 2) (σ3.2.2.2.2.2 w5).1 ∧ ∀ x6 : Int32, x6 = ((σ3.2.2.2.2.2 w5).2 ((σ3.2.2.2.1.2 d1).1 2).toNatClampNeg) + v2 → w5 < σ3.2.2.2.2.1 ∧ vp_in ((σ3.2.2.2.1.2 d1).1 2) (σ3.2.2.2.2.2 w5).1 ∧ ∀ σ7 : SX, σ7 = (σ3.1, σ3.2.1, σ3.2.2.1, σ3.2.2.2.1, (σ3.2.2.2.2.1, va_up σ3.2.2.2.2.2 w5 ((σ3.2.2.2.2.2 w5).1, upd (σ3.2.2.2.2.2 w5).2 ((σ3.2.2.2.1.2 d1).1 2).toNatClampNeg x6))) → d1 < σ7.2.2.2.1.1 ∧ w5 < σ7.2.2.2.2.1 ∧ vp_in ((σ7.2.2.2.1.2 d1).1 2) (σ7.2.2.2.2.2 w5).1 ∧ post ((σ7.2.2.2.2.2 w5).2 ((σ7.2.2.2.1.2 d1).1 2).toNatClampNeg) σ7) ∧ (r2 = 0 → q1_fail σ3 ((-4)) ∧ ∀ (r8 : Int32) (σ9 : SX), r8 = (f1_fail σ3 ((-4))).1 → σ9 = (f1_fail σ3 ((-4))).2 → post r8 σ9)
set_option maxHeartbeats 4000000 in
set_option maxRecDepth 100000 in
theorem k_X1_doMark_0 {l : Launch} {p : Program} {e : Env} {s : State} {m : MethodId} {below : List Frame} {meth : Method} {c : Code} {args : Array Value} {A : Nat → Prop} {G : Gm} {a : AX}  (hF : fx p s m args meth c cX1_doMark 4 yX1_doMark.cls kX1_doMark (some (.int))) {post : Int32 → SX → Prop}  (σ : SX) (d1 : Nat) (v2 : Int32) {H : Heap} {locs : List Loc} {ls : Array Slot} (hw : wb G A s (wX G a σ) H locs) (hl : lv_has ls 4 [(0, .ref (a.1 13)), (1, .ref (a.2.1 d1)), (2, .int v2)]) (hok : wp_X1_doMark_0 σ d1 v2  post) :
    W p l e (rr 1 21) s m args below meth c H locs 0 0 (MQ below (va_Qi post (po G A (wX G a)) A) args s 0 0 A) (F0 m 0 ls []) := by
  unfold wp_X1_doMark_0 at hok
  refine lv_aload_n hF.x hF.b dX1_doMark_0 rfl (lv_at hl 1 rfl) ?_
  refine rx_dget (k := 6) hF hw hok.1 (by decide) (by unfold nestW; simp [TX0]) rfl dX1_doMark_1 ?_
  obtain ⟨o1, eo1⟩ : ∃ z : Option Nat, z = (σ.2.2.2.1.2 d1).2 6 := ⟨_, rfl⟩
  rw [← eo1]
  replace hok := hok.2 o1 eo1
  refine lq_astore_n (lv' := [(3, va_rf (Option.map a.2.2 o1)), (0, .ref (a.1 13)), (1, .ref (a.2.1 d1)), (2, .int v2)]) hF dX1_doMark_4 rfl hl (by decide) (by first | rfl | (simp [cat_rf]; done) | (simp [cat_rf]; decide)) (fun ls hl => ?_)
  refine lq_aload_n hF dX1_doMark_5 rfl (lv_at hl 0 rfl) ?_
  refine lv_aload_n hF.x hF.b dX1_doMark_6 rfl (lv_at hl 2 rfl) ?_
  refine rx_dget (k := 2) hF hw hok.1 (by decide) (by unfold nestW; simp [TX0]) rfl dX1_doMark_7 ?_
  replace hok := hok.2
  refine ca_W hF hw (c1_hasMark l G a σ o1 ((σ.2.2.2.1.2 d1).1 2) hok.1) wv_X1_71 ⟨rfl, nd_X1.1, nd_X1.2, pd_X1_hasMark⟩ ⟨Nat.le_of_ble_eq_true rfl, Nat.le_of_ble_eq_true rfl⟩ ⟨Nat.zero_le _, Nat.zero_le _⟩ hl.1 rfl (by first | exact Nat.le_of_ble_eq_true rfl | simp [cat_rf, Value.category]) dX1_doMark_10 (fun r2 σ3 H locs hp hw => ?_)
  obtain ⟨er2, eσ3⟩ := hp
  replace hok := hok.2 r2 σ3 er2 eσ3
  refine lv_if_ne (tgt := 23) hF.x hF.b dX1_doMark_13 (by decide) (fun c4 => ?_) (fun c4 => ?_)
  · replace hok := hok.1 c4
    refine lq_aload_n hF dX1_doMark_23 rfl (lv_at hl 0 rfl) ?_
    refine lv_aload_n hF.x hF.b dX1_doMark_24 rfl (lv_at hl 2 rfl) ?_
    refine rx_dget (k := 2) hF hw hok.1 (by decide) (by unfold nestW; simp [TX0]) rfl dX1_doMark_25 ?_
    replace hok := hok.2
    refine lv_dup2_11 hF.x hF.b dX1_doMark_28 rfl (cat_rf _) ?_
    obtain ⟨w5, ew5, hok⟩ := hok
    subst ew5
    have hl : lv_has ls 4 [(3, .ref (a.2.2 w5)), (0, .ref (a.1 13)), (1, .ref (a.2.1 d1)), (2, .int v2)] := hl
    refine rx_rald hF hw hok.1 hok.2.1 dX1_doMark_29 ?_
    replace hok := hok.2.2
    refine lv_iload_n hF.x hF.b dX1_doMark_30 rfl (lv_at hl 3 rfl) ?_
    refine lv_iadd hF.x hF.b dX1_doMark_31 ?_
    refine lv_topi (fun x6 ex6 => ?_)
    replace hok := hok x6 ex6
    refine rx_rast hF hw hok.1 hok.2.1 dX1_doMark_32 (fun σ7 H locs eσ7 hw => ?_)
    replace hok := hok.2.2 σ7 eσ7
    refine lv_aload_n hF.x hF.b dX1_doMark_33 rfl (lv_at hl 0 rfl) ?_
    refine lv_aload_n hF.x hF.b dX1_doMark_34 rfl (lv_at hl 2 rfl) ?_
    refine rx_dget (k := 2) hF hw hok.1 (by decide) (by unfold nestW; simp [TX0]) rfl dX1_doMark_35 ?_
    replace hok := hok.2
    refine rx_rald hF hw hok.1 hok.2.1 dX1_doMark_38 ?_
    replace hok := hok.2.2
    exact rt_I (u := σ7) hF hw hok (Nat.zero_le _) (Nat.zero_le _) dX1_doMark_39
  · replace hok := hok.2 c4
    refine lv_aload_n hF.x hF.b dX1_doMark_16 rfl (lv_at hl 1 rfl) ?_
    refine lv_bipush (v := (-4)) hF.x hF.b dX1_doMark_17 (by decide) ?_
    refine ca_I hF hw (c1_fail l G a σ3 ((-4)) hok.1) wv_X1_137 (q0 := 0) rfl rfl rfl ⟨nd_X1.1, nd_X1.2, pd_X1_fail⟩ ⟨Nat.le_of_ble_eq_true rfl, Nat.le_of_ble_eq_true rfl⟩ ⟨Nat.zero_le _, Nat.zero_le _⟩ hl.1 rfl (by first | exact Nat.le_of_ble_eq_true rfl | simp [cat_rf, Value.category]) dX1_doMark_19 (fun r8 σ9 H locs hp hw => ?_)
    obtain ⟨er8, eσ9⟩ := hp
    replace hok := hok.2 r8 σ9 er8 eσ9
    exact rt_I (u := σ9) hF hw hok (Nat.zero_le _) (Nat.zero_le _) dX1_doMark_22

theorem p1_doMark (σ : SX) (d1 : Nat) (v2 : Int32) (h : q1_doMark σ d1 v2) : wp_X1_doMark_0 σ d1 v2 (fun r u => r = (f1_doMark σ d1 v2).1 ∧ u = (f1_doMark σ d1 v2).2) := by
  refine ⟨h.2, fun o1 e1 => ⟨h.2, fun r hr => (h.1.2.2.1 d1 h.2).2.2 r (by rw [← e1]; exact hr), fun r2 σ3 e2 e3 => ?_⟩⟩
  obtain rfl : σ3 = σ := e3
  subst e2
  refine ⟨fun c => ⟨h.2, ?_⟩, fun c => ⟨trivial, fun r8 σ9 e8 e9 => ?_⟩⟩
  · cases o1 with
    | none => exact absurd rfl c
    | some r =>
      have hr : r < σ3.2.2.2.2.1 := (h.1.2.2.1 d1 h.2).2.2 r e1.symm
      have hin : vp_in ((σ3.2.2.2.1.2 d1).1 2) (σ3.2.2.2.2.2 r).1 := hasMark_in c (h.1.2.2.2.1 r)
      refine ⟨r, rfl, hr, hin, fun x6 e6 => ⟨hr, hin, fun σ7 e7 => ?_⟩⟩
      subst e6; subst e7
      refine ⟨h.2, hr, ?_, ?_⟩
      · simp only [va_up_self]
        exact hin
      · simp only [f1_doMark]
        rw [← e1]
        dsimp only
        rw [if_neg c]
        exact ⟨by simp [va_up, upd], rfl⟩
  · simp only [f1_doMark]
    cases o1 with
    | none => rw [← e1]; exact ⟨e8, e9⟩
    | some r => rw [← e1]; dsimp only; rw [if_pos c]; exact ⟨e8, e9⟩

theorem c1_doMark (l : Launch) (G : Gm) (a : AX) (σ : SX) (d1 : Nat) (v2 : Int32) (h : q1_doMark σ d1 v2) : ctI l yX1_doMark cX1_doMark 4 .int (rr 1 21) G [.ref (a.1 13), .ref (a.2.1 d1), .int v2] (wX G a σ) (fun (r : Int32) (u : SX) => r = (f1_doMark σ d1 v2).1 ∧ u = (f1_doMark σ d1 v2).2) (wX G a) := by
  refine en_I (by decide +kernel) (Nat.le_of_ble_eq_true rfl) (fun p e s m below meth c A ls hF hw hl => ?_)
  exact k_X1_doMark_0 hF σ d1 v2 hw hl (p1_doMark σ d1 v2 h)

def wp_X1_doLater_0 (σ : SX) (d1 : Nat) (v2 : Int32)  (post : Int32 → SX → Prop) : Prop :=
  ((σ.1 7) < 12 → ∀ x2 : Int32, x2 = (σ.1 6) + (σ.1 7) → ¬ (12 : Int32) = 0 ∧ ∀ x3 : Int32, x3 = x2 - x2 / 12 * 12 → d1 < σ.2.2.2.1.1 ∧ ∀ o4 : Option Nat, o4 = (σ.2.2.2.1.2 d1).2 4 → vp_in x3 12 ∧ (∀ z, o4 = some z → z < σ.2.2.2.1.1) ∧ ∀ σ5 : SX, σ5 = (σ.1, σ.2.1, va_up σ.2.2.1 4 (va_up (σ.2.2.1 4) x3.toNatClampNeg o4), σ.2.2.2) → vp_in x3 12 ∧ ∀ σ6 : SX, σ6 = (σ5.1, va_up σ5.2.1 5 (upd (σ5.2.1 5) x3.toNatClampNeg v2), σ5.2.2) → ∀ x7 : Int32, x7 = (σ6.1 7) + 1 → ∀ σ8 : SX, σ8 = (va_up σ6.1 7 x7, σ6.2) → post (σ8.1 7) σ8) ∧ (¬ (σ.1 7) < 12 → q1_fail σ ((-7)) ∧ ∀ (r9 : Int32) (σ10 : SX), r9 = (f1_fail σ ((-7))).1 → σ10 = (f1_fail σ ((-7))).2 → post r9 σ10)
set_option maxHeartbeats 4000000 in
set_option maxRecDepth 100000 in
theorem k_X1_doLater_0 {l : Launch} {p : Program} {e : Env} {s : State} {m : MethodId} {below : List Frame} {meth : Method} {c : Code} {args : Array Value} {A : Nat → Prop} {G : Gm} {a : AX}  (hF : fx p s m args meth c cX1_doLater 4 yX1_doLater.cls kX1_doLater (some (.int))) {post : Int32 → SX → Prop}  (σ : SX) (d1 : Nat) (v2 : Int32) {H : Heap} {locs : List Loc} {ls : Array Slot} (hw : wb G A s (wX G a σ) H locs) (hl : lv_has ls 4 [(0, .ref (a.1 13)), (1, .ref (a.2.1 d1)), (2, .int v2)]) (hok : wp_X1_doLater_0 σ d1 v2  post) :
    W p l e (rr 1 21) s m args below meth c H locs 0 0 (MQ below (va_Qi post (po G A (wX G a)) A) args s 0 0 A) (F0 m 0 ls []) := by
  unfold wp_X1_doLater_0 at hok
  refine lv_aload_n hF.x hF.b dX1_doLater_0 rfl (lv_at hl 0 rfl) ?_
  refine r_get hF hw 0 rfl rfl inlX1 7 (by decide) wf_X1_37 rfl dX1_doLater_1 ?_
  refine lv_bipush (v := 12) hF.x hF.b dX1_doLater_4 (by decide) ?_
  refine lv_icmp_lt (tgt := 16) hF.x hF.b dX1_doLater_6 (by decide) (fun c1 => ?_) (fun c1 => ?_)
  · replace hok := hok.1 c1
    refine lv_aload_n hF.x hF.b dX1_doLater_16 rfl (lv_at hl 0 rfl) ?_
    refine r_get hF hw 0 rfl rfl inlX1 6 (by decide) wf_X1_33 rfl dX1_doLater_17 ?_
    refine lv_aload_n hF.x hF.b dX1_doLater_20 rfl (lv_at hl 0 rfl) ?_
    refine r_get hF hw 0 rfl rfl inlX1 7 (by decide) wf_X1_37 rfl dX1_doLater_21 ?_
    refine lv_iadd hF.x hF.b dX1_doLater_24 ?_
    refine lv_topi (fun x2 ex2 => ?_)
    replace hok := hok x2 ex2
    refine lv_bipush (v := 12) hF.x hF.b dX1_doLater_25 (by decide) ?_
    refine lv_irem hF.x hF.b dX1_doLater_27 hok.1 ?_
    refine lv_topi (fun x3 ex3 => ?_)
    replace hok := hok.2 x3 ex3
    refine lv_istore_n (lv' := [(3, .int x3), (0, .ref (a.1 13)), (1, .ref (a.2.1 d1)), (2, .int v2)]) hF.x hF.b dX1_doLater_28 rfl hl (by decide) rfl (fun ls hl => ?_)
    refine lv_aload_n hF.x hF.b dX1_doLater_29 rfl (lv_at hl 1 rfl) ?_
    refine r_get hF hw 0 rfl rfl inlX1 4 (by decide) wf_X1_27 rfl dX1_doLater_30 ?_
    refine lv_iload_n hF.x hF.b dX1_doLater_33 rfl (lv_at hl 0 rfl) ?_
    refine lv_aload_n hF.x hF.b dX1_doLater_34 rfl (lv_at hl 2 rfl) ?_
    refine rx_dget (k := 4) hF hw hok.1 (by decide) (by unfold nestW; simp [TX0]) rfl dX1_doLater_35 ?_
    obtain ⟨o4, eo4⟩ : ∃ z : Option Nat, z = (σ.2.2.2.1.2 d1).2 4 := ⟨_, rfl⟩
    rw [← eo4]
    replace hok := hok.2 o4 eo4
    refine rx_aast (o := o4) 4 12 hF hw (by decide) hok.1 hok.2.1 dX1_doLater_38 (fun σ5 H locs eσ5 hw => ?_)
    replace hok := hok.2.2 σ5 eσ5
    refine lv_aload_n hF.x hF.b dX1_doLater_39 rfl (lv_at hl 1 rfl) ?_
    refine r_get hF hw 0 rfl rfl inlX1 5 (by decide) wf_X1_30 rfl dX1_doLater_40 ?_
    refine lv_iload_n hF.x hF.b dX1_doLater_43 rfl (lv_at hl 0 rfl) ?_
    refine lv_iload_n hF.x hF.b dX1_doLater_44 rfl (lv_at hl 3 rfl) ?_
    refine rx_iast 5 12 hF hw (by decide) hok.1 dX1_doLater_45 (fun σ6 H locs eσ6 hw => ?_)
    replace hok := hok.2 σ6 eσ6
    refine lv_aload_n hF.x hF.b dX1_doLater_46 rfl (lv_at hl 1 rfl) ?_
    refine lv_dup hF.x hF.b dX1_doLater_47 rfl ?_
    refine r_get hF hw 0 rfl rfl inlX1 7 (by decide) wf_X1_37 rfl dX1_doLater_48 ?_
    refine lv_iconst (v := 1) hF.x hF.b dX1_doLater_51 (by decide) ?_
    refine lv_iadd hF.x hF.b dX1_doLater_52 ?_
    refine lv_topi (fun x7 ex7 => ?_)
    replace hok := hok x7 ex7
    refine rx_put (v := x7) 7 hF hw (by decide) wf_X1_37 dX1_doLater_53 (fun σ8 H locs eσ8 hw => ?_)
    replace hok := hok σ8 eσ8
    refine lv_aload_n hF.x hF.b dX1_doLater_56 rfl (lv_at hl 1 rfl) ?_
    refine r_get hF hw 0 rfl rfl inlX1 7 (by decide) wf_X1_37 rfl dX1_doLater_57 ?_
    exact rt_I (u := σ8) hF hw hok (Nat.zero_le _) (Nat.zero_le _) dX1_doLater_60
  · replace hok := hok.2 c1
    refine lv_aload_n hF.x hF.b dX1_doLater_9 rfl (lv_at hl 0 rfl) ?_
    refine lv_bipush (v := (-7)) hF.x hF.b dX1_doLater_10 (by decide) ?_
    refine ca_I hF hw (c1_fail l G a σ ((-7)) hok.1) wv_X1_137 (q0 := 0) rfl rfl rfl ⟨nd_X1.1, nd_X1.2, pd_X1_fail⟩ ⟨Nat.le_of_ble_eq_true rfl, Nat.le_of_ble_eq_true rfl⟩ ⟨Nat.zero_le _, Nat.zero_le _⟩ hl.1 rfl (by first | exact Nat.le_of_ble_eq_true rfl | simp [cat_rf, Value.category]) dX1_doLater_12 (fun r9 σ10 H locs hp hw => ?_)
    obtain ⟨er9, eσ10⟩ := hp
    replace hok := hok.2 r9 σ10 er9 eσ10
    exact rt_I (u := σ10) hF hw hok (Nat.zero_le _) (Nat.zero_le _) dX1_doLater_15

theorem p1_doLater (σ : SX) (d1 : Nat) (v2 : Int32) (h : q1_doLater σ d1 v2) : wp_X1_doLater_0 σ d1 v2 (fun r u => r = (f1_doLater σ d1 v2).1 ∧ u = (f1_doLater σ d1 v2).2) := by
  obtain ⟨hq, w, hh, hw, e6, e7⟩ := h.1.2.2.2.2
  refine ⟨fun c x2 e2 => ⟨by decide, fun x3 e3 => ⟨h.2, fun o4 e4 => ?_⟩⟩, fun c => ⟨trivial, fun r8 σ9 e8 e9 => ?_⟩⟩
  · subst e2
    have e3' : x3 = x_end σ := e3
    have hin : vp_in x3 12 := by rw [e3', x_end_at hh hw e6 e7]; exact vp_in_nI (by omega) (by decide)
    refine ⟨hin, fun z hz => (h.1.2.2.1 d1 h.2).1 z (by rw [← e4]; exact hz), fun σ5 e5 => ⟨hin, fun σ6 e6' x7 e7' σ8 e8 => ?_⟩⟩
    subst e5; subst e6'; subst e7'; subst e8; subst e3'; subst e4
    simp only [f1_doLater]
    rw [if_pos c]
    exact ⟨by simp [va_up], rfl⟩
  · simp only [f1_doLater]
    rw [if_neg c]
    exact ⟨e8, e9⟩

theorem c1_doLater (l : Launch) (G : Gm) (a : AX) (σ : SX) (d1 : Nat) (v2 : Int32) (h : q1_doLater σ d1 v2) : ctI l yX1_doLater cX1_doLater 4 .int (rr 1 21) G [.ref (a.1 13), .ref (a.2.1 d1), .int v2] (wX G a σ) (fun (r : Int32) (u : SX) => r = (f1_doLater σ d1 v2).1 ∧ u = (f1_doLater σ d1 v2).2) (wX G a) := by
  refine en_I (by decide +kernel) (Nat.le_of_ble_eq_true rfl) (fun p e s m below meth c A ls hF hw hl => ?_)
  exact k_X1_doLater_0 hF σ d1 v2 hw hl (p1_doLater σ d1 v2 h)

def wp_X1_doAlone_0 (σ : SX) (d1 : Nat) (v2 : Int32)  (post : Int32 → SX → Prop) : Prop :=
  d1 < σ.2.2.2.1.1 ∧ (((σ.2.2.2.1.2 d1).1 0).toInt < 0 ∨ 6 < ((σ.2.2.2.1.2 d1).1 0).toInt → q1_fail σ ((-6)) ∧ ∀ (r2 : Int32) (σ3 : SX), r2 = (f1_fail σ ((-6))).1 → σ3 = (f1_fail σ ((-6))).2 → post r2 σ3) ∧ (((σ.2.2.2.1.2 d1).1 0) = 0 → d1 < σ.2.2.2.1.1 ∧ post ((σ.2.2.2.1.2 d1).1 1) σ) ∧ (((σ.2.2.2.1.2 d1).1 0) = 1 → q1_doSet σ d1 v2 ∧ ∀ (r4 : Int32) (σ5 : SX), r4 = (f1_doSet σ d1 v2).1 → σ5 = (f1_doSet σ d1 v2).2 → post r4 σ5) ∧ (((σ.2.2.2.1.2 d1).1 0) = 2 → q1_doAdd σ d1 v2 ∧ ∀ (r6 : Int32) (σ7 : SX), r6 = (f1_doAdd σ d1 v2).1 → σ7 = (f1_doAdd σ d1 v2).2 → post r6 σ7) ∧ (((σ.2.2.2.1.2 d1).1 0) = 3 → q1_doDraw σ d1 v2 ∧ ∀ (r8 : Int32) (σ9 : SX), r8 = (f1_doDraw σ d1 v2).1 → σ9 = (f1_doDraw σ d1 v2).2 → post r8 σ9) ∧ (((σ.2.2.2.1.2 d1).1 0) = 4 → q1_doMark σ d1 v2 ∧ ∀ (r10 : Int32) (σ11 : SX), r10 = (f1_doMark σ d1 v2).1 → σ11 = (f1_doMark σ d1 v2).2 → post r10 σ11) ∧ (((σ.2.2.2.1.2 d1).1 0) = 5 → d1 < σ.2.2.2.1.1 ∧ (¬ ((σ.2.2.2.1.2 d1).1 1) = 0 → d1 < σ.2.2.2.1.1 ∧ ¬ ((σ.2.2.2.1.2 d1).1 1 : Int32) = 0 ∧ ∀ x13 : Int32, x13 = v2 / ((σ.2.2.2.1.2 d1).1 1) → post x13 σ) ∧ (((σ.2.2.2.1.2 d1).1 1) = 0 → q1_fail σ ((-5)) ∧ ∀ (r14 : Int32) (σ15 : SX), r14 = (f1_fail σ ((-5))).1 → σ15 = (f1_fail σ ((-5))).2 → post r14 σ15)) ∧ (((σ.2.2.2.1.2 d1).1 0) = 6 → d1 < σ.2.2.2.1.1 ∧ ∀ x16 : Int32, x16 = v2 + ((σ.2.2.2.1.2 d1).1 1) → post x16 σ)
set_option maxHeartbeats 4000000 in
set_option maxRecDepth 100000 in
theorem k_X1_doAlone_0 {l : Launch} {p : Program} {e : Env} {s : State} {m : MethodId} {below : List Frame} {meth : Method} {c : Code} {args : Array Value} {A : Nat → Prop} {G : Gm} {a : AX}  (hF : fx p s m args meth c cX1_doAlone 3 yX1_doAlone.cls kX1_doAlone (some (.int))) {post : Int32 → SX → Prop}  (σ : SX) (d1 : Nat) (v2 : Int32) {H : Heap} {locs : List Loc} {ls : Array Slot} (hw : wb G A s (wX G a σ) H locs) (hl : lv_has ls 3 [(0, .ref (a.1 13)), (1, .ref (a.2.1 d1)), (2, .int v2)]) (hok : wp_X1_doAlone_0 σ d1 v2  post) :
    W p l e (rr 3 65) s m args below meth c H locs 0 0 (MQ below (va_Qi post (po G A (wX G a)) A) args s 0 0 A) (F0 m 0 ls []) := by
  unfold wp_X1_doAlone_0 at hok
  refine lv_aload_n hF.x hF.b dX1_doAlone_0 rfl (lv_at hl 1 rfl) ?_
  refine rx_dget (k := 0) hF hw hok.1 (by decide) (by unfold nestW; simp [TX0]) rfl dX1_doAlone_1 ?_
  replace hok := hok.2
  by_cases c1 : ((σ.2.2.2.1.2 d1).1 0).toInt < 0 ∨ 6 < ((σ.2.2.2.1.2 d1).1 0).toInt
  · replace hok := hok.1 c1
    refine lv_tableOut (tgt := 111) hF.x hF.b dX1_doAlone_4 c1 (by decide) ?_
    refine lv_aload_n hF.x hF.b dX1_doAlone_111 rfl (lv_at hl 0 rfl) ?_
    refine lv_bipush (v := (-6)) hF.x hF.b dX1_doAlone_112 (by decide) ?_
    refine ca_I hF hw (c1_fail l G a σ ((-6)) hok.1) wv_X1_137 (q0 := 0) rfl rfl rfl ⟨nd_X1.1, nd_X1.2, pd_X1_fail⟩ ⟨Nat.le_of_ble_eq_true rfl, Nat.le_of_ble_eq_true rfl⟩ ⟨Nat.zero_le _, Nat.zero_le _⟩ hl.1 rfl (by first | exact Nat.le_of_ble_eq_true rfl | simp [cat_rf, Value.category]) dX1_doAlone_114 (fun r2 σ3 H locs hp hw => ?_)
    obtain ⟨er2, eσ3⟩ := hp
    replace hok := hok.2 r2 σ3 er2 eσ3
    exact rt_I (u := σ3) hF hw hok (Nat.zero_le _) (Nat.zero_le _) dX1_doAlone_117
  · obtain ⟨j, hj1, hj2, ex⟩ := sw_in (lo := 0) (hi := 6) c1 (by decide)
    rcases (show j = 0 ∨ j = 1 ∨ j = 2 ∨ j = 3 ∨ j = 4 ∨ j = 5 ∨ j = 6 by omega) with rfl | rfl | rfl | rfl | rfl | rfl | rfl
    · replace hok := hok.2.1 ex
      refine lv_tableIn (off := 44) (tgt := 48) hF.x hF.b dX1_doAlone_4 (by rw [ex]; decide) (by rw [ex]; decide) (by rw [ex]; rfl) (by decide) ?_
      refine lv_aload_n hF.x hF.b dX1_doAlone_48 rfl (lv_at hl 1 rfl) ?_
      refine rx_dget (k := 1) hF hw hok.1 (by decide) (by unfold nestW; simp [TX0]) rfl dX1_doAlone_49 ?_
      replace hok := hok.2
      exact rt_I (u := σ) hF hw hok (Nat.zero_le _) (Nat.zero_le _) dX1_doAlone_52
    · replace hok := hok.2.2.1 ex
      refine lv_tableIn (off := 49) (tgt := 53) hF.x hF.b dX1_doAlone_4 (by rw [ex]; decide) (by rw [ex]; decide) (by rw [ex]; rfl) (by decide) ?_
      refine lv_aload_n hF.x hF.b dX1_doAlone_53 rfl (lv_at hl 0 rfl) ?_
      refine lv_aload_n hF.x hF.b dX1_doAlone_54 rfl (lv_at hl 1 rfl) ?_
      refine lv_iload_n hF.x hF.b dX1_doAlone_55 rfl (lv_at hl 2 rfl) ?_
      refine ca_I hF hw (c1_doSet l G a σ d1 v2 hok.1) wv_X1_150 (q0 := 0) rfl rfl rfl ⟨nd_X1.1, nd_X1.2, pd_X1_doSet⟩ ⟨Nat.le_of_ble_eq_true rfl, Nat.le_of_ble_eq_true rfl⟩ ⟨Nat.zero_le _, Nat.zero_le _⟩ hl.1 rfl (by first | exact Nat.le_of_ble_eq_true rfl | simp [cat_rf, Value.category]) dX1_doAlone_56 (fun r4 σ5 H locs hp hw => ?_)
      obtain ⟨er4, eσ5⟩ := hp
      replace hok := hok.2 r4 σ5 er4 eσ5
      exact rt_I (u := σ5) hF hw hok (Nat.zero_le _) (Nat.zero_le _) dX1_doAlone_59
    · replace hok := hok.2.2.2.1 ex
      refine lv_tableIn (off := 56) (tgt := 60) hF.x hF.b dX1_doAlone_4 (by rw [ex]; decide) (by rw [ex]; decide) (by rw [ex]; rfl) (by decide) ?_
      refine lv_aload_n hF.x hF.b dX1_doAlone_60 rfl (lv_at hl 0 rfl) ?_
      refine lv_aload_n hF.x hF.b dX1_doAlone_61 rfl (lv_at hl 1 rfl) ?_
      refine lv_iload_n hF.x hF.b dX1_doAlone_62 rfl (lv_at hl 2 rfl) ?_
      refine ca_I hF hw (c1_doAdd l G a σ d1 v2 hok.1) wv_X1_153 (q0 := 0) rfl rfl rfl ⟨nd_X1.1, nd_X1.2, pd_X1_doAdd⟩ ⟨Nat.le_of_ble_eq_true rfl, Nat.le_of_ble_eq_true rfl⟩ ⟨Nat.zero_le _, Nat.zero_le _⟩ hl.1 rfl (by first | exact Nat.le_of_ble_eq_true rfl | simp [cat_rf, Value.category]) dX1_doAlone_63 (fun r6 σ7 H locs hp hw => ?_)
      obtain ⟨er6, eσ7⟩ := hp
      replace hok := hok.2 r6 σ7 er6 eσ7
      exact rt_I (u := σ7) hF hw hok (Nat.zero_le _) (Nat.zero_le _) dX1_doAlone_66
    · replace hok := hok.2.2.2.2.1 ex
      refine lv_tableIn (off := 63) (tgt := 67) hF.x hF.b dX1_doAlone_4 (by rw [ex]; decide) (by rw [ex]; decide) (by rw [ex]; rfl) (by decide) ?_
      refine lv_aload_n hF.x hF.b dX1_doAlone_67 rfl (lv_at hl 0 rfl) ?_
      refine lv_aload_n hF.x hF.b dX1_doAlone_68 rfl (lv_at hl 1 rfl) ?_
      refine lv_iload_n hF.x hF.b dX1_doAlone_69 rfl (lv_at hl 2 rfl) ?_
      refine ca_I hF hw (c1_doDraw l G a σ d1 v2 hok.1) wv_X1_156 (q0 := 0) rfl rfl rfl ⟨nd_X1.1, nd_X1.2, pd_X1_doDraw⟩ ⟨Nat.le_of_ble_eq_true rfl, Nat.le_of_ble_eq_true rfl⟩ ⟨Nat.zero_le _, Nat.zero_le _⟩ hl.1 rfl (by first | exact Nat.le_of_ble_eq_true rfl | simp [cat_rf, Value.category]) dX1_doAlone_70 (fun r8 σ9 H locs hp hw => ?_)
      obtain ⟨er8, eσ9⟩ := hp
      replace hok := hok.2 r8 σ9 er8 eσ9
      exact rt_I (u := σ9) hF hw hok (Nat.zero_le _) (Nat.zero_le _) dX1_doAlone_73
    · replace hok := hok.2.2.2.2.2.1 ex
      refine lv_tableIn (off := 70) (tgt := 74) hF.x hF.b dX1_doAlone_4 (by rw [ex]; decide) (by rw [ex]; decide) (by rw [ex]; rfl) (by decide) ?_
      refine lv_aload_n hF.x hF.b dX1_doAlone_74 rfl (lv_at hl 0 rfl) ?_
      refine lv_aload_n hF.x hF.b dX1_doAlone_75 rfl (lv_at hl 1 rfl) ?_
      refine lv_iload_n hF.x hF.b dX1_doAlone_76 rfl (lv_at hl 2 rfl) ?_
      refine ca_I hF hw (c1_doMark l G a σ d1 v2 hok.1) wv_X1_159 (q0 := 0) rfl rfl rfl ⟨nd_X1.1, nd_X1.2, pd_X1_doMark⟩ ⟨Nat.le_of_ble_eq_true rfl, Nat.le_of_ble_eq_true rfl⟩ ⟨Nat.zero_le _, Nat.zero_le _⟩ hl.1 rfl (by first | exact Nat.le_of_ble_eq_true rfl | simp [cat_rf, Value.category]) dX1_doAlone_77 (fun r10 σ11 H locs hp hw => ?_)
      obtain ⟨er10, eσ11⟩ := hp
      replace hok := hok.2 r10 σ11 er10 eσ11
      exact rt_I (u := σ11) hF hw hok (Nat.zero_le _) (Nat.zero_le _) dX1_doAlone_80
    · replace hok := hok.2.2.2.2.2.2.1 ex
      refine lv_tableIn (off := 77) (tgt := 81) hF.x hF.b dX1_doAlone_4 (by rw [ex]; decide) (by rw [ex]; decide) (by rw [ex]; rfl) (by decide) ?_
      refine lv_aload_n hF.x hF.b dX1_doAlone_81 rfl (lv_at hl 1 rfl) ?_
      refine rx_dget (k := 1) hF hw hok.1 (by decide) (by unfold nestW; simp [TX0]) rfl dX1_doAlone_82 ?_
      replace hok := hok.2
      refine lv_if_ne (tgt := 97) hF.x hF.b dX1_doAlone_85 (by decide) (fun c12 => ?_) (fun c12 => ?_)
      · replace hok := hok.1 c12
        refine lv_iload_n hF.x hF.b dX1_doAlone_97 rfl (lv_at hl 2 rfl) ?_
        refine lv_aload_n hF.x hF.b dX1_doAlone_98 rfl (lv_at hl 1 rfl) ?_
        refine rx_dget (k := 1) hF hw hok.1 (by decide) (by unfold nestW; simp [TX0]) rfl dX1_doAlone_99 ?_
        replace hok := hok.2
        refine lv_idiv hF.x hF.b dX1_doAlone_102 hok.1 ?_
        refine lv_topi (fun x13 ex13 => ?_)
        replace hok := hok.2 x13 ex13
        exact rt_I (u := σ) hF hw hok (Nat.zero_le _) (Nat.zero_le _) dX1_doAlone_103
      · replace hok := hok.2 c12
        refine lv_aload_n hF.x hF.b dX1_doAlone_88 rfl (lv_at hl 0 rfl) ?_
        refine lv_bipush (v := (-5)) hF.x hF.b dX1_doAlone_89 (by decide) ?_
        refine ca_I hF hw (c1_fail l G a σ ((-5)) hok.1) wv_X1_137 (q0 := 0) rfl rfl rfl ⟨nd_X1.1, nd_X1.2, pd_X1_fail⟩ ⟨Nat.le_of_ble_eq_true rfl, Nat.le_of_ble_eq_true rfl⟩ ⟨Nat.zero_le _, Nat.zero_le _⟩ hl.1 rfl (by first | exact Nat.le_of_ble_eq_true rfl | simp [cat_rf, Value.category]) dX1_doAlone_91 (fun r14 σ15 H locs hp hw => ?_)
        obtain ⟨er14, eσ15⟩ := hp
        replace hok := hok.2 r14 σ15 er14 eσ15
        refine lv_goto (tgt := 103) hF.x hF.b dX1_doAlone_94 (by decide) ?_
        exact rt_I (u := σ15) hF hw hok (Nat.zero_le _) (Nat.zero_le _) dX1_doAlone_103
    · replace hok := hok.2.2.2.2.2.2.2 ex
      refine lv_tableIn (off := 100) (tgt := 104) hF.x hF.b dX1_doAlone_4 (by rw [ex]; decide) (by rw [ex]; decide) (by rw [ex]; rfl) (by decide) ?_
      refine lv_iload_n hF.x hF.b dX1_doAlone_104 rfl (lv_at hl 2 rfl) ?_
      refine lv_aload_n hF.x hF.b dX1_doAlone_105 rfl (lv_at hl 1 rfl) ?_
      refine rx_dget (k := 1) hF hw hok.1 (by decide) (by unfold nestW; simp [TX0]) rfl dX1_doAlone_106 ?_
      replace hok := hok.2
      refine lv_iadd hF.x hF.b dX1_doAlone_109 ?_
      refine lv_topi (fun x16 ex16 => ?_)
      replace hok := hok x16 ex16
      exact rt_I (u := σ) hF hw hok (Nat.zero_le _) (Nat.zero_le _) dX1_doAlone_110

theorem p1_doAlone (σ : SX) (d1 : Nat) (v2 : Int32) (h : q1_doAlone σ d1 v2) : wp_X1_doAlone_0 σ d1 v2 (fun r u => r = (f1_doAlone σ d1 v2).1 ∧ u = (f1_doAlone σ d1 v2).2) := by
  refine ⟨h.2, fun c => ⟨trivial, fun r2 σ3 e2 e3 => ?_⟩, fun c => ⟨h.2, ?_⟩, fun c => ⟨h, fun r4 σ5 e4 e5 => ?_⟩, fun c => ⟨h, fun r4 σ5 e4 e5 => ?_⟩, fun c => ⟨h, fun r4 σ5 e4 e5 => ?_⟩, fun c => ⟨h, fun r4 σ5 e4 e5 => ?_⟩, fun c => ⟨h.2, fun c2 => ⟨h.2, c2, fun x13 e13 => ?_⟩, fun c2 => ⟨trivial, fun r4 σ5 e4 e5 => ?_⟩⟩, fun c => ⟨h.2, fun x16 e16 => ?_⟩⟩ <;> simp only [f1_doAlone]
  · have hk : ∀ n : Nat, n ≤ 6 → ¬ (σ.2.2.2.1.2 d1).1 0 = nI n := fun n hn e => by
      rw [e, nI_toInt (by omega)] at c
      omega
    rw [if_neg (show ¬ (σ.2.2.2.1.2 d1).1 0 = 0 from hk 0 (by decide)), if_neg (show ¬ (σ.2.2.2.1.2 d1).1 0 = 1 from hk 1 (by decide)), if_neg (show ¬ (σ.2.2.2.1.2 d1).1 0 = 2 from hk 2 (by decide)), if_neg (show ¬ (σ.2.2.2.1.2 d1).1 0 = 3 from hk 3 (by decide)), if_neg (show ¬ (σ.2.2.2.1.2 d1).1 0 = 4 from hk 4 (by decide)), if_neg (show ¬ (σ.2.2.2.1.2 d1).1 0 = 5 from hk 5 (by decide)), if_neg (show ¬ (σ.2.2.2.1.2 d1).1 0 = 6 from hk 6 (by decide))]
    exact ⟨e2, e3⟩
  · rw [c, if_pos (by decide)]; exact ⟨rfl, rfl⟩
  · rw [c, if_neg (by decide), if_pos (by decide)]; exact ⟨e4, e5⟩
  · rw [c, if_neg (by decide), if_neg (by decide), if_pos (by decide)]; exact ⟨e4, e5⟩
  · rw [c, if_neg (by decide), if_neg (by decide), if_neg (by decide), if_pos (by decide)]; exact ⟨e4, e5⟩
  · rw [c, if_neg (by decide), if_neg (by decide), if_neg (by decide), if_neg (by decide), if_pos (by decide)]; exact ⟨e4, e5⟩
  · rw [c, if_neg (by decide), if_neg (by decide), if_neg (by decide), if_neg (by decide), if_neg (by decide), if_pos (by decide), if_neg c2]; exact ⟨e13, rfl⟩
  · rw [c, if_neg (by decide), if_neg (by decide), if_neg (by decide), if_neg (by decide), if_neg (by decide), if_pos (by decide), if_pos c2]; exact ⟨e4, e5⟩
  · rw [c, if_neg (by decide), if_neg (by decide), if_neg (by decide), if_neg (by decide), if_neg (by decide), if_neg (by decide), if_pos (by decide)]; exact ⟨e16, rfl⟩

theorem c1_doAlone (l : Launch) (G : Gm) (a : AX) (σ : SX) (d1 : Nat) (v2 : Int32) (h : q1_doAlone σ d1 v2) : ctI l yX1_doAlone cX1_doAlone 3 .int (rr 3 65) G [.ref (a.1 13), .ref (a.2.1 d1), .int v2] (wX G a σ) (fun (r : Int32) (u : SX) => r = (f1_doAlone σ d1 v2).1 ∧ u = (f1_doAlone σ d1 v2).2) (wX G a) := by
  refine en_I (by decide +kernel) (Nat.le_of_ble_eq_true rfl) (fun p e s m below meth c A ls hF hw hl => ?_)
  exact k_X1_doAlone_0 hF σ d1 v2 hw hl (p1_doAlone σ d1 v2 h)
