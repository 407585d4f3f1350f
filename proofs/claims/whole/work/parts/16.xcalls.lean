/-! the calls of a hall that make nothing -/
abbrev q1_fill (_ : SX) (_ _ : Int32) : Prop := True
def f1_fill (σ : SX) (b v : Int32) : Int32 × SX := ((f1_heldBy σ b).1, f1_pour σ b v)
abbrev q1_basin (_ : SX) (_ : Int32) : Prop := True
def f1_basin (σ : SX) (b : Int32) : Int32 × SX := ((f1_heldBy σ b).1, σ)
abbrev q1_mark (σ : SX) (_ _ : Int32) : Prop := WFX σ
def f1_mark (σ : SX) (g i : Int32) : Int32 × SX := (match (f1_gaugeNow σ g).1 with
  | none => 0
  | some r => if (f1_hasMark σ (some r) i).1 = 0 then 0 else (σ.2.2.2.2.2 r).2 i.toNatClampNeg, σ)
abbrev q1_copy (σ : SX) (_ _ : Int32) : Prop := WFX σ
def f1_copy (σ : SX) (x y : Int32) : Int32 × SX := if f1_isSlot x = 0 then (-1, σ) else if f1_isSlot y = 0 then (-1, σ) else
  match σ.2.2.1 2 x.toNatClampNeg with
  | none => (-2, σ)
  | some d => (1, sxO σ 2 (va_up (σ.2.2.1 2) y.toNatClampNeg (some d)))
abbrev q1_drop (σ : SX) (_ : Int32) : Prop := WFX σ
def f1_drop (σ : SX) (x : Int32) : Int32 × SX := if f1_isSlot x = 0 then (-1, σ) else
  match σ.2.2.1 2 x.toNatClampNeg with
  | none => (-2, σ)
  | some _ => (1, sxO σ 2 (va_up (σ.2.2.1 2) x.toNatClampNeg none))
abbrev q1_lever (σ : SX) (_ _ _ : Int32) : Prop := WFX σ
def f1_lever (σ : SX) (l pl sl : Int32) : Int32 × SX :=
  if f1_isLever l = 0 then (-1, σ) else if pl < 0 then (-1, σ) else if 4 ≤ pl then (-1, σ)
  else if ¬ sl = -1 ∧ f1_isSlot sl = 0 then (-1, σ)
  else if ¬ sl = -1 ∧ (f1_inSlot σ sl).1 = none then (-2, σ)
  else (1, sxO σ 3 (va_up (σ.2.2.1 3) (l * 4 + pl).toNatClampNeg (f1_inSlot σ sl).1))
abbrev q1_same (σ : SX) (_ _ : Int32) : Prop := WFX σ
def f1_same (σ : SX) (x y : Int32) : Int32 × SX := if f1_isSlot x = 0 then (-1, σ) else if f1_isSlot y = 0 then (-1, σ) else
  (match σ.2.2.1 2 x.toNatClampNeg with
  | none => 0
  | some d => if some d = σ.2.2.1 2 y.toNatClampNeg then 1 else 0, σ)
abbrev q1_count (σ : SX) (_ : Int32) : Prop := WFX σ
def f1_count (σ : SX) (x : Int32) : Int32 × SX := if f1_isSlot x = 0 then (-1, σ) else
  (match σ.2.2.1 2 x.toNatClampNeg with
  | none => -2
  | some d => if (σ.2.2.2.1.2 d).1 0 = 12 then (σ.2.2.2.1.2 d).1 7 else -2, σ)
abbrev q1_act (σ : SX) (_ _ : Int32) : Prop := WFX σ
def f1_act (σ : SX) (x p : Int32) : Int32 × SX := if f1_isSlot x = 0 then f1_refuse σ (-1) else
  match σ.2.2.1 2 x.toNatClampNeg with
  | none => f1_refuse σ (-2)
  | some d => ((fdo 16 (f1_begin σ) (some d) p).1, f1_noteFailure (fdo 16 (f1_begin σ) (some d) p).2)
abbrev q1_pull (σ : SX) (_ _ : Int32) : Prop := WFX σ
def f1_pull (σ : SX) (x p : Int32) : Int32 × SX := if f1_isLever x = 0 then f1_refuse σ (-1) else
  ((fx_places (fdo 16) (f1_begin σ) x p).1, f1_noteFailure (fx_places (fdo 16) (f1_begin σ) x p).2)
/-- the longest waiting is taken out -/
def x_out (σ : SX) : SX := (va_up (va_up σ.1 6 ((σ.1 6 + 1) - (σ.1 6 + 1) / 12 * 12)) 7 (σ.1 7 - 1), σ.2.1, va_up σ.2.2.1 4 (va_up (σ.2.2.1 4) (σ.1 6).toNatClampNeg none), σ.2.2.2)
def WF1 (σ : SX) : Prop := WFX σ ∧ 1 ≤ (σ.1 7).toInt
abbrev q1_doLongestWaiting (σ : SX) : Prop := WF1 σ
def f1_doLongestWaiting (σ : SX) : SX := (fdo 16 (x_out σ) (σ.2.2.1 4 (σ.1 6).toNatClampNeg) (σ.2.1 5 (σ.1 6).toNatClampNeg)).2
def fx_tick1 (σ : SX) : SX := f1_noteFailure (f1_doLongestWaiting (sxI σ 11 0))
def fx_tick : Nat → SX → Int32 → Int32 × SX
  | 0, σ, g => (g, σ)
  | n + 1, σ, g => fx_tick n (fx_tick1 σ) (if (fx_tick1 σ).1 11 = 0 then g + 1 else g)
abbrev q1_tick (σ : SX) : Prop := WFX σ
def f1_tick (σ : SX) : Int32 × SX := fx_tick (σ.1 7).toNatClampNeg (f1_begin σ) 0
abbrev q1_failed (_ : SX) : Prop := True
def f1_failed (σ : SX) : Int32 × SX := (σ.1 12, σ)
def x_inUse (f : Nat → Option Nat) : Nat → Nat
  | 0 => 0
  | n + 1 => x_inUse f n + (if f n = none then 0 else 1)
theorem x_inUse_le (f : Nat → Option Nat) : ∀ n, x_inUse f n ≤ n := by
  intro n
  induction n with
  | zero => exact Nat.le_refl 0
  | succ n ih => simp only [x_inUse]; split <;> omega
abbrev q1_slotsInUse (_ : SX) : Prop := True
def f1_slotsInUse (σ : SX) : Int32 × SX := (nI (x_inUse (σ.2.2.1 2) 20), σ)
abbrev q1_told (_ : SX) (_ : Int32) : Prop := True
def f1_told (σ : SX) (w : Int32) : Int32 × SX := (if w = 0 then σ.1 8 else if w = 1 then σ.1 7 else if w = 2 then σ.1 9 else if w = 3 then σ.1 10 else if w = 4 then nI (x_inUse (σ.2.2.1 2) 20) else -1, σ)
def wipe {α : Type} (f : Nat → α) (v : α) (n : Nat) : Nat → α := fun i => if i < n then v else f i
theorem wipe_0 {α : Type} (f : Nat → α) (v : α) : wipe f v 0 = f := by funext i; simp [wipe]
theorem wipe_s {α : Type} (f : Nat → α) (v : α) (n : Nat) : va_up (wipe f v n) n v = wipe f v (n + 1) := by
  funext i
  by_cases h : i = n
  · subst h; simp [va_up, wipe]
  · simp only [va_up, wipe, if_neg h]
    by_cases h2 : i < n
    · rw [if_pos h2, if_pos (by omega)]
    · rw [if_neg h2, if_neg (by omega)]
theorem upd_va (f : Nat → Int32) (k : Nat) (v : Int32) : upd f k v = va_up f k v := rfl
abbrev q1_emptyHall (_ : SX) : Prop := True
def f1_emptyHall (σ : SX) : SX := (σ.1, va_up σ.2.1 0 (wipe (σ.2.1 0) 0 10), va_up σ.2.2.1 1 (wipe (σ.2.2.1 1) none 3), σ.2.2.2)
abbrev q1_emptyDeeds (_ : SX) : Prop := True
def f1_emptyDeeds (σ : SX) : SX := sxO (sxO (sxO σ 2 (wipe (σ.2.2.1 2) none 20)) 3 (wipe (σ.2.2.1 3) none 20)) 4 (wipe (σ.2.2.1 4) none 12)
abbrev q1_clear (_ : SX) : Prop := True
def f1_clear (σ : SX) : Int32 × SX := (σ.1 8, f1_begin (sxI (sxI (sxI (sxI (f1_emptyDeeds (f1_emptyHall σ)) 6 0) 7 0) 8 0) 10 0))
theorem up_same {α : Type} (f : Nat → α) (k : Nat) : va_up f k (f k) = f := by
  funext i
  by_cases h : i = k
  · subst h; simp [va_up]
  · simp [va_up, h]
theorem up_up {α : Type} (f : Nat → α) (k : Nat) (v w : α) : va_up (va_up f k v) k w = va_up f k w := by
  funext i
  by_cases h : i = k
  · subst h; simp [va_up]
  · simp [va_up, h]
theorem XK.begin {σ : SX} (h : WFX σ) : XK σ (f1_begin σ) :=
  have h1 := XK.sI h 9 0 (by decide) (by decide)
  have h2 := XK.sI h1.1 11 0 (by decide) (by decide)
  (h1.tr h2).tr (XK.sI h2.1 12 0 (by decide) (by decide))
theorem XK.note {σ : SX} (h : WFX σ) : XK σ (f1_noteFailure σ) := by
  unfold f1_noteFailure
  split
  · exact XK.rf h
  · have h1 := XK.sI h 10 (σ.1 10 + 1) (by decide) (by decide)
    exact h1.tr (XK.sI h1.1 12 _ (by decide) (by decide))
/-- behind the taking out: all as before, one less waits -/
theorem wf_out {σ : SX} (h : WF1 σ) : WFX (x_out σ) ∧ ((x_out σ).1 7).toInt = (σ.1 7).toInt - 1 := by
  obtain ⟨⟨a1, a2, a3, a4, q, w, hq, hw, e6, e7⟩, h1⟩ := h
  rw [e7, nI_toInt (by omega)] at h1
  have ew : σ.1 7 - 1 = nI (w - 1) := by
    rw [e7, show (1 : Int32) = nI 1 from rfl, pk_sub (by omega)]
  have eq : (σ.1 6 + 1) - (σ.1 6 + 1) / 12 * 12 = nI ((q + 1) % 12) := by
    rw [e6, nI_1, show (12 : Int32) = nI 12 from rfl, pk_rem (by omega) (by decide) (by decide)]
  refine ⟨⟨?_, ?_, a3, a4, (q + 1) % 12, w - 1, by omega, by omega, ?_, ?_⟩, ?_⟩
  · intro k i e hk he
    simp only [x_out] at he ⊢
    by_cases k4 : k = 4
    · subst k4
      rw [va_up_self] at he
      by_cases hi : i = (σ.1 6).toNatClampNeg
      · subst hi; rw [va_up_self] at he; cases he
      · rw [va_up_ne _ _ hi] at he; exact a1 4 i e hk he
    · rw [va_up_ne _ _ k4] at he
      exact a1 k i e hk he
  · intro i r hr
    simp only [x_out] at hr ⊢
    rw [va_up_ne _ _ (by decide)] at hr
    exact a2 i r hr
  · simp only [x_out]
    rw [va_up_ne _ _ (by decide), va_up_self, eq]
  · simp only [x_out]
    rw [va_up_self, ew]
  · simp only [x_out]
    rw [va_up_self, ew, e7, nI_toInt (by omega), nI_toInt (by omega)]
    omega
theorem in_12 {σ : SX} (h : WFX σ) : vp_in (σ.1 6) 12 := by
  obtain ⟨-, -, -, -, q, w, hq, hw, e6, e7⟩ := h
  rw [e6]
  exact vp_in_nI hq (by decide)
theorem okO.q {σ : SX} (h : WF1 σ) : okO (x_out σ) (σ.2.2.1 4 (σ.1 6).toNatClampNeg) := fun d hd => h.1.1 4 _ d (Or.inr (Or.inr rfl)) hd
theorem dlw_K {σ : SX} (h : WF1 σ) : WFX (f1_doLongestWaiting σ) ∧ (σ.1 7).toInt - 1 ≤ ((f1_doLongestWaiting σ).1 7).toInt := by
  have h1 := wf_out h
  have h2 := fdo_K 16 (x_out σ) (σ.2.2.1 4 (σ.1 6).toNatClampNeg) (σ.2.1 5 (σ.1 6).toNatClampNeg) h1.1 (okO.q h)
  exact ⟨h2.1, by rw [← h1.2]; exact h2.2.2.2.2.2.2.2⟩
theorem tick1_K {σ : SX} (h : WF1 σ) : WFX (fx_tick1 σ) ∧ (σ.1 7).toInt - 1 ≤ ((fx_tick1 σ).1 7).toInt := by
  have h0 : WF1 (sxI σ 11 0) := ⟨(XK.sI h.1 11 0 (by decide) (by decide)).1, h.2⟩
  have h1 := dlw_K h0
  have h2 := XK.note h1.1
  exact ⟨h2.1, Int.le_trans h1.2 h2.2.2.2.2.2.2.2⟩

def wp_X1_slotsInUse_22 (σ : SX) (v1 : Int32) (v2 : Int32) (K4 : SX → Int32 → Int32 → Prop) (post : Int32 → SX → Prop) : Prop :=
  ∀ x1 : Int32, x1 = v2 + 1 → K4 σ v1 x1
set_option maxHeartbeats 4000000 in
set_option maxRecDepth 100000 in
theorem k_X1_slotsInUse_22 {l : Launch} {p : Program} {e : Env} {s : State} {m : MethodId} {below : List Frame} {meth : Method} {c : Code} {args : Array Value} {A : Nat → Prop} {G : Gm} {a : AX}  (hF : fx p s m args meth c cX1_slotsInUse 3 yX1_slotsInUse.cls kX1_slotsInUse (some (.int))) {post : Int32 → SX → Prop} {K4 : SX → Int32 → Int32 → Prop} (hK4 : ∀ (σ : SX) (v1 : Int32) (v2 : Int32) {H : Heap} {locs : List Loc} {ls : Array Slot}, K4 σ v1 v2 → wb G A s (wX G a σ) H locs → lv_has ls 3 [(0, .ref (a.1 13)), (1, .int v1), (2, .int v2)] → W p l e (rr 0 0) s m args below meth c H locs 0 0 (MQ below (va_Qi post (po G A (wX G a)) A) args s 0 0 A) (F0 m 4 ls [])) (σ : SX) (v1 : Int32) (v2 : Int32) {H : Heap} {locs : List Loc} {ls : Array Slot} (hw : wb G A s (wX G a σ) H locs) (hl : lv_has ls 3 [(0, .ref (a.1 13)), (1, .int v1), (2, .int v2)]) (hok : wp_X1_slotsInUse_22 σ v1 v2 K4 post) :
    W p l e (rr 0 0) s m args below meth c H locs 0 0 (MQ below (va_Qi post (po G A (wX G a)) A) args s 0 0 A) (F0 m 22 ls []) := by
  unfold wp_X1_slotsInUse_22 at hok
  obtain ⟨x1, ex1⟩ : ∃ z : Int32, z = v2 + 1 := ⟨_, rfl⟩
  replace hok := hok x1 ex1
  refine lv_iinc (v := x1) (lv' := [(2, .int x1), (0, .ref (a.1 13)), (1, .int v1)]) hF.x hF.b dX1_slotsInUse_22 hl (k := 2) rfl (by rw [ex1]; rfl) (by decide) rfl (fun ls hl => ?_)
  refine lv_goto (tgt := 4) hF.x hF.b dX1_slotsInUse_25 (by decide) ?_
  exact hK4 σ v1 x1 hok hw (lv_sub hl [1, 2, 0] rfl)
def wp_X1_slotsInUse_4 (σ : SX) (v1 : Int32) (v2 : Int32) (K4 : SX → Int32 → Int32 → Prop) (post : Int32 → SX → Prop) : Prop :=
  (20 ≤ v2 → post v1 σ) ∧ (¬ 20 ≤ v2 → vp_in v2 20 ∧ ∀ o2 : Option Nat, o2 = σ.2.2.1 2 v2.toNatClampNeg → (o2 = none → wp_X1_slotsInUse_22 σ v1 v2 K4 post) ∧ (∀ d3 : Nat, o2 = some d3 → ∀ x4 : Int32, x4 = v1 + 1 → wp_X1_slotsInUse_22 σ x4 v2 K4 post))
set_option maxHeartbeats 4000000 in
set_option maxRecDepth 100000 in
theorem k_X1_slotsInUse_4 {l : Launch} {p : Program} {e : Env} {s : State} {m : MethodId} {below : List Frame} {meth : Method} {c : Code} {args : Array Value} {A : Nat → Prop} {G : Gm} {a : AX}  (hF : fx p s m args meth c cX1_slotsInUse 3 yX1_slotsInUse.cls kX1_slotsInUse (some (.int))) {post : Int32 → SX → Prop} {K4 : SX → Int32 → Int32 → Prop} (hK4 : ∀ (σ : SX) (v1 : Int32) (v2 : Int32) {H : Heap} {locs : List Loc} {ls : Array Slot}, K4 σ v1 v2 → wb G A s (wX G a σ) H locs → lv_has ls 3 [(0, .ref (a.1 13)), (1, .int v1), (2, .int v2)] → W p l e (rr 0 0) s m args below meth c H locs 0 0 (MQ below (va_Qi post (po G A (wX G a)) A) args s 0 0 A) (F0 m 4 ls [])) (σ : SX) (v1 : Int32) (v2 : Int32) {H : Heap} {locs : List Loc} {ls : Array Slot} (hw : wb G A s (wX G a σ) H locs) (hl : lv_has ls 3 [(0, .ref (a.1 13)), (1, .int v1), (2, .int v2)]) (hok : wp_X1_slotsInUse_4 σ v1 v2 K4 post) :
    W p l e (rr 0 0) s m args below meth c H locs 0 0 (MQ below (va_Qi post (po G A (wX G a)) A) args s 0 0 A) (F0 m 4 ls []) := by
  unfold wp_X1_slotsInUse_4 at hok
  refine lv_iload_n hF.x hF.b dX1_slotsInUse_4 rfl (lv_at hl 2 rfl) ?_
  refine lv_bipush (v := 20) hF.x hF.b dX1_slotsInUse_5 (by decide) ?_
  refine lv_icmp_ge (tgt := 28) hF.x hF.b dX1_slotsInUse_7 (by decide) (fun c1 => ?_) (fun c1 => ?_)
  · replace hok := hok.1 c1
    refine lv_iload_n hF.x hF.b dX1_slotsInUse_28 rfl (lv_at hl 1 rfl) ?_
    exact rt_I (u := σ) hF hw hok (Nat.zero_le _) (Nat.zero_le _) dX1_slotsInUse_29
  · replace hok := hok.2 c1
    refine lv_aload_n hF.x hF.b dX1_slotsInUse_10 rfl (lv_at hl 0 rfl) ?_
    refine r_get hF hw 0 rfl rfl inlX1 2 (by decide) wf_X1_20 rfl dX1_slotsInUse_11 ?_
    refine lv_iload_n hF.x hF.b dX1_slotsInUse_14 rfl (lv_at hl 2 rfl) ?_
    refine rx_aald 2 20 hF hw (by decide) hok.1 dX1_slotsInUse_15 (fun o2 eo2 => ?_)
    replace hok := hok.2 o2 eo2
    refine lm_ifnull (o := o2) (tgt := 22) hF dX1_slotsInUse_16 (by decide) (fun ed3 => ?_) (fun d3 ed3 => ?_)
    · replace hok := hok.1 ed3
      subst ed3
      have hl : lv_has ls 3 [(0, .ref (a.1 13)), (1, .int v1), (2, .int v2)] := hl
      exact k_X1_slotsInUse_22  hF hK4 σ v1 v2 hw (lv_sub hl [0, 1, 2] rfl) hok
    · replace hok := hok.2 d3 ed3
      subst ed3
      have hl : lv_has ls 3 [(0, .ref (a.1 13)), (1, .int v1), (2, .int v2)] := hl
      obtain ⟨x4, ex4⟩ : ∃ z : Int32, z = v1 + 1 := ⟨_, rfl⟩
      replace hok := hok x4 ex4
      refine lv_iinc (v := x4) (lv' := [(1, .int x4), (0, .ref (a.1 13)), (2, .int v2)]) hF.x hF.b dX1_slotsInUse_19 hl (k := 1) rfl (by rw [ex4]; rfl) (by decide) rfl (fun ls hl => ?_)
      exact k_X1_slotsInUse_22  hF hK4 σ x4 v2 hw (lv_sub hl [1, 0, 2] rfl) hok
def wp_X1_slotsInUse_0 (σ : SX)  (K4 : SX → Int32 → Int32 → Prop) (post : Int32 → SX → Prop) : Prop :=
  K4 σ 0 0
set_option maxHeartbeats 4000000 in
set_option maxRecDepth 100000 in
theorem k_X1_slotsInUse_0 {l : Launch} {p : Program} {e : Env} {s : State} {m : MethodId} {below : List Frame} {meth : Method} {c : Code} {args : Array Value} {A : Nat → Prop} {G : Gm} {a : AX}  (hF : fx p s m args meth c cX1_slotsInUse 3 yX1_slotsInUse.cls kX1_slotsInUse (some (.int))) {post : Int32 → SX → Prop} {K4 : SX → Int32 → Int32 → Prop} (hK4 : ∀ (σ : SX) (v1 : Int32) (v2 : Int32) {H : Heap} {locs : List Loc} {ls : Array Slot}, K4 σ v1 v2 → wb G A s (wX G a σ) H locs → lv_has ls 3 [(0, .ref (a.1 13)), (1, .int v1), (2, .int v2)] → W p l e (rr 0 0) s m args below meth c H locs 0 0 (MQ below (va_Qi post (po G A (wX G a)) A) args s 0 0 A) (F0 m 4 ls [])) (σ : SX)  {H : Heap} {locs : List Loc} {ls : Array Slot} (hw : wb G A s (wX G a σ) H locs) (hl : lv_has ls 3 [(0, .ref (a.1 13))]) (hok : wp_X1_slotsInUse_0 σ  K4 post) :
    W p l e (rr 0 0) s m args below meth c H locs 0 0 (MQ below (va_Qi post (po G A (wX G a)) A) args s 0 0 A) (F0 m 0 ls []) := by
  unfold wp_X1_slotsInUse_0 at hok
  refine lv_iconst (v := 0) hF.x hF.b dX1_slotsInUse_0 (by decide) ?_
  refine lv_istore_n (lv' := [(1, .int 0), (0, .ref (a.1 13))]) hF.x hF.b dX1_slotsInUse_1 rfl hl (by decide) rfl (fun ls hl => ?_)
  refine lv_iconst (v := 0) hF.x hF.b dX1_slotsInUse_2 (by decide) ?_
  refine lv_istore_n (lv' := [(2, .int 0), (1, .int 0), (0, .ref (a.1 13))]) hF.x hF.b dX1_slotsInUse_3 rfl hl (by decide) rfl (fun ls hl => ?_)
  exact hK4 σ 0 0 hok hw (lv_sub hl [2, 1, 0] rfl)

theorem lp_X1_slotsInUse_4 {l : Launch} {p : Program} {e : Env} {s : State} {m : MethodId} {below : List Frame} {meth : Method} {c : Code} {args : Array Value} {A : Nat → Prop} {G : Gm} {a : AX}  (hF : fx p s m args meth c cX1_slotsInUse 3 yX1_slotsInUse.cls kX1_slotsInUse (some (.int))) {post : Int32 → SX → Prop}  (Inv : Nat → SX → Int32 → Int32 → Prop) (hstep : ∀ (n : Nat) (σ : SX) (v1 : Int32) (v2 : Int32), Inv n σ v1 v2 → wp_X1_slotsInUse_4 σ v1 v2 (fun σq v1' v2' => ∃ nq, nq < n ∧ Inv nq σq v1' v2') post) :
    ∀ (n : Nat) (σ : SX) (v1 : Int32) (v2 : Int32) {H : Heap} {locs : List Loc} {ls : Array Slot}, Inv n σ v1 v2 → wb G A s (wX G a σ) H locs → lv_has ls 3 [(0, .ref (a.1 13)), (1, .int v1), (2, .int v2)] → W p l e (rr 0 0) s m args below meth c H locs 0 0 (MQ below (va_Qi post (po G A (wX G a)) A) args s 0 0 A) (F0 m 4 ls []) := by
  intro n
  induction n using Nat.strongRecOn with
  | _ n ih =>
    intro σ v1 v2 H locs ls hI hw hl
    exact k_X1_slotsInUse_4  hF (post := post) (K4 := fun σq v1' v2' => ∃ nq, nq < n ∧ Inv nq σq v1' v2') (by intro σq v1' v2' H locs ls hI hw hl; exact ih hI.choose hI.choose_spec.1 σq v1' v2' hI.choose_spec.2 hw hl) σ v1 v2 hw hl (hstep n σ v1 v2 hI)

theorem p1_use_step (σ0 : SX) (n : Nat) (σ : SX) (v1 v2 : Int32) (hI : σ = σ0 ∧ ∃ j : Nat, j + n = 20 ∧ v2 = nI j ∧ v1 = nI (x_inUse (σ0.2.2.1 2) j)) :
    wp_X1_slotsInUse_4 σ v1 v2 (fun σq v1' v2' => ∃ nq, nq < n ∧ (σq = σ0 ∧ ∃ j : Nat, j + nq = 20 ∧ v2' = nI j ∧ v1' = nI (x_inUse (σ0.2.2.1 2) j))) (fun r u => r = (f1_slotsInUse σ0).1 ∧ u = (f1_slotsInUse σ0).2) := by
  obtain ⟨rfl, j, hj, rfl, rfl⟩ := hI
  refine ⟨fun c => ?_, fun c => ?_⟩
  · rw [show (20 : Int32) = nI 20 from rfl, nI_leI (by decide) (by omega)] at c
    have : j = 20 := by omega
    subst this
    exact ⟨rfl, rfl⟩
  · rw [show (20 : Int32) = nI 20 from rfl, nI_leI (by decide) (by omega)] at c
    refine ⟨vp_in_nI (by omega) (by decide), fun o2 e2 => ?_⟩
    rw [nI_clamp (by omega)] at e2
    refine ⟨fun e => ?_, fun d e x4 e4 => ?_⟩
    · intro x1 e1
      exact ⟨n - 1, by omega, rfl, j + 1, by omega, by rw [e1, nI_1], by simp only [x_inUse]; rw [← e2, if_pos e]; rfl⟩
    · intro x1 e1
      exact ⟨n - 1, by omega, rfl, j + 1, by omega, by rw [e1, nI_1], by simp only [x_inUse]; rw [← e2, if_neg (by rw [e]; exact fun q => by cases q), e4, nI_1]⟩
theorem c1_slotsInUse (l : Launch) (G : Gm) (a : AX) (σ : SX) (_ : q1_slotsInUse σ) : ctI l yX1_slotsInUse cX1_slotsInUse 3 .int (rr 0 0) G [.ref (a.1 13)] (wX G a σ) (fun (r : Int32) (u : SX) => r = (f1_slotsInUse σ).1 ∧ u = (f1_slotsInUse σ).2) (wX G a) := by
  refine en_I (by decide +kernel) (Nat.le_of_ble_eq_true rfl) (fun p e s m below meth c A ls hF hw hl => ?_)
  refine k_X1_slotsInUse_0 hF (K4 := fun σq v1' v2' => ∃ nq, (σq = σ ∧ ∃ j : Nat, j + nq = 20 ∧ v2' = nI j ∧ v1' = nI (x_inUse (σ.2.2.1 2) j))) ?_ σ hw hl ?_
  · intro σq v1' v2' H locs ls hI hw hl
    exact lp_X1_slotsInUse_4 hF _ (p1_use_step σ) hI.choose σq v1' v2' hI.choose_spec hw hl
  · exact ⟨20, rfl, 0, rfl, rfl, rfl⟩

def wp_X1_emptyHall_23 (σ : SX) (v1 : Int32) (K2 : SX → Int32 → Prop) (K23 : SX → Int32 → Prop) (post : SX → Prop) : Prop :=
  (3 ≤ v1 → post σ) ∧ (¬ 3 ≤ v1 → vp_in v1 3 ∧ (∀ z, none = some z → z < σ.2.2.2.2.1) ∧ ∀ σ2 : SX, σ2 = (σ.1, σ.2.1, va_up σ.2.2.1 1 (va_up (σ.2.2.1 1) v1.toNatClampNeg none), σ.2.2.2) → ∀ x3 : Int32, x3 = v1 + 1 → K23 σ2 x3)
set_option maxHeartbeats 4000000 in
set_option maxRecDepth 100000 in
theorem k_X1_emptyHall_23 {l : Launch} {p : Program} {e : Env} {s : State} {m : MethodId} {below : List Frame} {meth : Method} {c : Code} {args : Array Value} {A : Nat → Prop} {G : Gm} {a : AX}  (hF : fx p s m args meth c cX1_emptyHall 2 yX1_emptyHall.cls kX1_emptyHall none) {post : SX → Prop} {K2 : SX → Int32 → Prop} {K23 : SX → Int32 → Prop} (hK2 : ∀ (σ : SX) (v1 : Int32) {H : Heap} {locs : List Loc} {ls : Array Slot}, K2 σ v1 → wb G A s (wX G a σ) H locs → lv_has ls 2 [(0, .ref (a.1 13)), (1, .int v1)] → W p l e (rr 0 0) s m args below meth c H locs 0 0 (MQ below (va_Qv post (po G A (wX G a)) A) args s 0 0 A) (F0 m 2 ls [])) (hK23 : ∀ (σ : SX) (v1 : Int32) {H : Heap} {locs : List Loc} {ls : Array Slot}, K23 σ v1 → wb G A s (wX G a σ) H locs → lv_has ls 2 [(0, .ref (a.1 13)), (1, .int v1)] → W p l e (rr 0 0) s m args below meth c H locs 0 0 (MQ below (va_Qv post (po G A (wX G a)) A) args s 0 0 A) (F0 m 23 ls [])) (σ : SX) (v1 : Int32) {H : Heap} {locs : List Loc} {ls : Array Slot} (hw : wb G A s (wX G a σ) H locs) (hl : lv_has ls 2 [(0, .ref (a.1 13)), (1, .int v1)]) (hok : wp_X1_emptyHall_23 σ v1 K2 K23 post) :
    W p l e (rr 0 0) s m args below meth c H locs 0 0 (MQ below (va_Qv post (po G A (wX G a)) A) args s 0 0 A) (F0 m 23 ls []) := by
  unfold wp_X1_emptyHall_23 at hok
  refine lv_iload_n hF.x hF.b dX1_emptyHall_23 rfl (lv_at hl 1 rfl) ?_
  refine lv_iconst (v := 3) hF.x hF.b dX1_emptyHall_24 (by decide) ?_
  refine lv_icmp_ge (tgt := 41) hF.x hF.b dX1_emptyHall_25 (by decide) (fun c1 => ?_) (fun c1 => ?_)
  · replace hok := hok.1 c1
    exact rt_V (u := σ) hF hw hok (Nat.zero_le _) (Nat.zero_le _) dX1_emptyHall_41
  · replace hok := hok.2 c1
    refine lv_aload_n hF.x hF.b dX1_emptyHall_28 rfl (lv_at hl 0 rfl) ?_
    refine r_get hF hw 0 rfl rfl inlX1 1 (by decide) wf_X1_14 rfl dX1_emptyHall_29 ?_
    refine lv_iload_n hF.x hF.b dX1_emptyHall_32 rfl (lv_at hl 1 rfl) ?_
    refine lv_null hF.x hF.b dX1_emptyHall_33 ?_
    refine rx_gast (o := none) hF hw hok.1 hok.2.1 dX1_emptyHall_34 (fun σ2 H locs eσ2 hw => ?_)
    replace hok := hok.2.2 σ2 eσ2
    obtain ⟨x3, ex3⟩ : ∃ z : Int32, z = v1 + 1 := ⟨_, rfl⟩
    replace hok := hok x3 ex3
    refine lv_iinc (v := x3) (lv' := [(1, .int x3), (0, .ref (a.1 13))]) hF.x hF.b dX1_emptyHall_35 hl (k := 1) rfl (by rw [ex3]; rfl) (by decide) rfl (fun ls hl => ?_)
    refine lv_goto (tgt := 23) hF.x hF.b dX1_emptyHall_38 (by decide) ?_
    exact hK23 σ2 x3 hok hw (lv_sub hl [1, 0] rfl)
def wp_X1_emptyHall_2 (σ : SX) (v1 : Int32) (K2 : SX → Int32 → Prop) (K23 : SX → Int32 → Prop) (post : SX → Prop) : Prop :=
  (10 ≤ v1 → K23 σ 0) ∧ (¬ 10 ≤ v1 → vp_in v1 10 ∧ ∀ σ2 : SX, σ2 = (σ.1, va_up σ.2.1 0 (upd (σ.2.1 0) v1.toNatClampNeg 0), σ.2.2) → ∀ x3 : Int32, x3 = v1 + 1 → K2 σ2 x3)
set_option maxHeartbeats 4000000 in
set_option maxRecDepth 100000 in
theorem k_X1_emptyHall_2 {l : Launch} {p : Program} {e : Env} {s : State} {m : MethodId} {below : List Frame} {meth : Method} {c : Code} {args : Array Value} {A : Nat → Prop} {G : Gm} {a : AX}  (hF : fx p s m args meth c cX1_emptyHall 2 yX1_emptyHall.cls kX1_emptyHall none) {post : SX → Prop} {K2 : SX → Int32 → Prop} {K23 : SX → Int32 → Prop} (hK2 : ∀ (σ : SX) (v1 : Int32) {H : Heap} {locs : List Loc} {ls : Array Slot}, K2 σ v1 → wb G A s (wX G a σ) H locs → lv_has ls 2 [(0, .ref (a.1 13)), (1, .int v1)] → W p l e (rr 0 0) s m args below meth c H locs 0 0 (MQ below (va_Qv post (po G A (wX G a)) A) args s 0 0 A) (F0 m 2 ls [])) (hK23 : ∀ (σ : SX) (v1 : Int32) {H : Heap} {locs : List Loc} {ls : Array Slot}, K23 σ v1 → wb G A s (wX G a σ) H locs → lv_has ls 2 [(0, .ref (a.1 13)), (1, .int v1)] → W p l e (rr 0 0) s m args below meth c H locs 0 0 (MQ below (va_Qv post (po G A (wX G a)) A) args s 0 0 A) (F0 m 23 ls [])) (σ : SX) (v1 : Int32) {H : Heap} {locs : List Loc} {ls : Array Slot} (hw : wb G A s (wX G a σ) H locs) (hl : lv_has ls 2 [(0, .ref (a.1 13)), (1, .int v1)]) (hok : wp_X1_emptyHall_2 σ v1 K2 K23 post) :
    W p l e (rr 0 0) s m args below meth c H locs 0 0 (MQ below (va_Qv post (po G A (wX G a)) A) args s 0 0 A) (F0 m 2 ls []) := by
  unfold wp_X1_emptyHall_2 at hok
  refine lv_iload_n hF.x hF.b dX1_emptyHall_2 rfl (lv_at hl 1 rfl) ?_
  refine lv_bipush (v := 10) hF.x hF.b dX1_emptyHall_3 (by decide) ?_
  refine lv_icmp_ge (tgt := 21) hF.x hF.b dX1_emptyHall_5 (by decide) (fun c1 => ?_) (fun c1 => ?_)
  · replace hok := hok.1 c1
    refine lv_iconst (v := 0) hF.x hF.b dX1_emptyHall_21 (by decide) ?_
    refine lv_istore_n (lv' := [(1, .int 0), (0, .ref (a.1 13))]) hF.x hF.b dX1_emptyHall_22 rfl hl (by decide) rfl (fun ls hl => ?_)
    exact hK23 σ 0 hok hw (lv_sub hl [1, 0] rfl)
  · replace hok := hok.2 c1
    refine lv_aload_n hF.x hF.b dX1_emptyHall_8 rfl (lv_at hl 0 rfl) ?_
    refine r_get hF hw 0 rfl rfl inlX1 0 (by decide) wf_X1_9 rfl dX1_emptyHall_9 ?_
    refine lv_iload_n hF.x hF.b dX1_emptyHall_12 rfl (lv_at hl 1 rfl) ?_
    refine lv_iconst (v := 0) hF.x hF.b dX1_emptyHall_13 (by decide) ?_
    refine rx_iast 0 10 hF hw (by decide) hok.1 dX1_emptyHall_14 (fun σ2 H locs eσ2 hw => ?_)
    replace hok := hok.2 σ2 eσ2
    obtain ⟨x3, ex3⟩ : ∃ z : Int32, z = v1 + 1 := ⟨_, rfl⟩
    replace hok := hok x3 ex3
    refine lv_iinc (v := x3) (lv' := [(1, .int x3), (0, .ref (a.1 13))]) hF.x hF.b dX1_emptyHall_15 hl (k := 1) rfl (by rw [ex3]; rfl) (by decide) rfl (fun ls hl => ?_)
    refine lv_goto (tgt := 2) hF.x hF.b dX1_emptyHall_18 (by decide) ?_
    exact hK2 σ2 x3 hok hw (lv_sub hl [1, 0] rfl)
def wp_X1_emptyHall_0 (σ : SX)  (K2 : SX → Int32 → Prop) (K23 : SX → Int32 → Prop) (post : SX → Prop) : Prop :=
  K2 σ 0
set_option maxHeartbeats 4000000 in
set_option maxRecDepth 100000 in
theorem k_X1_emptyHall_0 {l : Launch} {p : Program} {e : Env} {s : State} {m : MethodId} {below : List Frame} {meth : Method} {c : Code} {args : Array Value} {A : Nat → Prop} {G : Gm} {a : AX}  (hF : fx p s m args meth c cX1_emptyHall 2 yX1_emptyHall.cls kX1_emptyHall none) {post : SX → Prop} {K2 : SX → Int32 → Prop} {K23 : SX → Int32 → Prop} (hK2 : ∀ (σ : SX) (v1 : Int32) {H : Heap} {locs : List Loc} {ls : Array Slot}, K2 σ v1 → wb G A s (wX G a σ) H locs → lv_has ls 2 [(0, .ref (a.1 13)), (1, .int v1)] → W p l e (rr 0 0) s m args below meth c H locs 0 0 (MQ below (va_Qv post (po G A (wX G a)) A) args s 0 0 A) (F0 m 2 ls [])) (hK23 : ∀ (σ : SX) (v1 : Int32) {H : Heap} {locs : List Loc} {ls : Array Slot}, K23 σ v1 → wb G A s (wX G a σ) H locs → lv_has ls 2 [(0, .ref (a.1 13)), (1, .int v1)] → W p l e (rr 0 0) s m args below meth c H locs 0 0 (MQ below (va_Qv post (po G A (wX G a)) A) args s 0 0 A) (F0 m 23 ls [])) (σ : SX)  {H : Heap} {locs : List Loc} {ls : Array Slot} (hw : wb G A s (wX G a σ) H locs) (hl : lv_has ls 2 [(0, .ref (a.1 13))]) (hok : wp_X1_emptyHall_0 σ  K2 K23 post) :
    W p l e (rr 0 0) s m args below meth c H locs 0 0 (MQ below (va_Qv post (po G A (wX G a)) A) args s 0 0 A) (F0 m 0 ls []) := by
  unfold wp_X1_emptyHall_0 at hok
  refine lv_iconst (v := 0) hF.x hF.b dX1_emptyHall_0 (by decide) ?_
  refine lv_istore_n (lv' := [(1, .int 0), (0, .ref (a.1 13))]) hF.x hF.b dX1_emptyHall_1 rfl hl (by decide) rfl (fun ls hl => ?_)
  exact hK2 σ 0 hok hw (lv_sub hl [1, 0] rfl)

theorem lp_X1_emptyHall_2 {l : Launch} {p : Program} {e : Env} {s : State} {m : MethodId} {below : List Frame} {meth : Method} {c : Code} {args : Array Value} {A : Nat → Prop} {G : Gm} {a : AX}  (hF : fx p s m args meth c cX1_emptyHall 2 yX1_emptyHall.cls kX1_emptyHall none) {post : SX → Prop} {K23 : SX → Int32 → Prop} (hK23 : ∀ (σ : SX) (v1 : Int32) {H : Heap} {locs : List Loc} {ls : Array Slot}, K23 σ v1 → wb G A s (wX G a σ) H locs → lv_has ls 2 [(0, .ref (a.1 13)), (1, .int v1)] → W p l e (rr 0 0) s m args below meth c H locs 0 0 (MQ below (va_Qv post (po G A (wX G a)) A) args s 0 0 A) (F0 m 23 ls [])) (Inv : Nat → SX → Int32 → Prop) (hstep : ∀ (n : Nat) (σ : SX) (v1 : Int32), Inv n σ v1 → wp_X1_emptyHall_2 σ v1 (fun σq v1' => ∃ nq, nq < n ∧ Inv nq σq v1') K23 post) :
    ∀ (n : Nat) (σ : SX) (v1 : Int32) {H : Heap} {locs : List Loc} {ls : Array Slot}, Inv n σ v1 → wb G A s (wX G a σ) H locs → lv_has ls 2 [(0, .ref (a.1 13)), (1, .int v1)] → W p l e (rr 0 0) s m args below meth c H locs 0 0 (MQ below (va_Qv post (po G A (wX G a)) A) args s 0 0 A) (F0 m 2 ls []) := by
  intro n
  induction n using Nat.strongRecOn with
  | _ n ih =>
    intro σ v1 H locs ls hI hw hl
    exact k_X1_emptyHall_2  hF (post := post) (K2 := fun σq v1' => ∃ nq, nq < n ∧ Inv nq σq v1') (K23 := K23) (by intro σq v1' H locs ls hI hw hl; exact ih hI.choose hI.choose_spec.1 σq v1' hI.choose_spec.2 hw hl) hK23 σ v1 hw hl (hstep n σ v1 hI)

theorem lp_X1_emptyHall_23 {l : Launch} {p : Program} {e : Env} {s : State} {m : MethodId} {below : List Frame} {meth : Method} {c : Code} {args : Array Value} {A : Nat → Prop} {G : Gm} {a : AX}  (hF : fx p s m args meth c cX1_emptyHall 2 yX1_emptyHall.cls kX1_emptyHall none) {post : SX → Prop} {K2 : SX → Int32 → Prop} (hK2 : ∀ (σ : SX) (v1 : Int32) {H : Heap} {locs : List Loc} {ls : Array Slot}, K2 σ v1 → wb G A s (wX G a σ) H locs → lv_has ls 2 [(0, .ref (a.1 13)), (1, .int v1)] → W p l e (rr 0 0) s m args below meth c H locs 0 0 (MQ below (va_Qv post (po G A (wX G a)) A) args s 0 0 A) (F0 m 2 ls [])) (Inv : Nat → SX → Int32 → Prop) (hstep : ∀ (n : Nat) (σ : SX) (v1 : Int32), Inv n σ v1 → wp_X1_emptyHall_23 σ v1 K2 (fun σq v1' => ∃ nq, nq < n ∧ Inv nq σq v1') post) :
    ∀ (n : Nat) (σ : SX) (v1 : Int32) {H : Heap} {locs : List Loc} {ls : Array Slot}, Inv n σ v1 → wb G A s (wX G a σ) H locs → lv_has ls 2 [(0, .ref (a.1 13)), (1, .int v1)] → W p l e (rr 0 0) s m args below meth c H locs 0 0 (MQ below (va_Qv post (po G A (wX G a)) A) args s 0 0 A) (F0 m 23 ls []) := by
  intro n
  induction n using Nat.strongRecOn with
  | _ n ih =>
    intro σ v1 H locs ls hI hw hl
    exact k_X1_emptyHall_23  hF (post := post) (K2 := K2) (K23 := fun σq v1' => ∃ nq, nq < n ∧ Inv nq σq v1') hK2 (by intro σq v1' H locs ls hI hw hl; exact ih hI.choose hI.choose_spec.1 σq v1' hI.choose_spec.2 hw hl) σ v1 hw hl (hstep n σ v1 hI)

theorem p1_eh_23 (σ0 : SX) (K2 : SX → Int32 → Prop) (n : Nat) (σ : SX) (v1 : Int32) (hI : ∃ j : Nat, j + n = 3 ∧ v1 = nI j ∧ σ = sxO σ0 1 (wipe (σ0.2.2.1 1) none j)) :
    wp_X1_emptyHall_23 σ v1 K2 (fun σq v1' => ∃ nq, nq < n ∧ ∃ j : Nat, j + nq = 3 ∧ v1' = nI j ∧ σq = sxO σ0 1 (wipe (σ0.2.2.1 1) none j)) (fun u => u = sxO σ0 1 (wipe (σ0.2.2.1 1) none 3)) := by
  obtain ⟨j, hj, rfl, rfl⟩ := hI
  refine ⟨fun c => ?_, fun c => ?_⟩
  · rw [show (3 : Int32) = nI 3 from rfl, nI_leI (by decide) (by omega)] at c
    have : j = 3 := by omega
    subst this
    rfl
  · rw [show (3 : Int32) = nI 3 from rfl, nI_leI (by decide) (by omega)] at c
    refine ⟨vp_in_nI (by omega) (by decide), fun z hz => (by cases hz), fun σ2 e2 x3 e3 => ⟨n - 1, by omega, j + 1, by omega, by rw [e3, nI_1], ?_⟩⟩
    rw [e2, nI_clamp (by omega)]
    simp only [sxO]
    rw [va_up_self, wipe_s, up_up]
theorem p1_eh_2 (σ0 : SX) (K23 : SX → Int32 → Prop) (hK : K23 (sxF σ0 0 (wipe (σ0.2.1 0) 0 10)) 0) (post : SX → Prop) (n : Nat) (σ : SX) (v1 : Int32) (hI : ∃ j : Nat, j + n = 10 ∧ v1 = nI j ∧ σ = sxF σ0 0 (wipe (σ0.2.1 0) 0 j)) :
    wp_X1_emptyHall_2 σ v1 (fun σq v1' => ∃ nq, nq < n ∧ ∃ j : Nat, j + nq = 10 ∧ v1' = nI j ∧ σq = sxF σ0 0 (wipe (σ0.2.1 0) 0 j)) K23 post := by
  obtain ⟨j, hj, rfl, rfl⟩ := hI
  refine ⟨fun c => ?_, fun c => ?_⟩
  · rw [show (10 : Int32) = nI 10 from rfl, nI_leI (by decide) (by omega)] at c
    have : j = 10 := by omega
    subst this
    exact hK
  · rw [show (10 : Int32) = nI 10 from rfl, nI_leI (by decide) (by omega)] at c
    refine ⟨vp_in_nI (by omega) (by decide), fun σ2 e2 x3 e3 => ⟨n - 1, by omega, j + 1, by omega, by rw [e3, nI_1], ?_⟩⟩
    rw [e2, nI_clamp (by omega)]
    simp only [sxF]
    rw [va_up_self, upd_va, wipe_s, up_up]
theorem c1_emptyHall (l : Launch) (G : Gm) (a : AX) (σ : SX) (_ : q1_emptyHall σ) : ctV l yX1_emptyHall cX1_emptyHall 2 (rr 0 0) G [.ref (a.1 13)] (wX G a σ) (fun (u : SX) => u = f1_emptyHall σ) (wX G a) := by
  refine en_V (by decide +kernel) (Nat.le_of_ble_eq_true rfl) (fun p e s m below meth c A ls hF hn hw hl => ?_)
  have h23 := lp_X1_emptyHall_23 (l := l) (e := e) (below := below) (A := A) (G := G) (a := a) (post := fun u => u = f1_emptyHall σ) hF (K2 := fun _ _ => False) (fun _ _ _ _ _ h => h.elim) _ (p1_eh_23 (sxF σ 0 (wipe (σ.2.1 0) 0 10)) (fun _ _ => False))
  have h2 := lp_X1_emptyHall_2 (l := l) (e := e) (below := below) (A := A) (G := G) (a := a) (post := fun u => u = f1_emptyHall σ) hF (K23 := fun σq v1' => ∃ nq : Nat, ∃ j : Nat, j + nq = 3 ∧ v1' = nI j ∧ σq = sxO (sxF σ 0 (wipe (σ.2.1 0) 0 10)) 1 (wipe ((sxF σ 0 (wipe (σ.2.1 0) 0 10)).2.2.1 1) none j)) (by
    intro σq v1' H locs ls hI hw hl
    exact h23 hI.choose σq v1' hI.choose_spec hw hl) _ (p1_eh_2 σ _ ⟨3, 0, rfl, rfl, by rw [wipe_0]; simp only [sxO]; rw [up_same]⟩ _)
  refine k_X1_emptyHall_0 hF (K2 := fun σq v1' => ∃ nq : Nat, ∃ j : Nat, j + nq = 10 ∧ v1' = nI j ∧ σq = sxF σ 0 (wipe (σ.2.1 0) 0 j)) (K23 := fun _ _ => False) ?_ (fun _ _ _ _ _ h => h.elim) σ hw hl ?_
  · intro σq v1' H locs ls hI hw hl
    exact h2 hI.choose σq v1' hI.choose_spec hw hl
  · exact ⟨10, 0, rfl, rfl, by rw [wipe_0]; simp only [sxF]; rw [up_same]⟩

def wp_X1_emptyDeeds_44 (σ : SX) (v1 : Int32) (K2 : SX → Int32 → Prop) (K23 : SX → Int32 → Prop) (K44 : SX → Int32 → Prop) (post : SX → Prop) : Prop :=
  (12 ≤ v1 → post σ) ∧ (¬ 12 ≤ v1 → vp_in v1 12 ∧ (∀ z, none = some z → z < σ.2.2.2.1.1) ∧ ∀ σ2 : SX, σ2 = (σ.1, σ.2.1, va_up σ.2.2.1 4 (va_up (σ.2.2.1 4) v1.toNatClampNeg none), σ.2.2.2) → ∀ x3 : Int32, x3 = v1 + 1 → K44 σ2 x3)
set_option maxHeartbeats 4000000 in
set_option maxRecDepth 100000 in
theorem k_X1_emptyDeeds_44 {l : Launch} {p : Program} {e : Env} {s : State} {m : MethodId} {below : List Frame} {meth : Method} {c : Code} {args : Array Value} {A : Nat → Prop} {G : Gm} {a : AX}  (hF : fx p s m args meth c cX1_emptyDeeds 2 yX1_emptyDeeds.cls kX1_emptyDeeds none) {post : SX → Prop} {K2 : SX → Int32 → Prop} {K23 : SX → Int32 → Prop} {K44 : SX → Int32 → Prop} (hK2 : ∀ (σ : SX) (v1 : Int32) {H : Heap} {locs : List Loc} {ls : Array Slot}, K2 σ v1 → wb G A s (wX G a σ) H locs → lv_has ls 2 [(0, .ref (a.1 13)), (1, .int v1)] → W p l e (rr 0 0) s m args below meth c H locs 0 0 (MQ below (va_Qv post (po G A (wX G a)) A) args s 0 0 A) (F0 m 2 ls [])) (hK23 : ∀ (σ : SX) (v1 : Int32) {H : Heap} {locs : List Loc} {ls : Array Slot}, K23 σ v1 → wb G A s (wX G a σ) H locs → lv_has ls 2 [(0, .ref (a.1 13)), (1, .int v1)] → W p l e (rr 0 0) s m args below meth c H locs 0 0 (MQ below (va_Qv post (po G A (wX G a)) A) args s 0 0 A) (F0 m 23 ls [])) (hK44 : ∀ (σ : SX) (v1 : Int32) {H : Heap} {locs : List Loc} {ls : Array Slot}, K44 σ v1 → wb G A s (wX G a σ) H locs → lv_has ls 2 [(0, .ref (a.1 13)), (1, .int v1)] → W p l e (rr 0 0) s m args below meth c H locs 0 0 (MQ below (va_Qv post (po G A (wX G a)) A) args s 0 0 A) (F0 m 44 ls [])) (σ : SX) (v1 : Int32) {H : Heap} {locs : List Loc} {ls : Array Slot} (hw : wb G A s (wX G a σ) H locs) (hl : lv_has ls 2 [(0, .ref (a.1 13)), (1, .int v1)]) (hok : wp_X1_emptyDeeds_44 σ v1 K2 K23 K44 post) :
    W p l e (rr 0 0) s m args below meth c H locs 0 0 (MQ below (va_Qv post (po G A (wX G a)) A) args s 0 0 A) (F0 m 44 ls []) := by
  unfold wp_X1_emptyDeeds_44 at hok
  refine lv_iload_n hF.x hF.b dX1_emptyDeeds_44 rfl (lv_at hl 1 rfl) ?_
  refine lv_bipush (v := 12) hF.x hF.b dX1_emptyDeeds_45 (by decide) ?_
  refine lv_icmp_ge (tgt := 63) hF.x hF.b dX1_emptyDeeds_47 (by decide) (fun c1 => ?_) (fun c1 => ?_)
  · replace hok := hok.1 c1
    exact rt_V (u := σ) hF hw hok (Nat.zero_le _) (Nat.zero_le _) dX1_emptyDeeds_63
  · replace hok := hok.2 c1
    refine lv_aload_n hF.x hF.b dX1_emptyDeeds_50 rfl (lv_at hl 0 rfl) ?_
    refine r_get hF hw 0 rfl rfl inlX1 4 (by decide) wf_X1_27 rfl dX1_emptyDeeds_51 ?_
    refine lv_iload_n hF.x hF.b dX1_emptyDeeds_54 rfl (lv_at hl 1 rfl) ?_
    refine lv_null hF.x hF.b dX1_emptyDeeds_55 ?_
    refine rx_aast (o := none) 4 12 hF hw (by decide) hok.1 hok.2.1 dX1_emptyDeeds_56 (fun σ2 H locs eσ2 hw => ?_)
    replace hok := hok.2.2 σ2 eσ2
    obtain ⟨x3, ex3⟩ : ∃ z : Int32, z = v1 + 1 := ⟨_, rfl⟩
    replace hok := hok x3 ex3
    refine lv_iinc (v := x3) (lv' := [(1, .int x3), (0, .ref (a.1 13))]) hF.x hF.b dX1_emptyDeeds_57 hl (k := 1) rfl (by rw [ex3]; rfl) (by decide) rfl (fun ls hl => ?_)
    refine lv_goto (tgt := 44) hF.x hF.b dX1_emptyDeeds_60 (by decide) ?_
    exact hK44 σ2 x3 hok hw (lv_sub hl [1, 0] rfl)
def wp_X1_emptyDeeds_23 (σ : SX) (v1 : Int32) (K2 : SX → Int32 → Prop) (K23 : SX → Int32 → Prop) (K44 : SX → Int32 → Prop) (post : SX → Prop) : Prop :=
  (20 ≤ v1 → K44 σ 0) ∧ (¬ 20 ≤ v1 → vp_in v1 20 ∧ (∀ z, none = some z → z < σ.2.2.2.1.1) ∧ ∀ σ2 : SX, σ2 = (σ.1, σ.2.1, va_up σ.2.2.1 3 (va_up (σ.2.2.1 3) v1.toNatClampNeg none), σ.2.2.2) → ∀ x3 : Int32, x3 = v1 + 1 → K23 σ2 x3)
set_option maxHeartbeats 4000000 in
set_option maxRecDepth 100000 in
theorem k_X1_emptyDeeds_23 {l : Launch} {p : Program} {e : Env} {s : State} {m : MethodId} {below : List Frame} {meth : Method} {c : Code} {args : Array Value} {A : Nat → Prop} {G : Gm} {a : AX}  (hF : fx p s m args meth c cX1_emptyDeeds 2 yX1_emptyDeeds.cls kX1_emptyDeeds none) {post : SX → Prop} {K2 : SX → Int32 → Prop} {K23 : SX → Int32 → Prop} {K44 : SX → Int32 → Prop} (hK2 : ∀ (σ : SX) (v1 : Int32) {H : Heap} {locs : List Loc} {ls : Array Slot}, K2 σ v1 → wb G A s (wX G a σ) H locs → lv_has ls 2 [(0, .ref (a.1 13)), (1, .int v1)] → W p l e (rr 0 0) s m args below meth c H locs 0 0 (MQ below (va_Qv post (po G A (wX G a)) A) args s 0 0 A) (F0 m 2 ls [])) (hK23 : ∀ (σ : SX) (v1 : Int32) {H : Heap} {locs : List Loc} {ls : Array Slot}, K23 σ v1 → wb G A s (wX G a σ) H locs → lv_has ls 2 [(0, .ref (a.1 13)), (1, .int v1)] → W p l e (rr 0 0) s m args below meth c H locs 0 0 (MQ below (va_Qv post (po G A (wX G a)) A) args s 0 0 A) (F0 m 23 ls [])) (hK44 : ∀ (σ : SX) (v1 : Int32) {H : Heap} {locs : List Loc} {ls : Array Slot}, K44 σ v1 → wb G A s (wX G a σ) H locs → lv_has ls 2 [(0, .ref (a.1 13)), (1, .int v1)] → W p l e (rr 0 0) s m args below meth c H locs 0 0 (MQ below (va_Qv post (po G A (wX G a)) A) args s 0 0 A) (F0 m 44 ls [])) (σ : SX) (v1 : Int32) {H : Heap} {locs : List Loc} {ls : Array Slot} (hw : wb G A s (wX G a σ) H locs) (hl : lv_has ls 2 [(0, .ref (a.1 13)), (1, .int v1)]) (hok : wp_X1_emptyDeeds_23 σ v1 K2 K23 K44 post) :
    W p l e (rr 0 0) s m args below meth c H locs 0 0 (MQ below (va_Qv post (po G A (wX G a)) A) args s 0 0 A) (F0 m 23 ls []) := by
  unfold wp_X1_emptyDeeds_23 at hok
  refine lv_iload_n hF.x hF.b dX1_emptyDeeds_23 rfl (lv_at hl 1 rfl) ?_
  refine lv_bipush (v := 20) hF.x hF.b dX1_emptyDeeds_24 (by decide) ?_
  refine lv_icmp_ge (tgt := 42) hF.x hF.b dX1_emptyDeeds_26 (by decide) (fun c1 => ?_) (fun c1 => ?_)
  · replace hok := hok.1 c1
    refine lv_iconst (v := 0) hF.x hF.b dX1_emptyDeeds_42 (by decide) ?_
    refine lv_istore_n (lv' := [(1, .int 0), (0, .ref (a.1 13))]) hF.x hF.b dX1_emptyDeeds_43 rfl hl (by decide) rfl (fun ls hl => ?_)
    exact hK44 σ 0 hok hw (lv_sub hl [1, 0] rfl)
  · replace hok := hok.2 c1
    refine lv_aload_n hF.x hF.b dX1_emptyDeeds_29 rfl (lv_at hl 0 rfl) ?_
    refine r_get hF hw 0 rfl rfl inlX1 3 (by decide) wf_X1_24 rfl dX1_emptyDeeds_30 ?_
    refine lv_iload_n hF.x hF.b dX1_emptyDeeds_33 rfl (lv_at hl 1 rfl) ?_
    refine lv_null hF.x hF.b dX1_emptyDeeds_34 ?_
    refine rx_aast (o := none) 3 20 hF hw (by decide) hok.1 hok.2.1 dX1_emptyDeeds_35 (fun σ2 H locs eσ2 hw => ?_)
    replace hok := hok.2.2 σ2 eσ2
    obtain ⟨x3, ex3⟩ : ∃ z : Int32, z = v1 + 1 := ⟨_, rfl⟩
    replace hok := hok x3 ex3
    refine lv_iinc (v := x3) (lv' := [(1, .int x3), (0, .ref (a.1 13))]) hF.x hF.b dX1_emptyDeeds_36 hl (k := 1) rfl (by rw [ex3]; rfl) (by decide) rfl (fun ls hl => ?_)
    refine lv_goto (tgt := 23) hF.x hF.b dX1_emptyDeeds_39 (by decide) ?_
    exact hK23 σ2 x3 hok hw (lv_sub hl [1, 0] rfl)
def wp_X1_emptyDeeds_2 (σ : SX) (v1 : Int32) (K2 : SX → Int32 → Prop) (K23 : SX → Int32 → Prop) (K44 : SX → Int32 → Prop) (post : SX → Prop) : Prop :=
  (20 ≤ v1 → K23 σ 0) ∧ (¬ 20 ≤ v1 → vp_in v1 20 ∧ (∀ z, none = some z → z < σ.2.2.2.1.1) ∧ ∀ σ2 : SX, σ2 = (σ.1, σ.2.1, va_up σ.2.2.1 2 (va_up (σ.2.2.1 2) v1.toNatClampNeg none), σ.2.2.2) → ∀ x3 : Int32, x3 = v1 + 1 → K2 σ2 x3)
set_option maxHeartbeats 4000000 in
set_option maxRecDepth 100000 in
theorem k_X1_emptyDeeds_2 {l : Launch} {p : Program} {e : Env} {s : State} {m : MethodId} {below : List Frame} {meth : Method} {c : Code} {args : Array Value} {A : Nat → Prop} {G : Gm} {a : AX}  (hF : fx p s m args meth c cX1_emptyDeeds 2 yX1_emptyDeeds.cls kX1_emptyDeeds none) {post : SX → Prop} {K2 : SX → Int32 → Prop} {K23 : SX → Int32 → Prop} {K44 : SX → Int32 → Prop} (hK2 : ∀ (σ : SX) (v1 : Int32) {H : Heap} {locs : List Loc} {ls : Array Slot}, K2 σ v1 → wb G A s (wX G a σ) H locs → lv_has ls 2 [(0, .ref (a.1 13)), (1, .int v1)] → W p l e (rr 0 0) s m args below meth c H locs 0 0 (MQ below (va_Qv post (po G A (wX G a)) A) args s 0 0 A) (F0 m 2 ls [])) (hK23 : ∀ (σ : SX) (v1 : Int32) {H : Heap} {locs : List Loc} {ls : Array Slot}, K23 σ v1 → wb G A s (wX G a σ) H locs → lv_has ls 2 [(0, .ref (a.1 13)), (1, .int v1)] → W p l e (rr 0 0) s m args below meth c H locs 0 0 (MQ below (va_Qv post (po G A (wX G a)) A) args s 0 0 A) (F0 m 23 ls [])) (hK44 : ∀ (σ : SX) (v1 : Int32) {H : Heap} {locs : List Loc} {ls : Array Slot}, K44 σ v1 → wb G A s (wX G a σ) H locs → lv_has ls 2 [(0, .ref (a.1 13)), (1, .int v1)] → W p l e (rr 0 0) s m args below meth c H locs 0 0 (MQ below (va_Qv post (po G A (wX G a)) A) args s 0 0 A) (F0 m 44 ls [])) (σ : SX) (v1 : Int32) {H : Heap} {locs : List Loc} {ls : Array Slot} (hw : wb G A s (wX G a σ) H locs) (hl : lv_has ls 2 [(0, .ref (a.1 13)), (1, .int v1)]) (hok : wp_X1_emptyDeeds_2 σ v1 K2 K23 K44 post) :
    W p l e (rr 0 0) s m args below meth c H locs 0 0 (MQ below (va_Qv post (po G A (wX G a)) A) args s 0 0 A) (F0 m 2 ls []) := by
  unfold wp_X1_emptyDeeds_2 at hok
  refine lv_iload_n hF.x hF.b dX1_emptyDeeds_2 rfl (lv_at hl 1 rfl) ?_
  refine lv_bipush (v := 20) hF.x hF.b dX1_emptyDeeds_3 (by decide) ?_
  refine lv_icmp_ge (tgt := 21) hF.x hF.b dX1_emptyDeeds_5 (by decide) (fun c1 => ?_) (fun c1 => ?_)
  · replace hok := hok.1 c1
    refine lv_iconst (v := 0) hF.x hF.b dX1_emptyDeeds_21 (by decide) ?_
    refine lv_istore_n (lv' := [(1, .int 0), (0, .ref (a.1 13))]) hF.x hF.b dX1_emptyDeeds_22 rfl hl (by decide) rfl (fun ls hl => ?_)
    exact hK23 σ 0 hok hw (lv_sub hl [1, 0] rfl)
  · replace hok := hok.2 c1
    refine lv_aload_n hF.x hF.b dX1_emptyDeeds_8 rfl (lv_at hl 0 rfl) ?_
    refine r_get hF hw 0 rfl rfl inlX1 2 (by decide) wf_X1_20 rfl dX1_emptyDeeds_9 ?_
    refine lv_iload_n hF.x hF.b dX1_emptyDeeds_12 rfl (lv_at hl 1 rfl) ?_
    refine lv_null hF.x hF.b dX1_emptyDeeds_13 ?_
    refine rx_aast (o := none) 2 20 hF hw (by decide) hok.1 hok.2.1 dX1_emptyDeeds_14 (fun σ2 H locs eσ2 hw => ?_)
    replace hok := hok.2.2 σ2 eσ2
    obtain ⟨x3, ex3⟩ : ∃ z : Int32, z = v1 + 1 := ⟨_, rfl⟩
    replace hok := hok x3 ex3
    refine lv_iinc (v := x3) (lv' := [(1, .int x3), (0, .ref (a.1 13))]) hF.x hF.b dX1_emptyDeeds_15 hl (k := 1) rfl (by rw [ex3]; rfl) (by decide) rfl (fun ls hl => ?_)
    refine lv_goto (tgt := 2) hF.x hF.b dX1_emptyDeeds_18 (by decide) ?_
    exact hK2 σ2 x3 hok hw (lv_sub hl [1, 0] rfl)
def wp_X1_emptyDeeds_0 (σ : SX)  (K2 : SX → Int32 → Prop) (K23 : SX → Int32 → Prop) (K44 : SX → Int32 → Prop) (post : SX → Prop) : Prop :=
  K2 σ 0
set_option maxHeartbeats 4000000 in
set_option maxRecDepth 100000 in
theorem k_X1_emptyDeeds_0 {l : Launch} {p : Program} {e : Env} {s : State} {m : MethodId} {below : List Frame} {meth : Method} {c : Code} {args : Array Value} {A : Nat → Prop} {G : Gm} {a : AX}  (hF : fx p s m args meth c cX1_emptyDeeds 2 yX1_emptyDeeds.cls kX1_emptyDeeds none) {post : SX → Prop} {K2 : SX → Int32 → Prop} {K23 : SX → Int32 → Prop} {K44 : SX → Int32 → Prop} (hK2 : ∀ (σ : SX) (v1 : Int32) {H : Heap} {locs : List Loc} {ls : Array Slot}, K2 σ v1 → wb G A s (wX G a σ) H locs → lv_has ls 2 [(0, .ref (a.1 13)), (1, .int v1)] → W p l e (rr 0 0) s m args below meth c H locs 0 0 (MQ below (va_Qv post (po G A (wX G a)) A) args s 0 0 A) (F0 m 2 ls [])) (hK23 : ∀ (σ : SX) (v1 : Int32) {H : Heap} {locs : List Loc} {ls : Array Slot}, K23 σ v1 → wb G A s (wX G a σ) H locs → lv_has ls 2 [(0, .ref (a.1 13)), (1, .int v1)] → W p l e (rr 0 0) s m args below meth c H locs 0 0 (MQ below (va_Qv post (po G A (wX G a)) A) args s 0 0 A) (F0 m 23 ls [])) (hK44 : ∀ (σ : SX) (v1 : Int32) {H : Heap} {locs : List Loc} {ls : Array Slot}, K44 σ v1 → wb G A s (wX G a σ) H locs → lv_has ls 2 [(0, .ref (a.1 13)), (1, .int v1)] → W p l e (rr 0 0) s m args below meth c H locs 0 0 (MQ below (va_Qv post (po G A (wX G a)) A) args s 0 0 A) (F0 m 44 ls [])) (σ : SX)  {H : Heap} {locs : List Loc} {ls : Array Slot} (hw : wb G A s (wX G a σ) H locs) (hl : lv_has ls 2 [(0, .ref (a.1 13))]) (hok : wp_X1_emptyDeeds_0 σ  K2 K23 K44 post) :
    W p l e (rr 0 0) s m args below meth c H locs 0 0 (MQ below (va_Qv post (po G A (wX G a)) A) args s 0 0 A) (F0 m 0 ls []) := by
  unfold wp_X1_emptyDeeds_0 at hok
  refine lv_iconst (v := 0) hF.x hF.b dX1_emptyDeeds_0 (by decide) ?_
  refine lv_istore_n (lv' := [(1, .int 0), (0, .ref (a.1 13))]) hF.x hF.b dX1_emptyDeeds_1 rfl hl (by decide) rfl (fun ls hl => ?_)
  exact hK2 σ 0 hok hw (lv_sub hl [1, 0] rfl)

theorem lp_X1_emptyDeeds_2 {l : Launch} {p : Program} {e : Env} {s : State} {m : MethodId} {below : List Frame} {meth : Method} {c : Code} {args : Array Value} {A : Nat → Prop} {G : Gm} {a : AX}  (hF : fx p s m args meth c cX1_emptyDeeds 2 yX1_emptyDeeds.cls kX1_emptyDeeds none) {post : SX → Prop} {K23 : SX → Int32 → Prop} {K44 : SX → Int32 → Prop} (hK23 : ∀ (σ : SX) (v1 : Int32) {H : Heap} {locs : List Loc} {ls : Array Slot}, K23 σ v1 → wb G A s (wX G a σ) H locs → lv_has ls 2 [(0, .ref (a.1 13)), (1, .int v1)] → W p l e (rr 0 0) s m args below meth c H locs 0 0 (MQ below (va_Qv post (po G A (wX G a)) A) args s 0 0 A) (F0 m 23 ls [])) (hK44 : ∀ (σ : SX) (v1 : Int32) {H : Heap} {locs : List Loc} {ls : Array Slot}, K44 σ v1 → wb G A s (wX G a σ) H locs → lv_has ls 2 [(0, .ref (a.1 13)), (1, .int v1)] → W p l e (rr 0 0) s m args below meth c H locs 0 0 (MQ below (va_Qv post (po G A (wX G a)) A) args s 0 0 A) (F0 m 44 ls [])) (Inv : Nat → SX → Int32 → Prop) (hstep : ∀ (n : Nat) (σ : SX) (v1 : Int32), Inv n σ v1 → wp_X1_emptyDeeds_2 σ v1 (fun σq v1' => ∃ nq, nq < n ∧ Inv nq σq v1') K23 K44 post) :
    ∀ (n : Nat) (σ : SX) (v1 : Int32) {H : Heap} {locs : List Loc} {ls : Array Slot}, Inv n σ v1 → wb G A s (wX G a σ) H locs → lv_has ls 2 [(0, .ref (a.1 13)), (1, .int v1)] → W p l e (rr 0 0) s m args below meth c H locs 0 0 (MQ below (va_Qv post (po G A (wX G a)) A) args s 0 0 A) (F0 m 2 ls []) := by
  intro n
  induction n using Nat.strongRecOn with
  | _ n ih =>
    intro σ v1 H locs ls hI hw hl
    exact k_X1_emptyDeeds_2  hF (post := post) (K2 := fun σq v1' => ∃ nq, nq < n ∧ Inv nq σq v1') (K23 := K23) (K44 := K44) (by intro σq v1' H locs ls hI hw hl; exact ih hI.choose hI.choose_spec.1 σq v1' hI.choose_spec.2 hw hl) hK23 hK44 σ v1 hw hl (hstep n σ v1 hI)

theorem lp_X1_emptyDeeds_23 {l : Launch} {p : Program} {e : Env} {s : State} {m : MethodId} {below : List Frame} {meth : Method} {c : Code} {args : Array Value} {A : Nat → Prop} {G : Gm} {a : AX}  (hF : fx p s m args meth c cX1_emptyDeeds 2 yX1_emptyDeeds.cls kX1_emptyDeeds none) {post : SX → Prop} {K2 : SX → Int32 → Prop} {K44 : SX → Int32 → Prop} (hK2 : ∀ (σ : SX) (v1 : Int32) {H : Heap} {locs : List Loc} {ls : Array Slot}, K2 σ v1 → wb G A s (wX G a σ) H locs → lv_has ls 2 [(0, .ref (a.1 13)), (1, .int v1)] → W p l e (rr 0 0) s m args below meth c H locs 0 0 (MQ below (va_Qv post (po G A (wX G a)) A) args s 0 0 A) (F0 m 2 ls [])) (hK44 : ∀ (σ : SX) (v1 : Int32) {H : Heap} {locs : List Loc} {ls : Array Slot}, K44 σ v1 → wb G A s (wX G a σ) H locs → lv_has ls 2 [(0, .ref (a.1 13)), (1, .int v1)] → W p l e (rr 0 0) s m args below meth c H locs 0 0 (MQ below (va_Qv post (po G A (wX G a)) A) args s 0 0 A) (F0 m 44 ls [])) (Inv : Nat → SX → Int32 → Prop) (hstep : ∀ (n : Nat) (σ : SX) (v1 : Int32), Inv n σ v1 → wp_X1_emptyDeeds_23 σ v1 K2 (fun σq v1' => ∃ nq, nq < n ∧ Inv nq σq v1') K44 post) :
    ∀ (n : Nat) (σ : SX) (v1 : Int32) {H : Heap} {locs : List Loc} {ls : Array Slot}, Inv n σ v1 → wb G A s (wX G a σ) H locs → lv_has ls 2 [(0, .ref (a.1 13)), (1, .int v1)] → W p l e (rr 0 0) s m args below meth c H locs 0 0 (MQ below (va_Qv post (po G A (wX G a)) A) args s 0 0 A) (F0 m 23 ls []) := by
  intro n
  induction n using Nat.strongRecOn with
  | _ n ih =>
    intro σ v1 H locs ls hI hw hl
    exact k_X1_emptyDeeds_23  hF (post := post) (K2 := K2) (K23 := fun σq v1' => ∃ nq, nq < n ∧ Inv nq σq v1') (K44 := K44) hK2 (by intro σq v1' H locs ls hI hw hl; exact ih hI.choose hI.choose_spec.1 σq v1' hI.choose_spec.2 hw hl) hK44 σ v1 hw hl (hstep n σ v1 hI)

theorem lp_X1_emptyDeeds_44 {l : Launch} {p : Program} {e : Env} {s : State} {m : MethodId} {below : List Frame} {meth : Method} {c : Code} {args : Array Value} {A : Nat → Prop} {G : Gm} {a : AX}  (hF : fx p s m args meth c cX1_emptyDeeds 2 yX1_emptyDeeds.cls kX1_emptyDeeds none) {post : SX → Prop} {K2 : SX → Int32 → Prop} {K23 : SX → Int32 → Prop} (hK2 : ∀ (σ : SX) (v1 : Int32) {H : Heap} {locs : List Loc} {ls : Array Slot}, K2 σ v1 → wb G A s (wX G a σ) H locs → lv_has ls 2 [(0, .ref (a.1 13)), (1, .int v1)] → W p l e (rr 0 0) s m args below meth c H locs 0 0 (MQ below (va_Qv post (po G A (wX G a)) A) args s 0 0 A) (F0 m 2 ls [])) (hK23 : ∀ (σ : SX) (v1 : Int32) {H : Heap} {locs : List Loc} {ls : Array Slot}, K23 σ v1 → wb G A s (wX G a σ) H locs → lv_has ls 2 [(0, .ref (a.1 13)), (1, .int v1)] → W p l e (rr 0 0) s m args below meth c H locs 0 0 (MQ below (va_Qv post (po G A (wX G a)) A) args s 0 0 A) (F0 m 23 ls [])) (Inv : Nat → SX → Int32 → Prop) (hstep : ∀ (n : Nat) (σ : SX) (v1 : Int32), Inv n σ v1 → wp_X1_emptyDeeds_44 σ v1 K2 K23 (fun σq v1' => ∃ nq, nq < n ∧ Inv nq σq v1') post) :
    ∀ (n : Nat) (σ : SX) (v1 : Int32) {H : Heap} {locs : List Loc} {ls : Array Slot}, Inv n σ v1 → wb G A s (wX G a σ) H locs → lv_has ls 2 [(0, .ref (a.1 13)), (1, .int v1)] → W p l e (rr 0 0) s m args below meth c H locs 0 0 (MQ below (va_Qv post (po G A (wX G a)) A) args s 0 0 A) (F0 m 44 ls []) := by
  intro n
  induction n using Nat.strongRecOn with
  | _ n ih =>
    intro σ v1 H locs ls hI hw hl
    exact k_X1_emptyDeeds_44  hF (post := post) (K2 := K2) (K23 := K23) (K44 := fun σq v1' => ∃ nq, nq < n ∧ Inv nq σq v1') hK2 hK23 (by intro σq v1' H locs ls hI hw hl; exact ih hI.choose hI.choose_spec.1 σq v1' hI.choose_spec.2 hw hl) σ v1 hw hl (hstep n σ v1 hI)

theorem p1_ed_44 (σ0 : SX) (K2 : SX → Int32 → Prop) (K23 : SX → Int32 → Prop) (post : SX → Prop) (hK : post (sxO σ0 4 (wipe (σ0.2.2.1 4) none 12))) (n : Nat) (σ : SX) (v1 : Int32) (hI : ∃ j : Nat, j + n = 12 ∧ v1 = nI j ∧ σ = sxO σ0 4 (wipe (σ0.2.2.1 4) none j)) :
    wp_X1_emptyDeeds_44 σ v1 K2 K23 (fun σq v1' => ∃ nq, nq < n ∧ ∃ j : Nat, j + nq = 12 ∧ v1' = nI j ∧ σq = sxO σ0 4 (wipe (σ0.2.2.1 4) none j)) post := by
  obtain ⟨j, hj, rfl, rfl⟩ := hI
  refine ⟨fun c => ?_, fun c => ?_⟩
  · rw [show (12 : Int32) = nI 12 from rfl, nI_leI (by decide) (by omega)] at c
    have : j = 12 := by omega
    subst this
    exact hK
  · rw [show (12 : Int32) = nI 12 from rfl, nI_leI (by decide) (by omega)] at c
    refine ⟨vp_in_nI (by omega) (by decide), fun z hz => (by cases hz), fun σ2 e2 x3 e3 => ⟨n - 1, by omega, j + 1, by omega, by rw [e3, nI_1], ?_⟩⟩
    rw [e2, nI_clamp (by omega)]
    simp only [sxO]
    rw [va_up_self, wipe_s, up_up]

theorem p1_ed_23 (σ0 : SX) (K2 : SX → Int32 → Prop) (K44 : SX → Int32 → Prop) (post : SX → Prop) (hK : K44 (sxO σ0 3 (wipe (σ0.2.2.1 3) none 20)) 0) (n : Nat) (σ : SX) (v1 : Int32) (hI : ∃ j : Nat, j + n = 20 ∧ v1 = nI j ∧ σ = sxO σ0 3 (wipe (σ0.2.2.1 3) none j)) :
    wp_X1_emptyDeeds_23 σ v1 K2 (fun σq v1' => ∃ nq, nq < n ∧ ∃ j : Nat, j + nq = 20 ∧ v1' = nI j ∧ σq = sxO σ0 3 (wipe (σ0.2.2.1 3) none j)) K44 post := by
  obtain ⟨j, hj, rfl, rfl⟩ := hI
  refine ⟨fun c => ?_, fun c => ?_⟩
  · rw [show (20 : Int32) = nI 20 from rfl, nI_leI (by decide) (by omega)] at c
    have : j = 20 := by omega
    subst this
    exact hK
  · rw [show (20 : Int32) = nI 20 from rfl, nI_leI (by decide) (by omega)] at c
    refine ⟨vp_in_nI (by omega) (by decide), fun z hz => (by cases hz), fun σ2 e2 x3 e3 => ⟨n - 1, by omega, j + 1, by omega, by rw [e3, nI_1], ?_⟩⟩
    rw [e2, nI_clamp (by omega)]
    simp only [sxO]
    rw [va_up_self, wipe_s, up_up]

theorem p1_ed_2 (σ0 : SX) (K23 : SX → Int32 → Prop) (K44 : SX → Int32 → Prop) (post : SX → Prop) (hK : K23 (sxO σ0 2 (wipe (σ0.2.2.1 2) none 20)) 0) (n : Nat) (σ : SX) (v1 : Int32) (hI : ∃ j : Nat, j + n = 20 ∧ v1 = nI j ∧ σ = sxO σ0 2 (wipe (σ0.2.2.1 2) none j)) :
    wp_X1_emptyDeeds_2 σ v1 (fun σq v1' => ∃ nq, nq < n ∧ ∃ j : Nat, j + nq = 20 ∧ v1' = nI j ∧ σq = sxO σ0 2 (wipe (σ0.2.2.1 2) none j)) K23 K44 post := by
  obtain ⟨j, hj, rfl, rfl⟩ := hI
  refine ⟨fun c => ?_, fun c => ?_⟩
  · rw [show (20 : Int32) = nI 20 from rfl, nI_leI (by decide) (by omega)] at c
    have : j = 20 := by omega
    subst this
    exact hK
  · rw [show (20 : Int32) = nI 20 from rfl, nI_leI (by decide) (by omega)] at c
    refine ⟨vp_in_nI (by omega) (by decide), fun z hz => (by cases hz), fun σ2 e2 x3 e3 => ⟨n - 1, by omega, j + 1, by omega, by rw [e3, nI_1], ?_⟩⟩
    rw [e2, nI_clamp (by omega)]
    simp only [sxO]
    rw [va_up_self, wipe_s, up_up]

theorem c1_emptyDeeds (l : Launch) (G : Gm) (a : AX) (σ : SX) (_ : q1_emptyDeeds σ) : ctV l yX1_emptyDeeds cX1_emptyDeeds 2 (rr 0 0) G [.ref (a.1 13)] (wX G a σ) (fun (u : SX) => u = f1_emptyDeeds σ) (wX G a) := by
  refine en_V (by decide +kernel) (Nat.le_of_ble_eq_true rfl) (fun p e s m below meth c A ls hF hn hw hl => ?_)
  obtain ⟨σa, ea⟩ : ∃ z, z = sxO σ 2 (wipe (σ.2.2.1 2) none 20) := ⟨_, rfl⟩
  obtain ⟨σb, eb⟩ : ∃ z, z = sxO σa 3 (wipe (σa.2.2.1 3) none 20) := ⟨_, rfl⟩
  have hfin : sxO σb 4 (wipe (σb.2.2.1 4) none 12) = f1_emptyDeeds σ := by subst eb; subst ea; rfl
  have h44 := lp_X1_emptyDeeds_44 (l := l) (e := e) (below := below) (A := A) (G := G) (a := a) (post := fun u => u = f1_emptyDeeds σ) hF (K2 := fun _ _ => False) (K23 := fun _ _ => False) (fun _ _ _ _ _ h => h.elim) (fun _ _ _ _ _ h => h.elim) _ (p1_ed_44 σb (fun _ _ => False) (fun _ _ => False) _ hfin)
  have h23 := lp_X1_emptyDeeds_23 (l := l) (e := e) (below := below) (A := A) (G := G) (a := a) (post := fun u => u = f1_emptyDeeds σ) hF (K2 := fun _ _ => False) (K44 := fun σq v1' => ∃ nq : Nat, ∃ j : Nat, j + nq = 12 ∧ v1' = nI j ∧ σq = sxO σb 4 (wipe (σb.2.2.1 4) none j)) (fun _ _ _ _ _ h => h.elim) (by
    intro σq v1' H locs ls hI hw hl
    exact h44 hI.choose σq v1' hI.choose_spec hw hl) _ (p1_ed_23 σa (fun _ _ => False) _ _ ⟨12, 0, rfl, rfl, by rw [wipe_0, ← eb]; simp only [sxO]; rw [up_same]⟩)
  have h2 := lp_X1_emptyDeeds_2 (l := l) (e := e) (below := below) (A := A) (G := G) (a := a) (post := fun u => u = f1_emptyDeeds σ) hF (K23 := fun σq v1' => ∃ nq : Nat, ∃ j : Nat, j + nq = 20 ∧ v1' = nI j ∧ σq = sxO σa 3 (wipe (σa.2.2.1 3) none j)) (K44 := fun _ _ => False) (by
    intro σq v1' H locs ls hI hw hl
    exact h23 hI.choose σq v1' hI.choose_spec hw hl) (fun _ _ _ _ _ h => h.elim) _ (p1_ed_2 σ _ (fun _ _ => False) _ ⟨20, 0, rfl, rfl, by rw [wipe_0, ← ea]; simp only [sxO]; rw [up_same]⟩)
  refine k_X1_emptyDeeds_0 hF (K2 := fun σq v1' => ∃ nq : Nat, ∃ j : Nat, j + nq = 20 ∧ v1' = nI j ∧ σq = sxO σ 2 (wipe (σ.2.2.1 2) none j)) (K23 := fun _ _ => False) (K44 := fun _ _ => False) ?_ (fun _ _ _ _ _ h => h.elim) (fun _ _ _ _ _ h => h.elim) σ hw hl ?_
  · intro σq v1' H locs ls hI hw hl
    exact h2 hI.choose σq v1' hI.choose_spec hw hl
  · exact ⟨20, 0, rfl, rfl, by rw [wipe_0]; simp only [sxO]; rw [up_same]⟩

def wp_X1_fill_0 (σ : SX) (v1 : Int32) (v2 : Int32)  (post : Int32 → SX → Prop) : Prop :=
  q1_heldBy σ v1 ∧ ∀ (r1 : Int32) (σ2 : SX), r1 = (f1_heldBy σ v1).1 → σ2 = (f1_heldBy σ v1).2 → q1_pour σ2 v1 v2 ∧ ∀ σ3 : SX, σ3 = (f1_pour σ2 v1 v2) → post r1 σ3
set_option maxHeartbeats 4000000 in
set_option maxRecDepth 100000 in
theorem k_X1_fill_0 {l : Launch} {p : Program} {e : Env} {s : State} {m : MethodId} {below : List Frame} {meth : Method} {c : Code} {args : Array Value} {A : Nat → Prop} {G : Gm} {a : AX}  (hF : fx p s m args meth c cX1_fill 4 yX1_fill.cls kX1_fill (some (.int))) {post : Int32 → SX → Prop}  (σ : SX) (v1 : Int32) (v2 : Int32) {H : Heap} {locs : List Loc} {ls : Array Slot} (hw : wb G A s (wX G a σ) H locs) (hl : lv_has ls 4 [(0, .ref (a.1 13)), (1, .int v1), (2, .int v2)]) (hok : wp_X1_fill_0 σ v1 v2  post) :
    W p l e (rr 2 42) s m args below meth c H locs 0 0 (MQ below (va_Qi post (po G A (wX G a)) A) args s 0 0 A) (F0 m 0 ls []) := by
  unfold wp_X1_fill_0 at hok
  refine lv_aload_n hF.x hF.b dX1_fill_0 rfl (lv_at hl 0 rfl) ?_
  refine lv_iload_n hF.x hF.b dX1_fill_1 rfl (lv_at hl 1 rfl) ?_
  refine ca_I hF hw (c1_heldBy l G a σ v1 hok.1) wv_X1_55 (q0 := 0) rfl rfl rfl ⟨nd_X1.1, nd_X1.2, pd_X1_heldBy⟩ ⟨Nat.le_of_ble_eq_true rfl, Nat.le_of_ble_eq_true rfl⟩ ⟨Nat.zero_le _, Nat.zero_le _⟩ hl.1 rfl (by first | exact Nat.le_of_ble_eq_true rfl | simp [cat_rf, Value.category]) dX1_fill_2 (fun r1 σ2 H locs hp hw => ?_)
  obtain ⟨er1, eσ2⟩ := hp
  replace hok := hok.2 r1 σ2 er1 eσ2
  refine lv_istore_n (lv' := [(3, .int r1), (0, .ref (a.1 13)), (1, .int v1), (2, .int v2)]) hF.x hF.b dX1_fill_5 rfl hl (by decide) rfl (fun ls hl => ?_)
  refine lv_aload_n hF.x hF.b dX1_fill_6 rfl (lv_at hl 1 rfl) ?_
  refine lv_iload_n hF.x hF.b dX1_fill_7 rfl (lv_at hl 2 rfl) ?_
  refine lv_iload_n hF.x hF.b dX1_fill_8 rfl (lv_at hl 3 rfl) ?_
  refine ca_V hF hw (c1_pour l G a σ2 v1 v2 hok.1) wv_X1_59 (q0 := 0) rfl rfl rfl ⟨nd_X1.1, nd_X1.2, pd_X1_pour⟩ ⟨Nat.le_of_ble_eq_true rfl, Nat.le_of_ble_eq_true rfl⟩ ⟨Nat.zero_le _, Nat.zero_le _⟩ hl.1 rfl (by first | exact Nat.le_of_ble_eq_true rfl | simp [cat_rf, Value.category]) dX1_fill_9 (fun σ3 H locs eσ3 hw => ?_)
  replace hok := hok.2 σ3 eσ3
  refine lv_iload_n hF.x hF.b dX1_fill_12 rfl (lv_at hl 0 rfl) ?_
  exact rt_I (u := σ3) hF hw hok (Nat.zero_le _) (Nat.zero_le _) dX1_fill_13

theorem p1_fill (σ : SX) (v1 v2 : Int32) (_ : q1_fill σ v1 v2) : wp_X1_fill_0 σ v1 v2 (fun r u => r = (f1_fill σ v1 v2).1 ∧ u = (f1_fill σ v1 v2).2) := by
  refine ⟨trivial, fun r1 σ2 e1 e2 => ?_⟩
  obtain rfl : σ2 = σ := e2
  exact ⟨trivial, fun σ3 e3 => ⟨e1, e3⟩⟩

theorem c1_fill (l : Launch) (G : Gm) (a : AX) (σ : SX) (v1 : Int32) (v2 : Int32) (h : q1_fill σ v1 v2) : ctI l yX1_fill cX1_fill 4 .int (rr 2 42) G [.ref (a.1 13), .int v1, .int v2] (wX G a σ) (fun (r : Int32) (u : SX) => r = (f1_fill σ v1 v2).1 ∧ u = (f1_fill σ v1 v2).2) (wX G a) := by
  refine en_I (by decide +kernel) (Nat.le_of_ble_eq_true rfl) (fun p e s m below meth c A ls hF hw hl => ?_)
  exact k_X1_fill_0 hF σ v1 v2 hw hl (p1_fill σ v1 v2 h)

def wp_X1_basin_0 (σ : SX) (v1 : Int32)  (post : Int32 → SX → Prop) : Prop :=
  q1_heldBy σ v1 ∧ ∀ (r1 : Int32) (σ2 : SX), r1 = (f1_heldBy σ v1).1 → σ2 = (f1_heldBy σ v1).2 → post r1 σ2
set_option maxHeartbeats 4000000 in
set_option maxRecDepth 100000 in
theorem k_X1_basin_0 {l : Launch} {p : Program} {e : Env} {s : State} {m : MethodId} {below : List Frame} {meth : Method} {c : Code} {args : Array Value} {A : Nat → Prop} {G : Gm} {a : AX}  (hF : fx p s m args meth c cX1_basin 2 yX1_basin.cls kX1_basin (some (.int))) {post : Int32 → SX → Prop}  (σ : SX) (v1 : Int32) {H : Heap} {locs : List Loc} {ls : Array Slot} (hw : wb G A s (wX G a σ) H locs) (hl : lv_has ls 2 [(0, .ref (a.1 13)), (1, .int v1)]) (hok : wp_X1_basin_0 σ v1  post) :
    W p l e (rr 2 41) s m args below meth c H locs 0 0 (MQ below (va_Qi post (po G A (wX G a)) A) args s 0 0 A) (F0 m 0 ls []) := by
  unfold wp_X1_basin_0 at hok
  refine lv_aload_n hF.x hF.b dX1_basin_0 rfl (lv_at hl 0 rfl) ?_
  refine lv_iload_n hF.x hF.b dX1_basin_1 rfl (lv_at hl 1 rfl) ?_
  refine ca_I hF hw (c1_heldBy l G a σ v1 hok.1) wv_X1_55 (q0 := 0) rfl rfl rfl ⟨nd_X1.1, nd_X1.2, pd_X1_heldBy⟩ ⟨Nat.le_of_ble_eq_true rfl, Nat.le_of_ble_eq_true rfl⟩ ⟨Nat.zero_le _, Nat.zero_le _⟩ hl.1 rfl (by first | exact Nat.le_of_ble_eq_true rfl | simp [cat_rf, Value.category]) dX1_basin_2 (fun r1 σ2 H locs hp hw => ?_)
  obtain ⟨er1, eσ2⟩ := hp
  replace hok := hok.2 r1 σ2 er1 eσ2
  exact rt_I (u := σ2) hF hw hok (Nat.zero_le _) (Nat.zero_le _) dX1_basin_5

theorem p1_basin (σ : SX) (v1 : Int32) (_ : q1_basin σ v1) : wp_X1_basin_0 σ v1 (fun r u => r = (f1_basin σ v1).1 ∧ u = (f1_basin σ v1).2) :=
  ⟨trivial, fun r1 σ2 e1 e2 => ⟨e1, e2⟩⟩

theorem c1_basin (l : Launch) (G : Gm) (a : AX) (σ : SX) (v1 : Int32) (h : q1_basin σ v1) : ctI l yX1_basin cX1_basin 2 .int (rr 2 41) G [.ref (a.1 13), .int v1] (wX G a σ) (fun (r : Int32) (u : SX) => r = (f1_basin σ v1).1 ∧ u = (f1_basin σ v1).2) (wX G a) := by
  refine en_I (by decide +kernel) (Nat.le_of_ble_eq_true rfl) (fun p e s m below meth c A ls hF hw hl => ?_)
  exact k_X1_basin_0 hF σ v1 hw hl (p1_basin σ v1 h)

def wp_X1_mark_0 (σ : SX) (v1 : Int32) (v2 : Int32)  (post : Int32 → SX → Prop) : Prop :=
  q1_gaugeNow σ v1 ∧ ∀ (o1 : Option Nat) (σ2 : SX), o1 = (f1_gaugeNow σ v1).1 → σ2 = (f1_gaugeNow σ v1).2 → q1_hasMark σ2 o1 v2 ∧ ∀ (r3 : Int32) (σ4 : SX), r3 = (f1_hasMark σ2 o1 v2).1 → σ4 = (f1_hasMark σ2 o1 v2).2 → (r3 = 0 → post 0 σ4) ∧ (¬ r3 = 0 → ∃ w6 : Nat, o1 = some w6 ∧ w6 < σ4.2.2.2.2.1 ∧ vp_in v2 (σ4.2.2.2.2.2 w6).1 ∧ post ((σ4.2.2.2.2.2 w6).2 v2.toNatClampNeg) σ4)
set_option maxHeartbeats 4000000 in
set_option maxRecDepth 100000 in
theorem k_X1_mark_0 {l : Launch} {p : Program} {e : Env} {s : State} {m : MethodId} {below : List Frame} {meth : Method} {c : Code} {args : Array Value} {A : Nat → Prop} {G : Gm} {a : AX}  (hF : fx p s m args meth c cX1_mark 4 yX1_mark.cls kX1_mark (some (.int))) {post : Int32 → SX → Prop}  (σ : SX) (v1 : Int32) (v2 : Int32) {H : Heap} {locs : List Loc} {ls : Array Slot} (hw : wb G A s (wX G a σ) H locs) (hl : lv_has ls 4 [(0, .ref (a.1 13)), (1, .int v1), (2, .int v2)]) (hok : wp_X1_mark_0 σ v1 v2  post) :
    W p l e (rr 2 41) s m args below meth c H locs 0 0 (MQ below (va_Qi post (po G A (wX G a)) A) args s 0 0 A) (F0 m 0 ls []) := by
  unfold wp_X1_mark_0 at hok
  refine lv_aload_n hF.x hF.b dX1_mark_0 rfl (lv_at hl 0 rfl) ?_
  refine lv_iload_n hF.x hF.b dX1_mark_1 rfl (lv_at hl 1 rfl) ?_
  refine ca_Q hF hw (c1_gaugeNow l G a σ v1 hok.1) wv_X1_67 (q0 := 0) rfl rfl rfl ⟨nd_X1.1, nd_X1.2, pd_X1_gaugeNow⟩ ⟨Nat.le_of_ble_eq_true rfl, Nat.le_of_ble_eq_true rfl⟩ ⟨Nat.zero_le _, Nat.zero_le _⟩ hl.1 rfl (by first | exact Nat.le_of_ble_eq_true rfl | simp [cat_rf, Value.category]) dX1_mark_2 (fun rq σ2 H locs hp hw => ?_)
  obtain ⟨o1, hr, eo1, eσ2⟩ := hp
  subst hr
  replace hok := hok.2 o1 σ2 eo1 eσ2
  refine lq_astore_n (lv' := [(3, va_rf (Option.map a.2.2 o1)), (0, .ref (a.1 13)), (1, .int v1), (2, .int v2)]) hF dX1_mark_5 rfl hl (by decide) (by first | rfl | (simp [cat_rf]; done) | (simp [cat_rf]; decide)) (fun ls hl => ?_)
  refine lq_aload_n hF dX1_mark_6 rfl (lv_at hl 0 rfl) ?_
  refine lv_iload_n hF.x hF.b dX1_mark_7 rfl (lv_at hl 3 rfl) ?_
  refine ca_W hF hw (c1_hasMark l G a σ2 o1 v2 hok.1) wv_X1_71 ⟨rfl, nd_X1.1, nd_X1.2, pd_X1_hasMark⟩ ⟨Nat.le_of_ble_eq_true rfl, Nat.le_of_ble_eq_true rfl⟩ ⟨Nat.zero_le _, Nat.zero_le _⟩ hl.1 rfl (by first | exact Nat.le_of_ble_eq_true rfl | simp [cat_rf, Value.category]) dX1_mark_8 (fun r3 σ4 H locs hp hw => ?_)
  obtain ⟨er3, eσ4⟩ := hp
  replace hok := hok.2 r3 σ4 er3 eσ4
  refine lv_if_eq (tgt := 20) hF.x hF.b dX1_mark_11 (by decide) (fun c5 => ?_) (fun c5 => ?_)
  · replace hok := hok.1 c5
    refine lv_iconst (v := 0) hF.x hF.b dX1_mark_20 (by decide) ?_
    exact rt_I (u := σ4) hF hw hok (Nat.zero_le _) (Nat.zero_le _) dX1_mark_21
  · replace hok := hok.2 c5
    refine lq_aload_n hF dX1_mark_14 rfl (lv_at hl 0 rfl) ?_
    refine lv_iload_n hF.x hF.b dX1_mark_15 rfl (lv_at hl 3 rfl) ?_
    obtain ⟨w6, ew6, hok⟩ := hok
    subst ew6
    have hl : lv_has ls 4 [(3, .ref (a.2.2 w6)), (0, .ref (a.1 13)), (1, .int v1), (2, .int v2)] := hl
    refine rx_rald hF hw hok.1 hok.2.1 dX1_mark_16 ?_
    replace hok := hok.2.2
    refine lv_goto (tgt := 21) hF.x hF.b dX1_mark_17 (by decide) ?_
    exact rt_I (u := σ4) hF hw hok (Nat.zero_le _) (Nat.zero_le _) dX1_mark_21

theorem okG {σ : SX} (h : WFX σ) (g : Int32) : ∀ r, (f1_gaugeNow σ g).1 = some r → r < σ.2.2.2.2.1 := by
  intro r hr
  simp only [f1_gaugeNow] at hr
  split at hr
  · cases hr
  · exact h.2.1 _ r hr
theorem p1_mark (σ : SX) (v1 v2 : Int32) (h : q1_mark σ v1 v2) : wp_X1_mark_0 σ v1 v2 (fun r u => r = (f1_mark σ v1 v2).1 ∧ u = (f1_mark σ v1 v2).2) := by
  refine ⟨trivial, fun o1 σ2 e1 e2 => ?_⟩
  obtain rfl : σ2 = σ := e2
  refine ⟨fun r hr => okG h v1 r (by rw [← e1]; exact hr), fun r3 σ4 e3 e4 => ?_⟩
  obtain rfl : σ4 = σ2 := e4
  subst e3
  refine ⟨fun c => ⟨?_, rfl⟩, fun c => ?_⟩
  · simp only [f1_mark]
    rw [← e1]
    cases o1 with
    | none => rfl
    | some r => dsimp only; rw [if_pos c]
  · cases o1 with
    | none => exact absurd rfl c
    | some r =>
      refine ⟨r, rfl, okG h v1 r e1.symm, hasMark_in c (h.2.2.2.1 r), ?_, rfl⟩
      simp only [f1_mark]
      rw [← e1]
      dsimp only
      rw [if_neg c]

theorem c1_mark (l : Launch) (G : Gm) (a : AX) (σ : SX) (v1 : Int32) (v2 : Int32) (h : q1_mark σ v1 v2) : ctI l yX1_mark cX1_mark 4 .int (rr 2 41) G [.ref (a.1 13), .int v1, .int v2] (wX G a σ) (fun (r : Int32) (u : SX) => r = (f1_mark σ v1 v2).1 ∧ u = (f1_mark σ v1 v2).2) (wX G a) := by
  refine en_I (by decide +kernel) (Nat.le_of_ble_eq_true rfl) (fun p e s m below meth c A ls hF hw hl => ?_)
  exact k_X1_mark_0 hF σ v1 v2 hw hl (p1_mark σ v1 v2 h)

def wp_X1_copy_0 (σ : SX) (v1 : Int32) (v2 : Int32)  (post : Int32 → SX → Prop) : Prop :=
  ∀ r1 : Int32, r1 = f1_isSlot v1 → (r1 = 0 → post ((-1)) σ) ∧ (¬ r1 = 0 → ∀ r3 : Int32, r3 = f1_isSlot v2 → (¬ r3 = 0 → vp_in v1 20 ∧ ∀ o5 : Option Nat, o5 = σ.2.2.1 2 v1.toNatClampNeg → (o5 = none → post ((-2)) σ) ∧ (∀ d6 : Nat, o5 = some d6 → vp_in v1 20 ∧ ∀ o7 : Option Nat, o7 = σ.2.2.1 2 v1.toNatClampNeg → vp_in v2 20 ∧ (∀ z, o7 = some z → z < σ.2.2.2.1.1) ∧ ∀ σ8 : SX, σ8 = (σ.1, σ.2.1, va_up σ.2.2.1 2 (va_up (σ.2.2.1 2) v2.toNatClampNeg o7), σ.2.2.2) → post 1 σ8)) ∧ (r3 = 0 → post ((-1)) σ))
set_option maxHeartbeats 4000000 in
set_option maxRecDepth 100000 in
theorem k_X1_copy_0 {l : Launch} {p : Program} {e : Env} {s : State} {m : MethodId} {below : List Frame} {meth : Method} {c : Code} {args : Array Value} {A : Nat → Prop} {G : Gm} {a : AX}  (hF : fx p s m args meth c cX1_copy 3 yX1_copy.cls kX1_copy (some (.int))) {post : Int32 → SX → Prop}  (σ : SX) (v1 : Int32) (v2 : Int32) {H : Heap} {locs : List Loc} {ls : Array Slot} (hw : wb G A s (wX G a σ) H locs) (hl : lv_has ls 3 [(0, .ref (a.1 13)), (1, .int v1), (2, .int v2)]) (hok : wp_X1_copy_0 σ v1 v2  post) :
    W p l e (rr 1 20) s m args below meth c H locs 0 0 (MQ below (va_Qi post (po G A (wX G a)) A) args s 0 0 A) (F0 m 0 ls []) := by
  unfold wp_X1_copy_0 at hok
  refine lv_iload_n hF.x hF.b dX1_copy_0 rfl (lv_at hl 1 rfl) ?_
  refine ca_S hF (c1_isSlot l v1) wv_X1_75 ⟨rfl, nd_X1.1, nd_X1.2, pd_X1_isSlot⟩ ⟨rfl, rfl⟩ ⟨Nat.le_of_ble_eq_true rfl, Nat.le_of_ble_eq_true rfl⟩ ⟨Nat.zero_le _, Nat.zero_le _⟩ hl.1 rfl (by first | exact Nat.le_of_ble_eq_true rfl | simp [cat_rf, Value.category]) dX1_copy_1 (fun r1 er1 => ?_)
  replace hok := hok r1 er1
  refine lv_if_eq (tgt := 14) hF.x hF.b dX1_copy_4 (by decide) (fun c2 => ?_) (fun c2 => ?_)
  · replace hok := hok.1 c2
    refine lv_iconst (v := (-1)) hF.x hF.b dX1_copy_14 (by decide) ?_
    exact rt_I (u := σ) hF hw hok (Nat.zero_le _) (Nat.zero_le _) dX1_copy_15
  · replace hok := hok.2 c2
    refine lv_iload_n hF.x hF.b dX1_copy_7 rfl (lv_at hl 2 rfl) ?_
    refine ca_S hF (c1_isSlot l v2) wv_X1_75 ⟨rfl, nd_X1.1, nd_X1.2, pd_X1_isSlot⟩ ⟨rfl, rfl⟩ ⟨Nat.le_of_ble_eq_true rfl, Nat.le_of_ble_eq_true rfl⟩ ⟨Nat.zero_le _, Nat.zero_le _⟩ hl.1 rfl (by first | exact Nat.le_of_ble_eq_true rfl | simp [cat_rf, Value.category]) dX1_copy_8 (fun r3 er3 => ?_)
    replace hok := hok r3 er3
    refine lv_if_ne (tgt := 16) hF.x hF.b dX1_copy_11 (by decide) (fun c4 => ?_) (fun c4 => ?_)
    · replace hok := hok.1 c4
      refine lv_aload_n hF.x hF.b dX1_copy_16 rfl (lv_at hl 0 rfl) ?_
      refine r_get hF hw 0 rfl rfl inlX1 2 (by decide) wf_X1_20 rfl dX1_copy_17 ?_
      refine lv_iload_n hF.x hF.b dX1_copy_20 rfl (lv_at hl 1 rfl) ?_
      refine rx_aald 2 20 hF hw (by decide) hok.1 dX1_copy_21 (fun o5 eo5 => ?_)
      replace hok := hok.2 o5 eo5
      refine lm_ifnonnull (o := o5) (tgt := 28) hF dX1_copy_22 (by decide) (fun d6 ed6 => ?_) (fun ed6 => ?_)
      · replace hok := hok.2 d6 ed6
        subst ed6
        have hl : lv_has ls 3 [(0, .ref (a.1 13)), (1, .int v1), (2, .int v2)] := hl
        refine lv_aload_n hF.x hF.b dX1_copy_28 rfl (lv_at hl 0 rfl) ?_
        refine r_get hF hw 0 rfl rfl inlX1 2 (by decide) wf_X1_20 rfl dX1_copy_29 ?_
        refine lv_iload_n hF.x hF.b dX1_copy_32 rfl (lv_at hl 2 rfl) ?_
        refine lv_aload_n hF.x hF.b dX1_copy_33 rfl (lv_at hl 0 rfl) ?_
        refine r_get hF hw 0 rfl rfl inlX1 2 (by decide) wf_X1_20 rfl dX1_copy_34 ?_
        refine lv_iload_n hF.x hF.b dX1_copy_37 rfl (lv_at hl 1 rfl) ?_
        refine rx_aald 2 20 hF hw (by decide) hok.1 dX1_copy_38 (fun o7 eo7 => ?_)
        replace hok := hok.2 o7 eo7
        refine rx_aast (o := o7) 2 20 hF hw (by decide) hok.1 hok.2.1 dX1_copy_39 (fun σ8 H locs eσ8 hw => ?_)
        replace hok := hok.2.2 σ8 eσ8
        refine lv_iconst (v := 1) hF.x hF.b dX1_copy_40 (by decide) ?_
        exact rt_I (u := σ8) hF hw hok (Nat.zero_le _) (Nat.zero_le _) dX1_copy_41
      · replace hok := hok.1 ed6
        subst ed6
        have hl : lv_has ls 3 [(0, .ref (a.1 13)), (1, .int v1), (2, .int v2)] := hl
        refine lv_bipush (v := (-2)) hF.x hF.b dX1_copy_25 (by decide) ?_
        exact rt_I (u := σ) hF hw hok (Nat.zero_le _) (Nat.zero_le _) dX1_copy_27
    · replace hok := hok.2 c4
      refine lv_iconst (v := (-1)) hF.x hF.b dX1_copy_14 (by decide) ?_
      exact rt_I (u := σ) hF hw hok (Nat.zero_le _) (Nat.zero_le _) dX1_copy_15

theorem p1_copy (σ : SX) (v1 v2 : Int32) (h : q1_copy σ v1 v2) : wp_X1_copy_0 σ v1 v2 (fun r u => r = (f1_copy σ v1 v2).1 ∧ u = (f1_copy σ v1 v2).2) := by
  intro r1 e1; subst e1
  refine ⟨fun c => ?_, fun c r3 e3 => ?_⟩
  · simp only [f1_copy]; rw [if_pos c]; exact ⟨rfl, rfl⟩
  · subst e3
    refine ⟨fun c2 => ⟨in_S c, fun o5 e5 => ⟨fun e => ?_, fun d e => ⟨in_S c, fun o7 e7 => ⟨in_S c2, fun z hz => h.1 2 _ z (Or.inl rfl) (by rw [← e7]; exact hz), fun σ8 e8 => ?_⟩⟩⟩⟩, fun c2 => ?_⟩
    · simp only [f1_copy]; rw [if_neg c, if_neg c2, ← e5, e]; exact ⟨rfl, rfl⟩
    · have e7' : o7 = some d := by rw [e7, ← e5, e]
      subst e8
      simp only [f1_copy]; rw [if_neg c, if_neg c2, ← e5, e, e7']; exact ⟨rfl, rfl⟩
    · simp only [f1_copy]; rw [if_neg c, if_pos c2]; exact ⟨rfl, rfl⟩

theorem c1_copy (l : Launch) (G : Gm) (a : AX) (σ : SX) (v1 : Int32) (v2 : Int32) (h : q1_copy σ v1 v2) : ctI l yX1_copy cX1_copy 3 .int (rr 1 20) G [.ref (a.1 13), .int v1, .int v2] (wX G a σ) (fun (r : Int32) (u : SX) => r = (f1_copy σ v1 v2).1 ∧ u = (f1_copy σ v1 v2).2) (wX G a) := by
  refine en_I (by decide +kernel) (Nat.le_of_ble_eq_true rfl) (fun p e s m below meth c A ls hF hw hl => ?_)
  exact k_X1_copy_0 hF σ v1 v2 hw hl (p1_copy σ v1 v2 h)

def wp_X1_drop_0 (σ : SX) (v1 : Int32)  (post : Int32 → SX → Prop) : Prop :=
  ∀ r1 : Int32, r1 = f1_isSlot v1 → (¬ r1 = 0 → vp_in v1 20 ∧ ∀ o3 : Option Nat, o3 = σ.2.2.1 2 v1.toNatClampNeg → (o3 = none → post ((-2)) σ) ∧ (∀ d4 : Nat, o3 = some d4 → vp_in v1 20 ∧ (∀ z, none = some z → z < σ.2.2.2.1.1) ∧ ∀ σ5 : SX, σ5 = (σ.1, σ.2.1, va_up σ.2.2.1 2 (va_up (σ.2.2.1 2) v1.toNatClampNeg none), σ.2.2.2) → post 1 σ5)) ∧ (r1 = 0 → post ((-1)) σ)
set_option maxHeartbeats 4000000 in
set_option maxRecDepth 100000 in
theorem k_X1_drop_0 {l : Launch} {p : Program} {e : Env} {s : State} {m : MethodId} {below : List Frame} {meth : Method} {c : Code} {args : Array Value} {A : Nat → Prop} {G : Gm} {a : AX}  (hF : fx p s m args meth c cX1_drop 2 yX1_drop.cls kX1_drop (some (.int))) {post : Int32 → SX → Prop}  (σ : SX) (v1 : Int32) {H : Heap} {locs : List Loc} {ls : Array Slot} (hw : wb G A s (wX G a σ) H locs) (hl : lv_has ls 2 [(0, .ref (a.1 13)), (1, .int v1)]) (hok : wp_X1_drop_0 σ v1  post) :
    W p l e (rr 1 20) s m args below meth c H locs 0 0 (MQ below (va_Qi post (po G A (wX G a)) A) args s 0 0 A) (F0 m 0 ls []) := by
  unfold wp_X1_drop_0 at hok
  refine lv_iload_n hF.x hF.b dX1_drop_0 rfl (lv_at hl 1 rfl) ?_
  refine ca_S hF (c1_isSlot l v1) wv_X1_75 ⟨rfl, nd_X1.1, nd_X1.2, pd_X1_isSlot⟩ ⟨rfl, rfl⟩ ⟨Nat.le_of_ble_eq_true rfl, Nat.le_of_ble_eq_true rfl⟩ ⟨Nat.zero_le _, Nat.zero_le _⟩ hl.1 rfl (by first | exact Nat.le_of_ble_eq_true rfl | simp [cat_rf, Value.category]) dX1_drop_1 (fun r1 er1 => ?_)
  replace hok := hok r1 er1
  refine lv_if_ne (tgt := 9) hF.x hF.b dX1_drop_4 (by decide) (fun c2 => ?_) (fun c2 => ?_)
  · replace hok := hok.1 c2
    refine lv_aload_n hF.x hF.b dX1_drop_9 rfl (lv_at hl 0 rfl) ?_
    refine r_get hF hw 0 rfl rfl inlX1 2 (by decide) wf_X1_20 rfl dX1_drop_10 ?_
    refine lv_iload_n hF.x hF.b dX1_drop_13 rfl (lv_at hl 1 rfl) ?_
    refine rx_aald 2 20 hF hw (by decide) hok.1 dX1_drop_14 (fun o3 eo3 => ?_)
    replace hok := hok.2 o3 eo3
    refine lm_ifnonnull (o := o3) (tgt := 21) hF dX1_drop_15 (by decide) (fun d4 ed4 => ?_) (fun ed4 => ?_)
    · replace hok := hok.2 d4 ed4
      subst ed4
      have hl : lv_has ls 2 [(0, .ref (a.1 13)), (1, .int v1)] := hl
      refine lv_aload_n hF.x hF.b dX1_drop_21 rfl (lv_at hl 0 rfl) ?_
      refine r_get hF hw 0 rfl rfl inlX1 2 (by decide) wf_X1_20 rfl dX1_drop_22 ?_
      refine lv_iload_n hF.x hF.b dX1_drop_25 rfl (lv_at hl 1 rfl) ?_
      refine lv_null hF.x hF.b dX1_drop_26 ?_
      refine rx_aast (o := none) 2 20 hF hw (by decide) hok.1 hok.2.1 dX1_drop_27 (fun σ5 H locs eσ5 hw => ?_)
      replace hok := hok.2.2 σ5 eσ5
      refine lv_iconst (v := 1) hF.x hF.b dX1_drop_28 (by decide) ?_
      exact rt_I (u := σ5) hF hw hok (Nat.zero_le _) (Nat.zero_le _) dX1_drop_29
    · replace hok := hok.1 ed4
      subst ed4
      have hl : lv_has ls 2 [(0, .ref (a.1 13)), (1, .int v1)] := hl
      refine lv_bipush (v := (-2)) hF.x hF.b dX1_drop_18 (by decide) ?_
      exact rt_I (u := σ) hF hw hok (Nat.zero_le _) (Nat.zero_le _) dX1_drop_20
  · replace hok := hok.2 c2
    refine lv_iconst (v := (-1)) hF.x hF.b dX1_drop_7 (by decide) ?_
    exact rt_I (u := σ) hF hw hok (Nat.zero_le _) (Nat.zero_le _) dX1_drop_8

theorem p1_drop (σ : SX) (v1 : Int32) (_ : q1_drop σ v1) : wp_X1_drop_0 σ v1 (fun r u => r = (f1_drop σ v1).1 ∧ u = (f1_drop σ v1).2) := by
  intro r1 e1; subst e1
  refine ⟨fun c => ⟨in_S c, fun o5 e5 => ⟨fun e => ?_, fun d e => ⟨in_S c, fun z hz => (by cases hz), fun σ8 e8 => ?_⟩⟩⟩, fun c => ?_⟩
  · simp only [f1_drop]; rw [if_neg c, ← e5, e]; exact ⟨rfl, rfl⟩
  · subst e8
    simp only [f1_drop]; rw [if_neg c, ← e5, e]; exact ⟨rfl, rfl⟩
  · simp only [f1_drop]; rw [if_pos c]; exact ⟨rfl, rfl⟩

theorem c1_drop (l : Launch) (G : Gm) (a : AX) (σ : SX) (v1 : Int32) (h : q1_drop σ v1) : ctI l yX1_drop cX1_drop 2 .int (rr 1 20) G [.ref (a.1 13), .int v1] (wX G a σ) (fun (r : Int32) (u : SX) => r = (f1_drop σ v1).1 ∧ u = (f1_drop σ v1).2) (wX G a) := by
  refine en_I (by decide +kernel) (Nat.le_of_ble_eq_true rfl) (fun p e s m below meth c A ls hF hw hl => ?_)
  exact k_X1_drop_0 hF σ v1 hw hl (p1_drop σ v1 h)

def wp_X1_lever_50 (σ : SX) (v1 : Int32) (v2 : Int32) (v3 : Int32) (o4 : Option Nat)  (post : Int32 → SX → Prop) : Prop :=
  ∀ x1 : Int32, x1 = v1 * 4 → ∀ x2 : Int32, x2 = x1 + v2 → vp_in x2 20 ∧ (∀ z, o4 = some z → z < σ.2.2.2.1.1) ∧ ∀ σ3 : SX, σ3 = (σ.1, σ.2.1, va_up σ.2.2.1 3 (va_up (σ.2.2.1 3) x2.toNatClampNeg o4), σ.2.2.2) → post 1 σ3
set_option maxHeartbeats 4000000 in
set_option maxRecDepth 100000 in
theorem k_X1_lever_50 {l : Launch} {p : Program} {e : Env} {s : State} {m : MethodId} {below : List Frame} {meth : Method} {c : Code} {args : Array Value} {A : Nat → Prop} {G : Gm} {a : AX}  (hF : fx p s m args meth c cX1_lever 5 yX1_lever.cls kX1_lever (some (.int))) {post : Int32 → SX → Prop}  (σ : SX) (v1 : Int32) (v2 : Int32) (v3 : Int32) (o4 : Option Nat) {H : Heap} {locs : List Loc} {ls : Array Slot} (hw : wb G A s (wX G a σ) H locs) (hl : lv_has ls 5 [(0, .ref (a.1 13)), (1, .int v1), (2, .int v2), (3, .int v3), (4, va_rf (Option.map a.2.1 o4))]) (hok : wp_X1_lever_50 σ v1 v2 v3 o4  post) :
    W p l e (rr 2 41) s m args below meth c H locs 0 0 (MQ below (va_Qi post (po G A (wX G a)) A) args s 0 0 A) (F0 m 50 ls []) := by
  unfold wp_X1_lever_50 at hok
  refine lv_aload_n hF.x hF.b dX1_lever_50 rfl (lv_at hl 0 rfl) ?_
  refine r_get hF hw 0 rfl rfl inlX1 3 (by decide) wf_X1_24 rfl dX1_lever_51 ?_
  refine lv_iload_n hF.x hF.b dX1_lever_54 rfl (lv_at hl 1 rfl) ?_
  refine lv_iconst (v := 4) hF.x hF.b dX1_lever_55 (by decide) ?_
  refine lv_imul hF.x hF.b dX1_lever_56 ?_
  refine lv_topi (fun x1 ex1 => ?_)
  replace hok := hok x1 ex1
  refine lv_iload_n hF.x hF.b dX1_lever_57 rfl (lv_at hl 2 rfl) ?_
  refine lv_iadd hF.x hF.b dX1_lever_58 ?_
  refine lv_topi (fun x2 ex2 => ?_)
  replace hok := hok x2 ex2
  refine lq_aload hF dX1_lever_59 (lv_at hl 4 rfl) ?_
  refine rx_aast (o := o4) 3 20 hF hw (by decide) hok.1 hok.2.1 dX1_lever_61 (fun σ3 H locs eσ3 hw => ?_)
  replace hok := hok.2.2 σ3 eσ3
  refine lv_iconst (v := 1) hF.x hF.b dX1_lever_62 (by decide) ?_
  exact rt_I (u := σ3) hF hw hok (Nat.zero_le _) (Nat.zero_le _) dX1_lever_63
def wp_X1_lever_30 (σ : SX) (v1 : Int32) (v2 : Int32) (v3 : Int32)  (post : Int32 → SX → Prop) : Prop :=
  q1_inSlot σ v3 ∧ ∀ (o1 : Option Nat) (σ2 : SX), o1 = (f1_inSlot σ v3).1 → σ2 = (f1_inSlot σ v3).2 → (v3 = ((-1)) → wp_X1_lever_50 σ2 v1 v2 v3 o1  post) ∧ (¬ v3 = ((-1)) → (o1 = none → post ((-2)) σ2) ∧ (∀ d4 : Nat, o1 = some d4 → wp_X1_lever_50 σ2 v1 v2 v3 (some d4)  post))
set_option maxHeartbeats 4000000 in
set_option maxRecDepth 100000 in
theorem k_X1_lever_30 {l : Launch} {p : Program} {e : Env} {s : State} {m : MethodId} {below : List Frame} {meth : Method} {c : Code} {args : Array Value} {A : Nat → Prop} {G : Gm} {a : AX}  (hF : fx p s m args meth c cX1_lever 5 yX1_lever.cls kX1_lever (some (.int))) {post : Int32 → SX → Prop}  (σ : SX) (v1 : Int32) (v2 : Int32) (v3 : Int32) {H : Heap} {locs : List Loc} {ls : Array Slot} (hw : wb G A s (wX G a σ) H locs) (hl : lv_has ls 5 [(0, .ref (a.1 13)), (1, .int v1), (2, .int v2), (3, .int v3)]) (hok : wp_X1_lever_30 σ v1 v2 v3  post) :
    W p l e (rr 2 41) s m args below meth c H locs 0 0 (MQ below (va_Qi post (po G A (wX G a)) A) args s 0 0 A) (F0 m 30 ls []) := by
  unfold wp_X1_lever_30 at hok
  refine lv_aload_n hF.x hF.b dX1_lever_30 rfl (lv_at hl 0 rfl) ?_
  refine lv_iload_n hF.x hF.b dX1_lever_31 rfl (lv_at hl 3 rfl) ?_
  refine ca_Q hF hw (c1_inSlot l G a σ v3 hok.1) wv_X1_85 (q0 := 0) rfl rfl rfl ⟨nd_X1.1, nd_X1.2, pd_X1_inSlot⟩ ⟨Nat.le_of_ble_eq_true rfl, Nat.le_of_ble_eq_true rfl⟩ ⟨Nat.zero_le _, Nat.zero_le _⟩ hl.1 rfl (by first | exact Nat.le_of_ble_eq_true rfl | simp [cat_rf, Value.category]) dX1_lever_32 (fun rq σ2 H locs hp hw => ?_)
  obtain ⟨o1, hr, eo1, eσ2⟩ := hp
  subst hr
  replace hok := hok.2 o1 σ2 eo1 eσ2
  refine lq_astore (lv' := [(4, va_rf (Option.map a.2.1 o1)), (0, .ref (a.1 13)), (1, .int v1), (2, .int v2), (3, .int v3)]) hF dX1_lever_35 hl (by decide) (by first | rfl | (simp [cat_rf]; done) | (simp [cat_rf]; decide)) (fun ls hl => ?_)
  refine lv_iload_n hF.x hF.b dX1_lever_37 rfl (lv_at hl 4 rfl) ?_
  refine lv_iconst (v := (-1)) hF.x hF.b dX1_lever_38 (by decide) ?_
  refine lv_icmp_eq (tgt := 50) hF.x hF.b dX1_lever_39 (by decide) (fun c3 => ?_) (fun c3 => ?_)
  · replace hok := hok.1 c3
    exact k_X1_lever_50  hF  σ2 v1 v2 v3 o1 hw (lv_sub hl [1, 2, 3, 4, 0] rfl) hok
  · replace hok := hok.2 c3
    refine lq_aload hF dX1_lever_42 (lv_at hl 0 rfl) ?_
    refine lm_ifnonnull (o := o1) (tgt := 50) hF dX1_lever_44 (by decide) (fun d4 ed4 => ?_) (fun ed4 => ?_)
    · replace hok := hok.2 d4 ed4
      subst ed4
      have hl : lv_has ls 5 [(4, .ref (a.2.1 d4)), (0, .ref (a.1 13)), (1, .int v1), (2, .int v2), (3, .int v3)] := hl
      exact k_X1_lever_50  hF  σ2 v1 v2 v3 (some d4) hw (lv_sub hl [1, 2, 3, 4, 0] rfl) hok
    · replace hok := hok.1 ed4
      subst ed4
      have hl : lv_has ls 5 [(4, .null), (0, .ref (a.1 13)), (1, .int v1), (2, .int v2), (3, .int v3)] := hl
      refine lv_bipush (v := (-2)) hF.x hF.b dX1_lever_47 (by decide) ?_
      exact rt_I (u := σ2) hF hw hok (Nat.zero_le _) (Nat.zero_le _) dX1_lever_49
def wp_X1_lever_0 (σ : SX) (v1 : Int32) (v2 : Int32) (v3 : Int32)  (post : Int32 → SX → Prop) : Prop :=
  ∀ r1 : Int32, r1 = f1_isLever v1 → (r1 = 0 → post ((-1)) σ) ∧ (¬ r1 = 0 → (v2 < 0 → post ((-1)) σ) ∧ (¬ v2 < 0 → (4 ≤ v2 → post ((-1)) σ) ∧ (¬ 4 ≤ v2 → (v3 = ((-1)) → wp_X1_lever_30 σ v1 v2 v3  post) ∧ (¬ v3 = ((-1)) → ∀ r6 : Int32, r6 = f1_isSlot v3 → (¬ r6 = 0 → wp_X1_lever_30 σ v1 v2 v3  post) ∧ (r6 = 0 → post ((-1)) σ)))))
set_option maxHeartbeats 4000000 in
set_option maxRecDepth 100000 in
theorem k_X1_lever_0 {l : Launch} {p : Program} {e : Env} {s : State} {m : MethodId} {below : List Frame} {meth : Method} {c : Code} {args : Array Value} {A : Nat → Prop} {G : Gm} {a : AX}  (hF : fx p s m args meth c cX1_lever 5 yX1_lever.cls kX1_lever (some (.int))) {post : Int32 → SX → Prop}  (σ : SX) (v1 : Int32) (v2 : Int32) (v3 : Int32) {H : Heap} {locs : List Loc} {ls : Array Slot} (hw : wb G A s (wX G a σ) H locs) (hl : lv_has ls 5 [(0, .ref (a.1 13)), (1, .int v1), (2, .int v2), (3, .int v3)]) (hok : wp_X1_lever_0 σ v1 v2 v3  post) :
    W p l e (rr 2 41) s m args below meth c H locs 0 0 (MQ below (va_Qi post (po G A (wX G a)) A) args s 0 0 A) (F0 m 0 ls []) := by
  unfold wp_X1_lever_0 at hok
  refine lv_iload_n hF.x hF.b dX1_lever_0 rfl (lv_at hl 1 rfl) ?_
  refine ca_S hF (c1_isLever l v1) wv_X1_95 ⟨rfl, nd_X1.1, nd_X1.2, pd_X1_isLever⟩ ⟨rfl, rfl⟩ ⟨Nat.le_of_ble_eq_true rfl, Nat.le_of_ble_eq_true rfl⟩ ⟨Nat.zero_le _, Nat.zero_le _⟩ hl.1 rfl (by first | exact Nat.le_of_ble_eq_true rfl | simp [cat_rf, Value.category]) dX1_lever_1 (fun r1 er1 => ?_)
  replace hok := hok r1 er1
  refine lv_if_eq (tgt := 28) hF.x hF.b dX1_lever_4 (by decide) (fun c2 => ?_) (fun c2 => ?_)
  · replace hok := hok.1 c2
    refine lv_iconst (v := (-1)) hF.x hF.b dX1_lever_28 (by decide) ?_
    exact rt_I (u := σ) hF hw hok (Nat.zero_le _) (Nat.zero_le _) dX1_lever_29
  · replace hok := hok.2 c2
    refine lv_iload_n hF.x hF.b dX1_lever_7 rfl (lv_at hl 2 rfl) ?_
    refine lv_if_lt (tgt := 28) hF.x hF.b dX1_lever_8 (by decide) (fun c3 => ?_) (fun c3 => ?_)
    · replace hok := hok.1 c3
      refine lv_iconst (v := (-1)) hF.x hF.b dX1_lever_28 (by decide) ?_
      exact rt_I (u := σ) hF hw hok (Nat.zero_le _) (Nat.zero_le _) dX1_lever_29
    · replace hok := hok.2 c3
      refine lv_iload_n hF.x hF.b dX1_lever_11 rfl (lv_at hl 2 rfl) ?_
      refine lv_iconst (v := 4) hF.x hF.b dX1_lever_12 (by decide) ?_
      refine lv_icmp_ge (tgt := 28) hF.x hF.b dX1_lever_13 (by decide) (fun c4 => ?_) (fun c4 => ?_)
      · replace hok := hok.1 c4
        refine lv_iconst (v := (-1)) hF.x hF.b dX1_lever_28 (by decide) ?_
        exact rt_I (u := σ) hF hw hok (Nat.zero_le _) (Nat.zero_le _) dX1_lever_29
      · replace hok := hok.2 c4
        refine lv_iload_n hF.x hF.b dX1_lever_16 rfl (lv_at hl 3 rfl) ?_
        refine lv_iconst (v := (-1)) hF.x hF.b dX1_lever_17 (by decide) ?_
        refine lv_icmp_eq (tgt := 30) hF.x hF.b dX1_lever_18 (by decide) (fun c5 => ?_) (fun c5 => ?_)
        · replace hok := hok.1 c5
          exact k_X1_lever_30  hF  σ v1 v2 v3 hw (lv_sub hl [0, 1, 2, 3] rfl) hok
        · replace hok := hok.2 c5
          refine lv_iload_n hF.x hF.b dX1_lever_21 rfl (lv_at hl 3 rfl) ?_
          refine ca_S hF (c1_isSlot l v3) wv_X1_75 ⟨rfl, nd_X1.1, nd_X1.2, pd_X1_isSlot⟩ ⟨rfl, rfl⟩ ⟨Nat.le_of_ble_eq_true rfl, Nat.le_of_ble_eq_true rfl⟩ ⟨Nat.zero_le _, Nat.zero_le _⟩ hl.1 rfl (by first | exact Nat.le_of_ble_eq_true rfl | simp [cat_rf, Value.category]) dX1_lever_22 (fun r6 er6 => ?_)
          replace hok := hok r6 er6
          refine lv_if_ne (tgt := 30) hF.x hF.b dX1_lever_25 (by decide) (fun c7 => ?_) (fun c7 => ?_)
          · replace hok := hok.1 c7
            exact k_X1_lever_30  hF  σ v1 v2 v3 hw (lv_sub hl [0, 1, 2, 3] rfl) hok
          · replace hok := hok.2 c7
            refine lv_iconst (v := (-1)) hF.x hF.b dX1_lever_28 (by decide) ?_
            exact rt_I (u := σ) hF hw hok (Nat.zero_le _) (Nat.zero_le _) dX1_lever_29

theorem p1_lever_50 (σ : SX) (v1 v2 v3 : Int32) (o : Option Nat) (post : Int32 → SX → Prop) (h1 : ¬ f1_isLever v1 = 0) (h2 : ¬ v2 < 0) (h3 : ¬ 4 ≤ v2) (ho : okO σ o) (hp : post 1 (sxO σ 3 (va_up (σ.2.2.1 3) (v1 * 4 + v2).toNatClampNeg o))) : wp_X1_lever_50 σ v1 v2 v3 o post := by
  intro x1 e1 x2 e2
  subst e1; subst e2
  obtain ⟨i, j, hi, hj, -, -, e⟩ := in_LP h1 h2 h3
  exact ⟨by rw [e]; exact vp_in_nI (by omega) (by decide), ho, fun σ3 e3 => by subst e3; exact hp⟩
theorem p1_lever_30 (σ : SX) (v1 v2 v3 : Int32) (h : WFX σ) (h1 : ¬ f1_isLever v1 = 0) (h2 : ¬ v2 < 0) (h3 : ¬ 4 ≤ v2) (h4 : ¬ (¬ v3 = -1 ∧ f1_isSlot v3 = 0)) : wp_X1_lever_30 σ v1 v2 v3 (fun r u => r = (f1_lever σ v1 v2 v3).1 ∧ u = (f1_lever σ v1 v2 v3).2) := by
  refine ⟨trivial, fun o1 σ2 e1 e2 => ?_⟩
  obtain rfl : σ2 = σ := e2
  refine ⟨fun c => ?_, fun c => ⟨fun e => ?_, fun d e => ?_⟩⟩
  · refine p1_lever_50 σ2 v1 v2 v3 o1 _ h1 h2 h3 (by rw [e1]; exact okO.in h v3) ?_
    simp only [f1_lever]
    rw [if_neg h1, if_neg h2, if_neg h3, if_neg h4, if_neg (fun q => q.1 c), e1]
    exact ⟨rfl, rfl⟩
  · simp only [f1_lever]
    rw [if_neg h1, if_neg h2, if_neg h3, if_neg h4, if_pos ⟨c, by rw [← e1]; exact e⟩]
    exact ⟨rfl, rfl⟩
  · refine p1_lever_50 σ2 v1 v2 v3 (some d) _ h1 h2 h3 (by rw [← e, e1]; exact okO.in h v3) ?_
    simp only [f1_lever]
    rw [if_neg h1, if_neg h2, if_neg h3, if_neg h4, if_neg (fun q => by rw [← e1, e] at q; cases q.2), ← e1, e]
    exact ⟨rfl, rfl⟩
theorem p1_lever (σ : SX) (v1 v2 v3 : Int32) (h : q1_lever σ v1 v2 v3) : wp_X1_lever_0 σ v1 v2 v3 (fun r u => r = (f1_lever σ v1 v2 v3).1 ∧ u = (f1_lever σ v1 v2 v3).2) := by
  intro r1 e1; subst e1
  refine ⟨fun c => ?_, fun c => ⟨fun c2 => ?_, fun c2 => ⟨fun c3 => ?_, fun c3 => ⟨fun c4 => ?_, fun c4 r6 e6 => ?_⟩⟩⟩⟩
  · simp only [f1_lever]; rw [if_pos c]; exact ⟨rfl, rfl⟩
  · simp only [f1_lever]; rw [if_neg c, if_pos c2]; exact ⟨rfl, rfl⟩
  · simp only [f1_lever]; rw [if_neg c, if_neg c2, if_pos c3]; exact ⟨rfl, rfl⟩
  · exact p1_lever_30 σ v1 v2 v3 h c c2 c3 (fun q => q.1 c4)
  · subst e6
    refine ⟨fun c5 => p1_lever_30 σ v1 v2 v3 h c c2 c3 (fun q => c5 q.2), fun c5 => ?_⟩
    simp only [f1_lever]; rw [if_neg c, if_neg c2, if_neg c3, if_pos ⟨c4, c5⟩]; exact ⟨rfl, rfl⟩

theorem c1_lever (l : Launch) (G : Gm) (a : AX) (σ : SX) (v1 : Int32) (v2 : Int32) (v3 : Int32) (h : q1_lever σ v1 v2 v3) : ctI l yX1_lever cX1_lever 5 .int (rr 2 41) G [.ref (a.1 13), .int v1, .int v2, .int v3] (wX G a σ) (fun (r : Int32) (u : SX) => r = (f1_lever σ v1 v2 v3).1 ∧ u = (f1_lever σ v1 v2 v3).2) (wX G a) := by
  refine en_I (by decide +kernel) (Nat.le_of_ble_eq_true rfl) (fun p e s m below meth c A ls hF hw hl => ?_)
  exact k_X1_lever_0 hF σ v1 v2 v3 hw hl (p1_lever σ v1 v2 v3 h)

def wp_X1_same_0 (σ : SX) (v1 : Int32) (v2 : Int32)  (post : Int32 → SX → Prop) : Prop :=
  ∀ r1 : Int32, r1 = f1_isSlot v1 → (r1 = 0 → post ((-1)) σ) ∧ (¬ r1 = 0 → ∀ r3 : Int32, r3 = f1_isSlot v2 → (¬ r3 = 0 → vp_in v1 20 ∧ ∀ o5 : Option Nat, o5 = σ.2.2.1 2 v1.toNatClampNeg → (o5 = none → post 0 σ) ∧ (∀ d6 : Nat, o5 = some d6 → vp_in v1 20 ∧ ∀ o7 : Option Nat, o7 = σ.2.2.1 2 v1.toNatClampNeg → vp_in v2 20 ∧ ∀ o8 : Option Nat, o8 = σ.2.2.1 2 v2.toNatClampNeg → (∀ z, o7 = some z → z < σ.2.2.2.1.1) ∧ (∀ z, o8 = some z → z < σ.2.2.2.1.1) ∧ (¬ o7 = o8 → post 0 σ) ∧ (o7 = o8 → post 1 σ))) ∧ (r3 = 0 → post ((-1)) σ))
set_option maxHeartbeats 4000000 in
set_option maxRecDepth 100000 in
theorem k_X1_same_0 {l : Launch} {p : Program} {e : Env} {s : State} {m : MethodId} {below : List Frame} {meth : Method} {c : Code} {args : Array Value} {A : Nat → Prop} {G : Gm} {a : AX}  (hF : fx p s m args meth c cX1_same 3 yX1_same.cls kX1_same (some (.int))) {post : Int32 → SX → Prop}  (σ : SX) (v1 : Int32) (v2 : Int32) {H : Heap} {locs : List Loc} {ls : Array Slot} (hw : wb G A s (wX G a σ) H locs) (hl : lv_has ls 3 [(0, .ref (a.1 13)), (1, .int v1), (2, .int v2)]) (hok : wp_X1_same_0 σ v1 v2  post) :
    W p l e (rr 1 20) s m args below meth c H locs 0 0 (MQ below (va_Qi post (po G A (wX G a)) A) args s 0 0 A) (F0 m 0 ls []) := by
  unfold wp_X1_same_0 at hok
  refine lv_iload_n hF.x hF.b dX1_same_0 rfl (lv_at hl 1 rfl) ?_
  refine ca_S hF (c1_isSlot l v1) wv_X1_75 ⟨rfl, nd_X1.1, nd_X1.2, pd_X1_isSlot⟩ ⟨rfl, rfl⟩ ⟨Nat.le_of_ble_eq_true rfl, Nat.le_of_ble_eq_true rfl⟩ ⟨Nat.zero_le _, Nat.zero_le _⟩ hl.1 rfl (by first | exact Nat.le_of_ble_eq_true rfl | simp [cat_rf, Value.category]) dX1_same_1 (fun r1 er1 => ?_)
  replace hok := hok r1 er1
  refine lv_if_eq (tgt := 14) hF.x hF.b dX1_same_4 (by decide) (fun c2 => ?_) (fun c2 => ?_)
  · replace hok := hok.1 c2
    refine lv_iconst (v := (-1)) hF.x hF.b dX1_same_14 (by decide) ?_
    exact rt_I (u := σ) hF hw hok (Nat.zero_le _) (Nat.zero_le _) dX1_same_15
  · replace hok := hok.2 c2
    refine lv_iload_n hF.x hF.b dX1_same_7 rfl (lv_at hl 2 rfl) ?_
    refine ca_S hF (c1_isSlot l v2) wv_X1_75 ⟨rfl, nd_X1.1, nd_X1.2, pd_X1_isSlot⟩ ⟨rfl, rfl⟩ ⟨Nat.le_of_ble_eq_true rfl, Nat.le_of_ble_eq_true rfl⟩ ⟨Nat.zero_le _, Nat.zero_le _⟩ hl.1 rfl (by first | exact Nat.le_of_ble_eq_true rfl | simp [cat_rf, Value.category]) dX1_same_8 (fun r3 er3 => ?_)
    replace hok := hok r3 er3
    refine lv_if_ne (tgt := 16) hF.x hF.b dX1_same_11 (by decide) (fun c4 => ?_) (fun c4 => ?_)
    · replace hok := hok.1 c4
      refine lv_aload_n hF.x hF.b dX1_same_16 rfl (lv_at hl 0 rfl) ?_
      refine r_get hF hw 0 rfl rfl inlX1 2 (by decide) wf_X1_20 rfl dX1_same_17 ?_
      refine lv_iload_n hF.x hF.b dX1_same_20 rfl (lv_at hl 1 rfl) ?_
      refine rx_aald 2 20 hF hw (by decide) hok.1 dX1_same_21 (fun o5 eo5 => ?_)
      replace hok := hok.2 o5 eo5
      refine lm_ifnull (o := o5) (tgt := 44) hF dX1_same_22 (by decide) (fun ed6 => ?_) (fun d6 ed6 => ?_)
      · replace hok := hok.1 ed6
        subst ed6
        have hl : lv_has ls 3 [(0, .ref (a.1 13)), (1, .int v1), (2, .int v2)] := hl
        refine lv_iconst (v := 0) hF.x hF.b dX1_same_44 (by decide) ?_
        exact rt_I (u := σ) hF hw hok (Nat.zero_le _) (Nat.zero_le _) dX1_same_45
      · replace hok := hok.2 d6 ed6
        subst ed6
        have hl : lv_has ls 3 [(0, .ref (a.1 13)), (1, .int v1), (2, .int v2)] := hl
        refine lv_aload_n hF.x hF.b dX1_same_25 rfl (lv_at hl 0 rfl) ?_
        refine r_get hF hw 0 rfl rfl inlX1 2 (by decide) wf_X1_20 rfl dX1_same_26 ?_
        refine lv_iload_n hF.x hF.b dX1_same_29 rfl (lv_at hl 1 rfl) ?_
        refine rx_aald 2 20 hF hw (by decide) hok.1 dX1_same_30 (fun o7 eo7 => ?_)
        replace hok := hok.2 o7 eo7
        refine lv_aload_n hF.x hF.b dX1_same_31 rfl (lv_at hl 0 rfl) ?_
        refine r_get hF hw 0 rfl rfl inlX1 2 (by decide) wf_X1_20 rfl dX1_same_32 ?_
        refine lv_iload_n hF.x hF.b dX1_same_35 rfl (lv_at hl 2 rfl) ?_
        refine rx_aald 2 20 hF hw (by decide) hok.1 dX1_same_36 (fun o8 eo8 => ?_)
        replace hok := hok.2 o8 eo8
        have hap := wX_ap hw hok.1 hok.2.1
        replace hok := hok.2.2
        refine lv_acmp_ne (rx := (o7).map a.2.1) (ry := (o8).map a.2.1) (tgt := 44) hF.x hF.b dX1_same_37 (by decide) (fun c9 => ?_) (fun c9 => ?_)
        · replace hok := hok.1 (fun q => c9 (congrArg (Option.map a.2.1) q))
          refine lv_iconst (v := 0) hF.x hF.b dX1_same_44 (by decide) ?_
          exact rt_I (u := σ) hF hw hok (Nat.zero_le _) (Nat.zero_le _) dX1_same_45
        · replace hok := hok.2 (hap c9)
          refine lv_iconst (v := 1) hF.x hF.b dX1_same_40 (by decide) ?_
          refine lv_goto (tgt := 45) hF.x hF.b dX1_same_41 (by decide) ?_
          exact rt_I (u := σ) hF hw hok (Nat.zero_le _) (Nat.zero_le _) dX1_same_45
    · replace hok := hok.2 c4
      refine lv_iconst (v := (-1)) hF.x hF.b dX1_same_14 (by decide) ?_
      exact rt_I (u := σ) hF hw hok (Nat.zero_le _) (Nat.zero_le _) dX1_same_15

theorem p1_same (σ : SX) (v1 v2 : Int32) (h : q1_same σ v1 v2) : wp_X1_same_0 σ v1 v2 (fun r u => r = (f1_same σ v1 v2).1 ∧ u = (f1_same σ v1 v2).2) := by
  intro r1 e1; subst e1
  refine ⟨fun c => ?_, fun c r3 e3 => ?_⟩
  · simp only [f1_same]; rw [if_pos c]; exact ⟨rfl, rfl⟩
  · subst e3
    refine ⟨fun c2 => ⟨in_S c, fun o5 e5 => ⟨fun e => ?_, fun d e => ⟨in_S c, fun o7 e7 => ⟨in_S c2, fun o8 e8 => ⟨fun z hz => h.1 2 _ z (Or.inl rfl) (by rw [← e7]; exact hz), fun z hz => h.1 2 _ z (Or.inl rfl) (by rw [← e8]; exact hz), fun c3 => ?_, fun c3 => ?_⟩⟩⟩⟩⟩, fun c2 => ?_⟩
    · simp only [f1_same]; rw [if_neg c, if_neg c2, ← e5, e]; exact ⟨rfl, rfl⟩
    · have e7' : o7 = some d := by rw [e7, ← e5, e]
      simp only [f1_same]; rw [if_neg c, if_neg c2, ← e5, e]; dsimp only; rw [if_neg (by rw [← e7', ← e8]; exact c3)]; exact ⟨rfl, rfl⟩
    · have e7' : o7 = some d := by rw [e7, ← e5, e]
      simp only [f1_same]; rw [if_neg c, if_neg c2, ← e5, e]; dsimp only; rw [if_pos (by rw [← e7', ← e8]; exact c3)]; exact ⟨rfl, rfl⟩
    · simp only [f1_same]; rw [if_neg c, if_pos c2]; exact ⟨rfl, rfl⟩

theorem c1_same (l : Launch) (G : Gm) (a : AX) (σ : SX) (v1 : Int32) (v2 : Int32) (h : q1_same σ v1 v2) : ctI l yX1_same cX1_same 3 .int (rr 1 20) G [.ref (a.1 13), .int v1, .int v2] (wX G a σ) (fun (r : Int32) (u : SX) => r = (f1_same σ v1 v2).1 ∧ u = (f1_same σ v1 v2).2) (wX G a) := by
  refine en_I (by decide +kernel) (Nat.le_of_ble_eq_true rfl) (fun p e s m below meth c A ls hF hw hl => ?_)
  exact k_X1_same_0 hF σ v1 v2 hw hl (p1_same σ v1 v2 h)

def wp_X1_count_0 (σ : SX) (v1 : Int32)  (post : Int32 → SX → Prop) : Prop :=
  ∀ r1 : Int32, r1 = f1_isSlot v1 → (¬ r1 = 0 → vp_in v1 20 ∧ ∀ o3 : Option Nat, o3 = σ.2.2.1 2 v1.toNatClampNeg → (o3 = none → post ((-2)) σ) ∧ (∀ d4 : Nat, o3 = some d4 → d4 < σ.2.2.2.1.1 ∧ (¬ ((σ.2.2.2.1.2 d4).1 0) = 12 → post ((-2)) σ) ∧ (((σ.2.2.2.1.2 d4).1 0) = 12 → d4 < σ.2.2.2.1.1 ∧ post ((σ.2.2.2.1.2 d4).1 7) σ))) ∧ (r1 = 0 → post ((-1)) σ)
set_option maxHeartbeats 4000000 in
set_option maxRecDepth 100000 in
theorem k_X1_count_0 {l : Launch} {p : Program} {e : Env} {s : State} {m : MethodId} {below : List Frame} {meth : Method} {c : Code} {args : Array Value} {A : Nat → Prop} {G : Gm} {a : AX}  (hF : fx p s m args meth c cX1_count 3 yX1_count.cls kX1_count (some (.int))) {post : Int32 → SX → Prop}  (σ : SX) (v1 : Int32) {H : Heap} {locs : List Loc} {ls : Array Slot} (hw : wb G A s (wX G a σ) H locs) (hl : lv_has ls 3 [(0, .ref (a.1 13)), (1, .int v1)]) (hok : wp_X1_count_0 σ v1  post) :
    W p l e (rr 1 20) s m args below meth c H locs 0 0 (MQ below (va_Qi post (po G A (wX G a)) A) args s 0 0 A) (F0 m 0 ls []) := by
  unfold wp_X1_count_0 at hok
  refine lv_iload_n hF.x hF.b dX1_count_0 rfl (lv_at hl 1 rfl) ?_
  refine ca_S hF (c1_isSlot l v1) wv_X1_75 ⟨rfl, nd_X1.1, nd_X1.2, pd_X1_isSlot⟩ ⟨rfl, rfl⟩ ⟨Nat.le_of_ble_eq_true rfl, Nat.le_of_ble_eq_true rfl⟩ ⟨Nat.zero_le _, Nat.zero_le _⟩ hl.1 rfl (by first | exact Nat.le_of_ble_eq_true rfl | simp [cat_rf, Value.category]) dX1_count_1 (fun r1 er1 => ?_)
  replace hok := hok r1 er1
  refine lv_if_ne (tgt := 9) hF.x hF.b dX1_count_4 (by decide) (fun c2 => ?_) (fun c2 => ?_)
  · replace hok := hok.1 c2
    refine lv_aload_n hF.x hF.b dX1_count_9 rfl (lv_at hl 0 rfl) ?_
    refine r_get hF hw 0 rfl rfl inlX1 2 (by decide) wf_X1_20 rfl dX1_count_10 ?_
    refine lv_iload_n hF.x hF.b dX1_count_13 rfl (lv_at hl 1 rfl) ?_
    refine rx_aald 2 20 hF hw (by decide) hok.1 dX1_count_14 (fun o3 eo3 => ?_)
    replace hok := hok.2 o3 eo3
    refine lq_astore_n (lv' := [(2, va_rf (Option.map a.2.1 o3)), (0, .ref (a.1 13)), (1, .int v1)]) hF dX1_count_15 rfl hl (by decide) (by first | rfl | (simp [cat_rf]; done) | (simp [cat_rf]; decide)) (fun ls hl => ?_)
    refine lq_aload_n hF dX1_count_16 rfl (lv_at hl 0 rfl) ?_
    refine lm_ifnull (o := o3) (tgt := 36) hF dX1_count_17 (by decide) (fun ed4 => ?_) (fun d4 ed4 => ?_)
    · replace hok := hok.1 ed4
      subst ed4
      have hl : lv_has ls 3 [(2, .null), (0, .ref (a.1 13)), (1, .int v1)] := hl
      refine lv_bipush (v := (-2)) hF.x hF.b dX1_count_36 (by decide) ?_
      exact rt_I (u := σ) hF hw hok (Nat.zero_le _) (Nat.zero_le _) dX1_count_38
    · replace hok := hok.2 d4 ed4
      subst ed4
      have hl : lv_has ls 3 [(2, .ref (a.2.1 d4)), (0, .ref (a.1 13)), (1, .int v1)] := hl
      refine lv_aload_n hF.x hF.b dX1_count_20 rfl (lv_at hl 0 rfl) ?_
      refine rx_dget (k := 0) hF hw hok.1 (by decide) (by unfold nestW; simp [TX0]) rfl dX1_count_21 ?_
      replace hok := hok.2
      refine lv_bipush (v := 12) hF.x hF.b dX1_count_24 (by decide) ?_
      refine lv_icmp_ne (tgt := 36) hF.x hF.b dX1_count_26 (by decide) (fun c5 => ?_) (fun c5 => ?_)
      · replace hok := hok.1 c5
        refine lv_bipush (v := (-2)) hF.x hF.b dX1_count_36 (by decide) ?_
        exact rt_I (u := σ) hF hw hok (Nat.zero_le _) (Nat.zero_le _) dX1_count_38
      · replace hok := hok.2 c5
        refine lv_aload_n hF.x hF.b dX1_count_29 rfl (lv_at hl 0 rfl) ?_
        refine rx_dget (k := 7) hF hw hok.1 (by decide) (by unfold nestW; simp [TX0]) rfl dX1_count_30 ?_
        replace hok := hok.2
        refine lv_goto (tgt := 38) hF.x hF.b dX1_count_33 (by decide) ?_
        exact rt_I (u := σ) hF hw hok (Nat.zero_le _) (Nat.zero_le _) dX1_count_38
  · replace hok := hok.2 c2
    refine lv_iconst (v := (-1)) hF.x hF.b dX1_count_7 (by decide) ?_
    exact rt_I (u := σ) hF hw hok (Nat.zero_le _) (Nat.zero_le _) dX1_count_8

theorem p1_count (σ : SX) (v1 : Int32) (h : q1_count σ v1) : wp_X1_count_0 σ v1 (fun r u => r = (f1_count σ v1).1 ∧ u = (f1_count σ v1).2) := by
  intro r1 e1; subst e1
  refine ⟨fun c => ⟨in_S c, fun o5 e5 => ⟨fun e => ?_, fun d e => ⟨h.1 2 _ d (Or.inl rfl) (by rw [← e5]; exact e), fun c2 => ?_, fun c2 => ⟨h.1 2 _ d (Or.inl rfl) (by rw [← e5]; exact e), ?_⟩⟩⟩⟩, fun c => ?_⟩
  · simp only [f1_count]; rw [if_neg c, ← e5, e]; exact ⟨rfl, rfl⟩
  · simp only [f1_count]; rw [if_neg c, ← e5, e]; dsimp only; rw [if_neg c2]; exact ⟨rfl, rfl⟩
  · simp only [f1_count]; rw [if_neg c, ← e5, e]; dsimp only; rw [if_pos c2]; exact ⟨rfl, rfl⟩
  · simp only [f1_count]; rw [if_pos c]; exact ⟨rfl, rfl⟩

theorem c1_count (l : Launch) (G : Gm) (a : AX) (σ : SX) (v1 : Int32) (h : q1_count σ v1) : ctI l yX1_count cX1_count 3 .int (rr 1 20) G [.ref (a.1 13), .int v1] (wX G a σ) (fun (r : Int32) (u : SX) => r = (f1_count σ v1).1 ∧ u = (f1_count σ v1).2) (wX G a) := by
  refine en_I (by decide +kernel) (Nat.le_of_ble_eq_true rfl) (fun p e s m below meth c A ls hF hw hl => ?_)
  exact k_X1_count_0 hF σ v1 hw hl (p1_count σ v1 h)

def wp_X1_act_0 (σ : SX) (v1 : Int32) (v2 : Int32)  (post : Int32 → SX → Prop) : Prop :=
  ∀ r1 : Int32, r1 = f1_isSlot v1 → (¬ r1 = 0 → vp_in v1 20 ∧ ∀ o3 : Option Nat, o3 = σ.2.2.1 2 v1.toNatClampNeg → (o3 = none → q1_refuse σ ((-2)) ∧ ∀ (r5 : Int32) (σ6 : SX), r5 = (f1_refuse σ ((-2))).1 → σ6 = (f1_refuse σ ((-2))).2 → post r5 σ6) ∧ (∀ d4 : Nat, o3 = some d4 → q1_begin σ  ∧ ∀ σ7 : SX, σ7 = (f1_begin σ ) → vp_in v1 20 ∧ ∀ o8 : Option Nat, o8 = σ7.2.2.1 2 v1.toNatClampNeg → q1_do 16 σ7 o8 v2 0 ∧ ∀ (r9 : Int32) (σ10 : SX), r9 = (f1_do 16 σ7 o8 v2 0).1 → σ10 = (f1_do 16 σ7 o8 v2 0).2 → q1_noteFailure σ10  ∧ ∀ σ11 : SX, σ11 = (f1_noteFailure σ10 ) → post r9 σ11)) ∧ (r1 = 0 → q1_refuse σ ((-1)) ∧ ∀ (r12 : Int32) (σ13 : SX), r12 = (f1_refuse σ ((-1))).1 → σ13 = (f1_refuse σ ((-1))).2 → post r12 σ13)
set_option maxHeartbeats 4000000 in
set_option maxRecDepth 100000 in
theorem k_X1_act_0 {l : Launch} {p : Program} {e : Env} {s : State} {m : MethodId} {below : List Frame} {meth : Method} {c : Code} {args : Array Value} {A : Nat → Prop} {G : Gm} {a : AX}  (hF : fx p s m args meth c cX1_act 4 yX1_act.cls kX1_act (some (.int))) {post : Int32 → SX → Prop}  (σ : SX) (v1 : Int32) (v2 : Int32) {H : Heap} {locs : List Loc} {ls : Array Slot} (hw : wb G A s (wX G a σ) H locs) (hl : lv_has ls 4 [(0, .ref (a.1 13)), (1, .int v1), (2, .int v2)]) (hok : wp_X1_act_0 σ v1 v2  post) :
    W p l e (rr 55 1383) s m args below meth c H locs 0 0 (MQ below (va_Qi post (po G A (wX G a)) A) args s 0 0 A) (F0 m 0 ls []) := by
  unfold wp_X1_act_0 at hok
  refine lv_iload_n hF.x hF.b dX1_act_0 rfl (lv_at hl 1 rfl) ?_
  refine ca_S hF (c1_isSlot l v1) wv_X1_75 ⟨rfl, nd_X1.1, nd_X1.2, pd_X1_isSlot⟩ ⟨rfl, rfl⟩ ⟨Nat.le_of_ble_eq_true rfl, Nat.le_of_ble_eq_true rfl⟩ ⟨Nat.zero_le _, Nat.zero_le _⟩ hl.1 rfl (by first | exact Nat.le_of_ble_eq_true rfl | simp [cat_rf, Value.category]) dX1_act_1 (fun r1 er1 => ?_)
  replace hok := hok r1 er1
  refine lv_if_ne (tgt := 13) hF.x hF.b dX1_act_4 (by decide) (fun c2 => ?_) (fun c2 => ?_)
  · replace hok := hok.1 c2
    refine lv_aload_n hF.x hF.b dX1_act_13 rfl (lv_at hl 0 rfl) ?_
    refine r_get hF hw 0 rfl rfl inlX1 2 (by decide) wf_X1_20 rfl dX1_act_14 ?_
    refine lv_iload_n hF.x hF.b dX1_act_17 rfl (lv_at hl 1 rfl) ?_
    refine rx_aald 2 20 hF hw (by decide) hok.1 dX1_act_18 (fun o3 eo3 => ?_)
    replace hok := hok.2 o3 eo3
    refine lm_ifnonnull (o := o3) (tgt := 29) hF dX1_act_19 (by decide) (fun d4 ed4 => ?_) (fun ed4 => ?_)
    · replace hok := hok.2 d4 ed4
      subst ed4
      have hl : lv_has ls 4 [(0, .ref (a.1 13)), (1, .int v1), (2, .int v2)] := hl
      refine lv_aload_n hF.x hF.b dX1_act_29 rfl (lv_at hl 0 rfl) ?_
      refine ca_V hF hw (c1_begin l G a σ  hok.1) wv_X1_107 (q0 := 0) rfl rfl rfl ⟨nd_X1.1, nd_X1.2, pd_X1_begin⟩ ⟨Nat.le_of_ble_eq_true rfl, Nat.le_of_ble_eq_true rfl⟩ ⟨Nat.zero_le _, Nat.zero_le _⟩ hl.1 rfl (by first | exact Nat.le_of_ble_eq_true rfl | simp [cat_rf, Value.category]) dX1_act_30 (fun σ7 H locs eσ7 hw => ?_)
      replace hok := hok.2 σ7 eσ7
      refine lv_aload_n hF.x hF.b dX1_act_33 rfl (lv_at hl 0 rfl) ?_
      refine lv_aload_n hF.x hF.b dX1_act_34 rfl (lv_at hl 0 rfl) ?_
      refine r_get hF hw 0 rfl rfl inlX1 2 (by decide) wf_X1_20 rfl dX1_act_35 ?_
      refine lv_iload_n hF.x hF.b dX1_act_38 rfl (lv_at hl 1 rfl) ?_
      refine rx_aald 2 20 hF hw (by decide) hok.1 dX1_act_39 (fun o8 eo8 => ?_)
      replace hok := hok.2 o8 eo8
      refine lv_iload_n hF.x hF.b dX1_act_40 rfl (lv_at hl 2 rfl) ?_
      refine lv_iconst (v := 0) hF.x hF.b dX1_act_41 (by decide) ?_
      refine ca_I hF hw (c1_doDeed 16 σ7 o8 v2 0 hok.1) wv_X1_110 (q0 := 0) rfl rfl rfl ⟨nd_X1.1, nd_X1.2, pd_X1_doDeed⟩ ⟨Nat.le_of_ble_eq_true rfl, Nat.le_of_ble_eq_true rfl⟩ ⟨Nat.zero_le _, Nat.zero_le _⟩ hl.1 rfl (by first | exact Nat.le_of_ble_eq_true rfl | simp [cat_rf, Value.category]) dX1_act_42 (fun r9 σ10 H locs hp hw => ?_)
      obtain ⟨er9, eσ10⟩ := hp
      replace hok := hok.2 r9 σ10 er9 eσ10
      refine lv_istore_n (lv' := [(3, .int r9), (0, .ref (a.1 13)), (1, .int v1), (2, .int v2)]) hF.x hF.b dX1_act_45 rfl hl (by decide) rfl (fun ls hl => ?_)
      refine lv_aload_n hF.x hF.b dX1_act_46 rfl (lv_at hl 1 rfl) ?_
      refine ca_V hF hw (c1_noteFailure l G a σ10  hok.1) wv_X1_114 (q0 := 0) rfl rfl rfl ⟨nd_X1.1, nd_X1.2, pd_X1_noteFailure⟩ ⟨Nat.le_of_ble_eq_true rfl, Nat.le_of_ble_eq_true rfl⟩ ⟨Nat.zero_le _, Nat.zero_le _⟩ hl.1 rfl (by first | exact Nat.le_of_ble_eq_true rfl | simp [cat_rf, Value.category]) dX1_act_47 (fun σ11 H locs eσ11 hw => ?_)
      replace hok := hok.2 σ11 eσ11
      refine lv_iload_n hF.x hF.b dX1_act_50 rfl (lv_at hl 0 rfl) ?_
      exact rt_I (u := σ11) hF hw hok (Nat.zero_le _) (Nat.zero_le _) dX1_act_51
    · replace hok := hok.1 ed4
      subst ed4
      have hl : lv_has ls 4 [(0, .ref (a.1 13)), (1, .int v1), (2, .int v2)] := hl
      refine lv_aload_n hF.x hF.b dX1_act_22 rfl (lv_at hl 0 rfl) ?_
      refine lv_bipush (v := (-2)) hF.x hF.b dX1_act_23 (by decide) ?_
      refine ca_I hF hw (c1_refuse l G a σ ((-2)) hok.1) wv_X1_104 (q0 := 0) rfl rfl rfl ⟨nd_X1.1, nd_X1.2, pd_X1_refuse⟩ ⟨Nat.le_of_ble_eq_true rfl, Nat.le_of_ble_eq_true rfl⟩ ⟨Nat.zero_le _, Nat.zero_le _⟩ hl.1 rfl (by first | exact Nat.le_of_ble_eq_true rfl | simp [cat_rf, Value.category]) dX1_act_25 (fun r5 σ6 H locs hp hw => ?_)
      obtain ⟨er5, eσ6⟩ := hp
      replace hok := hok.2 r5 σ6 er5 eσ6
      exact rt_I (u := σ6) hF hw hok (Nat.zero_le _) (Nat.zero_le _) dX1_act_28
  · replace hok := hok.2 c2
    refine lv_aload_n hF.x hF.b dX1_act_7 rfl (lv_at hl 0 rfl) ?_
    refine lv_iconst (v := (-1)) hF.x hF.b dX1_act_8 (by decide) ?_
    refine ca_I hF hw (c1_refuse l G a σ ((-1)) hok.1) wv_X1_104 (q0 := 0) rfl rfl rfl ⟨nd_X1.1, nd_X1.2, pd_X1_refuse⟩ ⟨Nat.le_of_ble_eq_true rfl, Nat.le_of_ble_eq_true rfl⟩ ⟨Nat.zero_le _, Nat.zero_le _⟩ hl.1 rfl (by first | exact Nat.le_of_ble_eq_true rfl | simp [cat_rf, Value.category]) dX1_act_9 (fun r12 σ13 H locs hp hw => ?_)
    obtain ⟨er12, eσ13⟩ := hp
    replace hok := hok.2 r12 σ13 er12 eσ13
    exact rt_I (u := σ13) hF hw hok (Nat.zero_le _) (Nat.zero_le _) dX1_act_12

theorem p1_act (σ : SX) (v1 v2 : Int32) (h : q1_act σ v1 v2) : wp_X1_act_0 σ v1 v2 (fun r u => r = (f1_act σ v1 v2).1 ∧ u = (f1_act σ v1 v2).2) := by
  intro r1 e1; subst e1
  have hb := XK.begin h
  refine ⟨fun c => ⟨in_S c, fun o5 e5 => ⟨fun e => ⟨trivial, fun r σ' e6 e7 => ?_⟩, fun d e => ⟨trivial, fun σ7 e7 => ⟨in_S c, fun o8 e8 => ?_⟩⟩⟩⟩, fun c => ⟨trivial, fun r σ' e6 e7 => ?_⟩⟩
  · simp only [f1_act]; rw [if_neg c, ← e5, e]; exact ⟨e6, e7⟩
  · subst e7
    have e8' : o8 = some d := by rw [e8, ← e, e5]; rfl
    refine ⟨⟨hb.1, fun z hz => hb.1.1 2 _ z (Or.inl rfl) (by rw [← e8]; exact hz), by decide, rfl⟩, fun r9 σ10 e9 e10 => ⟨trivial, fun σ11 e11 => ?_⟩⟩
    subst e8'; subst e9; subst e10; subst e11
    simp only [f1_act]; rw [if_neg c, ← e5, e]; exact ⟨rfl, rfl⟩
  · simp only [f1_act]; rw [if_pos c]; exact ⟨e6, e7⟩

theorem c1_act (l : Launch) (G : Gm) (a : AX) (σ : SX) (v1 : Int32) (v2 : Int32) (h : q1_act σ v1 v2) : ctI l yX1_act cX1_act 4 .int (rr 55 1383) G [.ref (a.1 13), .int v1, .int v2] (wX G a σ) (fun (r : Int32) (u : SX) => r = (f1_act σ v1 v2).1 ∧ u = (f1_act σ v1 v2).2) (wX G a) := by
  refine en_I (by decide +kernel) (Nat.le_of_ble_eq_true rfl) (fun p e s m below meth c A ls hF hw hl => ?_)
  exact k_X1_act_0 hF σ v1 v2 hw hl (p1_act σ v1 v2 h)

def wp_X1_pull_0 (σ : SX) (v1 : Int32) (v2 : Int32)  (post : Int32 → SX → Prop) : Prop :=
  ∀ r1 : Int32, r1 = f1_isLever v1 → (¬ r1 = 0 → q1_begin σ  ∧ ∀ σ3 : SX, σ3 = (f1_begin σ ) → q1_doPlaces 16 σ3 v1 v2 0 ∧ ∀ (r4 : Int32) (σ5 : SX), r4 = (f1_doPlaces 16 σ3 v1 v2 0).1 → σ5 = (f1_doPlaces 16 σ3 v1 v2 0).2 → q1_noteFailure σ5  ∧ ∀ σ6 : SX, σ6 = (f1_noteFailure σ5 ) → post r4 σ6) ∧ (r1 = 0 → q1_refuse σ ((-1)) ∧ ∀ (r7 : Int32) (σ8 : SX), r7 = (f1_refuse σ ((-1))).1 → σ8 = (f1_refuse σ ((-1))).2 → post r7 σ8)
set_option maxHeartbeats 4000000 in
set_option maxRecDepth 100000 in
theorem k_X1_pull_0 {l : Launch} {p : Program} {e : Env} {s : State} {m : MethodId} {below : List Frame} {meth : Method} {c : Code} {args : Array Value} {A : Nat → Prop} {G : Gm} {a : AX}  (hF : fx p s m args meth c cX1_pull 4 yX1_pull.cls kX1_pull (some (.int))) {post : Int32 → SX → Prop}  (σ : SX) (v1 : Int32) (v2 : Int32) {H : Heap} {locs : List Loc} {ls : Array Slot} (hw : wb G A s (wX G a σ) H locs) (hl : lv_has ls 4 [(0, .ref (a.1 13)), (1, .int v1), (2, .int v2)]) (hok : wp_X1_pull_0 σ v1 v2  post) :
    W p l e (rr 56 1408) s m args below meth c H locs 0 0 (MQ below (va_Qi post (po G A (wX G a)) A) args s 0 0 A) (F0 m 0 ls []) := by
  unfold wp_X1_pull_0 at hok
  refine lv_iload_n hF.x hF.b dX1_pull_0 rfl (lv_at hl 1 rfl) ?_
  refine ca_S hF (c1_isLever l v1) wv_X1_95 ⟨rfl, nd_X1.1, nd_X1.2, pd_X1_isLever⟩ ⟨rfl, rfl⟩ ⟨Nat.le_of_ble_eq_true rfl, Nat.le_of_ble_eq_true rfl⟩ ⟨Nat.zero_le _, Nat.zero_le _⟩ hl.1 rfl (by first | exact Nat.le_of_ble_eq_true rfl | simp [cat_rf, Value.category]) dX1_pull_1 (fun r1 er1 => ?_)
  replace hok := hok r1 er1
  refine lv_if_ne (tgt := 13) hF.x hF.b dX1_pull_4 (by decide) (fun c2 => ?_) (fun c2 => ?_)
  · replace hok := hok.1 c2
    refine lv_aload_n hF.x hF.b dX1_pull_13 rfl (lv_at hl 0 rfl) ?_
    refine ca_V hF hw (c1_begin l G a σ  hok.1) wv_X1_107 (q0 := 0) rfl rfl rfl ⟨nd_X1.1, nd_X1.2, pd_X1_begin⟩ ⟨Nat.le_of_ble_eq_true rfl, Nat.le_of_ble_eq_true rfl⟩ ⟨Nat.zero_le _, Nat.zero_le _⟩ hl.1 rfl (by first | exact Nat.le_of_ble_eq_true rfl | simp [cat_rf, Value.category]) dX1_pull_14 (fun σ3 H locs eσ3 hw => ?_)
    replace hok := hok.2 σ3 eσ3
    refine lv_aload_n hF.x hF.b dX1_pull_17 rfl (lv_at hl 0 rfl) ?_
    refine lv_iload_n hF.x hF.b dX1_pull_18 rfl (lv_at hl 1 rfl) ?_
    refine lv_iload_n hF.x hF.b dX1_pull_19 rfl (lv_at hl 2 rfl) ?_
    refine lv_iconst (v := 0) hF.x hF.b dX1_pull_20 (by decide) ?_
    refine ca_I hF hw (c1_doPlaces (c1_doDeed 16) σ3 v1 v2 0 hok.1) wv_X1_117 (q0 := 0) rfl rfl rfl ⟨nd_X1.1, nd_X1.2, pd_X1_doPlaces⟩ ⟨Nat.le_of_ble_eq_true rfl, Nat.le_of_ble_eq_true rfl⟩ ⟨Nat.zero_le _, Nat.zero_le _⟩ hl.1 rfl (by first | exact Nat.le_of_ble_eq_true rfl | simp [cat_rf, Value.category]) dX1_pull_21 (fun r4 σ5 H locs hp hw => ?_)
    obtain ⟨er4, eσ5⟩ := hp
    replace hok := hok.2 r4 σ5 er4 eσ5
    refine lv_istore_n (lv' := [(3, .int r4), (0, .ref (a.1 13)), (1, .int v1), (2, .int v2)]) hF.x hF.b dX1_pull_24 rfl hl (by decide) rfl (fun ls hl => ?_)
    refine lv_aload_n hF.x hF.b dX1_pull_25 rfl (lv_at hl 1 rfl) ?_
    refine ca_V hF hw (c1_noteFailure l G a σ5  hok.1) wv_X1_114 (q0 := 0) rfl rfl rfl ⟨nd_X1.1, nd_X1.2, pd_X1_noteFailure⟩ ⟨Nat.le_of_ble_eq_true rfl, Nat.le_of_ble_eq_true rfl⟩ ⟨Nat.zero_le _, Nat.zero_le _⟩ hl.1 rfl (by first | exact Nat.le_of_ble_eq_true rfl | simp [cat_rf, Value.category]) dX1_pull_26 (fun σ6 H locs eσ6 hw => ?_)
    replace hok := hok.2 σ6 eσ6
    refine lv_iload_n hF.x hF.b dX1_pull_29 rfl (lv_at hl 0 rfl) ?_
    exact rt_I (u := σ6) hF hw hok (Nat.zero_le _) (Nat.zero_le _) dX1_pull_30
  · replace hok := hok.2 c2
    refine lv_aload_n hF.x hF.b dX1_pull_7 rfl (lv_at hl 0 rfl) ?_
    refine lv_iconst (v := (-1)) hF.x hF.b dX1_pull_8 (by decide) ?_
    refine ca_I hF hw (c1_refuse l G a σ ((-1)) hok.1) wv_X1_104 (q0 := 0) rfl rfl rfl ⟨nd_X1.1, nd_X1.2, pd_X1_refuse⟩ ⟨Nat.le_of_ble_eq_true rfl, Nat.le_of_ble_eq_true rfl⟩ ⟨Nat.zero_le _, Nat.zero_le _⟩ hl.1 rfl (by first | exact Nat.le_of_ble_eq_true rfl | simp [cat_rf, Value.category]) dX1_pull_9 (fun r7 σ8 H locs hp hw => ?_)
    obtain ⟨er7, eσ8⟩ := hp
    replace hok := hok.2 r7 σ8 er7 eσ8
    exact rt_I (u := σ8) hF hw hok (Nat.zero_le _) (Nat.zero_le _) dX1_pull_12

theorem p1_pull (σ : SX) (v1 v2 : Int32) (h : q1_pull σ v1 v2) : wp_X1_pull_0 σ v1 v2 (fun r u => r = (f1_pull σ v1 v2).1 ∧ u = (f1_pull σ v1 v2).2) := by
  intro r1 e1; subst e1
  have hb := XK.begin h
  refine ⟨fun c => ⟨trivial, fun σ3 e3 => ?_⟩, fun c => ⟨trivial, fun r σ' e6 e7 => ?_⟩⟩
  · subst e3
    refine ⟨⟨hb.1, by decide, rfl⟩, fun r4 σ5 e4 e5 => ⟨trivial, fun σ6 e6 => ?_⟩⟩
    subst e4; subst e5; subst e6
    simp only [f1_pull]; rw [if_neg c]; exact ⟨rfl, rfl⟩
  · simp only [f1_pull]; rw [if_pos c]; exact ⟨e6, e7⟩

theorem c1_pull (l : Launch) (G : Gm) (a : AX) (σ : SX) (v1 : Int32) (v2 : Int32) (h : q1_pull σ v1 v2) : ctI l yX1_pull cX1_pull 4 .int (rr 56 1408) G [.ref (a.1 13), .int v1, .int v2] (wX G a σ) (fun (r : Int32) (u : SX) => r = (f1_pull σ v1 v2).1 ∧ u = (f1_pull σ v1 v2).2) (wX G a) := by
  refine en_I (by decide +kernel) (Nat.le_of_ble_eq_true rfl) (fun p e s m below meth c A ls hF hw hl => ?_)
  exact k_X1_pull_0 hF σ v1 v2 hw hl (p1_pull σ v1 v2 h)

def wp_X1_doLongestWaiting_0 (σ : SX)   (post : SX → Prop) : Prop :=
  vp_in (σ.1 6) 12 ∧ ∀ o1 : Option Nat, o1 = σ.2.2.1 4 (σ.1 6).toNatClampNeg → vp_in (σ.1 6) 12 ∧ vp_in (σ.1 6) 12 ∧ (∀ z, none = some z → z < σ.2.2.2.1.1) ∧ ∀ σ2 : SX, σ2 = (σ.1, σ.2.1, va_up σ.2.2.1 4 (va_up (σ.2.2.1 4) (σ.1 6).toNatClampNeg none), σ.2.2.2) → ∀ x3 : Int32, x3 = (σ2.1 6) + 1 → ¬ (12 : Int32) = 0 ∧ ∀ x4 : Int32, x4 = x3 - x3 / 12 * 12 → ∀ σ5 : SX, σ5 = (va_up σ2.1 6 x4, σ2.2) → ∀ x6 : Int32, x6 = (σ5.1 7) - 1 → ∀ σ7 : SX, σ7 = (va_up σ5.1 7 x6, σ5.2) → q1_do 16 σ7 o1 (σ.2.1 5 (σ.1 6).toNatClampNeg) 0 ∧ ∀ (r8 : Int32) (σ9 : SX), r8 = (f1_do 16 σ7 o1 (σ.2.1 5 (σ.1 6).toNatClampNeg) 0).1 → σ9 = (f1_do 16 σ7 o1 (σ.2.1 5 (σ.1 6).toNatClampNeg) 0).2 → post σ9
set_option maxHeartbeats 4000000 in
set_option maxRecDepth 100000 in
theorem k_X1_doLongestWaiting_0 {l : Launch} {p : Program} {e : Env} {s : State} {m : MethodId} {below : List Frame} {meth : Method} {c : Code} {args : Array Value} {A : Nat → Prop} {G : Gm} {a : AX}  (hF : fx p s m args meth c cX1_doLongestWaiting 3 yX1_doLongestWaiting.cls kX1_doLongestWaiting none) {post : SX → Prop}  (σ : SX)  {H : Heap} {locs : List Loc} {ls : Array Slot} (hw : wb G A s (wX G a σ) H locs) (hl : lv_has ls 3 [(0, .ref (a.1 13))]) (hok : wp_X1_doLongestWaiting_0 σ   post) :
    W p l e (rr 55 1383) s m args below meth c H locs 0 0 (MQ below (va_Qv post (po G A (wX G a)) A) args s 0 0 A) (F0 m 0 ls []) := by
  unfold wp_X1_doLongestWaiting_0 at hok
  refine lv_aload_n hF.x hF.b dX1_doLongestWaiting_0 rfl (lv_at hl 0 rfl) ?_
  refine r_get hF hw 0 rfl rfl inlX1 4 (by decide) wf_X1_27 rfl dX1_doLongestWaiting_1 ?_
  refine lv_aload_n hF.x hF.b dX1_doLongestWaiting_4 rfl (lv_at hl 0 rfl) ?_
  refine r_get hF hw 0 rfl rfl inlX1 6 (by decide) wf_X1_33 rfl dX1_doLongestWaiting_5 ?_
  refine rx_aald 4 12 hF hw (by decide) hok.1 dX1_doLongestWaiting_8 (fun o1 eo1 => ?_)
  replace hok := hok.2 o1 eo1
  refine lq_astore_n (lv' := [(1, va_rf (Option.map a.2.1 o1)), (0, .ref (a.1 13))]) hF dX1_doLongestWaiting_9 rfl hl (by decide) (by first | rfl | (simp [cat_rf]; done) | (simp [cat_rf]; decide)) (fun ls hl => ?_)
  refine lv_aload_n hF.x hF.b dX1_doLongestWaiting_10 rfl (lv_at hl 1 rfl) ?_
  refine r_get hF hw 0 rfl rfl inlX1 5 (by decide) wf_X1_30 rfl dX1_doLongestWaiting_11 ?_
  refine lv_aload_n hF.x hF.b dX1_doLongestWaiting_14 rfl (lv_at hl 1 rfl) ?_
  refine r_get hF hw 0 rfl rfl inlX1 6 (by decide) wf_X1_33 rfl dX1_doLongestWaiting_15 ?_
  refine rx_iald 5 12 hF hw (by decide) hok.1 dX1_doLongestWaiting_18 ?_
  replace hok := hok.2
  refine lv_istore_n (lv' := [(2, .int (σ.2.1 5 (σ.1 6).toNatClampNeg)), (1, va_rf (Option.map a.2.1 o1)), (0, .ref (a.1 13))]) hF.x hF.b dX1_doLongestWaiting_19 rfl hl (by decide) (by first | rfl | (simp [cat_rf]; done) | (simp [cat_rf]; decide)) (fun ls hl => ?_)
  refine lv_aload_n hF.x hF.b dX1_doLongestWaiting_20 rfl (lv_at hl 2 rfl) ?_
  refine r_get hF hw 0 rfl rfl inlX1 4 (by decide) wf_X1_27 rfl dX1_doLongestWaiting_21 ?_
  refine lv_aload_n hF.x hF.b dX1_doLongestWaiting_24 rfl (lv_at hl 2 rfl) ?_
  refine r_get hF hw 0 rfl rfl inlX1 6 (by decide) wf_X1_33 rfl dX1_doLongestWaiting_25 ?_
  refine lv_null hF.x hF.b dX1_doLongestWaiting_28 ?_
  refine rx_aast (o := none) 4 12 hF hw (by decide) hok.1 hok.2.1 dX1_doLongestWaiting_29 (fun σ2 H locs eσ2 hw => ?_)
  replace hok := hok.2.2 σ2 eσ2
  refine lv_aload_n hF.x hF.b dX1_doLongestWaiting_30 rfl (lv_at hl 2 rfl) ?_
  refine lv_aload_n hF.x hF.b dX1_doLongestWaiting_31 rfl (lv_at hl 2 rfl) ?_
  refine r_get hF hw 0 rfl rfl inlX1 6 (by decide) wf_X1_33 rfl dX1_doLongestWaiting_32 ?_
  refine lv_iconst (v := 1) hF.x hF.b dX1_doLongestWaiting_35 (by decide) ?_
  refine lv_iadd hF.x hF.b dX1_doLongestWaiting_36 ?_
  refine lv_topi (fun x3 ex3 => ?_)
  replace hok := hok x3 ex3
  refine lv_bipush (v := 12) hF.x hF.b dX1_doLongestWaiting_37 (by decide) ?_
  refine lv_irem hF.x hF.b dX1_doLongestWaiting_39 hok.1 ?_
  refine lv_topi (fun x4 ex4 => ?_)
  replace hok := hok.2 x4 ex4
  refine rx_put (v := x4) 6 hF hw (by decide) wf_X1_33 dX1_doLongestWaiting_40 (fun σ5 H locs eσ5 hw => ?_)
  replace hok := hok σ5 eσ5
  refine lv_aload_n hF.x hF.b dX1_doLongestWaiting_43 rfl (lv_at hl 2 rfl) ?_
  refine lv_dup hF.x hF.b dX1_doLongestWaiting_44 rfl ?_
  refine r_get hF hw 0 rfl rfl inlX1 7 (by decide) wf_X1_37 rfl dX1_doLongestWaiting_45 ?_
  refine lv_iconst (v := 1) hF.x hF.b dX1_doLongestWaiting_48 (by decide) ?_
  refine lv_isub hF.x hF.b dX1_doLongestWaiting_49 ?_
  refine lv_topi (fun x6 ex6 => ?_)
  replace hok := hok x6 ex6
  refine rx_put (v := x6) 7 hF hw (by decide) wf_X1_37 dX1_doLongestWaiting_50 (fun σ7 H locs eσ7 hw => ?_)
  replace hok := hok σ7 eσ7
  refine lv_aload_n hF.x hF.b dX1_doLongestWaiting_53 rfl (lv_at hl 2 rfl) ?_
  refine lq_aload_n hF dX1_doLongestWaiting_54 rfl (lv_at hl 1 rfl) ?_
  refine lv_iload_n hF.x hF.b dX1_doLongestWaiting_55 rfl (lv_at hl 0 rfl) ?_
  refine lv_iconst (v := 0) hF.x hF.b dX1_doLongestWaiting_56 (by decide) ?_
  refine ca_I hF hw (c1_doDeed 16 σ7 o1 (σ.2.1 5 (σ.1 6).toNatClampNeg) 0 hok.1) wv_X1_110 (q0 := 0) rfl rfl rfl ⟨nd_X1.1, nd_X1.2, pd_X1_doDeed⟩ ⟨Nat.le_of_ble_eq_true rfl, Nat.le_of_ble_eq_true rfl⟩ ⟨Nat.zero_le _, Nat.zero_le _⟩ hl.1 rfl (by first | exact Nat.le_of_ble_eq_true rfl | simp [cat_rf, Value.category]) dX1_doLongestWaiting_57 (fun r8 σ9 H locs hp hw => ?_)
  obtain ⟨er8, eσ9⟩ := hp
  replace hok := hok.2 r8 σ9 er8 eσ9
  refine lv_pop hF.x hF.b dX1_doLongestWaiting_60 rfl ?_
  exact rt_V (u := σ9) hF hw hok (Nat.zero_le _) (Nat.zero_le _) dX1_doLongestWaiting_61

theorem p1_doLongestWaiting (σ : SX) (h : q1_doLongestWaiting σ) : wp_X1_doLongestWaiting_0 σ (fun u => u = f1_doLongestWaiting σ) := by
  have hi := in_12 h.1
  refine ⟨hi, fun o1 e1 => ⟨hi, hi, fun z hz => (by cases hz), fun σ2 e2 x3 e3 => ⟨by decide, fun x4 e4 σ5 e5 x6 e6 σ7 e7 => ?_⟩⟩⟩
  subst e2; subst e3; subst e4; subst e5; subst e6
  have e7' : σ7 = x_out σ := by
    subst e7
    simp [x_out, va_up]
  subst e7'; subst e1
  exact ⟨⟨(wf_out h).1, okO.q h, by decide, rfl⟩, fun r8 σ9 e8 e9 => e9⟩

theorem c1_doLongestWaiting (l : Launch) (G : Gm) (a : AX) (σ : SX)  (h : q1_doLongestWaiting σ ) : ctV l yX1_doLongestWaiting cX1_doLongestWaiting 3 (rr 55 1383) G [.ref (a.1 13)] (wX G a σ) (fun (u : SX) => u = f1_doLongestWaiting σ ) (wX G a) := by
  refine en_V (by decide +kernel) (Nat.le_of_ble_eq_true rfl) (fun p e s m below meth c A ls hF hn hw hl => ?_)
  exact k_X1_doLongestWaiting_0 hF σ  hw hl (p1_doLongestWaiting σ  h)

def wp_X1_tick_41 (σ : SX) (v1 : Int32) (v2 : Int32) (v3 : Int32) (K13 : SX → Int32 → Int32 → Int32 → Prop) (post : Int32 → SX → Prop) : Prop :=
  ∀ x1 : Int32, x1 = v3 + 1 → K13 σ v1 v2 x1
set_option maxHeartbeats 4000000 in
set_option maxRecDepth 100000 in
theorem k_X1_tick_41 {l : Launch} {p : Program} {e : Env} {s : State} {m : MethodId} {below : List Frame} {meth : Method} {c : Code} {args : Array Value} {A : Nat → Prop} {G : Gm} {a : AX}  (hF : fx p s m args meth c cX1_tick 4 yX1_tick.cls kX1_tick (some (.int))) {post : Int32 → SX → Prop} {K13 : SX → Int32 → Int32 → Int32 → Prop} (hK13 : ∀ (σ : SX) (v1 : Int32) (v2 : Int32) (v3 : Int32) {H : Heap} {locs : List Loc} {ls : Array Slot}, K13 σ v1 v2 v3 → wb G A s (wX G a σ) H locs → lv_has ls 4 [(0, .ref (a.1 13)), (1, .int v1), (2, .int v2), (3, .int v3)] → W p l e (rr 56 1405) s m args below meth c H locs 0 0 (MQ below (va_Qi post (po G A (wX G a)) A) args s 0 0 A) (F0 m 13 ls [])) (σ : SX) (v1 : Int32) (v2 : Int32) (v3 : Int32) {H : Heap} {locs : List Loc} {ls : Array Slot} (hw : wb G A s (wX G a σ) H locs) (hl : lv_has ls 4 [(0, .ref (a.1 13)), (1, .int v1), (2, .int v2), (3, .int v3)]) (hok : wp_X1_tick_41 σ v1 v2 v3 K13 post) :
    W p l e (rr 56 1405) s m args below meth c H locs 0 0 (MQ below (va_Qi post (po G A (wX G a)) A) args s 0 0 A) (F0 m 41 ls []) := by
  unfold wp_X1_tick_41 at hok
  obtain ⟨x1, ex1⟩ : ∃ z : Int32, z = v3 + 1 := ⟨_, rfl⟩
  replace hok := hok x1 ex1
  refine lv_iinc (v := x1) (lv' := [(3, .int x1), (0, .ref (a.1 13)), (1, .int v1), (2, .int v2)]) hF.x hF.b dX1_tick_41 hl (k := 3) rfl (by rw [ex1]; rfl) (by decide) rfl (fun ls hl => ?_)
  refine lv_goto (tgt := 13) hF.x hF.b dX1_tick_44 (by decide) ?_
  exact hK13 σ v1 v2 x1 hok hw (lv_sub hl [1, 2, 3, 0] rfl)
def wp_X1_tick_13 (σ : SX) (v1 : Int32) (v2 : Int32) (v3 : Int32) (K13 : SX → Int32 → Int32 → Int32 → Prop) (post : Int32 → SX → Prop) : Prop :=
  (v1 ≤ v3 → post v2 σ) ∧ (¬ v1 ≤ v3 → ∀ σ2 : SX, σ2 = (va_up σ.1 11 0, σ.2) → q1_doLongestWaiting σ2  ∧ ∀ σ3 : SX, σ3 = (f1_doLongestWaiting σ2 ) → q1_noteFailure σ3  ∧ ∀ σ4 : SX, σ4 = (f1_noteFailure σ3 ) → (¬ (σ4.1 11) = 0 → wp_X1_tick_41 σ4 v1 v2 v3 K13 post) ∧ ((σ4.1 11) = 0 → ∀ x6 : Int32, x6 = v2 + 1 → wp_X1_tick_41 σ4 v1 x6 v3 K13 post))
set_option maxHeartbeats 4000000 in
set_option maxRecDepth 100000 in
theorem k_X1_tick_13 {l : Launch} {p : Program} {e : Env} {s : State} {m : MethodId} {below : List Frame} {meth : Method} {c : Code} {args : Array Value} {A : Nat → Prop} {G : Gm} {a : AX}  (hF : fx p s m args meth c cX1_tick 4 yX1_tick.cls kX1_tick (some (.int))) {post : Int32 → SX → Prop} {K13 : SX → Int32 → Int32 → Int32 → Prop} (hK13 : ∀ (σ : SX) (v1 : Int32) (v2 : Int32) (v3 : Int32) {H : Heap} {locs : List Loc} {ls : Array Slot}, K13 σ v1 v2 v3 → wb G A s (wX G a σ) H locs → lv_has ls 4 [(0, .ref (a.1 13)), (1, .int v1), (2, .int v2), (3, .int v3)] → W p l e (rr 56 1405) s m args below meth c H locs 0 0 (MQ below (va_Qi post (po G A (wX G a)) A) args s 0 0 A) (F0 m 13 ls [])) (σ : SX) (v1 : Int32) (v2 : Int32) (v3 : Int32) {H : Heap} {locs : List Loc} {ls : Array Slot} (hw : wb G A s (wX G a σ) H locs) (hl : lv_has ls 4 [(0, .ref (a.1 13)), (1, .int v1), (2, .int v2), (3, .int v3)]) (hok : wp_X1_tick_13 σ v1 v2 v3 K13 post) :
    W p l e (rr 56 1405) s m args below meth c H locs 0 0 (MQ below (va_Qi post (po G A (wX G a)) A) args s 0 0 A) (F0 m 13 ls []) := by
  unfold wp_X1_tick_13 at hok
  refine lv_iload_n hF.x hF.b dX1_tick_13 rfl (lv_at hl 3 rfl) ?_
  refine lv_iload_n hF.x hF.b dX1_tick_14 rfl (lv_at hl 1 rfl) ?_
  refine lv_icmp_ge (tgt := 47) hF.x hF.b dX1_tick_15 (by decide) (fun c1 => ?_) (fun c1 => ?_)
  · replace hok := hok.1 c1
    refine lv_iload_n hF.x hF.b dX1_tick_47 rfl (lv_at hl 2 rfl) ?_
    exact rt_I (u := σ) hF hw hok (Nat.zero_le _) (Nat.zero_le _) dX1_tick_48
  · replace hok := hok.2 c1
    refine lv_aload_n hF.x hF.b dX1_tick_18 rfl (lv_at hl 0 rfl) ?_
    refine lv_iconst (v := 0) hF.x hF.b dX1_tick_19 (by decide) ?_
    refine rx_put (v := 0) 11 hF hw (by decide) wf_X1_49 dX1_tick_20 (fun σ2 H locs eσ2 hw => ?_)
    replace hok := hok σ2 eσ2
    refine lv_aload_n hF.x hF.b dX1_tick_23 rfl (lv_at hl 0 rfl) ?_
    refine ca_V hF hw (c1_doLongestWaiting l G a σ2  hok.1) wv_X1_121 (q0 := 0) rfl rfl rfl ⟨nd_X1.1, nd_X1.2, pd_X1_doLongestWaiting⟩ ⟨Nat.le_of_ble_eq_true rfl, Nat.le_of_ble_eq_true rfl⟩ ⟨Nat.zero_le _, Nat.zero_le _⟩ hl.1 rfl (by first | exact Nat.le_of_ble_eq_true rfl | simp [cat_rf, Value.category]) dX1_tick_24 (fun σ3 H locs eσ3 hw => ?_)
    replace hok := hok.2 σ3 eσ3
    refine lv_aload_n hF.x hF.b dX1_tick_27 rfl (lv_at hl 0 rfl) ?_
    refine ca_V hF hw (c1_noteFailure l G a σ3  hok.1) wv_X1_114 (q0 := 0) rfl rfl rfl ⟨nd_X1.1, nd_X1.2, pd_X1_noteFailure⟩ ⟨Nat.le_of_ble_eq_true rfl, Nat.le_of_ble_eq_true rfl⟩ ⟨Nat.zero_le _, Nat.zero_le _⟩ hl.1 rfl (by first | exact Nat.le_of_ble_eq_true rfl | simp [cat_rf, Value.category]) dX1_tick_28 (fun σ4 H locs eσ4 hw => ?_)
    replace hok := hok.2 σ4 eσ4
    refine lv_aload_n hF.x hF.b dX1_tick_31 rfl (lv_at hl 0 rfl) ?_
    refine r_get hF hw 0 rfl rfl inlX1 11 (by decide) wf_X1_49 rfl dX1_tick_32 ?_
    refine lv_if_ne (tgt := 41) hF.x hF.b dX1_tick_35 (by decide) (fun c5 => ?_) (fun c5 => ?_)
    · replace hok := hok.1 c5
      exact k_X1_tick_41  hF hK13 σ4 v1 v2 v3 hw (lv_sub hl [0, 1, 2, 3] rfl) hok
    · replace hok := hok.2 c5
      obtain ⟨x6, ex6⟩ : ∃ z : Int32, z = v2 + 1 := ⟨_, rfl⟩
      replace hok := hok x6 ex6
      refine lv_iinc (v := x6) (lv' := [(2, .int x6), (0, .ref (a.1 13)), (1, .int v1), (3, .int v3)]) hF.x hF.b dX1_tick_38 hl (k := 2) rfl (by rw [ex6]; rfl) (by decide) rfl (fun ls hl => ?_)
      exact k_X1_tick_41  hF hK13 σ4 v1 x6 v3 hw (lv_sub hl [1, 2, 0, 3] rfl) hok
def wp_X1_tick_0 (σ : SX)  (K13 : SX → Int32 → Int32 → Int32 → Prop) (post : Int32 → SX → Prop) : Prop :=
  q1_begin σ  ∧ ∀ σ1 : SX, σ1 = (f1_begin σ ) → K13 σ1 (σ1.1 7) 0 0
set_option maxHeartbeats 4000000 in
set_option maxRecDepth 100000 in
theorem k_X1_tick_0 {l : Launch} {p : Program} {e : Env} {s : State} {m : MethodId} {below : List Frame} {meth : Method} {c : Code} {args : Array Value} {A : Nat → Prop} {G : Gm} {a : AX}  (hF : fx p s m args meth c cX1_tick 4 yX1_tick.cls kX1_tick (some (.int))) {post : Int32 → SX → Prop} {K13 : SX → Int32 → Int32 → Int32 → Prop} (hK13 : ∀ (σ : SX) (v1 : Int32) (v2 : Int32) (v3 : Int32) {H : Heap} {locs : List Loc} {ls : Array Slot}, K13 σ v1 v2 v3 → wb G A s (wX G a σ) H locs → lv_has ls 4 [(0, .ref (a.1 13)), (1, .int v1), (2, .int v2), (3, .int v3)] → W p l e (rr 56 1405) s m args below meth c H locs 0 0 (MQ below (va_Qi post (po G A (wX G a)) A) args s 0 0 A) (F0 m 13 ls [])) (σ : SX)  {H : Heap} {locs : List Loc} {ls : Array Slot} (hw : wb G A s (wX G a σ) H locs) (hl : lv_has ls 4 [(0, .ref (a.1 13))]) (hok : wp_X1_tick_0 σ  K13 post) :
    W p l e (rr 56 1405) s m args below meth c H locs 0 0 (MQ below (va_Qi post (po G A (wX G a)) A) args s 0 0 A) (F0 m 0 ls []) := by
  unfold wp_X1_tick_0 at hok
  refine lv_aload_n hF.x hF.b dX1_tick_0 rfl (lv_at hl 0 rfl) ?_
  refine ca_V hF hw (c1_begin l G a σ  hok.1) wv_X1_107 (q0 := 0) rfl rfl rfl ⟨nd_X1.1, nd_X1.2, pd_X1_begin⟩ ⟨Nat.le_of_ble_eq_true rfl, Nat.le_of_ble_eq_true rfl⟩ ⟨Nat.zero_le _, Nat.zero_le _⟩ hl.1 rfl (by first | exact Nat.le_of_ble_eq_true rfl | simp [cat_rf, Value.category]) dX1_tick_1 (fun σ1 H locs eσ1 hw => ?_)
  replace hok := hok.2 σ1 eσ1
  refine lv_aload_n hF.x hF.b dX1_tick_4 rfl (lv_at hl 0 rfl) ?_
  refine r_get hF hw 0 rfl rfl inlX1 7 (by decide) wf_X1_37 rfl dX1_tick_5 ?_
  refine lv_istore_n (lv' := [(1, .int (σ1.1 7)), (0, .ref (a.1 13))]) hF.x hF.b dX1_tick_8 rfl hl (by decide) rfl (fun ls hl => ?_)
  refine lv_iconst (v := 0) hF.x hF.b dX1_tick_9 (by decide) ?_
  refine lv_istore_n (lv' := [(2, .int 0), (1, .int (σ1.1 7)), (0, .ref (a.1 13))]) hF.x hF.b dX1_tick_10 rfl hl (by decide) rfl (fun ls hl => ?_)
  refine lv_iconst (v := 0) hF.x hF.b dX1_tick_11 (by decide) ?_
  refine lv_istore_n (lv' := [(3, .int 0), (2, .int 0), (1, .int (σ1.1 7)), (0, .ref (a.1 13))]) hF.x hF.b dX1_tick_12 rfl hl (by decide) rfl (fun ls hl => ?_)
  exact hK13 σ1 (σ1.1 7) 0 0 hok hw (lv_sub hl [3, 2, 1, 0] rfl)

theorem lp_X1_tick_13 {l : Launch} {p : Program} {e : Env} {s : State} {m : MethodId} {below : List Frame} {meth : Method} {c : Code} {args : Array Value} {A : Nat → Prop} {G : Gm} {a : AX}  (hF : fx p s m args meth c cX1_tick 4 yX1_tick.cls kX1_tick (some (.int))) {post : Int32 → SX → Prop}  (Inv : Nat → SX → Int32 → Int32 → Int32 → Prop) (hstep : ∀ (n : Nat) (σ : SX) (v1 : Int32) (v2 : Int32) (v3 : Int32), Inv n σ v1 v2 v3 → wp_X1_tick_13 σ v1 v2 v3 (fun σq v1' v2' v3' => ∃ nq, nq < n ∧ Inv nq σq v1' v2' v3') post) :
    ∀ (n : Nat) (σ : SX) (v1 : Int32) (v2 : Int32) (v3 : Int32) {H : Heap} {locs : List Loc} {ls : Array Slot}, Inv n σ v1 v2 v3 → wb G A s (wX G a σ) H locs → lv_has ls 4 [(0, .ref (a.1 13)), (1, .int v1), (2, .int v2), (3, .int v3)] → W p l e (rr 56 1405) s m args below meth c H locs 0 0 (MQ below (va_Qi post (po G A (wX G a)) A) args s 0 0 A) (F0 m 13 ls []) := by
  intro n
  induction n using Nat.strongRecOn with
  | _ n ih =>
    intro σ v1 v2 v3 H locs ls hI hw hl
    exact k_X1_tick_13  hF (post := post) (K13 := fun σq v1' v2' v3' => ∃ nq, nq < n ∧ Inv nq σq v1' v2' v3') (by intro σq v1' v2' v3' H locs ls hI hw hl; exact ih hI.choose hI.choose_spec.1 σq v1' v2' v3' hI.choose_spec.2 hw hl) σ v1 v2 v3 hw hl (hstep n σ v1 v2 v3 hI)

theorem p1_tick_step {N : Int32} (tg : Int32 × SX) (n : Nat) (σ : SX) (v1 v2 v3 : Int32) (hI : v1 = N ∧ WFX σ ∧ (n : Int) ≤ (σ.1 7).toInt ∧ ∃ j : Nat, N = nI (j + n) ∧ j + n ≤ 12 ∧ v3 = nI j ∧ fx_tick n σ v2 = tg) :
    wp_X1_tick_13 σ v1 v2 v3 (fun σq v1' v2' v3' => ∃ nq, nq < n ∧ (v1' = N ∧ WFX σq ∧ (nq : Int) ≤ (σq.1 7).toInt ∧ ∃ j : Nat, N = nI (j + nq) ∧ j + nq ≤ 12 ∧ v3' = nI j ∧ fx_tick nq σq v2' = tg)) (fun r u => r = tg.1 ∧ u = tg.2) := by
  obtain ⟨rfl, hW, hn, j, e1, hj, rfl, ht⟩ := hI
  refine ⟨fun c => ?_, fun c σ2 e2 => ?_⟩
  · rw [e1, nI_leI (by omega) (by omega)] at c
    have : n = 0 := by omega
    subst this
    rw [← ht]
    exact ⟨rfl, rfl⟩
  · rw [e1, nI_leI (by omega) (by omega)] at c
    cases n with
    | zero => omega
    | succ n =>
      have h0 : WF1 σ := ⟨hW, by omega⟩
      have hs : WF1 (sxI σ 11 0) := ⟨(XK.sI hW 11 0 (by decide) (by decide)).1, h0.2⟩
      have hk := tick1_K h0
      subst e2
      refine ⟨hs, fun σ3 e3 => ⟨trivial, fun σ4 e4 => ?_⟩⟩
      subst e3
      obtain rfl : σ4 = fx_tick1 σ := e4
      simp only [fx_tick] at ht
      refine ⟨fun c2 => ?_, fun c2 x6 e6 => ?_⟩
      · intro x1 ex
        rw [if_neg c2] at ht
        exact ⟨n, Nat.lt_succ_self n, rfl, hk.1, by omega, j + 1, by rw [e1]; congr 1; omega, by omega, by rw [ex, nI_1], ht⟩
      · intro x1 ex
        rw [if_pos c2] at ht
        exact ⟨n, Nat.lt_succ_self n, rfl, hk.1, by omega, j + 1, by rw [e1]; congr 1; omega, by omega, by rw [ex, nI_1], by rw [e6]; exact ht⟩
theorem c1_tick (l : Launch) (G : Gm) (a : AX) (σ : SX) (h : q1_tick σ) : ctI l yX1_tick cX1_tick 4 .int (rr 56 1405) G [.ref (a.1 13)] (wX G a σ) (fun (r : Int32) (u : SX) => r = (f1_tick σ).1 ∧ u = (f1_tick σ).2) (wX G a) := by
  refine en_I (by decide +kernel) (Nat.le_of_ble_eq_true rfl) (fun p e s m below meth c A ls hF hw hl => ?_)
  have hb := XK.begin h
  refine k_X1_tick_0 hF (K13 := fun σq v1' v2' v3' => ∃ nq : Nat, (v1' = σ.1 7 ∧ WFX σq ∧ (nq : Int) ≤ (σq.1 7).toInt ∧ ∃ j : Nat, σ.1 7 = nI (j + nq) ∧ j + nq ≤ 12 ∧ v3' = nI j ∧ fx_tick nq σq v2' = f1_tick σ)) ?_ σ hw hl ?_
  · intro σq v1' v2' v3' H locs ls hI hw hl
    exact lp_X1_tick_13 hF _ (p1_tick_step (f1_tick σ)) hI.choose σq v1' v2' v3' hI.choose_spec hw hl
  · refine ⟨trivial, fun σ1 e1 => ?_⟩
    subst e1
    obtain ⟨q, w, hq, hww, e6, e7⟩ := h.2.2.2.2
    have ec : (σ.1 7).toNatClampNeg = w := by rw [e7, nI_clamp (by omega)]
    refine ⟨w, rfl, hb.1, ?_, 0, by rw [e7, Nat.zero_add], by omega, rfl, by simp only [f1_tick]; rw [ec]⟩
    rw [show (f1_begin σ).1 7 = σ.1 7 from rfl, e7, nI_toInt (by omega)]
    omega

def wp_X1_failed_0 (σ : SX)   (post : Int32 → SX → Prop) : Prop :=
  post (σ.1 12) σ
set_option maxHeartbeats 4000000 in
set_option maxRecDepth 100000 in
theorem k_X1_failed_0 {l : Launch} {p : Program} {e : Env} {s : State} {m : MethodId} {below : List Frame} {meth : Method} {c : Code} {args : Array Value} {A : Nat → Prop} {G : Gm} {a : AX}  (hF : fx p s m args meth c cX1_failed 1 yX1_failed.cls kX1_failed (some (.int))) {post : Int32 → SX → Prop}  (σ : SX)  {H : Heap} {locs : List Loc} {ls : Array Slot} (hw : wb G A s (wX G a σ) H locs) (hl : lv_has ls 1 [(0, .ref (a.1 13))]) (hok : wp_X1_failed_0 σ   post) :
    W p l e (rr 0 0) s m args below meth c H locs 0 0 (MQ below (va_Qi post (po G A (wX G a)) A) args s 0 0 A) (F0 m 0 ls []) := by
  unfold wp_X1_failed_0 at hok
  refine lv_aload_n hF.x hF.b dX1_failed_0 rfl (lv_at hl 0 rfl) ?_
  refine r_get hF hw 0 rfl rfl inlX1 12 (by decide) wf_X1_52 rfl dX1_failed_1 ?_
  exact rt_I (u := σ) hF hw hok (Nat.zero_le _) (Nat.zero_le _) dX1_failed_4

theorem p1_failed (σ : SX) (_ : q1_failed σ) : wp_X1_failed_0 σ (fun r u => r = (f1_failed σ).1 ∧ u = (f1_failed σ).2) := ⟨rfl, rfl⟩

theorem c1_failed (l : Launch) (G : Gm) (a : AX) (σ : SX)  (h : q1_failed σ ) : ctI l yX1_failed cX1_failed 1 .int (rr 0 0) G [.ref (a.1 13)] (wX G a σ) (fun (r : Int32) (u : SX) => r = (f1_failed σ ).1 ∧ u = (f1_failed σ ).2) (wX G a) := by
  refine en_I (by decide +kernel) (Nat.le_of_ble_eq_true rfl) (fun p e s m below meth c A ls hF hw hl => ?_)
  exact k_X1_failed_0 hF σ  hw hl (p1_failed σ  h)

def wp_X1_told_0 (σ : SX) (v1 : Int32)  (post : Int32 → SX → Prop) : Prop :=
  (v1.toInt < 0 ∨ 4 < v1.toInt → post ((-1)) σ) ∧ (v1 = 0 → post (σ.1 8) σ) ∧ (v1 = 1 → post (σ.1 7) σ) ∧ (v1 = 2 → post (σ.1 9) σ) ∧ (v1 = 3 → post (σ.1 10) σ) ∧ (v1 = 4 → q1_slotsInUse σ  ∧ ∀ (r2 : Int32) (σ3 : SX), r2 = (f1_slotsInUse σ ).1 → σ3 = (f1_slotsInUse σ ).2 → post r2 σ3)
set_option maxHeartbeats 4000000 in
set_option maxRecDepth 100000 in
theorem k_X1_told_0 {l : Launch} {p : Program} {e : Env} {s : State} {m : MethodId} {below : List Frame} {meth : Method} {c : Code} {args : Array Value} {A : Nat → Prop} {G : Gm} {a : AX}  (hF : fx p s m args meth c cX1_told 2 yX1_told.cls kX1_told (some (.int))) {post : Int32 → SX → Prop}  (σ : SX) (v1 : Int32) {H : Heap} {locs : List Loc} {ls : Array Slot} (hw : wb G A s (wX G a σ) H locs) (hl : lv_has ls 2 [(0, .ref (a.1 13)), (1, .int v1)]) (hok : wp_X1_told_0 σ v1  post) :
    W p l e (rr 1 22) s m args below meth c H locs 0 0 (MQ below (va_Qi post (po G A (wX G a)) A) args s 0 0 A) (F0 m 0 ls []) := by
  unfold wp_X1_told_0 at hok
  refine lv_iload_n hF.x hF.b dX1_told_0 rfl (lv_at hl 1 rfl) ?_
  by_cases c1 : v1.toInt < 0 ∨ 4 < v1.toInt
  · replace hok := hok.1 c1
    refine lv_tableOut (tgt := 61) hF.x hF.b dX1_told_1 c1 (by decide) ?_
    refine lv_iconst (v := (-1)) hF.x hF.b dX1_told_61 (by decide) ?_
    exact rt_I (u := σ) hF hw hok (Nat.zero_le _) (Nat.zero_le _) dX1_told_62
  · obtain ⟨j, hj1, hj2, ex⟩ := sw_in (lo := 0) (hi := 4) c1 (by decide)
    rcases (show j = 0 ∨ j = 1 ∨ j = 2 ∨ j = 3 ∨ j = 4 by omega) with rfl | rfl | rfl | rfl | rfl
    · replace hok := hok.2.1 ex
      refine lv_tableIn (off := 35) (tgt := 36) hF.x hF.b dX1_told_1 (by rw [ex]; decide) (by rw [ex]; decide) (by rw [ex]; rfl) (by decide) ?_
      refine lv_aload_n hF.x hF.b dX1_told_36 rfl (lv_at hl 0 rfl) ?_
      refine r_get hF hw 0 rfl rfl inlX1 8 (by decide) wf_X1_40 rfl dX1_told_37 ?_
      exact rt_I (u := σ) hF hw hok (Nat.zero_le _) (Nat.zero_le _) dX1_told_40
    · replace hok := hok.2.2.1 ex
      refine lv_tableIn (off := 40) (tgt := 41) hF.x hF.b dX1_told_1 (by rw [ex]; decide) (by rw [ex]; decide) (by rw [ex]; rfl) (by decide) ?_
      refine lv_aload_n hF.x hF.b dX1_told_41 rfl (lv_at hl 0 rfl) ?_
      refine r_get hF hw 0 rfl rfl inlX1 7 (by decide) wf_X1_37 rfl dX1_told_42 ?_
      exact rt_I (u := σ) hF hw hok (Nat.zero_le _) (Nat.zero_le _) dX1_told_45
    · replace hok := hok.2.2.2.1 ex
      refine lv_tableIn (off := 45) (tgt := 46) hF.x hF.b dX1_told_1 (by rw [ex]; decide) (by rw [ex]; decide) (by rw [ex]; rfl) (by decide) ?_
      refine lv_aload_n hF.x hF.b dX1_told_46 rfl (lv_at hl 0 rfl) ?_
      refine r_get hF hw 0 rfl rfl inlX1 9 (by decide) wf_X1_43 rfl dX1_told_47 ?_
      exact rt_I (u := σ) hF hw hok (Nat.zero_le _) (Nat.zero_le _) dX1_told_50
    · replace hok := hok.2.2.2.2.1 ex
      refine lv_tableIn (off := 50) (tgt := 51) hF.x hF.b dX1_told_1 (by rw [ex]; decide) (by rw [ex]; decide) (by rw [ex]; rfl) (by decide) ?_
      refine lv_aload_n hF.x hF.b dX1_told_51 rfl (lv_at hl 0 rfl) ?_
      refine r_get hF hw 0 rfl rfl inlX1 10 (by decide) wf_X1_46 rfl dX1_told_52 ?_
      exact rt_I (u := σ) hF hw hok (Nat.zero_le _) (Nat.zero_le _) dX1_told_55
    · replace hok := hok.2.2.2.2.2 ex
      refine lv_tableIn (off := 55) (tgt := 56) hF.x hF.b dX1_told_1 (by rw [ex]; decide) (by rw [ex]; decide) (by rw [ex]; rfl) (by decide) ?_
      refine lv_aload_n hF.x hF.b dX1_told_56 rfl (lv_at hl 0 rfl) ?_
      refine ca_I hF hw (c1_slotsInUse l G a σ  hok.1) wv_X1_124 (q0 := 0) rfl rfl rfl ⟨nd_X1.1, nd_X1.2, pd_X1_slotsInUse⟩ ⟨Nat.le_of_ble_eq_true rfl, Nat.le_of_ble_eq_true rfl⟩ ⟨Nat.zero_le _, Nat.zero_le _⟩ hl.1 rfl (by first | exact Nat.le_of_ble_eq_true rfl | simp [cat_rf, Value.category]) dX1_told_57 (fun r2 σ3 H locs hp hw => ?_)
      obtain ⟨er2, eσ3⟩ := hp
      replace hok := hok.2 r2 σ3 er2 eσ3
      exact rt_I (u := σ3) hF hw hok (Nat.zero_le _) (Nat.zero_le _) dX1_told_60

theorem p1_told (σ : SX) (v1 : Int32) (_ : q1_told σ v1) : wp_X1_told_0 σ v1 (fun r u => r = (f1_told σ v1).1 ∧ u = (f1_told σ v1).2) := by
  refine ⟨fun c => ⟨?_, rfl⟩, fun c => ⟨?_, rfl⟩, fun c => ⟨?_, rfl⟩, fun c => ⟨?_, rfl⟩, fun c => ⟨?_, rfl⟩, fun c => ⟨trivial, fun r2 σ3 e2 e3 => ⟨?_, e3⟩⟩⟩ <;> simp only [f1_told]
  · have hk : ∀ n : Nat, n ≤ 4 → ¬ v1 = nI n := fun n hn e => by
      rw [e, nI_toInt (by omega)] at c
      omega
    rw [if_neg (show ¬ v1 = 0 from hk 0 (by decide)), if_neg (show ¬ v1 = 1 from hk 1 (by decide)), if_neg (show ¬ v1 = 2 from hk 2 (by decide)), if_neg (show ¬ v1 = 3 from hk 3 (by decide)), if_neg (show ¬ v1 = 4 from hk 4 (by decide))]
  · rw [c, if_pos (by decide)]
  · rw [c, if_neg (by decide), if_pos (by decide)]
  · rw [c, if_neg (by decide), if_neg (by decide), if_pos (by decide)]
  · rw [c, if_neg (by decide), if_neg (by decide), if_neg (by decide), if_pos (by decide)]
  · rw [c, if_neg (by decide), if_neg (by decide), if_neg (by decide), if_neg (by decide), if_pos (by decide)]; exact e2

theorem c1_told (l : Launch) (G : Gm) (a : AX) (σ : SX) (v1 : Int32) (h : q1_told σ v1) : ctI l yX1_told cX1_told 2 .int (rr 1 22) G [.ref (a.1 13), .int v1] (wX G a σ) (fun (r : Int32) (u : SX) => r = (f1_told σ v1).1 ∧ u = (f1_told σ v1).2) (wX G a) := by
  refine en_I (by decide +kernel) (Nat.le_of_ble_eq_true rfl) (fun p e s m below meth c A ls hF hw hl => ?_)
  exact k_X1_told_0 hF σ v1 hw hl (p1_told σ v1 h)

def wp_X1_clear_0 (σ : SX)   (post : Int32 → SX → Prop) : Prop :=
  q1_emptyHall σ  ∧ ∀ σ1 : SX, σ1 = (f1_emptyHall σ ) → q1_emptyDeeds σ1  ∧ ∀ σ2 : SX, σ2 = (f1_emptyDeeds σ1 ) → ∀ σ3 : SX, σ3 = (va_up σ2.1 6 0, σ2.2) → ∀ σ4 : SX, σ4 = (va_up σ3.1 7 0, σ3.2) → ∀ σ5 : SX, σ5 = (va_up σ4.1 8 0, σ4.2) → ∀ σ6 : SX, σ6 = (va_up σ5.1 10 0, σ5.2) → q1_begin σ6  ∧ ∀ σ7 : SX, σ7 = (f1_begin σ6 ) → post (σ.1 8) σ7
set_option maxHeartbeats 4000000 in
set_option maxRecDepth 100000 in
theorem k_X1_clear_0 {l : Launch} {p : Program} {e : Env} {s : State} {m : MethodId} {below : List Frame} {meth : Method} {c : Code} {args : Array Value} {A : Nat → Prop} {G : Gm} {a : AX}  (hF : fx p s m args meth c cX1_clear 2 yX1_clear.cls kX1_clear (some (.int))) {post : Int32 → SX → Prop}  (σ : SX)  {H : Heap} {locs : List Loc} {ls : Array Slot} (hw : wb G A s (wX G a σ) H locs) (hl : lv_has ls 2 [(0, .ref (a.1 13))]) (hok : wp_X1_clear_0 σ   post) :
    W p l e (rr 1 21) s m args below meth c H locs 0 0 (MQ below (va_Qi post (po G A (wX G a)) A) args s 0 0 A) (F0 m 0 ls []) := by
  unfold wp_X1_clear_0 at hok
  refine lv_aload_n hF.x hF.b dX1_clear_0 rfl (lv_at hl 0 rfl) ?_
  refine r_get hF hw 0 rfl rfl inlX1 8 (by decide) wf_X1_40 rfl dX1_clear_1 ?_
  refine lv_istore_n (lv' := [(1, .int (σ.1 8)), (0, .ref (a.1 13))]) hF.x hF.b dX1_clear_4 rfl hl (by decide) rfl (fun ls hl => ?_)
  refine lv_aload_n hF.x hF.b dX1_clear_5 rfl (lv_at hl 1 rfl) ?_
  refine ca_V hF hw (c1_emptyHall l G a σ  hok.1) wv_X1_128 (q0 := 0) rfl rfl rfl ⟨nd_X1.1, nd_X1.2, pd_X1_emptyHall⟩ ⟨Nat.le_of_ble_eq_true rfl, Nat.le_of_ble_eq_true rfl⟩ ⟨Nat.zero_le _, Nat.zero_le _⟩ hl.1 rfl (by first | exact Nat.le_of_ble_eq_true rfl | simp [cat_rf, Value.category]) dX1_clear_6 (fun σ1 H locs eσ1 hw => ?_)
  replace hok := hok.2 σ1 eσ1
  refine lv_aload_n hF.x hF.b dX1_clear_9 rfl (lv_at hl 1 rfl) ?_
  refine ca_V hF hw (c1_emptyDeeds l G a σ1  hok.1) wv_X1_131 (q0 := 0) rfl rfl rfl ⟨nd_X1.1, nd_X1.2, pd_X1_emptyDeeds⟩ ⟨Nat.le_of_ble_eq_true rfl, Nat.le_of_ble_eq_true rfl⟩ ⟨Nat.zero_le _, Nat.zero_le _⟩ hl.1 rfl (by first | exact Nat.le_of_ble_eq_true rfl | simp [cat_rf, Value.category]) dX1_clear_10 (fun σ2 H locs eσ2 hw => ?_)
  replace hok := hok.2 σ2 eσ2
  refine lv_aload_n hF.x hF.b dX1_clear_13 rfl (lv_at hl 1 rfl) ?_
  refine lv_iconst (v := 0) hF.x hF.b dX1_clear_14 (by decide) ?_
  refine rx_put (v := 0) 6 hF hw (by decide) wf_X1_33 dX1_clear_15 (fun σ3 H locs eσ3 hw => ?_)
  replace hok := hok σ3 eσ3
  refine lv_aload_n hF.x hF.b dX1_clear_18 rfl (lv_at hl 1 rfl) ?_
  refine lv_iconst (v := 0) hF.x hF.b dX1_clear_19 (by decide) ?_
  refine rx_put (v := 0) 7 hF hw (by decide) wf_X1_37 dX1_clear_20 (fun σ4 H locs eσ4 hw => ?_)
  replace hok := hok σ4 eσ4
  refine lv_aload_n hF.x hF.b dX1_clear_23 rfl (lv_at hl 1 rfl) ?_
  refine lv_iconst (v := 0) hF.x hF.b dX1_clear_24 (by decide) ?_
  refine rx_put (v := 0) 8 hF hw (by decide) wf_X1_40 dX1_clear_25 (fun σ5 H locs eσ5 hw => ?_)
  replace hok := hok σ5 eσ5
  refine lv_aload_n hF.x hF.b dX1_clear_28 rfl (lv_at hl 1 rfl) ?_
  refine lv_iconst (v := 0) hF.x hF.b dX1_clear_29 (by decide) ?_
  refine rx_put (v := 0) 10 hF hw (by decide) wf_X1_46 dX1_clear_30 (fun σ6 H locs eσ6 hw => ?_)
  replace hok := hok σ6 eσ6
  refine lv_aload_n hF.x hF.b dX1_clear_33 rfl (lv_at hl 1 rfl) ?_
  refine ca_V hF hw (c1_begin l G a σ6  hok.1) wv_X1_107 (q0 := 0) rfl rfl rfl ⟨nd_X1.1, nd_X1.2, pd_X1_begin⟩ ⟨Nat.le_of_ble_eq_true rfl, Nat.le_of_ble_eq_true rfl⟩ ⟨Nat.zero_le _, Nat.zero_le _⟩ hl.1 rfl (by first | exact Nat.le_of_ble_eq_true rfl | simp [cat_rf, Value.category]) dX1_clear_34 (fun σ7 H locs eσ7 hw => ?_)
  replace hok := hok.2 σ7 eσ7
  refine lv_iload_n hF.x hF.b dX1_clear_37 rfl (lv_at hl 0 rfl) ?_
  exact rt_I (u := σ7) hF hw hok (Nat.zero_le _) (Nat.zero_le _) dX1_clear_38

theorem p1_clear (σ : SX) (_ : q1_clear σ) : wp_X1_clear_0 σ (fun r u => r = (f1_clear σ).1 ∧ u = (f1_clear σ).2) := by
  refine ⟨trivial, fun σ1 e1 => ⟨trivial, fun σ2 e2 σ3 e3 σ4 e4 σ5 e5 σ6 e6 => ⟨trivial, fun σ7 e7 => ?_⟩⟩⟩
  subst e1; subst e2; subst e3; subst e4; subst e5; subst e6; subst e7
  exact ⟨rfl, rfl⟩

theorem c1_clear (l : Launch) (G : Gm) (a : AX) (σ : SX)  (h : q1_clear σ ) : ctI l yX1_clear cX1_clear 2 .int (rr 1 21) G [.ref (a.1 13)] (wX G a σ) (fun (r : Int32) (u : SX) => r = (f1_clear σ ).1 ∧ u = (f1_clear σ ).2) (wX G a) := by
  refine en_I (by decide +kernel) (Nat.le_of_ble_eq_true rfl) (fun p e s m below meth c A ls hF hw hl => ?_)
  exact k_X1_clear_0 hF σ  hw hl (p1_clear σ  h)
