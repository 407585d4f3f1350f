def wp_X1_isBasin_0 (v0 : Int32)  (post : Int32 → Prop) : Prop :=
  (v0 < 0 → post 0) ∧ (¬ v0 < 0 → (10 ≤ v0 → post 0) ∧ (¬ 10 ≤ v0 → post 1))
set_option maxHeartbeats 4000000 in
set_option maxRecDepth 100000 in
theorem k_X1_isBasin_0 {l : Launch} {p : Program} {e : Env} {s : State} {m : MethodId} {below : List Frame} {meth : Method} {c : Code} {args : Array Value}  (hF : fx p s m args meth c cX1_isBasin 1 yX1_isBasin.cls kX1_isBasin (some (.boolean))) {post : Int32 → Prop}  (v0 : Int32) {ls : Array Slot} (hl : lv_has ls 1 [(0, .int v0)]) (hok : wp_X1_isBasin_0 v0  post) :
    W p l e (rr 0 0) s m args below meth c s.heap [] 0 0 (MQ below (vp_Si post) args s 0 0 (fun _ => False)) (F0 m 0 ls []) := by
  unfold wp_X1_isBasin_0 at hok
  refine lv_iload_n hF.x hF.b dX1_isBasin_0 rfl (lv_at hl 0 rfl) ?_
  refine lv_if_lt (tgt := 14) hF.x hF.b dX1_isBasin_1 (by decide) (fun c1 => ?_) (fun c1 => ?_)
  · replace hok := hok.1 c1
    refine lv_iconst (v := 0) hF.x hF.b dX1_isBasin_14 (by decide) ?_
    exact rt_S hF (Or.inl rfl) hok dX1_isBasin_15
  · replace hok := hok.2 c1
    refine lv_iload_n hF.x hF.b dX1_isBasin_4 rfl (lv_at hl 0 rfl) ?_
    refine lv_bipush (v := 10) hF.x hF.b dX1_isBasin_5 (by decide) ?_
    refine lv_icmp_ge (tgt := 14) hF.x hF.b dX1_isBasin_7 (by decide) (fun c2 => ?_) (fun c2 => ?_)
    · replace hok := hok.1 c2
      refine lv_iconst (v := 0) hF.x hF.b dX1_isBasin_14 (by decide) ?_
      exact rt_S hF (Or.inl rfl) hok dX1_isBasin_15
    · replace hok := hok.2 c2
      refine lv_iconst (v := 1) hF.x hF.b dX1_isBasin_10 (by decide) ?_
      refine lv_goto (tgt := 15) hF.x hF.b dX1_isBasin_11 (by decide) ?_
      exact rt_S hF (Or.inr rfl) hok dX1_isBasin_15

theorem p1_isBasin (v0 : Int32) : wp_X1_isBasin_0 v0 (fun r => r = f1_isBasin v0) := by
  unfold wp_X1_isBasin_0 f1_isBasin f1_rng
  exact ⟨fun h => by rw [if_pos h], fun h => ⟨fun h2 => by rw [if_neg h, if_pos h2], fun h2 => by rw [if_neg h, if_neg h2]⟩⟩

theorem c1_isBasin (l : Launch) (v0 : Int32) : ctS l yX1_isBasin cX1_isBasin 1 .boolean (rr 0 0) [.int v0] (fun r => r = f1_isBasin v0) := by
  refine en_S (by decide +kernel) (Nat.le_of_ble_eq_true rfl) (fun p e s m below meth c ls hF hl => ?_)
  exact k_X1_isBasin_0 hF v0 hl (p1_isBasin v0)

def wp_X1_isGauge_0 (v0 : Int32)  (post : Int32 → Prop) : Prop :=
  (v0 < 0 → post 0) ∧ (¬ v0 < 0 → (3 ≤ v0 → post 0) ∧ (¬ 3 ≤ v0 → post 1))
set_option maxHeartbeats 4000000 in
set_option maxRecDepth 100000 in
theorem k_X1_isGauge_0 {l : Launch} {p : Program} {e : Env} {s : State} {m : MethodId} {below : List Frame} {meth : Method} {c : Code} {args : Array Value}  (hF : fx p s m args meth c cX1_isGauge 1 yX1_isGauge.cls kX1_isGauge (some (.boolean))) {post : Int32 → Prop}  (v0 : Int32) {ls : Array Slot} (hl : lv_has ls 1 [(0, .int v0)]) (hok : wp_X1_isGauge_0 v0  post) :
    W p l e (rr 0 0) s m args below meth c s.heap [] 0 0 (MQ below (vp_Si post) args s 0 0 (fun _ => False)) (F0 m 0 ls []) := by
  unfold wp_X1_isGauge_0 at hok
  refine lv_iload_n hF.x hF.b dX1_isGauge_0 rfl (lv_at hl 0 rfl) ?_
  refine lv_if_lt (tgt := 13) hF.x hF.b dX1_isGauge_1 (by decide) (fun c1 => ?_) (fun c1 => ?_)
  · replace hok := hok.1 c1
    refine lv_iconst (v := 0) hF.x hF.b dX1_isGauge_13 (by decide) ?_
    exact rt_S hF (Or.inl rfl) hok dX1_isGauge_14
  · replace hok := hok.2 c1
    refine lv_iload_n hF.x hF.b dX1_isGauge_4 rfl (lv_at hl 0 rfl) ?_
    refine lv_iconst (v := 3) hF.x hF.b dX1_isGauge_5 (by decide) ?_
    refine lv_icmp_ge (tgt := 13) hF.x hF.b dX1_isGauge_6 (by decide) (fun c2 => ?_) (fun c2 => ?_)
    · replace hok := hok.1 c2
      refine lv_iconst (v := 0) hF.x hF.b dX1_isGauge_13 (by decide) ?_
      exact rt_S hF (Or.inl rfl) hok dX1_isGauge_14
    · replace hok := hok.2 c2
      refine lv_iconst (v := 1) hF.x hF.b dX1_isGauge_9 (by decide) ?_
      refine lv_goto (tgt := 14) hF.x hF.b dX1_isGauge_10 (by decide) ?_
      exact rt_S hF (Or.inr rfl) hok dX1_isGauge_14

theorem p1_isGauge (v0 : Int32) : wp_X1_isGauge_0 v0 (fun r => r = f1_isGauge v0) := by
  unfold wp_X1_isGauge_0 f1_isGauge f1_rng
  exact ⟨fun h => by rw [if_pos h], fun h => ⟨fun h2 => by rw [if_neg h, if_pos h2], fun h2 => by rw [if_neg h, if_neg h2]⟩⟩

theorem c1_isGauge (l : Launch) (v0 : Int32) : ctS l yX1_isGauge cX1_isGauge 1 .boolean (rr 0 0) [.int v0] (fun r => r = f1_isGauge v0) := by
  refine en_S (by decide +kernel) (Nat.le_of_ble_eq_true rfl) (fun p e s m below meth c ls hF hl => ?_)
  exact k_X1_isGauge_0 hF v0 hl (p1_isGauge v0)

def wp_X1_isSlot_0 (v0 : Int32)  (post : Int32 → Prop) : Prop :=
  (v0 < 0 → post 0) ∧ (¬ v0 < 0 → (20 ≤ v0 → post 0) ∧ (¬ 20 ≤ v0 → post 1))
set_option maxHeartbeats 4000000 in
set_option maxRecDepth 100000 in
theorem k_X1_isSlot_0 {l : Launch} {p : Program} {e : Env} {s : State} {m : MethodId} {below : List Frame} {meth : Method} {c : Code} {args : Array Value}  (hF : fx p s m args meth c cX1_isSlot 1 yX1_isSlot.cls kX1_isSlot (some (.boolean))) {post : Int32 → Prop}  (v0 : Int32) {ls : Array Slot} (hl : lv_has ls 1 [(0, .int v0)]) (hok : wp_X1_isSlot_0 v0  post) :
    W p l e (rr 0 0) s m args below meth c s.heap [] 0 0 (MQ below (vp_Si post) args s 0 0 (fun _ => False)) (F0 m 0 ls []) := by
  unfold wp_X1_isSlot_0 at hok
  refine lv_iload_n hF.x hF.b dX1_isSlot_0 rfl (lv_at hl 0 rfl) ?_
  refine lv_if_lt (tgt := 14) hF.x hF.b dX1_isSlot_1 (by decide) (fun c1 => ?_) (fun c1 => ?_)
  · replace hok := hok.1 c1
    refine lv_iconst (v := 0) hF.x hF.b dX1_isSlot_14 (by decide) ?_
    exact rt_S hF (Or.inl rfl) hok dX1_isSlot_15
  · replace hok := hok.2 c1
    refine lv_iload_n hF.x hF.b dX1_isSlot_4 rfl (lv_at hl 0 rfl) ?_
    refine lv_bipush (v := 20) hF.x hF.b dX1_isSlot_5 (by decide) ?_
    refine lv_icmp_ge (tgt := 14) hF.x hF.b dX1_isSlot_7 (by decide) (fun c2 => ?_) (fun c2 => ?_)
    · replace hok := hok.1 c2
      refine lv_iconst (v := 0) hF.x hF.b dX1_isSlot_14 (by decide) ?_
      exact rt_S hF (Or.inl rfl) hok dX1_isSlot_15
    · replace hok := hok.2 c2
      refine lv_iconst (v := 1) hF.x hF.b dX1_isSlot_10 (by decide) ?_
      refine lv_goto (tgt := 15) hF.x hF.b dX1_isSlot_11 (by decide) ?_
      exact rt_S hF (Or.inr rfl) hok dX1_isSlot_15

theorem p1_isSlot (v0 : Int32) : wp_X1_isSlot_0 v0 (fun r => r = f1_isSlot v0) := by
  unfold wp_X1_isSlot_0 f1_isSlot f1_rng
  exact ⟨fun h => by rw [if_pos h], fun h => ⟨fun h2 => by rw [if_neg h, if_pos h2], fun h2 => by rw [if_neg h, if_neg h2]⟩⟩

theorem c1_isSlot (l : Launch) (v0 : Int32) : ctS l yX1_isSlot cX1_isSlot 1 .boolean (rr 0 0) [.int v0] (fun r => r = f1_isSlot v0) := by
  refine en_S (by decide +kernel) (Nat.le_of_ble_eq_true rfl) (fun p e s m below meth c ls hF hl => ?_)
  exact k_X1_isSlot_0 hF v0 hl (p1_isSlot v0)

def wp_X1_isLever_0 (v0 : Int32)  (post : Int32 → Prop) : Prop :=
  (v0 < 0 → post 0) ∧ (¬ v0 < 0 → (5 ≤ v0 → post 0) ∧ (¬ 5 ≤ v0 → post 1))
set_option maxHeartbeats 4000000 in
set_option maxRecDepth 100000 in
theorem k_X1_isLever_0 {l : Launch} {p : Program} {e : Env} {s : State} {m : MethodId} {below : List Frame} {meth : Method} {c : Code} {args : Array Value}  (hF : fx p s m args meth c cX1_isLever 1 yX1_isLever.cls kX1_isLever (some (.boolean))) {post : Int32 → Prop}  (v0 : Int32) {ls : Array Slot} (hl : lv_has ls 1 [(0, .int v0)]) (hok : wp_X1_isLever_0 v0  post) :
    W p l e (rr 0 0) s m args below meth c s.heap [] 0 0 (MQ below (vp_Si post) args s 0 0 (fun _ => False)) (F0 m 0 ls []) := by
  unfold wp_X1_isLever_0 at hok
  refine lv_iload_n hF.x hF.b dX1_isLever_0 rfl (lv_at hl 0 rfl) ?_
  refine lv_if_lt (tgt := 13) hF.x hF.b dX1_isLever_1 (by decide) (fun c1 => ?_) (fun c1 => ?_)
  · replace hok := hok.1 c1
    refine lv_iconst (v := 0) hF.x hF.b dX1_isLever_13 (by decide) ?_
    exact rt_S hF (Or.inl rfl) hok dX1_isLever_14
  · replace hok := hok.2 c1
    refine lv_iload_n hF.x hF.b dX1_isLever_4 rfl (lv_at hl 0 rfl) ?_
    refine lv_iconst (v := 5) hF.x hF.b dX1_isLever_5 (by decide) ?_
    refine lv_icmp_ge (tgt := 13) hF.x hF.b dX1_isLever_6 (by decide) (fun c2 => ?_) (fun c2 => ?_)
    · replace hok := hok.1 c2
      refine lv_iconst (v := 0) hF.x hF.b dX1_isLever_13 (by decide) ?_
      exact rt_S hF (Or.inl rfl) hok dX1_isLever_14
    · replace hok := hok.2 c2
      refine lv_iconst (v := 1) hF.x hF.b dX1_isLever_9 (by decide) ?_
      refine lv_goto (tgt := 14) hF.x hF.b dX1_isLever_10 (by decide) ?_
      exact rt_S hF (Or.inr rfl) hok dX1_isLever_14

theorem p1_isLever (v0 : Int32) : wp_X1_isLever_0 v0 (fun r => r = f1_isLever v0) := by
  unfold wp_X1_isLever_0 f1_isLever f1_rng
  exact ⟨fun h => by rw [if_pos h], fun h => ⟨fun h2 => by rw [if_neg h, if_pos h2], fun h2 => by rw [if_neg h, if_neg h2]⟩⟩

theorem c1_isLever (l : Launch) (v0 : Int32) : ctS l yX1_isLever cX1_isLever 1 .boolean (rr 0 0) [.int v0] (fun r => r = f1_isLever v0) := by
  refine en_S (by decide +kernel) (Nat.le_of_ble_eq_true rfl) (fun p e s m below meth c ls hF hl => ?_)
  exact k_X1_isLever_0 hF v0 hl (p1_isLever v0)

def wp_X1_holdsFirst_0 (v0 : Int32)  (post : Int32 → Prop) : Prop :=
  (v0 < 7 → post 0) ∧ (¬ v0 < 7 → (12 < v0 → post 0) ∧ (¬ 12 < v0 → post 1))
set_option maxHeartbeats 4000000 in
set_option maxRecDepth 100000 in
theorem k_X1_holdsFirst_0 {l : Launch} {p : Program} {e : Env} {s : State} {m : MethodId} {below : List Frame} {meth : Method} {c : Code} {args : Array Value}  (hF : fx p s m args meth c cX1_holdsFirst 1 yX1_holdsFirst.cls kX1_holdsFirst (some (.boolean))) {post : Int32 → Prop}  (v0 : Int32) {ls : Array Slot} (hl : lv_has ls 1 [(0, .int v0)]) (hok : wp_X1_holdsFirst_0 v0  post) :
    W p l e (rr 0 0) s m args below meth c s.heap [] 0 0 (MQ below (vp_Si post) args s 0 0 (fun _ => False)) (F0 m 0 ls []) := by
  unfold wp_X1_holdsFirst_0 at hok
  refine lv_iload_n hF.x hF.b dX1_holdsFirst_0 rfl (lv_at hl 0 rfl) ?_
  refine lv_bipush (v := 7) hF.x hF.b dX1_holdsFirst_1 (by decide) ?_
  refine lv_icmp_lt (tgt := 16) hF.x hF.b dX1_holdsFirst_3 (by decide) (fun c1 => ?_) (fun c1 => ?_)
  · replace hok := hok.1 c1
    refine lv_iconst (v := 0) hF.x hF.b dX1_holdsFirst_16 (by decide) ?_
    exact rt_S hF (Or.inl rfl) hok dX1_holdsFirst_17
  · replace hok := hok.2 c1
    refine lv_iload_n hF.x hF.b dX1_holdsFirst_6 rfl (lv_at hl 0 rfl) ?_
    refine lv_bipush (v := 12) hF.x hF.b dX1_holdsFirst_7 (by decide) ?_
    refine lv_icmp_gt (tgt := 16) hF.x hF.b dX1_holdsFirst_9 (by decide) (fun c2 => ?_) (fun c2 => ?_)
    · replace hok := hok.1 c2
      refine lv_iconst (v := 0) hF.x hF.b dX1_holdsFirst_16 (by decide) ?_
      exact rt_S hF (Or.inl rfl) hok dX1_holdsFirst_17
    · replace hok := hok.2 c2
      refine lv_iconst (v := 1) hF.x hF.b dX1_holdsFirst_12 (by decide) ?_
      refine lv_goto (tgt := 17) hF.x hF.b dX1_holdsFirst_13 (by decide) ?_
      exact rt_S hF (Or.inr rfl) hok dX1_holdsFirst_17

theorem p1_holdsFirst (v0 : Int32) : wp_X1_holdsFirst_0 v0 (fun r => r = f1_holdsFirst v0) := by
  unfold wp_X1_holdsFirst_0 f1_holdsFirst
  exact ⟨fun h => by rw [if_pos h], fun h => ⟨fun h2 => by rw [if_neg h, if_pos h2], fun h2 => by rw [if_neg h, if_neg h2]⟩⟩

theorem c1_holdsFirst (l : Launch) (v0 : Int32) : ctS l yX1_holdsFirst cX1_holdsFirst 1 .boolean (rr 0 0) [.int v0] (fun r => r = f1_holdsFirst v0) := by
  refine en_S (by decide +kernel) (Nat.le_of_ble_eq_true rfl) (fun p e s m below meth c ls hF hl => ?_)
  exact k_X1_holdsFirst_0 hF v0 hl (p1_holdsFirst v0)

def wp_X1_holdsSecond_0 (v0 : Int32)  (post : Int32 → Prop) : Prop :=
  (v0 = 7 → post 1) ∧ (¬ v0 = 7 → (v0 = 8 → post 1) ∧ (¬ v0 = 8 → (¬ v0 = 10 → post 0) ∧ (v0 = 10 → post 1)))
set_option maxHeartbeats 4000000 in
set_option maxRecDepth 100000 in
theorem k_X1_holdsSecond_0 {l : Launch} {p : Program} {e : Env} {s : State} {m : MethodId} {below : List Frame} {meth : Method} {c : Code} {args : Array Value}  (hF : fx p s m args meth c cX1_holdsSecond 1 yX1_holdsSecond.cls kX1_holdsSecond (some (.boolean))) {post : Int32 → Prop}  (v0 : Int32) {ls : Array Slot} (hl : lv_has ls 1 [(0, .int v0)]) (hok : wp_X1_holdsSecond_0 v0  post) :
    W p l e (rr 0 0) s m args below meth c s.heap [] 0 0 (MQ below (vp_Si post) args s 0 0 (fun _ => False)) (F0 m 0 ls []) := by
  unfold wp_X1_holdsSecond_0 at hok
  refine lv_iload_n hF.x hF.b dX1_holdsSecond_0 rfl (lv_at hl 0 rfl) ?_
  refine lv_bipush (v := 7) hF.x hF.b dX1_holdsSecond_1 (by decide) ?_
  refine lv_icmp_eq (tgt := 18) hF.x hF.b dX1_holdsSecond_3 (by decide) (fun c1 => ?_) (fun c1 => ?_)
  · replace hok := hok.1 c1
    refine lv_iconst (v := 1) hF.x hF.b dX1_holdsSecond_18 (by decide) ?_
    refine lv_goto (tgt := 23) hF.x hF.b dX1_holdsSecond_19 (by decide) ?_
    exact rt_S hF (Or.inr rfl) hok dX1_holdsSecond_23
  · replace hok := hok.2 c1
    refine lv_iload_n hF.x hF.b dX1_holdsSecond_6 rfl (lv_at hl 0 rfl) ?_
    refine lv_bipush (v := 8) hF.x hF.b dX1_holdsSecond_7 (by decide) ?_
    refine lv_icmp_eq (tgt := 18) hF.x hF.b dX1_holdsSecond_9 (by decide) (fun c2 => ?_) (fun c2 => ?_)
    · replace hok := hok.1 c2
      refine lv_iconst (v := 1) hF.x hF.b dX1_holdsSecond_18 (by decide) ?_
      refine lv_goto (tgt := 23) hF.x hF.b dX1_holdsSecond_19 (by decide) ?_
      exact rt_S hF (Or.inr rfl) hok dX1_holdsSecond_23
    · replace hok := hok.2 c2
      refine lv_iload_n hF.x hF.b dX1_holdsSecond_12 rfl (lv_at hl 0 rfl) ?_
      refine lv_bipush (v := 10) hF.x hF.b dX1_holdsSecond_13 (by decide) ?_
      refine lv_icmp_ne (tgt := 22) hF.x hF.b dX1_holdsSecond_15 (by decide) (fun c3 => ?_) (fun c3 => ?_)
      · replace hok := hok.1 c3
        refine lv_iconst (v := 0) hF.x hF.b dX1_holdsSecond_22 (by decide) ?_
        exact rt_S hF (Or.inl rfl) hok dX1_holdsSecond_23
      · replace hok := hok.2 c3
        refine lv_iconst (v := 1) hF.x hF.b dX1_holdsSecond_18 (by decide) ?_
        refine lv_goto (tgt := 23) hF.x hF.b dX1_holdsSecond_19 (by decide) ?_
        exact rt_S hF (Or.inr rfl) hok dX1_holdsSecond_23

theorem p1_holdsSecond (v0 : Int32) : wp_X1_holdsSecond_0 v0 (fun r => r = f1_holdsSecond v0) := by
  unfold wp_X1_holdsSecond_0 f1_holdsSecond
  exact ⟨fun h => by rw [if_pos h], fun h => ⟨fun h2 => by rw [if_neg h, if_pos h2], fun h2 => ⟨fun h3 => by rw [if_neg h, if_neg h2, if_pos h3], fun h3 => by rw [if_neg h, if_neg h2, if_neg (fun q => q h3)]⟩⟩⟩

theorem c1_holdsSecond (l : Launch) (v0 : Int32) : ctS l yX1_holdsSecond cX1_holdsSecond 1 .boolean (rr 0 0) [.int v0] (fun r => r = f1_holdsSecond v0) := by
  refine en_S (by decide +kernel) (Nat.le_of_ble_eq_true rfl) (fun p e s m below meth c ls hF hl => ?_)
  exact k_X1_holdsSecond_0 hF v0 hl (p1_holdsSecond v0)

def wp_X1_namesWhatThereIs_108 (v0 : Int32) (v1 : Int32) (v2 : Int32) (v3 : Int32)  (post : Int32 → Prop) : Prop :=
  ∀ r1 : Int32, r1 = f1_isSlot v1 → (r1 = 0 → post 0) ∧ (¬ r1 = 0 → ∀ r3 : Int32, r3 = f1_isSlot v2 → (r3 = 0 → post 0) ∧ (¬ r3 = 0 → post 1))
set_option maxHeartbeats 4000000 in
set_option maxRecDepth 100000 in
theorem k_X1_namesWhatThereIs_108 {l : Launch} {p : Program} {e : Env} {s : State} {m : MethodId} {below : List Frame} {meth : Method} {c : Code} {args : Array Value}  (hF : fx p s m args meth c cX1_namesWhatThereIs 4 yX1_namesWhatThereIs.cls kX1_namesWhatThereIs (some (.boolean))) {post : Int32 → Prop}  (v0 : Int32) (v1 : Int32) (v2 : Int32) (v3 : Int32) {ls : Array Slot} (hl : lv_has ls 4 [(0, .int v0), (1, .int v1), (2, .int v2), (3, .int v3)]) (hok : wp_X1_namesWhatThereIs_108 v0 v1 v2 v3  post) :
    W p l e (rr 1 20) s m args below meth c s.heap [] 0 0 (MQ below (vp_Si post) args s 0 0 (fun _ => False)) (F0 m 108 ls []) := by
  unfold wp_X1_namesWhatThereIs_108 at hok
  refine lv_iload_n hF.x hF.b dX1_namesWhatThereIs_108 rfl (lv_at hl 1 rfl) ?_
  refine ca_S hF (c1_isSlot l v1) wv_X1_75 ⟨rfl, nd_X1.1, nd_X1.2, pd_X1_isSlot⟩ ⟨rfl, rfl⟩ ⟨Nat.le_of_ble_eq_true rfl, Nat.le_of_ble_eq_true rfl⟩ ⟨Nat.zero_le _, Nat.zero_le _⟩ hl.1 rfl (by first | exact Nat.le_of_ble_eq_true rfl | simp [cat_rf, Value.category]) dX1_namesWhatThereIs_109 (fun r1 er1 => ?_)
  replace hok := hok r1 er1
  refine lv_if_eq (tgt := 126) hF.x hF.b dX1_namesWhatThereIs_112 (by decide) (fun c2 => ?_) (fun c2 => ?_)
  · replace hok := hok.1 c2
    refine lv_iconst (v := 0) hF.x hF.b dX1_namesWhatThereIs_126 (by decide) ?_
    exact rt_S hF (Or.inl rfl) hok dX1_namesWhatThereIs_127
  · replace hok := hok.2 c2
    refine lv_iload_n hF.x hF.b dX1_namesWhatThereIs_115 rfl (lv_at hl 2 rfl) ?_
    refine ca_S hF (c1_isSlot l v2) wv_X1_75 ⟨rfl, nd_X1.1, nd_X1.2, pd_X1_isSlot⟩ ⟨rfl, rfl⟩ ⟨Nat.le_of_ble_eq_true rfl, Nat.le_of_ble_eq_true rfl⟩ ⟨Nat.zero_le _, Nat.zero_le _⟩ hl.1 rfl (by first | exact Nat.le_of_ble_eq_true rfl | simp [cat_rf, Value.category]) dX1_namesWhatThereIs_116 (fun r3 er3 => ?_)
    replace hok := hok r3 er3
    refine lv_if_eq (tgt := 126) hF.x hF.b dX1_namesWhatThereIs_119 (by decide) (fun c4 => ?_) (fun c4 => ?_)
    · replace hok := hok.1 c4
      refine lv_iconst (v := 0) hF.x hF.b dX1_namesWhatThereIs_126 (by decide) ?_
      exact rt_S hF (Or.inl rfl) hok dX1_namesWhatThereIs_127
    · replace hok := hok.2 c4
      refine lv_iconst (v := 1) hF.x hF.b dX1_namesWhatThereIs_122 (by decide) ?_
      refine lv_goto (tgt := 127) hF.x hF.b dX1_namesWhatThereIs_123 (by decide) ?_
      exact rt_S hF (Or.inr rfl) hok dX1_namesWhatThereIs_127
def wp_X1_namesWhatThereIs_0 (v0 : Int32) (v1 : Int32) (v2 : Int32) (v3 : Int32)  (post : Int32 → Prop) : Prop :=
  (v0.toInt < 0 ∨ 14 < v0.toInt → post 0) ∧ (v0 = 0 → post 1) ∧ (v0 = 1 → ∀ r2 : Int32, r2 = f1_isBasin v1 → post r2) ∧ (v0 = 2 → ∀ r3 : Int32, r3 = f1_isBasin v1 → post r3) ∧ (v0 = 3 → ∀ r4 : Int32, r4 = f1_isBasin v1 → (r4 = 0 → post 0) ∧ (¬ r4 = 0 → ∀ r6 : Int32, r6 = f1_isBasin v2 → (r6 = 0 → post 0) ∧ (¬ r6 = 0 → post 1))) ∧ (v0 = 4 → ∀ r8 : Int32, r8 = f1_isGauge v1 → post r8) ∧ (v0 = 5 → post 1) ∧ (v0 = 6 → ∀ r9 : Int32, r9 = f1_isBasin v1 → post r9) ∧ (v0 = 7 → wp_X1_namesWhatThereIs_108 v0 v1 v2 v3  post) ∧ (v0 = 8 → ∀ r10 : Int32, r10 = f1_isSlot v1 → (r10 = 0 → post 0) ∧ (¬ r10 = 0 → ∀ r12 : Int32, r12 = f1_isSlot v2 → (r12 = 0 → post 0) ∧ (¬ r12 = 0 → ∀ r14 : Int32, r14 = f1_isBasin v3 → (r14 = 0 → post 0) ∧ (¬ r14 = 0 → post 1)))) ∧ (v0 = 9 → ∀ r16 : Int32, r16 = f1_isSlot v1 → (r16 = 0 → post 0) ∧ (¬ r16 = 0 → (v2 < 0 → post 0) ∧ (¬ v2 < 0 → (5 < v2 → post 0) ∧ (¬ 5 < v2 → post 1)))) ∧ (v0 = 10 → wp_X1_namesWhatThereIs_108 v0 v1 v2 v3  post) ∧ (v0 = 11 → ∀ r20 : Int32, r20 = f1_isSlot v1 → post r20) ∧ (v0 = 12 → ∀ r21 : Int32, r21 = f1_isSlot v1 → post r21) ∧ (v0 = 13 → ∀ r22 : Int32, r22 = f1_isLever v1 → post r22) ∧ (v0 = 14 → ∀ r23 : Int32, r23 = f1_isSlot v1 → post r23)
set_option maxHeartbeats 4000000 in
set_option maxRecDepth 100000 in
theorem k_X1_namesWhatThereIs_0 {l : Launch} {p : Program} {e : Env} {s : State} {m : MethodId} {below : List Frame} {meth : Method} {c : Code} {args : Array Value}  (hF : fx p s m args meth c cX1_namesWhatThereIs 4 yX1_namesWhatThereIs.cls kX1_namesWhatThereIs (some (.boolean))) {post : Int32 → Prop}  (v0 : Int32) (v1 : Int32) (v2 : Int32) (v3 : Int32) {ls : Array Slot} (hl : lv_has ls 4 [(0, .int v0), (1, .int v1), (2, .int v2), (3, .int v3)]) (hok : wp_X1_namesWhatThereIs_0 v0 v1 v2 v3  post) :
    W p l e (rr 1 20) s m args below meth c s.heap [] 0 0 (MQ below (vp_Si post) args s 0 0 (fun _ => False)) (F0 m 0 ls []) := by
  unfold wp_X1_namesWhatThereIs_0 at hok
  refine lv_iload_n hF.x hF.b dX1_namesWhatThereIs_0 rfl (lv_at hl 0 rfl) ?_
  by_cases c1 : v0.toInt < 0 ∨ 14 < v0.toInt
  · replace hok := hok.1 c1
    refine lv_tableOut (tgt := 187) hF.x hF.b dX1_namesWhatThereIs_1 c1 (by decide) ?_
    refine lv_iconst (v := 0) hF.x hF.b dX1_namesWhatThereIs_187 (by decide) ?_
    exact rt_S hF (Or.inl rfl) hok dX1_namesWhatThereIs_188
  · obtain ⟨j, hj1, hj2, ex⟩ := sw_in (lo := 0) (hi := 14) c1 (by decide)
    rcases (show j = 0 ∨ j = 1 ∨ j = 2 ∨ j = 3 ∨ j = 4 ∨ j = 5 ∨ j = 6 ∨ j = 7 ∨ j = 8 ∨ j = 9 ∨ j = 10 ∨ j = 11 ∨ j = 12 ∨ j = 13 ∨ j = 14 by omega) with rfl | rfl | rfl | rfl | rfl | rfl | rfl | rfl | rfl | rfl | rfl | rfl | rfl | rfl | rfl
    · replace hok := hok.2.1 ex
      refine lv_tableIn (off := 75) (tgt := 76) hF.x hF.b dX1_namesWhatThereIs_1 (by rw [ex]; decide) (by rw [ex]; decide) (by rw [ex]; rfl) (by decide) ?_
      refine lv_iconst (v := 1) hF.x hF.b dX1_namesWhatThereIs_76 (by decide) ?_
      exact rt_S hF (Or.inr rfl) hok dX1_namesWhatThereIs_77
    · replace hok := hok.2.2.1 ex
      refine lv_tableIn (off := 77) (tgt := 78) hF.x hF.b dX1_namesWhatThereIs_1 (by rw [ex]; decide) (by rw [ex]; decide) (by rw [ex]; rfl) (by decide) ?_
      refine lv_iload_n hF.x hF.b dX1_namesWhatThereIs_78 rfl (lv_at hl 1 rfl) ?_
      refine ca_S hF (c1_isBasin l v1) wv_X1_134 ⟨rfl, nd_X1.1, nd_X1.2, pd_X1_isBasin⟩ ⟨rfl, rfl⟩ ⟨Nat.le_of_ble_eq_true rfl, Nat.le_of_ble_eq_true rfl⟩ ⟨Nat.zero_le _, Nat.zero_le _⟩ hl.1 rfl (by first | exact Nat.le_of_ble_eq_true rfl | simp [cat_rf, Value.category]) dX1_namesWhatThereIs_79 (fun r2 er2 => ?_)
      replace hok := hok r2 er2
      exact rt_S hF (by rw [er2]; apply zf1_isBasin) hok dX1_namesWhatThereIs_82
    · replace hok := hok.2.2.2.1 ex
      refine lv_tableIn (off := 77) (tgt := 78) hF.x hF.b dX1_namesWhatThereIs_1 (by rw [ex]; decide) (by rw [ex]; decide) (by rw [ex]; rfl) (by decide) ?_
      refine lv_iload_n hF.x hF.b dX1_namesWhatThereIs_78 rfl (lv_at hl 1 rfl) ?_
      refine ca_S hF (c1_isBasin l v1) wv_X1_134 ⟨rfl, nd_X1.1, nd_X1.2, pd_X1_isBasin⟩ ⟨rfl, rfl⟩ ⟨Nat.le_of_ble_eq_true rfl, Nat.le_of_ble_eq_true rfl⟩ ⟨Nat.zero_le _, Nat.zero_le _⟩ hl.1 rfl (by first | exact Nat.le_of_ble_eq_true rfl | simp [cat_rf, Value.category]) dX1_namesWhatThereIs_79 (fun r3 er3 => ?_)
      replace hok := hok r3 er3
      exact rt_S hF (by rw [er3]; apply zf1_isBasin) hok dX1_namesWhatThereIs_82
    · replace hok := hok.2.2.2.2.1 ex
      refine lv_tableIn (off := 82) (tgt := 83) hF.x hF.b dX1_namesWhatThereIs_1 (by rw [ex]; decide) (by rw [ex]; decide) (by rw [ex]; rfl) (by decide) ?_
      refine lv_iload_n hF.x hF.b dX1_namesWhatThereIs_83 rfl (lv_at hl 1 rfl) ?_
      refine ca_S hF (c1_isBasin l v1) wv_X1_134 ⟨rfl, nd_X1.1, nd_X1.2, pd_X1_isBasin⟩ ⟨rfl, rfl⟩ ⟨Nat.le_of_ble_eq_true rfl, Nat.le_of_ble_eq_true rfl⟩ ⟨Nat.zero_le _, Nat.zero_le _⟩ hl.1 rfl (by first | exact Nat.le_of_ble_eq_true rfl | simp [cat_rf, Value.category]) dX1_namesWhatThereIs_84 (fun r4 er4 => ?_)
      replace hok := hok r4 er4
      refine lv_if_eq (tgt := 101) hF.x hF.b dX1_namesWhatThereIs_87 (by decide) (fun c5 => ?_) (fun c5 => ?_)
      · replace hok := hok.1 c5
        refine lv_iconst (v := 0) hF.x hF.b dX1_namesWhatThereIs_101 (by decide) ?_
        exact rt_S hF (Or.inl rfl) hok dX1_namesWhatThereIs_102
      · replace hok := hok.2 c5
        refine lv_iload_n hF.x hF.b dX1_namesWhatThereIs_90 rfl (lv_at hl 2 rfl) ?_
        refine ca_S hF (c1_isBasin l v2) wv_X1_134 ⟨rfl, nd_X1.1, nd_X1.2, pd_X1_isBasin⟩ ⟨rfl, rfl⟩ ⟨Nat.le_of_ble_eq_true rfl, Nat.le_of_ble_eq_true rfl⟩ ⟨Nat.zero_le _, Nat.zero_le _⟩ hl.1 rfl (by first | exact Nat.le_of_ble_eq_true rfl | simp [cat_rf, Value.category]) dX1_namesWhatThereIs_91 (fun r6 er6 => ?_)
        replace hok := hok r6 er6
        refine lv_if_eq (tgt := 101) hF.x hF.b dX1_namesWhatThereIs_94 (by decide) (fun c7 => ?_) (fun c7 => ?_)
        · replace hok := hok.1 c7
          refine lv_iconst (v := 0) hF.x hF.b dX1_namesWhatThereIs_101 (by decide) ?_
          exact rt_S hF (Or.inl rfl) hok dX1_namesWhatThereIs_102
        · replace hok := hok.2 c7
          refine lv_iconst (v := 1) hF.x hF.b dX1_namesWhatThereIs_97 (by decide) ?_
          refine lv_goto (tgt := 102) hF.x hF.b dX1_namesWhatThereIs_98 (by decide) ?_
          exact rt_S hF (Or.inr rfl) hok dX1_namesWhatThereIs_102
    · replace hok := hok.2.2.2.2.2.1 ex
      refine lv_tableIn (off := 102) (tgt := 103) hF.x hF.b dX1_namesWhatThereIs_1 (by rw [ex]; decide) (by rw [ex]; decide) (by rw [ex]; rfl) (by decide) ?_
      refine lv_iload_n hF.x hF.b dX1_namesWhatThereIs_103 rfl (lv_at hl 1 rfl) ?_
      refine ca_S hF (c1_isGauge l v1) wv_X1_63 ⟨rfl, nd_X1.1, nd_X1.2, pd_X1_isGauge⟩ ⟨rfl, rfl⟩ ⟨Nat.le_of_ble_eq_true rfl, Nat.le_of_ble_eq_true rfl⟩ ⟨Nat.zero_le _, Nat.zero_le _⟩ hl.1 rfl (by first | exact Nat.le_of_ble_eq_true rfl | simp [cat_rf, Value.category]) dX1_namesWhatThereIs_104 (fun r8 er8 => ?_)
      replace hok := hok r8 er8
      exact rt_S hF (by rw [er8]; apply zf1_isGauge) hok dX1_namesWhatThereIs_107
    · replace hok := hok.2.2.2.2.2.2.1 ex
      refine lv_tableIn (off := 75) (tgt := 76) hF.x hF.b dX1_namesWhatThereIs_1 (by rw [ex]; decide) (by rw [ex]; decide) (by rw [ex]; rfl) (by decide) ?_
      refine lv_iconst (v := 1) hF.x hF.b dX1_namesWhatThereIs_76 (by decide) ?_
      exact rt_S hF (Or.inr rfl) hok dX1_namesWhatThereIs_77
    · replace hok := hok.2.2.2.2.2.2.2.1 ex
      refine lv_tableIn (off := 77) (tgt := 78) hF.x hF.b dX1_namesWhatThereIs_1 (by rw [ex]; decide) (by rw [ex]; decide) (by rw [ex]; rfl) (by decide) ?_
      refine lv_iload_n hF.x hF.b dX1_namesWhatThereIs_78 rfl (lv_at hl 1 rfl) ?_
      refine ca_S hF (c1_isBasin l v1) wv_X1_134 ⟨rfl, nd_X1.1, nd_X1.2, pd_X1_isBasin⟩ ⟨rfl, rfl⟩ ⟨Nat.le_of_ble_eq_true rfl, Nat.le_of_ble_eq_true rfl⟩ ⟨Nat.zero_le _, Nat.zero_le _⟩ hl.1 rfl (by first | exact Nat.le_of_ble_eq_true rfl | simp [cat_rf, Value.category]) dX1_namesWhatThereIs_79 (fun r9 er9 => ?_)
      replace hok := hok r9 er9
      exact rt_S hF (by rw [er9]; apply zf1_isBasin) hok dX1_namesWhatThereIs_82
    · replace hok := hok.2.2.2.2.2.2.2.2.1 ex
      refine lv_tableIn (off := 107) (tgt := 108) hF.x hF.b dX1_namesWhatThereIs_1 (by rw [ex]; decide) (by rw [ex]; decide) (by rw [ex]; rfl) (by decide) ?_
      exact k_X1_namesWhatThereIs_108  hF  v0 v1 v2 v3 (lv_sub hl [0, 1, 2, 3] rfl) hok
    · replace hok := hok.2.2.2.2.2.2.2.2.2.1 ex
      refine lv_tableIn (off := 127) (tgt := 128) hF.x hF.b dX1_namesWhatThereIs_1 (by rw [ex]; decide) (by rw [ex]; decide) (by rw [ex]; rfl) (by decide) ?_
      refine lv_iload_n hF.x hF.b dX1_namesWhatThereIs_128 rfl (lv_at hl 1 rfl) ?_
      refine ca_S hF (c1_isSlot l v1) wv_X1_75 ⟨rfl, nd_X1.1, nd_X1.2, pd_X1_isSlot⟩ ⟨rfl, rfl⟩ ⟨Nat.le_of_ble_eq_true rfl, Nat.le_of_ble_eq_true rfl⟩ ⟨Nat.zero_le _, Nat.zero_le _⟩ hl.1 rfl (by first | exact Nat.le_of_ble_eq_true rfl | simp [cat_rf, Value.category]) dX1_namesWhatThereIs_129 (fun r10 er10 => ?_)
      replace hok := hok r10 er10
      refine lv_if_eq (tgt := 153) hF.x hF.b dX1_namesWhatThereIs_132 (by decide) (fun c11 => ?_) (fun c11 => ?_)
      · replace hok := hok.1 c11
        refine lv_iconst (v := 0) hF.x hF.b dX1_namesWhatThereIs_153 (by decide) ?_
        exact rt_S hF (Or.inl rfl) hok dX1_namesWhatThereIs_154
      · replace hok := hok.2 c11
        refine lv_iload_n hF.x hF.b dX1_namesWhatThereIs_135 rfl (lv_at hl 2 rfl) ?_
        refine ca_S hF (c1_isSlot l v2) wv_X1_75 ⟨rfl, nd_X1.1, nd_X1.2, pd_X1_isSlot⟩ ⟨rfl, rfl⟩ ⟨Nat.le_of_ble_eq_true rfl, Nat.le_of_ble_eq_true rfl⟩ ⟨Nat.zero_le _, Nat.zero_le _⟩ hl.1 rfl (by first | exact Nat.le_of_ble_eq_true rfl | simp [cat_rf, Value.category]) dX1_namesWhatThereIs_136 (fun r12 er12 => ?_)
        replace hok := hok r12 er12
        refine lv_if_eq (tgt := 153) hF.x hF.b dX1_namesWhatThereIs_139 (by decide) (fun c13 => ?_) (fun c13 => ?_)
        · replace hok := hok.1 c13
          refine lv_iconst (v := 0) hF.x hF.b dX1_namesWhatThereIs_153 (by decide) ?_
          exact rt_S hF (Or.inl rfl) hok dX1_namesWhatThereIs_154
        · replace hok := hok.2 c13
          refine lv_iload_n hF.x hF.b dX1_namesWhatThereIs_142 rfl (lv_at hl 3 rfl) ?_
          refine ca_S hF (c1_isBasin l v3) wv_X1_134 ⟨rfl, nd_X1.1, nd_X1.2, pd_X1_isBasin⟩ ⟨rfl, rfl⟩ ⟨Nat.le_of_ble_eq_true rfl, Nat.le_of_ble_eq_true rfl⟩ ⟨Nat.zero_le _, Nat.zero_le _⟩ hl.1 rfl (by first | exact Nat.le_of_ble_eq_true rfl | simp [cat_rf, Value.category]) dX1_namesWhatThereIs_143 (fun r14 er14 => ?_)
          replace hok := hok r14 er14
          refine lv_if_eq (tgt := 153) hF.x hF.b dX1_namesWhatThereIs_146 (by decide) (fun c15 => ?_) (fun c15 => ?_)
          · replace hok := hok.1 c15
            refine lv_iconst (v := 0) hF.x hF.b dX1_namesWhatThereIs_153 (by decide) ?_
            exact rt_S hF (Or.inl rfl) hok dX1_namesWhatThereIs_154
          · replace hok := hok.2 c15
            refine lv_iconst (v := 1) hF.x hF.b dX1_namesWhatThereIs_149 (by decide) ?_
            refine lv_goto (tgt := 154) hF.x hF.b dX1_namesWhatThereIs_150 (by decide) ?_
            exact rt_S hF (Or.inr rfl) hok dX1_namesWhatThereIs_154
    · replace hok := hok.2.2.2.2.2.2.2.2.2.2.1 ex
      refine lv_tableIn (off := 154) (tgt := 155) hF.x hF.b dX1_namesWhatThereIs_1 (by rw [ex]; decide) (by rw [ex]; decide) (by rw [ex]; rfl) (by decide) ?_
      refine lv_iload_n hF.x hF.b dX1_namesWhatThereIs_155 rfl (lv_at hl 1 rfl) ?_
      refine ca_S hF (c1_isSlot l v1) wv_X1_75 ⟨rfl, nd_X1.1, nd_X1.2, pd_X1_isSlot⟩ ⟨rfl, rfl⟩ ⟨Nat.le_of_ble_eq_true rfl, Nat.le_of_ble_eq_true rfl⟩ ⟨Nat.zero_le _, Nat.zero_le _⟩ hl.1 rfl (by first | exact Nat.le_of_ble_eq_true rfl | simp [cat_rf, Value.category]) dX1_namesWhatThereIs_156 (fun r16 er16 => ?_)
      replace hok := hok r16 er16
      refine lv_if_eq (tgt := 175) hF.x hF.b dX1_namesWhatThereIs_159 (by decide) (fun c17 => ?_) (fun c17 => ?_)
      · replace hok := hok.1 c17
        refine lv_iconst (v := 0) hF.x hF.b dX1_namesWhatThereIs_175 (by decide) ?_
        exact rt_S hF (Or.inl rfl) hok dX1_namesWhatThereIs_176
      · replace hok := hok.2 c17
        refine lv_iload_n hF.x hF.b dX1_namesWhatThereIs_162 rfl (lv_at hl 2 rfl) ?_
        refine lv_if_lt (tgt := 175) hF.x hF.b dX1_namesWhatThereIs_163 (by decide) (fun c18 => ?_) (fun c18 => ?_)
        · replace hok := hok.1 c18
          refine lv_iconst (v := 0) hF.x hF.b dX1_namesWhatThereIs_175 (by decide) ?_
          exact rt_S hF (Or.inl rfl) hok dX1_namesWhatThereIs_176
        · replace hok := hok.2 c18
          refine lv_iload_n hF.x hF.b dX1_namesWhatThereIs_166 rfl (lv_at hl 2 rfl) ?_
          refine lv_iconst (v := 5) hF.x hF.b dX1_namesWhatThereIs_167 (by decide) ?_
          refine lv_icmp_gt (tgt := 175) hF.x hF.b dX1_namesWhatThereIs_168 (by decide) (fun c19 => ?_) (fun c19 => ?_)
          · replace hok := hok.1 c19
            refine lv_iconst (v := 0) hF.x hF.b dX1_namesWhatThereIs_175 (by decide) ?_
            exact rt_S hF (Or.inl rfl) hok dX1_namesWhatThereIs_176
          · replace hok := hok.2 c19
            refine lv_iconst (v := 1) hF.x hF.b dX1_namesWhatThereIs_171 (by decide) ?_
            refine lv_goto (tgt := 176) hF.x hF.b dX1_namesWhatThereIs_172 (by decide) ?_
            exact rt_S hF (Or.inr rfl) hok dX1_namesWhatThereIs_176
    · replace hok := hok.2.2.2.2.2.2.2.2.2.2.2.1 ex
      refine lv_tableIn (off := 107) (tgt := 108) hF.x hF.b dX1_namesWhatThereIs_1 (by rw [ex]; decide) (by rw [ex]; decide) (by rw [ex]; rfl) (by decide) ?_
      exact k_X1_namesWhatThereIs_108  hF  v0 v1 v2 v3 (lv_sub hl [0, 1, 2, 3] rfl) hok
    · replace hok := hok.2.2.2.2.2.2.2.2.2.2.2.2.1 ex
      refine lv_tableIn (off := 176) (tgt := 177) hF.x hF.b dX1_namesWhatThereIs_1 (by rw [ex]; decide) (by rw [ex]; decide) (by rw [ex]; rfl) (by decide) ?_
      refine lv_iload_n hF.x hF.b dX1_namesWhatThereIs_177 rfl (lv_at hl 1 rfl) ?_
      refine ca_S hF (c1_isSlot l v1) wv_X1_75 ⟨rfl, nd_X1.1, nd_X1.2, pd_X1_isSlot⟩ ⟨rfl, rfl⟩ ⟨Nat.le_of_ble_eq_true rfl, Nat.le_of_ble_eq_true rfl⟩ ⟨Nat.zero_le _, Nat.zero_le _⟩ hl.1 rfl (by first | exact Nat.le_of_ble_eq_true rfl | simp [cat_rf, Value.category]) dX1_namesWhatThereIs_178 (fun r20 er20 => ?_)
      replace hok := hok r20 er20
      exact rt_S hF (by rw [er20]; apply zf1_isSlot) hok dX1_namesWhatThereIs_181
    · replace hok := hok.2.2.2.2.2.2.2.2.2.2.2.2.2.1 ex
      refine lv_tableIn (off := 176) (tgt := 177) hF.x hF.b dX1_namesWhatThereIs_1 (by rw [ex]; decide) (by rw [ex]; decide) (by rw [ex]; rfl) (by decide) ?_
      refine lv_iload_n hF.x hF.b dX1_namesWhatThereIs_177 rfl (lv_at hl 1 rfl) ?_
      refine ca_S hF (c1_isSlot l v1) wv_X1_75 ⟨rfl, nd_X1.1, nd_X1.2, pd_X1_isSlot⟩ ⟨rfl, rfl⟩ ⟨Nat.le_of_ble_eq_true rfl, Nat.le_of_ble_eq_true rfl⟩ ⟨Nat.zero_le _, Nat.zero_le _⟩ hl.1 rfl (by first | exact Nat.le_of_ble_eq_true rfl | simp [cat_rf, Value.category]) dX1_namesWhatThereIs_178 (fun r21 er21 => ?_)
      replace hok := hok r21 er21
      exact rt_S hF (by rw [er21]; apply zf1_isSlot) hok dX1_namesWhatThereIs_181
    · replace hok := hok.2.2.2.2.2.2.2.2.2.2.2.2.2.2.1 ex
      refine lv_tableIn (off := 181) (tgt := 182) hF.x hF.b dX1_namesWhatThereIs_1 (by rw [ex]; decide) (by rw [ex]; decide) (by rw [ex]; rfl) (by decide) ?_
      refine lv_iload_n hF.x hF.b dX1_namesWhatThereIs_182 rfl (lv_at hl 1 rfl) ?_
      refine ca_S hF (c1_isLever l v1) wv_X1_95 ⟨rfl, nd_X1.1, nd_X1.2, pd_X1_isLever⟩ ⟨rfl, rfl⟩ ⟨Nat.le_of_ble_eq_true rfl, Nat.le_of_ble_eq_true rfl⟩ ⟨Nat.zero_le _, Nat.zero_le _⟩ hl.1 rfl (by first | exact Nat.le_of_ble_eq_true rfl | simp [cat_rf, Value.category]) dX1_namesWhatThereIs_183 (fun r22 er22 => ?_)
      replace hok := hok r22 er22
      exact rt_S hF (by rw [er22]; apply zf1_isLever) hok dX1_namesWhatThereIs_186
    · replace hok := hok.2.2.2.2.2.2.2.2.2.2.2.2.2.2.2 ex
      refine lv_tableIn (off := 176) (tgt := 177) hF.x hF.b dX1_namesWhatThereIs_1 (by rw [ex]; decide) (by rw [ex]; decide) (by rw [ex]; rfl) (by decide) ?_
      refine lv_iload_n hF.x hF.b dX1_namesWhatThereIs_177 rfl (lv_at hl 1 rfl) ?_
      refine ca_S hF (c1_isSlot l v1) wv_X1_75 ⟨rfl, nd_X1.1, nd_X1.2, pd_X1_isSlot⟩ ⟨rfl, rfl⟩ ⟨Nat.le_of_ble_eq_true rfl, Nat.le_of_ble_eq_true rfl⟩ ⟨Nat.zero_le _, Nat.zero_le _⟩ hl.1 rfl (by first | exact Nat.le_of_ble_eq_true rfl | simp [cat_rf, Value.category]) dX1_namesWhatThereIs_178 (fun r23 er23 => ?_)
      replace hok := hok r23 er23
      exact rt_S hF (by rw [er23]; apply zf1_isSlot) hok dX1_namesWhatThereIs_181

theorem nm_0 (v1 v2 v3 : Int32) : f1_namesWhatThereIs 0 v1 v2 v3 = 1 := by
  unfold f1_namesWhatThereIs
  rw [if_pos (by decide)]
theorem nm_1 (v1 v2 v3 : Int32) : f1_namesWhatThereIs 1 v1 v2 v3 = f1_isBasin v1 := by
  unfold f1_namesWhatThereIs
  rw [if_neg (by decide), if_pos (by decide)]
theorem nm_2 (v1 v2 v3 : Int32) : f1_namesWhatThereIs 2 v1 v2 v3 = f1_isBasin v1 := by
  unfold f1_namesWhatThereIs
  rw [if_neg (by decide), if_pos (by decide)]
theorem nm_3 (v1 v2 v3 : Int32) : f1_namesWhatThereIs 3 v1 v2 v3 = (if f1_isBasin v1 = 0 then 0 else f1_isBasin v2) := by
  unfold f1_namesWhatThereIs
  rw [if_neg (by decide), if_neg (by decide), if_pos (by decide)]
theorem nm_4 (v1 v2 v3 : Int32) : f1_namesWhatThereIs 4 v1 v2 v3 = f1_isGauge v1 := by
  unfold f1_namesWhatThereIs
  rw [if_neg (by decide), if_neg (by decide), if_neg (by decide), if_pos (by decide)]
theorem nm_5 (v1 v2 v3 : Int32) : f1_namesWhatThereIs 5 v1 v2 v3 = 1 := by
  unfold f1_namesWhatThereIs
  rw [if_pos (by decide)]
theorem nm_6 (v1 v2 v3 : Int32) : f1_namesWhatThereIs 6 v1 v2 v3 = f1_isBasin v1 := by
  unfold f1_namesWhatThereIs
  rw [if_neg (by decide), if_pos (by decide)]
theorem nm_7 (v1 v2 v3 : Int32) : f1_namesWhatThereIs 7 v1 v2 v3 = (if f1_isSlot v1 = 0 then 0 else f1_isSlot v2) := by
  unfold f1_namesWhatThereIs
  rw [if_neg (by decide), if_neg (by decide), if_neg (by decide), if_neg (by decide), if_pos (by decide)]
theorem nm_8 (v1 v2 v3 : Int32) : f1_namesWhatThereIs 8 v1 v2 v3 = (if f1_isSlot v1 = 0 then 0 else if f1_isSlot v2 = 0 then 0 else f1_isBasin v3) := by
  unfold f1_namesWhatThereIs
  rw [if_neg (by decide), if_neg (by decide), if_neg (by decide), if_neg (by decide), if_neg (by decide), if_pos (by decide)]
theorem nm_9 (v1 v2 v3 : Int32) : f1_namesWhatThereIs 9 v1 v2 v3 = (if f1_isSlot v1 = 0 then 0 else if v2 < 0 then 0 else if 5 < v2 then 0 else 1) := by
  unfold f1_namesWhatThereIs
  rw [if_neg (by decide), if_neg (by decide), if_neg (by decide), if_neg (by decide), if_neg (by decide), if_neg (by decide), if_pos (by decide)]
theorem nm_10 (v1 v2 v3 : Int32) : f1_namesWhatThereIs 10 v1 v2 v3 = (if f1_isSlot v1 = 0 then 0 else f1_isSlot v2) := by
  unfold f1_namesWhatThereIs
  rw [if_neg (by decide), if_neg (by decide), if_neg (by decide), if_neg (by decide), if_pos (by decide)]
theorem nm_11 (v1 v2 v3 : Int32) : f1_namesWhatThereIs 11 v1 v2 v3 = f1_isSlot v1 := by
  unfold f1_namesWhatThereIs
  rw [if_neg (by decide), if_neg (by decide), if_neg (by decide), if_neg (by decide), if_neg (by decide), if_neg (by decide), if_neg (by decide), if_pos (by decide)]
theorem nm_12 (v1 v2 v3 : Int32) : f1_namesWhatThereIs 12 v1 v2 v3 = f1_isSlot v1 := by
  unfold f1_namesWhatThereIs
  rw [if_neg (by decide), if_neg (by decide), if_neg (by decide), if_neg (by decide), if_neg (by decide), if_neg (by decide), if_neg (by decide), if_pos (by decide)]
theorem nm_13 (v1 v2 v3 : Int32) : f1_namesWhatThereIs 13 v1 v2 v3 = f1_isLever v1 := by
  unfold f1_namesWhatThereIs
  rw [if_neg (by decide), if_neg (by decide), if_neg (by decide), if_neg (by decide), if_neg (by decide), if_neg (by decide), if_neg (by decide), if_neg (by decide), if_pos (by decide)]
theorem nm_14 (v1 v2 v3 : Int32) : f1_namesWhatThereIs 14 v1 v2 v3 = f1_isSlot v1 := by
  unfold f1_namesWhatThereIs
  rw [if_neg (by decide), if_neg (by decide), if_neg (by decide), if_neg (by decide), if_neg (by decide), if_neg (by decide), if_neg (by decide), if_pos (by decide)]
theorem p1_names_108 (v0 v1 v2 v3 : Int32) (post : Int32 → Prop) (h : post (if f1_isSlot v1 = 0 then 0 else f1_isSlot v2)) : wp_X1_namesWhatThereIs_108 v0 v1 v2 v3 post := by
  intro r e; subst e
  refine ⟨fun h1 => by rw [if_pos h1] at h; exact h, fun h1 r2 e2 => ?_⟩
  subst e2
  rw [if_neg h1] at h
  exact ⟨fun h2 => by rw [h2] at h; exact h, fun h2 => by rw [(zf1_isSlot v2).resolve_left h2] at h; exact h⟩
theorem p1_namesWhatThereIs (v0 v1 v2 v3 : Int32) : wp_X1_namesWhatThereIs_0 v0 v1 v2 v3 (fun r => r = f1_namesWhatThereIs v0 v1 v2 v3) := ⟨
  fun h => by
    have h0 : ¬ v0 = 0 := fun e => by rw [e] at h; revert h; decide
    have h1 : ¬ v0 = 1 := fun e => by rw [e] at h; revert h; decide
    have h2 : ¬ v0 = 2 := fun e => by rw [e] at h; revert h; decide
    have h3 : ¬ v0 = 3 := fun e => by rw [e] at h; revert h; decide
    have h4 : ¬ v0 = 4 := fun e => by rw [e] at h; revert h; decide
    have h5 : ¬ v0 = 5 := fun e => by rw [e] at h; revert h; decide
    have h6 : ¬ v0 = 6 := fun e => by rw [e] at h; revert h; decide
    have h7 : ¬ v0 = 7 := fun e => by rw [e] at h; revert h; decide
    have h8 : ¬ v0 = 8 := fun e => by rw [e] at h; revert h; decide
    have h9 : ¬ v0 = 9 := fun e => by rw [e] at h; revert h; decide
    have h10 : ¬ v0 = 10 := fun e => by rw [e] at h; revert h; decide
    have h11 : ¬ v0 = 11 := fun e => by rw [e] at h; revert h; decide
    have h12 : ¬ v0 = 12 := fun e => by rw [e] at h; revert h; decide
    have h13 : ¬ v0 = 13 := fun e => by rw [e] at h; revert h; decide
    have h14 : ¬ v0 = 14 := fun e => by rw [e] at h; revert h; decide
    simp [f1_namesWhatThereIs, h0, h1, h2, h3, h4, h5, h6, h7, h8, h9, h10, h11, h12, h13, h14],
  fun h => by subst h; exact (nm_0 _ _ _).symm,
  fun h => by subst h; exact fun r e => by rw [nm_1]; exact e,
  fun h => by subst h; exact fun r e => by rw [nm_2]; exact e,
  fun h => by subst h; exact fun r e => ⟨fun h1 => by subst e; rw [nm_3, if_pos h1], fun h1 r2 e2 => ⟨fun h2 => by subst e; subst e2; rw [nm_3, if_neg h1, h2], fun h2 => by subst e; subst e2; rw [nm_3, if_neg h1]; exact ((zf1_isBasin v2).resolve_left h2).symm⟩⟩,
  fun h => by subst h; exact fun r e => by rw [nm_4]; exact e,
  fun h => by subst h; exact (nm_5 _ _ _).symm,
  fun h => by subst h; exact fun r e => by rw [nm_6]; exact e,
  fun h => by subst h; exact p1_names_108 7 v1 v2 v3 (fun r => r = f1_namesWhatThereIs 7 v1 v2 v3) (nm_7 _ _ _).symm,
  fun h => by
    subst h
    have e0 := nm_8 v1 v2 v3
    intro r e; subst e
    refine ⟨fun h1 => by rw [e0, if_pos h1], fun h1 r2 e2 => ?_⟩
    subst e2
    refine ⟨fun h2 => by rw [e0, if_neg h1, if_pos h2], fun h2 r3 e3 => ?_⟩
    subst e3
    exact ⟨fun h3 => by rw [e0, if_neg h1, if_neg h2, h3], fun h3 => by rw [e0, if_neg h1, if_neg h2]; exact ((zf1_isBasin v3).resolve_left h3).symm⟩,
  fun h => by
    subst h
    have e0 := nm_9 v1 v2 v3
    intro r e; subst e
    refine ⟨fun h1 => by rw [e0, if_pos h1], fun h1 => ⟨fun h2 => by rw [e0, if_neg h1, if_pos h2], fun h2 => ⟨fun h3 => by rw [e0, if_neg h1, if_neg h2, if_pos h3], fun h3 => by rw [e0, if_neg h1, if_neg h2, if_neg h3]⟩⟩⟩,
  fun h => by subst h; exact p1_names_108 10 v1 v2 v3 (fun r => r = f1_namesWhatThereIs 10 v1 v2 v3) (nm_10 _ _ _).symm,
  fun h => by subst h; exact fun r e => by rw [nm_11]; exact e,
  fun h => by subst h; exact fun r e => by rw [nm_12]; exact e,
  fun h => by subst h; exact fun r e => by rw [nm_13]; exact e,
  fun h => by subst h; exact fun r e => by rw [nm_14]; exact e⟩

theorem c1_namesWhatThereIs (l : Launch) (v0 : Int32) (v1 : Int32) (v2 : Int32) (v3 : Int32) : ctS l yX1_namesWhatThereIs cX1_namesWhatThereIs 4 .boolean (rr 1 20) [.int v0, .int v1, .int v2, .int v3] (fun r => r = f1_namesWhatThereIs v0 v1 v2 v3) := by
  refine en_S (by decide +kernel) (Nat.le_of_ble_eq_true rfl) (fun p e s m below meth c ls hF hl => ?_)
  exact k_X1_namesWhatThereIs_0 hF v0 v1 v2 v3 hl (p1_namesWhatThereIs v0 v1 v2 v3)

def wp_X1_hasMark_0 (σ : SX) (g0 : Option Nat) (v1 : Int32)  (post : Int32 → SX → Prop) : Prop :=
  (g0 = none → post 0 σ) ∧ (∀ d1 : Nat, g0 = some d1 → (v1 < 0 → post 0 σ) ∧ (¬ v1 < 0 → d1 < σ.2.2.2.2.1 ∧ ((nI (σ.2.2.2.2.2 d1).1) ≤ v1 → post 0 σ) ∧ (¬ (nI (σ.2.2.2.2.2 d1).1) ≤ v1 → post 1 σ)))
set_option maxHeartbeats 4000000 in
set_option maxRecDepth 100000 in
theorem k_X1_hasMark_0 {l : Launch} {p : Program} {e : Env} {s : State} {m : MethodId} {below : List Frame} {meth : Method} {c : Code} {args : Array Value} {A : Nat → Prop} {G : Gm} {a : AX}  (hF : fx p s m args meth c cX1_hasMark 2 yX1_hasMark.cls kX1_hasMark (some (.boolean))) {post : Int32 → SX → Prop}  (σ : SX) (g0 : Option Nat) (v1 : Int32) {H : Heap} {locs : List Loc} {ls : Array Slot} (hw : wb G A s (wX G a σ) H locs) (hl : lv_has ls 2 [(0, va_rf (Option.map a.2.2 g0)), (1, .int v1)]) (hok : wp_X1_hasMark_0 σ g0 v1  post) :
    W p l e (rr 0 0) s m args below meth c H locs 0 0 (MQ below (va_Qi post (po G A (wX G a)) A) args s 0 0 A) (F0 m 0 ls []) := by
  unfold wp_X1_hasMark_0 at hok
  refine lq_aload_n hF dX1_hasMark_0 rfl (lv_at hl 0 rfl) ?_
  refine lm_ifnull (o := g0) (tgt := 18) hF dX1_hasMark_1 (by decide) (fun ed1 => ?_) (fun d1 ed1 => ?_)
  · replace hok := hok.1 ed1
    subst ed1
    have hl : lv_has ls 2 [(0, .null), (1, .int v1)] := hl
    refine lv_iconst (v := 0) hF.x hF.b dX1_hasMark_18 (by decide) ?_
    exact rt_Z (u := σ) hF (Or.inl rfl) hw hok (Nat.zero_le _) (Nat.zero_le _) dX1_hasMark_19
  · replace hok := hok.2 d1 ed1
    subst ed1
    have hl : lv_has ls 2 [(0, .ref (a.2.2 d1)), (1, .int v1)] := hl
    refine lv_iload_n hF.x hF.b dX1_hasMark_4 rfl (lv_at hl 1 rfl) ?_
    refine lv_if_lt (tgt := 18) hF.x hF.b dX1_hasMark_5 (by decide) (fun c2 => ?_) (fun c2 => ?_)
    · replace hok := hok.1 c2
      refine lv_iconst (v := 0) hF.x hF.b dX1_hasMark_18 (by decide) ?_
      exact rt_Z (u := σ) hF (Or.inl rfl) hw hok (Nat.zero_le _) (Nat.zero_le _) dX1_hasMark_19
    · replace hok := hok.2 c2
      refine lv_iload_n hF.x hF.b dX1_hasMark_8 rfl (lv_at hl 1 rfl) ?_
      refine lv_aload_n hF.x hF.b dX1_hasMark_9 rfl (lv_at hl 0 rfl) ?_
      refine rx_rlen hF hw hok.1 dX1_hasMark_10 ?_
      replace hok := hok.2
      refine lv_icmp_ge (tgt := 18) hF.x hF.b dX1_hasMark_11 (by decide) (fun c3 => ?_) (fun c3 => ?_)
      · replace hok := hok.1 c3
        refine lv_iconst (v := 0) hF.x hF.b dX1_hasMark_18 (by decide) ?_
        exact rt_Z (u := σ) hF (Or.inl rfl) hw hok (Nat.zero_le _) (Nat.zero_le _) dX1_hasMark_19
      · replace hok := hok.2 c3
        refine lv_iconst (v := 1) hF.x hF.b dX1_hasMark_14 (by decide) ?_
        refine lv_goto (tgt := 19) hF.x hF.b dX1_hasMark_15 (by decide) ?_
        exact rt_Z (u := σ) hF (Or.inr rfl) hw hok (Nat.zero_le _) (Nat.zero_le _) dX1_hasMark_19

theorem p1_hasMark (σ : SX) (g0 : Option Nat) (v1 : Int32) (h : q1_hasMark σ g0 v1) : wp_X1_hasMark_0 σ g0 v1 (fun r u => r = (f1_hasMark σ g0 v1).1 ∧ u = (f1_hasMark σ g0 v1).2) := by
  refine ⟨fun e => ?_, fun d e => ⟨fun h1 => ?_, fun h1 => ⟨h d e, fun h2 => ?_, fun h2 => ?_⟩⟩⟩ <;> subst e
  · exact ⟨rfl, rfl⟩
  · exact ⟨by simp only [f1_hasMark]; rw [if_pos h1], rfl⟩
  · exact ⟨by simp only [f1_hasMark]; rw [if_neg h1, if_pos h2], rfl⟩
  · exact ⟨by simp only [f1_hasMark]; rw [if_neg h1, if_neg h2], rfl⟩

theorem c1_hasMark (l : Launch) (G : Gm) (a : AX) (σ : SX) (g0 : Option Nat) (v1 : Int32) (h : q1_hasMark σ g0 v1) : ctI l yX1_hasMark cX1_hasMark 2 .boolean (rr 0 0) G [va_rf (Option.map a.2.2 g0), .int v1] (wX G a σ) (fun (r : Int32) (u : SX) => r = (f1_hasMark σ g0 v1).1 ∧ u = (f1_hasMark σ g0 v1).2) (wX G a) := by
  cases g0 with
  | none =>
    refine en_I (by decide +kernel) (Nat.le_of_ble_eq_true rfl) (fun p e s m below meth c A ls hF hw hl => ?_)
    exact k_X1_hasMark_0 hF σ none v1 hw hl (p1_hasMark σ none v1 h)
  | some z1 =>
    refine en_I (by decide +kernel) (Nat.le_of_ble_eq_true rfl) (fun p e s m below meth c A ls hF hw hl => ?_)
    exact k_X1_hasMark_0 hF σ (some z1) v1 hw hl (p1_hasMark σ (some z1) v1 h)

def wp_X1_heldBy_0 (σ : SX) (v1 : Int32)  (post : Int32 → SX → Prop) : Prop :=
  ∀ r1 : Int32, r1 = f1_isBasin v1 → (r1 = 0 → post 0 σ) ∧ (¬ r1 = 0 → vp_in v1 10 ∧ post (σ.2.1 0 v1.toNatClampNeg) σ)
set_option maxHeartbeats 4000000 in
set_option maxRecDepth 100000 in
theorem k_X1_heldBy_0 {l : Launch} {p : Program} {e : Env} {s : State} {m : MethodId} {below : List Frame} {meth : Method} {c : Code} {args : Array Value} {A : Nat → Prop} {G : Gm} {a : AX}  (hF : fx p s m args meth c cX1_heldBy 2 yX1_heldBy.cls kX1_heldBy (some (.int))) {post : Int32 → SX → Prop}  (σ : SX) (v1 : Int32) {H : Heap} {locs : List Loc} {ls : Array Slot} (hw : wb G A s (wX G a σ) H locs) (hl : lv_has ls 2 [(0, .ref (a.1 13)), (1, .int v1)]) (hok : wp_X1_heldBy_0 σ v1  post) :
    W p l e (rr 1 20) s m args below meth c H locs 0 0 (MQ below (va_Qi post (po G A (wX G a)) A) args s 0 0 A) (F0 m 0 ls []) := by
  unfold wp_X1_heldBy_0 at hok
  refine lv_iload_n hF.x hF.b dX1_heldBy_0 rfl (lv_at hl 1 rfl) ?_
  refine ca_S hF (c1_isBasin l v1) wv_X1_134 ⟨rfl, nd_X1.1, nd_X1.2, pd_X1_isBasin⟩ ⟨rfl, rfl⟩ ⟨Nat.le_of_ble_eq_true rfl, Nat.le_of_ble_eq_true rfl⟩ ⟨Nat.zero_le _, Nat.zero_le _⟩ hl.1 rfl (by first | exact Nat.le_of_ble_eq_true rfl | simp [cat_rf, Value.category]) dX1_heldBy_1 (fun r1 er1 => ?_)
  replace hok := hok r1 er1
  refine lv_if_eq (tgt := 16) hF.x hF.b dX1_heldBy_4 (by decide) (fun c2 => ?_) (fun c2 => ?_)
  · replace hok := hok.1 c2
    refine lv_iconst (v := 0) hF.x hF.b dX1_heldBy_16 (by decide) ?_
    exact rt_I (u := σ) hF hw hok (Nat.zero_le _) (Nat.zero_le _) dX1_heldBy_17
  · replace hok := hok.2 c2
    refine lv_aload_n hF.x hF.b dX1_heldBy_7 rfl (lv_at hl 0 rfl) ?_
    refine r_get hF hw 0 rfl rfl inlX1 0 (by decide) wf_X1_9 rfl dX1_heldBy_8 ?_
    refine lv_iload_n hF.x hF.b dX1_heldBy_11 rfl (lv_at hl 1 rfl) ?_
    refine rx_iald 0 10 hF hw (by decide) hok.1 dX1_heldBy_12 ?_
    replace hok := hok.2
    refine lv_goto (tgt := 17) hF.x hF.b dX1_heldBy_13 (by decide) ?_
    exact rt_I (u := σ) hF hw hok (Nat.zero_le _) (Nat.zero_le _) dX1_heldBy_17

theorem p1_heldBy (σ : SX) (v1 : Int32) (_ : q1_heldBy σ v1) : wp_X1_heldBy_0 σ v1 (fun r u => r = (f1_heldBy σ v1).1 ∧ u = (f1_heldBy σ v1).2) := by
  intro r e; subst e
  exact ⟨fun h => ⟨by simp only [f1_heldBy]; rw [if_pos h], rfl⟩, fun h => ⟨in_B h, by simp only [f1_heldBy]; rw [if_neg h], rfl⟩⟩

theorem c1_heldBy (l : Launch) (G : Gm) (a : AX) (σ : SX) (v1 : Int32) (h : q1_heldBy σ v1) : ctI l yX1_heldBy cX1_heldBy 2 .int (rr 1 20) G [.ref (a.1 13), .int v1] (wX G a σ) (fun (r : Int32) (u : SX) => r = (f1_heldBy σ v1).1 ∧ u = (f1_heldBy σ v1).2) (wX G a) := by
  refine en_I (by decide +kernel) (Nat.le_of_ble_eq_true rfl) (fun p e s m below meth c A ls hF hw hl => ?_)
  exact k_X1_heldBy_0 hF σ v1 hw hl (p1_heldBy σ v1 h)

def wp_X1_pour_0 (σ : SX) (v1 : Int32) (v2 : Int32)  (post : SX → Prop) : Prop :=
  ∀ r1 : Int32, r1 = f1_isBasin v1 → (r1 = 0 → post σ) ∧ (¬ r1 = 0 → vp_in v1 10 ∧ ∀ σ3 : SX, σ3 = (σ.1, va_up σ.2.1 0 (upd (σ.2.1 0) v1.toNatClampNeg v2), σ.2.2) → post σ3)
set_option maxHeartbeats 4000000 in
set_option maxRecDepth 100000 in
theorem k_X1_pour_0 {l : Launch} {p : Program} {e : Env} {s : State} {m : MethodId} {below : List Frame} {meth : Method} {c : Code} {args : Array Value} {A : Nat → Prop} {G : Gm} {a : AX}  (hF : fx p s m args meth c cX1_pour 3 yX1_pour.cls kX1_pour none) {post : SX → Prop}  (σ : SX) (v1 : Int32) (v2 : Int32) {H : Heap} {locs : List Loc} {ls : Array Slot} (hw : wb G A s (wX G a σ) H locs) (hl : lv_has ls 3 [(0, .ref (a.1 13)), (1, .int v1), (2, .int v2)]) (hok : wp_X1_pour_0 σ v1 v2  post) :
    W p l e (rr 1 20) s m args below meth c H locs 0 0 (MQ below (va_Qv post (po G A (wX G a)) A) args s 0 0 A) (F0 m 0 ls []) := by
  unfold wp_X1_pour_0 at hok
  refine lv_iload_n hF.x hF.b dX1_pour_0 rfl (lv_at hl 1 rfl) ?_
  refine ca_S hF (c1_isBasin l v1) wv_X1_134 ⟨rfl, nd_X1.1, nd_X1.2, pd_X1_isBasin⟩ ⟨rfl, rfl⟩ ⟨Nat.le_of_ble_eq_true rfl, Nat.le_of_ble_eq_true rfl⟩ ⟨Nat.zero_le _, Nat.zero_le _⟩ hl.1 rfl (by first | exact Nat.le_of_ble_eq_true rfl | simp [cat_rf, Value.category]) dX1_pour_1 (fun r1 er1 => ?_)
  replace hok := hok r1 er1
  refine lv_if_eq (tgt := 14) hF.x hF.b dX1_pour_4 (by decide) (fun c2 => ?_) (fun c2 => ?_)
  · replace hok := hok.1 c2
    exact rt_V (u := σ) hF hw hok (Nat.zero_le _) (Nat.zero_le _) dX1_pour_14
  · replace hok := hok.2 c2
    refine lv_aload_n hF.x hF.b dX1_pour_7 rfl (lv_at hl 0 rfl) ?_
    refine r_get hF hw 0 rfl rfl inlX1 0 (by decide) wf_X1_9 rfl dX1_pour_8 ?_
    refine lv_iload_n hF.x hF.b dX1_pour_11 rfl (lv_at hl 1 rfl) ?_
    refine lv_iload_n hF.x hF.b dX1_pour_12 rfl (lv_at hl 2 rfl) ?_
    refine rx_iast 0 10 hF hw (by decide) hok.1 dX1_pour_13 (fun σ3 H locs eσ3 hw => ?_)
    replace hok := hok.2 σ3 eσ3
    exact rt_V (u := σ3) hF hw hok (Nat.zero_le _) (Nat.zero_le _) dX1_pour_14

theorem p1_pour (σ : SX) (v1 v2 : Int32) (_ : q1_pour σ v1 v2) : wp_X1_pour_0 σ v1 v2 (fun u => u = f1_pour σ v1 v2) := by
  intro r e; subst e
  exact ⟨fun h => by simp only [f1_pour]; rw [if_pos h], fun h => ⟨in_B h, fun σ3 e3 => by subst e3; simp only [f1_pour]; rw [if_neg h]⟩⟩

theorem c1_pour (l : Launch) (G : Gm) (a : AX) (σ : SX) (v1 : Int32) (v2 : Int32) (h : q1_pour σ v1 v2) : ctV l yX1_pour cX1_pour 3 (rr 1 20) G [.ref (a.1 13), .int v1, .int v2] (wX G a σ) (fun (u : SX) => u = f1_pour σ v1 v2) (wX G a) := by
  refine en_V (by decide +kernel) (Nat.le_of_ble_eq_true rfl) (fun p e s m below meth c A ls hF hn hw hl => ?_)
  exact k_X1_pour_0 hF σ v1 v2 hw hl (p1_pour σ v1 v2 h)

def wp_X1_gaugeNow_0 (σ : SX) (v1 : Int32)  (post : Option Nat → SX → Prop) : Prop :=
  ∀ r1 : Int32, r1 = f1_isGauge v1 → (r1 = 0 → post none σ) ∧ (¬ r1 = 0 → vp_in v1 3 ∧ ∀ o3 : Option Nat, o3 = σ.2.2.1 1 v1.toNatClampNeg → post o3 σ)
set_option maxHeartbeats 4000000 in
set_option maxRecDepth 100000 in
theorem k_X1_gaugeNow_0 {l : Launch} {p : Program} {e : Env} {s : State} {m : MethodId} {below : List Frame} {meth : Method} {c : Code} {args : Array Value} {A : Nat → Prop} {G : Gm} {a : AX}  (hF : fx p s m args meth c cX1_gaugeNow 2 yX1_gaugeNow.cls kX1_gaugeNow (some (.array .int))) {post : Option Nat → SX → Prop}  (σ : SX) (v1 : Int32) {H : Heap} {locs : List Loc} {ls : Array Slot} (hw : wb G A s (wX G a σ) H locs) (hl : lv_has ls 2 [(0, .ref (a.1 13)), (1, .int v1)]) (hok : wp_X1_gaugeNow_0 σ v1  post) :
    W p l e (rr 1 20) s m args below meth c H locs 0 0 (MQ below (va_Qq (fun r u => ∃ o, r = Option.map a.2.2 o ∧ post o u) (po G A (wX G a)) A) args s 0 0 A) (F0 m 0 ls []) := by
  unfold wp_X1_gaugeNow_0 at hok
  refine lv_iload_n hF.x hF.b dX1_gaugeNow_0 rfl (lv_at hl 1 rfl) ?_
  refine ca_S hF (c1_isGauge l v1) wv_X1_63 ⟨rfl, nd_X1.1, nd_X1.2, pd_X1_isGauge⟩ ⟨rfl, rfl⟩ ⟨Nat.le_of_ble_eq_true rfl, Nat.le_of_ble_eq_true rfl⟩ ⟨Nat.zero_le _, Nat.zero_le _⟩ hl.1 rfl (by first | exact Nat.le_of_ble_eq_true rfl | simp [cat_rf, Value.category]) dX1_gaugeNow_1 (fun r1 er1 => ?_)
  replace hok := hok r1 er1
  refine lv_if_eq (tgt := 16) hF.x hF.b dX1_gaugeNow_4 (by decide) (fun c2 => ?_) (fun c2 => ?_)
  · replace hok := hok.1 c2
    refine lv_null hF.x hF.b dX1_gaugeNow_16 ?_
    exact rt_Q (r := Option.map a.2.2 none) (u := σ) hF (Or.inr ⟨_, rfl⟩) hw ⟨none, rfl, hok⟩ (Nat.zero_le _) (Nat.zero_le _) dX1_gaugeNow_17
  · replace hok := hok.2 c2
    refine lv_aload_n hF.x hF.b dX1_gaugeNow_7 rfl (lv_at hl 0 rfl) ?_
    refine r_get hF hw 0 rfl rfl inlX1 1 (by decide) wf_X1_14 rfl dX1_gaugeNow_8 ?_
    refine lv_iload_n hF.x hF.b dX1_gaugeNow_11 rfl (lv_at hl 1 rfl) ?_
    refine rx_gald hF hw hok.1 dX1_gaugeNow_12 (fun o3 eo3 => ?_)
    replace hok := hok.2 o3 eo3
    refine lv_goto (tgt := 17) hF.x hF.b dX1_gaugeNow_13 (by decide) ?_
    exact rt_Q (r := Option.map a.2.2 o3) (u := σ) hF (Or.inr ⟨_, rfl⟩) hw ⟨o3, rfl, hok⟩ (Nat.zero_le _) (Nat.zero_le _) dX1_gaugeNow_17

theorem p1_gaugeNow (σ : SX) (v1 : Int32) (_ : q1_gaugeNow σ v1) : wp_X1_gaugeNow_0 σ v1 (fun o u => o = (f1_gaugeNow σ v1).1 ∧ u = (f1_gaugeNow σ v1).2) := by
  intro r e; subst e
  exact ⟨fun h => ⟨by simp only [f1_gaugeNow]; rw [if_pos h], rfl⟩, fun h => ⟨in_G h, fun o eo => ⟨by rw [eo]; simp only [f1_gaugeNow]; rw [if_neg h], rfl⟩⟩⟩

theorem c1_gaugeNow (l : Launch) (G : Gm) (a : AX) (σ : SX) (v1 : Int32) (h : q1_gaugeNow σ v1) : ctQ l yX1_gaugeNow cX1_gaugeNow 2 (.array .int) (rr 1 20) G [.ref (a.1 13), .int v1] (wX G a σ) (fun (r : Option Nat) (u : SX) => ∃ o, r = Option.map a.2.2 o ∧ (o = (f1_gaugeNow σ v1).1 ∧ u = (f1_gaugeNow σ v1).2)) (wX G a) := by
  refine en_Q (by decide +kernel) (Nat.le_of_ble_eq_true rfl) (fun p e s m below meth c A ls hF hw hl => ?_)
  exact k_X1_gaugeNow_0 (post := fun o u => o = (f1_gaugeNow σ v1).1 ∧ u = (f1_gaugeNow σ v1).2) hF σ v1 hw hl (p1_gaugeNow σ v1 h)

def wp_X1_inSlot_0 (σ : SX) (v1 : Int32)  (post : Option Nat → SX → Prop) : Prop :=
  ∀ r1 : Int32, r1 = f1_isSlot v1 → (r1 = 0 → post none σ) ∧ (¬ r1 = 0 → vp_in v1 20 ∧ ∀ o3 : Option Nat, o3 = σ.2.2.1 2 v1.toNatClampNeg → post o3 σ)
set_option maxHeartbeats 4000000 in
set_option maxRecDepth 100000 in
theorem k_X1_inSlot_0 {l : Launch} {p : Program} {e : Env} {s : State} {m : MethodId} {below : List Frame} {meth : Method} {c : Code} {args : Array Value} {A : Nat → Prop} {G : Gm} {a : AX}  (hF : fx p s m args meth c cX1_inSlot 2 yX1_inSlot.cls kX1_inSlot (some (.object "LeverHall$Deed"))) {post : Option Nat → SX → Prop}  (σ : SX) (v1 : Int32) {H : Heap} {locs : List Loc} {ls : Array Slot} (hw : wb G A s (wX G a σ) H locs) (hl : lv_has ls 2 [(0, .ref (a.1 13)), (1, .int v1)]) (hok : wp_X1_inSlot_0 σ v1  post) :
    W p l e (rr 1 20) s m args below meth c H locs 0 0 (MQ below (va_Qq (fun r u => ∃ o, r = Option.map a.2.1 o ∧ post o u) (po G A (wX G a)) A) args s 0 0 A) (F0 m 0 ls []) := by
  unfold wp_X1_inSlot_0 at hok
  refine lv_iload_n hF.x hF.b dX1_inSlot_0 rfl (lv_at hl 1 rfl) ?_
  refine ca_S hF (c1_isSlot l v1) wv_X1_75 ⟨rfl, nd_X1.1, nd_X1.2, pd_X1_isSlot⟩ ⟨rfl, rfl⟩ ⟨Nat.le_of_ble_eq_true rfl, Nat.le_of_ble_eq_true rfl⟩ ⟨Nat.zero_le _, Nat.zero_le _⟩ hl.1 rfl (by first | exact Nat.le_of_ble_eq_true rfl | simp [cat_rf, Value.category]) dX1_inSlot_1 (fun r1 er1 => ?_)
  replace hok := hok r1 er1
  refine lv_if_eq (tgt := 16) hF.x hF.b dX1_inSlot_4 (by decide) (fun c2 => ?_) (fun c2 => ?_)
  · replace hok := hok.1 c2
    refine lv_null hF.x hF.b dX1_inSlot_16 ?_
    exact rt_Q (r := Option.map a.2.1 none) (u := σ) hF (Or.inl ⟨_, rfl⟩) hw ⟨none, rfl, hok⟩ (Nat.zero_le _) (Nat.zero_le _) dX1_inSlot_17
  · replace hok := hok.2 c2
    refine lv_aload_n hF.x hF.b dX1_inSlot_7 rfl (lv_at hl 0 rfl) ?_
    refine r_get hF hw 0 rfl rfl inlX1 2 (by decide) wf_X1_20 rfl dX1_inSlot_8 ?_
    refine lv_iload_n hF.x hF.b dX1_inSlot_11 rfl (lv_at hl 1 rfl) ?_
    refine rx_aald 2 20 hF hw (by decide) hok.1 dX1_inSlot_12 (fun o3 eo3 => ?_)
    replace hok := hok.2 o3 eo3
    refine lv_goto (tgt := 17) hF.x hF.b dX1_inSlot_13 (by decide) ?_
    exact rt_Q (r := Option.map a.2.1 o3) (u := σ) hF (Or.inl ⟨_, rfl⟩) hw ⟨o3, rfl, hok⟩ (Nat.zero_le _) (Nat.zero_le _) dX1_inSlot_17

theorem p1_inSlot (σ : SX) (v1 : Int32) (_ : q1_inSlot σ v1) : wp_X1_inSlot_0 σ v1 (fun o u => o = (f1_inSlot σ v1).1 ∧ u = (f1_inSlot σ v1).2) := by
  intro r e; subst e
  exact ⟨fun h => ⟨by simp only [f1_inSlot]; rw [if_pos h], rfl⟩, fun h => ⟨in_S h, fun o eo => ⟨by rw [eo]; simp only [f1_inSlot]; rw [if_neg h], rfl⟩⟩⟩

theorem c1_inSlot (l : Launch) (G : Gm) (a : AX) (σ : SX) (v1 : Int32) (h : q1_inSlot σ v1) : ctQ l yX1_inSlot cX1_inSlot 2 (.object "LeverHall$Deed") (rr 1 20) G [.ref (a.1 13), .int v1] (wX G a σ) (fun (r : Option Nat) (u : SX) => ∃ o, r = Option.map a.2.1 o ∧ (o = (f1_inSlot σ v1).1 ∧ u = (f1_inSlot σ v1).2)) (wX G a) := by
  refine en_Q (by decide +kernel) (Nat.le_of_ble_eq_true rfl) (fun p e s m below meth c A ls hF hw hl => ?_)
  exact k_X1_inSlot_0 (post := fun o u => o = (f1_inSlot σ v1).1 ∧ u = (f1_inSlot σ v1).2) hF σ v1 hw hl (p1_inSlot σ v1 h)

def wp_X1_atPlace_0 (σ : SX) (v1 : Int32) (v2 : Int32)  (post : Option Nat → SX → Prop) : Prop :=
  ∀ r1 : Int32, r1 = f1_isLever v1 → (r1 = 0 → post none σ) ∧ (¬ r1 = 0 → (v2 < 0 → post none σ) ∧ (¬ v2 < 0 → (4 ≤ v2 → post none σ) ∧ (¬ 4 ≤ v2 → ∀ x5 : Int32, x5 = v1 * 4 → ∀ x6 : Int32, x6 = x5 + v2 → vp_in x6 20 ∧ ∀ o7 : Option Nat, o7 = σ.2.2.1 3 x6.toNatClampNeg → post o7 σ)))
set_option maxHeartbeats 4000000 in
set_option maxRecDepth 100000 in
theorem k_X1_atPlace_0 {l : Launch} {p : Program} {e : Env} {s : State} {m : MethodId} {below : List Frame} {meth : Method} {c : Code} {args : Array Value} {A : Nat → Prop} {G : Gm} {a : AX}  (hF : fx p s m args meth c cX1_atPlace 3 yX1_atPlace.cls kX1_atPlace (some (.object "LeverHall$Deed"))) {post : Option Nat → SX → Prop}  (σ : SX) (v1 : Int32) (v2 : Int32) {H : Heap} {locs : List Loc} {ls : Array Slot} (hw : wb G A s (wX G a σ) H locs) (hl : lv_has ls 3 [(0, .ref (a.1 13)), (1, .int v1), (2, .int v2)]) (hok : wp_X1_atPlace_0 σ v1 v2  post) :
    W p l e (rr 1 20) s m args below meth c H locs 0 0 (MQ below (va_Qq (fun r u => ∃ o, r = Option.map a.2.1 o ∧ post o u) (po G A (wX G a)) A) args s 0 0 A) (F0 m 0 ls []) := by
  unfold wp_X1_atPlace_0 at hok
  refine lv_iload_n hF.x hF.b dX1_atPlace_0 rfl (lv_at hl 1 rfl) ?_
  refine ca_S hF (c1_isLever l v1) wv_X1_95 ⟨rfl, nd_X1.1, nd_X1.2, pd_X1_isLever⟩ ⟨rfl, rfl⟩ ⟨Nat.le_of_ble_eq_true rfl, Nat.le_of_ble_eq_true rfl⟩ ⟨Nat.zero_le _, Nat.zero_le _⟩ hl.1 rfl (by first | exact Nat.le_of_ble_eq_true rfl | simp [cat_rf, Value.category]) dX1_atPlace_1 (fun r1 er1 => ?_)
  replace hok := hok r1 er1
  refine lv_if_eq (tgt := 29) hF.x hF.b dX1_atPlace_4 (by decide) (fun c2 => ?_) (fun c2 => ?_)
  · replace hok := hok.1 c2
    refine lv_null hF.x hF.b dX1_atPlace_29 ?_
    exact rt_Q (r := Option.map a.2.1 none) (u := σ) hF (Or.inl ⟨_, rfl⟩) hw ⟨none, rfl, hok⟩ (Nat.zero_le _) (Nat.zero_le _) dX1_atPlace_30
  · replace hok := hok.2 c2
    refine lv_iload_n hF.x hF.b dX1_atPlace_7 rfl (lv_at hl 2 rfl) ?_
    refine lv_if_lt (tgt := 29) hF.x hF.b dX1_atPlace_8 (by decide) (fun c3 => ?_) (fun c3 => ?_)
    · replace hok := hok.1 c3
      refine lv_null hF.x hF.b dX1_atPlace_29 ?_
      exact rt_Q (r := Option.map a.2.1 none) (u := σ) hF (Or.inl ⟨_, rfl⟩) hw ⟨none, rfl, hok⟩ (Nat.zero_le _) (Nat.zero_le _) dX1_atPlace_30
    · replace hok := hok.2 c3
      refine lv_iload_n hF.x hF.b dX1_atPlace_11 rfl (lv_at hl 2 rfl) ?_
      refine lv_iconst (v := 4) hF.x hF.b dX1_atPlace_12 (by decide) ?_
      refine lv_icmp_ge (tgt := 29) hF.x hF.b dX1_atPlace_13 (by decide) (fun c4 => ?_) (fun c4 => ?_)
      · replace hok := hok.1 c4
        refine lv_null hF.x hF.b dX1_atPlace_29 ?_
        exact rt_Q (r := Option.map a.2.1 none) (u := σ) hF (Or.inl ⟨_, rfl⟩) hw ⟨none, rfl, hok⟩ (Nat.zero_le _) (Nat.zero_le _) dX1_atPlace_30
      · replace hok := hok.2 c4
        refine lv_aload_n hF.x hF.b dX1_atPlace_16 rfl (lv_at hl 0 rfl) ?_
        refine r_get hF hw 0 rfl rfl inlX1 3 (by decide) wf_X1_24 rfl dX1_atPlace_17 ?_
        refine lv_iload_n hF.x hF.b dX1_atPlace_20 rfl (lv_at hl 1 rfl) ?_
        refine lv_iconst (v := 4) hF.x hF.b dX1_atPlace_21 (by decide) ?_
        refine lv_imul hF.x hF.b dX1_atPlace_22 ?_
        refine lv_topi (fun x5 ex5 => ?_)
        replace hok := hok x5 ex5
        refine lv_iload_n hF.x hF.b dX1_atPlace_23 rfl (lv_at hl 2 rfl) ?_
        refine lv_iadd hF.x hF.b dX1_atPlace_24 ?_
        refine lv_topi (fun x6 ex6 => ?_)
        replace hok := hok x6 ex6
        refine rx_aald 3 20 hF hw (by decide) hok.1 dX1_atPlace_25 (fun o7 eo7 => ?_)
        replace hok := hok.2 o7 eo7
        refine lv_goto (tgt := 30) hF.x hF.b dX1_atPlace_26 (by decide) ?_
        exact rt_Q (r := Option.map a.2.1 o7) (u := σ) hF (Or.inl ⟨_, rfl⟩) hw ⟨o7, rfl, hok⟩ (Nat.zero_le _) (Nat.zero_le _) dX1_atPlace_30

theorem in_LP {v1 v2 : Int32} (h : ¬ f1_isLever v1 = 0) (h2 : ¬ v2 < 0) (h3 : ¬ 4 ≤ v2) : ∃ i j : Nat, i < 5 ∧ j < 4 ∧ v1 = nI i ∧ v2 = nI j ∧ v1 * 4 + v2 = nI (4 * i + j) := by
  obtain ⟨i, hi, rfl⟩ := vp_in_of (in_L h) (by decide)
  obtain ⟨j, hj, rfl⟩ := vp_in_of (x := v2) (n := 4) (by
    rw [vp_in_iff]
    rw [Int32.lt_iff_toInt_lt] at h2
    rw [Int32.le_iff_toInt_le] at h3
    have h0 : (0 : Int32).toInt = 0 := by decide
    have h4 : (4 : Int32).toInt = 4 := by decide
    omega) (by decide)
  refine ⟨i, j, hi, hj, rfl, rfl, ?_⟩
  rw [show (4 : Int32) = nI 4 from rfl, pk_mul, nI_add, Nat.mul_comm]
theorem p1_atPlace (σ : SX) (v1 v2 : Int32) (_ : q1_atPlace σ v1 v2) : wp_X1_atPlace_0 σ v1 v2 (fun o u => o = (f1_atPlace σ v1 v2).1 ∧ u = (f1_atPlace σ v1 v2).2) := by
  intro r e; subst e
  refine ⟨fun h => ⟨by simp only [f1_atPlace]; rw [if_pos h], rfl⟩, fun h => ⟨fun h2 => ⟨by simp only [f1_atPlace]; rw [if_neg h, if_pos h2], rfl⟩, fun h2 => ⟨fun h3 => ⟨by simp only [f1_atPlace]; rw [if_neg h, if_neg h2, if_pos h3], rfl⟩, fun h3 x5 e5 x6 e6 => ?_⟩⟩⟩
  subst e5; subst e6
  obtain ⟨i, j, hi, hj, -, -, e⟩ := in_LP h h2 h3
  exact ⟨by rw [e]; exact vp_in_nI (by omega) (by decide), fun o eo => ⟨by rw [eo]; simp only [f1_atPlace]; rw [if_neg h, if_neg h2, if_neg h3], rfl⟩⟩

theorem c1_atPlace (l : Launch) (G : Gm) (a : AX) (σ : SX) (v1 : Int32) (v2 : Int32) (h : q1_atPlace σ v1 v2) : ctQ l yX1_atPlace cX1_atPlace 3 (.object "LeverHall$Deed") (rr 1 20) G [.ref (a.1 13), .int v1, .int v2] (wX G a σ) (fun (r : Option Nat) (u : SX) => ∃ o, r = Option.map a.2.1 o ∧ (o = (f1_atPlace σ v1 v2).1 ∧ u = (f1_atPlace σ v1 v2).2)) (wX G a) := by
  refine en_Q (by decide +kernel) (Nat.le_of_ble_eq_true rfl) (fun p e s m below meth c A ls hF hw hl => ?_)
  exact k_X1_atPlace_0 (post := fun o u => o = (f1_atPlace σ v1 v2).1 ∧ u = (f1_atPlace σ v1 v2).2) hF σ v1 v2 hw hl (p1_atPlace σ v1 v2 h)

def wp_X1_refuse_0 (σ : SX) (v1 : Int32)  (post : Int32 → SX → Prop) : Prop :=
  ∀ σ1 : SX, σ1 = (va_up σ.1 9 0, σ.2) → ∀ σ2 : SX, σ2 = (va_up σ1.1 12 v1, σ1.2) → post 0 σ2
set_option maxHeartbeats 4000000 in
set_option maxRecDepth 100000 in
theorem k_X1_refuse_0 {l : Launch} {p : Program} {e : Env} {s : State} {m : MethodId} {below : List Frame} {meth : Method} {c : Code} {args : Array Value} {A : Nat → Prop} {G : Gm} {a : AX}  (hF : fx p s m args meth c cX1_refuse 2 yX1_refuse.cls kX1_refuse (some (.int))) {post : Int32 → SX → Prop}  (σ : SX) (v1 : Int32) {H : Heap} {locs : List Loc} {ls : Array Slot} (hw : wb G A s (wX G a σ) H locs) (hl : lv_has ls 2 [(0, .ref (a.1 13)), (1, .int v1)]) (hok : wp_X1_refuse_0 σ v1  post) :
    W p l e (rr 0 0) s m args below meth c H locs 0 0 (MQ below (va_Qi post (po G A (wX G a)) A) args s 0 0 A) (F0 m 0 ls []) := by
  unfold wp_X1_refuse_0 at hok
  refine lv_aload_n hF.x hF.b dX1_refuse_0 rfl (lv_at hl 0 rfl) ?_
  refine lv_iconst (v := 0) hF.x hF.b dX1_refuse_1 (by decide) ?_
  refine rx_put (v := 0) 9 hF hw (by decide) wf_X1_43 dX1_refuse_2 (fun σ1 H locs eσ1 hw => ?_)
  replace hok := hok σ1 eσ1
  refine lv_aload_n hF.x hF.b dX1_refuse_5 rfl (lv_at hl 0 rfl) ?_
  refine lv_iload_n hF.x hF.b dX1_refuse_6 rfl (lv_at hl 1 rfl) ?_
  refine rx_put (v := v1) 12 hF hw (by decide) wf_X1_52 dX1_refuse_7 (fun σ2 H locs eσ2 hw => ?_)
  replace hok := hok σ2 eσ2
  refine lv_iconst (v := 0) hF.x hF.b dX1_refuse_10 (by decide) ?_
  exact rt_I (u := σ2) hF hw hok (Nat.zero_le _) (Nat.zero_le _) dX1_refuse_11

theorem p1_refuse (σ : SX) (v1 : Int32) (_ : q1_refuse σ v1) : wp_X1_refuse_0 σ v1 (fun r u => r = (f1_refuse σ v1).1 ∧ u = (f1_refuse σ v1).2) := by
  intro σ1 e1 σ2 e2; subst e1; subst e2
  exact ⟨rfl, rfl⟩

theorem c1_refuse (l : Launch) (G : Gm) (a : AX) (σ : SX) (v1 : Int32) (h : q1_refuse σ v1) : ctI l yX1_refuse cX1_refuse 2 .int (rr 0 0) G [.ref (a.1 13), .int v1] (wX G a σ) (fun (r : Int32) (u : SX) => r = (f1_refuse σ v1).1 ∧ u = (f1_refuse σ v1).2) (wX G a) := by
  refine en_I (by decide +kernel) (Nat.le_of_ble_eq_true rfl) (fun p e s m below meth c A ls hF hw hl => ?_)
  exact k_X1_refuse_0 hF σ v1 hw hl (p1_refuse σ v1 h)

def wp_X1_begin_0 (σ : SX)   (post : SX → Prop) : Prop :=
  ∀ σ1 : SX, σ1 = (va_up σ.1 9 0, σ.2) → ∀ σ2 : SX, σ2 = (va_up σ1.1 11 0, σ1.2) → ∀ σ3 : SX, σ3 = (va_up σ2.1 12 0, σ2.2) → post σ3
set_option maxHeartbeats 4000000 in
set_option maxRecDepth 100000 in
theorem k_X1_begin_0 {l : Launch} {p : Program} {e : Env} {s : State} {m : MethodId} {below : List Frame} {meth : Method} {c : Code} {args : Array Value} {A : Nat → Prop} {G : Gm} {a : AX}  (hF : fx p s m args meth c cX1_begin 1 yX1_begin.cls kX1_begin none) {post : SX → Prop}  (σ : SX)  {H : Heap} {locs : List Loc} {ls : Array Slot} (hw : wb G A s (wX G a σ) H locs) (hl : lv_has ls 1 [(0, .ref (a.1 13))]) (hok : wp_X1_begin_0 σ   post) :
    W p l e (rr 0 0) s m args below meth c H locs 0 0 (MQ below (va_Qv post (po G A (wX G a)) A) args s 0 0 A) (F0 m 0 ls []) := by
  unfold wp_X1_begin_0 at hok
  refine lv_aload_n hF.x hF.b dX1_begin_0 rfl (lv_at hl 0 rfl) ?_
  refine lv_iconst (v := 0) hF.x hF.b dX1_begin_1 (by decide) ?_
  refine rx_put (v := 0) 9 hF hw (by decide) wf_X1_43 dX1_begin_2 (fun σ1 H locs eσ1 hw => ?_)
  replace hok := hok σ1 eσ1
  refine lv_aload_n hF.x hF.b dX1_begin_5 rfl (lv_at hl 0 rfl) ?_
  refine lv_iconst (v := 0) hF.x hF.b dX1_begin_6 (by decide) ?_
  refine rx_put (v := 0) 11 hF hw (by decide) wf_X1_49 dX1_begin_7 (fun σ2 H locs eσ2 hw => ?_)
  replace hok := hok σ2 eσ2
  refine lv_aload_n hF.x hF.b dX1_begin_10 rfl (lv_at hl 0 rfl) ?_
  refine lv_iconst (v := 0) hF.x hF.b dX1_begin_11 (by decide) ?_
  refine rx_put (v := 0) 12 hF hw (by decide) wf_X1_52 dX1_begin_12 (fun σ3 H locs eσ3 hw => ?_)
  replace hok := hok σ3 eσ3
  exact rt_V (u := σ3) hF hw hok (Nat.zero_le _) (Nat.zero_le _) dX1_begin_15

theorem p1_begin (σ : SX) (_ : q1_begin σ) : wp_X1_begin_0 σ (fun u => u = f1_begin σ) := by
  intro σ1 e1 σ2 e2 σ3 e3; subst e1; subst e2; subst e3
  rfl

theorem c1_begin (l : Launch) (G : Gm) (a : AX) (σ : SX)  (h : q1_begin σ ) : ctV l yX1_begin cX1_begin 1 (rr 0 0) G [.ref (a.1 13)] (wX G a σ) (fun (u : SX) => u = f1_begin σ ) (wX G a) := by
  refine en_V (by decide +kernel) (Nat.le_of_ble_eq_true rfl) (fun p e s m below meth c A ls hF hn hw hl => ?_)
  exact k_X1_begin_0 hF σ  hw hl (p1_begin σ  h)

def wp_X1_noteFailure_0 (σ : SX)   (post : SX → Prop) : Prop :=
  ((σ.1 11) = 0 → post σ) ∧ (¬ (σ.1 11) = 0 → ∀ x2 : Int32, x2 = (σ.1 10) + 1 → ∀ σ3 : SX, σ3 = (va_up σ.1 10 x2, σ.2) → ∀ σ4 : SX, σ4 = (va_up σ3.1 12 (σ3.1 11), σ3.2) → post σ4)
set_option maxHeartbeats 4000000 in
set_option maxRecDepth 100000 in
theorem k_X1_noteFailure_0 {l : Launch} {p : Program} {e : Env} {s : State} {m : MethodId} {below : List Frame} {meth : Method} {c : Code} {args : Array Value} {A : Nat → Prop} {G : Gm} {a : AX}  (hF : fx p s m args meth c cX1_noteFailure 1 yX1_noteFailure.cls kX1_noteFailure none) {post : SX → Prop}  (σ : SX)  {H : Heap} {locs : List Loc} {ls : Array Slot} (hw : wb G A s (wX G a σ) H locs) (hl : lv_has ls 1 [(0, .ref (a.1 13))]) (hok : wp_X1_noteFailure_0 σ   post) :
    W p l e (rr 0 0) s m args below meth c H locs 0 0 (MQ below (va_Qv post (po G A (wX G a)) A) args s 0 0 A) (F0 m 0 ls []) := by
  unfold wp_X1_noteFailure_0 at hok
  refine lv_aload_n hF.x hF.b dX1_noteFailure_0 rfl (lv_at hl 0 rfl) ?_
  refine r_get hF hw 0 rfl rfl inlX1 11 (by decide) wf_X1_49 rfl dX1_noteFailure_1 ?_
  refine lv_if_eq (tgt := 25) hF.x hF.b dX1_noteFailure_4 (by decide) (fun c1 => ?_) (fun c1 => ?_)
  · replace hok := hok.1 c1
    exact rt_V (u := σ) hF hw hok (Nat.zero_le _) (Nat.zero_le _) dX1_noteFailure_25
  · replace hok := hok.2 c1
    refine lv_aload_n hF.x hF.b dX1_noteFailure_7 rfl (lv_at hl 0 rfl) ?_
    refine lv_dup hF.x hF.b dX1_noteFailure_8 rfl ?_
    refine r_get hF hw 0 rfl rfl inlX1 10 (by decide) wf_X1_46 rfl dX1_noteFailure_9 ?_
    refine lv_iconst (v := 1) hF.x hF.b dX1_noteFailure_12 (by decide) ?_
    refine lv_iadd hF.x hF.b dX1_noteFailure_13 ?_
    refine lv_topi (fun x2 ex2 => ?_)
    replace hok := hok x2 ex2
    refine rx_put (v := x2) 10 hF hw (by decide) wf_X1_46 dX1_noteFailure_14 (fun σ3 H locs eσ3 hw => ?_)
    replace hok := hok σ3 eσ3
    refine lv_aload_n hF.x hF.b dX1_noteFailure_17 rfl (lv_at hl 0 rfl) ?_
    refine lv_aload_n hF.x hF.b dX1_noteFailure_18 rfl (lv_at hl 0 rfl) ?_
    refine r_get hF hw 0 rfl rfl inlX1 11 (by decide) wf_X1_49 rfl dX1_noteFailure_19 ?_
    refine rx_put (v := σ3.1 11) 12 hF hw (by decide) wf_X1_52 dX1_noteFailure_22 (fun σ4 H locs eσ4 hw => ?_)
    replace hok := hok σ4 eσ4
    exact rt_V (u := σ4) hF hw hok (Nat.zero_le _) (Nat.zero_le _) dX1_noteFailure_25

theorem p1_noteFailure (σ : SX) (_ : q1_noteFailure σ) : wp_X1_noteFailure_0 σ (fun u => u = f1_noteFailure σ) := by
  refine ⟨fun h => by unfold f1_noteFailure; rw [if_pos h], fun h x2 e2 σ3 e3 σ4 e4 => ?_⟩
  subst e2; subst e3; subst e4
  unfold f1_noteFailure
  rw [if_neg h]
  simp [va_up]

theorem c1_noteFailure (l : Launch) (G : Gm) (a : AX) (σ : SX)  (h : q1_noteFailure σ ) : ctV l yX1_noteFailure cX1_noteFailure 1 (rr 0 0) G [.ref (a.1 13)] (wX G a σ) (fun (u : SX) => u = f1_noteFailure σ ) (wX G a) := by
  refine en_V (by decide +kernel) (Nat.le_of_ble_eq_true rfl) (fun p e s m below meth c A ls hF hn hw hl => ?_)
  exact k_X1_noteFailure_0 hF σ  hw hl (p1_noteFailure σ  h)

def wp_X1_fail_0 (σ : SX) (v1 : Int32)  (post : Int32 → SX → Prop) : Prop :=
  ∀ σ1 : SX, σ1 = (va_up σ.1 11 v1, σ.2) → post 0 σ1
set_option maxHeartbeats 4000000 in
set_option maxRecDepth 100000 in
theorem k_X1_fail_0 {l : Launch} {p : Program} {e : Env} {s : State} {m : MethodId} {below : List Frame} {meth : Method} {c : Code} {args : Array Value} {A : Nat → Prop} {G : Gm} {a : AX}  (hF : fx p s m args meth c cX1_fail 2 yX1_fail.cls kX1_fail (some (.int))) {post : Int32 → SX → Prop}  (σ : SX) (v1 : Int32) {H : Heap} {locs : List Loc} {ls : Array Slot} (hw : wb G A s (wX G a σ) H locs) (hl : lv_has ls 2 [(0, .ref (a.1 13)), (1, .int v1)]) (hok : wp_X1_fail_0 σ v1  post) :
    W p l e (rr 0 0) s m args below meth c H locs 0 0 (MQ below (va_Qi post (po G A (wX G a)) A) args s 0 0 A) (F0 m 0 ls []) := by
  unfold wp_X1_fail_0 at hok
  refine lv_aload_n hF.x hF.b dX1_fail_0 rfl (lv_at hl 0 rfl) ?_
  refine lv_iload_n hF.x hF.b dX1_fail_1 rfl (lv_at hl 1 rfl) ?_
  refine rx_put (v := v1) 11 hF hw (by decide) wf_X1_49 dX1_fail_2 (fun σ1 H locs eσ1 hw => ?_)
  replace hok := hok σ1 eσ1
  refine lv_iconst (v := 0) hF.x hF.b dX1_fail_5 (by decide) ?_
  exact rt_I (u := σ1) hF hw hok (Nat.zero_le _) (Nat.zero_le _) dX1_fail_6

theorem p1_fail (σ : SX) (v1 : Int32) (_ : q1_fail σ v1) : wp_X1_fail_0 σ v1 (fun r u => r = (f1_fail σ v1).1 ∧ u = (f1_fail σ v1).2) := by
  intro σ1 e1; subst e1
  exact ⟨rfl, rfl⟩

theorem c1_fail (l : Launch) (G : Gm) (a : AX) (σ : SX) (v1 : Int32) (h : q1_fail σ v1) : ctI l yX1_fail cX1_fail 2 .int (rr 0 0) G [.ref (a.1 13), .int v1] (wX G a σ) (fun (r : Int32) (u : SX) => r = (f1_fail σ v1).1 ∧ u = (f1_fail σ v1).2) (wX G a) := by
  refine en_I (by decide +kernel) (Nat.le_of_ble_eq_true rfl) (fun p e s m below meth c A ls hF hw hl => ?_)
  exact k_X1_fail_0 hF σ v1 hw hl (p1_fail σ v1 h)
