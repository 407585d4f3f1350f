def f2_isIn (v lo hi : Int32) : Int32 := if v < lo then 0 else if hi < v then 0 else 1
theorem zf2_isIn (v lo hi : Int32) : f2_isIn v lo hi = 0 ∨ f2_isIn v lo hi = 1 := by unfold f2_isIn; split <;> (try split) <;> simp
theorem isIn_rng (n m : Int32) (h : m.toInt = n.toInt + 1) (v : Int32) : f2_isIn v 0 n = f1_rng m v := by
  unfold f2_isIn f1_rng
  by_cases h1 : v < 0
  · rw [if_pos h1, if_pos h1]
  · rw [if_neg h1, if_neg h1]
    have e : n < v ↔ m ≤ v := by
      rw [Int32.lt_iff_toInt_lt, Int32.le_iff_toInt_le, h]
      omega
    by_cases h2 : n < v
    · rw [if_pos h2, if_pos (e.mp h2)]
    · rw [if_neg h2, if_neg (fun q => h2 (e.mpr q))]
theorem isIn_B (v : Int32) : f2_isIn v 0 9 = f1_isBasin v := isIn_rng 9 10 (by decide) v
theorem isIn_S (v : Int32) : f2_isIn v 0 19 = f1_isSlot v := isIn_rng 19 20 (by decide) v
theorem isIn_G (v : Int32) : f2_isIn v 0 2 = f1_isGauge v := isIn_rng 2 3 (by decide) v
theorem isIn_L (v : Int32) : f2_isIn v 0 4 = f1_isLever v := isIn_rng 4 5 (by decide) v

def wp_X2_isIn_0 (v0 : Int32) (v1 : Int32) (v2 : Int32)  (post : Int32 → Prop) : Prop :=
  (v0 < v1 → post 0) ∧ (¬ v0 < v1 → (v2 < v0 → post 0) ∧ (¬ v2 < v0 → post 1))
set_option maxHeartbeats 4000000 in
set_option maxRecDepth 100000 in
theorem k_X2_isIn_0 {l : Launch} {p : Program} {e : Env} {s : State} {m : MethodId} {below : List Frame} {meth : Method} {c : Code} {args : Array Value}  (hF : fx p s m args meth c cX2_isIn 3 yX2_isIn.cls kX2_isIn (some (.boolean))) {post : Int32 → Prop}  (v0 : Int32) (v1 : Int32) (v2 : Int32) {ls : Array Slot} (hl : lv_has ls 3 [(0, .int v0), (1, .int v1), (2, .int v2)]) (hok : wp_X2_isIn_0 v0 v1 v2  post) :
    W p l e (rr 0 0) s m args below meth c s.heap [] 0 0 (MQ below (vp_Si post) args s 0 0 (fun _ => False)) (F0 m 0 ls []) := by
  unfold wp_X2_isIn_0 at hok
  refine lv_iload_n hF.x hF.b dX2_isIn_0 rfl (lv_at hl 0 rfl) ?_
  refine lv_iload_n hF.x hF.b dX2_isIn_1 rfl (lv_at hl 1 rfl) ?_
  refine lv_icmp_lt (tgt := 14) hF.x hF.b dX2_isIn_2 (by decide) (fun c1 => ?_) (fun c1 => ?_)
  · replace hok := hok.1 c1
    refine lv_iconst (v := 0) hF.x hF.b dX2_isIn_14 (by decide) ?_
    exact rt_S hF (Or.inl rfl) hok dX2_isIn_15
  · replace hok := hok.2 c1
    refine lv_iload_n hF.x hF.b dX2_isIn_5 rfl (lv_at hl 0 rfl) ?_
    refine lv_iload_n hF.x hF.b dX2_isIn_6 rfl (lv_at hl 2 rfl) ?_
    refine lv_icmp_gt (tgt := 14) hF.x hF.b dX2_isIn_7 (by decide) (fun c2 => ?_) (fun c2 => ?_)
    · replace hok := hok.1 c2
      refine lv_iconst (v := 0) hF.x hF.b dX2_isIn_14 (by decide) ?_
      exact rt_S hF (Or.inl rfl) hok dX2_isIn_15
    · replace hok := hok.2 c2
      refine lv_iconst (v := 1) hF.x hF.b dX2_isIn_10 (by decide) ?_
      refine lv_goto (tgt := 15) hF.x hF.b dX2_isIn_11 (by decide) ?_
      exact rt_S hF (Or.inr rfl) hok dX2_isIn_15

theorem p2_isIn (v0 v1 v2 : Int32) : wp_X2_isIn_0 v0 v1 v2 (fun r => r = f2_isIn v0 v1 v2) := by
  unfold wp_X2_isIn_0 f2_isIn
  exact ⟨fun h => by rw [if_pos h], fun h => ⟨fun h2 => by rw [if_neg h, if_pos h2], fun h2 => by rw [if_neg h, if_neg h2]⟩⟩

theorem c2_isIn (l : Launch) (v0 : Int32) (v1 : Int32) (v2 : Int32) : ctS l yX2_isIn cX2_isIn 3 .boolean (rr 0 0) [.int v0, .int v1, .int v2] (fun r => r = f2_isIn v0 v1 v2) := by
  refine en_S (by decide +kernel) (Nat.le_of_ble_eq_true rfl) (fun p e s m below meth c ls hF hl => ?_)
  exact k_X2_isIn_0 hF v0 v1 v2 hl (p2_isIn v0 v1 v2)

def wp_X2_isBasin_0 (v0 : Int32)  (post : Int32 → Prop) : Prop :=
  ∀ r1 : Int32, r1 = f2_isIn v0 0 9 → post r1
set_option maxHeartbeats 4000000 in
set_option maxRecDepth 100000 in
theorem k_X2_isBasin_0 {l : Launch} {p : Program} {e : Env} {s : State} {m : MethodId} {below : List Frame} {meth : Method} {c : Code} {args : Array Value}  (hF : fx p s m args meth c cX2_isBasin 1 yX2_isBasin.cls kX2_isBasin (some (.boolean))) {post : Int32 → Prop}  (v0 : Int32) {ls : Array Slot} (hl : lv_has ls 1 [(0, .int v0)]) (hok : wp_X2_isBasin_0 v0  post) :
    W p l e (rr 1 22) s m args below meth c s.heap [] 0 0 (MQ below (vp_Si post) args s 0 0 (fun _ => False)) (F0 m 0 ls []) := by
  unfold wp_X2_isBasin_0 at hok
  refine lv_iload_n hF.x hF.b dX2_isBasin_0 rfl (lv_at hl 0 rfl) ?_
  refine lv_iconst (v := 0) hF.x hF.b dX2_isBasin_1 (by decide) ?_
  refine lv_bipush (v := 9) hF.x hF.b dX2_isBasin_2 (by decide) ?_
  refine ca_S hF (c2_isIn l v0 0 9) wv_X2_83 ⟨rfl, nd_X2.1, nd_X2.2, pd_X2_isIn⟩ ⟨rfl, rfl⟩ ⟨Nat.le_of_ble_eq_true rfl, Nat.le_of_ble_eq_true rfl⟩ ⟨Nat.zero_le _, Nat.zero_le _⟩ hl.1 rfl (by first | exact Nat.le_of_ble_eq_true rfl | simp [cat_rf, Value.category]) dX2_isBasin_4 (fun r1 er1 => ?_)
  replace hok := hok r1 er1
  exact rt_S hF (by rw [er1]; apply zf2_isIn) hok dX2_isBasin_7

theorem p2_isBasin (v0 : Int32) : wp_X2_isBasin_0 v0 (fun r => r = f1_isBasin v0) := fun r e => by rw [e, isIn_B]

theorem c2_isBasin (l : Launch) (v0 : Int32) : ctS l yX2_isBasin cX2_isBasin 1 .boolean (rr 1 22) [.int v0] (fun r => r = f1_isBasin v0) := by
  refine en_S (by decide +kernel) (Nat.le_of_ble_eq_true rfl) (fun p e s m below meth c ls hF hl => ?_)
  exact k_X2_isBasin_0 hF v0 hl (p2_isBasin v0)

def wp_X2_isSlot_0 (v0 : Int32)  (post : Int32 → Prop) : Prop :=
  ∀ r1 : Int32, r1 = f2_isIn v0 0 19 → post r1
set_option maxHeartbeats 4000000 in
set_option maxRecDepth 100000 in
theorem k_X2_isSlot_0 {l : Launch} {p : Program} {e : Env} {s : State} {m : MethodId} {below : List Frame} {meth : Method} {c : Code} {args : Array Value}  (hF : fx p s m args meth c cX2_isSlot 1 yX2_isSlot.cls kX2_isSlot (some (.boolean))) {post : Int32 → Prop}  (v0 : Int32) {ls : Array Slot} (hl : lv_has ls 1 [(0, .int v0)]) (hok : wp_X2_isSlot_0 v0  post) :
    W p l e (rr 1 22) s m args below meth c s.heap [] 0 0 (MQ below (vp_Si post) args s 0 0 (fun _ => False)) (F0 m 0 ls []) := by
  unfold wp_X2_isSlot_0 at hok
  refine lv_iload_n hF.x hF.b dX2_isSlot_0 rfl (lv_at hl 0 rfl) ?_
  refine lv_iconst (v := 0) hF.x hF.b dX2_isSlot_1 (by decide) ?_
  refine lv_bipush (v := 19) hF.x hF.b dX2_isSlot_2 (by decide) ?_
  refine ca_S hF (c2_isIn l v0 0 19) wv_X2_83 ⟨rfl, nd_X2.1, nd_X2.2, pd_X2_isIn⟩ ⟨rfl, rfl⟩ ⟨Nat.le_of_ble_eq_true rfl, Nat.le_of_ble_eq_true rfl⟩ ⟨Nat.zero_le _, Nat.zero_le _⟩ hl.1 rfl (by first | exact Nat.le_of_ble_eq_true rfl | simp [cat_rf, Value.category]) dX2_isSlot_4 (fun r1 er1 => ?_)
  replace hok := hok r1 er1
  exact rt_S hF (by rw [er1]; apply zf2_isIn) hok dX2_isSlot_7

theorem p2_isSlot (v0 : Int32) : wp_X2_isSlot_0 v0 (fun r => r = f1_isSlot v0) := fun r e => by rw [e, isIn_S]

theorem c2_isSlot (l : Launch) (v0 : Int32) : ctS l yX2_isSlot cX2_isSlot 1 .boolean (rr 1 22) [.int v0] (fun r => r = f1_isSlot v0) := by
  refine en_S (by decide +kernel) (Nat.le_of_ble_eq_true rfl) (fun p e s m below meth c ls hF hl => ?_)
  exact k_X2_isSlot_0 hF v0 hl (p2_isSlot v0)

def wp_X2_isRight_185 (v0 : Int32) (v1 : Int32) (v2 : Int32) (v3 : Int32)  (post : Int32 → Prop) : Prop :=
  (v0 = 0 → post 1) ∧ (¬ v0 = 0 → (¬ v0 = 5 → post 0) ∧ (v0 = 5 → post 1))
set_option maxHeartbeats 4000000 in
set_option maxRecDepth 100000 in
theorem k_X2_isRight_185 {l : Launch} {p : Program} {e : Env} {s : State} {m : MethodId} {below : List Frame} {meth : Method} {c : Code} {args : Array Value}  (hF : fx p s m args meth c cX2_isRight 4 yX2_isRight.cls kX2_isRight (some (.boolean))) {post : Int32 → Prop}  (v0 : Int32) (v1 : Int32) (v2 : Int32) (v3 : Int32) {ls : Array Slot} (hl : lv_has ls 4 [(0, .int v0), (1, .int v1), (2, .int v2), (3, .int v3)]) (hok : wp_X2_isRight_185 v0 v1 v2 v3  post) :
    W p l e (rr 2 42) s m args below meth c s.heap [] 0 0 (MQ below (vp_Si post) args s 0 0 (fun _ => False)) (F0 m 185 ls []) := by
  unfold wp_X2_isRight_185 at hok
  refine lv_iload_n hF.x hF.b dX2_isRight_185 rfl (lv_at hl 0 rfl) ?_
  refine lv_if_eq (tgt := 194) hF.x hF.b dX2_isRight_186 (by decide) (fun c1 => ?_) (fun c1 => ?_)
  · replace hok := hok.1 c1
    refine lv_iconst (v := 1) hF.x hF.b dX2_isRight_194 (by decide) ?_
    refine lv_goto (tgt := 199) hF.x hF.b dX2_isRight_195 (by decide) ?_
    exact rt_S hF (Or.inr rfl) hok dX2_isRight_199
  · replace hok := hok.2 c1
    refine lv_iload_n hF.x hF.b dX2_isRight_189 rfl (lv_at hl 0 rfl) ?_
    refine lv_iconst (v := 5) hF.x hF.b dX2_isRight_190 (by decide) ?_
    refine lv_icmp_ne (tgt := 198) hF.x hF.b dX2_isRight_191 (by decide) (fun c2 => ?_) (fun c2 => ?_)
    · replace hok := hok.1 c2
      refine lv_iconst (v := 0) hF.x hF.b dX2_isRight_198 (by decide) ?_
      exact rt_S hF (Or.inl rfl) hok dX2_isRight_199
    · replace hok := hok.2 c2
      refine lv_iconst (v := 1) hF.x hF.b dX2_isRight_194 (by decide) ?_
      refine lv_goto (tgt := 199) hF.x hF.b dX2_isRight_195 (by decide) ?_
      exact rt_S hF (Or.inr rfl) hok dX2_isRight_199
def wp_X2_isRight_104 (v0 : Int32) (v1 : Int32) (v2 : Int32) (v3 : Int32)  (post : Int32 → Prop) : Prop :=
  ∀ r1 : Int32, r1 = f1_isSlot v1 → (r1 = 0 → post 0) ∧ (¬ r1 = 0 → ∀ r3 : Int32, r3 = f1_isSlot v2 → (r3 = 0 → post 0) ∧ (¬ r3 = 0 → post 1))
set_option maxHeartbeats 4000000 in
set_option maxRecDepth 100000 in
theorem k_X2_isRight_104 {l : Launch} {p : Program} {e : Env} {s : State} {m : MethodId} {below : List Frame} {meth : Method} {c : Code} {args : Array Value}  (hF : fx p s m args meth c cX2_isRight 4 yX2_isRight.cls kX2_isRight (some (.boolean))) {post : Int32 → Prop}  (v0 : Int32) (v1 : Int32) (v2 : Int32) (v3 : Int32) {ls : Array Slot} (hl : lv_has ls 4 [(0, .int v0), (1, .int v1), (2, .int v2), (3, .int v3)]) (hok : wp_X2_isRight_104 v0 v1 v2 v3  post) :
    W p l e (rr 2 42) s m args below meth c s.heap [] 0 0 (MQ below (vp_Si post) args s 0 0 (fun _ => False)) (F0 m 104 ls []) := by
  unfold wp_X2_isRight_104 at hok
  refine lv_iload_n hF.x hF.b dX2_isRight_104 rfl (lv_at hl 1 rfl) ?_
  refine ca_S hF (c2_isSlot l v1) wv_X2_91 ⟨rfl, nd_X2.1, nd_X2.2, pd_X2_isSlot⟩ ⟨rfl, rfl⟩ ⟨Nat.le_of_ble_eq_true rfl, Nat.le_of_ble_eq_true rfl⟩ ⟨Nat.zero_le _, Nat.zero_le _⟩ hl.1 rfl (by first | exact Nat.le_of_ble_eq_true rfl | simp [cat_rf, Value.category]) dX2_isRight_105 (fun r1 er1 => ?_)
  replace hok := hok r1 er1
  refine lv_if_eq (tgt := 122) hF.x hF.b dX2_isRight_108 (by decide) (fun c2 => ?_) (fun c2 => ?_)
  · replace hok := hok.1 c2
    refine lv_iconst (v := 0) hF.x hF.b dX2_isRight_122 (by decide) ?_
    exact rt_S hF (Or.inl rfl) hok dX2_isRight_123
  · replace hok := hok.2 c2
    refine lv_iload_n hF.x hF.b dX2_isRight_111 rfl (lv_at hl 2 rfl) ?_
    refine ca_S hF (c2_isSlot l v2) wv_X2_91 ⟨rfl, nd_X2.1, nd_X2.2, pd_X2_isSlot⟩ ⟨rfl, rfl⟩ ⟨Nat.le_of_ble_eq_true rfl, Nat.le_of_ble_eq_true rfl⟩ ⟨Nat.zero_le _, Nat.zero_le _⟩ hl.1 rfl (by first | exact Nat.le_of_ble_eq_true rfl | simp [cat_rf, Value.category]) dX2_isRight_112 (fun r3 er3 => ?_)
    replace hok := hok r3 er3
    refine lv_if_eq (tgt := 122) hF.x hF.b dX2_isRight_115 (by decide) (fun c4 => ?_) (fun c4 => ?_)
    · replace hok := hok.1 c4
      refine lv_iconst (v := 0) hF.x hF.b dX2_isRight_122 (by decide) ?_
      exact rt_S hF (Or.inl rfl) hok dX2_isRight_123
    · replace hok := hok.2 c4
      refine lv_iconst (v := 1) hF.x hF.b dX2_isRight_118 (by decide) ?_
      refine lv_goto (tgt := 123) hF.x hF.b dX2_isRight_119 (by decide) ?_
      exact rt_S hF (Or.inr rfl) hok dX2_isRight_123
def wp_X2_isRight_0 (v0 : Int32) (v1 : Int32) (v2 : Int32) (v3 : Int32)  (post : Int32 → Prop) : Prop :=
  (v0.toInt < 1 ∨ 14 < v0.toInt → wp_X2_isRight_185 v0 v1 v2 v3  post) ∧ (v0 = 1 → ∀ r2 : Int32, r2 = f1_isBasin v1 → post r2) ∧ (v0 = 2 → ∀ r3 : Int32, r3 = f1_isBasin v1 → post r3) ∧ (v0 = 3 → ∀ r4 : Int32, r4 = f1_isBasin v1 → (r4 = 0 → post 0) ∧ (¬ r4 = 0 → ∀ r6 : Int32, r6 = f1_isBasin v2 → (r6 = 0 → post 0) ∧ (¬ r6 = 0 → post 1))) ∧ (v0 = 4 → ∀ r8 : Int32, r8 = f2_isIn v1 0 2 → post r8) ∧ (v0 = 5 → wp_X2_isRight_185 v0 v1 v2 v3  post) ∧ (v0 = 6 → ∀ r9 : Int32, r9 = f1_isBasin v1 → post r9) ∧ (v0 = 7 → wp_X2_isRight_104 v0 v1 v2 v3  post) ∧ (v0 = 8 → ∀ r10 : Int32, r10 = f1_isSlot v1 → (r10 = 0 → post 0) ∧ (¬ r10 = 0 → ∀ r12 : Int32, r12 = f1_isSlot v2 → (r12 = 0 → post 0) ∧ (¬ r12 = 0 → ∀ r14 : Int32, r14 = f1_isBasin v3 → (r14 = 0 → post 0) ∧ (¬ r14 = 0 → post 1)))) ∧ (v0 = 9 → ∀ r16 : Int32, r16 = f1_isSlot v1 → (r16 = 0 → post 0) ∧ (¬ r16 = 0 → ∀ r18 : Int32, r18 = f2_isIn v2 0 5 → (r18 = 0 → post 0) ∧ (¬ r18 = 0 → post 1))) ∧ (v0 = 10 → wp_X2_isRight_104 v0 v1 v2 v3  post) ∧ (v0 = 11 → ∀ r20 : Int32, r20 = f1_isSlot v1 → post r20) ∧ (v0 = 12 → ∀ r21 : Int32, r21 = f1_isSlot v1 → post r21) ∧ (v0 = 13 → ∀ r22 : Int32, r22 = f2_isIn v1 0 4 → post r22) ∧ (v0 = 14 → ∀ r23 : Int32, r23 = f1_isSlot v1 → post r23)
set_option maxHeartbeats 4000000 in
set_option maxRecDepth 100000 in
theorem k_X2_isRight_0 {l : Launch} {p : Program} {e : Env} {s : State} {m : MethodId} {below : List Frame} {meth : Method} {c : Code} {args : Array Value}  (hF : fx p s m args meth c cX2_isRight 4 yX2_isRight.cls kX2_isRight (some (.boolean))) {post : Int32 → Prop}  (v0 : Int32) (v1 : Int32) (v2 : Int32) (v3 : Int32) {ls : Array Slot} (hl : lv_has ls 4 [(0, .int v0), (1, .int v1), (2, .int v2), (3, .int v3)]) (hok : wp_X2_isRight_0 v0 v1 v2 v3  post) :
    W p l e (rr 2 42) s m args below meth c s.heap [] 0 0 (MQ below (vp_Si post) args s 0 0 (fun _ => False)) (F0 m 0 ls []) := by
  unfold wp_X2_isRight_0 at hok
  refine lv_iload_n hF.x hF.b dX2_isRight_0 rfl (lv_at hl 0 rfl) ?_
  by_cases c1 : v0.toInt < 1 ∨ 14 < v0.toInt
  · replace hok := hok.1 c1
    refine lv_tableOut (tgt := 185) hF.x hF.b dX2_isRight_1 c1 (by decide) ?_
    exact k_X2_isRight_185  hF  v0 v1 v2 v3 (lv_sub hl [0, 1, 2, 3] rfl) hok
  · obtain ⟨j, hj1, hj2, ex⟩ := sw_in (lo := 1) (hi := 14) c1 (by decide)
    rcases (show j = 1 ∨ j = 2 ∨ j = 3 ∨ j = 4 ∨ j = 5 ∨ j = 6 ∨ j = 7 ∨ j = 8 ∨ j = 9 ∨ j = 10 ∨ j = 11 ∨ j = 12 ∨ j = 13 ∨ j = 14 by omega) with rfl | rfl | rfl | rfl | rfl | rfl | rfl | rfl | rfl | rfl | rfl | rfl | rfl | rfl
    · replace hok := hok.2.1 ex
      refine lv_tableIn (off := 71) (tgt := 72) hF.x hF.b dX2_isRight_1 (by rw [ex]; decide) (by rw [ex]; decide) (by rw [ex]; rfl) (by decide) ?_
      refine lv_iload_n hF.x hF.b dX2_isRight_72 rfl (lv_at hl 1 rfl) ?_
      refine ca_S hF (c2_isBasin l v1) wv_X2_87 ⟨rfl, nd_X2.1, nd_X2.2, pd_X2_isBasin⟩ ⟨rfl, rfl⟩ ⟨Nat.le_of_ble_eq_true rfl, Nat.le_of_ble_eq_true rfl⟩ ⟨Nat.zero_le _, Nat.zero_le _⟩ hl.1 rfl (by first | exact Nat.le_of_ble_eq_true rfl | simp [cat_rf, Value.category]) dX2_isRight_73 (fun r2 er2 => ?_)
      replace hok := hok r2 er2
      exact rt_S hF (by rw [er2]; apply zf1_isBasin) hok dX2_isRight_76
    · replace hok := hok.2.2.1 ex
      refine lv_tableIn (off := 71) (tgt := 72) hF.x hF.b dX2_isRight_1 (by rw [ex]; decide) (by rw [ex]; decide) (by rw [ex]; rfl) (by decide) ?_
      refine lv_iload_n hF.x hF.b dX2_isRight_72 rfl (lv_at hl 1 rfl) ?_
      refine ca_S hF (c2_isBasin l v1) wv_X2_87 ⟨rfl, nd_X2.1, nd_X2.2, pd_X2_isBasin⟩ ⟨rfl, rfl⟩ ⟨Nat.le_of_ble_eq_true rfl, Nat.le_of_ble_eq_true rfl⟩ ⟨Nat.zero_le _, Nat.zero_le _⟩ hl.1 rfl (by first | exact Nat.le_of_ble_eq_true rfl | simp [cat_rf, Value.category]) dX2_isRight_73 (fun r3 er3 => ?_)
      replace hok := hok r3 er3
      exact rt_S hF (by rw [er3]; apply zf1_isBasin) hok dX2_isRight_76
    · replace hok := hok.2.2.2.1 ex
      refine lv_tableIn (off := 76) (tgt := 77) hF.x hF.b dX2_isRight_1 (by rw [ex]; decide) (by rw [ex]; decide) (by rw [ex]; rfl) (by decide) ?_
      refine lv_iload_n hF.x hF.b dX2_isRight_77 rfl (lv_at hl 1 rfl) ?_
      refine ca_S hF (c2_isBasin l v1) wv_X2_87 ⟨rfl, nd_X2.1, nd_X2.2, pd_X2_isBasin⟩ ⟨rfl, rfl⟩ ⟨Nat.le_of_ble_eq_true rfl, Nat.le_of_ble_eq_true rfl⟩ ⟨Nat.zero_le _, Nat.zero_le _⟩ hl.1 rfl (by first | exact Nat.le_of_ble_eq_true rfl | simp [cat_rf, Value.category]) dX2_isRight_78 (fun r4 er4 => ?_)
      replace hok := hok r4 er4
      refine lv_if_eq (tgt := 95) hF.x hF.b dX2_isRight_81 (by decide) (fun c5 => ?_) (fun c5 => ?_)
      · replace hok := hok.1 c5
        refine lv_iconst (v := 0) hF.x hF.b dX2_isRight_95 (by decide) ?_
        exact rt_S hF (Or.inl rfl) hok dX2_isRight_96
      · replace hok := hok.2 c5
        refine lv_iload_n hF.x hF.b dX2_isRight_84 rfl (lv_at hl 2 rfl) ?_
        refine ca_S hF (c2_isBasin l v2) wv_X2_87 ⟨rfl, nd_X2.1, nd_X2.2, pd_X2_isBasin⟩ ⟨rfl, rfl⟩ ⟨Nat.le_of_ble_eq_true rfl, Nat.le_of_ble_eq_true rfl⟩ ⟨Nat.zero_le _, Nat.zero_le _⟩ hl.1 rfl (by first | exact Nat.le_of_ble_eq_true rfl | simp [cat_rf, Value.category]) dX2_isRight_85 (fun r6 er6 => ?_)
        replace hok := hok r6 er6
        refine lv_if_eq (tgt := 95) hF.x hF.b dX2_isRight_88 (by decide) (fun c7 => ?_) (fun c7 => ?_)
        · replace hok := hok.1 c7
          refine lv_iconst (v := 0) hF.x hF.b dX2_isRight_95 (by decide) ?_
          exact rt_S hF (Or.inl rfl) hok dX2_isRight_96
        · replace hok := hok.2 c7
          refine lv_iconst (v := 1) hF.x hF.b dX2_isRight_91 (by decide) ?_
          refine lv_goto (tgt := 96) hF.x hF.b dX2_isRight_92 (by decide) ?_
          exact rt_S hF (Or.inr rfl) hok dX2_isRight_96
    · replace hok := hok.2.2.2.2.1 ex
      refine lv_tableIn (off := 96) (tgt := 97) hF.x hF.b dX2_isRight_1 (by rw [ex]; decide) (by rw [ex]; decide) (by rw [ex]; rfl) (by decide) ?_
      refine lv_iload_n hF.x hF.b dX2_isRight_97 rfl (lv_at hl 1 rfl) ?_
      refine lv_iconst (v := 0) hF.x hF.b dX2_isRight_98 (by decide) ?_
      refine lv_iconst (v := 2) hF.x hF.b dX2_isRight_99 (by decide) ?_
      refine ca_S hF (c2_isIn l v1 0 2) wv_X2_83 ⟨rfl, nd_X2.1, nd_X2.2, pd_X2_isIn⟩ ⟨rfl, rfl⟩ ⟨Nat.le_of_ble_eq_true rfl, Nat.le_of_ble_eq_true rfl⟩ ⟨Nat.zero_le _, Nat.zero_le _⟩ hl.1 rfl (by first | exact Nat.le_of_ble_eq_true rfl | simp [cat_rf, Value.category]) dX2_isRight_100 (fun r8 er8 => ?_)
      replace hok := hok r8 er8
      exact rt_S hF (by rw [er8]; apply zf2_isIn) hok dX2_isRight_103
    · replace hok := hok.2.2.2.2.2.1 ex
      refine lv_tableIn (off := 184) (tgt := 185) hF.x hF.b dX2_isRight_1 (by rw [ex]; decide) (by rw [ex]; decide) (by rw [ex]; rfl) (by decide) ?_
      exact k_X2_isRight_185  hF  v0 v1 v2 v3 (lv_sub hl [0, 1, 2, 3] rfl) hok
    · replace hok := hok.2.2.2.2.2.2.1 ex
      refine lv_tableIn (off := 71) (tgt := 72) hF.x hF.b dX2_isRight_1 (by rw [ex]; decide) (by rw [ex]; decide) (by rw [ex]; rfl) (by decide) ?_
      refine lv_iload_n hF.x hF.b dX2_isRight_72 rfl (lv_at hl 1 rfl) ?_
      refine ca_S hF (c2_isBasin l v1) wv_X2_87 ⟨rfl, nd_X2.1, nd_X2.2, pd_X2_isBasin⟩ ⟨rfl, rfl⟩ ⟨Nat.le_of_ble_eq_true rfl, Nat.le_of_ble_eq_true rfl⟩ ⟨Nat.zero_le _, Nat.zero_le _⟩ hl.1 rfl (by first | exact Nat.le_of_ble_eq_true rfl | simp [cat_rf, Value.category]) dX2_isRight_73 (fun r9 er9 => ?_)
      replace hok := hok r9 er9
      exact rt_S hF (by rw [er9]; apply zf1_isBasin) hok dX2_isRight_76
    · replace hok := hok.2.2.2.2.2.2.2.1 ex
      refine lv_tableIn (off := 103) (tgt := 104) hF.x hF.b dX2_isRight_1 (by rw [ex]; decide) (by rw [ex]; decide) (by rw [ex]; rfl) (by decide) ?_
      exact k_X2_isRight_104  hF  v0 v1 v2 v3 (lv_sub hl [0, 1, 2, 3] rfl) hok
    · replace hok := hok.2.2.2.2.2.2.2.2.1 ex
      refine lv_tableIn (off := 123) (tgt := 124) hF.x hF.b dX2_isRight_1 (by rw [ex]; decide) (by rw [ex]; decide) (by rw [ex]; rfl) (by decide) ?_
      refine lv_iload_n hF.x hF.b dX2_isRight_124 rfl (lv_at hl 1 rfl) ?_
      refine ca_S hF (c2_isSlot l v1) wv_X2_91 ⟨rfl, nd_X2.1, nd_X2.2, pd_X2_isSlot⟩ ⟨rfl, rfl⟩ ⟨Nat.le_of_ble_eq_true rfl, Nat.le_of_ble_eq_true rfl⟩ ⟨Nat.zero_le _, Nat.zero_le _⟩ hl.1 rfl (by first | exact Nat.le_of_ble_eq_true rfl | simp [cat_rf, Value.category]) dX2_isRight_125 (fun r10 er10 => ?_)
      replace hok := hok r10 er10
      refine lv_if_eq (tgt := 149) hF.x hF.b dX2_isRight_128 (by decide) (fun c11 => ?_) (fun c11 => ?_)
      · replace hok := hok.1 c11
        refine lv_iconst (v := 0) hF.x hF.b dX2_isRight_149 (by decide) ?_
        exact rt_S hF (Or.inl rfl) hok dX2_isRight_150
      · replace hok := hok.2 c11
        refine lv_iload_n hF.x hF.b dX2_isRight_131 rfl (lv_at hl 2 rfl) ?_
        refine ca_S hF (c2_isSlot l v2) wv_X2_91 ⟨rfl, nd_X2.1, nd_X2.2, pd_X2_isSlot⟩ ⟨rfl, rfl⟩ ⟨Nat.le_of_ble_eq_true rfl, Nat.le_of_ble_eq_true rfl⟩ ⟨Nat.zero_le _, Nat.zero_le _⟩ hl.1 rfl (by first | exact Nat.le_of_ble_eq_true rfl | simp [cat_rf, Value.category]) dX2_isRight_132 (fun r12 er12 => ?_)
        replace hok := hok r12 er12
        refine lv_if_eq (tgt := 149) hF.x hF.b dX2_isRight_135 (by decide) (fun c13 => ?_) (fun c13 => ?_)
        · replace hok := hok.1 c13
          refine lv_iconst (v := 0) hF.x hF.b dX2_isRight_149 (by decide) ?_
          exact rt_S hF (Or.inl rfl) hok dX2_isRight_150
        · replace hok := hok.2 c13
          refine lv_iload_n hF.x hF.b dX2_isRight_138 rfl (lv_at hl 3 rfl) ?_
          refine ca_S hF (c2_isBasin l v3) wv_X2_87 ⟨rfl, nd_X2.1, nd_X2.2, pd_X2_isBasin⟩ ⟨rfl, rfl⟩ ⟨Nat.le_of_ble_eq_true rfl, Nat.le_of_ble_eq_true rfl⟩ ⟨Nat.zero_le _, Nat.zero_le _⟩ hl.1 rfl (by first | exact Nat.le_of_ble_eq_true rfl | simp [cat_rf, Value.category]) dX2_isRight_139 (fun r14 er14 => ?_)
          replace hok := hok r14 er14
          refine lv_if_eq (tgt := 149) hF.x hF.b dX2_isRight_142 (by decide) (fun c15 => ?_) (fun c15 => ?_)
          · replace hok := hok.1 c15
            refine lv_iconst (v := 0) hF.x hF.b dX2_isRight_149 (by decide) ?_
            exact rt_S hF (Or.inl rfl) hok dX2_isRight_150
          · replace hok := hok.2 c15
            refine lv_iconst (v := 1) hF.x hF.b dX2_isRight_145 (by decide) ?_
            refine lv_goto (tgt := 150) hF.x hF.b dX2_isRight_146 (by decide) ?_
            exact rt_S hF (Or.inr rfl) hok dX2_isRight_150
    · replace hok := hok.2.2.2.2.2.2.2.2.2.1 ex
      refine lv_tableIn (off := 150) (tgt := 151) hF.x hF.b dX2_isRight_1 (by rw [ex]; decide) (by rw [ex]; decide) (by rw [ex]; rfl) (by decide) ?_
      refine lv_iload_n hF.x hF.b dX2_isRight_151 rfl (lv_at hl 1 rfl) ?_
      refine ca_S hF (c2_isSlot l v1) wv_X2_91 ⟨rfl, nd_X2.1, nd_X2.2, pd_X2_isSlot⟩ ⟨rfl, rfl⟩ ⟨Nat.le_of_ble_eq_true rfl, Nat.le_of_ble_eq_true rfl⟩ ⟨Nat.zero_le _, Nat.zero_le _⟩ hl.1 rfl (by first | exact Nat.le_of_ble_eq_true rfl | simp [cat_rf, Value.category]) dX2_isRight_152 (fun r16 er16 => ?_)
      replace hok := hok r16 er16
      refine lv_if_eq (tgt := 171) hF.x hF.b dX2_isRight_155 (by decide) (fun c17 => ?_) (fun c17 => ?_)
      · replace hok := hok.1 c17
        refine lv_iconst (v := 0) hF.x hF.b dX2_isRight_171 (by decide) ?_
        exact rt_S hF (Or.inl rfl) hok dX2_isRight_172
      · replace hok := hok.2 c17
        refine lv_iload_n hF.x hF.b dX2_isRight_158 rfl (lv_at hl 2 rfl) ?_
        refine lv_iconst (v := 0) hF.x hF.b dX2_isRight_159 (by decide) ?_
        refine lv_iconst (v := 5) hF.x hF.b dX2_isRight_160 (by decide) ?_
        refine ca_S hF (c2_isIn l v2 0 5) wv_X2_83 ⟨rfl, nd_X2.1, nd_X2.2, pd_X2_isIn⟩ ⟨rfl, rfl⟩ ⟨Nat.le_of_ble_eq_true rfl, Nat.le_of_ble_eq_true rfl⟩ ⟨Nat.zero_le _, Nat.zero_le _⟩ hl.1 rfl (by first | exact Nat.le_of_ble_eq_true rfl | simp [cat_rf, Value.category]) dX2_isRight_161 (fun r18 er18 => ?_)
        replace hok := hok r18 er18
        refine lv_if_eq (tgt := 171) hF.x hF.b dX2_isRight_164 (by decide) (fun c19 => ?_) (fun c19 => ?_)
        · replace hok := hok.1 c19
          refine lv_iconst (v := 0) hF.x hF.b dX2_isRight_171 (by decide) ?_
          exact rt_S hF (Or.inl rfl) hok dX2_isRight_172
        · replace hok := hok.2 c19
          refine lv_iconst (v := 1) hF.x hF.b dX2_isRight_167 (by decide) ?_
          refine lv_goto (tgt := 172) hF.x hF.b dX2_isRight_168 (by decide) ?_
          exact rt_S hF (Or.inr rfl) hok dX2_isRight_172
    · replace hok := hok.2.2.2.2.2.2.2.2.2.2.1 ex
      refine lv_tableIn (off := 103) (tgt := 104) hF.x hF.b dX2_isRight_1 (by rw [ex]; decide) (by rw [ex]; decide) (by rw [ex]; rfl) (by decide) ?_
      exact k_X2_isRight_104  hF  v0 v1 v2 v3 (lv_sub hl [0, 1, 2, 3] rfl) hok
    · replace hok := hok.2.2.2.2.2.2.2.2.2.2.2.1 ex
      refine lv_tableIn (off := 172) (tgt := 173) hF.x hF.b dX2_isRight_1 (by rw [ex]; decide) (by rw [ex]; decide) (by rw [ex]; rfl) (by decide) ?_
      refine lv_iload_n hF.x hF.b dX2_isRight_173 rfl (lv_at hl 1 rfl) ?_
      refine ca_S hF (c2_isSlot l v1) wv_X2_91 ⟨rfl, nd_X2.1, nd_X2.2, pd_X2_isSlot⟩ ⟨rfl, rfl⟩ ⟨Nat.le_of_ble_eq_true rfl, Nat.le_of_ble_eq_true rfl⟩ ⟨Nat.zero_le _, Nat.zero_le _⟩ hl.1 rfl (by first | exact Nat.le_of_ble_eq_true rfl | simp [cat_rf, Value.category]) dX2_isRight_174 (fun r20 er20 => ?_)
      replace hok := hok r20 er20
      exact rt_S hF (by rw [er20]; apply zf1_isSlot) hok dX2_isRight_177
    · replace hok := hok.2.2.2.2.2.2.2.2.2.2.2.2.1 ex
      refine lv_tableIn (off := 172) (tgt := 173) hF.x hF.b dX2_isRight_1 (by rw [ex]; decide) (by rw [ex]; decide) (by rw [ex]; rfl) (by decide) ?_
      refine lv_iload_n hF.x hF.b dX2_isRight_173 rfl (lv_at hl 1 rfl) ?_
      refine ca_S hF (c2_isSlot l v1) wv_X2_91 ⟨rfl, nd_X2.1, nd_X2.2, pd_X2_isSlot⟩ ⟨rfl, rfl⟩ ⟨Nat.le_of_ble_eq_true rfl, Nat.le_of_ble_eq_true rfl⟩ ⟨Nat.zero_le _, Nat.zero_le _⟩ hl.1 rfl (by first | exact Nat.le_of_ble_eq_true rfl | simp [cat_rf, Value.category]) dX2_isRight_174 (fun r21 er21 => ?_)
      replace hok := hok r21 er21
      exact rt_S hF (by rw [er21]; apply zf1_isSlot) hok dX2_isRight_177
    · replace hok := hok.2.2.2.2.2.2.2.2.2.2.2.2.2.1 ex
      refine lv_tableIn (off := 177) (tgt := 178) hF.x hF.b dX2_isRight_1 (by rw [ex]; decide) (by rw [ex]; decide) (by rw [ex]; rfl) (by decide) ?_
      refine lv_iload_n hF.x hF.b dX2_isRight_178 rfl (lv_at hl 1 rfl) ?_
      refine lv_iconst (v := 0) hF.x hF.b dX2_isRight_179 (by decide) ?_
      refine lv_iconst (v := 4) hF.x hF.b dX2_isRight_180 (by decide) ?_
      refine ca_S hF (c2_isIn l v1 0 4) wv_X2_83 ⟨rfl, nd_X2.1, nd_X2.2, pd_X2_isIn⟩ ⟨rfl, rfl⟩ ⟨Nat.le_of_ble_eq_true rfl, Nat.le_of_ble_eq_true rfl⟩ ⟨Nat.zero_le _, Nat.zero_le _⟩ hl.1 rfl (by first | exact Nat.le_of_ble_eq_true rfl | simp [cat_rf, Value.category]) dX2_isRight_181 (fun r22 er22 => ?_)
      replace hok := hok r22 er22
      exact rt_S hF (by rw [er22]; apply zf2_isIn) hok dX2_isRight_184
    · replace hok := hok.2.2.2.2.2.2.2.2.2.2.2.2.2.2 ex
      refine lv_tableIn (off := 172) (tgt := 173) hF.x hF.b dX2_isRight_1 (by rw [ex]; decide) (by rw [ex]; decide) (by rw [ex]; rfl) (by decide) ?_
      refine lv_iload_n hF.x hF.b dX2_isRight_173 rfl (lv_at hl 1 rfl) ?_
      refine ca_S hF (c2_isSlot l v1) wv_X2_91 ⟨rfl, nd_X2.1, nd_X2.2, pd_X2_isSlot⟩ ⟨rfl, rfl⟩ ⟨Nat.le_of_ble_eq_true rfl, Nat.le_of_ble_eq_true rfl⟩ ⟨Nat.zero_le _, Nat.zero_le _⟩ hl.1 rfl (by first | exact Nat.le_of_ble_eq_true rfl | simp [cat_rf, Value.category]) dX2_isRight_174 (fun r23 er23 => ?_)
      replace hok := hok r23 er23
      exact rt_S hF (by rw [er23]; apply zf1_isSlot) hok dX2_isRight_177

theorem p2_right_104 (v0 v1 v2 v3 : Int32) (post : Int32 → Prop) (h : post (if f1_isSlot v1 = 0 then 0 else f1_isSlot v2)) : wp_X2_isRight_104 v0 v1 v2 v3 post := by
  intro r e; subst e
  refine ⟨fun h1 => by rw [if_pos h1] at h; exact h, fun h1 r2 e2 => ?_⟩
  subst e2
  rw [if_neg h1] at h
  exact ⟨fun h2 => by rw [h2] at h; exact h, fun h2 => by rw [(zf1_isSlot v2).resolve_left h2] at h; exact h⟩
theorem p2_right_185 (v0 v1 v2 v3 : Int32) (hk : ∀ k : Nat, (1 ≤ k ∧ k ≤ 14) → ¬ k = 5 → ¬ v0 = nI k) : wp_X2_isRight_185 v0 v1 v2 v3 (fun r => r = f1_namesWhatThereIs v0 v1 v2 v3) := by
  have H : ∀ k : Nat, 1 ≤ k → k ≤ 14 → ¬ k = 5 → ¬ v0 = nI k := fun k h1 h2 => hk k ⟨h1, h2⟩
  refine ⟨fun c => by subst c; exact (nm_0 _ _ _).symm, fun c => ⟨fun c2 => ?_, fun c2 => by subst c2; exact (nm_5 _ _ _).symm⟩⟩
  have h1 : ¬ v0 = 1 := H 1 (by decide) (by decide) (by decide)
  have h2 : ¬ v0 = 2 := H 2 (by decide) (by decide) (by decide)
  have h3 : ¬ v0 = 3 := H 3 (by decide) (by decide) (by decide)
  have h4 : ¬ v0 = 4 := H 4 (by decide) (by decide) (by decide)
  have h6 : ¬ v0 = 6 := H 6 (by decide) (by decide) (by decide)
  have h7 : ¬ v0 = 7 := H 7 (by decide) (by decide) (by decide)
  have h8 : ¬ v0 = 8 := H 8 (by decide) (by decide) (by decide)
  have h9 : ¬ v0 = 9 := H 9 (by decide) (by decide) (by decide)
  have h10 : ¬ v0 = 10 := H 10 (by decide) (by decide) (by decide)
  have h11 : ¬ v0 = 11 := H 11 (by decide) (by decide) (by decide)
  have h12 : ¬ v0 = 12 := H 12 (by decide) (by decide) (by decide)
  have h13 : ¬ v0 = 13 := H 13 (by decide) (by decide) (by decide)
  have h14 : ¬ v0 = 14 := H 14 (by decide) (by decide) (by decide)
  show 0 = f1_namesWhatThereIs v0 v1 v2 v3
  simp [f1_namesWhatThereIs, c, c2, h1, h2, h3, h4, h6, h7, h8, h9, h10, h11, h12, h13, h14]
theorem p2_isRight (v0 v1 v2 v3 : Int32) : wp_X2_isRight_0 v0 v1 v2 v3 (fun r => r = f1_namesWhatThereIs v0 v1 v2 v3) := ⟨
  fun h => p2_right_185 v0 v1 v2 v3 (fun k hk1 hk2 e => by rw [e, nI_toInt (by omega)] at h; omega),
  fun h => by subst h; exact fun r e => by rw [nm_1]; exact e,
  fun h => by subst h; exact fun r e => by rw [nm_2]; exact e,
  fun h => by
    subst h
    intro r e; subst e
    exact ⟨fun h1 => by rw [nm_3, if_pos h1], fun h1 r2 e2 => by subst e2; exact ⟨fun h2 => by rw [nm_3, if_neg h1, h2], fun h2 => by rw [nm_3, if_neg h1]; exact ((zf1_isBasin v2).resolve_left h2).symm⟩⟩,
  fun h => by subst h; exact fun r e => by rw [nm_4, ← isIn_G]; exact e,
  fun h => by subst h; exact p2_right_185 5 v1 v2 v3 (fun k hk1 hk2 e => hk2 ((nI_eq (by omega) (by decide)).mp e.symm)),
  fun h => by subst h; exact fun r e => by rw [nm_6]; exact e,
  fun h => by subst h; exact p2_right_104 7 v1 v2 v3 _ (nm_7 _ _ _).symm,
  fun h => by
    subst h
    intro r e; subst e
    refine ⟨fun h1 => by rw [nm_8, if_pos h1], fun h1 r2 e2 => ?_⟩
    subst e2
    refine ⟨fun h2 => by rw [nm_8, if_neg h1, if_pos h2], fun h2 r3 e3 => ?_⟩
    subst e3
    exact ⟨fun h3 => by rw [nm_8, if_neg h1, if_neg h2, h3], fun h3 => by rw [nm_8, if_neg h1, if_neg h2]; exact ((zf1_isBasin v3).resolve_left h3).symm⟩,
  fun h => by
    subst h
    intro r e; subst e
    refine ⟨fun h1 => by rw [nm_9, if_pos h1], fun h1 r2 e2 => ?_⟩
    subst e2
    exact ⟨fun h3 => by rw [nm_9, if_neg h1]; exact h3.symm, fun h3 => by rw [nm_9, if_neg h1]; exact ((zf2_isIn v2 0 5).resolve_left h3).symm⟩,
  fun h => by subst h; exact p2_right_104 10 v1 v2 v3 _ (nm_10 _ _ _).symm,
  fun h => by subst h; exact fun r e => by rw [nm_11]; exact e,
  fun h => by subst h; exact fun r e => by rw [nm_12]; exact e,
  fun h => by subst h; exact fun r e => by rw [nm_13, ← isIn_L]; exact e,
  fun h => by subst h; exact fun r e => by rw [nm_14]; exact e⟩

theorem c2_isRight (l : Launch) (v0 : Int32) (v1 : Int32) (v2 : Int32) (v3 : Int32) : ctS l yX2_isRight cX2_isRight 4 .boolean (rr 2 42) [.int v0, .int v1, .int v2, .int v3] (fun r => r = f1_namesWhatThereIs v0 v1 v2 v3) := by
  refine en_S (by decide +kernel) (Nat.le_of_ble_eq_true rfl) (fun p e s m below meth c ls hF hl => ?_)
  exact k_X2_isRight_0 hF v0 v1 v2 v3 hl (p2_isRight v0 v1 v2 v3)

def wp_X2_holdsOne_0 (v0 : Int32)  (post : Int32 → Prop) : Prop :=
  ∀ r1 : Int32, r1 = f2_isIn v0 7 12 → post r1
set_option maxHeartbeats 4000000 in
set_option maxRecDepth 100000 in
theorem k_X2_holdsOne_0 {l : Launch} {p : Program} {e : Env} {s : State} {m : MethodId} {below : List Frame} {meth : Method} {c : Code} {args : Array Value}  (hF : fx p s m args meth c cX2_holdsOne 1 yX2_holdsOne.cls kX2_holdsOne (some (.boolean))) {post : Int32 → Prop}  (v0 : Int32) {ls : Array Slot} (hl : lv_has ls 1 [(0, .int v0)]) (hok : wp_X2_holdsOne_0 v0  post) :
    W p l e (rr 1 22) s m args below meth c s.heap [] 0 0 (MQ below (vp_Si post) args s 0 0 (fun _ => False)) (F0 m 0 ls []) := by
  unfold wp_X2_holdsOne_0 at hok
  refine lv_iload_n hF.x hF.b dX2_holdsOne_0 rfl (lv_at hl 0 rfl) ?_
  refine lv_bipush (v := 7) hF.x hF.b dX2_holdsOne_1 (by decide) ?_
  refine lv_bipush (v := 12) hF.x hF.b dX2_holdsOne_3 (by decide) ?_
  refine ca_S hF (c2_isIn l v0 7 12) wv_X2_83 ⟨rfl, nd_X2.1, nd_X2.2, pd_X2_isIn⟩ ⟨rfl, rfl⟩ ⟨Nat.le_of_ble_eq_true rfl, Nat.le_of_ble_eq_true rfl⟩ ⟨Nat.zero_le _, Nat.zero_le _⟩ hl.1 rfl (by first | exact Nat.le_of_ble_eq_true rfl | simp [cat_rf, Value.category]) dX2_holdsOne_5 (fun r1 er1 => ?_)
  replace hok := hok r1 er1
  exact rt_S hF (by rw [er1]; apply zf2_isIn) hok dX2_holdsOne_8

theorem p2_holdsOne (v0 : Int32) : wp_X2_holdsOne_0 v0 (fun r => r = f1_holdsFirst v0) := fun r e => e

theorem c2_holdsOne (l : Launch) (v0 : Int32) : ctS l yX2_holdsOne cX2_holdsOne 1 .boolean (rr 1 22) [.int v0] (fun r => r = f1_holdsFirst v0) := by
  refine en_S (by decide +kernel) (Nat.le_of_ble_eq_true rfl) (fun p e s m below meth c ls hF hl => ?_)
  exact k_X2_holdsOne_0 hF v0 hl (p2_holdsOne v0)

def wp_X2_holdsTwo_0 (v0 : Int32)  (post : Int32 → Prop) : Prop :=
  (v0 = 7 → post 1) ∧ (¬ v0 = 7 → (v0 = 8 → post 1) ∧ (¬ v0 = 8 → (¬ v0 = 10 → post 0) ∧ (v0 = 10 → post 1)))
set_option maxHeartbeats 4000000 in
set_option maxRecDepth 100000 in
theorem k_X2_holdsTwo_0 {l : Launch} {p : Program} {e : Env} {s : State} {m : MethodId} {below : List Frame} {meth : Method} {c : Code} {args : Array Value}  (hF : fx p s m args meth c cX2_holdsTwo 1 yX2_holdsTwo.cls kX2_holdsTwo (some (.boolean))) {post : Int32 → Prop}  (v0 : Int32) {ls : Array Slot} (hl : lv_has ls 1 [(0, .int v0)]) (hok : wp_X2_holdsTwo_0 v0  post) :
    W p l e (rr 0 0) s m args below meth c s.heap [] 0 0 (MQ below (vp_Si post) args s 0 0 (fun _ => False)) (F0 m 0 ls []) := by
  unfold wp_X2_holdsTwo_0 at hok
  refine lv_iload_n hF.x hF.b dX2_holdsTwo_0 rfl (lv_at hl 0 rfl) ?_
  refine lv_bipush (v := 7) hF.x hF.b dX2_holdsTwo_1 (by decide) ?_
  refine lv_icmp_eq (tgt := 18) hF.x hF.b dX2_holdsTwo_3 (by decide) (fun c1 => ?_) (fun c1 => ?_)
  · replace hok := hok.1 c1
    refine lv_iconst (v := 1) hF.x hF.b dX2_holdsTwo_18 (by decide) ?_
    refine lv_goto (tgt := 23) hF.x hF.b dX2_holdsTwo_19 (by decide) ?_
    exact rt_S hF (Or.inr rfl) hok dX2_holdsTwo_23
  · replace hok := hok.2 c1
    refine lv_iload_n hF.x hF.b dX2_holdsTwo_6 rfl (lv_at hl 0 rfl) ?_
    refine lv_bipush (v := 8) hF.x hF.b dX2_holdsTwo_7 (by decide) ?_
    refine lv_icmp_eq (tgt := 18) hF.x hF.b dX2_holdsTwo_9 (by decide) (fun c2 => ?_) (fun c2 => ?_)
    · replace hok := hok.1 c2
      refine lv_iconst (v := 1) hF.x hF.b dX2_holdsTwo_18 (by decide) ?_
      refine lv_goto (tgt := 23) hF.x hF.b dX2_holdsTwo_19 (by decide) ?_
      exact rt_S hF (Or.inr rfl) hok dX2_holdsTwo_23
    · replace hok := hok.2 c2
      refine lv_iload_n hF.x hF.b dX2_holdsTwo_12 rfl (lv_at hl 0 rfl) ?_
      refine lv_bipush (v := 10) hF.x hF.b dX2_holdsTwo_13 (by decide) ?_
      refine lv_icmp_ne (tgt := 22) hF.x hF.b dX2_holdsTwo_15 (by decide) (fun c3 => ?_) (fun c3 => ?_)
      · replace hok := hok.1 c3
        refine lv_iconst (v := 0) hF.x hF.b dX2_holdsTwo_22 (by decide) ?_
        exact rt_S hF (Or.inl rfl) hok dX2_holdsTwo_23
      · replace hok := hok.2 c3
        refine lv_iconst (v := 1) hF.x hF.b dX2_holdsTwo_18 (by decide) ?_
        refine lv_goto (tgt := 23) hF.x hF.b dX2_holdsTwo_19 (by decide) ?_
        exact rt_S hF (Or.inr rfl) hok dX2_holdsTwo_23

theorem p2_holdsTwo (v0 : Int32) : wp_X2_holdsTwo_0 v0 (fun r => r = f1_holdsSecond v0) := by
  unfold wp_X2_holdsTwo_0 f1_holdsSecond
  exact ⟨fun h => by rw [if_pos h], fun h => ⟨fun h2 => by rw [if_neg h, if_pos h2], fun h2 => ⟨fun h3 => by rw [if_neg h, if_neg h2, if_pos h3], fun h3 => by rw [if_neg h, if_neg h2, if_neg (fun q => q h3)]⟩⟩⟩

theorem c2_holdsTwo (l : Launch) (v0 : Int32) : ctS l yX2_holdsTwo cX2_holdsTwo 1 .boolean (rr 0 0) [.int v0] (fun r => r = f1_holdsSecond v0) := by
  refine en_S (by decide +kernel) (Nat.le_of_ble_eq_true rfl) (fun p e s m below meth c ls hF hl => ?_)
  exact k_X2_holdsTwo_0 hF v0 hl (p2_holdsTwo v0)

def wp_X2_reset_60 (σ : SM) (v1 : Int32) (K2 : SM → Int32 → Prop) (K35 : SM → Int32 → Prop) (K60 : SM → Int32 → Prop) (post : SM → Prop) : Prop :=
  (20 ≤ v1 → ∀ σ2 : SM, σ2 = (va_up σ.1 13 0, σ.2) → ∀ σ3 : SM, σ3 = (va_up σ2.1 16 0, σ2.2) → ∀ σ4 : SM, σ4 = (va_up σ3.1 17 0, σ3.2) → ∀ σ5 : SM, σ5 = (va_up σ4.1 18 0, σ4.2) → post σ5) ∧ (¬ 20 ≤ v1 → vp_in v1 20 ∧ ∀ σ6 : SM, σ6 = (σ.1, va_up σ.2 11 (upd (σ.2 11) v1.toNatClampNeg ((-2)))) → vp_in v1 20 ∧ ∀ σ7 : SM, σ7 = (σ6.1, va_up σ6.2 12 (upd (σ6.2 12) v1.toNatClampNeg ((-2)))) → ∀ x8 : Int32, x8 = v1 + 1 → K60 σ7 x8)
set_option maxHeartbeats 4000000 in
set_option maxRecDepth 100000 in
theorem k_X2_reset_60 {l : Launch} {p : Program} {e : Env} {s : State} {m : MethodId} {below : List Frame} {meth : Method} {c : Code} {args : Array Value} {A : Nat → Prop} {G : Gm} {a : Nat → Nat}  (hF : fx p s m args meth c cX2_reset 2 yX2_reset.cls kX2_reset none) {post : SM → Prop} {K2 : SM → Int32 → Prop} {K35 : SM → Int32 → Prop} {K60 : SM → Int32 → Prop} (hK2 : ∀ (σ : SM) (v1 : Int32) {H : Heap} {locs : List Loc} {ls : Array Slot}, K2 σ v1 → wb G A s (wM G a σ) H locs → lv_has ls 2 [(0, .ref (a 26)), (1, .int v1)] → W p l e (rr 0 0) s m args below meth c H locs 0 0 (MQ below (va_Qv post (po G A (wM G a)) A) args s 0 0 A) (F0 m 2 ls [])) (hK35 : ∀ (σ : SM) (v1 : Int32) {H : Heap} {locs : List Loc} {ls : Array Slot}, K35 σ v1 → wb G A s (wM G a σ) H locs → lv_has ls 2 [(0, .ref (a 26)), (1, .int v1)] → W p l e (rr 0 0) s m args below meth c H locs 0 0 (MQ below (va_Qv post (po G A (wM G a)) A) args s 0 0 A) (F0 m 35 ls [])) (hK60 : ∀ (σ : SM) (v1 : Int32) {H : Heap} {locs : List Loc} {ls : Array Slot}, K60 σ v1 → wb G A s (wM G a σ) H locs → lv_has ls 2 [(0, .ref (a 26)), (1, .int v1)] → W p l e (rr 0 0) s m args below meth c H locs 0 0 (MQ below (va_Qv post (po G A (wM G a)) A) args s 0 0 A) (F0 m 60 ls [])) (σ : SM) (v1 : Int32) {H : Heap} {locs : List Loc} {ls : Array Slot} (hw : wb G A s (wM G a σ) H locs) (hl : lv_has ls 2 [(0, .ref (a 26)), (1, .int v1)]) (hok : wp_X2_reset_60 σ v1 K2 K35 K60 post) :
    W p l e (rr 0 0) s m args below meth c H locs 0 0 (MQ below (va_Qv post (po G A (wM G a)) A) args s 0 0 A) (F0 m 60 ls []) := by
  unfold wp_X2_reset_60 at hok
  refine lv_iload_n hF.x hF.b dX2_reset_60 rfl (lv_at hl 1 rfl) ?_
  refine lv_bipush (v := 20) hF.x hF.b dX2_reset_61 (by decide) ?_
  refine lv_icmp_ge (tgt := 88) hF.x hF.b dX2_reset_63 (by decide) (fun c1 => ?_) (fun c1 => ?_)
  · replace hok := hok.1 c1
    refine lv_aload_n hF.x hF.b dX2_reset_88 rfl (lv_at hl 0 rfl) ?_
    refine lv_iconst (v := 0) hF.x hF.b dX2_reset_89 (by decide) ?_
    refine rm_put (v := 0) 13 hF hw (by decide) wf_X2_71 dX2_reset_90 (fun σ2 H locs eσ2 hw => ?_)
    replace hok := hok σ2 eσ2
    refine lv_aload_n hF.x hF.b dX2_reset_93 rfl (lv_at hl 0 rfl) ?_
    refine lv_iconst (v := 0) hF.x hF.b dX2_reset_94 (by decide) ?_
    refine rm_put (v := 0) 16 hF hw (by decide) wf_X2_74 dX2_reset_95 (fun σ3 H locs eσ3 hw => ?_)
    replace hok := hok σ3 eσ3
    refine lv_aload_n hF.x hF.b dX2_reset_98 rfl (lv_at hl 0 rfl) ?_
    refine lv_iconst (v := 0) hF.x hF.b dX2_reset_99 (by decide) ?_
    refine rm_put (v := 0) 17 hF hw (by decide) wf_X2_77 dX2_reset_100 (fun σ4 H locs eσ4 hw => ?_)
    replace hok := hok σ4 eσ4
    refine lv_aload_n hF.x hF.b dX2_reset_103 rfl (lv_at hl 0 rfl) ?_
    refine lv_iconst (v := 0) hF.x hF.b dX2_reset_104 (by decide) ?_
    refine rm_put (v := 0) 18 hF hw (by decide) wf_X2_80 dX2_reset_105 (fun σ5 H locs eσ5 hw => ?_)
    replace hok := hok σ5 eσ5
    exact rt_V (u := σ5) hF hw hok (Nat.zero_le _) (Nat.zero_le _) dX2_reset_108
  · replace hok := hok.2 c1
    refine lv_aload_n hF.x hF.b dX2_reset_66 rfl (lv_at hl 0 rfl) ?_
    refine r_get hF hw 0 rfl rfl inlX2 11 (by decide) wf_X2_37 rfl dX2_reset_67 ?_
    refine lv_iload_n hF.x hF.b dX2_reset_70 rfl (lv_at hl 1 rfl) ?_
    refine lv_bipush (v := (-2)) hF.x hF.b dX2_reset_71 (by decide) ?_
    refine rm_ast 11 20 10 hF hw (by decide) hok.1 dX2_reset_73 (fun σ6 H locs eσ6 hw => ?_)
    replace hok := hok.2 σ6 eσ6
    refine lv_aload_n hF.x hF.b dX2_reset_74 rfl (lv_at hl 0 rfl) ?_
    refine r_get hF hw 0 rfl rfl inlX2 12 (by decide) wf_X2_40 rfl dX2_reset_75 ?_
    refine lv_iload_n hF.x hF.b dX2_reset_78 rfl (lv_at hl 1 rfl) ?_
    refine lv_bipush (v := (-2)) hF.x hF.b dX2_reset_79 (by decide) ?_
    refine rm_ast 12 20 11 hF hw (by decide) hok.1 dX2_reset_81 (fun σ7 H locs eσ7 hw => ?_)
    replace hok := hok.2 σ7 eσ7
    obtain ⟨x8, ex8⟩ : ∃ z : Int32, z = v1 + 1 := ⟨_, rfl⟩
    replace hok := hok x8 ex8
    refine lv_iinc (v := x8) (lv' := [(1, .int x8), (0, .ref (a 26))]) hF.x hF.b dX2_reset_82 hl (k := 1) rfl (by rw [ex8]; rfl) (by decide) rfl (fun ls hl => ?_)
    refine lv_goto (tgt := 60) hF.x hF.b dX2_reset_85 (by decide) ?_
    exact hK60 σ7 x8 hok hw (lv_sub hl [1, 0] rfl)
def wp_X2_reset_35 (σ : SM) (v1 : Int32) (K2 : SM → Int32 → Prop) (K35 : SM → Int32 → Prop) (K60 : SM → Int32 → Prop) (post : SM → Prop) : Prop :=
  (3 ≤ v1 → ∀ σ2 : SM, σ2 = (va_up σ.1 5 0, σ.2) → K60 σ2 0) ∧ (¬ 3 ≤ v1 → vp_in v1 3 ∧ ∀ σ3 : SM, σ3 = (σ.1, va_up σ.2 4 (upd (σ.2 4) v1.toNatClampNeg 0)) → ∀ x4 : Int32, x4 = v1 + 1 → K35 σ3 x4)
set_option maxHeartbeats 4000000 in
set_option maxRecDepth 100000 in
theorem k_X2_reset_35 {l : Launch} {p : Program} {e : Env} {s : State} {m : MethodId} {below : List Frame} {meth : Method} {c : Code} {args : Array Value} {A : Nat → Prop} {G : Gm} {a : Nat → Nat}  (hF : fx p s m args meth c cX2_reset 2 yX2_reset.cls kX2_reset none) {post : SM → Prop} {K2 : SM → Int32 → Prop} {K35 : SM → Int32 → Prop} {K60 : SM → Int32 → Prop} (hK2 : ∀ (σ : SM) (v1 : Int32) {H : Heap} {locs : List Loc} {ls : Array Slot}, K2 σ v1 → wb G A s (wM G a σ) H locs → lv_has ls 2 [(0, .ref (a 26)), (1, .int v1)] → W p l e (rr 0 0) s m args below meth c H locs 0 0 (MQ below (va_Qv post (po G A (wM G a)) A) args s 0 0 A) (F0 m 2 ls [])) (hK35 : ∀ (σ : SM) (v1 : Int32) {H : Heap} {locs : List Loc} {ls : Array Slot}, K35 σ v1 → wb G A s (wM G a σ) H locs → lv_has ls 2 [(0, .ref (a 26)), (1, .int v1)] → W p l e (rr 0 0) s m args below meth c H locs 0 0 (MQ below (va_Qv post (po G A (wM G a)) A) args s 0 0 A) (F0 m 35 ls [])) (hK60 : ∀ (σ : SM) (v1 : Int32) {H : Heap} {locs : List Loc} {ls : Array Slot}, K60 σ v1 → wb G A s (wM G a σ) H locs → lv_has ls 2 [(0, .ref (a 26)), (1, .int v1)] → W p l e (rr 0 0) s m args below meth c H locs 0 0 (MQ below (va_Qv post (po G A (wM G a)) A) args s 0 0 A) (F0 m 60 ls [])) (σ : SM) (v1 : Int32) {H : Heap} {locs : List Loc} {ls : Array Slot} (hw : wb G A s (wM G a σ) H locs) (hl : lv_has ls 2 [(0, .ref (a 26)), (1, .int v1)]) (hok : wp_X2_reset_35 σ v1 K2 K35 K60 post) :
    W p l e (rr 0 0) s m args below meth c H locs 0 0 (MQ below (va_Qv post (po G A (wM G a)) A) args s 0 0 A) (F0 m 35 ls []) := by
  unfold wp_X2_reset_35 at hok
  refine lv_iload_n hF.x hF.b dX2_reset_35 rfl (lv_at hl 1 rfl) ?_
  refine lv_iconst (v := 3) hF.x hF.b dX2_reset_36 (by decide) ?_
  refine lv_icmp_ge (tgt := 53) hF.x hF.b dX2_reset_37 (by decide) (fun c1 => ?_) (fun c1 => ?_)
  · replace hok := hok.1 c1
    refine lv_aload_n hF.x hF.b dX2_reset_53 rfl (lv_at hl 0 rfl) ?_
    refine lv_iconst (v := 0) hF.x hF.b dX2_reset_54 (by decide) ?_
    refine rm_put (v := 0) 5 hF hw (by decide) wf_X2_68 dX2_reset_55 (fun σ2 H locs eσ2 hw => ?_)
    replace hok := hok σ2 eσ2
    refine lv_iconst (v := 0) hF.x hF.b dX2_reset_58 (by decide) ?_
    refine lv_istore_n (lv' := [(1, .int 0), (0, .ref (a 26))]) hF.x hF.b dX2_reset_59 rfl hl (by decide) rfl (fun ls hl => ?_)
    exact hK60 σ2 0 hok hw (lv_sub hl [1, 0] rfl)
  · replace hok := hok.2 c1
    refine lv_aload_n hF.x hF.b dX2_reset_40 rfl (lv_at hl 0 rfl) ?_
    refine r_get hF hw 0 rfl rfl inlX2 4 (by decide) wf_X2_19 rfl dX2_reset_41 ?_
    refine lv_iload_n hF.x hF.b dX2_reset_44 rfl (lv_at hl 1 rfl) ?_
    refine lv_iconst (v := 0) hF.x hF.b dX2_reset_45 (by decide) ?_
    refine rm_ast 4 3 4 hF hw (by decide) hok.1 dX2_reset_46 (fun σ3 H locs eσ3 hw => ?_)
    replace hok := hok.2 σ3 eσ3
    obtain ⟨x4, ex4⟩ : ∃ z : Int32, z = v1 + 1 := ⟨_, rfl⟩
    replace hok := hok x4 ex4
    refine lv_iinc (v := x4) (lv' := [(1, .int x4), (0, .ref (a 26))]) hF.x hF.b dX2_reset_47 hl (k := 1) rfl (by rw [ex4]; rfl) (by decide) rfl (fun ls hl => ?_)
    refine lv_goto (tgt := 35) hF.x hF.b dX2_reset_50 (by decide) ?_
    exact hK35 σ3 x4 hok hw (lv_sub hl [1, 0] rfl)
def wp_X2_reset_2 (σ : SM) (v1 : Int32) (K2 : SM → Int32 → Prop) (K35 : SM → Int32 → Prop) (K60 : SM → Int32 → Prop) (post : SM → Prop) : Prop :=
  (10 ≤ v1 → ∀ σ2 : SM, σ2 = (va_up σ.1 1 1, σ.2) → vp_in 0 600 ∧ ∀ σ3 : SM, σ3 = (σ2.1, va_up σ2.2 2 (upd (σ2.2 2) (0 : Int32).toNatClampNeg 0)) → K35 σ3 0) ∧ (¬ 10 ≤ v1 → vp_in v1 10 ∧ ∀ σ4 : SM, σ4 = (σ.1, va_up σ.2 0 (upd (σ.2 0) v1.toNatClampNeg 0)) → ∀ x5 : Int32, x5 = v1 + 1 → K2 σ4 x5)
set_option maxHeartbeats 4000000 in
set_option maxRecDepth 100000 in
theorem k_X2_reset_2 {l : Launch} {p : Program} {e : Env} {s : State} {m : MethodId} {below : List Frame} {meth : Method} {c : Code} {args : Array Value} {A : Nat → Prop} {G : Gm} {a : Nat → Nat}  (hF : fx p s m args meth c cX2_reset 2 yX2_reset.cls kX2_reset none) {post : SM → Prop} {K2 : SM → Int32 → Prop} {K35 : SM → Int32 → Prop} {K60 : SM → Int32 → Prop} (hK2 : ∀ (σ : SM) (v1 : Int32) {H : Heap} {locs : List Loc} {ls : Array Slot}, K2 σ v1 → wb G A s (wM G a σ) H locs → lv_has ls 2 [(0, .ref (a 26)), (1, .int v1)] → W p l e (rr 0 0) s m args below meth c H locs 0 0 (MQ below (va_Qv post (po G A (wM G a)) A) args s 0 0 A) (F0 m 2 ls [])) (hK35 : ∀ (σ : SM) (v1 : Int32) {H : Heap} {locs : List Loc} {ls : Array Slot}, K35 σ v1 → wb G A s (wM G a σ) H locs → lv_has ls 2 [(0, .ref (a 26)), (1, .int v1)] → W p l e (rr 0 0) s m args below meth c H locs 0 0 (MQ below (va_Qv post (po G A (wM G a)) A) args s 0 0 A) (F0 m 35 ls [])) (hK60 : ∀ (σ : SM) (v1 : Int32) {H : Heap} {locs : List Loc} {ls : Array Slot}, K60 σ v1 → wb G A s (wM G a σ) H locs → lv_has ls 2 [(0, .ref (a 26)), (1, .int v1)] → W p l e (rr 0 0) s m args below meth c H locs 0 0 (MQ below (va_Qv post (po G A (wM G a)) A) args s 0 0 A) (F0 m 60 ls [])) (σ : SM) (v1 : Int32) {H : Heap} {locs : List Loc} {ls : Array Slot} (hw : wb G A s (wM G a σ) H locs) (hl : lv_has ls 2 [(0, .ref (a 26)), (1, .int v1)]) (hok : wp_X2_reset_2 σ v1 K2 K35 K60 post) :
    W p l e (rr 0 0) s m args below meth c H locs 0 0 (MQ below (va_Qv post (po G A (wM G a)) A) args s 0 0 A) (F0 m 2 ls []) := by
  unfold wp_X2_reset_2 at hok
  refine lv_iload_n hF.x hF.b dX2_reset_2 rfl (lv_at hl 1 rfl) ?_
  refine lv_bipush (v := 10) hF.x hF.b dX2_reset_3 (by decide) ?_
  refine lv_icmp_ge (tgt := 21) hF.x hF.b dX2_reset_5 (by decide) (fun c1 => ?_) (fun c1 => ?_)
  · replace hok := hok.1 c1
    refine lv_aload_n hF.x hF.b dX2_reset_21 rfl (lv_at hl 0 rfl) ?_
    refine lv_iconst (v := 1) hF.x hF.b dX2_reset_22 (by decide) ?_
    refine rm_put (v := 1) 1 hF hw (by decide) wf_X2_64 dX2_reset_23 (fun σ2 H locs eσ2 hw => ?_)
    replace hok := hok σ2 eσ2
    refine lv_aload_n hF.x hF.b dX2_reset_26 rfl (lv_at hl 0 rfl) ?_
    refine r_get hF hw 0 rfl rfl inlX2 2 (by decide) wf_X2_13 rfl dX2_reset_27 ?_
    refine lv_iconst (v := 0) hF.x hF.b dX2_reset_30 (by decide) ?_
    refine lv_iconst (v := 0) hF.x hF.b dX2_reset_31 (by decide) ?_
    refine rm_ast 2 600 2 hF hw (by decide) hok.1 dX2_reset_32 (fun σ3 H locs eσ3 hw => ?_)
    replace hok := hok.2 σ3 eσ3
    refine lv_iconst (v := 0) hF.x hF.b dX2_reset_33 (by decide) ?_
    refine lv_istore_n (lv' := [(1, .int 0), (0, .ref (a 26))]) hF.x hF.b dX2_reset_34 rfl hl (by decide) rfl (fun ls hl => ?_)
    exact hK35 σ3 0 hok hw (lv_sub hl [1, 0] rfl)
  · replace hok := hok.2 c1
    refine lv_aload_n hF.x hF.b dX2_reset_8 rfl (lv_at hl 0 rfl) ?_
    refine r_get hF hw 0 rfl rfl inlX2 0 (by decide) wf_X2_7 rfl dX2_reset_9 ?_
    refine lv_iload_n hF.x hF.b dX2_reset_12 rfl (lv_at hl 1 rfl) ?_
    refine lv_iconst (v := 0) hF.x hF.b dX2_reset_13 (by decide) ?_
    refine rm_ast 0 10 1 hF hw (by decide) hok.1 dX2_reset_14 (fun σ4 H locs eσ4 hw => ?_)
    replace hok := hok.2 σ4 eσ4
    obtain ⟨x5, ex5⟩ : ∃ z : Int32, z = v1 + 1 := ⟨_, rfl⟩
    replace hok := hok x5 ex5
    refine lv_iinc (v := x5) (lv' := [(1, .int x5), (0, .ref (a 26))]) hF.x hF.b dX2_reset_15 hl (k := 1) rfl (by rw [ex5]; rfl) (by decide) rfl (fun ls hl => ?_)
    refine lv_goto (tgt := 2) hF.x hF.b dX2_reset_18 (by decide) ?_
    exact hK2 σ4 x5 hok hw (lv_sub hl [1, 0] rfl)
def wp_X2_reset_0 (σ : SM)  (K2 : SM → Int32 → Prop) (K35 : SM → Int32 → Prop) (K60 : SM → Int32 → Prop) (post : SM → Prop) : Prop :=
  K2 σ 0
set_option maxHeartbeats 4000000 in
set_option maxRecDepth 100000 in
theorem k_X2_reset_0 {l : Launch} {p : Program} {e : Env} {s : State} {m : MethodId} {below : List Frame} {meth : Method} {c : Code} {args : Array Value} {A : Nat → Prop} {G : Gm} {a : Nat → Nat}  (hF : fx p s m args meth c cX2_reset 2 yX2_reset.cls kX2_reset none) {post : SM → Prop} {K2 : SM → Int32 → Prop} {K35 : SM → Int32 → Prop} {K60 : SM → Int32 → Prop} (hK2 : ∀ (σ : SM) (v1 : Int32) {H : Heap} {locs : List Loc} {ls : Array Slot}, K2 σ v1 → wb G A s (wM G a σ) H locs → lv_has ls 2 [(0, .ref (a 26)), (1, .int v1)] → W p l e (rr 0 0) s m args below meth c H locs 0 0 (MQ below (va_Qv post (po G A (wM G a)) A) args s 0 0 A) (F0 m 2 ls [])) (hK35 : ∀ (σ : SM) (v1 : Int32) {H : Heap} {locs : List Loc} {ls : Array Slot}, K35 σ v1 → wb G A s (wM G a σ) H locs → lv_has ls 2 [(0, .ref (a 26)), (1, .int v1)] → W p l e (rr 0 0) s m args below meth c H locs 0 0 (MQ below (va_Qv post (po G A (wM G a)) A) args s 0 0 A) (F0 m 35 ls [])) (hK60 : ∀ (σ : SM) (v1 : Int32) {H : Heap} {locs : List Loc} {ls : Array Slot}, K60 σ v1 → wb G A s (wM G a σ) H locs → lv_has ls 2 [(0, .ref (a 26)), (1, .int v1)] → W p l e (rr 0 0) s m args below meth c H locs 0 0 (MQ below (va_Qv post (po G A (wM G a)) A) args s 0 0 A) (F0 m 60 ls [])) (σ : SM)  {H : Heap} {locs : List Loc} {ls : Array Slot} (hw : wb G A s (wM G a σ) H locs) (hl : lv_has ls 2 [(0, .ref (a 26))]) (hok : wp_X2_reset_0 σ  K2 K35 K60 post) :
    W p l e (rr 0 0) s m args below meth c H locs 0 0 (MQ below (va_Qv post (po G A (wM G a)) A) args s 0 0 A) (F0 m 0 ls []) := by
  unfold wp_X2_reset_0 at hok
  refine lv_iconst (v := 0) hF.x hF.b dX2_reset_0 (by decide) ?_
  refine lv_istore_n (lv' := [(1, .int 0), (0, .ref (a 26))]) hF.x hF.b dX2_reset_1 rfl hl (by decide) rfl (fun ls hl => ?_)
  exact hK2 σ 0 hok hw (lv_sub hl [1, 0] rfl)

def rn_X2_reset_60 (K2 : SM → Int32 → Prop) (K35 : SM → Int32 → Prop) : Nat → SM → Int32 → (SM → Prop) → Prop
  | 0, σ, v1, post => wp_X2_reset_60 σ v1 K2 K35 (fun (σq : SM) (v1' : Int32) => False) post
  | n + 1, σ, v1, post => wp_X2_reset_60 σ v1 K2 K35 (fun (σq : SM) (v1' : Int32) => rn_X2_reset_60 K2 K35 n σq v1' post) post
theorem ln_X2_reset_60 {l : Launch} {p : Program} {e : Env} {s : State} {m : MethodId} {below : List Frame} {meth : Method} {c : Code} {args : Array Value} {A : Nat → Prop} {G : Gm} {a : Nat → Nat}  (hF : fx p s m args meth c cX2_reset 2 yX2_reset.cls kX2_reset none) {post : SM → Prop} {K2 : SM → Int32 → Prop} {K35 : SM → Int32 → Prop} (hK2 : ∀ (σ : SM) (v1 : Int32) {H : Heap} {locs : List Loc} {ls : Array Slot}, K2 σ v1 → wb G A s (wM G a σ) H locs → lv_has ls 2 [(0, .ref (a 26)), (1, .int v1)] → W p l e (rr 0 0) s m args below meth c H locs 0 0 (MQ below (va_Qv post (po G A (wM G a)) A) args s 0 0 A) (F0 m 2 ls [])) (hK35 : ∀ (σ : SM) (v1 : Int32) {H : Heap} {locs : List Loc} {ls : Array Slot}, K35 σ v1 → wb G A s (wM G a σ) H locs → lv_has ls 2 [(0, .ref (a 26)), (1, .int v1)] → W p l e (rr 0 0) s m args below meth c H locs 0 0 (MQ below (va_Qv post (po G A (wM G a)) A) args s 0 0 A) (F0 m 35 ls [])) :
    ∀ (n : Nat) (σ : SM) (v1 : Int32) {H : Heap} {locs : List Loc} {ls : Array Slot}, rn_X2_reset_60 K2 K35 n σ v1 post → wb G A s (wM G a σ) H locs → lv_has ls 2 [(0, .ref (a 26)), (1, .int v1)] → W p l e (rr 0 0) s m args below meth c H locs 0 0 (MQ below (va_Qv post (po G A (wM G a)) A) args s 0 0 A) (F0 m 60 ls []) := by
  intro n
  induction n with
  | zero =>
    intro σ v1 H locs ls hr hw hl
    exact k_X2_reset_60 hF hK2 hK35 (by intro σq v1' H locs ls hI hw hl; exact hI.elim) σ v1 hw hl hr
  | succ n ih =>
    intro σ v1 H locs ls hr hw hl
    exact k_X2_reset_60 hF hK2 hK35 (by intro σq v1' H locs ls hI hw hl; exact ih σq v1' hI hw hl) σ v1 hw hl hr
def rn_X2_reset_35 (K2 : SM → Int32 → Prop) : Nat → SM → Int32 → (SM → Prop) → Prop
  | 0, σ, v1, post => wp_X2_reset_35 σ v1 K2 (fun (σq : SM) (v1' : Int32) => False) (fun (σq : SM) (v1' : Int32) => ∃ nq, rn_X2_reset_60 K2 (fun (σq : SM) (v1' : Int32) => False) nq σq v1' post) post
  | n + 1, σ, v1, post => wp_X2_reset_35 σ v1 K2 (fun (σq : SM) (v1' : Int32) => rn_X2_reset_35 K2 n σq v1' post) (fun (σq : SM) (v1' : Int32) => ∃ nq, rn_X2_reset_60 K2 (fun (σq : SM) (v1' : Int32) => rn_X2_reset_35 K2 n σq v1' post) nq σq v1' post) post
theorem ln_X2_reset_35 {l : Launch} {p : Program} {e : Env} {s : State} {m : MethodId} {below : List Frame} {meth : Method} {c : Code} {args : Array Value} {A : Nat → Prop} {G : Gm} {a : Nat → Nat}  (hF : fx p s m args meth c cX2_reset 2 yX2_reset.cls kX2_reset none) {post : SM → Prop} {K2 : SM → Int32 → Prop} (hK2 : ∀ (σ : SM) (v1 : Int32) {H : Heap} {locs : List Loc} {ls : Array Slot}, K2 σ v1 → wb G A s (wM G a σ) H locs → lv_has ls 2 [(0, .ref (a 26)), (1, .int v1)] → W p l e (rr 0 0) s m args below meth c H locs 0 0 (MQ below (va_Qv post (po G A (wM G a)) A) args s 0 0 A) (F0 m 2 ls [])) :
    ∀ (n : Nat) (σ : SM) (v1 : Int32) {H : Heap} {locs : List Loc} {ls : Array Slot}, rn_X2_reset_35 K2 n σ v1 post → wb G A s (wM G a σ) H locs → lv_has ls 2 [(0, .ref (a 26)), (1, .int v1)] → W p l e (rr 0 0) s m args below meth c H locs 0 0 (MQ below (va_Qv post (po G A (wM G a)) A) args s 0 0 A) (F0 m 35 ls []) := by
  intro n
  induction n with
  | zero =>
    intro σ v1 H locs ls hr hw hl
    exact k_X2_reset_35 hF hK2 (by intro σq v1' H locs ls hI hw hl; exact hI.elim) (by intro σq v1' H locs ls hI hw hl; exact ln_X2_reset_60 hF hK2 (by intro σq v1' H locs ls hI hw hl; exact hI.elim) hI.choose σq v1' hI.choose_spec hw hl) σ v1 hw hl hr
  | succ n ih =>
    intro σ v1 H locs ls hr hw hl
    exact k_X2_reset_35 hF hK2 (by intro σq v1' H locs ls hI hw hl; exact ih σq v1' hI hw hl) (by intro σq v1' H locs ls hI hw hl; exact ln_X2_reset_60 hF hK2 (by intro σq v1' H locs ls hI hw hl; exact ih σq v1' hI hw hl) hI.choose σq v1' hI.choose_spec hw hl) σ v1 hw hl hr
def rn_X2_reset_2  : Nat → SM → Int32 → (SM → Prop) → Prop
  | 0, σ, v1, post => wp_X2_reset_2 σ v1 (fun (σq : SM) (v1' : Int32) => False) (fun (σq : SM) (v1' : Int32) => ∃ nq, rn_X2_reset_35 (fun (σq : SM) (v1' : Int32) => False) nq σq v1' post) (fun (σq : SM) (v1' : Int32) => ∃ nq, rn_X2_reset_60 (fun (σq : SM) (v1' : Int32) => False) (fun (σq : SM) (v1' : Int32) => False) nq σq v1' post) post
  | n + 1, σ, v1, post => wp_X2_reset_2 σ v1 (fun (σq : SM) (v1' : Int32) => rn_X2_reset_2  n σq v1' post) (fun (σq : SM) (v1' : Int32) => ∃ nq, rn_X2_reset_35 (fun (σq : SM) (v1' : Int32) => rn_X2_reset_2  n σq v1' post) nq σq v1' post) (fun (σq : SM) (v1' : Int32) => ∃ nq, rn_X2_reset_60 (fun (σq : SM) (v1' : Int32) => rn_X2_reset_2  n σq v1' post) (fun (σq : SM) (v1' : Int32) => False) nq σq v1' post) post
theorem ln_X2_reset_2 {l : Launch} {p : Program} {e : Env} {s : State} {m : MethodId} {below : List Frame} {meth : Method} {c : Code} {args : Array Value} {A : Nat → Prop} {G : Gm} {a : Nat → Nat}  (hF : fx p s m args meth c cX2_reset 2 yX2_reset.cls kX2_reset none) {post : SM → Prop}  :
    ∀ (n : Nat) (σ : SM) (v1 : Int32) {H : Heap} {locs : List Loc} {ls : Array Slot}, rn_X2_reset_2  n σ v1 post → wb G A s (wM G a σ) H locs → lv_has ls 2 [(0, .ref (a 26)), (1, .int v1)] → W p l e (rr 0 0) s m args below meth c H locs 0 0 (MQ below (va_Qv post (po G A (wM G a)) A) args s 0 0 A) (F0 m 2 ls []) := by
  intro n
  induction n with
  | zero =>
    intro σ v1 H locs ls hr hw hl
    exact k_X2_reset_2 hF (by intro σq v1' H locs ls hI hw hl; exact hI.elim) (by intro σq v1' H locs ls hI hw hl; exact ln_X2_reset_35 hF (by intro σq v1' H locs ls hI hw hl; exact hI.elim) hI.choose σq v1' hI.choose_spec hw hl) (by intro σq v1' H locs ls hI hw hl; exact ln_X2_reset_60 hF (by intro σq v1' H locs ls hI hw hl; exact hI.elim) (by intro σx x0 Hx lx sx hx; exact hx.elim) hI.choose σq v1' hI.choose_spec hw hl) σ v1 hw hl hr
  | succ n ih =>
    intro σ v1 H locs ls hr hw hl
    exact k_X2_reset_2 hF (by intro σq v1' H locs ls hI hw hl; exact ih σq v1' hI hw hl) (by intro σq v1' H locs ls hI hw hl; exact ln_X2_reset_35 hF (by intro σq v1' H locs ls hI hw hl; exact ih σq v1' hI hw hl) hI.choose σq v1' hI.choose_spec hw hl) (by intro σq v1' H locs ls hI hw hl; exact ln_X2_reset_60 hF (by intro σq v1' H locs ls hI hw hl; exact ih σq v1' hI hw hl) (by intro σx x0 Hx lx sx hx; exact hx.elim) hI.choose σq v1' hI.choose_spec hw hl) σ v1 hw hl hr
def wpL_X2_reset (σ : SM)  (post : SM → Prop) : Prop := wp_X2_reset_0 σ  (fun (σq : SM) (v1' : Int32) => ∃ nq, rn_X2_reset_2 nq σq v1' post) (fun (σq : SM) (v1' : Int32) => ∃ nq, rn_X2_reset_35 (fun (σq : SM) (v1' : Int32) => False) nq σq v1' post) (fun (σq : SM) (v1' : Int32) => ∃ nq, rn_X2_reset_60 (fun (σq : SM) (v1' : Int32) => False) (fun (σq : SM) (v1' : Int32) => False) nq σq v1' post) post

theorem c2_reset (l : Launch) (G : Gm) (a : Nat → Nat) (σ : SM)  {post : SM → Prop} (h : wpL_X2_reset σ  post) : ctV l yX2_reset cX2_reset 2 (rr 0 0) G [.ref (a 26)] (wM G a σ) post (wM G a) := by
  refine en_V (by decide +kernel) (Nat.le_of_ble_eq_true rfl) (fun p e s m below meth c A ls hF hn hw hl => ?_)
  exact k_X2_reset_0 hF (by intro σq v1' H locs ls hI hw hl; exact ln_X2_reset_2 hF  hI.choose σq v1' hI.choose_spec hw hl) (by intro σq v1' H locs ls hI hw hl; exact ln_X2_reset_35 hF (by intro σx x0 Hx lx sx hx; exact hx.elim) hI.choose σq v1' hI.choose_spec hw hl) (by intro σq v1' H locs ls hI hw hl; exact ln_X2_reset_60 hF (by intro σx x0 Hx lx sx hx; exact hx.elim) (by intro σx x0 Hx lx sx hx; exact hx.elim) hI.choose σq v1' hI.choose_spec hw hl) σ  hw hl h

def wp_X2_fill_0 (σ : SM) (v1 : Int32) (v2 : Int32)  (post : Int32 → SM → Prop) : Prop :=
  ∀ r1 : Int32, r1 = f1_isBasin v1 → (¬ r1 = 0 → vp_in v1 10 ∧ ∀ x3 : Int32, x3 = σ.2 0 v1.toNatClampNeg → vp_in v1 10 ∧ ∀ σ4 : SM, σ4 = (σ.1, va_up σ.2 0 (upd (σ.2 0) v1.toNatClampNeg v2)) → post x3 σ4) ∧ (r1 = 0 → post 0 σ)
set_option maxHeartbeats 4000000 in
set_option maxRecDepth 100000 in
theorem k_X2_fill_0 {l : Launch} {p : Program} {e : Env} {s : State} {m : MethodId} {below : List Frame} {meth : Method} {c : Code} {args : Array Value} {A : Nat → Prop} {G : Gm} {a : Nat → Nat}  (hF : fx p s m args meth c cX2_fill 4 yX2_fill.cls kX2_fill (some (.int))) {post : Int32 → SM → Prop}  (σ : SM) (v1 : Int32) (v2 : Int32) {H : Heap} {locs : List Loc} {ls : Array Slot} (hw : wb G A s (wM G a σ) H locs) (hl : lv_has ls 4 [(0, .ref (a 26)), (1, .int v1), (2, .int v2)]) (hok : wp_X2_fill_0 σ v1 v2  post) :
    W p l e (rr 2 42) s m args below meth c H locs 0 0 (MQ below (va_Qi post (po G A (wM G a)) A) args s 0 0 A) (F0 m 0 ls []) := by
  unfold wp_X2_fill_0 at hok
  refine lv_iload_n hF.x hF.b dX2_fill_0 rfl (lv_at hl 1 rfl) ?_
  refine ca_S hF (c2_isBasin l v1) wv_X2_87 ⟨rfl, nd_X2.1, nd_X2.2, pd_X2_isBasin⟩ ⟨rfl, rfl⟩ ⟨Nat.le_of_ble_eq_true rfl, Nat.le_of_ble_eq_true rfl⟩ ⟨Nat.zero_le _, Nat.zero_le _⟩ hl.1 rfl (by first | exact Nat.le_of_ble_eq_true rfl | simp [cat_rf, Value.category]) dX2_fill_1 (fun r1 er1 => ?_)
  replace hok := hok r1 er1
  refine lv_if_ne (tgt := 9) hF.x hF.b dX2_fill_4 (by decide) (fun c2 => ?_) (fun c2 => ?_)
  · replace hok := hok.1 c2
    refine lv_aload_n hF.x hF.b dX2_fill_9 rfl (lv_at hl 0 rfl) ?_
    refine r_get hF hw 0 rfl rfl inlX2 0 (by decide) wf_X2_7 rfl dX2_fill_10 ?_
    refine lv_iload_n hF.x hF.b dX2_fill_13 rfl (lv_at hl 1 rfl) ?_
    refine rm_ald 0 10 1 hF hw (by decide) hok.1 dX2_fill_14 ?_
    refine lv_topi (fun x3 ex3 => ?_)
    replace hok := hok.2 x3 ex3
    refine lv_istore_n (lv' := [(3, .int x3), (0, .ref (a 26)), (1, .int v1), (2, .int v2)]) hF.x hF.b dX2_fill_15 rfl hl (by decide) rfl (fun ls hl => ?_)
    refine lv_aload_n hF.x hF.b dX2_fill_16 rfl (lv_at hl 1 rfl) ?_
    refine r_get hF hw 0 rfl rfl inlX2 0 (by decide) wf_X2_7 rfl dX2_fill_17 ?_
    refine lv_iload_n hF.x hF.b dX2_fill_20 rfl (lv_at hl 2 rfl) ?_
    refine lv_iload_n hF.x hF.b dX2_fill_21 rfl (lv_at hl 3 rfl) ?_
    refine rm_ast 0 10 1 hF hw (by decide) hok.1 dX2_fill_22 (fun σ4 H locs eσ4 hw => ?_)
    replace hok := hok.2 σ4 eσ4
    refine lv_iload_n hF.x hF.b dX2_fill_23 rfl (lv_at hl 0 rfl) ?_
    exact rt_I (u := σ4) hF hw hok (Nat.zero_le _) (Nat.zero_le _) dX2_fill_24
  · replace hok := hok.2 c2
    refine lv_iconst (v := 0) hF.x hF.b dX2_fill_7 (by decide) ?_
    exact rt_I (u := σ) hF hw hok (Nat.zero_le _) (Nat.zero_le _) dX2_fill_8

theorem c2_fill (l : Launch) (G : Gm) (a : Nat → Nat) (σ : SM) (v1 : Int32) (v2 : Int32) {post : Int32 → SM → Prop} (h : wp_X2_fill_0 σ v1 v2 post) : ctI l yX2_fill cX2_fill 4 .int (rr 2 42) G [.ref (a 26), .int v1, .int v2] (wM G a σ) post (wM G a) := by
  refine en_I (by decide +kernel) (Nat.le_of_ble_eq_true rfl) (fun p e s m below meth c A ls hF hw hl => ?_)
  exact k_X2_fill_0 hF  σ v1 v2 hw hl h

def wp_X2_basin_0 (σ : SM) (v1 : Int32)  (post : Int32 → SM → Prop) : Prop :=
  ∀ r1 : Int32, r1 = f1_isBasin v1 → (r1 = 0 → post 0 σ) ∧ (¬ r1 = 0 → vp_in v1 10 ∧ ∀ x3 : Int32, x3 = σ.2 0 v1.toNatClampNeg → post x3 σ)
set_option maxHeartbeats 4000000 in
set_option maxRecDepth 100000 in
theorem k_X2_basin_0 {l : Launch} {p : Program} {e : Env} {s : State} {m : MethodId} {below : List Frame} {meth : Method} {c : Code} {args : Array Value} {A : Nat → Prop} {G : Gm} {a : Nat → Nat}  (hF : fx p s m args meth c cX2_basin 2 yX2_basin.cls kX2_basin (some (.int))) {post : Int32 → SM → Prop}  (σ : SM) (v1 : Int32) {H : Heap} {locs : List Loc} {ls : Array Slot} (hw : wb G A s (wM G a σ) H locs) (hl : lv_has ls 2 [(0, .ref (a 26)), (1, .int v1)]) (hok : wp_X2_basin_0 σ v1  post) :
    W p l e (rr 2 42) s m args below meth c H locs 0 0 (MQ below (va_Qi post (po G A (wM G a)) A) args s 0 0 A) (F0 m 0 ls []) := by
  unfold wp_X2_basin_0 at hok
  refine lv_iload_n hF.x hF.b dX2_basin_0 rfl (lv_at hl 1 rfl) ?_
  refine ca_S hF (c2_isBasin l v1) wv_X2_87 ⟨rfl, nd_X2.1, nd_X2.2, pd_X2_isBasin⟩ ⟨rfl, rfl⟩ ⟨Nat.le_of_ble_eq_true rfl, Nat.le_of_ble_eq_true rfl⟩ ⟨Nat.zero_le _, Nat.zero_le _⟩ hl.1 rfl (by first | exact Nat.le_of_ble_eq_true rfl | simp [cat_rf, Value.category]) dX2_basin_1 (fun r1 er1 => ?_)
  replace hok := hok r1 er1
  refine lv_if_eq (tgt := 16) hF.x hF.b dX2_basin_4 (by decide) (fun c2 => ?_) (fun c2 => ?_)
  · replace hok := hok.1 c2
    refine lv_iconst (v := 0) hF.x hF.b dX2_basin_16 (by decide) ?_
    exact rt_I (u := σ) hF hw hok (Nat.zero_le _) (Nat.zero_le _) dX2_basin_17
  · replace hok := hok.2 c2
    refine lv_aload_n hF.x hF.b dX2_basin_7 rfl (lv_at hl 0 rfl) ?_
    refine r_get hF hw 0 rfl rfl inlX2 0 (by decide) wf_X2_7 rfl dX2_basin_8 ?_
    refine lv_iload_n hF.x hF.b dX2_basin_11 rfl (lv_at hl 1 rfl) ?_
    refine rm_ald 0 10 1 hF hw (by decide) hok.1 dX2_basin_12 ?_
    refine lv_topi (fun x3 ex3 => ?_)
    replace hok := hok.2 x3 ex3
    refine lv_goto (tgt := 17) hF.x hF.b dX2_basin_13 (by decide) ?_
    exact rt_I (u := σ) hF hw hok (Nat.zero_le _) (Nat.zero_le _) dX2_basin_17

theorem c2_basin (l : Launch) (G : Gm) (a : Nat → Nat) (σ : SM) (v1 : Int32) {post : Int32 → SM → Prop} (h : wp_X2_basin_0 σ v1 post) : ctI l yX2_basin cX2_basin 2 .int (rr 2 42) G [.ref (a 26), .int v1] (wM G a σ) post (wM G a) := by
  refine en_I (by decide +kernel) (Nat.le_of_ble_eq_true rfl) (fun p e s m below meth c A ls hF hw hl => ?_)
  exact k_X2_basin_0 hF  σ v1 hw hl h

def wp_X2_gauge_33 (σ : SM) (v1 : Int32) (v2 : Int32) (v3 : Int32) (K33 : SM → Int32 → Int32 → Int32 → Prop) (post : Int32 → SM → Prop) : Prop :=
  (6 ≤ v3 → vp_in v1 3 ∧ ∀ σ2 : SM, σ2 = (σ.1, va_up σ.2 4 (upd (σ.2 4) v1.toNatClampNeg (σ.1 1))) → ∀ x3 : Int32, x3 = (σ2.1 1) + 1 → ∀ σ4 : SM, σ4 = (va_up σ2.1 1 x3, σ2.2) → post 1 σ4) ∧ (¬ 6 ≤ v3 → ∀ x5 : Int32, x5 = 6 * (σ.1 1) → ∀ x6 : Int32, x6 = x5 + v3 → vp_in x6 3600 ∧ ∀ σ7 : SM, σ7 = (σ.1, va_up σ.2 3 (upd (σ.2 3) x6.toNatClampNeg 0)) → ∀ x8 : Int32, x8 = v3 + 1 → K33 σ7 v1 v2 x8)
set_option maxHeartbeats 4000000 in
set_option maxRecDepth 100000 in
theorem k_X2_gauge_33 {l : Launch} {p : Program} {e : Env} {s : State} {m : MethodId} {below : List Frame} {meth : Method} {c : Code} {args : Array Value} {A : Nat → Prop} {G : Gm} {a : Nat → Nat}  (hF : fx p s m args meth c cX2_gauge 4 yX2_gauge.cls kX2_gauge (some (.int))) {post : Int32 → SM → Prop} {K33 : SM → Int32 → Int32 → Int32 → Prop} (hK33 : ∀ (σ : SM) (v1 : Int32) (v2 : Int32) (v3 : Int32) {H : Heap} {locs : List Loc} {ls : Array Slot}, K33 σ v1 v2 v3 → wb G A s (wM G a σ) H locs → lv_has ls 4 [(0, .ref (a 26)), (1, .int v1), (2, .int v2), (3, .int v3)] → W p l e (rr 1 22) s m args below meth c H locs 0 0 (MQ below (va_Qi post (po G A (wM G a)) A) args s 0 0 A) (F0 m 33 ls [])) (σ : SM) (v1 : Int32) (v2 : Int32) (v3 : Int32) {H : Heap} {locs : List Loc} {ls : Array Slot} (hw : wb G A s (wM G a σ) H locs) (hl : lv_has ls 4 [(0, .ref (a 26)), (1, .int v1), (2, .int v2), (3, .int v3)]) (hok : wp_X2_gauge_33 σ v1 v2 v3 K33 post) :
    W p l e (rr 1 22) s m args below meth c H locs 0 0 (MQ below (va_Qi post (po G A (wM G a)) A) args s 0 0 A) (F0 m 33 ls []) := by
  unfold wp_X2_gauge_33 at hok
  refine lv_iload_n hF.x hF.b dX2_gauge_33 rfl (lv_at hl 3 rfl) ?_
  refine lv_bipush (v := 6) hF.x hF.b dX2_gauge_34 (by decide) ?_
  refine lv_icmp_ge (tgt := 60) hF.x hF.b dX2_gauge_36 (by decide) (fun c1 => ?_) (fun c1 => ?_)
  · replace hok := hok.1 c1
    refine lv_aload_n hF.x hF.b dX2_gauge_60 rfl (lv_at hl 0 rfl) ?_
    refine r_get hF hw 0 rfl rfl inlX2 4 (by decide) wf_X2_19 rfl dX2_gauge_61 ?_
    refine lv_iload_n hF.x hF.b dX2_gauge_64 rfl (lv_at hl 1 rfl) ?_
    refine lv_aload_n hF.x hF.b dX2_gauge_65 rfl (lv_at hl 0 rfl) ?_
    refine r_get hF hw 0 rfl rfl inlX2 1 (by decide) wf_X2_64 rfl dX2_gauge_66 ?_
    refine rm_ast 4 3 4 hF hw (by decide) hok.1 dX2_gauge_69 (fun σ2 H locs eσ2 hw => ?_)
    replace hok := hok.2 σ2 eσ2
    refine lv_aload_n hF.x hF.b dX2_gauge_70 rfl (lv_at hl 0 rfl) ?_
    refine lv_dup hF.x hF.b dX2_gauge_71 rfl ?_
    refine r_get hF hw 0 rfl rfl inlX2 1 (by decide) wf_X2_64 rfl dX2_gauge_72 ?_
    refine lv_iconst (v := 1) hF.x hF.b dX2_gauge_75 (by decide) ?_
    refine lv_iadd hF.x hF.b dX2_gauge_76 ?_
    refine lv_topi (fun x3 ex3 => ?_)
    replace hok := hok x3 ex3
    refine rm_put (v := x3) 1 hF hw (by decide) wf_X2_64 dX2_gauge_77 (fun σ4 H locs eσ4 hw => ?_)
    replace hok := hok σ4 eσ4
    refine lv_iconst (v := 1) hF.x hF.b dX2_gauge_80 (by decide) ?_
    exact rt_I (u := σ4) hF hw hok (Nat.zero_le _) (Nat.zero_le _) dX2_gauge_81
  · replace hok := hok.2 c1
    refine lv_aload_n hF.x hF.b dX2_gauge_39 rfl (lv_at hl 0 rfl) ?_
    refine r_get hF hw 0 rfl rfl inlX2 3 (by decide) wf_X2_16 rfl dX2_gauge_40 ?_
    refine lv_bipush (v := 6) hF.x hF.b dX2_gauge_43 (by decide) ?_
    refine lv_aload_n hF.x hF.b dX2_gauge_45 rfl (lv_at hl 0 rfl) ?_
    refine r_get hF hw 0 rfl rfl inlX2 1 (by decide) wf_X2_64 rfl dX2_gauge_46 ?_
    refine lv_imul hF.x hF.b dX2_gauge_49 ?_
    refine lv_topi (fun x5 ex5 => ?_)
    replace hok := hok x5 ex5
    refine lv_iload_n hF.x hF.b dX2_gauge_50 rfl (lv_at hl 3 rfl) ?_
    refine lv_iadd hF.x hF.b dX2_gauge_51 ?_
    refine lv_topi (fun x6 ex6 => ?_)
    replace hok := hok x6 ex6
    refine lv_iconst (v := 0) hF.x hF.b dX2_gauge_52 (by decide) ?_
    refine rm_ast 3 3600 3 hF hw (by decide) hok.1 dX2_gauge_53 (fun σ7 H locs eσ7 hw => ?_)
    replace hok := hok.2 σ7 eσ7
    obtain ⟨x8, ex8⟩ : ∃ z : Int32, z = v3 + 1 := ⟨_, rfl⟩
    replace hok := hok x8 ex8
    refine lv_iinc (v := x8) (lv' := [(3, .int x8), (0, .ref (a 26)), (1, .int v1), (2, .int v2)]) hF.x hF.b dX2_gauge_54 hl (k := 3) rfl (by rw [ex8]; rfl) (by decide) rfl (fun ls hl => ?_)
    refine lv_goto (tgt := 33) hF.x hF.b dX2_gauge_57 (by decide) ?_
    exact hK33 σ7 v1 v2 x8 hok hw (lv_sub hl [1, 2, 3, 0] rfl)
def wp_X2_gauge_0 (σ : SM) (v1 : Int32) (v2 : Int32) (K33 : SM → Int32 → Int32 → Int32 → Prop) (post : Int32 → SM → Prop) : Prop :=
  ∀ r1 : Int32, r1 = f2_isIn v1 0 2 → (r1 = 0 → post ((-1)) σ) ∧ (¬ r1 = 0 → ∀ r3 : Int32, r3 = f2_isIn v2 0 6 → (¬ r3 = 0 → vp_in (σ.1 1) 600 ∧ ∀ σ5 : SM, σ5 = (σ.1, va_up σ.2 2 (upd (σ.2 2) (σ.1 1).toNatClampNeg v2)) → K33 σ5 v1 v2 0) ∧ (r3 = 0 → post ((-1)) σ))
set_option maxHeartbeats 4000000 in
set_option maxRecDepth 100000 in
theorem k_X2_gauge_0 {l : Launch} {p : Program} {e : Env} {s : State} {m : MethodId} {below : List Frame} {meth : Method} {c : Code} {args : Array Value} {A : Nat → Prop} {G : Gm} {a : Nat → Nat}  (hF : fx p s m args meth c cX2_gauge 4 yX2_gauge.cls kX2_gauge (some (.int))) {post : Int32 → SM → Prop} {K33 : SM → Int32 → Int32 → Int32 → Prop} (hK33 : ∀ (σ : SM) (v1 : Int32) (v2 : Int32) (v3 : Int32) {H : Heap} {locs : List Loc} {ls : Array Slot}, K33 σ v1 v2 v3 → wb G A s (wM G a σ) H locs → lv_has ls 4 [(0, .ref (a 26)), (1, .int v1), (2, .int v2), (3, .int v3)] → W p l e (rr 1 22) s m args below meth c H locs 0 0 (MQ below (va_Qi post (po G A (wM G a)) A) args s 0 0 A) (F0 m 33 ls [])) (σ : SM) (v1 : Int32) (v2 : Int32) {H : Heap} {locs : List Loc} {ls : Array Slot} (hw : wb G A s (wM G a σ) H locs) (hl : lv_has ls 4 [(0, .ref (a 26)), (1, .int v1), (2, .int v2)]) (hok : wp_X2_gauge_0 σ v1 v2 K33 post) :
    W p l e (rr 1 22) s m args below meth c H locs 0 0 (MQ below (va_Qi post (po G A (wM G a)) A) args s 0 0 A) (F0 m 0 ls []) := by
  unfold wp_X2_gauge_0 at hok
  refine lv_iload_n hF.x hF.b dX2_gauge_0 rfl (lv_at hl 1 rfl) ?_
  refine lv_iconst (v := 0) hF.x hF.b dX2_gauge_1 (by decide) ?_
  refine lv_iconst (v := 2) hF.x hF.b dX2_gauge_2 (by decide) ?_
  refine ca_S hF (c2_isIn l v1 0 2) wv_X2_83 ⟨rfl, nd_X2.1, nd_X2.2, pd_X2_isIn⟩ ⟨rfl, rfl⟩ ⟨Nat.le_of_ble_eq_true rfl, Nat.le_of_ble_eq_true rfl⟩ ⟨Nat.zero_le _, Nat.zero_le _⟩ hl.1 rfl (by first | exact Nat.le_of_ble_eq_true rfl | simp [cat_rf, Value.category]) dX2_gauge_3 (fun r1 er1 => ?_)
  replace hok := hok r1 er1
  refine lv_if_eq (tgt := 19) hF.x hF.b dX2_gauge_6 (by decide) (fun c2 => ?_) (fun c2 => ?_)
  · replace hok := hok.1 c2
    refine lv_iconst (v := (-1)) hF.x hF.b dX2_gauge_19 (by decide) ?_
    exact rt_I (u := σ) hF hw hok (Nat.zero_le _) (Nat.zero_le _) dX2_gauge_20
  · replace hok := hok.2 c2
    refine lv_iload_n hF.x hF.b dX2_gauge_9 rfl (lv_at hl 2 rfl) ?_
    refine lv_iconst (v := 0) hF.x hF.b dX2_gauge_10 (by decide) ?_
    refine lv_bipush (v := 6) hF.x hF.b dX2_gauge_11 (by decide) ?_
    refine ca_S hF (c2_isIn l v2 0 6) wv_X2_83 ⟨rfl, nd_X2.1, nd_X2.2, pd_X2_isIn⟩ ⟨rfl, rfl⟩ ⟨Nat.le_of_ble_eq_true rfl, Nat.le_of_ble_eq_true rfl⟩ ⟨Nat.zero_le _, Nat.zero_le _⟩ hl.1 rfl (by first | exact Nat.le_of_ble_eq_true rfl | simp [cat_rf, Value.category]) dX2_gauge_13 (fun r3 er3 => ?_)
    replace hok := hok r3 er3
    refine lv_if_ne (tgt := 21) hF.x hF.b dX2_gauge_16 (by decide) (fun c4 => ?_) (fun c4 => ?_)
    · replace hok := hok.1 c4
      refine lv_aload_n hF.x hF.b dX2_gauge_21 rfl (lv_at hl 0 rfl) ?_
      refine r_get hF hw 0 rfl rfl inlX2 2 (by decide) wf_X2_13 rfl dX2_gauge_22 ?_
      refine lv_aload_n hF.x hF.b dX2_gauge_25 rfl (lv_at hl 0 rfl) ?_
      refine r_get hF hw 0 rfl rfl inlX2 1 (by decide) wf_X2_64 rfl dX2_gauge_26 ?_
      refine lv_iload_n hF.x hF.b dX2_gauge_29 rfl (lv_at hl 2 rfl) ?_
      refine rm_ast 2 600 2 hF hw (by decide) hok.1 dX2_gauge_30 (fun σ5 H locs eσ5 hw => ?_)
      replace hok := hok.2 σ5 eσ5
      refine lv_iconst (v := 0) hF.x hF.b dX2_gauge_31 (by decide) ?_
      refine lv_istore_n (lv' := [(3, .int 0), (0, .ref (a 26)), (1, .int v1), (2, .int v2)]) hF.x hF.b dX2_gauge_32 rfl hl (by decide) rfl (fun ls hl => ?_)
      exact hK33 σ5 v1 v2 0 hok hw (lv_sub hl [1, 2, 3, 0] rfl)
    · replace hok := hok.2 c4
      refine lv_iconst (v := (-1)) hF.x hF.b dX2_gauge_19 (by decide) ?_
      exact rt_I (u := σ) hF hw hok (Nat.zero_le _) (Nat.zero_le _) dX2_gauge_20

def rn_X2_gauge_33  : Nat → SM → Int32 → Int32 → Int32 → (Int32 → SM → Prop) → Prop
  | 0, σ, v1, v2, v3, post => wp_X2_gauge_33 σ v1 v2 v3 (fun (σq : SM) (v1' : Int32) (v2' : Int32) (v3' : Int32) => False) post
  | n + 1, σ, v1, v2, v3, post => wp_X2_gauge_33 σ v1 v2 v3 (fun (σq : SM) (v1' : Int32) (v2' : Int32) (v3' : Int32) => rn_X2_gauge_33  n σq v1' v2' v3' post) post
theorem ln_X2_gauge_33 {l : Launch} {p : Program} {e : Env} {s : State} {m : MethodId} {below : List Frame} {meth : Method} {c : Code} {args : Array Value} {A : Nat → Prop} {G : Gm} {a : Nat → Nat}  (hF : fx p s m args meth c cX2_gauge 4 yX2_gauge.cls kX2_gauge (some (.int))) {post : Int32 → SM → Prop}  :
    ∀ (n : Nat) (σ : SM) (v1 : Int32) (v2 : Int32) (v3 : Int32) {H : Heap} {locs : List Loc} {ls : Array Slot}, rn_X2_gauge_33  n σ v1 v2 v3 post → wb G A s (wM G a σ) H locs → lv_has ls 4 [(0, .ref (a 26)), (1, .int v1), (2, .int v2), (3, .int v3)] → W p l e (rr 1 22) s m args below meth c H locs 0 0 (MQ below (va_Qi post (po G A (wM G a)) A) args s 0 0 A) (F0 m 33 ls []) := by
  intro n
  induction n with
  | zero =>
    intro σ v1 v2 v3 H locs ls hr hw hl
    exact k_X2_gauge_33 hF (by intro σq v1' v2' v3' H locs ls hI hw hl; exact hI.elim) σ v1 v2 v3 hw hl hr
  | succ n ih =>
    intro σ v1 v2 v3 H locs ls hr hw hl
    exact k_X2_gauge_33 hF (by intro σq v1' v2' v3' H locs ls hI hw hl; exact ih σq v1' v2' v3' hI hw hl) σ v1 v2 v3 hw hl hr
def wpL_X2_gauge (σ : SM) (v1 : Int32) (v2 : Int32) (post : Int32 → SM → Prop) : Prop := wp_X2_gauge_0 σ v1 v2 (fun (σq : SM) (v1' : Int32) (v2' : Int32) (v3' : Int32) => ∃ nq, rn_X2_gauge_33 nq σq v1' v2' v3' post) post

theorem c2_gauge (l : Launch) (G : Gm) (a : Nat → Nat) (σ : SM) (v1 : Int32) (v2 : Int32) {post : Int32 → SM → Prop} (h : wpL_X2_gauge σ v1 v2 post) : ctI l yX2_gauge cX2_gauge 4 .int (rr 1 22) G [.ref (a 26), .int v1, .int v2] (wM G a σ) post (wM G a) := by
  refine en_I (by decide +kernel) (Nat.le_of_ble_eq_true rfl) (fun p e s m below meth c A ls hF hw hl => ?_)
  exact k_X2_gauge_0 hF (by intro σq v1' v2' v3' H locs ls hI hw hl; exact ln_X2_gauge_33 hF  hI.choose σq v1' v2' v3' hI.choose_spec hw hl) σ v1 v2 hw hl h

def wp_X2_mark_0 (σ : SM) (v1 : Int32) (v2 : Int32)  (post : Int32 → SM → Prop) : Prop :=
  ∀ r1 : Int32, r1 = f2_isIn v1 0 2 → (r1 = 0 → post 0 σ) ∧ (¬ r1 = 0 → vp_in v1 3 ∧ ∀ x3 : Int32, x3 = σ.2 4 v1.toNatClampNeg → vp_in x3 600 ∧ ∀ x4 : Int32, x4 = σ.2 2 x3.toNatClampNeg → ∀ x5 : Int32, x5 = x4 - 1 → ∀ r6 : Int32, r6 = f2_isIn v2 0 x5 → (r6 = 0 → post 0 σ) ∧ (¬ r6 = 0 → vp_in v1 3 ∧ ∀ x8 : Int32, x8 = σ.2 4 v1.toNatClampNeg → ∀ x9 : Int32, x9 = 6 * x8 → ∀ x10 : Int32, x10 = x9 + v2 → vp_in x10 3600 ∧ ∀ x11 : Int32, x11 = σ.2 3 x10.toNatClampNeg → post x11 σ))
set_option maxHeartbeats 4000000 in
set_option maxRecDepth 100000 in
theorem k_X2_mark_0 {l : Launch} {p : Program} {e : Env} {s : State} {m : MethodId} {below : List Frame} {meth : Method} {c : Code} {args : Array Value} {A : Nat → Prop} {G : Gm} {a : Nat → Nat}  (hF : fx p s m args meth c cX2_mark 3 yX2_mark.cls kX2_mark (some (.int))) {post : Int32 → SM → Prop}  (σ : SM) (v1 : Int32) (v2 : Int32) {H : Heap} {locs : List Loc} {ls : Array Slot} (hw : wb G A s (wM G a σ) H locs) (hl : lv_has ls 3 [(0, .ref (a 26)), (1, .int v1), (2, .int v2)]) (hok : wp_X2_mark_0 σ v1 v2  post) :
    W p l e (rr 1 22) s m args below meth c H locs 0 0 (MQ below (va_Qi post (po G A (wM G a)) A) args s 0 0 A) (F0 m 0 ls []) := by
  unfold wp_X2_mark_0 at hok
  refine lv_iload_n hF.x hF.b dX2_mark_0 rfl (lv_at hl 1 rfl) ?_
  refine lv_iconst (v := 0) hF.x hF.b dX2_mark_1 (by decide) ?_
  refine lv_iconst (v := 2) hF.x hF.b dX2_mark_2 (by decide) ?_
  refine ca_S hF (c2_isIn l v1 0 2) wv_X2_83 ⟨rfl, nd_X2.1, nd_X2.2, pd_X2_isIn⟩ ⟨rfl, rfl⟩ ⟨Nat.le_of_ble_eq_true rfl, Nat.le_of_ble_eq_true rfl⟩ ⟨Nat.zero_le _, Nat.zero_le _⟩ hl.1 rfl (by first | exact Nat.le_of_ble_eq_true rfl | simp [cat_rf, Value.category]) dX2_mark_3 (fun r1 er1 => ?_)
  replace hok := hok r1 er1
  refine lv_if_eq (tgt := 49) hF.x hF.b dX2_mark_6 (by decide) (fun c2 => ?_) (fun c2 => ?_)
  · replace hok := hok.1 c2
    refine lv_iconst (v := 0) hF.x hF.b dX2_mark_49 (by decide) ?_
    exact rt_I (u := σ) hF hw hok (Nat.zero_le _) (Nat.zero_le _) dX2_mark_50
  · replace hok := hok.2 c2
    refine lv_iload_n hF.x hF.b dX2_mark_9 rfl (lv_at hl 2 rfl) ?_
    refine lv_iconst (v := 0) hF.x hF.b dX2_mark_10 (by decide) ?_
    refine lv_aload_n hF.x hF.b dX2_mark_11 rfl (lv_at hl 0 rfl) ?_
    refine r_get hF hw 0 rfl rfl inlX2 2 (by decide) wf_X2_13 rfl dX2_mark_12 ?_
    refine lv_aload_n hF.x hF.b dX2_mark_15 rfl (lv_at hl 0 rfl) ?_
    refine r_get hF hw 0 rfl rfl inlX2 4 (by decide) wf_X2_19 rfl dX2_mark_16 ?_
    refine lv_iload_n hF.x hF.b dX2_mark_19 rfl (lv_at hl 1 rfl) ?_
    refine rm_ald 4 3 4 hF hw (by decide) hok.1 dX2_mark_20 ?_
    refine lv_topi (fun x3 ex3 => ?_)
    replace hok := hok.2 x3 ex3
    refine rm_ald 2 600 2 hF hw (by decide) hok.1 dX2_mark_21 ?_
    refine lv_topi (fun x4 ex4 => ?_)
    replace hok := hok.2 x4 ex4
    refine lv_iconst (v := 1) hF.x hF.b dX2_mark_22 (by decide) ?_
    refine lv_isub hF.x hF.b dX2_mark_23 ?_
    refine lv_topi (fun x5 ex5 => ?_)
    replace hok := hok x5 ex5
    refine ca_S hF (c2_isIn l v2 0 x5) wv_X2_83 ⟨rfl, nd_X2.1, nd_X2.2, pd_X2_isIn⟩ ⟨rfl, rfl⟩ ⟨Nat.le_of_ble_eq_true rfl, Nat.le_of_ble_eq_true rfl⟩ ⟨Nat.zero_le _, Nat.zero_le _⟩ hl.1 rfl (by first | exact Nat.le_of_ble_eq_true rfl | simp [cat_rf, Value.category]) dX2_mark_24 (fun r6 er6 => ?_)
    replace hok := hok r6 er6
    refine lv_if_eq (tgt := 49) hF.x hF.b dX2_mark_27 (by decide) (fun c7 => ?_) (fun c7 => ?_)
    · replace hok := hok.1 c7
      refine lv_iconst (v := 0) hF.x hF.b dX2_mark_49 (by decide) ?_
      exact rt_I (u := σ) hF hw hok (Nat.zero_le _) (Nat.zero_le _) dX2_mark_50
    · replace hok := hok.2 c7
      refine lv_aload_n hF.x hF.b dX2_mark_30 rfl (lv_at hl 0 rfl) ?_
      refine r_get hF hw 0 rfl rfl inlX2 3 (by decide) wf_X2_16 rfl dX2_mark_31 ?_
      refine lv_bipush (v := 6) hF.x hF.b dX2_mark_34 (by decide) ?_
      refine lv_aload_n hF.x hF.b dX2_mark_36 rfl (lv_at hl 0 rfl) ?_
      refine r_get hF hw 0 rfl rfl inlX2 4 (by decide) wf_X2_19 rfl dX2_mark_37 ?_
      refine lv_iload_n hF.x hF.b dX2_mark_40 rfl (lv_at hl 1 rfl) ?_
      refine rm_ald 4 3 4 hF hw (by decide) hok.1 dX2_mark_41 ?_
      refine lv_topi (fun x8 ex8 => ?_)
      replace hok := hok.2 x8 ex8
      refine lv_imul hF.x hF.b dX2_mark_42 ?_
      refine lv_topi (fun x9 ex9 => ?_)
      replace hok := hok x9 ex9
      refine lv_iload_n hF.x hF.b dX2_mark_43 rfl (lv_at hl 2 rfl) ?_
      refine lv_iadd hF.x hF.b dX2_mark_44 ?_
      refine lv_topi (fun x10 ex10 => ?_)
      replace hok := hok x10 ex10
      refine rm_ald 3 3600 3 hF hw (by decide) hok.1 dX2_mark_45 ?_
      refine lv_topi (fun x11 ex11 => ?_)
      replace hok := hok.2 x11 ex11
      refine lv_goto (tgt := 50) hF.x hF.b dX2_mark_46 (by decide) ?_
      exact rt_I (u := σ) hF hw hok (Nat.zero_le _) (Nat.zero_le _) dX2_mark_50

theorem c2_mark (l : Launch) (G : Gm) (a : Nat → Nat) (σ : SM) (v1 : Int32) (v2 : Int32) {post : Int32 → SM → Prop} (h : wp_X2_mark_0 σ v1 v2 post) : ctI l yX2_mark cX2_mark 3 .int (rr 1 22) G [.ref (a 26), .int v1, .int v2] (wM G a σ) post (wM G a) := by
  refine en_I (by decide +kernel) (Nat.le_of_ble_eq_true rfl) (fun p e s m below meth c A ls hF hw hl => ?_)
  exact k_X2_mark_0 hF  σ v1 v2 hw hl h

def wp_X2_deed_153 (σ : SM) (v1 : Int32) (v2 : Int32) (v3 : Int32) (v4 : Int32) (v5 : Int32) (vs0 : Int32) (vs1 : Int32)  (post : Int32 → SM → Prop) : Prop :=
  vp_in vs1 600 ∧ ∀ σ1 : SM, σ1 = (σ.1, va_up σ.2 8 (upd (σ.2 8) vs1.toNatClampNeg vs0)) → vp_in (σ1.1 5) 600 ∧ ∀ σ2 : SM, σ2 = (σ1.1, va_up σ1.2 9 (upd (σ1.2 9) (σ1.1 5).toNatClampNeg v5)) → vp_in (σ2.1 5) 600 ∧ ∀ σ3 : SM, σ3 = (σ2.1, va_up σ2.2 10 (upd (σ2.2 10) (σ2.1 5).toNatClampNeg 0)) → vp_in v1 20 ∧ ∀ σ4 : SM, σ4 = (σ3.1, va_up σ3.2 11 (upd (σ3.2 11) v1.toNatClampNeg (σ3.1 5))) → ∀ x5 : Int32, x5 = (σ4.1 5) + 1 → ∀ σ6 : SM, σ6 = (va_up σ4.1 5 x5, σ4.2) → post (σ6.1 5) σ6
set_option maxHeartbeats 4000000 in
set_option maxRecDepth 100000 in
theorem k_X2_deed_153 {l : Launch} {p : Program} {e : Env} {s : State} {m : MethodId} {below : List Frame} {meth : Method} {c : Code} {args : Array Value} {A : Nat → Prop} {G : Gm} {a : Nat → Nat}  (hF : fx p s m args meth c cX2_deed 6 yX2_deed.cls kX2_deed (some (.int))) {post : Int32 → SM → Prop}  (σ : SM) (v1 : Int32) (v2 : Int32) (v3 : Int32) (v4 : Int32) (v5 : Int32) (vs0 : Int32) (vs1 : Int32) {H : Heap} {locs : List Loc} {ls : Array Slot} (hw : wb G A s (wM G a σ) H locs) (hl : lv_has ls 6 [(0, .ref (a 26)), (1, .int v1), (2, .int v2), (3, .int v3), (4, .int v4), (5, .int v5)]) (hok : wp_X2_deed_153 σ v1 v2 v3 v4 v5 vs0 vs1  post) :
    W p l e (rr 3 65) s m args below meth c H locs 0 0 (MQ below (va_Qi post (po G A (wM G a)) A) args s 0 0 A) (F0 m 153 ls [.int vs0, .int vs1, .ref (a 8)]) := by
  unfold wp_X2_deed_153 at hok
  refine rm_ast 8 600 7 hF hw (by decide) hok.1 dX2_deed_153 (fun σ1 H locs eσ1 hw => ?_)
  replace hok := hok.2 σ1 eσ1
  refine lv_aload_n hF.x hF.b dX2_deed_154 rfl (lv_at hl 0 rfl) ?_
  refine r_get hF hw 0 rfl rfl inlX2 9 (by decide) wf_X2_31 rfl dX2_deed_155 ?_
  refine lv_aload_n hF.x hF.b dX2_deed_158 rfl (lv_at hl 0 rfl) ?_
  refine r_get hF hw 0 rfl rfl inlX2 5 (by decide) wf_X2_68 rfl dX2_deed_159 ?_
  refine lv_iload hF.x hF.b dX2_deed_162 (lv_at hl 5 rfl) ?_
  refine rm_ast 9 600 8 hF hw (by decide) hok.1 dX2_deed_164 (fun σ2 H locs eσ2 hw => ?_)
  replace hok := hok.2 σ2 eσ2
  refine lv_aload_n hF.x hF.b dX2_deed_165 rfl (lv_at hl 0 rfl) ?_
  refine r_get hF hw 0 rfl rfl inlX2 10 (by decide) wf_X2_34 rfl dX2_deed_166 ?_
  refine lv_aload_n hF.x hF.b dX2_deed_169 rfl (lv_at hl 0 rfl) ?_
  refine r_get hF hw 0 rfl rfl inlX2 5 (by decide) wf_X2_68 rfl dX2_deed_170 ?_
  refine lv_iconst (v := 0) hF.x hF.b dX2_deed_173 (by decide) ?_
  refine rm_ast 10 600 9 hF hw (by decide) hok.1 dX2_deed_174 (fun σ3 H locs eσ3 hw => ?_)
  replace hok := hok.2 σ3 eσ3
  refine lv_aload_n hF.x hF.b dX2_deed_175 rfl (lv_at hl 0 rfl) ?_
  refine r_get hF hw 0 rfl rfl inlX2 11 (by decide) wf_X2_37 rfl dX2_deed_176 ?_
  refine lv_iload_n hF.x hF.b dX2_deed_179 rfl (lv_at hl 1 rfl) ?_
  refine lv_aload_n hF.x hF.b dX2_deed_180 rfl (lv_at hl 0 rfl) ?_
  refine r_get hF hw 0 rfl rfl inlX2 5 (by decide) wf_X2_68 rfl dX2_deed_181 ?_
  refine rm_ast 11 20 10 hF hw (by decide) hok.1 dX2_deed_184 (fun σ4 H locs eσ4 hw => ?_)
  replace hok := hok.2 σ4 eσ4
  refine lv_aload_n hF.x hF.b dX2_deed_185 rfl (lv_at hl 0 rfl) ?_
  refine lv_dup hF.x hF.b dX2_deed_186 rfl ?_
  refine r_get hF hw 0 rfl rfl inlX2 5 (by decide) wf_X2_68 rfl dX2_deed_187 ?_
  refine lv_iconst (v := 1) hF.x hF.b dX2_deed_190 (by decide) ?_
  refine lv_iadd hF.x hF.b dX2_deed_191 ?_
  refine lv_topi (fun x5 ex5 => ?_)
  replace hok := hok x5 ex5
  refine rm_put (v := x5) 5 hF hw (by decide) wf_X2_68 dX2_deed_192 (fun σ6 H locs eσ6 hw => ?_)
  replace hok := hok σ6 eσ6
  refine lv_aload_n hF.x hF.b dX2_deed_195 rfl (lv_at hl 0 rfl) ?_
  refine r_get hF hw 0 rfl rfl inlX2 5 (by decide) wf_X2_68 rfl dX2_deed_196 ?_
  exact rt_I (u := σ6) hF hw hok (Nat.zero_le _) (Nat.zero_le _) dX2_deed_199
def wp_X2_deed_125 (σ : SM) (v1 : Int32) (v2 : Int32) (v3 : Int32) (v4 : Int32) (v5 : Int32) (vs0 : Int32) (vs1 : Int32)  (post : Int32 → SM → Prop) : Prop :=
  vp_in vs1 600 ∧ ∀ σ1 : SM, σ1 = (σ.1, va_up σ.2 7 (upd (σ.2 7) vs1.toNatClampNeg vs0)) → ∀ r2 : Int32, r2 = f1_holdsSecond v2 → (r2 = 0 → wp_X2_deed_153 σ1 v1 v2 v3 v4 v5 v4 (σ1.1 5)  post) ∧ (¬ r2 = 0 → vp_in v4 20 ∧ ∀ x4 : Int32, x4 = σ1.2 11 v4.toNatClampNeg → wp_X2_deed_153 σ1 v1 v2 v3 v4 v5 x4 (σ1.1 5)  post)
set_option maxHeartbeats 4000000 in
set_option maxRecDepth 100000 in
theorem k_X2_deed_125 {l : Launch} {p : Program} {e : Env} {s : State} {m : MethodId} {below : List Frame} {meth : Method} {c : Code} {args : Array Value} {A : Nat → Prop} {G : Gm} {a : Nat → Nat}  (hF : fx p s m args meth c cX2_deed 6 yX2_deed.cls kX2_deed (some (.int))) {post : Int32 → SM → Prop}  (σ : SM) (v1 : Int32) (v2 : Int32) (v3 : Int32) (v4 : Int32) (v5 : Int32) (vs0 : Int32) (vs1 : Int32) {H : Heap} {locs : List Loc} {ls : Array Slot} (hw : wb G A s (wM G a σ) H locs) (hl : lv_has ls 6 [(0, .ref (a 26)), (1, .int v1), (2, .int v2), (3, .int v3), (4, .int v4), (5, .int v5)]) (hok : wp_X2_deed_125 σ v1 v2 v3 v4 v5 vs0 vs1  post) :
    W p l e (rr 3 65) s m args below meth c H locs 0 0 (MQ below (va_Qi post (po G A (wM G a)) A) args s 0 0 A) (F0 m 125 ls [.int vs0, .int vs1, .ref (a 7)]) := by
  unfold wp_X2_deed_125 at hok
  refine rm_ast 7 600 6 hF hw (by decide) hok.1 dX2_deed_125 (fun σ1 H locs eσ1 hw => ?_)
  replace hok := hok.2 σ1 eσ1
  refine lv_aload_n hF.x hF.b dX2_deed_126 rfl (lv_at hl 0 rfl) ?_
  refine r_get hF hw 0 rfl rfl inlX2 8 (by decide) wf_X2_28 rfl dX2_deed_127 ?_
  refine lv_aload_n hF.x hF.b dX2_deed_130 rfl (lv_at hl 0 rfl) ?_
  refine r_get hF hw 0 rfl rfl inlX2 5 (by decide) wf_X2_68 rfl dX2_deed_131 ?_
  refine lv_iload_n hF.x hF.b dX2_deed_134 rfl (lv_at hl 2 rfl) ?_
  refine ca_S hF (c2_holdsTwo l v2) wv_X2_101 ⟨rfl, nd_X2.1, nd_X2.2, pd_X2_holdsTwo⟩ ⟨rfl, rfl⟩ ⟨Nat.le_of_ble_eq_true rfl, Nat.le_of_ble_eq_true rfl⟩ ⟨Nat.zero_le _, Nat.zero_le _⟩ hl.1 rfl (by first | exact Nat.le_of_ble_eq_true rfl | simp [cat_rf, Value.category]) dX2_deed_135 (fun r2 er2 => ?_)
  replace hok := hok r2 er2
  refine lv_if_eq (tgt := 151) hF.x hF.b dX2_deed_138 (by decide) (fun c3 => ?_) (fun c3 => ?_)
  · replace hok := hok.1 c3
    refine lv_iload hF.x hF.b dX2_deed_151 (lv_at hl 4 rfl) ?_
    exact k_X2_deed_153  hF  σ1 v1 v2 v3 v4 v5 v4 (σ1.1 5) hw (lv_sub hl [0, 1, 2, 3, 4, 5] rfl) hok
  · replace hok := hok.2 c3
    refine lv_aload_n hF.x hF.b dX2_deed_141 rfl (lv_at hl 0 rfl) ?_
    refine r_get hF hw 0 rfl rfl inlX2 11 (by decide) wf_X2_37 rfl dX2_deed_142 ?_
    refine lv_iload hF.x hF.b dX2_deed_145 (lv_at hl 4 rfl) ?_
    refine rm_ald 11 20 10 hF hw (by decide) hok.1 dX2_deed_147 ?_
    refine lv_topi (fun x4 ex4 => ?_)
    replace hok := hok.2 x4 ex4
    refine lv_goto (tgt := 153) hF.x hF.b dX2_deed_148 (by decide) ?_
    exact k_X2_deed_153  hF  σ1 v1 v2 v3 v4 v5 x4 (σ1.1 5) hw (lv_sub hl [0, 1, 2, 3, 4, 5] rfl) hok
def wp_X2_deed_61 (σ : SM) (v1 : Int32) (v2 : Int32) (v3 : Int32) (v4 : Int32) (v5 : Int32)  (post : Int32 → SM → Prop) : Prop :=
  vp_in (σ.1 5) 600 ∧ ∀ σ1 : SM, σ1 = (σ.1, va_up σ.2 6 (upd (σ.2 6) (σ.1 5).toNatClampNeg v2)) → ∀ r2 : Int32, r2 = f1_holdsFirst v2 → (r2 = 0 → (¬ v2 = 4 → (¬ v2 = 6 → wp_X2_deed_125 σ1 v1 v2 v3 v4 v5 v3 (σ1.1 5)  post) ∧ (v2 = 6 → vp_in v3 10 ∧ ∀ x6 : Int32, x6 = σ1.2 0 v3.toNatClampNeg → wp_X2_deed_125 σ1 v1 v2 v3 v4 v5 x6 (σ1.1 5)  post)) ∧ (v2 = 4 → vp_in v3 3 ∧ ∀ x7 : Int32, x7 = σ1.2 4 v3.toNatClampNeg → wp_X2_deed_125 σ1 v1 v2 v3 v4 v5 x7 (σ1.1 5)  post)) ∧ (¬ r2 = 0 → vp_in v3 20 ∧ ∀ x8 : Int32, x8 = σ1.2 11 v3.toNatClampNeg → wp_X2_deed_125 σ1 v1 v2 v3 v4 v5 x8 (σ1.1 5)  post)
set_option maxHeartbeats 4000000 in
set_option maxRecDepth 100000 in
theorem k_X2_deed_61 {l : Launch} {p : Program} {e : Env} {s : State} {m : MethodId} {below : List Frame} {meth : Method} {c : Code} {args : Array Value} {A : Nat → Prop} {G : Gm} {a : Nat → Nat}  (hF : fx p s m args meth c cX2_deed 6 yX2_deed.cls kX2_deed (some (.int))) {post : Int32 → SM → Prop}  (σ : SM) (v1 : Int32) (v2 : Int32) (v3 : Int32) (v4 : Int32) (v5 : Int32) {H : Heap} {locs : List Loc} {ls : Array Slot} (hw : wb G A s (wM G a σ) H locs) (hl : lv_has ls 6 [(0, .ref (a 26)), (1, .int v1), (2, .int v2), (3, .int v3), (4, .int v4), (5, .int v5)]) (hok : wp_X2_deed_61 σ v1 v2 v3 v4 v5  post) :
    W p l e (rr 3 65) s m args below meth c H locs 0 0 (MQ below (va_Qi post (po G A (wM G a)) A) args s 0 0 A) (F0 m 61 ls []) := by
  unfold wp_X2_deed_61 at hok
  refine lv_aload_n hF.x hF.b dX2_deed_61 rfl (lv_at hl 0 rfl) ?_
  refine r_get hF hw 0 rfl rfl inlX2 6 (by decide) wf_X2_22 rfl dX2_deed_62 ?_
  refine lv_aload_n hF.x hF.b dX2_deed_65 rfl (lv_at hl 0 rfl) ?_
  refine r_get hF hw 0 rfl rfl inlX2 5 (by decide) wf_X2_68 rfl dX2_deed_66 ?_
  refine lv_iload_n hF.x hF.b dX2_deed_69 rfl (lv_at hl 2 rfl) ?_
  refine rm_ast 6 600 5 hF hw (by decide) hok.1 dX2_deed_70 (fun σ1 H locs eσ1 hw => ?_)
  replace hok := hok.2 σ1 eσ1
  refine lv_aload_n hF.x hF.b dX2_deed_71 rfl (lv_at hl 0 rfl) ?_
  refine r_get hF hw 0 rfl rfl inlX2 7 (by decide) wf_X2_25 rfl dX2_deed_72 ?_
  refine lv_aload_n hF.x hF.b dX2_deed_75 rfl (lv_at hl 0 rfl) ?_
  refine r_get hF hw 0 rfl rfl inlX2 5 (by decide) wf_X2_68 rfl dX2_deed_76 ?_
  refine lv_iload_n hF.x hF.b dX2_deed_79 rfl (lv_at hl 2 rfl) ?_
  refine ca_S hF (c2_holdsOne l v2) wv_X2_98 ⟨rfl, nd_X2.1, nd_X2.2, pd_X2_holdsOne⟩ ⟨rfl, rfl⟩ ⟨Nat.le_of_ble_eq_true rfl, Nat.le_of_ble_eq_true rfl⟩ ⟨Nat.zero_le _, Nat.zero_le _⟩ hl.1 rfl (by first | exact Nat.le_of_ble_eq_true rfl | simp [cat_rf, Value.category]) dX2_deed_80 (fun r2 er2 => ?_)
  replace hok := hok r2 er2
  refine lv_if_eq (tgt := 95) hF.x hF.b dX2_deed_83 (by decide) (fun c3 => ?_) (fun c3 => ?_)
  · replace hok := hok.1 c3
    refine lv_iload_n hF.x hF.b dX2_deed_95 rfl (lv_at hl 2 rfl) ?_
    refine lv_iconst (v := 4) hF.x hF.b dX2_deed_96 (by decide) ?_
    refine lv_icmp_ne (tgt := 109) hF.x hF.b dX2_deed_97 (by decide) (fun c4 => ?_) (fun c4 => ?_)
    · replace hok := hok.1 c4
      refine lv_iload_n hF.x hF.b dX2_deed_109 rfl (lv_at hl 2 rfl) ?_
      refine lv_bipush (v := 6) hF.x hF.b dX2_deed_110 (by decide) ?_
      refine lv_icmp_ne (tgt := 124) hF.x hF.b dX2_deed_112 (by decide) (fun c5 => ?_) (fun c5 => ?_)
      · replace hok := hok.1 c5
        refine lv_iload_n hF.x hF.b dX2_deed_124 rfl (lv_at hl 3 rfl) ?_
        exact k_X2_deed_125  hF  σ1 v1 v2 v3 v4 v5 v3 (σ1.1 5) hw (lv_sub hl [0, 1, 2, 3, 4, 5] rfl) hok
      · replace hok := hok.2 c5
        refine lv_aload_n hF.x hF.b dX2_deed_115 rfl (lv_at hl 0 rfl) ?_
        refine r_get hF hw 0 rfl rfl inlX2 0 (by decide) wf_X2_7 rfl dX2_deed_116 ?_
        refine lv_iload_n hF.x hF.b dX2_deed_119 rfl (lv_at hl 3 rfl) ?_
        refine rm_ald 0 10 1 hF hw (by decide) hok.1 dX2_deed_120 ?_
        refine lv_topi (fun x6 ex6 => ?_)
        replace hok := hok.2 x6 ex6
        refine lv_goto (tgt := 125) hF.x hF.b dX2_deed_121 (by decide) ?_
        exact k_X2_deed_125  hF  σ1 v1 v2 v3 v4 v5 x6 (σ1.1 5) hw (lv_sub hl [0, 1, 2, 3, 4, 5] rfl) hok
    · replace hok := hok.2 c4
      refine lv_aload_n hF.x hF.b dX2_deed_100 rfl (lv_at hl 0 rfl) ?_
      refine r_get hF hw 0 rfl rfl inlX2 4 (by decide) wf_X2_19 rfl dX2_deed_101 ?_
      refine lv_iload_n hF.x hF.b dX2_deed_104 rfl (lv_at hl 3 rfl) ?_
      refine rm_ald 4 3 4 hF hw (by decide) hok.1 dX2_deed_105 ?_
      refine lv_topi (fun x7 ex7 => ?_)
      replace hok := hok.2 x7 ex7
      refine lv_goto (tgt := 125) hF.x hF.b dX2_deed_106 (by decide) ?_
      exact k_X2_deed_125  hF  σ1 v1 v2 v3 v4 v5 x7 (σ1.1 5) hw (lv_sub hl [0, 1, 2, 3, 4, 5] rfl) hok
  · replace hok := hok.2 c3
    refine lv_aload_n hF.x hF.b dX2_deed_86 rfl (lv_at hl 0 rfl) ?_
    refine r_get hF hw 0 rfl rfl inlX2 11 (by decide) wf_X2_37 rfl dX2_deed_87 ?_
    refine lv_iload_n hF.x hF.b dX2_deed_90 rfl (lv_at hl 3 rfl) ?_
    refine rm_ald 11 20 10 hF hw (by decide) hok.1 dX2_deed_91 ?_
    refine lv_topi (fun x8 ex8 => ?_)
    replace hok := hok.2 x8 ex8
    refine lv_goto (tgt := 125) hF.x hF.b dX2_deed_92 (by decide) ?_
    exact k_X2_deed_125  hF  σ1 v1 v2 v3 v4 v5 x8 (σ1.1 5) hw (lv_sub hl [0, 1, 2, 3, 4, 5] rfl) hok
def wp_X2_deed_39 (σ : SM) (v1 : Int32) (v2 : Int32) (v3 : Int32) (v4 : Int32) (v5 : Int32)  (post : Int32 → SM → Prop) : Prop :=
  ∀ r1 : Int32, r1 = f1_holdsSecond v2 → (r1 = 0 → wp_X2_deed_61 σ v1 v2 v3 v4 v5  post) ∧ (¬ r1 = 0 → vp_in v4 20 ∧ ∀ x3 : Int32, x3 = σ.2 11 v4.toNatClampNeg → (¬ x3 = ((-2)) → wp_X2_deed_61 σ v1 v2 v3 v4 v5  post) ∧ (x3 = ((-2)) → post ((-2)) σ))
set_option maxHeartbeats 4000000 in
set_option maxRecDepth 100000 in
theorem k_X2_deed_39 {l : Launch} {p : Program} {e : Env} {s : State} {m : MethodId} {below : List Frame} {meth : Method} {c : Code} {args : Array Value} {A : Nat → Prop} {G : Gm} {a : Nat → Nat}  (hF : fx p s m args meth c cX2_deed 6 yX2_deed.cls kX2_deed (some (.int))) {post : Int32 → SM → Prop}  (σ : SM) (v1 : Int32) (v2 : Int32) (v3 : Int32) (v4 : Int32) (v5 : Int32) {H : Heap} {locs : List Loc} {ls : Array Slot} (hw : wb G A s (wM G a σ) H locs) (hl : lv_has ls 6 [(0, .ref (a 26)), (1, .int v1), (2, .int v2), (3, .int v3), (4, .int v4), (5, .int v5)]) (hok : wp_X2_deed_39 σ v1 v2 v3 v4 v5  post) :
    W p l e (rr 3 65) s m args below meth c H locs 0 0 (MQ below (va_Qi post (po G A (wM G a)) A) args s 0 0 A) (F0 m 39 ls []) := by
  unfold wp_X2_deed_39 at hok
  refine lv_iload_n hF.x hF.b dX2_deed_39 rfl (lv_at hl 2 rfl) ?_
  refine ca_S hF (c2_holdsTwo l v2) wv_X2_101 ⟨rfl, nd_X2.1, nd_X2.2, pd_X2_holdsTwo⟩ ⟨rfl, rfl⟩ ⟨Nat.le_of_ble_eq_true rfl, Nat.le_of_ble_eq_true rfl⟩ ⟨Nat.zero_le _, Nat.zero_le _⟩ hl.1 rfl (by first | exact Nat.le_of_ble_eq_true rfl | simp [cat_rf, Value.category]) dX2_deed_40 (fun r1 er1 => ?_)
  replace hok := hok r1 er1
  refine lv_if_eq (tgt := 61) hF.x hF.b dX2_deed_43 (by decide) (fun c2 => ?_) (fun c2 => ?_)
  · replace hok := hok.1 c2
    exact k_X2_deed_61  hF  σ v1 v2 v3 v4 v5 hw (lv_sub hl [0, 1, 2, 3, 4, 5] rfl) hok
  · replace hok := hok.2 c2
    refine lv_aload_n hF.x hF.b dX2_deed_46 rfl (lv_at hl 0 rfl) ?_
    refine r_get hF hw 0 rfl rfl inlX2 11 (by decide) wf_X2_37 rfl dX2_deed_47 ?_
    refine lv_iload hF.x hF.b dX2_deed_50 (lv_at hl 4 rfl) ?_
    refine rm_ald 11 20 10 hF hw (by decide) hok.1 dX2_deed_52 ?_
    refine lv_topi (fun x3 ex3 => ?_)
    replace hok := hok.2 x3 ex3
    refine lv_bipush (v := (-2)) hF.x hF.b dX2_deed_53 (by decide) ?_
    refine lv_icmp_ne (tgt := 61) hF.x hF.b dX2_deed_55 (by decide) (fun c4 => ?_) (fun c4 => ?_)
    · replace hok := hok.1 c4
      exact k_X2_deed_61  hF  σ v1 v2 v3 v4 v5 hw (lv_sub hl [0, 1, 2, 3, 4, 5] rfl) hok
    · replace hok := hok.2 c4
      refine lv_bipush (v := (-2)) hF.x hF.b dX2_deed_58 (by decide) ?_
      exact rt_I (u := σ) hF hw hok (Nat.zero_le _) (Nat.zero_le _) dX2_deed_60
def wp_X2_deed_0 (σ : SM) (v1 : Int32) (v2 : Int32) (v3 : Int32) (v4 : Int32) (v5 : Int32)  (post : Int32 → SM → Prop) : Prop :=
  ∀ r1 : Int32, r1 = f1_isSlot v1 → (r1 = 0 → post ((-1)) σ) ∧ (¬ r1 = 0 → ∀ r3 : Int32, r3 = f1_namesWhatThereIs v2 v3 v4 v5 → (¬ r3 = 0 → ∀ r5 : Int32, r5 = f1_holdsFirst v2 → (r5 = 0 → wp_X2_deed_39 σ v1 v2 v3 v4 v5  post) ∧ (¬ r5 = 0 → vp_in v3 20 ∧ ∀ x7 : Int32, x7 = σ.2 11 v3.toNatClampNeg → (x7 = ((-2)) → post ((-2)) σ) ∧ (¬ x7 = ((-2)) → wp_X2_deed_39 σ v1 v2 v3 v4 v5  post))) ∧ (r3 = 0 → post ((-1)) σ))
set_option maxHeartbeats 4000000 in
set_option maxRecDepth 100000 in
theorem k_X2_deed_0 {l : Launch} {p : Program} {e : Env} {s : State} {m : MethodId} {below : List Frame} {meth : Method} {c : Code} {args : Array Value} {A : Nat → Prop} {G : Gm} {a : Nat → Nat}  (hF : fx p s m args meth c cX2_deed 6 yX2_deed.cls kX2_deed (some (.int))) {post : Int32 → SM → Prop}  (σ : SM) (v1 : Int32) (v2 : Int32) (v3 : Int32) (v4 : Int32) (v5 : Int32) {H : Heap} {locs : List Loc} {ls : Array Slot} (hw : wb G A s (wM G a σ) H locs) (hl : lv_has ls 6 [(0, .ref (a 26)), (1, .int v1), (2, .int v2), (3, .int v3), (4, .int v4), (5, .int v5)]) (hok : wp_X2_deed_0 σ v1 v2 v3 v4 v5  post) :
    W p l e (rr 3 65) s m args below meth c H locs 0 0 (MQ below (va_Qi post (po G A (wM G a)) A) args s 0 0 A) (F0 m 0 ls []) := by
  unfold wp_X2_deed_0 at hok
  refine lv_iload_n hF.x hF.b dX2_deed_0 rfl (lv_at hl 1 rfl) ?_
  refine ca_S hF (c2_isSlot l v1) wv_X2_91 ⟨rfl, nd_X2.1, nd_X2.2, pd_X2_isSlot⟩ ⟨rfl, rfl⟩ ⟨Nat.le_of_ble_eq_true rfl, Nat.le_of_ble_eq_true rfl⟩ ⟨Nat.zero_le _, Nat.zero_le _⟩ hl.1 rfl (by first | exact Nat.le_of_ble_eq_true rfl | simp [cat_rf, Value.category]) dX2_deed_1 (fun r1 er1 => ?_)
  replace hok := hok r1 er1
  refine lv_if_eq (tgt := 19) hF.x hF.b dX2_deed_4 (by decide) (fun c2 => ?_) (fun c2 => ?_)
  · replace hok := hok.1 c2
    refine lv_iconst (v := (-1)) hF.x hF.b dX2_deed_19 (by decide) ?_
    exact rt_I (u := σ) hF hw hok (Nat.zero_le _) (Nat.zero_le _) dX2_deed_20
  · replace hok := hok.2 c2
    refine lv_iload_n hF.x hF.b dX2_deed_7 rfl (lv_at hl 2 rfl) ?_
    refine lv_iload_n hF.x hF.b dX2_deed_8 rfl (lv_at hl 3 rfl) ?_
    refine lv_iload hF.x hF.b dX2_deed_9 (lv_at hl 4 rfl) ?_
    refine lv_iload hF.x hF.b dX2_deed_11 (lv_at hl 5 rfl) ?_
    refine ca_S hF (c2_isRight l v2 v3 v4 v5) wv_X2_94 ⟨rfl, nd_X2.1, nd_X2.2, pd_X2_isRight⟩ ⟨rfl, rfl⟩ ⟨Nat.le_of_ble_eq_true rfl, Nat.le_of_ble_eq_true rfl⟩ ⟨Nat.zero_le _, Nat.zero_le _⟩ hl.1 rfl (by first | exact Nat.le_of_ble_eq_true rfl | simp [cat_rf, Value.category]) dX2_deed_13 (fun r3 er3 => ?_)
    replace hok := hok r3 er3
    refine lv_if_ne (tgt := 21) hF.x hF.b dX2_deed_16 (by decide) (fun c4 => ?_) (fun c4 => ?_)
    · replace hok := hok.1 c4
      refine lv_iload_n hF.x hF.b dX2_deed_21 rfl (lv_at hl 2 rfl) ?_
      refine ca_S hF (c2_holdsOne l v2) wv_X2_98 ⟨rfl, nd_X2.1, nd_X2.2, pd_X2_holdsOne⟩ ⟨rfl, rfl⟩ ⟨Nat.le_of_ble_eq_true rfl, Nat.le_of_ble_eq_true rfl⟩ ⟨Nat.zero_le _, Nat.zero_le _⟩ hl.1 rfl (by first | exact Nat.le_of_ble_eq_true rfl | simp [cat_rf, Value.category]) dX2_deed_22 (fun r5 er5 => ?_)
      replace hok := hok r5 er5
      refine lv_if_eq (tgt := 39) hF.x hF.b dX2_deed_25 (by decide) (fun c6 => ?_) (fun c6 => ?_)
      · replace hok := hok.1 c6
        exact k_X2_deed_39  hF  σ v1 v2 v3 v4 v5 hw (lv_sub hl [0, 1, 2, 3, 4, 5] rfl) hok
      · replace hok := hok.2 c6
        refine lv_aload_n hF.x hF.b dX2_deed_28 rfl (lv_at hl 0 rfl) ?_
        refine r_get hF hw 0 rfl rfl inlX2 11 (by decide) wf_X2_37 rfl dX2_deed_29 ?_
        refine lv_iload_n hF.x hF.b dX2_deed_32 rfl (lv_at hl 3 rfl) ?_
        refine rm_ald 11 20 10 hF hw (by decide) hok.1 dX2_deed_33 ?_
        refine lv_topi (fun x7 ex7 => ?_)
        replace hok := hok.2 x7 ex7
        refine lv_bipush (v := (-2)) hF.x hF.b dX2_deed_34 (by decide) ?_
        refine lv_icmp_eq (tgt := 58) hF.x hF.b dX2_deed_36 (by decide) (fun c8 => ?_) (fun c8 => ?_)
        · replace hok := hok.1 c8
          refine lv_bipush (v := (-2)) hF.x hF.b dX2_deed_58 (by decide) ?_
          exact rt_I (u := σ) hF hw hok (Nat.zero_le _) (Nat.zero_le _) dX2_deed_60
        · replace hok := hok.2 c8
          exact k_X2_deed_39  hF  σ v1 v2 v3 v4 v5 hw (lv_sub hl [0, 1, 2, 3, 4, 5] rfl) hok
    · replace hok := hok.2 c4
      refine lv_iconst (v := (-1)) hF.x hF.b dX2_deed_19 (by decide) ?_
      exact rt_I (u := σ) hF hw hok (Nat.zero_le _) (Nat.zero_le _) dX2_deed_20

theorem c2_deed (l : Launch) (G : Gm) (a : Nat → Nat) (σ : SM) (v1 : Int32) (v2 : Int32) (v3 : Int32) (v4 : Int32) (v5 : Int32) {post : Int32 → SM → Prop} (h : wp_X2_deed_0 σ v1 v2 v3 v4 v5 post) : ctI l yX2_deed cX2_deed 6 .int (rr 3 65) G [.ref (a 26), .int v1, .int v2, .int v3, .int v4, .int v5] (wM G a σ) post (wM G a) := by
  refine en_I (by decide +kernel) (Nat.le_of_ble_eq_true rfl) (fun p e s m below meth c A ls hF hw hl => ?_)
  exact k_X2_deed_0 hF  σ v1 v2 v3 v4 v5 hw hl h

def wp_X2_copy_0 (σ : SM) (v1 : Int32) (v2 : Int32)  (post : Int32 → SM → Prop) : Prop :=
  ∀ r1 : Int32, r1 = f1_isSlot v1 → (r1 = 0 → post ((-1)) σ) ∧ (¬ r1 = 0 → ∀ r3 : Int32, r3 = f1_isSlot v2 → (¬ r3 = 0 → vp_in v1 20 ∧ ∀ x5 : Int32, x5 = σ.2 11 v1.toNatClampNeg → (¬ x5 = ((-2)) → vp_in v1 20 ∧ ∀ x7 : Int32, x7 = σ.2 11 v1.toNatClampNeg → vp_in v2 20 ∧ ∀ σ8 : SM, σ8 = (σ.1, va_up σ.2 11 (upd (σ.2 11) v2.toNatClampNeg x7)) → post 1 σ8) ∧ (x5 = ((-2)) → post ((-2)) σ)) ∧ (r3 = 0 → post ((-1)) σ))
set_option maxHeartbeats 4000000 in
set_option maxRecDepth 100000 in
theorem k_X2_copy_0 {l : Launch} {p : Program} {e : Env} {s : State} {m : MethodId} {below : List Frame} {meth : Method} {c : Code} {args : Array Value} {A : Nat → Prop} {G : Gm} {a : Nat → Nat}  (hF : fx p s m args meth c cX2_copy 3 yX2_copy.cls kX2_copy (some (.int))) {post : Int32 → SM → Prop}  (σ : SM) (v1 : Int32) (v2 : Int32) {H : Heap} {locs : List Loc} {ls : Array Slot} (hw : wb G A s (wM G a σ) H locs) (hl : lv_has ls 3 [(0, .ref (a 26)), (1, .int v1), (2, .int v2)]) (hok : wp_X2_copy_0 σ v1 v2  post) :
    W p l e (rr 2 42) s m args below meth c H locs 0 0 (MQ below (va_Qi post (po G A (wM G a)) A) args s 0 0 A) (F0 m 0 ls []) := by
  unfold wp_X2_copy_0 at hok
  refine lv_iload_n hF.x hF.b dX2_copy_0 rfl (lv_at hl 1 rfl) ?_
  refine ca_S hF (c2_isSlot l v1) wv_X2_91 ⟨rfl, nd_X2.1, nd_X2.2, pd_X2_isSlot⟩ ⟨rfl, rfl⟩ ⟨Nat.le_of_ble_eq_true rfl, Nat.le_of_ble_eq_true rfl⟩ ⟨Nat.zero_le _, Nat.zero_le _⟩ hl.1 rfl (by first | exact Nat.le_of_ble_eq_true rfl | simp [cat_rf, Value.category]) dX2_copy_1 (fun r1 er1 => ?_)
  replace hok := hok r1 er1
  refine lv_if_eq (tgt := 14) hF.x hF.b dX2_copy_4 (by decide) (fun c2 => ?_) (fun c2 => ?_)
  · replace hok := hok.1 c2
    refine lv_iconst (v := (-1)) hF.x hF.b dX2_copy_14 (by decide) ?_
    exact rt_I (u := σ) hF hw hok (Nat.zero_le _) (Nat.zero_le _) dX2_copy_15
  · replace hok := hok.2 c2
    refine lv_iload_n hF.x hF.b dX2_copy_7 rfl (lv_at hl 2 rfl) ?_
    refine ca_S hF (c2_isSlot l v2) wv_X2_91 ⟨rfl, nd_X2.1, nd_X2.2, pd_X2_isSlot⟩ ⟨rfl, rfl⟩ ⟨Nat.le_of_ble_eq_true rfl, Nat.le_of_ble_eq_true rfl⟩ ⟨Nat.zero_le _, Nat.zero_le _⟩ hl.1 rfl (by first | exact Nat.le_of_ble_eq_true rfl | simp [cat_rf, Value.category]) dX2_copy_8 (fun r3 er3 => ?_)
    replace hok := hok r3 er3
    refine lv_if_ne (tgt := 16) hF.x hF.b dX2_copy_11 (by decide) (fun c4 => ?_) (fun c4 => ?_)
    · replace hok := hok.1 c4
      refine lv_aload_n hF.x hF.b dX2_copy_16 rfl (lv_at hl 0 rfl) ?_
      refine r_get hF hw 0 rfl rfl inlX2 11 (by decide) wf_X2_37 rfl dX2_copy_17 ?_
      refine lv_iload_n hF.x hF.b dX2_copy_20 rfl (lv_at hl 1 rfl) ?_
      refine rm_ald 11 20 10 hF hw (by decide) hok.1 dX2_copy_21 ?_
      refine lv_topi (fun x5 ex5 => ?_)
      replace hok := hok.2 x5 ex5
      refine lv_bipush (v := (-2)) hF.x hF.b dX2_copy_22 (by decide) ?_
      refine lv_icmp_ne (tgt := 30) hF.x hF.b dX2_copy_24 (by decide) (fun c6 => ?_) (fun c6 => ?_)
      · replace hok := hok.1 c6
        refine lv_aload_n hF.x hF.b dX2_copy_30 rfl (lv_at hl 0 rfl) ?_
        refine r_get hF hw 0 rfl rfl inlX2 11 (by decide) wf_X2_37 rfl dX2_copy_31 ?_
        refine lv_iload_n hF.x hF.b dX2_copy_34 rfl (lv_at hl 2 rfl) ?_
        refine lv_aload_n hF.x hF.b dX2_copy_35 rfl (lv_at hl 0 rfl) ?_
        refine r_get hF hw 0 rfl rfl inlX2 11 (by decide) wf_X2_37 rfl dX2_copy_36 ?_
        refine lv_iload_n hF.x hF.b dX2_copy_39 rfl (lv_at hl 1 rfl) ?_
        refine rm_ald 11 20 10 hF hw (by decide) hok.1 dX2_copy_40 ?_
        refine lv_topi (fun x7 ex7 => ?_)
        replace hok := hok.2 x7 ex7
        refine rm_ast 11 20 10 hF hw (by decide) hok.1 dX2_copy_41 (fun σ8 H locs eσ8 hw => ?_)
        replace hok := hok.2 σ8 eσ8
        refine lv_iconst (v := 1) hF.x hF.b dX2_copy_42 (by decide) ?_
        exact rt_I (u := σ8) hF hw hok (Nat.zero_le _) (Nat.zero_le _) dX2_copy_43
      · replace hok := hok.2 c6
        refine lv_bipush (v := (-2)) hF.x hF.b dX2_copy_27 (by decide) ?_
        exact rt_I (u := σ) hF hw hok (Nat.zero_le _) (Nat.zero_le _) dX2_copy_29
    · replace hok := hok.2 c4
      refine lv_iconst (v := (-1)) hF.x hF.b dX2_copy_14 (by decide) ?_
      exact rt_I (u := σ) hF hw hok (Nat.zero_le _) (Nat.zero_le _) dX2_copy_15

theorem c2_copy (l : Launch) (G : Gm) (a : Nat → Nat) (σ : SM) (v1 : Int32) (v2 : Int32) {post : Int32 → SM → Prop} (h : wp_X2_copy_0 σ v1 v2 post) : ctI l yX2_copy cX2_copy 3 .int (rr 2 42) G [.ref (a 26), .int v1, .int v2] (wM G a σ) post (wM G a) := by
  refine en_I (by decide +kernel) (Nat.le_of_ble_eq_true rfl) (fun p e s m below meth c A ls hF hw hl => ?_)
  exact k_X2_copy_0 hF  σ v1 v2 hw hl h

def wp_X2_drop_0 (σ : SM) (v1 : Int32)  (post : Int32 → SM → Prop) : Prop :=
  ∀ r1 : Int32, r1 = f1_isSlot v1 → (¬ r1 = 0 → vp_in v1 20 ∧ ∀ x3 : Int32, x3 = σ.2 11 v1.toNatClampNeg → (¬ x3 = ((-2)) → vp_in v1 20 ∧ ∀ σ5 : SM, σ5 = (σ.1, va_up σ.2 11 (upd (σ.2 11) v1.toNatClampNeg ((-2)))) → post 1 σ5) ∧ (x3 = ((-2)) → post ((-2)) σ)) ∧ (r1 = 0 → post ((-1)) σ)
set_option maxHeartbeats 4000000 in
set_option maxRecDepth 100000 in
theorem k_X2_drop_0 {l : Launch} {p : Program} {e : Env} {s : State} {m : MethodId} {below : List Frame} {meth : Method} {c : Code} {args : Array Value} {A : Nat → Prop} {G : Gm} {a : Nat → Nat}  (hF : fx p s m args meth c cX2_drop 2 yX2_drop.cls kX2_drop (some (.int))) {post : Int32 → SM → Prop}  (σ : SM) (v1 : Int32) {H : Heap} {locs : List Loc} {ls : Array Slot} (hw : wb G A s (wM G a σ) H locs) (hl : lv_has ls 2 [(0, .ref (a 26)), (1, .int v1)]) (hok : wp_X2_drop_0 σ v1  post) :
    W p l e (rr 2 42) s m args below meth c H locs 0 0 (MQ below (va_Qi post (po G A (wM G a)) A) args s 0 0 A) (F0 m 0 ls []) := by
  unfold wp_X2_drop_0 at hok
  refine lv_iload_n hF.x hF.b dX2_drop_0 rfl (lv_at hl 1 rfl) ?_
  refine ca_S hF (c2_isSlot l v1) wv_X2_91 ⟨rfl, nd_X2.1, nd_X2.2, pd_X2_isSlot⟩ ⟨rfl, rfl⟩ ⟨Nat.le_of_ble_eq_true rfl, Nat.le_of_ble_eq_true rfl⟩ ⟨Nat.zero_le _, Nat.zero_le _⟩ hl.1 rfl (by first | exact Nat.le_of_ble_eq_true rfl | simp [cat_rf, Value.category]) dX2_drop_1 (fun r1 er1 => ?_)
  replace hok := hok r1 er1
  refine lv_if_ne (tgt := 9) hF.x hF.b dX2_drop_4 (by decide) (fun c2 => ?_) (fun c2 => ?_)
  · replace hok := hok.1 c2
    refine lv_aload_n hF.x hF.b dX2_drop_9 rfl (lv_at hl 0 rfl) ?_
    refine r_get hF hw 0 rfl rfl inlX2 11 (by decide) wf_X2_37 rfl dX2_drop_10 ?_
    refine lv_iload_n hF.x hF.b dX2_drop_13 rfl (lv_at hl 1 rfl) ?_
    refine rm_ald 11 20 10 hF hw (by decide) hok.1 dX2_drop_14 ?_
    refine lv_topi (fun x3 ex3 => ?_)
    replace hok := hok.2 x3 ex3
    refine lv_bipush (v := (-2)) hF.x hF.b dX2_drop_15 (by decide) ?_
    refine lv_icmp_ne (tgt := 23) hF.x hF.b dX2_drop_17 (by decide) (fun c4 => ?_) (fun c4 => ?_)
    · replace hok := hok.1 c4
      refine lv_aload_n hF.x hF.b dX2_drop_23 rfl (lv_at hl 0 rfl) ?_
      refine r_get hF hw 0 rfl rfl inlX2 11 (by decide) wf_X2_37 rfl dX2_drop_24 ?_
      refine lv_iload_n hF.x hF.b dX2_drop_27 rfl (lv_at hl 1 rfl) ?_
      refine lv_bipush (v := (-2)) hF.x hF.b dX2_drop_28 (by decide) ?_
      refine rm_ast 11 20 10 hF hw (by decide) hok.1 dX2_drop_30 (fun σ5 H locs eσ5 hw => ?_)
      replace hok := hok.2 σ5 eσ5
      refine lv_iconst (v := 1) hF.x hF.b dX2_drop_31 (by decide) ?_
      exact rt_I (u := σ5) hF hw hok (Nat.zero_le _) (Nat.zero_le _) dX2_drop_32
    · replace hok := hok.2 c4
      refine lv_bipush (v := (-2)) hF.x hF.b dX2_drop_20 (by decide) ?_
      exact rt_I (u := σ) hF hw hok (Nat.zero_le _) (Nat.zero_le _) dX2_drop_22
  · replace hok := hok.2 c2
    refine lv_iconst (v := (-1)) hF.x hF.b dX2_drop_7 (by decide) ?_
    exact rt_I (u := σ) hF hw hok (Nat.zero_le _) (Nat.zero_le _) dX2_drop_8

theorem c2_drop (l : Launch) (G : Gm) (a : Nat → Nat) (σ : SM) (v1 : Int32) {post : Int32 → SM → Prop} (h : wp_X2_drop_0 σ v1 post) : ctI l yX2_drop cX2_drop 2 .int (rr 2 42) G [.ref (a 26), .int v1] (wM G a σ) post (wM G a) := by
  refine en_I (by decide +kernel) (Nat.le_of_ble_eq_true rfl) (fun p e s m below meth c A ls hF hw hl => ?_)
  exact k_X2_drop_0 hF  σ v1 hw hl h

def wp_X2_lever_48 (σ : SM) (v1 : Int32) (v2 : Int32) (v3 : Int32)  (post : Int32 → SM → Prop) : Prop :=
  ∀ x1 : Int32, x1 = 4 * v1 → ∀ x2 : Int32, x2 = x1 + v2 → (0 ≤ v3 → vp_in v3 20 ∧ ∀ x4 : Int32, x4 = σ.2 11 v3.toNatClampNeg → vp_in x2 20 ∧ ∀ σ5 : SM, σ5 = (σ.1, va_up σ.2 12 (upd (σ.2 12) x2.toNatClampNeg x4)) → post 1 σ5) ∧ (¬ 0 ≤ v3 → vp_in x2 20 ∧ ∀ σ6 : SM, σ6 = (σ.1, va_up σ.2 12 (upd (σ.2 12) x2.toNatClampNeg ((-2)))) → post 1 σ6)
set_option maxHeartbeats 4000000 in
set_option maxRecDepth 100000 in
theorem k_X2_lever_48 {l : Launch} {p : Program} {e : Env} {s : State} {m : MethodId} {below : List Frame} {meth : Method} {c : Code} {args : Array Value} {A : Nat → Prop} {G : Gm} {a : Nat → Nat}  (hF : fx p s m args meth c cX2_lever 4 yX2_lever.cls kX2_lever (some (.int))) {post : Int32 → SM → Prop}  (σ : SM) (v1 : Int32) (v2 : Int32) (v3 : Int32) {H : Heap} {locs : List Loc} {ls : Array Slot} (hw : wb G A s (wM G a σ) H locs) (hl : lv_has ls 4 [(0, .ref (a 26)), (1, .int v1), (2, .int v2), (3, .int v3)]) (hok : wp_X2_lever_48 σ v1 v2 v3  post) :
    W p l e (rr 1 22) s m args below meth c H locs 0 0 (MQ below (va_Qi post (po G A (wM G a)) A) args s 0 0 A) (F0 m 48 ls []) := by
  unfold wp_X2_lever_48 at hok
  refine lv_aload_n hF.x hF.b dX2_lever_48 rfl (lv_at hl 0 rfl) ?_
  refine r_get hF hw 0 rfl rfl inlX2 12 (by decide) wf_X2_40 rfl dX2_lever_49 ?_
  refine lv_iconst (v := 4) hF.x hF.b dX2_lever_52 (by decide) ?_
  refine lv_iload_n hF.x hF.b dX2_lever_53 rfl (lv_at hl 1 rfl) ?_
  refine lv_imul hF.x hF.b dX2_lever_54 ?_
  refine lv_topi (fun x1 ex1 => ?_)
  replace hok := hok x1 ex1
  refine lv_iload_n hF.x hF.b dX2_lever_55 rfl (lv_at hl 2 rfl) ?_
  refine lv_iadd hF.x hF.b dX2_lever_56 ?_
  refine lv_topi (fun x2 ex2 => ?_)
  replace hok := hok x2 ex2
  refine lv_iload_n hF.x hF.b dX2_lever_57 rfl (lv_at hl 3 rfl) ?_
  refine lv_if_ge (tgt := 66) hF.x hF.b dX2_lever_58 (by decide) (fun c3 => ?_) (fun c3 => ?_)
  · replace hok := hok.1 c3
    refine lv_aload_n hF.x hF.b dX2_lever_66 rfl (lv_at hl 0 rfl) ?_
    refine r_get hF hw 0 rfl rfl inlX2 11 (by decide) wf_X2_37 rfl dX2_lever_67 ?_
    refine lv_iload_n hF.x hF.b dX2_lever_70 rfl (lv_at hl 3 rfl) ?_
    refine rm_ald 11 20 10 hF hw (by decide) hok.1 dX2_lever_71 ?_
    refine lv_topi (fun x4 ex4 => ?_)
    replace hok := hok.2 x4 ex4
    refine rm_ast 12 20 11 hF hw (by decide) hok.1 dX2_lever_72 (fun σ5 H locs eσ5 hw => ?_)
    replace hok := hok.2 σ5 eσ5
    refine lv_iconst (v := 1) hF.x hF.b dX2_lever_73 (by decide) ?_
    exact rt_I (u := σ5) hF hw hok (Nat.zero_le _) (Nat.zero_le _) dX2_lever_74
  · replace hok := hok.2 c3
    refine lv_bipush (v := (-2)) hF.x hF.b dX2_lever_61 (by decide) ?_
    refine lv_goto (tgt := 72) hF.x hF.b dX2_lever_63 (by decide) ?_
    refine rm_ast 12 20 11 hF hw (by decide) hok.1 dX2_lever_72 (fun σ6 H locs eσ6 hw => ?_)
    replace hok := hok.2 σ6 eσ6
    refine lv_iconst (v := 1) hF.x hF.b dX2_lever_73 (by decide) ?_
    exact rt_I (u := σ6) hF hw hok (Nat.zero_le _) (Nat.zero_le _) dX2_lever_74
def wp_X2_lever_0 (σ : SM) (v1 : Int32) (v2 : Int32) (v3 : Int32)  (post : Int32 → SM → Prop) : Prop :=
  ∀ r1 : Int32, r1 = f2_isIn v1 0 4 → (r1 = 0 → post ((-1)) σ) ∧ (¬ r1 = 0 → ∀ r3 : Int32, r3 = f2_isIn v2 0 3 → (r3 = 0 → post ((-1)) σ) ∧ (¬ r3 = 0 → ∀ r5 : Int32, r5 = f2_isIn v3 ((-1)) 19 → (¬ r5 = 0 → (v3 < 0 → wp_X2_lever_48 σ v1 v2 v3  post) ∧ (¬ v3 < 0 → vp_in v3 20 ∧ ∀ x8 : Int32, x8 = σ.2 11 v3.toNatClampNeg → (¬ x8 = ((-2)) → wp_X2_lever_48 σ v1 v2 v3  post) ∧ (x8 = ((-2)) → post ((-2)) σ))) ∧ (r5 = 0 → post ((-1)) σ)))
set_option maxHeartbeats 4000000 in
set_option maxRecDepth 100000 in
theorem k_X2_lever_0 {l : Launch} {p : Program} {e : Env} {s : State} {m : MethodId} {below : List Frame} {meth : Method} {c : Code} {args : Array Value} {A : Nat → Prop} {G : Gm} {a : Nat → Nat}  (hF : fx p s m args meth c cX2_lever 4 yX2_lever.cls kX2_lever (some (.int))) {post : Int32 → SM → Prop}  (σ : SM) (v1 : Int32) (v2 : Int32) (v3 : Int32) {H : Heap} {locs : List Loc} {ls : Array Slot} (hw : wb G A s (wM G a σ) H locs) (hl : lv_has ls 4 [(0, .ref (a 26)), (1, .int v1), (2, .int v2), (3, .int v3)]) (hok : wp_X2_lever_0 σ v1 v2 v3  post) :
    W p l e (rr 1 22) s m args below meth c H locs 0 0 (MQ below (va_Qi post (po G A (wM G a)) A) args s 0 0 A) (F0 m 0 ls []) := by
  unfold wp_X2_lever_0 at hok
  refine lv_iload_n hF.x hF.b dX2_lever_0 rfl (lv_at hl 1 rfl) ?_
  refine lv_iconst (v := 0) hF.x hF.b dX2_lever_1 (by decide) ?_
  refine lv_iconst (v := 4) hF.x hF.b dX2_lever_2 (by decide) ?_
  refine ca_S hF (c2_isIn l v1 0 4) wv_X2_83 ⟨rfl, nd_X2.1, nd_X2.2, pd_X2_isIn⟩ ⟨rfl, rfl⟩ ⟨Nat.le_of_ble_eq_true rfl, Nat.le_of_ble_eq_true rfl⟩ ⟨Nat.zero_le _, Nat.zero_le _⟩ hl.1 rfl (by first | exact Nat.le_of_ble_eq_true rfl | simp [cat_rf, Value.category]) dX2_lever_3 (fun r1 er1 => ?_)
  replace hok := hok r1 er1
  refine lv_if_eq (tgt := 28) hF.x hF.b dX2_lever_6 (by decide) (fun c2 => ?_) (fun c2 => ?_)
  · replace hok := hok.1 c2
    refine lv_iconst (v := (-1)) hF.x hF.b dX2_lever_28 (by decide) ?_
    exact rt_I (u := σ) hF hw hok (Nat.zero_le _) (Nat.zero_le _) dX2_lever_29
  · replace hok := hok.2 c2
    refine lv_iload_n hF.x hF.b dX2_lever_9 rfl (lv_at hl 2 rfl) ?_
    refine lv_iconst (v := 0) hF.x hF.b dX2_lever_10 (by decide) ?_
    refine lv_iconst (v := 3) hF.x hF.b dX2_lever_11 (by decide) ?_
    refine ca_S hF (c2_isIn l v2 0 3) wv_X2_83 ⟨rfl, nd_X2.1, nd_X2.2, pd_X2_isIn⟩ ⟨rfl, rfl⟩ ⟨Nat.le_of_ble_eq_true rfl, Nat.le_of_ble_eq_true rfl⟩ ⟨Nat.zero_le _, Nat.zero_le _⟩ hl.1 rfl (by first | exact Nat.le_of_ble_eq_true rfl | simp [cat_rf, Value.category]) dX2_lever_12 (fun r3 er3 => ?_)
    replace hok := hok r3 er3
    refine lv_if_eq (tgt := 28) hF.x hF.b dX2_lever_15 (by decide) (fun c4 => ?_) (fun c4 => ?_)
    · replace hok := hok.1 c4
      refine lv_iconst (v := (-1)) hF.x hF.b dX2_lever_28 (by decide) ?_
      exact rt_I (u := σ) hF hw hok (Nat.zero_le _) (Nat.zero_le _) dX2_lever_29
    · replace hok := hok.2 c4
      refine lv_iload_n hF.x hF.b dX2_lever_18 rfl (lv_at hl 3 rfl) ?_
      refine lv_iconst (v := (-1)) hF.x hF.b dX2_lever_19 (by decide) ?_
      refine lv_bipush (v := 19) hF.x hF.b dX2_lever_20 (by decide) ?_
      refine ca_S hF (c2_isIn l v3 ((-1)) 19) wv_X2_83 ⟨rfl, nd_X2.1, nd_X2.2, pd_X2_isIn⟩ ⟨rfl, rfl⟩ ⟨Nat.le_of_ble_eq_true rfl, Nat.le_of_ble_eq_true rfl⟩ ⟨Nat.zero_le _, Nat.zero_le _⟩ hl.1 rfl (by first | exact Nat.le_of_ble_eq_true rfl | simp [cat_rf, Value.category]) dX2_lever_22 (fun r5 er5 => ?_)
      replace hok := hok r5 er5
      refine lv_if_ne (tgt := 30) hF.x hF.b dX2_lever_25 (by decide) (fun c6 => ?_) (fun c6 => ?_)
      · replace hok := hok.1 c6
        refine lv_iload_n hF.x hF.b dX2_lever_30 rfl (lv_at hl 3 rfl) ?_
        refine lv_if_lt (tgt := 48) hF.x hF.b dX2_lever_31 (by decide) (fun c7 => ?_) (fun c7 => ?_)
        · replace hok := hok.1 c7
          exact k_X2_lever_48  hF  σ v1 v2 v3 hw (lv_sub hl [0, 1, 2, 3] rfl) hok
        · replace hok := hok.2 c7
          refine lv_aload_n hF.x hF.b dX2_lever_34 rfl (lv_at hl 0 rfl) ?_
          refine r_get hF hw 0 rfl rfl inlX2 11 (by decide) wf_X2_37 rfl dX2_lever_35 ?_
          refine lv_iload_n hF.x hF.b dX2_lever_38 rfl (lv_at hl 3 rfl) ?_
          refine rm_ald 11 20 10 hF hw (by decide) hok.1 dX2_lever_39 ?_
          refine lv_topi (fun x8 ex8 => ?_)
          replace hok := hok.2 x8 ex8
          refine lv_bipush (v := (-2)) hF.x hF.b dX2_lever_40 (by decide) ?_
          refine lv_icmp_ne (tgt := 48) hF.x hF.b dX2_lever_42 (by decide) (fun c9 => ?_) (fun c9 => ?_)
          · replace hok := hok.1 c9
            exact k_X2_lever_48  hF  σ v1 v2 v3 hw (lv_sub hl [0, 1, 2, 3] rfl) hok
          · replace hok := hok.2 c9
            refine lv_bipush (v := (-2)) hF.x hF.b dX2_lever_45 (by decide) ?_
            exact rt_I (u := σ) hF hw hok (Nat.zero_le _) (Nat.zero_le _) dX2_lever_47
      · replace hok := hok.2 c6
        refine lv_iconst (v := (-1)) hF.x hF.b dX2_lever_28 (by decide) ?_
        exact rt_I (u := σ) hF hw hok (Nat.zero_le _) (Nat.zero_le _) dX2_lever_29

theorem c2_lever (l : Launch) (G : Gm) (a : Nat → Nat) (σ : SM) (v1 : Int32) (v2 : Int32) (v3 : Int32) {post : Int32 → SM → Prop} (h : wp_X2_lever_0 σ v1 v2 v3 post) : ctI l yX2_lever cX2_lever 4 .int (rr 1 22) G [.ref (a 26), .int v1, .int v2, .int v3] (wM G a σ) post (wM G a) := by
  refine en_I (by decide +kernel) (Nat.le_of_ble_eq_true rfl) (fun p e s m below meth c A ls hF hw hl => ?_)
  exact k_X2_lever_0 hF  σ v1 v2 v3 hw hl h

def wp_X2_same_0 (σ : SM) (v1 : Int32) (v2 : Int32)  (post : Int32 → SM → Prop) : Prop :=
  ∀ r1 : Int32, r1 = f1_isSlot v1 → (r1 = 0 → post ((-1)) σ) ∧ (¬ r1 = 0 → ∀ r3 : Int32, r3 = f1_isSlot v2 → (¬ r3 = 0 → vp_in v1 20 ∧ ∀ x5 : Int32, x5 = σ.2 11 v1.toNatClampNeg → (x5 = ((-2)) → post 0 σ) ∧ (¬ x5 = ((-2)) → vp_in v1 20 ∧ ∀ x7 : Int32, x7 = σ.2 11 v1.toNatClampNeg → vp_in v2 20 ∧ ∀ x8 : Int32, x8 = σ.2 11 v2.toNatClampNeg → (¬ x7 = x8 → post 0 σ) ∧ (x7 = x8 → post 1 σ))) ∧ (r3 = 0 → post ((-1)) σ))
set_option maxHeartbeats 4000000 in
set_option maxRecDepth 100000 in
theorem k_X2_same_0 {l : Launch} {p : Program} {e : Env} {s : State} {m : MethodId} {below : List Frame} {meth : Method} {c : Code} {args : Array Value} {A : Nat → Prop} {G : Gm} {a : Nat → Nat}  (hF : fx p s m args meth c cX2_same 3 yX2_same.cls kX2_same (some (.int))) {post : Int32 → SM → Prop}  (σ : SM) (v1 : Int32) (v2 : Int32) {H : Heap} {locs : List Loc} {ls : Array Slot} (hw : wb G A s (wM G a σ) H locs) (hl : lv_has ls 3 [(0, .ref (a 26)), (1, .int v1), (2, .int v2)]) (hok : wp_X2_same_0 σ v1 v2  post) :
    W p l e (rr 2 42) s m args below meth c H locs 0 0 (MQ below (va_Qi post (po G A (wM G a)) A) args s 0 0 A) (F0 m 0 ls []) := by
  unfold wp_X2_same_0 at hok
  refine lv_iload_n hF.x hF.b dX2_same_0 rfl (lv_at hl 1 rfl) ?_
  refine ca_S hF (c2_isSlot l v1) wv_X2_91 ⟨rfl, nd_X2.1, nd_X2.2, pd_X2_isSlot⟩ ⟨rfl, rfl⟩ ⟨Nat.le_of_ble_eq_true rfl, Nat.le_of_ble_eq_true rfl⟩ ⟨Nat.zero_le _, Nat.zero_le _⟩ hl.1 rfl (by first | exact Nat.le_of_ble_eq_true rfl | simp [cat_rf, Value.category]) dX2_same_1 (fun r1 er1 => ?_)
  replace hok := hok r1 er1
  refine lv_if_eq (tgt := 14) hF.x hF.b dX2_same_4 (by decide) (fun c2 => ?_) (fun c2 => ?_)
  · replace hok := hok.1 c2
    refine lv_iconst (v := (-1)) hF.x hF.b dX2_same_14 (by decide) ?_
    exact rt_I (u := σ) hF hw hok (Nat.zero_le _) (Nat.zero_le _) dX2_same_15
  · replace hok := hok.2 c2
    refine lv_iload_n hF.x hF.b dX2_same_7 rfl (lv_at hl 2 rfl) ?_
    refine ca_S hF (c2_isSlot l v2) wv_X2_91 ⟨rfl, nd_X2.1, nd_X2.2, pd_X2_isSlot⟩ ⟨rfl, rfl⟩ ⟨Nat.le_of_ble_eq_true rfl, Nat.le_of_ble_eq_true rfl⟩ ⟨Nat.zero_le _, Nat.zero_le _⟩ hl.1 rfl (by first | exact Nat.le_of_ble_eq_true rfl | simp [cat_rf, Value.category]) dX2_same_8 (fun r3 er3 => ?_)
    replace hok := hok r3 er3
    refine lv_if_ne (tgt := 16) hF.x hF.b dX2_same_11 (by decide) (fun c4 => ?_) (fun c4 => ?_)
    · replace hok := hok.1 c4
      refine lv_aload_n hF.x hF.b dX2_same_16 rfl (lv_at hl 0 rfl) ?_
      refine r_get hF hw 0 rfl rfl inlX2 11 (by decide) wf_X2_37 rfl dX2_same_17 ?_
      refine lv_iload_n hF.x hF.b dX2_same_20 rfl (lv_at hl 1 rfl) ?_
      refine rm_ald 11 20 10 hF hw (by decide) hok.1 dX2_same_21 ?_
      refine lv_topi (fun x5 ex5 => ?_)
      replace hok := hok.2 x5 ex5
      refine lv_bipush (v := (-2)) hF.x hF.b dX2_same_22 (by decide) ?_
      refine lv_icmp_eq (tgt := 46) hF.x hF.b dX2_same_24 (by decide) (fun c6 => ?_) (fun c6 => ?_)
      · replace hok := hok.1 c6
        refine lv_iconst (v := 0) hF.x hF.b dX2_same_46 (by decide) ?_
        exact rt_I (u := σ) hF hw hok (Nat.zero_le _) (Nat.zero_le _) dX2_same_47
      · replace hok := hok.2 c6
        refine lv_aload_n hF.x hF.b dX2_same_27 rfl (lv_at hl 0 rfl) ?_
        refine r_get hF hw 0 rfl rfl inlX2 11 (by decide) wf_X2_37 rfl dX2_same_28 ?_
        refine lv_iload_n hF.x hF.b dX2_same_31 rfl (lv_at hl 1 rfl) ?_
        refine rm_ald 11 20 10 hF hw (by decide) hok.1 dX2_same_32 ?_
        refine lv_topi (fun x7 ex7 => ?_)
        replace hok := hok.2 x7 ex7
        refine lv_aload_n hF.x hF.b dX2_same_33 rfl (lv_at hl 0 rfl) ?_
        refine r_get hF hw 0 rfl rfl inlX2 11 (by decide) wf_X2_37 rfl dX2_same_34 ?_
        refine lv_iload_n hF.x hF.b dX2_same_37 rfl (lv_at hl 2 rfl) ?_
        refine rm_ald 11 20 10 hF hw (by decide) hok.1 dX2_same_38 ?_
        refine lv_topi (fun x8 ex8 => ?_)
        replace hok := hok.2 x8 ex8
        refine lv_icmp_ne (tgt := 46) hF.x hF.b dX2_same_39 (by decide) (fun c9 => ?_) (fun c9 => ?_)
        · replace hok := hok.1 c9
          refine lv_iconst (v := 0) hF.x hF.b dX2_same_46 (by decide) ?_
          exact rt_I (u := σ) hF hw hok (Nat.zero_le _) (Nat.zero_le _) dX2_same_47
        · replace hok := hok.2 c9
          refine lv_iconst (v := 1) hF.x hF.b dX2_same_42 (by decide) ?_
          refine lv_goto (tgt := 47) hF.x hF.b dX2_same_43 (by decide) ?_
          exact rt_I (u := σ) hF hw hok (Nat.zero_le _) (Nat.zero_le _) dX2_same_47
    · replace hok := hok.2 c4
      refine lv_iconst (v := (-1)) hF.x hF.b dX2_same_14 (by decide) ?_
      exact rt_I (u := σ) hF hw hok (Nat.zero_le _) (Nat.zero_le _) dX2_same_15

theorem c2_same (l : Launch) (G : Gm) (a : Nat → Nat) (σ : SM) (v1 : Int32) (v2 : Int32) {post : Int32 → SM → Prop} (h : wp_X2_same_0 σ v1 v2 post) : ctI l yX2_same cX2_same 3 .int (rr 2 42) G [.ref (a 26), .int v1, .int v2] (wM G a σ) post (wM G a) := by
  refine en_I (by decide +kernel) (Nat.le_of_ble_eq_true rfl) (fun p e s m below meth c A ls hF hw hl => ?_)
  exact k_X2_same_0 hF  σ v1 v2 hw hl h

def wp_X2_count_0 (σ : SM) (v1 : Int32)  (post : Int32 → SM → Prop) : Prop :=
  ∀ r1 : Int32, r1 = f1_isSlot v1 → (¬ r1 = 0 → vp_in v1 20 ∧ ∀ x3 : Int32, x3 = σ.2 11 v1.toNatClampNeg → (x3 = ((-2)) → post ((-2)) σ) ∧ (¬ x3 = ((-2)) → vp_in v1 20 ∧ ∀ x5 : Int32, x5 = σ.2 11 v1.toNatClampNeg → vp_in x5 600 ∧ ∀ x6 : Int32, x6 = σ.2 6 x5.toNatClampNeg → (x6 = 12 → vp_in v1 20 ∧ ∀ x8 : Int32, x8 = σ.2 11 v1.toNatClampNeg → vp_in x8 600 ∧ ∀ x9 : Int32, x9 = σ.2 10 x8.toNatClampNeg → post x9 σ) ∧ (¬ x6 = 12 → post ((-2)) σ))) ∧ (r1 = 0 → post ((-1)) σ)
set_option maxHeartbeats 4000000 in
set_option maxRecDepth 100000 in
theorem k_X2_count_0 {l : Launch} {p : Program} {e : Env} {s : State} {m : MethodId} {below : List Frame} {meth : Method} {c : Code} {args : Array Value} {A : Nat → Prop} {G : Gm} {a : Nat → Nat}  (hF : fx p s m args meth c cX2_count 2 yX2_count.cls kX2_count (some (.int))) {post : Int32 → SM → Prop}  (σ : SM) (v1 : Int32) {H : Heap} {locs : List Loc} {ls : Array Slot} (hw : wb G A s (wM G a σ) H locs) (hl : lv_has ls 2 [(0, .ref (a 26)), (1, .int v1)]) (hok : wp_X2_count_0 σ v1  post) :
    W p l e (rr 2 42) s m args below meth c H locs 0 0 (MQ below (va_Qi post (po G A (wM G a)) A) args s 0 0 A) (F0 m 0 ls []) := by
  unfold wp_X2_count_0 at hok
  refine lv_iload_n hF.x hF.b dX2_count_0 rfl (lv_at hl 1 rfl) ?_
  refine ca_S hF (c2_isSlot l v1) wv_X2_91 ⟨rfl, nd_X2.1, nd_X2.2, pd_X2_isSlot⟩ ⟨rfl, rfl⟩ ⟨Nat.le_of_ble_eq_true rfl, Nat.le_of_ble_eq_true rfl⟩ ⟨Nat.zero_le _, Nat.zero_le _⟩ hl.1 rfl (by first | exact Nat.le_of_ble_eq_true rfl | simp [cat_rf, Value.category]) dX2_count_1 (fun r1 er1 => ?_)
  replace hok := hok r1 er1
  refine lv_if_ne (tgt := 9) hF.x hF.b dX2_count_4 (by decide) (fun c2 => ?_) (fun c2 => ?_)
  · replace hok := hok.1 c2
    refine lv_aload_n hF.x hF.b dX2_count_9 rfl (lv_at hl 0 rfl) ?_
    refine r_get hF hw 0 rfl rfl inlX2 11 (by decide) wf_X2_37 rfl dX2_count_10 ?_
    refine lv_iload_n hF.x hF.b dX2_count_13 rfl (lv_at hl 1 rfl) ?_
    refine rm_ald 11 20 10 hF hw (by decide) hok.1 dX2_count_14 ?_
    refine lv_topi (fun x3 ex3 => ?_)
    replace hok := hok.2 x3 ex3
    refine lv_bipush (v := (-2)) hF.x hF.b dX2_count_15 (by decide) ?_
    refine lv_icmp_eq (tgt := 36) hF.x hF.b dX2_count_17 (by decide) (fun c4 => ?_) (fun c4 => ?_)
    · replace hok := hok.1 c4
      refine lv_bipush (v := (-2)) hF.x hF.b dX2_count_36 (by decide) ?_
      refine lv_goto (tgt := 52) hF.x hF.b dX2_count_38 (by decide) ?_
      exact rt_I (u := σ) hF hw hok (Nat.zero_le _) (Nat.zero_le _) dX2_count_52
    · replace hok := hok.2 c4
      refine lv_aload_n hF.x hF.b dX2_count_20 rfl (lv_at hl 0 rfl) ?_
      refine r_get hF hw 0 rfl rfl inlX2 6 (by decide) wf_X2_22 rfl dX2_count_21 ?_
      refine lv_aload_n hF.x hF.b dX2_count_24 rfl (lv_at hl 0 rfl) ?_
      refine r_get hF hw 0 rfl rfl inlX2 11 (by decide) wf_X2_37 rfl dX2_count_25 ?_
      refine lv_iload_n hF.x hF.b dX2_count_28 rfl (lv_at hl 1 rfl) ?_
      refine rm_ald 11 20 10 hF hw (by decide) hok.1 dX2_count_29 ?_
      refine lv_topi (fun x5 ex5 => ?_)
      replace hok := hok.2 x5 ex5
      refine rm_ald 6 600 5 hF hw (by decide) hok.1 dX2_count_30 ?_
      refine lv_topi (fun x6 ex6 => ?_)
      replace hok := hok.2 x6 ex6
      refine lv_bipush (v := 12) hF.x hF.b dX2_count_31 (by decide) ?_
      refine lv_icmp_eq (tgt := 41) hF.x hF.b dX2_count_33 (by decide) (fun c7 => ?_) (fun c7 => ?_)
      · replace hok := hok.1 c7
        refine lv_aload_n hF.x hF.b dX2_count_41 rfl (lv_at hl 0 rfl) ?_
        refine r_get hF hw 0 rfl rfl inlX2 10 (by decide) wf_X2_34 rfl dX2_count_42 ?_
        refine lv_aload_n hF.x hF.b dX2_count_45 rfl (lv_at hl 0 rfl) ?_
        refine r_get hF hw 0 rfl rfl inlX2 11 (by decide) wf_X2_37 rfl dX2_count_46 ?_
        refine lv_iload_n hF.x hF.b dX2_count_49 rfl (lv_at hl 1 rfl) ?_
        refine rm_ald 11 20 10 hF hw (by decide) hok.1 dX2_count_50 ?_
        refine lv_topi (fun x8 ex8 => ?_)
        replace hok := hok.2 x8 ex8
        refine rm_ald 10 600 9 hF hw (by decide) hok.1 dX2_count_51 ?_
        refine lv_topi (fun x9 ex9 => ?_)
        replace hok := hok.2 x9 ex9
        exact rt_I (u := σ) hF hw hok (Nat.zero_le _) (Nat.zero_le _) dX2_count_52
      · replace hok := hok.2 c7
        refine lv_bipush (v := (-2)) hF.x hF.b dX2_count_36 (by decide) ?_
        refine lv_goto (tgt := 52) hF.x hF.b dX2_count_38 (by decide) ?_
        exact rt_I (u := σ) hF hw hok (Nat.zero_le _) (Nat.zero_le _) dX2_count_52
  · replace hok := hok.2 c2
    refine lv_iconst (v := (-1)) hF.x hF.b dX2_count_7 (by decide) ?_
    exact rt_I (u := σ) hF hw hok (Nat.zero_le _) (Nat.zero_le _) dX2_count_8

theorem c2_count (l : Launch) (G : Gm) (a : Nat → Nat) (σ : SM) (v1 : Int32) {post : Int32 → SM → Prop} (h : wp_X2_count_0 σ v1 post) : ctI l yX2_count cX2_count 2 .int (rr 2 42) G [.ref (a 26), .int v1] (wM G a σ) post (wM G a) := by
  refine en_I (by decide +kernel) (Nat.le_of_ble_eq_true rfl) (fun p e s m below meth c A ls hF hw hl => ?_)
  exact k_X2_count_0 hF  σ v1 hw hl h

def wp_X2_enter_0 (σ : SM) (v1 : Int32) (v2 : Int32)  (post : SM → Prop) : Prop :=
  (¬ (σ.1 16) = 60 → ∀ x2 : Int32, x2 = (σ.1 16) + 1 → ∀ σ3 : SM, σ3 = (va_up σ.1 16 x2, σ.2) → (¬ (σ3.1 19) = 16 → (¬ v1 = ((-2)) → vp_in (σ3.1 19) 16 ∧ ∀ σ6 : SM, σ6 = (σ3.1, va_up σ3.2 20 (upd (σ3.2 20) (σ3.1 19).toNatClampNeg v1)) → vp_in (σ6.1 19) 16 ∧ ∀ σ7 : SM, σ7 = (σ6.1, va_up σ6.2 21 (upd (σ6.2 21) (σ6.1 19).toNatClampNeg v2)) → vp_in (σ7.1 19) 16 ∧ ∀ σ8 : SM, σ8 = (σ7.1, va_up σ7.2 22 (upd (σ7.2 22) (σ7.1 19).toNatClampNeg 0)) → vp_in (σ8.1 19) 16 ∧ ∀ σ9 : SM, σ9 = (σ8.1, va_up σ8.2 23 (upd (σ8.2 23) (σ8.1 19).toNatClampNeg v2)) → ∀ x10 : Int32, x10 = (σ9.1 19) + 1 → ∀ σ11 : SM, σ11 = (va_up σ9.1 19 x10, σ9.2) → post σ11) ∧ (v1 = ((-2)) → ∀ σ12 : SM, σ12 = (va_up σ3.1 24 ((-6)), σ3.2) → post σ12)) ∧ ((σ3.1 19) = 16 → ∀ σ13 : SM, σ13 = (va_up σ3.1 24 ((-9)), σ3.2) → post σ13)) ∧ ((σ.1 16) = 60 → ∀ σ14 : SM, σ14 = (va_up σ.1 24 ((-8)), σ.2) → post σ14)
set_option maxHeartbeats 4000000 in
set_option maxRecDepth 100000 in
theorem k_X2_enter_0 {l : Launch} {p : Program} {e : Env} {s : State} {m : MethodId} {below : List Frame} {meth : Method} {c : Code} {args : Array Value} {A : Nat → Prop} {G : Gm} {a : Nat → Nat}  (hF : fx p s m args meth c cX2_enter 3 yX2_enter.cls kX2_enter none) {post : SM → Prop}  (σ : SM) (v1 : Int32) (v2 : Int32) {H : Heap} {locs : List Loc} {ls : Array Slot} (hw : wb G A s (wM G a σ) H locs) (hl : lv_has ls 3 [(0, .ref (a 26)), (1, .int v1), (2, .int v2)]) (hok : wp_X2_enter_0 σ v1 v2  post) :
    W p l e (rr 0 0) s m args below meth c H locs 0 0 (MQ below (va_Qv post (po G A (wM G a)) A) args s 0 0 A) (F0 m 0 ls []) := by
  unfold wp_X2_enter_0 at hok
  refine lv_aload_n hF.x hF.b dX2_enter_0 rfl (lv_at hl 0 rfl) ?_
  refine r_get hF hw 0 rfl rfl inlX2 16 (by decide) wf_X2_74 rfl dX2_enter_1 ?_
  refine lv_bipush (v := 60) hF.x hF.b dX2_enter_4 (by decide) ?_
  refine lv_icmp_ne (tgt := 16) hF.x hF.b dX2_enter_6 (by decide) (fun c1 => ?_) (fun c1 => ?_)
  · replace hok := hok.1 c1
    refine lv_aload_n hF.x hF.b dX2_enter_16 rfl (lv_at hl 0 rfl) ?_
    refine lv_dup hF.x hF.b dX2_enter_17 rfl ?_
    refine r_get hF hw 0 rfl rfl inlX2 16 (by decide) wf_X2_74 rfl dX2_enter_18 ?_
    refine lv_iconst (v := 1) hF.x hF.b dX2_enter_21 (by decide) ?_
    refine lv_iadd hF.x hF.b dX2_enter_22 ?_
    refine lv_topi (fun x2 ex2 => ?_)
    replace hok := hok x2 ex2
    refine rm_put (v := x2) 16 hF hw (by decide) wf_X2_74 dX2_enter_23 (fun σ3 H locs eσ3 hw => ?_)
    replace hok := hok σ3 eσ3
    refine lv_aload_n hF.x hF.b dX2_enter_26 rfl (lv_at hl 0 rfl) ?_
    refine r_get hF hw 0 rfl rfl inlX2 19 (by decide) wf_X2_107 rfl dX2_enter_27 ?_
    refine lv_bipush (v := 16) hF.x hF.b dX2_enter_30 (by decide) ?_
    refine lv_icmp_ne (tgt := 44) hF.x hF.b dX2_enter_32 (by decide) (fun c4 => ?_) (fun c4 => ?_)
    · replace hok := hok.1 c4
      refine lv_iload_n hF.x hF.b dX2_enter_44 rfl (lv_at hl 1 rfl) ?_
      refine lv_bipush (v := (-2)) hF.x hF.b dX2_enter_45 (by decide) ?_
      refine lv_icmp_ne (tgt := 59) hF.x hF.b dX2_enter_47 (by decide) (fun c5 => ?_) (fun c5 => ?_)
      · replace hok := hok.1 c5
        refine lv_aload_n hF.x hF.b dX2_enter_59 rfl (lv_at hl 0 rfl) ?_
        refine r_get hF hw 0 rfl rfl inlX2 20 (by decide) wf_X2_49 rfl dX2_enter_60 ?_
        refine lv_aload_n hF.x hF.b dX2_enter_63 rfl (lv_at hl 0 rfl) ?_
        refine r_get hF hw 0 rfl rfl inlX2 19 (by decide) wf_X2_107 rfl dX2_enter_64 ?_
        refine lv_iload_n hF.x hF.b dX2_enter_67 rfl (lv_at hl 1 rfl) ?_
        refine rm_ast 20 16 14 hF hw (by decide) hok.1 dX2_enter_68 (fun σ6 H locs eσ6 hw => ?_)
        replace hok := hok.2 σ6 eσ6
        refine lv_aload_n hF.x hF.b dX2_enter_69 rfl (lv_at hl 0 rfl) ?_
        refine r_get hF hw 0 rfl rfl inlX2 21 (by decide) wf_X2_52 rfl dX2_enter_70 ?_
        refine lv_aload_n hF.x hF.b dX2_enter_73 rfl (lv_at hl 0 rfl) ?_
        refine r_get hF hw 0 rfl rfl inlX2 19 (by decide) wf_X2_107 rfl dX2_enter_74 ?_
        refine lv_iload_n hF.x hF.b dX2_enter_77 rfl (lv_at hl 2 rfl) ?_
        refine rm_ast 21 16 15 hF hw (by decide) hok.1 dX2_enter_78 (fun σ7 H locs eσ7 hw => ?_)
        replace hok := hok.2 σ7 eσ7
        refine lv_aload_n hF.x hF.b dX2_enter_79 rfl (lv_at hl 0 rfl) ?_
        refine r_get hF hw 0 rfl rfl inlX2 22 (by decide) wf_X2_55 rfl dX2_enter_80 ?_
        refine lv_aload_n hF.x hF.b dX2_enter_83 rfl (lv_at hl 0 rfl) ?_
        refine r_get hF hw 0 rfl rfl inlX2 19 (by decide) wf_X2_107 rfl dX2_enter_84 ?_
        refine lv_iconst (v := 0) hF.x hF.b dX2_enter_87 (by decide) ?_
        refine rm_ast 22 16 16 hF hw (by decide) hok.1 dX2_enter_88 (fun σ8 H locs eσ8 hw => ?_)
        replace hok := hok.2 σ8 eσ8
        refine lv_aload_n hF.x hF.b dX2_enter_89 rfl (lv_at hl 0 rfl) ?_
        refine r_get hF hw 0 rfl rfl inlX2 23 (by decide) wf_X2_58 rfl dX2_enter_90 ?_
        refine lv_aload_n hF.x hF.b dX2_enter_93 rfl (lv_at hl 0 rfl) ?_
        refine r_get hF hw 0 rfl rfl inlX2 19 (by decide) wf_X2_107 rfl dX2_enter_94 ?_
        refine lv_iload_n hF.x hF.b dX2_enter_97 rfl (lv_at hl 2 rfl) ?_
        refine rm_ast 23 16 17 hF hw (by decide) hok.1 dX2_enter_98 (fun σ9 H locs eσ9 hw => ?_)
        replace hok := hok.2 σ9 eσ9
        refine lv_aload_n hF.x hF.b dX2_enter_99 rfl (lv_at hl 0 rfl) ?_
        refine lv_dup hF.x hF.b dX2_enter_100 rfl ?_
        refine r_get hF hw 0 rfl rfl inlX2 19 (by decide) wf_X2_107 rfl dX2_enter_101 ?_
        refine lv_iconst (v := 1) hF.x hF.b dX2_enter_104 (by decide) ?_
        refine lv_iadd hF.x hF.b dX2_enter_105 ?_
        refine lv_topi (fun x10 ex10 => ?_)
        replace hok := hok x10 ex10
        refine rm_put (v := x10) 19 hF hw (by decide) wf_X2_107 dX2_enter_106 (fun σ11 H locs eσ11 hw => ?_)
        replace hok := hok σ11 eσ11
        exact rt_V (u := σ11) hF hw hok (Nat.zero_le _) (Nat.zero_le _) dX2_enter_109
      · replace hok := hok.2 c5
        refine lv_aload_n hF.x hF.b dX2_enter_50 rfl (lv_at hl 0 rfl) ?_
        refine lv_bipush (v := (-6)) hF.x hF.b dX2_enter_51 (by decide) ?_
        refine rm_put (v := (-6)) 24 hF hw (by decide) wf_X2_104 dX2_enter_53 (fun σ12 H locs eσ12 hw => ?_)
        replace hok := hok σ12 eσ12
        refine lv_goto (tgt := 109) hF.x hF.b dX2_enter_56 (by decide) ?_
        exact rt_V (u := σ12) hF hw hok (Nat.zero_le _) (Nat.zero_le _) dX2_enter_109
    · replace hok := hok.2 c4
      refine lv_aload_n hF.x hF.b dX2_enter_35 rfl (lv_at hl 0 rfl) ?_
      refine lv_bipush (v := (-9)) hF.x hF.b dX2_enter_36 (by decide) ?_
      refine rm_put (v := (-9)) 24 hF hw (by decide) wf_X2_104 dX2_enter_38 (fun σ13 H locs eσ13 hw => ?_)
      replace hok := hok σ13 eσ13
      refine lv_goto (tgt := 109) hF.x hF.b dX2_enter_41 (by decide) ?_
      exact rt_V (u := σ13) hF hw hok (Nat.zero_le _) (Nat.zero_le _) dX2_enter_109
  · replace hok := hok.2 c1
    refine lv_aload_n hF.x hF.b dX2_enter_9 rfl (lv_at hl 0 rfl) ?_
    refine lv_bipush (v := (-8)) hF.x hF.b dX2_enter_10 (by decide) ?_
    refine rm_put (v := (-8)) 24 hF hw (by decide) wf_X2_104 dX2_enter_12 (fun σ14 H locs eσ14 hw => ?_)
    replace hok := hok σ14 eσ14
    exact rt_V (u := σ14) hF hw hok (Nat.zero_le _) (Nat.zero_le _) dX2_enter_15

theorem c2_enter (l : Launch) (G : Gm) (a : Nat → Nat) (σ : SM) (v1 : Int32) (v2 : Int32) {post : SM → Prop} (h : wp_X2_enter_0 σ v1 v2 post) : ctV l yX2_enter cX2_enter 3 (rr 0 0) G [.ref (a 26), .int v1, .int v2] (wM G a σ) post (wM G a) := by
  refine en_V (by decide +kernel) (Nat.le_of_ble_eq_true rfl) (fun p e s m below meth c A ls hF hn hw hl => ?_)
  exact k_X2_enter_0 hF  σ v1 v2 hw hl h

def wp_X2_give_0 (σ : SM) (v1 : Int32)  (post : SM → Prop) : Prop :=
  ∀ x1 : Int32, x1 = (σ.1 19) - 1 → ∀ σ2 : SM, σ2 = (va_up σ.1 19 x1, σ.2) → ∀ σ3 : SM, σ3 = (va_up σ2.1 25 v1, σ2.2) → ((σ3.1 19) ≤ 0 → post σ3) ∧ (¬ (σ3.1 19) ≤ 0 → ∀ x5 : Int32, x5 = (σ3.1 19) - 1 → vp_in x5 16 ∧ ∀ σ6 : SM, σ6 = (σ3.1, va_up σ3.2 23 (upd (σ3.2 23) x5.toNatClampNeg v1)) → post σ6)
set_option maxHeartbeats 4000000 in
set_option maxRecDepth 100000 in
theorem k_X2_give_0 {l : Launch} {p : Program} {e : Env} {s : State} {m : MethodId} {below : List Frame} {meth : Method} {c : Code} {args : Array Value} {A : Nat → Prop} {G : Gm} {a : Nat → Nat}  (hF : fx p s m args meth c cX2_give 2 yX2_give.cls kX2_give none) {post : SM → Prop}  (σ : SM) (v1 : Int32) {H : Heap} {locs : List Loc} {ls : Array Slot} (hw : wb G A s (wM G a σ) H locs) (hl : lv_has ls 2 [(0, .ref (a 26)), (1, .int v1)]) (hok : wp_X2_give_0 σ v1  post) :
    W p l e (rr 0 0) s m args below meth c H locs 0 0 (MQ below (va_Qv post (po G A (wM G a)) A) args s 0 0 A) (F0 m 0 ls []) := by
  unfold wp_X2_give_0 at hok
  refine lv_aload_n hF.x hF.b dX2_give_0 rfl (lv_at hl 0 rfl) ?_
  refine lv_dup hF.x hF.b dX2_give_1 rfl ?_
  refine r_get hF hw 0 rfl rfl inlX2 19 (by decide) wf_X2_107 rfl dX2_give_2 ?_
  refine lv_iconst (v := 1) hF.x hF.b dX2_give_5 (by decide) ?_
  refine lv_isub hF.x hF.b dX2_give_6 ?_
  refine lv_topi (fun x1 ex1 => ?_)
  replace hok := hok x1 ex1
  refine rm_put (v := x1) 19 hF hw (by decide) wf_X2_107 dX2_give_7 (fun σ2 H locs eσ2 hw => ?_)
  replace hok := hok σ2 eσ2
  refine lv_aload_n hF.x hF.b dX2_give_10 rfl (lv_at hl 0 rfl) ?_
  refine lv_iload_n hF.x hF.b dX2_give_11 rfl (lv_at hl 1 rfl) ?_
  refine rm_put (v := v1) 25 hF hw (by decide) wf_X2_110 dX2_give_12 (fun σ3 H locs eσ3 hw => ?_)
  replace hok := hok σ3 eσ3
  refine lv_aload_n hF.x hF.b dX2_give_15 rfl (lv_at hl 0 rfl) ?_
  refine r_get hF hw 0 rfl rfl inlX2 19 (by decide) wf_X2_107 rfl dX2_give_16 ?_
  refine lv_if_le (tgt := 34) hF.x hF.b dX2_give_19 (by decide) (fun c4 => ?_) (fun c4 => ?_)
  · replace hok := hok.1 c4
    exact rt_V (u := σ3) hF hw hok (Nat.zero_le _) (Nat.zero_le _) dX2_give_34
  · replace hok := hok.2 c4
    refine lv_aload_n hF.x hF.b dX2_give_22 rfl (lv_at hl 0 rfl) ?_
    refine r_get hF hw 0 rfl rfl inlX2 23 (by decide) wf_X2_58 rfl dX2_give_23 ?_
    refine lv_aload_n hF.x hF.b dX2_give_26 rfl (lv_at hl 0 rfl) ?_
    refine r_get hF hw 0 rfl rfl inlX2 19 (by decide) wf_X2_107 rfl dX2_give_27 ?_
    refine lv_iconst (v := 1) hF.x hF.b dX2_give_30 (by decide) ?_
    refine lv_isub hF.x hF.b dX2_give_31 ?_
    refine lv_topi (fun x5 ex5 => ?_)
    replace hok := hok x5 ex5
    refine lv_iload_n hF.x hF.b dX2_give_32 rfl (lv_at hl 1 rfl) ?_
    refine rm_ast 23 16 17 hF hw (by decide) hok.1 dX2_give_33 (fun σ6 H locs eσ6 hw => ?_)
    replace hok := hok.2 σ6 eσ6
    exact rt_V (u := σ6) hF hw hok (Nat.zero_le _) (Nat.zero_le _) dX2_give_34

theorem c2_give (l : Launch) (G : Gm) (a : Nat → Nat) (σ : SM) (v1 : Int32) {post : SM → Prop} (h : wp_X2_give_0 σ v1 post) : ctV l yX2_give cX2_give 2 (rr 0 0) G [.ref (a 26), .int v1] (wM G a σ) post (wM G a) := by
  refine en_V (by decide +kernel) (Nat.le_of_ble_eq_true rfl) (fun p e s m below meth c A ls hF hn hw hl => ?_)
  exact k_X2_give_0 hF  σ v1 hw hl h

def wp_X2_fall_56 (σ : SM) (v1 : Int32) (vs0 : Int32)  (post : SM → Prop) : Prop :=
  (vs0 = 0 → ∀ x2 : Int32, x2 = (σ.1 19) - 1 → ∀ σ3 : SM, σ3 = (va_up σ.1 19 x2, σ.2) → post σ3) ∧ (¬ vs0 = 0 → ∀ σ4 : SM, σ4 = (va_up σ.1 24 0, σ.2) → vp_in v1 16 ∧ ∀ σ5 : SM, σ5 = (σ4.1, va_up σ4.2 22 (upd (σ4.2 22) v1.toNatClampNeg 2)) → vp_in v1 16 ∧ ∀ x6 : Int32, x6 = σ5.2 20 v1.toNatClampNeg → vp_in x6 600 ∧ ∀ x7 : Int32, x7 = σ5.2 8 x6.toNatClampNeg → vp_in v1 16 ∧ ∀ x8 : Int32, x8 = σ5.2 21 v1.toNatClampNeg → wp_X2_enter_0 σ5 x7 x8 (fun σ9 : SM => post σ9))
set_option maxHeartbeats 4000000 in
set_option maxRecDepth 100000 in
theorem k_X2_fall_56 {l : Launch} {p : Program} {e : Env} {s : State} {m : MethodId} {below : List Frame} {meth : Method} {c : Code} {args : Array Value} {A : Nat → Prop} {G : Gm} {a : Nat → Nat}  (hF : fx p s m args meth c cX2_fall 3 yX2_fall.cls kX2_fall none) {post : SM → Prop}  (σ : SM) (v1 : Int32) (vs0 : Int32) {H : Heap} {locs : List Loc} {ls : Array Slot} (hw : wb G A s (wM G a σ) H locs) (hl : lv_has ls 3 [(0, .ref (a 26)), (1, .int v1)]) (hok : wp_X2_fall_56 σ v1 vs0  post) :
    W p l e (rr 1 22) s m args below meth c H locs 0 0 (MQ below (va_Qv post (po G A (wM G a)) A) args s 0 0 A) (F0 m 56 ls [.int vs0]) := by
  unfold wp_X2_fall_56 at hok
  refine lv_istore_n (lv' := [(2, .int vs0), (0, .ref (a 26)), (1, .int v1)]) hF.x hF.b dX2_fall_56 rfl hl (by decide) rfl (fun ls hl => ?_)
  refine lv_iload_n hF.x hF.b dX2_fall_57 rfl (lv_at hl 0 rfl) ?_
  refine lv_if_eq (tgt := 97) hF.x hF.b dX2_fall_58 (by decide) (fun c1 => ?_) (fun c1 => ?_)
  · replace hok := hok.1 c1
    refine lv_aload_n hF.x hF.b dX2_fall_97 rfl (lv_at hl 1 rfl) ?_
    refine lv_dup hF.x hF.b dX2_fall_98 rfl ?_
    refine r_get hF hw 0 rfl rfl inlX2 19 (by decide) wf_X2_107 rfl dX2_fall_99 ?_
    refine lv_iconst (v := 1) hF.x hF.b dX2_fall_102 (by decide) ?_
    refine lv_isub hF.x hF.b dX2_fall_103 ?_
    refine lv_topi (fun x2 ex2 => ?_)
    replace hok := hok x2 ex2
    refine rm_put (v := x2) 19 hF hw (by decide) wf_X2_107 dX2_fall_104 (fun σ3 H locs eσ3 hw => ?_)
    replace hok := hok σ3 eσ3
    exact rt_V (u := σ3) hF hw hok (Nat.zero_le _) (Nat.zero_le _) dX2_fall_107
  · replace hok := hok.2 c1
    refine lv_aload_n hF.x hF.b dX2_fall_61 rfl (lv_at hl 1 rfl) ?_
    refine lv_iconst (v := 0) hF.x hF.b dX2_fall_62 (by decide) ?_
    refine rm_put (v := 0) 24 hF hw (by decide) wf_X2_104 dX2_fall_63 (fun σ4 H locs eσ4 hw => ?_)
    replace hok := hok σ4 eσ4
    refine lv_aload_n hF.x hF.b dX2_fall_66 rfl (lv_at hl 1 rfl) ?_
    refine r_get hF hw 0 rfl rfl inlX2 22 (by decide) wf_X2_55 rfl dX2_fall_67 ?_
    refine lv_iload_n hF.x hF.b dX2_fall_70 rfl (lv_at hl 2 rfl) ?_
    refine lv_iconst (v := 2) hF.x hF.b dX2_fall_71 (by decide) ?_
    refine rm_ast 22 16 16 hF hw (by decide) hok.1 dX2_fall_72 (fun σ5 H locs eσ5 hw => ?_)
    replace hok := hok.2 σ5 eσ5
    refine lv_aload_n hF.x hF.b dX2_fall_73 rfl (lv_at hl 1 rfl) ?_
    refine lv_aload_n hF.x hF.b dX2_fall_74 rfl (lv_at hl 1 rfl) ?_
    refine r_get hF hw 0 rfl rfl inlX2 8 (by decide) wf_X2_28 rfl dX2_fall_75 ?_
    refine lv_aload_n hF.x hF.b dX2_fall_78 rfl (lv_at hl 1 rfl) ?_
    refine r_get hF hw 0 rfl rfl inlX2 20 (by decide) wf_X2_49 rfl dX2_fall_79 ?_
    refine lv_iload_n hF.x hF.b dX2_fall_82 rfl (lv_at hl 2 rfl) ?_
    refine rm_ald 20 16 14 hF hw (by decide) hok.1 dX2_fall_83 ?_
    refine lv_topi (fun x6 ex6 => ?_)
    replace hok := hok.2 x6 ex6
    refine rm_ald 8 600 7 hF hw (by decide) hok.1 dX2_fall_84 ?_
    refine lv_topi (fun x7 ex7 => ?_)
    replace hok := hok.2 x7 ex7
    refine lv_aload_n hF.x hF.b dX2_fall_85 rfl (lv_at hl 1 rfl) ?_
    refine r_get hF hw 0 rfl rfl inlX2 21 (by decide) wf_X2_52 rfl dX2_fall_86 ?_
    refine lv_iload_n hF.x hF.b dX2_fall_89 rfl (lv_at hl 2 rfl) ?_
    refine rm_ald 21 16 15 hF hw (by decide) hok.1 dX2_fall_90 ?_
    refine lv_topi (fun x8 ex8 => ?_)
    replace hok := hok.2 x8 ex8
    refine ca_V hF hw (c2_enter l G a σ5 x7 x8 hok) wv_X2_113 (q0 := 0) rfl rfl rfl ⟨nd_X2.1, nd_X2.2, pd_X2_enter⟩ ⟨Nat.le_of_ble_eq_true rfl, Nat.le_of_ble_eq_true rfl⟩ ⟨Nat.zero_le _, Nat.zero_le _⟩ hl.1 rfl (Nat.le_of_ble_eq_true rfl) dX2_fall_91 (fun σ9 H locs hp hw => ?_)
    replace hok := hp
    refine lv_goto (tgt := 107) hF.x hF.b dX2_fall_94 (by decide) ?_
    exact rt_V (u := σ9) hF hw hok (Nat.zero_le _) (Nat.zero_le _) dX2_fall_107
def wp_X2_fall_55 (σ : SM) (v1 : Int32)  (post : SM → Prop) : Prop :=
  wp_X2_fall_56 σ v1 0  post
set_option maxHeartbeats 4000000 in
set_option maxRecDepth 100000 in
theorem k_X2_fall_55 {l : Launch} {p : Program} {e : Env} {s : State} {m : MethodId} {below : List Frame} {meth : Method} {c : Code} {args : Array Value} {A : Nat → Prop} {G : Gm} {a : Nat → Nat}  (hF : fx p s m args meth c cX2_fall 3 yX2_fall.cls kX2_fall none) {post : SM → Prop}  (σ : SM) (v1 : Int32) {H : Heap} {locs : List Loc} {ls : Array Slot} (hw : wb G A s (wM G a σ) H locs) (hl : lv_has ls 3 [(0, .ref (a 26)), (1, .int v1)]) (hok : wp_X2_fall_55 σ v1  post) :
    W p l e (rr 1 22) s m args below meth c H locs 0 0 (MQ below (va_Qv post (po G A (wM G a)) A) args s 0 0 A) (F0 m 55 ls []) := by
  unfold wp_X2_fall_55 at hok
  refine lv_iconst (v := 0) hF.x hF.b dX2_fall_55 (by decide) ?_
  exact k_X2_fall_56  hF  σ v1 0 hw (lv_sub hl [0, 1] rfl) hok
def wp_X2_fall_0 (σ : SM)   (post : SM → Prop) : Prop :=
  ∀ x1 : Int32, x1 = (σ.1 19) - 1 → vp_in x1 16 ∧ ∀ x2 : Int32, x2 = σ.2 20 x1.toNatClampNeg → vp_in x2 600 ∧ ∀ x3 : Int32, x3 = σ.2 6 x2.toNatClampNeg → (¬ x3 = 10 → wp_X2_fall_55 σ x1  post) ∧ (x3 = 10 → vp_in x1 16 ∧ ∀ x5 : Int32, x5 = σ.2 22 x1.toNatClampNeg → (¬ x5 = 1 → wp_X2_fall_55 σ x1  post) ∧ (x5 = 1 → ((σ.1 24) = ((-8)) → wp_X2_fall_55 σ x1  post) ∧ (¬ (σ.1 24) = ((-8)) → ((σ.1 24) = ((-9)) → wp_X2_fall_55 σ x1  post) ∧ (¬ (σ.1 24) = ((-9)) → wp_X2_fall_56 σ x1 1  post))))
set_option maxHeartbeats 4000000 in
set_option maxRecDepth 100000 in
theorem k_X2_fall_0 {l : Launch} {p : Program} {e : Env} {s : State} {m : MethodId} {below : List Frame} {meth : Method} {c : Code} {args : Array Value} {A : Nat → Prop} {G : Gm} {a : Nat → Nat}  (hF : fx p s m args meth c cX2_fall 3 yX2_fall.cls kX2_fall none) {post : SM → Prop}  (σ : SM)  {H : Heap} {locs : List Loc} {ls : Array Slot} (hw : wb G A s (wM G a σ) H locs) (hl : lv_has ls 3 [(0, .ref (a 26))]) (hok : wp_X2_fall_0 σ   post) :
    W p l e (rr 1 22) s m args below meth c H locs 0 0 (MQ below (va_Qv post (po G A (wM G a)) A) args s 0 0 A) (F0 m 0 ls []) := by
  unfold wp_X2_fall_0 at hok
  refine lv_aload_n hF.x hF.b dX2_fall_0 rfl (lv_at hl 0 rfl) ?_
  refine r_get hF hw 0 rfl rfl inlX2 19 (by decide) wf_X2_107 rfl dX2_fall_1 ?_
  refine lv_iconst (v := 1) hF.x hF.b dX2_fall_4 (by decide) ?_
  refine lv_isub hF.x hF.b dX2_fall_5 ?_
  refine lv_topi (fun x1 ex1 => ?_)
  replace hok := hok x1 ex1
  refine lv_istore_n (lv' := [(1, .int x1), (0, .ref (a 26))]) hF.x hF.b dX2_fall_6 rfl hl (by decide) rfl (fun ls hl => ?_)
  refine lv_aload_n hF.x hF.b dX2_fall_7 rfl (lv_at hl 1 rfl) ?_
  refine r_get hF hw 0 rfl rfl inlX2 6 (by decide) wf_X2_22 rfl dX2_fall_8 ?_
  refine lv_aload_n hF.x hF.b dX2_fall_11 rfl (lv_at hl 1 rfl) ?_
  refine r_get hF hw 0 rfl rfl inlX2 20 (by decide) wf_X2_49 rfl dX2_fall_12 ?_
  refine lv_iload_n hF.x hF.b dX2_fall_15 rfl (lv_at hl 0 rfl) ?_
  refine rm_ald 20 16 14 hF hw (by decide) hok.1 dX2_fall_16 ?_
  refine lv_topi (fun x2 ex2 => ?_)
  replace hok := hok.2 x2 ex2
  refine rm_ald 6 600 5 hF hw (by decide) hok.1 dX2_fall_17 ?_
  refine lv_topi (fun x3 ex3 => ?_)
  replace hok := hok.2 x3 ex3
  refine lv_bipush (v := 10) hF.x hF.b dX2_fall_18 (by decide) ?_
  refine lv_icmp_ne (tgt := 55) hF.x hF.b dX2_fall_20 (by decide) (fun c4 => ?_) (fun c4 => ?_)
  · replace hok := hok.1 c4
    exact k_X2_fall_55  hF  σ x1 hw (lv_sub hl [1, 0] rfl) hok
  · replace hok := hok.2 c4
    refine lv_aload_n hF.x hF.b dX2_fall_23 rfl (lv_at hl 1 rfl) ?_
    refine r_get hF hw 0 rfl rfl inlX2 22 (by decide) wf_X2_55 rfl dX2_fall_24 ?_
    refine lv_iload_n hF.x hF.b dX2_fall_27 rfl (lv_at hl 0 rfl) ?_
    refine rm_ald 22 16 16 hF hw (by decide) hok.1 dX2_fall_28 ?_
    refine lv_topi (fun x5 ex5 => ?_)
    replace hok := hok.2 x5 ex5
    refine lv_iconst (v := 1) hF.x hF.b dX2_fall_29 (by decide) ?_
    refine lv_icmp_ne (tgt := 55) hF.x hF.b dX2_fall_30 (by decide) (fun c6 => ?_) (fun c6 => ?_)
    · replace hok := hok.1 c6
      exact k_X2_fall_55  hF  σ x1 hw (lv_sub hl [1, 0] rfl) hok
    · replace hok := hok.2 c6
      refine lv_aload_n hF.x hF.b dX2_fall_33 rfl (lv_at hl 1 rfl) ?_
      refine r_get hF hw 0 rfl rfl inlX2 24 (by decide) wf_X2_104 rfl dX2_fall_34 ?_
      refine lv_bipush (v := (-8)) hF.x hF.b dX2_fall_37 (by decide) ?_
      refine lv_icmp_eq (tgt := 55) hF.x hF.b dX2_fall_39 (by decide) (fun c7 => ?_) (fun c7 => ?_)
      · replace hok := hok.1 c7
        exact k_X2_fall_55  hF  σ x1 hw (lv_sub hl [1, 0] rfl) hok
      · replace hok := hok.2 c7
        refine lv_aload_n hF.x hF.b dX2_fall_42 rfl (lv_at hl 1 rfl) ?_
        refine r_get hF hw 0 rfl rfl inlX2 24 (by decide) wf_X2_104 rfl dX2_fall_43 ?_
        refine lv_bipush (v := (-9)) hF.x hF.b dX2_fall_46 (by decide) ?_
        refine lv_icmp_eq (tgt := 55) hF.x hF.b dX2_fall_48 (by decide) (fun c8 => ?_) (fun c8 => ?_)
        · replace hok := hok.1 c8
          exact k_X2_fall_55  hF  σ x1 hw (lv_sub hl [1, 0] rfl) hok
        · replace hok := hok.2 c8
          refine lv_iconst (v := 1) hF.x hF.b dX2_fall_51 (by decide) ?_
          refine lv_goto (tgt := 56) hF.x hF.b dX2_fall_52 (by decide) ?_
          exact k_X2_fall_56  hF  σ x1 1 hw (lv_sub hl [1, 0] rfl) hok

theorem c2_fall (l : Launch) (G : Gm) (a : Nat → Nat) (σ : SM)  {post : SM → Prop} (h : wp_X2_fall_0 σ  post) : ctV l yX2_fall cX2_fall 3 (rr 1 22) G [.ref (a 26)] (wM G a σ) post (wM G a) := by
  refine en_V (by decide +kernel) (Nat.le_of_ble_eq_true rfl) (fun p e s m below meth c A ls hF hn hw hl => ?_)
  exact k_X2_fall_0 hF  σ  hw hl h

def wp_X2_draw_0 (σ : SM) (v1 : Int32) (v2 : Int32) (v3 : Int32)  (post : SM → Prop) : Prop :=
  (v3 < 0 → ∀ σ2 : SM, σ2 = (va_up σ.1 24 ((-3)), σ.2) → post σ2) ∧ (¬ v3 < 0 → vp_in v1 10 ∧ ∀ x3 : Int32, x3 = σ.2 0 v1.toNatClampNeg → (v3 ≤ x3 → vp_in v1 10 ∧ ∀ x5 : Int32, x5 = σ.2 0 v1.toNatClampNeg → ∀ x6 : Int32, x6 = x5 - v3 → vp_in v1 10 ∧ ∀ σ7 : SM, σ7 = (σ.1, va_up σ.2 0 (upd (σ.2 0) v1.toNatClampNeg x6)) → vp_in v2 10 ∧ ∀ x8 : Int32, x8 = σ7.2 0 v2.toNatClampNeg → ∀ x9 : Int32, x9 = x8 + v3 → vp_in v2 10 ∧ ∀ σ10 : SM, σ10 = (σ7.1, va_up σ7.2 0 (upd (σ7.2 0) v2.toNatClampNeg x9)) → vp_in v1 10 ∧ ∀ x11 : Int32, x11 = σ10.2 0 v1.toNatClampNeg → wp_X2_give_0 σ10 x11 (fun σ12 : SM => post σ12)) ∧ (¬ v3 ≤ x3 → ∀ σ13 : SM, σ13 = (va_up σ.1 24 ((-3)), σ.2) → post σ13))
set_option maxHeartbeats 4000000 in
set_option maxRecDepth 100000 in
theorem k_X2_draw_0 {l : Launch} {p : Program} {e : Env} {s : State} {m : MethodId} {below : List Frame} {meth : Method} {c : Code} {args : Array Value} {A : Nat → Prop} {G : Gm} {a : Nat → Nat}  (hF : fx p s m args meth c cX2_draw 4 yX2_draw.cls kX2_draw none) {post : SM → Prop}  (σ : SM) (v1 : Int32) (v2 : Int32) (v3 : Int32) {H : Heap} {locs : List Loc} {ls : Array Slot} (hw : wb G A s (wM G a σ) H locs) (hl : lv_has ls 4 [(0, .ref (a 26)), (1, .int v1), (2, .int v2), (3, .int v3)]) (hok : wp_X2_draw_0 σ v1 v2 v3  post) :
    W p l e (rr 1 21) s m args below meth c H locs 0 0 (MQ below (va_Qv post (po G A (wM G a)) A) args s 0 0 A) (F0 m 0 ls []) := by
  unfold wp_X2_draw_0 at hok
  refine lv_iload_n hF.x hF.b dX2_draw_0 rfl (lv_at hl 3 rfl) ?_
  refine lv_if_lt (tgt := 14) hF.x hF.b dX2_draw_1 (by decide) (fun c1 => ?_) (fun c1 => ?_)
  · replace hok := hok.1 c1
    refine lv_aload_n hF.x hF.b dX2_draw_14 rfl (lv_at hl 0 rfl) ?_
    refine lv_bipush (v := (-3)) hF.x hF.b dX2_draw_15 (by decide) ?_
    refine rm_put (v := (-3)) 24 hF hw (by decide) wf_X2_104 dX2_draw_17 (fun σ2 H locs eσ2 hw => ?_)
    replace hok := hok σ2 eσ2
    exact rt_V (u := σ2) hF hw hok (Nat.zero_le _) (Nat.zero_le _) dX2_draw_20
  · replace hok := hok.2 c1
    refine lv_iload_n hF.x hF.b dX2_draw_4 rfl (lv_at hl 3 rfl) ?_
    refine lv_aload_n hF.x hF.b dX2_draw_5 rfl (lv_at hl 0 rfl) ?_
    refine r_get hF hw 0 rfl rfl inlX2 0 (by decide) wf_X2_7 rfl dX2_draw_6 ?_
    refine lv_iload_n hF.x hF.b dX2_draw_9 rfl (lv_at hl 1 rfl) ?_
    refine rm_ald 0 10 1 hF hw (by decide) hok.1 dX2_draw_10 ?_
    refine lv_topi (fun x3 ex3 => ?_)
    replace hok := hok.2 x3 ex3
    refine lv_icmp_le (tgt := 21) hF.x hF.b dX2_draw_11 (by decide) (fun c4 => ?_) (fun c4 => ?_)
    · replace hok := hok.1 c4
      refine lv_aload_n hF.x hF.b dX2_draw_21 rfl (lv_at hl 0 rfl) ?_
      refine r_get hF hw 0 rfl rfl inlX2 0 (by decide) wf_X2_7 rfl dX2_draw_22 ?_
      refine lv_iload_n hF.x hF.b dX2_draw_25 rfl (lv_at hl 1 rfl) ?_
      refine lv_dup2_11 hF.x hF.b dX2_draw_26 rfl rfl ?_
      refine rm_ald 0 10 1 hF hw (by decide) hok.1 dX2_draw_27 ?_
      refine lv_topi (fun x5 ex5 => ?_)
      replace hok := hok.2 x5 ex5
      refine lv_iload_n hF.x hF.b dX2_draw_28 rfl (lv_at hl 3 rfl) ?_
      refine lv_isub hF.x hF.b dX2_draw_29 ?_
      refine lv_topi (fun x6 ex6 => ?_)
      replace hok := hok x6 ex6
      refine rm_ast 0 10 1 hF hw (by decide) hok.1 dX2_draw_30 (fun σ7 H locs eσ7 hw => ?_)
      replace hok := hok.2 σ7 eσ7
      refine lv_aload_n hF.x hF.b dX2_draw_31 rfl (lv_at hl 0 rfl) ?_
      refine r_get hF hw 0 rfl rfl inlX2 0 (by decide) wf_X2_7 rfl dX2_draw_32 ?_
      refine lv_iload_n hF.x hF.b dX2_draw_35 rfl (lv_at hl 2 rfl) ?_
      refine lv_dup2_11 hF.x hF.b dX2_draw_36 rfl rfl ?_
      refine rm_ald 0 10 1 hF hw (by decide) hok.1 dX2_draw_37 ?_
      refine lv_topi (fun x8 ex8 => ?_)
      replace hok := hok.2 x8 ex8
      refine lv_iload_n hF.x hF.b dX2_draw_38 rfl (lv_at hl 3 rfl) ?_
      refine lv_iadd hF.x hF.b dX2_draw_39 ?_
      refine lv_topi (fun x9 ex9 => ?_)
      replace hok := hok x9 ex9
      refine rm_ast 0 10 1 hF hw (by decide) hok.1 dX2_draw_40 (fun σ10 H locs eσ10 hw => ?_)
      replace hok := hok.2 σ10 eσ10
      refine lv_aload_n hF.x hF.b dX2_draw_41 rfl (lv_at hl 0 rfl) ?_
      refine lv_aload_n hF.x hF.b dX2_draw_42 rfl (lv_at hl 0 rfl) ?_
      refine r_get hF hw 0 rfl rfl inlX2 0 (by decide) wf_X2_7 rfl dX2_draw_43 ?_
      refine lv_iload_n hF.x hF.b dX2_draw_46 rfl (lv_at hl 1 rfl) ?_
      refine rm_ald 0 10 1 hF hw (by decide) hok.1 dX2_draw_47 ?_
      refine lv_topi (fun x11 ex11 => ?_)
      replace hok := hok.2 x11 ex11
      refine ca_V hF hw (c2_give l G a σ10 x11 hok) wv_X2_117 (q0 := 0) rfl rfl rfl ⟨nd_X2.1, nd_X2.2, pd_X2_give⟩ ⟨Nat.le_of_ble_eq_true rfl, Nat.le_of_ble_eq_true rfl⟩ ⟨Nat.zero_le _, Nat.zero_le _⟩ hl.1 rfl (Nat.le_of_ble_eq_true rfl) dX2_draw_48 (fun σ12 H locs hp hw => ?_)
      replace hok := hp
      exact rt_V (u := σ12) hF hw hok (Nat.zero_le _) (Nat.zero_le _) dX2_draw_51
    · replace hok := hok.2 c4
      refine lv_aload_n hF.x hF.b dX2_draw_14 rfl (lv_at hl 0 rfl) ?_
      refine lv_bipush (v := (-3)) hF.x hF.b dX2_draw_15 (by decide) ?_
      refine rm_put (v := (-3)) 24 hF hw (by decide) wf_X2_104 dX2_draw_17 (fun σ13 H locs eσ13 hw => ?_)
      replace hok := hok σ13 eσ13
      exact rt_V (u := σ13) hF hw hok (Nat.zero_le _) (Nat.zero_le _) dX2_draw_20

theorem c2_draw (l : Launch) (G : Gm) (a : Nat → Nat) (σ : SM) (v1 : Int32) (v2 : Int32) (v3 : Int32) {post : SM → Prop} (h : wp_X2_draw_0 σ v1 v2 v3 post) : ctV l yX2_draw cX2_draw 4 (rr 1 21) G [.ref (a 26), .int v1, .int v2, .int v3] (wM G a σ) post (wM G a) := by
  refine en_V (by decide +kernel) (Nat.le_of_ble_eq_true rfl) (fun p e s m below meth c A ls hF hn hw hl => ?_)
  exact k_X2_draw_0 hF  σ v1 v2 v3 hw hl h

def wp_X2_later_0 (σ : SM) (v1 : Int32) (v2 : Int32)  (post : SM → Prop) : Prop :=
  (¬ (σ.1 13) = 12 → vp_in (σ.1 13) 12 ∧ ∀ σ2 : SM, σ2 = (σ.1, va_up σ.2 14 (upd (σ.2 14) (σ.1 13).toNatClampNeg v1)) → vp_in (σ2.1 13) 12 ∧ ∀ σ3 : SM, σ3 = (σ2.1, va_up σ2.2 15 (upd (σ2.2 15) (σ2.1 13).toNatClampNeg v2)) → ∀ x4 : Int32, x4 = (σ3.1 13) + 1 → ∀ σ5 : SM, σ5 = (va_up σ3.1 13 x4, σ3.2) → wp_X2_give_0 σ5 (σ5.1 13) (fun σ6 : SM => post σ6)) ∧ ((σ.1 13) = 12 → ∀ σ7 : SM, σ7 = (va_up σ.1 24 ((-7)), σ.2) → post σ7)
set_option maxHeartbeats 4000000 in
set_option maxRecDepth 100000 in
theorem k_X2_later_0 {l : Launch} {p : Program} {e : Env} {s : State} {m : MethodId} {below : List Frame} {meth : Method} {c : Code} {args : Array Value} {A : Nat → Prop} {G : Gm} {a : Nat → Nat}  (hF : fx p s m args meth c cX2_later 3 yX2_later.cls kX2_later none) {post : SM → Prop}  (σ : SM) (v1 : Int32) (v2 : Int32) {H : Heap} {locs : List Loc} {ls : Array Slot} (hw : wb G A s (wM G a σ) H locs) (hl : lv_has ls 3 [(0, .ref (a 26)), (1, .int v1), (2, .int v2)]) (hok : wp_X2_later_0 σ v1 v2  post) :
    W p l e (rr 1 21) s m args below meth c H locs 0 0 (MQ below (va_Qv post (po G A (wM G a)) A) args s 0 0 A) (F0 m 0 ls []) := by
  unfold wp_X2_later_0 at hok
  refine lv_aload_n hF.x hF.b dX2_later_0 rfl (lv_at hl 0 rfl) ?_
  refine r_get hF hw 0 rfl rfl inlX2 13 (by decide) wf_X2_71 rfl dX2_later_1 ?_
  refine lv_bipush (v := 12) hF.x hF.b dX2_later_4 (by decide) ?_
  refine lv_icmp_ne (tgt := 16) hF.x hF.b dX2_later_6 (by decide) (fun c1 => ?_) (fun c1 => ?_)
  · replace hok := hok.1 c1
    refine lv_aload_n hF.x hF.b dX2_later_16 rfl (lv_at hl 0 rfl) ?_
    refine r_get hF hw 0 rfl rfl inlX2 14 (by decide) wf_X2_43 rfl dX2_later_17 ?_
    refine lv_aload_n hF.x hF.b dX2_later_20 rfl (lv_at hl 0 rfl) ?_
    refine r_get hF hw 0 rfl rfl inlX2 13 (by decide) wf_X2_71 rfl dX2_later_21 ?_
    refine lv_iload_n hF.x hF.b dX2_later_24 rfl (lv_at hl 1 rfl) ?_
    refine rm_ast 14 12 12 hF hw (by decide) hok.1 dX2_later_25 (fun σ2 H locs eσ2 hw => ?_)
    replace hok := hok.2 σ2 eσ2
    refine lv_aload_n hF.x hF.b dX2_later_26 rfl (lv_at hl 0 rfl) ?_
    refine r_get hF hw 0 rfl rfl inlX2 15 (by decide) wf_X2_46 rfl dX2_later_27 ?_
    refine lv_aload_n hF.x hF.b dX2_later_30 rfl (lv_at hl 0 rfl) ?_
    refine r_get hF hw 0 rfl rfl inlX2 13 (by decide) wf_X2_71 rfl dX2_later_31 ?_
    refine lv_iload_n hF.x hF.b dX2_later_34 rfl (lv_at hl 2 rfl) ?_
    refine rm_ast 15 12 13 hF hw (by decide) hok.1 dX2_later_35 (fun σ3 H locs eσ3 hw => ?_)
    replace hok := hok.2 σ3 eσ3
    refine lv_aload_n hF.x hF.b dX2_later_36 rfl (lv_at hl 0 rfl) ?_
    refine lv_dup hF.x hF.b dX2_later_37 rfl ?_
    refine r_get hF hw 0 rfl rfl inlX2 13 (by decide) wf_X2_71 rfl dX2_later_38 ?_
    refine lv_iconst (v := 1) hF.x hF.b dX2_later_41 (by decide) ?_
    refine lv_iadd hF.x hF.b dX2_later_42 ?_
    refine lv_topi (fun x4 ex4 => ?_)
    replace hok := hok x4 ex4
    refine rm_put (v := x4) 13 hF hw (by decide) wf_X2_71 dX2_later_43 (fun σ5 H locs eσ5 hw => ?_)
    replace hok := hok σ5 eσ5
    refine lv_aload_n hF.x hF.b dX2_later_46 rfl (lv_at hl 0 rfl) ?_
    refine lv_aload_n hF.x hF.b dX2_later_47 rfl (lv_at hl 0 rfl) ?_
    refine r_get hF hw 0 rfl rfl inlX2 13 (by decide) wf_X2_71 rfl dX2_later_48 ?_
    refine ca_V hF hw (c2_give l G a σ5 (σ5.1 13) hok) wv_X2_117 (q0 := 0) rfl rfl rfl ⟨nd_X2.1, nd_X2.2, pd_X2_give⟩ ⟨Nat.le_of_ble_eq_true rfl, Nat.le_of_ble_eq_true rfl⟩ ⟨Nat.zero_le _, Nat.zero_le _⟩ hl.1 rfl (Nat.le_of_ble_eq_true rfl) dX2_later_51 (fun σ6 H locs hp hw => ?_)
    replace hok := hp
    exact rt_V (u := σ6) hF hw hok (Nat.zero_le _) (Nat.zero_le _) dX2_later_54
  · replace hok := hok.2 c1
    refine lv_aload_n hF.x hF.b dX2_later_9 rfl (lv_at hl 0 rfl) ?_
    refine lv_bipush (v := (-7)) hF.x hF.b dX2_later_10 (by decide) ?_
    refine rm_put (v := (-7)) 24 hF hw (by decide) wf_X2_104 dX2_later_12 (fun σ7 H locs eσ7 hw => ?_)
    replace hok := hok σ7 eσ7
    exact rt_V (u := σ7) hF hw hok (Nat.zero_le _) (Nat.zero_le _) dX2_later_15

theorem c2_later (l : Launch) (G : Gm) (a : Nat → Nat) (σ : SM) (v1 : Int32) (v2 : Int32) {post : SM → Prop} (h : wp_X2_later_0 σ v1 v2 post) : ctV l yX2_later cX2_later 3 (rr 1 21) G [.ref (a 26), .int v1, .int v2] (wM G a σ) post (wM G a) := by
  refine en_V (by decide +kernel) (Nat.le_of_ble_eq_true rfl) (fun p e s m below meth c A ls hF hn hw hl => ?_)
  exact k_X2_later_0 hF  σ v1 v2 hw hl h

def wp_X2_alone_21 (σ : SM) (v1 : Int32) (v2 : Int32) (v3 : Int32) (v4 : Int32) (vs0 : Int32)  (post : SM → Prop) : Prop :=
  (vs0.toInt < 0 ∨ 6 < vs0.toInt → wp_X2_later_0 σ v3 v2 (fun σ2 : SM => post σ2)) ∧ (vs0 = 0 → wp_X2_give_0 σ v3 (fun σ3 : SM => post σ3)) ∧ (vs0 = 1 → vp_in v3 10 ∧ ∀ x4 : Int32, x4 = σ.2 0 v3.toNatClampNeg → vp_in v3 10 ∧ ∀ σ5 : SM, σ5 = (σ.1, va_up σ.2 0 (upd (σ.2 0) v3.toNatClampNeg v2)) → wp_X2_give_0 σ5 x4 (fun σ6 : SM => post σ6)) ∧ (vs0 = 2 → vp_in v3 10 ∧ ∀ x7 : Int32, x7 = σ.2 0 v3.toNatClampNeg → ∀ x8 : Int32, x8 = v2 * v4 → ∀ x9 : Int32, x9 = x7 + x8 → vp_in v3 10 ∧ ∀ σ10 : SM, σ10 = (σ.1, va_up σ.2 0 (upd (σ.2 0) v3.toNatClampNeg x9)) → vp_in v3 10 ∧ ∀ x11 : Int32, x11 = σ10.2 0 v3.toNatClampNeg → wp_X2_give_0 σ10 x11 (fun σ12 : SM => post σ12)) ∧ (vs0 = 3 → wp_X2_draw_0 σ v3 v4 v2 (fun σ13 : SM => post σ13)) ∧ (vs0 = 4 → vp_in v3 600 ∧ ∀ x14 : Int32, x14 = σ.2 2 v3.toNatClampNeg → ∀ x15 : Int32, x15 = x14 - 1 → ∀ r16 : Int32, r16 = f2_isIn v4 0 x15 → (r16 = 0 → ∀ σ18 : SM, σ18 = (va_up σ.1 24 ((-4)), σ.2) → post σ18) ∧ (¬ r16 = 0 → ∀ x19 : Int32, x19 = 6 * v3 → ∀ x20 : Int32, x20 = x19 + v4 → vp_in x20 3600 ∧ ∀ x21 : Int32, x21 = σ.2 3 x20.toNatClampNeg → ∀ x22 : Int32, x22 = x21 + v2 → vp_in x20 3600 ∧ ∀ σ23 : SM, σ23 = (σ.1, va_up σ.2 3 (upd (σ.2 3) x20.toNatClampNeg x22)) → ∀ x24 : Int32, x24 = 6 * v3 → ∀ x25 : Int32, x25 = x24 + v4 → vp_in x25 3600 ∧ ∀ x26 : Int32, x26 = σ23.2 3 x25.toNatClampNeg → wp_X2_give_0 σ23 x26 (fun σ27 : SM => post σ27))) ∧ (vs0 = 5 → (¬ v3 = 0 → ¬ (v3 : Int32) = 0 ∧ ∀ x29 : Int32, x29 = v2 / v3 → wp_X2_give_0 σ x29 (fun σ30 : SM => post σ30)) ∧ (v3 = 0 → ∀ σ31 : SM, σ31 = (va_up σ.1 24 ((-5)), σ.2) → post σ31)) ∧ (vs0 = 6 → ∀ x32 : Int32, x32 = v2 + v3 → wp_X2_give_0 σ x32 (fun σ33 : SM => post σ33))
set_option maxHeartbeats 4000000 in
set_option maxRecDepth 100000 in
theorem k_X2_alone_21 {l : Launch} {p : Program} {e : Env} {s : State} {m : MethodId} {below : List Frame} {meth : Method} {c : Code} {args : Array Value} {A : Nat → Prop} {G : Gm} {a : Nat → Nat}  (hF : fx p s m args meth c cX2_alone 6 yX2_alone.cls kX2_alone none) {post : SM → Prop}  (σ : SM) (v1 : Int32) (v2 : Int32) (v3 : Int32) (v4 : Int32) (vs0 : Int32) {H : Heap} {locs : List Loc} {ls : Array Slot} (hw : wb G A s (wM G a σ) H locs) (hl : lv_has ls 6 [(0, .ref (a 26)), (1, .int v1), (2, .int v2), (3, .int v3), (4, .int v4)]) (hok : wp_X2_alone_21 σ v1 v2 v3 v4 vs0  post) :
    W p l e (rr 2 44) s m args below meth c H locs 0 0 (MQ below (va_Qv post (po G A (wM G a)) A) args s 0 0 A) (F0 m 21 ls [.int vs0]) := by
  unfold wp_X2_alone_21 at hok
  by_cases c1 : vs0.toInt < 0 ∨ 6 < vs0.toInt
  · replace hok := hok.1 c1
    refine lv_tableOut (tgt := 227) hF.x hF.b dX2_alone_21 c1 (by decide) ?_
    refine lv_aload_n hF.x hF.b dX2_alone_227 rfl (lv_at hl 0 rfl) ?_
    refine lv_iload_n hF.x hF.b dX2_alone_228 rfl (lv_at hl 3 rfl) ?_
    refine lv_iload_n hF.x hF.b dX2_alone_229 rfl (lv_at hl 2 rfl) ?_
    refine ca_V hF hw (c2_later l G a σ v3 v2 hok) wv_X2_125 (q0 := 0) rfl rfl rfl ⟨nd_X2.1, nd_X2.2, pd_X2_later⟩ ⟨Nat.le_of_ble_eq_true rfl, Nat.le_of_ble_eq_true rfl⟩ ⟨Nat.zero_le _, Nat.zero_le _⟩ hl.1 rfl (Nat.le_of_ble_eq_true rfl) dX2_alone_230 (fun σ2 H locs hp hw => ?_)
    replace hok := hp
    exact rt_V (u := σ2) hF hw hok (Nat.zero_le _) (Nat.zero_le _) dX2_alone_233
  · obtain ⟨j, hj1, hj2, ex⟩ := sw_in (lo := 0) (hi := 6) c1 (by decide)
    rcases (show j = 0 ∨ j = 1 ∨ j = 2 ∨ j = 3 ∨ j = 4 ∨ j = 5 ∨ j = 6 by omega) with rfl | rfl | rfl | rfl | rfl | rfl | rfl
    · replace hok := hok.2.1 ex
      refine lv_tableIn (off := 43) (tgt := 64) hF.x hF.b dX2_alone_21 (by rw [ex]; decide) (by rw [ex]; decide) (by rw [ex]; rfl) (by decide) ?_
      refine lv_aload_n hF.x hF.b dX2_alone_64 rfl (lv_at hl 0 rfl) ?_
      refine lv_iload_n hF.x hF.b dX2_alone_65 rfl (lv_at hl 3 rfl) ?_
      refine ca_V hF hw (c2_give l G a σ v3 hok) wv_X2_117 (q0 := 0) rfl rfl rfl ⟨nd_X2.1, nd_X2.2, pd_X2_give⟩ ⟨Nat.le_of_ble_eq_true rfl, Nat.le_of_ble_eq_true rfl⟩ ⟨Nat.zero_le _, Nat.zero_le _⟩ hl.1 rfl (Nat.le_of_ble_eq_true rfl) dX2_alone_66 (fun σ3 H locs hp hw => ?_)
      replace hok := hp
      refine lv_goto (tgt := 233) hF.x hF.b dX2_alone_69 (by decide) ?_
      exact rt_V (u := σ3) hF hw hok (Nat.zero_le _) (Nat.zero_le _) dX2_alone_233
    · replace hok := hok.2.2.1 ex
      refine lv_tableIn (off := 51) (tgt := 72) hF.x hF.b dX2_alone_21 (by rw [ex]; decide) (by rw [ex]; decide) (by rw [ex]; rfl) (by decide) ?_
      refine lv_aload_n hF.x hF.b dX2_alone_72 rfl (lv_at hl 0 rfl) ?_
      refine r_get hF hw 0 rfl rfl inlX2 0 (by decide) wf_X2_7 rfl dX2_alone_73 ?_
      refine lv_iload_n hF.x hF.b dX2_alone_76 rfl (lv_at hl 3 rfl) ?_
      refine rm_ald 0 10 1 hF hw (by decide) hok.1 dX2_alone_77 ?_
      refine lv_topi (fun x4 ex4 => ?_)
      replace hok := hok.2 x4 ex4
      refine lv_istore (lv' := [(5, .int x4), (0, .ref (a 26)), (1, .int v1), (2, .int v2), (3, .int v3), (4, .int v4)]) hF.x hF.b dX2_alone_78 hl (by decide) rfl (fun ls hl => ?_)
      refine lv_aload_n hF.x hF.b dX2_alone_80 rfl (lv_at hl 1 rfl) ?_
      refine r_get hF hw 0 rfl rfl inlX2 0 (by decide) wf_X2_7 rfl dX2_alone_81 ?_
      refine lv_iload_n hF.x hF.b dX2_alone_84 rfl (lv_at hl 4 rfl) ?_
      refine lv_iload_n hF.x hF.b dX2_alone_85 rfl (lv_at hl 3 rfl) ?_
      refine rm_ast 0 10 1 hF hw (by decide) hok.1 dX2_alone_86 (fun σ5 H locs eσ5 hw => ?_)
      replace hok := hok.2 σ5 eσ5
      refine lv_aload_n hF.x hF.b dX2_alone_87 rfl (lv_at hl 1 rfl) ?_
      refine lv_iload hF.x hF.b dX2_alone_88 (lv_at hl 0 rfl) ?_
      refine ca_V hF hw (c2_give l G a σ5 x4 hok) wv_X2_117 (q0 := 0) rfl rfl rfl ⟨nd_X2.1, nd_X2.2, pd_X2_give⟩ ⟨Nat.le_of_ble_eq_true rfl, Nat.le_of_ble_eq_true rfl⟩ ⟨Nat.zero_le _, Nat.zero_le _⟩ hl.1 rfl (Nat.le_of_ble_eq_true rfl) dX2_alone_90 (fun σ6 H locs hp hw => ?_)
      replace hok := hp
      refine lv_goto (tgt := 233) hF.x hF.b dX2_alone_93 (by decide) ?_
      exact rt_V (u := σ6) hF hw hok (Nat.zero_le _) (Nat.zero_le _) dX2_alone_233
    · replace hok := hok.2.2.2.1 ex
      refine lv_tableIn (off := 75) (tgt := 96) hF.x hF.b dX2_alone_21 (by rw [ex]; decide) (by rw [ex]; decide) (by rw [ex]; rfl) (by decide) ?_
      refine lv_aload_n hF.x hF.b dX2_alone_96 rfl (lv_at hl 0 rfl) ?_
      refine r_get hF hw 0 rfl rfl inlX2 0 (by decide) wf_X2_7 rfl dX2_alone_97 ?_
      refine lv_iload_n hF.x hF.b dX2_alone_100 rfl (lv_at hl 3 rfl) ?_
      refine lv_dup2_11 hF.x hF.b dX2_alone_101 rfl rfl ?_
      refine rm_ald 0 10 1 hF hw (by decide) hok.1 dX2_alone_102 ?_
      refine lv_topi (fun x7 ex7 => ?_)
      replace hok := hok.2 x7 ex7
      refine lv_iload_n hF.x hF.b dX2_alone_103 rfl (lv_at hl 2 rfl) ?_
      refine lv_iload hF.x hF.b dX2_alone_104 (lv_at hl 4 rfl) ?_
      refine lv_imul hF.x hF.b dX2_alone_106 ?_
      refine lv_topi (fun x8 ex8 => ?_)
      replace hok := hok x8 ex8
      refine lv_iadd hF.x hF.b dX2_alone_107 ?_
      refine lv_topi (fun x9 ex9 => ?_)
      replace hok := hok x9 ex9
      refine rm_ast 0 10 1 hF hw (by decide) hok.1 dX2_alone_108 (fun σ10 H locs eσ10 hw => ?_)
      replace hok := hok.2 σ10 eσ10
      refine lv_aload_n hF.x hF.b dX2_alone_109 rfl (lv_at hl 0 rfl) ?_
      refine lv_aload_n hF.x hF.b dX2_alone_110 rfl (lv_at hl 0 rfl) ?_
      refine r_get hF hw 0 rfl rfl inlX2 0 (by decide) wf_X2_7 rfl dX2_alone_111 ?_
      refine lv_iload_n hF.x hF.b dX2_alone_114 rfl (lv_at hl 3 rfl) ?_
      refine rm_ald 0 10 1 hF hw (by decide) hok.1 dX2_alone_115 ?_
      refine lv_topi (fun x11 ex11 => ?_)
      replace hok := hok.2 x11 ex11
      refine ca_V hF hw (c2_give l G a σ10 x11 hok) wv_X2_117 (q0 := 0) rfl rfl rfl ⟨nd_X2.1, nd_X2.2, pd_X2_give⟩ ⟨Nat.le_of_ble_eq_true rfl, Nat.le_of_ble_eq_true rfl⟩ ⟨Nat.zero_le _, Nat.zero_le _⟩ hl.1 rfl (Nat.le_of_ble_eq_true rfl) dX2_alone_116 (fun σ12 H locs hp hw => ?_)
      replace hok := hp
      refine lv_goto (tgt := 233) hF.x hF.b dX2_alone_119 (by decide) ?_
      exact rt_V (u := σ12) hF hw hok (Nat.zero_le _) (Nat.zero_le _) dX2_alone_233
    · replace hok := hok.2.2.2.2.1 ex
      refine lv_tableIn (off := 101) (tgt := 122) hF.x hF.b dX2_alone_21 (by rw [ex]; decide) (by rw [ex]; decide) (by rw [ex]; rfl) (by decide) ?_
      refine lv_aload_n hF.x hF.b dX2_alone_122 rfl (lv_at hl 0 rfl) ?_
      refine lv_iload_n hF.x hF.b dX2_alone_123 rfl (lv_at hl 3 rfl) ?_
      refine lv_iload hF.x hF.b dX2_alone_124 (lv_at hl 4 rfl) ?_
      refine lv_iload_n hF.x hF.b dX2_alone_126 rfl (lv_at hl 2 rfl) ?_
      refine ca_V hF hw (c2_draw l G a σ v3 v4 v2 hok) wv_X2_121 (q0 := 0) rfl rfl rfl ⟨nd_X2.1, nd_X2.2, pd_X2_draw⟩ ⟨Nat.le_of_ble_eq_true rfl, Nat.le_of_ble_eq_true rfl⟩ ⟨Nat.zero_le _, Nat.zero_le _⟩ hl.1 rfl (Nat.le_of_ble_eq_true rfl) dX2_alone_127 (fun σ13 H locs hp hw => ?_)
      replace hok := hp
      refine lv_goto (tgt := 233) hF.x hF.b dX2_alone_130 (by decide) ?_
      exact rt_V (u := σ13) hF hw hok (Nat.zero_le _) (Nat.zero_le _) dX2_alone_233
    · replace hok := hok.2.2.2.2.2.1 ex
      refine lv_tableIn (off := 112) (tgt := 133) hF.x hF.b dX2_alone_21 (by rw [ex]; decide) (by rw [ex]; decide) (by rw [ex]; rfl) (by decide) ?_
      refine lv_iload hF.x hF.b dX2_alone_133 (lv_at hl 4 rfl) ?_
      refine lv_iconst (v := 0) hF.x hF.b dX2_alone_135 (by decide) ?_
      refine lv_aload_n hF.x hF.b dX2_alone_136 rfl (lv_at hl 0 rfl) ?_
      refine r_get hF hw 0 rfl rfl inlX2 2 (by decide) wf_X2_13 rfl dX2_alone_137 ?_
      refine lv_iload_n hF.x hF.b dX2_alone_140 rfl (lv_at hl 3 rfl) ?_
      refine rm_ald 2 600 2 hF hw (by decide) hok.1 dX2_alone_141 ?_
      refine lv_topi (fun x14 ex14 => ?_)
      replace hok := hok.2 x14 ex14
      refine lv_iconst (v := 1) hF.x hF.b dX2_alone_142 (by decide) ?_
      refine lv_isub hF.x hF.b dX2_alone_143 ?_
      refine lv_topi (fun x15 ex15 => ?_)
      replace hok := hok x15 ex15
      refine ca_S hF (c2_isIn l v4 0 x15) wv_X2_83 ⟨rfl, nd_X2.1, nd_X2.2, pd_X2_isIn⟩ ⟨rfl, rfl⟩ ⟨Nat.le_of_ble_eq_true rfl, Nat.le_of_ble_eq_true rfl⟩ ⟨Nat.zero_le _, Nat.zero_le _⟩ hl.1 rfl (by first | exact Nat.le_of_ble_eq_true rfl | simp [cat_rf, Value.category]) dX2_alone_144 (fun r16 er16 => ?_)
      replace hok := hok r16 er16
      refine lv_if_eq (tgt := 185) hF.x hF.b dX2_alone_147 (by decide) (fun c17 => ?_) (fun c17 => ?_)
      · replace hok := hok.1 c17
        refine lv_aload_n hF.x hF.b dX2_alone_185 rfl (lv_at hl 0 rfl) ?_
        refine lv_bipush (v := (-4)) hF.x hF.b dX2_alone_186 (by decide) ?_
        refine rm_put (v := (-4)) 24 hF hw (by decide) wf_X2_104 dX2_alone_188 (fun σ18 H locs eσ18 hw => ?_)
        replace hok := hok σ18 eσ18
        refine lv_goto (tgt := 233) hF.x hF.b dX2_alone_191 (by decide) ?_
        exact rt_V (u := σ18) hF hw hok (Nat.zero_le _) (Nat.zero_le _) dX2_alone_233
      · replace hok := hok.2 c17
        refine lv_aload_n hF.x hF.b dX2_alone_150 rfl (lv_at hl 0 rfl) ?_
        refine r_get hF hw 0 rfl rfl inlX2 3 (by decide) wf_X2_16 rfl dX2_alone_151 ?_
        refine lv_bipush (v := 6) hF.x hF.b dX2_alone_154 (by decide) ?_
        refine lv_iload_n hF.x hF.b dX2_alone_156 rfl (lv_at hl 3 rfl) ?_
        refine lv_imul hF.x hF.b dX2_alone_157 ?_
        refine lv_topi (fun x19 ex19 => ?_)
        replace hok := hok x19 ex19
        refine lv_iload hF.x hF.b dX2_alone_158 (lv_at hl 4 rfl) ?_
        refine lv_iadd hF.x hF.b dX2_alone_160 ?_
        refine lv_topi (fun x20 ex20 => ?_)
        replace hok := hok x20 ex20
        refine lv_dup2_11 hF.x hF.b dX2_alone_161 rfl rfl ?_
        refine rm_ald 3 3600 3 hF hw (by decide) hok.1 dX2_alone_162 ?_
        refine lv_topi (fun x21 ex21 => ?_)
        replace hok := hok.2 x21 ex21
        refine lv_iload_n hF.x hF.b dX2_alone_163 rfl (lv_at hl 2 rfl) ?_
        refine lv_iadd hF.x hF.b dX2_alone_164 ?_
        refine lv_topi (fun x22 ex22 => ?_)
        replace hok := hok x22 ex22
        refine rm_ast 3 3600 3 hF hw (by decide) hok.1 dX2_alone_165 (fun σ23 H locs eσ23 hw => ?_)
        replace hok := hok.2 σ23 eσ23
        refine lv_aload_n hF.x hF.b dX2_alone_166 rfl (lv_at hl 0 rfl) ?_
        refine lv_aload_n hF.x hF.b dX2_alone_167 rfl (lv_at hl 0 rfl) ?_
        refine r_get hF hw 0 rfl rfl inlX2 3 (by decide) wf_X2_16 rfl dX2_alone_168 ?_
        refine lv_bipush (v := 6) hF.x hF.b dX2_alone_171 (by decide) ?_
        refine lv_iload_n hF.x hF.b dX2_alone_173 rfl (lv_at hl 3 rfl) ?_
        refine lv_imul hF.x hF.b dX2_alone_174 ?_
        refine lv_topi (fun x24 ex24 => ?_)
        replace hok := hok x24 ex24
        refine lv_iload hF.x hF.b dX2_alone_175 (lv_at hl 4 rfl) ?_
        refine lv_iadd hF.x hF.b dX2_alone_177 ?_
        refine lv_topi (fun x25 ex25 => ?_)
        replace hok := hok x25 ex25
        refine rm_ald 3 3600 3 hF hw (by decide) hok.1 dX2_alone_178 ?_
        refine lv_topi (fun x26 ex26 => ?_)
        replace hok := hok.2 x26 ex26
        refine ca_V hF hw (c2_give l G a σ23 x26 hok) wv_X2_117 (q0 := 0) rfl rfl rfl ⟨nd_X2.1, nd_X2.2, pd_X2_give⟩ ⟨Nat.le_of_ble_eq_true rfl, Nat.le_of_ble_eq_true rfl⟩ ⟨Nat.zero_le _, Nat.zero_le _⟩ hl.1 rfl (Nat.le_of_ble_eq_true rfl) dX2_alone_179 (fun σ27 H locs hp hw => ?_)
        replace hok := hp
        refine lv_goto (tgt := 233) hF.x hF.b dX2_alone_182 (by decide) ?_
        exact rt_V (u := σ27) hF hw hok (Nat.zero_le _) (Nat.zero_le _) dX2_alone_233
    · replace hok := hok.2.2.2.2.2.2.1 ex
      refine lv_tableIn (off := 173) (tgt := 194) hF.x hF.b dX2_alone_21 (by rw [ex]; decide) (by rw [ex]; decide) (by rw [ex]; rfl) (by decide) ?_
      refine lv_iload_n hF.x hF.b dX2_alone_194 rfl (lv_at hl 3 rfl) ?_
      refine lv_if_ne (tgt := 207) hF.x hF.b dX2_alone_195 (by decide) (fun c28 => ?_) (fun c28 => ?_)
      · replace hok := hok.1 c28
        refine lv_aload_n hF.x hF.b dX2_alone_207 rfl (lv_at hl 0 rfl) ?_
        refine lv_iload_n hF.x hF.b dX2_alone_208 rfl (lv_at hl 2 rfl) ?_
        refine lv_iload_n hF.x hF.b dX2_alone_209 rfl (lv_at hl 3 rfl) ?_
        refine lv_idiv hF.x hF.b dX2_alone_210 hok.1 ?_
        refine lv_topi (fun x29 ex29 => ?_)
        replace hok := hok.2 x29 ex29
        refine ca_V hF hw (c2_give l G a σ x29 hok) wv_X2_117 (q0 := 0) rfl rfl rfl ⟨nd_X2.1, nd_X2.2, pd_X2_give⟩ ⟨Nat.le_of_ble_eq_true rfl, Nat.le_of_ble_eq_true rfl⟩ ⟨Nat.zero_le _, Nat.zero_le _⟩ hl.1 rfl (Nat.le_of_ble_eq_true rfl) dX2_alone_211 (fun σ30 H locs hp hw => ?_)
        replace hok := hp
        refine lv_goto (tgt := 233) hF.x hF.b dX2_alone_214 (by decide) ?_
        exact rt_V (u := σ30) hF hw hok (Nat.zero_le _) (Nat.zero_le _) dX2_alone_233
      · replace hok := hok.2 c28
        refine lv_aload_n hF.x hF.b dX2_alone_198 rfl (lv_at hl 0 rfl) ?_
        refine lv_bipush (v := (-5)) hF.x hF.b dX2_alone_199 (by decide) ?_
        refine rm_put (v := (-5)) 24 hF hw (by decide) wf_X2_104 dX2_alone_201 (fun σ31 H locs eσ31 hw => ?_)
        replace hok := hok σ31 eσ31
        refine lv_goto (tgt := 233) hF.x hF.b dX2_alone_204 (by decide) ?_
        exact rt_V (u := σ31) hF hw hok (Nat.zero_le _) (Nat.zero_le _) dX2_alone_233
    · replace hok := hok.2.2.2.2.2.2.2 ex
      refine lv_tableIn (off := 196) (tgt := 217) hF.x hF.b dX2_alone_21 (by rw [ex]; decide) (by rw [ex]; decide) (by rw [ex]; rfl) (by decide) ?_
      refine lv_aload_n hF.x hF.b dX2_alone_217 rfl (lv_at hl 0 rfl) ?_
      refine lv_iload_n hF.x hF.b dX2_alone_218 rfl (lv_at hl 2 rfl) ?_
      refine lv_iload_n hF.x hF.b dX2_alone_219 rfl (lv_at hl 3 rfl) ?_
      refine lv_iadd hF.x hF.b dX2_alone_220 ?_
      refine lv_topi (fun x32 ex32 => ?_)
      replace hok := hok x32 ex32
      refine ca_V hF hw (c2_give l G a σ x32 hok) wv_X2_117 (q0 := 0) rfl rfl rfl ⟨nd_X2.1, nd_X2.2, pd_X2_give⟩ ⟨Nat.le_of_ble_eq_true rfl, Nat.le_of_ble_eq_true rfl⟩ ⟨Nat.zero_le _, Nat.zero_le _⟩ hl.1 rfl (Nat.le_of_ble_eq_true rfl) dX2_alone_221 (fun σ33 H locs hp hw => ?_)
      replace hok := hp
      refine lv_goto (tgt := 233) hF.x hF.b dX2_alone_224 (by decide) ?_
      exact rt_V (u := σ33) hF hw hok (Nat.zero_le _) (Nat.zero_le _) dX2_alone_233
def wp_X2_alone_0 (σ : SM) (v1 : Int32) (v2 : Int32)  (post : SM → Prop) : Prop :=
  vp_in v1 600 ∧ ∀ x1 : Int32, x1 = σ.2 7 v1.toNatClampNeg → vp_in v1 600 ∧ ∀ x2 : Int32, x2 = σ.2 8 v1.toNatClampNeg → vp_in v1 600 ∧ ∀ x3 : Int32, x3 = σ.2 6 v1.toNatClampNeg → wp_X2_alone_21 σ v1 v2 x1 x2 x3  post
set_option maxHeartbeats 4000000 in
set_option maxRecDepth 100000 in
theorem k_X2_alone_0 {l : Launch} {p : Program} {e : Env} {s : State} {m : MethodId} {below : List Frame} {meth : Method} {c : Code} {args : Array Value} {A : Nat → Prop} {G : Gm} {a : Nat → Nat}  (hF : fx p s m args meth c cX2_alone 6 yX2_alone.cls kX2_alone none) {post : SM → Prop}  (σ : SM) (v1 : Int32) (v2 : Int32) {H : Heap} {locs : List Loc} {ls : Array Slot} (hw : wb G A s (wM G a σ) H locs) (hl : lv_has ls 6 [(0, .ref (a 26)), (1, .int v1), (2, .int v2)]) (hok : wp_X2_alone_0 σ v1 v2  post) :
    W p l e (rr 2 44) s m args below meth c H locs 0 0 (MQ below (va_Qv post (po G A (wM G a)) A) args s 0 0 A) (F0 m 0 ls []) := by
  unfold wp_X2_alone_0 at hok
  refine lv_aload_n hF.x hF.b dX2_alone_0 rfl (lv_at hl 0 rfl) ?_
  refine r_get hF hw 0 rfl rfl inlX2 7 (by decide) wf_X2_25 rfl dX2_alone_1 ?_
  refine lv_iload_n hF.x hF.b dX2_alone_4 rfl (lv_at hl 1 rfl) ?_
  refine rm_ald 7 600 6 hF hw (by decide) hok.1 dX2_alone_5 ?_
  refine lv_topi (fun x1 ex1 => ?_)
  replace hok := hok.2 x1 ex1
  refine lv_istore_n (lv' := [(3, .int x1), (0, .ref (a 26)), (1, .int v1), (2, .int v2)]) hF.x hF.b dX2_alone_6 rfl hl (by decide) rfl (fun ls hl => ?_)
  refine lv_aload_n hF.x hF.b dX2_alone_7 rfl (lv_at hl 1 rfl) ?_
  refine r_get hF hw 0 rfl rfl inlX2 8 (by decide) wf_X2_28 rfl dX2_alone_8 ?_
  refine lv_iload_n hF.x hF.b dX2_alone_11 rfl (lv_at hl 2 rfl) ?_
  refine rm_ald 8 600 7 hF hw (by decide) hok.1 dX2_alone_12 ?_
  refine lv_topi (fun x2 ex2 => ?_)
  replace hok := hok.2 x2 ex2
  refine lv_istore (lv' := [(4, .int x2), (3, .int x1), (0, .ref (a 26)), (1, .int v1), (2, .int v2)]) hF.x hF.b dX2_alone_13 hl (by decide) rfl (fun ls hl => ?_)
  refine lv_aload_n hF.x hF.b dX2_alone_15 rfl (lv_at hl 2 rfl) ?_
  refine r_get hF hw 0 rfl rfl inlX2 6 (by decide) wf_X2_22 rfl dX2_alone_16 ?_
  refine lv_iload_n hF.x hF.b dX2_alone_19 rfl (lv_at hl 3 rfl) ?_
  refine rm_ald 6 600 5 hF hw (by decide) hok.1 dX2_alone_20 ?_
  refine lv_topi (fun x3 ex3 => ?_)
  replace hok := hok.2 x3 ex3
  exact k_X2_alone_21  hF  σ v1 v2 x1 x2 x3 hw (lv_sub hl [2, 3, 4, 1, 0] rfl) hok

theorem c2_alone (l : Launch) (G : Gm) (a : Nat → Nat) (σ : SM) (v1 : Int32) (v2 : Int32) {post : SM → Prop} (h : wp_X2_alone_0 σ v1 v2 post) : ctV l yX2_alone cX2_alone 6 (rr 2 44) G [.ref (a 26), .int v1, .int v2] (wM G a σ) post (wM G a) := by
  refine en_V (by decide +kernel) (Nat.le_of_ble_eq_true rfl) (fun p e s m below meth c A ls hF hn hw hl => ?_)
  exact k_X2_alone_0 hF  σ v1 v2 hw hl h

def wp_X2_goOn_231 (σ : SM) (v1 : Int32) (v2 : Int32) (v3 : Int32) (v4 : Int32) (v5 : Int32)  (post : SM → Prop) : Prop :=
  (¬ v5 = 0 → wp_X2_give_0 σ v4 (fun σ2 : SM => post σ2)) ∧ (v5 = 0 → vp_in v2 600 ∧ ∀ x3 : Int32, x3 = σ.2 6 v2.toNatClampNeg → (¬ x3 = 10 → vp_in v2 600 ∧ ∀ x5 : Int32, x5 = σ.2 7 v2.toNatClampNeg → vp_in x5 20 ∧ ∀ x6 : Int32, x6 = σ.2 11 x5.toNatClampNeg → wp_X2_enter_0 σ x6 v3 (fun σ7 : SM => post σ7)) ∧ (x3 = 10 → vp_in v2 600 ∧ ∀ x8 : Int32, x8 = σ.2 7 v2.toNatClampNeg → wp_X2_enter_0 σ x8 v3 (fun σ9 : SM => post σ9)))
set_option maxHeartbeats 4000000 in
set_option maxRecDepth 100000 in
theorem k_X2_goOn_231 {l : Launch} {p : Program} {e : Env} {s : State} {m : MethodId} {below : List Frame} {meth : Method} {c : Code} {args : Array Value} {A : Nat → Prop} {G : Gm} {a : Nat → Nat}  (hF : fx p s m args meth c cX2_goOn 6 yX2_goOn.cls kX2_goOn none) {post : SM → Prop}  (σ : SM) (v1 : Int32) (v2 : Int32) (v3 : Int32) (v4 : Int32) (v5 : Int32) {H : Heap} {locs : List Loc} {ls : Array Slot} (hw : wb G A s (wM G a σ) H locs) (hl : lv_has ls 6 [(0, .ref (a 26)), (1, .int v1), (2, .int v2), (3, .int v3), (4, .int v4), (5, .int v5)]) (hok : wp_X2_goOn_231 σ v1 v2 v3 v4 v5  post) :
    W p l e (rr 3 69) s m args below meth c H locs 0 0 (MQ below (va_Qv post (po G A (wM G a)) A) args s 0 0 A) (F0 m 231 ls []) := by
  unfold wp_X2_goOn_231 at hok
  refine lv_iload hF.x hF.b dX2_goOn_231 (lv_at hl 5 rfl) ?_
  refine lv_if_ne (tgt := 275) hF.x hF.b dX2_goOn_233 (by decide) (fun c1 => ?_) (fun c1 => ?_)
  · replace hok := hok.1 c1
    refine lv_aload_n hF.x hF.b dX2_goOn_275 rfl (lv_at hl 0 rfl) ?_
    refine lv_iload hF.x hF.b dX2_goOn_276 (lv_at hl 4 rfl) ?_
    refine ca_V hF hw (c2_give l G a σ v4 hok) wv_X2_117 (q0 := 0) rfl rfl rfl ⟨nd_X2.1, nd_X2.2, pd_X2_give⟩ ⟨Nat.le_of_ble_eq_true rfl, Nat.le_of_ble_eq_true rfl⟩ ⟨Nat.zero_le _, Nat.zero_le _⟩ hl.1 rfl (Nat.le_of_ble_eq_true rfl) dX2_goOn_278 (fun σ2 H locs hp hw => ?_)
    replace hok := hp
    refine lv_goto (tgt := 372) hF.x hF.b dX2_goOn_281 (by decide) ?_
    exact rt_V (u := σ2) hF hw hok (Nat.zero_le _) (Nat.zero_le _) dX2_goOn_372
  · replace hok := hok.2 c1
    refine lv_aload_n hF.x hF.b dX2_goOn_236 rfl (lv_at hl 0 rfl) ?_
    refine lv_aload_n hF.x hF.b dX2_goOn_237 rfl (lv_at hl 0 rfl) ?_
    refine r_get hF hw 0 rfl rfl inlX2 6 (by decide) wf_X2_22 rfl dX2_goOn_238 ?_
    refine lv_iload_n hF.x hF.b dX2_goOn_241 rfl (lv_at hl 2 rfl) ?_
    refine rm_ald 6 600 5 hF hw (by decide) hok.1 dX2_goOn_242 ?_
    refine lv_topi (fun x3 ex3 => ?_)
    replace hok := hok.2 x3 ex3
    refine lv_bipush (v := 10) hF.x hF.b dX2_goOn_243 (by decide) ?_
    refine lv_icmp_ne (tgt := 257) hF.x hF.b dX2_goOn_245 (by decide) (fun c4 => ?_) (fun c4 => ?_)
    · replace hok := hok.1 c4
      refine lv_aload_n hF.x hF.b dX2_goOn_257 rfl (lv_at hl 0 rfl) ?_
      refine r_get hF hw 0 rfl rfl inlX2 11 (by decide) wf_X2_37 rfl dX2_goOn_258 ?_
      refine lv_aload_n hF.x hF.b dX2_goOn_261 rfl (lv_at hl 0 rfl) ?_
      refine r_get hF hw 0 rfl rfl inlX2 7 (by decide) wf_X2_25 rfl dX2_goOn_262 ?_
      refine lv_iload_n hF.x hF.b dX2_goOn_265 rfl (lv_at hl 2 rfl) ?_
      refine rm_ald 7 600 6 hF hw (by decide) hok.1 dX2_goOn_266 ?_
      refine lv_topi (fun x5 ex5 => ?_)
      replace hok := hok.2 x5 ex5
      refine rm_ald 11 20 10 hF hw (by decide) hok.1 dX2_goOn_267 ?_
      refine lv_topi (fun x6 ex6 => ?_)
      replace hok := hok.2 x6 ex6
      refine lv_iload_n hF.x hF.b dX2_goOn_268 rfl (lv_at hl 3 rfl) ?_
      refine ca_V hF hw (c2_enter l G a σ x6 v3 hok) wv_X2_113 (q0 := 0) rfl rfl rfl ⟨nd_X2.1, nd_X2.2, pd_X2_enter⟩ ⟨Nat.le_of_ble_eq_true rfl, Nat.le_of_ble_eq_true rfl⟩ ⟨Nat.zero_le _, Nat.zero_le _⟩ hl.1 rfl (Nat.le_of_ble_eq_true rfl) dX2_goOn_269 (fun σ7 H locs hp hw => ?_)
      replace hok := hp
      refine lv_goto (tgt := 372) hF.x hF.b dX2_goOn_272 (by decide) ?_
      exact rt_V (u := σ7) hF hw hok (Nat.zero_le _) (Nat.zero_le _) dX2_goOn_372
    · replace hok := hok.2 c4
      refine lv_aload_n hF.x hF.b dX2_goOn_248 rfl (lv_at hl 0 rfl) ?_
      refine r_get hF hw 0 rfl rfl inlX2 7 (by decide) wf_X2_25 rfl dX2_goOn_249 ?_
      refine lv_iload_n hF.x hF.b dX2_goOn_252 rfl (lv_at hl 2 rfl) ?_
      refine rm_ald 7 600 6 hF hw (by decide) hok.1 dX2_goOn_253 ?_
      refine lv_topi (fun x8 ex8 => ?_)
      replace hok := hok.2 x8 ex8
      refine lv_goto (tgt := 268) hF.x hF.b dX2_goOn_254 (by decide) ?_
      refine lv_iload_n hF.x hF.b dX2_goOn_268 rfl (lv_at hl 3 rfl) ?_
      refine ca_V hF hw (c2_enter l G a σ x8 v3 hok) wv_X2_113 (q0 := 0) rfl rfl rfl ⟨nd_X2.1, nd_X2.2, pd_X2_enter⟩ ⟨Nat.le_of_ble_eq_true rfl, Nat.le_of_ble_eq_true rfl⟩ ⟨Nat.zero_le _, Nat.zero_le _⟩ hl.1 rfl (Nat.le_of_ble_eq_true rfl) dX2_goOn_269 (fun σ9 H locs hp hw => ?_)
      replace hok := hp
      refine lv_goto (tgt := 372) hF.x hF.b dX2_goOn_272 (by decide) ?_
      exact rt_V (u := σ9) hF hw hok (Nat.zero_le _) (Nat.zero_le _) dX2_goOn_372
def wp_X2_goOn_53 (σ : SM) (v1 : Int32) (v2 : Int32) (v3 : Int32) (v4 : Int32) (v5 : Int32) (vs0 : Int32)  (post : SM → Prop) : Prop :=
  (vs0.toInt < 7 ∨ 14 < vs0.toInt → wp_X2_alone_0 σ v2 v3 (fun σ2 : SM => post σ2)) ∧ (vs0 = 7 → (2 ≤ v5 → wp_X2_give_0 σ v4 (fun σ4 : SM => post σ4)) ∧ (¬ 2 ≤ v5 → (¬ v5 = 0 → vp_in v2 600 ∧ ∀ x6 : Int32, x6 = σ.2 8 v2.toNatClampNeg → wp_X2_enter_0 σ x6 v4 (fun σ7 : SM => post σ7)) ∧ (v5 = 0 → vp_in v2 600 ∧ ∀ x8 : Int32, x8 = σ.2 7 v2.toNatClampNeg → wp_X2_enter_0 σ x8 v4 (fun σ9 : SM => post σ9)))) ∧ (vs0 = 8 → (¬ v5 = 0 → wp_X2_give_0 σ v4 (fun σ11 : SM => post σ11)) ∧ (v5 = 0 → vp_in v2 600 ∧ ∀ x12 : Int32, x12 = σ.2 9 v2.toNatClampNeg → vp_in x12 10 ∧ ∀ x13 : Int32, x13 = σ.2 0 x12.toNatClampNeg → (x13 ≤ v3 → vp_in v2 600 ∧ ∀ x15 : Int32, x15 = σ.2 7 v2.toNatClampNeg → wp_X2_enter_0 σ x15 v3 (fun σ16 : SM => post σ16)) ∧ (¬ x13 ≤ v3 → vp_in v2 600 ∧ ∀ x17 : Int32, x17 = σ.2 8 v2.toNatClampNeg → wp_X2_enter_0 σ x17 v3 (fun σ18 : SM => post σ18)))) ∧ (vs0 = 9 → vp_in v2 600 ∧ ∀ x19 : Int32, x19 = σ.2 8 v2.toNatClampNeg → (x19 ≤ v5 → wp_X2_give_0 σ v4 (fun σ21 : SM => post σ21)) ∧ (¬ x19 ≤ v5 → vp_in v2 600 ∧ ∀ x22 : Int32, x22 = σ.2 7 v2.toNatClampNeg → wp_X2_enter_0 σ x22 v4 (fun σ23 : SM => post σ23))) ∧ (vs0 = 10 → wp_X2_goOn_231 σ v1 v2 v3 v4 v5  post) ∧ (vs0 = 11 → wp_X2_alone_0 σ v2 v3 (fun σ24 : SM => post σ24)) ∧ (vs0 = 12 → (¬ v5 = 0 → vp_in v2 600 ∧ ∀ x26 : Int32, x26 = σ.2 10 v2.toNatClampNeg → ∀ x27 : Int32, x27 = x26 + 1 → vp_in v2 600 ∧ ∀ σ28 : SM, σ28 = (σ.1, va_up σ.2 10 (upd (σ.2 10) v2.toNatClampNeg x27)) → vp_in v2 600 ∧ ∀ x29 : Int32, x29 = σ28.2 10 v2.toNatClampNeg → wp_X2_give_0 σ28 x29 (fun σ30 : SM => post σ30)) ∧ (v5 = 0 → vp_in v2 600 ∧ ∀ x31 : Int32, x31 = σ.2 7 v2.toNatClampNeg → wp_X2_enter_0 σ x31 v3 (fun σ32 : SM => post σ32))) ∧ (vs0 = 13 → (4 ≤ v5 → wp_X2_give_0 σ v4 (fun σ34 : SM => post σ34)) ∧ (¬ 4 ≤ v5 → vp_in v2 600 ∧ ∀ x35 : Int32, x35 = σ.2 7 v2.toNatClampNeg → ∀ x36 : Int32, x36 = 4 * x35 → ∀ x37 : Int32, x37 = x36 + v5 → vp_in x37 20 ∧ ∀ x38 : Int32, x38 = σ.2 12 x37.toNatClampNeg → wp_X2_enter_0 σ x38 v4 (fun σ39 : SM => post σ39))) ∧ (vs0 = 14 → wp_X2_goOn_231 σ v1 v2 v3 v4 v5  post)
set_option maxHeartbeats 4000000 in
set_option maxRecDepth 100000 in
theorem k_X2_goOn_53 {l : Launch} {p : Program} {e : Env} {s : State} {m : MethodId} {below : List Frame} {meth : Method} {c : Code} {args : Array Value} {A : Nat → Prop} {G : Gm} {a : Nat → Nat}  (hF : fx p s m args meth c cX2_goOn 6 yX2_goOn.cls kX2_goOn none) {post : SM → Prop}  (σ : SM) (v1 : Int32) (v2 : Int32) (v3 : Int32) (v4 : Int32) (v5 : Int32) (vs0 : Int32) {H : Heap} {locs : List Loc} {ls : Array Slot} (hw : wb G A s (wM G a σ) H locs) (hl : lv_has ls 6 [(0, .ref (a 26)), (1, .int v1), (2, .int v2), (3, .int v3), (4, .int v4), (5, .int v5)]) (hok : wp_X2_goOn_53 σ v1 v2 v3 v4 v5 vs0  post) :
    W p l e (rr 3 69) s m args below meth c H locs 0 0 (MQ below (va_Qv post (po G A (wM G a)) A) args s 0 0 A) (F0 m 53 ls [.int vs0]) := by
  unfold wp_X2_goOn_53 at hok
  by_cases c1 : vs0.toInt < 7 ∨ 14 < vs0.toInt
  · replace hok := hok.1 c1
    refine lv_tableOut (tgt := 366) hF.x hF.b dX2_goOn_53 c1 (by decide) ?_
    refine lv_aload_n hF.x hF.b dX2_goOn_366 rfl (lv_at hl 0 rfl) ?_
    refine lv_iload_n hF.x hF.b dX2_goOn_367 rfl (lv_at hl 2 rfl) ?_
    refine lv_iload_n hF.x hF.b dX2_goOn_368 rfl (lv_at hl 3 rfl) ?_
    refine ca_V hF hw (c2_alone l G a σ v2 v3 hok) wv_X2_128 (q0 := 0) rfl rfl rfl ⟨nd_X2.1, nd_X2.2, pd_X2_alone⟩ ⟨Nat.le_of_ble_eq_true rfl, Nat.le_of_ble_eq_true rfl⟩ ⟨Nat.zero_le _, Nat.zero_le _⟩ hl.1 rfl (Nat.le_of_ble_eq_true rfl) dX2_goOn_369 (fun σ2 H locs hp hw => ?_)
    replace hok := hp
    exact rt_V (u := σ2) hF hw hok (Nat.zero_le _) (Nat.zero_le _) dX2_goOn_372
  · obtain ⟨j, hj1, hj2, ex⟩ := sw_in (lo := 7) (hi := 14) c1 (by decide)
    rcases (show j = 7 ∨ j = 8 ∨ j = 9 ∨ j = 10 ∨ j = 11 ∨ j = 12 ∨ j = 13 ∨ j = 14 by omega) with rfl | rfl | rfl | rfl | rfl | rfl | rfl | rfl
    · replace hok := hok.2.1 ex
      refine lv_tableIn (off := 47) (tgt := 100) hF.x hF.b dX2_goOn_53 (by rw [ex]; decide) (by rw [ex]; decide) (by rw [ex]; rfl) (by decide) ?_
      refine lv_iload hF.x hF.b dX2_goOn_100 (lv_at hl 5 rfl) ?_
      refine lv_iconst (v := 2) hF.x hF.b dX2_goOn_102 (by decide) ?_
      refine lv_icmp_ge (tgt := 135) hF.x hF.b dX2_goOn_103 (by decide) (fun c3 => ?_) (fun c3 => ?_)
      · replace hok := hok.1 c3
        refine lv_aload_n hF.x hF.b dX2_goOn_135 rfl (lv_at hl 0 rfl) ?_
        refine lv_iload hF.x hF.b dX2_goOn_136 (lv_at hl 4 rfl) ?_
        refine ca_V hF hw (c2_give l G a σ v4 hok) wv_X2_117 (q0 := 0) rfl rfl rfl ⟨nd_X2.1, nd_X2.2, pd_X2_give⟩ ⟨Nat.le_of_ble_eq_true rfl, Nat.le_of_ble_eq_true rfl⟩ ⟨Nat.zero_le _, Nat.zero_le _⟩ hl.1 rfl (Nat.le_of_ble_eq_true rfl) dX2_goOn_138 (fun σ4 H locs hp hw => ?_)
        replace hok := hp
        refine lv_goto (tgt := 372) hF.x hF.b dX2_goOn_141 (by decide) ?_
        exact rt_V (u := σ4) hF hw hok (Nat.zero_le _) (Nat.zero_le _) dX2_goOn_372
      · replace hok := hok.2 c3
        refine lv_aload_n hF.x hF.b dX2_goOn_106 rfl (lv_at hl 0 rfl) ?_
        refine lv_iload hF.x hF.b dX2_goOn_107 (lv_at hl 5 rfl) ?_
        refine lv_if_ne (tgt := 121) hF.x hF.b dX2_goOn_109 (by decide) (fun c5 => ?_) (fun c5 => ?_)
        · replace hok := hok.1 c5
          refine lv_aload_n hF.x hF.b dX2_goOn_121 rfl (lv_at hl 0 rfl) ?_
          refine r_get hF hw 0 rfl rfl inlX2 8 (by decide) wf_X2_28 rfl dX2_goOn_122 ?_
          refine lv_iload_n hF.x hF.b dX2_goOn_125 rfl (lv_at hl 2 rfl) ?_
          refine rm_ald 8 600 7 hF hw (by decide) hok.1 dX2_goOn_126 ?_
          refine lv_topi (fun x6 ex6 => ?_)
          replace hok := hok.2 x6 ex6
          refine lv_iload hF.x hF.b dX2_goOn_127 (lv_at hl 4 rfl) ?_
          refine ca_V hF hw (c2_enter l G a σ x6 v4 hok) wv_X2_113 (q0 := 0) rfl rfl rfl ⟨nd_X2.1, nd_X2.2, pd_X2_enter⟩ ⟨Nat.le_of_ble_eq_true rfl, Nat.le_of_ble_eq_true rfl⟩ ⟨Nat.zero_le _, Nat.zero_le _⟩ hl.1 rfl (Nat.le_of_ble_eq_true rfl) dX2_goOn_129 (fun σ7 H locs hp hw => ?_)
          replace hok := hp
          refine lv_goto (tgt := 372) hF.x hF.b dX2_goOn_132 (by decide) ?_
          exact rt_V (u := σ7) hF hw hok (Nat.zero_le _) (Nat.zero_le _) dX2_goOn_372
        · replace hok := hok.2 c5
          refine lv_aload_n hF.x hF.b dX2_goOn_112 rfl (lv_at hl 0 rfl) ?_
          refine r_get hF hw 0 rfl rfl inlX2 7 (by decide) wf_X2_25 rfl dX2_goOn_113 ?_
          refine lv_iload_n hF.x hF.b dX2_goOn_116 rfl (lv_at hl 2 rfl) ?_
          refine rm_ald 7 600 6 hF hw (by decide) hok.1 dX2_goOn_117 ?_
          refine lv_topi (fun x8 ex8 => ?_)
          replace hok := hok.2 x8 ex8
          refine lv_goto (tgt := 127) hF.x hF.b dX2_goOn_118 (by decide) ?_
          refine lv_iload hF.x hF.b dX2_goOn_127 (lv_at hl 4 rfl) ?_
          refine ca_V hF hw (c2_enter l G a σ x8 v4 hok) wv_X2_113 (q0 := 0) rfl rfl rfl ⟨nd_X2.1, nd_X2.2, pd_X2_enter⟩ ⟨Nat.le_of_ble_eq_true rfl, Nat.le_of_ble_eq_true rfl⟩ ⟨Nat.zero_le _, Nat.zero_le _⟩ hl.1 rfl (Nat.le_of_ble_eq_true rfl) dX2_goOn_129 (fun σ9 H locs hp hw => ?_)
          replace hok := hp
          refine lv_goto (tgt := 372) hF.x hF.b dX2_goOn_132 (by decide) ?_
          exact rt_V (u := σ9) hF hw hok (Nat.zero_le _) (Nat.zero_le _) dX2_goOn_372
    · replace hok := hok.2.2.1 ex
      refine lv_tableIn (off := 91) (tgt := 144) hF.x hF.b dX2_goOn_53 (by rw [ex]; decide) (by rw [ex]; decide) (by rw [ex]; rfl) (by decide) ?_
      refine lv_iload hF.x hF.b dX2_goOn_144 (lv_at hl 5 rfl) ?_
      refine lv_if_ne (tgt := 187) hF.x hF.b dX2_goOn_146 (by decide) (fun c10 => ?_) (fun c10 => ?_)
      · replace hok := hok.1 c10
        refine lv_aload_n hF.x hF.b dX2_goOn_187 rfl (lv_at hl 0 rfl) ?_
        refine lv_iload hF.x hF.b dX2_goOn_188 (lv_at hl 4 rfl) ?_
        refine ca_V hF hw (c2_give l G a σ v4 hok) wv_X2_117 (q0 := 0) rfl rfl rfl ⟨nd_X2.1, nd_X2.2, pd_X2_give⟩ ⟨Nat.le_of_ble_eq_true rfl, Nat.le_of_ble_eq_true rfl⟩ ⟨Nat.zero_le _, Nat.zero_le _⟩ hl.1 rfl (Nat.le_of_ble_eq_true rfl) dX2_goOn_190 (fun σ11 H locs hp hw => ?_)
        replace hok := hp
        refine lv_goto (tgt := 372) hF.x hF.b dX2_goOn_193 (by decide) ?_
        exact rt_V (u := σ11) hF hw hok (Nat.zero_le _) (Nat.zero_le _) dX2_goOn_372
      · replace hok := hok.2 c10
        refine lv_aload_n hF.x hF.b dX2_goOn_149 rfl (lv_at hl 0 rfl) ?_
        refine lv_aload_n hF.x hF.b dX2_goOn_150 rfl (lv_at hl 0 rfl) ?_
        refine r_get hF hw 0 rfl rfl inlX2 0 (by decide) wf_X2_7 rfl dX2_goOn_151 ?_
        refine lv_aload_n hF.x hF.b dX2_goOn_154 rfl (lv_at hl 0 rfl) ?_
        refine r_get hF hw 0 rfl rfl inlX2 9 (by decide) wf_X2_31 rfl dX2_goOn_155 ?_
        refine lv_iload_n hF.x hF.b dX2_goOn_158 rfl (lv_at hl 2 rfl) ?_
        refine rm_ald 9 600 8 hF hw (by decide) hok.1 dX2_goOn_159 ?_
        refine lv_topi (fun x12 ex12 => ?_)
        replace hok := hok.2 x12 ex12
        refine rm_ald 0 10 1 hF hw (by decide) hok.1 dX2_goOn_160 ?_
        refine lv_topi (fun x13 ex13 => ?_)
        replace hok := hok.2 x13 ex13
        refine lv_iload_n hF.x hF.b dX2_goOn_161 rfl (lv_at hl 3 rfl) ?_
        refine lv_icmp_le (tgt := 174) hF.x hF.b dX2_goOn_162 (by decide) (fun c14 => ?_) (fun c14 => ?_)
        · replace hok := hok.1 c14
          refine lv_aload_n hF.x hF.b dX2_goOn_174 rfl (lv_at hl 0 rfl) ?_
          refine r_get hF hw 0 rfl rfl inlX2 7 (by decide) wf_X2_25 rfl dX2_goOn_175 ?_
          refine lv_iload_n hF.x hF.b dX2_goOn_178 rfl (lv_at hl 2 rfl) ?_
          refine rm_ald 7 600 6 hF hw (by decide) hok.1 dX2_goOn_179 ?_
          refine lv_topi (fun x15 ex15 => ?_)
          replace hok := hok.2 x15 ex15
          refine lv_iload_n hF.x hF.b dX2_goOn_180 rfl (lv_at hl 3 rfl) ?_
          refine ca_V hF hw (c2_enter l G a σ x15 v3 hok) wv_X2_113 (q0 := 0) rfl rfl rfl ⟨nd_X2.1, nd_X2.2, pd_X2_enter⟩ ⟨Nat.le_of_ble_eq_true rfl, Nat.le_of_ble_eq_true rfl⟩ ⟨Nat.zero_le _, Nat.zero_le _⟩ hl.1 rfl (Nat.le_of_ble_eq_true rfl) dX2_goOn_181 (fun σ16 H locs hp hw => ?_)
          replace hok := hp
          refine lv_goto (tgt := 372) hF.x hF.b dX2_goOn_184 (by decide) ?_
          exact rt_V (u := σ16) hF hw hok (Nat.zero_le _) (Nat.zero_le _) dX2_goOn_372
        · replace hok := hok.2 c14
          refine lv_aload_n hF.x hF.b dX2_goOn_165 rfl (lv_at hl 0 rfl) ?_
          refine r_get hF hw 0 rfl rfl inlX2 8 (by decide) wf_X2_28 rfl dX2_goOn_166 ?_
          refine lv_iload_n hF.x hF.b dX2_goOn_169 rfl (lv_at hl 2 rfl) ?_
          refine rm_ald 8 600 7 hF hw (by decide) hok.1 dX2_goOn_170 ?_
          refine lv_topi (fun x17 ex17 => ?_)
          replace hok := hok.2 x17 ex17
          refine lv_goto (tgt := 180) hF.x hF.b dX2_goOn_171 (by decide) ?_
          refine lv_iload_n hF.x hF.b dX2_goOn_180 rfl (lv_at hl 3 rfl) ?_
          refine ca_V hF hw (c2_enter l G a σ x17 v3 hok) wv_X2_113 (q0 := 0) rfl rfl rfl ⟨nd_X2.1, nd_X2.2, pd_X2_enter⟩ ⟨Nat.le_of_ble_eq_true rfl, Nat.le_of_ble_eq_true rfl⟩ ⟨Nat.zero_le _, Nat.zero_le _⟩ hl.1 rfl (Nat.le_of_ble_eq_true rfl) dX2_goOn_181 (fun σ18 H locs hp hw => ?_)
          replace hok := hp
          refine lv_goto (tgt := 372) hF.x hF.b dX2_goOn_184 (by decide) ?_
          exact rt_V (u := σ18) hF hw hok (Nat.zero_le _) (Nat.zero_le _) dX2_goOn_372
    · replace hok := hok.2.2.2.1 ex
      refine lv_tableIn (off := 143) (tgt := 196) hF.x hF.b dX2_goOn_53 (by rw [ex]; decide) (by rw [ex]; decide) (by rw [ex]; rfl) (by decide) ?_
      refine lv_iload hF.x hF.b dX2_goOn_196 (lv_at hl 5 rfl) ?_
      refine lv_aload_n hF.x hF.b dX2_goOn_198 rfl (lv_at hl 0 rfl) ?_
      refine r_get hF hw 0 rfl rfl inlX2 8 (by decide) wf_X2_28 rfl dX2_goOn_199 ?_
      refine lv_iload_n hF.x hF.b dX2_goOn_202 rfl (lv_at hl 2 rfl) ?_
      refine rm_ald 8 600 7 hF hw (by decide) hok.1 dX2_goOn_203 ?_
      refine lv_topi (fun x19 ex19 => ?_)
      replace hok := hok.2 x19 ex19
      refine lv_icmp_ge (tgt := 222) hF.x hF.b dX2_goOn_204 (by decide) (fun c20 => ?_) (fun c20 => ?_)
      · replace hok := hok.1 c20
        refine lv_aload_n hF.x hF.b dX2_goOn_222 rfl (lv_at hl 0 rfl) ?_
        refine lv_iload hF.x hF.b dX2_goOn_223 (lv_at hl 4 rfl) ?_
        refine ca_V hF hw (c2_give l G a σ v4 hok) wv_X2_117 (q0 := 0) rfl rfl rfl ⟨nd_X2.1, nd_X2.2, pd_X2_give⟩ ⟨Nat.le_of_ble_eq_true rfl, Nat.le_of_ble_eq_true rfl⟩ ⟨Nat.zero_le _, Nat.zero_le _⟩ hl.1 rfl (Nat.le_of_ble_eq_true rfl) dX2_goOn_225 (fun σ21 H locs hp hw => ?_)
        replace hok := hp
        refine lv_goto (tgt := 372) hF.x hF.b dX2_goOn_228 (by decide) ?_
        exact rt_V (u := σ21) hF hw hok (Nat.zero_le _) (Nat.zero_le _) dX2_goOn_372
      · replace hok := hok.2 c20
        refine lv_aload_n hF.x hF.b dX2_goOn_207 rfl (lv_at hl 0 rfl) ?_
        refine lv_aload_n hF.x hF.b dX2_goOn_208 rfl (lv_at hl 0 rfl) ?_
        refine r_get hF hw 0 rfl rfl inlX2 7 (by decide) wf_X2_25 rfl dX2_goOn_209 ?_
        refine lv_iload_n hF.x hF.b dX2_goOn_212 rfl (lv_at hl 2 rfl) ?_
        refine rm_ald 7 600 6 hF hw (by decide) hok.1 dX2_goOn_213 ?_
        refine lv_topi (fun x22 ex22 => ?_)
        replace hok := hok.2 x22 ex22
        refine lv_iload hF.x hF.b dX2_goOn_214 (lv_at hl 4 rfl) ?_
        refine ca_V hF hw (c2_enter l G a σ x22 v4 hok) wv_X2_113 (q0 := 0) rfl rfl rfl ⟨nd_X2.1, nd_X2.2, pd_X2_enter⟩ ⟨Nat.le_of_ble_eq_true rfl, Nat.le_of_ble_eq_true rfl⟩ ⟨Nat.zero_le _, Nat.zero_le _⟩ hl.1 rfl (Nat.le_of_ble_eq_true rfl) dX2_goOn_216 (fun σ23 H locs hp hw => ?_)
        replace hok := hp
        refine lv_goto (tgt := 372) hF.x hF.b dX2_goOn_219 (by decide) ?_
        exact rt_V (u := σ23) hF hw hok (Nat.zero_le _) (Nat.zero_le _) dX2_goOn_372
    · replace hok := hok.2.2.2.2.1 ex
      refine lv_tableIn (off := 178) (tgt := 231) hF.x hF.b dX2_goOn_53 (by rw [ex]; decide) (by rw [ex]; decide) (by rw [ex]; rfl) (by decide) ?_
      exact k_X2_goOn_231  hF  σ v1 v2 v3 v4 v5 hw (lv_sub hl [0, 1, 2, 3, 4, 5] rfl) hok
    · replace hok := hok.2.2.2.2.2.1 ex
      refine lv_tableIn (off := 313) (tgt := 366) hF.x hF.b dX2_goOn_53 (by rw [ex]; decide) (by rw [ex]; decide) (by rw [ex]; rfl) (by decide) ?_
      refine lv_aload_n hF.x hF.b dX2_goOn_366 rfl (lv_at hl 0 rfl) ?_
      refine lv_iload_n hF.x hF.b dX2_goOn_367 rfl (lv_at hl 2 rfl) ?_
      refine lv_iload_n hF.x hF.b dX2_goOn_368 rfl (lv_at hl 3 rfl) ?_
      refine ca_V hF hw (c2_alone l G a σ v2 v3 hok) wv_X2_128 (q0 := 0) rfl rfl rfl ⟨nd_X2.1, nd_X2.2, pd_X2_alone⟩ ⟨Nat.le_of_ble_eq_true rfl, Nat.le_of_ble_eq_true rfl⟩ ⟨Nat.zero_le _, Nat.zero_le _⟩ hl.1 rfl (Nat.le_of_ble_eq_true rfl) dX2_goOn_369 (fun σ24 H locs hp hw => ?_)
      replace hok := hp
      exact rt_V (u := σ24) hF hw hok (Nat.zero_le _) (Nat.zero_le _) dX2_goOn_372
    · replace hok := hok.2.2.2.2.2.2.1 ex
      refine lv_tableIn (off := 231) (tgt := 284) hF.x hF.b dX2_goOn_53 (by rw [ex]; decide) (by rw [ex]; decide) (by rw [ex]; rfl) (by decide) ?_
      refine lv_iload hF.x hF.b dX2_goOn_284 (lv_at hl 5 rfl) ?_
      refine lv_if_ne (tgt := 303) hF.x hF.b dX2_goOn_286 (by decide) (fun c25 => ?_) (fun c25 => ?_)
      · replace hok := hok.1 c25
        refine lv_aload_n hF.x hF.b dX2_goOn_303 rfl (lv_at hl 0 rfl) ?_
        refine r_get hF hw 0 rfl rfl inlX2 10 (by decide) wf_X2_34 rfl dX2_goOn_304 ?_
        refine lv_iload_n hF.x hF.b dX2_goOn_307 rfl (lv_at hl 2 rfl) ?_
        refine lv_dup2_11 hF.x hF.b dX2_goOn_308 rfl rfl ?_
        refine rm_ald 10 600 9 hF hw (by decide) hok.1 dX2_goOn_309 ?_
        refine lv_topi (fun x26 ex26 => ?_)
        replace hok := hok.2 x26 ex26
        refine lv_iconst (v := 1) hF.x hF.b dX2_goOn_310 (by decide) ?_
        refine lv_iadd hF.x hF.b dX2_goOn_311 ?_
        refine lv_topi (fun x27 ex27 => ?_)
        replace hok := hok x27 ex27
        refine rm_ast 10 600 9 hF hw (by decide) hok.1 dX2_goOn_312 (fun σ28 H locs eσ28 hw => ?_)
        replace hok := hok.2 σ28 eσ28
        refine lv_aload_n hF.x hF.b dX2_goOn_313 rfl (lv_at hl 0 rfl) ?_
        refine lv_aload_n hF.x hF.b dX2_goOn_314 rfl (lv_at hl 0 rfl) ?_
        refine r_get hF hw 0 rfl rfl inlX2 10 (by decide) wf_X2_34 rfl dX2_goOn_315 ?_
        refine lv_iload_n hF.x hF.b dX2_goOn_318 rfl (lv_at hl 2 rfl) ?_
        refine rm_ald 10 600 9 hF hw (by decide) hok.1 dX2_goOn_319 ?_
        refine lv_topi (fun x29 ex29 => ?_)
        replace hok := hok.2 x29 ex29
        refine ca_V hF hw (c2_give l G a σ28 x29 hok) wv_X2_117 (q0 := 0) rfl rfl rfl ⟨nd_X2.1, nd_X2.2, pd_X2_give⟩ ⟨Nat.le_of_ble_eq_true rfl, Nat.le_of_ble_eq_true rfl⟩ ⟨Nat.zero_le _, Nat.zero_le _⟩ hl.1 rfl (Nat.le_of_ble_eq_true rfl) dX2_goOn_320 (fun σ30 H locs hp hw => ?_)
        replace hok := hp
        refine lv_goto (tgt := 372) hF.x hF.b dX2_goOn_323 (by decide) ?_
        exact rt_V (u := σ30) hF hw hok (Nat.zero_le _) (Nat.zero_le _) dX2_goOn_372
      · replace hok := hok.2 c25
        refine lv_aload_n hF.x hF.b dX2_goOn_289 rfl (lv_at hl 0 rfl) ?_
        refine lv_aload_n hF.x hF.b dX2_goOn_290 rfl (lv_at hl 0 rfl) ?_
        refine r_get hF hw 0 rfl rfl inlX2 7 (by decide) wf_X2_25 rfl dX2_goOn_291 ?_
        refine lv_iload_n hF.x hF.b dX2_goOn_294 rfl (lv_at hl 2 rfl) ?_
        refine rm_ald 7 600 6 hF hw (by decide) hok.1 dX2_goOn_295 ?_
        refine lv_topi (fun x31 ex31 => ?_)
        replace hok := hok.2 x31 ex31
        refine lv_iload_n hF.x hF.b dX2_goOn_296 rfl (lv_at hl 3 rfl) ?_
        refine ca_V hF hw (c2_enter l G a σ x31 v3 hok) wv_X2_113 (q0 := 0) rfl rfl rfl ⟨nd_X2.1, nd_X2.2, pd_X2_enter⟩ ⟨Nat.le_of_ble_eq_true rfl, Nat.le_of_ble_eq_true rfl⟩ ⟨Nat.zero_le _, Nat.zero_le _⟩ hl.1 rfl (Nat.le_of_ble_eq_true rfl) dX2_goOn_297 (fun σ32 H locs hp hw => ?_)
        replace hok := hp
        refine lv_goto (tgt := 372) hF.x hF.b dX2_goOn_300 (by decide) ?_
        exact rt_V (u := σ32) hF hw hok (Nat.zero_le _) (Nat.zero_le _) dX2_goOn_372
    · replace hok := hok.2.2.2.2.2.2.2.1 ex
      refine lv_tableIn (off := 273) (tgt := 326) hF.x hF.b dX2_goOn_53 (by rw [ex]; decide) (by rw [ex]; decide) (by rw [ex]; rfl) (by decide) ?_
      refine lv_iload hF.x hF.b dX2_goOn_326 (lv_at hl 5 rfl) ?_
      refine lv_iconst (v := 4) hF.x hF.b dX2_goOn_328 (by decide) ?_
      refine lv_icmp_ge (tgt := 357) hF.x hF.b dX2_goOn_329 (by decide) (fun c33 => ?_) (fun c33 => ?_)
      · replace hok := hok.1 c33
        refine lv_aload_n hF.x hF.b dX2_goOn_357 rfl (lv_at hl 0 rfl) ?_
        refine lv_iload hF.x hF.b dX2_goOn_358 (lv_at hl 4 rfl) ?_
        refine ca_V hF hw (c2_give l G a σ v4 hok) wv_X2_117 (q0 := 0) rfl rfl rfl ⟨nd_X2.1, nd_X2.2, pd_X2_give⟩ ⟨Nat.le_of_ble_eq_true rfl, Nat.le_of_ble_eq_true rfl⟩ ⟨Nat.zero_le _, Nat.zero_le _⟩ hl.1 rfl (Nat.le_of_ble_eq_true rfl) dX2_goOn_360 (fun σ34 H locs hp hw => ?_)
        replace hok := hp
        refine lv_goto (tgt := 372) hF.x hF.b dX2_goOn_363 (by decide) ?_
        exact rt_V (u := σ34) hF hw hok (Nat.zero_le _) (Nat.zero_le _) dX2_goOn_372
      · replace hok := hok.2 c33
        refine lv_aload_n hF.x hF.b dX2_goOn_332 rfl (lv_at hl 0 rfl) ?_
        refine lv_aload_n hF.x hF.b dX2_goOn_333 rfl (lv_at hl 0 rfl) ?_
        refine r_get hF hw 0 rfl rfl inlX2 12 (by decide) wf_X2_40 rfl dX2_goOn_334 ?_
        refine lv_iconst (v := 4) hF.x hF.b dX2_goOn_337 (by decide) ?_
        refine lv_aload_n hF.x hF.b dX2_goOn_338 rfl (lv_at hl 0 rfl) ?_
        refine r_get hF hw 0 rfl rfl inlX2 7 (by decide) wf_X2_25 rfl dX2_goOn_339 ?_
        refine lv_iload_n hF.x hF.b dX2_goOn_342 rfl (lv_at hl 2 rfl) ?_
        refine rm_ald 7 600 6 hF hw (by decide) hok.1 dX2_goOn_343 ?_
        refine lv_topi (fun x35 ex35 => ?_)
        replace hok := hok.2 x35 ex35
        refine lv_imul hF.x hF.b dX2_goOn_344 ?_
        refine lv_topi (fun x36 ex36 => ?_)
        replace hok := hok x36 ex36
        refine lv_iload hF.x hF.b dX2_goOn_345 (lv_at hl 5 rfl) ?_
        refine lv_iadd hF.x hF.b dX2_goOn_347 ?_
        refine lv_topi (fun x37 ex37 => ?_)
        replace hok := hok x37 ex37
        refine rm_ald 12 20 11 hF hw (by decide) hok.1 dX2_goOn_348 ?_
        refine lv_topi (fun x38 ex38 => ?_)
        replace hok := hok.2 x38 ex38
        refine lv_iload hF.x hF.b dX2_goOn_349 (lv_at hl 4 rfl) ?_
        refine ca_V hF hw (c2_enter l G a σ x38 v4 hok) wv_X2_113 (q0 := 0) rfl rfl rfl ⟨nd_X2.1, nd_X2.2, pd_X2_enter⟩ ⟨Nat.le_of_ble_eq_true rfl, Nat.le_of_ble_eq_true rfl⟩ ⟨Nat.zero_le _, Nat.zero_le _⟩ hl.1 rfl (Nat.le_of_ble_eq_true rfl) dX2_goOn_351 (fun σ39 H locs hp hw => ?_)
        replace hok := hp
        refine lv_goto (tgt := 372) hF.x hF.b dX2_goOn_354 (by decide) ?_
        exact rt_V (u := σ39) hF hw hok (Nat.zero_le _) (Nat.zero_le _) dX2_goOn_372
    · replace hok := hok.2.2.2.2.2.2.2.2 ex
      refine lv_tableIn (off := 178) (tgt := 231) hF.x hF.b dX2_goOn_53 (by rw [ex]; decide) (by rw [ex]; decide) (by rw [ex]; rfl) (by decide) ?_
      exact k_X2_goOn_231  hF  σ v1 v2 v3 v4 v5 hw (lv_sub hl [0, 1, 2, 3, 4, 5] rfl) hok
def wp_X2_goOn_0 (σ : SM)   (post : SM → Prop) : Prop :=
  ∀ x1 : Int32, x1 = (σ.1 19) - 1 → vp_in x1 16 ∧ ∀ x2 : Int32, x2 = σ.2 20 x1.toNatClampNeg → vp_in x1 16 ∧ ∀ x3 : Int32, x3 = σ.2 21 x1.toNatClampNeg → vp_in x1 16 ∧ ∀ x4 : Int32, x4 = σ.2 23 x1.toNatClampNeg → vp_in x1 16 ∧ ∀ x5 : Int32, x5 = σ.2 22 x1.toNatClampNeg → vp_in x1 16 ∧ ∀ x6 : Int32, x6 = σ.2 22 x1.toNatClampNeg → ∀ x7 : Int32, x7 = x6 + 1 → vp_in x1 16 ∧ ∀ σ8 : SM, σ8 = (σ.1, va_up σ.2 22 (upd (σ.2 22) x1.toNatClampNeg x7)) → vp_in x2 600 ∧ ∀ x9 : Int32, x9 = σ8.2 6 x2.toNatClampNeg → wp_X2_goOn_53 σ8 x1 x2 x3 x4 x5 x9  post
set_option maxHeartbeats 4000000 in
set_option maxRecDepth 100000 in
theorem k_X2_goOn_0 {l : Launch} {p : Program} {e : Env} {s : State} {m : MethodId} {below : List Frame} {meth : Method} {c : Code} {args : Array Value} {A : Nat → Prop} {G : Gm} {a : Nat → Nat}  (hF : fx p s m args meth c cX2_goOn 6 yX2_goOn.cls kX2_goOn none) {post : SM → Prop}  (σ : SM)  {H : Heap} {locs : List Loc} {ls : Array Slot} (hw : wb G A s (wM G a σ) H locs) (hl : lv_has ls 6 [(0, .ref (a 26))]) (hok : wp_X2_goOn_0 σ   post) :
    W p l e (rr 3 69) s m args below meth c H locs 0 0 (MQ below (va_Qv post (po G A (wM G a)) A) args s 0 0 A) (F0 m 0 ls []) := by
  unfold wp_X2_goOn_0 at hok
  refine lv_aload_n hF.x hF.b dX2_goOn_0 rfl (lv_at hl 0 rfl) ?_
  refine r_get hF hw 0 rfl rfl inlX2 19 (by decide) wf_X2_107 rfl dX2_goOn_1 ?_
  refine lv_iconst (v := 1) hF.x hF.b dX2_goOn_4 (by decide) ?_
  refine lv_isub hF.x hF.b dX2_goOn_5 ?_
  refine lv_topi (fun x1 ex1 => ?_)
  replace hok := hok x1 ex1
  refine lv_istore_n (lv' := [(1, .int x1), (0, .ref (a 26))]) hF.x hF.b dX2_goOn_6 rfl hl (by decide) rfl (fun ls hl => ?_)
  refine lv_aload_n hF.x hF.b dX2_goOn_7 rfl (lv_at hl 1 rfl) ?_
  refine r_get hF hw 0 rfl rfl inlX2 20 (by decide) wf_X2_49 rfl dX2_goOn_8 ?_
  refine lv_iload_n hF.x hF.b dX2_goOn_11 rfl (lv_at hl 0 rfl) ?_
  refine rm_ald 20 16 14 hF hw (by decide) hok.1 dX2_goOn_12 ?_
  refine lv_topi (fun x2 ex2 => ?_)
  replace hok := hok.2 x2 ex2
  refine lv_istore_n (lv' := [(2, .int x2), (1, .int x1), (0, .ref (a 26))]) hF.x hF.b dX2_goOn_13 rfl hl (by decide) rfl (fun ls hl => ?_)
  refine lv_aload_n hF.x hF.b dX2_goOn_14 rfl (lv_at hl 2 rfl) ?_
  refine r_get hF hw 0 rfl rfl inlX2 21 (by decide) wf_X2_52 rfl dX2_goOn_15 ?_
  refine lv_iload_n hF.x hF.b dX2_goOn_18 rfl (lv_at hl 1 rfl) ?_
  refine rm_ald 21 16 15 hF hw (by decide) hok.1 dX2_goOn_19 ?_
  refine lv_topi (fun x3 ex3 => ?_)
  replace hok := hok.2 x3 ex3
  refine lv_istore_n (lv' := [(3, .int x3), (2, .int x2), (1, .int x1), (0, .ref (a 26))]) hF.x hF.b dX2_goOn_20 rfl hl (by decide) rfl (fun ls hl => ?_)
  refine lv_aload_n hF.x hF.b dX2_goOn_21 rfl (lv_at hl 3 rfl) ?_
  refine r_get hF hw 0 rfl rfl inlX2 23 (by decide) wf_X2_58 rfl dX2_goOn_22 ?_
  refine lv_iload_n hF.x hF.b dX2_goOn_25 rfl (lv_at hl 2 rfl) ?_
  refine rm_ald 23 16 17 hF hw (by decide) hok.1 dX2_goOn_26 ?_
  refine lv_topi (fun x4 ex4 => ?_)
  replace hok := hok.2 x4 ex4
  refine lv_istore (lv' := [(4, .int x4), (3, .int x3), (2, .int x2), (1, .int x1), (0, .ref (a 26))]) hF.x hF.b dX2_goOn_27 hl (by decide) rfl (fun ls hl => ?_)
  refine lv_aload_n hF.x hF.b dX2_goOn_29 rfl (lv_at hl 4 rfl) ?_
  refine r_get hF hw 0 rfl rfl inlX2 22 (by decide) wf_X2_55 rfl dX2_goOn_30 ?_
  refine lv_iload_n hF.x hF.b dX2_goOn_33 rfl (lv_at hl 3 rfl) ?_
  refine rm_ald 22 16 16 hF hw (by decide) hok.1 dX2_goOn_34 ?_
  refine lv_topi (fun x5 ex5 => ?_)
  replace hok := hok.2 x5 ex5
  refine lv_istore (lv' := [(5, .int x5), (4, .int x4), (3, .int x3), (2, .int x2), (1, .int x1), (0, .ref (a 26))]) hF.x hF.b dX2_goOn_35 hl (by decide) rfl (fun ls hl => ?_)
  refine lv_aload_n hF.x hF.b dX2_goOn_37 rfl (lv_at hl 5 rfl) ?_
  refine r_get hF hw 0 rfl rfl inlX2 22 (by decide) wf_X2_55 rfl dX2_goOn_38 ?_
  refine lv_iload_n hF.x hF.b dX2_goOn_41 rfl (lv_at hl 4 rfl) ?_
  refine lv_dup2_11 hF.x hF.b dX2_goOn_42 rfl rfl ?_
  refine rm_ald 22 16 16 hF hw (by decide) hok.1 dX2_goOn_43 ?_
  refine lv_topi (fun x6 ex6 => ?_)
  replace hok := hok.2 x6 ex6
  refine lv_iconst (v := 1) hF.x hF.b dX2_goOn_44 (by decide) ?_
  refine lv_iadd hF.x hF.b dX2_goOn_45 ?_
  refine lv_topi (fun x7 ex7 => ?_)
  replace hok := hok x7 ex7
  refine rm_ast 22 16 16 hF hw (by decide) hok.1 dX2_goOn_46 (fun σ8 H locs eσ8 hw => ?_)
  replace hok := hok.2 σ8 eσ8
  refine lv_aload_n hF.x hF.b dX2_goOn_47 rfl (lv_at hl 5 rfl) ?_
  refine r_get hF hw 0 rfl rfl inlX2 6 (by decide) wf_X2_22 rfl dX2_goOn_48 ?_
  refine lv_iload_n hF.x hF.b dX2_goOn_51 rfl (lv_at hl 3 rfl) ?_
  refine rm_ald 6 600 5 hF hw (by decide) hok.1 dX2_goOn_52 ?_
  refine lv_topi (fun x9 ex9 => ?_)
  replace hok := hok.2 x9 ex9
  exact k_X2_goOn_53  hF  σ8 x1 x2 x3 x4 x5 x9 hw (lv_sub hl [5, 4, 3, 2, 1, 0] rfl) hok

theorem c2_goOn (l : Launch) (G : Gm) (a : Nat → Nat) (σ : SM)  {post : SM → Prop} (h : wp_X2_goOn_0 σ  post) : ctV l yX2_goOn cX2_goOn 6 (rr 3 69) G [.ref (a 26)] (wM G a σ) post (wM G a) := by
  refine en_V (by decide +kernel) (Nat.le_of_ble_eq_true rfl) (fun p e s m below meth c A ls hF hn hw hl => ?_)
  exact k_X2_goOn_0 hF  σ  hw hl h

def wp_X2_doing_21 (σ : SM) (v1 : Int32) (v2 : Int32) (K21 : SM → Int32 → Int32 → Prop) (post : Int32 → SM → Prop) : Prop :=
  ((σ.1 19) ≤ 0 → post (σ.1 24) σ) ∧ (¬ (σ.1 19) ≤ 0 → ((σ.1 24) = 0 → wp_X2_goOn_0 σ  (fun σ3 : SM => K21 σ3 v1 v2)) ∧ (¬ (σ.1 24) = 0 → wp_X2_fall_0 σ  (fun σ4 : SM => K21 σ4 v1 v2)))
set_option maxHeartbeats 4000000 in
set_option maxRecDepth 100000 in
theorem k_X2_doing_21 {l : Launch} {p : Program} {e : Env} {s : State} {m : MethodId} {below : List Frame} {meth : Method} {c : Code} {args : Array Value} {A : Nat → Prop} {G : Gm} {a : Nat → Nat}  (hF : fx p s m args meth c cX2_doing 3 yX2_doing.cls kX2_doing (some (.int))) {post : Int32 → SM → Prop} {K21 : SM → Int32 → Int32 → Prop} (hK21 : ∀ (σ : SM) (v1 : Int32) (v2 : Int32) {H : Heap} {locs : List Loc} {ls : Array Slot}, K21 σ v1 v2 → wb G A s (wM G a σ) H locs → lv_has ls 3 [(0, .ref (a 26)), (1, .int v1), (2, .int v2)] → W p l e (rr 4 94) s m args below meth c H locs 0 0 (MQ below (va_Qi post (po G A (wM G a)) A) args s 0 0 A) (F0 m 21 ls [])) (σ : SM) (v1 : Int32) (v2 : Int32) {H : Heap} {locs : List Loc} {ls : Array Slot} (hw : wb G A s (wM G a σ) H locs) (hl : lv_has ls 3 [(0, .ref (a 26)), (1, .int v1), (2, .int v2)]) (hok : wp_X2_doing_21 σ v1 v2 K21 post) :
    W p l e (rr 4 94) s m args below meth c H locs 0 0 (MQ below (va_Qi post (po G A (wM G a)) A) args s 0 0 A) (F0 m 21 ls []) := by
  unfold wp_X2_doing_21 at hok
  refine lv_aload_n hF.x hF.b dX2_doing_21 rfl (lv_at hl 0 rfl) ?_
  refine r_get hF hw 0 rfl rfl inlX2 19 (by decide) wf_X2_107 rfl dX2_doing_22 ?_
  refine lv_if_le (tgt := 49) hF.x hF.b dX2_doing_25 (by decide) (fun c1 => ?_) (fun c1 => ?_)
  · replace hok := hok.1 c1
    refine lv_aload_n hF.x hF.b dX2_doing_49 rfl (lv_at hl 0 rfl) ?_
    refine r_get hF hw 0 rfl rfl inlX2 24 (by decide) wf_X2_104 rfl dX2_doing_50 ?_
    exact rt_I (u := σ) hF hw hok (Nat.zero_le _) (Nat.zero_le _) dX2_doing_53
  · replace hok := hok.2 c1
    refine lv_aload_n hF.x hF.b dX2_doing_28 rfl (lv_at hl 0 rfl) ?_
    refine r_get hF hw 0 rfl rfl inlX2 24 (by decide) wf_X2_104 rfl dX2_doing_29 ?_
    refine lv_if_eq (tgt := 42) hF.x hF.b dX2_doing_32 (by decide) (fun c2 => ?_) (fun c2 => ?_)
    · replace hok := hok.1 c2
      refine lv_aload_n hF.x hF.b dX2_doing_42 rfl (lv_at hl 0 rfl) ?_
      refine ca_V hF hw (c2_goOn l G a σ  hok) wv_X2_134 (q0 := 0) rfl rfl rfl ⟨nd_X2.1, nd_X2.2, pd_X2_goOn⟩ ⟨Nat.le_of_ble_eq_true rfl, Nat.le_of_ble_eq_true rfl⟩ ⟨Nat.zero_le _, Nat.zero_le _⟩ hl.1 rfl (Nat.le_of_ble_eq_true rfl) dX2_doing_43 (fun σ3 H locs hp hw => ?_)
      replace hok := hp
      refine lv_goto (tgt := 21) hF.x hF.b dX2_doing_46 (by decide) ?_
      exact hK21 σ3 v1 v2 hok hw (lv_sub hl [0, 1, 2] rfl)
    · replace hok := hok.2 c2
      refine lv_aload_n hF.x hF.b dX2_doing_35 rfl (lv_at hl 0 rfl) ?_
      refine ca_V hF hw (c2_fall l G a σ  hok) wv_X2_131 (q0 := 0) rfl rfl rfl ⟨nd_X2.1, nd_X2.2, pd_X2_fall⟩ ⟨Nat.le_of_ble_eq_true rfl, Nat.le_of_ble_eq_true rfl⟩ ⟨Nat.zero_le _, Nat.zero_le _⟩ hl.1 rfl (Nat.le_of_ble_eq_true rfl) dX2_doing_36 (fun σ4 H locs hp hw => ?_)
      replace hok := hp
      refine lv_goto (tgt := 21) hF.x hF.b dX2_doing_39 (by decide) ?_
      exact hK21 σ4 v1 v2 hok hw (lv_sub hl [0, 1, 2] rfl)
def wp_X2_doing_0 (σ : SM) (v1 : Int32) (v2 : Int32) (K21 : SM → Int32 → Int32 → Prop) (post : Int32 → SM → Prop) : Prop :=
  ∀ σ1 : SM, σ1 = (va_up σ.1 19 0, σ.2) → ∀ σ2 : SM, σ2 = (va_up σ1.1 24 0, σ1.2) → ∀ σ3 : SM, σ3 = (va_up σ2.1 25 0, σ2.2) → wp_X2_enter_0 σ3 v1 v2 (fun σ4 : SM => K21 σ4 v1 v2)
set_option maxHeartbeats 4000000 in
set_option maxRecDepth 100000 in
theorem k_X2_doing_0 {l : Launch} {p : Program} {e : Env} {s : State} {m : MethodId} {below : List Frame} {meth : Method} {c : Code} {args : Array Value} {A : Nat → Prop} {G : Gm} {a : Nat → Nat}  (hF : fx p s m args meth c cX2_doing 3 yX2_doing.cls kX2_doing (some (.int))) {post : Int32 → SM → Prop} {K21 : SM → Int32 → Int32 → Prop} (hK21 : ∀ (σ : SM) (v1 : Int32) (v2 : Int32) {H : Heap} {locs : List Loc} {ls : Array Slot}, K21 σ v1 v2 → wb G A s (wM G a σ) H locs → lv_has ls 3 [(0, .ref (a 26)), (1, .int v1), (2, .int v2)] → W p l e (rr 4 94) s m args below meth c H locs 0 0 (MQ below (va_Qi post (po G A (wM G a)) A) args s 0 0 A) (F0 m 21 ls [])) (σ : SM) (v1 : Int32) (v2 : Int32) {H : Heap} {locs : List Loc} {ls : Array Slot} (hw : wb G A s (wM G a σ) H locs) (hl : lv_has ls 3 [(0, .ref (a 26)), (1, .int v1), (2, .int v2)]) (hok : wp_X2_doing_0 σ v1 v2 K21 post) :
    W p l e (rr 4 94) s m args below meth c H locs 0 0 (MQ below (va_Qi post (po G A (wM G a)) A) args s 0 0 A) (F0 m 0 ls []) := by
  unfold wp_X2_doing_0 at hok
  refine lv_aload_n hF.x hF.b dX2_doing_0 rfl (lv_at hl 0 rfl) ?_
  refine lv_iconst (v := 0) hF.x hF.b dX2_doing_1 (by decide) ?_
  refine rm_put (v := 0) 19 hF hw (by decide) wf_X2_107 dX2_doing_2 (fun σ1 H locs eσ1 hw => ?_)
  replace hok := hok σ1 eσ1
  refine lv_aload_n hF.x hF.b dX2_doing_5 rfl (lv_at hl 0 rfl) ?_
  refine lv_iconst (v := 0) hF.x hF.b dX2_doing_6 (by decide) ?_
  refine rm_put (v := 0) 24 hF hw (by decide) wf_X2_104 dX2_doing_7 (fun σ2 H locs eσ2 hw => ?_)
  replace hok := hok σ2 eσ2
  refine lv_aload_n hF.x hF.b dX2_doing_10 rfl (lv_at hl 0 rfl) ?_
  refine lv_iconst (v := 0) hF.x hF.b dX2_doing_11 (by decide) ?_
  refine rm_put (v := 0) 25 hF hw (by decide) wf_X2_110 dX2_doing_12 (fun σ3 H locs eσ3 hw => ?_)
  replace hok := hok σ3 eσ3
  refine lv_aload_n hF.x hF.b dX2_doing_15 rfl (lv_at hl 0 rfl) ?_
  refine lv_iload_n hF.x hF.b dX2_doing_16 rfl (lv_at hl 1 rfl) ?_
  refine lv_iload_n hF.x hF.b dX2_doing_17 rfl (lv_at hl 2 rfl) ?_
  refine ca_V hF hw (c2_enter l G a σ3 v1 v2 hok) wv_X2_113 (q0 := 0) rfl rfl rfl ⟨nd_X2.1, nd_X2.2, pd_X2_enter⟩ ⟨Nat.le_of_ble_eq_true rfl, Nat.le_of_ble_eq_true rfl⟩ ⟨Nat.zero_le _, Nat.zero_le _⟩ hl.1 rfl (Nat.le_of_ble_eq_true rfl) dX2_doing_18 (fun σ4 H locs hp hw => ?_)
  replace hok := hp
  exact hK21 σ4 v1 v2 hok hw (lv_sub hl [0, 1, 2] rfl)

def rn_X2_doing_21  : Nat → SM → Int32 → Int32 → (Int32 → SM → Prop) → Prop
  | 0, σ, v1, v2, post => wp_X2_doing_21 σ v1 v2 (fun (σq : SM) (v1' : Int32) (v2' : Int32) => False) post
  | n + 1, σ, v1, v2, post => wp_X2_doing_21 σ v1 v2 (fun (σq : SM) (v1' : Int32) (v2' : Int32) => rn_X2_doing_21  n σq v1' v2' post) post
theorem ln_X2_doing_21 {l : Launch} {p : Program} {e : Env} {s : State} {m : MethodId} {below : List Frame} {meth : Method} {c : Code} {args : Array Value} {A : Nat → Prop} {G : Gm} {a : Nat → Nat}  (hF : fx p s m args meth c cX2_doing 3 yX2_doing.cls kX2_doing (some (.int))) {post : Int32 → SM → Prop}  :
    ∀ (n : Nat) (σ : SM) (v1 : Int32) (v2 : Int32) {H : Heap} {locs : List Loc} {ls : Array Slot}, rn_X2_doing_21  n σ v1 v2 post → wb G A s (wM G a σ) H locs → lv_has ls 3 [(0, .ref (a 26)), (1, .int v1), (2, .int v2)] → W p l e (rr 4 94) s m args below meth c H locs 0 0 (MQ below (va_Qi post (po G A (wM G a)) A) args s 0 0 A) (F0 m 21 ls []) := by
  intro n
  induction n with
  | zero =>
    intro σ v1 v2 H locs ls hr hw hl
    exact k_X2_doing_21 hF (by intro σq v1' v2' H locs ls hI hw hl; exact hI.elim) σ v1 v2 hw hl hr
  | succ n ih =>
    intro σ v1 v2 H locs ls hr hw hl
    exact k_X2_doing_21 hF (by intro σq v1' v2' H locs ls hI hw hl; exact ih σq v1' v2' hI hw hl) σ v1 v2 hw hl hr
def wpL_X2_doing (σ : SM) (v1 : Int32) (v2 : Int32) (post : Int32 → SM → Prop) : Prop := wp_X2_doing_0 σ v1 v2 (fun (σq : SM) (v1' : Int32) (v2' : Int32) => ∃ nq, rn_X2_doing_21 nq σq v1' v2' post) post

theorem c2_doing (l : Launch) (G : Gm) (a : Nat → Nat) (σ : SM) (v1 : Int32) (v2 : Int32) {post : Int32 → SM → Prop} (h : wpL_X2_doing σ v1 v2 post) : ctI l yX2_doing cX2_doing 3 .int (rr 4 94) G [.ref (a 26), .int v1, .int v2] (wM G a σ) post (wM G a) := by
  refine en_I (by decide +kernel) (Nat.le_of_ble_eq_true rfl) (fun p e s m below meth c A ls hF hw hl => ?_)
  exact k_X2_doing_0 hF (by intro σq v1' v2' H locs ls hI hw hl; exact ln_X2_doing_21 hF  hI.choose σq v1' v2' hI.choose_spec hw hl) σ v1 v2 hw hl h

def wp_X2_refuse_0 (σ : SM) (v1 : Int32)  (post : Int32 → SM → Prop) : Prop :=
  ∀ σ1 : SM, σ1 = (va_up σ.1 17 v1, σ.2) → ∀ σ2 : SM, σ2 = (va_up σ1.1 16 0, σ1.2) → post 0 σ2
set_option maxHeartbeats 4000000 in
set_option maxRecDepth 100000 in
theorem k_X2_refuse_0 {l : Launch} {p : Program} {e : Env} {s : State} {m : MethodId} {below : List Frame} {meth : Method} {c : Code} {args : Array Value} {A : Nat → Prop} {G : Gm} {a : Nat → Nat}  (hF : fx p s m args meth c cX2_refuse 2 yX2_refuse.cls kX2_refuse (some (.int))) {post : Int32 → SM → Prop}  (σ : SM) (v1 : Int32) {H : Heap} {locs : List Loc} {ls : Array Slot} (hw : wb G A s (wM G a σ) H locs) (hl : lv_has ls 2 [(0, .ref (a 26)), (1, .int v1)]) (hok : wp_X2_refuse_0 σ v1  post) :
    W p l e (rr 0 0) s m args below meth c H locs 0 0 (MQ below (va_Qi post (po G A (wM G a)) A) args s 0 0 A) (F0 m 0 ls []) := by
  unfold wp_X2_refuse_0 at hok
  refine lv_aload_n hF.x hF.b dX2_refuse_0 rfl (lv_at hl 0 rfl) ?_
  refine lv_iload_n hF.x hF.b dX2_refuse_1 rfl (lv_at hl 1 rfl) ?_
  refine rm_put (v := v1) 17 hF hw (by decide) wf_X2_77 dX2_refuse_2 (fun σ1 H locs eσ1 hw => ?_)
  replace hok := hok σ1 eσ1
  refine lv_aload_n hF.x hF.b dX2_refuse_5 rfl (lv_at hl 0 rfl) ?_
  refine lv_iconst (v := 0) hF.x hF.b dX2_refuse_6 (by decide) ?_
  refine rm_put (v := 0) 16 hF hw (by decide) wf_X2_74 dX2_refuse_7 (fun σ2 H locs eσ2 hw => ?_)
  replace hok := hok σ2 eσ2
  refine lv_iconst (v := 0) hF.x hF.b dX2_refuse_10 (by decide) ?_
  exact rt_I (u := σ2) hF hw hok (Nat.zero_le _) (Nat.zero_le _) dX2_refuse_11

theorem c2_refuse (l : Launch) (G : Gm) (a : Nat → Nat) (σ : SM) (v1 : Int32) {post : Int32 → SM → Prop} (h : wp_X2_refuse_0 σ v1 post) : ctI l yX2_refuse cX2_refuse 2 .int (rr 0 0) G [.ref (a 26), .int v1] (wM G a σ) post (wM G a) := by
  refine en_I (by decide +kernel) (Nat.le_of_ble_eq_true rfl) (fun p e s m below meth c A ls hF hw hl => ?_)
  exact k_X2_refuse_0 hF  σ v1 hw hl h

def wp_X2_act_68 (σ : SM) (v1 : Int32) (v2 : Int32) (vs0 : Int32) (vs1 : Int32)  (post : Int32 → SM → Prop) : Prop :=
  ∀ x1 : Int32, x1 = vs1 + vs0 → ∀ σ2 : SM, σ2 = (va_up σ.1 18 x1, σ.2) → (¬ (σ2.1 17) = 0 → post 0 σ2) ∧ ((σ2.1 17) = 0 → post (σ2.1 25) σ2)
set_option maxHeartbeats 4000000 in
set_option maxRecDepth 100000 in
theorem k_X2_act_68 {l : Launch} {p : Program} {e : Env} {s : State} {m : MethodId} {below : List Frame} {meth : Method} {c : Code} {args : Array Value} {A : Nat → Prop} {G : Gm} {a : Nat → Nat}  (hF : fx p s m args meth c cX2_act 3 yX2_act.cls kX2_act (some (.int))) {post : Int32 → SM → Prop}  (σ : SM) (v1 : Int32) (v2 : Int32) (vs0 : Int32) (vs1 : Int32) {H : Heap} {locs : List Loc} {ls : Array Slot} (hw : wb G A s (wM G a σ) H locs) (hl : lv_has ls 3 [(0, .ref (a 26)), (1, .int v1), (2, .int v2)]) (hok : wp_X2_act_68 σ v1 v2 vs0 vs1  post) :
    W p l e (rr 5 116) s m args below meth c H locs 0 0 (MQ below (va_Qi post (po G A (wM G a)) A) args s 0 0 A) (F0 m 68 ls [.int vs0, .int vs1, .ref (a 26)]) := by
  unfold wp_X2_act_68 at hok
  refine lv_iadd hF.x hF.b dX2_act_68 ?_
  refine lv_topi (fun x1 ex1 => ?_)
  replace hok := hok x1 ex1
  refine rm_put (v := x1) 18 hF hw (by decide) wf_X2_80 dX2_act_69 (fun σ2 H locs eσ2 hw => ?_)
  replace hok := hok σ2 eσ2
  refine lv_aload_n hF.x hF.b dX2_act_72 rfl (lv_at hl 0 rfl) ?_
  refine r_get hF hw 0 rfl rfl inlX2 17 (by decide) wf_X2_77 rfl dX2_act_73 ?_
  refine lv_if_ne (tgt := 86) hF.x hF.b dX2_act_76 (by decide) (fun c3 => ?_) (fun c3 => ?_)
  · replace hok := hok.1 c3
    refine lv_iconst (v := 0) hF.x hF.b dX2_act_86 (by decide) ?_
    exact rt_I (u := σ2) hF hw hok (Nat.zero_le _) (Nat.zero_le _) dX2_act_87
  · replace hok := hok.2 c3
    refine lv_aload_n hF.x hF.b dX2_act_79 rfl (lv_at hl 0 rfl) ?_
    refine r_get hF hw 0 rfl rfl inlX2 25 (by decide) wf_X2_110 rfl dX2_act_80 ?_
    refine lv_goto (tgt := 87) hF.x hF.b dX2_act_83 (by decide) ?_
    exact rt_I (u := σ2) hF hw hok (Nat.zero_le _) (Nat.zero_le _) dX2_act_87
def wp_X2_act_0 (σ : SM) (v1 : Int32) (v2 : Int32)  (post : Int32 → SM → Prop) : Prop :=
  ∀ r1 : Int32, r1 = f1_isSlot v1 → (¬ r1 = 0 → vp_in v1 20 ∧ ∀ x3 : Int32, x3 = σ.2 11 v1.toNatClampNeg → (¬ x3 = ((-2)) → ∀ σ5 : SM, σ5 = (va_up σ.1 16 0, σ.2) → vp_in v1 20 ∧ ∀ x6 : Int32, x6 = σ5.2 11 v1.toNatClampNeg → wpL_X2_doing σ5 x6 v2 (fun (r8 : Int32) (σ7 : SM) => ∀ σ9 : SM, σ9 = (va_up σ7.1 17 r8, σ7.2) → (¬ (σ9.1 17) = 0 → wp_X2_act_68 σ9 v1 v2 1 (σ9.1 18)  post) ∧ ((σ9.1 17) = 0 → wp_X2_act_68 σ9 v1 v2 0 (σ9.1 18)  post))) ∧ (x3 = ((-2)) → wp_X2_refuse_0 σ ((-2)) (fun (r12 : Int32) (σ11 : SM) => post r12 σ11))) ∧ (r1 = 0 → wp_X2_refuse_0 σ ((-1)) (fun (r14 : Int32) (σ13 : SM) => post r14 σ13))
set_option maxHeartbeats 4000000 in
set_option maxRecDepth 100000 in
theorem k_X2_act_0 {l : Launch} {p : Program} {e : Env} {s : State} {m : MethodId} {below : List Frame} {meth : Method} {c : Code} {args : Array Value} {A : Nat → Prop} {G : Gm} {a : Nat → Nat}  (hF : fx p s m args meth c cX2_act 3 yX2_act.cls kX2_act (some (.int))) {post : Int32 → SM → Prop}  (σ : SM) (v1 : Int32) (v2 : Int32) {H : Heap} {locs : List Loc} {ls : Array Slot} (hw : wb G A s (wM G a σ) H locs) (hl : lv_has ls 3 [(0, .ref (a 26)), (1, .int v1), (2, .int v2)]) (hok : wp_X2_act_0 σ v1 v2  post) :
    W p l e (rr 5 116) s m args below meth c H locs 0 0 (MQ below (va_Qi post (po G A (wM G a)) A) args s 0 0 A) (F0 m 0 ls []) := by
  unfold wp_X2_act_0 at hok
  refine lv_iload_n hF.x hF.b dX2_act_0 rfl (lv_at hl 1 rfl) ?_
  refine ca_S hF (c2_isSlot l v1) wv_X2_91 ⟨rfl, nd_X2.1, nd_X2.2, pd_X2_isSlot⟩ ⟨rfl, rfl⟩ ⟨Nat.le_of_ble_eq_true rfl, Nat.le_of_ble_eq_true rfl⟩ ⟨Nat.zero_le _, Nat.zero_le _⟩ hl.1 rfl (by first | exact Nat.le_of_ble_eq_true rfl | simp [cat_rf, Value.category]) dX2_act_1 (fun r1 er1 => ?_)
  replace hok := hok r1 er1
  refine lv_if_ne (tgt := 13) hF.x hF.b dX2_act_4 (by decide) (fun c2 => ?_) (fun c2 => ?_)
  · replace hok := hok.1 c2
    refine lv_aload_n hF.x hF.b dX2_act_13 rfl (lv_at hl 0 rfl) ?_
    refine r_get hF hw 0 rfl rfl inlX2 11 (by decide) wf_X2_37 rfl dX2_act_14 ?_
    refine lv_iload_n hF.x hF.b dX2_act_17 rfl (lv_at hl 1 rfl) ?_
    refine rm_ald 11 20 10 hF hw (by decide) hok.1 dX2_act_18 ?_
    refine lv_topi (fun x3 ex3 => ?_)
    replace hok := hok.2 x3 ex3
    refine lv_bipush (v := (-2)) hF.x hF.b dX2_act_19 (by decide) ?_
    refine lv_icmp_ne (tgt := 31) hF.x hF.b dX2_act_21 (by decide) (fun c4 => ?_) (fun c4 => ?_)
    · replace hok := hok.1 c4
      refine lv_aload_n hF.x hF.b dX2_act_31 rfl (lv_at hl 0 rfl) ?_
      refine lv_iconst (v := 0) hF.x hF.b dX2_act_32 (by decide) ?_
      refine rm_put (v := 0) 16 hF hw (by decide) wf_X2_74 dX2_act_33 (fun σ5 H locs eσ5 hw => ?_)
      replace hok := hok σ5 eσ5
      refine lv_aload_n hF.x hF.b dX2_act_36 rfl (lv_at hl 0 rfl) ?_
      refine lv_aload_n hF.x hF.b dX2_act_37 rfl (lv_at hl 0 rfl) ?_
      refine lv_aload_n hF.x hF.b dX2_act_38 rfl (lv_at hl 0 rfl) ?_
      refine r_get hF hw 0 rfl rfl inlX2 11 (by decide) wf_X2_37 rfl dX2_act_39 ?_
      refine lv_iload_n hF.x hF.b dX2_act_42 rfl (lv_at hl 1 rfl) ?_
      refine rm_ald 11 20 10 hF hw (by decide) hok.1 dX2_act_43 ?_
      refine lv_topi (fun x6 ex6 => ?_)
      replace hok := hok.2 x6 ex6
      refine lv_iload_n hF.x hF.b dX2_act_44 rfl (lv_at hl 2 rfl) ?_
      refine ca_I hF hw (c2_doing l G a σ5 x6 v2 hok) wv_X2_141 (q0 := 0) rfl rfl rfl ⟨nd_X2.1, nd_X2.2, pd_X2_doing⟩ ⟨Nat.le_of_ble_eq_true rfl, Nat.le_of_ble_eq_true rfl⟩ ⟨Nat.zero_le _, Nat.zero_le _⟩ hl.1 rfl (Nat.le_of_ble_eq_true rfl) dX2_act_45 (fun r8 σ7 H locs hp hw => ?_)
      replace hok := hp
      refine rm_put (v := r8) 17 hF hw (by decide) wf_X2_77 dX2_act_48 (fun σ9 H locs eσ9 hw => ?_)
      replace hok := hok σ9 eσ9
      refine lv_aload_n hF.x hF.b dX2_act_51 rfl (lv_at hl 0 rfl) ?_
      refine lv_dup hF.x hF.b dX2_act_52 rfl ?_
      refine r_get hF hw 0 rfl rfl inlX2 18 (by decide) wf_X2_80 rfl dX2_act_53 ?_
      refine lv_aload_n hF.x hF.b dX2_act_56 rfl (lv_at hl 0 rfl) ?_
      refine r_get hF hw 0 rfl rfl inlX2 17 (by decide) wf_X2_77 rfl dX2_act_57 ?_
      refine lv_if_ne (tgt := 67) hF.x hF.b dX2_act_60 (by decide) (fun c10 => ?_) (fun c10 => ?_)
      · replace hok := hok.1 c10
        refine lv_iconst (v := 1) hF.x hF.b dX2_act_67 (by decide) ?_
        exact k_X2_act_68  hF  σ9 v1 v2 1 (σ9.1 18) hw (lv_sub hl [0, 1, 2] rfl) hok
      · replace hok := hok.2 c10
        refine lv_iconst (v := 0) hF.x hF.b dX2_act_63 (by decide) ?_
        refine lv_goto (tgt := 68) hF.x hF.b dX2_act_64 (by decide) ?_
        exact k_X2_act_68  hF  σ9 v1 v2 0 (σ9.1 18) hw (lv_sub hl [0, 1, 2] rfl) hok
    · replace hok := hok.2 c4
      refine lv_aload_n hF.x hF.b dX2_act_24 rfl (lv_at hl 0 rfl) ?_
      refine lv_bipush (v := (-2)) hF.x hF.b dX2_act_25 (by decide) ?_
      refine ca_I hF hw (c2_refuse l G a σ ((-2)) hok) wv_X2_137 (q0 := 0) rfl rfl rfl ⟨nd_X2.1, nd_X2.2, pd_X2_refuse⟩ ⟨Nat.le_of_ble_eq_true rfl, Nat.le_of_ble_eq_true rfl⟩ ⟨Nat.zero_le _, Nat.zero_le _⟩ hl.1 rfl (Nat.le_of_ble_eq_true rfl) dX2_act_27 (fun r12 σ11 H locs hp hw => ?_)
      replace hok := hp
      exact rt_I (u := σ11) hF hw hok (Nat.zero_le _) (Nat.zero_le _) dX2_act_30
  · replace hok := hok.2 c2
    refine lv_aload_n hF.x hF.b dX2_act_7 rfl (lv_at hl 0 rfl) ?_
    refine lv_iconst (v := (-1)) hF.x hF.b dX2_act_8 (by decide) ?_
    refine ca_I hF hw (c2_refuse l G a σ ((-1)) hok) wv_X2_137 (q0 := 0) rfl rfl rfl ⟨nd_X2.1, nd_X2.2, pd_X2_refuse⟩ ⟨Nat.le_of_ble_eq_true rfl, Nat.le_of_ble_eq_true rfl⟩ ⟨Nat.zero_le _, Nat.zero_le _⟩ hl.1 rfl (Nat.le_of_ble_eq_true rfl) dX2_act_9 (fun r14 σ13 H locs hp hw => ?_)
    replace hok := hp
    exact rt_I (u := σ13) hF hw hok (Nat.zero_le _) (Nat.zero_le _) dX2_act_12

theorem c2_act (l : Launch) (G : Gm) (a : Nat → Nat) (σ : SM) (v1 : Int32) (v2 : Int32) {post : Int32 → SM → Prop} (h : wp_X2_act_0 σ v1 v2 post) : ctI l yX2_act cX2_act 3 .int (rr 5 116) G [.ref (a 26), .int v1, .int v2] (wM G a σ) post (wM G a) := by
  refine en_I (by decide +kernel) (Nat.le_of_ble_eq_true rfl) (fun p e s m below meth c A ls hF hw hl => ?_)
  exact k_X2_act_0 hF  σ v1 v2 hw hl h

def wp_X2_pull_91 (σ : SM) (v1 : Int32) (v2 : Int32) (v3 : Int32) (v4 : Int32) (vs0 : Int32) (vs1 : Int32) (K30 : SM → Int32 → Int32 → Int32 → Int32 → Prop) (post : Int32 → SM → Prop) : Prop :=
  ∀ x1 : Int32, x1 = vs1 + vs0 → ∀ σ2 : SM, σ2 = (va_up σ.1 18 x1, σ.2) → (¬ (σ2.1 17) = 0 → post 0 σ2) ∧ ((σ2.1 17) = 0 → post v3 σ2)
set_option maxHeartbeats 4000000 in
set_option maxRecDepth 100000 in
theorem k_X2_pull_91 {l : Launch} {p : Program} {e : Env} {s : State} {m : MethodId} {below : List Frame} {meth : Method} {c : Code} {args : Array Value} {A : Nat → Prop} {G : Gm} {a : Nat → Nat}  (hF : fx p s m args meth c cX2_pull 5 yX2_pull.cls kX2_pull (some (.int))) {post : Int32 → SM → Prop} {K30 : SM → Int32 → Int32 → Int32 → Int32 → Prop} (hK30 : ∀ (σ : SM) (v1 : Int32) (v2 : Int32) (v3 : Int32) (v4 : Int32) {H : Heap} {locs : List Loc} {ls : Array Slot}, K30 σ v1 v2 v3 v4 → wb G A s (wM G a σ) H locs → lv_has ls 5 [(0, .ref (a 26)), (1, .int v1), (2, .int v2), (3, .int v3), (4, .int v4)] → W p l e (rr 5 116) s m args below meth c H locs 0 0 (MQ below (va_Qi post (po G A (wM G a)) A) args s 0 0 A) (F0 m 30 ls [])) (σ : SM) (v1 : Int32) (v2 : Int32) (v3 : Int32) (v4 : Int32) (vs0 : Int32) (vs1 : Int32) {H : Heap} {locs : List Loc} {ls : Array Slot} (hw : wb G A s (wM G a σ) H locs) (hl : lv_has ls 5 [(0, .ref (a 26)), (1, .int v1), (2, .int v2), (3, .int v3), (4, .int v4)]) (hok : wp_X2_pull_91 σ v1 v2 v3 v4 vs0 vs1 K30 post) :
    W p l e (rr 5 116) s m args below meth c H locs 0 0 (MQ below (va_Qi post (po G A (wM G a)) A) args s 0 0 A) (F0 m 91 ls [.int vs0, .int vs1, .ref (a 26)]) := by
  unfold wp_X2_pull_91 at hok
  refine lv_iadd hF.x hF.b dX2_pull_91 ?_
  refine lv_topi (fun x1 ex1 => ?_)
  replace hok := hok x1 ex1
  refine rm_put (v := x1) 18 hF hw (by decide) wf_X2_80 dX2_pull_92 (fun σ2 H locs eσ2 hw => ?_)
  replace hok := hok σ2 eσ2
  refine lv_aload_n hF.x hF.b dX2_pull_95 rfl (lv_at hl 0 rfl) ?_
  refine r_get hF hw 0 rfl rfl inlX2 17 (by decide) wf_X2_77 rfl dX2_pull_96 ?_
  refine lv_if_ne (tgt := 106) hF.x hF.b dX2_pull_99 (by decide) (fun c3 => ?_) (fun c3 => ?_)
  · replace hok := hok.1 c3
    refine lv_iconst (v := 0) hF.x hF.b dX2_pull_106 (by decide) ?_
    exact rt_I (u := σ2) hF hw hok (Nat.zero_le _) (Nat.zero_le _) dX2_pull_107
  · replace hok := hok.2 c3
    refine lv_iload_n hF.x hF.b dX2_pull_102 rfl (lv_at hl 3 rfl) ?_
    refine lv_goto (tgt := 107) hF.x hF.b dX2_pull_103 (by decide) ?_
    exact rt_I (u := σ2) hF hw hok (Nat.zero_le _) (Nat.zero_le _) dX2_pull_107
def wp_X2_pull_74 (σ : SM) (v1 : Int32) (v2 : Int32) (v3 : Int32) (v4 : Int32) (K30 : SM → Int32 → Int32 → Int32 → Int32 → Prop) (post : Int32 → SM → Prop) : Prop :=
  (¬ (σ.1 17) = 0 → wp_X2_pull_91 σ v1 v2 v3 v4 1 (σ.1 18) K30 post) ∧ ((σ.1 17) = 0 → wp_X2_pull_91 σ v1 v2 v3 v4 0 (σ.1 18) K30 post)
set_option maxHeartbeats 4000000 in
set_option maxRecDepth 100000 in
theorem k_X2_pull_74 {l : Launch} {p : Program} {e : Env} {s : State} {m : MethodId} {below : List Frame} {meth : Method} {c : Code} {args : Array Value} {A : Nat → Prop} {G : Gm} {a : Nat → Nat}  (hF : fx p s m args meth c cX2_pull 5 yX2_pull.cls kX2_pull (some (.int))) {post : Int32 → SM → Prop} {K30 : SM → Int32 → Int32 → Int32 → Int32 → Prop} (hK30 : ∀ (σ : SM) (v1 : Int32) (v2 : Int32) (v3 : Int32) (v4 : Int32) {H : Heap} {locs : List Loc} {ls : Array Slot}, K30 σ v1 v2 v3 v4 → wb G A s (wM G a σ) H locs → lv_has ls 5 [(0, .ref (a 26)), (1, .int v1), (2, .int v2), (3, .int v3), (4, .int v4)] → W p l e (rr 5 116) s m args below meth c H locs 0 0 (MQ below (va_Qi post (po G A (wM G a)) A) args s 0 0 A) (F0 m 30 ls [])) (σ : SM) (v1 : Int32) (v2 : Int32) (v3 : Int32) (v4 : Int32) {H : Heap} {locs : List Loc} {ls : Array Slot} (hw : wb G A s (wM G a σ) H locs) (hl : lv_has ls 5 [(0, .ref (a 26)), (1, .int v1), (2, .int v2), (3, .int v3), (4, .int v4)]) (hok : wp_X2_pull_74 σ v1 v2 v3 v4 K30 post) :
    W p l e (rr 5 116) s m args below meth c H locs 0 0 (MQ below (va_Qi post (po G A (wM G a)) A) args s 0 0 A) (F0 m 74 ls []) := by
  unfold wp_X2_pull_74 at hok
  refine lv_aload_n hF.x hF.b dX2_pull_74 rfl (lv_at hl 0 rfl) ?_
  refine lv_dup hF.x hF.b dX2_pull_75 rfl ?_
  refine r_get hF hw 0 rfl rfl inlX2 18 (by decide) wf_X2_80 rfl dX2_pull_76 ?_
  refine lv_aload_n hF.x hF.b dX2_pull_79 rfl (lv_at hl 0 rfl) ?_
  refine r_get hF hw 0 rfl rfl inlX2 17 (by decide) wf_X2_77 rfl dX2_pull_80 ?_
  refine lv_if_ne (tgt := 90) hF.x hF.b dX2_pull_83 (by decide) (fun c1 => ?_) (fun c1 => ?_)
  · replace hok := hok.1 c1
    refine lv_iconst (v := 1) hF.x hF.b dX2_pull_90 (by decide) ?_
    exact k_X2_pull_91  hF hK30 σ v1 v2 v3 v4 1 (σ.1 18) hw (lv_sub hl [0, 1, 2, 3, 4] rfl) hok
  · replace hok := hok.2 c1
    refine lv_iconst (v := 0) hF.x hF.b dX2_pull_86 (by decide) ?_
    refine lv_goto (tgt := 91) hF.x hF.b dX2_pull_87 (by decide) ?_
    exact k_X2_pull_91  hF hK30 σ v1 v2 v3 v4 0 (σ.1 18) hw (lv_sub hl [0, 1, 2, 3, 4] rfl) hok
def wp_X2_pull_30 (σ : SM) (v1 : Int32) (v2 : Int32) (v3 : Int32) (v4 : Int32) (K30 : SM → Int32 → Int32 → Int32 → Int32 → Prop) (post : Int32 → SM → Prop) : Prop :=
  (4 ≤ v4 → wp_X2_pull_74 σ v1 v2 v3 v4 K30 post) ∧ (¬ 4 ≤ v4 → (¬ (σ.1 17) = 0 → wp_X2_pull_74 σ v1 v2 v3 v4 K30 post) ∧ ((σ.1 17) = 0 → ∀ x3 : Int32, x3 = 4 * v1 → ∀ x4 : Int32, x4 = x3 + v4 → vp_in x4 20 ∧ ∀ x5 : Int32, x5 = σ.2 12 x4.toNatClampNeg → wpL_X2_doing σ x5 v3 (fun (r7 : Int32) (σ6 : SM) => ∀ σ8 : SM, σ8 = (va_up σ6.1 17 r7, σ6.2) → ∀ x9 : Int32, x9 = v4 + 1 → K30 σ8 v1 v2 (σ8.1 25) x9)))
set_option maxHeartbeats 4000000 in
set_option maxRecDepth 100000 in
theorem k_X2_pull_30 {l : Launch} {p : Program} {e : Env} {s : State} {m : MethodId} {below : List Frame} {meth : Method} {c : Code} {args : Array Value} {A : Nat → Prop} {G : Gm} {a : Nat → Nat}  (hF : fx p s m args meth c cX2_pull 5 yX2_pull.cls kX2_pull (some (.int))) {post : Int32 → SM → Prop} {K30 : SM → Int32 → Int32 → Int32 → Int32 → Prop} (hK30 : ∀ (σ : SM) (v1 : Int32) (v2 : Int32) (v3 : Int32) (v4 : Int32) {H : Heap} {locs : List Loc} {ls : Array Slot}, K30 σ v1 v2 v3 v4 → wb G A s (wM G a σ) H locs → lv_has ls 5 [(0, .ref (a 26)), (1, .int v1), (2, .int v2), (3, .int v3), (4, .int v4)] → W p l e (rr 5 116) s m args below meth c H locs 0 0 (MQ below (va_Qi post (po G A (wM G a)) A) args s 0 0 A) (F0 m 30 ls [])) (σ : SM) (v1 : Int32) (v2 : Int32) (v3 : Int32) (v4 : Int32) {H : Heap} {locs : List Loc} {ls : Array Slot} (hw : wb G A s (wM G a σ) H locs) (hl : lv_has ls 5 [(0, .ref (a 26)), (1, .int v1), (2, .int v2), (3, .int v3), (4, .int v4)]) (hok : wp_X2_pull_30 σ v1 v2 v3 v4 K30 post) :
    W p l e (rr 5 116) s m args below meth c H locs 0 0 (MQ below (va_Qi post (po G A (wM G a)) A) args s 0 0 A) (F0 m 30 ls []) := by
  unfold wp_X2_pull_30 at hok
  refine lv_iload hF.x hF.b dX2_pull_30 (lv_at hl 4 rfl) ?_
  refine lv_iconst (v := 4) hF.x hF.b dX2_pull_32 (by decide) ?_
  refine lv_icmp_ge (tgt := 74) hF.x hF.b dX2_pull_33 (by decide) (fun c1 => ?_) (fun c1 => ?_)
  · replace hok := hok.1 c1
    exact k_X2_pull_74  hF hK30 σ v1 v2 v3 v4 hw (lv_sub hl [0, 1, 2, 3, 4] rfl) hok
  · replace hok := hok.2 c1
    refine lv_aload_n hF.x hF.b dX2_pull_36 rfl (lv_at hl 0 rfl) ?_
    refine r_get hF hw 0 rfl rfl inlX2 17 (by decide) wf_X2_77 rfl dX2_pull_37 ?_
    refine lv_if_ne (tgt := 74) hF.x hF.b dX2_pull_40 (by decide) (fun c2 => ?_) (fun c2 => ?_)
    · replace hok := hok.1 c2
      exact k_X2_pull_74  hF hK30 σ v1 v2 v3 v4 hw (lv_sub hl [0, 1, 2, 3, 4] rfl) hok
    · replace hok := hok.2 c2
      refine lv_aload_n hF.x hF.b dX2_pull_43 rfl (lv_at hl 0 rfl) ?_
      refine lv_aload_n hF.x hF.b dX2_pull_44 rfl (lv_at hl 0 rfl) ?_
      refine lv_aload_n hF.x hF.b dX2_pull_45 rfl (lv_at hl 0 rfl) ?_
      refine r_get hF hw 0 rfl rfl inlX2 12 (by decide) wf_X2_40 rfl dX2_pull_46 ?_
      refine lv_iconst (v := 4) hF.x hF.b dX2_pull_49 (by decide) ?_
      refine lv_iload_n hF.x hF.b dX2_pull_50 rfl (lv_at hl 1 rfl) ?_
      refine lv_imul hF.x hF.b dX2_pull_51 ?_
      refine lv_topi (fun x3 ex3 => ?_)
      replace hok := hok x3 ex3
      refine lv_iload hF.x hF.b dX2_pull_52 (lv_at hl 4 rfl) ?_
      refine lv_iadd hF.x hF.b dX2_pull_54 ?_
      refine lv_topi (fun x4 ex4 => ?_)
      replace hok := hok x4 ex4
      refine rm_ald 12 20 11 hF hw (by decide) hok.1 dX2_pull_55 ?_
      refine lv_topi (fun x5 ex5 => ?_)
      replace hok := hok.2 x5 ex5
      refine lv_iload_n hF.x hF.b dX2_pull_56 rfl (lv_at hl 3 rfl) ?_
      refine ca_I hF hw (c2_doing l G a σ x5 v3 hok) wv_X2_141 (q0 := 0) rfl rfl rfl ⟨nd_X2.1, nd_X2.2, pd_X2_doing⟩ ⟨Nat.le_of_ble_eq_true rfl, Nat.le_of_ble_eq_true rfl⟩ ⟨Nat.zero_le _, Nat.zero_le _⟩ hl.1 rfl (Nat.le_of_ble_eq_true rfl) dX2_pull_57 (fun r7 σ6 H locs hp hw => ?_)
      replace hok := hp
      refine rm_put (v := r7) 17 hF hw (by decide) wf_X2_77 dX2_pull_60 (fun σ8 H locs eσ8 hw => ?_)
      replace hok := hok σ8 eσ8
      refine lv_aload_n hF.x hF.b dX2_pull_63 rfl (lv_at hl 0 rfl) ?_
      refine r_get hF hw 0 rfl rfl inlX2 25 (by decide) wf_X2_110 rfl dX2_pull_64 ?_
      refine lv_istore_n (lv' := [(3, .int (σ8.1 25)), (0, .ref (a 26)), (1, .int v1), (2, .int v2), (4, .int v4)]) hF.x hF.b dX2_pull_67 rfl hl (by decide) rfl (fun ls hl => ?_)
      obtain ⟨x9, ex9⟩ : ∃ z : Int32, z = v4 + 1 := ⟨_, rfl⟩
      replace hok := hok x9 ex9
      refine lv_iinc (v := x9) (lv' := [(4, .int x9), (3, .int (σ8.1 25)), (0, .ref (a 26)), (1, .int v1), (2, .int v2)]) hF.x hF.b dX2_pull_68 hl (k := 4) rfl (by rw [ex9]; rfl) (by decide) rfl (fun ls hl => ?_)
      refine lv_goto (tgt := 30) hF.x hF.b dX2_pull_71 (by decide) ?_
      exact hK30 σ8 v1 v2 (σ8.1 25) x9 hok hw (lv_sub hl [2, 3, 4, 1, 0] rfl)
def wp_X2_pull_0 (σ : SM) (v1 : Int32) (v2 : Int32) (K30 : SM → Int32 → Int32 → Int32 → Int32 → Prop) (post : Int32 → SM → Prop) : Prop :=
  ∀ r1 : Int32, r1 = f2_isIn v1 0 4 → (¬ r1 = 0 → ∀ σ3 : SM, σ3 = (va_up σ.1 16 0, σ.2) → ∀ σ4 : SM, σ4 = (va_up σ3.1 17 0, σ3.2) → K30 σ4 v1 v2 v2 0) ∧ (r1 = 0 → wp_X2_refuse_0 σ ((-1)) (fun (r6 : Int32) (σ5 : SM) => post r6 σ5))
set_option maxHeartbeats 4000000 in
set_option maxRecDepth 100000 in
theorem k_X2_pull_0 {l : Launch} {p : Program} {e : Env} {s : State} {m : MethodId} {below : List Frame} {meth : Method} {c : Code} {args : Array Value} {A : Nat → Prop} {G : Gm} {a : Nat → Nat}  (hF : fx p s m args meth c cX2_pull 5 yX2_pull.cls kX2_pull (some (.int))) {post : Int32 → SM → Prop} {K30 : SM → Int32 → Int32 → Int32 → Int32 → Prop} (hK30 : ∀ (σ : SM) (v1 : Int32) (v2 : Int32) (v3 : Int32) (v4 : Int32) {H : Heap} {locs : List Loc} {ls : Array Slot}, K30 σ v1 v2 v3 v4 → wb G A s (wM G a σ) H locs → lv_has ls 5 [(0, .ref (a 26)), (1, .int v1), (2, .int v2), (3, .int v3), (4, .int v4)] → W p l e (rr 5 116) s m args below meth c H locs 0 0 (MQ below (va_Qi post (po G A (wM G a)) A) args s 0 0 A) (F0 m 30 ls [])) (σ : SM) (v1 : Int32) (v2 : Int32) {H : Heap} {locs : List Loc} {ls : Array Slot} (hw : wb G A s (wM G a σ) H locs) (hl : lv_has ls 5 [(0, .ref (a 26)), (1, .int v1), (2, .int v2)]) (hok : wp_X2_pull_0 σ v1 v2 K30 post) :
    W p l e (rr 5 116) s m args below meth c H locs 0 0 (MQ below (va_Qi post (po G A (wM G a)) A) args s 0 0 A) (F0 m 0 ls []) := by
  unfold wp_X2_pull_0 at hok
  refine lv_iload_n hF.x hF.b dX2_pull_0 rfl (lv_at hl 1 rfl) ?_
  refine lv_iconst (v := 0) hF.x hF.b dX2_pull_1 (by decide) ?_
  refine lv_iconst (v := 4) hF.x hF.b dX2_pull_2 (by decide) ?_
  refine ca_S hF (c2_isIn l v1 0 4) wv_X2_83 ⟨rfl, nd_X2.1, nd_X2.2, pd_X2_isIn⟩ ⟨rfl, rfl⟩ ⟨Nat.le_of_ble_eq_true rfl, Nat.le_of_ble_eq_true rfl⟩ ⟨Nat.zero_le _, Nat.zero_le _⟩ hl.1 rfl (by first | exact Nat.le_of_ble_eq_true rfl | simp [cat_rf, Value.category]) dX2_pull_3 (fun r1 er1 => ?_)
  replace hok := hok r1 er1
  refine lv_if_ne (tgt := 15) hF.x hF.b dX2_pull_6 (by decide) (fun c2 => ?_) (fun c2 => ?_)
  · replace hok := hok.1 c2
    refine lv_aload_n hF.x hF.b dX2_pull_15 rfl (lv_at hl 0 rfl) ?_
    refine lv_iconst (v := 0) hF.x hF.b dX2_pull_16 (by decide) ?_
    refine rm_put (v := 0) 16 hF hw (by decide) wf_X2_74 dX2_pull_17 (fun σ3 H locs eσ3 hw => ?_)
    replace hok := hok σ3 eσ3
    refine lv_aload_n hF.x hF.b dX2_pull_20 rfl (lv_at hl 0 rfl) ?_
    refine lv_iconst (v := 0) hF.x hF.b dX2_pull_21 (by decide) ?_
    refine rm_put (v := 0) 17 hF hw (by decide) wf_X2_77 dX2_pull_22 (fun σ4 H locs eσ4 hw => ?_)
    replace hok := hok σ4 eσ4
    refine lv_iload_n hF.x hF.b dX2_pull_25 rfl (lv_at hl 2 rfl) ?_
    refine lv_istore_n (lv' := [(3, .int v2), (0, .ref (a 26)), (1, .int v1), (2, .int v2)]) hF.x hF.b dX2_pull_26 rfl hl (by decide) rfl (fun ls hl => ?_)
    refine lv_iconst (v := 0) hF.x hF.b dX2_pull_27 (by decide) ?_
    refine lv_istore (lv' := [(4, .int 0), (3, .int v2), (0, .ref (a 26)), (1, .int v1), (2, .int v2)]) hF.x hF.b dX2_pull_28 hl (by decide) rfl (fun ls hl => ?_)
    exact hK30 σ4 v1 v2 v2 0 hok hw (lv_sub hl [2, 3, 4, 1, 0] rfl)
  · replace hok := hok.2 c2
    refine lv_aload_n hF.x hF.b dX2_pull_9 rfl (lv_at hl 0 rfl) ?_
    refine lv_iconst (v := (-1)) hF.x hF.b dX2_pull_10 (by decide) ?_
    refine ca_I hF hw (c2_refuse l G a σ ((-1)) hok) wv_X2_137 (q0 := 0) rfl rfl rfl ⟨nd_X2.1, nd_X2.2, pd_X2_refuse⟩ ⟨Nat.le_of_ble_eq_true rfl, Nat.le_of_ble_eq_true rfl⟩ ⟨Nat.zero_le _, Nat.zero_le _⟩ hl.1 rfl (Nat.le_of_ble_eq_true rfl) dX2_pull_11 (fun r6 σ5 H locs hp hw => ?_)
    replace hok := hp
    exact rt_I (u := σ5) hF hw hok (Nat.zero_le _) (Nat.zero_le _) dX2_pull_14

def rn_X2_pull_30  : Nat → SM → Int32 → Int32 → Int32 → Int32 → (Int32 → SM → Prop) → Prop
  | 0, σ, v1, v2, v3, v4, post => wp_X2_pull_30 σ v1 v2 v3 v4 (fun (σq : SM) (v1' : Int32) (v2' : Int32) (v3' : Int32) (v4' : Int32) => False) post
  | n + 1, σ, v1, v2, v3, v4, post => wp_X2_pull_30 σ v1 v2 v3 v4 (fun (σq : SM) (v1' : Int32) (v2' : Int32) (v3' : Int32) (v4' : Int32) => rn_X2_pull_30  n σq v1' v2' v3' v4' post) post
theorem ln_X2_pull_30 {l : Launch} {p : Program} {e : Env} {s : State} {m : MethodId} {below : List Frame} {meth : Method} {c : Code} {args : Array Value} {A : Nat → Prop} {G : Gm} {a : Nat → Nat}  (hF : fx p s m args meth c cX2_pull 5 yX2_pull.cls kX2_pull (some (.int))) {post : Int32 → SM → Prop}  :
    ∀ (n : Nat) (σ : SM) (v1 : Int32) (v2 : Int32) (v3 : Int32) (v4 : Int32) {H : Heap} {locs : List Loc} {ls : Array Slot}, rn_X2_pull_30  n σ v1 v2 v3 v4 post → wb G A s (wM G a σ) H locs → lv_has ls 5 [(0, .ref (a 26)), (1, .int v1), (2, .int v2), (3, .int v3), (4, .int v4)] → W p l e (rr 5 116) s m args below meth c H locs 0 0 (MQ below (va_Qi post (po G A (wM G a)) A) args s 0 0 A) (F0 m 30 ls []) := by
  intro n
  induction n with
  | zero =>
    intro σ v1 v2 v3 v4 H locs ls hr hw hl
    exact k_X2_pull_30 hF (by intro σq v1' v2' v3' v4' H locs ls hI hw hl; exact hI.elim) σ v1 v2 v3 v4 hw hl hr
  | succ n ih =>
    intro σ v1 v2 v3 v4 H locs ls hr hw hl
    exact k_X2_pull_30 hF (by intro σq v1' v2' v3' v4' H locs ls hI hw hl; exact ih σq v1' v2' v3' v4' hI hw hl) σ v1 v2 v3 v4 hw hl hr
def wpL_X2_pull (σ : SM) (v1 : Int32) (v2 : Int32) (post : Int32 → SM → Prop) : Prop := wp_X2_pull_0 σ v1 v2 (fun (σq : SM) (v1' : Int32) (v2' : Int32) (v3' : Int32) (v4' : Int32) => ∃ nq, rn_X2_pull_30 nq σq v1' v2' v3' v4' post) post

theorem c2_pull (l : Launch) (G : Gm) (a : Nat → Nat) (σ : SM) (v1 : Int32) (v2 : Int32) {post : Int32 → SM → Prop} (h : wpL_X2_pull σ v1 v2 post) : ctI l yX2_pull cX2_pull 5 .int (rr 5 116) G [.ref (a 26), .int v1, .int v2] (wM G a σ) post (wM G a) := by
  refine en_I (by decide +kernel) (Nat.le_of_ble_eq_true rfl) (fun p e s m below meth c A ls hF hw hl => ?_)
  exact k_X2_pull_0 hF (by intro σq v1' v2' v3' v4' H locs ls hI hw hl; exact ln_X2_pull_30 hF  hI.choose σq v1' v2' v3' v4' hI.choose_spec hw hl) σ v1 v2 hw hl h

def wp_X2_tick_157 (σ : SM) (v1 : Int32) (v2 : Int32) (v3 : Int32) (v4 : Int32) (v5 : Int32) (v6 : Int32) (vs0 : Int32) (K19 : SM → Int32 → Int32 → Int32 → Prop) (K53 : SM → Int32 → Int32 → Int32 → Int32 → Int32 → Int32 → Prop) (post : Int32 → SM → Prop) : Prop :=
  ∀ σ1 : SM, σ1 = (va_up σ.1 17 vs0, σ.2) → ∀ x2 : Int32, x2 = v3 + 1 → K19 σ1 v1 v2 x2
set_option maxHeartbeats 4000000 in
set_option maxRecDepth 100000 in
theorem k_X2_tick_157 {l : Launch} {p : Program} {e : Env} {s : State} {m : MethodId} {below : List Frame} {meth : Method} {c : Code} {args : Array Value} {A : Nat → Prop} {G : Gm} {a : Nat → Nat}  (hF : fx p s m args meth c cX2_tick 7 yX2_tick.cls kX2_tick (some (.int))) {post : Int32 → SM → Prop} {K19 : SM → Int32 → Int32 → Int32 → Prop} {K53 : SM → Int32 → Int32 → Int32 → Int32 → Int32 → Int32 → Prop} (hK19 : ∀ (σ : SM) (v1 : Int32) (v2 : Int32) (v3 : Int32) {H : Heap} {locs : List Loc} {ls : Array Slot}, K19 σ v1 v2 v3 → wb G A s (wM G a σ) H locs → lv_has ls 7 [(0, .ref (a 26)), (1, .int v1), (2, .int v2), (3, .int v3)] → W p l e (rr 5 116) s m args below meth c H locs 0 0 (MQ below (va_Qi post (po G A (wM G a)) A) args s 0 0 A) (F0 m 19 ls [])) (hK53 : ∀ (σ : SM) (v1 : Int32) (v2 : Int32) (v3 : Int32) (v4 : Int32) (v5 : Int32) (v6 : Int32) {H : Heap} {locs : List Loc} {ls : Array Slot}, K53 σ v1 v2 v3 v4 v5 v6 → wb G A s (wM G a σ) H locs → lv_has ls 7 [(0, .ref (a 26)), (1, .int v1), (2, .int v2), (3, .int v3), (4, .int v4), (5, .int v5), (6, .int v6)] → W p l e (rr 5 116) s m args below meth c H locs 0 0 (MQ below (va_Qi post (po G A (wM G a)) A) args s 0 0 A) (F0 m 53 ls [])) (σ : SM) (v1 : Int32) (v2 : Int32) (v3 : Int32) (v4 : Int32) (v5 : Int32) (v6 : Int32) (vs0 : Int32) {H : Heap} {locs : List Loc} {ls : Array Slot} (hw : wb G A s (wM G a σ) H locs) (hl : lv_has ls 7 [(0, .ref (a 26)), (1, .int v1), (2, .int v2), (3, .int v3), (4, .int v4), (5, .int v5), (6, .int v6)]) (hok : wp_X2_tick_157 σ v1 v2 v3 v4 v5 v6 vs0 K19 K53 post) :
    W p l e (rr 5 116) s m args below meth c H locs 0 0 (MQ below (va_Qi post (po G A (wM G a)) A) args s 0 0 A) (F0 m 157 ls [.int vs0, .ref (a 26)]) := by
  unfold wp_X2_tick_157 at hok
  refine rm_put (v := vs0) 17 hF hw (by decide) wf_X2_77 dX2_tick_157 (fun σ1 H locs eσ1 hw => ?_)
  replace hok := hok σ1 eσ1
  obtain ⟨x2, ex2⟩ : ∃ z : Int32, z = v3 + 1 := ⟨_, rfl⟩
  replace hok := hok x2 ex2
  refine lv_iinc (v := x2) (lv' := [(3, .int x2), (0, .ref (a 26)), (1, .int v1), (2, .int v2), (4, .int v4), (5, .int v5), (6, .int v6)]) hF.x hF.b dX2_tick_160 hl (k := 3) rfl (by rw [ex2]; rfl) (by decide) rfl (fun ls hl => ?_)
  refine lv_goto (tgt := 19) hF.x hF.b dX2_tick_163 (by decide) ?_
  exact hK19 σ1 v1 v2 x2 hok hw (lv_sub hl [1, 2, 3, 0] rfl)
def wp_X2_tick_138 (σ : SM) (v1 : Int32) (v2 : Int32) (v3 : Int32) (v4 : Int32) (v5 : Int32) (v6 : Int32) (vs0 : Int32) (vs1 : Int32) (K19 : SM → Int32 → Int32 → Int32 → Prop) (K53 : SM → Int32 → Int32 → Int32 → Int32 → Int32 → Int32 → Prop) (post : Int32 → SM → Prop) : Prop :=
  ∀ x1 : Int32, x1 = vs1 + vs0 → ∀ σ2 : SM, σ2 = (va_up σ.1 18 x1, σ.2) → (¬ v6 = 0 → wp_X2_tick_157 σ2 v1 v2 v3 v4 v5 v6 v6 K19 K53 post) ∧ (v6 = 0 → wp_X2_tick_157 σ2 v1 v2 v3 v4 v5 v6 (σ2.1 17) K19 K53 post)
set_option maxHeartbeats 4000000 in
set_option maxRecDepth 100000 in
theorem k_X2_tick_138 {l : Launch} {p : Program} {e : Env} {s : State} {m : MethodId} {below : List Frame} {meth : Method} {c : Code} {args : Array Value} {A : Nat → Prop} {G : Gm} {a : Nat → Nat}  (hF : fx p s m args meth c cX2_tick 7 yX2_tick.cls kX2_tick (some (.int))) {post : Int32 → SM → Prop} {K19 : SM → Int32 → Int32 → Int32 → Prop} {K53 : SM → Int32 → Int32 → Int32 → Int32 → Int32 → Int32 → Prop} (hK19 : ∀ (σ : SM) (v1 : Int32) (v2 : Int32) (v3 : Int32) {H : Heap} {locs : List Loc} {ls : Array Slot}, K19 σ v1 v2 v3 → wb G A s (wM G a σ) H locs → lv_has ls 7 [(0, .ref (a 26)), (1, .int v1), (2, .int v2), (3, .int v3)] → W p l e (rr 5 116) s m args below meth c H locs 0 0 (MQ below (va_Qi post (po G A (wM G a)) A) args s 0 0 A) (F0 m 19 ls [])) (hK53 : ∀ (σ : SM) (v1 : Int32) (v2 : Int32) (v3 : Int32) (v4 : Int32) (v5 : Int32) (v6 : Int32) {H : Heap} {locs : List Loc} {ls : Array Slot}, K53 σ v1 v2 v3 v4 v5 v6 → wb G A s (wM G a σ) H locs → lv_has ls 7 [(0, .ref (a 26)), (1, .int v1), (2, .int v2), (3, .int v3), (4, .int v4), (5, .int v5), (6, .int v6)] → W p l e (rr 5 116) s m args below meth c H locs 0 0 (MQ below (va_Qi post (po G A (wM G a)) A) args s 0 0 A) (F0 m 53 ls [])) (σ : SM) (v1 : Int32) (v2 : Int32) (v3 : Int32) (v4 : Int32) (v5 : Int32) (v6 : Int32) (vs0 : Int32) (vs1 : Int32) {H : Heap} {locs : List Loc} {ls : Array Slot} (hw : wb G A s (wM G a σ) H locs) (hl : lv_has ls 7 [(0, .ref (a 26)), (1, .int v1), (2, .int v2), (3, .int v3), (4, .int v4), (5, .int v5), (6, .int v6)]) (hok : wp_X2_tick_138 σ v1 v2 v3 v4 v5 v6 vs0 vs1 K19 K53 post) :
    W p l e (rr 5 116) s m args below meth c H locs 0 0 (MQ below (va_Qi post (po G A (wM G a)) A) args s 0 0 A) (F0 m 138 ls [.int vs0, .int vs1, .ref (a 26)]) := by
  unfold wp_X2_tick_138 at hok
  refine lv_iadd hF.x hF.b dX2_tick_138 ?_
  refine lv_topi (fun x1 ex1 => ?_)
  replace hok := hok x1 ex1
  refine rm_put (v := x1) 18 hF hw (by decide) wf_X2_80 dX2_tick_139 (fun σ2 H locs eσ2 hw => ?_)
  replace hok := hok σ2 eσ2
  refine lv_aload_n hF.x hF.b dX2_tick_142 rfl (lv_at hl 0 rfl) ?_
  refine lv_iload hF.x hF.b dX2_tick_143 (lv_at hl 6 rfl) ?_
  refine lv_if_ne (tgt := 155) hF.x hF.b dX2_tick_145 (by decide) (fun c3 => ?_) (fun c3 => ?_)
  · replace hok := hok.1 c3
    refine lv_iload hF.x hF.b dX2_tick_155 (lv_at hl 6 rfl) ?_
    exact k_X2_tick_157  hF hK19 hK53 σ2 v1 v2 v3 v4 v5 v6 v6 hw (lv_sub hl [0, 1, 2, 3, 4, 5, 6] rfl) hok
  · replace hok := hok.2 c3
    refine lv_aload_n hF.x hF.b dX2_tick_148 rfl (lv_at hl 0 rfl) ?_
    refine r_get hF hw 0 rfl rfl inlX2 17 (by decide) wf_X2_77 rfl dX2_tick_149 ?_
    refine lv_goto (tgt := 157) hF.x hF.b dX2_tick_152 (by decide) ?_
    exact k_X2_tick_157  hF hK19 hK53 σ2 v1 v2 v3 v4 v5 v6 (σ2.1 17) hw (lv_sub hl [0, 1, 2, 3, 4, 5, 6] rfl) hok
def wp_X2_tick_121 (σ : SM) (v1 : Int32) (v2 : Int32) (v3 : Int32) (v4 : Int32) (v5 : Int32) (v6 : Int32) (vs0 : Int32) (vs1 : Int32) (K19 : SM → Int32 → Int32 → Int32 → Prop) (K53 : SM → Int32 → Int32 → Int32 → Int32 → Int32 → Int32 → Prop) (post : Int32 → SM → Prop) : Prop :=
  ∀ x1 : Int32, x1 = vs1 + vs0 → (¬ v6 = 0 → wp_X2_tick_138 σ v1 x1 v3 v4 v5 v6 1 (σ.1 18) K19 K53 post) ∧ (v6 = 0 → wp_X2_tick_138 σ v1 x1 v3 v4 v5 v6 0 (σ.1 18) K19 K53 post)
set_option maxHeartbeats 4000000 in
set_option maxRecDepth 100000 in
theorem k_X2_tick_121 {l : Launch} {p : Program} {e : Env} {s : State} {m : MethodId} {below : List Frame} {meth : Method} {c : Code} {args : Array Value} {A : Nat → Prop} {G : Gm} {a : Nat → Nat}  (hF : fx p s m args meth c cX2_tick 7 yX2_tick.cls kX2_tick (some (.int))) {post : Int32 → SM → Prop} {K19 : SM → Int32 → Int32 → Int32 → Prop} {K53 : SM → Int32 → Int32 → Int32 → Int32 → Int32 → Int32 → Prop} (hK19 : ∀ (σ : SM) (v1 : Int32) (v2 : Int32) (v3 : Int32) {H : Heap} {locs : List Loc} {ls : Array Slot}, K19 σ v1 v2 v3 → wb G A s (wM G a σ) H locs → lv_has ls 7 [(0, .ref (a 26)), (1, .int v1), (2, .int v2), (3, .int v3)] → W p l e (rr 5 116) s m args below meth c H locs 0 0 (MQ below (va_Qi post (po G A (wM G a)) A) args s 0 0 A) (F0 m 19 ls [])) (hK53 : ∀ (σ : SM) (v1 : Int32) (v2 : Int32) (v3 : Int32) (v4 : Int32) (v5 : Int32) (v6 : Int32) {H : Heap} {locs : List Loc} {ls : Array Slot}, K53 σ v1 v2 v3 v4 v5 v6 → wb G A s (wM G a σ) H locs → lv_has ls 7 [(0, .ref (a 26)), (1, .int v1), (2, .int v2), (3, .int v3), (4, .int v4), (5, .int v5), (6, .int v6)] → W p l e (rr 5 116) s m args below meth c H locs 0 0 (MQ below (va_Qi post (po G A (wM G a)) A) args s 0 0 A) (F0 m 53 ls [])) (σ : SM) (v1 : Int32) (v2 : Int32) (v3 : Int32) (v4 : Int32) (v5 : Int32) (v6 : Int32) (vs0 : Int32) (vs1 : Int32) {H : Heap} {locs : List Loc} {ls : Array Slot} (hw : wb G A s (wM G a σ) H locs) (hl : lv_has ls 7 [(0, .ref (a 26)), (1, .int v1), (2, .int v2), (3, .int v3), (4, .int v4), (5, .int v5), (6, .int v6)]) (hok : wp_X2_tick_121 σ v1 v2 v3 v4 v5 v6 vs0 vs1 K19 K53 post) :
    W p l e (rr 5 116) s m args below meth c H locs 0 0 (MQ below (va_Qi post (po G A (wM G a)) A) args s 0 0 A) (F0 m 121 ls [.int vs0, .int vs1]) := by
  unfold wp_X2_tick_121 at hok
  refine lv_iadd hF.x hF.b dX2_tick_121 ?_
  refine lv_topi (fun x1 ex1 => ?_)
  replace hok := hok x1 ex1
  refine lv_istore_n (lv' := [(2, .int x1), (0, .ref (a 26)), (1, .int v1), (3, .int v3), (4, .int v4), (5, .int v5), (6, .int v6)]) hF.x hF.b dX2_tick_122 rfl hl (by decide) rfl (fun ls hl => ?_)
  refine lv_aload_n hF.x hF.b dX2_tick_123 rfl (lv_at hl 1 rfl) ?_
  refine lv_dup hF.x hF.b dX2_tick_124 rfl ?_
  refine r_get hF hw 0 rfl rfl inlX2 18 (by decide) wf_X2_80 rfl dX2_tick_125 ?_
  refine lv_iload hF.x hF.b dX2_tick_128 (lv_at hl 6 rfl) ?_
  refine lv_if_ne (tgt := 137) hF.x hF.b dX2_tick_130 (by decide) (fun c2 => ?_) (fun c2 => ?_)
  · replace hok := hok.1 c2
    refine lv_iconst (v := 1) hF.x hF.b dX2_tick_137 (by decide) ?_
    exact k_X2_tick_138  hF hK19 hK53 σ v1 x1 v3 v4 v5 v6 1 (σ.1 18) hw (lv_sub hl [1, 2, 0, 3, 4, 5, 6] rfl) hok
  · replace hok := hok.2 c2
    refine lv_iconst (v := 0) hF.x hF.b dX2_tick_133 (by decide) ?_
    refine lv_goto (tgt := 138) hF.x hF.b dX2_tick_134 (by decide) ?_
    exact k_X2_tick_138  hF hK19 hK53 σ v1 x1 v3 v4 v5 v6 0 (σ.1 18) hw (lv_sub hl [1, 2, 0, 3, 4, 5, 6] rfl) hok
def wp_X2_tick_53 (σ : SM) (v1 : Int32) (v2 : Int32) (v3 : Int32) (v4 : Int32) (v5 : Int32) (v6 : Int32) (K19 : SM → Int32 → Int32 → Int32 → Prop) (K53 : SM → Int32 → Int32 → Int32 → Int32 → Int32 → Int32 → Prop) (post : Int32 → SM → Prop) : Prop :=
  ((σ.1 13) ≤ v6 → wpL_X2_doing σ v4 v5 (fun (r3 : Int32) (σ2 : SM) => (¬ r3 = 0 → wp_X2_tick_121 σ2 v1 v2 v3 v4 v5 r3 0 v2 K19 K53 post) ∧ (r3 = 0 → wp_X2_tick_121 σ2 v1 v2 v3 v4 v5 r3 1 v2 K19 K53 post))) ∧ (¬ (σ.1 13) ≤ v6 → ∀ x5 : Int32, x5 = v6 + 1 → vp_in x5 12 ∧ ∀ x6 : Int32, x6 = σ.2 14 x5.toNatClampNeg → vp_in v6 12 ∧ ∀ σ7 : SM, σ7 = (σ.1, va_up σ.2 14 (upd (σ.2 14) v6.toNatClampNeg x6)) → ∀ x8 : Int32, x8 = v6 + 1 → vp_in x8 12 ∧ ∀ x9 : Int32, x9 = σ7.2 15 x8.toNatClampNeg → vp_in v6 12 ∧ ∀ σ10 : SM, σ10 = (σ7.1, va_up σ7.2 15 (upd (σ7.2 15) v6.toNatClampNeg x9)) → ∀ x11 : Int32, x11 = v6 + 1 → K53 σ10 v1 v2 v3 v4 v5 x11)
set_option maxHeartbeats 4000000 in
set_option maxRecDepth 100000 in
theorem k_X2_tick_53 {l : Launch} {p : Program} {e : Env} {s : State} {m : MethodId} {below : List Frame} {meth : Method} {c : Code} {args : Array Value} {A : Nat → Prop} {G : Gm} {a : Nat → Nat}  (hF : fx p s m args meth c cX2_tick 7 yX2_tick.cls kX2_tick (some (.int))) {post : Int32 → SM → Prop} {K19 : SM → Int32 → Int32 → Int32 → Prop} {K53 : SM → Int32 → Int32 → Int32 → Int32 → Int32 → Int32 → Prop} (hK19 : ∀ (σ : SM) (v1 : Int32) (v2 : Int32) (v3 : Int32) {H : Heap} {locs : List Loc} {ls : Array Slot}, K19 σ v1 v2 v3 → wb G A s (wM G a σ) H locs → lv_has ls 7 [(0, .ref (a 26)), (1, .int v1), (2, .int v2), (3, .int v3)] → W p l e (rr 5 116) s m args below meth c H locs 0 0 (MQ below (va_Qi post (po G A (wM G a)) A) args s 0 0 A) (F0 m 19 ls [])) (hK53 : ∀ (σ : SM) (v1 : Int32) (v2 : Int32) (v3 : Int32) (v4 : Int32) (v5 : Int32) (v6 : Int32) {H : Heap} {locs : List Loc} {ls : Array Slot}, K53 σ v1 v2 v3 v4 v5 v6 → wb G A s (wM G a σ) H locs → lv_has ls 7 [(0, .ref (a 26)), (1, .int v1), (2, .int v2), (3, .int v3), (4, .int v4), (5, .int v5), (6, .int v6)] → W p l e (rr 5 116) s m args below meth c H locs 0 0 (MQ below (va_Qi post (po G A (wM G a)) A) args s 0 0 A) (F0 m 53 ls [])) (σ : SM) (v1 : Int32) (v2 : Int32) (v3 : Int32) (v4 : Int32) (v5 : Int32) (v6 : Int32) {H : Heap} {locs : List Loc} {ls : Array Slot} (hw : wb G A s (wM G a σ) H locs) (hl : lv_has ls 7 [(0, .ref (a 26)), (1, .int v1), (2, .int v2), (3, .int v3), (4, .int v4), (5, .int v5), (6, .int v6)]) (hok : wp_X2_tick_53 σ v1 v2 v3 v4 v5 v6 K19 K53 post) :
    W p l e (rr 5 116) s m args below meth c H locs 0 0 (MQ below (va_Qi post (po G A (wM G a)) A) args s 0 0 A) (F0 m 53 ls []) := by
  unfold wp_X2_tick_53 at hok
  refine lv_iload hF.x hF.b dX2_tick_53 (lv_at hl 6 rfl) ?_
  refine lv_aload_n hF.x hF.b dX2_tick_55 rfl (lv_at hl 0 rfl) ?_
  refine r_get hF hw 0 rfl rfl inlX2 13 (by decide) wf_X2_71 rfl dX2_tick_56 ?_
  refine lv_icmp_ge (tgt := 100) hF.x hF.b dX2_tick_59 (by decide) (fun c1 => ?_) (fun c1 => ?_)
  · replace hok := hok.1 c1
    refine lv_aload_n hF.x hF.b dX2_tick_100 rfl (lv_at hl 0 rfl) ?_
    refine lv_iload hF.x hF.b dX2_tick_101 (lv_at hl 4 rfl) ?_
    refine lv_iload hF.x hF.b dX2_tick_103 (lv_at hl 5 rfl) ?_
    refine ca_I hF hw (c2_doing l G a σ v4 v5 hok) wv_X2_141 (q0 := 0) rfl rfl rfl ⟨nd_X2.1, nd_X2.2, pd_X2_doing⟩ ⟨Nat.le_of_ble_eq_true rfl, Nat.le_of_ble_eq_true rfl⟩ ⟨Nat.zero_le _, Nat.zero_le _⟩ hl.1 rfl (Nat.le_of_ble_eq_true rfl) dX2_tick_105 (fun r3 σ2 H locs hp hw => ?_)
    replace hok := hp
    refine lv_istore (lv' := [(6, .int r3), (0, .ref (a 26)), (1, .int v1), (2, .int v2), (3, .int v3), (4, .int v4), (5, .int v5)]) hF.x hF.b dX2_tick_108 hl (by decide) rfl (fun ls hl => ?_)
    refine lv_iload_n hF.x hF.b dX2_tick_110 rfl (lv_at hl 3 rfl) ?_
    refine lv_iload hF.x hF.b dX2_tick_111 (lv_at hl 0 rfl) ?_
    refine lv_if_ne (tgt := 120) hF.x hF.b dX2_tick_113 (by decide) (fun c4 => ?_) (fun c4 => ?_)
    · replace hok := hok.1 c4
      refine lv_iconst (v := 0) hF.x hF.b dX2_tick_120 (by decide) ?_
      exact k_X2_tick_121  hF hK19 hK53 σ2 v1 v2 v3 v4 v5 r3 0 v2 hw (lv_sub hl [1, 2, 3, 4, 5, 6, 0] rfl) hok
    · replace hok := hok.2 c4
      refine lv_iconst (v := 1) hF.x hF.b dX2_tick_116 (by decide) ?_
      refine lv_goto (tgt := 121) hF.x hF.b dX2_tick_117 (by decide) ?_
      exact k_X2_tick_121  hF hK19 hK53 σ2 v1 v2 v3 v4 v5 r3 1 v2 hw (lv_sub hl [1, 2, 3, 4, 5, 6, 0] rfl) hok
  · replace hok := hok.2 c1
    refine lv_aload_n hF.x hF.b dX2_tick_62 rfl (lv_at hl 0 rfl) ?_
    refine r_get hF hw 0 rfl rfl inlX2 14 (by decide) wf_X2_43 rfl dX2_tick_63 ?_
    refine lv_iload hF.x hF.b dX2_tick_66 (lv_at hl 6 rfl) ?_
    refine lv_aload_n hF.x hF.b dX2_tick_68 rfl (lv_at hl 0 rfl) ?_
    refine r_get hF hw 0 rfl rfl inlX2 14 (by decide) wf_X2_43 rfl dX2_tick_69 ?_
    refine lv_iload hF.x hF.b dX2_tick_72 (lv_at hl 6 rfl) ?_
    refine lv_iconst (v := 1) hF.x hF.b dX2_tick_74 (by decide) ?_
    refine lv_iadd hF.x hF.b dX2_tick_75 ?_
    refine lv_topi (fun x5 ex5 => ?_)
    replace hok := hok x5 ex5
    refine rm_ald 14 12 12 hF hw (by decide) hok.1 dX2_tick_76 ?_
    refine lv_topi (fun x6 ex6 => ?_)
    replace hok := hok.2 x6 ex6
    refine rm_ast 14 12 12 hF hw (by decide) hok.1 dX2_tick_77 (fun σ7 H locs eσ7 hw => ?_)
    replace hok := hok.2 σ7 eσ7
    refine lv_aload_n hF.x hF.b dX2_tick_78 rfl (lv_at hl 0 rfl) ?_
    refine r_get hF hw 0 rfl rfl inlX2 15 (by decide) wf_X2_46 rfl dX2_tick_79 ?_
    refine lv_iload hF.x hF.b dX2_tick_82 (lv_at hl 6 rfl) ?_
    refine lv_aload_n hF.x hF.b dX2_tick_84 rfl (lv_at hl 0 rfl) ?_
    refine r_get hF hw 0 rfl rfl inlX2 15 (by decide) wf_X2_46 rfl dX2_tick_85 ?_
    refine lv_iload hF.x hF.b dX2_tick_88 (lv_at hl 6 rfl) ?_
    refine lv_iconst (v := 1) hF.x hF.b dX2_tick_90 (by decide) ?_
    refine lv_iadd hF.x hF.b dX2_tick_91 ?_
    refine lv_topi (fun x8 ex8 => ?_)
    replace hok := hok x8 ex8
    refine rm_ald 15 12 13 hF hw (by decide) hok.1 dX2_tick_92 ?_
    refine lv_topi (fun x9 ex9 => ?_)
    replace hok := hok.2 x9 ex9
    refine rm_ast 15 12 13 hF hw (by decide) hok.1 dX2_tick_93 (fun σ10 H locs eσ10 hw => ?_)
    replace hok := hok.2 σ10 eσ10
    obtain ⟨x11, ex11⟩ : ∃ z : Int32, z = v6 + 1 := ⟨_, rfl⟩
    replace hok := hok x11 ex11
    refine lv_iinc (v := x11) (lv' := [(6, .int x11), (0, .ref (a 26)), (1, .int v1), (2, .int v2), (3, .int v3), (4, .int v4), (5, .int v5)]) hF.x hF.b dX2_tick_94 hl (k := 6) rfl (by rw [ex11]; rfl) (by decide) rfl (fun ls hl => ?_)
    refine lv_goto (tgt := 53) hF.x hF.b dX2_tick_97 (by decide) ?_
    exact hK53 σ10 v1 v2 v3 v4 v5 x11 hok hw (lv_sub hl [1, 2, 3, 4, 5, 6, 0] rfl)
def wp_X2_tick_19 (σ : SM) (v1 : Int32) (v2 : Int32) (v3 : Int32) (K19 : SM → Int32 → Int32 → Int32 → Prop) (K53 : SM → Int32 → Int32 → Int32 → Int32 → Int32 → Int32 → Prop) (post : Int32 → SM → Prop) : Prop :=
  (v1 ≤ v3 → post v2 σ) ∧ (¬ v1 ≤ v3 → vp_in 0 12 ∧ ∀ x2 : Int32, x2 = σ.2 14 (0 : Int32).toNatClampNeg → vp_in 0 12 ∧ ∀ x3 : Int32, x3 = σ.2 15 (0 : Int32).toNatClampNeg → ∀ x4 : Int32, x4 = (σ.1 13) - 1 → ∀ σ5 : SM, σ5 = (va_up σ.1 13 x4, σ.2) → K53 σ5 v1 v2 v3 x2 x3 0)
set_option maxHeartbeats 4000000 in
set_option maxRecDepth 100000 in
theorem k_X2_tick_19 {l : Launch} {p : Program} {e : Env} {s : State} {m : MethodId} {below : List Frame} {meth : Method} {c : Code} {args : Array Value} {A : Nat → Prop} {G : Gm} {a : Nat → Nat}  (hF : fx p s m args meth c cX2_tick 7 yX2_tick.cls kX2_tick (some (.int))) {post : Int32 → SM → Prop} {K19 : SM → Int32 → Int32 → Int32 → Prop} {K53 : SM → Int32 → Int32 → Int32 → Int32 → Int32 → Int32 → Prop} (hK19 : ∀ (σ : SM) (v1 : Int32) (v2 : Int32) (v3 : Int32) {H : Heap} {locs : List Loc} {ls : Array Slot}, K19 σ v1 v2 v3 → wb G A s (wM G a σ) H locs → lv_has ls 7 [(0, .ref (a 26)), (1, .int v1), (2, .int v2), (3, .int v3)] → W p l e (rr 5 116) s m args below meth c H locs 0 0 (MQ below (va_Qi post (po G A (wM G a)) A) args s 0 0 A) (F0 m 19 ls [])) (hK53 : ∀ (σ : SM) (v1 : Int32) (v2 : Int32) (v3 : Int32) (v4 : Int32) (v5 : Int32) (v6 : Int32) {H : Heap} {locs : List Loc} {ls : Array Slot}, K53 σ v1 v2 v3 v4 v5 v6 → wb G A s (wM G a σ) H locs → lv_has ls 7 [(0, .ref (a 26)), (1, .int v1), (2, .int v2), (3, .int v3), (4, .int v4), (5, .int v5), (6, .int v6)] → W p l e (rr 5 116) s m args below meth c H locs 0 0 (MQ below (va_Qi post (po G A (wM G a)) A) args s 0 0 A) (F0 m 53 ls [])) (σ : SM) (v1 : Int32) (v2 : Int32) (v3 : Int32) {H : Heap} {locs : List Loc} {ls : Array Slot} (hw : wb G A s (wM G a σ) H locs) (hl : lv_has ls 7 [(0, .ref (a 26)), (1, .int v1), (2, .int v2), (3, .int v3)]) (hok : wp_X2_tick_19 σ v1 v2 v3 K19 K53 post) :
    W p l e (rr 5 116) s m args below meth c H locs 0 0 (MQ below (va_Qi post (po G A (wM G a)) A) args s 0 0 A) (F0 m 19 ls []) := by
  unfold wp_X2_tick_19 at hok
  refine lv_iload_n hF.x hF.b dX2_tick_19 rfl (lv_at hl 3 rfl) ?_
  refine lv_iload_n hF.x hF.b dX2_tick_20 rfl (lv_at hl 1 rfl) ?_
  refine lv_icmp_ge (tgt := 166) hF.x hF.b dX2_tick_21 (by decide) (fun c1 => ?_) (fun c1 => ?_)
  · replace hok := hok.1 c1
    refine lv_iload_n hF.x hF.b dX2_tick_166 rfl (lv_at hl 2 rfl) ?_
    exact rt_I (u := σ) hF hw hok (Nat.zero_le _) (Nat.zero_le _) dX2_tick_167
  · replace hok := hok.2 c1
    refine lv_aload_n hF.x hF.b dX2_tick_24 rfl (lv_at hl 0 rfl) ?_
    refine r_get hF hw 0 rfl rfl inlX2 14 (by decide) wf_X2_43 rfl dX2_tick_25 ?_
    refine lv_iconst (v := 0) hF.x hF.b dX2_tick_28 (by decide) ?_
    refine rm_ald 14 12 12 hF hw (by decide) hok.1 dX2_tick_29 ?_
    refine lv_topi (fun x2 ex2 => ?_)
    replace hok := hok.2 x2 ex2
    refine lv_istore (lv' := [(4, .int x2), (0, .ref (a 26)), (1, .int v1), (2, .int v2), (3, .int v3)]) hF.x hF.b dX2_tick_30 hl (by decide) rfl (fun ls hl => ?_)
    refine lv_aload_n hF.x hF.b dX2_tick_32 rfl (lv_at hl 1 rfl) ?_
    refine r_get hF hw 0 rfl rfl inlX2 15 (by decide) wf_X2_46 rfl dX2_tick_33 ?_
    refine lv_iconst (v := 0) hF.x hF.b dX2_tick_36 (by decide) ?_
    refine rm_ald 15 12 13 hF hw (by decide) hok.1 dX2_tick_37 ?_
    refine lv_topi (fun x3 ex3 => ?_)
    replace hok := hok.2 x3 ex3
    refine lv_istore (lv' := [(5, .int x3), (4, .int x2), (0, .ref (a 26)), (1, .int v1), (2, .int v2), (3, .int v3)]) hF.x hF.b dX2_tick_38 hl (by decide) rfl (fun ls hl => ?_)
    refine lv_aload_n hF.x hF.b dX2_tick_40 rfl (lv_at hl 2 rfl) ?_
    refine lv_dup hF.x hF.b dX2_tick_41 rfl ?_
    refine r_get hF hw 0 rfl rfl inlX2 13 (by decide) wf_X2_71 rfl dX2_tick_42 ?_
    refine lv_iconst (v := 1) hF.x hF.b dX2_tick_45 (by decide) ?_
    refine lv_isub hF.x hF.b dX2_tick_46 ?_
    refine lv_topi (fun x4 ex4 => ?_)
    replace hok := hok x4 ex4
    refine rm_put (v := x4) 13 hF hw (by decide) wf_X2_71 dX2_tick_47 (fun σ5 H locs eσ5 hw => ?_)
    replace hok := hok σ5 eσ5
    refine lv_iconst (v := 0) hF.x hF.b dX2_tick_50 (by decide) ?_
    refine lv_istore (lv' := [(6, .int 0), (5, .int x3), (4, .int x2), (0, .ref (a 26)), (1, .int v1), (2, .int v2), (3, .int v3)]) hF.x hF.b dX2_tick_51 hl (by decide) rfl (fun ls hl => ?_)
    exact hK53 σ5 v1 v2 v3 x2 x3 0 hok hw (lv_sub hl [3, 4, 5, 6, 2, 1, 0] rfl)
def wp_X2_tick_0 (σ : SM)  (K19 : SM → Int32 → Int32 → Int32 → Prop) (K53 : SM → Int32 → Int32 → Int32 → Int32 → Int32 → Int32 → Prop) (post : Int32 → SM → Prop) : Prop :=
  ∀ σ1 : SM, σ1 = (va_up σ.1 16 0, σ.2) → ∀ σ2 : SM, σ2 = (va_up σ1.1 17 0, σ1.2) → K19 σ2 (σ2.1 13) 0 0
set_option maxHeartbeats 4000000 in
set_option maxRecDepth 100000 in
theorem k_X2_tick_0 {l : Launch} {p : Program} {e : Env} {s : State} {m : MethodId} {below : List Frame} {meth : Method} {c : Code} {args : Array Value} {A : Nat → Prop} {G : Gm} {a : Nat → Nat}  (hF : fx p s m args meth c cX2_tick 7 yX2_tick.cls kX2_tick (some (.int))) {post : Int32 → SM → Prop} {K19 : SM → Int32 → Int32 → Int32 → Prop} {K53 : SM → Int32 → Int32 → Int32 → Int32 → Int32 → Int32 → Prop} (hK19 : ∀ (σ : SM) (v1 : Int32) (v2 : Int32) (v3 : Int32) {H : Heap} {locs : List Loc} {ls : Array Slot}, K19 σ v1 v2 v3 → wb G A s (wM G a σ) H locs → lv_has ls 7 [(0, .ref (a 26)), (1, .int v1), (2, .int v2), (3, .int v3)] → W p l e (rr 5 116) s m args below meth c H locs 0 0 (MQ below (va_Qi post (po G A (wM G a)) A) args s 0 0 A) (F0 m 19 ls [])) (hK53 : ∀ (σ : SM) (v1 : Int32) (v2 : Int32) (v3 : Int32) (v4 : Int32) (v5 : Int32) (v6 : Int32) {H : Heap} {locs : List Loc} {ls : Array Slot}, K53 σ v1 v2 v3 v4 v5 v6 → wb G A s (wM G a σ) H locs → lv_has ls 7 [(0, .ref (a 26)), (1, .int v1), (2, .int v2), (3, .int v3), (4, .int v4), (5, .int v5), (6, .int v6)] → W p l e (rr 5 116) s m args below meth c H locs 0 0 (MQ below (va_Qi post (po G A (wM G a)) A) args s 0 0 A) (F0 m 53 ls [])) (σ : SM)  {H : Heap} {locs : List Loc} {ls : Array Slot} (hw : wb G A s (wM G a σ) H locs) (hl : lv_has ls 7 [(0, .ref (a 26))]) (hok : wp_X2_tick_0 σ  K19 K53 post) :
    W p l e (rr 5 116) s m args below meth c H locs 0 0 (MQ below (va_Qi post (po G A (wM G a)) A) args s 0 0 A) (F0 m 0 ls []) := by
  unfold wp_X2_tick_0 at hok
  refine lv_aload_n hF.x hF.b dX2_tick_0 rfl (lv_at hl 0 rfl) ?_
  refine lv_iconst (v := 0) hF.x hF.b dX2_tick_1 (by decide) ?_
  refine rm_put (v := 0) 16 hF hw (by decide) wf_X2_74 dX2_tick_2 (fun σ1 H locs eσ1 hw => ?_)
  replace hok := hok σ1 eσ1
  refine lv_aload_n hF.x hF.b dX2_tick_5 rfl (lv_at hl 0 rfl) ?_
  refine lv_iconst (v := 0) hF.x hF.b dX2_tick_6 (by decide) ?_
  refine rm_put (v := 0) 17 hF hw (by decide) wf_X2_77 dX2_tick_7 (fun σ2 H locs eσ2 hw => ?_)
  replace hok := hok σ2 eσ2
  refine lv_aload_n hF.x hF.b dX2_tick_10 rfl (lv_at hl 0 rfl) ?_
  refine r_get hF hw 0 rfl rfl inlX2 13 (by decide) wf_X2_71 rfl dX2_tick_11 ?_
  refine lv_istore_n (lv' := [(1, .int (σ2.1 13)), (0, .ref (a 26))]) hF.x hF.b dX2_tick_14 rfl hl (by decide) rfl (fun ls hl => ?_)
  refine lv_iconst (v := 0) hF.x hF.b dX2_tick_15 (by decide) ?_
  refine lv_istore_n (lv' := [(2, .int 0), (1, .int (σ2.1 13)), (0, .ref (a 26))]) hF.x hF.b dX2_tick_16 rfl hl (by decide) rfl (fun ls hl => ?_)
  refine lv_iconst (v := 0) hF.x hF.b dX2_tick_17 (by decide) ?_
  refine lv_istore_n (lv' := [(3, .int 0), (2, .int 0), (1, .int (σ2.1 13)), (0, .ref (a 26))]) hF.x hF.b dX2_tick_18 rfl hl (by decide) rfl (fun ls hl => ?_)
  exact hK19 σ2 (σ2.1 13) 0 0 hok hw (lv_sub hl [3, 2, 1, 0] rfl)

def rn_X2_tick_53 (K19 : SM → Int32 → Int32 → Int32 → Prop) : Nat → SM → Int32 → Int32 → Int32 → Int32 → Int32 → Int32 → (Int32 → SM → Prop) → Prop
  | 0, σ, v1, v2, v3, v4, v5, v6, post => wp_X2_tick_53 σ v1 v2 v3 v4 v5 v6 K19 (fun (σq : SM) (v1' : Int32) (v2' : Int32) (v3' : Int32) (v4' : Int32) (v5' : Int32) (v6' : Int32) => False) post
  | n + 1, σ, v1, v2, v3, v4, v5, v6, post => wp_X2_tick_53 σ v1 v2 v3 v4 v5 v6 K19 (fun (σq : SM) (v1' : Int32) (v2' : Int32) (v3' : Int32) (v4' : Int32) (v5' : Int32) (v6' : Int32) => rn_X2_tick_53 K19 n σq v1' v2' v3' v4' v5' v6' post) post
theorem ln_X2_tick_53 {l : Launch} {p : Program} {e : Env} {s : State} {m : MethodId} {below : List Frame} {meth : Method} {c : Code} {args : Array Value} {A : Nat → Prop} {G : Gm} {a : Nat → Nat}  (hF : fx p s m args meth c cX2_tick 7 yX2_tick.cls kX2_tick (some (.int))) {post : Int32 → SM → Prop} {K19 : SM → Int32 → Int32 → Int32 → Prop} (hK19 : ∀ (σ : SM) (v1 : Int32) (v2 : Int32) (v3 : Int32) {H : Heap} {locs : List Loc} {ls : Array Slot}, K19 σ v1 v2 v3 → wb G A s (wM G a σ) H locs → lv_has ls 7 [(0, .ref (a 26)), (1, .int v1), (2, .int v2), (3, .int v3)] → W p l e (rr 5 116) s m args below meth c H locs 0 0 (MQ below (va_Qi post (po G A (wM G a)) A) args s 0 0 A) (F0 m 19 ls [])) :
    ∀ (n : Nat) (σ : SM) (v1 : Int32) (v2 : Int32) (v3 : Int32) (v4 : Int32) (v5 : Int32) (v6 : Int32) {H : Heap} {locs : List Loc} {ls : Array Slot}, rn_X2_tick_53 K19 n σ v1 v2 v3 v4 v5 v6 post → wb G A s (wM G a σ) H locs → lv_has ls 7 [(0, .ref (a 26)), (1, .int v1), (2, .int v2), (3, .int v3), (4, .int v4), (5, .int v5), (6, .int v6)] → W p l e (rr 5 116) s m args below meth c H locs 0 0 (MQ below (va_Qi post (po G A (wM G a)) A) args s 0 0 A) (F0 m 53 ls []) := by
  intro n
  induction n with
  | zero =>
    intro σ v1 v2 v3 v4 v5 v6 H locs ls hr hw hl
    exact k_X2_tick_53 hF hK19 (by intro σq v1' v2' v3' v4' v5' v6' H locs ls hI hw hl; exact hI.elim) σ v1 v2 v3 v4 v5 v6 hw hl hr
  | succ n ih =>
    intro σ v1 v2 v3 v4 v5 v6 H locs ls hr hw hl
    exact k_X2_tick_53 hF hK19 (by intro σq v1' v2' v3' v4' v5' v6' H locs ls hI hw hl; exact ih σq v1' v2' v3' v4' v5' v6' hI hw hl) σ v1 v2 v3 v4 v5 v6 hw hl hr
def rn_X2_tick_19  : Nat → SM → Int32 → Int32 → Int32 → (Int32 → SM → Prop) → Prop
  | 0, σ, v1, v2, v3, post => wp_X2_tick_19 σ v1 v2 v3 (fun (σq : SM) (v1' : Int32) (v2' : Int32) (v3' : Int32) => False) (fun (σq : SM) (v1' : Int32) (v2' : Int32) (v3' : Int32) (v4' : Int32) (v5' : Int32) (v6' : Int32) => ∃ nq, rn_X2_tick_53 (fun (σq : SM) (v1' : Int32) (v2' : Int32) (v3' : Int32) => False) nq σq v1' v2' v3' v4' v5' v6' post) post
  | n + 1, σ, v1, v2, v3, post => wp_X2_tick_19 σ v1 v2 v3 (fun (σq : SM) (v1' : Int32) (v2' : Int32) (v3' : Int32) => rn_X2_tick_19  n σq v1' v2' v3' post) (fun (σq : SM) (v1' : Int32) (v2' : Int32) (v3' : Int32) (v4' : Int32) (v5' : Int32) (v6' : Int32) => ∃ nq, rn_X2_tick_53 (fun (σq : SM) (v1' : Int32) (v2' : Int32) (v3' : Int32) => rn_X2_tick_19  n σq v1' v2' v3' post) nq σq v1' v2' v3' v4' v5' v6' post) post
theorem ln_X2_tick_19 {l : Launch} {p : Program} {e : Env} {s : State} {m : MethodId} {below : List Frame} {meth : Method} {c : Code} {args : Array Value} {A : Nat → Prop} {G : Gm} {a : Nat → Nat}  (hF : fx p s m args meth c cX2_tick 7 yX2_tick.cls kX2_tick (some (.int))) {post : Int32 → SM → Prop}  :
    ∀ (n : Nat) (σ : SM) (v1 : Int32) (v2 : Int32) (v3 : Int32) {H : Heap} {locs : List Loc} {ls : Array Slot}, rn_X2_tick_19  n σ v1 v2 v3 post → wb G A s (wM G a σ) H locs → lv_has ls 7 [(0, .ref (a 26)), (1, .int v1), (2, .int v2), (3, .int v3)] → W p l e (rr 5 116) s m args below meth c H locs 0 0 (MQ below (va_Qi post (po G A (wM G a)) A) args s 0 0 A) (F0 m 19 ls []) := by
  intro n
  induction n with
  | zero =>
    intro σ v1 v2 v3 H locs ls hr hw hl
    exact k_X2_tick_19 hF (by intro σq v1' v2' v3' H locs ls hI hw hl; exact hI.elim) (by intro σq v1' v2' v3' v4' v5' v6' H locs ls hI hw hl; exact ln_X2_tick_53 hF (by intro σq v1' v2' v3' H locs ls hI hw hl; exact hI.elim) hI.choose σq v1' v2' v3' v4' v5' v6' hI.choose_spec hw hl) σ v1 v2 v3 hw hl hr
  | succ n ih =>
    intro σ v1 v2 v3 H locs ls hr hw hl
    exact k_X2_tick_19 hF (by intro σq v1' v2' v3' H locs ls hI hw hl; exact ih σq v1' v2' v3' hI hw hl) (by intro σq v1' v2' v3' v4' v5' v6' H locs ls hI hw hl; exact ln_X2_tick_53 hF (by intro σq v1' v2' v3' H locs ls hI hw hl; exact ih σq v1' v2' v3' hI hw hl) hI.choose σq v1' v2' v3' v4' v5' v6' hI.choose_spec hw hl) σ v1 v2 v3 hw hl hr
def wpL_X2_tick (σ : SM)  (post : Int32 → SM → Prop) : Prop := wp_X2_tick_0 σ  (fun (σq : SM) (v1' : Int32) (v2' : Int32) (v3' : Int32) => ∃ nq, rn_X2_tick_19 nq σq v1' v2' v3' post) (fun (σq : SM) (v1' : Int32) (v2' : Int32) (v3' : Int32) (v4' : Int32) (v5' : Int32) (v6' : Int32) => ∃ nq, rn_X2_tick_53 (fun (σq : SM) (v1' : Int32) (v2' : Int32) (v3' : Int32) => False) nq σq v1' v2' v3' v4' v5' v6' post) post

theorem c2_tick (l : Launch) (G : Gm) (a : Nat → Nat) (σ : SM)  {post : Int32 → SM → Prop} (h : wpL_X2_tick σ  post) : ctI l yX2_tick cX2_tick 7 .int (rr 5 116) G [.ref (a 26)] (wM G a σ) post (wM G a) := by
  refine en_I (by decide +kernel) (Nat.le_of_ble_eq_true rfl) (fun p e s m below meth c A ls hF hw hl => ?_)
  exact k_X2_tick_0 hF (by intro σq v1' v2' v3' H locs ls hI hw hl; exact ln_X2_tick_19 hF  hI.choose σq v1' v2' v3' hI.choose_spec hw hl) (by intro σq v1' v2' v3' v4' v5' v6' H locs ls hI hw hl; exact ln_X2_tick_53 hF (by intro σx x0 x1 x2 Hx lx sx hx; exact hx.elim) hI.choose σq v1' v2' v3' v4' v5' v6' hI.choose_spec hw hl) σ  hw hl h

def wp_X2_failed_0 (σ : SM)   (post : Int32 → SM → Prop) : Prop :=
  post (σ.1 17) σ
set_option maxHeartbeats 4000000 in
set_option maxRecDepth 100000 in
theorem k_X2_failed_0 {l : Launch} {p : Program} {e : Env} {s : State} {m : MethodId} {below : List Frame} {meth : Method} {c : Code} {args : Array Value} {A : Nat → Prop} {G : Gm} {a : Nat → Nat}  (hF : fx p s m args meth c cX2_failed 1 yX2_failed.cls kX2_failed (some (.int))) {post : Int32 → SM → Prop}  (σ : SM)  {H : Heap} {locs : List Loc} {ls : Array Slot} (hw : wb G A s (wM G a σ) H locs) (hl : lv_has ls 1 [(0, .ref (a 26))]) (hok : wp_X2_failed_0 σ   post) :
    W p l e (rr 0 0) s m args below meth c H locs 0 0 (MQ below (va_Qi post (po G A (wM G a)) A) args s 0 0 A) (F0 m 0 ls []) := by
  unfold wp_X2_failed_0 at hok
  refine lv_aload_n hF.x hF.b dX2_failed_0 rfl (lv_at hl 0 rfl) ?_
  refine r_get hF hw 0 rfl rfl inlX2 17 (by decide) wf_X2_77 rfl dX2_failed_1 ?_
  exact rt_I (u := σ) hF hw hok (Nat.zero_le _) (Nat.zero_le _) dX2_failed_4

theorem c2_failed (l : Launch) (G : Gm) (a : Nat → Nat) (σ : SM)  {post : Int32 → SM → Prop} (h : wp_X2_failed_0 σ  post) : ctI l yX2_failed cX2_failed 1 .int (rr 0 0) G [.ref (a 26)] (wM G a σ) post (wM G a) := by
  refine en_I (by decide +kernel) (Nat.le_of_ble_eq_true rfl) (fun p e s m below meth c A ls hF hw hl => ?_)
  exact k_X2_failed_0 hF  σ  hw hl h

def wp_X2_told_27 (σ : SM) (v1 : Int32) (v2 : Int32) (v3 : Int32) (vs0 : Int32) (vs1 : Int32) (K4 : SM → Int32 → Int32 → Int32 → Prop) (post : Int32 → SM → Prop) : Prop :=
  ∀ x1 : Int32, x1 = vs1 + vs0 → ∀ x2 : Int32, x2 = v3 + 1 → K4 σ v1 x1 x2
set_option maxHeartbeats 4000000 in
set_option maxRecDepth 100000 in
theorem k_X2_told_27 {l : Launch} {p : Program} {e : Env} {s : State} {m : MethodId} {below : List Frame} {meth : Method} {c : Code} {args : Array Value} {A : Nat → Prop} {G : Gm} {a : Nat → Nat}  (hF : fx p s m args meth c cX2_told 4 yX2_told.cls kX2_told (some (.int))) {post : Int32 → SM → Prop} {K4 : SM → Int32 → Int32 → Int32 → Prop} (hK4 : ∀ (σ : SM) (v1 : Int32) (v2 : Int32) (v3 : Int32) {H : Heap} {locs : List Loc} {ls : Array Slot}, K4 σ v1 v2 v3 → wb G A s (wM G a σ) H locs → lv_has ls 4 [(0, .ref (a 26)), (1, .int v1), (2, .int v2), (3, .int v3)] → W p l e (rr 0 0) s m args below meth c H locs 0 0 (MQ below (va_Qi post (po G A (wM G a)) A) args s 0 0 A) (F0 m 4 ls [])) (σ : SM) (v1 : Int32) (v2 : Int32) (v3 : Int32) (vs0 : Int32) (vs1 : Int32) {H : Heap} {locs : List Loc} {ls : Array Slot} (hw : wb G A s (wM G a σ) H locs) (hl : lv_has ls 4 [(0, .ref (a 26)), (1, .int v1), (2, .int v2), (3, .int v3)]) (hok : wp_X2_told_27 σ v1 v2 v3 vs0 vs1 K4 post) :
    W p l e (rr 0 0) s m args below meth c H locs 0 0 (MQ below (va_Qi post (po G A (wM G a)) A) args s 0 0 A) (F0 m 27 ls [.int vs0, .int vs1]) := by
  unfold wp_X2_told_27 at hok
  refine lv_iadd hF.x hF.b dX2_told_27 ?_
  refine lv_topi (fun x1 ex1 => ?_)
  replace hok := hok x1 ex1
  refine lv_istore_n (lv' := [(2, .int x1), (0, .ref (a 26)), (1, .int v1), (3, .int v3)]) hF.x hF.b dX2_told_28 rfl hl (by decide) rfl (fun ls hl => ?_)
  obtain ⟨x2, ex2⟩ : ∃ z : Int32, z = v3 + 1 := ⟨_, rfl⟩
  replace hok := hok x2 ex2
  refine lv_iinc (v := x2) (lv' := [(3, .int x2), (2, .int x1), (0, .ref (a 26)), (1, .int v1)]) hF.x hF.b dX2_told_29 hl (k := 3) rfl (by rw [ex2]; rfl) (by decide) rfl (fun ls hl => ?_)
  refine lv_goto (tgt := 4) hF.x hF.b dX2_told_32 (by decide) ?_
  exact hK4 σ v1 x1 x2 hok hw (lv_sub hl [2, 3, 1, 0] rfl)
def wp_X2_told_4 (σ : SM) (v1 : Int32) (v2 : Int32) (v3 : Int32) (K4 : SM → Int32 → Int32 → Int32 → Prop) (post : Int32 → SM → Prop) : Prop :=
  (20 ≤ v3 → (¬ v1 = 0 → (¬ v1 = 1 → (¬ v1 = 2 → (¬ v1 = 3 → (¬ v1 = 4 → post ((-1)) σ) ∧ (v1 = 4 → post v2 σ)) ∧ (v1 = 3 → post (σ.1 18) σ)) ∧ (v1 = 2 → post (σ.1 16) σ)) ∧ (v1 = 1 → post (σ.1 13) σ)) ∧ (v1 = 0 → post (σ.1 5) σ)) ∧ (¬ 20 ≤ v3 → vp_in v3 20 ∧ ∀ x7 : Int32, x7 = σ.2 11 v3.toNatClampNeg → (¬ x7 = ((-2)) → wp_X2_told_27 σ v1 v2 v3 1 v2 K4 post) ∧ (x7 = ((-2)) → wp_X2_told_27 σ v1 v2 v3 0 v2 K4 post))
set_option maxHeartbeats 4000000 in
set_option maxRecDepth 100000 in
theorem k_X2_told_4 {l : Launch} {p : Program} {e : Env} {s : State} {m : MethodId} {below : List Frame} {meth : Method} {c : Code} {args : Array Value} {A : Nat → Prop} {G : Gm} {a : Nat → Nat}  (hF : fx p s m args meth c cX2_told 4 yX2_told.cls kX2_told (some (.int))) {post : Int32 → SM → Prop} {K4 : SM → Int32 → Int32 → Int32 → Prop} (hK4 : ∀ (σ : SM) (v1 : Int32) (v2 : Int32) (v3 : Int32) {H : Heap} {locs : List Loc} {ls : Array Slot}, K4 σ v1 v2 v3 → wb G A s (wM G a σ) H locs → lv_has ls 4 [(0, .ref (a 26)), (1, .int v1), (2, .int v2), (3, .int v3)] → W p l e (rr 0 0) s m args below meth c H locs 0 0 (MQ below (va_Qi post (po G A (wM G a)) A) args s 0 0 A) (F0 m 4 ls [])) (σ : SM) (v1 : Int32) (v2 : Int32) (v3 : Int32) {H : Heap} {locs : List Loc} {ls : Array Slot} (hw : wb G A s (wM G a σ) H locs) (hl : lv_has ls 4 [(0, .ref (a 26)), (1, .int v1), (2, .int v2), (3, .int v3)]) (hok : wp_X2_told_4 σ v1 v2 v3 K4 post) :
    W p l e (rr 0 0) s m args below meth c H locs 0 0 (MQ below (va_Qi post (po G A (wM G a)) A) args s 0 0 A) (F0 m 4 ls []) := by
  unfold wp_X2_told_4 at hok
  refine lv_iload_n hF.x hF.b dX2_told_4 rfl (lv_at hl 3 rfl) ?_
  refine lv_bipush (v := 20) hF.x hF.b dX2_told_5 (by decide) ?_
  refine lv_icmp_ge (tgt := 35) hF.x hF.b dX2_told_7 (by decide) (fun c1 => ?_) (fun c1 => ?_)
  · replace hok := hok.1 c1
    refine lv_iload_n hF.x hF.b dX2_told_35 rfl (lv_at hl 1 rfl) ?_
    refine lv_if_ne (tgt := 46) hF.x hF.b dX2_told_36 (by decide) (fun c2 => ?_) (fun c2 => ?_)
    · replace hok := hok.1 c2
      refine lv_iload_n hF.x hF.b dX2_told_46 rfl (lv_at hl 1 rfl) ?_
      refine lv_iconst (v := 1) hF.x hF.b dX2_told_47 (by decide) ?_
      refine lv_icmp_ne (tgt := 58) hF.x hF.b dX2_told_48 (by decide) (fun c3 => ?_) (fun c3 => ?_)
      · replace hok := hok.1 c3
        refine lv_iload_n hF.x hF.b dX2_told_58 rfl (lv_at hl 1 rfl) ?_
        refine lv_iconst (v := 2) hF.x hF.b dX2_told_59 (by decide) ?_
        refine lv_icmp_ne (tgt := 70) hF.x hF.b dX2_told_60 (by decide) (fun c4 => ?_) (fun c4 => ?_)
        · replace hok := hok.1 c4
          refine lv_iload_n hF.x hF.b dX2_told_70 rfl (lv_at hl 1 rfl) ?_
          refine lv_iconst (v := 3) hF.x hF.b dX2_told_71 (by decide) ?_
          refine lv_icmp_ne (tgt := 82) hF.x hF.b dX2_told_72 (by decide) (fun c5 => ?_) (fun c5 => ?_)
          · replace hok := hok.1 c5
            refine lv_iload_n hF.x hF.b dX2_told_82 rfl (lv_at hl 1 rfl) ?_
            refine lv_iconst (v := 4) hF.x hF.b dX2_told_83 (by decide) ?_
            refine lv_icmp_ne (tgt := 91) hF.x hF.b dX2_told_84 (by decide) (fun c6 => ?_) (fun c6 => ?_)
            · replace hok := hok.1 c6
              refine lv_iconst (v := (-1)) hF.x hF.b dX2_told_91 (by decide) ?_
              exact rt_I (u := σ) hF hw hok (Nat.zero_le _) (Nat.zero_le _) dX2_told_92
            · replace hok := hok.2 c6
              refine lv_iload_n hF.x hF.b dX2_told_87 rfl (lv_at hl 2 rfl) ?_
              refine lv_goto (tgt := 92) hF.x hF.b dX2_told_88 (by decide) ?_
              exact rt_I (u := σ) hF hw hok (Nat.zero_le _) (Nat.zero_le _) dX2_told_92
          · replace hok := hok.2 c5
            refine lv_aload_n hF.x hF.b dX2_told_75 rfl (lv_at hl 0 rfl) ?_
            refine r_get hF hw 0 rfl rfl inlX2 18 (by decide) wf_X2_80 rfl dX2_told_76 ?_
            refine lv_goto (tgt := 92) hF.x hF.b dX2_told_79 (by decide) ?_
            exact rt_I (u := σ) hF hw hok (Nat.zero_le _) (Nat.zero_le _) dX2_told_92
        · replace hok := hok.2 c4
          refine lv_aload_n hF.x hF.b dX2_told_63 rfl (lv_at hl 0 rfl) ?_
          refine r_get hF hw 0 rfl rfl inlX2 16 (by decide) wf_X2_74 rfl dX2_told_64 ?_
          refine lv_goto (tgt := 92) hF.x hF.b dX2_told_67 (by decide) ?_
          exact rt_I (u := σ) hF hw hok (Nat.zero_le _) (Nat.zero_le _) dX2_told_92
      · replace hok := hok.2 c3
        refine lv_aload_n hF.x hF.b dX2_told_51 rfl (lv_at hl 0 rfl) ?_
        refine r_get hF hw 0 rfl rfl inlX2 13 (by decide) wf_X2_71 rfl dX2_told_52 ?_
        refine lv_goto (tgt := 92) hF.x hF.b dX2_told_55 (by decide) ?_
        exact rt_I (u := σ) hF hw hok (Nat.zero_le _) (Nat.zero_le _) dX2_told_92
    · replace hok := hok.2 c2
      refine lv_aload_n hF.x hF.b dX2_told_39 rfl (lv_at hl 0 rfl) ?_
      refine r_get hF hw 0 rfl rfl inlX2 5 (by decide) wf_X2_68 rfl dX2_told_40 ?_
      refine lv_goto (tgt := 92) hF.x hF.b dX2_told_43 (by decide) ?_
      exact rt_I (u := σ) hF hw hok (Nat.zero_le _) (Nat.zero_le _) dX2_told_92
  · replace hok := hok.2 c1
    refine lv_iload_n hF.x hF.b dX2_told_10 rfl (lv_at hl 2 rfl) ?_
    refine lv_aload_n hF.x hF.b dX2_told_11 rfl (lv_at hl 0 rfl) ?_
    refine r_get hF hw 0 rfl rfl inlX2 11 (by decide) wf_X2_37 rfl dX2_told_12 ?_
    refine lv_iload_n hF.x hF.b dX2_told_15 rfl (lv_at hl 3 rfl) ?_
    refine rm_ald 11 20 10 hF hw (by decide) hok.1 dX2_told_16 ?_
    refine lv_topi (fun x7 ex7 => ?_)
    replace hok := hok.2 x7 ex7
    refine lv_bipush (v := (-2)) hF.x hF.b dX2_told_17 (by decide) ?_
    refine lv_icmp_ne (tgt := 26) hF.x hF.b dX2_told_19 (by decide) (fun c8 => ?_) (fun c8 => ?_)
    · replace hok := hok.1 c8
      refine lv_iconst (v := 1) hF.x hF.b dX2_told_26 (by decide) ?_
      exact k_X2_told_27  hF hK4 σ v1 v2 v3 1 v2 hw (lv_sub hl [0, 1, 2, 3] rfl) hok
    · replace hok := hok.2 c8
      refine lv_iconst (v := 0) hF.x hF.b dX2_told_22 (by decide) ?_
      refine lv_goto (tgt := 27) hF.x hF.b dX2_told_23 (by decide) ?_
      exact k_X2_told_27  hF hK4 σ v1 v2 v3 0 v2 hw (lv_sub hl [0, 1, 2, 3] rfl) hok
def wp_X2_told_0 (σ : SM) (v1 : Int32) (K4 : SM → Int32 → Int32 → Int32 → Prop) (post : Int32 → SM → Prop) : Prop :=
  K4 σ v1 0 0
set_option maxHeartbeats 4000000 in
set_option maxRecDepth 100000 in
theorem k_X2_told_0 {l : Launch} {p : Program} {e : Env} {s : State} {m : MethodId} {below : List Frame} {meth : Method} {c : Code} {args : Array Value} {A : Nat → Prop} {G : Gm} {a : Nat → Nat}  (hF : fx p s m args meth c cX2_told 4 yX2_told.cls kX2_told (some (.int))) {post : Int32 → SM → Prop} {K4 : SM → Int32 → Int32 → Int32 → Prop} (hK4 : ∀ (σ : SM) (v1 : Int32) (v2 : Int32) (v3 : Int32) {H : Heap} {locs : List Loc} {ls : Array Slot}, K4 σ v1 v2 v3 → wb G A s (wM G a σ) H locs → lv_has ls 4 [(0, .ref (a 26)), (1, .int v1), (2, .int v2), (3, .int v3)] → W p l e (rr 0 0) s m args below meth c H locs 0 0 (MQ below (va_Qi post (po G A (wM G a)) A) args s 0 0 A) (F0 m 4 ls [])) (σ : SM) (v1 : Int32) {H : Heap} {locs : List Loc} {ls : Array Slot} (hw : wb G A s (wM G a σ) H locs) (hl : lv_has ls 4 [(0, .ref (a 26)), (1, .int v1)]) (hok : wp_X2_told_0 σ v1 K4 post) :
    W p l e (rr 0 0) s m args below meth c H locs 0 0 (MQ below (va_Qi post (po G A (wM G a)) A) args s 0 0 A) (F0 m 0 ls []) := by
  unfold wp_X2_told_0 at hok
  refine lv_iconst (v := 0) hF.x hF.b dX2_told_0 (by decide) ?_
  refine lv_istore_n (lv' := [(2, .int 0), (0, .ref (a 26)), (1, .int v1)]) hF.x hF.b dX2_told_1 rfl hl (by decide) rfl (fun ls hl => ?_)
  refine lv_iconst (v := 0) hF.x hF.b dX2_told_2 (by decide) ?_
  refine lv_istore_n (lv' := [(3, .int 0), (2, .int 0), (0, .ref (a 26)), (1, .int v1)]) hF.x hF.b dX2_told_3 rfl hl (by decide) rfl (fun ls hl => ?_)
  exact hK4 σ v1 0 0 hok hw (lv_sub hl [2, 3, 1, 0] rfl)

def rn_X2_told_4  : Nat → SM → Int32 → Int32 → Int32 → (Int32 → SM → Prop) → Prop
  | 0, σ, v1, v2, v3, post => wp_X2_told_4 σ v1 v2 v3 (fun (σq : SM) (v1' : Int32) (v2' : Int32) (v3' : Int32) => False) post
  | n + 1, σ, v1, v2, v3, post => wp_X2_told_4 σ v1 v2 v3 (fun (σq : SM) (v1' : Int32) (v2' : Int32) (v3' : Int32) => rn_X2_told_4  n σq v1' v2' v3' post) post
theorem ln_X2_told_4 {l : Launch} {p : Program} {e : Env} {s : State} {m : MethodId} {below : List Frame} {meth : Method} {c : Code} {args : Array Value} {A : Nat → Prop} {G : Gm} {a : Nat → Nat}  (hF : fx p s m args meth c cX2_told 4 yX2_told.cls kX2_told (some (.int))) {post : Int32 → SM → Prop}  :
    ∀ (n : Nat) (σ : SM) (v1 : Int32) (v2 : Int32) (v3 : Int32) {H : Heap} {locs : List Loc} {ls : Array Slot}, rn_X2_told_4  n σ v1 v2 v3 post → wb G A s (wM G a σ) H locs → lv_has ls 4 [(0, .ref (a 26)), (1, .int v1), (2, .int v2), (3, .int v3)] → W p l e (rr 0 0) s m args below meth c H locs 0 0 (MQ below (va_Qi post (po G A (wM G a)) A) args s 0 0 A) (F0 m 4 ls []) := by
  intro n
  induction n with
  | zero =>
    intro σ v1 v2 v3 H locs ls hr hw hl
    exact k_X2_told_4 hF (by intro σq v1' v2' v3' H locs ls hI hw hl; exact hI.elim) σ v1 v2 v3 hw hl hr
  | succ n ih =>
    intro σ v1 v2 v3 H locs ls hr hw hl
    exact k_X2_told_4 hF (by intro σq v1' v2' v3' H locs ls hI hw hl; exact ih σq v1' v2' v3' hI hw hl) σ v1 v2 v3 hw hl hr
def wpL_X2_told (σ : SM) (v1 : Int32) (post : Int32 → SM → Prop) : Prop := wp_X2_told_0 σ v1 (fun (σq : SM) (v1' : Int32) (v2' : Int32) (v3' : Int32) => ∃ nq, rn_X2_told_4 nq σq v1' v2' v3' post) post

theorem c2_told (l : Launch) (G : Gm) (a : Nat → Nat) (σ : SM) (v1 : Int32) {post : Int32 → SM → Prop} (h : wpL_X2_told σ v1 post) : ctI l yX2_told cX2_told 4 .int (rr 0 0) G [.ref (a 26), .int v1] (wM G a σ) post (wM G a) := by
  refine en_I (by decide +kernel) (Nat.le_of_ble_eq_true rfl) (fun p e s m below meth c A ls hF hw hl => ?_)
  exact k_X2_told_0 hF (by intro σq v1' v2' v3' H locs ls hI hw hl; exact ln_X2_told_4 hF  hI.choose σq v1' v2' v3' hI.choose_spec hw hl) σ v1 hw hl h

def wp_X2_clear_0 (σ : SM)   (post : Int32 → SM → Prop) : Prop :=
  wpL_X2_reset σ  (fun σ1 : SM => post (σ.1 5) σ1)
set_option maxHeartbeats 4000000 in
set_option maxRecDepth 100000 in
theorem k_X2_clear_0 {l : Launch} {p : Program} {e : Env} {s : State} {m : MethodId} {below : List Frame} {meth : Method} {c : Code} {args : Array Value} {A : Nat → Prop} {G : Gm} {a : Nat → Nat}  (hF : fx p s m args meth c cX2_clear 2 yX2_clear.cls kX2_clear (some (.int))) {post : Int32 → SM → Prop}  (σ : SM)  {H : Heap} {locs : List Loc} {ls : Array Slot} (hw : wb G A s (wM G a σ) H locs) (hl : lv_has ls 2 [(0, .ref (a 26))]) (hok : wp_X2_clear_0 σ   post) :
    W p l e (rr 1 21) s m args below meth c H locs 0 0 (MQ below (va_Qi post (po G A (wM G a)) A) args s 0 0 A) (F0 m 0 ls []) := by
  unfold wp_X2_clear_0 at hok
  refine lv_aload_n hF.x hF.b dX2_clear_0 rfl (lv_at hl 0 rfl) ?_
  refine r_get hF hw 0 rfl rfl inlX2 5 (by decide) wf_X2_68 rfl dX2_clear_1 ?_
  refine lv_istore_n (lv' := [(1, .int (σ.1 5)), (0, .ref (a 26))]) hF.x hF.b dX2_clear_4 rfl hl (by decide) rfl (fun ls hl => ?_)
  refine lv_aload_n hF.x hF.b dX2_clear_5 rfl (lv_at hl 1 rfl) ?_
  refine ca_V hF hw (c2_reset l G a σ  hok) wv_X2_61 (q0 := 0) rfl rfl rfl ⟨nd_X2.1, nd_X2.2, pd_X2_reset⟩ ⟨Nat.le_of_ble_eq_true rfl, Nat.le_of_ble_eq_true rfl⟩ ⟨Nat.zero_le _, Nat.zero_le _⟩ hl.1 rfl (Nat.le_of_ble_eq_true rfl) dX2_clear_6 (fun σ1 H locs hp hw => ?_)
  replace hok := hp
  refine lv_iload_n hF.x hF.b dX2_clear_9 rfl (lv_at hl 0 rfl) ?_
  exact rt_I (u := σ1) hF hw hok (Nat.zero_le _) (Nat.zero_le _) dX2_clear_10

theorem c2_clear (l : Launch) (G : Gm) (a : Nat → Nat) (σ : SM)  {post : Int32 → SM → Prop} (h : wp_X2_clear_0 σ  post) : ctI l yX2_clear cX2_clear 2 .int (rr 1 21) G [.ref (a 26)] (wM G a σ) post (wM G a) := by
  refine en_I (by decide +kernel) (Nat.le_of_ble_eq_true rfl) (fun p e s m below meth c A ls hF hw hl => ?_)
  exact k_X2_clear_0 hF  σ  hw hl h
