/-! lever, told, gauge, clear -/
theorem isIn_m1 {v : Int32} (h : ¬ v = -1) : f2_isIn v (-1) 19 = f1_isSlot v := by
  unfold f2_isIn f1_isSlot f1_rng
  have hv : v.toInt ≠ -1 := fun q => h (Int32.toInt_inj.mp (by rw [q]; decide))
  have z0 : (0 : Int32).toInt = 0 := by decide
  have z1 : (-1 : Int32).toInt = -1 := by decide
  have z19 : (19 : Int32).toInt = 19 := by decide
  have z20 : (20 : Int32).toInt = 20 := by decide
  have e1 : v < -1 ↔ v < 0 := by rw [Int32.lt_iff_toInt_lt, Int32.lt_iff_toInt_lt, z0, z1]; omega
  have e2 : 19 < v ↔ 20 ≤ v := by rw [Int32.lt_iff_toInt_lt, Int32.le_iff_toInt_le, z19, z20]; omega
  simp only [e1, e2]
theorem isS_lt {v : Int32} (h : ¬ f1_isSlot v = 0) : ¬ v < 0 ∧ 0 ≤ v := by
  have := vp_in_iff.mp (in_S h)
  have z0 : (0 : Int32).toInt = 0 := by decide
  refine ⟨?_, ?_⟩
  · rw [Int32.lt_iff_toInt_lt, z0]; omega
  · rw [Int32.le_iff_toInt_le, z0]; omega
section CALLS2
variable {n : Nat} {σ : SX} {τ : SM}
theorem lever_1 {v1 v2 v3 : Int32} {x y i : Nat} {P : Int32 → SM → Prop} (hx : x < 5) (hy : y < 4) (hi : i < 20) (e1 : v1 = nI x) (e2 : v2 = nI y) (e3 : v3 = nI i) (h : P 1 (τ.1, va_up τ.2 12 (upd (τ.2 12) (4 * x + y) (τ.2 11 i)))) : wp_X2_lever_48 τ v1 v2 v3 P := by
  intro x1 q1 x2 q2
  have e : (4 : Int32) * nI x + nI y = nI (4 * x + y) := by rw [show (4 : Int32) = nI 4 from rfl, pk_mul, nI_add]
  rw [q1, e1, e2, e] at q2
  subst q2; subst e3
  rw [nI_clamp (by omega), nI_clamp (by omega)]
  refine ⟨fun _ => ⟨vp_in_nI hi (by decide), fun x4 q4 => ⟨vp_in_nI (by omega) (by decide), fun σ5 q5 => ?_⟩⟩, fun c => absurd (nI_pos' (by omega)) c⟩
  subst q4; subst q5
  exact h
theorem lever_0 {v1 v2 v3 : Int32} {x y : Nat} {P : Int32 → SM → Prop} (hx : x < 5) (hy : y < 4) (e1 : v1 = nI x) (e2 : v2 = nI y) (e3 : ¬ 0 ≤ v3) (h : P 1 (τ.1, va_up τ.2 12 (upd (τ.2 12) (4 * x + y) (-2)))) : wp_X2_lever_48 τ v1 v2 v3 P := by
  intro x1 q1 x2 q2
  have e : (4 : Int32) * nI x + nI y = nI (4 * x + y) := by rw [show (4 : Int32) = nI 4 from rfl, pk_mul, nI_add]
  rw [q1, e1, e2, e] at q2
  subst q2
  rw [nI_clamp (by omega)]
  refine ⟨fun c => absurd c e3, fun _ => ⟨vp_in_nI (by omega) (by decide), fun σ5 q5 => ?_⟩⟩
  subst q5
  exact h
theorem S_lever (h : Sim n σ τ) (l pl sl : Int32) : wp_X2_lever_0 τ l pl sl (fun r u => r = (f1_lever σ l pl sl).1 ∧ Sim (n + 1) (f1_lever σ l pl sl).2 u) := by
  intro r1 e1
  rw [isIn_L] at e1
  subst e1
  simp only [f1_lever]
  refine ⟨fun c => by rw [if_pos c]; exact ⟨rfl, h.up⟩, fun c r3 e3 => ?_⟩
  rw [if_neg c]
  rw [isIn_rng 3 4 (by decide)] at e3
  obtain ⟨x, hx, ex⟩ := vp_in_of (in_L c) (by decide)
  by_cases p0 : pl < 0
  · have e3' : r3 = 0 := by rw [e3]; unfold f1_rng; rw [if_pos p0]
    rw [if_pos p0]
    exact ⟨fun _ => ⟨rfl, h.up⟩, fun q => absurd e3' q⟩
  rw [if_neg p0]
  by_cases p4 : 4 ≤ pl
  · have e3' : r3 = 0 := by rw [e3]; unfold f1_rng; rw [if_neg p0, if_pos p4]
    rw [if_pos p4]
    exact ⟨fun _ => ⟨rfl, h.up⟩, fun q => absurd e3' q⟩
  rw [if_neg p4]
  have e3' : r3 = 1 := by rw [e3]; unfold f1_rng; rw [if_neg p0, if_neg p4]
  refine ⟨fun q => absurd (e3'.symm.trans q) (by decide), fun _ r5 e5 => ?_⟩
  have hr3 : ¬ f1_rng 4 pl = 0 := by rw [← e3, e3']; decide
  obtain ⟨y, hy, ey⟩ := vp_in_of (in_rng (N := 4) (by decide) hr3) (by decide)
  have ce : (l * 4 + pl).toNatClampNeg = 4 * x + y := by rw [ex, ey, show (4 : Int32) = nI 4 from rfl, pk_mul, nI_add, nI_clamp (by omega), Nat.mul_comm]
  rw [ce]
  by_cases s1 : sl = -1
  · have e5' : r5 = 1 := by rw [e5, s1]; decide
    have hs : (f1_inSlot σ sl).1 = none := by simp only [f1_inSlot]; rw [s1, if_pos (by decide)]
    rw [if_neg (fun q => q.1 s1), if_neg (fun q => q.1 s1), hs]
    refine ⟨fun _ => ⟨fun _ => ?_, fun q => absurd (by rw [s1]; decide) q⟩, fun q => absurd (e5'.symm.trans q) (by decide)⟩
    refine lever_0 hx hy ex ey (by rw [s1]; decide) ?_
    exact ⟨rfl, h.1.slot (k := 3) (q := 12) (Or.inr ⟨rfl, rfl⟩) (4 * x + y) none (fun d hd => by cases hd), Nat.le_succ_of_le h.2.1, Nat.le_succ_of_le h.2.2.1, h.2.2.2⟩
  · rw [isIn_m1 s1] at e5
    subst e5
    refine ⟨fun c5 => ?_, fun c5 => ?_⟩
    · rw [if_neg (fun q => c5 q.2)]
      have hin := in_S c5
      obtain ⟨i, hi, ei⟩ := vp_in_of hin (by decide)
      have cx : sl.toNatClampNeg = i := by rw [ei, nI_clamp (by omega)]
      have e11 := h.1.2.2.2.2.1.2.1 i hi
      have ho : okO σ (σ.2.2.1 2 i) := fun d hd => h.1.1.1 2 i d (Or.inl rfl) hd
      have hs : (f1_inSlot σ sl).1 = σ.2.2.1 2 i := by rw [ei]; exact in_nI hi
      refine ⟨fun q => absurd q (isS_lt c5).1, fun _ => ⟨hin, fun x8 e8 => ?_⟩⟩
      rw [cx, e11] at e8
      subst e8
      rw [hs, oI_none h.1 ho]
      refine ⟨fun q => ?_, fun q => ?_⟩
      · rw [if_neg (fun z => q z.2)]
        refine lever_1 hx hy hi ex ey ei ?_
        rw [e11]
        exact ⟨rfl, h.1.slot (k := 3) (q := 12) (Or.inr ⟨rfl, rfl⟩) (4 * x + y) _ ho, Nat.le_succ_of_le h.2.1, Nat.le_succ_of_le h.2.2.1, h.2.2.2⟩
      · rw [if_pos ⟨s1, q⟩]; exact ⟨rfl, h.up⟩
    · rw [if_pos ⟨s1, c5⟩]; exact ⟨rfl, h.up⟩
theorem told_end {P : Int32 → SM → Prop} {w : Int32} (h : SB σ τ) (hP : P (f1_told σ w).1 τ) (K : SM → Int32 → Int32 → Int32 → Prop) : wp_X2_told_4 τ w (nI (x_inUse (σ.2.2.1 2) 20)) (nI 20) K P := by
  obtain ⟨-, c2, ⟨ns, -, s9, s16⟩, -, -, -, ⟨hq, wq, -, -, -, q7, q13, -⟩, -⟩ := h
  obtain ⟨-, -, c8, c5, -, c18⟩ := c2
  simp only [f1_told] at hP
  refine ⟨fun _ => ⟨fun n0 => ⟨fun n1 => ⟨fun n2 => ⟨fun n3 => ⟨fun n4 => ?_, fun e => ?_⟩, fun e => ?_⟩, fun e => ?_⟩, fun e => ?_⟩, fun e => ?_⟩, fun c => absurd (nI_le (a := 20) (Nat.le_refl 20) (by decide)) c⟩
  · rw [if_neg n0, if_neg n1, if_neg n2, if_neg n3, if_neg n4] at hP; exact hP
  · rw [if_neg n0, if_neg n1, if_neg n2, if_neg n3, if_pos e] at hP; exact hP
  · rw [if_neg n0, if_neg n1, if_neg n2, if_pos e] at hP; rw [c18]; exact hP
  · rw [if_neg n0, if_neg n1, if_pos e] at hP; rw [s16, ← s9]; exact hP
  · rw [if_neg n0, if_pos e] at hP; rw [q13, ← q7]; exact hP
  · rw [if_pos e] at hP; rw [c5, ← c8]; exact hP
theorem told_run {P : Int32 → SM → Prop} {w : Int32} (h : SB σ τ) (hP : P (f1_told σ w).1 τ) : ∀ (m i : Nat), i + m = 20 → rn_X2_told_4 m τ w (nI (x_inUse (σ.2.2.1 2) i)) (nI i) P := by
  intro m
  induction m with
  | zero =>
    intro i hi
    have : i = 20 := by omega
    subst this
    exact told_end h hP _
  | succ m ih =>
    intro i hi
    have hi20 : i < 20 := by omega
    have ho : okO σ (σ.2.2.1 2 i) := fun d hd => h.1.1 2 i d (Or.inl rfl) hd
    refine ⟨fun c => absurd c (nI_ge (b := 20) hi20 (by decide)), fun _ => ⟨vp_in_nI hi20 (by decide), fun x7 e7 => ?_⟩⟩
    rw [nI_clamp (by omega), h.2.2.2.2.1.2.1 i hi20] at e7
    subst e7
    rw [oI_none h ho]
    refine ⟨fun c x1 e1 x2 e2 => ?_, fun c x1 e1 x2 e2 => ?_⟩
    · have := ih (i + 1) (by omega)
      simp only [x_inUse] at this
      rw [if_neg c] at this
      rw [e1, e2, nI_1, nI_1]
      exact this
    · have := ih (i + 1) (by omega)
      simp only [x_inUse] at this
      rw [if_pos c] at this
      rw [e1, e2, nI_1, ← nI_0, nI_add]
      exact this
theorem S_told (h : Sim n σ τ) (w : Int32) : wpL_X2_told τ w (fun r u => r = (f1_told σ w).1 ∧ Sim (n + 1) (f1_told σ w).2 u) :=
  ⟨20, told_run h.1 ⟨rfl, h.up⟩ 20 0 (by decide)⟩
/-- what a reset leaves -/
def RS (u : SM) : Prop := (∀ i, i < 10 → u.2 0 i = 0) ∧ u.1 1 = 1 ∧ u.2 2 0 = 0 ∧ (∀ i, i < 3 → u.2 4 i = 0) ∧ u.1 5 = 0 ∧ (∀ i, i < 20 → u.2 11 i = -2) ∧ (∀ i, i < 20 → u.2 12 i = -2) ∧ u.1 13 = 0 ∧ u.1 16 = 0 ∧ u.1 17 = 0 ∧ u.1 18 = 0
theorem reset_60 {P : SM → Prop} {K2 K35 : SM → Int32 → Prop} (hP : ∀ u, RS u → P u) : ∀ (m i : Nat) (u : SM), i + m = 20 → (∀ i, i < 10 → u.2 0 i = 0) → u.1 1 = 1 → u.2 2 0 = 0 → (∀ i, i < 3 → u.2 4 i = 0) → u.1 5 = 0 → (∀ j, j < i → u.2 11 j = -2 ∧ u.2 12 j = -2) → rn_X2_reset_60 K2 K35 m u (nI i) P := by
  intro m
  induction m with
  | zero =>
    intro i u hi h0 h1 h2 h4 h5 h11
    have : i = 20 := by omega
    subst this
    refine ⟨fun _ σ2 e2 σ3 e3 σ4 e4 σ5 e5 => ?_, fun c => absurd (nI_le (a := 20) (Nat.le_refl 20) (by decide)) c⟩
    subst e2; subst e3; subst e4; subst e5
    refine hP _ ⟨h0, ?_, h2, h4, ?_, fun i hi => (h11 i hi).1, fun i hi => (h11 i hi).2, ?_, ?_, ?_, ?_⟩ <;> simp [va_up, h1, h5]
  | succ m ih =>
    intro i u hi h0 h1 h2 h4 h5 h11
    have hi20 : i < 20 := by omega
    refine ⟨fun c => absurd c (nI_ge (b := 20) hi20 (by decide)), fun _ => ⟨vp_in_nI hi20 (by decide), fun σ6 e6 => ⟨vp_in_nI hi20 (by decide), fun σ7 e7 x8 e8 => ?_⟩⟩⟩
    rw [nI_clamp (by omega)] at e6 e7
    subst e6; subst e7; subst e8
    rw [nI_1]
    refine ih (i + 1) _ (by omega) ?_ h1 ?_ ?_ h5 ?_
    · dsimp only; rw [va_up_ne _ _ (by decide), va_up_ne _ _ (by decide)]; exact h0
    · dsimp only; rw [va_up_ne _ _ (by decide), va_up_ne _ _ (by decide)]; exact h2
    · dsimp only; rw [va_up_ne _ _ (by decide), va_up_ne _ _ (by decide)]; exact h4
    · intro j hj
      dsimp only
      rw [va_up_ne _ _ (by decide), va_up_self, va_up_self, va_up_ne _ _ (by decide)]
      simp only [upd]
      by_cases c : j = i
      · rw [if_pos c, if_pos c]; exact ⟨rfl, rfl⟩
      · rw [if_neg c, if_neg c]; exact h11 j (by omega)
theorem reset_35 {P : SM → Prop} {K2 : SM → Int32 → Prop} (hP : ∀ u, RS u → P u) : ∀ (m i : Nat) (u : SM), i + m = 3 → (∀ i, i < 10 → u.2 0 i = 0) → u.1 1 = 1 → u.2 2 0 = 0 → (∀ j, j < i → u.2 4 j = 0) → rn_X2_reset_35 K2 m u (nI i) P := by
  intro m
  induction m with
  | zero =>
    intro i u hi h0 h1 h2 h4
    have : i = 3 := by omega
    subst this
    refine ⟨fun _ σ2 e2 => ⟨20, ?_⟩, fun c => absurd (nI_le (a := 3) (Nat.le_refl 3) (by decide)) c⟩
    subst e2
    rw [← nI_0]
    exact reset_60 hP 20 0 _ (by decide) h0 (by simp [va_up, h1]) h2 h4 (by simp [va_up, nI_0]) (fun j hj => absurd hj (by omega))
  | succ m ih =>
    intro i u hi h0 h1 h2 h4
    have hi3 : i < 3 := by omega
    refine ⟨fun c => absurd c (nI_ge (b := 3) hi3 (by decide)), fun _ => ⟨vp_in_nI hi3 (by decide), fun σ3 e3 x4 e4 => ?_⟩⟩
    rw [nI_clamp (by omega)] at e3
    subst e3; subst e4
    rw [nI_1]
    refine ih (i + 1) _ (by omega) ?_ h1 ?_ ?_
    · dsimp only; rw [va_up_ne _ _ (by decide)]; exact h0
    · dsimp only; rw [va_up_ne _ _ (by decide)]; exact h2
    · intro j hj
      dsimp only
      rw [va_up_self]
      simp only [upd]
      by_cases c : j = i
      · rw [if_pos c]
      · rw [if_neg c]; exact h4 j (by omega)
theorem reset_2 {P : SM → Prop} (hP : ∀ u, RS u → P u) : ∀ (m i : Nat) (u : SM), i + m = 10 → (∀ j, j < i → u.2 0 j = 0) → rn_X2_reset_2 m u (nI i) P := by
  intro m
  induction m with
  | zero =>
    intro i u hi h0
    have : i = 10 := by omega
    subst this
    refine ⟨fun _ σ2 e2 => ⟨vp_in_nI (n := 0) (by decide) (by decide), fun σ3 e3 => ⟨3, ?_⟩⟩, fun c => absurd (nI_le (a := 10) (Nat.le_refl 10) (by decide)) c⟩
    subst e2; subst e3
    refine reset_35 hP 3 0 _ (by decide) ?_ ?_ ?_ (fun j hj => absurd hj (by omega))
    · dsimp only; rw [va_up_ne _ _ (by decide)]; exact h0
    · simp [va_up]
    · dsimp only; rw [va_up_self]; exact if_pos (by decide)
  | succ m ih =>
    intro i u hi h0
    have hi10 : i < 10 := by omega
    refine ⟨fun c => absurd c (nI_ge (b := 10) hi10 (by decide)), fun _ => ⟨vp_in_nI hi10 (by decide), fun σ3 e3 x4 e4 => ?_⟩⟩
    rw [nI_clamp (by omega)] at e3
    subst e3; subst e4
    rw [nI_1]
    refine ih (i + 1) _ (by omega) ?_
    intro j hj
    dsimp only
    rw [va_up_self]
    simp only [upd]
    by_cases c : j = i
    · rw [if_pos c]
    · rw [if_neg c]; exact h0 j (by omega)
theorem reset_run {P : SM → Prop} (hP : ∀ u, RS u → P u) : wpL_X2_reset τ P := ⟨10, reset_2 hP 10 0 τ (by decide) (fun j hj => absurd hj (by omega))⟩
theorem Sim.of0 {σ : SX} {u : SM} (hu : RS u) (h1 : σ.2.2.1 = fun _ _ => none) (hd : σ.2.2.2.1.1 = 0) (hr : σ.2.2.2.2.1 = 0) (hrw : ∀ r, (σ.2.2.2.2.2 r).1 < 2 ^ 31) (h6 : σ.1 6 = 0) (h7 : σ.1 7 = 0) (h8 : σ.1 8 = 0) (h9 : σ.1 9 = 0) (h10 : σ.1 10 = 0) (h12 : σ.1 12 = 0) (hb : ∀ i, i < 10 → σ.2.1 0 i = 0) : Sim n σ u := by
  obtain ⟨u0, u1, u2, u4, u5, u11, u12, u13, u16, u17, u18⟩ := hu
  have n0 : ∀ k i, σ.2.2.1 k i = none := fun k i => by rw [h1]
  refine ⟨⟨⟨?_, ?_, ?_, hrw, 0, 0, by decide, by decide, h6, h7⟩, ?_, ⟨0, by decide, h9, u16⟩, ?_, ⟨?_, ?_, ?_⟩, ⟨u2, ?_⟩, ⟨0, 0, by decide, by decide, h6, h7, u13, ?_⟩, ?_⟩, by omega, by omega, by rw [h12, u17]⟩
  · intro k i d _ he; rw [n0] at he; cases he
  · intro i r he; rw [n0] at he; cases he
  · intro d hdd; omega
  · refine ⟨by omega, by omega, by rw [h8, hd]; rfl, by rw [u5, hd]; rfl, by rw [u1, hr]; rfl, by rw [u18, h10]⟩
  · intro i hi; rw [u0 i hi, hb i hi]
  · intro i hi; rw [u4 i hi, n0]; rfl
  · intro i hi; rw [u11 i hi, n0]; rfl
  · intro i hi; rw [u12 i hi, n0]; rfl
  · intro r hrr; omega
  · intro j hj; omega
  · intro d hdd; omega
/-- the hall after a clear: what nothing leads to is left out -/
def x_dr (σ : SX) : SX := (σ.1, σ.2.1, fun _ _ => none, (0, σ.2.2.2.1.2), (0, σ.2.2.2.2.2))
theorem S_clear (h : Sim n σ τ) : wp_X2_clear_0 τ (fun r u => r = (f1_clear σ).1 ∧ Sim (n + 1) (x_dr (f1_clear σ).2) u) := by
  refine reset_run (fun u hu => ⟨?_, Sim.of0 hu rfl rfl rfl h.1.1.2.2.2.1 ?_ ?_ ?_ ?_ ?_ ?_ ?_⟩)
  · show τ.1 5 = σ.1 8
    rw [h.1.2.1.2.2.2.1, h.1.2.1.2.2.1]
  all_goals simp only [x_dr, f1_clear, f1_begin, f1_emptyDeeds, f1_emptyHall]
  all_goals try simp [va_up]
  intro i hi
  simp [wipe, hi]
end CALLS2
