/-! call by call -/
def Sim (n : Nat) (σ : SX) (τ : SM) : Prop := SB σ τ ∧ σ.2.2.2.1.1 ≤ n ∧ σ.2.2.2.2.1 ≤ n ∧ σ.1 12 = τ.1 17
theorem Sim.up {n : Nat} {σ : SX} {τ : SM} (h : Sim n σ τ) : Sim (n + 1) σ τ := ⟨h.1, Nat.le_succ_of_le h.2.1, Nat.le_succ_of_le h.2.2.1, h.2.2.2⟩
theorem oI_none {σ : SX} {τ : SM} (h : SB σ τ) {o : Option Nat} (ho : okO σ o) : oI o = -2 ↔ o = none := by
  cases o with
  | none => exact ⟨fun _ => rfl, fun _ => rfl⟩
  | some d =>
    have hd := h.d600 (ho d rfl)
    refine ⟨fun q => ?_, fun q => by cases q⟩
    have h2 : (nI d).toInt = (-2 : Int32).toInt := congrArg Int32.toInt q
    rw [nI_toInt (by omega)] at h2
    have h3 : (-2 : Int32).toInt = -2 := by decide
    omega
theorem oI_inj {σ : SX} {τ : SM} (h : SB σ τ) {o o' : Option Nat} (ho : okO σ o) (ho' : okO σ o') : oI o = oI o' ↔ o = o' := by
  refine ⟨fun q => ?_, fun q => by rw [q]⟩
  cases o with
  | none => exact ((oI_none h ho').mp q.symm).symm
  | some d =>
    cases o' with
    | none => exact (oI_none h ho).mp q
    | some d' =>
      have hd := h.d600 (ho d rfl)
      have hd' := h.d600 (ho' d' rfl)
      rw [(nI_eq (by omega) (by omega)).mp q]
theorem SB.slot {σ : SX} {τ : SM} (h : SB σ τ) {k q : Nat} (hk : (k = 2 ∧ q = 11) ∨ (k = 3 ∧ q = 12)) (i : Nat) (o : Option Nat) (ho : okO σ o) : SB (sxO σ k (va_up (σ.2.2.1 k) i o)) (τ.1, va_up τ.2 q (upd (τ.2 q) i (oI o))) := by
  obtain ⟨⟨a1, a2, a3, a4, a5⟩, h2, h3, h4, h5, h6, h7, h8⟩ := h
  have hq : ∀ x, x ≠ q → (va_up τ.2 q (upd (τ.2 q) i (oI o))) x = τ.2 x := fun x hx => va_up_ne _ _ hx
  have hq0 : q ≠ 0 ∧ q ≠ 2 ∧ q ≠ 3 ∧ q ≠ 4 ∧ q ≠ 6 ∧ q ≠ 7 ∧ q ≠ 8 ∧ q ≠ 9 ∧ q ≠ 10 ∧ q ≠ 14 ∧ q ≠ 15 := by rcases hk with ⟨rfl, rfl⟩ | ⟨rfl, rfl⟩ <;> decide
  have hk0 : k ≠ 1 ∧ k ≠ 4 := by rcases hk with ⟨rfl, rfl⟩ | ⟨rfl, rfl⟩ <;> decide
  obtain ⟨z0, z2, z3, z4, z6, z7, z8, z9, z10, z14, z15⟩ := hq0
  refine ⟨⟨?_, ?_, a3, a4, a5⟩, h2, h3, ?_, ?_, ?_, ?_, ?_⟩
  · intro k' i' d hk' he
    dsimp only at he ⊢
    by_cases c : k' = k
    · subst c
      rw [va_up_self] at he
      by_cases c2 : i' = i
      · subst c2
        rw [va_up_self] at he
        exact ho d he
      · rw [va_up_ne _ _ c2] at he
        exact a1 _ i' d hk' he
    · rw [va_up_ne _ _ c] at he
      exact a1 k' i' d hk' he
  · intro i' r he
    dsimp only at he ⊢
    rw [va_up_ne _ _ (Ne.symm hk0.1)] at he
    exact a2 i' r he
  · unfold BSim at *
    dsimp only
    rw [hq 0 (Ne.symm z0)]
    exact h4
  · obtain ⟨p1, p2, p3⟩ := h5
    rcases hk with ⟨rfl, rfl⟩ | ⟨rfl, rfl⟩
    · refine ⟨?_, ?_, ?_⟩
      · dsimp only
        rw [va_up_ne _ _ (by decide), va_up_ne _ _ (by decide)]
        exact p1
      · intro i' hi'
        dsimp only
        rw [va_up_self, va_up_self]
        by_cases c : i' = i
        · subst c; rw [va_up_self]; exact if_pos rfl
        · rw [va_up_ne _ _ c, ← p2 i' hi']; exact if_neg c
      · dsimp only
        rw [va_up_ne _ _ (by decide), va_up_ne _ _ (by decide)]
        exact p3
    · refine ⟨?_, ?_, ?_⟩
      · dsimp only
        rw [va_up_ne _ _ (by decide), va_up_ne _ _ (by decide)]
        exact p1
      · dsimp only
        rw [va_up_ne _ _ (by decide), va_up_ne _ _ (by decide)]
        exact p2
      · intro i' hi'
        dsimp only
        rw [va_up_self, va_up_self]
        by_cases c : i' = i
        · subst c; rw [va_up_self]; exact if_pos rfl
        · rw [va_up_ne _ _ c, ← p3 i' hi']; exact if_neg c
  · unfold RSim at *
    dsimp only
    rw [hq 2 (Ne.symm z2), hq 3 (Ne.symm z3)]
    exact h6
  · unfold QSim at *
    dsimp only
    rw [hq 14 (Ne.symm z14), hq 15 (Ne.symm z15), va_up_ne _ _ (Ne.symm hk0.2)]
    exact h7
  · intro d hd
    have := h8 d hd
    unfold DSim at *
    dsimp only
    rw [hq 6 (Ne.symm z6), hq 7 (Ne.symm z7), hq 8 (Ne.symm z8), hq 9 (Ne.symm z9), hq 10 (Ne.symm z10)]
    exact this
section CALLS
variable {n : Nat} {σ : SX} {τ : SM}
theorem S_fill (h : Sim n σ τ) (b v : Int32) : wp_X2_fill_0 τ b v (fun r u => r = (f1_fill σ b v).1 ∧ Sim (n + 1) (f1_fill σ b v).2 u) := by
  intro r1 e1
  subst e1
  refine ⟨fun c => ?_, fun c => ?_⟩
  · have hin := in_B c
    obtain ⟨i, hi, ei⟩ := vp_in_of hin (by decide)
    refine ⟨hin, fun x3 e3 => ⟨hin, fun σ4 e4 => ?_⟩⟩
    subst e3; subst e4; subst ei
    rw [nI_clamp (by omega), f1_fill, held_nI hi, pour_nI hi]
    exact ⟨h.1.2.2.2.1 i hi, h.1.bas i v, Nat.le_succ_of_le h.2.1, Nat.le_succ_of_le h.2.2.1, h.2.2.2⟩
  · simp only [f1_fill, f1_heldBy, f1_pour]
    rw [if_pos c, if_pos c]
    exact ⟨rfl, h.up⟩
theorem S_basin (h : Sim n σ τ) (b : Int32) : wp_X2_basin_0 τ b (fun r u => r = (f1_basin σ b).1 ∧ Sim (n + 1) (f1_basin σ b).2 u) := by
  intro r1 e1
  subst e1
  refine ⟨fun c => ?_, fun c => ?_⟩
  · simp only [f1_basin, f1_heldBy]
    rw [if_pos c]
    exact ⟨rfl, h.up⟩
  · have hin := in_B c
    obtain ⟨i, hi, ei⟩ := vp_in_of hin (by decide)
    refine ⟨hin, fun x3 e3 => ?_⟩
    subst e3; subst ei
    rw [nI_clamp (by omega), f1_basin, held_nI hi]
    exact ⟨h.1.2.2.2.1 i hi, h.up⟩
theorem S_mark (h : Sim n σ τ) (g i : Int32) : wp_X2_mark_0 τ g i (fun r u => r = (f1_mark σ g i).1 ∧ Sim (n + 1) (f1_mark σ g i).2 u) := by
  intro r1 e1
  rw [isIn_G] at e1
  subst e1
  refine ⟨fun c => ?_, fun c => ?_⟩
  · simp only [f1_mark, f1_gaugeNow]
    rw [if_pos c]
    exact ⟨rfl, h.up⟩
  · have hin := in_G c
    obtain ⟨x, hx, ex⟩ := vp_in_of hin (by decide)
    have ex4 := h.1.2.2.2.2.1.1 x hx
    refine ⟨hin, fun x3 e3 => ?_⟩
    have cx : g.toNatClampNeg = x := by rw [ex, nI_clamp (by omega)]
    rw [cx, ex4] at e3
    simp only [f1_mark, f1_gaugeNow]
    rw [if_neg c, cx]
    cases hg : σ.2.2.1 1 x with
    | none =>
      rw [hg] at e3
      have e3' : x3 = 0 := e3
      subst e3'
      refine ⟨vp_in_nI (n := 0) (by decide) (by decide), fun x4 e4 x5 e5 r6 e6 => ⟨fun _ => ⟨rfl, h.up⟩, fun q => absurd ?_ q⟩⟩
      have e4' : x4 = 0 := by rw [e4]; exact h.1.2.2.2.2.2.1.1
      rw [e6, e5, e4', show (0 : Int32) - 1 = nI 0 - 1 from rfl, isIn_W _ (Nat.zero_le 6)]
      by_cases c2 : i < 0
      · rw [if_pos c2]
      · rw [if_neg c2, if_pos]
        rw [Int32.lt_iff_toInt_lt] at c2
        rw [Int32.le_iff_toInt_le, nI_toInt (by decide)]
        have : (0 : Int32).toInt = 0 := by decide
        omega
    | some r =>
      rw [hg] at e3
      have e3' : x3 = nI (r + 1) := e3
      subst e3'
      have hr : r < σ.2.2.2.2.1 := h.1.1.2.1 x r hg
      have hr6 : r + 1 < 600 := by have := h.1.2.1.2.1; omega
      obtain ⟨w6, ew, em⟩ := h.1.2.2.2.2.2.1.2 r hr
      refine ⟨vp_in_nI hr6 (by decide), fun x4 e4 x5 e5 r6 e6 => ?_⟩
      rw [nI_clamp (by omega), ew] at e4
      have e6' : r6 = (f1_hasMark σ (some r) i).1 := by rw [e6, e5, e4, isIn_W _ w6]; rfl
      subst e6'
      dsimp only
      refine ⟨fun q => ?_, fun q => ?_⟩
      · rw [if_pos q]; exact ⟨rfl, h.up⟩
      · rw [if_neg q]
        obtain ⟨y, hy, ey⟩ := vp_in_of (hasMark_in q (h.1.1.2.2.2.1 r)) (by omega)
        refine ⟨hin, fun x8 e8 x9 e9 x10 e10 => ?_⟩
        rw [ex4, hg] at e8
        have e8' : x8 = nI (r + 1) := e8
        subst e8'
        have e : (6 : Int32) * nI (r + 1) + nI y = nI (6 * (r + 1) + y) := by rw [show (6 : Int32) = nI 6 from rfl, pk_mul, nI_add]
        rw [e10, e9, ey, e]
        refine ⟨vp_in_nI (by omega) (by decide), fun x11 e11 => ?_⟩
        rw [nI_clamp (by omega), em y hy] at e11
        rw [e11, nI_clamp (by omega)]
        exact ⟨rfl, h.up⟩
theorem S_copy (h : Sim n σ τ) (x y : Int32) : wp_X2_copy_0 τ x y (fun r u => r = (f1_copy σ x y).1 ∧ Sim (n + 1) (f1_copy σ x y).2 u) := by
  intro r1 e1
  subst e1
  simp only [f1_copy]
  refine ⟨fun c => by rw [if_pos c]; exact ⟨rfl, h.up⟩, fun c r3 e3 => ?_⟩
  subst e3
  rw [if_neg c]
  refine ⟨fun c2 => ?_, fun c2 => by rw [if_pos c2]; exact ⟨rfl, h.up⟩⟩
  rw [if_neg c2]
  have hin := in_S c
  have hin2 := in_S c2
  obtain ⟨i, hi, ei⟩ := vp_in_of hin (by decide)
  have cx : x.toNatClampNeg = i := by rw [ei, nI_clamp (by omega)]
  have e11 := h.1.2.2.2.2.1.2.1 i hi
  have ho : okO σ (σ.2.2.1 2 i) := fun d hd => h.1.1.1 2 i d (Or.inl rfl) hd
  rw [cx, e11]
  refine ⟨hin, fun x5 e5 => ?_⟩
  subst e5
  refine ⟨fun q => ⟨hin, fun x7 e7 => ⟨hin2, fun σ8 e8 => ?_⟩⟩, fun q => ?_⟩
  · subst e7; subst e8
    cases hs : σ.2.2.1 2 i with
    | none => rw [hs] at q; exact absurd rfl q
    | some d =>
      have hsl := h.1.slot (k := 2) (q := 11) (Or.inl ⟨rfl, rfl⟩) y.toNatClampNeg _ ho
      rw [hs] at hsl
      exact ⟨rfl, hsl, Nat.le_succ_of_le h.2.1, Nat.le_succ_of_le h.2.2.1, h.2.2.2⟩
  · have hs := (oI_none h.1 ho).mp q
    rw [hs]
    exact ⟨rfl, h.up⟩
theorem S_drop (h : Sim n σ τ) (x : Int32) : wp_X2_drop_0 τ x (fun r u => r = (f1_drop σ x).1 ∧ Sim (n + 1) (f1_drop σ x).2 u) := by
  intro r1 e1
  subst e1
  simp only [f1_drop]
  refine ⟨fun c => ?_, fun c => by rw [if_pos c]; exact ⟨rfl, h.up⟩⟩
  rw [if_neg c]
  have hin := in_S c
  obtain ⟨i, hi, ei⟩ := vp_in_of hin (by decide)
  have cx : x.toNatClampNeg = i := by rw [ei, nI_clamp (by omega)]
  have e11 := h.1.2.2.2.2.1.2.1 i hi
  have ho : okO σ (σ.2.2.1 2 i) := fun d hd => h.1.1.1 2 i d (Or.inl rfl) hd
  rw [cx, e11]
  refine ⟨hin, fun x5 e5 => ?_⟩
  subst e5
  refine ⟨fun q => ⟨hin, fun σ8 e8 => ?_⟩, fun q => ?_⟩
  · subst e8
    cases hs : σ.2.2.1 2 i with
    | none => rw [hs] at q; exact absurd rfl q
    | some d => exact ⟨rfl, h.1.slot (k := 2) (q := 11) (Or.inl ⟨rfl, rfl⟩) i none (fun d hd => by cases hd), Nat.le_succ_of_le h.2.1, Nat.le_succ_of_le h.2.2.1, h.2.2.2⟩
  · have hs := (oI_none h.1 ho).mp q
    rw [hs]
    exact ⟨rfl, h.up⟩
theorem S_same (h : Sim n σ τ) (x y : Int32) : wp_X2_same_0 τ x y (fun r u => r = (f1_same σ x y).1 ∧ Sim (n + 1) (f1_same σ x y).2 u) := by
  intro r1 e1
  subst e1
  simp only [f1_same]
  refine ⟨fun c => by rw [if_pos c]; exact ⟨rfl, h.up⟩, fun c r3 e3 => ?_⟩
  subst e3
  rw [if_neg c]
  refine ⟨fun c2 => ?_, fun c2 => by rw [if_pos c2]; exact ⟨rfl, h.up⟩⟩
  rw [if_neg c2]
  have hin := in_S c
  have hin2 := in_S c2
  obtain ⟨i, hi, ei⟩ := vp_in_of hin (by decide)
  obtain ⟨j, hj, ej⟩ := vp_in_of hin2 (by decide)
  have cx : x.toNatClampNeg = i := by rw [ei, nI_clamp (by omega)]
  have cy : y.toNatClampNeg = j := by rw [ej, nI_clamp (by omega)]
  have e11 := h.1.2.2.2.2.1.2.1 i hi
  have e12 := h.1.2.2.2.2.1.2.1 j hj
  have ho : okO σ (σ.2.2.1 2 i) := fun d hd => h.1.1.1 2 i d (Or.inl rfl) hd
  have ho2 : okO σ (σ.2.2.1 2 j) := fun d hd => h.1.1.1 2 j d (Or.inl rfl) hd
  rw [cx, cy, e11, e12]
  refine ⟨hin, fun x5 e5 => ?_⟩
  subst e5
  refine ⟨fun q => ?_, fun q => ⟨hin, fun x7 e7 => ⟨hin2, fun x8 e8 => ?_⟩⟩⟩
  · have hs := (oI_none h.1 ho).mp q
    rw [hs]
    exact ⟨rfl, h.up⟩
  · subst e7; subst e8
    rw [oI_inj h.1 ho ho2]
    cases hs : σ.2.2.1 2 i with
    | none => rw [hs] at q; exact absurd rfl q
    | some d =>
      dsimp only
      refine ⟨fun q2 => by rw [if_neg q2]; exact ⟨rfl, h.up⟩, fun q2 => by rw [if_pos q2]; exact ⟨rfl, h.up⟩⟩
theorem S_count (h : Sim n σ τ) (x : Int32) : wp_X2_count_0 τ x (fun r u => r = (f1_count σ x).1 ∧ Sim (n + 1) (f1_count σ x).2 u) := by
  intro r1 e1
  subst e1
  simp only [f1_count]
  refine ⟨fun c => ?_, fun c => by rw [if_pos c]; exact ⟨rfl, h.up⟩⟩
  rw [if_neg c]
  have hin := in_S c
  obtain ⟨i, hi, ei⟩ := vp_in_of hin (by decide)
  have cx : x.toNatClampNeg = i := by rw [ei, nI_clamp (by omega)]
  have e11 := h.1.2.2.2.2.1.2.1 i hi
  have ho : okO σ (σ.2.2.1 2 i) := fun d hd => h.1.1.1 2 i d (Or.inl rfl) hd
  rw [cx, e11]
  refine ⟨hin, fun x5 e5 => ?_⟩
  subst e5
  refine ⟨fun q => ?_, fun q => ⟨hin, fun x7 e7 => ?_⟩⟩
  · have hs := (oI_none h.1 ho).mp q
    rw [hs]
    exact ⟨rfl, h.up⟩
  · subst e7
    cases hs : σ.2.2.1 2 i with
    | none => rw [hs] at q; exact absurd rfl q
    | some d =>
      have hd : d < σ.2.2.2.1.1 := ho d hs
      have hd6 := h.1.d600 hd
      obtain ⟨k, hk14, hk⟩ := h.1.kx hd
      obtain ⟨e6, -, -, -, e10, -⟩ := h.1.kd hd hk hk14
      have hv : vp_in (oI (some d)) 600 := vp_in_nI hd6 (by decide)
      have cd : (oI (some d)).toNatClampNeg = d := nI_clamp (by omega)
      rw [cd, e6, ← hk]
      refine ⟨hv, fun x6 e6 => ?_⟩
      subst e6
      dsimp only
      refine ⟨fun q2 => ⟨hin, fun x8 e8 => ?_⟩, fun q2 => by rw [if_neg q2]; exact ⟨rfl, h.up⟩⟩
      subst e8
      rw [cd, e10]
      refine ⟨hv, fun x9 e9 => ?_⟩
      rw [if_pos q2, e9]
      exact ⟨rfl, h.up⟩
theorem S_failed (h : Sim n σ τ) : wp_X2_failed_0 τ (fun r u => r = (f1_failed σ).1 ∧ Sim (n + 1) (f1_failed σ).2 u) := ⟨h.2.2.2.symm, h.up⟩
end CALLS
