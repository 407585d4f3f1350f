/-! gauge and deed -/
theorem hold1 : ∀ k : Fin 15, (f1_holdsFirst (nI k.val) = 0 ↔ ¬ (7 ≤ k.val ∧ k.val ≤ 12)) := by decide +kernel
theorem hold2 : ∀ k : Fin 15, (f1_holdsSecond (nI k.val) = 0 ↔ ¬ (k.val = 7 ∨ k.val = 8 ∨ k.val = 10)) := by decide +kernel
def NW (kn : Nat) (x y z : Int32) : Prop := (kn = 1 ∨ kn = 2 ∨ kn = 3 ∨ kn = 6 → ¬ f1_isBasin x = 0) ∧ (kn = 3 → ¬ f1_isBasin y = 0) ∧ (kn = 4 → ¬ f1_isGauge x = 0) ∧ (7 ≤ kn ∧ kn ≤ 12 → ¬ f1_isSlot x = 0) ∧ (kn = 7 ∨ kn = 8 ∨ kn = 10 → ¬ f1_isSlot y = 0) ∧ (kn = 8 → ¬ f1_isBasin z = 0) ∧ (kn = 9 → ¬ y < 0 ∧ ¬ 5 < y) ∧ (kn = 13 → ¬ f1_isLever x = 0) ∧ (kn = 14 → ¬ f1_isSlot x = 0)
theorem two0 {a b : Int32} (h : ¬ (if a = 0 then 0 else b) = 0) : ¬ a = 0 ∧ ¬ b = 0 := by
  by_cases c : a = 0
  · rw [if_pos c] at h; exact absurd rfl h
  · rw [if_neg c] at h; exact ⟨c, h⟩
theorem NW_of {k x y z : Int32} (h : ¬ f1_namesWhatThereIs k x y z = 0) : ∃ kn : Nat, kn ≤ 14 ∧ k = nI kn ∧ NW kn x y z := by
  unfold f1_namesWhatThereIs at h
  unfold NW
  by_cases c0 : k = 0
  · exact ⟨0, by decide, c0, by omega, by omega, by omega, by omega, by omega, by omega, by omega, by omega, by omega⟩
  by_cases c5 : k = 5
  · exact ⟨5, by decide, c5, by omega, by omega, by omega, by omega, by omega, by omega, by omega, by omega, by omega⟩
  rw [if_neg (by intro q; rcases q with q | q <;> contradiction)] at h
  by_cases c1 : k = 1
  · rw [if_pos (Or.inl c1)] at h
    exact ⟨1, by decide, c1, fun _ => h, by omega, by omega, by omega, by omega, by omega, by omega, by omega, by omega⟩
  by_cases c2 : k = 2
  · rw [if_pos (Or.inr (Or.inl c2))] at h
    exact ⟨2, by decide, c2, fun _ => h, by omega, by omega, by omega, by omega, by omega, by omega, by omega, by omega⟩
  by_cases c6 : k = 6
  · rw [if_pos (Or.inr (Or.inr c6))] at h
    exact ⟨6, by decide, c6, fun _ => h, by omega, by omega, by omega, by omega, by omega, by omega, by omega, by omega⟩
  rw [if_neg (by intro q; rcases q with q | q | q <;> contradiction)] at h
  by_cases c3 : k = 3
  · rw [if_pos c3] at h
    exact ⟨3, by decide, c3, fun _ => (two0 h).1, fun _ => (two0 h).2, by omega, by omega, by omega, by omega, by omega, by omega, by omega⟩
  rw [if_neg c3] at h
  by_cases c4 : k = 4
  · rw [if_pos c4] at h
    exact ⟨4, by decide, c4, by omega, by omega, fun _ => h, by omega, by omega, by omega, by omega, by omega, by omega⟩
  rw [if_neg c4] at h
  by_cases c7 : k = 7
  · rw [if_pos (Or.inl c7)] at h
    exact ⟨7, by decide, c7, by omega, by omega, by omega, fun _ => (two0 h).1, fun _ => (two0 h).2, by omega, by omega, by omega, by omega⟩
  by_cases c10 : k = 10
  · rw [if_pos (Or.inr c10)] at h
    exact ⟨10, by decide, c10, by omega, by omega, by omega, fun _ => (two0 h).1, fun _ => (two0 h).2, by omega, by omega, by omega, by omega⟩
  rw [if_neg (by intro q; rcases q with q | q <;> contradiction)] at h
  by_cases c8 : k = 8
  · rw [if_pos c8] at h
    exact ⟨8, by decide, c8, by omega, by omega, by omega, fun _ => (two0 h).1, fun _ => (two0 (two0 h).2).1, fun _ => (two0 (two0 h).2).2, by omega, by omega, by omega⟩
  rw [if_neg c8] at h
  by_cases c9 : k = 9
  · rw [if_pos c9] at h
    have h2 := (two0 h).2
    refine ⟨9, by decide, c9, by omega, by omega, by omega, fun _ => (two0 h).1, by omega, by omega, fun _ => ?_, by omega, by omega⟩
    by_cases q : y < 0
    · rw [if_pos q] at h2; exact absurd rfl h2
    · rw [if_neg q] at h2
      by_cases q5 : 5 < y
      · rw [if_pos q5] at h2; exact absurd rfl h2
      · exact ⟨q, q5⟩
  rw [if_neg c9] at h
  by_cases c11 : k = 11
  · rw [if_pos (Or.inl c11)] at h
    exact ⟨11, by decide, c11, by omega, by omega, by omega, fun _ => h, by omega, by omega, by omega, by omega, by omega⟩
  by_cases c12 : k = 12
  · rw [if_pos (Or.inr (Or.inl c12))] at h
    exact ⟨12, by decide, c12, by omega, by omega, by omega, fun _ => h, by omega, by omega, by omega, by omega, by omega⟩
  by_cases c14 : k = 14
  · rw [if_pos (Or.inr (Or.inr c14))] at h
    exact ⟨14, by decide, c14, by omega, by omega, by omega, by omega, by omega, by omega, by omega, by omega, fun _ => h⟩
  rw [if_neg (by intro q; rcases q with q | q | q <;> contradiction)] at h
  by_cases c13 : k = 13
  · rw [if_pos c13] at h
    exact ⟨13, by decide, c13, by omega, by omega, by omega, by omega, by omega, by omega, by omega, fun _ => h, by omega⟩
  rw [if_neg c13] at h
  exact absurd rfl h
section MAKES
variable {n : Nat} {σ : SX} {τ : SM}
/-- a new deed, on both sides -/
theorem SB.newD (h : SB σ τ) (hn : σ.2.2.2.1.1 + 1 < 600) {s : Int32} {D : DX} {v6 v7 v8 v9 : Int32} (hf : okO σ (D.2 4)) (hs : okO σ (D.2 5)) (hg : ∀ r, D.2 6 = some r → r < σ.2.2.2.2.1) (hD : ∀ t : SM, t.2 6 σ.2.2.2.1.1 = v6 → t.2 7 σ.2.2.2.1.1 = v7 → t.2 8 σ.2.2.2.1.1 = v8 → t.2 9 σ.2.2.2.1.1 = v9 → t.2 10 σ.2.2.2.1.1 = 0 → DSim D t σ.2.2.2.1.1) : SB (sx_new σ s D) (va_up τ.1 5 (nI (σ.2.2.2.1.1 + 1)), va_up (va_up (va_up (va_up (va_up (va_up τ.2 6 (upd (τ.2 6) σ.2.2.2.1.1 v6)) 7 (upd (τ.2 7) σ.2.2.2.1.1 v7)) 8 (upd (τ.2 8) σ.2.2.2.1.1 v8)) 9 (upd (τ.2 9) σ.2.2.2.1.1 v9)) 10 (upd (τ.2 10) σ.2.2.2.1.1 0)) 11 (upd (τ.2 11) s.toNatClampNeg (nI σ.2.2.2.1.1))) := by
  obtain ⟨⟨a1, a2, a3, a4, a5⟩, h2, h3, h4, h5, h6, h7, h8⟩ := h
  obtain ⟨τn, eτ⟩ : ∃ t : SM, t = (va_up τ.1 5 (nI (σ.2.2.2.1.1 + 1)), va_up (va_up (va_up (va_up (va_up (va_up τ.2 6 (upd (τ.2 6) σ.2.2.2.1.1 v6)) 7 (upd (τ.2 7) σ.2.2.2.1.1 v7)) 8 (upd (τ.2 8) σ.2.2.2.1.1 v8)) 9 (upd (τ.2 9) σ.2.2.2.1.1 v9)) 10 (upd (τ.2 10) σ.2.2.2.1.1 0)) 11 (upd (τ.2 11) s.toNatClampNeg (nI σ.2.2.2.1.1))) := ⟨_, rfl⟩
  rw [← eτ]
  have t1 : ∀ k, k ≠ 5 → τn.1 k = τ.1 k := fun k hk => by rw [eτ]; exact va_up_ne _ _ hk
  have t15 : τn.1 5 = nI (σ.2.2.2.1.1 + 1) := by rw [eτ]; dsimp only; rw [va_up_self]
  have t2 : ∀ k, k ≠ 6 → k ≠ 7 → k ≠ 8 → k ≠ 9 → k ≠ 10 → k ≠ 11 → τn.2 k = τ.2 k := fun k k6 k7 k8 k9 k10 k11 => by
    rw [eτ]; dsimp only
    rw [va_up_ne _ _ k11, va_up_ne _ _ k10, va_up_ne _ _ k9, va_up_ne _ _ k8, va_up_ne _ _ k7, va_up_ne _ _ k6]
  have t6 : τn.2 6 = upd (τ.2 6) σ.2.2.2.1.1 v6 := by rw [eτ]; dsimp only; rw [va_up_ne _ _ (by decide), va_up_ne _ _ (by decide), va_up_ne _ _ (by decide), va_up_ne _ _ (by decide), va_up_ne _ _ (by decide), va_up_self]
  have t7 : τn.2 7 = upd (τ.2 7) σ.2.2.2.1.1 v7 := by rw [eτ]; dsimp only; rw [va_up_ne _ _ (by decide), va_up_ne _ _ (by decide), va_up_ne _ _ (by decide), va_up_ne _ _ (by decide), va_up_self]
  have t8 : τn.2 8 = upd (τ.2 8) σ.2.2.2.1.1 v8 := by rw [eτ]; dsimp only; rw [va_up_ne _ _ (by decide), va_up_ne _ _ (by decide), va_up_ne _ _ (by decide), va_up_self]
  have t9 : τn.2 9 = upd (τ.2 9) σ.2.2.2.1.1 v9 := by rw [eτ]; dsimp only; rw [va_up_ne _ _ (by decide), va_up_ne _ _ (by decide), va_up_self]
  have t10 : τn.2 10 = upd (τ.2 10) σ.2.2.2.1.1 0 := by rw [eτ]; dsimp only; rw [va_up_ne _ _ (by decide), va_up_self]
  have t11 : τn.2 11 = upd (τ.2 11) s.toNatClampNeg (nI σ.2.2.2.1.1) := by rw [eτ]; dsimp only; rw [va_up_self]
  clear eτ
  have s1 : ∀ k, k ≠ 8 → (sx_new σ s D).1 k = σ.1 k := fun k hk => va_up_ne _ _ hk
  have s2 : ∀ k, k ≠ 2 → (sx_new σ s D).2.2.1 k = σ.2.2.1 k := fun k hk => va_up_ne _ _ hk
  have s22 : (sx_new σ s D).2.2.1 2 = va_up (σ.2.2.1 2) s.toNatClampNeg (some σ.2.2.2.1.1) := by simp only [sx_new]; rw [va_up_self]
  have sd : ∀ d, d ≠ σ.2.2.2.1.1 → (sx_new σ s D).2.2.2.1.2 d = σ.2.2.2.1.2 d := fun d hd => va_up_ne _ _ hd
  have sdn : (sx_new σ s D).2.2.2.1.2 σ.2.2.2.1.1 = D := va_up_self _ _ _
  refine ⟨⟨?_, ?_, ?_, a4, ?_⟩, ?_, ?_, ?_, ?_, ?_, ?_, ?_⟩
  · intro k i d hk he
    show d < σ.2.2.2.1.1 + 1
    by_cases c : k = 2
    · subst c
      rw [s22] at he
      by_cases c2 : i = s.toNatClampNeg
      · subst c2; rw [va_up_self] at he; cases he; omega
      · rw [va_up_ne _ _ c2] at he; have := a1 2 i d hk he; omega
    · rw [s2 k c] at he; have := a1 k i d hk he; omega
  · intro i r he
    rw [s2 1 (by decide)] at he
    exact a2 i r he
  · intro d hd
    have hd' : d < σ.2.2.2.1.1 + 1 := hd
    show (∀ e, ((sx_new σ s D).2.2.2.1.2 d).2 4 = some e → e < σ.2.2.2.1.1 + 1) ∧ (∀ e, ((sx_new σ s D).2.2.2.1.2 d).2 5 = some e → e < σ.2.2.2.1.1 + 1) ∧ ∀ r, ((sx_new σ s D).2.2.2.1.2 d).2 6 = some r → r < σ.2.2.2.2.1
    by_cases c : d = σ.2.2.2.1.1
    · subst c
      rw [sdn]
      exact ⟨fun e he => Nat.lt_succ_of_lt (hf e he), fun e he => Nat.lt_succ_of_lt (hs e he), hg⟩
    · rw [sd d c]
      obtain ⟨q1, q2, q3⟩ := a3 d (by omega)
      exact ⟨fun e he => Nat.lt_succ_of_lt (q1 e he), fun e he => Nat.lt_succ_of_lt (q2 e he), q3⟩
  · rw [s1 6 (by decide), s1 7 (by decide)]; exact a5
  · obtain ⟨c1, c2, c3, c4, c5, c6⟩ := h2
    refine ⟨hn, c2, ?_, t15, by rw [t1 1 (by decide)]; exact c5, by rw [t1 18 (by decide), s1 10 (by decide)]; exact c6⟩
    show (va_up σ.1 8 (σ.1 8 + 1)) 8 = nI (σ.2.2.2.1.1 + 1)
    rw [va_up_self, c3, nI_1]
  · unfold SSim at *
    rw [s1 9 (by decide), t1 16 (by decide)]
    exact h3
  · unfold BSim at *
    rw [t2 0 (by decide) (by decide) (by decide) (by decide) (by decide) (by decide)]
    exact h4
  · obtain ⟨p1, p2, p3⟩ := h5
    refine ⟨?_, ?_, ?_⟩
    · rw [t2 4 (by decide) (by decide) (by decide) (by decide) (by decide) (by decide), s2 1 (by decide)]
      exact p1
    · intro i hi
      rw [t11, s22]
      by_cases c : i = s.toNatClampNeg
      · subst c; rw [va_up_self]; exact if_pos rfl
      · rw [va_up_ne _ _ c, ← p2 i hi]; exact if_neg c
    · rw [t2 12 (by decide) (by decide) (by decide) (by decide) (by decide) (by decide), s2 3 (by decide)]
      exact p3
  · unfold RSim at *
    rw [t2 2 (by decide) (by decide) (by decide) (by decide) (by decide) (by decide), t2 3 (by decide) (by decide) (by decide) (by decide) (by decide) (by decide)]
    exact h6
  · unfold QSim at *
    rw [s1 6 (by decide), s1 7 (by decide), t1 13 (by decide), s2 4 (by decide), t2 14 (by decide) (by decide) (by decide) (by decide) (by decide) (by decide), t2 15 (by decide) (by decide) (by decide) (by decide) (by decide) (by decide)]
    exact h7
  · intro d hd
    have hd' : d < σ.2.2.2.1.1 + 1 := hd
    by_cases c : d = σ.2.2.2.1.1
    · subst c
      rw [sdn]
      exact hD τn (by rw [t6]; exact if_pos rfl) (by rw [t7]; exact if_pos rfl) (by rw [t8]; exact if_pos rfl) (by rw [t9]; exact if_pos rfl) (by rw [t10]; exact if_pos rfl)
    · rw [sd d c]
      have := h8 d (by omega)
      unfold DSim at *
      rw [t6, t7, t8, t9, t10, show upd (τ.2 6) σ.2.2.2.1.1 v6 d = τ.2 6 d from if_neg c, show upd (τ.2 7) σ.2.2.2.1.1 v7 d = τ.2 7 d from if_neg c, show upd (τ.2 8) σ.2.2.2.1.1 v8 d = τ.2 8 d from if_neg c, show upd (τ.2 9) σ.2.2.2.1.1 v9 d = τ.2 9 d from if_neg c, show upd (τ.2 10) σ.2.2.2.1.1 0 d = τ.2 10 d from if_neg c]
      exact this
/-- what the reference writes of a new deed -/
abbrev m_new (τ : SM) (N : Nat) (s v6 v7 v8 v9 : Int32) : SM := (va_up τ.1 5 (nI (N + 1)), va_up (va_up (va_up (va_up (va_up (va_up τ.2 6 (upd (τ.2 6) N v6)) 7 (upd (τ.2 7) N v7)) 8 (upd (τ.2 8) N v8)) 9 (upd (τ.2 9) N v9)) 10 (upd (τ.2 10) N 0)) 11 (upd (τ.2 11) s.toNatClampNeg (nI N)))
theorem deed_153 {t : SM} {N : Nat} {P : Int32 → SM → Prop} {s k x y z v6 v7 v8 : Int32} (hN : N < 600) (h5 : τ.1 5 = nI N) (hs : vp_in s 20) (ht : t = (τ.1, va_up (va_up τ.2 6 (upd (τ.2 6) N v6)) 7 (upd (τ.2 7) N v7))) (hP : P (nI (N + 1)) (m_new τ N s v6 v7 v8 z)) : wp_X2_deed_153 t s k x y z v8 (t.1 5) P := by
  have e5 : t.1 5 = nI N := by rw [ht]; exact h5
  have hv : vp_in (nI N) 600 := vp_in_nI hN (by decide)
  have cN : (nI N).toNatClampNeg = N := nI_clamp (by omega)
  unfold wp_X2_deed_153
  rw [e5, cN]
  refine ⟨hv, fun σ1 e1 => ?_⟩
  have f1 : σ1.1 5 = nI N := by rw [e1]; exact e5
  rw [f1, cN]
  refine ⟨hv, fun σ2 e2 => ?_⟩
  have f2 : σ2.1 5 = nI N := by rw [e2]; exact f1
  rw [f2, cN]
  refine ⟨hv, fun σ3 e3 => ⟨hs, fun σ4 e4 x5 q5 σ6 e6 => ?_⟩⟩
  have f3 : σ3.1 5 = nI N := by rw [e3]; exact f2
  have f4 : σ4.1 5 = nI N := by rw [e4]; exact f3
  rw [f3] at e4
  rw [f4, nI_1] at q5
  have e : σ6 = m_new τ N s v6 v7 v8 z := by
    subst e6; subst e4; subst e3; subst e2; subst e1; subst ht; subst q5
    refine Prod.ext rfl ?_
    dsimp only
    congr 1
  rw [e]
  show P ((va_up τ.1 5 (nI (N + 1))) 5) _
  rw [va_up_self]
  exact hP
def e7 (σ : SX) (kn : Nat) (x : Int32) : Int32 := if 7 ≤ kn ∧ kn ≤ 12 then oI (x_first σ (nI kn) x) else if kn = 4 then gI (x_gauge σ (nI kn) x) else x_num σ (nI kn) x
def e8 (σ : SX) (kn : Nat) (y : Int32) : Int32 := if kn = 7 ∨ kn = 8 ∨ kn = 10 then oI (x_second σ (nI kn) y) else y
theorem kn_ne {kn m : Nat} (h : kn ≤ 14) (hm : m < 20) (hne : kn ≠ m) : ¬ nI kn = nI m := fun q => hne ((nI_eq (by omega) (by omega)).mp q)
theorem first_ok (h : SB σ τ) {k x : Int32} : okO σ (x_first σ k x) := by
  unfold x_first
  split
  · intro d hd; cases hd
  · exact okO.in h.1 x
theorem second_ok (h : SB σ τ) {k y : Int32} : okO σ (x_second σ k y) := by
  unfold x_second
  split
  · intro d hd; cases hd
  · exact okO.in h.1 y
theorem gauge_ok (h : SB σ τ) {k x : Int32} : ∀ r, x_gauge σ k x = some r → r < σ.2.2.2.2.1 := by
  intro r hr
  unfold x_gauge at hr
  split at hr
  · simp only [f1_gaugeNow] at hr
    split at hr
    · cases hr
    · exact h.1.2.1 _ r hr
  · cases hr
theorem first_at (h : SB σ τ) {kn : Nat} {x : Int32} (hk : ¬ f1_holdsFirst (nI kn) = 0) (hx : ¬ f1_isSlot x = 0) : vp_in x 20 ∧ τ.2 11 x.toNatClampNeg = oI (x_first σ (nI kn) x) := by
  obtain ⟨i, hi, ei⟩ := vp_in_of (in_S hx) (by decide)
  refine ⟨in_S hx, ?_⟩
  unfold x_first
  rw [if_neg hk, ei, in_nI hi, nI_clamp (by omega)]
  exact h.2.2.2.2.1.2.1 i hi
theorem second_at (h : SB σ τ) {kn : Nat} {y : Int32} (hk : ¬ f1_holdsSecond (nI kn) = 0) (hy : ¬ f1_isSlot y = 0) : vp_in y 20 ∧ τ.2 11 y.toNatClampNeg = oI (x_second σ (nI kn) y) := by
  obtain ⟨i, hi, ei⟩ := vp_in_of (in_S hy) (by decide)
  refine ⟨in_S hy, ?_⟩
  unfold x_second
  rw [if_neg hk, ei, in_nI hi, nI_clamp (by omega)]
  exact h.2.2.2.2.1.2.1 i hi
theorem deed_new (h : Sim n σ τ) (hn : n < 512) {kn : Nat} (hk : kn ≤ 14) {s x y z : Int32} (hNW : NW kn x y z) (h1 : ¬ f1_holdsFirst (nI kn) = 0 → ¬ x_first σ (nI kn) x = none) (h2 : ¬ f1_holdsSecond (nI kn) = 0 → ¬ x_second σ (nI kn) y = none) : Sim (n + 1) (sx_new σ s (mkD (nI kn) (x_num σ (nI kn) x) y z (x_first σ (nI kn) x) (x_second σ (nI kn) y) (x_gauge σ (nI kn) x))) (m_new τ σ.2.2.2.1.1 s (nI kn) (e7 σ kn x) (e8 σ kn y) z) := by
  have hd := h.2.1
  have hF := hold1 ⟨kn, by omega⟩
  have hS := hold2 ⟨kn, by omega⟩
  dsimp only at hF hS
  refine ⟨h.1.newD (by omega) (first_ok h.1) (second_ok h.1) (gauge_ok h.1) (fun t t6 t7 t8 t9 t10 => ?_), Nat.succ_le_succ hd, Nat.le_succ_of_le h.2.2.1, ?_⟩
  · obtain ⟨b1, b2, b3, b4, b5, b6, b7, b8, b9⟩ := hNW
    have hnum : kn ≠ 6 → x_num σ (nI kn) x = x := fun q => by unfold x_num; rw [if_neg (show ¬ nI kn = 6 from kn_ne (m := 6) hk (by decide) q)]
    refine ⟨kn, hk, rfl, t6, t7, t8, t9, t10, ?_, ?_, ?_, ?_, ?_, ?_, ?_, ?_⟩
    · intro q
      obtain ⟨i, hi, ei⟩ := vp_in_of (in_B (b1 (by omega))) (by decide)
      exact ⟨i, hi, (hnum (by omega)).trans ei⟩
    · intro q
      obtain ⟨i, hi, ei⟩ := vp_in_of (in_B (b2 q)) (by decide)
      exact ⟨i, hi, ei⟩
    · intro q
      obtain ⟨i, hi, ei⟩ := vp_in_of (in_B (b6 q)) (by decide)
      exact ⟨i, hi, ei⟩
    · intro q
      exact Option.ne_none_iff_exists'.mp (h1 (fun z => hF.mp z q))
    · intro q
      exact Option.ne_none_iff_exists'.mp (h2 (fun z => hS.mp z q))
    · intro q
      obtain ⟨c1, c2⟩ := b7 q
      have z0 : (0 : Int32).toInt = 0 := by decide
      have z5 : (5 : Int32).toInt = 5 := by decide
      rw [Int32.lt_iff_toInt_lt, z0] at c1
      rw [Int32.lt_iff_toInt_lt, z5] at c2
      obtain ⟨i, hi, ei⟩ := vp_in_of (x := y) (n := 6) (vp_in_iff.mpr ⟨by omega, by omega⟩) (by decide)
      exact ⟨i, by omega, ei⟩
    · intro q
      obtain ⟨i, hi, ei⟩ := vp_in_of (in_L (b8 q)) (by decide)
      exact ⟨i, hi, (hnum (by omega)).trans ei⟩
    · intro q
      obtain ⟨i, hi, ei⟩ := vp_in_of (in_S (b9 q)) (by decide)
      exact ⟨i, hi, (hnum (by omega)).trans ei⟩
  · show (va_up σ.1 8 (σ.1 8 + 1)) 12 = (va_up τ.1 5 (nI (σ.2.2.2.1.1 + 1))) 17
    rw [va_up_ne _ _ (by decide), va_up_ne _ _ (by decide)]
    exact h.2.2.2
theorem deed_61 (h : SB σ τ) {kn : Nat} (hk : kn ≤ 14) {s x y z : Int32} {P : Int32 → SM → Prop} (hs : vp_in s 20) (hNW : NW kn x y z) (hP : P (nI (σ.2.2.2.1.1 + 1)) (m_new τ σ.2.2.2.1.1 s (nI kn) (e7 σ kn x) (e8 σ kn y) z)) : wp_X2_deed_61 τ s (nI kn) x y z P := by
  have hN := h.2.1.1
  have h5 := h.2.1.2.2.2.1
  have hF := hold1 ⟨kn, by omega⟩
  have hS := hold2 ⟨kn, by omega⟩
  dsimp only at hF hS
  obtain ⟨b1, b2, b3, b4, b5, b6, b7, b8, b9⟩ := hNW
  generalize hNd : σ.2.2.2.1.1 = N at hN h5 hP
  have hv : vp_in (nI N) 600 := vp_in_nI hN (by decide)
  have cN : (nI N).toNatClampNeg = N := nI_clamp (by omega)
  have h125 : ∀ v7, v7 = e7 σ kn x → wp_X2_deed_125 (τ.1, va_up τ.2 6 (upd (τ.2 6) N (nI kn))) s (nI kn) x y z v7 (nI N) P := by
    intro v7 q7
    refine ⟨hv, fun σ1 e1 r2 er2 => ?_⟩
    rw [cN, show ((τ.1, va_up τ.2 6 (upd (τ.2 6) N (nI kn))) : SM).2 7 = τ.2 7 from va_up_ne τ.2 (k := 6) (j := 7) (upd (τ.2 6) N (nI kn)) (by decide)] at e1
    subst er2
    refine ⟨fun c => ?_, fun c => ?_⟩
    · refine deed_153 (v6 := nI kn) (v7 := v7) hN h5 hs e1 ?_
      have e8y : e8 σ kn y = y := by unfold e8; rw [if_neg (hS.mp c)]
      rw [e8y] at hP
      rw [q7]
      exact hP
    · obtain ⟨hy, ey⟩ := second_at h c (b5 (Decidable.byContradiction fun q => c (hS.mpr q)))
      refine ⟨hy, fun x4 e4 => deed_153 (v6 := nI kn) (v7 := v7) hN h5 hs e1 ?_⟩
      have : x4 = e8 σ kn y := by
        unfold e8
        rw [if_pos (Decidable.byContradiction fun q => c (hS.mpr q)), e4, ← ey, e1]
        dsimp only
        rw [va_up_ne _ _ (by decide), va_up_ne _ _ (by decide)]
      rw [q7, this]
      exact hP
  unfold wp_X2_deed_61
  rw [h5, cN]
  refine ⟨hv, fun σ1 e1 r2 er2 => ?_⟩
  subst er2
  have f5 : σ1.1 5 = nI N := by rw [e1]; exact h5
  rw [f5]
  subst e1
  refine ⟨fun c => ⟨fun c4 => ⟨fun c6 => ?_, fun c6 => ?_⟩, fun c4 => ?_⟩, fun c => ?_⟩
  · refine h125 x ?_
    unfold e7 x_num
    rw [if_neg (hF.mp c), if_neg (fun q => c4 (by rw [q]; decide)), if_neg c6]
  · have hk6 : kn = 6 := (nI_eq (b := 6) (by omega) (by decide)).mp c6
    obtain ⟨i, hi, ei⟩ := vp_in_of (in_B (b1 (by omega))) (by decide)
    refine ⟨in_B (b1 (by omega)), fun x6 q6 => h125 x6 ?_⟩
    unfold e7 x_num
    rw [if_neg (hF.mp c), if_neg (by omega), if_pos c6, ei, held_nI hi, q6, ei, nI_clamp (by omega), ← h.2.2.2.1 i hi]
    dsimp only
    rw [va_up_ne _ _ (by decide)]
  · have hk4 : kn = 4 := (nI_eq (b := 4) (by omega) (by decide)).mp c4
    obtain ⟨i, hi, ei⟩ := vp_in_of (in_G (b3 hk4)) (by decide)
    refine ⟨in_G (b3 hk4), fun x7 q7 => h125 x7 ?_⟩
    unfold e7 x_gauge
    rw [if_neg (hF.mp c), if_pos hk4, if_pos c4]
    simp only [f1_gaugeNow]
    rw [if_neg (b3 hk4), ei, nI_clamp (by omega), q7, ei, nI_clamp (by omega), ← h.2.2.2.2.1.1 i hi]
    dsimp only
    rw [va_up_ne _ _ (by decide)]
  · obtain ⟨hx, ex⟩ := first_at h c (b4 (Decidable.byContradiction fun q => c (hF.mpr q)))
    refine ⟨hx, fun x8 q8 => h125 x8 ?_⟩
    unfold e7
    rw [if_pos (Decidable.byContradiction fun q => c (hF.mpr q)), q8, ← ex]
    dsimp only
    rw [va_up_ne _ _ (by decide)]
theorem S_deed (h : Sim n σ τ) (hn : n < 512) (s k x y z : Int32) : wp_X2_deed_0 τ s k x y z (fun r u => r = (f1_deed σ s k x y z).1 ∧ Sim (n + 1) (f1_deed σ s k x y z).2 u) := by
  intro r1 e1
  subst e1
  simp only [f1_deed]
  refine ⟨fun c => by rw [if_pos c]; exact ⟨rfl, h.up⟩, fun c r3 e3 => ?_⟩
  rw [if_neg c]
  subst e3
  refine ⟨fun c3 r5 e5 => ?_, fun c3 => by rw [if_pos c3]; exact ⟨rfl, h.up⟩⟩
  rw [if_neg c3]
  subst e5
  obtain ⟨kn, hk, ek, hNW⟩ := NW_of c3
  subst ek
  have hF := hold1 ⟨kn, by omega⟩
  have hS := hold2 ⟨kn, by omega⟩
  dsimp only at hF hS
  have h8 : σ.1 8 = nI σ.2.2.2.1.1 := h.1.2.1.2.2.1
  have h39 : (¬ f1_holdsFirst (nI kn) = 0 → ¬ x_first σ (nI kn) x = none) → wp_X2_deed_39 τ s (nI kn) x y z (fun r u => r = (if (¬ f1_holdsFirst (nI kn) = 0 ∧ x_first σ (nI kn) x = none) ∨ (¬ f1_holdsSecond (nI kn) = 0 ∧ x_second σ (nI kn) y = none) then ((-2, σ) : Int32 × SX) else (σ.1 8 + 1, sx_new σ s (mkD (nI kn) (x_num σ (nI kn) x) y z (x_first σ (nI kn) x) (x_second σ (nI kn) y) (x_gauge σ (nI kn) x)))).1 ∧ Sim (n + 1) (if (¬ f1_holdsFirst (nI kn) = 0 ∧ x_first σ (nI kn) x = none) ∨ (¬ f1_holdsSecond (nI kn) = 0 ∧ x_second σ (nI kn) y = none) then ((-2, σ) : Int32 × SX) else (σ.1 8 + 1, sx_new σ s (mkD (nI kn) (x_num σ (nI kn) x) y z (x_first σ (nI kn) x) (x_second σ (nI kn) y) (x_gauge σ (nI kn) x)))).2 u) := by
    intro h1
    have h61 : (¬ f1_holdsSecond (nI kn) = 0 → ¬ x_second σ (nI kn) y = none) → wp_X2_deed_61 τ s (nI kn) x y z (fun r u => r = (if (¬ f1_holdsFirst (nI kn) = 0 ∧ x_first σ (nI kn) x = none) ∨ (¬ f1_holdsSecond (nI kn) = 0 ∧ x_second σ (nI kn) y = none) then ((-2, σ) : Int32 × SX) else (σ.1 8 + 1, sx_new σ s (mkD (nI kn) (x_num σ (nI kn) x) y z (x_first σ (nI kn) x) (x_second σ (nI kn) y) (x_gauge σ (nI kn) x)))).1 ∧ Sim (n + 1) (if (¬ f1_holdsFirst (nI kn) = 0 ∧ x_first σ (nI kn) x = none) ∨ (¬ f1_holdsSecond (nI kn) = 0 ∧ x_second σ (nI kn) y = none) then ((-2, σ) : Int32 × SX) else (σ.1 8 + 1, sx_new σ s (mkD (nI kn) (x_num σ (nI kn) x) y z (x_first σ (nI kn) x) (x_second σ (nI kn) y) (x_gauge σ (nI kn) x)))).2 u) := by
      intro h2
      refine deed_61 h.1 hk (in_S c) hNW ?_
      rw [if_neg (fun q => by rcases q with q | q; exact h1 q.1 q.2; exact h2 q.1 q.2)]
      exact ⟨by dsimp only; rw [h8, nI_1], deed_new h hn hk hNW h1 h2⟩
    intro r1 e1
    subst e1
    refine ⟨fun q => h61 (fun q2 => absurd q q2), fun q => ?_⟩
    obtain ⟨hy, ey⟩ := second_at h.1 q (hNW.2.2.2.2.1 (Decidable.byContradiction fun z => q (hS.mpr z)))
    refine ⟨hy, fun x3 e3 => ?_⟩
    rw [ey] at e3
    subst e3
    rw [oI_none h.1 (second_ok h.1)]
    refine ⟨fun z => h61 (fun _ => z), fun z => ?_⟩
    rw [if_pos (Or.inr ⟨q, z⟩)]
    exact ⟨rfl, h.up⟩
  refine ⟨fun q => h39 (fun q2 => absurd q q2), fun q => ?_⟩
  obtain ⟨hx, ex⟩ := first_at h.1 q (hNW.2.2.2.1 (Decidable.byContradiction fun z => q (hF.mpr z)))
  refine ⟨hx, fun x7 e7 => ?_⟩
  rw [ex] at e7
  subst e7
  rw [oI_none h.1 (first_ok h.1)]
  refine ⟨fun z => ?_, fun z => h39 (fun _ => z)⟩
  rw [if_pos (Or.inl ⟨q, z⟩)]
  exact ⟨rfl, h.up⟩
/-! gauge -/
theorem SB.newG (h : SB σ τ) (hn : σ.2.2.2.2.1 + 1 + 1 < 600) {x w : Nat} (hw : w ≤ 6) {f : Nat → Int32} (ho : ∀ m, (m < 6 * (σ.2.2.2.2.1 + 1) ∨ 6 * (σ.2.2.2.2.1 + 1) + 6 ≤ m) → f m = τ.2 3 m) (hz : ∀ j, j < 6 → f (6 * (σ.2.2.2.2.1 + 1) + j) = 0) : SB (σ.1, σ.2.1, va_up σ.2.2.1 1 (va_up (σ.2.2.1 1) x (some σ.2.2.2.2.1)), σ.2.2.2.1, (σ.2.2.2.2.1 + 1, va_up σ.2.2.2.2.2 σ.2.2.2.2.1 (w, fun _ => 0))) (va_up τ.1 1 (nI (σ.2.2.2.2.1 + 1 + 1)), va_up (va_up (va_up τ.2 2 (upd (τ.2 2) (σ.2.2.2.2.1 + 1) (nI w))) 3 f) 4 (upd (τ.2 4) x (nI (σ.2.2.2.2.1 + 1)))) := by
  obtain ⟨⟨a1, a2, a3, a4, a5⟩, h2, h3, h4, h5, h6, h7, h8⟩ := h
  obtain ⟨τn, eτ⟩ : ∃ t : SM, t = (va_up τ.1 1 (nI (σ.2.2.2.2.1 + 1 + 1)), va_up (va_up (va_up τ.2 2 (upd (τ.2 2) (σ.2.2.2.2.1 + 1) (nI w))) 3 f) 4 (upd (τ.2 4) x (nI (σ.2.2.2.2.1 + 1)))) := ⟨_, rfl⟩
  rw [← eτ]
  have t1 : ∀ k, k ≠ 1 → τn.1 k = τ.1 k := fun k hk => by rw [eτ]; exact va_up_ne _ _ hk
  have t11 : τn.1 1 = nI (σ.2.2.2.2.1 + 1 + 1) := by rw [eτ]; dsimp only; rw [va_up_self]
  have t2 : ∀ k, k ≠ 2 → k ≠ 3 → k ≠ 4 → τn.2 k = τ.2 k := fun k k2 k3 k4 => by
    rw [eτ]; dsimp only
    rw [va_up_ne _ _ k4, va_up_ne _ _ k3, va_up_ne _ _ k2]
  have t22 : τn.2 2 = upd (τ.2 2) (σ.2.2.2.2.1 + 1) (nI w) := by rw [eτ]; dsimp only; rw [va_up_ne _ _ (by decide), va_up_ne _ _ (by decide), va_up_self]
  have t23 : τn.2 3 = f := by rw [eτ]; dsimp only; rw [va_up_ne _ _ (by decide), va_up_self]
  have t24 : τn.2 4 = upd (τ.2 4) x (nI (σ.2.2.2.2.1 + 1)) := by rw [eτ]; dsimp only; rw [va_up_self]
  clear eτ
  refine ⟨⟨?_, ?_, ?_, ?_, a5⟩, ?_, ?_, ?_, ?_, ?_, ?_, ?_⟩
  · intro k i d hk he
    dsimp only at he ⊢
    rw [va_up_ne _ _ (by omega)] at he
    exact a1 k i d hk he
  · intro i r he
    dsimp only at he ⊢
    rw [va_up_self] at he
    by_cases c : i = x
    · subst c; rw [va_up_self] at he; cases he; omega
    · rw [va_up_ne _ _ c] at he; have := a2 i r he; omega
  · intro d hd
    obtain ⟨q1, q2, q3⟩ := a3 d hd
    exact ⟨q1, q2, fun r hr => Nat.lt_succ_of_lt (q3 r hr)⟩
  · intro r
    dsimp only
    by_cases c : r = σ.2.2.2.2.1
    · subst c; rw [va_up_self]; dsimp only; omega
    · rw [va_up_ne _ _ c]; exact a4 r
  · obtain ⟨c1, c2, c3, c4, c5, c6⟩ := h2
    exact ⟨c1, hn, c3, by rw [t1 5 (by decide)]; exact c4, t11, by rw [t1 18 (by decide)]; exact c6⟩
  · unfold SSim at *
    rw [t1 16 (by decide)]
    exact h3
  · unfold BSim at *
    rw [t2 0 (by decide) (by decide) (by decide)]
    exact h4
  · obtain ⟨p1, p2, p3⟩ := h5
    refine ⟨?_, ?_, ?_⟩
    · intro i hi
      dsimp only
      rw [t24, va_up_self]
      by_cases c : i = x
      · subst c; rw [va_up_self]; exact if_pos rfl
      · rw [va_up_ne _ _ c, ← p1 i hi]; exact if_neg c
    · rw [t2 11 (by decide) (by decide) (by decide)]
      dsimp only
      rw [va_up_ne _ _ (by decide)]
      exact p2
    · rw [t2 12 (by decide) (by decide) (by decide)]
      dsimp only
      rw [va_up_ne _ _ (by decide)]
      exact p3
  · obtain ⟨r1, r2⟩ := h6
    refine ⟨by rw [t22]; exact (if_neg (by omega)).trans r1, fun r hr => ?_⟩
    dsimp only at hr ⊢
    rw [t22, t23]
    by_cases c : r = σ.2.2.2.2.1
    · subst c
      rw [va_up_self]
      exact ⟨hw, if_pos rfl, fun j hj => hz j (by dsimp only at hj; omega)⟩
    · rw [va_up_ne _ _ c]
      obtain ⟨q1, q2, q3⟩ := r2 r (by omega)
      refine ⟨q1, (if_neg (by omega)).trans q2, fun j hj => ?_⟩
      rw [ho _ (by omega)]
      exact q3 j hj
  · unfold QSim at *
    rw [t1 13 (by decide), t2 14 (by decide) (by decide) (by decide), t2 15 (by decide) (by decide) (by decide)]
    dsimp only
    rw [va_up_ne _ _ (by decide)]
    exact h7
  · intro d hd
    have := h8 d hd
    unfold DSim at *
    rw [t2 6 (by decide) (by decide) (by decide), t2 7 (by decide) (by decide) (by decide), t2 8 (by decide) (by decide) (by decide), t2 9 (by decide) (by decide) (by decide), t2 10 (by decide) (by decide) (by decide)]
    exact this
theorem gauge_33 {t : SM} {P : Int32 → SM → Prop} {w : Int32} {N x : Nat} (hx : x < 3) (hN : N < 600) (h1 : t.1 1 = nI N) (hP : ∀ f : Nat → Int32, (∀ m, (m < 6 * N ∨ 6 * N + 6 ≤ m) → f m = t.2 3 m) → (∀ j, j < 6 → f (6 * N + j) = 0) → P 1 (va_up t.1 1 (nI (N + 1)), va_up (va_up t.2 3 f) 4 (upd (t.2 4) x (nI N)))) : ∀ (m i : Nat) (f : Nat → Int32), i + m = 6 → (∀ m, (m < 6 * N ∨ 6 * N + 6 ≤ m) → f m = t.2 3 m) → (∀ j, j < i → f (6 * N + j) = 0) → rn_X2_gauge_33 m (t.1, va_up t.2 3 f) (nI x) w (nI i) P := by
  intro m
  induction m with
  | zero =>
    intro i f hi ho hz
    have : i = 6 := by omega
    subst this
    refine ⟨fun _ => ⟨vp_in_nI hx (by decide), fun σ2 e2 x3 e3 σ4 e4 => ?_⟩, fun c => absurd (nI_le (a := 6) (Nat.le_refl 6) (by decide)) c⟩
    rw [nI_clamp (by omega)] at e2
    subst e2
    dsimp only at e3 e4
    rw [h1, nI_1] at e3
    subst e3
    rw [e4, va_up_ne _ _ (show 4 ≠ 3 by decide), h1]
    exact hP f ho hz
  | succ m ih =>
    intro i f hi ho hz
    have hi6 : i < 6 := by omega
    refine ⟨fun c => absurd c (nI_ge (b := 6) hi6 (by decide)), fun _ x5 e5 x6 e6 => ?_⟩
    dsimp only at e5
    rw [h1, show (6 : Int32) = nI 6 from rfl, pk_mul] at e5
    subst e5
    rw [nI_add] at e6
    subst e6
    refine ⟨vp_in_nI (by omega) (by decide), fun σ7 e7 x8 e8 => ?_⟩
    rw [nI_clamp (by omega)] at e7
    dsimp only at e7
    rw [va_up_self, up_up] at e7
    rw [e7, e8, nI_1]
    refine ih (i + 1) _ (by omega) (fun m hm => ?_) (fun j hj => ?_)
    · simp only [upd]; rw [if_neg (by omega)]; exact ho m hm
    · simp only [upd]
      by_cases c : j = i
      · rw [if_pos (by omega)]
      · rw [if_neg (by omega)]; exact hz j (by omega)
theorem S_gauge (h : Sim n σ τ) (hn : n < 512) (g w : Int32) : wpL_X2_gauge τ g w (fun r u => r = (f1_gauge σ g w).1 ∧ Sim (n + 1) (f1_gauge σ g w).2 u) := by
  intro r1 e1
  rw [isIn_G] at e1
  subst e1
  simp only [f1_gauge]
  refine ⟨fun c => by rw [if_pos c]; exact ⟨rfl, h.up⟩, fun c r3 e3 => ?_⟩
  rw [if_neg c]
  obtain ⟨x, hx, ex⟩ := vp_in_of (in_G c) (by decide)
  subst ex
  by_cases w0 : w < 0
  · have : r3 = 0 := by rw [e3]; unfold f2_isIn; rw [if_pos w0]
    rw [if_pos w0]
    exact ⟨fun q => absurd this q, fun _ => ⟨rfl, h.up⟩⟩
  rw [if_neg w0]
  have z6 : (6 : Int32).toInt = 6 := by decide
  by_cases w6 : w ≤ 6
  · have w6' : ¬ 6 < w := by rw [Int32.lt_iff_toInt_lt]; rw [Int32.le_iff_toInt_le] at w6; omega
    have e3' : r3 = 1 := by rw [e3]; unfold f2_isIn; rw [if_neg w0, if_neg w6']
    rw [if_pos w6]
    obtain ⟨v, hv, ev⟩ := nI_of2 (M := 6) (n := 6) z6 w0 w6
    subst ev
    have h1 := h.1.2.1.2.2.2.2.1
    have hr := h.2.2.1
    refine ⟨fun _ => ⟨by rw [h1]; exact vp_in_nI (by omega) (by decide), fun σ5 e5 => ⟨6, ?_⟩⟩, fun q => absurd (e3'.symm.trans q) (by decide)⟩
    rw [h1, nI_clamp (by omega)] at e5
    rw [nI_clamp (by omega), nI_clamp (by omega)]
    rw [show σ5 = (σ5.1, va_up σ5.2 3 (σ5.2 3)) from by rw [up_same]]
    refine gauge_33 (t := σ5) hx (N := σ.2.2.2.2.1 + 1) (by omega) (by rw [e5]; exact h1) (fun f ho hz => ?_) 6 0 (σ5.2 3) (by decide) (fun _ _ => rfl) (fun j hj => absurd hj (by omega))
    have es : σ5.2 3 = τ.2 3 := by rw [e5]; dsimp only; rw [va_up_ne _ _ (by decide)]
    have es4 : σ5.2 4 = τ.2 4 := by rw [e5]; dsimp only; rw [va_up_ne _ _ (by decide)]
    rw [es] at ho
    have := h.1.newG (x := x) (by omega) hv ho hz
    rw [es4, e5]
    refine ⟨rfl, this, Nat.le_succ_of_le h.2.1, Nat.succ_le_succ hr, ?_⟩
    show σ.1 12 = (va_up τ.1 1 (nI (σ.2.2.2.2.1 + 1 + 1))) 17
    rw [va_up_ne _ _ (by decide)]
    exact h.2.2.2
  · have w6' : 6 < w := by rw [Int32.lt_iff_toInt_lt]; rw [Int32.le_iff_toInt_le] at w6; omega
    have : r3 = 0 := by rw [e3]; unfold f2_isIn; rw [if_neg w0, if_pos w6']
    rw [if_neg w6]
    exact ⟨fun q => absurd this q, fun _ => ⟨rfl, h.up⟩⟩
end MAKES
