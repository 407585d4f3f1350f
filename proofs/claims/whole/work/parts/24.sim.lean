/-! the hall and the reference side by side -/
def oI (o : Option Nat) : Int32 := match o with
  | none => -2
  | some d => nI d
def gI (o : Option Nat) : Int32 := match o with
  | none => 0
  | some r => nI (r + 1)
def DSim (D : DX) (τ : SM) (d : Nat) : Prop := ∃ k : Nat, k ≤ 14 ∧ D.1 0 = nI k ∧ τ.2 6 d = nI k ∧ τ.2 7 d = (if 7 ≤ k ∧ k ≤ 12 then oI (D.2 4) else if k = 4 then gI (D.2 6) else D.1 1) ∧ τ.2 8 d = (if k = 7 ∨ k = 8 ∨ k = 10 then oI (D.2 5) else D.1 2) ∧ τ.2 9 d = D.1 3 ∧ τ.2 10 d = D.1 7 ∧
  (k = 1 ∨ k = 2 ∨ k = 3 → ∃ x : Nat, x < 10 ∧ D.1 1 = nI x) ∧ (k = 3 → ∃ y : Nat, y < 10 ∧ D.1 2 = nI y) ∧ (k = 8 → ∃ z : Nat, z < 10 ∧ D.1 3 = nI z) ∧ (7 ≤ k ∧ k ≤ 12 → ∃ e, D.2 4 = some e) ∧ (k = 7 ∨ k = 8 ∨ k = 10 → ∃ e, D.2 5 = some e) ∧ (k = 9 → ∃ y : Nat, y ≤ 5 ∧ D.1 2 = nI y) ∧ (k = 13 → ∃ x : Nat, x < 5 ∧ D.1 1 = nI x) ∧ (k = 14 → ∃ x : Nat, x < 20 ∧ D.1 1 = nI x)
def QSim (σ : SX) (τ : SM) : Prop := ∃ h w : Nat, h < 12 ∧ w ≤ 12 ∧ σ.1 6 = nI h ∧ σ.1 7 = nI w ∧ τ.1 13 = nI w ∧ ∀ j, j < w → ∃ d, σ.2.2.1 4 ((h + j) % 12) = some d ∧ τ.2 14 j = nI d ∧ σ.2.1 5 ((h + j) % 12) = τ.2 15 j
def RSim (σ : SX) (τ : SM) : Prop := τ.2 2 0 = 0 ∧ ∀ r, r < σ.2.2.2.2.1 → (σ.2.2.2.2.2 r).1 ≤ 6 ∧ τ.2 2 (r + 1) = nI (σ.2.2.2.2.2 r).1 ∧ ∀ j, j < (σ.2.2.2.2.2 r).1 → τ.2 3 (6 * (r + 1) + j) = (σ.2.2.2.2.2 r).2 j
def SSim (σ : SX) (τ : SM) : Prop := ∃ n : Nat, n ≤ 60 ∧ σ.1 9 = nI n ∧ τ.1 16 = nI n
def CSim (σ : SX) (τ : SM) : Prop := σ.2.2.2.1.1 < 600 ∧ σ.2.2.2.2.1 + 1 < 600 ∧ σ.1 8 = nI σ.2.2.2.1.1 ∧ τ.1 5 = nI σ.2.2.2.1.1 ∧ τ.1 1 = nI (σ.2.2.2.2.1 + 1) ∧ τ.1 18 = σ.1 10
def PSim (σ : SX) (τ : SM) : Prop := (∀ i, i < 3 → τ.2 4 i = gI (σ.2.2.1 1 i)) ∧ (∀ i, i < 20 → τ.2 11 i = oI (σ.2.2.1 2 i)) ∧ ∀ i, i < 20 → τ.2 12 i = oI (σ.2.2.1 3 i)
def BSim (σ : SX) (τ : SM) : Prop := ∀ i, i < 10 → τ.2 0 i = σ.2.1 0 i
def SB (σ : SX) (τ : SM) : Prop := WFX σ ∧ CSim σ τ ∧ SSim σ τ ∧ BSim σ τ ∧ PSim σ τ ∧ RSim σ τ ∧ QSim σ τ ∧ ∀ d, d < σ.2.2.2.1.1 → DSim (σ.2.2.2.1.2 d) τ d
theorem mI_ne (τ : SM) (k : Nat) (v : Int32) (j : Nat) (h : j ≠ k) : (m_I τ k v).1 j = τ.1 j := va_up_ne _ _ h
theorem sI_ne (σ : SX) (k : Nat) (v : Int32) (j : Nat) (h : j ≠ k) : (sxI σ k v).1 j = σ.1 j := va_up_ne _ _ h
theorem mF_ne (τ : SM) (k : Nat) (f : Nat → Int32) (j : Nat) (h : j ≠ k) : ((τ.1, va_up τ.2 k f) : SM).2 j = τ.2 j := va_up_ne _ _ h
theorem sF_ne (σ : SX) (k : Nat) (f : Nat → Int32) (j : Nat) (h : j ≠ k) : (sxF σ k f).2.1 j = σ.2.1 j := va_up_ne _ _ h
theorem mI_self (τ : SM) (k : Nat) (v : Int32) : (m_I τ k v).1 k = v := va_up_self _ _ _
theorem sI_self (σ : SX) (k : Nat) (v : Int32) : (sxI σ k v).1 k = v := va_up_self _ _ _
theorem SB.tau {σ : SX} {τ τ' : SM} (h : SB σ τ) (a1 : τ'.1 1 = τ.1 1) (a5 : τ'.1 5 = τ.1 5) (a13 : τ'.1 13 = τ.1 13) (a16 : τ'.1 16 = τ.1 16) (a18 : τ'.1 18 = τ.1 18) (b0 : τ'.2 0 = τ.2 0) (b2 : τ'.2 2 = τ.2 2) (b3 : τ'.2 3 = τ.2 3) (b4 : τ'.2 4 = τ.2 4) (b6 : τ'.2 6 = τ.2 6) (b7 : τ'.2 7 = τ.2 7) (b8 : τ'.2 8 = τ.2 8) (b9 : τ'.2 9 = τ.2 9) (b10 : τ'.2 10 = τ.2 10) (b11 : τ'.2 11 = τ.2 11) (b12 : τ'.2 12 = τ.2 12) (b14 : τ'.2 14 = τ.2 14) (b15 : τ'.2 15 = τ.2 15) : SB σ τ' := by
  unfold SB CSim SSim BSim PSim RSim QSim DSim at *
  simp only [a1, a5, a13, a16, a18, b0, b2, b3, b4, b6, b7, b8, b9, b10, b11, b12, b14, b15]
  exact h
theorem SB.I {σ : SX} {τ : SM} (h : SB σ τ) (k : Nat) (v : Int32) (hk : k = 17 ∨ k = 19 ∨ k = 24 ∨ k = 25) : SB σ (m_I τ k v) := by
  rcases hk with rfl | rfl | rfl | rfl <;> exact h.tau (mI_ne _ _ _ _ (by decide)) (mI_ne _ _ _ _ (by decide)) (mI_ne _ _ _ _ (by decide)) (mI_ne _ _ _ _ (by decide)) (mI_ne _ _ _ _ (by decide)) rfl rfl rfl rfl rfl rfl rfl rfl rfl rfl rfl rfl rfl
theorem SB.F {σ : SX} {τ : SM} (h : SB σ τ) (k : Nat) (f : Nat → Int32) (hk : k = 20 ∨ k = 21 ∨ k = 22 ∨ k = 23) : SB σ (τ.1, va_up τ.2 k f) := by
  rcases hk with rfl | rfl | rfl | rfl <;> exact h.tau rfl rfl rfl rfl rfl (mF_ne _ _ _ _ (by decide)) (mF_ne _ _ _ _ (by decide)) (mF_ne _ _ _ _ (by decide)) (mF_ne _ _ _ _ (by decide)) (mF_ne _ _ _ _ (by decide)) (mF_ne _ _ _ _ (by decide)) (mF_ne _ _ _ _ (by decide)) (mF_ne _ _ _ _ (by decide)) (mF_ne _ _ _ _ (by decide)) (mF_ne _ _ _ _ (by decide)) (mF_ne _ _ _ _ (by decide)) (mF_ne _ _ _ _ (by decide)) (mF_ne _ _ _ _ (by decide))
theorem SB.X {σ : SX} {τ : SM} (h : SB σ τ) (k : Nat) (v : Int32) (hk : k = 11 ∨ k = 12) : SB (sxI σ k v) τ := by
  obtain ⟨h1, h2, h3, h4, h5, h6, h7, h8⟩ := h
  rcases hk with rfl | rfl
  · exact ⟨(XK.sI h1 11 v (by decide) (by decide)).1, by unfold CSim at *; rw [sI_ne σ 11 v 8 (by decide), sI_ne σ 11 v 10 (by decide)]; exact h2, by unfold SSim at *; rw [sI_ne σ 11 v 9 (by decide)]; exact h3, h4, h5, h6, by unfold QSim at *; rw [sI_ne σ 11 v 6 (by decide), sI_ne σ 11 v 7 (by decide)]; exact h7, h8⟩
  · exact ⟨(XK.sI h1 12 v (by decide) (by decide)).1, by unfold CSim at *; rw [sI_ne σ 12 v 8 (by decide), sI_ne σ 12 v 10 (by decide)]; exact h2, by unfold SSim at *; rw [sI_ne σ 12 v 9 (by decide)]; exact h3, h4, h5, h6, by unfold QSim at *; rw [sI_ne σ 12 v 6 (by decide), sI_ne σ 12 v 7 (by decide)]; exact h7, h8⟩
theorem SB.steps {σ : SX} {τ : SM} (h : SB σ τ) {n : Nat} (hn : n ≤ 60) {v w : Int32} (hv : v = nI n) (hw : w = nI n) : SB (sxI σ 9 v) (m_I τ 16 w) := by
  obtain ⟨h1, h2, h3, h4, h5, h6, h7, h8⟩ := h
  refine ⟨(XK.sI h1 9 v (by decide) (by decide)).1, ?_, ⟨n, hn, by rw [← hv]; exact sI_self _ _ _, by rw [← hw]; exact mI_self _ _ _⟩, h4, h5, h6, ?_, h8⟩
  · unfold CSim at *
    rw [sI_ne σ 9 v 8 (by decide), sI_ne σ 9 v 10 (by decide), mI_ne τ 16 w 5 (by decide), mI_ne τ 16 w 1 (by decide), mI_ne τ 16 w 18 (by decide)]
    exact h2
  · unfold QSim at *
    rw [sI_ne σ 9 v 6 (by decide), sI_ne σ 9 v 7 (by decide), mI_ne τ 16 w 13 (by decide)]
    exact h7
abbrev m_bas (τ : SM) (i : Nat) (v : Int32) : SM := (τ.1, va_up τ.2 0 (upd (τ.2 0) i v))
theorem SB.bas {σ : SX} {τ : SM} (h : SB σ τ) (i : Nat) (v : Int32) : SB (sxF σ 0 (upd (σ.2.1 0) i v)) (m_bas τ i v) := by
  obtain ⟨h1, h2, h3, h4, h5, h6, h7, h8⟩ := h
  have e : ∀ k, k ≠ 0 → (m_bas τ i v).2 k = τ.2 k := fun k hk => va_up_ne _ _ hk
  refine ⟨wf_of h1 rfl rfl (fun _ => rfl) rfl (fun _ => rfl) rfl rfl, h2, h3, ?_, ?_, ?_, ?_, ?_⟩
  · intro k hk
    show (va_up τ.2 0 (upd (τ.2 0) i v)) 0 k = (va_up σ.2.1 0 (upd (σ.2.1 0) i v)) 0 k
    rw [va_up_self, va_up_self]
    simp only [upd]
    split
    · rfl
    · exact h4 k hk
  · unfold PSim at *
    rw [e 4 (by decide), e 11 (by decide), e 12 (by decide)]
    exact h5
  · unfold RSim at *
    rw [e 2 (by decide), e 3 (by decide)]
    exact h6
  · unfold QSim at *
    rw [e 14 (by decide), e 15 (by decide), sF_ne σ 0 (upd (σ.2.1 0) i v) 5 (by decide)]
    exact h7
  · intro d hd
    have := h8 d hd
    unfold DSim at *
    rw [e 6 (by decide), e 7 (by decide), e 8 (by decide), e 9 (by decide), e 10 (by decide)]
    exact this
theorem SB.cnt {σ : SX} {τ : SM} (h : SB σ τ) (d : Nat) (v : Int32) : SB (sxT σ d v) (m_cnt τ d v) := by
  obtain ⟨h1, h2, h3, h4, h5, h6, h7, h8⟩ := h
  have e : ∀ k, k ≠ 10 → (m_cnt τ d v).2 k = τ.2 k := fun k hk => va_up_ne _ _ hk
  refine ⟨(XK.sT h1 d v).1, h2, h3, ?_, ?_, ?_, ?_, ?_⟩
  · unfold BSim at *
    rw [e 0 (by decide)]
    exact h4
  · unfold PSim at *
    rw [e 4 (by decide), e 11 (by decide), e 12 (by decide)]
    exact h5
  · unfold RSim at *
    rw [e 2 (by decide), e 3 (by decide)]
    exact h6
  · unfold QSim at *
    rw [e 14 (by decide), e 15 (by decide)]
    exact h7
  · intro d' hd'
    have h9 := h8 d' hd'
    have e10 : (m_cnt τ d v).2 10 = upd (τ.2 10) d v := va_up_self τ.2 10 _
    unfold DSim at *
    rw [e 6 (by decide), e 7 (by decide), e 8 (by decide), e 9 (by decide), e10]
    by_cases hx : d' = d
    · subst hx
      rw [show (sxT σ d' v).2.2.2.1.2 d' = (va_up (σ.2.2.2.1.2 d').1 7 v, (σ.2.2.2.1.2 d').2) from va_up_self _ _ _]
      obtain ⟨k, q1, q2, q3, q4, q5, q6, q7, q8⟩ := h9
      refine ⟨k, q1, ?_, q3, ?_, ?_, ?_, ?_, ?_⟩
      · dsimp only; rw [va_up_ne _ _ (by decide)]; exact q2
      · dsimp only; rw [va_up_ne _ _ (by decide)]; exact q4
      · dsimp only; rw [va_up_ne _ _ (by decide)]; exact q5
      · dsimp only; rw [va_up_ne _ _ (by decide)]; exact q6
      · dsimp only; rw [va_up_self]; simp [upd]
      · dsimp only; rw [va_up_ne _ _ (by decide), va_up_ne _ _ (by decide), va_up_ne _ _ (by decide)]; exact q8
    · rw [show (sxT σ d v).2.2.2.1.2 d' = σ.2.2.2.1.2 d' from va_up_ne _ _ hx, show upd (τ.2 10) d v d' = τ.2 10 d' from if_neg hx]
      exact h9
theorem SB.row {σ : SX} {τ : SM} (h : SB σ τ) (r i : Nat) (v : Int32) (hr : r < σ.2.2.2.2.1) (hi : i < (σ.2.2.2.2.2 r).1) : SB (σ.1, σ.2.1, σ.2.2.1, σ.2.2.2.1, (σ.2.2.2.2.1, va_up σ.2.2.2.2.2 r ((σ.2.2.2.2.2 r).1, upd (σ.2.2.2.2.2 r).2 i v))) (τ.1, va_up τ.2 3 (upd (τ.2 3) (6 * (r + 1) + i) v)) := by
  obtain ⟨h1, h2, h3, h4, h5, h6, h7, h8⟩ := h
  have ew : ∀ x, ((va_up σ.2.2.2.2.2 r ((σ.2.2.2.2.2 r).1, upd (σ.2.2.2.2.2 r).2 i v)) x).1 = (σ.2.2.2.2.2 x).1 := by
    intro x
    by_cases hx : x = r
    · subst hx; simp [va_up]
    · simp [va_up, hx]
  have e : ∀ k, k ≠ 3 → (va_up τ.2 3 (upd (τ.2 3) (6 * (r + 1) + i) v)) k = τ.2 k := fun k hk => va_up_ne _ _ hk
  refine ⟨wf_of h1 rfl rfl (fun _ => rfl) rfl ew rfl rfl, h2, h3, ?_, ?_, ?_, ?_, ?_⟩
  · unfold BSim at *
    dsimp only
    rw [e 0 (by decide)]
    exact h4
  · unfold PSim at *
    dsimp only
    rw [e 4 (by decide), e 11 (by decide), e 12 (by decide)]
    exact h5
  · refine ⟨by dsimp only; rw [e 2 (by decide)]; exact h6.1, fun x hx => ?_⟩
    obtain ⟨q1, q2, q3⟩ := h6.2 x hx
    dsimp only
    rw [e 2 (by decide), ew, va_up_self]
    refine ⟨q1, q2, fun j hj => ?_⟩
    by_cases hxr : x = r
    · subst hxr
      rw [va_up_self]
      simp only [upd]
      by_cases hji : j = i
      · subst hji; rw [if_pos rfl, if_pos rfl]
      · rw [if_neg (by omega), if_neg hji]; exact q3 j hj
    · rw [va_up_ne _ _ hxr]
      have hw := (h6.2 r hr).1
      simp only [upd]
      rw [if_neg (by omega)]
      exact q3 j hj
  · unfold QSim at *
    dsimp only
    rw [e 14 (by decide), e 15 (by decide)]
    exact h7
  · intro d hd
    have := h8 d hd
    unfold DSim at *
    dsimp only
    rw [e 6 (by decide), e 7 (by decide), e 8 (by decide), e 9 (by decide), e 10 (by decide)]
    exact this
/-- one more waits -/
theorem SB.later {σ : SX} {τ : SM} (h : SB σ τ) {d e : Nat} (hd : d < σ.2.2.2.1.1) (he : (σ.2.2.2.1.2 d).2 4 = some e) (p : Int32) (hw : σ.1 7 < 12) : ¬ τ.1 13 = 12 ∧ vp_in (τ.1 13) 12 ∧ τ.1 13 = σ.1 7 ∧ SB (f1_doLater σ d p).2 (va_up τ.1 13 (τ.1 13 + 1), va_up (va_up τ.2 14 (upd (τ.2 14) (τ.1 13).toNatClampNeg (nI e))) 15 (upd (τ.2 15) (τ.1 13).toNatClampNeg p)) := by
  obtain ⟨h1, h2, h3, h4, h5, h6, ⟨hq, w, hh, hw12, e6, e7, e13, hj⟩, h8⟩ := h
  have hw2 : w < 12 := by
    rw [e7, show (12 : Int32) = nI 12 from rfl, nI_ltI (by omega) (by decide)] at hw
    exact hw
  have hwf := (XK.later h1 d hd p).1
  have ex := x_end_at hh hw12 e6 e7
  refine ⟨by rw [e13, show (12 : Int32) = nI 12 from rfl, nI_eq (by omega) (by decide)]; omega, by rw [e13]; exact vp_in_nI hw2 (by decide), by rw [e13, e7], ?_⟩
  have ef : (f1_doLater σ d p).2 = (va_up σ.1 7 (σ.1 7 + 1), va_up σ.2.1 5 (upd (σ.2.1 5) (x_end σ).toNatClampNeg p), va_up σ.2.2.1 4 (va_up (σ.2.2.1 4) (x_end σ).toNatClampNeg ((σ.2.2.2.1.2 d).2 4)), σ.2.2.2) := by
    simp only [f1_doLater]
    rw [if_pos hw]
  rw [ef] at hwf ⊢
  have cw : (τ.1 13).toNatClampNeg = w := by rw [e13, nI_clamp (by omega)]
  have cx : (x_end σ).toNatClampNeg = (hq + w) % 12 := by rw [ex, nI_clamp (by omega)]
  rw [cx] at hwf ⊢
  rw [cw]
  have eb : ∀ k, k ≠ 14 → k ≠ 15 → (va_up (va_up τ.2 14 (upd (τ.2 14) w (nI e))) 15 (upd (τ.2 15) w p)) k = τ.2 k := fun k h1 h2 => by rw [va_up_ne _ _ h2, va_up_ne _ _ h1]
  refine ⟨hwf, ?_, ?_, ?_, ?_, ?_, ?_, ?_⟩
  · unfold CSim at *
    dsimp only
    rw [va_up_ne _ _ (by decide), va_up_ne _ _ (by decide), va_up_ne _ _ (by decide), va_up_ne _ _ (by decide), va_up_ne _ _ (by decide)]
    exact h2
  · unfold SSim at *
    dsimp only
    rw [va_up_ne _ _ (by decide), va_up_ne _ _ (by decide)]
    exact h3
  · unfold BSim at *
    dsimp only
    rw [eb 0 (by decide) (by decide), va_up_ne _ _ (by decide)]
    exact h4
  · unfold PSim at *
    dsimp only
    rw [eb 4 (by decide) (by decide), eb 11 (by decide) (by decide), eb 12 (by decide) (by decide), va_up_ne _ _ (by decide), va_up_ne _ _ (by decide), va_up_ne _ _ (by decide)]
    exact h5
  · unfold RSim at *
    dsimp only
    rw [eb 2 (by decide) (by decide), eb 3 (by decide) (by decide)]
    exact h6
  · refine ⟨hq, w + 1, hh, by omega, ?_, ?_, ?_, ?_⟩
    · dsimp only; rw [va_up_ne _ _ (by decide)]; exact e6
    · dsimp only; rw [va_up_self, e7, nI_1]
    · dsimp only; rw [va_up_self, e13, nI_1]
    · intro j hjw
      dsimp only
      rw [show (va_up σ.2.2.1 4 (va_up (σ.2.2.1 4) ((hq + w) % 12) ((σ.2.2.2.1.2 d).2 4))) 4 = va_up (σ.2.2.1 4) ((hq + w) % 12) ((σ.2.2.2.1.2 d).2 4) from va_up_self _ _ _, show (va_up (va_up τ.2 14 (upd (τ.2 14) w (nI e))) 15 (upd (τ.2 15) w p)) 14 = upd (τ.2 14) w (nI e) from by rw [va_up_ne _ _ (by decide), va_up_self], show (va_up σ.2.1 5 (upd (σ.2.1 5) ((hq + w) % 12) p)) 5 = upd (σ.2.1 5) ((hq + w) % 12) p from va_up_self _ _ _, show (va_up (va_up τ.2 14 (upd (τ.2 14) w (nI e))) 15 (upd (τ.2 15) w p)) 15 = upd (τ.2 15) w p from va_up_self _ _ _]
      by_cases hjj : j = w
      · subst hjj
        refine ⟨e, by rw [va_up_self]; exact he, by simp [upd], by simp [upd]⟩
      · obtain ⟨d', q1, q2, q3⟩ := hj j (by omega)
        have hne : ¬ (hq + j) % 12 = (hq + w) % 12 := by omega
        exact ⟨d', by rw [va_up_ne _ _ hne]; exact q1, by simp only [upd]; rw [if_neg hjj]; exact q2, by simp only [upd]; rw [if_neg hne, if_neg hjj]; exact q3⟩
  · intro x hx
    have := h8 x hx
    unfold DSim at *
    dsimp only
    rw [eb 6 (by decide) (by decide), eb 7 (by decide) (by decide), eb 8 (by decide) (by decide), eb 9 (by decide) (by decide), eb 10 (by decide) (by decide)]
    exact this
