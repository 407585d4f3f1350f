/-! tick -/
section TICK
variable {n : Nat} {σ : SX} {τ : SM}
/-- the queue moved up by one -/
def shf (f : Nat → Int32) (i : Nat) : Nat → Int32 := fun j => if j < i then f (j + 1) else f j
theorem shf_0 (f : Nat → Int32) : shf f 0 = f := by funext j; simp [shf]
theorem shf_s (f : Nat → Int32) (i : Nat) : upd (shf f i) i (shf f i (i + 1)) = shf f (i + 1) := by
  funext j
  simp only [upd, shf]
  by_cases c : j = i
  · subst c
    rw [if_pos rfl, if_neg (by omega), if_pos (by omega)]
  · rw [if_neg c]
    by_cases c2 : j < i
    · rw [if_pos c2, if_pos (by omega)]
    · rw [if_neg c2, if_neg (by omega)]
abbrev m_shf (τ : SM) (i : Nat) : SM := (τ.1, va_up (va_up τ.2 14 (shf (τ.2 14) i)) 15 (shf (τ.2 15) i))
theorem m_shf_s (τ : SM) (i : Nat) : ((m_shf τ i).1, va_up (va_up (m_shf τ i).2 14 (upd ((m_shf τ i).2 14) i ((m_shf τ i).2 14 (i + 1)))) 15 (upd ((m_shf τ i).2 15) i ((m_shf τ i).2 15 (i + 1)))) = m_shf τ (i + 1) := by
  have e14 : (m_shf τ i).2 14 = shf (τ.2 14) i := by show (va_up (va_up τ.2 14 (shf (τ.2 14) i)) 15 (shf (τ.2 15) i)) 14 = _; rw [va_up_ne _ _ (by decide), va_up_self]
  have e15 : (m_shf τ i).2 15 = shf (τ.2 15) i := by show (va_up (va_up τ.2 14 (shf (τ.2 14) i)) 15 (shf (τ.2 15) i)) 15 = _; rw [va_up_self]
  rw [e14, e15, shf_s, shf_s]
  refine Prod.ext rfl ?_
  funext k
  show (va_up (va_up (va_up (va_up τ.2 14 (shf (τ.2 14) i)) 15 (shf (τ.2 15) i)) 14 (shf (τ.2 14) (i + 1))) 15 (shf (τ.2 15) (i + 1))) k = (va_up (va_up τ.2 14 (shf (τ.2 14) (i + 1))) 15 (shf (τ.2 15) (i + 1))) k
  by_cases c : k = 15
  · subst c; rw [va_up_self, va_up_self]
  · rw [va_up_ne _ _ c, va_up_ne _ _ c]
    by_cases c2 : k = 14
    · subst c2; rw [va_up_self, va_up_self]
    · rw [va_up_ne _ _ c2, va_up_ne _ _ c2, va_up_ne _ _ c, va_up_ne _ _ c2]
theorem tick_53 {K : SM → Int32 → Int32 → Int32 → Prop} {P : Int32 → SM → Prop} {v1 v2 v3 v4 v5 : Int32} {w : Nat} (hw : w < 12) (h13 : τ.1 13 = nI w) (hP : wpL_X2_doing (m_shf τ w) v4 v5 (fun (r3 : Int32) (σ2 : SM) => (¬ r3 = 0 → ∀ x1 : Int32, x1 = v2 + 0 → ∀ y : Int32, y = σ2.1 18 + 1 → ∀ z : Int32, z = v3 + 1 → K (m_I (m_I σ2 18 y) 17 r3) v1 x1 z) ∧ (r3 = 0 → ∀ x1 : Int32, x1 = v2 + 1 → ∀ y : Int32, y = σ2.1 18 + 0 → ∀ z : Int32, z = v3 + 1 → K (m_I (m_I σ2 18 y) 17 ((m_I σ2 18 y).1 17)) v1 x1 z))) : ∀ (m i : Nat), i + m = w → rn_X2_tick_53 K m (m_shf τ i) v1 v2 v3 v4 v5 (nI i) P := by
  have hend : ∀ K53, wp_X2_tick_53 (m_shf τ w) v1 v2 v3 v4 v5 (nI w) K K53 P := by
    intro K53
    refine ⟨fun _ => ?_, fun c => absurd (by show τ.1 13 ≤ nI w; rw [h13]; exact nI_le (Nat.le_refl w) (by omega)) c⟩
    have hm : ∀ r σ2, ((¬ r = 0 → ∀ x1 : Int32, x1 = v2 + 0 → ∀ y : Int32, y = σ2.1 18 + 1 → ∀ z : Int32, z = v3 + 1 → K (m_I (m_I σ2 18 y) 17 r) v1 x1 z) ∧ (r = 0 → ∀ x1 : Int32, x1 = v2 + 1 → ∀ y : Int32, y = σ2.1 18 + 0 → ∀ z : Int32, z = v3 + 1 → K (m_I (m_I σ2 18 y) 17 ((m_I σ2 18 y).1 17)) v1 x1 z)) → ((¬ r = 0 → wp_X2_tick_121 σ2 v1 v2 v3 v4 v5 r 0 v2 K K53 P) ∧ (r = 0 → wp_X2_tick_121 σ2 v1 v2 v3 v4 v5 r 1 v2 K K53 P)) := by
      intro r σ2 hh
      refine ⟨fun c x1 e1 => ⟨fun _ y ey s2 es2 => ⟨fun _ s3 es3 z ez => ?_, fun q => absurd q c⟩, fun q => absurd q c⟩, fun c x1 e1 => ⟨fun q => absurd c q, fun _ y ey s2 es2 => ⟨fun q => absurd c q, fun _ s3 es3 z ez => ?_⟩⟩⟩
      · subst es2; subst es3
        exact hh.1 c x1 e1 y ey z ez
      · subst es2; subst es3
        exact hh.2 c x1 e1 y ey z ez
    have e : (fun (r3 : Int32) (σ2 : SM) => ((¬ r3 = 0 → ∀ x1 : Int32, x1 = v2 + 0 → ∀ y : Int32, y = σ2.1 18 + 1 → ∀ z : Int32, z = v3 + 1 → K (m_I (m_I σ2 18 y) 17 r3) v1 x1 z) ∧ (r3 = 0 → ∀ x1 : Int32, x1 = v2 + 1 → ∀ y : Int32, y = σ2.1 18 + 0 → ∀ z : Int32, z = v3 + 1 → K (m_I (m_I σ2 18 y) 17 ((m_I σ2 18 y).1 17)) v1 x1 z))) = (fun (r3 : Int32) (σ2 : SM) => ((¬ r3 = 0 → wp_X2_tick_121 σ2 v1 v2 v3 v4 v5 r3 0 v2 K K53 P) ∧ (r3 = 0 → wp_X2_tick_121 σ2 v1 v2 v3 v4 v5 r3 1 v2 K K53 P))) := by
      funext r σ2
      apply propext
      refine ⟨hm r σ2, fun hh => ⟨fun c x1 e1 y ey z ez => ?_, fun c x1 e1 y ey z ez => ?_⟩⟩
      · exact ((hh.1 c x1 e1).1 c y ey _ rfl).1 c _ rfl z ez
      · exact ((hh.2 c x1 e1).2 c y ey _ rfl).2 c _ rfl z ez
    rw [← e]
    exact hP
  intro m
  induction m with
  | zero =>
    intro i hi
    have : i = w := by omega
    subst this
    exact hend _
  | succ m ih =>
    intro i hi
    have hlt : i < w := by omega
    refine ⟨fun c => absurd (show τ.1 13 ≤ nI i from c) (by rw [h13]; exact nI_ge hlt (by omega)), fun _ x5 e5 => ?_⟩
    rw [nI_1] at e5
    subst e5
    have hi1 : vp_in (nI (i + 1)) 12 := vp_in_nI (by omega) (by decide)
    have hi0 : vp_in (nI i) 12 := vp_in_nI (by omega) (by decide)
    refine ⟨hi1, fun x6 e6 => ⟨hi0, fun σ7 e7 x8 e8 => ?_⟩⟩
    rw [nI_1] at e8
    subst e8
    refine ⟨hi1, fun x9 e9 => ⟨hi0, fun σ10 e10 x11 e11 => ?_⟩⟩
    rw [nI_1] at e11
    subst e11
    rw [nI_clamp (by omega)] at e6 e7 e9 e10
    have : σ10 = m_shf τ (i + 1) := by
      rw [← m_shf_s τ i]
      subst e6
      subst e7
      subst e9
      rw [e10]
      dsimp only
      rw [show (va_up (va_up (va_up τ.2 14 (shf (τ.2 14) i)) 15 (shf (τ.2 15) i)) 14 (upd ((va_up (va_up τ.2 14 (shf (τ.2 14) i)) 15 (shf (τ.2 15) i)) 14) i ((va_up (va_up τ.2 14 (shf (τ.2 14) i)) 15 (shf (τ.2 15) i)) 14 (i + 1)))) 15 = (va_up (va_up τ.2 14 (shf (τ.2 14) i)) 15 (shf (τ.2 15) i)) 15 from va_up_ne _ _ (by decide)]
    rw [this]
    exact ih (i + 1) (by omega)
/-- the longest waiting, taken out on both sides -/
theorem SB.out (h : SB σ τ) {w : Nat} (h7 : σ.1 7 = nI (w + 1)) (hw : w < 12) : ∃ d, σ.2.2.1 4 (σ.1 6).toNatClampNeg = some d ∧ τ.2 14 0 = nI d ∧ σ.2.1 5 (σ.1 6).toNatClampNeg = τ.2 15 0 ∧ SB (x_out σ) (m_shf (m_I τ 13 (nI w)) w) := by
  have hWF : WF1 σ := ⟨h.1, by rw [h7, nI_toInt (by omega)]; omega⟩
  have hout := (wf_out hWF).1
  obtain ⟨h1, h2, h3, h4, h5, h6, ⟨hq, w', hh, hw12, e6, e7, e13, hj⟩, h8⟩ := h
  have ew : w' = w + 1 := (nI_eq (by omega) (by omega)).mp (e7.symm.trans h7)
  subst ew
  have cq : (σ.1 6).toNatClampNeg = hq := by rw [e6, nI_clamp (by omega)]
  obtain ⟨d, j1, j2, j3⟩ := hj 0 (by omega)
  rw [Nat.add_zero, Nat.mod_eq_of_lt hh] at j1 j3
  rw [cq]
  refine ⟨d, j1, j2, j3, ?_⟩
  have eb : ∀ k, k ≠ 14 → k ≠ 15 → (m_shf (m_I τ 13 (nI w)) w).2 k = τ.2 k := fun k k1 k2 => by
    show (va_up (va_up τ.2 14 (shf (τ.2 14) w)) 15 (shf (τ.2 15) w)) k = τ.2 k
    rw [va_up_ne _ _ k2, va_up_ne _ _ k1]
  have ei : ∀ k, k ≠ 13 → (m_shf (m_I τ 13 (nI w)) w).1 k = τ.1 k := fun k k1 => va_up_ne τ.1 (nI w) k1
  have es : ∀ k, k ≠ 6 → k ≠ 7 → (x_out σ).1 k = σ.1 k := fun k k1 k2 => by
    simp only [x_out]
    rw [va_up_ne _ _ k2, va_up_ne _ _ k1]
  have eo : ∀ k, k ≠ 4 → (x_out σ).2.2.1 k = σ.2.2.1 k := fun k k1 => by
    simp only [x_out]
    rw [va_up_ne _ _ k1]
  refine ⟨hout, ?_, ?_, ?_, ?_, ?_, ?_, ?_⟩
  · unfold CSim at *
    rw [es 8 (by decide) (by decide), es 10 (by decide) (by decide), ei 5 (by decide), ei 1 (by decide), ei 18 (by decide)]
    exact h2
  · unfold SSim at *
    rw [es 9 (by decide) (by decide), ei 16 (by decide)]
    exact h3
  · unfold BSim at *
    rw [eb 0 (by decide) (by decide)]
    exact h4
  · unfold PSim at *
    rw [eb 4 (by decide) (by decide), eb 11 (by decide) (by decide), eb 12 (by decide) (by decide), eo 1 (by decide), eo 2 (by decide), eo 3 (by decide)]
    exact h5
  · unfold RSim at *
    rw [eb 2 (by decide) (by decide), eb 3 (by decide) (by decide)]
    exact h6
  · refine ⟨(hq + 1) % 12, w, Nat.mod_lt _ (by decide), by omega, ?_, ?_, ?_, ?_⟩
    · simp only [x_out]
      rw [va_up_ne _ _ (by decide), va_up_self, e6, nI_1, show (12 : Int32) = nI 12 from rfl, pk_rem (by omega) (by decide) (by decide)]
    · simp only [x_out]
      rw [va_up_self, e7, nI_pred]
    · show (va_up τ.1 13 (nI w)) 13 = _
      rw [va_up_self]
    · intro j hjw
      obtain ⟨d', q1, q2, q3⟩ := hj (j + 1) (by omega)
      have em : ((hq + 1) % 12 + j) % 12 = (hq + (j + 1)) % 12 := by omega
      have hne : (hq + (j + 1)) % 12 ≠ hq := by omega
      rw [em]
      refine ⟨d', ?_, ?_, ?_⟩
      · simp only [x_out]
        rw [va_up_self, cq, va_up_ne _ _ hne]
        exact q1
      · show (va_up (va_up τ.2 14 (shf (τ.2 14) w)) 15 (shf (τ.2 15) w)) 14 j = _
        rw [va_up_ne _ _ (by decide), va_up_self]
        simp only [shf]
        rw [if_pos hjw]
        exact q2
      · show _ = (va_up (va_up τ.2 14 (shf (τ.2 14) w)) 15 (shf (τ.2 15) w)) 15 j
        rw [va_up_self]
        simp only [shf]
        rw [if_pos hjw]
        exact q3
  · intro x hx
    have := h8 x hx
    unfold DSim at *
    rw [eb 6 (by decide) (by decide), eb 7 (by decide) (by decide), eb 8 (by decide) (by decide), eb 9 (by decide) (by decide), eb 10 (by decide) (by decide)]
    exact this
theorem tick_run : ∀ (m i : Nat) (σ : SX) (τ : SM) (g : Int32), i + m ≤ 12 → Sim n σ τ → (m : Int) ≤ (σ.1 7).toInt → rn_X2_tick_19 m τ (nI (i + m)) g (nI i) (fun r u => r = (fx_tick m σ g).1 ∧ Sim n (fx_tick m σ g).2 u) := by
  intro m
  induction m with
  | zero =>
    intro i σ τ g hi h hq
    exact ⟨fun _ => ⟨rfl, h⟩, fun c => absurd (nI_le (Nat.le_refl i) (by omega)) c⟩
  | succ m ih =>
    intro i σ τ g hi h hq
    have hv0 : vp_in (0 : Int32) 12 := vp_in_nI (n := 0) (by decide) (by decide)
    refine ⟨fun c => absurd c (nI_ge (by omega) (by omega)), fun _ => ⟨hv0, fun x2 e2 => ⟨hv0, fun x3 e3 x4 e4 σ5 e5 => ?_⟩⟩⟩
    obtain ⟨hq', w', hh, hw12, e6, e7, e13, -⟩ := h.1.2.2.2.2.2.2.1
    have hw0 : 1 ≤ w' := by rw [e7, nI_toInt (by omega)] at hq; omega
    obtain ⟨w, rfl⟩ : ∃ w, w' = w + 1 := ⟨w' - 1, by omega⟩
    rw [e13, nI_pred] at e4
    subst e4
    have e5' : σ5 = m_I τ 13 (nI w) := e5
    subst e5'
    have h1 : SB (sxI σ 11 0) τ := h.1.X 11 0 (by decide)
    have e7' : (sxI σ 11 0).1 7 = nI (w + 1) := by rw [sI_ne _ _ _ _ (by decide)]; exact e7
    obtain ⟨d, o1, o2, o3, hS⟩ := h1.out e7' (by omega)
    have hWF : WF1 (sxI σ 11 0) := ⟨h1.1, by rw [e7', nI_toInt (by omega)]; omega⟩
    have ho := okO.q hWF
    have cz : (0 : Int32).toNatClampNeg = 0 := by decide
    rw [cz, o2] at e2
    rw [cz, ← o3] at e3
    have e2' : x2 = oI ((sxI σ 11 0).2.2.1 4 ((sxI σ 11 0).1 6).toNatClampNeg) := by rw [e2, o1]; rfl
    subst e2'; subst e3
    have hX := fdo_K 16 (x_out (sxI σ 11 0)) _ ((sxI σ 11 0).2.1 5 ((sxI σ 11 0).1 6).toNatClampNeg) hS.1 ho
    have h12 := fdo_12 16 (x_out (sxI σ 11 0)) ((sxI σ 11 0).2.2.1 4 ((sxI σ 11 0).1 6).toNatClampNeg) ((sxI σ 11 0).2.1 5 ((sxI σ 11 0).1 6).toNatClampNeg)
    have x11 : (x_out (sxI σ 11 0)).1 11 = 0 := by
      simp only [x_out]
      rw [va_up_ne _ _ (by decide), va_up_ne _ _ (by decide), va_up_self]
    have x12 : (x_out (sxI σ 11 0)).1 12 = σ.1 12 := by
      simp only [x_out]
      rw [va_up_ne _ _ (by decide), va_up_ne _ _ (by decide), va_up_ne _ _ (by decide)]
    have hK := tick1_K ⟨h.1.1, by rw [e7, nI_toInt (by omega)]; omega⟩
    refine ⟨w, ?_⟩
    rw [show m_I τ 13 (nI w) = m_shf (m_I τ 13 (nI w)) 0 from by
      refine Prod.ext rfl ?_
      show τ.2 = va_up (va_up τ.2 14 (shf (τ.2 14) 0)) 15 (shf (τ.2 15) 0)
      rw [shf_0, shf_0, up_same, up_same]]
    refine tick_53 (w := w) (by omega) (by show (va_up τ.1 13 (nI w)) 13 = nI w; rw [va_up_self]) ?_ w 0 (by omega)
    refine doing_sim hS x11 ho (fun τ' hS' h17 _ _ => ?_)
    have ft : fx_tick (m + 1) σ g = fx_tick m (fx_tick1 σ) (if (fx_tick1 σ).1 11 = 0 then g + 1 else g) := rfl
    rw [ft]
    have hf : fx_tick1 σ = f1_noteFailure (fdo 16 (x_out (sxI σ 11 0)) ((sxI σ 11 0).2.2.1 4 ((sxI σ 11 0).1 6).toNatClampNeg) ((sxI σ 11 0).2.1 5 ((sxI σ 11 0).1 6).toNatClampNeg)).2 := rfl
    obtain ⟨q, hqq⟩ : ∃ q, q = fdo 16 (x_out (sxI σ 11 0)) ((sxI σ 11 0).2.2.1 4 ((sxI σ 11 0).1 6).toNatClampNeg) ((sxI σ 11 0).2.1 5 ((sxI σ 11 0).1 6).toNatClampNeg) := ⟨_, rfl⟩
    rw [← hqq] at hS' hX h12 hf ⊢
    rw [hf] at hK
    have hd1 : q.2.2.2.2.1.1 ≤ n := by rw [hX.2.1]; exact h.2.1
    have hr1 : q.2.2.2.2.2.1 ≤ n := by rw [hX.2.2.2.1]; exact h.2.2.1
    have q12 : q.2.1 12 = τ'.1 17 := by
      rw [h12, x12, h.2.2.2, h17]
      exact (va_up_ne τ.1 (k := 13) (j := 17) (nI w) (by decide)).symm
    rw [hf, note_11]
    have hm7 : (m : Int) ≤ ((f1_noteFailure q.2).1 7).toInt := by
      have h7 := hK.2
      omega
    refine ⟨fun c x1 e1 y ey z ez => ?_, fun c x1 e1 y ey z ez => ?_⟩
    · rw [if_neg c]
      have hSim : Sim n (f1_noteFailure q.2) (m_I (m_I τ' 18 y) 17 (q.2.1 11)) := by
        refine ⟨(hS'.note (by rw [ey, if_neg c])).I 17 _ (by decide), by rw [note_n]; exact hd1, by rw [note_n]; exact hr1, ?_⟩
        rw [note_12, if_neg c, mI_self]
      have := ih (i + 1) (f1_noteFailure q.2) (m_I (m_I τ' 18 y) 17 (q.2.1 11)) g (by omega) hSim hm7
      rw [e1, ez, nI_1, show g + 0 = g from by simp, show i + (m + 1) = i + 1 + m by omega]
      exact this
    · rw [if_pos c]
      have hSim : Sim n (f1_noteFailure q.2) (m_I (m_I τ' 18 y) 17 ((m_I τ' 18 y).1 17)) := by
        refine ⟨(hS'.note (by rw [ey, if_pos c])).I 17 _ (by decide), by rw [note_n]; exact hd1, by rw [note_n]; exact hr1, ?_⟩
        rw [note_12, if_pos c, mI_self, mI_ne _ _ _ _ (by decide)]
        exact q12
      have := ih (i + 1) (f1_noteFailure q.2) (m_I (m_I τ' 18 y) 17 ((m_I τ' 18 y).1 17)) (g + 1) (by omega) hSim hm7
      rw [e1, ez, nI_1, show i + (m + 1) = i + 1 + m by omega]
      exact this
theorem S_tick (h : Sim n σ τ) : wpL_X2_tick τ (fun r u => r = (f1_tick σ).1 ∧ Sim (n + 1) (f1_tick σ).2 u) := by
  intro σ1 e1 σ2 e2
  have e2' : σ2 = m_I (m_I τ 16 0) 17 0 := by rw [e2, e1]
  subst e2'
  obtain ⟨hq', w, hh, hw12, e6, e7, e13, -⟩ := h.1.2.2.2.2.2.2.1
  have e13' : (m_I (m_I τ 16 0) 17 0).1 13 = nI (0 + w) := by rw [mI_ne _ _ _ _ (by decide), mI_ne _ _ _ _ (by decide), e13, Nat.zero_add]
  rw [e13']
  have hb : (f1_begin σ).1 7 = nI w := by
    show (sxI (sxI (sxI σ 9 0) 11 0) 12 0).1 7 = _
    rw [sI_ne _ _ _ _ (by decide), sI_ne _ _ _ _ (by decide), sI_ne _ _ _ _ (by decide)]
    exact e7
  have hS : Sim (n + 1) (f1_begin σ) (m_I (m_I τ 16 0) 17 0) := ⟨(begin_SB h.1).I 17 0 (by decide), Nat.le_succ_of_le h.2.1, Nat.le_succ_of_le h.2.2.1, by rw [begin_12, mI_self]⟩
  have := tick_run (n := n + 1) w 0 (f1_begin σ) (m_I (m_I τ 16 0) 17 0) 0 (by omega) hS (by rw [hb, nI_toInt (by omega)]; omega)
  refine ⟨w, ?_⟩
  simp only [f1_tick]
  rw [e7, nI_clamp (by omega)]
  exact this
end TICK
