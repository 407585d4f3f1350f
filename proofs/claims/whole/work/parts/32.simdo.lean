/-! act, pull, tick -/
abbrev k12 (rec : RecX) : Prop := ∀ (σ : SX) (o : Option Nat) (p : Int32), (rec σ o p).2.1 12 = σ.1 12
theorem sI_12 (σ : SX) (k : Nat) (v : Int32) (h : 12 ≠ k) : (sxI σ k v).1 12 = σ.1 12 := sI_ne σ k v 12 h
theorem later_12 (σ : SX) (d : Nat) (p : Int32) : (f1_doLater σ d p).2.1 12 = σ.1 12 := by
  simp only [f1_doLater]
  split
  · exact va_up_ne σ.1 (k := 7) (j := 12) (σ.1 7 + 1) (by decide)
  · exact sI_12 σ 11 _ (by decide)
theorem alone_12 (σ : SX) (d : Nat) (p : Int32) : (f1_doAlone σ d p).2.1 12 = σ.1 12 := by
  have hf : ∀ v, (f1_fail σ v).2.1 12 = σ.1 12 := fun v => sI_12 σ 11 v (by decide)
  simp only [f1_doAlone]
  split
  · rfl
  split
  · simp only [f1_doSet]; rw [pour_I]
  split
  · simp only [f1_doAdd]; rw [pour_I]
  split
  · simp only [f1_doDraw]
    split
    · exact hf _
    split
    · dsimp only; rw [pour_I, pour_I]
    · exact hf _
  split
  · unfold f1_doMark
    split
    · exact hf _
    · dsimp only
      split
      · exact hf _
      · rfl
  split
  · split
    · exact hf _
    · rfl
  split
  · rfl
  · exact hf _
theorem it_12 {rec : RecX} (hr : k12 rec) {oi : SX → Nat → Option Nat} : ∀ (n i : Nat) (σ : SX) (g : Int32), (fx_it rec oi n i σ g).2.1 12 = σ.1 12 := by
  intro n
  induction n with
  | zero => intro i σ g; rfl
  | succ n ih =>
    intro i σ g
    simp only [fx_it]
    split
    · rw [ih, hr]
    · rfl
theorem to_12 {rec : RecX} (hr : k12 rec) (σ : SX) (d : Nat) (p : Int32) : (fx_to rec σ d p).2.1 12 = σ.1 12 := by
  simp only [fx_to]
  split
  · simp only [fx_then]
    split
    · rw [hr, hr]
    · exact hr _ _ _
  split
  · split
    · exact hr _ _ _
    · exact hr _ _ _
  split
  · exact it_12 hr _ _ _ _
  split
  · simp only [fx_try]
    split
    · exact hr _ _ _
    · rw [hr, sI_12 _ 11 _ (by decide), hr]
  split
  · exact later_12 σ d p
  split
  · simp only [fx_count]
    split
    · exact hr _ _ _
    · exact hr _ _ _
  split
  · exact it_12 hr _ _ _ _
  split
  · exact hr _ _ _
  · exact sI_12 σ 11 _ (by decide)
theorem fdo_12 : ∀ k, k12 (fdo k) := by
  intro k
  induction k with
  | zero =>
    intro σ o p
    simp only [fdo]
    split
    · exact (sI_12 _ 11 _ (by decide)).trans (sI_12 σ 9 _ (by decide))
    · exact sI_12 σ 11 _ (by decide)
  | succ k ih =>
    intro σ o p
    simp only [fdo]
    split
    · cases o with
      | none => exact (sI_12 _ 11 _ (by decide)).trans (sI_12 σ 9 _ (by decide))
      | some d =>
        dsimp only
        split
        · rw [to_12 ih, sI_12 σ 9 _ (by decide)]
        · rw [alone_12, sI_12 σ 9 _ (by decide)]
    · exact sI_12 σ 11 _ (by decide)
section DOS
variable {n : Nat} {σ : SX} {τ : SM}
theorem begin_SB (h : SB σ τ) : SB (f1_begin σ) (m_I τ 16 0) := ((h.steps (n := 0) (by decide) (v := 0) (w := 0) rfl rfl).X 11 0 (by decide)).X 12 0 (by decide)
theorem begin_11 (σ : SX) : (f1_begin σ).1 11 = 0 := by show (sxI (sxI (sxI σ 9 0) 11 0) 12 0).1 11 = 0; rw [sI_ne _ _ _ _ (by decide), sI_self]
theorem begin_12 (σ : SX) : (f1_begin σ).1 12 = 0 := sI_self _ _ _
theorem SB.c18 (h : SB σ τ) {v w : Int32} (e : w = v) : SB (sxI σ 10 v) (m_I τ 18 w) := by
  obtain ⟨h1, h2, h3, h4, h5, h6, h7, h8⟩ := h
  subst e
  refine ⟨(XK.sI h1 10 w (by decide) (by decide)).1, ?_, ?_, h4, h5, h6, ?_, h8⟩
  · obtain ⟨c1, c2, c3, c4, c5, c6⟩ := h2
    exact ⟨c1, c2, by rw [sI_ne σ 10 w 8 (by decide)]; exact c3, by rw [mI_ne τ 18 w 5 (by decide)]; exact c4, by rw [mI_ne τ 18 w 1 (by decide)]; exact c5, by rw [mI_self, sI_self]⟩
  · unfold SSim at *
    rw [sI_ne σ 10 w 9 (by decide), mI_ne τ 18 w 16 (by decide)]
    exact h3
  · unfold QSim at *
    rw [sI_ne σ 10 w 6 (by decide), sI_ne σ 10 w 7 (by decide), mI_ne τ 18 w 13 (by decide)]
    exact h7
theorem SB.note (h : SB σ τ) {w : Int32} (e : w = τ.1 18 + (if σ.1 11 = 0 then 0 else 1)) : SB (f1_noteFailure σ) (m_I τ 18 w) := by
  have e10 : τ.1 18 = σ.1 10 := h.2.1.2.2.2.2.2
  unfold f1_noteFailure
  by_cases c : σ.1 11 = 0
  · rw [if_pos c]
    rw [if_pos c] at e
    have e' : w = σ.1 10 := by rw [e, e10]; simp
    have := h.c18 e'
    rw [show sxI σ 10 (σ.1 10) = σ from by unfold sxI; rw [up_same]] at this
    exact this
  · rw [if_neg c]
    rw [if_neg c] at e
    exact (h.c18 (v := σ.1 10 + 1) (w := w) (by rw [e, e10])).X 12 _ (by decide)
theorem note_12 (σ : SX) : (f1_noteFailure σ).1 12 = if σ.1 11 = 0 then σ.1 12 else σ.1 11 := by
  unfold f1_noteFailure
  split
  · rfl
  · exact sI_self _ _ _
theorem note_11 (σ : SX) : (f1_noteFailure σ).1 11 = σ.1 11 := by
  unfold f1_noteFailure
  split
  · rfl
  · rw [sI_ne _ _ _ _ (by decide), sI_ne _ _ _ _ (by decide)]
theorem note_n (σ : SX) : (f1_noteFailure σ).2 = σ.2 := by unfold f1_noteFailure; split <;> rfl
theorem S_refuse (h : Sim n σ τ) (r : Int32) {P : Int32 → SM → Prop} (hP : ∀ u, Sim (n + 1) (f1_refuse σ r).2 u → P 0 u) : wp_X2_refuse_0 τ r P := by
  intro σ1 e1 σ2 e2
  subst e1; subst e2
  refine hP _ ⟨((h.1.I 17 r (by decide)).steps (n := 0) (by decide) (v := 0) (w := 0) rfl rfl).X 12 r (by decide), Nat.le_succ_of_le h.2.1, Nat.le_succ_of_le h.2.2.1, ?_⟩
  show (sxI (sxI σ 9 0) 12 r).1 12 = (m_I (m_I τ 17 r) 16 0).1 17
  rw [sI_self, mI_ne _ _ _ _ (by decide), mI_self]
theorem note_Sim {u : SM} {f : Int32} (h : SB σ u) (hf : f = σ.1 11) (h12 : σ.1 12 = 0) (hd : σ.2.2.2.1.1 ≤ n) (hr : σ.2.2.2.2.1 ≤ n) {w : Int32} (e : w = u.1 18 + (if σ.1 11 = 0 then 0 else 1)) (h17 : u.1 17 = f) : Sim n (f1_noteFailure σ) (m_I u 18 w) := by
  refine ⟨h.note e, ?_, ?_, ?_⟩
  · rw [note_n]; exact hd
  · rw [note_n]; exact hr
  · rw [note_12, mI_ne _ _ _ _ (by decide), h17, hf]
    split
    · rename_i c; rw [c, h12]
    · rfl
theorem S_act (h : Sim n σ τ) (x p : Int32) : wp_X2_act_0 τ x p (fun r u => r = (f1_act σ x p).1 ∧ Sim (n + 1) (f1_act σ x p).2 u) := by
  intro r1 e1
  subst e1
  simp only [f1_act]
  refine ⟨fun c => ?_, fun c => ?_⟩
  · rw [if_neg c]
    have hin := in_S c
    obtain ⟨i, hi, ei⟩ := vp_in_of hin (by decide)
    have cx : x.toNatClampNeg = i := by rw [ei, nI_clamp (by omega)]
    have e11 := h.1.2.2.2.2.1.2.1 i hi
    have ho : okO σ (σ.2.2.1 2 i) := fun d hd => h.1.1.1 2 i d (Or.inl rfl) hd
    refine ⟨hin, fun x3 e3 => ?_⟩
    rw [cx, e11] at e3
    subst e3
    rw [oI_none h.1 ho, cx]
    refine ⟨fun q σ5 e5 => ⟨hin, fun x6 e6 => ?_⟩, fun q => ?_⟩
    · subst e5
      dsimp only at e6
      rw [e11] at e6
      subst e6
      cases hs : σ.2.2.1 2 i with
      | none => exact absurd hs q
      | some d =>
        rw [hs] at ho
        have hX := fdo_K 16 (f1_begin σ) (some d) p (begin_SB h.1).1 ho
        have h12 := (fdo_12 16 (f1_begin σ) (some d) p).trans (begin_12 σ)
        refine doing_sim (σ := f1_begin σ) (begin_SB h.1) (begin_11 σ) ho (fun τ' hS h17 hv hz => ?_)
        dsimp only
        obtain ⟨q, hq⟩ : ∃ q, q = fdo 16 (f1_begin σ) (some d) p := ⟨_, rfl⟩
        rw [← hq] at hS hv hz hX h12 ⊢
        have hd1 : q.2.2.2.2.1.1 ≤ n + 1 := by rw [hX.2.1]; exact Nat.le_succ_of_le h.2.1
        have hr1 : q.2.2.2.2.2.1 ≤ n + 1 := by rw [hX.2.2.2.1]; exact Nat.le_succ_of_le h.2.2.1
        intro σ9 e9
        have e9' : σ9 = m_I τ' 17 (q.2.1 11) := e9
        subst e9'
        have hS' : SB q.2 (m_I τ' 17 (q.2.1 11)) := hS.I 17 _ (by decide)
        have e17 : (m_I τ' 17 (q.2.1 11)).1 17 = q.2.1 11 := mI_self _ _ _
        rw [e17]
        refine ⟨fun c1 x1 e1 σ2 e2 => ?_, fun c1 x1 e1 σ2 e2 => ?_⟩
        · have e2' : σ2 = m_I (m_I τ' 17 (q.2.1 11)) 18 x1 := e2
          subst e2'
          have hw := note_Sim (n := n + 1) hS' rfl h12 hd1 hr1 (w := x1) (by rw [e1, if_neg c1]) e17
          rw [show (m_I (m_I τ' 17 (q.2.1 11)) 18 x1).1 17 = q.2.1 11 from by rw [mI_ne _ _ _ _ (by decide), mI_self]]
          exact ⟨fun _ => ⟨(hz c1).symm, hw⟩, fun c2 => absurd c2 c1⟩
        · have e2' : σ2 = m_I (m_I τ' 17 (q.2.1 11)) 18 x1 := e2
          subst e2'
          have hw := note_Sim (n := n + 1) hS' rfl h12 hd1 hr1 (w := x1) (by rw [e1, if_pos c1]) e17
          rw [show (m_I (m_I τ' 17 (q.2.1 11)) 18 x1).1 17 = q.2.1 11 from by rw [mI_ne _ _ _ _ (by decide), mI_self], show (m_I (m_I τ' 17 (q.2.1 11)) 18 x1).1 25 = τ'.1 25 from by rw [mI_ne _ _ _ _ (by decide), mI_ne _ _ _ _ (by decide)]]
          exact ⟨fun c2 => absurd c1 c2, fun _ => ⟨hv c1, hw⟩⟩
    · rw [q]
      exact S_refuse h (-2) (fun u hu => ⟨rfl, hu⟩)
  · rw [if_pos c]
    exact S_refuse h (-1) (fun u hu => ⟨rfl, hu⟩)
theorem pull_end {τ2 : SM} {σ2 : SX} {x p v3 v4 g : Int32} {K : SM → Int32 → Int32 → Int32 → Int32 → Prop} (h : SB σ2 τ2) (h17 : τ2.1 17 = σ2.1 11) (hv : σ2.1 11 = 0 → v3 = g) (hz : ¬ σ2.1 11 = 0 → g = 0) (h12 : σ2.1 12 = 0) (hd : σ2.2.2.2.1.1 ≤ n) (hr : σ2.2.2.2.2.1 ≤ n) : wp_X2_pull_74 τ2 x p v3 v4 K (fun r u => r = g ∧ Sim n (f1_noteFailure σ2) u) := by
  unfold wp_X2_pull_74
  rw [h17]
  refine ⟨fun c1 x1 e1 s2 e2 => ?_, fun c1 x1 e1 s2 e2 => ?_⟩
  · have e2' : s2 = m_I τ2 18 x1 := e2
    subst e2'
    have hw := note_Sim (n := n) h rfl h12 hd hr (w := x1) (by rw [e1, if_neg c1]) h17
    rw [show (m_I τ2 18 x1).1 17 = σ2.1 11 from by rw [mI_ne _ _ _ _ (by decide), h17]]
    exact ⟨fun _ => ⟨(hz c1).symm, hw⟩, fun c2 => absurd c2 c1⟩
  · have e2' : s2 = m_I τ2 18 x1 := e2
    subst e2'
    have hw := note_Sim (n := n) h rfl h12 hd hr (w := x1) (by rw [e1, if_pos c1]) h17
    rw [show (m_I τ2 18 x1).1 17 = σ2.1 11 from by rw [mI_ne _ _ _ _ (by decide), h17]]
    exact ⟨fun c2 => absurd c1 c2, fun _ => ⟨hv c1, hw⟩⟩
theorem pull_run {x : Nat} (hx : x < 5) {p : Int32} : ∀ (m i : Nat) (σ2 : SX) (τ2 : SM) (v3 g : Int32), i + m = 4 → SB σ2 τ2 → τ2.1 17 = σ2.1 11 → (σ2.1 11 = 0 → v3 = g) → (¬ σ2.1 11 = 0 → g = 0) → σ2.1 12 = 0 → σ2.2.2.2.1.1 ≤ n → σ2.2.2.2.2.1 ≤ n → rn_X2_pull_30 m τ2 (nI x) p v3 (nI i) (fun r u => r = (fx_it (fdo 16) (fun σ' i => (f1_atPlace σ' (nI x) (nI i)).1) m i σ2 g).1 ∧ Sim n (f1_noteFailure (fx_it (fdo 16) (fun σ' i => (f1_atPlace σ' (nI x) (nI i)).1) m i σ2 g).2) u) := by
  intro m
  induction m with
  | zero =>
    intro i σ2 τ2 v3 g hi h h17 hv hz h12 hd hr
    have : i = 4 := by omega
    subst this
    exact ⟨fun _ => pull_end h h17 hv hz h12 hd hr, fun c => absurd (nI_le (a := 4) (Nat.le_refl 4) (by decide)) c⟩
  | succ m ih =>
    intro i σ2 τ2 v3 g hi h h17 hv hz h12 hd hr
    have hi4 : i < 4 := by omega
    refine ⟨fun c => absurd c (nI_ge (b := 4) hi4 (by decide)), fun _ => ?_⟩
    simp only [fx_it]
    rw [h17]
    refine ⟨fun c => ?_, fun c x3 e3 x4 e4 => ?_⟩
    · rw [if_neg c]
      exact pull_end h h17 hv hz h12 hd hr
    · rw [if_pos c]
      have e : (4 : Int32) * nI x + nI i = nI (4 * x + i) := by rw [show (4 : Int32) = nI 4 from rfl, pk_mul, nI_add]
      subst e3
      rw [e] at e4
      subst e4
      refine ⟨vp_in_nI (by omega) (by decide), fun x5 e5 => ?_⟩
      rw [nI_clamp (by omega), h.2.2.2.2.1.2.2 (4 * x + i) (by omega), ← at_nI hx hi4] at e5
      subst e5
      have ho := okO.at h.1 (nI x) (nI i)
      have hX := fdo_K 16 σ2 _ g h.1 ho
      have h12' := fdo_12 16 σ2 (f1_atPlace σ2 (nI x) (nI i)).1 g
      rw [hv c]
      refine doing_sim h c ho (fun τ' hS h17' hv' hz' => ?_)
      obtain ⟨q, hq⟩ : ∃ q, q = fdo 16 σ2 (f1_atPlace σ2 (nI x) (nI i)).1 g := ⟨_, rfl⟩
      rw [← hq] at hS hv' hz' hX h12' ⊢
      intro σ8 e8 x9 e9
      have e8' : σ8 = m_I τ' 17 (q.2.1 11) := e8
      subst e8'
      rw [e9, nI_1, show (m_I τ' 17 (q.2.1 11)).1 25 = τ'.1 25 from mI_ne _ _ _ _ (by decide)]
      exact ih (i + 1) q.2 (m_I τ' 17 (q.2.1 11)) _ q.1 (by omega) (hS.I 17 _ (by decide)) (mI_self _ _ _) hv' hz' (h12'.trans h12) (by rw [hX.2.1]; exact hd) (by rw [hX.2.2.2.1]; exact hr)
theorem S_pull (h : Sim n σ τ) (x p : Int32) : wpL_X2_pull τ x p (fun r u => r = (f1_pull σ x p).1 ∧ Sim (n + 1) (f1_pull σ x p).2 u) := by
  intro r1 e1
  rw [isIn_L] at e1
  subst e1
  simp only [f1_pull]
  refine ⟨fun c σ3 e3 σ4 e4 => ⟨4, ?_⟩, fun c => ?_⟩
  · rw [if_neg c]
    obtain ⟨y, hy, ey⟩ := vp_in_of (in_L c) (by decide)
    subst ey
    have e4' : σ4 = m_I (m_I τ 16 0) 17 0 := by rw [e4, e3]
    subst e4'
    exact pull_run (n := n + 1) hy 4 0 (f1_begin σ) _ p p (by decide) ((begin_SB h.1).I 17 0 (by decide)) (by rw [mI_self, begin_11]) (fun _ => rfl) (fun q => absurd (begin_11 σ) q) (begin_12 σ) (Nat.le_succ_of_le h.2.1) (Nat.le_succ_of_le h.2.2.1)
  · rw [if_pos c]
    exact S_refuse h (-1) (fun u hu => ⟨rfl, hu⟩)
end DOS
