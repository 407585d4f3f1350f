/-! the engine does what the recursion does -/
theorem SB.kd {σ : SX} {τ : SM} (h : SB σ τ) {d : Nat} (hd : d < σ.2.2.2.1.1) {k : Nat} (hk : (σ.2.2.2.1.2 d).1 0 = nI k) (hk14 : k ≤ 14) : τ.2 6 d = nI k ∧ τ.2 7 d = (if 7 ≤ k ∧ k ≤ 12 then oI ((σ.2.2.2.1.2 d).2 4) else if k = 4 then gI ((σ.2.2.2.1.2 d).2 6) else (σ.2.2.2.1.2 d).1 1) ∧ τ.2 8 d = (if k = 7 ∨ k = 8 ∨ k = 10 then oI ((σ.2.2.2.1.2 d).2 5) else (σ.2.2.2.1.2 d).1 2) ∧ τ.2 9 d = (σ.2.2.2.1.2 d).1 3 ∧ τ.2 10 d = (σ.2.2.2.1.2 d).1 7 ∧
  (k = 1 ∨ k = 2 ∨ k = 3 → ∃ x : Nat, x < 10 ∧ (σ.2.2.2.1.2 d).1 1 = nI x) ∧ (k = 3 → ∃ y : Nat, y < 10 ∧ (σ.2.2.2.1.2 d).1 2 = nI y) ∧ (k = 8 → ∃ z : Nat, z < 10 ∧ (σ.2.2.2.1.2 d).1 3 = nI z) ∧ (7 ≤ k ∧ k ≤ 12 → ∃ e, (σ.2.2.2.1.2 d).2 4 = some e) ∧ (k = 7 ∨ k = 8 ∨ k = 10 → ∃ e, (σ.2.2.2.1.2 d).2 5 = some e) ∧ (k = 9 → ∃ y : Nat, y ≤ 5 ∧ (σ.2.2.2.1.2 d).1 2 = nI y) ∧ (k = 13 → ∃ x : Nat, x < 5 ∧ (σ.2.2.2.1.2 d).1 1 = nI x) ∧ (k = 14 → ∃ x : Nat, x < 20 ∧ (σ.2.2.2.1.2 d).1 1 = nI x) := by
  obtain ⟨k', h1, h2, h3⟩ := h.2.2.2.2.2.2.2 d hd
  have : k' = k := (nI_eq (by omega) (by omega)).mp (h2.symm.trans hk)
  subst this
  exact h3
theorem SB.kx {σ : SX} {τ : SM} (h : SB σ τ) {d : Nat} (hd : d < σ.2.2.2.1.1) : ∃ k : Nat, k ≤ 14 ∧ (σ.2.2.2.1.2 d).1 0 = nI k := by
  obtain ⟨k', h1, h2, h3⟩ := h.2.2.2.2.2.2.2 d hd
  exact ⟨k', h1, h2⟩
section ENG
variable {σ : SX} {τ0 τ : SM} {j d : Nat} {p : Int32} {vd vp : Int32} {post : Int32 → SM → Prop} {k st : Nat}
theorem sim_al (hj : j < 16) (h : SB σ τ) (hd : d < σ.2.2.2.1.1) (hF : Fr τ j d p 0 p) (hb : Bs j τ0 τ) (hf0 : τ.1 24 = 0) (hw : σ.1 11 = 0) (hk : (σ.2.2.2.1.2 d).1 0 = nI k) (hk7 : k < 7) (hpost : ∀ τ', Ret j τ0 (f1_doAlone σ d p) τ' → Go vd vp post τ') : Go vd vp post τ := by
  have hd6 := h.d600 hd
  obtain ⟨e6, e7, e8, e9, e10, b1, b3, b8, bf, bs, b9, b13, b14⟩ := h.kd hd hk (by omega)
  rw [if_neg (by omega)] at e7
  rw [if_neg (by omega)] at e8
  simp only [f1_doAlone] at hpost
  rw [hk] at hpost
  have hc : k = 0 ∨ k = 1 ∨ k = 2 ∨ k = 3 ∨ k = 4 ∨ k = 5 ∨ k = 6 := by omega
  rcases hc with rfl | rfl | rfl | rfl | rfl | rfl | rfl
  · rw [if_pos (by decide)] at hpost
    rw [if_neg (by decide)] at e7
    exact al_0 hj hd6 h hF hb hf0 hw e6 e7 hpost
  · rw [if_neg (by decide), if_pos (by decide)] at hpost
    rw [if_neg (by decide)] at e7
    obtain ⟨x, hx, ex⟩ := b1 (by decide)
    rw [f1_doSet, ex, held_nI hx, pour_nI hx] at hpost
    rw [ex] at e7
    exact al_1 hj hd6 h hF hb hf0 hw e6 hx e7 hpost
  · rw [if_neg (by decide), if_neg (by decide), if_pos (by decide)] at hpost
    rw [if_neg (by decide)] at e7
    obtain ⟨x, hx, ex⟩ := b1 (by decide)
    simp only [f1_doAdd] at hpost
    rw [ex, held_nI hx, pour_nI hx, held_nI hx] at hpost
    rw [ex] at e7
    refine al_2 hj hd6 h hF hb hf0 hw e6 hx e7 e8 ?_
    rw [show (sxF σ 0 (upd (σ.2.1 0) x (σ.2.1 0 x + p * (σ.2.2.2.1.2 d).1 2))).2.1 0 x = σ.2.1 0 x + p * (σ.2.2.2.1.2 d).1 2 from by simp [va_up, upd]] at hpost
    exact hpost
  · rw [if_neg (by decide), if_neg (by decide), if_neg (by decide), if_pos (by decide)] at hpost
    rw [if_neg (by decide)] at e7
    obtain ⟨x, hx, ex⟩ := b1 (by decide)
    obtain ⟨y, hy, ey⟩ := b3 (by decide)
    rw [ex] at e7
    rw [ey] at e8
    simp only [f1_doDraw] at hpost
    rw [ex, ey] at hpost
    simp only [held_nI hx, held_nI hy, pour_nI hx, pour_nI hy] at hpost
    by_cases c : p < 0
    · rw [if_pos c] at hpost
      exact al_3f hj hd6 h hF hb hf0 hw e6 hx e7 (Or.inl c) hpost
    · rw [if_neg c] at hpost
      by_cases c2 : p ≤ σ.2.1 0 x
      · rw [if_pos c2] at hpost
        exact al_3s hj hd6 h hF hb hf0 hw e6 hx hy e7 e8 c c2 rfl rfl hpost
      · rw [if_neg c2] at hpost
        exact al_3f hj hd6 h hF hb hf0 hw e6 hx e7 (Or.inr c2) hpost
  · rw [if_neg (by decide), if_neg (by decide), if_neg (by decide), if_neg (by decide), if_pos (by decide)] at hpost
    rw [if_pos rfl] at e7
    unfold f1_doMark at hpost
    cases hg : (σ.2.2.2.1.2 d).2 6 with
    | none =>
      rw [hg] at hpost e7
      refine al_4f hj hd6 h hF hb hf0 hw e6 (by rw [e7]; exact vp_in_nI (n := 0) (by decide) (by decide)) ?_ hpost
      rw [e7, show (gI none).toNatClampNeg = 0 from by decide, h.2.2.2.2.2.1.1, show (0 : Int32) - 1 = nI 0 - 1 from rfl, isIn_W _ (Nat.zero_le 6)]
      by_cases c : τ.2 8 d < 0
      · rw [if_pos c]
      · rw [if_neg c, if_pos]
        rw [Int32.lt_iff_toInt_lt] at c
        rw [Int32.le_iff_toInt_le, nI_toInt (by decide)]
        have : (0 : Int32).toInt = 0 := by decide
        omega
    | some r =>
      rw [hg] at hpost e7
      have hr : r < σ.2.2.2.2.1 := (h.1.2.2.1 d hd).2.2 r hg
      have hr6 : r + 1 < 600 := by have := h.2.1.2.1; omega
      obtain ⟨w6, ew, em⟩ := h.2.2.2.2.2.1.2 r hr
      dsimp only at hpost
      by_cases c : (f1_hasMark σ (some r) ((σ.2.2.2.1.2 d).1 2)).1 = 0
      · rw [if_pos c] at hpost
        refine al_4f hj hd6 h hF hb hf0 hw e6 (by rw [e7]; exact vp_in_nI hr6 (by decide)) ?_ hpost
        rw [e7, show (gI (some r)).toNatClampNeg = r + 1 from nI_clamp (by omega), ew, isIn_W _ w6, e8]
        exact c
      · rw [if_neg c] at hpost
        have hin := hasMark_in c (h.1.2.2.2.1 r)
        obtain ⟨y, hy, ey⟩ := vp_in_of hin (by omega)
        rw [ey] at e8
        rw [ey, nI_clamp (by omega)] at hpost
        exact al_4s hj hd6 h hF hb hf0 hw e6 hr hy e7 e8 hpost
  · rw [if_neg (by decide), if_neg (by decide), if_neg (by decide), if_neg (by decide), if_neg (by decide), if_pos (by decide)] at hpost
    rw [if_neg (by decide)] at e7
    by_cases c : (σ.2.2.2.1.2 d).1 1 = 0
    · rw [if_pos c] at hpost
      rw [c] at e7
      exact al_5f hj hd6 h hF hb hf0 hw e6 e7 hpost
    · rw [if_neg c] at hpost
      exact al_5s hj hd6 h hF hb hf0 hw e6 c e7 hpost
  · rw [if_neg (by decide), if_neg (by decide), if_neg (by decide), if_neg (by decide), if_neg (by decide), if_neg (by decide), if_pos (by decide)] at hpost
    rw [if_neg (by decide)] at e7
    exact al_6 hj hd6 h hF hb hf0 hw e6 e7 hpost
/-- what the engine comes to from an entry, at the depth that leaves k -/
def Eng (k : Nat) : Prop := ∀ (σ : SX) (τ : SM) (o : Option Nat) (p vd vp : Int32) (post : Int32 → SM → Prop), SB σ τ → σ.1 11 = 0 → τ.1 24 = 0 → τ.1 19 = nI (16 - k) → okO σ o → (∀ τ', Ret (16 - k) τ (fdo k σ o p) τ' → Go vd vp post τ') → Go vd vp post (m_enter τ (oI o) p)
/-- after a deed within this one -/
def Aft (j : Nat) (τ0 : SM) (d : Nat) (p : Int32) (st : Nat) (q : Int32 × SX) (τ : SM) : Prop := SB q.2 τ ∧ Bs j τ0 τ ∧ τ.1 24 = q.2.1 11 ∧ ∃ v, Fr τ j d p st v ∧ (q.2.1 11 = 0 → v = q.1) ∧ (¬ q.2.1 11 = 0 → q.1 = 0)
theorem sub_run {v : Int32} {o : Option Nat} (hE : Eng k) (hjk : j + 1 = 16 - k) (h : SB σ τ) (hw : σ.1 11 = 0) (hf0 : τ.1 24 = 0) (hF : Fr τ j d p st v) (hb : Bs j τ0 τ) (ho : okO σ o) (g : Int32) (hpost : ∀ τ', Aft j τ0 d p st (fdo k σ o g) τ' → Go vd vp post τ') : Go vd vp post (m_enter τ (oI o) g) := by
  refine hE σ τ o g vd vp post h hw hf0 (by rw [hF.1, hjk]) ho (fun τ' hR => hpost τ' ?_)
  rw [← hjk] at hR
  obtain ⟨r1, r2, r3, r4, r5, r6, r7⟩ := hR
  obtain ⟨f1, f2, f3, f4, f5⟩ := hF
  obtain ⟨t1, t2, t3, t4⟩ := r4 j (by omega)
  refine ⟨r1, ⟨by rw [r3]; exact hb.1, fun i hi => ?_⟩, r5, τ'.2 23 j, ⟨r2, by rw [t1]; exact f2, by rw [t2]; exact f3, by rw [t3]; exact f4, rfl⟩, fun c => (r6 c).2 j rfl, r7⟩
  obtain ⟨a1, a2, a3, a4⟩ := r4 i (by omega)
  obtain ⟨b1, b2, b3, b4⟩ := hb.2 i hi
  exact ⟨a1.trans b1, a2.trans b2, a3.trans b3, (a4 (by omega)).trans b4⟩
theorem end_fall {q : Int32 × SX} (hj : j < 16) (hd6 : d < 600) (hA : Aft j τ0 d p st q τ) (c : ¬ q.2.1 11 = 0) (hn : ¬ (τ.2 6 d = 10 ∧ nI st = 1 ∧ ¬ τ.1 24 = -8 ∧ ¬ τ.1 24 = -9)) (hpost : ∀ τ', Ret j τ0 (0, q.2) τ' → Go vd vp post τ') : Go vd vp post τ := by
  obtain ⟨h, hb, hf, v, hF, hv, hz⟩ := hA
  exact go_pop hj hd6 h hF hb hf c hn hpost
theorem end_give {q : Int32 × SX} (hj : j < 16) (hd6 : d < 600) (hA : Aft j τ0 d p st q τ) (hg : ∀ v, Fr τ j d p st v → ∀ P : SM → Prop, P (m_give (m_st τ j (st + 1)) v) → wp_X2_goOn_0 τ P) (hn : ¬ (τ.2 6 d = 10 ∧ nI st = 1 ∧ ¬ τ.1 24 = -8 ∧ ¬ τ.1 24 = -9) ∨ q.2.1 11 = 0) (hpost : ∀ τ', Ret j τ0 q τ' → Go vd vp post τ') : Go vd vp post τ := by
  by_cases c : q.2.1 11 = 0
  · obtain ⟨h, hb, hf, v, hF, hv, hz⟩ := hA
    have e := hv c
    subst e
    exact al_give (σ := q.2) (τx := m_st τ j (st + 1)) (r := q.1) hj hF.1 (by rw [hf, c]) (hg _ hF) (sb_st h j _) hF.1 (hb.st _) (by rw [← c, ← hf]) c hpost
  · have hz := hA.2.2.2.choose_spec.2.2 c
    refine end_fall hj hd6 hA c (hn.resolve_right c) (fun τ' hR => hpost τ' ?_)
    rw [← hz] at hR
    exact hR
theorem XK.k0 {σ σ' : SX} (h : XK σ σ') {d k : Nat} (hk : (σ.2.2.2.1.2 d).1 0 = nI k) : (σ'.2.2.2.1.2 d).1 0 = nI k := ((h.2.2.1 d).2 0 (by decide)).trans hk
theorem no10 {τ : SM} {d k st : Nat} (e6 : τ.2 6 d = nI k) (h14 : k ≤ 14) (hk : k ≠ 10) : ¬ (τ.2 6 d = 10 ∧ nI st = 1 ∧ ¬ τ.1 24 = -8 ∧ ¬ τ.1 24 = -9) := by
  intro q
  have h1 := q.1
  rw [e6] at h1
  exact hk ((nI_eq (b := 10) (by omega) (by decide)).mp h1)
theorem en_7 (hE : Eng k) (hjk : j + 1 = 16 - k) (hj : j < 16) (h : SB σ τ) (hd : d < σ.2.2.2.1.1) (hF : Fr τ j d p 0 p) (hb : Bs j τ0 τ) (hf0 : τ.1 24 = 0) (hw : σ.1 11 = 0) (hk : (σ.2.2.2.1.2 d).1 0 = nI 7) (hpost : ∀ τ', Ret j τ0 (fx_then (fdo k) σ d p) τ' → Go vd vp post τ') : Go vd vp post τ := by
  have hd6 := h.d600 hd
  obtain ⟨e6, e7, e8, -⟩ := h.kd hd hk (by omega)
  rw [if_pos (by decide)] at e7
  refine go_on hj hF.1 hf0 (fun P hP => gs_7a hF hj hd6 e6 hP) ?_
  rw [e7]
  refine sub_run hE hjk (sb_st h j 1) hw hf0 (hF.st 1) (hb.st 1) (okO.f h.1 hd) p (fun τ' hA => ?_)
  have hX := fdo_K k σ ((σ.2.2.2.1.2 d).2 4) p h.1 (okO.f h.1 hd)
  simp only [fx_then] at hpost
  obtain ⟨q, hq⟩ : ∃ q, q = fdo k σ ((σ.2.2.2.1.2 d).2 4) p := ⟨_, rfl⟩
  rw [← hq] at hA hX hpost
  have hd' := hX.nd hd
  obtain ⟨f6, f7, f8, -⟩ := hA.1.kd hd' (hX.k0 hk) (by omega)
  by_cases c : q.2.1 11 = 0
  · rw [if_pos c] at hpost
    obtain ⟨h', hb', hf', v, hF', hv, -⟩ := hA
    have ev := hv c
    subst ev
    rw [if_pos (by decide)] at f8
    refine go_on hj hF'.1 (by rw [hf', c]) (fun P hP => gs_7b hF' hj hd6 f6 hP) ?_
    rw [f8]
    refine sub_run hE hjk (sb_st h' j 2) c (by rw [← c, ← hf']) (hF'.st 2) (hb'.st 2) (okO.s h'.1 hd') q.1 (fun τ2 hA2 => ?_)
    have hX2 := fdo_K k q.2 ((q.2.2.2.2.1.2 d).2 5) q.1 h'.1 (okO.s h'.1 hd')
    obtain ⟨g6, -⟩ := hA2.1.kd (hX2.nd hd') (hX2.k0 (hX.k0 hk)) (by omega)
    exact end_give hj hd6 hA2 (fun v hv P hP => gs_7g hv hj hd6 (by decide) g6 (by decide) hP) (Or.inl (no10 g6 (by decide) (by decide))) hpost
  · rw [if_neg c] at hpost
    exact end_fall hj hd6 hA c (no10 f6 (by decide) (by decide)) hpost
theorem en_8 (hE : Eng k) (hjk : j + 1 = 16 - k) (hj : j < 16) (h : SB σ τ) (hd : d < σ.2.2.2.1.1) (hF : Fr τ j d p 0 p) (hb : Bs j τ0 τ) (hf0 : τ.1 24 = 0) (hw : σ.1 11 = 0) (hk : (σ.2.2.2.1.2 d).1 0 = nI 8) (hpost : ∀ τ', Ret j τ0 (if (f1_heldBy σ ((σ.2.2.2.1.2 d).1 3)).1 ≤ p then fdo k σ ((σ.2.2.2.1.2 d).2 4) p else fdo k σ ((σ.2.2.2.1.2 d).2 5) p) τ' → Go vd vp post τ') : Go vd vp post τ := by
  have hd6 := h.d600 hd
  obtain ⟨e6, e7, e8, e9, -, -, -, b8, -⟩ := h.kd hd hk (by omega)
  rw [if_pos (by decide)] at e7 e8
  obtain ⟨z, hz, ez⟩ := b8 rfl
  rw [ez] at e9
  rw [ez, held_nI hz] at hpost
  refine go_on hj hF.1 hf0 (fun P hP => gs_8a hF hj hd6 e6 hz e9 hP) ?_
  rw [h.2.2.2.1 z hz]
  by_cases c : σ.2.1 0 z ≤ p
  · rw [if_pos c] at hpost ⊢
    rw [e7]
    refine sub_run hE hjk (sb_st h j 1) hw hf0 (hF.st 1) (hb.st 1) (okO.f h.1 hd) p (fun τ' hA => ?_)
    have hX := fdo_K k σ ((σ.2.2.2.1.2 d).2 4) p h.1 (okO.f h.1 hd)
    obtain ⟨g6, -⟩ := hA.1.kd (hX.nd hd) (hX.k0 hk) (by omega)
    exact end_give hj hd6 hA (fun v hv P hP => gs_8g hv hj hd6 (by decide) g6 (by decide) hP) (Or.inl (no10 g6 (by decide) (by decide))) hpost
  · rw [if_neg c] at hpost ⊢
    rw [e8]
    refine sub_run hE hjk (sb_st h j 1) hw hf0 (hF.st 1) (hb.st 1) (okO.s h.1 hd) p (fun τ' hA => ?_)
    have hX := fdo_K k σ ((σ.2.2.2.1.2 d).2 5) p h.1 (okO.s h.1 hd)
    obtain ⟨g6, -⟩ := hA.1.kd (hX.nd hd) (hX.k0 hk) (by omega)
    exact end_give hj hd6 hA (fun v hv P hP => gs_8g hv hj hd6 (by decide) g6 (by decide) hP) (Or.inl (no10 g6 (by decide) (by decide))) hpost
theorem it_done {rec : RecX} {oi : SX → Nat → Option Nat} (n i : Nat) {q : Int32 × SX} (c : ¬ q.2.1 11 = 0) (hz : q.1 = 0) : fx_it rec oi n i q.2 q.1 = (0, q.2) := by
  cases n with
  | zero => simp only [fx_it]; rw [hz]
  | succ n => simp only [fx_it]; rw [if_neg c, hz]
theorem en_9 {y : Nat} (hE : Eng k) (hjk : j + 1 = 16 - k) (hj : j < 16) (hy5 : y ≤ 5) : ∀ (n i : Nat) (σ : SX) (τ : SM) (v : Int32), i + n = y → SB σ τ → d < σ.2.2.2.1.1 → Fr τ j d p i v → Bs j τ0 τ → τ.1 24 = 0 → σ.1 11 = 0 → (σ.2.2.2.1.2 d).1 0 = nI 9 → (σ.2.2.2.1.2 d).1 2 = nI y → (∀ τ', Ret j τ0 (fx_it (fdo k) (fun σ' _ => (σ'.2.2.2.1.2 d).2 4) n i σ v) τ' → Go vd vp post τ') → Go vd vp post τ := by
  intro n
  induction n with
  | zero =>
    intro i σ τ v hi h hd hF hb hf0 hw hk hy hpost
    have hd6 := h.d600 hd
    obtain ⟨e6, e7, e8, -⟩ := h.kd hd hk (by omega)
    rw [if_neg (by decide), hy] at e8
    exact al_give (σ := σ) (τx := m_st τ j (i + 1)) (r := v) hj hF.1 hf0 (fun P hP => gs_9g hF hj hd6 (by omega) e6 (by rw [e8]; exact nI_le (by omega) (by omega)) hP) (sb_st h j _) hF.1 (hb.st _) hf0 hw hpost
  | succ n ih =>
    intro i σ τ v hi h hd hF hb hf0 hw hk hy hpost
    have hd6 := h.d600 hd
    obtain ⟨e6, e7, e8, -⟩ := h.kd hd hk (by omega)
    rw [if_neg (by decide), hy] at e8
    rw [if_pos (by decide)] at e7
    refine go_on hj hF.1 hf0 (fun P hP => gs_9a hF hj hd6 (by omega) e6 (by rw [e8]; exact nI_ge (by omega) (by omega)) hP) ?_
    rw [e7]
    refine sub_run hE hjk (sb_st h j _) hw hf0 (hF.st _) (hb.st _) (okO.f h.1 hd) v (fun τ' hA => ?_)
    have hX := fdo_K k σ ((σ.2.2.2.1.2 d).2 4) v h.1 (okO.f h.1 hd)
    simp only [fx_it] at hpost
    rw [if_pos hw] at hpost
    obtain ⟨q, hq⟩ : ∃ q, q = fdo k σ ((σ.2.2.2.1.2 d).2 4) v := ⟨_, rfl⟩
    rw [← hq] at hA hX hpost
    have hd' := hX.nd hd
    by_cases c : q.2.1 11 = 0
    · obtain ⟨h', hb', hf', v', hF', hv, -⟩ := hA
      have ev := hv c
      subst ev
      exact ih (i + 1) q.2 τ' q.1 (by omega) h' hd' hF' hb' (by rw [hf', c]) c (hX.k0 hk) (((hX.2.2.1 d).2 2 (by decide)).trans hy) hpost
    · rw [it_done n (i + 1) c (hA.2.2.2.choose_spec.2.2 c)] at hpost
      obtain ⟨g6, -⟩ := hA.1.kd hd' (hX.k0 hk) (by omega)
      exact end_fall hj hd6 hA c (no10 g6 (by decide) (by decide)) hpost
theorem en_10 (hE : Eng k) (hjk : j + 1 = 16 - k) (hj : j < 16) (h : SB σ τ) (hd : d < σ.2.2.2.1.1) (hF : Fr τ j d p 0 p) (hb : Bs j τ0 τ) (hf0 : τ.1 24 = 0) (hw : σ.1 11 = 0) (hk : (σ.2.2.2.1.2 d).1 0 = nI 10) (hpost : ∀ τ', Ret j τ0 (fx_try (fdo k) σ d p) τ' → Go vd vp post τ') : Go vd vp post τ := by
  have hd6 := h.d600 hd
  obtain ⟨e6, e7, e8, -⟩ := h.kd hd hk (by omega)
  rw [if_pos (by decide)] at e7
  refine go_on hj hF.1 hf0 (fun P hP => gs_10a hF hj hd6 e6 hP) ?_
  rw [e7]
  refine sub_run hE hjk (sb_st h j 1) hw hf0 (hF.st 1) (hb.st 1) (okO.f h.1 hd) p (fun τ' hA => ?_)
  have hX := fdo_K k σ ((σ.2.2.2.1.2 d).2 4) p h.1 (okO.f h.1 hd)
  simp only [fx_try] at hpost
  obtain ⟨q, hq⟩ : ∃ q, q = fdo k σ ((σ.2.2.2.1.2 d).2 4) p := ⟨_, rfl⟩
  rw [← hq] at hA hX hpost
  have hd' := hX.nd hd
  obtain ⟨f6, f7, f8, -⟩ := hA.1.kd hd' (hX.k0 hk) (by omega)
  by_cases c : q.2.1 11 = 0 ∨ q.2.1 11 = -8 ∨ q.2.1 11 = -9
  · rw [if_pos c] at hpost
    refine end_give hj hd6 hA (fun v hv P hP => gs_10g hv hj hd6 (by decide) f6 (by decide) hP) ?_ hpost
    rcases c with c | c | c
    · exact Or.inr c
    · exact Or.inl (fun x => x.2.2.1 (hA.2.2.1.trans c))
    · exact Or.inl (fun x => x.2.2.2 (hA.2.2.1.trans c))
  · rw [if_neg c] at hpost
    obtain ⟨h', hb', hf', v, hF', -⟩ := hA
    rw [if_pos (by decide)] at f8
    refine go_fall hj hF'.1 (by rw [hf']; exact fun x => c (Or.inl x)) (fun P hP => fall_try hF' hj hd6 f6 (by rw [hf']; exact fun x => c (Or.inr (Or.inl x))) (by rw [hf']; exact fun x => c (Or.inr (Or.inr x))) hP) ?_
    rw [f8]
    have h2 : SB (sxI q.2 11 0) (m_I τ' 24 0) := (h'.I 24 0 (by decide)).X 11 0 (by decide)
    refine sub_run (σ := sxI q.2 11 0) hE hjk (sb_st h2 j 2) (sI_self _ _ _) (show (m_I τ' 24 0).1 24 = 0 from mI_self _ _ _) ((hF'.I 24 0 (by decide)).st 2) ((hb'.I 24 0 (by decide)).st 2) (okO.s h2.1 hd') p (fun τ2 hA2 => ?_)
    have hX2 := fdo_K k (sxI q.2 11 0) ((q.2.2.2.2.1.2 d).2 5) p h2.1 (okO.s h2.1 hd')
    obtain ⟨g6, -⟩ := hA2.1.kd (hX2.nd hd') (hX2.k0 (hX.k0 hk)) (by omega)
    exact end_give hj hd6 hA2 (fun v hv P hP => gs_10g hv hj hd6 (by decide) g6 (by decide) hP) (Or.inl (fun x => absurd x.2.1 (by decide))) hpost
theorem en_12 (hE : Eng k) (hjk : j + 1 = 16 - k) (hj : j < 16) (h : SB σ τ) (hd : d < σ.2.2.2.1.1) (hF : Fr τ j d p 0 p) (hb : Bs j τ0 τ) (hf0 : τ.1 24 = 0) (hw : σ.1 11 = 0) (hk : (σ.2.2.2.1.2 d).1 0 = nI 12) (hpost : ∀ τ', Ret j τ0 (fx_count (fdo k) σ d p) τ' → Go vd vp post τ') : Go vd vp post τ := by
  have hd6 := h.d600 hd
  obtain ⟨e6, e7, e8, -⟩ := h.kd hd hk (by omega)
  rw [if_pos (by decide)] at e7
  refine go_on hj hF.1 hf0 (fun P hP => gs_12a hF hj hd6 e6 hP) ?_
  rw [e7]
  refine sub_run hE hjk (sb_st h j 1) hw hf0 (hF.st 1) (hb.st 1) (okO.f h.1 hd) p (fun τ' hA => ?_)
  have hX := fdo_K k σ ((σ.2.2.2.1.2 d).2 4) p h.1 (okO.f h.1 hd)
  simp only [fx_count] at hpost
  obtain ⟨q, hq⟩ : ∃ q, q = fdo k σ ((σ.2.2.2.1.2 d).2 4) p := ⟨_, rfl⟩
  rw [← hq] at hA hX hpost
  have hd' := hX.nd hd
  obtain ⟨f6, f7, f8, f9, f10, -⟩ := hA.1.kd hd' (hX.k0 hk) (by omega)
  by_cases c : q.2.1 11 = 0
  · rw [if_pos c] at hpost
    obtain ⟨h', hb', hf', v, hF', -⟩ := hA
    have h2 : SB (sxT q.2 d ((q.2.2.2.2.1.2 d).1 7 + 1)) (m_cnt (m_st τ' j 2) d (τ'.2 10 d + 1)) := by rw [f10]; exact (sb_st h' j 2).cnt d _
    refine al_give (r := (q.2.2.2.2.1.2 d).1 7 + 1) hj hF'.1 (by rw [hf', c]) (fun P hP => gs_12g hF' hj hd6 (by decide) f6 (by decide) ?_) h2 hF'.1 ((hb'.st 2).F 10 _ (by decide)) (by rw [← c, ← hf']) c hpost
    rw [← f10] at hP
    exact hP
  · rw [if_neg c] at hpost
    exact end_fall hj hd6 hA c (no10 f6 (by decide) (by decide)) hpost
theorem at_nI {σ : SX} {x i : Nat} (hx : x < 5) (hi : i < 4) : (f1_atPlace σ (nI x) (nI i)).1 = σ.2.2.1 3 (4 * x + i) := by
  have hb : ¬ f1_isLever (nI x) = 0 := by
    unfold f1_isLever f1_rng
    rw [if_neg (nI_pos (by omega)), if_neg (show ¬ (5 : Int32) ≤ nI x from nI_ge (b := 5) hx (by decide))]
    decide
  simp only [f1_atPlace]
  rw [if_neg hb, if_neg (nI_pos (by omega)), if_neg (show ¬ (4 : Int32) ≤ nI i from nI_ge (b := 4) hi (by decide)), show (4 : Int32) = nI 4 from rfl, pk_mul, nI_add, nI_clamp (by omega), Nat.mul_comm]
theorem en_13 {x : Nat} (hE : Eng k) (hjk : j + 1 = 16 - k) (hj : j < 16) (hx : x < 5) : ∀ (n i : Nat) (σ : SX) (τ : SM) (v : Int32), i + n = 4 → SB σ τ → d < σ.2.2.2.1.1 → Fr τ j d p i v → Bs j τ0 τ → τ.1 24 = 0 → σ.1 11 = 0 → (σ.2.2.2.1.2 d).1 0 = nI 13 → (σ.2.2.2.1.2 d).1 1 = nI x → (∀ τ', Ret j τ0 (fx_it (fdo k) (fun σ' i => (f1_atPlace σ' (nI x) (nI i)).1) n i σ v) τ' → Go vd vp post τ') → Go vd vp post τ := by
  intro n
  induction n with
  | zero =>
    intro i σ τ v hi h hd hF hb hf0 hw hk hy hpost
    have hd6 := h.d600 hd
    obtain ⟨e6, -⟩ := h.kd hd hk (by omega)
    exact al_give (σ := σ) (τx := m_st τ j (i + 1)) (r := v) hj hF.1 hf0 (fun P hP => gs_13g hF hj hd6 (by omega) e6 (by omega) hP) (sb_st h j _) hF.1 (hb.st _) hf0 hw hpost
  | succ n ih =>
    intro i σ τ v hi h hd hF hb hf0 hw hk hy hpost
    have hd6 := h.d600 hd
    obtain ⟨e6, e7, -⟩ := h.kd hd hk (by omega)
    rw [if_neg (by decide), if_neg (by decide), hy] at e7
    have ho := okO.at h.1 (nI x) (nI i)
    refine go_on hj hF.1 hf0 (fun P hP => gs_13a hF hj hd6 (by omega) e6 (by omega) hx e7 hP) ?_
    rw [h.2.2.2.2.1.2.2 (4 * x + i) (by omega), ← at_nI hx (show i < 4 by omega)]
    refine sub_run hE hjk (sb_st h j _) hw hf0 (hF.st _) (hb.st _) ho v (fun τ' hA => ?_)
    have hX := fdo_K k σ _ v h.1 ho
    simp only [fx_it] at hpost
    rw [if_pos hw] at hpost
    obtain ⟨q, hq⟩ : ∃ q, q = fdo k σ (f1_atPlace σ (nI x) (nI i)).1 v := ⟨_, rfl⟩
    rw [← hq] at hA hX hpost
    have hd' := hX.nd hd
    by_cases c : q.2.1 11 = 0
    · obtain ⟨h', hb', hf', v', hF', hv, -⟩ := hA
      have ev := hv c
      subst ev
      exact ih (i + 1) q.2 τ' q.1 (by omega) h' hd' hF' hb' (by rw [hf', c]) c (hX.k0 hk) (((hX.2.2.1 d).2 1 (by decide)).trans hy) hpost
    · rw [it_done n (i + 1) c (hA.2.2.2.choose_spec.2.2 c)] at hpost
      obtain ⟨g6, -⟩ := hA.1.kd hd' (hX.k0 hk) (by omega)
      exact end_fall hj hd6 hA c (no10 g6 (by decide) (by decide)) hpost
theorem isS_nI {i : Nat} (hi : i < 20) : ¬ f1_isSlot (nI i) = 0 := by
  unfold f1_isSlot f1_rng
  rw [if_neg (nI_pos (by omega)), if_neg (show ¬ (20 : Int32) ≤ nI i from nI_ge (b := 20) hi (by decide))]
  decide
theorem in_nI {σ : SX} {x : Nat} (hx : x < 20) : (f1_inSlot σ (nI x)).1 = σ.2.2.1 2 x := by
  simp only [f1_inSlot]
  rw [if_neg (isS_nI hx), nI_clamp (by omega)]
theorem en_14 (hE : Eng k) (hjk : j + 1 = 16 - k) (hj : j < 16) (h : SB σ τ) (hd : d < σ.2.2.2.1.1) (hF : Fr τ j d p 0 p) (hb : Bs j τ0 τ) (hf0 : τ.1 24 = 0) (hw : σ.1 11 = 0) (hk : (σ.2.2.2.1.2 d).1 0 = nI 14) (hpost : ∀ τ', Ret j τ0 (fdo k σ (f1_inSlot σ ((σ.2.2.2.1.2 d).1 1)).1 p) τ' → Go vd vp post τ') : Go vd vp post τ := by
  have hd6 := h.d600 hd
  obtain ⟨e6, e7, -, -, -, -, -, -, -, -, -, -, b14⟩ := h.kd hd hk (by omega)
  obtain ⟨x, hx, ex⟩ := b14 rfl
  rw [if_neg (by decide), if_neg (by decide), ex] at e7
  have ho := okO.in h.1 ((σ.2.2.2.1.2 d).1 1)
  refine go_on hj hF.1 hf0 (fun P hP => gs_14a hF hj hd6 e6 hx e7 hP) ?_
  rw [h.2.2.2.2.1.2.1 x hx, ← in_nI hx, ← ex]
  refine sub_run hE hjk (sb_st h j 1) hw hf0 (hF.st 1) (hb.st 1) ho p (fun τ' hA => ?_)
  have hX := fdo_K k σ _ p h.1 ho
  obtain ⟨g6, -⟩ := hA.1.kd (hX.nd hd) (hX.k0 hk) (by omega)
  exact end_give hj hd6 hA (fun v hv P hP => gs_14g hv hj hd6 (by decide) g6 (by decide) hP) (Or.inl (no10 g6 (by decide) (by decide))) hpost
end ENG
