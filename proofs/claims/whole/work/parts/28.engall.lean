/-! the engine, whole -/
theorem ret_fail {σ : SX} {τ0 τ : SM} {j : Nat} {f : Int32} (hf : ¬ f = 0) (h : SB σ τ) (hb : Bs j τ0 τ) (hp : τ.1 19 = nI j) : Ret j τ0 (f1_fail σ f) (m_I τ 24 f) :=
  ⟨(h.I 24 f (by decide)).X 11 f (by decide), by rw [mI_ne _ _ _ _ (by decide)]; exact hp, by rw [mI_ne _ _ _ _ (by decide)]; exact hb.1, fun i hi => ⟨(hb.2 i hi).1, (hb.2 i hi).2.1, (hb.2 i hi).2.2.1, fun _ => (hb.2 i hi).2.2.2⟩, by rw [mI_self]; exact (sI_self _ _ _).symm, fun c => absurd ((sI_self σ 11 f).symm.trans c) hf, fun _ => rfl⟩
theorem Bs.rf (j : Nat) (τ : SM) : Bs j τ τ := ⟨rfl, fun _ _ => ⟨rfl, rfl, rfl, rfl⟩⟩
theorem push_2 (τ : SM) (d p : Int32) (k : Nat) (h : k ≠ 20 ∧ k ≠ 21 ∧ k ≠ 22 ∧ k ≠ 23) : (m_push τ d p).2 k = τ.2 k := by
  unfold m_push
  dsimp only
  rw [va_up_ne _ _ h.2.2.2, va_up_ne _ _ h.2.2.1, va_up_ne _ _ h.2.1, va_up_ne _ _ h.1]
theorem push_1 (τ : SM) (d p : Int32) (k : Nat) (h : k ≠ 19) : (m_push τ d p).1 k = τ.1 k := va_up_ne τ.1 (τ.1 19 + 1) h
theorem push_SB {σ : SX} {τ : SM} (h : SB σ τ) (d p : Int32) : SB σ (m_push τ d p) := by
  exact h.tau (push_1 _ _ _ 1 (by decide)) (push_1 _ _ _ 5 (by decide)) (push_1 _ _ _ 13 (by decide)) (push_1 _ _ _ 16 (by decide)) (push_1 _ _ _ 18 (by decide)) (push_2 _ _ _ 0 (by decide)) (push_2 _ _ _ 2 (by decide)) (push_2 _ _ _ 3 (by decide)) (push_2 _ _ _ 4 (by decide)) (push_2 _ _ _ 6 (by decide)) (push_2 _ _ _ 7 (by decide)) (push_2 _ _ _ 8 (by decide)) (push_2 _ _ _ 9 (by decide)) (push_2 _ _ _ 10 (by decide)) (push_2 _ _ _ 11 (by decide)) (push_2 _ _ _ 12 (by decide)) (push_2 _ _ _ 14 (by decide)) (push_2 _ _ _ 15 (by decide))
theorem push_Fr {τ : SM} {j d : Nat} {p : Int32} (hj : j < 16) (hp : τ.1 19 = nI j) : Fr (m_push τ (nI d) p) j d p 0 p := by
  have cj : (τ.1 19).toNatClampNeg = j := by rw [hp, nI_clamp (by omega)]
  unfold m_push
  rw [cj]
  refine ⟨?_, ?_, ?_, ?_, ?_⟩
  · show (va_up τ.1 19 (τ.1 19 + 1)) 19 = _
    rw [va_up_self, hp, nI_1]
  all_goals simp [va_up, upd, nI_0]
theorem push_Bs {τ : SM} {j : Nat} {d p : Int32} (hj : j < 16) (hp : τ.1 19 = nI j) : Bs j τ (m_push τ d p) := by
  have cj : (τ.1 19).toNatClampNeg = j := by rw [hp, nI_clamp (by omega)]
  refine ⟨push_1 _ _ _ 17 (by decide), fun i hi => ?_⟩
  unfold m_push
  rw [cj]
  have hne : i ≠ j := by omega
  refine ⟨?_, ?_, ?_, ?_⟩ <;> simp [va_up, upd, hne]
theorem steps_lt {σ : SX} {τ : SM} (h : SB σ τ) : (σ.1 9 < 60 ∧ ¬ τ.1 16 = 60 ∧ SB (sxI σ 9 (σ.1 9 + 1)) (m_I τ 16 (τ.1 16 + 1))) ∨ (¬ σ.1 9 < 60 ∧ τ.1 16 = 60) := by
  obtain ⟨n, hn, e9, e16⟩ := h.2.2.1
  rcases Nat.lt_or_ge n 60 with c | c
  · refine Or.inl ⟨?_, ?_, ?_⟩
    · rw [e9]; exact nI_lt (b := 60) c (by decide)
    · rw [e16]; exact fun q => by have := (nI_eq (b := 60) (by omega) (by decide)).mp q; omega
    · exact h.steps (n := n + 1) (by omega) (by rw [e9, nI_1]) (by rw [e16, nI_1])
  · refine Or.inr ⟨?_, ?_⟩
    · rw [e9]; exact nI_nlt (b := 60) c (by omega)
    · rw [e16, show n = 60 by omega]; rfl
theorem Bs.tr17 {j : Nat} {τ0 τ τ' : SM} (h : Bs j τ0 τ) (g : Bs j τ τ') : Bs j τ0 τ' := ⟨g.1.trans h.1, fun i hi => ⟨(g.2 i hi).1.trans (h.2 i hi).1, (g.2 i hi).2.1.trans (h.2 i hi).2.1, (g.2 i hi).2.2.1.trans (h.2 i hi).2.2.1, (g.2 i hi).2.2.2.trans (h.2 i hi).2.2.2⟩⟩
theorem eng_all : ∀ k : Nat, k ≤ 16 → Eng k := by
  intro k
  induction k with
  | zero =>
    intro _ σ τ o p vd vp post h hw hf0 h19 ho hpost
    have e16 : τ.1 19 = 16 := h19
    simp only [fdo] at hpost
    unfold m_enter
    rcases steps_lt h with ⟨c1, c2, h1⟩ | ⟨c1, c2⟩
    · rw [if_neg c2, if_pos e16]
      rw [if_pos c1] at hpost
      exact hpost _ (ret_fail (by decide) h1 ((Bs.rf 16 τ).I 16 _ (by decide)) (by rw [mI_ne _ _ _ _ (by decide)]; exact h19))
    · rw [if_pos c2]
      rw [if_neg c1] at hpost
      exact hpost _ (ret_fail (by decide) h (Bs.rf 16 τ) h19)
  | succ k ih =>
    intro hk16 σ τ o p vd vp post h hw hf0 h19 ho hpost
    have hE := ih (by omega)
    obtain ⟨j, hj⟩ : ∃ j, j = 16 - (k + 1) := ⟨_, rfl⟩
    rw [← hj] at h19 hpost
    have hj16 : j < 16 := by omega
    have hjk : j + 1 = 16 - k := by omega
    have n16 : ¬ τ.1 19 = 16 := by rw [h19]; exact fun q => by have := (nI_eq (b := 16) (by omega) (by decide)).mp q; omega
    simp only [fdo] at hpost
    unfold m_enter
    rcases steps_lt h with ⟨c1, c2, h1⟩ | ⟨c1, c2⟩
    · rw [if_neg c2, if_neg n16]
      rw [if_pos c1] at hpost
      have w1 : (sxI σ 9 (σ.1 9 + 1)).1 11 = 0 := by rw [sI_ne _ _ _ _ (by decide)]; exact hw
      have f1 : (m_I τ 16 (τ.1 16 + 1)).1 24 = 0 := by rw [mI_ne _ _ _ _ (by decide)]; exact hf0
      have p1 : (m_I τ 16 (τ.1 16 + 1)).1 19 = nI j := by rw [mI_ne _ _ _ _ (by decide)]; exact h19
      have b1 : Bs j τ (m_I τ 16 (τ.1 16 + 1)) := (Bs.rf j τ).I 16 _ (by decide)
      cases o with
      | none =>
        rw [if_pos (show oI none = -2 from rfl)]
        exact hpost _ (ret_fail (by decide) h1 b1 p1)
      | some d =>
        have hd : d < σ.2.2.2.1.1 := ho d rfl
        have hd6 := h.d600 hd
        rw [if_neg (show ¬ oI (some d) = -2 from fun q => by
          have h2 : (nI d).toInt = (-2 : Int32).toInt := congrArg Int32.toInt q
          rw [nI_toInt (by omega)] at h2
          have h3 : (-2 : Int32).toInt = -2 := by decide
          omega)]
        dsimp only at hpost
        obtain ⟨σ1, es1⟩ : ∃ s, s = sxI σ 9 (σ.1 9 + 1) := ⟨_, rfl⟩
        obtain ⟨τ1, et1⟩ : ∃ t, t = m_push (m_I τ 16 (τ.1 16 + 1)) (oI (some d)) p := ⟨_, rfl⟩
        have hS : SB σ1 τ1 := by rw [es1, et1]; exact push_SB h1 _ _
        have hF : Fr τ1 j d p 0 p := by rw [et1]; exact push_Fr hj16 p1
        have hb : Bs j τ τ1 := by rw [et1]; exact b1.tr17 (push_Bs hj16 p1)
        have hf1 : τ1.1 24 = 0 := by rw [et1, push_1 _ _ _ 24 (by decide)]; exact f1
        have hw1 : σ1.1 11 = 0 := by rw [es1]; exact w1
        have hd1 : d < σ1.2.2.2.1.1 := by rw [es1]; exact hd
        have ek : (σ.2.2.2.1.2 d).1 0 = (σ1.2.2.2.1.2 d).1 0 := by rw [es1]
        rw [← et1]
        rw [← es1, ek] at hpost
        clear es1 et1 ek
        obtain ⟨kk, hk14, hkk⟩ := hS.kx hd1
        rcases Nat.lt_or_ge kk 7 with c7 | c7
        · rw [if_neg (by rw [hkk]; exact nI_ge (b := 7) c7 (by decide))] at hpost
          exact sim_al hj16 hS hd1 hF hb hf1 hw1 hkk c7 hpost
        · rw [if_pos (by rw [hkk]; exact nI_le (a := 7) c7 (by omega))] at hpost
          simp only [fx_to] at hpost
          have hc : kk = 7 ∨ kk = 8 ∨ kk = 9 ∨ kk = 10 ∨ kk = 11 ∨ kk = 12 ∨ kk = 13 ∨ kk = 14 := by omega
          have hkq := hkk
          rcases hc with rfl | rfl | rfl | rfl | rfl | rfl | rfl | rfl
          · rw [if_pos (by rw [hkk]; decide)] at hpost
            exact en_7 hE hjk hj16 hS hd1 hF hb hf1 hw1 hkk hpost
          · rw [if_neg (by rw [hkk]; decide), if_pos (by rw [hkk]; decide)] at hpost
            exact en_8 hE hjk hj16 hS hd1 hF hb hf1 hw1 hkk hpost
          · rw [if_neg (by rw [hkk]; decide), if_neg (by rw [hkk]; decide), if_pos (by rw [hkk]; decide)] at hpost
            obtain ⟨-, -, -, -, -, -, -, -, -, -, b9, -⟩ := hS.kd hd1 hkk (by omega)
            obtain ⟨y, hy, ey⟩ := b9 rfl
            simp only [fx_times] at hpost
            rw [ey, nI_clamp (by omega)] at hpost
            exact en_9 hE hjk hj16 hy y 0 σ1 τ1 p (by omega) hS hd1 hF hb hf1 hw1 hkk ey hpost
          · rw [if_neg (by rw [hkk]; decide), if_neg (by rw [hkk]; decide), if_neg (by rw [hkk]; decide), if_pos (by rw [hkk]; decide)] at hpost
            exact en_10 hE hjk hj16 hS hd1 hF hb hf1 hw1 hkk hpost
          · rw [if_neg (by rw [hkk]; decide), if_neg (by rw [hkk]; decide), if_neg (by rw [hkk]; decide), if_neg (by rw [hkk]; decide), if_pos (by rw [hkk]; decide)] at hpost
            obtain ⟨e6, e7, -, -, -, -, -, -, bf, -⟩ := hS.kd hd1 hkk (by omega)
            obtain ⟨e, he⟩ := bf (by decide)
            rw [if_pos (by decide), he] at e7
            exact al_11 hj16 hS hd1 hF hb hf1 hw1 e6 he e7 hpost
          · rw [if_neg (by rw [hkk]; decide), if_neg (by rw [hkk]; decide), if_neg (by rw [hkk]; decide), if_neg (by rw [hkk]; decide), if_neg (by rw [hkk]; decide), if_pos (by rw [hkk]; decide)] at hpost
            exact en_12 hE hjk hj16 hS hd1 hF hb hf1 hw1 hkk hpost
          · rw [if_neg (by rw [hkk]; decide), if_neg (by rw [hkk]; decide), if_neg (by rw [hkk]; decide), if_neg (by rw [hkk]; decide), if_neg (by rw [hkk]; decide), if_neg (by rw [hkk]; decide), if_pos (by rw [hkk]; decide)] at hpost
            obtain ⟨-, -, -, -, -, -, -, -, -, -, -, b13, -⟩ := hS.kd hd1 hkk (by omega)
            obtain ⟨x, hx, ex⟩ := b13 rfl
            simp only [fx_places] at hpost
            rw [ex] at hpost
            exact en_13 hE hjk hj16 hx 4 0 σ1 τ1 p (by omega) hS hd1 hF hb hf1 hw1 hkk ex hpost
          · rw [if_neg (by rw [hkk]; decide), if_neg (by rw [hkk]; decide), if_neg (by rw [hkk]; decide), if_neg (by rw [hkk]; decide), if_neg (by rw [hkk]; decide), if_neg (by rw [hkk]; decide), if_neg (by rw [hkk]; decide), if_pos (by rw [hkk]; decide)] at hpost
            exact en_14 hE hjk hj16 hS hd1 hF hb hf1 hw1 hkk hpost
    · rw [if_pos c2]
      rw [if_neg c1] at hpost
      exact hpost _ (ret_fail (by decide) h (Bs.rf j τ) h19)
/-- a doing from outside, on both sides -/
theorem doing_sim {σ : SX} {τ : SM} {o : Option Nat} {p : Int32} {post : Int32 → SM → Prop} (h : SB σ τ) (hw : σ.1 11 = 0) (ho : okO σ o) (hpost : ∀ τ', SB (fdo 16 σ o p).2 τ' → τ'.1 17 = τ.1 17 → ((fdo 16 σ o p).2.1 11 = 0 → τ'.1 25 = (fdo 16 σ o p).1) → (¬ (fdo 16 σ o p).2.1 11 = 0 → (fdo 16 σ o p).1 = 0) → post ((fdo 16 σ o p).2.1 11) τ') : wpL_X2_doing τ (oI o) p post := by
  intro σ1 e1 σ2 e2 σ3 e3
  subst e1; subst e2; subst e3
  have h3 : SB σ (m_I (m_I (m_I τ 19 0) 24 0) 25 0) := ((h.I 19 0 (by decide)).I 24 0 (by decide)).I 25 0 (by decide)
  have e19 : (m_I (m_I (m_I τ 19 0) 24 0) 25 0).1 19 = nI 0 := by rw [mI_ne _ _ _ _ (by decide), mI_ne _ _ _ _ (by decide), mI_self, nI_0]
  have e24 : (m_I (m_I (m_I τ 19 0) 24 0) 25 0).1 24 = 0 := by rw [mI_ne _ _ _ _ (by decide), mI_self]
  refine enter_P (j := 0) (by decide) e19 ?_
  refine eng_all 16 (Nat.le_refl _) σ (m_I (m_I (m_I τ 19 0) 24 0) 25 0) o p (oI o) p post h3 hw e24 e19 ho (fun τ' hR => ?_)
  obtain ⟨r1, r2, r3, r4, r5, r6, r7⟩ := hR
  refine go_end r2 ?_
  rw [r5]
  refine hpost τ' r1 ?_ (fun c => (r6 c).1) r7
  rw [r3, mI_ne _ _ _ _ (by decide), mI_ne _ _ _ _ (by decide), mI_ne _ _ _ _ (by decide)]
