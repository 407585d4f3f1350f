/-! what is done alone: both sides come to the same -/
theorem SB.d600 {σ : SX} {τ : SM} (h : SB σ τ) {d : Nat} (hd : d < σ.2.2.2.1.1) : d < 600 := Nat.lt_trans hd h.2.1.1
section ALS
variable {σ : SX} {τ0 τ : SM} {j d : Nat} {p : Int32} {vd vp : Int32} {post : Int32 → SM → Prop}
theorem sb_st (h : SB σ τ) (j st : Nat) : SB σ (m_st τ j st) := h.F 22 _ (by decide)
theorem hb_st (hb : Bs j τ0 τ) : Bs j τ0 (m_st τ j 1) := hb.st 1
theorem al_0 (hj : j < 16) (hd6 : d < 600) (h : SB σ τ) (hF : Fr τ j d p 0 p) (hb : Bs j τ0 τ) (hf0 : τ.1 24 = 0) (hw : σ.1 11 = 0) (e6 : τ.2 6 d = nI 0) {X : Int32} (e7 : τ.2 7 d = X) (hpost : ∀ τ', Ret j τ0 (X, σ) τ' → Go vd vp post τ') : Go vd vp post τ := by
  refine al_give (τx := m_st τ j 1) (r := X) hj hF.1 hf0 (fun P hP => gs_al hF hj hd6 (by decide) e6 (by decide) ?_) (sb_st h j 1) hF.1 (hb.st 1) hf0 hw hpost
  rw [e6, e7]
  exact a21_0 (give_P hj hF.1 hP)
theorem al_1 (hj : j < 16) (hd6 : d < 600) (h : SB σ τ) (hF : Fr τ j d p 0 p) (hb : Bs j τ0 τ) (hf0 : τ.1 24 = 0) (hw : σ.1 11 = 0) (e6 : τ.2 6 d = nI 1) {x : Nat} (hx : x < 10) (e7 : τ.2 7 d = nI x) (hpost : ∀ τ', Ret j τ0 (σ.2.1 0 x, sxF σ 0 (upd (σ.2.1 0) x p)) τ' → Go vd vp post τ') : Go vd vp post τ := by
  refine al_give (σ := sxF σ 0 (upd (σ.2.1 0) x p)) (τx := m_bas (m_st τ j 1) x p) (r := σ.2.1 0 x) hj hF.1 hf0 (fun P hP => gs_al hF hj hd6 (by decide) e6 (by decide) ?_) ((sb_st h j 1).bas x p) hF.1 ((hb.st 1).F 0 _ (by decide)) hf0 hw hpost
  rw [e6, e7]
  refine a21_1 hx ?_
  rw [m_st_2 τ j 1 0 (by decide), h.2.2.2.1 x hx]
  exact give_P hj hF.1 hP
theorem al_2 (hj : j < 16) (hd6 : d < 600) (h : SB σ τ) (hF : Fr τ j d p 0 p) (hb : Bs j τ0 τ) (hf0 : τ.1 24 = 0) (hw : σ.1 11 = 0) (e6 : τ.2 6 d = nI 2) {x : Nat} (hx : x < 10) (e7 : τ.2 7 d = nI x) {Y : Int32} (e8 : τ.2 8 d = Y) (hpost : ∀ τ', Ret j τ0 (σ.2.1 0 x + p * Y, sxF σ 0 (upd (σ.2.1 0) x (σ.2.1 0 x + p * Y))) τ' → Go vd vp post τ') : Go vd vp post τ := by
  refine al_give (σ := sxF σ 0 (upd (σ.2.1 0) x (σ.2.1 0 x + p * Y))) (τx := m_bas (m_st τ j 1) x (σ.2.1 0 x + p * Y)) (r := σ.2.1 0 x + p * Y) hj hF.1 hf0 (fun P hP => gs_al hF hj hd6 (by decide) e6 (by decide) ?_) ((sb_st h j 1).bas x _) hF.1 ((hb.st 1).F 0 _ (by decide)) hf0 hw hpost
  rw [e6, e7, e8]
  refine a21_2 hx ?_
  rw [m_st_2 τ j 1 0 (by decide), h.2.2.2.1 x hx]
  exact give_P hj hF.1 hP
theorem al_3f (hj : j < 16) (hd6 : d < 600) (h : SB σ τ) (hF : Fr τ j d p 0 p) (hb : Bs j τ0 τ) (hf0 : τ.1 24 = 0) (hw : σ.1 11 = 0) (e6 : τ.2 6 d = nI 3) {x : Nat} (hx : x < 10) (e7 : τ.2 7 d = nI x) (hc : p < 0 ∨ ¬ p ≤ σ.2.1 0 x) (hpost : ∀ τ', Ret j τ0 (f1_fail σ (-3)) τ' → Go vd vp post τ') : Go vd vp post τ := by
  refine al_fail (by decide) hj hd6 h hF hb hf0 (by rw [e6]; decide) (fun P hP => gs_al hF hj hd6 (by decide) e6 (by decide) ?_) hpost
  rw [e6, e7]
  refine a21_3 ?_
  by_cases hv : p < 0
  · exact draw_F hv hP
  · refine draw_G hx hv ?_ hP
    rw [m_st_2 τ j 1 0 (by decide), h.2.2.2.1 x hx]
    rcases hc with c | c
    · exact absurd c hv
    · exact c
theorem al_3s (hj : j < 16) (hd6 : d < 600) (h : SB σ τ) (hF : Fr τ j d p 0 p) (hb : Bs j τ0 τ) (hf0 : τ.1 24 = 0) (hw : σ.1 11 = 0) (e6 : τ.2 6 d = nI 3) {x y : Nat} (hx : x < 10) (hy : y < 10) (e7 : τ.2 7 d = nI x) (e8 : τ.2 8 d = nI y) (hv : ¬ p < 0) (hc : p ≤ σ.2.1 0 x) {σ1 σ2 : SX} (hs1 : σ1 = sxF σ 0 (upd (σ.2.1 0) x (σ.2.1 0 x - p))) (hs2 : σ2 = sxF σ1 0 (upd (σ1.2.1 0) y (σ1.2.1 0 y + p))) (hpost : ∀ τ', Ret j τ0 (σ2.2.1 0 x, σ2) τ' → Go vd vp post τ') : Go vd vp post τ := by
  have h1 := (sb_st h j 1).bas x (σ.2.1 0 x - p)
  rw [← hs1] at h1
  have h2 := h1.bas y (σ1.2.1 0 y + p)
  rw [← hs2] at h2
  have ey := h1.2.2.2.1 y hy
  have ex := h2.2.2.2.1 x hx
  have w2 : σ2.1 11 = 0 := by rw [hs2, hs1]; exact hw
  refine al_give (σ := σ2) (r := σ2.2.1 0 x) hj hF.1 hf0 (fun P hP => gs_al hF hj hd6 (by decide) e6 (by decide) ?_) h2 hF.1 (((hb.st 1).F 0 _ (by decide)).F 0 _ (by decide)) hf0 w2 hpost
  rw [e6, e7, e8]
  refine a21_3 (draw_S hx hy hv ?_ ?_)
  · rw [m_st_2 τ j 1 0 (by decide), h.2.2.2.1 x hx]; exact hc
  · rw [show (m_st τ j 1).2 0 x = σ.2.1 0 x from by rw [m_st_2 τ j 1 0 (by decide), h.2.2.2.1 x hx], ey, ex]
    exact give_P hj hF.1 hP
theorem al_4f (hj : j < 16) (hd6 : d < 600) (h : SB σ τ) (hF : Fr τ j d p 0 p) (hb : Bs j τ0 τ) (hf0 : τ.1 24 = 0) (hw : σ.1 11 = 0) (e6 : τ.2 6 d = nI 4) (hv : vp_in (τ.2 7 d) 600) (hn : f2_isIn (τ.2 8 d) 0 (τ.2 2 (τ.2 7 d).toNatClampNeg - 1) = 0) (hpost : ∀ τ', Ret j τ0 (f1_fail σ (-4)) τ' → Go vd vp post τ') : Go vd vp post τ := by
  refine al_fail (by decide) hj hd6 h hF hb hf0 (by rw [e6]; decide) (fun P hP => gs_al hF hj hd6 (by decide) e6 (by decide) ?_) hpost
  rw [e6]
  refine a21_4f hv ?_ hP
  rw [m_st_2 τ j 1 2 (by decide)]
  exact hn
theorem al_4s (hj : j < 16) (hd6 : d < 600) (h : SB σ τ) (hF : Fr τ j d p 0 p) (hb : Bs j τ0 τ) (hf0 : τ.1 24 = 0) (hw : σ.1 11 = 0) (e6 : τ.2 6 d = nI 4) {r y : Nat} (hr : r < σ.2.2.2.2.1) (hy : y < (σ.2.2.2.2.2 r).1) (e7 : τ.2 7 d = nI (r + 1)) (e8 : τ.2 8 d = nI y) (hpost : ∀ τ', Ret j τ0 ((σ.2.2.2.2.2 r).2 y + p, (σ.1, σ.2.1, σ.2.2.1, σ.2.2.2.1, (σ.2.2.2.2.1, va_up σ.2.2.2.2.2 r ((σ.2.2.2.2.2 r).1, upd (σ.2.2.2.2.2 r).2 y ((σ.2.2.2.2.2 r).2 y + p))))) τ' → Go vd vp post τ') : Go vd vp post τ := by
  have hr6 : r + 1 < 600 := by have := h.2.1.2.1; omega
  obtain ⟨w6, ew, em⟩ := h.2.2.2.2.2.1.2 r hr
  have h2 := (sb_st h j 1).row r y ((σ.2.2.2.2.2 r).2 y + p) hr hy
  refine al_give (r := (σ.2.2.2.2.2 r).2 y + p) hj hF.1 hf0 (fun P hP => gs_al hF hj hd6 (by decide) e6 (by decide) ?_) h2 hF.1 ((hb.st 1).F 3 _ (by decide)) hf0 hw hpost
  rw [e6, e7, e8]
  refine a21_4s hr6 (by omega) ?_ ?_
  · rw [m_st_2 τ j 1 2 (by decide), ew, isIn_W _ w6, if_neg (nI_pos (by omega)), if_neg (nI_ge hy (by omega))]
    decide
  · rw [show (m_st τ j 1).2 3 (6 * (r + 1) + y) = (σ.2.2.2.2.2 r).2 y from by rw [m_st_2 τ j 1 3 (by decide), em y hy]]
    exact give_P hj hF.1 hP
theorem al_5f (hj : j < 16) (hd6 : d < 600) (h : SB σ τ) (hF : Fr τ j d p 0 p) (hb : Bs j τ0 τ) (hf0 : τ.1 24 = 0) (hw : σ.1 11 = 0) (e6 : τ.2 6 d = nI 5) (e7 : τ.2 7 d = 0) (hpost : ∀ τ', Ret j τ0 (f1_fail σ (-5)) τ' → Go vd vp post τ') : Go vd vp post τ := by
  refine al_fail (by decide) hj hd6 h hF hb hf0 (by rw [e6]; decide) (fun P hP => gs_al hF hj hd6 (by decide) e6 (by decide) ?_) hpost
  rw [e6]
  exact a21_5f e7 hP
theorem al_5s (hj : j < 16) (hd6 : d < 600) (h : SB σ τ) (hF : Fr τ j d p 0 p) (hb : Bs j τ0 τ) (hf0 : τ.1 24 = 0) (hw : σ.1 11 = 0) (e6 : τ.2 6 d = nI 5) {X : Int32} (hX : ¬ X = 0) (e7 : τ.2 7 d = X) (hpost : ∀ τ', Ret j τ0 (p / X, σ) τ' → Go vd vp post τ') : Go vd vp post τ := by
  refine al_give (τx := m_st τ j 1) (r := p / X) hj hF.1 hf0 (fun P hP => gs_al hF hj hd6 (by decide) e6 (by decide) ?_) (sb_st h j 1) hF.1 (hb.st 1) hf0 hw hpost
  rw [e6, e7]
  exact a21_5s hX (give_P hj hF.1 hP)
theorem al_6 (hj : j < 16) (hd6 : d < 600) (h : SB σ τ) (hF : Fr τ j d p 0 p) (hb : Bs j τ0 τ) (hf0 : τ.1 24 = 0) (hw : σ.1 11 = 0) (e6 : τ.2 6 d = nI 6) {X : Int32} (e7 : τ.2 7 d = X) (hpost : ∀ τ', Ret j τ0 (p + X, σ) τ' → Go vd vp post τ') : Go vd vp post τ := by
  refine al_give (τx := m_st τ j 1) (r := p + X) hj hF.1 hf0 (fun P hP => gs_al hF hj hd6 (by decide) e6 (by decide) ?_) (sb_st h j 1) hF.1 (hb.st 1) hf0 hw hpost
  rw [e6, e7]
  exact a21_6 (give_P hj hF.1 hP)
theorem al_11 (hj : j < 16) (h : SB σ τ) (hd : d < σ.2.2.2.1.1) (hF : Fr τ j d p 0 p) (hb : Bs j τ0 τ) (hf0 : τ.1 24 = 0) (hw : σ.1 11 = 0) (e6 : τ.2 6 d = nI 11) {e : Nat} (he : (σ.2.2.2.1.2 d).2 4 = some e) (e7 : τ.2 7 d = nI e) (hpost : ∀ τ', Ret j τ0 (f1_doLater σ d p) τ' → Go vd vp post τ') : Go vd vp post τ := by
  have hd6 := h.d600 hd
  by_cases c : σ.1 7 < 12
  · obtain ⟨n12, hin, e13, hsb⟩ := (sb_st h j 1).later hd he p c
    have e1 : f1_doLater σ d p = (σ.1 7 + 1, (f1_doLater σ d p).2) := by simp only [f1_doLater]; rw [if_pos c]
    have w1 : (f1_doLater σ d p).2.1 11 = 0 := by
      have : (f1_doLater σ d p).2.1 = va_up σ.1 7 (σ.1 7 + 1) := by simp only [f1_doLater]; rw [if_pos c]
      rw [this, va_up_ne _ _ (by decide)]
      exact hw
    rw [e1] at hpost
    refine al_give (σ := (f1_doLater σ d p).2) (r := σ.1 7 + 1) hj hF.1 hf0 (fun P hP => gs_al hF hj hd6 (by decide) e6 (by decide) ?_) hsb ?_ ?_ ?_ w1 hpost
    · rw [e6, e7]
      refine a21_11 ⟨fun _ => ⟨hin, fun σ2 e2 => ?_⟩, fun q => absurd q n12⟩
      subst e2
      refine ⟨hin, fun σ3 e3 x4 e4 σ5 e5 => ?_⟩
      subst e4; subst e3
      have e5' : σ5 = (va_up (m_st τ j 1).1 13 ((m_st τ j 1).1 13 + 1), va_up (va_up (m_st τ j 1).2 14 (upd ((m_st τ j 1).2 14) ((m_st τ j 1).1 13).toNatClampNeg (nI e))) 15 (upd ((m_st τ j 1).2 15) ((m_st τ j 1).1 13).toNatClampNeg p)) := by
        rw [e5]
        dsimp only
        rw [show (va_up (va_up τ.2 22 (upd (τ.2 22) j (nI 1))) 14 (upd ((va_up τ.2 22 (upd (τ.2 22) j (nI 1))) 14) (τ.1 13).toNatClampNeg (nI e))) 15 = (va_up τ.2 22 (upd (τ.2 22) j (nI 1))) 15 from va_up_ne _ _ (by decide)]
      have ev : σ5.1 13 = σ.1 7 + 1 := by rw [e5', ← e13]; show (va_up (m_st τ j 1).1 13 ((m_st τ j 1).1 13 + 1)) 13 = _; rw [va_up_self]
      rw [ev, e5']
      refine give_P hj ?_ hP
      dsimp only
      rw [va_up_ne _ _ (by decide)]
      exact hF.1
    · dsimp only
      rw [va_up_ne _ _ (by decide)]
      exact hF.1
    · exact ((((hb.st 1).I 13 _ (by decide)).F 14 _ (by decide)).F 15 _ (by decide))
    · dsimp only
      rw [va_up_ne _ _ (by decide)]
      exact hf0
  · have e1 : f1_doLater σ d p = f1_fail σ (-7) := by simp only [f1_doLater]; rw [if_neg c]
    rw [e1] at hpost
    refine al_fail (by decide) hj hd6 h hF hb hf0 (by rw [e6]; decide) (fun P hP => gs_al hF hj hd6 (by decide) e6 (by decide) ?_) hpost
    rw [e6]
    obtain ⟨hq, w, hh, hw12, q6, q7, q13, hjj⟩ := h.2.2.2.2.2.2.1
    have h12 : τ.1 13 = 12 := by
      rw [q7, show (12 : Int32) = nI 12 from rfl, nI_ltI (by omega) (by decide)] at c
      rw [q13, show w = 12 by omega]
      rfl
    exact a21_11 ⟨fun q => absurd h12 q, fun _ σ7 e7 => by rw [e7]; exact hP⟩
end ALS
