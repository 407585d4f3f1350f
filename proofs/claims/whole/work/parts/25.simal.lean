/-! what is done alone, on both sides -/
def Bs (j : Nat) (τ0 τ : SM) : Prop := τ.1 17 = τ0.1 17 ∧ ∀ i, i < j → τ.2 20 i = τ0.2 20 i ∧ τ.2 21 i = τ0.2 21 i ∧ τ.2 22 i = τ0.2 22 i ∧ τ.2 23 i = τ0.2 23 i
def Ret (j : Nat) (τ0 : SM) (q : Int32 × SX) (τ : SM) : Prop := SB q.2 τ ∧ τ.1 19 = nI j ∧ τ.1 17 = τ0.1 17 ∧ (∀ i, i < j → τ.2 20 i = τ0.2 20 i ∧ τ.2 21 i = τ0.2 21 i ∧ τ.2 22 i = τ0.2 22 i ∧ (i + 1 < j → τ.2 23 i = τ0.2 23 i)) ∧ τ.1 24 = q.2.1 11 ∧ (q.2.1 11 = 0 → τ.1 25 = q.1 ∧ ∀ i, i + 1 = j → τ.2 23 i = q.1) ∧ (¬ q.2.1 11 = 0 → q.1 = 0)
theorem fin_give {σ : SX} {τ0 τ : SM} {j : Nat} {r : Int32} (hj : j < 16) (h : SB σ τ) (hp : τ.1 19 = nI (j + 1)) (hb : Bs j τ0 τ) (hf : τ.1 24 = 0) (hw : σ.1 11 = 0) : Ret j τ0 (r, σ) (m_give τ r) := by
  have e1 : τ.1 19 - 1 = nI j := by rw [hp, nI_pred]
  have hsb : SB σ (m_I (m_I τ 19 (τ.1 19 - 1)) 25 r) := (h.I 19 _ (by decide)).I 25 _ (by decide)
  unfold m_give
  cases j with
  | zero =>
    rw [if_pos (by rw [e1]; decide)]
    refine ⟨hsb, ?_, ?_, fun i hi => absurd hi (by omega), ?_, fun _ => ⟨mI_self _ _ _, fun i hi => absurd hi (by omega)⟩, fun c => absurd hw c⟩
    · rw [mI_ne _ _ _ _ (by decide), mI_self, e1]
    · rw [mI_ne _ _ _ _ (by decide), mI_ne _ _ _ _ (by decide)]; exact hb.1
    · rw [mI_ne _ _ _ _ (by decide), mI_ne _ _ _ _ (by decide), hf, hw]
  | succ i0 =>
    rw [if_neg (by rw [e1]; exact nI_nle (by omega) (by omega))]
    have e2 : (τ.1 19 - 1 - 1).toNatClampNeg = i0 := by rw [e1, nI_pred, nI_clamp (by omega)]
    rw [e2]
    refine ⟨hsb.F 23 _ (by decide), ?_, ?_, fun i hi => ?_, ?_, fun _ => ⟨?_, fun i hi => ?_⟩, fun c => absurd hw c⟩
    · show (m_I (m_I τ 19 (τ.1 19 - 1)) 25 r).1 19 = _
      rw [mI_ne _ _ _ _ (by decide), mI_self, e1]
    · show (m_I (m_I τ 19 (τ.1 19 - 1)) 25 r).1 17 = _
      rw [mI_ne _ _ _ _ (by decide), mI_ne _ _ _ _ (by decide)]; exact hb.1
    · obtain ⟨q1, q2, q3, q4⟩ := hb.2 i hi
      dsimp only
      rw [va_up_ne _ _ (by decide), va_up_ne _ _ (by decide), va_up_ne _ _ (by decide), va_up_self]
      refine ⟨q1, q2, q3, fun h1 => ?_⟩
      simp only [upd]
      rw [if_neg (by omega)]
      exact q4
    · show (m_I (m_I τ 19 (τ.1 19 - 1)) 25 r).1 24 = _
      rw [mI_ne _ _ _ _ (by decide), mI_ne _ _ _ _ (by decide), hf, hw]
    · show (m_I (m_I τ 19 (τ.1 19 - 1)) 25 r).1 25 = _
      exact mI_self _ _ _
    · dsimp only
      rw [va_up_self]
      simp only [upd]
      rw [if_pos (by omega)]
theorem fin_pop {σ : SX} {τ0 τ : SM} {j : Nat} (h : SB σ τ) (hb : Bs j τ0 τ) (hf : τ.1 24 = σ.1 11) (hw : ¬ σ.1 11 = 0) : Ret j τ0 (0, σ) (m_I τ 19 (nI j)) :=
  ⟨h.I 19 _ (by decide), mI_self _ _ _, by rw [mI_ne _ _ _ _ (by decide)]; exact hb.1, fun i hi => ⟨(hb.2 i hi).1, (hb.2 i hi).2.1, (hb.2 i hi).2.2.1, fun _ => (hb.2 i hi).2.2.2⟩, by rw [mI_ne _ _ _ _ (by decide)]; exact hf, fun c => absurd c hw, fun _ => rfl⟩
theorem Bs.I {j : Nat} {τ0 τ : SM} (h : Bs j τ0 τ) (k : Nat) (v : Int32) (hk : k ≠ 17) : Bs j τ0 (m_I τ k v) := ⟨by rw [mI_ne _ _ _ _ (Ne.symm hk)]; exact h.1, h.2⟩
theorem Bs.st {j : Nat} {τ0 τ : SM} (h : Bs j τ0 τ) (st : Nat) : Bs j τ0 (m_st τ j st) := by
  refine ⟨h.1, fun i hi => ?_⟩
  obtain ⟨q1, q2, q3, q4⟩ := h.2 i hi
  rw [m_st_2 τ j st 20 (by decide), m_st_2 τ j st 21 (by decide), m_st_2 τ j st 23 (by decide)]
  refine ⟨q1, q2, ?_, q4⟩
  show (va_up τ.2 22 (upd (τ.2 22) j (nI st))) 22 i = _
  rw [va_up_self]
  simp only [upd]
  rw [if_neg (by omega)]
  exact q3
theorem Bs.F {j : Nat} {τ0 τ : SM} (h : Bs j τ0 τ) (k : Nat) (f : Nat → Int32) (hk : k < 20) : Bs j τ0 (τ.1, va_up τ.2 k f) := by
  refine ⟨h.1, fun i hi => ?_⟩
  rw [mF_ne _ _ _ _ (by omega), mF_ne _ _ _ _ (by omega), mF_ne _ _ _ _ (by omega), mF_ne _ _ _ _ (by omega)]
  exact h.2 i hi
theorem Fr.st {τ : SM} {j d : Nat} {p : Int32} {st : Nat} {v : Int32} (h : Fr τ j d p st v) (s2 : Nat) : Fr (m_st τ j s2) j d p s2 v := by
  obtain ⟨h1, h2, h3, h4, h5⟩ := h
  refine ⟨h1, by rw [m_st_2 _ _ _ _ (by decide)]; exact h2, by rw [m_st_2 _ _ _ _ (by decide)]; exact h3, ?_, by rw [m_st_2 _ _ _ _ (by decide)]; exact h5⟩
  show (va_up τ.2 22 (upd (τ.2 22) j (nI s2))) 22 j = _
  rw [va_up_self]
  simp [upd]
theorem Fr.I {τ : SM} {j d : Nat} {p : Int32} {st : Nat} {v : Int32} (h : Fr τ j d p st v) (k : Nat) (w : Int32) (hk : k ≠ 19) : Fr (m_I τ k w) j d p st v := ⟨by rw [mI_ne _ _ _ _ (Ne.symm hk)]; exact h.1, h.2⟩
section AL
variable {σ : SX} {τ0 τ : SM} {j d : Nat} {p v : Int32} {vd vp : Int32} {post : Int32 → SM → Prop} {k : Nat} {st : Nat}
/-- a failure of what is on top, no TRY at its first -/
theorem go_pop (hj : j < 16) (hd : d < 600) (h : SB σ τ) (hF : Fr τ j d p st v) (hb : Bs j τ0 τ) (hf : τ.1 24 = σ.1 11) (hw : ¬ σ.1 11 = 0) (hn : ¬ (τ.2 6 d = 10 ∧ nI st = 1 ∧ ¬ τ.1 24 = -8 ∧ ¬ τ.1 24 = -9)) (hpost : ∀ τ', Ret j τ0 (0, σ) τ' → Go vd vp post τ') : Go vd vp post τ :=
  go_fall hj hF.1 (by rw [hf]; exact hw) (fun P hP => fall_pop hF hj hd hn hP) (hpost _ (fin_pop h hb hf hw))
theorem al_give {τx : SM} {r : Int32} (hj : j < 16) (hp : τ.1 19 = nI (j + 1)) (hf0 : τ.1 24 = 0) (hs : ∀ P : SM → Prop, P (m_give τx r) → wp_X2_goOn_0 τ P) (h : SB σ τx) (hpx : τx.1 19 = nI (j + 1)) (hb : Bs j τ0 τx) (hf : τx.1 24 = 0) (hw : σ.1 11 = 0) (hpost : ∀ τ', Ret j τ0 (r, σ) τ' → Go vd vp post τ') : Go vd vp post τ :=
  go_on hj hp hf0 hs (hpost _ (fin_give hj h hpx hb hf hw))
theorem al_fail {f : Int32} (hf : ¬ f = 0) (hj : j < 16) (hd : d < 600) (h : SB σ τ) (hF : Fr τ j d p 0 v) (hb : Bs j τ0 τ) (hf0 : τ.1 24 = 0) (hk : ¬ τ.2 6 d = 10) (hs : ∀ P : SM → Prop, P (m_I (m_st τ j 1) 24 f) → wp_X2_goOn_0 τ P) (hpost : ∀ τ', Ret j τ0 (f1_fail σ f) τ' → Go vd vp post τ') : Go vd vp post τ := by
  refine go_on hj hF.1 hf0 hs ?_
  have hsb : SB (sxI σ 11 f) (m_I (m_st τ j 1) 24 f) := ((h.F 22 _ (by decide)).I 24 _ (by decide)).X 11 f (by decide)
  refine go_pop hj hd hsb ((hF.st 1).I 24 f (by decide)) ((hb.st 1).I 24 f (by decide)) (by rw [mI_self, sI_self]) (by rw [sI_self]; exact hf) (fun q => hk ?_) hpost
  have := q.1
  rw [show (m_I (m_st τ j 1) 24 f).2 6 = (m_st τ j 1).2 6 from rfl, m_st_2 _ _ _ _ (by decide)] at this
  exact this
end AL
theorem isB_nI {i : Nat} (hi : i < 10) : ¬ f1_isBasin (nI i) = 0 := by
  unfold f1_isBasin f1_rng
  rw [if_neg (nI_pos (by omega)), if_neg (show ¬ (10 : Int32) ≤ nI i from nI_ge (b := 10) hi (by decide))]
  decide
theorem held_nI {σ : SX} {i : Nat} (hi : i < 10) : (f1_heldBy σ (nI i)).1 = σ.2.1 0 i := by
  simp only [f1_heldBy]
  rw [if_neg (isB_nI hi), nI_clamp (by omega)]
theorem pour_nI {σ : SX} {i : Nat} (hi : i < 10) (v : Int32) : f1_pour σ (nI i) v = sxF σ 0 (upd (σ.2.1 0) i v) := by
  simp only [f1_pour]
  rw [if_neg (isB_nI hi), nI_clamp (by omega)]
theorem isIn_W (y : Int32) {w : Nat} (hw : w ≤ 6) : f2_isIn y 0 (nI w - 1) = (if y < 0 then 0 else if nI w ≤ y then 0 else 1) := by
  unfold f2_isIn
  have e : nI w - 1 < y ↔ nI w ≤ y := by
    rw [Int32.lt_iff_toInt_lt, Int32.le_iff_toInt_le, show (1 : Int32) = nI 1 from rfl, pk_sub_toInt (by omega) (by decide), nI_toInt (by omega)]
    omega
  by_cases h1 : y < 0
  · rw [if_pos h1, if_pos h1]
  · rw [if_neg h1, if_neg h1]
    by_cases h2 : nI w ≤ y
    · rw [if_pos (e.mpr h2), if_pos h2]
    · rw [if_neg (fun q => h2 (e.mp q)), if_neg h2]

/-! the switch of alone, by kind -/
section A21
variable {τ : SM} {v1 v2 v3 v4 : Int32} {P : SM → Prop} {x y : Nat}
theorem a21_0 (h : wp_X2_give_0 τ v3 P) : wp_X2_alone_21 τ v1 v2 v3 v4 (nI 0) P :=
  ⟨fun c => absurd c (by decide), fun _ => h, fun c => absurd c (by decide), fun c => absurd c (by decide), fun c => absurd c (by decide), fun c => absurd c (by decide), fun c => absurd c (by decide), fun c => absurd c (by decide)⟩
theorem a21_1 (hx : x < 10) (h : wp_X2_give_0 (m_bas τ x v2) (τ.2 0 x) P) : wp_X2_alone_21 τ v1 v2 (nI x) v4 (nI 1) P := by
  have cx : (nI x).toNatClampNeg = x := nI_clamp (by omega)
  have hi : vp_in (nI x) 10 := vp_in_nI hx (by decide)
  refine ⟨fun c => absurd c (by decide), fun c => absurd c (by decide), fun _ => ?_, fun c => absurd c (by decide), fun c => absurd c (by decide), fun c => absurd c (by decide), fun c => absurd c (by decide), fun c => absurd c (by decide)⟩
  rw [cx]
  refine ⟨hi, fun x4 e4 => ⟨hi, fun σ5 e5 => ?_⟩⟩
  subst e4; subst e5
  exact h
theorem a21_2 (hx : x < 10) (h : wp_X2_give_0 (m_bas τ x (τ.2 0 x + v2 * v4)) (τ.2 0 x + v2 * v4) P) : wp_X2_alone_21 τ v1 v2 (nI x) v4 (nI 2) P := by
  have cx : (nI x).toNatClampNeg = x := nI_clamp (by omega)
  have hi : vp_in (nI x) 10 := vp_in_nI hx (by decide)
  refine ⟨fun c => absurd c (by decide), fun c => absurd c (by decide), fun c => absurd c (by decide), fun _ => ?_, fun c => absurd c (by decide), fun c => absurd c (by decide), fun c => absurd c (by decide), fun c => absurd c (by decide)⟩
  rw [cx]
  refine ⟨hi, fun x7 e7 x8 e8 x9 e9 => ⟨hi, fun σ10 e10 => ⟨hi, fun x11 e11 => ?_⟩⟩⟩
  subst e7; subst e8; subst e9; subst e10
  have : x11 = τ.2 0 x + v2 * v4 := by rw [e11]; simp [va_up, upd]
  subst this
  exact h
theorem a21_3 (h : wp_X2_draw_0 τ v3 v4 v2 P) : wp_X2_alone_21 τ v1 v2 v3 v4 (nI 3) P :=
  ⟨fun c => absurd c (by decide), fun c => absurd c (by decide), fun c => absurd c (by decide), fun c => absurd c (by decide), fun _ => h, fun c => absurd c (by decide), fun c => absurd c (by decide), fun c => absurd c (by decide)⟩
theorem draw_F (hv : v2 < 0) (h : P (m_I τ 24 (-3))) : wp_X2_draw_0 τ v3 v4 v2 P :=
  ⟨fun _ σ2 e2 => by rw [e2]; exact h, fun c => absurd hv c⟩
theorem draw_G (hx : x < 10) (hv : ¬ v2 < 0) (hc : ¬ v2 ≤ τ.2 0 x) (h : P (m_I τ 24 (-3))) : wp_X2_draw_0 τ (nI x) v4 v2 P := by
  have cx : (nI x).toNatClampNeg = x := nI_clamp (by omega)
  have hi : vp_in (nI x) 10 := vp_in_nI hx (by decide)
  refine ⟨fun c => absurd c hv, fun _ => ⟨hi, fun x3 e3 => ⟨fun c => absurd c ?_, fun _ σ e => by rw [e]; exact h⟩⟩⟩
  rw [e3, cx]
  exact hc
theorem draw_S (hx : x < 10) (hy : y < 10) (hv : ¬ v2 < 0) (hc : v2 ≤ τ.2 0 x) (h : wp_X2_give_0 (m_bas (m_bas τ x (τ.2 0 x - v2)) y ((m_bas τ x (τ.2 0 x - v2)).2 0 y + v2)) ((m_bas (m_bas τ x (τ.2 0 x - v2)) y ((m_bas τ x (τ.2 0 x - v2)).2 0 y + v2)).2 0 x) P) : wp_X2_draw_0 τ (nI x) (nI y) v2 P := by
  have cx : (nI x).toNatClampNeg = x := nI_clamp (by omega)
  have cy : (nI y).toNatClampNeg = y := nI_clamp (by omega)
  have hi : vp_in (nI x) 10 := vp_in_nI hx (by decide)
  have hiy : vp_in (nI y) 10 := vp_in_nI hy (by decide)
  refine ⟨fun c => absurd c hv, fun _ => ⟨hi, fun x3 e3 => ⟨fun _ => ?_, fun c => absurd ?_ c⟩⟩⟩
  · rw [cx]
    refine ⟨hi, fun x5 e5 x6 e6 => ⟨hi, fun σ7 e7 => ⟨hiy, fun x8 e8 x9 e9 => ⟨hiy, fun σ10 e10 => ⟨hi, fun x11 e11 => ?_⟩⟩⟩⟩⟩
    rw [cy] at e8 e10
    subst e5; subst e6; subst e7; subst e8; subst e9; subst e10; subst e11
    exact h
  · rw [e3, cx]
    exact hc
theorem a21_4f (hv : vp_in v3 600) (hn : f2_isIn v4 0 (τ.2 2 v3.toNatClampNeg - 1) = 0) (h : P (m_I τ 24 (-4))) : wp_X2_alone_21 τ v1 v2 v3 v4 (nI 4) P := by
  refine ⟨fun c => absurd c (by decide), fun c => absurd c (by decide), fun c => absurd c (by decide), fun c => absurd c (by decide), fun c => absurd c (by decide), fun _ => ?_, fun c => absurd c (by decide), fun c => absurd c (by decide)⟩
  refine ⟨hv, fun x14 e14 x15 e15 r16 e16 => ⟨fun _ σ18 e18 => by rw [e18]; exact h, fun c => absurd ?_ c⟩⟩
  rw [e16, e15, e14]
  exact hn
theorem a21_4s {r : Nat} (hr : r < 600) (hy : y < 6) (hn : ¬ f2_isIn (nI y) 0 (τ.2 2 r - 1) = 0) (h : wp_X2_give_0 (τ.1, va_up τ.2 3 (upd (τ.2 3) (6 * r + y) (τ.2 3 (6 * r + y) + v2))) (τ.2 3 (6 * r + y) + v2) P) : wp_X2_alone_21 τ v1 v2 (nI r) (nI y) (nI 4) P := by
  have cr : (nI r).toNatClampNeg = r := nI_clamp (by omega)
  refine ⟨fun c => absurd c (by decide), fun c => absurd c (by decide), fun c => absurd c (by decide), fun c => absurd c (by decide), fun c => absurd c (by decide), fun _ => ?_, fun c => absurd c (by decide), fun c => absurd c (by decide)⟩
  have e : (6 : Int32) * nI r + nI y = nI (6 * r + y) := by rw [show (6 : Int32) = nI 6 from rfl, pk_mul, nI_add]
  have hi : vp_in (nI (6 * r + y)) 3600 := vp_in_nI (by omega) (by decide)
  have ci : (nI (6 * r + y)).toNatClampNeg = 6 * r + y := nI_clamp (by omega)
  refine ⟨vp_in_nI hr (by decide), fun x14 e14 x15 e15 r16 e16 => ⟨fun c => absurd ?_ hn, fun _ x19 e19 x20 e20 => ?_⟩⟩
  · rw [e16, e15, e14, cr] at c
    exact c
  · subst e19
    rw [e] at e20
    subst e20
    rw [ci]
    refine ⟨hi, fun x21 e21 x22 e22 => ⟨hi, fun σ23 e23 x24 e24 x25 e25 => ?_⟩⟩
    subst e24
    rw [e] at e25
    subst e25
    refine ⟨hi, fun x26 e26 => ?_⟩
    rw [ci] at e26
    subst e21; subst e22; subst e23
    have : x26 = τ.2 3 (6 * r + y) + v2 := by rw [e26]; simp [va_up, upd]
    subst this
    exact h
theorem a21_5f (hv : v3 = 0) (h : P (m_I τ 24 (-5))) : wp_X2_alone_21 τ v1 v2 v3 v4 (nI 5) P :=
  ⟨fun c => absurd c (by decide), fun c => absurd c (by decide), fun c => absurd c (by decide), fun c => absurd c (by decide), fun c => absurd c (by decide), fun c => absurd c (by decide), fun _ => ⟨fun c => absurd hv c, fun _ σ e => by rw [e]; exact h⟩, fun c => absurd c (by decide)⟩
theorem a21_5s (hv : ¬ v3 = 0) (h : wp_X2_give_0 τ (v2 / v3) P) : wp_X2_alone_21 τ v1 v2 v3 v4 (nI 5) P :=
  ⟨fun c => absurd c (by decide), fun c => absurd c (by decide), fun c => absurd c (by decide), fun c => absurd c (by decide), fun c => absurd c (by decide), fun c => absurd c (by decide), fun _ => ⟨fun _ => ⟨hv, fun x e => by rw [e]; exact h⟩, fun c => absurd c hv⟩, fun c => absurd c (by decide)⟩
theorem a21_6 (h : wp_X2_give_0 τ (v2 + v3) P) : wp_X2_alone_21 τ v1 v2 v3 v4 (nI 6) P :=
  ⟨fun c => absurd c (by decide), fun c => absurd c (by decide), fun c => absurd c (by decide), fun c => absurd c (by decide), fun c => absurd c (by decide), fun c => absurd c (by decide), fun c => absurd c (by decide), fun _ x e => by rw [e]; exact h⟩
theorem a21_11 (h : wp_X2_later_0 τ v3 v2 P) : wp_X2_alone_21 τ v1 v2 v3 v4 (nI 11) P :=
  ⟨fun _ => h, fun c => absurd c (by decide), fun c => absurd c (by decide), fun c => absurd c (by decide), fun c => absurd c (by decide), fun c => absurd c (by decide), fun c => absurd c (by decide), fun c => absurd c (by decide)⟩
end A21
