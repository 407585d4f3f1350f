/-! the reference's engine: what enter, give, fall, goOn come to -/
def m_push (τ : SM) (d p : Int32) : SM := (va_up τ.1 19 (τ.1 19 + 1), va_up (va_up (va_up (va_up τ.2 20 (upd (τ.2 20) (τ.1 19).toNatClampNeg d)) 21 (upd (τ.2 21) (τ.1 19).toNatClampNeg p)) 22 (upd (τ.2 22) (τ.1 19).toNatClampNeg 0)) 23 (upd (τ.2 23) (τ.1 19).toNatClampNeg p))
abbrev m_I (τ : SM) (k : Nat) (v : Int32) : SM := (va_up τ.1 k v, τ.2)
def m_enter (τ : SM) (d p : Int32) : SM :=
  if τ.1 16 = 60 then m_I τ 24 (-8) else if τ.1 19 = 16 then m_I (m_I τ 16 (τ.1 16 + 1)) 24 (-9) else if d = -2 then m_I (m_I τ 16 (τ.1 16 + 1)) 24 (-6) else m_push (m_I τ 16 (τ.1 16 + 1)) d p
theorem enter_P {τ : SM} {d p : Int32} {P : SM → Prop} {j : Nat} (hj : j ≤ 16) (hp : τ.1 19 = nI j) (h : P (m_enter τ d p)) : wp_X2_enter_0 τ d p P := by
  unfold m_enter at h
  refine ⟨fun c x2 e2 σ3 e3 => ?_, fun c σ14 e14 => ?_⟩
  · rw [if_neg c] at h
    subst e2; subst e3
    have h19 : (va_up τ.1 16 (τ.1 16 + 1)) 19 = τ.1 19 := va_up_ne _ _ (by decide)
    refine ⟨fun c2 => ?_, fun c2 σ13 e13 => ?_⟩
    · have c2' : ¬ τ.1 19 = 16 := by rw [← h19]; exact c2
      rw [if_neg c2'] at h
      refine ⟨fun c3 => ?_, fun c3 σ12 e12 => ?_⟩
      · rw [if_neg c3] at h
        have hin : vp_in (τ.1 19) 16 := by
          rw [hp]
          refine vp_in_nI ?_ (by decide)
          rcases Nat.lt_or_ge j 16 with q | q
          · exact q
          · exact absurd (by rw [hp, show j = 16 by omega]; rfl) c2'
        refine ⟨by dsimp only; rw [h19]; exact hin, fun σ6 e6 => ?_⟩
        have i6 : σ6.1 19 = τ.1 19 := by rw [e6]; exact h19
        refine ⟨by rw [i6]; exact hin, fun σ7 e7 => ?_⟩
        have i7 : σ7.1 19 = τ.1 19 := by rw [e7]; exact i6
        refine ⟨by rw [i7]; exact hin, fun σ8 e8 => ?_⟩
        have i8 : σ8.1 19 = τ.1 19 := by rw [e8]; exact i7
        refine ⟨by rw [i8]; exact hin, fun σ9 e9 x10 e10 σ11 e11 => ?_⟩
        have e : σ11 = m_push (m_I τ 16 (τ.1 16 + 1)) d p := by
          subst e11; subst e10; subst e9; subst e8; subst e7; subst e6
          simp [m_push, va_up]
        rw [e]
        exact h
      · rw [if_pos c3] at h
        rw [e12]
        exact h
    · rw [if_pos (by rw [← h19]; exact c2)] at h
      rw [e13]
      exact h
  · rw [if_pos c] at h
    rw [e14]
    exact h
def m_give (τ : SM) (v : Int32) : SM := if τ.1 19 - 1 ≤ 0 then m_I (m_I τ 19 (τ.1 19 - 1)) 25 v else ((m_I (m_I τ 19 (τ.1 19 - 1)) 25 v).1, va_up τ.2 23 (upd (τ.2 23) (τ.1 19 - 1 - 1).toNatClampNeg v))
theorem give_P {τ : SM} {v : Int32} {P : SM → Prop} {j : Nat} (hj : j < 16) (hp : τ.1 19 = nI (j + 1)) (h : P (m_give τ v)) : wp_X2_give_0 τ v P := by
  intro x1 e1 σ2 e2 σ3 e3
  subst e1; subst e2; subst e3
  have h19 : (va_up (va_up τ.1 19 (τ.1 19 - 1)) 25 v) 19 = τ.1 19 - 1 := by rw [va_up_ne _ _ (by decide), va_up_self]
  unfold m_give at h
  refine ⟨fun c => ?_, fun c x5 e5 => ?_⟩
  · rw [if_pos (by rw [← h19]; exact c)] at h
    exact h
  · have c' : ¬ τ.1 19 - 1 ≤ 0 := by rw [← h19]; exact c
    rw [if_neg c'] at h
    have e5' : x5 = τ.1 19 - 1 - 1 := by rw [e5]; dsimp only; rw [h19]
    have hin : vp_in x5 16 := by
      rw [e5', hp, nI_pred]
      rw [hp, nI_pred] at c'
      cases j with
      | zero => exact absurd (by decide) c'
      | succ j => rw [nI_pred]; exact vp_in_nI (by omega) (by decide)
    refine ⟨hin, fun σ6 e6 => ?_⟩
    subst e6; subst e5'
    exact h
/-- the loop of doing, from its head: it comes to its end -/
def Go (vd vp : Int32) (post : Int32 → SM → Prop) (τ : SM) : Prop := ∃ n, rn_X2_doing_21 n τ vd vp post
theorem go_end {vd vp : Int32} {post : Int32 → SM → Prop} {τ : SM} (hp : τ.1 19 = 0) (h : post (τ.1 24) τ) : Go vd vp post τ :=
  ⟨0, fun _ => h, fun c => absurd (by rw [hp]; decide) c⟩
theorem go_on {vd vp : Int32} {post : Int32 → SM → Prop} {τ τ' : SM} {j : Nat} (hj : j < 16) (hp : τ.1 19 = nI (j + 1)) (hf : τ.1 24 = 0) (hs : ∀ P : SM → Prop, P τ' → wp_X2_goOn_0 τ P) (h : Go vd vp post τ') : Go vd vp post τ := by
  obtain ⟨n, h⟩ := h
  refine ⟨n + 1, fun c => absurd c (by rw [hp]; exact nI_nle (by omega) (by omega)), fun _ => ⟨fun _ => hs _ h, fun c => absurd hf c⟩⟩
theorem go_fall {vd vp : Int32} {post : Int32 → SM → Prop} {τ τ' : SM} {j : Nat} (hj : j < 16) (hp : τ.1 19 = nI (j + 1)) (hf : ¬ τ.1 24 = 0) (hs : ∀ P : SM → Prop, P τ' → wp_X2_fall_0 τ P) (h : Go vd vp post τ') : Go vd vp post τ := by
  obtain ⟨n, h⟩ := h
  refine ⟨n + 1, fun c => absurd c (by rw [hp]; exact nI_nle (by omega) (by omega)), fun _ => ⟨fun c => absurd c hf, fun _ => hs _ h⟩⟩
/-- the frame on top -/
def Fr (τ : SM) (j d : Nat) (p : Int32) (st : Nat) (v : Int32) : Prop := τ.1 19 = nI (j + 1) ∧ τ.2 20 j = nI d ∧ τ.2 21 j = p ∧ τ.2 22 j = nI st ∧ τ.2 23 j = v
abbrev m_st (τ : SM) (j st : Nat) : SM := (τ.1, va_up τ.2 22 (upd (τ.2 22) j (nI st)))
theorem m_st_2 (τ : SM) (j st k : Nat) (h : k ≠ 22) : (m_st τ j st).2 k = τ.2 k := va_up_ne _ _ h
theorem goOn_to {τ : SM} {j d : Nat} {p : Int32} {st : Nat} {v : Int32} {P : SM → Prop} (hF : Fr τ j d p st v) (hj : j < 16) (hd : d < 600) (h : wp_X2_goOn_53 (m_st τ j (st + 1)) (nI j) (nI d) p v (nI st) (τ.2 6 d) P) : wp_X2_goOn_0 τ P := by
  obtain ⟨h19, h20, h21, h22, h23⟩ := hF
  have cj : (nI j).toNatClampNeg = j := nI_clamp (by omega)
  have cd : (nI d).toNatClampNeg = d := nI_clamp (by omega)
  have hi : vp_in (nI j) 16 := vp_in_nI hj (by decide)
  intro x1 e1
  rw [h19, nI_pred] at e1
  subst e1
  rw [cj]
  refine ⟨hi, fun x2 e2 => ⟨hi, fun x3 e3 => ⟨hi, fun x4 e4 => ⟨hi, fun x5 e5 => ⟨hi, fun x6 e6 x7 e7 => ⟨hi, fun σ8 e8 => ?_⟩⟩⟩⟩⟩⟩
  rw [h20] at e2
  rw [h21] at e3
  rw [h23] at e4
  rw [h22] at e5 e6
  subst e2; subst e3; subst e4; subst e5; subst e6; subst e7
  rw [nI_1] at e8
  subst e8
  refine ⟨vp_in_nI hd (by decide), fun x9 e9 => ?_⟩
  dsimp only at e9
  rw [cd, show (va_up τ.2 22 (upd (τ.2 22) j (nI (st + 1)))) 6 = τ.2 6 from va_up_ne _ _ (by decide)] at e9
  subst e9
  exact h
/-- what is on top falls -/
theorem fall_pop {τ : SM} {j d : Nat} {p : Int32} {st : Nat} {v : Int32} {P : SM → Prop} (hF : Fr τ j d p st v) (hj : j < 16) (hd : d < 600) (hn : ¬ (τ.2 6 d = 10 ∧ nI st = 1 ∧ ¬ τ.1 24 = -8 ∧ ¬ τ.1 24 = -9)) (h : P (m_I τ 19 (nI j))) : wp_X2_fall_0 τ P := by
  obtain ⟨h19, h20, h21, h22, h23⟩ := hF
  have cj : (nI j).toNatClampNeg = j := nI_clamp (by omega)
  have cd : (nI d).toNatClampNeg = d := nI_clamp (by omega)
  have hi : vp_in (nI j) 16 := vp_in_nI hj (by decide)
  have h55 : wp_X2_fall_55 τ (nI j) P := by
    refine ⟨fun _ x2 e2 σ3 e3 => ?_, fun c => absurd rfl c⟩
    rw [h19, nI_pred] at e2
    rw [e3, e2]
    exact h
  intro x1 e1
  rw [h19, nI_pred] at e1
  subst e1
  refine ⟨hi, fun x2 e2 => ?_⟩
  rw [cj, h20] at e2
  subst e2
  refine ⟨vp_in_nI hd (by decide), fun x3 e3 => ?_⟩
  rw [cd] at e3
  subst e3
  refine ⟨fun _ => h55, fun c => ⟨hi, fun x5 e5 => ?_⟩⟩
  rw [cj, h22] at e5
  subst e5
  exact ⟨fun _ => h55, fun c2 => ⟨fun _ => h55, fun c3 => ⟨fun _ => h55, fun c4 => absurd ⟨c, c2, c3, c4⟩ hn⟩⟩⟩
/-- a TRY takes the failure up -/
theorem fall_try {τ : SM} {j d : Nat} {p : Int32} {v : Int32} {P : SM → Prop} (hF : Fr τ j d p 1 v) (hj : j < 16) (hd : d < 600) (hk : τ.2 6 d = 10) (h8 : ¬ τ.1 24 = -8) (h9 : ¬ τ.1 24 = -9) (h : P (m_enter (m_st (m_I τ 24 0) j 2) (τ.2 8 d) p)) : wp_X2_fall_0 τ P := by
  obtain ⟨h19, h20, h21, h22, h23⟩ := hF
  have cj : (nI j).toNatClampNeg = j := nI_clamp (by omega)
  have cd : (nI d).toNatClampNeg = d := nI_clamp (by omega)
  have hi : vp_in (nI j) 16 := vp_in_nI hj (by decide)
  have h56 : wp_X2_fall_56 τ (nI j) 1 P := by
    refine ⟨fun c => absurd c (by decide), fun _ σ4 e4 => ⟨hi, fun σ5 e5 => ⟨hi, fun x6 e6 => ?_⟩⟩⟩
    subst e4
    rw [cj] at e5 e6
    have e5' : σ5 = m_st (m_I τ 24 0) j 2 := e5
    subst e5'
    rw [show (m_st (m_I τ 24 0) j 2).2 20 = τ.2 20 from m_st_2 _ _ _ _ (by decide), h20] at e6
    subst e6
    refine ⟨vp_in_nI hd (by decide), fun x7 e7 => ⟨hi, fun x8 e8 => ?_⟩⟩
    rw [cd, show (m_st (m_I τ 24 0) j 2).2 8 = τ.2 8 from m_st_2 _ _ _ _ (by decide)] at e7
    rw [cj, show (m_st (m_I τ 24 0) j 2).2 21 = τ.2 21 from m_st_2 _ _ _ _ (by decide), h21] at e8
    subst e7; subst e8
    refine enter_P (j := j + 1) (by omega) ?_ h
    show (va_up τ.1 24 0) 19 = _
    rw [va_up_ne _ _ (by decide)]
    exact h19
  intro x1 e1
  rw [h19, nI_pred] at e1
  subst e1
  refine ⟨hi, fun x2 e2 => ?_⟩
  rw [cj, h20] at e2
  subst e2
  refine ⟨vp_in_nI hd (by decide), fun x3 e3 => ?_⟩
  rw [cd] at e3
  subst e3
  refine ⟨fun c => absurd hk c, fun c => ⟨hi, fun x5 e5 => ?_⟩⟩
  rw [cj, h22] at e5
  subst e5
  exact ⟨fun c => absurd rfl c, fun c2 => ⟨fun c => absurd c h8, fun c3 => ⟨fun c => absurd c h9, fun c4 => h56⟩⟩⟩
