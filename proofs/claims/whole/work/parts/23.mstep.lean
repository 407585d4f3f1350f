/-! one round of the reference's engine, by the kind on top -/
theorem st_ge {st n : Nat} (h : n ≤ st) (hs : st < 2 ^ 30) (hn : n < 2 ^ 31) : nI n ≤ nI st := nI_le h (by omega)
theorem gs_7g {τ : SM} {j d : Nat} {p : Int32} {st : Nat} {v : Int32} {P : SM → Prop} (hF : Fr τ j d p st v) (hj : j < 16) (hd : d < 600) (hst : st < 2 ^ 30) (hk : τ.2 6 d = 7) (h2 : 2 ≤ st) (h : P (m_give (m_st τ j (st + 1)) v)) : wp_X2_goOn_0 τ P := by
  have cd : (nI d).toNatClampNeg = d := nI_clamp (by omega)
  have hvd : vp_in (nI d) 600 := vp_in_nI hd (by decide)
  refine goOn_to hF hj hd ?_
  rw [hk]
  refine ⟨fun c => absurd c (by decide), fun _ => ?_, fun c => absurd c (by decide), fun c => absurd c (by decide), fun c => absurd c (by decide), fun c => absurd c (by decide), fun c => absurd c (by decide), fun c => absurd c (by decide), fun c => absurd c (by decide)⟩
  exact ⟨fun _ => give_P hj hF.1 h, fun c => absurd (st_ge h2 hst (by decide)) c⟩

theorem gs_7a {τ : SM} {j d : Nat} {p : Int32} {v : Int32} {P : SM → Prop} (hF : Fr τ j d p 0 v) (hj : j < 16) (hd : d < 600) (hk : τ.2 6 d = 7) (h : P (m_enter (m_st τ j 1) (τ.2 7 d) v)) : wp_X2_goOn_0 τ P := by
  have cd : (nI d).toNatClampNeg = d := nI_clamp (by omega)
  have hvd : vp_in (nI d) 600 := vp_in_nI hd (by decide)
  refine goOn_to hF hj hd ?_
  rw [hk]
  refine ⟨fun c => absurd c (by decide), fun _ => ?_, fun c => absurd c (by decide), fun c => absurd c (by decide), fun c => absurd c (by decide), fun c => absurd c (by decide), fun c => absurd c (by decide), fun c => absurd c (by decide), fun c => absurd c (by decide)⟩
  refine ⟨fun c => absurd c (by decide), fun _ => ⟨fun c => absurd rfl c, fun _ => ⟨hvd, fun x8 e8 => ?_⟩⟩⟩
  rw [cd, m_st_2 _ _ _ _ (by decide)] at e8
  subst e8
  exact enter_P (j := j + 1) (by omega) hF.1 h

theorem gs_7b {τ : SM} {j d : Nat} {p : Int32} {v : Int32} {P : SM → Prop} (hF : Fr τ j d p 1 v) (hj : j < 16) (hd : d < 600) (hk : τ.2 6 d = 7) (h : P (m_enter (m_st τ j 2) (τ.2 8 d) v)) : wp_X2_goOn_0 τ P := by
  have cd : (nI d).toNatClampNeg = d := nI_clamp (by omega)
  have hvd : vp_in (nI d) 600 := vp_in_nI hd (by decide)
  refine goOn_to hF hj hd ?_
  rw [hk]
  refine ⟨fun c => absurd c (by decide), fun _ => ?_, fun c => absurd c (by decide), fun c => absurd c (by decide), fun c => absurd c (by decide), fun c => absurd c (by decide), fun c => absurd c (by decide), fun c => absurd c (by decide), fun c => absurd c (by decide)⟩
  refine ⟨fun c => absurd c (by decide), fun _ => ⟨fun _ => ⟨hvd, fun x8 e8 => ?_⟩, fun c => absurd c (by decide)⟩⟩
  rw [cd, m_st_2 _ _ _ _ (by decide)] at e8
  subst e8
  exact enter_P (j := j + 1) (by omega) hF.1 h

theorem gs_8a {τ : SM} {j d : Nat} {p : Int32} {v : Int32} {P : SM → Prop} (hF : Fr τ j d p 0 v) (hj : j < 16) (hd : d < 600) (hk : τ.2 6 d = 8) {z : Nat} (hz : z < 10) (ez : τ.2 9 d = nI z) (h : P (m_enter (m_st τ j 1) (if τ.2 0 z ≤ p then τ.2 7 d else τ.2 8 d) p)) : wp_X2_goOn_0 τ P := by
  have cd : (nI d).toNatClampNeg = d := nI_clamp (by omega)
  have hvd : vp_in (nI d) 600 := vp_in_nI hd (by decide)
  refine goOn_to hF hj hd ?_
  rw [hk]
  refine ⟨fun c => absurd c (by decide), fun c => absurd c (by decide), fun _ => ?_, fun c => absurd c (by decide), fun c => absurd c (by decide), fun c => absurd c (by decide), fun c => absurd c (by decide), fun c => absurd c (by decide), fun c => absurd c (by decide)⟩
  refine ⟨fun c => absurd rfl c, fun _ => ⟨hvd, fun x9 e9 => ?_⟩⟩
  rw [cd, m_st_2 _ _ _ _ (by decide), ez] at e9
  subst e9
  refine ⟨vp_in_nI hz (by decide), fun x10 e10 => ?_⟩
  rw [nI_clamp (by omega), m_st_2 _ _ _ _ (by decide)] at e10
  subst e10
  refine ⟨fun c => ⟨hvd, fun x8 e8 => ?_⟩, fun c => ⟨hvd, fun x8 e8 => ?_⟩⟩
  · rw [cd, m_st_2 _ _ _ _ (by decide)] at e8
    subst e8
    rw [if_pos c] at h
    exact enter_P (j := j + 1) (by omega) hF.1 h
  · rw [cd, m_st_2 _ _ _ _ (by decide)] at e8
    subst e8
    rw [if_neg c] at h
    exact enter_P (j := j + 1) (by omega) hF.1 h

theorem gs_8g {τ : SM} {j d : Nat} {p : Int32} {st : Nat} {v : Int32} {P : SM → Prop} (hF : Fr τ j d p st v) (hj : j < 16) (hd : d < 600) (hst : st < 2 ^ 30) (hk : τ.2 6 d = 8) (h2 : 1 ≤ st) (h : P (m_give (m_st τ j (st + 1)) v)) : wp_X2_goOn_0 τ P := by
  have cd : (nI d).toNatClampNeg = d := nI_clamp (by omega)
  have hvd : vp_in (nI d) 600 := vp_in_nI hd (by decide)
  refine goOn_to hF hj hd ?_
  rw [hk]
  refine ⟨fun c => absurd c (by decide), fun c => absurd c (by decide), fun _ => ?_, fun c => absurd c (by decide), fun c => absurd c (by decide), fun c => absurd c (by decide), fun c => absurd c (by decide), fun c => absurd c (by decide), fun c => absurd c (by decide)⟩
  exact ⟨fun _ => give_P hj hF.1 h, fun c => absurd c (nI_ne0 (by omega) (by omega))⟩

theorem gs_9a {τ : SM} {j d : Nat} {p : Int32} {st : Nat} {v : Int32} {P : SM → Prop} (hF : Fr τ j d p st v) (hj : j < 16) (hd : d < 600) (hst : st < 2 ^ 30) (hk : τ.2 6 d = 9) (hn : ¬ τ.2 8 d ≤ nI st) (h : P (m_enter (m_st τ j (st + 1)) (τ.2 7 d) v)) : wp_X2_goOn_0 τ P := by
  have cd : (nI d).toNatClampNeg = d := nI_clamp (by omega)
  have hvd : vp_in (nI d) 600 := vp_in_nI hd (by decide)
  refine goOn_to hF hj hd ?_
  rw [hk]
  refine ⟨fun c => absurd c (by decide), fun c => absurd c (by decide), fun c => absurd c (by decide), fun _ => ?_, fun c => absurd c (by decide), fun c => absurd c (by decide), fun c => absurd c (by decide), fun c => absurd c (by decide), fun c => absurd c (by decide)⟩
  refine ⟨hvd, fun x9 e9 => ?_⟩
  rw [cd, m_st_2 _ _ _ _ (by decide)] at e9
  subst e9
  refine ⟨fun c => absurd c hn, fun _ => ⟨hvd, fun x8 e8 => ?_⟩⟩
  rw [cd, m_st_2 _ _ _ _ (by decide)] at e8
  subst e8
  exact enter_P (j := j + 1) (by omega) hF.1 h

theorem gs_9g {τ : SM} {j d : Nat} {p : Int32} {st : Nat} {v : Int32} {P : SM → Prop} (hF : Fr τ j d p st v) (hj : j < 16) (hd : d < 600) (hst : st < 2 ^ 30) (hk : τ.2 6 d = 9) (hn : τ.2 8 d ≤ nI st) (h : P (m_give (m_st τ j (st + 1)) v)) : wp_X2_goOn_0 τ P := by
  have cd : (nI d).toNatClampNeg = d := nI_clamp (by omega)
  have hvd : vp_in (nI d) 600 := vp_in_nI hd (by decide)
  refine goOn_to hF hj hd ?_
  rw [hk]
  refine ⟨fun c => absurd c (by decide), fun c => absurd c (by decide), fun c => absurd c (by decide), fun _ => ?_, fun c => absurd c (by decide), fun c => absurd c (by decide), fun c => absurd c (by decide), fun c => absurd c (by decide), fun c => absurd c (by decide)⟩
  refine ⟨hvd, fun x9 e9 => ?_⟩
  rw [cd, m_st_2 _ _ _ _ (by decide)] at e9
  subst e9
  exact ⟨fun _ => give_P hj hF.1 h, fun c => absurd hn c⟩

theorem gs_10a {τ : SM} {j d : Nat} {p : Int32} {v : Int32} {P : SM → Prop} (hF : Fr τ j d p 0 v) (hj : j < 16) (hd : d < 600) (hk : τ.2 6 d = 10) (h : P (m_enter (m_st τ j 1) (τ.2 7 d) p)) : wp_X2_goOn_0 τ P := by
  have cd : (nI d).toNatClampNeg = d := nI_clamp (by omega)
  have hvd : vp_in (nI d) 600 := vp_in_nI hd (by decide)
  refine goOn_to hF hj hd ?_
  rw [hk]
  refine ⟨fun c => absurd c (by decide), fun c => absurd c (by decide), fun c => absurd c (by decide), fun c => absurd c (by decide), fun _ => ?_, fun c => absurd c (by decide), fun c => absurd c (by decide), fun c => absurd c (by decide), fun c => absurd c (by decide)⟩
  refine ⟨fun c => absurd rfl c, fun _ => ⟨hvd, fun x3 e3 => ?_⟩⟩
  rw [cd, m_st_2 _ _ _ _ (by decide), hk] at e3
  subst e3
  refine ⟨fun c => absurd rfl c, fun _ => ⟨hvd, fun x8 e8 => ?_⟩⟩
  rw [cd, m_st_2 _ _ _ _ (by decide)] at e8
  subst e8
  exact enter_P (j := j + 1) (by omega) hF.1 h

theorem gs_14a {τ : SM} {j d : Nat} {p : Int32} {v : Int32} {P : SM → Prop} (hF : Fr τ j d p 0 v) (hj : j < 16) (hd : d < 600) (hk : τ.2 6 d = 14) {x : Nat} (hx : x < 20) (ex : τ.2 7 d = nI x) (h : P (m_enter (m_st τ j 1) (τ.2 11 x) p)) : wp_X2_goOn_0 τ P := by
  have cd : (nI d).toNatClampNeg = d := nI_clamp (by omega)
  have hvd : vp_in (nI d) 600 := vp_in_nI hd (by decide)
  refine goOn_to hF hj hd ?_
  rw [hk]
  refine ⟨fun c => absurd c (by decide), fun c => absurd c (by decide), fun c => absurd c (by decide), fun c => absurd c (by decide), fun c => absurd c (by decide), fun c => absurd c (by decide), fun c => absurd c (by decide), fun c => absurd c (by decide), fun _ => ?_⟩
  refine ⟨fun c => absurd rfl c, fun _ => ⟨hvd, fun x3 e3 => ?_⟩⟩
  rw [cd, m_st_2 _ _ _ _ (by decide), hk] at e3
  subst e3
  refine ⟨fun _ => ⟨hvd, fun x8 e8 => ?_⟩, fun c => absurd c (by decide)⟩
  rw [cd, m_st_2 _ _ _ _ (by decide), ex] at e8
  subst e8
  refine ⟨vp_in_nI hx (by decide), fun x6 e6 => ?_⟩
  rw [nI_clamp (by omega), m_st_2 _ _ _ _ (by decide)] at e6
  subst e6
  exact enter_P (j := j + 1) (by omega) hF.1 h

theorem gs_10g {τ : SM} {j d : Nat} {p : Int32} {st : Nat} {v : Int32} {P : SM → Prop} (hF : Fr τ j d p st v) (hj : j < 16) (hd : d < 600) (hst : st < 2 ^ 30) (hk : τ.2 6 d = 10) (h2 : 1 ≤ st) (h : P (m_give (m_st τ j (st + 1)) v)) : wp_X2_goOn_0 τ P := by
  have cd : (nI d).toNatClampNeg = d := nI_clamp (by omega)
  have hvd : vp_in (nI d) 600 := vp_in_nI hd (by decide)
  refine goOn_to hF hj hd ?_
  rw [hk]
  refine ⟨fun c => absurd c (by decide), fun c => absurd c (by decide), fun c => absurd c (by decide), fun c => absurd c (by decide), fun _ => ?_, fun c => absurd c (by decide), fun c => absurd c (by decide), fun c => absurd c (by decide), fun c => absurd c (by decide)⟩
  exact ⟨fun _ => give_P hj hF.1 h, fun c => absurd c (nI_ne0 (by omega) (by omega))⟩

theorem gs_14g {τ : SM} {j d : Nat} {p : Int32} {st : Nat} {v : Int32} {P : SM → Prop} (hF : Fr τ j d p st v) (hj : j < 16) (hd : d < 600) (hst : st < 2 ^ 30) (hk : τ.2 6 d = 14) (h2 : 1 ≤ st) (h : P (m_give (m_st τ j (st + 1)) v)) : wp_X2_goOn_0 τ P := by
  have cd : (nI d).toNatClampNeg = d := nI_clamp (by omega)
  have hvd : vp_in (nI d) 600 := vp_in_nI hd (by decide)
  refine goOn_to hF hj hd ?_
  rw [hk]
  refine ⟨fun c => absurd c (by decide), fun c => absurd c (by decide), fun c => absurd c (by decide), fun c => absurd c (by decide), fun c => absurd c (by decide), fun c => absurd c (by decide), fun c => absurd c (by decide), fun c => absurd c (by decide), fun _ => ?_⟩
  exact ⟨fun _ => give_P hj hF.1 h, fun c => absurd c (nI_ne0 (by omega) (by omega))⟩

theorem gs_12a {τ : SM} {j d : Nat} {p : Int32} {v : Int32} {P : SM → Prop} (hF : Fr τ j d p 0 v) (hj : j < 16) (hd : d < 600) (hk : τ.2 6 d = 12) (h : P (m_enter (m_st τ j 1) (τ.2 7 d) p)) : wp_X2_goOn_0 τ P := by
  have cd : (nI d).toNatClampNeg = d := nI_clamp (by omega)
  have hvd : vp_in (nI d) 600 := vp_in_nI hd (by decide)
  refine goOn_to hF hj hd ?_
  rw [hk]
  refine ⟨fun c => absurd c (by decide), fun c => absurd c (by decide), fun c => absurd c (by decide), fun c => absurd c (by decide), fun c => absurd c (by decide), fun c => absurd c (by decide), fun _ => ?_, fun c => absurd c (by decide), fun c => absurd c (by decide)⟩
  refine ⟨fun c => absurd rfl c, fun _ => ⟨hvd, fun x8 e8 => ?_⟩⟩
  rw [cd, m_st_2 _ _ _ _ (by decide)] at e8
  subst e8
  exact enter_P (j := j + 1) (by omega) hF.1 h

abbrev m_cnt (τ : SM) (d : Nat) (c : Int32) : SM := (τ.1, va_up τ.2 10 (upd (τ.2 10) d c))
theorem gs_12g {τ : SM} {j d : Nat} {p : Int32} {st : Nat} {v : Int32} {P : SM → Prop} (hF : Fr τ j d p st v) (hj : j < 16) (hd : d < 600) (hst : st < 2 ^ 30) (hk : τ.2 6 d = 12) (h2 : 1 ≤ st) (h : P (m_give (m_cnt (m_st τ j (st + 1)) d (τ.2 10 d + 1)) (τ.2 10 d + 1))) : wp_X2_goOn_0 τ P := by
  have cd : (nI d).toNatClampNeg = d := nI_clamp (by omega)
  have hvd : vp_in (nI d) 600 := vp_in_nI hd (by decide)
  refine goOn_to hF hj hd ?_
  rw [hk]
  refine ⟨fun c => absurd c (by decide), fun c => absurd c (by decide), fun c => absurd c (by decide), fun c => absurd c (by decide), fun c => absurd c (by decide), fun c => absurd c (by decide), fun _ => ?_, fun c => absurd c (by decide), fun c => absurd c (by decide)⟩
  refine ⟨fun _ => ⟨hvd, fun x3 e3 x4 e4 => ⟨hvd, fun σ5 e5 => ⟨hvd, fun x6 e6 => ?_⟩⟩⟩, fun c => absurd c (nI_ne0 (by omega) (by omega))⟩
  rw [cd, m_st_2 _ _ _ _ (by decide)] at e3
  subst e3; subst e4
  rw [cd] at e5 e6
  have e5' : σ5 = m_cnt (m_st τ j (st + 1)) d (τ.2 10 d + 1) := e5
  subst e5'
  have e6' : x6 = τ.2 10 d + 1 := by rw [e6]; simp [va_up, upd]
  subst e6'
  exact give_P hj hF.1 h

theorem gs_13a {τ : SM} {j d : Nat} {p : Int32} {st : Nat} {v : Int32} {P : SM → Prop} (hF : Fr τ j d p st v) (hj : j < 16) (hd : d < 600) (hst : st < 2 ^ 30) (hk : τ.2 6 d = 13) (h2 : st < 4) {x : Nat} (hx : x < 5) (ex : τ.2 7 d = nI x) (h : P (m_enter (m_st τ j (st + 1)) (τ.2 12 (4 * x + st)) v)) : wp_X2_goOn_0 τ P := by
  have cd : (nI d).toNatClampNeg = d := nI_clamp (by omega)
  have hvd : vp_in (nI d) 600 := vp_in_nI hd (by decide)
  refine goOn_to hF hj hd ?_
  rw [hk]
  refine ⟨fun c => absurd c (by decide), fun c => absurd c (by decide), fun c => absurd c (by decide), fun c => absurd c (by decide), fun c => absurd c (by decide), fun c => absurd c (by decide), fun c => absurd c (by decide), fun _ => ?_, fun c => absurd c (by decide)⟩
  refine ⟨fun c => absurd c (nI_ge (b := 4) (by omega) (by decide)), fun _ => ⟨hvd, fun x8 e8 => ?_⟩⟩
  rw [cd, m_st_2 _ _ _ _ (by decide), ex] at e8
  subst e8
  intro x9 e9 x10 e10
  rw [show (4 : Int32) = nI 4 from rfl, pk_mul] at e9
  subst e9
  rw [nI_add] at e10
  subst e10
  refine ⟨vp_in_nI (by omega) (by decide), fun x6 e6 => ?_⟩
  rw [nI_clamp (by omega), m_st_2 _ _ _ _ (by decide)] at e6
  subst e6
  exact enter_P (j := j + 1) (by omega) hF.1 h

theorem gs_13g {τ : SM} {j d : Nat} {p : Int32} {st : Nat} {v : Int32} {P : SM → Prop} (hF : Fr τ j d p st v) (hj : j < 16) (hd : d < 600) (hst : st < 2 ^ 30) (hk : τ.2 6 d = 13) (h2 : 4 ≤ st) (h : P (m_give (m_st τ j (st + 1)) v)) : wp_X2_goOn_0 τ P := by
  have cd : (nI d).toNatClampNeg = d := nI_clamp (by omega)
  have hvd : vp_in (nI d) 600 := vp_in_nI hd (by decide)
  refine goOn_to hF hj hd ?_
  rw [hk]
  refine ⟨fun c => absurd c (by decide), fun c => absurd c (by decide), fun c => absurd c (by decide), fun c => absurd c (by decide), fun c => absurd c (by decide), fun c => absurd c (by decide), fun c => absurd c (by decide), fun _ => ?_, fun c => absurd c (by decide)⟩
  exact ⟨fun _ => give_P hj hF.1 h, fun c => absurd (st_ge h2 hst (by decide)) c⟩

theorem gs_al {τ : SM} {j d : Nat} {p : Int32} {st : Nat} {v : Int32} {P : SM → Prop} (hF : Fr τ j d p st v) (hj : j < 16) (hd : d < 600) (hst : st < 2 ^ 30) {k : Nat} (hk : τ.2 6 d = nI k) (hkk : k < 7 ∨ k = 11) (h : wp_X2_alone_21 (m_st τ j (st + 1)) (nI d) p (τ.2 7 d) (τ.2 8 d) (τ.2 6 d) P) : wp_X2_goOn_0 τ P := by
  have cd : (nI d).toNatClampNeg = d := nI_clamp (by omega)
  have hvd : vp_in (nI d) 600 := vp_in_nI hd (by decide)
  have hal : wp_X2_alone_0 (m_st τ j (st + 1)) (nI d) p P := by
    refine ⟨hvd, fun x1 e1 => ⟨hvd, fun x2 e2 => ⟨hvd, fun x3 e3 => ?_⟩⟩⟩
    rw [cd, m_st_2 _ _ _ _ (by decide)] at e1 e2 e3
    subst e1; subst e2; subst e3
    exact h
  refine goOn_to hF hj hd ?_
  rw [hk]
  have hne : ∀ n : Nat, n < 20 → ¬ k = n → ¬ nI k = nI n := fun n hn h1 h2 => h1 ((nI_eq (by omega) (by omega)).mp h2)
  refine ⟨fun _ => hal, fun c => absurd c (hne 7 (by decide) (by omega)), fun c => absurd c (hne 8 (by decide) (by omega)), fun c => absurd c (hne 9 (by decide) (by omega)), fun c => absurd c (hne 10 (by decide) (by omega)), fun _ => hal, fun c => absurd c (hne 12 (by decide) (by omega)), fun c => absurd c (hne 13 (by decide) (by omega)), fun c => absurd c (hne 14 (by decide) (by omega))⟩
