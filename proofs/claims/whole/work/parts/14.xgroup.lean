/-! doing: the recursion, by the number of deeds that may still be begun within one another -/
abbrev rDo (k : Nat) : Room := rr (3 * k + 6) (75 * k + 160)
abbrev rTh (k : Nat) : Room := rr (3 * k + 7) (75 * k + 183)
abbrev rTO (k : Nat) : Room := rr (3 * k + 8) (75 * k + 208)
abbrev RecX : Type := SX → Option Nat → Int32 → Int32 × SX
def fx_it (rec : RecX) (oi : SX → Nat → Option Nat) : Nat → Nat → SX → Int32 → Int32 × SX
  | 0, _, σ, g => (g, σ)
  | n + 1, i, σ, g => if σ.1 11 = 0 then fx_it rec oi n (i + 1) (rec σ (oi σ i) g).2 (rec σ (oi σ i) g).1 else (g, σ)
def fx_then (rec : RecX) (σ : SX) (d : Nat) (p : Int32) : Int32 × SX :=
  let q := rec σ ((σ.2.2.2.1.2 d).2 4) p
  if q.2.1 11 = 0 then rec q.2 ((q.2.2.2.2.1.2 d).2 5) q.1 else (0, q.2)
def fx_times (rec : RecX) (σ : SX) (d : Nat) (p : Int32) : Int32 × SX := fx_it rec (fun σ' _ => (σ'.2.2.2.1.2 d).2 4) ((σ.2.2.2.1.2 d).1 2).toNatClampNeg 0 σ p
def fx_places (rec : RecX) (σ : SX) (lv : Int32) (p : Int32) : Int32 × SX := fx_it rec (fun σ' i => (f1_atPlace σ' lv (nI i)).1) 4 0 σ p
def fx_try (rec : RecX) (σ : SX) (d : Nat) (p : Int32) : Int32 × SX :=
  let q := rec σ ((σ.2.2.2.1.2 d).2 4) p
  if q.2.1 11 = 0 ∨ q.2.1 11 = -8 ∨ q.2.1 11 = -9 then q else rec (sxI q.2 11 0) ((q.2.2.2.2.1.2 d).2 5) p
def sxT (σ : SX) (d : Nat) (v : Int32) : SX := (σ.1, σ.2.1, σ.2.2.1, (σ.2.2.2.1.1, va_up σ.2.2.2.1.2 d (va_up (σ.2.2.2.1.2 d).1 7 v, (σ.2.2.2.1.2 d).2)), σ.2.2.2.2)
def fx_count (rec : RecX) (σ : SX) (d : Nat) (p : Int32) : Int32 × SX :=
  let q := rec σ ((σ.2.2.2.1.2 d).2 4) p
  if q.2.1 11 = 0 then ((q.2.2.2.2.1.2 d).1 7 + 1, sxT q.2 d ((q.2.2.2.2.1.2 d).1 7 + 1)) else (0, q.2)
def fx_to (rec : RecX) (σ : SX) (d : Nat) (p : Int32) : Int32 × SX :=
  let k := (σ.2.2.2.1.2 d).1 0
  if k = 7 then fx_then rec σ d p
  else if k = 8 then (if (f1_heldBy σ ((σ.2.2.2.1.2 d).1 3)).1 ≤ p then rec σ ((σ.2.2.2.1.2 d).2 4) p else rec σ ((σ.2.2.2.1.2 d).2 5) p)
  else if k = 9 then fx_times rec σ d p
  else if k = 10 then fx_try rec σ d p
  else if k = 11 then f1_doLater σ d p
  else if k = 12 then fx_count rec σ d p
  else if k = 13 then fx_places rec σ ((σ.2.2.2.1.2 d).1 1) p
  else if k = 14 then rec σ (f1_inSlot σ ((σ.2.2.2.1.2 d).1 1)).1 p
  else f1_fail σ (-6)
def fdo : Nat → RecX
  | 0, σ, _, _ => if σ.1 9 < 60 then f1_fail (sxI σ 9 (σ.1 9 + 1)) (-9) else f1_fail σ (-8)
  | k + 1, σ, o, p => if σ.1 9 < 60 then
      (match o with
      | none => f1_fail (sxI σ 9 (σ.1 9 + 1)) (-6)
      | some d => if 7 ≤ (σ.2.2.2.1.2 d).1 0 then fx_to (fdo k) (sxI σ 9 (σ.1 9 + 1)) d p else f1_doAlone (sxI σ 9 (σ.1 9 + 1)) d p)
    else f1_fail σ (-8)
abbrev f1_do (k : Nat) (σ : SX) (o : Option Nat) (p : Int32) (_ : Int32) : Int32 × SX := fdo k σ o p
/-- what a doing keeps -/
def XK (σ σ' : SX) : Prop := WFX σ' ∧ σ'.2.2.2.1.1 = σ.2.2.2.1.1 ∧ (∀ d, (σ'.2.2.2.1.2 d).2 = (σ.2.2.2.1.2 d).2 ∧ ∀ j, j ≠ 7 → (σ'.2.2.2.1.2 d).1 j = (σ.2.2.2.1.2 d).1 j) ∧ σ'.2.2.2.2.1 = σ.2.2.2.2.1 ∧ (∀ r, (σ'.2.2.2.2.2 r).1 = (σ.2.2.2.2.2 r).1) ∧ (∀ k, k ≠ 4 → σ'.2.2.1 k = σ.2.2.1 k) ∧ σ'.1 6 = σ.1 6 ∧ (σ.1 7).toInt ≤ (σ'.1 7).toInt
theorem XK.rf {σ : SX} (h : WFX σ) : XK σ σ := ⟨h, rfl, fun _ => ⟨rfl, fun _ _ => rfl⟩, rfl, fun _ => rfl, fun _ _ => rfl, rfl, Int.le_refl _⟩
theorem XK.tr {σ σ' σ'' : SX} (h : XK σ σ') (g : XK σ' σ'') : XK σ σ'' := by
  obtain ⟨-, h2, h3, h4, h5, h6, h7, h8⟩ := h
  obtain ⟨g1, g2, g3, g4, g5, g6, g7, g8⟩ := g
  exact ⟨g1, g2.trans h2, fun d => ⟨(g3 d).1.trans (h3 d).1, fun j hj => ((g3 d).2 j hj).trans ((h3 d).2 j hj)⟩, g4.trans h4, fun r => (g5 r).trans (h5 r), fun k hk => (g6 k hk).trans (h6 k hk), g7.trans h7, Int.le_trans h8 g8⟩
theorem wf_of {σ σ' : SX} (h : WFX σ) (h1 : σ'.2.2.1 = σ.2.2.1) (h2 : σ'.2.2.2.1.1 = σ.2.2.2.1.1) (h3 : ∀ d, (σ'.2.2.2.1.2 d).2 = (σ.2.2.2.1.2 d).2) (h4 : σ'.2.2.2.2.1 = σ.2.2.2.2.1) (h5 : ∀ r, (σ'.2.2.2.2.2 r).1 = (σ.2.2.2.2.2 r).1) (h6 : σ'.1 6 = σ.1 6) (h7 : σ'.1 7 = σ.1 7) : WFX σ' := by
  obtain ⟨a1, a2, a3, a4, a5⟩ := h
  refine ⟨?_, ?_, ?_, ?_, ?_⟩
  · intro k i d hk; rw [h1, h2]; exact a1 k i d hk
  · intro i r; rw [h1, h4]; exact a2 i r
  · intro d; rw [h2, h3 d, h4]; exact a3 d
  · intro r; rw [h5]; exact a4 r
  · rw [h6, h7]; exact a5
theorem XK.sI {σ : SX} (h : WFX σ) (k : Nat) (v : Int32) (h6 : k ≠ 6) (h7 : k ≠ 7) : XK σ (sxI σ k v) :=
  ⟨wf_of h rfl rfl (fun _ => rfl) rfl (fun _ => rfl) (va_up_ne _ _ (Ne.symm h6)) (va_up_ne _ _ (Ne.symm h7)), rfl, fun _ => ⟨rfl, fun _ _ => rfl⟩, rfl, fun _ => rfl, fun _ _ => rfl, va_up_ne _ _ (Ne.symm h6), by rw [show (sxI σ k v).1 7 = σ.1 7 from va_up_ne _ _ (Ne.symm h7)]; exact Int.le_refl _⟩
theorem XK.fail {σ : SX} (h : WFX σ) (v : Int32) : XK σ (f1_fail σ v).2 := XK.sI h 11 v (by decide) (by decide)
theorem XK.pour {σ : SX} (h : WFX σ) (k v : Int32) : XK σ (f1_pour σ k v) := by
  unfold f1_pour
  split
  · exact XK.rf h
  · exact ⟨wf_of h rfl rfl (fun _ => rfl) rfl (fun _ => rfl) rfl rfl, rfl, fun _ => ⟨rfl, fun _ _ => rfl⟩, rfl, fun _ => rfl, fun _ _ => rfl, rfl, Int.le_refl _⟩
theorem XK.sT {σ : SX} (h : WFX σ) (d : Nat) (v : Int32) : XK σ (sxT σ d v) := by
  have e : ∀ d', ((sxT σ d v).2.2.2.1.2 d').2 = (σ.2.2.2.1.2 d').2 ∧ ∀ j, j ≠ 7 → ((sxT σ d v).2.2.2.1.2 d').1 j = (σ.2.2.2.1.2 d').1 j := by
    intro d'
    by_cases hd : d' = d
    · subst hd
      refine ⟨by simp [sxT, va_up], fun j hj => ?_⟩
      simp [sxT, va_up, hj]
    · exact ⟨by simp [sxT, va_up, hd], fun j _ => by simp [sxT, va_up, hd]⟩
  exact ⟨wf_of h rfl rfl (fun d' => (e d').1) rfl (fun _ => rfl) rfl rfl, rfl, e, rfl, fun _ => rfl, fun _ _ => rfl, rfl, Int.le_refl _⟩
theorem XK.mark {σ : SX} (h : WFX σ) (d : Nat) (p : Int32) : XK σ (f1_doMark σ d p).2 := by
  unfold f1_doMark
  split
  · exact XK.fail h _
  · rename_i r _
    dsimp only
    split
    · exact XK.fail h _
    · have e : ∀ x, ((va_up σ.2.2.2.2.2 r ((σ.2.2.2.2.2 r).1, upd (σ.2.2.2.2.2 r).2 ((σ.2.2.2.1.2 d).1 2).toNatClampNeg ((σ.2.2.2.2.2 r).2 ((σ.2.2.2.1.2 d).1 2).toNatClampNeg + p))) x).1 = (σ.2.2.2.2.2 x).1 := by
        intro x
        by_cases hx : x = r
        · subst hx; simp [va_up]
        · simp [va_up, hx]
      exact ⟨wf_of h rfl rfl (fun _ => rfl) rfl e rfl rfl, rfl, fun _ => ⟨rfl, fun _ _ => rfl⟩, rfl, e, fun _ _ => rfl, rfl, Int.le_refl _⟩
theorem XK.later {σ : SX} (h : WFX σ) (d : Nat) (hd : d < σ.2.2.2.1.1) (p : Int32) : XK σ (f1_doLater σ d p).2 := by
  unfold f1_doLater
  by_cases c : σ.1 7 < 12
  · rw [if_pos c]
    obtain ⟨a1, a2, a3, a4, q, w, hq, hw, e6, e7⟩ := h
    have hw2 : w < 12 := by
      rw [e7, show (12 : Int32) = nI 12 from rfl, nI_ltI (by omega) (by decide)] at c
      exact c
    refine ⟨⟨?_, ?_, a3, a4, q, w + 1, hq, by omega, ?_, ?_⟩, rfl, fun _ => ⟨rfl, fun _ _ => rfl⟩, rfl, fun _ => rfl, fun k hk => va_up_ne _ _ hk, va_up_ne σ.1 (k := 7) (j := 6) (σ.1 7 + 1) (by decide), ?_⟩
    · intro k i e hk he
      dsimp only at he ⊢
      by_cases k4 : k = 4
      · subst k4
        rw [show (va_up σ.2.2.1 4 (va_up (σ.2.2.1 4) (x_end σ).toNatClampNeg ((σ.2.2.2.1.2 d).2 4))) 4 = va_up (σ.2.2.1 4) (x_end σ).toNatClampNeg ((σ.2.2.2.1.2 d).2 4) from va_up_self _ _ _] at he
        by_cases hi : i = (x_end σ).toNatClampNeg
        · subst hi
          rw [va_up_self] at he
          exact (a3 d hd).1 e he
        · rw [va_up_ne _ _ hi] at he
          exact a1 4 i e hk he
      · rw [show (va_up σ.2.2.1 4 (va_up (σ.2.2.1 4) (x_end σ).toNatClampNeg ((σ.2.2.2.1.2 d).2 4))) k = σ.2.2.1 k from va_up_ne _ _ k4] at he
        exact a1 k i e hk he
    · intro i r hr
      dsimp only at hr ⊢
      rw [show (va_up σ.2.2.1 4 (va_up (σ.2.2.1 4) (x_end σ).toNatClampNeg ((σ.2.2.2.1.2 d).2 4))) 1 = σ.2.2.1 1 from va_up_ne _ _ (by decide)] at hr
      exact a2 i r hr
    · show va_up σ.1 7 (σ.1 7 + 1) 6 = nI q
      rw [va_up_ne _ _ (by decide)]; exact e6
    · show va_up σ.1 7 (σ.1 7 + 1) 7 = nI (w + 1)
      rw [va_up_self, e7, nI_1]
    · show (σ.1 7).toInt ≤ (va_up σ.1 7 (σ.1 7 + 1) 7).toInt
      rw [va_up_self, e7, nI_1, nI_toInt (by omega), nI_toInt (by omega)]
      omega
  · rw [if_neg c]; exact XK.fail h _
theorem XK.alone {σ : SX} (h : WFX σ) (d : Nat) (p : Int32) : XK σ (f1_doAlone σ d p).2 := by
  simp only [f1_doAlone]
  split
  · exact XK.rf h
  split
  · exact XK.pour h _ _
  split
  · exact XK.pour h _ _
  split
  · simp only [f1_doDraw]
    split
    · exact XK.fail h _
    split
    · exact (XK.pour h _ _).tr (XK.pour (XK.pour h _ _).1 _ _)
    · exact XK.fail h _
  split
  · exact XK.mark h d p
  split
  · split
    · exact XK.fail h _
    · exact XK.rf h
  split
  · exact XK.rf h
  · exact XK.fail h _
/-- the deed is one that there is -/
abbrev okO (σ : SX) (o : Option Nat) : Prop := ∀ d, o = some d → d < σ.2.2.2.1.1
abbrev recK (rec : RecX) : Prop := ∀ (σ : SX) (o : Option Nat) (p : Int32), WFX σ → okO σ o → XK σ (rec σ o p).2
theorem okO.f {σ : SX} (h : WFX σ) {d : Nat} (hd : d < σ.2.2.2.1.1) : okO σ ((σ.2.2.2.1.2 d).2 4) := (h.2.2.1 d hd).1
theorem okO.s {σ : SX} (h : WFX σ) {d : Nat} (hd : d < σ.2.2.2.1.1) : okO σ ((σ.2.2.2.1.2 d).2 5) := (h.2.2.1 d hd).2.1
theorem XK.nd {σ σ' : SX} (h : XK σ σ') {d : Nat} (hd : d < σ.2.2.2.1.1) : d < σ'.2.2.2.1.1 := by rw [h.2.1]; exact hd
theorem okO.at {σ : SX} (h : WFX σ) (a b : Int32) : okO σ (f1_atPlace σ a b).1 := by
  intro d hd
  simp only [f1_atPlace] at hd
  split at hd
  · cases hd
  split at hd
  · cases hd
  split at hd
  · cases hd
  · exact h.1 3 _ d (Or.inr (Or.inl rfl)) hd
theorem okO.in {σ : SX} (h : WFX σ) (a : Int32) : okO σ (f1_inSlot σ a).1 := by
  intro d hd
  simp only [f1_inSlot] at hd
  split at hd
  · cases hd
  · exact h.1 2 _ d (Or.inl rfl) hd
theorem it_K {rec : RecX} (hr : recK rec) {oi : SX → Nat → Option Nat} {σ0 : SX} (ho : ∀ σ i, XK σ0 σ → okO σ (oi σ i)) : ∀ (n i : Nat) (σ : SX) (g : Int32), XK σ0 σ → XK σ0 (fx_it rec oi n i σ g).2 := by
  intro n
  induction n with
  | zero => intro i σ g h; exact h
  | succ n ih =>
    intro i σ g h
    simp only [fx_it]
    split
    · exact ih (i + 1) _ _ (h.tr (hr σ _ g h.1 (ho σ i h)))
    · exact h
theorem to_K {rec : RecX} (hr : recK rec) {σ : SX} (h : WFX σ) {d : Nat} (hd : d < σ.2.2.2.1.1) (p : Int32) : XK σ (fx_to rec σ d p).2 := by
  have h1 := hr σ ((σ.2.2.2.1.2 d).2 4) p h (okO.f h hd)
  simp only [fx_to]
  split
  · simp only [fx_then]
    split
    · exact h1.tr (hr _ _ _ h1.1 (okO.s h1.1 (h1.nd hd)))
    · exact h1
  split
  · split
    · exact h1
    · exact hr σ _ p h (okO.s h hd)
  split
  · exact it_K hr (fun σ' i h' => okO.f h'.1 (h'.nd hd)) _ _ _ _ (XK.rf h)
  split
  · simp only [fx_try]
    split
    · exact h1
    · have h2 := XK.sI h1.1 11 0 (by decide) (by decide)
      exact (h1.tr h2).tr (hr _ _ _ h2.1 (okO.s h1.1 (h1.nd hd)))
  split
  · exact XK.later h d hd p
  split
  · simp only [fx_count]
    split
    · exact h1.tr (XK.sT h1.1 _ _)
    · exact h1
  split
  · exact it_K hr (fun σ' i h' => okO.at h'.1 _ _) _ _ _ _ (XK.rf h)
  split
  · exact hr σ _ p h (okO.in h _)
  · exact XK.fail h _
theorem fdo_K : ∀ k : Nat, recK (fdo k) := by
  intro k
  induction k with
  | zero =>
    intro σ o p h ho
    simp only [fdo]
    split
    · exact (XK.sI h 9 _ (by decide) (by decide)).tr (XK.fail (XK.sI h 9 _ (by decide) (by decide)).1 _)
    · exact XK.fail h _
  | succ k ih =>
    intro σ o p h ho
    have h9 := XK.sI h 9 (σ.1 9 + 1) (by decide) (by decide)
    simp only [fdo]
    split
    · cases o with
      | none => exact h9.tr (XK.fail h9.1 _)
      | some d =>
        dsimp only
        split
        · exact h9.tr (to_K ih h9.1 (ho d rfl) p)
        · exact h9.tr (XK.alone h9.1 d p)
    · exact XK.fail h _
abbrev q1_do (k : Nat) (σ : SX) (o : Option Nat) (_ op : Int32) : Prop := WFX σ ∧ okO σ o ∧ k ≤ 16 ∧ op = nI (16 - k)
abbrev q1_doThen (k : Nat) (σ : SX) (d : Nat) (_ op : Int32) : Prop := WFX σ ∧ d < σ.2.2.2.1.1 ∧ k ≤ 16 ∧ op = nI (16 - k)
abbrev q1_doTimes := q1_doThen
abbrev q1_doTry := q1_doThen
abbrev q1_doCount := q1_doThen
abbrev q1_doThroughOthers := q1_doThen
abbrev q1_doPlaces (k : Nat) (σ : SX) (_ _ op : Int32) : Prop := WFX σ ∧ k ≤ 16 ∧ op = nI (16 - k)
abbrev f1_doThen (k : Nat) (σ : SX) (d : Nat) (p _op : Int32) : Int32 × SX := fx_then (fdo k) σ d p
abbrev f1_doTimes (k : Nat) (σ : SX) (d : Nat) (p _op : Int32) : Int32 × SX := fx_times (fdo k) σ d p
abbrev f1_doTry (k : Nat) (σ : SX) (d : Nat) (p _op : Int32) : Int32 × SX := fx_try (fdo k) σ d p
abbrev f1_doCount (k : Nat) (σ : SX) (d : Nat) (p _op : Int32) : Int32 × SX := fx_count (fdo k) σ d p
abbrev f1_doPlaces (k : Nat) (σ : SX) (lv p _op : Int32) : Int32 × SX := fx_places (fdo k) σ lv p
abbrev f1_doThroughOthers (k : Nat) (σ : SX) (d : Nat) (p _op : Int32) : Int32 × SX := fx_to (fdo k) σ d p

def wp_X1_doThen_0 (k : Nat) (σ : SX) (d1 : Nat) (v2 : Int32) (v3 : Int32)  (post : Int32 → SX → Prop) : Prop :=
  d1 < σ.2.2.2.1.1 ∧ ∀ o1 : Option Nat, o1 = (σ.2.2.2.1.2 d1).2 4 → q1_do k σ o1 v2 v3 ∧ ∀ (r2 : Int32) (σ3 : SX), r2 = (f1_do k σ o1 v2 v3).1 → σ3 = (f1_do k σ o1 v2 v3).2 → (¬ (σ3.1 11) = 0 → post 0 σ3) ∧ ((σ3.1 11) = 0 → d1 < σ3.2.2.2.1.1 ∧ ∀ o5 : Option Nat, o5 = (σ3.2.2.2.1.2 d1).2 5 → q1_do k σ3 o5 r2 v3 ∧ ∀ (r6 : Int32) (σ7 : SX), r6 = (f1_do k σ3 o5 r2 v3).1 → σ7 = (f1_do k σ3 o5 r2 v3).2 → post r6 σ7)
set_option maxHeartbeats 4000000 in
set_option maxRecDepth 100000 in
theorem k_X1_doThen_0 {l : Launch} {p : Program} {e : Env} {s : State} {m : MethodId} {below : List Frame} {meth : Method} {c : Code} {args : Array Value} {A : Nat → Prop} {G : Gm} {a : AX} {k : Nat} (hDo : ∀ (σ : SX) (o : Option Nat) (v2 v3 : Int32), q1_do k σ o v2 v3 → ctI l yX1_doDeed cX1_doDeed 4 .int (rDo k) G [.ref (a.1 13), va_rf (Option.map a.2.1 o), .int v2, .int v3] (wX G a σ) (fun (r : Int32) (u : SX) => r = (f1_do k σ o v2 v3).1 ∧ u = (f1_do k σ o v2 v3).2) (wX G a))  (hF : fx p s m args meth c cX1_doThen 5 yX1_doThen.cls kX1_doThen (some (.int))) {post : Int32 → SX → Prop}  (σ : SX) (d1 : Nat) (v2 : Int32) (v3 : Int32) {H : Heap} {locs : List Loc} {ls : Array Slot} (hw : wb G A s (wX G a σ) H locs) (hl : lv_has ls 5 [(0, .ref (a.1 13)), (1, .ref (a.2.1 d1)), (2, .int v2), (3, .int v3)]) (hok : wp_X1_doThen_0 k σ d1 v2 v3  post) :
    W p l e (rTh k) s m args below meth c H locs 0 0 (MQ below (va_Qi post (po G A (wX G a)) A) args s 0 0 A) (F0 m 0 ls []) := by
  unfold wp_X1_doThen_0 at hok
  refine lv_aload_n hF.x hF.b dX1_doThen_0 rfl (lv_at hl 0 rfl) ?_
  refine lv_aload_n hF.x hF.b dX1_doThen_1 rfl (lv_at hl 1 rfl) ?_
  refine rx_dget (k := 4) hF hw hok.1 (by decide) (by unfold nestW; simp [TX0]) rfl dX1_doThen_2 ?_
  obtain ⟨o1, eo1⟩ : ∃ z : Option Nat, z = (σ.2.2.2.1.2 d1).2 4 := ⟨_, rfl⟩
  rw [← eo1]
  replace hok := hok.2 o1 eo1
  refine lv_iload_n hF.x hF.b dX1_doThen_5 rfl (lv_at hl 2 rfl) ?_
  refine lv_iload_n hF.x hF.b dX1_doThen_6 rfl (lv_at hl 3 rfl) ?_
  refine ca_I hF hw (hDo σ o1 v2 v3 hok.1) wv_X1_110 (q0 := 0) rfl rfl rfl ⟨nd_X1.1, nd_X1.2, pd_X1_doDeed⟩ ⟨by show 3 * k + 6 + 1 ≤ 3 * k + 7; omega, by show 8 + (4 + 11) + (75 * k + 160) ≤ 75 * k + 183; omega⟩ ⟨Nat.zero_le _, Nat.zero_le _⟩ hl.1 rfl (by first | exact Nat.le_of_ble_eq_true rfl | simp [cat_rf, Value.category]) dX1_doThen_7 (fun r2 σ3 H locs hp hw => ?_)
  obtain ⟨er2, eσ3⟩ := hp
  replace hok := hok.2 r2 σ3 er2 eσ3
  refine lv_istore (lv' := [(4, .int r2), (0, .ref (a.1 13)), (1, .ref (a.2.1 d1)), (2, .int v2), (3, .int v3)]) hF.x hF.b dX1_doThen_10 hl (by decide) rfl (fun ls hl => ?_)
  refine lv_aload_n hF.x hF.b dX1_doThen_12 rfl (lv_at hl 1 rfl) ?_
  refine r_get hF hw 0 rfl rfl inlX1 11 (by decide) wf_X1_49 rfl dX1_doThen_13 ?_
  refine lv_if_ne (tgt := 33) hF.x hF.b dX1_doThen_16 (by decide) (fun c4 => ?_) (fun c4 => ?_)
  · replace hok := hok.1 c4
    refine lv_iconst (v := 0) hF.x hF.b dX1_doThen_33 (by decide) ?_
    exact rt_I (u := σ3) hF hw hok (Nat.zero_le _) (Nat.zero_le _) dX1_doThen_34
  · replace hok := hok.2 c4
    refine lv_aload_n hF.x hF.b dX1_doThen_19 rfl (lv_at hl 1 rfl) ?_
    refine lv_aload_n hF.x hF.b dX1_doThen_20 rfl (lv_at hl 2 rfl) ?_
    refine rx_dget (k := 5) hF hw hok.1 (by decide) (by unfold nestW; simp [TX0]) rfl dX1_doThen_21 ?_
    obtain ⟨o5, eo5⟩ : ∃ z : Option Nat, z = (σ3.2.2.2.1.2 d1).2 5 := ⟨_, rfl⟩
    rw [← eo5]
    replace hok := hok.2 o5 eo5
    refine lv_iload hF.x hF.b dX1_doThen_24 (lv_at hl 0 rfl) ?_
    refine lv_iload_n hF.x hF.b dX1_doThen_26 rfl (lv_at hl 4 rfl) ?_
    refine ca_I hF hw (hDo σ3 o5 r2 v3 hok.1) wv_X1_110 (q0 := 0) rfl rfl rfl ⟨nd_X1.1, nd_X1.2, pd_X1_doDeed⟩ ⟨by show 3 * k + 6 + 1 ≤ 3 * k + 7; omega, by show 8 + (4 + 11) + (75 * k + 160) ≤ 75 * k + 183; omega⟩ ⟨Nat.zero_le _, Nat.zero_le _⟩ hl.1 rfl (by first | exact Nat.le_of_ble_eq_true rfl | simp [cat_rf, Value.category]) dX1_doThen_27 (fun r6 σ7 H locs hp hw => ?_)
    obtain ⟨er6, eσ7⟩ := hp
    replace hok := hok.2 r6 σ7 er6 eσ7
    refine lv_goto (tgt := 34) hF.x hF.b dX1_doThen_30 (by decide) ?_
    exact rt_I (u := σ7) hF hw hok (Nat.zero_le _) (Nat.zero_le _) dX1_doThen_34

theorem p1_doThen {k : Nat} (σ : SX) (d1 : Nat) (v2 v3 : Int32) (h : q1_doThen k σ d1 v2 v3) : wp_X1_doThen_0 k σ d1 v2 v3 (fun r u => r = (f1_doThen k σ d1 v2 v3).1 ∧ u = (f1_doThen k σ d1 v2 v3).2) := by
  refine ⟨h.2.1, fun o1 e1 => ⟨⟨h.1, by rw [e1]; exact okO.f h.1 h.2.1, h.2.2⟩, fun r2 σ3 e2 e3 => ?_⟩⟩
  have h1 : XK σ σ3 := by rw [e3]; exact fdo_K k σ o1 v2 h.1 (by rw [e1]; exact okO.f h.1 h.2.1)
  subst e1
  refine ⟨fun c => ?_, fun c => ⟨h1.nd h.2.1, fun o5 e5 => ⟨⟨h1.1, by rw [e5]; exact okO.s h1.1 (h1.nd h.2.1), h.2.2⟩, fun r6 σ7 e6 e7 => ?_⟩⟩⟩
  · subst e3
    simp only [f1_doThen, fx_then]
    rw [if_neg c]
    exact ⟨rfl, rfl⟩
  · subst e2; subst e3; subst e5
    simp only [f1_doThen, fx_then]
    rw [if_pos c]
    exact ⟨e6, e7⟩

theorem c1_doThen {l : Launch} {G : Gm} {a : AX} {k : Nat} (hDo : ∀ (σ : SX) (o : Option Nat) (v2 v3 : Int32), q1_do k σ o v2 v3 → ctI l yX1_doDeed cX1_doDeed 4 .int (rDo k) G [.ref (a.1 13), va_rf (Option.map a.2.1 o), .int v2, .int v3] (wX G a σ) (fun (r : Int32) (u : SX) => r = (f1_do k σ o v2 v3).1 ∧ u = (f1_do k σ o v2 v3).2) (wX G a)) (σ : SX) (d1 : Nat) (v2 : Int32) (v3 : Int32) (h : q1_doThen k σ d1 v2 v3) : ctI l yX1_doThen cX1_doThen 5 .int (rTh k) G [.ref (a.1 13), .ref (a.2.1 d1), .int v2, .int v3] (wX G a σ) (fun (r : Int32) (u : SX) => r = (f1_doThen k σ d1 v2 v3).1 ∧ u = (f1_doThen k σ d1 v2 v3).2) (wX G a) := by
  refine en_I (by decide +kernel) (Nat.le_of_ble_eq_true rfl) (fun p e s m below meth c A ls hF hw hl => ?_)
  exact k_X1_doThen_0 hDo hF σ d1 v2 v3 hw hl (p1_doThen σ d1 v2 v3 h)

def wp_X1_doTimes_6 (k : Nat) (σ : SX) (d1 : Nat) (v2 : Int32) (v3 : Int32) (v4 : Int32) (v5 : Int32) (K6 : SX → Nat → Int32 → Int32 → Int32 → Int32 → Prop) (post : Int32 → SX → Prop) : Prop :=
  d1 < σ.2.2.2.1.1 ∧ (((σ.2.2.2.1.2 d1).1 2) ≤ v5 → post v4 σ) ∧ (¬ ((σ.2.2.2.1.2 d1).1 2) ≤ v5 → (¬ (σ.1 11) = 0 → post v4 σ) ∧ ((σ.1 11) = 0 → d1 < σ.2.2.2.1.1 ∧ ∀ o3 : Option Nat, o3 = (σ.2.2.2.1.2 d1).2 4 → q1_do k σ o3 v4 v3 ∧ ∀ (r4 : Int32) (σ5 : SX), r4 = (f1_do k σ o3 v4 v3).1 → σ5 = (f1_do k σ o3 v4 v3).2 → ∀ x6 : Int32, x6 = v5 + 1 → K6 σ5 d1 v2 v3 r4 x6))
set_option maxHeartbeats 4000000 in
set_option maxRecDepth 100000 in
theorem k_X1_doTimes_6 {l : Launch} {p : Program} {e : Env} {s : State} {m : MethodId} {below : List Frame} {meth : Method} {c : Code} {args : Array Value} {A : Nat → Prop} {G : Gm} {a : AX} {k : Nat} (hDo : ∀ (σ : SX) (o : Option Nat) (v2 v3 : Int32), q1_do k σ o v2 v3 → ctI l yX1_doDeed cX1_doDeed 4 .int (rDo k) G [.ref (a.1 13), va_rf (Option.map a.2.1 o), .int v2, .int v3] (wX G a σ) (fun (r : Int32) (u : SX) => r = (f1_do k σ o v2 v3).1 ∧ u = (f1_do k σ o v2 v3).2) (wX G a))  (hF : fx p s m args meth c cX1_doTimes 6 yX1_doTimes.cls kX1_doTimes (some (.int))) {post : Int32 → SX → Prop} {K6 : SX → Nat → Int32 → Int32 → Int32 → Int32 → Prop} (hK6 : ∀ (σ : SX) (d1 : Nat) (v2 : Int32) (v3 : Int32) (v4 : Int32) (v5 : Int32) {H : Heap} {locs : List Loc} {ls : Array Slot}, K6 σ d1 v2 v3 v4 v5 → wb G A s (wX G a σ) H locs → lv_has ls 6 [(0, .ref (a.1 13)), (1, .ref (a.2.1 d1)), (2, .int v2), (3, .int v3), (4, .int v4), (5, .int v5)] → W p l e (rTh k) s m args below meth c H locs 0 0 (MQ below (va_Qi post (po G A (wX G a)) A) args s 0 0 A) (F0 m 6 ls [])) (σ : SX) (d1 : Nat) (v2 : Int32) (v3 : Int32) (v4 : Int32) (v5 : Int32) {H : Heap} {locs : List Loc} {ls : Array Slot} (hw : wb G A s (wX G a σ) H locs) (hl : lv_has ls 6 [(0, .ref (a.1 13)), (1, .ref (a.2.1 d1)), (2, .int v2), (3, .int v3), (4, .int v4), (5, .int v5)]) (hok : wp_X1_doTimes_6 k σ d1 v2 v3 v4 v5 K6 post) :
    W p l e (rTh k) s m args below meth c H locs 0 0 (MQ below (va_Qi post (po G A (wX G a)) A) args s 0 0 A) (F0 m 6 ls []) := by
  unfold wp_X1_doTimes_6 at hok
  refine lv_iload hF.x hF.b dX1_doTimes_6 (lv_at hl 5 rfl) ?_
  refine lv_aload_n hF.x hF.b dX1_doTimes_8 rfl (lv_at hl 1 rfl) ?_
  refine rx_dget (k := 2) hF hw hok.1 (by decide) (by unfold nestW; simp [TX0]) rfl dX1_doTimes_9 ?_
  replace hok := hok.2
  refine lv_icmp_ge (tgt := 41) hF.x hF.b dX1_doTimes_12 (by decide) (fun c1 => ?_) (fun c1 => ?_)
  · replace hok := hok.1 c1
    refine lv_iload hF.x hF.b dX1_doTimes_41 (lv_at hl 4 rfl) ?_
    exact rt_I (u := σ) hF hw hok (Nat.zero_le _) (Nat.zero_le _) dX1_doTimes_43
  · replace hok := hok.2 c1
    refine lv_aload_n hF.x hF.b dX1_doTimes_15 rfl (lv_at hl 0 rfl) ?_
    refine r_get hF hw 0 rfl rfl inlX1 11 (by decide) wf_X1_49 rfl dX1_doTimes_16 ?_
    refine lv_if_ne (tgt := 41) hF.x hF.b dX1_doTimes_19 (by decide) (fun c2 => ?_) (fun c2 => ?_)
    · replace hok := hok.1 c2
      refine lv_iload hF.x hF.b dX1_doTimes_41 (lv_at hl 4 rfl) ?_
      exact rt_I (u := σ) hF hw hok (Nat.zero_le _) (Nat.zero_le _) dX1_doTimes_43
    · replace hok := hok.2 c2
      refine lv_aload_n hF.x hF.b dX1_doTimes_22 rfl (lv_at hl 0 rfl) ?_
      refine lv_aload_n hF.x hF.b dX1_doTimes_23 rfl (lv_at hl 1 rfl) ?_
      refine rx_dget (k := 4) hF hw hok.1 (by decide) (by unfold nestW; simp [TX0]) rfl dX1_doTimes_24 ?_
      obtain ⟨o3, eo3⟩ : ∃ z : Option Nat, z = (σ.2.2.2.1.2 d1).2 4 := ⟨_, rfl⟩
      rw [← eo3]
      replace hok := hok.2 o3 eo3
      refine lv_iload hF.x hF.b dX1_doTimes_27 (lv_at hl 4 rfl) ?_
      refine lv_iload_n hF.x hF.b dX1_doTimes_29 rfl (lv_at hl 3 rfl) ?_
      refine ca_I hF hw (hDo σ o3 v4 v3 hok.1) wv_X1_110 (q0 := 0) rfl rfl rfl ⟨nd_X1.1, nd_X1.2, pd_X1_doDeed⟩ ⟨by show 3 * k + 6 + 1 ≤ 3 * k + 7; omega, by show 8 + (4 + 11) + (75 * k + 160) ≤ 75 * k + 183; omega⟩ ⟨Nat.zero_le _, Nat.zero_le _⟩ hl.1 rfl (by first | exact Nat.le_of_ble_eq_true rfl | simp [cat_rf, Value.category]) dX1_doTimes_30 (fun r4 σ5 H locs hp hw => ?_)
      obtain ⟨er4, eσ5⟩ := hp
      replace hok := hok.2 r4 σ5 er4 eσ5
      refine lv_istore (lv' := [(4, .int r4), (0, .ref (a.1 13)), (1, .ref (a.2.1 d1)), (2, .int v2), (3, .int v3), (5, .int v5)]) hF.x hF.b dX1_doTimes_33 hl (by decide) rfl (fun ls hl => ?_)
      obtain ⟨x6, ex6⟩ : ∃ z : Int32, z = v5 + 1 := ⟨_, rfl⟩
      replace hok := hok x6 ex6
      refine lv_iinc (v := x6) (lv' := [(5, .int x6), (4, .int r4), (0, .ref (a.1 13)), (1, .ref (a.2.1 d1)), (2, .int v2), (3, .int v3)]) hF.x hF.b dX1_doTimes_35 hl (k := 5) rfl (by rw [ex6]; rfl) (by decide) rfl (fun ls hl => ?_)
      refine lv_goto (tgt := 6) hF.x hF.b dX1_doTimes_38 (by decide) ?_
      exact hK6 σ5 d1 v2 v3 r4 x6 hok hw (lv_sub hl [2, 3, 4, 5, 1, 0] rfl)
def wp_X1_doTimes_0 (k : Nat) (σ : SX) (d1 : Nat) (v2 : Int32) (v3 : Int32) (K6 : SX → Nat → Int32 → Int32 → Int32 → Int32 → Prop) (post : Int32 → SX → Prop) : Prop :=
  K6 σ d1 v2 v3 v2 0
set_option maxHeartbeats 4000000 in
set_option maxRecDepth 100000 in
theorem k_X1_doTimes_0 {l : Launch} {p : Program} {e : Env} {s : State} {m : MethodId} {below : List Frame} {meth : Method} {c : Code} {args : Array Value} {A : Nat → Prop} {G : Gm} {a : AX} {k : Nat} (hDo : ∀ (σ : SX) (o : Option Nat) (v2 v3 : Int32), q1_do k σ o v2 v3 → ctI l yX1_doDeed cX1_doDeed 4 .int (rDo k) G [.ref (a.1 13), va_rf (Option.map a.2.1 o), .int v2, .int v3] (wX G a σ) (fun (r : Int32) (u : SX) => r = (f1_do k σ o v2 v3).1 ∧ u = (f1_do k σ o v2 v3).2) (wX G a))  (hF : fx p s m args meth c cX1_doTimes 6 yX1_doTimes.cls kX1_doTimes (some (.int))) {post : Int32 → SX → Prop} {K6 : SX → Nat → Int32 → Int32 → Int32 → Int32 → Prop} (hK6 : ∀ (σ : SX) (d1 : Nat) (v2 : Int32) (v3 : Int32) (v4 : Int32) (v5 : Int32) {H : Heap} {locs : List Loc} {ls : Array Slot}, K6 σ d1 v2 v3 v4 v5 → wb G A s (wX G a σ) H locs → lv_has ls 6 [(0, .ref (a.1 13)), (1, .ref (a.2.1 d1)), (2, .int v2), (3, .int v3), (4, .int v4), (5, .int v5)] → W p l e (rTh k) s m args below meth c H locs 0 0 (MQ below (va_Qi post (po G A (wX G a)) A) args s 0 0 A) (F0 m 6 ls [])) (σ : SX) (d1 : Nat) (v2 : Int32) (v3 : Int32) {H : Heap} {locs : List Loc} {ls : Array Slot} (hw : wb G A s (wX G a σ) H locs) (hl : lv_has ls 6 [(0, .ref (a.1 13)), (1, .ref (a.2.1 d1)), (2, .int v2), (3, .int v3)]) (hok : wp_X1_doTimes_0 k σ d1 v2 v3 K6 post) :
    W p l e (rTh k) s m args below meth c H locs 0 0 (MQ below (va_Qi post (po G A (wX G a)) A) args s 0 0 A) (F0 m 0 ls []) := by
  unfold wp_X1_doTimes_0 at hok
  refine lv_iload_n hF.x hF.b dX1_doTimes_0 rfl (lv_at hl 2 rfl) ?_
  refine lv_istore (lv' := [(4, .int v2), (0, .ref (a.1 13)), (1, .ref (a.2.1 d1)), (2, .int v2), (3, .int v3)]) hF.x hF.b dX1_doTimes_1 hl (by decide) rfl (fun ls hl => ?_)
  refine lv_iconst (v := 0) hF.x hF.b dX1_doTimes_3 (by decide) ?_
  refine lv_istore (lv' := [(5, .int 0), (4, .int v2), (0, .ref (a.1 13)), (1, .ref (a.2.1 d1)), (2, .int v2), (3, .int v3)]) hF.x hF.b dX1_doTimes_4 hl (by decide) rfl (fun ls hl => ?_)
  exact hK6 σ d1 v2 v3 v2 0 hok hw (lv_sub hl [2, 3, 4, 5, 1, 0] rfl)

theorem lp_X1_doTimes_6 {l : Launch} {p : Program} {e : Env} {s : State} {m : MethodId} {below : List Frame} {meth : Method} {c : Code} {args : Array Value} {A : Nat → Prop} {G : Gm} {a : AX} {k : Nat} (hDo : ∀ (σ : SX) (o : Option Nat) (v2 v3 : Int32), q1_do k σ o v2 v3 → ctI l yX1_doDeed cX1_doDeed 4 .int (rDo k) G [.ref (a.1 13), va_rf (Option.map a.2.1 o), .int v2, .int v3] (wX G a σ) (fun (r : Int32) (u : SX) => r = (f1_do k σ o v2 v3).1 ∧ u = (f1_do k σ o v2 v3).2) (wX G a))  (hF : fx p s m args meth c cX1_doTimes 6 yX1_doTimes.cls kX1_doTimes (some (.int))) {post : Int32 → SX → Prop}  (Inv : Nat → SX → Nat → Int32 → Int32 → Int32 → Int32 → Prop) (hstep : ∀ (n : Nat) (σ : SX) (d1 : Nat) (v2 : Int32) (v3 : Int32) (v4 : Int32) (v5 : Int32), Inv n σ d1 v2 v3 v4 v5 → wp_X1_doTimes_6 k σ d1 v2 v3 v4 v5 (fun σq d1' v2' v3' v4' v5' => ∃ nq, nq < n ∧ Inv nq σq d1' v2' v3' v4' v5') post) :
    ∀ (n : Nat) (σ : SX) (d1 : Nat) (v2 : Int32) (v3 : Int32) (v4 : Int32) (v5 : Int32) {H : Heap} {locs : List Loc} {ls : Array Slot}, Inv n σ d1 v2 v3 v4 v5 → wb G A s (wX G a σ) H locs → lv_has ls 6 [(0, .ref (a.1 13)), (1, .ref (a.2.1 d1)), (2, .int v2), (3, .int v3), (4, .int v4), (5, .int v5)] → W p l e (rTh k) s m args below meth c H locs 0 0 (MQ below (va_Qi post (po G A (wX G a)) A) args s 0 0 A) (F0 m 6 ls []) := by
  intro n
  induction n using Nat.strongRecOn with
  | _ n ih =>
    intro σ d1 v2 v3 v4 v5 H locs ls hI hw hl
    exact k_X1_doTimes_6 hDo hF (post := post) (K6 := fun σq d1' v2' v3' v4' v5' => ∃ nq, nq < n ∧ Inv nq σq d1' v2' v3' v4' v5') (by intro σq d1' v2' v3' v4' v5' H locs ls hI hw hl; exact ih hI.choose hI.choose_spec.1 σq d1' v2' v3' v4' v5' hI.choose_spec.2 hw hl) σ d1 v2 v3 v4 v5 hw hl (hstep n σ d1 v2 v3 v4 v5 hI)

theorem p1_times_step {k : Nat} {σ0 : SX} {d : Nat} {op : Int32} (hk : k ≤ 16) (hop : op = nI (16 - k)) (hd : d < σ0.2.2.2.1.1) (tg : Int32 × SX) (n : Nat) (σ : SX) (d1 : Nat) (v2 v3 v4 v5 : Int32)
    (hI : d1 = d ∧ v3 = op ∧ XK σ0 σ ∧ ∃ j : Nat, j + n = ((σ0.2.2.2.1.2 d).1 2).toNatClampNeg ∧ v5 = nI j ∧ fx_it (fdo k) (fun σ' _ => (σ'.2.2.2.1.2 d).2 4) n j σ v4 = tg) :
    wp_X1_doTimes_6 k σ d1 v2 v3 v4 v5 (fun σq d1' v2' v3' v4' v5' => ∃ nq, nq < n ∧ (d1' = d ∧ v3' = op ∧ XK σ0 σq ∧ ∃ j : Nat, j + nq = ((σ0.2.2.2.1.2 d).1 2).toNatClampNeg ∧ v5' = nI j ∧ fx_it (fdo k) (fun σ' _ => (σ'.2.2.2.1.2 d).2 4) nq j σq v4' = tg)) (fun r u => r = tg.1 ∧ u = tg.2) := by
  obtain ⟨rfl, rfl, hX, j, hj, rfl, ht⟩ := hI
  have hy : (σ.2.2.2.1.2 d1).1 2 = (σ0.2.2.2.1.2 d1).1 2 := (hX.2.2.1 d1).2 2 (by decide)
  have hylt : ((σ0.2.2.2.1.2 d1).1 2).toNatClampNeg < 2 ^ 31 := by
    have := Int32.toInt_lt ((σ0.2.2.2.1.2 d1).1 2)
    simp only [Int32.toNatClampNeg]
    omega
  refine ⟨hX.nd hd, fun c => ?_, fun c => ⟨fun c2 => ?_, fun c2 => ⟨hX.nd hd, fun o3 e3 => ⟨⟨hX.1, by rw [e3]; exact okO.f hX.1 (hX.nd hd), hk, hop⟩, fun r4 σ5 e4 e5 x6 e6 => ?_⟩⟩⟩⟩
  · have hn : n = 0 := by
      rw [hy, Int32.le_iff_toInt_le, nI_toInt (by omega)] at c
      simp only [Int32.toNatClampNeg] at hj
      omega
    subst hn
    rw [← ht]
    exact ⟨rfl, rfl⟩
  · cases n with
    | zero => rw [← ht]; exact ⟨rfl, rfl⟩
    | succ n =>
      simp only [fx_it] at ht
      rw [if_neg c2] at ht
      rw [← ht]; exact ⟨rfl, rfl⟩
  · cases n with
    | zero =>
      exfalso
      apply c
      rw [hy, Int32.le_iff_toInt_le, nI_toInt (by omega)]
      simp only [Int32.toNatClampNeg] at hj
      omega
    | succ n =>
      simp only [fx_it] at ht
      rw [if_pos c2] at ht
      subst e3; subst e4; subst e5
      exact ⟨n, Nat.lt_succ_self n, rfl, rfl, hX.tr (fdo_K k σ _ v4 hX.1 (okO.f hX.1 (hX.nd hd))), j + 1, by omega, by rw [e6, nI_1], ht⟩

theorem c1_doTimes {l : Launch} {G : Gm} {a : AX} {k : Nat} (hDo : ∀ (σ : SX) (o : Option Nat) (v2 v3 : Int32), q1_do k σ o v2 v3 → ctI l yX1_doDeed cX1_doDeed 4 .int (rDo k) G [.ref (a.1 13), va_rf (Option.map a.2.1 o), .int v2, .int v3] (wX G a σ) (fun (r : Int32) (u : SX) => r = (f1_do k σ o v2 v3).1 ∧ u = (f1_do k σ o v2 v3).2) (wX G a)) (σ : SX) (d1 : Nat) (v2 : Int32) (v3 : Int32) (h : q1_doTimes k σ d1 v2 v3) : ctI l yX1_doTimes cX1_doTimes 6 .int (rTh k) G [.ref (a.1 13), .ref (a.2.1 d1), .int v2, .int v3] (wX G a σ) (fun (r : Int32) (u : SX) => r = (f1_doTimes k σ d1 v2 v3).1 ∧ u = (f1_doTimes k σ d1 v2 v3).2) (wX G a) := by
  refine en_I (by decide +kernel) (Nat.le_of_ble_eq_true rfl) (fun p e s m below meth c A ls hF hw hl => ?_)
  refine k_X1_doTimes_0 hDo hF (K6 := fun σq d1' v2' v3' v4' v5' => ∃ nq, (d1' = d1 ∧ v3' = v3 ∧ XK σ σq ∧ ∃ j : Nat, j + nq = ((σ.2.2.2.1.2 d1).1 2).toNatClampNeg ∧ v5' = nI j ∧ fx_it (fdo k) (fun σ' _ => (σ'.2.2.2.1.2 d1).2 4) nq j σq v4' = f1_doTimes k σ d1 v2 v3)) ?_ σ d1 v2 v3 hw hl ?_
  · intro σq d1' v2' v3' v4' v5' H locs ls hI hw hl
    exact lp_X1_doTimes_6 hDo hF _ (p1_times_step (σ0 := σ) (d := d1) h.2.2.1 h.2.2.2 h.2.1 (f1_doTimes k σ d1 v2 v3)) hI.choose σq d1' v2' v3' v4' v5' hI.choose_spec hw hl
  · exact ⟨_, rfl, rfl, XK.rf h.1, 0, Nat.zero_add _, rfl, rfl⟩

def wp_X1_doTry_0 (k : Nat) (σ : SX) (d1 : Nat) (v2 : Int32) (v3 : Int32)  (post : Int32 → SX → Prop) : Prop :=
  d1 < σ.2.2.2.1.1 ∧ ∀ o1 : Option Nat, o1 = (σ.2.2.2.1.2 d1).2 4 → q1_do k σ o1 v2 v3 ∧ ∀ (r2 : Int32) (σ3 : SX), r2 = (f1_do k σ o1 v2 v3).1 → σ3 = (f1_do k σ o1 v2 v3).2 → ((σ3.1 11) = 0 → post r2 σ3) ∧ (¬ (σ3.1 11) = 0 → ((σ3.1 11) = ((-8)) → post r2 σ3) ∧ (¬ (σ3.1 11) = ((-8)) → (¬ (σ3.1 11) = ((-9)) → ∀ σ7 : SX, σ7 = (va_up σ3.1 11 0, σ3.2) → d1 < σ7.2.2.2.1.1 ∧ ∀ o8 : Option Nat, o8 = (σ7.2.2.2.1.2 d1).2 5 → q1_do k σ7 o8 v2 v3 ∧ ∀ (r9 : Int32) (σ10 : SX), r9 = (f1_do k σ7 o8 v2 v3).1 → σ10 = (f1_do k σ7 o8 v2 v3).2 → post r9 σ10) ∧ ((σ3.1 11) = ((-9)) → post r2 σ3)))
set_option maxHeartbeats 4000000 in
set_option maxRecDepth 100000 in
theorem k_X1_doTry_0 {l : Launch} {p : Program} {e : Env} {s : State} {m : MethodId} {below : List Frame} {meth : Method} {c : Code} {args : Array Value} {A : Nat → Prop} {G : Gm} {a : AX} {k : Nat} (hDo : ∀ (σ : SX) (o : Option Nat) (v2 v3 : Int32), q1_do k σ o v2 v3 → ctI l yX1_doDeed cX1_doDeed 4 .int (rDo k) G [.ref (a.1 13), va_rf (Option.map a.2.1 o), .int v2, .int v3] (wX G a σ) (fun (r : Int32) (u : SX) => r = (f1_do k σ o v2 v3).1 ∧ u = (f1_do k σ o v2 v3).2) (wX G a))  (hF : fx p s m args meth c cX1_doTry 5 yX1_doTry.cls kX1_doTry (some (.int))) {post : Int32 → SX → Prop}  (σ : SX) (d1 : Nat) (v2 : Int32) (v3 : Int32) {H : Heap} {locs : List Loc} {ls : Array Slot} (hw : wb G A s (wX G a σ) H locs) (hl : lv_has ls 5 [(0, .ref (a.1 13)), (1, .ref (a.2.1 d1)), (2, .int v2), (3, .int v3)]) (hok : wp_X1_doTry_0 k σ d1 v2 v3  post) :
    W p l e (rTh k) s m args below meth c H locs 0 0 (MQ below (va_Qi post (po G A (wX G a)) A) args s 0 0 A) (F0 m 0 ls []) := by
  unfold wp_X1_doTry_0 at hok
  refine lv_aload_n hF.x hF.b dX1_doTry_0 rfl (lv_at hl 0 rfl) ?_
  refine lv_aload_n hF.x hF.b dX1_doTry_1 rfl (lv_at hl 1 rfl) ?_
  refine rx_dget (k := 4) hF hw hok.1 (by decide) (by unfold nestW; simp [TX0]) rfl dX1_doTry_2 ?_
  obtain ⟨o1, eo1⟩ : ∃ z : Option Nat, z = (σ.2.2.2.1.2 d1).2 4 := ⟨_, rfl⟩
  rw [← eo1]
  replace hok := hok.2 o1 eo1
  refine lv_iload_n hF.x hF.b dX1_doTry_5 rfl (lv_at hl 2 rfl) ?_
  refine lv_iload_n hF.x hF.b dX1_doTry_6 rfl (lv_at hl 3 rfl) ?_
  refine ca_I hF hw (hDo σ o1 v2 v3 hok.1) wv_X1_110 (q0 := 0) rfl rfl rfl ⟨nd_X1.1, nd_X1.2, pd_X1_doDeed⟩ ⟨by show 3 * k + 6 + 1 ≤ 3 * k + 7; omega, by show 8 + (4 + 11) + (75 * k + 160) ≤ 75 * k + 183; omega⟩ ⟨Nat.zero_le _, Nat.zero_le _⟩ hl.1 rfl (by first | exact Nat.le_of_ble_eq_true rfl | simp [cat_rf, Value.category]) dX1_doTry_7 (fun r2 σ3 H locs hp hw => ?_)
  obtain ⟨er2, eσ3⟩ := hp
  replace hok := hok.2 r2 σ3 er2 eσ3
  refine lv_istore (lv' := [(4, .int r2), (0, .ref (a.1 13)), (1, .ref (a.2.1 d1)), (2, .int v2), (3, .int v3)]) hF.x hF.b dX1_doTry_10 hl (by decide) rfl (fun ls hl => ?_)
  refine lv_aload_n hF.x hF.b dX1_doTry_12 rfl (lv_at hl 1 rfl) ?_
  refine r_get hF hw 0 rfl rfl inlX1 11 (by decide) wf_X1_49 rfl dX1_doTry_13 ?_
  refine lv_if_eq (tgt := 37) hF.x hF.b dX1_doTry_16 (by decide) (fun c4 => ?_) (fun c4 => ?_)
  · replace hok := hok.1 c4
    refine lv_iload hF.x hF.b dX1_doTry_37 (lv_at hl 0 rfl) ?_
    exact rt_I (u := σ3) hF hw hok (Nat.zero_le _) (Nat.zero_le _) dX1_doTry_39
  · replace hok := hok.2 c4
    refine lv_aload_n hF.x hF.b dX1_doTry_19 rfl (lv_at hl 1 rfl) ?_
    refine r_get hF hw 0 rfl rfl inlX1 11 (by decide) wf_X1_49 rfl dX1_doTry_20 ?_
    refine lv_bipush (v := (-8)) hF.x hF.b dX1_doTry_23 (by decide) ?_
    refine lv_icmp_eq (tgt := 37) hF.x hF.b dX1_doTry_25 (by decide) (fun c5 => ?_) (fun c5 => ?_)
    · replace hok := hok.1 c5
      refine lv_iload hF.x hF.b dX1_doTry_37 (lv_at hl 0 rfl) ?_
      exact rt_I (u := σ3) hF hw hok (Nat.zero_le _) (Nat.zero_le _) dX1_doTry_39
    · replace hok := hok.2 c5
      refine lv_aload_n hF.x hF.b dX1_doTry_28 rfl (lv_at hl 1 rfl) ?_
      refine r_get hF hw 0 rfl rfl inlX1 11 (by decide) wf_X1_49 rfl dX1_doTry_29 ?_
      refine lv_bipush (v := (-9)) hF.x hF.b dX1_doTry_32 (by decide) ?_
      refine lv_icmp_ne (tgt := 40) hF.x hF.b dX1_doTry_34 (by decide) (fun c6 => ?_) (fun c6 => ?_)
      · replace hok := hok.1 c6
        refine lv_aload_n hF.x hF.b dX1_doTry_40 rfl (lv_at hl 1 rfl) ?_
        refine lv_iconst (v := 0) hF.x hF.b dX1_doTry_41 (by decide) ?_
        refine rx_put (v := 0) 11 hF hw (by decide) wf_X1_49 dX1_doTry_42 (fun σ7 H locs eσ7 hw => ?_)
        replace hok := hok σ7 eσ7
        refine lv_aload_n hF.x hF.b dX1_doTry_45 rfl (lv_at hl 1 rfl) ?_
        refine lv_aload_n hF.x hF.b dX1_doTry_46 rfl (lv_at hl 2 rfl) ?_
        refine rx_dget (k := 5) hF hw hok.1 (by decide) (by unfold nestW; simp [TX0]) rfl dX1_doTry_47 ?_
        obtain ⟨o8, eo8⟩ : ∃ z : Option Nat, z = (σ7.2.2.2.1.2 d1).2 5 := ⟨_, rfl⟩
        rw [← eo8]
        replace hok := hok.2 o8 eo8
        refine lv_iload_n hF.x hF.b dX1_doTry_50 rfl (lv_at hl 3 rfl) ?_
        refine lv_iload_n hF.x hF.b dX1_doTry_51 rfl (lv_at hl 4 rfl) ?_
        refine ca_I hF hw (hDo σ7 o8 v2 v3 hok.1) wv_X1_110 (q0 := 0) rfl rfl rfl ⟨nd_X1.1, nd_X1.2, pd_X1_doDeed⟩ ⟨by show 3 * k + 6 + 1 ≤ 3 * k + 7; omega, by show 8 + (4 + 11) + (75 * k + 160) ≤ 75 * k + 183; omega⟩ ⟨Nat.zero_le _, Nat.zero_le _⟩ hl.1 rfl (by first | exact Nat.le_of_ble_eq_true rfl | simp [cat_rf, Value.category]) dX1_doTry_52 (fun r9 σ10 H locs hp hw => ?_)
        obtain ⟨er9, eσ10⟩ := hp
        replace hok := hok.2 r9 σ10 er9 eσ10
        exact rt_I (u := σ10) hF hw hok (Nat.zero_le _) (Nat.zero_le _) dX1_doTry_55
      · replace hok := hok.2 c6
        refine lv_iload hF.x hF.b dX1_doTry_37 (lv_at hl 0 rfl) ?_
        exact rt_I (u := σ3) hF hw hok (Nat.zero_le _) (Nat.zero_le _) dX1_doTry_39

theorem p1_doTry {k : Nat} (σ : SX) (d1 : Nat) (v2 v3 : Int32) (h : q1_doTry k σ d1 v2 v3) : wp_X1_doTry_0 k σ d1 v2 v3 (fun r u => r = (f1_doTry k σ d1 v2 v3).1 ∧ u = (f1_doTry k σ d1 v2 v3).2) := by
  refine ⟨h.2.1, fun o1 e1 => ⟨⟨h.1, by rw [e1]; exact okO.f h.1 h.2.1, h.2.2⟩, fun r2 σ3 e2 e3 => ?_⟩⟩
  have h1 : XK σ σ3 := by rw [e3]; exact fdo_K k σ o1 v2 h.1 (by rw [e1]; exact okO.f h.1 h.2.1)
  have h2 := XK.sI h1.1 11 0 (by decide) (by decide)
  subst e1
  refine ⟨fun c => ?_, fun c => ⟨fun c2 => ?_, fun c2 => ⟨fun c3 σ7 e7 => ⟨by rw [e7]; exact h1.nd h.2.1, fun o8 e8 => ⟨⟨by rw [e7]; exact h2.1, by rw [e8, e7]; exact okO.s h1.1 (h1.nd h.2.1), h.2.2⟩, fun r9 σ10 e9 e10 => ?_⟩⟩, fun c3 => ?_⟩⟩⟩
  · subst e3
    simp only [f1_doTry, fx_try]
    rw [if_pos (Or.inl c)]
    exact ⟨e2, rfl⟩
  · subst e3
    simp only [f1_doTry, fx_try]
    rw [if_pos (Or.inr (Or.inl c2))]
    exact ⟨e2, rfl⟩
  · subst e7; subst e8; subst e3
    simp only [f1_doTry, fx_try]
    rw [if_neg (fun q => q.elim c (fun q => q.elim c2 c3))]
    exact ⟨e9, e10⟩
  · subst e3
    simp only [f1_doTry, fx_try]
    rw [if_pos (Or.inr (Or.inr c3))]
    exact ⟨e2, rfl⟩

theorem c1_doTry {l : Launch} {G : Gm} {a : AX} {k : Nat} (hDo : ∀ (σ : SX) (o : Option Nat) (v2 v3 : Int32), q1_do k σ o v2 v3 → ctI l yX1_doDeed cX1_doDeed 4 .int (rDo k) G [.ref (a.1 13), va_rf (Option.map a.2.1 o), .int v2, .int v3] (wX G a σ) (fun (r : Int32) (u : SX) => r = (f1_do k σ o v2 v3).1 ∧ u = (f1_do k σ o v2 v3).2) (wX G a)) (σ : SX) (d1 : Nat) (v2 : Int32) (v3 : Int32) (h : q1_doTry k σ d1 v2 v3) : ctI l yX1_doTry cX1_doTry 5 .int (rTh k) G [.ref (a.1 13), .ref (a.2.1 d1), .int v2, .int v3] (wX G a σ) (fun (r : Int32) (u : SX) => r = (f1_doTry k σ d1 v2 v3).1 ∧ u = (f1_doTry k σ d1 v2 v3).2) (wX G a) := by
  refine en_I (by decide +kernel) (Nat.le_of_ble_eq_true rfl) (fun p e s m below meth c A ls hF hw hl => ?_)
  exact k_X1_doTry_0 hDo hF σ d1 v2 v3 hw hl (p1_doTry σ d1 v2 v3 h)

def wp_X1_doCount_0 (k : Nat) (σ : SX) (d1 : Nat) (v2 : Int32) (v3 : Int32)  (post : Int32 → SX → Prop) : Prop :=
  d1 < σ.2.2.2.1.1 ∧ ∀ o1 : Option Nat, o1 = (σ.2.2.2.1.2 d1).2 4 → q1_do k σ o1 v2 v3 ∧ ∀ (r2 : Int32) (σ3 : SX), r2 = (f1_do k σ o1 v2 v3).1 → σ3 = (f1_do k σ o1 v2 v3).2 → ((σ3.1 11) = 0 → d1 < σ3.2.2.2.1.1 ∧ ∀ x5 : Int32, x5 = ((σ3.2.2.2.1.2 d1).1 7) + 1 → d1 < σ3.2.2.2.1.1 ∧ ∀ σ6 : SX, σ6 = (σ3.1, σ3.2.1, σ3.2.2.1, (σ3.2.2.2.1.1, va_up σ3.2.2.2.1.2 d1 (va_up (σ3.2.2.2.1.2 d1).1 7 x5, (σ3.2.2.2.1.2 d1).2)), σ3.2.2.2.2) → d1 < σ6.2.2.2.1.1 ∧ post ((σ6.2.2.2.1.2 d1).1 7) σ6) ∧ (¬ (σ3.1 11) = 0 → post 0 σ3)
set_option maxHeartbeats 4000000 in
set_option maxRecDepth 100000 in
theorem k_X1_doCount_0 {l : Launch} {p : Program} {e : Env} {s : State} {m : MethodId} {below : List Frame} {meth : Method} {c : Code} {args : Array Value} {A : Nat → Prop} {G : Gm} {a : AX} {k : Nat} (hDo : ∀ (σ : SX) (o : Option Nat) (v2 v3 : Int32), q1_do k σ o v2 v3 → ctI l yX1_doDeed cX1_doDeed 4 .int (rDo k) G [.ref (a.1 13), va_rf (Option.map a.2.1 o), .int v2, .int v3] (wX G a σ) (fun (r : Int32) (u : SX) => r = (f1_do k σ o v2 v3).1 ∧ u = (f1_do k σ o v2 v3).2) (wX G a))  (hF : fx p s m args meth c cX1_doCount 4 yX1_doCount.cls kX1_doCount (some (.int))) {post : Int32 → SX → Prop}  (σ : SX) (d1 : Nat) (v2 : Int32) (v3 : Int32) {H : Heap} {locs : List Loc} {ls : Array Slot} (hw : wb G A s (wX G a σ) H locs) (hl : lv_has ls 4 [(0, .ref (a.1 13)), (1, .ref (a.2.1 d1)), (2, .int v2), (3, .int v3)]) (hok : wp_X1_doCount_0 k σ d1 v2 v3  post) :
    W p l e (rTh k) s m args below meth c H locs 0 0 (MQ below (va_Qi post (po G A (wX G a)) A) args s 0 0 A) (F0 m 0 ls []) := by
  unfold wp_X1_doCount_0 at hok
  refine lv_aload_n hF.x hF.b dX1_doCount_0 rfl (lv_at hl 0 rfl) ?_
  refine lv_aload_n hF.x hF.b dX1_doCount_1 rfl (lv_at hl 1 rfl) ?_
  refine rx_dget (k := 4) hF hw hok.1 (by decide) (by unfold nestW; simp [TX0]) rfl dX1_doCount_2 ?_
  obtain ⟨o1, eo1⟩ : ∃ z : Option Nat, z = (σ.2.2.2.1.2 d1).2 4 := ⟨_, rfl⟩
  rw [← eo1]
  replace hok := hok.2 o1 eo1
  refine lv_iload_n hF.x hF.b dX1_doCount_5 rfl (lv_at hl 2 rfl) ?_
  refine lv_iload_n hF.x hF.b dX1_doCount_6 rfl (lv_at hl 3 rfl) ?_
  refine ca_I hF hw (hDo σ o1 v2 v3 hok.1) wv_X1_110 (q0 := 0) rfl rfl rfl ⟨nd_X1.1, nd_X1.2, pd_X1_doDeed⟩ ⟨by show 3 * k + 6 + 1 ≤ 3 * k + 7; omega, by show 8 + (4 + 11) + (75 * k + 160) ≤ 75 * k + 183; omega⟩ ⟨Nat.zero_le _, Nat.zero_le _⟩ hl.1 rfl (by first | exact Nat.le_of_ble_eq_true rfl | simp [cat_rf, Value.category]) dX1_doCount_7 (fun r2 σ3 H locs hp hw => ?_)
  obtain ⟨er2, eσ3⟩ := hp
  replace hok := hok.2 r2 σ3 er2 eσ3
  refine lv_pop hF.x hF.b dX1_doCount_10 rfl ?_
  refine lv_aload_n hF.x hF.b dX1_doCount_11 rfl (lv_at hl 0 rfl) ?_
  refine r_get hF hw 0 rfl rfl inlX1 11 (by decide) wf_X1_49 rfl dX1_doCount_12 ?_
  refine lv_if_eq (tgt := 20) hF.x hF.b dX1_doCount_15 (by decide) (fun c4 => ?_) (fun c4 => ?_)
  · replace hok := hok.1 c4
    refine lv_aload_n hF.x hF.b dX1_doCount_20 rfl (lv_at hl 1 rfl) ?_
    refine lv_dup hF.x hF.b dX1_doCount_21 rfl ?_
    refine rx_dget (k := 7) hF hw hok.1 (by decide) (by unfold nestW; simp [TX0]) rfl dX1_doCount_22 ?_
    replace hok := hok.2
    refine lv_iconst (v := 1) hF.x hF.b dX1_doCount_25 (by decide) ?_
    refine lv_iadd hF.x hF.b dX1_doCount_26 ?_
    refine lv_topi (fun x5 ex5 => ?_)
    replace hok := hok x5 ex5
    refine rx_dputT (v := x5) hF hw hok.1 dX1_doCount_27 (fun σ6 H locs eσ6 hw => ?_)
    replace hok := hok.2 σ6 eσ6
    refine lv_aload_n hF.x hF.b dX1_doCount_30 rfl (lv_at hl 1 rfl) ?_
    refine rx_dget (k := 7) hF hw hok.1 (by decide) (by unfold nestW; simp [TX0]) rfl dX1_doCount_31 ?_
    replace hok := hok.2
    exact rt_I (u := σ6) hF hw hok (Nat.zero_le _) (Nat.zero_le _) dX1_doCount_34
  · replace hok := hok.2 c4
    refine lv_iconst (v := 0) hF.x hF.b dX1_doCount_18 (by decide) ?_
    exact rt_I (u := σ3) hF hw hok (Nat.zero_le _) (Nat.zero_le _) dX1_doCount_19

theorem p1_doCount {k : Nat} (σ : SX) (d1 : Nat) (v2 v3 : Int32) (h : q1_doCount k σ d1 v2 v3) : wp_X1_doCount_0 k σ d1 v2 v3 (fun r u => r = (f1_doCount k σ d1 v2 v3).1 ∧ u = (f1_doCount k σ d1 v2 v3).2) := by
  refine ⟨h.2.1, fun o1 e1 => ⟨⟨h.1, by rw [e1]; exact okO.f h.1 h.2.1, h.2.2⟩, fun r2 σ3 e2 e3 => ?_⟩⟩
  have h1 : XK σ σ3 := by rw [e3]; exact fdo_K k σ o1 v2 h.1 (by rw [e1]; exact okO.f h.1 h.2.1)
  subst e1
  refine ⟨fun c => ⟨h1.nd h.2.1, fun x5 e5 => ⟨h1.nd h.2.1, fun σ6 e6 => ⟨by rw [e6]; exact h1.nd h.2.1, ?_⟩⟩⟩, fun c => ?_⟩
  · subst e5; subst e6; subst e3
    simp only [f1_doCount, fx_count]
    rw [if_pos c]
    exact ⟨by simp [va_up], rfl⟩
  · subst e3
    simp only [f1_doCount, fx_count]
    rw [if_neg c]
    exact ⟨rfl, rfl⟩

theorem c1_doCount {l : Launch} {G : Gm} {a : AX} {k : Nat} (hDo : ∀ (σ : SX) (o : Option Nat) (v2 v3 : Int32), q1_do k σ o v2 v3 → ctI l yX1_doDeed cX1_doDeed 4 .int (rDo k) G [.ref (a.1 13), va_rf (Option.map a.2.1 o), .int v2, .int v3] (wX G a σ) (fun (r : Int32) (u : SX) => r = (f1_do k σ o v2 v3).1 ∧ u = (f1_do k σ o v2 v3).2) (wX G a)) (σ : SX) (d1 : Nat) (v2 : Int32) (v3 : Int32) (h : q1_doCount k σ d1 v2 v3) : ctI l yX1_doCount cX1_doCount 4 .int (rTh k) G [.ref (a.1 13), .ref (a.2.1 d1), .int v2, .int v3] (wX G a σ) (fun (r : Int32) (u : SX) => r = (f1_doCount k σ d1 v2 v3).1 ∧ u = (f1_doCount k σ d1 v2 v3).2) (wX G a) := by
  refine en_I (by decide +kernel) (Nat.le_of_ble_eq_true rfl) (fun p e s m below meth c A ls hF hw hl => ?_)
  exact k_X1_doCount_0 hDo hF σ d1 v2 v3 hw hl (p1_doCount σ d1 v2 v3 h)

def wp_X1_doPlaces_6 (k : Nat) (σ : SX) (v1 : Int32) (v2 : Int32) (v3 : Int32) (v4 : Int32) (v5 : Int32) (K6 : SX → Int32 → Int32 → Int32 → Int32 → Int32 → Prop) (post : Int32 → SX → Prop) : Prop :=
  (4 ≤ v5 → post v4 σ) ∧ (¬ 4 ≤ v5 → (¬ (σ.1 11) = 0 → post v4 σ) ∧ ((σ.1 11) = 0 → q1_atPlace σ v1 v5 ∧ ∀ (o3 : Option Nat) (σ4 : SX), o3 = (f1_atPlace σ v1 v5).1 → σ4 = (f1_atPlace σ v1 v5).2 → q1_do k σ4 o3 v4 v3 ∧ ∀ (r5 : Int32) (σ6 : SX), r5 = (f1_do k σ4 o3 v4 v3).1 → σ6 = (f1_do k σ4 o3 v4 v3).2 → ∀ x7 : Int32, x7 = v5 + 1 → K6 σ6 v1 v2 v3 r5 x7))
set_option maxHeartbeats 4000000 in
set_option maxRecDepth 100000 in
theorem k_X1_doPlaces_6 {l : Launch} {p : Program} {e : Env} {s : State} {m : MethodId} {below : List Frame} {meth : Method} {c : Code} {args : Array Value} {A : Nat → Prop} {G : Gm} {a : AX} {k : Nat} (hDo : ∀ (σ : SX) (o : Option Nat) (v2 v3 : Int32), q1_do k σ o v2 v3 → ctI l yX1_doDeed cX1_doDeed 4 .int (rDo k) G [.ref (a.1 13), va_rf (Option.map a.2.1 o), .int v2, .int v3] (wX G a σ) (fun (r : Int32) (u : SX) => r = (f1_do k σ o v2 v3).1 ∧ u = (f1_do k σ o v2 v3).2) (wX G a))  (hF : fx p s m args meth c cX1_doPlaces 6 yX1_doPlaces.cls kX1_doPlaces (some (.int))) {post : Int32 → SX → Prop} {K6 : SX → Int32 → Int32 → Int32 → Int32 → Int32 → Prop} (hK6 : ∀ (σ : SX) (v1 : Int32) (v2 : Int32) (v3 : Int32) (v4 : Int32) (v5 : Int32) {H : Heap} {locs : List Loc} {ls : Array Slot}, K6 σ v1 v2 v3 v4 v5 → wb G A s (wX G a σ) H locs → lv_has ls 6 [(0, .ref (a.1 13)), (1, .int v1), (2, .int v2), (3, .int v3), (4, .int v4), (5, .int v5)] → W p l e (rTh k) s m args below meth c H locs 0 0 (MQ below (va_Qi post (po G A (wX G a)) A) args s 0 0 A) (F0 m 6 ls [])) (σ : SX) (v1 : Int32) (v2 : Int32) (v3 : Int32) (v4 : Int32) (v5 : Int32) {H : Heap} {locs : List Loc} {ls : Array Slot} (hw : wb G A s (wX G a σ) H locs) (hl : lv_has ls 6 [(0, .ref (a.1 13)), (1, .int v1), (2, .int v2), (3, .int v3), (4, .int v4), (5, .int v5)]) (hok : wp_X1_doPlaces_6 k σ v1 v2 v3 v4 v5 K6 post) :
    W p l e (rTh k) s m args below meth c H locs 0 0 (MQ below (va_Qi post (po G A (wX G a)) A) args s 0 0 A) (F0 m 6 ls []) := by
  unfold wp_X1_doPlaces_6 at hok
  refine lv_iload hF.x hF.b dX1_doPlaces_6 (lv_at hl 5 rfl) ?_
  refine lv_iconst (v := 4) hF.x hF.b dX1_doPlaces_8 (by decide) ?_
  refine lv_icmp_ge (tgt := 41) hF.x hF.b dX1_doPlaces_9 (by decide) (fun c1 => ?_) (fun c1 => ?_)
  · replace hok := hok.1 c1
    refine lv_iload hF.x hF.b dX1_doPlaces_41 (lv_at hl 4 rfl) ?_
    exact rt_I (u := σ) hF hw hok (Nat.zero_le _) (Nat.zero_le _) dX1_doPlaces_43
  · replace hok := hok.2 c1
    refine lv_aload_n hF.x hF.b dX1_doPlaces_12 rfl (lv_at hl 0 rfl) ?_
    refine r_get hF hw 0 rfl rfl inlX1 11 (by decide) wf_X1_49 rfl dX1_doPlaces_13 ?_
    refine lv_if_ne (tgt := 41) hF.x hF.b dX1_doPlaces_16 (by decide) (fun c2 => ?_) (fun c2 => ?_)
    · replace hok := hok.1 c2
      refine lv_iload hF.x hF.b dX1_doPlaces_41 (lv_at hl 4 rfl) ?_
      exact rt_I (u := σ) hF hw hok (Nat.zero_le _) (Nat.zero_le _) dX1_doPlaces_43
    · replace hok := hok.2 c2
      refine lv_aload_n hF.x hF.b dX1_doPlaces_19 rfl (lv_at hl 0 rfl) ?_
      refine lv_aload_n hF.x hF.b dX1_doPlaces_20 rfl (lv_at hl 0 rfl) ?_
      refine lv_iload_n hF.x hF.b dX1_doPlaces_21 rfl (lv_at hl 1 rfl) ?_
      refine lv_iload hF.x hF.b dX1_doPlaces_22 (lv_at hl 5 rfl) ?_
      refine ca_Q hF hw (c1_atPlace l G a σ v1 v5 hok.1) wv_X1_193 (q0 := 0) rfl rfl rfl ⟨nd_X1.1, nd_X1.2, pd_X1_atPlace⟩ ⟨by show 1 + 1 ≤ 3 * k + 7; omega, by show 8 + (3 + 11) + 20 ≤ 75 * k + 183; omega⟩ ⟨Nat.zero_le _, Nat.zero_le _⟩ hl.1 rfl (by first | exact Nat.le_of_ble_eq_true rfl | simp [cat_rf, Value.category]) dX1_doPlaces_24 (fun rq σ4 H locs hp hw => ?_)
      obtain ⟨o3, hr, eo3, eσ4⟩ := hp
      subst hr
      replace hok := hok.2 o3 σ4 eo3 eσ4
      refine lv_iload hF.x hF.b dX1_doPlaces_27 (lv_at hl 4 rfl) ?_
      refine lv_iload_n hF.x hF.b dX1_doPlaces_29 rfl (lv_at hl 3 rfl) ?_
      refine ca_I hF hw (hDo σ4 o3 v4 v3 hok.1) wv_X1_110 (q0 := 0) rfl rfl rfl ⟨nd_X1.1, nd_X1.2, pd_X1_doDeed⟩ ⟨by show 3 * k + 6 + 1 ≤ 3 * k + 7; omega, by show 8 + (4 + 11) + (75 * k + 160) ≤ 75 * k + 183; omega⟩ ⟨Nat.zero_le _, Nat.zero_le _⟩ hl.1 rfl (by first | exact Nat.le_of_ble_eq_true rfl | simp [cat_rf, Value.category]) dX1_doPlaces_30 (fun r5 σ6 H locs hp hw => ?_)
      obtain ⟨er5, eσ6⟩ := hp
      replace hok := hok.2 r5 σ6 er5 eσ6
      refine lv_istore (lv' := [(4, .int r5), (0, .ref (a.1 13)), (1, .int v1), (2, .int v2), (3, .int v3), (5, .int v5)]) hF.x hF.b dX1_doPlaces_33 hl (by decide) rfl (fun ls hl => ?_)
      obtain ⟨x7, ex7⟩ : ∃ z : Int32, z = v5 + 1 := ⟨_, rfl⟩
      replace hok := hok x7 ex7
      refine lv_iinc (v := x7) (lv' := [(5, .int x7), (4, .int r5), (0, .ref (a.1 13)), (1, .int v1), (2, .int v2), (3, .int v3)]) hF.x hF.b dX1_doPlaces_35 hl (k := 5) rfl (by rw [ex7]; rfl) (by decide) rfl (fun ls hl => ?_)
      refine lv_goto (tgt := 6) hF.x hF.b dX1_doPlaces_38 (by decide) ?_
      exact hK6 σ6 v1 v2 v3 r5 x7 hok hw (lv_sub hl [2, 3, 4, 5, 1, 0] rfl)
def wp_X1_doPlaces_0 (k : Nat) (σ : SX) (v1 : Int32) (v2 : Int32) (v3 : Int32) (K6 : SX → Int32 → Int32 → Int32 → Int32 → Int32 → Prop) (post : Int32 → SX → Prop) : Prop :=
  K6 σ v1 v2 v3 v2 0
set_option maxHeartbeats 4000000 in
set_option maxRecDepth 100000 in
theorem k_X1_doPlaces_0 {l : Launch} {p : Program} {e : Env} {s : State} {m : MethodId} {below : List Frame} {meth : Method} {c : Code} {args : Array Value} {A : Nat → Prop} {G : Gm} {a : AX} {k : Nat} (hDo : ∀ (σ : SX) (o : Option Nat) (v2 v3 : Int32), q1_do k σ o v2 v3 → ctI l yX1_doDeed cX1_doDeed 4 .int (rDo k) G [.ref (a.1 13), va_rf (Option.map a.2.1 o), .int v2, .int v3] (wX G a σ) (fun (r : Int32) (u : SX) => r = (f1_do k σ o v2 v3).1 ∧ u = (f1_do k σ o v2 v3).2) (wX G a))  (hF : fx p s m args meth c cX1_doPlaces 6 yX1_doPlaces.cls kX1_doPlaces (some (.int))) {post : Int32 → SX → Prop} {K6 : SX → Int32 → Int32 → Int32 → Int32 → Int32 → Prop} (hK6 : ∀ (σ : SX) (v1 : Int32) (v2 : Int32) (v3 : Int32) (v4 : Int32) (v5 : Int32) {H : Heap} {locs : List Loc} {ls : Array Slot}, K6 σ v1 v2 v3 v4 v5 → wb G A s (wX G a σ) H locs → lv_has ls 6 [(0, .ref (a.1 13)), (1, .int v1), (2, .int v2), (3, .int v3), (4, .int v4), (5, .int v5)] → W p l e (rTh k) s m args below meth c H locs 0 0 (MQ below (va_Qi post (po G A (wX G a)) A) args s 0 0 A) (F0 m 6 ls [])) (σ : SX) (v1 : Int32) (v2 : Int32) (v3 : Int32) {H : Heap} {locs : List Loc} {ls : Array Slot} (hw : wb G A s (wX G a σ) H locs) (hl : lv_has ls 6 [(0, .ref (a.1 13)), (1, .int v1), (2, .int v2), (3, .int v3)]) (hok : wp_X1_doPlaces_0 k σ v1 v2 v3 K6 post) :
    W p l e (rTh k) s m args below meth c H locs 0 0 (MQ below (va_Qi post (po G A (wX G a)) A) args s 0 0 A) (F0 m 0 ls []) := by
  unfold wp_X1_doPlaces_0 at hok
  refine lv_iload_n hF.x hF.b dX1_doPlaces_0 rfl (lv_at hl 2 rfl) ?_
  refine lv_istore (lv' := [(4, .int v2), (0, .ref (a.1 13)), (1, .int v1), (2, .int v2), (3, .int v3)]) hF.x hF.b dX1_doPlaces_1 hl (by decide) rfl (fun ls hl => ?_)
  refine lv_iconst (v := 0) hF.x hF.b dX1_doPlaces_3 (by decide) ?_
  refine lv_istore (lv' := [(5, .int 0), (4, .int v2), (0, .ref (a.1 13)), (1, .int v1), (2, .int v2), (3, .int v3)]) hF.x hF.b dX1_doPlaces_4 hl (by decide) rfl (fun ls hl => ?_)
  exact hK6 σ v1 v2 v3 v2 0 hok hw (lv_sub hl [2, 3, 4, 5, 1, 0] rfl)

theorem lp_X1_doPlaces_6 {l : Launch} {p : Program} {e : Env} {s : State} {m : MethodId} {below : List Frame} {meth : Method} {c : Code} {args : Array Value} {A : Nat → Prop} {G : Gm} {a : AX} {k : Nat} (hDo : ∀ (σ : SX) (o : Option Nat) (v2 v3 : Int32), q1_do k σ o v2 v3 → ctI l yX1_doDeed cX1_doDeed 4 .int (rDo k) G [.ref (a.1 13), va_rf (Option.map a.2.1 o), .int v2, .int v3] (wX G a σ) (fun (r : Int32) (u : SX) => r = (f1_do k σ o v2 v3).1 ∧ u = (f1_do k σ o v2 v3).2) (wX G a))  (hF : fx p s m args meth c cX1_doPlaces 6 yX1_doPlaces.cls kX1_doPlaces (some (.int))) {post : Int32 → SX → Prop}  (Inv : Nat → SX → Int32 → Int32 → Int32 → Int32 → Int32 → Prop) (hstep : ∀ (n : Nat) (σ : SX) (v1 : Int32) (v2 : Int32) (v3 : Int32) (v4 : Int32) (v5 : Int32), Inv n σ v1 v2 v3 v4 v5 → wp_X1_doPlaces_6 k σ v1 v2 v3 v4 v5 (fun σq v1' v2' v3' v4' v5' => ∃ nq, nq < n ∧ Inv nq σq v1' v2' v3' v4' v5') post) :
    ∀ (n : Nat) (σ : SX) (v1 : Int32) (v2 : Int32) (v3 : Int32) (v4 : Int32) (v5 : Int32) {H : Heap} {locs : List Loc} {ls : Array Slot}, Inv n σ v1 v2 v3 v4 v5 → wb G A s (wX G a σ) H locs → lv_has ls 6 [(0, .ref (a.1 13)), (1, .int v1), (2, .int v2), (3, .int v3), (4, .int v4), (5, .int v5)] → W p l e (rTh k) s m args below meth c H locs 0 0 (MQ below (va_Qi post (po G A (wX G a)) A) args s 0 0 A) (F0 m 6 ls []) := by
  intro n
  induction n using Nat.strongRecOn with
  | _ n ih =>
    intro σ v1 v2 v3 v4 v5 H locs ls hI hw hl
    exact k_X1_doPlaces_6 hDo hF (post := post) (K6 := fun σq v1' v2' v3' v4' v5' => ∃ nq, nq < n ∧ Inv nq σq v1' v2' v3' v4' v5') (by intro σq v1' v2' v3' v4' v5' H locs ls hI hw hl; exact ih hI.choose hI.choose_spec.1 σq v1' v2' v3' v4' v5' hI.choose_spec.2 hw hl) σ v1 v2 v3 v4 v5 hw hl (hstep n σ v1 v2 v3 v4 v5 hI)

theorem p1_places_step {k : Nat} {σ0 : SX} {lv op : Int32} (hk : k ≤ 16) (hop : op = nI (16 - k)) (tg : Int32 × SX) (n : Nat) (σ : SX) (v1 v2 v3 v4 v5 : Int32)
    (hI : v1 = lv ∧ v3 = op ∧ XK σ0 σ ∧ ∃ j : Nat, j + n = 4 ∧ v5 = nI j ∧ fx_it (fdo k) (fun σ' i => (f1_atPlace σ' lv (nI i)).1) n j σ v4 = tg) :
    wp_X1_doPlaces_6 k σ v1 v2 v3 v4 v5 (fun σq v1' v2' v3' v4' v5' => ∃ nq, nq < n ∧ (v1' = lv ∧ v3' = op ∧ XK σ0 σq ∧ ∃ j : Nat, j + nq = 4 ∧ v5' = nI j ∧ fx_it (fdo k) (fun σ' i => (f1_atPlace σ' lv (nI i)).1) nq j σq v4' = tg)) (fun r u => r = tg.1 ∧ u = tg.2) := by
  obtain ⟨rfl, rfl, hX, j, hj, rfl, ht⟩ := hI
  refine ⟨fun c => ?_, fun c => ⟨fun c2 => ?_, fun c2 => ⟨trivial, fun o3 σ4 e3 e4 => ?_⟩⟩⟩
  · have hn : n = 0 := by
      rw [show (4 : Int32) = nI 4 from rfl, nI_leI (by decide) (by omega)] at c
      omega
    subst hn
    rw [← ht]
    exact ⟨rfl, rfl⟩
  · cases n with
    | zero => rw [← ht]; exact ⟨rfl, rfl⟩
    | succ n =>
      simp only [fx_it] at ht
      rw [if_neg c2] at ht
      rw [← ht]; exact ⟨rfl, rfl⟩
  · obtain rfl : σ4 = σ := e4
    refine ⟨⟨hX.1, by rw [e3]; exact okO.at hX.1 _ _, hk, hop⟩, fun r5 σ6 e5 e6 x7 e7 => ?_⟩
    cases n with
    | zero =>
      exfalso
      apply c
      rw [show (4 : Int32) = nI 4 from rfl, nI_leI (by decide) (by omega)]
      omega
    | succ n =>
      simp only [fx_it] at ht
      rw [if_pos c2] at ht
      subst e3; subst e5; subst e6
      exact ⟨n, Nat.lt_succ_self n, rfl, rfl, hX.tr (fdo_K k σ4 _ v4 hX.1 (okO.at hX.1 _ _)), j + 1, by omega, by rw [e7, nI_1], ht⟩

theorem c1_doPlaces {l : Launch} {G : Gm} {a : AX} {k : Nat} (hDo : ∀ (σ : SX) (o : Option Nat) (v2 v3 : Int32), q1_do k σ o v2 v3 → ctI l yX1_doDeed cX1_doDeed 4 .int (rDo k) G [.ref (a.1 13), va_rf (Option.map a.2.1 o), .int v2, .int v3] (wX G a σ) (fun (r : Int32) (u : SX) => r = (f1_do k σ o v2 v3).1 ∧ u = (f1_do k σ o v2 v3).2) (wX G a)) (σ : SX) (v1 : Int32) (v2 : Int32) (v3 : Int32) (h : q1_doPlaces k σ v1 v2 v3) : ctI l yX1_doPlaces cX1_doPlaces 6 .int (rTh k) G [.ref (a.1 13), .int v1, .int v2, .int v3] (wX G a σ) (fun (r : Int32) (u : SX) => r = (f1_doPlaces k σ v1 v2 v3).1 ∧ u = (f1_doPlaces k σ v1 v2 v3).2) (wX G a) := by
  refine en_I (by decide +kernel) (Nat.le_of_ble_eq_true rfl) (fun p e s m below meth c A ls hF hw hl => ?_)
  refine k_X1_doPlaces_0 hDo hF (K6 := fun σq v1' v2' v3' v4' v5' => ∃ nq, (v1' = v1 ∧ v3' = v3 ∧ XK σ σq ∧ ∃ j : Nat, j + nq = 4 ∧ v5' = nI j ∧ fx_it (fdo k) (fun σ' i => (f1_atPlace σ' v1 (nI i)).1) nq j σq v4' = f1_doPlaces k σ v1 v2 v3)) ?_ σ v1 v2 v3 hw hl ?_
  · intro σq v1' v2' v3' v4' v5' H locs ls hI hw hl
    exact lp_X1_doPlaces_6 hDo hF _ (p1_places_step (σ0 := σ) (lv := v1) h.2.1 h.2.2 (f1_doPlaces k σ v1 v2 v3)) hI.choose σq v1' v2' v3' v4' v5' hI.choose_spec hw hl
  · exact ⟨4, rfl, rfl, XK.rf h.1, 0, rfl, rfl, rfl⟩
