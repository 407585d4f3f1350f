/-! what the methods of a LeverHall answer and change: words for their contracts -/
abbrev rr (f lo : Nat) : Room := { frames := f, cells := 0, slots := 0, locals := lo }
theorem cat_rf (o : Option Nat) : (va_rf o).category = 1 := by cases o <;> rfl
theorem sw_in {x : Int32} {lo hi : Nat} (h : ¬ (x.toInt < (lo : Int) ∨ (hi : Int) < x.toInt)) (hh : hi < 2 ^ 31) : ∃ j : Nat, lo ≤ j ∧ j ≤ hi ∧ x = nI j := by
  have h1 : (lo : Int) ≤ x.toInt := by omega
  have h2 : x.toInt ≤ (hi : Int) := by omega
  refine ⟨x.toInt.toNat, by omega, by omega, ?_⟩
  apply Int32.toInt_inj.mp
  rw [nI_toInt (by omega)]
  omega
theorem wX_ap {G : Gm} {A : Nat → Prop} {s : State} {a : AX} {σ : SX} {H : Heap} {locs : List Loc} {x y : Option Nat} (hw : wb G A s (wX G a σ) H locs) (hx : ∀ z, x = some z → z < σ.2.2.2.1.1) (hy : ∀ z, y = some z → z < σ.2.2.2.1.1) (h : x.map a.2.1 = y.map a.2.1) : x = y := by
  cases x with
  | none => cases y with
    | none => rfl
    | some b => cases h
  | some b => cases y with
    | none => cases h
    | some b' =>
      have h2 : a.2.1 b = a.2.1 b' := Option.some.inj h
      have := hw.2.2.1.1 (7 + b) (7 + b') _ _ (wX_d (hx b rfl)) (wX_d (hy b' rfl)) h2
      rw [show b = b' by omega]
def f1_rng (n k : Int32) : Int32 := if k < 0 then 0 else if n ≤ k then 0 else 1
abbrev f1_isBasin (k : Int32) : Int32 := f1_rng 10 k
abbrev f1_isGauge (k : Int32) : Int32 := f1_rng 3 k
abbrev f1_isSlot (k : Int32) : Int32 := f1_rng 20 k
abbrev f1_isLever (k : Int32) : Int32 := f1_rng 5 k
theorem zf1_rng (n k : Int32) : f1_rng n k = 0 ∨ f1_rng n k = 1 := by unfold f1_rng; split <;> (try split) <;> simp
theorem zf1_isBasin (k : Int32) : f1_isBasin k = 0 ∨ f1_isBasin k = 1 := zf1_rng _ _
theorem zf1_isGauge (k : Int32) : f1_isGauge k = 0 ∨ f1_isGauge k = 1 := zf1_rng _ _
theorem zf1_isSlot (k : Int32) : f1_isSlot k = 0 ∨ f1_isSlot k = 1 := zf1_rng _ _
theorem zf1_isLever (k : Int32) : f1_isLever k = 0 ∨ f1_isLever k = 1 := zf1_rng _ _
theorem in_rng {n : Int32} {N : Nat} (hN : n.toInt = (N : Int)) {k : Int32} (h : ¬ f1_rng n k = 0) : vp_in k N := by
  unfold f1_rng at h
  rw [vp_in_iff]
  by_cases h1 : k < 0
  · rw [if_pos h1] at h; exact absurd rfl h
  · rw [if_neg h1] at h
    by_cases h2 : n ≤ k
    · rw [if_pos h2] at h; exact absurd rfl h
    · rw [Int32.lt_iff_toInt_lt] at h1
      rw [Int32.le_iff_toInt_le, hN] at h2
      have : (0 : Int32).toInt = 0 := by decide
      omega
theorem in_B {k : Int32} (h : ¬ f1_isBasin k = 0) : vp_in k 10 := in_rng (by decide) h
theorem in_G {k : Int32} (h : ¬ f1_isGauge k = 0) : vp_in k 3 := in_rng (by decide) h
theorem in_S {k : Int32} (h : ¬ f1_isSlot k = 0) : vp_in k 20 := in_rng (by decide) h
theorem in_L {k : Int32} (h : ¬ f1_isLever k = 0) : vp_in k 5 := in_rng (by decide) h
def f1_holdsFirst (k : Int32) : Int32 := if k < 7 then 0 else if 12 < k then 0 else 1
def f1_holdsSecond (k : Int32) : Int32 := if k = 7 then 1 else if k = 8 then 1 else if ¬ k = 10 then 0 else 1
/-- whether a kind's numbers name what there is -/
def f1_namesWhatThereIs (k x y z : Int32) : Int32 :=
  if k = 0 ∨ k = 5 then 1
  else if k = 1 ∨ k = 2 ∨ k = 6 then f1_isBasin x
  else if k = 3 then (if f1_isBasin x = 0 then 0 else f1_isBasin y)
  else if k = 4 then f1_isGauge x
  else if k = 7 ∨ k = 10 then (if f1_isSlot x = 0 then 0 else f1_isSlot y)
  else if k = 8 then (if f1_isSlot x = 0 then 0 else if f1_isSlot y = 0 then 0 else f1_isBasin z)
  else if k = 9 then (if f1_isSlot x = 0 then 0 else if y < 0 then 0 else if 5 < y then 0 else 1)
  else if k = 11 ∨ k = 12 ∨ k = 14 then f1_isSlot x
  else if k = 13 then f1_isLever x
  else 0
-- states, set
abbrev sxI (σ : SX) (k : Nat) (v : Int32) : SX := (va_up σ.1 k v, σ.2)
abbrev sxF (σ : SX) (k : Nat) (f : Nat → Int32) : SX := (σ.1, va_up σ.2.1 k f, σ.2.2)
abbrev sxO (σ : SX) (k : Nat) (f : Nat → Option Nat) : SX := (σ.1, σ.2.1, va_up σ.2.2.1 k f, σ.2.2.2)
def q1_hasMark (σ : SX) (g : Option Nat) (_ : Int32) : Prop := ∀ r, g = some r → r < σ.2.2.2.2.1
def f1_hasMark (σ : SX) (g : Option Nat) (i : Int32) : Int32 × SX := (match g with
  | none => 0
  | some r => if i < 0 then 0 else if nI (σ.2.2.2.2.2 r).1 ≤ i then 0 else 1, σ)
abbrev q1_heldBy (_ : SX) (_ : Int32) : Prop := True
def f1_heldBy (σ : SX) (k : Int32) : Int32 × SX := (if f1_isBasin k = 0 then 0 else σ.2.1 0 k.toNatClampNeg, σ)
abbrev q1_pour (_ : SX) (_ _ : Int32) : Prop := True
def f1_pour (σ : SX) (k v : Int32) : SX := if f1_isBasin k = 0 then σ else sxF σ 0 (upd (σ.2.1 0) k.toNatClampNeg v)
abbrev q1_gaugeNow (_ : SX) (_ : Int32) : Prop := True
def f1_gaugeNow (σ : SX) (g : Int32) : Option Nat × SX := (if f1_isGauge g = 0 then none else σ.2.2.1 1 g.toNatClampNeg, σ)
abbrev q1_inSlot (_ : SX) (_ : Int32) : Prop := True
def f1_inSlot (σ : SX) (k : Int32) : Option Nat × SX := (if f1_isSlot k = 0 then none else σ.2.2.1 2 k.toNatClampNeg, σ)
abbrev q1_atPlace (_ : SX) (_ _ : Int32) : Prop := True
def f1_atPlace (σ : SX) (lv pl : Int32) : Option Nat × SX := (if f1_isLever lv = 0 then none else if pl < 0 then none else if 4 ≤ pl then none else σ.2.2.1 3 (lv * 4 + pl).toNatClampNeg, σ)
abbrev q1_refuse (_ : SX) (_ : Int32) : Prop := True
def f1_refuse (σ : SX) (r : Int32) : Int32 × SX := (0, sxI (sxI σ 9 0) 12 r)
abbrev q1_begin (_ : SX) : Prop := True
def f1_begin (σ : SX) : SX := sxI (sxI (sxI σ 9 0) 11 0) 12 0
abbrev q1_noteFailure (_ : SX) : Prop := True
def f1_noteFailure (σ : SX) : SX := if σ.1 11 = 0 then σ else sxI (sxI σ 10 (σ.1 10 + 1)) 12 (σ.1 11)
abbrev q1_fail (_ : SX) (_ : Int32) : Prop := True
def f1_fail (σ : SX) (r : Int32) : Int32 × SX := (0, sxI σ 11 r)
