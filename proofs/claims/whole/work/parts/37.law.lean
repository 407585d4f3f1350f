/-! the law: its start, its sixteen cases, its loop -/
theorem lt_in (i : Nat) {w : Cond} (h : lw_tbl[i]? = some w) : w ∈ lw_tbl := List.mem_of_getElem? h
theorem kx_start {args : Array Value} {s : State} (hts : ∀ w ∈ lw_tbl, w.before args s = true) : ∃ G : Gm, kx G s := by
  have htw : ∀ w ∈ wsA, w.before args s = true := fun w hw => hts w (wa_in w hw)
  obtain ⟨c0, iS0, hK0⟩ := u_known (C := RX0) (T := TX0) (N := 8) (n := 8) htw inlX0 (htw _ wn_X0)
  obtain ⟨c1, iS1, hK1⟩ := u_known (C := RX1) (T := TX1) (N := 13) (n := 13) htw inlX1 (htw _ wn_X1)
  obtain ⟨c2, iS2, hK2⟩ := u_known (C := RX2) (T := TX2) (N := 26) (n := 26) htw inlX2 (htw _ wn_X2)
  have hAO : (Cond.arrayOver (.object RX0)).before args s = true := hts _ (lt_in 51 (by decide +kernel))
  have hAA : (Cond.arrayOver (.array .int)).before args s = true := hts _ (lt_in 49 (by decide +kernel))
  obtain ⟨cI, kI, mI, i1, i2, i3⟩ := Cond.arrayClass_spec (type := .int) (htw _ wa_I)
  obtain ⟨mD, cD, kD, d1, d2, d3, d4, d5⟩ := Cond.arrayOver_spec hAO
  obtain ⟨mA, cA, kA, a1, -, a3, a4, a5⟩ := arrayOverA_spec hAA
  have eA : mA = cI := by
    have e1 : (FieldType.array FieldType.int).toString = "[" ++ FieldType.int.toString := by decide +kernel
    rw [e1] at a1
    exact Option.some.inj (a1.symm.trans i1)
  subst eA
  refine ⟨((fun k => if k = 0 then c0 else if k = 1 then c1 else c2, fun k => if k = 0 then iS0 else if k = 1 then iS1 else iS2), (mA, cD, cA)), ⟨?_, ?_⟩, ⟨kA, kI, a3, a4, i2⟩, ?_, hAO, over_moved (Vm.Alike.refl _) hAA⟩
  · intro k q hq
    match k, hq with
    | 0, hq => cases hq; exact hK0
    | 1, hq => cases hq; exact hK1
    | 2, hq => cases hq; exact hK2
    | k + 3, hq => simp [vwCl] at hq
  · intro k q hq
    match k, hq with
    | 0, hq => cases hq; exact ⟨fun n z => ⟨fun k h => (by cases h), kI, i2, mI, i3⟩, i1⟩
    | 1, hq => cases hq; exact ⟨fun n z => ⟨fun k h => (by cases h), kD, d3, mD, d4⟩, kD, mD, d3, d4, d1, d5⟩
    | 2, hq => cases hq; exact ⟨fun n z => ⟨fun k h => (by cases h), kA, a3, _, a4⟩, a5⟩
    | k + 3, hq => simp [tyL] at hq
  · unfold nestW
    simp only [List.forall_mem_cons]
    exact ⟨va_Nw.of rfl (hts _ (lt_in 159 (by decide +kernel))), va_Nw.of rfl (hts _ (lt_in 161 (by decide +kernel))), va_Nw.of rfl (hts _ (lt_in 163 (by decide +kernel))), va_Nw.of rfl (hts _ (lt_in 165 (by decide +kernel))), va_Nw.of rfl (hts _ (lt_in 167 (by decide +kernel))), va_Nw.of rfl (hts _ (lt_in 169 (by decide +kernel))), va_Nw.of rfl (hts _ (lt_in 171 (by decide +kernel))), va_Nw.of rfl (hts _ (lt_in 173 (by decide +kernel))), va_Nw.of rfl (hts _ (lt_in 154 (by decide +kernel))), fun _ h => absurd h List.not_mem_nil⟩
abbrev lA (s : State) : Nat → Prop := fun q => s.heap.size ≤ q
abbrev lLv (b q1 q2 k : Nat) : List (Nat × Value) := [(0, .ref b), (1, .ref q1), (2, .ref q2), (3, .int (nI (6 * k)))]
def lK (p : Program) (l : Launch) (e : Env) (s : State) (m : MethodId) (below : List Frame) (meth : Method) (c : Code) (b : Nat) (G : Gm) (q1 q2 k : Nat) : Prop :=
  ∀ (a : AX) (σ : SX) (a2 : Nat → Nat) (τ : SM) (H : Heap) (locs : List Loc) (ls : Array Slot), Sim k σ τ → a.1 13 = q1 → a2 26 = q2 → wb G (lA s) s (wX G a σ ++ wM G a2 τ) H locs → lv_has ls 4 (lLv b q1 q2 k) → W p l e room_1 s m #[Value.ref b] below meth c H locs (25 + k) (7457 + 8 * k) (lw_Z below #[Value.ref b] s) (F0 m 18 ls [])
section LAW
variable {p : Program} {l : Launch} {e : Env} {s : State} {m : MethodId} {below : List Frame} {meth : Method} {c : Code} {b L : Nat} {xs : Nat → Int32} {G : Gm} {q1 q2 k : Nat} {c0 : Cond} {a : AX} {σ : SX} {a2 : Nat → Nat} {τ : SM} {H : Heap} {locs : List Loc} {ls : Array Slot}
theorem la_tail (hF : fx p s m #[Value.ref b] meth c cL_law 4 RL c0 ret) (hK : lK p l e s m below meth c b G q1 q2 (k + 1)) (hS : Sim (k + 1) σ τ) (ha : a.1 13 = q1) (ha2 : a2 26 = q2) (hw : wb G (lA s) s (wX G a σ ++ wM G a2 τ) H locs) (hl : lv_has ls 4 (lLv b q1 q2 k)) : W p l e room_1 s m #[Value.ref b] below meth c H locs (25 + (k + 1)) (7457 + 8 * (k + 1)) (lw_Z below #[Value.ref b] s) (F0 m 580 ls []) := by
  refine lv_iinc (v := nI (6 * (k + 1))) (lv' := [(3, .int (nI (6 * (k + 1)))), (0, .ref b), (1, .ref q1), (2, .ref q2)]) hF.x hF.b dL_law_580 hl (k := 3) rfl (by show nI (6 * k) + nI 6 = _; rw [nI_add]; rfl) (by decide) rfl (fun ls hl => ?_)
  refine lv_goto (tgt := 18) hF.x hF.b dL_law_583 (by decide) ?_
  exact hK a σ a2 τ H locs ls hS ha ha2 hw (lv_sub hl [1, 2, 3, 0] rfl)
theorem la_in (hk : 6 * k + 5 < L) (hL : L ≤ 3072) {j : Nat} (hj : j ≤ 5) : vp_in (nI (6 * k) + nI j) L := by
  rw [nI_add]
  exact vp_in_nI (by omega) (by omega)
set_option maxHeartbeats 4000000 in
set_option maxRecDepth 100000 in
theorem la_fill (hF : fx p s m #[Value.ref b] meth c cL_law 4 RL c0 ret) (hX : va_X b L xs s s.heap) (hbl : b < s.heap.size) (hL : L ≤ 3072) (hk : 6 * k + 5 < L) (hK : lK p l e s m below meth c b G q1 q2 (k + 1)) (hS : Sim k σ τ) (ha : a.1 13 = q1) (ha2 : a2 26 = q2) (hw : wb G (lA s) s (wX G a σ ++ wM G a2 τ) H locs) (hl : lv_has ls 4 (lLv b q1 q2 k)) : W p l e room_1 s m #[Value.ref b] below meth c H locs (25 + k) (7457 + 8 * k) (lw_Z below #[Value.ref b] s) (F0 m 112 ls []) := by
  subst ha; subst ha2
  refine lv_aload_n hF.x hF.b dL_law_112 rfl (lv_at hl 1 rfl) ?_
  refine lv_aload_n hF.x hF.b dL_law_113 rfl (lv_at hl 0 rfl) ?_
  refine lv_iload_n hF.x hF.b dL_law_114 rfl (lv_at hl 3 rfl) ?_
  refine lv_iconst (v := nI 1) hF.x hF.b dL_law_115 (by decide) ?_
  refine lv_iadd hF.x hF.b dL_law_116 ?_
  refine va_sld hF.x hF.b hX hbl (Nat.not_le.mpr hbl) hw.2.2.2.1 (la_in hk hL (show 1 ≤ 5 by decide)) dL_law_117 ?_
  refine lv_aload_n hF.x hF.b dL_law_118 rfl (lv_at hl 0 rfl) ?_
  refine lv_iload_n hF.x hF.b dL_law_119 rfl (lv_at hl 3 rfl) ?_
  refine lv_iconst (v := nI 2) hF.x hF.b dL_law_120 (by decide) ?_
  refine lv_iadd hF.x hF.b dL_law_121 ?_
  refine va_sld hF.x hF.b hX hbl (Nat.not_le.mpr hbl) hw.2.2.2.1 (la_in hk hL (show 2 ≤ 5 by decide)) dL_law_122 ?_
  refine la_I hF hw (c1_fill l G a σ (xs (nI (6 * k) + nI 1).toNatClampNeg) (xs (nI (6 * k) + nI 2).toNatClampNeg) trivial) wv_L_13 (q0 := 0) rfl rfl rfl ⟨nd_X1.1, nd_X1.2, pd_X1_fill⟩ ⟨Nat.le_of_ble_eq_true rfl, Nat.le_of_ble_eq_true rfl⟩ ⟨by show 25 + k + 0 ≤ 600000; omega, by show 7457 + 8 * k + 0 ≤ 7302250; omega⟩ hl.1 rfl (Nat.le_of_ble_eq_true rfl) dL_law_123 (fun r1 u1 H locs hp hw => ?_)
  refine W.widen (k := 25 + (k + 1)) (n := 7457 + 8 * (k + 1)) (by show 25 + k + 0 ≤ _; omega) (by show 7457 + 8 * k + 0 ≤ _; omega) ?_
  obtain ⟨er1, eu1⟩ := hp
  rw [eu1] at hw
  have hw := hw.sw
  refine lv_aload_n hF.x hF.b dL_law_126 rfl (lv_at hl 2 rfl) ?_
  refine lv_aload_n hF.x hF.b dL_law_127 rfl (lv_at hl 0 rfl) ?_
  refine lv_iload_n hF.x hF.b dL_law_128 rfl (lv_at hl 3 rfl) ?_
  refine lv_iconst (v := nI 1) hF.x hF.b dL_law_129 (by decide) ?_
  refine lv_iadd hF.x hF.b dL_law_130 ?_
  refine va_sld hF.x hF.b hX hbl (Nat.not_le.mpr hbl) hw.2.2.2.1 (la_in hk hL (show 1 ≤ 5 by decide)) dL_law_131 ?_
  refine lv_aload_n hF.x hF.b dL_law_132 rfl (lv_at hl 0 rfl) ?_
  refine lv_iload_n hF.x hF.b dL_law_133 rfl (lv_at hl 3 rfl) ?_
  refine lv_iconst (v := nI 2) hF.x hF.b dL_law_134 (by decide) ?_
  refine lv_iadd hF.x hF.b dL_law_135 ?_
  refine va_sld hF.x hF.b hX hbl (Nat.not_le.mpr hbl) hw.2.2.2.1 (la_in hk hL (show 2 ≤ 5 by decide)) dL_law_136 ?_
  refine la_I hF hw (c2_fill l G a2 τ (xs (nI (6 * k) + nI 1).toNatClampNeg) (xs (nI (6 * k) + nI 2).toNatClampNeg) (S_fill hS (xs (nI (6 * k) + nI 1).toNatClampNeg) (xs (nI (6 * k) + nI 2).toNatClampNeg))) wv_L_17 (q0 := 0) rfl rfl rfl ⟨nd_X2.1, nd_X2.2, pd_X2_fill⟩ ⟨Nat.le_of_ble_eq_true rfl, Nat.le_of_ble_eq_true rfl⟩ ⟨by show 25 + (k + 1) + 0 ≤ 600000; omega, by show 7457 + 8 * (k + 1) + 0 ≤ 7302250; omega⟩ hl.1 rfl (Nat.le_of_ble_eq_true rfl) dL_law_137 (fun r2 τ1 H locs hp hw => ?_)
  have hw := hw.sw
  refine lv_icmp_eq (tgt := 580) hF.x hF.b dL_law_140 (by decide) (fun _ => ?_) (fun q => absurd (er1.trans hp.1.symm) q)
  exact la_tail (a := a) hF hK hp.2 rfl rfl hw hl
set_option maxHeartbeats 4000000 in
set_option maxRecDepth 100000 in
theorem la_basin (hF : fx p s m #[Value.ref b] meth c cL_law 4 RL c0 ret) (hX : va_X b L xs s s.heap) (hbl : b < s.heap.size) (hL : L ≤ 3072) (hk : 6 * k + 5 < L) (hK : lK p l e s m below meth c b G q1 q2 (k + 1)) (hS : Sim k σ τ) (ha : a.1 13 = q1) (ha2 : a2 26 = q2) (hw : wb G (lA s) s (wX G a σ ++ wM G a2 τ) H locs) (hl : lv_has ls 4 (lLv b q1 q2 k)) : W p l e room_1 s m #[Value.ref b] below meth c H locs (25 + k) (7457 + 8 * k) (lw_Z below #[Value.ref b] s) (F0 m 145 ls []) := by
  subst ha; subst ha2
  refine lv_aload_n hF.x hF.b dL_law_145 rfl (lv_at hl 1 rfl) ?_
  refine lv_aload_n hF.x hF.b dL_law_146 rfl (lv_at hl 0 rfl) ?_
  refine lv_iload_n hF.x hF.b dL_law_147 rfl (lv_at hl 3 rfl) ?_
  refine lv_iconst (v := nI 1) hF.x hF.b dL_law_148 (by decide) ?_
  refine lv_iadd hF.x hF.b dL_law_149 ?_
  refine va_sld hF.x hF.b hX hbl (Nat.not_le.mpr hbl) hw.2.2.2.1 (la_in hk hL (show 1 ≤ 5 by decide)) dL_law_150 ?_
  refine la_I hF hw (c1_basin l G a σ (xs (nI (6 * k) + nI 1).toNatClampNeg) trivial) wv_L_18 (q0 := 0) rfl rfl rfl ⟨nd_X1.1, nd_X1.2, pd_X1_basin⟩ ⟨Nat.le_of_ble_eq_true rfl, Nat.le_of_ble_eq_true rfl⟩ ⟨by show 25 + k + 0 ≤ 600000; omega, by show 7457 + 8 * k + 0 ≤ 7302250; omega⟩ hl.1 rfl (Nat.le_of_ble_eq_true rfl) dL_law_151 (fun r1 u1 H locs hp hw => ?_)
  refine W.widen (k := 25 + (k + 1)) (n := 7457 + 8 * (k + 1)) (by show 25 + k + 0 ≤ _; omega) (by show 7457 + 8 * k + 0 ≤ _; omega) ?_
  obtain ⟨er1, eu1⟩ := hp
  rw [eu1] at hw
  have hw := hw.sw
  refine lv_aload_n hF.x hF.b dL_law_154 rfl (lv_at hl 2 rfl) ?_
  refine lv_aload_n hF.x hF.b dL_law_155 rfl (lv_at hl 0 rfl) ?_
  refine lv_iload_n hF.x hF.b dL_law_156 rfl (lv_at hl 3 rfl) ?_
  refine lv_iconst (v := nI 1) hF.x hF.b dL_law_157 (by decide) ?_
  refine lv_iadd hF.x hF.b dL_law_158 ?_
  refine va_sld hF.x hF.b hX hbl (Nat.not_le.mpr hbl) hw.2.2.2.1 (la_in hk hL (show 1 ≤ 5 by decide)) dL_law_159 ?_
  refine la_I hF hw (c2_basin l G a2 τ (xs (nI (6 * k) + nI 1).toNatClampNeg) (S_basin hS (xs (nI (6 * k) + nI 1).toNatClampNeg))) wv_L_22 (q0 := 0) rfl rfl rfl ⟨nd_X2.1, nd_X2.2, pd_X2_basin⟩ ⟨Nat.le_of_ble_eq_true rfl, Nat.le_of_ble_eq_true rfl⟩ ⟨by show 25 + (k + 1) + 0 ≤ 600000; omega, by show 7457 + 8 * (k + 1) + 0 ≤ 7302250; omega⟩ hl.1 rfl (Nat.le_of_ble_eq_true rfl) dL_law_160 (fun r2 τ1 H locs hp hw => ?_)
  have hw := hw.sw
  refine lv_icmp_eq (tgt := 580) hF.x hF.b dL_law_163 (by decide) (fun _ => ?_) (fun q => absurd (er1.trans hp.1.symm) q)
  exact la_tail (a := a) hF hK hp.2 rfl rfl hw hl
set_option maxHeartbeats 4000000 in
set_option maxRecDepth 100000 in
theorem la_gauge (hF : fx p s m #[Value.ref b] meth c cL_law 4 RL c0 ret) (hX : va_X b L xs s s.heap) (hbl : b < s.heap.size) (hL : L ≤ 3072) (hk : 6 * k + 5 < L) (hK : lK p l e s m below meth c b G q1 q2 (k + 1)) (hS : Sim k σ τ) (ha : a.1 13 = q1) (ha2 : a2 26 = q2) (hw : wb G (lA s) s (wX G a σ ++ wM G a2 τ) H locs) (hl : lv_has ls 4 (lLv b q1 q2 k)) : W p l e room_1 s m #[Value.ref b] below meth c H locs (25 + k) (7457 + 8 * k) (lw_Z below #[Value.ref b] s) (F0 m 168 ls []) := by
  subst ha; subst ha2
  refine lv_aload_n hF.x hF.b dL_law_168 rfl (lv_at hl 1 rfl) ?_
  refine lv_aload_n hF.x hF.b dL_law_169 rfl (lv_at hl 0 rfl) ?_
  refine lv_iload_n hF.x hF.b dL_law_170 rfl (lv_at hl 3 rfl) ?_
  refine lv_iconst (v := nI 1) hF.x hF.b dL_law_171 (by decide) ?_
  refine lv_iadd hF.x hF.b dL_law_172 ?_
  refine va_sld hF.x hF.b hX hbl (Nat.not_le.mpr hbl) hw.2.2.2.1 (la_in hk hL (show 1 ≤ 5 by decide)) dL_law_173 ?_
  refine lv_aload_n hF.x hF.b dL_law_174 rfl (lv_at hl 0 rfl) ?_
  refine lv_iload_n hF.x hF.b dL_law_175 rfl (lv_at hl 3 rfl) ?_
  refine lv_iconst (v := nI 2) hF.x hF.b dL_law_176 (by decide) ?_
  refine lv_iadd hF.x hF.b dL_law_177 ?_
  refine va_sld hF.x hF.b hX hbl (Nat.not_le.mpr hbl) hw.2.2.2.1 (la_in hk hL (show 2 ≤ 5 by decide)) dL_law_178 ?_
  refine la_I hF hw (c1_gauge l G a σ (xs (nI (6 * k) + nI 1).toNatClampNeg) (xs (nI (6 * k) + nI 2).toNatClampNeg) hS.1.1) wv_L_23 (q0 := 0) rfl rfl rfl ⟨nd_X1.1, nd_X1.2, pd_X1_gauge⟩ ⟨Nat.le_of_ble_eq_true rfl, Nat.le_of_ble_eq_true rfl⟩ ⟨by show 25 + k + 1 ≤ 600000; omega, by show 7457 + 8 * k + 6 ≤ 7302250; omega⟩ hl.1 rfl (Nat.le_of_ble_eq_true rfl) dL_law_179 (fun r1 u1 H locs hp hw => ?_)
  refine W.widen (k := 25 + (k + 1)) (n := 7457 + 8 * (k + 1)) (by show 25 + k + 1 ≤ _; omega) (by show 7457 + 8 * k + 6 ≤ _; omega) ?_
  obtain ⟨⟨er1, eu1⟩, ea⟩ := hp
  rw [eu1] at hw
  have hw := hw.sw
  refine lv_aload_n hF.x hF.b dL_law_182 rfl (lv_at hl 2 rfl) ?_
  refine lv_aload_n hF.x hF.b dL_law_183 rfl (lv_at hl 0 rfl) ?_
  refine lv_iload_n hF.x hF.b dL_law_184 rfl (lv_at hl 3 rfl) ?_
  refine lv_iconst (v := nI 1) hF.x hF.b dL_law_185 (by decide) ?_
  refine lv_iadd hF.x hF.b dL_law_186 ?_
  refine va_sld hF.x hF.b hX hbl (Nat.not_le.mpr hbl) hw.2.2.2.1 (la_in hk hL (show 1 ≤ 5 by decide)) dL_law_187 ?_
  refine lv_aload_n hF.x hF.b dL_law_188 rfl (lv_at hl 0 rfl) ?_
  refine lv_iload_n hF.x hF.b dL_law_189 rfl (lv_at hl 3 rfl) ?_
  refine lv_iconst (v := nI 2) hF.x hF.b dL_law_190 (by decide) ?_
  refine lv_iadd hF.x hF.b dL_law_191 ?_
  refine va_sld hF.x hF.b hX hbl (Nat.not_le.mpr hbl) hw.2.2.2.1 (la_in hk hL (show 2 ≤ 5 by decide)) dL_law_192 ?_
  refine la_I hF hw (c2_gauge l G a2 τ (xs (nI (6 * k) + nI 1).toNatClampNeg) (xs (nI (6 * k) + nI 2).toNatClampNeg) (S_gauge hS (by omega) (xs (nI (6 * k) + nI 1).toNatClampNeg) (xs (nI (6 * k) + nI 2).toNatClampNeg))) wv_L_26 (q0 := 0) rfl rfl rfl ⟨nd_X2.1, nd_X2.2, pd_X2_gauge⟩ ⟨Nat.le_of_ble_eq_true rfl, Nat.le_of_ble_eq_true rfl⟩ ⟨by show 25 + (k + 1) + 0 ≤ 600000; omega, by show 7457 + 8 * (k + 1) + 0 ≤ 7302250; omega⟩ hl.1 rfl (Nat.le_of_ble_eq_true rfl) dL_law_193 (fun r2 τ1 H locs hp hw => ?_)
  have hw := hw.sw
  refine lv_icmp_eq (tgt := 580) hF.x hF.b dL_law_196 (by decide) (fun _ => ?_) (fun q => absurd (er1.trans hp.1.symm) q)
  exact la_tail (a := u1.1) hF hK hp.2 (by rw [ea]) rfl hw hl
set_option maxHeartbeats 4000000 in
set_option maxRecDepth 100000 in
theorem la_mark (hF : fx p s m #[Value.ref b] meth c cL_law 4 RL c0 ret) (hX : va_X b L xs s s.heap) (hbl : b < s.heap.size) (hL : L ≤ 3072) (hk : 6 * k + 5 < L) (hK : lK p l e s m below meth c b G q1 q2 (k + 1)) (hS : Sim k σ τ) (ha : a.1 13 = q1) (ha2 : a2 26 = q2) (hw : wb G (lA s) s (wX G a σ ++ wM G a2 τ) H locs) (hl : lv_has ls 4 (lLv b q1 q2 k)) : W p l e room_1 s m #[Value.ref b] below meth c H locs (25 + k) (7457 + 8 * k) (lw_Z below #[Value.ref b] s) (F0 m 201 ls []) := by
  subst ha; subst ha2
  refine lv_aload_n hF.x hF.b dL_law_201 rfl (lv_at hl 1 rfl) ?_
  refine lv_aload_n hF.x hF.b dL_law_202 rfl (lv_at hl 0 rfl) ?_
  refine lv_iload_n hF.x hF.b dL_law_203 rfl (lv_at hl 3 rfl) ?_
  refine lv_iconst (v := nI 1) hF.x hF.b dL_law_204 (by decide) ?_
  refine lv_iadd hF.x hF.b dL_law_205 ?_
  refine va_sld hF.x hF.b hX hbl (Nat.not_le.mpr hbl) hw.2.2.2.1 (la_in hk hL (show 1 ≤ 5 by decide)) dL_law_206 ?_
  refine lv_aload_n hF.x hF.b dL_law_207 rfl (lv_at hl 0 rfl) ?_
  refine lv_iload_n hF.x hF.b dL_law_208 rfl (lv_at hl 3 rfl) ?_
  refine lv_iconst (v := nI 2) hF.x hF.b dL_law_209 (by decide) ?_
  refine lv_iadd hF.x hF.b dL_law_210 ?_
  refine va_sld hF.x hF.b hX hbl (Nat.not_le.mpr hbl) hw.2.2.2.1 (la_in hk hL (show 2 ≤ 5 by decide)) dL_law_211 ?_
  refine la_I hF hw (c1_mark l G a σ (xs (nI (6 * k) + nI 1).toNatClampNeg) (xs (nI (6 * k) + nI 2).toNatClampNeg) hS.1.1) wv_L_27 (q0 := 0) rfl rfl rfl ⟨nd_X1.1, nd_X1.2, pd_X1_mark⟩ ⟨Nat.le_of_ble_eq_true rfl, Nat.le_of_ble_eq_true rfl⟩ ⟨by show 25 + k + 0 ≤ 600000; omega, by show 7457 + 8 * k + 0 ≤ 7302250; omega⟩ hl.1 rfl (Nat.le_of_ble_eq_true rfl) dL_law_212 (fun r1 u1 H locs hp hw => ?_)
  refine W.widen (k := 25 + (k + 1)) (n := 7457 + 8 * (k + 1)) (by show 25 + k + 0 ≤ _; omega) (by show 7457 + 8 * k + 0 ≤ _; omega) ?_
  obtain ⟨er1, eu1⟩ := hp
  rw [eu1] at hw
  have hw := hw.sw
  refine lv_aload_n hF.x hF.b dL_law_215 rfl (lv_at hl 2 rfl) ?_
  refine lv_aload_n hF.x hF.b dL_law_216 rfl (lv_at hl 0 rfl) ?_
  refine lv_iload_n hF.x hF.b dL_law_217 rfl (lv_at hl 3 rfl) ?_
  refine lv_iconst (v := nI 1) hF.x hF.b dL_law_218 (by decide) ?_
  refine lv_iadd hF.x hF.b dL_law_219 ?_
  refine va_sld hF.x hF.b hX hbl (Nat.not_le.mpr hbl) hw.2.2.2.1 (la_in hk hL (show 1 ≤ 5 by decide)) dL_law_220 ?_
  refine lv_aload_n hF.x hF.b dL_law_221 rfl (lv_at hl 0 rfl) ?_
  refine lv_iload_n hF.x hF.b dL_law_222 rfl (lv_at hl 3 rfl) ?_
  refine lv_iconst (v := nI 2) hF.x hF.b dL_law_223 (by decide) ?_
  refine lv_iadd hF.x hF.b dL_law_224 ?_
  refine va_sld hF.x hF.b hX hbl (Nat.not_le.mpr hbl) hw.2.2.2.1 (la_in hk hL (show 2 ≤ 5 by decide)) dL_law_225 ?_
  refine la_I hF hw (c2_mark l G a2 τ (xs (nI (6 * k) + nI 1).toNatClampNeg) (xs (nI (6 * k) + nI 2).toNatClampNeg) (S_mark hS (xs (nI (6 * k) + nI 1).toNatClampNeg) (xs (nI (6 * k) + nI 2).toNatClampNeg))) wv_L_30 (q0 := 0) rfl rfl rfl ⟨nd_X2.1, nd_X2.2, pd_X2_mark⟩ ⟨Nat.le_of_ble_eq_true rfl, Nat.le_of_ble_eq_true rfl⟩ ⟨by show 25 + (k + 1) + 0 ≤ 600000; omega, by show 7457 + 8 * (k + 1) + 0 ≤ 7302250; omega⟩ hl.1 rfl (Nat.le_of_ble_eq_true rfl) dL_law_226 (fun r2 τ1 H locs hp hw => ?_)
  have hw := hw.sw
  refine lv_icmp_eq (tgt := 580) hF.x hF.b dL_law_229 (by decide) (fun _ => ?_) (fun q => absurd (er1.trans hp.1.symm) q)
  exact la_tail (a := a) hF hK hp.2 rfl rfl hw hl
set_option maxHeartbeats 4000000 in
set_option maxRecDepth 100000 in
theorem la_deed (hF : fx p s m #[Value.ref b] meth c cL_law 4 RL c0 ret) (hX : va_X b L xs s s.heap) (hbl : b < s.heap.size) (hL : L ≤ 3072) (hk : 6 * k + 5 < L) (hK : lK p l e s m below meth c b G q1 q2 (k + 1)) (hS : Sim k σ τ) (ha : a.1 13 = q1) (ha2 : a2 26 = q2) (hw : wb G (lA s) s (wX G a σ ++ wM G a2 τ) H locs) (hl : lv_has ls 4 (lLv b q1 q2 k)) : W p l e room_1 s m #[Value.ref b] below meth c H locs (25 + k) (7457 + 8 * k) (lw_Z below #[Value.ref b] s) (F0 m 234 ls []) := by
  subst ha; subst ha2
  refine lv_aload_n hF.x hF.b dL_law_234 rfl (lv_at hl 1 rfl) ?_
  refine lv_aload_n hF.x hF.b dL_law_235 rfl (lv_at hl 0 rfl) ?_
  refine lv_iload_n hF.x hF.b dL_law_236 rfl (lv_at hl 3 rfl) ?_
  refine lv_iconst (v := nI 1) hF.x hF.b dL_law_237 (by decide) ?_
  refine lv_iadd hF.x hF.b dL_law_238 ?_
  refine va_sld hF.x hF.b hX hbl (Nat.not_le.mpr hbl) hw.2.2.2.1 (la_in hk hL (show 1 ≤ 5 by decide)) dL_law_239 ?_
  refine lv_aload_n hF.x hF.b dL_law_240 rfl (lv_at hl 0 rfl) ?_
  refine lv_iload_n hF.x hF.b dL_law_241 rfl (lv_at hl 3 rfl) ?_
  refine lv_iconst (v := nI 2) hF.x hF.b dL_law_242 (by decide) ?_
  refine lv_iadd hF.x hF.b dL_law_243 ?_
  refine va_sld hF.x hF.b hX hbl (Nat.not_le.mpr hbl) hw.2.2.2.1 (la_in hk hL (show 2 ≤ 5 by decide)) dL_law_244 ?_
  refine lv_aload_n hF.x hF.b dL_law_245 rfl (lv_at hl 0 rfl) ?_
  refine lv_iload_n hF.x hF.b dL_law_246 rfl (lv_at hl 3 rfl) ?_
  refine lv_iconst (v := nI 3) hF.x hF.b dL_law_247 (by decide) ?_
  refine lv_iadd hF.x hF.b dL_law_248 ?_
  refine va_sld hF.x hF.b hX hbl (Nat.not_le.mpr hbl) hw.2.2.2.1 (la_in hk hL (show 3 ≤ 5 by decide)) dL_law_249 ?_
  refine lv_aload_n hF.x hF.b dL_law_250 rfl (lv_at hl 0 rfl) ?_
  refine lv_iload_n hF.x hF.b dL_law_251 rfl (lv_at hl 3 rfl) ?_
  refine lv_iconst (v := nI 4) hF.x hF.b dL_law_252 (by decide) ?_
  refine lv_iadd hF.x hF.b dL_law_253 ?_
  refine va_sld hF.x hF.b hX hbl (Nat.not_le.mpr hbl) hw.2.2.2.1 (la_in hk hL (show 4 ≤ 5 by decide)) dL_law_254 ?_
  refine lv_aload_n hF.x hF.b dL_law_255 rfl (lv_at hl 0 rfl) ?_
  refine lv_iload_n hF.x hF.b dL_law_256 rfl (lv_at hl 3 rfl) ?_
  refine lv_iconst (v := nI 5) hF.x hF.b dL_law_257 (by decide) ?_
  refine lv_iadd hF.x hF.b dL_law_258 ?_
  refine va_sld hF.x hF.b hX hbl (Nat.not_le.mpr hbl) hw.2.2.2.1 (la_in hk hL (show 5 ≤ 5 by decide)) dL_law_259 ?_
  refine la_I hF hw (c1_deed l G a σ (xs (nI (6 * k) + nI 1).toNatClampNeg) (xs (nI (6 * k) + nI 2).toNatClampNeg) (xs (nI (6 * k) + nI 3).toNatClampNeg) (xs (nI (6 * k) + nI 4).toNatClampNeg) (xs (nI (6 * k) + nI 5).toNatClampNeg) hS.1.1) wv_L_31 (q0 := 0) rfl rfl rfl ⟨nd_X1.1, nd_X1.2, pd_X1_deed⟩ ⟨Nat.le_of_ble_eq_true rfl, Nat.le_of_ble_eq_true rfl⟩ ⟨by show 25 + k + 1 ≤ 600000; omega, by show 7457 + 8 * k + 8 ≤ 7302250; omega⟩ hl.1 rfl (Nat.le_of_ble_eq_true rfl) dL_law_260 (fun r1 u1 H locs hp hw => ?_)
  refine W.widen (k := 25 + (k + 1)) (n := 7457 + 8 * (k + 1)) (by show 25 + k + 1 ≤ _; omega) (by show 7457 + 8 * k + 8 ≤ _; omega) ?_
  obtain ⟨⟨er1, eu1⟩, ea⟩ := hp
  rw [eu1] at hw
  have hw := hw.sw
  refine lv_aload_n hF.x hF.b dL_law_263 rfl (lv_at hl 2 rfl) ?_
  refine lv_aload_n hF.x hF.b dL_law_264 rfl (lv_at hl 0 rfl) ?_
  refine lv_iload_n hF.x hF.b dL_law_265 rfl (lv_at hl 3 rfl) ?_
  refine lv_iconst (v := nI 1) hF.x hF.b dL_law_266 (by decide) ?_
  refine lv_iadd hF.x hF.b dL_law_267 ?_
  refine va_sld hF.x hF.b hX hbl (Nat.not_le.mpr hbl) hw.2.2.2.1 (la_in hk hL (show 1 ≤ 5 by decide)) dL_law_268 ?_
  refine lv_aload_n hF.x hF.b dL_law_269 rfl (lv_at hl 0 rfl) ?_
  refine lv_iload_n hF.x hF.b dL_law_270 rfl (lv_at hl 3 rfl) ?_
  refine lv_iconst (v := nI 2) hF.x hF.b dL_law_271 (by decide) ?_
  refine lv_iadd hF.x hF.b dL_law_272 ?_
  refine va_sld hF.x hF.b hX hbl (Nat.not_le.mpr hbl) hw.2.2.2.1 (la_in hk hL (show 2 ≤ 5 by decide)) dL_law_273 ?_
  refine lv_aload_n hF.x hF.b dL_law_274 rfl (lv_at hl 0 rfl) ?_
  refine lv_iload_n hF.x hF.b dL_law_275 rfl (lv_at hl 3 rfl) ?_
  refine lv_iconst (v := nI 3) hF.x hF.b dL_law_276 (by decide) ?_
  refine lv_iadd hF.x hF.b dL_law_277 ?_
  refine va_sld hF.x hF.b hX hbl (Nat.not_le.mpr hbl) hw.2.2.2.1 (la_in hk hL (show 3 ≤ 5 by decide)) dL_law_278 ?_
  refine lv_aload_n hF.x hF.b dL_law_279 rfl (lv_at hl 0 rfl) ?_
  refine lv_iload_n hF.x hF.b dL_law_280 rfl (lv_at hl 3 rfl) ?_
  refine lv_iconst (v := nI 4) hF.x hF.b dL_law_281 (by decide) ?_
  refine lv_iadd hF.x hF.b dL_law_282 ?_
  refine va_sld hF.x hF.b hX hbl (Nat.not_le.mpr hbl) hw.2.2.2.1 (la_in hk hL (show 4 ≤ 5 by decide)) dL_law_283 ?_
  refine lv_aload_n hF.x hF.b dL_law_284 rfl (lv_at hl 0 rfl) ?_
  refine lv_iload_n hF.x hF.b dL_law_285 rfl (lv_at hl 3 rfl) ?_
  refine lv_iconst (v := nI 5) hF.x hF.b dL_law_286 (by decide) ?_
  refine lv_iadd hF.x hF.b dL_law_287 ?_
  refine va_sld hF.x hF.b hX hbl (Nat.not_le.mpr hbl) hw.2.2.2.1 (la_in hk hL (show 5 ≤ 5 by decide)) dL_law_288 ?_
  refine la_I hF hw (c2_deed l G a2 τ (xs (nI (6 * k) + nI 1).toNatClampNeg) (xs (nI (6 * k) + nI 2).toNatClampNeg) (xs (nI (6 * k) + nI 3).toNatClampNeg) (xs (nI (6 * k) + nI 4).toNatClampNeg) (xs (nI (6 * k) + nI 5).toNatClampNeg) (S_deed hS (by omega) (xs (nI (6 * k) + nI 1).toNatClampNeg) (xs (nI (6 * k) + nI 2).toNatClampNeg) (xs (nI (6 * k) + nI 3).toNatClampNeg) (xs (nI (6 * k) + nI 4).toNatClampNeg) (xs (nI (6 * k) + nI 5).toNatClampNeg))) wv_L_35 (q0 := 0) rfl rfl rfl ⟨nd_X2.1, nd_X2.2, pd_X2_deed⟩ ⟨Nat.le_of_ble_eq_true rfl, Nat.le_of_ble_eq_true rfl⟩ ⟨by show 25 + (k + 1) + 0 ≤ 600000; omega, by show 7457 + 8 * (k + 1) + 0 ≤ 7302250; omega⟩ hl.1 rfl (Nat.le_of_ble_eq_true rfl) dL_law_289 (fun r2 τ1 H locs hp hw => ?_)
  have hw := hw.sw
  refine lv_icmp_eq (tgt := 580) hF.x hF.b dL_law_292 (by decide) (fun _ => ?_) (fun q => absurd (er1.trans hp.1.symm) q)
  exact la_tail (a := u1.1) hF hK hp.2 (by rw [ea]) rfl hw hl
set_option maxHeartbeats 4000000 in
set_option maxRecDepth 100000 in
theorem la_copy (hF : fx p s m #[Value.ref b] meth c cL_law 4 RL c0 ret) (hX : va_X b L xs s s.heap) (hbl : b < s.heap.size) (hL : L ≤ 3072) (hk : 6 * k + 5 < L) (hK : lK p l e s m below meth c b G q1 q2 (k + 1)) (hS : Sim k σ τ) (ha : a.1 13 = q1) (ha2 : a2 26 = q2) (hw : wb G (lA s) s (wX G a σ ++ wM G a2 τ) H locs) (hl : lv_has ls 4 (lLv b q1 q2 k)) : W p l e room_1 s m #[Value.ref b] below meth c H locs (25 + k) (7457 + 8 * k) (lw_Z below #[Value.ref b] s) (F0 m 297 ls []) := by
  subst ha; subst ha2
  refine lv_aload_n hF.x hF.b dL_law_297 rfl (lv_at hl 1 rfl) ?_
  refine lv_aload_n hF.x hF.b dL_law_298 rfl (lv_at hl 0 rfl) ?_
  refine lv_iload_n hF.x hF.b dL_law_299 rfl (lv_at hl 3 rfl) ?_
  refine lv_iconst (v := nI 1) hF.x hF.b dL_law_300 (by decide) ?_
  refine lv_iadd hF.x hF.b dL_law_301 ?_
  refine va_sld hF.x hF.b hX hbl (Nat.not_le.mpr hbl) hw.2.2.2.1 (la_in hk hL (show 1 ≤ 5 by decide)) dL_law_302 ?_
  refine lv_aload_n hF.x hF.b dL_law_303 rfl (lv_at hl 0 rfl) ?_
  refine lv_iload_n hF.x hF.b dL_law_304 rfl (lv_at hl 3 rfl) ?_
  refine lv_iconst (v := nI 2) hF.x hF.b dL_law_305 (by decide) ?_
  refine lv_iadd hF.x hF.b dL_law_306 ?_
  refine va_sld hF.x hF.b hX hbl (Nat.not_le.mpr hbl) hw.2.2.2.1 (la_in hk hL (show 2 ≤ 5 by decide)) dL_law_307 ?_
  refine la_I hF hw (c1_copy l G a σ (xs (nI (6 * k) + nI 1).toNatClampNeg) (xs (nI (6 * k) + nI 2).toNatClampNeg) hS.1.1) wv_L_36 (q0 := 0) rfl rfl rfl ⟨nd_X1.1, nd_X1.2, pd_X1_copy⟩ ⟨Nat.le_of_ble_eq_true rfl, Nat.le_of_ble_eq_true rfl⟩ ⟨by show 25 + k + 0 ≤ 600000; omega, by show 7457 + 8 * k + 0 ≤ 7302250; omega⟩ hl.1 rfl (Nat.le_of_ble_eq_true rfl) dL_law_308 (fun r1 u1 H locs hp hw => ?_)
  refine W.widen (k := 25 + (k + 1)) (n := 7457 + 8 * (k + 1)) (by show 25 + k + 0 ≤ _; omega) (by show 7457 + 8 * k + 0 ≤ _; omega) ?_
  obtain ⟨er1, eu1⟩ := hp
  rw [eu1] at hw
  have hw := hw.sw
  refine lv_aload_n hF.x hF.b dL_law_311 rfl (lv_at hl 2 rfl) ?_
  refine lv_aload_n hF.x hF.b dL_law_312 rfl (lv_at hl 0 rfl) ?_
  refine lv_iload_n hF.x hF.b dL_law_313 rfl (lv_at hl 3 rfl) ?_
  refine lv_iconst (v := nI 1) hF.x hF.b dL_law_314 (by decide) ?_
  refine lv_iadd hF.x hF.b dL_law_315 ?_
  refine va_sld hF.x hF.b hX hbl (Nat.not_le.mpr hbl) hw.2.2.2.1 (la_in hk hL (show 1 ≤ 5 by decide)) dL_law_316 ?_
  refine lv_aload_n hF.x hF.b dL_law_317 rfl (lv_at hl 0 rfl) ?_
  refine lv_iload_n hF.x hF.b dL_law_318 rfl (lv_at hl 3 rfl) ?_
  refine lv_iconst (v := nI 2) hF.x hF.b dL_law_319 (by decide) ?_
  refine lv_iadd hF.x hF.b dL_law_320 ?_
  refine va_sld hF.x hF.b hX hbl (Nat.not_le.mpr hbl) hw.2.2.2.1 (la_in hk hL (show 2 ≤ 5 by decide)) dL_law_321 ?_
  refine la_I hF hw (c2_copy l G a2 τ (xs (nI (6 * k) + nI 1).toNatClampNeg) (xs (nI (6 * k) + nI 2).toNatClampNeg) (S_copy hS (xs (nI (6 * k) + nI 1).toNatClampNeg) (xs (nI (6 * k) + nI 2).toNatClampNeg))) wv_L_39 (q0 := 0) rfl rfl rfl ⟨nd_X2.1, nd_X2.2, pd_X2_copy⟩ ⟨Nat.le_of_ble_eq_true rfl, Nat.le_of_ble_eq_true rfl⟩ ⟨by show 25 + (k + 1) + 0 ≤ 600000; omega, by show 7457 + 8 * (k + 1) + 0 ≤ 7302250; omega⟩ hl.1 rfl (Nat.le_of_ble_eq_true rfl) dL_law_322 (fun r2 τ1 H locs hp hw => ?_)
  have hw := hw.sw
  refine lv_icmp_eq (tgt := 580) hF.x hF.b dL_law_325 (by decide) (fun _ => ?_) (fun q => absurd (er1.trans hp.1.symm) q)
  exact la_tail (a := a) hF hK hp.2 rfl rfl hw hl
set_option maxHeartbeats 4000000 in
set_option maxRecDepth 100000 in
theorem la_drop (hF : fx p s m #[Value.ref b] meth c cL_law 4 RL c0 ret) (hX : va_X b L xs s s.heap) (hbl : b < s.heap.size) (hL : L ≤ 3072) (hk : 6 * k + 5 < L) (hK : lK p l e s m below meth c b G q1 q2 (k + 1)) (hS : Sim k σ τ) (ha : a.1 13 = q1) (ha2 : a2 26 = q2) (hw : wb G (lA s) s (wX G a σ ++ wM G a2 τ) H locs) (hl : lv_has ls 4 (lLv b q1 q2 k)) : W p l e room_1 s m #[Value.ref b] below meth c H locs (25 + k) (7457 + 8 * k) (lw_Z below #[Value.ref b] s) (F0 m 330 ls []) := by
  subst ha; subst ha2
  refine lv_aload_n hF.x hF.b dL_law_330 rfl (lv_at hl 1 rfl) ?_
  refine lv_aload_n hF.x hF.b dL_law_331 rfl (lv_at hl 0 rfl) ?_
  refine lv_iload_n hF.x hF.b dL_law_332 rfl (lv_at hl 3 rfl) ?_
  refine lv_iconst (v := nI 1) hF.x hF.b dL_law_333 (by decide) ?_
  refine lv_iadd hF.x hF.b dL_law_334 ?_
  refine va_sld hF.x hF.b hX hbl (Nat.not_le.mpr hbl) hw.2.2.2.1 (la_in hk hL (show 1 ≤ 5 by decide)) dL_law_335 ?_
  refine la_I hF hw (c1_drop l G a σ (xs (nI (6 * k) + nI 1).toNatClampNeg) hS.1.1) wv_L_40 (q0 := 0) rfl rfl rfl ⟨nd_X1.1, nd_X1.2, pd_X1_drop⟩ ⟨Nat.le_of_ble_eq_true rfl, Nat.le_of_ble_eq_true rfl⟩ ⟨by show 25 + k + 0 ≤ 600000; omega, by show 7457 + 8 * k + 0 ≤ 7302250; omega⟩ hl.1 rfl (Nat.le_of_ble_eq_true rfl) dL_law_336 (fun r1 u1 H locs hp hw => ?_)
  refine W.widen (k := 25 + (k + 1)) (n := 7457 + 8 * (k + 1)) (by show 25 + k + 0 ≤ _; omega) (by show 7457 + 8 * k + 0 ≤ _; omega) ?_
  obtain ⟨er1, eu1⟩ := hp
  rw [eu1] at hw
  have hw := hw.sw
  refine lv_aload_n hF.x hF.b dL_law_339 rfl (lv_at hl 2 rfl) ?_
  refine lv_aload_n hF.x hF.b dL_law_340 rfl (lv_at hl 0 rfl) ?_
  refine lv_iload_n hF.x hF.b dL_law_341 rfl (lv_at hl 3 rfl) ?_
  refine lv_iconst (v := nI 1) hF.x hF.b dL_law_342 (by decide) ?_
  refine lv_iadd hF.x hF.b dL_law_343 ?_
  refine va_sld hF.x hF.b hX hbl (Nat.not_le.mpr hbl) hw.2.2.2.1 (la_in hk hL (show 1 ≤ 5 by decide)) dL_law_344 ?_
  refine la_I hF hw (c2_drop l G a2 τ (xs (nI (6 * k) + nI 1).toNatClampNeg) (S_drop hS (xs (nI (6 * k) + nI 1).toNatClampNeg))) wv_L_43 (q0 := 0) rfl rfl rfl ⟨nd_X2.1, nd_X2.2, pd_X2_drop⟩ ⟨Nat.le_of_ble_eq_true rfl, Nat.le_of_ble_eq_true rfl⟩ ⟨by show 25 + (k + 1) + 0 ≤ 600000; omega, by show 7457 + 8 * (k + 1) + 0 ≤ 7302250; omega⟩ hl.1 rfl (Nat.le_of_ble_eq_true rfl) dL_law_345 (fun r2 τ1 H locs hp hw => ?_)
  have hw := hw.sw
  refine lv_icmp_eq (tgt := 580) hF.x hF.b dL_law_348 (by decide) (fun _ => ?_) (fun q => absurd (er1.trans hp.1.symm) q)
  exact la_tail (a := a) hF hK hp.2 rfl rfl hw hl
set_option maxHeartbeats 4000000 in
set_option maxRecDepth 100000 in
theorem la_lever (hF : fx p s m #[Value.ref b] meth c cL_law 4 RL c0 ret) (hX : va_X b L xs s s.heap) (hbl : b < s.heap.size) (hL : L ≤ 3072) (hk : 6 * k + 5 < L) (hK : lK p l e s m below meth c b G q1 q2 (k + 1)) (hS : Sim k σ τ) (ha : a.1 13 = q1) (ha2 : a2 26 = q2) (hw : wb G (lA s) s (wX G a σ ++ wM G a2 τ) H locs) (hl : lv_has ls 4 (lLv b q1 q2 k)) : W p l e room_1 s m #[Value.ref b] below meth c H locs (25 + k) (7457 + 8 * k) (lw_Z below #[Value.ref b] s) (F0 m 353 ls []) := by
  subst ha; subst ha2
  refine lv_aload_n hF.x hF.b dL_law_353 rfl (lv_at hl 1 rfl) ?_
  refine lv_aload_n hF.x hF.b dL_law_354 rfl (lv_at hl 0 rfl) ?_
  refine lv_iload_n hF.x hF.b dL_law_355 rfl (lv_at hl 3 rfl) ?_
  refine lv_iconst (v := nI 1) hF.x hF.b dL_law_356 (by decide) ?_
  refine lv_iadd hF.x hF.b dL_law_357 ?_
  refine va_sld hF.x hF.b hX hbl (Nat.not_le.mpr hbl) hw.2.2.2.1 (la_in hk hL (show 1 ≤ 5 by decide)) dL_law_358 ?_
  refine lv_aload_n hF.x hF.b dL_law_359 rfl (lv_at hl 0 rfl) ?_
  refine lv_iload_n hF.x hF.b dL_law_360 rfl (lv_at hl 3 rfl) ?_
  refine lv_iconst (v := nI 2) hF.x hF.b dL_law_361 (by decide) ?_
  refine lv_iadd hF.x hF.b dL_law_362 ?_
  refine va_sld hF.x hF.b hX hbl (Nat.not_le.mpr hbl) hw.2.2.2.1 (la_in hk hL (show 2 ≤ 5 by decide)) dL_law_363 ?_
  refine lv_aload_n hF.x hF.b dL_law_364 rfl (lv_at hl 0 rfl) ?_
  refine lv_iload_n hF.x hF.b dL_law_365 rfl (lv_at hl 3 rfl) ?_
  refine lv_iconst (v := nI 3) hF.x hF.b dL_law_366 (by decide) ?_
  refine lv_iadd hF.x hF.b dL_law_367 ?_
  refine va_sld hF.x hF.b hX hbl (Nat.not_le.mpr hbl) hw.2.2.2.1 (la_in hk hL (show 3 ≤ 5 by decide)) dL_law_368 ?_
  refine la_I hF hw (c1_lever l G a σ (xs (nI (6 * k) + nI 1).toNatClampNeg) (xs (nI (6 * k) + nI 2).toNatClampNeg) (xs (nI (6 * k) + nI 3).toNatClampNeg) hS.1.1) wv_L_44 (q0 := 0) rfl rfl rfl ⟨nd_X1.1, nd_X1.2, pd_X1_lever⟩ ⟨Nat.le_of_ble_eq_true rfl, Nat.le_of_ble_eq_true rfl⟩ ⟨by show 25 + k + 0 ≤ 600000; omega, by show 7457 + 8 * k + 0 ≤ 7302250; omega⟩ hl.1 rfl (Nat.le_of_ble_eq_true rfl) dL_law_369 (fun r1 u1 H locs hp hw => ?_)
  refine W.widen (k := 25 + (k + 1)) (n := 7457 + 8 * (k + 1)) (by show 25 + k + 0 ≤ _; omega) (by show 7457 + 8 * k + 0 ≤ _; omega) ?_
  obtain ⟨er1, eu1⟩ := hp
  rw [eu1] at hw
  have hw := hw.sw
  refine lv_aload_n hF.x hF.b dL_law_372 rfl (lv_at hl 2 rfl) ?_
  refine lv_aload_n hF.x hF.b dL_law_373 rfl (lv_at hl 0 rfl) ?_
  refine lv_iload_n hF.x hF.b dL_law_374 rfl (lv_at hl 3 rfl) ?_
  refine lv_iconst (v := nI 1) hF.x hF.b dL_law_375 (by decide) ?_
  refine lv_iadd hF.x hF.b dL_law_376 ?_
  refine va_sld hF.x hF.b hX hbl (Nat.not_le.mpr hbl) hw.2.2.2.1 (la_in hk hL (show 1 ≤ 5 by decide)) dL_law_377 ?_
  refine lv_aload_n hF.x hF.b dL_law_378 rfl (lv_at hl 0 rfl) ?_
  refine lv_iload_n hF.x hF.b dL_law_379 rfl (lv_at hl 3 rfl) ?_
  refine lv_iconst (v := nI 2) hF.x hF.b dL_law_380 (by decide) ?_
  refine lv_iadd hF.x hF.b dL_law_381 ?_
  refine va_sld hF.x hF.b hX hbl (Nat.not_le.mpr hbl) hw.2.2.2.1 (la_in hk hL (show 2 ≤ 5 by decide)) dL_law_382 ?_
  refine lv_aload_n hF.x hF.b dL_law_383 rfl (lv_at hl 0 rfl) ?_
  refine lv_iload_n hF.x hF.b dL_law_384 rfl (lv_at hl 3 rfl) ?_
  refine lv_iconst (v := nI 3) hF.x hF.b dL_law_385 (by decide) ?_
  refine lv_iadd hF.x hF.b dL_law_386 ?_
  refine va_sld hF.x hF.b hX hbl (Nat.not_le.mpr hbl) hw.2.2.2.1 (la_in hk hL (show 3 ≤ 5 by decide)) dL_law_387 ?_
  refine la_I hF hw (c2_lever l G a2 τ (xs (nI (6 * k) + nI 1).toNatClampNeg) (xs (nI (6 * k) + nI 2).toNatClampNeg) (xs (nI (6 * k) + nI 3).toNatClampNeg) (S_lever hS (xs (nI (6 * k) + nI 1).toNatClampNeg) (xs (nI (6 * k) + nI 2).toNatClampNeg) (xs (nI (6 * k) + nI 3).toNatClampNeg))) wv_L_48 (q0 := 0) rfl rfl rfl ⟨nd_X2.1, nd_X2.2, pd_X2_lever⟩ ⟨Nat.le_of_ble_eq_true rfl, Nat.le_of_ble_eq_true rfl⟩ ⟨by show 25 + (k + 1) + 0 ≤ 600000; omega, by show 7457 + 8 * (k + 1) + 0 ≤ 7302250; omega⟩ hl.1 rfl (Nat.le_of_ble_eq_true rfl) dL_law_388 (fun r2 τ1 H locs hp hw => ?_)
  have hw := hw.sw
  refine lv_icmp_eq (tgt := 580) hF.x hF.b dL_law_391 (by decide) (fun _ => ?_) (fun q => absurd (er1.trans hp.1.symm) q)
  exact la_tail (a := a) hF hK hp.2 rfl rfl hw hl
set_option maxHeartbeats 4000000 in
set_option maxRecDepth 100000 in
theorem la_same (hF : fx p s m #[Value.ref b] meth c cL_law 4 RL c0 ret) (hX : va_X b L xs s s.heap) (hbl : b < s.heap.size) (hL : L ≤ 3072) (hk : 6 * k + 5 < L) (hK : lK p l e s m below meth c b G q1 q2 (k + 1)) (hS : Sim k σ τ) (ha : a.1 13 = q1) (ha2 : a2 26 = q2) (hw : wb G (lA s) s (wX G a σ ++ wM G a2 τ) H locs) (hl : lv_has ls 4 (lLv b q1 q2 k)) : W p l e room_1 s m #[Value.ref b] below meth c H locs (25 + k) (7457 + 8 * k) (lw_Z below #[Value.ref b] s) (F0 m 396 ls []) := by
  subst ha; subst ha2
  refine lv_aload_n hF.x hF.b dL_law_396 rfl (lv_at hl 1 rfl) ?_
  refine lv_aload_n hF.x hF.b dL_law_397 rfl (lv_at hl 0 rfl) ?_
  refine lv_iload_n hF.x hF.b dL_law_398 rfl (lv_at hl 3 rfl) ?_
  refine lv_iconst (v := nI 1) hF.x hF.b dL_law_399 (by decide) ?_
  refine lv_iadd hF.x hF.b dL_law_400 ?_
  refine va_sld hF.x hF.b hX hbl (Nat.not_le.mpr hbl) hw.2.2.2.1 (la_in hk hL (show 1 ≤ 5 by decide)) dL_law_401 ?_
  refine lv_aload_n hF.x hF.b dL_law_402 rfl (lv_at hl 0 rfl) ?_
  refine lv_iload_n hF.x hF.b dL_law_403 rfl (lv_at hl 3 rfl) ?_
  refine lv_iconst (v := nI 2) hF.x hF.b dL_law_404 (by decide) ?_
  refine lv_iadd hF.x hF.b dL_law_405 ?_
  refine va_sld hF.x hF.b hX hbl (Nat.not_le.mpr hbl) hw.2.2.2.1 (la_in hk hL (show 2 ≤ 5 by decide)) dL_law_406 ?_
  refine la_I hF hw (c1_same l G a σ (xs (nI (6 * k) + nI 1).toNatClampNeg) (xs (nI (6 * k) + nI 2).toNatClampNeg) hS.1.1) wv_L_49 (q0 := 0) rfl rfl rfl ⟨nd_X1.1, nd_X1.2, pd_X1_same⟩ ⟨Nat.le_of_ble_eq_true rfl, Nat.le_of_ble_eq_true rfl⟩ ⟨by show 25 + k + 0 ≤ 600000; omega, by show 7457 + 8 * k + 0 ≤ 7302250; omega⟩ hl.1 rfl (Nat.le_of_ble_eq_true rfl) dL_law_407 (fun r1 u1 H locs hp hw => ?_)
  refine W.widen (k := 25 + (k + 1)) (n := 7457 + 8 * (k + 1)) (by show 25 + k + 0 ≤ _; omega) (by show 7457 + 8 * k + 0 ≤ _; omega) ?_
  obtain ⟨er1, eu1⟩ := hp
  rw [eu1] at hw
  have hw := hw.sw
  refine lv_aload_n hF.x hF.b dL_law_410 rfl (lv_at hl 2 rfl) ?_
  refine lv_aload_n hF.x hF.b dL_law_411 rfl (lv_at hl 0 rfl) ?_
  refine lv_iload_n hF.x hF.b dL_law_412 rfl (lv_at hl 3 rfl) ?_
  refine lv_iconst (v := nI 1) hF.x hF.b dL_law_413 (by decide) ?_
  refine lv_iadd hF.x hF.b dL_law_414 ?_
  refine va_sld hF.x hF.b hX hbl (Nat.not_le.mpr hbl) hw.2.2.2.1 (la_in hk hL (show 1 ≤ 5 by decide)) dL_law_415 ?_
  refine lv_aload_n hF.x hF.b dL_law_416 rfl (lv_at hl 0 rfl) ?_
  refine lv_iload_n hF.x hF.b dL_law_417 rfl (lv_at hl 3 rfl) ?_
  refine lv_iconst (v := nI 2) hF.x hF.b dL_law_418 (by decide) ?_
  refine lv_iadd hF.x hF.b dL_law_419 ?_
  refine va_sld hF.x hF.b hX hbl (Nat.not_le.mpr hbl) hw.2.2.2.1 (la_in hk hL (show 2 ≤ 5 by decide)) dL_law_420 ?_
  refine la_I hF hw (c2_same l G a2 τ (xs (nI (6 * k) + nI 1).toNatClampNeg) (xs (nI (6 * k) + nI 2).toNatClampNeg) (S_same hS (xs (nI (6 * k) + nI 1).toNatClampNeg) (xs (nI (6 * k) + nI 2).toNatClampNeg))) wv_L_52 (q0 := 0) rfl rfl rfl ⟨nd_X2.1, nd_X2.2, pd_X2_same⟩ ⟨Nat.le_of_ble_eq_true rfl, Nat.le_of_ble_eq_true rfl⟩ ⟨by show 25 + (k + 1) + 0 ≤ 600000; omega, by show 7457 + 8 * (k + 1) + 0 ≤ 7302250; omega⟩ hl.1 rfl (Nat.le_of_ble_eq_true rfl) dL_law_421 (fun r2 τ1 H locs hp hw => ?_)
  have hw := hw.sw
  refine lv_icmp_eq (tgt := 580) hF.x hF.b dL_law_424 (by decide) (fun _ => ?_) (fun q => absurd (er1.trans hp.1.symm) q)
  exact la_tail (a := a) hF hK hp.2 rfl rfl hw hl
set_option maxHeartbeats 4000000 in
set_option maxRecDepth 100000 in
theorem la_count (hF : fx p s m #[Value.ref b] meth c cL_law 4 RL c0 ret) (hX : va_X b L xs s s.heap) (hbl : b < s.heap.size) (hL : L ≤ 3072) (hk : 6 * k + 5 < L) (hK : lK p l e s m below meth c b G q1 q2 (k + 1)) (hS : Sim k σ τ) (ha : a.1 13 = q1) (ha2 : a2 26 = q2) (hw : wb G (lA s) s (wX G a σ ++ wM G a2 τ) H locs) (hl : lv_has ls 4 (lLv b q1 q2 k)) : W p l e room_1 s m #[Value.ref b] below meth c H locs (25 + k) (7457 + 8 * k) (lw_Z below #[Value.ref b] s) (F0 m 429 ls []) := by
  subst ha; subst ha2
  refine lv_aload_n hF.x hF.b dL_law_429 rfl (lv_at hl 1 rfl) ?_
  refine lv_aload_n hF.x hF.b dL_law_430 rfl (lv_at hl 0 rfl) ?_
  refine lv_iload_n hF.x hF.b dL_law_431 rfl (lv_at hl 3 rfl) ?_
  refine lv_iconst (v := nI 1) hF.x hF.b dL_law_432 (by decide) ?_
  refine lv_iadd hF.x hF.b dL_law_433 ?_
  refine va_sld hF.x hF.b hX hbl (Nat.not_le.mpr hbl) hw.2.2.2.1 (la_in hk hL (show 1 ≤ 5 by decide)) dL_law_434 ?_
  refine la_I hF hw (c1_count l G a σ (xs (nI (6 * k) + nI 1).toNatClampNeg) hS.1.1) wv_L_53 (q0 := 0) rfl rfl rfl ⟨nd_X1.1, nd_X1.2, pd_X1_count⟩ ⟨Nat.le_of_ble_eq_true rfl, Nat.le_of_ble_eq_true rfl⟩ ⟨by show 25 + k + 0 ≤ 600000; omega, by show 7457 + 8 * k + 0 ≤ 7302250; omega⟩ hl.1 rfl (Nat.le_of_ble_eq_true rfl) dL_law_435 (fun r1 u1 H locs hp hw => ?_)
  refine W.widen (k := 25 + (k + 1)) (n := 7457 + 8 * (k + 1)) (by show 25 + k + 0 ≤ _; omega) (by show 7457 + 8 * k + 0 ≤ _; omega) ?_
  obtain ⟨er1, eu1⟩ := hp
  rw [eu1] at hw
  have hw := hw.sw
  refine lv_aload_n hF.x hF.b dL_law_438 rfl (lv_at hl 2 rfl) ?_
  refine lv_aload_n hF.x hF.b dL_law_439 rfl (lv_at hl 0 rfl) ?_
  refine lv_iload_n hF.x hF.b dL_law_440 rfl (lv_at hl 3 rfl) ?_
  refine lv_iconst (v := nI 1) hF.x hF.b dL_law_441 (by decide) ?_
  refine lv_iadd hF.x hF.b dL_law_442 ?_
  refine va_sld hF.x hF.b hX hbl (Nat.not_le.mpr hbl) hw.2.2.2.1 (la_in hk hL (show 1 ≤ 5 by decide)) dL_law_443 ?_
  refine la_I hF hw (c2_count l G a2 τ (xs (nI (6 * k) + nI 1).toNatClampNeg) (S_count hS (xs (nI (6 * k) + nI 1).toNatClampNeg))) wv_L_56 (q0 := 0) rfl rfl rfl ⟨nd_X2.1, nd_X2.2, pd_X2_count⟩ ⟨Nat.le_of_ble_eq_true rfl, Nat.le_of_ble_eq_true rfl⟩ ⟨by show 25 + (k + 1) + 0 ≤ 600000; omega, by show 7457 + 8 * (k + 1) + 0 ≤ 7302250; omega⟩ hl.1 rfl (Nat.le_of_ble_eq_true rfl) dL_law_444 (fun r2 τ1 H locs hp hw => ?_)
  have hw := hw.sw
  refine lv_icmp_eq (tgt := 580) hF.x hF.b dL_law_447 (by decide) (fun _ => ?_) (fun q => absurd (er1.trans hp.1.symm) q)
  exact la_tail (a := a) hF hK hp.2 rfl rfl hw hl
set_option maxHeartbeats 4000000 in
set_option maxRecDepth 100000 in
theorem la_act (hF : fx p s m #[Value.ref b] meth c cL_law 4 RL c0 ret) (hX : va_X b L xs s s.heap) (hbl : b < s.heap.size) (hL : L ≤ 3072) (hk : 6 * k + 5 < L) (hK : lK p l e s m below meth c b G q1 q2 (k + 1)) (hS : Sim k σ τ) (ha : a.1 13 = q1) (ha2 : a2 26 = q2) (hw : wb G (lA s) s (wX G a σ ++ wM G a2 τ) H locs) (hl : lv_has ls 4 (lLv b q1 q2 k)) : W p l e room_1 s m #[Value.ref b] below meth c H locs (25 + k) (7457 + 8 * k) (lw_Z below #[Value.ref b] s) (F0 m 452 ls []) := by
  subst ha; subst ha2
  refine lv_aload_n hF.x hF.b dL_law_452 rfl (lv_at hl 1 rfl) ?_
  refine lv_aload_n hF.x hF.b dL_law_453 rfl (lv_at hl 0 rfl) ?_
  refine lv_iload_n hF.x hF.b dL_law_454 rfl (lv_at hl 3 rfl) ?_
  refine lv_iconst (v := nI 1) hF.x hF.b dL_law_455 (by decide) ?_
  refine lv_iadd hF.x hF.b dL_law_456 ?_
  refine va_sld hF.x hF.b hX hbl (Nat.not_le.mpr hbl) hw.2.2.2.1 (la_in hk hL (show 1 ≤ 5 by decide)) dL_law_457 ?_
  refine lv_aload_n hF.x hF.b dL_law_458 rfl (lv_at hl 0 rfl) ?_
  refine lv_iload_n hF.x hF.b dL_law_459 rfl (lv_at hl 3 rfl) ?_
  refine lv_iconst (v := nI 2) hF.x hF.b dL_law_460 (by decide) ?_
  refine lv_iadd hF.x hF.b dL_law_461 ?_
  refine va_sld hF.x hF.b hX hbl (Nat.not_le.mpr hbl) hw.2.2.2.1 (la_in hk hL (show 2 ≤ 5 by decide)) dL_law_462 ?_
  refine la_I hF hw (c1_act l G a σ (xs (nI (6 * k) + nI 1).toNatClampNeg) (xs (nI (6 * k) + nI 2).toNatClampNeg) hS.1.1) wv_L_57 (q0 := 0) rfl rfl rfl ⟨nd_X1.1, nd_X1.2, pd_X1_act⟩ ⟨Nat.le_of_ble_eq_true rfl, Nat.le_of_ble_eq_true rfl⟩ ⟨by show 25 + k + 0 ≤ 600000; omega, by show 7457 + 8 * k + 0 ≤ 7302250; omega⟩ hl.1 rfl (Nat.le_of_ble_eq_true rfl) dL_law_463 (fun r1 u1 H locs hp hw => ?_)
  refine W.widen (k := 25 + (k + 1)) (n := 7457 + 8 * (k + 1)) (by show 25 + k + 0 ≤ _; omega) (by show 7457 + 8 * k + 0 ≤ _; omega) ?_
  obtain ⟨er1, eu1⟩ := hp
  rw [eu1] at hw
  have hw := hw.sw
  refine lv_aload_n hF.x hF.b dL_law_466 rfl (lv_at hl 2 rfl) ?_
  refine lv_aload_n hF.x hF.b dL_law_467 rfl (lv_at hl 0 rfl) ?_
  refine lv_iload_n hF.x hF.b dL_law_468 rfl (lv_at hl 3 rfl) ?_
  refine lv_iconst (v := nI 1) hF.x hF.b dL_law_469 (by decide) ?_
  refine lv_iadd hF.x hF.b dL_law_470 ?_
  refine va_sld hF.x hF.b hX hbl (Nat.not_le.mpr hbl) hw.2.2.2.1 (la_in hk hL (show 1 ≤ 5 by decide)) dL_law_471 ?_
  refine lv_aload_n hF.x hF.b dL_law_472 rfl (lv_at hl 0 rfl) ?_
  refine lv_iload_n hF.x hF.b dL_law_473 rfl (lv_at hl 3 rfl) ?_
  refine lv_iconst (v := nI 2) hF.x hF.b dL_law_474 (by decide) ?_
  refine lv_iadd hF.x hF.b dL_law_475 ?_
  refine va_sld hF.x hF.b hX hbl (Nat.not_le.mpr hbl) hw.2.2.2.1 (la_in hk hL (show 2 ≤ 5 by decide)) dL_law_476 ?_
  refine la_I hF hw (c2_act l G a2 τ (xs (nI (6 * k) + nI 1).toNatClampNeg) (xs (nI (6 * k) + nI 2).toNatClampNeg) (S_act hS (xs (nI (6 * k) + nI 1).toNatClampNeg) (xs (nI (6 * k) + nI 2).toNatClampNeg))) wv_L_60 (q0 := 0) rfl rfl rfl ⟨nd_X2.1, nd_X2.2, pd_X2_act⟩ ⟨Nat.le_of_ble_eq_true rfl, Nat.le_of_ble_eq_true rfl⟩ ⟨by show 25 + (k + 1) + 0 ≤ 600000; omega, by show 7457 + 8 * (k + 1) + 0 ≤ 7302250; omega⟩ hl.1 rfl (Nat.le_of_ble_eq_true rfl) dL_law_477 (fun r2 τ1 H locs hp hw => ?_)
  have hw := hw.sw
  refine lv_icmp_eq (tgt := 580) hF.x hF.b dL_law_480 (by decide) (fun _ => ?_) (fun q => absurd (er1.trans hp.1.symm) q)
  exact la_tail (a := a) hF hK hp.2 rfl rfl hw hl
set_option maxHeartbeats 4000000 in
set_option maxRecDepth 100000 in
theorem la_pull (hF : fx p s m #[Value.ref b] meth c cL_law 4 RL c0 ret) (hX : va_X b L xs s s.heap) (hbl : b < s.heap.size) (hL : L ≤ 3072) (hk : 6 * k + 5 < L) (hK : lK p l e s m below meth c b G q1 q2 (k + 1)) (hS : Sim k σ τ) (ha : a.1 13 = q1) (ha2 : a2 26 = q2) (hw : wb G (lA s) s (wX G a σ ++ wM G a2 τ) H locs) (hl : lv_has ls 4 (lLv b q1 q2 k)) : W p l e room_1 s m #[Value.ref b] below meth c H locs (25 + k) (7457 + 8 * k) (lw_Z below #[Value.ref b] s) (F0 m 485 ls []) := by
  subst ha; subst ha2
  refine lv_aload_n hF.x hF.b dL_law_485 rfl (lv_at hl 1 rfl) ?_
  refine lv_aload_n hF.x hF.b dL_law_486 rfl (lv_at hl 0 rfl) ?_
  refine lv_iload_n hF.x hF.b dL_law_487 rfl (lv_at hl 3 rfl) ?_
  refine lv_iconst (v := nI 1) hF.x hF.b dL_law_488 (by decide) ?_
  refine lv_iadd hF.x hF.b dL_law_489 ?_
  refine va_sld hF.x hF.b hX hbl (Nat.not_le.mpr hbl) hw.2.2.2.1 (la_in hk hL (show 1 ≤ 5 by decide)) dL_law_490 ?_
  refine lv_aload_n hF.x hF.b dL_law_491 rfl (lv_at hl 0 rfl) ?_
  refine lv_iload_n hF.x hF.b dL_law_492 rfl (lv_at hl 3 rfl) ?_
  refine lv_iconst (v := nI 2) hF.x hF.b dL_law_493 (by decide) ?_
  refine lv_iadd hF.x hF.b dL_law_494 ?_
  refine va_sld hF.x hF.b hX hbl (Nat.not_le.mpr hbl) hw.2.2.2.1 (la_in hk hL (show 2 ≤ 5 by decide)) dL_law_495 ?_
  refine la_I hF hw (c1_pull l G a σ (xs (nI (6 * k) + nI 1).toNatClampNeg) (xs (nI (6 * k) + nI 2).toNatClampNeg) hS.1.1) wv_L_61 (q0 := 0) rfl rfl rfl ⟨nd_X1.1, nd_X1.2, pd_X1_pull⟩ ⟨Nat.le_of_ble_eq_true rfl, Nat.le_of_ble_eq_true rfl⟩ ⟨by show 25 + k + 0 ≤ 600000; omega, by show 7457 + 8 * k + 0 ≤ 7302250; omega⟩ hl.1 rfl (Nat.le_of_ble_eq_true rfl) dL_law_496 (fun r1 u1 H locs hp hw => ?_)
  refine W.widen (k := 25 + (k + 1)) (n := 7457 + 8 * (k + 1)) (by show 25 + k + 0 ≤ _; omega) (by show 7457 + 8 * k + 0 ≤ _; omega) ?_
  obtain ⟨er1, eu1⟩ := hp
  rw [eu1] at hw
  have hw := hw.sw
  refine lv_aload_n hF.x hF.b dL_law_499 rfl (lv_at hl 2 rfl) ?_
  refine lv_aload_n hF.x hF.b dL_law_500 rfl (lv_at hl 0 rfl) ?_
  refine lv_iload_n hF.x hF.b dL_law_501 rfl (lv_at hl 3 rfl) ?_
  refine lv_iconst (v := nI 1) hF.x hF.b dL_law_502 (by decide) ?_
  refine lv_iadd hF.x hF.b dL_law_503 ?_
  refine va_sld hF.x hF.b hX hbl (Nat.not_le.mpr hbl) hw.2.2.2.1 (la_in hk hL (show 1 ≤ 5 by decide)) dL_law_504 ?_
  refine lv_aload_n hF.x hF.b dL_law_505 rfl (lv_at hl 0 rfl) ?_
  refine lv_iload_n hF.x hF.b dL_law_506 rfl (lv_at hl 3 rfl) ?_
  refine lv_iconst (v := nI 2) hF.x hF.b dL_law_507 (by decide) ?_
  refine lv_iadd hF.x hF.b dL_law_508 ?_
  refine va_sld hF.x hF.b hX hbl (Nat.not_le.mpr hbl) hw.2.2.2.1 (la_in hk hL (show 2 ≤ 5 by decide)) dL_law_509 ?_
  refine la_I hF hw (c2_pull l G a2 τ (xs (nI (6 * k) + nI 1).toNatClampNeg) (xs (nI (6 * k) + nI 2).toNatClampNeg) (S_pull hS (xs (nI (6 * k) + nI 1).toNatClampNeg) (xs (nI (6 * k) + nI 2).toNatClampNeg))) wv_L_64 (q0 := 0) rfl rfl rfl ⟨nd_X2.1, nd_X2.2, pd_X2_pull⟩ ⟨Nat.le_of_ble_eq_true rfl, Nat.le_of_ble_eq_true rfl⟩ ⟨by show 25 + (k + 1) + 0 ≤ 600000; omega, by show 7457 + 8 * (k + 1) + 0 ≤ 7302250; omega⟩ hl.1 rfl (Nat.le_of_ble_eq_true rfl) dL_law_510 (fun r2 τ1 H locs hp hw => ?_)
  have hw := hw.sw
  refine lv_icmp_eq (tgt := 580) hF.x hF.b dL_law_513 (by decide) (fun _ => ?_) (fun q => absurd (er1.trans hp.1.symm) q)
  exact la_tail (a := a) hF hK hp.2 rfl rfl hw hl
set_option maxHeartbeats 4000000 in
set_option maxRecDepth 100000 in
theorem la_tick (hF : fx p s m #[Value.ref b] meth c cL_law 4 RL c0 ret) (hX : va_X b L xs s s.heap) (hbl : b < s.heap.size) (hL : L ≤ 3072) (hk : 6 * k + 5 < L) (hK : lK p l e s m below meth c b G q1 q2 (k + 1)) (hS : Sim k σ τ) (ha : a.1 13 = q1) (ha2 : a2 26 = q2) (hw : wb G (lA s) s (wX G a σ ++ wM G a2 τ) H locs) (hl : lv_has ls 4 (lLv b q1 q2 k)) : W p l e room_1 s m #[Value.ref b] below meth c H locs (25 + k) (7457 + 8 * k) (lw_Z below #[Value.ref b] s) (F0 m 518 ls []) := by
  subst ha; subst ha2
  refine lv_aload_n hF.x hF.b dL_law_518 rfl (lv_at hl 1 rfl) ?_
  refine la_I hF hw (c1_tick l G a σ  hS.1.1) wv_L_65 (q0 := 0) rfl rfl rfl ⟨nd_X1.1, nd_X1.2, pd_X1_tick⟩ ⟨Nat.le_of_ble_eq_true rfl, Nat.le_of_ble_eq_true rfl⟩ ⟨by show 25 + k + 0 ≤ 600000; omega, by show 7457 + 8 * k + 0 ≤ 7302250; omega⟩ hl.1 rfl (Nat.le_of_ble_eq_true rfl) dL_law_519 (fun r1 u1 H locs hp hw => ?_)
  refine W.widen (k := 25 + (k + 1)) (n := 7457 + 8 * (k + 1)) (by show 25 + k + 0 ≤ _; omega) (by show 7457 + 8 * k + 0 ≤ _; omega) ?_
  obtain ⟨er1, eu1⟩ := hp
  rw [eu1] at hw
  have hw := hw.sw
  refine lv_aload_n hF.x hF.b dL_law_522 rfl (lv_at hl 2 rfl) ?_
  refine la_I hF hw (c2_tick l G a2 τ  (S_tick hS )) wv_L_69 (q0 := 0) rfl rfl rfl ⟨nd_X2.1, nd_X2.2, pd_X2_tick⟩ ⟨Nat.le_of_ble_eq_true rfl, Nat.le_of_ble_eq_true rfl⟩ ⟨by show 25 + (k + 1) + 0 ≤ 600000; omega, by show 7457 + 8 * (k + 1) + 0 ≤ 7302250; omega⟩ hl.1 rfl (Nat.le_of_ble_eq_true rfl) dL_law_523 (fun r2 τ1 H locs hp hw => ?_)
  have hw := hw.sw
  refine lv_icmp_eq (tgt := 580) hF.x hF.b dL_law_526 (by decide) (fun _ => ?_) (fun q => absurd (er1.trans hp.1.symm) q)
  exact la_tail (a := a) hF hK hp.2 rfl rfl hw hl
set_option maxHeartbeats 4000000 in
set_option maxRecDepth 100000 in
theorem la_failed (hF : fx p s m #[Value.ref b] meth c cL_law 4 RL c0 ret) (hX : va_X b L xs s s.heap) (hbl : b < s.heap.size) (hL : L ≤ 3072) (hk : 6 * k + 5 < L) (hK : lK p l e s m below meth c b G q1 q2 (k + 1)) (hS : Sim k σ τ) (ha : a.1 13 = q1) (ha2 : a2 26 = q2) (hw : wb G (lA s) s (wX G a σ ++ wM G a2 τ) H locs) (hl : lv_has ls 4 (lLv b q1 q2 k)) : W p l e room_1 s m #[Value.ref b] below meth c H locs (25 + k) (7457 + 8 * k) (lw_Z below #[Value.ref b] s) (F0 m 531 ls []) := by
  subst ha; subst ha2
  refine lv_aload_n hF.x hF.b dL_law_531 rfl (lv_at hl 1 rfl) ?_
  refine la_I hF hw (c1_failed l G a σ  trivial) wv_L_70 (q0 := 0) rfl rfl rfl ⟨nd_X1.1, nd_X1.2, pd_X1_failed⟩ ⟨Nat.le_of_ble_eq_true rfl, Nat.le_of_ble_eq_true rfl⟩ ⟨by show 25 + k + 0 ≤ 600000; omega, by show 7457 + 8 * k + 0 ≤ 7302250; omega⟩ hl.1 rfl (Nat.le_of_ble_eq_true rfl) dL_law_532 (fun r1 u1 H locs hp hw => ?_)
  refine W.widen (k := 25 + (k + 1)) (n := 7457 + 8 * (k + 1)) (by show 25 + k + 0 ≤ _; omega) (by show 7457 + 8 * k + 0 ≤ _; omega) ?_
  obtain ⟨er1, eu1⟩ := hp
  rw [eu1] at hw
  have hw := hw.sw
  refine lv_aload_n hF.x hF.b dL_law_535 rfl (lv_at hl 2 rfl) ?_
  refine la_I hF hw (c2_failed l G a2 τ  (S_failed hS )) wv_L_73 (q0 := 0) rfl rfl rfl ⟨nd_X2.1, nd_X2.2, pd_X2_failed⟩ ⟨Nat.le_of_ble_eq_true rfl, Nat.le_of_ble_eq_true rfl⟩ ⟨by show 25 + (k + 1) + 0 ≤ 600000; omega, by show 7457 + 8 * (k + 1) + 0 ≤ 7302250; omega⟩ hl.1 rfl (Nat.le_of_ble_eq_true rfl) dL_law_536 (fun r2 τ1 H locs hp hw => ?_)
  have hw := hw.sw
  refine lv_icmp_eq (tgt := 580) hF.x hF.b dL_law_539 (by decide) (fun _ => ?_) (fun q => absurd (er1.trans hp.1.symm) q)
  exact la_tail (a := a) hF hK hp.2 rfl rfl hw hl
set_option maxHeartbeats 4000000 in
set_option maxRecDepth 100000 in
theorem la_told (hF : fx p s m #[Value.ref b] meth c cL_law 4 RL c0 ret) (hX : va_X b L xs s s.heap) (hbl : b < s.heap.size) (hL : L ≤ 3072) (hk : 6 * k + 5 < L) (hK : lK p l e s m below meth c b G q1 q2 (k + 1)) (hS : Sim k σ τ) (ha : a.1 13 = q1) (ha2 : a2 26 = q2) (hw : wb G (lA s) s (wX G a σ ++ wM G a2 τ) H locs) (hl : lv_has ls 4 (lLv b q1 q2 k)) : W p l e room_1 s m #[Value.ref b] below meth c H locs (25 + k) (7457 + 8 * k) (lw_Z below #[Value.ref b] s) (F0 m 544 ls []) := by
  subst ha; subst ha2
  refine lv_aload_n hF.x hF.b dL_law_544 rfl (lv_at hl 1 rfl) ?_
  refine lv_aload_n hF.x hF.b dL_law_545 rfl (lv_at hl 0 rfl) ?_
  refine lv_iload_n hF.x hF.b dL_law_546 rfl (lv_at hl 3 rfl) ?_
  refine lv_iconst (v := nI 1) hF.x hF.b dL_law_547 (by decide) ?_
  refine lv_iadd hF.x hF.b dL_law_548 ?_
  refine va_sld hF.x hF.b hX hbl (Nat.not_le.mpr hbl) hw.2.2.2.1 (la_in hk hL (show 1 ≤ 5 by decide)) dL_law_549 ?_
  refine la_I hF hw (c1_told l G a σ (xs (nI (6 * k) + nI 1).toNatClampNeg) trivial) wv_L_74 (q0 := 0) rfl rfl rfl ⟨nd_X1.1, nd_X1.2, pd_X1_told⟩ ⟨Nat.le_of_ble_eq_true rfl, Nat.le_of_ble_eq_true rfl⟩ ⟨by show 25 + k + 0 ≤ 600000; omega, by show 7457 + 8 * k + 0 ≤ 7302250; omega⟩ hl.1 rfl (Nat.le_of_ble_eq_true rfl) dL_law_550 (fun r1 u1 H locs hp hw => ?_)
  refine W.widen (k := 25 + (k + 1)) (n := 7457 + 8 * (k + 1)) (by show 25 + k + 0 ≤ _; omega) (by show 7457 + 8 * k + 0 ≤ _; omega) ?_
  obtain ⟨er1, eu1⟩ := hp
  rw [eu1] at hw
  have hw := hw.sw
  refine lv_aload_n hF.x hF.b dL_law_553 rfl (lv_at hl 2 rfl) ?_
  refine lv_aload_n hF.x hF.b dL_law_554 rfl (lv_at hl 0 rfl) ?_
  refine lv_iload_n hF.x hF.b dL_law_555 rfl (lv_at hl 3 rfl) ?_
  refine lv_iconst (v := nI 1) hF.x hF.b dL_law_556 (by decide) ?_
  refine lv_iadd hF.x hF.b dL_law_557 ?_
  refine va_sld hF.x hF.b hX hbl (Nat.not_le.mpr hbl) hw.2.2.2.1 (la_in hk hL (show 1 ≤ 5 by decide)) dL_law_558 ?_
  refine la_I hF hw (c2_told l G a2 τ (xs (nI (6 * k) + nI 1).toNatClampNeg) (S_told hS (xs (nI (6 * k) + nI 1).toNatClampNeg))) wv_L_77 (q0 := 0) rfl rfl rfl ⟨nd_X2.1, nd_X2.2, pd_X2_told⟩ ⟨Nat.le_of_ble_eq_true rfl, Nat.le_of_ble_eq_true rfl⟩ ⟨by show 25 + (k + 1) + 0 ≤ 600000; omega, by show 7457 + 8 * (k + 1) + 0 ≤ 7302250; omega⟩ hl.1 rfl (Nat.le_of_ble_eq_true rfl) dL_law_559 (fun r2 τ1 H locs hp hw => ?_)
  have hw := hw.sw
  refine lv_icmp_eq (tgt := 580) hF.x hF.b dL_law_562 (by decide) (fun _ => ?_) (fun q => absurd (er1.trans hp.1.symm) q)
  exact la_tail (a := a) hF hK hp.2 rfl rfl hw hl
set_option maxHeartbeats 4000000 in
set_option maxRecDepth 100000 in
theorem la_clear (hF : fx p s m #[Value.ref b] meth c cL_law 4 RL c0 ret) (hX : va_X b L xs s s.heap) (hbl : b < s.heap.size) (hL : L ≤ 3072) (hk : 6 * k + 5 < L) (hK : lK p l e s m below meth c b G q1 q2 (k + 1)) (hS : Sim k σ τ) (ha : a.1 13 = q1) (ha2 : a2 26 = q2) (hw : wb G (lA s) s (wX G a σ ++ wM G a2 τ) H locs) (hl : lv_has ls 4 (lLv b q1 q2 k)) : W p l e room_1 s m #[Value.ref b] below meth c H locs (25 + k) (7457 + 8 * k) (lw_Z below #[Value.ref b] s) (F0 m 567 ls []) := by
  subst ha; subst ha2
  refine lv_aload_n hF.x hF.b dL_law_567 rfl (lv_at hl 1 rfl) ?_
  refine la_I hF hw (c1_clear l G a σ  trivial) wv_L_78 (q0 := 0) rfl rfl rfl ⟨nd_X1.1, nd_X1.2, pd_X1_clear⟩ ⟨Nat.le_of_ble_eq_true rfl, Nat.le_of_ble_eq_true rfl⟩ ⟨by show 25 + k + 0 ≤ 600000; omega, by show 7457 + 8 * k + 0 ≤ 7302250; omega⟩ hl.1 rfl (Nat.le_of_ble_eq_true rfl) dL_law_568 (fun r1 u1 H locs hp hw => ?_)
  refine W.widen (k := 25 + (k + 1)) (n := 7457 + 8 * (k + 1)) (by show 25 + k + 0 ≤ _; omega) (by show 7457 + 8 * k + 0 ≤ _; omega) ?_
  obtain ⟨er1, eu1⟩ := hp
  rw [eu1] at hw
  have hw := hw.sw
  refine lv_aload_n hF.x hF.b dL_law_571 rfl (lv_at hl 2 rfl) ?_
  refine la_I hF hw (c2_clear l G a2 τ  (S_clear hS )) wv_L_81 (q0 := 0) rfl rfl rfl ⟨nd_X2.1, nd_X2.2, pd_X2_clear⟩ ⟨Nat.le_of_ble_eq_true rfl, Nat.le_of_ble_eq_true rfl⟩ ⟨by show 25 + (k + 1) + 0 ≤ 600000; omega, by show 7457 + 8 * (k + 1) + 0 ≤ 7302250; omega⟩ hl.1 rfl (Nat.le_of_ble_eq_true rfl) dL_law_572 (fun r2 τ1 H locs hp hw => ?_)
  have hw := hw.sw
  have hw := hw.dr (by intro i hi; simp [f1_clear, f1_begin, f1_emptyDeeds, f1_emptyHall, va_up, wipe, hi]) (by intro i hi; simp [f1_clear, f1_begin, f1_emptyDeeds, f1_emptyHall, va_up, wipe, hi]) (by intro i hi; simp [f1_clear, f1_begin, f1_emptyDeeds, f1_emptyHall, va_up, wipe, hi]) (by intro i hi; simp [f1_clear, f1_begin, f1_emptyDeeds, f1_emptyHall, va_up, wipe, hi])
  refine lv_icmp_eq (tgt := 580) hF.x hF.b dL_law_575 (by decide) (fun _ => ?_) (fun q => absurd (er1.trans hp.1.symm) q)
  exact la_tail (a := a) hF hK hp.2 rfl rfl hw hl
set_option maxHeartbeats 4000000 in
set_option maxRecDepth 100000 in
theorem law_loop (hF : fx p s m #[Value.ref b] meth c cL_law 4 RL c0 ret) (hr : meth.sig.returnType = ret) (hlocks : meth.locks = false) (hX : va_X b L xs s s.heap) (hbl : b < s.heap.size) (hL : L ≤ 3072) : ∀ (n k : Nat), 6 * k ≤ L → L ≤ 6 * k + n → lK p l e s m below meth c b G q1 q2 k := by
  intro n
  induction n with
  | zero =>
    intro k h1 h2 a σ a2 τ H locs ls hS ha ha2 hw hl
    refine lv_iload_n hF.x hF.b dL_law_18 rfl (lv_at hl 3 rfl) ?_
    refine lv_aload_n hF.x hF.b dL_law_19 rfl (lv_at hl 0 rfl) ?_
    refine va_slen hF.x hF.b hX hbl (Nat.not_le.mpr hbl) hw.2.2.2.1 dL_law_20 ?_
    refine lv_bipush (v := 6) hF.x hF.b dL_law_21 (by decide) ?_
    refine lv_isub hF.x hF.b dL_law_23 ?_
    refine lv_icmp_gt (tgt := 586) hF.x hF.b dL_law_24 (by decide) (fun _ => ?_) (fun q => absurd ?_ q)
    · refine lv_iconst (v := 1) hF.x hF.b dL_law_586 (by decide) ?_
      refine va_forget (fun q hq => hw.2.2.2.1.2.2 q hq) ?_
      refine W.widen (k := 600000) (n := 7302250) (by omega) (by omega) ?_
      exact lw_ret hF.x hF.b hr hlocks dL_law_587
    · show nI L - nI 6 < nI (6 * k)
      rw [Int32.lt_iff_toInt_lt, pk_sub_toInt (by omega) (by decide), nI_toInt (by omega)]
      omega
  | succ n ih =>
    intro k h1 h2 a σ a2 τ H locs ls hS ha ha2 hw hl
    refine lv_iload_n hF.x hF.b dL_law_18 rfl (lv_at hl 3 rfl) ?_
    refine lv_aload_n hF.x hF.b dL_law_19 rfl (lv_at hl 0 rfl) ?_
    refine va_slen hF.x hF.b hX hbl (Nat.not_le.mpr hbl) hw.2.2.2.1 dL_law_20 ?_
    refine lv_bipush (v := 6) hF.x hF.b dL_law_21 (by decide) ?_
    refine lv_isub hF.x hF.b dL_law_23 ?_
    refine lv_icmp_gt (tgt := 586) hF.x hF.b dL_law_24 (by decide) (fun _ => ?_) (fun q => ?_)
    · refine lv_iconst (v := 1) hF.x hF.b dL_law_586 (by decide) ?_
      refine va_forget (fun q hq => hw.2.2.2.1.2.2 q hq) ?_
      refine W.widen (k := 600000) (n := 7302250) (by omega) (by omega) ?_
      exact lw_ret hF.x hF.b hr hlocks dL_law_587
    · have hk : 6 * k + 5 < L := by
        have q2 : ¬ nI L - nI 6 < nI (6 * k) := q
        rw [Int32.lt_iff_toInt_lt, pk_sub_toInt (by omega) (by decide), nI_toInt (by omega)] at q2
        omega
      have hK := ih (k + 1) (by omega) (by omega)
      refine lv_aload_n hF.x hF.b dL_law_27 rfl (lv_at hl 0 rfl) ?_
      refine lv_iload_n hF.x hF.b dL_law_28 rfl (lv_at hl 3 rfl) ?_
      refine va_sld hF.x hF.b hX hbl (Nat.not_le.mpr hbl) hw.2.2.2.1 (vp_in_nI (by omega) (by omega)) dL_law_29 ?_
      refine lv_bipush (v := 15) hF.x hF.b dL_law_30 (by decide) ?_
      refine lv_iand hF.x hF.b dL_law_32 ?_
      obtain ⟨j, hj, ej⟩ := pk_andE (xs (nI (6 * k)).toNatClampNeg) (m := 15) 4 (by decide)
      rw [ej]
      have hc : j = 0 ∨ j = 1 ∨ j = 2 ∨ j = 3 ∨ j = 4 ∨ j = 5 ∨ j = 6 ∨ j = 7 ∨ j = 8 ∨ j = 9 ∨ j = 10 ∨ j = 11 ∨ j = 12 ∨ j = 13 ∨ j = 14 ∨ j = 15 := by omega
      rcases hc with rfl | rfl | rfl | rfl | rfl | rfl | rfl | rfl | rfl | rfl | rfl | rfl | rfl | rfl | rfl | rfl
      · exact lv_tableIn (off := 79) (tgt := 112) hF.x hF.b dL_law_33 (by decide) (by decide) (by decide) (by decide) (la_fill hF hX hbl hL hk hK hS ha ha2 hw hl)
      · exact lv_tableIn (off := 112) (tgt := 145) hF.x hF.b dL_law_33 (by decide) (by decide) (by decide) (by decide) (la_basin hF hX hbl hL hk hK hS ha ha2 hw hl)
      · exact lv_tableIn (off := 135) (tgt := 168) hF.x hF.b dL_law_33 (by decide) (by decide) (by decide) (by decide) (la_gauge hF hX hbl hL hk hK hS ha ha2 hw hl)
      · exact lv_tableIn (off := 168) (tgt := 201) hF.x hF.b dL_law_33 (by decide) (by decide) (by decide) (by decide) (la_mark hF hX hbl hL hk hK hS ha ha2 hw hl)
      · exact lv_tableIn (off := 201) (tgt := 234) hF.x hF.b dL_law_33 (by decide) (by decide) (by decide) (by decide) (la_deed hF hX hbl hL hk hK hS ha ha2 hw hl)
      · exact lv_tableIn (off := 264) (tgt := 297) hF.x hF.b dL_law_33 (by decide) (by decide) (by decide) (by decide) (la_copy hF hX hbl hL hk hK hS ha ha2 hw hl)
      · exact lv_tableIn (off := 297) (tgt := 330) hF.x hF.b dL_law_33 (by decide) (by decide) (by decide) (by decide) (la_drop hF hX hbl hL hk hK hS ha ha2 hw hl)
      · exact lv_tableIn (off := 320) (tgt := 353) hF.x hF.b dL_law_33 (by decide) (by decide) (by decide) (by decide) (la_lever hF hX hbl hL hk hK hS ha ha2 hw hl)
      · exact lv_tableIn (off := 363) (tgt := 396) hF.x hF.b dL_law_33 (by decide) (by decide) (by decide) (by decide) (la_same hF hX hbl hL hk hK hS ha ha2 hw hl)
      · exact lv_tableIn (off := 396) (tgt := 429) hF.x hF.b dL_law_33 (by decide) (by decide) (by decide) (by decide) (la_count hF hX hbl hL hk hK hS ha ha2 hw hl)
      · exact lv_tableIn (off := 419) (tgt := 452) hF.x hF.b dL_law_33 (by decide) (by decide) (by decide) (by decide) (la_act hF hX hbl hL hk hK hS ha ha2 hw hl)
      · exact lv_tableIn (off := 452) (tgt := 485) hF.x hF.b dL_law_33 (by decide) (by decide) (by decide) (by decide) (la_pull hF hX hbl hL hk hK hS ha ha2 hw hl)
      · exact lv_tableIn (off := 485) (tgt := 518) hF.x hF.b dL_law_33 (by decide) (by decide) (by decide) (by decide) (la_tick hF hX hbl hL hk hK hS ha ha2 hw hl)
      · exact lv_tableIn (off := 498) (tgt := 531) hF.x hF.b dL_law_33 (by decide) (by decide) (by decide) (by decide) (la_failed hF hX hbl hL hk hK hS ha ha2 hw hl)
      · exact lv_tableIn (off := 511) (tgt := 544) hF.x hF.b dL_law_33 (by decide) (by decide) (by decide) (by decide) (la_told hF hX hbl hL hk hK hS ha ha2 hw hl)
      · exact lv_tableIn (off := 534) (tgt := 567) hF.x hF.b dL_law_33 (by decide) (by decide) (by decide) (by decide) (la_clear hF hX hbl hL hk hK hS ha ha2 hw hl)
end LAW
