/-! a hall's constructor -/
def sx0 : SX := (fun _ => 0, fun _ _ => 0, fun _ _ => none, (0, fun _ => (fun _ => 0, fun _ => none)), (0, fun _ => (0, fun _ => 0)))
def ax0 (b0 b1 b2 b3 b4 b5 q : Nat) : AX := (fun k => if k = 0 then b0 else if k = 1 then b1 else if k = 2 then b2 else if k = 3 then b3 else if k = 4 then b4 else if k = 5 then b5 else q, fun _ => 0, fun _ => 0)
set_option maxHeartbeats 4000000 in
set_option maxRecDepth 100000 in
theorem c1_init (l : Launch) (G : Gm) (q : Nat) : ctV l yX1_init cX1_init 1 { frames := 1, cells := 6, slots := 77, locals := 12 } G [.ref q] [(q, .inr (1, [.null, .null, .null, .null, .null, .null, .int 0, .int 0, .int 0, .int 0, .int 0, .int 0, .int 0]))] (fun u : AX × SX => u.2 = sx0 ∧ u.1.1 13 = q) (fun u : AX × SX => wX G u.1 u.2) := by
  refine en_V (by decide +kernel) (Nat.le_of_ble_eq_true rfl) (fun p e s m below meth c A ls hF hn hw hl => ?_)
  have hl : lv_has ls 1 [(0, .ref q)] := hl
  generalize s.heap = H at hw ⊢
  generalize ([] : List Loc) = locs at hw ⊢
  refine lv_aload_n hF.x hF.b dX1_init_0 rfl (lv_at hl 0 rfl) ?_
  refine r_obj hF (Or.inr hl.1) wq_X1_1 (by decide) (by decide) dX1_init_1 ?_
  refine lv_aload_n hF.x hF.b dX1_init_4 rfl (lv_at hl 0 rfl) ?_
  refine lv_bipush (v := 10) hF.x hF.b dX1_init_5 (by decide) ?_
  refine r_newi (N := 10) hF hw (by decide) (by decide) (by decide) (by show 0 + 1 ≤ 6; decide) (by show 0 + 10 ≤ 77; decide) dX1_init_7 (fun b0 H hw => ?_)
  have hw : wb G A s [(q, .inr (1, [.null, .null, .null, .null, .null, .null, .int 0, .int 0, .int 0, .int 0, .int 0, .int 0, .int 0])), (b0, .inl (G.2.1, 10, .inl (fun _ => 0)))] H locs := hw
  refine W.widen (k := 1) (n := 10) (Nat.le_refl _) (Nat.le_refl _) ?_
  refine r_putF (ws' := [(q, .inr (1, [.ref b0, .null, .null, .null, .null, .null, .int 0, .int 0, .int 0, .int 0, .int 0, .int 0, .int 0])), (b0, .inl (G.2.1, 10, .inl (fun _ => 0)))]) hF hw hn 0 rfl rfl inlX1 tyX1 tyX1_ok nmX1 0 (by decide) wf_X1_9 rfl rfl rfl rfl (Nat.le_of_ble_eq_true rfl) rfl dX1_init_9 (fun H locs hw => ?_)
  refine lv_aload_n hF.x hF.b dX1_init_12 rfl (lv_at hl 0 rfl) ?_
  refine lv_iconst (v := 3) hF.x hF.b dX1_init_13 (by decide) ?_
  refine r_newG (N := 3) hF hw wc_X1_13 (by decide) (by decide) (by decide) (by show 1 + 1 ≤ 6; decide) (by show 10 + 3 ≤ 77; decide) dX1_init_14 (fun b1 H hw => ?_)
  have hw : wb G A s [(q, .inr (1, [.ref b0, .null, .null, .null, .null, .null, .int 0, .int 0, .int 0, .int 0, .int 0, .int 0, .int 0])), (b0, .inl (G.2.1, 10, .inl (fun _ => 0))), (b1, .inl (G.2.2.2, 3, qA (fun _ => none)))] H locs := hw
  refine W.widen (k := 2) (n := 13) (Nat.le_refl _) (Nat.le_refl _) ?_
  refine r_putF (ws' := [(q, .inr (1, [.ref b0, .ref b1, .null, .null, .null, .null, .int 0, .int 0, .int 0, .int 0, .int 0, .int 0, .int 0])), (b0, .inl (G.2.1, 10, .inl (fun _ => 0))), (b1, .inl (G.2.2.2, 3, qA (fun _ => none)))]) hF hw hn 0 rfl rfl inlX1 tyX1 tyX1_ok nmX1 1 (by decide) wf_X1_14 rfl rfl rfl rfl (Nat.le_of_ble_eq_true rfl) rfl dX1_init_17 (fun H locs hw => ?_)
  refine lv_aload_n hF.x hF.b dX1_init_20 rfl (lv_at hl 0 rfl) ?_
  refine lv_bipush (v := 20) hF.x hF.b dX1_init_21 (by decide) ?_
  refine r_newD (N := 20) hF hw wc_X1_18 (by decide) (by decide) (by decide) (by show 2 + 1 ≤ 6; decide) (by show 13 + 20 ≤ 77; decide) dX1_init_23 (fun b2 H hw => ?_)
  have hw : wb G A s [(q, .inr (1, [.ref b0, .ref b1, .null, .null, .null, .null, .int 0, .int 0, .int 0, .int 0, .int 0, .int 0, .int 0])), (b0, .inl (G.2.1, 10, .inl (fun _ => 0))), (b1, .inl (G.2.2.2, 3, qA (fun _ => none))), (b2, .inl (G.2.2.1, 20, qA (fun _ => none)))] H locs := hw
  refine W.widen (k := 3) (n := 33) (Nat.le_refl _) (Nat.le_refl _) ?_
  refine r_putF (ws' := [(q, .inr (1, [.ref b0, .ref b1, .ref b2, .null, .null, .null, .int 0, .int 0, .int 0, .int 0, .int 0, .int 0, .int 0])), (b0, .inl (G.2.1, 10, .inl (fun _ => 0))), (b1, .inl (G.2.2.2, 3, qA (fun _ => none))), (b2, .inl (G.2.2.1, 20, qA (fun _ => none)))]) hF hw hn 0 rfl rfl inlX1 tyX1 tyX1_ok nmX1 2 (by decide) wf_X1_20 rfl rfl rfl rfl (Nat.le_of_ble_eq_true rfl) rfl dX1_init_26 (fun H locs hw => ?_)
  refine lv_aload_n hF.x hF.b dX1_init_29 rfl (lv_at hl 0 rfl) ?_
  refine lv_bipush (v := 20) hF.x hF.b dX1_init_30 (by decide) ?_
  refine r_newD (N := 20) hF hw wc_X1_18 (by decide) (by decide) (by decide) (by show 3 + 1 ≤ 6; decide) (by show 33 + 20 ≤ 77; decide) dX1_init_32 (fun b3 H hw => ?_)
  have hw : wb G A s [(q, .inr (1, [.ref b0, .ref b1, .ref b2, .null, .null, .null, .int 0, .int 0, .int 0, .int 0, .int 0, .int 0, .int 0])), (b0, .inl (G.2.1, 10, .inl (fun _ => 0))), (b1, .inl (G.2.2.2, 3, qA (fun _ => none))), (b2, .inl (G.2.2.1, 20, qA (fun _ => none))), (b3, .inl (G.2.2.1, 20, qA (fun _ => none)))] H locs := hw
  refine W.widen (k := 4) (n := 53) (Nat.le_refl _) (Nat.le_refl _) ?_
  refine r_putF (ws' := [(q, .inr (1, [.ref b0, .ref b1, .ref b2, .ref b3, .null, .null, .int 0, .int 0, .int 0, .int 0, .int 0, .int 0, .int 0])), (b0, .inl (G.2.1, 10, .inl (fun _ => 0))), (b1, .inl (G.2.2.2, 3, qA (fun _ => none))), (b2, .inl (G.2.2.1, 20, qA (fun _ => none))), (b3, .inl (G.2.2.1, 20, qA (fun _ => none)))]) hF hw hn 0 rfl rfl inlX1 tyX1 tyX1_ok nmX1 3 (by decide) wf_X1_24 rfl rfl rfl rfl (Nat.le_of_ble_eq_true rfl) rfl dX1_init_35 (fun H locs hw => ?_)
  refine lv_aload_n hF.x hF.b dX1_init_38 rfl (lv_at hl 0 rfl) ?_
  refine lv_bipush (v := 12) hF.x hF.b dX1_init_39 (by decide) ?_
  refine r_newD (N := 12) hF hw wc_X1_18 (by decide) (by decide) (by decide) (by show 4 + 1 ≤ 6; decide) (by show 53 + 12 ≤ 77; decide) dX1_init_41 (fun b4 H hw => ?_)
  have hw : wb G A s [(q, .inr (1, [.ref b0, .ref b1, .ref b2, .ref b3, .null, .null, .int 0, .int 0, .int 0, .int 0, .int 0, .int 0, .int 0])), (b0, .inl (G.2.1, 10, .inl (fun _ => 0))), (b1, .inl (G.2.2.2, 3, qA (fun _ => none))), (b2, .inl (G.2.2.1, 20, qA (fun _ => none))), (b3, .inl (G.2.2.1, 20, qA (fun _ => none))), (b4, .inl (G.2.2.1, 12, qA (fun _ => none)))] H locs := hw
  refine W.widen (k := 5) (n := 65) (Nat.le_refl _) (Nat.le_refl _) ?_
  refine r_putF (ws' := [(q, .inr (1, [.ref b0, .ref b1, .ref b2, .ref b3, .ref b4, .null, .int 0, .int 0, .int 0, .int 0, .int 0, .int 0, .int 0])), (b0, .inl (G.2.1, 10, .inl (fun _ => 0))), (b1, .inl (G.2.2.2, 3, qA (fun _ => none))), (b2, .inl (G.2.2.1, 20, qA (fun _ => none))), (b3, .inl (G.2.2.1, 20, qA (fun _ => none))), (b4, .inl (G.2.2.1, 12, qA (fun _ => none)))]) hF hw hn 0 rfl rfl inlX1 tyX1 tyX1_ok nmX1 4 (by decide) wf_X1_27 rfl rfl rfl rfl (Nat.le_of_ble_eq_true rfl) rfl dX1_init_44 (fun H locs hw => ?_)
  refine lv_aload_n hF.x hF.b dX1_init_47 rfl (lv_at hl 0 rfl) ?_
  refine lv_bipush (v := 12) hF.x hF.b dX1_init_48 (by decide) ?_
  refine r_newi (N := 12) hF hw (by decide) (by decide) (by decide) (by show 5 + 1 ≤ 6; decide) (by show 65 + 12 ≤ 77; decide) dX1_init_50 (fun b5 H hw => ?_)
  have hw : wb G A s [(q, .inr (1, [.ref b0, .ref b1, .ref b2, .ref b3, .ref b4, .null, .int 0, .int 0, .int 0, .int 0, .int 0, .int 0, .int 0])), (b0, .inl (G.2.1, 10, .inl (fun _ => 0))), (b1, .inl (G.2.2.2, 3, qA (fun _ => none))), (b2, .inl (G.2.2.1, 20, qA (fun _ => none))), (b3, .inl (G.2.2.1, 20, qA (fun _ => none))), (b4, .inl (G.2.2.1, 12, qA (fun _ => none))), (b5, .inl (G.2.1, 12, .inl (fun _ => 0)))] H locs := hw
  refine W.widen (k := 6) (n := 77) (Nat.le_refl _) (Nat.le_refl _) ?_
  refine r_putF (ws' := [(q, .inr (1, [.ref b0, .ref b1, .ref b2, .ref b3, .ref b4, .ref b5, .int 0, .int 0, .int 0, .int 0, .int 0, .int 0, .int 0])), (b0, .inl (G.2.1, 10, .inl (fun _ => 0))), (b1, .inl (G.2.2.2, 3, qA (fun _ => none))), (b2, .inl (G.2.2.1, 20, qA (fun _ => none))), (b3, .inl (G.2.2.1, 20, qA (fun _ => none))), (b4, .inl (G.2.2.1, 12, qA (fun _ => none))), (b5, .inl (G.2.1, 12, .inl (fun _ => 0)))]) hF hw hn 0 rfl rfl inlX1 tyX1 tyX1_ok nmX1 5 (by decide) wf_X1_30 rfl rfl rfl rfl (Nat.le_of_ble_eq_true rfl) rfl dX1_init_52 (fun H locs hw => ?_)
  refine lv_aload_n hF.x hF.b dX1_init_55 rfl (lv_at hl 0 rfl) ?_
  refine lv_iconst (v := 0) hF.x hF.b dX1_init_56 (by decide) ?_
  refine r_put (ws' := [(q, .inr (1, [.ref b0, .ref b1, .ref b2, .ref b3, .ref b4, .ref b5, .int 0, .int 0, .int 0, .int 0, .int 0, .int 0, .int 0])), (b0, .inl (G.2.1, 10, .inl (fun _ => 0))), (b1, .inl (G.2.2.2, 3, qA (fun _ => none))), (b2, .inl (G.2.2.1, 20, qA (fun _ => none))), (b3, .inl (G.2.2.1, 20, qA (fun _ => none))), (b4, .inl (G.2.2.1, 12, qA (fun _ => none))), (b5, .inl (G.2.1, 12, .inl (fun _ => 0)))]) hF hw 0 rfl rfl inlX1 tyX1 tyX1_ok nmX1 6 (by decide) wf_X1_33 rfl rfl rfl (Nat.le_of_ble_eq_true rfl) rfl dX1_init_57 (fun H locs hw => ?_)
  refine lv_aload_n hF.x hF.b dX1_init_60 rfl (lv_at hl 0 rfl) ?_
  refine lv_iconst (v := 0) hF.x hF.b dX1_init_61 (by decide) ?_
  refine r_put (ws' := [(q, .inr (1, [.ref b0, .ref b1, .ref b2, .ref b3, .ref b4, .ref b5, .int 0, .int 0, .int 0, .int 0, .int 0, .int 0, .int 0])), (b0, .inl (G.2.1, 10, .inl (fun _ => 0))), (b1, .inl (G.2.2.2, 3, qA (fun _ => none))), (b2, .inl (G.2.2.1, 20, qA (fun _ => none))), (b3, .inl (G.2.2.1, 20, qA (fun _ => none))), (b4, .inl (G.2.2.1, 12, qA (fun _ => none))), (b5, .inl (G.2.1, 12, .inl (fun _ => 0)))]) hF hw 0 rfl rfl inlX1 tyX1 tyX1_ok nmX1 7 (by decide) wf_X1_37 rfl rfl rfl (Nat.le_of_ble_eq_true rfl) rfl dX1_init_62 (fun H locs hw => ?_)
  refine lv_aload_n hF.x hF.b dX1_init_65 rfl (lv_at hl 0 rfl) ?_
  refine lv_iconst (v := 0) hF.x hF.b dX1_init_66 (by decide) ?_
  refine r_put (ws' := [(q, .inr (1, [.ref b0, .ref b1, .ref b2, .ref b3, .ref b4, .ref b5, .int 0, .int 0, .int 0, .int 0, .int 0, .int 0, .int 0])), (b0, .inl (G.2.1, 10, .inl (fun _ => 0))), (b1, .inl (G.2.2.2, 3, qA (fun _ => none))), (b2, .inl (G.2.2.1, 20, qA (fun _ => none))), (b3, .inl (G.2.2.1, 20, qA (fun _ => none))), (b4, .inl (G.2.2.1, 12, qA (fun _ => none))), (b5, .inl (G.2.1, 12, .inl (fun _ => 0)))]) hF hw 0 rfl rfl inlX1 tyX1 tyX1_ok nmX1 8 (by decide) wf_X1_40 rfl rfl rfl (Nat.le_of_ble_eq_true rfl) rfl dX1_init_67 (fun H locs hw => ?_)
  refine lv_aload_n hF.x hF.b dX1_init_70 rfl (lv_at hl 0 rfl) ?_
  refine lv_iconst (v := 0) hF.x hF.b dX1_init_71 (by decide) ?_
  refine r_put (ws' := [(q, .inr (1, [.ref b0, .ref b1, .ref b2, .ref b3, .ref b4, .ref b5, .int 0, .int 0, .int 0, .int 0, .int 0, .int 0, .int 0])), (b0, .inl (G.2.1, 10, .inl (fun _ => 0))), (b1, .inl (G.2.2.2, 3, qA (fun _ => none))), (b2, .inl (G.2.2.1, 20, qA (fun _ => none))), (b3, .inl (G.2.2.1, 20, qA (fun _ => none))), (b4, .inl (G.2.2.1, 12, qA (fun _ => none))), (b5, .inl (G.2.1, 12, .inl (fun _ => 0)))]) hF hw 0 rfl rfl inlX1 tyX1 tyX1_ok nmX1 9 (by decide) wf_X1_43 rfl rfl rfl (Nat.le_of_ble_eq_true rfl) rfl dX1_init_72 (fun H locs hw => ?_)
  refine lv_aload_n hF.x hF.b dX1_init_75 rfl (lv_at hl 0 rfl) ?_
  refine lv_iconst (v := 0) hF.x hF.b dX1_init_76 (by decide) ?_
  refine r_put (ws' := [(q, .inr (1, [.ref b0, .ref b1, .ref b2, .ref b3, .ref b4, .ref b5, .int 0, .int 0, .int 0, .int 0, .int 0, .int 0, .int 0])), (b0, .inl (G.2.1, 10, .inl (fun _ => 0))), (b1, .inl (G.2.2.2, 3, qA (fun _ => none))), (b2, .inl (G.2.2.1, 20, qA (fun _ => none))), (b3, .inl (G.2.2.1, 20, qA (fun _ => none))), (b4, .inl (G.2.2.1, 12, qA (fun _ => none))), (b5, .inl (G.2.1, 12, .inl (fun _ => 0)))]) hF hw 0 rfl rfl inlX1 tyX1 tyX1_ok nmX1 10 (by decide) wf_X1_46 rfl rfl rfl (Nat.le_of_ble_eq_true rfl) rfl dX1_init_77 (fun H locs hw => ?_)
  refine lv_aload_n hF.x hF.b dX1_init_80 rfl (lv_at hl 0 rfl) ?_
  refine lv_iconst (v := 0) hF.x hF.b dX1_init_81 (by decide) ?_
  refine r_put (ws' := [(q, .inr (1, [.ref b0, .ref b1, .ref b2, .ref b3, .ref b4, .ref b5, .int 0, .int 0, .int 0, .int 0, .int 0, .int 0, .int 0])), (b0, .inl (G.2.1, 10, .inl (fun _ => 0))), (b1, .inl (G.2.2.2, 3, qA (fun _ => none))), (b2, .inl (G.2.2.1, 20, qA (fun _ => none))), (b3, .inl (G.2.2.1, 20, qA (fun _ => none))), (b4, .inl (G.2.2.1, 12, qA (fun _ => none))), (b5, .inl (G.2.1, 12, .inl (fun _ => 0)))]) hF hw 0 rfl rfl inlX1 tyX1 tyX1_ok nmX1 11 (by decide) wf_X1_49 rfl rfl rfl (Nat.le_of_ble_eq_true rfl) rfl dX1_init_82 (fun H locs hw => ?_)
  refine lv_aload_n hF.x hF.b dX1_init_85 rfl (lv_at hl 0 rfl) ?_
  refine lv_iconst (v := 0) hF.x hF.b dX1_init_86 (by decide) ?_
  refine r_put (ws' := [(q, .inr (1, [.ref b0, .ref b1, .ref b2, .ref b3, .ref b4, .ref b5, .int 0, .int 0, .int 0, .int 0, .int 0, .int 0, .int 0])), (b0, .inl (G.2.1, 10, .inl (fun _ => 0))), (b1, .inl (G.2.2.2, 3, qA (fun _ => none))), (b2, .inl (G.2.2.1, 20, qA (fun _ => none))), (b3, .inl (G.2.2.1, 20, qA (fun _ => none))), (b4, .inl (G.2.2.1, 12, qA (fun _ => none))), (b5, .inl (G.2.1, 12, .inl (fun _ => 0)))]) hF hw 0 rfl rfl inlX1 tyX1 tyX1_ok nmX1 12 (by decide) wf_X1_52 rfl rfl rfl (Nat.le_of_ble_eq_true rfl) rfl dX1_init_87 (fun H locs hw => ?_)
  have hw : wb G A s (wX G (ax0 b0 b1 b2 b3 b4 b5 q) sx0) H locs := hw
  exact rt_V (wf := fun u : AX × SX => wX G u.1 u.2) (u := (ax0 b0 b1 b2 b3 b4 b5 q, sx0)) hF hw ⟨rfl, rfl⟩ (Nat.le_refl _) (Nat.le_refl _) dX1_init_90
