/-! a deed's constructor -/
theorem ap_get (r : va_W) (x : Nat × va_E) : (r ++ [x])[r.length]? = some x := by simp
theorem ap_set (r : va_W) (x y : Nat × va_E) : (r ++ [x]).set r.length y = r ++ [y] := by simp
theorem nr_o (C : String) (o : Option Nat) : narrow (.object C) (va_rf o) = va_rf o := by cases o <;> rfl
theorem nr_a (t : FieldType) (o : Option Nat) : narrow (.array t) (va_rf o) = va_rf o := by cases o <;> rfl
theorem ft_o (C : String) (o : Option Nat) : fits (.object C) (va_rf o) = true := by cases o <;> rfl
theorem ft_a (t : FieldType) (o : Option Nat) : fits (.array t) (va_rf o) = true := by cases o <;> rfl

set_option maxHeartbeats 4000000 in
set_option maxRecDepth 100000 in
theorem k_X0_init {l : Launch} {p : Program} {e : Env} {s : State} {m : MethodId} {below : List Frame} {meth : Method} {c : Code} {args : Array Value} {A : Nat → Prop} {G : Gm} (hF : fx p s m args meth c cX0_init 8 yX0_init.cls kX0_init none) (hn : meth.name = "<init>") (rest : va_W) (q : Nat) (k x y z : Int32) (f g h : Option Nat) {H : Heap} {locs : List Loc} {ls : Array Slot} (hw : wb G A s (rest ++ [(q, .inr (0, [.int 0, .int 0, .int 0, .int 0, .null, .null, .null, .int 0]))]) H locs) (hl : lv_has ls 8 [(0, .ref q), (1, .int k), (2, .int x), (3, .int y), (4, .int z), (5, va_rf f), (6, va_rf g), (7, va_rf h)]) :
    W p l e (rr 1 12) s m args below meth c H locs 0 0 (MQ below (va_Qv (fun _ : Unit => True) (po G A (fun _ : Unit => rest ++ [(q, .inr (0, [.int k, .int x, .int y, .int z, va_rf f, va_rf g, va_rf h, .int 0]))])) A) args s 0 0 A) (F0 m 0 ls []) := by
  refine lv_aload_n hF.x hF.b dX0_init_0 rfl (lv_at hl 0 rfl) ?_
  refine r_obj hF (Or.inr hl.1) wq_X0_1 (by decide) (by decide) dX0_init_1 ?_
  refine lv_aload_n hF.x hF.b dX0_init_4 rfl (lv_at hl 0 rfl) ?_
  refine lv_iconst (v := 0) hF.x hF.b dX0_init_5 (by decide) ?_
  refine r_put (ws' := rest ++ [(q, .inr (0, [.int 0, .int 0, .int 0, .int 0, .null, .null, .null, .int 0]))]) hF hw rest.length (ap_get _ _) rfl inlX0 tyX0 tyX0_ok nmX0 7 (by decide) wf_X0_7 rfl rfl rfl (Nat.le_of_ble_eq_true rfl) (ap_set _ _ _) dX0_init_6 (fun H locs hw => ?_)
  refine lv_aload_n hF.x hF.b dX0_init_9 rfl (lv_at hl 0 rfl) ?_
  refine lv_iload_n hF.x hF.b dX0_init_10 rfl (lv_at hl 1 rfl) ?_
  refine r_putF (ws' := rest ++ [(q, .inr (0, [.int k, .int 0, .int 0, .int 0, .null, .null, .null, .int 0]))]) hF hw hn rest.length (ap_get _ _) rfl inlX0 tyX0 tyX0_ok nmX0 0 (by decide) wf_X0_13 rfl rfl rfl rfl (Nat.le_of_ble_eq_true rfl) (ap_set _ _ _) dX0_init_11 (fun H locs hw => ?_)
  refine lv_aload_n hF.x hF.b dX0_init_14 rfl (lv_at hl 0 rfl) ?_
  refine lv_iload_n hF.x hF.b dX0_init_15 rfl (lv_at hl 2 rfl) ?_
  refine r_putF (ws' := rest ++ [(q, .inr (0, [.int k, .int x, .int 0, .int 0, .null, .null, .null, .int 0]))]) hF hw hn rest.length (ap_get _ _) rfl inlX0 tyX0 tyX0_ok nmX0 1 (by decide) wf_X0_16 rfl rfl rfl rfl (Nat.le_of_ble_eq_true rfl) (ap_set _ _ _) dX0_init_16 (fun H locs hw => ?_)
  refine lv_aload_n hF.x hF.b dX0_init_19 rfl (lv_at hl 0 rfl) ?_
  refine lv_iload_n hF.x hF.b dX0_init_20 rfl (lv_at hl 3 rfl) ?_
  refine r_putF (ws' := rest ++ [(q, .inr (0, [.int k, .int x, .int y, .int 0, .null, .null, .null, .int 0]))]) hF hw hn rest.length (ap_get _ _) rfl inlX0 tyX0 tyX0_ok nmX0 2 (by decide) wf_X0_19 rfl rfl rfl rfl (Nat.le_of_ble_eq_true rfl) (ap_set _ _ _) dX0_init_21 (fun H locs hw => ?_)
  refine lv_aload_n hF.x hF.b dX0_init_24 rfl (lv_at hl 0 rfl) ?_
  refine lv_iload hF.x hF.b dX0_init_25 (lv_at hl 4 rfl) ?_
  refine r_putF (ws' := rest ++ [(q, .inr (0, [.int k, .int x, .int y, .int z, .null, .null, .null, .int 0]))]) hF hw hn rest.length (ap_get _ _) rfl inlX0 tyX0 tyX0_ok nmX0 3 (by decide) wf_X0_22 rfl rfl rfl rfl (Nat.le_of_ble_eq_true rfl) (ap_set _ _ _) dX0_init_27 (fun H locs hw => ?_)
  refine lv_aload_n hF.x hF.b dX0_init_30 rfl (lv_at hl 0 rfl) ?_
  refine lq_aload hF dX0_init_31 (lv_at hl 5 rfl) ?_
  refine r_putF (ws' := rest ++ [(q, .inr (0, [.int k, .int x, .int y, .int z, va_rf f, .null, .null, .int 0]))]) hF hw hn rest.length (ap_get _ _) rfl inlX0 tyX0 tyX0_ok nmX0 4 (by decide) wf_X0_25 rfl rfl (nr_o _ _) (ft_o _ _) (Nat.le_of_ble_eq_true rfl) (ap_set _ _ _) dX0_init_33 (fun H locs hw => ?_)
  refine lv_aload_n hF.x hF.b dX0_init_36 rfl (lv_at hl 0 rfl) ?_
  refine lq_aload hF dX0_init_37 (lv_at hl 6 rfl) ?_
  refine r_putF (ws' := rest ++ [(q, .inr (0, [.int k, .int x, .int y, .int z, va_rf f, va_rf g, .null, .int 0]))]) hF hw hn rest.length (ap_get _ _) rfl inlX0 tyX0 tyX0_ok nmX0 5 (by decide) wf_X0_29 rfl rfl (nr_o _ _) (ft_o _ _) (Nat.le_of_ble_eq_true rfl) (ap_set _ _ _) dX0_init_39 (fun H locs hw => ?_)
  refine lv_aload_n hF.x hF.b dX0_init_42 rfl (lv_at hl 0 rfl) ?_
  refine lq_aload hF dX0_init_43 (lv_at hl 7 rfl) ?_
  refine r_putF (ws' := rest ++ [(q, .inr (0, [.int k, .int x, .int y, .int z, va_rf f, va_rf g, va_rf h, .int 0]))]) hF hw hn rest.length (ap_get _ _) rfl inlX0 tyX0 tyX0_ok nmX0 6 (by decide) wf_X0_32 rfl rfl (nr_a _ _) (ft_a _ _) (Nat.le_of_ble_eq_true rfl) (ap_set _ _ _) dX0_init_45 (fun H locs hw => ?_)
  exact rt_V (u := ()) hF hw trivial (Nat.zero_le _) (Nat.zero_le _) dX0_init_48
theorem c0_init (l : Launch) (G : Gm) (rest : va_W) (q : Nat) (k x y z : Int32) (f g h : Option Nat) : ctV l yX0_init cX0_init 8 (rr 1 12) G [.ref q, .int k, .int x, .int y, .int z, va_rf f, va_rf g, va_rf h] (rest ++ [(q, .inr (0, [.int 0, .int 0, .int 0, .int 0, .null, .null, .null, .int 0]))]) (fun _ : Unit => True) (fun _ : Unit => rest ++ [(q, .inr (0, [.int k, .int x, .int y, .int z, va_rf f, va_rf g, va_rf h, .int 0]))]) := by
  cases f <;> cases g <;> cases h <;>
  · refine en_V (by decide +kernel) (Nat.le_of_ble_eq_true rfl) (fun p e s m below meth c A ls hF hn hw hl => ?_)
    exact k_X0_init hF hn rest q k x y z _ _ _ hw hl
