def wp_X1_doThroughOthers_0 (k : Nat) (σ : SX) (d1 : Nat) (v2 : Int32) (v3 : Int32)  (post : Int32 → SX → Prop) : Prop :=
  d1 < σ.2.2.2.1.1 ∧ (((σ.2.2.2.1.2 d1).1 0).toInt < 7 ∨ 14 < ((σ.2.2.2.1.2 d1).1 0).toInt → q1_fail σ ((-6)) ∧ ∀ (r2 : Int32) (σ3 : SX), r2 = (f1_fail σ ((-6))).1 → σ3 = (f1_fail σ ((-6))).2 → post r2 σ3) ∧ (((σ.2.2.2.1.2 d1).1 0) = 7 → q1_doThen k σ d1 v2 v3 ∧ ∀ (r4 : Int32) (σ5 : SX), r4 = (f1_doThen k σ d1 v2 v3).1 → σ5 = (f1_doThen k σ d1 v2 v3).2 → post r4 σ5) ∧ (((σ.2.2.2.1.2 d1).1 0) = 8 → d1 < σ.2.2.2.1.1 ∧ q1_heldBy σ ((σ.2.2.2.1.2 d1).1 3) ∧ ∀ (r6 : Int32) (σ7 : SX), r6 = (f1_heldBy σ ((σ.2.2.2.1.2 d1).1 3)).1 → σ7 = (f1_heldBy σ ((σ.2.2.2.1.2 d1).1 3)).2 → (r6 ≤ v2 → d1 < σ7.2.2.2.1.1 ∧ ∀ o9 : Option Nat, o9 = (σ7.2.2.2.1.2 d1).2 4 → q1_do k σ7 o9 v2 v3 ∧ ∀ (r10 : Int32) (σ11 : SX), r10 = (f1_do k σ7 o9 v2 v3).1 → σ11 = (f1_do k σ7 o9 v2 v3).2 → post r10 σ11) ∧ (¬ r6 ≤ v2 → d1 < σ7.2.2.2.1.1 ∧ ∀ o12 : Option Nat, o12 = (σ7.2.2.2.1.2 d1).2 5 → q1_do k σ7 o12 v2 v3 ∧ ∀ (r13 : Int32) (σ14 : SX), r13 = (f1_do k σ7 o12 v2 v3).1 → σ14 = (f1_do k σ7 o12 v2 v3).2 → post r13 σ14)) ∧ (((σ.2.2.2.1.2 d1).1 0) = 9 → q1_doTimes k σ d1 v2 v3 ∧ ∀ (r15 : Int32) (σ16 : SX), r15 = (f1_doTimes k σ d1 v2 v3).1 → σ16 = (f1_doTimes k σ d1 v2 v3).2 → post r15 σ16) ∧ (((σ.2.2.2.1.2 d1).1 0) = 10 → q1_doTry k σ d1 v2 v3 ∧ ∀ (r17 : Int32) (σ18 : SX), r17 = (f1_doTry k σ d1 v2 v3).1 → σ18 = (f1_doTry k σ d1 v2 v3).2 → post r17 σ18) ∧ (((σ.2.2.2.1.2 d1).1 0) = 11 → q1_doLater σ d1 v2 ∧ ∀ (r19 : Int32) (σ20 : SX), r19 = (f1_doLater σ d1 v2).1 → σ20 = (f1_doLater σ d1 v2).2 → post r19 σ20) ∧ (((σ.2.2.2.1.2 d1).1 0) = 12 → q1_doCount k σ d1 v2 v3 ∧ ∀ (r21 : Int32) (σ22 : SX), r21 = (f1_doCount k σ d1 v2 v3).1 → σ22 = (f1_doCount k σ d1 v2 v3).2 → post r21 σ22) ∧ (((σ.2.2.2.1.2 d1).1 0) = 13 → d1 < σ.2.2.2.1.1 ∧ q1_doPlaces k σ ((σ.2.2.2.1.2 d1).1 1) v2 v3 ∧ ∀ (r23 : Int32) (σ24 : SX), r23 = (f1_doPlaces k σ ((σ.2.2.2.1.2 d1).1 1) v2 v3).1 → σ24 = (f1_doPlaces k σ ((σ.2.2.2.1.2 d1).1 1) v2 v3).2 → post r23 σ24) ∧ (((σ.2.2.2.1.2 d1).1 0) = 14 → d1 < σ.2.2.2.1.1 ∧ q1_inSlot σ ((σ.2.2.2.1.2 d1).1 1) ∧ ∀ (o25 : Option Nat) (σ26 : SX), o25 = (f1_inSlot σ ((σ.2.2.2.1.2 d1).1 1)).1 → σ26 = (f1_inSlot σ ((σ.2.2.2.1.2 d1).1 1)).2 → q1_do k σ26 o25 v2 v3 ∧ ∀ (r27 : Int32) (σ28 : SX), r27 = (f1_do k σ26 o25 v2 v3).1 → σ28 = (f1_do k σ26 o25 v2 v3).2 → post r27 σ28)
set_option maxHeartbeats 4000000 in
set_option maxRecDepth 100000 in
theorem k_X1_doThroughOthers_0 {l : Launch} {p : Program} {e : Env} {s : State} {m : MethodId} {below : List Frame} {meth : Method} {c : Code} {args : Array Value} {A : Nat → Prop} {G : Gm} {a : AX} {k : Nat} (hDo : ∀ (σ : SX) (o : Option Nat) (v2 v3 : Int32), q1_do k σ o v2 v3 → ctI l yX1_doDeed cX1_doDeed 4 .int (rDo k) G [.ref (a.1 13), va_rf (Option.map a.2.1 o), .int v2, .int v3] (wX G a σ) (fun (r : Int32) (u : SX) => r = (f1_do k σ o v2 v3).1 ∧ u = (f1_do k σ o v2 v3).2) (wX G a))  (hF : fx p s m args meth c cX1_doThroughOthers 4 yX1_doThroughOthers.cls kX1_doThroughOthers (some (.int))) {post : Int32 → SX → Prop}  (σ : SX) (d1 : Nat) (v2 : Int32) (v3 : Int32) {H : Heap} {locs : List Loc} {ls : Array Slot} (hw : wb G A s (wX G a σ) H locs) (hl : lv_has ls 4 [(0, .ref (a.1 13)), (1, .ref (a.2.1 d1)), (2, .int v2), (3, .int v3)]) (hok : wp_X1_doThroughOthers_0 k σ d1 v2 v3  post) :
    W p l e (rTO k) s m args below meth c H locs 0 0 (MQ below (va_Qi post (po G A (wX G a)) A) args s 0 0 A) (F0 m 0 ls []) := by
  unfold wp_X1_doThroughOthers_0 at hok
  refine lv_aload_n hF.x hF.b dX1_doThroughOthers_0 rfl (lv_at hl 1 rfl) ?_
  refine rx_dget (k := 0) hF hw hok.1 (by decide) (by unfold nestW; simp [TX0]) rfl dX1_doThroughOthers_1 ?_
  replace hok := hok.2
  by_cases c1 : ((σ.2.2.2.1.2 d1).1 0).toInt < 7 ∨ 14 < ((σ.2.2.2.1.2 d1).1 0).toInt
  · replace hok := hok.1 c1
    refine lv_tableOut (tgt := 147) hF.x hF.b dX1_doThroughOthers_4 c1 (by decide) ?_
    refine lv_aload_n hF.x hF.b dX1_doThroughOthers_147 rfl (lv_at hl 0 rfl) ?_
    refine lv_bipush (v := (-6)) hF.x hF.b dX1_doThroughOthers_148 (by decide) ?_
    refine ca_I hF hw (c1_fail l G a σ ((-6)) hok.1) wv_X1_137 (q0 := 0) rfl rfl rfl ⟨nd_X1.1, nd_X1.2, pd_X1_fail⟩ ⟨by show 0 + 1 ≤ 3 * k + 8; omega, by show 8 + (2 + 11) + 0 ≤ 75 * k + 208; omega⟩ ⟨Nat.zero_le _, Nat.zero_le _⟩ hl.1 rfl (by first | exact Nat.le_of_ble_eq_true rfl | simp [cat_rf, Value.category]) dX1_doThroughOthers_150 (fun r2 σ3 H locs hp hw => ?_)
    obtain ⟨er2, eσ3⟩ := hp
    replace hok := hok.2 r2 σ3 er2 eσ3
    exact rt_I (u := σ3) hF hw hok (Nat.zero_le _) (Nat.zero_le _) dX1_doThroughOthers_153
  · obtain ⟨j, hj1, hj2, ex⟩ := sw_in (lo := 7) (hi := 14) c1 (by decide)
    rcases (show j = 7 ∨ j = 8 ∨ j = 9 ∨ j = 10 ∨ j = 11 ∨ j = 12 ∨ j = 13 ∨ j = 14 by omega) with rfl | rfl | rfl | rfl | rfl | rfl | rfl | rfl
    · replace hok := hok.2.1 ex
      refine lv_tableIn (off := 48) (tgt := 52) hF.x hF.b dX1_doThroughOthers_4 (by rw [ex]; decide) (by rw [ex]; decide) (by rw [ex]; rfl) (by decide) ?_
      refine lv_aload_n hF.x hF.b dX1_doThroughOthers_52 rfl (lv_at hl 0 rfl) ?_
      refine lv_aload_n hF.x hF.b dX1_doThroughOthers_53 rfl (lv_at hl 1 rfl) ?_
      refine lv_iload_n hF.x hF.b dX1_doThroughOthers_54 rfl (lv_at hl 2 rfl) ?_
      refine lv_iload_n hF.x hF.b dX1_doThroughOthers_55 rfl (lv_at hl 3 rfl) ?_
      refine ca_I hF hw (c1_doThen hDo σ d1 v2 v3 hok.1) wv_X1_162 (q0 := 0) rfl rfl rfl ⟨nd_X1.1, nd_X1.2, pd_X1_doThen⟩ ⟨by show 3 * k + 7 + 1 ≤ 3 * k + 8; omega, by show 8 + (5 + 11) + (75 * k + 183) ≤ 75 * k + 208; omega⟩ ⟨Nat.zero_le _, Nat.zero_le _⟩ hl.1 rfl (by first | exact Nat.le_of_ble_eq_true rfl | simp [cat_rf, Value.category]) dX1_doThroughOthers_56 (fun r4 σ5 H locs hp hw => ?_)
      obtain ⟨er4, eσ5⟩ := hp
      replace hok := hok.2 r4 σ5 er4 eσ5
      exact rt_I (u := σ5) hF hw hok (Nat.zero_le _) (Nat.zero_le _) dX1_doThroughOthers_59
    · replace hok := hok.2.2.1 ex
      refine lv_tableIn (off := 56) (tgt := 60) hF.x hF.b dX1_doThroughOthers_4 (by rw [ex]; decide) (by rw [ex]; decide) (by rw [ex]; rfl) (by decide) ?_
      refine lv_aload_n hF.x hF.b dX1_doThroughOthers_60 rfl (lv_at hl 0 rfl) ?_
      refine lv_aload_n hF.x hF.b dX1_doThroughOthers_61 rfl (lv_at hl 0 rfl) ?_
      refine lv_aload_n hF.x hF.b dX1_doThroughOthers_62 rfl (lv_at hl 1 rfl) ?_
      refine rx_dget (k := 3) hF hw hok.1 (by decide) (by unfold nestW; simp [TX0]) rfl dX1_doThroughOthers_63 ?_
      replace hok := hok.2
      refine ca_I hF hw (c1_heldBy l G a σ ((σ.2.2.2.1.2 d1).1 3) hok.1) wv_X1_55 (q0 := 0) rfl rfl rfl ⟨nd_X1.1, nd_X1.2, pd_X1_heldBy⟩ ⟨by show 1 + 1 ≤ 3 * k + 8; omega, by show 8 + (2 + 11) + 20 ≤ 75 * k + 208; omega⟩ ⟨Nat.zero_le _, Nat.zero_le _⟩ hl.1 rfl (by first | exact Nat.le_of_ble_eq_true rfl | simp [cat_rf, Value.category]) dX1_doThroughOthers_66 (fun r6 σ7 H locs hp hw => ?_)
      obtain ⟨er6, eσ7⟩ := hp
      replace hok := hok.2 r6 σ7 er6 eσ7
      refine lv_iload_n hF.x hF.b dX1_doThroughOthers_69 rfl (lv_at hl 2 rfl) ?_
      refine lv_icmp_le (tgt := 80) hF.x hF.b dX1_doThroughOthers_70 (by decide) (fun c8 => ?_) (fun c8 => ?_)
      · replace hok := hok.1 c8
        refine lv_aload_n hF.x hF.b dX1_doThroughOthers_80 rfl (lv_at hl 1 rfl) ?_
        refine rx_dget (k := 4) hF hw hok.1 (by decide) (by unfold nestW; simp [TX0]) rfl dX1_doThroughOthers_81 ?_
        obtain ⟨o9, eo9⟩ : ∃ z : Option Nat, z = (σ7.2.2.2.1.2 d1).2 4 := ⟨_, rfl⟩
        rw [← eo9]
        replace hok := hok.2 o9 eo9
        refine lv_iload_n hF.x hF.b dX1_doThroughOthers_84 rfl (lv_at hl 2 rfl) ?_
        refine lv_iload_n hF.x hF.b dX1_doThroughOthers_85 rfl (lv_at hl 3 rfl) ?_
        refine ca_I hF hw (hDo σ7 o9 v2 v3 hok.1) wv_X1_110 (q0 := 0) rfl rfl rfl ⟨nd_X1.1, nd_X1.2, pd_X1_doDeed⟩ ⟨by show 3 * k + 6 + 1 ≤ 3 * k + 8; omega, by show 8 + (4 + 11) + (75 * k + 160) ≤ 75 * k + 208; omega⟩ ⟨Nat.zero_le _, Nat.zero_le _⟩ hl.1 rfl (by first | exact Nat.le_of_ble_eq_true rfl | simp [cat_rf, Value.category]) dX1_doThroughOthers_86 (fun r10 σ11 H locs hp hw => ?_)
        obtain ⟨er10, eσ11⟩ := hp
        replace hok := hok.2 r10 σ11 er10 eσ11
        exact rt_I (u := σ11) hF hw hok (Nat.zero_le _) (Nat.zero_le _) dX1_doThroughOthers_89
      · replace hok := hok.2 c8
        refine lv_aload_n hF.x hF.b dX1_doThroughOthers_73 rfl (lv_at hl 1 rfl) ?_
        refine rx_dget (k := 5) hF hw hok.1 (by decide) (by unfold nestW; simp [TX0]) rfl dX1_doThroughOthers_74 ?_
        obtain ⟨o12, eo12⟩ : ∃ z : Option Nat, z = (σ7.2.2.2.1.2 d1).2 5 := ⟨_, rfl⟩
        rw [← eo12]
        replace hok := hok.2 o12 eo12
        refine lv_goto (tgt := 84) hF.x hF.b dX1_doThroughOthers_77 (by decide) ?_
        refine lv_iload_n hF.x hF.b dX1_doThroughOthers_84 rfl (lv_at hl 2 rfl) ?_
        refine lv_iload_n hF.x hF.b dX1_doThroughOthers_85 rfl (lv_at hl 3 rfl) ?_
        refine ca_I hF hw (hDo σ7 o12 v2 v3 hok.1) wv_X1_110 (q0 := 0) rfl rfl rfl ⟨nd_X1.1, nd_X1.2, pd_X1_doDeed⟩ ⟨by show 3 * k + 6 + 1 ≤ 3 * k + 8; omega, by show 8 + (4 + 11) + (75 * k + 160) ≤ 75 * k + 208; omega⟩ ⟨Nat.zero_le _, Nat.zero_le _⟩ hl.1 rfl (by first | exact Nat.le_of_ble_eq_true rfl | simp [cat_rf, Value.category]) dX1_doThroughOthers_86 (fun r13 σ14 H locs hp hw => ?_)
        obtain ⟨er13, eσ14⟩ := hp
        replace hok := hok.2 r13 σ14 er13 eσ14
        exact rt_I (u := σ14) hF hw hok (Nat.zero_le _) (Nat.zero_le _) dX1_doThroughOthers_89
    · replace hok := hok.2.2.2.1 ex
      refine lv_tableIn (off := 86) (tgt := 90) hF.x hF.b dX1_doThroughOthers_4 (by rw [ex]; decide) (by rw [ex]; decide) (by rw [ex]; rfl) (by decide) ?_
      refine lv_aload_n hF.x hF.b dX1_doThroughOthers_90 rfl (lv_at hl 0 rfl) ?_
      refine lv_aload_n hF.x hF.b dX1_doThroughOthers_91 rfl (lv_at hl 1 rfl) ?_
      refine lv_iload_n hF.x hF.b dX1_doThroughOthers_92 rfl (lv_at hl 2 rfl) ?_
      refine lv_iload_n hF.x hF.b dX1_doThroughOthers_93 rfl (lv_at hl 3 rfl) ?_
      refine ca_I hF hw (c1_doTimes hDo σ d1 v2 v3 hok.1) wv_X1_175 (q0 := 0) rfl rfl rfl ⟨nd_X1.1, nd_X1.2, pd_X1_doTimes⟩ ⟨by show 3 * k + 7 + 1 ≤ 3 * k + 8; omega, by show 8 + (6 + 11) + (75 * k + 183) ≤ 75 * k + 208; omega⟩ ⟨Nat.zero_le _, Nat.zero_le _⟩ hl.1 rfl (by first | exact Nat.le_of_ble_eq_true rfl | simp [cat_rf, Value.category]) dX1_doThroughOthers_94 (fun r15 σ16 H locs hp hw => ?_)
      obtain ⟨er15, eσ16⟩ := hp
      replace hok := hok.2 r15 σ16 er15 eσ16
      exact rt_I (u := σ16) hF hw hok (Nat.zero_le _) (Nat.zero_le _) dX1_doThroughOthers_97
    · replace hok := hok.2.2.2.2.1 ex
      refine lv_tableIn (off := 94) (tgt := 98) hF.x hF.b dX1_doThroughOthers_4 (by rw [ex]; decide) (by rw [ex]; decide) (by rw [ex]; rfl) (by decide) ?_
      refine lv_aload_n hF.x hF.b dX1_doThroughOthers_98 rfl (lv_at hl 0 rfl) ?_
      refine lv_aload_n hF.x hF.b dX1_doThroughOthers_99 rfl (lv_at hl 1 rfl) ?_
      refine lv_iload_n hF.x hF.b dX1_doThroughOthers_100 rfl (lv_at hl 2 rfl) ?_
      refine lv_iload_n hF.x hF.b dX1_doThroughOthers_101 rfl (lv_at hl 3 rfl) ?_
      refine ca_I hF hw (c1_doTry hDo σ d1 v2 v3 hok.1) wv_X1_178 (q0 := 0) rfl rfl rfl ⟨nd_X1.1, nd_X1.2, pd_X1_doTry⟩ ⟨by show 3 * k + 7 + 1 ≤ 3 * k + 8; omega, by show 8 + (5 + 11) + (75 * k + 183) ≤ 75 * k + 208; omega⟩ ⟨Nat.zero_le _, Nat.zero_le _⟩ hl.1 rfl (by first | exact Nat.le_of_ble_eq_true rfl | simp [cat_rf, Value.category]) dX1_doThroughOthers_102 (fun r17 σ18 H locs hp hw => ?_)
      obtain ⟨er17, eσ18⟩ := hp
      replace hok := hok.2 r17 σ18 er17 eσ18
      exact rt_I (u := σ18) hF hw hok (Nat.zero_le _) (Nat.zero_le _) dX1_doThroughOthers_105
    · replace hok := hok.2.2.2.2.2.1 ex
      refine lv_tableIn (off := 102) (tgt := 106) hF.x hF.b dX1_doThroughOthers_4 (by rw [ex]; decide) (by rw [ex]; decide) (by rw [ex]; rfl) (by decide) ?_
      refine lv_aload_n hF.x hF.b dX1_doThroughOthers_106 rfl (lv_at hl 0 rfl) ?_
      refine lv_aload_n hF.x hF.b dX1_doThroughOthers_107 rfl (lv_at hl 1 rfl) ?_
      refine lv_iload_n hF.x hF.b dX1_doThroughOthers_108 rfl (lv_at hl 2 rfl) ?_
      refine ca_I hF hw (c1_doLater l G a σ d1 v2 hok.1) wv_X1_181 (q0 := 0) rfl rfl rfl ⟨nd_X1.1, nd_X1.2, pd_X1_doLater⟩ ⟨by show 1 + 1 ≤ 3 * k + 8; omega, by show 8 + (4 + 11) + 21 ≤ 75 * k + 208; omega⟩ ⟨Nat.zero_le _, Nat.zero_le _⟩ hl.1 rfl (by first | exact Nat.le_of_ble_eq_true rfl | simp [cat_rf, Value.category]) dX1_doThroughOthers_109 (fun r19 σ20 H locs hp hw => ?_)
      obtain ⟨er19, eσ20⟩ := hp
      replace hok := hok.2 r19 σ20 er19 eσ20
      exact rt_I (u := σ20) hF hw hok (Nat.zero_le _) (Nat.zero_le _) dX1_doThroughOthers_112
    · replace hok := hok.2.2.2.2.2.2.1 ex
      refine lv_tableIn (off := 109) (tgt := 113) hF.x hF.b dX1_doThroughOthers_4 (by rw [ex]; decide) (by rw [ex]; decide) (by rw [ex]; rfl) (by decide) ?_
      refine lv_aload_n hF.x hF.b dX1_doThroughOthers_113 rfl (lv_at hl 0 rfl) ?_
      refine lv_aload_n hF.x hF.b dX1_doThroughOthers_114 rfl (lv_at hl 1 rfl) ?_
      refine lv_iload_n hF.x hF.b dX1_doThroughOthers_115 rfl (lv_at hl 2 rfl) ?_
      refine lv_iload_n hF.x hF.b dX1_doThroughOthers_116 rfl (lv_at hl 3 rfl) ?_
      refine ca_I hF hw (c1_doCount hDo σ d1 v2 v3 hok.1) wv_X1_184 (q0 := 0) rfl rfl rfl ⟨nd_X1.1, nd_X1.2, pd_X1_doCount⟩ ⟨by show 3 * k + 7 + 1 ≤ 3 * k + 8; omega, by show 8 + (4 + 11) + (75 * k + 183) ≤ 75 * k + 208; omega⟩ ⟨Nat.zero_le _, Nat.zero_le _⟩ hl.1 rfl (by first | exact Nat.le_of_ble_eq_true rfl | simp [cat_rf, Value.category]) dX1_doThroughOthers_117 (fun r21 σ22 H locs hp hw => ?_)
      obtain ⟨er21, eσ22⟩ := hp
      replace hok := hok.2 r21 σ22 er21 eσ22
      exact rt_I (u := σ22) hF hw hok (Nat.zero_le _) (Nat.zero_le _) dX1_doThroughOthers_120
    · replace hok := hok.2.2.2.2.2.2.2.1 ex
      refine lv_tableIn (off := 117) (tgt := 121) hF.x hF.b dX1_doThroughOthers_4 (by rw [ex]; decide) (by rw [ex]; decide) (by rw [ex]; rfl) (by decide) ?_
      refine lv_aload_n hF.x hF.b dX1_doThroughOthers_121 rfl (lv_at hl 0 rfl) ?_
      refine lv_aload_n hF.x hF.b dX1_doThroughOthers_122 rfl (lv_at hl 1 rfl) ?_
      refine rx_dget (k := 1) hF hw hok.1 (by decide) (by unfold nestW; simp [TX0]) rfl dX1_doThroughOthers_123 ?_
      replace hok := hok.2
      refine lv_iload_n hF.x hF.b dX1_doThroughOthers_126 rfl (lv_at hl 2 rfl) ?_
      refine lv_iload_n hF.x hF.b dX1_doThroughOthers_127 rfl (lv_at hl 3 rfl) ?_
      refine ca_I hF hw (c1_doPlaces hDo σ ((σ.2.2.2.1.2 d1).1 1) v2 v3 hok.1) wv_X1_117 (q0 := 0) rfl rfl rfl ⟨nd_X1.1, nd_X1.2, pd_X1_doPlaces⟩ ⟨by show 3 * k + 7 + 1 ≤ 3 * k + 8; omega, by show 8 + (6 + 11) + (75 * k + 183) ≤ 75 * k + 208; omega⟩ ⟨Nat.zero_le _, Nat.zero_le _⟩ hl.1 rfl (by first | exact Nat.le_of_ble_eq_true rfl | simp [cat_rf, Value.category]) dX1_doThroughOthers_128 (fun r23 σ24 H locs hp hw => ?_)
      obtain ⟨er23, eσ24⟩ := hp
      replace hok := hok.2 r23 σ24 er23 eσ24
      exact rt_I (u := σ24) hF hw hok (Nat.zero_le _) (Nat.zero_le _) dX1_doThroughOthers_131
    · replace hok := hok.2.2.2.2.2.2.2.2 ex
      refine lv_tableIn (off := 128) (tgt := 132) hF.x hF.b dX1_doThroughOthers_4 (by rw [ex]; decide) (by rw [ex]; decide) (by rw [ex]; rfl) (by decide) ?_
      refine lv_aload_n hF.x hF.b dX1_doThroughOthers_132 rfl (lv_at hl 0 rfl) ?_
      refine lv_aload_n hF.x hF.b dX1_doThroughOthers_133 rfl (lv_at hl 0 rfl) ?_
      refine lv_aload_n hF.x hF.b dX1_doThroughOthers_134 rfl (lv_at hl 1 rfl) ?_
      refine rx_dget (k := 1) hF hw hok.1 (by decide) (by unfold nestW; simp [TX0]) rfl dX1_doThroughOthers_135 ?_
      replace hok := hok.2
      refine ca_Q hF hw (c1_inSlot l G a σ ((σ.2.2.2.1.2 d1).1 1) hok.1) wv_X1_85 (q0 := 0) rfl rfl rfl ⟨nd_X1.1, nd_X1.2, pd_X1_inSlot⟩ ⟨by show 1 + 1 ≤ 3 * k + 8; omega, by show 8 + (2 + 11) + 20 ≤ 75 * k + 208; omega⟩ ⟨Nat.zero_le _, Nat.zero_le _⟩ hl.1 rfl (by first | exact Nat.le_of_ble_eq_true rfl | simp [cat_rf, Value.category]) dX1_doThroughOthers_138 (fun rq σ26 H locs hp hw => ?_)
      obtain ⟨o25, hr, eo25, eσ26⟩ := hp
      subst hr
      replace hok := hok.2 o25 σ26 eo25 eσ26
      refine lv_iload_n hF.x hF.b dX1_doThroughOthers_141 rfl (lv_at hl 2 rfl) ?_
      refine lv_iload_n hF.x hF.b dX1_doThroughOthers_142 rfl (lv_at hl 3 rfl) ?_
      refine ca_I hF hw (hDo σ26 o25 v2 v3 hok.1) wv_X1_110 (q0 := 0) rfl rfl rfl ⟨nd_X1.1, nd_X1.2, pd_X1_doDeed⟩ ⟨by show 3 * k + 6 + 1 ≤ 3 * k + 8; omega, by show 8 + (4 + 11) + (75 * k + 160) ≤ 75 * k + 208; omega⟩ ⟨Nat.zero_le _, Nat.zero_le _⟩ hl.1 rfl (by first | exact Nat.le_of_ble_eq_true rfl | simp [cat_rf, Value.category]) dX1_doThroughOthers_143 (fun r27 σ28 H locs hp hw => ?_)
      obtain ⟨er27, eσ28⟩ := hp
      replace hok := hok.2 r27 σ28 er27 eσ28
      exact rt_I (u := σ28) hF hw hok (Nat.zero_le _) (Nat.zero_le _) dX1_doThroughOthers_146

theorem p1_doThroughOthers {k : Nat} (σ : SX) (d1 : Nat) (v2 v3 : Int32) (h : q1_doThroughOthers k σ d1 v2 v3) : wp_X1_doThroughOthers_0 k σ d1 v2 v3 (fun r u => r = (f1_doThroughOthers k σ d1 v2 v3).1 ∧ u = (f1_doThroughOthers k σ d1 v2 v3).2) := by
  have hn : ∀ n : Nat, n < 16 → ∀ x y : Int32, x = nI n → ¬ nI n = y → ¬ x = y := fun n _ x y e h2 h3 => h2 (e.symm.trans h3)
  refine ⟨h.2.1, fun c => ⟨trivial, fun r2 σ3 e2 e3 => ?_⟩, fun c => ⟨h, fun r4 σ5 e4 e5 => ?_⟩, fun c => ⟨h.2.1, trivial, fun r6 σ7 e6 e7 => ?_⟩, fun c => ⟨h, fun r4 σ5 e4 e5 => ?_⟩, fun c => ⟨h, fun r4 σ5 e4 e5 => ?_⟩, fun c => ⟨⟨h.1, h.2.1⟩, fun r4 σ5 e4 e5 => ?_⟩, fun c => ⟨h, fun r4 σ5 e4 e5 => ?_⟩, fun c => ⟨h.2.1, ⟨h.1, h.2.2⟩, fun r4 σ5 e4 e5 => ?_⟩, fun c => ⟨h.2.1, trivial, fun o3 σ4 e3 e4 => ?_⟩⟩
  · have hk : ∀ n : Nat, 7 ≤ n → n ≤ 14 → ¬ (σ.2.2.2.1.2 d1).1 0 = nI n := fun n hn hn2 e => by
      rw [e, nI_toInt (by omega)] at c
      omega
    simp only [fx_to]
    rw [if_neg (show ¬ (σ.2.2.2.1.2 d1).1 0 = 7 from hk 7 (by decide) (by decide)), if_neg (show ¬ (σ.2.2.2.1.2 d1).1 0 = 8 from hk 8 (by decide) (by decide)), if_neg (show ¬ (σ.2.2.2.1.2 d1).1 0 = 9 from hk 9 (by decide) (by decide)), if_neg (show ¬ (σ.2.2.2.1.2 d1).1 0 = 10 from hk 10 (by decide) (by decide)), if_neg (show ¬ (σ.2.2.2.1.2 d1).1 0 = 11 from hk 11 (by decide) (by decide)), if_neg (show ¬ (σ.2.2.2.1.2 d1).1 0 = 12 from hk 12 (by decide) (by decide)), if_neg (show ¬ (σ.2.2.2.1.2 d1).1 0 = 13 from hk 13 (by decide) (by decide)), if_neg (show ¬ (σ.2.2.2.1.2 d1).1 0 = 14 from hk 14 (by decide) (by decide))]
    exact ⟨e2, e3⟩
  · simp only [fx_to]
    rw [c, if_pos (by decide)]; exact ⟨e4, e5⟩
  · obtain rfl : σ7 = σ := e7
    subst e6
    refine ⟨fun c2 => ⟨h.2.1, fun o9 e9 => ?_⟩, fun c2 => ⟨h.2.1, fun o9 e9 => ?_⟩⟩
    · refine ⟨⟨h.1, by rw [e9]; exact okO.f h.1 h.2.1, h.2.2⟩, fun r1 σ1 e1 e2 => ?_⟩
      subst e9
      simp only [fx_to]
      rw [c, if_neg (by decide), if_pos (by decide), if_pos c2]
      exact ⟨e1, e2⟩
    · refine ⟨⟨h.1, by rw [e9]; exact okO.s h.1 h.2.1, h.2.2⟩, fun r1 σ1 e1 e2 => ?_⟩
      subst e9
      simp only [fx_to]
      rw [c, if_neg (by decide), if_pos (by decide), if_neg c2]
      exact ⟨e1, e2⟩
  · simp only [fx_to]
    rw [c, if_neg (by decide), if_neg (by decide), if_pos (by decide)]; exact ⟨e4, e5⟩
  · simp only [fx_to]
    rw [c, if_neg (by decide), if_neg (by decide), if_neg (by decide), if_pos (by decide)]; exact ⟨e4, e5⟩
  · simp only [fx_to]
    rw [c, if_neg (by decide), if_neg (by decide), if_neg (by decide), if_neg (by decide), if_pos (by decide)]; exact ⟨e4, e5⟩
  · simp only [fx_to]
    rw [c, if_neg (by decide), if_neg (by decide), if_neg (by decide), if_neg (by decide), if_neg (by decide), if_pos (by decide)]; exact ⟨e4, e5⟩
  · simp only [fx_to]
    rw [c, if_neg (by decide), if_neg (by decide), if_neg (by decide), if_neg (by decide), if_neg (by decide), if_neg (by decide), if_pos (by decide)]; exact ⟨e4, e5⟩
  · obtain rfl : σ4 = σ := e4
    refine ⟨⟨h.1, by rw [e3]; exact okO.in h.1 _, h.2.2⟩, fun r1 σ1 e1 e2 => ?_⟩
    subst e3
    simp only [fx_to]
    rw [c, if_neg (by decide), if_neg (by decide), if_neg (by decide), if_neg (by decide), if_neg (by decide), if_neg (by decide), if_neg (by decide), if_pos (by decide)]; exact ⟨e1, e2⟩
theorem c1_doThroughOthers {l : Launch} {G : Gm} {a : AX} {k : Nat} (hDo : ∀ (σ : SX) (o : Option Nat) (v2 v3 : Int32), q1_do k σ o v2 v3 → ctI l yX1_doDeed cX1_doDeed 4 .int (rDo k) G [.ref (a.1 13), va_rf (Option.map a.2.1 o), .int v2, .int v3] (wX G a σ) (fun (r : Int32) (u : SX) => r = (f1_do k σ o v2 v3).1 ∧ u = (f1_do k σ o v2 v3).2) (wX G a)) (σ : SX) (d1 : Nat) (v2 v3 : Int32) (h : q1_doThroughOthers k σ d1 v2 v3) : ctI l yX1_doThroughOthers cX1_doThroughOthers 4 .int (rTO k) G [.ref (a.1 13), .ref (a.2.1 d1), .int v2, .int v3] (wX G a σ) (fun (r : Int32) (u : SX) => r = (f1_doThroughOthers k σ d1 v2 v3).1 ∧ u = (f1_doThroughOthers k σ d1 v2 v3).2) (wX G a) := by
  refine en_I (by decide +kernel) (Nat.le_of_ble_eq_true rfl) (fun p e s m below meth c A ls hF hw hl => ?_)
  exact k_X1_doThroughOthers_0 hDo hF σ d1 v2 v3 hw hl (p1_doThroughOthers σ d1 v2 v3 h)

def wp_X1_doDeed_0 (k : Nat) (σ : SX) (o1 : Option Nat) (v2 : Int32) (v3 : Int32)  (post : Int32 → SX → Prop) : Prop :=
  ((σ.1 9) < 60 → ∀ x2 : Int32, x2 = (σ.1 9) + 1 → ∀ σ3 : SX, σ3 = (va_up σ.1 9 x2, σ.2) → (v3 < 16 → (o1 = none → q1_fail σ3 ((-6)) ∧ ∀ (r6 : Int32) (σ7 : SX), r6 = (f1_fail σ3 ((-6))).1 → σ7 = (f1_fail σ3 ((-6))).2 → post r6 σ7) ∧ (∀ d5 : Nat, o1 = some d5 → d5 < σ3.2.2.2.1.1 ∧ (7 ≤ ((σ3.2.2.2.1.2 d5).1 0) → ∀ x9 : Int32, x9 = v3 + 1 → q1_doThroughOthers k σ3 d5 v2 x9 ∧ ∀ (r10 : Int32) (σ11 : SX), r10 = (f1_doThroughOthers k σ3 d5 v2 x9).1 → σ11 = (f1_doThroughOthers k σ3 d5 v2 x9).2 → post r10 σ11) ∧ (¬ 7 ≤ ((σ3.2.2.2.1.2 d5).1 0) → q1_doAlone σ3 d5 v2 ∧ ∀ (r12 : Int32) (σ13 : SX), r12 = (f1_doAlone σ3 d5 v2).1 → σ13 = (f1_doAlone σ3 d5 v2).2 → post r12 σ13))) ∧ (¬ v3 < 16 → q1_fail σ3 ((-9)) ∧ ∀ (r14 : Int32) (σ15 : SX), r14 = (f1_fail σ3 ((-9))).1 → σ15 = (f1_fail σ3 ((-9))).2 → post r14 σ15)) ∧ (¬ (σ.1 9) < 60 → q1_fail σ ((-8)) ∧ ∀ (r16 : Int32) (σ17 : SX), r16 = (f1_fail σ ((-8))).1 → σ17 = (f1_fail σ ((-8))).2 → post r16 σ17)
set_option maxHeartbeats 4000000 in
set_option maxRecDepth 100000 in
theorem k_X1_doDeed_0 {l : Launch} {p : Program} {e : Env} {s : State} {m : MethodId} {below : List Frame} {meth : Method} {c : Code} {args : Array Value} {A : Nat → Prop} {G : Gm} {a : AX} {k : Nat} (hTO : ∀ (σ : SX) (d : Nat) (v2 v3 : Int32), q1_doThroughOthers k σ d v2 v3 → ctI l yX1_doThroughOthers cX1_doThroughOthers 4 .int (rTO k) G [.ref (a.1 13), .ref (a.2.1 d), .int v2, .int v3] (wX G a σ) (fun (r : Int32) (u : SX) => r = (f1_doThroughOthers k σ d v2 v3).1 ∧ u = (f1_doThroughOthers k σ d v2 v3).2) (wX G a))  (hF : fx p s m args meth c cX1_doDeed 4 yX1_doDeed.cls kX1_doDeed (some (.int))) {post : Int32 → SX → Prop}  (σ : SX) (o1 : Option Nat) (v2 : Int32) (v3 : Int32) {H : Heap} {locs : List Loc} {ls : Array Slot} (hw : wb G A s (wX G a σ) H locs) (hl : lv_has ls 4 [(0, .ref (a.1 13)), (1, va_rf (Option.map a.2.1 o1)), (2, .int v2), (3, .int v3)]) (hok : wp_X1_doDeed_0 k σ o1 v2 v3  post) :
    W p l e (rDo (k + 1)) s m args below meth c H locs 0 0 (MQ below (va_Qi post (po G A (wX G a)) A) args s 0 0 A) (F0 m 0 ls []) := by
  unfold wp_X1_doDeed_0 at hok
  refine lv_aload_n hF.x hF.b dX1_doDeed_0 rfl (lv_at hl 0 rfl) ?_
  refine r_get hF hw 0 rfl rfl inlX1 9 (by decide) wf_X1_43 rfl dX1_doDeed_1 ?_
  refine lv_bipush (v := 60) hF.x hF.b dX1_doDeed_4 (by decide) ?_
  refine lv_icmp_lt (tgt := 16) hF.x hF.b dX1_doDeed_6 (by decide) (fun c1 => ?_) (fun c1 => ?_)
  · replace hok := hok.1 c1
    refine lv_aload_n hF.x hF.b dX1_doDeed_16 rfl (lv_at hl 0 rfl) ?_
    refine lv_dup hF.x hF.b dX1_doDeed_17 rfl ?_
    refine r_get hF hw 0 rfl rfl inlX1 9 (by decide) wf_X1_43 rfl dX1_doDeed_18 ?_
    refine lv_iconst (v := 1) hF.x hF.b dX1_doDeed_21 (by decide) ?_
    refine lv_iadd hF.x hF.b dX1_doDeed_22 ?_
    refine lv_topi (fun x2 ex2 => ?_)
    replace hok := hok x2 ex2
    refine rx_put (v := x2) 9 hF hw (by decide) wf_X1_43 dX1_doDeed_23 (fun σ3 H locs eσ3 hw => ?_)
    replace hok := hok σ3 eσ3
    refine lv_iload_n hF.x hF.b dX1_doDeed_26 rfl (lv_at hl 3 rfl) ?_
    refine lv_bipush (v := 16) hF.x hF.b dX1_doDeed_27 (by decide) ?_
    refine lv_icmp_lt (tgt := 39) hF.x hF.b dX1_doDeed_29 (by decide) (fun c4 => ?_) (fun c4 => ?_)
    · replace hok := hok.1 c4
      refine lq_aload_n hF dX1_doDeed_39 rfl (lv_at hl 1 rfl) ?_
      refine lm_ifnonnull (o := o1) (tgt := 50) hF dX1_doDeed_40 (by decide) (fun d5 ed5 => ?_) (fun ed5 => ?_)
      · replace hok := hok.2 d5 ed5
        subst ed5
        have hl : lv_has ls 4 [(0, .ref (a.1 13)), (1, .ref (a.2.1 d5)), (2, .int v2), (3, .int v3)] := hl
        refine lv_aload_n hF.x hF.b dX1_doDeed_50 rfl (lv_at hl 1 rfl) ?_
        refine rx_dget (k := 0) hF hw hok.1 (by decide) (by unfold nestW; simp [TX0]) rfl dX1_doDeed_51 ?_
        replace hok := hok.2
        refine lv_bipush (v := 7) hF.x hF.b dX1_doDeed_54 (by decide) ?_
        refine lv_icmp_ge (tgt := 68) hF.x hF.b dX1_doDeed_56 (by decide) (fun c8 => ?_) (fun c8 => ?_)
        · replace hok := hok.1 c8
          refine lv_aload_n hF.x hF.b dX1_doDeed_68 rfl (lv_at hl 0 rfl) ?_
          refine lv_aload_n hF.x hF.b dX1_doDeed_69 rfl (lv_at hl 1 rfl) ?_
          refine lv_iload_n hF.x hF.b dX1_doDeed_70 rfl (lv_at hl 2 rfl) ?_
          refine lv_iload_n hF.x hF.b dX1_doDeed_71 rfl (lv_at hl 3 rfl) ?_
          refine lv_iconst (v := 1) hF.x hF.b dX1_doDeed_72 (by decide) ?_
          refine lv_iadd hF.x hF.b dX1_doDeed_73 ?_
          refine lv_topi (fun x9 ex9 => ?_)
          replace hok := hok x9 ex9
          refine ca_I hF hw (hTO σ3 d5 v2 x9 hok.1) wv_X1_144 (q0 := 0) rfl rfl rfl ⟨nd_X1.1, nd_X1.2, pd_X1_doThroughOthers⟩ ⟨by show 3 * k + 8 + 1 ≤ 3 * (k + 1) + 6; omega, by show 8 + (4 + 11) + (75 * k + 208) ≤ 75 * (k + 1) + 160; omega⟩ ⟨Nat.zero_le _, Nat.zero_le _⟩ hl.1 rfl (by first | exact Nat.le_of_ble_eq_true rfl | simp [cat_rf, Value.category]) dX1_doDeed_74 (fun r10 σ11 H locs hp hw => ?_)
          obtain ⟨er10, eσ11⟩ := hp
          replace hok := hok.2 r10 σ11 er10 eσ11
          exact rt_I (u := σ11) hF hw hok (Nat.zero_le _) (Nat.zero_le _) dX1_doDeed_77
        · replace hok := hok.2 c8
          refine lv_aload_n hF.x hF.b dX1_doDeed_59 rfl (lv_at hl 0 rfl) ?_
          refine lv_aload_n hF.x hF.b dX1_doDeed_60 rfl (lv_at hl 1 rfl) ?_
          refine lv_iload_n hF.x hF.b dX1_doDeed_61 rfl (lv_at hl 2 rfl) ?_
          refine ca_I hF hw (c1_doAlone l G a σ3 d5 v2 hok.1) wv_X1_140 (q0 := 0) rfl rfl rfl ⟨nd_X1.1, nd_X1.2, pd_X1_doAlone⟩ ⟨by show 3 + 1 ≤ 3 * (k + 1) + 6; omega, by show 8 + (3 + 11) + 65 ≤ 75 * (k + 1) + 160; omega⟩ ⟨Nat.zero_le _, Nat.zero_le _⟩ hl.1 rfl (by first | exact Nat.le_of_ble_eq_true rfl | simp [cat_rf, Value.category]) dX1_doDeed_62 (fun r12 σ13 H locs hp hw => ?_)
          obtain ⟨er12, eσ13⟩ := hp
          replace hok := hok.2 r12 σ13 er12 eσ13
          refine lv_goto (tgt := 77) hF.x hF.b dX1_doDeed_65 (by decide) ?_
          exact rt_I (u := σ13) hF hw hok (Nat.zero_le _) (Nat.zero_le _) dX1_doDeed_77
      · replace hok := hok.1 ed5
        subst ed5
        have hl : lv_has ls 4 [(0, .ref (a.1 13)), (1, .null), (2, .int v2), (3, .int v3)] := hl
        refine lv_aload_n hF.x hF.b dX1_doDeed_43 rfl (lv_at hl 0 rfl) ?_
        refine lv_bipush (v := (-6)) hF.x hF.b dX1_doDeed_44 (by decide) ?_
        refine ca_I hF hw (c1_fail l G a σ3 ((-6)) hok.1) wv_X1_137 (q0 := 0) rfl rfl rfl ⟨nd_X1.1, nd_X1.2, pd_X1_fail⟩ ⟨by show 0 + 1 ≤ 3 * (k + 1) + 6; omega, by show 8 + (2 + 11) + 0 ≤ 75 * (k + 1) + 160; omega⟩ ⟨Nat.zero_le _, Nat.zero_le _⟩ hl.1 rfl (by first | exact Nat.le_of_ble_eq_true rfl | simp [cat_rf, Value.category]) dX1_doDeed_46 (fun r6 σ7 H locs hp hw => ?_)
        obtain ⟨er6, eσ7⟩ := hp
        replace hok := hok.2 r6 σ7 er6 eσ7
        exact rt_I (u := σ7) hF hw hok (Nat.zero_le _) (Nat.zero_le _) dX1_doDeed_49
    · replace hok := hok.2 c4
      refine lv_aload_n hF.x hF.b dX1_doDeed_32 rfl (lv_at hl 0 rfl) ?_
      refine lv_bipush (v := (-9)) hF.x hF.b dX1_doDeed_33 (by decide) ?_
      refine ca_I hF hw (c1_fail l G a σ3 ((-9)) hok.1) wv_X1_137 (q0 := 0) rfl rfl rfl ⟨nd_X1.1, nd_X1.2, pd_X1_fail⟩ ⟨by show 0 + 1 ≤ 3 * (k + 1) + 6; omega, by show 8 + (2 + 11) + 0 ≤ 75 * (k + 1) + 160; omega⟩ ⟨Nat.zero_le _, Nat.zero_le _⟩ hl.1 rfl (by first | exact Nat.le_of_ble_eq_true rfl | simp [cat_rf, Value.category]) dX1_doDeed_35 (fun r14 σ15 H locs hp hw => ?_)
      obtain ⟨er14, eσ15⟩ := hp
      replace hok := hok.2 r14 σ15 er14 eσ15
      exact rt_I (u := σ15) hF hw hok (Nat.zero_le _) (Nat.zero_le _) dX1_doDeed_38
  · replace hok := hok.2 c1
    refine lv_aload_n hF.x hF.b dX1_doDeed_9 rfl (lv_at hl 0 rfl) ?_
    refine lv_bipush (v := (-8)) hF.x hF.b dX1_doDeed_10 (by decide) ?_
    refine ca_I hF hw (c1_fail l G a σ ((-8)) hok.1) wv_X1_137 (q0 := 0) rfl rfl rfl ⟨nd_X1.1, nd_X1.2, pd_X1_fail⟩ ⟨by show 0 + 1 ≤ 3 * (k + 1) + 6; omega, by show 8 + (2 + 11) + 0 ≤ 75 * (k + 1) + 160; omega⟩ ⟨Nat.zero_le _, Nat.zero_le _⟩ hl.1 rfl (by first | exact Nat.le_of_ble_eq_true rfl | simp [cat_rf, Value.category]) dX1_doDeed_12 (fun r16 σ17 H locs hp hw => ?_)
    obtain ⟨er16, eσ17⟩ := hp
    replace hok := hok.2 r16 σ17 er16 eσ17
    exact rt_I (u := σ17) hF hw hok (Nat.zero_le _) (Nat.zero_le _) dX1_doDeed_15

def wp_X1_doDeedz_0 (σ : SX) (o1 : Option Nat) (v2 : Int32) (v3 : Int32)  (post : Int32 → SX → Prop) : Prop :=
  ((σ.1 9) < 60 → ∀ x2 : Int32, x2 = (σ.1 9) + 1 → ∀ σ3 : SX, σ3 = (va_up σ.1 9 x2, σ.2) → (v3 < 16 → (o1 = none → q1_fail σ3 ((-6)) ∧ ∀ (r6 : Int32) (σ7 : SX), r6 = (f1_fail σ3 ((-6))).1 → σ7 = (f1_fail σ3 ((-6))).2 → post r6 σ7) ∧ (∀ d5 : Nat, o1 = some d5 → d5 < σ3.2.2.2.1.1 ∧ (7 ≤ ((σ3.2.2.2.1.2 d5).1 0) → ∀ x9 : Int32, x9 = v3 + 1 → False) ∧ (¬ 7 ≤ ((σ3.2.2.2.1.2 d5).1 0) → q1_doAlone σ3 d5 v2 ∧ ∀ (r10 : Int32) (σ11 : SX), r10 = (f1_doAlone σ3 d5 v2).1 → σ11 = (f1_doAlone σ3 d5 v2).2 → post r10 σ11))) ∧ (¬ v3 < 16 → q1_fail σ3 ((-9)) ∧ ∀ (r12 : Int32) (σ13 : SX), r12 = (f1_fail σ3 ((-9))).1 → σ13 = (f1_fail σ3 ((-9))).2 → post r12 σ13)) ∧ (¬ (σ.1 9) < 60 → q1_fail σ ((-8)) ∧ ∀ (r14 : Int32) (σ15 : SX), r14 = (f1_fail σ ((-8))).1 → σ15 = (f1_fail σ ((-8))).2 → post r14 σ15)
set_option maxHeartbeats 4000000 in
set_option maxRecDepth 100000 in
theorem k_X1_doDeedz_0 {l : Launch} {p : Program} {e : Env} {s : State} {m : MethodId} {below : List Frame} {meth : Method} {c : Code} {args : Array Value} {A : Nat → Prop} {G : Gm} {a : AX}  (hF : fx p s m args meth c cX1_doDeed 4 yX1_doDeed.cls kX1_doDeed (some (.int))) {post : Int32 → SX → Prop}  (σ : SX) (o1 : Option Nat) (v2 : Int32) (v3 : Int32) {H : Heap} {locs : List Loc} {ls : Array Slot} (hw : wb G A s (wX G a σ) H locs) (hl : lv_has ls 4 [(0, .ref (a.1 13)), (1, va_rf (Option.map a.2.1 o1)), (2, .int v2), (3, .int v3)]) (hok : wp_X1_doDeedz_0 σ o1 v2 v3  post) :
    W p l e (rDo 0) s m args below meth c H locs 0 0 (MQ below (va_Qi post (po G A (wX G a)) A) args s 0 0 A) (F0 m 0 ls []) := by
  unfold wp_X1_doDeedz_0 at hok
  refine lv_aload_n hF.x hF.b dX1_doDeed_0 rfl (lv_at hl 0 rfl) ?_
  refine r_get hF hw 0 rfl rfl inlX1 9 (by decide) wf_X1_43 rfl dX1_doDeed_1 ?_
  refine lv_bipush (v := 60) hF.x hF.b dX1_doDeed_4 (by decide) ?_
  refine lv_icmp_lt (tgt := 16) hF.x hF.b dX1_doDeed_6 (by decide) (fun c1 => ?_) (fun c1 => ?_)
  · replace hok := hok.1 c1
    refine lv_aload_n hF.x hF.b dX1_doDeed_16 rfl (lv_at hl 0 rfl) ?_
    refine lv_dup hF.x hF.b dX1_doDeed_17 rfl ?_
    refine r_get hF hw 0 rfl rfl inlX1 9 (by decide) wf_X1_43 rfl dX1_doDeed_18 ?_
    refine lv_iconst (v := 1) hF.x hF.b dX1_doDeed_21 (by decide) ?_
    refine lv_iadd hF.x hF.b dX1_doDeed_22 ?_
    refine lv_topi (fun x2 ex2 => ?_)
    replace hok := hok x2 ex2
    refine rx_put (v := x2) 9 hF hw (by decide) wf_X1_43 dX1_doDeed_23 (fun σ3 H locs eσ3 hw => ?_)
    replace hok := hok σ3 eσ3
    refine lv_iload_n hF.x hF.b dX1_doDeed_26 rfl (lv_at hl 3 rfl) ?_
    refine lv_bipush (v := 16) hF.x hF.b dX1_doDeed_27 (by decide) ?_
    refine lv_icmp_lt (tgt := 39) hF.x hF.b dX1_doDeed_29 (by decide) (fun c4 => ?_) (fun c4 => ?_)
    · replace hok := hok.1 c4
      refine lq_aload_n hF dX1_doDeed_39 rfl (lv_at hl 1 rfl) ?_
      refine lm_ifnonnull (o := o1) (tgt := 50) hF dX1_doDeed_40 (by decide) (fun d5 ed5 => ?_) (fun ed5 => ?_)
      · replace hok := hok.2 d5 ed5
        subst ed5
        have hl : lv_has ls 4 [(0, .ref (a.1 13)), (1, .ref (a.2.1 d5)), (2, .int v2), (3, .int v3)] := hl
        refine lv_aload_n hF.x hF.b dX1_doDeed_50 rfl (lv_at hl 1 rfl) ?_
        refine rx_dget (k := 0) hF hw hok.1 (by decide) (by unfold nestW; simp [TX0]) rfl dX1_doDeed_51 ?_
        replace hok := hok.2
        refine lv_bipush (v := 7) hF.x hF.b dX1_doDeed_54 (by decide) ?_
        refine lv_icmp_ge (tgt := 68) hF.x hF.b dX1_doDeed_56 (by decide) (fun c8 => ?_) (fun c8 => ?_)
        · replace hok := hok.1 c8
          refine lv_aload_n hF.x hF.b dX1_doDeed_68 rfl (lv_at hl 0 rfl) ?_
          refine lv_aload_n hF.x hF.b dX1_doDeed_69 rfl (lv_at hl 1 rfl) ?_
          refine lv_iload_n hF.x hF.b dX1_doDeed_70 rfl (lv_at hl 2 rfl) ?_
          refine lv_iload_n hF.x hF.b dX1_doDeed_71 rfl (lv_at hl 3 rfl) ?_
          refine lv_iconst (v := 1) hF.x hF.b dX1_doDeed_72 (by decide) ?_
          refine lv_iadd hF.x hF.b dX1_doDeed_73 ?_
          refine lv_topi (fun x9 ex9 => ?_)
          replace hok := hok x9 ex9
          exact hok.elim
        · replace hok := hok.2 c8
          refine lv_aload_n hF.x hF.b dX1_doDeed_59 rfl (lv_at hl 0 rfl) ?_
          refine lv_aload_n hF.x hF.b dX1_doDeed_60 rfl (lv_at hl 1 rfl) ?_
          refine lv_iload_n hF.x hF.b dX1_doDeed_61 rfl (lv_at hl 2 rfl) ?_
          refine ca_I hF hw (c1_doAlone l G a σ3 d5 v2 hok.1) wv_X1_140 (q0 := 0) rfl rfl rfl ⟨nd_X1.1, nd_X1.2, pd_X1_doAlone⟩ ⟨by show 3 + 1 ≤ 3 * 0 + 6; omega, by show 8 + (3 + 11) + 65 ≤ 75 * 0 + 160; omega⟩ ⟨Nat.zero_le _, Nat.zero_le _⟩ hl.1 rfl (by first | exact Nat.le_of_ble_eq_true rfl | simp [cat_rf, Value.category]) dX1_doDeed_62 (fun r10 σ11 H locs hp hw => ?_)
          obtain ⟨er10, eσ11⟩ := hp
          replace hok := hok.2 r10 σ11 er10 eσ11
          refine lv_goto (tgt := 77) hF.x hF.b dX1_doDeed_65 (by decide) ?_
          exact rt_I (u := σ11) hF hw hok (Nat.zero_le _) (Nat.zero_le _) dX1_doDeed_77
      · replace hok := hok.1 ed5
        subst ed5
        have hl : lv_has ls 4 [(0, .ref (a.1 13)), (1, .null), (2, .int v2), (3, .int v3)] := hl
        refine lv_aload_n hF.x hF.b dX1_doDeed_43 rfl (lv_at hl 0 rfl) ?_
        refine lv_bipush (v := (-6)) hF.x hF.b dX1_doDeed_44 (by decide) ?_
        refine ca_I hF hw (c1_fail l G a σ3 ((-6)) hok.1) wv_X1_137 (q0 := 0) rfl rfl rfl ⟨nd_X1.1, nd_X1.2, pd_X1_fail⟩ ⟨by show 0 + 1 ≤ 3 * 0 + 6; omega, by show 8 + (2 + 11) + 0 ≤ 75 * 0 + 160; omega⟩ ⟨Nat.zero_le _, Nat.zero_le _⟩ hl.1 rfl (by first | exact Nat.le_of_ble_eq_true rfl | simp [cat_rf, Value.category]) dX1_doDeed_46 (fun r6 σ7 H locs hp hw => ?_)
        obtain ⟨er6, eσ7⟩ := hp
        replace hok := hok.2 r6 σ7 er6 eσ7
        exact rt_I (u := σ7) hF hw hok (Nat.zero_le _) (Nat.zero_le _) dX1_doDeed_49
    · replace hok := hok.2 c4
      refine lv_aload_n hF.x hF.b dX1_doDeed_32 rfl (lv_at hl 0 rfl) ?_
      refine lv_bipush (v := (-9)) hF.x hF.b dX1_doDeed_33 (by decide) ?_
      refine ca_I hF hw (c1_fail l G a σ3 ((-9)) hok.1) wv_X1_137 (q0 := 0) rfl rfl rfl ⟨nd_X1.1, nd_X1.2, pd_X1_fail⟩ ⟨by show 0 + 1 ≤ 3 * 0 + 6; omega, by show 8 + (2 + 11) + 0 ≤ 75 * 0 + 160; omega⟩ ⟨Nat.zero_le _, Nat.zero_le _⟩ hl.1 rfl (by first | exact Nat.le_of_ble_eq_true rfl | simp [cat_rf, Value.category]) dX1_doDeed_35 (fun r12 σ13 H locs hp hw => ?_)
      obtain ⟨er12, eσ13⟩ := hp
      replace hok := hok.2 r12 σ13 er12 eσ13
      exact rt_I (u := σ13) hF hw hok (Nat.zero_le _) (Nat.zero_le _) dX1_doDeed_38
  · replace hok := hok.2 c1
    refine lv_aload_n hF.x hF.b dX1_doDeed_9 rfl (lv_at hl 0 rfl) ?_
    refine lv_bipush (v := (-8)) hF.x hF.b dX1_doDeed_10 (by decide) ?_
    refine ca_I hF hw (c1_fail l G a σ ((-8)) hok.1) wv_X1_137 (q0 := 0) rfl rfl rfl ⟨nd_X1.1, nd_X1.2, pd_X1_fail⟩ ⟨by show 0 + 1 ≤ 3 * 0 + 6; omega, by show 8 + (2 + 11) + 0 ≤ 75 * 0 + 160; omega⟩ ⟨Nat.zero_le _, Nat.zero_le _⟩ hl.1 rfl (by first | exact Nat.le_of_ble_eq_true rfl | simp [cat_rf, Value.category]) dX1_doDeed_12 (fun r14 σ15 H locs hp hw => ?_)
    obtain ⟨er14, eσ15⟩ := hp
    replace hok := hok.2 r14 σ15 er14 eσ15
    exact rt_I (u := σ15) hF hw hok (Nat.zero_le _) (Nat.zero_le _) dX1_doDeed_15

theorem p1_doDeed_s {k : Nat} (σ : SX) (o1 : Option Nat) (v2 v3 : Int32) (h : q1_do (k + 1) σ o1 v2 v3) : wp_X1_doDeed_0 k σ o1 v2 v3 (fun r u => r = (f1_do (k + 1) σ o1 v2 v3).1 ∧ u = (f1_do (k + 1) σ o1 v2 v3).2) := by
  obtain ⟨hW, ho, hk, hop⟩ := h
  have h9 := XK.sI hW 9 (σ.1 9 + 1) (by decide) (by decide)
  have hlt : v3 < 16 := by rw [hop, show (16 : Int32) = nI 16 from rfl]; exact nI_lt (by omega) (by decide)
  refine ⟨fun c => ?_, fun c => ⟨trivial, fun r2 σ3 e2 e3 => ?_⟩⟩
  · intro x2 e2 σ3 e3
    subst e2; subst e3
    refine ⟨fun _ => ⟨fun e1 => ⟨trivial, fun r σ' e4 e5 => ?_⟩, fun d e1 => ⟨ho d e1, fun c3 x9 e9 => ⟨⟨h9.1, ho d e1, by omega, ?_⟩, fun r σ' e4 e5 => ?_⟩, fun c3 => ⟨⟨h9.1, ho d e1⟩, fun r σ' e4 e5 => ?_⟩⟩⟩, fun c2 => absurd hlt c2⟩
    · subst e1
      simp only [fdo]
      rw [if_pos c]
      exact ⟨e4, e5⟩
    · rw [e9, hop, nI_1]
      congr 1
      omega
    · subst e1
      simp only [fdo]
      rw [if_pos c, if_pos c3]
      exact ⟨e4, e5⟩
    · subst e1
      simp only [fdo]
      rw [if_pos c, if_neg c3]
      exact ⟨e4, e5⟩
  · cases o1 <;> (simp only [fdo]; rw [if_neg c]; exact ⟨e2, e3⟩)
theorem p1_doDeed_z (σ : SX) (o1 : Option Nat) (v2 v3 : Int32) (h : q1_do 0 σ o1 v2 v3) : wp_X1_doDeedz_0 σ o1 v2 v3 (fun r u => r = (f1_do 0 σ o1 v2 v3).1 ∧ u = (f1_do 0 σ o1 v2 v3).2) := by
  obtain ⟨hW, ho, hk, hop⟩ := h
  have hlt : ¬ v3 < 16 := by rw [hop, show (16 : Int32) = nI 16 from rfl]; exact nI_nlt (by omega) (by decide)
  refine ⟨fun c => ?_, fun c => ⟨trivial, fun r2 σ3 e2 e3 => ?_⟩⟩
  · intro x2 e2 σ3 e3
    subst e2; subst e3
    refine ⟨fun c2 => absurd c2 hlt, fun c2 => ⟨trivial, fun r σ' e4 e5 => ?_⟩⟩
    simp only [fdo]
    rw [if_pos c]
    exact ⟨e4, e5⟩
  · simp only [fdo]
    rw [if_neg c]
    exact ⟨e2, e3⟩
theorem c1_doDeed {l : Launch} {G : Gm} {a : AX} : ∀ (k : Nat) (σ : SX) (o : Option Nat) (v2 v3 : Int32), q1_do k σ o v2 v3 → ctI l yX1_doDeed cX1_doDeed 4 .int (rDo k) G [.ref (a.1 13), va_rf (Option.map a.2.1 o), .int v2, .int v3] (wX G a σ) (fun (r : Int32) (u : SX) => r = (f1_do k σ o v2 v3).1 ∧ u = (f1_do k σ o v2 v3).2) (wX G a) := by
  intro k
  induction k with
  | zero =>
    intro σ o v2 v3 h
    cases o with
    | none =>
      refine en_I (by decide +kernel) (Nat.le_of_ble_eq_true rfl) (fun p e s m below meth c A ls hF hw hl => ?_)
      exact k_X1_doDeedz_0 hF σ none v2 v3 hw hl (p1_doDeed_z σ none v2 v3 h)
    | some d =>
      refine en_I (by decide +kernel) (Nat.le_of_ble_eq_true rfl) (fun p e s m below meth c A ls hF hw hl => ?_)
      exact k_X1_doDeedz_0 hF σ (some d) v2 v3 hw hl (p1_doDeed_z σ (some d) v2 v3 h)
  | succ k ih =>
    intro σ o v2 v3 h
    cases o with
    | none =>
      refine en_I (by decide +kernel) (Nat.le_of_ble_eq_true rfl) (fun p e s m below meth c A ls hF hw hl => ?_)
      exact k_X1_doDeed_0 (c1_doThroughOthers ih) hF σ none v2 v3 hw hl (p1_doDeed_s σ none v2 v3 h)
    | some d =>
      refine en_I (by decide +kernel) (Nat.le_of_ble_eq_true rfl) (fun p e s m below meth c A ls hF hw hl => ?_)
      exact k_X1_doDeed_0 (c1_doThroughOthers ih) hF σ (some d) v2 v3 hw hl (p1_doDeed_s σ (some d) v2 v3 h)
