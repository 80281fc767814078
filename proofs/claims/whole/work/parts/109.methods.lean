def f_Roster_setCell (a0 : Nat) (x1 : Int32) (x2 : Int32) (x3 : Int32) (ω : xS) : Option xS :=
  (xk ω a0 8 (f_Roster_letterOf a0 x1 x2 ω)).bind fun t2 =>
  (xgr ω a0 8 6).bind fun t3 =>
  (xar ω 2 t3 x1).bind fun t4 =>
  (xsi ω t4 (7 + x2) x3).bind fun w5 =>
  (xgr w5 a0 8 9).bind fun t6 =>
  (xar w5 2 t6 x1).bind fun t7 =>
  (xai w5 t7 t2).bind fun t8 =>
  (xsi w5 t7 t2 (t8 - 1)).bind fun w9 =>
  (xgr w9 a0 8 10).bind fun t10 =>
  (xar w9 2 t10 x2).bind fun t11 =>
  (xai w9 t11 t2).bind fun t12 =>
  (xsi w9 t11 t2 (t12 - 1)).bind fun w13 =>
  (xgr w13 a0 8 9).bind fun t14 =>
  (xar w13 2 t14 x1).bind fun t15 =>
  (xai w13 t15 x3).bind fun t16 =>
  (xsi w13 t15 x3 (t16 + 1)).bind fun w17 =>
  (xgr w17 a0 8 10).bind fun t18 =>
  (xar w17 2 t18 x2).bind fun t19 =>
  (xai w17 t19 x3).bind fun t20 =>
  (xsi w17 t19 x3 (t20 + 1)).bind fun w21 =>
  (xgi w21 a0 8 11).bind fun t22 =>
  if x3 = 0 then (
    if t2 = 0 then (
      (xp w21 a0 8 11 (.int (t22 + (0 - 0)))).bind fun w29 =>
      some w29)
    else (
      (xp w21 a0 8 11 (.int (t22 + (0 - 1)))).bind fun w28 =>
      some w28))
  else (
    if t2 = 0 then (
      (xp w21 a0 8 11 (.int (t22 + (1 - 0)))).bind fun w26 =>
      some w26)
    else (
      (xp w21 a0 8 11 (.int (t22 + (1 - 1)))).bind fun w25 =>
      some w25))
set_option maxHeartbeats 4000000 in
set_option maxRecDepth 100000 in
theorem c_Roster_setCell {l : Launch} {E : xV} {z : Nat} {a0 : Nat} {x1 : Int32} {x2 : Int32} {x3 : Int32} {ω1 : xS} {ω : xS} (hf : f_Roster_setCell a0 x1 x2 x3 ω = some ω1) : xM l E y_Roster_setCell ws_Roster_setCell { frames := 1, cells := 0, slots := 0, locals := 22 } [.ref a0, .int x1, .int x2, .int x3] z ω none z ω1 := by
  refine x_start (cc := b_Roster_setCell) (maxL := 5) (ret := none) (by decide) rfl (Nat.le_of_ble_eq_true rfl) ?_
  intro p e s m below meth c S hr hlocks hin ls hl hw
  have hl : lv_has ls 5 [(0, .ref a0), (1, .int x1), (2, .int x2), (3, .int x3)] := hl
  unfold f_Roster_setCell at hf
  refine lv_aload_n S.1 S.2.1 d_Roster_setCell_0 rfl (lv_at hl 0 rfl) ?_
  refine lv_iload_n S.1 S.2.1 d_Roster_setCell_1 rfl (lv_at hl 1 rfl) ?_
  refine lv_iload_n S.1 S.2.1 d_Roster_setCell_2 rfl (lv_at hl 2 rfl) ?_
  obtain ⟨t2, h1, hf⟩ := xb hf
  obtain ⟨h1b, h1⟩ := xkb h1
  refine x_callV (As := [.int x1, .int x2]) (rest := []) (st1 := [.int t2]) S hw (c_Roster_letterOf h1) (cwV 2 S.2.2.2.2 gv_Roster_48 rfl rfl rfl hd_Roster_letterOf ⟨Nat.le_of_ble_eq_true rfl, Nat.le_of_ble_eq_true rfl⟩) rfl h1b rfl hl.1 rfl rfl (Nat.le_of_ble_eq_true rfl) d_Roster_setCell_3 ⟨Nat.le_of_ble_eq_true rfl, Nat.le_of_ble_eq_true rfl⟩ (fun H locs hw => ?_)
  refine lv_istore (lv' := [(4, .int t2), (0, .ref a0), (1, .int x1), (2, .int x2), (3, .int x3)]) S.1 S.2.1 d_Roster_setCell_6 hl (by decide) rfl (fun ls hl => ?_)
  refine lv_aload_n S.1 S.2.1 d_Roster_setCell_8 rfl (lv_at hl 1 rfl) ?_
  obtain ⟨t3, ht3, hf⟩ := xb hf
  refine x_getr S hw lk_Roster_33 ht3 d_Roster_setCell_9 ?_
  refine lv_iload_n S.1 S.2.1 d_Roster_setCell_12 rfl (lv_at hl 2 rfl) ?_
  obtain ⟨t4, ht4, hf⟩ := xb hf
  refine x_aald S hw (t := 2) rfl rfl ht4 d_Roster_setCell_13 ?_
  refine lv_bipush (v := 7) S.1 S.2.1 d_Roster_setCell_14 (by decide) ?_
  refine lv_iload_n S.1 S.2.1 d_Roster_setCell_16 rfl (lv_at hl 3 rfl) ?_
  refine lv_iadd S.1 S.2.1 d_Roster_setCell_17 ?_
  refine lv_iload_n S.1 S.2.1 d_Roster_setCell_18 rfl (lv_at hl 4 rfl) ?_
  obtain ⟨w5, hw5, hf⟩ := xb hf
  refine x_iast S hw hw5 d_Roster_setCell_19 (fun H locs hw => ?_)
  refine lv_aload_n S.1 S.2.1 d_Roster_setCell_20 rfl (lv_at hl 1 rfl) ?_
  obtain ⟨t6, ht6, hf⟩ := xb hf
  refine x_getr S hw lk_Roster_42 ht6 d_Roster_setCell_21 ?_
  refine lv_iload_n S.1 S.2.1 d_Roster_setCell_24 rfl (lv_at hl 2 rfl) ?_
  obtain ⟨t7, ht7, hf⟩ := xb hf
  refine x_aald S hw (t := 2) rfl rfl ht7 d_Roster_setCell_25 ?_
  refine lv_iload S.1 S.2.1 d_Roster_setCell_26 (lv_at hl 0 rfl) ?_
  refine lv_dup2_11 S.1 S.2.1 d_Roster_setCell_28 rfl rfl ?_
  obtain ⟨t8, ht8, hf⟩ := xb hf
  refine x_iald S hw ht8 d_Roster_setCell_29 ?_
  refine lv_iconst (v := 1) S.1 S.2.1 d_Roster_setCell_30 (by decide) ?_
  refine lv_isub S.1 S.2.1 d_Roster_setCell_31 ?_
  obtain ⟨w9, hw9, hf⟩ := xb hf
  refine x_iast S hw hw9 d_Roster_setCell_32 (fun H locs hw => ?_)
  refine lv_aload_n S.1 S.2.1 d_Roster_setCell_33 rfl (lv_at hl 1 rfl) ?_
  obtain ⟨t10, ht10, hf⟩ := xb hf
  refine x_getr S hw lk_Roster_45 ht10 d_Roster_setCell_34 ?_
  refine lv_iload_n S.1 S.2.1 d_Roster_setCell_37 rfl (lv_at hl 3 rfl) ?_
  obtain ⟨t11, ht11, hf⟩ := xb hf
  refine x_aald S hw (t := 2) rfl rfl ht11 d_Roster_setCell_38 ?_
  refine lv_iload S.1 S.2.1 d_Roster_setCell_39 (lv_at hl 0 rfl) ?_
  refine lv_dup2_11 S.1 S.2.1 d_Roster_setCell_41 rfl rfl ?_
  obtain ⟨t12, ht12, hf⟩ := xb hf
  refine x_iald S hw ht12 d_Roster_setCell_42 ?_
  refine lv_iconst (v := 1) S.1 S.2.1 d_Roster_setCell_43 (by decide) ?_
  refine lv_isub S.1 S.2.1 d_Roster_setCell_44 ?_
  obtain ⟨w13, hw13, hf⟩ := xb hf
  refine x_iast S hw hw13 d_Roster_setCell_45 (fun H locs hw => ?_)
  refine lv_aload_n S.1 S.2.1 d_Roster_setCell_46 rfl (lv_at hl 1 rfl) ?_
  obtain ⟨t14, ht14, hf⟩ := xb hf
  refine x_getr S hw lk_Roster_42 ht14 d_Roster_setCell_47 ?_
  refine lv_iload_n S.1 S.2.1 d_Roster_setCell_50 rfl (lv_at hl 2 rfl) ?_
  obtain ⟨t15, ht15, hf⟩ := xb hf
  refine x_aald S hw (t := 2) rfl rfl ht15 d_Roster_setCell_51 ?_
  refine lv_iload_n S.1 S.2.1 d_Roster_setCell_52 rfl (lv_at hl 4 rfl) ?_
  refine lv_dup2_11 S.1 S.2.1 d_Roster_setCell_53 rfl rfl ?_
  obtain ⟨t16, ht16, hf⟩ := xb hf
  refine x_iald S hw ht16 d_Roster_setCell_54 ?_
  refine lv_iconst (v := 1) S.1 S.2.1 d_Roster_setCell_55 (by decide) ?_
  refine lv_iadd S.1 S.2.1 d_Roster_setCell_56 ?_
  obtain ⟨w17, hw17, hf⟩ := xb hf
  refine x_iast S hw hw17 d_Roster_setCell_57 (fun H locs hw => ?_)
  refine lv_aload_n S.1 S.2.1 d_Roster_setCell_58 rfl (lv_at hl 1 rfl) ?_
  obtain ⟨t18, ht18, hf⟩ := xb hf
  refine x_getr S hw lk_Roster_45 ht18 d_Roster_setCell_59 ?_
  refine lv_iload_n S.1 S.2.1 d_Roster_setCell_62 rfl (lv_at hl 3 rfl) ?_
  obtain ⟨t19, ht19, hf⟩ := xb hf
  refine x_aald S hw (t := 2) rfl rfl ht19 d_Roster_setCell_63 ?_
  refine lv_iload_n S.1 S.2.1 d_Roster_setCell_64 rfl (lv_at hl 4 rfl) ?_
  refine lv_dup2_11 S.1 S.2.1 d_Roster_setCell_65 rfl rfl ?_
  obtain ⟨t20, ht20, hf⟩ := xb hf
  refine x_iald S hw ht20 d_Roster_setCell_66 ?_
  refine lv_iconst (v := 1) S.1 S.2.1 d_Roster_setCell_67 (by decide) ?_
  refine lv_iadd S.1 S.2.1 d_Roster_setCell_68 ?_
  obtain ⟨w21, hw21, hf⟩ := xb hf
  refine x_iast S hw hw21 d_Roster_setCell_69 (fun H locs hw => ?_)
  refine lv_aload_n S.1 S.2.1 d_Roster_setCell_70 rfl (lv_at hl 1 rfl) ?_
  refine lv_dup S.1 S.2.1 d_Roster_setCell_71 rfl ?_
  obtain ⟨t22, ht22, hf⟩ := xb hf
  refine x_geti S hw lk_Roster_52 ht22 d_Roster_setCell_72 ?_
  refine lv_iload_n S.1 S.2.1 d_Roster_setCell_75 rfl (lv_at hl 4 rfl) ?_
  refine lv_if_ne (tgt := 83) S.1 S.2.1 d_Roster_setCell_76 (by decide) (fun c23 => ?_) (fun c23 => ?_)
  · replace hf := xf c23 hf
    refine lv_iconst (v := 1) S.1 S.2.1 d_Roster_setCell_83 (by decide) ?_
    refine lv_iload S.1 S.2.1 d_Roster_setCell_84 (lv_at hl 0 rfl) ?_
    refine lv_if_ne (tgt := 93) S.1 S.2.1 d_Roster_setCell_86 (by decide) (fun c24 => ?_) (fun c24 => ?_)
    · replace hf := xf c24 hf
      refine lv_iconst (v := 1) S.1 S.2.1 d_Roster_setCell_93 (by decide) ?_
      refine lv_isub S.1 S.2.1 d_Roster_setCell_94 ?_
      refine lv_iadd S.1 S.2.1 d_Roster_setCell_95 ?_
      obtain ⟨w25, hw25, hf⟩ := xb hf
      refine x_puti S hw lp_Roster_52 hw25 d_Roster_setCell_96 (fun H locs hw => ?_)
      cases hf
      exact x_vret S hr hlocks hw d_Roster_setCell_99
    · replace hf := xt c24 hf
      refine lv_iconst (v := 0) S.1 S.2.1 d_Roster_setCell_89 (by decide) ?_
      refine lv_goto (tgt := 94) S.1 S.2.1 d_Roster_setCell_90 (by decide) ?_
      refine lv_isub S.1 S.2.1 d_Roster_setCell_94 ?_
      refine lv_iadd S.1 S.2.1 d_Roster_setCell_95 ?_
      obtain ⟨w26, hw26, hf⟩ := xb hf
      refine x_puti S hw lp_Roster_52 hw26 d_Roster_setCell_96 (fun H locs hw => ?_)
      cases hf
      exact x_vret S hr hlocks hw d_Roster_setCell_99
  · replace hf := xt c23 hf
    refine lv_iconst (v := 0) S.1 S.2.1 d_Roster_setCell_79 (by decide) ?_
    refine lv_goto (tgt := 84) S.1 S.2.1 d_Roster_setCell_80 (by decide) ?_
    refine lv_iload S.1 S.2.1 d_Roster_setCell_84 (lv_at hl 0 rfl) ?_
    refine lv_if_ne (tgt := 93) S.1 S.2.1 d_Roster_setCell_86 (by decide) (fun c27 => ?_) (fun c27 => ?_)
    · replace hf := xf c27 hf
      refine lv_iconst (v := 1) S.1 S.2.1 d_Roster_setCell_93 (by decide) ?_
      refine lv_isub S.1 S.2.1 d_Roster_setCell_94 ?_
      refine lv_iadd S.1 S.2.1 d_Roster_setCell_95 ?_
      obtain ⟨w28, hw28, hf⟩ := xb hf
      refine x_puti S hw lp_Roster_52 hw28 d_Roster_setCell_96 (fun H locs hw => ?_)
      cases hf
      exact x_vret S hr hlocks hw d_Roster_setCell_99
    · replace hf := xt c27 hf
      refine lv_iconst (v := 0) S.1 S.2.1 d_Roster_setCell_89 (by decide) ?_
      refine lv_goto (tgt := 94) S.1 S.2.1 d_Roster_setCell_90 (by decide) ?_
      refine lv_isub S.1 S.2.1 d_Roster_setCell_94 ?_
      refine lv_iadd S.1 S.2.1 d_Roster_setCell_95 ?_
      obtain ⟨w29, hw29, hf⟩ := xb hf
      refine x_puti S hw lp_Roster_52 hw29 d_Roster_setCell_96 (fun H locs hw => ?_)
      cases hf
      exact x_vret S hr hlocks hw d_Roster_setCell_99
def f_Roster_setWish_31 (a0 : Nat) (x1 : Int32) (x2 : Int32) (x3 : Int32) (x4 : Int32) (y0 : Int32) (y1 : Int32) (y2 : Int32) (y3 : Nat) (ω : xS) : Option xS :=
  (xp ω y3 8 12 (.int (y2 + (y1 - y0)))).bind fun w11 =>
  (xgr w11 a0 8 7).bind fun t12 =>
  (xar w11 2 t12 x1).bind fun t13 =>
  (xsi w11 t13 x2 x3).bind fun w14 =>
  (xgr w14 a0 8 8).bind fun t15 =>
  (xar w14 2 t15 x1).bind fun t16 =>
  (xsi w14 t16 x2 x4).bind fun w17 =>
  some w17
set_option maxHeartbeats 4000000 in
set_option maxRecDepth 100000 in
theorem w_Roster_setWish_31 {p : Program} {l : Launch} {e : Env} {s : State} {m : MethodId} {args : Array Value} {below : List Frame} {meth : Method} {c : Code} {E : xV} {z : Nat} {ω1 : xS} (S : CallFix p m c b_Roster_setWish 5 s args xTbl "RosterRules$Roster") (hr : meth.sig.returnType = none) (hlocks : meth.locks = false) : ∀ (a0 : Nat) (x1 : Int32) (x2 : Int32) (x3 : Int32) (x4 : Int32) (y0 : Int32) (y1 : Int32) (y2 : Int32) (y3 : Nat) (ω : xS) (H : Heap) (locs : List Loc) (ls : Array Slot), xW E z ω s s.heap H locs → lv_has ls 5 [(0, .ref a0), (1, .int x1), (2, .int x2), (3, .int x3), (4, .int x4)] → f_Roster_setWish_31 a0 x1 x2 x3 x4 y0 y1 y2 y3 ω = some ω1 → W p l e (headSpec ws_Roster_setWish { frames := 0, cells := 0, slots := 0, locals := 0 }).room s m args below meth c H locs 0 0 (MQ below (xQ E none z ω1) args s 0 0 (fun q => E.2.2 ≤ q)) (F0 m 31 ls [.int y0, .int y1, .int y2, .ref y3]) := by
  intro a0 x1 x2 x3 x4 y0 y1 y2 y3 ω H locs ls hw hl hf
  unfold f_Roster_setWish_31 at hf
  refine lv_isub S.1 S.2.1 d_Roster_setWish_31 ?_
  refine lv_iadd S.1 S.2.1 d_Roster_setWish_32 ?_
  obtain ⟨w11, hw11, hf⟩ := xb hf
  refine x_puti S hw lp_Roster_55 hw11 d_Roster_setWish_33 (fun H locs hw => ?_)
  refine lv_aload_n S.1 S.2.1 d_Roster_setWish_36 rfl (lv_at hl 0 rfl) ?_
  obtain ⟨t12, ht12, hf⟩ := xb hf
  refine x_getr S hw lk_Roster_36 ht12 d_Roster_setWish_37 ?_
  refine lv_iload_n S.1 S.2.1 d_Roster_setWish_40 rfl (lv_at hl 1 rfl) ?_
  obtain ⟨t13, ht13, hf⟩ := xb hf
  refine x_aald S hw (t := 2) rfl rfl ht13 d_Roster_setWish_41 ?_
  refine lv_iload_n S.1 S.2.1 d_Roster_setWish_42 rfl (lv_at hl 2 rfl) ?_
  refine lv_iload_n S.1 S.2.1 d_Roster_setWish_43 rfl (lv_at hl 3 rfl) ?_
  obtain ⟨w14, hw14, hf⟩ := xb hf
  refine x_iast S hw hw14 d_Roster_setWish_44 (fun H locs hw => ?_)
  refine lv_aload_n S.1 S.2.1 d_Roster_setWish_45 rfl (lv_at hl 0 rfl) ?_
  obtain ⟨t15, ht15, hf⟩ := xb hf
  refine x_getr S hw lk_Roster_39 ht15 d_Roster_setWish_46 ?_
  refine lv_iload_n S.1 S.2.1 d_Roster_setWish_49 rfl (lv_at hl 1 rfl) ?_
  obtain ⟨t16, ht16, hf⟩ := xb hf
  refine x_aald S hw (t := 2) rfl rfl ht16 d_Roster_setWish_50 ?_
  refine lv_iload_n S.1 S.2.1 d_Roster_setWish_51 rfl (lv_at hl 2 rfl) ?_
  refine lv_iload S.1 S.2.1 d_Roster_setWish_52 (lv_at hl 4 rfl) ?_
  obtain ⟨w17, hw17, hf⟩ := xb hf
  refine x_iast S hw hw17 d_Roster_setWish_54 (fun H locs hw => ?_)
  cases hf
  exact x_vret S hr hlocks hw d_Roster_setWish_55
def f_Roster_setWish (a0 : Nat) (x1 : Int32) (x2 : Int32) (x3 : Int32) (x4 : Int32) (ω : xS) : Option xS :=
  (xgi ω a0 8 12).bind fun t1 =>
  if x4 = 0 then (
    (xgr ω a0 8 8).bind fun t7 =>
    (xar ω 2 t7 x1).bind fun t8 =>
    (xai ω t8 x2).bind fun t9 =>
    if t9 = 0 then (
      f_Roster_setWish_31  a0 x1 x2 x3 x4 0 0 t1 a0 ω)
    else (
      f_Roster_setWish_31  a0 x1 x2 x3 x4 1 0 t1 a0 ω))
  else (
    (xgr ω a0 8 8).bind fun t3 =>
    (xar ω 2 t3 x1).bind fun t4 =>
    (xai ω t4 x2).bind fun t5 =>
    if t5 = 0 then (
      f_Roster_setWish_31  a0 x1 x2 x3 x4 0 1 t1 a0 ω)
    else (
      f_Roster_setWish_31  a0 x1 x2 x3 x4 1 1 t1 a0 ω))
set_option maxHeartbeats 4000000 in
set_option maxRecDepth 100000 in
theorem c_Roster_setWish {l : Launch} {E : xV} {z : Nat} {a0 : Nat} {x1 : Int32} {x2 : Int32} {x3 : Int32} {x4 : Int32} {ω1 : xS} {ω : xS} (hf : f_Roster_setWish a0 x1 x2 x3 x4 ω = some ω1) : xM l E y_Roster_setWish ws_Roster_setWish { frames := 0, cells := 0, slots := 0, locals := 0 } [.ref a0, .int x1, .int x2, .int x3, .int x4] z ω none z ω1 := by
  refine x_start (cc := b_Roster_setWish) (maxL := 5) (ret := none) (by decide) rfl (Nat.le_of_ble_eq_true rfl) ?_
  intro p e s m below meth c S hr hlocks hin ls hl hw
  have hl : lv_has ls 5 [(0, .ref a0), (1, .int x1), (2, .int x2), (3, .int x3), (4, .int x4)] := hl
  unfold f_Roster_setWish at hf
  refine lv_aload_n S.1 S.2.1 d_Roster_setWish_0 rfl (lv_at hl 0 rfl) ?_
  refine lv_dup S.1 S.2.1 d_Roster_setWish_1 rfl ?_
  obtain ⟨t1, ht1, hf⟩ := xb hf
  refine x_geti S hw lk_Roster_55 ht1 d_Roster_setWish_2 ?_
  refine lv_iload S.1 S.2.1 d_Roster_setWish_5 (lv_at hl 4 rfl) ?_
  refine lv_if_ne (tgt := 14) S.1 S.2.1 d_Roster_setWish_7 (by decide) (fun c2 => ?_) (fun c2 => ?_)
  · replace hf := xf c2 hf
    refine lv_iconst (v := 1) S.1 S.2.1 d_Roster_setWish_14 (by decide) ?_
    refine lv_aload_n S.1 S.2.1 d_Roster_setWish_15 rfl (lv_at hl 0 rfl) ?_
    obtain ⟨t3, ht3, hf⟩ := xb hf
    refine x_getr S hw lk_Roster_39 ht3 d_Roster_setWish_16 ?_
    refine lv_iload_n S.1 S.2.1 d_Roster_setWish_19 rfl (lv_at hl 1 rfl) ?_
    obtain ⟨t4, ht4, hf⟩ := xb hf
    refine x_aald S hw (t := 2) rfl rfl ht4 d_Roster_setWish_20 ?_
    refine lv_iload_n S.1 S.2.1 d_Roster_setWish_21 rfl (lv_at hl 2 rfl) ?_
    obtain ⟨t5, ht5, hf⟩ := xb hf
    refine x_iald S hw ht5 d_Roster_setWish_22 ?_
    refine lv_if_ne (tgt := 30) S.1 S.2.1 d_Roster_setWish_23 (by decide) (fun c6 => ?_) (fun c6 => ?_)
    · replace hf := xf c6 hf
      refine lv_iconst (v := 1) S.1 S.2.1 d_Roster_setWish_30 (by decide) ?_
      exact w_Roster_setWish_31 S hr hlocks  _ _ _ _ _ _ _ _ _ _ _ _ _ hw (lv_sub hl [0, 1, 2, 3, 4] rfl) hf
    · replace hf := xt c6 hf
      refine lv_iconst (v := 0) S.1 S.2.1 d_Roster_setWish_26 (by decide) ?_
      refine lv_goto (tgt := 31) S.1 S.2.1 d_Roster_setWish_27 (by decide) ?_
      exact w_Roster_setWish_31 S hr hlocks  _ _ _ _ _ _ _ _ _ _ _ _ _ hw (lv_sub hl [0, 1, 2, 3, 4] rfl) hf
  · replace hf := xt c2 hf
    refine lv_iconst (v := 0) S.1 S.2.1 d_Roster_setWish_10 (by decide) ?_
    refine lv_goto (tgt := 15) S.1 S.2.1 d_Roster_setWish_11 (by decide) ?_
    refine lv_aload_n S.1 S.2.1 d_Roster_setWish_15 rfl (lv_at hl 0 rfl) ?_
    obtain ⟨t7, ht7, hf⟩ := xb hf
    refine x_getr S hw lk_Roster_39 ht7 d_Roster_setWish_16 ?_
    refine lv_iload_n S.1 S.2.1 d_Roster_setWish_19 rfl (lv_at hl 1 rfl) ?_
    obtain ⟨t8, ht8, hf⟩ := xb hf
    refine x_aald S hw (t := 2) rfl rfl ht8 d_Roster_setWish_20 ?_
    refine lv_iload_n S.1 S.2.1 d_Roster_setWish_21 rfl (lv_at hl 2 rfl) ?_
    obtain ⟨t9, ht9, hf⟩ := xb hf
    refine x_iald S hw ht9 d_Roster_setWish_22 ?_
    refine lv_if_ne (tgt := 30) S.1 S.2.1 d_Roster_setWish_23 (by decide) (fun c10 => ?_) (fun c10 => ?_)
    · replace hf := xf c10 hf
      refine lv_iconst (v := 1) S.1 S.2.1 d_Roster_setWish_30 (by decide) ?_
      exact w_Roster_setWish_31 S hr hlocks  _ _ _ _ _ _ _ _ _ _ _ _ _ hw (lv_sub hl [0, 1, 2, 3, 4] rfl) hf
    · replace hf := xt c10 hf
      refine lv_iconst (v := 0) S.1 S.2.1 d_Roster_setWish_26 (by decide) ?_
      refine lv_goto (tgt := 31) S.1 S.2.1 d_Roster_setWish_27 (by decide) ?_
      exact w_Roster_setWish_31 S hr hlocks  _ _ _ _ _ _ _ _ _ _ _ _ _ hw (lv_sub hl [0, 1, 2, 3, 4] rfl) hf
def f_Roster_wishCost (a0 : Nat) (x1 : Int32) (x2 : Int32) (ω : xS) : Option Int64 :=
  (xk ω a0 8 (f_Roster_letterOf a0 x1 x2 ω)).bind fun t2 =>
  (xgr ω a0 8 7).bind fun t3 =>
  (xar ω 2 t3 x1).bind fun t4 =>
  (xai ω t4 x2).bind fun t5 =>
  if t2 = t5 then (
    some 0)
  else (
    (xgr ω a0 8 8).bind fun t7 =>
    (xar ω 2 t7 x1).bind fun t8 =>
    (xai ω t8 x2).bind fun t9 =>
    some (Int32.toInt64 t9))
set_option maxHeartbeats 4000000 in
set_option maxRecDepth 100000 in
theorem c_Roster_wishCost {l : Launch} {E : xV} {z : Nat} {a0 : Nat} {x1 : Int32} {x2 : Int32} {r : Int64} {ω : xS} (hf : f_Roster_wishCost a0 x1 x2 ω = some r) : xM l E y_Roster_wishCost ws_Roster_wishCost { frames := 1, cells := 0, slots := 0, locals := 22 } [.ref a0, .int x1, .int x2] z ω (some (.long r)) z ω := by
  refine x_start (cc := b_Roster_wishCost) (maxL := 3) (ret := (some .long)) (by decide) rfl (Nat.le_of_ble_eq_true rfl) ?_
  intro p e s m below meth c S hr hlocks hin ls hl hw
  have hl : lv_has ls 3 [(0, .ref a0), (1, .int x1), (2, .int x2)] := hl
  unfold f_Roster_wishCost at hf
  refine lv_aload_n S.1 S.2.1 d_Roster_wishCost_0 rfl (lv_at hl 0 rfl) ?_
  refine lv_iload_n S.1 S.2.1 d_Roster_wishCost_1 rfl (lv_at hl 1 rfl) ?_
  refine lv_iload_n S.1 S.2.1 d_Roster_wishCost_2 rfl (lv_at hl 2 rfl) ?_
  obtain ⟨t2, h1, hf⟩ := xb hf
  obtain ⟨h1b, h1⟩ := xkb h1
  refine x_callV (As := [.int x1, .int x2]) (rest := []) (st1 := [.int t2]) S hw (c_Roster_letterOf h1) (cwV 2 S.2.2.2.2 gv_Roster_48 rfl rfl rfl hd_Roster_letterOf ⟨Nat.le_of_ble_eq_true rfl, Nat.le_of_ble_eq_true rfl⟩) rfl h1b rfl hl.1 rfl rfl (Nat.le_of_ble_eq_true rfl) d_Roster_wishCost_3 ⟨Nat.le_of_ble_eq_true rfl, Nat.le_of_ble_eq_true rfl⟩ (fun H locs hw => ?_)
  refine lv_aload_n S.1 S.2.1 d_Roster_wishCost_6 rfl (lv_at hl 0 rfl) ?_
  obtain ⟨t3, ht3, hf⟩ := xb hf
  refine x_getr S hw lk_Roster_36 ht3 d_Roster_wishCost_7 ?_
  refine lv_iload_n S.1 S.2.1 d_Roster_wishCost_10 rfl (lv_at hl 1 rfl) ?_
  obtain ⟨t4, ht4, hf⟩ := xb hf
  refine x_aald S hw (t := 2) rfl rfl ht4 d_Roster_wishCost_11 ?_
  refine lv_iload_n S.1 S.2.1 d_Roster_wishCost_12 rfl (lv_at hl 2 rfl) ?_
  obtain ⟨t5, ht5, hf⟩ := xb hf
  refine x_iald S hw ht5 d_Roster_wishCost_13 ?_
  refine lv_icmp_ne (tgt := 21) S.1 S.2.1 d_Roster_wishCost_14 (by decide) (fun c6 => ?_) (fun c6 => ?_)
  · replace hf := xf c6 hf
    refine lv_aload_n S.1 S.2.1 d_Roster_wishCost_21 rfl (lv_at hl 0 rfl) ?_
    obtain ⟨t7, ht7, hf⟩ := xb hf
    refine x_getr S hw lk_Roster_39 ht7 d_Roster_wishCost_22 ?_
    refine lv_iload_n S.1 S.2.1 d_Roster_wishCost_25 rfl (lv_at hl 1 rfl) ?_
    obtain ⟨t8, ht8, hf⟩ := xb hf
    refine x_aald S hw (t := 2) rfl rfl ht8 d_Roster_wishCost_26 ?_
    refine lv_iload_n S.1 S.2.1 d_Roster_wishCost_27 rfl (lv_at hl 2 rfl) ?_
    obtain ⟨t9, ht9, hf⟩ := xb hf
    refine x_iald S hw ht9 d_Roster_wishCost_28 ?_
    refine lv_i2l (v := (Int32.toInt64 t9)) S.1 S.2.1 d_Roster_wishCost_29 rfl ?_
    obtain rfl := xe1 hf
    exact x_lret S hr hlocks hw d_Roster_wishCost_30
  · replace hf := xt c6 hf
    refine lv_lconst (v := 0) S.1 S.2.1 d_Roster_wishCost_17 (by decide) ?_
    refine lv_goto (tgt := 30) S.1 S.2.1 d_Roster_wishCost_18 (by decide) ?_
    obtain rfl := xe1 hf
    exact x_lret S hr hlocks hw d_Roster_wishCost_30
def f_Roster_allWishesCost_15 (k4 : Nat → Int64 → Int32 → xS → Option Int64) : Nat → Nat → Int64 → Int32 → Int32 → xS → Option Int64
  | 0, _, _, _, _, _ => none
  | n + 1, a0, x1, x3, x4, ω =>
    (xgi ω a0 8 1).bind fun t3 =>
    if t3 ≤ x4 then (
      k4 a0 x1 (x3 + 1) ω)
    else (
      (xk ω a0 8 (f_Roster_wishCost a0 x3 x4 ω)).bind fun t6 =>
      f_Roster_allWishesCost_15 k4 n a0 (x1 + t6) x3 (x4 + 1) ω)
set_option maxHeartbeats 4000000 in
set_option maxRecDepth 100000 in
theorem w_Roster_allWishesCost_15 {p : Program} {l : Launch} {e : Env} {s : State} {m : MethodId} {args : Array Value} {below : List Frame} {meth : Method} {c : Code} {E : xV} {z : Nat} {r : Int64} {ω : xS} {k4 : Nat → Int64 → Int32 → xS → Option Int64} (S : CallFix p m c b_Roster_allWishesCost 5 s args xTbl "RosterRules$Roster") (hr : meth.sig.returnType = (some .long)) (hlocks : meth.locks = false) (hk4 : ∀ (a0 : Nat) (x1 : Int64) (x3 : Int32) (H : Heap) (locs : List Loc) (ls : Array Slot), xW E z ω s s.heap H locs → lv_has ls 5 [(0, .ref a0), (1, .long x1), (3, .int x3)] → k4 a0 x1 x3 ω = some r → W p l e (headSpec ws_Roster_allWishesCost { frames := 2, cells := 0, slots := 0, locals := 44 }).room s m args below meth c H locs 0 0 (MQ below (xQ E (some (.long r)) z ω) args s 0 0 (fun q => E.2.2 ≤ q)) (F0 m 4 ls [])) : ∀ n : Nat, ∀ (a0 : Nat) (x1 : Int64) (x3 : Int32) (x4 : Int32) (H : Heap) (locs : List Loc) (ls : Array Slot), xW E z ω s s.heap H locs → lv_has ls 5 [(0, .ref a0), (1, .long x1), (3, .int x3), (4, .int x4)] → f_Roster_allWishesCost_15 k4 n a0 x1 x3 x4 ω = some r → W p l e (headSpec ws_Roster_allWishesCost { frames := 2, cells := 0, slots := 0, locals := 44 }).room s m args below meth c H locs 0 0 (MQ below (xQ E (some (.long r)) z ω) args s 0 0 (fun q => E.2.2 ≤ q)) (F0 m 15 ls []) := by
  intro n
  induction n with
  | zero =>
    intro a0 x1 x3 x4 H locs ls hw hl hf
    have h2 : (none : Option Int64) = some r := hf
    cases h2
  | succ n ih =>
    intro a0 x1 x3 x4 H locs ls hw hl hf
    rw [f_Roster_allWishesCost_15] at hf
    refine lv_iload S.1 S.2.1 d_Roster_allWishesCost_15 (lv_at hl 3 rfl) ?_
    refine lv_aload_n S.1 S.2.1 d_Roster_allWishesCost_17 rfl (lv_at hl 0 rfl) ?_
    obtain ⟨t3, ht3, hf⟩ := xb hf
    refine x_geti S hw lk_Roster_25 ht3 d_Roster_allWishesCost_18 ?_
    refine lv_icmp_ge (tgt := 40) S.1 S.2.1 d_Roster_allWishesCost_21 (by decide) (fun c4 => ?_) (fun c4 => ?_)
    · replace hf := xt c4 hf
      refine lv_iinc (v := (x3 + 1)) (lv' := [(3, .int (x3 + 1)), (0, .ref a0), (1, .long x1), (4, .int x4)]) S.1 S.2.1 d_Roster_allWishesCost_40 hl (k := 2) rfl rfl (by decide) rfl (fun ls hl => ?_)
      refine lv_goto (tgt := 4) S.1 S.2.1 d_Roster_allWishesCost_43 (by decide) ?_
      exact hk4 _ _ _ _ _ _ hw (lv_sub hl [1, 2, 0] rfl) hf
    · replace hf := xf c4 hf
      refine lv_lload_n S.1 S.2.1 d_Roster_allWishesCost_24 rfl (lv_at hl 1 rfl) ?_
      refine lv_aload_n S.1 S.2.1 d_Roster_allWishesCost_25 rfl (lv_at hl 0 rfl) ?_
      refine lv_iload_n S.1 S.2.1 d_Roster_allWishesCost_26 rfl (lv_at hl 2 rfl) ?_
      refine lv_iload S.1 S.2.1 d_Roster_allWishesCost_27 (lv_at hl 3 rfl) ?_
      obtain ⟨t6, h5, hf⟩ := xb hf
      obtain ⟨h5b, h5⟩ := xkb h5
      refine x_callV (As := [.int x3, .int x4]) (rest := [.long x1]) (st1 := [.long t6, .long x1]) S hw (c_Roster_wishCost h5) (cwV 2 S.2.2.2.2 gv_Roster_58 rfl rfl rfl hd_Roster_wishCost ⟨Nat.le_of_ble_eq_true rfl, Nat.le_of_ble_eq_true rfl⟩) rfl h5b rfl hl.1 rfl rfl (Nat.le_of_ble_eq_true rfl) d_Roster_allWishesCost_29 ⟨Nat.le_of_ble_eq_true rfl, Nat.le_of_ble_eq_true rfl⟩ (fun H locs hw => ?_)
      refine lv_ladd S.1 S.2.1 d_Roster_allWishesCost_32 ?_
      refine lv_lstore_n (lv' := [(1, .long (x1 + t6)), (0, .ref a0), (3, .int x3), (4, .int x4)]) S.1 S.2.1 d_Roster_allWishesCost_33 rfl hl (by decide) rfl (fun ls hl => ?_)
      refine lv_iinc (v := (x4 + 1)) (lv' := [(4, .int (x4 + 1)), (1, .long (x1 + t6)), (0, .ref a0), (3, .int x3)]) S.1 S.2.1 d_Roster_allWishesCost_34 hl (k := 3) rfl rfl (by decide) rfl (fun ls hl => ?_)
      refine lv_goto (tgt := 15) S.1 S.2.1 d_Roster_allWishesCost_37 (by decide) ?_
      exact ih _ _ _ _ _ _ _ hw (lv_sub hl [2, 1, 3, 0] rfl) hf
def f_Roster_allWishesCost_4 : Nat → Nat → Int64 → Int32 → xS → Option Int64
  | 0, _, _, _, _ => none
  | n + 1, a0, x1, x3, ω =>
    (xgi ω a0 8 0).bind fun t1 =>
    if t1 ≤ x3 then (
      some x1)
    else (
      f_Roster_allWishesCost_15 (f_Roster_allWishesCost_4  n) xFU a0 x1 x3 0 ω)
set_option maxHeartbeats 4000000 in
set_option maxRecDepth 100000 in
theorem w_Roster_allWishesCost_4 {p : Program} {l : Launch} {e : Env} {s : State} {m : MethodId} {args : Array Value} {below : List Frame} {meth : Method} {c : Code} {E : xV} {z : Nat} {r : Int64} {ω : xS} (S : CallFix p m c b_Roster_allWishesCost 5 s args xTbl "RosterRules$Roster") (hr : meth.sig.returnType = (some .long)) (hlocks : meth.locks = false) : ∀ n : Nat, ∀ (a0 : Nat) (x1 : Int64) (x3 : Int32) (H : Heap) (locs : List Loc) (ls : Array Slot), xW E z ω s s.heap H locs → lv_has ls 5 [(0, .ref a0), (1, .long x1), (3, .int x3)] → f_Roster_allWishesCost_4 n a0 x1 x3 ω = some r → W p l e (headSpec ws_Roster_allWishesCost { frames := 2, cells := 0, slots := 0, locals := 44 }).room s m args below meth c H locs 0 0 (MQ below (xQ E (some (.long r)) z ω) args s 0 0 (fun q => E.2.2 ≤ q)) (F0 m 4 ls []) := by
  intro n
  induction n with
  | zero =>
    intro a0 x1 x3 H locs ls hw hl hf
    have h2 : (none : Option Int64) = some r := hf
    cases h2
  | succ n ih =>
    intro a0 x1 x3 H locs ls hw hl hf
    rw [f_Roster_allWishesCost_4] at hf
    refine lv_iload_n S.1 S.2.1 d_Roster_allWishesCost_4 rfl (lv_at hl 2 rfl) ?_
    refine lv_aload_n S.1 S.2.1 d_Roster_allWishesCost_5 rfl (lv_at hl 0 rfl) ?_
    obtain ⟨t1, ht1, hf⟩ := xb hf
    refine x_geti S hw lk_Roster_21 ht1 d_Roster_allWishesCost_6 ?_
    refine lv_icmp_ge (tgt := 46) S.1 S.2.1 d_Roster_allWishesCost_9 (by decide) (fun c2 => ?_) (fun c2 => ?_)
    · replace hf := xt c2 hf
      refine lv_lload_n S.1 S.2.1 d_Roster_allWishesCost_46 rfl (lv_at hl 1 rfl) ?_
      obtain rfl := xe1 hf
      exact x_lret S hr hlocks hw d_Roster_allWishesCost_47
    · replace hf := xf c2 hf
      refine lv_iconst (v := 0) S.1 S.2.1 d_Roster_allWishesCost_12 (by decide) ?_
      refine lv_istore (lv' := [(4, .int 0), (0, .ref a0), (1, .long x1), (3, .int x3)]) S.1 S.2.1 d_Roster_allWishesCost_13 hl (by decide) rfl (fun ls hl => ?_)
      exact w_Roster_allWishesCost_15 S hr hlocks ih _ _ _ _ _ _ _ _ hw (lv_sub hl [1, 2, 3, 0] rfl) hf
def f_Roster_allWishesCost (a0 : Nat) (ω : xS) : Option Int64 :=
  f_Roster_allWishesCost_4  xFU a0 0 0 ω
set_option maxHeartbeats 4000000 in
set_option maxRecDepth 100000 in
theorem c_Roster_allWishesCost {l : Launch} {E : xV} {z : Nat} {a0 : Nat} {r : Int64} {ω : xS} (hf : f_Roster_allWishesCost a0 ω = some r) : xM l E y_Roster_allWishesCost ws_Roster_allWishesCost { frames := 2, cells := 0, slots := 0, locals := 44 } [.ref a0] z ω (some (.long r)) z ω := by
  refine x_start (cc := b_Roster_allWishesCost) (maxL := 5) (ret := (some .long)) (by decide) rfl (Nat.le_of_ble_eq_true rfl) ?_
  intro p e s m below meth c S hr hlocks hin ls hl hw
  have hl : lv_has ls 5 [(0, .ref a0)] := hl
  unfold f_Roster_allWishesCost at hf
  refine lv_lconst (v := 0) S.1 S.2.1 d_Roster_allWishesCost_0 (by decide) ?_
  refine lv_lstore_n (lv' := [(1, .long 0), (0, .ref a0)]) S.1 S.2.1 d_Roster_allWishesCost_1 rfl hl (by decide) rfl (fun ls hl => ?_)
  refine lv_iconst (v := 0) S.1 S.2.1 d_Roster_allWishesCost_2 (by decide) ?_
  refine lv_istore_n (lv' := [(3, .int 0), (1, .long 0), (0, .ref a0)]) S.1 S.2.1 d_Roster_allWishesCost_3 rfl hl (by decide) rfl (fun ls hl => ?_)
  exact w_Roster_allWishesCost_4 S hr hlocks  _ _ _ _ _ _ _ hw (lv_sub hl [2, 1, 0] rfl) hf
def f_Tape_init (a0 : Nat) (z : Nat) (ω : xS) : Option xS :=
  xl (xu ω z (.inl (0, 1500, .inl (fun _ => 0)))) fun w1 =>
  (xp w1 a0 9 0 (.ref z)).bind fun w2 =>
  some w2
set_option maxHeartbeats 4000000 in
set_option maxRecDepth 100000 in
theorem c_Tape_init {l : Launch} {E : xV} {z : Nat} {a0 : Nat} {ω1 : xS} {ω : xS} (hf : f_Tape_init a0 z ω = some ω1) : xM l E y_Tape_init ws_Tape_init { frames := 1, cells := 1, slots := 1500, locals := 20 } [.ref a0] z ω none (z + 1) ω1 := by
  refine x_start (cc := b_Tape_init) (maxL := 1) (ret := none) (by decide) rfl (Nat.le_of_ble_eq_true rfl) ?_
  intro p e s m below meth c S hr hlocks hin ls hl hw
  have hl : lv_has ls 1 [(0, .ref a0)] := hl
  have hin := hin rfl
  unfold f_Tape_init at hf
  refine lv_aload_n S.1 S.2.1 d_Tape_init_0 rfl (lv_at hl 0 rfl) ?_
  refine x_obj S hl.1 ob_Tape_3 d_Tape_init_1 (Nat.le_of_ble_eq_true rfl) (Nat.le_of_ble_eq_true rfl) ?_
  refine lv_aload_n S.1 S.2.1 d_Tape_init_4 rfl (lv_at hl 0 rfl) ?_
  refine lv_sipush (v := 1500) S.1 S.2.1 d_Tape_init_5 (by decide) ?_
  obtain ⟨w1, hw1, hf⟩ := xlb hf
  refine x_newi (N := 1500) S hw xArr_i (by decide) (by decide) (by decide) hw1 (Nat.le_of_ble_eq_true rfl) (Nat.le_of_ble_eq_true rfl) d_Tape_init_8 (fun H hw => ?_)
  obtain ⟨w2, hw2, hf⟩ := xb hf
  refine x_putF S hin hw lf_Tape_9 rfl rfl hw2 d_Tape_init_10 (fun H locs hw => ?_)
  cases hf
  exact x_vret S hr hlocks hw d_Tape_init_13
def f_Tape_append_3 : Nat → Nat → Int32 → Int64 → Int32 → xS → Option xS
  | 0, _, _, _, _, _ => none
  | n + 1, a0, x1, x2, x4, ω =>
    if x1 ≤ x4 then (
      some ω)
    else (
      (xgi ω a0 9 1).bind fun t2 =>
      if 1500 ≤ t2 then (
        some ω)
      else (
        (xgr ω a0 9 0).bind fun t4 =>
        (xgi ω a0 9 1).bind fun t5 =>
        (xsi ω t4 t5 ((Int64.toInt32 (xlushr x2 (8 * x4))) &&& 255)).bind fun w6 =>
        (xgi w6 a0 9 1).bind fun t7 =>
        (xp w6 a0 9 1 (.int (t7 + 1))).bind fun w8 =>
        f_Tape_append_3  n a0 x1 x2 (x4 + 1) w8))
set_option maxHeartbeats 4000000 in
set_option maxRecDepth 100000 in
theorem w_Tape_append_3 {p : Program} {l : Launch} {e : Env} {s : State} {m : MethodId} {args : Array Value} {below : List Frame} {meth : Method} {c : Code} {E : xV} {z : Nat} {ω1 : xS} (S : CallFix p m c b_Tape_append 5 s args xTbl "RosterRules$Tape") (hr : meth.sig.returnType = none) (hlocks : meth.locks = false) : ∀ n : Nat, ∀ (a0 : Nat) (x1 : Int32) (x2 : Int64) (x4 : Int32) (ω : xS) (H : Heap) (locs : List Loc) (ls : Array Slot), xW E z ω s s.heap H locs → lv_has ls 5 [(0, .ref a0), (1, .int x1), (2, .long x2), (4, .int x4)] → f_Tape_append_3 n a0 x1 x2 x4 ω = some ω1 → W p l e (headSpec ws_Tape_append { frames := 0, cells := 0, slots := 0, locals := 0 }).room s m args below meth c H locs 0 0 (MQ below (xQ E none z ω1) args s 0 0 (fun q => E.2.2 ≤ q)) (F0 m 3 ls []) := by
  intro n
  induction n with
  | zero =>
    intro a0 x1 x2 x4 ω H locs ls hw hl hf
    have h2 : (none : Option xS) = some ω1 := hf
    cases h2
  | succ n ih =>
    intro a0 x1 x2 x4 ω H locs ls hw hl hf
    rw [f_Tape_append_3] at hf
    refine lv_iload S.1 S.2.1 d_Tape_append_3 (lv_at hl 3 rfl) ?_
    refine lv_iload_n S.1 S.2.1 d_Tape_append_5 rfl (lv_at hl 1 rfl) ?_
    refine lv_icmp_ge (tgt := 56) S.1 S.2.1 d_Tape_append_6 (by decide) (fun c1 => ?_) (fun c1 => ?_)
    · replace hf := xt c1 hf
      cases hf
      exact x_vret S hr hlocks hw d_Tape_append_56
    · replace hf := xf c1 hf
      refine lv_aload_n S.1 S.2.1 d_Tape_append_9 rfl (lv_at hl 0 rfl) ?_
      obtain ⟨t2, ht2, hf⟩ := xb hf
      refine x_geti S hw lk_Tape_15 ht2 d_Tape_append_10 ?_
      refine lv_sipush (v := 1500) S.1 S.2.1 d_Tape_append_13 (by decide) ?_
      refine lv_icmp_ge (tgt := 56) S.1 S.2.1 d_Tape_append_16 (by decide) (fun c3 => ?_) (fun c3 => ?_)
      · replace hf := xt c3 hf
        cases hf
        exact x_vret S hr hlocks hw d_Tape_append_56
      · replace hf := xf c3 hf
        refine lv_aload_n S.1 S.2.1 d_Tape_append_19 rfl (lv_at hl 0 rfl) ?_
        obtain ⟨t4, ht4, hf⟩ := xb hf
        refine x_getr S hw lk_Tape_9 ht4 d_Tape_append_20 ?_
        refine lv_aload_n S.1 S.2.1 d_Tape_append_23 rfl (lv_at hl 0 rfl) ?_
        obtain ⟨t5, ht5, hf⟩ := xb hf
        refine x_geti S hw lk_Tape_15 ht5 d_Tape_append_24 ?_
        refine lv_lload_n S.1 S.2.1 d_Tape_append_27 rfl (lv_at hl 2 rfl) ?_
        refine lv_bipush (v := 8) S.1 S.2.1 d_Tape_append_28 (by decide) ?_
        refine lv_iload S.1 S.2.1 d_Tape_append_30 (lv_at hl 3 rfl) ?_
        refine lv_imul S.1 S.2.1 d_Tape_append_32 ?_
        refine lv_lushr (v := (xlushr x2 (8 * x4))) S.1 S.2.1 d_Tape_append_33 rfl ?_
        refine lv_l2i (v := (Int64.toInt32 (xlushr x2 (8 * x4)))) S.1 S.2.1 d_Tape_append_34 rfl ?_
        refine lv_sipush (v := 255) S.1 S.2.1 d_Tape_append_35 (by decide) ?_
        refine lv_iand S.1 S.2.1 d_Tape_append_38 ?_
        obtain ⟨w6, hw6, hf⟩ := xb hf
        refine x_iast S hw hw6 d_Tape_append_39 (fun H locs hw => ?_)
        refine lv_aload_n S.1 S.2.1 d_Tape_append_40 rfl (lv_at hl 0 rfl) ?_
        refine lv_dup S.1 S.2.1 d_Tape_append_41 rfl ?_
        obtain ⟨t7, ht7, hf⟩ := xb hf
        refine x_geti S hw lk_Tape_15 ht7 d_Tape_append_42 ?_
        refine lv_iconst (v := 1) S.1 S.2.1 d_Tape_append_45 (by decide) ?_
        refine lv_iadd S.1 S.2.1 d_Tape_append_46 ?_
        obtain ⟨w8, hw8, hf⟩ := xb hf
        refine x_puti S hw lp_Tape_15 hw8 d_Tape_append_47 (fun H locs hw => ?_)
        refine lv_iinc (v := (x4 + 1)) (lv' := [(4, .int (x4 + 1)), (0, .ref a0), (1, .int x1), (2, .long x2)]) S.1 S.2.1 d_Tape_append_50 hl (k := 3) rfl rfl (by decide) rfl (fun ls hl => ?_)
        refine lv_goto (tgt := 3) S.1 S.2.1 d_Tape_append_53 (by decide) ?_
        exact ih _ _ _ _ _ _ _ _ hw (lv_sub hl [1, 2, 3, 0] rfl) hf
def f_Tape_append (a0 : Nat) (x1 : Int32) (x2 : Int64) (ω : xS) : Option xS :=
  f_Tape_append_3  xFU a0 x1 x2 0 ω
set_option maxHeartbeats 4000000 in
set_option maxRecDepth 100000 in
theorem c_Tape_append {l : Launch} {E : xV} {z : Nat} {a0 : Nat} {x1 : Int32} {x2 : Int64} {ω1 : xS} {ω : xS} (hf : f_Tape_append a0 x1 x2 ω = some ω1) : xM l E y_Tape_append ws_Tape_append { frames := 0, cells := 0, slots := 0, locals := 0 } [.ref a0, .int x1, .long x2] z ω none z ω1 := by
  refine x_start (cc := b_Tape_append) (maxL := 5) (ret := none) (by decide) rfl (Nat.le_of_ble_eq_true rfl) ?_
  intro p e s m below meth c S hr hlocks hin ls hl hw
  have hl : lv_has ls 5 [(0, .ref a0), (1, .int x1), (2, .long x2)] := hl
  unfold f_Tape_append at hf
  refine lv_iconst (v := 0) S.1 S.2.1 d_Tape_append_0 (by decide) ?_
  refine lv_istore (lv' := [(4, .int 0), (0, .ref a0), (1, .int x1), (2, .long x2)]) S.1 S.2.1 d_Tape_append_1 hl (by decide) rfl (fun ls hl => ?_)
  exact w_Tape_append_3 S hr hlocks  _ _ _ _ _ _ _ _ _ hw (lv_sub hl [1, 2, 3, 0] rfl) hf
def f_RR_init (a0 : Nat) (x1 : Int32) (x2 : Int32) (z : Nat) (ω : xS) : Option xS :=
  xl (xu ω z (.inr (9, [.null, .int 0]))) fun w1 =>
  (f_Tape_init z (z + 1) w1).bind fun w2 =>
  (xp w2 a0 11 0 (.ref z)).bind fun w4 =>
  xl (xu w4 (z + 2) (.inr (2, [.null, .null, .null, .int 0, .int 0]))) fun w5 =>
  (f_History_init (z + 2) (z + 3) w5).bind fun w6 =>
  (xp w6 a0 11 3 (.ref (z + 2))).bind fun w8 =>
  xl (xu w8 (z + 6) (.inr (1, [.null, .null, .null, .null, .null, .null, .null, .null, .int 0]))) fun w9 =>
  (f_AutomatonMaker_init (z + 6) (z + 7) w9).bind fun w10 =>
  (xp w10 a0 11 5 (.ref (z + 6))).bind fun w12 =>
  xl (xu w12 (z + 15) (.inl (3, 16, .inr (.inr (.inr (.inr (fun _ => none))))))) fun w13 =>
  (xp w13 a0 11 6 (.ref (z + 15))).bind fun w14 =>
  xl (xu w14 (z + 16) (.inl (3, 16, .inr (.inr (.inr (.inr (fun _ => none))))))) fun w15 =>
  (xp w15 a0 11 7 (.ref (z + 16))).bind fun w16 =>
  xl (xu w16 (z + 17) (.inr (8, [.int 0, .int 0, .null, .null, .null, .null, .null, .null, .null, .null, .null, .int 0, .int 0]))) fun w17 =>
  (f_Roster_init (z + 17) (xmax 1 (xmin 8 x1)) (xmax 1 (xmin 21 x2)) (z + 18) w17).bind fun w18 =>
  (xp w18 a0 11 1 (.ref (z + 17))).bind fun w20 =>
  xl (xu w20 (((((((z + 18) + 4) + 1 + (xmax 1 (xmin 8 x1)).toNatClampNeg) + 1 + (xmax 1 (xmin 8 x1)).toNatClampNeg) + 1 + (xmax 1 (xmin 8 x1)).toNatClampNeg) + 1 + (xmax 1 (xmin 8 x1)).toNatClampNeg) + 1 + (xmax 1 (xmin 21 x2)).toNatClampNeg) (.inr (3, [.null]))) fun w21 =>
  (xgr w21 a0 11 1).bind fun t22 =>
  (f_Judge_init (((((((z + 18) + 4) + 1 + (xmax 1 (xmin 8 x1)).toNatClampNeg) + 1 + (xmax 1 (xmin 8 x1)).toNatClampNeg) + 1 + (xmax 1 (xmin 8 x1)).toNatClampNeg) + 1 + (xmax 1 (xmin 8 x1)).toNatClampNeg) + 1 + (xmax 1 (xmin 21 x2)).toNatClampNeg) t22 w21).bind fun w23 =>
  (xp w23 a0 11 2 (.ref (((((((z + 18) + 4) + 1 + (xmax 1 (xmin 8 x1)).toNatClampNeg) + 1 + (xmax 1 (xmin 8 x1)).toNatClampNeg) + 1 + (xmax 1 (xmin 8 x1)).toNatClampNeg) + 1 + (xmax 1 (xmin 8 x1)).toNatClampNeg) + 1 + (xmax 1 (xmin 21 x2)).toNatClampNeg))).bind fun w25 =>
  xl (xu w25 ((((((((z + 18) + 4) + 1 + (xmax 1 (xmin 8 x1)).toNatClampNeg) + 1 + (xmax 1 (xmin 8 x1)).toNatClampNeg) + 1 + (xmax 1 (xmin 8 x1)).toNatClampNeg) + 1 + (xmax 1 (xmin 8 x1)).toNatClampNeg) + 1 + (xmax 1 (xmin 21 x2)).toNatClampNeg) + 1) (.inr (5, [.null, .null, .int 0, .int 0, .int 0]))) fun w26 =>
  (xgr w26 a0 11 0).bind fun t27 =>
  (xgr w26 a0 11 1).bind fun t28 =>
  (xgi w26 t28 8 1).bind fun t29 =>
  (f_LawReader_init ((((((((z + 18) + 4) + 1 + (xmax 1 (xmin 8 x1)).toNatClampNeg) + 1 + (xmax 1 (xmin 8 x1)).toNatClampNeg) + 1 + (xmax 1 (xmin 8 x1)).toNatClampNeg) + 1 + (xmax 1 (xmin 8 x1)).toNatClampNeg) + 1 + (xmax 1 (xmin 21 x2)).toNatClampNeg) + 1) t27 t29 ((((((((z + 18) + 4) + 1 + (xmax 1 (xmin 8 x1)).toNatClampNeg) + 1 + (xmax 1 (xmin 8 x1)).toNatClampNeg) + 1 + (xmax 1 (xmin 8 x1)).toNatClampNeg) + 1 + (xmax 1 (xmin 8 x1)).toNatClampNeg) + 1 + (xmax 1 (xmin 21 x2)).toNatClampNeg) + 2) w26).bind fun w30 =>
  (xp w30 a0 11 4 (.ref ((((((((z + 18) + 4) + 1 + (xmax 1 (xmin 8 x1)).toNatClampNeg) + 1 + (xmax 1 (xmin 8 x1)).toNatClampNeg) + 1 + (xmax 1 (xmin 8 x1)).toNatClampNeg) + 1 + (xmax 1 (xmin 8 x1)).toNatClampNeg) + 1 + (xmax 1 (xmin 21 x2)).toNatClampNeg) + 1))).bind fun w32 =>
  (xgr w32 a0 11 6).bind fun t34 =>
  xl (xu w32 ((((((((z + 18) + 4) + 1 + (xmax 1 (xmin 8 x1)).toNatClampNeg) + 1 + (xmax 1 (xmin 8 x1)).toNatClampNeg) + 1 + (xmax 1 (xmin 8 x1)).toNatClampNeg) + 1 + (xmax 1 (xmin 8 x1)).toNatClampNeg) + 1 + (xmax 1 (xmin 21 x2)).toNatClampNeg) + 7) (.inr (4, [.null, .null, .int 0, .int 0, .int 0, .int 0, .int 0, .int 0, .int 0]))) fun w35 =>
  (f_Law_init ((((((((z + 18) + 4) + 1 + (xmax 1 (xmin 8 x1)).toNatClampNeg) + 1 + (xmax 1 (xmin 8 x1)).toNatClampNeg) + 1 + (xmax 1 (xmin 8 x1)).toNatClampNeg) + 1 + (xmax 1 (xmin 8 x1)).toNatClampNeg) + 1 + (xmax 1 (xmin 21 x2)).toNatClampNeg) + 7) ((((((((z + 18) + 4) + 1 + (xmax 1 (xmin 8 x1)).toNatClampNeg) + 1 + (xmax 1 (xmin 8 x1)).toNatClampNeg) + 1 + (xmax 1 (xmin 8 x1)).toNatClampNeg) + 1 + (xmax 1 (xmin 8 x1)).toNatClampNeg) + 1 + (xmax 1 (xmin 21 x2)).toNatClampNeg) + 8) w35).bind fun w36 =>
  (xsr w36 3 4 t34 0 ((((((((z + 18) + 4) + 1 + (xmax 1 (xmin 8 x1)).toNatClampNeg) + 1 + (xmax 1 (xmin 8 x1)).toNatClampNeg) + 1 + (xmax 1 (xmin 8 x1)).toNatClampNeg) + 1 + (xmax 1 (xmin 8 x1)).toNatClampNeg) + 1 + (xmax 1 (xmin 21 x2)).toNatClampNeg) + 7)).bind fun w38 =>
  (xgr w38 a0 11 7).bind fun t39 =>
  xl (xu w38 ((((((((z + 18) + 4) + 1 + (xmax 1 (xmin 8 x1)).toNatClampNeg) + 1 + (xmax 1 (xmin 8 x1)).toNatClampNeg) + 1 + (xmax 1 (xmin 8 x1)).toNatClampNeg) + 1 + (xmax 1 (xmin 8 x1)).toNatClampNeg) + 1 + (xmax 1 (xmin 21 x2)).toNatClampNeg) + 15) (.inr (4, [.null, .null, .int 0, .int 0, .int 0, .int 0, .int 0, .int 0, .int 0]))) fun w40 =>
  (f_Law_init ((((((((z + 18) + 4) + 1 + (xmax 1 (xmin 8 x1)).toNatClampNeg) + 1 + (xmax 1 (xmin 8 x1)).toNatClampNeg) + 1 + (xmax 1 (xmin 8 x1)).toNatClampNeg) + 1 + (xmax 1 (xmin 8 x1)).toNatClampNeg) + 1 + (xmax 1 (xmin 21 x2)).toNatClampNeg) + 15) ((((((((z + 18) + 4) + 1 + (xmax 1 (xmin 8 x1)).toNatClampNeg) + 1 + (xmax 1 (xmin 8 x1)).toNatClampNeg) + 1 + (xmax 1 (xmin 8 x1)).toNatClampNeg) + 1 + (xmax 1 (xmin 8 x1)).toNatClampNeg) + 1 + (xmax 1 (xmin 21 x2)).toNatClampNeg) + 16) w40).bind fun w41 =>
  (xsr w41 3 4 t39 0 ((((((((z + 18) + 4) + 1 + (xmax 1 (xmin 8 x1)).toNatClampNeg) + 1 + (xmax 1 (xmin 8 x1)).toNatClampNeg) + 1 + (xmax 1 (xmin 8 x1)).toNatClampNeg) + 1 + (xmax 1 (xmin 8 x1)).toNatClampNeg) + 1 + (xmax 1 (xmin 21 x2)).toNatClampNeg) + 15)).bind fun w43 =>
  (xgr w43 a0 11 6).bind fun t45 =>
  xl (xu w43 ((((((((z + 18) + 4) + 1 + (xmax 1 (xmin 8 x1)).toNatClampNeg) + 1 + (xmax 1 (xmin 8 x1)).toNatClampNeg) + 1 + (xmax 1 (xmin 8 x1)).toNatClampNeg) + 1 + (xmax 1 (xmin 8 x1)).toNatClampNeg) + 1 + (xmax 1 (xmin 21 x2)).toNatClampNeg) + 23) (.inr (4, [.null, .null, .int 0, .int 0, .int 0, .int 0, .int 0, .int 0, .int 0]))) fun w46 =>
  (f_Law_init ((((((((z + 18) + 4) + 1 + (xmax 1 (xmin 8 x1)).toNatClampNeg) + 1 + (xmax 1 (xmin 8 x1)).toNatClampNeg) + 1 + (xmax 1 (xmin 8 x1)).toNatClampNeg) + 1 + (xmax 1 (xmin 8 x1)).toNatClampNeg) + 1 + (xmax 1 (xmin 21 x2)).toNatClampNeg) + 23) ((((((((z + 18) + 4) + 1 + (xmax 1 (xmin 8 x1)).toNatClampNeg) + 1 + (xmax 1 (xmin 8 x1)).toNatClampNeg) + 1 + (xmax 1 (xmin 8 x1)).toNatClampNeg) + 1 + (xmax 1 (xmin 8 x1)).toNatClampNeg) + 1 + (xmax 1 (xmin 21 x2)).toNatClampNeg) + 24) w46).bind fun w47 =>
  (xsr w47 3 4 t45 1 ((((((((z + 18) + 4) + 1 + (xmax 1 (xmin 8 x1)).toNatClampNeg) + 1 + (xmax 1 (xmin 8 x1)).toNatClampNeg) + 1 + (xmax 1 (xmin 8 x1)).toNatClampNeg) + 1 + (xmax 1 (xmin 8 x1)).toNatClampNeg) + 1 + (xmax 1 (xmin 21 x2)).toNatClampNeg) + 23)).bind fun w49 =>
  (xgr w49 a0 11 7).bind fun t50 =>
  xl (xu w49 ((((((((z + 18) + 4) + 1 + (xmax 1 (xmin 8 x1)).toNatClampNeg) + 1 + (xmax 1 (xmin 8 x1)).toNatClampNeg) + 1 + (xmax 1 (xmin 8 x1)).toNatClampNeg) + 1 + (xmax 1 (xmin 8 x1)).toNatClampNeg) + 1 + (xmax 1 (xmin 21 x2)).toNatClampNeg) + 31) (.inr (4, [.null, .null, .int 0, .int 0, .int 0, .int 0, .int 0, .int 0, .int 0]))) fun w51 =>
  (f_Law_init ((((((((z + 18) + 4) + 1 + (xmax 1 (xmin 8 x1)).toNatClampNeg) + 1 + (xmax 1 (xmin 8 x1)).toNatClampNeg) + 1 + (xmax 1 (xmin 8 x1)).toNatClampNeg) + 1 + (xmax 1 (xmin 8 x1)).toNatClampNeg) + 1 + (xmax 1 (xmin 21 x2)).toNatClampNeg) + 31) ((((((((z + 18) + 4) + 1 + (xmax 1 (xmin 8 x1)).toNatClampNeg) + 1 + (xmax 1 (xmin 8 x1)).toNatClampNeg) + 1 + (xmax 1 (xmin 8 x1)).toNatClampNeg) + 1 + (xmax 1 (xmin 8 x1)).toNatClampNeg) + 1 + (xmax 1 (xmin 21 x2)).toNatClampNeg) + 32) w51).bind fun w52 =>
  (xsr w52 3 4 t50 1 ((((((((z + 18) + 4) + 1 + (xmax 1 (xmin 8 x1)).toNatClampNeg) + 1 + (xmax 1 (xmin 8 x1)).toNatClampNeg) + 1 + (xmax 1 (xmin 8 x1)).toNatClampNeg) + 1 + (xmax 1 (xmin 8 x1)).toNatClampNeg) + 1 + (xmax 1 (xmin 21 x2)).toNatClampNeg) + 31)).bind fun w54 =>
  (xgr w54 a0 11 6).bind fun t56 =>
  xl (xu w54 ((((((((z + 18) + 4) + 1 + (xmax 1 (xmin 8 x1)).toNatClampNeg) + 1 + (xmax 1 (xmin 8 x1)).toNatClampNeg) + 1 + (xmax 1 (xmin 8 x1)).toNatClampNeg) + 1 + (xmax 1 (xmin 8 x1)).toNatClampNeg) + 1 + (xmax 1 (xmin 21 x2)).toNatClampNeg) + 39) (.inr (4, [.null, .null, .int 0, .int 0, .int 0, .int 0, .int 0, .int 0, .int 0]))) fun w57 =>
  (f_Law_init ((((((((z + 18) + 4) + 1 + (xmax 1 (xmin 8 x1)).toNatClampNeg) + 1 + (xmax 1 (xmin 8 x1)).toNatClampNeg) + 1 + (xmax 1 (xmin 8 x1)).toNatClampNeg) + 1 + (xmax 1 (xmin 8 x1)).toNatClampNeg) + 1 + (xmax 1 (xmin 21 x2)).toNatClampNeg) + 39) ((((((((z + 18) + 4) + 1 + (xmax 1 (xmin 8 x1)).toNatClampNeg) + 1 + (xmax 1 (xmin 8 x1)).toNatClampNeg) + 1 + (xmax 1 (xmin 8 x1)).toNatClampNeg) + 1 + (xmax 1 (xmin 8 x1)).toNatClampNeg) + 1 + (xmax 1 (xmin 21 x2)).toNatClampNeg) + 40) w57).bind fun w58 =>
  (xsr w58 3 4 t56 2 ((((((((z + 18) + 4) + 1 + (xmax 1 (xmin 8 x1)).toNatClampNeg) + 1 + (xmax 1 (xmin 8 x1)).toNatClampNeg) + 1 + (xmax 1 (xmin 8 x1)).toNatClampNeg) + 1 + (xmax 1 (xmin 8 x1)).toNatClampNeg) + 1 + (xmax 1 (xmin 21 x2)).toNatClampNeg) + 39)).bind fun w60 =>
  (xgr w60 a0 11 7).bind fun t61 =>
  xl (xu w60 ((((((((z + 18) + 4) + 1 + (xmax 1 (xmin 8 x1)).toNatClampNeg) + 1 + (xmax 1 (xmin 8 x1)).toNatClampNeg) + 1 + (xmax 1 (xmin 8 x1)).toNatClampNeg) + 1 + (xmax 1 (xmin 8 x1)).toNatClampNeg) + 1 + (xmax 1 (xmin 21 x2)).toNatClampNeg) + 47) (.inr (4, [.null, .null, .int 0, .int 0, .int 0, .int 0, .int 0, .int 0, .int 0]))) fun w62 =>
  (f_Law_init ((((((((z + 18) + 4) + 1 + (xmax 1 (xmin 8 x1)).toNatClampNeg) + 1 + (xmax 1 (xmin 8 x1)).toNatClampNeg) + 1 + (xmax 1 (xmin 8 x1)).toNatClampNeg) + 1 + (xmax 1 (xmin 8 x1)).toNatClampNeg) + 1 + (xmax 1 (xmin 21 x2)).toNatClampNeg) + 47) ((((((((z + 18) + 4) + 1 + (xmax 1 (xmin 8 x1)).toNatClampNeg) + 1 + (xmax 1 (xmin 8 x1)).toNatClampNeg) + 1 + (xmax 1 (xmin 8 x1)).toNatClampNeg) + 1 + (xmax 1 (xmin 8 x1)).toNatClampNeg) + 1 + (xmax 1 (xmin 21 x2)).toNatClampNeg) + 48) w62).bind fun w63 =>
  (xsr w63 3 4 t61 2 ((((((((z + 18) + 4) + 1 + (xmax 1 (xmin 8 x1)).toNatClampNeg) + 1 + (xmax 1 (xmin 8 x1)).toNatClampNeg) + 1 + (xmax 1 (xmin 8 x1)).toNatClampNeg) + 1 + (xmax 1 (xmin 8 x1)).toNatClampNeg) + 1 + (xmax 1 (xmin 21 x2)).toNatClampNeg) + 47)).bind fun w65 =>
  (xgr w65 a0 11 6).bind fun t67 =>
  xl (xu w65 ((((((((z + 18) + 4) + 1 + (xmax 1 (xmin 8 x1)).toNatClampNeg) + 1 + (xmax 1 (xmin 8 x1)).toNatClampNeg) + 1 + (xmax 1 (xmin 8 x1)).toNatClampNeg) + 1 + (xmax 1 (xmin 8 x1)).toNatClampNeg) + 1 + (xmax 1 (xmin 21 x2)).toNatClampNeg) + 55) (.inr (4, [.null, .null, .int 0, .int 0, .int 0, .int 0, .int 0, .int 0, .int 0]))) fun w68 =>
  (f_Law_init ((((((((z + 18) + 4) + 1 + (xmax 1 (xmin 8 x1)).toNatClampNeg) + 1 + (xmax 1 (xmin 8 x1)).toNatClampNeg) + 1 + (xmax 1 (xmin 8 x1)).toNatClampNeg) + 1 + (xmax 1 (xmin 8 x1)).toNatClampNeg) + 1 + (xmax 1 (xmin 21 x2)).toNatClampNeg) + 55) ((((((((z + 18) + 4) + 1 + (xmax 1 (xmin 8 x1)).toNatClampNeg) + 1 + (xmax 1 (xmin 8 x1)).toNatClampNeg) + 1 + (xmax 1 (xmin 8 x1)).toNatClampNeg) + 1 + (xmax 1 (xmin 8 x1)).toNatClampNeg) + 1 + (xmax 1 (xmin 21 x2)).toNatClampNeg) + 56) w68).bind fun w69 =>
  (xsr w69 3 4 t67 3 ((((((((z + 18) + 4) + 1 + (xmax 1 (xmin 8 x1)).toNatClampNeg) + 1 + (xmax 1 (xmin 8 x1)).toNatClampNeg) + 1 + (xmax 1 (xmin 8 x1)).toNatClampNeg) + 1 + (xmax 1 (xmin 8 x1)).toNatClampNeg) + 1 + (xmax 1 (xmin 21 x2)).toNatClampNeg) + 55)).bind fun w71 =>
  (xgr w71 a0 11 7).bind fun t72 =>
  xl (xu w71 ((((((((z + 18) + 4) + 1 + (xmax 1 (xmin 8 x1)).toNatClampNeg) + 1 + (xmax 1 (xmin 8 x1)).toNatClampNeg) + 1 + (xmax 1 (xmin 8 x1)).toNatClampNeg) + 1 + (xmax 1 (xmin 8 x1)).toNatClampNeg) + 1 + (xmax 1 (xmin 21 x2)).toNatClampNeg) + 63) (.inr (4, [.null, .null, .int 0, .int 0, .int 0, .int 0, .int 0, .int 0, .int 0]))) fun w73 =>
  (f_Law_init ((((((((z + 18) + 4) + 1 + (xmax 1 (xmin 8 x1)).toNatClampNeg) + 1 + (xmax 1 (xmin 8 x1)).toNatClampNeg) + 1 + (xmax 1 (xmin 8 x1)).toNatClampNeg) + 1 + (xmax 1 (xmin 8 x1)).toNatClampNeg) + 1 + (xmax 1 (xmin 21 x2)).toNatClampNeg) + 63) ((((((((z + 18) + 4) + 1 + (xmax 1 (xmin 8 x1)).toNatClampNeg) + 1 + (xmax 1 (xmin 8 x1)).toNatClampNeg) + 1 + (xmax 1 (xmin 8 x1)).toNatClampNeg) + 1 + (xmax 1 (xmin 8 x1)).toNatClampNeg) + 1 + (xmax 1 (xmin 21 x2)).toNatClampNeg) + 64) w73).bind fun w74 =>
  (xsr w74 3 4 t72 3 ((((((((z + 18) + 4) + 1 + (xmax 1 (xmin 8 x1)).toNatClampNeg) + 1 + (xmax 1 (xmin 8 x1)).toNatClampNeg) + 1 + (xmax 1 (xmin 8 x1)).toNatClampNeg) + 1 + (xmax 1 (xmin 8 x1)).toNatClampNeg) + 1 + (xmax 1 (xmin 21 x2)).toNatClampNeg) + 63)).bind fun w76 =>
  (xgr w76 a0 11 6).bind fun t78 =>
  xl (xu w76 ((((((((z + 18) + 4) + 1 + (xmax 1 (xmin 8 x1)).toNatClampNeg) + 1 + (xmax 1 (xmin 8 x1)).toNatClampNeg) + 1 + (xmax 1 (xmin 8 x1)).toNatClampNeg) + 1 + (xmax 1 (xmin 8 x1)).toNatClampNeg) + 1 + (xmax 1 (xmin 21 x2)).toNatClampNeg) + 71) (.inr (4, [.null, .null, .int 0, .int 0, .int 0, .int 0, .int 0, .int 0, .int 0]))) fun w79 =>
  (f_Law_init ((((((((z + 18) + 4) + 1 + (xmax 1 (xmin 8 x1)).toNatClampNeg) + 1 + (xmax 1 (xmin 8 x1)).toNatClampNeg) + 1 + (xmax 1 (xmin 8 x1)).toNatClampNeg) + 1 + (xmax 1 (xmin 8 x1)).toNatClampNeg) + 1 + (xmax 1 (xmin 21 x2)).toNatClampNeg) + 71) ((((((((z + 18) + 4) + 1 + (xmax 1 (xmin 8 x1)).toNatClampNeg) + 1 + (xmax 1 (xmin 8 x1)).toNatClampNeg) + 1 + (xmax 1 (xmin 8 x1)).toNatClampNeg) + 1 + (xmax 1 (xmin 8 x1)).toNatClampNeg) + 1 + (xmax 1 (xmin 21 x2)).toNatClampNeg) + 72) w79).bind fun w80 =>
  (xsr w80 3 4 t78 4 ((((((((z + 18) + 4) + 1 + (xmax 1 (xmin 8 x1)).toNatClampNeg) + 1 + (xmax 1 (xmin 8 x1)).toNatClampNeg) + 1 + (xmax 1 (xmin 8 x1)).toNatClampNeg) + 1 + (xmax 1 (xmin 8 x1)).toNatClampNeg) + 1 + (xmax 1 (xmin 21 x2)).toNatClampNeg) + 71)).bind fun w82 =>
  (xgr w82 a0 11 7).bind fun t83 =>
  xl (xu w82 ((((((((z + 18) + 4) + 1 + (xmax 1 (xmin 8 x1)).toNatClampNeg) + 1 + (xmax 1 (xmin 8 x1)).toNatClampNeg) + 1 + (xmax 1 (xmin 8 x1)).toNatClampNeg) + 1 + (xmax 1 (xmin 8 x1)).toNatClampNeg) + 1 + (xmax 1 (xmin 21 x2)).toNatClampNeg) + 79) (.inr (4, [.null, .null, .int 0, .int 0, .int 0, .int 0, .int 0, .int 0, .int 0]))) fun w84 =>
  (f_Law_init ((((((((z + 18) + 4) + 1 + (xmax 1 (xmin 8 x1)).toNatClampNeg) + 1 + (xmax 1 (xmin 8 x1)).toNatClampNeg) + 1 + (xmax 1 (xmin 8 x1)).toNatClampNeg) + 1 + (xmax 1 (xmin 8 x1)).toNatClampNeg) + 1 + (xmax 1 (xmin 21 x2)).toNatClampNeg) + 79) ((((((((z + 18) + 4) + 1 + (xmax 1 (xmin 8 x1)).toNatClampNeg) + 1 + (xmax 1 (xmin 8 x1)).toNatClampNeg) + 1 + (xmax 1 (xmin 8 x1)).toNatClampNeg) + 1 + (xmax 1 (xmin 8 x1)).toNatClampNeg) + 1 + (xmax 1 (xmin 21 x2)).toNatClampNeg) + 80) w84).bind fun w85 =>
  (xsr w85 3 4 t83 4 ((((((((z + 18) + 4) + 1 + (xmax 1 (xmin 8 x1)).toNatClampNeg) + 1 + (xmax 1 (xmin 8 x1)).toNatClampNeg) + 1 + (xmax 1 (xmin 8 x1)).toNatClampNeg) + 1 + (xmax 1 (xmin 8 x1)).toNatClampNeg) + 1 + (xmax 1 (xmin 21 x2)).toNatClampNeg) + 79)).bind fun w87 =>
  (xgr w87 a0 11 6).bind fun t89 =>
  xl (xu w87 ((((((((z + 18) + 4) + 1 + (xmax 1 (xmin 8 x1)).toNatClampNeg) + 1 + (xmax 1 (xmin 8 x1)).toNatClampNeg) + 1 + (xmax 1 (xmin 8 x1)).toNatClampNeg) + 1 + (xmax 1 (xmin 8 x1)).toNatClampNeg) + 1 + (xmax 1 (xmin 21 x2)).toNatClampNeg) + 87) (.inr (4, [.null, .null, .int 0, .int 0, .int 0, .int 0, .int 0, .int 0, .int 0]))) fun w90 =>
  (f_Law_init ((((((((z + 18) + 4) + 1 + (xmax 1 (xmin 8 x1)).toNatClampNeg) + 1 + (xmax 1 (xmin 8 x1)).toNatClampNeg) + 1 + (xmax 1 (xmin 8 x1)).toNatClampNeg) + 1 + (xmax 1 (xmin 8 x1)).toNatClampNeg) + 1 + (xmax 1 (xmin 21 x2)).toNatClampNeg) + 87) ((((((((z + 18) + 4) + 1 + (xmax 1 (xmin 8 x1)).toNatClampNeg) + 1 + (xmax 1 (xmin 8 x1)).toNatClampNeg) + 1 + (xmax 1 (xmin 8 x1)).toNatClampNeg) + 1 + (xmax 1 (xmin 8 x1)).toNatClampNeg) + 1 + (xmax 1 (xmin 21 x2)).toNatClampNeg) + 88) w90).bind fun w91 =>
  (xsr w91 3 4 t89 5 ((((((((z + 18) + 4) + 1 + (xmax 1 (xmin 8 x1)).toNatClampNeg) + 1 + (xmax 1 (xmin 8 x1)).toNatClampNeg) + 1 + (xmax 1 (xmin 8 x1)).toNatClampNeg) + 1 + (xmax 1 (xmin 8 x1)).toNatClampNeg) + 1 + (xmax 1 (xmin 21 x2)).toNatClampNeg) + 87)).bind fun w93 =>
  (xgr w93 a0 11 7).bind fun t94 =>
  xl (xu w93 ((((((((z + 18) + 4) + 1 + (xmax 1 (xmin 8 x1)).toNatClampNeg) + 1 + (xmax 1 (xmin 8 x1)).toNatClampNeg) + 1 + (xmax 1 (xmin 8 x1)).toNatClampNeg) + 1 + (xmax 1 (xmin 8 x1)).toNatClampNeg) + 1 + (xmax 1 (xmin 21 x2)).toNatClampNeg) + 95) (.inr (4, [.null, .null, .int 0, .int 0, .int 0, .int 0, .int 0, .int 0, .int 0]))) fun w95 =>
  (f_Law_init ((((((((z + 18) + 4) + 1 + (xmax 1 (xmin 8 x1)).toNatClampNeg) + 1 + (xmax 1 (xmin 8 x1)).toNatClampNeg) + 1 + (xmax 1 (xmin 8 x1)).toNatClampNeg) + 1 + (xmax 1 (xmin 8 x1)).toNatClampNeg) + 1 + (xmax 1 (xmin 21 x2)).toNatClampNeg) + 95) ((((((((z + 18) + 4) + 1 + (xmax 1 (xmin 8 x1)).toNatClampNeg) + 1 + (xmax 1 (xmin 8 x1)).toNatClampNeg) + 1 + (xmax 1 (xmin 8 x1)).toNatClampNeg) + 1 + (xmax 1 (xmin 8 x1)).toNatClampNeg) + 1 + (xmax 1 (xmin 21 x2)).toNatClampNeg) + 96) w95).bind fun w96 =>
  (xsr w96 3 4 t94 5 ((((((((z + 18) + 4) + 1 + (xmax 1 (xmin 8 x1)).toNatClampNeg) + 1 + (xmax 1 (xmin 8 x1)).toNatClampNeg) + 1 + (xmax 1 (xmin 8 x1)).toNatClampNeg) + 1 + (xmax 1 (xmin 8 x1)).toNatClampNeg) + 1 + (xmax 1 (xmin 21 x2)).toNatClampNeg) + 95)).bind fun w98 =>
  (xgr w98 a0 11 6).bind fun t100 =>
  xl (xu w98 ((((((((z + 18) + 4) + 1 + (xmax 1 (xmin 8 x1)).toNatClampNeg) + 1 + (xmax 1 (xmin 8 x1)).toNatClampNeg) + 1 + (xmax 1 (xmin 8 x1)).toNatClampNeg) + 1 + (xmax 1 (xmin 8 x1)).toNatClampNeg) + 1 + (xmax 1 (xmin 21 x2)).toNatClampNeg) + 103) (.inr (4, [.null, .null, .int 0, .int 0, .int 0, .int 0, .int 0, .int 0, .int 0]))) fun w101 =>
  (f_Law_init ((((((((z + 18) + 4) + 1 + (xmax 1 (xmin 8 x1)).toNatClampNeg) + 1 + (xmax 1 (xmin 8 x1)).toNatClampNeg) + 1 + (xmax 1 (xmin 8 x1)).toNatClampNeg) + 1 + (xmax 1 (xmin 8 x1)).toNatClampNeg) + 1 + (xmax 1 (xmin 21 x2)).toNatClampNeg) + 103) ((((((((z + 18) + 4) + 1 + (xmax 1 (xmin 8 x1)).toNatClampNeg) + 1 + (xmax 1 (xmin 8 x1)).toNatClampNeg) + 1 + (xmax 1 (xmin 8 x1)).toNatClampNeg) + 1 + (xmax 1 (xmin 8 x1)).toNatClampNeg) + 1 + (xmax 1 (xmin 21 x2)).toNatClampNeg) + 104) w101).bind fun w102 =>
  (xsr w102 3 4 t100 6 ((((((((z + 18) + 4) + 1 + (xmax 1 (xmin 8 x1)).toNatClampNeg) + 1 + (xmax 1 (xmin 8 x1)).toNatClampNeg) + 1 + (xmax 1 (xmin 8 x1)).toNatClampNeg) + 1 + (xmax 1 (xmin 8 x1)).toNatClampNeg) + 1 + (xmax 1 (xmin 21 x2)).toNatClampNeg) + 103)).bind fun w104 =>
  (xgr w104 a0 11 7).bind fun t105 =>
  xl (xu w104 ((((((((z + 18) + 4) + 1 + (xmax 1 (xmin 8 x1)).toNatClampNeg) + 1 + (xmax 1 (xmin 8 x1)).toNatClampNeg) + 1 + (xmax 1 (xmin 8 x1)).toNatClampNeg) + 1 + (xmax 1 (xmin 8 x1)).toNatClampNeg) + 1 + (xmax 1 (xmin 21 x2)).toNatClampNeg) + 111) (.inr (4, [.null, .null, .int 0, .int 0, .int 0, .int 0, .int 0, .int 0, .int 0]))) fun w106 =>
  (f_Law_init ((((((((z + 18) + 4) + 1 + (xmax 1 (xmin 8 x1)).toNatClampNeg) + 1 + (xmax 1 (xmin 8 x1)).toNatClampNeg) + 1 + (xmax 1 (xmin 8 x1)).toNatClampNeg) + 1 + (xmax 1 (xmin 8 x1)).toNatClampNeg) + 1 + (xmax 1 (xmin 21 x2)).toNatClampNeg) + 111) ((((((((z + 18) + 4) + 1 + (xmax 1 (xmin 8 x1)).toNatClampNeg) + 1 + (xmax 1 (xmin 8 x1)).toNatClampNeg) + 1 + (xmax 1 (xmin 8 x1)).toNatClampNeg) + 1 + (xmax 1 (xmin 8 x1)).toNatClampNeg) + 1 + (xmax 1 (xmin 21 x2)).toNatClampNeg) + 112) w106).bind fun w107 =>
  (xsr w107 3 4 t105 6 ((((((((z + 18) + 4) + 1 + (xmax 1 (xmin 8 x1)).toNatClampNeg) + 1 + (xmax 1 (xmin 8 x1)).toNatClampNeg) + 1 + (xmax 1 (xmin 8 x1)).toNatClampNeg) + 1 + (xmax 1 (xmin 8 x1)).toNatClampNeg) + 1 + (xmax 1 (xmin 21 x2)).toNatClampNeg) + 111)).bind fun w109 =>
  (xgr w109 a0 11 6).bind fun t111 =>
  xl (xu w109 ((((((((z + 18) + 4) + 1 + (xmax 1 (xmin 8 x1)).toNatClampNeg) + 1 + (xmax 1 (xmin 8 x1)).toNatClampNeg) + 1 + (xmax 1 (xmin 8 x1)).toNatClampNeg) + 1 + (xmax 1 (xmin 8 x1)).toNatClampNeg) + 1 + (xmax 1 (xmin 21 x2)).toNatClampNeg) + 119) (.inr (4, [.null, .null, .int 0, .int 0, .int 0, .int 0, .int 0, .int 0, .int 0]))) fun w112 =>
  (f_Law_init ((((((((z + 18) + 4) + 1 + (xmax 1 (xmin 8 x1)).toNatClampNeg) + 1 + (xmax 1 (xmin 8 x1)).toNatClampNeg) + 1 + (xmax 1 (xmin 8 x1)).toNatClampNeg) + 1 + (xmax 1 (xmin 8 x1)).toNatClampNeg) + 1 + (xmax 1 (xmin 21 x2)).toNatClampNeg) + 119) ((((((((z + 18) + 4) + 1 + (xmax 1 (xmin 8 x1)).toNatClampNeg) + 1 + (xmax 1 (xmin 8 x1)).toNatClampNeg) + 1 + (xmax 1 (xmin 8 x1)).toNatClampNeg) + 1 + (xmax 1 (xmin 8 x1)).toNatClampNeg) + 1 + (xmax 1 (xmin 21 x2)).toNatClampNeg) + 120) w112).bind fun w113 =>
  (xsr w113 3 4 t111 7 ((((((((z + 18) + 4) + 1 + (xmax 1 (xmin 8 x1)).toNatClampNeg) + 1 + (xmax 1 (xmin 8 x1)).toNatClampNeg) + 1 + (xmax 1 (xmin 8 x1)).toNatClampNeg) + 1 + (xmax 1 (xmin 8 x1)).toNatClampNeg) + 1 + (xmax 1 (xmin 21 x2)).toNatClampNeg) + 119)).bind fun w115 =>
  (xgr w115 a0 11 7).bind fun t116 =>
  xl (xu w115 ((((((((z + 18) + 4) + 1 + (xmax 1 (xmin 8 x1)).toNatClampNeg) + 1 + (xmax 1 (xmin 8 x1)).toNatClampNeg) + 1 + (xmax 1 (xmin 8 x1)).toNatClampNeg) + 1 + (xmax 1 (xmin 8 x1)).toNatClampNeg) + 1 + (xmax 1 (xmin 21 x2)).toNatClampNeg) + 127) (.inr (4, [.null, .null, .int 0, .int 0, .int 0, .int 0, .int 0, .int 0, .int 0]))) fun w117 =>
  (f_Law_init ((((((((z + 18) + 4) + 1 + (xmax 1 (xmin 8 x1)).toNatClampNeg) + 1 + (xmax 1 (xmin 8 x1)).toNatClampNeg) + 1 + (xmax 1 (xmin 8 x1)).toNatClampNeg) + 1 + (xmax 1 (xmin 8 x1)).toNatClampNeg) + 1 + (xmax 1 (xmin 21 x2)).toNatClampNeg) + 127) ((((((((z + 18) + 4) + 1 + (xmax 1 (xmin 8 x1)).toNatClampNeg) + 1 + (xmax 1 (xmin 8 x1)).toNatClampNeg) + 1 + (xmax 1 (xmin 8 x1)).toNatClampNeg) + 1 + (xmax 1 (xmin 8 x1)).toNatClampNeg) + 1 + (xmax 1 (xmin 21 x2)).toNatClampNeg) + 128) w117).bind fun w118 =>
  (xsr w118 3 4 t116 7 ((((((((z + 18) + 4) + 1 + (xmax 1 (xmin 8 x1)).toNatClampNeg) + 1 + (xmax 1 (xmin 8 x1)).toNatClampNeg) + 1 + (xmax 1 (xmin 8 x1)).toNatClampNeg) + 1 + (xmax 1 (xmin 8 x1)).toNatClampNeg) + 1 + (xmax 1 (xmin 21 x2)).toNatClampNeg) + 127)).bind fun w120 =>
  (xgr w120 a0 11 6).bind fun t122 =>
  xl (xu w120 ((((((((z + 18) + 4) + 1 + (xmax 1 (xmin 8 x1)).toNatClampNeg) + 1 + (xmax 1 (xmin 8 x1)).toNatClampNeg) + 1 + (xmax 1 (xmin 8 x1)).toNatClampNeg) + 1 + (xmax 1 (xmin 8 x1)).toNatClampNeg) + 1 + (xmax 1 (xmin 21 x2)).toNatClampNeg) + 135) (.inr (4, [.null, .null, .int 0, .int 0, .int 0, .int 0, .int 0, .int 0, .int 0]))) fun w123 =>
  (f_Law_init ((((((((z + 18) + 4) + 1 + (xmax 1 (xmin 8 x1)).toNatClampNeg) + 1 + (xmax 1 (xmin 8 x1)).toNatClampNeg) + 1 + (xmax 1 (xmin 8 x1)).toNatClampNeg) + 1 + (xmax 1 (xmin 8 x1)).toNatClampNeg) + 1 + (xmax 1 (xmin 21 x2)).toNatClampNeg) + 135) ((((((((z + 18) + 4) + 1 + (xmax 1 (xmin 8 x1)).toNatClampNeg) + 1 + (xmax 1 (xmin 8 x1)).toNatClampNeg) + 1 + (xmax 1 (xmin 8 x1)).toNatClampNeg) + 1 + (xmax 1 (xmin 8 x1)).toNatClampNeg) + 1 + (xmax 1 (xmin 21 x2)).toNatClampNeg) + 136) w123).bind fun w124 =>
  (xsr w124 3 4 t122 8 ((((((((z + 18) + 4) + 1 + (xmax 1 (xmin 8 x1)).toNatClampNeg) + 1 + (xmax 1 (xmin 8 x1)).toNatClampNeg) + 1 + (xmax 1 (xmin 8 x1)).toNatClampNeg) + 1 + (xmax 1 (xmin 8 x1)).toNatClampNeg) + 1 + (xmax 1 (xmin 21 x2)).toNatClampNeg) + 135)).bind fun w126 =>
  (xgr w126 a0 11 7).bind fun t127 =>
  xl (xu w126 ((((((((z + 18) + 4) + 1 + (xmax 1 (xmin 8 x1)).toNatClampNeg) + 1 + (xmax 1 (xmin 8 x1)).toNatClampNeg) + 1 + (xmax 1 (xmin 8 x1)).toNatClampNeg) + 1 + (xmax 1 (xmin 8 x1)).toNatClampNeg) + 1 + (xmax 1 (xmin 21 x2)).toNatClampNeg) + 143) (.inr (4, [.null, .null, .int 0, .int 0, .int 0, .int 0, .int 0, .int 0, .int 0]))) fun w128 =>
  (f_Law_init ((((((((z + 18) + 4) + 1 + (xmax 1 (xmin 8 x1)).toNatClampNeg) + 1 + (xmax 1 (xmin 8 x1)).toNatClampNeg) + 1 + (xmax 1 (xmin 8 x1)).toNatClampNeg) + 1 + (xmax 1 (xmin 8 x1)).toNatClampNeg) + 1 + (xmax 1 (xmin 21 x2)).toNatClampNeg) + 143) ((((((((z + 18) + 4) + 1 + (xmax 1 (xmin 8 x1)).toNatClampNeg) + 1 + (xmax 1 (xmin 8 x1)).toNatClampNeg) + 1 + (xmax 1 (xmin 8 x1)).toNatClampNeg) + 1 + (xmax 1 (xmin 8 x1)).toNatClampNeg) + 1 + (xmax 1 (xmin 21 x2)).toNatClampNeg) + 144) w128).bind fun w129 =>
  (xsr w129 3 4 t127 8 ((((((((z + 18) + 4) + 1 + (xmax 1 (xmin 8 x1)).toNatClampNeg) + 1 + (xmax 1 (xmin 8 x1)).toNatClampNeg) + 1 + (xmax 1 (xmin 8 x1)).toNatClampNeg) + 1 + (xmax 1 (xmin 8 x1)).toNatClampNeg) + 1 + (xmax 1 (xmin 21 x2)).toNatClampNeg) + 143)).bind fun w131 =>
  (xgr w131 a0 11 6).bind fun t133 =>
  xl (xu w131 ((((((((z + 18) + 4) + 1 + (xmax 1 (xmin 8 x1)).toNatClampNeg) + 1 + (xmax 1 (xmin 8 x1)).toNatClampNeg) + 1 + (xmax 1 (xmin 8 x1)).toNatClampNeg) + 1 + (xmax 1 (xmin 8 x1)).toNatClampNeg) + 1 + (xmax 1 (xmin 21 x2)).toNatClampNeg) + 151) (.inr (4, [.null, .null, .int 0, .int 0, .int 0, .int 0, .int 0, .int 0, .int 0]))) fun w134 =>
  (f_Law_init ((((((((z + 18) + 4) + 1 + (xmax 1 (xmin 8 x1)).toNatClampNeg) + 1 + (xmax 1 (xmin 8 x1)).toNatClampNeg) + 1 + (xmax 1 (xmin 8 x1)).toNatClampNeg) + 1 + (xmax 1 (xmin 8 x1)).toNatClampNeg) + 1 + (xmax 1 (xmin 21 x2)).toNatClampNeg) + 151) ((((((((z + 18) + 4) + 1 + (xmax 1 (xmin 8 x1)).toNatClampNeg) + 1 + (xmax 1 (xmin 8 x1)).toNatClampNeg) + 1 + (xmax 1 (xmin 8 x1)).toNatClampNeg) + 1 + (xmax 1 (xmin 8 x1)).toNatClampNeg) + 1 + (xmax 1 (xmin 21 x2)).toNatClampNeg) + 152) w134).bind fun w135 =>
  (xsr w135 3 4 t133 9 ((((((((z + 18) + 4) + 1 + (xmax 1 (xmin 8 x1)).toNatClampNeg) + 1 + (xmax 1 (xmin 8 x1)).toNatClampNeg) + 1 + (xmax 1 (xmin 8 x1)).toNatClampNeg) + 1 + (xmax 1 (xmin 8 x1)).toNatClampNeg) + 1 + (xmax 1 (xmin 21 x2)).toNatClampNeg) + 151)).bind fun w137 =>
  (xgr w137 a0 11 7).bind fun t138 =>
  xl (xu w137 ((((((((z + 18) + 4) + 1 + (xmax 1 (xmin 8 x1)).toNatClampNeg) + 1 + (xmax 1 (xmin 8 x1)).toNatClampNeg) + 1 + (xmax 1 (xmin 8 x1)).toNatClampNeg) + 1 + (xmax 1 (xmin 8 x1)).toNatClampNeg) + 1 + (xmax 1 (xmin 21 x2)).toNatClampNeg) + 159) (.inr (4, [.null, .null, .int 0, .int 0, .int 0, .int 0, .int 0, .int 0, .int 0]))) fun w139 =>
  (f_Law_init ((((((((z + 18) + 4) + 1 + (xmax 1 (xmin 8 x1)).toNatClampNeg) + 1 + (xmax 1 (xmin 8 x1)).toNatClampNeg) + 1 + (xmax 1 (xmin 8 x1)).toNatClampNeg) + 1 + (xmax 1 (xmin 8 x1)).toNatClampNeg) + 1 + (xmax 1 (xmin 21 x2)).toNatClampNeg) + 159) ((((((((z + 18) + 4) + 1 + (xmax 1 (xmin 8 x1)).toNatClampNeg) + 1 + (xmax 1 (xmin 8 x1)).toNatClampNeg) + 1 + (xmax 1 (xmin 8 x1)).toNatClampNeg) + 1 + (xmax 1 (xmin 8 x1)).toNatClampNeg) + 1 + (xmax 1 (xmin 21 x2)).toNatClampNeg) + 160) w139).bind fun w140 =>
  (xsr w140 3 4 t138 9 ((((((((z + 18) + 4) + 1 + (xmax 1 (xmin 8 x1)).toNatClampNeg) + 1 + (xmax 1 (xmin 8 x1)).toNatClampNeg) + 1 + (xmax 1 (xmin 8 x1)).toNatClampNeg) + 1 + (xmax 1 (xmin 8 x1)).toNatClampNeg) + 1 + (xmax 1 (xmin 21 x2)).toNatClampNeg) + 159)).bind fun w142 =>
  (xgr w142 a0 11 6).bind fun t144 =>
  xl (xu w142 ((((((((z + 18) + 4) + 1 + (xmax 1 (xmin 8 x1)).toNatClampNeg) + 1 + (xmax 1 (xmin 8 x1)).toNatClampNeg) + 1 + (xmax 1 (xmin 8 x1)).toNatClampNeg) + 1 + (xmax 1 (xmin 8 x1)).toNatClampNeg) + 1 + (xmax 1 (xmin 21 x2)).toNatClampNeg) + 167) (.inr (4, [.null, .null, .int 0, .int 0, .int 0, .int 0, .int 0, .int 0, .int 0]))) fun w145 =>
  (f_Law_init ((((((((z + 18) + 4) + 1 + (xmax 1 (xmin 8 x1)).toNatClampNeg) + 1 + (xmax 1 (xmin 8 x1)).toNatClampNeg) + 1 + (xmax 1 (xmin 8 x1)).toNatClampNeg) + 1 + (xmax 1 (xmin 8 x1)).toNatClampNeg) + 1 + (xmax 1 (xmin 21 x2)).toNatClampNeg) + 167) ((((((((z + 18) + 4) + 1 + (xmax 1 (xmin 8 x1)).toNatClampNeg) + 1 + (xmax 1 (xmin 8 x1)).toNatClampNeg) + 1 + (xmax 1 (xmin 8 x1)).toNatClampNeg) + 1 + (xmax 1 (xmin 8 x1)).toNatClampNeg) + 1 + (xmax 1 (xmin 21 x2)).toNatClampNeg) + 168) w145).bind fun w146 =>
  (xsr w146 3 4 t144 10 ((((((((z + 18) + 4) + 1 + (xmax 1 (xmin 8 x1)).toNatClampNeg) + 1 + (xmax 1 (xmin 8 x1)).toNatClampNeg) + 1 + (xmax 1 (xmin 8 x1)).toNatClampNeg) + 1 + (xmax 1 (xmin 8 x1)).toNatClampNeg) + 1 + (xmax 1 (xmin 21 x2)).toNatClampNeg) + 167)).bind fun w148 =>
  (xgr w148 a0 11 7).bind fun t149 =>
  xl (xu w148 ((((((((z + 18) + 4) + 1 + (xmax 1 (xmin 8 x1)).toNatClampNeg) + 1 + (xmax 1 (xmin 8 x1)).toNatClampNeg) + 1 + (xmax 1 (xmin 8 x1)).toNatClampNeg) + 1 + (xmax 1 (xmin 8 x1)).toNatClampNeg) + 1 + (xmax 1 (xmin 21 x2)).toNatClampNeg) + 175) (.inr (4, [.null, .null, .int 0, .int 0, .int 0, .int 0, .int 0, .int 0, .int 0]))) fun w150 =>
  (f_Law_init ((((((((z + 18) + 4) + 1 + (xmax 1 (xmin 8 x1)).toNatClampNeg) + 1 + (xmax 1 (xmin 8 x1)).toNatClampNeg) + 1 + (xmax 1 (xmin 8 x1)).toNatClampNeg) + 1 + (xmax 1 (xmin 8 x1)).toNatClampNeg) + 1 + (xmax 1 (xmin 21 x2)).toNatClampNeg) + 175) ((((((((z + 18) + 4) + 1 + (xmax 1 (xmin 8 x1)).toNatClampNeg) + 1 + (xmax 1 (xmin 8 x1)).toNatClampNeg) + 1 + (xmax 1 (xmin 8 x1)).toNatClampNeg) + 1 + (xmax 1 (xmin 8 x1)).toNatClampNeg) + 1 + (xmax 1 (xmin 21 x2)).toNatClampNeg) + 176) w150).bind fun w151 =>
  (xsr w151 3 4 t149 10 ((((((((z + 18) + 4) + 1 + (xmax 1 (xmin 8 x1)).toNatClampNeg) + 1 + (xmax 1 (xmin 8 x1)).toNatClampNeg) + 1 + (xmax 1 (xmin 8 x1)).toNatClampNeg) + 1 + (xmax 1 (xmin 8 x1)).toNatClampNeg) + 1 + (xmax 1 (xmin 21 x2)).toNatClampNeg) + 175)).bind fun w153 =>
  (xgr w153 a0 11 6).bind fun t155 =>
  xl (xu w153 ((((((((z + 18) + 4) + 1 + (xmax 1 (xmin 8 x1)).toNatClampNeg) + 1 + (xmax 1 (xmin 8 x1)).toNatClampNeg) + 1 + (xmax 1 (xmin 8 x1)).toNatClampNeg) + 1 + (xmax 1 (xmin 8 x1)).toNatClampNeg) + 1 + (xmax 1 (xmin 21 x2)).toNatClampNeg) + 183) (.inr (4, [.null, .null, .int 0, .int 0, .int 0, .int 0, .int 0, .int 0, .int 0]))) fun w156 =>
  (f_Law_init ((((((((z + 18) + 4) + 1 + (xmax 1 (xmin 8 x1)).toNatClampNeg) + 1 + (xmax 1 (xmin 8 x1)).toNatClampNeg) + 1 + (xmax 1 (xmin 8 x1)).toNatClampNeg) + 1 + (xmax 1 (xmin 8 x1)).toNatClampNeg) + 1 + (xmax 1 (xmin 21 x2)).toNatClampNeg) + 183) ((((((((z + 18) + 4) + 1 + (xmax 1 (xmin 8 x1)).toNatClampNeg) + 1 + (xmax 1 (xmin 8 x1)).toNatClampNeg) + 1 + (xmax 1 (xmin 8 x1)).toNatClampNeg) + 1 + (xmax 1 (xmin 8 x1)).toNatClampNeg) + 1 + (xmax 1 (xmin 21 x2)).toNatClampNeg) + 184) w156).bind fun w157 =>
  (xsr w157 3 4 t155 11 ((((((((z + 18) + 4) + 1 + (xmax 1 (xmin 8 x1)).toNatClampNeg) + 1 + (xmax 1 (xmin 8 x1)).toNatClampNeg) + 1 + (xmax 1 (xmin 8 x1)).toNatClampNeg) + 1 + (xmax 1 (xmin 8 x1)).toNatClampNeg) + 1 + (xmax 1 (xmin 21 x2)).toNatClampNeg) + 183)).bind fun w159 =>
  (xgr w159 a0 11 7).bind fun t160 =>
  xl (xu w159 ((((((((z + 18) + 4) + 1 + (xmax 1 (xmin 8 x1)).toNatClampNeg) + 1 + (xmax 1 (xmin 8 x1)).toNatClampNeg) + 1 + (xmax 1 (xmin 8 x1)).toNatClampNeg) + 1 + (xmax 1 (xmin 8 x1)).toNatClampNeg) + 1 + (xmax 1 (xmin 21 x2)).toNatClampNeg) + 191) (.inr (4, [.null, .null, .int 0, .int 0, .int 0, .int 0, .int 0, .int 0, .int 0]))) fun w161 =>
  (f_Law_init ((((((((z + 18) + 4) + 1 + (xmax 1 (xmin 8 x1)).toNatClampNeg) + 1 + (xmax 1 (xmin 8 x1)).toNatClampNeg) + 1 + (xmax 1 (xmin 8 x1)).toNatClampNeg) + 1 + (xmax 1 (xmin 8 x1)).toNatClampNeg) + 1 + (xmax 1 (xmin 21 x2)).toNatClampNeg) + 191) ((((((((z + 18) + 4) + 1 + (xmax 1 (xmin 8 x1)).toNatClampNeg) + 1 + (xmax 1 (xmin 8 x1)).toNatClampNeg) + 1 + (xmax 1 (xmin 8 x1)).toNatClampNeg) + 1 + (xmax 1 (xmin 8 x1)).toNatClampNeg) + 1 + (xmax 1 (xmin 21 x2)).toNatClampNeg) + 192) w161).bind fun w162 =>
  (xsr w162 3 4 t160 11 ((((((((z + 18) + 4) + 1 + (xmax 1 (xmin 8 x1)).toNatClampNeg) + 1 + (xmax 1 (xmin 8 x1)).toNatClampNeg) + 1 + (xmax 1 (xmin 8 x1)).toNatClampNeg) + 1 + (xmax 1 (xmin 8 x1)).toNatClampNeg) + 1 + (xmax 1 (xmin 21 x2)).toNatClampNeg) + 191)).bind fun w164 =>
  (xgr w164 a0 11 6).bind fun t166 =>
  xl (xu w164 ((((((((z + 18) + 4) + 1 + (xmax 1 (xmin 8 x1)).toNatClampNeg) + 1 + (xmax 1 (xmin 8 x1)).toNatClampNeg) + 1 + (xmax 1 (xmin 8 x1)).toNatClampNeg) + 1 + (xmax 1 (xmin 8 x1)).toNatClampNeg) + 1 + (xmax 1 (xmin 21 x2)).toNatClampNeg) + 199) (.inr (4, [.null, .null, .int 0, .int 0, .int 0, .int 0, .int 0, .int 0, .int 0]))) fun w167 =>
  (f_Law_init ((((((((z + 18) + 4) + 1 + (xmax 1 (xmin 8 x1)).toNatClampNeg) + 1 + (xmax 1 (xmin 8 x1)).toNatClampNeg) + 1 + (xmax 1 (xmin 8 x1)).toNatClampNeg) + 1 + (xmax 1 (xmin 8 x1)).toNatClampNeg) + 1 + (xmax 1 (xmin 21 x2)).toNatClampNeg) + 199) ((((((((z + 18) + 4) + 1 + (xmax 1 (xmin 8 x1)).toNatClampNeg) + 1 + (xmax 1 (xmin 8 x1)).toNatClampNeg) + 1 + (xmax 1 (xmin 8 x1)).toNatClampNeg) + 1 + (xmax 1 (xmin 8 x1)).toNatClampNeg) + 1 + (xmax 1 (xmin 21 x2)).toNatClampNeg) + 200) w167).bind fun w168 =>
  (xsr w168 3 4 t166 12 ((((((((z + 18) + 4) + 1 + (xmax 1 (xmin 8 x1)).toNatClampNeg) + 1 + (xmax 1 (xmin 8 x1)).toNatClampNeg) + 1 + (xmax 1 (xmin 8 x1)).toNatClampNeg) + 1 + (xmax 1 (xmin 8 x1)).toNatClampNeg) + 1 + (xmax 1 (xmin 21 x2)).toNatClampNeg) + 199)).bind fun w170 =>
  (xgr w170 a0 11 7).bind fun t171 =>
  xl (xu w170 ((((((((z + 18) + 4) + 1 + (xmax 1 (xmin 8 x1)).toNatClampNeg) + 1 + (xmax 1 (xmin 8 x1)).toNatClampNeg) + 1 + (xmax 1 (xmin 8 x1)).toNatClampNeg) + 1 + (xmax 1 (xmin 8 x1)).toNatClampNeg) + 1 + (xmax 1 (xmin 21 x2)).toNatClampNeg) + 207) (.inr (4, [.null, .null, .int 0, .int 0, .int 0, .int 0, .int 0, .int 0, .int 0]))) fun w172 =>
  (f_Law_init ((((((((z + 18) + 4) + 1 + (xmax 1 (xmin 8 x1)).toNatClampNeg) + 1 + (xmax 1 (xmin 8 x1)).toNatClampNeg) + 1 + (xmax 1 (xmin 8 x1)).toNatClampNeg) + 1 + (xmax 1 (xmin 8 x1)).toNatClampNeg) + 1 + (xmax 1 (xmin 21 x2)).toNatClampNeg) + 207) ((((((((z + 18) + 4) + 1 + (xmax 1 (xmin 8 x1)).toNatClampNeg) + 1 + (xmax 1 (xmin 8 x1)).toNatClampNeg) + 1 + (xmax 1 (xmin 8 x1)).toNatClampNeg) + 1 + (xmax 1 (xmin 8 x1)).toNatClampNeg) + 1 + (xmax 1 (xmin 21 x2)).toNatClampNeg) + 208) w172).bind fun w173 =>
  (xsr w173 3 4 t171 12 ((((((((z + 18) + 4) + 1 + (xmax 1 (xmin 8 x1)).toNatClampNeg) + 1 + (xmax 1 (xmin 8 x1)).toNatClampNeg) + 1 + (xmax 1 (xmin 8 x1)).toNatClampNeg) + 1 + (xmax 1 (xmin 8 x1)).toNatClampNeg) + 1 + (xmax 1 (xmin 21 x2)).toNatClampNeg) + 207)).bind fun w175 =>
  (xgr w175 a0 11 6).bind fun t177 =>
  xl (xu w175 ((((((((z + 18) + 4) + 1 + (xmax 1 (xmin 8 x1)).toNatClampNeg) + 1 + (xmax 1 (xmin 8 x1)).toNatClampNeg) + 1 + (xmax 1 (xmin 8 x1)).toNatClampNeg) + 1 + (xmax 1 (xmin 8 x1)).toNatClampNeg) + 1 + (xmax 1 (xmin 21 x2)).toNatClampNeg) + 215) (.inr (4, [.null, .null, .int 0, .int 0, .int 0, .int 0, .int 0, .int 0, .int 0]))) fun w178 =>
  (f_Law_init ((((((((z + 18) + 4) + 1 + (xmax 1 (xmin 8 x1)).toNatClampNeg) + 1 + (xmax 1 (xmin 8 x1)).toNatClampNeg) + 1 + (xmax 1 (xmin 8 x1)).toNatClampNeg) + 1 + (xmax 1 (xmin 8 x1)).toNatClampNeg) + 1 + (xmax 1 (xmin 21 x2)).toNatClampNeg) + 215) ((((((((z + 18) + 4) + 1 + (xmax 1 (xmin 8 x1)).toNatClampNeg) + 1 + (xmax 1 (xmin 8 x1)).toNatClampNeg) + 1 + (xmax 1 (xmin 8 x1)).toNatClampNeg) + 1 + (xmax 1 (xmin 8 x1)).toNatClampNeg) + 1 + (xmax 1 (xmin 21 x2)).toNatClampNeg) + 216) w178).bind fun w179 =>
  (xsr w179 3 4 t177 13 ((((((((z + 18) + 4) + 1 + (xmax 1 (xmin 8 x1)).toNatClampNeg) + 1 + (xmax 1 (xmin 8 x1)).toNatClampNeg) + 1 + (xmax 1 (xmin 8 x1)).toNatClampNeg) + 1 + (xmax 1 (xmin 8 x1)).toNatClampNeg) + 1 + (xmax 1 (xmin 21 x2)).toNatClampNeg) + 215)).bind fun w181 =>
  (xgr w181 a0 11 7).bind fun t182 =>
  xl (xu w181 ((((((((z + 18) + 4) + 1 + (xmax 1 (xmin 8 x1)).toNatClampNeg) + 1 + (xmax 1 (xmin 8 x1)).toNatClampNeg) + 1 + (xmax 1 (xmin 8 x1)).toNatClampNeg) + 1 + (xmax 1 (xmin 8 x1)).toNatClampNeg) + 1 + (xmax 1 (xmin 21 x2)).toNatClampNeg) + 223) (.inr (4, [.null, .null, .int 0, .int 0, .int 0, .int 0, .int 0, .int 0, .int 0]))) fun w183 =>
  (f_Law_init ((((((((z + 18) + 4) + 1 + (xmax 1 (xmin 8 x1)).toNatClampNeg) + 1 + (xmax 1 (xmin 8 x1)).toNatClampNeg) + 1 + (xmax 1 (xmin 8 x1)).toNatClampNeg) + 1 + (xmax 1 (xmin 8 x1)).toNatClampNeg) + 1 + (xmax 1 (xmin 21 x2)).toNatClampNeg) + 223) ((((((((z + 18) + 4) + 1 + (xmax 1 (xmin 8 x1)).toNatClampNeg) + 1 + (xmax 1 (xmin 8 x1)).toNatClampNeg) + 1 + (xmax 1 (xmin 8 x1)).toNatClampNeg) + 1 + (xmax 1 (xmin 8 x1)).toNatClampNeg) + 1 + (xmax 1 (xmin 21 x2)).toNatClampNeg) + 224) w183).bind fun w184 =>
  (xsr w184 3 4 t182 13 ((((((((z + 18) + 4) + 1 + (xmax 1 (xmin 8 x1)).toNatClampNeg) + 1 + (xmax 1 (xmin 8 x1)).toNatClampNeg) + 1 + (xmax 1 (xmin 8 x1)).toNatClampNeg) + 1 + (xmax 1 (xmin 8 x1)).toNatClampNeg) + 1 + (xmax 1 (xmin 21 x2)).toNatClampNeg) + 223)).bind fun w186 =>
  (xgr w186 a0 11 6).bind fun t188 =>
  xl (xu w186 ((((((((z + 18) + 4) + 1 + (xmax 1 (xmin 8 x1)).toNatClampNeg) + 1 + (xmax 1 (xmin 8 x1)).toNatClampNeg) + 1 + (xmax 1 (xmin 8 x1)).toNatClampNeg) + 1 + (xmax 1 (xmin 8 x1)).toNatClampNeg) + 1 + (xmax 1 (xmin 21 x2)).toNatClampNeg) + 231) (.inr (4, [.null, .null, .int 0, .int 0, .int 0, .int 0, .int 0, .int 0, .int 0]))) fun w189 =>
  (f_Law_init ((((((((z + 18) + 4) + 1 + (xmax 1 (xmin 8 x1)).toNatClampNeg) + 1 + (xmax 1 (xmin 8 x1)).toNatClampNeg) + 1 + (xmax 1 (xmin 8 x1)).toNatClampNeg) + 1 + (xmax 1 (xmin 8 x1)).toNatClampNeg) + 1 + (xmax 1 (xmin 21 x2)).toNatClampNeg) + 231) ((((((((z + 18) + 4) + 1 + (xmax 1 (xmin 8 x1)).toNatClampNeg) + 1 + (xmax 1 (xmin 8 x1)).toNatClampNeg) + 1 + (xmax 1 (xmin 8 x1)).toNatClampNeg) + 1 + (xmax 1 (xmin 8 x1)).toNatClampNeg) + 1 + (xmax 1 (xmin 21 x2)).toNatClampNeg) + 232) w189).bind fun w190 =>
  (xsr w190 3 4 t188 14 ((((((((z + 18) + 4) + 1 + (xmax 1 (xmin 8 x1)).toNatClampNeg) + 1 + (xmax 1 (xmin 8 x1)).toNatClampNeg) + 1 + (xmax 1 (xmin 8 x1)).toNatClampNeg) + 1 + (xmax 1 (xmin 8 x1)).toNatClampNeg) + 1 + (xmax 1 (xmin 21 x2)).toNatClampNeg) + 231)).bind fun w192 =>
  (xgr w192 a0 11 7).bind fun t193 =>
  xl (xu w192 ((((((((z + 18) + 4) + 1 + (xmax 1 (xmin 8 x1)).toNatClampNeg) + 1 + (xmax 1 (xmin 8 x1)).toNatClampNeg) + 1 + (xmax 1 (xmin 8 x1)).toNatClampNeg) + 1 + (xmax 1 (xmin 8 x1)).toNatClampNeg) + 1 + (xmax 1 (xmin 21 x2)).toNatClampNeg) + 239) (.inr (4, [.null, .null, .int 0, .int 0, .int 0, .int 0, .int 0, .int 0, .int 0]))) fun w194 =>
  (f_Law_init ((((((((z + 18) + 4) + 1 + (xmax 1 (xmin 8 x1)).toNatClampNeg) + 1 + (xmax 1 (xmin 8 x1)).toNatClampNeg) + 1 + (xmax 1 (xmin 8 x1)).toNatClampNeg) + 1 + (xmax 1 (xmin 8 x1)).toNatClampNeg) + 1 + (xmax 1 (xmin 21 x2)).toNatClampNeg) + 239) ((((((((z + 18) + 4) + 1 + (xmax 1 (xmin 8 x1)).toNatClampNeg) + 1 + (xmax 1 (xmin 8 x1)).toNatClampNeg) + 1 + (xmax 1 (xmin 8 x1)).toNatClampNeg) + 1 + (xmax 1 (xmin 8 x1)).toNatClampNeg) + 1 + (xmax 1 (xmin 21 x2)).toNatClampNeg) + 240) w194).bind fun w195 =>
  (xsr w195 3 4 t193 14 ((((((((z + 18) + 4) + 1 + (xmax 1 (xmin 8 x1)).toNatClampNeg) + 1 + (xmax 1 (xmin 8 x1)).toNatClampNeg) + 1 + (xmax 1 (xmin 8 x1)).toNatClampNeg) + 1 + (xmax 1 (xmin 8 x1)).toNatClampNeg) + 1 + (xmax 1 (xmin 21 x2)).toNatClampNeg) + 239)).bind fun w197 =>
  (xgr w197 a0 11 6).bind fun t199 =>
  xl (xu w197 ((((((((z + 18) + 4) + 1 + (xmax 1 (xmin 8 x1)).toNatClampNeg) + 1 + (xmax 1 (xmin 8 x1)).toNatClampNeg) + 1 + (xmax 1 (xmin 8 x1)).toNatClampNeg) + 1 + (xmax 1 (xmin 8 x1)).toNatClampNeg) + 1 + (xmax 1 (xmin 21 x2)).toNatClampNeg) + 247) (.inr (4, [.null, .null, .int 0, .int 0, .int 0, .int 0, .int 0, .int 0, .int 0]))) fun w200 =>
  (f_Law_init ((((((((z + 18) + 4) + 1 + (xmax 1 (xmin 8 x1)).toNatClampNeg) + 1 + (xmax 1 (xmin 8 x1)).toNatClampNeg) + 1 + (xmax 1 (xmin 8 x1)).toNatClampNeg) + 1 + (xmax 1 (xmin 8 x1)).toNatClampNeg) + 1 + (xmax 1 (xmin 21 x2)).toNatClampNeg) + 247) ((((((((z + 18) + 4) + 1 + (xmax 1 (xmin 8 x1)).toNatClampNeg) + 1 + (xmax 1 (xmin 8 x1)).toNatClampNeg) + 1 + (xmax 1 (xmin 8 x1)).toNatClampNeg) + 1 + (xmax 1 (xmin 8 x1)).toNatClampNeg) + 1 + (xmax 1 (xmin 21 x2)).toNatClampNeg) + 248) w200).bind fun w201 =>
  (xsr w201 3 4 t199 15 ((((((((z + 18) + 4) + 1 + (xmax 1 (xmin 8 x1)).toNatClampNeg) + 1 + (xmax 1 (xmin 8 x1)).toNatClampNeg) + 1 + (xmax 1 (xmin 8 x1)).toNatClampNeg) + 1 + (xmax 1 (xmin 8 x1)).toNatClampNeg) + 1 + (xmax 1 (xmin 21 x2)).toNatClampNeg) + 247)).bind fun w203 =>
  (xgr w203 a0 11 7).bind fun t204 =>
  xl (xu w203 ((((((((z + 18) + 4) + 1 + (xmax 1 (xmin 8 x1)).toNatClampNeg) + 1 + (xmax 1 (xmin 8 x1)).toNatClampNeg) + 1 + (xmax 1 (xmin 8 x1)).toNatClampNeg) + 1 + (xmax 1 (xmin 8 x1)).toNatClampNeg) + 1 + (xmax 1 (xmin 21 x2)).toNatClampNeg) + 255) (.inr (4, [.null, .null, .int 0, .int 0, .int 0, .int 0, .int 0, .int 0, .int 0]))) fun w205 =>
  (f_Law_init ((((((((z + 18) + 4) + 1 + (xmax 1 (xmin 8 x1)).toNatClampNeg) + 1 + (xmax 1 (xmin 8 x1)).toNatClampNeg) + 1 + (xmax 1 (xmin 8 x1)).toNatClampNeg) + 1 + (xmax 1 (xmin 8 x1)).toNatClampNeg) + 1 + (xmax 1 (xmin 21 x2)).toNatClampNeg) + 255) ((((((((z + 18) + 4) + 1 + (xmax 1 (xmin 8 x1)).toNatClampNeg) + 1 + (xmax 1 (xmin 8 x1)).toNatClampNeg) + 1 + (xmax 1 (xmin 8 x1)).toNatClampNeg) + 1 + (xmax 1 (xmin 8 x1)).toNatClampNeg) + 1 + (xmax 1 (xmin 21 x2)).toNatClampNeg) + 256) w205).bind fun w206 =>
  (xsr w206 3 4 t204 15 ((((((((z + 18) + 4) + 1 + (xmax 1 (xmin 8 x1)).toNatClampNeg) + 1 + (xmax 1 (xmin 8 x1)).toNatClampNeg) + 1 + (xmax 1 (xmin 8 x1)).toNatClampNeg) + 1 + (xmax 1 (xmin 8 x1)).toNatClampNeg) + 1 + (xmax 1 (xmin 21 x2)).toNatClampNeg) + 255)).bind fun w208 =>
  some w208
set_option maxHeartbeats 4000000 in
set_option maxRecDepth 100000 in
theorem c_RR_init {l : Launch} {E : xV} {z : Nat} {a0 : Nat} {x1 : Int32} {x2 : Int32} {ω1 : xS} {ω : xS} (hf : f_RR_init a0 x1 x2 z ω = some ω1) : xM l E y_RR_init ws_RR_init { frames := 3, cells := (281 + (4 + (1 + (xmax 1 (xmin 8 x1)).toNatClampNeg) + (1 + (xmax 1 (xmin 8 x1)).toNatClampNeg) + (1 + (xmax 1 (xmin 8 x1)).toNatClampNeg) + (1 + (xmax 1 (xmin 8 x1)).toNatClampNeg) + (1 + (xmax 1 (xmin 21 x2)).toNatClampNeg))), slots := (23025 + (27 + (xmax 1 (xmin 8 x1)).toNatClampNeg + ((xmax 1 (xmin 8 x1)).toNatClampNeg + (xmax 1 (xmin 8 x1)).toNatClampNeg * (7 + (xmax 1 (xmin 21 x2))).toNatClampNeg) + ((xmax 1 (xmin 8 x1)).toNatClampNeg + (xmax 1 (xmin 8 x1)).toNatClampNeg * (xmax 1 (xmin 21 x2)).toNatClampNeg) + ((xmax 1 (xmin 8 x1)).toNatClampNeg + (xmax 1 (xmin 8 x1)).toNatClampNeg * (xmax 1 (xmin 21 x2)).toNatClampNeg) + ((xmax 1 (xmin 8 x1)).toNatClampNeg + (xmax 1 (xmin 8 x1)).toNatClampNeg * 9) + ((xmax 1 (xmin 21 x2)).toNatClampNeg + (xmax 1 (xmin 21 x2)).toNatClampNeg * 9))), locals := 63 } [.ref a0, .int x1, .int x2] z ω none ((((((((z + 18) + 4) + 1 + (xmax 1 (xmin 8 x1)).toNatClampNeg) + 1 + (xmax 1 (xmin 8 x1)).toNatClampNeg) + 1 + (xmax 1 (xmin 8 x1)).toNatClampNeg) + 1 + (xmax 1 (xmin 8 x1)).toNatClampNeg) + 1 + (xmax 1 (xmin 21 x2)).toNatClampNeg) + 263) ω1 := by
  refine x_start (cc := b_RR_init) (maxL := 4) (ret := none) (by decide) rfl (Nat.le_of_ble_eq_true rfl) ?_
  intro p e s m below meth c S hr hlocks hin ls hl hw
  have hl : lv_has ls 4 [(0, .ref a0), (1, .int x1), (2, .int x2)] := hl
  have hin := hin rfl
  unfold f_RR_init at hf
  refine lv_aload_n S.1 S.2.1 d_RR_init_0 rfl (lv_at hl 0 rfl) ?_
  refine x_obj S hl.1 ob_RR_1 d_RR_init_1 (Nat.le_of_ble_eq_true rfl) (Nat.le_of_ble_eq_true rfl) ?_
  refine lv_aload_n S.1 S.2.1 d_RR_init_4 rfl (lv_at hl 0 rfl) ?_
  obtain ⟨w1, hw1, hf⟩ := xlb hf
  refine x_new S hw nw_RR_7 hw1 (show _ ≤ (281 + (4 + (1 + (xmax 1 (xmin 8 x1)).toNatClampNeg) + (1 + (xmax 1 (xmin 8 x1)).toNatClampNeg) + (1 + (xmax 1 (xmin 8 x1)).toNatClampNeg) + (1 + (xmax 1 (xmin 8 x1)).toNatClampNeg) + (1 + (xmax 1 (xmin 21 x2)).toNatClampNeg))) by (try dsimp only); omega) (show _ ≤ (23025 + (27 + (xmax 1 (xmin 8 x1)).toNatClampNeg + ((xmax 1 (xmin 8 x1)).toNatClampNeg + (xmax 1 (xmin 8 x1)).toNatClampNeg * (7 + (xmax 1 (xmin 21 x2))).toNatClampNeg) + ((xmax 1 (xmin 8 x1)).toNatClampNeg + (xmax 1 (xmin 8 x1)).toNatClampNeg * (xmax 1 (xmin 21 x2)).toNatClampNeg) + ((xmax 1 (xmin 8 x1)).toNatClampNeg + (xmax 1 (xmin 8 x1)).toNatClampNeg * (xmax 1 (xmin 21 x2)).toNatClampNeg) + ((xmax 1 (xmin 8 x1)).toNatClampNeg + (xmax 1 (xmin 8 x1)).toNatClampNeg * 9) + ((xmax 1 (xmin 21 x2)).toNatClampNeg + (xmax 1 (xmin 21 x2)).toNatClampNeg * 9))) by (try dsimp only); omega) d_RR_init_5 (fun H hw => ?_)
  refine lv_dup S.1 S.2.1 d_RR_init_8 rfl ?_
  obtain ⟨w2, h3, hf⟩ := xb hf
  refine x_callIN (As := []) (rest := [.ref z, .ref a0]) S hw (c_Tape_init h3) ⟨va_cnB (host := "RosterRules") 0 S.2.2.2.2 gi_Tape_init rfl rfl rfl (hw.1.2.2.1 _ wn_1_29) (S.2.2.2.2 _ wd_1_2) hi_Tape_init ⟨Nat.le_of_ble_eq_true rfl, Nat.le_of_ble_eq_true rfl⟩, rfl, S.2.2.2.2 _ wd_1_30⟩ rfl hl.1 rfl (Nat.le_of_ble_eq_true rfl) d_RR_init_9 ⟨(show _ ≤ (281 + (4 + (1 + (xmax 1 (xmin 8 x1)).toNatClampNeg) + (1 + (xmax 1 (xmin 8 x1)).toNatClampNeg) + (1 + (xmax 1 (xmin 8 x1)).toNatClampNeg) + (1 + (xmax 1 (xmin 8 x1)).toNatClampNeg) + (1 + (xmax 1 (xmin 21 x2)).toNatClampNeg))) by (try dsimp only); omega), (show _ ≤ (23025 + (27 + (xmax 1 (xmin 8 x1)).toNatClampNeg + ((xmax 1 (xmin 8 x1)).toNatClampNeg + (xmax 1 (xmin 8 x1)).toNatClampNeg * (7 + (xmax 1 (xmin 21 x2))).toNatClampNeg) + ((xmax 1 (xmin 8 x1)).toNatClampNeg + (xmax 1 (xmin 8 x1)).toNatClampNeg * (xmax 1 (xmin 21 x2)).toNatClampNeg) + ((xmax 1 (xmin 8 x1)).toNatClampNeg + (xmax 1 (xmin 8 x1)).toNatClampNeg * (xmax 1 (xmin 21 x2)).toNatClampNeg) + ((xmax 1 (xmin 8 x1)).toNatClampNeg + (xmax 1 (xmin 8 x1)).toNatClampNeg * 9) + ((xmax 1 (xmin 21 x2)).toNatClampNeg + (xmax 1 (xmin 21 x2)).toNatClampNeg * 9))) by (try dsimp only); omega)⟩ (fun H locs hw => ?_)
  obtain ⟨w4, hw4, hf⟩ := xb hf
  refine x_putF S hin hw lf_RR_10 rfl rfl hw4 d_RR_init_12 (fun H locs hw => ?_)
  refine lv_aload_n S.1 S.2.1 d_RR_init_15 rfl (lv_at hl 0 rfl) ?_
  obtain ⟨w5, hw5, hf⟩ := xlb hf
  refine x_new S hw nw_RR_16 hw5 (show _ ≤ (281 + (4 + (1 + (xmax 1 (xmin 8 x1)).toNatClampNeg) + (1 + (xmax 1 (xmin 8 x1)).toNatClampNeg) + (1 + (xmax 1 (xmin 8 x1)).toNatClampNeg) + (1 + (xmax 1 (xmin 8 x1)).toNatClampNeg) + (1 + (xmax 1 (xmin 21 x2)).toNatClampNeg))) by (try dsimp only); omega) (show _ ≤ (23025 + (27 + (xmax 1 (xmin 8 x1)).toNatClampNeg + ((xmax 1 (xmin 8 x1)).toNatClampNeg + (xmax 1 (xmin 8 x1)).toNatClampNeg * (7 + (xmax 1 (xmin 21 x2))).toNatClampNeg) + ((xmax 1 (xmin 8 x1)).toNatClampNeg + (xmax 1 (xmin 8 x1)).toNatClampNeg * (xmax 1 (xmin 21 x2)).toNatClampNeg) + ((xmax 1 (xmin 8 x1)).toNatClampNeg + (xmax 1 (xmin 8 x1)).toNatClampNeg * (xmax 1 (xmin 21 x2)).toNatClampNeg) + ((xmax 1 (xmin 8 x1)).toNatClampNeg + (xmax 1 (xmin 8 x1)).toNatClampNeg * 9) + ((xmax 1 (xmin 21 x2)).toNatClampNeg + (xmax 1 (xmin 21 x2)).toNatClampNeg * 9))) by (try dsimp only); omega) d_RR_init_16 (fun H hw => ?_)
  refine lv_dup S.1 S.2.1 d_RR_init_19 rfl ?_
  obtain ⟨w6, h7, hf⟩ := xb hf
  refine x_callIN (As := []) (rest := [.ref (z + 2), .ref a0]) S hw (c_History_init h7) ⟨va_cnB (host := "RosterRules") 0 S.2.2.2.2 gi_History_init rfl rfl rfl (hw.1.2.2.1 _ wn_1_46) (S.2.2.2.2 _ wd_1_3) hi_History_init ⟨Nat.le_of_ble_eq_true rfl, Nat.le_of_ble_eq_true rfl⟩, rfl, S.2.2.2.2 _ wd_1_47⟩ rfl hl.1 rfl (Nat.le_of_ble_eq_true rfl) d_RR_init_20 ⟨(show _ ≤ (281 + (4 + (1 + (xmax 1 (xmin 8 x1)).toNatClampNeg) + (1 + (xmax 1 (xmin 8 x1)).toNatClampNeg) + (1 + (xmax 1 (xmin 8 x1)).toNatClampNeg) + (1 + (xmax 1 (xmin 8 x1)).toNatClampNeg) + (1 + (xmax 1 (xmin 21 x2)).toNatClampNeg))) by (try dsimp only); omega), (show _ ≤ (23025 + (27 + (xmax 1 (xmin 8 x1)).toNatClampNeg + ((xmax 1 (xmin 8 x1)).toNatClampNeg + (xmax 1 (xmin 8 x1)).toNatClampNeg * (7 + (xmax 1 (xmin 21 x2))).toNatClampNeg) + ((xmax 1 (xmin 8 x1)).toNatClampNeg + (xmax 1 (xmin 8 x1)).toNatClampNeg * (xmax 1 (xmin 21 x2)).toNatClampNeg) + ((xmax 1 (xmin 8 x1)).toNatClampNeg + (xmax 1 (xmin 8 x1)).toNatClampNeg * (xmax 1 (xmin 21 x2)).toNatClampNeg) + ((xmax 1 (xmin 8 x1)).toNatClampNeg + (xmax 1 (xmin 8 x1)).toNatClampNeg * 9) + ((xmax 1 (xmin 21 x2)).toNatClampNeg + (xmax 1 (xmin 21 x2)).toNatClampNeg * 9))) by (try dsimp only); omega)⟩ (fun H locs hw => ?_)
  obtain ⟨w8, hw8, hf⟩ := xb hf
  refine x_putF S hin hw lf_RR_19 rfl rfl hw8 d_RR_init_23 (fun H locs hw => ?_)
  refine lv_aload_n S.1 S.2.1 d_RR_init_26 rfl (lv_at hl 0 rfl) ?_
  obtain ⟨w9, hw9, hf⟩ := xlb hf
  refine x_new S hw nw_RR_23 hw9 (show _ ≤ (281 + (4 + (1 + (xmax 1 (xmin 8 x1)).toNatClampNeg) + (1 + (xmax 1 (xmin 8 x1)).toNatClampNeg) + (1 + (xmax 1 (xmin 8 x1)).toNatClampNeg) + (1 + (xmax 1 (xmin 8 x1)).toNatClampNeg) + (1 + (xmax 1 (xmin 21 x2)).toNatClampNeg))) by (try dsimp only); omega) (show _ ≤ (23025 + (27 + (xmax 1 (xmin 8 x1)).toNatClampNeg + ((xmax 1 (xmin 8 x1)).toNatClampNeg + (xmax 1 (xmin 8 x1)).toNatClampNeg * (7 + (xmax 1 (xmin 21 x2))).toNatClampNeg) + ((xmax 1 (xmin 8 x1)).toNatClampNeg + (xmax 1 (xmin 8 x1)).toNatClampNeg * (xmax 1 (xmin 21 x2)).toNatClampNeg) + ((xmax 1 (xmin 8 x1)).toNatClampNeg + (xmax 1 (xmin 8 x1)).toNatClampNeg * (xmax 1 (xmin 21 x2)).toNatClampNeg) + ((xmax 1 (xmin 8 x1)).toNatClampNeg + (xmax 1 (xmin 8 x1)).toNatClampNeg * 9) + ((xmax 1 (xmin 21 x2)).toNatClampNeg + (xmax 1 (xmin 21 x2)).toNatClampNeg * 9))) by (try dsimp only); omega) d_RR_init_27 (fun H hw => ?_)
  refine lv_dup S.1 S.2.1 d_RR_init_30 rfl ?_
  obtain ⟨w10, h11, hf⟩ := xb hf
  refine x_callIN (As := []) (rest := [.ref (z + 6), .ref a0]) S hw (c_AutomatonMaker_init h11) ⟨va_cnB (host := "RosterRules") 0 S.2.2.2.2 gi_AutomatonMaker_init rfl rfl rfl (hw.1.2.2.1 _ wn_1_73) (S.2.2.2.2 _ wd_1_4) hi_AutomatonMaker_init ⟨Nat.le_of_ble_eq_true rfl, Nat.le_of_ble_eq_true rfl⟩, rfl, S.2.2.2.2 _ wd_1_74⟩ rfl hl.1 rfl (Nat.le_of_ble_eq_true rfl) d_RR_init_31 ⟨(show _ ≤ (281 + (4 + (1 + (xmax 1 (xmin 8 x1)).toNatClampNeg) + (1 + (xmax 1 (xmin 8 x1)).toNatClampNeg) + (1 + (xmax 1 (xmin 8 x1)).toNatClampNeg) + (1 + (xmax 1 (xmin 8 x1)).toNatClampNeg) + (1 + (xmax 1 (xmin 21 x2)).toNatClampNeg))) by (try dsimp only); omega), (show _ ≤ (23025 + (27 + (xmax 1 (xmin 8 x1)).toNatClampNeg + ((xmax 1 (xmin 8 x1)).toNatClampNeg + (xmax 1 (xmin 8 x1)).toNatClampNeg * (7 + (xmax 1 (xmin 21 x2))).toNatClampNeg) + ((xmax 1 (xmin 8 x1)).toNatClampNeg + (xmax 1 (xmin 8 x1)).toNatClampNeg * (xmax 1 (xmin 21 x2)).toNatClampNeg) + ((xmax 1 (xmin 8 x1)).toNatClampNeg + (xmax 1 (xmin 8 x1)).toNatClampNeg * (xmax 1 (xmin 21 x2)).toNatClampNeg) + ((xmax 1 (xmin 8 x1)).toNatClampNeg + (xmax 1 (xmin 8 x1)).toNatClampNeg * 9) + ((xmax 1 (xmin 21 x2)).toNatClampNeg + (xmax 1 (xmin 21 x2)).toNatClampNeg * 9))) by (try dsimp only); omega)⟩ (fun H locs hw => ?_)
  obtain ⟨w12, hw12, hf⟩ := xb hf
  refine x_putF S hin hw lf_RR_26 rfl rfl hw12 d_RR_init_34 (fun H locs hw => ?_)
  refine lv_aload_n S.1 S.2.1 d_RR_init_37 rfl (lv_at hl 0 rfl) ?_
  refine lv_bipush (v := 16) S.1 S.2.1 d_RR_init_38 (by decide) ?_
  obtain ⟨w13, hw13, hf⟩ := xlb hf
  refine x_newq (N := 16) S hw wd_1_106 (by decide) (by decide) (by decide) hw13 (show _ ≤ (281 + (4 + (1 + (xmax 1 (xmin 8 x1)).toNatClampNeg) + (1 + (xmax 1 (xmin 8 x1)).toNatClampNeg) + (1 + (xmax 1 (xmin 8 x1)).toNatClampNeg) + (1 + (xmax 1 (xmin 8 x1)).toNatClampNeg) + (1 + (xmax 1 (xmin 21 x2)).toNatClampNeg))) by (try dsimp only); omega) (show _ ≤ (23025 + (27 + (xmax 1 (xmin 8 x1)).toNatClampNeg + ((xmax 1 (xmin 8 x1)).toNatClampNeg + (xmax 1 (xmin 8 x1)).toNatClampNeg * (7 + (xmax 1 (xmin 21 x2))).toNatClampNeg) + ((xmax 1 (xmin 8 x1)).toNatClampNeg + (xmax 1 (xmin 8 x1)).toNatClampNeg * (xmax 1 (xmin 21 x2)).toNatClampNeg) + ((xmax 1 (xmin 8 x1)).toNatClampNeg + (xmax 1 (xmin 8 x1)).toNatClampNeg * (xmax 1 (xmin 21 x2)).toNatClampNeg) + ((xmax 1 (xmin 8 x1)).toNatClampNeg + (xmax 1 (xmin 8 x1)).toNatClampNeg * 9) + ((xmax 1 (xmin 21 x2)).toNatClampNeg + (xmax 1 (xmin 21 x2)).toNatClampNeg * 9))) by (try dsimp only); omega) d_RR_init_40 (fun H hw => ?_)
  obtain ⟨w14, hw14, hf⟩ := xb hf
  refine x_put S hw lp_RR_32 (rfl) rfl hw14 d_RR_init_43 (fun H locs hw => ?_)
  refine lv_aload_n S.1 S.2.1 d_RR_init_46 rfl (lv_at hl 0 rfl) ?_
  refine lv_bipush (v := 16) S.1 S.2.1 d_RR_init_47 (by decide) ?_
  obtain ⟨w15, hw15, hf⟩ := xlb hf
  refine x_newq (N := 16) S hw wd_1_106 (by decide) (by decide) (by decide) hw15 (show _ ≤ (281 + (4 + (1 + (xmax 1 (xmin 8 x1)).toNatClampNeg) + (1 + (xmax 1 (xmin 8 x1)).toNatClampNeg) + (1 + (xmax 1 (xmin 8 x1)).toNatClampNeg) + (1 + (xmax 1 (xmin 8 x1)).toNatClampNeg) + (1 + (xmax 1 (xmin 21 x2)).toNatClampNeg))) by (try dsimp only); omega) (show _ ≤ (23025 + (27 + (xmax 1 (xmin 8 x1)).toNatClampNeg + ((xmax 1 (xmin 8 x1)).toNatClampNeg + (xmax 1 (xmin 8 x1)).toNatClampNeg * (7 + (xmax 1 (xmin 21 x2))).toNatClampNeg) + ((xmax 1 (xmin 8 x1)).toNatClampNeg + (xmax 1 (xmin 8 x1)).toNatClampNeg * (xmax 1 (xmin 21 x2)).toNatClampNeg) + ((xmax 1 (xmin 8 x1)).toNatClampNeg + (xmax 1 (xmin 8 x1)).toNatClampNeg * (xmax 1 (xmin 21 x2)).toNatClampNeg) + ((xmax 1 (xmin 8 x1)).toNatClampNeg + (xmax 1 (xmin 8 x1)).toNatClampNeg * 9) + ((xmax 1 (xmin 21 x2)).toNatClampNeg + (xmax 1 (xmin 21 x2)).toNatClampNeg * 9))) by (try dsimp only); omega) d_RR_init_49 (fun H hw => ?_)
  obtain ⟨w16, hw16, hf⟩ := xb hf
  refine x_put S hw lp_RR_36 (rfl) rfl hw16 d_RR_init_52 (fun H locs hw => ?_)
  refine lv_aload_n S.1 S.2.1 d_RR_init_55 rfl (lv_at hl 0 rfl) ?_
  obtain ⟨w17, hw17, hf⟩ := xlb hf
  refine x_new S hw nw_RR_39 hw17 (show _ ≤ (281 + (4 + (1 + (xmax 1 (xmin 8 x1)).toNatClampNeg) + (1 + (xmax 1 (xmin 8 x1)).toNatClampNeg) + (1 + (xmax 1 (xmin 8 x1)).toNatClampNeg) + (1 + (xmax 1 (xmin 8 x1)).toNatClampNeg) + (1 + (xmax 1 (xmin 21 x2)).toNatClampNeg))) by (try dsimp only); omega) (show _ ≤ (23025 + (27 + (xmax 1 (xmin 8 x1)).toNatClampNeg + ((xmax 1 (xmin 8 x1)).toNatClampNeg + (xmax 1 (xmin 8 x1)).toNatClampNeg * (7 + (xmax 1 (xmin 21 x2))).toNatClampNeg) + ((xmax 1 (xmin 8 x1)).toNatClampNeg + (xmax 1 (xmin 8 x1)).toNatClampNeg * (xmax 1 (xmin 21 x2)).toNatClampNeg) + ((xmax 1 (xmin 8 x1)).toNatClampNeg + (xmax 1 (xmin 8 x1)).toNatClampNeg * (xmax 1 (xmin 21 x2)).toNatClampNeg) + ((xmax 1 (xmin 8 x1)).toNatClampNeg + (xmax 1 (xmin 8 x1)).toNatClampNeg * 9) + ((xmax 1 (xmin 21 x2)).toNatClampNeg + (xmax 1 (xmin 21 x2)).toNatClampNeg * 9))) by (try dsimp only); omega) d_RR_init_56 (fun H hw => ?_)
  refine lv_dup S.1 S.2.1 d_RR_init_59 rfl ?_
  refine lv_iconst (v := 1) S.1 S.2.1 d_RR_init_60 (by decide) ?_
  refine lv_bipush (v := 8) S.1 S.2.1 d_RR_init_61 (by decide) ?_
  refine lv_iload_n S.1 S.2.1 d_RR_init_63 rfl (lv_at hl 1 rfl) ?_
  refine x_mmin S hl.1 lm_RR_41 d_RR_init_64 (Nat.le_of_ble_eq_true rfl) (Nat.le_of_ble_eq_true rfl) (Nat.zero_le _) (Nat.zero_le _) ?_
  refine x_mmax S hl.1 lm_RR_47 d_RR_init_67 (Nat.le_of_ble_eq_true rfl) (Nat.le_of_ble_eq_true rfl) (Nat.zero_le _) (Nat.zero_le _) ?_
  refine lv_iconst (v := 1) S.1 S.2.1 d_RR_init_70 (by decide) ?_
  refine lv_bipush (v := 21) S.1 S.2.1 d_RR_init_71 (by decide) ?_
  refine lv_iload_n S.1 S.2.1 d_RR_init_73 rfl (lv_at hl 2 rfl) ?_
  refine x_mmin S hl.1 lm_RR_41 d_RR_init_74 (Nat.le_of_ble_eq_true rfl) (Nat.le_of_ble_eq_true rfl) (Nat.zero_le _) (Nat.zero_le _) ?_
  refine x_mmax S hl.1 lm_RR_47 d_RR_init_77 (Nat.le_of_ble_eq_true rfl) (Nat.le_of_ble_eq_true rfl) (Nat.zero_le _) (Nat.zero_le _) ?_
  obtain ⟨w18, h19, hf⟩ := xb hf
  refine x_callI (As := [.int (xmax 1 (xmin 8 x1)), .int (xmax 1 (xmin 21 x2))]) (rest := [.ref (z + 17), .ref a0]) S hw (c_Roster_init h19) (cwI 2 S.2.2.2.2 gi_Roster_init rfl rfl rfl (S.2.2.2.2 _ wd_1_5) (S.2.2.2.2 _ wd_1_116) (S.2.2.2.2 _ wd_1_117) rfl hi_Roster_init ⟨Nat.le_of_ble_eq_true rfl, Nat.le_of_ble_eq_true rfl⟩) rfl hl.1 rfl (Nat.le_of_ble_eq_true rfl) d_RR_init_80 ⟨(show _ ≤ (281 + (4 + (1 + (xmax 1 (xmin 8 x1)).toNatClampNeg) + (1 + (xmax 1 (xmin 8 x1)).toNatClampNeg) + (1 + (xmax 1 (xmin 8 x1)).toNatClampNeg) + (1 + (xmax 1 (xmin 8 x1)).toNatClampNeg) + (1 + (xmax 1 (xmin 21 x2)).toNatClampNeg))) by (try dsimp only); omega), (show _ ≤ (23025 + (27 + (xmax 1 (xmin 8 x1)).toNatClampNeg + ((xmax 1 (xmin 8 x1)).toNatClampNeg + (xmax 1 (xmin 8 x1)).toNatClampNeg * (7 + (xmax 1 (xmin 21 x2))).toNatClampNeg) + ((xmax 1 (xmin 8 x1)).toNatClampNeg + (xmax 1 (xmin 8 x1)).toNatClampNeg * (xmax 1 (xmin 21 x2)).toNatClampNeg) + ((xmax 1 (xmin 8 x1)).toNatClampNeg + (xmax 1 (xmin 8 x1)).toNatClampNeg * (xmax 1 (xmin 21 x2)).toNatClampNeg) + ((xmax 1 (xmin 8 x1)).toNatClampNeg + (xmax 1 (xmin 8 x1)).toNatClampNeg * 9) + ((xmax 1 (xmin 21 x2)).toNatClampNeg + (xmax 1 (xmin 21 x2)).toNatClampNeg * 9))) by (try dsimp only); omega)⟩ (fun H locs hw => ?_)
  obtain ⟨w20, hw20, hf⟩ := xb hf
  refine x_putF S hin hw lf_RR_53 rfl rfl hw20 d_RR_init_83 (fun H locs hw => ?_)
  refine lv_aload_n S.1 S.2.1 d_RR_init_86 rfl (lv_at hl 0 rfl) ?_
  obtain ⟨w21, hw21, hf⟩ := xlb hf
  refine x_new S hw nw_RR_57 hw21 (show _ ≤ (281 + (4 + (1 + (xmax 1 (xmin 8 x1)).toNatClampNeg) + (1 + (xmax 1 (xmin 8 x1)).toNatClampNeg) + (1 + (xmax 1 (xmin 8 x1)).toNatClampNeg) + (1 + (xmax 1 (xmin 8 x1)).toNatClampNeg) + (1 + (xmax 1 (xmin 21 x2)).toNatClampNeg))) by (try dsimp only); omega) (show _ ≤ (23025 + (27 + (xmax 1 (xmin 8 x1)).toNatClampNeg + ((xmax 1 (xmin 8 x1)).toNatClampNeg + (xmax 1 (xmin 8 x1)).toNatClampNeg * (7 + (xmax 1 (xmin 21 x2))).toNatClampNeg) + ((xmax 1 (xmin 8 x1)).toNatClampNeg + (xmax 1 (xmin 8 x1)).toNatClampNeg * (xmax 1 (xmin 21 x2)).toNatClampNeg) + ((xmax 1 (xmin 8 x1)).toNatClampNeg + (xmax 1 (xmin 8 x1)).toNatClampNeg * (xmax 1 (xmin 21 x2)).toNatClampNeg) + ((xmax 1 (xmin 8 x1)).toNatClampNeg + (xmax 1 (xmin 8 x1)).toNatClampNeg * 9) + ((xmax 1 (xmin 21 x2)).toNatClampNeg + (xmax 1 (xmin 21 x2)).toNatClampNeg * 9))) by (try dsimp only); omega) d_RR_init_87 (fun H hw => ?_)
  refine lv_dup S.1 S.2.1 d_RR_init_90 rfl ?_
  refine lv_aload_n S.1 S.2.1 d_RR_init_91 rfl (lv_at hl 0 rfl) ?_
  obtain ⟨t22, ht22, hf⟩ := xb hf
  refine x_getr S hw lk_RR_53 ht22 d_RR_init_92 ?_
  obtain ⟨w23, h24, hf⟩ := xb hf
  refine x_callI (As := [.ref t22]) (rest := [.ref (((((((z + 18) + 4) + 1 + (xmax 1 (xmin 8 x1)).toNatClampNeg) + 1 + (xmax 1 (xmin 8 x1)).toNatClampNeg) + 1 + (xmax 1 (xmin 8 x1)).toNatClampNeg) + 1 + (xmax 1 (xmin 8 x1)).toNatClampNeg) + 1 + (xmax 1 (xmin 21 x2)).toNatClampNeg), .ref a0]) S hw (c_Judge_init h24) (cwI 1 S.2.2.2.2 gi_Judge_init rfl rfl rfl (S.2.2.2.2 _ wd_1_7) (S.2.2.2.2 _ wd_1_181) (S.2.2.2.2 _ wd_1_182) rfl hi_Judge_init ⟨Nat.le_of_ble_eq_true rfl, Nat.le_of_ble_eq_true rfl⟩) rfl hl.1 rfl (Nat.le_of_ble_eq_true rfl) d_RR_init_95 ⟨(show _ ≤ (281 + (4 + (1 + (xmax 1 (xmin 8 x1)).toNatClampNeg) + (1 + (xmax 1 (xmin 8 x1)).toNatClampNeg) + (1 + (xmax 1 (xmin 8 x1)).toNatClampNeg) + (1 + (xmax 1 (xmin 8 x1)).toNatClampNeg) + (1 + (xmax 1 (xmin 21 x2)).toNatClampNeg))) by (try dsimp only); omega), (show _ ≤ (23025 + (27 + (xmax 1 (xmin 8 x1)).toNatClampNeg + ((xmax 1 (xmin 8 x1)).toNatClampNeg + (xmax 1 (xmin 8 x1)).toNatClampNeg * (7 + (xmax 1 (xmin 21 x2))).toNatClampNeg) + ((xmax 1 (xmin 8 x1)).toNatClampNeg + (xmax 1 (xmin 8 x1)).toNatClampNeg * (xmax 1 (xmin 21 x2)).toNatClampNeg) + ((xmax 1 (xmin 8 x1)).toNatClampNeg + (xmax 1 (xmin 8 x1)).toNatClampNeg * (xmax 1 (xmin 21 x2)).toNatClampNeg) + ((xmax 1 (xmin 8 x1)).toNatClampNeg + (xmax 1 (xmin 8 x1)).toNatClampNeg * 9) + ((xmax 1 (xmin 21 x2)).toNatClampNeg + (xmax 1 (xmin 21 x2)).toNatClampNeg * 9))) by (try dsimp only); omega)⟩ (fun H locs hw => ?_)
  obtain ⟨w25, hw25, hf⟩ := xb hf
  refine x_putF S hin hw lf_RR_62 rfl rfl hw25 d_RR_init_98 (fun H locs hw => ?_)
  refine lv_aload_n S.1 S.2.1 d_RR_init_101 rfl (lv_at hl 0 rfl) ?_
  obtain ⟨w26, hw26, hf⟩ := xlb hf
  refine x_new S hw nw_RR_66 hw26 (show _ ≤ (281 + (4 + (1 + (xmax 1 (xmin 8 x1)).toNatClampNeg) + (1 + (xmax 1 (xmin 8 x1)).toNatClampNeg) + (1 + (xmax 1 (xmin 8 x1)).toNatClampNeg) + (1 + (xmax 1 (xmin 8 x1)).toNatClampNeg) + (1 + (xmax 1 (xmin 21 x2)).toNatClampNeg))) by (try dsimp only); omega) (show _ ≤ (23025 + (27 + (xmax 1 (xmin 8 x1)).toNatClampNeg + ((xmax 1 (xmin 8 x1)).toNatClampNeg + (xmax 1 (xmin 8 x1)).toNatClampNeg * (7 + (xmax 1 (xmin 21 x2))).toNatClampNeg) + ((xmax 1 (xmin 8 x1)).toNatClampNeg + (xmax 1 (xmin 8 x1)).toNatClampNeg * (xmax 1 (xmin 21 x2)).toNatClampNeg) + ((xmax 1 (xmin 8 x1)).toNatClampNeg + (xmax 1 (xmin 8 x1)).toNatClampNeg * (xmax 1 (xmin 21 x2)).toNatClampNeg) + ((xmax 1 (xmin 8 x1)).toNatClampNeg + (xmax 1 (xmin 8 x1)).toNatClampNeg * 9) + ((xmax 1 (xmin 21 x2)).toNatClampNeg + (xmax 1 (xmin 21 x2)).toNatClampNeg * 9))) by (try dsimp only); omega) d_RR_init_102 (fun H hw => ?_)
  refine lv_dup S.1 S.2.1 d_RR_init_105 rfl ?_
  refine lv_aload_n S.1 S.2.1 d_RR_init_106 rfl (lv_at hl 0 rfl) ?_
  obtain ⟨t27, ht27, hf⟩ := xb hf
  refine x_getr S hw lk_RR_10 ht27 d_RR_init_107 ?_
  refine lv_aload_n S.1 S.2.1 d_RR_init_110 rfl (lv_at hl 0 rfl) ?_
  obtain ⟨t28, ht28, hf⟩ := xb hf
  refine x_getr S hw lk_RR_53 ht28 d_RR_init_111 ?_
  obtain ⟨t29, ht29, hf⟩ := xb hf
  refine x_geti S hw lk_RR_68 ht29 d_RR_init_114 ?_
  obtain ⟨w30, h31, hf⟩ := xb hf
  refine x_callI (As := [.ref t27, .int t29]) (rest := [.ref ((((((((z + 18) + 4) + 1 + (xmax 1 (xmin 8 x1)).toNatClampNeg) + 1 + (xmax 1 (xmin 8 x1)).toNatClampNeg) + 1 + (xmax 1 (xmin 8 x1)).toNatClampNeg) + 1 + (xmax 1 (xmin 8 x1)).toNatClampNeg) + 1 + (xmax 1 (xmin 21 x2)).toNatClampNeg) + 1), .ref a0]) S hw (c_LawReader_init h31) (cwI 2 S.2.2.2.2 gi_LawReader_init rfl rfl rfl (S.2.2.2.2 _ wd_1_8) (S.2.2.2.2 _ wd_1_191) (S.2.2.2.2 _ wd_1_192) rfl hi_LawReader_init ⟨Nat.le_of_ble_eq_true rfl, Nat.le_of_ble_eq_true rfl⟩) rfl hl.1 rfl (Nat.le_of_ble_eq_true rfl) d_RR_init_117 ⟨(show _ ≤ (281 + (4 + (1 + (xmax 1 (xmin 8 x1)).toNatClampNeg) + (1 + (xmax 1 (xmin 8 x1)).toNatClampNeg) + (1 + (xmax 1 (xmin 8 x1)).toNatClampNeg) + (1 + (xmax 1 (xmin 8 x1)).toNatClampNeg) + (1 + (xmax 1 (xmin 21 x2)).toNatClampNeg))) by (try dsimp only); omega), (show _ ≤ (23025 + (27 + (xmax 1 (xmin 8 x1)).toNatClampNeg + ((xmax 1 (xmin 8 x1)).toNatClampNeg + (xmax 1 (xmin 8 x1)).toNatClampNeg * (7 + (xmax 1 (xmin 21 x2))).toNatClampNeg) + ((xmax 1 (xmin 8 x1)).toNatClampNeg + (xmax 1 (xmin 8 x1)).toNatClampNeg * (xmax 1 (xmin 21 x2)).toNatClampNeg) + ((xmax 1 (xmin 8 x1)).toNatClampNeg + (xmax 1 (xmin 8 x1)).toNatClampNeg * (xmax 1 (xmin 21 x2)).toNatClampNeg) + ((xmax 1 (xmin 8 x1)).toNatClampNeg + (xmax 1 (xmin 8 x1)).toNatClampNeg * 9) + ((xmax 1 (xmin 21 x2)).toNatClampNeg + (xmax 1 (xmin 21 x2)).toNatClampNeg * 9))) by (try dsimp only); omega)⟩ (fun H locs hw => ?_)
  obtain ⟨w32, hw32, hf⟩ := xb hf
  refine x_putF S hin hw lf_RR_75 rfl rfl hw32 d_RR_init_120 (fun H locs hw => ?_)
  refine lv_iconst (v := 0) S.1 S.2.1 d_RR_init_123 (by decide) ?_
  refine lv_istore_n (lv' := [(3, .int 0), (0, .ref a0), (1, .int x1), (2, .int x2)]) S.1 S.2.1 d_RR_init_124 rfl hl (by decide) rfl (fun ls hl => ?_)
  refine lv_iload_n S.1 S.2.1 d_RR_init_125 rfl (lv_at hl 0 rfl) ?_
  refine lv_bipush (v := 16) S.1 S.2.1 d_RR_init_126 (by decide) ?_
  refine lv_icmp_ge (tgt := 163) S.1 S.2.1 d_RR_init_128 (by decide) (fun c33 => absurd c33 (by decide)) (fun c33 => ?_)
  refine lv_aload_n S.1 S.2.1 d_RR_init_131 rfl (lv_at hl 1 rfl) ?_
  obtain ⟨t34, ht34, hf⟩ := xb hf
  refine x_getr S hw lk_RR_32 ht34 d_RR_init_132 ?_
  refine lv_iload_n S.1 S.2.1 d_RR_init_135 rfl (lv_at hl 0 rfl) ?_
  obtain ⟨w35, hw35, hf⟩ := xlb hf
  refine x_new S hw nw_RR_30 hw35 (show _ ≤ (281 + (4 + (1 + (xmax 1 (xmin 8 x1)).toNatClampNeg) + (1 + (xmax 1 (xmin 8 x1)).toNatClampNeg) + (1 + (xmax 1 (xmin 8 x1)).toNatClampNeg) + (1 + (xmax 1 (xmin 8 x1)).toNatClampNeg) + (1 + (xmax 1 (xmin 21 x2)).toNatClampNeg))) by (try dsimp only); omega) (show _ ≤ (23025 + (27 + (xmax 1 (xmin 8 x1)).toNatClampNeg + ((xmax 1 (xmin 8 x1)).toNatClampNeg + (xmax 1 (xmin 8 x1)).toNatClampNeg * (7 + (xmax 1 (xmin 21 x2))).toNatClampNeg) + ((xmax 1 (xmin 8 x1)).toNatClampNeg + (xmax 1 (xmin 8 x1)).toNatClampNeg * (xmax 1 (xmin 21 x2)).toNatClampNeg) + ((xmax 1 (xmin 8 x1)).toNatClampNeg + (xmax 1 (xmin 8 x1)).toNatClampNeg * (xmax 1 (xmin 21 x2)).toNatClampNeg) + ((xmax 1 (xmin 8 x1)).toNatClampNeg + (xmax 1 (xmin 8 x1)).toNatClampNeg * 9) + ((xmax 1 (xmin 21 x2)).toNatClampNeg + (xmax 1 (xmin 21 x2)).toNatClampNeg * 9))) by (try dsimp only); omega) d_RR_init_136 (fun H hw => ?_)
  refine lv_dup S.1 S.2.1 d_RR_init_139 rfl ?_
  obtain ⟨w36, h37, hf⟩ := xb hf
  refine x_callIN (As := []) (rest := [.ref ((((((((z + 18) + 4) + 1 + (xmax 1 (xmin 8 x1)).toNatClampNeg) + 1 + (xmax 1 (xmin 8 x1)).toNatClampNeg) + 1 + (xmax 1 (xmin 8 x1)).toNatClampNeg) + 1 + (xmax 1 (xmin 8 x1)).toNatClampNeg) + 1 + (xmax 1 (xmin 21 x2)).toNatClampNeg) + 7), .int 0, .ref t34]) S hw (c_Law_init h37) ⟨va_cnB (host := "RosterRules") 0 S.2.2.2.2 gi_Law_init rfl rfl rfl (hw.1.2.2.1 _ wn_2_39) (S.2.2.2.2 _ wd_1_11) hi_Law_init ⟨Nat.le_of_ble_eq_true rfl, Nat.le_of_ble_eq_true rfl⟩, rfl, S.2.2.2.2 _ wd_2_40⟩ rfl hl.1 rfl (Nat.le_of_ble_eq_true rfl) d_RR_init_140 ⟨(show _ ≤ (281 + (4 + (1 + (xmax 1 (xmin 8 x1)).toNatClampNeg) + (1 + (xmax 1 (xmin 8 x1)).toNatClampNeg) + (1 + (xmax 1 (xmin 8 x1)).toNatClampNeg) + (1 + (xmax 1 (xmin 8 x1)).toNatClampNeg) + (1 + (xmax 1 (xmin 21 x2)).toNatClampNeg))) by (try dsimp only); omega), (show _ ≤ (23025 + (27 + (xmax 1 (xmin 8 x1)).toNatClampNeg + ((xmax 1 (xmin 8 x1)).toNatClampNeg + (xmax 1 (xmin 8 x1)).toNatClampNeg * (7 + (xmax 1 (xmin 21 x2))).toNatClampNeg) + ((xmax 1 (xmin 8 x1)).toNatClampNeg + (xmax 1 (xmin 8 x1)).toNatClampNeg * (xmax 1 (xmin 21 x2)).toNatClampNeg) + ((xmax 1 (xmin 8 x1)).toNatClampNeg + (xmax 1 (xmin 8 x1)).toNatClampNeg * (xmax 1 (xmin 21 x2)).toNatClampNeg) + ((xmax 1 (xmin 8 x1)).toNatClampNeg + (xmax 1 (xmin 8 x1)).toNatClampNeg * 9) + ((xmax 1 (xmin 21 x2)).toNatClampNeg + (xmax 1 (xmin 21 x2)).toNatClampNeg * 9))) by (try dsimp only); omega)⟩ (fun H locs hw => ?_)
  obtain ⟨w38, hw38, hf⟩ := xb hf
  refine x_aast S hw (t := 3) rfl rfl hw38 d_RR_init_143 (fun H locs hw => ?_)
  refine lv_aload_n S.1 S.2.1 d_RR_init_144 rfl (lv_at hl 1 rfl) ?_
  obtain ⟨t39, ht39, hf⟩ := xb hf
  refine x_getr S hw lk_RR_36 ht39 d_RR_init_145 ?_
  refine lv_iload_n S.1 S.2.1 d_RR_init_148 rfl (lv_at hl 0 rfl) ?_
  obtain ⟨w40, hw40, hf⟩ := xlb hf
  refine x_new S hw nw_RR_30 hw40 (show _ ≤ (281 + (4 + (1 + (xmax 1 (xmin 8 x1)).toNatClampNeg) + (1 + (xmax 1 (xmin 8 x1)).toNatClampNeg) + (1 + (xmax 1 (xmin 8 x1)).toNatClampNeg) + (1 + (xmax 1 (xmin 8 x1)).toNatClampNeg) + (1 + (xmax 1 (xmin 21 x2)).toNatClampNeg))) by (try dsimp only); omega) (show _ ≤ (23025 + (27 + (xmax 1 (xmin 8 x1)).toNatClampNeg + ((xmax 1 (xmin 8 x1)).toNatClampNeg + (xmax 1 (xmin 8 x1)).toNatClampNeg * (7 + (xmax 1 (xmin 21 x2))).toNatClampNeg) + ((xmax 1 (xmin 8 x1)).toNatClampNeg + (xmax 1 (xmin 8 x1)).toNatClampNeg * (xmax 1 (xmin 21 x2)).toNatClampNeg) + ((xmax 1 (xmin 8 x1)).toNatClampNeg + (xmax 1 (xmin 8 x1)).toNatClampNeg * (xmax 1 (xmin 21 x2)).toNatClampNeg) + ((xmax 1 (xmin 8 x1)).toNatClampNeg + (xmax 1 (xmin 8 x1)).toNatClampNeg * 9) + ((xmax 1 (xmin 21 x2)).toNatClampNeg + (xmax 1 (xmin 21 x2)).toNatClampNeg * 9))) by (try dsimp only); omega) d_RR_init_149 (fun H hw => ?_)
  refine lv_dup S.1 S.2.1 d_RR_init_152 rfl ?_
  obtain ⟨w41, h42, hf⟩ := xb hf
  refine x_callIN (As := []) (rest := [.ref ((((((((z + 18) + 4) + 1 + (xmax 1 (xmin 8 x1)).toNatClampNeg) + 1 + (xmax 1 (xmin 8 x1)).toNatClampNeg) + 1 + (xmax 1 (xmin 8 x1)).toNatClampNeg) + 1 + (xmax 1 (xmin 8 x1)).toNatClampNeg) + 1 + (xmax 1 (xmin 21 x2)).toNatClampNeg) + 15), .int 0, .ref t39]) S hw (c_Law_init h42) ⟨va_cnB (host := "RosterRules") 0 S.2.2.2.2 gi_Law_init rfl rfl rfl (hw.1.2.2.1 _ wn_2_39) (S.2.2.2.2 _ wd_1_11) hi_Law_init ⟨Nat.le_of_ble_eq_true rfl, Nat.le_of_ble_eq_true rfl⟩, rfl, S.2.2.2.2 _ wd_2_40⟩ rfl hl.1 rfl (Nat.le_of_ble_eq_true rfl) d_RR_init_153 ⟨(show _ ≤ (281 + (4 + (1 + (xmax 1 (xmin 8 x1)).toNatClampNeg) + (1 + (xmax 1 (xmin 8 x1)).toNatClampNeg) + (1 + (xmax 1 (xmin 8 x1)).toNatClampNeg) + (1 + (xmax 1 (xmin 8 x1)).toNatClampNeg) + (1 + (xmax 1 (xmin 21 x2)).toNatClampNeg))) by (try dsimp only); omega), (show _ ≤ (23025 + (27 + (xmax 1 (xmin 8 x1)).toNatClampNeg + ((xmax 1 (xmin 8 x1)).toNatClampNeg + (xmax 1 (xmin 8 x1)).toNatClampNeg * (7 + (xmax 1 (xmin 21 x2))).toNatClampNeg) + ((xmax 1 (xmin 8 x1)).toNatClampNeg + (xmax 1 (xmin 8 x1)).toNatClampNeg * (xmax 1 (xmin 21 x2)).toNatClampNeg) + ((xmax 1 (xmin 8 x1)).toNatClampNeg + (xmax 1 (xmin 8 x1)).toNatClampNeg * (xmax 1 (xmin 21 x2)).toNatClampNeg) + ((xmax 1 (xmin 8 x1)).toNatClampNeg + (xmax 1 (xmin 8 x1)).toNatClampNeg * 9) + ((xmax 1 (xmin 21 x2)).toNatClampNeg + (xmax 1 (xmin 21 x2)).toNatClampNeg * 9))) by (try dsimp only); omega)⟩ (fun H locs hw => ?_)
  obtain ⟨w43, hw43, hf⟩ := xb hf
  refine x_aast S hw (t := 3) rfl rfl hw43 d_RR_init_156 (fun H locs hw => ?_)
  refine lv_iinc (v := 1) (lv' := [(3, .int 1), (0, .ref a0), (1, .int x1), (2, .int x2)]) S.1 S.2.1 d_RR_init_157 hl (k := 0) rfl rfl (by decide) rfl (fun ls hl => ?_)
  refine lv_goto (tgt := 125) S.1 S.2.1 d_RR_init_160 (by decide) ?_
  refine lv_iload_n S.1 S.2.1 d_RR_init_125 rfl (lv_at hl 0 rfl) ?_
  refine lv_bipush (v := 16) S.1 S.2.1 d_RR_init_126 (by decide) ?_
  refine lv_icmp_ge (tgt := 163) S.1 S.2.1 d_RR_init_128 (by decide) (fun c44 => absurd c44 (by decide)) (fun c44 => ?_)
  refine lv_aload_n S.1 S.2.1 d_RR_init_131 rfl (lv_at hl 1 rfl) ?_
  obtain ⟨t45, ht45, hf⟩ := xb hf
  refine x_getr S hw lk_RR_32 ht45 d_RR_init_132 ?_
  refine lv_iload_n S.1 S.2.1 d_RR_init_135 rfl (lv_at hl 0 rfl) ?_
  obtain ⟨w46, hw46, hf⟩ := xlb hf
  refine x_new S hw nw_RR_30 hw46 (show _ ≤ (281 + (4 + (1 + (xmax 1 (xmin 8 x1)).toNatClampNeg) + (1 + (xmax 1 (xmin 8 x1)).toNatClampNeg) + (1 + (xmax 1 (xmin 8 x1)).toNatClampNeg) + (1 + (xmax 1 (xmin 8 x1)).toNatClampNeg) + (1 + (xmax 1 (xmin 21 x2)).toNatClampNeg))) by (try dsimp only); omega) (show _ ≤ (23025 + (27 + (xmax 1 (xmin 8 x1)).toNatClampNeg + ((xmax 1 (xmin 8 x1)).toNatClampNeg + (xmax 1 (xmin 8 x1)).toNatClampNeg * (7 + (xmax 1 (xmin 21 x2))).toNatClampNeg) + ((xmax 1 (xmin 8 x1)).toNatClampNeg + (xmax 1 (xmin 8 x1)).toNatClampNeg * (xmax 1 (xmin 21 x2)).toNatClampNeg) + ((xmax 1 (xmin 8 x1)).toNatClampNeg + (xmax 1 (xmin 8 x1)).toNatClampNeg * (xmax 1 (xmin 21 x2)).toNatClampNeg) + ((xmax 1 (xmin 8 x1)).toNatClampNeg + (xmax 1 (xmin 8 x1)).toNatClampNeg * 9) + ((xmax 1 (xmin 21 x2)).toNatClampNeg + (xmax 1 (xmin 21 x2)).toNatClampNeg * 9))) by (try dsimp only); omega) d_RR_init_136 (fun H hw => ?_)
  refine lv_dup S.1 S.2.1 d_RR_init_139 rfl ?_
  obtain ⟨w47, h48, hf⟩ := xb hf
  refine x_callIN (As := []) (rest := [.ref ((((((((z + 18) + 4) + 1 + (xmax 1 (xmin 8 x1)).toNatClampNeg) + 1 + (xmax 1 (xmin 8 x1)).toNatClampNeg) + 1 + (xmax 1 (xmin 8 x1)).toNatClampNeg) + 1 + (xmax 1 (xmin 8 x1)).toNatClampNeg) + 1 + (xmax 1 (xmin 21 x2)).toNatClampNeg) + 23), .int 1, .ref t45]) S hw (c_Law_init h48) ⟨va_cnB (host := "RosterRules") 0 S.2.2.2.2 gi_Law_init rfl rfl rfl (hw.1.2.2.1 _ wn_2_39) (S.2.2.2.2 _ wd_1_11) hi_Law_init ⟨Nat.le_of_ble_eq_true rfl, Nat.le_of_ble_eq_true rfl⟩, rfl, S.2.2.2.2 _ wd_2_40⟩ rfl hl.1 rfl (Nat.le_of_ble_eq_true rfl) d_RR_init_140 ⟨(show _ ≤ (281 + (4 + (1 + (xmax 1 (xmin 8 x1)).toNatClampNeg) + (1 + (xmax 1 (xmin 8 x1)).toNatClampNeg) + (1 + (xmax 1 (xmin 8 x1)).toNatClampNeg) + (1 + (xmax 1 (xmin 8 x1)).toNatClampNeg) + (1 + (xmax 1 (xmin 21 x2)).toNatClampNeg))) by (try dsimp only); omega), (show _ ≤ (23025 + (27 + (xmax 1 (xmin 8 x1)).toNatClampNeg + ((xmax 1 (xmin 8 x1)).toNatClampNeg + (xmax 1 (xmin 8 x1)).toNatClampNeg * (7 + (xmax 1 (xmin 21 x2))).toNatClampNeg) + ((xmax 1 (xmin 8 x1)).toNatClampNeg + (xmax 1 (xmin 8 x1)).toNatClampNeg * (xmax 1 (xmin 21 x2)).toNatClampNeg) + ((xmax 1 (xmin 8 x1)).toNatClampNeg + (xmax 1 (xmin 8 x1)).toNatClampNeg * (xmax 1 (xmin 21 x2)).toNatClampNeg) + ((xmax 1 (xmin 8 x1)).toNatClampNeg + (xmax 1 (xmin 8 x1)).toNatClampNeg * 9) + ((xmax 1 (xmin 21 x2)).toNatClampNeg + (xmax 1 (xmin 21 x2)).toNatClampNeg * 9))) by (try dsimp only); omega)⟩ (fun H locs hw => ?_)
  obtain ⟨w49, hw49, hf⟩ := xb hf
  refine x_aast S hw (t := 3) rfl rfl hw49 d_RR_init_143 (fun H locs hw => ?_)
  refine lv_aload_n S.1 S.2.1 d_RR_init_144 rfl (lv_at hl 1 rfl) ?_
  obtain ⟨t50, ht50, hf⟩ := xb hf
  refine x_getr S hw lk_RR_36 ht50 d_RR_init_145 ?_
  refine lv_iload_n S.1 S.2.1 d_RR_init_148 rfl (lv_at hl 0 rfl) ?_
  obtain ⟨w51, hw51, hf⟩ := xlb hf
  refine x_new S hw nw_RR_30 hw51 (show _ ≤ (281 + (4 + (1 + (xmax 1 (xmin 8 x1)).toNatClampNeg) + (1 + (xmax 1 (xmin 8 x1)).toNatClampNeg) + (1 + (xmax 1 (xmin 8 x1)).toNatClampNeg) + (1 + (xmax 1 (xmin 8 x1)).toNatClampNeg) + (1 + (xmax 1 (xmin 21 x2)).toNatClampNeg))) by (try dsimp only); omega) (show _ ≤ (23025 + (27 + (xmax 1 (xmin 8 x1)).toNatClampNeg + ((xmax 1 (xmin 8 x1)).toNatClampNeg + (xmax 1 (xmin 8 x1)).toNatClampNeg * (7 + (xmax 1 (xmin 21 x2))).toNatClampNeg) + ((xmax 1 (xmin 8 x1)).toNatClampNeg + (xmax 1 (xmin 8 x1)).toNatClampNeg * (xmax 1 (xmin 21 x2)).toNatClampNeg) + ((xmax 1 (xmin 8 x1)).toNatClampNeg + (xmax 1 (xmin 8 x1)).toNatClampNeg * (xmax 1 (xmin 21 x2)).toNatClampNeg) + ((xmax 1 (xmin 8 x1)).toNatClampNeg + (xmax 1 (xmin 8 x1)).toNatClampNeg * 9) + ((xmax 1 (xmin 21 x2)).toNatClampNeg + (xmax 1 (xmin 21 x2)).toNatClampNeg * 9))) by (try dsimp only); omega) d_RR_init_149 (fun H hw => ?_)
  refine lv_dup S.1 S.2.1 d_RR_init_152 rfl ?_
  obtain ⟨w52, h53, hf⟩ := xb hf
  refine x_callIN (As := []) (rest := [.ref ((((((((z + 18) + 4) + 1 + (xmax 1 (xmin 8 x1)).toNatClampNeg) + 1 + (xmax 1 (xmin 8 x1)).toNatClampNeg) + 1 + (xmax 1 (xmin 8 x1)).toNatClampNeg) + 1 + (xmax 1 (xmin 8 x1)).toNatClampNeg) + 1 + (xmax 1 (xmin 21 x2)).toNatClampNeg) + 31), .int 1, .ref t50]) S hw (c_Law_init h53) ⟨va_cnB (host := "RosterRules") 0 S.2.2.2.2 gi_Law_init rfl rfl rfl (hw.1.2.2.1 _ wn_2_39) (S.2.2.2.2 _ wd_1_11) hi_Law_init ⟨Nat.le_of_ble_eq_true rfl, Nat.le_of_ble_eq_true rfl⟩, rfl, S.2.2.2.2 _ wd_2_40⟩ rfl hl.1 rfl (Nat.le_of_ble_eq_true rfl) d_RR_init_153 ⟨(show _ ≤ (281 + (4 + (1 + (xmax 1 (xmin 8 x1)).toNatClampNeg) + (1 + (xmax 1 (xmin 8 x1)).toNatClampNeg) + (1 + (xmax 1 (xmin 8 x1)).toNatClampNeg) + (1 + (xmax 1 (xmin 8 x1)).toNatClampNeg) + (1 + (xmax 1 (xmin 21 x2)).toNatClampNeg))) by (try dsimp only); omega), (show _ ≤ (23025 + (27 + (xmax 1 (xmin 8 x1)).toNatClampNeg + ((xmax 1 (xmin 8 x1)).toNatClampNeg + (xmax 1 (xmin 8 x1)).toNatClampNeg * (7 + (xmax 1 (xmin 21 x2))).toNatClampNeg) + ((xmax 1 (xmin 8 x1)).toNatClampNeg + (xmax 1 (xmin 8 x1)).toNatClampNeg * (xmax 1 (xmin 21 x2)).toNatClampNeg) + ((xmax 1 (xmin 8 x1)).toNatClampNeg + (xmax 1 (xmin 8 x1)).toNatClampNeg * (xmax 1 (xmin 21 x2)).toNatClampNeg) + ((xmax 1 (xmin 8 x1)).toNatClampNeg + (xmax 1 (xmin 8 x1)).toNatClampNeg * 9) + ((xmax 1 (xmin 21 x2)).toNatClampNeg + (xmax 1 (xmin 21 x2)).toNatClampNeg * 9))) by (try dsimp only); omega)⟩ (fun H locs hw => ?_)
  obtain ⟨w54, hw54, hf⟩ := xb hf
  refine x_aast S hw (t := 3) rfl rfl hw54 d_RR_init_156 (fun H locs hw => ?_)
  refine lv_iinc (v := 2) (lv' := [(3, .int 2), (0, .ref a0), (1, .int x1), (2, .int x2)]) S.1 S.2.1 d_RR_init_157 hl (k := 0) rfl rfl (by decide) rfl (fun ls hl => ?_)
  refine lv_goto (tgt := 125) S.1 S.2.1 d_RR_init_160 (by decide) ?_
  refine lv_iload_n S.1 S.2.1 d_RR_init_125 rfl (lv_at hl 0 rfl) ?_
  refine lv_bipush (v := 16) S.1 S.2.1 d_RR_init_126 (by decide) ?_
  refine lv_icmp_ge (tgt := 163) S.1 S.2.1 d_RR_init_128 (by decide) (fun c55 => absurd c55 (by decide)) (fun c55 => ?_)
  refine lv_aload_n S.1 S.2.1 d_RR_init_131 rfl (lv_at hl 1 rfl) ?_
  obtain ⟨t56, ht56, hf⟩ := xb hf
  refine x_getr S hw lk_RR_32 ht56 d_RR_init_132 ?_
  refine lv_iload_n S.1 S.2.1 d_RR_init_135 rfl (lv_at hl 0 rfl) ?_
  obtain ⟨w57, hw57, hf⟩ := xlb hf
  refine x_new S hw nw_RR_30 hw57 (show _ ≤ (281 + (4 + (1 + (xmax 1 (xmin 8 x1)).toNatClampNeg) + (1 + (xmax 1 (xmin 8 x1)).toNatClampNeg) + (1 + (xmax 1 (xmin 8 x1)).toNatClampNeg) + (1 + (xmax 1 (xmin 8 x1)).toNatClampNeg) + (1 + (xmax 1 (xmin 21 x2)).toNatClampNeg))) by (try dsimp only); omega) (show _ ≤ (23025 + (27 + (xmax 1 (xmin 8 x1)).toNatClampNeg + ((xmax 1 (xmin 8 x1)).toNatClampNeg + (xmax 1 (xmin 8 x1)).toNatClampNeg * (7 + (xmax 1 (xmin 21 x2))).toNatClampNeg) + ((xmax 1 (xmin 8 x1)).toNatClampNeg + (xmax 1 (xmin 8 x1)).toNatClampNeg * (xmax 1 (xmin 21 x2)).toNatClampNeg) + ((xmax 1 (xmin 8 x1)).toNatClampNeg + (xmax 1 (xmin 8 x1)).toNatClampNeg * (xmax 1 (xmin 21 x2)).toNatClampNeg) + ((xmax 1 (xmin 8 x1)).toNatClampNeg + (xmax 1 (xmin 8 x1)).toNatClampNeg * 9) + ((xmax 1 (xmin 21 x2)).toNatClampNeg + (xmax 1 (xmin 21 x2)).toNatClampNeg * 9))) by (try dsimp only); omega) d_RR_init_136 (fun H hw => ?_)
  refine lv_dup S.1 S.2.1 d_RR_init_139 rfl ?_
  obtain ⟨w58, h59, hf⟩ := xb hf
  refine x_callIN (As := []) (rest := [.ref ((((((((z + 18) + 4) + 1 + (xmax 1 (xmin 8 x1)).toNatClampNeg) + 1 + (xmax 1 (xmin 8 x1)).toNatClampNeg) + 1 + (xmax 1 (xmin 8 x1)).toNatClampNeg) + 1 + (xmax 1 (xmin 8 x1)).toNatClampNeg) + 1 + (xmax 1 (xmin 21 x2)).toNatClampNeg) + 39), .int 2, .ref t56]) S hw (c_Law_init h59) ⟨va_cnB (host := "RosterRules") 0 S.2.2.2.2 gi_Law_init rfl rfl rfl (hw.1.2.2.1 _ wn_2_39) (S.2.2.2.2 _ wd_1_11) hi_Law_init ⟨Nat.le_of_ble_eq_true rfl, Nat.le_of_ble_eq_true rfl⟩, rfl, S.2.2.2.2 _ wd_2_40⟩ rfl hl.1 rfl (Nat.le_of_ble_eq_true rfl) d_RR_init_140 ⟨(show _ ≤ (281 + (4 + (1 + (xmax 1 (xmin 8 x1)).toNatClampNeg) + (1 + (xmax 1 (xmin 8 x1)).toNatClampNeg) + (1 + (xmax 1 (xmin 8 x1)).toNatClampNeg) + (1 + (xmax 1 (xmin 8 x1)).toNatClampNeg) + (1 + (xmax 1 (xmin 21 x2)).toNatClampNeg))) by (try dsimp only); omega), (show _ ≤ (23025 + (27 + (xmax 1 (xmin 8 x1)).toNatClampNeg + ((xmax 1 (xmin 8 x1)).toNatClampNeg + (xmax 1 (xmin 8 x1)).toNatClampNeg * (7 + (xmax 1 (xmin 21 x2))).toNatClampNeg) + ((xmax 1 (xmin 8 x1)).toNatClampNeg + (xmax 1 (xmin 8 x1)).toNatClampNeg * (xmax 1 (xmin 21 x2)).toNatClampNeg) + ((xmax 1 (xmin 8 x1)).toNatClampNeg + (xmax 1 (xmin 8 x1)).toNatClampNeg * (xmax 1 (xmin 21 x2)).toNatClampNeg) + ((xmax 1 (xmin 8 x1)).toNatClampNeg + (xmax 1 (xmin 8 x1)).toNatClampNeg * 9) + ((xmax 1 (xmin 21 x2)).toNatClampNeg + (xmax 1 (xmin 21 x2)).toNatClampNeg * 9))) by (try dsimp only); omega)⟩ (fun H locs hw => ?_)
  obtain ⟨w60, hw60, hf⟩ := xb hf
  refine x_aast S hw (t := 3) rfl rfl hw60 d_RR_init_143 (fun H locs hw => ?_)
  refine lv_aload_n S.1 S.2.1 d_RR_init_144 rfl (lv_at hl 1 rfl) ?_
  obtain ⟨t61, ht61, hf⟩ := xb hf
  refine x_getr S hw lk_RR_36 ht61 d_RR_init_145 ?_
  refine lv_iload_n S.1 S.2.1 d_RR_init_148 rfl (lv_at hl 0 rfl) ?_
  obtain ⟨w62, hw62, hf⟩ := xlb hf
  refine x_new S hw nw_RR_30 hw62 (show _ ≤ (281 + (4 + (1 + (xmax 1 (xmin 8 x1)).toNatClampNeg) + (1 + (xmax 1 (xmin 8 x1)).toNatClampNeg) + (1 + (xmax 1 (xmin 8 x1)).toNatClampNeg) + (1 + (xmax 1 (xmin 8 x1)).toNatClampNeg) + (1 + (xmax 1 (xmin 21 x2)).toNatClampNeg))) by (try dsimp only); omega) (show _ ≤ (23025 + (27 + (xmax 1 (xmin 8 x1)).toNatClampNeg + ((xmax 1 (xmin 8 x1)).toNatClampNeg + (xmax 1 (xmin 8 x1)).toNatClampNeg * (7 + (xmax 1 (xmin 21 x2))).toNatClampNeg) + ((xmax 1 (xmin 8 x1)).toNatClampNeg + (xmax 1 (xmin 8 x1)).toNatClampNeg * (xmax 1 (xmin 21 x2)).toNatClampNeg) + ((xmax 1 (xmin 8 x1)).toNatClampNeg + (xmax 1 (xmin 8 x1)).toNatClampNeg * (xmax 1 (xmin 21 x2)).toNatClampNeg) + ((xmax 1 (xmin 8 x1)).toNatClampNeg + (xmax 1 (xmin 8 x1)).toNatClampNeg * 9) + ((xmax 1 (xmin 21 x2)).toNatClampNeg + (xmax 1 (xmin 21 x2)).toNatClampNeg * 9))) by (try dsimp only); omega) d_RR_init_149 (fun H hw => ?_)
  refine lv_dup S.1 S.2.1 d_RR_init_152 rfl ?_
  obtain ⟨w63, h64, hf⟩ := xb hf
  refine x_callIN (As := []) (rest := [.ref ((((((((z + 18) + 4) + 1 + (xmax 1 (xmin 8 x1)).toNatClampNeg) + 1 + (xmax 1 (xmin 8 x1)).toNatClampNeg) + 1 + (xmax 1 (xmin 8 x1)).toNatClampNeg) + 1 + (xmax 1 (xmin 8 x1)).toNatClampNeg) + 1 + (xmax 1 (xmin 21 x2)).toNatClampNeg) + 47), .int 2, .ref t61]) S hw (c_Law_init h64) ⟨va_cnB (host := "RosterRules") 0 S.2.2.2.2 gi_Law_init rfl rfl rfl (hw.1.2.2.1 _ wn_2_39) (S.2.2.2.2 _ wd_1_11) hi_Law_init ⟨Nat.le_of_ble_eq_true rfl, Nat.le_of_ble_eq_true rfl⟩, rfl, S.2.2.2.2 _ wd_2_40⟩ rfl hl.1 rfl (Nat.le_of_ble_eq_true rfl) d_RR_init_153 ⟨(show _ ≤ (281 + (4 + (1 + (xmax 1 (xmin 8 x1)).toNatClampNeg) + (1 + (xmax 1 (xmin 8 x1)).toNatClampNeg) + (1 + (xmax 1 (xmin 8 x1)).toNatClampNeg) + (1 + (xmax 1 (xmin 8 x1)).toNatClampNeg) + (1 + (xmax 1 (xmin 21 x2)).toNatClampNeg))) by (try dsimp only); omega), (show _ ≤ (23025 + (27 + (xmax 1 (xmin 8 x1)).toNatClampNeg + ((xmax 1 (xmin 8 x1)).toNatClampNeg + (xmax 1 (xmin 8 x1)).toNatClampNeg * (7 + (xmax 1 (xmin 21 x2))).toNatClampNeg) + ((xmax 1 (xmin 8 x1)).toNatClampNeg + (xmax 1 (xmin 8 x1)).toNatClampNeg * (xmax 1 (xmin 21 x2)).toNatClampNeg) + ((xmax 1 (xmin 8 x1)).toNatClampNeg + (xmax 1 (xmin 8 x1)).toNatClampNeg * (xmax 1 (xmin 21 x2)).toNatClampNeg) + ((xmax 1 (xmin 8 x1)).toNatClampNeg + (xmax 1 (xmin 8 x1)).toNatClampNeg * 9) + ((xmax 1 (xmin 21 x2)).toNatClampNeg + (xmax 1 (xmin 21 x2)).toNatClampNeg * 9))) by (try dsimp only); omega)⟩ (fun H locs hw => ?_)
  obtain ⟨w65, hw65, hf⟩ := xb hf
  refine x_aast S hw (t := 3) rfl rfl hw65 d_RR_init_156 (fun H locs hw => ?_)
  refine lv_iinc (v := 3) (lv' := [(3, .int 3), (0, .ref a0), (1, .int x1), (2, .int x2)]) S.1 S.2.1 d_RR_init_157 hl (k := 0) rfl rfl (by decide) rfl (fun ls hl => ?_)
  refine lv_goto (tgt := 125) S.1 S.2.1 d_RR_init_160 (by decide) ?_
  refine lv_iload_n S.1 S.2.1 d_RR_init_125 rfl (lv_at hl 0 rfl) ?_
  refine lv_bipush (v := 16) S.1 S.2.1 d_RR_init_126 (by decide) ?_
  refine lv_icmp_ge (tgt := 163) S.1 S.2.1 d_RR_init_128 (by decide) (fun c66 => absurd c66 (by decide)) (fun c66 => ?_)
  refine lv_aload_n S.1 S.2.1 d_RR_init_131 rfl (lv_at hl 1 rfl) ?_
  obtain ⟨t67, ht67, hf⟩ := xb hf
  refine x_getr S hw lk_RR_32 ht67 d_RR_init_132 ?_
  refine lv_iload_n S.1 S.2.1 d_RR_init_135 rfl (lv_at hl 0 rfl) ?_
  obtain ⟨w68, hw68, hf⟩ := xlb hf
  refine x_new S hw nw_RR_30 hw68 (show _ ≤ (281 + (4 + (1 + (xmax 1 (xmin 8 x1)).toNatClampNeg) + (1 + (xmax 1 (xmin 8 x1)).toNatClampNeg) + (1 + (xmax 1 (xmin 8 x1)).toNatClampNeg) + (1 + (xmax 1 (xmin 8 x1)).toNatClampNeg) + (1 + (xmax 1 (xmin 21 x2)).toNatClampNeg))) by (try dsimp only); omega) (show _ ≤ (23025 + (27 + (xmax 1 (xmin 8 x1)).toNatClampNeg + ((xmax 1 (xmin 8 x1)).toNatClampNeg + (xmax 1 (xmin 8 x1)).toNatClampNeg * (7 + (xmax 1 (xmin 21 x2))).toNatClampNeg) + ((xmax 1 (xmin 8 x1)).toNatClampNeg + (xmax 1 (xmin 8 x1)).toNatClampNeg * (xmax 1 (xmin 21 x2)).toNatClampNeg) + ((xmax 1 (xmin 8 x1)).toNatClampNeg + (xmax 1 (xmin 8 x1)).toNatClampNeg * (xmax 1 (xmin 21 x2)).toNatClampNeg) + ((xmax 1 (xmin 8 x1)).toNatClampNeg + (xmax 1 (xmin 8 x1)).toNatClampNeg * 9) + ((xmax 1 (xmin 21 x2)).toNatClampNeg + (xmax 1 (xmin 21 x2)).toNatClampNeg * 9))) by (try dsimp only); omega) d_RR_init_136 (fun H hw => ?_)
  refine lv_dup S.1 S.2.1 d_RR_init_139 rfl ?_
  obtain ⟨w69, h70, hf⟩ := xb hf
  refine x_callIN (As := []) (rest := [.ref ((((((((z + 18) + 4) + 1 + (xmax 1 (xmin 8 x1)).toNatClampNeg) + 1 + (xmax 1 (xmin 8 x1)).toNatClampNeg) + 1 + (xmax 1 (xmin 8 x1)).toNatClampNeg) + 1 + (xmax 1 (xmin 8 x1)).toNatClampNeg) + 1 + (xmax 1 (xmin 21 x2)).toNatClampNeg) + 55), .int 3, .ref t67]) S hw (c_Law_init h70) ⟨va_cnB (host := "RosterRules") 0 S.2.2.2.2 gi_Law_init rfl rfl rfl (hw.1.2.2.1 _ wn_2_39) (S.2.2.2.2 _ wd_1_11) hi_Law_init ⟨Nat.le_of_ble_eq_true rfl, Nat.le_of_ble_eq_true rfl⟩, rfl, S.2.2.2.2 _ wd_2_40⟩ rfl hl.1 rfl (Nat.le_of_ble_eq_true rfl) d_RR_init_140 ⟨(show _ ≤ (281 + (4 + (1 + (xmax 1 (xmin 8 x1)).toNatClampNeg) + (1 + (xmax 1 (xmin 8 x1)).toNatClampNeg) + (1 + (xmax 1 (xmin 8 x1)).toNatClampNeg) + (1 + (xmax 1 (xmin 8 x1)).toNatClampNeg) + (1 + (xmax 1 (xmin 21 x2)).toNatClampNeg))) by (try dsimp only); omega), (show _ ≤ (23025 + (27 + (xmax 1 (xmin 8 x1)).toNatClampNeg + ((xmax 1 (xmin 8 x1)).toNatClampNeg + (xmax 1 (xmin 8 x1)).toNatClampNeg * (7 + (xmax 1 (xmin 21 x2))).toNatClampNeg) + ((xmax 1 (xmin 8 x1)).toNatClampNeg + (xmax 1 (xmin 8 x1)).toNatClampNeg * (xmax 1 (xmin 21 x2)).toNatClampNeg) + ((xmax 1 (xmin 8 x1)).toNatClampNeg + (xmax 1 (xmin 8 x1)).toNatClampNeg * (xmax 1 (xmin 21 x2)).toNatClampNeg) + ((xmax 1 (xmin 8 x1)).toNatClampNeg + (xmax 1 (xmin 8 x1)).toNatClampNeg * 9) + ((xmax 1 (xmin 21 x2)).toNatClampNeg + (xmax 1 (xmin 21 x2)).toNatClampNeg * 9))) by (try dsimp only); omega)⟩ (fun H locs hw => ?_)
  obtain ⟨w71, hw71, hf⟩ := xb hf
  refine x_aast S hw (t := 3) rfl rfl hw71 d_RR_init_143 (fun H locs hw => ?_)
  refine lv_aload_n S.1 S.2.1 d_RR_init_144 rfl (lv_at hl 1 rfl) ?_
  obtain ⟨t72, ht72, hf⟩ := xb hf
  refine x_getr S hw lk_RR_36 ht72 d_RR_init_145 ?_
  refine lv_iload_n S.1 S.2.1 d_RR_init_148 rfl (lv_at hl 0 rfl) ?_
  obtain ⟨w73, hw73, hf⟩ := xlb hf
  refine x_new S hw nw_RR_30 hw73 (show _ ≤ (281 + (4 + (1 + (xmax 1 (xmin 8 x1)).toNatClampNeg) + (1 + (xmax 1 (xmin 8 x1)).toNatClampNeg) + (1 + (xmax 1 (xmin 8 x1)).toNatClampNeg) + (1 + (xmax 1 (xmin 8 x1)).toNatClampNeg) + (1 + (xmax 1 (xmin 21 x2)).toNatClampNeg))) by (try dsimp only); omega) (show _ ≤ (23025 + (27 + (xmax 1 (xmin 8 x1)).toNatClampNeg + ((xmax 1 (xmin 8 x1)).toNatClampNeg + (xmax 1 (xmin 8 x1)).toNatClampNeg * (7 + (xmax 1 (xmin 21 x2))).toNatClampNeg) + ((xmax 1 (xmin 8 x1)).toNatClampNeg + (xmax 1 (xmin 8 x1)).toNatClampNeg * (xmax 1 (xmin 21 x2)).toNatClampNeg) + ((xmax 1 (xmin 8 x1)).toNatClampNeg + (xmax 1 (xmin 8 x1)).toNatClampNeg * (xmax 1 (xmin 21 x2)).toNatClampNeg) + ((xmax 1 (xmin 8 x1)).toNatClampNeg + (xmax 1 (xmin 8 x1)).toNatClampNeg * 9) + ((xmax 1 (xmin 21 x2)).toNatClampNeg + (xmax 1 (xmin 21 x2)).toNatClampNeg * 9))) by (try dsimp only); omega) d_RR_init_149 (fun H hw => ?_)
  refine lv_dup S.1 S.2.1 d_RR_init_152 rfl ?_
  obtain ⟨w74, h75, hf⟩ := xb hf
  refine x_callIN (As := []) (rest := [.ref ((((((((z + 18) + 4) + 1 + (xmax 1 (xmin 8 x1)).toNatClampNeg) + 1 + (xmax 1 (xmin 8 x1)).toNatClampNeg) + 1 + (xmax 1 (xmin 8 x1)).toNatClampNeg) + 1 + (xmax 1 (xmin 8 x1)).toNatClampNeg) + 1 + (xmax 1 (xmin 21 x2)).toNatClampNeg) + 63), .int 3, .ref t72]) S hw (c_Law_init h75) ⟨va_cnB (host := "RosterRules") 0 S.2.2.2.2 gi_Law_init rfl rfl rfl (hw.1.2.2.1 _ wn_2_39) (S.2.2.2.2 _ wd_1_11) hi_Law_init ⟨Nat.le_of_ble_eq_true rfl, Nat.le_of_ble_eq_true rfl⟩, rfl, S.2.2.2.2 _ wd_2_40⟩ rfl hl.1 rfl (Nat.le_of_ble_eq_true rfl) d_RR_init_153 ⟨(show _ ≤ (281 + (4 + (1 + (xmax 1 (xmin 8 x1)).toNatClampNeg) + (1 + (xmax 1 (xmin 8 x1)).toNatClampNeg) + (1 + (xmax 1 (xmin 8 x1)).toNatClampNeg) + (1 + (xmax 1 (xmin 8 x1)).toNatClampNeg) + (1 + (xmax 1 (xmin 21 x2)).toNatClampNeg))) by (try dsimp only); omega), (show _ ≤ (23025 + (27 + (xmax 1 (xmin 8 x1)).toNatClampNeg + ((xmax 1 (xmin 8 x1)).toNatClampNeg + (xmax 1 (xmin 8 x1)).toNatClampNeg * (7 + (xmax 1 (xmin 21 x2))).toNatClampNeg) + ((xmax 1 (xmin 8 x1)).toNatClampNeg + (xmax 1 (xmin 8 x1)).toNatClampNeg * (xmax 1 (xmin 21 x2)).toNatClampNeg) + ((xmax 1 (xmin 8 x1)).toNatClampNeg + (xmax 1 (xmin 8 x1)).toNatClampNeg * (xmax 1 (xmin 21 x2)).toNatClampNeg) + ((xmax 1 (xmin 8 x1)).toNatClampNeg + (xmax 1 (xmin 8 x1)).toNatClampNeg * 9) + ((xmax 1 (xmin 21 x2)).toNatClampNeg + (xmax 1 (xmin 21 x2)).toNatClampNeg * 9))) by (try dsimp only); omega)⟩ (fun H locs hw => ?_)
  obtain ⟨w76, hw76, hf⟩ := xb hf
  refine x_aast S hw (t := 3) rfl rfl hw76 d_RR_init_156 (fun H locs hw => ?_)
  refine lv_iinc (v := 4) (lv' := [(3, .int 4), (0, .ref a0), (1, .int x1), (2, .int x2)]) S.1 S.2.1 d_RR_init_157 hl (k := 0) rfl rfl (by decide) rfl (fun ls hl => ?_)
  refine lv_goto (tgt := 125) S.1 S.2.1 d_RR_init_160 (by decide) ?_
  refine lv_iload_n S.1 S.2.1 d_RR_init_125 rfl (lv_at hl 0 rfl) ?_
  refine lv_bipush (v := 16) S.1 S.2.1 d_RR_init_126 (by decide) ?_
  refine lv_icmp_ge (tgt := 163) S.1 S.2.1 d_RR_init_128 (by decide) (fun c77 => absurd c77 (by decide)) (fun c77 => ?_)
  refine lv_aload_n S.1 S.2.1 d_RR_init_131 rfl (lv_at hl 1 rfl) ?_
  obtain ⟨t78, ht78, hf⟩ := xb hf
  refine x_getr S hw lk_RR_32 ht78 d_RR_init_132 ?_
  refine lv_iload_n S.1 S.2.1 d_RR_init_135 rfl (lv_at hl 0 rfl) ?_
  obtain ⟨w79, hw79, hf⟩ := xlb hf
  refine x_new S hw nw_RR_30 hw79 (show _ ≤ (281 + (4 + (1 + (xmax 1 (xmin 8 x1)).toNatClampNeg) + (1 + (xmax 1 (xmin 8 x1)).toNatClampNeg) + (1 + (xmax 1 (xmin 8 x1)).toNatClampNeg) + (1 + (xmax 1 (xmin 8 x1)).toNatClampNeg) + (1 + (xmax 1 (xmin 21 x2)).toNatClampNeg))) by (try dsimp only); omega) (show _ ≤ (23025 + (27 + (xmax 1 (xmin 8 x1)).toNatClampNeg + ((xmax 1 (xmin 8 x1)).toNatClampNeg + (xmax 1 (xmin 8 x1)).toNatClampNeg * (7 + (xmax 1 (xmin 21 x2))).toNatClampNeg) + ((xmax 1 (xmin 8 x1)).toNatClampNeg + (xmax 1 (xmin 8 x1)).toNatClampNeg * (xmax 1 (xmin 21 x2)).toNatClampNeg) + ((xmax 1 (xmin 8 x1)).toNatClampNeg + (xmax 1 (xmin 8 x1)).toNatClampNeg * (xmax 1 (xmin 21 x2)).toNatClampNeg) + ((xmax 1 (xmin 8 x1)).toNatClampNeg + (xmax 1 (xmin 8 x1)).toNatClampNeg * 9) + ((xmax 1 (xmin 21 x2)).toNatClampNeg + (xmax 1 (xmin 21 x2)).toNatClampNeg * 9))) by (try dsimp only); omega) d_RR_init_136 (fun H hw => ?_)
  refine lv_dup S.1 S.2.1 d_RR_init_139 rfl ?_
  obtain ⟨w80, h81, hf⟩ := xb hf
  refine x_callIN (As := []) (rest := [.ref ((((((((z + 18) + 4) + 1 + (xmax 1 (xmin 8 x1)).toNatClampNeg) + 1 + (xmax 1 (xmin 8 x1)).toNatClampNeg) + 1 + (xmax 1 (xmin 8 x1)).toNatClampNeg) + 1 + (xmax 1 (xmin 8 x1)).toNatClampNeg) + 1 + (xmax 1 (xmin 21 x2)).toNatClampNeg) + 71), .int 4, .ref t78]) S hw (c_Law_init h81) ⟨va_cnB (host := "RosterRules") 0 S.2.2.2.2 gi_Law_init rfl rfl rfl (hw.1.2.2.1 _ wn_2_39) (S.2.2.2.2 _ wd_1_11) hi_Law_init ⟨Nat.le_of_ble_eq_true rfl, Nat.le_of_ble_eq_true rfl⟩, rfl, S.2.2.2.2 _ wd_2_40⟩ rfl hl.1 rfl (Nat.le_of_ble_eq_true rfl) d_RR_init_140 ⟨(show _ ≤ (281 + (4 + (1 + (xmax 1 (xmin 8 x1)).toNatClampNeg) + (1 + (xmax 1 (xmin 8 x1)).toNatClampNeg) + (1 + (xmax 1 (xmin 8 x1)).toNatClampNeg) + (1 + (xmax 1 (xmin 8 x1)).toNatClampNeg) + (1 + (xmax 1 (xmin 21 x2)).toNatClampNeg))) by (try dsimp only); omega), (show _ ≤ (23025 + (27 + (xmax 1 (xmin 8 x1)).toNatClampNeg + ((xmax 1 (xmin 8 x1)).toNatClampNeg + (xmax 1 (xmin 8 x1)).toNatClampNeg * (7 + (xmax 1 (xmin 21 x2))).toNatClampNeg) + ((xmax 1 (xmin 8 x1)).toNatClampNeg + (xmax 1 (xmin 8 x1)).toNatClampNeg * (xmax 1 (xmin 21 x2)).toNatClampNeg) + ((xmax 1 (xmin 8 x1)).toNatClampNeg + (xmax 1 (xmin 8 x1)).toNatClampNeg * (xmax 1 (xmin 21 x2)).toNatClampNeg) + ((xmax 1 (xmin 8 x1)).toNatClampNeg + (xmax 1 (xmin 8 x1)).toNatClampNeg * 9) + ((xmax 1 (xmin 21 x2)).toNatClampNeg + (xmax 1 (xmin 21 x2)).toNatClampNeg * 9))) by (try dsimp only); omega)⟩ (fun H locs hw => ?_)
  obtain ⟨w82, hw82, hf⟩ := xb hf
  refine x_aast S hw (t := 3) rfl rfl hw82 d_RR_init_143 (fun H locs hw => ?_)
  refine lv_aload_n S.1 S.2.1 d_RR_init_144 rfl (lv_at hl 1 rfl) ?_
  obtain ⟨t83, ht83, hf⟩ := xb hf
  refine x_getr S hw lk_RR_36 ht83 d_RR_init_145 ?_
  refine lv_iload_n S.1 S.2.1 d_RR_init_148 rfl (lv_at hl 0 rfl) ?_
  obtain ⟨w84, hw84, hf⟩ := xlb hf
  refine x_new S hw nw_RR_30 hw84 (show _ ≤ (281 + (4 + (1 + (xmax 1 (xmin 8 x1)).toNatClampNeg) + (1 + (xmax 1 (xmin 8 x1)).toNatClampNeg) + (1 + (xmax 1 (xmin 8 x1)).toNatClampNeg) + (1 + (xmax 1 (xmin 8 x1)).toNatClampNeg) + (1 + (xmax 1 (xmin 21 x2)).toNatClampNeg))) by (try dsimp only); omega) (show _ ≤ (23025 + (27 + (xmax 1 (xmin 8 x1)).toNatClampNeg + ((xmax 1 (xmin 8 x1)).toNatClampNeg + (xmax 1 (xmin 8 x1)).toNatClampNeg * (7 + (xmax 1 (xmin 21 x2))).toNatClampNeg) + ((xmax 1 (xmin 8 x1)).toNatClampNeg + (xmax 1 (xmin 8 x1)).toNatClampNeg * (xmax 1 (xmin 21 x2)).toNatClampNeg) + ((xmax 1 (xmin 8 x1)).toNatClampNeg + (xmax 1 (xmin 8 x1)).toNatClampNeg * (xmax 1 (xmin 21 x2)).toNatClampNeg) + ((xmax 1 (xmin 8 x1)).toNatClampNeg + (xmax 1 (xmin 8 x1)).toNatClampNeg * 9) + ((xmax 1 (xmin 21 x2)).toNatClampNeg + (xmax 1 (xmin 21 x2)).toNatClampNeg * 9))) by (try dsimp only); omega) d_RR_init_149 (fun H hw => ?_)
  refine lv_dup S.1 S.2.1 d_RR_init_152 rfl ?_
  obtain ⟨w85, h86, hf⟩ := xb hf
  refine x_callIN (As := []) (rest := [.ref ((((((((z + 18) + 4) + 1 + (xmax 1 (xmin 8 x1)).toNatClampNeg) + 1 + (xmax 1 (xmin 8 x1)).toNatClampNeg) + 1 + (xmax 1 (xmin 8 x1)).toNatClampNeg) + 1 + (xmax 1 (xmin 8 x1)).toNatClampNeg) + 1 + (xmax 1 (xmin 21 x2)).toNatClampNeg) + 79), .int 4, .ref t83]) S hw (c_Law_init h86) ⟨va_cnB (host := "RosterRules") 0 S.2.2.2.2 gi_Law_init rfl rfl rfl (hw.1.2.2.1 _ wn_2_39) (S.2.2.2.2 _ wd_1_11) hi_Law_init ⟨Nat.le_of_ble_eq_true rfl, Nat.le_of_ble_eq_true rfl⟩, rfl, S.2.2.2.2 _ wd_2_40⟩ rfl hl.1 rfl (Nat.le_of_ble_eq_true rfl) d_RR_init_153 ⟨(show _ ≤ (281 + (4 + (1 + (xmax 1 (xmin 8 x1)).toNatClampNeg) + (1 + (xmax 1 (xmin 8 x1)).toNatClampNeg) + (1 + (xmax 1 (xmin 8 x1)).toNatClampNeg) + (1 + (xmax 1 (xmin 8 x1)).toNatClampNeg) + (1 + (xmax 1 (xmin 21 x2)).toNatClampNeg))) by (try dsimp only); omega), (show _ ≤ (23025 + (27 + (xmax 1 (xmin 8 x1)).toNatClampNeg + ((xmax 1 (xmin 8 x1)).toNatClampNeg + (xmax 1 (xmin 8 x1)).toNatClampNeg * (7 + (xmax 1 (xmin 21 x2))).toNatClampNeg) + ((xmax 1 (xmin 8 x1)).toNatClampNeg + (xmax 1 (xmin 8 x1)).toNatClampNeg * (xmax 1 (xmin 21 x2)).toNatClampNeg) + ((xmax 1 (xmin 8 x1)).toNatClampNeg + (xmax 1 (xmin 8 x1)).toNatClampNeg * (xmax 1 (xmin 21 x2)).toNatClampNeg) + ((xmax 1 (xmin 8 x1)).toNatClampNeg + (xmax 1 (xmin 8 x1)).toNatClampNeg * 9) + ((xmax 1 (xmin 21 x2)).toNatClampNeg + (xmax 1 (xmin 21 x2)).toNatClampNeg * 9))) by (try dsimp only); omega)⟩ (fun H locs hw => ?_)
  obtain ⟨w87, hw87, hf⟩ := xb hf
  refine x_aast S hw (t := 3) rfl rfl hw87 d_RR_init_156 (fun H locs hw => ?_)
  refine lv_iinc (v := 5) (lv' := [(3, .int 5), (0, .ref a0), (1, .int x1), (2, .int x2)]) S.1 S.2.1 d_RR_init_157 hl (k := 0) rfl rfl (by decide) rfl (fun ls hl => ?_)
  refine lv_goto (tgt := 125) S.1 S.2.1 d_RR_init_160 (by decide) ?_
  refine lv_iload_n S.1 S.2.1 d_RR_init_125 rfl (lv_at hl 0 rfl) ?_
  refine lv_bipush (v := 16) S.1 S.2.1 d_RR_init_126 (by decide) ?_
  refine lv_icmp_ge (tgt := 163) S.1 S.2.1 d_RR_init_128 (by decide) (fun c88 => absurd c88 (by decide)) (fun c88 => ?_)
  refine lv_aload_n S.1 S.2.1 d_RR_init_131 rfl (lv_at hl 1 rfl) ?_
  obtain ⟨t89, ht89, hf⟩ := xb hf
  refine x_getr S hw lk_RR_32 ht89 d_RR_init_132 ?_
  refine lv_iload_n S.1 S.2.1 d_RR_init_135 rfl (lv_at hl 0 rfl) ?_
  obtain ⟨w90, hw90, hf⟩ := xlb hf
  refine x_new S hw nw_RR_30 hw90 (show _ ≤ (281 + (4 + (1 + (xmax 1 (xmin 8 x1)).toNatClampNeg) + (1 + (xmax 1 (xmin 8 x1)).toNatClampNeg) + (1 + (xmax 1 (xmin 8 x1)).toNatClampNeg) + (1 + (xmax 1 (xmin 8 x1)).toNatClampNeg) + (1 + (xmax 1 (xmin 21 x2)).toNatClampNeg))) by (try dsimp only); omega) (show _ ≤ (23025 + (27 + (xmax 1 (xmin 8 x1)).toNatClampNeg + ((xmax 1 (xmin 8 x1)).toNatClampNeg + (xmax 1 (xmin 8 x1)).toNatClampNeg * (7 + (xmax 1 (xmin 21 x2))).toNatClampNeg) + ((xmax 1 (xmin 8 x1)).toNatClampNeg + (xmax 1 (xmin 8 x1)).toNatClampNeg * (xmax 1 (xmin 21 x2)).toNatClampNeg) + ((xmax 1 (xmin 8 x1)).toNatClampNeg + (xmax 1 (xmin 8 x1)).toNatClampNeg * (xmax 1 (xmin 21 x2)).toNatClampNeg) + ((xmax 1 (xmin 8 x1)).toNatClampNeg + (xmax 1 (xmin 8 x1)).toNatClampNeg * 9) + ((xmax 1 (xmin 21 x2)).toNatClampNeg + (xmax 1 (xmin 21 x2)).toNatClampNeg * 9))) by (try dsimp only); omega) d_RR_init_136 (fun H hw => ?_)
  refine lv_dup S.1 S.2.1 d_RR_init_139 rfl ?_
  obtain ⟨w91, h92, hf⟩ := xb hf
  refine x_callIN (As := []) (rest := [.ref ((((((((z + 18) + 4) + 1 + (xmax 1 (xmin 8 x1)).toNatClampNeg) + 1 + (xmax 1 (xmin 8 x1)).toNatClampNeg) + 1 + (xmax 1 (xmin 8 x1)).toNatClampNeg) + 1 + (xmax 1 (xmin 8 x1)).toNatClampNeg) + 1 + (xmax 1 (xmin 21 x2)).toNatClampNeg) + 87), .int 5, .ref t89]) S hw (c_Law_init h92) ⟨va_cnB (host := "RosterRules") 0 S.2.2.2.2 gi_Law_init rfl rfl rfl (hw.1.2.2.1 _ wn_2_39) (S.2.2.2.2 _ wd_1_11) hi_Law_init ⟨Nat.le_of_ble_eq_true rfl, Nat.le_of_ble_eq_true rfl⟩, rfl, S.2.2.2.2 _ wd_2_40⟩ rfl hl.1 rfl (Nat.le_of_ble_eq_true rfl) d_RR_init_140 ⟨(show _ ≤ (281 + (4 + (1 + (xmax 1 (xmin 8 x1)).toNatClampNeg) + (1 + (xmax 1 (xmin 8 x1)).toNatClampNeg) + (1 + (xmax 1 (xmin 8 x1)).toNatClampNeg) + (1 + (xmax 1 (xmin 8 x1)).toNatClampNeg) + (1 + (xmax 1 (xmin 21 x2)).toNatClampNeg))) by (try dsimp only); omega), (show _ ≤ (23025 + (27 + (xmax 1 (xmin 8 x1)).toNatClampNeg + ((xmax 1 (xmin 8 x1)).toNatClampNeg + (xmax 1 (xmin 8 x1)).toNatClampNeg * (7 + (xmax 1 (xmin 21 x2))).toNatClampNeg) + ((xmax 1 (xmin 8 x1)).toNatClampNeg + (xmax 1 (xmin 8 x1)).toNatClampNeg * (xmax 1 (xmin 21 x2)).toNatClampNeg) + ((xmax 1 (xmin 8 x1)).toNatClampNeg + (xmax 1 (xmin 8 x1)).toNatClampNeg * (xmax 1 (xmin 21 x2)).toNatClampNeg) + ((xmax 1 (xmin 8 x1)).toNatClampNeg + (xmax 1 (xmin 8 x1)).toNatClampNeg * 9) + ((xmax 1 (xmin 21 x2)).toNatClampNeg + (xmax 1 (xmin 21 x2)).toNatClampNeg * 9))) by (try dsimp only); omega)⟩ (fun H locs hw => ?_)
  obtain ⟨w93, hw93, hf⟩ := xb hf
  refine x_aast S hw (t := 3) rfl rfl hw93 d_RR_init_143 (fun H locs hw => ?_)
  refine lv_aload_n S.1 S.2.1 d_RR_init_144 rfl (lv_at hl 1 rfl) ?_
  obtain ⟨t94, ht94, hf⟩ := xb hf
  refine x_getr S hw lk_RR_36 ht94 d_RR_init_145 ?_
  refine lv_iload_n S.1 S.2.1 d_RR_init_148 rfl (lv_at hl 0 rfl) ?_
  obtain ⟨w95, hw95, hf⟩ := xlb hf
  refine x_new S hw nw_RR_30 hw95 (show _ ≤ (281 + (4 + (1 + (xmax 1 (xmin 8 x1)).toNatClampNeg) + (1 + (xmax 1 (xmin 8 x1)).toNatClampNeg) + (1 + (xmax 1 (xmin 8 x1)).toNatClampNeg) + (1 + (xmax 1 (xmin 8 x1)).toNatClampNeg) + (1 + (xmax 1 (xmin 21 x2)).toNatClampNeg))) by (try dsimp only); omega) (show _ ≤ (23025 + (27 + (xmax 1 (xmin 8 x1)).toNatClampNeg + ((xmax 1 (xmin 8 x1)).toNatClampNeg + (xmax 1 (xmin 8 x1)).toNatClampNeg * (7 + (xmax 1 (xmin 21 x2))).toNatClampNeg) + ((xmax 1 (xmin 8 x1)).toNatClampNeg + (xmax 1 (xmin 8 x1)).toNatClampNeg * (xmax 1 (xmin 21 x2)).toNatClampNeg) + ((xmax 1 (xmin 8 x1)).toNatClampNeg + (xmax 1 (xmin 8 x1)).toNatClampNeg * (xmax 1 (xmin 21 x2)).toNatClampNeg) + ((xmax 1 (xmin 8 x1)).toNatClampNeg + (xmax 1 (xmin 8 x1)).toNatClampNeg * 9) + ((xmax 1 (xmin 21 x2)).toNatClampNeg + (xmax 1 (xmin 21 x2)).toNatClampNeg * 9))) by (try dsimp only); omega) d_RR_init_149 (fun H hw => ?_)
  refine lv_dup S.1 S.2.1 d_RR_init_152 rfl ?_
  obtain ⟨w96, h97, hf⟩ := xb hf
  refine x_callIN (As := []) (rest := [.ref ((((((((z + 18) + 4) + 1 + (xmax 1 (xmin 8 x1)).toNatClampNeg) + 1 + (xmax 1 (xmin 8 x1)).toNatClampNeg) + 1 + (xmax 1 (xmin 8 x1)).toNatClampNeg) + 1 + (xmax 1 (xmin 8 x1)).toNatClampNeg) + 1 + (xmax 1 (xmin 21 x2)).toNatClampNeg) + 95), .int 5, .ref t94]) S hw (c_Law_init h97) ⟨va_cnB (host := "RosterRules") 0 S.2.2.2.2 gi_Law_init rfl rfl rfl (hw.1.2.2.1 _ wn_2_39) (S.2.2.2.2 _ wd_1_11) hi_Law_init ⟨Nat.le_of_ble_eq_true rfl, Nat.le_of_ble_eq_true rfl⟩, rfl, S.2.2.2.2 _ wd_2_40⟩ rfl hl.1 rfl (Nat.le_of_ble_eq_true rfl) d_RR_init_153 ⟨(show _ ≤ (281 + (4 + (1 + (xmax 1 (xmin 8 x1)).toNatClampNeg) + (1 + (xmax 1 (xmin 8 x1)).toNatClampNeg) + (1 + (xmax 1 (xmin 8 x1)).toNatClampNeg) + (1 + (xmax 1 (xmin 8 x1)).toNatClampNeg) + (1 + (xmax 1 (xmin 21 x2)).toNatClampNeg))) by (try dsimp only); omega), (show _ ≤ (23025 + (27 + (xmax 1 (xmin 8 x1)).toNatClampNeg + ((xmax 1 (xmin 8 x1)).toNatClampNeg + (xmax 1 (xmin 8 x1)).toNatClampNeg * (7 + (xmax 1 (xmin 21 x2))).toNatClampNeg) + ((xmax 1 (xmin 8 x1)).toNatClampNeg + (xmax 1 (xmin 8 x1)).toNatClampNeg * (xmax 1 (xmin 21 x2)).toNatClampNeg) + ((xmax 1 (xmin 8 x1)).toNatClampNeg + (xmax 1 (xmin 8 x1)).toNatClampNeg * (xmax 1 (xmin 21 x2)).toNatClampNeg) + ((xmax 1 (xmin 8 x1)).toNatClampNeg + (xmax 1 (xmin 8 x1)).toNatClampNeg * 9) + ((xmax 1 (xmin 21 x2)).toNatClampNeg + (xmax 1 (xmin 21 x2)).toNatClampNeg * 9))) by (try dsimp only); omega)⟩ (fun H locs hw => ?_)
  obtain ⟨w98, hw98, hf⟩ := xb hf
  refine x_aast S hw (t := 3) rfl rfl hw98 d_RR_init_156 (fun H locs hw => ?_)
  refine lv_iinc (v := 6) (lv' := [(3, .int 6), (0, .ref a0), (1, .int x1), (2, .int x2)]) S.1 S.2.1 d_RR_init_157 hl (k := 0) rfl rfl (by decide) rfl (fun ls hl => ?_)
  refine lv_goto (tgt := 125) S.1 S.2.1 d_RR_init_160 (by decide) ?_
  refine lv_iload_n S.1 S.2.1 d_RR_init_125 rfl (lv_at hl 0 rfl) ?_
  refine lv_bipush (v := 16) S.1 S.2.1 d_RR_init_126 (by decide) ?_
  refine lv_icmp_ge (tgt := 163) S.1 S.2.1 d_RR_init_128 (by decide) (fun c99 => absurd c99 (by decide)) (fun c99 => ?_)
  refine lv_aload_n S.1 S.2.1 d_RR_init_131 rfl (lv_at hl 1 rfl) ?_
  obtain ⟨t100, ht100, hf⟩ := xb hf
  refine x_getr S hw lk_RR_32 ht100 d_RR_init_132 ?_
  refine lv_iload_n S.1 S.2.1 d_RR_init_135 rfl (lv_at hl 0 rfl) ?_
  obtain ⟨w101, hw101, hf⟩ := xlb hf
  refine x_new S hw nw_RR_30 hw101 (show _ ≤ (281 + (4 + (1 + (xmax 1 (xmin 8 x1)).toNatClampNeg) + (1 + (xmax 1 (xmin 8 x1)).toNatClampNeg) + (1 + (xmax 1 (xmin 8 x1)).toNatClampNeg) + (1 + (xmax 1 (xmin 8 x1)).toNatClampNeg) + (1 + (xmax 1 (xmin 21 x2)).toNatClampNeg))) by (try dsimp only); omega) (show _ ≤ (23025 + (27 + (xmax 1 (xmin 8 x1)).toNatClampNeg + ((xmax 1 (xmin 8 x1)).toNatClampNeg + (xmax 1 (xmin 8 x1)).toNatClampNeg * (7 + (xmax 1 (xmin 21 x2))).toNatClampNeg) + ((xmax 1 (xmin 8 x1)).toNatClampNeg + (xmax 1 (xmin 8 x1)).toNatClampNeg * (xmax 1 (xmin 21 x2)).toNatClampNeg) + ((xmax 1 (xmin 8 x1)).toNatClampNeg + (xmax 1 (xmin 8 x1)).toNatClampNeg * (xmax 1 (xmin 21 x2)).toNatClampNeg) + ((xmax 1 (xmin 8 x1)).toNatClampNeg + (xmax 1 (xmin 8 x1)).toNatClampNeg * 9) + ((xmax 1 (xmin 21 x2)).toNatClampNeg + (xmax 1 (xmin 21 x2)).toNatClampNeg * 9))) by (try dsimp only); omega) d_RR_init_136 (fun H hw => ?_)
  refine lv_dup S.1 S.2.1 d_RR_init_139 rfl ?_
  obtain ⟨w102, h103, hf⟩ := xb hf
  refine x_callIN (As := []) (rest := [.ref ((((((((z + 18) + 4) + 1 + (xmax 1 (xmin 8 x1)).toNatClampNeg) + 1 + (xmax 1 (xmin 8 x1)).toNatClampNeg) + 1 + (xmax 1 (xmin 8 x1)).toNatClampNeg) + 1 + (xmax 1 (xmin 8 x1)).toNatClampNeg) + 1 + (xmax 1 (xmin 21 x2)).toNatClampNeg) + 103), .int 6, .ref t100]) S hw (c_Law_init h103) ⟨va_cnB (host := "RosterRules") 0 S.2.2.2.2 gi_Law_init rfl rfl rfl (hw.1.2.2.1 _ wn_2_39) (S.2.2.2.2 _ wd_1_11) hi_Law_init ⟨Nat.le_of_ble_eq_true rfl, Nat.le_of_ble_eq_true rfl⟩, rfl, S.2.2.2.2 _ wd_2_40⟩ rfl hl.1 rfl (Nat.le_of_ble_eq_true rfl) d_RR_init_140 ⟨(show _ ≤ (281 + (4 + (1 + (xmax 1 (xmin 8 x1)).toNatClampNeg) + (1 + (xmax 1 (xmin 8 x1)).toNatClampNeg) + (1 + (xmax 1 (xmin 8 x1)).toNatClampNeg) + (1 + (xmax 1 (xmin 8 x1)).toNatClampNeg) + (1 + (xmax 1 (xmin 21 x2)).toNatClampNeg))) by (try dsimp only); omega), (show _ ≤ (23025 + (27 + (xmax 1 (xmin 8 x1)).toNatClampNeg + ((xmax 1 (xmin 8 x1)).toNatClampNeg + (xmax 1 (xmin 8 x1)).toNatClampNeg * (7 + (xmax 1 (xmin 21 x2))).toNatClampNeg) + ((xmax 1 (xmin 8 x1)).toNatClampNeg + (xmax 1 (xmin 8 x1)).toNatClampNeg * (xmax 1 (xmin 21 x2)).toNatClampNeg) + ((xmax 1 (xmin 8 x1)).toNatClampNeg + (xmax 1 (xmin 8 x1)).toNatClampNeg * (xmax 1 (xmin 21 x2)).toNatClampNeg) + ((xmax 1 (xmin 8 x1)).toNatClampNeg + (xmax 1 (xmin 8 x1)).toNatClampNeg * 9) + ((xmax 1 (xmin 21 x2)).toNatClampNeg + (xmax 1 (xmin 21 x2)).toNatClampNeg * 9))) by (try dsimp only); omega)⟩ (fun H locs hw => ?_)
  obtain ⟨w104, hw104, hf⟩ := xb hf
  refine x_aast S hw (t := 3) rfl rfl hw104 d_RR_init_143 (fun H locs hw => ?_)
  refine lv_aload_n S.1 S.2.1 d_RR_init_144 rfl (lv_at hl 1 rfl) ?_
  obtain ⟨t105, ht105, hf⟩ := xb hf
  refine x_getr S hw lk_RR_36 ht105 d_RR_init_145 ?_
  refine lv_iload_n S.1 S.2.1 d_RR_init_148 rfl (lv_at hl 0 rfl) ?_
  obtain ⟨w106, hw106, hf⟩ := xlb hf
  refine x_new S hw nw_RR_30 hw106 (show _ ≤ (281 + (4 + (1 + (xmax 1 (xmin 8 x1)).toNatClampNeg) + (1 + (xmax 1 (xmin 8 x1)).toNatClampNeg) + (1 + (xmax 1 (xmin 8 x1)).toNatClampNeg) + (1 + (xmax 1 (xmin 8 x1)).toNatClampNeg) + (1 + (xmax 1 (xmin 21 x2)).toNatClampNeg))) by (try dsimp only); omega) (show _ ≤ (23025 + (27 + (xmax 1 (xmin 8 x1)).toNatClampNeg + ((xmax 1 (xmin 8 x1)).toNatClampNeg + (xmax 1 (xmin 8 x1)).toNatClampNeg * (7 + (xmax 1 (xmin 21 x2))).toNatClampNeg) + ((xmax 1 (xmin 8 x1)).toNatClampNeg + (xmax 1 (xmin 8 x1)).toNatClampNeg * (xmax 1 (xmin 21 x2)).toNatClampNeg) + ((xmax 1 (xmin 8 x1)).toNatClampNeg + (xmax 1 (xmin 8 x1)).toNatClampNeg * (xmax 1 (xmin 21 x2)).toNatClampNeg) + ((xmax 1 (xmin 8 x1)).toNatClampNeg + (xmax 1 (xmin 8 x1)).toNatClampNeg * 9) + ((xmax 1 (xmin 21 x2)).toNatClampNeg + (xmax 1 (xmin 21 x2)).toNatClampNeg * 9))) by (try dsimp only); omega) d_RR_init_149 (fun H hw => ?_)
  refine lv_dup S.1 S.2.1 d_RR_init_152 rfl ?_
  obtain ⟨w107, h108, hf⟩ := xb hf
  refine x_callIN (As := []) (rest := [.ref ((((((((z + 18) + 4) + 1 + (xmax 1 (xmin 8 x1)).toNatClampNeg) + 1 + (xmax 1 (xmin 8 x1)).toNatClampNeg) + 1 + (xmax 1 (xmin 8 x1)).toNatClampNeg) + 1 + (xmax 1 (xmin 8 x1)).toNatClampNeg) + 1 + (xmax 1 (xmin 21 x2)).toNatClampNeg) + 111), .int 6, .ref t105]) S hw (c_Law_init h108) ⟨va_cnB (host := "RosterRules") 0 S.2.2.2.2 gi_Law_init rfl rfl rfl (hw.1.2.2.1 _ wn_2_39) (S.2.2.2.2 _ wd_1_11) hi_Law_init ⟨Nat.le_of_ble_eq_true rfl, Nat.le_of_ble_eq_true rfl⟩, rfl, S.2.2.2.2 _ wd_2_40⟩ rfl hl.1 rfl (Nat.le_of_ble_eq_true rfl) d_RR_init_153 ⟨(show _ ≤ (281 + (4 + (1 + (xmax 1 (xmin 8 x1)).toNatClampNeg) + (1 + (xmax 1 (xmin 8 x1)).toNatClampNeg) + (1 + (xmax 1 (xmin 8 x1)).toNatClampNeg) + (1 + (xmax 1 (xmin 8 x1)).toNatClampNeg) + (1 + (xmax 1 (xmin 21 x2)).toNatClampNeg))) by (try dsimp only); omega), (show _ ≤ (23025 + (27 + (xmax 1 (xmin 8 x1)).toNatClampNeg + ((xmax 1 (xmin 8 x1)).toNatClampNeg + (xmax 1 (xmin 8 x1)).toNatClampNeg * (7 + (xmax 1 (xmin 21 x2))).toNatClampNeg) + ((xmax 1 (xmin 8 x1)).toNatClampNeg + (xmax 1 (xmin 8 x1)).toNatClampNeg * (xmax 1 (xmin 21 x2)).toNatClampNeg) + ((xmax 1 (xmin 8 x1)).toNatClampNeg + (xmax 1 (xmin 8 x1)).toNatClampNeg * (xmax 1 (xmin 21 x2)).toNatClampNeg) + ((xmax 1 (xmin 8 x1)).toNatClampNeg + (xmax 1 (xmin 8 x1)).toNatClampNeg * 9) + ((xmax 1 (xmin 21 x2)).toNatClampNeg + (xmax 1 (xmin 21 x2)).toNatClampNeg * 9))) by (try dsimp only); omega)⟩ (fun H locs hw => ?_)
  obtain ⟨w109, hw109, hf⟩ := xb hf
  refine x_aast S hw (t := 3) rfl rfl hw109 d_RR_init_156 (fun H locs hw => ?_)
  refine lv_iinc (v := 7) (lv' := [(3, .int 7), (0, .ref a0), (1, .int x1), (2, .int x2)]) S.1 S.2.1 d_RR_init_157 hl (k := 0) rfl rfl (by decide) rfl (fun ls hl => ?_)
  refine lv_goto (tgt := 125) S.1 S.2.1 d_RR_init_160 (by decide) ?_
  refine lv_iload_n S.1 S.2.1 d_RR_init_125 rfl (lv_at hl 0 rfl) ?_
  refine lv_bipush (v := 16) S.1 S.2.1 d_RR_init_126 (by decide) ?_
  refine lv_icmp_ge (tgt := 163) S.1 S.2.1 d_RR_init_128 (by decide) (fun c110 => absurd c110 (by decide)) (fun c110 => ?_)
  refine lv_aload_n S.1 S.2.1 d_RR_init_131 rfl (lv_at hl 1 rfl) ?_
  obtain ⟨t111, ht111, hf⟩ := xb hf
  refine x_getr S hw lk_RR_32 ht111 d_RR_init_132 ?_
  refine lv_iload_n S.1 S.2.1 d_RR_init_135 rfl (lv_at hl 0 rfl) ?_
  obtain ⟨w112, hw112, hf⟩ := xlb hf
  refine x_new S hw nw_RR_30 hw112 (show _ ≤ (281 + (4 + (1 + (xmax 1 (xmin 8 x1)).toNatClampNeg) + (1 + (xmax 1 (xmin 8 x1)).toNatClampNeg) + (1 + (xmax 1 (xmin 8 x1)).toNatClampNeg) + (1 + (xmax 1 (xmin 8 x1)).toNatClampNeg) + (1 + (xmax 1 (xmin 21 x2)).toNatClampNeg))) by (try dsimp only); omega) (show _ ≤ (23025 + (27 + (xmax 1 (xmin 8 x1)).toNatClampNeg + ((xmax 1 (xmin 8 x1)).toNatClampNeg + (xmax 1 (xmin 8 x1)).toNatClampNeg * (7 + (xmax 1 (xmin 21 x2))).toNatClampNeg) + ((xmax 1 (xmin 8 x1)).toNatClampNeg + (xmax 1 (xmin 8 x1)).toNatClampNeg * (xmax 1 (xmin 21 x2)).toNatClampNeg) + ((xmax 1 (xmin 8 x1)).toNatClampNeg + (xmax 1 (xmin 8 x1)).toNatClampNeg * (xmax 1 (xmin 21 x2)).toNatClampNeg) + ((xmax 1 (xmin 8 x1)).toNatClampNeg + (xmax 1 (xmin 8 x1)).toNatClampNeg * 9) + ((xmax 1 (xmin 21 x2)).toNatClampNeg + (xmax 1 (xmin 21 x2)).toNatClampNeg * 9))) by (try dsimp only); omega) d_RR_init_136 (fun H hw => ?_)
  refine lv_dup S.1 S.2.1 d_RR_init_139 rfl ?_
  obtain ⟨w113, h114, hf⟩ := xb hf
  refine x_callIN (As := []) (rest := [.ref ((((((((z + 18) + 4) + 1 + (xmax 1 (xmin 8 x1)).toNatClampNeg) + 1 + (xmax 1 (xmin 8 x1)).toNatClampNeg) + 1 + (xmax 1 (xmin 8 x1)).toNatClampNeg) + 1 + (xmax 1 (xmin 8 x1)).toNatClampNeg) + 1 + (xmax 1 (xmin 21 x2)).toNatClampNeg) + 119), .int 7, .ref t111]) S hw (c_Law_init h114) ⟨va_cnB (host := "RosterRules") 0 S.2.2.2.2 gi_Law_init rfl rfl rfl (hw.1.2.2.1 _ wn_2_39) (S.2.2.2.2 _ wd_1_11) hi_Law_init ⟨Nat.le_of_ble_eq_true rfl, Nat.le_of_ble_eq_true rfl⟩, rfl, S.2.2.2.2 _ wd_2_40⟩ rfl hl.1 rfl (Nat.le_of_ble_eq_true rfl) d_RR_init_140 ⟨(show _ ≤ (281 + (4 + (1 + (xmax 1 (xmin 8 x1)).toNatClampNeg) + (1 + (xmax 1 (xmin 8 x1)).toNatClampNeg) + (1 + (xmax 1 (xmin 8 x1)).toNatClampNeg) + (1 + (xmax 1 (xmin 8 x1)).toNatClampNeg) + (1 + (xmax 1 (xmin 21 x2)).toNatClampNeg))) by (try dsimp only); omega), (show _ ≤ (23025 + (27 + (xmax 1 (xmin 8 x1)).toNatClampNeg + ((xmax 1 (xmin 8 x1)).toNatClampNeg + (xmax 1 (xmin 8 x1)).toNatClampNeg * (7 + (xmax 1 (xmin 21 x2))).toNatClampNeg) + ((xmax 1 (xmin 8 x1)).toNatClampNeg + (xmax 1 (xmin 8 x1)).toNatClampNeg * (xmax 1 (xmin 21 x2)).toNatClampNeg) + ((xmax 1 (xmin 8 x1)).toNatClampNeg + (xmax 1 (xmin 8 x1)).toNatClampNeg * (xmax 1 (xmin 21 x2)).toNatClampNeg) + ((xmax 1 (xmin 8 x1)).toNatClampNeg + (xmax 1 (xmin 8 x1)).toNatClampNeg * 9) + ((xmax 1 (xmin 21 x2)).toNatClampNeg + (xmax 1 (xmin 21 x2)).toNatClampNeg * 9))) by (try dsimp only); omega)⟩ (fun H locs hw => ?_)
  obtain ⟨w115, hw115, hf⟩ := xb hf
  refine x_aast S hw (t := 3) rfl rfl hw115 d_RR_init_143 (fun H locs hw => ?_)
  refine lv_aload_n S.1 S.2.1 d_RR_init_144 rfl (lv_at hl 1 rfl) ?_
  obtain ⟨t116, ht116, hf⟩ := xb hf
  refine x_getr S hw lk_RR_36 ht116 d_RR_init_145 ?_
  refine lv_iload_n S.1 S.2.1 d_RR_init_148 rfl (lv_at hl 0 rfl) ?_
  obtain ⟨w117, hw117, hf⟩ := xlb hf
  refine x_new S hw nw_RR_30 hw117 (show _ ≤ (281 + (4 + (1 + (xmax 1 (xmin 8 x1)).toNatClampNeg) + (1 + (xmax 1 (xmin 8 x1)).toNatClampNeg) + (1 + (xmax 1 (xmin 8 x1)).toNatClampNeg) + (1 + (xmax 1 (xmin 8 x1)).toNatClampNeg) + (1 + (xmax 1 (xmin 21 x2)).toNatClampNeg))) by (try dsimp only); omega) (show _ ≤ (23025 + (27 + (xmax 1 (xmin 8 x1)).toNatClampNeg + ((xmax 1 (xmin 8 x1)).toNatClampNeg + (xmax 1 (xmin 8 x1)).toNatClampNeg * (7 + (xmax 1 (xmin 21 x2))).toNatClampNeg) + ((xmax 1 (xmin 8 x1)).toNatClampNeg + (xmax 1 (xmin 8 x1)).toNatClampNeg * (xmax 1 (xmin 21 x2)).toNatClampNeg) + ((xmax 1 (xmin 8 x1)).toNatClampNeg + (xmax 1 (xmin 8 x1)).toNatClampNeg * (xmax 1 (xmin 21 x2)).toNatClampNeg) + ((xmax 1 (xmin 8 x1)).toNatClampNeg + (xmax 1 (xmin 8 x1)).toNatClampNeg * 9) + ((xmax 1 (xmin 21 x2)).toNatClampNeg + (xmax 1 (xmin 21 x2)).toNatClampNeg * 9))) by (try dsimp only); omega) d_RR_init_149 (fun H hw => ?_)
  refine lv_dup S.1 S.2.1 d_RR_init_152 rfl ?_
  obtain ⟨w118, h119, hf⟩ := xb hf
  refine x_callIN (As := []) (rest := [.ref ((((((((z + 18) + 4) + 1 + (xmax 1 (xmin 8 x1)).toNatClampNeg) + 1 + (xmax 1 (xmin 8 x1)).toNatClampNeg) + 1 + (xmax 1 (xmin 8 x1)).toNatClampNeg) + 1 + (xmax 1 (xmin 8 x1)).toNatClampNeg) + 1 + (xmax 1 (xmin 21 x2)).toNatClampNeg) + 127), .int 7, .ref t116]) S hw (c_Law_init h119) ⟨va_cnB (host := "RosterRules") 0 S.2.2.2.2 gi_Law_init rfl rfl rfl (hw.1.2.2.1 _ wn_2_39) (S.2.2.2.2 _ wd_1_11) hi_Law_init ⟨Nat.le_of_ble_eq_true rfl, Nat.le_of_ble_eq_true rfl⟩, rfl, S.2.2.2.2 _ wd_2_40⟩ rfl hl.1 rfl (Nat.le_of_ble_eq_true rfl) d_RR_init_153 ⟨(show _ ≤ (281 + (4 + (1 + (xmax 1 (xmin 8 x1)).toNatClampNeg) + (1 + (xmax 1 (xmin 8 x1)).toNatClampNeg) + (1 + (xmax 1 (xmin 8 x1)).toNatClampNeg) + (1 + (xmax 1 (xmin 8 x1)).toNatClampNeg) + (1 + (xmax 1 (xmin 21 x2)).toNatClampNeg))) by (try dsimp only); omega), (show _ ≤ (23025 + (27 + (xmax 1 (xmin 8 x1)).toNatClampNeg + ((xmax 1 (xmin 8 x1)).toNatClampNeg + (xmax 1 (xmin 8 x1)).toNatClampNeg * (7 + (xmax 1 (xmin 21 x2))).toNatClampNeg) + ((xmax 1 (xmin 8 x1)).toNatClampNeg + (xmax 1 (xmin 8 x1)).toNatClampNeg * (xmax 1 (xmin 21 x2)).toNatClampNeg) + ((xmax 1 (xmin 8 x1)).toNatClampNeg + (xmax 1 (xmin 8 x1)).toNatClampNeg * (xmax 1 (xmin 21 x2)).toNatClampNeg) + ((xmax 1 (xmin 8 x1)).toNatClampNeg + (xmax 1 (xmin 8 x1)).toNatClampNeg * 9) + ((xmax 1 (xmin 21 x2)).toNatClampNeg + (xmax 1 (xmin 21 x2)).toNatClampNeg * 9))) by (try dsimp only); omega)⟩ (fun H locs hw => ?_)
  obtain ⟨w120, hw120, hf⟩ := xb hf
  refine x_aast S hw (t := 3) rfl rfl hw120 d_RR_init_156 (fun H locs hw => ?_)
  refine lv_iinc (v := 8) (lv' := [(3, .int 8), (0, .ref a0), (1, .int x1), (2, .int x2)]) S.1 S.2.1 d_RR_init_157 hl (k := 0) rfl rfl (by decide) rfl (fun ls hl => ?_)
  refine lv_goto (tgt := 125) S.1 S.2.1 d_RR_init_160 (by decide) ?_
  refine lv_iload_n S.1 S.2.1 d_RR_init_125 rfl (lv_at hl 0 rfl) ?_
  refine lv_bipush (v := 16) S.1 S.2.1 d_RR_init_126 (by decide) ?_
  refine lv_icmp_ge (tgt := 163) S.1 S.2.1 d_RR_init_128 (by decide) (fun c121 => absurd c121 (by decide)) (fun c121 => ?_)
  refine lv_aload_n S.1 S.2.1 d_RR_init_131 rfl (lv_at hl 1 rfl) ?_
  obtain ⟨t122, ht122, hf⟩ := xb hf
  refine x_getr S hw lk_RR_32 ht122 d_RR_init_132 ?_
  refine lv_iload_n S.1 S.2.1 d_RR_init_135 rfl (lv_at hl 0 rfl) ?_
  obtain ⟨w123, hw123, hf⟩ := xlb hf
  refine x_new S hw nw_RR_30 hw123 (show _ ≤ (281 + (4 + (1 + (xmax 1 (xmin 8 x1)).toNatClampNeg) + (1 + (xmax 1 (xmin 8 x1)).toNatClampNeg) + (1 + (xmax 1 (xmin 8 x1)).toNatClampNeg) + (1 + (xmax 1 (xmin 8 x1)).toNatClampNeg) + (1 + (xmax 1 (xmin 21 x2)).toNatClampNeg))) by (try dsimp only); omega) (show _ ≤ (23025 + (27 + (xmax 1 (xmin 8 x1)).toNatClampNeg + ((xmax 1 (xmin 8 x1)).toNatClampNeg + (xmax 1 (xmin 8 x1)).toNatClampNeg * (7 + (xmax 1 (xmin 21 x2))).toNatClampNeg) + ((xmax 1 (xmin 8 x1)).toNatClampNeg + (xmax 1 (xmin 8 x1)).toNatClampNeg * (xmax 1 (xmin 21 x2)).toNatClampNeg) + ((xmax 1 (xmin 8 x1)).toNatClampNeg + (xmax 1 (xmin 8 x1)).toNatClampNeg * (xmax 1 (xmin 21 x2)).toNatClampNeg) + ((xmax 1 (xmin 8 x1)).toNatClampNeg + (xmax 1 (xmin 8 x1)).toNatClampNeg * 9) + ((xmax 1 (xmin 21 x2)).toNatClampNeg + (xmax 1 (xmin 21 x2)).toNatClampNeg * 9))) by (try dsimp only); omega) d_RR_init_136 (fun H hw => ?_)
  refine lv_dup S.1 S.2.1 d_RR_init_139 rfl ?_
  obtain ⟨w124, h125, hf⟩ := xb hf
  refine x_callIN (As := []) (rest := [.ref ((((((((z + 18) + 4) + 1 + (xmax 1 (xmin 8 x1)).toNatClampNeg) + 1 + (xmax 1 (xmin 8 x1)).toNatClampNeg) + 1 + (xmax 1 (xmin 8 x1)).toNatClampNeg) + 1 + (xmax 1 (xmin 8 x1)).toNatClampNeg) + 1 + (xmax 1 (xmin 21 x2)).toNatClampNeg) + 135), .int 8, .ref t122]) S hw (c_Law_init h125) ⟨va_cnB (host := "RosterRules") 0 S.2.2.2.2 gi_Law_init rfl rfl rfl (hw.1.2.2.1 _ wn_2_39) (S.2.2.2.2 _ wd_1_11) hi_Law_init ⟨Nat.le_of_ble_eq_true rfl, Nat.le_of_ble_eq_true rfl⟩, rfl, S.2.2.2.2 _ wd_2_40⟩ rfl hl.1 rfl (Nat.le_of_ble_eq_true rfl) d_RR_init_140 ⟨(show _ ≤ (281 + (4 + (1 + (xmax 1 (xmin 8 x1)).toNatClampNeg) + (1 + (xmax 1 (xmin 8 x1)).toNatClampNeg) + (1 + (xmax 1 (xmin 8 x1)).toNatClampNeg) + (1 + (xmax 1 (xmin 8 x1)).toNatClampNeg) + (1 + (xmax 1 (xmin 21 x2)).toNatClampNeg))) by (try dsimp only); omega), (show _ ≤ (23025 + (27 + (xmax 1 (xmin 8 x1)).toNatClampNeg + ((xmax 1 (xmin 8 x1)).toNatClampNeg + (xmax 1 (xmin 8 x1)).toNatClampNeg * (7 + (xmax 1 (xmin 21 x2))).toNatClampNeg) + ((xmax 1 (xmin 8 x1)).toNatClampNeg + (xmax 1 (xmin 8 x1)).toNatClampNeg * (xmax 1 (xmin 21 x2)).toNatClampNeg) + ((xmax 1 (xmin 8 x1)).toNatClampNeg + (xmax 1 (xmin 8 x1)).toNatClampNeg * (xmax 1 (xmin 21 x2)).toNatClampNeg) + ((xmax 1 (xmin 8 x1)).toNatClampNeg + (xmax 1 (xmin 8 x1)).toNatClampNeg * 9) + ((xmax 1 (xmin 21 x2)).toNatClampNeg + (xmax 1 (xmin 21 x2)).toNatClampNeg * 9))) by (try dsimp only); omega)⟩ (fun H locs hw => ?_)
  obtain ⟨w126, hw126, hf⟩ := xb hf
  refine x_aast S hw (t := 3) rfl rfl hw126 d_RR_init_143 (fun H locs hw => ?_)
  refine lv_aload_n S.1 S.2.1 d_RR_init_144 rfl (lv_at hl 1 rfl) ?_
  obtain ⟨t127, ht127, hf⟩ := xb hf
  refine x_getr S hw lk_RR_36 ht127 d_RR_init_145 ?_
  refine lv_iload_n S.1 S.2.1 d_RR_init_148 rfl (lv_at hl 0 rfl) ?_
  obtain ⟨w128, hw128, hf⟩ := xlb hf
  refine x_new S hw nw_RR_30 hw128 (show _ ≤ (281 + (4 + (1 + (xmax 1 (xmin 8 x1)).toNatClampNeg) + (1 + (xmax 1 (xmin 8 x1)).toNatClampNeg) + (1 + (xmax 1 (xmin 8 x1)).toNatClampNeg) + (1 + (xmax 1 (xmin 8 x1)).toNatClampNeg) + (1 + (xmax 1 (xmin 21 x2)).toNatClampNeg))) by (try dsimp only); omega) (show _ ≤ (23025 + (27 + (xmax 1 (xmin 8 x1)).toNatClampNeg + ((xmax 1 (xmin 8 x1)).toNatClampNeg + (xmax 1 (xmin 8 x1)).toNatClampNeg * (7 + (xmax 1 (xmin 21 x2))).toNatClampNeg) + ((xmax 1 (xmin 8 x1)).toNatClampNeg + (xmax 1 (xmin 8 x1)).toNatClampNeg * (xmax 1 (xmin 21 x2)).toNatClampNeg) + ((xmax 1 (xmin 8 x1)).toNatClampNeg + (xmax 1 (xmin 8 x1)).toNatClampNeg * (xmax 1 (xmin 21 x2)).toNatClampNeg) + ((xmax 1 (xmin 8 x1)).toNatClampNeg + (xmax 1 (xmin 8 x1)).toNatClampNeg * 9) + ((xmax 1 (xmin 21 x2)).toNatClampNeg + (xmax 1 (xmin 21 x2)).toNatClampNeg * 9))) by (try dsimp only); omega) d_RR_init_149 (fun H hw => ?_)
  refine lv_dup S.1 S.2.1 d_RR_init_152 rfl ?_
  obtain ⟨w129, h130, hf⟩ := xb hf
  refine x_callIN (As := []) (rest := [.ref ((((((((z + 18) + 4) + 1 + (xmax 1 (xmin 8 x1)).toNatClampNeg) + 1 + (xmax 1 (xmin 8 x1)).toNatClampNeg) + 1 + (xmax 1 (xmin 8 x1)).toNatClampNeg) + 1 + (xmax 1 (xmin 8 x1)).toNatClampNeg) + 1 + (xmax 1 (xmin 21 x2)).toNatClampNeg) + 143), .int 8, .ref t127]) S hw (c_Law_init h130) ⟨va_cnB (host := "RosterRules") 0 S.2.2.2.2 gi_Law_init rfl rfl rfl (hw.1.2.2.1 _ wn_2_39) (S.2.2.2.2 _ wd_1_11) hi_Law_init ⟨Nat.le_of_ble_eq_true rfl, Nat.le_of_ble_eq_true rfl⟩, rfl, S.2.2.2.2 _ wd_2_40⟩ rfl hl.1 rfl (Nat.le_of_ble_eq_true rfl) d_RR_init_153 ⟨(show _ ≤ (281 + (4 + (1 + (xmax 1 (xmin 8 x1)).toNatClampNeg) + (1 + (xmax 1 (xmin 8 x1)).toNatClampNeg) + (1 + (xmax 1 (xmin 8 x1)).toNatClampNeg) + (1 + (xmax 1 (xmin 8 x1)).toNatClampNeg) + (1 + (xmax 1 (xmin 21 x2)).toNatClampNeg))) by (try dsimp only); omega), (show _ ≤ (23025 + (27 + (xmax 1 (xmin 8 x1)).toNatClampNeg + ((xmax 1 (xmin 8 x1)).toNatClampNeg + (xmax 1 (xmin 8 x1)).toNatClampNeg * (7 + (xmax 1 (xmin 21 x2))).toNatClampNeg) + ((xmax 1 (xmin 8 x1)).toNatClampNeg + (xmax 1 (xmin 8 x1)).toNatClampNeg * (xmax 1 (xmin 21 x2)).toNatClampNeg) + ((xmax 1 (xmin 8 x1)).toNatClampNeg + (xmax 1 (xmin 8 x1)).toNatClampNeg * (xmax 1 (xmin 21 x2)).toNatClampNeg) + ((xmax 1 (xmin 8 x1)).toNatClampNeg + (xmax 1 (xmin 8 x1)).toNatClampNeg * 9) + ((xmax 1 (xmin 21 x2)).toNatClampNeg + (xmax 1 (xmin 21 x2)).toNatClampNeg * 9))) by (try dsimp only); omega)⟩ (fun H locs hw => ?_)
  obtain ⟨w131, hw131, hf⟩ := xb hf
  refine x_aast S hw (t := 3) rfl rfl hw131 d_RR_init_156 (fun H locs hw => ?_)
  refine lv_iinc (v := 9) (lv' := [(3, .int 9), (0, .ref a0), (1, .int x1), (2, .int x2)]) S.1 S.2.1 d_RR_init_157 hl (k := 0) rfl rfl (by decide) rfl (fun ls hl => ?_)
  refine lv_goto (tgt := 125) S.1 S.2.1 d_RR_init_160 (by decide) ?_
  refine lv_iload_n S.1 S.2.1 d_RR_init_125 rfl (lv_at hl 0 rfl) ?_
  refine lv_bipush (v := 16) S.1 S.2.1 d_RR_init_126 (by decide) ?_
  refine lv_icmp_ge (tgt := 163) S.1 S.2.1 d_RR_init_128 (by decide) (fun c132 => absurd c132 (by decide)) (fun c132 => ?_)
  refine lv_aload_n S.1 S.2.1 d_RR_init_131 rfl (lv_at hl 1 rfl) ?_
  obtain ⟨t133, ht133, hf⟩ := xb hf
  refine x_getr S hw lk_RR_32 ht133 d_RR_init_132 ?_
  refine lv_iload_n S.1 S.2.1 d_RR_init_135 rfl (lv_at hl 0 rfl) ?_
  obtain ⟨w134, hw134, hf⟩ := xlb hf
  refine x_new S hw nw_RR_30 hw134 (show _ ≤ (281 + (4 + (1 + (xmax 1 (xmin 8 x1)).toNatClampNeg) + (1 + (xmax 1 (xmin 8 x1)).toNatClampNeg) + (1 + (xmax 1 (xmin 8 x1)).toNatClampNeg) + (1 + (xmax 1 (xmin 8 x1)).toNatClampNeg) + (1 + (xmax 1 (xmin 21 x2)).toNatClampNeg))) by (try dsimp only); omega) (show _ ≤ (23025 + (27 + (xmax 1 (xmin 8 x1)).toNatClampNeg + ((xmax 1 (xmin 8 x1)).toNatClampNeg + (xmax 1 (xmin 8 x1)).toNatClampNeg * (7 + (xmax 1 (xmin 21 x2))).toNatClampNeg) + ((xmax 1 (xmin 8 x1)).toNatClampNeg + (xmax 1 (xmin 8 x1)).toNatClampNeg * (xmax 1 (xmin 21 x2)).toNatClampNeg) + ((xmax 1 (xmin 8 x1)).toNatClampNeg + (xmax 1 (xmin 8 x1)).toNatClampNeg * (xmax 1 (xmin 21 x2)).toNatClampNeg) + ((xmax 1 (xmin 8 x1)).toNatClampNeg + (xmax 1 (xmin 8 x1)).toNatClampNeg * 9) + ((xmax 1 (xmin 21 x2)).toNatClampNeg + (xmax 1 (xmin 21 x2)).toNatClampNeg * 9))) by (try dsimp only); omega) d_RR_init_136 (fun H hw => ?_)
  refine lv_dup S.1 S.2.1 d_RR_init_139 rfl ?_
  obtain ⟨w135, h136, hf⟩ := xb hf
  refine x_callIN (As := []) (rest := [.ref ((((((((z + 18) + 4) + 1 + (xmax 1 (xmin 8 x1)).toNatClampNeg) + 1 + (xmax 1 (xmin 8 x1)).toNatClampNeg) + 1 + (xmax 1 (xmin 8 x1)).toNatClampNeg) + 1 + (xmax 1 (xmin 8 x1)).toNatClampNeg) + 1 + (xmax 1 (xmin 21 x2)).toNatClampNeg) + 151), .int 9, .ref t133]) S hw (c_Law_init h136) ⟨va_cnB (host := "RosterRules") 0 S.2.2.2.2 gi_Law_init rfl rfl rfl (hw.1.2.2.1 _ wn_2_39) (S.2.2.2.2 _ wd_1_11) hi_Law_init ⟨Nat.le_of_ble_eq_true rfl, Nat.le_of_ble_eq_true rfl⟩, rfl, S.2.2.2.2 _ wd_2_40⟩ rfl hl.1 rfl (Nat.le_of_ble_eq_true rfl) d_RR_init_140 ⟨(show _ ≤ (281 + (4 + (1 + (xmax 1 (xmin 8 x1)).toNatClampNeg) + (1 + (xmax 1 (xmin 8 x1)).toNatClampNeg) + (1 + (xmax 1 (xmin 8 x1)).toNatClampNeg) + (1 + (xmax 1 (xmin 8 x1)).toNatClampNeg) + (1 + (xmax 1 (xmin 21 x2)).toNatClampNeg))) by (try dsimp only); omega), (show _ ≤ (23025 + (27 + (xmax 1 (xmin 8 x1)).toNatClampNeg + ((xmax 1 (xmin 8 x1)).toNatClampNeg + (xmax 1 (xmin 8 x1)).toNatClampNeg * (7 + (xmax 1 (xmin 21 x2))).toNatClampNeg) + ((xmax 1 (xmin 8 x1)).toNatClampNeg + (xmax 1 (xmin 8 x1)).toNatClampNeg * (xmax 1 (xmin 21 x2)).toNatClampNeg) + ((xmax 1 (xmin 8 x1)).toNatClampNeg + (xmax 1 (xmin 8 x1)).toNatClampNeg * (xmax 1 (xmin 21 x2)).toNatClampNeg) + ((xmax 1 (xmin 8 x1)).toNatClampNeg + (xmax 1 (xmin 8 x1)).toNatClampNeg * 9) + ((xmax 1 (xmin 21 x2)).toNatClampNeg + (xmax 1 (xmin 21 x2)).toNatClampNeg * 9))) by (try dsimp only); omega)⟩ (fun H locs hw => ?_)
  obtain ⟨w137, hw137, hf⟩ := xb hf
  refine x_aast S hw (t := 3) rfl rfl hw137 d_RR_init_143 (fun H locs hw => ?_)
  refine lv_aload_n S.1 S.2.1 d_RR_init_144 rfl (lv_at hl 1 rfl) ?_
  obtain ⟨t138, ht138, hf⟩ := xb hf
  refine x_getr S hw lk_RR_36 ht138 d_RR_init_145 ?_
  refine lv_iload_n S.1 S.2.1 d_RR_init_148 rfl (lv_at hl 0 rfl) ?_
  obtain ⟨w139, hw139, hf⟩ := xlb hf
  refine x_new S hw nw_RR_30 hw139 (show _ ≤ (281 + (4 + (1 + (xmax 1 (xmin 8 x1)).toNatClampNeg) + (1 + (xmax 1 (xmin 8 x1)).toNatClampNeg) + (1 + (xmax 1 (xmin 8 x1)).toNatClampNeg) + (1 + (xmax 1 (xmin 8 x1)).toNatClampNeg) + (1 + (xmax 1 (xmin 21 x2)).toNatClampNeg))) by (try dsimp only); omega) (show _ ≤ (23025 + (27 + (xmax 1 (xmin 8 x1)).toNatClampNeg + ((xmax 1 (xmin 8 x1)).toNatClampNeg + (xmax 1 (xmin 8 x1)).toNatClampNeg * (7 + (xmax 1 (xmin 21 x2))).toNatClampNeg) + ((xmax 1 (xmin 8 x1)).toNatClampNeg + (xmax 1 (xmin 8 x1)).toNatClampNeg * (xmax 1 (xmin 21 x2)).toNatClampNeg) + ((xmax 1 (xmin 8 x1)).toNatClampNeg + (xmax 1 (xmin 8 x1)).toNatClampNeg * (xmax 1 (xmin 21 x2)).toNatClampNeg) + ((xmax 1 (xmin 8 x1)).toNatClampNeg + (xmax 1 (xmin 8 x1)).toNatClampNeg * 9) + ((xmax 1 (xmin 21 x2)).toNatClampNeg + (xmax 1 (xmin 21 x2)).toNatClampNeg * 9))) by (try dsimp only); omega) d_RR_init_149 (fun H hw => ?_)
  refine lv_dup S.1 S.2.1 d_RR_init_152 rfl ?_
  obtain ⟨w140, h141, hf⟩ := xb hf
  refine x_callIN (As := []) (rest := [.ref ((((((((z + 18) + 4) + 1 + (xmax 1 (xmin 8 x1)).toNatClampNeg) + 1 + (xmax 1 (xmin 8 x1)).toNatClampNeg) + 1 + (xmax 1 (xmin 8 x1)).toNatClampNeg) + 1 + (xmax 1 (xmin 8 x1)).toNatClampNeg) + 1 + (xmax 1 (xmin 21 x2)).toNatClampNeg) + 159), .int 9, .ref t138]) S hw (c_Law_init h141) ⟨va_cnB (host := "RosterRules") 0 S.2.2.2.2 gi_Law_init rfl rfl rfl (hw.1.2.2.1 _ wn_2_39) (S.2.2.2.2 _ wd_1_11) hi_Law_init ⟨Nat.le_of_ble_eq_true rfl, Nat.le_of_ble_eq_true rfl⟩, rfl, S.2.2.2.2 _ wd_2_40⟩ rfl hl.1 rfl (Nat.le_of_ble_eq_true rfl) d_RR_init_153 ⟨(show _ ≤ (281 + (4 + (1 + (xmax 1 (xmin 8 x1)).toNatClampNeg) + (1 + (xmax 1 (xmin 8 x1)).toNatClampNeg) + (1 + (xmax 1 (xmin 8 x1)).toNatClampNeg) + (1 + (xmax 1 (xmin 8 x1)).toNatClampNeg) + (1 + (xmax 1 (xmin 21 x2)).toNatClampNeg))) by (try dsimp only); omega), (show _ ≤ (23025 + (27 + (xmax 1 (xmin 8 x1)).toNatClampNeg + ((xmax 1 (xmin 8 x1)).toNatClampNeg + (xmax 1 (xmin 8 x1)).toNatClampNeg * (7 + (xmax 1 (xmin 21 x2))).toNatClampNeg) + ((xmax 1 (xmin 8 x1)).toNatClampNeg + (xmax 1 (xmin 8 x1)).toNatClampNeg * (xmax 1 (xmin 21 x2)).toNatClampNeg) + ((xmax 1 (xmin 8 x1)).toNatClampNeg + (xmax 1 (xmin 8 x1)).toNatClampNeg * (xmax 1 (xmin 21 x2)).toNatClampNeg) + ((xmax 1 (xmin 8 x1)).toNatClampNeg + (xmax 1 (xmin 8 x1)).toNatClampNeg * 9) + ((xmax 1 (xmin 21 x2)).toNatClampNeg + (xmax 1 (xmin 21 x2)).toNatClampNeg * 9))) by (try dsimp only); omega)⟩ (fun H locs hw => ?_)
  obtain ⟨w142, hw142, hf⟩ := xb hf
  refine x_aast S hw (t := 3) rfl rfl hw142 d_RR_init_156 (fun H locs hw => ?_)
  refine lv_iinc (v := 10) (lv' := [(3, .int 10), (0, .ref a0), (1, .int x1), (2, .int x2)]) S.1 S.2.1 d_RR_init_157 hl (k := 0) rfl rfl (by decide) rfl (fun ls hl => ?_)
  refine lv_goto (tgt := 125) S.1 S.2.1 d_RR_init_160 (by decide) ?_
  refine lv_iload_n S.1 S.2.1 d_RR_init_125 rfl (lv_at hl 0 rfl) ?_
  refine lv_bipush (v := 16) S.1 S.2.1 d_RR_init_126 (by decide) ?_
  refine lv_icmp_ge (tgt := 163) S.1 S.2.1 d_RR_init_128 (by decide) (fun c143 => absurd c143 (by decide)) (fun c143 => ?_)
  refine lv_aload_n S.1 S.2.1 d_RR_init_131 rfl (lv_at hl 1 rfl) ?_
  obtain ⟨t144, ht144, hf⟩ := xb hf
  refine x_getr S hw lk_RR_32 ht144 d_RR_init_132 ?_
  refine lv_iload_n S.1 S.2.1 d_RR_init_135 rfl (lv_at hl 0 rfl) ?_
  obtain ⟨w145, hw145, hf⟩ := xlb hf
  refine x_new S hw nw_RR_30 hw145 (show _ ≤ (281 + (4 + (1 + (xmax 1 (xmin 8 x1)).toNatClampNeg) + (1 + (xmax 1 (xmin 8 x1)).toNatClampNeg) + (1 + (xmax 1 (xmin 8 x1)).toNatClampNeg) + (1 + (xmax 1 (xmin 8 x1)).toNatClampNeg) + (1 + (xmax 1 (xmin 21 x2)).toNatClampNeg))) by (try dsimp only); omega) (show _ ≤ (23025 + (27 + (xmax 1 (xmin 8 x1)).toNatClampNeg + ((xmax 1 (xmin 8 x1)).toNatClampNeg + (xmax 1 (xmin 8 x1)).toNatClampNeg * (7 + (xmax 1 (xmin 21 x2))).toNatClampNeg) + ((xmax 1 (xmin 8 x1)).toNatClampNeg + (xmax 1 (xmin 8 x1)).toNatClampNeg * (xmax 1 (xmin 21 x2)).toNatClampNeg) + ((xmax 1 (xmin 8 x1)).toNatClampNeg + (xmax 1 (xmin 8 x1)).toNatClampNeg * (xmax 1 (xmin 21 x2)).toNatClampNeg) + ((xmax 1 (xmin 8 x1)).toNatClampNeg + (xmax 1 (xmin 8 x1)).toNatClampNeg * 9) + ((xmax 1 (xmin 21 x2)).toNatClampNeg + (xmax 1 (xmin 21 x2)).toNatClampNeg * 9))) by (try dsimp only); omega) d_RR_init_136 (fun H hw => ?_)
  refine lv_dup S.1 S.2.1 d_RR_init_139 rfl ?_
  obtain ⟨w146, h147, hf⟩ := xb hf
  refine x_callIN (As := []) (rest := [.ref ((((((((z + 18) + 4) + 1 + (xmax 1 (xmin 8 x1)).toNatClampNeg) + 1 + (xmax 1 (xmin 8 x1)).toNatClampNeg) + 1 + (xmax 1 (xmin 8 x1)).toNatClampNeg) + 1 + (xmax 1 (xmin 8 x1)).toNatClampNeg) + 1 + (xmax 1 (xmin 21 x2)).toNatClampNeg) + 167), .int 10, .ref t144]) S hw (c_Law_init h147) ⟨va_cnB (host := "RosterRules") 0 S.2.2.2.2 gi_Law_init rfl rfl rfl (hw.1.2.2.1 _ wn_2_39) (S.2.2.2.2 _ wd_1_11) hi_Law_init ⟨Nat.le_of_ble_eq_true rfl, Nat.le_of_ble_eq_true rfl⟩, rfl, S.2.2.2.2 _ wd_2_40⟩ rfl hl.1 rfl (Nat.le_of_ble_eq_true rfl) d_RR_init_140 ⟨(show _ ≤ (281 + (4 + (1 + (xmax 1 (xmin 8 x1)).toNatClampNeg) + (1 + (xmax 1 (xmin 8 x1)).toNatClampNeg) + (1 + (xmax 1 (xmin 8 x1)).toNatClampNeg) + (1 + (xmax 1 (xmin 8 x1)).toNatClampNeg) + (1 + (xmax 1 (xmin 21 x2)).toNatClampNeg))) by (try dsimp only); omega), (show _ ≤ (23025 + (27 + (xmax 1 (xmin 8 x1)).toNatClampNeg + ((xmax 1 (xmin 8 x1)).toNatClampNeg + (xmax 1 (xmin 8 x1)).toNatClampNeg * (7 + (xmax 1 (xmin 21 x2))).toNatClampNeg) + ((xmax 1 (xmin 8 x1)).toNatClampNeg + (xmax 1 (xmin 8 x1)).toNatClampNeg * (xmax 1 (xmin 21 x2)).toNatClampNeg) + ((xmax 1 (xmin 8 x1)).toNatClampNeg + (xmax 1 (xmin 8 x1)).toNatClampNeg * (xmax 1 (xmin 21 x2)).toNatClampNeg) + ((xmax 1 (xmin 8 x1)).toNatClampNeg + (xmax 1 (xmin 8 x1)).toNatClampNeg * 9) + ((xmax 1 (xmin 21 x2)).toNatClampNeg + (xmax 1 (xmin 21 x2)).toNatClampNeg * 9))) by (try dsimp only); omega)⟩ (fun H locs hw => ?_)
  obtain ⟨w148, hw148, hf⟩ := xb hf
  refine x_aast S hw (t := 3) rfl rfl hw148 d_RR_init_143 (fun H locs hw => ?_)
  refine lv_aload_n S.1 S.2.1 d_RR_init_144 rfl (lv_at hl 1 rfl) ?_
  obtain ⟨t149, ht149, hf⟩ := xb hf
  refine x_getr S hw lk_RR_36 ht149 d_RR_init_145 ?_
  refine lv_iload_n S.1 S.2.1 d_RR_init_148 rfl (lv_at hl 0 rfl) ?_
  obtain ⟨w150, hw150, hf⟩ := xlb hf
  refine x_new S hw nw_RR_30 hw150 (show _ ≤ (281 + (4 + (1 + (xmax 1 (xmin 8 x1)).toNatClampNeg) + (1 + (xmax 1 (xmin 8 x1)).toNatClampNeg) + (1 + (xmax 1 (xmin 8 x1)).toNatClampNeg) + (1 + (xmax 1 (xmin 8 x1)).toNatClampNeg) + (1 + (xmax 1 (xmin 21 x2)).toNatClampNeg))) by (try dsimp only); omega) (show _ ≤ (23025 + (27 + (xmax 1 (xmin 8 x1)).toNatClampNeg + ((xmax 1 (xmin 8 x1)).toNatClampNeg + (xmax 1 (xmin 8 x1)).toNatClampNeg * (7 + (xmax 1 (xmin 21 x2))).toNatClampNeg) + ((xmax 1 (xmin 8 x1)).toNatClampNeg + (xmax 1 (xmin 8 x1)).toNatClampNeg * (xmax 1 (xmin 21 x2)).toNatClampNeg) + ((xmax 1 (xmin 8 x1)).toNatClampNeg + (xmax 1 (xmin 8 x1)).toNatClampNeg * (xmax 1 (xmin 21 x2)).toNatClampNeg) + ((xmax 1 (xmin 8 x1)).toNatClampNeg + (xmax 1 (xmin 8 x1)).toNatClampNeg * 9) + ((xmax 1 (xmin 21 x2)).toNatClampNeg + (xmax 1 (xmin 21 x2)).toNatClampNeg * 9))) by (try dsimp only); omega) d_RR_init_149 (fun H hw => ?_)
  refine lv_dup S.1 S.2.1 d_RR_init_152 rfl ?_
  obtain ⟨w151, h152, hf⟩ := xb hf
  refine x_callIN (As := []) (rest := [.ref ((((((((z + 18) + 4) + 1 + (xmax 1 (xmin 8 x1)).toNatClampNeg) + 1 + (xmax 1 (xmin 8 x1)).toNatClampNeg) + 1 + (xmax 1 (xmin 8 x1)).toNatClampNeg) + 1 + (xmax 1 (xmin 8 x1)).toNatClampNeg) + 1 + (xmax 1 (xmin 21 x2)).toNatClampNeg) + 175), .int 10, .ref t149]) S hw (c_Law_init h152) ⟨va_cnB (host := "RosterRules") 0 S.2.2.2.2 gi_Law_init rfl rfl rfl (hw.1.2.2.1 _ wn_2_39) (S.2.2.2.2 _ wd_1_11) hi_Law_init ⟨Nat.le_of_ble_eq_true rfl, Nat.le_of_ble_eq_true rfl⟩, rfl, S.2.2.2.2 _ wd_2_40⟩ rfl hl.1 rfl (Nat.le_of_ble_eq_true rfl) d_RR_init_153 ⟨(show _ ≤ (281 + (4 + (1 + (xmax 1 (xmin 8 x1)).toNatClampNeg) + (1 + (xmax 1 (xmin 8 x1)).toNatClampNeg) + (1 + (xmax 1 (xmin 8 x1)).toNatClampNeg) + (1 + (xmax 1 (xmin 8 x1)).toNatClampNeg) + (1 + (xmax 1 (xmin 21 x2)).toNatClampNeg))) by (try dsimp only); omega), (show _ ≤ (23025 + (27 + (xmax 1 (xmin 8 x1)).toNatClampNeg + ((xmax 1 (xmin 8 x1)).toNatClampNeg + (xmax 1 (xmin 8 x1)).toNatClampNeg * (7 + (xmax 1 (xmin 21 x2))).toNatClampNeg) + ((xmax 1 (xmin 8 x1)).toNatClampNeg + (xmax 1 (xmin 8 x1)).toNatClampNeg * (xmax 1 (xmin 21 x2)).toNatClampNeg) + ((xmax 1 (xmin 8 x1)).toNatClampNeg + (xmax 1 (xmin 8 x1)).toNatClampNeg * (xmax 1 (xmin 21 x2)).toNatClampNeg) + ((xmax 1 (xmin 8 x1)).toNatClampNeg + (xmax 1 (xmin 8 x1)).toNatClampNeg * 9) + ((xmax 1 (xmin 21 x2)).toNatClampNeg + (xmax 1 (xmin 21 x2)).toNatClampNeg * 9))) by (try dsimp only); omega)⟩ (fun H locs hw => ?_)
  obtain ⟨w153, hw153, hf⟩ := xb hf
  refine x_aast S hw (t := 3) rfl rfl hw153 d_RR_init_156 (fun H locs hw => ?_)
  refine lv_iinc (v := 11) (lv' := [(3, .int 11), (0, .ref a0), (1, .int x1), (2, .int x2)]) S.1 S.2.1 d_RR_init_157 hl (k := 0) rfl rfl (by decide) rfl (fun ls hl => ?_)
  refine lv_goto (tgt := 125) S.1 S.2.1 d_RR_init_160 (by decide) ?_
  refine lv_iload_n S.1 S.2.1 d_RR_init_125 rfl (lv_at hl 0 rfl) ?_
  refine lv_bipush (v := 16) S.1 S.2.1 d_RR_init_126 (by decide) ?_
  refine lv_icmp_ge (tgt := 163) S.1 S.2.1 d_RR_init_128 (by decide) (fun c154 => absurd c154 (by decide)) (fun c154 => ?_)
  refine lv_aload_n S.1 S.2.1 d_RR_init_131 rfl (lv_at hl 1 rfl) ?_
  obtain ⟨t155, ht155, hf⟩ := xb hf
  refine x_getr S hw lk_RR_32 ht155 d_RR_init_132 ?_
  refine lv_iload_n S.1 S.2.1 d_RR_init_135 rfl (lv_at hl 0 rfl) ?_
  obtain ⟨w156, hw156, hf⟩ := xlb hf
  refine x_new S hw nw_RR_30 hw156 (show _ ≤ (281 + (4 + (1 + (xmax 1 (xmin 8 x1)).toNatClampNeg) + (1 + (xmax 1 (xmin 8 x1)).toNatClampNeg) + (1 + (xmax 1 (xmin 8 x1)).toNatClampNeg) + (1 + (xmax 1 (xmin 8 x1)).toNatClampNeg) + (1 + (xmax 1 (xmin 21 x2)).toNatClampNeg))) by (try dsimp only); omega) (show _ ≤ (23025 + (27 + (xmax 1 (xmin 8 x1)).toNatClampNeg + ((xmax 1 (xmin 8 x1)).toNatClampNeg + (xmax 1 (xmin 8 x1)).toNatClampNeg * (7 + (xmax 1 (xmin 21 x2))).toNatClampNeg) + ((xmax 1 (xmin 8 x1)).toNatClampNeg + (xmax 1 (xmin 8 x1)).toNatClampNeg * (xmax 1 (xmin 21 x2)).toNatClampNeg) + ((xmax 1 (xmin 8 x1)).toNatClampNeg + (xmax 1 (xmin 8 x1)).toNatClampNeg * (xmax 1 (xmin 21 x2)).toNatClampNeg) + ((xmax 1 (xmin 8 x1)).toNatClampNeg + (xmax 1 (xmin 8 x1)).toNatClampNeg * 9) + ((xmax 1 (xmin 21 x2)).toNatClampNeg + (xmax 1 (xmin 21 x2)).toNatClampNeg * 9))) by (try dsimp only); omega) d_RR_init_136 (fun H hw => ?_)
  refine lv_dup S.1 S.2.1 d_RR_init_139 rfl ?_
  obtain ⟨w157, h158, hf⟩ := xb hf
  refine x_callIN (As := []) (rest := [.ref ((((((((z + 18) + 4) + 1 + (xmax 1 (xmin 8 x1)).toNatClampNeg) + 1 + (xmax 1 (xmin 8 x1)).toNatClampNeg) + 1 + (xmax 1 (xmin 8 x1)).toNatClampNeg) + 1 + (xmax 1 (xmin 8 x1)).toNatClampNeg) + 1 + (xmax 1 (xmin 21 x2)).toNatClampNeg) + 183), .int 11, .ref t155]) S hw (c_Law_init h158) ⟨va_cnB (host := "RosterRules") 0 S.2.2.2.2 gi_Law_init rfl rfl rfl (hw.1.2.2.1 _ wn_2_39) (S.2.2.2.2 _ wd_1_11) hi_Law_init ⟨Nat.le_of_ble_eq_true rfl, Nat.le_of_ble_eq_true rfl⟩, rfl, S.2.2.2.2 _ wd_2_40⟩ rfl hl.1 rfl (Nat.le_of_ble_eq_true rfl) d_RR_init_140 ⟨(show _ ≤ (281 + (4 + (1 + (xmax 1 (xmin 8 x1)).toNatClampNeg) + (1 + (xmax 1 (xmin 8 x1)).toNatClampNeg) + (1 + (xmax 1 (xmin 8 x1)).toNatClampNeg) + (1 + (xmax 1 (xmin 8 x1)).toNatClampNeg) + (1 + (xmax 1 (xmin 21 x2)).toNatClampNeg))) by (try dsimp only); omega), (show _ ≤ (23025 + (27 + (xmax 1 (xmin 8 x1)).toNatClampNeg + ((xmax 1 (xmin 8 x1)).toNatClampNeg + (xmax 1 (xmin 8 x1)).toNatClampNeg * (7 + (xmax 1 (xmin 21 x2))).toNatClampNeg) + ((xmax 1 (xmin 8 x1)).toNatClampNeg + (xmax 1 (xmin 8 x1)).toNatClampNeg * (xmax 1 (xmin 21 x2)).toNatClampNeg) + ((xmax 1 (xmin 8 x1)).toNatClampNeg + (xmax 1 (xmin 8 x1)).toNatClampNeg * (xmax 1 (xmin 21 x2)).toNatClampNeg) + ((xmax 1 (xmin 8 x1)).toNatClampNeg + (xmax 1 (xmin 8 x1)).toNatClampNeg * 9) + ((xmax 1 (xmin 21 x2)).toNatClampNeg + (xmax 1 (xmin 21 x2)).toNatClampNeg * 9))) by (try dsimp only); omega)⟩ (fun H locs hw => ?_)
  obtain ⟨w159, hw159, hf⟩ := xb hf
  refine x_aast S hw (t := 3) rfl rfl hw159 d_RR_init_143 (fun H locs hw => ?_)
  refine lv_aload_n S.1 S.2.1 d_RR_init_144 rfl (lv_at hl 1 rfl) ?_
  obtain ⟨t160, ht160, hf⟩ := xb hf
  refine x_getr S hw lk_RR_36 ht160 d_RR_init_145 ?_
  refine lv_iload_n S.1 S.2.1 d_RR_init_148 rfl (lv_at hl 0 rfl) ?_
  obtain ⟨w161, hw161, hf⟩ := xlb hf
  refine x_new S hw nw_RR_30 hw161 (show _ ≤ (281 + (4 + (1 + (xmax 1 (xmin 8 x1)).toNatClampNeg) + (1 + (xmax 1 (xmin 8 x1)).toNatClampNeg) + (1 + (xmax 1 (xmin 8 x1)).toNatClampNeg) + (1 + (xmax 1 (xmin 8 x1)).toNatClampNeg) + (1 + (xmax 1 (xmin 21 x2)).toNatClampNeg))) by (try dsimp only); omega) (show _ ≤ (23025 + (27 + (xmax 1 (xmin 8 x1)).toNatClampNeg + ((xmax 1 (xmin 8 x1)).toNatClampNeg + (xmax 1 (xmin 8 x1)).toNatClampNeg * (7 + (xmax 1 (xmin 21 x2))).toNatClampNeg) + ((xmax 1 (xmin 8 x1)).toNatClampNeg + (xmax 1 (xmin 8 x1)).toNatClampNeg * (xmax 1 (xmin 21 x2)).toNatClampNeg) + ((xmax 1 (xmin 8 x1)).toNatClampNeg + (xmax 1 (xmin 8 x1)).toNatClampNeg * (xmax 1 (xmin 21 x2)).toNatClampNeg) + ((xmax 1 (xmin 8 x1)).toNatClampNeg + (xmax 1 (xmin 8 x1)).toNatClampNeg * 9) + ((xmax 1 (xmin 21 x2)).toNatClampNeg + (xmax 1 (xmin 21 x2)).toNatClampNeg * 9))) by (try dsimp only); omega) d_RR_init_149 (fun H hw => ?_)
  refine lv_dup S.1 S.2.1 d_RR_init_152 rfl ?_
  obtain ⟨w162, h163, hf⟩ := xb hf
  refine x_callIN (As := []) (rest := [.ref ((((((((z + 18) + 4) + 1 + (xmax 1 (xmin 8 x1)).toNatClampNeg) + 1 + (xmax 1 (xmin 8 x1)).toNatClampNeg) + 1 + (xmax 1 (xmin 8 x1)).toNatClampNeg) + 1 + (xmax 1 (xmin 8 x1)).toNatClampNeg) + 1 + (xmax 1 (xmin 21 x2)).toNatClampNeg) + 191), .int 11, .ref t160]) S hw (c_Law_init h163) ⟨va_cnB (host := "RosterRules") 0 S.2.2.2.2 gi_Law_init rfl rfl rfl (hw.1.2.2.1 _ wn_2_39) (S.2.2.2.2 _ wd_1_11) hi_Law_init ⟨Nat.le_of_ble_eq_true rfl, Nat.le_of_ble_eq_true rfl⟩, rfl, S.2.2.2.2 _ wd_2_40⟩ rfl hl.1 rfl (Nat.le_of_ble_eq_true rfl) d_RR_init_153 ⟨(show _ ≤ (281 + (4 + (1 + (xmax 1 (xmin 8 x1)).toNatClampNeg) + (1 + (xmax 1 (xmin 8 x1)).toNatClampNeg) + (1 + (xmax 1 (xmin 8 x1)).toNatClampNeg) + (1 + (xmax 1 (xmin 8 x1)).toNatClampNeg) + (1 + (xmax 1 (xmin 21 x2)).toNatClampNeg))) by (try dsimp only); omega), (show _ ≤ (23025 + (27 + (xmax 1 (xmin 8 x1)).toNatClampNeg + ((xmax 1 (xmin 8 x1)).toNatClampNeg + (xmax 1 (xmin 8 x1)).toNatClampNeg * (7 + (xmax 1 (xmin 21 x2))).toNatClampNeg) + ((xmax 1 (xmin 8 x1)).toNatClampNeg + (xmax 1 (xmin 8 x1)).toNatClampNeg * (xmax 1 (xmin 21 x2)).toNatClampNeg) + ((xmax 1 (xmin 8 x1)).toNatClampNeg + (xmax 1 (xmin 8 x1)).toNatClampNeg * (xmax 1 (xmin 21 x2)).toNatClampNeg) + ((xmax 1 (xmin 8 x1)).toNatClampNeg + (xmax 1 (xmin 8 x1)).toNatClampNeg * 9) + ((xmax 1 (xmin 21 x2)).toNatClampNeg + (xmax 1 (xmin 21 x2)).toNatClampNeg * 9))) by (try dsimp only); omega)⟩ (fun H locs hw => ?_)
  obtain ⟨w164, hw164, hf⟩ := xb hf
  refine x_aast S hw (t := 3) rfl rfl hw164 d_RR_init_156 (fun H locs hw => ?_)
  refine lv_iinc (v := 12) (lv' := [(3, .int 12), (0, .ref a0), (1, .int x1), (2, .int x2)]) S.1 S.2.1 d_RR_init_157 hl (k := 0) rfl rfl (by decide) rfl (fun ls hl => ?_)
  refine lv_goto (tgt := 125) S.1 S.2.1 d_RR_init_160 (by decide) ?_
  refine lv_iload_n S.1 S.2.1 d_RR_init_125 rfl (lv_at hl 0 rfl) ?_
  refine lv_bipush (v := 16) S.1 S.2.1 d_RR_init_126 (by decide) ?_
  refine lv_icmp_ge (tgt := 163) S.1 S.2.1 d_RR_init_128 (by decide) (fun c165 => absurd c165 (by decide)) (fun c165 => ?_)
  refine lv_aload_n S.1 S.2.1 d_RR_init_131 rfl (lv_at hl 1 rfl) ?_
  obtain ⟨t166, ht166, hf⟩ := xb hf
  refine x_getr S hw lk_RR_32 ht166 d_RR_init_132 ?_
  refine lv_iload_n S.1 S.2.1 d_RR_init_135 rfl (lv_at hl 0 rfl) ?_
  obtain ⟨w167, hw167, hf⟩ := xlb hf
  refine x_new S hw nw_RR_30 hw167 (show _ ≤ (281 + (4 + (1 + (xmax 1 (xmin 8 x1)).toNatClampNeg) + (1 + (xmax 1 (xmin 8 x1)).toNatClampNeg) + (1 + (xmax 1 (xmin 8 x1)).toNatClampNeg) + (1 + (xmax 1 (xmin 8 x1)).toNatClampNeg) + (1 + (xmax 1 (xmin 21 x2)).toNatClampNeg))) by (try dsimp only); omega) (show _ ≤ (23025 + (27 + (xmax 1 (xmin 8 x1)).toNatClampNeg + ((xmax 1 (xmin 8 x1)).toNatClampNeg + (xmax 1 (xmin 8 x1)).toNatClampNeg * (7 + (xmax 1 (xmin 21 x2))).toNatClampNeg) + ((xmax 1 (xmin 8 x1)).toNatClampNeg + (xmax 1 (xmin 8 x1)).toNatClampNeg * (xmax 1 (xmin 21 x2)).toNatClampNeg) + ((xmax 1 (xmin 8 x1)).toNatClampNeg + (xmax 1 (xmin 8 x1)).toNatClampNeg * (xmax 1 (xmin 21 x2)).toNatClampNeg) + ((xmax 1 (xmin 8 x1)).toNatClampNeg + (xmax 1 (xmin 8 x1)).toNatClampNeg * 9) + ((xmax 1 (xmin 21 x2)).toNatClampNeg + (xmax 1 (xmin 21 x2)).toNatClampNeg * 9))) by (try dsimp only); omega) d_RR_init_136 (fun H hw => ?_)
  refine lv_dup S.1 S.2.1 d_RR_init_139 rfl ?_
  obtain ⟨w168, h169, hf⟩ := xb hf
  refine x_callIN (As := []) (rest := [.ref ((((((((z + 18) + 4) + 1 + (xmax 1 (xmin 8 x1)).toNatClampNeg) + 1 + (xmax 1 (xmin 8 x1)).toNatClampNeg) + 1 + (xmax 1 (xmin 8 x1)).toNatClampNeg) + 1 + (xmax 1 (xmin 8 x1)).toNatClampNeg) + 1 + (xmax 1 (xmin 21 x2)).toNatClampNeg) + 199), .int 12, .ref t166]) S hw (c_Law_init h169) ⟨va_cnB (host := "RosterRules") 0 S.2.2.2.2 gi_Law_init rfl rfl rfl (hw.1.2.2.1 _ wn_2_39) (S.2.2.2.2 _ wd_1_11) hi_Law_init ⟨Nat.le_of_ble_eq_true rfl, Nat.le_of_ble_eq_true rfl⟩, rfl, S.2.2.2.2 _ wd_2_40⟩ rfl hl.1 rfl (Nat.le_of_ble_eq_true rfl) d_RR_init_140 ⟨(show _ ≤ (281 + (4 + (1 + (xmax 1 (xmin 8 x1)).toNatClampNeg) + (1 + (xmax 1 (xmin 8 x1)).toNatClampNeg) + (1 + (xmax 1 (xmin 8 x1)).toNatClampNeg) + (1 + (xmax 1 (xmin 8 x1)).toNatClampNeg) + (1 + (xmax 1 (xmin 21 x2)).toNatClampNeg))) by (try dsimp only); omega), (show _ ≤ (23025 + (27 + (xmax 1 (xmin 8 x1)).toNatClampNeg + ((xmax 1 (xmin 8 x1)).toNatClampNeg + (xmax 1 (xmin 8 x1)).toNatClampNeg * (7 + (xmax 1 (xmin 21 x2))).toNatClampNeg) + ((xmax 1 (xmin 8 x1)).toNatClampNeg + (xmax 1 (xmin 8 x1)).toNatClampNeg * (xmax 1 (xmin 21 x2)).toNatClampNeg) + ((xmax 1 (xmin 8 x1)).toNatClampNeg + (xmax 1 (xmin 8 x1)).toNatClampNeg * (xmax 1 (xmin 21 x2)).toNatClampNeg) + ((xmax 1 (xmin 8 x1)).toNatClampNeg + (xmax 1 (xmin 8 x1)).toNatClampNeg * 9) + ((xmax 1 (xmin 21 x2)).toNatClampNeg + (xmax 1 (xmin 21 x2)).toNatClampNeg * 9))) by (try dsimp only); omega)⟩ (fun H locs hw => ?_)
  obtain ⟨w170, hw170, hf⟩ := xb hf
  refine x_aast S hw (t := 3) rfl rfl hw170 d_RR_init_143 (fun H locs hw => ?_)
  refine lv_aload_n S.1 S.2.1 d_RR_init_144 rfl (lv_at hl 1 rfl) ?_
  obtain ⟨t171, ht171, hf⟩ := xb hf
  refine x_getr S hw lk_RR_36 ht171 d_RR_init_145 ?_
  refine lv_iload_n S.1 S.2.1 d_RR_init_148 rfl (lv_at hl 0 rfl) ?_
  obtain ⟨w172, hw172, hf⟩ := xlb hf
  refine x_new S hw nw_RR_30 hw172 (show _ ≤ (281 + (4 + (1 + (xmax 1 (xmin 8 x1)).toNatClampNeg) + (1 + (xmax 1 (xmin 8 x1)).toNatClampNeg) + (1 + (xmax 1 (xmin 8 x1)).toNatClampNeg) + (1 + (xmax 1 (xmin 8 x1)).toNatClampNeg) + (1 + (xmax 1 (xmin 21 x2)).toNatClampNeg))) by (try dsimp only); omega) (show _ ≤ (23025 + (27 + (xmax 1 (xmin 8 x1)).toNatClampNeg + ((xmax 1 (xmin 8 x1)).toNatClampNeg + (xmax 1 (xmin 8 x1)).toNatClampNeg * (7 + (xmax 1 (xmin 21 x2))).toNatClampNeg) + ((xmax 1 (xmin 8 x1)).toNatClampNeg + (xmax 1 (xmin 8 x1)).toNatClampNeg * (xmax 1 (xmin 21 x2)).toNatClampNeg) + ((xmax 1 (xmin 8 x1)).toNatClampNeg + (xmax 1 (xmin 8 x1)).toNatClampNeg * (xmax 1 (xmin 21 x2)).toNatClampNeg) + ((xmax 1 (xmin 8 x1)).toNatClampNeg + (xmax 1 (xmin 8 x1)).toNatClampNeg * 9) + ((xmax 1 (xmin 21 x2)).toNatClampNeg + (xmax 1 (xmin 21 x2)).toNatClampNeg * 9))) by (try dsimp only); omega) d_RR_init_149 (fun H hw => ?_)
  refine lv_dup S.1 S.2.1 d_RR_init_152 rfl ?_
  obtain ⟨w173, h174, hf⟩ := xb hf
  refine x_callIN (As := []) (rest := [.ref ((((((((z + 18) + 4) + 1 + (xmax 1 (xmin 8 x1)).toNatClampNeg) + 1 + (xmax 1 (xmin 8 x1)).toNatClampNeg) + 1 + (xmax 1 (xmin 8 x1)).toNatClampNeg) + 1 + (xmax 1 (xmin 8 x1)).toNatClampNeg) + 1 + (xmax 1 (xmin 21 x2)).toNatClampNeg) + 207), .int 12, .ref t171]) S hw (c_Law_init h174) ⟨va_cnB (host := "RosterRules") 0 S.2.2.2.2 gi_Law_init rfl rfl rfl (hw.1.2.2.1 _ wn_2_39) (S.2.2.2.2 _ wd_1_11) hi_Law_init ⟨Nat.le_of_ble_eq_true rfl, Nat.le_of_ble_eq_true rfl⟩, rfl, S.2.2.2.2 _ wd_2_40⟩ rfl hl.1 rfl (Nat.le_of_ble_eq_true rfl) d_RR_init_153 ⟨(show _ ≤ (281 + (4 + (1 + (xmax 1 (xmin 8 x1)).toNatClampNeg) + (1 + (xmax 1 (xmin 8 x1)).toNatClampNeg) + (1 + (xmax 1 (xmin 8 x1)).toNatClampNeg) + (1 + (xmax 1 (xmin 8 x1)).toNatClampNeg) + (1 + (xmax 1 (xmin 21 x2)).toNatClampNeg))) by (try dsimp only); omega), (show _ ≤ (23025 + (27 + (xmax 1 (xmin 8 x1)).toNatClampNeg + ((xmax 1 (xmin 8 x1)).toNatClampNeg + (xmax 1 (xmin 8 x1)).toNatClampNeg * (7 + (xmax 1 (xmin 21 x2))).toNatClampNeg) + ((xmax 1 (xmin 8 x1)).toNatClampNeg + (xmax 1 (xmin 8 x1)).toNatClampNeg * (xmax 1 (xmin 21 x2)).toNatClampNeg) + ((xmax 1 (xmin 8 x1)).toNatClampNeg + (xmax 1 (xmin 8 x1)).toNatClampNeg * (xmax 1 (xmin 21 x2)).toNatClampNeg) + ((xmax 1 (xmin 8 x1)).toNatClampNeg + (xmax 1 (xmin 8 x1)).toNatClampNeg * 9) + ((xmax 1 (xmin 21 x2)).toNatClampNeg + (xmax 1 (xmin 21 x2)).toNatClampNeg * 9))) by (try dsimp only); omega)⟩ (fun H locs hw => ?_)
  obtain ⟨w175, hw175, hf⟩ := xb hf
  refine x_aast S hw (t := 3) rfl rfl hw175 d_RR_init_156 (fun H locs hw => ?_)
  refine lv_iinc (v := 13) (lv' := [(3, .int 13), (0, .ref a0), (1, .int x1), (2, .int x2)]) S.1 S.2.1 d_RR_init_157 hl (k := 0) rfl rfl (by decide) rfl (fun ls hl => ?_)
  refine lv_goto (tgt := 125) S.1 S.2.1 d_RR_init_160 (by decide) ?_
  refine lv_iload_n S.1 S.2.1 d_RR_init_125 rfl (lv_at hl 0 rfl) ?_
  refine lv_bipush (v := 16) S.1 S.2.1 d_RR_init_126 (by decide) ?_
  refine lv_icmp_ge (tgt := 163) S.1 S.2.1 d_RR_init_128 (by decide) (fun c176 => absurd c176 (by decide)) (fun c176 => ?_)
  refine lv_aload_n S.1 S.2.1 d_RR_init_131 rfl (lv_at hl 1 rfl) ?_
  obtain ⟨t177, ht177, hf⟩ := xb hf
  refine x_getr S hw lk_RR_32 ht177 d_RR_init_132 ?_
  refine lv_iload_n S.1 S.2.1 d_RR_init_135 rfl (lv_at hl 0 rfl) ?_
  obtain ⟨w178, hw178, hf⟩ := xlb hf
  refine x_new S hw nw_RR_30 hw178 (show _ ≤ (281 + (4 + (1 + (xmax 1 (xmin 8 x1)).toNatClampNeg) + (1 + (xmax 1 (xmin 8 x1)).toNatClampNeg) + (1 + (xmax 1 (xmin 8 x1)).toNatClampNeg) + (1 + (xmax 1 (xmin 8 x1)).toNatClampNeg) + (1 + (xmax 1 (xmin 21 x2)).toNatClampNeg))) by (try dsimp only); omega) (show _ ≤ (23025 + (27 + (xmax 1 (xmin 8 x1)).toNatClampNeg + ((xmax 1 (xmin 8 x1)).toNatClampNeg + (xmax 1 (xmin 8 x1)).toNatClampNeg * (7 + (xmax 1 (xmin 21 x2))).toNatClampNeg) + ((xmax 1 (xmin 8 x1)).toNatClampNeg + (xmax 1 (xmin 8 x1)).toNatClampNeg * (xmax 1 (xmin 21 x2)).toNatClampNeg) + ((xmax 1 (xmin 8 x1)).toNatClampNeg + (xmax 1 (xmin 8 x1)).toNatClampNeg * (xmax 1 (xmin 21 x2)).toNatClampNeg) + ((xmax 1 (xmin 8 x1)).toNatClampNeg + (xmax 1 (xmin 8 x1)).toNatClampNeg * 9) + ((xmax 1 (xmin 21 x2)).toNatClampNeg + (xmax 1 (xmin 21 x2)).toNatClampNeg * 9))) by (try dsimp only); omega) d_RR_init_136 (fun H hw => ?_)
  refine lv_dup S.1 S.2.1 d_RR_init_139 rfl ?_
  obtain ⟨w179, h180, hf⟩ := xb hf
  refine x_callIN (As := []) (rest := [.ref ((((((((z + 18) + 4) + 1 + (xmax 1 (xmin 8 x1)).toNatClampNeg) + 1 + (xmax 1 (xmin 8 x1)).toNatClampNeg) + 1 + (xmax 1 (xmin 8 x1)).toNatClampNeg) + 1 + (xmax 1 (xmin 8 x1)).toNatClampNeg) + 1 + (xmax 1 (xmin 21 x2)).toNatClampNeg) + 215), .int 13, .ref t177]) S hw (c_Law_init h180) ⟨va_cnB (host := "RosterRules") 0 S.2.2.2.2 gi_Law_init rfl rfl rfl (hw.1.2.2.1 _ wn_2_39) (S.2.2.2.2 _ wd_1_11) hi_Law_init ⟨Nat.le_of_ble_eq_true rfl, Nat.le_of_ble_eq_true rfl⟩, rfl, S.2.2.2.2 _ wd_2_40⟩ rfl hl.1 rfl (Nat.le_of_ble_eq_true rfl) d_RR_init_140 ⟨(show _ ≤ (281 + (4 + (1 + (xmax 1 (xmin 8 x1)).toNatClampNeg) + (1 + (xmax 1 (xmin 8 x1)).toNatClampNeg) + (1 + (xmax 1 (xmin 8 x1)).toNatClampNeg) + (1 + (xmax 1 (xmin 8 x1)).toNatClampNeg) + (1 + (xmax 1 (xmin 21 x2)).toNatClampNeg))) by (try dsimp only); omega), (show _ ≤ (23025 + (27 + (xmax 1 (xmin 8 x1)).toNatClampNeg + ((xmax 1 (xmin 8 x1)).toNatClampNeg + (xmax 1 (xmin 8 x1)).toNatClampNeg * (7 + (xmax 1 (xmin 21 x2))).toNatClampNeg) + ((xmax 1 (xmin 8 x1)).toNatClampNeg + (xmax 1 (xmin 8 x1)).toNatClampNeg * (xmax 1 (xmin 21 x2)).toNatClampNeg) + ((xmax 1 (xmin 8 x1)).toNatClampNeg + (xmax 1 (xmin 8 x1)).toNatClampNeg * (xmax 1 (xmin 21 x2)).toNatClampNeg) + ((xmax 1 (xmin 8 x1)).toNatClampNeg + (xmax 1 (xmin 8 x1)).toNatClampNeg * 9) + ((xmax 1 (xmin 21 x2)).toNatClampNeg + (xmax 1 (xmin 21 x2)).toNatClampNeg * 9))) by (try dsimp only); omega)⟩ (fun H locs hw => ?_)
  obtain ⟨w181, hw181, hf⟩ := xb hf
  refine x_aast S hw (t := 3) rfl rfl hw181 d_RR_init_143 (fun H locs hw => ?_)
  refine lv_aload_n S.1 S.2.1 d_RR_init_144 rfl (lv_at hl 1 rfl) ?_
  obtain ⟨t182, ht182, hf⟩ := xb hf
  refine x_getr S hw lk_RR_36 ht182 d_RR_init_145 ?_
  refine lv_iload_n S.1 S.2.1 d_RR_init_148 rfl (lv_at hl 0 rfl) ?_
  obtain ⟨w183, hw183, hf⟩ := xlb hf
  refine x_new S hw nw_RR_30 hw183 (show _ ≤ (281 + (4 + (1 + (xmax 1 (xmin 8 x1)).toNatClampNeg) + (1 + (xmax 1 (xmin 8 x1)).toNatClampNeg) + (1 + (xmax 1 (xmin 8 x1)).toNatClampNeg) + (1 + (xmax 1 (xmin 8 x1)).toNatClampNeg) + (1 + (xmax 1 (xmin 21 x2)).toNatClampNeg))) by (try dsimp only); omega) (show _ ≤ (23025 + (27 + (xmax 1 (xmin 8 x1)).toNatClampNeg + ((xmax 1 (xmin 8 x1)).toNatClampNeg + (xmax 1 (xmin 8 x1)).toNatClampNeg * (7 + (xmax 1 (xmin 21 x2))).toNatClampNeg) + ((xmax 1 (xmin 8 x1)).toNatClampNeg + (xmax 1 (xmin 8 x1)).toNatClampNeg * (xmax 1 (xmin 21 x2)).toNatClampNeg) + ((xmax 1 (xmin 8 x1)).toNatClampNeg + (xmax 1 (xmin 8 x1)).toNatClampNeg * (xmax 1 (xmin 21 x2)).toNatClampNeg) + ((xmax 1 (xmin 8 x1)).toNatClampNeg + (xmax 1 (xmin 8 x1)).toNatClampNeg * 9) + ((xmax 1 (xmin 21 x2)).toNatClampNeg + (xmax 1 (xmin 21 x2)).toNatClampNeg * 9))) by (try dsimp only); omega) d_RR_init_149 (fun H hw => ?_)
  refine lv_dup S.1 S.2.1 d_RR_init_152 rfl ?_
  obtain ⟨w184, h185, hf⟩ := xb hf
  refine x_callIN (As := []) (rest := [.ref ((((((((z + 18) + 4) + 1 + (xmax 1 (xmin 8 x1)).toNatClampNeg) + 1 + (xmax 1 (xmin 8 x1)).toNatClampNeg) + 1 + (xmax 1 (xmin 8 x1)).toNatClampNeg) + 1 + (xmax 1 (xmin 8 x1)).toNatClampNeg) + 1 + (xmax 1 (xmin 21 x2)).toNatClampNeg) + 223), .int 13, .ref t182]) S hw (c_Law_init h185) ⟨va_cnB (host := "RosterRules") 0 S.2.2.2.2 gi_Law_init rfl rfl rfl (hw.1.2.2.1 _ wn_2_39) (S.2.2.2.2 _ wd_1_11) hi_Law_init ⟨Nat.le_of_ble_eq_true rfl, Nat.le_of_ble_eq_true rfl⟩, rfl, S.2.2.2.2 _ wd_2_40⟩ rfl hl.1 rfl (Nat.le_of_ble_eq_true rfl) d_RR_init_153 ⟨(show _ ≤ (281 + (4 + (1 + (xmax 1 (xmin 8 x1)).toNatClampNeg) + (1 + (xmax 1 (xmin 8 x1)).toNatClampNeg) + (1 + (xmax 1 (xmin 8 x1)).toNatClampNeg) + (1 + (xmax 1 (xmin 8 x1)).toNatClampNeg) + (1 + (xmax 1 (xmin 21 x2)).toNatClampNeg))) by (try dsimp only); omega), (show _ ≤ (23025 + (27 + (xmax 1 (xmin 8 x1)).toNatClampNeg + ((xmax 1 (xmin 8 x1)).toNatClampNeg + (xmax 1 (xmin 8 x1)).toNatClampNeg * (7 + (xmax 1 (xmin 21 x2))).toNatClampNeg) + ((xmax 1 (xmin 8 x1)).toNatClampNeg + (xmax 1 (xmin 8 x1)).toNatClampNeg * (xmax 1 (xmin 21 x2)).toNatClampNeg) + ((xmax 1 (xmin 8 x1)).toNatClampNeg + (xmax 1 (xmin 8 x1)).toNatClampNeg * (xmax 1 (xmin 21 x2)).toNatClampNeg) + ((xmax 1 (xmin 8 x1)).toNatClampNeg + (xmax 1 (xmin 8 x1)).toNatClampNeg * 9) + ((xmax 1 (xmin 21 x2)).toNatClampNeg + (xmax 1 (xmin 21 x2)).toNatClampNeg * 9))) by (try dsimp only); omega)⟩ (fun H locs hw => ?_)
  obtain ⟨w186, hw186, hf⟩ := xb hf
  refine x_aast S hw (t := 3) rfl rfl hw186 d_RR_init_156 (fun H locs hw => ?_)
  refine lv_iinc (v := 14) (lv' := [(3, .int 14), (0, .ref a0), (1, .int x1), (2, .int x2)]) S.1 S.2.1 d_RR_init_157 hl (k := 0) rfl rfl (by decide) rfl (fun ls hl => ?_)
  refine lv_goto (tgt := 125) S.1 S.2.1 d_RR_init_160 (by decide) ?_
  refine lv_iload_n S.1 S.2.1 d_RR_init_125 rfl (lv_at hl 0 rfl) ?_
  refine lv_bipush (v := 16) S.1 S.2.1 d_RR_init_126 (by decide) ?_
  refine lv_icmp_ge (tgt := 163) S.1 S.2.1 d_RR_init_128 (by decide) (fun c187 => absurd c187 (by decide)) (fun c187 => ?_)
  refine lv_aload_n S.1 S.2.1 d_RR_init_131 rfl (lv_at hl 1 rfl) ?_
  obtain ⟨t188, ht188, hf⟩ := xb hf
  refine x_getr S hw lk_RR_32 ht188 d_RR_init_132 ?_
  refine lv_iload_n S.1 S.2.1 d_RR_init_135 rfl (lv_at hl 0 rfl) ?_
  obtain ⟨w189, hw189, hf⟩ := xlb hf
  refine x_new S hw nw_RR_30 hw189 (show _ ≤ (281 + (4 + (1 + (xmax 1 (xmin 8 x1)).toNatClampNeg) + (1 + (xmax 1 (xmin 8 x1)).toNatClampNeg) + (1 + (xmax 1 (xmin 8 x1)).toNatClampNeg) + (1 + (xmax 1 (xmin 8 x1)).toNatClampNeg) + (1 + (xmax 1 (xmin 21 x2)).toNatClampNeg))) by (try dsimp only); omega) (show _ ≤ (23025 + (27 + (xmax 1 (xmin 8 x1)).toNatClampNeg + ((xmax 1 (xmin 8 x1)).toNatClampNeg + (xmax 1 (xmin 8 x1)).toNatClampNeg * (7 + (xmax 1 (xmin 21 x2))).toNatClampNeg) + ((xmax 1 (xmin 8 x1)).toNatClampNeg + (xmax 1 (xmin 8 x1)).toNatClampNeg * (xmax 1 (xmin 21 x2)).toNatClampNeg) + ((xmax 1 (xmin 8 x1)).toNatClampNeg + (xmax 1 (xmin 8 x1)).toNatClampNeg * (xmax 1 (xmin 21 x2)).toNatClampNeg) + ((xmax 1 (xmin 8 x1)).toNatClampNeg + (xmax 1 (xmin 8 x1)).toNatClampNeg * 9) + ((xmax 1 (xmin 21 x2)).toNatClampNeg + (xmax 1 (xmin 21 x2)).toNatClampNeg * 9))) by (try dsimp only); omega) d_RR_init_136 (fun H hw => ?_)
  refine lv_dup S.1 S.2.1 d_RR_init_139 rfl ?_
  obtain ⟨w190, h191, hf⟩ := xb hf
  refine x_callIN (As := []) (rest := [.ref ((((((((z + 18) + 4) + 1 + (xmax 1 (xmin 8 x1)).toNatClampNeg) + 1 + (xmax 1 (xmin 8 x1)).toNatClampNeg) + 1 + (xmax 1 (xmin 8 x1)).toNatClampNeg) + 1 + (xmax 1 (xmin 8 x1)).toNatClampNeg) + 1 + (xmax 1 (xmin 21 x2)).toNatClampNeg) + 231), .int 14, .ref t188]) S hw (c_Law_init h191) ⟨va_cnB (host := "RosterRules") 0 S.2.2.2.2 gi_Law_init rfl rfl rfl (hw.1.2.2.1 _ wn_2_39) (S.2.2.2.2 _ wd_1_11) hi_Law_init ⟨Nat.le_of_ble_eq_true rfl, Nat.le_of_ble_eq_true rfl⟩, rfl, S.2.2.2.2 _ wd_2_40⟩ rfl hl.1 rfl (Nat.le_of_ble_eq_true rfl) d_RR_init_140 ⟨(show _ ≤ (281 + (4 + (1 + (xmax 1 (xmin 8 x1)).toNatClampNeg) + (1 + (xmax 1 (xmin 8 x1)).toNatClampNeg) + (1 + (xmax 1 (xmin 8 x1)).toNatClampNeg) + (1 + (xmax 1 (xmin 8 x1)).toNatClampNeg) + (1 + (xmax 1 (xmin 21 x2)).toNatClampNeg))) by (try dsimp only); omega), (show _ ≤ (23025 + (27 + (xmax 1 (xmin 8 x1)).toNatClampNeg + ((xmax 1 (xmin 8 x1)).toNatClampNeg + (xmax 1 (xmin 8 x1)).toNatClampNeg * (7 + (xmax 1 (xmin 21 x2))).toNatClampNeg) + ((xmax 1 (xmin 8 x1)).toNatClampNeg + (xmax 1 (xmin 8 x1)).toNatClampNeg * (xmax 1 (xmin 21 x2)).toNatClampNeg) + ((xmax 1 (xmin 8 x1)).toNatClampNeg + (xmax 1 (xmin 8 x1)).toNatClampNeg * (xmax 1 (xmin 21 x2)).toNatClampNeg) + ((xmax 1 (xmin 8 x1)).toNatClampNeg + (xmax 1 (xmin 8 x1)).toNatClampNeg * 9) + ((xmax 1 (xmin 21 x2)).toNatClampNeg + (xmax 1 (xmin 21 x2)).toNatClampNeg * 9))) by (try dsimp only); omega)⟩ (fun H locs hw => ?_)
  obtain ⟨w192, hw192, hf⟩ := xb hf
  refine x_aast S hw (t := 3) rfl rfl hw192 d_RR_init_143 (fun H locs hw => ?_)
  refine lv_aload_n S.1 S.2.1 d_RR_init_144 rfl (lv_at hl 1 rfl) ?_
  obtain ⟨t193, ht193, hf⟩ := xb hf
  refine x_getr S hw lk_RR_36 ht193 d_RR_init_145 ?_
  refine lv_iload_n S.1 S.2.1 d_RR_init_148 rfl (lv_at hl 0 rfl) ?_
  obtain ⟨w194, hw194, hf⟩ := xlb hf
  refine x_new S hw nw_RR_30 hw194 (show _ ≤ (281 + (4 + (1 + (xmax 1 (xmin 8 x1)).toNatClampNeg) + (1 + (xmax 1 (xmin 8 x1)).toNatClampNeg) + (1 + (xmax 1 (xmin 8 x1)).toNatClampNeg) + (1 + (xmax 1 (xmin 8 x1)).toNatClampNeg) + (1 + (xmax 1 (xmin 21 x2)).toNatClampNeg))) by (try dsimp only); omega) (show _ ≤ (23025 + (27 + (xmax 1 (xmin 8 x1)).toNatClampNeg + ((xmax 1 (xmin 8 x1)).toNatClampNeg + (xmax 1 (xmin 8 x1)).toNatClampNeg * (7 + (xmax 1 (xmin 21 x2))).toNatClampNeg) + ((xmax 1 (xmin 8 x1)).toNatClampNeg + (xmax 1 (xmin 8 x1)).toNatClampNeg * (xmax 1 (xmin 21 x2)).toNatClampNeg) + ((xmax 1 (xmin 8 x1)).toNatClampNeg + (xmax 1 (xmin 8 x1)).toNatClampNeg * (xmax 1 (xmin 21 x2)).toNatClampNeg) + ((xmax 1 (xmin 8 x1)).toNatClampNeg + (xmax 1 (xmin 8 x1)).toNatClampNeg * 9) + ((xmax 1 (xmin 21 x2)).toNatClampNeg + (xmax 1 (xmin 21 x2)).toNatClampNeg * 9))) by (try dsimp only); omega) d_RR_init_149 (fun H hw => ?_)
  refine lv_dup S.1 S.2.1 d_RR_init_152 rfl ?_
  obtain ⟨w195, h196, hf⟩ := xb hf
  refine x_callIN (As := []) (rest := [.ref ((((((((z + 18) + 4) + 1 + (xmax 1 (xmin 8 x1)).toNatClampNeg) + 1 + (xmax 1 (xmin 8 x1)).toNatClampNeg) + 1 + (xmax 1 (xmin 8 x1)).toNatClampNeg) + 1 + (xmax 1 (xmin 8 x1)).toNatClampNeg) + 1 + (xmax 1 (xmin 21 x2)).toNatClampNeg) + 239), .int 14, .ref t193]) S hw (c_Law_init h196) ⟨va_cnB (host := "RosterRules") 0 S.2.2.2.2 gi_Law_init rfl rfl rfl (hw.1.2.2.1 _ wn_2_39) (S.2.2.2.2 _ wd_1_11) hi_Law_init ⟨Nat.le_of_ble_eq_true rfl, Nat.le_of_ble_eq_true rfl⟩, rfl, S.2.2.2.2 _ wd_2_40⟩ rfl hl.1 rfl (Nat.le_of_ble_eq_true rfl) d_RR_init_153 ⟨(show _ ≤ (281 + (4 + (1 + (xmax 1 (xmin 8 x1)).toNatClampNeg) + (1 + (xmax 1 (xmin 8 x1)).toNatClampNeg) + (1 + (xmax 1 (xmin 8 x1)).toNatClampNeg) + (1 + (xmax 1 (xmin 8 x1)).toNatClampNeg) + (1 + (xmax 1 (xmin 21 x2)).toNatClampNeg))) by (try dsimp only); omega), (show _ ≤ (23025 + (27 + (xmax 1 (xmin 8 x1)).toNatClampNeg + ((xmax 1 (xmin 8 x1)).toNatClampNeg + (xmax 1 (xmin 8 x1)).toNatClampNeg * (7 + (xmax 1 (xmin 21 x2))).toNatClampNeg) + ((xmax 1 (xmin 8 x1)).toNatClampNeg + (xmax 1 (xmin 8 x1)).toNatClampNeg * (xmax 1 (xmin 21 x2)).toNatClampNeg) + ((xmax 1 (xmin 8 x1)).toNatClampNeg + (xmax 1 (xmin 8 x1)).toNatClampNeg * (xmax 1 (xmin 21 x2)).toNatClampNeg) + ((xmax 1 (xmin 8 x1)).toNatClampNeg + (xmax 1 (xmin 8 x1)).toNatClampNeg * 9) + ((xmax 1 (xmin 21 x2)).toNatClampNeg + (xmax 1 (xmin 21 x2)).toNatClampNeg * 9))) by (try dsimp only); omega)⟩ (fun H locs hw => ?_)
  obtain ⟨w197, hw197, hf⟩ := xb hf
  refine x_aast S hw (t := 3) rfl rfl hw197 d_RR_init_156 (fun H locs hw => ?_)
  refine lv_iinc (v := 15) (lv' := [(3, .int 15), (0, .ref a0), (1, .int x1), (2, .int x2)]) S.1 S.2.1 d_RR_init_157 hl (k := 0) rfl rfl (by decide) rfl (fun ls hl => ?_)
  refine lv_goto (tgt := 125) S.1 S.2.1 d_RR_init_160 (by decide) ?_
  refine lv_iload_n S.1 S.2.1 d_RR_init_125 rfl (lv_at hl 0 rfl) ?_
  refine lv_bipush (v := 16) S.1 S.2.1 d_RR_init_126 (by decide) ?_
  refine lv_icmp_ge (tgt := 163) S.1 S.2.1 d_RR_init_128 (by decide) (fun c198 => absurd c198 (by decide)) (fun c198 => ?_)
  refine lv_aload_n S.1 S.2.1 d_RR_init_131 rfl (lv_at hl 1 rfl) ?_
  obtain ⟨t199, ht199, hf⟩ := xb hf
  refine x_getr S hw lk_RR_32 ht199 d_RR_init_132 ?_
  refine lv_iload_n S.1 S.2.1 d_RR_init_135 rfl (lv_at hl 0 rfl) ?_
  obtain ⟨w200, hw200, hf⟩ := xlb hf
  refine x_new S hw nw_RR_30 hw200 (show _ ≤ (281 + (4 + (1 + (xmax 1 (xmin 8 x1)).toNatClampNeg) + (1 + (xmax 1 (xmin 8 x1)).toNatClampNeg) + (1 + (xmax 1 (xmin 8 x1)).toNatClampNeg) + (1 + (xmax 1 (xmin 8 x1)).toNatClampNeg) + (1 + (xmax 1 (xmin 21 x2)).toNatClampNeg))) by (try dsimp only); omega) (show _ ≤ (23025 + (27 + (xmax 1 (xmin 8 x1)).toNatClampNeg + ((xmax 1 (xmin 8 x1)).toNatClampNeg + (xmax 1 (xmin 8 x1)).toNatClampNeg * (7 + (xmax 1 (xmin 21 x2))).toNatClampNeg) + ((xmax 1 (xmin 8 x1)).toNatClampNeg + (xmax 1 (xmin 8 x1)).toNatClampNeg * (xmax 1 (xmin 21 x2)).toNatClampNeg) + ((xmax 1 (xmin 8 x1)).toNatClampNeg + (xmax 1 (xmin 8 x1)).toNatClampNeg * (xmax 1 (xmin 21 x2)).toNatClampNeg) + ((xmax 1 (xmin 8 x1)).toNatClampNeg + (xmax 1 (xmin 8 x1)).toNatClampNeg * 9) + ((xmax 1 (xmin 21 x2)).toNatClampNeg + (xmax 1 (xmin 21 x2)).toNatClampNeg * 9))) by (try dsimp only); omega) d_RR_init_136 (fun H hw => ?_)
  refine lv_dup S.1 S.2.1 d_RR_init_139 rfl ?_
  obtain ⟨w201, h202, hf⟩ := xb hf
  refine x_callIN (As := []) (rest := [.ref ((((((((z + 18) + 4) + 1 + (xmax 1 (xmin 8 x1)).toNatClampNeg) + 1 + (xmax 1 (xmin 8 x1)).toNatClampNeg) + 1 + (xmax 1 (xmin 8 x1)).toNatClampNeg) + 1 + (xmax 1 (xmin 8 x1)).toNatClampNeg) + 1 + (xmax 1 (xmin 21 x2)).toNatClampNeg) + 247), .int 15, .ref t199]) S hw (c_Law_init h202) ⟨va_cnB (host := "RosterRules") 0 S.2.2.2.2 gi_Law_init rfl rfl rfl (hw.1.2.2.1 _ wn_2_39) (S.2.2.2.2 _ wd_1_11) hi_Law_init ⟨Nat.le_of_ble_eq_true rfl, Nat.le_of_ble_eq_true rfl⟩, rfl, S.2.2.2.2 _ wd_2_40⟩ rfl hl.1 rfl (Nat.le_of_ble_eq_true rfl) d_RR_init_140 ⟨(show _ ≤ (281 + (4 + (1 + (xmax 1 (xmin 8 x1)).toNatClampNeg) + (1 + (xmax 1 (xmin 8 x1)).toNatClampNeg) + (1 + (xmax 1 (xmin 8 x1)).toNatClampNeg) + (1 + (xmax 1 (xmin 8 x1)).toNatClampNeg) + (1 + (xmax 1 (xmin 21 x2)).toNatClampNeg))) by (try dsimp only); omega), (show _ ≤ (23025 + (27 + (xmax 1 (xmin 8 x1)).toNatClampNeg + ((xmax 1 (xmin 8 x1)).toNatClampNeg + (xmax 1 (xmin 8 x1)).toNatClampNeg * (7 + (xmax 1 (xmin 21 x2))).toNatClampNeg) + ((xmax 1 (xmin 8 x1)).toNatClampNeg + (xmax 1 (xmin 8 x1)).toNatClampNeg * (xmax 1 (xmin 21 x2)).toNatClampNeg) + ((xmax 1 (xmin 8 x1)).toNatClampNeg + (xmax 1 (xmin 8 x1)).toNatClampNeg * (xmax 1 (xmin 21 x2)).toNatClampNeg) + ((xmax 1 (xmin 8 x1)).toNatClampNeg + (xmax 1 (xmin 8 x1)).toNatClampNeg * 9) + ((xmax 1 (xmin 21 x2)).toNatClampNeg + (xmax 1 (xmin 21 x2)).toNatClampNeg * 9))) by (try dsimp only); omega)⟩ (fun H locs hw => ?_)
  obtain ⟨w203, hw203, hf⟩ := xb hf
  refine x_aast S hw (t := 3) rfl rfl hw203 d_RR_init_143 (fun H locs hw => ?_)
  refine lv_aload_n S.1 S.2.1 d_RR_init_144 rfl (lv_at hl 1 rfl) ?_
  obtain ⟨t204, ht204, hf⟩ := xb hf
  refine x_getr S hw lk_RR_36 ht204 d_RR_init_145 ?_
  refine lv_iload_n S.1 S.2.1 d_RR_init_148 rfl (lv_at hl 0 rfl) ?_
  obtain ⟨w205, hw205, hf⟩ := xlb hf
  refine x_new S hw nw_RR_30 hw205 (show _ ≤ (281 + (4 + (1 + (xmax 1 (xmin 8 x1)).toNatClampNeg) + (1 + (xmax 1 (xmin 8 x1)).toNatClampNeg) + (1 + (xmax 1 (xmin 8 x1)).toNatClampNeg) + (1 + (xmax 1 (xmin 8 x1)).toNatClampNeg) + (1 + (xmax 1 (xmin 21 x2)).toNatClampNeg))) by (try dsimp only); omega) (show _ ≤ (23025 + (27 + (xmax 1 (xmin 8 x1)).toNatClampNeg + ((xmax 1 (xmin 8 x1)).toNatClampNeg + (xmax 1 (xmin 8 x1)).toNatClampNeg * (7 + (xmax 1 (xmin 21 x2))).toNatClampNeg) + ((xmax 1 (xmin 8 x1)).toNatClampNeg + (xmax 1 (xmin 8 x1)).toNatClampNeg * (xmax 1 (xmin 21 x2)).toNatClampNeg) + ((xmax 1 (xmin 8 x1)).toNatClampNeg + (xmax 1 (xmin 8 x1)).toNatClampNeg * (xmax 1 (xmin 21 x2)).toNatClampNeg) + ((xmax 1 (xmin 8 x1)).toNatClampNeg + (xmax 1 (xmin 8 x1)).toNatClampNeg * 9) + ((xmax 1 (xmin 21 x2)).toNatClampNeg + (xmax 1 (xmin 21 x2)).toNatClampNeg * 9))) by (try dsimp only); omega) d_RR_init_149 (fun H hw => ?_)
  refine lv_dup S.1 S.2.1 d_RR_init_152 rfl ?_
  obtain ⟨w206, h207, hf⟩ := xb hf
  refine x_callIN (As := []) (rest := [.ref ((((((((z + 18) + 4) + 1 + (xmax 1 (xmin 8 x1)).toNatClampNeg) + 1 + (xmax 1 (xmin 8 x1)).toNatClampNeg) + 1 + (xmax 1 (xmin 8 x1)).toNatClampNeg) + 1 + (xmax 1 (xmin 8 x1)).toNatClampNeg) + 1 + (xmax 1 (xmin 21 x2)).toNatClampNeg) + 255), .int 15, .ref t204]) S hw (c_Law_init h207) ⟨va_cnB (host := "RosterRules") 0 S.2.2.2.2 gi_Law_init rfl rfl rfl (hw.1.2.2.1 _ wn_2_39) (S.2.2.2.2 _ wd_1_11) hi_Law_init ⟨Nat.le_of_ble_eq_true rfl, Nat.le_of_ble_eq_true rfl⟩, rfl, S.2.2.2.2 _ wd_2_40⟩ rfl hl.1 rfl (Nat.le_of_ble_eq_true rfl) d_RR_init_153 ⟨(show _ ≤ (281 + (4 + (1 + (xmax 1 (xmin 8 x1)).toNatClampNeg) + (1 + (xmax 1 (xmin 8 x1)).toNatClampNeg) + (1 + (xmax 1 (xmin 8 x1)).toNatClampNeg) + (1 + (xmax 1 (xmin 8 x1)).toNatClampNeg) + (1 + (xmax 1 (xmin 21 x2)).toNatClampNeg))) by (try dsimp only); omega), (show _ ≤ (23025 + (27 + (xmax 1 (xmin 8 x1)).toNatClampNeg + ((xmax 1 (xmin 8 x1)).toNatClampNeg + (xmax 1 (xmin 8 x1)).toNatClampNeg * (7 + (xmax 1 (xmin 21 x2))).toNatClampNeg) + ((xmax 1 (xmin 8 x1)).toNatClampNeg + (xmax 1 (xmin 8 x1)).toNatClampNeg * (xmax 1 (xmin 21 x2)).toNatClampNeg) + ((xmax 1 (xmin 8 x1)).toNatClampNeg + (xmax 1 (xmin 8 x1)).toNatClampNeg * (xmax 1 (xmin 21 x2)).toNatClampNeg) + ((xmax 1 (xmin 8 x1)).toNatClampNeg + (xmax 1 (xmin 8 x1)).toNatClampNeg * 9) + ((xmax 1 (xmin 21 x2)).toNatClampNeg + (xmax 1 (xmin 21 x2)).toNatClampNeg * 9))) by (try dsimp only); omega)⟩ (fun H locs hw => ?_)
  obtain ⟨w208, hw208, hf⟩ := xb hf
  refine x_aast S hw (t := 3) rfl rfl hw208 d_RR_init_156 (fun H locs hw => ?_)
  refine lv_iinc (v := 16) (lv' := [(3, .int 16), (0, .ref a0), (1, .int x1), (2, .int x2)]) S.1 S.2.1 d_RR_init_157 hl (k := 0) rfl rfl (by decide) rfl (fun ls hl => ?_)
  refine lv_goto (tgt := 125) S.1 S.2.1 d_RR_init_160 (by decide) ?_
  refine lv_iload_n S.1 S.2.1 d_RR_init_125 rfl (lv_at hl 0 rfl) ?_
  refine lv_bipush (v := 16) S.1 S.2.1 d_RR_init_126 (by decide) ?_
  refine lv_icmp_ge (tgt := 163) S.1 S.2.1 d_RR_init_128 (by decide) (fun c209 => ?_) (fun c209 => absurd (by decide) c209)
  cases hf
  refine W.widen (k := (281 + (4 + (1 + (xmax 1 (xmin 8 x1)).toNatClampNeg) + (1 + (xmax 1 (xmin 8 x1)).toNatClampNeg) + (1 + (xmax 1 (xmin 8 x1)).toNatClampNeg) + (1 + (xmax 1 (xmin 8 x1)).toNatClampNeg) + (1 + (xmax 1 (xmin 21 x2)).toNatClampNeg)))) (n := (23025 + (27 + (xmax 1 (xmin 8 x1)).toNatClampNeg + ((xmax 1 (xmin 8 x1)).toNatClampNeg + (xmax 1 (xmin 8 x1)).toNatClampNeg * (7 + (xmax 1 (xmin 21 x2))).toNatClampNeg) + ((xmax 1 (xmin 8 x1)).toNatClampNeg + (xmax 1 (xmin 8 x1)).toNatClampNeg * (xmax 1 (xmin 21 x2)).toNatClampNeg) + ((xmax 1 (xmin 8 x1)).toNatClampNeg + (xmax 1 (xmin 8 x1)).toNatClampNeg * (xmax 1 (xmin 21 x2)).toNatClampNeg) + ((xmax 1 (xmin 8 x1)).toNatClampNeg + (xmax 1 (xmin 8 x1)).toNatClampNeg * 9) + ((xmax 1 (xmin 21 x2)).toNatClampNeg + (xmax 1 (xmin 21 x2)).toNatClampNeg * 9)))) (by (try dsimp only); omega) (by (try dsimp only); omega) ?_
  exact x_vret S hr hlocks hw d_RR_init_163
