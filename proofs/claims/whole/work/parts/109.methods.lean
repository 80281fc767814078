def f_Roster_setCell (a0 : Nat) (x1 : Int32) (x2 : Int32) (x3 : Int32) (ω : xS) : Option xS :=
  (xk ω a0 8 (f_Roster_letterOf a0 x1 x2 ω)).bind fun t2 =>
  (xgr ω a0 8 6).bind fun t3 =>
  (xar ω 2 t3 x1).bind fun t4 =>
  (xsi ω t4 (7 + x2) x3).bind fun w5 =>
  (xgr w5 a0 8 9).bind fun t6 =>
  (xar w5 2 t6 x1).bind fun t7 =>
  (xai w5 t7 t2).bind fun t8 =>
  (xsi w5 t7 t2 (t8 - 1)).bind fun w9 =>
  (xgr w9 a0 8 10).bind fun t10 =>
  (xar w9 2 t10 x2).bind fun t11 =>
  (xai w9 t11 t2).bind fun t12 =>
  (xsi w9 t11 t2 (t12 - 1)).bind fun w13 =>
  (xgr w13 a0 8 9).bind fun t14 =>
  (xar w13 2 t14 x1).bind fun t15 =>
  (xai w13 t15 x3).bind fun t16 =>
  (xsi w13 t15 x3 (t16 + 1)).bind fun w17 =>
  (xgr w17 a0 8 10).bind fun t18 =>
  (xar w17 2 t18 x2).bind fun t19 =>
  (xai w17 t19 x3).bind fun t20 =>
  (xsi w17 t19 x3 (t20 + 1)).bind fun w21 =>
  (xgi w21 a0 8 11).bind fun t22 =>
  if x3 = 0 then (
    if t2 = 0 then (
      (xp w21 a0 8 11 (.int (t22 + (0 - 0)))).bind fun w29 =>
      some w29)
    else (
      (xp w21 a0 8 11 (.int (t22 + (0 - 1)))).bind fun w28 =>
      some w28))
  else (
    if t2 = 0 then (
      (xp w21 a0 8 11 (.int (t22 + (1 - 0)))).bind fun w26 =>
      some w26)
    else (
      (xp w21 a0 8 11 (.int (t22 + (1 - 1)))).bind fun w25 =>
      some w25))
set_option maxHeartbeats 4000000 in
set_option maxRecDepth 100000 in
theorem c_Roster_setCell {l : Launch} {E : xV} {z : Nat} {a0 : Nat} {x1 : Int32} {x2 : Int32} {x3 : Int32} {ω1 : xS} {ω : xS} (hf : f_Roster_setCell a0 x1 x2 x3 ω = some ω1) : xM l E y_Roster_setCell ws_Roster_setCell { frames := 1, cells := 0, slots := 0, locals := 22 } [.ref a0, .int x1, .int x2, .int x3] z ω none z ω1 := by
  refine x_start (cc := b_Roster_setCell) (maxL := 5) (ret := none) (by decide) rfl (Nat.le_of_ble_eq_true rfl) ?_
  intro p e s m below meth c S hr hlocks hin ls hl hw
  have hl : lv_has ls 5 [(0, .ref a0), (1, .int x1), (2, .int x2), (3, .int x3)] := hl
  unfold f_Roster_setCell at hf
  refine lv_aload_n S.1 S.2.1 d_Roster_setCell_0 rfl (lv_at hl 0 rfl) ?_
  refine lv_iload_n S.1 S.2.1 d_Roster_setCell_1 rfl (lv_at hl 1 rfl) ?_
  refine lv_iload_n S.1 S.2.1 d_Roster_setCell_2 rfl (lv_at hl 2 rfl) ?_
  obtain ⟨t2, h1, hf⟩ := xb hf
  obtain ⟨h1b, h1⟩ := xkb h1
  refine x_callV (As := [.int x1, .int x2]) (rest := []) (st1 := [.int t2]) S hw (c_Roster_letterOf h1) (cwV 2 S.2.2.2.2 gv_Roster_48 rfl rfl rfl hd_Roster_letterOf ⟨Nat.le_of_ble_eq_true rfl, Nat.le_of_ble_eq_true rfl⟩) rfl h1b rfl hl.1 rfl rfl (Nat.le_of_ble_eq_true rfl) d_Roster_setCell_3 ⟨Nat.le_of_ble_eq_true rfl, Nat.le_of_ble_eq_true rfl⟩ (fun H locs hw => ?_)
  refine lv_istore (lv' := [(4, .int t2), (0, .ref a0), (1, .int x1), (2, .int x2), (3, .int x3)]) S.1 S.2.1 d_Roster_setCell_6 hl (by decide) rfl (fun ls hl => ?_)
  refine lv_aload_n S.1 S.2.1 d_Roster_setCell_8 rfl (lv_at hl 1 rfl) ?_
  obtain ⟨t3, ht3, hf⟩ := xb hf
  refine x_getr S hw lk_Roster_33 ht3 d_Roster_setCell_9 ?_
  refine lv_iload_n S.1 S.2.1 d_Roster_setCell_12 rfl (lv_at hl 2 rfl) ?_
  obtain ⟨t4, ht4, hf⟩ := xb hf
  refine x_aald S hw (t := 2) rfl rfl ht4 d_Roster_setCell_13 ?_
  refine lv_bipush (v := 7) S.1 S.2.1 d_Roster_setCell_14 (by decide) ?_
  refine lv_iload_n S.1 S.2.1 d_Roster_setCell_16 rfl (lv_at hl 3 rfl) ?_
  refine lv_iadd S.1 S.2.1 d_Roster_setCell_17 ?_
  refine lv_iload_n S.1 S.2.1 d_Roster_setCell_18 rfl (lv_at hl 4 rfl) ?_
  obtain ⟨w5, hw5, hf⟩ := xb hf
  refine x_iast S hw hw5 d_Roster_setCell_19 (fun H locs hw => ?_)
  refine lv_aload_n S.1 S.2.1 d_Roster_setCell_20 rfl (lv_at hl 1 rfl) ?_
  obtain ⟨t6, ht6, hf⟩ := xb hf
  refine x_getr S hw lk_Roster_42 ht6 d_Roster_setCell_21 ?_
  refine lv_iload_n S.1 S.2.1 d_Roster_setCell_24 rfl (lv_at hl 2 rfl) ?_
  obtain ⟨t7, ht7, hf⟩ := xb hf
  refine x_aald S hw (t := 2) rfl rfl ht7 d_Roster_setCell_25 ?_
  refine lv_iload S.1 S.2.1 d_Roster_setCell_26 (lv_at hl 0 rfl) ?_
  refine lv_dup2_11 S.1 S.2.1 d_Roster_setCell_28 rfl rfl ?_
  obtain ⟨t8, ht8, hf⟩ := xb hf
  refine x_iald S hw ht8 d_Roster_setCell_29 ?_
  refine lv_iconst (v := 1) S.1 S.2.1 d_Roster_setCell_30 (by decide) ?_
  refine lv_isub S.1 S.2.1 d_Roster_setCell_31 ?_
  obtain ⟨w9, hw9, hf⟩ := xb hf
  refine x_iast S hw hw9 d_Roster_setCell_32 (fun H locs hw => ?_)
  refine lv_aload_n S.1 S.2.1 d_Roster_setCell_33 rfl (lv_at hl 1 rfl) ?_
  obtain ⟨t10, ht10, hf⟩ := xb hf
  refine x_getr S hw lk_Roster_45 ht10 d_Roster_setCell_34 ?_
  refine lv_iload_n S.1 S.2.1 d_Roster_setCell_37 rfl (lv_at hl 3 rfl) ?_
  obtain ⟨t11, ht11, hf⟩ := xb hf
  refine x_aald S hw (t := 2) rfl rfl ht11 d_Roster_setCell_38 ?_
  refine lv_iload S.1 S.2.1 d_Roster_setCell_39 (lv_at hl 0 rfl) ?_
  refine lv_dup2_11 S.1 S.2.1 d_Roster_setCell_41 rfl rfl ?_
  obtain ⟨t12, ht12, hf⟩ := xb hf
  refine x_iald S hw ht12 d_Roster_setCell_42 ?_
  refine lv_iconst (v := 1) S.1 S.2.1 d_Roster_setCell_43 (by decide) ?_
  refine lv_isub S.1 S.2.1 d_Roster_setCell_44 ?_
  obtain ⟨w13, hw13, hf⟩ := xb hf
  refine x_iast S hw hw13 d_Roster_setCell_45 (fun H locs hw => ?_)
  refine lv_aload_n S.1 S.2.1 d_Roster_setCell_46 rfl (lv_at hl 1 rfl) ?_
  obtain ⟨t14, ht14, hf⟩ := xb hf
  refine x_getr S hw lk_Roster_42 ht14 d_Roster_setCell_47 ?_
  refine lv_iload_n S.1 S.2.1 d_Roster_setCell_50 rfl (lv_at hl 2 rfl) ?_
  obtain ⟨t15, ht15, hf⟩ := xb hf
  refine x_aald S hw (t := 2) rfl rfl ht15 d_Roster_setCell_51 ?_
  refine lv_iload_n S.1 S.2.1 d_Roster_setCell_52 rfl (lv_at hl 4 rfl) ?_
  refine lv_dup2_11 S.1 S.2.1 d_Roster_setCell_53 rfl rfl ?_
  obtain ⟨t16, ht16, hf⟩ := xb hf
  refine x_iald S hw ht16 d_Roster_setCell_54 ?_
  refine lv_iconst (v := 1) S.1 S.2.1 d_Roster_setCell_55 (by decide) ?_
  refine lv_iadd S.1 S.2.1 d_Roster_setCell_56 ?_
  obtain ⟨w17, hw17, hf⟩ := xb hf
  refine x_iast S hw hw17 d_Roster_setCell_57 (fun H locs hw => ?_)
  refine lv_aload_n S.1 S.2.1 d_Roster_setCell_58 rfl (lv_at hl 1 rfl) ?_
  obtain ⟨t18, ht18, hf⟩ := xb hf
  refine x_getr S hw lk_Roster_45 ht18 d_Roster_setCell_59 ?_
  refine lv_iload_n S.1 S.2.1 d_Roster_setCell_62 rfl (lv_at hl 3 rfl) ?_
  obtain ⟨t19, ht19, hf⟩ := xb hf
  refine x_aald S hw (t := 2) rfl rfl ht19 d_Roster_setCell_63 ?_
  refine lv_iload_n S.1 S.2.1 d_Roster_setCell_64 rfl (lv_at hl 4 rfl) ?_
  refine lv_dup2_11 S.1 S.2.1 d_Roster_setCell_65 rfl rfl ?_
  obtain ⟨t20, ht20, hf⟩ := xb hf
  refine x_iald S hw ht20 d_Roster_setCell_66 ?_
  refine lv_iconst (v := 1) S.1 S.2.1 d_Roster_setCell_67 (by decide) ?_
  refine lv_iadd S.1 S.2.1 d_Roster_setCell_68 ?_
  obtain ⟨w21, hw21, hf⟩ := xb hf
  refine x_iast S hw hw21 d_Roster_setCell_69 (fun H locs hw => ?_)
  refine lv_aload_n S.1 S.2.1 d_Roster_setCell_70 rfl (lv_at hl 1 rfl) ?_
  refine lv_dup S.1 S.2.1 d_Roster_setCell_71 rfl ?_
  obtain ⟨t22, ht22, hf⟩ := xb hf
  refine x_geti S hw lk_Roster_52 ht22 d_Roster_setCell_72 ?_
  refine lv_iload_n S.1 S.2.1 d_Roster_setCell_75 rfl (lv_at hl 4 rfl) ?_
  refine lv_if_ne (tgt := 83) S.1 S.2.1 d_Roster_setCell_76 (by decide) (fun c23 => ?_) (fun c23 => ?_)
  · replace hf := xf c23 hf
    refine lv_iconst (v := 1) S.1 S.2.1 d_Roster_setCell_83 (by decide) ?_
    refine lv_iload S.1 S.2.1 d_Roster_setCell_84 (lv_at hl 0 rfl) ?_
    refine lv_if_ne (tgt := 93) S.1 S.2.1 d_Roster_setCell_86 (by decide) (fun c24 => ?_) (fun c24 => ?_)
    · replace hf := xf c24 hf
      refine lv_iconst (v := 1) S.1 S.2.1 d_Roster_setCell_93 (by decide) ?_
      refine lv_isub S.1 S.2.1 d_Roster_setCell_94 ?_
      refine lv_iadd S.1 S.2.1 d_Roster_setCell_95 ?_
      obtain ⟨w25, hw25, hf⟩ := xb hf
      refine x_puti S hw lp_Roster_52 hw25 d_Roster_setCell_96 (fun H locs hw => ?_)
      cases hf
      exact x_vret S hr hlocks hw d_Roster_setCell_99
    · replace hf := xt c24 hf
      refine lv_iconst (v := 0) S.1 S.2.1 d_Roster_setCell_89 (by decide) ?_
      refine lv_goto (tgt := 94) S.1 S.2.1 d_Roster_setCell_90 (by decide) ?_
      refine lv_isub S.1 S.2.1 d_Roster_setCell_94 ?_
      refine lv_iadd S.1 S.2.1 d_Roster_setCell_95 ?_
      obtain ⟨w26, hw26, hf⟩ := xb hf
      refine x_puti S hw lp_Roster_52 hw26 d_Roster_setCell_96 (fun H locs hw => ?_)
      cases hf
      exact x_vret S hr hlocks hw d_Roster_setCell_99
  · replace hf := xt c23 hf
    refine lv_iconst (v := 0) S.1 S.2.1 d_Roster_setCell_79 (by decide) ?_
    refine lv_goto (tgt := 84) S.1 S.2.1 d_Roster_setCell_80 (by decide) ?_
    refine lv_iload S.1 S.2.1 d_Roster_setCell_84 (lv_at hl 0 rfl) ?_
    refine lv_if_ne (tgt := 93) S.1 S.2.1 d_Roster_setCell_86 (by decide) (fun c27 => ?_) (fun c27 => ?_)
    · replace hf := xf c27 hf
      refine lv_iconst (v := 1) S.1 S.2.1 d_Roster_setCell_93 (by decide) ?_
      refine lv_isub S.1 S.2.1 d_Roster_setCell_94 ?_
      refine lv_iadd S.1 S.2.1 d_Roster_setCell_95 ?_
      obtain ⟨w28, hw28, hf⟩ := xb hf
      refine x_puti S hw lp_Roster_52 hw28 d_Roster_setCell_96 (fun H locs hw => ?_)
      cases hf
      exact x_vret S hr hlocks hw d_Roster_setCell_99
    · replace hf := xt c27 hf
      refine lv_iconst (v := 0) S.1 S.2.1 d_Roster_setCell_89 (by decide) ?_
      refine lv_goto (tgt := 94) S.1 S.2.1 d_Roster_setCell_90 (by decide) ?_
      refine lv_isub S.1 S.2.1 d_Roster_setCell_94 ?_
      refine lv_iadd S.1 S.2.1 d_Roster_setCell_95 ?_
      obtain ⟨w29, hw29, hf⟩ := xb hf
      refine x_puti S hw lp_Roster_52 hw29 d_Roster_setCell_96 (fun H locs hw => ?_)
      cases hf
      exact x_vret S hr hlocks hw d_Roster_setCell_99
def f_Roster_setWish_31 (a0 : Nat) (x1 : Int32) (x2 : Int32) (x3 : Int32) (x4 : Int32) (y0 : Int32) (y1 : Int32) (y2 : Int32) (y3 : Nat) (ω : xS) : Option xS :=
  (xp ω y3 8 12 (.int (y2 + (y1 - y0)))).bind fun w11 =>
  (xgr w11 a0 8 7).bind fun t12 =>
  (xar w11 2 t12 x1).bind fun t13 =>
  (xsi w11 t13 x2 x3).bind fun w14 =>
  (xgr w14 a0 8 8).bind fun t15 =>
  (xar w14 2 t15 x1).bind fun t16 =>
  (xsi w14 t16 x2 x4).bind fun w17 =>
  some w17
set_option maxHeartbeats 4000000 in
set_option maxRecDepth 100000 in
theorem w_Roster_setWish_31 {p : Program} {l : Launch} {e : Env} {s : State} {m : MethodId} {args : Array Value} {below : List Frame} {meth : Method} {c : Code} {E : xV} {z : Nat} {ω1 : xS} (S : CallFix p m c b_Roster_setWish 5 s args xTbl "RosterRules$Roster") (hr : meth.sig.returnType = none) (hlocks : meth.locks = false) : ∀ (a0 : Nat) (x1 : Int32) (x2 : Int32) (x3 : Int32) (x4 : Int32) (y0 : Int32) (y1 : Int32) (y2 : Int32) (y3 : Nat) (ω : xS) (H : Heap) (locs : List Loc) (ls : Array Slot), xW E z ω s s.heap H locs → lv_has ls 5 [(0, .ref a0), (1, .int x1), (2, .int x2), (3, .int x3), (4, .int x4)] → f_Roster_setWish_31 a0 x1 x2 x3 x4 y0 y1 y2 y3 ω = some ω1 → W p l e (headSpec ws_Roster_setWish { frames := 0, cells := 0, slots := 0, locals := 0 }).room s m args below meth c H locs 0 0 (MQ below (xQ E none z ω1) args s 0 0 (fun q => E.2.2 ≤ q)) (F0 m 31 ls [.int y0, .int y1, .int y2, .ref y3]) := by
  intro a0 x1 x2 x3 x4 y0 y1 y2 y3 ω H locs ls hw hl hf
  unfold f_Roster_setWish_31 at hf
  refine lv_isub S.1 S.2.1 d_Roster_setWish_31 ?_
  refine lv_iadd S.1 S.2.1 d_Roster_setWish_32 ?_
  obtain ⟨w11, hw11, hf⟩ := xb hf
  refine x_puti S hw lp_Roster_55 hw11 d_Roster_setWish_33 (fun H locs hw => ?_)
  refine lv_aload_n S.1 S.2.1 d_Roster_setWish_36 rfl (lv_at hl 0 rfl) ?_
  obtain ⟨t12, ht12, hf⟩ := xb hf
  refine x_getr S hw lk_Roster_36 ht12 d_Roster_setWish_37 ?_
  refine lv_iload_n S.1 S.2.1 d_Roster_setWish_40 rfl (lv_at hl 1 rfl) ?_
  obtain ⟨t13, ht13, hf⟩ := xb hf
  refine x_aald S hw (t := 2) rfl rfl ht13 d_Roster_setWish_41 ?_
  refine lv_iload_n S.1 S.2.1 d_Roster_setWish_42 rfl (lv_at hl 2 rfl) ?_
  refine lv_iload_n S.1 S.2.1 d_Roster_setWish_43 rfl (lv_at hl 3 rfl) ?_
  obtain ⟨w14, hw14, hf⟩ := xb hf
  refine x_iast S hw hw14 d_Roster_setWish_44 (fun H locs hw => ?_)
  refine lv_aload_n S.1 S.2.1 d_Roster_setWish_45 rfl (lv_at hl 0 rfl) ?_
  obtain ⟨t15, ht15, hf⟩ := xb hf
  refine x_getr S hw lk_Roster_39 ht15 d_Roster_setWish_46 ?_
  refine lv_iload_n S.1 S.2.1 d_Roster_setWish_49 rfl (lv_at hl 1 rfl) ?_
  obtain ⟨t16, ht16, hf⟩ := xb hf
  refine x_aald S hw (t := 2) rfl rfl ht16 d_Roster_setWish_50 ?_
  refine lv_iload_n S.1 S.2.1 d_Roster_setWish_51 rfl (lv_at hl 2 rfl) ?_
  refine lv_iload S.1 S.2.1 d_Roster_setWish_52 (lv_at hl 4 rfl) ?_
  obtain ⟨w17, hw17, hf⟩ := xb hf
  refine x_iast S hw hw17 d_Roster_setWish_54 (fun H locs hw => ?_)
  cases hf
  exact x_vret S hr hlocks hw d_Roster_setWish_55
def f_Roster_setWish (a0 : Nat) (x1 : Int32) (x2 : Int32) (x3 : Int32) (x4 : Int32) (ω : xS) : Option xS :=
  (xgi ω a0 8 12).bind fun t1 =>
  if x4 = 0 then (
    (xgr ω a0 8 8).bind fun t7 =>
    (xar ω 2 t7 x1).bind fun t8 =>
    (xai ω t8 x2).bind fun t9 =>
    if t9 = 0 then (
      f_Roster_setWish_31  a0 x1 x2 x3 x4 0 0 t1 a0 ω)
    else (
      f_Roster_setWish_31  a0 x1 x2 x3 x4 1 0 t1 a0 ω))
  else (
    (xgr ω a0 8 8).bind fun t3 =>
    (xar ω 2 t3 x1).bind fun t4 =>
    (xai ω t4 x2).bind fun t5 =>
    if t5 = 0 then (
      f_Roster_setWish_31  a0 x1 x2 x3 x4 0 1 t1 a0 ω)
    else (
      f_Roster_setWish_31  a0 x1 x2 x3 x4 1 1 t1 a0 ω))
set_option maxHeartbeats 4000000 in
set_option maxRecDepth 100000 in
theorem c_Roster_setWish {l : Launch} {E : xV} {z : Nat} {a0 : Nat} {x1 : Int32} {x2 : Int32} {x3 : Int32} {x4 : Int32} {ω1 : xS} {ω : xS} (hf : f_Roster_setWish a0 x1 x2 x3 x4 ω = some ω1) : xM l E y_Roster_setWish ws_Roster_setWish { frames := 0, cells := 0, slots := 0, locals := 0 } [.ref a0, .int x1, .int x2, .int x3, .int x4] z ω none z ω1 := by
  refine x_start (cc := b_Roster_setWish) (maxL := 5) (ret := none) (by decide) rfl (Nat.le_of_ble_eq_true rfl) ?_
  intro p e s m below meth c S hr hlocks hin ls hl hw
  have hl : lv_has ls 5 [(0, .ref a0), (1, .int x1), (2, .int x2), (3, .int x3), (4, .int x4)] := hl
  unfold f_Roster_setWish at hf
  refine lv_aload_n S.1 S.2.1 d_Roster_setWish_0 rfl (lv_at hl 0 rfl) ?_
  refine lv_dup S.1 S.2.1 d_Roster_setWish_1 rfl ?_
  obtain ⟨t1, ht1, hf⟩ := xb hf
  refine x_geti S hw lk_Roster_55 ht1 d_Roster_setWish_2 ?_
  refine lv_iload S.1 S.2.1 d_Roster_setWish_5 (lv_at hl 4 rfl) ?_
  refine lv_if_ne (tgt := 14) S.1 S.2.1 d_Roster_setWish_7 (by decide) (fun c2 => ?_) (fun c2 => ?_)
  · replace hf := xf c2 hf
    refine lv_iconst (v := 1) S.1 S.2.1 d_Roster_setWish_14 (by decide) ?_
    refine lv_aload_n S.1 S.2.1 d_Roster_setWish_15 rfl (lv_at hl 0 rfl) ?_
    obtain ⟨t3, ht3, hf⟩ := xb hf
    refine x_getr S hw lk_Roster_39 ht3 d_Roster_setWish_16 ?_
    refine lv_iload_n S.1 S.2.1 d_Roster_setWish_19 rfl (lv_at hl 1 rfl) ?_
    obtain ⟨t4, ht4, hf⟩ := xb hf
    refine x_aald S hw (t := 2) rfl rfl ht4 d_Roster_setWish_20 ?_
    refine lv_iload_n S.1 S.2.1 d_Roster_setWish_21 rfl (lv_at hl 2 rfl) ?_
    obtain ⟨t5, ht5, hf⟩ := xb hf
    refine x_iald S hw ht5 d_Roster_setWish_22 ?_
    refine lv_if_ne (tgt := 30) S.1 S.2.1 d_Roster_setWish_23 (by decide) (fun c6 => ?_) (fun c6 => ?_)
    · replace hf := xf c6 hf
      refine lv_iconst (v := 1) S.1 S.2.1 d_Roster_setWish_30 (by decide) ?_
      exact w_Roster_setWish_31 S hr hlocks  _ _ _ _ _ _ _ _ _ _ _ _ _ hw (lv_sub hl [0, 1, 2, 3, 4] rfl) hf
    · replace hf := xt c6 hf
      refine lv_iconst (v := 0) S.1 S.2.1 d_Roster_setWish_26 (by decide) ?_
      refine lv_goto (tgt := 31) S.1 S.2.1 d_Roster_setWish_27 (by decide) ?_
      exact w_Roster_setWish_31 S hr hlocks  _ _ _ _ _ _ _ _ _ _ _ _ _ hw (lv_sub hl [0, 1, 2, 3, 4] rfl) hf
  · replace hf := xt c2 hf
    refine lv_iconst (v := 0) S.1 S.2.1 d_Roster_setWish_10 (by decide) ?_
    refine lv_goto (tgt := 15) S.1 S.2.1 d_Roster_setWish_11 (by decide) ?_
    refine lv_aload_n S.1 S.2.1 d_Roster_setWish_15 rfl (lv_at hl 0 rfl) ?_
    obtain ⟨t7, ht7, hf⟩ := xb hf
    refine x_getr S hw lk_Roster_39 ht7 d_Roster_setWish_16 ?_
    refine lv_iload_n S.1 S.2.1 d_Roster_setWish_19 rfl (lv_at hl 1 rfl) ?_
    obtain ⟨t8, ht8, hf⟩ := xb hf
    refine x_aald S hw (t := 2) rfl rfl ht8 d_Roster_setWish_20 ?_
    refine lv_iload_n S.1 S.2.1 d_Roster_setWish_21 rfl (lv_at hl 2 rfl) ?_
    obtain ⟨t9, ht9, hf⟩ := xb hf
    refine x_iald S hw ht9 d_Roster_setWish_22 ?_
    refine lv_if_ne (tgt := 30) S.1 S.2.1 d_Roster_setWish_23 (by decide) (fun c10 => ?_) (fun c10 => ?_)
    · replace hf := xf c10 hf
      refine lv_iconst (v := 1) S.1 S.2.1 d_Roster_setWish_30 (by decide) ?_
      exact w_Roster_setWish_31 S hr hlocks  _ _ _ _ _ _ _ _ _ _ _ _ _ hw (lv_sub hl [0, 1, 2, 3, 4] rfl) hf
    · replace hf := xt c10 hf
      refine lv_iconst (v := 0) S.1 S.2.1 d_Roster_setWish_26 (by decide) ?_
      refine lv_goto (tgt := 31) S.1 S.2.1 d_Roster_setWish_27 (by decide) ?_
      exact w_Roster_setWish_31 S hr hlocks  _ _ _ _ _ _ _ _ _ _ _ _ _ hw (lv_sub hl [0, 1, 2, 3, 4] rfl) hf
def f_Roster_wishCost (a0 : Nat) (x1 : Int32) (x2 : Int32) (ω : xS) : Option Int64 :=
  (xk ω a0 8 (f_Roster_letterOf a0 x1 x2 ω)).bind fun t2 =>
  (xgr ω a0 8 7).bind fun t3 =>
  (xar ω 2 t3 x1).bind fun t4 =>
  (xai ω t4 x2).bind fun t5 =>
  if t2 = t5 then (
    some 0)
  else (
    (xgr ω a0 8 8).bind fun t7 =>
    (xar ω 2 t7 x1).bind fun t8 =>
    (xai ω t8 x2).bind fun t9 =>
    some (Int32.toInt64 t9))
set_option maxHeartbeats 4000000 in
set_option maxRecDepth 100000 in
theorem c_Roster_wishCost {l : Launch} {E : xV} {z : Nat} {a0 : Nat} {x1 : Int32} {x2 : Int32} {r : Int64} {ω : xS} (hf : f_Roster_wishCost a0 x1 x2 ω = some r) : xM l E y_Roster_wishCost ws_Roster_wishCost { frames := 1, cells := 0, slots := 0, locals := 22 } [.ref a0, .int x1, .int x2] z ω (some (.long r)) z ω := by
  refine x_start (cc := b_Roster_wishCost) (maxL := 3) (ret := (some .long)) (by decide) rfl (Nat.le_of_ble_eq_true rfl) ?_
  intro p e s m below meth c S hr hlocks hin ls hl hw
  have hl : lv_has ls 3 [(0, .ref a0), (1, .int x1), (2, .int x2)] := hl
  unfold f_Roster_wishCost at hf
  refine lv_aload_n S.1 S.2.1 d_Roster_wishCost_0 rfl (lv_at hl 0 rfl) ?_
  refine lv_iload_n S.1 S.2.1 d_Roster_wishCost_1 rfl (lv_at hl 1 rfl) ?_
  refine lv_iload_n S.1 S.2.1 d_Roster_wishCost_2 rfl (lv_at hl 2 rfl) ?_
  obtain ⟨t2, h1, hf⟩ := xb hf
  obtain ⟨h1b, h1⟩ := xkb h1
  refine x_callV (As := [.int x1, .int x2]) (rest := []) (st1 := [.int t2]) S hw (c_Roster_letterOf h1) (cwV 2 S.2.2.2.2 gv_Roster_48 rfl rfl rfl hd_Roster_letterOf ⟨Nat.le_of_ble_eq_true rfl, Nat.le_of_ble_eq_true rfl⟩) rfl h1b rfl hl.1 rfl rfl (Nat.le_of_ble_eq_true rfl) d_Roster_wishCost_3 ⟨Nat.le_of_ble_eq_true rfl, Nat.le_of_ble_eq_true rfl⟩ (fun H locs hw => ?_)
  refine lv_aload_n S.1 S.2.1 d_Roster_wishCost_6 rfl (lv_at hl 0 rfl) ?_
  obtain ⟨t3, ht3, hf⟩ := xb hf
  refine x_getr S hw lk_Roster_36 ht3 d_Roster_wishCost_7 ?_
  refine lv_iload_n S.1 S.2.1 d_Roster_wishCost_10 rfl (lv_at hl 1 rfl) ?_
  obtain ⟨t4, ht4, hf⟩ := xb hf
  refine x_aald S hw (t := 2) rfl rfl ht4 d_Roster_wishCost_11 ?_
  refine lv_iload_n S.1 S.2.1 d_Roster_wishCost_12 rfl (lv_at hl 2 rfl) ?_
  obtain ⟨t5, ht5, hf⟩ := xb hf
  refine x_iald S hw ht5 d_Roster_wishCost_13 ?_
  refine lv_icmp_ne (tgt := 21) S.1 S.2.1 d_Roster_wishCost_14 (by decide) (fun c6 => ?_) (fun c6 => ?_)
  · replace hf := xf c6 hf
    refine lv_aload_n S.1 S.2.1 d_Roster_wishCost_21 rfl (lv_at hl 0 rfl) ?_
    obtain ⟨t7, ht7, hf⟩ := xb hf
    refine x_getr S hw lk_Roster_39 ht7 d_Roster_wishCost_22 ?_
    refine lv_iload_n S.1 S.2.1 d_Roster_wishCost_25 rfl (lv_at hl 1 rfl) ?_
    obtain ⟨t8, ht8, hf⟩ := xb hf
    refine x_aald S hw (t := 2) rfl rfl ht8 d_Roster_wishCost_26 ?_
    refine lv_iload_n S.1 S.2.1 d_Roster_wishCost_27 rfl (lv_at hl 2 rfl) ?_
    obtain ⟨t9, ht9, hf⟩ := xb hf
    refine x_iald S hw ht9 d_Roster_wishCost_28 ?_
    refine lv_i2l (v := (Int32.toInt64 t9)) S.1 S.2.1 d_Roster_wishCost_29 rfl ?_
    obtain rfl := xe1 hf
    exact x_lret S hr hlocks hw d_Roster_wishCost_30
  · replace hf := xt c6 hf
    refine lv_lconst (v := 0) S.1 S.2.1 d_Roster_wishCost_17 (by decide) ?_
    refine lv_goto (tgt := 30) S.1 S.2.1 d_Roster_wishCost_18 (by decide) ?_
    obtain rfl := xe1 hf
    exact x_lret S hr hlocks hw d_Roster_wishCost_30
def f_Roster_allWishesCost_15 (k4 : Nat → Int64 → Int32 → xS → Option Int64) : Nat → Nat → Int64 → Int32 → Int32 → xS → Option Int64
  | 0, _, _, _, _, _ => none
  | n + 1, a0, x1, x3, x4, ω =>
    (xgi ω a0 8 1).bind fun t3 =>
    if t3 ≤ x4 then (
      k4 a0 x1 (x3 + 1) ω)
    else (
      (xk ω a0 8 (f_Roster_wishCost a0 x3 x4 ω)).bind fun t6 =>
      f_Roster_allWishesCost_15 k4 n a0 (x1 + t6) x3 (x4 + 1) ω)
set_option maxHeartbeats 4000000 in
set_option maxRecDepth 100000 in
theorem w_Roster_allWishesCost_15 {p : Program} {l : Launch} {e : Env} {s : State} {m : MethodId} {args : Array Value} {below : List Frame} {meth : Method} {c : Code} {E : xV} {z : Nat} {r : Int64} {ω : xS} {k4 : Nat → Int64 → Int32 → xS → Option Int64} (S : CallFix p m c b_Roster_allWishesCost 5 s args xTbl "RosterRules$Roster") (hr : meth.sig.returnType = (some .long)) (hlocks : meth.locks = false) (hk4 : ∀ (a0 : Nat) (x1 : Int64) (x3 : Int32) (H : Heap) (locs : List Loc) (ls : Array Slot), xW E z ω s s.heap H locs → lv_has ls 5 [(0, .ref a0), (1, .long x1), (3, .int x3)] → k4 a0 x1 x3 ω = some r → W p l e (headSpec ws_Roster_allWishesCost { frames := 2, cells := 0, slots := 0, locals := 44 }).room s m args below meth c H locs 0 0 (MQ below (xQ E (some (.long r)) z ω) args s 0 0 (fun q => E.2.2 ≤ q)) (F0 m 4 ls [])) : ∀ n : Nat, ∀ (a0 : Nat) (x1 : Int64) (x3 : Int32) (x4 : Int32) (H : Heap) (locs : List Loc) (ls : Array Slot), xW E z ω s s.heap H locs → lv_has ls 5 [(0, .ref a0), (1, .long x1), (3, .int x3), (4, .int x4)] → f_Roster_allWishesCost_15 k4 n a0 x1 x3 x4 ω = some r → W p l e (headSpec ws_Roster_allWishesCost { frames := 2, cells := 0, slots := 0, locals := 44 }).room s m args below meth c H locs 0 0 (MQ below (xQ E (some (.long r)) z ω) args s 0 0 (fun q => E.2.2 ≤ q)) (F0 m 15 ls []) := by
  intro n
  induction n with
  | zero =>
    intro a0 x1 x3 x4 H locs ls hw hl hf
    have h2 : (none : Option Int64) = some r := hf
    cases h2
  | succ n ih =>
    intro a0 x1 x3 x4 H locs ls hw hl hf
    rw [f_Roster_allWishesCost_15] at hf
    refine lv_iload S.1 S.2.1 d_Roster_allWishesCost_15 (lv_at hl 3 rfl) ?_
    refine lv_aload_n S.1 S.2.1 d_Roster_allWishesCost_17 rfl (lv_at hl 0 rfl) ?_
    obtain ⟨t3, ht3, hf⟩ := xb hf
    refine x_geti S hw lk_Roster_25 ht3 d_Roster_allWishesCost_18 ?_
    refine lv_icmp_ge (tgt := 40) S.1 S.2.1 d_Roster_allWishesCost_21 (by decide) (fun c4 => ?_) (fun c4 => ?_)
    · replace hf := xt c4 hf
      refine lv_iinc (v := (x3 + 1)) (lv' := [(3, .int (x3 + 1)), (0, .ref a0), (1, .long x1), (4, .int x4)]) S.1 S.2.1 d_Roster_allWishesCost_40 hl (k := 2) rfl rfl (by decide) rfl (fun ls hl => ?_)
      refine lv_goto (tgt := 4) S.1 S.2.1 d_Roster_allWishesCost_43 (by decide) ?_
      exact hk4 _ _ _ _ _ _ hw (lv_sub hl [1, 2, 0] rfl) hf
    · replace hf := xf c4 hf
      refine lv_lload_n S.1 S.2.1 d_Roster_allWishesCost_24 rfl (lv_at hl 1 rfl) ?_
      refine lv_aload_n S.1 S.2.1 d_Roster_allWishesCost_25 rfl (lv_at hl 0 rfl) ?_
      refine lv_iload_n S.1 S.2.1 d_Roster_allWishesCost_26 rfl (lv_at hl 2 rfl) ?_
      refine lv_iload S.1 S.2.1 d_Roster_allWishesCost_27 (lv_at hl 3 rfl) ?_
      obtain ⟨t6, h5, hf⟩ := xb hf
      obtain ⟨h5b, h5⟩ := xkb h5
      refine x_callV (As := [.int x3, .int x4]) (rest := [.long x1]) (st1 := [.long t6, .long x1]) S hw (c_Roster_wishCost h5) (cwV 2 S.2.2.2.2 gv_Roster_58 rfl rfl rfl hd_Roster_wishCost ⟨Nat.le_of_ble_eq_true rfl, Nat.le_of_ble_eq_true rfl⟩) rfl h5b rfl hl.1 rfl rfl (Nat.le_of_ble_eq_true rfl) d_Roster_allWishesCost_29 ⟨Nat.le_of_ble_eq_true rfl, Nat.le_of_ble_eq_true rfl⟩ (fun H locs hw => ?_)
      refine lv_ladd S.1 S.2.1 d_Roster_allWishesCost_32 ?_
      refine lv_lstore_n (lv' := [(1, .long (x1 + t6)), (0, .ref a0), (3, .int x3), (4, .int x4)]) S.1 S.2.1 d_Roster_allWishesCost_33 rfl hl (by decide) rfl (fun ls hl => ?_)
      refine lv_iinc (v := (x4 + 1)) (lv' := [(4, .int (x4 + 1)), (1, .long (x1 + t6)), (0, .ref a0), (3, .int x3)]) S.1 S.2.1 d_Roster_allWishesCost_34 hl (k := 3) rfl rfl (by decide) rfl (fun ls hl => ?_)
      refine lv_goto (tgt := 15) S.1 S.2.1 d_Roster_allWishesCost_37 (by decide) ?_
      exact ih _ _ _ _ _ _ _ hw (lv_sub hl [2, 1, 3, 0] rfl) hf
def f_Roster_allWishesCost_4 : Nat → Nat → Int64 → Int32 → xS → Option Int64
  | 0, _, _, _, _ => none
  | n + 1, a0, x1, x3, ω =>
    (xgi ω a0 8 0).bind fun t1 =>
    if t1 ≤ x3 then (
      some x1)
    else (
      f_Roster_allWishesCost_15 (f_Roster_allWishesCost_4  n) xFU a0 x1 x3 0 ω)
set_option maxHeartbeats 4000000 in
set_option maxRecDepth 100000 in
theorem w_Roster_allWishesCost_4 {p : Program} {l : Launch} {e : Env} {s : State} {m : MethodId} {args : Array Value} {below : List Frame} {meth : Method} {c : Code} {E : xV} {z : Nat} {r : Int64} {ω : xS} (S : CallFix p m c b_Roster_allWishesCost 5 s args xTbl "RosterRules$Roster") (hr : meth.sig.returnType = (some .long)) (hlocks : meth.locks = false) : ∀ n : Nat, ∀ (a0 : Nat) (x1 : Int64) (x3 : Int32) (H : Heap) (locs : List Loc) (ls : Array Slot), xW E z ω s s.heap H locs → lv_has ls 5 [(0, .ref a0), (1, .long x1), (3, .int x3)] → f_Roster_allWishesCost_4 n a0 x1 x3 ω = some r → W p l e (headSpec ws_Roster_allWishesCost { frames := 2, cells := 0, slots := 0, locals := 44 }).room s m args below meth c H locs 0 0 (MQ below (xQ E (some (.long r)) z ω) args s 0 0 (fun q => E.2.2 ≤ q)) (F0 m 4 ls []) := by
  intro n
  induction n with
  | zero =>
    intro a0 x1 x3 H locs ls hw hl hf
    have h2 : (none : Option Int64) = some r := hf
    cases h2
  | succ n ih =>
    intro a0 x1 x3 H locs ls hw hl hf
    rw [f_Roster_allWishesCost_4] at hf
    refine lv_iload_n S.1 S.2.1 d_Roster_allWishesCost_4 rfl (lv_at hl 2 rfl) ?_
    refine lv_aload_n S.1 S.2.1 d_Roster_allWishesCost_5 rfl (lv_at hl 0 rfl) ?_
    obtain ⟨t1, ht1, hf⟩ := xb hf
    refine x_geti S hw lk_Roster_21 ht1 d_Roster_allWishesCost_6 ?_
    refine lv_icmp_ge (tgt := 46) S.1 S.2.1 d_Roster_allWishesCost_9 (by decide) (fun c2 => ?_) (fun c2 => ?_)
    · replace hf := xt c2 hf
      refine lv_lload_n S.1 S.2.1 d_Roster_allWishesCost_46 rfl (lv_at hl 1 rfl) ?_
      obtain rfl := xe1 hf
      exact x_lret S hr hlocks hw d_Roster_allWishesCost_47
    · replace hf := xf c2 hf
      refine lv_iconst (v := 0) S.1 S.2.1 d_Roster_allWishesCost_12 (by decide) ?_
      refine lv_istore (lv' := [(4, .int 0), (0, .ref a0), (1, .long x1), (3, .int x3)]) S.1 S.2.1 d_Roster_allWishesCost_13 hl (by decide) rfl (fun ls hl => ?_)
      exact w_Roster_allWishesCost_15 S hr hlocks ih _ _ _ _ _ _ _ _ hw (lv_sub hl [1, 2, 3, 0] rfl) hf
def f_Roster_allWishesCost (a0 : Nat) (ω : xS) : Option Int64 :=
  f_Roster_allWishesCost_4  xFU a0 0 0 ω
set_option maxHeartbeats 4000000 in
set_option maxRecDepth 100000 in
theorem c_Roster_allWishesCost {l : Launch} {E : xV} {z : Nat} {a0 : Nat} {r : Int64} {ω : xS} (hf : f_Roster_allWishesCost a0 ω = some r) : xM l E y_Roster_allWishesCost ws_Roster_allWishesCost { frames := 2, cells := 0, slots := 0, locals := 44 } [.ref a0] z ω (some (.long r)) z ω := by
  refine x_start (cc := b_Roster_allWishesCost) (maxL := 5) (ret := (some .long)) (by decide) rfl (Nat.le_of_ble_eq_true rfl) ?_
  intro p e s m below meth c S hr hlocks hin ls hl hw
  have hl : lv_has ls 5 [(0, .ref a0)] := hl
  unfold f_Roster_allWishesCost at hf
  refine lv_lconst (v := 0) S.1 S.2.1 d_Roster_allWishesCost_0 (by decide) ?_
  refine lv_lstore_n (lv' := [(1, .long 0), (0, .ref a0)]) S.1 S.2.1 d_Roster_allWishesCost_1 rfl hl (by decide) rfl (fun ls hl => ?_)
  refine lv_iconst (v := 0) S.1 S.2.1 d_Roster_allWishesCost_2 (by decide) ?_
  refine lv_istore_n (lv' := [(3, .int 0), (1, .long 0), (0, .ref a0)]) S.1 S.2.1 d_Roster_allWishesCost_3 rfl hl (by decide) rfl (fun ls hl => ?_)
  exact w_Roster_allWishesCost_4 S hr hlocks  _ _ _ _ _ _ _ hw (lv_sub hl [2, 1, 0] rfl) hf
def f_Tape_init (a0 : Nat) (z : Nat) (ω : xS) : Option xS :=
  xl (xu ω z (.inl (0, 1500, .inl (fun _ => 0)))) fun w1 =>
  (xp w1 a0 9 0 (.ref z)).bind fun w2 =>
  some w2
set_option maxHeartbeats 4000000 in
set_option maxRecDepth 100000 in
theorem c_Tape_init {l : Launch} {E : xV} {z : Nat} {a0 : Nat} {ω1 : xS} {ω : xS} (hf : f_Tape_init a0 z ω = some ω1) : xM l E y_Tape_init ws_Tape_init { frames := 1, cells := 1, slots := 1500, locals := 20 } [.ref a0] z ω none (z + 1) ω1 := by
  refine x_start (cc := b_Tape_init) (maxL := 1) (ret := none) (by decide) rfl (Nat.le_of_ble_eq_true rfl) ?_
  intro p e s m below meth c S hr hlocks hin ls hl hw
  have hl : lv_has ls 1 [(0, .ref a0)] := hl
  have hin := hin rfl
  unfold f_Tape_init at hf
  refine lv_aload_n S.1 S.2.1 d_Tape_init_0 rfl (lv_at hl 0 rfl) ?_
  refine x_obj S hl.1 ob_Tape_3 d_Tape_init_1 (Nat.le_of_ble_eq_true rfl) (Nat.le_of_ble_eq_true rfl) ?_
  refine lv_aload_n S.1 S.2.1 d_Tape_init_4 rfl (lv_at hl 0 rfl) ?_
  refine lv_sipush (v := 1500) S.1 S.2.1 d_Tape_init_5 (by decide) ?_
  obtain ⟨w1, hw1, hf⟩ := xlb hf
  refine x_newi (N := 1500) S hw xArr_i (by decide) (by decide) (by decide) hw1 (Nat.le_of_ble_eq_true rfl) (Nat.le_of_ble_eq_true rfl) d_Tape_init_8 (fun H hw => ?_)
  obtain ⟨w2, hw2, hf⟩ := xb hf
  refine x_putF S hin hw lf_Tape_9 rfl rfl hw2 d_Tape_init_10 (fun H locs hw => ?_)
  cases hf
  exact x_vret S hr hlocks hw d_Tape_init_13
def f_Tape_append_3 : Nat → Nat → Int32 → Int64 → Int32 → xS → Option xS
  | 0, _, _, _, _, _ => none
  | n + 1, a0, x1, x2, x4, ω =>
    if x1 ≤ x4 then (
      some ω)
    else (
      (xgi ω a0 9 1).bind fun t2 =>
      if 1500 ≤ t2 then (
        some ω)
      else (
        (xgr ω a0 9 0).bind fun t4 =>
        (xgi ω a0 9 1).bind fun t5 =>
        (xsi ω t4 t5 ((Int64.toInt32 (xlushr x2 (8 * x4))) &&& 255)).bind fun w6 =>
        (xgi w6 a0 9 1).bind fun t7 =>
        (xp w6 a0 9 1 (.int (t7 + 1))).bind fun w8 =>
        f_Tape_append_3  n a0 x1 x2 (x4 + 1) w8))
set_option maxHeartbeats 4000000 in
set_option maxRecDepth 100000 in
theorem w_Tape_append_3 {p : Program} {l : Launch} {e : Env} {s : State} {m : MethodId} {args : Array Value} {below : List Frame} {meth : Method} {c : Code} {E : xV} {z : Nat} {ω1 : xS} (S : CallFix p m c b_Tape_append 5 s args xTbl "RosterRules$Tape") (hr : meth.sig.returnType = none) (hlocks : meth.locks = false) : ∀ n : Nat, ∀ (a0 : Nat) (x1 : Int32) (x2 : Int64) (x4 : Int32) (ω : xS) (H : Heap) (locs : List Loc) (ls : Array Slot), xW E z ω s s.heap H locs → lv_has ls 5 [(0, .ref a0), (1, .int x1), (2, .long x2), (4, .int x4)] → f_Tape_append_3 n a0 x1 x2 x4 ω = some ω1 → W p l e (headSpec ws_Tape_append { frames := 0, cells := 0, slots := 0, locals := 0 }).room s m args below meth c H locs 0 0 (MQ below (xQ E none z ω1) args s 0 0 (fun q => E.2.2 ≤ q)) (F0 m 3 ls []) := by
  intro n
  induction n with
  | zero =>
    intro a0 x1 x2 x4 ω H locs ls hw hl hf
    have h2 : (none : Option xS) = some ω1 := hf
    cases h2
  | succ n ih =>
    intro a0 x1 x2 x4 ω H locs ls hw hl hf
    rw [f_Tape_append_3] at hf
    refine lv_iload S.1 S.2.1 d_Tape_append_3 (lv_at hl 3 rfl) ?_
    refine lv_iload_n S.1 S.2.1 d_Tape_append_5 rfl (lv_at hl 1 rfl) ?_
    refine lv_icmp_ge (tgt := 56) S.1 S.2.1 d_Tape_append_6 (by decide) (fun c1 => ?_) (fun c1 => ?_)
    · replace hf := xt c1 hf
      cases hf
      exact x_vret S hr hlocks hw d_Tape_append_56
    · replace hf := xf c1 hf
      refine lv_aload_n S.1 S.2.1 d_Tape_append_9 rfl (lv_at hl 0 rfl) ?_
      obtain ⟨t2, ht2, hf⟩ := xb hf
      refine x_geti S hw lk_Tape_15 ht2 d_Tape_append_10 ?_
      refine lv_sipush (v := 1500) S.1 S.2.1 d_Tape_append_13 (by decide) ?_
      refine lv_icmp_ge (tgt := 56) S.1 S.2.1 d_Tape_append_16 (by decide) (fun c3 => ?_) (fun c3 => ?_)
      · replace hf := xt c3 hf
        cases hf
        exact x_vret S hr hlocks hw d_Tape_append_56
      · replace hf := xf c3 hf
        refine lv_aload_n S.1 S.2.1 d_Tape_append_19 rfl (lv_at hl 0 rfl) ?_
        obtain ⟨t4, ht4, hf⟩ := xb hf
        refine x_getr S hw lk_Tape_9 ht4 d_Tape_append_20 ?_
        refine lv_aload_n S.1 S.2.1 d_Tape_append_23 rfl (lv_at hl 0 rfl) ?_
        obtain ⟨t5, ht5, hf⟩ := xb hf
        refine x_geti S hw lk_Tape_15 ht5 d_Tape_append_24 ?_
        refine lv_lload_n S.1 S.2.1 d_Tape_append_27 rfl (lv_at hl 2 rfl) ?_
        refine lv_bipush (v := 8) S.1 S.2.1 d_Tape_append_28 (by decide) ?_
        refine lv_iload S.1 S.2.1 d_Tape_append_30 (lv_at hl 3 rfl) ?_
        refine lv_imul S.1 S.2.1 d_Tape_append_32 ?_
        refine lv_lushr (v := (xlushr x2 (8 * x4))) S.1 S.2.1 d_Tape_append_33 rfl ?_
        refine lv_l2i (v := (Int64.toInt32 (xlushr x2 (8 * x4)))) S.1 S.2.1 d_Tape_append_34 rfl ?_
        refine lv_sipush (v := 255) S.1 S.2.1 d_Tape_append_35 (by decide) ?_
        refine lv_iand S.1 S.2.1 d_Tape_append_38 ?_
        obtain ⟨w6, hw6, hf⟩ := xb hf
        refine x_iast S hw hw6 d_Tape_append_39 (fun H locs hw => ?_)
        refine lv_aload_n S.1 S.2.1 d_Tape_append_40 rfl (lv_at hl 0 rfl) ?_
        refine lv_dup S.1 S.2.1 d_Tape_append_41 rfl ?_
        obtain ⟨t7, ht7, hf⟩ := xb hf
        refine x_geti S hw lk_Tape_15 ht7 d_Tape_append_42 ?_
        refine lv_iconst (v := 1) S.1 S.2.1 d_Tape_append_45 (by decide) ?_
        refine lv_iadd S.1 S.2.1 d_Tape_append_46 ?_
        obtain ⟨w8, hw8, hf⟩ := xb hf
        refine x_puti S hw lp_Tape_15 hw8 d_Tape_append_47 (fun H locs hw => ?_)
        refine lv_iinc (v := (x4 + 1)) (lv' := [(4, .int (x4 + 1)), (0, .ref a0), (1, .int x1), (2, .long x2)]) S.1 S.2.1 d_Tape_append_50 hl (k := 3) rfl rfl (by decide) rfl (fun ls hl => ?_)
        refine lv_goto (tgt := 3) S.1 S.2.1 d_Tape_append_53 (by decide) ?_
        exact ih _ _ _ _ _ _ _ _ hw (lv_sub hl [1, 2, 3, 0] rfl) hf
def f_Tape_append (a0 : Nat) (x1 : Int32) (x2 : Int64) (ω : xS) : Option xS :=
  f_Tape_append_3  xFU a0 x1 x2 0 ω
set_option maxHeartbeats 4000000 in
set_option maxRecDepth 100000 in
theorem c_Tape_append {l : Launch} {E : xV} {z : Nat} {a0 : Nat} {x1 : Int32} {x2 : Int64} {ω1 : xS} {ω : xS} (hf : f_Tape_append a0 x1 x2 ω = some ω1) : xM l E y_Tape_append ws_Tape_append { frames := 0, cells := 0, slots := 0, locals := 0 } [.ref a0, .int x1, .long x2] z ω none z ω1 := by
  refine x_start (cc := b_Tape_append) (maxL := 5) (ret := none) (by decide) rfl (Nat.le_of_ble_eq_true rfl) ?_
  intro p e s m below meth c S hr hlocks hin ls hl hw
  have hl : lv_has ls 5 [(0, .ref a0), (1, .int x1), (2, .long x2)] := hl
  unfold f_Tape_append at hf
  refine lv_iconst (v := 0) S.1 S.2.1 d_Tape_append_0 (by decide) ?_
  refine lv_istore (lv' := [(4, .int 0), (0, .ref a0), (1, .int x1), (2, .long x2)]) S.1 S.2.1 d_Tape_append_1 hl (by decide) rfl (fun ls hl => ?_)
  exact w_Tape_append_3 S hr hlocks  _ _ _ _ _ _ _ _ _ hw (lv_sub hl [1, 2, 3, 0] rfl) hf
def f_RR_feed (a0 : Nat) (x1 : Int32) (x2 : Int64) (ω : xS) : Option (Int32 × xS) :=
  if x1 < 1 then (
    some ((-1), ω))
  else (
    if x1 ≤ 8 then (
      (xgr ω a0 11 0).bind fun t3 =>
      (xgi ω t3 9 1).bind fun t4 =>
      if (t4 + x1) ≤ 1500 then (
        (xgr ω a0 11 0).bind fun t6 =>
        (xk ω t6 9 (f_Tape_append t6 x1 x2 ω)).bind fun w9 =>
        (xgr w9 a0 11 0).bind fun t10 =>
        (xgi w9 t10 9 1).bind fun t11 =>
        some (t11, w9))
      else (
        some ((-3), ω)))
    else (
      some ((-1), ω)))
set_option maxHeartbeats 4000000 in
set_option maxRecDepth 100000 in
theorem c_RR_feed {l : Launch} {E : xV} {z : Nat} {a0 : Nat} {x1 : Int32} {x2 : Int64} {r : Int32} {ω1 : xS} {ω : xS} (hf : f_RR_feed a0 x1 x2 ω = some (r, ω1)) : xM l E y_RR_feed ws_RR_feed { frames := 1, cells := 0, slots := 0, locals := 24 } [.ref a0, .int x1, .long x2] z ω (some (.int r)) z ω1 := by
  refine x_start (cc := b_RR_feed) (maxL := 4) (ret := (some .int)) (by decide) rfl (Nat.le_of_ble_eq_true rfl) ?_
  intro p e s m below meth c S hr hlocks hin ls hl hw
  have hl : lv_has ls 4 [(0, .ref a0), (1, .int x1), (2, .long x2)] := hl
  unfold f_RR_feed at hf
  refine lv_iload_n S.1 S.2.1 d_RR_feed_0 rfl (lv_at hl 1 rfl) ?_
  refine lv_iconst (v := 1) S.1 S.2.1 d_RR_feed_1 (by decide) ?_
  refine lv_icmp_lt (tgt := 11) S.1 S.2.1 d_RR_feed_2 (by decide) (fun c1 => ?_) (fun c1 => ?_)
  · replace hf := xt c1 hf
    refine lv_iconst (v := (-1)) S.1 S.2.1 d_RR_feed_11 (by decide) ?_
    obtain ⟨rfl, rfl⟩ := xe2 hf
    exact x_iret S hr hlocks hw d_RR_feed_12
  · replace hf := xf c1 hf
    refine lv_iload_n S.1 S.2.1 d_RR_feed_5 rfl (lv_at hl 1 rfl) ?_
    refine lv_bipush (v := 8) S.1 S.2.1 d_RR_feed_6 (by decide) ?_
    refine lv_icmp_le (tgt := 13) S.1 S.2.1 d_RR_feed_8 (by decide) (fun c2 => ?_) (fun c2 => ?_)
    · replace hf := xt c2 hf
      refine lv_aload_n S.1 S.2.1 d_RR_feed_13 rfl (lv_at hl 0 rfl) ?_
      obtain ⟨t3, ht3, hf⟩ := xb hf
      refine x_getr S hw lk_RR_10 ht3 d_RR_feed_14 ?_
      obtain ⟨t4, ht4, hf⟩ := xb hf
      refine x_geti S hw lk_RR_80 ht4 d_RR_feed_17 ?_
      refine lv_iload_n S.1 S.2.1 d_RR_feed_20 rfl (lv_at hl 1 rfl) ?_
      refine lv_iadd S.1 S.2.1 d_RR_feed_21 ?_
      refine lv_sipush (v := 1500) S.1 S.2.1 d_RR_feed_22 (by decide) ?_
      refine lv_icmp_le (tgt := 31) S.1 S.2.1 d_RR_feed_25 (by decide) (fun c5 => ?_) (fun c5 => ?_)
      · replace hf := xt c5 hf
        refine lv_aload_n S.1 S.2.1 d_RR_feed_31 rfl (lv_at hl 0 rfl) ?_
        obtain ⟨t6, ht6, hf⟩ := xb hf
        refine x_getr S hw lk_RR_10 ht6 d_RR_feed_32 ?_
        refine lv_iload_n S.1 S.2.1 d_RR_feed_35 rfl (lv_at hl 1 rfl) ?_
        refine lv_lload_n S.1 S.2.1 d_RR_feed_36 rfl (lv_at hl 2 rfl) ?_
        obtain ⟨w9, h7, hf⟩ := xb hf
        obtain ⟨h7b, h7⟩ := xkb h7
        refine x_callV (As := [.int x1, .long x2]) (rest := []) (st1 := []) S hw (c_Tape_append h7) (cwV 2 S.2.2.2.2 gv_RR_83 rfl rfl rfl hd_Tape_append ⟨Nat.le_of_ble_eq_true rfl, Nat.le_of_ble_eq_true rfl⟩) rfl h7b rfl hl.1 rfl rfl (Nat.le_of_ble_eq_true rfl) d_RR_feed_37 ⟨Nat.le_of_ble_eq_true rfl, Nat.le_of_ble_eq_true rfl⟩ (fun H locs hw => ?_)
        refine lv_aload_n S.1 S.2.1 d_RR_feed_40 rfl (lv_at hl 0 rfl) ?_
        obtain ⟨t10, ht10, hf⟩ := xb hf
        refine x_getr S hw lk_RR_10 ht10 d_RR_feed_41 ?_
        obtain ⟨t11, ht11, hf⟩ := xb hf
        refine x_geti S hw lk_RR_80 ht11 d_RR_feed_44 ?_
        obtain ⟨rfl, rfl⟩ := xe2 hf
        exact x_iret S hr hlocks hw d_RR_feed_47
      · replace hf := xf c5 hf
        refine lv_bipush (v := (-3)) S.1 S.2.1 d_RR_feed_28 (by decide) ?_
        obtain ⟨rfl, rfl⟩ := xe2 hf
        exact x_iret S hr hlocks hw d_RR_feed_30
    · replace hf := xf c2 hf
      refine lv_iconst (v := (-1)) S.1 S.2.1 d_RR_feed_11 (by decide) ?_
      obtain ⟨rfl, rfl⟩ := xe2 hf
      exact x_iret S hr hlocks hw d_RR_feed_12
def f_RR_place (a0 : Nat) (ω : xS) : Option Int32 :=
  (xgr ω a0 11 4).bind fun t1 =>
  (xgi ω t1 5 4).bind fun t2 =>
  some t2
set_option maxHeartbeats 4000000 in
set_option maxRecDepth 100000 in
theorem c_RR_place {l : Launch} {E : xV} {z : Nat} {a0 : Nat} {r : Int32} {ω : xS} (hf : f_RR_place a0 ω = some r) : xM l E y_RR_place ws_RR_place { frames := 0, cells := 0, slots := 0, locals := 0 } [.ref a0] z ω (some (.int r)) z ω := by
  refine x_start (cc := b_RR_place) (maxL := 1) (ret := (some .int)) (by decide) rfl (Nat.le_of_ble_eq_true rfl) ?_
  intro p e s m below meth c S hr hlocks hin ls hl hw
  have hl : lv_has ls 1 [(0, .ref a0)] := hl
  unfold f_RR_place at hf
  refine lv_aload_n S.1 S.2.1 d_RR_place_0 rfl (lv_at hl 0 rfl) ?_
  obtain ⟨t1, ht1, hf⟩ := xb hf
  refine x_getr S hw lk_RR_75 ht1 d_RR_place_1 ?_
  obtain ⟨t2, ht2, hf⟩ := xb hf
  refine x_geti S hw lk_RR_97 ht2 d_RR_place_4 ?_
  obtain rfl := xe1 hf
  exact x_iret S hr hlocks hw d_RR_place_7
def f_RR_isShift (a0 : Nat) (x1 : Int32) (ω : xS) : Option Int32 :=
  if x1 < 0 then (
    some 0)
  else (
    if 8 ≤ x1 then (
      some 0)
    else (
      some 1))
set_option maxHeartbeats 4000000 in
set_option maxRecDepth 100000 in
theorem c_RR_isShift {l : Launch} {E : xV} {z : Nat} {a0 : Nat} {x1 : Int32} {r : Int32} {ω : xS} (hf : f_RR_isShift a0 x1 ω = some r) : xM l E y_RR_isShift ws_RR_isShift { frames := 0, cells := 0, slots := 0, locals := 0 } [.ref a0, .int x1] z ω (some (.int r)) z ω := by
  refine x_start (cc := b_RR_isShift) (maxL := 2) (ret := (some .boolean)) (by decide) rfl (Nat.le_of_ble_eq_true rfl) ?_
  intro p e s m below meth c S hr hlocks hin ls hl hw
  have hl : lv_has ls 2 [(0, .ref a0), (1, .int x1)] := hl
  unfold f_RR_isShift at hf
  refine lv_iload_n S.1 S.2.1 d_RR_isShift_0 rfl (lv_at hl 1 rfl) ?_
  refine lv_if_lt (tgt := 14) S.1 S.2.1 d_RR_isShift_1 (by decide) (fun c1 => ?_) (fun c1 => ?_)
  · replace hf := xt c1 hf
    refine lv_iconst (v := 0) S.1 S.2.1 d_RR_isShift_14 (by decide) ?_
    obtain rfl := xe1 hf
    exact x_zret S hr hlocks hw (by decide) d_RR_isShift_15
  · replace hf := xf c1 hf
    refine lv_iload_n S.1 S.2.1 d_RR_isShift_4 rfl (lv_at hl 1 rfl) ?_
    refine lv_bipush (v := 8) S.1 S.2.1 d_RR_isShift_5 (by decide) ?_
    refine lv_icmp_ge (tgt := 14) S.1 S.2.1 d_RR_isShift_7 (by decide) (fun c2 => ?_) (fun c2 => ?_)
    · replace hf := xt c2 hf
      refine lv_iconst (v := 0) S.1 S.2.1 d_RR_isShift_14 (by decide) ?_
      obtain rfl := xe1 hf
      exact x_zret S hr hlocks hw (by decide) d_RR_isShift_15
    · replace hf := xf c2 hf
      refine lv_iconst (v := 1) S.1 S.2.1 d_RR_isShift_10 (by decide) ?_
      refine lv_goto (tgt := 15) S.1 S.2.1 d_RR_isShift_11 (by decide) ?_
      obtain rfl := xe1 hf
      exact x_zret S hr hlocks hw (by decide) d_RR_isShift_15
def f_RR_shift (a0 : Nat) (x1 : Int32) (x2 : Int32) (x3 : Int32) (x4 : Int32) (ω : xS) : Option (Int32 × xS) :=
  (xk ω a0 11 (f_RR_isShift a0 x1 ω)).bind fun t2 =>
  if t2 = 0 then (
    some ((-1), ω))
  else (
    if x2 < 0 then (
      some ((-1), ω))
    else (
      if 1440 ≤ x2 then (
        some ((-1), ω))
      else (
        if x3 < 1 then (
          some ((-1), ω))
        else (
          if 1440 < x3 then (
            some ((-1), ω))
          else (
            if x4 < 0 then (
              some ((-1), ω))
            else (
              if x4 < 10 then (
                (xgr ω a0 11 1).bind fun t10 =>
                (xgr ω t10 8 2).bind fun t11 =>
                (xsi ω t11 (x1 + 1) x2).bind fun w12 =>
                (xgr w12 a0 11 1).bind fun t13 =>
                (xgr w12 t13 8 3).bind fun t14 =>
                (xsi w12 t14 (x1 + 1) x3).bind fun w15 =>
                (xgr w15 a0 11 1).bind fun t16 =>
                (xgr w15 t16 8 4).bind fun t17 =>
                (xsi w15 t17 (x1 + 1) x4).bind fun w18 =>
                some (1, w18))
              else (
                some ((-1), ω))))))))
set_option maxHeartbeats 4000000 in
set_option maxRecDepth 100000 in
theorem c_RR_shift {l : Launch} {E : xV} {z : Nat} {a0 : Nat} {x1 : Int32} {x2 : Int32} {x3 : Int32} {x4 : Int32} {r : Int32} {ω1 : xS} {ω : xS} (hf : f_RR_shift a0 x1 x2 x3 x4 ω = some (r, ω1)) : xM l E y_RR_shift ws_RR_shift { frames := 1, cells := 0, slots := 0, locals := 21 } [.ref a0, .int x1, .int x2, .int x3, .int x4] z ω (some (.int r)) z ω1 := by
  refine x_start (cc := b_RR_shift) (maxL := 5) (ret := (some .int)) (by decide) rfl (Nat.le_of_ble_eq_true rfl) ?_
  intro p e s m below meth c S hr hlocks hin ls hl hw
  have hl : lv_has ls 5 [(0, .ref a0), (1, .int x1), (2, .int x2), (3, .int x3), (4, .int x4)] := hl
  unfold f_RR_shift at hf
  refine lv_aload_n S.1 S.2.1 d_RR_shift_0 rfl (lv_at hl 0 rfl) ?_
  refine lv_iload_n S.1 S.2.1 d_RR_shift_1 rfl (lv_at hl 1 rfl) ?_
  obtain ⟨t2, h1, hf⟩ := xb hf
  obtain ⟨h1b, h1⟩ := xkb h1
  refine x_callV (As := [.int x1]) (rest := []) (st1 := [.int t2]) S hw (c_RR_isShift h1) (cwV 1 S.2.2.2.2 gv_RR_100 rfl rfl rfl hd_RR_isShift ⟨Nat.le_of_ble_eq_true rfl, Nat.le_of_ble_eq_true rfl⟩) rfl h1b rfl hl.1 rfl rfl (Nat.le_of_ble_eq_true rfl) d_RR_shift_2 ⟨Nat.le_of_ble_eq_true rfl, Nat.le_of_ble_eq_true rfl⟩ (fun H locs hw => ?_)
  refine lv_if_eq (tgt := 43) S.1 S.2.1 d_RR_shift_5 (by decide) (fun c3 => ?_) (fun c3 => ?_)
  · replace hf := xt c3 hf
    refine lv_iconst (v := (-1)) S.1 S.2.1 d_RR_shift_43 (by decide) ?_
    obtain ⟨rfl, rfl⟩ := xe2 hf
    exact x_iret S hr hlocks hw d_RR_shift_44
  · replace hf := xf c3 hf
    refine lv_iload_n S.1 S.2.1 d_RR_shift_8 rfl (lv_at hl 2 rfl) ?_
    refine lv_if_lt (tgt := 43) S.1 S.2.1 d_RR_shift_9 (by decide) (fun c4 => ?_) (fun c4 => ?_)
    · replace hf := xt c4 hf
      refine lv_iconst (v := (-1)) S.1 S.2.1 d_RR_shift_43 (by decide) ?_
      obtain ⟨rfl, rfl⟩ := xe2 hf
      exact x_iret S hr hlocks hw d_RR_shift_44
    · replace hf := xf c4 hf
      refine lv_iload_n S.1 S.2.1 d_RR_shift_12 rfl (lv_at hl 2 rfl) ?_
      refine lv_sipush (v := 1440) S.1 S.2.1 d_RR_shift_13 (by decide) ?_
      refine lv_icmp_ge (tgt := 43) S.1 S.2.1 d_RR_shift_16 (by decide) (fun c5 => ?_) (fun c5 => ?_)
      · replace hf := xt c5 hf
        refine lv_iconst (v := (-1)) S.1 S.2.1 d_RR_shift_43 (by decide) ?_
        obtain ⟨rfl, rfl⟩ := xe2 hf
        exact x_iret S hr hlocks hw d_RR_shift_44
      · replace hf := xf c5 hf
        refine lv_iload_n S.1 S.2.1 d_RR_shift_19 rfl (lv_at hl 3 rfl) ?_
        refine lv_iconst (v := 1) S.1 S.2.1 d_RR_shift_20 (by decide) ?_
        refine lv_icmp_lt (tgt := 43) S.1 S.2.1 d_RR_shift_21 (by decide) (fun c6 => ?_) (fun c6 => ?_)
        · replace hf := xt c6 hf
          refine lv_iconst (v := (-1)) S.1 S.2.1 d_RR_shift_43 (by decide) ?_
          obtain ⟨rfl, rfl⟩ := xe2 hf
          exact x_iret S hr hlocks hw d_RR_shift_44
        · replace hf := xf c6 hf
          refine lv_iload_n S.1 S.2.1 d_RR_shift_24 rfl (lv_at hl 3 rfl) ?_
          refine lv_sipush (v := 1440) S.1 S.2.1 d_RR_shift_25 (by decide) ?_
          refine lv_icmp_gt (tgt := 43) S.1 S.2.1 d_RR_shift_28 (by decide) (fun c7 => ?_) (fun c7 => ?_)
          · replace hf := xt c7 hf
            refine lv_iconst (v := (-1)) S.1 S.2.1 d_RR_shift_43 (by decide) ?_
            obtain ⟨rfl, rfl⟩ := xe2 hf
            exact x_iret S hr hlocks hw d_RR_shift_44
          · replace hf := xf c7 hf
            refine lv_iload S.1 S.2.1 d_RR_shift_31 (lv_at hl 4 rfl) ?_
            refine lv_if_lt (tgt := 43) S.1 S.2.1 d_RR_shift_33 (by decide) (fun c8 => ?_) (fun c8 => ?_)
            · replace hf := xt c8 hf
              refine lv_iconst (v := (-1)) S.1 S.2.1 d_RR_shift_43 (by decide) ?_
              obtain ⟨rfl, rfl⟩ := xe2 hf
              exact x_iret S hr hlocks hw d_RR_shift_44
            · replace hf := xf c8 hf
              refine lv_iload S.1 S.2.1 d_RR_shift_36 (lv_at hl 4 rfl) ?_
              refine lv_bipush (v := 10) S.1 S.2.1 d_RR_shift_38 (by decide) ?_
              refine lv_icmp_lt (tgt := 45) S.1 S.2.1 d_RR_shift_40 (by decide) (fun c9 => ?_) (fun c9 => ?_)
              · replace hf := xt c9 hf
                refine lv_aload_n S.1 S.2.1 d_RR_shift_45 rfl (lv_at hl 0 rfl) ?_
                obtain ⟨t10, ht10, hf⟩ := xb hf
                refine x_getr S hw lk_RR_53 ht10 d_RR_shift_46 ?_
                obtain ⟨t11, ht11, hf⟩ := xb hf
                refine x_getr S hw lk_RR_104 ht11 d_RR_shift_49 ?_
                refine lv_iload_n S.1 S.2.1 d_RR_shift_52 rfl (lv_at hl 1 rfl) ?_
                refine lv_iconst (v := 1) S.1 S.2.1 d_RR_shift_53 (by decide) ?_
                refine lv_iadd S.1 S.2.1 d_RR_shift_54 ?_
                refine lv_iload_n S.1 S.2.1 d_RR_shift_55 rfl (lv_at hl 2 rfl) ?_
                obtain ⟨w12, hw12, hf⟩ := xb hf
                refine x_iast S hw hw12 d_RR_shift_56 (fun H locs hw => ?_)
                refine lv_aload_n S.1 S.2.1 d_RR_shift_57 rfl (lv_at hl 0 rfl) ?_
                obtain ⟨t13, ht13, hf⟩ := xb hf
                refine x_getr S hw lk_RR_53 ht13 d_RR_shift_58 ?_
                obtain ⟨t14, ht14, hf⟩ := xb hf
                refine x_getr S hw lk_RR_108 ht14 d_RR_shift_61 ?_
                refine lv_iload_n S.1 S.2.1 d_RR_shift_64 rfl (lv_at hl 1 rfl) ?_
                refine lv_iconst (v := 1) S.1 S.2.1 d_RR_shift_65 (by decide) ?_
                refine lv_iadd S.1 S.2.1 d_RR_shift_66 ?_
                refine lv_iload_n S.1 S.2.1 d_RR_shift_67 rfl (lv_at hl 3 rfl) ?_
                obtain ⟨w15, hw15, hf⟩ := xb hf
                refine x_iast S hw hw15 d_RR_shift_68 (fun H locs hw => ?_)
                refine lv_aload_n S.1 S.2.1 d_RR_shift_69 rfl (lv_at hl 0 rfl) ?_
                obtain ⟨t16, ht16, hf⟩ := xb hf
                refine x_getr S hw lk_RR_53 ht16 d_RR_shift_70 ?_
                obtain ⟨t17, ht17, hf⟩ := xb hf
                refine x_getr S hw lk_RR_111 ht17 d_RR_shift_73 ?_
                refine lv_iload_n S.1 S.2.1 d_RR_shift_76 rfl (lv_at hl 1 rfl) ?_
                refine lv_iconst (v := 1) S.1 S.2.1 d_RR_shift_77 (by decide) ?_
                refine lv_iadd S.1 S.2.1 d_RR_shift_78 ?_
                refine lv_iload S.1 S.2.1 d_RR_shift_79 (lv_at hl 4 rfl) ?_
                obtain ⟨w18, hw18, hf⟩ := xb hf
                refine x_iast S hw hw18 d_RR_shift_81 (fun H locs hw => ?_)
                refine lv_iconst (v := 1) S.1 S.2.1 d_RR_shift_82 (by decide) ?_
                obtain ⟨rfl, rfl⟩ := xe2 hf
                exact x_iret S hr hlocks hw d_RR_shift_83
              · replace hf := xf c9 hf
                refine lv_iconst (v := (-1)) S.1 S.2.1 d_RR_shift_43 (by decide) ?_
                obtain ⟨rfl, rfl⟩ := xe2 hf
                exact x_iret S hr hlocks hw d_RR_shift_44
def f_RR_isPerson (a0 : Nat) (x1 : Int32) (ω : xS) : Option Int32 :=
  if x1 < 0 then (
    some 0)
  else (
    (xgr ω a0 11 1).bind fun t2 =>
    (xgi ω t2 8 0).bind fun t3 =>
    if t3 ≤ x1 then (
      some 0)
    else (
      some 1))
set_option maxHeartbeats 4000000 in
set_option maxRecDepth 100000 in
theorem c_RR_isPerson {l : Launch} {E : xV} {z : Nat} {a0 : Nat} {x1 : Int32} {r : Int32} {ω : xS} (hf : f_RR_isPerson a0 x1 ω = some r) : xM l E y_RR_isPerson ws_RR_isPerson { frames := 0, cells := 0, slots := 0, locals := 0 } [.ref a0, .int x1] z ω (some (.int r)) z ω := by
  refine x_start (cc := b_RR_isPerson) (maxL := 2) (ret := (some .boolean)) (by decide) rfl (Nat.le_of_ble_eq_true rfl) ?_
  intro p e s m below meth c S hr hlocks hin ls hl hw
  have hl : lv_has ls 2 [(0, .ref a0), (1, .int x1)] := hl
  unfold f_RR_isPerson at hf
  refine lv_iload_n S.1 S.2.1 d_RR_isPerson_0 rfl (lv_at hl 1 rfl) ?_
  refine lv_if_lt (tgt := 19) S.1 S.2.1 d_RR_isPerson_1 (by decide) (fun c1 => ?_) (fun c1 => ?_)
  · replace hf := xt c1 hf
    refine lv_iconst (v := 0) S.1 S.2.1 d_RR_isPerson_19 (by decide) ?_
    obtain rfl := xe1 hf
    exact x_zret S hr hlocks hw (by decide) d_RR_isPerson_20
  · replace hf := xf c1 hf
    refine lv_iload_n S.1 S.2.1 d_RR_isPerson_4 rfl (lv_at hl 1 rfl) ?_
    refine lv_aload_n S.1 S.2.1 d_RR_isPerson_5 rfl (lv_at hl 0 rfl) ?_
    obtain ⟨t2, ht2, hf⟩ := xb hf
    refine x_getr S hw lk_RR_53 ht2 d_RR_isPerson_6 ?_
    obtain ⟨t3, ht3, hf⟩ := xb hf
    refine x_geti S hw lk_RR_252 ht3 d_RR_isPerson_9 ?_
    refine lv_icmp_ge (tgt := 19) S.1 S.2.1 d_RR_isPerson_12 (by decide) (fun c4 => ?_) (fun c4 => ?_)
    · replace hf := xt c4 hf
      refine lv_iconst (v := 0) S.1 S.2.1 d_RR_isPerson_19 (by decide) ?_
      obtain rfl := xe1 hf
      exact x_zret S hr hlocks hw (by decide) d_RR_isPerson_20
    · replace hf := xf c4 hf
      refine lv_iconst (v := 1) S.1 S.2.1 d_RR_isPerson_15 (by decide) ?_
      refine lv_goto (tgt := 20) S.1 S.2.1 d_RR_isPerson_16 (by decide) ?_
      obtain rfl := xe1 hf
      exact x_zret S hr hlocks hw (by decide) d_RR_isPerson_20
def f_RR_person (a0 : Nat) (x1 : Int32) (x2 : Int32) (ω : xS) : Option (Int32 × xS) :=
  (xk ω a0 11 (f_RR_isPerson a0 x1 ω)).bind fun t2 =>
  if t2 = 0 then (
    some ((-1), ω))
  else (
    if x2 < 0 then (
      some ((-1), ω))
    else (
      if x2 < 1024 then (
        (xgr ω a0 11 1).bind fun t6 =>
        (xgr ω t6 8 5).bind fun t7 =>
        (xsi ω t7 x1 x2).bind fun w8 =>
        some (1, w8))
      else (
        some ((-1), ω))))
set_option maxHeartbeats 4000000 in
set_option maxRecDepth 100000 in
theorem c_RR_person {l : Launch} {E : xV} {z : Nat} {a0 : Nat} {x1 : Int32} {x2 : Int32} {r : Int32} {ω1 : xS} {ω : xS} (hf : f_RR_person a0 x1 x2 ω = some (r, ω1)) : xM l E y_RR_person ws_RR_person { frames := 1, cells := 0, slots := 0, locals := 21 } [.ref a0, .int x1, .int x2] z ω (some (.int r)) z ω1 := by
  refine x_start (cc := b_RR_person) (maxL := 3) (ret := (some .int)) (by decide) rfl (Nat.le_of_ble_eq_true rfl) ?_
  intro p e s m below meth c S hr hlocks hin ls hl hw
  have hl : lv_has ls 3 [(0, .ref a0), (1, .int x1), (2, .int x2)] := hl
  unfold f_RR_person at hf
  refine lv_aload_n S.1 S.2.1 d_RR_person_0 rfl (lv_at hl 0 rfl) ?_
  refine lv_iload_n S.1 S.2.1 d_RR_person_1 rfl (lv_at hl 1 rfl) ?_
  obtain ⟨t2, h1, hf⟩ := xb hf
  obtain ⟨h1b, h1⟩ := xkb h1
  refine x_callV (As := [.int x1]) (rest := []) (st1 := [.int t2]) S hw (c_RR_isPerson h1) (cwV 1 S.2.2.2.2 gv_RR_114 rfl rfl rfl hd_RR_isPerson ⟨Nat.le_of_ble_eq_true rfl, Nat.le_of_ble_eq_true rfl⟩) rfl h1b rfl hl.1 rfl rfl (Nat.le_of_ble_eq_true rfl) d_RR_person_2 ⟨Nat.le_of_ble_eq_true rfl, Nat.le_of_ble_eq_true rfl⟩ (fun H locs hw => ?_)
  refine lv_if_eq (tgt := 19) S.1 S.2.1 d_RR_person_5 (by decide) (fun c3 => ?_) (fun c3 => ?_)
  · replace hf := xt c3 hf
    refine lv_iconst (v := (-1)) S.1 S.2.1 d_RR_person_19 (by decide) ?_
    obtain ⟨rfl, rfl⟩ := xe2 hf
    exact x_iret S hr hlocks hw d_RR_person_20
  · replace hf := xf c3 hf
    refine lv_iload_n S.1 S.2.1 d_RR_person_8 rfl (lv_at hl 2 rfl) ?_
    refine lv_if_lt (tgt := 19) S.1 S.2.1 d_RR_person_9 (by decide) (fun c4 => ?_) (fun c4 => ?_)
    · replace hf := xt c4 hf
      refine lv_iconst (v := (-1)) S.1 S.2.1 d_RR_person_19 (by decide) ?_
      obtain ⟨rfl, rfl⟩ := xe2 hf
      exact x_iret S hr hlocks hw d_RR_person_20
    · replace hf := xf c4 hf
      refine lv_iload_n S.1 S.2.1 d_RR_person_12 rfl (lv_at hl 2 rfl) ?_
      refine lv_sipush (v := 1024) S.1 S.2.1 d_RR_person_13 (by decide) ?_
      refine lv_icmp_lt (tgt := 21) S.1 S.2.1 d_RR_person_16 (by decide) (fun c5 => ?_) (fun c5 => ?_)
      · replace hf := xt c5 hf
        refine lv_aload_n S.1 S.2.1 d_RR_person_21 rfl (lv_at hl 0 rfl) ?_
        obtain ⟨t6, ht6, hf⟩ := xb hf
        refine x_getr S hw lk_RR_53 ht6 d_RR_person_22 ?_
        obtain ⟨t7, ht7, hf⟩ := xb hf
        refine x_getr S hw lk_RR_117 ht7 d_RR_person_25 ?_
        refine lv_iload_n S.1 S.2.1 d_RR_person_28 rfl (lv_at hl 1 rfl) ?_
        refine lv_iload_n S.1 S.2.1 d_RR_person_29 rfl (lv_at hl 2 rfl) ?_
        obtain ⟨w8, hw8, hf⟩ := xb hf
        refine x_iast S hw hw8 d_RR_person_30 (fun H locs hw => ?_)
        refine lv_iconst (v := 1) S.1 S.2.1 d_RR_person_31 (by decide) ?_
        obtain ⟨rfl, rfl⟩ := xe2 hf
        exact x_iret S hr hlocks hw d_RR_person_32
      · replace hf := xf c5 hf
        refine lv_iconst (v := (-1)) S.1 S.2.1 d_RR_person_19 (by decide) ?_
        obtain ⟨rfl, rfl⟩ := xe2 hf
        exact x_iret S hr hlocks hw d_RR_person_20
def f_RR_isShiftOrOff (a0 : Nat) (x1 : Int32) (ω : xS) : Option Int32 :=
  if x1 = (-1) then (
    some 1)
  else (
    (xk ω a0 11 (f_RR_isShift a0 x1 ω)).bind fun t3 =>
    if t3 = 0 then (
      some 0)
    else (
      some 1))
set_option maxHeartbeats 4000000 in
set_option maxRecDepth 100000 in
theorem c_RR_isShiftOrOff {l : Launch} {E : xV} {z : Nat} {a0 : Nat} {x1 : Int32} {r : Int32} {ω : xS} (hf : f_RR_isShiftOrOff a0 x1 ω = some r) : xM l E y_RR_isShiftOrOff ws_RR_isShiftOrOff { frames := 1, cells := 0, slots := 0, locals := 21 } [.ref a0, .int x1] z ω (some (.int r)) z ω := by
  refine x_start (cc := b_RR_isShiftOrOff) (maxL := 2) (ret := (some .boolean)) (by decide) rfl (Nat.le_of_ble_eq_true rfl) ?_
  intro p e s m below meth c S hr hlocks hin ls hl hw
  have hl : lv_has ls 2 [(0, .ref a0), (1, .int x1)] := hl
  unfold f_RR_isShiftOrOff at hf
  refine lv_iload_n S.1 S.2.1 d_RR_isShiftOrOff_0 rfl (lv_at hl 1 rfl) ?_
  refine lv_iconst (v := (-1)) S.1 S.2.1 d_RR_isShiftOrOff_1 (by decide) ?_
  refine lv_icmp_eq (tgt := 13) S.1 S.2.1 d_RR_isShiftOrOff_2 (by decide) (fun c1 => ?_) (fun c1 => ?_)
  · replace hf := xt c1 hf
    refine lv_iconst (v := 1) S.1 S.2.1 d_RR_isShiftOrOff_13 (by decide) ?_
    refine lv_goto (tgt := 18) S.1 S.2.1 d_RR_isShiftOrOff_14 (by decide) ?_
    obtain rfl := xe1 hf
    exact x_zret S hr hlocks hw (by decide) d_RR_isShiftOrOff_18
  · replace hf := xf c1 hf
    refine lv_aload_n S.1 S.2.1 d_RR_isShiftOrOff_5 rfl (lv_at hl 0 rfl) ?_
    refine lv_iload_n S.1 S.2.1 d_RR_isShiftOrOff_6 rfl (lv_at hl 1 rfl) ?_
    obtain ⟨t3, h2, hf⟩ := xb hf
    obtain ⟨h2b, h2⟩ := xkb h2
    refine x_callV (As := [.int x1]) (rest := []) (st1 := [.int t3]) S hw (c_RR_isShift h2) (cwV 1 S.2.2.2.2 gv_RR_100 rfl rfl rfl hd_RR_isShift ⟨Nat.le_of_ble_eq_true rfl, Nat.le_of_ble_eq_true rfl⟩) rfl h2b rfl hl.1 rfl rfl (Nat.le_of_ble_eq_true rfl) d_RR_isShiftOrOff_7 ⟨Nat.le_of_ble_eq_true rfl, Nat.le_of_ble_eq_true rfl⟩ (fun H locs hw => ?_)
    refine lv_if_eq (tgt := 17) S.1 S.2.1 d_RR_isShiftOrOff_10 (by decide) (fun c4 => ?_) (fun c4 => ?_)
    · replace hf := xt c4 hf
      refine lv_iconst (v := 0) S.1 S.2.1 d_RR_isShiftOrOff_17 (by decide) ?_
      obtain rfl := xe1 hf
      exact x_zret S hr hlocks hw (by decide) d_RR_isShiftOrOff_18
    · replace hf := xf c4 hf
      refine lv_iconst (v := 1) S.1 S.2.1 d_RR_isShiftOrOff_13 (by decide) ?_
      refine lv_goto (tgt := 18) S.1 S.2.1 d_RR_isShiftOrOff_14 (by decide) ?_
      obtain rfl := xe1 hf
      exact x_zret S hr hlocks hw (by decide) d_RR_isShiftOrOff_18
def f_RR_past (a0 : Nat) (x1 : Int32) (x2 : Int32) (x3 : Int32) (ω : xS) : Option (Int32 × xS) :=
  (xk ω a0 11 (f_RR_isPerson a0 x1 ω)).bind fun t2 =>
  if t2 = 0 then (
    some ((-9), ω))
  else (
    if x2 < 1 then (
      some ((-9), ω))
    else (
      if 7 < x2 then (
        some ((-9), ω))
      else (
        (xk ω a0 11 (f_RR_isShiftOrOff a0 x3 ω)).bind fun t7 =>
        if t7 = 0 then (
          some ((-9), ω))
        else (
          (xgr ω a0 11 1).bind fun t9 =>
          (xgr ω t9 8 6).bind fun t10 =>
          (xar ω 2 t10 x1).bind fun t11 =>
          (xai ω t11 (7 - x2)).bind fun t12 =>
          (xgr ω a0 11 1).bind fun t13 =>
          (xgr ω t13 8 6).bind fun t14 =>
          (xar ω 2 t14 x1).bind fun t15 =>
          (xsi ω t15 (7 - x2) (x3 + 1)).bind fun w16 =>
          some ((t12 - 1), w16)))))
set_option maxHeartbeats 4000000 in
set_option maxRecDepth 100000 in
theorem c_RR_past {l : Launch} {E : xV} {z : Nat} {a0 : Nat} {x1 : Int32} {x2 : Int32} {x3 : Int32} {r : Int32} {ω1 : xS} {ω : xS} (hf : f_RR_past a0 x1 x2 x3 ω = some (r, ω1)) : xM l E y_RR_past ws_RR_past { frames := 2, cells := 0, slots := 0, locals := 42 } [.ref a0, .int x1, .int x2, .int x3] z ω (some (.int r)) z ω1 := by
  refine x_start (cc := b_RR_past) (maxL := 5) (ret := (some .int)) (by decide) rfl (Nat.le_of_ble_eq_true rfl) ?_
  intro p e s m below meth c S hr hlocks hin ls hl hw
  have hl : lv_has ls 5 [(0, .ref a0), (1, .int x1), (2, .int x2), (3, .int x3)] := hl
  unfold f_RR_past at hf
  refine lv_aload_n S.1 S.2.1 d_RR_past_0 rfl (lv_at hl 0 rfl) ?_
  refine lv_iload_n S.1 S.2.1 d_RR_past_1 rfl (lv_at hl 1 rfl) ?_
  obtain ⟨t2, h1, hf⟩ := xb hf
  obtain ⟨h1b, h1⟩ := xkb h1
  refine x_callV (As := [.int x1]) (rest := []) (st1 := [.int t2]) S hw (c_RR_isPerson h1) (cwV 1 S.2.2.2.2 gv_RR_114 rfl rfl rfl hd_RR_isPerson ⟨Nat.le_of_ble_eq_true rfl, Nat.le_of_ble_eq_true rfl⟩) rfl h1b rfl hl.1 rfl rfl (Nat.le_of_ble_eq_true rfl) d_RR_past_2 ⟨Nat.le_of_ble_eq_true rfl, Nat.le_of_ble_eq_true rfl⟩ (fun H locs hw => ?_)
  refine lv_if_eq (tgt := 27) S.1 S.2.1 d_RR_past_5 (by decide) (fun c3 => ?_) (fun c3 => ?_)
  · replace hf := xt c3 hf
    refine lv_bipush (v := (-9)) S.1 S.2.1 d_RR_past_27 (by decide) ?_
    obtain ⟨rfl, rfl⟩ := xe2 hf
    exact x_iret S hr hlocks hw d_RR_past_29
  · replace hf := xf c3 hf
    refine lv_iload_n S.1 S.2.1 d_RR_past_8 rfl (lv_at hl 2 rfl) ?_
    refine lv_iconst (v := 1) S.1 S.2.1 d_RR_past_9 (by decide) ?_
    refine lv_icmp_lt (tgt := 27) S.1 S.2.1 d_RR_past_10 (by decide) (fun c4 => ?_) (fun c4 => ?_)
    · replace hf := xt c4 hf
      refine lv_bipush (v := (-9)) S.1 S.2.1 d_RR_past_27 (by decide) ?_
      obtain ⟨rfl, rfl⟩ := xe2 hf
      exact x_iret S hr hlocks hw d_RR_past_29
    · replace hf := xf c4 hf
      refine lv_iload_n S.1 S.2.1 d_RR_past_13 rfl (lv_at hl 2 rfl) ?_
      refine lv_bipush (v := 7) S.1 S.2.1 d_RR_past_14 (by decide) ?_
      refine lv_icmp_gt (tgt := 27) S.1 S.2.1 d_RR_past_16 (by decide) (fun c5 => ?_) (fun c5 => ?_)
      · replace hf := xt c5 hf
        refine lv_bipush (v := (-9)) S.1 S.2.1 d_RR_past_27 (by decide) ?_
        obtain ⟨rfl, rfl⟩ := xe2 hf
        exact x_iret S hr hlocks hw d_RR_past_29
      · replace hf := xf c5 hf
        refine lv_aload_n S.1 S.2.1 d_RR_past_19 rfl (lv_at hl 0 rfl) ?_
        refine lv_iload_n S.1 S.2.1 d_RR_past_20 rfl (lv_at hl 3 rfl) ?_
        obtain ⟨t7, h6, hf⟩ := xb hf
        obtain ⟨h6b, h6⟩ := xkb h6
        refine x_callV (As := [.int x3]) (rest := []) (st1 := [.int t7]) S hw (c_RR_isShiftOrOff h6) (cwV 1 S.2.2.2.2 gv_RR_120 rfl rfl rfl hd_RR_isShiftOrOff ⟨Nat.le_of_ble_eq_true rfl, Nat.le_of_ble_eq_true rfl⟩) rfl h6b rfl hl.1 rfl rfl (Nat.le_of_ble_eq_true rfl) d_RR_past_21 ⟨Nat.le_of_ble_eq_true rfl, Nat.le_of_ble_eq_true rfl⟩ (fun H locs hw => ?_)
        refine lv_if_ne (tgt := 30) S.1 S.2.1 d_RR_past_24 (by decide) (fun c8 => ?_) (fun c8 => ?_)
        · replace hf := xf c8 hf
          refine lv_aload_n S.1 S.2.1 d_RR_past_30 rfl (lv_at hl 0 rfl) ?_
          obtain ⟨t9, ht9, hf⟩ := xb hf
          refine x_getr S hw lk_RR_53 ht9 d_RR_past_31 ?_
          obtain ⟨t10, ht10, hf⟩ := xb hf
          refine x_getr S hw lk_RR_123 ht10 d_RR_past_34 ?_
          refine lv_iload_n S.1 S.2.1 d_RR_past_37 rfl (lv_at hl 1 rfl) ?_
          obtain ⟨t11, ht11, hf⟩ := xb hf
          refine x_aald S hw (t := 2) rfl rfl ht11 d_RR_past_38 ?_
          refine lv_bipush (v := 7) S.1 S.2.1 d_RR_past_39 (by decide) ?_
          refine lv_iload_n S.1 S.2.1 d_RR_past_41 rfl (lv_at hl 2 rfl) ?_
          refine lv_isub S.1 S.2.1 d_RR_past_42 ?_
          obtain ⟨t12, ht12, hf⟩ := xb hf
          refine x_iald S hw ht12 d_RR_past_43 ?_
          refine lv_istore (lv' := [(4, .int t12), (0, .ref a0), (1, .int x1), (2, .int x2), (3, .int x3)]) S.1 S.2.1 d_RR_past_44 hl (by decide) rfl (fun ls hl => ?_)
          refine lv_aload_n S.1 S.2.1 d_RR_past_46 rfl (lv_at hl 1 rfl) ?_
          obtain ⟨t13, ht13, hf⟩ := xb hf
          refine x_getr S hw lk_RR_53 ht13 d_RR_past_47 ?_
          obtain ⟨t14, ht14, hf⟩ := xb hf
          refine x_getr S hw lk_RR_123 ht14 d_RR_past_50 ?_
          refine lv_iload_n S.1 S.2.1 d_RR_past_53 rfl (lv_at hl 2 rfl) ?_
          obtain ⟨t15, ht15, hf⟩ := xb hf
          refine x_aald S hw (t := 2) rfl rfl ht15 d_RR_past_54 ?_
          refine lv_bipush (v := 7) S.1 S.2.1 d_RR_past_55 (by decide) ?_
          refine lv_iload_n S.1 S.2.1 d_RR_past_57 rfl (lv_at hl 3 rfl) ?_
          refine lv_isub S.1 S.2.1 d_RR_past_58 ?_
          refine lv_iload_n S.1 S.2.1 d_RR_past_59 rfl (lv_at hl 4 rfl) ?_
          refine lv_iconst (v := 1) S.1 S.2.1 d_RR_past_60 (by decide) ?_
          refine lv_iadd S.1 S.2.1 d_RR_past_61 ?_
          obtain ⟨w16, hw16, hf⟩ := xb hf
          refine x_iast S hw hw16 d_RR_past_62 (fun H locs hw => ?_)
          refine lv_iload S.1 S.2.1 d_RR_past_63 (lv_at hl 0 rfl) ?_
          refine lv_iconst (v := 1) S.1 S.2.1 d_RR_past_65 (by decide) ?_
          refine lv_isub S.1 S.2.1 d_RR_past_66 ?_
          obtain ⟨rfl, rfl⟩ := xe2 hf
          exact x_iret S hr hlocks hw d_RR_past_67
        · replace hf := xt c8 hf
          refine lv_bipush (v := (-9)) S.1 S.2.1 d_RR_past_27 (by decide) ?_
          obtain ⟨rfl, rfl⟩ := xe2 hf
          exact x_iret S hr hlocks hw d_RR_past_29
