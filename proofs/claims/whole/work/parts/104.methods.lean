def f_Judge_aroundCell (a0 : Nat) (a1 : Nat) (x2 : Int32) (x3 : Int32) (ω : xS) : Option Int64 :=
  (xgi ω a1 4 2).bind fun t1 =>
  if t1 = 0 then (
    (xk ω a0 3 (f_Judge_unskilled a0 x2 x3 x3 ω)).bind fun t4 =>
    some t4)
  else (
  if t1 = 1 then (
    (xgi ω a1 4 5).bind fun t6 =>
    (xk ω a0 3 (f_Judge_shortRests a0 t6 x2 ω)).bind fun t8 =>
    some t8)
  else (
  if t1 = 2 then (
    (xgi ω a1 4 7).bind fun t10 =>
    (xgr ω a0 3 0).bind fun t11 =>
    (xgi ω t11 8 1).bind fun t12 =>
    (xgi ω a1 4 7).bind fun t13 =>
    (xk ω a0 3 (f_Judge_hoursAmiss a0 a1 x2 (xmax 0 ((x3 - t10) + 1)) (xmin x3 (t12 - t13)) ω)).bind fun t15 =>
    some t15)
  else (
  if t1 = 3 then (
    (xgr ω a1 4 0).bind fun t17 =>
    (xk ω a0 3 (f_Judge_matches a0 t17 x2 ω)).bind fun t19 =>
    some t19)
  else (
  if t1 = 4 then (
    (xgr ω a1 4 0).bind fun t21 =>
    (xk ω a0 3 (f_Judge_noWord a0 t21 x2 ω)).bind fun t23 =>
    some t23)
  else (
  if t1 = 5 then (
    (xgi ω a1 4 8).bind fun t25 =>
    (xk ω a0 3 (f_Judge_unfairness a0 t25 ω)).bind fun t27 =>
    some t27)
  else (
  (xk ω a0 3 (f_Judge_coverAmiss a0 a1 x3 ω)).bind fun t29 =>
  some t29))))))
set_option maxHeartbeats 4000000 in
set_option maxRecDepth 100000 in
theorem c_Judge_aroundCell {l : Launch} {E : xV} {z : Nat} {a0 : Nat} {a1 : Nat} {x2 : Int32} {x3 : Int32} {r : Int64} {ω : xS} (hf : f_Judge_aroundCell a0 a1 x2 x3 ω = some r) : xM l E y_Judge_aroundCell ws_Judge_aroundCell { frames := 3, cells := 0, slots := 0, locals := 77 } [.ref a0, .ref a1, .int x2, .int x3] z ω (some (.long r)) z ω := by
  refine x_start (cc := b_Judge_aroundCell) (maxL := 4) (ret := (some .long)) (by decide) rfl (Nat.le_of_ble_eq_true rfl) ?_
  intro p e s m below meth c S hr hlocks hin ls hl hw
  have hl : lv_has ls 4 [(0, .ref a0), (1, .ref a1), (2, .int x2), (3, .int x3)] := hl
  unfold f_Judge_aroundCell at hf
  refine lv_aload_n S.1 S.2.1 d_Judge_aroundCell_0 rfl (lv_at hl 1 rfl) ?_
  obtain ⟨t1, ht1, hf⟩ := xb hf
  refine x_geti S hw lk_Judge_15 ht1 d_Judge_aroundCell_1 ?_
  by_cases c2 : t1 = 0
  · replace hf := xt c2 hf
    refine lv_tableIn (tgt := 44) S.1 S.2.1 d_Judge_aroundCell_4 (by rw [c2]; decide) (by rw [c2]; decide) (by rw [c2]; rfl) (by decide) ?_
    refine lv_aload_n S.1 S.2.1 d_Judge_aroundCell_44 rfl (lv_at hl 0 rfl) ?_
    refine lv_iload_n S.1 S.2.1 d_Judge_aroundCell_45 rfl (lv_at hl 2 rfl) ?_
    refine lv_iload_n S.1 S.2.1 d_Judge_aroundCell_46 rfl (lv_at hl 3 rfl) ?_
    refine lv_iload_n S.1 S.2.1 d_Judge_aroundCell_47 rfl (lv_at hl 3 rfl) ?_
    obtain ⟨t4, h3, hf⟩ := xb hf
    obtain ⟨h3b, h3⟩ := xkb h3
    refine x_callV (As := [.int x2, .int x3, .int x3]) (rest := []) (st1 := [.long t4]) S hw (c_Judge_unskilled h3) (cwV 3 S.2.2.2.2 gv_Judge_43 rfl rfl rfl hd_Judge_unskilled ⟨Nat.le_of_ble_eq_true rfl, Nat.le_of_ble_eq_true rfl⟩) rfl h3b rfl hl.1 rfl rfl (Nat.le_of_ble_eq_true rfl) d_Judge_aroundCell_48 ⟨Nat.le_of_ble_eq_true rfl, Nat.le_of_ble_eq_true rfl⟩ (fun H locs hw => ?_)
    obtain rfl := xe1 hf
    exact x_lret S hr hlocks hw d_Judge_aroundCell_51
  replace hf := xf c2 hf
  by_cases c5 : t1 = 1
  · replace hf := xt c5 hf
    refine lv_tableIn (tgt := 52) S.1 S.2.1 d_Judge_aroundCell_4 (by rw [c5]; decide) (by rw [c5]; decide) (by rw [c5]; rfl) (by decide) ?_
    refine lv_aload_n S.1 S.2.1 d_Judge_aroundCell_52 rfl (lv_at hl 0 rfl) ?_
    refine lv_aload_n S.1 S.2.1 d_Judge_aroundCell_53 rfl (lv_at hl 1 rfl) ?_
    obtain ⟨t6, ht6, hf⟩ := xb hf
    refine x_geti S hw lk_Judge_47 ht6 d_Judge_aroundCell_54 ?_
    refine lv_iload_n S.1 S.2.1 d_Judge_aroundCell_57 rfl (lv_at hl 2 rfl) ?_
    obtain ⟨t8, h7, hf⟩ := xb hf
    obtain ⟨h7b, h7⟩ := xkb h7
    refine x_callV (As := [.int t6, .int x2]) (rest := []) (st1 := [.long t8]) S hw (c_Judge_shortRests h7) (cwV 2 S.2.2.2.2 gv_Judge_50 rfl rfl rfl hd_Judge_shortRests ⟨Nat.le_of_ble_eq_true rfl, Nat.le_of_ble_eq_true rfl⟩) rfl h7b rfl hl.1 rfl rfl (Nat.le_of_ble_eq_true rfl) d_Judge_aroundCell_58 ⟨Nat.le_of_ble_eq_true rfl, Nat.le_of_ble_eq_true rfl⟩ (fun H locs hw => ?_)
    obtain rfl := xe1 hf
    exact x_lret S hr hlocks hw d_Judge_aroundCell_61
  replace hf := xf c5 hf
  by_cases c9 : t1 = 2
  · replace hf := xt c9 hf
    refine lv_tableIn (tgt := 62) S.1 S.2.1 d_Judge_aroundCell_4 (by rw [c9]; decide) (by rw [c9]; decide) (by rw [c9]; rfl) (by decide) ?_
    refine lv_aload_n S.1 S.2.1 d_Judge_aroundCell_62 rfl (lv_at hl 0 rfl) ?_
    refine lv_aload_n S.1 S.2.1 d_Judge_aroundCell_63 rfl (lv_at hl 1 rfl) ?_
    refine lv_iload_n S.1 S.2.1 d_Judge_aroundCell_64 rfl (lv_at hl 2 rfl) ?_
    refine lv_iconst (v := 0) S.1 S.2.1 d_Judge_aroundCell_65 (by decide) ?_
    refine lv_iload_n S.1 S.2.1 d_Judge_aroundCell_66 rfl (lv_at hl 3 rfl) ?_
    refine lv_aload_n S.1 S.2.1 d_Judge_aroundCell_67 rfl (lv_at hl 1 rfl) ?_
    obtain ⟨t10, ht10, hf⟩ := xb hf
    refine x_geti S hw lk_Judge_54 ht10 d_Judge_aroundCell_68 ?_
    refine lv_isub S.1 S.2.1 d_Judge_aroundCell_71 ?_
    refine lv_iconst (v := 1) S.1 S.2.1 d_Judge_aroundCell_72 (by decide) ?_
    refine lv_iadd S.1 S.2.1 d_Judge_aroundCell_73 ?_
    refine x_mmax S hl.1 lm_Judge_72 d_Judge_aroundCell_74 (Nat.le_of_ble_eq_true rfl) (Nat.le_of_ble_eq_true rfl) (Nat.zero_le _) (Nat.zero_le _) ?_
    refine lv_iload_n S.1 S.2.1 d_Judge_aroundCell_77 rfl (lv_at hl 3 rfl) ?_
    refine lv_aload_n S.1 S.2.1 d_Judge_aroundCell_78 rfl (lv_at hl 0 rfl) ?_
    obtain ⟨t11, ht11, hf⟩ := xb hf
    refine x_getr S hw lk_Judge_9 ht11 d_Judge_aroundCell_79 ?_
    obtain ⟨t12, ht12, hf⟩ := xb hf
    refine x_geti S hw lk_Judge_28 ht12 d_Judge_aroundCell_82 ?_
    refine lv_aload_n S.1 S.2.1 d_Judge_aroundCell_85 rfl (lv_at hl 1 rfl) ?_
    obtain ⟨t13, ht13, hf⟩ := xb hf
    refine x_geti S hw lk_Judge_54 ht13 d_Judge_aroundCell_86 ?_
    refine lv_isub S.1 S.2.1 d_Judge_aroundCell_89 ?_
    refine x_mmin S hl.1 lm_Judge_78 d_Judge_aroundCell_90 (Nat.le_of_ble_eq_true rfl) (Nat.le_of_ble_eq_true rfl) (Nat.zero_le _) (Nat.zero_le _) ?_
    obtain ⟨t15, h14, hf⟩ := xb hf
    obtain ⟨h14b, h14⟩ := xkb h14
    refine x_callV (As := [.ref a1, .int x2, .int (xmax 0 ((x3 - t10) + 1)), .int (xmin x3 (t12 - t13))]) (rest := []) (st1 := [.long t15]) S hw (c_Judge_hoursAmiss h14) (cwV 4 S.2.2.2.2 gv_Judge_57 rfl rfl rfl hd_Judge_hoursAmiss ⟨Nat.le_of_ble_eq_true rfl, Nat.le_of_ble_eq_true rfl⟩) rfl h14b rfl hl.1 rfl rfl (Nat.le_of_ble_eq_true rfl) d_Judge_aroundCell_93 ⟨Nat.le_of_ble_eq_true rfl, Nat.le_of_ble_eq_true rfl⟩ (fun H locs hw => ?_)
    obtain rfl := xe1 hf
    exact x_lret S hr hlocks hw d_Judge_aroundCell_96
  replace hf := xf c9 hf
  by_cases c16 : t1 = 3
  · replace hf := xt c16 hf
    refine lv_tableIn (tgt := 97) S.1 S.2.1 d_Judge_aroundCell_4 (by rw [c16]; decide) (by rw [c16]; decide) (by rw [c16]; rfl) (by decide) ?_
    refine lv_aload_n S.1 S.2.1 d_Judge_aroundCell_97 rfl (lv_at hl 0 rfl) ?_
    refine lv_aload_n S.1 S.2.1 d_Judge_aroundCell_98 rfl (lv_at hl 1 rfl) ?_
    obtain ⟨t17, ht17, hf⟩ := xb hf
    refine x_getr S hw lk_Judge_61 ht17 d_Judge_aroundCell_99 ?_
    refine lv_iload_n S.1 S.2.1 d_Judge_aroundCell_102 rfl (lv_at hl 2 rfl) ?_
    obtain ⟨t19, h18, hf⟩ := xb hf
    obtain ⟨h18b, h18⟩ := xkb h18
    refine x_callV (As := [.ref t17, .int x2]) (rest := []) (st1 := [.long t19]) S hw (c_Judge_matches h18) (cwV 2 S.2.2.2.2 gv_Judge_65 rfl rfl rfl hd_Judge_matches ⟨Nat.le_of_ble_eq_true rfl, Nat.le_of_ble_eq_true rfl⟩) rfl h18b rfl hl.1 rfl rfl (Nat.le_of_ble_eq_true rfl) d_Judge_aroundCell_103 ⟨Nat.le_of_ble_eq_true rfl, Nat.le_of_ble_eq_true rfl⟩ (fun H locs hw => ?_)
    obtain rfl := xe1 hf
    exact x_lret S hr hlocks hw d_Judge_aroundCell_106
  replace hf := xf c16 hf
  by_cases c20 : t1 = 4
  · replace hf := xt c20 hf
    refine lv_tableIn (tgt := 107) S.1 S.2.1 d_Judge_aroundCell_4 (by rw [c20]; decide) (by rw [c20]; decide) (by rw [c20]; rfl) (by decide) ?_
    refine lv_aload_n S.1 S.2.1 d_Judge_aroundCell_107 rfl (lv_at hl 0 rfl) ?_
    refine lv_aload_n S.1 S.2.1 d_Judge_aroundCell_108 rfl (lv_at hl 1 rfl) ?_
    obtain ⟨t21, ht21, hf⟩ := xb hf
    refine x_getr S hw lk_Judge_61 ht21 d_Judge_aroundCell_109 ?_
    refine lv_iload_n S.1 S.2.1 d_Judge_aroundCell_112 rfl (lv_at hl 2 rfl) ?_
    obtain ⟨t23, h22, hf⟩ := xb hf
    obtain ⟨h22b, h22⟩ := xkb h22
    refine x_callV (As := [.ref t21, .int x2]) (rest := []) (st1 := [.long t23]) S hw (c_Judge_noWord h22) (cwV 2 S.2.2.2.2 gv_Judge_69 rfl rfl rfl hd_Judge_noWord ⟨Nat.le_of_ble_eq_true rfl, Nat.le_of_ble_eq_true rfl⟩) rfl h22b rfl hl.1 rfl rfl (Nat.le_of_ble_eq_true rfl) d_Judge_aroundCell_113 ⟨Nat.le_of_ble_eq_true rfl, Nat.le_of_ble_eq_true rfl⟩ (fun H locs hw => ?_)
    obtain rfl := xe1 hf
    exact x_lret S hr hlocks hw d_Judge_aroundCell_116
  replace hf := xf c20 hf
  by_cases c24 : t1 = 5
  · replace hf := xt c24 hf
    refine lv_tableIn (tgt := 117) S.1 S.2.1 d_Judge_aroundCell_4 (by rw [c24]; decide) (by rw [c24]; decide) (by rw [c24]; rfl) (by decide) ?_
    refine lv_aload_n S.1 S.2.1 d_Judge_aroundCell_117 rfl (lv_at hl 0 rfl) ?_
    refine lv_aload_n S.1 S.2.1 d_Judge_aroundCell_118 rfl (lv_at hl 1 rfl) ?_
    obtain ⟨t25, ht25, hf⟩ := xb hf
    refine x_geti S hw lk_Judge_21 ht25 d_Judge_aroundCell_119 ?_
    obtain ⟨t27, h26, hf⟩ := xb hf
    obtain ⟨h26b, h26⟩ := xkb h26
    refine x_callV (As := [.int t25]) (rest := []) (st1 := [.long t27]) S hw (c_Judge_unfairness h26) (cwV 1 S.2.2.2.2 gv_Judge_24 rfl rfl rfl hd_Judge_unfairness ⟨Nat.le_of_ble_eq_true rfl, Nat.le_of_ble_eq_true rfl⟩) rfl h26b rfl hl.1 rfl rfl (Nat.le_of_ble_eq_true rfl) d_Judge_aroundCell_122 ⟨Nat.le_of_ble_eq_true rfl, Nat.le_of_ble_eq_true rfl⟩ (fun H locs hw => ?_)
    obtain rfl := xe1 hf
    exact x_lret S hr hlocks hw d_Judge_aroundCell_125
  replace hf := xf c24 hf
  refine lv_tableOut (tgt := 126) S.1 S.2.1 d_Judge_aroundCell_4 (by have h_c2 := lv_neT (a := 0) c2 (by decide); have h_c5 := lv_neT (a := 1) c5 (by decide); have h_c9 := lv_neT (a := 2) c9 (by decide); have h_c16 := lv_neT (a := 3) c16 (by decide); have h_c20 := lv_neT (a := 4) c20 (by decide); have h_c24 := lv_neT (a := 5) c24 (by decide); omega) (by decide) ?_
  refine lv_aload_n S.1 S.2.1 d_Judge_aroundCell_126 rfl (lv_at hl 0 rfl) ?_
  refine lv_aload_n S.1 S.2.1 d_Judge_aroundCell_127 rfl (lv_at hl 1 rfl) ?_
  refine lv_iload_n S.1 S.2.1 d_Judge_aroundCell_128 rfl (lv_at hl 3 rfl) ?_
  obtain ⟨t29, h28, hf⟩ := xb hf
  obtain ⟨h28b, h28⟩ := xkb h28
  refine x_callV (As := [.ref a1, .int x3]) (rest := []) (st1 := [.long t29]) S hw (c_Judge_coverAmiss h28) (cwV 2 S.2.2.2.2 gv_Judge_33 rfl rfl rfl hd_Judge_coverAmiss ⟨Nat.le_of_ble_eq_true rfl, Nat.le_of_ble_eq_true rfl⟩) rfl h28b rfl hl.1 rfl rfl (Nat.le_of_ble_eq_true rfl) d_Judge_aroundCell_129 ⟨Nat.le_of_ble_eq_true rfl, Nat.le_of_ble_eq_true rfl⟩ (fun H locs hw => ?_)
  obtain rfl := xe1 hf
  exact x_lret S hr hlocks hw d_Judge_aroundCell_132
def f_Positions_init (a0 : Nat) (z : Nat) (ω : xS) : Option xS :=
  xl (xu ω z (.inl (0, 9, .inl (fun _ => 0)))) fun w1 =>
  (xp w1 a0 7 0 (.ref z)).bind fun w2 =>
  xl (xu w2 (z + 1) (.inl (0, 10, .inl (fun _ => 0)))) fun w3 =>
  (xp w3 a0 7 1 (.ref (z + 1))).bind fun w4 =>
  xl (xu w4 (z + 2) (.inl (0, 32, .inl (fun _ => 0)))) fun w5 =>
  (xp w5 a0 7 2 (.ref (z + 2))).bind fun w6 =>
  xl (xu w6 (z + 3) (.inl (0, 32, .inl (fun _ => 0)))) fun w7 =>
  (xp w7 a0 7 3 (.ref (z + 3))).bind fun w8 =>
  some w8
set_option maxHeartbeats 4000000 in
set_option maxRecDepth 100000 in
theorem c_Positions_init {l : Launch} {E : xV} {z : Nat} {a0 : Nat} {ω1 : xS} {ω : xS} (hf : f_Positions_init a0 z ω = some ω1) : xM l E y_Positions_init ws_Positions_init { frames := 1, cells := 4, slots := 83, locals := 20 } [.ref a0] z ω none (z + 4) ω1 := by
  refine x_start (cc := b_Positions_init) (maxL := 1) (ret := none) (by decide) rfl (Nat.le_of_ble_eq_true rfl) ?_
  intro p e s m below meth c S hr hlocks hin ls hl hw
  have hl : lv_has ls 1 [(0, .ref a0)] := hl
  have hin := hin rfl
  unfold f_Positions_init at hf
  refine lv_aload_n S.1 S.2.1 d_Positions_init_0 rfl (lv_at hl 0 rfl) ?_
  refine x_obj S hl.1 ob_Positions_5 d_Positions_init_1 (Nat.le_of_ble_eq_true rfl) (Nat.le_of_ble_eq_true rfl) ?_
  refine lv_aload_n S.1 S.2.1 d_Positions_init_4 rfl (lv_at hl 0 rfl) ?_
  refine lv_bipush (v := 9) S.1 S.2.1 d_Positions_init_5 (by decide) ?_
  obtain ⟨w1, hw1, hf⟩ := xlb hf
  refine x_newi (N := 9) S hw xArr_i (by decide) (by decide) (by decide) hw1 (Nat.le_of_ble_eq_true rfl) (Nat.le_of_ble_eq_true rfl) d_Positions_init_7 (fun H hw => ?_)
  obtain ⟨w2, hw2, hf⟩ := xb hf
  refine x_putF S hin hw lf_Positions_11 rfl rfl hw2 d_Positions_init_9 (fun H locs hw => ?_)
  refine lv_aload_n S.1 S.2.1 d_Positions_init_12 rfl (lv_at hl 0 rfl) ?_
  refine lv_bipush (v := 10) S.1 S.2.1 d_Positions_init_13 (by decide) ?_
  obtain ⟨w3, hw3, hf⟩ := xlb hf
  refine x_newi (N := 10) S hw xArr_i (by decide) (by decide) (by decide) hw3 (Nat.le_of_ble_eq_true rfl) (Nat.le_of_ble_eq_true rfl) d_Positions_init_15 (fun H hw => ?_)
  obtain ⟨w4, hw4, hf⟩ := xb hf
  refine x_putF S hin hw lf_Positions_15 rfl rfl hw4 d_Positions_init_17 (fun H locs hw => ?_)
  refine lv_aload_n S.1 S.2.1 d_Positions_init_20 rfl (lv_at hl 0 rfl) ?_
  refine lv_bipush (v := 32) S.1 S.2.1 d_Positions_init_21 (by decide) ?_
  obtain ⟨w5, hw5, hf⟩ := xlb hf
  refine x_newi (N := 32) S hw xArr_i (by decide) (by decide) (by decide) hw5 (Nat.le_of_ble_eq_true rfl) (Nat.le_of_ble_eq_true rfl) d_Positions_init_23 (fun H hw => ?_)
  obtain ⟨w6, hw6, hf⟩ := xb hf
  refine x_putF S hin hw lf_Positions_18 rfl rfl hw6 d_Positions_init_25 (fun H locs hw => ?_)
  refine lv_aload_n S.1 S.2.1 d_Positions_init_28 rfl (lv_at hl 0 rfl) ?_
  refine lv_bipush (v := 32) S.1 S.2.1 d_Positions_init_29 (by decide) ?_
  obtain ⟨w7, hw7, hf⟩ := xlb hf
  refine x_newi (N := 32) S hw xArr_i (by decide) (by decide) (by decide) hw7 (Nat.le_of_ble_eq_true rfl) (Nat.le_of_ble_eq_true rfl) d_Positions_init_31 (fun H hw => ?_)
  obtain ⟨w8, hw8, hf⟩ := xb hf
  refine x_putF S hin hw lf_Positions_21 rfl rfl hw8 d_Positions_init_33 (fun H locs hw => ?_)
  cases hf
  exact x_vret S hr hlocks hw d_Positions_init_36
def f_Law_init (a0 : Nat) (z : Nat) (ω : xS) : Option xS :=
  xl (xu ω z (.inr (7, [.null, .null, .null, .null, .int 0, .int 0, .int 0, .int 0, .int 0]))) fun w1 =>
  (f_Positions_init z (z + 1) w1).bind fun w2 =>
  (xp w2 a0 4 0 (.ref z)).bind fun w4 =>
  xl (xu w4 (z + 5) (.inr (0, [.null, .int 0]))) fun w5 =>
  (f_Automaton_init (z + 5) (z + 6) w5).bind fun w6 =>
  (xp w6 a0 4 1 (.ref (z + 5))).bind fun w8 =>
  some w8
set_option maxHeartbeats 4000000 in
set_option maxRecDepth 100000 in
theorem c_Law_init {l : Launch} {E : xV} {z : Nat} {a0 : Nat} {ω1 : xS} {ω : xS} (hf : f_Law_init a0 z ω = some ω1) : xM l E y_Law_init ws_Law_init { frames := 2, cells := 7, slots := 94, locals := 40 } [.ref a0] z ω none (z + 7) ω1 := by
  refine x_start (cc := b_Law_init) (maxL := 1) (ret := none) (by decide) rfl (Nat.le_of_ble_eq_true rfl) ?_
  intro p e s m below meth c S hr hlocks hin ls hl hw
  have hl : lv_has ls 1 [(0, .ref a0)] := hl
  have hin := hin rfl
  unfold f_Law_init at hf
  refine lv_aload_n S.1 S.2.1 d_Law_init_0 rfl (lv_at hl 0 rfl) ?_
  refine x_obj S hl.1 ob_Law_1 d_Law_init_1 (Nat.le_of_ble_eq_true rfl) (Nat.le_of_ble_eq_true rfl) ?_
  refine lv_aload_n S.1 S.2.1 d_Law_init_4 rfl (lv_at hl 0 rfl) ?_
  obtain ⟨w1, hw1, hf⟩ := xlb hf
  refine x_new S hw nw_Law_7 hw1 (Nat.le_of_ble_eq_true rfl) (Nat.le_of_ble_eq_true rfl) d_Law_init_5 (fun H hw => ?_)
  refine lv_dup S.1 S.2.1 d_Law_init_8 rfl ?_
  obtain ⟨w2, h3, hf⟩ := xb hf
  refine x_callIN (As := []) (rest := [.ref z, .ref a0]) S hw (c_Positions_init h3) ⟨va_cnB (host := "RosterRules") 0 S.2.2.2.2 gi_Positions_init rfl rfl rfl (hw.1.2.2.1 _ wn_2_45) (S.2.2.2.2 _ wd_1_12) hi_Positions_init ⟨Nat.le_of_ble_eq_true rfl, Nat.le_of_ble_eq_true rfl⟩, rfl, S.2.2.2.2 _ wd_2_46⟩ rfl hl.1 rfl (Nat.le_of_ble_eq_true rfl) d_Law_init_9 ⟨(Nat.le_of_ble_eq_true rfl), (Nat.le_of_ble_eq_true rfl)⟩ (fun H locs hw => ?_)
  obtain ⟨w4, hw4, hf⟩ := xb hf
  refine x_putF S hin hw lf_Law_10 rfl rfl hw4 d_Law_init_12 (fun H locs hw => ?_)
  refine lv_aload_n S.1 S.2.1 d_Law_init_15 rfl (lv_at hl 0 rfl) ?_
  obtain ⟨w5, hw5, hf⟩ := xlb hf
  refine x_new S hw nw_Law_16 hw5 (Nat.le_of_ble_eq_true rfl) (Nat.le_of_ble_eq_true rfl) d_Law_init_16 (fun H hw => ?_)
  refine lv_dup S.1 S.2.1 d_Law_init_19 rfl ?_
  obtain ⟨w6, h7, hf⟩ := xb hf
  refine x_callIN (As := []) (rest := [.ref (z + 5), .ref a0]) S hw (c_Automaton_init h7) ⟨va_cnB (host := "RosterRules") 0 S.2.2.2.2 gi_Automaton_init rfl rfl rfl (hw.1.2.2.1 _ wn_2_89) (S.2.2.2.2 _ wd_1_13) hi_Automaton_init ⟨Nat.le_of_ble_eq_true rfl, Nat.le_of_ble_eq_true rfl⟩, rfl, S.2.2.2.2 _ wd_2_90⟩ rfl hl.1 rfl (Nat.le_of_ble_eq_true rfl) d_Law_init_20 ⟨(Nat.le_of_ble_eq_true rfl), (Nat.le_of_ble_eq_true rfl)⟩ (fun H locs hw => ?_)
  obtain ⟨w8, hw8, hf⟩ := xb hf
  refine x_putF S hin hw lf_Law_19 rfl rfl hw8 d_Law_init_23 (fun H locs hw => ?_)
  cases hf
  exact x_vret S hr hlocks hw d_Law_init_26
def f_Law_start (a0 : Nat) (x1 : Int32) (x2 : Int32) (ω : xS) : Option xS :=
  (xp ω a0 4 2 (.int x1)).bind fun w1 =>
  (xp w1 a0 4 4 (.int x2)).bind fun w2 =>
  (xgr w2 a0 4 1).bind fun t3 =>
  (xp w2 t3 0 1 (.int 0)).bind fun w4 =>
  some w4
set_option maxHeartbeats 4000000 in
set_option maxRecDepth 100000 in
theorem c_Law_start {l : Launch} {E : xV} {z : Nat} {a0 : Nat} {x1 : Int32} {x2 : Int32} {ω1 : xS} {ω : xS} (hf : f_Law_start a0 x1 x2 ω = some ω1) : xM l E y_Law_start ws_Law_start { frames := 0, cells := 0, slots := 0, locals := 0 } [.ref a0, .int x1, .int x2] z ω none z ω1 := by
  refine x_start (cc := b_Law_start) (maxL := 3) (ret := none) (by decide) rfl (Nat.le_of_ble_eq_true rfl) ?_
  intro p e s m below meth c S hr hlocks hin ls hl hw
  have hl : lv_has ls 3 [(0, .ref a0), (1, .int x1), (2, .int x2)] := hl
  unfold f_Law_start at hf
  refine lv_aload_n S.1 S.2.1 d_Law_start_0 rfl (lv_at hl 0 rfl) ?_
  refine lv_iload_n S.1 S.2.1 d_Law_start_1 rfl (lv_at hl 1 rfl) ?_
  obtain ⟨w1, hw1, hf⟩ := xb hf
  refine x_puti S hw lp_Law_37 hw1 d_Law_start_2 (fun H locs hw => ?_)
  refine lv_aload_n S.1 S.2.1 d_Law_start_5 rfl (lv_at hl 0 rfl) ?_
  refine lv_iload_n S.1 S.2.1 d_Law_start_6 rfl (lv_at hl 2 rfl) ?_
  obtain ⟨w2, hw2, hf⟩ := xb hf
  refine x_puti S hw lp_Law_41 hw2 d_Law_start_7 (fun H locs hw => ?_)
  refine lv_aload_n S.1 S.2.1 d_Law_start_10 rfl (lv_at hl 0 rfl) ?_
  obtain ⟨t3, ht3, hf⟩ := xb hf
  refine x_getr S hw lk_Law_19 ht3 d_Law_start_11 ?_
  refine lv_iconst (v := 0) S.1 S.2.1 d_Law_start_14 (by decide) ?_
  obtain ⟨w4, hw4, hf⟩ := xb hf
  refine x_puti S hw lp_Law_44 hw4 d_Law_start_15 (fun H locs hw => ?_)
  cases hf
  exact x_vret S hr hlocks hw d_Law_start_18
def f_Law_hasPattern (a0 : Nat) (ω : xS) : Option Int32 :=
  (xgi ω a0 4 2).bind fun t1 =>
  if t1 = 3 then (
    some 1)
  else (
    (xgi ω a0 4 2).bind fun t3 =>
    if t3 = 4 then (
      some 1)
    else (
      some 0))
set_option maxHeartbeats 4000000 in
set_option maxRecDepth 100000 in
theorem c_Law_hasPattern {l : Launch} {E : xV} {z : Nat} {a0 : Nat} {r : Int32} {ω : xS} (hf : f_Law_hasPattern a0 ω = some r) : xM l E y_Law_hasPattern ws_Law_hasPattern { frames := 0, cells := 0, slots := 0, locals := 0 } [.ref a0] z ω (some (.int r)) z ω := by
  refine x_start (cc := b_Law_hasPattern) (maxL := 1) (ret := (some .boolean)) (by decide) rfl (Nat.le_of_ble_eq_true rfl) ?_
  intro p e s m below meth c S hr hlocks hin ls hl hw
  have hl : lv_has ls 1 [(0, .ref a0)] := hl
  unfold f_Law_hasPattern at hf
  refine lv_aload_n S.1 S.2.1 d_Law_hasPattern_0 rfl (lv_at hl 0 rfl) ?_
  obtain ⟨t1, ht1, hf⟩ := xb hf
  refine x_geti S hw lk_Law_37 ht1 d_Law_hasPattern_1 ?_
  refine lv_iconst (v := 3) S.1 S.2.1 d_Law_hasPattern_4 (by decide) ?_
  refine lv_icmp_eq (tgt := 16) S.1 S.2.1 d_Law_hasPattern_5 (by decide) (fun c2 => ?_) (fun c2 => ?_)
  · replace hf := xt c2 hf
    refine lv_iconst (v := 1) S.1 S.2.1 d_Law_hasPattern_16 (by decide) ?_
    refine lv_goto (tgt := 21) S.1 S.2.1 d_Law_hasPattern_17 (by decide) ?_
    obtain rfl := xe1 hf
    exact x_zret S hr hlocks hw (by decide) d_Law_hasPattern_21
  · replace hf := xf c2 hf
    refine lv_aload_n S.1 S.2.1 d_Law_hasPattern_8 rfl (lv_at hl 0 rfl) ?_
    obtain ⟨t3, ht3, hf⟩ := xb hf
    refine x_geti S hw lk_Law_37 ht3 d_Law_hasPattern_9 ?_
    refine lv_iconst (v := 4) S.1 S.2.1 d_Law_hasPattern_12 (by decide) ?_
    refine lv_icmp_ne (tgt := 20) S.1 S.2.1 d_Law_hasPattern_13 (by decide) (fun c4 => ?_) (fun c4 => ?_)
    · replace hf := xf c4 hf
      refine lv_iconst (v := 0) S.1 S.2.1 d_Law_hasPattern_20 (by decide) ?_
      obtain rfl := xe1 hf
      exact x_zret S hr hlocks hw (by decide) d_Law_hasPattern_21
    · replace hf := xt c4 hf
      refine lv_iconst (v := 1) S.1 S.2.1 d_Law_hasPattern_16 (by decide) ?_
      refine lv_goto (tgt := 21) S.1 S.2.1 d_Law_hasPattern_17 (by decide) ?_
      obtain rfl := xe1 hf
      exact x_zret S hr hlocks hw (by decide) d_Law_hasPattern_21
def f_Tokens_init (a0 : Nat) (a1 : Nat) (ω : xS) : Option xS :=
  (xp ω a0 10 0 (.ref a1)).bind fun w1 =>
  some w1
set_option maxHeartbeats 4000000 in
set_option maxRecDepth 100000 in
theorem c_Tokens_init {l : Launch} {E : xV} {z : Nat} {a0 : Nat} {a1 : Nat} {ω1 : xS} {ω : xS} (hf : f_Tokens_init a0 a1 ω = some ω1) : xM l E y_Tokens_init ws_Tokens_init { frames := 1, cells := 0, slots := 0, locals := 20 } [.ref a0, .ref a1] z ω none z ω1 := by
  refine x_start (cc := b_Tokens_init) (maxL := 2) (ret := none) (by decide) rfl (Nat.le_of_ble_eq_true rfl) ?_
  intro p e s m below meth c S hr hlocks hin ls hl hw
  have hl : lv_has ls 2 [(0, .ref a0), (1, .ref a1)] := hl
  have hin := hin rfl
  unfold f_Tokens_init at hf
  refine lv_aload_n S.1 S.2.1 d_Tokens_init_0 rfl (lv_at hl 0 rfl) ?_
  refine x_obj S hl.1 ob_Tokens_3 d_Tokens_init_1 (Nat.le_of_ble_eq_true rfl) (Nat.le_of_ble_eq_true rfl) ?_
  refine lv_aload_n S.1 S.2.1 d_Tokens_init_4 rfl (lv_at hl 0 rfl) ?_
  refine lv_aload_n S.1 S.2.1 d_Tokens_init_5 rfl (lv_at hl 1 rfl) ?_
  obtain ⟨w1, hw1, hf⟩ := xb hf
  refine x_putF S hin hw lf_Tokens_9 rfl rfl hw1 d_Tokens_init_6 (fun H locs hw => ?_)
  cases hf
  exact x_vret S hr hlocks hw d_Tokens_init_9
def f_PatternParser_init (a0 : Nat) (a1 : Nat) (z : Nat) (ω : xS) : Option xS :=
  xl (xu ω z (.inl (0, 41, .inl (fun _ => 0)))) fun w1 =>
  (xp w1 a0 6 1 (.ref z)).bind fun w2 =>
  xl (xu w2 (z + 1) (.inl (0, 41, .inl (fun _ => 0)))) fun w3 =>
  (xp w3 a0 6 2 (.ref (z + 1))).bind fun w4 =>
  xl (xu w4 (z + 2) (.inl (0, 41, .inl (fun _ => 0)))) fun w5 =>
  (xp w5 a0 6 3 (.ref (z + 2))).bind fun w6 =>
  (xp w6 a0 6 0 (.ref a1)).bind fun w7 =>
  some w7
set_option maxHeartbeats 4000000 in
set_option maxRecDepth 100000 in
theorem c_PatternParser_init {l : Launch} {E : xV} {z : Nat} {a0 : Nat} {a1 : Nat} {ω1 : xS} {ω : xS} (hf : f_PatternParser_init a0 a1 z ω = some ω1) : xM l E y_PatternParser_init ws_PatternParser_init { frames := 1, cells := 3, slots := 123, locals := 20 } [.ref a0, .ref a1] z ω none (z + 3) ω1 := by
  refine x_start (cc := b_PatternParser_init) (maxL := 2) (ret := none) (by decide) rfl (Nat.le_of_ble_eq_true rfl) ?_
  intro p e s m below meth c S hr hlocks hin ls hl hw
  have hl : lv_has ls 2 [(0, .ref a0), (1, .ref a1)] := hl
  have hin := hin rfl
  unfold f_PatternParser_init at hf
  refine lv_aload_n S.1 S.2.1 d_PatternParser_init_0 rfl (lv_at hl 0 rfl) ?_
  refine x_obj S hl.1 ob_PatternParser_5 d_PatternParser_init_1 (Nat.le_of_ble_eq_true rfl) (Nat.le_of_ble_eq_true rfl) ?_
  refine lv_aload_n S.1 S.2.1 d_PatternParser_init_4 rfl (lv_at hl 0 rfl) ?_
  refine lv_bipush (v := 41) S.1 S.2.1 d_PatternParser_init_5 (by decide) ?_
  obtain ⟨w1, hw1, hf⟩ := xlb hf
  refine x_newi (N := 41) S hw xArr_i (by decide) (by decide) (by decide) hw1 (Nat.le_of_ble_eq_true rfl) (Nat.le_of_ble_eq_true rfl) d_PatternParser_init_7 (fun H hw => ?_)
  obtain ⟨w2, hw2, hf⟩ := xb hf
  refine x_putF S hin hw lf_PatternParser_13 rfl rfl hw2 d_PatternParser_init_9 (fun H locs hw => ?_)
  refine lv_aload_n S.1 S.2.1 d_PatternParser_init_12 rfl (lv_at hl 0 rfl) ?_
  refine lv_bipush (v := 41) S.1 S.2.1 d_PatternParser_init_13 (by decide) ?_
  obtain ⟨w3, hw3, hf⟩ := xlb hf
  refine x_newi (N := 41) S hw xArr_i (by decide) (by decide) (by decide) hw3 (Nat.le_of_ble_eq_true rfl) (Nat.le_of_ble_eq_true rfl) d_PatternParser_init_15 (fun H hw => ?_)
  obtain ⟨w4, hw4, hf⟩ := xb hf
  refine x_putF S hin hw lf_PatternParser_17 rfl rfl hw4 d_PatternParser_init_17 (fun H locs hw => ?_)
  refine lv_aload_n S.1 S.2.1 d_PatternParser_init_20 rfl (lv_at hl 0 rfl) ?_
  refine lv_bipush (v := 41) S.1 S.2.1 d_PatternParser_init_21 (by decide) ?_
  obtain ⟨w5, hw5, hf⟩ := xlb hf
  refine x_newi (N := 41) S hw xArr_i (by decide) (by decide) (by decide) hw5 (Nat.le_of_ble_eq_true rfl) (Nat.le_of_ble_eq_true rfl) d_PatternParser_init_23 (fun H hw => ?_)
  obtain ⟨w6, hw6, hf⟩ := xb hf
  refine x_putF S hin hw lf_PatternParser_20 rfl rfl hw6 d_PatternParser_init_25 (fun H locs hw => ?_)
  refine lv_aload_n S.1 S.2.1 d_PatternParser_init_28 rfl (lv_at hl 0 rfl) ?_
  refine lv_aload_n S.1 S.2.1 d_PatternParser_init_29 rfl (lv_at hl 1 rfl) ?_
  obtain ⟨w7, hw7, hf⟩ := xb hf
  refine x_putF S hin hw lf_PatternParser_23 rfl rfl hw7 d_PatternParser_init_30 (fun H locs hw => ?_)
  cases hf
  exact x_vret S hr hlocks hw d_PatternParser_init_33
def f_LawReader_init (a0 : Nat) (a1 : Nat) (x2 : Int32) (z : Nat) (ω : xS) : Option xS :=
  (xp ω a0 5 4 (.int (-2))).bind fun w1 =>
  xl (xu w1 z (.inr (10, [.null, .int 0, .int 0, .int 0]))) fun w2 =>
  (f_Tokens_init z a1 w2).bind fun w3 =>
  (xp w3 a0 5 0 (.ref z)).bind fun w5 =>
  xl (xu w5 (z + 1) (.inr (6, [.null, .null, .null, .null, .int 0, .int 0, .int 0, .int 0, .int 0, .int 0, .int 0, .int 0]))) fun w6 =>
  (f_PatternParser_init (z + 1) a1 (z + 2) w6).bind fun w7 =>
  (xp w7 a0 5 1 (.ref (z + 1))).bind fun w9 =>
  (xp w9 a0 5 2 (.int x2)).bind fun w10 =>
  some w10
set_option maxHeartbeats 4000000 in
set_option maxRecDepth 100000 in
theorem c_LawReader_init {l : Launch} {E : xV} {z : Nat} {a0 : Nat} {a1 : Nat} {x2 : Int32} {ω1 : xS} {ω : xS} (hf : f_LawReader_init a0 a1 x2 z ω = some ω1) : xM l E y_LawReader_init ws_LawReader_init { frames := 2, cells := 5, slots := 139, locals := 41 } [.ref a0, .ref a1, .int x2] z ω none (z + 5) ω1 := by
  refine x_start (cc := b_LawReader_init) (maxL := 3) (ret := none) (by decide) rfl (Nat.le_of_ble_eq_true rfl) ?_
  intro p e s m below meth c S hr hlocks hin ls hl hw
  have hl : lv_has ls 3 [(0, .ref a0), (1, .ref a1), (2, .int x2)] := hl
  have hin := hin rfl
  unfold f_LawReader_init at hf
  refine lv_aload_n S.1 S.2.1 d_LawReader_init_0 rfl (lv_at hl 0 rfl) ?_
  refine x_obj S hl.1 ob_LawReader_3 d_LawReader_init_1 (Nat.le_of_ble_eq_true rfl) (Nat.le_of_ble_eq_true rfl) ?_
  refine lv_aload_n S.1 S.2.1 d_LawReader_init_4 rfl (lv_at hl 0 rfl) ?_
  refine lv_bipush (v := (-2)) S.1 S.2.1 d_LawReader_init_5 (by decide) ?_
  obtain ⟨w1, hw1, hf⟩ := xb hf
  refine x_puti S hw lp_LawReader_9 hw1 d_LawReader_init_7 (fun H locs hw => ?_)
  refine lv_aload_n S.1 S.2.1 d_LawReader_init_10 rfl (lv_at hl 0 rfl) ?_
  obtain ⟨w2, hw2, hf⟩ := xlb hf
  refine x_new S hw nw_LawReader_15 hw2 (Nat.le_of_ble_eq_true rfl) (Nat.le_of_ble_eq_true rfl) d_LawReader_init_11 (fun H hw => ?_)
  refine lv_dup S.1 S.2.1 d_LawReader_init_14 rfl ?_
  refine lv_aload_n S.1 S.2.1 d_LawReader_init_15 rfl (lv_at hl 1 rfl) ?_
  obtain ⟨w3, h4, hf⟩ := xb hf
  refine x_callI (As := [.ref a1]) (rest := [.ref z, .ref a0]) S hw (c_Tokens_init h4) (cwI 1 S.2.2.2.2 gi_Tokens_init rfl rfl rfl (S.2.2.2.2 _ wd_1_9) (S.2.2.2.2 _ wd_1_197) (S.2.2.2.2 _ wd_1_198) rfl hi_Tokens_init ⟨Nat.le_of_ble_eq_true rfl, Nat.le_of_ble_eq_true rfl⟩) rfl hl.1 rfl (Nat.le_of_ble_eq_true rfl) d_LawReader_init_16 ⟨(Nat.le_of_ble_eq_true rfl), (Nat.le_of_ble_eq_true rfl)⟩ (fun H locs hw => ?_)
  obtain ⟨w5, hw5, hf⟩ := xb hf
  refine x_putF S hin hw lf_LawReader_20 rfl rfl hw5 d_LawReader_init_19 (fun H locs hw => ?_)
  refine lv_aload_n S.1 S.2.1 d_LawReader_init_22 rfl (lv_at hl 0 rfl) ?_
  obtain ⟨w6, hw6, hf⟩ := xlb hf
  refine x_new S hw nw_LawReader_24 hw6 (Nat.le_of_ble_eq_true rfl) (Nat.le_of_ble_eq_true rfl) d_LawReader_init_23 (fun H hw => ?_)
  refine lv_dup S.1 S.2.1 d_LawReader_init_26 rfl ?_
  refine lv_aload_n S.1 S.2.1 d_LawReader_init_27 rfl (lv_at hl 1 rfl) ?_
  obtain ⟨w7, h8, hf⟩ := xb hf
  refine x_callI (As := [.ref a1]) (rest := [.ref (z + 1), .ref a0]) S hw (c_PatternParser_init h8) (cwI 1 S.2.2.2.2 gi_PatternParser_init rfl rfl rfl (S.2.2.2.2 _ wd_1_10) (S.2.2.2.2 _ wd_1_217) (S.2.2.2.2 _ wd_1_218) rfl hi_PatternParser_init ⟨Nat.le_of_ble_eq_true rfl, Nat.le_of_ble_eq_true rfl⟩) rfl hl.1 rfl (Nat.le_of_ble_eq_true rfl) d_LawReader_init_28 ⟨(Nat.le_of_ble_eq_true rfl), (Nat.le_of_ble_eq_true rfl)⟩ (fun H locs hw => ?_)
  obtain ⟨w9, hw9, hf⟩ := xb hf
  refine x_putF S hin hw lf_LawReader_27 rfl rfl hw9 d_LawReader_init_31 (fun H locs hw => ?_)
  refine lv_aload_n S.1 S.2.1 d_LawReader_init_34 rfl (lv_at hl 0 rfl) ?_
  refine lv_iload_n S.1 S.2.1 d_LawReader_init_35 rfl (lv_at hl 2 rfl) ?_
  obtain ⟨w10, hw10, hf⟩ := xb hf
  refine x_putF S hin hw lf_LawReader_31 rfl rfl hw10 d_LawReader_init_36 (fun H locs hw => ?_)
  cases hf
  exact x_vret S hr hlocks hw d_LawReader_init_39
def f_Tokens_rewind (a0 : Nat) (ω : xS) : Option xS :=
  (xp ω a0 10 3 (.int 0)).bind fun w1 =>
  some w1
set_option maxHeartbeats 4000000 in
set_option maxRecDepth 100000 in
theorem c_Tokens_rewind {l : Launch} {E : xV} {z : Nat} {a0 : Nat} {ω1 : xS} {ω : xS} (hf : f_Tokens_rewind a0 ω = some ω1) : xM l E y_Tokens_rewind ws_Tokens_rewind { frames := 0, cells := 0, slots := 0, locals := 0 } [.ref a0] z ω none z ω1 := by
  refine x_start (cc := b_Tokens_rewind) (maxL := 1) (ret := none) (by decide) rfl (Nat.le_of_ble_eq_true rfl) ?_
  intro p e s m below meth c S hr hlocks hin ls hl hw
  have hl : lv_has ls 1 [(0, .ref a0)] := hl
  unfold f_Tokens_rewind at hf
  refine lv_aload_n S.1 S.2.1 d_Tokens_rewind_0 rfl (lv_at hl 0 rfl) ?_
  refine lv_iconst (v := 0) S.1 S.2.1 d_Tokens_rewind_1 (by decide) ?_
  obtain ⟨w1, hw1, hf⟩ := xb hf
  refine x_puti S hw lp_Tokens_15 hw1 d_Tokens_rewind_2 (fun H locs hw => ?_)
  cases hf
  exact x_vret S hr hlocks hw d_Tokens_rewind_5
def f_Tape_byteAt (a0 : Nat) (x1 : Int32) (ω : xS) : Option Int32 :=
  if x1 < 0 then (
    some (-1))
  else (
    (xgi ω a0 9 1).bind fun t2 =>
    if t2 ≤ x1 then (
      some (-1))
    else (
      (xgr ω a0 9 0).bind fun t4 =>
      (xai ω t4 x1).bind fun t5 =>
      some t5))
set_option maxHeartbeats 4000000 in
set_option maxRecDepth 100000 in
theorem c_Tape_byteAt {l : Launch} {E : xV} {z : Nat} {a0 : Nat} {x1 : Int32} {r : Int32} {ω : xS} (hf : f_Tape_byteAt a0 x1 ω = some r) : xM l E y_Tape_byteAt ws_Tape_byteAt { frames := 0, cells := 0, slots := 0, locals := 0 } [.ref a0, .int x1] z ω (some (.int r)) z ω := by
  refine x_start (cc := b_Tape_byteAt) (maxL := 2) (ret := (some .int)) (by decide) rfl (Nat.le_of_ble_eq_true rfl) ?_
  intro p e s m below meth c S hr hlocks hin ls hl hw
  have hl : lv_has ls 2 [(0, .ref a0), (1, .int x1)] := hl
  unfold f_Tape_byteAt at hf
  refine lv_iload_n S.1 S.2.1 d_Tape_byteAt_0 rfl (lv_at hl 1 rfl) ?_
  refine lv_if_lt (tgt := 21) S.1 S.2.1 d_Tape_byteAt_1 (by decide) (fun c1 => ?_) (fun c1 => ?_)
  · replace hf := xt c1 hf
    refine lv_iconst (v := (-1)) S.1 S.2.1 d_Tape_byteAt_21 (by decide) ?_
    obtain rfl := xe1 hf
    exact x_iret S hr hlocks hw d_Tape_byteAt_22
  · replace hf := xf c1 hf
    refine lv_iload_n S.1 S.2.1 d_Tape_byteAt_4 rfl (lv_at hl 1 rfl) ?_
    refine lv_aload_n S.1 S.2.1 d_Tape_byteAt_5 rfl (lv_at hl 0 rfl) ?_
    obtain ⟨t2, ht2, hf⟩ := xb hf
    refine x_geti S hw lk_Tape_15 ht2 d_Tape_byteAt_6 ?_
    refine lv_icmp_ge (tgt := 21) S.1 S.2.1 d_Tape_byteAt_9 (by decide) (fun c3 => ?_) (fun c3 => ?_)
    · replace hf := xt c3 hf
      refine lv_iconst (v := (-1)) S.1 S.2.1 d_Tape_byteAt_21 (by decide) ?_
      obtain rfl := xe1 hf
      exact x_iret S hr hlocks hw d_Tape_byteAt_22
    · replace hf := xf c3 hf
      refine lv_aload_n S.1 S.2.1 d_Tape_byteAt_12 rfl (lv_at hl 0 rfl) ?_
      obtain ⟨t4, ht4, hf⟩ := xb hf
      refine x_getr S hw lk_Tape_9 ht4 d_Tape_byteAt_13 ?_
      refine lv_iload_n S.1 S.2.1 d_Tape_byteAt_16 rfl (lv_at hl 1 rfl) ?_
      obtain ⟨t5, ht5, hf⟩ := xb hf
      refine x_iald S hw ht5 d_Tape_byteAt_17 ?_
      refine lv_goto (tgt := 22) S.1 S.2.1 d_Tape_byteAt_18 (by decide) ?_
      obtain rfl := xe1 hf
      exact x_iret S hr hlocks hw d_Tape_byteAt_22
def f_Tokens_runEnd_5 : Nat → Nat → Int32 → Int32 → Int32 → xS → Option Int32
  | 0, _, _, _, _, _ => none
  | n + 1, a0, x1, x2, x3, ω =>
    (xgr ω a0 10 0).bind fun t2 =>
    (xgi ω t2 9 1).bind fun t3 =>
    if t3 ≤ x3 then (
      some x3)
    else (
      (xgr ω a0 10 0).bind fun t5 =>
      (xgr ω t5 9 0).bind fun t6 =>
      (xai ω t6 x3).bind fun t7 =>
      if t7 < x1 then (
        some x3)
      else (
        (xgr ω a0 10 0).bind fun t9 =>
        (xgr ω t9 9 0).bind fun t10 =>
        (xai ω t10 x3).bind fun t11 =>
        if x2 < t11 then (
          some x3)
        else (
          f_Tokens_runEnd_5  n a0 x1 x2 (x3 + 1) ω)))
set_option maxHeartbeats 4000000 in
set_option maxRecDepth 100000 in
theorem w_Tokens_runEnd_5 {p : Program} {l : Launch} {e : Env} {s : State} {m : MethodId} {args : Array Value} {below : List Frame} {meth : Method} {c : Code} {E : xV} {z : Nat} {r : Int32} {ω : xS} (S : CallFix p m c b_Tokens_runEnd 4 s args xTbl "RosterRules$Tokens") (hr : meth.sig.returnType = (some .int)) (hlocks : meth.locks = false) : ∀ n : Nat, ∀ (a0 : Nat) (x1 : Int32) (x2 : Int32) (x3 : Int32) (H : Heap) (locs : List Loc) (ls : Array Slot), xW E z ω s s.heap H locs → lv_has ls 4 [(0, .ref a0), (1, .int x1), (2, .int x2), (3, .int x3)] → f_Tokens_runEnd_5 n a0 x1 x2 x3 ω = some r → W p l e (headSpec ws_Tokens_runEnd { frames := 0, cells := 0, slots := 0, locals := 0 }).room s m args below meth c H locs 0 0 (MQ below (xQ E (some (.int r)) z ω) args s 0 0 (fun q => E.2.2 ≤ q)) (F0 m 5 ls []) := by
  intro n
  induction n with
  | zero =>
    intro a0 x1 x2 x3 H locs ls hw hl hf
    have h2 : (none : Option Int32) = some r := hf
    cases h2
  | succ n ih =>
    intro a0 x1 x2 x3 H locs ls hw hl hf
    rw [f_Tokens_runEnd_5] at hf
    refine lv_iload_n S.1 S.2.1 d_Tokens_runEnd_5 rfl (lv_at hl 3 rfl) ?_
    refine lv_aload_n S.1 S.2.1 d_Tokens_runEnd_6 rfl (lv_at hl 0 rfl) ?_
    obtain ⟨t2, ht2, hf⟩ := xb hf
    refine x_getr S hw lk_Tokens_9 ht2 d_Tokens_runEnd_7 ?_
    obtain ⟨t3, ht3, hf⟩ := xb hf
    refine x_geti S hw lk_Tokens_22 ht3 d_Tokens_runEnd_10 ?_
    refine lv_icmp_ge (tgt := 48) S.1 S.2.1 d_Tokens_runEnd_13 (by decide) (fun c4 => ?_) (fun c4 => ?_)
    · replace hf := xt c4 hf
      refine lv_iload_n S.1 S.2.1 d_Tokens_runEnd_48 rfl (lv_at hl 3 rfl) ?_
      obtain rfl := xe1 hf
      exact x_iret S hr hlocks hw d_Tokens_runEnd_49
    · replace hf := xf c4 hf
      refine lv_aload_n S.1 S.2.1 d_Tokens_runEnd_16 rfl (lv_at hl 0 rfl) ?_
      obtain ⟨t5, ht5, hf⟩ := xb hf
      refine x_getr S hw lk_Tokens_9 ht5 d_Tokens_runEnd_17 ?_
      obtain ⟨t6, ht6, hf⟩ := xb hf
      refine x_getr S hw lk_Tokens_27 ht6 d_Tokens_runEnd_20 ?_
      refine lv_iload_n S.1 S.2.1 d_Tokens_runEnd_23 rfl (lv_at hl 3 rfl) ?_
      obtain ⟨t7, ht7, hf⟩ := xb hf
      refine x_iald S hw ht7 d_Tokens_runEnd_24 ?_
      refine lv_iload_n S.1 S.2.1 d_Tokens_runEnd_25 rfl (lv_at hl 1 rfl) ?_
      refine lv_icmp_lt (tgt := 48) S.1 S.2.1 d_Tokens_runEnd_26 (by decide) (fun c8 => ?_) (fun c8 => ?_)
      · replace hf := xt c8 hf
        refine lv_iload_n S.1 S.2.1 d_Tokens_runEnd_48 rfl (lv_at hl 3 rfl) ?_
        obtain rfl := xe1 hf
        exact x_iret S hr hlocks hw d_Tokens_runEnd_49
      · replace hf := xf c8 hf
        refine lv_aload_n S.1 S.2.1 d_Tokens_runEnd_29 rfl (lv_at hl 0 rfl) ?_
        obtain ⟨t9, ht9, hf⟩ := xb hf
        refine x_getr S hw lk_Tokens_9 ht9 d_Tokens_runEnd_30 ?_
        obtain ⟨t10, ht10, hf⟩ := xb hf
        refine x_getr S hw lk_Tokens_27 ht10 d_Tokens_runEnd_33 ?_
        refine lv_iload_n S.1 S.2.1 d_Tokens_runEnd_36 rfl (lv_at hl 3 rfl) ?_
        obtain ⟨t11, ht11, hf⟩ := xb hf
        refine x_iald S hw ht11 d_Tokens_runEnd_37 ?_
        refine lv_iload_n S.1 S.2.1 d_Tokens_runEnd_38 rfl (lv_at hl 2 rfl) ?_
        refine lv_icmp_gt (tgt := 48) S.1 S.2.1 d_Tokens_runEnd_39 (by decide) (fun c12 => ?_) (fun c12 => ?_)
        · replace hf := xt c12 hf
          refine lv_iload_n S.1 S.2.1 d_Tokens_runEnd_48 rfl (lv_at hl 3 rfl) ?_
          obtain rfl := xe1 hf
          exact x_iret S hr hlocks hw d_Tokens_runEnd_49
        · replace hf := xf c12 hf
          refine lv_iinc (v := (x3 + 1)) (lv' := [(3, .int (x3 + 1)), (0, .ref a0), (1, .int x1), (2, .int x2)]) S.1 S.2.1 d_Tokens_runEnd_42 hl (k := 3) rfl rfl (by decide) rfl (fun ls hl => ?_)
          refine lv_goto (tgt := 5) S.1 S.2.1 d_Tokens_runEnd_45 (by decide) ?_
          exact ih _ _ _ _ _ _ _ hw (lv_sub hl [1, 2, 3, 0] rfl) hf
def f_Tokens_runEnd (a0 : Nat) (x1 : Int32) (x2 : Int32) (ω : xS) : Option Int32 :=
  (xgi ω a0 10 2).bind fun t1 =>
  f_Tokens_runEnd_5  xFU a0 x1 x2 t1 ω
set_option maxHeartbeats 4000000 in
set_option maxRecDepth 100000 in
theorem c_Tokens_runEnd {l : Launch} {E : xV} {z : Nat} {a0 : Nat} {x1 : Int32} {x2 : Int32} {r : Int32} {ω : xS} (hf : f_Tokens_runEnd a0 x1 x2 ω = some r) : xM l E y_Tokens_runEnd ws_Tokens_runEnd { frames := 0, cells := 0, slots := 0, locals := 0 } [.ref a0, .int x1, .int x2] z ω (some (.int r)) z ω := by
  refine x_start (cc := b_Tokens_runEnd) (maxL := 4) (ret := (some .int)) (by decide) rfl (Nat.le_of_ble_eq_true rfl) ?_
  intro p e s m below meth c S hr hlocks hin ls hl hw
  have hl : lv_has ls 4 [(0, .ref a0), (1, .int x1), (2, .int x2)] := hl
  unfold f_Tokens_runEnd at hf
  refine lv_aload_n S.1 S.2.1 d_Tokens_runEnd_0 rfl (lv_at hl 0 rfl) ?_
  obtain ⟨t1, ht1, hf⟩ := xb hf
  refine x_geti S hw lk_Tokens_19 ht1 d_Tokens_runEnd_1 ?_
  refine lv_istore_n (lv' := [(3, .int t1), (0, .ref a0), (1, .int x1), (2, .int x2)]) S.1 S.2.1 d_Tokens_runEnd_4 rfl hl (by decide) rfl (fun ls hl => ?_)
  exact w_Tokens_runEnd_5 S hr hlocks  _ _ _ _ _ _ _ _ hw (lv_sub hl [1, 2, 3, 0] rfl) hf
def f_Tokens_closePattern_66 (a0 : Nat) (x1 : Int32) (ω : xS) : Option (Int32 × xS) :=
  (xp ω a0 10 3 (.int (x1 + 1))).bind fun w17 =>
  (xgr w17 a0 10 0).bind fun t18 =>
  (xgi w17 t18 9 1).bind fun t19 =>
  if t19 ≤ x1 then (
    some (0, w17))
  else (
    (xgr w17 a0 10 0).bind fun t21 =>
    (xgr w17 t21 9 0).bind fun t22 =>
    (xai w17 t22 x1).bind fun t23 =>
    if t23 = 34 then (
      (xgi w17 a0 10 2).bind fun t25 =>
      if 40 < ((x1 - t25) - 1) then (
        some (0, w17))
      else (
        some (1, w17)))
    else (
      some (0, w17)))
set_option maxHeartbeats 4000000 in
set_option maxRecDepth 100000 in
theorem w_Tokens_closePattern_66 {p : Program} {l : Launch} {e : Env} {s : State} {m : MethodId} {args : Array Value} {below : List Frame} {meth : Method} {c : Code} {E : xV} {z : Nat} {r : Int32} {ω1 : xS} (S : CallFix p m c b_Tokens_closePattern 2 s args xTbl "RosterRules$Tokens") (hr : meth.sig.returnType = (some .boolean)) (hlocks : meth.locks = false) : ∀ (a0 : Nat) (x1 : Int32) (ω : xS) (H : Heap) (locs : List Loc) (ls : Array Slot), xW E z ω s s.heap H locs → lv_has ls 2 [(0, .ref a0), (1, .int x1)] → f_Tokens_closePattern_66 a0 x1 ω = some (r, ω1) → W p l e (headSpec ws_Tokens_closePattern { frames := 0, cells := 0, slots := 0, locals := 0 }).room s m args below meth c H locs 0 0 (MQ below (xQ E (some (.int r)) z ω1) args s 0 0 (fun q => E.2.2 ≤ q)) (F0 m 66 ls []) := by
  intro a0 x1 ω H locs ls hw hl hf
  unfold f_Tokens_closePattern_66 at hf
  refine lv_aload_n S.1 S.2.1 d_Tokens_closePattern_66 rfl (lv_at hl 0 rfl) ?_
  refine lv_iload_n S.1 S.2.1 d_Tokens_closePattern_67 rfl (lv_at hl 1 rfl) ?_
  refine lv_iconst (v := 1) S.1 S.2.1 d_Tokens_closePattern_68 (by decide) ?_
  refine lv_iadd S.1 S.2.1 d_Tokens_closePattern_69 ?_
  obtain ⟨w17, hw17, hf⟩ := xb hf
  refine x_puti S hw lp_Tokens_15 hw17 d_Tokens_closePattern_70 (fun H locs hw => ?_)
  refine lv_iload_n S.1 S.2.1 d_Tokens_closePattern_73 rfl (lv_at hl 1 rfl) ?_
  refine lv_aload_n S.1 S.2.1 d_Tokens_closePattern_74 rfl (lv_at hl 0 rfl) ?_
  obtain ⟨t18, ht18, hf⟩ := xb hf
  refine x_getr S hw lk_Tokens_9 ht18 d_Tokens_closePattern_75 ?_
  obtain ⟨t19, ht19, hf⟩ := xb hf
  refine x_geti S hw lk_Tokens_22 ht19 d_Tokens_closePattern_78 ?_
  refine lv_icmp_ge (tgt := 115) S.1 S.2.1 d_Tokens_closePattern_81 (by decide) (fun c20 => ?_) (fun c20 => ?_)
  · replace hf := xt c20 hf
    refine lv_iconst (v := 0) S.1 S.2.1 d_Tokens_closePattern_115 (by decide) ?_
    obtain ⟨rfl, rfl⟩ := xe2 hf
    exact x_zret S hr hlocks hw (by decide) d_Tokens_closePattern_116
  · replace hf := xf c20 hf
    refine lv_aload_n S.1 S.2.1 d_Tokens_closePattern_84 rfl (lv_at hl 0 rfl) ?_
    obtain ⟨t21, ht21, hf⟩ := xb hf
    refine x_getr S hw lk_Tokens_9 ht21 d_Tokens_closePattern_85 ?_
    obtain ⟨t22, ht22, hf⟩ := xb hf
    refine x_getr S hw lk_Tokens_27 ht22 d_Tokens_closePattern_88 ?_
    refine lv_iload_n S.1 S.2.1 d_Tokens_closePattern_91 rfl (lv_at hl 1 rfl) ?_
    obtain ⟨t23, ht23, hf⟩ := xb hf
    refine x_iald S hw ht23 d_Tokens_closePattern_92 ?_
    refine lv_bipush (v := 34) S.1 S.2.1 d_Tokens_closePattern_93 (by decide) ?_
    refine lv_icmp_ne (tgt := 115) S.1 S.2.1 d_Tokens_closePattern_95 (by decide) (fun c24 => ?_) (fun c24 => ?_)
    · replace hf := xf c24 hf
      refine lv_iconst (v := 0) S.1 S.2.1 d_Tokens_closePattern_115 (by decide) ?_
      obtain ⟨rfl, rfl⟩ := xe2 hf
      exact x_zret S hr hlocks hw (by decide) d_Tokens_closePattern_116
    · replace hf := xt c24 hf
      refine lv_iload_n S.1 S.2.1 d_Tokens_closePattern_98 rfl (lv_at hl 1 rfl) ?_
      refine lv_aload_n S.1 S.2.1 d_Tokens_closePattern_99 rfl (lv_at hl 0 rfl) ?_
      obtain ⟨t25, ht25, hf⟩ := xb hf
      refine x_geti S hw lk_Tokens_19 ht25 d_Tokens_closePattern_100 ?_
      refine lv_isub S.1 S.2.1 d_Tokens_closePattern_103 ?_
      refine lv_iconst (v := 1) S.1 S.2.1 d_Tokens_closePattern_104 (by decide) ?_
      refine lv_isub S.1 S.2.1 d_Tokens_closePattern_105 ?_
      refine lv_bipush (v := 40) S.1 S.2.1 d_Tokens_closePattern_106 (by decide) ?_
      refine lv_icmp_gt (tgt := 115) S.1 S.2.1 d_Tokens_closePattern_108 (by decide) (fun c26 => ?_) (fun c26 => ?_)
      · replace hf := xt c26 hf
        refine lv_iconst (v := 0) S.1 S.2.1 d_Tokens_closePattern_115 (by decide) ?_
        obtain ⟨rfl, rfl⟩ := xe2 hf
        exact x_zret S hr hlocks hw (by decide) d_Tokens_closePattern_116
      · replace hf := xf c26 hf
        refine lv_iconst (v := 1) S.1 S.2.1 d_Tokens_closePattern_111 (by decide) ?_
        refine lv_goto (tgt := 116) S.1 S.2.1 d_Tokens_closePattern_112 (by decide) ?_
        obtain ⟨rfl, rfl⟩ := xe2 hf
        exact x_zret S hr hlocks hw (by decide) d_Tokens_closePattern_116
def f_Tokens_closePattern_7 : Nat → Nat → Int32 → xS → Option (Int32 × xS)
  | 0, _, _, _ => none
  | n + 1, a0, x1, ω =>
    (xgr ω a0 10 0).bind fun t2 =>
    (xgi ω t2 9 1).bind fun t3 =>
    if t3 ≤ x1 then (
      f_Tokens_closePattern_66  a0 x1 ω)
    else (
      (xgr ω a0 10 0).bind fun t5 =>
      (xgr ω t5 9 0).bind fun t6 =>
      (xai ω t6 x1).bind fun t7 =>
      if t7 = 34 then (
        f_Tokens_closePattern_66  a0 x1 ω)
      else (
        (xgr ω a0 10 0).bind fun t9 =>
        (xgr ω t9 9 0).bind fun t10 =>
        (xai ω t10 x1).bind fun t11 =>
        if t11 < 33 then (
          f_Tokens_closePattern_66  a0 x1 ω)
        else (
          (xgr ω a0 10 0).bind fun t13 =>
          (xgr ω t13 9 0).bind fun t14 =>
          (xai ω t14 x1).bind fun t15 =>
          if 126 < t15 then (
            f_Tokens_closePattern_66  a0 x1 ω)
          else (
            f_Tokens_closePattern_7  n a0 (x1 + 1) ω))))
set_option maxHeartbeats 4000000 in
set_option maxRecDepth 100000 in
theorem w_Tokens_closePattern_7 {p : Program} {l : Launch} {e : Env} {s : State} {m : MethodId} {args : Array Value} {below : List Frame} {meth : Method} {c : Code} {E : xV} {z : Nat} {r : Int32} {ω1 : xS} (S : CallFix p m c b_Tokens_closePattern 2 s args xTbl "RosterRules$Tokens") (hr : meth.sig.returnType = (some .boolean)) (hlocks : meth.locks = false) : ∀ n : Nat, ∀ (a0 : Nat) (x1 : Int32) (ω : xS) (H : Heap) (locs : List Loc) (ls : Array Slot), xW E z ω s s.heap H locs → lv_has ls 2 [(0, .ref a0), (1, .int x1)] → f_Tokens_closePattern_7 n a0 x1 ω = some (r, ω1) → W p l e (headSpec ws_Tokens_closePattern { frames := 0, cells := 0, slots := 0, locals := 0 }).room s m args below meth c H locs 0 0 (MQ below (xQ E (some (.int r)) z ω1) args s 0 0 (fun q => E.2.2 ≤ q)) (F0 m 7 ls []) := by
  intro n
  induction n with
  | zero =>
    intro a0 x1 ω H locs ls hw hl hf
    have h2 : (none : Option (Int32 × xS)) = some (r, ω1) := hf
    cases h2
  | succ n ih =>
    intro a0 x1 ω H locs ls hw hl hf
    rw [f_Tokens_closePattern_7] at hf
    refine lv_iload_n S.1 S.2.1 d_Tokens_closePattern_7 rfl (lv_at hl 1 rfl) ?_
    refine lv_aload_n S.1 S.2.1 d_Tokens_closePattern_8 rfl (lv_at hl 0 rfl) ?_
    obtain ⟨t2, ht2, hf⟩ := xb hf
    refine x_getr S hw lk_Tokens_9 ht2 d_Tokens_closePattern_9 ?_
    obtain ⟨t3, ht3, hf⟩ := xb hf
    refine x_geti S hw lk_Tokens_22 ht3 d_Tokens_closePattern_12 ?_
    refine lv_icmp_ge (tgt := 66) S.1 S.2.1 d_Tokens_closePattern_15 (by decide) (fun c4 => ?_) (fun c4 => ?_)
    · replace hf := xt c4 hf
      exact w_Tokens_closePattern_66 S hr hlocks  _ _ _ _ _ _ hw (lv_sub hl [0, 1] rfl) hf
    · replace hf := xf c4 hf
      refine lv_aload_n S.1 S.2.1 d_Tokens_closePattern_18 rfl (lv_at hl 0 rfl) ?_
      obtain ⟨t5, ht5, hf⟩ := xb hf
      refine x_getr S hw lk_Tokens_9 ht5 d_Tokens_closePattern_19 ?_
      obtain ⟨t6, ht6, hf⟩ := xb hf
      refine x_getr S hw lk_Tokens_27 ht6 d_Tokens_closePattern_22 ?_
      refine lv_iload_n S.1 S.2.1 d_Tokens_closePattern_25 rfl (lv_at hl 1 rfl) ?_
      obtain ⟨t7, ht7, hf⟩ := xb hf
      refine x_iald S hw ht7 d_Tokens_closePattern_26 ?_
      refine lv_bipush (v := 34) S.1 S.2.1 d_Tokens_closePattern_27 (by decide) ?_
      refine lv_icmp_eq (tgt := 66) S.1 S.2.1 d_Tokens_closePattern_29 (by decide) (fun c8 => ?_) (fun c8 => ?_)
      · replace hf := xt c8 hf
        exact w_Tokens_closePattern_66 S hr hlocks  _ _ _ _ _ _ hw (lv_sub hl [0, 1] rfl) hf
      · replace hf := xf c8 hf
        refine lv_aload_n S.1 S.2.1 d_Tokens_closePattern_32 rfl (lv_at hl 0 rfl) ?_
        obtain ⟨t9, ht9, hf⟩ := xb hf
        refine x_getr S hw lk_Tokens_9 ht9 d_Tokens_closePattern_33 ?_
        obtain ⟨t10, ht10, hf⟩ := xb hf
        refine x_getr S hw lk_Tokens_27 ht10 d_Tokens_closePattern_36 ?_
        refine lv_iload_n S.1 S.2.1 d_Tokens_closePattern_39 rfl (lv_at hl 1 rfl) ?_
        obtain ⟨t11, ht11, hf⟩ := xb hf
        refine x_iald S hw ht11 d_Tokens_closePattern_40 ?_
        refine lv_bipush (v := 33) S.1 S.2.1 d_Tokens_closePattern_41 (by decide) ?_
        refine lv_icmp_lt (tgt := 66) S.1 S.2.1 d_Tokens_closePattern_43 (by decide) (fun c12 => ?_) (fun c12 => ?_)
        · replace hf := xt c12 hf
          exact w_Tokens_closePattern_66 S hr hlocks  _ _ _ _ _ _ hw (lv_sub hl [0, 1] rfl) hf
        · replace hf := xf c12 hf
          refine lv_aload_n S.1 S.2.1 d_Tokens_closePattern_46 rfl (lv_at hl 0 rfl) ?_
          obtain ⟨t13, ht13, hf⟩ := xb hf
          refine x_getr S hw lk_Tokens_9 ht13 d_Tokens_closePattern_47 ?_
          obtain ⟨t14, ht14, hf⟩ := xb hf
          refine x_getr S hw lk_Tokens_27 ht14 d_Tokens_closePattern_50 ?_
          refine lv_iload_n S.1 S.2.1 d_Tokens_closePattern_53 rfl (lv_at hl 1 rfl) ?_
          obtain ⟨t15, ht15, hf⟩ := xb hf
          refine x_iald S hw ht15 d_Tokens_closePattern_54 ?_
          refine lv_bipush (v := 126) S.1 S.2.1 d_Tokens_closePattern_55 (by decide) ?_
          refine lv_icmp_gt (tgt := 66) S.1 S.2.1 d_Tokens_closePattern_57 (by decide) (fun c16 => ?_) (fun c16 => ?_)
          · replace hf := xt c16 hf
            exact w_Tokens_closePattern_66 S hr hlocks  _ _ _ _ _ _ hw (lv_sub hl [0, 1] rfl) hf
          · replace hf := xf c16 hf
            refine lv_iinc (v := (x1 + 1)) (lv' := [(1, .int (x1 + 1)), (0, .ref a0)]) S.1 S.2.1 d_Tokens_closePattern_60 hl (k := 1) rfl rfl (by decide) rfl (fun ls hl => ?_)
            refine lv_goto (tgt := 7) S.1 S.2.1 d_Tokens_closePattern_63 (by decide) ?_
            exact ih _ _ _ _ _ _ hw (lv_sub hl [1, 0] rfl) hf
def f_Tokens_closePattern (a0 : Nat) (ω : xS) : Option (Int32 × xS) :=
  (xgi ω a0 10 2).bind fun t1 =>
  f_Tokens_closePattern_7  xFU a0 (t1 + 1) ω
set_option maxHeartbeats 4000000 in
set_option maxRecDepth 100000 in
theorem c_Tokens_closePattern {l : Launch} {E : xV} {z : Nat} {a0 : Nat} {r : Int32} {ω1 : xS} {ω : xS} (hf : f_Tokens_closePattern a0 ω = some (r, ω1)) : xM l E y_Tokens_closePattern ws_Tokens_closePattern { frames := 0, cells := 0, slots := 0, locals := 0 } [.ref a0] z ω (some (.int r)) z ω1 := by
  refine x_start (cc := b_Tokens_closePattern) (maxL := 2) (ret := (some .boolean)) (by decide) rfl (Nat.le_of_ble_eq_true rfl) ?_
  intro p e s m below meth c S hr hlocks hin ls hl hw
  have hl : lv_has ls 2 [(0, .ref a0)] := hl
  unfold f_Tokens_closePattern at hf
  refine lv_aload_n S.1 S.2.1 d_Tokens_closePattern_0 rfl (lv_at hl 0 rfl) ?_
  obtain ⟨t1, ht1, hf⟩ := xb hf
  refine x_geti S hw lk_Tokens_19 ht1 d_Tokens_closePattern_1 ?_
  refine lv_iconst (v := 1) S.1 S.2.1 d_Tokens_closePattern_4 (by decide) ?_
  refine lv_iadd S.1 S.2.1 d_Tokens_closePattern_5 ?_
  refine lv_istore_n (lv' := [(1, .int (t1 + 1)), (0, .ref a0)]) S.1 S.2.1 d_Tokens_closePattern_6 rfl hl (by decide) rfl (fun ls hl => ?_)
  exact w_Tokens_closePattern_7 S hr hlocks  _ _ _ _ _ _ _ hw (lv_sub hl [1, 0] rfl) hf
def f_Tokens_kindFrom_69 (a0 : Nat) (x1 : Int32) (ω : xS) : Option (Int32 × xS) :=
  if x1 < 48 then (
    if x1 = 34 then (
      xc (xk ω a0 10 (f_Tokens_closePattern a0  ω)) fun t16 w17 =>
      if t16 = 0 then (
        some (0, w17))
      else (
        some (4, w17)))
    else (
      some (0, ω)))
  else (
    if 57 < x1 then (
      if x1 = 34 then (
        xc (xk ω a0 10 (f_Tokens_closePattern a0  ω)) fun t22 w23 =>
        if t22 = 0 then (
          some (0, w23))
        else (
          some (4, w23)))
      else (
        some (0, ω)))
    else (
      (xk ω a0 10 (f_Tokens_runEnd a0 48 57 ω)).bind fun t26 =>
      (xp ω a0 10 3 (.int t26)).bind fun w27 =>
      (xgi w27 a0 10 3).bind fun t28 =>
      (xgi w27 a0 10 2).bind fun t29 =>
      if 6 < (t28 - t29) then (
        some (0, w27))
      else (
        some (3, w27))))
set_option maxHeartbeats 4000000 in
set_option maxRecDepth 100000 in
theorem w_Tokens_kindFrom_69 {p : Program} {l : Launch} {e : Env} {s : State} {m : MethodId} {args : Array Value} {below : List Frame} {meth : Method} {c : Code} {E : xV} {z : Nat} {r : Int32} {ω1 : xS} (S : CallFix p m c b_Tokens_kindFrom 2 s args xTbl "RosterRules$Tokens") (hr : meth.sig.returnType = (some .int)) (hlocks : meth.locks = false) : ∀ (a0 : Nat) (x1 : Int32) (ω : xS) (H : Heap) (locs : List Loc) (ls : Array Slot), xW E z ω s s.heap H locs → lv_has ls 2 [(0, .ref a0), (1, .int x1)] → f_Tokens_kindFrom_69 a0 x1 ω = some (r, ω1) → W p l e (headSpec ws_Tokens_kindFrom { frames := 1, cells := 0, slots := 0, locals := 23 }).room s m args below meth c H locs 0 0 (MQ below (xQ E (some (.int r)) z ω1) args s 0 0 (fun q => E.2.2 ≤ q)) (F0 m 69 ls []) := by
  intro a0 x1 ω H locs ls hw hl hf
  unfold f_Tokens_kindFrom_69 at hf
  refine lv_iload_n S.1 S.2.1 d_Tokens_kindFrom_69 rfl (lv_at hl 1 rfl) ?_
  refine lv_bipush (v := 48) S.1 S.2.1 d_Tokens_kindFrom_70 (by decide) ?_
  refine lv_icmp_lt (tgt := 113) S.1 S.2.1 d_Tokens_kindFrom_72 (by decide) (fun c13 => ?_) (fun c13 => ?_)
  · replace hf := xt c13 hf
    refine lv_iload_n S.1 S.2.1 d_Tokens_kindFrom_113 rfl (lv_at hl 1 rfl) ?_
    refine lv_bipush (v := 34) S.1 S.2.1 d_Tokens_kindFrom_114 (by decide) ?_
    refine lv_icmp_ne (tgt := 130) S.1 S.2.1 d_Tokens_kindFrom_116 (by decide) (fun c14 => ?_) (fun c14 => ?_)
    · replace hf := xf c14 hf
      refine lv_iconst (v := 0) S.1 S.2.1 d_Tokens_kindFrom_130 (by decide) ?_
      obtain ⟨rfl, rfl⟩ := xe2 hf
      exact x_iret S hr hlocks hw d_Tokens_kindFrom_131
    · replace hf := xt c14 hf
      refine lv_aload_n S.1 S.2.1 d_Tokens_kindFrom_119 rfl (lv_at hl 0 rfl) ?_
      obtain ⟨t16, w17, h15, hf⟩ := xcb hf
      obtain ⟨h15b, h15⟩ := xkb h15
      refine x_callV (As := []) (rest := []) (st1 := [.int t16]) S hw (c_Tokens_closePattern h15) (cwV 0 S.2.2.2.2 gv_Tokens_45 rfl rfl rfl hd_Tokens_closePattern ⟨Nat.le_of_ble_eq_true rfl, Nat.le_of_ble_eq_true rfl⟩) rfl h15b rfl hl.1 rfl rfl (Nat.le_of_ble_eq_true rfl) d_Tokens_kindFrom_120 ⟨Nat.le_of_ble_eq_true rfl, Nat.le_of_ble_eq_true rfl⟩ (fun H locs hw => ?_)
      refine lv_if_eq (tgt := 130) S.1 S.2.1 d_Tokens_kindFrom_123 (by decide) (fun c18 => ?_) (fun c18 => ?_)
      · replace hf := xt c18 hf
        refine lv_iconst (v := 0) S.1 S.2.1 d_Tokens_kindFrom_130 (by decide) ?_
        obtain ⟨rfl, rfl⟩ := xe2 hf
        exact x_iret S hr hlocks hw d_Tokens_kindFrom_131
      · replace hf := xf c18 hf
        refine lv_iconst (v := 4) S.1 S.2.1 d_Tokens_kindFrom_126 (by decide) ?_
        refine lv_goto (tgt := 131) S.1 S.2.1 d_Tokens_kindFrom_127 (by decide) ?_
        obtain ⟨rfl, rfl⟩ := xe2 hf
        exact x_iret S hr hlocks hw d_Tokens_kindFrom_131
  · replace hf := xf c13 hf
    refine lv_iload_n S.1 S.2.1 d_Tokens_kindFrom_75 rfl (lv_at hl 1 rfl) ?_
    refine lv_bipush (v := 57) S.1 S.2.1 d_Tokens_kindFrom_76 (by decide) ?_
    refine lv_icmp_gt (tgt := 113) S.1 S.2.1 d_Tokens_kindFrom_78 (by decide) (fun c19 => ?_) (fun c19 => ?_)
    · replace hf := xt c19 hf
      refine lv_iload_n S.1 S.2.1 d_Tokens_kindFrom_113 rfl (lv_at hl 1 rfl) ?_
      refine lv_bipush (v := 34) S.1 S.2.1 d_Tokens_kindFrom_114 (by decide) ?_
      refine lv_icmp_ne (tgt := 130) S.1 S.2.1 d_Tokens_kindFrom_116 (by decide) (fun c20 => ?_) (fun c20 => ?_)
      · replace hf := xf c20 hf
        refine lv_iconst (v := 0) S.1 S.2.1 d_Tokens_kindFrom_130 (by decide) ?_
        obtain ⟨rfl, rfl⟩ := xe2 hf
        exact x_iret S hr hlocks hw d_Tokens_kindFrom_131
      · replace hf := xt c20 hf
        refine lv_aload_n S.1 S.2.1 d_Tokens_kindFrom_119 rfl (lv_at hl 0 rfl) ?_
        obtain ⟨t22, w23, h21, hf⟩ := xcb hf
        obtain ⟨h21b, h21⟩ := xkb h21
        refine x_callV (As := []) (rest := []) (st1 := [.int t22]) S hw (c_Tokens_closePattern h21) (cwV 0 S.2.2.2.2 gv_Tokens_45 rfl rfl rfl hd_Tokens_closePattern ⟨Nat.le_of_ble_eq_true rfl, Nat.le_of_ble_eq_true rfl⟩) rfl h21b rfl hl.1 rfl rfl (Nat.le_of_ble_eq_true rfl) d_Tokens_kindFrom_120 ⟨Nat.le_of_ble_eq_true rfl, Nat.le_of_ble_eq_true rfl⟩ (fun H locs hw => ?_)
        refine lv_if_eq (tgt := 130) S.1 S.2.1 d_Tokens_kindFrom_123 (by decide) (fun c24 => ?_) (fun c24 => ?_)
        · replace hf := xt c24 hf
          refine lv_iconst (v := 0) S.1 S.2.1 d_Tokens_kindFrom_130 (by decide) ?_
          obtain ⟨rfl, rfl⟩ := xe2 hf
          exact x_iret S hr hlocks hw d_Tokens_kindFrom_131
        · replace hf := xf c24 hf
          refine lv_iconst (v := 4) S.1 S.2.1 d_Tokens_kindFrom_126 (by decide) ?_
          refine lv_goto (tgt := 131) S.1 S.2.1 d_Tokens_kindFrom_127 (by decide) ?_
          obtain ⟨rfl, rfl⟩ := xe2 hf
          exact x_iret S hr hlocks hw d_Tokens_kindFrom_131
    · replace hf := xf c19 hf
      refine lv_aload_n S.1 S.2.1 d_Tokens_kindFrom_81 rfl (lv_at hl 0 rfl) ?_
      refine lv_aload_n S.1 S.2.1 d_Tokens_kindFrom_82 rfl (lv_at hl 0 rfl) ?_
      refine lv_bipush (v := 48) S.1 S.2.1 d_Tokens_kindFrom_83 (by decide) ?_
      refine lv_bipush (v := 57) S.1 S.2.1 d_Tokens_kindFrom_85 (by decide) ?_
      obtain ⟨t26, h25, hf⟩ := xb hf
      obtain ⟨h25b, h25⟩ := xkb h25
      refine x_callV (As := [.int 48, .int 57]) (rest := [.ref a0]) (st1 := [.int t26, .ref a0]) S hw (c_Tokens_runEnd h25) (cwV 2 S.2.2.2.2 gv_Tokens_41 rfl rfl rfl hd_Tokens_runEnd ⟨Nat.le_of_ble_eq_true rfl, Nat.le_of_ble_eq_true rfl⟩) rfl h25b rfl hl.1 rfl rfl (Nat.le_of_ble_eq_true rfl) d_Tokens_kindFrom_87 ⟨Nat.le_of_ble_eq_true rfl, Nat.le_of_ble_eq_true rfl⟩ (fun H locs hw => ?_)
      obtain ⟨w27, hw27, hf⟩ := xb hf
      refine x_puti S hw lp_Tokens_15 hw27 d_Tokens_kindFrom_90 (fun H locs hw => ?_)
      refine lv_aload_n S.1 S.2.1 d_Tokens_kindFrom_93 rfl (lv_at hl 0 rfl) ?_
      obtain ⟨t28, ht28, hf⟩ := xb hf
      refine x_geti S hw lk_Tokens_15 ht28 d_Tokens_kindFrom_94 ?_
      refine lv_aload_n S.1 S.2.1 d_Tokens_kindFrom_97 rfl (lv_at hl 0 rfl) ?_
      obtain ⟨t29, ht29, hf⟩ := xb hf
      refine x_geti S hw lk_Tokens_19 ht29 d_Tokens_kindFrom_98 ?_
      refine lv_isub S.1 S.2.1 d_Tokens_kindFrom_101 ?_
      refine lv_bipush (v := 6) S.1 S.2.1 d_Tokens_kindFrom_102 (by decide) ?_
      refine lv_icmp_gt (tgt := 111) S.1 S.2.1 d_Tokens_kindFrom_104 (by decide) (fun c30 => ?_) (fun c30 => ?_)
      · replace hf := xt c30 hf
        refine lv_iconst (v := 0) S.1 S.2.1 d_Tokens_kindFrom_111 (by decide) ?_
        obtain ⟨rfl, rfl⟩ := xe2 hf
        exact x_iret S hr hlocks hw d_Tokens_kindFrom_112
      · replace hf := xf c30 hf
        refine lv_iconst (v := 3) S.1 S.2.1 d_Tokens_kindFrom_107 (by decide) ?_
        refine lv_goto (tgt := 112) S.1 S.2.1 d_Tokens_kindFrom_108 (by decide) ?_
        obtain ⟨rfl, rfl⟩ := xe2 hf
        exact x_iret S hr hlocks hw d_Tokens_kindFrom_112
def f_Tokens_kindFrom (a0 : Nat) (x1 : Int32) (ω : xS) : Option (Int32 × xS) :=
  if x1 = (-1) then (
    some (1, ω))
  else (
    if x1 = 59 then (
      (xgi ω a0 10 2).bind fun t11 =>
      (xp ω a0 10 3 (.int (t11 + 1))).bind fun w12 =>
      some (5, w12))
    else (
      if x1 < 97 then (
        f_Tokens_kindFrom_69  a0 x1 ω)
      else (
        if 122 < x1 then (
          f_Tokens_kindFrom_69  a0 x1 ω)
        else (
          (xk ω a0 10 (f_Tokens_runEnd a0 97 122 ω)).bind fun t6 =>
          (xp ω a0 10 3 (.int t6)).bind fun w7 =>
          (xgi w7 a0 10 3).bind fun t8 =>
          (xgi w7 a0 10 2).bind fun t9 =>
          if 8 < (t8 - t9) then (
            some (0, w7))
          else (
            some (2, w7))))))
set_option maxHeartbeats 4000000 in
set_option maxRecDepth 100000 in
theorem c_Tokens_kindFrom {l : Launch} {E : xV} {z : Nat} {a0 : Nat} {x1 : Int32} {r : Int32} {ω1 : xS} {ω : xS} (hf : f_Tokens_kindFrom a0 x1 ω = some (r, ω1)) : xM l E y_Tokens_kindFrom ws_Tokens_kindFrom { frames := 1, cells := 0, slots := 0, locals := 23 } [.ref a0, .int x1] z ω (some (.int r)) z ω1 := by
  refine x_start (cc := b_Tokens_kindFrom) (maxL := 2) (ret := (some .int)) (by decide) rfl (Nat.le_of_ble_eq_true rfl) ?_
  intro p e s m below meth c S hr hlocks hin ls hl hw
  have hl : lv_has ls 2 [(0, .ref a0), (1, .int x1)] := hl
  unfold f_Tokens_kindFrom at hf
  refine lv_iload_n S.1 S.2.1 d_Tokens_kindFrom_0 rfl (lv_at hl 1 rfl) ?_
  refine lv_iconst (v := (-1)) S.1 S.2.1 d_Tokens_kindFrom_1 (by decide) ?_
  refine lv_icmp_ne (tgt := 7) S.1 S.2.1 d_Tokens_kindFrom_2 (by decide) (fun c1 => ?_) (fun c1 => ?_)
  · replace hf := xf c1 hf
    refine lv_iload_n S.1 S.2.1 d_Tokens_kindFrom_7 rfl (lv_at hl 1 rfl) ?_
    refine lv_bipush (v := 59) S.1 S.2.1 d_Tokens_kindFrom_8 (by decide) ?_
    refine lv_icmp_ne (tgt := 25) S.1 S.2.1 d_Tokens_kindFrom_10 (by decide) (fun c2 => ?_) (fun c2 => ?_)
    · replace hf := xf c2 hf
      refine lv_iload_n S.1 S.2.1 d_Tokens_kindFrom_25 rfl (lv_at hl 1 rfl) ?_
      refine lv_bipush (v := 97) S.1 S.2.1 d_Tokens_kindFrom_26 (by decide) ?_
      refine lv_icmp_lt (tgt := 69) S.1 S.2.1 d_Tokens_kindFrom_28 (by decide) (fun c3 => ?_) (fun c3 => ?_)
      · replace hf := xt c3 hf
        exact w_Tokens_kindFrom_69 S hr hlocks  _ _ _ _ _ _ hw (lv_sub hl [0, 1] rfl) hf
      · replace hf := xf c3 hf
        refine lv_iload_n S.1 S.2.1 d_Tokens_kindFrom_31 rfl (lv_at hl 1 rfl) ?_
        refine lv_bipush (v := 122) S.1 S.2.1 d_Tokens_kindFrom_32 (by decide) ?_
        refine lv_icmp_gt (tgt := 69) S.1 S.2.1 d_Tokens_kindFrom_34 (by decide) (fun c4 => ?_) (fun c4 => ?_)
        · replace hf := xt c4 hf
          exact w_Tokens_kindFrom_69 S hr hlocks  _ _ _ _ _ _ hw (lv_sub hl [0, 1] rfl) hf
        · replace hf := xf c4 hf
          refine lv_aload_n S.1 S.2.1 d_Tokens_kindFrom_37 rfl (lv_at hl 0 rfl) ?_
          refine lv_aload_n S.1 S.2.1 d_Tokens_kindFrom_38 rfl (lv_at hl 0 rfl) ?_
          refine lv_bipush (v := 97) S.1 S.2.1 d_Tokens_kindFrom_39 (by decide) ?_
          refine lv_bipush (v := 122) S.1 S.2.1 d_Tokens_kindFrom_41 (by decide) ?_
          obtain ⟨t6, h5, hf⟩ := xb hf
          obtain ⟨h5b, h5⟩ := xkb h5
          refine x_callV (As := [.int 97, .int 122]) (rest := [.ref a0]) (st1 := [.int t6, .ref a0]) S hw (c_Tokens_runEnd h5) (cwV 2 S.2.2.2.2 gv_Tokens_41 rfl rfl rfl hd_Tokens_runEnd ⟨Nat.le_of_ble_eq_true rfl, Nat.le_of_ble_eq_true rfl⟩) rfl h5b rfl hl.1 rfl rfl (Nat.le_of_ble_eq_true rfl) d_Tokens_kindFrom_43 ⟨Nat.le_of_ble_eq_true rfl, Nat.le_of_ble_eq_true rfl⟩ (fun H locs hw => ?_)
          obtain ⟨w7, hw7, hf⟩ := xb hf
          refine x_puti S hw lp_Tokens_15 hw7 d_Tokens_kindFrom_46 (fun H locs hw => ?_)
          refine lv_aload_n S.1 S.2.1 d_Tokens_kindFrom_49 rfl (lv_at hl 0 rfl) ?_
          obtain ⟨t8, ht8, hf⟩ := xb hf
          refine x_geti S hw lk_Tokens_15 ht8 d_Tokens_kindFrom_50 ?_
          refine lv_aload_n S.1 S.2.1 d_Tokens_kindFrom_53 rfl (lv_at hl 0 rfl) ?_
          obtain ⟨t9, ht9, hf⟩ := xb hf
          refine x_geti S hw lk_Tokens_19 ht9 d_Tokens_kindFrom_54 ?_
          refine lv_isub S.1 S.2.1 d_Tokens_kindFrom_57 ?_
          refine lv_bipush (v := 8) S.1 S.2.1 d_Tokens_kindFrom_58 (by decide) ?_
          refine lv_icmp_gt (tgt := 67) S.1 S.2.1 d_Tokens_kindFrom_60 (by decide) (fun c10 => ?_) (fun c10 => ?_)
          · replace hf := xt c10 hf
            refine lv_iconst (v := 0) S.1 S.2.1 d_Tokens_kindFrom_67 (by decide) ?_
            obtain ⟨rfl, rfl⟩ := xe2 hf
            exact x_iret S hr hlocks hw d_Tokens_kindFrom_68
          · replace hf := xf c10 hf
            refine lv_iconst (v := 2) S.1 S.2.1 d_Tokens_kindFrom_63 (by decide) ?_
            refine lv_goto (tgt := 68) S.1 S.2.1 d_Tokens_kindFrom_64 (by decide) ?_
            obtain ⟨rfl, rfl⟩ := xe2 hf
            exact x_iret S hr hlocks hw d_Tokens_kindFrom_68
    · replace hf := xt c2 hf
      refine lv_aload_n S.1 S.2.1 d_Tokens_kindFrom_13 rfl (lv_at hl 0 rfl) ?_
      refine lv_aload_n S.1 S.2.1 d_Tokens_kindFrom_14 rfl (lv_at hl 0 rfl) ?_
      obtain ⟨t11, ht11, hf⟩ := xb hf
      refine x_geti S hw lk_Tokens_19 ht11 d_Tokens_kindFrom_15 ?_
      refine lv_iconst (v := 1) S.1 S.2.1 d_Tokens_kindFrom_18 (by decide) ?_
      refine lv_iadd S.1 S.2.1 d_Tokens_kindFrom_19 ?_
      obtain ⟨w12, hw12, hf⟩ := xb hf
      refine x_puti S hw lp_Tokens_15 hw12 d_Tokens_kindFrom_20 (fun H locs hw => ?_)
      refine lv_iconst (v := 5) S.1 S.2.1 d_Tokens_kindFrom_23 (by decide) ?_
      obtain ⟨rfl, rfl⟩ := xe2 hf
      exact x_iret S hr hlocks hw d_Tokens_kindFrom_24
  · replace hf := xt c1 hf
    refine lv_iconst (v := 1) S.1 S.2.1 d_Tokens_kindFrom_5 (by decide) ?_
    obtain ⟨rfl, rfl⟩ := xe2 hf
    exact x_iret S hr hlocks hw d_Tokens_kindFrom_6
