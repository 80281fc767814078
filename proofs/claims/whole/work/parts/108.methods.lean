def f_PatternParser_parse_90 (a0 : Nat) (x1 : Int32) (a2 : Nat) (ω : xS) : Option xS :=
  (xgi ω a0 6 8).bind fun t25 =>
  if t25 = 0 then (
    (xgi ω a0 6 8).bind fun t27 =>
    if t27 = 0 then (
      some ω)
    else (
      (xgi ω a0 6 5).bind fun t29 =>
      (xk ω a2 7 (f_Positions_finish a2 t29 ω)).bind fun w32 =>
      some w32))
  else (
    (xgi ω a2 7 5).bind fun t33 =>
    if t33 = 0 then (
      (xgi ω a0 6 8).bind fun t35 =>
      if t35 = 0 then (
        some ω)
      else (
        (xgi ω a0 6 5).bind fun t37 =>
        (xk ω a2 7 (f_Positions_finish a2 t37 ω)).bind fun w40 =>
        some w40))
    else (
      (xk ω a0 6 (f_PatternParser_refuse a0 3 x1 ω)).bind fun w43 =>
      some w43))
set_option maxHeartbeats 4000000 in
set_option maxRecDepth 100000 in
theorem w_PatternParser_parse_90 {p : Program} {l : Launch} {e : Env} {s : State} {m : MethodId} {args : Array Value} {below : List Frame} {meth : Method} {c : Code} {E : xV} {z : Nat} {ω1 : xS} (S : CallFix p m c b_PatternParser_parse 4 s args xTbl "RosterRules$PatternParser") (hr : meth.sig.returnType = none) (hlocks : meth.locks = false) : ∀ (a0 : Nat) (x1 : Int32) (a2 : Nat) (ω : xS) (H : Heap) (locs : List Loc) (ls : Array Slot), xW E z ω s s.heap H locs → lv_has ls 4 [(0, .ref a0), (1, .int x1), (2, .ref a2)] → f_PatternParser_parse_90 a0 x1 a2 ω = some ω1 → W p l e (headSpec ws_PatternParser_parse { frames := 3, cells := 0, slots := 0, locals := 77 }).room s m args below meth c H locs 0 0 (MQ below (xQ E none z ω1) args s 0 0 (fun q => E.2.2 ≤ q)) (F0 m 90 ls []) := by
  intro a0 x1 a2 ω H locs ls hw hl hf
  unfold f_PatternParser_parse_90 at hf
  refine lv_aload_n S.1 S.2.1 d_PatternParser_parse_90 rfl (lv_at hl 0 rfl) ?_
  obtain ⟨t25, ht25, hf⟩ := xb hf
  refine x_geti S hw lk_PatternParser_36 ht25 d_PatternParser_parse_91 ?_
  refine lv_if_eq (tgt := 113) S.1 S.2.1 d_PatternParser_parse_94 (by decide) (fun c26 => ?_) (fun c26 => ?_)
  · replace hf := xt c26 hf
    refine lv_aload_n S.1 S.2.1 d_PatternParser_parse_113 rfl (lv_at hl 0 rfl) ?_
    obtain ⟨t27, ht27, hf⟩ := xb hf
    refine x_geti S hw lk_PatternParser_36 ht27 d_PatternParser_parse_114 ?_
    refine lv_if_eq (tgt := 128) S.1 S.2.1 d_PatternParser_parse_117 (by decide) (fun c28 => ?_) (fun c28 => ?_)
    · replace hf := xt c28 hf
      cases hf
      exact x_vret S hr hlocks hw d_PatternParser_parse_128
    · replace hf := xf c28 hf
      refine lv_aload_n S.1 S.2.1 d_PatternParser_parse_120 rfl (lv_at hl 2 rfl) ?_
      refine lv_aload_n S.1 S.2.1 d_PatternParser_parse_121 rfl (lv_at hl 0 rfl) ?_
      obtain ⟨t29, ht29, hf⟩ := xb hf
      refine x_geti S hw lk_PatternParser_43 ht29 d_PatternParser_parse_122 ?_
      obtain ⟨w32, h30, hf⟩ := xb hf
      obtain ⟨h30b, h30⟩ := xkb h30
      refine x_callV (As := [.int t29]) (rest := []) (st1 := []) S hw (c_Positions_finish h30) (cwV 1 S.2.2.2.2 gv_PatternParser_69 rfl rfl rfl hd_Positions_finish ⟨Nat.le_of_ble_eq_true rfl, Nat.le_of_ble_eq_true rfl⟩) rfl h30b rfl hl.1 rfl rfl (Nat.le_of_ble_eq_true rfl) d_PatternParser_parse_125 ⟨Nat.le_of_ble_eq_true rfl, Nat.le_of_ble_eq_true rfl⟩ (fun H locs hw => ?_)
      cases hf
      exact x_vret S hr hlocks hw d_PatternParser_parse_128
  · replace hf := xf c26 hf
    refine lv_aload_n S.1 S.2.1 d_PatternParser_parse_97 rfl (lv_at hl 2 rfl) ?_
    obtain ⟨t33, ht33, hf⟩ := xb hf
    refine x_geti S hw lk_PatternParser_60 ht33 d_PatternParser_parse_98 ?_
    refine lv_if_eq (tgt := 113) S.1 S.2.1 d_PatternParser_parse_101 (by decide) (fun c34 => ?_) (fun c34 => ?_)
    · replace hf := xt c34 hf
      refine lv_aload_n S.1 S.2.1 d_PatternParser_parse_113 rfl (lv_at hl 0 rfl) ?_
      obtain ⟨t35, ht35, hf⟩ := xb hf
      refine x_geti S hw lk_PatternParser_36 ht35 d_PatternParser_parse_114 ?_
      refine lv_if_eq (tgt := 128) S.1 S.2.1 d_PatternParser_parse_117 (by decide) (fun c36 => ?_) (fun c36 => ?_)
      · replace hf := xt c36 hf
        cases hf
        exact x_vret S hr hlocks hw d_PatternParser_parse_128
      · replace hf := xf c36 hf
        refine lv_aload_n S.1 S.2.1 d_PatternParser_parse_120 rfl (lv_at hl 2 rfl) ?_
        refine lv_aload_n S.1 S.2.1 d_PatternParser_parse_121 rfl (lv_at hl 0 rfl) ?_
        obtain ⟨t37, ht37, hf⟩ := xb hf
        refine x_geti S hw lk_PatternParser_43 ht37 d_PatternParser_parse_122 ?_
        obtain ⟨w40, h38, hf⟩ := xb hf
        obtain ⟨h38b, h38⟩ := xkb h38
        refine x_callV (As := [.int t37]) (rest := []) (st1 := []) S hw (c_Positions_finish h38) (cwV 1 S.2.2.2.2 gv_PatternParser_69 rfl rfl rfl hd_Positions_finish ⟨Nat.le_of_ble_eq_true rfl, Nat.le_of_ble_eq_true rfl⟩) rfl h38b rfl hl.1 rfl rfl (Nat.le_of_ble_eq_true rfl) d_PatternParser_parse_125 ⟨Nat.le_of_ble_eq_true rfl, Nat.le_of_ble_eq_true rfl⟩ (fun H locs hw => ?_)
        cases hf
        exact x_vret S hr hlocks hw d_PatternParser_parse_128
    · replace hf := xf c34 hf
      refine lv_aload_n S.1 S.2.1 d_PatternParser_parse_104 rfl (lv_at hl 0 rfl) ?_
      refine lv_iconst (v := 3) S.1 S.2.1 d_PatternParser_parse_105 (by decide) ?_
      refine lv_iload_n S.1 S.2.1 d_PatternParser_parse_106 rfl (lv_at hl 1 rfl) ?_
      obtain ⟨w43, h41, hf⟩ := xb hf
      obtain ⟨h41b, h41⟩ := xkb h41
      refine x_callV (As := [.int 3, .int x1]) (rest := []) (st1 := []) S hw (c_PatternParser_refuse h41) (cwV 2 S.2.2.2.2 gv_PatternParser_65 rfl rfl rfl hd_PatternParser_refuse ⟨Nat.le_of_ble_eq_true rfl, Nat.le_of_ble_eq_true rfl⟩) rfl h41b rfl hl.1 rfl rfl (Nat.le_of_ble_eq_true rfl) d_PatternParser_parse_107 ⟨Nat.le_of_ble_eq_true rfl, Nat.le_of_ble_eq_true rfl⟩ (fun H locs hw => ?_)
      refine lv_goto (tgt := 128) S.1 S.2.1 d_PatternParser_parse_110 (by decide) ?_
      cases hf
      exact x_vret S hr hlocks hw d_PatternParser_parse_128
def f_PatternParser_parse_48 : Nat → Nat → Int32 → Nat → Int32 → xS → Option xS
  | 0, _, _, _, _, _ => none
  | n + 1, a0, x1, a2, x3, ω =>
    if 40 < x3 then (
      f_PatternParser_parse_90  a0 x1 a2 ω)
    else (
      (xgi ω a0 6 10).bind fun t14 =>
      if t14 = 0 then (
        (xgi ω a0 6 8).bind fun t16 =>
        if t16 = 0 then (
          (xgr ω a0 6 0).bind fun t18 =>
          (xgi ω a0 6 9).bind fun t19 =>
          (xk ω t18 9 (f_Tape_byteAt t18 t19 ω)).bind fun t21 =>
          (xk ω a0 6 (f_PatternParser_takeByte a0 t21 a2 ω)).bind fun w24 =>
          f_PatternParser_parse_48  n a0 x1 a2 (x3 + 1) w24)
        else (
          f_PatternParser_parse_90  a0 x1 a2 ω))
      else (
        f_PatternParser_parse_90  a0 x1 a2 ω))
set_option maxHeartbeats 4000000 in
set_option maxRecDepth 100000 in
theorem w_PatternParser_parse_48 {p : Program} {l : Launch} {e : Env} {s : State} {m : MethodId} {args : Array Value} {below : List Frame} {meth : Method} {c : Code} {E : xV} {z : Nat} {ω1 : xS} (S : CallFix p m c b_PatternParser_parse 4 s args xTbl "RosterRules$PatternParser") (hr : meth.sig.returnType = none) (hlocks : meth.locks = false) : ∀ n : Nat, ∀ (a0 : Nat) (x1 : Int32) (a2 : Nat) (x3 : Int32) (ω : xS) (H : Heap) (locs : List Loc) (ls : Array Slot), xW E z ω s s.heap H locs → lv_has ls 4 [(0, .ref a0), (1, .int x1), (2, .ref a2), (3, .int x3)] → f_PatternParser_parse_48 n a0 x1 a2 x3 ω = some ω1 → W p l e (headSpec ws_PatternParser_parse { frames := 3, cells := 0, slots := 0, locals := 77 }).room s m args below meth c H locs 0 0 (MQ below (xQ E none z ω1) args s 0 0 (fun q => E.2.2 ≤ q)) (F0 m 48 ls []) := by
  intro n
  induction n with
  | zero =>
    intro a0 x1 a2 x3 ω H locs ls hw hl hf
    have h2 : (none : Option xS) = some ω1 := hf
    cases h2
  | succ n ih =>
    intro a0 x1 a2 x3 ω H locs ls hw hl hf
    rw [f_PatternParser_parse_48] at hf
    refine lv_iload_n S.1 S.2.1 d_PatternParser_parse_48 rfl (lv_at hl 3 rfl) ?_
    refine lv_bipush (v := 40) S.1 S.2.1 d_PatternParser_parse_49 (by decide) ?_
    refine lv_icmp_gt (tgt := 90) S.1 S.2.1 d_PatternParser_parse_51 (by decide) (fun c13 => ?_) (fun c13 => ?_)
    · replace hf := xt c13 hf
      exact w_PatternParser_parse_90 S hr hlocks  _ _ _ _ _ _ _ hw (lv_sub hl [0, 1, 2] rfl) hf
    · replace hf := xf c13 hf
      refine lv_aload_n S.1 S.2.1 d_PatternParser_parse_54 rfl (lv_at hl 0 rfl) ?_
      obtain ⟨t14, ht14, hf⟩ := xb hf
      refine x_geti S hw lk_PatternParser_32 ht14 d_PatternParser_parse_55 ?_
      refine lv_if_ne (tgt := 90) S.1 S.2.1 d_PatternParser_parse_58 (by decide) (fun c15 => ?_) (fun c15 => ?_)
      · replace hf := xf c15 hf
        exact w_PatternParser_parse_90 S hr hlocks  _ _ _ _ _ _ _ hw (lv_sub hl [0, 1, 2] rfl) hf
      · replace hf := xt c15 hf
        refine lv_aload_n S.1 S.2.1 d_PatternParser_parse_61 rfl (lv_at hl 0 rfl) ?_
        obtain ⟨t16, ht16, hf⟩ := xb hf
        refine x_geti S hw lk_PatternParser_36 ht16 d_PatternParser_parse_62 ?_
        refine lv_if_ne (tgt := 90) S.1 S.2.1 d_PatternParser_parse_65 (by decide) (fun c17 => ?_) (fun c17 => ?_)
        · replace hf := xf c17 hf
          exact w_PatternParser_parse_90 S hr hlocks  _ _ _ _ _ _ _ hw (lv_sub hl [0, 1, 2] rfl) hf
        · replace hf := xt c17 hf
          refine lv_aload_n S.1 S.2.1 d_PatternParser_parse_68 rfl (lv_at hl 0 rfl) ?_
          refine lv_aload_n S.1 S.2.1 d_PatternParser_parse_69 rfl (lv_at hl 0 rfl) ?_
          obtain ⟨t18, ht18, hf⟩ := xb hf
          refine x_getr S hw lk_PatternParser_23 ht18 d_PatternParser_parse_70 ?_
          refine lv_aload_n S.1 S.2.1 d_PatternParser_parse_73 rfl (lv_at hl 0 rfl) ?_
          obtain ⟨t19, ht19, hf⟩ := xb hf
          refine x_geti S hw lk_PatternParser_40 ht19 d_PatternParser_parse_74 ?_
          obtain ⟨t21, h20, hf⟩ := xb hf
          obtain ⟨h20b, h20⟩ := xkb h20
          refine x_callV (As := [.int t19]) (rest := [.ref a0]) (st1 := [.int t21, .ref a0]) S hw (c_Tape_byteAt h20) (cwV 1 S.2.2.2.2 gv_PatternParser_50 rfl rfl rfl hd_Tape_byteAt ⟨Nat.le_of_ble_eq_true rfl, Nat.le_of_ble_eq_true rfl⟩) rfl h20b rfl hl.1 rfl rfl (Nat.le_of_ble_eq_true rfl) d_PatternParser_parse_77 ⟨Nat.le_of_ble_eq_true rfl, Nat.le_of_ble_eq_true rfl⟩ (fun H locs hw => ?_)
          refine lv_aload_n S.1 S.2.1 d_PatternParser_parse_80 rfl (lv_at hl 2 rfl) ?_
          obtain ⟨w24, h22, hf⟩ := xb hf
          obtain ⟨h22b, h22⟩ := xkb h22
          refine x_callV (As := [.int t21, .ref a2]) (rest := []) (st1 := []) S hw (c_PatternParser_takeByte h22) (cwV 2 S.2.2.2.2 gv_PatternParser_56 rfl rfl rfl hd_PatternParser_takeByte ⟨Nat.le_of_ble_eq_true rfl, Nat.le_of_ble_eq_true rfl⟩) rfl h22b rfl hl.1 rfl rfl (Nat.le_of_ble_eq_true rfl) d_PatternParser_parse_81 ⟨Nat.le_of_ble_eq_true rfl, Nat.le_of_ble_eq_true rfl⟩ (fun H locs hw => ?_)
          refine lv_iinc (v := (x3 + 1)) (lv' := [(3, .int (x3 + 1)), (0, .ref a0), (1, .int x1), (2, .ref a2)]) S.1 S.2.1 d_PatternParser_parse_84 hl (k := 3) rfl rfl (by decide) rfl (fun ls hl => ?_)
          refine lv_goto (tgt := 48) S.1 S.2.1 d_PatternParser_parse_87 (by decide) ?_
          exact ih _ _ _ _ _ _ _ _ hw (lv_sub hl [1, 2, 3, 0] rfl) hf
def f_PatternParser_parse (a0 : Nat) (x1 : Int32) (a2 : Nat) (ω : xS) : Option xS :=
  (xk ω a2 7 (f_Positions_clear a2  ω)).bind fun w3 =>
  (xp w3 a0 6 10 (.int 0)).bind fun w4 =>
  (xp w4 a0 6 8 (.int 0)).bind fun w5 =>
  (xp w5 a0 6 9 (.int (x1 + 1))).bind fun w6 =>
  (xp w6 a0 6 5 (.int (-1))).bind fun w7 =>
  (xp w7 a0 6 4 (.int 0)).bind fun w8 =>
  (xgr w8 a0 6 1).bind fun t9 =>
  (xsi w8 t9 0 0).bind fun w10 =>
  (xgr w10 a0 6 2).bind fun t11 =>
  (xsi w10 t11 0 1048576).bind fun w12 =>
  f_PatternParser_parse_48  xFU a0 x1 a2 0 w12
set_option maxHeartbeats 4000000 in
set_option maxRecDepth 100000 in
theorem c_PatternParser_parse {l : Launch} {E : xV} {z : Nat} {a0 : Nat} {x1 : Int32} {a2 : Nat} {ω1 : xS} {ω : xS} (hf : f_PatternParser_parse a0 x1 a2 ω = some ω1) : xM l E y_PatternParser_parse ws_PatternParser_parse { frames := 3, cells := 0, slots := 0, locals := 77 } [.ref a0, .int x1, .ref a2] z ω none z ω1 := by
  refine x_start (cc := b_PatternParser_parse) (maxL := 4) (ret := none) (by decide) rfl (Nat.le_of_ble_eq_true rfl) ?_
  intro p e s m below meth c S hr hlocks hin ls hl hw
  have hl : lv_has ls 4 [(0, .ref a0), (1, .int x1), (2, .ref a2)] := hl
  unfold f_PatternParser_parse at hf
  refine lv_aload_n S.1 S.2.1 d_PatternParser_parse_0 rfl (lv_at hl 2 rfl) ?_
  obtain ⟨w3, h1, hf⟩ := xb hf
  obtain ⟨h1b, h1⟩ := xkb h1
  refine x_callV (As := []) (rest := []) (st1 := []) S hw (c_Positions_clear h1) (cwV 0 S.2.2.2.2 gv_PatternParser_27 rfl rfl rfl hd_Positions_clear ⟨Nat.le_of_ble_eq_true rfl, Nat.le_of_ble_eq_true rfl⟩) rfl h1b rfl hl.1 rfl rfl (Nat.le_of_ble_eq_true rfl) d_PatternParser_parse_1 ⟨Nat.le_of_ble_eq_true rfl, Nat.le_of_ble_eq_true rfl⟩ (fun H locs hw => ?_)
  refine lv_aload_n S.1 S.2.1 d_PatternParser_parse_4 rfl (lv_at hl 0 rfl) ?_
  refine lv_iconst (v := 0) S.1 S.2.1 d_PatternParser_parse_5 (by decide) ?_
  obtain ⟨w4, hw4, hf⟩ := xb hf
  refine x_puti S hw lp_PatternParser_32 hw4 d_PatternParser_parse_6 (fun H locs hw => ?_)
  refine lv_aload_n S.1 S.2.1 d_PatternParser_parse_9 rfl (lv_at hl 0 rfl) ?_
  refine lv_iconst (v := 0) S.1 S.2.1 d_PatternParser_parse_10 (by decide) ?_
  obtain ⟨w5, hw5, hf⟩ := xb hf
  refine x_put S hw lp_PatternParser_36 (by decide) rfl hw5 d_PatternParser_parse_11 (fun H locs hw => ?_)
  refine lv_aload_n S.1 S.2.1 d_PatternParser_parse_14 rfl (lv_at hl 0 rfl) ?_
  refine lv_iload_n S.1 S.2.1 d_PatternParser_parse_15 rfl (lv_at hl 1 rfl) ?_
  refine lv_iconst (v := 1) S.1 S.2.1 d_PatternParser_parse_16 (by decide) ?_
  refine lv_iadd S.1 S.2.1 d_PatternParser_parse_17 ?_
  obtain ⟨w6, hw6, hf⟩ := xb hf
  refine x_puti S hw lp_PatternParser_40 hw6 d_PatternParser_parse_18 (fun H locs hw => ?_)
  refine lv_aload_n S.1 S.2.1 d_PatternParser_parse_21 rfl (lv_at hl 0 rfl) ?_
  refine lv_iconst (v := (-1)) S.1 S.2.1 d_PatternParser_parse_22 (by decide) ?_
  obtain ⟨w7, hw7, hf⟩ := xb hf
  refine x_puti S hw lp_PatternParser_43 hw7 d_PatternParser_parse_23 (fun H locs hw => ?_)
  refine lv_aload_n S.1 S.2.1 d_PatternParser_parse_26 rfl (lv_at hl 0 rfl) ?_
  refine lv_iconst (v := 0) S.1 S.2.1 d_PatternParser_parse_27 (by decide) ?_
  obtain ⟨w8, hw8, hf⟩ := xb hf
  refine x_puti S hw lp_PatternParser_46 hw8 d_PatternParser_parse_28 (fun H locs hw => ?_)
  refine lv_aload_n S.1 S.2.1 d_PatternParser_parse_31 rfl (lv_at hl 0 rfl) ?_
  obtain ⟨t9, ht9, hf⟩ := xb hf
  refine x_getr S hw lk_PatternParser_13 ht9 d_PatternParser_parse_32 ?_
  refine lv_iconst (v := 0) S.1 S.2.1 d_PatternParser_parse_35 (by decide) ?_
  refine lv_iconst (v := 0) S.1 S.2.1 d_PatternParser_parse_36 (by decide) ?_
  obtain ⟨w10, hw10, hf⟩ := xb hf
  refine x_iast S hw hw10 d_PatternParser_parse_37 (fun H locs hw => ?_)
  refine lv_aload_n S.1 S.2.1 d_PatternParser_parse_38 rfl (lv_at hl 0 rfl) ?_
  obtain ⟨t11, ht11, hf⟩ := xb hf
  refine x_getr S hw lk_PatternParser_17 ht11 d_PatternParser_parse_39 ?_
  refine lv_iconst (v := 0) S.1 S.2.1 d_PatternParser_parse_42 (by decide) ?_
  refine lv_ldc (v := 1048576) S.1 S.2.1 S.2.2.2.1 (S.2.2.2.2 _ wd_3_75) d_PatternParser_parse_43 ?_
  obtain ⟨w12, hw12, hf⟩ := xb hf
  refine x_iast S hw hw12 d_PatternParser_parse_45 (fun H locs hw => ?_)
  refine lv_iconst (v := 0) S.1 S.2.1 d_PatternParser_parse_46 (by decide) ?_
  refine lv_istore_n (lv' := [(3, .int 0), (0, .ref a0), (1, .int x1), (2, .ref a2)]) S.1 S.2.1 d_PatternParser_parse_47 rfl hl (by decide) rfl (fun ls hl => ?_)
  exact w_PatternParser_parse_48 S hr hlocks  _ _ _ _ _ _ _ _ _ hw (lv_sub hl [1, 2, 3, 0] rfl) hf
def f_LawReader_pattern (a0 : Nat) (a1 : Nat) (ω : xS) : Option xS :=
  xc (xk ω a0 5 (f_LawReader_expect a0 4 ω)) fun t2 w3 =>
  if t2 = 0 then (
    some w3)
  else (
    (xgr w3 a0 5 1).bind fun t5 =>
    (xgr w3 a0 5 0).bind fun t6 =>
    (xgi w3 t6 10 2).bind fun t7 =>
    (xk w3 t5 6 (f_PatternParser_parse t5 t7 a1 w3)).bind fun w10 =>
    (xgr w10 a0 5 1).bind fun t11 =>
    (xgi w10 t11 6 10).bind fun t12 =>
    if t12 = 0 then (
      some w10)
    else (
      (xgr w10 a0 5 1).bind fun t14 =>
      (xgi w10 t14 6 10).bind fun t15 =>
      (xgr w10 a0 5 1).bind fun t16 =>
      (xgi w10 t16 6 11).bind fun t17 =>
      (xk w10 a0 5 (f_LawReader_refuse a0 t15 t17 w10)).bind fun w20 =>
      some w20))
set_option maxHeartbeats 4000000 in
set_option maxRecDepth 100000 in
theorem c_LawReader_pattern {l : Launch} {E : xV} {z : Nat} {a0 : Nat} {a1 : Nat} {ω1 : xS} {ω : xS} (hf : f_LawReader_pattern a0 a1 ω = some ω1) : xM l E y_LawReader_pattern ws_LawReader_pattern { frames := 4, cells := 0, slots := 0, locals := 100 } [.ref a0, .ref a1] z ω none z ω1 := by
  refine x_start (cc := b_LawReader_pattern) (maxL := 2) (ret := none) (by decide) rfl (Nat.le_of_ble_eq_true rfl) ?_
  intro p e s m below meth c S hr hlocks hin ls hl hw
  have hl : lv_has ls 2 [(0, .ref a0), (1, .ref a1)] := hl
  unfold f_LawReader_pattern at hf
  refine lv_aload_n S.1 S.2.1 d_LawReader_pattern_0 rfl (lv_at hl 0 rfl) ?_
  refine lv_iconst (v := 4) S.1 S.2.1 d_LawReader_pattern_1 (by decide) ?_
  obtain ⟨t2, w3, h1, hf⟩ := xcb hf
  obtain ⟨h1b, h1⟩ := xkb h1
  refine x_callV (As := [.int 4]) (rest := []) (st1 := [.int t2]) S hw (c_LawReader_expect h1) (cwV 1 S.2.2.2.2 gv_LawReader_94 rfl rfl rfl hd_LawReader_expect ⟨Nat.le_of_ble_eq_true rfl, Nat.le_of_ble_eq_true rfl⟩) rfl h1b rfl hl.1 rfl rfl (Nat.le_of_ble_eq_true rfl) d_LawReader_pattern_2 ⟨Nat.le_of_ble_eq_true rfl, Nat.le_of_ble_eq_true rfl⟩ (fun H locs hw => ?_)
  refine lv_if_ne (tgt := 9) S.1 S.2.1 d_LawReader_pattern_5 (by decide) (fun c4 => ?_) (fun c4 => ?_)
  · replace hf := xf c4 hf
    refine lv_aload_n S.1 S.2.1 d_LawReader_pattern_9 rfl (lv_at hl 0 rfl) ?_
    obtain ⟨t5, ht5, hf⟩ := xb hf
    refine x_getr S hw lk_LawReader_27 ht5 d_LawReader_pattern_10 ?_
    refine lv_aload_n S.1 S.2.1 d_LawReader_pattern_13 rfl (lv_at hl 0 rfl) ?_
    obtain ⟨t6, ht6, hf⟩ := xb hf
    refine x_getr S hw lk_LawReader_20 ht6 d_LawReader_pattern_14 ?_
    obtain ⟨t7, ht7, hf⟩ := xb hf
    refine x_geti S hw lk_LawReader_44 ht7 d_LawReader_pattern_17 ?_
    refine lv_aload_n S.1 S.2.1 d_LawReader_pattern_20 rfl (lv_at hl 1 rfl) ?_
    obtain ⟨w10, h8, hf⟩ := xb hf
    obtain ⟨h8b, h8⟩ := xkb h8
    refine x_callV (As := [.int t7, .ref a1]) (rest := []) (st1 := []) S hw (c_PatternParser_parse h8) (cwV 2 S.2.2.2.2 gv_LawReader_112 rfl rfl rfl hd_PatternParser_parse ⟨Nat.le_of_ble_eq_true rfl, Nat.le_of_ble_eq_true rfl⟩) rfl h8b rfl hl.1 rfl rfl (Nat.le_of_ble_eq_true rfl) d_LawReader_pattern_21 ⟨Nat.le_of_ble_eq_true rfl, Nat.le_of_ble_eq_true rfl⟩ (fun H locs hw => ?_)
    refine lv_aload_n S.1 S.2.1 d_LawReader_pattern_24 rfl (lv_at hl 0 rfl) ?_
    obtain ⟨t11, ht11, hf⟩ := xb hf
    refine x_getr S hw lk_LawReader_27 ht11 d_LawReader_pattern_25 ?_
    obtain ⟨t12, ht12, hf⟩ := xb hf
    refine x_geti S hw lk_LawReader_116 ht12 d_LawReader_pattern_28 ?_
    refine lv_if_eq (tgt := 52) S.1 S.2.1 d_LawReader_pattern_31 (by decide) (fun c13 => ?_) (fun c13 => ?_)
    · replace hf := xt c13 hf
      cases hf
      exact x_vret S hr hlocks hw d_LawReader_pattern_52
    · replace hf := xf c13 hf
      refine lv_aload_n S.1 S.2.1 d_LawReader_pattern_34 rfl (lv_at hl 0 rfl) ?_
      refine lv_aload_n S.1 S.2.1 d_LawReader_pattern_35 rfl (lv_at hl 0 rfl) ?_
      obtain ⟨t14, ht14, hf⟩ := xb hf
      refine x_getr S hw lk_LawReader_27 ht14 d_LawReader_pattern_36 ?_
      obtain ⟨t15, ht15, hf⟩ := xb hf
      refine x_geti S hw lk_LawReader_116 ht15 d_LawReader_pattern_39 ?_
      refine lv_aload_n S.1 S.2.1 d_LawReader_pattern_42 rfl (lv_at hl 0 rfl) ?_
      obtain ⟨t16, ht16, hf⟩ := xb hf
      refine x_getr S hw lk_LawReader_27 ht16 d_LawReader_pattern_43 ?_
      obtain ⟨t17, ht17, hf⟩ := xb hf
      refine x_geti S hw lk_LawReader_117 ht17 d_LawReader_pattern_46 ?_
      obtain ⟨w20, h18, hf⟩ := xb hf
      obtain ⟨h18b, h18⟩ := xkb h18
      refine x_callV (As := [.int t15, .int t17]) (rest := []) (st1 := []) S hw (c_LawReader_refuse h18) (cwV 2 S.2.2.2.2 gv_LawReader_47 rfl rfl rfl hd_LawReader_refuse ⟨Nat.le_of_ble_eq_true rfl, Nat.le_of_ble_eq_true rfl⟩) rfl h18b rfl hl.1 rfl rfl (Nat.le_of_ble_eq_true rfl) d_LawReader_pattern_49 ⟨Nat.le_of_ble_eq_true rfl, Nat.le_of_ble_eq_true rfl⟩ (fun H locs hw => ?_)
      cases hf
      exact x_vret S hr hlocks hw d_LawReader_pattern_52
  · replace hf := xt c4 hf
    cases hf
    exact x_vret S hr hlocks hw d_LawReader_pattern_8
def f_Tokens_namedLetter (a0 : Nat) (ω : xS) : Option Int32 :=
  (xgr ω a0 10 0).bind fun t1 =>
  (xgi ω a0 10 2).bind fun t2 =>
  (xk ω t1 9 (f_Tape_byteAt t1 t2 ω)).bind fun t4 =>
  (xgi ω a0 10 1).bind fun t5 =>
  if t5 = 2 then (
    (xgi ω a0 10 3).bind fun t7 =>
    (xgi ω a0 10 2).bind fun t8 =>
    if (t7 - t8) = 1 then (
      if 104 < t4 then (
        some 0)
      else (
        some ((t4 - 97) + 1)))
    else (
      some 0))
  else (
    some 0)
set_option maxHeartbeats 4000000 in
set_option maxRecDepth 100000 in
theorem c_Tokens_namedLetter {l : Launch} {E : xV} {z : Nat} {a0 : Nat} {r : Int32} {ω : xS} (hf : f_Tokens_namedLetter a0 ω = some r) : xM l E y_Tokens_namedLetter ws_Tokens_namedLetter { frames := 1, cells := 0, slots := 0, locals := 21 } [.ref a0] z ω (some (.int r)) z ω := by
  refine x_start (cc := b_Tokens_namedLetter) (maxL := 2) (ret := (some .int)) (by decide) rfl (Nat.le_of_ble_eq_true rfl) ?_
  intro p e s m below meth c S hr hlocks hin ls hl hw
  have hl : lv_has ls 2 [(0, .ref a0)] := hl
  unfold f_Tokens_namedLetter at hf
  refine lv_aload_n S.1 S.2.1 d_Tokens_namedLetter_0 rfl (lv_at hl 0 rfl) ?_
  obtain ⟨t1, ht1, hf⟩ := xb hf
  refine x_getr S hw lk_Tokens_9 ht1 d_Tokens_namedLetter_1 ?_
  refine lv_aload_n S.1 S.2.1 d_Tokens_namedLetter_4 rfl (lv_at hl 0 rfl) ?_
  obtain ⟨t2, ht2, hf⟩ := xb hf
  refine x_geti S hw lk_Tokens_19 ht2 d_Tokens_namedLetter_5 ?_
  obtain ⟨t4, h3, hf⟩ := xb hf
  obtain ⟨h3b, h3⟩ := xkb h3
  refine x_callV (As := [.int t2]) (rest := []) (st1 := [.int t4]) S hw (c_Tape_byteAt h3) (cwV 1 S.2.2.2.2 gv_Tokens_31 rfl rfl rfl hd_Tape_byteAt ⟨Nat.le_of_ble_eq_true rfl, Nat.le_of_ble_eq_true rfl⟩) rfl h3b rfl hl.1 rfl rfl (Nat.le_of_ble_eq_true rfl) d_Tokens_namedLetter_8 ⟨Nat.le_of_ble_eq_true rfl, Nat.le_of_ble_eq_true rfl⟩ (fun H locs hw => ?_)
  refine lv_istore_n (lv' := [(1, .int t4), (0, .ref a0)]) S.1 S.2.1 d_Tokens_namedLetter_11 rfl hl (by decide) rfl (fun ls hl => ?_)
  refine lv_aload_n S.1 S.2.1 d_Tokens_namedLetter_12 rfl (lv_at hl 1 rfl) ?_
  obtain ⟨t5, ht5, hf⟩ := xb hf
  refine x_geti S hw lk_Tokens_38 ht5 d_Tokens_namedLetter_13 ?_
  refine lv_iconst (v := 2) S.1 S.2.1 d_Tokens_namedLetter_16 (by decide) ?_
  refine lv_icmp_ne (tgt := 48) S.1 S.2.1 d_Tokens_namedLetter_17 (by decide) (fun c6 => ?_) (fun c6 => ?_)
  · replace hf := xf c6 hf
    refine lv_iconst (v := 0) S.1 S.2.1 d_Tokens_namedLetter_48 (by decide) ?_
    obtain rfl := xe1 hf
    exact x_iret S hr hlocks hw d_Tokens_namedLetter_49
  · replace hf := xt c6 hf
    refine lv_aload_n S.1 S.2.1 d_Tokens_namedLetter_20 rfl (lv_at hl 1 rfl) ?_
    obtain ⟨t7, ht7, hf⟩ := xb hf
    refine x_geti S hw lk_Tokens_15 ht7 d_Tokens_namedLetter_21 ?_
    refine lv_aload_n S.1 S.2.1 d_Tokens_namedLetter_24 rfl (lv_at hl 1 rfl) ?_
    obtain ⟨t8, ht8, hf⟩ := xb hf
    refine x_geti S hw lk_Tokens_19 ht8 d_Tokens_namedLetter_25 ?_
    refine lv_isub S.1 S.2.1 d_Tokens_namedLetter_28 ?_
    refine lv_iconst (v := 1) S.1 S.2.1 d_Tokens_namedLetter_29 (by decide) ?_
    refine lv_icmp_ne (tgt := 48) S.1 S.2.1 d_Tokens_namedLetter_30 (by decide) (fun c9 => ?_) (fun c9 => ?_)
    · replace hf := xf c9 hf
      refine lv_iconst (v := 0) S.1 S.2.1 d_Tokens_namedLetter_48 (by decide) ?_
      obtain rfl := xe1 hf
      exact x_iret S hr hlocks hw d_Tokens_namedLetter_49
    · replace hf := xt c9 hf
      refine lv_iload_n S.1 S.2.1 d_Tokens_namedLetter_33 rfl (lv_at hl 0 rfl) ?_
      refine lv_bipush (v := 104) S.1 S.2.1 d_Tokens_namedLetter_34 (by decide) ?_
      refine lv_icmp_gt (tgt := 48) S.1 S.2.1 d_Tokens_namedLetter_36 (by decide) (fun c10 => ?_) (fun c10 => ?_)
      · replace hf := xt c10 hf
        refine lv_iconst (v := 0) S.1 S.2.1 d_Tokens_namedLetter_48 (by decide) ?_
        obtain rfl := xe1 hf
        exact x_iret S hr hlocks hw d_Tokens_namedLetter_49
      · replace hf := xf c10 hf
        refine lv_iload_n S.1 S.2.1 d_Tokens_namedLetter_39 rfl (lv_at hl 0 rfl) ?_
        refine lv_bipush (v := 97) S.1 S.2.1 d_Tokens_namedLetter_40 (by decide) ?_
        refine lv_isub S.1 S.2.1 d_Tokens_namedLetter_42 ?_
        refine lv_iconst (v := 1) S.1 S.2.1 d_Tokens_namedLetter_43 (by decide) ?_
        refine lv_iadd S.1 S.2.1 d_Tokens_namedLetter_44 ?_
        refine lv_goto (tgt := 49) S.1 S.2.1 d_Tokens_namedLetter_45 (by decide) ?_
        obtain rfl := xe1 hf
        exact x_iret S hr hlocks hw d_Tokens_namedLetter_49
def f_LawReader_shiftLetter (a0 : Nat) (ω : xS) : Option (Int32 × xS) :=
  xc (xk ω a0 5 (f_LawReader_expect a0 2 ω)) fun t2 w3 =>
  if t2 = 0 then (
    some (0, w3))
  else (
    (xgr w3 a0 5 0).bind fun t5 =>
    (xk w3 t5 10 (f_Tokens_namedLetter t5  w3)).bind fun t7 =>
    if t7 = 0 then (
      (xgr w3 a0 5 0).bind fun t9 =>
      (xgi w3 t9 10 2).bind fun t10 =>
      (xk w3 a0 5 (f_LawReader_refuse a0 2 t10 w3)).bind fun w13 =>
      some (t7, w13))
    else (
      some (t7, w3)))
set_option maxHeartbeats 4000000 in
set_option maxRecDepth 100000 in
theorem c_LawReader_shiftLetter {l : Launch} {E : xV} {z : Nat} {a0 : Nat} {r : Int32} {ω1 : xS} {ω : xS} (hf : f_LawReader_shiftLetter a0 ω = some (r, ω1)) : xM l E y_LawReader_shiftLetter ws_LawReader_shiftLetter { frames := 4, cells := 0, slots := 0, locals := 86 } [.ref a0] z ω (some (.int r)) z ω1 := by
  refine x_start (cc := b_LawReader_shiftLetter) (maxL := 2) (ret := (some .int)) (by decide) rfl (Nat.le_of_ble_eq_true rfl) ?_
  intro p e s m below meth c S hr hlocks hin ls hl hw
  have hl : lv_has ls 2 [(0, .ref a0)] := hl
  unfold f_LawReader_shiftLetter at hf
  refine lv_aload_n S.1 S.2.1 d_LawReader_shiftLetter_0 rfl (lv_at hl 0 rfl) ?_
  refine lv_iconst (v := 2) S.1 S.2.1 d_LawReader_shiftLetter_1 (by decide) ?_
  obtain ⟨t2, w3, h1, hf⟩ := xcb hf
  obtain ⟨h1b, h1⟩ := xkb h1
  refine x_callV (As := [.int 2]) (rest := []) (st1 := [.int t2]) S hw (c_LawReader_expect h1) (cwV 1 S.2.2.2.2 gv_LawReader_94 rfl rfl rfl hd_LawReader_expect ⟨Nat.le_of_ble_eq_true rfl, Nat.le_of_ble_eq_true rfl⟩) rfl h1b rfl hl.1 rfl rfl (Nat.le_of_ble_eq_true rfl) d_LawReader_shiftLetter_2 ⟨Nat.le_of_ble_eq_true rfl, Nat.le_of_ble_eq_true rfl⟩ (fun H locs hw => ?_)
  refine lv_if_ne (tgt := 10) S.1 S.2.1 d_LawReader_shiftLetter_5 (by decide) (fun c4 => ?_) (fun c4 => ?_)
  · replace hf := xf c4 hf
    refine lv_aload_n S.1 S.2.1 d_LawReader_shiftLetter_10 rfl (lv_at hl 0 rfl) ?_
    obtain ⟨t5, ht5, hf⟩ := xb hf
    refine x_getr S hw lk_LawReader_20 ht5 d_LawReader_shiftLetter_11 ?_
    obtain ⟨t7, h6, hf⟩ := xb hf
    obtain ⟨h6b, h6⟩ := xkb h6
    refine x_callV (As := []) (rest := []) (st1 := [.int t7]) S hw (c_Tokens_namedLetter h6) (cwV 0 S.2.2.2.2 gv_LawReader_109 rfl rfl rfl hd_Tokens_namedLetter ⟨Nat.le_of_ble_eq_true rfl, Nat.le_of_ble_eq_true rfl⟩) rfl h6b rfl hl.1 rfl rfl (Nat.le_of_ble_eq_true rfl) d_LawReader_shiftLetter_14 ⟨Nat.le_of_ble_eq_true rfl, Nat.le_of_ble_eq_true rfl⟩ (fun H locs hw => ?_)
    refine lv_istore_n (lv' := [(1, .int t7), (0, .ref a0)]) S.1 S.2.1 d_LawReader_shiftLetter_17 rfl hl (by decide) rfl (fun ls hl => ?_)
    refine lv_iload_n S.1 S.2.1 d_LawReader_shiftLetter_18 rfl (lv_at hl 0 rfl) ?_
    refine lv_if_ne (tgt := 34) S.1 S.2.1 d_LawReader_shiftLetter_19 (by decide) (fun c8 => ?_) (fun c8 => ?_)
    · replace hf := xf c8 hf
      refine lv_iload_n S.1 S.2.1 d_LawReader_shiftLetter_34 rfl (lv_at hl 0 rfl) ?_
      obtain ⟨rfl, rfl⟩ := xe2 hf
      exact x_iret S hr hlocks hw d_LawReader_shiftLetter_35
    · replace hf := xt c8 hf
      refine lv_aload_n S.1 S.2.1 d_LawReader_shiftLetter_22 rfl (lv_at hl 1 rfl) ?_
      refine lv_iconst (v := 2) S.1 S.2.1 d_LawReader_shiftLetter_23 (by decide) ?_
      refine lv_aload_n S.1 S.2.1 d_LawReader_shiftLetter_24 rfl (lv_at hl 1 rfl) ?_
      obtain ⟨t9, ht9, hf⟩ := xb hf
      refine x_getr S hw lk_LawReader_20 ht9 d_LawReader_shiftLetter_25 ?_
      obtain ⟨t10, ht10, hf⟩ := xb hf
      refine x_geti S hw lk_LawReader_44 ht10 d_LawReader_shiftLetter_28 ?_
      obtain ⟨w13, h11, hf⟩ := xb hf
      obtain ⟨h11b, h11⟩ := xkb h11
      refine x_callV (As := [.int 2, .int t10]) (rest := []) (st1 := []) S hw (c_LawReader_refuse h11) (cwV 2 S.2.2.2.2 gv_LawReader_47 rfl rfl rfl hd_LawReader_refuse ⟨Nat.le_of_ble_eq_true rfl, Nat.le_of_ble_eq_true rfl⟩) rfl h11b rfl hl.1 rfl rfl (Nat.le_of_ble_eq_true rfl) d_LawReader_shiftLetter_31 ⟨Nat.le_of_ble_eq_true rfl, Nat.le_of_ble_eq_true rfl⟩ (fun H locs hw => ?_)
      refine lv_iload_n S.1 S.2.1 d_LawReader_shiftLetter_34 rfl (lv_at hl 0 rfl) ?_
      obtain ⟨rfl, rfl⟩ := xe2 hf
      exact x_iret S hr hlocks hw d_LawReader_shiftLetter_35
  · replace hf := xt c4 hf
    refine lv_iconst (v := 0) S.1 S.2.1 d_LawReader_shiftLetter_8 (by decide) ?_
    obtain ⟨rfl, rfl⟩ := xe2 hf
    exact x_iret S hr hlocks hw d_LawReader_shiftLetter_9
def f_Roster_setCell (a0 : Nat) (x1 : Int32) (x2 : Int32) (x3 : Int32) (ω : xS) : Option xS :=
  (xk ω a0 8 (f_Roster_letterOf a0 x1 x2 ω)).bind fun t2 =>
  (xgr ω a0 8 6).bind fun t3 =>
  (xar ω 2 t3 x1).bind fun t4 =>
  (xsi ω t4 (7 + x2) x3).bind fun w5 =>
  (xgr w5 a0 8 9).bind fun t6 =>
  (xar w5 2 t6 x1).bind fun t7 =>
  (xai w5 t7 t2).bind fun t8 =>
  (xsi w5 t7 t2 (t8 - 1)).bind fun w9 =>
  (xgr w9 a0 8 10).bind fun t10 =>
  (xar w9 2 t10 x2).bind fun t11 =>
  (xai w9 t11 t2).bind fun t12 =>
  (xsi w9 t11 t2 (t12 - 1)).bind fun w13 =>
  (xgr w13 a0 8 9).bind fun t14 =>
  (xar w13 2 t14 x1).bind fun t15 =>
  (xai w13 t15 x3).bind fun t16 =>
  (xsi w13 t15 x3 (t16 + 1)).bind fun w17 =>
  (xgr w17 a0 8 10).bind fun t18 =>
  (xar w17 2 t18 x2).bind fun t19 =>
  (xai w17 t19 x3).bind fun t20 =>
  (xsi w17 t19 x3 (t20 + 1)).bind fun w21 =>
  (xgi w21 a0 8 11).bind fun t22 =>
  if x3 = 0 then (
    if t2 = 0 then (
      (xp w21 a0 8 11 (.int (t22 + (0 - 0)))).bind fun w29 =>
      some w29)
    else (
      (xp w21 a0 8 11 (.int (t22 + (0 - 1)))).bind fun w28 =>
      some w28))
  else (
    if t2 = 0 then (
      (xp w21 a0 8 11 (.int (t22 + (1 - 0)))).bind fun w26 =>
      some w26)
    else (
      (xp w21 a0 8 11 (.int (t22 + (1 - 1)))).bind fun w25 =>
      some w25))
set_option maxHeartbeats 4000000 in
set_option maxRecDepth 100000 in
theorem c_Roster_setCell {l : Launch} {E : xV} {z : Nat} {a0 : Nat} {x1 : Int32} {x2 : Int32} {x3 : Int32} {ω1 : xS} {ω : xS} (hf : f_Roster_setCell a0 x1 x2 x3 ω = some ω1) : xM l E y_Roster_setCell ws_Roster_setCell { frames := 1, cells := 0, slots := 0, locals := 22 } [.ref a0, .int x1, .int x2, .int x3] z ω none z ω1 := by
  refine x_start (cc := b_Roster_setCell) (maxL := 5) (ret := none) (by decide) rfl (Nat.le_of_ble_eq_true rfl) ?_
  intro p e s m below meth c S hr hlocks hin ls hl hw
  have hl : lv_has ls 5 [(0, .ref a0), (1, .int x1), (2, .int x2), (3, .int x3)] := hl
  unfold f_Roster_setCell at hf
  refine lv_aload_n S.1 S.2.1 d_Roster_setCell_0 rfl (lv_at hl 0 rfl) ?_
  refine lv_iload_n S.1 S.2.1 d_Roster_setCell_1 rfl (lv_at hl 1 rfl) ?_
  refine lv_iload_n S.1 S.2.1 d_Roster_setCell_2 rfl (lv_at hl 2 rfl) ?_
  obtain ⟨t2, h1, hf⟩ := xb hf
  obtain ⟨h1b, h1⟩ := xkb h1
  refine x_callV (As := [.int x1, .int x2]) (rest := []) (st1 := [.int t2]) S hw (c_Roster_letterOf h1) (cwV 2 S.2.2.2.2 gv_Roster_48 rfl rfl rfl hd_Roster_letterOf ⟨Nat.le_of_ble_eq_true rfl, Nat.le_of_ble_eq_true rfl⟩) rfl h1b rfl hl.1 rfl rfl (Nat.le_of_ble_eq_true rfl) d_Roster_setCell_3 ⟨Nat.le_of_ble_eq_true rfl, Nat.le_of_ble_eq_true rfl⟩ (fun H locs hw => ?_)
  refine lv_istore (lv' := [(4, .int t2), (0, .ref a0), (1, .int x1), (2, .int x2), (3, .int x3)]) S.1 S.2.1 d_Roster_setCell_6 hl (by decide) rfl (fun ls hl => ?_)
  refine lv_aload_n S.1 S.2.1 d_Roster_setCell_8 rfl (lv_at hl 1 rfl) ?_
  obtain ⟨t3, ht3, hf⟩ := xb hf
  refine x_getr S hw lk_Roster_33 ht3 d_Roster_setCell_9 ?_
  refine lv_iload_n S.1 S.2.1 d_Roster_setCell_12 rfl (lv_at hl 2 rfl) ?_
  obtain ⟨t4, ht4, hf⟩ := xb hf
  refine x_aald S hw (t := 2) rfl rfl ht4 d_Roster_setCell_13 ?_
  refine lv_bipush (v := 7) S.1 S.2.1 d_Roster_setCell_14 (by decide) ?_
  refine lv_iload_n S.1 S.2.1 d_Roster_setCell_16 rfl (lv_at hl 3 rfl) ?_
  refine lv_iadd S.1 S.2.1 d_Roster_setCell_17 ?_
  refine lv_iload_n S.1 S.2.1 d_Roster_setCell_18 rfl (lv_at hl 4 rfl) ?_
  obtain ⟨w5, hw5, hf⟩ := xb hf
  refine x_iast S hw hw5 d_Roster_setCell_19 (fun H locs hw => ?_)
  refine lv_aload_n S.1 S.2.1 d_Roster_setCell_20 rfl (lv_at hl 1 rfl) ?_
  obtain ⟨t6, ht6, hf⟩ := xb hf
  refine x_getr S hw lk_Roster_42 ht6 d_Roster_setCell_21 ?_
  refine lv_iload_n S.1 S.2.1 d_Roster_setCell_24 rfl (lv_at hl 2 rfl) ?_
  obtain ⟨t7, ht7, hf⟩ := xb hf
  refine x_aald S hw (t := 2) rfl rfl ht7 d_Roster_setCell_25 ?_
  refine lv_iload S.1 S.2.1 d_Roster_setCell_26 (lv_at hl 0 rfl) ?_
  refine lv_dup2_11 S.1 S.2.1 d_Roster_setCell_28 rfl rfl ?_
  obtain ⟨t8, ht8, hf⟩ := xb hf
  refine x_iald S hw ht8 d_Roster_setCell_29 ?_
  refine lv_iconst (v := 1) S.1 S.2.1 d_Roster_setCell_30 (by decide) ?_
  refine lv_isub S.1 S.2.1 d_Roster_setCell_31 ?_
  obtain ⟨w9, hw9, hf⟩ := xb hf
  refine x_iast S hw hw9 d_Roster_setCell_32 (fun H locs hw => ?_)
  refine lv_aload_n S.1 S.2.1 d_Roster_setCell_33 rfl (lv_at hl 1 rfl) ?_
  obtain ⟨t10, ht10, hf⟩ := xb hf
  refine x_getr S hw lk_Roster_45 ht10 d_Roster_setCell_34 ?_
  refine lv_iload_n S.1 S.2.1 d_Roster_setCell_37 rfl (lv_at hl 3 rfl) ?_
  obtain ⟨t11, ht11, hf⟩ := xb hf
  refine x_aald S hw (t := 2) rfl rfl ht11 d_Roster_setCell_38 ?_
  refine lv_iload S.1 S.2.1 d_Roster_setCell_39 (lv_at hl 0 rfl) ?_
  refine lv_dup2_11 S.1 S.2.1 d_Roster_setCell_41 rfl rfl ?_
  obtain ⟨t12, ht12, hf⟩ := xb hf
  refine x_iald S hw ht12 d_Roster_setCell_42 ?_
  refine lv_iconst (v := 1) S.1 S.2.1 d_Roster_setCell_43 (by decide) ?_
  refine lv_isub S.1 S.2.1 d_Roster_setCell_44 ?_
  obtain ⟨w13, hw13, hf⟩ := xb hf
  refine x_iast S hw hw13 d_Roster_setCell_45 (fun H locs hw => ?_)
  refine lv_aload_n S.1 S.2.1 d_Roster_setCell_46 rfl (lv_at hl 1 rfl) ?_
  obtain ⟨t14, ht14, hf⟩ := xb hf
  refine x_getr S hw lk_Roster_42 ht14 d_Roster_setCell_47 ?_
  refine lv_iload_n S.1 S.2.1 d_Roster_setCell_50 rfl (lv_at hl 2 rfl) ?_
  obtain ⟨t15, ht15, hf⟩ := xb hf
  refine x_aald S hw (t := 2) rfl rfl ht15 d_Roster_setCell_51 ?_
  refine lv_iload_n S.1 S.2.1 d_Roster_setCell_52 rfl (lv_at hl 4 rfl) ?_
  refine lv_dup2_11 S.1 S.2.1 d_Roster_setCell_53 rfl rfl ?_
  obtain ⟨t16, ht16, hf⟩ := xb hf
  refine x_iald S hw ht16 d_Roster_setCell_54 ?_
  refine lv_iconst (v := 1) S.1 S.2.1 d_Roster_setCell_55 (by decide) ?_
  refine lv_iadd S.1 S.2.1 d_Roster_setCell_56 ?_
  obtain ⟨w17, hw17, hf⟩ := xb hf
  refine x_iast S hw hw17 d_Roster_setCell_57 (fun H locs hw => ?_)
  refine lv_aload_n S.1 S.2.1 d_Roster_setCell_58 rfl (lv_at hl 1 rfl) ?_
  obtain ⟨t18, ht18, hf⟩ := xb hf
  refine x_getr S hw lk_Roster_45 ht18 d_Roster_setCell_59 ?_
  refine lv_iload_n S.1 S.2.1 d_Roster_setCell_62 rfl (lv_at hl 3 rfl) ?_
  obtain ⟨t19, ht19, hf⟩ := xb hf
  refine x_aald S hw (t := 2) rfl rfl ht19 d_Roster_setCell_63 ?_
  refine lv_iload_n S.1 S.2.1 d_Roster_setCell_64 rfl (lv_at hl 4 rfl) ?_
  refine lv_dup2_11 S.1 S.2.1 d_Roster_setCell_65 rfl rfl ?_
  obtain ⟨t20, ht20, hf⟩ := xb hf
  refine x_iald S hw ht20 d_Roster_setCell_66 ?_
  refine lv_iconst (v := 1) S.1 S.2.1 d_Roster_setCell_67 (by decide) ?_
  refine lv_iadd S.1 S.2.1 d_Roster_setCell_68 ?_
  obtain ⟨w21, hw21, hf⟩ := xb hf
  refine x_iast S hw hw21 d_Roster_setCell_69 (fun H locs hw => ?_)
  refine lv_aload_n S.1 S.2.1 d_Roster_setCell_70 rfl (lv_at hl 1 rfl) ?_
  refine lv_dup S.1 S.2.1 d_Roster_setCell_71 rfl ?_
  obtain ⟨t22, ht22, hf⟩ := xb hf
  refine x_geti S hw lk_Roster_52 ht22 d_Roster_setCell_72 ?_
  refine lv_iload_n S.1 S.2.1 d_Roster_setCell_75 rfl (lv_at hl 4 rfl) ?_
  refine lv_if_ne (tgt := 83) S.1 S.2.1 d_Roster_setCell_76 (by decide) (fun c23 => ?_) (fun c23 => ?_)
  · replace hf := xf c23 hf
    refine lv_iconst (v := 1) S.1 S.2.1 d_Roster_setCell_83 (by decide) ?_
    refine lv_iload S.1 S.2.1 d_Roster_setCell_84 (lv_at hl 0 rfl) ?_
    refine lv_if_ne (tgt := 93) S.1 S.2.1 d_Roster_setCell_86 (by decide) (fun c24 => ?_) (fun c24 => ?_)
    · replace hf := xf c24 hf
      refine lv_iconst (v := 1) S.1 S.2.1 d_Roster_setCell_93 (by decide) ?_
      refine lv_isub S.1 S.2.1 d_Roster_setCell_94 ?_
      refine lv_iadd S.1 S.2.1 d_Roster_setCell_95 ?_
      obtain ⟨w25, hw25, hf⟩ := xb hf
      refine x_puti S hw lp_Roster_52 hw25 d_Roster_setCell_96 (fun H locs hw => ?_)
      cases hf
      exact x_vret S hr hlocks hw d_Roster_setCell_99
    · replace hf := xt c24 hf
      refine lv_iconst (v := 0) S.1 S.2.1 d_Roster_setCell_89 (by decide) ?_
      refine lv_goto (tgt := 94) S.1 S.2.1 d_Roster_setCell_90 (by decide) ?_
      refine lv_isub S.1 S.2.1 d_Roster_setCell_94 ?_
      refine lv_iadd S.1 S.2.1 d_Roster_setCell_95 ?_
      obtain ⟨w26, hw26, hf⟩ := xb hf
      refine x_puti S hw lp_Roster_52 hw26 d_Roster_setCell_96 (fun H locs hw => ?_)
      cases hf
      exact x_vret S hr hlocks hw d_Roster_setCell_99
  · replace hf := xt c23 hf
    refine lv_iconst (v := 0) S.1 S.2.1 d_Roster_setCell_79 (by decide) ?_
    refine lv_goto (tgt := 84) S.1 S.2.1 d_Roster_setCell_80 (by decide) ?_
    refine lv_iload S.1 S.2.1 d_Roster_setCell_84 (lv_at hl 0 rfl) ?_
    refine lv_if_ne (tgt := 93) S.1 S.2.1 d_Roster_setCell_86 (by decide) (fun c27 => ?_) (fun c27 => ?_)
    · replace hf := xf c27 hf
      refine lv_iconst (v := 1) S.1 S.2.1 d_Roster_setCell_93 (by decide) ?_
      refine lv_isub S.1 S.2.1 d_Roster_setCell_94 ?_
      refine lv_iadd S.1 S.2.1 d_Roster_setCell_95 ?_
      obtain ⟨w28, hw28, hf⟩ := xb hf
      refine x_puti S hw lp_Roster_52 hw28 d_Roster_setCell_96 (fun H locs hw => ?_)
      cases hf
      exact x_vret S hr hlocks hw d_Roster_setCell_99
    · replace hf := xt c27 hf
      refine lv_iconst (v := 0) S.1 S.2.1 d_Roster_setCell_89 (by decide) ?_
      refine lv_goto (tgt := 94) S.1 S.2.1 d_Roster_setCell_90 (by decide) ?_
      refine lv_isub S.1 S.2.1 d_Roster_setCell_94 ?_
      refine lv_iadd S.1 S.2.1 d_Roster_setCell_95 ?_
      obtain ⟨w29, hw29, hf⟩ := xb hf
      refine x_puti S hw lp_Roster_52 hw29 d_Roster_setCell_96 (fun H locs hw => ?_)
      cases hf
      exact x_vret S hr hlocks hw d_Roster_setCell_99
def f_Roster_setWish_31 (a0 : Nat) (x1 : Int32) (x2 : Int32) (x3 : Int32) (x4 : Int32) (y0 : Int32) (y1 : Int32) (y2 : Int32) (y3 : Nat) (ω : xS) : Option xS :=
  (xp ω y3 8 12 (.int (y2 + (y1 - y0)))).bind fun w11 =>
  (xgr w11 a0 8 7).bind fun t12 =>
  (xar w11 2 t12 x1).bind fun t13 =>
  (xsi w11 t13 x2 x3).bind fun w14 =>
  (xgr w14 a0 8 8).bind fun t15 =>
  (xar w14 2 t15 x1).bind fun t16 =>
  (xsi w14 t16 x2 x4).bind fun w17 =>
  some w17
set_option maxHeartbeats 4000000 in
set_option maxRecDepth 100000 in
theorem w_Roster_setWish_31 {p : Program} {l : Launch} {e : Env} {s : State} {m : MethodId} {args : Array Value} {below : List Frame} {meth : Method} {c : Code} {E : xV} {z : Nat} {ω1 : xS} (S : CallFix p m c b_Roster_setWish 5 s args xTbl "RosterRules$Roster") (hr : meth.sig.returnType = none) (hlocks : meth.locks = false) : ∀ (a0 : Nat) (x1 : Int32) (x2 : Int32) (x3 : Int32) (x4 : Int32) (y0 : Int32) (y1 : Int32) (y2 : Int32) (y3 : Nat) (ω : xS) (H : Heap) (locs : List Loc) (ls : Array Slot), xW E z ω s s.heap H locs → lv_has ls 5 [(0, .ref a0), (1, .int x1), (2, .int x2), (3, .int x3), (4, .int x4)] → f_Roster_setWish_31 a0 x1 x2 x3 x4 y0 y1 y2 y3 ω = some ω1 → W p l e (headSpec ws_Roster_setWish { frames := 0, cells := 0, slots := 0, locals := 0 }).room s m args below meth c H locs 0 0 (MQ below (xQ E none z ω1) args s 0 0 (fun q => E.2.2 ≤ q)) (F0 m 31 ls [.int y0, .int y1, .int y2, .ref y3]) := by
  intro a0 x1 x2 x3 x4 y0 y1 y2 y3 ω H locs ls hw hl hf
  unfold f_Roster_setWish_31 at hf
  refine lv_isub S.1 S.2.1 d_Roster_setWish_31 ?_
  refine lv_iadd S.1 S.2.1 d_Roster_setWish_32 ?_
  obtain ⟨w11, hw11, hf⟩ := xb hf
  refine x_puti S hw lp_Roster_55 hw11 d_Roster_setWish_33 (fun H locs hw => ?_)
  refine lv_aload_n S.1 S.2.1 d_Roster_setWish_36 rfl (lv_at hl 0 rfl) ?_
  obtain ⟨t12, ht12, hf⟩ := xb hf
  refine x_getr S hw lk_Roster_36 ht12 d_Roster_setWish_37 ?_
  refine lv_iload_n S.1 S.2.1 d_Roster_setWish_40 rfl (lv_at hl 1 rfl) ?_
  obtain ⟨t13, ht13, hf⟩ := xb hf
  refine x_aald S hw (t := 2) rfl rfl ht13 d_Roster_setWish_41 ?_
  refine lv_iload_n S.1 S.2.1 d_Roster_setWish_42 rfl (lv_at hl 2 rfl) ?_
  refine lv_iload_n S.1 S.2.1 d_Roster_setWish_43 rfl (lv_at hl 3 rfl) ?_
  obtain ⟨w14, hw14, hf⟩ := xb hf
  refine x_iast S hw hw14 d_Roster_setWish_44 (fun H locs hw => ?_)
  refine lv_aload_n S.1 S.2.1 d_Roster_setWish_45 rfl (lv_at hl 0 rfl) ?_
  obtain ⟨t15, ht15, hf⟩ := xb hf
  refine x_getr S hw lk_Roster_39 ht15 d_Roster_setWish_46 ?_
  refine lv_iload_n S.1 S.2.1 d_Roster_setWish_49 rfl (lv_at hl 1 rfl) ?_
  obtain ⟨t16, ht16, hf⟩ := xb hf
  refine x_aald S hw (t := 2) rfl rfl ht16 d_Roster_setWish_50 ?_
  refine lv_iload_n S.1 S.2.1 d_Roster_setWish_51 rfl (lv_at hl 2 rfl) ?_
  refine lv_iload S.1 S.2.1 d_Roster_setWish_52 (lv_at hl 4 rfl) ?_
  obtain ⟨w17, hw17, hf⟩ := xb hf
  refine x_iast S hw hw17 d_Roster_setWish_54 (fun H locs hw => ?_)
  cases hf
  exact x_vret S hr hlocks hw d_Roster_setWish_55
def f_Roster_setWish (a0 : Nat) (x1 : Int32) (x2 : Int32) (x3 : Int32) (x4 : Int32) (ω : xS) : Option xS :=
  (xgi ω a0 8 12).bind fun t1 =>
  if x4 = 0 then (
    (xgr ω a0 8 8).bind fun t7 =>
    (xar ω 2 t7 x1).bind fun t8 =>
    (xai ω t8 x2).bind fun t9 =>
    if t9 = 0 then (
      f_Roster_setWish_31  a0 x1 x2 x3 x4 0 0 t1 a0 ω)
    else (
      f_Roster_setWish_31  a0 x1 x2 x3 x4 1 0 t1 a0 ω))
  else (
    (xgr ω a0 8 8).bind fun t3 =>
    (xar ω 2 t3 x1).bind fun t4 =>
    (xai ω t4 x2).bind fun t5 =>
    if t5 = 0 then (
      f_Roster_setWish_31  a0 x1 x2 x3 x4 0 1 t1 a0 ω)
    else (
      f_Roster_setWish_31  a0 x1 x2 x3 x4 1 1 t1 a0 ω))
set_option maxHeartbeats 4000000 in
set_option maxRecDepth 100000 in
theorem c_Roster_setWish {l : Launch} {E : xV} {z : Nat} {a0 : Nat} {x1 : Int32} {x2 : Int32} {x3 : Int32} {x4 : Int32} {ω1 : xS} {ω : xS} (hf : f_Roster_setWish a0 x1 x2 x3 x4 ω = some ω1) : xM l E y_Roster_setWish ws_Roster_setWish { frames := 0, cells := 0, slots := 0, locals := 0 } [.ref a0, .int x1, .int x2, .int x3, .int x4] z ω none z ω1 := by
  refine x_start (cc := b_Roster_setWish) (maxL := 5) (ret := none) (by decide) rfl (Nat.le_of_ble_eq_true rfl) ?_
  intro p e s m below meth c S hr hlocks hin ls hl hw
  have hl : lv_has ls 5 [(0, .ref a0), (1, .int x1), (2, .int x2), (3, .int x3), (4, .int x4)] := hl
  unfold f_Roster_setWish at hf
  refine lv_aload_n S.1 S.2.1 d_Roster_setWish_0 rfl (lv_at hl 0 rfl) ?_
  refine lv_dup S.1 S.2.1 d_Roster_setWish_1 rfl ?_
  obtain ⟨t1, ht1, hf⟩ := xb hf
  refine x_geti S hw lk_Roster_55 ht1 d_Roster_setWish_2 ?_
  refine lv_iload S.1 S.2.1 d_Roster_setWish_5 (lv_at hl 4 rfl) ?_
  refine lv_if_ne (tgt := 14) S.1 S.2.1 d_Roster_setWish_7 (by decide) (fun c2 => ?_) (fun c2 => ?_)
  · replace hf := xf c2 hf
    refine lv_iconst (v := 1) S.1 S.2.1 d_Roster_setWish_14 (by decide) ?_
    refine lv_aload_n S.1 S.2.1 d_Roster_setWish_15 rfl (lv_at hl 0 rfl) ?_
    obtain ⟨t3, ht3, hf⟩ := xb hf
    refine x_getr S hw lk_Roster_39 ht3 d_Roster_setWish_16 ?_
    refine lv_iload_n S.1 S.2.1 d_Roster_setWish_19 rfl (lv_at hl 1 rfl) ?_
    obtain ⟨t4, ht4, hf⟩ := xb hf
    refine x_aald S hw (t := 2) rfl rfl ht4 d_Roster_setWish_20 ?_
    refine lv_iload_n S.1 S.2.1 d_Roster_setWish_21 rfl (lv_at hl 2 rfl) ?_
    obtain ⟨t5, ht5, hf⟩ := xb hf
    refine x_iald S hw ht5 d_Roster_setWish_22 ?_
    refine lv_if_ne (tgt := 30) S.1 S.2.1 d_Roster_setWish_23 (by decide) (fun c6 => ?_) (fun c6 => ?_)
    · replace hf := xf c6 hf
      refine lv_iconst (v := 1) S.1 S.2.1 d_Roster_setWish_30 (by decide) ?_
      exact w_Roster_setWish_31 S hr hlocks  _ _ _ _ _ _ _ _ _ _ _ _ _ hw (lv_sub hl [0, 1, 2, 3, 4] rfl) hf
    · replace hf := xt c6 hf
      refine lv_iconst (v := 0) S.1 S.2.1 d_Roster_setWish_26 (by decide) ?_
      refine lv_goto (tgt := 31) S.1 S.2.1 d_Roster_setWish_27 (by decide) ?_
      exact w_Roster_setWish_31 S hr hlocks  _ _ _ _ _ _ _ _ _ _ _ _ _ hw (lv_sub hl [0, 1, 2, 3, 4] rfl) hf
  · replace hf := xt c2 hf
    refine lv_iconst (v := 0) S.1 S.2.1 d_Roster_setWish_10 (by decide) ?_
    refine lv_goto (tgt := 15) S.1 S.2.1 d_Roster_setWish_11 (by decide) ?_
    refine lv_aload_n S.1 S.2.1 d_Roster_setWish_15 rfl (lv_at hl 0 rfl) ?_
    obtain ⟨t7, ht7, hf⟩ := xb hf
    refine x_getr S hw lk_Roster_39 ht7 d_Roster_setWish_16 ?_
    refine lv_iload_n S.1 S.2.1 d_Roster_setWish_19 rfl (lv_at hl 1 rfl) ?_
    obtain ⟨t8, ht8, hf⟩ := xb hf
    refine x_aald S hw (t := 2) rfl rfl ht8 d_Roster_setWish_20 ?_
    refine lv_iload_n S.1 S.2.1 d_Roster_setWish_21 rfl (lv_at hl 2 rfl) ?_
    obtain ⟨t9, ht9, hf⟩ := xb hf
    refine x_iald S hw ht9 d_Roster_setWish_22 ?_
    refine lv_if_ne (tgt := 30) S.1 S.2.1 d_Roster_setWish_23 (by decide) (fun c10 => ?_) (fun c10 => ?_)
    · replace hf := xf c10 hf
      refine lv_iconst (v := 1) S.1 S.2.1 d_Roster_setWish_30 (by decide) ?_
      exact w_Roster_setWish_31 S hr hlocks  _ _ _ _ _ _ _ _ _ _ _ _ _ hw (lv_sub hl [0, 1, 2, 3, 4] rfl) hf
    · replace hf := xt c10 hf
      refine lv_iconst (v := 0) S.1 S.2.1 d_Roster_setWish_26 (by decide) ?_
      refine lv_goto (tgt := 31) S.1 S.2.1 d_Roster_setWish_27 (by decide) ?_
      exact w_Roster_setWish_31 S hr hlocks  _ _ _ _ _ _ _ _ _ _ _ _ _ hw (lv_sub hl [0, 1, 2, 3, 4] rfl) hf
def f_Roster_wishCost (a0 : Nat) (x1 : Int32) (x2 : Int32) (ω : xS) : Option Int64 :=
  (xk ω a0 8 (f_Roster_letterOf a0 x1 x2 ω)).bind fun t2 =>
  (xgr ω a0 8 7).bind fun t3 =>
  (xar ω 2 t3 x1).bind fun t4 =>
  (xai ω t4 x2).bind fun t5 =>
  if t2 = t5 then (
    some 0)
  else (
    (xgr ω a0 8 8).bind fun t7 =>
    (xar ω 2 t7 x1).bind fun t8 =>
    (xai ω t8 x2).bind fun t9 =>
    some (Int32.toInt64 t9))
set_option maxHeartbeats 4000000 in
set_option maxRecDepth 100000 in
theorem c_Roster_wishCost {l : Launch} {E : xV} {z : Nat} {a0 : Nat} {x1 : Int32} {x2 : Int32} {r : Int64} {ω : xS} (hf : f_Roster_wishCost a0 x1 x2 ω = some r) : xM l E y_Roster_wishCost ws_Roster_wishCost { frames := 1, cells := 0, slots := 0, locals := 22 } [.ref a0, .int x1, .int x2] z ω (some (.long r)) z ω := by
  refine x_start (cc := b_Roster_wishCost) (maxL := 3) (ret := (some .long)) (by decide) rfl (Nat.le_of_ble_eq_true rfl) ?_
  intro p e s m below meth c S hr hlocks hin ls hl hw
  have hl : lv_has ls 3 [(0, .ref a0), (1, .int x1), (2, .int x2)] := hl
  unfold f_Roster_wishCost at hf
  refine lv_aload_n S.1 S.2.1 d_Roster_wishCost_0 rfl (lv_at hl 0 rfl) ?_
  refine lv_iload_n S.1 S.2.1 d_Roster_wishCost_1 rfl (lv_at hl 1 rfl) ?_
  refine lv_iload_n S.1 S.2.1 d_Roster_wishCost_2 rfl (lv_at hl 2 rfl) ?_
  obtain ⟨t2, h1, hf⟩ := xb hf
  obtain ⟨h1b, h1⟩ := xkb h1
  refine x_callV (As := [.int x1, .int x2]) (rest := []) (st1 := [.int t2]) S hw (c_Roster_letterOf h1) (cwV 2 S.2.2.2.2 gv_Roster_48 rfl rfl rfl hd_Roster_letterOf ⟨Nat.le_of_ble_eq_true rfl, Nat.le_of_ble_eq_true rfl⟩) rfl h1b rfl hl.1 rfl rfl (Nat.le_of_ble_eq_true rfl) d_Roster_wishCost_3 ⟨Nat.le_of_ble_eq_true rfl, Nat.le_of_ble_eq_true rfl⟩ (fun H locs hw => ?_)
  refine lv_aload_n S.1 S.2.1 d_Roster_wishCost_6 rfl (lv_at hl 0 rfl) ?_
  obtain ⟨t3, ht3, hf⟩ := xb hf
  refine x_getr S hw lk_Roster_36 ht3 d_Roster_wishCost_7 ?_
  refine lv_iload_n S.1 S.2.1 d_Roster_wishCost_10 rfl (lv_at hl 1 rfl) ?_
  obtain ⟨t4, ht4, hf⟩ := xb hf
  refine x_aald S hw (t := 2) rfl rfl ht4 d_Roster_wishCost_11 ?_
  refine lv_iload_n S.1 S.2.1 d_Roster_wishCost_12 rfl (lv_at hl 2 rfl) ?_
  obtain ⟨t5, ht5, hf⟩ := xb hf
  refine x_iald S hw ht5 d_Roster_wishCost_13 ?_
  refine lv_icmp_ne (tgt := 21) S.1 S.2.1 d_Roster_wishCost_14 (by decide) (fun c6 => ?_) (fun c6 => ?_)
  · replace hf := xf c6 hf
    refine lv_aload_n S.1 S.2.1 d_Roster_wishCost_21 rfl (lv_at hl 0 rfl) ?_
    obtain ⟨t7, ht7, hf⟩ := xb hf
    refine x_getr S hw lk_Roster_39 ht7 d_Roster_wishCost_22 ?_
    refine lv_iload_n S.1 S.2.1 d_Roster_wishCost_25 rfl (lv_at hl 1 rfl) ?_
    obtain ⟨t8, ht8, hf⟩ := xb hf
    refine x_aald S hw (t := 2) rfl rfl ht8 d_Roster_wishCost_26 ?_
    refine lv_iload_n S.1 S.2.1 d_Roster_wishCost_27 rfl (lv_at hl 2 rfl) ?_
    obtain ⟨t9, ht9, hf⟩ := xb hf
    refine x_iald S hw ht9 d_Roster_wishCost_28 ?_
    refine lv_i2l (v := (Int32.toInt64 t9)) S.1 S.2.1 d_Roster_wishCost_29 rfl ?_
    obtain rfl := xe1 hf
    exact x_lret S hr hlocks hw d_Roster_wishCost_30
  · replace hf := xt c6 hf
    refine lv_lconst (v := 0) S.1 S.2.1 d_Roster_wishCost_17 (by decide) ?_
    refine lv_goto (tgt := 30) S.1 S.2.1 d_Roster_wishCost_18 (by decide) ?_
    obtain rfl := xe1 hf
    exact x_lret S hr hlocks hw d_Roster_wishCost_30
def f_Roster_allWishesCost_15 (k4 : Nat → Int64 → Int32 → xS → Option Int64) : Nat → Nat → Int64 → Int32 → Int32 → xS → Option Int64
  | 0, _, _, _, _, _ => none
  | n + 1, a0, x1, x3, x4, ω =>
    (xgi ω a0 8 1).bind fun t3 =>
    if t3 ≤ x4 then (
      k4 a0 x1 (x3 + 1) ω)
    else (
      (xk ω a0 8 (f_Roster_wishCost a0 x3 x4 ω)).bind fun t6 =>
      f_Roster_allWishesCost_15 k4 n a0 (x1 + t6) x3 (x4 + 1) ω)
set_option maxHeartbeats 4000000 in
set_option maxRecDepth 100000 in
theorem w_Roster_allWishesCost_15 {p : Program} {l : Launch} {e : Env} {s : State} {m : MethodId} {args : Array Value} {below : List Frame} {meth : Method} {c : Code} {E : xV} {z : Nat} {r : Int64} {ω : xS} {k4 : Nat → Int64 → Int32 → xS → Option Int64} (S : CallFix p m c b_Roster_allWishesCost 5 s args xTbl "RosterRules$Roster") (hr : meth.sig.returnType = (some .long)) (hlocks : meth.locks = false) (hk4 : ∀ (a0 : Nat) (x1 : Int64) (x3 : Int32) (H : Heap) (locs : List Loc) (ls : Array Slot), xW E z ω s s.heap H locs → lv_has ls 5 [(0, .ref a0), (1, .long x1), (3, .int x3)] → k4 a0 x1 x3 ω = some r → W p l e (headSpec ws_Roster_allWishesCost { frames := 2, cells := 0, slots := 0, locals := 44 }).room s m args below meth c H locs 0 0 (MQ below (xQ E (some (.long r)) z ω) args s 0 0 (fun q => E.2.2 ≤ q)) (F0 m 4 ls [])) : ∀ n : Nat, ∀ (a0 : Nat) (x1 : Int64) (x3 : Int32) (x4 : Int32) (H : Heap) (locs : List Loc) (ls : Array Slot), xW E z ω s s.heap H locs → lv_has ls 5 [(0, .ref a0), (1, .long x1), (3, .int x3), (4, .int x4)] → f_Roster_allWishesCost_15 k4 n a0 x1 x3 x4 ω = some r → W p l e (headSpec ws_Roster_allWishesCost { frames := 2, cells := 0, slots := 0, locals := 44 }).room s m args below meth c H locs 0 0 (MQ below (xQ E (some (.long r)) z ω) args s 0 0 (fun q => E.2.2 ≤ q)) (F0 m 15 ls []) := by
  intro n
  induction n with
  | zero =>
    intro a0 x1 x3 x4 H locs ls hw hl hf
    have h2 : (none : Option Int64) = some r := hf
    cases h2
  | succ n ih =>
    intro a0 x1 x3 x4 H locs ls hw hl hf
    rw [f_Roster_allWishesCost_15] at hf
    refine lv_iload S.1 S.2.1 d_Roster_allWishesCost_15 (lv_at hl 3 rfl) ?_
    refine lv_aload_n S.1 S.2.1 d_Roster_allWishesCost_17 rfl (lv_at hl 0 rfl) ?_
    obtain ⟨t3, ht3, hf⟩ := xb hf
    refine x_geti S hw lk_Roster_25 ht3 d_Roster_allWishesCost_18 ?_
    refine lv_icmp_ge (tgt := 40) S.1 S.2.1 d_Roster_allWishesCost_21 (by decide) (fun c4 => ?_) (fun c4 => ?_)
    · replace hf := xt c4 hf
      refine lv_iinc (v := (x3 + 1)) (lv' := [(3, .int (x3 + 1)), (0, .ref a0), (1, .long x1), (4, .int x4)]) S.1 S.2.1 d_Roster_allWishesCost_40 hl (k := 2) rfl rfl (by decide) rfl (fun ls hl => ?_)
      refine lv_goto (tgt := 4) S.1 S.2.1 d_Roster_allWishesCost_43 (by decide) ?_
      exact hk4 _ _ _ _ _ _ hw (lv_sub hl [1, 2, 0] rfl) hf
    · replace hf := xf c4 hf
      refine lv_lload_n S.1 S.2.1 d_Roster_allWishesCost_24 rfl (lv_at hl 1 rfl) ?_
      refine lv_aload_n S.1 S.2.1 d_Roster_allWishesCost_25 rfl (lv_at hl 0 rfl) ?_
      refine lv_iload_n S.1 S.2.1 d_Roster_allWishesCost_26 rfl (lv_at hl 2 rfl) ?_
      refine lv_iload S.1 S.2.1 d_Roster_allWishesCost_27 (lv_at hl 3 rfl) ?_
      obtain ⟨t6, h5, hf⟩ := xb hf
      obtain ⟨h5b, h5⟩ := xkb h5
      refine x_callV (As := [.int x3, .int x4]) (rest := [.long x1]) (st1 := [.long t6, .long x1]) S hw (c_Roster_wishCost h5) (cwV 2 S.2.2.2.2 gv_Roster_58 rfl rfl rfl hd_Roster_wishCost ⟨Nat.le_of_ble_eq_true rfl, Nat.le_of_ble_eq_true rfl⟩) rfl h5b rfl hl.1 rfl rfl (Nat.le_of_ble_eq_true rfl) d_Roster_allWishesCost_29 ⟨Nat.le_of_ble_eq_true rfl, Nat.le_of_ble_eq_true rfl⟩ (fun H locs hw => ?_)
      refine lv_ladd S.1 S.2.1 d_Roster_allWishesCost_32 ?_
      refine lv_lstore_n (lv' := [(1, .long (x1 + t6)), (0, .ref a0), (3, .int x3), (4, .int x4)]) S.1 S.2.1 d_Roster_allWishesCost_33 rfl hl (by decide) rfl (fun ls hl => ?_)
      refine lv_iinc (v := (x4 + 1)) (lv' := [(4, .int (x4 + 1)), (1, .long (x1 + t6)), (0, .ref a0), (3, .int x3)]) S.1 S.2.1 d_Roster_allWishesCost_34 hl (k := 3) rfl rfl (by decide) rfl (fun ls hl => ?_)
      refine lv_goto (tgt := 15) S.1 S.2.1 d_Roster_allWishesCost_37 (by decide) ?_
      exact ih _ _ _ _ _ _ _ hw (lv_sub hl [2, 1, 3, 0] rfl) hf
def f_Roster_allWishesCost_4 : Nat → Nat → Int64 → Int32 → xS → Option Int64
  | 0, _, _, _, _ => none
  | n + 1, a0, x1, x3, ω =>
    (xgi ω a0 8 0).bind fun t1 =>
    if t1 ≤ x3 then (
      some x1)
    else (
      f_Roster_allWishesCost_15 (f_Roster_allWishesCost_4  n) xFU a0 x1 x3 0 ω)
set_option maxHeartbeats 4000000 in
set_option maxRecDepth 100000 in
theorem w_Roster_allWishesCost_4 {p : Program} {l : Launch} {e : Env} {s : State} {m : MethodId} {args : Array Value} {below : List Frame} {meth : Method} {c : Code} {E : xV} {z : Nat} {r : Int64} {ω : xS} (S : CallFix p m c b_Roster_allWishesCost 5 s args xTbl "RosterRules$Roster") (hr : meth.sig.returnType = (some .long)) (hlocks : meth.locks = false) : ∀ n : Nat, ∀ (a0 : Nat) (x1 : Int64) (x3 : Int32) (H : Heap) (locs : List Loc) (ls : Array Slot), xW E z ω s s.heap H locs → lv_has ls 5 [(0, .ref a0), (1, .long x1), (3, .int x3)] → f_Roster_allWishesCost_4 n a0 x1 x3 ω = some r → W p l e (headSpec ws_Roster_allWishesCost { frames := 2, cells := 0, slots := 0, locals := 44 }).room s m args below meth c H locs 0 0 (MQ below (xQ E (some (.long r)) z ω) args s 0 0 (fun q => E.2.2 ≤ q)) (F0 m 4 ls []) := by
  intro n
  induction n with
  | zero =>
    intro a0 x1 x3 H locs ls hw hl hf
    have h2 : (none : Option Int64) = some r := hf
    cases h2
  | succ n ih =>
    intro a0 x1 x3 H locs ls hw hl hf
    rw [f_Roster_allWishesCost_4] at hf
    refine lv_iload_n S.1 S.2.1 d_Roster_allWishesCost_4 rfl (lv_at hl 2 rfl) ?_
    refine lv_aload_n S.1 S.2.1 d_Roster_allWishesCost_5 rfl (lv_at hl 0 rfl) ?_
    obtain ⟨t1, ht1, hf⟩ := xb hf
    refine x_geti S hw lk_Roster_21 ht1 d_Roster_allWishesCost_6 ?_
    refine lv_icmp_ge (tgt := 46) S.1 S.2.1 d_Roster_allWishesCost_9 (by decide) (fun c2 => ?_) (fun c2 => ?_)
    · replace hf := xt c2 hf
      refine lv_lload_n S.1 S.2.1 d_Roster_allWishesCost_46 rfl (lv_at hl 1 rfl) ?_
      obtain rfl := xe1 hf
      exact x_lret S hr hlocks hw d_Roster_allWishesCost_47
    · replace hf := xf c2 hf
      refine lv_iconst (v := 0) S.1 S.2.1 d_Roster_allWishesCost_12 (by decide) ?_
      refine lv_istore (lv' := [(4, .int 0), (0, .ref a0), (1, .long x1), (3, .int x3)]) S.1 S.2.1 d_Roster_allWishesCost_13 hl (by decide) rfl (fun ls hl => ?_)
      exact w_Roster_allWishesCost_15 S hr hlocks ih _ _ _ _ _ _ _ _ hw (lv_sub hl [1, 2, 3, 0] rfl) hf
def f_Roster_allWishesCost (a0 : Nat) (ω : xS) : Option Int64 :=
  f_Roster_allWishesCost_4  xFU a0 0 0 ω
set_option maxHeartbeats 4000000 in
set_option maxRecDepth 100000 in
theorem c_Roster_allWishesCost {l : Launch} {E : xV} {z : Nat} {a0 : Nat} {r : Int64} {ω : xS} (hf : f_Roster_allWishesCost a0 ω = some r) : xM l E y_Roster_allWishesCost ws_Roster_allWishesCost { frames := 2, cells := 0, slots := 0, locals := 44 } [.ref a0] z ω (some (.long r)) z ω := by
  refine x_start (cc := b_Roster_allWishesCost) (maxL := 5) (ret := (some .long)) (by decide) rfl (Nat.le_of_ble_eq_true rfl) ?_
  intro p e s m below meth c S hr hlocks hin ls hl hw
  have hl : lv_has ls 5 [(0, .ref a0)] := hl
  unfold f_Roster_allWishesCost at hf
  refine lv_lconst (v := 0) S.1 S.2.1 d_Roster_allWishesCost_0 (by decide) ?_
  refine lv_lstore_n (lv' := [(1, .long 0), (0, .ref a0)]) S.1 S.2.1 d_Roster_allWishesCost_1 rfl hl (by decide) rfl (fun ls hl => ?_)
  refine lv_iconst (v := 0) S.1 S.2.1 d_Roster_allWishesCost_2 (by decide) ?_
  refine lv_istore_n (lv' := [(3, .int 0), (1, .long 0), (0, .ref a0)]) S.1 S.2.1 d_Roster_allWishesCost_3 rfl hl (by decide) rfl (fun ls hl => ?_)
  exact w_Roster_allWishesCost_4 S hr hlocks  _ _ _ _ _ _ _ hw (lv_sub hl [2, 1, 0] rfl) hf
def f_Tape_init (a0 : Nat) (z : Nat) (ω : xS) : Option xS :=
  xl (xu ω z (.inl (0, 1500, .inl (fun _ => 0)))) fun w1 =>
  (xp w1 a0 9 0 (.ref z)).bind fun w2 =>
  some w2
set_option maxHeartbeats 4000000 in
set_option maxRecDepth 100000 in
theorem c_Tape_init {l : Launch} {E : xV} {z : Nat} {a0 : Nat} {ω1 : xS} {ω : xS} (hf : f_Tape_init a0 z ω = some ω1) : xM l E y_Tape_init ws_Tape_init { frames := 1, cells := 1, slots := 1500, locals := 20 } [.ref a0] z ω none (z + 1) ω1 := by
  refine x_start (cc := b_Tape_init) (maxL := 1) (ret := none) (by decide) rfl (Nat.le_of_ble_eq_true rfl) ?_
  intro p e s m below meth c S hr hlocks hin ls hl hw
  have hl : lv_has ls 1 [(0, .ref a0)] := hl
  have hin := hin rfl
  unfold f_Tape_init at hf
  refine lv_aload_n S.1 S.2.1 d_Tape_init_0 rfl (lv_at hl 0 rfl) ?_
  refine x_obj S hl.1 ob_Tape_3 d_Tape_init_1 (Nat.le_of_ble_eq_true rfl) (Nat.le_of_ble_eq_true rfl) ?_
  refine lv_aload_n S.1 S.2.1 d_Tape_init_4 rfl (lv_at hl 0 rfl) ?_
  refine lv_sipush (v := 1500) S.1 S.2.1 d_Tape_init_5 (by decide) ?_
  obtain ⟨w1, hw1, hf⟩ := xlb hf
  refine x_newi (N := 1500) S hw xArr_i (by decide) (by decide) (by decide) hw1 (Nat.le_of_ble_eq_true rfl) (Nat.le_of_ble_eq_true rfl) d_Tape_init_8 (fun H hw => ?_)
  obtain ⟨w2, hw2, hf⟩ := xb hf
  refine x_putF S hin hw lf_Tape_9 rfl rfl hw2 d_Tape_init_10 (fun H locs hw => ?_)
  cases hf
  exact x_vret S hr hlocks hw d_Tape_init_13
def f_Tape_append_3 : Nat → Nat → Int32 → Int64 → Int32 → xS → Option xS
  | 0, _, _, _, _, _ => none
  | n + 1, a0, x1, x2, x4, ω =>
    if x1 ≤ x4 then (
      some ω)
    else (
      (xgi ω a0 9 1).bind fun t2 =>
      if 1500 ≤ t2 then (
        some ω)
      else (
        (xgr ω a0 9 0).bind fun t4 =>
        (xgi ω a0 9 1).bind fun t5 =>
        (xsi ω t4 t5 ((Int64.toInt32 (xlushr x2 (8 * x4))) &&& 255)).bind fun w6 =>
        (xgi w6 a0 9 1).bind fun t7 =>
        (xp w6 a0 9 1 (.int (t7 + 1))).bind fun w8 =>
        f_Tape_append_3  n a0 x1 x2 (x4 + 1) w8))
set_option maxHeartbeats 4000000 in
set_option maxRecDepth 100000 in
theorem w_Tape_append_3 {p : Program} {l : Launch} {e : Env} {s : State} {m : MethodId} {args : Array Value} {below : List Frame} {meth : Method} {c : Code} {E : xV} {z : Nat} {ω1 : xS} (S : CallFix p m c b_Tape_append 5 s args xTbl "RosterRules$Tape") (hr : meth.sig.returnType = none) (hlocks : meth.locks = false) : ∀ n : Nat, ∀ (a0 : Nat) (x1 : Int32) (x2 : Int64) (x4 : Int32) (ω : xS) (H : Heap) (locs : List Loc) (ls : Array Slot), xW E z ω s s.heap H locs → lv_has ls 5 [(0, .ref a0), (1, .int x1), (2, .long x2), (4, .int x4)] → f_Tape_append_3 n a0 x1 x2 x4 ω = some ω1 → W p l e (headSpec ws_Tape_append { frames := 0, cells := 0, slots := 0, locals := 0 }).room s m args below meth c H locs 0 0 (MQ below (xQ E none z ω1) args s 0 0 (fun q => E.2.2 ≤ q)) (F0 m 3 ls []) := by
  intro n
  induction n with
  | zero =>
    intro a0 x1 x2 x4 ω H locs ls hw hl hf
    have h2 : (none : Option xS) = some ω1 := hf
    cases h2
  | succ n ih =>
    intro a0 x1 x2 x4 ω H locs ls hw hl hf
    rw [f_Tape_append_3] at hf
    refine lv_iload S.1 S.2.1 d_Tape_append_3 (lv_at hl 3 rfl) ?_
    refine lv_iload_n S.1 S.2.1 d_Tape_append_5 rfl (lv_at hl 1 rfl) ?_
    refine lv_icmp_ge (tgt := 56) S.1 S.2.1 d_Tape_append_6 (by decide) (fun c1 => ?_) (fun c1 => ?_)
    · replace hf := xt c1 hf
      cases hf
      exact x_vret S hr hlocks hw d_Tape_append_56
    · replace hf := xf c1 hf
      refine lv_aload_n S.1 S.2.1 d_Tape_append_9 rfl (lv_at hl 0 rfl) ?_
      obtain ⟨t2, ht2, hf⟩ := xb hf
      refine x_geti S hw lk_Tape_15 ht2 d_Tape_append_10 ?_
      refine lv_sipush (v := 1500) S.1 S.2.1 d_Tape_append_13 (by decide) ?_
      refine lv_icmp_ge (tgt := 56) S.1 S.2.1 d_Tape_append_16 (by decide) (fun c3 => ?_) (fun c3 => ?_)
      · replace hf := xt c3 hf
        cases hf
        exact x_vret S hr hlocks hw d_Tape_append_56
      · replace hf := xf c3 hf
        refine lv_aload_n S.1 S.2.1 d_Tape_append_19 rfl (lv_at hl 0 rfl) ?_
        obtain ⟨t4, ht4, hf⟩ := xb hf
        refine x_getr S hw lk_Tape_9 ht4 d_Tape_append_20 ?_
        refine lv_aload_n S.1 S.2.1 d_Tape_append_23 rfl (lv_at hl 0 rfl) ?_
        obtain ⟨t5, ht5, hf⟩ := xb hf
        refine x_geti S hw lk_Tape_15 ht5 d_Tape_append_24 ?_
        refine lv_lload_n S.1 S.2.1 d_Tape_append_27 rfl (lv_at hl 2 rfl) ?_
        refine lv_bipush (v := 8) S.1 S.2.1 d_Tape_append_28 (by decide) ?_
        refine lv_iload S.1 S.2.1 d_Tape_append_30 (lv_at hl 3 rfl) ?_
        refine lv_imul S.1 S.2.1 d_Tape_append_32 ?_
        refine lv_lushr (v := (xlushr x2 (8 * x4))) S.1 S.2.1 d_Tape_append_33 rfl ?_
        refine lv_l2i (v := (Int64.toInt32 (xlushr x2 (8 * x4)))) S.1 S.2.1 d_Tape_append_34 rfl ?_
        refine lv_sipush (v := 255) S.1 S.2.1 d_Tape_append_35 (by decide) ?_
        refine lv_iand S.1 S.2.1 d_Tape_append_38 ?_
        obtain ⟨w6, hw6, hf⟩ := xb hf
        refine x_iast S hw hw6 d_Tape_append_39 (fun H locs hw => ?_)
        refine lv_aload_n S.1 S.2.1 d_Tape_append_40 rfl (lv_at hl 0 rfl) ?_
        refine lv_dup S.1 S.2.1 d_Tape_append_41 rfl ?_
        obtain ⟨t7, ht7, hf⟩ := xb hf
        refine x_geti S hw lk_Tape_15 ht7 d_Tape_append_42 ?_
        refine lv_iconst (v := 1) S.1 S.2.1 d_Tape_append_45 (by decide) ?_
        refine lv_iadd S.1 S.2.1 d_Tape_append_46 ?_
        obtain ⟨w8, hw8, hf⟩ := xb hf
        refine x_puti S hw lp_Tape_15 hw8 d_Tape_append_47 (fun H locs hw => ?_)
        refine lv_iinc (v := (x4 + 1)) (lv' := [(4, .int (x4 + 1)), (0, .ref a0), (1, .int x1), (2, .long x2)]) S.1 S.2.1 d_Tape_append_50 hl (k := 3) rfl rfl (by decide) rfl (fun ls hl => ?_)
        refine lv_goto (tgt := 3) S.1 S.2.1 d_Tape_append_53 (by decide) ?_
        exact ih _ _ _ _ _ _ _ _ hw (lv_sub hl [1, 2, 3, 0] rfl) hf
def f_Tape_append (a0 : Nat) (x1 : Int32) (x2 : Int64) (ω : xS) : Option xS :=
  f_Tape_append_3  xFU a0 x1 x2 0 ω
set_option maxHeartbeats 4000000 in
set_option maxRecDepth 100000 in
theorem c_Tape_append {l : Launch} {E : xV} {z : Nat} {a0 : Nat} {x1 : Int32} {x2 : Int64} {ω1 : xS} {ω : xS} (hf : f_Tape_append a0 x1 x2 ω = some ω1) : xM l E y_Tape_append ws_Tape_append { frames := 0, cells := 0, slots := 0, locals := 0 } [.ref a0, .int x1, .long x2] z ω none z ω1 := by
  refine x_start (cc := b_Tape_append) (maxL := 5) (ret := none) (by decide) rfl (Nat.le_of_ble_eq_true rfl) ?_
  intro p e s m below meth c S hr hlocks hin ls hl hw
  have hl : lv_has ls 5 [(0, .ref a0), (1, .int x1), (2, .long x2)] := hl
  unfold f_Tape_append at hf
  refine lv_iconst (v := 0) S.1 S.2.1 d_Tape_append_0 (by decide) ?_
  refine lv_istore (lv' := [(4, .int 0), (0, .ref a0), (1, .int x1), (2, .long x2)]) S.1 S.2.1 d_Tape_append_1 hl (by decide) rfl (fun ls hl => ?_)
  exact w_Tape_append_3 S hr hlocks  _ _ _ _ _ _ _ _ _ hw (lv_sub hl [1, 2, 3, 0] rfl) hf
