def f_Positions_followersOf_5 : Nat → Nat → Int32 → Int32 → Int32 → Int32 → xS → Option Int32
  | 0, _, _, _, _, _, _ => none
  | n + 1, a0, x1, x2, x3, x4, ω =>
    if 5 ≤ x4 then (
      some x3)
    else (
      if ((x1 >>> (x4 &&& 31)) &&& 1) = 0 then (
        f_Positions_followersOf_5  n a0 x1 x2 x3 (x4 + 1) ω)
      else (
        (xgr ω a0 7 1).bind fun t3 =>
        (xai ω t3 (x2 + x4)).bind fun t4 =>
        f_Positions_followersOf_5  n a0 x1 x2 (x3 ||| t4) (x4 + 1) ω))
set_option maxHeartbeats 4000000 in
set_option maxRecDepth 100000 in
theorem w_Positions_followersOf_5 {p : Program} {l : Launch} {e : Env} {s : State} {m : MethodId} {args : Array Value} {below : List Frame} {meth : Method} {c : Code} {E : xV} {z : Nat} {r : Int32} {ω : xS} (S : CallFix p m c b_Positions_followersOf 5 s args xTbl "RosterRules$Positions") (hr : meth.sig.returnType = (some .int)) (hlocks : meth.locks = false) : ∀ n : Nat, ∀ (a0 : Nat) (x1 : Int32) (x2 : Int32) (x3 : Int32) (x4 : Int32) (H : Heap) (locs : List Loc) (ls : Array Slot), xW E z ω s s.heap H locs → lv_has ls 5 [(0, .ref a0), (1, .int x1), (2, .int x2), (3, .int x3), (4, .int x4)] → f_Positions_followersOf_5 n a0 x1 x2 x3 x4 ω = some r → W p l e (headSpec ws_Positions_followersOf { frames := 0, cells := 0, slots := 0, locals := 0 }).room s m args below meth c H locs 0 0 (MQ below (xQ E (some (.int r)) z ω) args s 0 0 (fun q => E.2.2 ≤ q)) (F0 m 5 ls []) := by
  intro n
  induction n with
  | zero =>
    intro a0 x1 x2 x3 x4 H locs ls hw hl hf
    have h2 : (none : Option Int32) = some r := hf
    cases h2
  | succ n ih =>
    intro a0 x1 x2 x3 x4 H locs ls hw hl hf
    rw [f_Positions_followersOf_5] at hf
    refine lv_iload S.1 S.2.1 d_Positions_followersOf_5 (lv_at hl 4 rfl) ?_
    refine lv_iconst (v := 5) S.1 S.2.1 d_Positions_followersOf_7 (by decide) ?_
    refine lv_icmp_ge (tgt := 38) S.1 S.2.1 d_Positions_followersOf_8 (by decide) (fun c1 => ?_) (fun c1 => ?_)
    · replace hf := xt c1 hf
      refine lv_iload_n S.1 S.2.1 d_Positions_followersOf_38 rfl (lv_at hl 3 rfl) ?_
      obtain rfl := xe1 hf
      exact x_iret S hr hlocks hw d_Positions_followersOf_39
    · replace hf := xf c1 hf
      refine lv_iload_n S.1 S.2.1 d_Positions_followersOf_11 rfl (lv_at hl 1 rfl) ?_
      refine lv_iload S.1 S.2.1 d_Positions_followersOf_12 (lv_at hl 4 rfl) ?_
      refine lv_ishr S.1 S.2.1 d_Positions_followersOf_14 ?_
      refine lv_iconst (v := 1) S.1 S.2.1 d_Positions_followersOf_15 (by decide) ?_
      refine lv_iand S.1 S.2.1 d_Positions_followersOf_16 ?_
      refine lv_if_eq (tgt := 32) S.1 S.2.1 d_Positions_followersOf_17 (by decide) (fun c2 => ?_) (fun c2 => ?_)
      · replace hf := xt c2 hf
        refine lv_iinc (v := (x4 + 1)) (lv' := [(4, .int (x4 + 1)), (0, .ref a0), (1, .int x1), (2, .int x2), (3, .int x3)]) S.1 S.2.1 d_Positions_followersOf_32 hl (k := 4) rfl rfl (by decide) rfl (fun ls hl => ?_)
        refine lv_goto (tgt := 5) S.1 S.2.1 d_Positions_followersOf_35 (by decide) ?_
        exact ih _ _ _ _ _ _ _ _ hw (lv_sub hl [1, 2, 3, 4, 0] rfl) hf
      · replace hf := xf c2 hf
        refine lv_iload_n S.1 S.2.1 d_Positions_followersOf_20 rfl (lv_at hl 3 rfl) ?_
        refine lv_aload_n S.1 S.2.1 d_Positions_followersOf_21 rfl (lv_at hl 0 rfl) ?_
        obtain ⟨t3, ht3, hf⟩ := xb hf
        refine x_getr S hw lk_Positions_15 ht3 d_Positions_followersOf_22 ?_
        refine lv_iload_n S.1 S.2.1 d_Positions_followersOf_25 rfl (lv_at hl 2 rfl) ?_
        refine lv_iload S.1 S.2.1 d_Positions_followersOf_26 (lv_at hl 4 rfl) ?_
        refine lv_iadd S.1 S.2.1 d_Positions_followersOf_28 ?_
        obtain ⟨t4, ht4, hf⟩ := xb hf
        refine x_iald S hw ht4 d_Positions_followersOf_29 ?_
        refine lv_ior S.1 S.2.1 d_Positions_followersOf_30 ?_
        refine lv_istore_n (lv' := [(3, .int (x3 ||| t4)), (0, .ref a0), (1, .int x1), (2, .int x2), (4, .int x4)]) S.1 S.2.1 d_Positions_followersOf_31 rfl hl (by decide) rfl (fun ls hl => ?_)
        refine lv_iinc (v := (x4 + 1)) (lv' := [(4, .int (x4 + 1)), (3, .int (x3 ||| t4)), (0, .ref a0), (1, .int x1), (2, .int x2)]) S.1 S.2.1 d_Positions_followersOf_32 hl (k := 4) rfl rfl (by decide) rfl (fun ls hl => ?_)
        refine lv_goto (tgt := 5) S.1 S.2.1 d_Positions_followersOf_35 (by decide) ?_
        exact ih _ _ _ _ _ _ _ _ hw (lv_sub hl [2, 3, 4, 1, 0] rfl) hf
def f_Positions_followersOf (a0 : Nat) (x1 : Int32) (x2 : Int32) (ω : xS) : Option Int32 :=
  f_Positions_followersOf_5  xFU a0 x1 x2 0 0 ω
set_option maxHeartbeats 4000000 in
set_option maxRecDepth 100000 in
theorem c_Positions_followersOf {l : Launch} {E : xV} {z : Nat} {a0 : Nat} {x1 : Int32} {x2 : Int32} {r : Int32} {ω : xS} (hf : f_Positions_followersOf a0 x1 x2 ω = some r) : xM l E y_Positions_followersOf ws_Positions_followersOf { frames := 0, cells := 0, slots := 0, locals := 0 } [.ref a0, .int x1, .int x2] z ω (some (.int r)) z ω := by
  refine x_start (cc := b_Positions_followersOf) (maxL := 5) (ret := (some .int)) (by decide) rfl (Nat.le_of_ble_eq_true rfl) ?_
  intro p e s m below meth c S hr hlocks hin ls hl hw
  have hl : lv_has ls 5 [(0, .ref a0), (1, .int x1), (2, .int x2)] := hl
  unfold f_Positions_followersOf at hf
  refine lv_iconst (v := 0) S.1 S.2.1 d_Positions_followersOf_0 (by decide) ?_
  refine lv_istore_n (lv' := [(3, .int 0), (0, .ref a0), (1, .int x1), (2, .int x2)]) S.1 S.2.1 d_Positions_followersOf_1 rfl hl (by decide) rfl (fun ls hl => ?_)
  refine lv_iconst (v := 0) S.1 S.2.1 d_Positions_followersOf_2 (by decide) ?_
  refine lv_istore (lv' := [(4, .int 0), (3, .int 0), (0, .ref a0), (1, .int x1), (2, .int x2)]) S.1 S.2.1 d_Positions_followersOf_3 hl (by decide) rfl (fun ls hl => ?_)
  exact w_Positions_followersOf_5 S hr hlocks  _ _ _ _ _ _ _ _ _ hw (lv_sub hl [2, 3, 4, 1, 0] rfl) hf
def f_Positions_finish_39 : Nat → Nat → Int32 → xS → Option xS
  | 0, _, _, _ => none
  | n + 1, a0, x2, ω =>
    if 32 ≤ x2 then (
      some ω)
    else (
      (xgr ω a0 7 2).bind fun t7 =>
      (xk ω a0 7 (f_Positions_followersOf a0 x2 0 ω)).bind fun t9 =>
      (xsi ω t7 x2 t9).bind fun w10 =>
      (xgr w10 a0 7 3).bind fun t11 =>
      (xk w10 a0 7 (f_Positions_followersOf a0 x2 5 w10)).bind fun t13 =>
      (xsi w10 t11 x2 t13).bind fun w14 =>
      f_Positions_finish_39  n a0 (x2 + 1) w14)
set_option maxHeartbeats 4000000 in
set_option maxRecDepth 100000 in
theorem w_Positions_finish_39 {p : Program} {l : Launch} {e : Env} {s : State} {m : MethodId} {args : Array Value} {below : List Frame} {meth : Method} {c : Code} {E : xV} {z : Nat} {ω1 : xS} (S : CallFix p m c b_Positions_finish 3 s args xTbl "RosterRules$Positions") (hr : meth.sig.returnType = none) (hlocks : meth.locks = false) : ∀ n : Nat, ∀ (a0 : Nat) (x2 : Int32) (ω : xS) (H : Heap) (locs : List Loc) (ls : Array Slot), xW E z ω s s.heap H locs → lv_has ls 3 [(0, .ref a0), (2, .int x2)] → f_Positions_finish_39 n a0 x2 ω = some ω1 → W p l e (headSpec ws_Positions_finish { frames := 1, cells := 0, slots := 0, locals := 24 }).room s m args below meth c H locs 0 0 (MQ below (xQ E none z ω1) args s 0 0 (fun q => E.2.2 ≤ q)) (F0 m 39 ls []) := by
  intro n
  induction n with
  | zero =>
    intro a0 x2 ω H locs ls hw hl hf
    have h2 : (none : Option xS) = some ω1 := hf
    cases h2
  | succ n ih =>
    intro a0 x2 ω H locs ls hw hl hf
    rw [f_Positions_finish_39] at hf
    refine lv_iload_n S.1 S.2.1 d_Positions_finish_39 rfl (lv_at hl 1 rfl) ?_
    refine lv_bipush (v := 32) S.1 S.2.1 d_Positions_finish_40 (by decide) ?_
    refine lv_icmp_ge (tgt := 75) S.1 S.2.1 d_Positions_finish_42 (by decide) (fun c6 => ?_) (fun c6 => ?_)
    · replace hf := xt c6 hf
      cases hf
      exact x_vret S hr hlocks hw d_Positions_finish_75
    · replace hf := xf c6 hf
      refine lv_aload_n S.1 S.2.1 d_Positions_finish_45 rfl (lv_at hl 0 rfl) ?_
      obtain ⟨t7, ht7, hf⟩ := xb hf
      refine x_getr S hw lk_Positions_18 ht7 d_Positions_finish_46 ?_
      refine lv_iload_n S.1 S.2.1 d_Positions_finish_49 rfl (lv_at hl 1 rfl) ?_
      refine lv_aload_n S.1 S.2.1 d_Positions_finish_50 rfl (lv_at hl 0 rfl) ?_
      refine lv_iload_n S.1 S.2.1 d_Positions_finish_51 rfl (lv_at hl 1 rfl) ?_
      refine lv_iconst (v := 0) S.1 S.2.1 d_Positions_finish_52 (by decide) ?_
      obtain ⟨t9, h8, hf⟩ := xb hf
      obtain ⟨h8b, h8⟩ := xkb h8
      refine x_callV (As := [.int x2, .int 0]) (rest := [.int x2, .ref t7]) (st1 := [.int t9, .int x2, .ref t7]) S hw (c_Positions_followersOf h8) (cwV 2 S.2.2.2.2 gv_Positions_43 rfl rfl rfl hd_Positions_followersOf ⟨Nat.le_of_ble_eq_true rfl, Nat.le_of_ble_eq_true rfl⟩) rfl h8b rfl hl.1 rfl rfl (Nat.le_of_ble_eq_true rfl) d_Positions_finish_53 ⟨Nat.le_of_ble_eq_true rfl, Nat.le_of_ble_eq_true rfl⟩ (fun H locs hw => ?_)
      obtain ⟨w10, hw10, hf⟩ := xb hf
      refine x_iast S hw hw10 d_Positions_finish_56 (fun H locs hw => ?_)
      refine lv_aload_n S.1 S.2.1 d_Positions_finish_57 rfl (lv_at hl 0 rfl) ?_
      obtain ⟨t11, ht11, hf⟩ := xb hf
      refine x_getr S hw lk_Positions_21 ht11 d_Positions_finish_58 ?_
      refine lv_iload_n S.1 S.2.1 d_Positions_finish_61 rfl (lv_at hl 1 rfl) ?_
      refine lv_aload_n S.1 S.2.1 d_Positions_finish_62 rfl (lv_at hl 0 rfl) ?_
      refine lv_iload_n S.1 S.2.1 d_Positions_finish_63 rfl (lv_at hl 1 rfl) ?_
      refine lv_iconst (v := 5) S.1 S.2.1 d_Positions_finish_64 (by decide) ?_
      obtain ⟨t13, h12, hf⟩ := xb hf
      obtain ⟨h12b, h12⟩ := xkb h12
      refine x_callV (As := [.int x2, .int 5]) (rest := [.int x2, .ref t11]) (st1 := [.int t13, .int x2, .ref t11]) S hw (c_Positions_followersOf h12) (cwV 2 S.2.2.2.2 gv_Positions_43 rfl rfl rfl hd_Positions_followersOf ⟨Nat.le_of_ble_eq_true rfl, Nat.le_of_ble_eq_true rfl⟩) rfl h12b rfl hl.1 rfl rfl (Nat.le_of_ble_eq_true rfl) d_Positions_finish_65 ⟨Nat.le_of_ble_eq_true rfl, Nat.le_of_ble_eq_true rfl⟩ (fun H locs hw => ?_)
      obtain ⟨w14, hw14, hf⟩ := xb hf
      refine x_iast S hw hw14 d_Positions_finish_68 (fun H locs hw => ?_)
      refine lv_iinc (v := (x2 + 1)) (lv' := [(2, .int (x2 + 1)), (0, .ref a0)]) S.1 S.2.1 d_Positions_finish_69 hl (k := 1) rfl rfl (by decide) rfl (fun ls hl => ?_)
      refine lv_goto (tgt := 39) S.1 S.2.1 d_Positions_finish_72 (by decide) ?_
      exact ih _ _ _ _ _ _ hw (lv_sub hl [1, 0] rfl) hf
def f_Positions_finish (a0 : Nat) (x1 : Int32) (ω : xS) : Option xS :=
  (xp ω a0 7 6 (.int (x1 &&& 1023))).bind fun w1 =>
  (xp w1 a0 7 7 (.int ((x1 >>> (10 &&& 31)) &&& 1023))).bind fun w2 =>
  if (x1 &&& 1048576) = 0 then (
    (xp w2 a0 7 8 (.int 0)).bind fun w4 =>
    f_Positions_finish_39  xFU a0 0 w4)
  else (
    (xp w2 a0 7 8 (.int 1)).bind fun w5 =>
    f_Positions_finish_39  xFU a0 0 w5)
set_option maxHeartbeats 4000000 in
set_option maxRecDepth 100000 in
theorem c_Positions_finish {l : Launch} {E : xV} {z : Nat} {a0 : Nat} {x1 : Int32} {ω1 : xS} {ω : xS} (hf : f_Positions_finish a0 x1 ω = some ω1) : xM l E y_Positions_finish ws_Positions_finish { frames := 1, cells := 0, slots := 0, locals := 24 } [.ref a0, .int x1] z ω none z ω1 := by
  refine x_start (cc := b_Positions_finish) (maxL := 3) (ret := none) (by decide) rfl (Nat.le_of_ble_eq_true rfl) ?_
  intro p e s m below meth c S hr hlocks hin ls hl hw
  have hl : lv_has ls 3 [(0, .ref a0), (1, .int x1)] := hl
  unfold f_Positions_finish at hf
  refine lv_aload_n S.1 S.2.1 d_Positions_finish_0 rfl (lv_at hl 0 rfl) ?_
  refine lv_iload_n S.1 S.2.1 d_Positions_finish_1 rfl (lv_at hl 1 rfl) ?_
  refine lv_sipush (v := 1023) S.1 S.2.1 d_Positions_finish_2 (by decide) ?_
  refine lv_iand S.1 S.2.1 d_Positions_finish_5 ?_
  obtain ⟨w1, hw1, hf⟩ := xb hf
  refine x_puti S hw lp_Positions_34 hw1 d_Positions_finish_6 (fun H locs hw => ?_)
  refine lv_aload_n S.1 S.2.1 d_Positions_finish_9 rfl (lv_at hl 0 rfl) ?_
  refine lv_iload_n S.1 S.2.1 d_Positions_finish_10 rfl (lv_at hl 1 rfl) ?_
  refine lv_bipush (v := 10) S.1 S.2.1 d_Positions_finish_11 (by decide) ?_
  refine lv_ishr S.1 S.2.1 d_Positions_finish_13 ?_
  refine lv_sipush (v := 1023) S.1 S.2.1 d_Positions_finish_14 (by decide) ?_
  refine lv_iand S.1 S.2.1 d_Positions_finish_17 ?_
  obtain ⟨w2, hw2, hf⟩ := xb hf
  refine x_puti S hw lp_Positions_37 hw2 d_Positions_finish_18 (fun H locs hw => ?_)
  refine lv_aload_n S.1 S.2.1 d_Positions_finish_21 rfl (lv_at hl 0 rfl) ?_
  refine lv_iload_n S.1 S.2.1 d_Positions_finish_22 rfl (lv_at hl 1 rfl) ?_
  refine lv_ldc (v := 1048576) S.1 S.2.1 S.2.2.2.1 (S.2.2.2.2 _ wd_3_101) d_Positions_finish_23 ?_
  refine lv_iand S.1 S.2.1 d_Positions_finish_25 ?_
  refine lv_if_eq (tgt := 33) S.1 S.2.1 d_Positions_finish_26 (by decide) (fun c3 => ?_) (fun c3 => ?_)
  · replace hf := xt c3 hf
    refine lv_iconst (v := 0) S.1 S.2.1 d_Positions_finish_33 (by decide) ?_
    obtain ⟨w4, hw4, hf⟩ := xb hf
    refine x_put S hw lp_Positions_40 (by decide) rfl hw4 d_Positions_finish_34 (fun H locs hw => ?_)
    refine lv_iconst (v := 0) S.1 S.2.1 d_Positions_finish_37 (by decide) ?_
    refine lv_istore_n (lv' := [(2, .int 0), (0, .ref a0), (1, .int x1)]) S.1 S.2.1 d_Positions_finish_38 rfl hl (by decide) rfl (fun ls hl => ?_)
    exact w_Positions_finish_39 S hr hlocks  _ _ _ _ _ _ _ hw (lv_sub hl [1, 0] rfl) hf
  · replace hf := xf c3 hf
    refine lv_iconst (v := 1) S.1 S.2.1 d_Positions_finish_29 (by decide) ?_
    refine lv_goto (tgt := 34) S.1 S.2.1 d_Positions_finish_30 (by decide) ?_
    obtain ⟨w5, hw5, hf⟩ := xb hf
    refine x_put S hw lp_Positions_40 (by decide) rfl hw5 d_Positions_finish_34 (fun H locs hw => ?_)
    refine lv_iconst (v := 0) S.1 S.2.1 d_Positions_finish_37 (by decide) ?_
    refine lv_istore_n (lv' := [(2, .int 0), (0, .ref a0), (1, .int x1)]) S.1 S.2.1 d_Positions_finish_38 rfl hl (by decide) rfl (fun ls hl => ?_)
    exact w_Positions_finish_39 S hr hlocks  _ _ _ _ _ _ _ hw (lv_sub hl [1, 0] rfl) hf
def f_PatternParser_parse_90 (a0 : Nat) (x1 : Int32) (a2 : Nat) (ω : xS) : Option xS :=
  (xgi ω a0 6 8).bind fun t25 =>
  if t25 = 0 then (
    (xgi ω a0 6 8).bind fun t27 =>
    if t27 = 0 then (
      some ω)
    else (
      (xgi ω a0 6 5).bind fun t29 =>
      (xk ω a2 7 (f_Positions_finish a2 t29 ω)).bind fun w32 =>
      some w32))
  else (
    (xgi ω a2 7 5).bind fun t33 =>
    if t33 = 0 then (
      (xgi ω a0 6 8).bind fun t35 =>
      if t35 = 0 then (
        some ω)
      else (
        (xgi ω a0 6 5).bind fun t37 =>
        (xk ω a2 7 (f_Positions_finish a2 t37 ω)).bind fun w40 =>
        some w40))
    else (
      (xk ω a0 6 (f_PatternParser_refuse a0 3 x1 ω)).bind fun w43 =>
      some w43))
set_option maxHeartbeats 4000000 in
set_option maxRecDepth 100000 in
theorem w_PatternParser_parse_90 {p : Program} {l : Launch} {e : Env} {s : State} {m : MethodId} {args : Array Value} {below : List Frame} {meth : Method} {c : Code} {E : xV} {z : Nat} {ω1 : xS} (S : CallFix p m c b_PatternParser_parse 4 s args xTbl "RosterRules$PatternParser") (hr : meth.sig.returnType = none) (hlocks : meth.locks = false) : ∀ (a0 : Nat) (x1 : Int32) (a2 : Nat) (ω : xS) (H : Heap) (locs : List Loc) (ls : Array Slot), xW E z ω s s.heap H locs → lv_has ls 4 [(0, .ref a0), (1, .int x1), (2, .ref a2)] → f_PatternParser_parse_90 a0 x1 a2 ω = some ω1 → W p l e (headSpec ws_PatternParser_parse { frames := 3, cells := 0, slots := 0, locals := 77 }).room s m args below meth c H locs 0 0 (MQ below (xQ E none z ω1) args s 0 0 (fun q => E.2.2 ≤ q)) (F0 m 90 ls []) := by
  intro a0 x1 a2 ω H locs ls hw hl hf
  unfold f_PatternParser_parse_90 at hf
  refine lv_aload_n S.1 S.2.1 d_PatternParser_parse_90 rfl (lv_at hl 0 rfl) ?_
  obtain ⟨t25, ht25, hf⟩ := xb hf
  refine x_geti S hw lk_PatternParser_36 ht25 d_PatternParser_parse_91 ?_
  refine lv_if_eq (tgt := 113) S.1 S.2.1 d_PatternParser_parse_94 (by decide) (fun c26 => ?_) (fun c26 => ?_)
  · replace hf := xt c26 hf
    refine lv_aload_n S.1 S.2.1 d_PatternParser_parse_113 rfl (lv_at hl 0 rfl) ?_
    obtain ⟨t27, ht27, hf⟩ := xb hf
    refine x_geti S hw lk_PatternParser_36 ht27 d_PatternParser_parse_114 ?_
    refine lv_if_eq (tgt := 128) S.1 S.2.1 d_PatternParser_parse_117 (by decide) (fun c28 => ?_) (fun c28 => ?_)
    · replace hf := xt c28 hf
      cases hf
      exact x_vret S hr hlocks hw d_PatternParser_parse_128
    · replace hf := xf c28 hf
      refine lv_aload_n S.1 S.2.1 d_PatternParser_parse_120 rfl (lv_at hl 2 rfl) ?_
      refine lv_aload_n S.1 S.2.1 d_PatternParser_parse_121 rfl (lv_at hl 0 rfl) ?_
      obtain ⟨t29, ht29, hf⟩ := xb hf
      refine x_geti S hw lk_PatternParser_43 ht29 d_PatternParser_parse_122 ?_
      obtain ⟨w32, h30, hf⟩ := xb hf
      obtain ⟨h30b, h30⟩ := xkb h30
      refine x_callV (As := [.int t29]) (rest := []) (st1 := []) S hw (c_Positions_finish h30) (cwV 1 S.2.2.2.2 gv_PatternParser_69 rfl rfl rfl hd_Positions_finish ⟨Nat.le_of_ble_eq_true rfl, Nat.le_of_ble_eq_true rfl⟩) rfl h30b rfl hl.1 rfl rfl (Nat.le_of_ble_eq_true rfl) d_PatternParser_parse_125 ⟨Nat.le_of_ble_eq_true rfl, Nat.le_of_ble_eq_true rfl⟩ (fun H locs hw => ?_)
      cases hf
      exact x_vret S hr hlocks hw d_PatternParser_parse_128
  · replace hf := xf c26 hf
    refine lv_aload_n S.1 S.2.1 d_PatternParser_parse_97 rfl (lv_at hl 2 rfl) ?_
    obtain ⟨t33, ht33, hf⟩ := xb hf
    refine x_geti S hw lk_PatternParser_60 ht33 d_PatternParser_parse_98 ?_
    refine lv_if_eq (tgt := 113) S.1 S.2.1 d_PatternParser_parse_101 (by decide) (fun c34 => ?_) (fun c34 => ?_)
    · replace hf := xt c34 hf
      refine lv_aload_n S.1 S.2.1 d_PatternParser_parse_113 rfl (lv_at hl 0 rfl) ?_
      obtain ⟨t35, ht35, hf⟩ := xb hf
      refine x_geti S hw lk_PatternParser_36 ht35 d_PatternParser_parse_114 ?_
      refine lv_if_eq (tgt := 128) S.1 S.2.1 d_PatternParser_parse_117 (by decide) (fun c36 => ?_) (fun c36 => ?_)
      · replace hf := xt c36 hf
        cases hf
        exact x_vret S hr hlocks hw d_PatternParser_parse_128
      · replace hf := xf c36 hf
        refine lv_aload_n S.1 S.2.1 d_PatternParser_parse_120 rfl (lv_at hl 2 rfl) ?_
        refine lv_aload_n S.1 S.2.1 d_PatternParser_parse_121 rfl (lv_at hl 0 rfl) ?_
        obtain ⟨t37, ht37, hf⟩ := xb hf
        refine x_geti S hw lk_PatternParser_43 ht37 d_PatternParser_parse_122 ?_
        obtain ⟨w40, h38, hf⟩ := xb hf
        obtain ⟨h38b, h38⟩ := xkb h38
        refine x_callV (As := [.int t37]) (rest := []) (st1 := []) S hw (c_Positions_finish h38) (cwV 1 S.2.2.2.2 gv_PatternParser_69 rfl rfl rfl hd_Positions_finish ⟨Nat.le_of_ble_eq_true rfl, Nat.le_of_ble_eq_true rfl⟩) rfl h38b rfl hl.1 rfl rfl (Nat.le_of_ble_eq_true rfl) d_PatternParser_parse_125 ⟨Nat.le_of_ble_eq_true rfl, Nat.le_of_ble_eq_true rfl⟩ (fun H locs hw => ?_)
        cases hf
        exact x_vret S hr hlocks hw d_PatternParser_parse_128
    · replace hf := xf c34 hf
      refine lv_aload_n S.1 S.2.1 d_PatternParser_parse_104 rfl (lv_at hl 0 rfl) ?_
      refine lv_iconst (v := 3) S.1 S.2.1 d_PatternParser_parse_105 (by decide) ?_
      refine lv_iload_n S.1 S.2.1 d_PatternParser_parse_106 rfl (lv_at hl 1 rfl) ?_
      obtain ⟨w43, h41, hf⟩ := xb hf
      obtain ⟨h41b, h41⟩ := xkb h41
      refine x_callV (As := [.int 3, .int x1]) (rest := []) (st1 := []) S hw (c_PatternParser_refuse h41) (cwV 2 S.2.2.2.2 gv_PatternParser_65 rfl rfl rfl hd_PatternParser_refuse ⟨Nat.le_of_ble_eq_true rfl, Nat.le_of_ble_eq_true rfl⟩) rfl h41b rfl hl.1 rfl rfl (Nat.le_of_ble_eq_true rfl) d_PatternParser_parse_107 ⟨Nat.le_of_ble_eq_true rfl, Nat.le_of_ble_eq_true rfl⟩ (fun H locs hw => ?_)
      refine lv_goto (tgt := 128) S.1 S.2.1 d_PatternParser_parse_110 (by decide) ?_
      cases hf
      exact x_vret S hr hlocks hw d_PatternParser_parse_128
def f_PatternParser_parse_48 : Nat → Nat → Int32 → Nat → Int32 → xS → Option xS
  | 0, _, _, _, _, _ => none
  | n + 1, a0, x1, a2, x3, ω =>
    if 40 < x3 then (
      f_PatternParser_parse_90  a0 x1 a2 ω)
    else (
      (xgi ω a0 6 10).bind fun t14 =>
      if t14 = 0 then (
        (xgi ω a0 6 8).bind fun t16 =>
        if t16 = 0 then (
          (xgr ω a0 6 0).bind fun t18 =>
          (xgi ω a0 6 9).bind fun t19 =>
          (xk ω t18 9 (f_Tape_byteAt t18 t19 ω)).bind fun t21 =>
          (xk ω a0 6 (f_PatternParser_takeByte a0 t21 a2 ω)).bind fun w24 =>
          f_PatternParser_parse_48  n a0 x1 a2 (x3 + 1) w24)
        else (
          f_PatternParser_parse_90  a0 x1 a2 ω))
      else (
        f_PatternParser_parse_90  a0 x1 a2 ω))
set_option maxHeartbeats 4000000 in
set_option maxRecDepth 100000 in
theorem w_PatternParser_parse_48 {p : Program} {l : Launch} {e : Env} {s : State} {m : MethodId} {args : Array Value} {below : List Frame} {meth : Method} {c : Code} {E : xV} {z : Nat} {ω1 : xS} (S : CallFix p m c b_PatternParser_parse 4 s args xTbl "RosterRules$PatternParser") (hr : meth.sig.returnType = none) (hlocks : meth.locks = false) : ∀ n : Nat, ∀ (a0 : Nat) (x1 : Int32) (a2 : Nat) (x3 : Int32) (ω : xS) (H : Heap) (locs : List Loc) (ls : Array Slot), xW E z ω s s.heap H locs → lv_has ls 4 [(0, .ref a0), (1, .int x1), (2, .ref a2), (3, .int x3)] → f_PatternParser_parse_48 n a0 x1 a2 x3 ω = some ω1 → W p l e (headSpec ws_PatternParser_parse { frames := 3, cells := 0, slots := 0, locals := 77 }).room s m args below meth c H locs 0 0 (MQ below (xQ E none z ω1) args s 0 0 (fun q => E.2.2 ≤ q)) (F0 m 48 ls []) := by
  intro n
  induction n with
  | zero =>
    intro a0 x1 a2 x3 ω H locs ls hw hl hf
    have h2 : (none : Option xS) = some ω1 := hf
    cases h2
  | succ n ih =>
    intro a0 x1 a2 x3 ω H locs ls hw hl hf
    rw [f_PatternParser_parse_48] at hf
    refine lv_iload_n S.1 S.2.1 d_PatternParser_parse_48 rfl (lv_at hl 3 rfl) ?_
    refine lv_bipush (v := 40) S.1 S.2.1 d_PatternParser_parse_49 (by decide) ?_
    refine lv_icmp_gt (tgt := 90) S.1 S.2.1 d_PatternParser_parse_51 (by decide) (fun c13 => ?_) (fun c13 => ?_)
    · replace hf := xt c13 hf
      exact w_PatternParser_parse_90 S hr hlocks  _ _ _ _ _ _ _ hw (lv_sub hl [0, 1, 2] rfl) hf
    · replace hf := xf c13 hf
      refine lv_aload_n S.1 S.2.1 d_PatternParser_parse_54 rfl (lv_at hl 0 rfl) ?_
      obtain ⟨t14, ht14, hf⟩ := xb hf
      refine x_geti S hw lk_PatternParser_32 ht14 d_PatternParser_parse_55 ?_
      refine lv_if_ne (tgt := 90) S.1 S.2.1 d_PatternParser_parse_58 (by decide) (fun c15 => ?_) (fun c15 => ?_)
      · replace hf := xf c15 hf
        exact w_PatternParser_parse_90 S hr hlocks  _ _ _ _ _ _ _ hw (lv_sub hl [0, 1, 2] rfl) hf
      · replace hf := xt c15 hf
        refine lv_aload_n S.1 S.2.1 d_PatternParser_parse_61 rfl (lv_at hl 0 rfl) ?_
        obtain ⟨t16, ht16, hf⟩ := xb hf
        refine x_geti S hw lk_PatternParser_36 ht16 d_PatternParser_parse_62 ?_
        refine lv_if_ne (tgt := 90) S.1 S.2.1 d_PatternParser_parse_65 (by decide) (fun c17 => ?_) (fun c17 => ?_)
        · replace hf := xf c17 hf
          exact w_PatternParser_parse_90 S hr hlocks  _ _ _ _ _ _ _ hw (lv_sub hl [0, 1, 2] rfl) hf
        · replace hf := xt c17 hf
          refine lv_aload_n S.1 S.2.1 d_PatternParser_parse_68 rfl (lv_at hl 0 rfl) ?_
          refine lv_aload_n S.1 S.2.1 d_PatternParser_parse_69 rfl (lv_at hl 0 rfl) ?_
          obtain ⟨t18, ht18, hf⟩ := xb hf
          refine x_getr S hw lk_PatternParser_23 ht18 d_PatternParser_parse_70 ?_
          refine lv_aload_n S.1 S.2.1 d_PatternParser_parse_73 rfl (lv_at hl 0 rfl) ?_
          obtain ⟨t19, ht19, hf⟩ := xb hf
          refine x_geti S hw lk_PatternParser_40 ht19 d_PatternParser_parse_74 ?_
          obtain ⟨t21, h20, hf⟩ := xb hf
          obtain ⟨h20b, h20⟩ := xkb h20
          refine x_callV (As := [.int t19]) (rest := [.ref a0]) (st1 := [.int t21, .ref a0]) S hw (c_Tape_byteAt h20) (cwV 1 S.2.2.2.2 gv_PatternParser_50 rfl rfl rfl hd_Tape_byteAt ⟨Nat.le_of_ble_eq_true rfl, Nat.le_of_ble_eq_true rfl⟩) rfl h20b rfl hl.1 rfl rfl (Nat.le_of_ble_eq_true rfl) d_PatternParser_parse_77 ⟨Nat.le_of_ble_eq_true rfl, Nat.le_of_ble_eq_true rfl⟩ (fun H locs hw => ?_)
          refine lv_aload_n S.1 S.2.1 d_PatternParser_parse_80 rfl (lv_at hl 2 rfl) ?_
          obtain ⟨w24, h22, hf⟩ := xb hf
          obtain ⟨h22b, h22⟩ := xkb h22
          refine x_callV (As := [.int t21, .ref a2]) (rest := []) (st1 := []) S hw (c_PatternParser_takeByte h22) (cwV 2 S.2.2.2.2 gv_PatternParser_56 rfl rfl rfl hd_PatternParser_takeByte ⟨Nat.le_of_ble_eq_true rfl, Nat.le_of_ble_eq_true rfl⟩) rfl h22b rfl hl.1 rfl rfl (Nat.le_of_ble_eq_true rfl) d_PatternParser_parse_81 ⟨Nat.le_of_ble_eq_true rfl, Nat.le_of_ble_eq_true rfl⟩ (fun H locs hw => ?_)
          refine lv_iinc (v := (x3 + 1)) (lv' := [(3, .int (x3 + 1)), (0, .ref a0), (1, .int x1), (2, .ref a2)]) S.1 S.2.1 d_PatternParser_parse_84 hl (k := 3) rfl rfl (by decide) rfl (fun ls hl => ?_)
          refine lv_goto (tgt := 48) S.1 S.2.1 d_PatternParser_parse_87 (by decide) ?_
          exact ih _ _ _ _ _ _ _ _ hw (lv_sub hl [1, 2, 3, 0] rfl) hf
def f_PatternParser_parse (a0 : Nat) (x1 : Int32) (a2 : Nat) (ω : xS) : Option xS :=
  (xk ω a2 7 (f_Positions_clear a2  ω)).bind fun w3 =>
  (xp w3 a0 6 10 (.int 0)).bind fun w4 =>
  (xp w4 a0 6 8 (.int 0)).bind fun w5 =>
  (xp w5 a0 6 9 (.int (x1 + 1))).bind fun w6 =>
  (xp w6 a0 6 5 (.int (-1))).bind fun w7 =>
  (xp w7 a0 6 4 (.int 0)).bind fun w8 =>
  (xgr w8 a0 6 1).bind fun t9 =>
  (xsi w8 t9 0 0).bind fun w10 =>
  (xgr w10 a0 6 2).bind fun t11 =>
  (xsi w10 t11 0 1048576).bind fun w12 =>
  f_PatternParser_parse_48  xFU a0 x1 a2 0 w12
set_option maxHeartbeats 4000000 in
set_option maxRecDepth 100000 in
theorem c_PatternParser_parse {l : Launch} {E : xV} {z : Nat} {a0 : Nat} {x1 : Int32} {a2 : Nat} {ω1 : xS} {ω : xS} (hf : f_PatternParser_parse a0 x1 a2 ω = some ω1) : xM l E y_PatternParser_parse ws_PatternParser_parse { frames := 3, cells := 0, slots := 0, locals := 77 } [.ref a0, .int x1, .ref a2] z ω none z ω1 := by
  refine x_start (cc := b_PatternParser_parse) (maxL := 4) (ret := none) (by decide) rfl (Nat.le_of_ble_eq_true rfl) ?_
  intro p e s m below meth c S hr hlocks hin ls hl hw
  have hl : lv_has ls 4 [(0, .ref a0), (1, .int x1), (2, .ref a2)] := hl
  unfold f_PatternParser_parse at hf
  refine lv_aload_n S.1 S.2.1 d_PatternParser_parse_0 rfl (lv_at hl 2 rfl) ?_
  obtain ⟨w3, h1, hf⟩ := xb hf
  obtain ⟨h1b, h1⟩ := xkb h1
  refine x_callV (As := []) (rest := []) (st1 := []) S hw (c_Positions_clear h1) (cwV 0 S.2.2.2.2 gv_PatternParser_27 rfl rfl rfl hd_Positions_clear ⟨Nat.le_of_ble_eq_true rfl, Nat.le_of_ble_eq_true rfl⟩) rfl h1b rfl hl.1 rfl rfl (Nat.le_of_ble_eq_true rfl) d_PatternParser_parse_1 ⟨Nat.le_of_ble_eq_true rfl, Nat.le_of_ble_eq_true rfl⟩ (fun H locs hw => ?_)
  refine lv_aload_n S.1 S.2.1 d_PatternParser_parse_4 rfl (lv_at hl 0 rfl) ?_
  refine lv_iconst (v := 0) S.1 S.2.1 d_PatternParser_parse_5 (by decide) ?_
  obtain ⟨w4, hw4, hf⟩ := xb hf
  refine x_puti S hw lp_PatternParser_32 hw4 d_PatternParser_parse_6 (fun H locs hw => ?_)
  refine lv_aload_n S.1 S.2.1 d_PatternParser_parse_9 rfl (lv_at hl 0 rfl) ?_
  refine lv_iconst (v := 0) S.1 S.2.1 d_PatternParser_parse_10 (by decide) ?_
  obtain ⟨w5, hw5, hf⟩ := xb hf
  refine x_put S hw lp_PatternParser_36 (by decide) rfl hw5 d_PatternParser_parse_11 (fun H locs hw => ?_)
  refine lv_aload_n S.1 S.2.1 d_PatternParser_parse_14 rfl (lv_at hl 0 rfl) ?_
  refine lv_iload_n S.1 S.2.1 d_PatternParser_parse_15 rfl (lv_at hl 1 rfl) ?_
  refine lv_iconst (v := 1) S.1 S.2.1 d_PatternParser_parse_16 (by decide) ?_
  refine lv_iadd S.1 S.2.1 d_PatternParser_parse_17 ?_
  obtain ⟨w6, hw6, hf⟩ := xb hf
  refine x_puti S hw lp_PatternParser_40 hw6 d_PatternParser_parse_18 (fun H locs hw => ?_)
  refine lv_aload_n S.1 S.2.1 d_PatternParser_parse_21 rfl (lv_at hl 0 rfl) ?_
  refine lv_iconst (v := (-1)) S.1 S.2.1 d_PatternParser_parse_22 (by decide) ?_
  obtain ⟨w7, hw7, hf⟩ := xb hf
  refine x_puti S hw lp_PatternParser_43 hw7 d_PatternParser_parse_23 (fun H locs hw => ?_)
  refine lv_aload_n S.1 S.2.1 d_PatternParser_parse_26 rfl (lv_at hl 0 rfl) ?_
  refine lv_iconst (v := 0) S.1 S.2.1 d_PatternParser_parse_27 (by decide) ?_
  obtain ⟨w8, hw8, hf⟩ := xb hf
  refine x_puti S hw lp_PatternParser_46 hw8 d_PatternParser_parse_28 (fun H locs hw => ?_)
  refine lv_aload_n S.1 S.2.1 d_PatternParser_parse_31 rfl (lv_at hl 0 rfl) ?_
  obtain ⟨t9, ht9, hf⟩ := xb hf
  refine x_getr S hw lk_PatternParser_13 ht9 d_PatternParser_parse_32 ?_
  refine lv_iconst (v := 0) S.1 S.2.1 d_PatternParser_parse_35 (by decide) ?_
  refine lv_iconst (v := 0) S.1 S.2.1 d_PatternParser_parse_36 (by decide) ?_
  obtain ⟨w10, hw10, hf⟩ := xb hf
  refine x_iast S hw hw10 d_PatternParser_parse_37 (fun H locs hw => ?_)
  refine lv_aload_n S.1 S.2.1 d_PatternParser_parse_38 rfl (lv_at hl 0 rfl) ?_
  obtain ⟨t11, ht11, hf⟩ := xb hf
  refine x_getr S hw lk_PatternParser_17 ht11 d_PatternParser_parse_39 ?_
  refine lv_iconst (v := 0) S.1 S.2.1 d_PatternParser_parse_42 (by decide) ?_
  refine lv_ldc (v := 1048576) S.1 S.2.1 S.2.2.2.1 (S.2.2.2.2 _ wd_3_75) d_PatternParser_parse_43 ?_
  obtain ⟨w12, hw12, hf⟩ := xb hf
  refine x_iast S hw hw12 d_PatternParser_parse_45 (fun H locs hw => ?_)
  refine lv_iconst (v := 0) S.1 S.2.1 d_PatternParser_parse_46 (by decide) ?_
  refine lv_istore_n (lv' := [(3, .int 0), (0, .ref a0), (1, .int x1), (2, .ref a2)]) S.1 S.2.1 d_PatternParser_parse_47 rfl hl (by decide) rfl (fun ls hl => ?_)
  exact w_PatternParser_parse_48 S hr hlocks  _ _ _ _ _ _ _ _ _ hw (lv_sub hl [1, 2, 3, 0] rfl) hf
def f_LawReader_pattern (a0 : Nat) (a1 : Nat) (ω : xS) : Option xS :=
  xc (xk ω a0 5 (f_LawReader_expect a0 4 ω)) fun t2 w3 =>
  if t2 = 0 then (
    some w3)
  else (
    (xgr w3 a0 5 1).bind fun t5 =>
    (xgr w3 a0 5 0).bind fun t6 =>
    (xgi w3 t6 10 2).bind fun t7 =>
    (xk w3 t5 6 (f_PatternParser_parse t5 t7 a1 w3)).bind fun w10 =>
    (xgr w10 a0 5 1).bind fun t11 =>
    (xgi w10 t11 6 10).bind fun t12 =>
    if t12 = 0 then (
      some w10)
    else (
      (xgr w10 a0 5 1).bind fun t14 =>
      (xgi w10 t14 6 10).bind fun t15 =>
      (xgr w10 a0 5 1).bind fun t16 =>
      (xgi w10 t16 6 11).bind fun t17 =>
      (xk w10 a0 5 (f_LawReader_refuse a0 t15 t17 w10)).bind fun w20 =>
      some w20))
set_option maxHeartbeats 4000000 in
set_option maxRecDepth 100000 in
theorem c_LawReader_pattern {l : Launch} {E : xV} {z : Nat} {a0 : Nat} {a1 : Nat} {ω1 : xS} {ω : xS} (hf : f_LawReader_pattern a0 a1 ω = some ω1) : xM l E y_LawReader_pattern ws_LawReader_pattern { frames := 4, cells := 0, slots := 0, locals := 100 } [.ref a0, .ref a1] z ω none z ω1 := by
  refine x_start (cc := b_LawReader_pattern) (maxL := 2) (ret := none) (by decide) rfl (Nat.le_of_ble_eq_true rfl) ?_
  intro p e s m below meth c S hr hlocks hin ls hl hw
  have hl : lv_has ls 2 [(0, .ref a0), (1, .ref a1)] := hl
  unfold f_LawReader_pattern at hf
  refine lv_aload_n S.1 S.2.1 d_LawReader_pattern_0 rfl (lv_at hl 0 rfl) ?_
  refine lv_iconst (v := 4) S.1 S.2.1 d_LawReader_pattern_1 (by decide) ?_
  obtain ⟨t2, w3, h1, hf⟩ := xcb hf
  obtain ⟨h1b, h1⟩ := xkb h1
  refine x_callV (As := [.int 4]) (rest := []) (st1 := [.int t2]) S hw (c_LawReader_expect h1) (cwV 1 S.2.2.2.2 gv_LawReader_94 rfl rfl rfl hd_LawReader_expect ⟨Nat.le_of_ble_eq_true rfl, Nat.le_of_ble_eq_true rfl⟩) rfl h1b rfl hl.1 rfl rfl (Nat.le_of_ble_eq_true rfl) d_LawReader_pattern_2 ⟨Nat.le_of_ble_eq_true rfl, Nat.le_of_ble_eq_true rfl⟩ (fun H locs hw => ?_)
  refine lv_if_ne (tgt := 9) S.1 S.2.1 d_LawReader_pattern_5 (by decide) (fun c4 => ?_) (fun c4 => ?_)
  · replace hf := xf c4 hf
    refine lv_aload_n S.1 S.2.1 d_LawReader_pattern_9 rfl (lv_at hl 0 rfl) ?_
    obtain ⟨t5, ht5, hf⟩ := xb hf
    refine x_getr S hw lk_LawReader_27 ht5 d_LawReader_pattern_10 ?_
    refine lv_aload_n S.1 S.2.1 d_LawReader_pattern_13 rfl (lv_at hl 0 rfl) ?_
    obtain ⟨t6, ht6, hf⟩ := xb hf
    refine x_getr S hw lk_LawReader_20 ht6 d_LawReader_pattern_14 ?_
    obtain ⟨t7, ht7, hf⟩ := xb hf
    refine x_geti S hw lk_LawReader_44 ht7 d_LawReader_pattern_17 ?_
    refine lv_aload_n S.1 S.2.1 d_LawReader_pattern_20 rfl (lv_at hl 1 rfl) ?_
    obtain ⟨w10, h8, hf⟩ := xb hf
    obtain ⟨h8b, h8⟩ := xkb h8
    refine x_callV (As := [.int t7, .ref a1]) (rest := []) (st1 := []) S hw (c_PatternParser_parse h8) (cwV 2 S.2.2.2.2 gv_LawReader_112 rfl rfl rfl hd_PatternParser_parse ⟨Nat.le_of_ble_eq_true rfl, Nat.le_of_ble_eq_true rfl⟩) rfl h8b rfl hl.1 rfl rfl (Nat.le_of_ble_eq_true rfl) d_LawReader_pattern_21 ⟨Nat.le_of_ble_eq_true rfl, Nat.le_of_ble_eq_true rfl⟩ (fun H locs hw => ?_)
    refine lv_aload_n S.1 S.2.1 d_LawReader_pattern_24 rfl (lv_at hl 0 rfl) ?_
    obtain ⟨t11, ht11, hf⟩ := xb hf
    refine x_getr S hw lk_LawReader_27 ht11 d_LawReader_pattern_25 ?_
    obtain ⟨t12, ht12, hf⟩ := xb hf
    refine x_geti S hw lk_LawReader_116 ht12 d_LawReader_pattern_28 ?_
    refine lv_if_eq (tgt := 52) S.1 S.2.1 d_LawReader_pattern_31 (by decide) (fun c13 => ?_) (fun c13 => ?_)
    · replace hf := xt c13 hf
      cases hf
      exact x_vret S hr hlocks hw d_LawReader_pattern_52
    · replace hf := xf c13 hf
      refine lv_aload_n S.1 S.2.1 d_LawReader_pattern_34 rfl (lv_at hl 0 rfl) ?_
      refine lv_aload_n S.1 S.2.1 d_LawReader_pattern_35 rfl (lv_at hl 0 rfl) ?_
      obtain ⟨t14, ht14, hf⟩ := xb hf
      refine x_getr S hw lk_LawReader_27 ht14 d_LawReader_pattern_36 ?_
      obtain ⟨t15, ht15, hf⟩ := xb hf
      refine x_geti S hw lk_LawReader_116 ht15 d_LawReader_pattern_39 ?_
      refine lv_aload_n S.1 S.2.1 d_LawReader_pattern_42 rfl (lv_at hl 0 rfl) ?_
      obtain ⟨t16, ht16, hf⟩ := xb hf
      refine x_getr S hw lk_LawReader_27 ht16 d_LawReader_pattern_43 ?_
      obtain ⟨t17, ht17, hf⟩ := xb hf
      refine x_geti S hw lk_LawReader_117 ht17 d_LawReader_pattern_46 ?_
      obtain ⟨w20, h18, hf⟩ := xb hf
      obtain ⟨h18b, h18⟩ := xkb h18
      refine x_callV (As := [.int t15, .int t17]) (rest := []) (st1 := []) S hw (c_LawReader_refuse h18) (cwV 2 S.2.2.2.2 gv_LawReader_47 rfl rfl rfl hd_LawReader_refuse ⟨Nat.le_of_ble_eq_true rfl, Nat.le_of_ble_eq_true rfl⟩) rfl h18b rfl hl.1 rfl rfl (Nat.le_of_ble_eq_true rfl) d_LawReader_pattern_49 ⟨Nat.le_of_ble_eq_true rfl, Nat.le_of_ble_eq_true rfl⟩ (fun H locs hw => ?_)
      cases hf
      exact x_vret S hr hlocks hw d_LawReader_pattern_52
  · replace hf := xt c4 hf
    cases hf
    exact x_vret S hr hlocks hw d_LawReader_pattern_8
def f_Tokens_namedLetter (a0 : Nat) (ω : xS) : Option Int32 :=
  (xgr ω a0 10 0).bind fun t1 =>
  (xgi ω a0 10 2).bind fun t2 =>
  (xk ω t1 9 (f_Tape_byteAt t1 t2 ω)).bind fun t4 =>
  (xgi ω a0 10 1).bind fun t5 =>
  if t5 = 2 then (
    (xgi ω a0 10 3).bind fun t7 =>
    (xgi ω a0 10 2).bind fun t8 =>
    if (t7 - t8) = 1 then (
      if 104 < t4 then (
        some 0)
      else (
        some ((t4 - 97) + 1)))
    else (
      some 0))
  else (
    some 0)
set_option maxHeartbeats 4000000 in
set_option maxRecDepth 100000 in
theorem c_Tokens_namedLetter {l : Launch} {E : xV} {z : Nat} {a0 : Nat} {r : Int32} {ω : xS} (hf : f_Tokens_namedLetter a0 ω = some r) : xM l E y_Tokens_namedLetter ws_Tokens_namedLetter { frames := 1, cells := 0, slots := 0, locals := 21 } [.ref a0] z ω (some (.int r)) z ω := by
  refine x_start (cc := b_Tokens_namedLetter) (maxL := 2) (ret := (some .int)) (by decide) rfl (Nat.le_of_ble_eq_true rfl) ?_
  intro p e s m below meth c S hr hlocks hin ls hl hw
  have hl : lv_has ls 2 [(0, .ref a0)] := hl
  unfold f_Tokens_namedLetter at hf
  refine lv_aload_n S.1 S.2.1 d_Tokens_namedLetter_0 rfl (lv_at hl 0 rfl) ?_
  obtain ⟨t1, ht1, hf⟩ := xb hf
  refine x_getr S hw lk_Tokens_9 ht1 d_Tokens_namedLetter_1 ?_
  refine lv_aload_n S.1 S.2.1 d_Tokens_namedLetter_4 rfl (lv_at hl 0 rfl) ?_
  obtain ⟨t2, ht2, hf⟩ := xb hf
  refine x_geti S hw lk_Tokens_19 ht2 d_Tokens_namedLetter_5 ?_
  obtain ⟨t4, h3, hf⟩ := xb hf
  obtain ⟨h3b, h3⟩ := xkb h3
  refine x_callV (As := [.int t2]) (rest := []) (st1 := [.int t4]) S hw (c_Tape_byteAt h3) (cwV 1 S.2.2.2.2 gv_Tokens_31 rfl rfl rfl hd_Tape_byteAt ⟨Nat.le_of_ble_eq_true rfl, Nat.le_of_ble_eq_true rfl⟩) rfl h3b rfl hl.1 rfl rfl (Nat.le_of_ble_eq_true rfl) d_Tokens_namedLetter_8 ⟨Nat.le_of_ble_eq_true rfl, Nat.le_of_ble_eq_true rfl⟩ (fun H locs hw => ?_)
  refine lv_istore_n (lv' := [(1, .int t4), (0, .ref a0)]) S.1 S.2.1 d_Tokens_namedLetter_11 rfl hl (by decide) rfl (fun ls hl => ?_)
  refine lv_aload_n S.1 S.2.1 d_Tokens_namedLetter_12 rfl (lv_at hl 1 rfl) ?_
  obtain ⟨t5, ht5, hf⟩ := xb hf
  refine x_geti S hw lk_Tokens_38 ht5 d_Tokens_namedLetter_13 ?_
  refine lv_iconst (v := 2) S.1 S.2.1 d_Tokens_namedLetter_16 (by decide) ?_
  refine lv_icmp_ne (tgt := 48) S.1 S.2.1 d_Tokens_namedLetter_17 (by decide) (fun c6 => ?_) (fun c6 => ?_)
  · replace hf := xf c6 hf
    refine lv_iconst (v := 0) S.1 S.2.1 d_Tokens_namedLetter_48 (by decide) ?_
    obtain rfl := xe1 hf
    exact x_iret S hr hlocks hw d_Tokens_namedLetter_49
  · replace hf := xt c6 hf
    refine lv_aload_n S.1 S.2.1 d_Tokens_namedLetter_20 rfl (lv_at hl 1 rfl) ?_
    obtain ⟨t7, ht7, hf⟩ := xb hf
    refine x_geti S hw lk_Tokens_15 ht7 d_Tokens_namedLetter_21 ?_
    refine lv_aload_n S.1 S.2.1 d_Tokens_namedLetter_24 rfl (lv_at hl 1 rfl) ?_
    obtain ⟨t8, ht8, hf⟩ := xb hf
    refine x_geti S hw lk_Tokens_19 ht8 d_Tokens_namedLetter_25 ?_
    refine lv_isub S.1 S.2.1 d_Tokens_namedLetter_28 ?_
    refine lv_iconst (v := 1) S.1 S.2.1 d_Tokens_namedLetter_29 (by decide) ?_
    refine lv_icmp_ne (tgt := 48) S.1 S.2.1 d_Tokens_namedLetter_30 (by decide) (fun c9 => ?_) (fun c9 => ?_)
    · replace hf := xf c9 hf
      refine lv_iconst (v := 0) S.1 S.2.1 d_Tokens_namedLetter_48 (by decide) ?_
      obtain rfl := xe1 hf
      exact x_iret S hr hlocks hw d_Tokens_namedLetter_49
    · replace hf := xt c9 hf
      refine lv_iload_n S.1 S.2.1 d_Tokens_namedLetter_33 rfl (lv_at hl 0 rfl) ?_
      refine lv_bipush (v := 104) S.1 S.2.1 d_Tokens_namedLetter_34 (by decide) ?_
      refine lv_icmp_gt (tgt := 48) S.1 S.2.1 d_Tokens_namedLetter_36 (by decide) (fun c10 => ?_) (fun c10 => ?_)
      · replace hf := xt c10 hf
        refine lv_iconst (v := 0) S.1 S.2.1 d_Tokens_namedLetter_48 (by decide) ?_
        obtain rfl := xe1 hf
        exact x_iret S hr hlocks hw d_Tokens_namedLetter_49
      · replace hf := xf c10 hf
        refine lv_iload_n S.1 S.2.1 d_Tokens_namedLetter_39 rfl (lv_at hl 0 rfl) ?_
        refine lv_bipush (v := 97) S.1 S.2.1 d_Tokens_namedLetter_40 (by decide) ?_
        refine lv_isub S.1 S.2.1 d_Tokens_namedLetter_42 ?_
        refine lv_iconst (v := 1) S.1 S.2.1 d_Tokens_namedLetter_43 (by decide) ?_
        refine lv_iadd S.1 S.2.1 d_Tokens_namedLetter_44 ?_
        refine lv_goto (tgt := 49) S.1 S.2.1 d_Tokens_namedLetter_45 (by decide) ?_
        obtain rfl := xe1 hf
        exact x_iret S hr hlocks hw d_Tokens_namedLetter_49
def f_LawReader_shiftLetter (a0 : Nat) (ω : xS) : Option (Int32 × xS) :=
  xc (xk ω a0 5 (f_LawReader_expect a0 2 ω)) fun t2 w3 =>
  if t2 = 0 then (
    some (0, w3))
  else (
    (xgr w3 a0 5 0).bind fun t5 =>
    (xk w3 t5 10 (f_Tokens_namedLetter t5  w3)).bind fun t7 =>
    if t7 = 0 then (
      (xgr w3 a0 5 0).bind fun t9 =>
      (xgi w3 t9 10 2).bind fun t10 =>
      (xk w3 a0 5 (f_LawReader_refuse a0 2 t10 w3)).bind fun w13 =>
      some (t7, w13))
    else (
      some (t7, w3)))
set_option maxHeartbeats 4000000 in
set_option maxRecDepth 100000 in
theorem c_LawReader_shiftLetter {l : Launch} {E : xV} {z : Nat} {a0 : Nat} {r : Int32} {ω1 : xS} {ω : xS} (hf : f_LawReader_shiftLetter a0 ω = some (r, ω1)) : xM l E y_LawReader_shiftLetter ws_LawReader_shiftLetter { frames := 4, cells := 0, slots := 0, locals := 86 } [.ref a0] z ω (some (.int r)) z ω1 := by
  refine x_start (cc := b_LawReader_shiftLetter) (maxL := 2) (ret := (some .int)) (by decide) rfl (Nat.le_of_ble_eq_true rfl) ?_
  intro p e s m below meth c S hr hlocks hin ls hl hw
  have hl : lv_has ls 2 [(0, .ref a0)] := hl
  unfold f_LawReader_shiftLetter at hf
  refine lv_aload_n S.1 S.2.1 d_LawReader_shiftLetter_0 rfl (lv_at hl 0 rfl) ?_
  refine lv_iconst (v := 2) S.1 S.2.1 d_LawReader_shiftLetter_1 (by decide) ?_
  obtain ⟨t2, w3, h1, hf⟩ := xcb hf
  obtain ⟨h1b, h1⟩ := xkb h1
  refine x_callV (As := [.int 2]) (rest := []) (st1 := [.int t2]) S hw (c_LawReader_expect h1) (cwV 1 S.2.2.2.2 gv_LawReader_94 rfl rfl rfl hd_LawReader_expect ⟨Nat.le_of_ble_eq_true rfl, Nat.le_of_ble_eq_true rfl⟩) rfl h1b rfl hl.1 rfl rfl (Nat.le_of_ble_eq_true rfl) d_LawReader_shiftLetter_2 ⟨Nat.le_of_ble_eq_true rfl, Nat.le_of_ble_eq_true rfl⟩ (fun H locs hw => ?_)
  refine lv_if_ne (tgt := 10) S.1 S.2.1 d_LawReader_shiftLetter_5 (by decide) (fun c4 => ?_) (fun c4 => ?_)
  · replace hf := xf c4 hf
    refine lv_aload_n S.1 S.2.1 d_LawReader_shiftLetter_10 rfl (lv_at hl 0 rfl) ?_
    obtain ⟨t5, ht5, hf⟩ := xb hf
    refine x_getr S hw lk_LawReader_20 ht5 d_LawReader_shiftLetter_11 ?_
    obtain ⟨t7, h6, hf⟩ := xb hf
    obtain ⟨h6b, h6⟩ := xkb h6
    refine x_callV (As := []) (rest := []) (st1 := [.int t7]) S hw (c_Tokens_namedLetter h6) (cwV 0 S.2.2.2.2 gv_LawReader_109 rfl rfl rfl hd_Tokens_namedLetter ⟨Nat.le_of_ble_eq_true rfl, Nat.le_of_ble_eq_true rfl⟩) rfl h6b rfl hl.1 rfl rfl (Nat.le_of_ble_eq_true rfl) d_LawReader_shiftLetter_14 ⟨Nat.le_of_ble_eq_true rfl, Nat.le_of_ble_eq_true rfl⟩ (fun H locs hw => ?_)
    refine lv_istore_n (lv' := [(1, .int t7), (0, .ref a0)]) S.1 S.2.1 d_LawReader_shiftLetter_17 rfl hl (by decide) rfl (fun ls hl => ?_)
    refine lv_iload_n S.1 S.2.1 d_LawReader_shiftLetter_18 rfl (lv_at hl 0 rfl) ?_
    refine lv_if_ne (tgt := 34) S.1 S.2.1 d_LawReader_shiftLetter_19 (by decide) (fun c8 => ?_) (fun c8 => ?_)
    · replace hf := xf c8 hf
      refine lv_iload_n S.1 S.2.1 d_LawReader_shiftLetter_34 rfl (lv_at hl 0 rfl) ?_
      obtain ⟨rfl, rfl⟩ := xe2 hf
      exact x_iret S hr hlocks hw d_LawReader_shiftLetter_35
    · replace hf := xt c8 hf
      refine lv_aload_n S.1 S.2.1 d_LawReader_shiftLetter_22 rfl (lv_at hl 1 rfl) ?_
      refine lv_iconst (v := 2) S.1 S.2.1 d_LawReader_shiftLetter_23 (by decide) ?_
      refine lv_aload_n S.1 S.2.1 d_LawReader_shiftLetter_24 rfl (lv_at hl 1 rfl) ?_
      obtain ⟨t9, ht9, hf⟩ := xb hf
      refine x_getr S hw lk_LawReader_20 ht9 d_LawReader_shiftLetter_25 ?_
      obtain ⟨t10, ht10, hf⟩ := xb hf
      refine x_geti S hw lk_LawReader_44 ht10 d_LawReader_shiftLetter_28 ?_
      obtain ⟨w13, h11, hf⟩ := xb hf
      obtain ⟨h11b, h11⟩ := xkb h11
      refine x_callV (As := [.int 2, .int t10]) (rest := []) (st1 := []) S hw (c_LawReader_refuse h11) (cwV 2 S.2.2.2.2 gv_LawReader_47 rfl rfl rfl hd_LawReader_refuse ⟨Nat.le_of_ble_eq_true rfl, Nat.le_of_ble_eq_true rfl⟩) rfl h11b rfl hl.1 rfl rfl (Nat.le_of_ble_eq_true rfl) d_LawReader_shiftLetter_31 ⟨Nat.le_of_ble_eq_true rfl, Nat.le_of_ble_eq_true rfl⟩ (fun H locs hw => ?_)
      refine lv_iload_n S.1 S.2.1 d_LawReader_shiftLetter_34 rfl (lv_at hl 0 rfl) ?_
      obtain ⟨rfl, rfl⟩ := xe2 hf
      exact x_iret S hr hlocks hw d_LawReader_shiftLetter_35
  · replace hf := xt c4 hf
    refine lv_iconst (v := 0) S.1 S.2.1 d_LawReader_shiftLetter_8 (by decide) ?_
    obtain ⟨rfl, rfl⟩ := xe2 hf
    exact x_iret S hr hlocks hw d_LawReader_shiftLetter_9
def f_Roster_init_165 : Nat → Nat → Int32 → Int32 → Int32 → xS → Option xS
  | 0, _, _, _, _, _ => none
  | n + 1, a0, x1, x2, x3, ω =>
    if x2 ≤ x3 then (
      some ω)
    else (
      (xgr ω a0 8 10).bind fun t33 =>
      (xar ω 2 t33 x3).bind fun t34 =>
      (xsi ω t34 0 x1).bind fun w35 =>
      f_Roster_init_165  n a0 x1 x2 (x3 + 1) w35)
set_option maxHeartbeats 4000000 in
set_option maxRecDepth 100000 in
theorem w_Roster_init_165 {p : Program} {l : Launch} {e : Env} {s : State} {m : MethodId} {args : Array Value} {below : List Frame} {meth : Method} {c : Code} {E : xV} {z : Nat} {n1 n2 : Int32} {ω1 : xS} (S : CallFix p m c b_Roster_init 4 s args xTbl "RosterRules$Roster") (hr : meth.sig.returnType = none) (hlocks : meth.locks = false) (hin : meth.name = "<init>") : ∀ n : Nat, ∀ (a0 : Nat) (x1 : Int32) (x2 : Int32) (x3 : Int32) (ω : xS) (H : Heap) (locs : List Loc) (ls : Array Slot), xW E ((((((z + 4) + 1 + n1.toNatClampNeg) + 1 + n1.toNatClampNeg) + 1 + n1.toNatClampNeg) + 1 + n1.toNatClampNeg) + 1 + n2.toNatClampNeg) ω s s.heap H locs → lv_has ls 4 [(0, .ref a0), (1, .int x1), (2, .int x2), (3, .int x3)] → f_Roster_init_165 n a0 x1 x2 x3 ω = some ω1 → W p l e (headSpec ws_Roster_init { frames := 1, cells := (4 + (1 + n1.toNatClampNeg) + (1 + n1.toNatClampNeg) + (1 + n1.toNatClampNeg) + (1 + n1.toNatClampNeg) + (1 + n2.toNatClampNeg)), slots := (27 + n1.toNatClampNeg + (n1.toNatClampNeg + n1.toNatClampNeg * (7 + n2).toNatClampNeg) + (n1.toNatClampNeg + n1.toNatClampNeg * n2.toNatClampNeg) + (n1.toNatClampNeg + n1.toNatClampNeg * n2.toNatClampNeg) + (n1.toNatClampNeg + n1.toNatClampNeg * 9) + (n2.toNatClampNeg + n2.toNatClampNeg * 9)), locals := 20 }).room s m args below meth c H locs (4 + (1 + n1.toNatClampNeg) + (1 + n1.toNatClampNeg) + (1 + n1.toNatClampNeg) + (1 + n1.toNatClampNeg) + (1 + n2.toNatClampNeg)) (27 + n1.toNatClampNeg + (n1.toNatClampNeg + n1.toNatClampNeg * (7 + n2).toNatClampNeg) + (n1.toNatClampNeg + n1.toNatClampNeg * n2.toNatClampNeg) + (n1.toNatClampNeg + n1.toNatClampNeg * n2.toNatClampNeg) + (n1.toNatClampNeg + n1.toNatClampNeg * 9) + (n2.toNatClampNeg + n2.toNatClampNeg * 9)) (MQ below (xQ E none ((((((z + 4) + 1 + n1.toNatClampNeg) + 1 + n1.toNatClampNeg) + 1 + n1.toNatClampNeg) + 1 + n1.toNatClampNeg) + 1 + n2.toNatClampNeg) ω1) args s (4 + (1 + n1.toNatClampNeg) + (1 + n1.toNatClampNeg) + (1 + n1.toNatClampNeg) + (1 + n1.toNatClampNeg) + (1 + n2.toNatClampNeg)) (27 + n1.toNatClampNeg + (n1.toNatClampNeg + n1.toNatClampNeg * (7 + n2).toNatClampNeg) + (n1.toNatClampNeg + n1.toNatClampNeg * n2.toNatClampNeg) + (n1.toNatClampNeg + n1.toNatClampNeg * n2.toNatClampNeg) + (n1.toNatClampNeg + n1.toNatClampNeg * 9) + (n2.toNatClampNeg + n2.toNatClampNeg * 9)) (fun q => E.2.2 ≤ q)) (F0 m 165 ls []) := by
  intro n
  induction n with
  | zero =>
    intro a0 x1 x2 x3 ω H locs ls hw hl hf
    have h2 : (none : Option xS) = some ω1 := hf
    cases h2
  | succ n ih =>
    intro a0 x1 x2 x3 ω H locs ls hw hl hf
    rw [f_Roster_init_165] at hf
    refine lv_iload_n S.1 S.2.1 d_Roster_init_165 rfl (lv_at hl 3 rfl) ?_
    refine lv_iload_n S.1 S.2.1 d_Roster_init_166 rfl (lv_at hl 2 rfl) ?_
    refine lv_icmp_ge (tgt := 185) S.1 S.2.1 d_Roster_init_167 (by decide) (fun c32 => ?_) (fun c32 => ?_)
    · replace hf := xt c32 hf
      cases hf
      exact x_vret S hr hlocks hw d_Roster_init_185
    · replace hf := xf c32 hf
      refine lv_aload_n S.1 S.2.1 d_Roster_init_170 rfl (lv_at hl 0 rfl) ?_
      obtain ⟨t33, ht33, hf⟩ := xb hf
      refine x_getr S hw lk_Roster_45 ht33 d_Roster_init_171 ?_
      refine lv_iload_n S.1 S.2.1 d_Roster_init_174 rfl (lv_at hl 3 rfl) ?_
      obtain ⟨t34, ht34, hf⟩ := xb hf
      refine x_aald S hw (t := 2) rfl rfl ht34 d_Roster_init_175 ?_
      refine lv_iconst (v := 0) S.1 S.2.1 d_Roster_init_176 (by decide) ?_
      refine lv_iload_n S.1 S.2.1 d_Roster_init_177 rfl (lv_at hl 1 rfl) ?_
      obtain ⟨w35, hw35, hf⟩ := xb hf
      refine x_iast S hw hw35 d_Roster_init_178 (fun H locs hw => ?_)
      refine lv_iinc (v := (x3 + 1)) (lv' := [(3, .int (x3 + 1)), (0, .ref a0), (1, .int x1), (2, .int x2)]) S.1 S.2.1 d_Roster_init_179 hl (k := 3) rfl rfl (by decide) rfl (fun ls hl => ?_)
      refine lv_goto (tgt := 165) S.1 S.2.1 d_Roster_init_182 (by decide) ?_
      exact ih _ _ _ _ _ _ _ _ hw (lv_sub hl [1, 2, 3, 0] rfl) hf
def f_Roster_init_134 : Nat → Nat → Int32 → Int32 → Int32 → xS → Option xS
  | 0, _, _, _, _, _ => none
  | n + 1, a0, x1, x2, x3, ω =>
    if x1 ≤ x3 then (
      f_Roster_init_165  xFU a0 x1 x2 0 ω)
    else (
      (xgr ω a0 8 5).bind fun t27 =>
      (xsi ω t27 x3 1023).bind fun w28 =>
      (xgr w28 a0 8 9).bind fun t29 =>
      (xar w28 2 t29 x3).bind fun t30 =>
      (xsi w28 t30 0 x2).bind fun w31 =>
      f_Roster_init_134  n a0 x1 x2 (x3 + 1) w31)
set_option maxHeartbeats 4000000 in
set_option maxRecDepth 100000 in
theorem w_Roster_init_134 {p : Program} {l : Launch} {e : Env} {s : State} {m : MethodId} {args : Array Value} {below : List Frame} {meth : Method} {c : Code} {E : xV} {z : Nat} {n1 n2 : Int32} {ω1 : xS} (S : CallFix p m c b_Roster_init 4 s args xTbl "RosterRules$Roster") (hr : meth.sig.returnType = none) (hlocks : meth.locks = false) (hin : meth.name = "<init>") : ∀ n : Nat, ∀ (a0 : Nat) (x1 : Int32) (x2 : Int32) (x3 : Int32) (ω : xS) (H : Heap) (locs : List Loc) (ls : Array Slot), xW E ((((((z + 4) + 1 + n1.toNatClampNeg) + 1 + n1.toNatClampNeg) + 1 + n1.toNatClampNeg) + 1 + n1.toNatClampNeg) + 1 + n2.toNatClampNeg) ω s s.heap H locs → lv_has ls 4 [(0, .ref a0), (1, .int x1), (2, .int x2), (3, .int x3)] → f_Roster_init_134 n a0 x1 x2 x3 ω = some ω1 → W p l e (headSpec ws_Roster_init { frames := 1, cells := (4 + (1 + n1.toNatClampNeg) + (1 + n1.toNatClampNeg) + (1 + n1.toNatClampNeg) + (1 + n1.toNatClampNeg) + (1 + n2.toNatClampNeg)), slots := (27 + n1.toNatClampNeg + (n1.toNatClampNeg + n1.toNatClampNeg * (7 + n2).toNatClampNeg) + (n1.toNatClampNeg + n1.toNatClampNeg * n2.toNatClampNeg) + (n1.toNatClampNeg + n1.toNatClampNeg * n2.toNatClampNeg) + (n1.toNatClampNeg + n1.toNatClampNeg * 9) + (n2.toNatClampNeg + n2.toNatClampNeg * 9)), locals := 20 }).room s m args below meth c H locs (4 + (1 + n1.toNatClampNeg) + (1 + n1.toNatClampNeg) + (1 + n1.toNatClampNeg) + (1 + n1.toNatClampNeg) + (1 + n2.toNatClampNeg)) (27 + n1.toNatClampNeg + (n1.toNatClampNeg + n1.toNatClampNeg * (7 + n2).toNatClampNeg) + (n1.toNatClampNeg + n1.toNatClampNeg * n2.toNatClampNeg) + (n1.toNatClampNeg + n1.toNatClampNeg * n2.toNatClampNeg) + (n1.toNatClampNeg + n1.toNatClampNeg * 9) + (n2.toNatClampNeg + n2.toNatClampNeg * 9)) (MQ below (xQ E none ((((((z + 4) + 1 + n1.toNatClampNeg) + 1 + n1.toNatClampNeg) + 1 + n1.toNatClampNeg) + 1 + n1.toNatClampNeg) + 1 + n2.toNatClampNeg) ω1) args s (4 + (1 + n1.toNatClampNeg) + (1 + n1.toNatClampNeg) + (1 + n1.toNatClampNeg) + (1 + n1.toNatClampNeg) + (1 + n2.toNatClampNeg)) (27 + n1.toNatClampNeg + (n1.toNatClampNeg + n1.toNatClampNeg * (7 + n2).toNatClampNeg) + (n1.toNatClampNeg + n1.toNatClampNeg * n2.toNatClampNeg) + (n1.toNatClampNeg + n1.toNatClampNeg * n2.toNatClampNeg) + (n1.toNatClampNeg + n1.toNatClampNeg * 9) + (n2.toNatClampNeg + n2.toNatClampNeg * 9)) (fun q => E.2.2 ≤ q)) (F0 m 134 ls []) := by
  intro n
  induction n with
  | zero =>
    intro a0 x1 x2 x3 ω H locs ls hw hl hf
    have h2 : (none : Option xS) = some ω1 := hf
    cases h2
  | succ n ih =>
    intro a0 x1 x2 x3 ω H locs ls hw hl hf
    rw [f_Roster_init_134] at hf
    refine lv_iload_n S.1 S.2.1 d_Roster_init_134 rfl (lv_at hl 3 rfl) ?_
    refine lv_iload_n S.1 S.2.1 d_Roster_init_135 rfl (lv_at hl 1 rfl) ?_
    refine lv_icmp_ge (tgt := 163) S.1 S.2.1 d_Roster_init_136 (by decide) (fun c26 => ?_) (fun c26 => ?_)
    · replace hf := xt c26 hf
      refine lv_iconst (v := 0) S.1 S.2.1 d_Roster_init_163 (by decide) ?_
      refine lv_istore_n (lv' := [(3, .int 0), (0, .ref a0), (1, .int x1), (2, .int x2)]) S.1 S.2.1 d_Roster_init_164 rfl hl (by decide) rfl (fun ls hl => ?_)
      exact w_Roster_init_165 S hr hlocks hin  _ _ _ _ _ _ _ _ _ hw (lv_sub hl [1, 2, 3, 0] rfl) hf
    · replace hf := xf c26 hf
      refine lv_aload_n S.1 S.2.1 d_Roster_init_139 rfl (lv_at hl 0 rfl) ?_
      obtain ⟨t27, ht27, hf⟩ := xb hf
      refine x_getr S hw lk_Roster_28 ht27 d_Roster_init_140 ?_
      refine lv_iload_n S.1 S.2.1 d_Roster_init_143 rfl (lv_at hl 3 rfl) ?_
      refine lv_sipush (v := 1023) S.1 S.2.1 d_Roster_init_144 (by decide) ?_
      obtain ⟨w28, hw28, hf⟩ := xb hf
      refine x_iast S hw hw28 d_Roster_init_147 (fun H locs hw => ?_)
      refine lv_aload_n S.1 S.2.1 d_Roster_init_148 rfl (lv_at hl 0 rfl) ?_
      obtain ⟨t29, ht29, hf⟩ := xb hf
      refine x_getr S hw lk_Roster_42 ht29 d_Roster_init_149 ?_
      refine lv_iload_n S.1 S.2.1 d_Roster_init_152 rfl (lv_at hl 3 rfl) ?_
      obtain ⟨t30, ht30, hf⟩ := xb hf
      refine x_aald S hw (t := 2) rfl rfl ht30 d_Roster_init_153 ?_
      refine lv_iconst (v := 0) S.1 S.2.1 d_Roster_init_154 (by decide) ?_
      refine lv_iload_n S.1 S.2.1 d_Roster_init_155 rfl (lv_at hl 2 rfl) ?_
      obtain ⟨w31, hw31, hf⟩ := xb hf
      refine x_iast S hw hw31 d_Roster_init_156 (fun H locs hw => ?_)
      refine lv_iinc (v := (x3 + 1)) (lv' := [(3, .int (x3 + 1)), (0, .ref a0), (1, .int x1), (2, .int x2)]) S.1 S.2.1 d_Roster_init_157 hl (k := 3) rfl rfl (by decide) rfl (fun ls hl => ?_)
      refine lv_goto (tgt := 134) S.1 S.2.1 d_Roster_init_160 (by decide) ?_
      exact ih _ _ _ _ _ _ _ _ hw (lv_sub hl [1, 2, 3, 0] rfl) hf
def f_Roster_init_102 : Nat → Nat → Int32 → Int32 → Int32 → xS → Option xS
  | 0, _, _, _, _, _ => none
  | n + 1, a0, x1, x2, x3, ω =>
    if 9 ≤ x3 then (
      f_Roster_init_134  xFU a0 x1 x2 0 ω)
    else (
      (xgr ω a0 8 2).bind fun t22 =>
      (xsi ω t22 x3 480).bind fun w23 =>
      (xgr w23 a0 8 3).bind fun t24 =>
      (xsi w23 t24 x3 480).bind fun w25 =>
      f_Roster_init_102  n a0 x1 x2 (x3 + 1) w25)
set_option maxHeartbeats 4000000 in
set_option maxRecDepth 100000 in
theorem w_Roster_init_102 {p : Program} {l : Launch} {e : Env} {s : State} {m : MethodId} {args : Array Value} {below : List Frame} {meth : Method} {c : Code} {E : xV} {z : Nat} {n1 n2 : Int32} {ω1 : xS} (S : CallFix p m c b_Roster_init 4 s args xTbl "RosterRules$Roster") (hr : meth.sig.returnType = none) (hlocks : meth.locks = false) (hin : meth.name = "<init>") : ∀ n : Nat, ∀ (a0 : Nat) (x1 : Int32) (x2 : Int32) (x3 : Int32) (ω : xS) (H : Heap) (locs : List Loc) (ls : Array Slot), xW E ((((((z + 4) + 1 + n1.toNatClampNeg) + 1 + n1.toNatClampNeg) + 1 + n1.toNatClampNeg) + 1 + n1.toNatClampNeg) + 1 + n2.toNatClampNeg) ω s s.heap H locs → lv_has ls 4 [(0, .ref a0), (1, .int x1), (2, .int x2), (3, .int x3)] → f_Roster_init_102 n a0 x1 x2 x3 ω = some ω1 → W p l e (headSpec ws_Roster_init { frames := 1, cells := (4 + (1 + n1.toNatClampNeg) + (1 + n1.toNatClampNeg) + (1 + n1.toNatClampNeg) + (1 + n1.toNatClampNeg) + (1 + n2.toNatClampNeg)), slots := (27 + n1.toNatClampNeg + (n1.toNatClampNeg + n1.toNatClampNeg * (7 + n2).toNatClampNeg) + (n1.toNatClampNeg + n1.toNatClampNeg * n2.toNatClampNeg) + (n1.toNatClampNeg + n1.toNatClampNeg * n2.toNatClampNeg) + (n1.toNatClampNeg + n1.toNatClampNeg * 9) + (n2.toNatClampNeg + n2.toNatClampNeg * 9)), locals := 20 }).room s m args below meth c H locs (4 + (1 + n1.toNatClampNeg) + (1 + n1.toNatClampNeg) + (1 + n1.toNatClampNeg) + (1 + n1.toNatClampNeg) + (1 + n2.toNatClampNeg)) (27 + n1.toNatClampNeg + (n1.toNatClampNeg + n1.toNatClampNeg * (7 + n2).toNatClampNeg) + (n1.toNatClampNeg + n1.toNatClampNeg * n2.toNatClampNeg) + (n1.toNatClampNeg + n1.toNatClampNeg * n2.toNatClampNeg) + (n1.toNatClampNeg + n1.toNatClampNeg * 9) + (n2.toNatClampNeg + n2.toNatClampNeg * 9)) (MQ below (xQ E none ((((((z + 4) + 1 + n1.toNatClampNeg) + 1 + n1.toNatClampNeg) + 1 + n1.toNatClampNeg) + 1 + n1.toNatClampNeg) + 1 + n2.toNatClampNeg) ω1) args s (4 + (1 + n1.toNatClampNeg) + (1 + n1.toNatClampNeg) + (1 + n1.toNatClampNeg) + (1 + n1.toNatClampNeg) + (1 + n2.toNatClampNeg)) (27 + n1.toNatClampNeg + (n1.toNatClampNeg + n1.toNatClampNeg * (7 + n2).toNatClampNeg) + (n1.toNatClampNeg + n1.toNatClampNeg * n2.toNatClampNeg) + (n1.toNatClampNeg + n1.toNatClampNeg * n2.toNatClampNeg) + (n1.toNatClampNeg + n1.toNatClampNeg * 9) + (n2.toNatClampNeg + n2.toNatClampNeg * 9)) (fun q => E.2.2 ≤ q)) (F0 m 102 ls []) := by
  intro n
  induction n with
  | zero =>
    intro a0 x1 x2 x3 ω H locs ls hw hl hf
    have h2 : (none : Option xS) = some ω1 := hf
    cases h2
  | succ n ih =>
    intro a0 x1 x2 x3 ω H locs ls hw hl hf
    rw [f_Roster_init_102] at hf
    refine lv_iload_n S.1 S.2.1 d_Roster_init_102 rfl (lv_at hl 3 rfl) ?_
    refine lv_bipush (v := 9) S.1 S.2.1 d_Roster_init_103 (by decide) ?_
    refine lv_icmp_ge (tgt := 132) S.1 S.2.1 d_Roster_init_105 (by decide) (fun c21 => ?_) (fun c21 => ?_)
    · replace hf := xt c21 hf
      refine lv_iconst (v := 0) S.1 S.2.1 d_Roster_init_132 (by decide) ?_
      refine lv_istore_n (lv' := [(3, .int 0), (0, .ref a0), (1, .int x1), (2, .int x2)]) S.1 S.2.1 d_Roster_init_133 rfl hl (by decide) rfl (fun ls hl => ?_)
      exact w_Roster_init_134 S hr hlocks hin  _ _ _ _ _ _ _ _ _ hw (lv_sub hl [1, 2, 3, 0] rfl) hf
    · replace hf := xf c21 hf
      refine lv_aload_n S.1 S.2.1 d_Roster_init_108 rfl (lv_at hl 0 rfl) ?_
      obtain ⟨t22, ht22, hf⟩ := xb hf
      refine x_getr S hw lk_Roster_9 ht22 d_Roster_init_109 ?_
      refine lv_iload_n S.1 S.2.1 d_Roster_init_112 rfl (lv_at hl 3 rfl) ?_
      refine lv_sipush (v := 480) S.1 S.2.1 d_Roster_init_113 (by decide) ?_
      obtain ⟨w23, hw23, hf⟩ := xb hf
      refine x_iast S hw hw23 d_Roster_init_116 (fun H locs hw => ?_)
      refine lv_aload_n S.1 S.2.1 d_Roster_init_117 rfl (lv_at hl 0 rfl) ?_
      obtain ⟨t24, ht24, hf⟩ := xb hf
      refine x_getr S hw lk_Roster_15 ht24 d_Roster_init_118 ?_
      refine lv_iload_n S.1 S.2.1 d_Roster_init_121 rfl (lv_at hl 3 rfl) ?_
      refine lv_sipush (v := 480) S.1 S.2.1 d_Roster_init_122 (by decide) ?_
      obtain ⟨w25, hw25, hf⟩ := xb hf
      refine x_iast S hw hw25 d_Roster_init_125 (fun H locs hw => ?_)
      refine lv_iinc (v := (x3 + 1)) (lv' := [(3, .int (x3 + 1)), (0, .ref a0), (1, .int x1), (2, .int x2)]) S.1 S.2.1 d_Roster_init_126 hl (k := 3) rfl rfl (by decide) rfl (fun ls hl => ?_)
      refine lv_goto (tgt := 102) S.1 S.2.1 d_Roster_init_129 (by decide) ?_
      exact ih _ _ _ _ _ _ _ _ hw (lv_sub hl [1, 2, 3, 0] rfl) hf
def f_Roster_init (a0 : Nat) (x1 : Int32) (x2 : Int32) (z : Nat) (ω : xS) : Option xS :=
  xl (xu ω z (.inl (0, 9, .inl (fun _ => 0)))) fun w1 =>
  (xp w1 a0 8 2 (.ref z)).bind fun w2 =>
  xl (xu w2 (z + 1) (.inl (0, 9, .inl (fun _ => 0)))) fun w3 =>
  (xp w3 a0 8 3 (.ref (z + 1))).bind fun w4 =>
  xl (xu w4 (z + 2) (.inl (0, 9, .inl (fun _ => 0)))) fun w5 =>
  (xp w5 a0 8 4 (.ref (z + 2))).bind fun w6 =>
  (xp w6 a0 8 0 (.int x1)).bind fun w7 =>
  (xp w7 a0 8 1 (.int x2)).bind fun w8 =>
  if x1 < 0 ∨ 1000 < x1 then none else
  xl (xu w8 (z + 3) (.inl (0, x1.toNatClampNeg, .inl (fun _ => 0)))) fun w9 =>
  (xp w9 a0 8 5 (.ref (z + 3))).bind fun w10 =>
  if x1 < 0 ∨ 1000 < x1 then none else
  if (7 + x2) < 0 ∨ 1000 < (7 + x2) then none else
  xl (xmn w10 (z + 4) x1.toNatClampNeg (7 + x2).toNatClampNeg) fun w11 =>
  (xp w11 a0 8 6 (.ref (z + 4))).bind fun w12 =>
  if x1 < 0 ∨ 1000 < x1 then none else
  if x2 < 0 ∨ 1000 < x2 then none else
  xl (xmn w12 ((z + 4) + 1 + x1.toNatClampNeg) x1.toNatClampNeg x2.toNatClampNeg) fun w13 =>
  (xp w13 a0 8 7 (.ref ((z + 4) + 1 + x1.toNatClampNeg))).bind fun w14 =>
  if x1 < 0 ∨ 1000 < x1 then none else
  if x2 < 0 ∨ 1000 < x2 then none else
  xl (xmn w14 (((z + 4) + 1 + x1.toNatClampNeg) + 1 + x1.toNatClampNeg) x1.toNatClampNeg x2.toNatClampNeg) fun w15 =>
  (xp w15 a0 8 8 (.ref (((z + 4) + 1 + x1.toNatClampNeg) + 1 + x1.toNatClampNeg))).bind fun w16 =>
  if x1 < 0 ∨ 1000 < x1 then none else
  xl (xmn w16 ((((z + 4) + 1 + x1.toNatClampNeg) + 1 + x1.toNatClampNeg) + 1 + x1.toNatClampNeg) x1.toNatClampNeg 9) fun w17 =>
  (xp w17 a0 8 9 (.ref ((((z + 4) + 1 + x1.toNatClampNeg) + 1 + x1.toNatClampNeg) + 1 + x1.toNatClampNeg))).bind fun w18 =>
  if x2 < 0 ∨ 1000 < x2 then none else
  xl (xmn w18 (((((z + 4) + 1 + x1.toNatClampNeg) + 1 + x1.toNatClampNeg) + 1 + x1.toNatClampNeg) + 1 + x1.toNatClampNeg) x2.toNatClampNeg 9) fun w19 =>
  (xp w19 a0 8 10 (.ref (((((z + 4) + 1 + x1.toNatClampNeg) + 1 + x1.toNatClampNeg) + 1 + x1.toNatClampNeg) + 1 + x1.toNatClampNeg))).bind fun w20 =>
  f_Roster_init_102  xFU a0 x1 x2 1 w20
set_option maxHeartbeats 4000000 in
set_option maxRecDepth 100000 in
theorem c_Roster_init {l : Launch} {E : xV} {z : Nat} {a0 : Nat} {x1 : Int32} {x2 : Int32} {ω1 : xS} {ω : xS} (hf : f_Roster_init a0 x1 x2 z ω = some ω1) : xM l E y_Roster_init ws_Roster_init { frames := 1, cells := (4 + (1 + x1.toNatClampNeg) + (1 + x1.toNatClampNeg) + (1 + x1.toNatClampNeg) + (1 + x1.toNatClampNeg) + (1 + x2.toNatClampNeg)), slots := (27 + x1.toNatClampNeg + (x1.toNatClampNeg + x1.toNatClampNeg * (7 + x2).toNatClampNeg) + (x1.toNatClampNeg + x1.toNatClampNeg * x2.toNatClampNeg) + (x1.toNatClampNeg + x1.toNatClampNeg * x2.toNatClampNeg) + (x1.toNatClampNeg + x1.toNatClampNeg * 9) + (x2.toNatClampNeg + x2.toNatClampNeg * 9)), locals := 20 } [.ref a0, .int x1, .int x2] z ω none ((((((z + 4) + 1 + x1.toNatClampNeg) + 1 + x1.toNatClampNeg) + 1 + x1.toNatClampNeg) + 1 + x1.toNatClampNeg) + 1 + x2.toNatClampNeg) ω1 := by
  refine x_start (cc := b_Roster_init) (maxL := 4) (ret := none) (by decide) rfl (Nat.le_of_ble_eq_true rfl) ?_
  intro p e s m below meth c S hr hlocks hin ls hl hw
  have hl : lv_has ls 4 [(0, .ref a0), (1, .int x1), (2, .int x2)] := hl
  have hin := hin rfl
  unfold f_Roster_init at hf
  refine lv_aload_n S.1 S.2.1 d_Roster_init_0 rfl (lv_at hl 0 rfl) ?_
  refine x_obj S hl.1 ob_Roster_3 d_Roster_init_1 (Nat.le_of_ble_eq_true rfl) (Nat.le_of_ble_eq_true rfl) ?_
  refine lv_aload_n S.1 S.2.1 d_Roster_init_4 rfl (lv_at hl 0 rfl) ?_
  refine lv_bipush (v := 9) S.1 S.2.1 d_Roster_init_5 (by decide) ?_
  obtain ⟨w1, hw1, hf⟩ := xlb hf
  refine x_newi (N := 9) S hw xArr_i (by decide) (by decide) (by decide) hw1 (show _ ≤ (4 + (1 + x1.toNatClampNeg) + (1 + x1.toNatClampNeg) + (1 + x1.toNatClampNeg) + (1 + x1.toNatClampNeg) + (1 + x2.toNatClampNeg)) by (try dsimp only); omega) (show _ ≤ (27 + x1.toNatClampNeg + (x1.toNatClampNeg + x1.toNatClampNeg * (7 + x2).toNatClampNeg) + (x1.toNatClampNeg + x1.toNatClampNeg * x2.toNatClampNeg) + (x1.toNatClampNeg + x1.toNatClampNeg * x2.toNatClampNeg) + (x1.toNatClampNeg + x1.toNatClampNeg * 9) + (x2.toNatClampNeg + x2.toNatClampNeg * 9)) by (try dsimp only); omega) d_Roster_init_7 (fun H hw => ?_)
  refine W.widen (k := 1) (n := 9) (by (try dsimp only); omega) (by (try dsimp only); omega) ?_
  obtain ⟨w2, hw2, hf⟩ := xb hf
  refine x_putF S hin hw lf_Roster_9 rfl rfl hw2 d_Roster_init_9 (fun H locs hw => ?_)
  refine lv_aload_n S.1 S.2.1 d_Roster_init_12 rfl (lv_at hl 0 rfl) ?_
  refine lv_bipush (v := 9) S.1 S.2.1 d_Roster_init_13 (by decide) ?_
  obtain ⟨w3, hw3, hf⟩ := xlb hf
  refine x_newi (N := 9) S hw xArr_i (by decide) (by decide) (by decide) hw3 (show _ ≤ (4 + (1 + x1.toNatClampNeg) + (1 + x1.toNatClampNeg) + (1 + x1.toNatClampNeg) + (1 + x1.toNatClampNeg) + (1 + x2.toNatClampNeg)) by (try dsimp only); omega) (show _ ≤ (27 + x1.toNatClampNeg + (x1.toNatClampNeg + x1.toNatClampNeg * (7 + x2).toNatClampNeg) + (x1.toNatClampNeg + x1.toNatClampNeg * x2.toNatClampNeg) + (x1.toNatClampNeg + x1.toNatClampNeg * x2.toNatClampNeg) + (x1.toNatClampNeg + x1.toNatClampNeg * 9) + (x2.toNatClampNeg + x2.toNatClampNeg * 9)) by (try dsimp only); omega) d_Roster_init_15 (fun H hw => ?_)
  refine W.widen (k := 2) (n := 18) (by (try dsimp only); omega) (by (try dsimp only); omega) ?_
  obtain ⟨w4, hw4, hf⟩ := xb hf
  refine x_putF S hin hw lf_Roster_15 rfl rfl hw4 d_Roster_init_17 (fun H locs hw => ?_)
  refine lv_aload_n S.1 S.2.1 d_Roster_init_20 rfl (lv_at hl 0 rfl) ?_
  refine lv_bipush (v := 9) S.1 S.2.1 d_Roster_init_21 (by decide) ?_
  obtain ⟨w5, hw5, hf⟩ := xlb hf
  refine x_newi (N := 9) S hw xArr_i (by decide) (by decide) (by decide) hw5 (show _ ≤ (4 + (1 + x1.toNatClampNeg) + (1 + x1.toNatClampNeg) + (1 + x1.toNatClampNeg) + (1 + x1.toNatClampNeg) + (1 + x2.toNatClampNeg)) by (try dsimp only); omega) (show _ ≤ (27 + x1.toNatClampNeg + (x1.toNatClampNeg + x1.toNatClampNeg * (7 + x2).toNatClampNeg) + (x1.toNatClampNeg + x1.toNatClampNeg * x2.toNatClampNeg) + (x1.toNatClampNeg + x1.toNatClampNeg * x2.toNatClampNeg) + (x1.toNatClampNeg + x1.toNatClampNeg * 9) + (x2.toNatClampNeg + x2.toNatClampNeg * 9)) by (try dsimp only); omega) d_Roster_init_23 (fun H hw => ?_)
  refine W.widen (k := 3) (n := 27) (by (try dsimp only); omega) (by (try dsimp only); omega) ?_
  obtain ⟨w6, hw6, hf⟩ := xb hf
  refine x_putF S hin hw lf_Roster_18 rfl rfl hw6 d_Roster_init_25 (fun H locs hw => ?_)
  refine lv_aload_n S.1 S.2.1 d_Roster_init_28 rfl (lv_at hl 0 rfl) ?_
  refine lv_iload_n S.1 S.2.1 d_Roster_init_29 rfl (lv_at hl 1 rfl) ?_
  obtain ⟨w7, hw7, hf⟩ := xb hf
  refine x_putF S hin hw lf_Roster_21 rfl rfl hw7 d_Roster_init_30 (fun H locs hw => ?_)
  refine lv_aload_n S.1 S.2.1 d_Roster_init_33 rfl (lv_at hl 0 rfl) ?_
  refine lv_iload_n S.1 S.2.1 d_Roster_init_34 rfl (lv_at hl 2 rfl) ?_
  obtain ⟨w8, hw8, hf⟩ := xb hf
  refine x_putF S hin hw lf_Roster_25 rfl rfl hw8 d_Roster_init_35 (fun H locs hw => ?_)
  refine lv_aload_n S.1 S.2.1 d_Roster_init_38 rfl (lv_at hl 0 rfl) ?_
  refine lv_iload_n S.1 S.2.1 d_Roster_init_39 rfl (lv_at hl 1 rfl) ?_
  by_cases cz : x1 < 0 ∨ 1000 < x1
  · replace hf := xt cz hf
    cases hf
  replace hf := xf cz hf
  obtain ⟨w9, hw9, hf⟩ := xlb hf
  refine x_newi (N := x1.toNatClampNeg) S hw xArr_i (x_small cz).1 rfl (by have := (x_small cz).2; omega) hw9 (show _ ≤ (4 + (1 + x1.toNatClampNeg) + (1 + x1.toNatClampNeg) + (1 + x1.toNatClampNeg) + (1 + x1.toNatClampNeg) + (1 + x2.toNatClampNeg)) by (try dsimp only); omega) (show _ ≤ (27 + x1.toNatClampNeg + (x1.toNatClampNeg + x1.toNatClampNeg * (7 + x2).toNatClampNeg) + (x1.toNatClampNeg + x1.toNatClampNeg * x2.toNatClampNeg) + (x1.toNatClampNeg + x1.toNatClampNeg * x2.toNatClampNeg) + (x1.toNatClampNeg + x1.toNatClampNeg * 9) + (x2.toNatClampNeg + x2.toNatClampNeg * 9)) by (try dsimp only); omega) d_Roster_init_40 (fun H hw => ?_)
  refine W.widen (k := 4) (n := (27 + x1.toNatClampNeg)) (by (try dsimp only); omega) (by (try dsimp only); omega) ?_
  obtain ⟨w10, hw10, hf⟩ := xb hf
  refine x_putF S hin hw lf_Roster_28 rfl rfl hw10 d_Roster_init_42 (fun H locs hw => ?_)
  refine lv_aload_n S.1 S.2.1 d_Roster_init_45 rfl (lv_at hl 0 rfl) ?_
  refine lv_iload_n S.1 S.2.1 d_Roster_init_46 rfl (lv_at hl 1 rfl) ?_
  refine lv_bipush (v := 7) S.1 S.2.1 d_Roster_init_47 (by decide) ?_
  refine lv_iload_n S.1 S.2.1 d_Roster_init_49 rfl (lv_at hl 2 rfl) ?_
  refine lv_iadd S.1 S.2.1 d_Roster_init_50 ?_
  by_cases czn : x1 < 0 ∨ 1000 < x1
  · replace hf := xt czn hf
    cases hf
  replace hf := xf czn hf
  by_cases czk : (7 + x2) < 0 ∨ 1000 < (7 + x2)
  · replace hf := xt czk hf
    cases hf
  replace hf := xf czk hf
  obtain ⟨w11, hw11, hf⟩ := xlb hf
  refine x_mna (N := x1.toNatClampNeg) (K := (7 + x2).toNatClampNeg) S hw wd_1_120 xArr_i (x_small czn).1 (x_small czk).1 rfl rfl (by have := (x_small czn).2; omega) (by have := (x_small czk).2; omega) hw11 (show _ ≤ (4 + (1 + x1.toNatClampNeg) + (1 + x1.toNatClampNeg) + (1 + x1.toNatClampNeg) + (1 + x1.toNatClampNeg) + (1 + x2.toNatClampNeg)) by (try dsimp only); omega) (show _ ≤ (27 + x1.toNatClampNeg + (x1.toNatClampNeg + x1.toNatClampNeg * (7 + x2).toNatClampNeg) + (x1.toNatClampNeg + x1.toNatClampNeg * x2.toNatClampNeg) + (x1.toNatClampNeg + x1.toNatClampNeg * x2.toNatClampNeg) + (x1.toNatClampNeg + x1.toNatClampNeg * 9) + (x2.toNatClampNeg + x2.toNatClampNeg * 9)) by (try dsimp only); omega) d_Roster_init_51 (fun H hw => ?_)
  refine W.widen (k := (4 + (1 + x1.toNatClampNeg))) (n := (27 + x1.toNatClampNeg + (x1.toNatClampNeg + x1.toNatClampNeg * (7 + x2).toNatClampNeg))) (by (try dsimp only); omega) (by (try dsimp only); omega) ?_
  obtain ⟨w12, hw12, hf⟩ := xb hf
  refine x_putF S hin hw lf_Roster_33 rfl rfl hw12 d_Roster_init_55 (fun H locs hw => ?_)
  refine lv_aload_n S.1 S.2.1 d_Roster_init_58 rfl (lv_at hl 0 rfl) ?_
  refine lv_iload_n S.1 S.2.1 d_Roster_init_59 rfl (lv_at hl 1 rfl) ?_
  refine lv_iload_n S.1 S.2.1 d_Roster_init_60 rfl (lv_at hl 2 rfl) ?_
  by_cases czn : x1 < 0 ∨ 1000 < x1
  · replace hf := xt czn hf
    cases hf
  replace hf := xf czn hf
  by_cases czk : x2 < 0 ∨ 1000 < x2
  · replace hf := xt czk hf
    cases hf
  replace hf := xf czk hf
  obtain ⟨w13, hw13, hf⟩ := xlb hf
  refine x_mna (N := x1.toNatClampNeg) (K := x2.toNatClampNeg) S hw wd_1_120 xArr_i (x_small czn).1 (x_small czk).1 rfl rfl (by have := (x_small czn).2; omega) (by have := (x_small czk).2; omega) hw13 (show _ ≤ (4 + (1 + x1.toNatClampNeg) + (1 + x1.toNatClampNeg) + (1 + x1.toNatClampNeg) + (1 + x1.toNatClampNeg) + (1 + x2.toNatClampNeg)) by (try dsimp only); omega) (show _ ≤ (27 + x1.toNatClampNeg + (x1.toNatClampNeg + x1.toNatClampNeg * (7 + x2).toNatClampNeg) + (x1.toNatClampNeg + x1.toNatClampNeg * x2.toNatClampNeg) + (x1.toNatClampNeg + x1.toNatClampNeg * x2.toNatClampNeg) + (x1.toNatClampNeg + x1.toNatClampNeg * 9) + (x2.toNatClampNeg + x2.toNatClampNeg * 9)) by (try dsimp only); omega) d_Roster_init_61 (fun H hw => ?_)
  refine W.widen (k := (4 + (1 + x1.toNatClampNeg) + (1 + x1.toNatClampNeg))) (n := (27 + x1.toNatClampNeg + (x1.toNatClampNeg + x1.toNatClampNeg * (7 + x2).toNatClampNeg) + (x1.toNatClampNeg + x1.toNatClampNeg * x2.toNatClampNeg))) (by (try dsimp only); omega) (by (try dsimp only); omega) ?_
  obtain ⟨w14, hw14, hf⟩ := xb hf
  refine x_putF S hin hw lf_Roster_36 rfl rfl hw14 d_Roster_init_65 (fun H locs hw => ?_)
  refine lv_aload_n S.1 S.2.1 d_Roster_init_68 rfl (lv_at hl 0 rfl) ?_
  refine lv_iload_n S.1 S.2.1 d_Roster_init_69 rfl (lv_at hl 1 rfl) ?_
  refine lv_iload_n S.1 S.2.1 d_Roster_init_70 rfl (lv_at hl 2 rfl) ?_
  by_cases czn : x1 < 0 ∨ 1000 < x1
  · replace hf := xt czn hf
    cases hf
  replace hf := xf czn hf
  by_cases czk : x2 < 0 ∨ 1000 < x2
  · replace hf := xt czk hf
    cases hf
  replace hf := xf czk hf
  obtain ⟨w15, hw15, hf⟩ := xlb hf
  refine x_mna (N := x1.toNatClampNeg) (K := x2.toNatClampNeg) S hw wd_1_120 xArr_i (x_small czn).1 (x_small czk).1 rfl rfl (by have := (x_small czn).2; omega) (by have := (x_small czk).2; omega) hw15 (show _ ≤ (4 + (1 + x1.toNatClampNeg) + (1 + x1.toNatClampNeg) + (1 + x1.toNatClampNeg) + (1 + x1.toNatClampNeg) + (1 + x2.toNatClampNeg)) by (try dsimp only); omega) (show _ ≤ (27 + x1.toNatClampNeg + (x1.toNatClampNeg + x1.toNatClampNeg * (7 + x2).toNatClampNeg) + (x1.toNatClampNeg + x1.toNatClampNeg * x2.toNatClampNeg) + (x1.toNatClampNeg + x1.toNatClampNeg * x2.toNatClampNeg) + (x1.toNatClampNeg + x1.toNatClampNeg * 9) + (x2.toNatClampNeg + x2.toNatClampNeg * 9)) by (try dsimp only); omega) d_Roster_init_71 (fun H hw => ?_)
  refine W.widen (k := (4 + (1 + x1.toNatClampNeg) + (1 + x1.toNatClampNeg) + (1 + x1.toNatClampNeg))) (n := (27 + x1.toNatClampNeg + (x1.toNatClampNeg + x1.toNatClampNeg * (7 + x2).toNatClampNeg) + (x1.toNatClampNeg + x1.toNatClampNeg * x2.toNatClampNeg) + (x1.toNatClampNeg + x1.toNatClampNeg * x2.toNatClampNeg))) (by (try dsimp only); omega) (by (try dsimp only); omega) ?_
  obtain ⟨w16, hw16, hf⟩ := xb hf
  refine x_putF S hin hw lf_Roster_39 rfl rfl hw16 d_Roster_init_75 (fun H locs hw => ?_)
  refine lv_aload_n S.1 S.2.1 d_Roster_init_78 rfl (lv_at hl 0 rfl) ?_
  refine lv_iload_n S.1 S.2.1 d_Roster_init_79 rfl (lv_at hl 1 rfl) ?_
  refine lv_bipush (v := 9) S.1 S.2.1 d_Roster_init_80 (by decide) ?_
  by_cases czn : x1 < 0 ∨ 1000 < x1
  · replace hf := xt czn hf
    cases hf
  replace hf := xf czn hf
  obtain ⟨w17, hw17, hf⟩ := xlb hf
  refine x_mna (N := x1.toNatClampNeg) (K := 9) S hw wd_1_120 xArr_i (x_small czn).1 (by decide) rfl (by decide) (by have := (x_small czn).2; omega) (by decide) hw17 (show _ ≤ (4 + (1 + x1.toNatClampNeg) + (1 + x1.toNatClampNeg) + (1 + x1.toNatClampNeg) + (1 + x1.toNatClampNeg) + (1 + x2.toNatClampNeg)) by (try dsimp only); omega) (show _ ≤ (27 + x1.toNatClampNeg + (x1.toNatClampNeg + x1.toNatClampNeg * (7 + x2).toNatClampNeg) + (x1.toNatClampNeg + x1.toNatClampNeg * x2.toNatClampNeg) + (x1.toNatClampNeg + x1.toNatClampNeg * x2.toNatClampNeg) + (x1.toNatClampNeg + x1.toNatClampNeg * 9) + (x2.toNatClampNeg + x2.toNatClampNeg * 9)) by (try dsimp only); omega) d_Roster_init_82 (fun H hw => ?_)
  refine W.widen (k := (4 + (1 + x1.toNatClampNeg) + (1 + x1.toNatClampNeg) + (1 + x1.toNatClampNeg) + (1 + x1.toNatClampNeg))) (n := (27 + x1.toNatClampNeg + (x1.toNatClampNeg + x1.toNatClampNeg * (7 + x2).toNatClampNeg) + (x1.toNatClampNeg + x1.toNatClampNeg * x2.toNatClampNeg) + (x1.toNatClampNeg + x1.toNatClampNeg * x2.toNatClampNeg) + (x1.toNatClampNeg + x1.toNatClampNeg * 9))) (by (try dsimp only); omega) (by (try dsimp only); omega) ?_
  obtain ⟨w18, hw18, hf⟩ := xb hf
  refine x_putF S hin hw lf_Roster_42 rfl rfl hw18 d_Roster_init_86 (fun H locs hw => ?_)
  refine lv_aload_n S.1 S.2.1 d_Roster_init_89 rfl (lv_at hl 0 rfl) ?_
  refine lv_iload_n S.1 S.2.1 d_Roster_init_90 rfl (lv_at hl 2 rfl) ?_
  refine lv_bipush (v := 9) S.1 S.2.1 d_Roster_init_91 (by decide) ?_
  by_cases czn : x2 < 0 ∨ 1000 < x2
  · replace hf := xt czn hf
    cases hf
  replace hf := xf czn hf
  obtain ⟨w19, hw19, hf⟩ := xlb hf
  refine x_mna (N := x2.toNatClampNeg) (K := 9) S hw wd_1_120 xArr_i (x_small czn).1 (by decide) rfl (by decide) (by have := (x_small czn).2; omega) (by decide) hw19 (show _ ≤ (4 + (1 + x1.toNatClampNeg) + (1 + x1.toNatClampNeg) + (1 + x1.toNatClampNeg) + (1 + x1.toNatClampNeg) + (1 + x2.toNatClampNeg)) by (try dsimp only); omega) (show _ ≤ (27 + x1.toNatClampNeg + (x1.toNatClampNeg + x1.toNatClampNeg * (7 + x2).toNatClampNeg) + (x1.toNatClampNeg + x1.toNatClampNeg * x2.toNatClampNeg) + (x1.toNatClampNeg + x1.toNatClampNeg * x2.toNatClampNeg) + (x1.toNatClampNeg + x1.toNatClampNeg * 9) + (x2.toNatClampNeg + x2.toNatClampNeg * 9)) by (try dsimp only); omega) d_Roster_init_93 (fun H hw => ?_)
  refine W.widen (k := (4 + (1 + x1.toNatClampNeg) + (1 + x1.toNatClampNeg) + (1 + x1.toNatClampNeg) + (1 + x1.toNatClampNeg) + (1 + x2.toNatClampNeg))) (n := (27 + x1.toNatClampNeg + (x1.toNatClampNeg + x1.toNatClampNeg * (7 + x2).toNatClampNeg) + (x1.toNatClampNeg + x1.toNatClampNeg * x2.toNatClampNeg) + (x1.toNatClampNeg + x1.toNatClampNeg * x2.toNatClampNeg) + (x1.toNatClampNeg + x1.toNatClampNeg * 9) + (x2.toNatClampNeg + x2.toNatClampNeg * 9))) (by (try dsimp only); omega) (by (try dsimp only); omega) ?_
  obtain ⟨w20, hw20, hf⟩ := xb hf
  refine x_putF S hin hw lf_Roster_45 rfl rfl hw20 d_Roster_init_97 (fun H locs hw => ?_)
  refine lv_iconst (v := 1) S.1 S.2.1 d_Roster_init_100 (by decide) ?_
  refine lv_istore_n (lv' := [(3, .int 1), (0, .ref a0), (1, .int x1), (2, .int x2)]) S.1 S.2.1 d_Roster_init_101 rfl hl (by decide) rfl (fun ls hl => ?_)
  refine W.widen (k := (4 + (1 + x1.toNatClampNeg) + (1 + x1.toNatClampNeg) + (1 + x1.toNatClampNeg) + (1 + x1.toNatClampNeg) + (1 + x2.toNatClampNeg))) (n := (27 + x1.toNatClampNeg + (x1.toNatClampNeg + x1.toNatClampNeg * (7 + x2).toNatClampNeg) + (x1.toNatClampNeg + x1.toNatClampNeg * x2.toNatClampNeg) + (x1.toNatClampNeg + x1.toNatClampNeg * x2.toNatClampNeg) + (x1.toNatClampNeg + x1.toNatClampNeg * 9) + (x2.toNatClampNeg + x2.toNatClampNeg * 9))) (by (try dsimp only); omega) (by (try dsimp only); omega) ?_
  exact w_Roster_init_102 S hr hlocks hin  _ _ _ _ _ _ _ _ _ hw (lv_sub hl [1, 2, 3, 0] rfl) hf
