def f_Mo_begin (a0 : Nat) (x1 : Int32) (ω : xS) : Option xS :=
  (xgr ω a0 12 52).bind fun t1 =>
  (xsz ω t1 x1 0).bind fun w2 =>
  (xgr w2 a0 12 53).bind fun t3 =>
  (xsz w2 t3 x1 0).bind fun w4 =>
  (xgr w4 a0 12 48).bind fun t5 =>
  (xsz w4 t5 x1 0).bind fun w6 =>
  (xgr w6 a0 12 55).bind fun t7 =>
  (xgi w6 a0 12 43).bind fun t8 =>
  (xsi w6 t7 x1 t8).bind fun w9 =>
  some w9
set_option maxHeartbeats 4000000 in
set_option maxRecDepth 100000 in
theorem c_Mo_begin {l : Launch} {E : xV} {z : Nat} {a0 : Nat} {x1 : Int32} {ω1 : xS} {ω : xS} (hf : f_Mo_begin a0 x1 ω = some ω1) : xM l E y_Mo_begin ws_Mo_begin { frames := 0, cells := 0, slots := 0, locals := 0 } [.ref a0, .int x1] z ω none z ω1 := by
  refine x_start (cc := b_Mo_begin) (maxL := 2) (ret := none) (by decide) rfl (Nat.le_of_ble_eq_true rfl) ?_
  intro p e s m below meth c S hr hlocks hin ls hl hw
  have hl : lv_has ls 2 [(0, .ref a0), (1, .int x1)] := hl
  unfold f_Mo_begin at hf
  refine lv_aload_n S.1 S.2.1 d_Mo_begin_0 rfl (lv_at hl 0 rfl) ?_
  obtain ⟨t1, ht1, hf⟩ := xb hf
  refine x_getr S hw lk_Mo_117 ht1 d_Mo_begin_1 ?_
  refine lv_iload_n S.1 S.2.1 d_Mo_begin_4 rfl (lv_at hl 1 rfl) ?_
  refine lv_iconst (v := 0) S.1 S.2.1 d_Mo_begin_5 (by decide) ?_
  obtain ⟨w2, hw2, hf⟩ := xb hf
  refine x_zast S hw hw2 d_Mo_begin_6 (fun H locs hw => ?_)
  refine lv_aload_n S.1 S.2.1 d_Mo_begin_7 rfl (lv_at hl 0 rfl) ?_
  obtain ⟨t3, ht3, hf⟩ := xb hf
  refine x_getr S hw lk_Mo_120 ht3 d_Mo_begin_8 ?_
  refine lv_iload_n S.1 S.2.1 d_Mo_begin_11 rfl (lv_at hl 1 rfl) ?_
  refine lv_iconst (v := 0) S.1 S.2.1 d_Mo_begin_12 (by decide) ?_
  obtain ⟨w4, hw4, hf⟩ := xb hf
  refine x_zast S hw hw4 d_Mo_begin_13 (fun H locs hw => ?_)
  refine lv_aload_n S.1 S.2.1 d_Mo_begin_14 rfl (lv_at hl 0 rfl) ?_
  obtain ⟨t5, ht5, hf⟩ := xb hf
  refine x_getr S hw lk_Mo_104 ht5 d_Mo_begin_15 ?_
  refine lv_iload_n S.1 S.2.1 d_Mo_begin_18 rfl (lv_at hl 1 rfl) ?_
  refine lv_iconst (v := 0) S.1 S.2.1 d_Mo_begin_19 (by decide) ?_
  obtain ⟨w6, hw6, hf⟩ := xb hf
  refine x_zast S hw hw6 d_Mo_begin_20 (fun H locs hw => ?_)
  refine lv_aload_n S.1 S.2.1 d_Mo_begin_21 rfl (lv_at hl 0 rfl) ?_
  obtain ⟨t7, ht7, hf⟩ := xb hf
  refine x_getr S hw lk_Mo_126 ht7 d_Mo_begin_22 ?_
  refine lv_iload_n S.1 S.2.1 d_Mo_begin_25 rfl (lv_at hl 1 rfl) ?_
  refine lv_aload_n S.1 S.2.1 d_Mo_begin_26 rfl (lv_at hl 0 rfl) ?_
  obtain ⟨t8, ht8, hf⟩ := xb hf
  refine x_geti S hw lk_Mo_256 ht8 d_Mo_begin_27 ?_
  obtain ⟨w9, hw9, hf⟩ := xb hf
  refine x_iast S hw hw9 d_Mo_begin_30 (fun H locs hw => ?_)
  cases hf
  exact x_vret S hr hlocks hw d_Mo_begin_31
def f_Mo_lastOf (x0 : Int64) (ω : xS) : Option Int32 :=
  some (Int64.toInt32 ((xlshr x0 16) &&& 65535))
set_option maxHeartbeats 4000000 in
set_option maxRecDepth 100000 in
theorem c_Mo_lastOf {l : Launch} {E : xV} {z : Nat} {x0 : Int64} {r : Int32} {ω : xS} (hf : f_Mo_lastOf x0 ω = some r) : xM l E y_Mo_lastOf ws_Mo_lastOf { frames := 0, cells := 0, slots := 0, locals := 0 } [.long x0] z ω (some (.int r)) z ω := by
  refine x_start (cc := b_Mo_lastOf) (maxL := 2) (ret := (some .int)) (by decide) rfl (Nat.le_of_ble_eq_true rfl) ?_
  intro p e s m below meth c S hr hlocks hin ls hl hw
  have hl : lv_has ls 2 [(0, .long x0)] := hl
  unfold f_Mo_lastOf at hf
  refine lv_lload_n S.1 S.2.1 d_Mo_lastOf_0 rfl (lv_at hl 0 rfl) ?_
  refine lv_bipush (v := 16) S.1 S.2.1 d_Mo_lastOf_1 (by decide) ?_
  refine lv_lshr (v := (xlshr x0 16)) S.1 S.2.1 d_Mo_lastOf_3 rfl ?_
  refine lv_ldc2 (v := 65535) S.1 S.2.1 S.2.2.2.1 (S.2.2.2.2 _ wd_6_35) d_Mo_lastOf_4 ?_
  refine lv_land S.1 S.2.1 d_Mo_lastOf_7 ?_
  refine lv_l2i (v := (Int64.toInt32 ((xlshr x0 16) &&& 65535))) S.1 S.2.1 d_Mo_lastOf_8 rfl ?_
  obtain rfl := xe1 hf
  exact x_iret S hr hlocks hw d_Mo_lastOf_9
def f_Mo_firstOf (x0 : Int64) (ω : xS) : Option Int32 :=
  some (Int64.toInt32 (x0 &&& 65535))
set_option maxHeartbeats 4000000 in
set_option maxRecDepth 100000 in
theorem c_Mo_firstOf {l : Launch} {E : xV} {z : Nat} {x0 : Int64} {r : Int32} {ω : xS} (hf : f_Mo_firstOf x0 ω = some r) : xM l E y_Mo_firstOf ws_Mo_firstOf { frames := 0, cells := 0, slots := 0, locals := 0 } [.long x0] z ω (some (.int r)) z ω := by
  refine x_start (cc := b_Mo_firstOf) (maxL := 2) (ret := (some .int)) (by decide) rfl (Nat.le_of_ble_eq_true rfl) ?_
  intro p e s m below meth c S hr hlocks hin ls hl hw
  have hl : lv_has ls 2 [(0, .long x0)] := hl
  unfold f_Mo_firstOf at hf
  refine lv_lload_n S.1 S.2.1 d_Mo_firstOf_0 rfl (lv_at hl 0 rfl) ?_
  refine lv_ldc2 (v := 65535) S.1 S.2.1 S.2.2.2.1 (S.2.2.2.2 _ wd_6_35) d_Mo_firstOf_1 ?_
  refine lv_land S.1 S.2.1 d_Mo_firstOf_4 ?_
  refine lv_l2i (v := (Int64.toInt32 (x0 &&& 65535))) S.1 S.2.1 d_Mo_firstOf_5 rfl ?_
  obtain rfl := xe1 hf
  exact x_iret S hr hlocks hw d_Mo_firstOf_6
def f_Mo_join_2 : Nat → Nat → Int32 → Int32 → Int32 → xS → Option xS
  | 0, _, _, _, _, _ => none
  | n + 1, a0, x1, x2, x3, ω =>
    if 10 ≤ x3 then (
      some ω)
    else (
      if ((x1 >>> (x3 &&& 31)) &&& 1) = 1 then (
        (xgr ω a0 12 22).bind fun t3 =>
        (xgi ω a0 12 44).bind fun t4 =>
        (xai ω t3 ((11 * t4) + x3)).bind fun t5 =>
        (xsi ω t3 ((11 * t4) + x3) (t5 ||| x2)).bind fun w6 =>
        f_Mo_join_2  n a0 x1 x2 (x3 + 1) w6)
      else (
        f_Mo_join_2  n a0 x1 x2 (x3 + 1) ω))
set_option maxHeartbeats 4000000 in
set_option maxRecDepth 100000 in
theorem w_Mo_join_2 {p : Program} {l : Launch} {e : Env} {s : State} {m : MethodId} {args : Array Value} {below : List Frame} {meth : Method} {c : Code} {E : xV} {z : Nat} {ω1 : xS} (S : CallFix p m c b_Mo_join 4 s args xTbl "RosterRulesModel") (hr : meth.sig.returnType = none) (hlocks : meth.locks = false) : ∀ n : Nat, ∀ (a0 : Nat) (x1 : Int32) (x2 : Int32) (x3 : Int32) (ω : xS) (H : Heap) (locs : List Loc) (ls : Array Slot), xW E z ω s s.heap H locs → lv_has ls 4 [(0, .ref a0), (1, .int x1), (2, .int x2), (3, .int x3)] → f_Mo_join_2 n a0 x1 x2 x3 ω = some ω1 → W p l e (headSpec ws_Mo_join { frames := 0, cells := 0, slots := 0, locals := 0 }).room s m args below meth c H locs 0 0 (MQ below (xQ E none z ω1) args s 0 0 (fun q => E.2.2 ≤ q)) (F0 m 2 ls []) := by
  intro n
  induction n with
  | zero =>
    intro a0 x1 x2 x3 ω H locs ls hw hl hf
    have h2 : (none : Option xS) = some ω1 := hf
    cases h2
  | succ n ih =>
    intro a0 x1 x2 x3 ω H locs ls hw hl hf
    rw [f_Mo_join_2] at hf
    refine lv_iload_n S.1 S.2.1 d_Mo_join_2 rfl (lv_at hl 3 rfl) ?_
    refine lv_bipush (v := 10) S.1 S.2.1 d_Mo_join_3 (by decide) ?_
    refine lv_icmp_ge (tgt := 41) S.1 S.2.1 d_Mo_join_5 (by decide) (fun c1 => ?_) (fun c1 => ?_)
    · replace hf := xt c1 hf
      cases hf
      exact x_vret S hr hlocks hw d_Mo_join_41
    · replace hf := xf c1 hf
      refine lv_iload_n S.1 S.2.1 d_Mo_join_8 rfl (lv_at hl 1 rfl) ?_
      refine lv_iload_n S.1 S.2.1 d_Mo_join_9 rfl (lv_at hl 3 rfl) ?_
      refine lv_ishr S.1 S.2.1 d_Mo_join_10 ?_
      refine lv_iconst (v := 1) S.1 S.2.1 d_Mo_join_11 (by decide) ?_
      refine lv_iand S.1 S.2.1 d_Mo_join_12 ?_
      refine lv_iconst (v := 1) S.1 S.2.1 d_Mo_join_13 (by decide) ?_
      refine lv_icmp_ne (tgt := 35) S.1 S.2.1 d_Mo_join_14 (by decide) (fun c2 => ?_) (fun c2 => ?_)
      · replace hf := xf c2 hf
        refine lv_iinc (v := (x3 + 1)) (lv' := [(3, .int (x3 + 1)), (0, .ref a0), (1, .int x1), (2, .int x2)]) S.1 S.2.1 d_Mo_join_35 hl (k := 3) rfl rfl (by decide) rfl (fun ls hl => ?_)
        refine lv_goto (tgt := 2) S.1 S.2.1 d_Mo_join_38 (by decide) ?_
        exact ih _ _ _ _ _ _ _ _ hw (lv_sub hl [1, 2, 3, 0] rfl) hf
      · replace hf := xt c2 hf
        refine lv_aload_n S.1 S.2.1 d_Mo_join_17 rfl (lv_at hl 0 rfl) ?_
        obtain ⟨t3, ht3, hf⟩ := xb hf
        refine x_getr S hw lk_Mo_66 ht3 d_Mo_join_18 ?_
        refine lv_bipush (v := 11) S.1 S.2.1 d_Mo_join_21 (by decide) ?_
        refine lv_aload_n S.1 S.2.1 d_Mo_join_23 rfl (lv_at hl 0 rfl) ?_
        obtain ⟨t4, ht4, hf⟩ := xb hf
        refine x_geti S hw lk_Mo_253 ht4 d_Mo_join_24 ?_
        refine lv_imul S.1 S.2.1 d_Mo_join_27 ?_
        refine lv_iload_n S.1 S.2.1 d_Mo_join_28 rfl (lv_at hl 3 rfl) ?_
        refine lv_iadd S.1 S.2.1 d_Mo_join_29 ?_
        refine lv_dup2_11 S.1 S.2.1 d_Mo_join_30 rfl rfl ?_
        obtain ⟨t5, ht5, hf⟩ := xb hf
        refine x_iald S hw ht5 d_Mo_join_31 ?_
        refine lv_iload_n S.1 S.2.1 d_Mo_join_32 rfl (lv_at hl 2 rfl) ?_
        refine lv_ior S.1 S.2.1 d_Mo_join_33 ?_
        obtain ⟨w6, hw6, hf⟩ := xb hf
        refine x_iast S hw hw6 d_Mo_join_34 (fun H locs hw => ?_)
        refine lv_iinc (v := (x3 + 1)) (lv' := [(3, .int (x3 + 1)), (0, .ref a0), (1, .int x1), (2, .int x2)]) S.1 S.2.1 d_Mo_join_35 hl (k := 3) rfl rfl (by decide) rfl (fun ls hl => ?_)
        refine lv_goto (tgt := 2) S.1 S.2.1 d_Mo_join_38 (by decide) ?_
        exact ih _ _ _ _ _ _ _ _ hw (lv_sub hl [1, 2, 3, 0] rfl) hf
def f_Mo_join (a0 : Nat) (x1 : Int32) (x2 : Int32) (ω : xS) : Option xS :=
  f_Mo_join_2  xFU a0 x1 x2 0 ω
set_option maxHeartbeats 4000000 in
set_option maxRecDepth 100000 in
theorem c_Mo_join {l : Launch} {E : xV} {z : Nat} {a0 : Nat} {x1 : Int32} {x2 : Int32} {ω1 : xS} {ω : xS} (hf : f_Mo_join a0 x1 x2 ω = some ω1) : xM l E y_Mo_join ws_Mo_join { frames := 0, cells := 0, slots := 0, locals := 0 } [.ref a0, .int x1, .int x2] z ω none z ω1 := by
  refine x_start (cc := b_Mo_join) (maxL := 4) (ret := none) (by decide) rfl (Nat.le_of_ble_eq_true rfl) ?_
  intro p e s m below meth c S hr hlocks hin ls hl hw
  have hl : lv_has ls 4 [(0, .ref a0), (1, .int x1), (2, .int x2)] := hl
  unfold f_Mo_join at hf
  refine lv_iconst (v := 0) S.1 S.2.1 d_Mo_join_0 (by decide) ?_
  refine lv_istore_n (lv' := [(3, .int 0), (0, .ref a0), (1, .int x1), (2, .int x2)]) S.1 S.2.1 d_Mo_join_1 rfl hl (by decide) rfl (fun ls hl => ?_)
  exact w_Mo_join_2 S hr hlocks  _ _ _ _ _ _ _ _ _ hw (lv_sub hl [1, 2, 3, 0] rfl) hf
def f_Mo_noneOf (x0 : Int64) (ω : xS) : Option Int32 :=
  if (lg_cmp (xlshr x0 32) 1) = 0 then (
    some 1)
  else (
    some 0)
set_option maxHeartbeats 4000000 in
set_option maxRecDepth 100000 in
theorem c_Mo_noneOf {l : Launch} {E : xV} {z : Nat} {x0 : Int64} {r : Int32} {ω : xS} (hf : f_Mo_noneOf x0 ω = some r) : xM l E y_Mo_noneOf ws_Mo_noneOf { frames := 0, cells := 0, slots := 0, locals := 0 } [.long x0] z ω (some (.int r)) z ω := by
  refine x_start (cc := b_Mo_noneOf) (maxL := 2) (ret := (some .boolean)) (by decide) rfl (Nat.le_of_ble_eq_true rfl) ?_
  intro p e s m below meth c S hr hlocks hin ls hl hw
  have hl : lv_has ls 2 [(0, .long x0)] := hl
  unfold f_Mo_noneOf at hf
  refine lv_lload_n S.1 S.2.1 d_Mo_noneOf_0 rfl (lv_at hl 0 rfl) ?_
  refine lv_bipush (v := 32) S.1 S.2.1 d_Mo_noneOf_1 (by decide) ?_
  refine lv_lshr (v := (xlshr x0 32)) S.1 S.2.1 d_Mo_noneOf_3 rfl ?_
  refine lv_lconst (v := 1) S.1 S.2.1 d_Mo_noneOf_4 (by decide) ?_
  refine W.lcmp S.1 S.2.1 d_Mo_noneOf_5 ?_
  refine lv_if_ne (tgt := 13) S.1 S.2.1 d_Mo_noneOf_6 (by decide) (fun c1 => ?_) (fun c1 => ?_)
  · replace hf := xf c1 hf
    refine lv_iconst (v := 0) S.1 S.2.1 d_Mo_noneOf_13 (by decide) ?_
    obtain rfl := xe1 hf
    exact x_zret S hr hlocks hw (by decide) d_Mo_noneOf_14
  · replace hf := xt c1 hf
    refine lv_iconst (v := 1) S.1 S.2.1 d_Mo_noneOf_9 (by decide) ?_
    refine lv_goto (tgt := 14) S.1 S.2.1 d_Mo_noneOf_10 (by decide) ?_
    obtain rfl := xe1 hf
    exact x_zret S hr hlocks hw (by decide) d_Mo_noneOf_14
def f_Mo_part (x0 : Int32) (x1 : Int32) (x2 : Int32) (ω : xS) : Option Int64 :=
  if x2 = 0 then (
    some (((Int32.toInt64 x0) ||| (xlshl (Int32.toInt64 x1) 16)) ||| 0))
  else (
    some (((Int32.toInt64 x0) ||| (xlshl (Int32.toInt64 x1) 16)) ||| 4294967296))
set_option maxHeartbeats 4000000 in
set_option maxRecDepth 100000 in
theorem c_Mo_part {l : Launch} {E : xV} {z : Nat} {x0 : Int32} {x1 : Int32} {x2 : Int32} {r : Int64} {ω : xS} (hf : f_Mo_part x0 x1 x2 ω = some r) : xM l E y_Mo_part ws_Mo_part { frames := 0, cells := 0, slots := 0, locals := 0 } [.int x0, .int x1, .int x2] z ω (some (.long r)) z ω := by
  refine x_start (cc := b_Mo_part) (maxL := 3) (ret := (some .long)) (by decide) rfl (Nat.le_of_ble_eq_true rfl) ?_
  intro p e s m below meth c S hr hlocks hin ls hl hw
  have hl : lv_has ls 3 [(0, .int x0), (1, .int x1), (2, .int x2)] := hl
  unfold f_Mo_part at hf
  refine lv_iload_n S.1 S.2.1 d_Mo_part_0 rfl (lv_at hl 0 rfl) ?_
  refine lv_i2l (v := (Int32.toInt64 x0)) S.1 S.2.1 d_Mo_part_1 rfl ?_
  refine lv_iload_n S.1 S.2.1 d_Mo_part_2 rfl (lv_at hl 1 rfl) ?_
  refine lv_i2l (v := (Int32.toInt64 x1)) S.1 S.2.1 d_Mo_part_3 rfl ?_
  refine lv_bipush (v := 16) S.1 S.2.1 d_Mo_part_4 (by decide) ?_
  refine lv_lshl (v := (xlshl (Int32.toInt64 x1) 16)) S.1 S.2.1 d_Mo_part_6 rfl ?_
  refine lv_lor S.1 S.2.1 d_Mo_part_7 ?_
  refine lv_iload_n S.1 S.2.1 d_Mo_part_8 rfl (lv_at hl 2 rfl) ?_
  refine lv_if_eq (tgt := 18) S.1 S.2.1 d_Mo_part_9 (by decide) (fun c1 => ?_) (fun c1 => ?_)
  · replace hf := xt c1 hf
    refine lv_lconst (v := 0) S.1 S.2.1 d_Mo_part_18 (by decide) ?_
    refine lv_lor S.1 S.2.1 d_Mo_part_19 ?_
    obtain rfl := xe1 hf
    exact x_lret S hr hlocks hw d_Mo_part_20
  · replace hf := xf c1 hf
    refine lv_ldc2 (v := 4294967296) S.1 S.2.1 S.2.2.2.1 (S.2.2.2.2 _ wd_6_49) d_Mo_part_12 ?_
    refine lv_goto (tgt := 19) S.1 S.2.1 d_Mo_part_15 (by decide) ?_
    refine lv_lor S.1 S.2.1 d_Mo_part_19 ?_
    obtain rfl := xe1 hf
    exact x_lret S hr hlocks hw d_Mo_part_20
def f_Mo_behind_51 (x1 : Int64) (x3 : Int64) (y0 : Int32) (y1 : Int32) (y2 : Int32) (ω : xS) : Option (Int64 × xS) :=
  (f_Mo_noneOf x1 ω).bind fun t30 =>
  if t30 = 0 then (
    (f_Mo_part y2 (y1 ||| y0) 0 ω).bind fun t33 =>
    some (t33, ω))
  else (
    (f_Mo_noneOf x3 ω).bind fun t35 =>
    if t35 = 0 then (
      (f_Mo_part y2 (y1 ||| y0) 0 ω).bind fun t38 =>
      some (t38, ω))
    else (
      (f_Mo_part y2 (y1 ||| y0) 1 ω).bind fun t40 =>
      some (t40, ω)))
set_option maxHeartbeats 4000000 in
set_option maxRecDepth 100000 in
theorem w_Mo_behind_51 {p : Program} {l : Launch} {e : Env} {s : State} {m : MethodId} {args : Array Value} {below : List Frame} {meth : Method} {c : Code} {E : xV} {z : Nat} {r : Int64} {ω1 : xS} (S : CallFix p m c b_Mo_behind 5 s args xTbl "RosterRulesModel") (hr : meth.sig.returnType = (some .long)) (hlocks : meth.locks = false) : ∀ (x1 : Int64) (x3 : Int64) (y0 : Int32) (y1 : Int32) (y2 : Int32) (ω : xS) (H : Heap) (locs : List Loc) (ls : Array Slot), xW E z ω s s.heap H locs → lv_has ls 5 [(1, .long x1), (3, .long x3)] → f_Mo_behind_51 x1 x3 y0 y1 y2 ω = some (r, ω1) → W p l e (headSpec ws_Mo_behind { frames := 1, cells := 0, slots := 0, locals := 23 }).room s m args below meth c H locs 0 0 (MQ below (xQ E (some (.long r)) z ω1) args s 0 0 (fun q => E.2.2 ≤ q)) (F0 m 51 ls [.int y0, .int y1, .int y2]) := by
  intro x1 x3 y0 y1 y2 ω H locs ls hw hl hf
  unfold f_Mo_behind_51 at hf
  refine lv_ior S.1 S.2.1 d_Mo_behind_51 ?_
  refine lv_lload_n S.1 S.2.1 d_Mo_behind_52 rfl (lv_at hl 0 rfl) ?_
  obtain ⟨t30, h29, hf⟩ := xb hf
  refine x_callS (As := [.long x1]) (rest := [.int (y1 ||| y0), .int y2]) (st1 := [.int t30, .int (y1 ||| y0), .int y2]) S hw (c_Mo_noneOf h29) (cwS 1 S.2.2.2.2 gs_Mo_270 rfl rfl rfl hd_Mo_noneOf ⟨Nat.le_of_ble_eq_true rfl, Nat.le_of_ble_eq_true rfl⟩) rfl hl.1 rfl rfl (Nat.le_of_ble_eq_true rfl) d_Mo_behind_53 ⟨Nat.le_of_ble_eq_true rfl, Nat.le_of_ble_eq_true rfl⟩ (fun H locs hw => ?_)
  refine lv_if_eq (tgt := 70) S.1 S.2.1 d_Mo_behind_56 (by decide) (fun c31 => ?_) (fun c31 => ?_)
  · replace hf := xt c31 hf
    refine lv_iconst (v := 0) S.1 S.2.1 d_Mo_behind_70 (by decide) ?_
    obtain ⟨t33, h32, hf⟩ := xb hf
    refine x_callS (As := [.int y2, .int (y1 ||| y0), .int 0]) (rest := []) (st1 := [.long t33]) S hw (c_Mo_part h32) (cwS 3 S.2.2.2.2 gs_Mo_310 rfl rfl rfl hd_Mo_part ⟨Nat.le_of_ble_eq_true rfl, Nat.le_of_ble_eq_true rfl⟩) rfl hl.1 rfl rfl (Nat.le_of_ble_eq_true rfl) d_Mo_behind_71 ⟨Nat.le_of_ble_eq_true rfl, Nat.le_of_ble_eq_true rfl⟩ (fun H locs hw => ?_)
    obtain ⟨rfl, rfl⟩ := xe2 hf
    exact x_lret S hr hlocks hw d_Mo_behind_74
  · replace hf := xf c31 hf
    refine lv_lload_n S.1 S.2.1 d_Mo_behind_59 rfl (lv_at hl 1 rfl) ?_
    obtain ⟨t35, h34, hf⟩ := xb hf
    refine x_callS (As := [.long x3]) (rest := [.int (y1 ||| y0), .int y2]) (st1 := [.int t35, .int (y1 ||| y0), .int y2]) S hw (c_Mo_noneOf h34) (cwS 1 S.2.2.2.2 gs_Mo_270 rfl rfl rfl hd_Mo_noneOf ⟨Nat.le_of_ble_eq_true rfl, Nat.le_of_ble_eq_true rfl⟩) rfl hl.1 rfl rfl (Nat.le_of_ble_eq_true rfl) d_Mo_behind_60 ⟨Nat.le_of_ble_eq_true rfl, Nat.le_of_ble_eq_true rfl⟩ (fun H locs hw => ?_)
    refine lv_if_eq (tgt := 70) S.1 S.2.1 d_Mo_behind_63 (by decide) (fun c36 => ?_) (fun c36 => ?_)
    · replace hf := xt c36 hf
      refine lv_iconst (v := 0) S.1 S.2.1 d_Mo_behind_70 (by decide) ?_
      obtain ⟨t38, h37, hf⟩ := xb hf
      refine x_callS (As := [.int y2, .int (y1 ||| y0), .int 0]) (rest := []) (st1 := [.long t38]) S hw (c_Mo_part h37) (cwS 3 S.2.2.2.2 gs_Mo_310 rfl rfl rfl hd_Mo_part ⟨Nat.le_of_ble_eq_true rfl, Nat.le_of_ble_eq_true rfl⟩) rfl hl.1 rfl rfl (Nat.le_of_ble_eq_true rfl) d_Mo_behind_71 ⟨Nat.le_of_ble_eq_true rfl, Nat.le_of_ble_eq_true rfl⟩ (fun H locs hw => ?_)
      obtain ⟨rfl, rfl⟩ := xe2 hf
      exact x_lret S hr hlocks hw d_Mo_behind_74
    · replace hf := xf c36 hf
      refine lv_iconst (v := 1) S.1 S.2.1 d_Mo_behind_66 (by decide) ?_
      refine lv_goto (tgt := 71) S.1 S.2.1 d_Mo_behind_67 (by decide) ?_
      obtain ⟨t40, h39, hf⟩ := xb hf
      refine x_callS (As := [.int y2, .int (y1 ||| y0), .int 1]) (rest := []) (st1 := [.long t40]) S hw (c_Mo_part h39) (cwS 3 S.2.2.2.2 gs_Mo_310 rfl rfl rfl hd_Mo_part ⟨Nat.le_of_ble_eq_true rfl, Nat.le_of_ble_eq_true rfl⟩) rfl hl.1 rfl rfl (Nat.le_of_ble_eq_true rfl) d_Mo_behind_71 ⟨Nat.le_of_ble_eq_true rfl, Nat.le_of_ble_eq_true rfl⟩ (fun H locs hw => ?_)
      obtain ⟨rfl, rfl⟩ := xe2 hf
      exact x_lret S hr hlocks hw d_Mo_behind_74
def f_Mo_behind (a0 : Nat) (x1 : Int64) (x3 : Int64) (ω : xS) : Option (Int64 × xS) :=
  (f_Mo_lastOf x1 ω).bind fun t2 =>
  (f_Mo_firstOf x3 ω).bind fun t4 =>
  (xk ω a0 12 (f_Mo_join a0 t2 t4 ω)).bind fun w7 =>
  (f_Mo_firstOf x1 w7).bind fun t9 =>
  (f_Mo_noneOf x1 w7).bind fun t11 =>
  if t11 = 0 then (
    (f_Mo_lastOf x3 w7).bind fun t14 =>
    (f_Mo_noneOf x3 w7).bind fun t16 =>
    if t16 = 0 then (
      f_Mo_behind_51  x1 x3 0 t14 (t9 ||| 0) w7)
    else (
      (f_Mo_lastOf x1 w7).bind fun t19 =>
      f_Mo_behind_51  x1 x3 t19 t14 (t9 ||| 0) w7))
  else (
    (f_Mo_firstOf x3 w7).bind fun t21 =>
    (f_Mo_lastOf x3 w7).bind fun t23 =>
    (f_Mo_noneOf x3 w7).bind fun t25 =>
    if t25 = 0 then (
      f_Mo_behind_51  x1 x3 0 t23 (t9 ||| t21) w7)
    else (
      (f_Mo_lastOf x1 w7).bind fun t28 =>
      f_Mo_behind_51  x1 x3 t28 t23 (t9 ||| t21) w7))
set_option maxHeartbeats 4000000 in
set_option maxRecDepth 100000 in
theorem c_Mo_behind {l : Launch} {E : xV} {z : Nat} {a0 : Nat} {x1 : Int64} {x3 : Int64} {r : Int64} {ω1 : xS} {ω : xS} (hf : f_Mo_behind a0 x1 x3 ω = some (r, ω1)) : xM l E y_Mo_behind ws_Mo_behind { frames := 1, cells := 0, slots := 0, locals := 23 } [.ref a0, .long x1, .long x3] z ω (some (.long r)) z ω1 := by
  refine x_start (cc := b_Mo_behind) (maxL := 5) (ret := (some .long)) (by decide) rfl (Nat.le_of_ble_eq_true rfl) ?_
  intro p e s m below meth c S hr hlocks hin ls hl hw
  have hl : lv_has ls 5 [(0, .ref a0), (1, .long x1), (3, .long x3)] := hl
  unfold f_Mo_behind at hf
  refine lv_aload_n S.1 S.2.1 d_Mo_behind_0 rfl (lv_at hl 0 rfl) ?_
  refine lv_lload_n S.1 S.2.1 d_Mo_behind_1 rfl (lv_at hl 1 rfl) ?_
  obtain ⟨t2, h1, hf⟩ := xb hf
  refine x_callS (As := [.long x1]) (rest := [.ref a0]) (st1 := [.int t2, .ref a0]) S hw (c_Mo_lastOf h1) (cwS 1 S.2.2.2.2 gs_Mo_267 rfl rfl rfl hd_Mo_lastOf ⟨Nat.le_of_ble_eq_true rfl, Nat.le_of_ble_eq_true rfl⟩) rfl hl.1 rfl rfl (Nat.le_of_ble_eq_true rfl) d_Mo_behind_2 ⟨Nat.le_of_ble_eq_true rfl, Nat.le_of_ble_eq_true rfl⟩ (fun H locs hw => ?_)
  refine lv_lload_n S.1 S.2.1 d_Mo_behind_5 rfl (lv_at hl 2 rfl) ?_
  obtain ⟨t4, h3, hf⟩ := xb hf
  refine x_callS (As := [.long x3]) (rest := [.int t2, .ref a0]) (st1 := [.int t4, .int t2, .ref a0]) S hw (c_Mo_firstOf h3) (cwS 1 S.2.2.2.2 gs_Mo_263 rfl rfl rfl hd_Mo_firstOf ⟨Nat.le_of_ble_eq_true rfl, Nat.le_of_ble_eq_true rfl⟩) rfl hl.1 rfl rfl (Nat.le_of_ble_eq_true rfl) d_Mo_behind_6 ⟨Nat.le_of_ble_eq_true rfl, Nat.le_of_ble_eq_true rfl⟩ (fun H locs hw => ?_)
  obtain ⟨w7, h5, hf⟩ := xb hf
  obtain ⟨h5b, h5⟩ := xkb h5
  refine x_callV (As := [.int t2, .int t4]) (rest := []) (st1 := []) S hw (c_Mo_join h5) (cwV 2 S.2.2.2.2 gv_Mo_307 rfl rfl rfl hd_Mo_join ⟨Nat.le_of_ble_eq_true rfl, Nat.le_of_ble_eq_true rfl⟩) rfl h5b rfl hl.1 rfl rfl (Nat.le_of_ble_eq_true rfl) d_Mo_behind_9 ⟨Nat.le_of_ble_eq_true rfl, Nat.le_of_ble_eq_true rfl⟩ (fun H locs hw => ?_)
  refine lv_lload_n S.1 S.2.1 d_Mo_behind_12 rfl (lv_at hl 1 rfl) ?_
  obtain ⟨t9, h8, hf⟩ := xb hf
  refine x_callS (As := [.long x1]) (rest := []) (st1 := [.int t9]) S hw (c_Mo_firstOf h8) (cwS 1 S.2.2.2.2 gs_Mo_263 rfl rfl rfl hd_Mo_firstOf ⟨Nat.le_of_ble_eq_true rfl, Nat.le_of_ble_eq_true rfl⟩) rfl hl.1 rfl rfl (Nat.le_of_ble_eq_true rfl) d_Mo_behind_13 ⟨Nat.le_of_ble_eq_true rfl, Nat.le_of_ble_eq_true rfl⟩ (fun H locs hw => ?_)
  refine lv_lload_n S.1 S.2.1 d_Mo_behind_16 rfl (lv_at hl 1 rfl) ?_
  obtain ⟨t11, h10, hf⟩ := xb hf
  refine x_callS (As := [.long x1]) (rest := [.int t9]) (st1 := [.int t11, .int t9]) S hw (c_Mo_noneOf h10) (cwS 1 S.2.2.2.2 gs_Mo_270 rfl rfl rfl hd_Mo_noneOf ⟨Nat.le_of_ble_eq_true rfl, Nat.le_of_ble_eq_true rfl⟩) rfl hl.1 rfl rfl (Nat.le_of_ble_eq_true rfl) d_Mo_behind_17 ⟨Nat.le_of_ble_eq_true rfl, Nat.le_of_ble_eq_true rfl⟩ (fun H locs hw => ?_)
  refine lv_if_eq (tgt := 30) S.1 S.2.1 d_Mo_behind_20 (by decide) (fun c12 => ?_) (fun c12 => ?_)
  · replace hf := xt c12 hf
    refine lv_iconst (v := 0) S.1 S.2.1 d_Mo_behind_30 (by decide) ?_
    refine lv_ior S.1 S.2.1 d_Mo_behind_31 ?_
    refine lv_lload_n S.1 S.2.1 d_Mo_behind_32 rfl (lv_at hl 2 rfl) ?_
    obtain ⟨t14, h13, hf⟩ := xb hf
    refine x_callS (As := [.long x3]) (rest := [.int (t9 ||| 0)]) (st1 := [.int t14, .int (t9 ||| 0)]) S hw (c_Mo_lastOf h13) (cwS 1 S.2.2.2.2 gs_Mo_267 rfl rfl rfl hd_Mo_lastOf ⟨Nat.le_of_ble_eq_true rfl, Nat.le_of_ble_eq_true rfl⟩) rfl hl.1 rfl rfl (Nat.le_of_ble_eq_true rfl) d_Mo_behind_33 ⟨Nat.le_of_ble_eq_true rfl, Nat.le_of_ble_eq_true rfl⟩ (fun H locs hw => ?_)
    refine lv_lload_n S.1 S.2.1 d_Mo_behind_36 rfl (lv_at hl 2 rfl) ?_
    obtain ⟨t16, h15, hf⟩ := xb hf
    refine x_callS (As := [.long x3]) (rest := [.int t14, .int (t9 ||| 0)]) (st1 := [.int t16, .int t14, .int (t9 ||| 0)]) S hw (c_Mo_noneOf h15) (cwS 1 S.2.2.2.2 gs_Mo_270 rfl rfl rfl hd_Mo_noneOf ⟨Nat.le_of_ble_eq_true rfl, Nat.le_of_ble_eq_true rfl⟩) rfl hl.1 rfl rfl (Nat.le_of_ble_eq_true rfl) d_Mo_behind_37 ⟨Nat.le_of_ble_eq_true rfl, Nat.le_of_ble_eq_true rfl⟩ (fun H locs hw => ?_)
    refine lv_if_eq (tgt := 50) S.1 S.2.1 d_Mo_behind_40 (by decide) (fun c17 => ?_) (fun c17 => ?_)
    · replace hf := xt c17 hf
      refine lv_iconst (v := 0) S.1 S.2.1 d_Mo_behind_50 (by decide) ?_
      exact w_Mo_behind_51 S hr hlocks  _ _ _ _ _ _ _ _ _ hw (lv_sub hl [1, 2] rfl) hf
    · replace hf := xf c17 hf
      refine lv_lload_n S.1 S.2.1 d_Mo_behind_43 rfl (lv_at hl 1 rfl) ?_
      obtain ⟨t19, h18, hf⟩ := xb hf
      refine x_callS (As := [.long x1]) (rest := [.int t14, .int (t9 ||| 0)]) (st1 := [.int t19, .int t14, .int (t9 ||| 0)]) S hw (c_Mo_lastOf h18) (cwS 1 S.2.2.2.2 gs_Mo_267 rfl rfl rfl hd_Mo_lastOf ⟨Nat.le_of_ble_eq_true rfl, Nat.le_of_ble_eq_true rfl⟩) rfl hl.1 rfl rfl (Nat.le_of_ble_eq_true rfl) d_Mo_behind_44 ⟨Nat.le_of_ble_eq_true rfl, Nat.le_of_ble_eq_true rfl⟩ (fun H locs hw => ?_)
      refine lv_goto (tgt := 51) S.1 S.2.1 d_Mo_behind_47 (by decide) ?_
      exact w_Mo_behind_51 S hr hlocks  _ _ _ _ _ _ _ _ _ hw (lv_sub hl [1, 2] rfl) hf
  · replace hf := xf c12 hf
    refine lv_lload_n S.1 S.2.1 d_Mo_behind_23 rfl (lv_at hl 2 rfl) ?_
    obtain ⟨t21, h20, hf⟩ := xb hf
    refine x_callS (As := [.long x3]) (rest := [.int t9]) (st1 := [.int t21, .int t9]) S hw (c_Mo_firstOf h20) (cwS 1 S.2.2.2.2 gs_Mo_263 rfl rfl rfl hd_Mo_firstOf ⟨Nat.le_of_ble_eq_true rfl, Nat.le_of_ble_eq_true rfl⟩) rfl hl.1 rfl rfl (Nat.le_of_ble_eq_true rfl) d_Mo_behind_24 ⟨Nat.le_of_ble_eq_true rfl, Nat.le_of_ble_eq_true rfl⟩ (fun H locs hw => ?_)
    refine lv_goto (tgt := 31) S.1 S.2.1 d_Mo_behind_27 (by decide) ?_
    refine lv_ior S.1 S.2.1 d_Mo_behind_31 ?_
    refine lv_lload_n S.1 S.2.1 d_Mo_behind_32 rfl (lv_at hl 2 rfl) ?_
    obtain ⟨t23, h22, hf⟩ := xb hf
    refine x_callS (As := [.long x3]) (rest := [.int (t9 ||| t21)]) (st1 := [.int t23, .int (t9 ||| t21)]) S hw (c_Mo_lastOf h22) (cwS 1 S.2.2.2.2 gs_Mo_267 rfl rfl rfl hd_Mo_lastOf ⟨Nat.le_of_ble_eq_true rfl, Nat.le_of_ble_eq_true rfl⟩) rfl hl.1 rfl rfl (Nat.le_of_ble_eq_true rfl) d_Mo_behind_33 ⟨Nat.le_of_ble_eq_true rfl, Nat.le_of_ble_eq_true rfl⟩ (fun H locs hw => ?_)
    refine lv_lload_n S.1 S.2.1 d_Mo_behind_36 rfl (lv_at hl 2 rfl) ?_
    obtain ⟨t25, h24, hf⟩ := xb hf
    refine x_callS (As := [.long x3]) (rest := [.int t23, .int (t9 ||| t21)]) (st1 := [.int t25, .int t23, .int (t9 ||| t21)]) S hw (c_Mo_noneOf h24) (cwS 1 S.2.2.2.2 gs_Mo_270 rfl rfl rfl hd_Mo_noneOf ⟨Nat.le_of_ble_eq_true rfl, Nat.le_of_ble_eq_true rfl⟩) rfl hl.1 rfl rfl (Nat.le_of_ble_eq_true rfl) d_Mo_behind_37 ⟨Nat.le_of_ble_eq_true rfl, Nat.le_of_ble_eq_true rfl⟩ (fun H locs hw => ?_)
    refine lv_if_eq (tgt := 50) S.1 S.2.1 d_Mo_behind_40 (by decide) (fun c26 => ?_) (fun c26 => ?_)
    · replace hf := xt c26 hf
      refine lv_iconst (v := 0) S.1 S.2.1 d_Mo_behind_50 (by decide) ?_
      exact w_Mo_behind_51 S hr hlocks  _ _ _ _ _ _ _ _ _ hw (lv_sub hl [1, 2] rfl) hf
    · replace hf := xf c26 hf
      refine lv_lload_n S.1 S.2.1 d_Mo_behind_43 rfl (lv_at hl 1 rfl) ?_
      obtain ⟨t28, h27, hf⟩ := xb hf
      refine x_callS (As := [.long x1]) (rest := [.int t23, .int (t9 ||| t21)]) (st1 := [.int t28, .int t23, .int (t9 ||| t21)]) S hw (c_Mo_lastOf h27) (cwS 1 S.2.2.2.2 gs_Mo_267 rfl rfl rfl hd_Mo_lastOf ⟨Nat.le_of_ble_eq_true rfl, Nat.le_of_ble_eq_true rfl⟩) rfl hl.1 rfl rfl (Nat.le_of_ble_eq_true rfl) d_Mo_behind_44 ⟨Nat.le_of_ble_eq_true rfl, Nat.le_of_ble_eq_true rfl⟩ (fun H locs hw => ?_)
      refine lv_goto (tgt := 51) S.1 S.2.1 d_Mo_behind_47 (by decide) ?_
      exact w_Mo_behind_51 S hr hlocks  _ _ _ _ _ _ _ _ _ hw (lv_sub hl [1, 2] rfl) hf
def f_Mo_settle (a0 : Nat) (x1 : Int32) (ω : xS) : Option xS :=
  (xgr ω a0 12 48).bind fun t1 =>
  (xaz ω t1 x1).bind fun t2 =>
  if t2 = 0 then (
    some ω)
  else (
    (xgr ω a0 12 50).bind fun t4 =>
    (xgr ω a0 12 53).bind fun t5 =>
    (xaz ω t5 x1).bind fun t6 =>
    if t6 = 0 then (
      (xgr ω a0 12 51).bind fun t8 =>
      (xal ω t8 x1).bind fun t9 =>
      (xsl ω t4 x1 t9).bind fun w10 =>
      (xgr w10 a0 12 53).bind fun t11 =>
      (xsz w10 t11 x1 1).bind fun w12 =>
      (xgr w12 a0 12 48).bind fun t13 =>
      (xsz w12 t13 x1 0).bind fun w14 =>
      some w14)
    else (
      (xgr ω a0 12 50).bind fun t15 =>
      (xal ω t15 x1).bind fun t16 =>
      (xgr ω a0 12 51).bind fun t17 =>
      (xal ω t17 x1).bind fun t18 =>
      xc (xk ω a0 12 (f_Mo_behind a0 t16 t18 ω)) fun t20 w21 =>
      (xsl w21 t4 x1 t20).bind fun w22 =>
      (xgr w22 a0 12 53).bind fun t23 =>
      (xsz w22 t23 x1 1).bind fun w24 =>
      (xgr w24 a0 12 48).bind fun t25 =>
      (xsz w24 t25 x1 0).bind fun w26 =>
      some w26))
set_option maxHeartbeats 4000000 in
set_option maxRecDepth 100000 in
theorem c_Mo_settle {l : Launch} {E : xV} {z : Nat} {a0 : Nat} {x1 : Int32} {ω1 : xS} {ω : xS} (hf : f_Mo_settle a0 x1 ω = some ω1) : xM l E y_Mo_settle ws_Mo_settle { frames := 2, cells := 0, slots := 0, locals := 47 } [.ref a0, .int x1] z ω none z ω1 := by
  refine x_start (cc := b_Mo_settle) (maxL := 2) (ret := none) (by decide) rfl (Nat.le_of_ble_eq_true rfl) ?_
  intro p e s m below meth c S hr hlocks hin ls hl hw
  have hl : lv_has ls 2 [(0, .ref a0), (1, .int x1)] := hl
  unfold f_Mo_settle at hf
  refine lv_aload_n S.1 S.2.1 d_Mo_settle_0 rfl (lv_at hl 0 rfl) ?_
  obtain ⟨t1, ht1, hf⟩ := xb hf
  refine x_getr S hw lk_Mo_104 ht1 d_Mo_settle_1 ?_
  refine lv_iload_n S.1 S.2.1 d_Mo_settle_4 rfl (lv_at hl 1 rfl) ?_
  obtain ⟨t2, ht2, hf⟩ := xb hf
  refine x_zald S hw ht2 d_Mo_settle_5 ?_
  refine lv_if_eq (tgt := 63) S.1 S.2.1 d_Mo_settle_6 (by decide) (fun c3 => ?_) (fun c3 => ?_)
  · replace hf := xt c3 hf
    cases hf
    exact x_vret S hr hlocks hw d_Mo_settle_63
  · replace hf := xf c3 hf
    refine lv_aload_n S.1 S.2.1 d_Mo_settle_9 rfl (lv_at hl 0 rfl) ?_
    obtain ⟨t4, ht4, hf⟩ := xb hf
    refine x_getr S hw lk_Mo_111 ht4 d_Mo_settle_10 ?_
    refine lv_iload_n S.1 S.2.1 d_Mo_settle_13 rfl (lv_at hl 1 rfl) ?_
    refine lv_aload_n S.1 S.2.1 d_Mo_settle_14 rfl (lv_at hl 0 rfl) ?_
    obtain ⟨t5, ht5, hf⟩ := xb hf
    refine x_getr S hw lk_Mo_120 ht5 d_Mo_settle_15 ?_
    refine lv_iload_n S.1 S.2.1 d_Mo_settle_18 rfl (lv_at hl 1 rfl) ?_
    obtain ⟨t6, ht6, hf⟩ := xb hf
    refine x_zald S hw ht6 d_Mo_settle_19 ?_
    refine lv_if_eq (tgt := 42) S.1 S.2.1 d_Mo_settle_20 (by decide) (fun c7 => ?_) (fun c7 => ?_)
    · replace hf := xt c7 hf
      refine lv_aload_n S.1 S.2.1 d_Mo_settle_42 rfl (lv_at hl 0 rfl) ?_
      obtain ⟨t8, ht8, hf⟩ := xb hf
      refine x_getr S hw lk_Mo_114 ht8 d_Mo_settle_43 ?_
      refine lv_iload_n S.1 S.2.1 d_Mo_settle_46 rfl (lv_at hl 1 rfl) ?_
      obtain ⟨t9, ht9, hf⟩ := xb hf
      refine x_lald S hw ht9 d_Mo_settle_47 ?_
      obtain ⟨w10, hw10, hf⟩ := xb hf
      refine x_last S hw hw10 d_Mo_settle_48 (fun H locs hw => ?_)
      refine lv_aload_n S.1 S.2.1 d_Mo_settle_49 rfl (lv_at hl 0 rfl) ?_
      obtain ⟨t11, ht11, hf⟩ := xb hf
      refine x_getr S hw lk_Mo_120 ht11 d_Mo_settle_50 ?_
      refine lv_iload_n S.1 S.2.1 d_Mo_settle_53 rfl (lv_at hl 1 rfl) ?_
      refine lv_iconst (v := 1) S.1 S.2.1 d_Mo_settle_54 (by decide) ?_
      obtain ⟨w12, hw12, hf⟩ := xb hf
      refine x_zast S hw hw12 d_Mo_settle_55 (fun H locs hw => ?_)
      refine lv_aload_n S.1 S.2.1 d_Mo_settle_56 rfl (lv_at hl 0 rfl) ?_
      obtain ⟨t13, ht13, hf⟩ := xb hf
      refine x_getr S hw lk_Mo_104 ht13 d_Mo_settle_57 ?_
      refine lv_iload_n S.1 S.2.1 d_Mo_settle_60 rfl (lv_at hl 1 rfl) ?_
      refine lv_iconst (v := 0) S.1 S.2.1 d_Mo_settle_61 (by decide) ?_
      obtain ⟨w14, hw14, hf⟩ := xb hf
      refine x_zast S hw hw14 d_Mo_settle_62 (fun H locs hw => ?_)
      cases hf
      exact x_vret S hr hlocks hw d_Mo_settle_63
    · replace hf := xf c7 hf
      refine lv_aload_n S.1 S.2.1 d_Mo_settle_23 rfl (lv_at hl 0 rfl) ?_
      refine lv_aload_n S.1 S.2.1 d_Mo_settle_24 rfl (lv_at hl 0 rfl) ?_
      obtain ⟨t15, ht15, hf⟩ := xb hf
      refine x_getr S hw lk_Mo_111 ht15 d_Mo_settle_25 ?_
      refine lv_iload_n S.1 S.2.1 d_Mo_settle_28 rfl (lv_at hl 1 rfl) ?_
      obtain ⟨t16, ht16, hf⟩ := xb hf
      refine x_lald S hw ht16 d_Mo_settle_29 ?_
      refine lv_aload_n S.1 S.2.1 d_Mo_settle_30 rfl (lv_at hl 0 rfl) ?_
      obtain ⟨t17, ht17, hf⟩ := xb hf
      refine x_getr S hw lk_Mo_114 ht17 d_Mo_settle_31 ?_
      refine lv_iload_n S.1 S.2.1 d_Mo_settle_34 rfl (lv_at hl 1 rfl) ?_
      obtain ⟨t18, ht18, hf⟩ := xb hf
      refine x_lald S hw ht18 d_Mo_settle_35 ?_
      obtain ⟨t20, w21, h19, hf⟩ := xcb hf
      obtain ⟨h19b, h19⟩ := xkb h19
      refine x_callV (As := [.long t16, .long t18]) (rest := [.int x1, .ref t4]) (st1 := [.long t20, .int x1, .ref t4]) S hw (c_Mo_behind h19) (cwV 2 S.2.2.2.2 gv_Mo_314 rfl rfl rfl hd_Mo_behind ⟨Nat.le_of_ble_eq_true rfl, Nat.le_of_ble_eq_true rfl⟩) rfl h19b rfl hl.1 rfl rfl (Nat.le_of_ble_eq_true rfl) d_Mo_settle_36 ⟨Nat.le_of_ble_eq_true rfl, Nat.le_of_ble_eq_true rfl⟩ (fun H locs hw => ?_)
      refine lv_goto (tgt := 48) S.1 S.2.1 d_Mo_settle_39 (by decide) ?_
      obtain ⟨w22, hw22, hf⟩ := xb hf
      refine x_last S hw hw22 d_Mo_settle_48 (fun H locs hw => ?_)
      refine lv_aload_n S.1 S.2.1 d_Mo_settle_49 rfl (lv_at hl 0 rfl) ?_
      obtain ⟨t23, ht23, hf⟩ := xb hf
      refine x_getr S hw lk_Mo_120 ht23 d_Mo_settle_50 ?_
      refine lv_iload_n S.1 S.2.1 d_Mo_settle_53 rfl (lv_at hl 1 rfl) ?_
      refine lv_iconst (v := 1) S.1 S.2.1 d_Mo_settle_54 (by decide) ?_
      obtain ⟨w24, hw24, hf⟩ := xb hf
      refine x_zast S hw hw24 d_Mo_settle_55 (fun H locs hw => ?_)
      refine lv_aload_n S.1 S.2.1 d_Mo_settle_56 rfl (lv_at hl 0 rfl) ?_
      obtain ⟨t25, ht25, hf⟩ := xb hf
      refine x_getr S hw lk_Mo_104 ht25 d_Mo_settle_57 ?_
      refine lv_iload_n S.1 S.2.1 d_Mo_settle_60 rfl (lv_at hl 1 rfl) ?_
      refine lv_iconst (v := 0) S.1 S.2.1 d_Mo_settle_61 (by decide) ?_
      obtain ⟨w26, hw26, hf⟩ := xb hf
      refine x_zast S hw hw26 d_Mo_settle_62 (fun H locs hw => ?_)
      cases hf
      exact x_vret S hr hlocks hw d_Mo_settle_63
def f_Mo_finish_69 (a0 : Nat) (x1 : Int32) (y0 : Int32) (y1 : Int32) (y2 : Int32) (y3 : Nat) (ω : xS) : Option xS :=
  (f_Mo_part y1 y0 1 ω).bind fun t39 =>
  (xsl ω y3 y2 t39).bind fun w40 =>
  (xgr w40 a0 12 52).bind fun t41 =>
  (xsz w40 t41 x1 1).bind fun w42 =>
  (xgr w42 a0 12 53).bind fun t43 =>
  (xsz w42 t43 x1 0).bind fun w44 =>
  some w44
set_option maxHeartbeats 4000000 in
set_option maxRecDepth 100000 in
theorem w_Mo_finish_69 {p : Program} {l : Launch} {e : Env} {s : State} {m : MethodId} {args : Array Value} {below : List Frame} {meth : Method} {c : Code} {E : xV} {z : Nat} {ω1 : xS} (S : CallFix p m c b_Mo_finish 6 s args xTbl "RosterRulesModel") (hr : meth.sig.returnType = none) (hlocks : meth.locks = false) : ∀ (a0 : Nat) (x1 : Int32) (y0 : Int32) (y1 : Int32) (y2 : Int32) (y3 : Nat) (ω : xS) (H : Heap) (locs : List Loc) (ls : Array Slot), xW E z ω s s.heap H locs → lv_has ls 6 [(0, .ref a0), (1, .int x1)] → f_Mo_finish_69 a0 x1 y0 y1 y2 y3 ω = some ω1 → W p l e (headSpec ws_Mo_finish { frames := 3, cells := 0, slots := 0, locals := 68 }).room s m args below meth c H locs 0 0 (MQ below (xQ E none z ω1) args s 0 0 (fun q => E.2.2 ≤ q)) (F0 m 69 ls [.int y0, .int y1, .int y2, .ref y3]) := by
  intro a0 x1 y0 y1 y2 y3 ω H locs ls hw hl hf
  unfold f_Mo_finish_69 at hf
  refine lv_iconst (v := 1) S.1 S.2.1 d_Mo_finish_69 (by decide) ?_
  refine lv_goto (tgt := 74) S.1 S.2.1 d_Mo_finish_70 (by decide) ?_
  obtain ⟨t39, h38, hf⟩ := xb hf
  refine x_callS (As := [.int y1, .int y0, .int 1]) (rest := [.int y2, .ref y3]) (st1 := [.long t39, .int y2, .ref y3]) S hw (c_Mo_part h38) (cwS 3 S.2.2.2.2 gs_Mo_310 rfl rfl rfl hd_Mo_part ⟨Nat.le_of_ble_eq_true rfl, Nat.le_of_ble_eq_true rfl⟩) rfl hl.1 rfl rfl (Nat.le_of_ble_eq_true rfl) d_Mo_finish_74 ⟨Nat.le_of_ble_eq_true rfl, Nat.le_of_ble_eq_true rfl⟩ (fun H locs hw => ?_)
  refine lv_goto (tgt := 82) S.1 S.2.1 d_Mo_finish_77 (by decide) ?_
  obtain ⟨w40, hw40, hf⟩ := xb hf
  refine x_last S hw hw40 d_Mo_finish_82 (fun H locs hw => ?_)
  refine lv_aload_n S.1 S.2.1 d_Mo_finish_83 rfl (lv_at hl 0 rfl) ?_
  obtain ⟨t41, ht41, hf⟩ := xb hf
  refine x_getr S hw lk_Mo_117 ht41 d_Mo_finish_84 ?_
  refine lv_iload_n S.1 S.2.1 d_Mo_finish_87 rfl (lv_at hl 1 rfl) ?_
  refine lv_iconst (v := 1) S.1 S.2.1 d_Mo_finish_88 (by decide) ?_
  obtain ⟨w42, hw42, hf⟩ := xb hf
  refine x_zast S hw hw42 d_Mo_finish_89 (fun H locs hw => ?_)
  refine lv_aload_n S.1 S.2.1 d_Mo_finish_90 rfl (lv_at hl 0 rfl) ?_
  obtain ⟨t43, ht43, hf⟩ := xb hf
  refine x_getr S hw lk_Mo_120 ht43 d_Mo_finish_91 ?_
  refine lv_iload_n S.1 S.2.1 d_Mo_finish_94 rfl (lv_at hl 1 rfl) ?_
  refine lv_iconst (v := 0) S.1 S.2.1 d_Mo_finish_95 (by decide) ?_
  obtain ⟨w44, hw44, hf⟩ := xb hf
  refine x_zast S hw hw44 d_Mo_finish_96 (fun H locs hw => ?_)
  cases hf
  exact x_vret S hr hlocks hw d_Mo_finish_97
def f_Mo_finish (a0 : Nat) (x1 : Int32) (ω : xS) : Option xS :=
  (xk ω a0 12 (f_Mo_settle a0 x1 ω)).bind fun w3 =>
  (xgr w3 a0 12 49).bind fun t4 =>
  (xal w3 t4 x1).bind fun t5 =>
  (xgr w3 a0 12 50).bind fun t6 =>
  (xal w3 t6 x1).bind fun t7 =>
  (xgr w3 a0 12 49).bind fun t8 =>
  (xgr w3 a0 12 52).bind fun t9 =>
  (xaz w3 t9 x1).bind fun t10 =>
  if t10 = 0 then (
    (xsl w3 t8 x1 t7).bind fun w12 =>
    (xgr w12 a0 12 52).bind fun t13 =>
    (xsz w12 t13 x1 1).bind fun w14 =>
    (xgr w14 a0 12 53).bind fun t15 =>
    (xsz w14 t15 x1 0).bind fun w16 =>
    some w16)
  else (
    (f_Mo_firstOf t5 w3).bind fun t18 =>
    (f_Mo_firstOf t7 w3).bind fun t20 =>
    (f_Mo_lastOf t5 w3).bind fun t22 =>
    (f_Mo_lastOf t7 w3).bind fun t24 =>
    (f_Mo_noneOf t5 w3).bind fun t26 =>
    if t26 = 0 then (
      (f_Mo_noneOf t7 w3).bind fun t29 =>
      if t29 = 0 then (
        (f_Mo_part (t18 ||| t20) (t22 ||| t24) 0 w3).bind fun t32 =>
        (xsl w3 t8 x1 t32).bind fun w33 =>
        (xgr w33 a0 12 52).bind fun t34 =>
        (xsz w33 t34 x1 1).bind fun w35 =>
        (xgr w35 a0 12 53).bind fun t36 =>
        (xsz w35 t36 x1 0).bind fun w37 =>
        some w37)
      else (
        f_Mo_finish_69  a0 x1 (t22 ||| t24) (t18 ||| t20) x1 t8 w3))
    else (
      f_Mo_finish_69  a0 x1 (t22 ||| t24) (t18 ||| t20) x1 t8 w3))
set_option maxHeartbeats 4000000 in
set_option maxRecDepth 100000 in
theorem c_Mo_finish {l : Launch} {E : xV} {z : Nat} {a0 : Nat} {x1 : Int32} {ω1 : xS} {ω : xS} (hf : f_Mo_finish a0 x1 ω = some ω1) : xM l E y_Mo_finish ws_Mo_finish { frames := 3, cells := 0, slots := 0, locals := 68 } [.ref a0, .int x1] z ω none z ω1 := by
  refine x_start (cc := b_Mo_finish) (maxL := 6) (ret := none) (by decide) rfl (Nat.le_of_ble_eq_true rfl) ?_
  intro p e s m below meth c S hr hlocks hin ls hl hw
  have hl : lv_has ls 6 [(0, .ref a0), (1, .int x1)] := hl
  unfold f_Mo_finish at hf
  refine lv_aload_n S.1 S.2.1 d_Mo_finish_0 rfl (lv_at hl 0 rfl) ?_
  refine lv_iload_n S.1 S.2.1 d_Mo_finish_1 rfl (lv_at hl 1 rfl) ?_
  obtain ⟨w3, h1, hf⟩ := xb hf
  obtain ⟨h1b, h1⟩ := xkb h1
  refine x_callV (As := [.int x1]) (rest := []) (st1 := []) S hw (c_Mo_settle h1) (cwV 1 S.2.2.2.2 gv_Mo_318 rfl rfl rfl hd_Mo_settle ⟨Nat.le_of_ble_eq_true rfl, Nat.le_of_ble_eq_true rfl⟩) rfl h1b rfl hl.1 rfl rfl (Nat.le_of_ble_eq_true rfl) d_Mo_finish_2 ⟨Nat.le_of_ble_eq_true rfl, Nat.le_of_ble_eq_true rfl⟩ (fun H locs hw => ?_)
  refine lv_aload_n S.1 S.2.1 d_Mo_finish_5 rfl (lv_at hl 0 rfl) ?_
  obtain ⟨t4, ht4, hf⟩ := xb hf
  refine x_getr S hw lk_Mo_107 ht4 d_Mo_finish_6 ?_
  refine lv_iload_n S.1 S.2.1 d_Mo_finish_9 rfl (lv_at hl 1 rfl) ?_
  obtain ⟨t5, ht5, hf⟩ := xb hf
  refine x_lald S hw ht5 d_Mo_finish_10 ?_
  refine lv_lstore_n (lv' := [(2, .long t5), (0, .ref a0), (1, .int x1)]) S.1 S.2.1 d_Mo_finish_11 rfl hl (by decide) rfl (fun ls hl => ?_)
  refine lv_aload_n S.1 S.2.1 d_Mo_finish_12 rfl (lv_at hl 1 rfl) ?_
  obtain ⟨t6, ht6, hf⟩ := xb hf
  refine x_getr S hw lk_Mo_111 ht6 d_Mo_finish_13 ?_
  refine lv_iload_n S.1 S.2.1 d_Mo_finish_16 rfl (lv_at hl 2 rfl) ?_
  obtain ⟨t7, ht7, hf⟩ := xb hf
  refine x_lald S hw ht7 d_Mo_finish_17 ?_
  refine lv_lstore (lv' := [(4, .long t7), (2, .long t5), (0, .ref a0), (1, .int x1)]) S.1 S.2.1 d_Mo_finish_18 hl (by decide) rfl (fun ls hl => ?_)
  refine lv_aload_n S.1 S.2.1 d_Mo_finish_20 rfl (lv_at hl 2 rfl) ?_
  obtain ⟨t8, ht8, hf⟩ := xb hf
  refine x_getr S hw lk_Mo_107 ht8 d_Mo_finish_21 ?_
  refine lv_iload_n S.1 S.2.1 d_Mo_finish_24 rfl (lv_at hl 3 rfl) ?_
  refine lv_aload_n S.1 S.2.1 d_Mo_finish_25 rfl (lv_at hl 2 rfl) ?_
  obtain ⟨t9, ht9, hf⟩ := xb hf
  refine x_getr S hw lk_Mo_117 ht9 d_Mo_finish_26 ?_
  refine lv_iload_n S.1 S.2.1 d_Mo_finish_29 rfl (lv_at hl 3 rfl) ?_
  obtain ⟨t10, ht10, hf⟩ := xb hf
  refine x_zald S hw ht10 d_Mo_finish_30 ?_
  refine lv_if_eq (tgt := 80) S.1 S.2.1 d_Mo_finish_31 (by decide) (fun c11 => ?_) (fun c11 => ?_)
  · replace hf := xt c11 hf
    refine lv_lload S.1 S.2.1 d_Mo_finish_80 (lv_at hl 0 rfl) ?_
    obtain ⟨w12, hw12, hf⟩ := xb hf
    refine x_last S hw hw12 d_Mo_finish_82 (fun H locs hw => ?_)
    refine lv_aload_n S.1 S.2.1 d_Mo_finish_83 rfl (lv_at hl 2 rfl) ?_
    obtain ⟨t13, ht13, hf⟩ := xb hf
    refine x_getr S hw lk_Mo_117 ht13 d_Mo_finish_84 ?_
    refine lv_iload_n S.1 S.2.1 d_Mo_finish_87 rfl (lv_at hl 3 rfl) ?_
    refine lv_iconst (v := 1) S.1 S.2.1 d_Mo_finish_88 (by decide) ?_
    obtain ⟨w14, hw14, hf⟩ := xb hf
    refine x_zast S hw hw14 d_Mo_finish_89 (fun H locs hw => ?_)
    refine lv_aload_n S.1 S.2.1 d_Mo_finish_90 rfl (lv_at hl 2 rfl) ?_
    obtain ⟨t15, ht15, hf⟩ := xb hf
    refine x_getr S hw lk_Mo_120 ht15 d_Mo_finish_91 ?_
    refine lv_iload_n S.1 S.2.1 d_Mo_finish_94 rfl (lv_at hl 3 rfl) ?_
    refine lv_iconst (v := 0) S.1 S.2.1 d_Mo_finish_95 (by decide) ?_
    obtain ⟨w16, hw16, hf⟩ := xb hf
    refine x_zast S hw hw16 d_Mo_finish_96 (fun H locs hw => ?_)
    cases hf
    exact x_vret S hr hlocks hw d_Mo_finish_97
  · replace hf := xf c11 hf
    refine lv_lload_n S.1 S.2.1 d_Mo_finish_34 rfl (lv_at hl 1 rfl) ?_
    obtain ⟨t18, h17, hf⟩ := xb hf
    refine x_callS (As := [.long t5]) (rest := [.int x1, .ref t8]) (st1 := [.int t18, .int x1, .ref t8]) S hw (c_Mo_firstOf h17) (cwS 1 S.2.2.2.2 gs_Mo_263 rfl rfl rfl hd_Mo_firstOf ⟨Nat.le_of_ble_eq_true rfl, Nat.le_of_ble_eq_true rfl⟩) rfl hl.1 rfl rfl (Nat.le_of_ble_eq_true rfl) d_Mo_finish_35 ⟨Nat.le_of_ble_eq_true rfl, Nat.le_of_ble_eq_true rfl⟩ (fun H locs hw => ?_)
    refine lv_lload S.1 S.2.1 d_Mo_finish_38 (lv_at hl 0 rfl) ?_
    obtain ⟨t20, h19, hf⟩ := xb hf
    refine x_callS (As := [.long t7]) (rest := [.int t18, .int x1, .ref t8]) (st1 := [.int t20, .int t18, .int x1, .ref t8]) S hw (c_Mo_firstOf h19) (cwS 1 S.2.2.2.2 gs_Mo_263 rfl rfl rfl hd_Mo_firstOf ⟨Nat.le_of_ble_eq_true rfl, Nat.le_of_ble_eq_true rfl⟩) rfl hl.1 rfl rfl (Nat.le_of_ble_eq_true rfl) d_Mo_finish_40 ⟨Nat.le_of_ble_eq_true rfl, Nat.le_of_ble_eq_true rfl⟩ (fun H locs hw => ?_)
    refine lv_ior S.1 S.2.1 d_Mo_finish_43 ?_
    refine lv_lload_n S.1 S.2.1 d_Mo_finish_44 rfl (lv_at hl 1 rfl) ?_
    obtain ⟨t22, h21, hf⟩ := xb hf
    refine x_callS (As := [.long t5]) (rest := [.int (t18 ||| t20), .int x1, .ref t8]) (st1 := [.int t22, .int (t18 ||| t20), .int x1, .ref t8]) S hw (c_Mo_lastOf h21) (cwS 1 S.2.2.2.2 gs_Mo_267 rfl rfl rfl hd_Mo_lastOf ⟨Nat.le_of_ble_eq_true rfl, Nat.le_of_ble_eq_true rfl⟩) rfl hl.1 rfl rfl (Nat.le_of_ble_eq_true rfl) d_Mo_finish_45 ⟨Nat.le_of_ble_eq_true rfl, Nat.le_of_ble_eq_true rfl⟩ (fun H locs hw => ?_)
    refine lv_lload S.1 S.2.1 d_Mo_finish_48 (lv_at hl 0 rfl) ?_
    obtain ⟨t24, h23, hf⟩ := xb hf
    refine x_callS (As := [.long t7]) (rest := [.int t22, .int (t18 ||| t20), .int x1, .ref t8]) (st1 := [.int t24, .int t22, .int (t18 ||| t20), .int x1, .ref t8]) S hw (c_Mo_lastOf h23) (cwS 1 S.2.2.2.2 gs_Mo_267 rfl rfl rfl hd_Mo_lastOf ⟨Nat.le_of_ble_eq_true rfl, Nat.le_of_ble_eq_true rfl⟩) rfl hl.1 rfl rfl (Nat.le_of_ble_eq_true rfl) d_Mo_finish_50 ⟨Nat.le_of_ble_eq_true rfl, Nat.le_of_ble_eq_true rfl⟩ (fun H locs hw => ?_)
    refine lv_ior S.1 S.2.1 d_Mo_finish_53 ?_
    refine lv_lload_n S.1 S.2.1 d_Mo_finish_54 rfl (lv_at hl 1 rfl) ?_
    obtain ⟨t26, h25, hf⟩ := xb hf
    refine x_callS (As := [.long t5]) (rest := [.int (t22 ||| t24), .int (t18 ||| t20), .int x1, .ref t8]) (st1 := [.int t26, .int (t22 ||| t24), .int (t18 ||| t20), .int x1, .ref t8]) S hw (c_Mo_noneOf h25) (cwS 1 S.2.2.2.2 gs_Mo_270 rfl rfl rfl hd_Mo_noneOf ⟨Nat.le_of_ble_eq_true rfl, Nat.le_of_ble_eq_true rfl⟩) rfl hl.1 rfl rfl (Nat.le_of_ble_eq_true rfl) d_Mo_finish_55 ⟨Nat.le_of_ble_eq_true rfl, Nat.le_of_ble_eq_true rfl⟩ (fun H locs hw => ?_)
    refine lv_if_ne (tgt := 69) S.1 S.2.1 d_Mo_finish_58 (by decide) (fun c27 => ?_) (fun c27 => ?_)
    · replace hf := xf c27 hf
      exact w_Mo_finish_69 S hr hlocks  _ _ _ _ _ _ _ _ _ _ hw (lv_sub hl [2, 3] rfl) hf
    · replace hf := xt c27 hf
      refine lv_lload S.1 S.2.1 d_Mo_finish_61 (lv_at hl 0 rfl) ?_
      obtain ⟨t29, h28, hf⟩ := xb hf
      refine x_callS (As := [.long t7]) (rest := [.int (t22 ||| t24), .int (t18 ||| t20), .int x1, .ref t8]) (st1 := [.int t29, .int (t22 ||| t24), .int (t18 ||| t20), .int x1, .ref t8]) S hw (c_Mo_noneOf h28) (cwS 1 S.2.2.2.2 gs_Mo_270 rfl rfl rfl hd_Mo_noneOf ⟨Nat.le_of_ble_eq_true rfl, Nat.le_of_ble_eq_true rfl⟩) rfl hl.1 rfl rfl (Nat.le_of_ble_eq_true rfl) d_Mo_finish_63 ⟨Nat.le_of_ble_eq_true rfl, Nat.le_of_ble_eq_true rfl⟩ (fun H locs hw => ?_)
      refine lv_if_eq (tgt := 73) S.1 S.2.1 d_Mo_finish_66 (by decide) (fun c30 => ?_) (fun c30 => ?_)
      · replace hf := xt c30 hf
        refine lv_iconst (v := 0) S.1 S.2.1 d_Mo_finish_73 (by decide) ?_
        obtain ⟨t32, h31, hf⟩ := xb hf
        refine x_callS (As := [.int (t18 ||| t20), .int (t22 ||| t24), .int 0]) (rest := [.int x1, .ref t8]) (st1 := [.long t32, .int x1, .ref t8]) S hw (c_Mo_part h31) (cwS 3 S.2.2.2.2 gs_Mo_310 rfl rfl rfl hd_Mo_part ⟨Nat.le_of_ble_eq_true rfl, Nat.le_of_ble_eq_true rfl⟩) rfl hl.1 rfl rfl (Nat.le_of_ble_eq_true rfl) d_Mo_finish_74 ⟨Nat.le_of_ble_eq_true rfl, Nat.le_of_ble_eq_true rfl⟩ (fun H locs hw => ?_)
        refine lv_goto (tgt := 82) S.1 S.2.1 d_Mo_finish_77 (by decide) ?_
        obtain ⟨w33, hw33, hf⟩ := xb hf
        refine x_last S hw hw33 d_Mo_finish_82 (fun H locs hw => ?_)
        refine lv_aload_n S.1 S.2.1 d_Mo_finish_83 rfl (lv_at hl 2 rfl) ?_
        obtain ⟨t34, ht34, hf⟩ := xb hf
        refine x_getr S hw lk_Mo_117 ht34 d_Mo_finish_84 ?_
        refine lv_iload_n S.1 S.2.1 d_Mo_finish_87 rfl (lv_at hl 3 rfl) ?_
        refine lv_iconst (v := 1) S.1 S.2.1 d_Mo_finish_88 (by decide) ?_
        obtain ⟨w35, hw35, hf⟩ := xb hf
        refine x_zast S hw hw35 d_Mo_finish_89 (fun H locs hw => ?_)
        refine lv_aload_n S.1 S.2.1 d_Mo_finish_90 rfl (lv_at hl 2 rfl) ?_
        obtain ⟨t36, ht36, hf⟩ := xb hf
        refine x_getr S hw lk_Mo_120 ht36 d_Mo_finish_91 ?_
        refine lv_iload_n S.1 S.2.1 d_Mo_finish_94 rfl (lv_at hl 3 rfl) ?_
        refine lv_iconst (v := 0) S.1 S.2.1 d_Mo_finish_95 (by decide) ?_
        obtain ⟨w37, hw37, hf⟩ := xb hf
        refine x_zast S hw hw37 d_Mo_finish_96 (fun H locs hw => ?_)
        cases hf
        exact x_vret S hr hlocks hw d_Mo_finish_97
      · replace hf := xf c30 hf
        exact w_Mo_finish_69 S hr hlocks  _ _ _ _ _ _ _ _ _ _ hw (lv_sub hl [2, 3] rfl) hf
def f_Mo_often_180 (k170 : Nat → Int64 → Int32 → Int32 → Int32 → Int32 → Int32 → Int64 → Int32 → xS → Option (Int64 × xS)) : Nat → Nat → Int64 → Int32 → Int32 → Int32 → Int32 → Int32 → Int64 → Int32 → Int32 → xS → Option (Int64 × xS)
  | 0, _, _, _, _, _, _, _, _, _, _, _ => none
  | n + 1, a0, x1, x3, x5, x6, x7, x8, x9, x11, x12, ω =>
    if (x3 + x7) ≤ x12 then (
      (xgi ω a0 12 43).bind fun t41 =>
      (xp ω a0 12 43 (.int (t41 + x7))).bind fun w42 =>
      (f_Mo_firstOf x1 w42).bind fun t44 =>
      (f_Mo_lastOf x1 w42).bind fun t46 =>
      (f_Mo_noneOf x1 w42).bind fun t48 =>
      if t48 = 0 then (
        if x11 < x5 then (
          (f_Mo_part (t44 <<< ((x11 * x7) &&& 31)) (t46 <<< ((x11 * x7) &&& 31)) 0 w42).bind fun t57 =>
          xc (xk w42 a0 12 (f_Mo_behind a0 x9 t57 w42)) fun t59 w60 =>
          k170 a0 x1 x3 x5 x6 x7 x8 t59 (x11 + 1) w60)
        else (
          (f_Mo_part (t44 <<< ((x11 * x7) &&& 31)) (t46 <<< ((x11 * x7) &&& 31)) 1 w42).bind fun t62 =>
          xc (xk w42 a0 12 (f_Mo_behind a0 x9 t62 w42)) fun t64 w65 =>
          k170 a0 x1 x3 x5 x6 x7 x8 t64 (x11 + 1) w65))
      else (
        (f_Mo_part (t44 <<< ((x11 * x7) &&& 31)) (t46 <<< ((x11 * x7) &&& 31)) 1 w42).bind fun t51 =>
        xc (xk w42 a0 12 (f_Mo_behind a0 x9 t51 w42)) fun t53 w54 =>
        k170 a0 x1 x3 x5 x6 x7 x8 t53 (x11 + 1) w54))
    else (
      (xgr ω a0 12 21).bind fun t66 =>
      (xgi ω a0 12 44).bind fun t67 =>
      (xgr ω a0 12 21).bind fun t68 =>
      (xgi ω a0 12 44).bind fun t69 =>
      (xai ω t68 ((10 * t69) + x12)).bind fun t70 =>
      (xsi ω t66 (((10 * t67) + x12) + (x11 * x7)) t70).bind fun w71 =>
      (xgr w71 a0 12 22).bind fun t72 =>
      (xgi w71 a0 12 44).bind fun t73 =>
      (xgr w71 a0 12 22).bind fun t74 =>
      (xgi w71 a0 12 44).bind fun t75 =>
      (xai w71 t74 ((11 * t75) + x12)).bind fun t76 =>
      (xsi w71 t72 (((11 * t73) + x12) + (x11 * x7)) ((t76 &&& x8) <<< ((x11 * x7) &&& 31))).bind fun w77 =>
      f_Mo_often_180 k170 n a0 x1 x3 x5 x6 x7 x8 x9 x11 (x12 + 1) w77)
set_option maxHeartbeats 4000000 in
set_option maxRecDepth 100000 in
theorem w_Mo_often_180 {p : Program} {l : Launch} {e : Env} {s : State} {m : MethodId} {args : Array Value} {below : List Frame} {meth : Method} {c : Code} {E : xV} {z : Nat} {r : Int64} {ω1 : xS} {k170 : Nat → Int64 → Int32 → Int32 → Int32 → Int32 → Int32 → Int64 → Int32 → xS → Option (Int64 × xS)} (S : CallFix p m c b_Mo_often 13 s args xTbl "RosterRulesModel") (hr : meth.sig.returnType = (some .long)) (hlocks : meth.locks = false) (hk170 : ∀ (a0 : Nat) (x1 : Int64) (x3 : Int32) (x5 : Int32) (x6 : Int32) (x7 : Int32) (x8 : Int32) (x9 : Int64) (x11 : Int32) (ω : xS) (H : Heap) (locs : List Loc) (ls : Array Slot), xW E z ω s s.heap H locs → lv_has ls 13 [(0, .ref a0), (1, .long x1), (3, .int x3), (5, .int x5), (6, .int x6), (7, .int x7), (8, .int x8), (9, .long x9), (11, .int x11)] → k170 a0 x1 x3 x5 x6 x7 x8 x9 x11 ω = some (r, ω1) → W p l e (headSpec ws_Mo_often { frames := 2, cells := 0, slots := 0, locals := 47 }).room s m args below meth c H locs 0 0 (MQ below (xQ E (some (.long r)) z ω1) args s 0 0 (fun q => E.2.2 ≤ q)) (F0 m 170 ls [])) : ∀ n : Nat, ∀ (a0 : Nat) (x1 : Int64) (x3 : Int32) (x5 : Int32) (x6 : Int32) (x7 : Int32) (x8 : Int32) (x9 : Int64) (x11 : Int32) (x12 : Int32) (ω : xS) (H : Heap) (locs : List Loc) (ls : Array Slot), xW E z ω s s.heap H locs → lv_has ls 13 [(0, .ref a0), (1, .long x1), (3, .int x3), (5, .int x5), (6, .int x6), (7, .int x7), (8, .int x8), (9, .long x9), (11, .int x11), (12, .int x12)] → f_Mo_often_180 k170 n a0 x1 x3 x5 x6 x7 x8 x9 x11 x12 ω = some (r, ω1) → W p l e (headSpec ws_Mo_often { frames := 2, cells := 0, slots := 0, locals := 47 }).room s m args below meth c H locs 0 0 (MQ below (xQ E (some (.long r)) z ω1) args s 0 0 (fun q => E.2.2 ≤ q)) (F0 m 180 ls []) := by
  intro n
  induction n with
  | zero =>
    intro a0 x1 x3 x5 x6 x7 x8 x9 x11 x12 ω H locs ls hw hl hf
    have h2 : (none : Option (Int64 × xS)) = some (r, ω1) := hf
    cases h2
  | succ n ih =>
    intro a0 x1 x3 x5 x6 x7 x8 x9 x11 x12 ω H locs ls hw hl hf
    rw [f_Mo_often_180] at hf
    refine lv_iload S.1 S.2.1 d_Mo_often_180 (lv_at hl 9 rfl) ?_
    refine lv_iload_n S.1 S.2.1 d_Mo_often_182 rfl (lv_at hl 2 rfl) ?_
    refine lv_iload S.1 S.2.1 d_Mo_often_183 (lv_at hl 5 rfl) ?_
    refine lv_iadd S.1 S.2.1 d_Mo_often_185 ?_
    refine lv_icmp_ge (tgt := 276) S.1 S.2.1 d_Mo_often_186 (by decide) (fun c40 => ?_) (fun c40 => ?_)
    · replace hf := xt c40 hf
      refine lv_aload_n S.1 S.2.1 d_Mo_often_276 rfl (lv_at hl 0 rfl) ?_
      refine lv_dup S.1 S.2.1 d_Mo_often_277 rfl ?_
      obtain ⟨t41, ht41, hf⟩ := xb hf
      refine x_geti S hw lk_Mo_256 ht41 d_Mo_often_278 ?_
      refine lv_iload S.1 S.2.1 d_Mo_often_281 (lv_at hl 5 rfl) ?_
      refine lv_iadd S.1 S.2.1 d_Mo_often_283 ?_
      obtain ⟨w42, hw42, hf⟩ := xb hf
      refine x_puti S hw lp_Mo_256 hw42 d_Mo_often_284 (fun H locs hw => ?_)
      refine lv_aload_n S.1 S.2.1 d_Mo_often_287 rfl (lv_at hl 0 rfl) ?_
      refine lv_lload S.1 S.2.1 d_Mo_often_288 (lv_at hl 7 rfl) ?_
      refine lv_lload_n S.1 S.2.1 d_Mo_often_290 rfl (lv_at hl 1 rfl) ?_
      obtain ⟨t44, h43, hf⟩ := xb hf
      refine x_callS (As := [.long x1]) (rest := [.long x9, .ref a0]) (st1 := [.int t44, .long x9, .ref a0]) S hw (c_Mo_firstOf h43) (cwS 1 S.2.2.2.2 gs_Mo_263 rfl rfl rfl hd_Mo_firstOf ⟨Nat.le_of_ble_eq_true rfl, Nat.le_of_ble_eq_true rfl⟩) rfl hl.1 rfl rfl (Nat.le_of_ble_eq_true rfl) d_Mo_often_291 ⟨Nat.le_of_ble_eq_true rfl, Nat.le_of_ble_eq_true rfl⟩ (fun H locs hw => ?_)
      refine lv_iload S.1 S.2.1 d_Mo_often_294 (lv_at hl 8 rfl) ?_
      refine lv_iload S.1 S.2.1 d_Mo_often_296 (lv_at hl 5 rfl) ?_
      refine lv_imul S.1 S.2.1 d_Mo_often_298 ?_
      refine lv_ishl S.1 S.2.1 d_Mo_often_299 ?_
      refine lv_lload_n S.1 S.2.1 d_Mo_often_300 rfl (lv_at hl 1 rfl) ?_
      obtain ⟨t46, h45, hf⟩ := xb hf
      refine x_callS (As := [.long x1]) (rest := [.int (t44 <<< ((x11 * x7) &&& 31)), .long x9, .ref a0]) (st1 := [.int t46, .int (t44 <<< ((x11 * x7) &&& 31)), .long x9, .ref a0]) S hw (c_Mo_lastOf h45) (cwS 1 S.2.2.2.2 gs_Mo_267 rfl rfl rfl hd_Mo_lastOf ⟨Nat.le_of_ble_eq_true rfl, Nat.le_of_ble_eq_true rfl⟩) rfl hl.1 rfl rfl (Nat.le_of_ble_eq_true rfl) d_Mo_often_301 ⟨Nat.le_of_ble_eq_true rfl, Nat.le_of_ble_eq_true rfl⟩ (fun H locs hw => ?_)
      refine lv_iload S.1 S.2.1 d_Mo_often_304 (lv_at hl 8 rfl) ?_
      refine lv_iload S.1 S.2.1 d_Mo_often_306 (lv_at hl 5 rfl) ?_
      refine lv_imul S.1 S.2.1 d_Mo_often_308 ?_
      refine lv_ishl S.1 S.2.1 d_Mo_often_309 ?_
      refine lv_lload_n S.1 S.2.1 d_Mo_often_310 rfl (lv_at hl 1 rfl) ?_
      obtain ⟨t48, h47, hf⟩ := xb hf
      refine x_callS (As := [.long x1]) (rest := [.int (t46 <<< ((x11 * x7) &&& 31)), .int (t44 <<< ((x11 * x7) &&& 31)), .long x9, .ref a0]) (st1 := [.int t48, .int (t46 <<< ((x11 * x7) &&& 31)), .int (t44 <<< ((x11 * x7) &&& 31)), .long x9, .ref a0]) S hw (c_Mo_noneOf h47) (cwS 1 S.2.2.2.2 gs_Mo_270 rfl rfl rfl hd_Mo_noneOf ⟨Nat.le_of_ble_eq_true rfl, Nat.le_of_ble_eq_true rfl⟩) rfl hl.1 rfl rfl (Nat.le_of_ble_eq_true rfl) d_Mo_often_311 ⟨Nat.le_of_ble_eq_true rfl, Nat.le_of_ble_eq_true rfl⟩ (fun H locs hw => ?_)
      refine lv_if_ne (tgt := 324) S.1 S.2.1 d_Mo_often_314 (by decide) (fun c49 => ?_) (fun c49 => ?_)
      · replace hf := xf c49 hf
        refine lv_iconst (v := 1) S.1 S.2.1 d_Mo_often_324 (by decide) ?_
        refine lv_goto (tgt := 329) S.1 S.2.1 d_Mo_often_325 (by decide) ?_
        obtain ⟨t51, h50, hf⟩ := xb hf
        refine x_callS (As := [.int (t44 <<< ((x11 * x7) &&& 31)), .int (t46 <<< ((x11 * x7) &&& 31)), .int 1]) (rest := [.long x9, .ref a0]) (st1 := [.long t51, .long x9, .ref a0]) S hw (c_Mo_part h50) (cwS 3 S.2.2.2.2 gs_Mo_310 rfl rfl rfl hd_Mo_part ⟨Nat.le_of_ble_eq_true rfl, Nat.le_of_ble_eq_true rfl⟩) rfl hl.1 rfl rfl (Nat.le_of_ble_eq_true rfl) d_Mo_often_329 ⟨Nat.le_of_ble_eq_true rfl, Nat.le_of_ble_eq_true rfl⟩ (fun H locs hw => ?_)
        obtain ⟨t53, w54, h52, hf⟩ := xcb hf
        obtain ⟨h52b, h52⟩ := xkb h52
        refine x_callV (As := [.long x9, .long t51]) (rest := []) (st1 := [.long t53]) S hw (c_Mo_behind h52) (cwV 2 S.2.2.2.2 gv_Mo_314 rfl rfl rfl hd_Mo_behind ⟨Nat.le_of_ble_eq_true rfl, Nat.le_of_ble_eq_true rfl⟩) rfl h52b rfl hl.1 rfl rfl (Nat.le_of_ble_eq_true rfl) d_Mo_often_332 ⟨Nat.le_of_ble_eq_true rfl, Nat.le_of_ble_eq_true rfl⟩ (fun H locs hw => ?_)
        refine lv_lstore (lv' := [(9, .long t53), (0, .ref a0), (1, .long x1), (3, .int x3), (5, .int x5), (6, .int x6), (7, .int x7), (8, .int x8), (11, .int x11), (12, .int x12)]) S.1 S.2.1 d_Mo_often_335 hl (by decide) rfl (fun ls hl => ?_)
        refine lv_iinc (v := (x11 + 1)) (lv' := [(11, .int (x11 + 1)), (9, .long t53), (0, .ref a0), (1, .long x1), (3, .int x3), (5, .int x5), (6, .int x6), (7, .int x7), (8, .int x8), (12, .int x12)]) S.1 S.2.1 d_Mo_often_337 hl (k := 8) rfl rfl (by decide) rfl (fun ls hl => ?_)
        refine lv_goto (tgt := 170) S.1 S.2.1 d_Mo_often_340 (by decide) ?_
        exact hk170 _ _ _ _ _ _ _ _ _ _ _ _ _ hw (lv_sub hl [2, 3, 4, 5, 6, 7, 8, 1, 0] rfl) hf
      · replace hf := xt c49 hf
        refine lv_iload S.1 S.2.1 d_Mo_often_317 (lv_at hl 8 rfl) ?_
        refine lv_iload S.1 S.2.1 d_Mo_often_319 (lv_at hl 3 rfl) ?_
        refine lv_icmp_lt (tgt := 328) S.1 S.2.1 d_Mo_often_321 (by decide) (fun c55 => ?_) (fun c55 => ?_)
        · replace hf := xt c55 hf
          refine lv_iconst (v := 0) S.1 S.2.1 d_Mo_often_328 (by decide) ?_
          obtain ⟨t57, h56, hf⟩ := xb hf
          refine x_callS (As := [.int (t44 <<< ((x11 * x7) &&& 31)), .int (t46 <<< ((x11 * x7) &&& 31)), .int 0]) (rest := [.long x9, .ref a0]) (st1 := [.long t57, .long x9, .ref a0]) S hw (c_Mo_part h56) (cwS 3 S.2.2.2.2 gs_Mo_310 rfl rfl rfl hd_Mo_part ⟨Nat.le_of_ble_eq_true rfl, Nat.le_of_ble_eq_true rfl⟩) rfl hl.1 rfl rfl (Nat.le_of_ble_eq_true rfl) d_Mo_often_329 ⟨Nat.le_of_ble_eq_true rfl, Nat.le_of_ble_eq_true rfl⟩ (fun H locs hw => ?_)
          obtain ⟨t59, w60, h58, hf⟩ := xcb hf
          obtain ⟨h58b, h58⟩ := xkb h58
          refine x_callV (As := [.long x9, .long t57]) (rest := []) (st1 := [.long t59]) S hw (c_Mo_behind h58) (cwV 2 S.2.2.2.2 gv_Mo_314 rfl rfl rfl hd_Mo_behind ⟨Nat.le_of_ble_eq_true rfl, Nat.le_of_ble_eq_true rfl⟩) rfl h58b rfl hl.1 rfl rfl (Nat.le_of_ble_eq_true rfl) d_Mo_often_332 ⟨Nat.le_of_ble_eq_true rfl, Nat.le_of_ble_eq_true rfl⟩ (fun H locs hw => ?_)
          refine lv_lstore (lv' := [(9, .long t59), (0, .ref a0), (1, .long x1), (3, .int x3), (5, .int x5), (6, .int x6), (7, .int x7), (8, .int x8), (11, .int x11), (12, .int x12)]) S.1 S.2.1 d_Mo_often_335 hl (by decide) rfl (fun ls hl => ?_)
          refine lv_iinc (v := (x11 + 1)) (lv' := [(11, .int (x11 + 1)), (9, .long t59), (0, .ref a0), (1, .long x1), (3, .int x3), (5, .int x5), (6, .int x6), (7, .int x7), (8, .int x8), (12, .int x12)]) S.1 S.2.1 d_Mo_often_337 hl (k := 8) rfl rfl (by decide) rfl (fun ls hl => ?_)
          refine lv_goto (tgt := 170) S.1 S.2.1 d_Mo_often_340 (by decide) ?_
          exact hk170 _ _ _ _ _ _ _ _ _ _ _ _ _ hw (lv_sub hl [2, 3, 4, 5, 6, 7, 8, 1, 0] rfl) hf
        · replace hf := xf c55 hf
          refine lv_iconst (v := 1) S.1 S.2.1 d_Mo_often_324 (by decide) ?_
          refine lv_goto (tgt := 329) S.1 S.2.1 d_Mo_often_325 (by decide) ?_
          obtain ⟨t62, h61, hf⟩ := xb hf
          refine x_callS (As := [.int (t44 <<< ((x11 * x7) &&& 31)), .int (t46 <<< ((x11 * x7) &&& 31)), .int 1]) (rest := [.long x9, .ref a0]) (st1 := [.long t62, .long x9, .ref a0]) S hw (c_Mo_part h61) (cwS 3 S.2.2.2.2 gs_Mo_310 rfl rfl rfl hd_Mo_part ⟨Nat.le_of_ble_eq_true rfl, Nat.le_of_ble_eq_true rfl⟩) rfl hl.1 rfl rfl (Nat.le_of_ble_eq_true rfl) d_Mo_often_329 ⟨Nat.le_of_ble_eq_true rfl, Nat.le_of_ble_eq_true rfl⟩ (fun H locs hw => ?_)
          obtain ⟨t64, w65, h63, hf⟩ := xcb hf
          obtain ⟨h63b, h63⟩ := xkb h63
          refine x_callV (As := [.long x9, .long t62]) (rest := []) (st1 := [.long t64]) S hw (c_Mo_behind h63) (cwV 2 S.2.2.2.2 gv_Mo_314 rfl rfl rfl hd_Mo_behind ⟨Nat.le_of_ble_eq_true rfl, Nat.le_of_ble_eq_true rfl⟩) rfl h63b rfl hl.1 rfl rfl (Nat.le_of_ble_eq_true rfl) d_Mo_often_332 ⟨Nat.le_of_ble_eq_true rfl, Nat.le_of_ble_eq_true rfl⟩ (fun H locs hw => ?_)
          refine lv_lstore (lv' := [(9, .long t64), (0, .ref a0), (1, .long x1), (3, .int x3), (5, .int x5), (6, .int x6), (7, .int x7), (8, .int x8), (11, .int x11), (12, .int x12)]) S.1 S.2.1 d_Mo_often_335 hl (by decide) rfl (fun ls hl => ?_)
          refine lv_iinc (v := (x11 + 1)) (lv' := [(11, .int (x11 + 1)), (9, .long t64), (0, .ref a0), (1, .long x1), (3, .int x3), (5, .int x5), (6, .int x6), (7, .int x7), (8, .int x8), (12, .int x12)]) S.1 S.2.1 d_Mo_often_337 hl (k := 8) rfl rfl (by decide) rfl (fun ls hl => ?_)
          refine lv_goto (tgt := 170) S.1 S.2.1 d_Mo_often_340 (by decide) ?_
          exact hk170 _ _ _ _ _ _ _ _ _ _ _ _ _ hw (lv_sub hl [2, 3, 4, 5, 6, 7, 8, 1, 0] rfl) hf
    · replace hf := xf c40 hf
      refine lv_aload_n S.1 S.2.1 d_Mo_often_189 rfl (lv_at hl 0 rfl) ?_
      obtain ⟨t66, ht66, hf⟩ := xb hf
      refine x_getr S hw lk_Mo_63 ht66 d_Mo_often_190 ?_
      refine lv_bipush (v := 10) S.1 S.2.1 d_Mo_often_193 (by decide) ?_
      refine lv_aload_n S.1 S.2.1 d_Mo_often_195 rfl (lv_at hl 0 rfl) ?_
      obtain ⟨t67, ht67, hf⟩ := xb hf
      refine x_geti S hw lk_Mo_253 ht67 d_Mo_often_196 ?_
      refine lv_imul S.1 S.2.1 d_Mo_often_199 ?_
      refine lv_iload S.1 S.2.1 d_Mo_often_200 (lv_at hl 9 rfl) ?_
      refine lv_iadd S.1 S.2.1 d_Mo_often_202 ?_
      refine lv_iload S.1 S.2.1 d_Mo_often_203 (lv_at hl 8 rfl) ?_
      refine lv_iload S.1 S.2.1 d_Mo_often_205 (lv_at hl 5 rfl) ?_
      refine lv_imul S.1 S.2.1 d_Mo_often_207 ?_
      refine lv_iadd S.1 S.2.1 d_Mo_often_208 ?_
      refine lv_aload_n S.1 S.2.1 d_Mo_often_209 rfl (lv_at hl 0 rfl) ?_
      obtain ⟨t68, ht68, hf⟩ := xb hf
      refine x_getr S hw lk_Mo_63 ht68 d_Mo_often_210 ?_
      refine lv_bipush (v := 10) S.1 S.2.1 d_Mo_often_213 (by decide) ?_
      refine lv_aload_n S.1 S.2.1 d_Mo_often_215 rfl (lv_at hl 0 rfl) ?_
      obtain ⟨t69, ht69, hf⟩ := xb hf
      refine x_geti S hw lk_Mo_253 ht69 d_Mo_often_216 ?_
      refine lv_imul S.1 S.2.1 d_Mo_often_219 ?_
      refine lv_iload S.1 S.2.1 d_Mo_often_220 (lv_at hl 9 rfl) ?_
      refine lv_iadd S.1 S.2.1 d_Mo_often_222 ?_
      obtain ⟨t70, ht70, hf⟩ := xb hf
      refine x_iald S hw ht70 d_Mo_often_223 ?_
      obtain ⟨w71, hw71, hf⟩ := xb hf
      refine x_iast S hw hw71 d_Mo_often_224 (fun H locs hw => ?_)
      refine lv_aload_n S.1 S.2.1 d_Mo_often_225 rfl (lv_at hl 0 rfl) ?_
      obtain ⟨t72, ht72, hf⟩ := xb hf
      refine x_getr S hw lk_Mo_66 ht72 d_Mo_often_226 ?_
      refine lv_bipush (v := 11) S.1 S.2.1 d_Mo_often_229 (by decide) ?_
      refine lv_aload_n S.1 S.2.1 d_Mo_often_231 rfl (lv_at hl 0 rfl) ?_
      obtain ⟨t73, ht73, hf⟩ := xb hf
      refine x_geti S hw lk_Mo_253 ht73 d_Mo_often_232 ?_
      refine lv_imul S.1 S.2.1 d_Mo_often_235 ?_
      refine lv_iload S.1 S.2.1 d_Mo_often_236 (lv_at hl 9 rfl) ?_
      refine lv_iadd S.1 S.2.1 d_Mo_often_238 ?_
      refine lv_iload S.1 S.2.1 d_Mo_often_239 (lv_at hl 8 rfl) ?_
      refine lv_iload S.1 S.2.1 d_Mo_often_241 (lv_at hl 5 rfl) ?_
      refine lv_imul S.1 S.2.1 d_Mo_often_243 ?_
      refine lv_iadd S.1 S.2.1 d_Mo_often_244 ?_
      refine lv_aload_n S.1 S.2.1 d_Mo_often_245 rfl (lv_at hl 0 rfl) ?_
      obtain ⟨t74, ht74, hf⟩ := xb hf
      refine x_getr S hw lk_Mo_66 ht74 d_Mo_often_246 ?_
      refine lv_bipush (v := 11) S.1 S.2.1 d_Mo_often_249 (by decide) ?_
      refine lv_aload_n S.1 S.2.1 d_Mo_often_251 rfl (lv_at hl 0 rfl) ?_
      obtain ⟨t75, ht75, hf⟩ := xb hf
      refine x_geti S hw lk_Mo_253 ht75 d_Mo_often_252 ?_
      refine lv_imul S.1 S.2.1 d_Mo_often_255 ?_
      refine lv_iload S.1 S.2.1 d_Mo_often_256 (lv_at hl 9 rfl) ?_
      refine lv_iadd S.1 S.2.1 d_Mo_often_258 ?_
      obtain ⟨t76, ht76, hf⟩ := xb hf
      refine x_iald S hw ht76 d_Mo_often_259 ?_
      refine lv_iload S.1 S.2.1 d_Mo_often_260 (lv_at hl 6 rfl) ?_
      refine lv_iand S.1 S.2.1 d_Mo_often_262 ?_
      refine lv_iload S.1 S.2.1 d_Mo_often_263 (lv_at hl 8 rfl) ?_
      refine lv_iload S.1 S.2.1 d_Mo_often_265 (lv_at hl 5 rfl) ?_
      refine lv_imul S.1 S.2.1 d_Mo_often_267 ?_
      refine lv_ishl S.1 S.2.1 d_Mo_often_268 ?_
      obtain ⟨w77, hw77, hf⟩ := xb hf
      refine x_iast S hw hw77 d_Mo_often_269 (fun H locs hw => ?_)
      refine lv_iinc (v := (x12 + 1)) (lv' := [(12, .int (x12 + 1)), (0, .ref a0), (1, .long x1), (3, .int x3), (5, .int x5), (6, .int x6), (7, .int x7), (8, .int x8), (9, .long x9), (11, .int x11)]) S.1 S.2.1 d_Mo_often_270 hl (k := 9) rfl rfl (by decide) rfl (fun ls hl => ?_)
      refine lv_goto (tgt := 180) S.1 S.2.1 d_Mo_often_273 (by decide) ?_
      exact ih _ _ _ _ _ _ _ _ _ _ _ _ _ _ hw (lv_sub hl [1, 2, 3, 4, 5, 6, 7, 8, 9, 0] rfl) hf
def f_Mo_often_170 : Nat → Nat → Int64 → Int32 → Int32 → Int32 → Int32 → Int32 → Int64 → Int32 → xS → Option (Int64 × xS)
  | 0, _, _, _, _, _, _, _, _, _, _ => none
  | n + 1, a0, x1, x3, x5, x6, x7, x8, x9, x11, ω =>
    if x6 ≤ x11 then (
      some (x9, ω))
    else (
      f_Mo_often_180 (f_Mo_often_170  n) xFU a0 x1 x3 x5 x6 x7 x8 x9 x11 x3 ω)
set_option maxHeartbeats 4000000 in
set_option maxRecDepth 100000 in
theorem w_Mo_often_170 {p : Program} {l : Launch} {e : Env} {s : State} {m : MethodId} {args : Array Value} {below : List Frame} {meth : Method} {c : Code} {E : xV} {z : Nat} {r : Int64} {ω1 : xS} (S : CallFix p m c b_Mo_often 13 s args xTbl "RosterRulesModel") (hr : meth.sig.returnType = (some .long)) (hlocks : meth.locks = false) : ∀ n : Nat, ∀ (a0 : Nat) (x1 : Int64) (x3 : Int32) (x5 : Int32) (x6 : Int32) (x7 : Int32) (x8 : Int32) (x9 : Int64) (x11 : Int32) (ω : xS) (H : Heap) (locs : List Loc) (ls : Array Slot), xW E z ω s s.heap H locs → lv_has ls 13 [(0, .ref a0), (1, .long x1), (3, .int x3), (5, .int x5), (6, .int x6), (7, .int x7), (8, .int x8), (9, .long x9), (11, .int x11)] → f_Mo_often_170 n a0 x1 x3 x5 x6 x7 x8 x9 x11 ω = some (r, ω1) → W p l e (headSpec ws_Mo_often { frames := 2, cells := 0, slots := 0, locals := 47 }).room s m args below meth c H locs 0 0 (MQ below (xQ E (some (.long r)) z ω1) args s 0 0 (fun q => E.2.2 ≤ q)) (F0 m 170 ls []) := by
  intro n
  induction n with
  | zero =>
    intro a0 x1 x3 x5 x6 x7 x8 x9 x11 ω H locs ls hw hl hf
    have h2 : (none : Option (Int64 × xS)) = some (r, ω1) := hf
    cases h2
  | succ n ih =>
    intro a0 x1 x3 x5 x6 x7 x8 x9 x11 ω H locs ls hw hl hf
    rw [f_Mo_often_170] at hf
    refine lv_iload S.1 S.2.1 d_Mo_often_170 (lv_at hl 8 rfl) ?_
    refine lv_iload S.1 S.2.1 d_Mo_often_172 (lv_at hl 4 rfl) ?_
    refine lv_icmp_ge (tgt := 343) S.1 S.2.1 d_Mo_often_174 (by decide) (fun c39 => ?_) (fun c39 => ?_)
    · replace hf := xt c39 hf
      refine lv_lload S.1 S.2.1 d_Mo_often_343 (lv_at hl 7 rfl) ?_
      obtain ⟨rfl, rfl⟩ := xe2 hf
      exact x_lret S hr hlocks hw d_Mo_often_345
    · replace hf := xf c39 hf
      refine lv_iload_n S.1 S.2.1 d_Mo_often_177 rfl (lv_at hl 2 rfl) ?_
      refine lv_istore (lv' := [(12, .int x3), (0, .ref a0), (1, .long x1), (3, .int x3), (5, .int x5), (6, .int x6), (7, .int x7), (8, .int x8), (9, .long x9), (11, .int x11)]) S.1 S.2.1 d_Mo_often_178 hl (by decide) rfl (fun ls hl => ?_)
      exact w_Mo_often_180 S hr hlocks ih _ _ _ _ _ _ _ _ _ _ _ _ _ _ _ hw (lv_sub hl [1, 2, 3, 4, 5, 6, 7, 8, 9, 0] rfl) hf
def f_Mo_often_46 (x1 : Int64) (x4 : Int32) (ω : xS) : Option (Int64 × xS) :=
  (f_Mo_firstOf x1 ω).bind fun t79 =>
  (f_Mo_lastOf x1 ω).bind fun t81 =>
  (f_Mo_noneOf x1 ω).bind fun t83 =>
  if t83 = 0 then (
    if x4 = 43 then (
      (f_Mo_part t79 t81 0 ω).bind fun t89 =>
      some (t89, ω))
    else (
      (f_Mo_part t79 t81 1 ω).bind fun t91 =>
      some (t91, ω)))
  else (
    (f_Mo_part t79 t81 1 ω).bind fun t86 =>
    some (t86, ω))
set_option maxHeartbeats 4000000 in
set_option maxRecDepth 100000 in
theorem w_Mo_often_46 {p : Program} {l : Launch} {e : Env} {s : State} {m : MethodId} {args : Array Value} {below : List Frame} {meth : Method} {c : Code} {E : xV} {z : Nat} {r : Int64} {ω1 : xS} (S : CallFix p m c b_Mo_often 13 s args xTbl "RosterRulesModel") (hr : meth.sig.returnType = (some .long)) (hlocks : meth.locks = false) : ∀ (x1 : Int64) (x4 : Int32) (ω : xS) (H : Heap) (locs : List Loc) (ls : Array Slot), xW E z ω s s.heap H locs → lv_has ls 13 [(1, .long x1), (4, .int x4)] → f_Mo_often_46 x1 x4 ω = some (r, ω1) → W p l e (headSpec ws_Mo_often { frames := 2, cells := 0, slots := 0, locals := 47 }).room s m args below meth c H locs 0 0 (MQ below (xQ E (some (.long r)) z ω1) args s 0 0 (fun q => E.2.2 ≤ q)) (F0 m 46 ls []) := by
  intro x1 x4 ω H locs ls hw hl hf
  unfold f_Mo_often_46 at hf
  refine lv_lload_n S.1 S.2.1 d_Mo_often_46 rfl (lv_at hl 0 rfl) ?_
  obtain ⟨t79, h78, hf⟩ := xb hf
  refine x_callS (As := [.long x1]) (rest := []) (st1 := [.int t79]) S hw (c_Mo_firstOf h78) (cwS 1 S.2.2.2.2 gs_Mo_263 rfl rfl rfl hd_Mo_firstOf ⟨Nat.le_of_ble_eq_true rfl, Nat.le_of_ble_eq_true rfl⟩) rfl hl.1 rfl rfl (Nat.le_of_ble_eq_true rfl) d_Mo_often_47 ⟨Nat.le_of_ble_eq_true rfl, Nat.le_of_ble_eq_true rfl⟩ (fun H locs hw => ?_)
  refine lv_lload_n S.1 S.2.1 d_Mo_often_50 rfl (lv_at hl 0 rfl) ?_
  obtain ⟨t81, h80, hf⟩ := xb hf
  refine x_callS (As := [.long x1]) (rest := [.int t79]) (st1 := [.int t81, .int t79]) S hw (c_Mo_lastOf h80) (cwS 1 S.2.2.2.2 gs_Mo_267 rfl rfl rfl hd_Mo_lastOf ⟨Nat.le_of_ble_eq_true rfl, Nat.le_of_ble_eq_true rfl⟩) rfl hl.1 rfl rfl (Nat.le_of_ble_eq_true rfl) d_Mo_often_51 ⟨Nat.le_of_ble_eq_true rfl, Nat.le_of_ble_eq_true rfl⟩ (fun H locs hw => ?_)
  refine lv_lload_n S.1 S.2.1 d_Mo_often_54 rfl (lv_at hl 0 rfl) ?_
  obtain ⟨t83, h82, hf⟩ := xb hf
  refine x_callS (As := [.long x1]) (rest := [.int t81, .int t79]) (st1 := [.int t83, .int t81, .int t79]) S hw (c_Mo_noneOf h82) (cwS 1 S.2.2.2.2 gs_Mo_270 rfl rfl rfl hd_Mo_noneOf ⟨Nat.le_of_ble_eq_true rfl, Nat.le_of_ble_eq_true rfl⟩) rfl hl.1 rfl rfl (Nat.le_of_ble_eq_true rfl) d_Mo_often_55 ⟨Nat.le_of_ble_eq_true rfl, Nat.le_of_ble_eq_true rfl⟩ (fun H locs hw => ?_)
  refine lv_if_ne (tgt := 68) S.1 S.2.1 d_Mo_often_58 (by decide) (fun c84 => ?_) (fun c84 => ?_)
  · replace hf := xf c84 hf
    refine lv_iconst (v := 1) S.1 S.2.1 d_Mo_often_68 (by decide) ?_
    refine lv_goto (tgt := 73) S.1 S.2.1 d_Mo_often_69 (by decide) ?_
    obtain ⟨t86, h85, hf⟩ := xb hf
    refine x_callS (As := [.int t79, .int t81, .int 1]) (rest := []) (st1 := [.long t86]) S hw (c_Mo_part h85) (cwS 3 S.2.2.2.2 gs_Mo_310 rfl rfl rfl hd_Mo_part ⟨Nat.le_of_ble_eq_true rfl, Nat.le_of_ble_eq_true rfl⟩) rfl hl.1 rfl rfl (Nat.le_of_ble_eq_true rfl) d_Mo_often_73 ⟨Nat.le_of_ble_eq_true rfl, Nat.le_of_ble_eq_true rfl⟩ (fun H locs hw => ?_)
    obtain ⟨rfl, rfl⟩ := xe2 hf
    exact x_lret S hr hlocks hw d_Mo_often_76
  · replace hf := xt c84 hf
    refine lv_iload S.1 S.2.1 d_Mo_often_61 (lv_at hl 1 rfl) ?_
    refine lv_bipush (v := 43) S.1 S.2.1 d_Mo_often_63 (by decide) ?_
    refine lv_icmp_eq (tgt := 72) S.1 S.2.1 d_Mo_often_65 (by decide) (fun c87 => ?_) (fun c87 => ?_)
    · replace hf := xt c87 hf
      refine lv_iconst (v := 0) S.1 S.2.1 d_Mo_often_72 (by decide) ?_
      obtain ⟨t89, h88, hf⟩ := xb hf
      refine x_callS (As := [.int t79, .int t81, .int 0]) (rest := []) (st1 := [.long t89]) S hw (c_Mo_part h88) (cwS 3 S.2.2.2.2 gs_Mo_310 rfl rfl rfl hd_Mo_part ⟨Nat.le_of_ble_eq_true rfl, Nat.le_of_ble_eq_true rfl⟩) rfl hl.1 rfl rfl (Nat.le_of_ble_eq_true rfl) d_Mo_often_73 ⟨Nat.le_of_ble_eq_true rfl, Nat.le_of_ble_eq_true rfl⟩ (fun H locs hw => ?_)
      obtain ⟨rfl, rfl⟩ := xe2 hf
      exact x_lret S hr hlocks hw d_Mo_often_76
    · replace hf := xf c87 hf
      refine lv_iconst (v := 1) S.1 S.2.1 d_Mo_often_68 (by decide) ?_
      refine lv_goto (tgt := 73) S.1 S.2.1 d_Mo_often_69 (by decide) ?_
      obtain ⟨t91, h90, hf⟩ := xb hf
      refine x_callS (As := [.int t79, .int t81, .int 1]) (rest := []) (st1 := [.long t91]) S hw (c_Mo_part h90) (cwS 3 S.2.2.2.2 gs_Mo_310 rfl rfl rfl hd_Mo_part ⟨Nat.le_of_ble_eq_true rfl, Nat.le_of_ble_eq_true rfl⟩) rfl hl.1 rfl rfl (Nat.le_of_ble_eq_true rfl) d_Mo_often_73 ⟨Nat.le_of_ble_eq_true rfl, Nat.le_of_ble_eq_true rfl⟩ (fun H locs hw => ?_)
      obtain ⟨rfl, rfl⟩ := xe2 hf
      exact x_lret S hr hlocks hw d_Mo_often_76
def f_Mo_often (a0 : Nat) (x1 : Int64) (x3 : Int32) (ω : xS) : Option (Int64 × xS) :=
  (xgi ω a0 12 42).bind fun t1 =>
  (xk ω a0 12 (f_Mo_look a0 t1 ω)).bind fun t3 =>
  if t3 = 123 then (
    (xgi ω a0 12 42).bind fun t5 =>
    (xk ω a0 12 (f_Mo_look a0 (t5 + 1) ω)).bind fun t7 =>
    (xgi ω a0 12 42).bind fun t8 =>
    (xk ω a0 12 (f_Mo_look a0 (t8 + 3) ω)).bind fun t10 =>
    (xgi ω a0 12 42).bind fun t11 =>
    (xp ω a0 12 42 (.int (t11 + 5))).bind fun w12 =>
    (xgi w12 a0 12 43).bind fun t13 =>
    (xgi w12 a0 12 43).bind fun t14 =>
    (f_Mo_firstOf x1 w12).bind fun t16 =>
    (f_Mo_lastOf x1 w12).bind fun t18 =>
    (f_Mo_noneOf x1 w12).bind fun t20 =>
    if t20 = 0 then (
      if (t7 - 48) = 0 then (
        (f_Mo_part t16 t18 1 w12).bind fun t28 =>
        f_Mo_often_170  xFU a0 x1 x3 (t7 - 48) (t10 - 48) (t13 - x3) ((1 <<< (t14 &&& 31)) - (1 <<< (x3 &&& 31))) t28 1 w12)
      else (
        (f_Mo_part t16 t18 0 w12).bind fun t26 =>
        f_Mo_often_170  xFU a0 x1 x3 (t7 - 48) (t10 - 48) (t13 - x3) ((1 <<< (t14 &&& 31)) - (1 <<< (x3 &&& 31))) t26 1 w12))
    else (
      (f_Mo_part t16 t18 1 w12).bind fun t23 =>
      f_Mo_often_170  xFU a0 x1 x3 (t7 - 48) (t10 - 48) (t13 - x3) ((1 <<< (t14 &&& 31)) - (1 <<< (x3 &&& 31))) t23 1 w12))
  else (
    (xgi ω a0 12 42).bind fun t29 =>
    (xp ω a0 12 42 (.int (t29 + 1))).bind fun w30 =>
    if t3 = 63 then (
      f_Mo_often_46  x1 t3 w30)
    else (
      (f_Mo_lastOf x1 w30).bind fun t33 =>
      (f_Mo_firstOf x1 w30).bind fun t35 =>
      (xk w30 a0 12 (f_Mo_join a0 t33 t35 w30)).bind fun w38 =>
      f_Mo_often_46  x1 t3 w38))
set_option maxHeartbeats 4000000 in
set_option maxRecDepth 100000 in
theorem c_Mo_often {l : Launch} {E : xV} {z : Nat} {a0 : Nat} {x1 : Int64} {x3 : Int32} {r : Int64} {ω1 : xS} {ω : xS} (hf : f_Mo_often a0 x1 x3 ω = some (r, ω1)) : xM l E y_Mo_often ws_Mo_often { frames := 2, cells := 0, slots := 0, locals := 47 } [.ref a0, .long x1, .int x3] z ω (some (.long r)) z ω1 := by
  refine x_start (cc := b_Mo_often) (maxL := 13) (ret := (some .long)) (by decide) rfl (Nat.le_of_ble_eq_true rfl) ?_
  intro p e s m below meth c S hr hlocks hin ls hl hw
  have hl : lv_has ls 13 [(0, .ref a0), (1, .long x1), (3, .int x3)] := hl
  unfold f_Mo_often at hf
  refine lv_aload_n S.1 S.2.1 d_Mo_often_0 rfl (lv_at hl 0 rfl) ?_
  refine lv_aload_n S.1 S.2.1 d_Mo_often_1 rfl (lv_at hl 0 rfl) ?_
  obtain ⟨t1, ht1, hf⟩ := xb hf
  refine x_geti S hw lk_Mo_247 ht1 d_Mo_often_2 ?_
  obtain ⟨t3, h2, hf⟩ := xb hf
  obtain ⟨h2b, h2⟩ := xkb h2
  refine x_callV (As := [.int t1]) (rest := []) (st1 := [.int t3]) S hw (c_Mo_look h2) (cwV 1 S.2.2.2.2 gv_Mo_181 rfl rfl rfl hd_Mo_look ⟨Nat.le_of_ble_eq_true rfl, Nat.le_of_ble_eq_true rfl⟩) rfl h2b rfl hl.1 rfl rfl (Nat.le_of_ble_eq_true rfl) d_Mo_often_5 ⟨Nat.le_of_ble_eq_true rfl, Nat.le_of_ble_eq_true rfl⟩ (fun H locs hw => ?_)
  refine lv_istore (lv' := [(4, .int t3), (0, .ref a0), (1, .long x1), (3, .int x3)]) S.1 S.2.1 d_Mo_often_8 hl (by decide) rfl (fun ls hl => ?_)
  refine lv_iload S.1 S.2.1 d_Mo_often_10 (lv_at hl 0 rfl) ?_
  refine lv_bipush (v := 123) S.1 S.2.1 d_Mo_often_12 (by decide) ?_
  refine lv_icmp_eq (tgt := 77) S.1 S.2.1 d_Mo_often_14 (by decide) (fun c4 => ?_) (fun c4 => ?_)
  · replace hf := xt c4 hf
    refine lv_aload_n S.1 S.2.1 d_Mo_often_77 rfl (lv_at hl 1 rfl) ?_
    refine lv_aload_n S.1 S.2.1 d_Mo_often_78 rfl (lv_at hl 1 rfl) ?_
    obtain ⟨t5, ht5, hf⟩ := xb hf
    refine x_geti S hw lk_Mo_247 ht5 d_Mo_often_79 ?_
    refine lv_iconst (v := 1) S.1 S.2.1 d_Mo_often_82 (by decide) ?_
    refine lv_iadd S.1 S.2.1 d_Mo_often_83 ?_
    obtain ⟨t7, h6, hf⟩ := xb hf
    obtain ⟨h6b, h6⟩ := xkb h6
    refine x_callV (As := [.int (t5 + 1)]) (rest := []) (st1 := [.int t7]) S hw (c_Mo_look h6) (cwV 1 S.2.2.2.2 gv_Mo_181 rfl rfl rfl hd_Mo_look ⟨Nat.le_of_ble_eq_true rfl, Nat.le_of_ble_eq_true rfl⟩) rfl h6b rfl hl.1 rfl rfl (Nat.le_of_ble_eq_true rfl) d_Mo_often_84 ⟨Nat.le_of_ble_eq_true rfl, Nat.le_of_ble_eq_true rfl⟩ (fun H locs hw => ?_)
    refine lv_bipush (v := 48) S.1 S.2.1 d_Mo_often_87 (by decide) ?_
    refine lv_isub S.1 S.2.1 d_Mo_often_89 ?_
    refine lv_istore (lv' := [(5, .int (t7 - 48)), (4, .int t3), (0, .ref a0), (1, .long x1), (3, .int x3)]) S.1 S.2.1 d_Mo_often_90 hl (by decide) rfl (fun ls hl => ?_)
    refine lv_aload_n S.1 S.2.1 d_Mo_often_92 rfl (lv_at hl 2 rfl) ?_
    refine lv_aload_n S.1 S.2.1 d_Mo_often_93 rfl (lv_at hl 2 rfl) ?_
    obtain ⟨t8, ht8, hf⟩ := xb hf
    refine x_geti S hw lk_Mo_247 ht8 d_Mo_often_94 ?_
    refine lv_iconst (v := 3) S.1 S.2.1 d_Mo_often_97 (by decide) ?_
    refine lv_iadd S.1 S.2.1 d_Mo_often_98 ?_
    obtain ⟨t10, h9, hf⟩ := xb hf
    obtain ⟨h9b, h9⟩ := xkb h9
    refine x_callV (As := [.int (t8 + 3)]) (rest := []) (st1 := [.int t10]) S hw (c_Mo_look h9) (cwV 1 S.2.2.2.2 gv_Mo_181 rfl rfl rfl hd_Mo_look ⟨Nat.le_of_ble_eq_true rfl, Nat.le_of_ble_eq_true rfl⟩) rfl h9b rfl hl.1 rfl rfl (Nat.le_of_ble_eq_true rfl) d_Mo_often_99 ⟨Nat.le_of_ble_eq_true rfl, Nat.le_of_ble_eq_true rfl⟩ (fun H locs hw => ?_)
    refine lv_bipush (v := 48) S.1 S.2.1 d_Mo_often_102 (by decide) ?_
    refine lv_isub S.1 S.2.1 d_Mo_often_104 ?_
    refine lv_istore (lv' := [(6, .int (t10 - 48)), (5, .int (t7 - 48)), (4, .int t3), (0, .ref a0), (1, .long x1), (3, .int x3)]) S.1 S.2.1 d_Mo_often_105 hl (by decide) rfl (fun ls hl => ?_)
    refine lv_aload_n S.1 S.2.1 d_Mo_often_107 rfl (lv_at hl 3 rfl) ?_
    refine lv_dup S.1 S.2.1 d_Mo_often_108 rfl ?_
    obtain ⟨t11, ht11, hf⟩ := xb hf
    refine x_geti S hw lk_Mo_247 ht11 d_Mo_often_109 ?_
    refine lv_iconst (v := 5) S.1 S.2.1 d_Mo_often_112 (by decide) ?_
    refine lv_iadd S.1 S.2.1 d_Mo_often_113 ?_
    obtain ⟨w12, hw12, hf⟩ := xb hf
    refine x_puti S hw lp_Mo_247 hw12 d_Mo_often_114 (fun H locs hw => ?_)
    refine lv_aload_n S.1 S.2.1 d_Mo_often_117 rfl (lv_at hl 3 rfl) ?_
    obtain ⟨t13, ht13, hf⟩ := xb hf
    refine x_geti S hw lk_Mo_256 ht13 d_Mo_often_118 ?_
    refine lv_iload_n S.1 S.2.1 d_Mo_often_121 rfl (lv_at hl 5 rfl) ?_
    refine lv_isub S.1 S.2.1 d_Mo_often_122 ?_
    refine lv_istore (lv' := [(7, .int (t13 - x3)), (6, .int (t10 - 48)), (5, .int (t7 - 48)), (4, .int t3), (0, .ref a0), (1, .long x1), (3, .int x3)]) S.1 S.2.1 d_Mo_often_123 hl (by decide) rfl (fun ls hl => ?_)
    refine lv_iconst (v := 1) S.1 S.2.1 d_Mo_often_125 (by decide) ?_
    refine lv_aload_n S.1 S.2.1 d_Mo_often_126 rfl (lv_at hl 4 rfl) ?_
    obtain ⟨t14, ht14, hf⟩ := xb hf
    refine x_geti S hw lk_Mo_256 ht14 d_Mo_often_127 ?_
    refine lv_ishl S.1 S.2.1 d_Mo_often_130 ?_
    refine lv_iconst (v := 1) S.1 S.2.1 d_Mo_often_131 (by decide) ?_
    refine lv_iload_n S.1 S.2.1 d_Mo_often_132 rfl (lv_at hl 6 rfl) ?_
    refine lv_ishl S.1 S.2.1 d_Mo_often_133 ?_
    refine lv_isub S.1 S.2.1 d_Mo_often_134 ?_
    refine lv_istore (lv' := [(8, .int ((1 <<< (t14 &&& 31)) - (1 <<< (x3 &&& 31)))), (7, .int (t13 - x3)), (6, .int (t10 - 48)), (5, .int (t7 - 48)), (4, .int t3), (0, .ref a0), (1, .long x1), (3, .int x3)]) S.1 S.2.1 d_Mo_often_135 hl (by decide) rfl (fun ls hl => ?_)
    refine lv_lload_n S.1 S.2.1 d_Mo_often_137 rfl (lv_at hl 6 rfl) ?_
    obtain ⟨t16, h15, hf⟩ := xb hf
    refine x_callS (As := [.long x1]) (rest := []) (st1 := [.int t16]) S hw (c_Mo_firstOf h15) (cwS 1 S.2.2.2.2 gs_Mo_263 rfl rfl rfl hd_Mo_firstOf ⟨Nat.le_of_ble_eq_true rfl, Nat.le_of_ble_eq_true rfl⟩) rfl hl.1 rfl rfl (Nat.le_of_ble_eq_true rfl) d_Mo_often_138 ⟨Nat.le_of_ble_eq_true rfl, Nat.le_of_ble_eq_true rfl⟩ (fun H locs hw => ?_)
    refine lv_lload_n S.1 S.2.1 d_Mo_often_141 rfl (lv_at hl 6 rfl) ?_
    obtain ⟨t18, h17, hf⟩ := xb hf
    refine x_callS (As := [.long x1]) (rest := [.int t16]) (st1 := [.int t18, .int t16]) S hw (c_Mo_lastOf h17) (cwS 1 S.2.2.2.2 gs_Mo_267 rfl rfl rfl hd_Mo_lastOf ⟨Nat.le_of_ble_eq_true rfl, Nat.le_of_ble_eq_true rfl⟩) rfl hl.1 rfl rfl (Nat.le_of_ble_eq_true rfl) d_Mo_often_142 ⟨Nat.le_of_ble_eq_true rfl, Nat.le_of_ble_eq_true rfl⟩ (fun H locs hw => ?_)
    refine lv_lload_n S.1 S.2.1 d_Mo_often_145 rfl (lv_at hl 6 rfl) ?_
    obtain ⟨t20, h19, hf⟩ := xb hf
    refine x_callS (As := [.long x1]) (rest := [.int t18, .int t16]) (st1 := [.int t20, .int t18, .int t16]) S hw (c_Mo_noneOf h19) (cwS 1 S.2.2.2.2 gs_Mo_270 rfl rfl rfl hd_Mo_noneOf ⟨Nat.le_of_ble_eq_true rfl, Nat.le_of_ble_eq_true rfl⟩) rfl hl.1 rfl rfl (Nat.le_of_ble_eq_true rfl) d_Mo_often_146 ⟨Nat.le_of_ble_eq_true rfl, Nat.le_of_ble_eq_true rfl⟩ (fun H locs hw => ?_)
    refine lv_if_ne (tgt := 157) S.1 S.2.1 d_Mo_often_149 (by decide) (fun c21 => ?_) (fun c21 => ?_)
    · replace hf := xf c21 hf
      refine lv_iconst (v := 1) S.1 S.2.1 d_Mo_often_157 (by decide) ?_
      refine lv_goto (tgt := 162) S.1 S.2.1 d_Mo_often_158 (by decide) ?_
      obtain ⟨t23, h22, hf⟩ := xb hf
      refine x_callS (As := [.int t16, .int t18, .int 1]) (rest := []) (st1 := [.long t23]) S hw (c_Mo_part h22) (cwS 3 S.2.2.2.2 gs_Mo_310 rfl rfl rfl hd_Mo_part ⟨Nat.le_of_ble_eq_true rfl, Nat.le_of_ble_eq_true rfl⟩) rfl hl.1 rfl rfl (Nat.le_of_ble_eq_true rfl) d_Mo_often_162 ⟨Nat.le_of_ble_eq_true rfl, Nat.le_of_ble_eq_true rfl⟩ (fun H locs hw => ?_)
      refine lv_lstore (lv' := [(9, .long t23), (8, .int ((1 <<< (t14 &&& 31)) - (1 <<< (x3 &&& 31)))), (7, .int (t13 - x3)), (6, .int (t10 - 48)), (5, .int (t7 - 48)), (4, .int t3), (0, .ref a0), (1, .long x1), (3, .int x3)]) S.1 S.2.1 d_Mo_often_165 hl (by decide) rfl (fun ls hl => ?_)
      refine lv_iconst (v := 1) S.1 S.2.1 d_Mo_often_167 (by decide) ?_
      refine lv_istore (lv' := [(11, .int 1), (9, .long t23), (8, .int ((1 <<< (t14 &&& 31)) - (1 <<< (x3 &&& 31)))), (7, .int (t13 - x3)), (6, .int (t10 - 48)), (5, .int (t7 - 48)), (4, .int t3), (0, .ref a0), (1, .long x1), (3, .int x3)]) S.1 S.2.1 d_Mo_often_168 hl (by decide) rfl (fun ls hl => ?_)
      exact w_Mo_often_170 S hr hlocks  _ _ _ _ _ _ _ _ _ _ _ _ _ _ hw (lv_sub hl [7, 8, 9, 5, 4, 3, 2, 1, 0] rfl) hf
    · replace hf := xt c21 hf
      refine lv_iload S.1 S.2.1 d_Mo_often_152 (lv_at hl 3 rfl) ?_
      refine lv_if_ne (tgt := 161) S.1 S.2.1 d_Mo_often_154 (by decide) (fun c24 => ?_) (fun c24 => ?_)
      · replace hf := xf c24 hf
        refine lv_iconst (v := 0) S.1 S.2.1 d_Mo_often_161 (by decide) ?_
        obtain ⟨t26, h25, hf⟩ := xb hf
        refine x_callS (As := [.int t16, .int t18, .int 0]) (rest := []) (st1 := [.long t26]) S hw (c_Mo_part h25) (cwS 3 S.2.2.2.2 gs_Mo_310 rfl rfl rfl hd_Mo_part ⟨Nat.le_of_ble_eq_true rfl, Nat.le_of_ble_eq_true rfl⟩) rfl hl.1 rfl rfl (Nat.le_of_ble_eq_true rfl) d_Mo_often_162 ⟨Nat.le_of_ble_eq_true rfl, Nat.le_of_ble_eq_true rfl⟩ (fun H locs hw => ?_)
        refine lv_lstore (lv' := [(9, .long t26), (8, .int ((1 <<< (t14 &&& 31)) - (1 <<< (x3 &&& 31)))), (7, .int (t13 - x3)), (6, .int (t10 - 48)), (5, .int (t7 - 48)), (4, .int t3), (0, .ref a0), (1, .long x1), (3, .int x3)]) S.1 S.2.1 d_Mo_often_165 hl (by decide) rfl (fun ls hl => ?_)
        refine lv_iconst (v := 1) S.1 S.2.1 d_Mo_often_167 (by decide) ?_
        refine lv_istore (lv' := [(11, .int 1), (9, .long t26), (8, .int ((1 <<< (t14 &&& 31)) - (1 <<< (x3 &&& 31)))), (7, .int (t13 - x3)), (6, .int (t10 - 48)), (5, .int (t7 - 48)), (4, .int t3), (0, .ref a0), (1, .long x1), (3, .int x3)]) S.1 S.2.1 d_Mo_often_168 hl (by decide) rfl (fun ls hl => ?_)
        exact w_Mo_often_170 S hr hlocks  _ _ _ _ _ _ _ _ _ _ _ _ _ _ hw (lv_sub hl [7, 8, 9, 5, 4, 3, 2, 1, 0] rfl) hf
      · replace hf := xt c24 hf
        refine lv_iconst (v := 1) S.1 S.2.1 d_Mo_often_157 (by decide) ?_
        refine lv_goto (tgt := 162) S.1 S.2.1 d_Mo_often_158 (by decide) ?_
        obtain ⟨t28, h27, hf⟩ := xb hf
        refine x_callS (As := [.int t16, .int t18, .int 1]) (rest := []) (st1 := [.long t28]) S hw (c_Mo_part h27) (cwS 3 S.2.2.2.2 gs_Mo_310 rfl rfl rfl hd_Mo_part ⟨Nat.le_of_ble_eq_true rfl, Nat.le_of_ble_eq_true rfl⟩) rfl hl.1 rfl rfl (Nat.le_of_ble_eq_true rfl) d_Mo_often_162 ⟨Nat.le_of_ble_eq_true rfl, Nat.le_of_ble_eq_true rfl⟩ (fun H locs hw => ?_)
        refine lv_lstore (lv' := [(9, .long t28), (8, .int ((1 <<< (t14 &&& 31)) - (1 <<< (x3 &&& 31)))), (7, .int (t13 - x3)), (6, .int (t10 - 48)), (5, .int (t7 - 48)), (4, .int t3), (0, .ref a0), (1, .long x1), (3, .int x3)]) S.1 S.2.1 d_Mo_often_165 hl (by decide) rfl (fun ls hl => ?_)
        refine lv_iconst (v := 1) S.1 S.2.1 d_Mo_often_167 (by decide) ?_
        refine lv_istore (lv' := [(11, .int 1), (9, .long t28), (8, .int ((1 <<< (t14 &&& 31)) - (1 <<< (x3 &&& 31)))), (7, .int (t13 - x3)), (6, .int (t10 - 48)), (5, .int (t7 - 48)), (4, .int t3), (0, .ref a0), (1, .long x1), (3, .int x3)]) S.1 S.2.1 d_Mo_often_168 hl (by decide) rfl (fun ls hl => ?_)
        exact w_Mo_often_170 S hr hlocks  _ _ _ _ _ _ _ _ _ _ _ _ _ _ hw (lv_sub hl [7, 8, 9, 5, 4, 3, 2, 1, 0] rfl) hf
  · replace hf := xf c4 hf
    refine lv_aload_n S.1 S.2.1 d_Mo_often_17 rfl (lv_at hl 1 rfl) ?_
    refine lv_dup S.1 S.2.1 d_Mo_often_18 rfl ?_
    obtain ⟨t29, ht29, hf⟩ := xb hf
    refine x_geti S hw lk_Mo_247 ht29 d_Mo_often_19 ?_
    refine lv_iconst (v := 1) S.1 S.2.1 d_Mo_often_22 (by decide) ?_
    refine lv_iadd S.1 S.2.1 d_Mo_often_23 ?_
    obtain ⟨w30, hw30, hf⟩ := xb hf
    refine x_puti S hw lp_Mo_247 hw30 d_Mo_often_24 (fun H locs hw => ?_)
    refine lv_iload S.1 S.2.1 d_Mo_often_27 (lv_at hl 0 rfl) ?_
    refine lv_bipush (v := 63) S.1 S.2.1 d_Mo_often_29 (by decide) ?_
    refine lv_icmp_eq (tgt := 46) S.1 S.2.1 d_Mo_often_31 (by decide) (fun c31 => ?_) (fun c31 => ?_)
    · replace hf := xt c31 hf
      exact w_Mo_often_46 S hr hlocks  _ _ _ _ _ _ hw (lv_sub hl [2, 0] rfl) hf
    · replace hf := xf c31 hf
      refine lv_aload_n S.1 S.2.1 d_Mo_often_34 rfl (lv_at hl 1 rfl) ?_
      refine lv_lload_n S.1 S.2.1 d_Mo_often_35 rfl (lv_at hl 2 rfl) ?_
      obtain ⟨t33, h32, hf⟩ := xb hf
      refine x_callS (As := [.long x1]) (rest := [.ref a0]) (st1 := [.int t33, .ref a0]) S hw (c_Mo_lastOf h32) (cwS 1 S.2.2.2.2 gs_Mo_267 rfl rfl rfl hd_Mo_lastOf ⟨Nat.le_of_ble_eq_true rfl, Nat.le_of_ble_eq_true rfl⟩) rfl hl.1 rfl rfl (Nat.le_of_ble_eq_true rfl) d_Mo_often_36 ⟨Nat.le_of_ble_eq_true rfl, Nat.le_of_ble_eq_true rfl⟩ (fun H locs hw => ?_)
      refine lv_lload_n S.1 S.2.1 d_Mo_often_39 rfl (lv_at hl 2 rfl) ?_
      obtain ⟨t35, h34, hf⟩ := xb hf
      refine x_callS (As := [.long x1]) (rest := [.int t33, .ref a0]) (st1 := [.int t35, .int t33, .ref a0]) S hw (c_Mo_firstOf h34) (cwS 1 S.2.2.2.2 gs_Mo_263 rfl rfl rfl hd_Mo_firstOf ⟨Nat.le_of_ble_eq_true rfl, Nat.le_of_ble_eq_true rfl⟩) rfl hl.1 rfl rfl (Nat.le_of_ble_eq_true rfl) d_Mo_often_40 ⟨Nat.le_of_ble_eq_true rfl, Nat.le_of_ble_eq_true rfl⟩ (fun H locs hw => ?_)
      obtain ⟨w38, h36, hf⟩ := xb hf
      obtain ⟨h36b, h36⟩ := xkb h36
      refine x_callV (As := [.int t33, .int t35]) (rest := []) (st1 := []) S hw (c_Mo_join h36) (cwV 2 S.2.2.2.2 gv_Mo_307 rfl rfl rfl hd_Mo_join ⟨Nat.le_of_ble_eq_true rfl, Nat.le_of_ble_eq_true rfl⟩) rfl h36b rfl hl.1 rfl rfl (Nat.le_of_ble_eq_true rfl) d_Mo_often_43 ⟨Nat.le_of_ble_eq_true rfl, Nat.le_of_ble_eq_true rfl⟩ (fun H locs hw => ?_)
      exact w_Mo_often_46 S hr hlocks  _ _ _ _ _ _ hw (lv_sub hl [2, 0] rfl) hf
