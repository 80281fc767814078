def f_LawReader_init (a0 : Nat) (a1 : Nat) (x2 : Int32) (z : Nat) (ω : xS) : Option xS :=
  (xp ω a0 5 4 (.int (-2))).bind fun w1 =>
  xl (xu w1 z (.inr (10, [.null, .int 0, .int 0, .int 0]))) fun w2 =>
  (f_Tokens_init z a1 w2).bind fun w3 =>
  (xp w3 a0 5 0 (.ref z)).bind fun w5 =>
  xl (xu w5 (z + 1) (.inr (6, [.null, .null, .null, .null, .int 0, .int 0, .int 0, .int 0, .int 0, .int 0, .int 0, .int 0]))) fun w6 =>
  (f_PatternParser_init (z + 1) a1 (z + 2) w6).bind fun w7 =>
  (xp w7 a0 5 1 (.ref (z + 1))).bind fun w9 =>
  (xp w9 a0 5 2 (.int x2)).bind fun w10 =>
  some w10
set_option maxHeartbeats 4000000 in
set_option maxRecDepth 100000 in
theorem c_LawReader_init {l : Launch} {E : xV} {z : Nat} {a0 : Nat} {a1 : Nat} {x2 : Int32} {ω1 : xS} {ω : xS} (hf : f_LawReader_init a0 a1 x2 z ω = some ω1) : xM l E y_LawReader_init ws_LawReader_init { frames := 2, cells := 5, slots := 139, locals := 41 } [.ref a0, .ref a1, .int x2] z ω none (z + 5) ω1 := by
  refine x_start (cc := b_LawReader_init) (maxL := 3) (ret := none) (by decide) rfl (Nat.le_of_ble_eq_true rfl) ?_
  intro p e s m below meth c S hr hlocks hin ls hl hw
  have hl : lv_has ls 3 [(0, .ref a0), (1, .ref a1), (2, .int x2)] := hl
  have hin := hin rfl
  unfold f_LawReader_init at hf
  refine lv_aload_n S.1 S.2.1 d_LawReader_init_0 rfl (lv_at hl 0 rfl) ?_
  refine x_obj S hl.1 ob_LawReader_3 d_LawReader_init_1 (Nat.le_of_ble_eq_true rfl) (Nat.le_of_ble_eq_true rfl) ?_
  refine lv_aload_n S.1 S.2.1 d_LawReader_init_4 rfl (lv_at hl 0 rfl) ?_
  refine lv_bipush (v := (-2)) S.1 S.2.1 d_LawReader_init_5 (by decide) ?_
  obtain ⟨w1, hw1, hf⟩ := xb hf
  refine x_puti S hw lp_LawReader_9 hw1 d_LawReader_init_7 (fun H locs hw => ?_)
  refine lv_aload_n S.1 S.2.1 d_LawReader_init_10 rfl (lv_at hl 0 rfl) ?_
  obtain ⟨w2, hw2, hf⟩ := xlb hf
  refine x_new S hw nw_LawReader_15 hw2 (Nat.le_of_ble_eq_true rfl) (Nat.le_of_ble_eq_true rfl) d_LawReader_init_11 (fun H hw => ?_)
  refine lv_dup S.1 S.2.1 d_LawReader_init_14 rfl ?_
  refine lv_aload_n S.1 S.2.1 d_LawReader_init_15 rfl (lv_at hl 1 rfl) ?_
  obtain ⟨w3, h4, hf⟩ := xb hf
  refine x_callI (As := [.ref a1]) (rest := [.ref z, .ref a0]) S hw (c_Tokens_init h4) (cwI 1 S.2.2.2.2 gi_Tokens_init rfl rfl rfl (S.2.2.2.2 _ wd_1_9) (S.2.2.2.2 _ wd_1_197) (S.2.2.2.2 _ wd_1_198) rfl hi_Tokens_init ⟨Nat.le_of_ble_eq_true rfl, Nat.le_of_ble_eq_true rfl⟩) rfl hl.1 rfl (Nat.le_of_ble_eq_true rfl) d_LawReader_init_16 ⟨Nat.le_of_ble_eq_true rfl, Nat.le_of_ble_eq_true rfl⟩ (fun H locs hw => ?_)
  obtain ⟨w5, hw5, hf⟩ := xb hf
  refine x_putF S hin hw lf_LawReader_20 rfl rfl hw5 d_LawReader_init_19 (fun H locs hw => ?_)
  refine lv_aload_n S.1 S.2.1 d_LawReader_init_22 rfl (lv_at hl 0 rfl) ?_
  obtain ⟨w6, hw6, hf⟩ := xlb hf
  refine x_new S hw nw_LawReader_24 hw6 (Nat.le_of_ble_eq_true rfl) (Nat.le_of_ble_eq_true rfl) d_LawReader_init_23 (fun H hw => ?_)
  refine lv_dup S.1 S.2.1 d_LawReader_init_26 rfl ?_
  refine lv_aload_n S.1 S.2.1 d_LawReader_init_27 rfl (lv_at hl 1 rfl) ?_
  obtain ⟨w7, h8, hf⟩ := xb hf
  refine x_callI (As := [.ref a1]) (rest := [.ref (z + 1), .ref a0]) S hw (c_PatternParser_init h8) (cwI 1 S.2.2.2.2 gi_PatternParser_init rfl rfl rfl (S.2.2.2.2 _ wd_1_10) (S.2.2.2.2 _ wd_1_217) (S.2.2.2.2 _ wd_1_218) rfl hi_PatternParser_init ⟨Nat.le_of_ble_eq_true rfl, Nat.le_of_ble_eq_true rfl⟩) rfl hl.1 rfl (Nat.le_of_ble_eq_true rfl) d_LawReader_init_28 ⟨Nat.le_of_ble_eq_true rfl, Nat.le_of_ble_eq_true rfl⟩ (fun H locs hw => ?_)
  obtain ⟨w9, hw9, hf⟩ := xb hf
  refine x_putF S hin hw lf_LawReader_27 rfl rfl hw9 d_LawReader_init_31 (fun H locs hw => ?_)
  refine lv_aload_n S.1 S.2.1 d_LawReader_init_34 rfl (lv_at hl 0 rfl) ?_
  refine lv_iload_n S.1 S.2.1 d_LawReader_init_35 rfl (lv_at hl 2 rfl) ?_
  obtain ⟨w10, hw10, hf⟩ := xb hf
  refine x_putF S hin hw lf_LawReader_31 rfl rfl hw10 d_LawReader_init_36 (fun H locs hw => ?_)
  cases hf
  exact x_vret S hr hlocks hw d_LawReader_init_39
def f_Tokens_rewind (a0 : Nat) (ω : xS) : Option xS :=
  (xp ω a0 10 3 (.int 0)).bind fun w1 =>
  some w1
set_option maxHeartbeats 4000000 in
set_option maxRecDepth 100000 in
theorem c_Tokens_rewind {l : Launch} {E : xV} {z : Nat} {a0 : Nat} {ω1 : xS} {ω : xS} (hf : f_Tokens_rewind a0 ω = some ω1) : xM l E y_Tokens_rewind ws_Tokens_rewind { frames := 0, cells := 0, slots := 0, locals := 0 } [.ref a0] z ω none z ω1 := by
  refine x_start (cc := b_Tokens_rewind) (maxL := 1) (ret := none) (by decide) rfl (Nat.le_of_ble_eq_true rfl) ?_
  intro p e s m below meth c S hr hlocks hin ls hl hw
  have hl : lv_has ls 1 [(0, .ref a0)] := hl
  unfold f_Tokens_rewind at hf
  refine lv_aload_n S.1 S.2.1 d_Tokens_rewind_0 rfl (lv_at hl 0 rfl) ?_
  refine lv_iconst (v := 0) S.1 S.2.1 d_Tokens_rewind_1 (by decide) ?_
  obtain ⟨w1, hw1, hf⟩ := xb hf
  refine x_puti S hw lp_Tokens_15 hw1 d_Tokens_rewind_2 (fun H locs hw => ?_)
  cases hf
  exact x_vret S hr hlocks hw d_Tokens_rewind_5
def f_Tape_byteAt (a0 : Nat) (x1 : Int32) (ω : xS) : Option Int32 :=
  if x1 < 0 then (
    some (-1))
  else (
    (xgi ω a0 9 1).bind fun t2 =>
    if t2 ≤ x1 then (
      some (-1))
    else (
      (xgr ω a0 9 0).bind fun t4 =>
      (xai ω t4 x1).bind fun t5 =>
      some t5))
set_option maxHeartbeats 4000000 in
set_option maxRecDepth 100000 in
theorem c_Tape_byteAt {l : Launch} {E : xV} {z : Nat} {a0 : Nat} {x1 : Int32} {r : Int32} {ω : xS} (hf : f_Tape_byteAt a0 x1 ω = some r) : xM l E y_Tape_byteAt ws_Tape_byteAt { frames := 0, cells := 0, slots := 0, locals := 0 } [.ref a0, .int x1] z ω (some (.int r)) z ω := by
  refine x_start (cc := b_Tape_byteAt) (maxL := 2) (ret := (some .int)) (by decide) rfl (Nat.le_of_ble_eq_true rfl) ?_
  intro p e s m below meth c S hr hlocks hin ls hl hw
  have hl : lv_has ls 2 [(0, .ref a0), (1, .int x1)] := hl
  unfold f_Tape_byteAt at hf
  refine lv_iload_n S.1 S.2.1 d_Tape_byteAt_0 rfl (lv_at hl 1 rfl) ?_
  refine lv_if_lt (tgt := 21) S.1 S.2.1 d_Tape_byteAt_1 (by decide) (fun c1 => ?_) (fun c1 => ?_)
  · replace hf := xt c1 hf
    refine lv_iconst (v := (-1)) S.1 S.2.1 d_Tape_byteAt_21 (by decide) ?_
    obtain rfl := xe1 hf
    exact x_iret S hr hlocks hw d_Tape_byteAt_22
  · replace hf := xf c1 hf
    refine lv_iload_n S.1 S.2.1 d_Tape_byteAt_4 rfl (lv_at hl 1 rfl) ?_
    refine lv_aload_n S.1 S.2.1 d_Tape_byteAt_5 rfl (lv_at hl 0 rfl) ?_
    obtain ⟨t2, ht2, hf⟩ := xb hf
    refine x_geti S hw lk_Tape_15 ht2 d_Tape_byteAt_6 ?_
    refine lv_icmp_ge (tgt := 21) S.1 S.2.1 d_Tape_byteAt_9 (by decide) (fun c3 => ?_) (fun c3 => ?_)
    · replace hf := xt c3 hf
      refine lv_iconst (v := (-1)) S.1 S.2.1 d_Tape_byteAt_21 (by decide) ?_
      obtain rfl := xe1 hf
      exact x_iret S hr hlocks hw d_Tape_byteAt_22
    · replace hf := xf c3 hf
      refine lv_aload_n S.1 S.2.1 d_Tape_byteAt_12 rfl (lv_at hl 0 rfl) ?_
      obtain ⟨t4, ht4, hf⟩ := xb hf
      refine x_getr S hw lk_Tape_9 ht4 d_Tape_byteAt_13 ?_
      refine lv_iload_n S.1 S.2.1 d_Tape_byteAt_16 rfl (lv_at hl 1 rfl) ?_
      obtain ⟨t5, ht5, hf⟩ := xb hf
      refine x_iald S hw ht5 d_Tape_byteAt_17 ?_
      refine lv_goto (tgt := 22) S.1 S.2.1 d_Tape_byteAt_18 (by decide) ?_
      obtain rfl := xe1 hf
      exact x_iret S hr hlocks hw d_Tape_byteAt_22
def f_Tokens_runEnd_5 : Nat → Nat → Int32 → Int32 → Int32 → xS → Option Int32
  | 0, _, _, _, _, _ => none
  | n + 1, a0, x1, x2, x3, ω =>
    (xgr ω a0 10 0).bind fun t2 =>
    (xgi ω t2 9 1).bind fun t3 =>
    if t3 ≤ x3 then (
      some x3)
    else (
      (xgr ω a0 10 0).bind fun t5 =>
      (xgr ω t5 9 0).bind fun t6 =>
      (xai ω t6 x3).bind fun t7 =>
      if t7 < x1 then (
        some x3)
      else (
        (xgr ω a0 10 0).bind fun t9 =>
        (xgr ω t9 9 0).bind fun t10 =>
        (xai ω t10 x3).bind fun t11 =>
        if x2 < t11 then (
          some x3)
        else (
          f_Tokens_runEnd_5  n a0 x1 x2 (x3 + 1) ω)))
set_option maxHeartbeats 4000000 in
set_option maxRecDepth 100000 in
theorem w_Tokens_runEnd_5 {p : Program} {l : Launch} {e : Env} {s : State} {m : MethodId} {args : Array Value} {below : List Frame} {meth : Method} {c : Code} {E : xV} {z : Nat} {r : Int32} {ω : xS} (S : CallFix p m c b_Tokens_runEnd 4 s args xTbl "RosterRules$Tokens") (hr : meth.sig.returnType = (some .int)) (hlocks : meth.locks = false) : ∀ n : Nat, ∀ (a0 : Nat) (x1 : Int32) (x2 : Int32) (x3 : Int32) (H : Heap) (locs : List Loc) (ls : Array Slot), xW E z ω s s.heap H locs → lv_has ls 4 [(0, .ref a0), (1, .int x1), (2, .int x2), (3, .int x3)] → f_Tokens_runEnd_5 n a0 x1 x2 x3 ω = some r → W p l e (headSpec ws_Tokens_runEnd { frames := 0, cells := 0, slots := 0, locals := 0 }).room s m args below meth c H locs 0 0 (MQ below (xQ E (some (.int r)) z ω) args s 0 0 (fun q => E.2.2 ≤ q)) (F0 m 5 ls []) := by
  intro n
  induction n with
  | zero =>
    intro a0 x1 x2 x3 H locs ls hw hl hf
    have h2 : (none : Option Int32) = some r := hf
    cases h2
  | succ n ih =>
    intro a0 x1 x2 x3 H locs ls hw hl hf
    rw [f_Tokens_runEnd_5] at hf
    refine lv_iload_n S.1 S.2.1 d_Tokens_runEnd_5 rfl (lv_at hl 3 rfl) ?_
    refine lv_aload_n S.1 S.2.1 d_Tokens_runEnd_6 rfl (lv_at hl 0 rfl) ?_
    obtain ⟨t2, ht2, hf⟩ := xb hf
    refine x_getr S hw lk_Tokens_9 ht2 d_Tokens_runEnd_7 ?_
    obtain ⟨t3, ht3, hf⟩ := xb hf
    refine x_geti S hw lk_Tokens_22 ht3 d_Tokens_runEnd_10 ?_
    refine lv_icmp_ge (tgt := 48) S.1 S.2.1 d_Tokens_runEnd_13 (by decide) (fun c4 => ?_) (fun c4 => ?_)
    · replace hf := xt c4 hf
      refine lv_iload_n S.1 S.2.1 d_Tokens_runEnd_48 rfl (lv_at hl 3 rfl) ?_
      obtain rfl := xe1 hf
      exact x_iret S hr hlocks hw d_Tokens_runEnd_49
    · replace hf := xf c4 hf
      refine lv_aload_n S.1 S.2.1 d_Tokens_runEnd_16 rfl (lv_at hl 0 rfl) ?_
      obtain ⟨t5, ht5, hf⟩ := xb hf
      refine x_getr S hw lk_Tokens_9 ht5 d_Tokens_runEnd_17 ?_
      obtain ⟨t6, ht6, hf⟩ := xb hf
      refine x_getr S hw lk_Tokens_27 ht6 d_Tokens_runEnd_20 ?_
      refine lv_iload_n S.1 S.2.1 d_Tokens_runEnd_23 rfl (lv_at hl 3 rfl) ?_
      obtain ⟨t7, ht7, hf⟩ := xb hf
      refine x_iald S hw ht7 d_Tokens_runEnd_24 ?_
      refine lv_iload_n S.1 S.2.1 d_Tokens_runEnd_25 rfl (lv_at hl 1 rfl) ?_
      refine lv_icmp_lt (tgt := 48) S.1 S.2.1 d_Tokens_runEnd_26 (by decide) (fun c8 => ?_) (fun c8 => ?_)
      · replace hf := xt c8 hf
        refine lv_iload_n S.1 S.2.1 d_Tokens_runEnd_48 rfl (lv_at hl 3 rfl) ?_
        obtain rfl := xe1 hf
        exact x_iret S hr hlocks hw d_Tokens_runEnd_49
      · replace hf := xf c8 hf
        refine lv_aload_n S.1 S.2.1 d_Tokens_runEnd_29 rfl (lv_at hl 0 rfl) ?_
        obtain ⟨t9, ht9, hf⟩ := xb hf
        refine x_getr S hw lk_Tokens_9 ht9 d_Tokens_runEnd_30 ?_
        obtain ⟨t10, ht10, hf⟩ := xb hf
        refine x_getr S hw lk_Tokens_27 ht10 d_Tokens_runEnd_33 ?_
        refine lv_iload_n S.1 S.2.1 d_Tokens_runEnd_36 rfl (lv_at hl 3 rfl) ?_
        obtain ⟨t11, ht11, hf⟩ := xb hf
        refine x_iald S hw ht11 d_Tokens_runEnd_37 ?_
        refine lv_iload_n S.1 S.2.1 d_Tokens_runEnd_38 rfl (lv_at hl 2 rfl) ?_
        refine lv_icmp_gt (tgt := 48) S.1 S.2.1 d_Tokens_runEnd_39 (by decide) (fun c12 => ?_) (fun c12 => ?_)
        · replace hf := xt c12 hf
          refine lv_iload_n S.1 S.2.1 d_Tokens_runEnd_48 rfl (lv_at hl 3 rfl) ?_
          obtain rfl := xe1 hf
          exact x_iret S hr hlocks hw d_Tokens_runEnd_49
        · replace hf := xf c12 hf
          refine lv_iinc (v := (x3 + 1)) (lv' := [(3, .int (x3 + 1)), (0, .ref a0), (1, .int x1), (2, .int x2)]) S.1 S.2.1 d_Tokens_runEnd_42 hl (k := 3) rfl rfl (by decide) rfl (fun ls hl => ?_)
          refine lv_goto (tgt := 5) S.1 S.2.1 d_Tokens_runEnd_45 (by decide) ?_
          exact ih _ _ _ _ _ _ _ hw (lv_sub hl [1, 2, 3, 0] rfl) hf
def f_Tokens_runEnd (a0 : Nat) (x1 : Int32) (x2 : Int32) (ω : xS) : Option Int32 :=
  (xgi ω a0 10 2).bind fun t1 =>
  f_Tokens_runEnd_5  xFU a0 x1 x2 t1 ω
set_option maxHeartbeats 4000000 in
set_option maxRecDepth 100000 in
theorem c_Tokens_runEnd {l : Launch} {E : xV} {z : Nat} {a0 : Nat} {x1 : Int32} {x2 : Int32} {r : Int32} {ω : xS} (hf : f_Tokens_runEnd a0 x1 x2 ω = some r) : xM l E y_Tokens_runEnd ws_Tokens_runEnd { frames := 0, cells := 0, slots := 0, locals := 0 } [.ref a0, .int x1, .int x2] z ω (some (.int r)) z ω := by
  refine x_start (cc := b_Tokens_runEnd) (maxL := 4) (ret := (some .int)) (by decide) rfl (Nat.le_of_ble_eq_true rfl) ?_
  intro p e s m below meth c S hr hlocks hin ls hl hw
  have hl : lv_has ls 4 [(0, .ref a0), (1, .int x1), (2, .int x2)] := hl
  unfold f_Tokens_runEnd at hf
  refine lv_aload_n S.1 S.2.1 d_Tokens_runEnd_0 rfl (lv_at hl 0 rfl) ?_
  obtain ⟨t1, ht1, hf⟩ := xb hf
  refine x_geti S hw lk_Tokens_19 ht1 d_Tokens_runEnd_1 ?_
  refine lv_istore_n (lv' := [(3, .int t1), (0, .ref a0), (1, .int x1), (2, .int x2)]) S.1 S.2.1 d_Tokens_runEnd_4 rfl hl (by decide) rfl (fun ls hl => ?_)
  exact w_Tokens_runEnd_5 S hr hlocks  _ _ _ _ _ _ _ _ hw (lv_sub hl [1, 2, 3, 0] rfl) hf
def f_Tokens_closePattern_66 (a0 : Nat) (x1 : Int32) (ω : xS) : Option (Int32 × xS) :=
  (xp ω a0 10 3 (.int (x1 + 1))).bind fun w17 =>
  (xgr w17 a0 10 0).bind fun t18 =>
  (xgi w17 t18 9 1).bind fun t19 =>
  if t19 ≤ x1 then (
    some (0, w17))
  else (
    (xgr w17 a0 10 0).bind fun t21 =>
    (xgr w17 t21 9 0).bind fun t22 =>
    (xai w17 t22 x1).bind fun t23 =>
    if t23 = 34 then (
      (xgi w17 a0 10 2).bind fun t25 =>
      if 40 < ((x1 - t25) - 1) then (
        some (0, w17))
      else (
        some (1, w17)))
    else (
      some (0, w17)))
set_option maxHeartbeats 4000000 in
set_option maxRecDepth 100000 in
theorem w_Tokens_closePattern_66 {p : Program} {l : Launch} {e : Env} {s : State} {m : MethodId} {args : Array Value} {below : List Frame} {meth : Method} {c : Code} {E : xV} {z : Nat} {r : Int32} {ω1 : xS} (S : CallFix p m c b_Tokens_closePattern 2 s args xTbl "RosterRules$Tokens") (hr : meth.sig.returnType = (some .boolean)) (hlocks : meth.locks = false) : ∀ (a0 : Nat) (x1 : Int32) (ω : xS) (H : Heap) (locs : List Loc) (ls : Array Slot), xW E z ω s s.heap H locs → lv_has ls 2 [(0, .ref a0), (1, .int x1)] → f_Tokens_closePattern_66 a0 x1 ω = some (r, ω1) → W p l e (headSpec ws_Tokens_closePattern { frames := 0, cells := 0, slots := 0, locals := 0 }).room s m args below meth c H locs 0 0 (MQ below (xQ E (some (.int r)) z ω1) args s 0 0 (fun q => E.2.2 ≤ q)) (F0 m 66 ls []) := by
  intro a0 x1 ω H locs ls hw hl hf
  unfold f_Tokens_closePattern_66 at hf
  refine lv_aload_n S.1 S.2.1 d_Tokens_closePattern_66 rfl (lv_at hl 0 rfl) ?_
  refine lv_iload_n S.1 S.2.1 d_Tokens_closePattern_67 rfl (lv_at hl 1 rfl) ?_
  refine lv_iconst (v := 1) S.1 S.2.1 d_Tokens_closePattern_68 (by decide) ?_
  refine lv_iadd S.1 S.2.1 d_Tokens_closePattern_69 ?_
  obtain ⟨w17, hw17, hf⟩ := xb hf
  refine x_puti S hw lp_Tokens_15 hw17 d_Tokens_closePattern_70 (fun H locs hw => ?_)
  refine lv_iload_n S.1 S.2.1 d_Tokens_closePattern_73 rfl (lv_at hl 1 rfl) ?_
  refine lv_aload_n S.1 S.2.1 d_Tokens_closePattern_74 rfl (lv_at hl 0 rfl) ?_
  obtain ⟨t18, ht18, hf⟩ := xb hf
  refine x_getr S hw lk_Tokens_9 ht18 d_Tokens_closePattern_75 ?_
  obtain ⟨t19, ht19, hf⟩ := xb hf
  refine x_geti S hw lk_Tokens_22 ht19 d_Tokens_closePattern_78 ?_
  refine lv_icmp_ge (tgt := 115) S.1 S.2.1 d_Tokens_closePattern_81 (by decide) (fun c20 => ?_) (fun c20 => ?_)
  · replace hf := xt c20 hf
    refine lv_iconst (v := 0) S.1 S.2.1 d_Tokens_closePattern_115 (by decide) ?_
    obtain ⟨rfl, rfl⟩ := xe2 hf
    exact x_zret S hr hlocks hw (by decide) d_Tokens_closePattern_116
  · replace hf := xf c20 hf
    refine lv_aload_n S.1 S.2.1 d_Tokens_closePattern_84 rfl (lv_at hl 0 rfl) ?_
    obtain ⟨t21, ht21, hf⟩ := xb hf
    refine x_getr S hw lk_Tokens_9 ht21 d_Tokens_closePattern_85 ?_
    obtain ⟨t22, ht22, hf⟩ := xb hf
    refine x_getr S hw lk_Tokens_27 ht22 d_Tokens_closePattern_88 ?_
    refine lv_iload_n S.1 S.2.1 d_Tokens_closePattern_91 rfl (lv_at hl 1 rfl) ?_
    obtain ⟨t23, ht23, hf⟩ := xb hf
    refine x_iald S hw ht23 d_Tokens_closePattern_92 ?_
    refine lv_bipush (v := 34) S.1 S.2.1 d_Tokens_closePattern_93 (by decide) ?_
    refine lv_icmp_ne (tgt := 115) S.1 S.2.1 d_Tokens_closePattern_95 (by decide) (fun c24 => ?_) (fun c24 => ?_)
    · replace hf := xf c24 hf
      refine lv_iconst (v := 0) S.1 S.2.1 d_Tokens_closePattern_115 (by decide) ?_
      obtain ⟨rfl, rfl⟩ := xe2 hf
      exact x_zret S hr hlocks hw (by decide) d_Tokens_closePattern_116
    · replace hf := xt c24 hf
      refine lv_iload_n S.1 S.2.1 d_Tokens_closePattern_98 rfl (lv_at hl 1 rfl) ?_
      refine lv_aload_n S.1 S.2.1 d_Tokens_closePattern_99 rfl (lv_at hl 0 rfl) ?_
      obtain ⟨t25, ht25, hf⟩ := xb hf
      refine x_geti S hw lk_Tokens_19 ht25 d_Tokens_closePattern_100 ?_
      refine lv_isub S.1 S.2.1 d_Tokens_closePattern_103 ?_
      refine lv_iconst (v := 1) S.1 S.2.1 d_Tokens_closePattern_104 (by decide) ?_
      refine lv_isub S.1 S.2.1 d_Tokens_closePattern_105 ?_
      refine lv_bipush (v := 40) S.1 S.2.1 d_Tokens_closePattern_106 (by decide) ?_
      refine lv_icmp_gt (tgt := 115) S.1 S.2.1 d_Tokens_closePattern_108 (by decide) (fun c26 => ?_) (fun c26 => ?_)
      · replace hf := xt c26 hf
        refine lv_iconst (v := 0) S.1 S.2.1 d_Tokens_closePattern_115 (by decide) ?_
        obtain ⟨rfl, rfl⟩ := xe2 hf
        exact x_zret S hr hlocks hw (by decide) d_Tokens_closePattern_116
      · replace hf := xf c26 hf
        refine lv_iconst (v := 1) S.1 S.2.1 d_Tokens_closePattern_111 (by decide) ?_
        refine lv_goto (tgt := 116) S.1 S.2.1 d_Tokens_closePattern_112 (by decide) ?_
        obtain ⟨rfl, rfl⟩ := xe2 hf
        exact x_zret S hr hlocks hw (by decide) d_Tokens_closePattern_116
def f_Tokens_closePattern_7 : Nat → Nat → Int32 → xS → Option (Int32 × xS)
  | 0, _, _, _ => none
  | n + 1, a0, x1, ω =>
    (xgr ω a0 10 0).bind fun t2 =>
    (xgi ω t2 9 1).bind fun t3 =>
    if t3 ≤ x1 then (
      f_Tokens_closePattern_66  a0 x1 ω)
    else (
      (xgr ω a0 10 0).bind fun t5 =>
      (xgr ω t5 9 0).bind fun t6 =>
      (xai ω t6 x1).bind fun t7 =>
      if t7 = 34 then (
        f_Tokens_closePattern_66  a0 x1 ω)
      else (
        (xgr ω a0 10 0).bind fun t9 =>
        (xgr ω t9 9 0).bind fun t10 =>
        (xai ω t10 x1).bind fun t11 =>
        if t11 < 33 then (
          f_Tokens_closePattern_66  a0 x1 ω)
        else (
          (xgr ω a0 10 0).bind fun t13 =>
          (xgr ω t13 9 0).bind fun t14 =>
          (xai ω t14 x1).bind fun t15 =>
          if 126 < t15 then (
            f_Tokens_closePattern_66  a0 x1 ω)
          else (
            f_Tokens_closePattern_7  n a0 (x1 + 1) ω))))
set_option maxHeartbeats 4000000 in
set_option maxRecDepth 100000 in
theorem w_Tokens_closePattern_7 {p : Program} {l : Launch} {e : Env} {s : State} {m : MethodId} {args : Array Value} {below : List Frame} {meth : Method} {c : Code} {E : xV} {z : Nat} {r : Int32} {ω1 : xS} (S : CallFix p m c b_Tokens_closePattern 2 s args xTbl "RosterRules$Tokens") (hr : meth.sig.returnType = (some .boolean)) (hlocks : meth.locks = false) : ∀ n : Nat, ∀ (a0 : Nat) (x1 : Int32) (ω : xS) (H : Heap) (locs : List Loc) (ls : Array Slot), xW E z ω s s.heap H locs → lv_has ls 2 [(0, .ref a0), (1, .int x1)] → f_Tokens_closePattern_7 n a0 x1 ω = some (r, ω1) → W p l e (headSpec ws_Tokens_closePattern { frames := 0, cells := 0, slots := 0, locals := 0 }).room s m args below meth c H locs 0 0 (MQ below (xQ E (some (.int r)) z ω1) args s 0 0 (fun q => E.2.2 ≤ q)) (F0 m 7 ls []) := by
  intro n
  induction n with
  | zero =>
    intro a0 x1 ω H locs ls hw hl hf
    have h2 : (none : Option (Int32 × xS)) = some (r, ω1) := hf
    cases h2
  | succ n ih =>
    intro a0 x1 ω H locs ls hw hl hf
    rw [f_Tokens_closePattern_7] at hf
    refine lv_iload_n S.1 S.2.1 d_Tokens_closePattern_7 rfl (lv_at hl 1 rfl) ?_
    refine lv_aload_n S.1 S.2.1 d_Tokens_closePattern_8 rfl (lv_at hl 0 rfl) ?_
    obtain ⟨t2, ht2, hf⟩ := xb hf
    refine x_getr S hw lk_Tokens_9 ht2 d_Tokens_closePattern_9 ?_
    obtain ⟨t3, ht3, hf⟩ := xb hf
    refine x_geti S hw lk_Tokens_22 ht3 d_Tokens_closePattern_12 ?_
    refine lv_icmp_ge (tgt := 66) S.1 S.2.1 d_Tokens_closePattern_15 (by decide) (fun c4 => ?_) (fun c4 => ?_)
    · replace hf := xt c4 hf
      exact w_Tokens_closePattern_66 S hr hlocks  _ _ _ _ _ _ hw (lv_sub hl [0, 1] rfl) hf
    · replace hf := xf c4 hf
      refine lv_aload_n S.1 S.2.1 d_Tokens_closePattern_18 rfl (lv_at hl 0 rfl) ?_
      obtain ⟨t5, ht5, hf⟩ := xb hf
      refine x_getr S hw lk_Tokens_9 ht5 d_Tokens_closePattern_19 ?_
      obtain ⟨t6, ht6, hf⟩ := xb hf
      refine x_getr S hw lk_Tokens_27 ht6 d_Tokens_closePattern_22 ?_
      refine lv_iload_n S.1 S.2.1 d_Tokens_closePattern_25 rfl (lv_at hl 1 rfl) ?_
      obtain ⟨t7, ht7, hf⟩ := xb hf
      refine x_iald S hw ht7 d_Tokens_closePattern_26 ?_
      refine lv_bipush (v := 34) S.1 S.2.1 d_Tokens_closePattern_27 (by decide) ?_
      refine lv_icmp_eq (tgt := 66) S.1 S.2.1 d_Tokens_closePattern_29 (by decide) (fun c8 => ?_) (fun c8 => ?_)
      · replace hf := xt c8 hf
        exact w_Tokens_closePattern_66 S hr hlocks  _ _ _ _ _ _ hw (lv_sub hl [0, 1] rfl) hf
      · replace hf := xf c8 hf
        refine lv_aload_n S.1 S.2.1 d_Tokens_closePattern_32 rfl (lv_at hl 0 rfl) ?_
        obtain ⟨t9, ht9, hf⟩ := xb hf
        refine x_getr S hw lk_Tokens_9 ht9 d_Tokens_closePattern_33 ?_
        obtain ⟨t10, ht10, hf⟩ := xb hf
        refine x_getr S hw lk_Tokens_27 ht10 d_Tokens_closePattern_36 ?_
        refine lv_iload_n S.1 S.2.1 d_Tokens_closePattern_39 rfl (lv_at hl 1 rfl) ?_
        obtain ⟨t11, ht11, hf⟩ := xb hf
        refine x_iald S hw ht11 d_Tokens_closePattern_40 ?_
        refine lv_bipush (v := 33) S.1 S.2.1 d_Tokens_closePattern_41 (by decide) ?_
        refine lv_icmp_lt (tgt := 66) S.1 S.2.1 d_Tokens_closePattern_43 (by decide) (fun c12 => ?_) (fun c12 => ?_)
        · replace hf := xt c12 hf
          exact w_Tokens_closePattern_66 S hr hlocks  _ _ _ _ _ _ hw (lv_sub hl [0, 1] rfl) hf
        · replace hf := xf c12 hf
          refine lv_aload_n S.1 S.2.1 d_Tokens_closePattern_46 rfl (lv_at hl 0 rfl) ?_
          obtain ⟨t13, ht13, hf⟩ := xb hf
          refine x_getr S hw lk_Tokens_9 ht13 d_Tokens_closePattern_47 ?_
          obtain ⟨t14, ht14, hf⟩ := xb hf
          refine x_getr S hw lk_Tokens_27 ht14 d_Tokens_closePattern_50 ?_
          refine lv_iload_n S.1 S.2.1 d_Tokens_closePattern_53 rfl (lv_at hl 1 rfl) ?_
          obtain ⟨t15, ht15, hf⟩ := xb hf
          refine x_iald S hw ht15 d_Tokens_closePattern_54 ?_
          refine lv_bipush (v := 126) S.1 S.2.1 d_Tokens_closePattern_55 (by decide) ?_
          refine lv_icmp_gt (tgt := 66) S.1 S.2.1 d_Tokens_closePattern_57 (by decide) (fun c16 => ?_) (fun c16 => ?_)
          · replace hf := xt c16 hf
            exact w_Tokens_closePattern_66 S hr hlocks  _ _ _ _ _ _ hw (lv_sub hl [0, 1] rfl) hf
          · replace hf := xf c16 hf
            refine lv_iinc (v := (x1 + 1)) (lv' := [(1, .int (x1 + 1)), (0, .ref a0)]) S.1 S.2.1 d_Tokens_closePattern_60 hl (k := 1) rfl rfl (by decide) rfl (fun ls hl => ?_)
            refine lv_goto (tgt := 7) S.1 S.2.1 d_Tokens_closePattern_63 (by decide) ?_
            exact ih _ _ _ _ _ _ hw (lv_sub hl [1, 0] rfl) hf
def f_Tokens_closePattern (a0 : Nat) (ω : xS) : Option (Int32 × xS) :=
  (xgi ω a0 10 2).bind fun t1 =>
  f_Tokens_closePattern_7  xFU a0 (t1 + 1) ω
set_option maxHeartbeats 4000000 in
set_option maxRecDepth 100000 in
theorem c_Tokens_closePattern {l : Launch} {E : xV} {z : Nat} {a0 : Nat} {r : Int32} {ω1 : xS} {ω : xS} (hf : f_Tokens_closePattern a0 ω = some (r, ω1)) : xM l E y_Tokens_closePattern ws_Tokens_closePattern { frames := 0, cells := 0, slots := 0, locals := 0 } [.ref a0] z ω (some (.int r)) z ω1 := by
  refine x_start (cc := b_Tokens_closePattern) (maxL := 2) (ret := (some .boolean)) (by decide) rfl (Nat.le_of_ble_eq_true rfl) ?_
  intro p e s m below meth c S hr hlocks hin ls hl hw
  have hl : lv_has ls 2 [(0, .ref a0)] := hl
  unfold f_Tokens_closePattern at hf
  refine lv_aload_n S.1 S.2.1 d_Tokens_closePattern_0 rfl (lv_at hl 0 rfl) ?_
  obtain ⟨t1, ht1, hf⟩ := xb hf
  refine x_geti S hw lk_Tokens_19 ht1 d_Tokens_closePattern_1 ?_
  refine lv_iconst (v := 1) S.1 S.2.1 d_Tokens_closePattern_4 (by decide) ?_
  refine lv_iadd S.1 S.2.1 d_Tokens_closePattern_5 ?_
  refine lv_istore_n (lv' := [(1, .int (t1 + 1)), (0, .ref a0)]) S.1 S.2.1 d_Tokens_closePattern_6 rfl hl (by decide) rfl (fun ls hl => ?_)
  exact w_Tokens_closePattern_7 S hr hlocks  _ _ _ _ _ _ _ hw (lv_sub hl [1, 0] rfl) hf
def f_Tokens_kindFrom_69 (a0 : Nat) (x1 : Int32) (ω : xS) : Option (Int32 × xS) :=
  if x1 < 48 then (
    if x1 = 34 then (
      xc (xk ω a0 10 (f_Tokens_closePattern a0  ω)) fun t16 w17 =>
      if t16 = 0 then (
        some (0, w17))
      else (
        some (4, w17)))
    else (
      some (0, ω)))
  else (
    if 57 < x1 then (
      if x1 = 34 then (
        xc (xk ω a0 10 (f_Tokens_closePattern a0  ω)) fun t22 w23 =>
        if t22 = 0 then (
          some (0, w23))
        else (
          some (4, w23)))
      else (
        some (0, ω)))
    else (
      (xk ω a0 10 (f_Tokens_runEnd a0 48 57 ω)).bind fun t26 =>
      (xp ω a0 10 3 (.int t26)).bind fun w27 =>
      (xgi w27 a0 10 3).bind fun t28 =>
      (xgi w27 a0 10 2).bind fun t29 =>
      if 6 < (t28 - t29) then (
        some (0, w27))
      else (
        some (3, w27))))
set_option maxHeartbeats 4000000 in
set_option maxRecDepth 100000 in
theorem w_Tokens_kindFrom_69 {p : Program} {l : Launch} {e : Env} {s : State} {m : MethodId} {args : Array Value} {below : List Frame} {meth : Method} {c : Code} {E : xV} {z : Nat} {r : Int32} {ω1 : xS} (S : CallFix p m c b_Tokens_kindFrom 2 s args xTbl "RosterRules$Tokens") (hr : meth.sig.returnType = (some .int)) (hlocks : meth.locks = false) : ∀ (a0 : Nat) (x1 : Int32) (ω : xS) (H : Heap) (locs : List Loc) (ls : Array Slot), xW E z ω s s.heap H locs → lv_has ls 2 [(0, .ref a0), (1, .int x1)] → f_Tokens_kindFrom_69 a0 x1 ω = some (r, ω1) → W p l e (headSpec ws_Tokens_kindFrom { frames := 1, cells := 0, slots := 0, locals := 23 }).room s m args below meth c H locs 0 0 (MQ below (xQ E (some (.int r)) z ω1) args s 0 0 (fun q => E.2.2 ≤ q)) (F0 m 69 ls []) := by
  intro a0 x1 ω H locs ls hw hl hf
  unfold f_Tokens_kindFrom_69 at hf
  refine lv_iload_n S.1 S.2.1 d_Tokens_kindFrom_69 rfl (lv_at hl 1 rfl) ?_
  refine lv_bipush (v := 48) S.1 S.2.1 d_Tokens_kindFrom_70 (by decide) ?_
  refine lv_icmp_lt (tgt := 113) S.1 S.2.1 d_Tokens_kindFrom_72 (by decide) (fun c13 => ?_) (fun c13 => ?_)
  · replace hf := xt c13 hf
    refine lv_iload_n S.1 S.2.1 d_Tokens_kindFrom_113 rfl (lv_at hl 1 rfl) ?_
    refine lv_bipush (v := 34) S.1 S.2.1 d_Tokens_kindFrom_114 (by decide) ?_
    refine lv_icmp_ne (tgt := 130) S.1 S.2.1 d_Tokens_kindFrom_116 (by decide) (fun c14 => ?_) (fun c14 => ?_)
    · replace hf := xf c14 hf
      refine lv_iconst (v := 0) S.1 S.2.1 d_Tokens_kindFrom_130 (by decide) ?_
      obtain ⟨rfl, rfl⟩ := xe2 hf
      exact x_iret S hr hlocks hw d_Tokens_kindFrom_131
    · replace hf := xt c14 hf
      refine lv_aload_n S.1 S.2.1 d_Tokens_kindFrom_119 rfl (lv_at hl 0 rfl) ?_
      obtain ⟨t16, w17, h15, hf⟩ := xcb hf
      obtain ⟨h15b, h15⟩ := xkb h15
      refine x_callV (As := []) (rest := []) (st1 := [.int t16]) S hw (c_Tokens_closePattern h15) (cwV 0 S.2.2.2.2 gv_Tokens_45 rfl rfl rfl hd_Tokens_closePattern ⟨Nat.le_of_ble_eq_true rfl, Nat.le_of_ble_eq_true rfl⟩) rfl h15b rfl hl.1 rfl rfl (Nat.le_of_ble_eq_true rfl) d_Tokens_kindFrom_120 ⟨Nat.le_of_ble_eq_true rfl, Nat.le_of_ble_eq_true rfl⟩ (fun H locs hw => ?_)
      refine lv_if_eq (tgt := 130) S.1 S.2.1 d_Tokens_kindFrom_123 (by decide) (fun c18 => ?_) (fun c18 => ?_)
      · replace hf := xt c18 hf
        refine lv_iconst (v := 0) S.1 S.2.1 d_Tokens_kindFrom_130 (by decide) ?_
        obtain ⟨rfl, rfl⟩ := xe2 hf
        exact x_iret S hr hlocks hw d_Tokens_kindFrom_131
      · replace hf := xf c18 hf
        refine lv_iconst (v := 4) S.1 S.2.1 d_Tokens_kindFrom_126 (by decide) ?_
        refine lv_goto (tgt := 131) S.1 S.2.1 d_Tokens_kindFrom_127 (by decide) ?_
        obtain ⟨rfl, rfl⟩ := xe2 hf
        exact x_iret S hr hlocks hw d_Tokens_kindFrom_131
  · replace hf := xf c13 hf
    refine lv_iload_n S.1 S.2.1 d_Tokens_kindFrom_75 rfl (lv_at hl 1 rfl) ?_
    refine lv_bipush (v := 57) S.1 S.2.1 d_Tokens_kindFrom_76 (by decide) ?_
    refine lv_icmp_gt (tgt := 113) S.1 S.2.1 d_Tokens_kindFrom_78 (by decide) (fun c19 => ?_) (fun c19 => ?_)
    · replace hf := xt c19 hf
      refine lv_iload_n S.1 S.2.1 d_Tokens_kindFrom_113 rfl (lv_at hl 1 rfl) ?_
      refine lv_bipush (v := 34) S.1 S.2.1 d_Tokens_kindFrom_114 (by decide) ?_
      refine lv_icmp_ne (tgt := 130) S.1 S.2.1 d_Tokens_kindFrom_116 (by decide) (fun c20 => ?_) (fun c20 => ?_)
      · replace hf := xf c20 hf
        refine lv_iconst (v := 0) S.1 S.2.1 d_Tokens_kindFrom_130 (by decide) ?_
        obtain ⟨rfl, rfl⟩ := xe2 hf
        exact x_iret S hr hlocks hw d_Tokens_kindFrom_131
      · replace hf := xt c20 hf
        refine lv_aload_n S.1 S.2.1 d_Tokens_kindFrom_119 rfl (lv_at hl 0 rfl) ?_
        obtain ⟨t22, w23, h21, hf⟩ := xcb hf
        obtain ⟨h21b, h21⟩ := xkb h21
        refine x_callV (As := []) (rest := []) (st1 := [.int t22]) S hw (c_Tokens_closePattern h21) (cwV 0 S.2.2.2.2 gv_Tokens_45 rfl rfl rfl hd_Tokens_closePattern ⟨Nat.le_of_ble_eq_true rfl, Nat.le_of_ble_eq_true rfl⟩) rfl h21b rfl hl.1 rfl rfl (Nat.le_of_ble_eq_true rfl) d_Tokens_kindFrom_120 ⟨Nat.le_of_ble_eq_true rfl, Nat.le_of_ble_eq_true rfl⟩ (fun H locs hw => ?_)
        refine lv_if_eq (tgt := 130) S.1 S.2.1 d_Tokens_kindFrom_123 (by decide) (fun c24 => ?_) (fun c24 => ?_)
        · replace hf := xt c24 hf
          refine lv_iconst (v := 0) S.1 S.2.1 d_Tokens_kindFrom_130 (by decide) ?_
          obtain ⟨rfl, rfl⟩ := xe2 hf
          exact x_iret S hr hlocks hw d_Tokens_kindFrom_131
        · replace hf := xf c24 hf
          refine lv_iconst (v := 4) S.1 S.2.1 d_Tokens_kindFrom_126 (by decide) ?_
          refine lv_goto (tgt := 131) S.1 S.2.1 d_Tokens_kindFrom_127 (by decide) ?_
          obtain ⟨rfl, rfl⟩ := xe2 hf
          exact x_iret S hr hlocks hw d_Tokens_kindFrom_131
    · replace hf := xf c19 hf
      refine lv_aload_n S.1 S.2.1 d_Tokens_kindFrom_81 rfl (lv_at hl 0 rfl) ?_
      refine lv_aload_n S.1 S.2.1 d_Tokens_kindFrom_82 rfl (lv_at hl 0 rfl) ?_
      refine lv_bipush (v := 48) S.1 S.2.1 d_Tokens_kindFrom_83 (by decide) ?_
      refine lv_bipush (v := 57) S.1 S.2.1 d_Tokens_kindFrom_85 (by decide) ?_
      obtain ⟨t26, h25, hf⟩ := xb hf
      obtain ⟨h25b, h25⟩ := xkb h25
      refine x_callV (As := [.int 48, .int 57]) (rest := [.ref a0]) (st1 := [.int t26, .ref a0]) S hw (c_Tokens_runEnd h25) (cwV 2 S.2.2.2.2 gv_Tokens_41 rfl rfl rfl hd_Tokens_runEnd ⟨Nat.le_of_ble_eq_true rfl, Nat.le_of_ble_eq_true rfl⟩) rfl h25b rfl hl.1 rfl rfl (Nat.le_of_ble_eq_true rfl) d_Tokens_kindFrom_87 ⟨Nat.le_of_ble_eq_true rfl, Nat.le_of_ble_eq_true rfl⟩ (fun H locs hw => ?_)
      obtain ⟨w27, hw27, hf⟩ := xb hf
      refine x_puti S hw lp_Tokens_15 hw27 d_Tokens_kindFrom_90 (fun H locs hw => ?_)
      refine lv_aload_n S.1 S.2.1 d_Tokens_kindFrom_93 rfl (lv_at hl 0 rfl) ?_
      obtain ⟨t28, ht28, hf⟩ := xb hf
      refine x_geti S hw lk_Tokens_15 ht28 d_Tokens_kindFrom_94 ?_
      refine lv_aload_n S.1 S.2.1 d_Tokens_kindFrom_97 rfl (lv_at hl 0 rfl) ?_
      obtain ⟨t29, ht29, hf⟩ := xb hf
      refine x_geti S hw lk_Tokens_19 ht29 d_Tokens_kindFrom_98 ?_
      refine lv_isub S.1 S.2.1 d_Tokens_kindFrom_101 ?_
      refine lv_bipush (v := 6) S.1 S.2.1 d_Tokens_kindFrom_102 (by decide) ?_
      refine lv_icmp_gt (tgt := 111) S.1 S.2.1 d_Tokens_kindFrom_104 (by decide) (fun c30 => ?_) (fun c30 => ?_)
      · replace hf := xt c30 hf
        refine lv_iconst (v := 0) S.1 S.2.1 d_Tokens_kindFrom_111 (by decide) ?_
        obtain ⟨rfl, rfl⟩ := xe2 hf
        exact x_iret S hr hlocks hw d_Tokens_kindFrom_112
      · replace hf := xf c30 hf
        refine lv_iconst (v := 3) S.1 S.2.1 d_Tokens_kindFrom_107 (by decide) ?_
        refine lv_goto (tgt := 112) S.1 S.2.1 d_Tokens_kindFrom_108 (by decide) ?_
        obtain ⟨rfl, rfl⟩ := xe2 hf
        exact x_iret S hr hlocks hw d_Tokens_kindFrom_112
def f_Tokens_kindFrom (a0 : Nat) (x1 : Int32) (ω : xS) : Option (Int32 × xS) :=
  if x1 = (-1) then (
    some (1, ω))
  else (
    if x1 = 59 then (
      (xgi ω a0 10 2).bind fun t11 =>
      (xp ω a0 10 3 (.int (t11 + 1))).bind fun w12 =>
      some (5, w12))
    else (
      if x1 < 97 then (
        f_Tokens_kindFrom_69  a0 x1 ω)
      else (
        if 122 < x1 then (
          f_Tokens_kindFrom_69  a0 x1 ω)
        else (
          (xk ω a0 10 (f_Tokens_runEnd a0 97 122 ω)).bind fun t6 =>
          (xp ω a0 10 3 (.int t6)).bind fun w7 =>
          (xgi w7 a0 10 3).bind fun t8 =>
          (xgi w7 a0 10 2).bind fun t9 =>
          if 8 < (t8 - t9) then (
            some (0, w7))
          else (
            some (2, w7))))))
set_option maxHeartbeats 4000000 in
set_option maxRecDepth 100000 in
theorem c_Tokens_kindFrom {l : Launch} {E : xV} {z : Nat} {a0 : Nat} {x1 : Int32} {r : Int32} {ω1 : xS} {ω : xS} (hf : f_Tokens_kindFrom a0 x1 ω = some (r, ω1)) : xM l E y_Tokens_kindFrom ws_Tokens_kindFrom { frames := 1, cells := 0, slots := 0, locals := 23 } [.ref a0, .int x1] z ω (some (.int r)) z ω1 := by
  refine x_start (cc := b_Tokens_kindFrom) (maxL := 2) (ret := (some .int)) (by decide) rfl (Nat.le_of_ble_eq_true rfl) ?_
  intro p e s m below meth c S hr hlocks hin ls hl hw
  have hl : lv_has ls 2 [(0, .ref a0), (1, .int x1)] := hl
  unfold f_Tokens_kindFrom at hf
  refine lv_iload_n S.1 S.2.1 d_Tokens_kindFrom_0 rfl (lv_at hl 1 rfl) ?_
  refine lv_iconst (v := (-1)) S.1 S.2.1 d_Tokens_kindFrom_1 (by decide) ?_
  refine lv_icmp_ne (tgt := 7) S.1 S.2.1 d_Tokens_kindFrom_2 (by decide) (fun c1 => ?_) (fun c1 => ?_)
  · replace hf := xf c1 hf
    refine lv_iload_n S.1 S.2.1 d_Tokens_kindFrom_7 rfl (lv_at hl 1 rfl) ?_
    refine lv_bipush (v := 59) S.1 S.2.1 d_Tokens_kindFrom_8 (by decide) ?_
    refine lv_icmp_ne (tgt := 25) S.1 S.2.1 d_Tokens_kindFrom_10 (by decide) (fun c2 => ?_) (fun c2 => ?_)
    · replace hf := xf c2 hf
      refine lv_iload_n S.1 S.2.1 d_Tokens_kindFrom_25 rfl (lv_at hl 1 rfl) ?_
      refine lv_bipush (v := 97) S.1 S.2.1 d_Tokens_kindFrom_26 (by decide) ?_
      refine lv_icmp_lt (tgt := 69) S.1 S.2.1 d_Tokens_kindFrom_28 (by decide) (fun c3 => ?_) (fun c3 => ?_)
      · replace hf := xt c3 hf
        exact w_Tokens_kindFrom_69 S hr hlocks  _ _ _ _ _ _ hw (lv_sub hl [0, 1] rfl) hf
      · replace hf := xf c3 hf
        refine lv_iload_n S.1 S.2.1 d_Tokens_kindFrom_31 rfl (lv_at hl 1 rfl) ?_
        refine lv_bipush (v := 122) S.1 S.2.1 d_Tokens_kindFrom_32 (by decide) ?_
        refine lv_icmp_gt (tgt := 69) S.1 S.2.1 d_Tokens_kindFrom_34 (by decide) (fun c4 => ?_) (fun c4 => ?_)
        · replace hf := xt c4 hf
          exact w_Tokens_kindFrom_69 S hr hlocks  _ _ _ _ _ _ hw (lv_sub hl [0, 1] rfl) hf
        · replace hf := xf c4 hf
          refine lv_aload_n S.1 S.2.1 d_Tokens_kindFrom_37 rfl (lv_at hl 0 rfl) ?_
          refine lv_aload_n S.1 S.2.1 d_Tokens_kindFrom_38 rfl (lv_at hl 0 rfl) ?_
          refine lv_bipush (v := 97) S.1 S.2.1 d_Tokens_kindFrom_39 (by decide) ?_
          refine lv_bipush (v := 122) S.1 S.2.1 d_Tokens_kindFrom_41 (by decide) ?_
          obtain ⟨t6, h5, hf⟩ := xb hf
          obtain ⟨h5b, h5⟩ := xkb h5
          refine x_callV (As := [.int 97, .int 122]) (rest := [.ref a0]) (st1 := [.int t6, .ref a0]) S hw (c_Tokens_runEnd h5) (cwV 2 S.2.2.2.2 gv_Tokens_41 rfl rfl rfl hd_Tokens_runEnd ⟨Nat.le_of_ble_eq_true rfl, Nat.le_of_ble_eq_true rfl⟩) rfl h5b rfl hl.1 rfl rfl (Nat.le_of_ble_eq_true rfl) d_Tokens_kindFrom_43 ⟨Nat.le_of_ble_eq_true rfl, Nat.le_of_ble_eq_true rfl⟩ (fun H locs hw => ?_)
          obtain ⟨w7, hw7, hf⟩ := xb hf
          refine x_puti S hw lp_Tokens_15 hw7 d_Tokens_kindFrom_46 (fun H locs hw => ?_)
          refine lv_aload_n S.1 S.2.1 d_Tokens_kindFrom_49 rfl (lv_at hl 0 rfl) ?_
          obtain ⟨t8, ht8, hf⟩ := xb hf
          refine x_geti S hw lk_Tokens_15 ht8 d_Tokens_kindFrom_50 ?_
          refine lv_aload_n S.1 S.2.1 d_Tokens_kindFrom_53 rfl (lv_at hl 0 rfl) ?_
          obtain ⟨t9, ht9, hf⟩ := xb hf
          refine x_geti S hw lk_Tokens_19 ht9 d_Tokens_kindFrom_54 ?_
          refine lv_isub S.1 S.2.1 d_Tokens_kindFrom_57 ?_
          refine lv_bipush (v := 8) S.1 S.2.1 d_Tokens_kindFrom_58 (by decide) ?_
          refine lv_icmp_gt (tgt := 67) S.1 S.2.1 d_Tokens_kindFrom_60 (by decide) (fun c10 => ?_) (fun c10 => ?_)
          · replace hf := xt c10 hf
            refine lv_iconst (v := 0) S.1 S.2.1 d_Tokens_kindFrom_67 (by decide) ?_
            obtain ⟨rfl, rfl⟩ := xe2 hf
            exact x_iret S hr hlocks hw d_Tokens_kindFrom_68
          · replace hf := xf c10 hf
            refine lv_iconst (v := 2) S.1 S.2.1 d_Tokens_kindFrom_63 (by decide) ?_
            refine lv_goto (tgt := 68) S.1 S.2.1 d_Tokens_kindFrom_64 (by decide) ?_
            obtain ⟨rfl, rfl⟩ := xe2 hf
            exact x_iret S hr hlocks hw d_Tokens_kindFrom_68
    · replace hf := xt c2 hf
      refine lv_aload_n S.1 S.2.1 d_Tokens_kindFrom_13 rfl (lv_at hl 0 rfl) ?_
      refine lv_aload_n S.1 S.2.1 d_Tokens_kindFrom_14 rfl (lv_at hl 0 rfl) ?_
      obtain ⟨t11, ht11, hf⟩ := xb hf
      refine x_geti S hw lk_Tokens_19 ht11 d_Tokens_kindFrom_15 ?_
      refine lv_iconst (v := 1) S.1 S.2.1 d_Tokens_kindFrom_18 (by decide) ?_
      refine lv_iadd S.1 S.2.1 d_Tokens_kindFrom_19 ?_
      obtain ⟨w12, hw12, hf⟩ := xb hf
      refine x_puti S hw lp_Tokens_15 hw12 d_Tokens_kindFrom_20 (fun H locs hw => ?_)
      refine lv_iconst (v := 5) S.1 S.2.1 d_Tokens_kindFrom_23 (by decide) ?_
      obtain ⟨rfl, rfl⟩ := xe2 hf
      exact x_iret S hr hlocks hw d_Tokens_kindFrom_24
  · replace hf := xt c1 hf
    refine lv_iconst (v := 1) S.1 S.2.1 d_Tokens_kindFrom_5 (by decide) ?_
    obtain ⟨rfl, rfl⟩ := xe2 hf
    exact x_iret S hr hlocks hw d_Tokens_kindFrom_6
def f_Tokens_advance_69 (a0 : Nat) (ω : xS) : Option (Int32 × xS) :=
  (xgi ω a0 10 2).bind fun t21 =>
  (xp ω a0 10 3 (.int t21)).bind fun w22 =>
  (xgr w22 a0 10 0).bind fun t23 =>
  (xgi w22 a0 10 2).bind fun t24 =>
  (xk w22 t23 9 (f_Tape_byteAt t23 t24 w22)).bind fun t26 =>
  xc (xk w22 a0 10 (f_Tokens_kindFrom a0 t26 w22)) fun t28 w29 =>
  (xp w29 a0 10 1 (.int t28)).bind fun w30 =>
  (xgi w30 a0 10 1).bind fun t31 =>
  some (t31, w30)
set_option maxHeartbeats 4000000 in
set_option maxRecDepth 100000 in
theorem w_Tokens_advance_69 {p : Program} {l : Launch} {e : Env} {s : State} {m : MethodId} {args : Array Value} {below : List Frame} {meth : Method} {c : Code} {E : xV} {z : Nat} {r : Int32} {ω1 : xS} (S : CallFix p m c b_Tokens_advance 1 s args xTbl "RosterRules$Tokens") (hr : meth.sig.returnType = (some .int)) (hlocks : meth.locks = false) : ∀ (a0 : Nat) (ω : xS) (H : Heap) (locs : List Loc) (ls : Array Slot), xW E z ω s s.heap H locs → lv_has ls 1 [(0, .ref a0)] → f_Tokens_advance_69 a0 ω = some (r, ω1) → W p l e (headSpec ws_Tokens_advance { frames := 2, cells := 0, slots := 0, locals := 44 }).room s m args below meth c H locs 0 0 (MQ below (xQ E (some (.int r)) z ω1) args s 0 0 (fun q => E.2.2 ≤ q)) (F0 m 69 ls []) := by
  intro a0 ω H locs ls hw hl hf
  unfold f_Tokens_advance_69 at hf
  refine lv_aload_n S.1 S.2.1 d_Tokens_advance_69 rfl (lv_at hl 0 rfl) ?_
  refine lv_aload_n S.1 S.2.1 d_Tokens_advance_70 rfl (lv_at hl 0 rfl) ?_
  obtain ⟨t21, ht21, hf⟩ := xb hf
  refine x_geti S hw lk_Tokens_19 ht21 d_Tokens_advance_71 ?_
  obtain ⟨w22, hw22, hf⟩ := xb hf
  refine x_puti S hw lp_Tokens_15 hw22 d_Tokens_advance_74 (fun H locs hw => ?_)
  refine lv_aload_n S.1 S.2.1 d_Tokens_advance_77 rfl (lv_at hl 0 rfl) ?_
  refine lv_aload_n S.1 S.2.1 d_Tokens_advance_78 rfl (lv_at hl 0 rfl) ?_
  refine lv_aload_n S.1 S.2.1 d_Tokens_advance_79 rfl (lv_at hl 0 rfl) ?_
  obtain ⟨t23, ht23, hf⟩ := xb hf
  refine x_getr S hw lk_Tokens_9 ht23 d_Tokens_advance_80 ?_
  refine lv_aload_n S.1 S.2.1 d_Tokens_advance_83 rfl (lv_at hl 0 rfl) ?_
  obtain ⟨t24, ht24, hf⟩ := xb hf
  refine x_geti S hw lk_Tokens_19 ht24 d_Tokens_advance_84 ?_
  obtain ⟨t26, h25, hf⟩ := xb hf
  obtain ⟨h25b, h25⟩ := xkb h25
  refine x_callV (As := [.int t24]) (rest := [.ref a0, .ref a0]) (st1 := [.int t26, .ref a0, .ref a0]) S hw (c_Tape_byteAt h25) (cwV 1 S.2.2.2.2 gv_Tokens_31 rfl rfl rfl hd_Tape_byteAt ⟨Nat.le_of_ble_eq_true rfl, Nat.le_of_ble_eq_true rfl⟩) rfl h25b rfl hl.1 rfl rfl (Nat.le_of_ble_eq_true rfl) d_Tokens_advance_87 ⟨Nat.le_of_ble_eq_true rfl, Nat.le_of_ble_eq_true rfl⟩ (fun H locs hw => ?_)
  obtain ⟨t28, w29, h27, hf⟩ := xcb hf
  obtain ⟨h27b, h27⟩ := xkb h27
  refine x_callV (As := [.int t26]) (rest := [.ref a0]) (st1 := [.int t28, .ref a0]) S hw (c_Tokens_kindFrom h27) (cwV 1 S.2.2.2.2 gv_Tokens_35 rfl rfl rfl hd_Tokens_kindFrom ⟨Nat.le_of_ble_eq_true rfl, Nat.le_of_ble_eq_true rfl⟩) rfl h27b rfl hl.1 rfl rfl (Nat.le_of_ble_eq_true rfl) d_Tokens_advance_90 ⟨Nat.le_of_ble_eq_true rfl, Nat.le_of_ble_eq_true rfl⟩ (fun H locs hw => ?_)
  obtain ⟨w30, hw30, hf⟩ := xb hf
  refine x_puti S hw lp_Tokens_38 hw30 d_Tokens_advance_93 (fun H locs hw => ?_)
  refine lv_aload_n S.1 S.2.1 d_Tokens_advance_96 rfl (lv_at hl 0 rfl) ?_
  obtain ⟨t31, ht31, hf⟩ := xb hf
  refine x_geti S hw lk_Tokens_38 ht31 d_Tokens_advance_97 ?_
  obtain ⟨rfl, rfl⟩ := xe2 hf
  exact x_iret S hr hlocks hw d_Tokens_advance_100
def f_Tokens_advance_8 : Nat → Nat → xS → Option (Int32 × xS)
  | 0, _, _ => none
  | n + 1, a0, ω =>
    (xgi ω a0 10 2).bind fun t3 =>
    (xgr ω a0 10 0).bind fun t4 =>
    (xgi ω t4 9 1).bind fun t5 =>
    if t5 ≤ t3 then (
      f_Tokens_advance_69  a0 ω)
    else (
      (xgr ω a0 10 0).bind fun t7 =>
      (xgr ω t7 9 0).bind fun t8 =>
      (xgi ω a0 10 2).bind fun t9 =>
      (xai ω t8 t9).bind fun t10 =>
      if t10 = 10 then (
        (xgi ω a0 10 2).bind fun t12 =>
        (xp ω a0 10 2 (.int (t12 + 1))).bind fun w13 =>
        f_Tokens_advance_8  n a0 w13)
      else (
        (xgr ω a0 10 0).bind fun t14 =>
        (xgr ω t14 9 0).bind fun t15 =>
        (xgi ω a0 10 2).bind fun t16 =>
        (xai ω t15 t16).bind fun t17 =>
        if t17 = 32 then (
          (xgi ω a0 10 2).bind fun t19 =>
          (xp ω a0 10 2 (.int (t19 + 1))).bind fun w20 =>
          f_Tokens_advance_8  n a0 w20)
        else (
          f_Tokens_advance_69  a0 ω)))
set_option maxHeartbeats 4000000 in
set_option maxRecDepth 100000 in
theorem w_Tokens_advance_8 {p : Program} {l : Launch} {e : Env} {s : State} {m : MethodId} {args : Array Value} {below : List Frame} {meth : Method} {c : Code} {E : xV} {z : Nat} {r : Int32} {ω1 : xS} (S : CallFix p m c b_Tokens_advance 1 s args xTbl "RosterRules$Tokens") (hr : meth.sig.returnType = (some .int)) (hlocks : meth.locks = false) : ∀ n : Nat, ∀ (a0 : Nat) (ω : xS) (H : Heap) (locs : List Loc) (ls : Array Slot), xW E z ω s s.heap H locs → lv_has ls 1 [(0, .ref a0)] → f_Tokens_advance_8 n a0 ω = some (r, ω1) → W p l e (headSpec ws_Tokens_advance { frames := 2, cells := 0, slots := 0, locals := 44 }).room s m args below meth c H locs 0 0 (MQ below (xQ E (some (.int r)) z ω1) args s 0 0 (fun q => E.2.2 ≤ q)) (F0 m 8 ls []) := by
  intro n
  induction n with
  | zero =>
    intro a0 ω H locs ls hw hl hf
    have h2 : (none : Option (Int32 × xS)) = some (r, ω1) := hf
    cases h2
  | succ n ih =>
    intro a0 ω H locs ls hw hl hf
    rw [f_Tokens_advance_8] at hf
    refine lv_aload_n S.1 S.2.1 d_Tokens_advance_8 rfl (lv_at hl 0 rfl) ?_
    obtain ⟨t3, ht3, hf⟩ := xb hf
    refine x_geti S hw lk_Tokens_19 ht3 d_Tokens_advance_9 ?_
    refine lv_aload_n S.1 S.2.1 d_Tokens_advance_12 rfl (lv_at hl 0 rfl) ?_
    obtain ⟨t4, ht4, hf⟩ := xb hf
    refine x_getr S hw lk_Tokens_9 ht4 d_Tokens_advance_13 ?_
    obtain ⟨t5, ht5, hf⟩ := xb hf
    refine x_geti S hw lk_Tokens_22 ht5 d_Tokens_advance_16 ?_
    refine lv_icmp_ge (tgt := 69) S.1 S.2.1 d_Tokens_advance_19 (by decide) (fun c6 => ?_) (fun c6 => ?_)
    · replace hf := xt c6 hf
      exact w_Tokens_advance_69 S hr hlocks  _ _ _ _ _ hw (lv_sub hl [0] rfl) hf
    · replace hf := xf c6 hf
      refine lv_aload_n S.1 S.2.1 d_Tokens_advance_22 rfl (lv_at hl 0 rfl) ?_
      obtain ⟨t7, ht7, hf⟩ := xb hf
      refine x_getr S hw lk_Tokens_9 ht7 d_Tokens_advance_23 ?_
      obtain ⟨t8, ht8, hf⟩ := xb hf
      refine x_getr S hw lk_Tokens_27 ht8 d_Tokens_advance_26 ?_
      refine lv_aload_n S.1 S.2.1 d_Tokens_advance_29 rfl (lv_at hl 0 rfl) ?_
      obtain ⟨t9, ht9, hf⟩ := xb hf
      refine x_geti S hw lk_Tokens_19 ht9 d_Tokens_advance_30 ?_
      obtain ⟨t10, ht10, hf⟩ := xb hf
      refine x_iald S hw ht10 d_Tokens_advance_33 ?_
      refine lv_bipush (v := 10) S.1 S.2.1 d_Tokens_advance_34 (by decide) ?_
      refine lv_icmp_eq (tgt := 56) S.1 S.2.1 d_Tokens_advance_36 (by decide) (fun c11 => ?_) (fun c11 => ?_)
      · replace hf := xt c11 hf
        refine lv_aload_n S.1 S.2.1 d_Tokens_advance_56 rfl (lv_at hl 0 rfl) ?_
        refine lv_dup S.1 S.2.1 d_Tokens_advance_57 rfl ?_
        obtain ⟨t12, ht12, hf⟩ := xb hf
        refine x_geti S hw lk_Tokens_19 ht12 d_Tokens_advance_58 ?_
        refine lv_iconst (v := 1) S.1 S.2.1 d_Tokens_advance_61 (by decide) ?_
        refine lv_iadd S.1 S.2.1 d_Tokens_advance_62 ?_
        obtain ⟨w13, hw13, hf⟩ := xb hf
        refine x_puti S hw lp_Tokens_19 hw13 d_Tokens_advance_63 (fun H locs hw => ?_)
        refine lv_goto (tgt := 8) S.1 S.2.1 d_Tokens_advance_66 (by decide) ?_
        exact ih _ _ _ _ _ hw (lv_sub hl [0] rfl) hf
      · replace hf := xf c11 hf
        refine lv_aload_n S.1 S.2.1 d_Tokens_advance_39 rfl (lv_at hl 0 rfl) ?_
        obtain ⟨t14, ht14, hf⟩ := xb hf
        refine x_getr S hw lk_Tokens_9 ht14 d_Tokens_advance_40 ?_
        obtain ⟨t15, ht15, hf⟩ := xb hf
        refine x_getr S hw lk_Tokens_27 ht15 d_Tokens_advance_43 ?_
        refine lv_aload_n S.1 S.2.1 d_Tokens_advance_46 rfl (lv_at hl 0 rfl) ?_
        obtain ⟨t16, ht16, hf⟩ := xb hf
        refine x_geti S hw lk_Tokens_19 ht16 d_Tokens_advance_47 ?_
        obtain ⟨t17, ht17, hf⟩ := xb hf
        refine x_iald S hw ht17 d_Tokens_advance_50 ?_
        refine lv_bipush (v := 32) S.1 S.2.1 d_Tokens_advance_51 (by decide) ?_
        refine lv_icmp_ne (tgt := 69) S.1 S.2.1 d_Tokens_advance_53 (by decide) (fun c18 => ?_) (fun c18 => ?_)
        · replace hf := xf c18 hf
          exact w_Tokens_advance_69 S hr hlocks  _ _ _ _ _ hw (lv_sub hl [0] rfl) hf
        · replace hf := xt c18 hf
          refine lv_aload_n S.1 S.2.1 d_Tokens_advance_56 rfl (lv_at hl 0 rfl) ?_
          refine lv_dup S.1 S.2.1 d_Tokens_advance_57 rfl ?_
          obtain ⟨t19, ht19, hf⟩ := xb hf
          refine x_geti S hw lk_Tokens_19 ht19 d_Tokens_advance_58 ?_
          refine lv_iconst (v := 1) S.1 S.2.1 d_Tokens_advance_61 (by decide) ?_
          refine lv_iadd S.1 S.2.1 d_Tokens_advance_62 ?_
          obtain ⟨w20, hw20, hf⟩ := xb hf
          refine x_puti S hw lp_Tokens_19 hw20 d_Tokens_advance_63 (fun H locs hw => ?_)
          refine lv_goto (tgt := 8) S.1 S.2.1 d_Tokens_advance_66 (by decide) ?_
          exact ih _ _ _ _ _ hw (lv_sub hl [0] rfl) hf
def f_Tokens_advance (a0 : Nat) (ω : xS) : Option (Int32 × xS) :=
  (xgi ω a0 10 3).bind fun t1 =>
  (xp ω a0 10 2 (.int t1)).bind fun w2 =>
  f_Tokens_advance_8  xFU a0 w2
set_option maxHeartbeats 4000000 in
set_option maxRecDepth 100000 in
theorem c_Tokens_advance {l : Launch} {E : xV} {z : Nat} {a0 : Nat} {r : Int32} {ω1 : xS} {ω : xS} (hf : f_Tokens_advance a0 ω = some (r, ω1)) : xM l E y_Tokens_advance ws_Tokens_advance { frames := 2, cells := 0, slots := 0, locals := 44 } [.ref a0] z ω (some (.int r)) z ω1 := by
  refine x_start (cc := b_Tokens_advance) (maxL := 1) (ret := (some .int)) (by decide) rfl (Nat.le_of_ble_eq_true rfl) ?_
  intro p e s m below meth c S hr hlocks hin ls hl hw
  have hl : lv_has ls 1 [(0, .ref a0)] := hl
  unfold f_Tokens_advance at hf
  refine lv_aload_n S.1 S.2.1 d_Tokens_advance_0 rfl (lv_at hl 0 rfl) ?_
  refine lv_aload_n S.1 S.2.1 d_Tokens_advance_1 rfl (lv_at hl 0 rfl) ?_
  obtain ⟨t1, ht1, hf⟩ := xb hf
  refine x_geti S hw lk_Tokens_15 ht1 d_Tokens_advance_2 ?_
  obtain ⟨w2, hw2, hf⟩ := xb hf
  refine x_puti S hw lp_Tokens_19 hw2 d_Tokens_advance_5 (fun H locs hw => ?_)
  exact w_Tokens_advance_8 S hr hlocks  _ _ _ _ _ _ hw (lv_sub hl [0] rfl) hf
def f_LawReader_refuse (a0 : Nat) (x1 : Int32) (x2 : Int32) (ω : xS) : Option xS :=
  (xp ω a0 5 3 (.int x1)).bind fun w1 =>
  (xp w1 a0 5 4 (.int x2)).bind fun w2 =>
  some w2
set_option maxHeartbeats 4000000 in
set_option maxRecDepth 100000 in
theorem c_LawReader_refuse {l : Launch} {E : xV} {z : Nat} {a0 : Nat} {x1 : Int32} {x2 : Int32} {ω1 : xS} {ω : xS} (hf : f_LawReader_refuse a0 x1 x2 ω = some ω1) : xM l E y_LawReader_refuse ws_LawReader_refuse { frames := 0, cells := 0, slots := 0, locals := 0 } [.ref a0, .int x1, .int x2] z ω none z ω1 := by
  refine x_start (cc := b_LawReader_refuse) (maxL := 3) (ret := none) (by decide) rfl (Nat.le_of_ble_eq_true rfl) ?_
  intro p e s m below meth c S hr hlocks hin ls hl hw
  have hl : lv_has ls 3 [(0, .ref a0), (1, .int x1), (2, .int x2)] := hl
  unfold f_LawReader_refuse at hf
  refine lv_aload_n S.1 S.2.1 d_LawReader_refuse_0 rfl (lv_at hl 0 rfl) ?_
  refine lv_iload_n S.1 S.2.1 d_LawReader_refuse_1 rfl (lv_at hl 1 rfl) ?_
  obtain ⟨w1, hw1, hf⟩ := xb hf
  refine x_puti S hw lp_LawReader_34 hw1 d_LawReader_refuse_2 (fun H locs hw => ?_)
  refine lv_aload_n S.1 S.2.1 d_LawReader_refuse_5 rfl (lv_at hl 0 rfl) ?_
  refine lv_iload_n S.1 S.2.1 d_LawReader_refuse_6 rfl (lv_at hl 2 rfl) ?_
  obtain ⟨w2, hw2, hf⟩ := xb hf
  refine x_puti S hw lp_LawReader_9 hw2 d_LawReader_refuse_7 (fun H locs hw => ?_)
  cases hf
  exact x_vret S hr hlocks hw d_LawReader_refuse_10
def f_LawReader_expect (a0 : Nat) (x1 : Int32) (ω : xS) : Option (Int32 × xS) :=
  (xgi ω a0 5 3).bind fun t1 =>
  if t1 = 0 then (
    (xgr ω a0 5 0).bind fun t3 =>
    xc (xk ω t3 10 (f_Tokens_advance t3  ω)) fun t5 w6 =>
    if t5 = x1 then (
      if t5 = x1 then (
        some (1, w6))
      else (
        some (0, w6)))
    else (
      if t5 = 0 then (
        (xgr w6 a0 5 0).bind fun t16 =>
        (xgi w6 t16 10 2).bind fun t17 =>
        (xk w6 a0 5 (f_LawReader_refuse a0 1 t17 w6)).bind fun w20 =>
        if t5 = x1 then (
          some (1, w20))
        else (
          some (0, w20)))
      else (
        (xgr w6 a0 5 0).bind fun t10 =>
        (xgi w6 t10 10 2).bind fun t11 =>
        (xk w6 a0 5 (f_LawReader_refuse a0 2 t11 w6)).bind fun w14 =>
        if t5 = x1 then (
          some (1, w14))
        else (
          some (0, w14)))))
  else (
    some (0, ω))
set_option maxHeartbeats 4000000 in
set_option maxRecDepth 100000 in
theorem c_LawReader_expect {l : Launch} {E : xV} {z : Nat} {a0 : Nat} {x1 : Int32} {r : Int32} {ω1 : xS} {ω : xS} (hf : f_LawReader_expect a0 x1 ω = some (r, ω1)) : xM l E y_LawReader_expect ws_LawReader_expect { frames := 3, cells := 0, slots := 0, locals := 64 } [.ref a0, .int x1] z ω (some (.int r)) z ω1 := by
  refine x_start (cc := b_LawReader_expect) (maxL := 3) (ret := (some .boolean)) (by decide) rfl (Nat.le_of_ble_eq_true rfl) ?_
  intro p e s m below meth c S hr hlocks hin ls hl hw
  have hl : lv_has ls 3 [(0, .ref a0), (1, .int x1)] := hl
  unfold f_LawReader_expect at hf
  refine lv_aload_n S.1 S.2.1 d_LawReader_expect_0 rfl (lv_at hl 0 rfl) ?_
  obtain ⟨t1, ht1, hf⟩ := xb hf
  refine x_geti S hw lk_LawReader_34 ht1 d_LawReader_expect_1 ?_
  refine lv_if_eq (tgt := 9) S.1 S.2.1 d_LawReader_expect_4 (by decide) (fun c2 => ?_) (fun c2 => ?_)
  · replace hf := xt c2 hf
    refine lv_aload_n S.1 S.2.1 d_LawReader_expect_9 rfl (lv_at hl 0 rfl) ?_
    obtain ⟨t3, ht3, hf⟩ := xb hf
    refine x_getr S hw lk_LawReader_20 ht3 d_LawReader_expect_10 ?_
    obtain ⟨t5, w6, h4, hf⟩ := xcb hf
    obtain ⟨h4b, h4⟩ := xkb h4
    refine x_callV (As := []) (rest := []) (st1 := [.int t5]) S hw (c_Tokens_advance h4) (cwV 0 S.2.2.2.2 gv_LawReader_40 rfl rfl rfl hd_Tokens_advance ⟨Nat.le_of_ble_eq_true rfl, Nat.le_of_ble_eq_true rfl⟩) rfl h4b rfl hl.1 rfl rfl (Nat.le_of_ble_eq_true rfl) d_LawReader_expect_13 ⟨Nat.le_of_ble_eq_true rfl, Nat.le_of_ble_eq_true rfl⟩ (fun H locs hw => ?_)
    refine lv_istore_n (lv' := [(2, .int t5), (0, .ref a0), (1, .int x1)]) S.1 S.2.1 d_LawReader_expect_16 rfl hl (by decide) rfl (fun ls hl => ?_)
    refine lv_iload_n S.1 S.2.1 d_LawReader_expect_17 rfl (lv_at hl 0 rfl) ?_
    refine lv_iload_n S.1 S.2.1 d_LawReader_expect_18 rfl (lv_at hl 2 rfl) ?_
    refine lv_icmp_eq (tgt := 42) S.1 S.2.1 d_LawReader_expect_19 (by decide) (fun c7 => ?_) (fun c7 => ?_)
    · replace hf := xt c7 hf
      refine lv_iload_n S.1 S.2.1 d_LawReader_expect_42 rfl (lv_at hl 0 rfl) ?_
      refine lv_iload_n S.1 S.2.1 d_LawReader_expect_43 rfl (lv_at hl 2 rfl) ?_
      refine lv_icmp_ne (tgt := 51) S.1 S.2.1 d_LawReader_expect_44 (by decide) (fun c8 => ?_) (fun c8 => ?_)
      · replace hf := xf c8 hf
        refine lv_iconst (v := 0) S.1 S.2.1 d_LawReader_expect_51 (by decide) ?_
        obtain ⟨rfl, rfl⟩ := xe2 hf
        exact x_zret S hr hlocks hw (by decide) d_LawReader_expect_52
      · replace hf := xt c8 hf
        refine lv_iconst (v := 1) S.1 S.2.1 d_LawReader_expect_47 (by decide) ?_
        refine lv_goto (tgt := 52) S.1 S.2.1 d_LawReader_expect_48 (by decide) ?_
        obtain ⟨rfl, rfl⟩ := xe2 hf
        exact x_zret S hr hlocks hw (by decide) d_LawReader_expect_52
    · replace hf := xf c7 hf
      refine lv_aload_n S.1 S.2.1 d_LawReader_expect_22 rfl (lv_at hl 1 rfl) ?_
      refine lv_iload_n S.1 S.2.1 d_LawReader_expect_23 rfl (lv_at hl 0 rfl) ?_
      refine lv_if_ne (tgt := 31) S.1 S.2.1 d_LawReader_expect_24 (by decide) (fun c9 => ?_) (fun c9 => ?_)
      · replace hf := xf c9 hf
        refine lv_iconst (v := 2) S.1 S.2.1 d_LawReader_expect_31 (by decide) ?_
        refine lv_aload_n S.1 S.2.1 d_LawReader_expect_32 rfl (lv_at hl 1 rfl) ?_
        obtain ⟨t10, ht10, hf⟩ := xb hf
        refine x_getr S hw lk_LawReader_20 ht10 d_LawReader_expect_33 ?_
        obtain ⟨t11, ht11, hf⟩ := xb hf
        refine x_geti S hw lk_LawReader_44 ht11 d_LawReader_expect_36 ?_
        obtain ⟨w14, h12, hf⟩ := xb hf
        obtain ⟨h12b, h12⟩ := xkb h12
        refine x_callV (As := [.int 2, .int t11]) (rest := []) (st1 := []) S hw (c_LawReader_refuse h12) (cwV 2 S.2.2.2.2 gv_LawReader_47 rfl rfl rfl hd_LawReader_refuse ⟨Nat.le_of_ble_eq_true rfl, Nat.le_of_ble_eq_true rfl⟩) rfl h12b rfl hl.1 rfl rfl (Nat.le_of_ble_eq_true rfl) d_LawReader_expect_39 ⟨Nat.le_of_ble_eq_true rfl, Nat.le_of_ble_eq_true rfl⟩ (fun H locs hw => ?_)
        refine lv_iload_n S.1 S.2.1 d_LawReader_expect_42 rfl (lv_at hl 0 rfl) ?_
        refine lv_iload_n S.1 S.2.1 d_LawReader_expect_43 rfl (lv_at hl 2 rfl) ?_
        refine lv_icmp_ne (tgt := 51) S.1 S.2.1 d_LawReader_expect_44 (by decide) (fun c15 => ?_) (fun c15 => ?_)
        · replace hf := xf c15 hf
          refine lv_iconst (v := 0) S.1 S.2.1 d_LawReader_expect_51 (by decide) ?_
          obtain ⟨rfl, rfl⟩ := xe2 hf
          exact x_zret S hr hlocks hw (by decide) d_LawReader_expect_52
        · replace hf := xt c15 hf
          refine lv_iconst (v := 1) S.1 S.2.1 d_LawReader_expect_47 (by decide) ?_
          refine lv_goto (tgt := 52) S.1 S.2.1 d_LawReader_expect_48 (by decide) ?_
          obtain ⟨rfl, rfl⟩ := xe2 hf
          exact x_zret S hr hlocks hw (by decide) d_LawReader_expect_52
      · replace hf := xt c9 hf
        refine lv_iconst (v := 1) S.1 S.2.1 d_LawReader_expect_27 (by decide) ?_
        refine lv_goto (tgt := 32) S.1 S.2.1 d_LawReader_expect_28 (by decide) ?_
        refine lv_aload_n S.1 S.2.1 d_LawReader_expect_32 rfl (lv_at hl 1 rfl) ?_
        obtain ⟨t16, ht16, hf⟩ := xb hf
        refine x_getr S hw lk_LawReader_20 ht16 d_LawReader_expect_33 ?_
        obtain ⟨t17, ht17, hf⟩ := xb hf
        refine x_geti S hw lk_LawReader_44 ht17 d_LawReader_expect_36 ?_
        obtain ⟨w20, h18, hf⟩ := xb hf
        obtain ⟨h18b, h18⟩ := xkb h18
        refine x_callV (As := [.int 1, .int t17]) (rest := []) (st1 := []) S hw (c_LawReader_refuse h18) (cwV 2 S.2.2.2.2 gv_LawReader_47 rfl rfl rfl hd_LawReader_refuse ⟨Nat.le_of_ble_eq_true rfl, Nat.le_of_ble_eq_true rfl⟩) rfl h18b rfl hl.1 rfl rfl (Nat.le_of_ble_eq_true rfl) d_LawReader_expect_39 ⟨Nat.le_of_ble_eq_true rfl, Nat.le_of_ble_eq_true rfl⟩ (fun H locs hw => ?_)
        refine lv_iload_n S.1 S.2.1 d_LawReader_expect_42 rfl (lv_at hl 0 rfl) ?_
        refine lv_iload_n S.1 S.2.1 d_LawReader_expect_43 rfl (lv_at hl 2 rfl) ?_
        refine lv_icmp_ne (tgt := 51) S.1 S.2.1 d_LawReader_expect_44 (by decide) (fun c21 => ?_) (fun c21 => ?_)
        · replace hf := xf c21 hf
          refine lv_iconst (v := 0) S.1 S.2.1 d_LawReader_expect_51 (by decide) ?_
          obtain ⟨rfl, rfl⟩ := xe2 hf
          exact x_zret S hr hlocks hw (by decide) d_LawReader_expect_52
        · replace hf := xt c21 hf
          refine lv_iconst (v := 1) S.1 S.2.1 d_LawReader_expect_47 (by decide) ?_
          refine lv_goto (tgt := 52) S.1 S.2.1 d_LawReader_expect_48 (by decide) ?_
          obtain ⟨rfl, rfl⟩ := xe2 hf
          exact x_zret S hr hlocks hw (by decide) d_LawReader_expect_52
  · replace hf := xf c2 hf
    refine lv_iconst (v := 0) S.1 S.2.1 d_LawReader_expect_7 (by decide) ?_
    obtain ⟨rfl, rfl⟩ := xe2 hf
    exact x_zret S hr hlocks hw (by decide) d_LawReader_expect_8
def f_Tokens_value_7 : Nat → Nat → Int32 → Int32 → xS → Option Int32
  | 0, _, _, _, _ => none
  | n + 1, a0, x1, x2, ω =>
    (xgi ω a0 10 3).bind fun t2 =>
    if t2 ≤ x2 then (
      some x1)
    else (
      (xgr ω a0 10 0).bind fun t4 =>
      (xk ω t4 9 (f_Tape_byteAt t4 x2 ω)).bind fun t6 =>
      f_Tokens_value_7  n a0 (((x1 * 10) + t6) - 48) (x2 + 1) ω)
set_option maxHeartbeats 4000000 in
set_option maxRecDepth 100000 in
theorem w_Tokens_value_7 {p : Program} {l : Launch} {e : Env} {s : State} {m : MethodId} {args : Array Value} {below : List Frame} {meth : Method} {c : Code} {E : xV} {z : Nat} {r : Int32} {ω : xS} (S : CallFix p m c b_Tokens_value 3 s args xTbl "RosterRules$Tokens") (hr : meth.sig.returnType = (some .int)) (hlocks : meth.locks = false) : ∀ n : Nat, ∀ (a0 : Nat) (x1 : Int32) (x2 : Int32) (H : Heap) (locs : List Loc) (ls : Array Slot), xW E z ω s s.heap H locs → lv_has ls 3 [(0, .ref a0), (1, .int x1), (2, .int x2)] → f_Tokens_value_7 n a0 x1 x2 ω = some r → W p l e (headSpec ws_Tokens_value { frames := 1, cells := 0, slots := 0, locals := 21 }).room s m args below meth c H locs 0 0 (MQ below (xQ E (some (.int r)) z ω) args s 0 0 (fun q => E.2.2 ≤ q)) (F0 m 7 ls []) := by
  intro n
  induction n with
  | zero =>
    intro a0 x1 x2 H locs ls hw hl hf
    have h2 : (none : Option Int32) = some r := hf
    cases h2
  | succ n ih =>
    intro a0 x1 x2 H locs ls hw hl hf
    rw [f_Tokens_value_7] at hf
    refine lv_iload_n S.1 S.2.1 d_Tokens_value_7 rfl (lv_at hl 2 rfl) ?_
    refine lv_aload_n S.1 S.2.1 d_Tokens_value_8 rfl (lv_at hl 0 rfl) ?_
    obtain ⟨t2, ht2, hf⟩ := xb hf
    refine x_geti S hw lk_Tokens_15 ht2 d_Tokens_value_9 ?_
    refine lv_icmp_ge (tgt := 38) S.1 S.2.1 d_Tokens_value_12 (by decide) (fun c3 => ?_) (fun c3 => ?_)
    · replace hf := xt c3 hf
      refine lv_iload_n S.1 S.2.1 d_Tokens_value_38 rfl (lv_at hl 1 rfl) ?_
      obtain rfl := xe1 hf
      exact x_iret S hr hlocks hw d_Tokens_value_39
    · replace hf := xf c3 hf
      refine lv_iload_n S.1 S.2.1 d_Tokens_value_15 rfl (lv_at hl 1 rfl) ?_
      refine lv_bipush (v := 10) S.1 S.2.1 d_Tokens_value_16 (by decide) ?_
      refine lv_imul S.1 S.2.1 d_Tokens_value_18 ?_
      refine lv_aload_n S.1 S.2.1 d_Tokens_value_19 rfl (lv_at hl 0 rfl) ?_
      obtain ⟨t4, ht4, hf⟩ := xb hf
      refine x_getr S hw lk_Tokens_9 ht4 d_Tokens_value_20 ?_
      refine lv_iload_n S.1 S.2.1 d_Tokens_value_23 rfl (lv_at hl 2 rfl) ?_
      obtain ⟨t6, h5, hf⟩ := xb hf
      obtain ⟨h5b, h5⟩ := xkb h5
      refine x_callV (As := [.int x2]) (rest := [.int (x1 * 10)]) (st1 := [.int t6, .int (x1 * 10)]) S hw (c_Tape_byteAt h5) (cwV 1 S.2.2.2.2 gv_Tokens_31 rfl rfl rfl hd_Tape_byteAt ⟨Nat.le_of_ble_eq_true rfl, Nat.le_of_ble_eq_true rfl⟩) rfl h5b rfl hl.1 rfl rfl (Nat.le_of_ble_eq_true rfl) d_Tokens_value_24 ⟨Nat.le_of_ble_eq_true rfl, Nat.le_of_ble_eq_true rfl⟩ (fun H locs hw => ?_)
      refine lv_iadd S.1 S.2.1 d_Tokens_value_27 ?_
      refine lv_bipush (v := 48) S.1 S.2.1 d_Tokens_value_28 (by decide) ?_
      refine lv_isub S.1 S.2.1 d_Tokens_value_30 ?_
      refine lv_istore_n (lv' := [(1, .int (((x1 * 10) + t6) - 48)), (0, .ref a0), (2, .int x2)]) S.1 S.2.1 d_Tokens_value_31 rfl hl (by decide) rfl (fun ls hl => ?_)
      refine lv_iinc (v := (x2 + 1)) (lv' := [(2, .int (x2 + 1)), (1, .int (((x1 * 10) + t6) - 48)), (0, .ref a0)]) S.1 S.2.1 d_Tokens_value_32 hl (k := 2) rfl rfl (by decide) rfl (fun ls hl => ?_)
      refine lv_goto (tgt := 7) S.1 S.2.1 d_Tokens_value_35 (by decide) ?_
      exact ih _ _ _ _ _ _ hw (lv_sub hl [2, 1, 0] rfl) hf
def f_Tokens_value (a0 : Nat) (ω : xS) : Option Int32 :=
  (xgi ω a0 10 2).bind fun t1 =>
  f_Tokens_value_7  xFU a0 0 t1 ω
set_option maxHeartbeats 4000000 in
set_option maxRecDepth 100000 in
theorem c_Tokens_value {l : Launch} {E : xV} {z : Nat} {a0 : Nat} {r : Int32} {ω : xS} (hf : f_Tokens_value a0 ω = some r) : xM l E y_Tokens_value ws_Tokens_value { frames := 1, cells := 0, slots := 0, locals := 21 } [.ref a0] z ω (some (.int r)) z ω := by
  refine x_start (cc := b_Tokens_value) (maxL := 3) (ret := (some .int)) (by decide) rfl (Nat.le_of_ble_eq_true rfl) ?_
  intro p e s m below meth c S hr hlocks hin ls hl hw
  have hl : lv_has ls 3 [(0, .ref a0)] := hl
  unfold f_Tokens_value at hf
  refine lv_iconst (v := 0) S.1 S.2.1 d_Tokens_value_0 (by decide) ?_
  refine lv_istore_n (lv' := [(1, .int 0), (0, .ref a0)]) S.1 S.2.1 d_Tokens_value_1 rfl hl (by decide) rfl (fun ls hl => ?_)
  refine lv_aload_n S.1 S.2.1 d_Tokens_value_2 rfl (lv_at hl 1 rfl) ?_
  obtain ⟨t1, ht1, hf⟩ := xb hf
  refine x_geti S hw lk_Tokens_19 ht1 d_Tokens_value_3 ?_
  refine lv_istore_n (lv' := [(2, .int t1), (1, .int 0), (0, .ref a0)]) S.1 S.2.1 d_Tokens_value_6 rfl hl (by decide) rfl (fun ls hl => ?_)
  exact w_Tokens_value_7 S hr hlocks  _ _ _ _ _ _ _ hw (lv_sub hl [2, 1, 0] rfl) hf
