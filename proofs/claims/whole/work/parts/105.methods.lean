def f_Tokens_advance_69 (a0 : Nat) (ω : xS) : Option (Int32 × xS) :=
  (xgi ω a0 10 2).bind fun t21 =>
  (xp ω a0 10 3 (.int t21)).bind fun w22 =>
  (xgr w22 a0 10 0).bind fun t23 =>
  (xgi w22 a0 10 2).bind fun t24 =>
  (xk w22 t23 9 (f_Tape_byteAt t23 t24 w22)).bind fun t26 =>
  xc (xk w22 a0 10 (f_Tokens_kindFrom a0 t26 w22)) fun t28 w29 =>
  (xp w29 a0 10 1 (.int t28)).bind fun w30 =>
  (xgi w30 a0 10 1).bind fun t31 =>
  some (t31, w30)
set_option maxHeartbeats 4000000 in
set_option maxRecDepth 100000 in
theorem w_Tokens_advance_69 {p : Program} {l : Launch} {e : Env} {s : State} {m : MethodId} {args : Array Value} {below : List Frame} {meth : Method} {c : Code} {E : xV} {z : Nat} {r : Int32} {ω1 : xS} (S : CallFix p m c b_Tokens_advance 1 s args xTbl "RosterRules$Tokens") (hr : meth.sig.returnType = (some .int)) (hlocks : meth.locks = false) : ∀ (a0 : Nat) (ω : xS) (H : Heap) (locs : List Loc) (ls : Array Slot), xW E z ω s s.heap H locs → lv_has ls 1 [(0, .ref a0)] → f_Tokens_advance_69 a0 ω = some (r, ω1) → W p l e (headSpec ws_Tokens_advance { frames := 2, cells := 0, slots := 0, locals := 44 }).room s m args below meth c H locs 0 0 (MQ below (xQ E (some (.int r)) z ω1) args s 0 0 (fun q => E.2.2 ≤ q)) (F0 m 69 ls []) := by
  intro a0 ω H locs ls hw hl hf
  unfold f_Tokens_advance_69 at hf
  refine lv_aload_n S.1 S.2.1 d_Tokens_advance_69 rfl (lv_at hl 0 rfl) ?_
  refine lv_aload_n S.1 S.2.1 d_Tokens_advance_70 rfl (lv_at hl 0 rfl) ?_
  obtain ⟨t21, ht21, hf⟩ := xb hf
  refine x_geti S hw lk_Tokens_19 ht21 d_Tokens_advance_71 ?_
  obtain ⟨w22, hw22, hf⟩ := xb hf
  refine x_puti S hw lp_Tokens_15 hw22 d_Tokens_advance_74 (fun H locs hw => ?_)
  refine lv_aload_n S.1 S.2.1 d_Tokens_advance_77 rfl (lv_at hl 0 rfl) ?_
  refine lv_aload_n S.1 S.2.1 d_Tokens_advance_78 rfl (lv_at hl 0 rfl) ?_
  refine lv_aload_n S.1 S.2.1 d_Tokens_advance_79 rfl (lv_at hl 0 rfl) ?_
  obtain ⟨t23, ht23, hf⟩ := xb hf
  refine x_getr S hw lk_Tokens_9 ht23 d_Tokens_advance_80 ?_
  refine lv_aload_n S.1 S.2.1 d_Tokens_advance_83 rfl (lv_at hl 0 rfl) ?_
  obtain ⟨t24, ht24, hf⟩ := xb hf
  refine x_geti S hw lk_Tokens_19 ht24 d_Tokens_advance_84 ?_
  obtain ⟨t26, h25, hf⟩ := xb hf
  obtain ⟨h25b, h25⟩ := xkb h25
  refine x_callV (As := [.int t24]) (rest := [.ref a0, .ref a0]) (st1 := [.int t26, .ref a0, .ref a0]) S hw (c_Tape_byteAt h25) (cwV 1 S.2.2.2.2 gv_Tokens_31 rfl rfl rfl hd_Tape_byteAt ⟨Nat.le_of_ble_eq_true rfl, Nat.le_of_ble_eq_true rfl⟩) rfl h25b rfl hl.1 rfl rfl (Nat.le_of_ble_eq_true rfl) d_Tokens_advance_87 ⟨Nat.le_of_ble_eq_true rfl, Nat.le_of_ble_eq_true rfl⟩ (fun H locs hw => ?_)
  obtain ⟨t28, w29, h27, hf⟩ := xcb hf
  obtain ⟨h27b, h27⟩ := xkb h27
  refine x_callV (As := [.int t26]) (rest := [.ref a0]) (st1 := [.int t28, .ref a0]) S hw (c_Tokens_kindFrom h27) (cwV 1 S.2.2.2.2 gv_Tokens_35 rfl rfl rfl hd_Tokens_kindFrom ⟨Nat.le_of_ble_eq_true rfl, Nat.le_of_ble_eq_true rfl⟩) rfl h27b rfl hl.1 rfl rfl (Nat.le_of_ble_eq_true rfl) d_Tokens_advance_90 ⟨Nat.le_of_ble_eq_true rfl, Nat.le_of_ble_eq_true rfl⟩ (fun H locs hw => ?_)
  obtain ⟨w30, hw30, hf⟩ := xb hf
  refine x_puti S hw lp_Tokens_38 hw30 d_Tokens_advance_93 (fun H locs hw => ?_)
  refine lv_aload_n S.1 S.2.1 d_Tokens_advance_96 rfl (lv_at hl 0 rfl) ?_
  obtain ⟨t31, ht31, hf⟩ := xb hf
  refine x_geti S hw lk_Tokens_38 ht31 d_Tokens_advance_97 ?_
  obtain ⟨rfl, rfl⟩ := xe2 hf
  exact x_iret S hr hlocks hw d_Tokens_advance_100
def f_Tokens_advance_8 : Nat → Nat → xS → Option (Int32 × xS)
  | 0, _, _ => none
  | n + 1, a0, ω =>
    (xgi ω a0 10 2).bind fun t3 =>
    (xgr ω a0 10 0).bind fun t4 =>
    (xgi ω t4 9 1).bind fun t5 =>
    if t5 ≤ t3 then (
      f_Tokens_advance_69  a0 ω)
    else (
      (xgr ω a0 10 0).bind fun t7 =>
      (xgr ω t7 9 0).bind fun t8 =>
      (xgi ω a0 10 2).bind fun t9 =>
      (xai ω t8 t9).bind fun t10 =>
      if t10 = 10 then (
        (xgi ω a0 10 2).bind fun t12 =>
        (xp ω a0 10 2 (.int (t12 + 1))).bind fun w13 =>
        f_Tokens_advance_8  n a0 w13)
      else (
        (xgr ω a0 10 0).bind fun t14 =>
        (xgr ω t14 9 0).bind fun t15 =>
        (xgi ω a0 10 2).bind fun t16 =>
        (xai ω t15 t16).bind fun t17 =>
        if t17 = 32 then (
          (xgi ω a0 10 2).bind fun t19 =>
          (xp ω a0 10 2 (.int (t19 + 1))).bind fun w20 =>
          f_Tokens_advance_8  n a0 w20)
        else (
          f_Tokens_advance_69  a0 ω)))
set_option maxHeartbeats 4000000 in
set_option maxRecDepth 100000 in
theorem w_Tokens_advance_8 {p : Program} {l : Launch} {e : Env} {s : State} {m : MethodId} {args : Array Value} {below : List Frame} {meth : Method} {c : Code} {E : xV} {z : Nat} {r : Int32} {ω1 : xS} (S : CallFix p m c b_Tokens_advance 1 s args xTbl "RosterRules$Tokens") (hr : meth.sig.returnType = (some .int)) (hlocks : meth.locks = false) : ∀ n : Nat, ∀ (a0 : Nat) (ω : xS) (H : Heap) (locs : List Loc) (ls : Array Slot), xW E z ω s s.heap H locs → lv_has ls 1 [(0, .ref a0)] → f_Tokens_advance_8 n a0 ω = some (r, ω1) → W p l e (headSpec ws_Tokens_advance { frames := 2, cells := 0, slots := 0, locals := 44 }).room s m args below meth c H locs 0 0 (MQ below (xQ E (some (.int r)) z ω1) args s 0 0 (fun q => E.2.2 ≤ q)) (F0 m 8 ls []) := by
  intro n
  induction n with
  | zero =>
    intro a0 ω H locs ls hw hl hf
    have h2 : (none : Option (Int32 × xS)) = some (r, ω1) := hf
    cases h2
  | succ n ih =>
    intro a0 ω H locs ls hw hl hf
    rw [f_Tokens_advance_8] at hf
    refine lv_aload_n S.1 S.2.1 d_Tokens_advance_8 rfl (lv_at hl 0 rfl) ?_
    obtain ⟨t3, ht3, hf⟩ := xb hf
    refine x_geti S hw lk_Tokens_19 ht3 d_Tokens_advance_9 ?_
    refine lv_aload_n S.1 S.2.1 d_Tokens_advance_12 rfl (lv_at hl 0 rfl) ?_
    obtain ⟨t4, ht4, hf⟩ := xb hf
    refine x_getr S hw lk_Tokens_9 ht4 d_Tokens_advance_13 ?_
    obtain ⟨t5, ht5, hf⟩ := xb hf
    refine x_geti S hw lk_Tokens_22 ht5 d_Tokens_advance_16 ?_
    refine lv_icmp_ge (tgt := 69) S.1 S.2.1 d_Tokens_advance_19 (by decide) (fun c6 => ?_) (fun c6 => ?_)
    · replace hf := xt c6 hf
      exact w_Tokens_advance_69 S hr hlocks  _ _ _ _ _ hw (lv_sub hl [0] rfl) hf
    · replace hf := xf c6 hf
      refine lv_aload_n S.1 S.2.1 d_Tokens_advance_22 rfl (lv_at hl 0 rfl) ?_
      obtain ⟨t7, ht7, hf⟩ := xb hf
      refine x_getr S hw lk_Tokens_9 ht7 d_Tokens_advance_23 ?_
      obtain ⟨t8, ht8, hf⟩ := xb hf
      refine x_getr S hw lk_Tokens_27 ht8 d_Tokens_advance_26 ?_
      refine lv_aload_n S.1 S.2.1 d_Tokens_advance_29 rfl (lv_at hl 0 rfl) ?_
      obtain ⟨t9, ht9, hf⟩ := xb hf
      refine x_geti S hw lk_Tokens_19 ht9 d_Tokens_advance_30 ?_
      obtain ⟨t10, ht10, hf⟩ := xb hf
      refine x_iald S hw ht10 d_Tokens_advance_33 ?_
      refine lv_bipush (v := 10) S.1 S.2.1 d_Tokens_advance_34 (by decide) ?_
      refine lv_icmp_eq (tgt := 56) S.1 S.2.1 d_Tokens_advance_36 (by decide) (fun c11 => ?_) (fun c11 => ?_)
      · replace hf := xt c11 hf
        refine lv_aload_n S.1 S.2.1 d_Tokens_advance_56 rfl (lv_at hl 0 rfl) ?_
        refine lv_dup S.1 S.2.1 d_Tokens_advance_57 rfl ?_
        obtain ⟨t12, ht12, hf⟩ := xb hf
        refine x_geti S hw lk_Tokens_19 ht12 d_Tokens_advance_58 ?_
        refine lv_iconst (v := 1) S.1 S.2.1 d_Tokens_advance_61 (by decide) ?_
        refine lv_iadd S.1 S.2.1 d_Tokens_advance_62 ?_
        obtain ⟨w13, hw13, hf⟩ := xb hf
        refine x_puti S hw lp_Tokens_19 hw13 d_Tokens_advance_63 (fun H locs hw => ?_)
        refine lv_goto (tgt := 8) S.1 S.2.1 d_Tokens_advance_66 (by decide) ?_
        exact ih _ _ _ _ _ hw (lv_sub hl [0] rfl) hf
      · replace hf := xf c11 hf
        refine lv_aload_n S.1 S.2.1 d_Tokens_advance_39 rfl (lv_at hl 0 rfl) ?_
        obtain ⟨t14, ht14, hf⟩ := xb hf
        refine x_getr S hw lk_Tokens_9 ht14 d_Tokens_advance_40 ?_
        obtain ⟨t15, ht15, hf⟩ := xb hf
        refine x_getr S hw lk_Tokens_27 ht15 d_Tokens_advance_43 ?_
        refine lv_aload_n S.1 S.2.1 d_Tokens_advance_46 rfl (lv_at hl 0 rfl) ?_
        obtain ⟨t16, ht16, hf⟩ := xb hf
        refine x_geti S hw lk_Tokens_19 ht16 d_Tokens_advance_47 ?_
        obtain ⟨t17, ht17, hf⟩ := xb hf
        refine x_iald S hw ht17 d_Tokens_advance_50 ?_
        refine lv_bipush (v := 32) S.1 S.2.1 d_Tokens_advance_51 (by decide) ?_
        refine lv_icmp_ne (tgt := 69) S.1 S.2.1 d_Tokens_advance_53 (by decide) (fun c18 => ?_) (fun c18 => ?_)
        · replace hf := xf c18 hf
          exact w_Tokens_advance_69 S hr hlocks  _ _ _ _ _ hw (lv_sub hl [0] rfl) hf
        · replace hf := xt c18 hf
          refine lv_aload_n S.1 S.2.1 d_Tokens_advance_56 rfl (lv_at hl 0 rfl) ?_
          refine lv_dup S.1 S.2.1 d_Tokens_advance_57 rfl ?_
          obtain ⟨t19, ht19, hf⟩ := xb hf
          refine x_geti S hw lk_Tokens_19 ht19 d_Tokens_advance_58 ?_
          refine lv_iconst (v := 1) S.1 S.2.1 d_Tokens_advance_61 (by decide) ?_
          refine lv_iadd S.1 S.2.1 d_Tokens_advance_62 ?_
          obtain ⟨w20, hw20, hf⟩ := xb hf
          refine x_puti S hw lp_Tokens_19 hw20 d_Tokens_advance_63 (fun H locs hw => ?_)
          refine lv_goto (tgt := 8) S.1 S.2.1 d_Tokens_advance_66 (by decide) ?_
          exact ih _ _ _ _ _ hw (lv_sub hl [0] rfl) hf
def f_Tokens_advance (a0 : Nat) (ω : xS) : Option (Int32 × xS) :=
  (xgi ω a0 10 3).bind fun t1 =>
  (xp ω a0 10 2 (.int t1)).bind fun w2 =>
  f_Tokens_advance_8  xFU a0 w2
set_option maxHeartbeats 4000000 in
set_option maxRecDepth 100000 in
theorem c_Tokens_advance {l : Launch} {E : xV} {z : Nat} {a0 : Nat} {r : Int32} {ω1 : xS} {ω : xS} (hf : f_Tokens_advance a0 ω = some (r, ω1)) : xM l E y_Tokens_advance ws_Tokens_advance { frames := 2, cells := 0, slots := 0, locals := 44 } [.ref a0] z ω (some (.int r)) z ω1 := by
  refine x_start (cc := b_Tokens_advance) (maxL := 1) (ret := (some .int)) (by decide) rfl (Nat.le_of_ble_eq_true rfl) ?_
  intro p e s m below meth c S hr hlocks hin ls hl hw
  have hl : lv_has ls 1 [(0, .ref a0)] := hl
  unfold f_Tokens_advance at hf
  refine lv_aload_n S.1 S.2.1 d_Tokens_advance_0 rfl (lv_at hl 0 rfl) ?_
  refine lv_aload_n S.1 S.2.1 d_Tokens_advance_1 rfl (lv_at hl 0 rfl) ?_
  obtain ⟨t1, ht1, hf⟩ := xb hf
  refine x_geti S hw lk_Tokens_15 ht1 d_Tokens_advance_2 ?_
  obtain ⟨w2, hw2, hf⟩ := xb hf
  refine x_puti S hw lp_Tokens_19 hw2 d_Tokens_advance_5 (fun H locs hw => ?_)
  exact w_Tokens_advance_8 S hr hlocks  _ _ _ _ _ _ hw (lv_sub hl [0] rfl) hf
def f_LawReader_refuse (a0 : Nat) (x1 : Int32) (x2 : Int32) (ω : xS) : Option xS :=
  (xp ω a0 5 3 (.int x1)).bind fun w1 =>
  (xp w1 a0 5 4 (.int x2)).bind fun w2 =>
  some w2
set_option maxHeartbeats 4000000 in
set_option maxRecDepth 100000 in
theorem c_LawReader_refuse {l : Launch} {E : xV} {z : Nat} {a0 : Nat} {x1 : Int32} {x2 : Int32} {ω1 : xS} {ω : xS} (hf : f_LawReader_refuse a0 x1 x2 ω = some ω1) : xM l E y_LawReader_refuse ws_LawReader_refuse { frames := 0, cells := 0, slots := 0, locals := 0 } [.ref a0, .int x1, .int x2] z ω none z ω1 := by
  refine x_start (cc := b_LawReader_refuse) (maxL := 3) (ret := none) (by decide) rfl (Nat.le_of_ble_eq_true rfl) ?_
  intro p e s m below meth c S hr hlocks hin ls hl hw
  have hl : lv_has ls 3 [(0, .ref a0), (1, .int x1), (2, .int x2)] := hl
  unfold f_LawReader_refuse at hf
  refine lv_aload_n S.1 S.2.1 d_LawReader_refuse_0 rfl (lv_at hl 0 rfl) ?_
  refine lv_iload_n S.1 S.2.1 d_LawReader_refuse_1 rfl (lv_at hl 1 rfl) ?_
  obtain ⟨w1, hw1, hf⟩ := xb hf
  refine x_puti S hw lp_LawReader_34 hw1 d_LawReader_refuse_2 (fun H locs hw => ?_)
  refine lv_aload_n S.1 S.2.1 d_LawReader_refuse_5 rfl (lv_at hl 0 rfl) ?_
  refine lv_iload_n S.1 S.2.1 d_LawReader_refuse_6 rfl (lv_at hl 2 rfl) ?_
  obtain ⟨w2, hw2, hf⟩ := xb hf
  refine x_puti S hw lp_LawReader_9 hw2 d_LawReader_refuse_7 (fun H locs hw => ?_)
  cases hf
  exact x_vret S hr hlocks hw d_LawReader_refuse_10
def f_LawReader_expect (a0 : Nat) (x1 : Int32) (ω : xS) : Option (Int32 × xS) :=
  (xgi ω a0 5 3).bind fun t1 =>
  if t1 = 0 then (
    (xgr ω a0 5 0).bind fun t3 =>
    xc (xk ω t3 10 (f_Tokens_advance t3  ω)) fun t5 w6 =>
    if t5 = x1 then (
      if t5 = x1 then (
        some (1, w6))
      else (
        some (0, w6)))
    else (
      if t5 = 0 then (
        (xgr w6 a0 5 0).bind fun t16 =>
        (xgi w6 t16 10 2).bind fun t17 =>
        (xk w6 a0 5 (f_LawReader_refuse a0 1 t17 w6)).bind fun w20 =>
        if t5 = x1 then (
          some (1, w20))
        else (
          some (0, w20)))
      else (
        (xgr w6 a0 5 0).bind fun t10 =>
        (xgi w6 t10 10 2).bind fun t11 =>
        (xk w6 a0 5 (f_LawReader_refuse a0 2 t11 w6)).bind fun w14 =>
        if t5 = x1 then (
          some (1, w14))
        else (
          some (0, w14)))))
  else (
    some (0, ω))
set_option maxHeartbeats 4000000 in
set_option maxRecDepth 100000 in
theorem c_LawReader_expect {l : Launch} {E : xV} {z : Nat} {a0 : Nat} {x1 : Int32} {r : Int32} {ω1 : xS} {ω : xS} (hf : f_LawReader_expect a0 x1 ω = some (r, ω1)) : xM l E y_LawReader_expect ws_LawReader_expect { frames := 3, cells := 0, slots := 0, locals := 64 } [.ref a0, .int x1] z ω (some (.int r)) z ω1 := by
  refine x_start (cc := b_LawReader_expect) (maxL := 3) (ret := (some .boolean)) (by decide) rfl (Nat.le_of_ble_eq_true rfl) ?_
  intro p e s m below meth c S hr hlocks hin ls hl hw
  have hl : lv_has ls 3 [(0, .ref a0), (1, .int x1)] := hl
  unfold f_LawReader_expect at hf
  refine lv_aload_n S.1 S.2.1 d_LawReader_expect_0 rfl (lv_at hl 0 rfl) ?_
  obtain ⟨t1, ht1, hf⟩ := xb hf
  refine x_geti S hw lk_LawReader_34 ht1 d_LawReader_expect_1 ?_
  refine lv_if_eq (tgt := 9) S.1 S.2.1 d_LawReader_expect_4 (by decide) (fun c2 => ?_) (fun c2 => ?_)
  · replace hf := xt c2 hf
    refine lv_aload_n S.1 S.2.1 d_LawReader_expect_9 rfl (lv_at hl 0 rfl) ?_
    obtain ⟨t3, ht3, hf⟩ := xb hf
    refine x_getr S hw lk_LawReader_20 ht3 d_LawReader_expect_10 ?_
    obtain ⟨t5, w6, h4, hf⟩ := xcb hf
    obtain ⟨h4b, h4⟩ := xkb h4
    refine x_callV (As := []) (rest := []) (st1 := [.int t5]) S hw (c_Tokens_advance h4) (cwV 0 S.2.2.2.2 gv_LawReader_40 rfl rfl rfl hd_Tokens_advance ⟨Nat.le_of_ble_eq_true rfl, Nat.le_of_ble_eq_true rfl⟩) rfl h4b rfl hl.1 rfl rfl (Nat.le_of_ble_eq_true rfl) d_LawReader_expect_13 ⟨Nat.le_of_ble_eq_true rfl, Nat.le_of_ble_eq_true rfl⟩ (fun H locs hw => ?_)
    refine lv_istore_n (lv' := [(2, .int t5), (0, .ref a0), (1, .int x1)]) S.1 S.2.1 d_LawReader_expect_16 rfl hl (by decide) rfl (fun ls hl => ?_)
    refine lv_iload_n S.1 S.2.1 d_LawReader_expect_17 rfl (lv_at hl 0 rfl) ?_
    refine lv_iload_n S.1 S.2.1 d_LawReader_expect_18 rfl (lv_at hl 2 rfl) ?_
    refine lv_icmp_eq (tgt := 42) S.1 S.2.1 d_LawReader_expect_19 (by decide) (fun c7 => ?_) (fun c7 => ?_)
    · replace hf := xt c7 hf
      refine lv_iload_n S.1 S.2.1 d_LawReader_expect_42 rfl (lv_at hl 0 rfl) ?_
      refine lv_iload_n S.1 S.2.1 d_LawReader_expect_43 rfl (lv_at hl 2 rfl) ?_
      refine lv_icmp_ne (tgt := 51) S.1 S.2.1 d_LawReader_expect_44 (by decide) (fun c8 => ?_) (fun c8 => ?_)
      · replace hf := xf c8 hf
        refine lv_iconst (v := 0) S.1 S.2.1 d_LawReader_expect_51 (by decide) ?_
        obtain ⟨rfl, rfl⟩ := xe2 hf
        exact x_zret S hr hlocks hw (by decide) d_LawReader_expect_52
      · replace hf := xt c8 hf
        refine lv_iconst (v := 1) S.1 S.2.1 d_LawReader_expect_47 (by decide) ?_
        refine lv_goto (tgt := 52) S.1 S.2.1 d_LawReader_expect_48 (by decide) ?_
        obtain ⟨rfl, rfl⟩ := xe2 hf
        exact x_zret S hr hlocks hw (by decide) d_LawReader_expect_52
    · replace hf := xf c7 hf
      refine lv_aload_n S.1 S.2.1 d_LawReader_expect_22 rfl (lv_at hl 1 rfl) ?_
      refine lv_iload_n S.1 S.2.1 d_LawReader_expect_23 rfl (lv_at hl 0 rfl) ?_
      refine lv_if_ne (tgt := 31) S.1 S.2.1 d_LawReader_expect_24 (by decide) (fun c9 => ?_) (fun c9 => ?_)
      · replace hf := xf c9 hf
        refine lv_iconst (v := 2) S.1 S.2.1 d_LawReader_expect_31 (by decide) ?_
        refine lv_aload_n S.1 S.2.1 d_LawReader_expect_32 rfl (lv_at hl 1 rfl) ?_
        obtain ⟨t10, ht10, hf⟩ := xb hf
        refine x_getr S hw lk_LawReader_20 ht10 d_LawReader_expect_33 ?_
        obtain ⟨t11, ht11, hf⟩ := xb hf
        refine x_geti S hw lk_LawReader_44 ht11 d_LawReader_expect_36 ?_
        obtain ⟨w14, h12, hf⟩ := xb hf
        obtain ⟨h12b, h12⟩ := xkb h12
        refine x_callV (As := [.int 2, .int t11]) (rest := []) (st1 := []) S hw (c_LawReader_refuse h12) (cwV 2 S.2.2.2.2 gv_LawReader_47 rfl rfl rfl hd_LawReader_refuse ⟨Nat.le_of_ble_eq_true rfl, Nat.le_of_ble_eq_true rfl⟩) rfl h12b rfl hl.1 rfl rfl (Nat.le_of_ble_eq_true rfl) d_LawReader_expect_39 ⟨Nat.le_of_ble_eq_true rfl, Nat.le_of_ble_eq_true rfl⟩ (fun H locs hw => ?_)
        refine lv_iload_n S.1 S.2.1 d_LawReader_expect_42 rfl (lv_at hl 0 rfl) ?_
        refine lv_iload_n S.1 S.2.1 d_LawReader_expect_43 rfl (lv_at hl 2 rfl) ?_
        refine lv_icmp_ne (tgt := 51) S.1 S.2.1 d_LawReader_expect_44 (by decide) (fun c15 => ?_) (fun c15 => ?_)
        · replace hf := xf c15 hf
          refine lv_iconst (v := 0) S.1 S.2.1 d_LawReader_expect_51 (by decide) ?_
          obtain ⟨rfl, rfl⟩ := xe2 hf
          exact x_zret S hr hlocks hw (by decide) d_LawReader_expect_52
        · replace hf := xt c15 hf
          refine lv_iconst (v := 1) S.1 S.2.1 d_LawReader_expect_47 (by decide) ?_
          refine lv_goto (tgt := 52) S.1 S.2.1 d_LawReader_expect_48 (by decide) ?_
          obtain ⟨rfl, rfl⟩ := xe2 hf
          exact x_zret S hr hlocks hw (by decide) d_LawReader_expect_52
      · replace hf := xt c9 hf
        refine lv_iconst (v := 1) S.1 S.2.1 d_LawReader_expect_27 (by decide) ?_
        refine lv_goto (tgt := 32) S.1 S.2.1 d_LawReader_expect_28 (by decide) ?_
        refine lv_aload_n S.1 S.2.1 d_LawReader_expect_32 rfl (lv_at hl 1 rfl) ?_
        obtain ⟨t16, ht16, hf⟩ := xb hf
        refine x_getr S hw lk_LawReader_20 ht16 d_LawReader_expect_33 ?_
        obtain ⟨t17, ht17, hf⟩ := xb hf
        refine x_geti S hw lk_LawReader_44 ht17 d_LawReader_expect_36 ?_
        obtain ⟨w20, h18, hf⟩ := xb hf
        obtain ⟨h18b, h18⟩ := xkb h18
        refine x_callV (As := [.int 1, .int t17]) (rest := []) (st1 := []) S hw (c_LawReader_refuse h18) (cwV 2 S.2.2.2.2 gv_LawReader_47 rfl rfl rfl hd_LawReader_refuse ⟨Nat.le_of_ble_eq_true rfl, Nat.le_of_ble_eq_true rfl⟩) rfl h18b rfl hl.1 rfl rfl (Nat.le_of_ble_eq_true rfl) d_LawReader_expect_39 ⟨Nat.le_of_ble_eq_true rfl, Nat.le_of_ble_eq_true rfl⟩ (fun H locs hw => ?_)
        refine lv_iload_n S.1 S.2.1 d_LawReader_expect_42 rfl (lv_at hl 0 rfl) ?_
        refine lv_iload_n S.1 S.2.1 d_LawReader_expect_43 rfl (lv_at hl 2 rfl) ?_
        refine lv_icmp_ne (tgt := 51) S.1 S.2.1 d_LawReader_expect_44 (by decide) (fun c21 => ?_) (fun c21 => ?_)
        · replace hf := xf c21 hf
          refine lv_iconst (v := 0) S.1 S.2.1 d_LawReader_expect_51 (by decide) ?_
          obtain ⟨rfl, rfl⟩ := xe2 hf
          exact x_zret S hr hlocks hw (by decide) d_LawReader_expect_52
        · replace hf := xt c21 hf
          refine lv_iconst (v := 1) S.1 S.2.1 d_LawReader_expect_47 (by decide) ?_
          refine lv_goto (tgt := 52) S.1 S.2.1 d_LawReader_expect_48 (by decide) ?_
          obtain ⟨rfl, rfl⟩ := xe2 hf
          exact x_zret S hr hlocks hw (by decide) d_LawReader_expect_52
  · replace hf := xf c2 hf
    refine lv_iconst (v := 0) S.1 S.2.1 d_LawReader_expect_7 (by decide) ?_
    obtain ⟨rfl, rfl⟩ := xe2 hf
    exact x_zret S hr hlocks hw (by decide) d_LawReader_expect_8
def f_Tokens_value_7 : Nat → Nat → Int32 → Int32 → xS → Option Int32
  | 0, _, _, _, _ => none
  | n + 1, a0, x1, x2, ω =>
    (xgi ω a0 10 3).bind fun t2 =>
    if t2 ≤ x2 then (
      some x1)
    else (
      (xgr ω a0 10 0).bind fun t4 =>
      (xk ω t4 9 (f_Tape_byteAt t4 x2 ω)).bind fun t6 =>
      f_Tokens_value_7  n a0 (((x1 * 10) + t6) - 48) (x2 + 1) ω)
set_option maxHeartbeats 4000000 in
set_option maxRecDepth 100000 in
theorem w_Tokens_value_7 {p : Program} {l : Launch} {e : Env} {s : State} {m : MethodId} {args : Array Value} {below : List Frame} {meth : Method} {c : Code} {E : xV} {z : Nat} {r : Int32} {ω : xS} (S : CallFix p m c b_Tokens_value 3 s args xTbl "RosterRules$Tokens") (hr : meth.sig.returnType = (some .int)) (hlocks : meth.locks = false) : ∀ n : Nat, ∀ (a0 : Nat) (x1 : Int32) (x2 : Int32) (H : Heap) (locs : List Loc) (ls : Array Slot), xW E z ω s s.heap H locs → lv_has ls 3 [(0, .ref a0), (1, .int x1), (2, .int x2)] → f_Tokens_value_7 n a0 x1 x2 ω = some r → W p l e (headSpec ws_Tokens_value { frames := 1, cells := 0, slots := 0, locals := 21 }).room s m args below meth c H locs 0 0 (MQ below (xQ E (some (.int r)) z ω) args s 0 0 (fun q => E.2.2 ≤ q)) (F0 m 7 ls []) := by
  intro n
  induction n with
  | zero =>
    intro a0 x1 x2 H locs ls hw hl hf
    have h2 : (none : Option Int32) = some r := hf
    cases h2
  | succ n ih =>
    intro a0 x1 x2 H locs ls hw hl hf
    rw [f_Tokens_value_7] at hf
    refine lv_iload_n S.1 S.2.1 d_Tokens_value_7 rfl (lv_at hl 2 rfl) ?_
    refine lv_aload_n S.1 S.2.1 d_Tokens_value_8 rfl (lv_at hl 0 rfl) ?_
    obtain ⟨t2, ht2, hf⟩ := xb hf
    refine x_geti S hw lk_Tokens_15 ht2 d_Tokens_value_9 ?_
    refine lv_icmp_ge (tgt := 38) S.1 S.2.1 d_Tokens_value_12 (by decide) (fun c3 => ?_) (fun c3 => ?_)
    · replace hf := xt c3 hf
      refine lv_iload_n S.1 S.2.1 d_Tokens_value_38 rfl (lv_at hl 1 rfl) ?_
      obtain rfl := xe1 hf
      exact x_iret S hr hlocks hw d_Tokens_value_39
    · replace hf := xf c3 hf
      refine lv_iload_n S.1 S.2.1 d_Tokens_value_15 rfl (lv_at hl 1 rfl) ?_
      refine lv_bipush (v := 10) S.1 S.2.1 d_Tokens_value_16 (by decide) ?_
      refine lv_imul S.1 S.2.1 d_Tokens_value_18 ?_
      refine lv_aload_n S.1 S.2.1 d_Tokens_value_19 rfl (lv_at hl 0 rfl) ?_
      obtain ⟨t4, ht4, hf⟩ := xb hf
      refine x_getr S hw lk_Tokens_9 ht4 d_Tokens_value_20 ?_
      refine lv_iload_n S.1 S.2.1 d_Tokens_value_23 rfl (lv_at hl 2 rfl) ?_
      obtain ⟨t6, h5, hf⟩ := xb hf
      obtain ⟨h5b, h5⟩ := xkb h5
      refine x_callV (As := [.int x2]) (rest := [.int (x1 * 10)]) (st1 := [.int t6, .int (x1 * 10)]) S hw (c_Tape_byteAt h5) (cwV 1 S.2.2.2.2 gv_Tokens_31 rfl rfl rfl hd_Tape_byteAt ⟨Nat.le_of_ble_eq_true rfl, Nat.le_of_ble_eq_true rfl⟩) rfl h5b rfl hl.1 rfl rfl (Nat.le_of_ble_eq_true rfl) d_Tokens_value_24 ⟨Nat.le_of_ble_eq_true rfl, Nat.le_of_ble_eq_true rfl⟩ (fun H locs hw => ?_)
      refine lv_iadd S.1 S.2.1 d_Tokens_value_27 ?_
      refine lv_bipush (v := 48) S.1 S.2.1 d_Tokens_value_28 (by decide) ?_
      refine lv_isub S.1 S.2.1 d_Tokens_value_30 ?_
      refine lv_istore_n (lv' := [(1, .int (((x1 * 10) + t6) - 48)), (0, .ref a0), (2, .int x2)]) S.1 S.2.1 d_Tokens_value_31 rfl hl (by decide) rfl (fun ls hl => ?_)
      refine lv_iinc (v := (x2 + 1)) (lv' := [(2, .int (x2 + 1)), (1, .int (((x1 * 10) + t6) - 48)), (0, .ref a0)]) S.1 S.2.1 d_Tokens_value_32 hl (k := 2) rfl rfl (by decide) rfl (fun ls hl => ?_)
      refine lv_goto (tgt := 7) S.1 S.2.1 d_Tokens_value_35 (by decide) ?_
      exact ih _ _ _ _ _ _ hw (lv_sub hl [2, 1, 0] rfl) hf
def f_Tokens_value (a0 : Nat) (ω : xS) : Option Int32 :=
  (xgi ω a0 10 2).bind fun t1 =>
  f_Tokens_value_7  xFU a0 0 t1 ω
set_option maxHeartbeats 4000000 in
set_option maxRecDepth 100000 in
theorem c_Tokens_value {l : Launch} {E : xV} {z : Nat} {a0 : Nat} {r : Int32} {ω : xS} (hf : f_Tokens_value a0 ω = some r) : xM l E y_Tokens_value ws_Tokens_value { frames := 1, cells := 0, slots := 0, locals := 21 } [.ref a0] z ω (some (.int r)) z ω := by
  refine x_start (cc := b_Tokens_value) (maxL := 3) (ret := (some .int)) (by decide) rfl (Nat.le_of_ble_eq_true rfl) ?_
  intro p e s m below meth c S hr hlocks hin ls hl hw
  have hl : lv_has ls 3 [(0, .ref a0)] := hl
  unfold f_Tokens_value at hf
  refine lv_iconst (v := 0) S.1 S.2.1 d_Tokens_value_0 (by decide) ?_
  refine lv_istore_n (lv' := [(1, .int 0), (0, .ref a0)]) S.1 S.2.1 d_Tokens_value_1 rfl hl (by decide) rfl (fun ls hl => ?_)
  refine lv_aload_n S.1 S.2.1 d_Tokens_value_2 rfl (lv_at hl 1 rfl) ?_
  obtain ⟨t1, ht1, hf⟩ := xb hf
  refine x_geti S hw lk_Tokens_19 ht1 d_Tokens_value_3 ?_
  refine lv_istore_n (lv' := [(2, .int t1), (1, .int 0), (0, .ref a0)]) S.1 S.2.1 d_Tokens_value_6 rfl hl (by decide) rfl (fun ls hl => ?_)
  exact w_Tokens_value_7 S hr hlocks  _ _ _ _ _ _ _ hw (lv_sub hl [2, 1, 0] rfl) hf
def f_LawReader_number (a0 : Nat) (x1 : Int32) (x2 : Int32) (ω : xS) : Option (Int32 × xS) :=
  xc (xk ω a0 5 (f_LawReader_expect a0 3 ω)) fun t2 w3 =>
  if t2 = 0 then (
    some (x1, w3))
  else (
    (xgr w3 a0 5 0).bind fun t5 =>
    (xk w3 t5 10 (f_Tokens_value t5  w3)).bind fun t7 =>
    if t7 < x1 then (
      (xgr w3 a0 5 0).bind fun t9 =>
      (xgi w3 t9 10 2).bind fun t10 =>
      (xk w3 a0 5 (f_LawReader_refuse a0 4 t10 w3)).bind fun w13 =>
      some (t7, w13))
    else (
      if t7 ≤ x2 then (
        some (t7, w3))
      else (
        (xgr w3 a0 5 0).bind fun t15 =>
        (xgi w3 t15 10 2).bind fun t16 =>
        (xk w3 a0 5 (f_LawReader_refuse a0 4 t16 w3)).bind fun w19 =>
        some (t7, w19))))
set_option maxHeartbeats 4000000 in
set_option maxRecDepth 100000 in
theorem c_LawReader_number {l : Launch} {E : xV} {z : Nat} {a0 : Nat} {x1 : Int32} {x2 : Int32} {r : Int32} {ω1 : xS} {ω : xS} (hf : f_LawReader_number a0 x1 x2 ω = some (r, ω1)) : xM l E y_LawReader_number ws_LawReader_number { frames := 4, cells := 0, slots := 0, locals := 86 } [.ref a0, .int x1, .int x2] z ω (some (.int r)) z ω1 := by
  refine x_start (cc := b_LawReader_number) (maxL := 4) (ret := (some .int)) (by decide) rfl (Nat.le_of_ble_eq_true rfl) ?_
  intro p e s m below meth c S hr hlocks hin ls hl hw
  have hl : lv_has ls 4 [(0, .ref a0), (1, .int x1), (2, .int x2)] := hl
  unfold f_LawReader_number at hf
  refine lv_aload_n S.1 S.2.1 d_LawReader_number_0 rfl (lv_at hl 0 rfl) ?_
  refine lv_iconst (v := 3) S.1 S.2.1 d_LawReader_number_1 (by decide) ?_
  obtain ⟨t2, w3, h1, hf⟩ := xcb hf
  obtain ⟨h1b, h1⟩ := xkb h1
  refine x_callV (As := [.int 3]) (rest := []) (st1 := [.int t2]) S hw (c_LawReader_expect h1) (cwV 1 S.2.2.2.2 gv_LawReader_94 rfl rfl rfl hd_LawReader_expect ⟨Nat.le_of_ble_eq_true rfl, Nat.le_of_ble_eq_true rfl⟩) rfl h1b rfl hl.1 rfl rfl (Nat.le_of_ble_eq_true rfl) d_LawReader_number_2 ⟨Nat.le_of_ble_eq_true rfl, Nat.le_of_ble_eq_true rfl⟩ (fun H locs hw => ?_)
  refine lv_if_ne (tgt := 10) S.1 S.2.1 d_LawReader_number_5 (by decide) (fun c4 => ?_) (fun c4 => ?_)
  · replace hf := xf c4 hf
    refine lv_aload_n S.1 S.2.1 d_LawReader_number_10 rfl (lv_at hl 0 rfl) ?_
    obtain ⟨t5, ht5, hf⟩ := xb hf
    refine x_getr S hw lk_LawReader_20 ht5 d_LawReader_number_11 ?_
    obtain ⟨t7, h6, hf⟩ := xb hf
    obtain ⟨h6b, h6⟩ := xkb h6
    refine x_callV (As := []) (rest := []) (st1 := [.int t7]) S hw (c_Tokens_value h6) (cwV 0 S.2.2.2.2 gv_LawReader_106 rfl rfl rfl hd_Tokens_value ⟨Nat.le_of_ble_eq_true rfl, Nat.le_of_ble_eq_true rfl⟩) rfl h6b rfl hl.1 rfl rfl (Nat.le_of_ble_eq_true rfl) d_LawReader_number_14 ⟨Nat.le_of_ble_eq_true rfl, Nat.le_of_ble_eq_true rfl⟩ (fun H locs hw => ?_)
    refine lv_istore_n (lv' := [(3, .int t7), (0, .ref a0), (1, .int x1), (2, .int x2)]) S.1 S.2.1 d_LawReader_number_17 rfl hl (by decide) rfl (fun ls hl => ?_)
    refine lv_iload_n S.1 S.2.1 d_LawReader_number_18 rfl (lv_at hl 0 rfl) ?_
    refine lv_iload_n S.1 S.2.1 d_LawReader_number_19 rfl (lv_at hl 2 rfl) ?_
    refine lv_icmp_lt (tgt := 28) S.1 S.2.1 d_LawReader_number_20 (by decide) (fun c8 => ?_) (fun c8 => ?_)
    · replace hf := xt c8 hf
      refine lv_aload_n S.1 S.2.1 d_LawReader_number_28 rfl (lv_at hl 1 rfl) ?_
      refine lv_iconst (v := 4) S.1 S.2.1 d_LawReader_number_29 (by decide) ?_
      refine lv_aload_n S.1 S.2.1 d_LawReader_number_30 rfl (lv_at hl 1 rfl) ?_
      obtain ⟨t9, ht9, hf⟩ := xb hf
      refine x_getr S hw lk_LawReader_20 ht9 d_LawReader_number_31 ?_
      obtain ⟨t10, ht10, hf⟩ := xb hf
      refine x_geti S hw lk_LawReader_44 ht10 d_LawReader_number_34 ?_
      obtain ⟨w13, h11, hf⟩ := xb hf
      obtain ⟨h11b, h11⟩ := xkb h11
      refine x_callV (As := [.int 4, .int t10]) (rest := []) (st1 := []) S hw (c_LawReader_refuse h11) (cwV 2 S.2.2.2.2 gv_LawReader_47 rfl rfl rfl hd_LawReader_refuse ⟨Nat.le_of_ble_eq_true rfl, Nat.le_of_ble_eq_true rfl⟩) rfl h11b rfl hl.1 rfl rfl (Nat.le_of_ble_eq_true rfl) d_LawReader_number_37 ⟨Nat.le_of_ble_eq_true rfl, Nat.le_of_ble_eq_true rfl⟩ (fun H locs hw => ?_)
      refine lv_iload_n S.1 S.2.1 d_LawReader_number_40 rfl (lv_at hl 0 rfl) ?_
      obtain ⟨rfl, rfl⟩ := xe2 hf
      exact x_iret S hr hlocks hw d_LawReader_number_41
    · replace hf := xf c8 hf
      refine lv_iload_n S.1 S.2.1 d_LawReader_number_23 rfl (lv_at hl 0 rfl) ?_
      refine lv_iload_n S.1 S.2.1 d_LawReader_number_24 rfl (lv_at hl 3 rfl) ?_
      refine lv_icmp_le (tgt := 40) S.1 S.2.1 d_LawReader_number_25 (by decide) (fun c14 => ?_) (fun c14 => ?_)
      · replace hf := xt c14 hf
        refine lv_iload_n S.1 S.2.1 d_LawReader_number_40 rfl (lv_at hl 0 rfl) ?_
        obtain ⟨rfl, rfl⟩ := xe2 hf
        exact x_iret S hr hlocks hw d_LawReader_number_41
      · replace hf := xf c14 hf
        refine lv_aload_n S.1 S.2.1 d_LawReader_number_28 rfl (lv_at hl 1 rfl) ?_
        refine lv_iconst (v := 4) S.1 S.2.1 d_LawReader_number_29 (by decide) ?_
        refine lv_aload_n S.1 S.2.1 d_LawReader_number_30 rfl (lv_at hl 1 rfl) ?_
        obtain ⟨t15, ht15, hf⟩ := xb hf
        refine x_getr S hw lk_LawReader_20 ht15 d_LawReader_number_31 ?_
        obtain ⟨t16, ht16, hf⟩ := xb hf
        refine x_geti S hw lk_LawReader_44 ht16 d_LawReader_number_34 ?_
        obtain ⟨w19, h17, hf⟩ := xb hf
        obtain ⟨h17b, h17⟩ := xkb h17
        refine x_callV (As := [.int 4, .int t16]) (rest := []) (st1 := []) S hw (c_LawReader_refuse h17) (cwV 2 S.2.2.2.2 gv_LawReader_47 rfl rfl rfl hd_LawReader_refuse ⟨Nat.le_of_ble_eq_true rfl, Nat.le_of_ble_eq_true rfl⟩) rfl h17b rfl hl.1 rfl rfl (Nat.le_of_ble_eq_true rfl) d_LawReader_number_37 ⟨Nat.le_of_ble_eq_true rfl, Nat.le_of_ble_eq_true rfl⟩ (fun H locs hw => ?_)
        refine lv_iload_n S.1 S.2.1 d_LawReader_number_40 rfl (lv_at hl 0 rfl) ?_
        obtain ⟨rfl, rfl⟩ := xe2 hf
        exact x_iret S hr hlocks hw d_LawReader_number_41
  · replace hf := xt c4 hf
    refine lv_iload_n S.1 S.2.1 d_LawReader_number_8 rfl (lv_at hl 1 rfl) ?_
    obtain ⟨rfl, rfl⟩ := xe2 hf
    exact x_iret S hr hlocks hw d_LawReader_number_9
def f_Positions_clear_33 : Nat → Nat → Int32 → xS → Option xS
  | 0, _, _, _ => none
  | n + 1, a0, x1, ω =>
    if 10 ≤ x1 then (
      some ω)
    else (
      (xgr ω a0 7 1).bind fun t7 =>
      (xsi ω t7 x1 0).bind fun w8 =>
      f_Positions_clear_33  n a0 (x1 + 1) w8)
set_option maxHeartbeats 4000000 in
set_option maxRecDepth 100000 in
theorem w_Positions_clear_33 {p : Program} {l : Launch} {e : Env} {s : State} {m : MethodId} {args : Array Value} {below : List Frame} {meth : Method} {c : Code} {E : xV} {z : Nat} {ω1 : xS} (S : CallFix p m c b_Positions_clear 2 s args xTbl "RosterRules$Positions") (hr : meth.sig.returnType = none) (hlocks : meth.locks = false) : ∀ n : Nat, ∀ (a0 : Nat) (x1 : Int32) (ω : xS) (H : Heap) (locs : List Loc) (ls : Array Slot), xW E z ω s s.heap H locs → lv_has ls 2 [(0, .ref a0), (1, .int x1)] → f_Positions_clear_33 n a0 x1 ω = some ω1 → W p l e (headSpec ws_Positions_clear { frames := 0, cells := 0, slots := 0, locals := 0 }).room s m args below meth c H locs 0 0 (MQ below (xQ E none z ω1) args s 0 0 (fun q => E.2.2 ≤ q)) (F0 m 33 ls []) := by
  intro n
  induction n with
  | zero =>
    intro a0 x1 ω H locs ls hw hl hf
    have h2 : (none : Option xS) = some ω1 := hf
    cases h2
  | succ n ih =>
    intro a0 x1 ω H locs ls hw hl hf
    rw [f_Positions_clear_33] at hf
    refine lv_iload_n S.1 S.2.1 d_Positions_clear_33 rfl (lv_at hl 1 rfl) ?_
    refine lv_bipush (v := 10) S.1 S.2.1 d_Positions_clear_34 (by decide) ?_
    refine lv_icmp_ge (tgt := 52) S.1 S.2.1 d_Positions_clear_36 (by decide) (fun c6 => ?_) (fun c6 => ?_)
    · replace hf := xt c6 hf
      cases hf
      exact x_vret S hr hlocks hw d_Positions_clear_52
    · replace hf := xf c6 hf
      refine lv_aload_n S.1 S.2.1 d_Positions_clear_39 rfl (lv_at hl 0 rfl) ?_
      obtain ⟨t7, ht7, hf⟩ := xb hf
      refine x_getr S hw lk_Positions_15 ht7 d_Positions_clear_40 ?_
      refine lv_iload_n S.1 S.2.1 d_Positions_clear_43 rfl (lv_at hl 1 rfl) ?_
      refine lv_iconst (v := 0) S.1 S.2.1 d_Positions_clear_44 (by decide) ?_
      obtain ⟨w8, hw8, hf⟩ := xb hf
      refine x_iast S hw hw8 d_Positions_clear_45 (fun H locs hw => ?_)
      refine lv_iinc (v := (x1 + 1)) (lv' := [(1, .int (x1 + 1)), (0, .ref a0)]) S.1 S.2.1 d_Positions_clear_46 hl (k := 1) rfl rfl (by decide) rfl (fun ls hl => ?_)
      refine lv_goto (tgt := 33) S.1 S.2.1 d_Positions_clear_49 (by decide) ?_
      exact ih _ _ _ _ _ _ hw (lv_sub hl [1, 0] rfl) hf
def f_Positions_clear_12 : Nat → Nat → Int32 → xS → Option xS
  | 0, _, _, _ => none
  | n + 1, a0, x1, ω =>
    if 9 ≤ x1 then (
      f_Positions_clear_33  xFU a0 0 ω)
    else (
      (xgr ω a0 7 0).bind fun t4 =>
      (xsi ω t4 x1 0).bind fun w5 =>
      f_Positions_clear_12  n a0 (x1 + 1) w5)
set_option maxHeartbeats 4000000 in
set_option maxRecDepth 100000 in
theorem w_Positions_clear_12 {p : Program} {l : Launch} {e : Env} {s : State} {m : MethodId} {args : Array Value} {below : List Frame} {meth : Method} {c : Code} {E : xV} {z : Nat} {ω1 : xS} (S : CallFix p m c b_Positions_clear 2 s args xTbl "RosterRules$Positions") (hr : meth.sig.returnType = none) (hlocks : meth.locks = false) : ∀ n : Nat, ∀ (a0 : Nat) (x1 : Int32) (ω : xS) (H : Heap) (locs : List Loc) (ls : Array Slot), xW E z ω s s.heap H locs → lv_has ls 2 [(0, .ref a0), (1, .int x1)] → f_Positions_clear_12 n a0 x1 ω = some ω1 → W p l e (headSpec ws_Positions_clear { frames := 0, cells := 0, slots := 0, locals := 0 }).room s m args below meth c H locs 0 0 (MQ below (xQ E none z ω1) args s 0 0 (fun q => E.2.2 ≤ q)) (F0 m 12 ls []) := by
  intro n
  induction n with
  | zero =>
    intro a0 x1 ω H locs ls hw hl hf
    have h2 : (none : Option xS) = some ω1 := hf
    cases h2
  | succ n ih =>
    intro a0 x1 ω H locs ls hw hl hf
    rw [f_Positions_clear_12] at hf
    refine lv_iload_n S.1 S.2.1 d_Positions_clear_12 rfl (lv_at hl 1 rfl) ?_
    refine lv_bipush (v := 9) S.1 S.2.1 d_Positions_clear_13 (by decide) ?_
    refine lv_icmp_ge (tgt := 31) S.1 S.2.1 d_Positions_clear_15 (by decide) (fun c3 => ?_) (fun c3 => ?_)
    · replace hf := xt c3 hf
      refine lv_iconst (v := 0) S.1 S.2.1 d_Positions_clear_31 (by decide) ?_
      refine lv_istore_n (lv' := [(1, .int 0), (0, .ref a0)]) S.1 S.2.1 d_Positions_clear_32 rfl hl (by decide) rfl (fun ls hl => ?_)
      exact w_Positions_clear_33 S hr hlocks  _ _ _ _ _ _ _ hw (lv_sub hl [1, 0] rfl) hf
    · replace hf := xf c3 hf
      refine lv_aload_n S.1 S.2.1 d_Positions_clear_18 rfl (lv_at hl 0 rfl) ?_
      obtain ⟨t4, ht4, hf⟩ := xb hf
      refine x_getr S hw lk_Positions_11 ht4 d_Positions_clear_19 ?_
      refine lv_iload_n S.1 S.2.1 d_Positions_clear_22 rfl (lv_at hl 1 rfl) ?_
      refine lv_iconst (v := 0) S.1 S.2.1 d_Positions_clear_23 (by decide) ?_
      obtain ⟨w5, hw5, hf⟩ := xb hf
      refine x_iast S hw hw5 d_Positions_clear_24 (fun H locs hw => ?_)
      refine lv_iinc (v := (x1 + 1)) (lv' := [(1, .int (x1 + 1)), (0, .ref a0)]) S.1 S.2.1 d_Positions_clear_25 hl (k := 1) rfl rfl (by decide) rfl (fun ls hl => ?_)
      refine lv_goto (tgt := 12) S.1 S.2.1 d_Positions_clear_28 (by decide) ?_
      exact ih _ _ _ _ _ _ hw (lv_sub hl [1, 0] rfl) hf
def f_Positions_clear (a0 : Nat) (ω : xS) : Option xS :=
  (xp ω a0 7 4 (.int 0)).bind fun w1 =>
  (xp w1 a0 7 5 (.int 0)).bind fun w2 =>
  f_Positions_clear_12  xFU a0 0 w2
set_option maxHeartbeats 4000000 in
set_option maxRecDepth 100000 in
theorem c_Positions_clear {l : Launch} {E : xV} {z : Nat} {a0 : Nat} {ω1 : xS} {ω : xS} (hf : f_Positions_clear a0 ω = some ω1) : xM l E y_Positions_clear ws_Positions_clear { frames := 0, cells := 0, slots := 0, locals := 0 } [.ref a0] z ω none z ω1 := by
  refine x_start (cc := b_Positions_clear) (maxL := 2) (ret := none) (by decide) rfl (Nat.le_of_ble_eq_true rfl) ?_
  intro p e s m below meth c S hr hlocks hin ls hl hw
  have hl : lv_has ls 2 [(0, .ref a0)] := hl
  unfold f_Positions_clear at hf
  refine lv_aload_n S.1 S.2.1 d_Positions_clear_0 rfl (lv_at hl 0 rfl) ?_
  refine lv_iconst (v := 0) S.1 S.2.1 d_Positions_clear_1 (by decide) ?_
  obtain ⟨w1, hw1, hf⟩ := xb hf
  refine x_puti S hw lp_Positions_24 hw1 d_Positions_clear_2 (fun H locs hw => ?_)
  refine lv_aload_n S.1 S.2.1 d_Positions_clear_5 rfl (lv_at hl 0 rfl) ?_
  refine lv_iconst (v := 0) S.1 S.2.1 d_Positions_clear_6 (by decide) ?_
  obtain ⟨w2, hw2, hf⟩ := xb hf
  refine x_put S hw lp_Positions_28 (by decide) rfl hw2 d_Positions_clear_7 (fun H locs hw => ?_)
  refine lv_iconst (v := 0) S.1 S.2.1 d_Positions_clear_10 (by decide) ?_
  refine lv_istore_n (lv' := [(1, .int 0), (0, .ref a0)]) S.1 S.2.1 d_Positions_clear_11 rfl hl (by decide) rfl (fun ls hl => ?_)
  exact w_Positions_clear_12 S hr hlocks  _ _ _ _ _ _ _ hw (lv_sub hl [1, 0] rfl) hf
def f_PatternParser_letterBit (a0 : Nat) (x1 : Int32) (ω : xS) : Option Int32 :=
  if x1 = 45 then (
    some 1)
  else (
    if x1 < 97 then (
      some 0)
    else (
      if 104 < x1 then (
        some 0)
      else (
        some (1 <<< (((x1 - 97) + 1) &&& 31)))))
set_option maxHeartbeats 4000000 in
set_option maxRecDepth 100000 in
theorem c_PatternParser_letterBit {l : Launch} {E : xV} {z : Nat} {a0 : Nat} {x1 : Int32} {r : Int32} {ω : xS} (hf : f_PatternParser_letterBit a0 x1 ω = some r) : xM l E y_PatternParser_letterBit ws_PatternParser_letterBit { frames := 0, cells := 0, slots := 0, locals := 0 } [.ref a0, .int x1] z ω (some (.int r)) z ω := by
  refine x_start (cc := b_PatternParser_letterBit) (maxL := 2) (ret := (some .int)) (by decide) rfl (Nat.le_of_ble_eq_true rfl) ?_
  intro p e s m below meth c S hr hlocks hin ls hl hw
  have hl : lv_has ls 2 [(0, .ref a0), (1, .int x1)] := hl
  unfold f_PatternParser_letterBit at hf
  refine lv_iload_n S.1 S.2.1 d_PatternParser_letterBit_0 rfl (lv_at hl 1 rfl) ?_
  refine lv_bipush (v := 45) S.1 S.2.1 d_PatternParser_letterBit_1 (by decide) ?_
  refine lv_icmp_ne (tgt := 8) S.1 S.2.1 d_PatternParser_letterBit_3 (by decide) (fun c1 => ?_) (fun c1 => ?_)
  · replace hf := xf c1 hf
    refine lv_iload_n S.1 S.2.1 d_PatternParser_letterBit_8 rfl (lv_at hl 1 rfl) ?_
    refine lv_bipush (v := 97) S.1 S.2.1 d_PatternParser_letterBit_9 (by decide) ?_
    refine lv_icmp_lt (tgt := 31) S.1 S.2.1 d_PatternParser_letterBit_11 (by decide) (fun c2 => ?_) (fun c2 => ?_)
    · replace hf := xt c2 hf
      refine lv_iconst (v := 0) S.1 S.2.1 d_PatternParser_letterBit_31 (by decide) ?_
      obtain rfl := xe1 hf
      exact x_iret S hr hlocks hw d_PatternParser_letterBit_32
    · replace hf := xf c2 hf
      refine lv_iload_n S.1 S.2.1 d_PatternParser_letterBit_14 rfl (lv_at hl 1 rfl) ?_
      refine lv_bipush (v := 104) S.1 S.2.1 d_PatternParser_letterBit_15 (by decide) ?_
      refine lv_icmp_gt (tgt := 31) S.1 S.2.1 d_PatternParser_letterBit_17 (by decide) (fun c3 => ?_) (fun c3 => ?_)
      · replace hf := xt c3 hf
        refine lv_iconst (v := 0) S.1 S.2.1 d_PatternParser_letterBit_31 (by decide) ?_
        obtain rfl := xe1 hf
        exact x_iret S hr hlocks hw d_PatternParser_letterBit_32
      · replace hf := xf c3 hf
        refine lv_iconst (v := 1) S.1 S.2.1 d_PatternParser_letterBit_20 (by decide) ?_
        refine lv_iload_n S.1 S.2.1 d_PatternParser_letterBit_21 rfl (lv_at hl 1 rfl) ?_
        refine lv_bipush (v := 97) S.1 S.2.1 d_PatternParser_letterBit_22 (by decide) ?_
        refine lv_isub S.1 S.2.1 d_PatternParser_letterBit_24 ?_
        refine lv_iconst (v := 1) S.1 S.2.1 d_PatternParser_letterBit_25 (by decide) ?_
        refine lv_iadd S.1 S.2.1 d_PatternParser_letterBit_26 ?_
        refine lv_ishl S.1 S.2.1 d_PatternParser_letterBit_27 ?_
        refine lv_goto (tgt := 32) S.1 S.2.1 d_PatternParser_letterBit_28 (by decide) ?_
        obtain rfl := xe1 hf
        exact x_iret S hr hlocks hw d_PatternParser_letterBit_32
  · replace hf := xt c1 hf
    refine lv_iconst (v := 1) S.1 S.2.1 d_PatternParser_letterBit_6 (by decide) ?_
    obtain rfl := xe1 hf
    exact x_iret S hr hlocks hw d_PatternParser_letterBit_7
def f_PatternParser_refuse (a0 : Nat) (x1 : Int32) (x2 : Int32) (ω : xS) : Option xS :=
  (xp ω a0 6 10 (.int x1)).bind fun w1 =>
  (xp w1 a0 6 11 (.int x2)).bind fun w2 =>
  some w2
set_option maxHeartbeats 4000000 in
set_option maxRecDepth 100000 in
theorem c_PatternParser_refuse {l : Launch} {E : xV} {z : Nat} {a0 : Nat} {x1 : Int32} {x2 : Int32} {ω1 : xS} {ω : xS} (hf : f_PatternParser_refuse a0 x1 x2 ω = some ω1) : xM l E y_PatternParser_refuse ws_PatternParser_refuse { frames := 0, cells := 0, slots := 0, locals := 0 } [.ref a0, .int x1, .int x2] z ω none z ω1 := by
  refine x_start (cc := b_PatternParser_refuse) (maxL := 3) (ret := none) (by decide) rfl (Nat.le_of_ble_eq_true rfl) ?_
  intro p e s m below meth c S hr hlocks hin ls hl hw
  have hl : lv_has ls 3 [(0, .ref a0), (1, .int x1), (2, .int x2)] := hl
  unfold f_PatternParser_refuse at hf
  refine lv_aload_n S.1 S.2.1 d_PatternParser_refuse_0 rfl (lv_at hl 0 rfl) ?_
  refine lv_iload_n S.1 S.2.1 d_PatternParser_refuse_1 rfl (lv_at hl 1 rfl) ?_
  obtain ⟨w1, hw1, hf⟩ := xb hf
  refine x_puti S hw lp_PatternParser_32 hw1 d_PatternParser_refuse_2 (fun H locs hw => ?_)
  refine lv_aload_n S.1 S.2.1 d_PatternParser_refuse_5 rfl (lv_at hl 0 rfl) ?_
  refine lv_iload_n S.1 S.2.1 d_PatternParser_refuse_6 rfl (lv_at hl 2 rfl) ?_
  obtain ⟨w2, hw2, hf⟩ := xb hf
  refine x_puti S hw lp_PatternParser_73 hw2 d_PatternParser_refuse_7 (fun H locs hw => ?_)
  cases hf
  exact x_vret S hr hlocks hw d_PatternParser_refuse_10
def f_PatternParser_choice_139 (a0 : Nat) (x1 : Int32) (x2 : Int32) (ω : xS) : Option (Int32 × xS) :=
  (xgi ω a0 6 9).bind fun t37 =>
  (xk ω a0 6 (f_PatternParser_refuse a0 2 t37 ω)).bind fun w40 =>
  if x1 = 0 then (
    some (x2, w40))
  else (
    some ((511 &&& (x2 ^^^ (-1))), w40))
set_option maxHeartbeats 4000000 in
set_option maxRecDepth 100000 in
theorem w_PatternParser_choice_139 {p : Program} {l : Launch} {e : Env} {s : State} {m : MethodId} {args : Array Value} {below : List Frame} {meth : Method} {c : Code} {E : xV} {z : Nat} {r : Int32} {ω1 : xS} (S : CallFix p m c b_PatternParser_choice 4 s args xTbl "RosterRules$PatternParser") (hr : meth.sig.returnType = (some .int)) (hlocks : meth.locks = false) : ∀ (a0 : Nat) (x1 : Int32) (x2 : Int32) (ω : xS) (H : Heap) (locs : List Loc) (ls : Array Slot), xW E z ω s s.heap H locs → lv_has ls 4 [(0, .ref a0), (1, .int x1), (2, .int x2)] → f_PatternParser_choice_139 a0 x1 x2 ω = some (r, ω1) → W p l e (headSpec ws_PatternParser_choice { frames := 1, cells := 0, slots := 0, locals := 22 }).room s m args below meth c H locs 0 0 (MQ below (xQ E (some (.int r)) z ω1) args s 0 0 (fun q => E.2.2 ≤ q)) (F0 m 139 ls []) := by
  intro a0 x1 x2 ω H locs ls hw hl hf
  unfold f_PatternParser_choice_139 at hf
  refine lv_aload_n S.1 S.2.1 d_PatternParser_choice_139 rfl (lv_at hl 0 rfl) ?_
  refine lv_iconst (v := 2) S.1 S.2.1 d_PatternParser_choice_140 (by decide) ?_
  refine lv_aload_n S.1 S.2.1 d_PatternParser_choice_141 rfl (lv_at hl 0 rfl) ?_
  obtain ⟨t37, ht37, hf⟩ := xb hf
  refine x_geti S hw lk_PatternParser_40 ht37 d_PatternParser_choice_142 ?_
  obtain ⟨w40, h38, hf⟩ := xb hf
  obtain ⟨h38b, h38⟩ := xkb h38
  refine x_callV (As := [.int 2, .int t37]) (rest := []) (st1 := []) S hw (c_PatternParser_refuse h38) (cwV 2 S.2.2.2.2 gv_PatternParser_65 rfl rfl rfl hd_PatternParser_refuse ⟨Nat.le_of_ble_eq_true rfl, Nat.le_of_ble_eq_true rfl⟩) rfl h38b rfl hl.1 rfl rfl (Nat.le_of_ble_eq_true rfl) d_PatternParser_choice_145 ⟨Nat.le_of_ble_eq_true rfl, Nat.le_of_ble_eq_true rfl⟩ (fun H locs hw => ?_)
  refine lv_iload_n S.1 S.2.1 d_PatternParser_choice_148 rfl (lv_at hl 1 rfl) ?_
  refine lv_if_eq (tgt := 162) S.1 S.2.1 d_PatternParser_choice_149 (by decide) (fun c41 => ?_) (fun c41 => ?_)
  · replace hf := xt c41 hf
    refine lv_iload_n S.1 S.2.1 d_PatternParser_choice_162 rfl (lv_at hl 2 rfl) ?_
    obtain ⟨rfl, rfl⟩ := xe2 hf
    exact x_iret S hr hlocks hw d_PatternParser_choice_163
  · replace hf := xf c41 hf
    refine lv_sipush (v := 511) S.1 S.2.1 d_PatternParser_choice_152 (by decide) ?_
    refine lv_iload_n S.1 S.2.1 d_PatternParser_choice_155 rfl (lv_at hl 2 rfl) ?_
    refine lv_iconst (v := (-1)) S.1 S.2.1 d_PatternParser_choice_156 (by decide) ?_
    refine lv_ixor S.1 S.2.1 d_PatternParser_choice_157 ?_
    refine lv_iand S.1 S.2.1 d_PatternParser_choice_158 ?_
    refine lv_goto (tgt := 163) S.1 S.2.1 d_PatternParser_choice_159 (by decide) ?_
    obtain ⟨rfl, rfl⟩ := xe2 hf
    exact x_iret S hr hlocks hw d_PatternParser_choice_163
def f_PatternParser_choice_108 (a0 : Nat) (x1 : Int32) (x2 : Int32) (ω : xS) : Option (Int32 × xS) :=
  if x2 = 0 then (
    f_PatternParser_choice_139  a0 x1 x2 ω)
  else (
    (xgr ω a0 6 0).bind fun t28 =>
    (xgi ω a0 6 9).bind fun t29 =>
    (xk ω t28 9 (f_Tape_byteAt t28 t29 ω)).bind fun t31 =>
    if t31 = 93 then (
      if x1 = 0 then (
        if x1 = 0 then (
          some (x2, ω))
        else (
          some ((511 &&& (x2 ^^^ (-1))), ω)))
      else (
        if x2 = 511 then (
          f_PatternParser_choice_139  a0 x1 x2 ω)
        else (
          if x1 = 0 then (
            some (x2, ω))
          else (
            some ((511 &&& (x2 ^^^ (-1))), ω)))))
    else (
      f_PatternParser_choice_139  a0 x1 x2 ω))
set_option maxHeartbeats 4000000 in
set_option maxRecDepth 100000 in
theorem w_PatternParser_choice_108 {p : Program} {l : Launch} {e : Env} {s : State} {m : MethodId} {args : Array Value} {below : List Frame} {meth : Method} {c : Code} {E : xV} {z : Nat} {r : Int32} {ω1 : xS} (S : CallFix p m c b_PatternParser_choice 4 s args xTbl "RosterRules$PatternParser") (hr : meth.sig.returnType = (some .int)) (hlocks : meth.locks = false) : ∀ (a0 : Nat) (x1 : Int32) (x2 : Int32) (ω : xS) (H : Heap) (locs : List Loc) (ls : Array Slot), xW E z ω s s.heap H locs → lv_has ls 4 [(0, .ref a0), (1, .int x1), (2, .int x2)] → f_PatternParser_choice_108 a0 x1 x2 ω = some (r, ω1) → W p l e (headSpec ws_PatternParser_choice { frames := 1, cells := 0, slots := 0, locals := 22 }).room s m args below meth c H locs 0 0 (MQ below (xQ E (some (.int r)) z ω1) args s 0 0 (fun q => E.2.2 ≤ q)) (F0 m 108 ls []) := by
  intro a0 x1 x2 ω H locs ls hw hl hf
  unfold f_PatternParser_choice_108 at hf
  refine lv_iload_n S.1 S.2.1 d_PatternParser_choice_108 rfl (lv_at hl 2 rfl) ?_
  refine lv_if_eq (tgt := 139) S.1 S.2.1 d_PatternParser_choice_109 (by decide) (fun c27 => ?_) (fun c27 => ?_)
  · replace hf := xt c27 hf
    exact w_PatternParser_choice_139 S hr hlocks  _ _ _ _ _ _ _ hw (lv_sub hl [0, 1, 2] rfl) hf
  · replace hf := xf c27 hf
    refine lv_aload_n S.1 S.2.1 d_PatternParser_choice_112 rfl (lv_at hl 0 rfl) ?_
    obtain ⟨t28, ht28, hf⟩ := xb hf
    refine x_getr S hw lk_PatternParser_23 ht28 d_PatternParser_choice_113 ?_
    refine lv_aload_n S.1 S.2.1 d_PatternParser_choice_116 rfl (lv_at hl 0 rfl) ?_
    obtain ⟨t29, ht29, hf⟩ := xb hf
    refine x_geti S hw lk_PatternParser_40 ht29 d_PatternParser_choice_117 ?_
    obtain ⟨t31, h30, hf⟩ := xb hf
    obtain ⟨h30b, h30⟩ := xkb h30
    refine x_callV (As := [.int t29]) (rest := []) (st1 := [.int t31]) S hw (c_Tape_byteAt h30) (cwV 1 S.2.2.2.2 gv_PatternParser_50 rfl rfl rfl hd_Tape_byteAt ⟨Nat.le_of_ble_eq_true rfl, Nat.le_of_ble_eq_true rfl⟩) rfl h30b rfl hl.1 rfl rfl (Nat.le_of_ble_eq_true rfl) d_PatternParser_choice_120 ⟨Nat.le_of_ble_eq_true rfl, Nat.le_of_ble_eq_true rfl⟩ (fun H locs hw => ?_)
    refine lv_bipush (v := 93) S.1 S.2.1 d_PatternParser_choice_123 (by decide) ?_
    refine lv_icmp_ne (tgt := 139) S.1 S.2.1 d_PatternParser_choice_125 (by decide) (fun c32 => ?_) (fun c32 => ?_)
    · replace hf := xf c32 hf
      exact w_PatternParser_choice_139 S hr hlocks  _ _ _ _ _ _ _ hw (lv_sub hl [0, 1, 2] rfl) hf
    · replace hf := xt c32 hf
      refine lv_iload_n S.1 S.2.1 d_PatternParser_choice_128 rfl (lv_at hl 1 rfl) ?_
      refine lv_if_eq (tgt := 148) S.1 S.2.1 d_PatternParser_choice_129 (by decide) (fun c33 => ?_) (fun c33 => ?_)
      · replace hf := xt c33 hf
        refine lv_iload_n S.1 S.2.1 d_PatternParser_choice_148 rfl (lv_at hl 1 rfl) ?_
        refine lv_if_eq (tgt := 162) S.1 S.2.1 d_PatternParser_choice_149 (by decide) (fun c34 => ?_) (fun c34 => ?_)
        · replace hf := xt c34 hf
          refine lv_iload_n S.1 S.2.1 d_PatternParser_choice_162 rfl (lv_at hl 2 rfl) ?_
          obtain ⟨rfl, rfl⟩ := xe2 hf
          exact x_iret S hr hlocks hw d_PatternParser_choice_163
        · replace hf := xf c34 hf
          refine lv_sipush (v := 511) S.1 S.2.1 d_PatternParser_choice_152 (by decide) ?_
          refine lv_iload_n S.1 S.2.1 d_PatternParser_choice_155 rfl (lv_at hl 2 rfl) ?_
          refine lv_iconst (v := (-1)) S.1 S.2.1 d_PatternParser_choice_156 (by decide) ?_
          refine lv_ixor S.1 S.2.1 d_PatternParser_choice_157 ?_
          refine lv_iand S.1 S.2.1 d_PatternParser_choice_158 ?_
          refine lv_goto (tgt := 163) S.1 S.2.1 d_PatternParser_choice_159 (by decide) ?_
          obtain ⟨rfl, rfl⟩ := xe2 hf
          exact x_iret S hr hlocks hw d_PatternParser_choice_163
      · replace hf := xf c33 hf
        refine lv_iload_n S.1 S.2.1 d_PatternParser_choice_132 rfl (lv_at hl 2 rfl) ?_
        refine lv_sipush (v := 511) S.1 S.2.1 d_PatternParser_choice_133 (by decide) ?_
        refine lv_icmp_ne (tgt := 148) S.1 S.2.1 d_PatternParser_choice_136 (by decide) (fun c35 => ?_) (fun c35 => ?_)
        · replace hf := xf c35 hf
          refine lv_iload_n S.1 S.2.1 d_PatternParser_choice_148 rfl (lv_at hl 1 rfl) ?_
          refine lv_if_eq (tgt := 162) S.1 S.2.1 d_PatternParser_choice_149 (by decide) (fun c36 => ?_) (fun c36 => ?_)
          · replace hf := xt c36 hf
            refine lv_iload_n S.1 S.2.1 d_PatternParser_choice_162 rfl (lv_at hl 2 rfl) ?_
            obtain ⟨rfl, rfl⟩ := xe2 hf
            exact x_iret S hr hlocks hw d_PatternParser_choice_163
          · replace hf := xf c36 hf
            refine lv_sipush (v := 511) S.1 S.2.1 d_PatternParser_choice_152 (by decide) ?_
            refine lv_iload_n S.1 S.2.1 d_PatternParser_choice_155 rfl (lv_at hl 2 rfl) ?_
            refine lv_iconst (v := (-1)) S.1 S.2.1 d_PatternParser_choice_156 (by decide) ?_
            refine lv_ixor S.1 S.2.1 d_PatternParser_choice_157 ?_
            refine lv_iand S.1 S.2.1 d_PatternParser_choice_158 ?_
            refine lv_goto (tgt := 163) S.1 S.2.1 d_PatternParser_choice_159 (by decide) ?_
            obtain ⟨rfl, rfl⟩ := xe2 hf
            exact x_iret S hr hlocks hw d_PatternParser_choice_163
        · replace hf := xt c35 hf
          exact w_PatternParser_choice_139 S hr hlocks  _ _ _ _ _ _ _ hw (lv_sub hl [0, 1, 2] rfl) hf
def f_PatternParser_choice_50 : Nat → Nat → Int32 → Int32 → Int32 → xS → Option (Int32 × xS)
  | 0, _, _, _, _, _ => none
  | n + 1, a0, x1, x2, x3, ω =>
    if 40 ≤ x3 then (
      f_PatternParser_choice_108  a0 x1 x2 ω)
    else (
      (xgr ω a0 6 0).bind fun t12 =>
      (xgi ω a0 6 9).bind fun t13 =>
      (xk ω t12 9 (f_Tape_byteAt t12 t13 ω)).bind fun t15 =>
      (xk ω a0 6 (f_PatternParser_letterBit a0 t15 ω)).bind fun t17 =>
      if t17 = 0 then (
        f_PatternParser_choice_108  a0 x1 x2 ω)
      else (
        (xgr ω a0 6 0).bind fun t19 =>
        (xgi ω a0 6 9).bind fun t20 =>
        (xk ω t19 9 (f_Tape_byteAt t19 t20 ω)).bind fun t22 =>
        (xk ω a0 6 (f_PatternParser_letterBit a0 t22 ω)).bind fun t24 =>
        (xgi ω a0 6 9).bind fun t25 =>
        (xp ω a0 6 9 (.int (t25 + 1))).bind fun w26 =>
        f_PatternParser_choice_50  n a0 x1 (x2 ||| t24) (x3 + 1) w26))
set_option maxHeartbeats 4000000 in
set_option maxRecDepth 100000 in
theorem w_PatternParser_choice_50 {p : Program} {l : Launch} {e : Env} {s : State} {m : MethodId} {args : Array Value} {below : List Frame} {meth : Method} {c : Code} {E : xV} {z : Nat} {r : Int32} {ω1 : xS} (S : CallFix p m c b_PatternParser_choice 4 s args xTbl "RosterRules$PatternParser") (hr : meth.sig.returnType = (some .int)) (hlocks : meth.locks = false) : ∀ n : Nat, ∀ (a0 : Nat) (x1 : Int32) (x2 : Int32) (x3 : Int32) (ω : xS) (H : Heap) (locs : List Loc) (ls : Array Slot), xW E z ω s s.heap H locs → lv_has ls 4 [(0, .ref a0), (1, .int x1), (2, .int x2), (3, .int x3)] → f_PatternParser_choice_50 n a0 x1 x2 x3 ω = some (r, ω1) → W p l e (headSpec ws_PatternParser_choice { frames := 1, cells := 0, slots := 0, locals := 22 }).room s m args below meth c H locs 0 0 (MQ below (xQ E (some (.int r)) z ω1) args s 0 0 (fun q => E.2.2 ≤ q)) (F0 m 50 ls []) := by
  intro n
  induction n with
  | zero =>
    intro a0 x1 x2 x3 ω H locs ls hw hl hf
    have h2 : (none : Option (Int32 × xS)) = some (r, ω1) := hf
    cases h2
  | succ n ih =>
    intro a0 x1 x2 x3 ω H locs ls hw hl hf
    rw [f_PatternParser_choice_50] at hf
    refine lv_iload_n S.1 S.2.1 d_PatternParser_choice_50 rfl (lv_at hl 3 rfl) ?_
    refine lv_bipush (v := 40) S.1 S.2.1 d_PatternParser_choice_51 (by decide) ?_
    refine lv_icmp_ge (tgt := 108) S.1 S.2.1 d_PatternParser_choice_53 (by decide) (fun c11 => ?_) (fun c11 => ?_)
    · replace hf := xt c11 hf
      exact w_PatternParser_choice_108 S hr hlocks  _ _ _ _ _ _ _ hw (lv_sub hl [0, 1, 2] rfl) hf
    · replace hf := xf c11 hf
      refine lv_aload_n S.1 S.2.1 d_PatternParser_choice_56 rfl (lv_at hl 0 rfl) ?_
      refine lv_aload_n S.1 S.2.1 d_PatternParser_choice_57 rfl (lv_at hl 0 rfl) ?_
      obtain ⟨t12, ht12, hf⟩ := xb hf
      refine x_getr S hw lk_PatternParser_23 ht12 d_PatternParser_choice_58 ?_
      refine lv_aload_n S.1 S.2.1 d_PatternParser_choice_61 rfl (lv_at hl 0 rfl) ?_
      obtain ⟨t13, ht13, hf⟩ := xb hf
      refine x_geti S hw lk_PatternParser_40 ht13 d_PatternParser_choice_62 ?_
      obtain ⟨t15, h14, hf⟩ := xb hf
      obtain ⟨h14b, h14⟩ := xkb h14
      refine x_callV (As := [.int t13]) (rest := [.ref a0]) (st1 := [.int t15, .ref a0]) S hw (c_Tape_byteAt h14) (cwV 1 S.2.2.2.2 gv_PatternParser_50 rfl rfl rfl hd_Tape_byteAt ⟨Nat.le_of_ble_eq_true rfl, Nat.le_of_ble_eq_true rfl⟩) rfl h14b rfl hl.1 rfl rfl (Nat.le_of_ble_eq_true rfl) d_PatternParser_choice_65 ⟨Nat.le_of_ble_eq_true rfl, Nat.le_of_ble_eq_true rfl⟩ (fun H locs hw => ?_)
      obtain ⟨t17, h16, hf⟩ := xb hf
      obtain ⟨h16b, h16⟩ := xkb h16
      refine x_callV (As := [.int t15]) (rest := []) (st1 := [.int t17]) S hw (c_PatternParser_letterBit h16) (cwV 1 S.2.2.2.2 gv_PatternParser_80 rfl rfl rfl hd_PatternParser_letterBit ⟨Nat.le_of_ble_eq_true rfl, Nat.le_of_ble_eq_true rfl⟩) rfl h16b rfl hl.1 rfl rfl (Nat.le_of_ble_eq_true rfl) d_PatternParser_choice_68 ⟨Nat.le_of_ble_eq_true rfl, Nat.le_of_ble_eq_true rfl⟩ (fun H locs hw => ?_)
      refine lv_if_eq (tgt := 108) S.1 S.2.1 d_PatternParser_choice_71 (by decide) (fun c18 => ?_) (fun c18 => ?_)
      · replace hf := xt c18 hf
        exact w_PatternParser_choice_108 S hr hlocks  _ _ _ _ _ _ _ hw (lv_sub hl [0, 1, 2] rfl) hf
      · replace hf := xf c18 hf
        refine lv_iload_n S.1 S.2.1 d_PatternParser_choice_74 rfl (lv_at hl 2 rfl) ?_
        refine lv_aload_n S.1 S.2.1 d_PatternParser_choice_75 rfl (lv_at hl 0 rfl) ?_
        refine lv_aload_n S.1 S.2.1 d_PatternParser_choice_76 rfl (lv_at hl 0 rfl) ?_
        obtain ⟨t19, ht19, hf⟩ := xb hf
        refine x_getr S hw lk_PatternParser_23 ht19 d_PatternParser_choice_77 ?_
        refine lv_aload_n S.1 S.2.1 d_PatternParser_choice_80 rfl (lv_at hl 0 rfl) ?_
        obtain ⟨t20, ht20, hf⟩ := xb hf
        refine x_geti S hw lk_PatternParser_40 ht20 d_PatternParser_choice_81 ?_
        obtain ⟨t22, h21, hf⟩ := xb hf
        obtain ⟨h21b, h21⟩ := xkb h21
        refine x_callV (As := [.int t20]) (rest := [.ref a0, .int x2]) (st1 := [.int t22, .ref a0, .int x2]) S hw (c_Tape_byteAt h21) (cwV 1 S.2.2.2.2 gv_PatternParser_50 rfl rfl rfl hd_Tape_byteAt ⟨Nat.le_of_ble_eq_true rfl, Nat.le_of_ble_eq_true rfl⟩) rfl h21b rfl hl.1 rfl rfl (Nat.le_of_ble_eq_true rfl) d_PatternParser_choice_84 ⟨Nat.le_of_ble_eq_true rfl, Nat.le_of_ble_eq_true rfl⟩ (fun H locs hw => ?_)
        obtain ⟨t24, h23, hf⟩ := xb hf
        obtain ⟨h23b, h23⟩ := xkb h23
        refine x_callV (As := [.int t22]) (rest := [.int x2]) (st1 := [.int t24, .int x2]) S hw (c_PatternParser_letterBit h23) (cwV 1 S.2.2.2.2 gv_PatternParser_80 rfl rfl rfl hd_PatternParser_letterBit ⟨Nat.le_of_ble_eq_true rfl, Nat.le_of_ble_eq_true rfl⟩) rfl h23b rfl hl.1 rfl rfl (Nat.le_of_ble_eq_true rfl) d_PatternParser_choice_87 ⟨Nat.le_of_ble_eq_true rfl, Nat.le_of_ble_eq_true rfl⟩ (fun H locs hw => ?_)
        refine lv_ior S.1 S.2.1 d_PatternParser_choice_90 ?_
        refine lv_istore_n (lv' := [(2, .int (x2 ||| t24)), (0, .ref a0), (1, .int x1), (3, .int x3)]) S.1 S.2.1 d_PatternParser_choice_91 rfl hl (by decide) rfl (fun ls hl => ?_)
        refine lv_aload_n S.1 S.2.1 d_PatternParser_choice_92 rfl (lv_at hl 1 rfl) ?_
        refine lv_dup S.1 S.2.1 d_PatternParser_choice_93 rfl ?_
        obtain ⟨t25, ht25, hf⟩ := xb hf
        refine x_geti S hw lk_PatternParser_40 ht25 d_PatternParser_choice_94 ?_
        refine lv_iconst (v := 1) S.1 S.2.1 d_PatternParser_choice_97 (by decide) ?_
        refine lv_iadd S.1 S.2.1 d_PatternParser_choice_98 ?_
        obtain ⟨w26, hw26, hf⟩ := xb hf
        refine x_puti S hw lp_PatternParser_40 hw26 d_PatternParser_choice_99 (fun H locs hw => ?_)
        refine lv_iinc (v := (x3 + 1)) (lv' := [(3, .int (x3 + 1)), (2, .int (x2 ||| t24)), (0, .ref a0), (1, .int x1)]) S.1 S.2.1 d_PatternParser_choice_102 hl (k := 3) rfl rfl (by decide) rfl (fun ls hl => ?_)
        refine lv_goto (tgt := 50) S.1 S.2.1 d_PatternParser_choice_105 (by decide) ?_
        exact ih _ _ _ _ _ _ _ _ hw (lv_sub hl [2, 3, 1, 0] rfl) hf
def f_PatternParser_choice_31 (a0 : Nat) (y0 : Int32) (ω : xS) : Option (Int32 × xS) :=
  if y0 = 0 then (
    f_PatternParser_choice_50  xFU a0 y0 0 0 ω)
  else (
    (xgi ω a0 6 9).bind fun t9 =>
    (xp ω a0 6 9 (.int (t9 + 1))).bind fun w10 =>
    f_PatternParser_choice_50  xFU a0 y0 0 0 w10)
set_option maxHeartbeats 4000000 in
set_option maxRecDepth 100000 in
theorem w_PatternParser_choice_31 {p : Program} {l : Launch} {e : Env} {s : State} {m : MethodId} {args : Array Value} {below : List Frame} {meth : Method} {c : Code} {E : xV} {z : Nat} {r : Int32} {ω1 : xS} (S : CallFix p m c b_PatternParser_choice 4 s args xTbl "RosterRules$PatternParser") (hr : meth.sig.returnType = (some .int)) (hlocks : meth.locks = false) : ∀ (a0 : Nat) (y0 : Int32) (ω : xS) (H : Heap) (locs : List Loc) (ls : Array Slot), xW E z ω s s.heap H locs → lv_has ls 4 [(0, .ref a0)] → f_PatternParser_choice_31 a0 y0 ω = some (r, ω1) → W p l e (headSpec ws_PatternParser_choice { frames := 1, cells := 0, slots := 0, locals := 22 }).room s m args below meth c H locs 0 0 (MQ below (xQ E (some (.int r)) z ω1) args s 0 0 (fun q => E.2.2 ≤ q)) (F0 m 31 ls [.int y0]) := by
  intro a0 y0 ω H locs ls hw hl hf
  unfold f_PatternParser_choice_31 at hf
  refine lv_istore_n (lv' := [(1, .int y0), (0, .ref a0)]) S.1 S.2.1 d_PatternParser_choice_31 rfl hl (by decide) rfl (fun ls hl => ?_)
  refine lv_iload_n S.1 S.2.1 d_PatternParser_choice_32 rfl (lv_at hl 0 rfl) ?_
  refine lv_if_eq (tgt := 46) S.1 S.2.1 d_PatternParser_choice_33 (by decide) (fun c8 => ?_) (fun c8 => ?_)
  · replace hf := xt c8 hf
    refine lv_iconst (v := 0) S.1 S.2.1 d_PatternParser_choice_46 (by decide) ?_
    refine lv_istore_n (lv' := [(2, .int 0), (1, .int y0), (0, .ref a0)]) S.1 S.2.1 d_PatternParser_choice_47 rfl hl (by decide) rfl (fun ls hl => ?_)
    refine lv_iconst (v := 0) S.1 S.2.1 d_PatternParser_choice_48 (by decide) ?_
    refine lv_istore_n (lv' := [(3, .int 0), (2, .int 0), (1, .int y0), (0, .ref a0)]) S.1 S.2.1 d_PatternParser_choice_49 rfl hl (by decide) rfl (fun ls hl => ?_)
    exact w_PatternParser_choice_50 S hr hlocks  _ _ _ _ _ _ _ _ _ hw (lv_sub hl [3, 2, 1, 0] rfl) hf
  · replace hf := xf c8 hf
    refine lv_aload_n S.1 S.2.1 d_PatternParser_choice_36 rfl (lv_at hl 1 rfl) ?_
    refine lv_dup S.1 S.2.1 d_PatternParser_choice_37 rfl ?_
    obtain ⟨t9, ht9, hf⟩ := xb hf
    refine x_geti S hw lk_PatternParser_40 ht9 d_PatternParser_choice_38 ?_
    refine lv_iconst (v := 1) S.1 S.2.1 d_PatternParser_choice_41 (by decide) ?_
    refine lv_iadd S.1 S.2.1 d_PatternParser_choice_42 ?_
    obtain ⟨w10, hw10, hf⟩ := xb hf
    refine x_puti S hw lp_PatternParser_40 hw10 d_PatternParser_choice_43 (fun H locs hw => ?_)
    refine lv_iconst (v := 0) S.1 S.2.1 d_PatternParser_choice_46 (by decide) ?_
    refine lv_istore_n (lv' := [(2, .int 0), (1, .int y0), (0, .ref a0)]) S.1 S.2.1 d_PatternParser_choice_47 rfl hl (by decide) rfl (fun ls hl => ?_)
    refine lv_iconst (v := 0) S.1 S.2.1 d_PatternParser_choice_48 (by decide) ?_
    refine lv_istore_n (lv' := [(3, .int 0), (2, .int 0), (1, .int y0), (0, .ref a0)]) S.1 S.2.1 d_PatternParser_choice_49 rfl hl (by decide) rfl (fun ls hl => ?_)
    exact w_PatternParser_choice_50 S hr hlocks  _ _ _ _ _ _ _ _ _ hw (lv_sub hl [3, 2, 1, 0] rfl) hf
def f_PatternParser_choice (a0 : Nat) (ω : xS) : Option (Int32 × xS) :=
  (xgi ω a0 6 9).bind fun t1 =>
  (xp ω a0 6 9 (.int (t1 + 1))).bind fun w2 =>
  (xgr w2 a0 6 0).bind fun t3 =>
  (xgi w2 a0 6 9).bind fun t4 =>
  (xk w2 t3 9 (f_Tape_byteAt t3 t4 w2)).bind fun t6 =>
  if t6 = 94 then (
    f_PatternParser_choice_31  a0 1 w2)
  else (
    f_PatternParser_choice_31  a0 0 w2)
set_option maxHeartbeats 4000000 in
set_option maxRecDepth 100000 in
theorem c_PatternParser_choice {l : Launch} {E : xV} {z : Nat} {a0 : Nat} {r : Int32} {ω1 : xS} {ω : xS} (hf : f_PatternParser_choice a0 ω = some (r, ω1)) : xM l E y_PatternParser_choice ws_PatternParser_choice { frames := 1, cells := 0, slots := 0, locals := 22 } [.ref a0] z ω (some (.int r)) z ω1 := by
  refine x_start (cc := b_PatternParser_choice) (maxL := 4) (ret := (some .int)) (by decide) rfl (Nat.le_of_ble_eq_true rfl) ?_
  intro p e s m below meth c S hr hlocks hin ls hl hw
  have hl : lv_has ls 4 [(0, .ref a0)] := hl
  unfold f_PatternParser_choice at hf
  refine lv_aload_n S.1 S.2.1 d_PatternParser_choice_0 rfl (lv_at hl 0 rfl) ?_
  refine lv_dup S.1 S.2.1 d_PatternParser_choice_1 rfl ?_
  obtain ⟨t1, ht1, hf⟩ := xb hf
  refine x_geti S hw lk_PatternParser_40 ht1 d_PatternParser_choice_2 ?_
  refine lv_iconst (v := 1) S.1 S.2.1 d_PatternParser_choice_5 (by decide) ?_
  refine lv_iadd S.1 S.2.1 d_PatternParser_choice_6 ?_
  obtain ⟨w2, hw2, hf⟩ := xb hf
  refine x_puti S hw lp_PatternParser_40 hw2 d_PatternParser_choice_7 (fun H locs hw => ?_)
  refine lv_aload_n S.1 S.2.1 d_PatternParser_choice_10 rfl (lv_at hl 0 rfl) ?_
  obtain ⟨t3, ht3, hf⟩ := xb hf
  refine x_getr S hw lk_PatternParser_23 ht3 d_PatternParser_choice_11 ?_
  refine lv_aload_n S.1 S.2.1 d_PatternParser_choice_14 rfl (lv_at hl 0 rfl) ?_
  obtain ⟨t4, ht4, hf⟩ := xb hf
  refine x_geti S hw lk_PatternParser_40 ht4 d_PatternParser_choice_15 ?_
  obtain ⟨t6, h5, hf⟩ := xb hf
  obtain ⟨h5b, h5⟩ := xkb h5
  refine x_callV (As := [.int t4]) (rest := []) (st1 := [.int t6]) S hw (c_Tape_byteAt h5) (cwV 1 S.2.2.2.2 gv_PatternParser_50 rfl rfl rfl hd_Tape_byteAt ⟨Nat.le_of_ble_eq_true rfl, Nat.le_of_ble_eq_true rfl⟩) rfl h5b rfl hl.1 rfl rfl (Nat.le_of_ble_eq_true rfl) d_PatternParser_choice_18 ⟨Nat.le_of_ble_eq_true rfl, Nat.le_of_ble_eq_true rfl⟩ (fun H locs hw => ?_)
  refine lv_bipush (v := 94) S.1 S.2.1 d_PatternParser_choice_21 (by decide) ?_
  refine lv_icmp_ne (tgt := 30) S.1 S.2.1 d_PatternParser_choice_23 (by decide) (fun c7 => ?_) (fun c7 => ?_)
  · replace hf := xf c7 hf
    refine lv_iconst (v := 0) S.1 S.2.1 d_PatternParser_choice_30 (by decide) ?_
    exact w_PatternParser_choice_31 S hr hlocks  _ _ _ _ _ _ hw (lv_sub hl [0] rfl) hf
  · replace hf := xt c7 hf
    refine lv_iconst (v := 1) S.1 S.2.1 d_PatternParser_choice_26 (by decide) ?_
    refine lv_goto (tgt := 31) S.1 S.2.1 d_PatternParser_choice_27 (by decide) ?_
    exact w_PatternParser_choice_31 S hr hlocks  _ _ _ _ _ _ hw (lv_sub hl [0] rfl) hf
