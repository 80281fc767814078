def f_Positions_chain_62 (x1 : Int32) (x2 : Int32) (y0 : Int32) (y1 : Int32) (ω : xS) : Option (Int32 × xS) :=
  if (x2 &&& 1048576) = 0 then (
    some ((((y1 ||| y0) ||| ((x2 &&& 1047552) ||| 0)) ||| ((x1 &&& x2) &&& 1048576)), ω))
  else (
    some ((((y1 ||| y0) ||| ((x2 &&& 1047552) ||| (x1 &&& 1047552))) ||| ((x1 &&& x2) &&& 1048576)), ω))
set_option maxHeartbeats 4000000 in
set_option maxRecDepth 100000 in
theorem w_Positions_chain_62 {p : Program} {l : Launch} {e : Env} {s : State} {m : MethodId} {args : Array Value} {below : List Frame} {meth : Method} {c : Code} {E : xV} {z : Nat} {r : Int32} {ω1 : xS} (S : CallFix p m c b_Positions_chain 5 s args xTbl "RosterRules$Positions") (hr : meth.sig.returnType = (some .int)) (hlocks : meth.locks = false) : ∀ (x1 : Int32) (x2 : Int32) (y0 : Int32) (y1 : Int32) (ω : xS) (H : Heap) (locs : List Loc) (ls : Array Slot), xW E z ω s s.heap H locs → lv_has ls 5 [(1, .int x1), (2, .int x2)] → f_Positions_chain_62 x1 x2 y0 y1 ω = some (r, ω1) → W p l e (headSpec ws_Positions_chain { frames := 0, cells := 0, slots := 0, locals := 0 }).room s m args below meth c H locs 0 0 (MQ below (xQ E (some (.int r)) z ω1) args s 0 0 (fun q => E.2.2 ≤ q)) (F0 m 62 ls [.int y0, .int y1]) := by
  intro x1 x2 y0 y1 ω H locs ls hw hl hf
  unfold f_Positions_chain_62 at hf
  refine lv_ior S.1 S.2.1 d_Positions_chain_62 ?_
  refine lv_istore_n (lv' := [(3, .int (y1 ||| y0)), (1, .int x1), (2, .int x2)]) S.1 S.2.1 d_Positions_chain_63 rfl hl (by decide) rfl (fun ls hl => ?_)
  refine lv_iload_n S.1 S.2.1 d_Positions_chain_64 rfl (lv_at hl 2 rfl) ?_
  refine lv_ldc (v := 1047552) S.1 S.2.1 S.2.2.2.1 (S.2.2.2.2 _ wd_3_102) d_Positions_chain_65 ?_
  refine lv_iand S.1 S.2.1 d_Positions_chain_67 ?_
  refine lv_iload_n S.1 S.2.1 d_Positions_chain_68 rfl (lv_at hl 2 rfl) ?_
  refine lv_ldc (v := 1048576) S.1 S.2.1 S.2.2.2.1 (S.2.2.2.2 _ wd_3_101) d_Positions_chain_69 ?_
  refine lv_iand S.1 S.2.1 d_Positions_chain_71 ?_
  refine lv_if_eq (tgt := 82) S.1 S.2.1 d_Positions_chain_72 (by decide) (fun c8 => ?_) (fun c8 => ?_)
  · replace hf := xt c8 hf
    refine lv_iconst (v := 0) S.1 S.2.1 d_Positions_chain_82 (by decide) ?_
    refine lv_ior S.1 S.2.1 d_Positions_chain_83 ?_
    refine lv_istore (lv' := [(4, .int ((x2 &&& 1047552) ||| 0)), (3, .int (y1 ||| y0)), (1, .int x1), (2, .int x2)]) S.1 S.2.1 d_Positions_chain_84 hl (by decide) rfl (fun ls hl => ?_)
    refine lv_iload_n S.1 S.2.1 d_Positions_chain_86 rfl (lv_at hl 1 rfl) ?_
    refine lv_iload S.1 S.2.1 d_Positions_chain_87 (lv_at hl 0 rfl) ?_
    refine lv_ior S.1 S.2.1 d_Positions_chain_89 ?_
    refine lv_iload_n S.1 S.2.1 d_Positions_chain_90 rfl (lv_at hl 2 rfl) ?_
    refine lv_iload_n S.1 S.2.1 d_Positions_chain_91 rfl (lv_at hl 3 rfl) ?_
    refine lv_iand S.1 S.2.1 d_Positions_chain_92 ?_
    refine lv_ldc (v := 1048576) S.1 S.2.1 S.2.2.2.1 (S.2.2.2.2 _ wd_3_101) d_Positions_chain_93 ?_
    refine lv_iand S.1 S.2.1 d_Positions_chain_95 ?_
    refine lv_ior S.1 S.2.1 d_Positions_chain_96 ?_
    obtain ⟨rfl, rfl⟩ := xe2 hf
    exact x_iret S hr hlocks hw d_Positions_chain_97
  · replace hf := xf c8 hf
    refine lv_iload_n S.1 S.2.1 d_Positions_chain_75 rfl (lv_at hl 1 rfl) ?_
    refine lv_ldc (v := 1047552) S.1 S.2.1 S.2.2.2.1 (S.2.2.2.2 _ wd_3_102) d_Positions_chain_76 ?_
    refine lv_iand S.1 S.2.1 d_Positions_chain_78 ?_
    refine lv_goto (tgt := 83) S.1 S.2.1 d_Positions_chain_79 (by decide) ?_
    refine lv_ior S.1 S.2.1 d_Positions_chain_83 ?_
    refine lv_istore (lv' := [(4, .int ((x2 &&& 1047552) ||| (x1 &&& 1047552))), (3, .int (y1 ||| y0)), (1, .int x1), (2, .int x2)]) S.1 S.2.1 d_Positions_chain_84 hl (by decide) rfl (fun ls hl => ?_)
    refine lv_iload_n S.1 S.2.1 d_Positions_chain_86 rfl (lv_at hl 1 rfl) ?_
    refine lv_iload S.1 S.2.1 d_Positions_chain_87 (lv_at hl 0 rfl) ?_
    refine lv_ior S.1 S.2.1 d_Positions_chain_89 ?_
    refine lv_iload_n S.1 S.2.1 d_Positions_chain_90 rfl (lv_at hl 2 rfl) ?_
    refine lv_iload_n S.1 S.2.1 d_Positions_chain_91 rfl (lv_at hl 3 rfl) ?_
    refine lv_iand S.1 S.2.1 d_Positions_chain_92 ?_
    refine lv_ldc (v := 1048576) S.1 S.2.1 S.2.2.2.1 (S.2.2.2.2 _ wd_3_101) d_Positions_chain_93 ?_
    refine lv_iand S.1 S.2.1 d_Positions_chain_95 ?_
    refine lv_ior S.1 S.2.1 d_Positions_chain_96 ?_
    obtain ⟨rfl, rfl⟩ := xe2 hf
    exact x_iret S hr hlocks hw d_Positions_chain_97
def f_Positions_chain_2 : Nat → Nat → Int32 → Int32 → Int32 → xS → Option (Int32 × xS)
  | 0, _, _, _, _, _ => none
  | n + 1, a0, x1, x2, x3, ω =>
    (xgi ω a0 7 4).bind fun t1 =>
    if t1 ≤ x3 then (
      if (x1 &&& 1048576) = 0 then (
        f_Positions_chain_62  x1 x2 0 (x1 &&& 1023) ω)
      else (
        f_Positions_chain_62  x1 x2 (x2 &&& 1023) (x1 &&& 1023) ω))
    else (
      if ((x1 >>> ((10 + x3) &&& 31)) &&& 1) = 0 then (
        f_Positions_chain_2  n a0 x1 x2 (x3 + 1) ω)
      else (
        (xgr ω a0 7 1).bind fun t5 =>
        (xai ω t5 x3).bind fun t6 =>
        (xsi ω t5 x3 (t6 ||| (x2 &&& 1023))).bind fun w7 =>
        f_Positions_chain_2  n a0 x1 x2 (x3 + 1) w7))
set_option maxHeartbeats 4000000 in
set_option maxRecDepth 100000 in
theorem w_Positions_chain_2 {p : Program} {l : Launch} {e : Env} {s : State} {m : MethodId} {args : Array Value} {below : List Frame} {meth : Method} {c : Code} {E : xV} {z : Nat} {r : Int32} {ω1 : xS} (S : CallFix p m c b_Positions_chain 5 s args xTbl "RosterRules$Positions") (hr : meth.sig.returnType = (some .int)) (hlocks : meth.locks = false) : ∀ n : Nat, ∀ (a0 : Nat) (x1 : Int32) (x2 : Int32) (x3 : Int32) (ω : xS) (H : Heap) (locs : List Loc) (ls : Array Slot), xW E z ω s s.heap H locs → lv_has ls 5 [(0, .ref a0), (1, .int x1), (2, .int x2), (3, .int x3)] → f_Positions_chain_2 n a0 x1 x2 x3 ω = some (r, ω1) → W p l e (headSpec ws_Positions_chain { frames := 0, cells := 0, slots := 0, locals := 0 }).room s m args below meth c H locs 0 0 (MQ below (xQ E (some (.int r)) z ω1) args s 0 0 (fun q => E.2.2 ≤ q)) (F0 m 2 ls []) := by
  intro n
  induction n with
  | zero =>
    intro a0 x1 x2 x3 ω H locs ls hw hl hf
    have h2 : (none : Option (Int32 × xS)) = some (r, ω1) := hf
    cases h2
  | succ n ih =>
    intro a0 x1 x2 x3 ω H locs ls hw hl hf
    rw [f_Positions_chain_2] at hf
    refine lv_iload_n S.1 S.2.1 d_Positions_chain_2 rfl (lv_at hl 3 rfl) ?_
    refine lv_aload_n S.1 S.2.1 d_Positions_chain_3 rfl (lv_at hl 0 rfl) ?_
    obtain ⟨t1, ht1, hf⟩ := xb hf
    refine x_geti S hw lk_Positions_24 ht1 d_Positions_chain_4 ?_
    refine lv_icmp_ge (tgt := 41) S.1 S.2.1 d_Positions_chain_7 (by decide) (fun c2 => ?_) (fun c2 => ?_)
    · replace hf := xt c2 hf
      refine lv_iload_n S.1 S.2.1 d_Positions_chain_41 rfl (lv_at hl 1 rfl) ?_
      refine lv_sipush (v := 1023) S.1 S.2.1 d_Positions_chain_42 (by decide) ?_
      refine lv_iand S.1 S.2.1 d_Positions_chain_45 ?_
      refine lv_iload_n S.1 S.2.1 d_Positions_chain_46 rfl (lv_at hl 1 rfl) ?_
      refine lv_ldc (v := 1048576) S.1 S.2.1 S.2.2.2.1 (S.2.2.2.2 _ wd_3_101) d_Positions_chain_47 ?_
      refine lv_iand S.1 S.2.1 d_Positions_chain_49 ?_
      refine lv_if_eq (tgt := 61) S.1 S.2.1 d_Positions_chain_50 (by decide) (fun c3 => ?_) (fun c3 => ?_)
      · replace hf := xt c3 hf
        refine lv_iconst (v := 0) S.1 S.2.1 d_Positions_chain_61 (by decide) ?_
        exact w_Positions_chain_62 S hr hlocks  _ _ _ _ _ _ _ _ hw (lv_sub hl [1, 2] rfl) hf
      · replace hf := xf c3 hf
        refine lv_iload_n S.1 S.2.1 d_Positions_chain_53 rfl (lv_at hl 2 rfl) ?_
        refine lv_sipush (v := 1023) S.1 S.2.1 d_Positions_chain_54 (by decide) ?_
        refine lv_iand S.1 S.2.1 d_Positions_chain_57 ?_
        refine lv_goto (tgt := 62) S.1 S.2.1 d_Positions_chain_58 (by decide) ?_
        exact w_Positions_chain_62 S hr hlocks  _ _ _ _ _ _ _ _ hw (lv_sub hl [1, 2] rfl) hf
    · replace hf := xf c2 hf
      refine lv_iload_n S.1 S.2.1 d_Positions_chain_10 rfl (lv_at hl 1 rfl) ?_
      refine lv_bipush (v := 10) S.1 S.2.1 d_Positions_chain_11 (by decide) ?_
      refine lv_iload_n S.1 S.2.1 d_Positions_chain_13 rfl (lv_at hl 3 rfl) ?_
      refine lv_iadd S.1 S.2.1 d_Positions_chain_14 ?_
      refine lv_ishr S.1 S.2.1 d_Positions_chain_15 ?_
      refine lv_iconst (v := 1) S.1 S.2.1 d_Positions_chain_16 (by decide) ?_
      refine lv_iand S.1 S.2.1 d_Positions_chain_17 ?_
      refine lv_if_eq (tgt := 35) S.1 S.2.1 d_Positions_chain_18 (by decide) (fun c4 => ?_) (fun c4 => ?_)
      · replace hf := xt c4 hf
        refine lv_iinc (v := (x3 + 1)) (lv' := [(3, .int (x3 + 1)), (0, .ref a0), (1, .int x1), (2, .int x2)]) S.1 S.2.1 d_Positions_chain_35 hl (k := 3) rfl rfl (by decide) rfl (fun ls hl => ?_)
        refine lv_goto (tgt := 2) S.1 S.2.1 d_Positions_chain_38 (by decide) ?_
        exact ih _ _ _ _ _ _ _ _ hw (lv_sub hl [1, 2, 3, 0] rfl) hf
      · replace hf := xf c4 hf
        refine lv_aload_n S.1 S.2.1 d_Positions_chain_21 rfl (lv_at hl 0 rfl) ?_
        obtain ⟨t5, ht5, hf⟩ := xb hf
        refine x_getr S hw lk_Positions_15 ht5 d_Positions_chain_22 ?_
        refine lv_iload_n S.1 S.2.1 d_Positions_chain_25 rfl (lv_at hl 3 rfl) ?_
        refine lv_dup2_11 S.1 S.2.1 d_Positions_chain_26 rfl rfl ?_
        obtain ⟨t6, ht6, hf⟩ := xb hf
        refine x_iald S hw ht6 d_Positions_chain_27 ?_
        refine lv_iload_n S.1 S.2.1 d_Positions_chain_28 rfl (lv_at hl 2 rfl) ?_
        refine lv_sipush (v := 1023) S.1 S.2.1 d_Positions_chain_29 (by decide) ?_
        refine lv_iand S.1 S.2.1 d_Positions_chain_32 ?_
        refine lv_ior S.1 S.2.1 d_Positions_chain_33 ?_
        obtain ⟨w7, hw7, hf⟩ := xb hf
        refine x_iast S hw hw7 d_Positions_chain_34 (fun H locs hw => ?_)
        refine lv_iinc (v := (x3 + 1)) (lv' := [(3, .int (x3 + 1)), (0, .ref a0), (1, .int x1), (2, .int x2)]) S.1 S.2.1 d_Positions_chain_35 hl (k := 3) rfl rfl (by decide) rfl (fun ls hl => ?_)
        refine lv_goto (tgt := 2) S.1 S.2.1 d_Positions_chain_38 (by decide) ?_
        exact ih _ _ _ _ _ _ _ _ hw (lv_sub hl [1, 2, 3, 0] rfl) hf
def f_Positions_chain (a0 : Nat) (x1 : Int32) (x2 : Int32) (ω : xS) : Option (Int32 × xS) :=
  f_Positions_chain_2  xFU a0 x1 x2 0 ω
set_option maxHeartbeats 4000000 in
set_option maxRecDepth 100000 in
theorem c_Positions_chain {l : Launch} {E : xV} {z : Nat} {a0 : Nat} {x1 : Int32} {x2 : Int32} {r : Int32} {ω1 : xS} {ω : xS} (hf : f_Positions_chain a0 x1 x2 ω = some (r, ω1)) : xM l E y_Positions_chain ws_Positions_chain { frames := 0, cells := 0, slots := 0, locals := 0 } [.ref a0, .int x1, .int x2] z ω (some (.int r)) z ω1 := by
  refine x_start (cc := b_Positions_chain) (maxL := 5) (ret := (some .int)) (by decide) rfl (Nat.le_of_ble_eq_true rfl) ?_
  intro p e s m below meth c S hr hlocks hin ls hl hw
  have hl : lv_has ls 5 [(0, .ref a0), (1, .int x1), (2, .int x2)] := hl
  unfold f_Positions_chain at hf
  refine lv_iconst (v := 0) S.1 S.2.1 d_Positions_chain_0 (by decide) ?_
  refine lv_istore_n (lv' := [(3, .int 0), (0, .ref a0), (1, .int x1), (2, .int x2)]) S.1 S.2.1 d_Positions_chain_1 rfl hl (by decide) rfl (fun ls hl => ?_)
  exact w_Positions_chain_2 S hr hlocks  _ _ _ _ _ _ _ _ _ hw (lv_sub hl [1, 2, 3, 0] rfl) hf
def f_Positions_add_36 : Nat → Nat → Int32 → Int32 → Int32 → xS → Option (Int32 × xS)
  | 0, _, _, _, _, _ => none
  | n + 1, a0, x1, x2, x3, ω =>
    if 9 ≤ x3 then (
      some ((x2 ||| (x2 <<< (10 &&& 31))), ω))
    else (
      if ((x1 >>> (x3 &&& 31)) &&& 1) = 0 then (
        f_Positions_add_36  n a0 x1 x2 (x3 + 1) ω)
      else (
        (xgr ω a0 7 0).bind fun t9 =>
        (xai ω t9 x3).bind fun t10 =>
        (xsi ω t9 x3 (t10 ||| x2)).bind fun w11 =>
        f_Positions_add_36  n a0 x1 x2 (x3 + 1) w11))
set_option maxHeartbeats 4000000 in
set_option maxRecDepth 100000 in
theorem w_Positions_add_36 {p : Program} {l : Launch} {e : Env} {s : State} {m : MethodId} {args : Array Value} {below : List Frame} {meth : Method} {c : Code} {E : xV} {z : Nat} {r : Int32} {ω1 : xS} (S : CallFix p m c b_Positions_add 4 s args xTbl "RosterRules$Positions") (hr : meth.sig.returnType = (some .int)) (hlocks : meth.locks = false) : ∀ n : Nat, ∀ (a0 : Nat) (x1 : Int32) (x2 : Int32) (x3 : Int32) (ω : xS) (H : Heap) (locs : List Loc) (ls : Array Slot), xW E z ω s s.heap H locs → lv_has ls 4 [(0, .ref a0), (1, .int x1), (2, .int x2), (3, .int x3)] → f_Positions_add_36 n a0 x1 x2 x3 ω = some (r, ω1) → W p l e (headSpec ws_Positions_add { frames := 0, cells := 0, slots := 0, locals := 0 }).room s m args below meth c H locs 0 0 (MQ below (xQ E (some (.int r)) z ω1) args s 0 0 (fun q => E.2.2 ≤ q)) (F0 m 36 ls []) := by
  intro n
  induction n with
  | zero =>
    intro a0 x1 x2 x3 ω H locs ls hw hl hf
    have h2 : (none : Option (Int32 × xS)) = some (r, ω1) := hf
    cases h2
  | succ n ih =>
    intro a0 x1 x2 x3 ω H locs ls hw hl hf
    rw [f_Positions_add_36] at hf
    refine lv_iload_n S.1 S.2.1 d_Positions_add_36 rfl (lv_at hl 3 rfl) ?_
    refine lv_bipush (v := 9) S.1 S.2.1 d_Positions_add_37 (by decide) ?_
    refine lv_icmp_ge (tgt := 66) S.1 S.2.1 d_Positions_add_39 (by decide) (fun c7 => ?_) (fun c7 => ?_)
    · replace hf := xt c7 hf
      refine lv_iload_n S.1 S.2.1 d_Positions_add_66 rfl (lv_at hl 2 rfl) ?_
      refine lv_iload_n S.1 S.2.1 d_Positions_add_67 rfl (lv_at hl 2 rfl) ?_
      refine lv_bipush (v := 10) S.1 S.2.1 d_Positions_add_68 (by decide) ?_
      refine lv_ishl S.1 S.2.1 d_Positions_add_70 ?_
      refine lv_ior S.1 S.2.1 d_Positions_add_71 ?_
      obtain ⟨rfl, rfl⟩ := xe2 hf
      exact x_iret S hr hlocks hw d_Positions_add_72
    · replace hf := xf c7 hf
      refine lv_iload_n S.1 S.2.1 d_Positions_add_42 rfl (lv_at hl 1 rfl) ?_
      refine lv_iload_n S.1 S.2.1 d_Positions_add_43 rfl (lv_at hl 3 rfl) ?_
      refine lv_ishr S.1 S.2.1 d_Positions_add_44 ?_
      refine lv_iconst (v := 1) S.1 S.2.1 d_Positions_add_45 (by decide) ?_
      refine lv_iand S.1 S.2.1 d_Positions_add_46 ?_
      refine lv_if_eq (tgt := 60) S.1 S.2.1 d_Positions_add_47 (by decide) (fun c8 => ?_) (fun c8 => ?_)
      · replace hf := xt c8 hf
        refine lv_iinc (v := (x3 + 1)) (lv' := [(3, .int (x3 + 1)), (0, .ref a0), (1, .int x1), (2, .int x2)]) S.1 S.2.1 d_Positions_add_60 hl (k := 3) rfl rfl (by decide) rfl (fun ls hl => ?_)
        refine lv_goto (tgt := 36) S.1 S.2.1 d_Positions_add_63 (by decide) ?_
        exact ih _ _ _ _ _ _ _ _ hw (lv_sub hl [1, 2, 3, 0] rfl) hf
      · replace hf := xf c8 hf
        refine lv_aload_n S.1 S.2.1 d_Positions_add_50 rfl (lv_at hl 0 rfl) ?_
        obtain ⟨t9, ht9, hf⟩ := xb hf
        refine x_getr S hw lk_Positions_11 ht9 d_Positions_add_51 ?_
        refine lv_iload_n S.1 S.2.1 d_Positions_add_54 rfl (lv_at hl 3 rfl) ?_
        refine lv_dup2_11 S.1 S.2.1 d_Positions_add_55 rfl rfl ?_
        obtain ⟨t10, ht10, hf⟩ := xb hf
        refine x_iald S hw ht10 d_Positions_add_56 ?_
        refine lv_iload_n S.1 S.2.1 d_Positions_add_57 rfl (lv_at hl 2 rfl) ?_
        refine lv_ior S.1 S.2.1 d_Positions_add_58 ?_
        obtain ⟨w11, hw11, hf⟩ := xb hf
        refine x_iast S hw hw11 d_Positions_add_59 (fun H locs hw => ?_)
        refine lv_iinc (v := (x3 + 1)) (lv' := [(3, .int (x3 + 1)), (0, .ref a0), (1, .int x1), (2, .int x2)]) S.1 S.2.1 d_Positions_add_60 hl (k := 3) rfl rfl (by decide) rfl (fun ls hl => ?_)
        refine lv_goto (tgt := 36) S.1 S.2.1 d_Positions_add_63 (by decide) ?_
        exact ih _ _ _ _ _ _ _ _ hw (lv_sub hl [1, 2, 3, 0] rfl) hf
def f_Positions_add (a0 : Nat) (x1 : Int32) (ω : xS) : Option (Int32 × xS) :=
  (xgi ω a0 7 4).bind fun t1 =>
  if t1 < 10 then (
    (xgi ω a0 7 4).bind fun t3 =>
    (xgi ω a0 7 4).bind fun t4 =>
    (xp ω a0 7 4 (.int (t4 + 1))).bind fun w5 =>
    f_Positions_add_36  xFU a0 x1 (1 <<< (t3 &&& 31)) 0 w5)
  else (
    (xp ω a0 7 5 (.int 1)).bind fun w6 =>
    some (1048576, w6))
set_option maxHeartbeats 4000000 in
set_option maxRecDepth 100000 in
theorem c_Positions_add {l : Launch} {E : xV} {z : Nat} {a0 : Nat} {x1 : Int32} {r : Int32} {ω1 : xS} {ω : xS} (hf : f_Positions_add a0 x1 ω = some (r, ω1)) : xM l E y_Positions_add ws_Positions_add { frames := 0, cells := 0, slots := 0, locals := 0 } [.ref a0, .int x1] z ω (some (.int r)) z ω1 := by
  refine x_start (cc := b_Positions_add) (maxL := 4) (ret := (some .int)) (by decide) rfl (Nat.le_of_ble_eq_true rfl) ?_
  intro p e s m below meth c S hr hlocks hin ls hl hw
  have hl : lv_has ls 4 [(0, .ref a0), (1, .int x1)] := hl
  unfold f_Positions_add at hf
  refine lv_aload_n S.1 S.2.1 d_Positions_add_0 rfl (lv_at hl 0 rfl) ?_
  obtain ⟨t1, ht1, hf⟩ := xb hf
  refine x_geti S hw lk_Positions_24 ht1 d_Positions_add_1 ?_
  refine lv_bipush (v := 10) S.1 S.2.1 d_Positions_add_4 (by decide) ?_
  refine lv_icmp_lt (tgt := 17) S.1 S.2.1 d_Positions_add_6 (by decide) (fun c2 => ?_) (fun c2 => ?_)
  · replace hf := xt c2 hf
    refine lv_iconst (v := 1) S.1 S.2.1 d_Positions_add_17 (by decide) ?_
    refine lv_aload_n S.1 S.2.1 d_Positions_add_18 rfl (lv_at hl 0 rfl) ?_
    obtain ⟨t3, ht3, hf⟩ := xb hf
    refine x_geti S hw lk_Positions_24 ht3 d_Positions_add_19 ?_
    refine lv_ishl S.1 S.2.1 d_Positions_add_22 ?_
    refine lv_istore_n (lv' := [(2, .int (1 <<< (t3 &&& 31))), (0, .ref a0), (1, .int x1)]) S.1 S.2.1 d_Positions_add_23 rfl hl (by decide) rfl (fun ls hl => ?_)
    refine lv_aload_n S.1 S.2.1 d_Positions_add_24 rfl (lv_at hl 1 rfl) ?_
    refine lv_dup S.1 S.2.1 d_Positions_add_25 rfl ?_
    obtain ⟨t4, ht4, hf⟩ := xb hf
    refine x_geti S hw lk_Positions_24 ht4 d_Positions_add_26 ?_
    refine lv_iconst (v := 1) S.1 S.2.1 d_Positions_add_29 (by decide) ?_
    refine lv_iadd S.1 S.2.1 d_Positions_add_30 ?_
    obtain ⟨w5, hw5, hf⟩ := xb hf
    refine x_puti S hw lp_Positions_24 hw5 d_Positions_add_31 (fun H locs hw => ?_)
    refine lv_iconst (v := 0) S.1 S.2.1 d_Positions_add_34 (by decide) ?_
    refine lv_istore_n (lv' := [(3, .int 0), (2, .int (1 <<< (t3 &&& 31))), (0, .ref a0), (1, .int x1)]) S.1 S.2.1 d_Positions_add_35 rfl hl (by decide) rfl (fun ls hl => ?_)
    exact w_Positions_add_36 S hr hlocks  _ _ _ _ _ _ _ _ _ hw (lv_sub hl [2, 3, 1, 0] rfl) hf
  · replace hf := xf c2 hf
    refine lv_aload_n S.1 S.2.1 d_Positions_add_9 rfl (lv_at hl 0 rfl) ?_
    refine lv_iconst (v := 1) S.1 S.2.1 d_Positions_add_10 (by decide) ?_
    obtain ⟨w6, hw6, hf⟩ := xb hf
    refine x_put S hw lp_Positions_28 (by decide) rfl hw6 d_Positions_add_11 (fun H locs hw => ?_)
    refine lv_ldc (v := 1048576) S.1 S.2.1 S.2.2.2.1 (S.2.2.2.2 _ wd_3_101) d_Positions_add_14 ?_
    obtain ⟨rfl, rfl⟩ := xe2 hf
    exact x_iret S hr hlocks hw d_Positions_add_16
def f_PatternParser_addAtom (a0 : Nat) (x1 : Int32) (a2 : Nat) (ω : xS) : Option xS :=
  (xgi ω a0 6 5).bind fun t1 =>
  if t1 = (-1) then (
    (xgi ω a2 7 4).bind fun t3 =>
    (xp ω a0 6 6 (.int t3)).bind fun w4 =>
    xc (xk w4 a2 7 (f_Positions_add a2 x1 w4)) fun t6 w7 =>
    (xp w7 a0 6 5 (.int t6)).bind fun w8 =>
    (xp w8 a0 6 7 (.int 1)).bind fun w9 =>
    some w9)
  else (
    (xgr ω a0 6 2).bind fun t10 =>
    (xgi ω a0 6 4).bind fun t11 =>
    (xgr ω a0 6 2).bind fun t12 =>
    (xgi ω a0 6 4).bind fun t13 =>
    (xai ω t12 t13).bind fun t14 =>
    (xgi ω a0 6 5).bind fun t15 =>
    xc (xk ω a2 7 (f_Positions_chain a2 t14 t15 ω)) fun t17 w18 =>
    (xsi w18 t10 t11 t17).bind fun w19 =>
    (xgi w19 a2 7 4).bind fun t20 =>
    (xp w19 a0 6 6 (.int t20)).bind fun w21 =>
    xc (xk w21 a2 7 (f_Positions_add a2 x1 w21)) fun t23 w24 =>
    (xp w24 a0 6 5 (.int t23)).bind fun w25 =>
    (xp w25 a0 6 7 (.int 1)).bind fun w26 =>
    some w26)
set_option maxHeartbeats 4000000 in
set_option maxRecDepth 100000 in
theorem c_PatternParser_addAtom {l : Launch} {E : xV} {z : Nat} {a0 : Nat} {x1 : Int32} {a2 : Nat} {ω1 : xS} {ω : xS} (hf : f_PatternParser_addAtom a0 x1 a2 ω = some ω1) : xM l E y_PatternParser_addAtom ws_PatternParser_addAtom { frames := 1, cells := 0, slots := 0, locals := 24 } [.ref a0, .int x1, .ref a2] z ω none z ω1 := by
  refine x_start (cc := b_PatternParser_addAtom) (maxL := 3) (ret := none) (by decide) rfl (Nat.le_of_ble_eq_true rfl) ?_
  intro p e s m below meth c S hr hlocks hin ls hl hw
  have hl : lv_has ls 3 [(0, .ref a0), (1, .int x1), (2, .ref a2)] := hl
  unfold f_PatternParser_addAtom at hf
  refine lv_aload_n S.1 S.2.1 d_PatternParser_addAtom_0 rfl (lv_at hl 0 rfl) ?_
  obtain ⟨t1, ht1, hf⟩ := xb hf
  refine x_geti S hw lk_PatternParser_43 ht1 d_PatternParser_addAtom_1 ?_
  refine lv_iconst (v := (-1)) S.1 S.2.1 d_PatternParser_addAtom_4 (by decide) ?_
  refine lv_icmp_eq (tgt := 34) S.1 S.2.1 d_PatternParser_addAtom_5 (by decide) (fun c2 => ?_) (fun c2 => ?_)
  · replace hf := xt c2 hf
    refine lv_aload_n S.1 S.2.1 d_PatternParser_addAtom_34 rfl (lv_at hl 0 rfl) ?_
    refine lv_aload_n S.1 S.2.1 d_PatternParser_addAtom_35 rfl (lv_at hl 2 rfl) ?_
    obtain ⟨t3, ht3, hf⟩ := xb hf
    refine x_geti S hw lk_PatternParser_109 ht3 d_PatternParser_addAtom_36 ?_
    obtain ⟨w4, hw4, hf⟩ := xb hf
    refine x_puti S hw lp_PatternParser_112 hw4 d_PatternParser_addAtom_39 (fun H locs hw => ?_)
    refine lv_aload_n S.1 S.2.1 d_PatternParser_addAtom_42 rfl (lv_at hl 0 rfl) ?_
    refine lv_aload_n S.1 S.2.1 d_PatternParser_addAtom_43 rfl (lv_at hl 2 rfl) ?_
    refine lv_iload_n S.1 S.2.1 d_PatternParser_addAtom_44 rfl (lv_at hl 1 rfl) ?_
    obtain ⟨t6, w7, h5, hf⟩ := xcb hf
    obtain ⟨h5b, h5⟩ := xkb h5
    refine x_callV (As := [.int x1]) (rest := [.ref a0]) (st1 := [.int t6, .ref a0]) S hw (c_Positions_add h5) (cwV 1 S.2.2.2.2 gv_PatternParser_115 rfl rfl rfl hd_Positions_add ⟨Nat.le_of_ble_eq_true rfl, Nat.le_of_ble_eq_true rfl⟩) rfl h5b rfl hl.1 rfl rfl (Nat.le_of_ble_eq_true rfl) d_PatternParser_addAtom_45 ⟨Nat.le_of_ble_eq_true rfl, Nat.le_of_ble_eq_true rfl⟩ (fun H locs hw => ?_)
    obtain ⟨w8, hw8, hf⟩ := xb hf
    refine x_puti S hw lp_PatternParser_43 hw8 d_PatternParser_addAtom_48 (fun H locs hw => ?_)
    refine lv_aload_n S.1 S.2.1 d_PatternParser_addAtom_51 rfl (lv_at hl 0 rfl) ?_
    refine lv_iconst (v := 1) S.1 S.2.1 d_PatternParser_addAtom_52 (by decide) ?_
    obtain ⟨w9, hw9, hf⟩ := xb hf
    refine x_put S hw lp_PatternParser_93 (by decide) rfl hw9 d_PatternParser_addAtom_53 (fun H locs hw => ?_)
    cases hf
    exact x_vret S hr hlocks hw d_PatternParser_addAtom_56
  · replace hf := xf c2 hf
    refine lv_aload_n S.1 S.2.1 d_PatternParser_addAtom_8 rfl (lv_at hl 0 rfl) ?_
    obtain ⟨t10, ht10, hf⟩ := xb hf
    refine x_getr S hw lk_PatternParser_17 ht10 d_PatternParser_addAtom_9 ?_
    refine lv_aload_n S.1 S.2.1 d_PatternParser_addAtom_12 rfl (lv_at hl 0 rfl) ?_
    obtain ⟨t11, ht11, hf⟩ := xb hf
    refine x_geti S hw lk_PatternParser_46 ht11 d_PatternParser_addAtom_13 ?_
    refine lv_aload_n S.1 S.2.1 d_PatternParser_addAtom_16 rfl (lv_at hl 2 rfl) ?_
    refine lv_aload_n S.1 S.2.1 d_PatternParser_addAtom_17 rfl (lv_at hl 0 rfl) ?_
    obtain ⟨t12, ht12, hf⟩ := xb hf
    refine x_getr S hw lk_PatternParser_17 ht12 d_PatternParser_addAtom_18 ?_
    refine lv_aload_n S.1 S.2.1 d_PatternParser_addAtom_21 rfl (lv_at hl 0 rfl) ?_
    obtain ⟨t13, ht13, hf⟩ := xb hf
    refine x_geti S hw lk_PatternParser_46 ht13 d_PatternParser_addAtom_22 ?_
    obtain ⟨t14, ht14, hf⟩ := xb hf
    refine x_iald S hw ht14 d_PatternParser_addAtom_25 ?_
    refine lv_aload_n S.1 S.2.1 d_PatternParser_addAtom_26 rfl (lv_at hl 0 rfl) ?_
    obtain ⟨t15, ht15, hf⟩ := xb hf
    refine x_geti S hw lk_PatternParser_43 ht15 d_PatternParser_addAtom_27 ?_
    obtain ⟨t17, w18, h16, hf⟩ := xcb hf
    obtain ⟨h16b, h16⟩ := xkb h16
    refine x_callV (As := [.int t14, .int t15]) (rest := [.int t11, .ref t10]) (st1 := [.int t17, .int t11, .ref t10]) S hw (c_Positions_chain h16) (cwV 2 S.2.2.2.2 gv_PatternParser_105 rfl rfl rfl hd_Positions_chain ⟨Nat.le_of_ble_eq_true rfl, Nat.le_of_ble_eq_true rfl⟩) rfl h16b rfl hl.1 rfl rfl (Nat.le_of_ble_eq_true rfl) d_PatternParser_addAtom_30 ⟨Nat.le_of_ble_eq_true rfl, Nat.le_of_ble_eq_true rfl⟩ (fun H locs hw => ?_)
    obtain ⟨w19, hw19, hf⟩ := xb hf
    refine x_iast S hw hw19 d_PatternParser_addAtom_33 (fun H locs hw => ?_)
    refine lv_aload_n S.1 S.2.1 d_PatternParser_addAtom_34 rfl (lv_at hl 0 rfl) ?_
    refine lv_aload_n S.1 S.2.1 d_PatternParser_addAtom_35 rfl (lv_at hl 2 rfl) ?_
    obtain ⟨t20, ht20, hf⟩ := xb hf
    refine x_geti S hw lk_PatternParser_109 ht20 d_PatternParser_addAtom_36 ?_
    obtain ⟨w21, hw21, hf⟩ := xb hf
    refine x_puti S hw lp_PatternParser_112 hw21 d_PatternParser_addAtom_39 (fun H locs hw => ?_)
    refine lv_aload_n S.1 S.2.1 d_PatternParser_addAtom_42 rfl (lv_at hl 0 rfl) ?_
    refine lv_aload_n S.1 S.2.1 d_PatternParser_addAtom_43 rfl (lv_at hl 2 rfl) ?_
    refine lv_iload_n S.1 S.2.1 d_PatternParser_addAtom_44 rfl (lv_at hl 1 rfl) ?_
    obtain ⟨t23, w24, h22, hf⟩ := xcb hf
    obtain ⟨h22b, h22⟩ := xkb h22
    refine x_callV (As := [.int x1]) (rest := [.ref a0]) (st1 := [.int t23, .ref a0]) S hw (c_Positions_add h22) (cwV 1 S.2.2.2.2 gv_PatternParser_115 rfl rfl rfl hd_Positions_add ⟨Nat.le_of_ble_eq_true rfl, Nat.le_of_ble_eq_true rfl⟩) rfl h22b rfl hl.1 rfl rfl (Nat.le_of_ble_eq_true rfl) d_PatternParser_addAtom_45 ⟨Nat.le_of_ble_eq_true rfl, Nat.le_of_ble_eq_true rfl⟩ (fun H locs hw => ?_)
    obtain ⟨w25, hw25, hf⟩ := xb hf
    refine x_puti S hw lp_PatternParser_43 hw25 d_PatternParser_addAtom_48 (fun H locs hw => ?_)
    refine lv_aload_n S.1 S.2.1 d_PatternParser_addAtom_51 rfl (lv_at hl 0 rfl) ?_
    refine lv_iconst (v := 1) S.1 S.2.1 d_PatternParser_addAtom_52 (by decide) ?_
    obtain ⟨w26, hw26, hf⟩ := xb hf
    refine x_put S hw lp_PatternParser_93 (by decide) rfl hw26 d_PatternParser_addAtom_53 (fun H locs hw => ?_)
    cases hf
    exact x_vret S hr hlocks hw d_PatternParser_addAtom_56
def f_PatternParser_openGroup_34 (a0 : Nat) (a1 : Nat) (ω : xS) : Option xS :=
  (xgi ω a0 6 4).bind fun t13 =>
  (xp ω a0 6 4 (.int (t13 + 1))).bind fun w14 =>
  (xgr w14 a0 6 1).bind fun t15 =>
  (xgi w14 a0 6 4).bind fun t16 =>
  (xsi w14 t15 t16 0).bind fun w17 =>
  (xgr w17 a0 6 2).bind fun t18 =>
  (xgi w17 a0 6 4).bind fun t19 =>
  (xsi w17 t18 t19 1048576).bind fun w20 =>
  (xgr w20 a0 6 3).bind fun t21 =>
  (xgi w20 a0 6 4).bind fun t22 =>
  (xgi w20 a1 7 4).bind fun t23 =>
  (xsi w20 t21 t22 t23).bind fun w24 =>
  (xp w24 a0 6 5 (.int (-1))).bind fun w25 =>
  some w25
set_option maxHeartbeats 4000000 in
set_option maxRecDepth 100000 in
theorem w_PatternParser_openGroup_34 {p : Program} {l : Launch} {e : Env} {s : State} {m : MethodId} {args : Array Value} {below : List Frame} {meth : Method} {c : Code} {E : xV} {z : Nat} {ω1 : xS} (S : CallFix p m c b_PatternParser_openGroup 2 s args xTbl "RosterRules$PatternParser") (hr : meth.sig.returnType = none) (hlocks : meth.locks = false) : ∀ (a0 : Nat) (a1 : Nat) (ω : xS) (H : Heap) (locs : List Loc) (ls : Array Slot), xW E z ω s s.heap H locs → lv_has ls 2 [(0, .ref a0), (1, .ref a1)] → f_PatternParser_openGroup_34 a0 a1 ω = some ω1 → W p l e (headSpec ws_PatternParser_openGroup { frames := 1, cells := 0, slots := 0, locals := 24 }).room s m args below meth c H locs 0 0 (MQ below (xQ E none z ω1) args s 0 0 (fun q => E.2.2 ≤ q)) (F0 m 34 ls []) := by
  intro a0 a1 ω H locs ls hw hl hf
  unfold f_PatternParser_openGroup_34 at hf
  refine lv_aload_n S.1 S.2.1 d_PatternParser_openGroup_34 rfl (lv_at hl 0 rfl) ?_
  refine lv_dup S.1 S.2.1 d_PatternParser_openGroup_35 rfl ?_
  obtain ⟨t13, ht13, hf⟩ := xb hf
  refine x_geti S hw lk_PatternParser_46 ht13 d_PatternParser_openGroup_36 ?_
  refine lv_iconst (v := 1) S.1 S.2.1 d_PatternParser_openGroup_39 (by decide) ?_
  refine lv_iadd S.1 S.2.1 d_PatternParser_openGroup_40 ?_
  obtain ⟨w14, hw14, hf⟩ := xb hf
  refine x_puti S hw lp_PatternParser_46 hw14 d_PatternParser_openGroup_41 (fun H locs hw => ?_)
  refine lv_aload_n S.1 S.2.1 d_PatternParser_openGroup_44 rfl (lv_at hl 0 rfl) ?_
  obtain ⟨t15, ht15, hf⟩ := xb hf
  refine x_getr S hw lk_PatternParser_13 ht15 d_PatternParser_openGroup_45 ?_
  refine lv_aload_n S.1 S.2.1 d_PatternParser_openGroup_48 rfl (lv_at hl 0 rfl) ?_
  obtain ⟨t16, ht16, hf⟩ := xb hf
  refine x_geti S hw lk_PatternParser_46 ht16 d_PatternParser_openGroup_49 ?_
  refine lv_iconst (v := 0) S.1 S.2.1 d_PatternParser_openGroup_52 (by decide) ?_
  obtain ⟨w17, hw17, hf⟩ := xb hf
  refine x_iast S hw hw17 d_PatternParser_openGroup_53 (fun H locs hw => ?_)
  refine lv_aload_n S.1 S.2.1 d_PatternParser_openGroup_54 rfl (lv_at hl 0 rfl) ?_
  obtain ⟨t18, ht18, hf⟩ := xb hf
  refine x_getr S hw lk_PatternParser_17 ht18 d_PatternParser_openGroup_55 ?_
  refine lv_aload_n S.1 S.2.1 d_PatternParser_openGroup_58 rfl (lv_at hl 0 rfl) ?_
  obtain ⟨t19, ht19, hf⟩ := xb hf
  refine x_geti S hw lk_PatternParser_46 ht19 d_PatternParser_openGroup_59 ?_
  refine lv_ldc (v := 1048576) S.1 S.2.1 S.2.2.2.1 (S.2.2.2.2 _ wd_3_75) d_PatternParser_openGroup_62 ?_
  obtain ⟨w20, hw20, hf⟩ := xb hf
  refine x_iast S hw hw20 d_PatternParser_openGroup_64 (fun H locs hw => ?_)
  refine lv_aload_n S.1 S.2.1 d_PatternParser_openGroup_65 rfl (lv_at hl 0 rfl) ?_
  obtain ⟨t21, ht21, hf⟩ := xb hf
  refine x_getr S hw lk_PatternParser_20 ht21 d_PatternParser_openGroup_66 ?_
  refine lv_aload_n S.1 S.2.1 d_PatternParser_openGroup_69 rfl (lv_at hl 0 rfl) ?_
  obtain ⟨t22, ht22, hf⟩ := xb hf
  refine x_geti S hw lk_PatternParser_46 ht22 d_PatternParser_openGroup_70 ?_
  refine lv_aload_n S.1 S.2.1 d_PatternParser_openGroup_73 rfl (lv_at hl 1 rfl) ?_
  obtain ⟨t23, ht23, hf⟩ := xb hf
  refine x_geti S hw lk_PatternParser_109 ht23 d_PatternParser_openGroup_74 ?_
  obtain ⟨w24, hw24, hf⟩ := xb hf
  refine x_iast S hw hw24 d_PatternParser_openGroup_77 (fun H locs hw => ?_)
  refine lv_aload_n S.1 S.2.1 d_PatternParser_openGroup_78 rfl (lv_at hl 0 rfl) ?_
  refine lv_iconst (v := (-1)) S.1 S.2.1 d_PatternParser_openGroup_79 (by decide) ?_
  obtain ⟨w25, hw25, hf⟩ := xb hf
  refine x_puti S hw lp_PatternParser_43 hw25 d_PatternParser_openGroup_80 (fun H locs hw => ?_)
  cases hf
  exact x_vret S hr hlocks hw d_PatternParser_openGroup_83
def f_PatternParser_openGroup (a0 : Nat) (a1 : Nat) (ω : xS) : Option xS :=
  (xgi ω a0 6 5).bind fun t1 =>
  if t1 = (-1) then (
    f_PatternParser_openGroup_34  a0 a1 ω)
  else (
    (xgr ω a0 6 2).bind fun t3 =>
    (xgi ω a0 6 4).bind fun t4 =>
    (xgr ω a0 6 2).bind fun t5 =>
    (xgi ω a0 6 4).bind fun t6 =>
    (xai ω t5 t6).bind fun t7 =>
    (xgi ω a0 6 5).bind fun t8 =>
    xc (xk ω a1 7 (f_Positions_chain a1 t7 t8 ω)) fun t10 w11 =>
    (xsi w11 t3 t4 t10).bind fun w12 =>
    f_PatternParser_openGroup_34  a0 a1 w12)
set_option maxHeartbeats 4000000 in
set_option maxRecDepth 100000 in
theorem c_PatternParser_openGroup {l : Launch} {E : xV} {z : Nat} {a0 : Nat} {a1 : Nat} {ω1 : xS} {ω : xS} (hf : f_PatternParser_openGroup a0 a1 ω = some ω1) : xM l E y_PatternParser_openGroup ws_PatternParser_openGroup { frames := 1, cells := 0, slots := 0, locals := 24 } [.ref a0, .ref a1] z ω none z ω1 := by
  refine x_start (cc := b_PatternParser_openGroup) (maxL := 2) (ret := none) (by decide) rfl (Nat.le_of_ble_eq_true rfl) ?_
  intro p e s m below meth c S hr hlocks hin ls hl hw
  have hl : lv_has ls 2 [(0, .ref a0), (1, .ref a1)] := hl
  unfold f_PatternParser_openGroup at hf
  refine lv_aload_n S.1 S.2.1 d_PatternParser_openGroup_0 rfl (lv_at hl 0 rfl) ?_
  obtain ⟨t1, ht1, hf⟩ := xb hf
  refine x_geti S hw lk_PatternParser_43 ht1 d_PatternParser_openGroup_1 ?_
  refine lv_iconst (v := (-1)) S.1 S.2.1 d_PatternParser_openGroup_4 (by decide) ?_
  refine lv_icmp_eq (tgt := 34) S.1 S.2.1 d_PatternParser_openGroup_5 (by decide) (fun c2 => ?_) (fun c2 => ?_)
  · replace hf := xt c2 hf
    exact w_PatternParser_openGroup_34 S hr hlocks  _ _ _ _ _ _ hw (lv_sub hl [0, 1] rfl) hf
  · replace hf := xf c2 hf
    refine lv_aload_n S.1 S.2.1 d_PatternParser_openGroup_8 rfl (lv_at hl 0 rfl) ?_
    obtain ⟨t3, ht3, hf⟩ := xb hf
    refine x_getr S hw lk_PatternParser_17 ht3 d_PatternParser_openGroup_9 ?_
    refine lv_aload_n S.1 S.2.1 d_PatternParser_openGroup_12 rfl (lv_at hl 0 rfl) ?_
    obtain ⟨t4, ht4, hf⟩ := xb hf
    refine x_geti S hw lk_PatternParser_46 ht4 d_PatternParser_openGroup_13 ?_
    refine lv_aload_n S.1 S.2.1 d_PatternParser_openGroup_16 rfl (lv_at hl 1 rfl) ?_
    refine lv_aload_n S.1 S.2.1 d_PatternParser_openGroup_17 rfl (lv_at hl 0 rfl) ?_
    obtain ⟨t5, ht5, hf⟩ := xb hf
    refine x_getr S hw lk_PatternParser_17 ht5 d_PatternParser_openGroup_18 ?_
    refine lv_aload_n S.1 S.2.1 d_PatternParser_openGroup_21 rfl (lv_at hl 0 rfl) ?_
    obtain ⟨t6, ht6, hf⟩ := xb hf
    refine x_geti S hw lk_PatternParser_46 ht6 d_PatternParser_openGroup_22 ?_
    obtain ⟨t7, ht7, hf⟩ := xb hf
    refine x_iald S hw ht7 d_PatternParser_openGroup_25 ?_
    refine lv_aload_n S.1 S.2.1 d_PatternParser_openGroup_26 rfl (lv_at hl 0 rfl) ?_
    obtain ⟨t8, ht8, hf⟩ := xb hf
    refine x_geti S hw lk_PatternParser_43 ht8 d_PatternParser_openGroup_27 ?_
    obtain ⟨t10, w11, h9, hf⟩ := xcb hf
    obtain ⟨h9b, h9⟩ := xkb h9
    refine x_callV (As := [.int t7, .int t8]) (rest := [.int t4, .ref t3]) (st1 := [.int t10, .int t4, .ref t3]) S hw (c_Positions_chain h9) (cwV 2 S.2.2.2.2 gv_PatternParser_105 rfl rfl rfl hd_Positions_chain ⟨Nat.le_of_ble_eq_true rfl, Nat.le_of_ble_eq_true rfl⟩) rfl h9b rfl hl.1 rfl rfl (Nat.le_of_ble_eq_true rfl) d_PatternParser_openGroup_30 ⟨Nat.le_of_ble_eq_true rfl, Nat.le_of_ble_eq_true rfl⟩ (fun H locs hw => ?_)
    obtain ⟨w12, hw12, hf⟩ := xb hf
    refine x_iast S hw hw12 d_PatternParser_openGroup_33 (fun H locs hw => ?_)
    exact w_PatternParser_openGroup_34 S hr hlocks  _ _ _ _ _ _ hw (lv_sub hl [0, 1] rfl) hf
def f_PatternParser_endRow (a0 : Nat) (x1 : Int32) (a2 : Nat) (ω : xS) : Option xS :=
  (xgr ω a0 6 1).bind fun t1 =>
  (xgi ω a0 6 4).bind fun t2 =>
  (xai ω t1 t2).bind fun t3 =>
  (xgr ω a0 6 2).bind fun t4 =>
  (xgi ω a0 6 4).bind fun t5 =>
  (xai ω t4 t5).bind fun t6 =>
  (xgi ω a0 6 5).bind fun t7 =>
  xc (xk ω a2 7 (f_Positions_chain a2 t6 t7 ω)) fun t9 w10 =>
  if x1 = 124 then (
    (xgr w10 a0 6 1).bind fun t25 =>
    (xgi w10 a0 6 4).bind fun t26 =>
    (xsi w10 t25 t26 (t3 ||| t9)).bind fun w27 =>
    (xgr w27 a0 6 2).bind fun t28 =>
    (xgi w27 a0 6 4).bind fun t29 =>
    (xsi w27 t28 t29 1048576).bind fun w30 =>
    (xp w30 a0 6 5 (.int (-1))).bind fun w31 =>
    some w31)
  else (
    (xp w10 a0 6 5 (.int (t3 ||| t9))).bind fun w12 =>
    (xgr w12 a0 6 3).bind fun t13 =>
    (xgi w12 a0 6 4).bind fun t14 =>
    (xai w12 t13 t14).bind fun t15 =>
    (xp w12 a0 6 6 (.int t15)).bind fun w16 =>
    (xp w16 a0 6 7 (.int 1)).bind fun w17 =>
    if x1 = 34 then (
      (xp w17 a0 6 8 (.int 1)).bind fun w22 =>
      (xgi w22 a0 6 4).bind fun t23 =>
      (xp w22 a0 6 4 (.int (xmax 0 (t23 - 1)))).bind fun w24 =>
      some w24)
    else (
      (xp w17 a0 6 8 (.int 0)).bind fun w19 =>
      (xgi w19 a0 6 4).bind fun t20 =>
      (xp w19 a0 6 4 (.int (xmax 0 (t20 - 1)))).bind fun w21 =>
      some w21))
set_option maxHeartbeats 4000000 in
set_option maxRecDepth 100000 in
theorem c_PatternParser_endRow {l : Launch} {E : xV} {z : Nat} {a0 : Nat} {x1 : Int32} {a2 : Nat} {ω1 : xS} {ω : xS} (hf : f_PatternParser_endRow a0 x1 a2 ω = some ω1) : xM l E y_PatternParser_endRow ws_PatternParser_endRow { frames := 1, cells := 0, slots := 0, locals := 24 } [.ref a0, .int x1, .ref a2] z ω none z ω1 := by
  refine x_start (cc := b_PatternParser_endRow) (maxL := 4) (ret := none) (by decide) rfl (Nat.le_of_ble_eq_true rfl) ?_
  intro p e s m below meth c S hr hlocks hin ls hl hw
  have hl : lv_has ls 4 [(0, .ref a0), (1, .int x1), (2, .ref a2)] := hl
  unfold f_PatternParser_endRow at hf
  refine lv_aload_n S.1 S.2.1 d_PatternParser_endRow_0 rfl (lv_at hl 0 rfl) ?_
  obtain ⟨t1, ht1, hf⟩ := xb hf
  refine x_getr S hw lk_PatternParser_13 ht1 d_PatternParser_endRow_1 ?_
  refine lv_aload_n S.1 S.2.1 d_PatternParser_endRow_4 rfl (lv_at hl 0 rfl) ?_
  obtain ⟨t2, ht2, hf⟩ := xb hf
  refine x_geti S hw lk_PatternParser_46 ht2 d_PatternParser_endRow_5 ?_
  obtain ⟨t3, ht3, hf⟩ := xb hf
  refine x_iald S hw ht3 d_PatternParser_endRow_8 ?_
  refine lv_aload_n S.1 S.2.1 d_PatternParser_endRow_9 rfl (lv_at hl 2 rfl) ?_
  refine lv_aload_n S.1 S.2.1 d_PatternParser_endRow_10 rfl (lv_at hl 0 rfl) ?_
  obtain ⟨t4, ht4, hf⟩ := xb hf
  refine x_getr S hw lk_PatternParser_17 ht4 d_PatternParser_endRow_11 ?_
  refine lv_aload_n S.1 S.2.1 d_PatternParser_endRow_14 rfl (lv_at hl 0 rfl) ?_
  obtain ⟨t5, ht5, hf⟩ := xb hf
  refine x_geti S hw lk_PatternParser_46 ht5 d_PatternParser_endRow_15 ?_
  obtain ⟨t6, ht6, hf⟩ := xb hf
  refine x_iald S hw ht6 d_PatternParser_endRow_18 ?_
  refine lv_aload_n S.1 S.2.1 d_PatternParser_endRow_19 rfl (lv_at hl 0 rfl) ?_
  obtain ⟨t7, ht7, hf⟩ := xb hf
  refine x_geti S hw lk_PatternParser_43 ht7 d_PatternParser_endRow_20 ?_
  obtain ⟨t9, w10, h8, hf⟩ := xcb hf
  obtain ⟨h8b, h8⟩ := xkb h8
  refine x_callV (As := [.int t6, .int t7]) (rest := [.int t3]) (st1 := [.int t9, .int t3]) S hw (c_Positions_chain h8) (cwV 2 S.2.2.2.2 gv_PatternParser_105 rfl rfl rfl hd_Positions_chain ⟨Nat.le_of_ble_eq_true rfl, Nat.le_of_ble_eq_true rfl⟩) rfl h8b rfl hl.1 rfl rfl (Nat.le_of_ble_eq_true rfl) d_PatternParser_endRow_23 ⟨Nat.le_of_ble_eq_true rfl, Nat.le_of_ble_eq_true rfl⟩ (fun H locs hw => ?_)
  refine lv_ior S.1 S.2.1 d_PatternParser_endRow_26 ?_
  refine lv_istore_n (lv' := [(3, .int (t3 ||| t9)), (0, .ref a0), (1, .int x1), (2, .ref a2)]) S.1 S.2.1 d_PatternParser_endRow_27 rfl hl (by decide) rfl (fun ls hl => ?_)
  refine lv_iload_n S.1 S.2.1 d_PatternParser_endRow_28 rfl (lv_at hl 2 rfl) ?_
  refine lv_bipush (v := 124) S.1 S.2.1 d_PatternParser_endRow_29 (by decide) ?_
  refine lv_icmp_ne (tgt := 61) S.1 S.2.1 d_PatternParser_endRow_31 (by decide) (fun c11 => ?_) (fun c11 => ?_)
  · replace hf := xf c11 hf
    refine lv_aload_n S.1 S.2.1 d_PatternParser_endRow_61 rfl (lv_at hl 1 rfl) ?_
    refine lv_iload_n S.1 S.2.1 d_PatternParser_endRow_62 rfl (lv_at hl 0 rfl) ?_
    obtain ⟨w12, hw12, hf⟩ := xb hf
    refine x_puti S hw lp_PatternParser_43 hw12 d_PatternParser_endRow_63 (fun H locs hw => ?_)
    refine lv_aload_n S.1 S.2.1 d_PatternParser_endRow_66 rfl (lv_at hl 1 rfl) ?_
    refine lv_aload_n S.1 S.2.1 d_PatternParser_endRow_67 rfl (lv_at hl 1 rfl) ?_
    obtain ⟨t13, ht13, hf⟩ := xb hf
    refine x_getr S hw lk_PatternParser_20 ht13 d_PatternParser_endRow_68 ?_
    refine lv_aload_n S.1 S.2.1 d_PatternParser_endRow_71 rfl (lv_at hl 1 rfl) ?_
    obtain ⟨t14, ht14, hf⟩ := xb hf
    refine x_geti S hw lk_PatternParser_46 ht14 d_PatternParser_endRow_72 ?_
    obtain ⟨t15, ht15, hf⟩ := xb hf
    refine x_iald S hw ht15 d_PatternParser_endRow_75 ?_
    obtain ⟨w16, hw16, hf⟩ := xb hf
    refine x_puti S hw lp_PatternParser_112 hw16 d_PatternParser_endRow_76 (fun H locs hw => ?_)
    refine lv_aload_n S.1 S.2.1 d_PatternParser_endRow_79 rfl (lv_at hl 1 rfl) ?_
    refine lv_iconst (v := 1) S.1 S.2.1 d_PatternParser_endRow_80 (by decide) ?_
    obtain ⟨w17, hw17, hf⟩ := xb hf
    refine x_put S hw lp_PatternParser_93 (by decide) rfl hw17 d_PatternParser_endRow_81 (fun H locs hw => ?_)
    refine lv_aload_n S.1 S.2.1 d_PatternParser_endRow_84 rfl (lv_at hl 1 rfl) ?_
    refine lv_iload_n S.1 S.2.1 d_PatternParser_endRow_85 rfl (lv_at hl 2 rfl) ?_
    refine lv_bipush (v := 34) S.1 S.2.1 d_PatternParser_endRow_86 (by decide) ?_
    refine lv_icmp_ne (tgt := 95) S.1 S.2.1 d_PatternParser_endRow_88 (by decide) (fun c18 => ?_) (fun c18 => ?_)
    · replace hf := xf c18 hf
      refine lv_iconst (v := 0) S.1 S.2.1 d_PatternParser_endRow_95 (by decide) ?_
      obtain ⟨w19, hw19, hf⟩ := xb hf
      refine x_put S hw lp_PatternParser_36 (by decide) rfl hw19 d_PatternParser_endRow_96 (fun H locs hw => ?_)
      refine lv_aload_n S.1 S.2.1 d_PatternParser_endRow_99 rfl (lv_at hl 1 rfl) ?_
      refine lv_iconst (v := 0) S.1 S.2.1 d_PatternParser_endRow_100 (by decide) ?_
      refine lv_aload_n S.1 S.2.1 d_PatternParser_endRow_101 rfl (lv_at hl 1 rfl) ?_
      obtain ⟨t20, ht20, hf⟩ := xb hf
      refine x_geti S hw lk_PatternParser_46 ht20 d_PatternParser_endRow_102 ?_
      refine lv_iconst (v := 1) S.1 S.2.1 d_PatternParser_endRow_105 (by decide) ?_
      refine lv_isub S.1 S.2.1 d_PatternParser_endRow_106 ?_
      refine x_mmax S hl.1 lm_PatternParser_118 d_PatternParser_endRow_107 (Nat.le_of_ble_eq_true rfl) (Nat.le_of_ble_eq_true rfl) (Nat.zero_le _) (Nat.zero_le _) ?_
      obtain ⟨w21, hw21, hf⟩ := xb hf
      refine x_puti S hw lp_PatternParser_46 hw21 d_PatternParser_endRow_110 (fun H locs hw => ?_)
      cases hf
      exact x_vret S hr hlocks hw d_PatternParser_endRow_113
    · replace hf := xt c18 hf
      refine lv_iconst (v := 1) S.1 S.2.1 d_PatternParser_endRow_91 (by decide) ?_
      refine lv_goto (tgt := 96) S.1 S.2.1 d_PatternParser_endRow_92 (by decide) ?_
      obtain ⟨w22, hw22, hf⟩ := xb hf
      refine x_put S hw lp_PatternParser_36 (by decide) rfl hw22 d_PatternParser_endRow_96 (fun H locs hw => ?_)
      refine lv_aload_n S.1 S.2.1 d_PatternParser_endRow_99 rfl (lv_at hl 1 rfl) ?_
      refine lv_iconst (v := 0) S.1 S.2.1 d_PatternParser_endRow_100 (by decide) ?_
      refine lv_aload_n S.1 S.2.1 d_PatternParser_endRow_101 rfl (lv_at hl 1 rfl) ?_
      obtain ⟨t23, ht23, hf⟩ := xb hf
      refine x_geti S hw lk_PatternParser_46 ht23 d_PatternParser_endRow_102 ?_
      refine lv_iconst (v := 1) S.1 S.2.1 d_PatternParser_endRow_105 (by decide) ?_
      refine lv_isub S.1 S.2.1 d_PatternParser_endRow_106 ?_
      refine x_mmax S hl.1 lm_PatternParser_118 d_PatternParser_endRow_107 (Nat.le_of_ble_eq_true rfl) (Nat.le_of_ble_eq_true rfl) (Nat.zero_le _) (Nat.zero_le _) ?_
      obtain ⟨w24, hw24, hf⟩ := xb hf
      refine x_puti S hw lp_PatternParser_46 hw24 d_PatternParser_endRow_110 (fun H locs hw => ?_)
      cases hf
      exact x_vret S hr hlocks hw d_PatternParser_endRow_113
  · replace hf := xt c11 hf
    refine lv_aload_n S.1 S.2.1 d_PatternParser_endRow_34 rfl (lv_at hl 1 rfl) ?_
    obtain ⟨t25, ht25, hf⟩ := xb hf
    refine x_getr S hw lk_PatternParser_13 ht25 d_PatternParser_endRow_35 ?_
    refine lv_aload_n S.1 S.2.1 d_PatternParser_endRow_38 rfl (lv_at hl 1 rfl) ?_
    obtain ⟨t26, ht26, hf⟩ := xb hf
    refine x_geti S hw lk_PatternParser_46 ht26 d_PatternParser_endRow_39 ?_
    refine lv_iload_n S.1 S.2.1 d_PatternParser_endRow_42 rfl (lv_at hl 0 rfl) ?_
    obtain ⟨w27, hw27, hf⟩ := xb hf
    refine x_iast S hw hw27 d_PatternParser_endRow_43 (fun H locs hw => ?_)
    refine lv_aload_n S.1 S.2.1 d_PatternParser_endRow_44 rfl (lv_at hl 1 rfl) ?_
    obtain ⟨t28, ht28, hf⟩ := xb hf
    refine x_getr S hw lk_PatternParser_17 ht28 d_PatternParser_endRow_45 ?_
    refine lv_aload_n S.1 S.2.1 d_PatternParser_endRow_48 rfl (lv_at hl 1 rfl) ?_
    obtain ⟨t29, ht29, hf⟩ := xb hf
    refine x_geti S hw lk_PatternParser_46 ht29 d_PatternParser_endRow_49 ?_
    refine lv_ldc (v := 1048576) S.1 S.2.1 S.2.2.2.1 (S.2.2.2.2 _ wd_3_75) d_PatternParser_endRow_52 ?_
    obtain ⟨w30, hw30, hf⟩ := xb hf
    refine x_iast S hw hw30 d_PatternParser_endRow_54 (fun H locs hw => ?_)
    refine lv_aload_n S.1 S.2.1 d_PatternParser_endRow_55 rfl (lv_at hl 1 rfl) ?_
    refine lv_iconst (v := (-1)) S.1 S.2.1 d_PatternParser_endRow_56 (by decide) ?_
    obtain ⟨w31, hw31, hf⟩ := xb hf
    refine x_puti S hw lp_PatternParser_43 hw31 d_PatternParser_endRow_57 (fun H locs hw => ?_)
    cases hf
    exact x_vret S hr hlocks hw d_PatternParser_endRow_60
def f_PatternParser_timesInBraces_166 (a0 : Nat) (x1 : Int32) (x2 : Int32) (ω : xS) : Option (Int32 × xS) :=
  (xgi ω a0 6 9).bind fun t57 =>
  (xp ω a0 6 9 (.int (t57 + 4))).bind fun w58 =>
  (xgi w58 a0 6 10).bind fun t59 =>
  if t59 = 0 then (
    some (((10 * x1) + x2), w58))
  else (
    some (11, w58))
set_option maxHeartbeats 4000000 in
set_option maxRecDepth 100000 in
theorem w_PatternParser_timesInBraces_166 {p : Program} {l : Launch} {e : Env} {s : State} {m : MethodId} {args : Array Value} {below : List Frame} {meth : Method} {c : Code} {E : xV} {z : Nat} {r : Int32} {ω1 : xS} (S : CallFix p m c b_PatternParser_timesInBraces 3 s args xTbl "RosterRules$PatternParser") (hr : meth.sig.returnType = (some .int)) (hlocks : meth.locks = false) : ∀ (a0 : Nat) (x1 : Int32) (x2 : Int32) (ω : xS) (H : Heap) (locs : List Loc) (ls : Array Slot), xW E z ω s s.heap H locs → lv_has ls 3 [(0, .ref a0), (1, .int x1), (2, .int x2)] → f_PatternParser_timesInBraces_166 a0 x1 x2 ω = some (r, ω1) → W p l e (headSpec ws_PatternParser_timesInBraces { frames := 1, cells := 0, slots := 0, locals := 22 }).room s m args below meth c H locs 0 0 (MQ below (xQ E (some (.int r)) z ω1) args s 0 0 (fun q => E.2.2 ≤ q)) (F0 m 166 ls []) := by
  intro a0 x1 x2 ω H locs ls hw hl hf
  unfold f_PatternParser_timesInBraces_166 at hf
  refine lv_aload_n S.1 S.2.1 d_PatternParser_timesInBraces_166 rfl (lv_at hl 0 rfl) ?_
  refine lv_dup S.1 S.2.1 d_PatternParser_timesInBraces_167 rfl ?_
  obtain ⟨t57, ht57, hf⟩ := xb hf
  refine x_geti S hw lk_PatternParser_40 ht57 d_PatternParser_timesInBraces_168 ?_
  refine lv_iconst (v := 4) S.1 S.2.1 d_PatternParser_timesInBraces_171 (by decide) ?_
  refine lv_iadd S.1 S.2.1 d_PatternParser_timesInBraces_172 ?_
  obtain ⟨w58, hw58, hf⟩ := xb hf
  refine x_puti S hw lp_PatternParser_40 hw58 d_PatternParser_timesInBraces_173 (fun H locs hw => ?_)
  refine lv_aload_n S.1 S.2.1 d_PatternParser_timesInBraces_176 rfl (lv_at hl 0 rfl) ?_
  obtain ⟨t59, ht59, hf⟩ := xb hf
  refine x_geti S hw lk_PatternParser_32 ht59 d_PatternParser_timesInBraces_177 ?_
  refine lv_if_ne (tgt := 192) S.1 S.2.1 d_PatternParser_timesInBraces_180 (by decide) (fun c60 => ?_) (fun c60 => ?_)
  · replace hf := xf c60 hf
    refine lv_bipush (v := 11) S.1 S.2.1 d_PatternParser_timesInBraces_192 (by decide) ?_
    obtain ⟨rfl, rfl⟩ := xe2 hf
    exact x_iret S hr hlocks hw d_PatternParser_timesInBraces_194
  · replace hf := xt c60 hf
    refine lv_bipush (v := 10) S.1 S.2.1 d_PatternParser_timesInBraces_183 (by decide) ?_
    refine lv_iload_n S.1 S.2.1 d_PatternParser_timesInBraces_185 rfl (lv_at hl 1 rfl) ?_
    refine lv_imul S.1 S.2.1 d_PatternParser_timesInBraces_186 ?_
    refine lv_iload_n S.1 S.2.1 d_PatternParser_timesInBraces_187 rfl (lv_at hl 2 rfl) ?_
    refine lv_iadd S.1 S.2.1 d_PatternParser_timesInBraces_188 ?_
    refine lv_goto (tgt := 194) S.1 S.2.1 d_PatternParser_timesInBraces_189 (by decide) ?_
    obtain ⟨rfl, rfl⟩ := xe2 hf
    exact x_iret S hr hlocks hw d_PatternParser_timesInBraces_194
def f_PatternParser_timesInBraces (a0 : Nat) (ω : xS) : Option (Int32 × xS) :=
  (xgr ω a0 6 0).bind fun t1 =>
  (xgi ω a0 6 9).bind fun t2 =>
  (xk ω t1 9 (f_Tape_byteAt t1 (t2 + 1) ω)).bind fun t4 =>
  (xgr ω a0 6 0).bind fun t5 =>
  (xgi ω a0 6 9).bind fun t6 =>
  (xk ω t5 9 (f_Tape_byteAt t5 (t6 + 3) ω)).bind fun t8 =>
  if (t4 - 48) < 0 then (
    (xgi ω a0 6 9).bind fun t10 =>
    (xk ω a0 6 (f_PatternParser_refuse a0 2 (t10 + 1) ω)).bind fun w13 =>
    f_PatternParser_timesInBraces_166  a0 (t4 - 48) (t8 - 48) w13)
  else (
    if (t4 - 48) ≤ 9 then (
      (xgr ω a0 6 0).bind fun t15 =>
      (xgi ω a0 6 9).bind fun t16 =>
      (xk ω t15 9 (f_Tape_byteAt t15 (t16 + 2) ω)).bind fun t18 =>
      if t18 = 44 then (
        if (t8 - 48) < 0 then (
          (xgi ω a0 6 9).bind fun t21 =>
          (xk ω a0 6 (f_PatternParser_refuse a0 2 (t21 + 3) ω)).bind fun w24 =>
          f_PatternParser_timesInBraces_166  a0 (t4 - 48) (t8 - 48) w24)
        else (
          if (t8 - 48) ≤ 9 then (
            if (t8 - 48) = 0 then (
              (xgi ω a0 6 9).bind fun t27 =>
              (xk ω a0 6 (f_PatternParser_refuse a0 4 (t27 + 3) ω)).bind fun w30 =>
              f_PatternParser_timesInBraces_166  a0 (t4 - 48) (t8 - 48) w30)
            else (
              if (t4 - 48) ≤ (t8 - 48) then (
                (xgr ω a0 6 0).bind fun t32 =>
                (xgi ω a0 6 9).bind fun t33 =>
                (xk ω t32 9 (f_Tape_byteAt t32 (t33 + 4) ω)).bind fun t35 =>
                if t35 = 125 then (
                  f_PatternParser_timesInBraces_166  a0 (t4 - 48) (t8 - 48) ω)
                else (
                  (xgi ω a0 6 9).bind fun t37 =>
                  (xk ω a0 6 (f_PatternParser_refuse a0 2 (t37 + 4) ω)).bind fun w40 =>
                  f_PatternParser_timesInBraces_166  a0 (t4 - 48) (t8 - 48) w40))
              else (
                (xgi ω a0 6 9).bind fun t41 =>
                (xk ω a0 6 (f_PatternParser_refuse a0 4 (t41 + 3) ω)).bind fun w44 =>
                f_PatternParser_timesInBraces_166  a0 (t4 - 48) (t8 - 48) w44)))
          else (
            (xgi ω a0 6 9).bind fun t45 =>
            (xk ω a0 6 (f_PatternParser_refuse a0 2 (t45 + 3) ω)).bind fun w48 =>
            f_PatternParser_timesInBraces_166  a0 (t4 - 48) (t8 - 48) w48)))
      else (
        (xgi ω a0 6 9).bind fun t49 =>
        (xk ω a0 6 (f_PatternParser_refuse a0 2 (t49 + 2) ω)).bind fun w52 =>
        f_PatternParser_timesInBraces_166  a0 (t4 - 48) (t8 - 48) w52))
    else (
      (xgi ω a0 6 9).bind fun t53 =>
      (xk ω a0 6 (f_PatternParser_refuse a0 2 (t53 + 1) ω)).bind fun w56 =>
      f_PatternParser_timesInBraces_166  a0 (t4 - 48) (t8 - 48) w56))
set_option maxHeartbeats 4000000 in
set_option maxRecDepth 100000 in
theorem c_PatternParser_timesInBraces {l : Launch} {E : xV} {z : Nat} {a0 : Nat} {r : Int32} {ω1 : xS} {ω : xS} (hf : f_PatternParser_timesInBraces a0 ω = some (r, ω1)) : xM l E y_PatternParser_timesInBraces ws_PatternParser_timesInBraces { frames := 1, cells := 0, slots := 0, locals := 22 } [.ref a0] z ω (some (.int r)) z ω1 := by
  refine x_start (cc := b_PatternParser_timesInBraces) (maxL := 3) (ret := (some .int)) (by decide) rfl (Nat.le_of_ble_eq_true rfl) ?_
  intro p e s m below meth c S hr hlocks hin ls hl hw
  have hl : lv_has ls 3 [(0, .ref a0)] := hl
  unfold f_PatternParser_timesInBraces at hf
  refine lv_aload_n S.1 S.2.1 d_PatternParser_timesInBraces_0 rfl (lv_at hl 0 rfl) ?_
  obtain ⟨t1, ht1, hf⟩ := xb hf
  refine x_getr S hw lk_PatternParser_23 ht1 d_PatternParser_timesInBraces_1 ?_
  refine lv_aload_n S.1 S.2.1 d_PatternParser_timesInBraces_4 rfl (lv_at hl 0 rfl) ?_
  obtain ⟨t2, ht2, hf⟩ := xb hf
  refine x_geti S hw lk_PatternParser_40 ht2 d_PatternParser_timesInBraces_5 ?_
  refine lv_iconst (v := 1) S.1 S.2.1 d_PatternParser_timesInBraces_8 (by decide) ?_
  refine lv_iadd S.1 S.2.1 d_PatternParser_timesInBraces_9 ?_
  obtain ⟨t4, h3, hf⟩ := xb hf
  obtain ⟨h3b, h3⟩ := xkb h3
  refine x_callV (As := [.int (t2 + 1)]) (rest := []) (st1 := [.int t4]) S hw (c_Tape_byteAt h3) (cwV 1 S.2.2.2.2 gv_PatternParser_50 rfl rfl rfl hd_Tape_byteAt ⟨Nat.le_of_ble_eq_true rfl, Nat.le_of_ble_eq_true rfl⟩) rfl h3b rfl hl.1 rfl rfl (Nat.le_of_ble_eq_true rfl) d_PatternParser_timesInBraces_10 ⟨Nat.le_of_ble_eq_true rfl, Nat.le_of_ble_eq_true rfl⟩ (fun H locs hw => ?_)
  refine lv_bipush (v := 48) S.1 S.2.1 d_PatternParser_timesInBraces_13 (by decide) ?_
  refine lv_isub S.1 S.2.1 d_PatternParser_timesInBraces_15 ?_
  refine lv_istore_n (lv' := [(1, .int (t4 - 48)), (0, .ref a0)]) S.1 S.2.1 d_PatternParser_timesInBraces_16 rfl hl (by decide) rfl (fun ls hl => ?_)
  refine lv_aload_n S.1 S.2.1 d_PatternParser_timesInBraces_17 rfl (lv_at hl 1 rfl) ?_
  obtain ⟨t5, ht5, hf⟩ := xb hf
  refine x_getr S hw lk_PatternParser_23 ht5 d_PatternParser_timesInBraces_18 ?_
  refine lv_aload_n S.1 S.2.1 d_PatternParser_timesInBraces_21 rfl (lv_at hl 1 rfl) ?_
  obtain ⟨t6, ht6, hf⟩ := xb hf
  refine x_geti S hw lk_PatternParser_40 ht6 d_PatternParser_timesInBraces_22 ?_
  refine lv_iconst (v := 3) S.1 S.2.1 d_PatternParser_timesInBraces_25 (by decide) ?_
  refine lv_iadd S.1 S.2.1 d_PatternParser_timesInBraces_26 ?_
  obtain ⟨t8, h7, hf⟩ := xb hf
  obtain ⟨h7b, h7⟩ := xkb h7
  refine x_callV (As := [.int (t6 + 3)]) (rest := []) (st1 := [.int t8]) S hw (c_Tape_byteAt h7) (cwV 1 S.2.2.2.2 gv_PatternParser_50 rfl rfl rfl hd_Tape_byteAt ⟨Nat.le_of_ble_eq_true rfl, Nat.le_of_ble_eq_true rfl⟩) rfl h7b rfl hl.1 rfl rfl (Nat.le_of_ble_eq_true rfl) d_PatternParser_timesInBraces_27 ⟨Nat.le_of_ble_eq_true rfl, Nat.le_of_ble_eq_true rfl⟩ (fun H locs hw => ?_)
  refine lv_bipush (v := 48) S.1 S.2.1 d_PatternParser_timesInBraces_30 (by decide) ?_
  refine lv_isub S.1 S.2.1 d_PatternParser_timesInBraces_32 ?_
  refine lv_istore_n (lv' := [(2, .int (t8 - 48)), (1, .int (t4 - 48)), (0, .ref a0)]) S.1 S.2.1 d_PatternParser_timesInBraces_33 rfl hl (by decide) rfl (fun ls hl => ?_)
  refine lv_iload_n S.1 S.2.1 d_PatternParser_timesInBraces_34 rfl (lv_at hl 1 rfl) ?_
  refine lv_if_lt (tgt := 44) S.1 S.2.1 d_PatternParser_timesInBraces_35 (by decide) (fun c9 => ?_) (fun c9 => ?_)
  · replace hf := xt c9 hf
    refine lv_aload_n S.1 S.2.1 d_PatternParser_timesInBraces_44 rfl (lv_at hl 2 rfl) ?_
    refine lv_iconst (v := 2) S.1 S.2.1 d_PatternParser_timesInBraces_45 (by decide) ?_
    refine lv_aload_n S.1 S.2.1 d_PatternParser_timesInBraces_46 rfl (lv_at hl 2 rfl) ?_
    obtain ⟨t10, ht10, hf⟩ := xb hf
    refine x_geti S hw lk_PatternParser_40 ht10 d_PatternParser_timesInBraces_47 ?_
    refine lv_iconst (v := 1) S.1 S.2.1 d_PatternParser_timesInBraces_50 (by decide) ?_
    refine lv_iadd S.1 S.2.1 d_PatternParser_timesInBraces_51 ?_
    obtain ⟨w13, h11, hf⟩ := xb hf
    obtain ⟨h11b, h11⟩ := xkb h11
    refine x_callV (As := [.int 2, .int (t10 + 1)]) (rest := []) (st1 := []) S hw (c_PatternParser_refuse h11) (cwV 2 S.2.2.2.2 gv_PatternParser_65 rfl rfl rfl hd_PatternParser_refuse ⟨Nat.le_of_ble_eq_true rfl, Nat.le_of_ble_eq_true rfl⟩) rfl h11b rfl hl.1 rfl rfl (Nat.le_of_ble_eq_true rfl) d_PatternParser_timesInBraces_52 ⟨Nat.le_of_ble_eq_true rfl, Nat.le_of_ble_eq_true rfl⟩ (fun H locs hw => ?_)
    refine lv_goto (tgt := 166) S.1 S.2.1 d_PatternParser_timesInBraces_55 (by decide) ?_
    exact w_PatternParser_timesInBraces_166 S hr hlocks  _ _ _ _ _ _ _ hw (lv_sub hl [2, 1, 0] rfl) hf
  · replace hf := xf c9 hf
    refine lv_iload_n S.1 S.2.1 d_PatternParser_timesInBraces_38 rfl (lv_at hl 1 rfl) ?_
    refine lv_bipush (v := 9) S.1 S.2.1 d_PatternParser_timesInBraces_39 (by decide) ?_
    refine lv_icmp_le (tgt := 58) S.1 S.2.1 d_PatternParser_timesInBraces_41 (by decide) (fun c14 => ?_) (fun c14 => ?_)
    · replace hf := xt c14 hf
      refine lv_aload_n S.1 S.2.1 d_PatternParser_timesInBraces_58 rfl (lv_at hl 2 rfl) ?_
      obtain ⟨t15, ht15, hf⟩ := xb hf
      refine x_getr S hw lk_PatternParser_23 ht15 d_PatternParser_timesInBraces_59 ?_
      refine lv_aload_n S.1 S.2.1 d_PatternParser_timesInBraces_62 rfl (lv_at hl 2 rfl) ?_
      obtain ⟨t16, ht16, hf⟩ := xb hf
      refine x_geti S hw lk_PatternParser_40 ht16 d_PatternParser_timesInBraces_63 ?_
      refine lv_iconst (v := 2) S.1 S.2.1 d_PatternParser_timesInBraces_66 (by decide) ?_
      refine lv_iadd S.1 S.2.1 d_PatternParser_timesInBraces_67 ?_
      obtain ⟨t18, h17, hf⟩ := xb hf
      obtain ⟨h17b, h17⟩ := xkb h17
      refine x_callV (As := [.int (t16 + 2)]) (rest := []) (st1 := [.int t18]) S hw (c_Tape_byteAt h17) (cwV 1 S.2.2.2.2 gv_PatternParser_50 rfl rfl rfl hd_Tape_byteAt ⟨Nat.le_of_ble_eq_true rfl, Nat.le_of_ble_eq_true rfl⟩) rfl h17b rfl hl.1 rfl rfl (Nat.le_of_ble_eq_true rfl) d_PatternParser_timesInBraces_68 ⟨Nat.le_of_ble_eq_true rfl, Nat.le_of_ble_eq_true rfl⟩ (fun H locs hw => ?_)
      refine lv_bipush (v := 44) S.1 S.2.1 d_PatternParser_timesInBraces_71 (by decide) ?_
      refine lv_icmp_eq (tgt := 90) S.1 S.2.1 d_PatternParser_timesInBraces_73 (by decide) (fun c19 => ?_) (fun c19 => ?_)
      · replace hf := xt c19 hf
        refine lv_iload_n S.1 S.2.1 d_PatternParser_timesInBraces_90 rfl (lv_at hl 0 rfl) ?_
        refine lv_if_lt (tgt := 100) S.1 S.2.1 d_PatternParser_timesInBraces_91 (by decide) (fun c20 => ?_) (fun c20 => ?_)
        · replace hf := xt c20 hf
          refine lv_aload_n S.1 S.2.1 d_PatternParser_timesInBraces_100 rfl (lv_at hl 2 rfl) ?_
          refine lv_iconst (v := 2) S.1 S.2.1 d_PatternParser_timesInBraces_101 (by decide) ?_
          refine lv_aload_n S.1 S.2.1 d_PatternParser_timesInBraces_102 rfl (lv_at hl 2 rfl) ?_
          obtain ⟨t21, ht21, hf⟩ := xb hf
          refine x_geti S hw lk_PatternParser_40 ht21 d_PatternParser_timesInBraces_103 ?_
          refine lv_iconst (v := 3) S.1 S.2.1 d_PatternParser_timesInBraces_106 (by decide) ?_
          refine lv_iadd S.1 S.2.1 d_PatternParser_timesInBraces_107 ?_
          obtain ⟨w24, h22, hf⟩ := xb hf
          obtain ⟨h22b, h22⟩ := xkb h22
          refine x_callV (As := [.int 2, .int (t21 + 3)]) (rest := []) (st1 := []) S hw (c_PatternParser_refuse h22) (cwV 2 S.2.2.2.2 gv_PatternParser_65 rfl rfl rfl hd_PatternParser_refuse ⟨Nat.le_of_ble_eq_true rfl, Nat.le_of_ble_eq_true rfl⟩) rfl h22b rfl hl.1 rfl rfl (Nat.le_of_ble_eq_true rfl) d_PatternParser_timesInBraces_108 ⟨Nat.le_of_ble_eq_true rfl, Nat.le_of_ble_eq_true rfl⟩ (fun H locs hw => ?_)
          refine lv_goto (tgt := 166) S.1 S.2.1 d_PatternParser_timesInBraces_111 (by decide) ?_
          exact w_PatternParser_timesInBraces_166 S hr hlocks  _ _ _ _ _ _ _ hw (lv_sub hl [2, 1, 0] rfl) hf
        · replace hf := xf c20 hf
          refine lv_iload_n S.1 S.2.1 d_PatternParser_timesInBraces_94 rfl (lv_at hl 0 rfl) ?_
          refine lv_bipush (v := 9) S.1 S.2.1 d_PatternParser_timesInBraces_95 (by decide) ?_
          refine lv_icmp_le (tgt := 114) S.1 S.2.1 d_PatternParser_timesInBraces_97 (by decide) (fun c25 => ?_) (fun c25 => ?_)
          · replace hf := xt c25 hf
            refine lv_iload_n S.1 S.2.1 d_PatternParser_timesInBraces_114 rfl (lv_at hl 0 rfl) ?_
            refine lv_if_eq (tgt := 123) S.1 S.2.1 d_PatternParser_timesInBraces_115 (by decide) (fun c26 => ?_) (fun c26 => ?_)
            · replace hf := xt c26 hf
              refine lv_aload_n S.1 S.2.1 d_PatternParser_timesInBraces_123 rfl (lv_at hl 2 rfl) ?_
              refine lv_iconst (v := 4) S.1 S.2.1 d_PatternParser_timesInBraces_124 (by decide) ?_
              refine lv_aload_n S.1 S.2.1 d_PatternParser_timesInBraces_125 rfl (lv_at hl 2 rfl) ?_
              obtain ⟨t27, ht27, hf⟩ := xb hf
              refine x_geti S hw lk_PatternParser_40 ht27 d_PatternParser_timesInBraces_126 ?_
              refine lv_iconst (v := 3) S.1 S.2.1 d_PatternParser_timesInBraces_129 (by decide) ?_
              refine lv_iadd S.1 S.2.1 d_PatternParser_timesInBraces_130 ?_
              obtain ⟨w30, h28, hf⟩ := xb hf
              obtain ⟨h28b, h28⟩ := xkb h28
              refine x_callV (As := [.int 4, .int (t27 + 3)]) (rest := []) (st1 := []) S hw (c_PatternParser_refuse h28) (cwV 2 S.2.2.2.2 gv_PatternParser_65 rfl rfl rfl hd_PatternParser_refuse ⟨Nat.le_of_ble_eq_true rfl, Nat.le_of_ble_eq_true rfl⟩) rfl h28b rfl hl.1 rfl rfl (Nat.le_of_ble_eq_true rfl) d_PatternParser_timesInBraces_131 ⟨Nat.le_of_ble_eq_true rfl, Nat.le_of_ble_eq_true rfl⟩ (fun H locs hw => ?_)
              refine lv_goto (tgt := 166) S.1 S.2.1 d_PatternParser_timesInBraces_134 (by decide) ?_
              exact w_PatternParser_timesInBraces_166 S hr hlocks  _ _ _ _ _ _ _ hw (lv_sub hl [2, 1, 0] rfl) hf
            · replace hf := xf c26 hf
              refine lv_iload_n S.1 S.2.1 d_PatternParser_timesInBraces_118 rfl (lv_at hl 0 rfl) ?_
              refine lv_iload_n S.1 S.2.1 d_PatternParser_timesInBraces_119 rfl (lv_at hl 1 rfl) ?_
              refine lv_icmp_ge (tgt := 137) S.1 S.2.1 d_PatternParser_timesInBraces_120 (by decide) (fun c31 => ?_) (fun c31 => ?_)
              · replace hf := xt c31 hf
                refine lv_aload_n S.1 S.2.1 d_PatternParser_timesInBraces_137 rfl (lv_at hl 2 rfl) ?_
                obtain ⟨t32, ht32, hf⟩ := xb hf
                refine x_getr S hw lk_PatternParser_23 ht32 d_PatternParser_timesInBraces_138 ?_
                refine lv_aload_n S.1 S.2.1 d_PatternParser_timesInBraces_141 rfl (lv_at hl 2 rfl) ?_
                obtain ⟨t33, ht33, hf⟩ := xb hf
                refine x_geti S hw lk_PatternParser_40 ht33 d_PatternParser_timesInBraces_142 ?_
                refine lv_iconst (v := 4) S.1 S.2.1 d_PatternParser_timesInBraces_145 (by decide) ?_
                refine lv_iadd S.1 S.2.1 d_PatternParser_timesInBraces_146 ?_
                obtain ⟨t35, h34, hf⟩ := xb hf
                obtain ⟨h34b, h34⟩ := xkb h34
                refine x_callV (As := [.int (t33 + 4)]) (rest := []) (st1 := [.int t35]) S hw (c_Tape_byteAt h34) (cwV 1 S.2.2.2.2 gv_PatternParser_50 rfl rfl rfl hd_Tape_byteAt ⟨Nat.le_of_ble_eq_true rfl, Nat.le_of_ble_eq_true rfl⟩) rfl h34b rfl hl.1 rfl rfl (Nat.le_of_ble_eq_true rfl) d_PatternParser_timesInBraces_147 ⟨Nat.le_of_ble_eq_true rfl, Nat.le_of_ble_eq_true rfl⟩ (fun H locs hw => ?_)
                refine lv_bipush (v := 125) S.1 S.2.1 d_PatternParser_timesInBraces_150 (by decide) ?_
                refine lv_icmp_eq (tgt := 166) S.1 S.2.1 d_PatternParser_timesInBraces_152 (by decide) (fun c36 => ?_) (fun c36 => ?_)
                · replace hf := xt c36 hf
                  exact w_PatternParser_timesInBraces_166 S hr hlocks  _ _ _ _ _ _ _ hw (lv_sub hl [2, 1, 0] rfl) hf
                · replace hf := xf c36 hf
                  refine lv_aload_n S.1 S.2.1 d_PatternParser_timesInBraces_155 rfl (lv_at hl 2 rfl) ?_
                  refine lv_iconst (v := 2) S.1 S.2.1 d_PatternParser_timesInBraces_156 (by decide) ?_
                  refine lv_aload_n S.1 S.2.1 d_PatternParser_timesInBraces_157 rfl (lv_at hl 2 rfl) ?_
                  obtain ⟨t37, ht37, hf⟩ := xb hf
                  refine x_geti S hw lk_PatternParser_40 ht37 d_PatternParser_timesInBraces_158 ?_
                  refine lv_iconst (v := 4) S.1 S.2.1 d_PatternParser_timesInBraces_161 (by decide) ?_
                  refine lv_iadd S.1 S.2.1 d_PatternParser_timesInBraces_162 ?_
                  obtain ⟨w40, h38, hf⟩ := xb hf
                  obtain ⟨h38b, h38⟩ := xkb h38
                  refine x_callV (As := [.int 2, .int (t37 + 4)]) (rest := []) (st1 := []) S hw (c_PatternParser_refuse h38) (cwV 2 S.2.2.2.2 gv_PatternParser_65 rfl rfl rfl hd_PatternParser_refuse ⟨Nat.le_of_ble_eq_true rfl, Nat.le_of_ble_eq_true rfl⟩) rfl h38b rfl hl.1 rfl rfl (Nat.le_of_ble_eq_true rfl) d_PatternParser_timesInBraces_163 ⟨Nat.le_of_ble_eq_true rfl, Nat.le_of_ble_eq_true rfl⟩ (fun H locs hw => ?_)
                  exact w_PatternParser_timesInBraces_166 S hr hlocks  _ _ _ _ _ _ _ hw (lv_sub hl [2, 1, 0] rfl) hf
              · replace hf := xf c31 hf
                refine lv_aload_n S.1 S.2.1 d_PatternParser_timesInBraces_123 rfl (lv_at hl 2 rfl) ?_
                refine lv_iconst (v := 4) S.1 S.2.1 d_PatternParser_timesInBraces_124 (by decide) ?_
                refine lv_aload_n S.1 S.2.1 d_PatternParser_timesInBraces_125 rfl (lv_at hl 2 rfl) ?_
                obtain ⟨t41, ht41, hf⟩ := xb hf
                refine x_geti S hw lk_PatternParser_40 ht41 d_PatternParser_timesInBraces_126 ?_
                refine lv_iconst (v := 3) S.1 S.2.1 d_PatternParser_timesInBraces_129 (by decide) ?_
                refine lv_iadd S.1 S.2.1 d_PatternParser_timesInBraces_130 ?_
                obtain ⟨w44, h42, hf⟩ := xb hf
                obtain ⟨h42b, h42⟩ := xkb h42
                refine x_callV (As := [.int 4, .int (t41 + 3)]) (rest := []) (st1 := []) S hw (c_PatternParser_refuse h42) (cwV 2 S.2.2.2.2 gv_PatternParser_65 rfl rfl rfl hd_PatternParser_refuse ⟨Nat.le_of_ble_eq_true rfl, Nat.le_of_ble_eq_true rfl⟩) rfl h42b rfl hl.1 rfl rfl (Nat.le_of_ble_eq_true rfl) d_PatternParser_timesInBraces_131 ⟨Nat.le_of_ble_eq_true rfl, Nat.le_of_ble_eq_true rfl⟩ (fun H locs hw => ?_)
                refine lv_goto (tgt := 166) S.1 S.2.1 d_PatternParser_timesInBraces_134 (by decide) ?_
                exact w_PatternParser_timesInBraces_166 S hr hlocks  _ _ _ _ _ _ _ hw (lv_sub hl [2, 1, 0] rfl) hf
          · replace hf := xf c25 hf
            refine lv_aload_n S.1 S.2.1 d_PatternParser_timesInBraces_100 rfl (lv_at hl 2 rfl) ?_
            refine lv_iconst (v := 2) S.1 S.2.1 d_PatternParser_timesInBraces_101 (by decide) ?_
            refine lv_aload_n S.1 S.2.1 d_PatternParser_timesInBraces_102 rfl (lv_at hl 2 rfl) ?_
            obtain ⟨t45, ht45, hf⟩ := xb hf
            refine x_geti S hw lk_PatternParser_40 ht45 d_PatternParser_timesInBraces_103 ?_
            refine lv_iconst (v := 3) S.1 S.2.1 d_PatternParser_timesInBraces_106 (by decide) ?_
            refine lv_iadd S.1 S.2.1 d_PatternParser_timesInBraces_107 ?_
            obtain ⟨w48, h46, hf⟩ := xb hf
            obtain ⟨h46b, h46⟩ := xkb h46
            refine x_callV (As := [.int 2, .int (t45 + 3)]) (rest := []) (st1 := []) S hw (c_PatternParser_refuse h46) (cwV 2 S.2.2.2.2 gv_PatternParser_65 rfl rfl rfl hd_PatternParser_refuse ⟨Nat.le_of_ble_eq_true rfl, Nat.le_of_ble_eq_true rfl⟩) rfl h46b rfl hl.1 rfl rfl (Nat.le_of_ble_eq_true rfl) d_PatternParser_timesInBraces_108 ⟨Nat.le_of_ble_eq_true rfl, Nat.le_of_ble_eq_true rfl⟩ (fun H locs hw => ?_)
            refine lv_goto (tgt := 166) S.1 S.2.1 d_PatternParser_timesInBraces_111 (by decide) ?_
            exact w_PatternParser_timesInBraces_166 S hr hlocks  _ _ _ _ _ _ _ hw (lv_sub hl [2, 1, 0] rfl) hf
      · replace hf := xf c19 hf
        refine lv_aload_n S.1 S.2.1 d_PatternParser_timesInBraces_76 rfl (lv_at hl 2 rfl) ?_
        refine lv_iconst (v := 2) S.1 S.2.1 d_PatternParser_timesInBraces_77 (by decide) ?_
        refine lv_aload_n S.1 S.2.1 d_PatternParser_timesInBraces_78 rfl (lv_at hl 2 rfl) ?_
        obtain ⟨t49, ht49, hf⟩ := xb hf
        refine x_geti S hw lk_PatternParser_40 ht49 d_PatternParser_timesInBraces_79 ?_
        refine lv_iconst (v := 2) S.1 S.2.1 d_PatternParser_timesInBraces_82 (by decide) ?_
        refine lv_iadd S.1 S.2.1 d_PatternParser_timesInBraces_83 ?_
        obtain ⟨w52, h50, hf⟩ := xb hf
        obtain ⟨h50b, h50⟩ := xkb h50
        refine x_callV (As := [.int 2, .int (t49 + 2)]) (rest := []) (st1 := []) S hw (c_PatternParser_refuse h50) (cwV 2 S.2.2.2.2 gv_PatternParser_65 rfl rfl rfl hd_PatternParser_refuse ⟨Nat.le_of_ble_eq_true rfl, Nat.le_of_ble_eq_true rfl⟩) rfl h50b rfl hl.1 rfl rfl (Nat.le_of_ble_eq_true rfl) d_PatternParser_timesInBraces_84 ⟨Nat.le_of_ble_eq_true rfl, Nat.le_of_ble_eq_true rfl⟩ (fun H locs hw => ?_)
        refine lv_goto (tgt := 166) S.1 S.2.1 d_PatternParser_timesInBraces_87 (by decide) ?_
        exact w_PatternParser_timesInBraces_166 S hr hlocks  _ _ _ _ _ _ _ hw (lv_sub hl [2, 1, 0] rfl) hf
    · replace hf := xf c14 hf
      refine lv_aload_n S.1 S.2.1 d_PatternParser_timesInBraces_44 rfl (lv_at hl 2 rfl) ?_
      refine lv_iconst (v := 2) S.1 S.2.1 d_PatternParser_timesInBraces_45 (by decide) ?_
      refine lv_aload_n S.1 S.2.1 d_PatternParser_timesInBraces_46 rfl (lv_at hl 2 rfl) ?_
      obtain ⟨t53, ht53, hf⟩ := xb hf
      refine x_geti S hw lk_PatternParser_40 ht53 d_PatternParser_timesInBraces_47 ?_
      refine lv_iconst (v := 1) S.1 S.2.1 d_PatternParser_timesInBraces_50 (by decide) ?_
      refine lv_iadd S.1 S.2.1 d_PatternParser_timesInBraces_51 ?_
      obtain ⟨w56, h54, hf⟩ := xb hf
      obtain ⟨h54b, h54⟩ := xkb h54
      refine x_callV (As := [.int 2, .int (t53 + 1)]) (rest := []) (st1 := []) S hw (c_PatternParser_refuse h54) (cwV 2 S.2.2.2.2 gv_PatternParser_65 rfl rfl rfl hd_PatternParser_refuse ⟨Nat.le_of_ble_eq_true rfl, Nat.le_of_ble_eq_true rfl⟩) rfl h54b rfl hl.1 rfl rfl (Nat.le_of_ble_eq_true rfl) d_PatternParser_timesInBraces_52 ⟨Nat.le_of_ble_eq_true rfl, Nat.le_of_ble_eq_true rfl⟩ (fun H locs hw => ?_)
      refine lv_goto (tgt := 166) S.1 S.2.1 d_PatternParser_timesInBraces_55 (by decide) ?_
      exact w_PatternParser_timesInBraces_166 S hr hlocks  _ _ _ _ _ _ _ hw (lv_sub hl [2, 1, 0] rfl) hf
