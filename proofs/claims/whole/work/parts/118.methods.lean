def f_Mo_law0_382 (a0 : Nat) (x1 : Int32) (x2 : Int32) (x3 : Int32) (x4 : Int32) (x5 : Int32) (x6 : Int32) (x7 : Int32) (y0 : Int32) (ω : xS) : Option xS :=
  (xgi ω a0 12 41).bind fun t99 =>
  if t99 = 0 then (
    some ω)
  else (
    (xgi ω a0 12 39).bind fun t101 =>
    if t101 = 0 then (
      (xgr ω a0 12 13).bind fun t103 =>
      (xsi ω t103 x1 x3).bind fun w104 =>
      (xgr w104 a0 12 14).bind fun t105 =>
      (xsi w104 t105 x1 y0).bind fun w106 =>
      (xgr w106 a0 12 15).bind fun t107 =>
      (xsi w106 t107 x1 x2).bind fun w108 =>
      (xgr w108 a0 12 16).bind fun t109 =>
      (xsi w108 t109 x1 x4).bind fun w110 =>
      (xgr w110 a0 12 17).bind fun t111 =>
      (xsi w110 t111 x1 x5).bind fun w112 =>
      (xgr w112 a0 12 18).bind fun t113 =>
      (xsi w112 t113 x1 x6).bind fun w114 =>
      (xgr w114 a0 12 19).bind fun t115 =>
      (xsi w114 t115 x1 x7).bind fun w116 =>
      some w116)
    else (
      some ω))
set_option maxHeartbeats 4000000 in
set_option maxRecDepth 100000 in
theorem w_Mo_law0_382 {p : Program} {l : Launch} {e : Env} {s : State} {m : MethodId} {args : Array Value} {below : List Frame} {meth : Method} {c : Code} {E : xV} {z : Nat} {ω1 : xS} (S : CallFix p m c b_Mo_law0 9 s args xTbl "RosterRulesModel") (hr : meth.sig.returnType = none) (hlocks : meth.locks = false) : ∀ (a0 : Nat) (x1 : Int32) (x2 : Int32) (x3 : Int32) (x4 : Int32) (x5 : Int32) (x6 : Int32) (x7 : Int32) (y0 : Int32) (ω : xS) (H : Heap) (locs : List Loc) (ls : Array Slot), xW E z ω s s.heap H locs → lv_has ls 9 [(0, .ref a0), (1, .int x1), (2, .int x2), (3, .int x3), (4, .int x4), (5, .int x5), (6, .int x6), (7, .int x7)] → f_Mo_law0_382 a0 x1 x2 x3 x4 x5 x6 x7 y0 ω = some ω1 → W p l e (headSpec ws_Mo_law0 { frames := 6, cells := 0, slots := 0, locals := 143 }).room s m args below meth c H locs 0 0 (MQ below (xQ E none z ω1) args s 0 0 (fun q => E.2.2 ≤ q)) (F0 m 382 ls [.int y0]) := by
  intro a0 x1 x2 x3 x4 x5 x6 x7 y0 ω H locs ls hw hl hf
  unfold f_Mo_law0_382 at hf
  refine lv_istore (lv' := [(8, .int y0), (0, .ref a0), (1, .int x1), (2, .int x2), (3, .int x3), (4, .int x4), (5, .int x5), (6, .int x6), (7, .int x7)]) S.1 S.2.1 d_Mo_law0_382 hl (by decide) rfl (fun ls hl => ?_)
  refine lv_aload_n S.1 S.2.1 d_Mo_law0_384 rfl (lv_at hl 1 rfl) ?_
  obtain ⟨t99, ht99, hf⟩ := xb hf
  refine x_geti S hw lk_Mo_212 ht99 d_Mo_law0_385 ?_
  refine lv_if_eq (tgt := 452) S.1 S.2.1 d_Mo_law0_388 (by decide) (fun c100 => ?_) (fun c100 => ?_)
  · replace hf := xt c100 hf
    cases hf
    exact x_vret S hr hlocks hw d_Mo_law0_452
  · replace hf := xf c100 hf
    refine lv_aload_n S.1 S.2.1 d_Mo_law0_391 rfl (lv_at hl 1 rfl) ?_
    obtain ⟨t101, ht101, hf⟩ := xb hf
    refine x_geti S hw lk_Mo_172 ht101 d_Mo_law0_392 ?_
    refine lv_if_ne (tgt := 452) S.1 S.2.1 d_Mo_law0_395 (by decide) (fun c102 => ?_) (fun c102 => ?_)
    · replace hf := xf c102 hf
      cases hf
      exact x_vret S hr hlocks hw d_Mo_law0_452
    · replace hf := xt c102 hf
      refine lv_aload_n S.1 S.2.1 d_Mo_law0_398 rfl (lv_at hl 1 rfl) ?_
      obtain ⟨t103, ht103, hf⟩ := xb hf
      refine x_getr S hw lk_Mo_42 ht103 d_Mo_law0_399 ?_
      refine lv_iload_n S.1 S.2.1 d_Mo_law0_402 rfl (lv_at hl 2 rfl) ?_
      refine lv_iload_n S.1 S.2.1 d_Mo_law0_403 rfl (lv_at hl 4 rfl) ?_
      obtain ⟨w104, hw104, hf⟩ := xb hf
      refine x_iast S hw hw104 d_Mo_law0_404 (fun H locs hw => ?_)
      refine lv_aload_n S.1 S.2.1 d_Mo_law0_405 rfl (lv_at hl 1 rfl) ?_
      obtain ⟨t105, ht105, hf⟩ := xb hf
      refine x_getr S hw lk_Mo_45 ht105 d_Mo_law0_406 ?_
      refine lv_iload_n S.1 S.2.1 d_Mo_law0_409 rfl (lv_at hl 2 rfl) ?_
      refine lv_iload S.1 S.2.1 d_Mo_law0_410 (lv_at hl 0 rfl) ?_
      obtain ⟨w106, hw106, hf⟩ := xb hf
      refine x_iast S hw hw106 d_Mo_law0_412 (fun H locs hw => ?_)
      refine lv_aload_n S.1 S.2.1 d_Mo_law0_413 rfl (lv_at hl 1 rfl) ?_
      obtain ⟨t107, ht107, hf⟩ := xb hf
      refine x_getr S hw lk_Mo_48 ht107 d_Mo_law0_414 ?_
      refine lv_iload_n S.1 S.2.1 d_Mo_law0_417 rfl (lv_at hl 2 rfl) ?_
      refine lv_iload_n S.1 S.2.1 d_Mo_law0_418 rfl (lv_at hl 3 rfl) ?_
      obtain ⟨w108, hw108, hf⟩ := xb hf
      refine x_iast S hw hw108 d_Mo_law0_419 (fun H locs hw => ?_)
      refine lv_aload_n S.1 S.2.1 d_Mo_law0_420 rfl (lv_at hl 1 rfl) ?_
      obtain ⟨t109, ht109, hf⟩ := xb hf
      refine x_getr S hw lk_Mo_51 ht109 d_Mo_law0_421 ?_
      refine lv_iload_n S.1 S.2.1 d_Mo_law0_424 rfl (lv_at hl 2 rfl) ?_
      refine lv_iload S.1 S.2.1 d_Mo_law0_425 (lv_at hl 5 rfl) ?_
      obtain ⟨w110, hw110, hf⟩ := xb hf
      refine x_iast S hw hw110 d_Mo_law0_427 (fun H locs hw => ?_)
      refine lv_aload_n S.1 S.2.1 d_Mo_law0_428 rfl (lv_at hl 1 rfl) ?_
      obtain ⟨t111, ht111, hf⟩ := xb hf
      refine x_getr S hw lk_Mo_54 ht111 d_Mo_law0_429 ?_
      refine lv_iload_n S.1 S.2.1 d_Mo_law0_432 rfl (lv_at hl 2 rfl) ?_
      refine lv_iload S.1 S.2.1 d_Mo_law0_433 (lv_at hl 6 rfl) ?_
      obtain ⟨w112, hw112, hf⟩ := xb hf
      refine x_iast S hw hw112 d_Mo_law0_435 (fun H locs hw => ?_)
      refine lv_aload_n S.1 S.2.1 d_Mo_law0_436 rfl (lv_at hl 1 rfl) ?_
      obtain ⟨t113, ht113, hf⟩ := xb hf
      refine x_getr S hw lk_Mo_57 ht113 d_Mo_law0_437 ?_
      refine lv_iload_n S.1 S.2.1 d_Mo_law0_440 rfl (lv_at hl 2 rfl) ?_
      refine lv_iload S.1 S.2.1 d_Mo_law0_441 (lv_at hl 7 rfl) ?_
      obtain ⟨w114, hw114, hf⟩ := xb hf
      refine x_iast S hw hw114 d_Mo_law0_443 (fun H locs hw => ?_)
      refine lv_aload_n S.1 S.2.1 d_Mo_law0_444 rfl (lv_at hl 1 rfl) ?_
      obtain ⟨t115, ht115, hf⟩ := xb hf
      refine x_getr S hw lk_Mo_60 ht115 d_Mo_law0_445 ?_
      refine lv_iload_n S.1 S.2.1 d_Mo_law0_448 rfl (lv_at hl 2 rfl) ?_
      refine lv_iload S.1 S.2.1 d_Mo_law0_449 (lv_at hl 8 rfl) ?_
      obtain ⟨w116, hw116, hf⟩ := xb hf
      refine x_iast S hw hw116 d_Mo_law0_451 (fun H locs hw => ?_)
      cases hf
      exact x_vret S hr hlocks hw d_Mo_law0_452
def f_Mo_law0_289 (a0 : Nat) (x1 : Int32) (x2 : Int32) (x3 : Int32) (x4 : Int32) (x7 : Int32) (y0 : Int32) (ω : xS) : Option xS :=
  (xgi ω a0 12 39).bind fun t77 =>
  if t77 = 0 then (
    if x3 = 2 then (
      (xgi ω a0 12 1).bind fun t90 =>
      xc (xk ω a0 12 (f_Mo_number a0 1 t90 ω)) fun t92 w93 =>
      (xgi w93 a0 12 39).bind fun t94 =>
      if t94 = 0 then (
        xc (xk w93 a0 12 (f_Mo_number a0 0 1000 w93)) fun t97 w98 =>
        f_Mo_law0_382  a0 x1 x2 x3 x4 y0 t92 x7 t97 w98)
      else (
        f_Mo_law0_382  a0 x1 x2 x3 x4 y0 t92 x7 0 w93))
    else (
      (xgi ω a0 12 39).bind fun t85 =>
      if t85 = 0 then (
        xc (xk ω a0 12 (f_Mo_number a0 0 1000 ω)) fun t88 w89 =>
        f_Mo_law0_382  a0 x1 x2 x3 x4 y0 0 x7 t88 w89)
      else (
        f_Mo_law0_382  a0 x1 x2 x3 x4 y0 0 x7 0 ω)))
  else (
    (xgi ω a0 12 39).bind fun t79 =>
    if t79 = 0 then (
      xc (xk ω a0 12 (f_Mo_number a0 0 1000 ω)) fun t82 w83 =>
      f_Mo_law0_382  a0 x1 x2 x3 x4 y0 0 x7 t82 w83)
    else (
      f_Mo_law0_382  a0 x1 x2 x3 x4 y0 0 x7 0 ω))
set_option maxHeartbeats 4000000 in
set_option maxRecDepth 100000 in
theorem w_Mo_law0_289 {p : Program} {l : Launch} {e : Env} {s : State} {m : MethodId} {args : Array Value} {below : List Frame} {meth : Method} {c : Code} {E : xV} {z : Nat} {ω1 : xS} (S : CallFix p m c b_Mo_law0 9 s args xTbl "RosterRulesModel") (hr : meth.sig.returnType = none) (hlocks : meth.locks = false) : ∀ (a0 : Nat) (x1 : Int32) (x2 : Int32) (x3 : Int32) (x4 : Int32) (x7 : Int32) (y0 : Int32) (ω : xS) (H : Heap) (locs : List Loc) (ls : Array Slot), xW E z ω s s.heap H locs → lv_has ls 9 [(0, .ref a0), (1, .int x1), (2, .int x2), (3, .int x3), (4, .int x4), (7, .int x7)] → f_Mo_law0_289 a0 x1 x2 x3 x4 x7 y0 ω = some ω1 → W p l e (headSpec ws_Mo_law0 { frames := 6, cells := 0, slots := 0, locals := 143 }).room s m args below meth c H locs 0 0 (MQ below (xQ E none z ω1) args s 0 0 (fun q => E.2.2 ≤ q)) (F0 m 289 ls [.int y0]) := by
  intro a0 x1 x2 x3 x4 x7 y0 ω H locs ls hw hl hf
  unfold f_Mo_law0_289 at hf
  refine lv_istore (lv' := [(5, .int y0), (0, .ref a0), (1, .int x1), (2, .int x2), (3, .int x3), (4, .int x4), (7, .int x7)]) S.1 S.2.1 d_Mo_law0_289 hl (by decide) rfl (fun ls hl => ?_)
  refine lv_aload_n S.1 S.2.1 d_Mo_law0_291 rfl (lv_at hl 1 rfl) ?_
  obtain ⟨t77, ht77, hf⟩ := xb hf
  refine x_geti S hw lk_Mo_172 ht77 d_Mo_law0_292 ?_
  refine lv_if_ne (tgt := 315) S.1 S.2.1 d_Mo_law0_295 (by decide) (fun c78 => ?_) (fun c78 => ?_)
  · replace hf := xf c78 hf
    refine lv_iconst (v := 0) S.1 S.2.1 d_Mo_law0_315 (by decide) ?_
    refine lv_istore (lv' := [(6, .int 0), (5, .int y0), (0, .ref a0), (1, .int x1), (2, .int x2), (3, .int x3), (4, .int x4), (7, .int x7)]) S.1 S.2.1 d_Mo_law0_316 hl (by decide) rfl (fun ls hl => ?_)
    refine lv_goto (tgt := 363) S.1 S.2.1 d_Mo_law0_318 (by decide) ?_
    refine lv_aload_n S.1 S.2.1 d_Mo_law0_363 rfl (lv_at hl 2 rfl) ?_
    obtain ⟨t79, ht79, hf⟩ := xb hf
    refine x_geti S hw lk_Mo_172 ht79 d_Mo_law0_364 ?_
    refine lv_if_ne (tgt := 381) S.1 S.2.1 d_Mo_law0_367 (by decide) (fun c80 => ?_) (fun c80 => ?_)
    · replace hf := xf c80 hf
      refine lv_iconst (v := 0) S.1 S.2.1 d_Mo_law0_381 (by decide) ?_
      exact w_Mo_law0_382 S hr hlocks  _ _ _ _ _ _ _ _ _ _ _ _ _ hw (lv_sub hl [2, 3, 4, 5, 6, 1, 0, 7] rfl) hf
    · replace hf := xt c80 hf
      refine lv_aload_n S.1 S.2.1 d_Mo_law0_370 rfl (lv_at hl 2 rfl) ?_
      refine lv_iconst (v := 0) S.1 S.2.1 d_Mo_law0_371 (by decide) ?_
      refine lv_sipush (v := 1000) S.1 S.2.1 d_Mo_law0_372 (by decide) ?_
      obtain ⟨t82, w83, h81, hf⟩ := xcb hf
      obtain ⟨h81b, h81⟩ := xkb h81
      refine x_callV (As := [.int 0, .int 1000]) (rest := []) (st1 := [.int t82]) S hw (c_Mo_number h81) (cwV 2 S.2.2.2.2 gv_Mo_240 rfl rfl rfl hd_Mo_number ⟨Nat.le_of_ble_eq_true rfl, Nat.le_of_ble_eq_true rfl⟩) rfl h81b rfl hl.1 rfl rfl (Nat.le_of_ble_eq_true rfl) d_Mo_law0_375 ⟨Nat.le_of_ble_eq_true rfl, Nat.le_of_ble_eq_true rfl⟩ (fun H locs hw => ?_)
      refine lv_goto (tgt := 382) S.1 S.2.1 d_Mo_law0_378 (by decide) ?_
      exact w_Mo_law0_382 S hr hlocks  _ _ _ _ _ _ _ _ _ _ _ _ _ hw (lv_sub hl [2, 3, 4, 5, 6, 1, 0, 7] rfl) hf
  · replace hf := xt c78 hf
    refine lv_iload_n S.1 S.2.1 d_Mo_law0_298 rfl (lv_at hl 4 rfl) ?_
    refine lv_iconst (v := 2) S.1 S.2.1 d_Mo_law0_299 (by decide) ?_
    refine lv_icmp_ne (tgt := 315) S.1 S.2.1 d_Mo_law0_300 (by decide) (fun c84 => ?_) (fun c84 => ?_)
    · replace hf := xf c84 hf
      refine lv_iconst (v := 0) S.1 S.2.1 d_Mo_law0_315 (by decide) ?_
      refine lv_istore (lv' := [(6, .int 0), (5, .int y0), (0, .ref a0), (1, .int x1), (2, .int x2), (3, .int x3), (4, .int x4), (7, .int x7)]) S.1 S.2.1 d_Mo_law0_316 hl (by decide) rfl (fun ls hl => ?_)
      refine lv_goto (tgt := 363) S.1 S.2.1 d_Mo_law0_318 (by decide) ?_
      refine lv_aload_n S.1 S.2.1 d_Mo_law0_363 rfl (lv_at hl 2 rfl) ?_
      obtain ⟨t85, ht85, hf⟩ := xb hf
      refine x_geti S hw lk_Mo_172 ht85 d_Mo_law0_364 ?_
      refine lv_if_ne (tgt := 381) S.1 S.2.1 d_Mo_law0_367 (by decide) (fun c86 => ?_) (fun c86 => ?_)
      · replace hf := xf c86 hf
        refine lv_iconst (v := 0) S.1 S.2.1 d_Mo_law0_381 (by decide) ?_
        exact w_Mo_law0_382 S hr hlocks  _ _ _ _ _ _ _ _ _ _ _ _ _ hw (lv_sub hl [2, 3, 4, 5, 6, 1, 0, 7] rfl) hf
      · replace hf := xt c86 hf
        refine lv_aload_n S.1 S.2.1 d_Mo_law0_370 rfl (lv_at hl 2 rfl) ?_
        refine lv_iconst (v := 0) S.1 S.2.1 d_Mo_law0_371 (by decide) ?_
        refine lv_sipush (v := 1000) S.1 S.2.1 d_Mo_law0_372 (by decide) ?_
        obtain ⟨t88, w89, h87, hf⟩ := xcb hf
        obtain ⟨h87b, h87⟩ := xkb h87
        refine x_callV (As := [.int 0, .int 1000]) (rest := []) (st1 := [.int t88]) S hw (c_Mo_number h87) (cwV 2 S.2.2.2.2 gv_Mo_240 rfl rfl rfl hd_Mo_number ⟨Nat.le_of_ble_eq_true rfl, Nat.le_of_ble_eq_true rfl⟩) rfl h87b rfl hl.1 rfl rfl (Nat.le_of_ble_eq_true rfl) d_Mo_law0_375 ⟨Nat.le_of_ble_eq_true rfl, Nat.le_of_ble_eq_true rfl⟩ (fun H locs hw => ?_)
        refine lv_goto (tgt := 382) S.1 S.2.1 d_Mo_law0_378 (by decide) ?_
        exact w_Mo_law0_382 S hr hlocks  _ _ _ _ _ _ _ _ _ _ _ _ _ hw (lv_sub hl [2, 3, 4, 5, 6, 1, 0, 7] rfl) hf
    · replace hf := xt c84 hf
      refine lv_aload_n S.1 S.2.1 d_Mo_law0_303 rfl (lv_at hl 1 rfl) ?_
      refine lv_iconst (v := 1) S.1 S.2.1 d_Mo_law0_304 (by decide) ?_
      refine lv_aload_n S.1 S.2.1 d_Mo_law0_305 rfl (lv_at hl 1 rfl) ?_
      obtain ⟨t90, ht90, hf⟩ := xb hf
      refine x_geti S hw lk_Mo_159 ht90 d_Mo_law0_306 ?_
      obtain ⟨t92, w93, h91, hf⟩ := xcb hf
      obtain ⟨h91b, h91⟩ := xkb h91
      refine x_callV (As := [.int 1, .int t90]) (rest := []) (st1 := [.int t92]) S hw (c_Mo_number h91) (cwV 2 S.2.2.2.2 gv_Mo_240 rfl rfl rfl hd_Mo_number ⟨Nat.le_of_ble_eq_true rfl, Nat.le_of_ble_eq_true rfl⟩) rfl h91b rfl hl.1 rfl rfl (Nat.le_of_ble_eq_true rfl) d_Mo_law0_309 ⟨Nat.le_of_ble_eq_true rfl, Nat.le_of_ble_eq_true rfl⟩ (fun H locs hw => ?_)
      refine lv_goto (tgt := 316) S.1 S.2.1 d_Mo_law0_312 (by decide) ?_
      refine lv_istore (lv' := [(6, .int t92), (5, .int y0), (0, .ref a0), (1, .int x1), (2, .int x2), (3, .int x3), (4, .int x4), (7, .int x7)]) S.1 S.2.1 d_Mo_law0_316 hl (by decide) rfl (fun ls hl => ?_)
      refine lv_goto (tgt := 363) S.1 S.2.1 d_Mo_law0_318 (by decide) ?_
      refine lv_aload_n S.1 S.2.1 d_Mo_law0_363 rfl (lv_at hl 2 rfl) ?_
      obtain ⟨t94, ht94, hf⟩ := xb hf
      refine x_geti S hw lk_Mo_172 ht94 d_Mo_law0_364 ?_
      refine lv_if_ne (tgt := 381) S.1 S.2.1 d_Mo_law0_367 (by decide) (fun c95 => ?_) (fun c95 => ?_)
      · replace hf := xf c95 hf
        refine lv_iconst (v := 0) S.1 S.2.1 d_Mo_law0_381 (by decide) ?_
        exact w_Mo_law0_382 S hr hlocks  _ _ _ _ _ _ _ _ _ _ _ _ _ hw (lv_sub hl [2, 3, 4, 5, 6, 1, 0, 7] rfl) hf
      · replace hf := xt c95 hf
        refine lv_aload_n S.1 S.2.1 d_Mo_law0_370 rfl (lv_at hl 2 rfl) ?_
        refine lv_iconst (v := 0) S.1 S.2.1 d_Mo_law0_371 (by decide) ?_
        refine lv_sipush (v := 1000) S.1 S.2.1 d_Mo_law0_372 (by decide) ?_
        obtain ⟨t97, w98, h96, hf⟩ := xcb hf
        obtain ⟨h96b, h96⟩ := xkb h96
        refine x_callV (As := [.int 0, .int 1000]) (rest := []) (st1 := [.int t97]) S hw (c_Mo_number h96) (cwV 2 S.2.2.2.2 gv_Mo_240 rfl rfl rfl hd_Mo_number ⟨Nat.le_of_ble_eq_true rfl, Nat.le_of_ble_eq_true rfl⟩) rfl h96b rfl hl.1 rfl rfl (Nat.le_of_ble_eq_true rfl) d_Mo_law0_375 ⟨Nat.le_of_ble_eq_true rfl, Nat.le_of_ble_eq_true rfl⟩ (fun H locs hw => ?_)
        refine lv_goto (tgt := 382) S.1 S.2.1 d_Mo_law0_378 (by decide) ?_
        exact w_Mo_law0_382 S hr hlocks  _ _ _ _ _ _ _ _ _ _ _ _ _ hw (lv_sub hl [2, 3, 4, 5, 6, 1, 0, 7] rfl) hf
def f_Mo_law0_259 (a0 : Nat) (x1 : Int32) (x2 : Int32) (x3 : Int32) (x7 : Int32) (y0 : Int32) (ω : xS) : Option xS :=
  xc (xk ω a0 12 (f_Mo_number a0 0 y0 ω)) fun t70 w71 =>
  (xgi w71 a0 12 39).bind fun t72 =>
  if t72 = 0 then (
    xc (xk w71 a0 12 (f_Mo_number a0 t70 y0 w71)) fun t75 w76 =>
    f_Mo_law0_289  a0 x1 x2 x3 t70 x7 t75 w76)
  else (
    f_Mo_law0_289  a0 x1 x2 x3 t70 x7 0 w71)
set_option maxHeartbeats 4000000 in
set_option maxRecDepth 100000 in
theorem w_Mo_law0_259 {p : Program} {l : Launch} {e : Env} {s : State} {m : MethodId} {args : Array Value} {below : List Frame} {meth : Method} {c : Code} {E : xV} {z : Nat} {ω1 : xS} (S : CallFix p m c b_Mo_law0 9 s args xTbl "RosterRulesModel") (hr : meth.sig.returnType = none) (hlocks : meth.locks = false) : ∀ (a0 : Nat) (x1 : Int32) (x2 : Int32) (x3 : Int32) (x7 : Int32) (y0 : Int32) (ω : xS) (H : Heap) (locs : List Loc) (ls : Array Slot), xW E z ω s s.heap H locs → lv_has ls 9 [(0, .ref a0), (1, .int x1), (2, .int x2), (3, .int x3), (7, .int x7)] → f_Mo_law0_259 a0 x1 x2 x3 x7 y0 ω = some ω1 → W p l e (headSpec ws_Mo_law0 { frames := 6, cells := 0, slots := 0, locals := 143 }).room s m args below meth c H locs 0 0 (MQ below (xQ E none z ω1) args s 0 0 (fun q => E.2.2 ≤ q)) (F0 m 259 ls [.int y0]) := by
  intro a0 x1 x2 x3 x7 y0 ω H locs ls hw hl hf
  unfold f_Mo_law0_259 at hf
  refine lv_istore (lv' := [(8, .int y0), (0, .ref a0), (1, .int x1), (2, .int x2), (3, .int x3), (7, .int x7)]) S.1 S.2.1 d_Mo_law0_259 hl (by decide) rfl (fun ls hl => ?_)
  refine lv_aload_n S.1 S.2.1 d_Mo_law0_261 rfl (lv_at hl 1 rfl) ?_
  refine lv_iconst (v := 0) S.1 S.2.1 d_Mo_law0_262 (by decide) ?_
  refine lv_iload S.1 S.2.1 d_Mo_law0_263 (lv_at hl 0 rfl) ?_
  obtain ⟨t70, w71, h69, hf⟩ := xcb hf
  obtain ⟨h69b, h69⟩ := xkb h69
  refine x_callV (As := [.int 0, .int y0]) (rest := []) (st1 := [.int t70]) S hw (c_Mo_number h69) (cwV 2 S.2.2.2.2 gv_Mo_240 rfl rfl rfl hd_Mo_number ⟨Nat.le_of_ble_eq_true rfl, Nat.le_of_ble_eq_true rfl⟩) rfl h69b rfl hl.1 rfl rfl (Nat.le_of_ble_eq_true rfl) d_Mo_law0_265 ⟨Nat.le_of_ble_eq_true rfl, Nat.le_of_ble_eq_true rfl⟩ (fun H locs hw => ?_)
  refine lv_istore (lv' := [(4, .int t70), (8, .int y0), (0, .ref a0), (1, .int x1), (2, .int x2), (3, .int x3), (7, .int x7)]) S.1 S.2.1 d_Mo_law0_268 hl (by decide) rfl (fun ls hl => ?_)
  refine lv_aload_n S.1 S.2.1 d_Mo_law0_270 rfl (lv_at hl 2 rfl) ?_
  obtain ⟨t72, ht72, hf⟩ := xb hf
  refine x_geti S hw lk_Mo_172 ht72 d_Mo_law0_271 ?_
  refine lv_if_ne (tgt := 288) S.1 S.2.1 d_Mo_law0_274 (by decide) (fun c73 => ?_) (fun c73 => ?_)
  · replace hf := xf c73 hf
    refine lv_iconst (v := 0) S.1 S.2.1 d_Mo_law0_288 (by decide) ?_
    exact w_Mo_law0_289 S hr hlocks  _ _ _ _ _ _ _ _ _ _ _ hw (lv_sub hl [2, 3, 4, 5, 0, 6] rfl) hf
  · replace hf := xt c73 hf
    refine lv_aload_n S.1 S.2.1 d_Mo_law0_277 rfl (lv_at hl 2 rfl) ?_
    refine lv_iload S.1 S.2.1 d_Mo_law0_278 (lv_at hl 0 rfl) ?_
    refine lv_iload S.1 S.2.1 d_Mo_law0_280 (lv_at hl 1 rfl) ?_
    obtain ⟨t75, w76, h74, hf⟩ := xcb hf
    obtain ⟨h74b, h74⟩ := xkb h74
    refine x_callV (As := [.int t70, .int y0]) (rest := []) (st1 := [.int t75]) S hw (c_Mo_number h74) (cwV 2 S.2.2.2.2 gv_Mo_240 rfl rfl rfl hd_Mo_number ⟨Nat.le_of_ble_eq_true rfl, Nat.le_of_ble_eq_true rfl⟩) rfl h74b rfl hl.1 rfl rfl (Nat.le_of_ble_eq_true rfl) d_Mo_law0_282 ⟨Nat.le_of_ble_eq_true rfl, Nat.le_of_ble_eq_true rfl⟩ (fun H locs hw => ?_)
    refine lv_goto (tgt := 289) S.1 S.2.1 d_Mo_law0_285 (by decide) ?_
    exact w_Mo_law0_289 S hr hlocks  _ _ _ _ _ _ _ _ _ _ _ hw (lv_sub hl [2, 3, 4, 5, 0, 6] rfl) hf
def f_Mo_law0_331 (a0 : Nat) (x1 : Int32) (x2 : Int32) (x3 : Int32) (x4 : Int32) (x5 : Int32) (x6 : Int32) (x7 : Int32) (ω : xS) : Option xS :=
  xc (xk ω a0 12 (f_Mo_advance a0  ω)) fun t118 w119 =>
  if t118 = 0 then (
    some w119)
  else (
    (xgi w119 a0 12 35).bind fun t121 =>
    if t121 = 3 then (
      (xk w119 a0 12 (f_Mo_pattern a0 x1 w119)).bind fun w125 =>
      (xgi w125 a0 12 39).bind fun t126 =>
      if t126 = 0 then (
        xc (xk w125 a0 12 (f_Mo_number a0 0 1000 w125)) fun t129 w130 =>
        f_Mo_law0_382  a0 x1 x2 x3 x4 x5 x6 x7 t129 w130)
      else (
        f_Mo_law0_382  a0 x1 x2 x3 x4 x5 x6 x7 0 w125))
    else (
      (xgi w119 a0 12 36).bind fun t131 =>
      xc (xk w119 a0 12 (f_Mo_fails a0 2 t131 w119)) fun t133 w134 =>
      some w134))
set_option maxHeartbeats 4000000 in
set_option maxRecDepth 100000 in
theorem w_Mo_law0_331 {p : Program} {l : Launch} {e : Env} {s : State} {m : MethodId} {args : Array Value} {below : List Frame} {meth : Method} {c : Code} {E : xV} {z : Nat} {ω1 : xS} (S : CallFix p m c b_Mo_law0 9 s args xTbl "RosterRulesModel") (hr : meth.sig.returnType = none) (hlocks : meth.locks = false) : ∀ (a0 : Nat) (x1 : Int32) (x2 : Int32) (x3 : Int32) (x4 : Int32) (x5 : Int32) (x6 : Int32) (x7 : Int32) (ω : xS) (H : Heap) (locs : List Loc) (ls : Array Slot), xW E z ω s s.heap H locs → lv_has ls 9 [(0, .ref a0), (1, .int x1), (2, .int x2), (3, .int x3), (4, .int x4), (5, .int x5), (6, .int x6), (7, .int x7)] → f_Mo_law0_331 a0 x1 x2 x3 x4 x5 x6 x7 ω = some ω1 → W p l e (headSpec ws_Mo_law0 { frames := 6, cells := 0, slots := 0, locals := 143 }).room s m args below meth c H locs 0 0 (MQ below (xQ E none z ω1) args s 0 0 (fun q => E.2.2 ≤ q)) (F0 m 331 ls []) := by
  intro a0 x1 x2 x3 x4 x5 x6 x7 ω H locs ls hw hl hf
  unfold f_Mo_law0_331 at hf
  refine lv_aload_n S.1 S.2.1 d_Mo_law0_331 rfl (lv_at hl 0 rfl) ?_
  obtain ⟨t118, w119, h117, hf⟩ := xcb hf
  obtain ⟨h117b, h117⟩ := xkb h117
  refine x_callV (As := []) (rest := []) (st1 := [.int t118]) S hw (c_Mo_advance h117) (cwV 0 S.2.2.2.2 gv_Mo_208 rfl rfl rfl hd_Mo_advance ⟨Nat.le_of_ble_eq_true rfl, Nat.le_of_ble_eq_true rfl⟩) rfl h117b rfl hl.1 rfl rfl (Nat.le_of_ble_eq_true rfl) d_Mo_law0_332 ⟨Nat.le_of_ble_eq_true rfl, Nat.le_of_ble_eq_true rfl⟩ (fun H locs hw => ?_)
  refine lv_if_ne (tgt := 339) S.1 S.2.1 d_Mo_law0_335 (by decide) (fun c120 => ?_) (fun c120 => ?_)
  · replace hf := xf c120 hf
    refine lv_aload_n S.1 S.2.1 d_Mo_law0_339 rfl (lv_at hl 0 rfl) ?_
    obtain ⟨t121, ht121, hf⟩ := xb hf
    refine x_geti S hw lk_Mo_188 ht121 d_Mo_law0_340 ?_
    refine lv_iconst (v := 3) S.1 S.2.1 d_Mo_law0_343 (by decide) ?_
    refine lv_icmp_eq (tgt := 358) S.1 S.2.1 d_Mo_law0_344 (by decide) (fun c122 => ?_) (fun c122 => ?_)
    · replace hf := xt c122 hf
      refine lv_aload_n S.1 S.2.1 d_Mo_law0_358 rfl (lv_at hl 0 rfl) ?_
      refine lv_iload_n S.1 S.2.1 d_Mo_law0_359 rfl (lv_at hl 1 rfl) ?_
      obtain ⟨w125, h123, hf⟩ := xb hf
      obtain ⟨h123b, h123⟩ := xkb h123
      refine x_callV (As := [.int x1]) (rest := []) (st1 := []) S hw (c_Mo_pattern h123) (cwV 1 S.2.2.2.2 gv_Mo_244 rfl rfl rfl hd_Mo_pattern ⟨Nat.le_of_ble_eq_true rfl, Nat.le_of_ble_eq_true rfl⟩) rfl h123b rfl hl.1 rfl rfl (Nat.le_of_ble_eq_true rfl) d_Mo_law0_360 ⟨Nat.le_of_ble_eq_true rfl, Nat.le_of_ble_eq_true rfl⟩ (fun H locs hw => ?_)
      refine lv_aload_n S.1 S.2.1 d_Mo_law0_363 rfl (lv_at hl 0 rfl) ?_
      obtain ⟨t126, ht126, hf⟩ := xb hf
      refine x_geti S hw lk_Mo_172 ht126 d_Mo_law0_364 ?_
      refine lv_if_ne (tgt := 381) S.1 S.2.1 d_Mo_law0_367 (by decide) (fun c127 => ?_) (fun c127 => ?_)
      · replace hf := xf c127 hf
        refine lv_iconst (v := 0) S.1 S.2.1 d_Mo_law0_381 (by decide) ?_
        exact w_Mo_law0_382 S hr hlocks  _ _ _ _ _ _ _ _ _ _ _ _ _ hw (lv_sub hl [0, 1, 2, 3, 4, 5, 6, 7] rfl) hf
      · replace hf := xt c127 hf
        refine lv_aload_n S.1 S.2.1 d_Mo_law0_370 rfl (lv_at hl 0 rfl) ?_
        refine lv_iconst (v := 0) S.1 S.2.1 d_Mo_law0_371 (by decide) ?_
        refine lv_sipush (v := 1000) S.1 S.2.1 d_Mo_law0_372 (by decide) ?_
        obtain ⟨t129, w130, h128, hf⟩ := xcb hf
        obtain ⟨h128b, h128⟩ := xkb h128
        refine x_callV (As := [.int 0, .int 1000]) (rest := []) (st1 := [.int t129]) S hw (c_Mo_number h128) (cwV 2 S.2.2.2.2 gv_Mo_240 rfl rfl rfl hd_Mo_number ⟨Nat.le_of_ble_eq_true rfl, Nat.le_of_ble_eq_true rfl⟩) rfl h128b rfl hl.1 rfl rfl (Nat.le_of_ble_eq_true rfl) d_Mo_law0_375 ⟨Nat.le_of_ble_eq_true rfl, Nat.le_of_ble_eq_true rfl⟩ (fun H locs hw => ?_)
        refine lv_goto (tgt := 382) S.1 S.2.1 d_Mo_law0_378 (by decide) ?_
        exact w_Mo_law0_382 S hr hlocks  _ _ _ _ _ _ _ _ _ _ _ _ _ hw (lv_sub hl [0, 1, 2, 3, 4, 5, 6, 7] rfl) hf
    · replace hf := xf c122 hf
      refine lv_aload_n S.1 S.2.1 d_Mo_law0_347 rfl (lv_at hl 0 rfl) ?_
      refine lv_iconst (v := 2) S.1 S.2.1 d_Mo_law0_348 (by decide) ?_
      refine lv_aload_n S.1 S.2.1 d_Mo_law0_349 rfl (lv_at hl 0 rfl) ?_
      obtain ⟨t131, ht131, hf⟩ := xb hf
      refine x_geti S hw lk_Mo_185 ht131 d_Mo_law0_350 ?_
      obtain ⟨t133, w134, h132, hf⟩ := xcb hf
      obtain ⟨h132b, h132⟩ := xkb h132
      refine x_callV (As := [.int 2, .int t131]) (rest := []) (st1 := [.int t133]) S hw (c_Mo_fails h132) (cwV 2 S.2.2.2.2 gv_Mo_198 rfl rfl rfl hd_Mo_fails ⟨Nat.le_of_ble_eq_true rfl, Nat.le_of_ble_eq_true rfl⟩) rfl h132b rfl hl.1 rfl rfl (Nat.le_of_ble_eq_true rfl) d_Mo_law0_353 ⟨Nat.le_of_ble_eq_true rfl, Nat.le_of_ble_eq_true rfl⟩ (fun H locs hw => ?_)
      refine lv_pop S.1 S.2.1 d_Mo_law0_356 rfl ?_
      cases hf
      exact x_vret S hr hlocks hw d_Mo_law0_357
  · replace hf := xt c120 hf
    cases hf
    exact x_vret S hr hlocks hw d_Mo_law0_338
def f_Mo_law0_218 (a0 : Nat) (x1 : Int32) (x2 : Int32) (x3 : Int32) (x4 : Int32) (x5 : Int32) (x6 : Int32) (x7 : Int32) (ω : xS) : Option xS :=
  if x3 = 1 then (
    xc (xk ω a0 12 (f_Mo_number a0 0 10000 ω)) fun t62 w63 =>
    (xgi w63 a0 12 39).bind fun t64 =>
    if t64 = 0 then (
      xc (xk w63 a0 12 (f_Mo_number a0 0 1000 w63)) fun t67 w68 =>
      f_Mo_law0_382  a0 x1 x2 x3 t62 x5 x6 x7 t67 w68)
    else (
      f_Mo_law0_382  a0 x1 x2 x3 t62 x5 x6 x7 0 w63))
  else (
    if x3 = 2 then (
      if x3 = 2 then (
        f_Mo_law0_259  a0 x1 x2 x3 x7 99999 ω)
      else (
        f_Mo_law0_259  a0 x1 x2 x3 x7 8 ω))
    else (
      if x3 = 6 then (
        if x3 = 2 then (
          f_Mo_law0_259  a0 x1 x2 x3 x7 99999 ω)
        else (
          f_Mo_law0_259  a0 x1 x2 x3 x7 8 ω))
      else (
        if x3 = 3 then (
          f_Mo_law0_331  a0 x1 x2 x3 x4 x5 x6 x7 ω)
        else (
          if x3 = 4 then (
            f_Mo_law0_331  a0 x1 x2 x3 x4 x5 x6 x7 ω)
          else (
            (xgi ω a0 12 39).bind fun t55 =>
            if t55 = 0 then (
              xc (xk ω a0 12 (f_Mo_number a0 0 1000 ω)) fun t58 w59 =>
              f_Mo_law0_382  a0 x1 x2 x3 x4 x5 x6 x7 t58 w59)
            else (
              f_Mo_law0_382  a0 x1 x2 x3 x4 x5 x6 x7 0 ω))))))
set_option maxHeartbeats 4000000 in
set_option maxRecDepth 100000 in
theorem w_Mo_law0_218 {p : Program} {l : Launch} {e : Env} {s : State} {m : MethodId} {args : Array Value} {below : List Frame} {meth : Method} {c : Code} {E : xV} {z : Nat} {ω1 : xS} (S : CallFix p m c b_Mo_law0 9 s args xTbl "RosterRulesModel") (hr : meth.sig.returnType = none) (hlocks : meth.locks = false) : ∀ (a0 : Nat) (x1 : Int32) (x2 : Int32) (x3 : Int32) (x4 : Int32) (x5 : Int32) (x6 : Int32) (x7 : Int32) (ω : xS) (H : Heap) (locs : List Loc) (ls : Array Slot), xW E z ω s s.heap H locs → lv_has ls 9 [(0, .ref a0), (1, .int x1), (2, .int x2), (3, .int x3), (4, .int x4), (5, .int x5), (6, .int x6), (7, .int x7)] → f_Mo_law0_218 a0 x1 x2 x3 x4 x5 x6 x7 ω = some ω1 → W p l e (headSpec ws_Mo_law0 { frames := 6, cells := 0, slots := 0, locals := 143 }).room s m args below meth c H locs 0 0 (MQ below (xQ E none z ω1) args s 0 0 (fun q => E.2.2 ≤ q)) (F0 m 218 ls []) := by
  intro a0 x1 x2 x3 x4 x5 x6 x7 ω H locs ls hw hl hf
  unfold f_Mo_law0_218 at hf
  refine lv_iload_n S.1 S.2.1 d_Mo_law0_218 rfl (lv_at hl 3 rfl) ?_
  refine lv_iconst (v := 1) S.1 S.2.1 d_Mo_law0_219 (by decide) ?_
  refine lv_icmp_ne (tgt := 236) S.1 S.2.1 d_Mo_law0_220 (by decide) (fun c49 => ?_) (fun c49 => ?_)
  · replace hf := xf c49 hf
    refine lv_iload_n S.1 S.2.1 d_Mo_law0_236 rfl (lv_at hl 3 rfl) ?_
    refine lv_iconst (v := 2) S.1 S.2.1 d_Mo_law0_237 (by decide) ?_
    refine lv_icmp_eq (tgt := 247) S.1 S.2.1 d_Mo_law0_238 (by decide) (fun c50 => ?_) (fun c50 => ?_)
    · replace hf := xt c50 hf
      refine lv_iload_n S.1 S.2.1 d_Mo_law0_247 rfl (lv_at hl 3 rfl) ?_
      refine lv_iconst (v := 2) S.1 S.2.1 d_Mo_law0_248 (by decide) ?_
      refine lv_icmp_ne (tgt := 257) S.1 S.2.1 d_Mo_law0_249 (by decide) (fun c51 => ?_) (fun c51 => ?_)
      · replace hf := xf c51 hf
        refine lv_bipush (v := 8) S.1 S.2.1 d_Mo_law0_257 (by decide) ?_
        exact w_Mo_law0_259 S hr hlocks  _ _ _ _ _ _ _ _ _ _ hw (lv_sub hl [0, 1, 2, 3, 7] rfl) hf
      · replace hf := xt c51 hf
        refine lv_ldc (v := 99999) S.1 S.2.1 S.2.2.2.1 (S.2.2.2.2 _ wd_5_218) d_Mo_law0_252 ?_
        refine lv_goto (tgt := 259) S.1 S.2.1 d_Mo_law0_254 (by decide) ?_
        exact w_Mo_law0_259 S hr hlocks  _ _ _ _ _ _ _ _ _ _ hw (lv_sub hl [0, 1, 2, 3, 7] rfl) hf
    · replace hf := xf c50 hf
      refine lv_iload_n S.1 S.2.1 d_Mo_law0_241 rfl (lv_at hl 3 rfl) ?_
      refine lv_bipush (v := 6) S.1 S.2.1 d_Mo_law0_242 (by decide) ?_
      refine lv_icmp_ne (tgt := 321) S.1 S.2.1 d_Mo_law0_244 (by decide) (fun c52 => ?_) (fun c52 => ?_)
      · replace hf := xf c52 hf
        refine lv_iload_n S.1 S.2.1 d_Mo_law0_321 rfl (lv_at hl 3 rfl) ?_
        refine lv_iconst (v := 3) S.1 S.2.1 d_Mo_law0_322 (by decide) ?_
        refine lv_icmp_eq (tgt := 331) S.1 S.2.1 d_Mo_law0_323 (by decide) (fun c53 => ?_) (fun c53 => ?_)
        · replace hf := xt c53 hf
          exact w_Mo_law0_331 S hr hlocks  _ _ _ _ _ _ _ _ _ _ _ _ hw (lv_sub hl [0, 1, 2, 3, 4, 5, 6, 7] rfl) hf
        · replace hf := xf c53 hf
          refine lv_iload_n S.1 S.2.1 d_Mo_law0_326 rfl (lv_at hl 3 rfl) ?_
          refine lv_iconst (v := 4) S.1 S.2.1 d_Mo_law0_327 (by decide) ?_
          refine lv_icmp_ne (tgt := 363) S.1 S.2.1 d_Mo_law0_328 (by decide) (fun c54 => ?_) (fun c54 => ?_)
          · replace hf := xf c54 hf
            refine lv_aload_n S.1 S.2.1 d_Mo_law0_363 rfl (lv_at hl 0 rfl) ?_
            obtain ⟨t55, ht55, hf⟩ := xb hf
            refine x_geti S hw lk_Mo_172 ht55 d_Mo_law0_364 ?_
            refine lv_if_ne (tgt := 381) S.1 S.2.1 d_Mo_law0_367 (by decide) (fun c56 => ?_) (fun c56 => ?_)
            · replace hf := xf c56 hf
              refine lv_iconst (v := 0) S.1 S.2.1 d_Mo_law0_381 (by decide) ?_
              exact w_Mo_law0_382 S hr hlocks  _ _ _ _ _ _ _ _ _ _ _ _ _ hw (lv_sub hl [0, 1, 2, 3, 4, 5, 6, 7] rfl) hf
            · replace hf := xt c56 hf
              refine lv_aload_n S.1 S.2.1 d_Mo_law0_370 rfl (lv_at hl 0 rfl) ?_
              refine lv_iconst (v := 0) S.1 S.2.1 d_Mo_law0_371 (by decide) ?_
              refine lv_sipush (v := 1000) S.1 S.2.1 d_Mo_law0_372 (by decide) ?_
              obtain ⟨t58, w59, h57, hf⟩ := xcb hf
              obtain ⟨h57b, h57⟩ := xkb h57
              refine x_callV (As := [.int 0, .int 1000]) (rest := []) (st1 := [.int t58]) S hw (c_Mo_number h57) (cwV 2 S.2.2.2.2 gv_Mo_240 rfl rfl rfl hd_Mo_number ⟨Nat.le_of_ble_eq_true rfl, Nat.le_of_ble_eq_true rfl⟩) rfl h57b rfl hl.1 rfl rfl (Nat.le_of_ble_eq_true rfl) d_Mo_law0_375 ⟨Nat.le_of_ble_eq_true rfl, Nat.le_of_ble_eq_true rfl⟩ (fun H locs hw => ?_)
              refine lv_goto (tgt := 382) S.1 S.2.1 d_Mo_law0_378 (by decide) ?_
              exact w_Mo_law0_382 S hr hlocks  _ _ _ _ _ _ _ _ _ _ _ _ _ hw (lv_sub hl [0, 1, 2, 3, 4, 5, 6, 7] rfl) hf
          · replace hf := xt c54 hf
            exact w_Mo_law0_331 S hr hlocks  _ _ _ _ _ _ _ _ _ _ _ _ hw (lv_sub hl [0, 1, 2, 3, 4, 5, 6, 7] rfl) hf
      · replace hf := xt c52 hf
        refine lv_iload_n S.1 S.2.1 d_Mo_law0_247 rfl (lv_at hl 3 rfl) ?_
        refine lv_iconst (v := 2) S.1 S.2.1 d_Mo_law0_248 (by decide) ?_
        refine lv_icmp_ne (tgt := 257) S.1 S.2.1 d_Mo_law0_249 (by decide) (fun c60 => ?_) (fun c60 => ?_)
        · replace hf := xf c60 hf
          refine lv_bipush (v := 8) S.1 S.2.1 d_Mo_law0_257 (by decide) ?_
          exact w_Mo_law0_259 S hr hlocks  _ _ _ _ _ _ _ _ _ _ hw (lv_sub hl [0, 1, 2, 3, 7] rfl) hf
        · replace hf := xt c60 hf
          refine lv_ldc (v := 99999) S.1 S.2.1 S.2.2.2.1 (S.2.2.2.2 _ wd_5_218) d_Mo_law0_252 ?_
          refine lv_goto (tgt := 259) S.1 S.2.1 d_Mo_law0_254 (by decide) ?_
          exact w_Mo_law0_259 S hr hlocks  _ _ _ _ _ _ _ _ _ _ hw (lv_sub hl [0, 1, 2, 3, 7] rfl) hf
  · replace hf := xt c49 hf
    refine lv_aload_n S.1 S.2.1 d_Mo_law0_223 rfl (lv_at hl 0 rfl) ?_
    refine lv_iconst (v := 0) S.1 S.2.1 d_Mo_law0_224 (by decide) ?_
    refine lv_sipush (v := 10000) S.1 S.2.1 d_Mo_law0_225 (by decide) ?_
    obtain ⟨t62, w63, h61, hf⟩ := xcb hf
    obtain ⟨h61b, h61⟩ := xkb h61
    refine x_callV (As := [.int 0, .int 10000]) (rest := []) (st1 := [.int t62]) S hw (c_Mo_number h61) (cwV 2 S.2.2.2.2 gv_Mo_240 rfl rfl rfl hd_Mo_number ⟨Nat.le_of_ble_eq_true rfl, Nat.le_of_ble_eq_true rfl⟩) rfl h61b rfl hl.1 rfl rfl (Nat.le_of_ble_eq_true rfl) d_Mo_law0_228 ⟨Nat.le_of_ble_eq_true rfl, Nat.le_of_ble_eq_true rfl⟩ (fun H locs hw => ?_)
    refine lv_istore (lv' := [(4, .int t62), (0, .ref a0), (1, .int x1), (2, .int x2), (3, .int x3), (5, .int x5), (6, .int x6), (7, .int x7)]) S.1 S.2.1 d_Mo_law0_231 hl (by decide) rfl (fun ls hl => ?_)
    refine lv_goto (tgt := 363) S.1 S.2.1 d_Mo_law0_233 (by decide) ?_
    refine lv_aload_n S.1 S.2.1 d_Mo_law0_363 rfl (lv_at hl 1 rfl) ?_
    obtain ⟨t64, ht64, hf⟩ := xb hf
    refine x_geti S hw lk_Mo_172 ht64 d_Mo_law0_364 ?_
    refine lv_if_ne (tgt := 381) S.1 S.2.1 d_Mo_law0_367 (by decide) (fun c65 => ?_) (fun c65 => ?_)
    · replace hf := xf c65 hf
      refine lv_iconst (v := 0) S.1 S.2.1 d_Mo_law0_381 (by decide) ?_
      exact w_Mo_law0_382 S hr hlocks  _ _ _ _ _ _ _ _ _ _ _ _ _ hw (lv_sub hl [1, 2, 3, 4, 0, 5, 6, 7] rfl) hf
    · replace hf := xt c65 hf
      refine lv_aload_n S.1 S.2.1 d_Mo_law0_370 rfl (lv_at hl 1 rfl) ?_
      refine lv_iconst (v := 0) S.1 S.2.1 d_Mo_law0_371 (by decide) ?_
      refine lv_sipush (v := 1000) S.1 S.2.1 d_Mo_law0_372 (by decide) ?_
      obtain ⟨t67, w68, h66, hf⟩ := xcb hf
      obtain ⟨h66b, h66⟩ := xkb h66
      refine x_callV (As := [.int 0, .int 1000]) (rest := []) (st1 := [.int t67]) S hw (c_Mo_number h66) (cwV 2 S.2.2.2.2 gv_Mo_240 rfl rfl rfl hd_Mo_number ⟨Nat.le_of_ble_eq_true rfl, Nat.le_of_ble_eq_true rfl⟩) rfl h66b rfl hl.1 rfl rfl (Nat.le_of_ble_eq_true rfl) d_Mo_law0_375 ⟨Nat.le_of_ble_eq_true rfl, Nat.le_of_ble_eq_true rfl⟩ (fun H locs hw => ?_)
      refine lv_goto (tgt := 382) S.1 S.2.1 d_Mo_law0_378 (by decide) ?_
      exact w_Mo_law0_382 S hr hlocks  _ _ _ _ _ _ _ _ _ _ _ _ _ hw (lv_sub hl [1, 2, 3, 4, 0, 5, 6, 7] rfl) hf
def f_Mo_law0_158 (a0 : Nat) (x1 : Int32) (x2 : Int32) (x3 : Int32) (x4 : Int32) (x5 : Int32) (x6 : Int32) (ω : xS) : Option xS :=
  xc (xk ω a0 12 (f_Mo_advance a0  ω)) fun t25 w26 =>
  if t25 = 0 then (
    some w26)
  else (
    (xgi w26 a0 12 36).bind fun t28 =>
    (xk w26 a0 12 (f_Mo_look a0 t28 w26)).bind fun t30 =>
    (xgi w26 a0 12 35).bind fun t31 =>
    if t31 = 1 then (
      (xgi w26 a0 12 37).bind fun t37 =>
      (xgi w26 a0 12 36).bind fun t38 =>
      if (t37 - t38) = 1 then (
        if (t30 - 97) ≤ 7 then (
          f_Mo_law0_218  a0 x1 x2 x3 x4 x5 x6 (t30 - 97) w26)
        else (
          (xgi w26 a0 12 36).bind fun t45 =>
          xc (xk w26 a0 12 (f_Mo_fails a0 2 t45 w26)) fun t47 w48 =>
          some w48))
      else (
        (xgi w26 a0 12 36).bind fun t40 =>
        xc (xk w26 a0 12 (f_Mo_fails a0 2 t40 w26)) fun t42 w43 =>
        some w43))
    else (
      (xgi w26 a0 12 36).bind fun t33 =>
      xc (xk w26 a0 12 (f_Mo_fails a0 2 t33 w26)) fun t35 w36 =>
      some w36))
set_option maxHeartbeats 4000000 in
set_option maxRecDepth 100000 in
theorem w_Mo_law0_158 {p : Program} {l : Launch} {e : Env} {s : State} {m : MethodId} {args : Array Value} {below : List Frame} {meth : Method} {c : Code} {E : xV} {z : Nat} {ω1 : xS} (S : CallFix p m c b_Mo_law0 9 s args xTbl "RosterRulesModel") (hr : meth.sig.returnType = none) (hlocks : meth.locks = false) : ∀ (a0 : Nat) (x1 : Int32) (x2 : Int32) (x3 : Int32) (x4 : Int32) (x5 : Int32) (x6 : Int32) (ω : xS) (H : Heap) (locs : List Loc) (ls : Array Slot), xW E z ω s s.heap H locs → lv_has ls 9 [(0, .ref a0), (1, .int x1), (2, .int x2), (3, .int x3), (4, .int x4), (5, .int x5), (6, .int x6)] → f_Mo_law0_158 a0 x1 x2 x3 x4 x5 x6 ω = some ω1 → W p l e (headSpec ws_Mo_law0 { frames := 6, cells := 0, slots := 0, locals := 143 }).room s m args below meth c H locs 0 0 (MQ below (xQ E none z ω1) args s 0 0 (fun q => E.2.2 ≤ q)) (F0 m 158 ls []) := by
  intro a0 x1 x2 x3 x4 x5 x6 ω H locs ls hw hl hf
  unfold f_Mo_law0_158 at hf
  refine lv_aload_n S.1 S.2.1 d_Mo_law0_158 rfl (lv_at hl 0 rfl) ?_
  obtain ⟨t25, w26, h24, hf⟩ := xcb hf
  obtain ⟨h24b, h24⟩ := xkb h24
  refine x_callV (As := []) (rest := []) (st1 := [.int t25]) S hw (c_Mo_advance h24) (cwV 0 S.2.2.2.2 gv_Mo_208 rfl rfl rfl hd_Mo_advance ⟨Nat.le_of_ble_eq_true rfl, Nat.le_of_ble_eq_true rfl⟩) rfl h24b rfl hl.1 rfl rfl (Nat.le_of_ble_eq_true rfl) d_Mo_law0_159 ⟨Nat.le_of_ble_eq_true rfl, Nat.le_of_ble_eq_true rfl⟩ (fun H locs hw => ?_)
  refine lv_if_ne (tgt := 166) S.1 S.2.1 d_Mo_law0_162 (by decide) (fun c27 => ?_) (fun c27 => ?_)
  · replace hf := xf c27 hf
    refine lv_aload_n S.1 S.2.1 d_Mo_law0_166 rfl (lv_at hl 0 rfl) ?_
    refine lv_aload_n S.1 S.2.1 d_Mo_law0_167 rfl (lv_at hl 0 rfl) ?_
    obtain ⟨t28, ht28, hf⟩ := xb hf
    refine x_geti S hw lk_Mo_185 ht28 d_Mo_law0_168 ?_
    obtain ⟨t30, h29, hf⟩ := xb hf
    obtain ⟨h29b, h29⟩ := xkb h29
    refine x_callV (As := [.int t28]) (rest := []) (st1 := [.int t30]) S hw (c_Mo_look h29) (cwV 1 S.2.2.2.2 gv_Mo_181 rfl rfl rfl hd_Mo_look ⟨Nat.le_of_ble_eq_true rfl, Nat.le_of_ble_eq_true rfl⟩) rfl h29b rfl hl.1 rfl rfl (Nat.le_of_ble_eq_true rfl) d_Mo_law0_171 ⟨Nat.le_of_ble_eq_true rfl, Nat.le_of_ble_eq_true rfl⟩ (fun H locs hw => ?_)
    refine lv_bipush (v := 97) S.1 S.2.1 d_Mo_law0_174 (by decide) ?_
    refine lv_isub S.1 S.2.1 d_Mo_law0_176 ?_
    refine lv_istore (lv' := [(7, .int (t30 - 97)), (0, .ref a0), (1, .int x1), (2, .int x2), (3, .int x3), (4, .int x4), (5, .int x5), (6, .int x6)]) S.1 S.2.1 d_Mo_law0_177 hl (by decide) rfl (fun ls hl => ?_)
    refine lv_aload_n S.1 S.2.1 d_Mo_law0_179 rfl (lv_at hl 1 rfl) ?_
    obtain ⟨t31, ht31, hf⟩ := xb hf
    refine x_geti S hw lk_Mo_188 ht31 d_Mo_law0_180 ?_
    refine lv_iconst (v := 1) S.1 S.2.1 d_Mo_law0_183 (by decide) ?_
    refine lv_icmp_ne (tgt := 207) S.1 S.2.1 d_Mo_law0_184 (by decide) (fun c32 => ?_) (fun c32 => ?_)
    · replace hf := xf c32 hf
      refine lv_aload_n S.1 S.2.1 d_Mo_law0_207 rfl (lv_at hl 1 rfl) ?_
      refine lv_iconst (v := 2) S.1 S.2.1 d_Mo_law0_208 (by decide) ?_
      refine lv_aload_n S.1 S.2.1 d_Mo_law0_209 rfl (lv_at hl 1 rfl) ?_
      obtain ⟨t33, ht33, hf⟩ := xb hf
      refine x_geti S hw lk_Mo_185 ht33 d_Mo_law0_210 ?_
      obtain ⟨t35, w36, h34, hf⟩ := xcb hf
      obtain ⟨h34b, h34⟩ := xkb h34
      refine x_callV (As := [.int 2, .int t33]) (rest := []) (st1 := [.int t35]) S hw (c_Mo_fails h34) (cwV 2 S.2.2.2.2 gv_Mo_198 rfl rfl rfl hd_Mo_fails ⟨Nat.le_of_ble_eq_true rfl, Nat.le_of_ble_eq_true rfl⟩) rfl h34b rfl hl.1 rfl rfl (Nat.le_of_ble_eq_true rfl) d_Mo_law0_213 ⟨Nat.le_of_ble_eq_true rfl, Nat.le_of_ble_eq_true rfl⟩ (fun H locs hw => ?_)
      refine lv_pop S.1 S.2.1 d_Mo_law0_216 rfl ?_
      cases hf
      exact x_vret S hr hlocks hw d_Mo_law0_217
    · replace hf := xt c32 hf
      refine lv_aload_n S.1 S.2.1 d_Mo_law0_187 rfl (lv_at hl 1 rfl) ?_
      obtain ⟨t37, ht37, hf⟩ := xb hf
      refine x_geti S hw lk_Mo_205 ht37 d_Mo_law0_188 ?_
      refine lv_aload_n S.1 S.2.1 d_Mo_law0_191 rfl (lv_at hl 1 rfl) ?_
      obtain ⟨t38, ht38, hf⟩ := xb hf
      refine x_geti S hw lk_Mo_185 ht38 d_Mo_law0_192 ?_
      refine lv_isub S.1 S.2.1 d_Mo_law0_195 ?_
      refine lv_iconst (v := 1) S.1 S.2.1 d_Mo_law0_196 (by decide) ?_
      refine lv_icmp_ne (tgt := 207) S.1 S.2.1 d_Mo_law0_197 (by decide) (fun c39 => ?_) (fun c39 => ?_)
      · replace hf := xf c39 hf
        refine lv_aload_n S.1 S.2.1 d_Mo_law0_207 rfl (lv_at hl 1 rfl) ?_
        refine lv_iconst (v := 2) S.1 S.2.1 d_Mo_law0_208 (by decide) ?_
        refine lv_aload_n S.1 S.2.1 d_Mo_law0_209 rfl (lv_at hl 1 rfl) ?_
        obtain ⟨t40, ht40, hf⟩ := xb hf
        refine x_geti S hw lk_Mo_185 ht40 d_Mo_law0_210 ?_
        obtain ⟨t42, w43, h41, hf⟩ := xcb hf
        obtain ⟨h41b, h41⟩ := xkb h41
        refine x_callV (As := [.int 2, .int t40]) (rest := []) (st1 := [.int t42]) S hw (c_Mo_fails h41) (cwV 2 S.2.2.2.2 gv_Mo_198 rfl rfl rfl hd_Mo_fails ⟨Nat.le_of_ble_eq_true rfl, Nat.le_of_ble_eq_true rfl⟩) rfl h41b rfl hl.1 rfl rfl (Nat.le_of_ble_eq_true rfl) d_Mo_law0_213 ⟨Nat.le_of_ble_eq_true rfl, Nat.le_of_ble_eq_true rfl⟩ (fun H locs hw => ?_)
        refine lv_pop S.1 S.2.1 d_Mo_law0_216 rfl ?_
        cases hf
        exact x_vret S hr hlocks hw d_Mo_law0_217
      · replace hf := xt c39 hf
        refine lv_iload S.1 S.2.1 d_Mo_law0_200 (lv_at hl 0 rfl) ?_
        refine lv_bipush (v := 7) S.1 S.2.1 d_Mo_law0_202 (by decide) ?_
        refine lv_icmp_le (tgt := 218) S.1 S.2.1 d_Mo_law0_204 (by decide) (fun c44 => ?_) (fun c44 => ?_)
        · replace hf := xt c44 hf
          exact w_Mo_law0_218 S hr hlocks  _ _ _ _ _ _ _ _ _ _ _ _ hw (lv_sub hl [1, 2, 3, 4, 5, 6, 7, 0] rfl) hf
        · replace hf := xf c44 hf
          refine lv_aload_n S.1 S.2.1 d_Mo_law0_207 rfl (lv_at hl 1 rfl) ?_
          refine lv_iconst (v := 2) S.1 S.2.1 d_Mo_law0_208 (by decide) ?_
          refine lv_aload_n S.1 S.2.1 d_Mo_law0_209 rfl (lv_at hl 1 rfl) ?_
          obtain ⟨t45, ht45, hf⟩ := xb hf
          refine x_geti S hw lk_Mo_185 ht45 d_Mo_law0_210 ?_
          obtain ⟨t47, w48, h46, hf⟩ := xcb hf
          obtain ⟨h46b, h46⟩ := xkb h46
          refine x_callV (As := [.int 2, .int t45]) (rest := []) (st1 := [.int t47]) S hw (c_Mo_fails h46) (cwV 2 S.2.2.2.2 gv_Mo_198 rfl rfl rfl hd_Mo_fails ⟨Nat.le_of_ble_eq_true rfl, Nat.le_of_ble_eq_true rfl⟩) rfl h46b rfl hl.1 rfl rfl (Nat.le_of_ble_eq_true rfl) d_Mo_law0_213 ⟨Nat.le_of_ble_eq_true rfl, Nat.le_of_ble_eq_true rfl⟩ (fun H locs hw => ?_)
          refine lv_pop S.1 S.2.1 d_Mo_law0_216 rfl ?_
          cases hf
          exact x_vret S hr hlocks hw d_Mo_law0_217
  · replace hf := xt c27 hf
    cases hf
    exact x_vret S hr hlocks hw d_Mo_law0_165
def f_Mo_law0_123 (a0 : Nat) (x1 : Int32) (x2 : Int32) (x3 : Int32) (ω : xS) : Option xS :=
  if 0 ≤ x3 then (
    if x3 = 5 then (
      f_Mo_law0_158  a0 x1 x2 x3 0 0 0 ω)
    else (
      if x3 = 6 then (
        f_Mo_law0_158  a0 x1 x2 x3 0 0 0 ω)
      else (
        f_Mo_law0_218  a0 x1 x2 x3 0 0 0 0 ω)))
  else (
    xc (xk ω a0 12 (f_Mo_fails a0 2 x2 ω)) fun t22 w23 =>
    some w23)
set_option maxHeartbeats 4000000 in
set_option maxRecDepth 100000 in
theorem w_Mo_law0_123 {p : Program} {l : Launch} {e : Env} {s : State} {m : MethodId} {args : Array Value} {below : List Frame} {meth : Method} {c : Code} {E : xV} {z : Nat} {ω1 : xS} (S : CallFix p m c b_Mo_law0 9 s args xTbl "RosterRulesModel") (hr : meth.sig.returnType = none) (hlocks : meth.locks = false) : ∀ (a0 : Nat) (x1 : Int32) (x2 : Int32) (x3 : Int32) (ω : xS) (H : Heap) (locs : List Loc) (ls : Array Slot), xW E z ω s s.heap H locs → lv_has ls 9 [(0, .ref a0), (1, .int x1), (2, .int x2), (3, .int x3)] → f_Mo_law0_123 a0 x1 x2 x3 ω = some ω1 → W p l e (headSpec ws_Mo_law0 { frames := 6, cells := 0, slots := 0, locals := 143 }).room s m args below meth c H locs 0 0 (MQ below (xQ E none z ω1) args s 0 0 (fun q => E.2.2 ≤ q)) (F0 m 123 ls []) := by
  intro a0 x1 x2 x3 ω H locs ls hw hl hf
  unfold f_Mo_law0_123 at hf
  refine lv_iload_n S.1 S.2.1 d_Mo_law0_123 rfl (lv_at hl 3 rfl) ?_
  refine lv_if_ge (tgt := 135) S.1 S.2.1 d_Mo_law0_124 (by decide) (fun c18 => ?_) (fun c18 => ?_)
  · replace hf := xt c18 hf
    refine lv_iconst (v := 0) S.1 S.2.1 d_Mo_law0_135 (by decide) ?_
    refine lv_istore (lv' := [(4, .int 0), (0, .ref a0), (1, .int x1), (2, .int x2), (3, .int x3)]) S.1 S.2.1 d_Mo_law0_136 hl (by decide) rfl (fun ls hl => ?_)
    refine lv_iconst (v := 0) S.1 S.2.1 d_Mo_law0_138 (by decide) ?_
    refine lv_istore (lv' := [(5, .int 0), (4, .int 0), (0, .ref a0), (1, .int x1), (2, .int x2), (3, .int x3)]) S.1 S.2.1 d_Mo_law0_139 hl (by decide) rfl (fun ls hl => ?_)
    refine lv_iconst (v := 0) S.1 S.2.1 d_Mo_law0_141 (by decide) ?_
    refine lv_istore (lv' := [(6, .int 0), (5, .int 0), (4, .int 0), (0, .ref a0), (1, .int x1), (2, .int x2), (3, .int x3)]) S.1 S.2.1 d_Mo_law0_142 hl (by decide) rfl (fun ls hl => ?_)
    refine lv_iconst (v := 0) S.1 S.2.1 d_Mo_law0_144 (by decide) ?_
    refine lv_istore (lv' := [(7, .int 0), (6, .int 0), (5, .int 0), (4, .int 0), (0, .ref a0), (1, .int x1), (2, .int x2), (3, .int x3)]) S.1 S.2.1 d_Mo_law0_145 hl (by decide) rfl (fun ls hl => ?_)
    refine lv_iload_n S.1 S.2.1 d_Mo_law0_147 rfl (lv_at hl 7 rfl) ?_
    refine lv_iconst (v := 5) S.1 S.2.1 d_Mo_law0_148 (by decide) ?_
    refine lv_icmp_eq (tgt := 158) S.1 S.2.1 d_Mo_law0_149 (by decide) (fun c19 => ?_) (fun c19 => ?_)
    · replace hf := xt c19 hf
      exact w_Mo_law0_158 S hr hlocks  _ _ _ _ _ _ _ _ _ _ _ hw (lv_sub hl [4, 5, 6, 7, 3, 2, 1] rfl) hf
    · replace hf := xf c19 hf
      refine lv_iload_n S.1 S.2.1 d_Mo_law0_152 rfl (lv_at hl 7 rfl) ?_
      refine lv_bipush (v := 6) S.1 S.2.1 d_Mo_law0_153 (by decide) ?_
      refine lv_icmp_ne (tgt := 218) S.1 S.2.1 d_Mo_law0_155 (by decide) (fun c20 => ?_) (fun c20 => ?_)
      · replace hf := xf c20 hf
        exact w_Mo_law0_218 S hr hlocks  _ _ _ _ _ _ _ _ _ _ _ _ hw (lv_sub hl [4, 5, 6, 7, 3, 2, 1, 0] rfl) hf
      · replace hf := xt c20 hf
        exact w_Mo_law0_158 S hr hlocks  _ _ _ _ _ _ _ _ _ _ _ hw (lv_sub hl [4, 5, 6, 7, 3, 2, 1] rfl) hf
  · replace hf := xf c18 hf
    refine lv_aload_n S.1 S.2.1 d_Mo_law0_127 rfl (lv_at hl 0 rfl) ?_
    refine lv_iconst (v := 2) S.1 S.2.1 d_Mo_law0_128 (by decide) ?_
    refine lv_iload_n S.1 S.2.1 d_Mo_law0_129 rfl (lv_at hl 2 rfl) ?_
    obtain ⟨t22, w23, h21, hf⟩ := xcb hf
    obtain ⟨h21b, h21⟩ := xkb h21
    refine x_callV (As := [.int 2, .int x2]) (rest := []) (st1 := [.int t22]) S hw (c_Mo_fails h21) (cwV 2 S.2.2.2.2 gv_Mo_198 rfl rfl rfl hd_Mo_fails ⟨Nat.le_of_ble_eq_true rfl, Nat.le_of_ble_eq_true rfl⟩) rfl h21b rfl hl.1 rfl rfl (Nat.le_of_ble_eq_true rfl) d_Mo_law0_130 ⟨Nat.le_of_ble_eq_true rfl, Nat.le_of_ble_eq_true rfl⟩ (fun H locs hw => ?_)
    refine lv_pop S.1 S.2.1 d_Mo_law0_133 rfl ?_
    cases hf
    exact x_vret S hr hlocks hw d_Mo_law0_134
def f_Mo_law0 (a0 : Nat) (x1 : Int32) (ω : xS) : Option xS :=
  (xgi ω a0 12 36).bind fun t1 =>
  (xgi ω a0 12 35).bind fun t2 =>
  if t2 = 1 then (
    (xgl ω a0 12 38).bind fun t4 =>
    if (lg_cmp t4 495723310188) = 0 then (
      f_Mo_law0_123  a0 x1 t1 0 ω)
    else (
      (xgl ω a0 12 38).bind fun t6 =>
      if (lg_cmp t6 1919251316) = 0 then (
        f_Mo_law0_123  a0 x1 t1 1 ω)
      else (
        (xgl ω a0 12 38).bind fun t8 =>
        if (lg_cmp t8 448546566771) = 0 then (
          f_Mo_law0_123  a0 x1 t1 2 ω)
        else (
          (xgl ω a0 12 38).bind fun t10 =>
          if (lg_cmp t10 474148660594) = 0 then (
            f_Mo_law0_123  a0 x1 t1 3 ω)
          else (
            (xgl ω a0 12 38).bind fun t12 =>
            if (lg_cmp t12 512853240933) = 0 then (
              f_Mo_law0_123  a0 x1 t1 4 ω)
            else (
              (xgl ω a0 12 38).bind fun t14 =>
              if (lg_cmp t14 1717660018) = 0 then (
                f_Mo_law0_123  a0 x1 t1 5 ω)
              else (
                (xgl ω a0 12 38).bind fun t16 =>
                if (lg_cmp t16 427071792498) = 0 then (
                  f_Mo_law0_123  a0 x1 t1 6 ω)
                else (
                  f_Mo_law0_123  a0 x1 t1 (-1) ω))))))))
  else (
    f_Mo_law0_123  a0 x1 t1 (-1) ω)
set_option maxHeartbeats 4000000 in
set_option maxRecDepth 100000 in
theorem c_Mo_law0 {l : Launch} {E : xV} {z : Nat} {a0 : Nat} {x1 : Int32} {ω1 : xS} {ω : xS} (hf : f_Mo_law0 a0 x1 ω = some ω1) : xM l E y_Mo_law0 ws_Mo_law0 { frames := 6, cells := 0, slots := 0, locals := 143 } [.ref a0, .int x1] z ω none z ω1 := by
  refine x_start (cc := b_Mo_law0) (maxL := 9) (ret := none) (by decide) rfl (Nat.le_of_ble_eq_true rfl) ?_
  intro p e s m below meth c S hr hlocks hin ls hl hw
  have hl : lv_has ls 9 [(0, .ref a0), (1, .int x1)] := hl
  unfold f_Mo_law0 at hf
  refine lv_aload_n S.1 S.2.1 d_Mo_law0_0 rfl (lv_at hl 0 rfl) ?_
  obtain ⟨t1, ht1, hf⟩ := xb hf
  refine x_geti S hw lk_Mo_185 ht1 d_Mo_law0_1 ?_
  refine lv_istore_n (lv' := [(2, .int t1), (0, .ref a0), (1, .int x1)]) S.1 S.2.1 d_Mo_law0_4 rfl hl (by decide) rfl (fun ls hl => ?_)
  refine lv_iconst (v := (-1)) S.1 S.2.1 d_Mo_law0_5 (by decide) ?_
  refine lv_istore_n (lv' := [(3, .int (-1)), (2, .int t1), (0, .ref a0), (1, .int x1)]) S.1 S.2.1 d_Mo_law0_6 rfl hl (by decide) rfl (fun ls hl => ?_)
  refine lv_aload_n S.1 S.2.1 d_Mo_law0_7 rfl (lv_at hl 2 rfl) ?_
  obtain ⟨t2, ht2, hf⟩ := xb hf
  refine x_geti S hw lk_Mo_188 ht2 d_Mo_law0_8 ?_
  refine lv_iconst (v := 1) S.1 S.2.1 d_Mo_law0_11 (by decide) ?_
  refine lv_icmp_ne (tgt := 123) S.1 S.2.1 d_Mo_law0_12 (by decide) (fun c3 => ?_) (fun c3 => ?_)
  · replace hf := xf c3 hf
    exact w_Mo_law0_123 S hr hlocks  _ _ _ _ _ _ _ _ hw (lv_sub hl [2, 3, 1, 0] rfl) hf
  · replace hf := xt c3 hf
    refine lv_aload_n S.1 S.2.1 d_Mo_law0_15 rfl (lv_at hl 2 rfl) ?_
    obtain ⟨t4, ht4, hf⟩ := xb hf
    refine x_getl S hw lk_Mo_194 ht4 d_Mo_law0_16 ?_
    refine lv_ldc2 (v := 495723310188) S.1 S.2.1 S.2.2.2.1 (S.2.2.2.2 _ wd_5_207) d_Mo_law0_19 ?_
    refine W.lcmp S.1 S.2.1 d_Mo_law0_22 ?_
    refine lv_if_ne (tgt := 30) S.1 S.2.1 d_Mo_law0_23 (by decide) (fun c5 => ?_) (fun c5 => ?_)
    · replace hf := xf c5 hf
      refine lv_aload_n S.1 S.2.1 d_Mo_law0_30 rfl (lv_at hl 2 rfl) ?_
      obtain ⟨t6, ht6, hf⟩ := xb hf
      refine x_getl S hw lk_Mo_194 ht6 d_Mo_law0_31 ?_
      refine lv_ldc2 (v := 1919251316) S.1 S.2.1 S.2.2.2.1 (S.2.2.2.2 _ wd_5_208) d_Mo_law0_34 ?_
      refine W.lcmp S.1 S.2.1 d_Mo_law0_37 ?_
      refine lv_if_ne (tgt := 45) S.1 S.2.1 d_Mo_law0_38 (by decide) (fun c7 => ?_) (fun c7 => ?_)
      · replace hf := xf c7 hf
        refine lv_aload_n S.1 S.2.1 d_Mo_law0_45 rfl (lv_at hl 2 rfl) ?_
        obtain ⟨t8, ht8, hf⟩ := xb hf
        refine x_getl S hw lk_Mo_194 ht8 d_Mo_law0_46 ?_
        refine lv_ldc2 (v := 448546566771) S.1 S.2.1 S.2.2.2.1 (S.2.2.2.2 _ wd_5_209) d_Mo_law0_49 ?_
        refine W.lcmp S.1 S.2.1 d_Mo_law0_52 ?_
        refine lv_if_ne (tgt := 60) S.1 S.2.1 d_Mo_law0_53 (by decide) (fun c9 => ?_) (fun c9 => ?_)
        · replace hf := xf c9 hf
          refine lv_aload_n S.1 S.2.1 d_Mo_law0_60 rfl (lv_at hl 2 rfl) ?_
          obtain ⟨t10, ht10, hf⟩ := xb hf
          refine x_getl S hw lk_Mo_194 ht10 d_Mo_law0_61 ?_
          refine lv_ldc2 (v := 474148660594) S.1 S.2.1 S.2.2.2.1 (S.2.2.2.2 _ wd_5_210) d_Mo_law0_64 ?_
          refine W.lcmp S.1 S.2.1 d_Mo_law0_67 ?_
          refine lv_if_ne (tgt := 75) S.1 S.2.1 d_Mo_law0_68 (by decide) (fun c11 => ?_) (fun c11 => ?_)
          · replace hf := xf c11 hf
            refine lv_aload_n S.1 S.2.1 d_Mo_law0_75 rfl (lv_at hl 2 rfl) ?_
            obtain ⟨t12, ht12, hf⟩ := xb hf
            refine x_getl S hw lk_Mo_194 ht12 d_Mo_law0_76 ?_
            refine lv_ldc2 (v := 512853240933) S.1 S.2.1 S.2.2.2.1 (S.2.2.2.2 _ wd_5_211) d_Mo_law0_79 ?_
            refine W.lcmp S.1 S.2.1 d_Mo_law0_82 ?_
            refine lv_if_ne (tgt := 90) S.1 S.2.1 d_Mo_law0_83 (by decide) (fun c13 => ?_) (fun c13 => ?_)
            · replace hf := xf c13 hf
              refine lv_aload_n S.1 S.2.1 d_Mo_law0_90 rfl (lv_at hl 2 rfl) ?_
              obtain ⟨t14, ht14, hf⟩ := xb hf
              refine x_getl S hw lk_Mo_194 ht14 d_Mo_law0_91 ?_
              refine lv_ldc2 (v := 1717660018) S.1 S.2.1 S.2.2.2.1 (S.2.2.2.2 _ wd_5_212) d_Mo_law0_94 ?_
              refine W.lcmp S.1 S.2.1 d_Mo_law0_97 ?_
              refine lv_if_ne (tgt := 105) S.1 S.2.1 d_Mo_law0_98 (by decide) (fun c15 => ?_) (fun c15 => ?_)
              · replace hf := xf c15 hf
                refine lv_aload_n S.1 S.2.1 d_Mo_law0_105 rfl (lv_at hl 2 rfl) ?_
                obtain ⟨t16, ht16, hf⟩ := xb hf
                refine x_getl S hw lk_Mo_194 ht16 d_Mo_law0_106 ?_
                refine lv_ldc2 (v := 427071792498) S.1 S.2.1 S.2.2.2.1 (S.2.2.2.2 _ wd_5_213) d_Mo_law0_109 ?_
                refine W.lcmp S.1 S.2.1 d_Mo_law0_112 ?_
                refine lv_if_ne (tgt := 121) S.1 S.2.1 d_Mo_law0_113 (by decide) (fun c17 => ?_) (fun c17 => ?_)
                · replace hf := xf c17 hf
                  refine lv_iconst (v := (-1)) S.1 S.2.1 d_Mo_law0_121 (by decide) ?_
                  refine lv_istore_n (lv' := [(3, .int (-1)), (2, .int t1), (0, .ref a0), (1, .int x1)]) S.1 S.2.1 d_Mo_law0_122 rfl hl (by decide) rfl (fun ls hl => ?_)
                  exact w_Mo_law0_123 S hr hlocks  _ _ _ _ _ _ _ _ hw (lv_sub hl [2, 3, 1, 0] rfl) hf
                · replace hf := xt c17 hf
                  refine lv_bipush (v := 6) S.1 S.2.1 d_Mo_law0_116 (by decide) ?_
                  refine lv_goto (tgt := 122) S.1 S.2.1 d_Mo_law0_118 (by decide) ?_
                  refine lv_istore_n (lv' := [(3, .int 6), (2, .int t1), (0, .ref a0), (1, .int x1)]) S.1 S.2.1 d_Mo_law0_122 rfl hl (by decide) rfl (fun ls hl => ?_)
                  exact w_Mo_law0_123 S hr hlocks  _ _ _ _ _ _ _ _ hw (lv_sub hl [2, 3, 1, 0] rfl) hf
              · replace hf := xt c15 hf
                refine lv_iconst (v := 5) S.1 S.2.1 d_Mo_law0_101 (by decide) ?_
                refine lv_goto (tgt := 122) S.1 S.2.1 d_Mo_law0_102 (by decide) ?_
                refine lv_istore_n (lv' := [(3, .int 5), (2, .int t1), (0, .ref a0), (1, .int x1)]) S.1 S.2.1 d_Mo_law0_122 rfl hl (by decide) rfl (fun ls hl => ?_)
                exact w_Mo_law0_123 S hr hlocks  _ _ _ _ _ _ _ _ hw (lv_sub hl [2, 3, 1, 0] rfl) hf
            · replace hf := xt c13 hf
              refine lv_iconst (v := 4) S.1 S.2.1 d_Mo_law0_86 (by decide) ?_
              refine lv_goto (tgt := 122) S.1 S.2.1 d_Mo_law0_87 (by decide) ?_
              refine lv_istore_n (lv' := [(3, .int 4), (2, .int t1), (0, .ref a0), (1, .int x1)]) S.1 S.2.1 d_Mo_law0_122 rfl hl (by decide) rfl (fun ls hl => ?_)
              exact w_Mo_law0_123 S hr hlocks  _ _ _ _ _ _ _ _ hw (lv_sub hl [2, 3, 1, 0] rfl) hf
          · replace hf := xt c11 hf
            refine lv_iconst (v := 3) S.1 S.2.1 d_Mo_law0_71 (by decide) ?_
            refine lv_goto (tgt := 122) S.1 S.2.1 d_Mo_law0_72 (by decide) ?_
            refine lv_istore_n (lv' := [(3, .int 3), (2, .int t1), (0, .ref a0), (1, .int x1)]) S.1 S.2.1 d_Mo_law0_122 rfl hl (by decide) rfl (fun ls hl => ?_)
            exact w_Mo_law0_123 S hr hlocks  _ _ _ _ _ _ _ _ hw (lv_sub hl [2, 3, 1, 0] rfl) hf
        · replace hf := xt c9 hf
          refine lv_iconst (v := 2) S.1 S.2.1 d_Mo_law0_56 (by decide) ?_
          refine lv_goto (tgt := 122) S.1 S.2.1 d_Mo_law0_57 (by decide) ?_
          refine lv_istore_n (lv' := [(3, .int 2), (2, .int t1), (0, .ref a0), (1, .int x1)]) S.1 S.2.1 d_Mo_law0_122 rfl hl (by decide) rfl (fun ls hl => ?_)
          exact w_Mo_law0_123 S hr hlocks  _ _ _ _ _ _ _ _ hw (lv_sub hl [2, 3, 1, 0] rfl) hf
      · replace hf := xt c7 hf
        refine lv_iconst (v := 1) S.1 S.2.1 d_Mo_law0_41 (by decide) ?_
        refine lv_goto (tgt := 122) S.1 S.2.1 d_Mo_law0_42 (by decide) ?_
        refine lv_istore_n (lv' := [(3, .int 1), (2, .int t1), (0, .ref a0), (1, .int x1)]) S.1 S.2.1 d_Mo_law0_122 rfl hl (by decide) rfl (fun ls hl => ?_)
        exact w_Mo_law0_123 S hr hlocks  _ _ _ _ _ _ _ _ hw (lv_sub hl [2, 3, 1, 0] rfl) hf
    · replace hf := xt c5 hf
      refine lv_iconst (v := 0) S.1 S.2.1 d_Mo_law0_26 (by decide) ?_
      refine lv_goto (tgt := 122) S.1 S.2.1 d_Mo_law0_27 (by decide) ?_
      refine lv_istore_n (lv' := [(3, .int 0), (2, .int t1), (0, .ref a0), (1, .int x1)]) S.1 S.2.1 d_Mo_law0_122 rfl hl (by decide) rfl (fun ls hl => ?_)
      exact w_Mo_law0_123 S hr hlocks  _ _ _ _ _ _ _ _ hw (lv_sub hl [2, 3, 1, 0] rfl) hf
def f_Mo_text_27 : Nat → Nat → Int32 → Int32 → xS → Option xS
  | 0, _, _, _, _ => none
  | n + 1, a0, x1, x2, ω =>
    if x2 = 0 then (
      (xgi ω a0 12 41).bind fun t9 =>
      if t9 = 0 then (
        some ω)
      else (
        (xgi ω a0 12 39).bind fun t11 =>
        if t11 = 0 then (
          (xp ω a0 12 20 (.int x1)).bind fun w13 =>
          some w13)
        else (
          some ω)))
    else (
      if x1 = 16 then (
        (xgi ω a0 12 36).bind fun t36 =>
        xc (xk ω a0 12 (f_Mo_fails a0 3 t36 ω)) fun t38 w39 =>
        some w39)
      else (
        (xk ω a0 12 (f_Mo_law0 a0 x1 ω)).bind fun w17 =>
        (xgi w17 a0 12 39).bind fun t18 =>
        if t18 = 0 then (
          xc (xk w17 a0 12 (f_Mo_advance a0  w17)) fun t21 w22 =>
          if t21 = 0 then (
            some w22)
          else (
            (xgi w22 a0 12 35).bind fun t24 =>
            if t24 = 4 then (
              xc (xk w22 a0 12 (f_Mo_advance a0  w22)) fun t27 w28 =>
              if t27 = 0 then (
                f_Mo_text_27  n a0 (x1 + 1) 0 w28)
              else (
                (xgi w28 a0 12 35).bind fun t30 =>
                if t30 = 0 then (
                  f_Mo_text_27  n a0 (x1 + 1) 0 w28)
                else (
                  f_Mo_text_27  n a0 (x1 + 1) 1 w28)))
            else (
              (xgi w22 a0 12 36).bind fun t32 =>
              xc (xk w22 a0 12 (f_Mo_fails a0 2 t32 w22)) fun t34 w35 =>
              some w35)))
        else (
          some w17)))
set_option maxHeartbeats 4000000 in
set_option maxRecDepth 100000 in
theorem w_Mo_text_27 {p : Program} {l : Launch} {e : Env} {s : State} {m : MethodId} {args : Array Value} {below : List Frame} {meth : Method} {c : Code} {E : xV} {z : Nat} {ω1 : xS} (S : CallFix p m c b_Mo_text 3 s args xTbl "RosterRulesModel") (hr : meth.sig.returnType = none) (hlocks : meth.locks = false) : ∀ n : Nat, ∀ (a0 : Nat) (x1 : Int32) (x2 : Int32) (ω : xS) (H : Heap) (locs : List Loc) (ls : Array Slot), xW E z ω s s.heap H locs → lv_has ls 3 [(0, .ref a0), (1, .int x1), (2, .int x2)] → f_Mo_text_27 n a0 x1 x2 ω = some ω1 → W p l e (headSpec ws_Mo_text { frames := 7, cells := 0, slots := 0, locals := 171 }).room s m args below meth c H locs 0 0 (MQ below (xQ E none z ω1) args s 0 0 (fun q => E.2.2 ≤ q)) (F0 m 27 ls []) := by
  intro n
  induction n with
  | zero =>
    intro a0 x1 x2 ω H locs ls hw hl hf
    have h2 : (none : Option xS) = some ω1 := hf
    cases h2
  | succ n ih =>
    intro a0 x1 x2 ω H locs ls hw hl hf
    rw [f_Mo_text_27] at hf
    refine lv_iload_n S.1 S.2.1 d_Mo_text_27 rfl (lv_at hl 2 rfl) ?_
    refine lv_if_eq (tgt := 113) S.1 S.2.1 d_Mo_text_28 (by decide) (fun c8 => ?_) (fun c8 => ?_)
    · replace hf := xt c8 hf
      refine lv_aload_n S.1 S.2.1 d_Mo_text_113 rfl (lv_at hl 0 rfl) ?_
      obtain ⟨t9, ht9, hf⟩ := xb hf
      refine x_geti S hw lk_Mo_212 ht9 d_Mo_text_114 ?_
      refine lv_if_eq (tgt := 132) S.1 S.2.1 d_Mo_text_117 (by decide) (fun c10 => ?_) (fun c10 => ?_)
      · replace hf := xt c10 hf
        cases hf
        exact x_vret S hr hlocks hw d_Mo_text_132
      · replace hf := xf c10 hf
        refine lv_aload_n S.1 S.2.1 d_Mo_text_120 rfl (lv_at hl 0 rfl) ?_
        obtain ⟨t11, ht11, hf⟩ := xb hf
        refine x_geti S hw lk_Mo_172 ht11 d_Mo_text_121 ?_
        refine lv_if_ne (tgt := 132) S.1 S.2.1 d_Mo_text_124 (by decide) (fun c12 => ?_) (fun c12 => ?_)
        · replace hf := xf c12 hf
          cases hf
          exact x_vret S hr hlocks hw d_Mo_text_132
        · replace hf := xt c12 hf
          refine lv_aload_n S.1 S.2.1 d_Mo_text_127 rfl (lv_at hl 0 rfl) ?_
          refine lv_iload_n S.1 S.2.1 d_Mo_text_128 rfl (lv_at hl 1 rfl) ?_
          obtain ⟨w13, hw13, hf⟩ := xb hf
          refine x_puti S hw lp_Mo_219 hw13 d_Mo_text_129 (fun H locs hw => ?_)
          cases hf
          exact x_vret S hr hlocks hw d_Mo_text_132
    · replace hf := xf c8 hf
      refine lv_iload_n S.1 S.2.1 d_Mo_text_31 rfl (lv_at hl 1 rfl) ?_
      refine lv_bipush (v := 16) S.1 S.2.1 d_Mo_text_32 (by decide) ?_
      refine lv_icmp_ne (tgt := 48) S.1 S.2.1 d_Mo_text_34 (by decide) (fun c14 => ?_) (fun c14 => ?_)
      · replace hf := xf c14 hf
        refine lv_aload_n S.1 S.2.1 d_Mo_text_48 rfl (lv_at hl 0 rfl) ?_
        refine lv_iload_n S.1 S.2.1 d_Mo_text_49 rfl (lv_at hl 1 rfl) ?_
        obtain ⟨w17, h15, hf⟩ := xb hf
        obtain ⟨h15b, h15⟩ := xkb h15
        refine x_callV (As := [.int x1]) (rest := []) (st1 := []) S hw (c_Mo_law0 h15) (cwV 1 S.2.2.2.2 gv_Mo_222 rfl rfl rfl hd_Mo_law0 ⟨Nat.le_of_ble_eq_true rfl, Nat.le_of_ble_eq_true rfl⟩) rfl h15b rfl hl.1 rfl rfl (Nat.le_of_ble_eq_true rfl) d_Mo_text_50 ⟨Nat.le_of_ble_eq_true rfl, Nat.le_of_ble_eq_true rfl⟩ (fun H locs hw => ?_)
        refine lv_aload_n S.1 S.2.1 d_Mo_text_53 rfl (lv_at hl 0 rfl) ?_
        obtain ⟨t18, ht18, hf⟩ := xb hf
        refine x_geti S hw lk_Mo_172 ht18 d_Mo_text_54 ?_
        refine lv_if_ne (tgt := 67) S.1 S.2.1 d_Mo_text_57 (by decide) (fun c19 => ?_) (fun c19 => ?_)
        · replace hf := xf c19 hf
          cases hf
          exact x_vret S hr hlocks hw d_Mo_text_67
        · replace hf := xt c19 hf
          refine lv_aload_n S.1 S.2.1 d_Mo_text_60 rfl (lv_at hl 0 rfl) ?_
          obtain ⟨t21, w22, h20, hf⟩ := xcb hf
          obtain ⟨h20b, h20⟩ := xkb h20
          refine x_callV (As := []) (rest := []) (st1 := [.int t21]) S hw (c_Mo_advance h20) (cwV 0 S.2.2.2.2 gv_Mo_208 rfl rfl rfl hd_Mo_advance ⟨Nat.le_of_ble_eq_true rfl, Nat.le_of_ble_eq_true rfl⟩) rfl h20b rfl hl.1 rfl rfl (Nat.le_of_ble_eq_true rfl) d_Mo_text_61 ⟨Nat.le_of_ble_eq_true rfl, Nat.le_of_ble_eq_true rfl⟩ (fun H locs hw => ?_)
          refine lv_if_ne (tgt := 68) S.1 S.2.1 d_Mo_text_64 (by decide) (fun c23 => ?_) (fun c23 => ?_)
          · replace hf := xf c23 hf
            refine lv_aload_n S.1 S.2.1 d_Mo_text_68 rfl (lv_at hl 0 rfl) ?_
            obtain ⟨t24, ht24, hf⟩ := xb hf
            refine x_geti S hw lk_Mo_188 ht24 d_Mo_text_69 ?_
            refine lv_iconst (v := 4) S.1 S.2.1 d_Mo_text_72 (by decide) ?_
            refine lv_icmp_eq (tgt := 87) S.1 S.2.1 d_Mo_text_73 (by decide) (fun c25 => ?_) (fun c25 => ?_)
            · replace hf := xt c25 hf
              refine lv_iinc (v := (x1 + 1)) (lv' := [(1, .int (x1 + 1)), (0, .ref a0), (2, .int x2)]) S.1 S.2.1 d_Mo_text_87 hl (k := 1) rfl rfl (by decide) rfl (fun ls hl => ?_)
              refine lv_aload_n S.1 S.2.1 d_Mo_text_90 rfl (lv_at hl 1 rfl) ?_
              obtain ⟨t27, w28, h26, hf⟩ := xcb hf
              obtain ⟨h26b, h26⟩ := xkb h26
              refine x_callV (As := []) (rest := []) (st1 := [.int t27]) S hw (c_Mo_advance h26) (cwV 0 S.2.2.2.2 gv_Mo_208 rfl rfl rfl hd_Mo_advance ⟨Nat.le_of_ble_eq_true rfl, Nat.le_of_ble_eq_true rfl⟩) rfl h26b rfl hl.1 rfl rfl (Nat.le_of_ble_eq_true rfl) d_Mo_text_91 ⟨Nat.le_of_ble_eq_true rfl, Nat.le_of_ble_eq_true rfl⟩ (fun H locs hw => ?_)
              refine lv_if_eq (tgt := 108) S.1 S.2.1 d_Mo_text_94 (by decide) (fun c29 => ?_) (fun c29 => ?_)
              · replace hf := xt c29 hf
                refine lv_iconst (v := 0) S.1 S.2.1 d_Mo_text_108 (by decide) ?_
                refine lv_istore_n (lv' := [(2, .int 0), (1, .int (x1 + 1)), (0, .ref a0)]) S.1 S.2.1 d_Mo_text_109 rfl hl (by decide) rfl (fun ls hl => ?_)
                refine lv_goto (tgt := 27) S.1 S.2.1 d_Mo_text_110 (by decide) ?_
                exact ih _ _ _ _ _ _ _ hw (lv_sub hl [2, 1, 0] rfl) hf
              · replace hf := xf c29 hf
                refine lv_aload_n S.1 S.2.1 d_Mo_text_97 rfl (lv_at hl 1 rfl) ?_
                obtain ⟨t30, ht30, hf⟩ := xb hf
                refine x_geti S hw lk_Mo_188 ht30 d_Mo_text_98 ?_
                refine lv_if_eq (tgt := 108) S.1 S.2.1 d_Mo_text_101 (by decide) (fun c31 => ?_) (fun c31 => ?_)
                · replace hf := xt c31 hf
                  refine lv_iconst (v := 0) S.1 S.2.1 d_Mo_text_108 (by decide) ?_
                  refine lv_istore_n (lv' := [(2, .int 0), (1, .int (x1 + 1)), (0, .ref a0)]) S.1 S.2.1 d_Mo_text_109 rfl hl (by decide) rfl (fun ls hl => ?_)
                  refine lv_goto (tgt := 27) S.1 S.2.1 d_Mo_text_110 (by decide) ?_
                  exact ih _ _ _ _ _ _ _ hw (lv_sub hl [2, 1, 0] rfl) hf
                · replace hf := xf c31 hf
                  refine lv_iconst (v := 1) S.1 S.2.1 d_Mo_text_104 (by decide) ?_
                  refine lv_goto (tgt := 109) S.1 S.2.1 d_Mo_text_105 (by decide) ?_
                  refine lv_istore_n (lv' := [(2, .int 1), (1, .int (x1 + 1)), (0, .ref a0)]) S.1 S.2.1 d_Mo_text_109 rfl hl (by decide) rfl (fun ls hl => ?_)
                  refine lv_goto (tgt := 27) S.1 S.2.1 d_Mo_text_110 (by decide) ?_
                  exact ih _ _ _ _ _ _ _ hw (lv_sub hl [2, 1, 0] rfl) hf
            · replace hf := xf c25 hf
              refine lv_aload_n S.1 S.2.1 d_Mo_text_76 rfl (lv_at hl 0 rfl) ?_
              refine lv_iconst (v := 2) S.1 S.2.1 d_Mo_text_77 (by decide) ?_
              refine lv_aload_n S.1 S.2.1 d_Mo_text_78 rfl (lv_at hl 0 rfl) ?_
              obtain ⟨t32, ht32, hf⟩ := xb hf
              refine x_geti S hw lk_Mo_185 ht32 d_Mo_text_79 ?_
              obtain ⟨t34, w35, h33, hf⟩ := xcb hf
              obtain ⟨h33b, h33⟩ := xkb h33
              refine x_callV (As := [.int 2, .int t32]) (rest := []) (st1 := [.int t34]) S hw (c_Mo_fails h33) (cwV 2 S.2.2.2.2 gv_Mo_198 rfl rfl rfl hd_Mo_fails ⟨Nat.le_of_ble_eq_true rfl, Nat.le_of_ble_eq_true rfl⟩) rfl h33b rfl hl.1 rfl rfl (Nat.le_of_ble_eq_true rfl) d_Mo_text_82 ⟨Nat.le_of_ble_eq_true rfl, Nat.le_of_ble_eq_true rfl⟩ (fun H locs hw => ?_)
              refine lv_pop S.1 S.2.1 d_Mo_text_85 rfl ?_
              cases hf
              exact x_vret S hr hlocks hw d_Mo_text_86
          · replace hf := xt c23 hf
            cases hf
            exact x_vret S hr hlocks hw d_Mo_text_67
      · replace hf := xt c14 hf
        refine lv_aload_n S.1 S.2.1 d_Mo_text_37 rfl (lv_at hl 0 rfl) ?_
        refine lv_iconst (v := 3) S.1 S.2.1 d_Mo_text_38 (by decide) ?_
        refine lv_aload_n S.1 S.2.1 d_Mo_text_39 rfl (lv_at hl 0 rfl) ?_
        obtain ⟨t36, ht36, hf⟩ := xb hf
        refine x_geti S hw lk_Mo_185 ht36 d_Mo_text_40 ?_
        obtain ⟨t38, w39, h37, hf⟩ := xcb hf
        obtain ⟨h37b, h37⟩ := xkb h37
        refine x_callV (As := [.int 3, .int t36]) (rest := []) (st1 := [.int t38]) S hw (c_Mo_fails h37) (cwV 2 S.2.2.2.2 gv_Mo_198 rfl rfl rfl hd_Mo_fails ⟨Nat.le_of_ble_eq_true rfl, Nat.le_of_ble_eq_true rfl⟩) rfl h37b rfl hl.1 rfl rfl (Nat.le_of_ble_eq_true rfl) d_Mo_text_43 ⟨Nat.le_of_ble_eq_true rfl, Nat.le_of_ble_eq_true rfl⟩ (fun H locs hw => ?_)
        refine lv_pop S.1 S.2.1 d_Mo_text_46 rfl ?_
        cases hf
        exact x_vret S hr hlocks hw d_Mo_text_47
def f_Mo_text (a0 : Nat) (ω : xS) : Option xS :=
  (xp ω a0 12 34 (.int 0)).bind fun w1 =>
  xc (xk w1 a0 12 (f_Mo_advance a0  w1)) fun t3 w4 =>
  if t3 = 0 then (
    f_Mo_text_27  xFU a0 0 0 w4)
  else (
    (xgi w4 a0 12 35).bind fun t6 =>
    if t6 = 0 then (
      f_Mo_text_27  xFU a0 0 0 w4)
    else (
      f_Mo_text_27  xFU a0 0 1 w4))
set_option maxHeartbeats 4000000 in
set_option maxRecDepth 100000 in
theorem c_Mo_text {l : Launch} {E : xV} {z : Nat} {a0 : Nat} {ω1 : xS} {ω : xS} (hf : f_Mo_text a0 ω = some ω1) : xM l E y_Mo_text ws_Mo_text { frames := 7, cells := 0, slots := 0, locals := 171 } [.ref a0] z ω none z ω1 := by
  refine x_start (cc := b_Mo_text) (maxL := 3) (ret := none) (by decide) rfl (Nat.le_of_ble_eq_true rfl) ?_
  intro p e s m below meth c S hr hlocks hin ls hl hw
  have hl : lv_has ls 3 [(0, .ref a0)] := hl
  unfold f_Mo_text at hf
  refine lv_aload_n S.1 S.2.1 d_Mo_text_0 rfl (lv_at hl 0 rfl) ?_
  refine lv_iconst (v := 0) S.1 S.2.1 d_Mo_text_1 (by decide) ?_
  obtain ⟨w1, hw1, hf⟩ := xb hf
  refine x_puti S hw lp_Mo_178 hw1 d_Mo_text_2 (fun H locs hw => ?_)
  refine lv_iconst (v := 0) S.1 S.2.1 d_Mo_text_5 (by decide) ?_
  refine lv_istore_n (lv' := [(1, .int 0), (0, .ref a0)]) S.1 S.2.1 d_Mo_text_6 rfl hl (by decide) rfl (fun ls hl => ?_)
  refine lv_aload_n S.1 S.2.1 d_Mo_text_7 rfl (lv_at hl 1 rfl) ?_
  obtain ⟨t3, w4, h2, hf⟩ := xcb hf
  obtain ⟨h2b, h2⟩ := xkb h2
  refine x_callV (As := []) (rest := []) (st1 := [.int t3]) S hw (c_Mo_advance h2) (cwV 0 S.2.2.2.2 gv_Mo_208 rfl rfl rfl hd_Mo_advance ⟨Nat.le_of_ble_eq_true rfl, Nat.le_of_ble_eq_true rfl⟩) rfl h2b rfl hl.1 rfl rfl (Nat.le_of_ble_eq_true rfl) d_Mo_text_8 ⟨Nat.le_of_ble_eq_true rfl, Nat.le_of_ble_eq_true rfl⟩ (fun H locs hw => ?_)
  refine lv_if_eq (tgt := 25) S.1 S.2.1 d_Mo_text_11 (by decide) (fun c5 => ?_) (fun c5 => ?_)
  · replace hf := xt c5 hf
    refine lv_iconst (v := 0) S.1 S.2.1 d_Mo_text_25 (by decide) ?_
    refine lv_istore_n (lv' := [(2, .int 0), (1, .int 0), (0, .ref a0)]) S.1 S.2.1 d_Mo_text_26 rfl hl (by decide) rfl (fun ls hl => ?_)
    exact w_Mo_text_27 S hr hlocks  _ _ _ _ _ _ _ _ hw (lv_sub hl [2, 1, 0] rfl) hf
  · replace hf := xf c5 hf
    refine lv_aload_n S.1 S.2.1 d_Mo_text_14 rfl (lv_at hl 1 rfl) ?_
    obtain ⟨t6, ht6, hf⟩ := xb hf
    refine x_geti S hw lk_Mo_188 ht6 d_Mo_text_15 ?_
    refine lv_if_eq (tgt := 25) S.1 S.2.1 d_Mo_text_18 (by decide) (fun c7 => ?_) (fun c7 => ?_)
    · replace hf := xt c7 hf
      refine lv_iconst (v := 0) S.1 S.2.1 d_Mo_text_25 (by decide) ?_
      refine lv_istore_n (lv' := [(2, .int 0), (1, .int 0), (0, .ref a0)]) S.1 S.2.1 d_Mo_text_26 rfl hl (by decide) rfl (fun ls hl => ?_)
      exact w_Mo_text_27 S hr hlocks  _ _ _ _ _ _ _ _ hw (lv_sub hl [2, 1, 0] rfl) hf
    · replace hf := xf c7 hf
      refine lv_iconst (v := 1) S.1 S.2.1 d_Mo_text_21 (by decide) ?_
      refine lv_goto (tgt := 26) S.1 S.2.1 d_Mo_text_22 (by decide) ?_
      refine lv_istore_n (lv' := [(2, .int 1), (1, .int 0), (0, .ref a0)]) S.1 S.2.1 d_Mo_text_26 rfl hl (by decide) rfl (fun ls hl => ?_)
      exact w_Mo_text_27 S hr hlocks  _ _ _ _ _ _ _ _ hw (lv_sub hl [2, 1, 0] rfl) hf
