def f_RR_isDay (a0 : Nat) (x1 : Int32) (ω : xS) : Option Int32 :=
  if x1 < 0 then (
    some 0)
  else (
    (xgr ω a0 11 1).bind fun t2 =>
    (xgi ω t2 8 1).bind fun t3 =>
    if t3 ≤ x1 then (
      some 0)
    else (
      some 1))
set_option maxHeartbeats 4000000 in
set_option maxRecDepth 100000 in
theorem c_RR_isDay {l : Launch} {E : xV} {z : Nat} {a0 : Nat} {x1 : Int32} {r : Int32} {ω : xS} (hf : f_RR_isDay a0 x1 ω = some r) : xM l E y_RR_isDay ws_RR_isDay { frames := 0, cells := 0, slots := 0, locals := 0 } [.ref a0, .int x1] z ω (some (.int r)) z ω := by
  refine x_start (cc := b_RR_isDay) (maxL := 2) (ret := (some .boolean)) (by decide) rfl (Nat.le_of_ble_eq_true rfl) ?_
  intro p e s m below meth c S hr hlocks hin ls hl hw
  have hl : lv_has ls 2 [(0, .ref a0), (1, .int x1)] := hl
  unfold f_RR_isDay at hf
  refine lv_iload_n S.1 S.2.1 d_RR_isDay_0 rfl (lv_at hl 1 rfl) ?_
  refine lv_if_lt (tgt := 19) S.1 S.2.1 d_RR_isDay_1 (by decide) (fun c1 => ?_) (fun c1 => ?_)
  · replace hf := xt c1 hf
    refine lv_iconst (v := 0) S.1 S.2.1 d_RR_isDay_19 (by decide) ?_
    obtain rfl := xe1 hf
    exact x_zret S hr hlocks hw (by decide) d_RR_isDay_20
  · replace hf := xf c1 hf
    refine lv_iload_n S.1 S.2.1 d_RR_isDay_4 rfl (lv_at hl 1 rfl) ?_
    refine lv_aload_n S.1 S.2.1 d_RR_isDay_5 rfl (lv_at hl 0 rfl) ?_
    obtain ⟨t2, ht2, hf⟩ := xb hf
    refine x_getr S hw lk_RR_53 ht2 d_RR_isDay_6 ?_
    obtain ⟨t3, ht3, hf⟩ := xb hf
    refine x_geti S hw lk_RR_68 ht3 d_RR_isDay_9 ?_
    refine lv_icmp_ge (tgt := 19) S.1 S.2.1 d_RR_isDay_12 (by decide) (fun c4 => ?_) (fun c4 => ?_)
    · replace hf := xt c4 hf
      refine lv_iconst (v := 0) S.1 S.2.1 d_RR_isDay_19 (by decide) ?_
      obtain rfl := xe1 hf
      exact x_zret S hr hlocks hw (by decide) d_RR_isDay_20
    · replace hf := xf c4 hf
      refine lv_iconst (v := 1) S.1 S.2.1 d_RR_isDay_15 (by decide) ?_
      refine lv_goto (tgt := 20) S.1 S.2.1 d_RR_isDay_16 (by decide) ?_
      obtain rfl := xe1 hf
      exact x_zret S hr hlocks hw (by decide) d_RR_isDay_20
def f_RR_isCell (a0 : Nat) (x1 : Int32) (x2 : Int32) (ω : xS) : Option Int32 :=
  (xk ω a0 11 (f_RR_isPerson a0 x1 ω)).bind fun t2 =>
  if t2 = 0 then (
    some 0)
  else (
    (xk ω a0 11 (f_RR_isDay a0 x2 ω)).bind fun t5 =>
    if t5 = 0 then (
      some 0)
    else (
      some 1))
set_option maxHeartbeats 4000000 in
set_option maxRecDepth 100000 in
theorem c_RR_isCell {l : Launch} {E : xV} {z : Nat} {a0 : Nat} {x1 : Int32} {x2 : Int32} {r : Int32} {ω : xS} (hf : f_RR_isCell a0 x1 x2 ω = some r) : xM l E y_RR_isCell ws_RR_isCell { frames := 1, cells := 0, slots := 0, locals := 21 } [.ref a0, .int x1, .int x2] z ω (some (.int r)) z ω := by
  refine x_start (cc := b_RR_isCell) (maxL := 3) (ret := (some .boolean)) (by decide) rfl (Nat.le_of_ble_eq_true rfl) ?_
  intro p e s m below meth c S hr hlocks hin ls hl hw
  have hl : lv_has ls 3 [(0, .ref a0), (1, .int x1), (2, .int x2)] := hl
  unfold f_RR_isCell at hf
  refine lv_aload_n S.1 S.2.1 d_RR_isCell_0 rfl (lv_at hl 0 rfl) ?_
  refine lv_iload_n S.1 S.2.1 d_RR_isCell_1 rfl (lv_at hl 1 rfl) ?_
  obtain ⟨t2, h1, hf⟩ := xb hf
  obtain ⟨h1b, h1⟩ := xkb h1
  refine x_callV (As := [.int x1]) (rest := []) (st1 := [.int t2]) S hw (c_RR_isPerson h1) (cwV 1 S.2.2.2.2 gv_RR_114 rfl rfl rfl hd_RR_isPerson ⟨Nat.le_of_ble_eq_true rfl, Nat.le_of_ble_eq_true rfl⟩) rfl h1b rfl hl.1 rfl rfl (Nat.le_of_ble_eq_true rfl) d_RR_isCell_2 ⟨Nat.le_of_ble_eq_true rfl, Nat.le_of_ble_eq_true rfl⟩ (fun H locs hw => ?_)
  refine lv_if_eq (tgt := 20) S.1 S.2.1 d_RR_isCell_5 (by decide) (fun c3 => ?_) (fun c3 => ?_)
  · replace hf := xt c3 hf
    refine lv_iconst (v := 0) S.1 S.2.1 d_RR_isCell_20 (by decide) ?_
    obtain rfl := xe1 hf
    exact x_zret S hr hlocks hw (by decide) d_RR_isCell_21
  · replace hf := xf c3 hf
    refine lv_aload_n S.1 S.2.1 d_RR_isCell_8 rfl (lv_at hl 0 rfl) ?_
    refine lv_iload_n S.1 S.2.1 d_RR_isCell_9 rfl (lv_at hl 2 rfl) ?_
    obtain ⟨t5, h4, hf⟩ := xb hf
    obtain ⟨h4b, h4⟩ := xkb h4
    refine x_callV (As := [.int x2]) (rest := []) (st1 := [.int t5]) S hw (c_RR_isDay h4) (cwV 1 S.2.2.2.2 gv_RR_187 rfl rfl rfl hd_RR_isDay ⟨Nat.le_of_ble_eq_true rfl, Nat.le_of_ble_eq_true rfl⟩) rfl h4b rfl hl.1 rfl rfl (Nat.le_of_ble_eq_true rfl) d_RR_isCell_10 ⟨Nat.le_of_ble_eq_true rfl, Nat.le_of_ble_eq_true rfl⟩ (fun H locs hw => ?_)
    refine lv_if_eq (tgt := 20) S.1 S.2.1 d_RR_isCell_13 (by decide) (fun c6 => ?_) (fun c6 => ?_)
    · replace hf := xt c6 hf
      refine lv_iconst (v := 0) S.1 S.2.1 d_RR_isCell_20 (by decide) ?_
      obtain rfl := xe1 hf
      exact x_zret S hr hlocks hw (by decide) d_RR_isCell_21
    · replace hf := xf c6 hf
      refine lv_iconst (v := 1) S.1 S.2.1 d_RR_isCell_16 (by decide) ?_
      refine lv_goto (tgt := 21) S.1 S.2.1 d_RR_isCell_17 (by decide) ?_
      obtain rfl := xe1 hf
      exact x_zret S hr hlocks hw (by decide) d_RR_isCell_21
def f_RR_wish (a0 : Nat) (x1 : Int32) (x2 : Int32) (x3 : Int32) (x4 : Int32) (ω : xS) : Option (Int32 × xS) :=
  (xk ω a0 11 (f_RR_isCell a0 x1 x2 ω)).bind fun t2 =>
  if t2 = 0 then (
    some ((-1), ω))
  else (
    (xk ω a0 11 (f_RR_isShiftOrOff a0 x3 ω)).bind fun t5 =>
    if t5 = 0 then (
      some ((-1), ω))
    else (
      if x4 < 0 then (
        some ((-1), ω))
      else (
        if x4 ≤ 1000 then (
          (xgr ω a0 11 1).bind fun t9 =>
          (xk ω t9 8 (f_Roster_setWish t9 x1 x2 (x3 + 1) x4 ω)).bind fun w12 =>
          some (1, w12))
        else (
          some ((-1), ω)))))
set_option maxHeartbeats 4000000 in
set_option maxRecDepth 100000 in
theorem c_RR_wish {l : Launch} {E : xV} {z : Nat} {a0 : Nat} {x1 : Int32} {x2 : Int32} {x3 : Int32} {x4 : Int32} {r : Int32} {ω1 : xS} {ω : xS} (hf : f_RR_wish a0 x1 x2 x3 x4 ω = some (r, ω1)) : xM l E y_RR_wish ws_RR_wish { frames := 2, cells := 0, slots := 0, locals := 43 } [.ref a0, .int x1, .int x2, .int x3, .int x4] z ω (some (.int r)) z ω1 := by
  refine x_start (cc := b_RR_wish) (maxL := 5) (ret := (some .int)) (by decide) rfl (Nat.le_of_ble_eq_true rfl) ?_
  intro p e s m below meth c S hr hlocks hin ls hl hw
  have hl : lv_has ls 5 [(0, .ref a0), (1, .int x1), (2, .int x2), (3, .int x3), (4, .int x4)] := hl
  unfold f_RR_wish at hf
  refine lv_aload_n S.1 S.2.1 d_RR_wish_0 rfl (lv_at hl 0 rfl) ?_
  refine lv_iload_n S.1 S.2.1 d_RR_wish_1 rfl (lv_at hl 1 rfl) ?_
  refine lv_iload_n S.1 S.2.1 d_RR_wish_2 rfl (lv_at hl 2 rfl) ?_
  obtain ⟨t2, h1, hf⟩ := xb hf
  obtain ⟨h1b, h1⟩ := xkb h1
  refine x_callV (As := [.int x1, .int x2]) (rest := []) (st1 := [.int t2]) S hw (c_RR_isCell h1) (cwV 2 S.2.2.2.2 gv_RR_127 rfl rfl rfl hd_RR_isCell ⟨Nat.le_of_ble_eq_true rfl, Nat.le_of_ble_eq_true rfl⟩) rfl h1b rfl hl.1 rfl rfl (Nat.le_of_ble_eq_true rfl) d_RR_wish_3 ⟨Nat.le_of_ble_eq_true rfl, Nat.le_of_ble_eq_true rfl⟩ (fun H locs hw => ?_)
  refine lv_if_eq (tgt := 30) S.1 S.2.1 d_RR_wish_6 (by decide) (fun c3 => ?_) (fun c3 => ?_)
  · replace hf := xt c3 hf
    refine lv_iconst (v := (-1)) S.1 S.2.1 d_RR_wish_30 (by decide) ?_
    obtain ⟨rfl, rfl⟩ := xe2 hf
    exact x_iret S hr hlocks hw d_RR_wish_31
  · replace hf := xf c3 hf
    refine lv_aload_n S.1 S.2.1 d_RR_wish_9 rfl (lv_at hl 0 rfl) ?_
    refine lv_iload_n S.1 S.2.1 d_RR_wish_10 rfl (lv_at hl 3 rfl) ?_
    obtain ⟨t5, h4, hf⟩ := xb hf
    obtain ⟨h4b, h4⟩ := xkb h4
    refine x_callV (As := [.int x3]) (rest := []) (st1 := [.int t5]) S hw (c_RR_isShiftOrOff h4) (cwV 1 S.2.2.2.2 gv_RR_120 rfl rfl rfl hd_RR_isShiftOrOff ⟨Nat.le_of_ble_eq_true rfl, Nat.le_of_ble_eq_true rfl⟩) rfl h4b rfl hl.1 rfl rfl (Nat.le_of_ble_eq_true rfl) d_RR_wish_11 ⟨Nat.le_of_ble_eq_true rfl, Nat.le_of_ble_eq_true rfl⟩ (fun H locs hw => ?_)
    refine lv_if_eq (tgt := 30) S.1 S.2.1 d_RR_wish_14 (by decide) (fun c6 => ?_) (fun c6 => ?_)
    · replace hf := xt c6 hf
      refine lv_iconst (v := (-1)) S.1 S.2.1 d_RR_wish_30 (by decide) ?_
      obtain ⟨rfl, rfl⟩ := xe2 hf
      exact x_iret S hr hlocks hw d_RR_wish_31
    · replace hf := xf c6 hf
      refine lv_iload S.1 S.2.1 d_RR_wish_17 (lv_at hl 4 rfl) ?_
      refine lv_if_lt (tgt := 30) S.1 S.2.1 d_RR_wish_19 (by decide) (fun c7 => ?_) (fun c7 => ?_)
      · replace hf := xt c7 hf
        refine lv_iconst (v := (-1)) S.1 S.2.1 d_RR_wish_30 (by decide) ?_
        obtain ⟨rfl, rfl⟩ := xe2 hf
        exact x_iret S hr hlocks hw d_RR_wish_31
      · replace hf := xf c7 hf
        refine lv_iload S.1 S.2.1 d_RR_wish_22 (lv_at hl 4 rfl) ?_
        refine lv_sipush (v := 1000) S.1 S.2.1 d_RR_wish_24 (by decide) ?_
        refine lv_icmp_le (tgt := 32) S.1 S.2.1 d_RR_wish_27 (by decide) (fun c8 => ?_) (fun c8 => ?_)
        · replace hf := xt c8 hf
          refine lv_aload_n S.1 S.2.1 d_RR_wish_32 rfl (lv_at hl 0 rfl) ?_
          obtain ⟨t9, ht9, hf⟩ := xb hf
          refine x_getr S hw lk_RR_53 ht9 d_RR_wish_33 ?_
          refine lv_iload_n S.1 S.2.1 d_RR_wish_36 rfl (lv_at hl 1 rfl) ?_
          refine lv_iload_n S.1 S.2.1 d_RR_wish_37 rfl (lv_at hl 2 rfl) ?_
          refine lv_iload_n S.1 S.2.1 d_RR_wish_38 rfl (lv_at hl 3 rfl) ?_
          refine lv_iconst (v := 1) S.1 S.2.1 d_RR_wish_39 (by decide) ?_
          refine lv_iadd S.1 S.2.1 d_RR_wish_40 ?_
          refine lv_iload S.1 S.2.1 d_RR_wish_41 (lv_at hl 4 rfl) ?_
          obtain ⟨w12, h10, hf⟩ := xb hf
          obtain ⟨h10b, h10⟩ := xkb h10
          refine x_callV (As := [.int x1, .int x2, .int (x3 + 1), .int x4]) (rest := []) (st1 := []) S hw (c_Roster_setWish h10) (cwV 4 S.2.2.2.2 gv_RR_131 rfl rfl rfl hd_Roster_setWish ⟨Nat.le_of_ble_eq_true rfl, Nat.le_of_ble_eq_true rfl⟩) rfl h10b rfl hl.1 rfl rfl (Nat.le_of_ble_eq_true rfl) d_RR_wish_43 ⟨Nat.le_of_ble_eq_true rfl, Nat.le_of_ble_eq_true rfl⟩ (fun H locs hw => ?_)
          refine lv_iconst (v := 1) S.1 S.2.1 d_RR_wish_46 (by decide) ?_
          obtain ⟨rfl, rfl⟩ := xe2 hf
          exact x_iret S hr hlocks hw d_RR_wish_47
        · replace hf := xf c8 hf
          refine lv_iconst (v := (-1)) S.1 S.2.1 d_RR_wish_30 (by decide) ?_
          obtain ⟨rfl, rfl⟩ := xe2 hf
          exact x_iret S hr hlocks hw d_RR_wish_31
def f_RR_at (a0 : Nat) (x1 : Int32) (x2 : Int32) (ω : xS) : Option Int32 :=
  (xk ω a0 11 (f_RR_isCell a0 x1 x2 ω)).bind fun t2 =>
  if t2 = 0 then (
    some (-9))
  else (
    (xgr ω a0 11 1).bind fun t4 =>
    (xk ω t4 8 (f_Roster_letterOf t4 x1 x2 ω)).bind fun t6 =>
    some (t6 - 1))
set_option maxHeartbeats 4000000 in
set_option maxRecDepth 100000 in
theorem c_RR_at {l : Launch} {E : xV} {z : Nat} {a0 : Nat} {x1 : Int32} {x2 : Int32} {r : Int32} {ω : xS} (hf : f_RR_at a0 x1 x2 ω = some r) : xM l E y_RR_at ws_RR_at { frames := 2, cells := 0, slots := 0, locals := 43 } [.ref a0, .int x1, .int x2] z ω (some (.int r)) z ω := by
  refine x_start (cc := b_RR_at) (maxL := 3) (ret := (some .int)) (by decide) rfl (Nat.le_of_ble_eq_true rfl) ?_
  intro p e s m below meth c S hr hlocks hin ls hl hw
  have hl : lv_has ls 3 [(0, .ref a0), (1, .int x1), (2, .int x2)] := hl
  unfold f_RR_at at hf
  refine lv_aload_n S.1 S.2.1 d_RR_at_0 rfl (lv_at hl 0 rfl) ?_
  refine lv_iload_n S.1 S.2.1 d_RR_at_1 rfl (lv_at hl 1 rfl) ?_
  refine lv_iload_n S.1 S.2.1 d_RR_at_2 rfl (lv_at hl 2 rfl) ?_
  obtain ⟨t2, h1, hf⟩ := xb hf
  obtain ⟨h1b, h1⟩ := xkb h1
  refine x_callV (As := [.int x1, .int x2]) (rest := []) (st1 := [.int t2]) S hw (c_RR_isCell h1) (cwV 2 S.2.2.2.2 gv_RR_127 rfl rfl rfl hd_RR_isCell ⟨Nat.le_of_ble_eq_true rfl, Nat.le_of_ble_eq_true rfl⟩) rfl h1b rfl hl.1 rfl rfl (Nat.le_of_ble_eq_true rfl) d_RR_at_3 ⟨Nat.le_of_ble_eq_true rfl, Nat.le_of_ble_eq_true rfl⟩ (fun H locs hw => ?_)
  refine lv_if_eq (tgt := 23) S.1 S.2.1 d_RR_at_6 (by decide) (fun c3 => ?_) (fun c3 => ?_)
  · replace hf := xt c3 hf
    refine lv_bipush (v := (-9)) S.1 S.2.1 d_RR_at_23 (by decide) ?_
    obtain rfl := xe1 hf
    exact x_iret S hr hlocks hw d_RR_at_25
  · replace hf := xf c3 hf
    refine lv_aload_n S.1 S.2.1 d_RR_at_9 rfl (lv_at hl 0 rfl) ?_
    obtain ⟨t4, ht4, hf⟩ := xb hf
    refine x_getr S hw lk_RR_53 ht4 d_RR_at_10 ?_
    refine lv_iload_n S.1 S.2.1 d_RR_at_13 rfl (lv_at hl 1 rfl) ?_
    refine lv_iload_n S.1 S.2.1 d_RR_at_14 rfl (lv_at hl 2 rfl) ?_
    obtain ⟨t6, h5, hf⟩ := xb hf
    obtain ⟨h5b, h5⟩ := xkb h5
    refine x_callV (As := [.int x1, .int x2]) (rest := []) (st1 := [.int t6]) S hw (c_Roster_letterOf h5) (cwV 2 S.2.2.2.2 gv_RR_135 rfl rfl rfl hd_Roster_letterOf ⟨Nat.le_of_ble_eq_true rfl, Nat.le_of_ble_eq_true rfl⟩) rfl h5b rfl hl.1 rfl rfl (Nat.le_of_ble_eq_true rfl) d_RR_at_15 ⟨Nat.le_of_ble_eq_true rfl, Nat.le_of_ble_eq_true rfl⟩ (fun H locs hw => ?_)
    refine lv_iconst (v := 1) S.1 S.2.1 d_RR_at_18 (by decide) ?_
    refine lv_isub S.1 S.2.1 d_RR_at_19 ?_
    refine lv_goto (tgt := 25) S.1 S.2.1 d_RR_at_20 (by decide) ?_
    obtain rfl := xe1 hf
    exact x_iret S hr hlocks hw d_RR_at_25
def f_RR_costAround_13 : Nat → Nat → Int32 → Int32 → Int64 → Int32 → xS → Option Int64
  | 0, _, _, _, _, _, _ => none
  | n + 1, a0, x1, x2, x3, x5, ω =>
    (xgi ω a0 11 8).bind fun t4 =>
    if t4 ≤ x5 then (
      some x3)
    else (
      (xgr ω a0 11 6).bind fun t6 =>
      (xar ω 3 t6 x5).bind fun t7 =>
      (xgi ω t7 4 3).bind fun t8 =>
      (xgr ω a0 11 2).bind fun t9 =>
      (xgr ω a0 11 6).bind fun t10 =>
      (xar ω 3 t10 x5).bind fun t11 =>
      (xk ω t9 3 (f_Judge_aroundCell t9 t11 x1 x2 ω)).bind fun t13 =>
      f_RR_costAround_13  n a0 x1 x2 (x3 + ((Int32.toInt64 t8) * t13)) (x5 + 1) ω)
set_option maxHeartbeats 4000000 in
set_option maxRecDepth 100000 in
theorem w_RR_costAround_13 {p : Program} {l : Launch} {e : Env} {s : State} {m : MethodId} {args : Array Value} {below : List Frame} {meth : Method} {c : Code} {E : xV} {z : Nat} {r : Int64} {ω : xS} (S : CallFix p m c b_RR_costAround 6 s args xTbl "RosterRules") (hr : meth.sig.returnType = (some .long)) (hlocks : meth.locks = false) : ∀ n : Nat, ∀ (a0 : Nat) (x1 : Int32) (x2 : Int32) (x3 : Int64) (x5 : Int32) (H : Heap) (locs : List Loc) (ls : Array Slot), xW E z ω s s.heap H locs → lv_has ls 6 [(0, .ref a0), (1, .int x1), (2, .int x2), (3, .long x3), (5, .int x5)] → f_RR_costAround_13 n a0 x1 x2 x3 x5 ω = some r → W p l e (headSpec ws_RR_costAround { frames := 4, cells := 0, slots := 0, locals := 100 }).room s m args below meth c H locs 0 0 (MQ below (xQ E (some (.long r)) z ω) args s 0 0 (fun q => E.2.2 ≤ q)) (F0 m 13 ls []) := by
  intro n
  induction n with
  | zero =>
    intro a0 x1 x2 x3 x5 H locs ls hw hl hf
    have h2 : (none : Option Int64) = some r := hf
    cases h2
  | succ n ih =>
    intro a0 x1 x2 x3 x5 H locs ls hw hl hf
    rw [f_RR_costAround_13] at hf
    refine lv_iload S.1 S.2.1 d_RR_costAround_13 (lv_at hl 4 rfl) ?_
    refine lv_aload_n S.1 S.2.1 d_RR_costAround_15 rfl (lv_at hl 0 rfl) ?_
    obtain ⟨t4, ht4, hf⟩ := xb hf
    refine x_geti S hw lk_RR_94 ht4 d_RR_costAround_16 ?_
    refine lv_icmp_ge (tgt := 59) S.1 S.2.1 d_RR_costAround_19 (by decide) (fun c5 => ?_) (fun c5 => ?_)
    · replace hf := xt c5 hf
      refine lv_lload_n S.1 S.2.1 d_RR_costAround_59 rfl (lv_at hl 3 rfl) ?_
      obtain rfl := xe1 hf
      exact x_lret S hr hlocks hw d_RR_costAround_60
    · replace hf := xf c5 hf
      refine lv_lload_n S.1 S.2.1 d_RR_costAround_22 rfl (lv_at hl 3 rfl) ?_
      refine lv_aload_n S.1 S.2.1 d_RR_costAround_23 rfl (lv_at hl 0 rfl) ?_
      obtain ⟨t6, ht6, hf⟩ := xb hf
      refine x_getr S hw lk_RR_32 ht6 d_RR_costAround_24 ?_
      refine lv_iload S.1 S.2.1 d_RR_costAround_27 (lv_at hl 4 rfl) ?_
      obtain ⟨t7, ht7, hf⟩ := xb hf
      refine x_aald S hw (t := 3) rfl rfl ht7 d_RR_costAround_29 ?_
      obtain ⟨t8, ht8, hf⟩ := xb hf
      refine x_geti S hw lk_RR_201 ht8 d_RR_costAround_30 ?_
      refine lv_i2l (v := (Int32.toInt64 t8)) S.1 S.2.1 d_RR_costAround_33 rfl ?_
      refine lv_aload_n S.1 S.2.1 d_RR_costAround_34 rfl (lv_at hl 0 rfl) ?_
      obtain ⟨t9, ht9, hf⟩ := xb hf
      refine x_getr S hw lk_RR_62 ht9 d_RR_costAround_35 ?_
      refine lv_aload_n S.1 S.2.1 d_RR_costAround_38 rfl (lv_at hl 0 rfl) ?_
      obtain ⟨t10, ht10, hf⟩ := xb hf
      refine x_getr S hw lk_RR_32 ht10 d_RR_costAround_39 ?_
      refine lv_iload S.1 S.2.1 d_RR_costAround_42 (lv_at hl 4 rfl) ?_
      obtain ⟨t11, ht11, hf⟩ := xb hf
      refine x_aald S hw (t := 3) rfl rfl ht11 d_RR_costAround_44 ?_
      refine lv_iload_n S.1 S.2.1 d_RR_costAround_45 rfl (lv_at hl 1 rfl) ?_
      refine lv_iload_n S.1 S.2.1 d_RR_costAround_46 rfl (lv_at hl 2 rfl) ?_
      obtain ⟨t13, h12, hf⟩ := xb hf
      obtain ⟨h12b, h12⟩ := xkb h12
      refine x_callV (As := [.ref t11, .int x1, .int x2]) (rest := [.long (Int32.toInt64 t8), .long x3]) (st1 := [.long t13, .long (Int32.toInt64 t8), .long x3]) S hw (c_Judge_aroundCell h12) (cwV 3 S.2.2.2.2 gv_RR_266 rfl rfl rfl hd_Judge_aroundCell ⟨Nat.le_of_ble_eq_true rfl, Nat.le_of_ble_eq_true rfl⟩) rfl h12b rfl hl.1 rfl rfl (Nat.le_of_ble_eq_true rfl) d_RR_costAround_47 ⟨Nat.le_of_ble_eq_true rfl, Nat.le_of_ble_eq_true rfl⟩ (fun H locs hw => ?_)
      refine lv_lmul S.1 S.2.1 d_RR_costAround_50 ?_
      refine lv_ladd S.1 S.2.1 d_RR_costAround_51 ?_
      refine lv_lstore_n (lv' := [(3, .long (x3 + ((Int32.toInt64 t8) * t13))), (0, .ref a0), (1, .int x1), (2, .int x2), (5, .int x5)]) S.1 S.2.1 d_RR_costAround_52 rfl hl (by decide) rfl (fun ls hl => ?_)
      refine lv_iinc (v := (x5 + 1)) (lv' := [(5, .int (x5 + 1)), (3, .long (x3 + ((Int32.toInt64 t8) * t13))), (0, .ref a0), (1, .int x1), (2, .int x2)]) S.1 S.2.1 d_RR_costAround_53 hl (k := 4) rfl rfl (by decide) rfl (fun ls hl => ?_)
      refine lv_goto (tgt := 13) S.1 S.2.1 d_RR_costAround_56 (by decide) ?_
      exact ih _ _ _ _ _ _ _ _ hw (lv_sub hl [2, 3, 4, 1, 0] rfl) hf
def f_RR_costAround (a0 : Nat) (x1 : Int32) (x2 : Int32) (ω : xS) : Option Int64 :=
  (xgr ω a0 11 1).bind fun t1 =>
  (xk ω t1 8 (f_Roster_wishCost t1 x1 x2 ω)).bind fun t3 =>
  f_RR_costAround_13  xFU a0 x1 x2 t3 0 ω
set_option maxHeartbeats 4000000 in
set_option maxRecDepth 100000 in
theorem c_RR_costAround {l : Launch} {E : xV} {z : Nat} {a0 : Nat} {x1 : Int32} {x2 : Int32} {r : Int64} {ω : xS} (hf : f_RR_costAround a0 x1 x2 ω = some r) : xM l E y_RR_costAround ws_RR_costAround { frames := 4, cells := 0, slots := 0, locals := 100 } [.ref a0, .int x1, .int x2] z ω (some (.long r)) z ω := by
  refine x_start (cc := b_RR_costAround) (maxL := 6) (ret := (some .long)) (by decide) rfl (Nat.le_of_ble_eq_true rfl) ?_
  intro p e s m below meth c S hr hlocks hin ls hl hw
  have hl : lv_has ls 6 [(0, .ref a0), (1, .int x1), (2, .int x2)] := hl
  unfold f_RR_costAround at hf
  refine lv_aload_n S.1 S.2.1 d_RR_costAround_0 rfl (lv_at hl 0 rfl) ?_
  obtain ⟨t1, ht1, hf⟩ := xb hf
  refine x_getr S hw lk_RR_53 ht1 d_RR_costAround_1 ?_
  refine lv_iload_n S.1 S.2.1 d_RR_costAround_4 rfl (lv_at hl 1 rfl) ?_
  refine lv_iload_n S.1 S.2.1 d_RR_costAround_5 rfl (lv_at hl 2 rfl) ?_
  obtain ⟨t3, h2, hf⟩ := xb hf
  obtain ⟨h2b, h2⟩ := xkb h2
  refine x_callV (As := [.int x1, .int x2]) (rest := []) (st1 := [.long t3]) S hw (c_Roster_wishCost h2) (cwV 2 S.2.2.2.2 gv_RR_262 rfl rfl rfl hd_Roster_wishCost ⟨Nat.le_of_ble_eq_true rfl, Nat.le_of_ble_eq_true rfl⟩) rfl h2b rfl hl.1 rfl rfl (Nat.le_of_ble_eq_true rfl) d_RR_costAround_6 ⟨Nat.le_of_ble_eq_true rfl, Nat.le_of_ble_eq_true rfl⟩ (fun H locs hw => ?_)
  refine lv_lstore_n (lv' := [(3, .long t3), (0, .ref a0), (1, .int x1), (2, .int x2)]) S.1 S.2.1 d_RR_costAround_9 rfl hl (by decide) rfl (fun ls hl => ?_)
  refine lv_iconst (v := 0) S.1 S.2.1 d_RR_costAround_10 (by decide) ?_
  refine lv_istore (lv' := [(5, .int 0), (3, .long t3), (0, .ref a0), (1, .int x1), (2, .int x2)]) S.1 S.2.1 d_RR_costAround_11 hl (by decide) rfl (fun ls hl => ?_)
  exact w_RR_costAround_13 S hr hlocks  _ _ _ _ _ _ _ _ _ hw (lv_sub hl [2, 3, 4, 1, 0] rfl) hf
def f_RR_differenceBy (a0 : Nat) (x1 : Int32) (x2 : Int32) (x3 : Int32) (ω : xS) : Option (Int64 × xS) :=
  (xgr ω a0 11 1).bind fun t1 =>
  (xk ω t1 8 (f_Roster_letterOf t1 x1 x2 ω)).bind fun t3 =>
  (xk ω a0 11 (f_RR_costAround a0 x1 x2 ω)).bind fun t5 =>
  (xgr ω a0 11 1).bind fun t6 =>
  (xk ω t6 8 (f_Roster_setCell t6 x1 x2 x3 ω)).bind fun w9 =>
  (xk w9 a0 11 (f_RR_costAround a0 x1 x2 w9)).bind fun t11 =>
  (xgr w9 a0 11 1).bind fun t12 =>
  (xk w9 t12 8 (f_Roster_setCell t12 x1 x2 t3 w9)).bind fun w15 =>
  some ((t11 - t5), w15)
set_option maxHeartbeats 4000000 in
set_option maxRecDepth 100000 in
theorem c_RR_differenceBy {l : Launch} {E : xV} {z : Nat} {a0 : Nat} {x1 : Int32} {x2 : Int32} {x3 : Int32} {r : Int64} {ω1 : xS} {ω : xS} (hf : f_RR_differenceBy a0 x1 x2 x3 ω = some (r, ω1)) : xM l E y_RR_differenceBy ws_RR_differenceBy { frames := 5, cells := 0, slots := 0, locals := 125 } [.ref a0, .int x1, .int x2, .int x3] z ω (some (.long r)) z ω1 := by
  refine x_start (cc := b_RR_differenceBy) (maxL := 9) (ret := (some .long)) (by decide) rfl (Nat.le_of_ble_eq_true rfl) ?_
  intro p e s m below meth c S hr hlocks hin ls hl hw
  have hl : lv_has ls 9 [(0, .ref a0), (1, .int x1), (2, .int x2), (3, .int x3)] := hl
  unfold f_RR_differenceBy at hf
  refine lv_aload_n S.1 S.2.1 d_RR_differenceBy_0 rfl (lv_at hl 0 rfl) ?_
  obtain ⟨t1, ht1, hf⟩ := xb hf
  refine x_getr S hw lk_RR_53 ht1 d_RR_differenceBy_1 ?_
  refine lv_iload_n S.1 S.2.1 d_RR_differenceBy_4 rfl (lv_at hl 1 rfl) ?_
  refine lv_iload_n S.1 S.2.1 d_RR_differenceBy_5 rfl (lv_at hl 2 rfl) ?_
  obtain ⟨t3, h2, hf⟩ := xb hf
  obtain ⟨h2b, h2⟩ := xkb h2
  refine x_callV (As := [.int x1, .int x2]) (rest := []) (st1 := [.int t3]) S hw (c_Roster_letterOf h2) (cwV 2 S.2.2.2.2 gv_RR_135 rfl rfl rfl hd_Roster_letterOf ⟨Nat.le_of_ble_eq_true rfl, Nat.le_of_ble_eq_true rfl⟩) rfl h2b rfl hl.1 rfl rfl (Nat.le_of_ble_eq_true rfl) d_RR_differenceBy_6 ⟨Nat.le_of_ble_eq_true rfl, Nat.le_of_ble_eq_true rfl⟩ (fun H locs hw => ?_)
  refine lv_istore (lv' := [(4, .int t3), (0, .ref a0), (1, .int x1), (2, .int x2), (3, .int x3)]) S.1 S.2.1 d_RR_differenceBy_9 hl (by decide) rfl (fun ls hl => ?_)
  refine lv_aload_n S.1 S.2.1 d_RR_differenceBy_11 rfl (lv_at hl 1 rfl) ?_
  refine lv_iload_n S.1 S.2.1 d_RR_differenceBy_12 rfl (lv_at hl 2 rfl) ?_
  refine lv_iload_n S.1 S.2.1 d_RR_differenceBy_13 rfl (lv_at hl 3 rfl) ?_
  obtain ⟨t5, h4, hf⟩ := xb hf
  obtain ⟨h4b, h4⟩ := xkb h4
  refine x_callV (As := [.int x1, .int x2]) (rest := []) (st1 := [.long t5]) S hw (c_RR_costAround h4) (cwV 2 S.2.2.2.2 gv_RR_270 rfl rfl rfl hd_RR_costAround ⟨Nat.le_of_ble_eq_true rfl, Nat.le_of_ble_eq_true rfl⟩) rfl h4b rfl hl.1 rfl rfl (Nat.le_of_ble_eq_true rfl) d_RR_differenceBy_14 ⟨Nat.le_of_ble_eq_true rfl, Nat.le_of_ble_eq_true rfl⟩ (fun H locs hw => ?_)
  refine lv_lstore (lv' := [(5, .long t5), (4, .int t3), (0, .ref a0), (1, .int x1), (2, .int x2), (3, .int x3)]) S.1 S.2.1 d_RR_differenceBy_17 hl (by decide) rfl (fun ls hl => ?_)
  refine lv_aload_n S.1 S.2.1 d_RR_differenceBy_19 rfl (lv_at hl 2 rfl) ?_
  obtain ⟨t6, ht6, hf⟩ := xb hf
  refine x_getr S hw lk_RR_53 ht6 d_RR_differenceBy_20 ?_
  refine lv_iload_n S.1 S.2.1 d_RR_differenceBy_23 rfl (lv_at hl 3 rfl) ?_
  refine lv_iload_n S.1 S.2.1 d_RR_differenceBy_24 rfl (lv_at hl 4 rfl) ?_
  refine lv_iload_n S.1 S.2.1 d_RR_differenceBy_25 rfl (lv_at hl 5 rfl) ?_
  obtain ⟨w9, h7, hf⟩ := xb hf
  obtain ⟨h7b, h7⟩ := xkb h7
  refine x_callV (As := [.int x1, .int x2, .int x3]) (rest := []) (st1 := []) S hw (c_Roster_setCell h7) (cwV 3 S.2.2.2.2 gv_RR_162 rfl rfl rfl hd_Roster_setCell ⟨Nat.le_of_ble_eq_true rfl, Nat.le_of_ble_eq_true rfl⟩) rfl h7b rfl hl.1 rfl rfl (Nat.le_of_ble_eq_true rfl) d_RR_differenceBy_26 ⟨Nat.le_of_ble_eq_true rfl, Nat.le_of_ble_eq_true rfl⟩ (fun H locs hw => ?_)
  refine lv_aload_n S.1 S.2.1 d_RR_differenceBy_29 rfl (lv_at hl 2 rfl) ?_
  refine lv_iload_n S.1 S.2.1 d_RR_differenceBy_30 rfl (lv_at hl 3 rfl) ?_
  refine lv_iload_n S.1 S.2.1 d_RR_differenceBy_31 rfl (lv_at hl 4 rfl) ?_
  obtain ⟨t11, h10, hf⟩ := xb hf
  obtain ⟨h10b, h10⟩ := xkb h10
  refine x_callV (As := [.int x1, .int x2]) (rest := []) (st1 := [.long t11]) S hw (c_RR_costAround h10) (cwV 2 S.2.2.2.2 gv_RR_270 rfl rfl rfl hd_RR_costAround ⟨Nat.le_of_ble_eq_true rfl, Nat.le_of_ble_eq_true rfl⟩) rfl h10b rfl hl.1 rfl rfl (Nat.le_of_ble_eq_true rfl) d_RR_differenceBy_32 ⟨Nat.le_of_ble_eq_true rfl, Nat.le_of_ble_eq_true rfl⟩ (fun H locs hw => ?_)
  refine lv_lstore (lv' := [(7, .long t11), (5, .long t5), (4, .int t3), (0, .ref a0), (1, .int x1), (2, .int x2), (3, .int x3)]) S.1 S.2.1 d_RR_differenceBy_35 hl (by decide) rfl (fun ls hl => ?_)
  refine lv_aload_n S.1 S.2.1 d_RR_differenceBy_37 rfl (lv_at hl 3 rfl) ?_
  obtain ⟨t12, ht12, hf⟩ := xb hf
  refine x_getr S hw lk_RR_53 ht12 d_RR_differenceBy_38 ?_
  refine lv_iload_n S.1 S.2.1 d_RR_differenceBy_41 rfl (lv_at hl 4 rfl) ?_
  refine lv_iload_n S.1 S.2.1 d_RR_differenceBy_42 rfl (lv_at hl 5 rfl) ?_
  refine lv_iload S.1 S.2.1 d_RR_differenceBy_43 (lv_at hl 2 rfl) ?_
  obtain ⟨w15, h13, hf⟩ := xb hf
  obtain ⟨h13b, h13⟩ := xkb h13
  refine x_callV (As := [.int x1, .int x2, .int t3]) (rest := []) (st1 := []) S hw (c_Roster_setCell h13) (cwV 3 S.2.2.2.2 gv_RR_162 rfl rfl rfl hd_Roster_setCell ⟨Nat.le_of_ble_eq_true rfl, Nat.le_of_ble_eq_true rfl⟩) rfl h13b rfl hl.1 rfl rfl (Nat.le_of_ble_eq_true rfl) d_RR_differenceBy_45 ⟨Nat.le_of_ble_eq_true rfl, Nat.le_of_ble_eq_true rfl⟩ (fun H locs hw => ?_)
  refine lv_lload S.1 S.2.1 d_RR_differenceBy_48 (lv_at hl 0 rfl) ?_
  refine lv_lload S.1 S.2.1 d_RR_differenceBy_50 (lv_at hl 1 rfl) ?_
  refine lv_lsub S.1 S.2.1 d_RR_differenceBy_52 ?_
  obtain ⟨rfl, rfl⟩ := xe2 hf
  exact x_lret S hr hlocks hw d_RR_differenceBy_53
def f_RR_keepCell (a0 : Nat) (x1 : Int32) (x2 : Int32) (x3 : Int32) (ω : xS) : Option xS :=
  (xgr ω a0 11 3).bind fun t1 =>
  (xgr ω a0 11 1).bind fun t2 =>
  (xk ω t2 8 (f_Roster_letterOf t2 x1 x2 ω)).bind fun t4 =>
  (xk ω t1 2 (f_History_keep t1 x1 x2 t4 ω)).bind fun w7 =>
  (xgr w7 a0 11 1).bind fun t8 =>
  (xk w7 t8 8 (f_Roster_setCell t8 x1 x2 x3 w7)).bind fun w11 =>
  some w11
set_option maxHeartbeats 4000000 in
set_option maxRecDepth 100000 in
theorem c_RR_keepCell {l : Launch} {E : xV} {z : Nat} {a0 : Nat} {x1 : Int32} {x2 : Int32} {x3 : Int32} {ω1 : xS} {ω : xS} (hf : f_RR_keepCell a0 x1 x2 x3 ω = some ω1) : xM l E y_RR_keepCell ws_RR_keepCell { frames := 2, cells := 0, slots := 0, locals := 47 } [.ref a0, .int x1, .int x2, .int x3] z ω none z ω1 := by
  refine x_start (cc := b_RR_keepCell) (maxL := 4) (ret := none) (by decide) rfl (Nat.le_of_ble_eq_true rfl) ?_
  intro p e s m below meth c S hr hlocks hin ls hl hw
  have hl : lv_has ls 4 [(0, .ref a0), (1, .int x1), (2, .int x2), (3, .int x3)] := hl
  unfold f_RR_keepCell at hf
  refine lv_aload_n S.1 S.2.1 d_RR_keepCell_0 rfl (lv_at hl 0 rfl) ?_
  obtain ⟨t1, ht1, hf⟩ := xb hf
  refine x_getr S hw lk_RR_19 ht1 d_RR_keepCell_1 ?_
  refine lv_iload_n S.1 S.2.1 d_RR_keepCell_4 rfl (lv_at hl 1 rfl) ?_
  refine lv_iload_n S.1 S.2.1 d_RR_keepCell_5 rfl (lv_at hl 2 rfl) ?_
  refine lv_aload_n S.1 S.2.1 d_RR_keepCell_6 rfl (lv_at hl 0 rfl) ?_
  obtain ⟨t2, ht2, hf⟩ := xb hf
  refine x_getr S hw lk_RR_53 ht2 d_RR_keepCell_7 ?_
  refine lv_iload_n S.1 S.2.1 d_RR_keepCell_10 rfl (lv_at hl 1 rfl) ?_
  refine lv_iload_n S.1 S.2.1 d_RR_keepCell_11 rfl (lv_at hl 2 rfl) ?_
  obtain ⟨t4, h3, hf⟩ := xb hf
  obtain ⟨h3b, h3⟩ := xkb h3
  refine x_callV (As := [.int x1, .int x2]) (rest := [.int x2, .int x1, .ref t1]) (st1 := [.int t4, .int x2, .int x1, .ref t1]) S hw (c_Roster_letterOf h3) (cwV 2 S.2.2.2.2 gv_RR_135 rfl rfl rfl hd_Roster_letterOf ⟨Nat.le_of_ble_eq_true rfl, Nat.le_of_ble_eq_true rfl⟩) rfl h3b rfl hl.1 rfl rfl (Nat.le_of_ble_eq_true rfl) d_RR_keepCell_12 ⟨Nat.le_of_ble_eq_true rfl, Nat.le_of_ble_eq_true rfl⟩ (fun H locs hw => ?_)
  obtain ⟨w7, h5, hf⟩ := xb hf
  obtain ⟨h5b, h5⟩ := xkb h5
  refine x_callV (As := [.int x1, .int x2, .int t4]) (rest := []) (st1 := []) S hw (c_History_keep h5) (cwV 3 S.2.2.2.2 gv_RR_273 rfl rfl rfl hd_History_keep ⟨Nat.le_of_ble_eq_true rfl, Nat.le_of_ble_eq_true rfl⟩) rfl h5b rfl hl.1 rfl rfl (Nat.le_of_ble_eq_true rfl) d_RR_keepCell_15 ⟨Nat.le_of_ble_eq_true rfl, Nat.le_of_ble_eq_true rfl⟩ (fun H locs hw => ?_)
  refine lv_aload_n S.1 S.2.1 d_RR_keepCell_18 rfl (lv_at hl 0 rfl) ?_
  obtain ⟨t8, ht8, hf⟩ := xb hf
  refine x_getr S hw lk_RR_53 ht8 d_RR_keepCell_19 ?_
  refine lv_iload_n S.1 S.2.1 d_RR_keepCell_22 rfl (lv_at hl 1 rfl) ?_
  refine lv_iload_n S.1 S.2.1 d_RR_keepCell_23 rfl (lv_at hl 2 rfl) ?_
  refine lv_iload_n S.1 S.2.1 d_RR_keepCell_24 rfl (lv_at hl 3 rfl) ?_
  obtain ⟨w11, h9, hf⟩ := xb hf
  obtain ⟨h9b, h9⟩ := xkb h9
  refine x_callV (As := [.int x1, .int x2, .int x3]) (rest := []) (st1 := []) S hw (c_Roster_setCell h9) (cwV 3 S.2.2.2.2 gv_RR_162 rfl rfl rfl hd_Roster_setCell ⟨Nat.le_of_ble_eq_true rfl, Nat.le_of_ble_eq_true rfl⟩) rfl h9b rfl hl.1 rfl rfl (Nat.le_of_ble_eq_true rfl) d_RR_keepCell_25 ⟨Nat.le_of_ble_eq_true rfl, Nat.le_of_ble_eq_true rfl⟩ (fun H locs hw => ?_)
  cases hf
  exact x_vret S hr hlocks hw d_RR_keepCell_28
def f_RR_put (a0 : Nat) (x1 : Int32) (x2 : Int32) (x3 : Int32) (ω : xS) : Option (Int64 × xS) :=
  (xk ω a0 11 (f_RR_isCell a0 x1 x2 ω)).bind fun t2 =>
  if t2 = 0 then (
    some (4611686018427387904, ω))
  else (
    (xk ω a0 11 (f_RR_isShiftOrOff a0 x3 ω)).bind fun t5 =>
    if t5 = 0 then (
      some (4611686018427387904, ω))
    else (
      xc (xk ω a0 11 (f_RR_differenceBy a0 x1 x2 (x3 + 1) ω)) fun t8 w9 =>
      (xk w9 a0 11 (f_RR_keepCell a0 x1 x2 (x3 + 1) w9)).bind fun w12 =>
      some (t8, w12)))
set_option maxHeartbeats 4000000 in
set_option maxRecDepth 100000 in
theorem c_RR_put {l : Launch} {E : xV} {z : Nat} {a0 : Nat} {x1 : Int32} {x2 : Int32} {x3 : Int32} {r : Int64} {ω1 : xS} {ω : xS} (hf : f_RR_put a0 x1 x2 x3 ω = some (r, ω1)) : xM l E y_RR_put ws_RR_put { frames := 6, cells := 0, slots := 0, locals := 153 } [.ref a0, .int x1, .int x2, .int x3] z ω (some (.long r)) z ω1 := by
  refine x_start (cc := b_RR_put) (maxL := 6) (ret := (some .long)) (by decide) rfl (Nat.le_of_ble_eq_true rfl) ?_
  intro p e s m below meth c S hr hlocks hin ls hl hw
  have hl : lv_has ls 6 [(0, .ref a0), (1, .int x1), (2, .int x2), (3, .int x3)] := hl
  unfold f_RR_put at hf
  refine lv_aload_n S.1 S.2.1 d_RR_put_0 rfl (lv_at hl 0 rfl) ?_
  refine lv_iload_n S.1 S.2.1 d_RR_put_1 rfl (lv_at hl 1 rfl) ?_
  refine lv_iload_n S.1 S.2.1 d_RR_put_2 rfl (lv_at hl 2 rfl) ?_
  obtain ⟨t2, h1, hf⟩ := xb hf
  obtain ⟨h1b, h1⟩ := xkb h1
  refine x_callV (As := [.int x1, .int x2]) (rest := []) (st1 := [.int t2]) S hw (c_RR_isCell h1) (cwV 2 S.2.2.2.2 gv_RR_127 rfl rfl rfl hd_RR_isCell ⟨Nat.le_of_ble_eq_true rfl, Nat.le_of_ble_eq_true rfl⟩) rfl h1b rfl hl.1 rfl rfl (Nat.le_of_ble_eq_true rfl) d_RR_put_3 ⟨Nat.le_of_ble_eq_true rfl, Nat.le_of_ble_eq_true rfl⟩ (fun H locs hw => ?_)
  refine lv_if_eq (tgt := 17) S.1 S.2.1 d_RR_put_6 (by decide) (fun c3 => ?_) (fun c3 => ?_)
  · replace hf := xt c3 hf
    refine lv_ldc2 (v := 4611686018427387904) S.1 S.2.1 S.2.2.2.1 (S.2.2.2.2 _ wd_3_206) d_RR_put_17 ?_
    obtain ⟨rfl, rfl⟩ := xe2 hf
    exact x_lret S hr hlocks hw d_RR_put_20
  · replace hf := xf c3 hf
    refine lv_aload_n S.1 S.2.1 d_RR_put_9 rfl (lv_at hl 0 rfl) ?_
    refine lv_iload_n S.1 S.2.1 d_RR_put_10 rfl (lv_at hl 3 rfl) ?_
    obtain ⟨t5, h4, hf⟩ := xb hf
    obtain ⟨h4b, h4⟩ := xkb h4
    refine x_callV (As := [.int x3]) (rest := []) (st1 := [.int t5]) S hw (c_RR_isShiftOrOff h4) (cwV 1 S.2.2.2.2 gv_RR_120 rfl rfl rfl hd_RR_isShiftOrOff ⟨Nat.le_of_ble_eq_true rfl, Nat.le_of_ble_eq_true rfl⟩) rfl h4b rfl hl.1 rfl rfl (Nat.le_of_ble_eq_true rfl) d_RR_put_11 ⟨Nat.le_of_ble_eq_true rfl, Nat.le_of_ble_eq_true rfl⟩ (fun H locs hw => ?_)
    refine lv_if_ne (tgt := 21) S.1 S.2.1 d_RR_put_14 (by decide) (fun c6 => ?_) (fun c6 => ?_)
    · replace hf := xf c6 hf
      refine lv_aload_n S.1 S.2.1 d_RR_put_21 rfl (lv_at hl 0 rfl) ?_
      refine lv_iload_n S.1 S.2.1 d_RR_put_22 rfl (lv_at hl 1 rfl) ?_
      refine lv_iload_n S.1 S.2.1 d_RR_put_23 rfl (lv_at hl 2 rfl) ?_
      refine lv_iload_n S.1 S.2.1 d_RR_put_24 rfl (lv_at hl 3 rfl) ?_
      refine lv_iconst (v := 1) S.1 S.2.1 d_RR_put_25 (by decide) ?_
      refine lv_iadd S.1 S.2.1 d_RR_put_26 ?_
      obtain ⟨t8, w9, h7, hf⟩ := xcb hf
      obtain ⟨h7b, h7⟩ := xkb h7
      refine x_callV (As := [.int x1, .int x2, .int (x3 + 1)]) (rest := []) (st1 := [.long t8]) S hw (c_RR_differenceBy h7) (cwV 3 S.2.2.2.2 gv_RR_140 rfl rfl rfl hd_RR_differenceBy ⟨Nat.le_of_ble_eq_true rfl, Nat.le_of_ble_eq_true rfl⟩) rfl h7b rfl hl.1 rfl rfl (Nat.le_of_ble_eq_true rfl) d_RR_put_27 ⟨Nat.le_of_ble_eq_true rfl, Nat.le_of_ble_eq_true rfl⟩ (fun H locs hw => ?_)
      refine lv_lstore (lv' := [(4, .long t8), (0, .ref a0), (1, .int x1), (2, .int x2), (3, .int x3)]) S.1 S.2.1 d_RR_put_30 hl (by decide) rfl (fun ls hl => ?_)
      refine lv_aload_n S.1 S.2.1 d_RR_put_32 rfl (lv_at hl 1 rfl) ?_
      refine lv_iload_n S.1 S.2.1 d_RR_put_33 rfl (lv_at hl 2 rfl) ?_
      refine lv_iload_n S.1 S.2.1 d_RR_put_34 rfl (lv_at hl 3 rfl) ?_
      refine lv_iload_n S.1 S.2.1 d_RR_put_35 rfl (lv_at hl 4 rfl) ?_
      refine lv_iconst (v := 1) S.1 S.2.1 d_RR_put_36 (by decide) ?_
      refine lv_iadd S.1 S.2.1 d_RR_put_37 ?_
      obtain ⟨w12, h10, hf⟩ := xb hf
      obtain ⟨h10b, h10⟩ := xkb h10
      refine x_callV (As := [.int x1, .int x2, .int (x3 + 1)]) (rest := []) (st1 := []) S hw (c_RR_keepCell h10) (cwV 3 S.2.2.2.2 gv_RR_144 rfl rfl rfl hd_RR_keepCell ⟨Nat.le_of_ble_eq_true rfl, Nat.le_of_ble_eq_true rfl⟩) rfl h10b rfl hl.1 rfl rfl (Nat.le_of_ble_eq_true rfl) d_RR_put_38 ⟨Nat.le_of_ble_eq_true rfl, Nat.le_of_ble_eq_true rfl⟩ (fun H locs hw => ?_)
      refine lv_lload S.1 S.2.1 d_RR_put_41 (lv_at hl 0 rfl) ?_
      obtain ⟨rfl, rfl⟩ := xe2 hf
      exact x_lret S hr hlocks hw d_RR_put_43
    · replace hf := xt c6 hf
      refine lv_ldc2 (v := 4611686018427387904) S.1 S.2.1 S.2.2.2.1 (S.2.2.2.2 _ wd_3_206) d_RR_put_17 ?_
      obtain ⟨rfl, rfl⟩ := xe2 hf
      exact x_lret S hr hlocks hw d_RR_put_20
def f_RR_change (a0 : Nat) (x1 : Int32) (x2 : Int32) (x3 : Int32) (ω : xS) : Option (Int64 × xS) :=
  (xk ω a0 11 (f_RR_isCell a0 x1 x2 ω)).bind fun t2 =>
  if t2 = 0 then (
    some (4611686018427387904, ω))
  else (
    (xk ω a0 11 (f_RR_isShiftOrOff a0 x3 ω)).bind fun t5 =>
    if t5 = 0 then (
      some (4611686018427387904, ω))
    else (
      xc (xk ω a0 11 (f_RR_differenceBy a0 x1 x2 (x3 + 1) ω)) fun t8 w9 =>
      some (t8, w9)))
set_option maxHeartbeats 4000000 in
set_option maxRecDepth 100000 in
theorem c_RR_change {l : Launch} {E : xV} {z : Nat} {a0 : Nat} {x1 : Int32} {x2 : Int32} {x3 : Int32} {r : Int64} {ω1 : xS} {ω : xS} (hf : f_RR_change a0 x1 x2 x3 ω = some (r, ω1)) : xM l E y_RR_change ws_RR_change { frames := 6, cells := 0, slots := 0, locals := 153 } [.ref a0, .int x1, .int x2, .int x3] z ω (some (.long r)) z ω1 := by
  refine x_start (cc := b_RR_change) (maxL := 4) (ret := (some .long)) (by decide) rfl (Nat.le_of_ble_eq_true rfl) ?_
  intro p e s m below meth c S hr hlocks hin ls hl hw
  have hl : lv_has ls 4 [(0, .ref a0), (1, .int x1), (2, .int x2), (3, .int x3)] := hl
  unfold f_RR_change at hf
  refine lv_aload_n S.1 S.2.1 d_RR_change_0 rfl (lv_at hl 0 rfl) ?_
  refine lv_iload_n S.1 S.2.1 d_RR_change_1 rfl (lv_at hl 1 rfl) ?_
  refine lv_iload_n S.1 S.2.1 d_RR_change_2 rfl (lv_at hl 2 rfl) ?_
  obtain ⟨t2, h1, hf⟩ := xb hf
  obtain ⟨h1b, h1⟩ := xkb h1
  refine x_callV (As := [.int x1, .int x2]) (rest := []) (st1 := [.int t2]) S hw (c_RR_isCell h1) (cwV 2 S.2.2.2.2 gv_RR_127 rfl rfl rfl hd_RR_isCell ⟨Nat.le_of_ble_eq_true rfl, Nat.le_of_ble_eq_true rfl⟩) rfl h1b rfl hl.1 rfl rfl (Nat.le_of_ble_eq_true rfl) d_RR_change_3 ⟨Nat.le_of_ble_eq_true rfl, Nat.le_of_ble_eq_true rfl⟩ (fun H locs hw => ?_)
  refine lv_if_eq (tgt := 17) S.1 S.2.1 d_RR_change_6 (by decide) (fun c3 => ?_) (fun c3 => ?_)
  · replace hf := xt c3 hf
    refine lv_ldc2 (v := 4611686018427387904) S.1 S.2.1 S.2.2.2.1 (S.2.2.2.2 _ wd_3_206) d_RR_change_17 ?_
    obtain ⟨rfl, rfl⟩ := xe2 hf
    exact x_lret S hr hlocks hw d_RR_change_20
  · replace hf := xf c3 hf
    refine lv_aload_n S.1 S.2.1 d_RR_change_9 rfl (lv_at hl 0 rfl) ?_
    refine lv_iload_n S.1 S.2.1 d_RR_change_10 rfl (lv_at hl 3 rfl) ?_
    obtain ⟨t5, h4, hf⟩ := xb hf
    obtain ⟨h4b, h4⟩ := xkb h4
    refine x_callV (As := [.int x3]) (rest := []) (st1 := [.int t5]) S hw (c_RR_isShiftOrOff h4) (cwV 1 S.2.2.2.2 gv_RR_120 rfl rfl rfl hd_RR_isShiftOrOff ⟨Nat.le_of_ble_eq_true rfl, Nat.le_of_ble_eq_true rfl⟩) rfl h4b rfl hl.1 rfl rfl (Nat.le_of_ble_eq_true rfl) d_RR_change_11 ⟨Nat.le_of_ble_eq_true rfl, Nat.le_of_ble_eq_true rfl⟩ (fun H locs hw => ?_)
    refine lv_if_ne (tgt := 21) S.1 S.2.1 d_RR_change_14 (by decide) (fun c6 => ?_) (fun c6 => ?_)
    · replace hf := xf c6 hf
      refine lv_aload_n S.1 S.2.1 d_RR_change_21 rfl (lv_at hl 0 rfl) ?_
      refine lv_iload_n S.1 S.2.1 d_RR_change_22 rfl (lv_at hl 1 rfl) ?_
      refine lv_iload_n S.1 S.2.1 d_RR_change_23 rfl (lv_at hl 2 rfl) ?_
      refine lv_iload_n S.1 S.2.1 d_RR_change_24 rfl (lv_at hl 3 rfl) ?_
      refine lv_iconst (v := 1) S.1 S.2.1 d_RR_change_25 (by decide) ?_
      refine lv_iadd S.1 S.2.1 d_RR_change_26 ?_
      obtain ⟨t8, w9, h7, hf⟩ := xcb hf
      obtain ⟨h7b, h7⟩ := xkb h7
      refine x_callV (As := [.int x1, .int x2, .int (x3 + 1)]) (rest := []) (st1 := [.long t8]) S hw (c_RR_differenceBy h7) (cwV 3 S.2.2.2.2 gv_RR_140 rfl rfl rfl hd_RR_differenceBy ⟨Nat.le_of_ble_eq_true rfl, Nat.le_of_ble_eq_true rfl⟩) rfl h7b rfl hl.1 rfl rfl (Nat.le_of_ble_eq_true rfl) d_RR_change_27 ⟨Nat.le_of_ble_eq_true rfl, Nat.le_of_ble_eq_true rfl⟩ (fun H locs hw => ?_)
      obtain ⟨rfl, rfl⟩ := xe2 hf
      exact x_lret S hr hlocks hw d_RR_change_30
    · replace hf := xt c6 hf
      refine lv_ldc2 (v := 4611686018427387904) S.1 S.2.1 S.2.2.2.1 (S.2.2.2.2 _ wd_3_206) d_RR_change_17 ?_
      obtain ⟨rfl, rfl⟩ := xe2 hf
      exact x_lret S hr hlocks hw d_RR_change_20
def f_RR_undo (a0 : Nat) (ω : xS) : Option (Int32 × xS) :=
  (xgr ω a0 11 3).bind fun t1 =>
  (xgi ω t1 2 4).bind fun t2 =>
  if t2 = 0 then (
    some ((-2), ω))
  else (
    (xgr ω a0 11 3).bind fun t4 =>
    (xgi ω t4 2 3).bind fun t5 =>
    (xgr ω a0 11 1).bind fun t6 =>
    (xgr ω a0 11 3).bind fun t7 =>
    (xgr ω t7 2 0).bind fun t8 =>
    (xai ω t8 t5).bind fun t9 =>
    (xgr ω a0 11 3).bind fun t10 =>
    (xgr ω t10 2 1).bind fun t11 =>
    (xai ω t11 t5).bind fun t12 =>
    (xgr ω a0 11 3).bind fun t13 =>
    (xgr ω t13 2 2).bind fun t14 =>
    (xai ω t14 t5).bind fun t15 =>
    (xk ω t6 8 (f_Roster_setCell t6 t9 t12 t15 ω)).bind fun w18 =>
    (xgr w18 a0 11 3).bind fun t19 =>
    (xk w18 t19 2 (f_History_dropNewest t19  w18)).bind fun w22 =>
    (xgr w22 a0 11 3).bind fun t23 =>
    (xgi w22 t23 2 4).bind fun t24 =>
    some (t24, w22))
set_option maxHeartbeats 4000000 in
set_option maxRecDepth 100000 in
theorem c_RR_undo {l : Launch} {E : xV} {z : Nat} {a0 : Nat} {r : Int32} {ω1 : xS} {ω : xS} (hf : f_RR_undo a0 ω = some (r, ω1)) : xM l E y_RR_undo ws_RR_undo { frames := 2, cells := 0, slots := 0, locals := 46 } [.ref a0] z ω (some (.int r)) z ω1 := by
  refine x_start (cc := b_RR_undo) (maxL := 2) (ret := (some .int)) (by decide) rfl (Nat.le_of_ble_eq_true rfl) ?_
  intro p e s m below meth c S hr hlocks hin ls hl hw
  have hl : lv_has ls 2 [(0, .ref a0)] := hl
  unfold f_RR_undo at hf
  refine lv_aload_n S.1 S.2.1 d_RR_undo_0 rfl (lv_at hl 0 rfl) ?_
  obtain ⟨t1, ht1, hf⟩ := xb hf
  refine x_getr S hw lk_RR_19 ht1 d_RR_undo_1 ?_
  obtain ⟨t2, ht2, hf⟩ := xb hf
  refine x_geti S hw lk_RR_148 ht2 d_RR_undo_4 ?_
  refine lv_if_ne (tgt := 13) S.1 S.2.1 d_RR_undo_7 (by decide) (fun c3 => ?_) (fun c3 => ?_)
  · replace hf := xf c3 hf
    refine lv_aload_n S.1 S.2.1 d_RR_undo_13 rfl (lv_at hl 0 rfl) ?_
    obtain ⟨t4, ht4, hf⟩ := xb hf
    refine x_getr S hw lk_RR_19 ht4 d_RR_undo_14 ?_
    obtain ⟨t5, ht5, hf⟩ := xb hf
    refine x_geti S hw lk_RR_151 ht5 d_RR_undo_17 ?_
    refine lv_istore_n (lv' := [(1, .int t5), (0, .ref a0)]) S.1 S.2.1 d_RR_undo_20 rfl hl (by decide) rfl (fun ls hl => ?_)
    refine lv_aload_n S.1 S.2.1 d_RR_undo_21 rfl (lv_at hl 1 rfl) ?_
    obtain ⟨t6, ht6, hf⟩ := xb hf
    refine x_getr S hw lk_RR_53 ht6 d_RR_undo_22 ?_
    refine lv_aload_n S.1 S.2.1 d_RR_undo_25 rfl (lv_at hl 1 rfl) ?_
    obtain ⟨t7, ht7, hf⟩ := xb hf
    refine x_getr S hw lk_RR_19 ht7 d_RR_undo_26 ?_
    obtain ⟨t8, ht8, hf⟩ := xb hf
    refine x_getr S hw lk_RR_154 ht8 d_RR_undo_29 ?_
    refine lv_iload_n S.1 S.2.1 d_RR_undo_32 rfl (lv_at hl 0 rfl) ?_
    obtain ⟨t9, ht9, hf⟩ := xb hf
    refine x_iald S hw ht9 d_RR_undo_33 ?_
    refine lv_aload_n S.1 S.2.1 d_RR_undo_34 rfl (lv_at hl 1 rfl) ?_
    obtain ⟨t10, ht10, hf⟩ := xb hf
    refine x_getr S hw lk_RR_19 ht10 d_RR_undo_35 ?_
    obtain ⟨t11, ht11, hf⟩ := xb hf
    refine x_getr S hw lk_RR_157 ht11 d_RR_undo_38 ?_
    refine lv_iload_n S.1 S.2.1 d_RR_undo_41 rfl (lv_at hl 0 rfl) ?_
    obtain ⟨t12, ht12, hf⟩ := xb hf
    refine x_iald S hw ht12 d_RR_undo_42 ?_
    refine lv_aload_n S.1 S.2.1 d_RR_undo_43 rfl (lv_at hl 1 rfl) ?_
    obtain ⟨t13, ht13, hf⟩ := xb hf
    refine x_getr S hw lk_RR_19 ht13 d_RR_undo_44 ?_
    obtain ⟨t14, ht14, hf⟩ := xb hf
    refine x_getr S hw lk_RR_159 ht14 d_RR_undo_47 ?_
    refine lv_iload_n S.1 S.2.1 d_RR_undo_50 rfl (lv_at hl 0 rfl) ?_
    obtain ⟨t15, ht15, hf⟩ := xb hf
    refine x_iald S hw ht15 d_RR_undo_51 ?_
    obtain ⟨w18, h16, hf⟩ := xb hf
    obtain ⟨h16b, h16⟩ := xkb h16
    refine x_callV (As := [.int t9, .int t12, .int t15]) (rest := []) (st1 := []) S hw (c_Roster_setCell h16) (cwV 3 S.2.2.2.2 gv_RR_162 rfl rfl rfl hd_Roster_setCell ⟨Nat.le_of_ble_eq_true rfl, Nat.le_of_ble_eq_true rfl⟩) rfl h16b rfl hl.1 rfl rfl (Nat.le_of_ble_eq_true rfl) d_RR_undo_52 ⟨Nat.le_of_ble_eq_true rfl, Nat.le_of_ble_eq_true rfl⟩ (fun H locs hw => ?_)
    refine lv_aload_n S.1 S.2.1 d_RR_undo_55 rfl (lv_at hl 1 rfl) ?_
    obtain ⟨t19, ht19, hf⟩ := xb hf
    refine x_getr S hw lk_RR_19 ht19 d_RR_undo_56 ?_
    obtain ⟨w22, h20, hf⟩ := xb hf
    obtain ⟨h20b, h20⟩ := xkb h20
    refine x_callV (As := []) (rest := []) (st1 := []) S hw (c_History_dropNewest h20) (cwV 0 S.2.2.2.2 gv_RR_165 rfl rfl rfl hd_History_dropNewest ⟨Nat.le_of_ble_eq_true rfl, Nat.le_of_ble_eq_true rfl⟩) rfl h20b rfl hl.1 rfl rfl (Nat.le_of_ble_eq_true rfl) d_RR_undo_59 ⟨Nat.le_of_ble_eq_true rfl, Nat.le_of_ble_eq_true rfl⟩ (fun H locs hw => ?_)
    refine lv_aload_n S.1 S.2.1 d_RR_undo_62 rfl (lv_at hl 1 rfl) ?_
    obtain ⟨t23, ht23, hf⟩ := xb hf
    refine x_getr S hw lk_RR_19 ht23 d_RR_undo_63 ?_
    obtain ⟨t24, ht24, hf⟩ := xb hf
    refine x_geti S hw lk_RR_148 ht24 d_RR_undo_66 ?_
    obtain ⟨rfl, rfl⟩ := xe2 hf
    exact x_iret S hr hlocks hw d_RR_undo_69
  · replace hf := xt c3 hf
    refine lv_bipush (v := (-2)) S.1 S.2.1 d_RR_undo_10 (by decide) ?_
    obtain ⟨rfl, rfl⟩ := xe2 hf
    exact x_iret S hr hlocks hw d_RR_undo_12
def f_RR_bestLetter_19 : Nat → Nat → Int32 → Int32 → Int32 → Int32 → Int64 → Int32 → xS → Option (Int32 × xS)
  | 0, _, _, _, _, _, _, _, _ => none
  | n + 1, a0, x1, x2, x3, x4, x5, x7, ω =>
    if 9 ≤ x7 then (
      (xgr ω a0 11 1).bind fun t5 =>
      (xk ω t5 8 (f_Roster_setCell t5 x1 x2 x3 ω)).bind fun w8 =>
      some (x4, w8))
    else (
      (xgr ω a0 11 1).bind fun t9 =>
      (xk ω t9 8 (f_Roster_setCell t9 x1 x2 x7 ω)).bind fun w12 =>
      (xk w12 a0 11 (f_RR_costAround a0 x1 x2 w12)).bind fun t14 =>
      if x7 = 0 then (
        f_RR_bestLetter_19  n a0 x1 x2 x3 x7 t14 (x7 + 1) w12)
      else (
        if 0 ≤ (lg_cmp t14 x5) then (
          f_RR_bestLetter_19  n a0 x1 x2 x3 x4 x5 (x7 + 1) w12)
        else (
          f_RR_bestLetter_19  n a0 x1 x2 x3 x7 t14 (x7 + 1) w12)))
set_option maxHeartbeats 4000000 in
set_option maxRecDepth 100000 in
theorem w_RR_bestLetter_19 {p : Program} {l : Launch} {e : Env} {s : State} {m : MethodId} {args : Array Value} {below : List Frame} {meth : Method} {c : Code} {E : xV} {z : Nat} {r : Int32} {ω1 : xS} (S : CallFix p m c b_RR_bestLetter 10 s args xTbl "RosterRules") (hr : meth.sig.returnType = (some .int)) (hlocks : meth.locks = false) : ∀ n : Nat, ∀ (a0 : Nat) (x1 : Int32) (x2 : Int32) (x3 : Int32) (x4 : Int32) (x5 : Int64) (x7 : Int32) (ω : xS) (H : Heap) (locs : List Loc) (ls : Array Slot), xW E z ω s s.heap H locs → lv_has ls 10 [(0, .ref a0), (1, .int x1), (2, .int x2), (3, .int x3), (4, .int x4), (5, .long x5), (7, .int x7)] → f_RR_bestLetter_19 n a0 x1 x2 x3 x4 x5 x7 ω = some (r, ω1) → W p l e (headSpec ws_RR_bestLetter { frames := 5, cells := 0, slots := 0, locals := 125 }).room s m args below meth c H locs 0 0 (MQ below (xQ E (some (.int r)) z ω1) args s 0 0 (fun q => E.2.2 ≤ q)) (F0 m 19 ls []) := by
  intro n
  induction n with
  | zero =>
    intro a0 x1 x2 x3 x4 x5 x7 ω H locs ls hw hl hf
    have h2 : (none : Option (Int32 × xS)) = some (r, ω1) := hf
    cases h2
  | succ n ih =>
    intro a0 x1 x2 x3 x4 x5 x7 ω H locs ls hw hl hf
    rw [f_RR_bestLetter_19] at hf
    refine lv_iload S.1 S.2.1 d_RR_bestLetter_19 (lv_at hl 6 rfl) ?_
    refine lv_bipush (v := 9) S.1 S.2.1 d_RR_bestLetter_21 (by decide) ?_
    refine lv_icmp_ge (tgt := 72) S.1 S.2.1 d_RR_bestLetter_23 (by decide) (fun c4 => ?_) (fun c4 => ?_)
    · replace hf := xt c4 hf
      refine lv_aload_n S.1 S.2.1 d_RR_bestLetter_72 rfl (lv_at hl 0 rfl) ?_
      obtain ⟨t5, ht5, hf⟩ := xb hf
      refine x_getr S hw lk_RR_53 ht5 d_RR_bestLetter_73 ?_
      refine lv_iload_n S.1 S.2.1 d_RR_bestLetter_76 rfl (lv_at hl 1 rfl) ?_
      refine lv_iload_n S.1 S.2.1 d_RR_bestLetter_77 rfl (lv_at hl 2 rfl) ?_
      refine lv_iload_n S.1 S.2.1 d_RR_bestLetter_78 rfl (lv_at hl 3 rfl) ?_
      obtain ⟨w8, h6, hf⟩ := xb hf
      obtain ⟨h6b, h6⟩ := xkb h6
      refine x_callV (As := [.int x1, .int x2, .int x3]) (rest := []) (st1 := []) S hw (c_Roster_setCell h6) (cwV 3 S.2.2.2.2 gv_RR_162 rfl rfl rfl hd_Roster_setCell ⟨Nat.le_of_ble_eq_true rfl, Nat.le_of_ble_eq_true rfl⟩) rfl h6b rfl hl.1 rfl rfl (Nat.le_of_ble_eq_true rfl) d_RR_bestLetter_79 ⟨Nat.le_of_ble_eq_true rfl, Nat.le_of_ble_eq_true rfl⟩ (fun H locs hw => ?_)
      refine lv_iload S.1 S.2.1 d_RR_bestLetter_82 (lv_at hl 4 rfl) ?_
      obtain ⟨rfl, rfl⟩ := xe2 hf
      exact x_iret S hr hlocks hw d_RR_bestLetter_84
    · replace hf := xf c4 hf
      refine lv_aload_n S.1 S.2.1 d_RR_bestLetter_26 rfl (lv_at hl 0 rfl) ?_
      obtain ⟨t9, ht9, hf⟩ := xb hf
      refine x_getr S hw lk_RR_53 ht9 d_RR_bestLetter_27 ?_
      refine lv_iload_n S.1 S.2.1 d_RR_bestLetter_30 rfl (lv_at hl 1 rfl) ?_
      refine lv_iload_n S.1 S.2.1 d_RR_bestLetter_31 rfl (lv_at hl 2 rfl) ?_
      refine lv_iload S.1 S.2.1 d_RR_bestLetter_32 (lv_at hl 6 rfl) ?_
      obtain ⟨w12, h10, hf⟩ := xb hf
      obtain ⟨h10b, h10⟩ := xkb h10
      refine x_callV (As := [.int x1, .int x2, .int x7]) (rest := []) (st1 := []) S hw (c_Roster_setCell h10) (cwV 3 S.2.2.2.2 gv_RR_162 rfl rfl rfl hd_Roster_setCell ⟨Nat.le_of_ble_eq_true rfl, Nat.le_of_ble_eq_true rfl⟩) rfl h10b rfl hl.1 rfl rfl (Nat.le_of_ble_eq_true rfl) d_RR_bestLetter_34 ⟨Nat.le_of_ble_eq_true rfl, Nat.le_of_ble_eq_true rfl⟩ (fun H locs hw => ?_)
      refine lv_aload_n S.1 S.2.1 d_RR_bestLetter_37 rfl (lv_at hl 0 rfl) ?_
      refine lv_iload_n S.1 S.2.1 d_RR_bestLetter_38 rfl (lv_at hl 1 rfl) ?_
      refine lv_iload_n S.1 S.2.1 d_RR_bestLetter_39 rfl (lv_at hl 2 rfl) ?_
      obtain ⟨t14, h13, hf⟩ := xb hf
      obtain ⟨h13b, h13⟩ := xkb h13
      refine x_callV (As := [.int x1, .int x2]) (rest := []) (st1 := [.long t14]) S hw (c_RR_costAround h13) (cwV 2 S.2.2.2.2 gv_RR_270 rfl rfl rfl hd_RR_costAround ⟨Nat.le_of_ble_eq_true rfl, Nat.le_of_ble_eq_true rfl⟩) rfl h13b rfl hl.1 rfl rfl (Nat.le_of_ble_eq_true rfl) d_RR_bestLetter_40 ⟨Nat.le_of_ble_eq_true rfl, Nat.le_of_ble_eq_true rfl⟩ (fun H locs hw => ?_)
      refine lv_lstore (lv' := [(8, .long t14), (0, .ref a0), (1, .int x1), (2, .int x2), (3, .int x3), (4, .int x4), (5, .long x5), (7, .int x7)]) S.1 S.2.1 d_RR_bestLetter_43 hl (by decide) rfl (fun ls hl => ?_)
      refine lv_iload S.1 S.2.1 d_RR_bestLetter_45 (lv_at hl 7 rfl) ?_
      refine lv_if_eq (tgt := 58) S.1 S.2.1 d_RR_bestLetter_47 (by decide) (fun c15 => ?_) (fun c15 => ?_)
      · replace hf := xt c15 hf
        refine lv_lload S.1 S.2.1 d_RR_bestLetter_58 (lv_at hl 0 rfl) ?_
        refine lv_lstore (lv' := [(5, .long t14), (8, .long t14), (0, .ref a0), (1, .int x1), (2, .int x2), (3, .int x3), (4, .int x4), (7, .int x7)]) S.1 S.2.1 d_RR_bestLetter_60 hl (by decide) rfl (fun ls hl => ?_)
        refine lv_iload S.1 S.2.1 d_RR_bestLetter_62 (lv_at hl 7 rfl) ?_
        refine lv_istore (lv' := [(4, .int x7), (5, .long t14), (8, .long t14), (0, .ref a0), (1, .int x1), (2, .int x2), (3, .int x3), (7, .int x7)]) S.1 S.2.1 d_RR_bestLetter_64 hl (by decide) rfl (fun ls hl => ?_)
        refine lv_iinc (v := (x7 + 1)) (lv' := [(7, .int (x7 + 1)), (4, .int x7), (5, .long t14), (8, .long t14), (0, .ref a0), (1, .int x1), (2, .int x2), (3, .int x3)]) S.1 S.2.1 d_RR_bestLetter_66 hl (k := 7) rfl rfl (by decide) rfl (fun ls hl => ?_)
        refine lv_goto (tgt := 19) S.1 S.2.1 d_RR_bestLetter_69 (by decide) ?_
        exact ih _ _ _ _ _ _ _ _ _ _ _ hw (lv_sub hl [4, 5, 6, 7, 1, 2, 0] rfl) hf
      · replace hf := xf c15 hf
        refine lv_lload S.1 S.2.1 d_RR_bestLetter_50 (lv_at hl 0 rfl) ?_
        refine lv_lload S.1 S.2.1 d_RR_bestLetter_52 (lv_at hl 6 rfl) ?_
        refine W.lcmp S.1 S.2.1 d_RR_bestLetter_54 ?_
        refine lv_if_ge (tgt := 66) S.1 S.2.1 d_RR_bestLetter_55 (by decide) (fun c16 => ?_) (fun c16 => ?_)
        · replace hf := xt c16 hf
          refine lv_iinc (v := (x7 + 1)) (lv' := [(7, .int (x7 + 1)), (8, .long t14), (0, .ref a0), (1, .int x1), (2, .int x2), (3, .int x3), (4, .int x4), (5, .long x5)]) S.1 S.2.1 d_RR_bestLetter_66 hl (k := 7) rfl rfl (by decide) rfl (fun ls hl => ?_)
          refine lv_goto (tgt := 19) S.1 S.2.1 d_RR_bestLetter_69 (by decide) ?_
          exact ih _ _ _ _ _ _ _ _ _ _ _ hw (lv_sub hl [2, 3, 4, 5, 6, 7, 0] rfl) hf
        · replace hf := xf c16 hf
          refine lv_lload S.1 S.2.1 d_RR_bestLetter_58 (lv_at hl 0 rfl) ?_
          refine lv_lstore (lv' := [(5, .long t14), (8, .long t14), (0, .ref a0), (1, .int x1), (2, .int x2), (3, .int x3), (4, .int x4), (7, .int x7)]) S.1 S.2.1 d_RR_bestLetter_60 hl (by decide) rfl (fun ls hl => ?_)
          refine lv_iload S.1 S.2.1 d_RR_bestLetter_62 (lv_at hl 7 rfl) ?_
          refine lv_istore (lv' := [(4, .int x7), (5, .long t14), (8, .long t14), (0, .ref a0), (1, .int x1), (2, .int x2), (3, .int x3), (7, .int x7)]) S.1 S.2.1 d_RR_bestLetter_64 hl (by decide) rfl (fun ls hl => ?_)
          refine lv_iinc (v := (x7 + 1)) (lv' := [(7, .int (x7 + 1)), (4, .int x7), (5, .long t14), (8, .long t14), (0, .ref a0), (1, .int x1), (2, .int x2), (3, .int x3)]) S.1 S.2.1 d_RR_bestLetter_66 hl (k := 7) rfl rfl (by decide) rfl (fun ls hl => ?_)
          refine lv_goto (tgt := 19) S.1 S.2.1 d_RR_bestLetter_69 (by decide) ?_
          exact ih _ _ _ _ _ _ _ _ _ _ _ hw (lv_sub hl [4, 5, 6, 7, 1, 2, 0] rfl) hf
def f_RR_bestLetter (a0 : Nat) (x1 : Int32) (x2 : Int32) (ω : xS) : Option (Int32 × xS) :=
  (xgr ω a0 11 1).bind fun t1 =>
  (xk ω t1 8 (f_Roster_letterOf t1 x1 x2 ω)).bind fun t3 =>
  f_RR_bestLetter_19  xFU a0 x1 x2 t3 0 0 0 ω
set_option maxHeartbeats 4000000 in
set_option maxRecDepth 100000 in
theorem c_RR_bestLetter {l : Launch} {E : xV} {z : Nat} {a0 : Nat} {x1 : Int32} {x2 : Int32} {r : Int32} {ω1 : xS} {ω : xS} (hf : f_RR_bestLetter a0 x1 x2 ω = some (r, ω1)) : xM l E y_RR_bestLetter ws_RR_bestLetter { frames := 5, cells := 0, slots := 0, locals := 125 } [.ref a0, .int x1, .int x2] z ω (some (.int r)) z ω1 := by
  refine x_start (cc := b_RR_bestLetter) (maxL := 10) (ret := (some .int)) (by decide) rfl (Nat.le_of_ble_eq_true rfl) ?_
  intro p e s m below meth c S hr hlocks hin ls hl hw
  have hl : lv_has ls 10 [(0, .ref a0), (1, .int x1), (2, .int x2)] := hl
  unfold f_RR_bestLetter at hf
  refine lv_aload_n S.1 S.2.1 d_RR_bestLetter_0 rfl (lv_at hl 0 rfl) ?_
  obtain ⟨t1, ht1, hf⟩ := xb hf
  refine x_getr S hw lk_RR_53 ht1 d_RR_bestLetter_1 ?_
  refine lv_iload_n S.1 S.2.1 d_RR_bestLetter_4 rfl (lv_at hl 1 rfl) ?_
  refine lv_iload_n S.1 S.2.1 d_RR_bestLetter_5 rfl (lv_at hl 2 rfl) ?_
  obtain ⟨t3, h2, hf⟩ := xb hf
  obtain ⟨h2b, h2⟩ := xkb h2
  refine x_callV (As := [.int x1, .int x2]) (rest := []) (st1 := [.int t3]) S hw (c_Roster_letterOf h2) (cwV 2 S.2.2.2.2 gv_RR_135 rfl rfl rfl hd_Roster_letterOf ⟨Nat.le_of_ble_eq_true rfl, Nat.le_of_ble_eq_true rfl⟩) rfl h2b rfl hl.1 rfl rfl (Nat.le_of_ble_eq_true rfl) d_RR_bestLetter_6 ⟨Nat.le_of_ble_eq_true rfl, Nat.le_of_ble_eq_true rfl⟩ (fun H locs hw => ?_)
  refine lv_istore_n (lv' := [(3, .int t3), (0, .ref a0), (1, .int x1), (2, .int x2)]) S.1 S.2.1 d_RR_bestLetter_9 rfl hl (by decide) rfl (fun ls hl => ?_)
  refine lv_iconst (v := 0) S.1 S.2.1 d_RR_bestLetter_10 (by decide) ?_
  refine lv_istore (lv' := [(4, .int 0), (3, .int t3), (0, .ref a0), (1, .int x1), (2, .int x2)]) S.1 S.2.1 d_RR_bestLetter_11 hl (by decide) rfl (fun ls hl => ?_)
  refine lv_lconst (v := 0) S.1 S.2.1 d_RR_bestLetter_13 (by decide) ?_
  refine lv_lstore (lv' := [(5, .long 0), (4, .int 0), (3, .int t3), (0, .ref a0), (1, .int x1), (2, .int x2)]) S.1 S.2.1 d_RR_bestLetter_14 hl (by decide) rfl (fun ls hl => ?_)
  refine lv_iconst (v := 0) S.1 S.2.1 d_RR_bestLetter_16 (by decide) ?_
  refine lv_istore (lv' := [(7, .int 0), (5, .long 0), (4, .int 0), (3, .int t3), (0, .ref a0), (1, .int x1), (2, .int x2)]) S.1 S.2.1 d_RR_bestLetter_17 hl (by decide) rfl (fun ls hl => ?_)
  exact w_RR_bestLetter_19 S hr hlocks  _ _ _ _ _ _ _ _ _ _ _ _ hw (lv_sub hl [4, 5, 6, 3, 2, 1, 0] rfl) hf
def f_RR_best (a0 : Nat) (x1 : Int32) (x2 : Int32) (ω : xS) : Option (Int32 × xS) :=
  (xk ω a0 11 (f_RR_isCell a0 x1 x2 ω)).bind fun t2 =>
  if t2 = 0 then (
    some ((-9), ω))
  else (
    xc (xk ω a0 11 (f_RR_bestLetter a0 x1 x2 ω)) fun t5 w6 =>
    some ((t5 - 1), w6))
set_option maxHeartbeats 4000000 in
set_option maxRecDepth 100000 in
theorem c_RR_best {l : Launch} {E : xV} {z : Nat} {a0 : Nat} {x1 : Int32} {x2 : Int32} {r : Int32} {ω1 : xS} {ω : xS} (hf : f_RR_best a0 x1 x2 ω = some (r, ω1)) : xM l E y_RR_best ws_RR_best { frames := 6, cells := 0, slots := 0, locals := 154 } [.ref a0, .int x1, .int x2] z ω (some (.int r)) z ω1 := by
  refine x_start (cc := b_RR_best) (maxL := 3) (ret := (some .int)) (by decide) rfl (Nat.le_of_ble_eq_true rfl) ?_
  intro p e s m below meth c S hr hlocks hin ls hl hw
  have hl : lv_has ls 3 [(0, .ref a0), (1, .int x1), (2, .int x2)] := hl
  unfold f_RR_best at hf
  refine lv_aload_n S.1 S.2.1 d_RR_best_0 rfl (lv_at hl 0 rfl) ?_
  refine lv_iload_n S.1 S.2.1 d_RR_best_1 rfl (lv_at hl 1 rfl) ?_
  refine lv_iload_n S.1 S.2.1 d_RR_best_2 rfl (lv_at hl 2 rfl) ?_
  obtain ⟨t2, h1, hf⟩ := xb hf
  obtain ⟨h1b, h1⟩ := xkb h1
  refine x_callV (As := [.int x1, .int x2]) (rest := []) (st1 := [.int t2]) S hw (c_RR_isCell h1) (cwV 2 S.2.2.2.2 gv_RR_127 rfl rfl rfl hd_RR_isCell ⟨Nat.le_of_ble_eq_true rfl, Nat.le_of_ble_eq_true rfl⟩) rfl h1b rfl hl.1 rfl rfl (Nat.le_of_ble_eq_true rfl) d_RR_best_3 ⟨Nat.le_of_ble_eq_true rfl, Nat.le_of_ble_eq_true rfl⟩ (fun H locs hw => ?_)
  refine lv_if_eq (tgt := 20) S.1 S.2.1 d_RR_best_6 (by decide) (fun c3 => ?_) (fun c3 => ?_)
  · replace hf := xt c3 hf
    refine lv_bipush (v := (-9)) S.1 S.2.1 d_RR_best_20 (by decide) ?_
    obtain ⟨rfl, rfl⟩ := xe2 hf
    exact x_iret S hr hlocks hw d_RR_best_22
  · replace hf := xf c3 hf
    refine lv_aload_n S.1 S.2.1 d_RR_best_9 rfl (lv_at hl 0 rfl) ?_
    refine lv_iload_n S.1 S.2.1 d_RR_best_10 rfl (lv_at hl 1 rfl) ?_
    refine lv_iload_n S.1 S.2.1 d_RR_best_11 rfl (lv_at hl 2 rfl) ?_
    obtain ⟨t5, w6, h4, hf⟩ := xcb hf
    obtain ⟨h4b, h4⟩ := xkb h4
    refine x_callV (As := [.int x1, .int x2]) (rest := []) (st1 := [.int t5]) S hw (c_RR_bestLetter h4) (cwV 2 S.2.2.2.2 gv_RR_168 rfl rfl rfl hd_RR_bestLetter ⟨Nat.le_of_ble_eq_true rfl, Nat.le_of_ble_eq_true rfl⟩) rfl h4b rfl hl.1 rfl rfl (Nat.le_of_ble_eq_true rfl) d_RR_best_12 ⟨Nat.le_of_ble_eq_true rfl, Nat.le_of_ble_eq_true rfl⟩ (fun H locs hw => ?_)
    refine lv_iconst (v := 1) S.1 S.2.1 d_RR_best_15 (by decide) ?_
    refine lv_isub S.1 S.2.1 d_RR_best_16 ?_
    refine lv_goto (tgt := 22) S.1 S.2.1 d_RR_best_17 (by decide) ?_
    obtain ⟨rfl, rfl⟩ := xe2 hf
    exact x_iret S hr hlocks hw d_RR_best_22
def f_RR_stepDown_28 (k13 : Nat → Int64 → Int32 → Int32 → Int32 → Int32 → xS → Option (Int32 × xS)) : Nat → Nat → Int64 → Int32 → Int32 → Int32 → Int32 → Int32 → xS → Option (Int32 × xS)
  | 0, _, _, _, _, _, _, _, _ => none
  | n + 1, a0, x1, x3, x4, x5, x6, x7, ω =>
    (xgr ω a0 11 1).bind fun t10 =>
    (xgi ω t10 8 1).bind fun t11 =>
    if t11 ≤ x7 then (
      k13 a0 x1 x3 x4 x5 (x6 + 1) ω)
    else (
      xc (xk ω a0 11 (f_RR_bestLetter a0 x6 x7 ω)) fun t14 w15 =>
      xc (xk w15 a0 11 (f_RR_differenceBy a0 x6 x7 t14 w15)) fun t17 w18 =>
      if 0 ≤ (lg_cmp t17 x1) then (
        f_RR_stepDown_28 k13 n a0 x1 x3 x4 x5 x6 (x7 + 1) w18)
      else (
        f_RR_stepDown_28 k13 n a0 t17 x6 x7 t14 x6 (x7 + 1) w18))
set_option maxHeartbeats 4000000 in
set_option maxRecDepth 100000 in
theorem w_RR_stepDown_28 {p : Program} {l : Launch} {e : Env} {s : State} {m : MethodId} {args : Array Value} {below : List Frame} {meth : Method} {c : Code} {E : xV} {z : Nat} {r : Int32} {ω1 : xS} {k13 : Nat → Int64 → Int32 → Int32 → Int32 → Int32 → xS → Option (Int32 × xS)} (S : CallFix p m c b_RR_stepDown 11 s args xTbl "RosterRules") (hr : meth.sig.returnType = (some .boolean)) (hlocks : meth.locks = false) (hk13 : ∀ (a0 : Nat) (x1 : Int64) (x3 : Int32) (x4 : Int32) (x5 : Int32) (x6 : Int32) (ω : xS) (H : Heap) (locs : List Loc) (ls : Array Slot), xW E z ω s s.heap H locs → lv_has ls 11 [(0, .ref a0), (1, .long x1), (3, .int x3), (4, .int x4), (5, .int x5), (6, .int x6)] → k13 a0 x1 x3 x4 x5 x6 ω = some (r, ω1) → W p l e (headSpec ws_RR_stepDown { frames := 6, cells := 0, slots := 0, locals := 154 }).room s m args below meth c H locs 0 0 (MQ below (xQ E (some (.int r)) z ω1) args s 0 0 (fun q => E.2.2 ≤ q)) (F0 m 13 ls [])) : ∀ n : Nat, ∀ (a0 : Nat) (x1 : Int64) (x3 : Int32) (x4 : Int32) (x5 : Int32) (x6 : Int32) (x7 : Int32) (ω : xS) (H : Heap) (locs : List Loc) (ls : Array Slot), xW E z ω s s.heap H locs → lv_has ls 11 [(0, .ref a0), (1, .long x1), (3, .int x3), (4, .int x4), (5, .int x5), (6, .int x6), (7, .int x7)] → f_RR_stepDown_28 k13 n a0 x1 x3 x4 x5 x6 x7 ω = some (r, ω1) → W p l e (headSpec ws_RR_stepDown { frames := 6, cells := 0, slots := 0, locals := 154 }).room s m args below meth c H locs 0 0 (MQ below (xQ E (some (.int r)) z ω1) args s 0 0 (fun q => E.2.2 ≤ q)) (F0 m 28 ls []) := by
  intro n
  induction n with
  | zero =>
    intro a0 x1 x3 x4 x5 x6 x7 ω H locs ls hw hl hf
    have h2 : (none : Option (Int32 × xS)) = some (r, ω1) := hf
    cases h2
  | succ n ih =>
    intro a0 x1 x3 x4 x5 x6 x7 ω H locs ls hw hl hf
    rw [f_RR_stepDown_28] at hf
    refine lv_iload S.1 S.2.1 d_RR_stepDown_28 (lv_at hl 6 rfl) ?_
    refine lv_aload_n S.1 S.2.1 d_RR_stepDown_30 rfl (lv_at hl 0 rfl) ?_
    obtain ⟨t10, ht10, hf⟩ := xb hf
    refine x_getr S hw lk_RR_53 ht10 d_RR_stepDown_31 ?_
    obtain ⟨t11, ht11, hf⟩ := xb hf
    refine x_geti S hw lk_RR_68 ht11 d_RR_stepDown_34 ?_
    refine lv_icmp_ge (tgt := 89) S.1 S.2.1 d_RR_stepDown_37 (by decide) (fun c12 => ?_) (fun c12 => ?_)
    · replace hf := xt c12 hf
      refine lv_iinc (v := (x6 + 1)) (lv' := [(6, .int (x6 + 1)), (0, .ref a0), (1, .long x1), (3, .int x3), (4, .int x4), (5, .int x5), (7, .int x7)]) S.1 S.2.1 d_RR_stepDown_89 hl (k := 5) rfl rfl (by decide) rfl (fun ls hl => ?_)
      refine lv_goto (tgt := 13) S.1 S.2.1 d_RR_stepDown_92 (by decide) ?_
      exact hk13 _ _ _ _ _ _ _ _ _ _ hw (lv_sub hl [1, 2, 3, 4, 5, 0] rfl) hf
    · replace hf := xf c12 hf
      refine lv_aload_n S.1 S.2.1 d_RR_stepDown_40 rfl (lv_at hl 0 rfl) ?_
      refine lv_iload S.1 S.2.1 d_RR_stepDown_41 (lv_at hl 5 rfl) ?_
      refine lv_iload S.1 S.2.1 d_RR_stepDown_43 (lv_at hl 6 rfl) ?_
      obtain ⟨t14, w15, h13, hf⟩ := xcb hf
      obtain ⟨h13b, h13⟩ := xkb h13
      refine x_callV (As := [.int x6, .int x7]) (rest := []) (st1 := [.int t14]) S hw (c_RR_bestLetter h13) (cwV 2 S.2.2.2.2 gv_RR_168 rfl rfl rfl hd_RR_bestLetter ⟨Nat.le_of_ble_eq_true rfl, Nat.le_of_ble_eq_true rfl⟩) rfl h13b rfl hl.1 rfl rfl (Nat.le_of_ble_eq_true rfl) d_RR_stepDown_45 ⟨Nat.le_of_ble_eq_true rfl, Nat.le_of_ble_eq_true rfl⟩ (fun H locs hw => ?_)
      refine lv_istore (lv' := [(8, .int t14), (0, .ref a0), (1, .long x1), (3, .int x3), (4, .int x4), (5, .int x5), (6, .int x6), (7, .int x7)]) S.1 S.2.1 d_RR_stepDown_48 hl (by decide) rfl (fun ls hl => ?_)
      refine lv_aload_n S.1 S.2.1 d_RR_stepDown_50 rfl (lv_at hl 1 rfl) ?_
      refine lv_iload S.1 S.2.1 d_RR_stepDown_51 (lv_at hl 6 rfl) ?_
      refine lv_iload S.1 S.2.1 d_RR_stepDown_53 (lv_at hl 7 rfl) ?_
      refine lv_iload S.1 S.2.1 d_RR_stepDown_55 (lv_at hl 0 rfl) ?_
      obtain ⟨t17, w18, h16, hf⟩ := xcb hf
      obtain ⟨h16b, h16⟩ := xkb h16
      refine x_callV (As := [.int x6, .int x7, .int t14]) (rest := []) (st1 := [.long t17]) S hw (c_RR_differenceBy h16) (cwV 3 S.2.2.2.2 gv_RR_140 rfl rfl rfl hd_RR_differenceBy ⟨Nat.le_of_ble_eq_true rfl, Nat.le_of_ble_eq_true rfl⟩) rfl h16b rfl hl.1 rfl rfl (Nat.le_of_ble_eq_true rfl) d_RR_stepDown_57 ⟨Nat.le_of_ble_eq_true rfl, Nat.le_of_ble_eq_true rfl⟩ (fun H locs hw => ?_)
      refine lv_lstore (lv' := [(9, .long t17), (8, .int t14), (0, .ref a0), (1, .long x1), (3, .int x3), (4, .int x4), (5, .int x5), (6, .int x6), (7, .int x7)]) S.1 S.2.1 d_RR_stepDown_60 hl (by decide) rfl (fun ls hl => ?_)
      refine lv_lload S.1 S.2.1 d_RR_stepDown_62 (lv_at hl 0 rfl) ?_
      refine lv_lload_n S.1 S.2.1 d_RR_stepDown_64 rfl (lv_at hl 3 rfl) ?_
      refine W.lcmp S.1 S.2.1 d_RR_stepDown_65 ?_
      refine lv_if_ge (tgt := 83) S.1 S.2.1 d_RR_stepDown_66 (by decide) (fun c19 => ?_) (fun c19 => ?_)
      · replace hf := xt c19 hf
        refine lv_iinc (v := (x7 + 1)) (lv' := [(7, .int (x7 + 1)), (9, .long t17), (8, .int t14), (0, .ref a0), (1, .long x1), (3, .int x3), (4, .int x4), (5, .int x5), (6, .int x6)]) S.1 S.2.1 d_RR_stepDown_83 hl (k := 8) rfl rfl (by decide) rfl (fun ls hl => ?_)
        refine lv_goto (tgt := 28) S.1 S.2.1 d_RR_stepDown_86 (by decide) ?_
        exact ih _ _ _ _ _ _ _ _ _ _ _ hw (lv_sub hl [3, 4, 5, 6, 7, 8, 0] rfl) hf
      · replace hf := xf c19 hf
        refine lv_lload S.1 S.2.1 d_RR_stepDown_69 (lv_at hl 0 rfl) ?_
        refine lv_lstore_n (lv' := [(1, .long t17), (9, .long t17), (8, .int t14), (0, .ref a0), (3, .int x3), (4, .int x4), (5, .int x5), (6, .int x6), (7, .int x7)]) S.1 S.2.1 d_RR_stepDown_71 rfl hl (by decide) rfl (fun ls hl => ?_)
        refine lv_iload S.1 S.2.1 d_RR_stepDown_72 (lv_at hl 7 rfl) ?_
        refine lv_istore_n (lv' := [(3, .int x6), (1, .long t17), (9, .long t17), (8, .int t14), (0, .ref a0), (4, .int x4), (5, .int x5), (6, .int x6), (7, .int x7)]) S.1 S.2.1 d_RR_stepDown_74 rfl hl (by decide) rfl (fun ls hl => ?_)
        refine lv_iload S.1 S.2.1 d_RR_stepDown_75 (lv_at hl 8 rfl) ?_
        refine lv_istore (lv' := [(4, .int x7), (3, .int x6), (1, .long t17), (9, .long t17), (8, .int t14), (0, .ref a0), (5, .int x5), (6, .int x6), (7, .int x7)]) S.1 S.2.1 d_RR_stepDown_77 hl (by decide) rfl (fun ls hl => ?_)
        refine lv_iload S.1 S.2.1 d_RR_stepDown_79 (lv_at hl 4 rfl) ?_
        refine lv_istore (lv' := [(5, .int t14), (4, .int x7), (3, .int x6), (1, .long t17), (9, .long t17), (8, .int t14), (0, .ref a0), (6, .int x6), (7, .int x7)]) S.1 S.2.1 d_RR_stepDown_81 hl (by decide) rfl (fun ls hl => ?_)
        refine lv_iinc (v := (x7 + 1)) (lv' := [(7, .int (x7 + 1)), (5, .int t14), (4, .int x7), (3, .int x6), (1, .long t17), (9, .long t17), (8, .int t14), (0, .ref a0), (6, .int x6)]) S.1 S.2.1 d_RR_stepDown_83 hl (k := 8) rfl rfl (by decide) rfl (fun ls hl => ?_)
        refine lv_goto (tgt := 28) S.1 S.2.1 d_RR_stepDown_86 (by decide) ?_
        exact ih _ _ _ _ _ _ _ _ _ _ _ hw (lv_sub hl [7, 4, 3, 2, 1, 8, 0] rfl) hf
def f_RR_stepDown_13 : Nat → Nat → Int64 → Int32 → Int32 → Int32 → Int32 → xS → Option (Int32 × xS)
  | 0, _, _, _, _, _, _, _ => none
  | n + 1, a0, x1, x3, x4, x5, x6, ω =>
    (xgr ω a0 11 1).bind fun t1 =>
    (xgi ω t1 8 0).bind fun t2 =>
    if t2 ≤ x6 then (
      if 0 ≤ (lg_cmp x1 0) then (
        if 0 ≤ (lg_cmp x1 0) then (
          some (0, ω))
        else (
          some (1, ω)))
      else (
        (xk ω a0 11 (f_RR_keepCell a0 x3 x4 x5 ω)).bind fun w8 =>
        if 0 ≤ (lg_cmp x1 0) then (
          some (0, w8))
        else (
          some (1, w8))))
    else (
      f_RR_stepDown_28 (f_RR_stepDown_13  n) xFU a0 x1 x3 x4 x5 x6 0 ω)
set_option maxHeartbeats 4000000 in
set_option maxRecDepth 100000 in
theorem w_RR_stepDown_13 {p : Program} {l : Launch} {e : Env} {s : State} {m : MethodId} {args : Array Value} {below : List Frame} {meth : Method} {c : Code} {E : xV} {z : Nat} {r : Int32} {ω1 : xS} (S : CallFix p m c b_RR_stepDown 11 s args xTbl "RosterRules") (hr : meth.sig.returnType = (some .boolean)) (hlocks : meth.locks = false) : ∀ n : Nat, ∀ (a0 : Nat) (x1 : Int64) (x3 : Int32) (x4 : Int32) (x5 : Int32) (x6 : Int32) (ω : xS) (H : Heap) (locs : List Loc) (ls : Array Slot), xW E z ω s s.heap H locs → lv_has ls 11 [(0, .ref a0), (1, .long x1), (3, .int x3), (4, .int x4), (5, .int x5), (6, .int x6)] → f_RR_stepDown_13 n a0 x1 x3 x4 x5 x6 ω = some (r, ω1) → W p l e (headSpec ws_RR_stepDown { frames := 6, cells := 0, slots := 0, locals := 154 }).room s m args below meth c H locs 0 0 (MQ below (xQ E (some (.int r)) z ω1) args s 0 0 (fun q => E.2.2 ≤ q)) (F0 m 13 ls []) := by
  intro n
  induction n with
  | zero =>
    intro a0 x1 x3 x4 x5 x6 ω H locs ls hw hl hf
    have h2 : (none : Option (Int32 × xS)) = some (r, ω1) := hf
    cases h2
  | succ n ih =>
    intro a0 x1 x3 x4 x5 x6 ω H locs ls hw hl hf
    rw [f_RR_stepDown_13] at hf
    refine lv_iload S.1 S.2.1 d_RR_stepDown_13 (lv_at hl 5 rfl) ?_
    refine lv_aload_n S.1 S.2.1 d_RR_stepDown_15 rfl (lv_at hl 0 rfl) ?_
    obtain ⟨t1, ht1, hf⟩ := xb hf
    refine x_getr S hw lk_RR_53 ht1 d_RR_stepDown_16 ?_
    obtain ⟨t2, ht2, hf⟩ := xb hf
    refine x_geti S hw lk_RR_252 ht2 d_RR_stepDown_19 ?_
    refine lv_icmp_ge (tgt := 95) S.1 S.2.1 d_RR_stepDown_22 (by decide) (fun c3 => ?_) (fun c3 => ?_)
    · replace hf := xt c3 hf
      refine lv_lload_n S.1 S.2.1 d_RR_stepDown_95 rfl (lv_at hl 1 rfl) ?_
      refine lv_lconst (v := 0) S.1 S.2.1 d_RR_stepDown_96 (by decide) ?_
      refine W.lcmp S.1 S.2.1 d_RR_stepDown_97 ?_
      refine lv_if_ge (tgt := 110) S.1 S.2.1 d_RR_stepDown_98 (by decide) (fun c4 => ?_) (fun c4 => ?_)
      · replace hf := xt c4 hf
        refine lv_lload_n S.1 S.2.1 d_RR_stepDown_110 rfl (lv_at hl 1 rfl) ?_
        refine lv_lconst (v := 0) S.1 S.2.1 d_RR_stepDown_111 (by decide) ?_
        refine W.lcmp S.1 S.2.1 d_RR_stepDown_112 ?_
        refine lv_if_ge (tgt := 120) S.1 S.2.1 d_RR_stepDown_113 (by decide) (fun c5 => ?_) (fun c5 => ?_)
        · replace hf := xt c5 hf
          refine lv_iconst (v := 0) S.1 S.2.1 d_RR_stepDown_120 (by decide) ?_
          obtain ⟨rfl, rfl⟩ := xe2 hf
          exact x_zret S hr hlocks hw (by decide) d_RR_stepDown_121
        · replace hf := xf c5 hf
          refine lv_iconst (v := 1) S.1 S.2.1 d_RR_stepDown_116 (by decide) ?_
          refine lv_goto (tgt := 121) S.1 S.2.1 d_RR_stepDown_117 (by decide) ?_
          obtain ⟨rfl, rfl⟩ := xe2 hf
          exact x_zret S hr hlocks hw (by decide) d_RR_stepDown_121
      · replace hf := xf c4 hf
        refine lv_aload_n S.1 S.2.1 d_RR_stepDown_101 rfl (lv_at hl 0 rfl) ?_
        refine lv_iload_n S.1 S.2.1 d_RR_stepDown_102 rfl (lv_at hl 2 rfl) ?_
        refine lv_iload S.1 S.2.1 d_RR_stepDown_103 (lv_at hl 3 rfl) ?_
        refine lv_iload S.1 S.2.1 d_RR_stepDown_105 (lv_at hl 4 rfl) ?_
        obtain ⟨w8, h6, hf⟩ := xb hf
        obtain ⟨h6b, h6⟩ := xkb h6
        refine x_callV (As := [.int x3, .int x4, .int x5]) (rest := []) (st1 := []) S hw (c_RR_keepCell h6) (cwV 3 S.2.2.2.2 gv_RR_144 rfl rfl rfl hd_RR_keepCell ⟨Nat.le_of_ble_eq_true rfl, Nat.le_of_ble_eq_true rfl⟩) rfl h6b rfl hl.1 rfl rfl (Nat.le_of_ble_eq_true rfl) d_RR_stepDown_107 ⟨Nat.le_of_ble_eq_true rfl, Nat.le_of_ble_eq_true rfl⟩ (fun H locs hw => ?_)
        refine lv_lload_n S.1 S.2.1 d_RR_stepDown_110 rfl (lv_at hl 1 rfl) ?_
        refine lv_lconst (v := 0) S.1 S.2.1 d_RR_stepDown_111 (by decide) ?_
        refine W.lcmp S.1 S.2.1 d_RR_stepDown_112 ?_
        refine lv_if_ge (tgt := 120) S.1 S.2.1 d_RR_stepDown_113 (by decide) (fun c9 => ?_) (fun c9 => ?_)
        · replace hf := xt c9 hf
          refine lv_iconst (v := 0) S.1 S.2.1 d_RR_stepDown_120 (by decide) ?_
          obtain ⟨rfl, rfl⟩ := xe2 hf
          exact x_zret S hr hlocks hw (by decide) d_RR_stepDown_121
        · replace hf := xf c9 hf
          refine lv_iconst (v := 1) S.1 S.2.1 d_RR_stepDown_116 (by decide) ?_
          refine lv_goto (tgt := 121) S.1 S.2.1 d_RR_stepDown_117 (by decide) ?_
          obtain ⟨rfl, rfl⟩ := xe2 hf
          exact x_zret S hr hlocks hw (by decide) d_RR_stepDown_121
    · replace hf := xf c3 hf
      refine lv_iconst (v := 0) S.1 S.2.1 d_RR_stepDown_25 (by decide) ?_
      refine lv_istore (lv' := [(7, .int 0), (0, .ref a0), (1, .long x1), (3, .int x3), (4, .int x4), (5, .int x5), (6, .int x6)]) S.1 S.2.1 d_RR_stepDown_26 hl (by decide) rfl (fun ls hl => ?_)
      exact w_RR_stepDown_28 S hr hlocks ih _ _ _ _ _ _ _ _ _ _ _ _ hw (lv_sub hl [1, 2, 3, 4, 5, 6, 0] rfl) hf
def f_RR_stepDown (a0 : Nat) (ω : xS) : Option (Int32 × xS) :=
  f_RR_stepDown_13  xFU a0 0 0 0 0 0 ω
set_option maxHeartbeats 4000000 in
set_option maxRecDepth 100000 in
theorem c_RR_stepDown {l : Launch} {E : xV} {z : Nat} {a0 : Nat} {r : Int32} {ω1 : xS} {ω : xS} (hf : f_RR_stepDown a0 ω = some (r, ω1)) : xM l E y_RR_stepDown ws_RR_stepDown { frames := 6, cells := 0, slots := 0, locals := 154 } [.ref a0] z ω (some (.int r)) z ω1 := by
  refine x_start (cc := b_RR_stepDown) (maxL := 11) (ret := (some .boolean)) (by decide) rfl (Nat.le_of_ble_eq_true rfl) ?_
  intro p e s m below meth c S hr hlocks hin ls hl hw
  have hl : lv_has ls 11 [(0, .ref a0)] := hl
  unfold f_RR_stepDown at hf
  refine lv_lconst (v := 0) S.1 S.2.1 d_RR_stepDown_0 (by decide) ?_
  refine lv_lstore_n (lv' := [(1, .long 0), (0, .ref a0)]) S.1 S.2.1 d_RR_stepDown_1 rfl hl (by decide) rfl (fun ls hl => ?_)
  refine lv_iconst (v := 0) S.1 S.2.1 d_RR_stepDown_2 (by decide) ?_
  refine lv_istore_n (lv' := [(3, .int 0), (1, .long 0), (0, .ref a0)]) S.1 S.2.1 d_RR_stepDown_3 rfl hl (by decide) rfl (fun ls hl => ?_)
  refine lv_iconst (v := 0) S.1 S.2.1 d_RR_stepDown_4 (by decide) ?_
  refine lv_istore (lv' := [(4, .int 0), (3, .int 0), (1, .long 0), (0, .ref a0)]) S.1 S.2.1 d_RR_stepDown_5 hl (by decide) rfl (fun ls hl => ?_)
  refine lv_iconst (v := 0) S.1 S.2.1 d_RR_stepDown_7 (by decide) ?_
  refine lv_istore (lv' := [(5, .int 0), (4, .int 0), (3, .int 0), (1, .long 0), (0, .ref a0)]) S.1 S.2.1 d_RR_stepDown_8 hl (by decide) rfl (fun ls hl => ?_)
  refine lv_iconst (v := 0) S.1 S.2.1 d_RR_stepDown_10 (by decide) ?_
  refine lv_istore (lv' := [(6, .int 0), (5, .int 0), (4, .int 0), (3, .int 0), (1, .long 0), (0, .ref a0)]) S.1 S.2.1 d_RR_stepDown_11 hl (by decide) rfl (fun ls hl => ?_)
  exact w_RR_stepDown_13 S hr hlocks  _ _ _ _ _ _ _ _ _ _ _ hw (lv_sub hl [5, 4, 3, 2, 1, 0] rfl) hf
