def f_RR_feed (a0 : Nat) (x1 : Int32) (x2 : Int64) (ω : xS) : Option (Int32 × xS) :=
  if x1 < 1 then (
    some ((-1), ω))
  else (
    if x1 ≤ 8 then (
      (xgr ω a0 11 0).bind fun t3 =>
      (xgi ω t3 9 1).bind fun t4 =>
      if (t4 + x1) ≤ 1500 then (
        (xgr ω a0 11 0).bind fun t6 =>
        (xk ω t6 9 (f_Tape_append t6 x1 x2 ω)).bind fun w9 =>
        (xgr w9 a0 11 0).bind fun t10 =>
        (xgi w9 t10 9 1).bind fun t11 =>
        some (t11, w9))
      else (
        some ((-3), ω)))
    else (
      some ((-1), ω)))
set_option maxHeartbeats 4000000 in
set_option maxRecDepth 100000 in
theorem c_RR_feed {l : Launch} {E : xV} {z : Nat} {a0 : Nat} {x1 : Int32} {x2 : Int64} {r : Int32} {ω1 : xS} {ω : xS} (hf : f_RR_feed a0 x1 x2 ω = some (r, ω1)) : xM l E y_RR_feed ws_RR_feed { frames := 1, cells := 0, slots := 0, locals := 24 } [.ref a0, .int x1, .long x2] z ω (some (.int r)) z ω1 := by
  refine x_start (cc := b_RR_feed) (maxL := 4) (ret := (some .int)) (by decide) rfl (Nat.le_of_ble_eq_true rfl) ?_
  intro p e s m below meth c S hr hlocks hin ls hl hw
  have hl : lv_has ls 4 [(0, .ref a0), (1, .int x1), (2, .long x2)] := hl
  unfold f_RR_feed at hf
  refine lv_iload_n S.1 S.2.1 d_RR_feed_0 rfl (lv_at hl 1 rfl) ?_
  refine lv_iconst (v := 1) S.1 S.2.1 d_RR_feed_1 (by decide) ?_
  refine lv_icmp_lt (tgt := 11) S.1 S.2.1 d_RR_feed_2 (by decide) (fun c1 => ?_) (fun c1 => ?_)
  · replace hf := xt c1 hf
    refine lv_iconst (v := (-1)) S.1 S.2.1 d_RR_feed_11 (by decide) ?_
    obtain ⟨rfl, rfl⟩ := xe2 hf
    exact x_iret S hr hlocks hw d_RR_feed_12
  · replace hf := xf c1 hf
    refine lv_iload_n S.1 S.2.1 d_RR_feed_5 rfl (lv_at hl 1 rfl) ?_
    refine lv_bipush (v := 8) S.1 S.2.1 d_RR_feed_6 (by decide) ?_
    refine lv_icmp_le (tgt := 13) S.1 S.2.1 d_RR_feed_8 (by decide) (fun c2 => ?_) (fun c2 => ?_)
    · replace hf := xt c2 hf
      refine lv_aload_n S.1 S.2.1 d_RR_feed_13 rfl (lv_at hl 0 rfl) ?_
      obtain ⟨t3, ht3, hf⟩ := xb hf
      refine x_getr S hw lk_RR_10 ht3 d_RR_feed_14 ?_
      obtain ⟨t4, ht4, hf⟩ := xb hf
      refine x_geti S hw lk_RR_80 ht4 d_RR_feed_17 ?_
      refine lv_iload_n S.1 S.2.1 d_RR_feed_20 rfl (lv_at hl 1 rfl) ?_
      refine lv_iadd S.1 S.2.1 d_RR_feed_21 ?_
      refine lv_sipush (v := 1500) S.1 S.2.1 d_RR_feed_22 (by decide) ?_
      refine lv_icmp_le (tgt := 31) S.1 S.2.1 d_RR_feed_25 (by decide) (fun c5 => ?_) (fun c5 => ?_)
      · replace hf := xt c5 hf
        refine lv_aload_n S.1 S.2.1 d_RR_feed_31 rfl (lv_at hl 0 rfl) ?_
        obtain ⟨t6, ht6, hf⟩ := xb hf
        refine x_getr S hw lk_RR_10 ht6 d_RR_feed_32 ?_
        refine lv_iload_n S.1 S.2.1 d_RR_feed_35 rfl (lv_at hl 1 rfl) ?_
        refine lv_lload_n S.1 S.2.1 d_RR_feed_36 rfl (lv_at hl 2 rfl) ?_
        obtain ⟨w9, h7, hf⟩ := xb hf
        obtain ⟨h7b, h7⟩ := xkb h7
        refine x_callV (As := [.int x1, .long x2]) (rest := []) (st1 := []) S hw (c_Tape_append h7) (cwV 2 S.2.2.2.2 gv_RR_83 rfl rfl rfl hd_Tape_append ⟨Nat.le_of_ble_eq_true rfl, Nat.le_of_ble_eq_true rfl⟩) rfl h7b rfl hl.1 rfl rfl (Nat.le_of_ble_eq_true rfl) d_RR_feed_37 ⟨Nat.le_of_ble_eq_true rfl, Nat.le_of_ble_eq_true rfl⟩ (fun H locs hw => ?_)
        refine lv_aload_n S.1 S.2.1 d_RR_feed_40 rfl (lv_at hl 0 rfl) ?_
        obtain ⟨t10, ht10, hf⟩ := xb hf
        refine x_getr S hw lk_RR_10 ht10 d_RR_feed_41 ?_
        obtain ⟨t11, ht11, hf⟩ := xb hf
        refine x_geti S hw lk_RR_80 ht11 d_RR_feed_44 ?_
        obtain ⟨rfl, rfl⟩ := xe2 hf
        exact x_iret S hr hlocks hw d_RR_feed_47
      · replace hf := xf c5 hf
        refine lv_bipush (v := (-3)) S.1 S.2.1 d_RR_feed_28 (by decide) ?_
        obtain ⟨rfl, rfl⟩ := xe2 hf
        exact x_iret S hr hlocks hw d_RR_feed_30
    · replace hf := xf c2 hf
      refine lv_iconst (v := (-1)) S.1 S.2.1 d_RR_feed_11 (by decide) ?_
      obtain ⟨rfl, rfl⟩ := xe2 hf
      exact x_iret S hr hlocks hw d_RR_feed_12
def f_RR_place (a0 : Nat) (ω : xS) : Option Int32 :=
  (xgr ω a0 11 4).bind fun t1 =>
  (xgi ω t1 5 4).bind fun t2 =>
  some t2
set_option maxHeartbeats 4000000 in
set_option maxRecDepth 100000 in
theorem c_RR_place {l : Launch} {E : xV} {z : Nat} {a0 : Nat} {r : Int32} {ω : xS} (hf : f_RR_place a0 ω = some r) : xM l E y_RR_place ws_RR_place { frames := 0, cells := 0, slots := 0, locals := 0 } [.ref a0] z ω (some (.int r)) z ω := by
  refine x_start (cc := b_RR_place) (maxL := 1) (ret := (some .int)) (by decide) rfl (Nat.le_of_ble_eq_true rfl) ?_
  intro p e s m below meth c S hr hlocks hin ls hl hw
  have hl : lv_has ls 1 [(0, .ref a0)] := hl
  unfold f_RR_place at hf
  refine lv_aload_n S.1 S.2.1 d_RR_place_0 rfl (lv_at hl 0 rfl) ?_
  obtain ⟨t1, ht1, hf⟩ := xb hf
  refine x_getr S hw lk_RR_75 ht1 d_RR_place_1 ?_
  obtain ⟨t2, ht2, hf⟩ := xb hf
  refine x_geti S hw lk_RR_97 ht2 d_RR_place_4 ?_
  obtain rfl := xe1 hf
  exact x_iret S hr hlocks hw d_RR_place_7
def f_RR_isShift (a0 : Nat) (x1 : Int32) (ω : xS) : Option Int32 :=
  if x1 < 0 then (
    some 0)
  else (
    if 8 ≤ x1 then (
      some 0)
    else (
      some 1))
set_option maxHeartbeats 4000000 in
set_option maxRecDepth 100000 in
theorem c_RR_isShift {l : Launch} {E : xV} {z : Nat} {a0 : Nat} {x1 : Int32} {r : Int32} {ω : xS} (hf : f_RR_isShift a0 x1 ω = some r) : xM l E y_RR_isShift ws_RR_isShift { frames := 0, cells := 0, slots := 0, locals := 0 } [.ref a0, .int x1] z ω (some (.int r)) z ω := by
  refine x_start (cc := b_RR_isShift) (maxL := 2) (ret := (some .boolean)) (by decide) rfl (Nat.le_of_ble_eq_true rfl) ?_
  intro p e s m below meth c S hr hlocks hin ls hl hw
  have hl : lv_has ls 2 [(0, .ref a0), (1, .int x1)] := hl
  unfold f_RR_isShift at hf
  refine lv_iload_n S.1 S.2.1 d_RR_isShift_0 rfl (lv_at hl 1 rfl) ?_
  refine lv_if_lt (tgt := 14) S.1 S.2.1 d_RR_isShift_1 (by decide) (fun c1 => ?_) (fun c1 => ?_)
  · replace hf := xt c1 hf
    refine lv_iconst (v := 0) S.1 S.2.1 d_RR_isShift_14 (by decide) ?_
    obtain rfl := xe1 hf
    exact x_zret S hr hlocks hw (by decide) d_RR_isShift_15
  · replace hf := xf c1 hf
    refine lv_iload_n S.1 S.2.1 d_RR_isShift_4 rfl (lv_at hl 1 rfl) ?_
    refine lv_bipush (v := 8) S.1 S.2.1 d_RR_isShift_5 (by decide) ?_
    refine lv_icmp_ge (tgt := 14) S.1 S.2.1 d_RR_isShift_7 (by decide) (fun c2 => ?_) (fun c2 => ?_)
    · replace hf := xt c2 hf
      refine lv_iconst (v := 0) S.1 S.2.1 d_RR_isShift_14 (by decide) ?_
      obtain rfl := xe1 hf
      exact x_zret S hr hlocks hw (by decide) d_RR_isShift_15
    · replace hf := xf c2 hf
      refine lv_iconst (v := 1) S.1 S.2.1 d_RR_isShift_10 (by decide) ?_
      refine lv_goto (tgt := 15) S.1 S.2.1 d_RR_isShift_11 (by decide) ?_
      obtain rfl := xe1 hf
      exact x_zret S hr hlocks hw (by decide) d_RR_isShift_15
def f_RR_shift (a0 : Nat) (x1 : Int32) (x2 : Int32) (x3 : Int32) (x4 : Int32) (ω : xS) : Option (Int32 × xS) :=
  (xk ω a0 11 (f_RR_isShift a0 x1 ω)).bind fun t2 =>
  if t2 = 0 then (
    some ((-1), ω))
  else (
    if x2 < 0 then (
      some ((-1), ω))
    else (
      if 1440 ≤ x2 then (
        some ((-1), ω))
      else (
        if x3 < 1 then (
          some ((-1), ω))
        else (
          if 1440 < x3 then (
            some ((-1), ω))
          else (
            if x4 < 0 then (
              some ((-1), ω))
            else (
              if x4 < 10 then (
                (xgr ω a0 11 1).bind fun t10 =>
                (xgr ω t10 8 2).bind fun t11 =>
                (xsi ω t11 (x1 + 1) x2).bind fun w12 =>
                (xgr w12 a0 11 1).bind fun t13 =>
                (xgr w12 t13 8 3).bind fun t14 =>
                (xsi w12 t14 (x1 + 1) x3).bind fun w15 =>
                (xgr w15 a0 11 1).bind fun t16 =>
                (xgr w15 t16 8 4).bind fun t17 =>
                (xsi w15 t17 (x1 + 1) x4).bind fun w18 =>
                some (1, w18))
              else (
                some ((-1), ω))))))))
set_option maxHeartbeats 4000000 in
set_option maxRecDepth 100000 in
theorem c_RR_shift {l : Launch} {E : xV} {z : Nat} {a0 : Nat} {x1 : Int32} {x2 : Int32} {x3 : Int32} {x4 : Int32} {r : Int32} {ω1 : xS} {ω : xS} (hf : f_RR_shift a0 x1 x2 x3 x4 ω = some (r, ω1)) : xM l E y_RR_shift ws_RR_shift { frames := 1, cells := 0, slots := 0, locals := 21 } [.ref a0, .int x1, .int x2, .int x3, .int x4] z ω (some (.int r)) z ω1 := by
  refine x_start (cc := b_RR_shift) (maxL := 5) (ret := (some .int)) (by decide) rfl (Nat.le_of_ble_eq_true rfl) ?_
  intro p e s m below meth c S hr hlocks hin ls hl hw
  have hl : lv_has ls 5 [(0, .ref a0), (1, .int x1), (2, .int x2), (3, .int x3), (4, .int x4)] := hl
  unfold f_RR_shift at hf
  refine lv_aload_n S.1 S.2.1 d_RR_shift_0 rfl (lv_at hl 0 rfl) ?_
  refine lv_iload_n S.1 S.2.1 d_RR_shift_1 rfl (lv_at hl 1 rfl) ?_
  obtain ⟨t2, h1, hf⟩ := xb hf
  obtain ⟨h1b, h1⟩ := xkb h1
  refine x_callV (As := [.int x1]) (rest := []) (st1 := [.int t2]) S hw (c_RR_isShift h1) (cwV 1 S.2.2.2.2 gv_RR_100 rfl rfl rfl hd_RR_isShift ⟨Nat.le_of_ble_eq_true rfl, Nat.le_of_ble_eq_true rfl⟩) rfl h1b rfl hl.1 rfl rfl (Nat.le_of_ble_eq_true rfl) d_RR_shift_2 ⟨Nat.le_of_ble_eq_true rfl, Nat.le_of_ble_eq_true rfl⟩ (fun H locs hw => ?_)
  refine lv_if_eq (tgt := 43) S.1 S.2.1 d_RR_shift_5 (by decide) (fun c3 => ?_) (fun c3 => ?_)
  · replace hf := xt c3 hf
    refine lv_iconst (v := (-1)) S.1 S.2.1 d_RR_shift_43 (by decide) ?_
    obtain ⟨rfl, rfl⟩ := xe2 hf
    exact x_iret S hr hlocks hw d_RR_shift_44
  · replace hf := xf c3 hf
    refine lv_iload_n S.1 S.2.1 d_RR_shift_8 rfl (lv_at hl 2 rfl) ?_
    refine lv_if_lt (tgt := 43) S.1 S.2.1 d_RR_shift_9 (by decide) (fun c4 => ?_) (fun c4 => ?_)
    · replace hf := xt c4 hf
      refine lv_iconst (v := (-1)) S.1 S.2.1 d_RR_shift_43 (by decide) ?_
      obtain ⟨rfl, rfl⟩ := xe2 hf
      exact x_iret S hr hlocks hw d_RR_shift_44
    · replace hf := xf c4 hf
      refine lv_iload_n S.1 S.2.1 d_RR_shift_12 rfl (lv_at hl 2 rfl) ?_
      refine lv_sipush (v := 1440) S.1 S.2.1 d_RR_shift_13 (by decide) ?_
      refine lv_icmp_ge (tgt := 43) S.1 S.2.1 d_RR_shift_16 (by decide) (fun c5 => ?_) (fun c5 => ?_)
      · replace hf := xt c5 hf
        refine lv_iconst (v := (-1)) S.1 S.2.1 d_RR_shift_43 (by decide) ?_
        obtain ⟨rfl, rfl⟩ := xe2 hf
        exact x_iret S hr hlocks hw d_RR_shift_44
      · replace hf := xf c5 hf
        refine lv_iload_n S.1 S.2.1 d_RR_shift_19 rfl (lv_at hl 3 rfl) ?_
        refine lv_iconst (v := 1) S.1 S.2.1 d_RR_shift_20 (by decide) ?_
        refine lv_icmp_lt (tgt := 43) S.1 S.2.1 d_RR_shift_21 (by decide) (fun c6 => ?_) (fun c6 => ?_)
        · replace hf := xt c6 hf
          refine lv_iconst (v := (-1)) S.1 S.2.1 d_RR_shift_43 (by decide) ?_
          obtain ⟨rfl, rfl⟩ := xe2 hf
          exact x_iret S hr hlocks hw d_RR_shift_44
        · replace hf := xf c6 hf
          refine lv_iload_n S.1 S.2.1 d_RR_shift_24 rfl (lv_at hl 3 rfl) ?_
          refine lv_sipush (v := 1440) S.1 S.2.1 d_RR_shift_25 (by decide) ?_
          refine lv_icmp_gt (tgt := 43) S.1 S.2.1 d_RR_shift_28 (by decide) (fun c7 => ?_) (fun c7 => ?_)
          · replace hf := xt c7 hf
            refine lv_iconst (v := (-1)) S.1 S.2.1 d_RR_shift_43 (by decide) ?_
            obtain ⟨rfl, rfl⟩ := xe2 hf
            exact x_iret S hr hlocks hw d_RR_shift_44
          · replace hf := xf c7 hf
            refine lv_iload S.1 S.2.1 d_RR_shift_31 (lv_at hl 4 rfl) ?_
            refine lv_if_lt (tgt := 43) S.1 S.2.1 d_RR_shift_33 (by decide) (fun c8 => ?_) (fun c8 => ?_)
            · replace hf := xt c8 hf
              refine lv_iconst (v := (-1)) S.1 S.2.1 d_RR_shift_43 (by decide) ?_
              obtain ⟨rfl, rfl⟩ := xe2 hf
              exact x_iret S hr hlocks hw d_RR_shift_44
            · replace hf := xf c8 hf
              refine lv_iload S.1 S.2.1 d_RR_shift_36 (lv_at hl 4 rfl) ?_
              refine lv_bipush (v := 10) S.1 S.2.1 d_RR_shift_38 (by decide) ?_
              refine lv_icmp_lt (tgt := 45) S.1 S.2.1 d_RR_shift_40 (by decide) (fun c9 => ?_) (fun c9 => ?_)
              · replace hf := xt c9 hf
                refine lv_aload_n S.1 S.2.1 d_RR_shift_45 rfl (lv_at hl 0 rfl) ?_
                obtain ⟨t10, ht10, hf⟩ := xb hf
                refine x_getr S hw lk_RR_53 ht10 d_RR_shift_46 ?_
                obtain ⟨t11, ht11, hf⟩ := xb hf
                refine x_getr S hw lk_RR_104 ht11 d_RR_shift_49 ?_
                refine lv_iload_n S.1 S.2.1 d_RR_shift_52 rfl (lv_at hl 1 rfl) ?_
                refine lv_iconst (v := 1) S.1 S.2.1 d_RR_shift_53 (by decide) ?_
                refine lv_iadd S.1 S.2.1 d_RR_shift_54 ?_
                refine lv_iload_n S.1 S.2.1 d_RR_shift_55 rfl (lv_at hl 2 rfl) ?_
                obtain ⟨w12, hw12, hf⟩ := xb hf
                refine x_iast S hw hw12 d_RR_shift_56 (fun H locs hw => ?_)
                refine lv_aload_n S.1 S.2.1 d_RR_shift_57 rfl (lv_at hl 0 rfl) ?_
                obtain ⟨t13, ht13, hf⟩ := xb hf
                refine x_getr S hw lk_RR_53 ht13 d_RR_shift_58 ?_
                obtain ⟨t14, ht14, hf⟩ := xb hf
                refine x_getr S hw lk_RR_108 ht14 d_RR_shift_61 ?_
                refine lv_iload_n S.1 S.2.1 d_RR_shift_64 rfl (lv_at hl 1 rfl) ?_
                refine lv_iconst (v := 1) S.1 S.2.1 d_RR_shift_65 (by decide) ?_
                refine lv_iadd S.1 S.2.1 d_RR_shift_66 ?_
                refine lv_iload_n S.1 S.2.1 d_RR_shift_67 rfl (lv_at hl 3 rfl) ?_
                obtain ⟨w15, hw15, hf⟩ := xb hf
                refine x_iast S hw hw15 d_RR_shift_68 (fun H locs hw => ?_)
                refine lv_aload_n S.1 S.2.1 d_RR_shift_69 rfl (lv_at hl 0 rfl) ?_
                obtain ⟨t16, ht16, hf⟩ := xb hf
                refine x_getr S hw lk_RR_53 ht16 d_RR_shift_70 ?_
                obtain ⟨t17, ht17, hf⟩ := xb hf
                refine x_getr S hw lk_RR_111 ht17 d_RR_shift_73 ?_
                refine lv_iload_n S.1 S.2.1 d_RR_shift_76 rfl (lv_at hl 1 rfl) ?_
                refine lv_iconst (v := 1) S.1 S.2.1 d_RR_shift_77 (by decide) ?_
                refine lv_iadd S.1 S.2.1 d_RR_shift_78 ?_
                refine lv_iload S.1 S.2.1 d_RR_shift_79 (lv_at hl 4 rfl) ?_
                obtain ⟨w18, hw18, hf⟩ := xb hf
                refine x_iast S hw hw18 d_RR_shift_81 (fun H locs hw => ?_)
                refine lv_iconst (v := 1) S.1 S.2.1 d_RR_shift_82 (by decide) ?_
                obtain ⟨rfl, rfl⟩ := xe2 hf
                exact x_iret S hr hlocks hw d_RR_shift_83
              · replace hf := xf c9 hf
                refine lv_iconst (v := (-1)) S.1 S.2.1 d_RR_shift_43 (by decide) ?_
                obtain ⟨rfl, rfl⟩ := xe2 hf
                exact x_iret S hr hlocks hw d_RR_shift_44
def f_RR_isPerson (a0 : Nat) (x1 : Int32) (ω : xS) : Option Int32 :=
  if x1 < 0 then (
    some 0)
  else (
    (xgr ω a0 11 1).bind fun t2 =>
    (xgi ω t2 8 0).bind fun t3 =>
    if t3 ≤ x1 then (
      some 0)
    else (
      some 1))
set_option maxHeartbeats 4000000 in
set_option maxRecDepth 100000 in
theorem c_RR_isPerson {l : Launch} {E : xV} {z : Nat} {a0 : Nat} {x1 : Int32} {r : Int32} {ω : xS} (hf : f_RR_isPerson a0 x1 ω = some r) : xM l E y_RR_isPerson ws_RR_isPerson { frames := 0, cells := 0, slots := 0, locals := 0 } [.ref a0, .int x1] z ω (some (.int r)) z ω := by
  refine x_start (cc := b_RR_isPerson) (maxL := 2) (ret := (some .boolean)) (by decide) rfl (Nat.le_of_ble_eq_true rfl) ?_
  intro p e s m below meth c S hr hlocks hin ls hl hw
  have hl : lv_has ls 2 [(0, .ref a0), (1, .int x1)] := hl
  unfold f_RR_isPerson at hf
  refine lv_iload_n S.1 S.2.1 d_RR_isPerson_0 rfl (lv_at hl 1 rfl) ?_
  refine lv_if_lt (tgt := 19) S.1 S.2.1 d_RR_isPerson_1 (by decide) (fun c1 => ?_) (fun c1 => ?_)
  · replace hf := xt c1 hf
    refine lv_iconst (v := 0) S.1 S.2.1 d_RR_isPerson_19 (by decide) ?_
    obtain rfl := xe1 hf
    exact x_zret S hr hlocks hw (by decide) d_RR_isPerson_20
  · replace hf := xf c1 hf
    refine lv_iload_n S.1 S.2.1 d_RR_isPerson_4 rfl (lv_at hl 1 rfl) ?_
    refine lv_aload_n S.1 S.2.1 d_RR_isPerson_5 rfl (lv_at hl 0 rfl) ?_
    obtain ⟨t2, ht2, hf⟩ := xb hf
    refine x_getr S hw lk_RR_53 ht2 d_RR_isPerson_6 ?_
    obtain ⟨t3, ht3, hf⟩ := xb hf
    refine x_geti S hw lk_RR_252 ht3 d_RR_isPerson_9 ?_
    refine lv_icmp_ge (tgt := 19) S.1 S.2.1 d_RR_isPerson_12 (by decide) (fun c4 => ?_) (fun c4 => ?_)
    · replace hf := xt c4 hf
      refine lv_iconst (v := 0) S.1 S.2.1 d_RR_isPerson_19 (by decide) ?_
      obtain rfl := xe1 hf
      exact x_zret S hr hlocks hw (by decide) d_RR_isPerson_20
    · replace hf := xf c4 hf
      refine lv_iconst (v := 1) S.1 S.2.1 d_RR_isPerson_15 (by decide) ?_
      refine lv_goto (tgt := 20) S.1 S.2.1 d_RR_isPerson_16 (by decide) ?_
      obtain rfl := xe1 hf
      exact x_zret S hr hlocks hw (by decide) d_RR_isPerson_20
def f_RR_person (a0 : Nat) (x1 : Int32) (x2 : Int32) (ω : xS) : Option (Int32 × xS) :=
  (xk ω a0 11 (f_RR_isPerson a0 x1 ω)).bind fun t2 =>
  if t2 = 0 then (
    some ((-1), ω))
  else (
    if x2 < 0 then (
      some ((-1), ω))
    else (
      if x2 < 1024 then (
        (xgr ω a0 11 1).bind fun t6 =>
        (xgr ω t6 8 5).bind fun t7 =>
        (xsi ω t7 x1 x2).bind fun w8 =>
        some (1, w8))
      else (
        some ((-1), ω))))
set_option maxHeartbeats 4000000 in
set_option maxRecDepth 100000 in
theorem c_RR_person {l : Launch} {E : xV} {z : Nat} {a0 : Nat} {x1 : Int32} {x2 : Int32} {r : Int32} {ω1 : xS} {ω : xS} (hf : f_RR_person a0 x1 x2 ω = some (r, ω1)) : xM l E y_RR_person ws_RR_person { frames := 1, cells := 0, slots := 0, locals := 21 } [.ref a0, .int x1, .int x2] z ω (some (.int r)) z ω1 := by
  refine x_start (cc := b_RR_person) (maxL := 3) (ret := (some .int)) (by decide) rfl (Nat.le_of_ble_eq_true rfl) ?_
  intro p e s m below meth c S hr hlocks hin ls hl hw
  have hl : lv_has ls 3 [(0, .ref a0), (1, .int x1), (2, .int x2)] := hl
  unfold f_RR_person at hf
  refine lv_aload_n S.1 S.2.1 d_RR_person_0 rfl (lv_at hl 0 rfl) ?_
  refine lv_iload_n S.1 S.2.1 d_RR_person_1 rfl (lv_at hl 1 rfl) ?_
  obtain ⟨t2, h1, hf⟩ := xb hf
  obtain ⟨h1b, h1⟩ := xkb h1
  refine x_callV (As := [.int x1]) (rest := []) (st1 := [.int t2]) S hw (c_RR_isPerson h1) (cwV 1 S.2.2.2.2 gv_RR_114 rfl rfl rfl hd_RR_isPerson ⟨Nat.le_of_ble_eq_true rfl, Nat.le_of_ble_eq_true rfl⟩) rfl h1b rfl hl.1 rfl rfl (Nat.le_of_ble_eq_true rfl) d_RR_person_2 ⟨Nat.le_of_ble_eq_true rfl, Nat.le_of_ble_eq_true rfl⟩ (fun H locs hw => ?_)
  refine lv_if_eq (tgt := 19) S.1 S.2.1 d_RR_person_5 (by decide) (fun c3 => ?_) (fun c3 => ?_)
  · replace hf := xt c3 hf
    refine lv_iconst (v := (-1)) S.1 S.2.1 d_RR_person_19 (by decide) ?_
    obtain ⟨rfl, rfl⟩ := xe2 hf
    exact x_iret S hr hlocks hw d_RR_person_20
  · replace hf := xf c3 hf
    refine lv_iload_n S.1 S.2.1 d_RR_person_8 rfl (lv_at hl 2 rfl) ?_
    refine lv_if_lt (tgt := 19) S.1 S.2.1 d_RR_person_9 (by decide) (fun c4 => ?_) (fun c4 => ?_)
    · replace hf := xt c4 hf
      refine lv_iconst (v := (-1)) S.1 S.2.1 d_RR_person_19 (by decide) ?_
      obtain ⟨rfl, rfl⟩ := xe2 hf
      exact x_iret S hr hlocks hw d_RR_person_20
    · replace hf := xf c4 hf
      refine lv_iload_n S.1 S.2.1 d_RR_person_12 rfl (lv_at hl 2 rfl) ?_
      refine lv_sipush (v := 1024) S.1 S.2.1 d_RR_person_13 (by decide) ?_
      refine lv_icmp_lt (tgt := 21) S.1 S.2.1 d_RR_person_16 (by decide) (fun c5 => ?_) (fun c5 => ?_)
      · replace hf := xt c5 hf
        refine lv_aload_n S.1 S.2.1 d_RR_person_21 rfl (lv_at hl 0 rfl) ?_
        obtain ⟨t6, ht6, hf⟩ := xb hf
        refine x_getr S hw lk_RR_53 ht6 d_RR_person_22 ?_
        obtain ⟨t7, ht7, hf⟩ := xb hf
        refine x_getr S hw lk_RR_117 ht7 d_RR_person_25 ?_
        refine lv_iload_n S.1 S.2.1 d_RR_person_28 rfl (lv_at hl 1 rfl) ?_
        refine lv_iload_n S.1 S.2.1 d_RR_person_29 rfl (lv_at hl 2 rfl) ?_
        obtain ⟨w8, hw8, hf⟩ := xb hf
        refine x_iast S hw hw8 d_RR_person_30 (fun H locs hw => ?_)
        refine lv_iconst (v := 1) S.1 S.2.1 d_RR_person_31 (by decide) ?_
        obtain ⟨rfl, rfl⟩ := xe2 hf
        exact x_iret S hr hlocks hw d_RR_person_32
      · replace hf := xf c5 hf
        refine lv_iconst (v := (-1)) S.1 S.2.1 d_RR_person_19 (by decide) ?_
        obtain ⟨rfl, rfl⟩ := xe2 hf
        exact x_iret S hr hlocks hw d_RR_person_20
def f_RR_isShiftOrOff (a0 : Nat) (x1 : Int32) (ω : xS) : Option Int32 :=
  if x1 = (-1) then (
    some 1)
  else (
    (xk ω a0 11 (f_RR_isShift a0 x1 ω)).bind fun t3 =>
    if t3 = 0 then (
      some 0)
    else (
      some 1))
set_option maxHeartbeats 4000000 in
set_option maxRecDepth 100000 in
theorem c_RR_isShiftOrOff {l : Launch} {E : xV} {z : Nat} {a0 : Nat} {x1 : Int32} {r : Int32} {ω : xS} (hf : f_RR_isShiftOrOff a0 x1 ω = some r) : xM l E y_RR_isShiftOrOff ws_RR_isShiftOrOff { frames := 1, cells := 0, slots := 0, locals := 21 } [.ref a0, .int x1] z ω (some (.int r)) z ω := by
  refine x_start (cc := b_RR_isShiftOrOff) (maxL := 2) (ret := (some .boolean)) (by decide) rfl (Nat.le_of_ble_eq_true rfl) ?_
  intro p e s m below meth c S hr hlocks hin ls hl hw
  have hl : lv_has ls 2 [(0, .ref a0), (1, .int x1)] := hl
  unfold f_RR_isShiftOrOff at hf
  refine lv_iload_n S.1 S.2.1 d_RR_isShiftOrOff_0 rfl (lv_at hl 1 rfl) ?_
  refine lv_iconst (v := (-1)) S.1 S.2.1 d_RR_isShiftOrOff_1 (by decide) ?_
  refine lv_icmp_eq (tgt := 13) S.1 S.2.1 d_RR_isShiftOrOff_2 (by decide) (fun c1 => ?_) (fun c1 => ?_)
  · replace hf := xt c1 hf
    refine lv_iconst (v := 1) S.1 S.2.1 d_RR_isShiftOrOff_13 (by decide) ?_
    refine lv_goto (tgt := 18) S.1 S.2.1 d_RR_isShiftOrOff_14 (by decide) ?_
    obtain rfl := xe1 hf
    exact x_zret S hr hlocks hw (by decide) d_RR_isShiftOrOff_18
  · replace hf := xf c1 hf
    refine lv_aload_n S.1 S.2.1 d_RR_isShiftOrOff_5 rfl (lv_at hl 0 rfl) ?_
    refine lv_iload_n S.1 S.2.1 d_RR_isShiftOrOff_6 rfl (lv_at hl 1 rfl) ?_
    obtain ⟨t3, h2, hf⟩ := xb hf
    obtain ⟨h2b, h2⟩ := xkb h2
    refine x_callV (As := [.int x1]) (rest := []) (st1 := [.int t3]) S hw (c_RR_isShift h2) (cwV 1 S.2.2.2.2 gv_RR_100 rfl rfl rfl hd_RR_isShift ⟨Nat.le_of_ble_eq_true rfl, Nat.le_of_ble_eq_true rfl⟩) rfl h2b rfl hl.1 rfl rfl (Nat.le_of_ble_eq_true rfl) d_RR_isShiftOrOff_7 ⟨Nat.le_of_ble_eq_true rfl, Nat.le_of_ble_eq_true rfl⟩ (fun H locs hw => ?_)
    refine lv_if_eq (tgt := 17) S.1 S.2.1 d_RR_isShiftOrOff_10 (by decide) (fun c4 => ?_) (fun c4 => ?_)
    · replace hf := xt c4 hf
      refine lv_iconst (v := 0) S.1 S.2.1 d_RR_isShiftOrOff_17 (by decide) ?_
      obtain rfl := xe1 hf
      exact x_zret S hr hlocks hw (by decide) d_RR_isShiftOrOff_18
    · replace hf := xf c4 hf
      refine lv_iconst (v := 1) S.1 S.2.1 d_RR_isShiftOrOff_13 (by decide) ?_
      refine lv_goto (tgt := 18) S.1 S.2.1 d_RR_isShiftOrOff_14 (by decide) ?_
      obtain rfl := xe1 hf
      exact x_zret S hr hlocks hw (by decide) d_RR_isShiftOrOff_18
def f_RR_past (a0 : Nat) (x1 : Int32) (x2 : Int32) (x3 : Int32) (ω : xS) : Option (Int32 × xS) :=
  (xk ω a0 11 (f_RR_isPerson a0 x1 ω)).bind fun t2 =>
  if t2 = 0 then (
    some ((-9), ω))
  else (
    if x2 < 1 then (
      some ((-9), ω))
    else (
      if 7 < x2 then (
        some ((-9), ω))
      else (
        (xk ω a0 11 (f_RR_isShiftOrOff a0 x3 ω)).bind fun t7 =>
        if t7 = 0 then (
          some ((-9), ω))
        else (
          (xgr ω a0 11 1).bind fun t9 =>
          (xgr ω t9 8 6).bind fun t10 =>
          (xar ω 2 t10 x1).bind fun t11 =>
          (xai ω t11 (7 - x2)).bind fun t12 =>
          (xgr ω a0 11 1).bind fun t13 =>
          (xgr ω t13 8 6).bind fun t14 =>
          (xar ω 2 t14 x1).bind fun t15 =>
          (xsi ω t15 (7 - x2) (x3 + 1)).bind fun w16 =>
          some ((t12 - 1), w16)))))
set_option maxHeartbeats 4000000 in
set_option maxRecDepth 100000 in
theorem c_RR_past {l : Launch} {E : xV} {z : Nat} {a0 : Nat} {x1 : Int32} {x2 : Int32} {x3 : Int32} {r : Int32} {ω1 : xS} {ω : xS} (hf : f_RR_past a0 x1 x2 x3 ω = some (r, ω1)) : xM l E y_RR_past ws_RR_past { frames := 2, cells := 0, slots := 0, locals := 42 } [.ref a0, .int x1, .int x2, .int x3] z ω (some (.int r)) z ω1 := by
  refine x_start (cc := b_RR_past) (maxL := 5) (ret := (some .int)) (by decide) rfl (Nat.le_of_ble_eq_true rfl) ?_
  intro p e s m below meth c S hr hlocks hin ls hl hw
  have hl : lv_has ls 5 [(0, .ref a0), (1, .int x1), (2, .int x2), (3, .int x3)] := hl
  unfold f_RR_past at hf
  refine lv_aload_n S.1 S.2.1 d_RR_past_0 rfl (lv_at hl 0 rfl) ?_
  refine lv_iload_n S.1 S.2.1 d_RR_past_1 rfl (lv_at hl 1 rfl) ?_
  obtain ⟨t2, h1, hf⟩ := xb hf
  obtain ⟨h1b, h1⟩ := xkb h1
  refine x_callV (As := [.int x1]) (rest := []) (st1 := [.int t2]) S hw (c_RR_isPerson h1) (cwV 1 S.2.2.2.2 gv_RR_114 rfl rfl rfl hd_RR_isPerson ⟨Nat.le_of_ble_eq_true rfl, Nat.le_of_ble_eq_true rfl⟩) rfl h1b rfl hl.1 rfl rfl (Nat.le_of_ble_eq_true rfl) d_RR_past_2 ⟨Nat.le_of_ble_eq_true rfl, Nat.le_of_ble_eq_true rfl⟩ (fun H locs hw => ?_)
  refine lv_if_eq (tgt := 27) S.1 S.2.1 d_RR_past_5 (by decide) (fun c3 => ?_) (fun c3 => ?_)
  · replace hf := xt c3 hf
    refine lv_bipush (v := (-9)) S.1 S.2.1 d_RR_past_27 (by decide) ?_
    obtain ⟨rfl, rfl⟩ := xe2 hf
    exact x_iret S hr hlocks hw d_RR_past_29
  · replace hf := xf c3 hf
    refine lv_iload_n S.1 S.2.1 d_RR_past_8 rfl (lv_at hl 2 rfl) ?_
    refine lv_iconst (v := 1) S.1 S.2.1 d_RR_past_9 (by decide) ?_
    refine lv_icmp_lt (tgt := 27) S.1 S.2.1 d_RR_past_10 (by decide) (fun c4 => ?_) (fun c4 => ?_)
    · replace hf := xt c4 hf
      refine lv_bipush (v := (-9)) S.1 S.2.1 d_RR_past_27 (by decide) ?_
      obtain ⟨rfl, rfl⟩ := xe2 hf
      exact x_iret S hr hlocks hw d_RR_past_29
    · replace hf := xf c4 hf
      refine lv_iload_n S.1 S.2.1 d_RR_past_13 rfl (lv_at hl 2 rfl) ?_
      refine lv_bipush (v := 7) S.1 S.2.1 d_RR_past_14 (by decide) ?_
      refine lv_icmp_gt (tgt := 27) S.1 S.2.1 d_RR_past_16 (by decide) (fun c5 => ?_) (fun c5 => ?_)
      · replace hf := xt c5 hf
        refine lv_bipush (v := (-9)) S.1 S.2.1 d_RR_past_27 (by decide) ?_
        obtain ⟨rfl, rfl⟩ := xe2 hf
        exact x_iret S hr hlocks hw d_RR_past_29
      · replace hf := xf c5 hf
        refine lv_aload_n S.1 S.2.1 d_RR_past_19 rfl (lv_at hl 0 rfl) ?_
        refine lv_iload_n S.1 S.2.1 d_RR_past_20 rfl (lv_at hl 3 rfl) ?_
        obtain ⟨t7, h6, hf⟩ := xb hf
        obtain ⟨h6b, h6⟩ := xkb h6
        refine x_callV (As := [.int x3]) (rest := []) (st1 := [.int t7]) S hw (c_RR_isShiftOrOff h6) (cwV 1 S.2.2.2.2 gv_RR_120 rfl rfl rfl hd_RR_isShiftOrOff ⟨Nat.le_of_ble_eq_true rfl, Nat.le_of_ble_eq_true rfl⟩) rfl h6b rfl hl.1 rfl rfl (Nat.le_of_ble_eq_true rfl) d_RR_past_21 ⟨Nat.le_of_ble_eq_true rfl, Nat.le_of_ble_eq_true rfl⟩ (fun H locs hw => ?_)
        refine lv_if_ne (tgt := 30) S.1 S.2.1 d_RR_past_24 (by decide) (fun c8 => ?_) (fun c8 => ?_)
        · replace hf := xf c8 hf
          refine lv_aload_n S.1 S.2.1 d_RR_past_30 rfl (lv_at hl 0 rfl) ?_
          obtain ⟨t9, ht9, hf⟩ := xb hf
          refine x_getr S hw lk_RR_53 ht9 d_RR_past_31 ?_
          obtain ⟨t10, ht10, hf⟩ := xb hf
          refine x_getr S hw lk_RR_123 ht10 d_RR_past_34 ?_
          refine lv_iload_n S.1 S.2.1 d_RR_past_37 rfl (lv_at hl 1 rfl) ?_
          obtain ⟨t11, ht11, hf⟩ := xb hf
          refine x_aald S hw (t := 2) rfl rfl ht11 d_RR_past_38 ?_
          refine lv_bipush (v := 7) S.1 S.2.1 d_RR_past_39 (by decide) ?_
          refine lv_iload_n S.1 S.2.1 d_RR_past_41 rfl (lv_at hl 2 rfl) ?_
          refine lv_isub S.1 S.2.1 d_RR_past_42 ?_
          obtain ⟨t12, ht12, hf⟩ := xb hf
          refine x_iald S hw ht12 d_RR_past_43 ?_
          refine lv_istore (lv' := [(4, .int t12), (0, .ref a0), (1, .int x1), (2, .int x2), (3, .int x3)]) S.1 S.2.1 d_RR_past_44 hl (by decide) rfl (fun ls hl => ?_)
          refine lv_aload_n S.1 S.2.1 d_RR_past_46 rfl (lv_at hl 1 rfl) ?_
          obtain ⟨t13, ht13, hf⟩ := xb hf
          refine x_getr S hw lk_RR_53 ht13 d_RR_past_47 ?_
          obtain ⟨t14, ht14, hf⟩ := xb hf
          refine x_getr S hw lk_RR_123 ht14 d_RR_past_50 ?_
          refine lv_iload_n S.1 S.2.1 d_RR_past_53 rfl (lv_at hl 2 rfl) ?_
          obtain ⟨t15, ht15, hf⟩ := xb hf
          refine x_aald S hw (t := 2) rfl rfl ht15 d_RR_past_54 ?_
          refine lv_bipush (v := 7) S.1 S.2.1 d_RR_past_55 (by decide) ?_
          refine lv_iload_n S.1 S.2.1 d_RR_past_57 rfl (lv_at hl 3 rfl) ?_
          refine lv_isub S.1 S.2.1 d_RR_past_58 ?_
          refine lv_iload_n S.1 S.2.1 d_RR_past_59 rfl (lv_at hl 4 rfl) ?_
          refine lv_iconst (v := 1) S.1 S.2.1 d_RR_past_60 (by decide) ?_
          refine lv_iadd S.1 S.2.1 d_RR_past_61 ?_
          obtain ⟨w16, hw16, hf⟩ := xb hf
          refine x_iast S hw hw16 d_RR_past_62 (fun H locs hw => ?_)
          refine lv_iload S.1 S.2.1 d_RR_past_63 (lv_at hl 0 rfl) ?_
          refine lv_iconst (v := 1) S.1 S.2.1 d_RR_past_65 (by decide) ?_
          refine lv_isub S.1 S.2.1 d_RR_past_66 ?_
          obtain ⟨rfl, rfl⟩ := xe2 hf
          exact x_iret S hr hlocks hw d_RR_past_67
        · replace hf := xt c8 hf
          refine lv_bipush (v := (-9)) S.1 S.2.1 d_RR_past_27 (by decide) ?_
          obtain ⟨rfl, rfl⟩ := xe2 hf
          exact x_iret S hr hlocks hw d_RR_past_29
def f_RR_isDay (a0 : Nat) (x1 : Int32) (ω : xS) : Option Int32 :=
  if x1 < 0 then (
    some 0)
  else (
    (xgr ω a0 11 1).bind fun t2 =>
    (xgi ω t2 8 1).bind fun t3 =>
    if t3 ≤ x1 then (
      some 0)
    else (
      some 1))
set_option maxHeartbeats 4000000 in
set_option maxRecDepth 100000 in
theorem c_RR_isDay {l : Launch} {E : xV} {z : Nat} {a0 : Nat} {x1 : Int32} {r : Int32} {ω : xS} (hf : f_RR_isDay a0 x1 ω = some r) : xM l E y_RR_isDay ws_RR_isDay { frames := 0, cells := 0, slots := 0, locals := 0 } [.ref a0, .int x1] z ω (some (.int r)) z ω := by
  refine x_start (cc := b_RR_isDay) (maxL := 2) (ret := (some .boolean)) (by decide) rfl (Nat.le_of_ble_eq_true rfl) ?_
  intro p e s m below meth c S hr hlocks hin ls hl hw
  have hl : lv_has ls 2 [(0, .ref a0), (1, .int x1)] := hl
  unfold f_RR_isDay at hf
  refine lv_iload_n S.1 S.2.1 d_RR_isDay_0 rfl (lv_at hl 1 rfl) ?_
  refine lv_if_lt (tgt := 19) S.1 S.2.1 d_RR_isDay_1 (by decide) (fun c1 => ?_) (fun c1 => ?_)
  · replace hf := xt c1 hf
    refine lv_iconst (v := 0) S.1 S.2.1 d_RR_isDay_19 (by decide) ?_
    obtain rfl := xe1 hf
    exact x_zret S hr hlocks hw (by decide) d_RR_isDay_20
  · replace hf := xf c1 hf
    refine lv_iload_n S.1 S.2.1 d_RR_isDay_4 rfl (lv_at hl 1 rfl) ?_
    refine lv_aload_n S.1 S.2.1 d_RR_isDay_5 rfl (lv_at hl 0 rfl) ?_
    obtain ⟨t2, ht2, hf⟩ := xb hf
    refine x_getr S hw lk_RR_53 ht2 d_RR_isDay_6 ?_
    obtain ⟨t3, ht3, hf⟩ := xb hf
    refine x_geti S hw lk_RR_68 ht3 d_RR_isDay_9 ?_
    refine lv_icmp_ge (tgt := 19) S.1 S.2.1 d_RR_isDay_12 (by decide) (fun c4 => ?_) (fun c4 => ?_)
    · replace hf := xt c4 hf
      refine lv_iconst (v := 0) S.1 S.2.1 d_RR_isDay_19 (by decide) ?_
      obtain rfl := xe1 hf
      exact x_zret S hr hlocks hw (by decide) d_RR_isDay_20
    · replace hf := xf c4 hf
      refine lv_iconst (v := 1) S.1 S.2.1 d_RR_isDay_15 (by decide) ?_
      refine lv_goto (tgt := 20) S.1 S.2.1 d_RR_isDay_16 (by decide) ?_
      obtain rfl := xe1 hf
      exact x_zret S hr hlocks hw (by decide) d_RR_isDay_20
def f_RR_isCell (a0 : Nat) (x1 : Int32) (x2 : Int32) (ω : xS) : Option Int32 :=
  (xk ω a0 11 (f_RR_isPerson a0 x1 ω)).bind fun t2 =>
  if t2 = 0 then (
    some 0)
  else (
    (xk ω a0 11 (f_RR_isDay a0 x2 ω)).bind fun t5 =>
    if t5 = 0 then (
      some 0)
    else (
      some 1))
set_option maxHeartbeats 4000000 in
set_option maxRecDepth 100000 in
theorem c_RR_isCell {l : Launch} {E : xV} {z : Nat} {a0 : Nat} {x1 : Int32} {x2 : Int32} {r : Int32} {ω : xS} (hf : f_RR_isCell a0 x1 x2 ω = some r) : xM l E y_RR_isCell ws_RR_isCell { frames := 1, cells := 0, slots := 0, locals := 21 } [.ref a0, .int x1, .int x2] z ω (some (.int r)) z ω := by
  refine x_start (cc := b_RR_isCell) (maxL := 3) (ret := (some .boolean)) (by decide) rfl (Nat.le_of_ble_eq_true rfl) ?_
  intro p e s m below meth c S hr hlocks hin ls hl hw
  have hl : lv_has ls 3 [(0, .ref a0), (1, .int x1), (2, .int x2)] := hl
  unfold f_RR_isCell at hf
  refine lv_aload_n S.1 S.2.1 d_RR_isCell_0 rfl (lv_at hl 0 rfl) ?_
  refine lv_iload_n S.1 S.2.1 d_RR_isCell_1 rfl (lv_at hl 1 rfl) ?_
  obtain ⟨t2, h1, hf⟩ := xb hf
  obtain ⟨h1b, h1⟩ := xkb h1
  refine x_callV (As := [.int x1]) (rest := []) (st1 := [.int t2]) S hw (c_RR_isPerson h1) (cwV 1 S.2.2.2.2 gv_RR_114 rfl rfl rfl hd_RR_isPerson ⟨Nat.le_of_ble_eq_true rfl, Nat.le_of_ble_eq_true rfl⟩) rfl h1b rfl hl.1 rfl rfl (Nat.le_of_ble_eq_true rfl) d_RR_isCell_2 ⟨Nat.le_of_ble_eq_true rfl, Nat.le_of_ble_eq_true rfl⟩ (fun H locs hw => ?_)
  refine lv_if_eq (tgt := 20) S.1 S.2.1 d_RR_isCell_5 (by decide) (fun c3 => ?_) (fun c3 => ?_)
  · replace hf := xt c3 hf
    refine lv_iconst (v := 0) S.1 S.2.1 d_RR_isCell_20 (by decide) ?_
    obtain rfl := xe1 hf
    exact x_zret S hr hlocks hw (by decide) d_RR_isCell_21
  · replace hf := xf c3 hf
    refine lv_aload_n S.1 S.2.1 d_RR_isCell_8 rfl (lv_at hl 0 rfl) ?_
    refine lv_iload_n S.1 S.2.1 d_RR_isCell_9 rfl (lv_at hl 2 rfl) ?_
    obtain ⟨t5, h4, hf⟩ := xb hf
    obtain ⟨h4b, h4⟩ := xkb h4
    refine x_callV (As := [.int x2]) (rest := []) (st1 := [.int t5]) S hw (c_RR_isDay h4) (cwV 1 S.2.2.2.2 gv_RR_187 rfl rfl rfl hd_RR_isDay ⟨Nat.le_of_ble_eq_true rfl, Nat.le_of_ble_eq_true rfl⟩) rfl h4b rfl hl.1 rfl rfl (Nat.le_of_ble_eq_true rfl) d_RR_isCell_10 ⟨Nat.le_of_ble_eq_true rfl, Nat.le_of_ble_eq_true rfl⟩ (fun H locs hw => ?_)
    refine lv_if_eq (tgt := 20) S.1 S.2.1 d_RR_isCell_13 (by decide) (fun c6 => ?_) (fun c6 => ?_)
    · replace hf := xt c6 hf
      refine lv_iconst (v := 0) S.1 S.2.1 d_RR_isCell_20 (by decide) ?_
      obtain rfl := xe1 hf
      exact x_zret S hr hlocks hw (by decide) d_RR_isCell_21
    · replace hf := xf c6 hf
      refine lv_iconst (v := 1) S.1 S.2.1 d_RR_isCell_16 (by decide) ?_
      refine lv_goto (tgt := 21) S.1 S.2.1 d_RR_isCell_17 (by decide) ?_
      obtain rfl := xe1 hf
      exact x_zret S hr hlocks hw (by decide) d_RR_isCell_21
def f_RR_wish (a0 : Nat) (x1 : Int32) (x2 : Int32) (x3 : Int32) (x4 : Int32) (ω : xS) : Option (Int32 × xS) :=
  (xk ω a0 11 (f_RR_isCell a0 x1 x2 ω)).bind fun t2 =>
  if t2 = 0 then (
    some ((-1), ω))
  else (
    (xk ω a0 11 (f_RR_isShiftOrOff a0 x3 ω)).bind fun t5 =>
    if t5 = 0 then (
      some ((-1), ω))
    else (
      if x4 < 0 then (
        some ((-1), ω))
      else (
        if x4 ≤ 1000 then (
          (xgr ω a0 11 1).bind fun t9 =>
          (xk ω t9 8 (f_Roster_setWish t9 x1 x2 (x3 + 1) x4 ω)).bind fun w12 =>
          some (1, w12))
        else (
          some ((-1), ω)))))
set_option maxHeartbeats 4000000 in
set_option maxRecDepth 100000 in
theorem c_RR_wish {l : Launch} {E : xV} {z : Nat} {a0 : Nat} {x1 : Int32} {x2 : Int32} {x3 : Int32} {x4 : Int32} {r : Int32} {ω1 : xS} {ω : xS} (hf : f_RR_wish a0 x1 x2 x3 x4 ω = some (r, ω1)) : xM l E y_RR_wish ws_RR_wish { frames := 2, cells := 0, slots := 0, locals := 43 } [.ref a0, .int x1, .int x2, .int x3, .int x4] z ω (some (.int r)) z ω1 := by
  refine x_start (cc := b_RR_wish) (maxL := 5) (ret := (some .int)) (by decide) rfl (Nat.le_of_ble_eq_true rfl) ?_
  intro p e s m below meth c S hr hlocks hin ls hl hw
  have hl : lv_has ls 5 [(0, .ref a0), (1, .int x1), (2, .int x2), (3, .int x3), (4, .int x4)] := hl
  unfold f_RR_wish at hf
  refine lv_aload_n S.1 S.2.1 d_RR_wish_0 rfl (lv_at hl 0 rfl) ?_
  refine lv_iload_n S.1 S.2.1 d_RR_wish_1 rfl (lv_at hl 1 rfl) ?_
  refine lv_iload_n S.1 S.2.1 d_RR_wish_2 rfl (lv_at hl 2 rfl) ?_
  obtain ⟨t2, h1, hf⟩ := xb hf
  obtain ⟨h1b, h1⟩ := xkb h1
  refine x_callV (As := [.int x1, .int x2]) (rest := []) (st1 := [.int t2]) S hw (c_RR_isCell h1) (cwV 2 S.2.2.2.2 gv_RR_127 rfl rfl rfl hd_RR_isCell ⟨Nat.le_of_ble_eq_true rfl, Nat.le_of_ble_eq_true rfl⟩) rfl h1b rfl hl.1 rfl rfl (Nat.le_of_ble_eq_true rfl) d_RR_wish_3 ⟨Nat.le_of_ble_eq_true rfl, Nat.le_of_ble_eq_true rfl⟩ (fun H locs hw => ?_)
  refine lv_if_eq (tgt := 30) S.1 S.2.1 d_RR_wish_6 (by decide) (fun c3 => ?_) (fun c3 => ?_)
  · replace hf := xt c3 hf
    refine lv_iconst (v := (-1)) S.1 S.2.1 d_RR_wish_30 (by decide) ?_
    obtain ⟨rfl, rfl⟩ := xe2 hf
    exact x_iret S hr hlocks hw d_RR_wish_31
  · replace hf := xf c3 hf
    refine lv_aload_n S.1 S.2.1 d_RR_wish_9 rfl (lv_at hl 0 rfl) ?_
    refine lv_iload_n S.1 S.2.1 d_RR_wish_10 rfl (lv_at hl 3 rfl) ?_
    obtain ⟨t5, h4, hf⟩ := xb hf
    obtain ⟨h4b, h4⟩ := xkb h4
    refine x_callV (As := [.int x3]) (rest := []) (st1 := [.int t5]) S hw (c_RR_isShiftOrOff h4) (cwV 1 S.2.2.2.2 gv_RR_120 rfl rfl rfl hd_RR_isShiftOrOff ⟨Nat.le_of_ble_eq_true rfl, Nat.le_of_ble_eq_true rfl⟩) rfl h4b rfl hl.1 rfl rfl (Nat.le_of_ble_eq_true rfl) d_RR_wish_11 ⟨Nat.le_of_ble_eq_true rfl, Nat.le_of_ble_eq_true rfl⟩ (fun H locs hw => ?_)
    refine lv_if_eq (tgt := 30) S.1 S.2.1 d_RR_wish_14 (by decide) (fun c6 => ?_) (fun c6 => ?_)
    · replace hf := xt c6 hf
      refine lv_iconst (v := (-1)) S.1 S.2.1 d_RR_wish_30 (by decide) ?_
      obtain ⟨rfl, rfl⟩ := xe2 hf
      exact x_iret S hr hlocks hw d_RR_wish_31
    · replace hf := xf c6 hf
      refine lv_iload S.1 S.2.1 d_RR_wish_17 (lv_at hl 4 rfl) ?_
      refine lv_if_lt (tgt := 30) S.1 S.2.1 d_RR_wish_19 (by decide) (fun c7 => ?_) (fun c7 => ?_)
      · replace hf := xt c7 hf
        refine lv_iconst (v := (-1)) S.1 S.2.1 d_RR_wish_30 (by decide) ?_
        obtain ⟨rfl, rfl⟩ := xe2 hf
        exact x_iret S hr hlocks hw d_RR_wish_31
      · replace hf := xf c7 hf
        refine lv_iload S.1 S.2.1 d_RR_wish_22 (lv_at hl 4 rfl) ?_
        refine lv_sipush (v := 1000) S.1 S.2.1 d_RR_wish_24 (by decide) ?_
        refine lv_icmp_le (tgt := 32) S.1 S.2.1 d_RR_wish_27 (by decide) (fun c8 => ?_) (fun c8 => ?_)
        · replace hf := xt c8 hf
          refine lv_aload_n S.1 S.2.1 d_RR_wish_32 rfl (lv_at hl 0 rfl) ?_
          obtain ⟨t9, ht9, hf⟩ := xb hf
          refine x_getr S hw lk_RR_53 ht9 d_RR_wish_33 ?_
          refine lv_iload_n S.1 S.2.1 d_RR_wish_36 rfl (lv_at hl 1 rfl) ?_
          refine lv_iload_n S.1 S.2.1 d_RR_wish_37 rfl (lv_at hl 2 rfl) ?_
          refine lv_iload_n S.1 S.2.1 d_RR_wish_38 rfl (lv_at hl 3 rfl) ?_
          refine lv_iconst (v := 1) S.1 S.2.1 d_RR_wish_39 (by decide) ?_
          refine lv_iadd S.1 S.2.1 d_RR_wish_40 ?_
          refine lv_iload S.1 S.2.1 d_RR_wish_41 (lv_at hl 4 rfl) ?_
          obtain ⟨w12, h10, hf⟩ := xb hf
          obtain ⟨h10b, h10⟩ := xkb h10
          refine x_callV (As := [.int x1, .int x2, .int (x3 + 1), .int x4]) (rest := []) (st1 := []) S hw (c_Roster_setWish h10) (cwV 4 S.2.2.2.2 gv_RR_131 rfl rfl rfl hd_Roster_setWish ⟨Nat.le_of_ble_eq_true rfl, Nat.le_of_ble_eq_true rfl⟩) rfl h10b rfl hl.1 rfl rfl (Nat.le_of_ble_eq_true rfl) d_RR_wish_43 ⟨Nat.le_of_ble_eq_true rfl, Nat.le_of_ble_eq_true rfl⟩ (fun H locs hw => ?_)
          refine lv_iconst (v := 1) S.1 S.2.1 d_RR_wish_46 (by decide) ?_
          obtain ⟨rfl, rfl⟩ := xe2 hf
          exact x_iret S hr hlocks hw d_RR_wish_47
        · replace hf := xf c8 hf
          refine lv_iconst (v := (-1)) S.1 S.2.1 d_RR_wish_30 (by decide) ?_
          obtain ⟨rfl, rfl⟩ := xe2 hf
          exact x_iret S hr hlocks hw d_RR_wish_31
def f_RR_at (a0 : Nat) (x1 : Int32) (x2 : Int32) (ω : xS) : Option Int32 :=
  (xk ω a0 11 (f_RR_isCell a0 x1 x2 ω)).bind fun t2 =>
  if t2 = 0 then (
    some (-9))
  else (
    (xgr ω a0 11 1).bind fun t4 =>
    (xk ω t4 8 (f_Roster_letterOf t4 x1 x2 ω)).bind fun t6 =>
    some (t6 - 1))
set_option maxHeartbeats 4000000 in
set_option maxRecDepth 100000 in
theorem c_RR_at {l : Launch} {E : xV} {z : Nat} {a0 : Nat} {x1 : Int32} {x2 : Int32} {r : Int32} {ω : xS} (hf : f_RR_at a0 x1 x2 ω = some r) : xM l E y_RR_at ws_RR_at { frames := 2, cells := 0, slots := 0, locals := 43 } [.ref a0, .int x1, .int x2] z ω (some (.int r)) z ω := by
  refine x_start (cc := b_RR_at) (maxL := 3) (ret := (some .int)) (by decide) rfl (Nat.le_of_ble_eq_true rfl) ?_
  intro p e s m below meth c S hr hlocks hin ls hl hw
  have hl : lv_has ls 3 [(0, .ref a0), (1, .int x1), (2, .int x2)] := hl
  unfold f_RR_at at hf
  refine lv_aload_n S.1 S.2.1 d_RR_at_0 rfl (lv_at hl 0 rfl) ?_
  refine lv_iload_n S.1 S.2.1 d_RR_at_1 rfl (lv_at hl 1 rfl) ?_
  refine lv_iload_n S.1 S.2.1 d_RR_at_2 rfl (lv_at hl 2 rfl) ?_
  obtain ⟨t2, h1, hf⟩ := xb hf
  obtain ⟨h1b, h1⟩ := xkb h1
  refine x_callV (As := [.int x1, .int x2]) (rest := []) (st1 := [.int t2]) S hw (c_RR_isCell h1) (cwV 2 S.2.2.2.2 gv_RR_127 rfl rfl rfl hd_RR_isCell ⟨Nat.le_of_ble_eq_true rfl, Nat.le_of_ble_eq_true rfl⟩) rfl h1b rfl hl.1 rfl rfl (Nat.le_of_ble_eq_true rfl) d_RR_at_3 ⟨Nat.le_of_ble_eq_true rfl, Nat.le_of_ble_eq_true rfl⟩ (fun H locs hw => ?_)
  refine lv_if_eq (tgt := 23) S.1 S.2.1 d_RR_at_6 (by decide) (fun c3 => ?_) (fun c3 => ?_)
  · replace hf := xt c3 hf
    refine lv_bipush (v := (-9)) S.1 S.2.1 d_RR_at_23 (by decide) ?_
    obtain rfl := xe1 hf
    exact x_iret S hr hlocks hw d_RR_at_25
  · replace hf := xf c3 hf
    refine lv_aload_n S.1 S.2.1 d_RR_at_9 rfl (lv_at hl 0 rfl) ?_
    obtain ⟨t4, ht4, hf⟩ := xb hf
    refine x_getr S hw lk_RR_53 ht4 d_RR_at_10 ?_
    refine lv_iload_n S.1 S.2.1 d_RR_at_13 rfl (lv_at hl 1 rfl) ?_
    refine lv_iload_n S.1 S.2.1 d_RR_at_14 rfl (lv_at hl 2 rfl) ?_
    obtain ⟨t6, h5, hf⟩ := xb hf
    obtain ⟨h5b, h5⟩ := xkb h5
    refine x_callV (As := [.int x1, .int x2]) (rest := []) (st1 := [.int t6]) S hw (c_Roster_letterOf h5) (cwV 2 S.2.2.2.2 gv_RR_135 rfl rfl rfl hd_Roster_letterOf ⟨Nat.le_of_ble_eq_true rfl, Nat.le_of_ble_eq_true rfl⟩) rfl h5b rfl hl.1 rfl rfl (Nat.le_of_ble_eq_true rfl) d_RR_at_15 ⟨Nat.le_of_ble_eq_true rfl, Nat.le_of_ble_eq_true rfl⟩ (fun H locs hw => ?_)
    refine lv_iconst (v := 1) S.1 S.2.1 d_RR_at_18 (by decide) ?_
    refine lv_isub S.1 S.2.1 d_RR_at_19 ?_
    refine lv_goto (tgt := 25) S.1 S.2.1 d_RR_at_20 (by decide) ?_
    obtain rfl := xe1 hf
    exact x_iret S hr hlocks hw d_RR_at_25
def f_RR_costAround_13 : Nat → Nat → Int32 → Int32 → Int64 → Int32 → xS → Option Int64
  | 0, _, _, _, _, _, _ => none
  | n + 1, a0, x1, x2, x3, x5, ω =>
    (xgi ω a0 11 8).bind fun t4 =>
    if t4 ≤ x5 then (
      some x3)
    else (
      (xgr ω a0 11 6).bind fun t6 =>
      (xar ω 3 t6 x5).bind fun t7 =>
      (xgi ω t7 4 3).bind fun t8 =>
      (xgr ω a0 11 2).bind fun t9 =>
      (xgr ω a0 11 6).bind fun t10 =>
      (xar ω 3 t10 x5).bind fun t11 =>
      (xk ω t9 3 (f_Judge_aroundCell t9 t11 x1 x2 ω)).bind fun t13 =>
      f_RR_costAround_13  n a0 x1 x2 (x3 + ((Int32.toInt64 t8) * t13)) (x5 + 1) ω)
set_option maxHeartbeats 4000000 in
set_option maxRecDepth 100000 in
theorem w_RR_costAround_13 {p : Program} {l : Launch} {e : Env} {s : State} {m : MethodId} {args : Array Value} {below : List Frame} {meth : Method} {c : Code} {E : xV} {z : Nat} {r : Int64} {ω : xS} (S : CallFix p m c b_RR_costAround 6 s args xTbl "RosterRules") (hr : meth.sig.returnType = (some .long)) (hlocks : meth.locks = false) : ∀ n : Nat, ∀ (a0 : Nat) (x1 : Int32) (x2 : Int32) (x3 : Int64) (x5 : Int32) (H : Heap) (locs : List Loc) (ls : Array Slot), xW E z ω s s.heap H locs → lv_has ls 6 [(0, .ref a0), (1, .int x1), (2, .int x2), (3, .long x3), (5, .int x5)] → f_RR_costAround_13 n a0 x1 x2 x3 x5 ω = some r → W p l e (headSpec ws_RR_costAround { frames := 5, cells := 0, slots := 0, locals := 122 }).room s m args below meth c H locs 0 0 (MQ below (xQ E (some (.long r)) z ω) args s 0 0 (fun q => E.2.2 ≤ q)) (F0 m 13 ls []) := by
  intro n
  induction n with
  | zero =>
    intro a0 x1 x2 x3 x5 H locs ls hw hl hf
    have h2 : (none : Option Int64) = some r := hf
    cases h2
  | succ n ih =>
    intro a0 x1 x2 x3 x5 H locs ls hw hl hf
    rw [f_RR_costAround_13] at hf
    refine lv_iload S.1 S.2.1 d_RR_costAround_13 (lv_at hl 4 rfl) ?_
    refine lv_aload_n S.1 S.2.1 d_RR_costAround_15 rfl (lv_at hl 0 rfl) ?_
    obtain ⟨t4, ht4, hf⟩ := xb hf
    refine x_geti S hw lk_RR_94 ht4 d_RR_costAround_16 ?_
    refine lv_icmp_ge (tgt := 59) S.1 S.2.1 d_RR_costAround_19 (by decide) (fun c5 => ?_) (fun c5 => ?_)
    · replace hf := xt c5 hf
      refine lv_lload_n S.1 S.2.1 d_RR_costAround_59 rfl (lv_at hl 3 rfl) ?_
      obtain rfl := xe1 hf
      exact x_lret S hr hlocks hw d_RR_costAround_60
    · replace hf := xf c5 hf
      refine lv_lload_n S.1 S.2.1 d_RR_costAround_22 rfl (lv_at hl 3 rfl) ?_
      refine lv_aload_n S.1 S.2.1 d_RR_costAround_23 rfl (lv_at hl 0 rfl) ?_
      obtain ⟨t6, ht6, hf⟩ := xb hf
      refine x_getr S hw lk_RR_32 ht6 d_RR_costAround_24 ?_
      refine lv_iload S.1 S.2.1 d_RR_costAround_27 (lv_at hl 4 rfl) ?_
      obtain ⟨t7, ht7, hf⟩ := xb hf
      refine x_aald S hw (t := 3) rfl rfl ht7 d_RR_costAround_29 ?_
      obtain ⟨t8, ht8, hf⟩ := xb hf
      refine x_geti S hw lk_RR_201 ht8 d_RR_costAround_30 ?_
      refine lv_i2l (v := (Int32.toInt64 t8)) S.1 S.2.1 d_RR_costAround_33 rfl ?_
      refine lv_aload_n S.1 S.2.1 d_RR_costAround_34 rfl (lv_at hl 0 rfl) ?_
      obtain ⟨t9, ht9, hf⟩ := xb hf
      refine x_getr S hw lk_RR_62 ht9 d_RR_costAround_35 ?_
      refine lv_aload_n S.1 S.2.1 d_RR_costAround_38 rfl (lv_at hl 0 rfl) ?_
      obtain ⟨t10, ht10, hf⟩ := xb hf
      refine x_getr S hw lk_RR_32 ht10 d_RR_costAround_39 ?_
      refine lv_iload S.1 S.2.1 d_RR_costAround_42 (lv_at hl 4 rfl) ?_
      obtain ⟨t11, ht11, hf⟩ := xb hf
      refine x_aald S hw (t := 3) rfl rfl ht11 d_RR_costAround_44 ?_
      refine lv_iload_n S.1 S.2.1 d_RR_costAround_45 rfl (lv_at hl 1 rfl) ?_
      refine lv_iload_n S.1 S.2.1 d_RR_costAround_46 rfl (lv_at hl 2 rfl) ?_
      obtain ⟨t13, h12, hf⟩ := xb hf
      obtain ⟨h12b, h12⟩ := xkb h12
      refine x_callV (As := [.ref t11, .int x1, .int x2]) (rest := [.long (Int32.toInt64 t8), .long x3]) (st1 := [.long t13, .long (Int32.toInt64 t8), .long x3]) S hw (c_Judge_aroundCell h12) (cwV 3 S.2.2.2.2 gv_RR_266 rfl rfl rfl hd_Judge_aroundCell ⟨Nat.le_of_ble_eq_true rfl, Nat.le_of_ble_eq_true rfl⟩) rfl h12b rfl hl.1 rfl rfl (Nat.le_of_ble_eq_true rfl) d_RR_costAround_47 ⟨Nat.le_of_ble_eq_true rfl, Nat.le_of_ble_eq_true rfl⟩ (fun H locs hw => ?_)
      refine lv_lmul S.1 S.2.1 d_RR_costAround_50 ?_
      refine lv_ladd S.1 S.2.1 d_RR_costAround_51 ?_
      refine lv_lstore_n (lv' := [(3, .long (x3 + ((Int32.toInt64 t8) * t13))), (0, .ref a0), (1, .int x1), (2, .int x2), (5, .int x5)]) S.1 S.2.1 d_RR_costAround_52 rfl hl (by decide) rfl (fun ls hl => ?_)
      refine lv_iinc (v := (x5 + 1)) (lv' := [(5, .int (x5 + 1)), (3, .long (x3 + ((Int32.toInt64 t8) * t13))), (0, .ref a0), (1, .int x1), (2, .int x2)]) S.1 S.2.1 d_RR_costAround_53 hl (k := 4) rfl rfl (by decide) rfl (fun ls hl => ?_)
      refine lv_goto (tgt := 13) S.1 S.2.1 d_RR_costAround_56 (by decide) ?_
      exact ih _ _ _ _ _ _ _ _ hw (lv_sub hl [2, 3, 4, 1, 0] rfl) hf
def f_RR_costAround (a0 : Nat) (x1 : Int32) (x2 : Int32) (ω : xS) : Option Int64 :=
  (xgr ω a0 11 1).bind fun t1 =>
  (xk ω t1 8 (f_Roster_wishCost t1 x1 x2 ω)).bind fun t3 =>
  f_RR_costAround_13  xFU a0 x1 x2 t3 0 ω
set_option maxHeartbeats 4000000 in
set_option maxRecDepth 100000 in
theorem c_RR_costAround {l : Launch} {E : xV} {z : Nat} {a0 : Nat} {x1 : Int32} {x2 : Int32} {r : Int64} {ω : xS} (hf : f_RR_costAround a0 x1 x2 ω = some r) : xM l E y_RR_costAround ws_RR_costAround { frames := 5, cells := 0, slots := 0, locals := 122 } [.ref a0, .int x1, .int x2] z ω (some (.long r)) z ω := by
  refine x_start (cc := b_RR_costAround) (maxL := 6) (ret := (some .long)) (by decide) rfl (Nat.le_of_ble_eq_true rfl) ?_
  intro p e s m below meth c S hr hlocks hin ls hl hw
  have hl : lv_has ls 6 [(0, .ref a0), (1, .int x1), (2, .int x2)] := hl
  unfold f_RR_costAround at hf
  refine lv_aload_n S.1 S.2.1 d_RR_costAround_0 rfl (lv_at hl 0 rfl) ?_
  obtain ⟨t1, ht1, hf⟩ := xb hf
  refine x_getr S hw lk_RR_53 ht1 d_RR_costAround_1 ?_
  refine lv_iload_n S.1 S.2.1 d_RR_costAround_4 rfl (lv_at hl 1 rfl) ?_
  refine lv_iload_n S.1 S.2.1 d_RR_costAround_5 rfl (lv_at hl 2 rfl) ?_
  obtain ⟨t3, h2, hf⟩ := xb hf
  obtain ⟨h2b, h2⟩ := xkb h2
  refine x_callV (As := [.int x1, .int x2]) (rest := []) (st1 := [.long t3]) S hw (c_Roster_wishCost h2) (cwV 2 S.2.2.2.2 gv_RR_262 rfl rfl rfl hd_Roster_wishCost ⟨Nat.le_of_ble_eq_true rfl, Nat.le_of_ble_eq_true rfl⟩) rfl h2b rfl hl.1 rfl rfl (Nat.le_of_ble_eq_true rfl) d_RR_costAround_6 ⟨Nat.le_of_ble_eq_true rfl, Nat.le_of_ble_eq_true rfl⟩ (fun H locs hw => ?_)
  refine lv_lstore_n (lv' := [(3, .long t3), (0, .ref a0), (1, .int x1), (2, .int x2)]) S.1 S.2.1 d_RR_costAround_9 rfl hl (by decide) rfl (fun ls hl => ?_)
  refine lv_iconst (v := 0) S.1 S.2.1 d_RR_costAround_10 (by decide) ?_
  refine lv_istore (lv' := [(5, .int 0), (3, .long t3), (0, .ref a0), (1, .int x1), (2, .int x2)]) S.1 S.2.1 d_RR_costAround_11 hl (by decide) rfl (fun ls hl => ?_)
  exact w_RR_costAround_13 S hr hlocks  _ _ _ _ _ _ _ _ _ hw (lv_sub hl [2, 3, 4, 1, 0] rfl) hf
def f_RR_differenceBy (a0 : Nat) (x1 : Int32) (x2 : Int32) (x3 : Int32) (ω : xS) : Option (Int64 × xS) :=
  (xgr ω a0 11 1).bind fun t1 =>
  (xk ω t1 8 (f_Roster_letterOf t1 x1 x2 ω)).bind fun t3 =>
  (xk ω a0 11 (f_RR_costAround a0 x1 x2 ω)).bind fun t5 =>
  (xgr ω a0 11 1).bind fun t6 =>
  (xk ω t6 8 (f_Roster_setCell t6 x1 x2 x3 ω)).bind fun w9 =>
  (xk w9 a0 11 (f_RR_costAround a0 x1 x2 w9)).bind fun t11 =>
  (xgr w9 a0 11 1).bind fun t12 =>
  (xk w9 t12 8 (f_Roster_setCell t12 x1 x2 t3 w9)).bind fun w15 =>
  some ((t11 - t5), w15)
set_option maxHeartbeats 4000000 in
set_option maxRecDepth 100000 in
theorem c_RR_differenceBy {l : Launch} {E : xV} {z : Nat} {a0 : Nat} {x1 : Int32} {x2 : Int32} {x3 : Int32} {r : Int64} {ω1 : xS} {ω : xS} (hf : f_RR_differenceBy a0 x1 x2 x3 ω = some (r, ω1)) : xM l E y_RR_differenceBy ws_RR_differenceBy { frames := 6, cells := 0, slots := 0, locals := 147 } [.ref a0, .int x1, .int x2, .int x3] z ω (some (.long r)) z ω1 := by
  refine x_start (cc := b_RR_differenceBy) (maxL := 9) (ret := (some .long)) (by decide) rfl (Nat.le_of_ble_eq_true rfl) ?_
  intro p e s m below meth c S hr hlocks hin ls hl hw
  have hl : lv_has ls 9 [(0, .ref a0), (1, .int x1), (2, .int x2), (3, .int x3)] := hl
  unfold f_RR_differenceBy at hf
  refine lv_aload_n S.1 S.2.1 d_RR_differenceBy_0 rfl (lv_at hl 0 rfl) ?_
  obtain ⟨t1, ht1, hf⟩ := xb hf
  refine x_getr S hw lk_RR_53 ht1 d_RR_differenceBy_1 ?_
  refine lv_iload_n S.1 S.2.1 d_RR_differenceBy_4 rfl (lv_at hl 1 rfl) ?_
  refine lv_iload_n S.1 S.2.1 d_RR_differenceBy_5 rfl (lv_at hl 2 rfl) ?_
  obtain ⟨t3, h2, hf⟩ := xb hf
  obtain ⟨h2b, h2⟩ := xkb h2
  refine x_callV (As := [.int x1, .int x2]) (rest := []) (st1 := [.int t3]) S hw (c_Roster_letterOf h2) (cwV 2 S.2.2.2.2 gv_RR_135 rfl rfl rfl hd_Roster_letterOf ⟨Nat.le_of_ble_eq_true rfl, Nat.le_of_ble_eq_true rfl⟩) rfl h2b rfl hl.1 rfl rfl (Nat.le_of_ble_eq_true rfl) d_RR_differenceBy_6 ⟨Nat.le_of_ble_eq_true rfl, Nat.le_of_ble_eq_true rfl⟩ (fun H locs hw => ?_)
  refine lv_istore (lv' := [(4, .int t3), (0, .ref a0), (1, .int x1), (2, .int x2), (3, .int x3)]) S.1 S.2.1 d_RR_differenceBy_9 hl (by decide) rfl (fun ls hl => ?_)
  refine lv_aload_n S.1 S.2.1 d_RR_differenceBy_11 rfl (lv_at hl 1 rfl) ?_
  refine lv_iload_n S.1 S.2.1 d_RR_differenceBy_12 rfl (lv_at hl 2 rfl) ?_
  refine lv_iload_n S.1 S.2.1 d_RR_differenceBy_13 rfl (lv_at hl 3 rfl) ?_
  obtain ⟨t5, h4, hf⟩ := xb hf
  obtain ⟨h4b, h4⟩ := xkb h4
  refine x_callV (As := [.int x1, .int x2]) (rest := []) (st1 := [.long t5]) S hw (c_RR_costAround h4) (cwV 2 S.2.2.2.2 gv_RR_270 rfl rfl rfl hd_RR_costAround ⟨Nat.le_of_ble_eq_true rfl, Nat.le_of_ble_eq_true rfl⟩) rfl h4b rfl hl.1 rfl rfl (Nat.le_of_ble_eq_true rfl) d_RR_differenceBy_14 ⟨Nat.le_of_ble_eq_true rfl, Nat.le_of_ble_eq_true rfl⟩ (fun H locs hw => ?_)
  refine lv_lstore (lv' := [(5, .long t5), (4, .int t3), (0, .ref a0), (1, .int x1), (2, .int x2), (3, .int x3)]) S.1 S.2.1 d_RR_differenceBy_17 hl (by decide) rfl (fun ls hl => ?_)
  refine lv_aload_n S.1 S.2.1 d_RR_differenceBy_19 rfl (lv_at hl 2 rfl) ?_
  obtain ⟨t6, ht6, hf⟩ := xb hf
  refine x_getr S hw lk_RR_53 ht6 d_RR_differenceBy_20 ?_
  refine lv_iload_n S.1 S.2.1 d_RR_differenceBy_23 rfl (lv_at hl 3 rfl) ?_
  refine lv_iload_n S.1 S.2.1 d_RR_differenceBy_24 rfl (lv_at hl 4 rfl) ?_
  refine lv_iload_n S.1 S.2.1 d_RR_differenceBy_25 rfl (lv_at hl 5 rfl) ?_
  obtain ⟨w9, h7, hf⟩ := xb hf
  obtain ⟨h7b, h7⟩ := xkb h7
  refine x_callV (As := [.int x1, .int x2, .int x3]) (rest := []) (st1 := []) S hw (c_Roster_setCell h7) (cwV 3 S.2.2.2.2 gv_RR_162 rfl rfl rfl hd_Roster_setCell ⟨Nat.le_of_ble_eq_true rfl, Nat.le_of_ble_eq_true rfl⟩) rfl h7b rfl hl.1 rfl rfl (Nat.le_of_ble_eq_true rfl) d_RR_differenceBy_26 ⟨Nat.le_of_ble_eq_true rfl, Nat.le_of_ble_eq_true rfl⟩ (fun H locs hw => ?_)
  refine lv_aload_n S.1 S.2.1 d_RR_differenceBy_29 rfl (lv_at hl 2 rfl) ?_
  refine lv_iload_n S.1 S.2.1 d_RR_differenceBy_30 rfl (lv_at hl 3 rfl) ?_
  refine lv_iload_n S.1 S.2.1 d_RR_differenceBy_31 rfl (lv_at hl 4 rfl) ?_
  obtain ⟨t11, h10, hf⟩ := xb hf
  obtain ⟨h10b, h10⟩ := xkb h10
  refine x_callV (As := [.int x1, .int x2]) (rest := []) (st1 := [.long t11]) S hw (c_RR_costAround h10) (cwV 2 S.2.2.2.2 gv_RR_270 rfl rfl rfl hd_RR_costAround ⟨Nat.le_of_ble_eq_true rfl, Nat.le_of_ble_eq_true rfl⟩) rfl h10b rfl hl.1 rfl rfl (Nat.le_of_ble_eq_true rfl) d_RR_differenceBy_32 ⟨Nat.le_of_ble_eq_true rfl, Nat.le_of_ble_eq_true rfl⟩ (fun H locs hw => ?_)
  refine lv_lstore (lv' := [(7, .long t11), (5, .long t5), (4, .int t3), (0, .ref a0), (1, .int x1), (2, .int x2), (3, .int x3)]) S.1 S.2.1 d_RR_differenceBy_35 hl (by decide) rfl (fun ls hl => ?_)
  refine lv_aload_n S.1 S.2.1 d_RR_differenceBy_37 rfl (lv_at hl 3 rfl) ?_
  obtain ⟨t12, ht12, hf⟩ := xb hf
  refine x_getr S hw lk_RR_53 ht12 d_RR_differenceBy_38 ?_
  refine lv_iload_n S.1 S.2.1 d_RR_differenceBy_41 rfl (lv_at hl 4 rfl) ?_
  refine lv_iload_n S.1 S.2.1 d_RR_differenceBy_42 rfl (lv_at hl 5 rfl) ?_
  refine lv_iload S.1 S.2.1 d_RR_differenceBy_43 (lv_at hl 2 rfl) ?_
  obtain ⟨w15, h13, hf⟩ := xb hf
  obtain ⟨h13b, h13⟩ := xkb h13
  refine x_callV (As := [.int x1, .int x2, .int t3]) (rest := []) (st1 := []) S hw (c_Roster_setCell h13) (cwV 3 S.2.2.2.2 gv_RR_162 rfl rfl rfl hd_Roster_setCell ⟨Nat.le_of_ble_eq_true rfl, Nat.le_of_ble_eq_true rfl⟩) rfl h13b rfl hl.1 rfl rfl (Nat.le_of_ble_eq_true rfl) d_RR_differenceBy_45 ⟨Nat.le_of_ble_eq_true rfl, Nat.le_of_ble_eq_true rfl⟩ (fun H locs hw => ?_)
  refine lv_lload S.1 S.2.1 d_RR_differenceBy_48 (lv_at hl 0 rfl) ?_
  refine lv_lload S.1 S.2.1 d_RR_differenceBy_50 (lv_at hl 1 rfl) ?_
  refine lv_lsub S.1 S.2.1 d_RR_differenceBy_52 ?_
  obtain ⟨rfl, rfl⟩ := xe2 hf
  exact x_lret S hr hlocks hw d_RR_differenceBy_53
def f_RR_keepCell (a0 : Nat) (x1 : Int32) (x2 : Int32) (x3 : Int32) (ω : xS) : Option xS :=
  (xgr ω a0 11 3).bind fun t1 =>
  (xgr ω a0 11 1).bind fun t2 =>
  (xk ω t2 8 (f_Roster_letterOf t2 x1 x2 ω)).bind fun t4 =>
  (xk ω t1 2 (f_History_add t1 x1 x2 t4 ω)).bind fun w7 =>
  (xgr w7 a0 11 1).bind fun t8 =>
  (xk w7 t8 8 (f_Roster_setCell t8 x1 x2 x3 w7)).bind fun w11 =>
  some w11
set_option maxHeartbeats 4000000 in
set_option maxRecDepth 100000 in
theorem c_RR_keepCell {l : Launch} {E : xV} {z : Nat} {a0 : Nat} {x1 : Int32} {x2 : Int32} {x3 : Int32} {ω1 : xS} {ω : xS} (hf : f_RR_keepCell a0 x1 x2 x3 ω = some ω1) : xM l E y_RR_keepCell ws_RR_keepCell { frames := 2, cells := 0, slots := 0, locals := 47 } [.ref a0, .int x1, .int x2, .int x3] z ω none z ω1 := by
  refine x_start (cc := b_RR_keepCell) (maxL := 4) (ret := none) (by decide) rfl (Nat.le_of_ble_eq_true rfl) ?_
  intro p e s m below meth c S hr hlocks hin ls hl hw
  have hl : lv_has ls 4 [(0, .ref a0), (1, .int x1), (2, .int x2), (3, .int x3)] := hl
  unfold f_RR_keepCell at hf
  refine lv_aload_n S.1 S.2.1 d_RR_keepCell_0 rfl (lv_at hl 0 rfl) ?_
  obtain ⟨t1, ht1, hf⟩ := xb hf
  refine x_getr S hw lk_RR_19 ht1 d_RR_keepCell_1 ?_
  refine lv_iload_n S.1 S.2.1 d_RR_keepCell_4 rfl (lv_at hl 1 rfl) ?_
  refine lv_iload_n S.1 S.2.1 d_RR_keepCell_5 rfl (lv_at hl 2 rfl) ?_
  refine lv_aload_n S.1 S.2.1 d_RR_keepCell_6 rfl (lv_at hl 0 rfl) ?_
  obtain ⟨t2, ht2, hf⟩ := xb hf
  refine x_getr S hw lk_RR_53 ht2 d_RR_keepCell_7 ?_
  refine lv_iload_n S.1 S.2.1 d_RR_keepCell_10 rfl (lv_at hl 1 rfl) ?_
  refine lv_iload_n S.1 S.2.1 d_RR_keepCell_11 rfl (lv_at hl 2 rfl) ?_
  obtain ⟨t4, h3, hf⟩ := xb hf
  obtain ⟨h3b, h3⟩ := xkb h3
  refine x_callV (As := [.int x1, .int x2]) (rest := [.int x2, .int x1, .ref t1]) (st1 := [.int t4, .int x2, .int x1, .ref t1]) S hw (c_Roster_letterOf h3) (cwV 2 S.2.2.2.2 gv_RR_135 rfl rfl rfl hd_Roster_letterOf ⟨Nat.le_of_ble_eq_true rfl, Nat.le_of_ble_eq_true rfl⟩) rfl h3b rfl hl.1 rfl rfl (Nat.le_of_ble_eq_true rfl) d_RR_keepCell_12 ⟨Nat.le_of_ble_eq_true rfl, Nat.le_of_ble_eq_true rfl⟩ (fun H locs hw => ?_)
  obtain ⟨w7, h5, hf⟩ := xb hf
  obtain ⟨h5b, h5⟩ := xkb h5
  refine x_callV (As := [.int x1, .int x2, .int t4]) (rest := []) (st1 := []) S hw (c_History_add h5) (cwV 3 S.2.2.2.2 gv_RR_273 rfl rfl rfl hd_History_add ⟨Nat.le_of_ble_eq_true rfl, Nat.le_of_ble_eq_true rfl⟩) rfl h5b rfl hl.1 rfl rfl (Nat.le_of_ble_eq_true rfl) d_RR_keepCell_15 ⟨Nat.le_of_ble_eq_true rfl, Nat.le_of_ble_eq_true rfl⟩ (fun H locs hw => ?_)
  refine lv_aload_n S.1 S.2.1 d_RR_keepCell_18 rfl (lv_at hl 0 rfl) ?_
  obtain ⟨t8, ht8, hf⟩ := xb hf
  refine x_getr S hw lk_RR_53 ht8 d_RR_keepCell_19 ?_
  refine lv_iload_n S.1 S.2.1 d_RR_keepCell_22 rfl (lv_at hl 1 rfl) ?_
  refine lv_iload_n S.1 S.2.1 d_RR_keepCell_23 rfl (lv_at hl 2 rfl) ?_
  refine lv_iload_n S.1 S.2.1 d_RR_keepCell_24 rfl (lv_at hl 3 rfl) ?_
  obtain ⟨w11, h9, hf⟩ := xb hf
  obtain ⟨h9b, h9⟩ := xkb h9
  refine x_callV (As := [.int x1, .int x2, .int x3]) (rest := []) (st1 := []) S hw (c_Roster_setCell h9) (cwV 3 S.2.2.2.2 gv_RR_162 rfl rfl rfl hd_Roster_setCell ⟨Nat.le_of_ble_eq_true rfl, Nat.le_of_ble_eq_true rfl⟩) rfl h9b rfl hl.1 rfl rfl (Nat.le_of_ble_eq_true rfl) d_RR_keepCell_25 ⟨Nat.le_of_ble_eq_true rfl, Nat.le_of_ble_eq_true rfl⟩ (fun H locs hw => ?_)
  cases hf
  exact x_vret S hr hlocks hw d_RR_keepCell_28
def f_RR_put (a0 : Nat) (x1 : Int32) (x2 : Int32) (x3 : Int32) (ω : xS) : Option (Int64 × xS) :=
  (xk ω a0 11 (f_RR_isCell a0 x1 x2 ω)).bind fun t2 =>
  if t2 = 0 then (
    some (4611686018427387904, ω))
  else (
    (xk ω a0 11 (f_RR_isShiftOrOff a0 x3 ω)).bind fun t5 =>
    if t5 = 0 then (
      some (4611686018427387904, ω))
    else (
      xc (xk ω a0 11 (f_RR_differenceBy a0 x1 x2 (x3 + 1) ω)) fun t8 w9 =>
      (xk w9 a0 11 (f_RR_keepCell a0 x1 x2 (x3 + 1) w9)).bind fun w12 =>
      some (t8, w12)))
set_option maxHeartbeats 4000000 in
set_option maxRecDepth 100000 in
theorem c_RR_put {l : Launch} {E : xV} {z : Nat} {a0 : Nat} {x1 : Int32} {x2 : Int32} {x3 : Int32} {r : Int64} {ω1 : xS} {ω : xS} (hf : f_RR_put a0 x1 x2 x3 ω = some (r, ω1)) : xM l E y_RR_put ws_RR_put { frames := 7, cells := 0, slots := 0, locals := 175 } [.ref a0, .int x1, .int x2, .int x3] z ω (some (.long r)) z ω1 := by
  refine x_start (cc := b_RR_put) (maxL := 6) (ret := (some .long)) (by decide) rfl (Nat.le_of_ble_eq_true rfl) ?_
  intro p e s m below meth c S hr hlocks hin ls hl hw
  have hl : lv_has ls 6 [(0, .ref a0), (1, .int x1), (2, .int x2), (3, .int x3)] := hl
  unfold f_RR_put at hf
  refine lv_aload_n S.1 S.2.1 d_RR_put_0 rfl (lv_at hl 0 rfl) ?_
  refine lv_iload_n S.1 S.2.1 d_RR_put_1 rfl (lv_at hl 1 rfl) ?_
  refine lv_iload_n S.1 S.2.1 d_RR_put_2 rfl (lv_at hl 2 rfl) ?_
  obtain ⟨t2, h1, hf⟩ := xb hf
  obtain ⟨h1b, h1⟩ := xkb h1
  refine x_callV (As := [.int x1, .int x2]) (rest := []) (st1 := [.int t2]) S hw (c_RR_isCell h1) (cwV 2 S.2.2.2.2 gv_RR_127 rfl rfl rfl hd_RR_isCell ⟨Nat.le_of_ble_eq_true rfl, Nat.le_of_ble_eq_true rfl⟩) rfl h1b rfl hl.1 rfl rfl (Nat.le_of_ble_eq_true rfl) d_RR_put_3 ⟨Nat.le_of_ble_eq_true rfl, Nat.le_of_ble_eq_true rfl⟩ (fun H locs hw => ?_)
  refine lv_if_eq (tgt := 17) S.1 S.2.1 d_RR_put_6 (by decide) (fun c3 => ?_) (fun c3 => ?_)
  · replace hf := xt c3 hf
    refine lv_ldc2 (v := 4611686018427387904) S.1 S.2.1 S.2.2.2.1 (S.2.2.2.2 _ wd_3_206) d_RR_put_17 ?_
    obtain ⟨rfl, rfl⟩ := xe2 hf
    exact x_lret S hr hlocks hw d_RR_put_20
  · replace hf := xf c3 hf
    refine lv_aload_n S.1 S.2.1 d_RR_put_9 rfl (lv_at hl 0 rfl) ?_
    refine lv_iload_n S.1 S.2.1 d_RR_put_10 rfl (lv_at hl 3 rfl) ?_
    obtain ⟨t5, h4, hf⟩ := xb hf
    obtain ⟨h4b, h4⟩ := xkb h4
    refine x_callV (As := [.int x3]) (rest := []) (st1 := [.int t5]) S hw (c_RR_isShiftOrOff h4) (cwV 1 S.2.2.2.2 gv_RR_120 rfl rfl rfl hd_RR_isShiftOrOff ⟨Nat.le_of_ble_eq_true rfl, Nat.le_of_ble_eq_true rfl⟩) rfl h4b rfl hl.1 rfl rfl (Nat.le_of_ble_eq_true rfl) d_RR_put_11 ⟨Nat.le_of_ble_eq_true rfl, Nat.le_of_ble_eq_true rfl⟩ (fun H locs hw => ?_)
    refine lv_if_ne (tgt := 21) S.1 S.2.1 d_RR_put_14 (by decide) (fun c6 => ?_) (fun c6 => ?_)
    · replace hf := xf c6 hf
      refine lv_aload_n S.1 S.2.1 d_RR_put_21 rfl (lv_at hl 0 rfl) ?_
      refine lv_iload_n S.1 S.2.1 d_RR_put_22 rfl (lv_at hl 1 rfl) ?_
      refine lv_iload_n S.1 S.2.1 d_RR_put_23 rfl (lv_at hl 2 rfl) ?_
      refine lv_iload_n S.1 S.2.1 d_RR_put_24 rfl (lv_at hl 3 rfl) ?_
      refine lv_iconst (v := 1) S.1 S.2.1 d_RR_put_25 (by decide) ?_
      refine lv_iadd S.1 S.2.1 d_RR_put_26 ?_
      obtain ⟨t8, w9, h7, hf⟩ := xcb hf
      obtain ⟨h7b, h7⟩ := xkb h7
      refine x_callV (As := [.int x1, .int x2, .int (x3 + 1)]) (rest := []) (st1 := [.long t8]) S hw (c_RR_differenceBy h7) (cwV 3 S.2.2.2.2 gv_RR_140 rfl rfl rfl hd_RR_differenceBy ⟨Nat.le_of_ble_eq_true rfl, Nat.le_of_ble_eq_true rfl⟩) rfl h7b rfl hl.1 rfl rfl (Nat.le_of_ble_eq_true rfl) d_RR_put_27 ⟨Nat.le_of_ble_eq_true rfl, Nat.le_of_ble_eq_true rfl⟩ (fun H locs hw => ?_)
      refine lv_lstore (lv' := [(4, .long t8), (0, .ref a0), (1, .int x1), (2, .int x2), (3, .int x3)]) S.1 S.2.1 d_RR_put_30 hl (by decide) rfl (fun ls hl => ?_)
      refine lv_aload_n S.1 S.2.1 d_RR_put_32 rfl (lv_at hl 1 rfl) ?_
      refine lv_iload_n S.1 S.2.1 d_RR_put_33 rfl (lv_at hl 2 rfl) ?_
      refine lv_iload_n S.1 S.2.1 d_RR_put_34 rfl (lv_at hl 3 rfl) ?_
      refine lv_iload_n S.1 S.2.1 d_RR_put_35 rfl (lv_at hl 4 rfl) ?_
      refine lv_iconst (v := 1) S.1 S.2.1 d_RR_put_36 (by decide) ?_
      refine lv_iadd S.1 S.2.1 d_RR_put_37 ?_
      obtain ⟨w12, h10, hf⟩ := xb hf
      obtain ⟨h10b, h10⟩ := xkb h10
      refine x_callV (As := [.int x1, .int x2, .int (x3 + 1)]) (rest := []) (st1 := []) S hw (c_RR_keepCell h10) (cwV 3 S.2.2.2.2 gv_RR_144 rfl rfl rfl hd_RR_keepCell ⟨Nat.le_of_ble_eq_true rfl, Nat.le_of_ble_eq_true rfl⟩) rfl h10b rfl hl.1 rfl rfl (Nat.le_of_ble_eq_true rfl) d_RR_put_38 ⟨Nat.le_of_ble_eq_true rfl, Nat.le_of_ble_eq_true rfl⟩ (fun H locs hw => ?_)
      refine lv_lload S.1 S.2.1 d_RR_put_41 (lv_at hl 0 rfl) ?_
      obtain ⟨rfl, rfl⟩ := xe2 hf
      exact x_lret S hr hlocks hw d_RR_put_43
    · replace hf := xt c6 hf
      refine lv_ldc2 (v := 4611686018427387904) S.1 S.2.1 S.2.2.2.1 (S.2.2.2.2 _ wd_3_206) d_RR_put_17 ?_
      obtain ⟨rfl, rfl⟩ := xe2 hf
      exact x_lret S hr hlocks hw d_RR_put_20
