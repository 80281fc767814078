def f_Mo_read_30 (a0 : Nat) (ω : xS) : Option (Int32 × xS) :=
  (xp ω a0 12 11 (.int 0)).bind fun w12 =>
  (xgi w12 a0 12 39).bind fun t13 =>
  if t13 = 0 then (
    (xp w12 a0 12 12 (.int (-2))).bind fun w15 =>
    (xgi w15 a0 12 20).bind fun t16 =>
    some (t16, w15))
  else (
    (xgi w12 a0 12 40).bind fun t17 =>
    (xp w12 a0 12 12 (.int t17)).bind fun w18 =>
    (xgi w18 a0 12 39).bind fun t19 =>
    some (((-10) - t19), w18))
set_option maxHeartbeats 4000000 in
set_option maxRecDepth 100000 in
theorem w_Mo_read_30 {p : Program} {l : Launch} {e : Env} {s : State} {m : MethodId} {args : Array Value} {below : List Frame} {meth : Method} {c : Code} {E : xV} {z : Nat} {r : Int32} {ω1 : xS} (S : CallFix p m c b_Mo_read 1 s args xTbl "RosterRulesModel") (hr : meth.sig.returnType = (some .int)) (hlocks : meth.locks = false) : ∀ (a0 : Nat) (ω : xS) (H : Heap) (locs : List Loc) (ls : Array Slot), xW E z ω s s.heap H locs → lv_has ls 1 [(0, .ref a0)] → f_Mo_read_30 a0 ω = some (r, ω1) → W p l e (headSpec ws_Mo_read { frames := 8, cells := 0, slots := 0, locals := 193 }).room s m args below meth c H locs 0 0 (MQ below (xQ E (some (.int r)) z ω1) args s 0 0 (fun q => E.2.2 ≤ q)) (F0 m 30 ls []) := by
  intro a0 ω H locs ls hw hl hf
  unfold f_Mo_read_30 at hf
  refine lv_aload_n S.1 S.2.1 d_Mo_read_30 rfl (lv_at hl 0 rfl) ?_
  refine lv_iconst (v := 0) S.1 S.2.1 d_Mo_read_31 (by decide) ?_
  obtain ⟨w12, hw12, hf⟩ := xb hf
  refine x_puti S hw lp_Mo_169 hw12 d_Mo_read_32 (fun H locs hw => ?_)
  refine lv_aload_n S.1 S.2.1 d_Mo_read_35 rfl (lv_at hl 0 rfl) ?_
  obtain ⟨t13, ht13, hf⟩ := xb hf
  refine x_geti S hw lk_Mo_172 ht13 d_Mo_read_36 ?_
  refine lv_if_eq (tgt := 58) S.1 S.2.1 d_Mo_read_39 (by decide) (fun c14 => ?_) (fun c14 => ?_)
  · replace hf := xt c14 hf
    refine lv_aload_n S.1 S.2.1 d_Mo_read_58 rfl (lv_at hl 0 rfl) ?_
    refine lv_bipush (v := (-2)) S.1 S.2.1 d_Mo_read_59 (by decide) ?_
    obtain ⟨w15, hw15, hf⟩ := xb hf
    refine x_puti S hw lp_Mo_38 hw15 d_Mo_read_61 (fun H locs hw => ?_)
    refine lv_aload_n S.1 S.2.1 d_Mo_read_64 rfl (lv_at hl 0 rfl) ?_
    obtain ⟨t16, ht16, hf⟩ := xb hf
    refine x_geti S hw lk_Mo_219 ht16 d_Mo_read_65 ?_
    obtain ⟨rfl, rfl⟩ := xe2 hf
    exact x_iret S hr hlocks hw d_Mo_read_68
  · replace hf := xf c14 hf
    refine lv_aload_n S.1 S.2.1 d_Mo_read_42 rfl (lv_at hl 0 rfl) ?_
    refine lv_aload_n S.1 S.2.1 d_Mo_read_43 rfl (lv_at hl 0 rfl) ?_
    obtain ⟨t17, ht17, hf⟩ := xb hf
    refine x_geti S hw lk_Mo_175 ht17 d_Mo_read_44 ?_
    obtain ⟨w18, hw18, hf⟩ := xb hf
    refine x_puti S hw lp_Mo_38 hw18 d_Mo_read_47 (fun H locs hw => ?_)
    refine lv_bipush (v := (-10)) S.1 S.2.1 d_Mo_read_50 (by decide) ?_
    refine lv_aload_n S.1 S.2.1 d_Mo_read_52 rfl (lv_at hl 0 rfl) ?_
    obtain ⟨t19, ht19, hf⟩ := xb hf
    refine x_geti S hw lk_Mo_172 ht19 d_Mo_read_53 ?_
    refine lv_isub S.1 S.2.1 d_Mo_read_56 ?_
    obtain ⟨rfl, rfl⟩ := xe2 hf
    exact x_iret S hr hlocks hw d_Mo_read_57
def f_Mo_read (a0 : Nat) (ω : xS) : Option (Int32 × xS) :=
  (xp ω a0 12 41 (.int 0)).bind fun w1 =>
  (xp w1 a0 12 39 (.int 0)).bind fun w2 =>
  (xk w2 a0 12 (f_Mo_text a0  w2)).bind fun w5 =>
  (xgi w5 a0 12 39).bind fun t6 =>
  if t6 = 0 then (
    (xp w5 a0 12 41 (.int 1)).bind fun w8 =>
    (xk w8 a0 12 (f_Mo_text a0  w8)).bind fun w11 =>
    f_Mo_read_30  a0 w11)
  else (
    f_Mo_read_30  a0 w5)
set_option maxHeartbeats 4000000 in
set_option maxRecDepth 100000 in
theorem c_Mo_read {l : Launch} {E : xV} {z : Nat} {a0 : Nat} {r : Int32} {ω1 : xS} {ω : xS} (hf : f_Mo_read a0 ω = some (r, ω1)) : xM l E y_Mo_read ws_Mo_read { frames := 8, cells := 0, slots := 0, locals := 193 } [.ref a0] z ω (some (.int r)) z ω1 := by
  refine x_start (cc := b_Mo_read) (maxL := 1) (ret := (some .int)) (by decide) rfl (Nat.le_of_ble_eq_true rfl) ?_
  intro p e s m below meth c S hr hlocks hin ls hl hw
  have hl : lv_has ls 1 [(0, .ref a0)] := hl
  unfold f_Mo_read at hf
  refine lv_aload_n S.1 S.2.1 d_Mo_read_0 rfl (lv_at hl 0 rfl) ?_
  refine lv_iconst (v := 0) S.1 S.2.1 d_Mo_read_1 (by decide) ?_
  obtain ⟨w1, hw1, hf⟩ := xb hf
  refine x_put S hw lp_Mo_212 (by decide) rfl hw1 d_Mo_read_2 (fun H locs hw => ?_)
  refine lv_aload_n S.1 S.2.1 d_Mo_read_5 rfl (lv_at hl 0 rfl) ?_
  refine lv_iconst (v := 0) S.1 S.2.1 d_Mo_read_6 (by decide) ?_
  obtain ⟨w2, hw2, hf⟩ := xb hf
  refine x_puti S hw lp_Mo_172 hw2 d_Mo_read_7 (fun H locs hw => ?_)
  refine lv_aload_n S.1 S.2.1 d_Mo_read_10 rfl (lv_at hl 0 rfl) ?_
  obtain ⟨w5, h3, hf⟩ := xb hf
  obtain ⟨h3b, h3⟩ := xkb h3
  refine x_callV (As := []) (rest := []) (st1 := []) S hw (c_Mo_text h3) (cwV 0 S.2.2.2.2 gv_Mo_216 rfl rfl rfl hd_Mo_text ⟨Nat.le_of_ble_eq_true rfl, Nat.le_of_ble_eq_true rfl⟩) rfl h3b rfl hl.1 rfl rfl (Nat.le_of_ble_eq_true rfl) d_Mo_read_11 ⟨Nat.le_of_ble_eq_true rfl, Nat.le_of_ble_eq_true rfl⟩ (fun H locs hw => ?_)
  refine lv_aload_n S.1 S.2.1 d_Mo_read_14 rfl (lv_at hl 0 rfl) ?_
  obtain ⟨t6, ht6, hf⟩ := xb hf
  refine x_geti S hw lk_Mo_172 ht6 d_Mo_read_15 ?_
  refine lv_if_ne (tgt := 30) S.1 S.2.1 d_Mo_read_18 (by decide) (fun c7 => ?_) (fun c7 => ?_)
  · replace hf := xf c7 hf
    exact w_Mo_read_30 S hr hlocks  _ _ _ _ _ hw (lv_sub hl [0] rfl) hf
  · replace hf := xt c7 hf
    refine lv_aload_n S.1 S.2.1 d_Mo_read_21 rfl (lv_at hl 0 rfl) ?_
    refine lv_iconst (v := 1) S.1 S.2.1 d_Mo_read_22 (by decide) ?_
    obtain ⟨w8, hw8, hf⟩ := xb hf
    refine x_put S hw lp_Mo_212 (by decide) rfl hw8 d_Mo_read_23 (fun H locs hw => ?_)
    refine lv_aload_n S.1 S.2.1 d_Mo_read_26 rfl (lv_at hl 0 rfl) ?_
    obtain ⟨w11, h9, hf⟩ := xb hf
    obtain ⟨h9b, h9⟩ := xkb h9
    refine x_callV (As := []) (rest := []) (st1 := []) S hw (c_Mo_text h9) (cwV 0 S.2.2.2.2 gv_Mo_216 rfl rfl rfl hd_Mo_text ⟨Nat.le_of_ble_eq_true rfl, Nat.le_of_ble_eq_true rfl⟩) rfl h9b rfl hl.1 rfl rfl (Nat.le_of_ble_eq_true rfl) d_Mo_read_27 ⟨Nat.le_of_ble_eq_true rfl, Nat.le_of_ble_eq_true rfl⟩ (fun H locs hw => ?_)
    exact w_Mo_read_30 S hr hlocks  _ _ _ _ _ hw (lv_sub hl [0] rfl) hf
def f_Mo_place (a0 : Nat) (ω : xS) : Option Int32 :=
  (xgi ω a0 12 12).bind fun t1 =>
  some t1
set_option maxHeartbeats 4000000 in
set_option maxRecDepth 100000 in
theorem c_Mo_place {l : Launch} {E : xV} {z : Nat} {a0 : Nat} {r : Int32} {ω : xS} (hf : f_Mo_place a0 ω = some r) : xM l E y_Mo_place ws_Mo_place { frames := 0, cells := 0, slots := 0, locals := 0 } [.ref a0] z ω (some (.int r)) z ω := by
  refine x_start (cc := b_Mo_place) (maxL := 1) (ret := (some .int)) (by decide) rfl (Nat.le_of_ble_eq_true rfl) ?_
  intro p e s m below meth c S hr hlocks hin ls hl hw
  have hl : lv_has ls 1 [(0, .ref a0)] := hl
  unfold f_Mo_place at hf
  refine lv_aload_n S.1 S.2.1 d_Mo_place_0 rfl (lv_at hl 0 rfl) ?_
  obtain ⟨t1, ht1, hf⟩ := xb hf
  refine x_geti S hw lk_Mo_38 ht1 d_Mo_place_1 ?_
  obtain rfl := xe1 hf
  exact x_iret S hr hlocks hw d_Mo_place_4
def f_Mo_shift (a0 : Nat) (x1 : Int32) (x2 : Int32) (x3 : Int32) (x4 : Int32) (ω : xS) : Option (Int32 × xS) :=
  if x1 < 0 then (
    some ((-1), ω))
  else (
    if 7 < x1 then (
      some ((-1), ω))
    else (
      if x2 < 0 then (
        some ((-1), ω))
      else (
        if 1439 < x2 then (
          some ((-1), ω))
        else (
          if x3 < 1 then (
            some ((-1), ω))
          else (
            if 1440 < x3 then (
              some ((-1), ω))
            else (
              if x4 < 0 then (
                some ((-1), ω))
              else (
                if x4 ≤ 9 then (
                  (xgr ω a0 12 4).bind fun t9 =>
                  (xsi ω t9 x1 x2).bind fun w10 =>
                  (xgr w10 a0 12 5).bind fun t11 =>
                  (xsi w10 t11 x1 x3).bind fun w12 =>
                  (xgr w12 a0 12 6).bind fun t13 =>
                  (xsi w12 t13 x1 x4).bind fun w14 =>
                  some (1, w14))
                else (
                  some ((-1), ω)))))))))
set_option maxHeartbeats 4000000 in
set_option maxRecDepth 100000 in
theorem c_Mo_shift {l : Launch} {E : xV} {z : Nat} {a0 : Nat} {x1 : Int32} {x2 : Int32} {x3 : Int32} {x4 : Int32} {r : Int32} {ω1 : xS} {ω : xS} (hf : f_Mo_shift a0 x1 x2 x3 x4 ω = some (r, ω1)) : xM l E y_Mo_shift ws_Mo_shift { frames := 0, cells := 0, slots := 0, locals := 0 } [.ref a0, .int x1, .int x2, .int x3, .int x4] z ω (some (.int r)) z ω1 := by
  refine x_start (cc := b_Mo_shift) (maxL := 5) (ret := (some .int)) (by decide) rfl (Nat.le_of_ble_eq_true rfl) ?_
  intro p e s m below meth c S hr hlocks hin ls hl hw
  have hl : lv_has ls 5 [(0, .ref a0), (1, .int x1), (2, .int x2), (3, .int x3), (4, .int x4)] := hl
  unfold f_Mo_shift at hf
  refine lv_iload_n S.1 S.2.1 d_Mo_shift_0 rfl (lv_at hl 1 rfl) ?_
  refine lv_if_lt (tgt := 45) S.1 S.2.1 d_Mo_shift_1 (by decide) (fun c1 => ?_) (fun c1 => ?_)
  · replace hf := xt c1 hf
    refine lv_iconst (v := (-1)) S.1 S.2.1 d_Mo_shift_45 (by decide) ?_
    obtain ⟨rfl, rfl⟩ := xe2 hf
    exact x_iret S hr hlocks hw d_Mo_shift_46
  · replace hf := xf c1 hf
    refine lv_iload_n S.1 S.2.1 d_Mo_shift_4 rfl (lv_at hl 1 rfl) ?_
    refine lv_bipush (v := 7) S.1 S.2.1 d_Mo_shift_5 (by decide) ?_
    refine lv_icmp_gt (tgt := 45) S.1 S.2.1 d_Mo_shift_7 (by decide) (fun c2 => ?_) (fun c2 => ?_)
    · replace hf := xt c2 hf
      refine lv_iconst (v := (-1)) S.1 S.2.1 d_Mo_shift_45 (by decide) ?_
      obtain ⟨rfl, rfl⟩ := xe2 hf
      exact x_iret S hr hlocks hw d_Mo_shift_46
    · replace hf := xf c2 hf
      refine lv_iload_n S.1 S.2.1 d_Mo_shift_10 rfl (lv_at hl 2 rfl) ?_
      refine lv_if_lt (tgt := 45) S.1 S.2.1 d_Mo_shift_11 (by decide) (fun c3 => ?_) (fun c3 => ?_)
      · replace hf := xt c3 hf
        refine lv_iconst (v := (-1)) S.1 S.2.1 d_Mo_shift_45 (by decide) ?_
        obtain ⟨rfl, rfl⟩ := xe2 hf
        exact x_iret S hr hlocks hw d_Mo_shift_46
      · replace hf := xf c3 hf
        refine lv_iload_n S.1 S.2.1 d_Mo_shift_14 rfl (lv_at hl 2 rfl) ?_
        refine lv_sipush (v := 1439) S.1 S.2.1 d_Mo_shift_15 (by decide) ?_
        refine lv_icmp_gt (tgt := 45) S.1 S.2.1 d_Mo_shift_18 (by decide) (fun c4 => ?_) (fun c4 => ?_)
        · replace hf := xt c4 hf
          refine lv_iconst (v := (-1)) S.1 S.2.1 d_Mo_shift_45 (by decide) ?_
          obtain ⟨rfl, rfl⟩ := xe2 hf
          exact x_iret S hr hlocks hw d_Mo_shift_46
        · replace hf := xf c4 hf
          refine lv_iload_n S.1 S.2.1 d_Mo_shift_21 rfl (lv_at hl 3 rfl) ?_
          refine lv_iconst (v := 1) S.1 S.2.1 d_Mo_shift_22 (by decide) ?_
          refine lv_icmp_lt (tgt := 45) S.1 S.2.1 d_Mo_shift_23 (by decide) (fun c5 => ?_) (fun c5 => ?_)
          · replace hf := xt c5 hf
            refine lv_iconst (v := (-1)) S.1 S.2.1 d_Mo_shift_45 (by decide) ?_
            obtain ⟨rfl, rfl⟩ := xe2 hf
            exact x_iret S hr hlocks hw d_Mo_shift_46
          · replace hf := xf c5 hf
            refine lv_iload_n S.1 S.2.1 d_Mo_shift_26 rfl (lv_at hl 3 rfl) ?_
            refine lv_sipush (v := 1440) S.1 S.2.1 d_Mo_shift_27 (by decide) ?_
            refine lv_icmp_gt (tgt := 45) S.1 S.2.1 d_Mo_shift_30 (by decide) (fun c6 => ?_) (fun c6 => ?_)
            · replace hf := xt c6 hf
              refine lv_iconst (v := (-1)) S.1 S.2.1 d_Mo_shift_45 (by decide) ?_
              obtain ⟨rfl, rfl⟩ := xe2 hf
              exact x_iret S hr hlocks hw d_Mo_shift_46
            · replace hf := xf c6 hf
              refine lv_iload S.1 S.2.1 d_Mo_shift_33 (lv_at hl 4 rfl) ?_
              refine lv_if_lt (tgt := 45) S.1 S.2.1 d_Mo_shift_35 (by decide) (fun c7 => ?_) (fun c7 => ?_)
              · replace hf := xt c7 hf
                refine lv_iconst (v := (-1)) S.1 S.2.1 d_Mo_shift_45 (by decide) ?_
                obtain ⟨rfl, rfl⟩ := xe2 hf
                exact x_iret S hr hlocks hw d_Mo_shift_46
              · replace hf := xf c7 hf
                refine lv_iload S.1 S.2.1 d_Mo_shift_38 (lv_at hl 4 rfl) ?_
                refine lv_bipush (v := 9) S.1 S.2.1 d_Mo_shift_40 (by decide) ?_
                refine lv_icmp_le (tgt := 47) S.1 S.2.1 d_Mo_shift_42 (by decide) (fun c8 => ?_) (fun c8 => ?_)
                · replace hf := xt c8 hf
                  refine lv_aload_n S.1 S.2.1 d_Mo_shift_47 rfl (lv_at hl 0 rfl) ?_
                  obtain ⟨t9, ht9, hf⟩ := xb hf
                  refine x_getr S hw lk_Mo_16 ht9 d_Mo_shift_48 ?_
                  refine lv_iload_n S.1 S.2.1 d_Mo_shift_51 rfl (lv_at hl 1 rfl) ?_
                  refine lv_iload_n S.1 S.2.1 d_Mo_shift_52 rfl (lv_at hl 2 rfl) ?_
                  obtain ⟨w10, hw10, hf⟩ := xb hf
                  refine x_iast S hw hw10 d_Mo_shift_53 (fun H locs hw => ?_)
                  refine lv_aload_n S.1 S.2.1 d_Mo_shift_54 rfl (lv_at hl 0 rfl) ?_
                  obtain ⟨t11, ht11, hf⟩ := xb hf
                  refine x_getr S hw lk_Mo_19 ht11 d_Mo_shift_55 ?_
                  refine lv_iload_n S.1 S.2.1 d_Mo_shift_58 rfl (lv_at hl 1 rfl) ?_
                  refine lv_iload_n S.1 S.2.1 d_Mo_shift_59 rfl (lv_at hl 3 rfl) ?_
                  obtain ⟨w12, hw12, hf⟩ := xb hf
                  refine x_iast S hw hw12 d_Mo_shift_60 (fun H locs hw => ?_)
                  refine lv_aload_n S.1 S.2.1 d_Mo_shift_61 rfl (lv_at hl 0 rfl) ?_
                  obtain ⟨t13, ht13, hf⟩ := xb hf
                  refine x_getr S hw lk_Mo_22 ht13 d_Mo_shift_62 ?_
                  refine lv_iload_n S.1 S.2.1 d_Mo_shift_65 rfl (lv_at hl 1 rfl) ?_
                  refine lv_iload S.1 S.2.1 d_Mo_shift_66 (lv_at hl 4 rfl) ?_
                  obtain ⟨w14, hw14, hf⟩ := xb hf
                  refine x_iast S hw hw14 d_Mo_shift_68 (fun H locs hw => ?_)
                  refine lv_iconst (v := 1) S.1 S.2.1 d_Mo_shift_69 (by decide) ?_
                  obtain ⟨rfl, rfl⟩ := xe2 hf
                  exact x_iret S hr hlocks hw d_Mo_shift_70
                · replace hf := xf c8 hf
                  refine lv_iconst (v := (-1)) S.1 S.2.1 d_Mo_shift_45 (by decide) ?_
                  obtain ⟨rfl, rfl⟩ := xe2 hf
                  exact x_iret S hr hlocks hw d_Mo_shift_46
def f_Mo_person (a0 : Nat) (x1 : Int32) (x2 : Int32) (ω : xS) : Option (Int32 × xS) :=
  (xk ω a0 12 (f_Mo_isPerson a0 x1 ω)).bind fun t2 =>
  if t2 = 0 then (
    some ((-1), ω))
  else (
    if x2 < 0 then (
      some ((-1), ω))
    else (
      if x2 ≤ 1023 then (
        (xgr ω a0 12 7).bind fun t6 =>
        (xsi ω t6 x1 x2).bind fun w7 =>
        some (1, w7))
      else (
        some ((-1), ω))))
set_option maxHeartbeats 4000000 in
set_option maxRecDepth 100000 in
theorem c_Mo_person {l : Launch} {E : xV} {z : Nat} {a0 : Nat} {x1 : Int32} {x2 : Int32} {r : Int32} {ω1 : xS} {ω : xS} (hf : f_Mo_person a0 x1 x2 ω = some (r, ω1)) : xM l E y_Mo_person ws_Mo_person { frames := 1, cells := 0, slots := 0, locals := 21 } [.ref a0, .int x1, .int x2] z ω (some (.int r)) z ω1 := by
  refine x_start (cc := b_Mo_person) (maxL := 3) (ret := (some .int)) (by decide) rfl (Nat.le_of_ble_eq_true rfl) ?_
  intro p e s m below meth c S hr hlocks hin ls hl hw
  have hl : lv_has ls 3 [(0, .ref a0), (1, .int x1), (2, .int x2)] := hl
  unfold f_Mo_person at hf
  refine lv_aload_n S.1 S.2.1 d_Mo_person_0 rfl (lv_at hl 0 rfl) ?_
  refine lv_iload_n S.1 S.2.1 d_Mo_person_1 rfl (lv_at hl 1 rfl) ?_
  obtain ⟨t2, h1, hf⟩ := xb hf
  obtain ⟨h1b, h1⟩ := xkb h1
  refine x_callV (As := [.int x1]) (rest := []) (st1 := [.int t2]) S hw (c_Mo_isPerson h1) (cwV 1 S.2.2.2.2 gv_Mo_165 rfl rfl rfl hd_Mo_isPerson ⟨Nat.le_of_ble_eq_true rfl, Nat.le_of_ble_eq_true rfl⟩) rfl h1b rfl hl.1 rfl rfl (Nat.le_of_ble_eq_true rfl) d_Mo_person_2 ⟨Nat.le_of_ble_eq_true rfl, Nat.le_of_ble_eq_true rfl⟩ (fun H locs hw => ?_)
  refine lv_if_eq (tgt := 19) S.1 S.2.1 d_Mo_person_5 (by decide) (fun c3 => ?_) (fun c3 => ?_)
  · replace hf := xt c3 hf
    refine lv_iconst (v := (-1)) S.1 S.2.1 d_Mo_person_19 (by decide) ?_
    obtain ⟨rfl, rfl⟩ := xe2 hf
    exact x_iret S hr hlocks hw d_Mo_person_20
  · replace hf := xf c3 hf
    refine lv_iload_n S.1 S.2.1 d_Mo_person_8 rfl (lv_at hl 2 rfl) ?_
    refine lv_if_lt (tgt := 19) S.1 S.2.1 d_Mo_person_9 (by decide) (fun c4 => ?_) (fun c4 => ?_)
    · replace hf := xt c4 hf
      refine lv_iconst (v := (-1)) S.1 S.2.1 d_Mo_person_19 (by decide) ?_
      obtain ⟨rfl, rfl⟩ := xe2 hf
      exact x_iret S hr hlocks hw d_Mo_person_20
    · replace hf := xf c4 hf
      refine lv_iload_n S.1 S.2.1 d_Mo_person_12 rfl (lv_at hl 2 rfl) ?_
      refine lv_sipush (v := 1023) S.1 S.2.1 d_Mo_person_13 (by decide) ?_
      refine lv_icmp_le (tgt := 21) S.1 S.2.1 d_Mo_person_16 (by decide) (fun c5 => ?_) (fun c5 => ?_)
      · replace hf := xt c5 hf
        refine lv_aload_n S.1 S.2.1 d_Mo_person_21 rfl (lv_at hl 0 rfl) ?_
        obtain ⟨t6, ht6, hf⟩ := xb hf
        refine x_getr S hw lk_Mo_25 ht6 d_Mo_person_22 ?_
        refine lv_iload_n S.1 S.2.1 d_Mo_person_25 rfl (lv_at hl 1 rfl) ?_
        refine lv_iload_n S.1 S.2.1 d_Mo_person_26 rfl (lv_at hl 2 rfl) ?_
        obtain ⟨w7, hw7, hf⟩ := xb hf
        refine x_iast S hw hw7 d_Mo_person_27 (fun H locs hw => ?_)
        refine lv_iconst (v := 1) S.1 S.2.1 d_Mo_person_28 (by decide) ?_
        obtain ⟨rfl, rfl⟩ := xe2 hf
        exact x_iret S hr hlocks hw d_Mo_person_29
      · replace hf := xf c5 hf
        refine lv_iconst (v := (-1)) S.1 S.2.1 d_Mo_person_19 (by decide) ?_
        obtain ⟨rfl, rfl⟩ := xe2 hf
        exact x_iret S hr hlocks hw d_Mo_person_20
def f_Mo_past (a0 : Nat) (x1 : Int32) (x2 : Int32) (x3 : Int32) (ω : xS) : Option (Int32 × xS) :=
  (xk ω a0 12 (f_Mo_isPerson a0 x1 ω)).bind fun t2 =>
  if t2 = 0 then (
    some ((-9), ω))
  else (
    if x2 < 1 then (
      some ((-9), ω))
    else (
      if 7 < x2 then (
        some ((-9), ω))
      else (
        (f_Mo_isShift x3 ω).bind fun t7 =>
        if t7 = 0 then (
          some ((-9), ω))
        else (
          (xgr ω a0 12 3).bind fun t9 =>
          (xai ω t9 (((7 * x1) + x2) - 1)).bind fun t10 =>
          (xgr ω a0 12 3).bind fun t11 =>
          (xsi ω t11 (((7 * x1) + x2) - 1) x3).bind fun w12 =>
          some (t10, w12)))))
set_option maxHeartbeats 4000000 in
set_option maxRecDepth 100000 in
theorem c_Mo_past {l : Launch} {E : xV} {z : Nat} {a0 : Nat} {x1 : Int32} {x2 : Int32} {x3 : Int32} {r : Int32} {ω1 : xS} {ω : xS} (hf : f_Mo_past a0 x1 x2 x3 ω = some (r, ω1)) : xM l E y_Mo_past ws_Mo_past { frames := 1, cells := 0, slots := 0, locals := 21 } [.ref a0, .int x1, .int x2, .int x3] z ω (some (.int r)) z ω1 := by
  refine x_start (cc := b_Mo_past) (maxL := 5) (ret := (some .int)) (by decide) rfl (Nat.le_of_ble_eq_true rfl) ?_
  intro p e s m below meth c S hr hlocks hin ls hl hw
  have hl : lv_has ls 5 [(0, .ref a0), (1, .int x1), (2, .int x2), (3, .int x3)] := hl
  unfold f_Mo_past at hf
  refine lv_aload_n S.1 S.2.1 d_Mo_past_0 rfl (lv_at hl 0 rfl) ?_
  refine lv_iload_n S.1 S.2.1 d_Mo_past_1 rfl (lv_at hl 1 rfl) ?_
  obtain ⟨t2, h1, hf⟩ := xb hf
  obtain ⟨h1b, h1⟩ := xkb h1
  refine x_callV (As := [.int x1]) (rest := []) (st1 := [.int t2]) S hw (c_Mo_isPerson h1) (cwV 1 S.2.2.2.2 gv_Mo_165 rfl rfl rfl hd_Mo_isPerson ⟨Nat.le_of_ble_eq_true rfl, Nat.le_of_ble_eq_true rfl⟩) rfl h1b rfl hl.1 rfl rfl (Nat.le_of_ble_eq_true rfl) d_Mo_past_2 ⟨Nat.le_of_ble_eq_true rfl, Nat.le_of_ble_eq_true rfl⟩ (fun H locs hw => ?_)
  refine lv_if_eq (tgt := 26) S.1 S.2.1 d_Mo_past_5 (by decide) (fun c3 => ?_) (fun c3 => ?_)
  · replace hf := xt c3 hf
    refine lv_bipush (v := (-9)) S.1 S.2.1 d_Mo_past_26 (by decide) ?_
    obtain ⟨rfl, rfl⟩ := xe2 hf
    exact x_iret S hr hlocks hw d_Mo_past_28
  · replace hf := xf c3 hf
    refine lv_iload_n S.1 S.2.1 d_Mo_past_8 rfl (lv_at hl 2 rfl) ?_
    refine lv_iconst (v := 1) S.1 S.2.1 d_Mo_past_9 (by decide) ?_
    refine lv_icmp_lt (tgt := 26) S.1 S.2.1 d_Mo_past_10 (by decide) (fun c4 => ?_) (fun c4 => ?_)
    · replace hf := xt c4 hf
      refine lv_bipush (v := (-9)) S.1 S.2.1 d_Mo_past_26 (by decide) ?_
      obtain ⟨rfl, rfl⟩ := xe2 hf
      exact x_iret S hr hlocks hw d_Mo_past_28
    · replace hf := xf c4 hf
      refine lv_iload_n S.1 S.2.1 d_Mo_past_13 rfl (lv_at hl 2 rfl) ?_
      refine lv_bipush (v := 7) S.1 S.2.1 d_Mo_past_14 (by decide) ?_
      refine lv_icmp_gt (tgt := 26) S.1 S.2.1 d_Mo_past_16 (by decide) (fun c5 => ?_) (fun c5 => ?_)
      · replace hf := xt c5 hf
        refine lv_bipush (v := (-9)) S.1 S.2.1 d_Mo_past_26 (by decide) ?_
        obtain ⟨rfl, rfl⟩ := xe2 hf
        exact x_iret S hr hlocks hw d_Mo_past_28
      · replace hf := xf c5 hf
        refine lv_iload_n S.1 S.2.1 d_Mo_past_19 rfl (lv_at hl 3 rfl) ?_
        obtain ⟨t7, h6, hf⟩ := xb hf
        refine x_callS (As := [.int x3]) (rest := []) (st1 := [.int t7]) S hw (c_Mo_isShift h6) (cwS 1 S.2.2.2.2 gs_Mo_347 rfl rfl rfl hd_Mo_isShift ⟨Nat.le_of_ble_eq_true rfl, Nat.le_of_ble_eq_true rfl⟩) rfl hl.1 rfl rfl (Nat.le_of_ble_eq_true rfl) d_Mo_past_20 ⟨Nat.le_of_ble_eq_true rfl, Nat.le_of_ble_eq_true rfl⟩ (fun H locs hw => ?_)
        refine lv_if_ne (tgt := 29) S.1 S.2.1 d_Mo_past_23 (by decide) (fun c8 => ?_) (fun c8 => ?_)
        · replace hf := xf c8 hf
          refine lv_aload_n S.1 S.2.1 d_Mo_past_29 rfl (lv_at hl 0 rfl) ?_
          obtain ⟨t9, ht9, hf⟩ := xb hf
          refine x_getr S hw lk_Mo_13 ht9 d_Mo_past_30 ?_
          refine lv_bipush (v := 7) S.1 S.2.1 d_Mo_past_33 (by decide) ?_
          refine lv_iload_n S.1 S.2.1 d_Mo_past_35 rfl (lv_at hl 1 rfl) ?_
          refine lv_imul S.1 S.2.1 d_Mo_past_36 ?_
          refine lv_iload_n S.1 S.2.1 d_Mo_past_37 rfl (lv_at hl 2 rfl) ?_
          refine lv_iadd S.1 S.2.1 d_Mo_past_38 ?_
          refine lv_iconst (v := 1) S.1 S.2.1 d_Mo_past_39 (by decide) ?_
          refine lv_isub S.1 S.2.1 d_Mo_past_40 ?_
          obtain ⟨t10, ht10, hf⟩ := xb hf
          refine x_iald S hw ht10 d_Mo_past_41 ?_
          refine lv_istore (lv' := [(4, .int t10), (0, .ref a0), (1, .int x1), (2, .int x2), (3, .int x3)]) S.1 S.2.1 d_Mo_past_42 hl (by decide) rfl (fun ls hl => ?_)
          refine lv_aload_n S.1 S.2.1 d_Mo_past_44 rfl (lv_at hl 1 rfl) ?_
          obtain ⟨t11, ht11, hf⟩ := xb hf
          refine x_getr S hw lk_Mo_13 ht11 d_Mo_past_45 ?_
          refine lv_bipush (v := 7) S.1 S.2.1 d_Mo_past_48 (by decide) ?_
          refine lv_iload_n S.1 S.2.1 d_Mo_past_50 rfl (lv_at hl 2 rfl) ?_
          refine lv_imul S.1 S.2.1 d_Mo_past_51 ?_
          refine lv_iload_n S.1 S.2.1 d_Mo_past_52 rfl (lv_at hl 3 rfl) ?_
          refine lv_iadd S.1 S.2.1 d_Mo_past_53 ?_
          refine lv_iconst (v := 1) S.1 S.2.1 d_Mo_past_54 (by decide) ?_
          refine lv_isub S.1 S.2.1 d_Mo_past_55 ?_
          refine lv_iload_n S.1 S.2.1 d_Mo_past_56 rfl (lv_at hl 4 rfl) ?_
          obtain ⟨w12, hw12, hf⟩ := xb hf
          refine x_iast S hw hw12 d_Mo_past_57 (fun H locs hw => ?_)
          refine lv_iload S.1 S.2.1 d_Mo_past_58 (lv_at hl 0 rfl) ?_
          obtain ⟨rfl, rfl⟩ := xe2 hf
          exact x_iret S hr hlocks hw d_Mo_past_60
        · replace hf := xt c8 hf
          refine lv_bipush (v := (-9)) S.1 S.2.1 d_Mo_past_26 (by decide) ?_
          obtain ⟨rfl, rfl⟩ := xe2 hf
          exact x_iret S hr hlocks hw d_Mo_past_28
def f_Mo_wish (a0 : Nat) (x1 : Int32) (x2 : Int32) (x3 : Int32) (x4 : Int32) (ω : xS) : Option (Int32 × xS) :=
  (xk ω a0 12 (f_Mo_isCell a0 x1 x2 ω)).bind fun t2 =>
  if t2 = 0 then (
    some ((-1), ω))
  else (
    (f_Mo_isShift x3 ω).bind fun t5 =>
    if t5 = 0 then (
      some ((-1), ω))
    else (
      if x4 < 0 then (
        some ((-1), ω))
      else (
        if x4 ≤ 1000 then (
          (xgr ω a0 12 8).bind fun t9 =>
          (xsi ω t9 ((21 * x1) + x2) x3).bind fun w10 =>
          (xgr w10 a0 12 9).bind fun t11 =>
          (xsi w10 t11 ((21 * x1) + x2) x4).bind fun w12 =>
          some (1, w12))
        else (
          some ((-1), ω)))))
set_option maxHeartbeats 4000000 in
set_option maxRecDepth 100000 in
theorem c_Mo_wish {l : Launch} {E : xV} {z : Nat} {a0 : Nat} {x1 : Int32} {x2 : Int32} {x3 : Int32} {x4 : Int32} {r : Int32} {ω1 : xS} {ω : xS} (hf : f_Mo_wish a0 x1 x2 x3 x4 ω = some (r, ω1)) : xM l E y_Mo_wish ws_Mo_wish { frames := 2, cells := 0, slots := 0, locals := 43 } [.ref a0, .int x1, .int x2, .int x3, .int x4] z ω (some (.int r)) z ω1 := by
  refine x_start (cc := b_Mo_wish) (maxL := 5) (ret := (some .int)) (by decide) rfl (Nat.le_of_ble_eq_true rfl) ?_
  intro p e s m below meth c S hr hlocks hin ls hl hw
  have hl : lv_has ls 5 [(0, .ref a0), (1, .int x1), (2, .int x2), (3, .int x3), (4, .int x4)] := hl
  unfold f_Mo_wish at hf
  refine lv_aload_n S.1 S.2.1 d_Mo_wish_0 rfl (lv_at hl 0 rfl) ?_
  refine lv_iload_n S.1 S.2.1 d_Mo_wish_1 rfl (lv_at hl 1 rfl) ?_
  refine lv_iload_n S.1 S.2.1 d_Mo_wish_2 rfl (lv_at hl 2 rfl) ?_
  obtain ⟨t2, h1, hf⟩ := xb hf
  obtain ⟨h1b, h1⟩ := xkb h1
  refine x_callV (As := [.int x1, .int x2]) (rest := []) (st1 := [.int t2]) S hw (c_Mo_isCell h1) (cwV 2 S.2.2.2.2 gv_Mo_350 rfl rfl rfl hd_Mo_isCell ⟨Nat.le_of_ble_eq_true rfl, Nat.le_of_ble_eq_true rfl⟩) rfl h1b rfl hl.1 rfl rfl (Nat.le_of_ble_eq_true rfl) d_Mo_wish_3 ⟨Nat.le_of_ble_eq_true rfl, Nat.le_of_ble_eq_true rfl⟩ (fun H locs hw => ?_)
  refine lv_if_eq (tgt := 29) S.1 S.2.1 d_Mo_wish_6 (by decide) (fun c3 => ?_) (fun c3 => ?_)
  · replace hf := xt c3 hf
    refine lv_iconst (v := (-1)) S.1 S.2.1 d_Mo_wish_29 (by decide) ?_
    obtain ⟨rfl, rfl⟩ := xe2 hf
    exact x_iret S hr hlocks hw d_Mo_wish_30
  · replace hf := xf c3 hf
    refine lv_iload_n S.1 S.2.1 d_Mo_wish_9 rfl (lv_at hl 3 rfl) ?_
    obtain ⟨t5, h4, hf⟩ := xb hf
    refine x_callS (As := [.int x3]) (rest := []) (st1 := [.int t5]) S hw (c_Mo_isShift h4) (cwS 1 S.2.2.2.2 gs_Mo_347 rfl rfl rfl hd_Mo_isShift ⟨Nat.le_of_ble_eq_true rfl, Nat.le_of_ble_eq_true rfl⟩) rfl hl.1 rfl rfl (Nat.le_of_ble_eq_true rfl) d_Mo_wish_10 ⟨Nat.le_of_ble_eq_true rfl, Nat.le_of_ble_eq_true rfl⟩ (fun H locs hw => ?_)
    refine lv_if_eq (tgt := 29) S.1 S.2.1 d_Mo_wish_13 (by decide) (fun c6 => ?_) (fun c6 => ?_)
    · replace hf := xt c6 hf
      refine lv_iconst (v := (-1)) S.1 S.2.1 d_Mo_wish_29 (by decide) ?_
      obtain ⟨rfl, rfl⟩ := xe2 hf
      exact x_iret S hr hlocks hw d_Mo_wish_30
    · replace hf := xf c6 hf
      refine lv_iload S.1 S.2.1 d_Mo_wish_16 (lv_at hl 4 rfl) ?_
      refine lv_if_lt (tgt := 29) S.1 S.2.1 d_Mo_wish_18 (by decide) (fun c7 => ?_) (fun c7 => ?_)
      · replace hf := xt c7 hf
        refine lv_iconst (v := (-1)) S.1 S.2.1 d_Mo_wish_29 (by decide) ?_
        obtain ⟨rfl, rfl⟩ := xe2 hf
        exact x_iret S hr hlocks hw d_Mo_wish_30
      · replace hf := xf c7 hf
        refine lv_iload S.1 S.2.1 d_Mo_wish_21 (lv_at hl 4 rfl) ?_
        refine lv_sipush (v := 1000) S.1 S.2.1 d_Mo_wish_23 (by decide) ?_
        refine lv_icmp_le (tgt := 31) S.1 S.2.1 d_Mo_wish_26 (by decide) (fun c8 => ?_) (fun c8 => ?_)
        · replace hf := xt c8 hf
          refine lv_aload_n S.1 S.2.1 d_Mo_wish_31 rfl (lv_at hl 0 rfl) ?_
          obtain ⟨t9, ht9, hf⟩ := xb hf
          refine x_getr S hw lk_Mo_28 ht9 d_Mo_wish_32 ?_
          refine lv_bipush (v := 21) S.1 S.2.1 d_Mo_wish_35 (by decide) ?_
          refine lv_iload_n S.1 S.2.1 d_Mo_wish_37 rfl (lv_at hl 1 rfl) ?_
          refine lv_imul S.1 S.2.1 d_Mo_wish_38 ?_
          refine lv_iload_n S.1 S.2.1 d_Mo_wish_39 rfl (lv_at hl 2 rfl) ?_
          refine lv_iadd S.1 S.2.1 d_Mo_wish_40 ?_
          refine lv_iload_n S.1 S.2.1 d_Mo_wish_41 rfl (lv_at hl 3 rfl) ?_
          obtain ⟨w10, hw10, hf⟩ := xb hf
          refine x_iast S hw hw10 d_Mo_wish_42 (fun H locs hw => ?_)
          refine lv_aload_n S.1 S.2.1 d_Mo_wish_43 rfl (lv_at hl 0 rfl) ?_
          obtain ⟨t11, ht11, hf⟩ := xb hf
          refine x_getr S hw lk_Mo_31 ht11 d_Mo_wish_44 ?_
          refine lv_bipush (v := 21) S.1 S.2.1 d_Mo_wish_47 (by decide) ?_
          refine lv_iload_n S.1 S.2.1 d_Mo_wish_49 rfl (lv_at hl 1 rfl) ?_
          refine lv_imul S.1 S.2.1 d_Mo_wish_50 ?_
          refine lv_iload_n S.1 S.2.1 d_Mo_wish_51 rfl (lv_at hl 2 rfl) ?_
          refine lv_iadd S.1 S.2.1 d_Mo_wish_52 ?_
          refine lv_iload S.1 S.2.1 d_Mo_wish_53 (lv_at hl 4 rfl) ?_
          obtain ⟨w12, hw12, hf⟩ := xb hf
          refine x_iast S hw hw12 d_Mo_wish_55 (fun H locs hw => ?_)
          refine lv_iconst (v := 1) S.1 S.2.1 d_Mo_wish_56 (by decide) ?_
          obtain ⟨rfl, rfl⟩ := xe2 hf
          exact x_iret S hr hlocks hw d_Mo_wish_57
        · replace hf := xf c8 hf
          refine lv_iconst (v := (-1)) S.1 S.2.1 d_Mo_wish_29 (by decide) ?_
          obtain ⟨rfl, rfl⟩ := xe2 hf
          exact x_iret S hr hlocks hw d_Mo_wish_30
def f_Mo_at (a0 : Nat) (x1 : Int32) (x2 : Int32) (ω : xS) : Option Int32 :=
  (xk ω a0 12 (f_Mo_isCell a0 x1 x2 ω)).bind fun t2 =>
  if t2 = 0 then (
    some (-9))
  else (
    (xgr ω a0 12 2).bind fun t4 =>
    (xai ω t4 ((21 * x1) + x2)).bind fun t5 =>
    some t5)
set_option maxHeartbeats 4000000 in
set_option maxRecDepth 100000 in
theorem c_Mo_at {l : Launch} {E : xV} {z : Nat} {a0 : Nat} {x1 : Int32} {x2 : Int32} {r : Int32} {ω : xS} (hf : f_Mo_at a0 x1 x2 ω = some r) : xM l E y_Mo_at ws_Mo_at { frames := 2, cells := 0, slots := 0, locals := 43 } [.ref a0, .int x1, .int x2] z ω (some (.int r)) z ω := by
  refine x_start (cc := b_Mo_at) (maxL := 3) (ret := (some .int)) (by decide) rfl (Nat.le_of_ble_eq_true rfl) ?_
  intro p e s m below meth c S hr hlocks hin ls hl hw
  have hl : lv_has ls 3 [(0, .ref a0), (1, .int x1), (2, .int x2)] := hl
  unfold f_Mo_at at hf
  refine lv_aload_n S.1 S.2.1 d_Mo_at_0 rfl (lv_at hl 0 rfl) ?_
  refine lv_iload_n S.1 S.2.1 d_Mo_at_1 rfl (lv_at hl 1 rfl) ?_
  refine lv_iload_n S.1 S.2.1 d_Mo_at_2 rfl (lv_at hl 2 rfl) ?_
  obtain ⟨t2, h1, hf⟩ := xb hf
  obtain ⟨h1b, h1⟩ := xkb h1
  refine x_callV (As := [.int x1, .int x2]) (rest := []) (st1 := [.int t2]) S hw (c_Mo_isCell h1) (cwV 2 S.2.2.2.2 gv_Mo_350 rfl rfl rfl hd_Mo_isCell ⟨Nat.le_of_ble_eq_true rfl, Nat.le_of_ble_eq_true rfl⟩) rfl h1b rfl hl.1 rfl rfl (Nat.le_of_ble_eq_true rfl) d_Mo_at_3 ⟨Nat.le_of_ble_eq_true rfl, Nat.le_of_ble_eq_true rfl⟩ (fun H locs hw => ?_)
  refine lv_if_eq (tgt := 23) S.1 S.2.1 d_Mo_at_6 (by decide) (fun c3 => ?_) (fun c3 => ?_)
  · replace hf := xt c3 hf
    refine lv_bipush (v := (-9)) S.1 S.2.1 d_Mo_at_23 (by decide) ?_
    obtain rfl := xe1 hf
    exact x_iret S hr hlocks hw d_Mo_at_25
  · replace hf := xf c3 hf
    refine lv_aload_n S.1 S.2.1 d_Mo_at_9 rfl (lv_at hl 0 rfl) ?_
    obtain ⟨t4, ht4, hf⟩ := xb hf
    refine x_getr S hw lk_Mo_7 ht4 d_Mo_at_10 ?_
    refine lv_bipush (v := 21) S.1 S.2.1 d_Mo_at_13 (by decide) ?_
    refine lv_iload_n S.1 S.2.1 d_Mo_at_15 rfl (lv_at hl 1 rfl) ?_
    refine lv_imul S.1 S.2.1 d_Mo_at_16 ?_
    refine lv_iload_n S.1 S.2.1 d_Mo_at_17 rfl (lv_at hl 2 rfl) ?_
    refine lv_iadd S.1 S.2.1 d_Mo_at_18 ?_
    obtain ⟨t5, ht5, hf⟩ := xb hf
    refine x_iald S hw ht5 d_Mo_at_19 ?_
    refine lv_goto (tgt := 25) S.1 S.2.1 d_Mo_at_20 (by decide) ?_
    obtain rfl := xe1 hf
    exact x_iret S hr hlocks hw d_Mo_at_25
def f_Mo_rowAt (a0 : Nat) (x1 : Int32) (x2 : Int32) (ω : xS) : Option Int32 :=
  if 0 ≤ x2 then (
    (xgr ω a0 12 2).bind fun t2 =>
    (xai ω t2 ((21 * x1) + x2)).bind fun t3 =>
    some t3)
  else (
    (xgr ω a0 12 3).bind fun t4 =>
    (xai ω t4 (((7 * x1) - x2) - 1)).bind fun t5 =>
    some t5)
set_option maxHeartbeats 4000000 in
set_option maxRecDepth 100000 in
theorem c_Mo_rowAt {l : Launch} {E : xV} {z : Nat} {a0 : Nat} {x1 : Int32} {x2 : Int32} {r : Int32} {ω : xS} (hf : f_Mo_rowAt a0 x1 x2 ω = some r) : xM l E y_Mo_rowAt ws_Mo_rowAt { frames := 0, cells := 0, slots := 0, locals := 0 } [.ref a0, .int x1, .int x2] z ω (some (.int r)) z ω := by
  refine x_start (cc := b_Mo_rowAt) (maxL := 3) (ret := (some .int)) (by decide) rfl (Nat.le_of_ble_eq_true rfl) ?_
  intro p e s m below meth c S hr hlocks hin ls hl hw
  have hl : lv_has ls 3 [(0, .ref a0), (1, .int x1), (2, .int x2)] := hl
  unfold f_Mo_rowAt at hf
  refine lv_iload_n S.1 S.2.1 d_Mo_rowAt_0 rfl (lv_at hl 2 rfl) ?_
  refine lv_if_ge (tgt := 20) S.1 S.2.1 d_Mo_rowAt_1 (by decide) (fun c1 => ?_) (fun c1 => ?_)
  · replace hf := xt c1 hf
    refine lv_aload_n S.1 S.2.1 d_Mo_rowAt_20 rfl (lv_at hl 0 rfl) ?_
    obtain ⟨t2, ht2, hf⟩ := xb hf
    refine x_getr S hw lk_Mo_7 ht2 d_Mo_rowAt_21 ?_
    refine lv_bipush (v := 21) S.1 S.2.1 d_Mo_rowAt_24 (by decide) ?_
    refine lv_iload_n S.1 S.2.1 d_Mo_rowAt_26 rfl (lv_at hl 1 rfl) ?_
    refine lv_imul S.1 S.2.1 d_Mo_rowAt_27 ?_
    refine lv_iload_n S.1 S.2.1 d_Mo_rowAt_28 rfl (lv_at hl 2 rfl) ?_
    refine lv_iadd S.1 S.2.1 d_Mo_rowAt_29 ?_
    obtain ⟨t3, ht3, hf⟩ := xb hf
    refine x_iald S hw ht3 d_Mo_rowAt_30 ?_
    obtain rfl := xe1 hf
    exact x_iret S hr hlocks hw d_Mo_rowAt_31
  · replace hf := xf c1 hf
    refine lv_aload_n S.1 S.2.1 d_Mo_rowAt_4 rfl (lv_at hl 0 rfl) ?_
    obtain ⟨t4, ht4, hf⟩ := xb hf
    refine x_getr S hw lk_Mo_13 ht4 d_Mo_rowAt_5 ?_
    refine lv_bipush (v := 7) S.1 S.2.1 d_Mo_rowAt_8 (by decide) ?_
    refine lv_iload_n S.1 S.2.1 d_Mo_rowAt_10 rfl (lv_at hl 1 rfl) ?_
    refine lv_imul S.1 S.2.1 d_Mo_rowAt_11 ?_
    refine lv_iload_n S.1 S.2.1 d_Mo_rowAt_12 rfl (lv_at hl 2 rfl) ?_
    refine lv_isub S.1 S.2.1 d_Mo_rowAt_13 ?_
    refine lv_iconst (v := 1) S.1 S.2.1 d_Mo_rowAt_14 (by decide) ?_
    refine lv_isub S.1 S.2.1 d_Mo_rowAt_15 ?_
    obtain ⟨t5, ht5, hf⟩ := xb hf
    refine x_iald S hw ht5 d_Mo_rowAt_16 ?_
    refine lv_goto (tgt := 31) S.1 S.2.1 d_Mo_rowAt_17 (by decide) ?_
    obtain rfl := xe1 hf
    exact x_iret S hr hlocks hw d_Mo_rowAt_31
def f_Mo_restOf_10 : Nat → Nat → Int32 → Int32 → Int64 → Int32 → Int32 → xS → Option Int64
  | 0, _, _, _, _, _, _, _ => none
  | n + 1, a0, x1, x2, x3, x5, x6, ω =>
    (xgi ω a0 12 1).bind fun t1 =>
    if t1 ≤ x6 then (
      some x3)
    else (
      (xk ω a0 12 (f_Mo_rowAt a0 x2 x6 ω)).bind fun t4 =>
      if 0 ≤ t4 then (
        if x5 ≤ (-99) then (
          f_Mo_restOf_10  n a0 x1 x2 x3 x6 (x6 + 1) ω)
        else (
          if x6 < 0 then (
            f_Mo_restOf_10  n a0 x1 x2 x3 x6 (x6 + 1) ω)
          else (
            (xgr ω a0 12 4).bind fun t8 =>
            (xk ω a0 12 (f_Mo_rowAt a0 x2 x5 ω)).bind fun t10 =>
            (xai ω t8 t10).bind fun t11 =>
            (xgr ω a0 12 5).bind fun t12 =>
            (xk ω a0 12 (f_Mo_rowAt a0 x2 x5 ω)).bind fun t14 =>
            (xai ω t12 t14).bind fun t15 =>
            (xgr ω a0 12 4).bind fun t16 =>
            (xai ω t16 t4).bind fun t17 =>
            (xgr ω a0 12 16).bind fun t18 =>
            (xai ω t18 x1).bind fun t19 =>
            if t19 ≤ (((1440 * x6) + t17) - (((1440 * x5) + t11) + t15)) then (
              f_Mo_restOf_10  n a0 x1 x2 (x3 + 0) x6 (x6 + 1) ω)
            else (
              f_Mo_restOf_10  n a0 x1 x2 (x3 + 1) x6 (x6 + 1) ω))))
      else (
        f_Mo_restOf_10  n a0 x1 x2 x3 x5 (x6 + 1) ω))
set_option maxHeartbeats 4000000 in
set_option maxRecDepth 100000 in
theorem w_Mo_restOf_10 {p : Program} {l : Launch} {e : Env} {s : State} {m : MethodId} {args : Array Value} {below : List Frame} {meth : Method} {c : Code} {E : xV} {z : Nat} {r : Int64} {ω : xS} (S : CallFix p m c b_Mo_restOf 9 s args xTbl "RosterRulesModel") (hr : meth.sig.returnType = (some .long)) (hlocks : meth.locks = false) : ∀ n : Nat, ∀ (a0 : Nat) (x1 : Int32) (x2 : Int32) (x3 : Int64) (x5 : Int32) (x6 : Int32) (H : Heap) (locs : List Loc) (ls : Array Slot), xW E z ω s s.heap H locs → lv_has ls 9 [(0, .ref a0), (1, .int x1), (2, .int x2), (3, .long x3), (5, .int x5), (6, .int x6)] → f_Mo_restOf_10 n a0 x1 x2 x3 x5 x6 ω = some r → W p l e (headSpec ws_Mo_restOf { frames := 1, cells := 0, slots := 0, locals := 22 }).room s m args below meth c H locs 0 0 (MQ below (xQ E (some (.long r)) z ω) args s 0 0 (fun q => E.2.2 ≤ q)) (F0 m 10 ls []) := by
  intro n
  induction n with
  | zero =>
    intro a0 x1 x2 x3 x5 x6 H locs ls hw hl hf
    have h2 : (none : Option Int64) = some r := hf
    cases h2
  | succ n ih =>
    intro a0 x1 x2 x3 x5 x6 H locs ls hw hl hf
    rw [f_Mo_restOf_10] at hf
    refine lv_iload S.1 S.2.1 d_Mo_restOf_10 (lv_at hl 5 rfl) ?_
    refine lv_aload_n S.1 S.2.1 d_Mo_restOf_12 rfl (lv_at hl 0 rfl) ?_
    obtain ⟨t1, ht1, hf⟩ := xb hf
    refine x_geti S hw lk_Mo_159 ht1 d_Mo_restOf_13 ?_
    refine lv_icmp_ge (tgt := 126) S.1 S.2.1 d_Mo_restOf_16 (by decide) (fun c2 => ?_) (fun c2 => ?_)
    · replace hf := xt c2 hf
      refine lv_lload_n S.1 S.2.1 d_Mo_restOf_126 rfl (lv_at hl 3 rfl) ?_
      obtain rfl := xe1 hf
      exact x_lret S hr hlocks hw d_Mo_restOf_127
    · replace hf := xf c2 hf
      refine lv_aload_n S.1 S.2.1 d_Mo_restOf_19 rfl (lv_at hl 0 rfl) ?_
      refine lv_iload_n S.1 S.2.1 d_Mo_restOf_20 rfl (lv_at hl 2 rfl) ?_
      refine lv_iload S.1 S.2.1 d_Mo_restOf_21 (lv_at hl 5 rfl) ?_
      obtain ⟨t4, h3, hf⟩ := xb hf
      obtain ⟨h3b, h3⟩ := xkb h3
      refine x_callV (As := [.int x2, .int x6]) (rest := []) (st1 := [.int t4]) S hw (c_Mo_rowAt h3) (cwV 2 S.2.2.2.2 gv_Mo_363 rfl rfl rfl hd_Mo_rowAt ⟨Nat.le_of_ble_eq_true rfl, Nat.le_of_ble_eq_true rfl⟩) rfl h3b rfl hl.1 rfl rfl (Nat.le_of_ble_eq_true rfl) d_Mo_restOf_23 ⟨Nat.le_of_ble_eq_true rfl, Nat.le_of_ble_eq_true rfl⟩ (fun H locs hw => ?_)
      refine lv_istore (lv' := [(7, .int t4), (0, .ref a0), (1, .int x1), (2, .int x2), (3, .long x3), (5, .int x5), (6, .int x6)]) S.1 S.2.1 d_Mo_restOf_26 hl (by decide) rfl (fun ls hl => ?_)
      refine lv_iload S.1 S.2.1 d_Mo_restOf_28 (lv_at hl 0 rfl) ?_
      refine lv_if_ge (tgt := 36) S.1 S.2.1 d_Mo_restOf_30 (by decide) (fun c5 => ?_) (fun c5 => ?_)
      · replace hf := xt c5 hf
        refine lv_iload S.1 S.2.1 d_Mo_restOf_36 (lv_at hl 5 rfl) ?_
        refine lv_bipush (v := (-99)) S.1 S.2.1 d_Mo_restOf_38 (by decide) ?_
        refine lv_icmp_le (tgt := 116) S.1 S.2.1 d_Mo_restOf_40 (by decide) (fun c6 => ?_) (fun c6 => ?_)
        · replace hf := xt c6 hf
          refine lv_iload S.1 S.2.1 d_Mo_restOf_116 (lv_at hl 6 rfl) ?_
          refine lv_istore (lv' := [(5, .int x6), (7, .int t4), (0, .ref a0), (1, .int x1), (2, .int x2), (3, .long x3), (6, .int x6)]) S.1 S.2.1 d_Mo_restOf_118 hl (by decide) rfl (fun ls hl => ?_)
          refine lv_iinc (v := (x6 + 1)) (lv' := [(6, .int (x6 + 1)), (5, .int x6), (7, .int t4), (0, .ref a0), (1, .int x1), (2, .int x2), (3, .long x3)]) S.1 S.2.1 d_Mo_restOf_120 hl (k := 6) rfl rfl (by decide) rfl (fun ls hl => ?_)
          refine lv_goto (tgt := 10) S.1 S.2.1 d_Mo_restOf_123 (by decide) ?_
          exact ih _ _ _ _ _ _ _ _ _ hw (lv_sub hl [3, 4, 5, 6, 1, 0] rfl) hf
        · replace hf := xf c6 hf
          refine lv_iload S.1 S.2.1 d_Mo_restOf_43 (lv_at hl 6 rfl) ?_
          refine lv_if_lt (tgt := 116) S.1 S.2.1 d_Mo_restOf_45 (by decide) (fun c7 => ?_) (fun c7 => ?_)
          · replace hf := xt c7 hf
            refine lv_iload S.1 S.2.1 d_Mo_restOf_116 (lv_at hl 6 rfl) ?_
            refine lv_istore (lv' := [(5, .int x6), (7, .int t4), (0, .ref a0), (1, .int x1), (2, .int x2), (3, .long x3), (6, .int x6)]) S.1 S.2.1 d_Mo_restOf_118 hl (by decide) rfl (fun ls hl => ?_)
            refine lv_iinc (v := (x6 + 1)) (lv' := [(6, .int (x6 + 1)), (5, .int x6), (7, .int t4), (0, .ref a0), (1, .int x1), (2, .int x2), (3, .long x3)]) S.1 S.2.1 d_Mo_restOf_120 hl (k := 6) rfl rfl (by decide) rfl (fun ls hl => ?_)
            refine lv_goto (tgt := 10) S.1 S.2.1 d_Mo_restOf_123 (by decide) ?_
            exact ih _ _ _ _ _ _ _ _ _ hw (lv_sub hl [3, 4, 5, 6, 1, 0] rfl) hf
          · replace hf := xf c7 hf
            refine lv_sipush (v := 1440) S.1 S.2.1 d_Mo_restOf_48 (by decide) ?_
            refine lv_iload S.1 S.2.1 d_Mo_restOf_51 (lv_at hl 5 rfl) ?_
            refine lv_imul S.1 S.2.1 d_Mo_restOf_53 ?_
            refine lv_aload_n S.1 S.2.1 d_Mo_restOf_54 rfl (lv_at hl 1 rfl) ?_
            obtain ⟨t8, ht8, hf⟩ := xb hf
            refine x_getr S hw lk_Mo_16 ht8 d_Mo_restOf_55 ?_
            refine lv_aload_n S.1 S.2.1 d_Mo_restOf_58 rfl (lv_at hl 1 rfl) ?_
            refine lv_iload_n S.1 S.2.1 d_Mo_restOf_59 rfl (lv_at hl 3 rfl) ?_
            refine lv_iload S.1 S.2.1 d_Mo_restOf_60 (lv_at hl 5 rfl) ?_
            obtain ⟨t10, h9, hf⟩ := xb hf
            obtain ⟨h9b, h9⟩ := xkb h9
            refine x_callV (As := [.int x2, .int x5]) (rest := [.ref t8, .int (1440 * x5)]) (st1 := [.int t10, .ref t8, .int (1440 * x5)]) S hw (c_Mo_rowAt h9) (cwV 2 S.2.2.2.2 gv_Mo_363 rfl rfl rfl hd_Mo_rowAt ⟨Nat.le_of_ble_eq_true rfl, Nat.le_of_ble_eq_true rfl⟩) rfl h9b rfl hl.1 rfl rfl (Nat.le_of_ble_eq_true rfl) d_Mo_restOf_62 ⟨Nat.le_of_ble_eq_true rfl, Nat.le_of_ble_eq_true rfl⟩ (fun H locs hw => ?_)
            obtain ⟨t11, ht11, hf⟩ := xb hf
            refine x_iald S hw ht11 d_Mo_restOf_65 ?_
            refine lv_iadd S.1 S.2.1 d_Mo_restOf_66 ?_
            refine lv_aload_n S.1 S.2.1 d_Mo_restOf_67 rfl (lv_at hl 1 rfl) ?_
            obtain ⟨t12, ht12, hf⟩ := xb hf
            refine x_getr S hw lk_Mo_19 ht12 d_Mo_restOf_68 ?_
            refine lv_aload_n S.1 S.2.1 d_Mo_restOf_71 rfl (lv_at hl 1 rfl) ?_
            refine lv_iload_n S.1 S.2.1 d_Mo_restOf_72 rfl (lv_at hl 3 rfl) ?_
            refine lv_iload S.1 S.2.1 d_Mo_restOf_73 (lv_at hl 5 rfl) ?_
            obtain ⟨t14, h13, hf⟩ := xb hf
            obtain ⟨h13b, h13⟩ := xkb h13
            refine x_callV (As := [.int x2, .int x5]) (rest := [.ref t12, .int ((1440 * x5) + t11)]) (st1 := [.int t14, .ref t12, .int ((1440 * x5) + t11)]) S hw (c_Mo_rowAt h13) (cwV 2 S.2.2.2.2 gv_Mo_363 rfl rfl rfl hd_Mo_rowAt ⟨Nat.le_of_ble_eq_true rfl, Nat.le_of_ble_eq_true rfl⟩) rfl h13b rfl hl.1 rfl rfl (Nat.le_of_ble_eq_true rfl) d_Mo_restOf_75 ⟨Nat.le_of_ble_eq_true rfl, Nat.le_of_ble_eq_true rfl⟩ (fun H locs hw => ?_)
            obtain ⟨t15, ht15, hf⟩ := xb hf
            refine x_iald S hw ht15 d_Mo_restOf_78 ?_
            refine lv_iadd S.1 S.2.1 d_Mo_restOf_79 ?_
            refine lv_istore (lv' := [(8, .int (((1440 * x5) + t11) + t15)), (7, .int t4), (0, .ref a0), (1, .int x1), (2, .int x2), (3, .long x3), (5, .int x5), (6, .int x6)]) S.1 S.2.1 d_Mo_restOf_80 hl (by decide) rfl (fun ls hl => ?_)
            refine lv_lload_n S.1 S.2.1 d_Mo_restOf_82 rfl (lv_at hl 5 rfl) ?_
            refine lv_sipush (v := 1440) S.1 S.2.1 d_Mo_restOf_83 (by decide) ?_
            refine lv_iload S.1 S.2.1 d_Mo_restOf_86 (lv_at hl 7 rfl) ?_
            refine lv_imul S.1 S.2.1 d_Mo_restOf_88 ?_
            refine lv_aload_n S.1 S.2.1 d_Mo_restOf_89 rfl (lv_at hl 2 rfl) ?_
            obtain ⟨t16, ht16, hf⟩ := xb hf
            refine x_getr S hw lk_Mo_16 ht16 d_Mo_restOf_90 ?_
            refine lv_iload S.1 S.2.1 d_Mo_restOf_93 (lv_at hl 1 rfl) ?_
            obtain ⟨t17, ht17, hf⟩ := xb hf
            refine x_iald S hw ht17 d_Mo_restOf_95 ?_
            refine lv_iadd S.1 S.2.1 d_Mo_restOf_96 ?_
            refine lv_iload S.1 S.2.1 d_Mo_restOf_97 (lv_at hl 0 rfl) ?_
            refine lv_isub S.1 S.2.1 d_Mo_restOf_99 ?_
            refine lv_aload_n S.1 S.2.1 d_Mo_restOf_100 rfl (lv_at hl 2 rfl) ?_
            obtain ⟨t18, ht18, hf⟩ := xb hf
            refine x_getr S hw lk_Mo_51 ht18 d_Mo_restOf_101 ?_
            refine lv_iload_n S.1 S.2.1 d_Mo_restOf_104 rfl (lv_at hl 3 rfl) ?_
            obtain ⟨t19, ht19, hf⟩ := xb hf
            refine x_iald S hw ht19 d_Mo_restOf_105 ?_
            refine lv_icmp_ge (tgt := 113) S.1 S.2.1 d_Mo_restOf_106 (by decide) (fun c20 => ?_) (fun c20 => ?_)
            · replace hf := xt c20 hf
              refine lv_lconst (v := 0) S.1 S.2.1 d_Mo_restOf_113 (by decide) ?_
              refine lv_ladd S.1 S.2.1 d_Mo_restOf_114 ?_
              refine lv_lstore_n (lv' := [(3, .long (x3 + 0)), (8, .int (((1440 * x5) + t11) + t15)), (7, .int t4), (0, .ref a0), (1, .int x1), (2, .int x2), (5, .int x5), (6, .int x6)]) S.1 S.2.1 d_Mo_restOf_115 rfl hl (by decide) rfl (fun ls hl => ?_)
              refine lv_iload S.1 S.2.1 d_Mo_restOf_116 (lv_at hl 7 rfl) ?_
              refine lv_istore (lv' := [(5, .int x6), (3, .long (x3 + 0)), (8, .int (((1440 * x5) + t11) + t15)), (7, .int t4), (0, .ref a0), (1, .int x1), (2, .int x2), (6, .int x6)]) S.1 S.2.1 d_Mo_restOf_118 hl (by decide) rfl (fun ls hl => ?_)
              refine lv_iinc (v := (x6 + 1)) (lv' := [(6, .int (x6 + 1)), (5, .int x6), (3, .long (x3 + 0)), (8, .int (((1440 * x5) + t11) + t15)), (7, .int t4), (0, .ref a0), (1, .int x1), (2, .int x2)]) S.1 S.2.1 d_Mo_restOf_120 hl (k := 7) rfl rfl (by decide) rfl (fun ls hl => ?_)
              refine lv_goto (tgt := 10) S.1 S.2.1 d_Mo_restOf_123 (by decide) ?_
              exact ih _ _ _ _ _ _ _ _ _ hw (lv_sub hl [5, 6, 7, 2, 1, 0] rfl) hf
            · replace hf := xf c20 hf
              refine lv_lconst (v := 1) S.1 S.2.1 d_Mo_restOf_109 (by decide) ?_
              refine lv_goto (tgt := 114) S.1 S.2.1 d_Mo_restOf_110 (by decide) ?_
              refine lv_ladd S.1 S.2.1 d_Mo_restOf_114 ?_
              refine lv_lstore_n (lv' := [(3, .long (x3 + 1)), (8, .int (((1440 * x5) + t11) + t15)), (7, .int t4), (0, .ref a0), (1, .int x1), (2, .int x2), (5, .int x5), (6, .int x6)]) S.1 S.2.1 d_Mo_restOf_115 rfl hl (by decide) rfl (fun ls hl => ?_)
              refine lv_iload S.1 S.2.1 d_Mo_restOf_116 (lv_at hl 7 rfl) ?_
              refine lv_istore (lv' := [(5, .int x6), (3, .long (x3 + 1)), (8, .int (((1440 * x5) + t11) + t15)), (7, .int t4), (0, .ref a0), (1, .int x1), (2, .int x2), (6, .int x6)]) S.1 S.2.1 d_Mo_restOf_118 hl (by decide) rfl (fun ls hl => ?_)
              refine lv_iinc (v := (x6 + 1)) (lv' := [(6, .int (x6 + 1)), (5, .int x6), (3, .long (x3 + 1)), (8, .int (((1440 * x5) + t11) + t15)), (7, .int t4), (0, .ref a0), (1, .int x1), (2, .int x2)]) S.1 S.2.1 d_Mo_restOf_120 hl (k := 7) rfl rfl (by decide) rfl (fun ls hl => ?_)
              refine lv_goto (tgt := 10) S.1 S.2.1 d_Mo_restOf_123 (by decide) ?_
              exact ih _ _ _ _ _ _ _ _ _ hw (lv_sub hl [5, 6, 7, 2, 1, 0] rfl) hf
      · replace hf := xf c5 hf
        refine lv_goto (tgt := 120) S.1 S.2.1 d_Mo_restOf_33 (by decide) ?_
        refine lv_iinc (v := (x6 + 1)) (lv' := [(6, .int (x6 + 1)), (7, .int t4), (0, .ref a0), (1, .int x1), (2, .int x2), (3, .long x3), (5, .int x5)]) S.1 S.2.1 d_Mo_restOf_120 hl (k := 6) rfl rfl (by decide) rfl (fun ls hl => ?_)
        refine lv_goto (tgt := 10) S.1 S.2.1 d_Mo_restOf_123 (by decide) ?_
        exact ih _ _ _ _ _ _ _ _ _ hw (lv_sub hl [2, 3, 4, 5, 6, 0] rfl) hf
def f_Mo_restOf (a0 : Nat) (x1 : Int32) (x2 : Int32) (ω : xS) : Option Int64 :=
  f_Mo_restOf_10  xFU a0 x1 x2 0 (-99) (-7) ω
set_option maxHeartbeats 4000000 in
set_option maxRecDepth 100000 in
theorem c_Mo_restOf {l : Launch} {E : xV} {z : Nat} {a0 : Nat} {x1 : Int32} {x2 : Int32} {r : Int64} {ω : xS} (hf : f_Mo_restOf a0 x1 x2 ω = some r) : xM l E y_Mo_restOf ws_Mo_restOf { frames := 1, cells := 0, slots := 0, locals := 22 } [.ref a0, .int x1, .int x2] z ω (some (.long r)) z ω := by
  refine x_start (cc := b_Mo_restOf) (maxL := 9) (ret := (some .long)) (by decide) rfl (Nat.le_of_ble_eq_true rfl) ?_
  intro p e s m below meth c S hr hlocks hin ls hl hw
  have hl : lv_has ls 9 [(0, .ref a0), (1, .int x1), (2, .int x2)] := hl
  unfold f_Mo_restOf at hf
  refine lv_lconst (v := 0) S.1 S.2.1 d_Mo_restOf_0 (by decide) ?_
  refine lv_lstore_n (lv' := [(3, .long 0), (0, .ref a0), (1, .int x1), (2, .int x2)]) S.1 S.2.1 d_Mo_restOf_1 rfl hl (by decide) rfl (fun ls hl => ?_)
  refine lv_bipush (v := (-99)) S.1 S.2.1 d_Mo_restOf_2 (by decide) ?_
  refine lv_istore (lv' := [(5, .int (-99)), (3, .long 0), (0, .ref a0), (1, .int x1), (2, .int x2)]) S.1 S.2.1 d_Mo_restOf_4 hl (by decide) rfl (fun ls hl => ?_)
  refine lv_bipush (v := (-7)) S.1 S.2.1 d_Mo_restOf_6 (by decide) ?_
  refine lv_istore (lv' := [(6, .int (-7)), (5, .int (-99)), (3, .long 0), (0, .ref a0), (1, .int x1), (2, .int x2)]) S.1 S.2.1 d_Mo_restOf_8 hl (by decide) rfl (fun ls hl => ?_)
  exact w_Mo_restOf_10 S hr hlocks  _ _ _ _ _ _ _ _ _ _ hw (lv_sub hl [3, 4, 5, 2, 1, 0] rfl) hf
def f_Mo_minutes_33 : Nat → Nat → Int32 → Int32 → Int64 → Int32 → xS → Option Int64
  | 0, _, _, _, _, _, _ => none
  | n + 1, a0, x1, x3, x4, x6, ω =>
    if x3 < x6 then (
      some x4)
    else (
      (xgr ω a0 12 2).bind fun t9 =>
      (xai ω t9 ((21 * x1) + x6)).bind fun t10 =>
      if t10 < 0 then (
        f_Mo_minutes_33  n a0 x1 x3 (x4 + 0) (x6 + 1) ω)
      else (
        (xgr ω a0 12 5).bind fun t12 =>
        (xgr ω a0 12 2).bind fun t13 =>
        (xai ω t13 ((21 * x1) + x6)).bind fun t14 =>
        (xai ω t12 t14).bind fun t15 =>
        f_Mo_minutes_33  n a0 x1 x3 (x4 + (Int32.toInt64 t15)) (x6 + 1) ω))
set_option maxHeartbeats 4000000 in
set_option maxRecDepth 100000 in
theorem w_Mo_minutes_33 {p : Program} {l : Launch} {e : Env} {s : State} {m : MethodId} {args : Array Value} {below : List Frame} {meth : Method} {c : Code} {E : xV} {z : Nat} {r : Int64} {ω : xS} (S : CallFix p m c b_Mo_minutes 7 s args xTbl "RosterRulesModel") (hr : meth.sig.returnType = (some .long)) (hlocks : meth.locks = false) : ∀ n : Nat, ∀ (a0 : Nat) (x1 : Int32) (x3 : Int32) (x4 : Int64) (x6 : Int32) (H : Heap) (locs : List Loc) (ls : Array Slot), xW E z ω s s.heap H locs → lv_has ls 7 [(0, .ref a0), (1, .int x1), (3, .int x3), (4, .long x4), (6, .int x6)] → f_Mo_minutes_33 n a0 x1 x3 x4 x6 ω = some r → W p l e (headSpec ws_Mo_minutes { frames := 2, cells := 0, slots := 0, locals := 43 }).room s m args below meth c H locs 0 0 (MQ below (xQ E (some (.long r)) z ω) args s 0 0 (fun q => E.2.2 ≤ q)) (F0 m 33 ls []) := by
  intro n
  induction n with
  | zero =>
    intro a0 x1 x3 x4 x6 H locs ls hw hl hf
    have h2 : (none : Option Int64) = some r := hf
    cases h2
  | succ n ih =>
    intro a0 x1 x3 x4 x6 H locs ls hw hl hf
    rw [f_Mo_minutes_33] at hf
    refine lv_iload S.1 S.2.1 d_Mo_minutes_33 (lv_at hl 4 rfl) ?_
    refine lv_iload_n S.1 S.2.1 d_Mo_minutes_35 rfl (lv_at hl 2 rfl) ?_
    refine lv_icmp_gt (tgt := 87) S.1 S.2.1 d_Mo_minutes_36 (by decide) (fun c8 => ?_) (fun c8 => ?_)
    · replace hf := xt c8 hf
      refine lv_lload S.1 S.2.1 d_Mo_minutes_87 (lv_at hl 3 rfl) ?_
      obtain rfl := xe1 hf
      exact x_lret S hr hlocks hw d_Mo_minutes_89
    · replace hf := xf c8 hf
      refine lv_lload S.1 S.2.1 d_Mo_minutes_39 (lv_at hl 3 rfl) ?_
      refine lv_aload_n S.1 S.2.1 d_Mo_minutes_41 rfl (lv_at hl 0 rfl) ?_
      obtain ⟨t9, ht9, hf⟩ := xb hf
      refine x_getr S hw lk_Mo_7 ht9 d_Mo_minutes_42 ?_
      refine lv_bipush (v := 21) S.1 S.2.1 d_Mo_minutes_45 (by decide) ?_
      refine lv_iload_n S.1 S.2.1 d_Mo_minutes_47 rfl (lv_at hl 1 rfl) ?_
      refine lv_imul S.1 S.2.1 d_Mo_minutes_48 ?_
      refine lv_iload S.1 S.2.1 d_Mo_minutes_49 (lv_at hl 4 rfl) ?_
      refine lv_iadd S.1 S.2.1 d_Mo_minutes_51 ?_
      obtain ⟨t10, ht10, hf⟩ := xb hf
      refine x_iald S hw ht10 d_Mo_minutes_52 ?_
      refine lv_if_lt (tgt := 77) S.1 S.2.1 d_Mo_minutes_53 (by decide) (fun c11 => ?_) (fun c11 => ?_)
      · replace hf := xt c11 hf
        refine lv_lconst (v := 0) S.1 S.2.1 d_Mo_minutes_77 (by decide) ?_
        refine lv_ladd S.1 S.2.1 d_Mo_minutes_78 ?_
        refine lv_lstore (lv' := [(4, .long (x4 + 0)), (0, .ref a0), (1, .int x1), (3, .int x3), (6, .int x6)]) S.1 S.2.1 d_Mo_minutes_79 hl (by decide) rfl (fun ls hl => ?_)
        refine lv_iinc (v := (x6 + 1)) (lv' := [(6, .int (x6 + 1)), (4, .long (x4 + 0)), (0, .ref a0), (1, .int x1), (3, .int x3)]) S.1 S.2.1 d_Mo_minutes_81 hl (k := 4) rfl rfl (by decide) rfl (fun ls hl => ?_)
        refine lv_goto (tgt := 33) S.1 S.2.1 d_Mo_minutes_84 (by decide) ?_
        exact ih _ _ _ _ _ _ _ _ hw (lv_sub hl [2, 3, 4, 1, 0] rfl) hf
      · replace hf := xf c11 hf
        refine lv_aload_n S.1 S.2.1 d_Mo_minutes_56 rfl (lv_at hl 0 rfl) ?_
        obtain ⟨t12, ht12, hf⟩ := xb hf
        refine x_getr S hw lk_Mo_19 ht12 d_Mo_minutes_57 ?_
        refine lv_aload_n S.1 S.2.1 d_Mo_minutes_60 rfl (lv_at hl 0 rfl) ?_
        obtain ⟨t13, ht13, hf⟩ := xb hf
        refine x_getr S hw lk_Mo_7 ht13 d_Mo_minutes_61 ?_
        refine lv_bipush (v := 21) S.1 S.2.1 d_Mo_minutes_64 (by decide) ?_
        refine lv_iload_n S.1 S.2.1 d_Mo_minutes_66 rfl (lv_at hl 1 rfl) ?_
        refine lv_imul S.1 S.2.1 d_Mo_minutes_67 ?_
        refine lv_iload S.1 S.2.1 d_Mo_minutes_68 (lv_at hl 4 rfl) ?_
        refine lv_iadd S.1 S.2.1 d_Mo_minutes_70 ?_
        obtain ⟨t14, ht14, hf⟩ := xb hf
        refine x_iald S hw ht14 d_Mo_minutes_71 ?_
        obtain ⟨t15, ht15, hf⟩ := xb hf
        refine x_iald S hw ht15 d_Mo_minutes_72 ?_
        refine lv_i2l (v := (Int32.toInt64 t15)) S.1 S.2.1 d_Mo_minutes_73 rfl ?_
        refine lv_goto (tgt := 78) S.1 S.2.1 d_Mo_minutes_74 (by decide) ?_
        refine lv_ladd S.1 S.2.1 d_Mo_minutes_78 ?_
        refine lv_lstore (lv' := [(4, .long (x4 + (Int32.toInt64 t15))), (0, .ref a0), (1, .int x1), (3, .int x3), (6, .int x6)]) S.1 S.2.1 d_Mo_minutes_79 hl (by decide) rfl (fun ls hl => ?_)
        refine lv_iinc (v := (x6 + 1)) (lv' := [(6, .int (x6 + 1)), (4, .long (x4 + (Int32.toInt64 t15))), (0, .ref a0), (1, .int x1), (3, .int x3)]) S.1 S.2.1 d_Mo_minutes_81 hl (k := 4) rfl rfl (by decide) rfl (fun ls hl => ?_)
        refine lv_goto (tgt := 33) S.1 S.2.1 d_Mo_minutes_84 (by decide) ?_
        exact ih _ _ _ _ _ _ _ _ hw (lv_sub hl [2, 3, 4, 1, 0] rfl) hf
def f_Mo_minutes (a0 : Nat) (x1 : Int32) (x2 : Int32) (x3 : Int32) (ω : xS) : Option Int64 :=
  (xk ω a0 12 (f_Mo_isCell a0 x1 x2 ω)).bind fun t2 =>
  if t2 = 0 then (
    some (-1))
  else (
    (xk ω a0 12 (f_Mo_isCell a0 x1 x3 ω)).bind fun t5 =>
    if t5 = 0 then (
      some (-1))
    else (
      if x2 ≤ x3 then (
        f_Mo_minutes_33  xFU a0 x1 x3 0 x2 ω)
      else (
        some (-1))))
set_option maxHeartbeats 4000000 in
set_option maxRecDepth 100000 in
theorem c_Mo_minutes {l : Launch} {E : xV} {z : Nat} {a0 : Nat} {x1 : Int32} {x2 : Int32} {x3 : Int32} {r : Int64} {ω : xS} (hf : f_Mo_minutes a0 x1 x2 x3 ω = some r) : xM l E y_Mo_minutes ws_Mo_minutes { frames := 2, cells := 0, slots := 0, locals := 43 } [.ref a0, .int x1, .int x2, .int x3] z ω (some (.long r)) z ω := by
  refine x_start (cc := b_Mo_minutes) (maxL := 7) (ret := (some .long)) (by decide) rfl (Nat.le_of_ble_eq_true rfl) ?_
  intro p e s m below meth c S hr hlocks hin ls hl hw
  have hl : lv_has ls 7 [(0, .ref a0), (1, .int x1), (2, .int x2), (3, .int x3)] := hl
  unfold f_Mo_minutes at hf
  refine lv_aload_n S.1 S.2.1 d_Mo_minutes_0 rfl (lv_at hl 0 rfl) ?_
  refine lv_iload_n S.1 S.2.1 d_Mo_minutes_1 rfl (lv_at hl 1 rfl) ?_
  refine lv_iload_n S.1 S.2.1 d_Mo_minutes_2 rfl (lv_at hl 2 rfl) ?_
  obtain ⟨t2, h1, hf⟩ := xb hf
  obtain ⟨h1b, h1⟩ := xkb h1
  refine x_callV (As := [.int x1, .int x2]) (rest := []) (st1 := [.int t2]) S hw (c_Mo_isCell h1) (cwV 2 S.2.2.2.2 gv_Mo_350 rfl rfl rfl hd_Mo_isCell ⟨Nat.le_of_ble_eq_true rfl, Nat.le_of_ble_eq_true rfl⟩) rfl h1b rfl hl.1 rfl rfl (Nat.le_of_ble_eq_true rfl) d_Mo_minutes_3 ⟨Nat.le_of_ble_eq_true rfl, Nat.le_of_ble_eq_true rfl⟩ (fun H locs hw => ?_)
  refine lv_if_eq (tgt := 23) S.1 S.2.1 d_Mo_minutes_6 (by decide) (fun c3 => ?_) (fun c3 => ?_)
  · replace hf := xt c3 hf
    refine lv_ldc2 (v := (-1)) S.1 S.2.1 S.2.2.2.1 (S.2.2.2.2 _ wd_6_125) d_Mo_minutes_23 ?_
    obtain rfl := xe1 hf
    exact x_lret S hr hlocks hw d_Mo_minutes_26
  · replace hf := xf c3 hf
    refine lv_aload_n S.1 S.2.1 d_Mo_minutes_9 rfl (lv_at hl 0 rfl) ?_
    refine lv_iload_n S.1 S.2.1 d_Mo_minutes_10 rfl (lv_at hl 1 rfl) ?_
    refine lv_iload_n S.1 S.2.1 d_Mo_minutes_11 rfl (lv_at hl 3 rfl) ?_
    obtain ⟨t5, h4, hf⟩ := xb hf
    obtain ⟨h4b, h4⟩ := xkb h4
    refine x_callV (As := [.int x1, .int x3]) (rest := []) (st1 := [.int t5]) S hw (c_Mo_isCell h4) (cwV 2 S.2.2.2.2 gv_Mo_350 rfl rfl rfl hd_Mo_isCell ⟨Nat.le_of_ble_eq_true rfl, Nat.le_of_ble_eq_true rfl⟩) rfl h4b rfl hl.1 rfl rfl (Nat.le_of_ble_eq_true rfl) d_Mo_minutes_12 ⟨Nat.le_of_ble_eq_true rfl, Nat.le_of_ble_eq_true rfl⟩ (fun H locs hw => ?_)
    refine lv_if_eq (tgt := 23) S.1 S.2.1 d_Mo_minutes_15 (by decide) (fun c6 => ?_) (fun c6 => ?_)
    · replace hf := xt c6 hf
      refine lv_ldc2 (v := (-1)) S.1 S.2.1 S.2.2.2.1 (S.2.2.2.2 _ wd_6_125) d_Mo_minutes_23 ?_
      obtain rfl := xe1 hf
      exact x_lret S hr hlocks hw d_Mo_minutes_26
    · replace hf := xf c6 hf
      refine lv_iload_n S.1 S.2.1 d_Mo_minutes_18 rfl (lv_at hl 3 rfl) ?_
      refine lv_iload_n S.1 S.2.1 d_Mo_minutes_19 rfl (lv_at hl 2 rfl) ?_
      refine lv_icmp_ge (tgt := 27) S.1 S.2.1 d_Mo_minutes_20 (by decide) (fun c7 => ?_) (fun c7 => ?_)
      · replace hf := xt c7 hf
        refine lv_lconst (v := 0) S.1 S.2.1 d_Mo_minutes_27 (by decide) ?_
        refine lv_lstore (lv' := [(4, .long 0), (0, .ref a0), (1, .int x1), (2, .int x2), (3, .int x3)]) S.1 S.2.1 d_Mo_minutes_28 hl (by decide) rfl (fun ls hl => ?_)
        refine lv_iload_n S.1 S.2.1 d_Mo_minutes_30 rfl (lv_at hl 3 rfl) ?_
        refine lv_istore (lv' := [(6, .int x2), (4, .long 0), (0, .ref a0), (1, .int x1), (2, .int x2), (3, .int x3)]) S.1 S.2.1 d_Mo_minutes_31 hl (by decide) rfl (fun ls hl => ?_)
        exact w_Mo_minutes_33 S hr hlocks  _ _ _ _ _ _ _ _ _ hw (lv_sub hl [2, 3, 5, 1, 0] rfl) hf
      · replace hf := xf c7 hf
        refine lv_ldc2 (v := (-1)) S.1 S.2.1 S.2.2.2.1 (S.2.2.2.2 _ wd_6_125) d_Mo_minutes_23 ?_
        obtain rfl := xe1 hf
        exact x_lret S hr hlocks hw d_Mo_minutes_26
def f_Mo_neverOf_9 : Nat → Nat → Int32 → Int32 → Int64 → Int32 → Int32 → xS → Option Int64
  | 0, _, _, _, _, _, _, _ => none
  | n + 1, a0, x1, x2, x3, x5, x6, ω =>
    (xgi ω a0 12 1).bind fun t1 =>
    if t1 ≤ x6 then (
      some x3)
    else (
      (xk ω a0 12 (f_Mo_rowAt a0 x2 x6 ω)).bind fun t4 =>
      (xk ω a0 12 (f_Mo_lead a0 x1 (x5 ||| 1024) (t4 + 1) ω)).bind fun t6 =>
      if x6 < 0 then (
        f_Mo_neverOf_9  n a0 x1 x2 (x3 + 0) t6 (x6 + 1) ω)
      else (
        (xgr ω a0 12 23).bind fun t8 =>
        (xai ω t8 x1).bind fun t9 =>
        if (t6 &&& t9) = 0 then (
          f_Mo_neverOf_9  n a0 x1 x2 (x3 + 0) t6 (x6 + 1) ω)
        else (
          f_Mo_neverOf_9  n a0 x1 x2 (x3 + 1) t6 (x6 + 1) ω)))
set_option maxHeartbeats 4000000 in
set_option maxRecDepth 100000 in
theorem w_Mo_neverOf_9 {p : Program} {l : Launch} {e : Env} {s : State} {m : MethodId} {args : Array Value} {below : List Frame} {meth : Method} {c : Code} {E : xV} {z : Nat} {r : Int64} {ω : xS} (S : CallFix p m c b_Mo_neverOf 7 s args xTbl "RosterRulesModel") (hr : meth.sig.returnType = (some .long)) (hlocks : meth.locks = false) : ∀ n : Nat, ∀ (a0 : Nat) (x1 : Int32) (x2 : Int32) (x3 : Int64) (x5 : Int32) (x6 : Int32) (H : Heap) (locs : List Loc) (ls : Array Slot), xW E z ω s s.heap H locs → lv_has ls 7 [(0, .ref a0), (1, .int x1), (2, .int x2), (3, .long x3), (5, .int x5), (6, .int x6)] → f_Mo_neverOf_9 n a0 x1 x2 x3 x5 x6 ω = some r → W p l e (headSpec ws_Mo_neverOf { frames := 1, cells := 0, slots := 0, locals := 26 }).room s m args below meth c H locs 0 0 (MQ below (xQ E (some (.long r)) z ω) args s 0 0 (fun q => E.2.2 ≤ q)) (F0 m 9 ls []) := by
  intro n
  induction n with
  | zero =>
    intro a0 x1 x2 x3 x5 x6 H locs ls hw hl hf
    have h2 : (none : Option Int64) = some r := hf
    cases h2
  | succ n ih =>
    intro a0 x1 x2 x3 x5 x6 H locs ls hw hl hf
    rw [f_Mo_neverOf_9] at hf
    refine lv_iload S.1 S.2.1 d_Mo_neverOf_9 (lv_at hl 5 rfl) ?_
    refine lv_aload_n S.1 S.2.1 d_Mo_neverOf_11 rfl (lv_at hl 0 rfl) ?_
    obtain ⟨t1, ht1, hf⟩ := xb hf
    refine x_geti S hw lk_Mo_159 ht1 d_Mo_neverOf_12 ?_
    refine lv_icmp_ge (tgt := 71) S.1 S.2.1 d_Mo_neverOf_15 (by decide) (fun c2 => ?_) (fun c2 => ?_)
    · replace hf := xt c2 hf
      refine lv_lload_n S.1 S.2.1 d_Mo_neverOf_71 rfl (lv_at hl 3 rfl) ?_
      obtain rfl := xe1 hf
      exact x_lret S hr hlocks hw d_Mo_neverOf_72
    · replace hf := xf c2 hf
      refine lv_aload_n S.1 S.2.1 d_Mo_neverOf_18 rfl (lv_at hl 0 rfl) ?_
      refine lv_iload_n S.1 S.2.1 d_Mo_neverOf_19 rfl (lv_at hl 1 rfl) ?_
      refine lv_iload S.1 S.2.1 d_Mo_neverOf_20 (lv_at hl 4 rfl) ?_
      refine lv_sipush (v := 1024) S.1 S.2.1 d_Mo_neverOf_22 (by decide) ?_
      refine lv_ior S.1 S.2.1 d_Mo_neverOf_25 ?_
      refine lv_aload_n S.1 S.2.1 d_Mo_neverOf_26 rfl (lv_at hl 0 rfl) ?_
      refine lv_iload_n S.1 S.2.1 d_Mo_neverOf_27 rfl (lv_at hl 2 rfl) ?_
      refine lv_iload S.1 S.2.1 d_Mo_neverOf_28 (lv_at hl 5 rfl) ?_
      obtain ⟨t4, h3, hf⟩ := xb hf
      obtain ⟨h3b, h3⟩ := xkb h3
      refine x_callV (As := [.int x2, .int x6]) (rest := [.int (x5 ||| 1024), .int x1, .ref a0]) (st1 := [.int t4, .int (x5 ||| 1024), .int x1, .ref a0]) S hw (c_Mo_rowAt h3) (cwV 2 S.2.2.2.2 gv_Mo_363 rfl rfl rfl hd_Mo_rowAt ⟨Nat.le_of_ble_eq_true rfl, Nat.le_of_ble_eq_true rfl⟩) rfl h3b rfl hl.1 rfl rfl (Nat.le_of_ble_eq_true rfl) d_Mo_neverOf_30 ⟨Nat.le_of_ble_eq_true rfl, Nat.le_of_ble_eq_true rfl⟩ (fun H locs hw => ?_)
      refine lv_iconst (v := 1) S.1 S.2.1 d_Mo_neverOf_33 (by decide) ?_
      refine lv_iadd S.1 S.2.1 d_Mo_neverOf_34 ?_
      obtain ⟨t6, h5, hf⟩ := xb hf
      obtain ⟨h5b, h5⟩ := xkb h5
      refine x_callV (As := [.int x1, .int (x5 ||| 1024), .int (t4 + 1)]) (rest := []) (st1 := [.int t6]) S hw (c_Mo_lead h5) (cwV 3 S.2.2.2.2 gv_Mo_330 rfl rfl rfl hd_Mo_lead ⟨Nat.le_of_ble_eq_true rfl, Nat.le_of_ble_eq_true rfl⟩) rfl h5b rfl hl.1 rfl rfl (Nat.le_of_ble_eq_true rfl) d_Mo_neverOf_35 ⟨Nat.le_of_ble_eq_true rfl, Nat.le_of_ble_eq_true rfl⟩ (fun H locs hw => ?_)
      refine lv_istore (lv' := [(5, .int t6), (0, .ref a0), (1, .int x1), (2, .int x2), (3, .long x3), (6, .int x6)]) S.1 S.2.1 d_Mo_neverOf_38 hl (by decide) rfl (fun ls hl => ?_)
      refine lv_lload_n S.1 S.2.1 d_Mo_neverOf_40 rfl (lv_at hl 4 rfl) ?_
      refine lv_iload S.1 S.2.1 d_Mo_neverOf_41 (lv_at hl 5 rfl) ?_
      refine lv_if_lt (tgt := 62) S.1 S.2.1 d_Mo_neverOf_43 (by decide) (fun c7 => ?_) (fun c7 => ?_)
      · replace hf := xt c7 hf
        refine lv_lconst (v := 0) S.1 S.2.1 d_Mo_neverOf_62 (by decide) ?_
        refine lv_ladd S.1 S.2.1 d_Mo_neverOf_63 ?_
        refine lv_lstore_n (lv' := [(3, .long (x3 + 0)), (5, .int t6), (0, .ref a0), (1, .int x1), (2, .int x2), (6, .int x6)]) S.1 S.2.1 d_Mo_neverOf_64 rfl hl (by decide) rfl (fun ls hl => ?_)
        refine lv_iinc (v := (x6 + 1)) (lv' := [(6, .int (x6 + 1)), (3, .long (x3 + 0)), (5, .int t6), (0, .ref a0), (1, .int x1), (2, .int x2)]) S.1 S.2.1 d_Mo_neverOf_65 hl (k := 5) rfl rfl (by decide) rfl (fun ls hl => ?_)
        refine lv_goto (tgt := 9) S.1 S.2.1 d_Mo_neverOf_68 (by decide) ?_
        exact ih _ _ _ _ _ _ _ _ _ hw (lv_sub hl [3, 4, 5, 1, 2, 0] rfl) hf
      · replace hf := xf c7 hf
        refine lv_iload S.1 S.2.1 d_Mo_neverOf_46 (lv_at hl 0 rfl) ?_
        refine lv_aload_n S.1 S.2.1 d_Mo_neverOf_48 rfl (lv_at hl 1 rfl) ?_
        obtain ⟨t8, ht8, hf⟩ := xb hf
        refine x_getr S hw lk_Mo_69 ht8 d_Mo_neverOf_49 ?_
        refine lv_iload_n S.1 S.2.1 d_Mo_neverOf_52 rfl (lv_at hl 2 rfl) ?_
        obtain ⟨t9, ht9, hf⟩ := xb hf
        refine x_iald S hw ht9 d_Mo_neverOf_53 ?_
        refine lv_iand S.1 S.2.1 d_Mo_neverOf_54 ?_
        refine lv_if_eq (tgt := 62) S.1 S.2.1 d_Mo_neverOf_55 (by decide) (fun c10 => ?_) (fun c10 => ?_)
        · replace hf := xt c10 hf
          refine lv_lconst (v := 0) S.1 S.2.1 d_Mo_neverOf_62 (by decide) ?_
          refine lv_ladd S.1 S.2.1 d_Mo_neverOf_63 ?_
          refine lv_lstore_n (lv' := [(3, .long (x3 + 0)), (5, .int t6), (0, .ref a0), (1, .int x1), (2, .int x2), (6, .int x6)]) S.1 S.2.1 d_Mo_neverOf_64 rfl hl (by decide) rfl (fun ls hl => ?_)
          refine lv_iinc (v := (x6 + 1)) (lv' := [(6, .int (x6 + 1)), (3, .long (x3 + 0)), (5, .int t6), (0, .ref a0), (1, .int x1), (2, .int x2)]) S.1 S.2.1 d_Mo_neverOf_65 hl (k := 5) rfl rfl (by decide) rfl (fun ls hl => ?_)
          refine lv_goto (tgt := 9) S.1 S.2.1 d_Mo_neverOf_68 (by decide) ?_
          exact ih _ _ _ _ _ _ _ _ _ hw (lv_sub hl [3, 4, 5, 1, 2, 0] rfl) hf
        · replace hf := xf c10 hf
          refine lv_lconst (v := 1) S.1 S.2.1 d_Mo_neverOf_58 (by decide) ?_
          refine lv_goto (tgt := 63) S.1 S.2.1 d_Mo_neverOf_59 (by decide) ?_
          refine lv_ladd S.1 S.2.1 d_Mo_neverOf_63 ?_
          refine lv_lstore_n (lv' := [(3, .long (x3 + 1)), (5, .int t6), (0, .ref a0), (1, .int x1), (2, .int x2), (6, .int x6)]) S.1 S.2.1 d_Mo_neverOf_64 rfl hl (by decide) rfl (fun ls hl => ?_)
          refine lv_iinc (v := (x6 + 1)) (lv' := [(6, .int (x6 + 1)), (3, .long (x3 + 1)), (5, .int t6), (0, .ref a0), (1, .int x1), (2, .int x2)]) S.1 S.2.1 d_Mo_neverOf_65 hl (k := 5) rfl rfl (by decide) rfl (fun ls hl => ?_)
          refine lv_goto (tgt := 9) S.1 S.2.1 d_Mo_neverOf_68 (by decide) ?_
          exact ih _ _ _ _ _ _ _ _ _ hw (lv_sub hl [3, 4, 5, 1, 2, 0] rfl) hf
def f_Mo_neverOf (a0 : Nat) (x1 : Int32) (x2 : Int32) (ω : xS) : Option Int64 :=
  f_Mo_neverOf_9  xFU a0 x1 x2 0 0 (-7) ω
set_option maxHeartbeats 4000000 in
set_option maxRecDepth 100000 in
theorem c_Mo_neverOf {l : Launch} {E : xV} {z : Nat} {a0 : Nat} {x1 : Int32} {x2 : Int32} {r : Int64} {ω : xS} (hf : f_Mo_neverOf a0 x1 x2 ω = some r) : xM l E y_Mo_neverOf ws_Mo_neverOf { frames := 1, cells := 0, slots := 0, locals := 26 } [.ref a0, .int x1, .int x2] z ω (some (.long r)) z ω := by
  refine x_start (cc := b_Mo_neverOf) (maxL := 7) (ret := (some .long)) (by decide) rfl (Nat.le_of_ble_eq_true rfl) ?_
  intro p e s m below meth c S hr hlocks hin ls hl hw
  have hl : lv_has ls 7 [(0, .ref a0), (1, .int x1), (2, .int x2)] := hl
  unfold f_Mo_neverOf at hf
  refine lv_lconst (v := 0) S.1 S.2.1 d_Mo_neverOf_0 (by decide) ?_
  refine lv_lstore_n (lv' := [(3, .long 0), (0, .ref a0), (1, .int x1), (2, .int x2)]) S.1 S.2.1 d_Mo_neverOf_1 rfl hl (by decide) rfl (fun ls hl => ?_)
  refine lv_iconst (v := 0) S.1 S.2.1 d_Mo_neverOf_2 (by decide) ?_
  refine lv_istore (lv' := [(5, .int 0), (3, .long 0), (0, .ref a0), (1, .int x1), (2, .int x2)]) S.1 S.2.1 d_Mo_neverOf_3 hl (by decide) rfl (fun ls hl => ?_)
  refine lv_bipush (v := (-7)) S.1 S.2.1 d_Mo_neverOf_5 (by decide) ?_
  refine lv_istore (lv' := [(6, .int (-7)), (5, .int 0), (3, .long 0), (0, .ref a0), (1, .int x1), (2, .int x2)]) S.1 S.2.1 d_Mo_neverOf_7 hl (by decide) rfl (fun ls hl => ?_)
  exact w_Mo_neverOf_9 S hr hlocks  _ _ _ _ _ _ _ _ _ _ hw (lv_sub hl [3, 4, 5, 2, 1, 0] rfl) hf
