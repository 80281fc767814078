def f_Mo_isLaw (a0 : Nat) (x1 : Int32) (ω : xS) : Option Int32 :=
  if x1 < 0 then (
    some 0)
  else (
    (xgi ω a0 12 20).bind fun t2 =>
    if t2 ≤ x1 then (
      some 0)
    else (
      some 1))
set_option maxHeartbeats 4000000 in
set_option maxRecDepth 100000 in
theorem c_Mo_isLaw {l : Launch} {E : xV} {z : Nat} {a0 : Nat} {x1 : Int32} {r : Int32} {ω : xS} (hf : f_Mo_isLaw a0 x1 ω = some r) : xM l E y_Mo_isLaw ws_Mo_isLaw { frames := 0, cells := 0, slots := 0, locals := 0 } [.ref a0, .int x1] z ω (some (.int r)) z ω := by
  refine x_start (cc := b_Mo_isLaw) (maxL := 2) (ret := (some .boolean)) (by decide) rfl (Nat.le_of_ble_eq_true rfl) ?_
  intro p e s m below meth c S hr hlocks hin ls hl hw
  have hl : lv_has ls 2 [(0, .ref a0), (1, .int x1)] := hl
  unfold f_Mo_isLaw at hf
  refine lv_iload_n S.1 S.2.1 d_Mo_isLaw_0 rfl (lv_at hl 1 rfl) ?_
  refine lv_if_lt (tgt := 16) S.1 S.2.1 d_Mo_isLaw_1 (by decide) (fun c1 => ?_) (fun c1 => ?_)
  · replace hf := xt c1 hf
    refine lv_iconst (v := 0) S.1 S.2.1 d_Mo_isLaw_16 (by decide) ?_
    obtain rfl := xe1 hf
    exact x_zret S hr hlocks hw (by decide) d_Mo_isLaw_17
  · replace hf := xf c1 hf
    refine lv_iload_n S.1 S.2.1 d_Mo_isLaw_4 rfl (lv_at hl 1 rfl) ?_
    refine lv_aload_n S.1 S.2.1 d_Mo_isLaw_5 rfl (lv_at hl 0 rfl) ?_
    obtain ⟨t2, ht2, hf⟩ := xb hf
    refine x_geti S hw lk_Mo_219 ht2 d_Mo_isLaw_6 ?_
    refine lv_icmp_ge (tgt := 16) S.1 S.2.1 d_Mo_isLaw_9 (by decide) (fun c3 => ?_) (fun c3 => ?_)
    · replace hf := xt c3 hf
      refine lv_iconst (v := 0) S.1 S.2.1 d_Mo_isLaw_16 (by decide) ?_
      obtain rfl := xe1 hf
      exact x_zret S hr hlocks hw (by decide) d_Mo_isLaw_17
    · replace hf := xf c3 hf
      refine lv_iconst (v := 1) S.1 S.2.1 d_Mo_isLaw_12 (by decide) ?_
      refine lv_goto (tgt := 17) S.1 S.2.1 d_Mo_isLaw_13 (by decide) ?_
      obtain rfl := xe1 hf
      exact x_zret S hr hlocks hw (by decide) d_Mo_isLaw_17
def f_Mo_hasPattern (a0 : Nat) (x1 : Int32) (ω : xS) : Option Int32 :=
  (xgr ω a0 12 13).bind fun t1 =>
  (xai ω t1 x1).bind fun t2 =>
  if t2 = 3 then (
    some 1)
  else (
    (xgr ω a0 12 13).bind fun t4 =>
    (xai ω t4 x1).bind fun t5 =>
    if t5 = 4 then (
      some 1)
    else (
      some 0))
set_option maxHeartbeats 4000000 in
set_option maxRecDepth 100000 in
theorem c_Mo_hasPattern {l : Launch} {E : xV} {z : Nat} {a0 : Nat} {x1 : Int32} {r : Int32} {ω : xS} (hf : f_Mo_hasPattern a0 x1 ω = some r) : xM l E y_Mo_hasPattern ws_Mo_hasPattern { frames := 0, cells := 0, slots := 0, locals := 0 } [.ref a0, .int x1] z ω (some (.int r)) z ω := by
  refine x_start (cc := b_Mo_hasPattern) (maxL := 2) (ret := (some .boolean)) (by decide) rfl (Nat.le_of_ble_eq_true rfl) ?_
  intro p e s m below meth c S hr hlocks hin ls hl hw
  have hl : lv_has ls 2 [(0, .ref a0), (1, .int x1)] := hl
  unfold f_Mo_hasPattern at hf
  refine lv_aload_n S.1 S.2.1 d_Mo_hasPattern_0 rfl (lv_at hl 0 rfl) ?_
  obtain ⟨t1, ht1, hf⟩ := xb hf
  refine x_getr S hw lk_Mo_42 ht1 d_Mo_hasPattern_1 ?_
  refine lv_iload_n S.1 S.2.1 d_Mo_hasPattern_4 rfl (lv_at hl 1 rfl) ?_
  obtain ⟨t2, ht2, hf⟩ := xb hf
  refine x_iald S hw ht2 d_Mo_hasPattern_5 ?_
  refine lv_iconst (v := 3) S.1 S.2.1 d_Mo_hasPattern_6 (by decide) ?_
  refine lv_icmp_eq (tgt := 20) S.1 S.2.1 d_Mo_hasPattern_7 (by decide) (fun c3 => ?_) (fun c3 => ?_)
  · replace hf := xt c3 hf
    refine lv_iconst (v := 1) S.1 S.2.1 d_Mo_hasPattern_20 (by decide) ?_
    refine lv_goto (tgt := 25) S.1 S.2.1 d_Mo_hasPattern_21 (by decide) ?_
    obtain rfl := xe1 hf
    exact x_zret S hr hlocks hw (by decide) d_Mo_hasPattern_25
  · replace hf := xf c3 hf
    refine lv_aload_n S.1 S.2.1 d_Mo_hasPattern_10 rfl (lv_at hl 0 rfl) ?_
    obtain ⟨t4, ht4, hf⟩ := xb hf
    refine x_getr S hw lk_Mo_42 ht4 d_Mo_hasPattern_11 ?_
    refine lv_iload_n S.1 S.2.1 d_Mo_hasPattern_14 rfl (lv_at hl 1 rfl) ?_
    obtain ⟨t5, ht5, hf⟩ := xb hf
    refine x_iald S hw ht5 d_Mo_hasPattern_15 ?_
    refine lv_iconst (v := 4) S.1 S.2.1 d_Mo_hasPattern_16 (by decide) ?_
    refine lv_icmp_ne (tgt := 24) S.1 S.2.1 d_Mo_hasPattern_17 (by decide) (fun c6 => ?_) (fun c6 => ?_)
    · replace hf := xf c6 hf
      refine lv_iconst (v := 0) S.1 S.2.1 d_Mo_hasPattern_24 (by decide) ?_
      obtain rfl := xe1 hf
      exact x_zret S hr hlocks hw (by decide) d_Mo_hasPattern_25
    · replace hf := xt c6 hf
      refine lv_iconst (v := 1) S.1 S.2.1 d_Mo_hasPattern_20 (by decide) ?_
      refine lv_goto (tgt := 25) S.1 S.2.1 d_Mo_hasPattern_21 (by decide) ?_
      obtain rfl := xe1 hf
      exact x_zret S hr hlocks hw (by decide) d_Mo_hasPattern_25
def f_Mo_law1_35 (a0 : Nat) (x1 : Int32) (x2 : Int32) (ω : xS) : Option Int32 :=
  if x2 = 0 then (
    (xgr ω a0 12 13).bind fun t22 =>
    (xai ω t22 x1).bind fun t23 =>
    some t23)
  else (
    if x2 = 1 then (
      (xgr ω a0 12 14).bind fun t20 =>
      (xai ω t20 x1).bind fun t21 =>
      some t21)
    else (
      if x2 = 2 then (
        (xgr ω a0 12 15).bind fun t18 =>
        (xai ω t18 x1).bind fun t19 =>
        some t19)
      else (
        if x2 = 3 then (
          (xgr ω a0 12 26).bind fun t16 =>
          (xai ω t16 x1).bind fun t17 =>
          some t17)
        else (
          (xgr ω a0 12 25).bind fun t14 =>
          (xai ω t14 x1).bind fun t15 =>
          some t15))))
set_option maxHeartbeats 4000000 in
set_option maxRecDepth 100000 in
theorem w_Mo_law1_35 {p : Program} {l : Launch} {e : Env} {s : State} {m : MethodId} {args : Array Value} {below : List Frame} {meth : Method} {c : Code} {E : xV} {z : Nat} {r : Int32} {ω : xS} (S : CallFix p m c b_Mo_law1 3 s args xTbl "RosterRulesModel") (hr : meth.sig.returnType = (some .int)) (hlocks : meth.locks = false) : ∀ (a0 : Nat) (x1 : Int32) (x2 : Int32) (H : Heap) (locs : List Loc) (ls : Array Slot), xW E z ω s s.heap H locs → lv_has ls 3 [(0, .ref a0), (1, .int x1), (2, .int x2)] → f_Mo_law1_35 a0 x1 x2 ω = some r → W p l e (headSpec ws_Mo_law1 { frames := 1, cells := 0, slots := 0, locals := 21 }).room s m args below meth c H locs 0 0 (MQ below (xQ E (some (.int r)) z ω) args s 0 0 (fun q => E.2.2 ≤ q)) (F0 m 35 ls []) := by
  intro a0 x1 x2 H locs ls hw hl hf
  unfold f_Mo_law1_35 at hf
  refine lv_iload_n S.1 S.2.1 d_Mo_law1_35 rfl (lv_at hl 2 rfl) ?_
  refine lv_if_ne (tgt := 48) S.1 S.2.1 d_Mo_law1_36 (by decide) (fun c10 => ?_) (fun c10 => ?_)
  · replace hf := xf c10 hf
    refine lv_iload_n S.1 S.2.1 d_Mo_law1_48 rfl (lv_at hl 2 rfl) ?_
    refine lv_iconst (v := 1) S.1 S.2.1 d_Mo_law1_49 (by decide) ?_
    refine lv_icmp_ne (tgt := 62) S.1 S.2.1 d_Mo_law1_50 (by decide) (fun c11 => ?_) (fun c11 => ?_)
    · replace hf := xf c11 hf
      refine lv_iload_n S.1 S.2.1 d_Mo_law1_62 rfl (lv_at hl 2 rfl) ?_
      refine lv_iconst (v := 2) S.1 S.2.1 d_Mo_law1_63 (by decide) ?_
      refine lv_icmp_ne (tgt := 76) S.1 S.2.1 d_Mo_law1_64 (by decide) (fun c12 => ?_) (fun c12 => ?_)
      · replace hf := xf c12 hf
        refine lv_iload_n S.1 S.2.1 d_Mo_law1_76 rfl (lv_at hl 2 rfl) ?_
        refine lv_iconst (v := 3) S.1 S.2.1 d_Mo_law1_77 (by decide) ?_
        refine lv_icmp_ne (tgt := 90) S.1 S.2.1 d_Mo_law1_78 (by decide) (fun c13 => ?_) (fun c13 => ?_)
        · replace hf := xf c13 hf
          refine lv_aload_n S.1 S.2.1 d_Mo_law1_90 rfl (lv_at hl 0 rfl) ?_
          obtain ⟨t14, ht14, hf⟩ := xb hf
          refine x_getr S hw lk_Mo_76 ht14 d_Mo_law1_91 ?_
          refine lv_iload_n S.1 S.2.1 d_Mo_law1_94 rfl (lv_at hl 1 rfl) ?_
          obtain ⟨t15, ht15, hf⟩ := xb hf
          refine x_iald S hw ht15 d_Mo_law1_95 ?_
          obtain rfl := xe1 hf
          exact x_iret S hr hlocks hw d_Mo_law1_96
        · replace hf := xt c13 hf
          refine lv_aload_n S.1 S.2.1 d_Mo_law1_81 rfl (lv_at hl 0 rfl) ?_
          obtain ⟨t16, ht16, hf⟩ := xb hf
          refine x_getr S hw lk_Mo_79 ht16 d_Mo_law1_82 ?_
          refine lv_iload_n S.1 S.2.1 d_Mo_law1_85 rfl (lv_at hl 1 rfl) ?_
          obtain ⟨t17, ht17, hf⟩ := xb hf
          refine x_iald S hw ht17 d_Mo_law1_86 ?_
          refine lv_goto (tgt := 96) S.1 S.2.1 d_Mo_law1_87 (by decide) ?_
          obtain rfl := xe1 hf
          exact x_iret S hr hlocks hw d_Mo_law1_96
      · replace hf := xt c12 hf
        refine lv_aload_n S.1 S.2.1 d_Mo_law1_67 rfl (lv_at hl 0 rfl) ?_
        obtain ⟨t18, ht18, hf⟩ := xb hf
        refine x_getr S hw lk_Mo_48 ht18 d_Mo_law1_68 ?_
        refine lv_iload_n S.1 S.2.1 d_Mo_law1_71 rfl (lv_at hl 1 rfl) ?_
        obtain ⟨t19, ht19, hf⟩ := xb hf
        refine x_iald S hw ht19 d_Mo_law1_72 ?_
        refine lv_goto (tgt := 96) S.1 S.2.1 d_Mo_law1_73 (by decide) ?_
        obtain rfl := xe1 hf
        exact x_iret S hr hlocks hw d_Mo_law1_96
    · replace hf := xt c11 hf
      refine lv_aload_n S.1 S.2.1 d_Mo_law1_53 rfl (lv_at hl 0 rfl) ?_
      obtain ⟨t20, ht20, hf⟩ := xb hf
      refine x_getr S hw lk_Mo_45 ht20 d_Mo_law1_54 ?_
      refine lv_iload_n S.1 S.2.1 d_Mo_law1_57 rfl (lv_at hl 1 rfl) ?_
      obtain ⟨t21, ht21, hf⟩ := xb hf
      refine x_iald S hw ht21 d_Mo_law1_58 ?_
      refine lv_goto (tgt := 96) S.1 S.2.1 d_Mo_law1_59 (by decide) ?_
      obtain rfl := xe1 hf
      exact x_iret S hr hlocks hw d_Mo_law1_96
  · replace hf := xt c10 hf
    refine lv_aload_n S.1 S.2.1 d_Mo_law1_39 rfl (lv_at hl 0 rfl) ?_
    obtain ⟨t22, ht22, hf⟩ := xb hf
    refine x_getr S hw lk_Mo_42 ht22 d_Mo_law1_40 ?_
    refine lv_iload_n S.1 S.2.1 d_Mo_law1_43 rfl (lv_at hl 1 rfl) ?_
    obtain ⟨t23, ht23, hf⟩ := xb hf
    refine x_iald S hw ht23 d_Mo_law1_44 ?_
    refine lv_goto (tgt := 96) S.1 S.2.1 d_Mo_law1_45 (by decide) ?_
    obtain rfl := xe1 hf
    exact x_iret S hr hlocks hw d_Mo_law1_96
def f_Mo_law1 (a0 : Nat) (x1 : Int32) (x2 : Int32) (ω : xS) : Option Int32 :=
  (xk ω a0 12 (f_Mo_isLaw a0 x1 ω)).bind fun t2 =>
  if t2 = 0 then (
    some (-1))
  else (
    if x2 < 0 then (
      some (-1))
    else (
      if x2 ≤ 4 then (
        if x2 ≤ 2 then (
          f_Mo_law1_35  a0 x1 x2 ω)
        else (
          (xk ω a0 12 (f_Mo_hasPattern a0 x1 ω)).bind fun t8 =>
          if t8 = 0 then (
            some (-2))
          else (
            f_Mo_law1_35  a0 x1 x2 ω)))
      else (
        some (-1))))
set_option maxHeartbeats 4000000 in
set_option maxRecDepth 100000 in
theorem c_Mo_law1 {l : Launch} {E : xV} {z : Nat} {a0 : Nat} {x1 : Int32} {x2 : Int32} {r : Int32} {ω : xS} (hf : f_Mo_law1 a0 x1 x2 ω = some r) : xM l E y_Mo_law1 ws_Mo_law1 { frames := 1, cells := 0, slots := 0, locals := 21 } [.ref a0, .int x1, .int x2] z ω (some (.int r)) z ω := by
  refine x_start (cc := b_Mo_law1) (maxL := 3) (ret := (some .int)) (by decide) rfl (Nat.le_of_ble_eq_true rfl) ?_
  intro p e s m below meth c S hr hlocks hin ls hl hw
  have hl : lv_has ls 3 [(0, .ref a0), (1, .int x1), (2, .int x2)] := hl
  unfold f_Mo_law1 at hf
  refine lv_aload_n S.1 S.2.1 d_Mo_law1_0 rfl (lv_at hl 0 rfl) ?_
  refine lv_iload_n S.1 S.2.1 d_Mo_law1_1 rfl (lv_at hl 1 rfl) ?_
  obtain ⟨t2, h1, hf⟩ := xb hf
  obtain ⟨h1b, h1⟩ := xkb h1
  refine x_callV (As := [.int x1]) (rest := []) (st1 := [.int t2]) S hw (c_Mo_isLaw h1) (cwV 1 S.2.2.2.2 gv_Mo_399 rfl rfl rfl hd_Mo_isLaw ⟨Nat.le_of_ble_eq_true rfl, Nat.le_of_ble_eq_true rfl⟩) rfl h1b rfl hl.1 rfl rfl (Nat.le_of_ble_eq_true rfl) d_Mo_law1_2 ⟨Nat.le_of_ble_eq_true rfl, Nat.le_of_ble_eq_true rfl⟩ (fun H locs hw => ?_)
  refine lv_if_eq (tgt := 17) S.1 S.2.1 d_Mo_law1_5 (by decide) (fun c3 => ?_) (fun c3 => ?_)
  · replace hf := xt c3 hf
    refine lv_iconst (v := (-1)) S.1 S.2.1 d_Mo_law1_17 (by decide) ?_
    obtain rfl := xe1 hf
    exact x_iret S hr hlocks hw d_Mo_law1_18
  · replace hf := xf c3 hf
    refine lv_iload_n S.1 S.2.1 d_Mo_law1_8 rfl (lv_at hl 2 rfl) ?_
    refine lv_if_lt (tgt := 17) S.1 S.2.1 d_Mo_law1_9 (by decide) (fun c4 => ?_) (fun c4 => ?_)
    · replace hf := xt c4 hf
      refine lv_iconst (v := (-1)) S.1 S.2.1 d_Mo_law1_17 (by decide) ?_
      obtain rfl := xe1 hf
      exact x_iret S hr hlocks hw d_Mo_law1_18
    · replace hf := xf c4 hf
      refine lv_iload_n S.1 S.2.1 d_Mo_law1_12 rfl (lv_at hl 2 rfl) ?_
      refine lv_iconst (v := 4) S.1 S.2.1 d_Mo_law1_13 (by decide) ?_
      refine lv_icmp_le (tgt := 19) S.1 S.2.1 d_Mo_law1_14 (by decide) (fun c5 => ?_) (fun c5 => ?_)
      · replace hf := xt c5 hf
        refine lv_iload_n S.1 S.2.1 d_Mo_law1_19 rfl (lv_at hl 2 rfl) ?_
        refine lv_iconst (v := 2) S.1 S.2.1 d_Mo_law1_20 (by decide) ?_
        refine lv_icmp_le (tgt := 35) S.1 S.2.1 d_Mo_law1_21 (by decide) (fun c6 => ?_) (fun c6 => ?_)
        · replace hf := xt c6 hf
          exact w_Mo_law1_35 S hr hlocks  _ _ _ _ _ _ hw (lv_sub hl [0, 1, 2] rfl) hf
        · replace hf := xf c6 hf
          refine lv_aload_n S.1 S.2.1 d_Mo_law1_24 rfl (lv_at hl 0 rfl) ?_
          refine lv_iload_n S.1 S.2.1 d_Mo_law1_25 rfl (lv_at hl 1 rfl) ?_
          obtain ⟨t8, h7, hf⟩ := xb hf
          obtain ⟨h7b, h7⟩ := xkb h7
          refine x_callV (As := [.int x1]) (rest := []) (st1 := [.int t8]) S hw (c_Mo_hasPattern h7) (cwV 1 S.2.2.2.2 gv_Mo_402 rfl rfl rfl hd_Mo_hasPattern ⟨Nat.le_of_ble_eq_true rfl, Nat.le_of_ble_eq_true rfl⟩) rfl h7b rfl hl.1 rfl rfl (Nat.le_of_ble_eq_true rfl) d_Mo_law1_26 ⟨Nat.le_of_ble_eq_true rfl, Nat.le_of_ble_eq_true rfl⟩ (fun H locs hw => ?_)
          refine lv_if_ne (tgt := 35) S.1 S.2.1 d_Mo_law1_29 (by decide) (fun c9 => ?_) (fun c9 => ?_)
          · replace hf := xf c9 hf
            exact w_Mo_law1_35 S hr hlocks  _ _ _ _ _ _ hw (lv_sub hl [0, 1, 2] rfl) hf
          · replace hf := xt c9 hf
            refine lv_bipush (v := (-2)) S.1 S.2.1 d_Mo_law1_32 (by decide) ?_
            obtain rfl := xe1 hf
            exact x_iret S hr hlocks hw d_Mo_law1_34
      · replace hf := xf c5 hf
        refine lv_iconst (v := (-1)) S.1 S.2.1 d_Mo_law1_17 (by decide) ?_
        obtain rfl := xe1 hf
        exact x_iret S hr hlocks hw d_Mo_law1_18
def f_Mo_state (a0 : Nat) (x1 : Int32) (x2 : Int32) (x3 : Int32) (ω : xS) : Option Int32 :=
  (xk ω a0 12 (f_Mo_isLaw a0 x1 ω)).bind fun t2 =>
  if t2 = 0 then (
    some (-1))
  else (
    if x3 < 0 then (
      some (-1))
    else (
      if 9 < x3 then (
        some (-1))
      else (
        if 0 ≤ x2 then (
          (xk ω a0 12 (f_Mo_hasPattern a0 x1 ω)).bind fun t8 =>
          if t8 = 0 then (
            some (-2))
          else (
            (xgr ω a0 12 26).bind fun t10 =>
            (xai ω t10 x1).bind fun t11 =>
            if x2 < t11 then (
              if x3 = 9 then (
                (xgr ω a0 12 28).bind fun t16 =>
                (xaz ω t16 ((1025 * x1) + x2)).bind fun t17 =>
                if t17 = 0 then (
                  some 0)
                else (
                  some 1))
              else (
                (xgr ω a0 12 27).bind fun t14 =>
                (xai ω t14 ((9 * ((1025 * x1) + x2)) + x3)).bind fun t15 =>
                some t15))
            else (
              some (-1))))
        else (
          some (-1)))))
set_option maxHeartbeats 4000000 in
set_option maxRecDepth 100000 in
theorem c_Mo_state {l : Launch} {E : xV} {z : Nat} {a0 : Nat} {x1 : Int32} {x2 : Int32} {x3 : Int32} {r : Int32} {ω : xS} (hf : f_Mo_state a0 x1 x2 x3 ω = some r) : xM l E y_Mo_state ws_Mo_state { frames := 1, cells := 0, slots := 0, locals := 21 } [.ref a0, .int x1, .int x2, .int x3] z ω (some (.int r)) z ω := by
  refine x_start (cc := b_Mo_state) (maxL := 4) (ret := (some .int)) (by decide) rfl (Nat.le_of_ble_eq_true rfl) ?_
  intro p e s m below meth c S hr hlocks hin ls hl hw
  have hl : lv_has ls 4 [(0, .ref a0), (1, .int x1), (2, .int x2), (3, .int x3)] := hl
  unfold f_Mo_state at hf
  refine lv_aload_n S.1 S.2.1 d_Mo_state_0 rfl (lv_at hl 0 rfl) ?_
  refine lv_iload_n S.1 S.2.1 d_Mo_state_1 rfl (lv_at hl 1 rfl) ?_
  obtain ⟨t2, h1, hf⟩ := xb hf
  obtain ⟨h1b, h1⟩ := xkb h1
  refine x_callV (As := [.int x1]) (rest := []) (st1 := [.int t2]) S hw (c_Mo_isLaw h1) (cwV 1 S.2.2.2.2 gv_Mo_399 rfl rfl rfl hd_Mo_isLaw ⟨Nat.le_of_ble_eq_true rfl, Nat.le_of_ble_eq_true rfl⟩) rfl h1b rfl hl.1 rfl rfl (Nat.le_of_ble_eq_true rfl) d_Mo_state_2 ⟨Nat.le_of_ble_eq_true rfl, Nat.le_of_ble_eq_true rfl⟩ (fun H locs hw => ?_)
  refine lv_if_eq (tgt := 22) S.1 S.2.1 d_Mo_state_5 (by decide) (fun c3 => ?_) (fun c3 => ?_)
  · replace hf := xt c3 hf
    refine lv_iconst (v := (-1)) S.1 S.2.1 d_Mo_state_22 (by decide) ?_
    obtain rfl := xe1 hf
    exact x_iret S hr hlocks hw d_Mo_state_23
  · replace hf := xf c3 hf
    refine lv_iload_n S.1 S.2.1 d_Mo_state_8 rfl (lv_at hl 3 rfl) ?_
    refine lv_if_lt (tgt := 22) S.1 S.2.1 d_Mo_state_9 (by decide) (fun c4 => ?_) (fun c4 => ?_)
    · replace hf := xt c4 hf
      refine lv_iconst (v := (-1)) S.1 S.2.1 d_Mo_state_22 (by decide) ?_
      obtain rfl := xe1 hf
      exact x_iret S hr hlocks hw d_Mo_state_23
    · replace hf := xf c4 hf
      refine lv_iload_n S.1 S.2.1 d_Mo_state_12 rfl (lv_at hl 3 rfl) ?_
      refine lv_bipush (v := 9) S.1 S.2.1 d_Mo_state_13 (by decide) ?_
      refine lv_icmp_gt (tgt := 22) S.1 S.2.1 d_Mo_state_15 (by decide) (fun c5 => ?_) (fun c5 => ?_)
      · replace hf := xt c5 hf
        refine lv_iconst (v := (-1)) S.1 S.2.1 d_Mo_state_22 (by decide) ?_
        obtain rfl := xe1 hf
        exact x_iret S hr hlocks hw d_Mo_state_23
      · replace hf := xf c5 hf
        refine lv_iload_n S.1 S.2.1 d_Mo_state_18 rfl (lv_at hl 2 rfl) ?_
        refine lv_if_ge (tgt := 24) S.1 S.2.1 d_Mo_state_19 (by decide) (fun c6 => ?_) (fun c6 => ?_)
        · replace hf := xt c6 hf
          refine lv_aload_n S.1 S.2.1 d_Mo_state_24 rfl (lv_at hl 0 rfl) ?_
          refine lv_iload_n S.1 S.2.1 d_Mo_state_25 rfl (lv_at hl 1 rfl) ?_
          obtain ⟨t8, h7, hf⟩ := xb hf
          obtain ⟨h7b, h7⟩ := xkb h7
          refine x_callV (As := [.int x1]) (rest := []) (st1 := [.int t8]) S hw (c_Mo_hasPattern h7) (cwV 1 S.2.2.2.2 gv_Mo_402 rfl rfl rfl hd_Mo_hasPattern ⟨Nat.le_of_ble_eq_true rfl, Nat.le_of_ble_eq_true rfl⟩) rfl h7b rfl hl.1 rfl rfl (Nat.le_of_ble_eq_true rfl) d_Mo_state_26 ⟨Nat.le_of_ble_eq_true rfl, Nat.le_of_ble_eq_true rfl⟩ (fun H locs hw => ?_)
          refine lv_if_ne (tgt := 35) S.1 S.2.1 d_Mo_state_29 (by decide) (fun c9 => ?_) (fun c9 => ?_)
          · replace hf := xf c9 hf
            refine lv_iload_n S.1 S.2.1 d_Mo_state_35 rfl (lv_at hl 2 rfl) ?_
            refine lv_aload_n S.1 S.2.1 d_Mo_state_36 rfl (lv_at hl 0 rfl) ?_
            obtain ⟨t10, ht10, hf⟩ := xb hf
            refine x_getr S hw lk_Mo_79 ht10 d_Mo_state_37 ?_
            refine lv_iload_n S.1 S.2.1 d_Mo_state_40 rfl (lv_at hl 1 rfl) ?_
            obtain ⟨t11, ht11, hf⟩ := xb hf
            refine x_iald S hw ht11 d_Mo_state_41 ?_
            refine lv_icmp_lt (tgt := 47) S.1 S.2.1 d_Mo_state_42 (by decide) (fun c12 => ?_) (fun c12 => ?_)
            · replace hf := xt c12 hf
              refine lv_iload_n S.1 S.2.1 d_Mo_state_47 rfl (lv_at hl 3 rfl) ?_
              refine lv_bipush (v := 9) S.1 S.2.1 d_Mo_state_48 (by decide) ?_
              refine lv_icmp_ne (tgt := 76) S.1 S.2.1 d_Mo_state_50 (by decide) (fun c13 => ?_) (fun c13 => ?_)
              · replace hf := xf c13 hf
                refine lv_aload_n S.1 S.2.1 d_Mo_state_76 rfl (lv_at hl 0 rfl) ?_
                obtain ⟨t14, ht14, hf⟩ := xb hf
                refine x_getr S hw lk_Mo_83 ht14 d_Mo_state_77 ?_
                refine lv_bipush (v := 9) S.1 S.2.1 d_Mo_state_80 (by decide) ?_
                refine lv_sipush (v := 1025) S.1 S.2.1 d_Mo_state_82 (by decide) ?_
                refine lv_iload_n S.1 S.2.1 d_Mo_state_85 rfl (lv_at hl 1 rfl) ?_
                refine lv_imul S.1 S.2.1 d_Mo_state_86 ?_
                refine lv_iload_n S.1 S.2.1 d_Mo_state_87 rfl (lv_at hl 2 rfl) ?_
                refine lv_iadd S.1 S.2.1 d_Mo_state_88 ?_
                refine lv_imul S.1 S.2.1 d_Mo_state_89 ?_
                refine lv_iload_n S.1 S.2.1 d_Mo_state_90 rfl (lv_at hl 3 rfl) ?_
                refine lv_iadd S.1 S.2.1 d_Mo_state_91 ?_
                obtain ⟨t15, ht15, hf⟩ := xb hf
                refine x_iald S hw ht15 d_Mo_state_92 ?_
                obtain rfl := xe1 hf
                exact x_iret S hr hlocks hw d_Mo_state_93
              · replace hf := xt c13 hf
                refine lv_aload_n S.1 S.2.1 d_Mo_state_53 rfl (lv_at hl 0 rfl) ?_
                obtain ⟨t16, ht16, hf⟩ := xb hf
                refine x_getr S hw lk_Mo_86 ht16 d_Mo_state_54 ?_
                refine lv_sipush (v := 1025) S.1 S.2.1 d_Mo_state_57 (by decide) ?_
                refine lv_iload_n S.1 S.2.1 d_Mo_state_60 rfl (lv_at hl 1 rfl) ?_
                refine lv_imul S.1 S.2.1 d_Mo_state_61 ?_
                refine lv_iload_n S.1 S.2.1 d_Mo_state_62 rfl (lv_at hl 2 rfl) ?_
                refine lv_iadd S.1 S.2.1 d_Mo_state_63 ?_
                obtain ⟨t17, ht17, hf⟩ := xb hf
                refine x_zald S hw ht17 d_Mo_state_64 ?_
                refine lv_if_eq (tgt := 72) S.1 S.2.1 d_Mo_state_65 (by decide) (fun c18 => ?_) (fun c18 => ?_)
                · replace hf := xt c18 hf
                  refine lv_iconst (v := 0) S.1 S.2.1 d_Mo_state_72 (by decide) ?_
                  refine lv_goto (tgt := 93) S.1 S.2.1 d_Mo_state_73 (by decide) ?_
                  obtain rfl := xe1 hf
                  exact x_iret S hr hlocks hw d_Mo_state_93
                · replace hf := xf c18 hf
                  refine lv_iconst (v := 1) S.1 S.2.1 d_Mo_state_68 (by decide) ?_
                  refine lv_goto (tgt := 93) S.1 S.2.1 d_Mo_state_69 (by decide) ?_
                  obtain rfl := xe1 hf
                  exact x_iret S hr hlocks hw d_Mo_state_93
            · replace hf := xf c12 hf
              refine lv_iconst (v := (-1)) S.1 S.2.1 d_Mo_state_45 (by decide) ?_
              obtain rfl := xe1 hf
              exact x_iret S hr hlocks hw d_Mo_state_46
          · replace hf := xt c9 hf
            refine lv_bipush (v := (-2)) S.1 S.2.1 d_Mo_state_32 (by decide) ?_
            obtain rfl := xe1 hf
            exact x_iret S hr hlocks hw d_Mo_state_34
        · replace hf := xf c6 hf
          refine lv_iconst (v := (-1)) S.1 S.2.1 d_Mo_state_22 (by decide) ?_
          obtain rfl := xe1 hf
          exact x_iret S hr hlocks hw d_Mo_state_23
def f_Mo_alike_114 (k61 : Nat → Int32 → Int32 → Int32 → Int32 → xS → Option Int32) : Nat → Nat → Int32 → Int32 → Int32 → Int32 → Int32 → xS → Option Int32
  | 0, _, _, _, _, _, _, _ => none
  | n + 1, a0, x1, x2, x3, x4, x5, ω =>
    if 9 ≤ x5 then (
      k61 a0 x1 x2 x3 (x4 + 1) ω)
    else (
      if x3 = 0 then (
        f_Mo_alike_114 k61 n a0 x1 x2 0 x4 (x5 + 1) ω)
      else (
        (xgr ω a0 12 27).bind fun t31 =>
        (xai ω t31 ((9 * ((1025 * x1) + x4)) + x5)).bind fun t32 =>
        (xgr ω a0 12 27).bind fun t33 =>
        (xai ω t33 ((9 * ((1025 * x2) + x4)) + x5)).bind fun t34 =>
        if t32 = t34 then (
          f_Mo_alike_114 k61 n a0 x1 x2 1 x4 (x5 + 1) ω)
        else (
          f_Mo_alike_114 k61 n a0 x1 x2 0 x4 (x5 + 1) ω)))
set_option maxHeartbeats 4000000 in
set_option maxRecDepth 100000 in
theorem w_Mo_alike_114 {p : Program} {l : Launch} {e : Env} {s : State} {m : MethodId} {args : Array Value} {below : List Frame} {meth : Method} {c : Code} {E : xV} {z : Nat} {r : Int32} {ω : xS} {k61 : Nat → Int32 → Int32 → Int32 → Int32 → xS → Option Int32} (S : CallFix p m c b_Mo_alike 6 s args xTbl "RosterRulesModel") (hr : meth.sig.returnType = (some .int)) (hlocks : meth.locks = false) (hk61 : ∀ (a0 : Nat) (x1 : Int32) (x2 : Int32) (x3 : Int32) (x4 : Int32) (H : Heap) (locs : List Loc) (ls : Array Slot), xW E z ω s s.heap H locs → lv_has ls 6 [(0, .ref a0), (1, .int x1), (2, .int x2), (3, .int x3), (4, .int x4)] → k61 a0 x1 x2 x3 x4 ω = some r → W p l e (headSpec ws_Mo_alike { frames := 1, cells := 0, slots := 0, locals := 21 }).room s m args below meth c H locs 0 0 (MQ below (xQ E (some (.int r)) z ω) args s 0 0 (fun q => E.2.2 ≤ q)) (F0 m 61 ls [])) : ∀ n : Nat, ∀ (a0 : Nat) (x1 : Int32) (x2 : Int32) (x3 : Int32) (x4 : Int32) (x5 : Int32) (H : Heap) (locs : List Loc) (ls : Array Slot), xW E z ω s s.heap H locs → lv_has ls 6 [(0, .ref a0), (1, .int x1), (2, .int x2), (3, .int x3), (4, .int x4), (5, .int x5)] → f_Mo_alike_114 k61 n a0 x1 x2 x3 x4 x5 ω = some r → W p l e (headSpec ws_Mo_alike { frames := 1, cells := 0, slots := 0, locals := 21 }).room s m args below meth c H locs 0 0 (MQ below (xQ E (some (.int r)) z ω) args s 0 0 (fun q => E.2.2 ≤ q)) (F0 m 114 ls []) := by
  intro n
  induction n with
  | zero =>
    intro a0 x1 x2 x3 x4 x5 H locs ls hw hl hf
    have h2 : (none : Option Int32) = some r := hf
    cases h2
  | succ n ih =>
    intro a0 x1 x2 x3 x4 x5 H locs ls hw hl hf
    rw [f_Mo_alike_114] at hf
    refine lv_iload S.1 S.2.1 d_Mo_alike_114 (lv_at hl 5 rfl) ?_
    refine lv_bipush (v := 9) S.1 S.2.1 d_Mo_alike_116 (by decide) ?_
    refine lv_icmp_ge (tgt := 178) S.1 S.2.1 d_Mo_alike_118 (by decide) (fun c29 => ?_) (fun c29 => ?_)
    · replace hf := xt c29 hf
      refine lv_iinc (v := (x4 + 1)) (lv' := [(4, .int (x4 + 1)), (0, .ref a0), (1, .int x1), (2, .int x2), (3, .int x3), (5, .int x5)]) S.1 S.2.1 d_Mo_alike_178 hl (k := 4) rfl rfl (by decide) rfl (fun ls hl => ?_)
      refine lv_goto (tgt := 61) S.1 S.2.1 d_Mo_alike_181 (by decide) ?_
      exact hk61 _ _ _ _ _ _ _ _ hw (lv_sub hl [1, 2, 3, 4, 0] rfl) hf
    · replace hf := xf c29 hf
      refine lv_iload_n S.1 S.2.1 d_Mo_alike_121 rfl (lv_at hl 3 rfl) ?_
      refine lv_if_eq (tgt := 170) S.1 S.2.1 d_Mo_alike_122 (by decide) (fun c30 => ?_) (fun c30 => ?_)
      · replace hf := xt c30 hf
        refine lv_iconst (v := 0) S.1 S.2.1 d_Mo_alike_170 (by decide) ?_
        refine lv_istore_n (lv' := [(3, .int 0), (0, .ref a0), (1, .int x1), (2, .int x2), (4, .int x4), (5, .int x5)]) S.1 S.2.1 d_Mo_alike_171 rfl hl (by decide) rfl (fun ls hl => ?_)
        refine lv_iinc (v := (x5 + 1)) (lv' := [(5, .int (x5 + 1)), (3, .int 0), (0, .ref a0), (1, .int x1), (2, .int x2), (4, .int x4)]) S.1 S.2.1 d_Mo_alike_172 hl (k := 5) rfl rfl (by decide) rfl (fun ls hl => ?_)
        refine lv_goto (tgt := 114) S.1 S.2.1 d_Mo_alike_175 (by decide) ?_
        exact ih _ _ _ _ _ _ _ _ _ hw (lv_sub hl [2, 3, 4, 1, 5, 0] rfl) hf
      · replace hf := xf c30 hf
        refine lv_aload_n S.1 S.2.1 d_Mo_alike_125 rfl (lv_at hl 0 rfl) ?_
        obtain ⟨t31, ht31, hf⟩ := xb hf
        refine x_getr S hw lk_Mo_83 ht31 d_Mo_alike_126 ?_
        refine lv_bipush (v := 9) S.1 S.2.1 d_Mo_alike_129 (by decide) ?_
        refine lv_sipush (v := 1025) S.1 S.2.1 d_Mo_alike_131 (by decide) ?_
        refine lv_iload_n S.1 S.2.1 d_Mo_alike_134 rfl (lv_at hl 1 rfl) ?_
        refine lv_imul S.1 S.2.1 d_Mo_alike_135 ?_
        refine lv_iload S.1 S.2.1 d_Mo_alike_136 (lv_at hl 4 rfl) ?_
        refine lv_iadd S.1 S.2.1 d_Mo_alike_138 ?_
        refine lv_imul S.1 S.2.1 d_Mo_alike_139 ?_
        refine lv_iload S.1 S.2.1 d_Mo_alike_140 (lv_at hl 5 rfl) ?_
        refine lv_iadd S.1 S.2.1 d_Mo_alike_142 ?_
        obtain ⟨t32, ht32, hf⟩ := xb hf
        refine x_iald S hw ht32 d_Mo_alike_143 ?_
        refine lv_aload_n S.1 S.2.1 d_Mo_alike_144 rfl (lv_at hl 0 rfl) ?_
        obtain ⟨t33, ht33, hf⟩ := xb hf
        refine x_getr S hw lk_Mo_83 ht33 d_Mo_alike_145 ?_
        refine lv_bipush (v := 9) S.1 S.2.1 d_Mo_alike_148 (by decide) ?_
        refine lv_sipush (v := 1025) S.1 S.2.1 d_Mo_alike_150 (by decide) ?_
        refine lv_iload_n S.1 S.2.1 d_Mo_alike_153 rfl (lv_at hl 2 rfl) ?_
        refine lv_imul S.1 S.2.1 d_Mo_alike_154 ?_
        refine lv_iload S.1 S.2.1 d_Mo_alike_155 (lv_at hl 4 rfl) ?_
        refine lv_iadd S.1 S.2.1 d_Mo_alike_157 ?_
        refine lv_imul S.1 S.2.1 d_Mo_alike_158 ?_
        refine lv_iload S.1 S.2.1 d_Mo_alike_159 (lv_at hl 5 rfl) ?_
        refine lv_iadd S.1 S.2.1 d_Mo_alike_161 ?_
        obtain ⟨t34, ht34, hf⟩ := xb hf
        refine x_iald S hw ht34 d_Mo_alike_162 ?_
        refine lv_icmp_ne (tgt := 170) S.1 S.2.1 d_Mo_alike_163 (by decide) (fun c35 => ?_) (fun c35 => ?_)
        · replace hf := xf c35 hf
          refine lv_iconst (v := 0) S.1 S.2.1 d_Mo_alike_170 (by decide) ?_
          refine lv_istore_n (lv' := [(3, .int 0), (0, .ref a0), (1, .int x1), (2, .int x2), (4, .int x4), (5, .int x5)]) S.1 S.2.1 d_Mo_alike_171 rfl hl (by decide) rfl (fun ls hl => ?_)
          refine lv_iinc (v := (x5 + 1)) (lv' := [(5, .int (x5 + 1)), (3, .int 0), (0, .ref a0), (1, .int x1), (2, .int x2), (4, .int x4)]) S.1 S.2.1 d_Mo_alike_172 hl (k := 5) rfl rfl (by decide) rfl (fun ls hl => ?_)
          refine lv_goto (tgt := 114) S.1 S.2.1 d_Mo_alike_175 (by decide) ?_
          exact ih _ _ _ _ _ _ _ _ _ hw (lv_sub hl [2, 3, 4, 1, 5, 0] rfl) hf
        · replace hf := xt c35 hf
          refine lv_iconst (v := 1) S.1 S.2.1 d_Mo_alike_166 (by decide) ?_
          refine lv_goto (tgt := 171) S.1 S.2.1 d_Mo_alike_167 (by decide) ?_
          refine lv_istore_n (lv' := [(3, .int 1), (0, .ref a0), (1, .int x1), (2, .int x2), (4, .int x4), (5, .int x5)]) S.1 S.2.1 d_Mo_alike_171 rfl hl (by decide) rfl (fun ls hl => ?_)
          refine lv_iinc (v := (x5 + 1)) (lv' := [(5, .int (x5 + 1)), (3, .int 1), (0, .ref a0), (1, .int x1), (2, .int x2), (4, .int x4)]) S.1 S.2.1 d_Mo_alike_172 hl (k := 5) rfl rfl (by decide) rfl (fun ls hl => ?_)
          refine lv_goto (tgt := 114) S.1 S.2.1 d_Mo_alike_175 (by decide) ?_
          exact ih _ _ _ _ _ _ _ _ _ hw (lv_sub hl [2, 3, 4, 1, 5, 0] rfl) hf
def f_Mo_alike_61 : Nat → Nat → Int32 → Int32 → Int32 → Int32 → xS → Option Int32
  | 0, _, _, _, _, _, _ => none
  | n + 1, a0, x1, x2, x3, x4, ω =>
    (xgr ω a0 12 26).bind fun t18 =>
    (xai ω t18 x1).bind fun t19 =>
    if t19 ≤ x4 then (
      if x3 = 0 then (
        some 0)
      else (
        some 1))
    else (
      if x3 = 0 then (
        if x3 = 0 then (
          some 0)
        else (
          some 1))
      else (
        (xgr ω a0 12 28).bind fun t24 =>
        (xaz ω t24 ((1025 * x1) + x4)).bind fun t25 =>
        (xgr ω a0 12 28).bind fun t26 =>
        (xaz ω t26 ((1025 * x2) + x4)).bind fun t27 =>
        if t25 = t27 then (
          f_Mo_alike_114 (f_Mo_alike_61  n) xFU a0 x1 x2 1 x4 0 ω)
        else (
          f_Mo_alike_114 (f_Mo_alike_61  n) xFU a0 x1 x2 0 x4 0 ω)))
set_option maxHeartbeats 4000000 in
set_option maxRecDepth 100000 in
theorem w_Mo_alike_61 {p : Program} {l : Launch} {e : Env} {s : State} {m : MethodId} {args : Array Value} {below : List Frame} {meth : Method} {c : Code} {E : xV} {z : Nat} {r : Int32} {ω : xS} (S : CallFix p m c b_Mo_alike 6 s args xTbl "RosterRulesModel") (hr : meth.sig.returnType = (some .int)) (hlocks : meth.locks = false) : ∀ n : Nat, ∀ (a0 : Nat) (x1 : Int32) (x2 : Int32) (x3 : Int32) (x4 : Int32) (H : Heap) (locs : List Loc) (ls : Array Slot), xW E z ω s s.heap H locs → lv_has ls 6 [(0, .ref a0), (1, .int x1), (2, .int x2), (3, .int x3), (4, .int x4)] → f_Mo_alike_61 n a0 x1 x2 x3 x4 ω = some r → W p l e (headSpec ws_Mo_alike { frames := 1, cells := 0, slots := 0, locals := 21 }).room s m args below meth c H locs 0 0 (MQ below (xQ E (some (.int r)) z ω) args s 0 0 (fun q => E.2.2 ≤ q)) (F0 m 61 ls []) := by
  intro n
  induction n with
  | zero =>
    intro a0 x1 x2 x3 x4 H locs ls hw hl hf
    have h2 : (none : Option Int32) = some r := hf
    cases h2
  | succ n ih =>
    intro a0 x1 x2 x3 x4 H locs ls hw hl hf
    rw [f_Mo_alike_61] at hf
    refine lv_iload S.1 S.2.1 d_Mo_alike_61 (lv_at hl 4 rfl) ?_
    refine lv_aload_n S.1 S.2.1 d_Mo_alike_63 rfl (lv_at hl 0 rfl) ?_
    obtain ⟨t18, ht18, hf⟩ := xb hf
    refine x_getr S hw lk_Mo_79 ht18 d_Mo_alike_64 ?_
    refine lv_iload_n S.1 S.2.1 d_Mo_alike_67 rfl (lv_at hl 1 rfl) ?_
    obtain ⟨t19, ht19, hf⟩ := xb hf
    refine x_iald S hw ht19 d_Mo_alike_68 ?_
    refine lv_icmp_ge (tgt := 184) S.1 S.2.1 d_Mo_alike_69 (by decide) (fun c20 => ?_) (fun c20 => ?_)
    · replace hf := xt c20 hf
      refine lv_iload_n S.1 S.2.1 d_Mo_alike_184 rfl (lv_at hl 3 rfl) ?_
      refine lv_if_eq (tgt := 192) S.1 S.2.1 d_Mo_alike_185 (by decide) (fun c21 => ?_) (fun c21 => ?_)
      · replace hf := xt c21 hf
        refine lv_iconst (v := 0) S.1 S.2.1 d_Mo_alike_192 (by decide) ?_
        obtain rfl := xe1 hf
        exact x_iret S hr hlocks hw d_Mo_alike_193
      · replace hf := xf c21 hf
        refine lv_iconst (v := 1) S.1 S.2.1 d_Mo_alike_188 (by decide) ?_
        refine lv_goto (tgt := 193) S.1 S.2.1 d_Mo_alike_189 (by decide) ?_
        obtain rfl := xe1 hf
        exact x_iret S hr hlocks hw d_Mo_alike_193
    · replace hf := xf c20 hf
      refine lv_iload_n S.1 S.2.1 d_Mo_alike_72 rfl (lv_at hl 3 rfl) ?_
      refine lv_if_eq (tgt := 184) S.1 S.2.1 d_Mo_alike_73 (by decide) (fun c22 => ?_) (fun c22 => ?_)
      · replace hf := xt c22 hf
        refine lv_iload_n S.1 S.2.1 d_Mo_alike_184 rfl (lv_at hl 3 rfl) ?_
        refine lv_if_eq (tgt := 192) S.1 S.2.1 d_Mo_alike_185 (by decide) (fun c23 => ?_) (fun c23 => ?_)
        · replace hf := xt c23 hf
          refine lv_iconst (v := 0) S.1 S.2.1 d_Mo_alike_192 (by decide) ?_
          obtain rfl := xe1 hf
          exact x_iret S hr hlocks hw d_Mo_alike_193
        · replace hf := xf c23 hf
          refine lv_iconst (v := 1) S.1 S.2.1 d_Mo_alike_188 (by decide) ?_
          refine lv_goto (tgt := 193) S.1 S.2.1 d_Mo_alike_189 (by decide) ?_
          obtain rfl := xe1 hf
          exact x_iret S hr hlocks hw d_Mo_alike_193
      · replace hf := xf c22 hf
        refine lv_aload_n S.1 S.2.1 d_Mo_alike_76 rfl (lv_at hl 0 rfl) ?_
        obtain ⟨t24, ht24, hf⟩ := xb hf
        refine x_getr S hw lk_Mo_86 ht24 d_Mo_alike_77 ?_
        refine lv_sipush (v := 1025) S.1 S.2.1 d_Mo_alike_80 (by decide) ?_
        refine lv_iload_n S.1 S.2.1 d_Mo_alike_83 rfl (lv_at hl 1 rfl) ?_
        refine lv_imul S.1 S.2.1 d_Mo_alike_84 ?_
        refine lv_iload S.1 S.2.1 d_Mo_alike_85 (lv_at hl 4 rfl) ?_
        refine lv_iadd S.1 S.2.1 d_Mo_alike_87 ?_
        obtain ⟨t25, ht25, hf⟩ := xb hf
        refine x_zald S hw ht25 d_Mo_alike_88 ?_
        refine lv_aload_n S.1 S.2.1 d_Mo_alike_89 rfl (lv_at hl 0 rfl) ?_
        obtain ⟨t26, ht26, hf⟩ := xb hf
        refine x_getr S hw lk_Mo_86 ht26 d_Mo_alike_90 ?_
        refine lv_sipush (v := 1025) S.1 S.2.1 d_Mo_alike_93 (by decide) ?_
        refine lv_iload_n S.1 S.2.1 d_Mo_alike_96 rfl (lv_at hl 2 rfl) ?_
        refine lv_imul S.1 S.2.1 d_Mo_alike_97 ?_
        refine lv_iload S.1 S.2.1 d_Mo_alike_98 (lv_at hl 4 rfl) ?_
        refine lv_iadd S.1 S.2.1 d_Mo_alike_100 ?_
        obtain ⟨t27, ht27, hf⟩ := xb hf
        refine x_zald S hw ht27 d_Mo_alike_101 ?_
        refine lv_icmp_ne (tgt := 109) S.1 S.2.1 d_Mo_alike_102 (by decide) (fun c28 => ?_) (fun c28 => ?_)
        · replace hf := xf c28 hf
          refine lv_iconst (v := 0) S.1 S.2.1 d_Mo_alike_109 (by decide) ?_
          refine lv_istore_n (lv' := [(3, .int 0), (0, .ref a0), (1, .int x1), (2, .int x2), (4, .int x4)]) S.1 S.2.1 d_Mo_alike_110 rfl hl (by decide) rfl (fun ls hl => ?_)
          refine lv_iconst (v := 0) S.1 S.2.1 d_Mo_alike_111 (by decide) ?_
          refine lv_istore (lv' := [(5, .int 0), (3, .int 0), (0, .ref a0), (1, .int x1), (2, .int x2), (4, .int x4)]) S.1 S.2.1 d_Mo_alike_112 hl (by decide) rfl (fun ls hl => ?_)
          exact w_Mo_alike_114 S hr hlocks ih _ _ _ _ _ _ _ _ _ _ hw (lv_sub hl [2, 3, 4, 1, 5, 0] rfl) hf
        · replace hf := xt c28 hf
          refine lv_iconst (v := 1) S.1 S.2.1 d_Mo_alike_105 (by decide) ?_
          refine lv_goto (tgt := 110) S.1 S.2.1 d_Mo_alike_106 (by decide) ?_
          refine lv_istore_n (lv' := [(3, .int 1), (0, .ref a0), (1, .int x1), (2, .int x2), (4, .int x4)]) S.1 S.2.1 d_Mo_alike_110 rfl hl (by decide) rfl (fun ls hl => ?_)
          refine lv_iconst (v := 0) S.1 S.2.1 d_Mo_alike_111 (by decide) ?_
          refine lv_istore (lv' := [(5, .int 0), (3, .int 1), (0, .ref a0), (1, .int x1), (2, .int x2), (4, .int x4)]) S.1 S.2.1 d_Mo_alike_112 hl (by decide) rfl (fun ls hl => ?_)
          exact w_Mo_alike_114 S hr hlocks ih _ _ _ _ _ _ _ _ _ _ hw (lv_sub hl [2, 3, 4, 1, 5, 0] rfl) hf
def f_Mo_alike (a0 : Nat) (x1 : Int32) (x2 : Int32) (ω : xS) : Option Int32 :=
  (xk ω a0 12 (f_Mo_isLaw a0 x1 ω)).bind fun t2 =>
  if t2 = 0 then (
    some (-1))
  else (
    (xk ω a0 12 (f_Mo_isLaw a0 x2 ω)).bind fun t5 =>
    if t5 = 0 then (
      some (-1))
    else (
      (xk ω a0 12 (f_Mo_hasPattern a0 x1 ω)).bind fun t8 =>
      if t8 = 0 then (
        some (-2))
      else (
        (xk ω a0 12 (f_Mo_hasPattern a0 x2 ω)).bind fun t11 =>
        if t11 = 0 then (
          some (-2))
        else (
          (xgr ω a0 12 26).bind fun t13 =>
          (xai ω t13 x1).bind fun t14 =>
          (xgr ω a0 12 26).bind fun t15 =>
          (xai ω t15 x2).bind fun t16 =>
          if t14 = t16 then (
            f_Mo_alike_61  xFU a0 x1 x2 1 0 ω)
          else (
            f_Mo_alike_61  xFU a0 x1 x2 0 0 ω)))))
set_option maxHeartbeats 4000000 in
set_option maxRecDepth 100000 in
theorem c_Mo_alike {l : Launch} {E : xV} {z : Nat} {a0 : Nat} {x1 : Int32} {x2 : Int32} {r : Int32} {ω : xS} (hf : f_Mo_alike a0 x1 x2 ω = some r) : xM l E y_Mo_alike ws_Mo_alike { frames := 1, cells := 0, slots := 0, locals := 21 } [.ref a0, .int x1, .int x2] z ω (some (.int r)) z ω := by
  refine x_start (cc := b_Mo_alike) (maxL := 6) (ret := (some .int)) (by decide) rfl (Nat.le_of_ble_eq_true rfl) ?_
  intro p e s m below meth c S hr hlocks hin ls hl hw
  have hl : lv_has ls 6 [(0, .ref a0), (1, .int x1), (2, .int x2)] := hl
  unfold f_Mo_alike at hf
  refine lv_aload_n S.1 S.2.1 d_Mo_alike_0 rfl (lv_at hl 0 rfl) ?_
  refine lv_iload_n S.1 S.2.1 d_Mo_alike_1 rfl (lv_at hl 1 rfl) ?_
  obtain ⟨t2, h1, hf⟩ := xb hf
  obtain ⟨h1b, h1⟩ := xkb h1
  refine x_callV (As := [.int x1]) (rest := []) (st1 := [.int t2]) S hw (c_Mo_isLaw h1) (cwV 1 S.2.2.2.2 gv_Mo_399 rfl rfl rfl hd_Mo_isLaw ⟨Nat.le_of_ble_eq_true rfl, Nat.le_of_ble_eq_true rfl⟩) rfl h1b rfl hl.1 rfl rfl (Nat.le_of_ble_eq_true rfl) d_Mo_alike_2 ⟨Nat.le_of_ble_eq_true rfl, Nat.le_of_ble_eq_true rfl⟩ (fun H locs hw => ?_)
  refine lv_if_eq (tgt := 16) S.1 S.2.1 d_Mo_alike_5 (by decide) (fun c3 => ?_) (fun c3 => ?_)
  · replace hf := xt c3 hf
    refine lv_iconst (v := (-1)) S.1 S.2.1 d_Mo_alike_16 (by decide) ?_
    obtain rfl := xe1 hf
    exact x_iret S hr hlocks hw d_Mo_alike_17
  · replace hf := xf c3 hf
    refine lv_aload_n S.1 S.2.1 d_Mo_alike_8 rfl (lv_at hl 0 rfl) ?_
    refine lv_iload_n S.1 S.2.1 d_Mo_alike_9 rfl (lv_at hl 2 rfl) ?_
    obtain ⟨t5, h4, hf⟩ := xb hf
    obtain ⟨h4b, h4⟩ := xkb h4
    refine x_callV (As := [.int x2]) (rest := []) (st1 := [.int t5]) S hw (c_Mo_isLaw h4) (cwV 1 S.2.2.2.2 gv_Mo_399 rfl rfl rfl hd_Mo_isLaw ⟨Nat.le_of_ble_eq_true rfl, Nat.le_of_ble_eq_true rfl⟩) rfl h4b rfl hl.1 rfl rfl (Nat.le_of_ble_eq_true rfl) d_Mo_alike_10 ⟨Nat.le_of_ble_eq_true rfl, Nat.le_of_ble_eq_true rfl⟩ (fun H locs hw => ?_)
    refine lv_if_ne (tgt := 18) S.1 S.2.1 d_Mo_alike_13 (by decide) (fun c6 => ?_) (fun c6 => ?_)
    · replace hf := xf c6 hf
      refine lv_aload_n S.1 S.2.1 d_Mo_alike_18 rfl (lv_at hl 0 rfl) ?_
      refine lv_iload_n S.1 S.2.1 d_Mo_alike_19 rfl (lv_at hl 1 rfl) ?_
      obtain ⟨t8, h7, hf⟩ := xb hf
      obtain ⟨h7b, h7⟩ := xkb h7
      refine x_callV (As := [.int x1]) (rest := []) (st1 := [.int t8]) S hw (c_Mo_hasPattern h7) (cwV 1 S.2.2.2.2 gv_Mo_402 rfl rfl rfl hd_Mo_hasPattern ⟨Nat.le_of_ble_eq_true rfl, Nat.le_of_ble_eq_true rfl⟩) rfl h7b rfl hl.1 rfl rfl (Nat.le_of_ble_eq_true rfl) d_Mo_alike_20 ⟨Nat.le_of_ble_eq_true rfl, Nat.le_of_ble_eq_true rfl⟩ (fun H locs hw => ?_)
      refine lv_if_eq (tgt := 34) S.1 S.2.1 d_Mo_alike_23 (by decide) (fun c9 => ?_) (fun c9 => ?_)
      · replace hf := xt c9 hf
        refine lv_bipush (v := (-2)) S.1 S.2.1 d_Mo_alike_34 (by decide) ?_
        obtain rfl := xe1 hf
        exact x_iret S hr hlocks hw d_Mo_alike_36
      · replace hf := xf c9 hf
        refine lv_aload_n S.1 S.2.1 d_Mo_alike_26 rfl (lv_at hl 0 rfl) ?_
        refine lv_iload_n S.1 S.2.1 d_Mo_alike_27 rfl (lv_at hl 2 rfl) ?_
        obtain ⟨t11, h10, hf⟩ := xb hf
        obtain ⟨h10b, h10⟩ := xkb h10
        refine x_callV (As := [.int x2]) (rest := []) (st1 := [.int t11]) S hw (c_Mo_hasPattern h10) (cwV 1 S.2.2.2.2 gv_Mo_402 rfl rfl rfl hd_Mo_hasPattern ⟨Nat.le_of_ble_eq_true rfl, Nat.le_of_ble_eq_true rfl⟩) rfl h10b rfl hl.1 rfl rfl (Nat.le_of_ble_eq_true rfl) d_Mo_alike_28 ⟨Nat.le_of_ble_eq_true rfl, Nat.le_of_ble_eq_true rfl⟩ (fun H locs hw => ?_)
        refine lv_if_ne (tgt := 37) S.1 S.2.1 d_Mo_alike_31 (by decide) (fun c12 => ?_) (fun c12 => ?_)
        · replace hf := xf c12 hf
          refine lv_aload_n S.1 S.2.1 d_Mo_alike_37 rfl (lv_at hl 0 rfl) ?_
          obtain ⟨t13, ht13, hf⟩ := xb hf
          refine x_getr S hw lk_Mo_79 ht13 d_Mo_alike_38 ?_
          refine lv_iload_n S.1 S.2.1 d_Mo_alike_41 rfl (lv_at hl 1 rfl) ?_
          obtain ⟨t14, ht14, hf⟩ := xb hf
          refine x_iald S hw ht14 d_Mo_alike_42 ?_
          refine lv_aload_n S.1 S.2.1 d_Mo_alike_43 rfl (lv_at hl 0 rfl) ?_
          obtain ⟨t15, ht15, hf⟩ := xb hf
          refine x_getr S hw lk_Mo_79 ht15 d_Mo_alike_44 ?_
          refine lv_iload_n S.1 S.2.1 d_Mo_alike_47 rfl (lv_at hl 2 rfl) ?_
          obtain ⟨t16, ht16, hf⟩ := xb hf
          refine x_iald S hw ht16 d_Mo_alike_48 ?_
          refine lv_icmp_ne (tgt := 56) S.1 S.2.1 d_Mo_alike_49 (by decide) (fun c17 => ?_) (fun c17 => ?_)
          · replace hf := xf c17 hf
            refine lv_iconst (v := 0) S.1 S.2.1 d_Mo_alike_56 (by decide) ?_
            refine lv_istore_n (lv' := [(3, .int 0), (0, .ref a0), (1, .int x1), (2, .int x2)]) S.1 S.2.1 d_Mo_alike_57 rfl hl (by decide) rfl (fun ls hl => ?_)
            refine lv_iconst (v := 0) S.1 S.2.1 d_Mo_alike_58 (by decide) ?_
            refine lv_istore (lv' := [(4, .int 0), (3, .int 0), (0, .ref a0), (1, .int x1), (2, .int x2)]) S.1 S.2.1 d_Mo_alike_59 hl (by decide) rfl (fun ls hl => ?_)
            exact w_Mo_alike_61 S hr hlocks  _ _ _ _ _ _ _ _ _ hw (lv_sub hl [2, 3, 4, 1, 0] rfl) hf
          · replace hf := xt c17 hf
            refine lv_iconst (v := 1) S.1 S.2.1 d_Mo_alike_52 (by decide) ?_
            refine lv_goto (tgt := 57) S.1 S.2.1 d_Mo_alike_53 (by decide) ?_
            refine lv_istore_n (lv' := [(3, .int 1), (0, .ref a0), (1, .int x1), (2, .int x2)]) S.1 S.2.1 d_Mo_alike_57 rfl hl (by decide) rfl (fun ls hl => ?_)
            refine lv_iconst (v := 0) S.1 S.2.1 d_Mo_alike_58 (by decide) ?_
            refine lv_istore (lv' := [(4, .int 0), (3, .int 1), (0, .ref a0), (1, .int x1), (2, .int x2)]) S.1 S.2.1 d_Mo_alike_59 hl (by decide) rfl (fun ls hl => ?_)
            exact w_Mo_alike_61 S hr hlocks  _ _ _ _ _ _ _ _ _ hw (lv_sub hl [2, 3, 4, 1, 0] rfl) hf
        · replace hf := xt c12 hf
          refine lv_bipush (v := (-2)) S.1 S.2.1 d_Mo_alike_34 (by decide) ?_
          obtain rfl := xe1 hf
          exact x_iret S hr hlocks hw d_Mo_alike_36
    · replace hf := xt c6 hf
      refine lv_iconst (v := (-1)) S.1 S.2.1 d_Mo_alike_16 (by decide) ?_
      obtain rfl := xe1 hf
      exact x_iret S hr hlocks hw d_Mo_alike_17
def f_Mo_words_213 : Nat → Nat → Int32 → Int64 → Int32 → xS → Option (Int64 × xS)
  | 0, _, _, _, _, _ => none
  | n + 1, a0, x1, x3, x5, ω =>
    (xgr ω a0 12 26).bind fun t17 =>
    (xai ω t17 x1).bind fun t18 =>
    if t18 ≤ x5 then (
      some (x3, ω))
    else (
      (xgr ω a0 12 28).bind fun t20 =>
      (xaz ω t20 ((1025 * x1) + x5)).bind fun t21 =>
      if t21 = 0 then (
        f_Mo_words_213  n a0 x1 (x3 + 0) (x5 + 1) ω)
      else (
        (xgr ω a0 12 63).bind fun t23 =>
        (xal ω t23 x5).bind fun t24 =>
        f_Mo_words_213  n a0 x1 (x3 + t24) (x5 + 1) ω))
set_option maxHeartbeats 4000000 in
set_option maxRecDepth 100000 in
theorem w_Mo_words_213 {p : Program} {l : Launch} {e : Env} {s : State} {m : MethodId} {args : Array Value} {below : List Frame} {meth : Method} {c : Code} {E : xV} {z : Nat} {r : Int64} {ω1 : xS} (S : CallFix p m c b_Mo_words 6 s args xTbl "RosterRulesModel") (hr : meth.sig.returnType = (some .long)) (hlocks : meth.locks = false) : ∀ n : Nat, ∀ (a0 : Nat) (x1 : Int32) (x3 : Int64) (x5 : Int32) (ω : xS) (H : Heap) (locs : List Loc) (ls : Array Slot), xW E z ω s s.heap H locs → lv_has ls 6 [(0, .ref a0), (1, .int x1), (3, .long x3), (5, .int x5)] → f_Mo_words_213 n a0 x1 x3 x5 ω = some (r, ω1) → W p l e (headSpec ws_Mo_words { frames := 1, cells := 0, slots := 0, locals := 21 }).room s m args below meth c H locs 0 0 (MQ below (xQ E (some (.long r)) z ω1) args s 0 0 (fun q => E.2.2 ≤ q)) (F0 m 213 ls []) := by
  intro n
  induction n with
  | zero =>
    intro a0 x1 x3 x5 ω H locs ls hw hl hf
    have h2 : (none : Option (Int64 × xS)) = some (r, ω1) := hf
    cases h2
  | succ n ih =>
    intro a0 x1 x3 x5 ω H locs ls hw hl hf
    rw [f_Mo_words_213] at hf
    refine lv_iload S.1 S.2.1 d_Mo_words_213 (lv_at hl 3 rfl) ?_
    refine lv_aload_n S.1 S.2.1 d_Mo_words_215 rfl (lv_at hl 0 rfl) ?_
    obtain ⟨t17, ht17, hf⟩ := xb hf
    refine x_getr S hw lk_Mo_79 ht17 d_Mo_words_216 ?_
    refine lv_iload_n S.1 S.2.1 d_Mo_words_219 rfl (lv_at hl 1 rfl) ?_
    obtain ⟨t18, ht18, hf⟩ := xb hf
    refine x_iald S hw ht18 d_Mo_words_220 ?_
    refine lv_icmp_ge (tgt := 260) S.1 S.2.1 d_Mo_words_221 (by decide) (fun c19 => ?_) (fun c19 => ?_)
    · replace hf := xt c19 hf
      refine lv_lload_n S.1 S.2.1 d_Mo_words_260 rfl (lv_at hl 2 rfl) ?_
      obtain ⟨rfl, rfl⟩ := xe2 hf
      exact x_lret S hr hlocks hw d_Mo_words_261
    · replace hf := xf c19 hf
      refine lv_lload_n S.1 S.2.1 d_Mo_words_224 rfl (lv_at hl 2 rfl) ?_
      refine lv_aload_n S.1 S.2.1 d_Mo_words_225 rfl (lv_at hl 0 rfl) ?_
      obtain ⟨t20, ht20, hf⟩ := xb hf
      refine x_getr S hw lk_Mo_86 ht20 d_Mo_words_226 ?_
      refine lv_sipush (v := 1025) S.1 S.2.1 d_Mo_words_229 (by decide) ?_
      refine lv_iload_n S.1 S.2.1 d_Mo_words_232 rfl (lv_at hl 1 rfl) ?_
      refine lv_imul S.1 S.2.1 d_Mo_words_233 ?_
      refine lv_iload S.1 S.2.1 d_Mo_words_234 (lv_at hl 3 rfl) ?_
      refine lv_iadd S.1 S.2.1 d_Mo_words_236 ?_
      obtain ⟨t21, ht21, hf⟩ := xb hf
      refine x_zald S hw ht21 d_Mo_words_237 ?_
      refine lv_if_eq (tgt := 251) S.1 S.2.1 d_Mo_words_238 (by decide) (fun c22 => ?_) (fun c22 => ?_)
      · replace hf := xt c22 hf
        refine lv_lconst (v := 0) S.1 S.2.1 d_Mo_words_251 (by decide) ?_
        refine lv_ladd S.1 S.2.1 d_Mo_words_252 ?_
        refine lv_lstore_n (lv' := [(3, .long (x3 + 0)), (0, .ref a0), (1, .int x1), (5, .int x5)]) S.1 S.2.1 d_Mo_words_253 rfl hl (by decide) rfl (fun ls hl => ?_)
        refine lv_iinc (v := (x5 + 1)) (lv' := [(5, .int (x5 + 1)), (3, .long (x3 + 0)), (0, .ref a0), (1, .int x1)]) S.1 S.2.1 d_Mo_words_254 hl (k := 3) rfl rfl (by decide) rfl (fun ls hl => ?_)
        refine lv_goto (tgt := 213) S.1 S.2.1 d_Mo_words_257 (by decide) ?_
        exact ih _ _ _ _ _ _ _ _ hw (lv_sub hl [2, 3, 1, 0] rfl) hf
      · replace hf := xf c22 hf
        refine lv_aload_n S.1 S.2.1 d_Mo_words_241 rfl (lv_at hl 0 rfl) ?_
        obtain ⟨t23, ht23, hf⟩ := xb hf
        refine x_getr S hw lk_Mo_150 ht23 d_Mo_words_242 ?_
        refine lv_iload S.1 S.2.1 d_Mo_words_245 (lv_at hl 3 rfl) ?_
        obtain ⟨t24, ht24, hf⟩ := xb hf
        refine x_lald S hw ht24 d_Mo_words_247 ?_
        refine lv_goto (tgt := 252) S.1 S.2.1 d_Mo_words_248 (by decide) ?_
        refine lv_ladd S.1 S.2.1 d_Mo_words_252 ?_
        refine lv_lstore_n (lv' := [(3, .long (x3 + t24)), (0, .ref a0), (1, .int x1), (5, .int x5)]) S.1 S.2.1 d_Mo_words_253 rfl hl (by decide) rfl (fun ls hl => ?_)
        refine lv_iinc (v := (x5 + 1)) (lv' := [(5, .int (x5 + 1)), (3, .long (x3 + t24)), (0, .ref a0), (1, .int x1)]) S.1 S.2.1 d_Mo_words_254 hl (k := 3) rfl rfl (by decide) rfl (fun ls hl => ?_)
        refine lv_goto (tgt := 213) S.1 S.2.1 d_Mo_words_257 (by decide) ?_
        exact ih _ _ _ _ _ _ _ _ hw (lv_sub hl [2, 3, 1, 0] rfl) hf
def f_Mo_words_171 (k65 : Nat → Int32 → Int32 → Int32 → xS → Option (Int64 × xS)) : Nat → Nat → Int32 → Int32 → Int32 → Int32 → xS → Option (Int64 × xS)
  | 0, _, _, _, _, _, _ => none
  | n + 1, a0, x1, x2, x3, x4, ω =>
    (xgr ω a0 12 26).bind fun t33 =>
    (xai ω t33 x1).bind fun t34 =>
    if t34 ≤ x4 then (
      k65 a0 x1 x2 (x3 + 1) ω)
    else (
      (xgr ω a0 12 63).bind fun t36 =>
      (xgr ω a0 12 64).bind fun t37 =>
      (xal ω t37 x4).bind fun t38 =>
      (xsl ω t36 x4 t38).bind fun w39 =>
      f_Mo_words_171 k65 n a0 x1 x2 x3 (x4 + 1) w39)
set_option maxHeartbeats 4000000 in
set_option maxRecDepth 100000 in
theorem w_Mo_words_171 {p : Program} {l : Launch} {e : Env} {s : State} {m : MethodId} {args : Array Value} {below : List Frame} {meth : Method} {c : Code} {E : xV} {z : Nat} {r : Int64} {ω1 : xS} {k65 : Nat → Int32 → Int32 → Int32 → xS → Option (Int64 × xS)} (S : CallFix p m c b_Mo_words 6 s args xTbl "RosterRulesModel") (hr : meth.sig.returnType = (some .long)) (hlocks : meth.locks = false) (hk65 : ∀ (a0 : Nat) (x1 : Int32) (x2 : Int32) (x3 : Int32) (ω : xS) (H : Heap) (locs : List Loc) (ls : Array Slot), xW E z ω s s.heap H locs → lv_has ls 6 [(0, .ref a0), (1, .int x1), (2, .int x2), (3, .int x3)] → k65 a0 x1 x2 x3 ω = some (r, ω1) → W p l e (headSpec ws_Mo_words { frames := 1, cells := 0, slots := 0, locals := 21 }).room s m args below meth c H locs 0 0 (MQ below (xQ E (some (.long r)) z ω1) args s 0 0 (fun q => E.2.2 ≤ q)) (F0 m 65 ls [])) : ∀ n : Nat, ∀ (a0 : Nat) (x1 : Int32) (x2 : Int32) (x3 : Int32) (x4 : Int32) (ω : xS) (H : Heap) (locs : List Loc) (ls : Array Slot), xW E z ω s s.heap H locs → lv_has ls 6 [(0, .ref a0), (1, .int x1), (2, .int x2), (3, .int x3), (4, .int x4)] → f_Mo_words_171 k65 n a0 x1 x2 x3 x4 ω = some (r, ω1) → W p l e (headSpec ws_Mo_words { frames := 1, cells := 0, slots := 0, locals := 21 }).room s m args below meth c H locs 0 0 (MQ below (xQ E (some (.long r)) z ω1) args s 0 0 (fun q => E.2.2 ≤ q)) (F0 m 171 ls []) := by
  intro n
  induction n with
  | zero =>
    intro a0 x1 x2 x3 x4 ω H locs ls hw hl hf
    have h2 : (none : Option (Int64 × xS)) = some (r, ω1) := hf
    cases h2
  | succ n ih =>
    intro a0 x1 x2 x3 x4 ω H locs ls hw hl hf
    rw [f_Mo_words_171] at hf
    refine lv_iload S.1 S.2.1 d_Mo_words_171 (lv_at hl 4 rfl) ?_
    refine lv_aload_n S.1 S.2.1 d_Mo_words_173 rfl (lv_at hl 0 rfl) ?_
    obtain ⟨t33, ht33, hf⟩ := xb hf
    refine x_getr S hw lk_Mo_79 ht33 d_Mo_words_174 ?_
    refine lv_iload_n S.1 S.2.1 d_Mo_words_177 rfl (lv_at hl 1 rfl) ?_
    obtain ⟨t34, ht34, hf⟩ := xb hf
    refine x_iald S hw ht34 d_Mo_words_178 ?_
    refine lv_icmp_ge (tgt := 202) S.1 S.2.1 d_Mo_words_179 (by decide) (fun c35 => ?_) (fun c35 => ?_)
    · replace hf := xt c35 hf
      refine lv_iinc (v := (x3 + 1)) (lv' := [(3, .int (x3 + 1)), (0, .ref a0), (1, .int x1), (2, .int x2), (4, .int x4)]) S.1 S.2.1 d_Mo_words_202 hl (k := 3) rfl rfl (by decide) rfl (fun ls hl => ?_)
      refine lv_goto (tgt := 65) S.1 S.2.1 d_Mo_words_205 (by decide) ?_
      exact hk65 _ _ _ _ _ _ _ _ hw (lv_sub hl [1, 2, 3, 0] rfl) hf
    · replace hf := xf c35 hf
      refine lv_aload_n S.1 S.2.1 d_Mo_words_182 rfl (lv_at hl 0 rfl) ?_
      obtain ⟨t36, ht36, hf⟩ := xb hf
      refine x_getr S hw lk_Mo_150 ht36 d_Mo_words_183 ?_
      refine lv_iload S.1 S.2.1 d_Mo_words_186 (lv_at hl 4 rfl) ?_
      refine lv_aload_n S.1 S.2.1 d_Mo_words_188 rfl (lv_at hl 0 rfl) ?_
      obtain ⟨t37, ht37, hf⟩ := xb hf
      refine x_getr S hw lk_Mo_153 ht37 d_Mo_words_189 ?_
      refine lv_iload S.1 S.2.1 d_Mo_words_192 (lv_at hl 4 rfl) ?_
      obtain ⟨t38, ht38, hf⟩ := xb hf
      refine x_lald S hw ht38 d_Mo_words_194 ?_
      obtain ⟨w39, hw39, hf⟩ := xb hf
      refine x_last S hw hw39 d_Mo_words_195 (fun H locs hw => ?_)
      refine lv_iinc (v := (x4 + 1)) (lv' := [(4, .int (x4 + 1)), (0, .ref a0), (1, .int x1), (2, .int x2), (3, .int x3)]) S.1 S.2.1 d_Mo_words_196 hl (k := 4) rfl rfl (by decide) rfl (fun ls hl => ?_)
      refine lv_goto (tgt := 171) S.1 S.2.1 d_Mo_words_199 (by decide) ?_
      exact ih _ _ _ _ _ _ _ _ _ hw (lv_sub hl [1, 2, 3, 4, 0] rfl) hf
def f_Mo_words_115 (k65 : Nat → Int32 → Int32 → Int32 → xS → Option (Int64 × xS)) (k101 : Nat → Int32 → Int32 → Int32 → Int32 → xS → Option (Int64 × xS)) : Nat → Nat → Int32 → Int32 → Int32 → Int32 → Int32 → xS → Option (Int64 × xS)
  | 0, _, _, _, _, _, _, _ => none
  | n + 1, a0, x1, x2, x3, x4, x5, ω =>
    if 9 ≤ x5 then (
      k101 a0 x1 x2 x3 (x4 + 1) ω)
    else (
      (xgr ω a0 12 64).bind fun t41 =>
      (xgr ω a0 12 27).bind fun t42 =>
      (xai ω t42 ((9 * ((1025 * x1) + x4)) + x5)).bind fun t43 =>
      (xal ω t41 t43).bind fun t44 =>
      (xgr ω a0 12 63).bind fun t45 =>
      (xal ω t45 x4).bind fun t46 =>
      (xsl ω t41 t43 (t44 + t46)).bind fun w47 =>
      f_Mo_words_115 k65 k101 n a0 x1 x2 x3 x4 (x5 + 1) w47)
set_option maxHeartbeats 4000000 in
set_option maxRecDepth 100000 in
theorem w_Mo_words_115 {p : Program} {l : Launch} {e : Env} {s : State} {m : MethodId} {args : Array Value} {below : List Frame} {meth : Method} {c : Code} {E : xV} {z : Nat} {r : Int64} {ω1 : xS} {k65 : Nat → Int32 → Int32 → Int32 → xS → Option (Int64 × xS)} {k101 : Nat → Int32 → Int32 → Int32 → Int32 → xS → Option (Int64 × xS)} (S : CallFix p m c b_Mo_words 6 s args xTbl "RosterRulesModel") (hr : meth.sig.returnType = (some .long)) (hlocks : meth.locks = false) (hk65 : ∀ (a0 : Nat) (x1 : Int32) (x2 : Int32) (x3 : Int32) (ω : xS) (H : Heap) (locs : List Loc) (ls : Array Slot), xW E z ω s s.heap H locs → lv_has ls 6 [(0, .ref a0), (1, .int x1), (2, .int x2), (3, .int x3)] → k65 a0 x1 x2 x3 ω = some (r, ω1) → W p l e (headSpec ws_Mo_words { frames := 1, cells := 0, slots := 0, locals := 21 }).room s m args below meth c H locs 0 0 (MQ below (xQ E (some (.long r)) z ω1) args s 0 0 (fun q => E.2.2 ≤ q)) (F0 m 65 ls [])) (hk101 : ∀ (a0 : Nat) (x1 : Int32) (x2 : Int32) (x3 : Int32) (x4 : Int32) (ω : xS) (H : Heap) (locs : List Loc) (ls : Array Slot), xW E z ω s s.heap H locs → lv_has ls 6 [(0, .ref a0), (1, .int x1), (2, .int x2), (3, .int x3), (4, .int x4)] → k101 a0 x1 x2 x3 x4 ω = some (r, ω1) → W p l e (headSpec ws_Mo_words { frames := 1, cells := 0, slots := 0, locals := 21 }).room s m args below meth c H locs 0 0 (MQ below (xQ E (some (.long r)) z ω1) args s 0 0 (fun q => E.2.2 ≤ q)) (F0 m 101 ls [])) : ∀ n : Nat, ∀ (a0 : Nat) (x1 : Int32) (x2 : Int32) (x3 : Int32) (x4 : Int32) (x5 : Int32) (ω : xS) (H : Heap) (locs : List Loc) (ls : Array Slot), xW E z ω s s.heap H locs → lv_has ls 6 [(0, .ref a0), (1, .int x1), (2, .int x2), (3, .int x3), (4, .int x4), (5, .int x5)] → f_Mo_words_115 k65 k101 n a0 x1 x2 x3 x4 x5 ω = some (r, ω1) → W p l e (headSpec ws_Mo_words { frames := 1, cells := 0, slots := 0, locals := 21 }).room s m args below meth c H locs 0 0 (MQ below (xQ E (some (.long r)) z ω1) args s 0 0 (fun q => E.2.2 ≤ q)) (F0 m 115 ls []) := by
  intro n
  induction n with
  | zero =>
    intro a0 x1 x2 x3 x4 x5 ω H locs ls hw hl hf
    have h2 : (none : Option (Int64 × xS)) = some (r, ω1) := hf
    cases h2
  | succ n ih =>
    intro a0 x1 x2 x3 x4 x5 ω H locs ls hw hl hf
    rw [f_Mo_words_115] at hf
    refine lv_iload S.1 S.2.1 d_Mo_words_115 (lv_at hl 5 rfl) ?_
    refine lv_bipush (v := 9) S.1 S.2.1 d_Mo_words_117 (by decide) ?_
    refine lv_icmp_ge (tgt := 162) S.1 S.2.1 d_Mo_words_119 (by decide) (fun c40 => ?_) (fun c40 => ?_)
    · replace hf := xt c40 hf
      refine lv_iinc (v := (x4 + 1)) (lv' := [(4, .int (x4 + 1)), (0, .ref a0), (1, .int x1), (2, .int x2), (3, .int x3), (5, .int x5)]) S.1 S.2.1 d_Mo_words_162 hl (k := 4) rfl rfl (by decide) rfl (fun ls hl => ?_)
      refine lv_goto (tgt := 101) S.1 S.2.1 d_Mo_words_165 (by decide) ?_
      exact hk101 _ _ _ _ _ _ _ _ _ hw (lv_sub hl [1, 2, 3, 4, 0] rfl) hf
    · replace hf := xf c40 hf
      refine lv_aload_n S.1 S.2.1 d_Mo_words_122 rfl (lv_at hl 0 rfl) ?_
      obtain ⟨t41, ht41, hf⟩ := xb hf
      refine x_getr S hw lk_Mo_153 ht41 d_Mo_words_123 ?_
      refine lv_aload_n S.1 S.2.1 d_Mo_words_126 rfl (lv_at hl 0 rfl) ?_
      obtain ⟨t42, ht42, hf⟩ := xb hf
      refine x_getr S hw lk_Mo_83 ht42 d_Mo_words_127 ?_
      refine lv_bipush (v := 9) S.1 S.2.1 d_Mo_words_130 (by decide) ?_
      refine lv_sipush (v := 1025) S.1 S.2.1 d_Mo_words_132 (by decide) ?_
      refine lv_iload_n S.1 S.2.1 d_Mo_words_135 rfl (lv_at hl 1 rfl) ?_
      refine lv_imul S.1 S.2.1 d_Mo_words_136 ?_
      refine lv_iload S.1 S.2.1 d_Mo_words_137 (lv_at hl 4 rfl) ?_
      refine lv_iadd S.1 S.2.1 d_Mo_words_139 ?_
      refine lv_imul S.1 S.2.1 d_Mo_words_140 ?_
      refine lv_iload S.1 S.2.1 d_Mo_words_141 (lv_at hl 5 rfl) ?_
      refine lv_iadd S.1 S.2.1 d_Mo_words_143 ?_
      obtain ⟨t43, ht43, hf⟩ := xb hf
      refine x_iald S hw ht43 d_Mo_words_144 ?_
      refine lv_dup2_11 S.1 S.2.1 d_Mo_words_145 rfl rfl ?_
      obtain ⟨t44, ht44, hf⟩ := xb hf
      refine x_lald S hw ht44 d_Mo_words_146 ?_
      refine lv_aload_n S.1 S.2.1 d_Mo_words_147 rfl (lv_at hl 0 rfl) ?_
      obtain ⟨t45, ht45, hf⟩ := xb hf
      refine x_getr S hw lk_Mo_150 ht45 d_Mo_words_148 ?_
      refine lv_iload S.1 S.2.1 d_Mo_words_151 (lv_at hl 4 rfl) ?_
      obtain ⟨t46, ht46, hf⟩ := xb hf
      refine x_lald S hw ht46 d_Mo_words_153 ?_
      refine lv_ladd S.1 S.2.1 d_Mo_words_154 ?_
      obtain ⟨w47, hw47, hf⟩ := xb hf
      refine x_last S hw hw47 d_Mo_words_155 (fun H locs hw => ?_)
      refine lv_iinc (v := (x5 + 1)) (lv' := [(5, .int (x5 + 1)), (0, .ref a0), (1, .int x1), (2, .int x2), (3, .int x3), (4, .int x4)]) S.1 S.2.1 d_Mo_words_156 hl (k := 5) rfl rfl (by decide) rfl (fun ls hl => ?_)
      refine lv_goto (tgt := 115) S.1 S.2.1 d_Mo_words_159 (by decide) ?_
      exact ih _ _ _ _ _ _ _ _ _ _ hw (lv_sub hl [1, 2, 3, 4, 5, 0] rfl) hf
def f_Mo_words_101 (k65 : Nat → Int32 → Int32 → Int32 → xS → Option (Int64 × xS)) : Nat → Nat → Int32 → Int32 → Int32 → Int32 → xS → Option (Int64 × xS)
  | 0, _, _, _, _, _, _ => none
  | n + 1, a0, x1, x2, x3, x4, ω =>
    (xgr ω a0 12 26).bind fun t30 =>
    (xai ω t30 x1).bind fun t31 =>
    if t31 ≤ x4 then (
      f_Mo_words_171 k65 xFU a0 x1 x2 x3 0 ω)
    else (
      f_Mo_words_115 k65 (f_Mo_words_101 k65 n) xFU a0 x1 x2 x3 x4 0 ω)
set_option maxHeartbeats 4000000 in
set_option maxRecDepth 100000 in
theorem w_Mo_words_101 {p : Program} {l : Launch} {e : Env} {s : State} {m : MethodId} {args : Array Value} {below : List Frame} {meth : Method} {c : Code} {E : xV} {z : Nat} {r : Int64} {ω1 : xS} {k65 : Nat → Int32 → Int32 → Int32 → xS → Option (Int64 × xS)} (S : CallFix p m c b_Mo_words 6 s args xTbl "RosterRulesModel") (hr : meth.sig.returnType = (some .long)) (hlocks : meth.locks = false) (hk65 : ∀ (a0 : Nat) (x1 : Int32) (x2 : Int32) (x3 : Int32) (ω : xS) (H : Heap) (locs : List Loc) (ls : Array Slot), xW E z ω s s.heap H locs → lv_has ls 6 [(0, .ref a0), (1, .int x1), (2, .int x2), (3, .int x3)] → k65 a0 x1 x2 x3 ω = some (r, ω1) → W p l e (headSpec ws_Mo_words { frames := 1, cells := 0, slots := 0, locals := 21 }).room s m args below meth c H locs 0 0 (MQ below (xQ E (some (.long r)) z ω1) args s 0 0 (fun q => E.2.2 ≤ q)) (F0 m 65 ls [])) : ∀ n : Nat, ∀ (a0 : Nat) (x1 : Int32) (x2 : Int32) (x3 : Int32) (x4 : Int32) (ω : xS) (H : Heap) (locs : List Loc) (ls : Array Slot), xW E z ω s s.heap H locs → lv_has ls 6 [(0, .ref a0), (1, .int x1), (2, .int x2), (3, .int x3), (4, .int x4)] → f_Mo_words_101 k65 n a0 x1 x2 x3 x4 ω = some (r, ω1) → W p l e (headSpec ws_Mo_words { frames := 1, cells := 0, slots := 0, locals := 21 }).room s m args below meth c H locs 0 0 (MQ below (xQ E (some (.long r)) z ω1) args s 0 0 (fun q => E.2.2 ≤ q)) (F0 m 101 ls []) := by
  intro n
  induction n with
  | zero =>
    intro a0 x1 x2 x3 x4 ω H locs ls hw hl hf
    have h2 : (none : Option (Int64 × xS)) = some (r, ω1) := hf
    cases h2
  | succ n ih =>
    intro a0 x1 x2 x3 x4 ω H locs ls hw hl hf
    rw [f_Mo_words_101] at hf
    refine lv_iload S.1 S.2.1 d_Mo_words_101 (lv_at hl 4 rfl) ?_
    refine lv_aload_n S.1 S.2.1 d_Mo_words_103 rfl (lv_at hl 0 rfl) ?_
    obtain ⟨t30, ht30, hf⟩ := xb hf
    refine x_getr S hw lk_Mo_79 ht30 d_Mo_words_104 ?_
    refine lv_iload_n S.1 S.2.1 d_Mo_words_107 rfl (lv_at hl 1 rfl) ?_
    obtain ⟨t31, ht31, hf⟩ := xb hf
    refine x_iald S hw ht31 d_Mo_words_108 ?_
    refine lv_icmp_ge (tgt := 168) S.1 S.2.1 d_Mo_words_109 (by decide) (fun c32 => ?_) (fun c32 => ?_)
    · replace hf := xt c32 hf
      refine lv_iconst (v := 0) S.1 S.2.1 d_Mo_words_168 (by decide) ?_
      refine lv_istore (lv' := [(4, .int 0), (0, .ref a0), (1, .int x1), (2, .int x2), (3, .int x3)]) S.1 S.2.1 d_Mo_words_169 hl (by decide) rfl (fun ls hl => ?_)
      exact w_Mo_words_171 S hr hlocks hk65 _ _ _ _ _ _ _ _ _ _ hw (lv_sub hl [1, 2, 3, 4, 0] rfl) hf
    · replace hf := xf c32 hf
      refine lv_iconst (v := 0) S.1 S.2.1 d_Mo_words_112 (by decide) ?_
      refine lv_istore (lv' := [(5, .int 0), (0, .ref a0), (1, .int x1), (2, .int x2), (3, .int x3), (4, .int x4)]) S.1 S.2.1 d_Mo_words_113 hl (by decide) rfl (fun ls hl => ?_)
      exact w_Mo_words_115 S hr hlocks hk65 ih _ _ _ _ _ _ _ _ _ _ _ hw (lv_sub hl [1, 2, 3, 4, 5, 0] rfl) hf
def f_Mo_words_73 (k65 : Nat → Int32 → Int32 → Int32 → xS → Option (Int64 × xS)) : Nat → Nat → Int32 → Int32 → Int32 → Int32 → xS → Option (Int64 × xS)
  | 0, _, _, _, _, _, _ => none
  | n + 1, a0, x1, x2, x3, x4, ω =>
    (xgr ω a0 12 26).bind fun t25 =>
    (xai ω t25 x1).bind fun t26 =>
    if t26 ≤ x4 then (
      f_Mo_words_101 k65 xFU a0 x1 x2 x3 0 ω)
    else (
      (xgr ω a0 12 64).bind fun t28 =>
      (xsl ω t28 x4 0).bind fun w29 =>
      f_Mo_words_73 k65 n a0 x1 x2 x3 (x4 + 1) w29)
set_option maxHeartbeats 4000000 in
set_option maxRecDepth 100000 in
theorem w_Mo_words_73 {p : Program} {l : Launch} {e : Env} {s : State} {m : MethodId} {args : Array Value} {below : List Frame} {meth : Method} {c : Code} {E : xV} {z : Nat} {r : Int64} {ω1 : xS} {k65 : Nat → Int32 → Int32 → Int32 → xS → Option (Int64 × xS)} (S : CallFix p m c b_Mo_words 6 s args xTbl "RosterRulesModel") (hr : meth.sig.returnType = (some .long)) (hlocks : meth.locks = false) (hk65 : ∀ (a0 : Nat) (x1 : Int32) (x2 : Int32) (x3 : Int32) (ω : xS) (H : Heap) (locs : List Loc) (ls : Array Slot), xW E z ω s s.heap H locs → lv_has ls 6 [(0, .ref a0), (1, .int x1), (2, .int x2), (3, .int x3)] → k65 a0 x1 x2 x3 ω = some (r, ω1) → W p l e (headSpec ws_Mo_words { frames := 1, cells := 0, slots := 0, locals := 21 }).room s m args below meth c H locs 0 0 (MQ below (xQ E (some (.long r)) z ω1) args s 0 0 (fun q => E.2.2 ≤ q)) (F0 m 65 ls [])) : ∀ n : Nat, ∀ (a0 : Nat) (x1 : Int32) (x2 : Int32) (x3 : Int32) (x4 : Int32) (ω : xS) (H : Heap) (locs : List Loc) (ls : Array Slot), xW E z ω s s.heap H locs → lv_has ls 6 [(0, .ref a0), (1, .int x1), (2, .int x2), (3, .int x3), (4, .int x4)] → f_Mo_words_73 k65 n a0 x1 x2 x3 x4 ω = some (r, ω1) → W p l e (headSpec ws_Mo_words { frames := 1, cells := 0, slots := 0, locals := 21 }).room s m args below meth c H locs 0 0 (MQ below (xQ E (some (.long r)) z ω1) args s 0 0 (fun q => E.2.2 ≤ q)) (F0 m 73 ls []) := by
  intro n
  induction n with
  | zero =>
    intro a0 x1 x2 x3 x4 ω H locs ls hw hl hf
    have h2 : (none : Option (Int64 × xS)) = some (r, ω1) := hf
    cases h2
  | succ n ih =>
    intro a0 x1 x2 x3 x4 ω H locs ls hw hl hf
    rw [f_Mo_words_73] at hf
    refine lv_iload S.1 S.2.1 d_Mo_words_73 (lv_at hl 4 rfl) ?_
    refine lv_aload_n S.1 S.2.1 d_Mo_words_75 rfl (lv_at hl 0 rfl) ?_
    obtain ⟨t25, ht25, hf⟩ := xb hf
    refine x_getr S hw lk_Mo_79 ht25 d_Mo_words_76 ?_
    refine lv_iload_n S.1 S.2.1 d_Mo_words_79 rfl (lv_at hl 1 rfl) ?_
    obtain ⟨t26, ht26, hf⟩ := xb hf
    refine x_iald S hw ht26 d_Mo_words_80 ?_
    refine lv_icmp_ge (tgt := 98) S.1 S.2.1 d_Mo_words_81 (by decide) (fun c27 => ?_) (fun c27 => ?_)
    · replace hf := xt c27 hf
      refine lv_iconst (v := 0) S.1 S.2.1 d_Mo_words_98 (by decide) ?_
      refine lv_istore (lv' := [(4, .int 0), (0, .ref a0), (1, .int x1), (2, .int x2), (3, .int x3)]) S.1 S.2.1 d_Mo_words_99 hl (by decide) rfl (fun ls hl => ?_)
      exact w_Mo_words_101 S hr hlocks hk65 _ _ _ _ _ _ _ _ _ _ hw (lv_sub hl [1, 2, 3, 4, 0] rfl) hf
    · replace hf := xf c27 hf
      refine lv_aload_n S.1 S.2.1 d_Mo_words_84 rfl (lv_at hl 0 rfl) ?_
      obtain ⟨t28, ht28, hf⟩ := xb hf
      refine x_getr S hw lk_Mo_153 ht28 d_Mo_words_85 ?_
      refine lv_iload S.1 S.2.1 d_Mo_words_88 (lv_at hl 4 rfl) ?_
      refine lv_lconst (v := 0) S.1 S.2.1 d_Mo_words_90 (by decide) ?_
      obtain ⟨w29, hw29, hf⟩ := xb hf
      refine x_last S hw hw29 d_Mo_words_91 (fun H locs hw => ?_)
      refine lv_iinc (v := (x4 + 1)) (lv' := [(4, .int (x4 + 1)), (0, .ref a0), (1, .int x1), (2, .int x2), (3, .int x3)]) S.1 S.2.1 d_Mo_words_92 hl (k := 4) rfl rfl (by decide) rfl (fun ls hl => ?_)
      refine lv_goto (tgt := 73) S.1 S.2.1 d_Mo_words_95 (by decide) ?_
      exact ih _ _ _ _ _ _ _ _ _ hw (lv_sub hl [1, 2, 3, 4, 0] rfl) hf
def f_Mo_words_65 : Nat → Nat → Int32 → Int32 → Int32 → xS → Option (Int64 × xS)
  | 0, _, _, _, _, _ => none
  | n + 1, a0, x1, x2, x3, ω =>
    if x2 ≤ x3 then (
      f_Mo_words_213  xFU a0 x1 0 0 ω)
    else (
      f_Mo_words_73 (f_Mo_words_65  n) xFU a0 x1 x2 x3 0 ω)
set_option maxHeartbeats 4000000 in
set_option maxRecDepth 100000 in
theorem w_Mo_words_65 {p : Program} {l : Launch} {e : Env} {s : State} {m : MethodId} {args : Array Value} {below : List Frame} {meth : Method} {c : Code} {E : xV} {z : Nat} {r : Int64} {ω1 : xS} (S : CallFix p m c b_Mo_words 6 s args xTbl "RosterRulesModel") (hr : meth.sig.returnType = (some .long)) (hlocks : meth.locks = false) : ∀ n : Nat, ∀ (a0 : Nat) (x1 : Int32) (x2 : Int32) (x3 : Int32) (ω : xS) (H : Heap) (locs : List Loc) (ls : Array Slot), xW E z ω s s.heap H locs → lv_has ls 6 [(0, .ref a0), (1, .int x1), (2, .int x2), (3, .int x3)] → f_Mo_words_65 n a0 x1 x2 x3 ω = some (r, ω1) → W p l e (headSpec ws_Mo_words { frames := 1, cells := 0, slots := 0, locals := 21 }).room s m args below meth c H locs 0 0 (MQ below (xQ E (some (.long r)) z ω1) args s 0 0 (fun q => E.2.2 ≤ q)) (F0 m 65 ls []) := by
  intro n
  induction n with
  | zero =>
    intro a0 x1 x2 x3 ω H locs ls hw hl hf
    have h2 : (none : Option (Int64 × xS)) = some (r, ω1) := hf
    cases h2
  | succ n ih =>
    intro a0 x1 x2 x3 ω H locs ls hw hl hf
    rw [f_Mo_words_65] at hf
    refine lv_iload_n S.1 S.2.1 d_Mo_words_65 rfl (lv_at hl 3 rfl) ?_
    refine lv_iload_n S.1 S.2.1 d_Mo_words_66 rfl (lv_at hl 2 rfl) ?_
    refine lv_icmp_ge (tgt := 208) S.1 S.2.1 d_Mo_words_67 (by decide) (fun c16 => ?_) (fun c16 => ?_)
    · replace hf := xt c16 hf
      refine lv_lconst (v := 0) S.1 S.2.1 d_Mo_words_208 (by decide) ?_
      refine lv_lstore_n (lv' := [(3, .long 0), (0, .ref a0), (1, .int x1), (2, .int x2)]) S.1 S.2.1 d_Mo_words_209 rfl hl (by decide) rfl (fun ls hl => ?_)
      refine lv_iconst (v := 0) S.1 S.2.1 d_Mo_words_210 (by decide) ?_
      refine lv_istore (lv' := [(5, .int 0), (3, .long 0), (0, .ref a0), (1, .int x1), (2, .int x2)]) S.1 S.2.1 d_Mo_words_211 hl (by decide) rfl (fun ls hl => ?_)
      exact w_Mo_words_213 S hr hlocks  _ _ _ _ _ _ _ _ _ hw (lv_sub hl [2, 3, 1, 0] rfl) hf
    · replace hf := xf c16 hf
      refine lv_iconst (v := 0) S.1 S.2.1 d_Mo_words_70 (by decide) ?_
      refine lv_istore (lv' := [(4, .int 0), (0, .ref a0), (1, .int x1), (2, .int x2), (3, .int x3)]) S.1 S.2.1 d_Mo_words_71 hl (by decide) rfl (fun ls hl => ?_)
      exact w_Mo_words_73 S hr hlocks ih _ _ _ _ _ _ _ _ _ _ hw (lv_sub hl [1, 2, 3, 4, 0] rfl) hf
def f_Mo_words_32 : Nat → Nat → Int32 → Int32 → Int32 → xS → Option (Int64 × xS)
  | 0, _, _, _, _, _ => none
  | n + 1, a0, x1, x2, x3, ω =>
    (xgr ω a0 12 26).bind fun t9 =>
    (xai ω t9 x1).bind fun t10 =>
    if t10 ≤ x3 then (
      f_Mo_words_65  xFU a0 x1 x2 0 ω)
    else (
      (xgr ω a0 12 63).bind fun t12 =>
      if x3 = 0 then (
        (xsl ω t12 x3 1).bind fun w15 =>
        f_Mo_words_32  n a0 x1 x2 (x3 + 1) w15)
      else (
        (xsl ω t12 x3 0).bind fun w14 =>
        f_Mo_words_32  n a0 x1 x2 (x3 + 1) w14))
set_option maxHeartbeats 4000000 in
set_option maxRecDepth 100000 in
theorem w_Mo_words_32 {p : Program} {l : Launch} {e : Env} {s : State} {m : MethodId} {args : Array Value} {below : List Frame} {meth : Method} {c : Code} {E : xV} {z : Nat} {r : Int64} {ω1 : xS} (S : CallFix p m c b_Mo_words 6 s args xTbl "RosterRulesModel") (hr : meth.sig.returnType = (some .long)) (hlocks : meth.locks = false) : ∀ n : Nat, ∀ (a0 : Nat) (x1 : Int32) (x2 : Int32) (x3 : Int32) (ω : xS) (H : Heap) (locs : List Loc) (ls : Array Slot), xW E z ω s s.heap H locs → lv_has ls 6 [(0, .ref a0), (1, .int x1), (2, .int x2), (3, .int x3)] → f_Mo_words_32 n a0 x1 x2 x3 ω = some (r, ω1) → W p l e (headSpec ws_Mo_words { frames := 1, cells := 0, slots := 0, locals := 21 }).room s m args below meth c H locs 0 0 (MQ below (xQ E (some (.long r)) z ω1) args s 0 0 (fun q => E.2.2 ≤ q)) (F0 m 32 ls []) := by
  intro n
  induction n with
  | zero =>
    intro a0 x1 x2 x3 ω H locs ls hw hl hf
    have h2 : (none : Option (Int64 × xS)) = some (r, ω1) := hf
    cases h2
  | succ n ih =>
    intro a0 x1 x2 x3 ω H locs ls hw hl hf
    rw [f_Mo_words_32] at hf
    refine lv_iload_n S.1 S.2.1 d_Mo_words_32 rfl (lv_at hl 3 rfl) ?_
    refine lv_aload_n S.1 S.2.1 d_Mo_words_33 rfl (lv_at hl 0 rfl) ?_
    obtain ⟨t9, ht9, hf⟩ := xb hf
    refine x_getr S hw lk_Mo_79 ht9 d_Mo_words_34 ?_
    refine lv_iload_n S.1 S.2.1 d_Mo_words_37 rfl (lv_at hl 1 rfl) ?_
    obtain ⟨t10, ht10, hf⟩ := xb hf
    refine x_iald S hw ht10 d_Mo_words_38 ?_
    refine lv_icmp_ge (tgt := 63) S.1 S.2.1 d_Mo_words_39 (by decide) (fun c11 => ?_) (fun c11 => ?_)
    · replace hf := xt c11 hf
      refine lv_iconst (v := 0) S.1 S.2.1 d_Mo_words_63 (by decide) ?_
      refine lv_istore_n (lv' := [(3, .int 0), (0, .ref a0), (1, .int x1), (2, .int x2)]) S.1 S.2.1 d_Mo_words_64 rfl hl (by decide) rfl (fun ls hl => ?_)
      exact w_Mo_words_65 S hr hlocks  _ _ _ _ _ _ _ _ _ hw (lv_sub hl [1, 2, 3, 0] rfl) hf
    · replace hf := xf c11 hf
      refine lv_aload_n S.1 S.2.1 d_Mo_words_42 rfl (lv_at hl 0 rfl) ?_
      obtain ⟨t12, ht12, hf⟩ := xb hf
      refine x_getr S hw lk_Mo_150 ht12 d_Mo_words_43 ?_
      refine lv_iload_n S.1 S.2.1 d_Mo_words_46 rfl (lv_at hl 3 rfl) ?_
      refine lv_iload_n S.1 S.2.1 d_Mo_words_47 rfl (lv_at hl 3 rfl) ?_
      refine lv_if_ne (tgt := 55) S.1 S.2.1 d_Mo_words_48 (by decide) (fun c13 => ?_) (fun c13 => ?_)
      · replace hf := xf c13 hf
        refine lv_lconst (v := 0) S.1 S.2.1 d_Mo_words_55 (by decide) ?_
        obtain ⟨w14, hw14, hf⟩ := xb hf
        refine x_last S hw hw14 d_Mo_words_56 (fun H locs hw => ?_)
        refine lv_iinc (v := (x3 + 1)) (lv' := [(3, .int (x3 + 1)), (0, .ref a0), (1, .int x1), (2, .int x2)]) S.1 S.2.1 d_Mo_words_57 hl (k := 3) rfl rfl (by decide) rfl (fun ls hl => ?_)
        refine lv_goto (tgt := 32) S.1 S.2.1 d_Mo_words_60 (by decide) ?_
        exact ih _ _ _ _ _ _ _ _ hw (lv_sub hl [1, 2, 3, 0] rfl) hf
      · replace hf := xt c13 hf
        refine lv_lconst (v := 1) S.1 S.2.1 d_Mo_words_51 (by decide) ?_
        refine lv_goto (tgt := 56) S.1 S.2.1 d_Mo_words_52 (by decide) ?_
        obtain ⟨w15, hw15, hf⟩ := xb hf
        refine x_last S hw hw15 d_Mo_words_56 (fun H locs hw => ?_)
        refine lv_iinc (v := (x3 + 1)) (lv' := [(3, .int (x3 + 1)), (0, .ref a0), (1, .int x1), (2, .int x2)]) S.1 S.2.1 d_Mo_words_57 hl (k := 3) rfl rfl (by decide) rfl (fun ls hl => ?_)
        refine lv_goto (tgt := 32) S.1 S.2.1 d_Mo_words_60 (by decide) ?_
        exact ih _ _ _ _ _ _ _ _ hw (lv_sub hl [1, 2, 3, 0] rfl) hf
def f_Mo_words (a0 : Nat) (x1 : Int32) (x2 : Int32) (ω : xS) : Option (Int64 × xS) :=
  (xk ω a0 12 (f_Mo_isLaw a0 x1 ω)).bind fun t2 =>
  if t2 = 0 then (
    some ((-1), ω))
  else (
    (xk ω a0 12 (f_Mo_hasPattern a0 x1 ω)).bind fun t5 =>
    if t5 = 0 then (
      some ((-1), ω))
    else (
      if x2 < 0 then (
        some ((-1), ω))
      else (
        if x2 ≤ 40 then (
          f_Mo_words_32  xFU a0 x1 x2 0 ω)
        else (
          some ((-1), ω)))))
set_option maxHeartbeats 4000000 in
set_option maxRecDepth 100000 in
theorem c_Mo_words {l : Launch} {E : xV} {z : Nat} {a0 : Nat} {x1 : Int32} {x2 : Int32} {r : Int64} {ω1 : xS} {ω : xS} (hf : f_Mo_words a0 x1 x2 ω = some (r, ω1)) : xM l E y_Mo_words ws_Mo_words { frames := 1, cells := 0, slots := 0, locals := 21 } [.ref a0, .int x1, .int x2] z ω (some (.long r)) z ω1 := by
  refine x_start (cc := b_Mo_words) (maxL := 6) (ret := (some .long)) (by decide) rfl (Nat.le_of_ble_eq_true rfl) ?_
  intro p e s m below meth c S hr hlocks hin ls hl hw
  have hl : lv_has ls 6 [(0, .ref a0), (1, .int x1), (2, .int x2)] := hl
  unfold f_Mo_words at hf
  refine lv_aload_n S.1 S.2.1 d_Mo_words_0 rfl (lv_at hl 0 rfl) ?_
  refine lv_iload_n S.1 S.2.1 d_Mo_words_1 rfl (lv_at hl 1 rfl) ?_
  obtain ⟨t2, h1, hf⟩ := xb hf
  obtain ⟨h1b, h1⟩ := xkb h1
  refine x_callV (As := [.int x1]) (rest := []) (st1 := [.int t2]) S hw (c_Mo_isLaw h1) (cwV 1 S.2.2.2.2 gv_Mo_399 rfl rfl rfl hd_Mo_isLaw ⟨Nat.le_of_ble_eq_true rfl, Nat.le_of_ble_eq_true rfl⟩) rfl h1b rfl hl.1 rfl rfl (Nat.le_of_ble_eq_true rfl) d_Mo_words_2 ⟨Nat.le_of_ble_eq_true rfl, Nat.le_of_ble_eq_true rfl⟩ (fun H locs hw => ?_)
  refine lv_if_eq (tgt := 26) S.1 S.2.1 d_Mo_words_5 (by decide) (fun c3 => ?_) (fun c3 => ?_)
  · replace hf := xt c3 hf
    refine lv_ldc2 (v := (-1)) S.1 S.2.1 S.2.2.2.1 (S.2.2.2.2 _ wd_6_125) d_Mo_words_26 ?_
    obtain ⟨rfl, rfl⟩ := xe2 hf
    exact x_lret S hr hlocks hw d_Mo_words_29
  · replace hf := xf c3 hf
    refine lv_aload_n S.1 S.2.1 d_Mo_words_8 rfl (lv_at hl 0 rfl) ?_
    refine lv_iload_n S.1 S.2.1 d_Mo_words_9 rfl (lv_at hl 1 rfl) ?_
    obtain ⟨t5, h4, hf⟩ := xb hf
    obtain ⟨h4b, h4⟩ := xkb h4
    refine x_callV (As := [.int x1]) (rest := []) (st1 := [.int t5]) S hw (c_Mo_hasPattern h4) (cwV 1 S.2.2.2.2 gv_Mo_402 rfl rfl rfl hd_Mo_hasPattern ⟨Nat.le_of_ble_eq_true rfl, Nat.le_of_ble_eq_true rfl⟩) rfl h4b rfl hl.1 rfl rfl (Nat.le_of_ble_eq_true rfl) d_Mo_words_10 ⟨Nat.le_of_ble_eq_true rfl, Nat.le_of_ble_eq_true rfl⟩ (fun H locs hw => ?_)
    refine lv_if_eq (tgt := 26) S.1 S.2.1 d_Mo_words_13 (by decide) (fun c6 => ?_) (fun c6 => ?_)
    · replace hf := xt c6 hf
      refine lv_ldc2 (v := (-1)) S.1 S.2.1 S.2.2.2.1 (S.2.2.2.2 _ wd_6_125) d_Mo_words_26 ?_
      obtain ⟨rfl, rfl⟩ := xe2 hf
      exact x_lret S hr hlocks hw d_Mo_words_29
    · replace hf := xf c6 hf
      refine lv_iload_n S.1 S.2.1 d_Mo_words_16 rfl (lv_at hl 2 rfl) ?_
      refine lv_if_lt (tgt := 26) S.1 S.2.1 d_Mo_words_17 (by decide) (fun c7 => ?_) (fun c7 => ?_)
      · replace hf := xt c7 hf
        refine lv_ldc2 (v := (-1)) S.1 S.2.1 S.2.2.2.1 (S.2.2.2.2 _ wd_6_125) d_Mo_words_26 ?_
        obtain ⟨rfl, rfl⟩ := xe2 hf
        exact x_lret S hr hlocks hw d_Mo_words_29
      · replace hf := xf c7 hf
        refine lv_iload_n S.1 S.2.1 d_Mo_words_20 rfl (lv_at hl 2 rfl) ?_
        refine lv_bipush (v := 40) S.1 S.2.1 d_Mo_words_21 (by decide) ?_
        refine lv_icmp_le (tgt := 30) S.1 S.2.1 d_Mo_words_23 (by decide) (fun c8 => ?_) (fun c8 => ?_)
        · replace hf := xt c8 hf
          refine lv_iconst (v := 0) S.1 S.2.1 d_Mo_words_30 (by decide) ?_
          refine lv_istore_n (lv' := [(3, .int 0), (0, .ref a0), (1, .int x1), (2, .int x2)]) S.1 S.2.1 d_Mo_words_31 rfl hl (by decide) rfl (fun ls hl => ?_)
          exact w_Mo_words_32 S hr hlocks  _ _ _ _ _ _ _ _ _ hw (lv_sub hl [1, 2, 3, 0] rfl) hf
        · replace hf := xf c8 hf
          refine lv_ldc2 (v := (-1)) S.1 S.2.1 S.2.2.2.1 (S.2.2.2.2 _ wd_6_125) d_Mo_words_26 ?_
          obtain ⟨rfl, rfl⟩ := xe2 hf
          exact x_lret S hr hlocks hw d_Mo_words_29
