def f_Roster_gap (a0 : Nat) (x1 : Int32) (x2 : Int32) (x3 : Int32) (ω : xS) : Option Int32 :=
  (xgr ω a0 8 2).bind fun t1 =>
  (xai ω t1 x2).bind fun t2 =>
  (xgr ω a0 8 2).bind fun t3 =>
  (xai ω t3 x1).bind fun t4 =>
  (xgr ω a0 8 3).bind fun t5 =>
  (xai ω t5 x1).bind fun t6 =>
  some ((((x3 * 1440) + t2) - t4) - t6)
set_option maxHeartbeats 4000000 in
set_option maxRecDepth 100000 in
theorem c_Roster_gap {l : Launch} {E : xV} {z : Nat} {a0 : Nat} {x1 : Int32} {x2 : Int32} {x3 : Int32} {r : Int32} {ω : xS} (hf : f_Roster_gap a0 x1 x2 x3 ω = some r) : xM l E y_Roster_gap ws_Roster_gap { frames := 0, cells := 0, slots := 0, locals := 0 } [.ref a0, .int x1, .int x2, .int x3] z ω (some (.int r)) z ω := by
  refine x_start (cc := b_Roster_gap) (maxL := 4) (ret := (some .int)) (by decide) rfl (Nat.le_of_ble_eq_true rfl) ?_
  intro p e s m below meth c S hr hlocks hin ls hl hw
  have hl : lv_has ls 4 [(0, .ref a0), (1, .int x1), (2, .int x2), (3, .int x3)] := hl
  unfold f_Roster_gap at hf
  refine lv_iload_n S.1 S.2.1 d_Roster_gap_0 rfl (lv_at hl 3 rfl) ?_
  refine lv_sipush (v := 1440) S.1 S.2.1 d_Roster_gap_1 (by decide) ?_
  refine lv_imul S.1 S.2.1 d_Roster_gap_4 ?_
  refine lv_aload_n S.1 S.2.1 d_Roster_gap_5 rfl (lv_at hl 0 rfl) ?_
  obtain ⟨t1, ht1, hf⟩ := xb hf
  refine x_getr S hw lk_Roster_9 ht1 d_Roster_gap_6 ?_
  refine lv_iload_n S.1 S.2.1 d_Roster_gap_9 rfl (lv_at hl 2 rfl) ?_
  obtain ⟨t2, ht2, hf⟩ := xb hf
  refine x_iald S hw ht2 d_Roster_gap_10 ?_
  refine lv_iadd S.1 S.2.1 d_Roster_gap_11 ?_
  refine lv_aload_n S.1 S.2.1 d_Roster_gap_12 rfl (lv_at hl 0 rfl) ?_
  obtain ⟨t3, ht3, hf⟩ := xb hf
  refine x_getr S hw lk_Roster_9 ht3 d_Roster_gap_13 ?_
  refine lv_iload_n S.1 S.2.1 d_Roster_gap_16 rfl (lv_at hl 1 rfl) ?_
  obtain ⟨t4, ht4, hf⟩ := xb hf
  refine x_iald S hw ht4 d_Roster_gap_17 ?_
  refine lv_isub S.1 S.2.1 d_Roster_gap_18 ?_
  refine lv_aload_n S.1 S.2.1 d_Roster_gap_19 rfl (lv_at hl 0 rfl) ?_
  obtain ⟨t5, ht5, hf⟩ := xb hf
  refine x_getr S hw lk_Roster_15 ht5 d_Roster_gap_20 ?_
  refine lv_iload_n S.1 S.2.1 d_Roster_gap_23 rfl (lv_at hl 1 rfl) ?_
  obtain ⟨t6, ht6, hf⟩ := xb hf
  refine x_iald S hw ht6 d_Roster_gap_24 ?_
  refine lv_isub S.1 S.2.1 d_Roster_gap_25 ?_
  obtain rfl := xe1 hf
  exact x_iret S hr hlocks hw d_Roster_gap_26
def f_Judge_shortRests_19 : Nat → Nat → Int32 → Nat → Int64 → Int32 → Int32 → xS → Option Int64
  | 0, _, _, _, _, _, _, _ => none
  | n + 1, a0, x1, a3, x4, x6, x7, ω =>
    (xan ω a3).bind fun t4 =>
    if t4 ≤ x7 then (
      some x4)
    else (
      (xai ω a3 x7).bind fun t6 =>
      if t6 = 0 then (
        f_Judge_shortRests_19  n a0 x1 a3 x4 x6 (x7 + 1) ω)
      else (
        if x7 < 7 then (
          f_Judge_shortRests_19  n a0 x1 a3 x4 x7 (x7 + 1) ω)
        else (
          if x6 < 0 then (
            f_Judge_shortRests_19  n a0 x1 a3 x4 x7 (x7 + 1) ω)
          else (
            (xgr ω a0 3 0).bind fun t10 =>
            (xai ω a3 x6).bind fun t11 =>
            (xai ω a3 x7).bind fun t12 =>
            (xk ω t10 8 (f_Roster_gap t10 t11 t12 (x7 - x6) ω)).bind fun t14 =>
            if x1 ≤ t14 then (
              f_Judge_shortRests_19  n a0 x1 a3 x4 x7 (x7 + 1) ω)
            else (
              f_Judge_shortRests_19  n a0 x1 a3 (x4 + 1) x7 (x7 + 1) ω)))))
set_option maxHeartbeats 4000000 in
set_option maxRecDepth 100000 in
theorem w_Judge_shortRests_19 {p : Program} {l : Launch} {e : Env} {s : State} {m : MethodId} {args : Array Value} {below : List Frame} {meth : Method} {c : Code} {E : xV} {z : Nat} {r : Int64} {ω : xS} (S : CallFix p m c b_Judge_shortRests 8 s args xTbl "RosterRules$Judge") (hr : meth.sig.returnType = (some .long)) (hlocks : meth.locks = false) : ∀ n : Nat, ∀ (a0 : Nat) (x1 : Int32) (a3 : Nat) (x4 : Int64) (x6 : Int32) (x7 : Int32) (H : Heap) (locs : List Loc) (ls : Array Slot), xW E z ω s s.heap H locs → lv_has ls 8 [(0, .ref a0), (1, .int x1), (3, .ref a3), (4, .long x4), (6, .int x6), (7, .int x7)] → f_Judge_shortRests_19 n a0 x1 a3 x4 x6 x7 ω = some r → W p l e (headSpec ws_Judge_shortRests { frames := 1, cells := 0, slots := 0, locals := 23 }).room s m args below meth c H locs 0 0 (MQ below (xQ E (some (.long r)) z ω) args s 0 0 (fun q => E.2.2 ≤ q)) (F0 m 19 ls []) := by
  intro n
  induction n with
  | zero =>
    intro a0 x1 a3 x4 x6 x7 H locs ls hw hl hf
    have h2 : (none : Option Int64) = some r := hf
    cases h2
  | succ n ih =>
    intro a0 x1 a3 x4 x6 x7 H locs ls hw hl hf
    rw [f_Judge_shortRests_19] at hf
    refine lv_iload S.1 S.2.1 d_Judge_shortRests_19 (lv_at hl 5 rfl) ?_
    refine lv_aload_n S.1 S.2.1 d_Judge_shortRests_21 rfl (lv_at hl 2 rfl) ?_
    obtain ⟨t4, ht4, hf⟩ := xb hf
    refine x_alen S hw ht4 d_Judge_shortRests_22 ?_
    refine lv_icmp_ge (tgt := 88) S.1 S.2.1 d_Judge_shortRests_23 (by decide) (fun c5 => ?_) (fun c5 => ?_)
    · replace hf := xt c5 hf
      refine lv_lload S.1 S.2.1 d_Judge_shortRests_88 (lv_at hl 3 rfl) ?_
      obtain rfl := xe1 hf
      exact x_lret S hr hlocks hw d_Judge_shortRests_90
    · replace hf := xf c5 hf
      refine lv_aload_n S.1 S.2.1 d_Judge_shortRests_26 rfl (lv_at hl 2 rfl) ?_
      refine lv_iload S.1 S.2.1 d_Judge_shortRests_27 (lv_at hl 5 rfl) ?_
      obtain ⟨t6, ht6, hf⟩ := xb hf
      refine x_iald S hw ht6 d_Judge_shortRests_29 ?_
      refine lv_if_ne (tgt := 36) S.1 S.2.1 d_Judge_shortRests_30 (by decide) (fun c7 => ?_) (fun c7 => ?_)
      · replace hf := xf c7 hf
        refine lv_iload S.1 S.2.1 d_Judge_shortRests_36 (lv_at hl 5 rfl) ?_
        refine lv_bipush (v := 7) S.1 S.2.1 d_Judge_shortRests_38 (by decide) ?_
        refine lv_icmp_lt (tgt := 78) S.1 S.2.1 d_Judge_shortRests_40 (by decide) (fun c8 => ?_) (fun c8 => ?_)
        · replace hf := xt c8 hf
          refine lv_iload S.1 S.2.1 d_Judge_shortRests_78 (lv_at hl 5 rfl) ?_
          refine lv_istore (lv' := [(6, .int x7), (0, .ref a0), (1, .int x1), (3, .ref a3), (4, .long x4), (7, .int x7)]) S.1 S.2.1 d_Judge_shortRests_80 hl (by decide) rfl (fun ls hl => ?_)
          refine lv_iinc (v := (x7 + 1)) (lv' := [(7, .int (x7 + 1)), (6, .int x7), (0, .ref a0), (1, .int x1), (3, .ref a3), (4, .long x4)]) S.1 S.2.1 d_Judge_shortRests_82 hl (k := 5) rfl rfl (by decide) rfl (fun ls hl => ?_)
          refine lv_goto (tgt := 19) S.1 S.2.1 d_Judge_shortRests_85 (by decide) ?_
          exact ih _ _ _ _ _ _ _ _ _ hw (lv_sub hl [2, 3, 4, 5, 1, 0] rfl) hf
        · replace hf := xf c8 hf
          refine lv_iload S.1 S.2.1 d_Judge_shortRests_43 (lv_at hl 4 rfl) ?_
          refine lv_if_lt (tgt := 78) S.1 S.2.1 d_Judge_shortRests_45 (by decide) (fun c9 => ?_) (fun c9 => ?_)
          · replace hf := xt c9 hf
            refine lv_iload S.1 S.2.1 d_Judge_shortRests_78 (lv_at hl 5 rfl) ?_
            refine lv_istore (lv' := [(6, .int x7), (0, .ref a0), (1, .int x1), (3, .ref a3), (4, .long x4), (7, .int x7)]) S.1 S.2.1 d_Judge_shortRests_80 hl (by decide) rfl (fun ls hl => ?_)
            refine lv_iinc (v := (x7 + 1)) (lv' := [(7, .int (x7 + 1)), (6, .int x7), (0, .ref a0), (1, .int x1), (3, .ref a3), (4, .long x4)]) S.1 S.2.1 d_Judge_shortRests_82 hl (k := 5) rfl rfl (by decide) rfl (fun ls hl => ?_)
            refine lv_goto (tgt := 19) S.1 S.2.1 d_Judge_shortRests_85 (by decide) ?_
            exact ih _ _ _ _ _ _ _ _ _ hw (lv_sub hl [2, 3, 4, 5, 1, 0] rfl) hf
          · replace hf := xf c9 hf
            refine lv_aload_n S.1 S.2.1 d_Judge_shortRests_48 rfl (lv_at hl 0 rfl) ?_
            obtain ⟨t10, ht10, hf⟩ := xb hf
            refine x_getr S hw lk_Judge_9 ht10 d_Judge_shortRests_49 ?_
            refine lv_aload_n S.1 S.2.1 d_Judge_shortRests_52 rfl (lv_at hl 2 rfl) ?_
            refine lv_iload S.1 S.2.1 d_Judge_shortRests_53 (lv_at hl 4 rfl) ?_
            obtain ⟨t11, ht11, hf⟩ := xb hf
            refine x_iald S hw ht11 d_Judge_shortRests_55 ?_
            refine lv_aload_n S.1 S.2.1 d_Judge_shortRests_56 rfl (lv_at hl 2 rfl) ?_
            refine lv_iload S.1 S.2.1 d_Judge_shortRests_57 (lv_at hl 5 rfl) ?_
            obtain ⟨t12, ht12, hf⟩ := xb hf
            refine x_iald S hw ht12 d_Judge_shortRests_59 ?_
            refine lv_iload S.1 S.2.1 d_Judge_shortRests_60 (lv_at hl 5 rfl) ?_
            refine lv_iload S.1 S.2.1 d_Judge_shortRests_62 (lv_at hl 4 rfl) ?_
            refine lv_isub S.1 S.2.1 d_Judge_shortRests_64 ?_
            obtain ⟨t14, h13, hf⟩ := xb hf
            obtain ⟨h13b, h13⟩ := xkb h13
            refine x_callV (As := [.int t11, .int t12, .int (x7 - x6)]) (rest := []) (st1 := [.int t14]) S hw (c_Roster_gap h13) (cwV 3 S.2.2.2.2 gv_Judge_111 rfl rfl rfl hd_Roster_gap ⟨Nat.le_of_ble_eq_true rfl, Nat.le_of_ble_eq_true rfl⟩) rfl h13b rfl hl.1 rfl rfl (Nat.le_of_ble_eq_true rfl) d_Judge_shortRests_65 ⟨Nat.le_of_ble_eq_true rfl, Nat.le_of_ble_eq_true rfl⟩ (fun H locs hw => ?_)
            refine lv_iload_n S.1 S.2.1 d_Judge_shortRests_68 rfl (lv_at hl 1 rfl) ?_
            refine lv_icmp_ge (tgt := 78) S.1 S.2.1 d_Judge_shortRests_69 (by decide) (fun c15 => ?_) (fun c15 => ?_)
            · replace hf := xt c15 hf
              refine lv_iload S.1 S.2.1 d_Judge_shortRests_78 (lv_at hl 5 rfl) ?_
              refine lv_istore (lv' := [(6, .int x7), (0, .ref a0), (1, .int x1), (3, .ref a3), (4, .long x4), (7, .int x7)]) S.1 S.2.1 d_Judge_shortRests_80 hl (by decide) rfl (fun ls hl => ?_)
              refine lv_iinc (v := (x7 + 1)) (lv' := [(7, .int (x7 + 1)), (6, .int x7), (0, .ref a0), (1, .int x1), (3, .ref a3), (4, .long x4)]) S.1 S.2.1 d_Judge_shortRests_82 hl (k := 5) rfl rfl (by decide) rfl (fun ls hl => ?_)
              refine lv_goto (tgt := 19) S.1 S.2.1 d_Judge_shortRests_85 (by decide) ?_
              exact ih _ _ _ _ _ _ _ _ _ hw (lv_sub hl [2, 3, 4, 5, 1, 0] rfl) hf
            · replace hf := xf c15 hf
              refine lv_lload S.1 S.2.1 d_Judge_shortRests_72 (lv_at hl 3 rfl) ?_
              refine lv_lconst (v := 1) S.1 S.2.1 d_Judge_shortRests_74 (by decide) ?_
              refine lv_ladd S.1 S.2.1 d_Judge_shortRests_75 ?_
              refine lv_lstore (lv' := [(4, .long (x4 + 1)), (0, .ref a0), (1, .int x1), (3, .ref a3), (6, .int x6), (7, .int x7)]) S.1 S.2.1 d_Judge_shortRests_76 hl (by decide) rfl (fun ls hl => ?_)
              refine lv_iload S.1 S.2.1 d_Judge_shortRests_78 (lv_at hl 5 rfl) ?_
              refine lv_istore (lv' := [(6, .int x7), (4, .long (x4 + 1)), (0, .ref a0), (1, .int x1), (3, .ref a3), (7, .int x7)]) S.1 S.2.1 d_Judge_shortRests_80 hl (by decide) rfl (fun ls hl => ?_)
              refine lv_iinc (v := (x7 + 1)) (lv' := [(7, .int (x7 + 1)), (6, .int x7), (4, .long (x4 + 1)), (0, .ref a0), (1, .int x1), (3, .ref a3)]) S.1 S.2.1 d_Judge_shortRests_82 hl (k := 5) rfl rfl (by decide) rfl (fun ls hl => ?_)
              refine lv_goto (tgt := 19) S.1 S.2.1 d_Judge_shortRests_85 (by decide) ?_
              exact ih _ _ _ _ _ _ _ _ _ hw (lv_sub hl [3, 4, 5, 2, 1, 0] rfl) hf
      · replace hf := xt c7 hf
        refine lv_goto (tgt := 82) S.1 S.2.1 d_Judge_shortRests_33 (by decide) ?_
        refine lv_iinc (v := (x7 + 1)) (lv' := [(7, .int (x7 + 1)), (0, .ref a0), (1, .int x1), (3, .ref a3), (4, .long x4), (6, .int x6)]) S.1 S.2.1 d_Judge_shortRests_82 hl (k := 5) rfl rfl (by decide) rfl (fun ls hl => ?_)
        refine lv_goto (tgt := 19) S.1 S.2.1 d_Judge_shortRests_85 (by decide) ?_
        exact ih _ _ _ _ _ _ _ _ _ hw (lv_sub hl [1, 2, 3, 4, 5, 0] rfl) hf
def f_Judge_shortRests (a0 : Nat) (x1 : Int32) (x2 : Int32) (ω : xS) : Option Int64 :=
  (xgr ω a0 3 0).bind fun t1 =>
  (xgr ω t1 8 6).bind fun t2 =>
  (xar ω 2 t2 x2).bind fun t3 =>
  f_Judge_shortRests_19  xFU a0 x1 t3 0 (-1) 0 ω
set_option maxHeartbeats 4000000 in
set_option maxRecDepth 100000 in
theorem c_Judge_shortRests {l : Launch} {E : xV} {z : Nat} {a0 : Nat} {x1 : Int32} {x2 : Int32} {r : Int64} {ω : xS} (hf : f_Judge_shortRests a0 x1 x2 ω = some r) : xM l E y_Judge_shortRests ws_Judge_shortRests { frames := 1, cells := 0, slots := 0, locals := 23 } [.ref a0, .int x1, .int x2] z ω (some (.long r)) z ω := by
  refine x_start (cc := b_Judge_shortRests) (maxL := 8) (ret := (some .long)) (by decide) rfl (Nat.le_of_ble_eq_true rfl) ?_
  intro p e s m below meth c S hr hlocks hin ls hl hw
  have hl : lv_has ls 8 [(0, .ref a0), (1, .int x1), (2, .int x2)] := hl
  unfold f_Judge_shortRests at hf
  refine lv_aload_n S.1 S.2.1 d_Judge_shortRests_0 rfl (lv_at hl 0 rfl) ?_
  obtain ⟨t1, ht1, hf⟩ := xb hf
  refine x_getr S hw lk_Judge_9 ht1 d_Judge_shortRests_1 ?_
  obtain ⟨t2, ht2, hf⟩ := xb hf
  refine x_getr S hw lk_Judge_108 ht2 d_Judge_shortRests_4 ?_
  refine lv_iload_n S.1 S.2.1 d_Judge_shortRests_7 rfl (lv_at hl 2 rfl) ?_
  obtain ⟨t3, ht3, hf⟩ := xb hf
  refine x_aald S hw (t := 2) rfl rfl ht3 d_Judge_shortRests_8 ?_
  refine lv_astore_n (lv' := [(3, .ref t3), (0, .ref a0), (1, .int x1), (2, .int x2)]) S.1 S.2.1 d_Judge_shortRests_9 rfl hl (by decide) rfl (fun ls hl => ?_)
  refine lv_lconst (v := 0) S.1 S.2.1 d_Judge_shortRests_10 (by decide) ?_
  refine lv_lstore (lv' := [(4, .long 0), (3, .ref t3), (0, .ref a0), (1, .int x1), (2, .int x2)]) S.1 S.2.1 d_Judge_shortRests_11 hl (by decide) rfl (fun ls hl => ?_)
  refine lv_iconst (v := (-1)) S.1 S.2.1 d_Judge_shortRests_13 (by decide) ?_
  refine lv_istore (lv' := [(6, .int (-1)), (4, .long 0), (3, .ref t3), (0, .ref a0), (1, .int x1), (2, .int x2)]) S.1 S.2.1 d_Judge_shortRests_14 hl (by decide) rfl (fun ls hl => ?_)
  refine lv_iconst (v := 0) S.1 S.2.1 d_Judge_shortRests_16 (by decide) ?_
  refine lv_istore (lv' := [(7, .int 0), (6, .int (-1)), (4, .long 0), (3, .ref t3), (0, .ref a0), (1, .int x1), (2, .int x2)]) S.1 S.2.1 d_Judge_shortRests_17 hl (by decide) rfl (fun ls hl => ?_)
  exact w_Judge_shortRests_19 S hr hlocks  _ _ _ _ _ _ _ _ _ _ hw (lv_sub hl [4, 5, 3, 2, 1, 0] rfl) hf
def f_Roster_minutesBetween_6 : Nat → Nat → Int32 → Int32 → Int64 → Int32 → xS → Option Int64
  | 0, _, _, _, _, _, _ => none
  | n + 1, a0, x1, x3, x4, x6, ω =>
    if x3 < x6 then (
      some x4)
    else (
      (xgr ω a0 8 3).bind fun t2 =>
      (xk ω a0 8 (f_Roster_letterOf a0 x1 x6 ω)).bind fun t4 =>
      (xai ω t2 t4).bind fun t5 =>
      f_Roster_minutesBetween_6  n a0 x1 x3 (x4 + (Int32.toInt64 t5)) (x6 + 1) ω)
set_option maxHeartbeats 4000000 in
set_option maxRecDepth 100000 in
theorem w_Roster_minutesBetween_6 {p : Program} {l : Launch} {e : Env} {s : State} {m : MethodId} {args : Array Value} {below : List Frame} {meth : Method} {c : Code} {E : xV} {z : Nat} {r : Int64} {ω : xS} (S : CallFix p m c b_Roster_minutesBetween 7 s args xTbl "RosterRules$Roster") (hr : meth.sig.returnType = (some .long)) (hlocks : meth.locks = false) : ∀ n : Nat, ∀ (a0 : Nat) (x1 : Int32) (x3 : Int32) (x4 : Int64) (x6 : Int32) (H : Heap) (locs : List Loc) (ls : Array Slot), xW E z ω s s.heap H locs → lv_has ls 7 [(0, .ref a0), (1, .int x1), (3, .int x3), (4, .long x4), (6, .int x6)] → f_Roster_minutesBetween_6 n a0 x1 x3 x4 x6 ω = some r → W p l e (headSpec ws_Roster_minutesBetween { frames := 1, cells := 0, slots := 0, locals := 22 }).room s m args below meth c H locs 0 0 (MQ below (xQ E (some (.long r)) z ω) args s 0 0 (fun q => E.2.2 ≤ q)) (F0 m 6 ls []) := by
  intro n
  induction n with
  | zero =>
    intro a0 x1 x3 x4 x6 H locs ls hw hl hf
    have h2 : (none : Option Int64) = some r := hf
    cases h2
  | succ n ih =>
    intro a0 x1 x3 x4 x6 H locs ls hw hl hf
    rw [f_Roster_minutesBetween_6] at hf
    refine lv_iload S.1 S.2.1 d_Roster_minutesBetween_6 (lv_at hl 4 rfl) ?_
    refine lv_iload_n S.1 S.2.1 d_Roster_minutesBetween_8 rfl (lv_at hl 2 rfl) ?_
    refine lv_icmp_gt (tgt := 36) S.1 S.2.1 d_Roster_minutesBetween_9 (by decide) (fun c1 => ?_) (fun c1 => ?_)
    · replace hf := xt c1 hf
      refine lv_lload S.1 S.2.1 d_Roster_minutesBetween_36 (lv_at hl 3 rfl) ?_
      obtain rfl := xe1 hf
      exact x_lret S hr hlocks hw d_Roster_minutesBetween_38
    · replace hf := xf c1 hf
      refine lv_lload S.1 S.2.1 d_Roster_minutesBetween_12 (lv_at hl 3 rfl) ?_
      refine lv_aload_n S.1 S.2.1 d_Roster_minutesBetween_14 rfl (lv_at hl 0 rfl) ?_
      obtain ⟨t2, ht2, hf⟩ := xb hf
      refine x_getr S hw lk_Roster_15 ht2 d_Roster_minutesBetween_15 ?_
      refine lv_aload_n S.1 S.2.1 d_Roster_minutesBetween_18 rfl (lv_at hl 0 rfl) ?_
      refine lv_iload_n S.1 S.2.1 d_Roster_minutesBetween_19 rfl (lv_at hl 1 rfl) ?_
      refine lv_iload S.1 S.2.1 d_Roster_minutesBetween_20 (lv_at hl 4 rfl) ?_
      obtain ⟨t4, h3, hf⟩ := xb hf
      obtain ⟨h3b, h3⟩ := xkb h3
      refine x_callV (As := [.int x1, .int x6]) (rest := [.ref t2, .long x4]) (st1 := [.int t4, .ref t2, .long x4]) S hw (c_Roster_letterOf h3) (cwV 2 S.2.2.2.2 gv_Roster_48 rfl rfl rfl hd_Roster_letterOf ⟨Nat.le_of_ble_eq_true rfl, Nat.le_of_ble_eq_true rfl⟩) rfl h3b rfl hl.1 rfl rfl (Nat.le_of_ble_eq_true rfl) d_Roster_minutesBetween_22 ⟨Nat.le_of_ble_eq_true rfl, Nat.le_of_ble_eq_true rfl⟩ (fun H locs hw => ?_)
      obtain ⟨t5, ht5, hf⟩ := xb hf
      refine x_iald S hw ht5 d_Roster_minutesBetween_25 ?_
      refine lv_i2l (v := (Int32.toInt64 t5)) S.1 S.2.1 d_Roster_minutesBetween_26 rfl ?_
      refine lv_ladd S.1 S.2.1 d_Roster_minutesBetween_27 ?_
      refine lv_lstore (lv' := [(4, .long (x4 + (Int32.toInt64 t5))), (0, .ref a0), (1, .int x1), (3, .int x3), (6, .int x6)]) S.1 S.2.1 d_Roster_minutesBetween_28 hl (by decide) rfl (fun ls hl => ?_)
      refine lv_iinc (v := (x6 + 1)) (lv' := [(6, .int (x6 + 1)), (4, .long (x4 + (Int32.toInt64 t5))), (0, .ref a0), (1, .int x1), (3, .int x3)]) S.1 S.2.1 d_Roster_minutesBetween_30 hl (k := 4) rfl rfl (by decide) rfl (fun ls hl => ?_)
      refine lv_goto (tgt := 6) S.1 S.2.1 d_Roster_minutesBetween_33 (by decide) ?_
      exact ih _ _ _ _ _ _ _ _ hw (lv_sub hl [2, 3, 4, 1, 0] rfl) hf
def f_Roster_minutesBetween (a0 : Nat) (x1 : Int32) (x2 : Int32) (x3 : Int32) (ω : xS) : Option Int64 :=
  f_Roster_minutesBetween_6  xFU a0 x1 x3 0 x2 ω
set_option maxHeartbeats 4000000 in
set_option maxRecDepth 100000 in
theorem c_Roster_minutesBetween {l : Launch} {E : xV} {z : Nat} {a0 : Nat} {x1 : Int32} {x2 : Int32} {x3 : Int32} {r : Int64} {ω : xS} (hf : f_Roster_minutesBetween a0 x1 x2 x3 ω = some r) : xM l E y_Roster_minutesBetween ws_Roster_minutesBetween { frames := 1, cells := 0, slots := 0, locals := 22 } [.ref a0, .int x1, .int x2, .int x3] z ω (some (.long r)) z ω := by
  refine x_start (cc := b_Roster_minutesBetween) (maxL := 7) (ret := (some .long)) (by decide) rfl (Nat.le_of_ble_eq_true rfl) ?_
  intro p e s m below meth c S hr hlocks hin ls hl hw
  have hl : lv_has ls 7 [(0, .ref a0), (1, .int x1), (2, .int x2), (3, .int x3)] := hl
  unfold f_Roster_minutesBetween at hf
  refine lv_lconst (v := 0) S.1 S.2.1 d_Roster_minutesBetween_0 (by decide) ?_
  refine lv_lstore (lv' := [(4, .long 0), (0, .ref a0), (1, .int x1), (2, .int x2), (3, .int x3)]) S.1 S.2.1 d_Roster_minutesBetween_1 hl (by decide) rfl (fun ls hl => ?_)
  refine lv_iload_n S.1 S.2.1 d_Roster_minutesBetween_3 rfl (lv_at hl 3 rfl) ?_
  refine lv_istore (lv' := [(6, .int x2), (4, .long 0), (0, .ref a0), (1, .int x1), (2, .int x2), (3, .int x3)]) S.1 S.2.1 d_Roster_minutesBetween_4 hl (by decide) rfl (fun ls hl => ?_)
  exact w_Roster_minutesBetween_6 S hr hlocks  _ _ _ _ _ _ _ _ _ hw (lv_sub hl [2, 3, 5, 1, 0] rfl) hf
def f_Judge_hoursAmiss_33 : Nat → Nat → Nat → Int32 → Int32 → Int64 → Int64 → Int32 → xS → Option Int64
  | 0, _, _, _, _, _, _, _, _ => none
  | n + 1, a0, a1, x2, x4, x5, x7, x9, ω =>
    if x4 < x9 then (
      some x7)
    else (
      (xgr ω a0 3 0).bind fun t8 =>
      (xgr ω t8 8 3).bind fun t9 =>
      (xgr ω a0 3 0).bind fun t10 =>
      (xgi ω a1 4 7).bind fun t11 =>
      (xk ω t10 8 (f_Roster_letterOf t10 x2 ((x9 + t11) - 1) ω)).bind fun t13 =>
      (xai ω t9 t13).bind fun t14 =>
      (xgr ω a0 3 0).bind fun t15 =>
      (xgr ω t15 8 3).bind fun t16 =>
      (xgr ω a0 3 0).bind fun t17 =>
      (xk ω t17 8 (f_Roster_letterOf t17 x2 (x9 - 1) ω)).bind fun t19 =>
      (xai ω t16 t19).bind fun t20 =>
      (xk ω a0 3 (f_Judge_outside a0 (x5 + (Int32.toInt64 (t14 - t20))) a1 ω)).bind fun t22 =>
      f_Judge_hoursAmiss_33  n a0 a1 x2 x4 (x5 + (Int32.toInt64 (t14 - t20))) (x7 + t22) (x9 + 1) ω)
set_option maxHeartbeats 4000000 in
set_option maxRecDepth 100000 in
theorem w_Judge_hoursAmiss_33 {p : Program} {l : Launch} {e : Env} {s : State} {m : MethodId} {args : Array Value} {below : List Frame} {meth : Method} {c : Code} {E : xV} {z : Nat} {r : Int64} {ω : xS} (S : CallFix p m c b_Judge_hoursAmiss 10 s args xTbl "RosterRules$Judge") (hr : meth.sig.returnType = (some .long)) (hlocks : meth.locks = false) : ∀ n : Nat, ∀ (a0 : Nat) (a1 : Nat) (x2 : Int32) (x4 : Int32) (x5 : Int64) (x7 : Int64) (x9 : Int32) (H : Heap) (locs : List Loc) (ls : Array Slot), xW E z ω s s.heap H locs → lv_has ls 10 [(0, .ref a0), (1, .ref a1), (2, .int x2), (4, .int x4), (5, .long x5), (7, .long x7), (9, .int x9)] → f_Judge_hoursAmiss_33 n a0 a1 x2 x4 x5 x7 x9 ω = some r → W p l e (headSpec ws_Judge_hoursAmiss { frames := 2, cells := 0, slots := 0, locals := 48 }).room s m args below meth c H locs 0 0 (MQ below (xQ E (some (.long r)) z ω) args s 0 0 (fun q => E.2.2 ≤ q)) (F0 m 33 ls []) := by
  intro n
  induction n with
  | zero =>
    intro a0 a1 x2 x4 x5 x7 x9 H locs ls hw hl hf
    have h2 : (none : Option Int64) = some r := hf
    cases h2
  | succ n ih =>
    intro a0 a1 x2 x4 x5 x7 x9 H locs ls hw hl hf
    rw [f_Judge_hoursAmiss_33] at hf
    refine lv_iload S.1 S.2.1 d_Judge_hoursAmiss_33 (lv_at hl 6 rfl) ?_
    refine lv_iload S.1 S.2.1 d_Judge_hoursAmiss_35 (lv_at hl 3 rfl) ?_
    refine lv_icmp_gt (tgt := 110) S.1 S.2.1 d_Judge_hoursAmiss_37 (by decide) (fun c7 => ?_) (fun c7 => ?_)
    · replace hf := xt c7 hf
      refine lv_lload S.1 S.2.1 d_Judge_hoursAmiss_110 (lv_at hl 5 rfl) ?_
      obtain rfl := xe1 hf
      exact x_lret S hr hlocks hw d_Judge_hoursAmiss_112
    · replace hf := xf c7 hf
      refine lv_lload S.1 S.2.1 d_Judge_hoursAmiss_40 (lv_at hl 4 rfl) ?_
      refine lv_aload_n S.1 S.2.1 d_Judge_hoursAmiss_42 rfl (lv_at hl 0 rfl) ?_
      obtain ⟨t8, ht8, hf⟩ := xb hf
      refine x_getr S hw lk_Judge_9 ht8 d_Judge_hoursAmiss_43 ?_
      obtain ⟨t9, ht9, hf⟩ := xb hf
      refine x_getr S hw lk_Judge_118 ht9 d_Judge_hoursAmiss_46 ?_
      refine lv_aload_n S.1 S.2.1 d_Judge_hoursAmiss_49 rfl (lv_at hl 0 rfl) ?_
      obtain ⟨t10, ht10, hf⟩ := xb hf
      refine x_getr S hw lk_Judge_9 ht10 d_Judge_hoursAmiss_50 ?_
      refine lv_iload_n S.1 S.2.1 d_Judge_hoursAmiss_53 rfl (lv_at hl 2 rfl) ?_
      refine lv_iload S.1 S.2.1 d_Judge_hoursAmiss_54 (lv_at hl 6 rfl) ?_
      refine lv_aload_n S.1 S.2.1 d_Judge_hoursAmiss_56 rfl (lv_at hl 1 rfl) ?_
      obtain ⟨t11, ht11, hf⟩ := xb hf
      refine x_geti S hw lk_Judge_54 ht11 d_Judge_hoursAmiss_57 ?_
      refine lv_iadd S.1 S.2.1 d_Judge_hoursAmiss_60 ?_
      refine lv_iconst (v := 1) S.1 S.2.1 d_Judge_hoursAmiss_61 (by decide) ?_
      refine lv_isub S.1 S.2.1 d_Judge_hoursAmiss_62 ?_
      obtain ⟨t13, h12, hf⟩ := xb hf
      obtain ⟨h12b, h12⟩ := xkb h12
      refine x_callV (As := [.int x2, .int ((x9 + t11) - 1)]) (rest := [.ref t9, .long x5]) (st1 := [.int t13, .ref t9, .long x5]) S hw (c_Roster_letterOf h12) (cwV 2 S.2.2.2.2 gv_Judge_98 rfl rfl rfl hd_Roster_letterOf ⟨Nat.le_of_ble_eq_true rfl, Nat.le_of_ble_eq_true rfl⟩) rfl h12b rfl hl.1 rfl rfl (Nat.le_of_ble_eq_true rfl) d_Judge_hoursAmiss_63 ⟨Nat.le_of_ble_eq_true rfl, Nat.le_of_ble_eq_true rfl⟩ (fun H locs hw => ?_)
      obtain ⟨t14, ht14, hf⟩ := xb hf
      refine x_iald S hw ht14 d_Judge_hoursAmiss_66 ?_
      refine lv_aload_n S.1 S.2.1 d_Judge_hoursAmiss_67 rfl (lv_at hl 0 rfl) ?_
      obtain ⟨t15, ht15, hf⟩ := xb hf
      refine x_getr S hw lk_Judge_9 ht15 d_Judge_hoursAmiss_68 ?_
      obtain ⟨t16, ht16, hf⟩ := xb hf
      refine x_getr S hw lk_Judge_118 ht16 d_Judge_hoursAmiss_71 ?_
      refine lv_aload_n S.1 S.2.1 d_Judge_hoursAmiss_74 rfl (lv_at hl 0 rfl) ?_
      obtain ⟨t17, ht17, hf⟩ := xb hf
      refine x_getr S hw lk_Judge_9 ht17 d_Judge_hoursAmiss_75 ?_
      refine lv_iload_n S.1 S.2.1 d_Judge_hoursAmiss_78 rfl (lv_at hl 2 rfl) ?_
      refine lv_iload S.1 S.2.1 d_Judge_hoursAmiss_79 (lv_at hl 6 rfl) ?_
      refine lv_iconst (v := 1) S.1 S.2.1 d_Judge_hoursAmiss_81 (by decide) ?_
      refine lv_isub S.1 S.2.1 d_Judge_hoursAmiss_82 ?_
      obtain ⟨t19, h18, hf⟩ := xb hf
      obtain ⟨h18b, h18⟩ := xkb h18
      refine x_callV (As := [.int x2, .int (x9 - 1)]) (rest := [.ref t16, .int t14, .long x5]) (st1 := [.int t19, .ref t16, .int t14, .long x5]) S hw (c_Roster_letterOf h18) (cwV 2 S.2.2.2.2 gv_Judge_98 rfl rfl rfl hd_Roster_letterOf ⟨Nat.le_of_ble_eq_true rfl, Nat.le_of_ble_eq_true rfl⟩) rfl h18b rfl hl.1 rfl rfl (Nat.le_of_ble_eq_true rfl) d_Judge_hoursAmiss_83 ⟨Nat.le_of_ble_eq_true rfl, Nat.le_of_ble_eq_true rfl⟩ (fun H locs hw => ?_)
      obtain ⟨t20, ht20, hf⟩ := xb hf
      refine x_iald S hw ht20 d_Judge_hoursAmiss_86 ?_
      refine lv_isub S.1 S.2.1 d_Judge_hoursAmiss_87 ?_
      refine lv_i2l (v := (Int32.toInt64 (t14 - t20))) S.1 S.2.1 d_Judge_hoursAmiss_88 rfl ?_
      refine lv_ladd S.1 S.2.1 d_Judge_hoursAmiss_89 ?_
      refine lv_lstore (lv' := [(5, .long (x5 + (Int32.toInt64 (t14 - t20)))), (0, .ref a0), (1, .ref a1), (2, .int x2), (4, .int x4), (7, .long x7), (9, .int x9)]) S.1 S.2.1 d_Judge_hoursAmiss_90 hl (by decide) rfl (fun ls hl => ?_)
      refine lv_lload S.1 S.2.1 d_Judge_hoursAmiss_92 (lv_at hl 5 rfl) ?_
      refine lv_aload_n S.1 S.2.1 d_Judge_hoursAmiss_94 rfl (lv_at hl 1 rfl) ?_
      refine lv_lload S.1 S.2.1 d_Judge_hoursAmiss_95 (lv_at hl 0 rfl) ?_
      refine lv_aload_n S.1 S.2.1 d_Judge_hoursAmiss_97 rfl (lv_at hl 2 rfl) ?_
      obtain ⟨t22, h21, hf⟩ := xb hf
      obtain ⟨h21b, h21⟩ := xkb h21
      refine x_callV (As := [.long (x5 + (Int32.toInt64 (t14 - t20))), .ref a1]) (rest := [.long x7]) (st1 := [.long t22, .long x7]) S hw (c_Judge_outside h21) (cwV 2 S.2.2.2.2 gv_Judge_85 rfl rfl rfl hd_Judge_outside ⟨Nat.le_of_ble_eq_true rfl, Nat.le_of_ble_eq_true rfl⟩) rfl h21b rfl hl.1 rfl rfl (Nat.le_of_ble_eq_true rfl) d_Judge_hoursAmiss_98 ⟨Nat.le_of_ble_eq_true rfl, Nat.le_of_ble_eq_true rfl⟩ (fun H locs hw => ?_)
      refine lv_ladd S.1 S.2.1 d_Judge_hoursAmiss_101 ?_
      refine lv_lstore (lv' := [(7, .long (x7 + t22)), (5, .long (x5 + (Int32.toInt64 (t14 - t20)))), (0, .ref a0), (1, .ref a1), (2, .int x2), (4, .int x4), (9, .int x9)]) S.1 S.2.1 d_Judge_hoursAmiss_102 hl (by decide) rfl (fun ls hl => ?_)
      refine lv_iinc (v := (x9 + 1)) (lv' := [(9, .int (x9 + 1)), (7, .long (x7 + t22)), (5, .long (x5 + (Int32.toInt64 (t14 - t20)))), (0, .ref a0), (1, .ref a1), (2, .int x2), (4, .int x4)]) S.1 S.2.1 d_Judge_hoursAmiss_104 hl (k := 6) rfl rfl (by decide) rfl (fun ls hl => ?_)
      refine lv_goto (tgt := 33) S.1 S.2.1 d_Judge_hoursAmiss_107 (by decide) ?_
      exact ih _ _ _ _ _ _ _ _ _ _ hw (lv_sub hl [3, 4, 5, 6, 2, 1, 0] rfl) hf
def f_Judge_hoursAmiss (a0 : Nat) (a1 : Nat) (x2 : Int32) (x3 : Int32) (x4 : Int32) (ω : xS) : Option Int64 :=
  (xgr ω a0 3 0).bind fun t1 =>
  (xgi ω a1 4 7).bind fun t2 =>
  (xk ω t1 8 (f_Roster_minutesBetween t1 x2 x3 ((x3 + t2) - 1) ω)).bind fun t4 =>
  (xk ω a0 3 (f_Judge_outside a0 t4 a1 ω)).bind fun t6 =>
  f_Judge_hoursAmiss_33  xFU a0 a1 x2 x4 t4 t6 (x3 + 1) ω
set_option maxHeartbeats 4000000 in
set_option maxRecDepth 100000 in
theorem c_Judge_hoursAmiss {l : Launch} {E : xV} {z : Nat} {a0 : Nat} {a1 : Nat} {x2 : Int32} {x3 : Int32} {x4 : Int32} {r : Int64} {ω : xS} (hf : f_Judge_hoursAmiss a0 a1 x2 x3 x4 ω = some r) : xM l E y_Judge_hoursAmiss ws_Judge_hoursAmiss { frames := 2, cells := 0, slots := 0, locals := 48 } [.ref a0, .ref a1, .int x2, .int x3, .int x4] z ω (some (.long r)) z ω := by
  refine x_start (cc := b_Judge_hoursAmiss) (maxL := 10) (ret := (some .long)) (by decide) rfl (Nat.le_of_ble_eq_true rfl) ?_
  intro p e s m below meth c S hr hlocks hin ls hl hw
  have hl : lv_has ls 10 [(0, .ref a0), (1, .ref a1), (2, .int x2), (3, .int x3), (4, .int x4)] := hl
  unfold f_Judge_hoursAmiss at hf
  refine lv_aload_n S.1 S.2.1 d_Judge_hoursAmiss_0 rfl (lv_at hl 0 rfl) ?_
  obtain ⟨t1, ht1, hf⟩ := xb hf
  refine x_getr S hw lk_Judge_9 ht1 d_Judge_hoursAmiss_1 ?_
  refine lv_iload_n S.1 S.2.1 d_Judge_hoursAmiss_4 rfl (lv_at hl 2 rfl) ?_
  refine lv_iload_n S.1 S.2.1 d_Judge_hoursAmiss_5 rfl (lv_at hl 3 rfl) ?_
  refine lv_iload_n S.1 S.2.1 d_Judge_hoursAmiss_6 rfl (lv_at hl 3 rfl) ?_
  refine lv_aload_n S.1 S.2.1 d_Judge_hoursAmiss_7 rfl (lv_at hl 1 rfl) ?_
  obtain ⟨t2, ht2, hf⟩ := xb hf
  refine x_geti S hw lk_Judge_54 ht2 d_Judge_hoursAmiss_8 ?_
  refine lv_iadd S.1 S.2.1 d_Judge_hoursAmiss_11 ?_
  refine lv_iconst (v := 1) S.1 S.2.1 d_Judge_hoursAmiss_12 (by decide) ?_
  refine lv_isub S.1 S.2.1 d_Judge_hoursAmiss_13 ?_
  obtain ⟨t4, h3, hf⟩ := xb hf
  obtain ⟨h3b, h3⟩ := xkb h3
  refine x_callV (As := [.int x2, .int x3, .int ((x3 + t2) - 1)]) (rest := []) (st1 := [.long t4]) S hw (c_Roster_minutesBetween h3) (cwV 3 S.2.2.2.2 gv_Judge_115 rfl rfl rfl hd_Roster_minutesBetween ⟨Nat.le_of_ble_eq_true rfl, Nat.le_of_ble_eq_true rfl⟩) rfl h3b rfl hl.1 rfl rfl (Nat.le_of_ble_eq_true rfl) d_Judge_hoursAmiss_14 ⟨Nat.le_of_ble_eq_true rfl, Nat.le_of_ble_eq_true rfl⟩ (fun H locs hw => ?_)
  refine lv_lstore (lv' := [(5, .long t4), (0, .ref a0), (1, .ref a1), (2, .int x2), (3, .int x3), (4, .int x4)]) S.1 S.2.1 d_Judge_hoursAmiss_17 hl (by decide) rfl (fun ls hl => ?_)
  refine lv_aload_n S.1 S.2.1 d_Judge_hoursAmiss_19 rfl (lv_at hl 1 rfl) ?_
  refine lv_lload S.1 S.2.1 d_Judge_hoursAmiss_20 (lv_at hl 0 rfl) ?_
  refine lv_aload_n S.1 S.2.1 d_Judge_hoursAmiss_22 rfl (lv_at hl 2 rfl) ?_
  obtain ⟨t6, h5, hf⟩ := xb hf
  obtain ⟨h5b, h5⟩ := xkb h5
  refine x_callV (As := [.long t4, .ref a1]) (rest := []) (st1 := [.long t6]) S hw (c_Judge_outside h5) (cwV 2 S.2.2.2.2 gv_Judge_85 rfl rfl rfl hd_Judge_outside ⟨Nat.le_of_ble_eq_true rfl, Nat.le_of_ble_eq_true rfl⟩) rfl h5b rfl hl.1 rfl rfl (Nat.le_of_ble_eq_true rfl) d_Judge_hoursAmiss_23 ⟨Nat.le_of_ble_eq_true rfl, Nat.le_of_ble_eq_true rfl⟩ (fun H locs hw => ?_)
  refine lv_lstore (lv' := [(7, .long t6), (5, .long t4), (0, .ref a0), (1, .ref a1), (2, .int x2), (3, .int x3), (4, .int x4)]) S.1 S.2.1 d_Judge_hoursAmiss_26 hl (by decide) rfl (fun ls hl => ?_)
  refine lv_iload_n S.1 S.2.1 d_Judge_hoursAmiss_28 rfl (lv_at hl 5 rfl) ?_
  refine lv_iconst (v := 1) S.1 S.2.1 d_Judge_hoursAmiss_29 (by decide) ?_
  refine lv_iadd S.1 S.2.1 d_Judge_hoursAmiss_30 ?_
  refine lv_istore (lv' := [(9, .int (x3 + 1)), (7, .long t6), (5, .long t4), (0, .ref a0), (1, .ref a1), (2, .int x2), (3, .int x3), (4, .int x4)]) S.1 S.2.1 d_Judge_hoursAmiss_31 hl (by decide) rfl (fun ls hl => ?_)
  exact w_Judge_hoursAmiss_33 S hr hlocks  _ _ _ _ _ _ _ _ _ _ _ hw (lv_sub hl [3, 4, 5, 7, 2, 1, 0] rfl) hf
def f_Judge_matches_19 : Nat → Nat → Nat → Int64 → Int32 → Int32 → xS → Option Int64
  | 0, _, _, _, _, _, _ => none
  | n + 1, a1, a3, x4, x6, x7, ω =>
    (xan ω a3).bind fun t4 =>
    if t4 ≤ x7 then (
      some x4)
    else (
      (xk ω a1 7 (f_Positions_after a1 x6 ω)).bind fun t7 =>
      (xgi ω a1 7 6).bind fun t8 =>
      (xgr ω a1 7 0).bind fun t9 =>
      (xai ω a3 x7).bind fun t10 =>
      (xai ω t9 t10).bind fun t11 =>
      if x7 < 7 then (
        f_Judge_matches_19  n a1 a3 x4 ((t7 ||| t8) &&& t11) (x7 + 1) ω)
      else (
        (xgi ω a1 7 7).bind fun t13 =>
        if (((t7 ||| t8) &&& t11) &&& t13) = 0 then (
          f_Judge_matches_19  n a1 a3 x4 ((t7 ||| t8) &&& t11) (x7 + 1) ω)
        else (
          f_Judge_matches_19  n a1 a3 (x4 + 1) ((t7 ||| t8) &&& t11) (x7 + 1) ω)))
set_option maxHeartbeats 4000000 in
set_option maxRecDepth 100000 in
theorem w_Judge_matches_19 {p : Program} {l : Launch} {e : Env} {s : State} {m : MethodId} {args : Array Value} {below : List Frame} {meth : Method} {c : Code} {E : xV} {z : Nat} {r : Int64} {ω : xS} (S : CallFix p m c b_Judge_matches 8 s args xTbl "RosterRules$Judge") (hr : meth.sig.returnType = (some .long)) (hlocks : meth.locks = false) : ∀ n : Nat, ∀ (a1 : Nat) (a3 : Nat) (x4 : Int64) (x6 : Int32) (x7 : Int32) (H : Heap) (locs : List Loc) (ls : Array Slot), xW E z ω s s.heap H locs → lv_has ls 8 [(1, .ref a1), (3, .ref a3), (4, .long x4), (6, .int x6), (7, .int x7)] → f_Judge_matches_19 n a1 a3 x4 x6 x7 ω = some r → W p l e (headSpec ws_Judge_matches { frames := 1, cells := 0, slots := 0, locals := 21 }).room s m args below meth c H locs 0 0 (MQ below (xQ E (some (.long r)) z ω) args s 0 0 (fun q => E.2.2 ≤ q)) (F0 m 19 ls []) := by
  intro n
  induction n with
  | zero =>
    intro a1 a3 x4 x6 x7 H locs ls hw hl hf
    have h2 : (none : Option Int64) = some r := hf
    cases h2
  | succ n ih =>
    intro a1 a3 x4 x6 x7 H locs ls hw hl hf
    rw [f_Judge_matches_19] at hf
    refine lv_iload S.1 S.2.1 d_Judge_matches_19 (lv_at hl 4 rfl) ?_
    refine lv_aload_n S.1 S.2.1 d_Judge_matches_21 rfl (lv_at hl 1 rfl) ?_
    obtain ⟨t4, ht4, hf⟩ := xb hf
    refine x_alen S hw ht4 d_Judge_matches_22 ?_
    refine lv_icmp_ge (tgt := 78) S.1 S.2.1 d_Judge_matches_23 (by decide) (fun c5 => ?_) (fun c5 => ?_)
    · replace hf := xt c5 hf
      refine lv_lload S.1 S.2.1 d_Judge_matches_78 (lv_at hl 2 rfl) ?_
      obtain rfl := xe1 hf
      exact x_lret S hr hlocks hw d_Judge_matches_80
    · replace hf := xf c5 hf
      refine lv_aload_n S.1 S.2.1 d_Judge_matches_26 rfl (lv_at hl 0 rfl) ?_
      refine lv_iload S.1 S.2.1 d_Judge_matches_27 (lv_at hl 3 rfl) ?_
      obtain ⟨t7, h6, hf⟩ := xb hf
      obtain ⟨h6b, h6⟩ := xkb h6
      refine x_callV (As := [.int x6]) (rest := []) (st1 := [.int t7]) S hw (c_Positions_after h6) (cwV 1 S.2.2.2.2 gv_Judge_121 rfl rfl rfl hd_Positions_after ⟨Nat.le_of_ble_eq_true rfl, Nat.le_of_ble_eq_true rfl⟩) rfl h6b rfl hl.1 rfl rfl (Nat.le_of_ble_eq_true rfl) d_Judge_matches_29 ⟨Nat.le_of_ble_eq_true rfl, Nat.le_of_ble_eq_true rfl⟩ (fun H locs hw => ?_)
      refine lv_aload_n S.1 S.2.1 d_Judge_matches_32 rfl (lv_at hl 0 rfl) ?_
      obtain ⟨t8, ht8, hf⟩ := xb hf
      refine x_geti S hw lk_Judge_127 ht8 d_Judge_matches_33 ?_
      refine lv_ior S.1 S.2.1 d_Judge_matches_36 ?_
      refine lv_aload_n S.1 S.2.1 d_Judge_matches_37 rfl (lv_at hl 0 rfl) ?_
      obtain ⟨t9, ht9, hf⟩ := xb hf
      refine x_getr S hw lk_Judge_130 ht9 d_Judge_matches_38 ?_
      refine lv_aload_n S.1 S.2.1 d_Judge_matches_41 rfl (lv_at hl 1 rfl) ?_
      refine lv_iload S.1 S.2.1 d_Judge_matches_42 (lv_at hl 4 rfl) ?_
      obtain ⟨t10, ht10, hf⟩ := xb hf
      refine x_iald S hw ht10 d_Judge_matches_44 ?_
      obtain ⟨t11, ht11, hf⟩ := xb hf
      refine x_iald S hw ht11 d_Judge_matches_45 ?_
      refine lv_iand S.1 S.2.1 d_Judge_matches_46 ?_
      refine lv_istore (lv' := [(6, .int ((t7 ||| t8) &&& t11)), (1, .ref a1), (3, .ref a3), (4, .long x4), (7, .int x7)]) S.1 S.2.1 d_Judge_matches_47 hl (by decide) rfl (fun ls hl => ?_)
      refine lv_iload S.1 S.2.1 d_Judge_matches_49 (lv_at hl 4 rfl) ?_
      refine lv_bipush (v := 7) S.1 S.2.1 d_Judge_matches_51 (by decide) ?_
      refine lv_icmp_lt (tgt := 72) S.1 S.2.1 d_Judge_matches_53 (by decide) (fun c12 => ?_) (fun c12 => ?_)
      · replace hf := xt c12 hf
        refine lv_iinc (v := (x7 + 1)) (lv' := [(7, .int (x7 + 1)), (6, .int ((t7 ||| t8) &&& t11)), (1, .ref a1), (3, .ref a3), (4, .long x4)]) S.1 S.2.1 d_Judge_matches_72 hl (k := 4) rfl rfl (by decide) rfl (fun ls hl => ?_)
        refine lv_goto (tgt := 19) S.1 S.2.1 d_Judge_matches_75 (by decide) ?_
        exact ih _ _ _ _ _ _ _ _ hw (lv_sub hl [2, 3, 4, 1, 0] rfl) hf
      · replace hf := xf c12 hf
        refine lv_iload S.1 S.2.1 d_Judge_matches_56 (lv_at hl 0 rfl) ?_
        refine lv_aload_n S.1 S.2.1 d_Judge_matches_58 rfl (lv_at hl 1 rfl) ?_
        obtain ⟨t13, ht13, hf⟩ := xb hf
        refine x_geti S hw lk_Judge_133 ht13 d_Judge_matches_59 ?_
        refine lv_iand S.1 S.2.1 d_Judge_matches_62 ?_
        refine lv_if_eq (tgt := 72) S.1 S.2.1 d_Judge_matches_63 (by decide) (fun c14 => ?_) (fun c14 => ?_)
        · replace hf := xt c14 hf
          refine lv_iinc (v := (x7 + 1)) (lv' := [(7, .int (x7 + 1)), (6, .int ((t7 ||| t8) &&& t11)), (1, .ref a1), (3, .ref a3), (4, .long x4)]) S.1 S.2.1 d_Judge_matches_72 hl (k := 4) rfl rfl (by decide) rfl (fun ls hl => ?_)
          refine lv_goto (tgt := 19) S.1 S.2.1 d_Judge_matches_75 (by decide) ?_
          exact ih _ _ _ _ _ _ _ _ hw (lv_sub hl [2, 3, 4, 1, 0] rfl) hf
        · replace hf := xf c14 hf
          refine lv_lload S.1 S.2.1 d_Judge_matches_66 (lv_at hl 3 rfl) ?_
          refine lv_lconst (v := 1) S.1 S.2.1 d_Judge_matches_68 (by decide) ?_
          refine lv_ladd S.1 S.2.1 d_Judge_matches_69 ?_
          refine lv_lstore (lv' := [(4, .long (x4 + 1)), (6, .int ((t7 ||| t8) &&& t11)), (1, .ref a1), (3, .ref a3), (7, .int x7)]) S.1 S.2.1 d_Judge_matches_70 hl (by decide) rfl (fun ls hl => ?_)
          refine lv_iinc (v := (x7 + 1)) (lv' := [(7, .int (x7 + 1)), (4, .long (x4 + 1)), (6, .int ((t7 ||| t8) &&& t11)), (1, .ref a1), (3, .ref a3)]) S.1 S.2.1 d_Judge_matches_72 hl (k := 4) rfl rfl (by decide) rfl (fun ls hl => ?_)
          refine lv_goto (tgt := 19) S.1 S.2.1 d_Judge_matches_75 (by decide) ?_
          exact ih _ _ _ _ _ _ _ _ hw (lv_sub hl [3, 4, 1, 2, 0] rfl) hf
def f_Judge_matches (a0 : Nat) (a1 : Nat) (x2 : Int32) (ω : xS) : Option Int64 :=
  (xgr ω a0 3 0).bind fun t1 =>
  (xgr ω t1 8 6).bind fun t2 =>
  (xar ω 2 t2 x2).bind fun t3 =>
  f_Judge_matches_19  xFU a1 t3 0 0 0 ω
set_option maxHeartbeats 4000000 in
set_option maxRecDepth 100000 in
theorem c_Judge_matches {l : Launch} {E : xV} {z : Nat} {a0 : Nat} {a1 : Nat} {x2 : Int32} {r : Int64} {ω : xS} (hf : f_Judge_matches a0 a1 x2 ω = some r) : xM l E y_Judge_matches ws_Judge_matches { frames := 1, cells := 0, slots := 0, locals := 21 } [.ref a0, .ref a1, .int x2] z ω (some (.long r)) z ω := by
  refine x_start (cc := b_Judge_matches) (maxL := 8) (ret := (some .long)) (by decide) rfl (Nat.le_of_ble_eq_true rfl) ?_
  intro p e s m below meth c S hr hlocks hin ls hl hw
  have hl : lv_has ls 8 [(0, .ref a0), (1, .ref a1), (2, .int x2)] := hl
  unfold f_Judge_matches at hf
  refine lv_aload_n S.1 S.2.1 d_Judge_matches_0 rfl (lv_at hl 0 rfl) ?_
  obtain ⟨t1, ht1, hf⟩ := xb hf
  refine x_getr S hw lk_Judge_9 ht1 d_Judge_matches_1 ?_
  obtain ⟨t2, ht2, hf⟩ := xb hf
  refine x_getr S hw lk_Judge_108 ht2 d_Judge_matches_4 ?_
  refine lv_iload_n S.1 S.2.1 d_Judge_matches_7 rfl (lv_at hl 2 rfl) ?_
  obtain ⟨t3, ht3, hf⟩ := xb hf
  refine x_aald S hw (t := 2) rfl rfl ht3 d_Judge_matches_8 ?_
  refine lv_astore_n (lv' := [(3, .ref t3), (0, .ref a0), (1, .ref a1), (2, .int x2)]) S.1 S.2.1 d_Judge_matches_9 rfl hl (by decide) rfl (fun ls hl => ?_)
  refine lv_lconst (v := 0) S.1 S.2.1 d_Judge_matches_10 (by decide) ?_
  refine lv_lstore (lv' := [(4, .long 0), (3, .ref t3), (0, .ref a0), (1, .ref a1), (2, .int x2)]) S.1 S.2.1 d_Judge_matches_11 hl (by decide) rfl (fun ls hl => ?_)
  refine lv_iconst (v := 0) S.1 S.2.1 d_Judge_matches_13 (by decide) ?_
  refine lv_istore (lv' := [(6, .int 0), (4, .long 0), (3, .ref t3), (0, .ref a0), (1, .ref a1), (2, .int x2)]) S.1 S.2.1 d_Judge_matches_14 hl (by decide) rfl (fun ls hl => ?_)
  refine lv_iconst (v := 0) S.1 S.2.1 d_Judge_matches_16 (by decide) ?_
  refine lv_istore (lv' := [(7, .int 0), (6, .int 0), (4, .long 0), (3, .ref t3), (0, .ref a0), (1, .ref a1), (2, .int x2)]) S.1 S.2.1 d_Judge_matches_17 hl (by decide) rfl (fun ls hl => ?_)
  exact w_Judge_matches_19 S hr hlocks  _ _ _ _ _ _ _ _ _ hw (lv_sub hl [5, 3, 2, 1, 0] rfl) hf
def f_Judge_noWord_23 : Nat → Nat → Nat → Int32 → Int32 → Int32 → xS → Option Int64
  | 0, _, _, _, _, _, _ => none
  | n + 1, a1, a3, x4, x5, x6, ω =>
    (xan ω a3).bind fun t5 =>
    if t5 ≤ x6 then (
      (xgi ω a1 7 7).bind fun t7 =>
      if (x5 &&& t7) = 0 then (
        some 1)
      else (
        some 0))
    else (
      (xgr ω a1 7 0).bind fun t9 =>
      (xai ω a3 x6).bind fun t10 =>
      (xai ω t9 t10).bind fun t11 =>
      (xk ω a1 7 (f_Positions_after a1 (x4 &&& t11) ω)).bind fun t13 =>
      f_Judge_noWord_23  n a1 a3 t13 (x4 &&& t11) (x6 + 1) ω)
set_option maxHeartbeats 4000000 in
set_option maxRecDepth 100000 in
theorem w_Judge_noWord_23 {p : Program} {l : Launch} {e : Env} {s : State} {m : MethodId} {args : Array Value} {below : List Frame} {meth : Method} {c : Code} {E : xV} {z : Nat} {r : Int64} {ω : xS} (S : CallFix p m c b_Judge_noWord 7 s args xTbl "RosterRules$Judge") (hr : meth.sig.returnType = (some .long)) (hlocks : meth.locks = false) : ∀ n : Nat, ∀ (a1 : Nat) (a3 : Nat) (x4 : Int32) (x5 : Int32) (x6 : Int32) (H : Heap) (locs : List Loc) (ls : Array Slot), xW E z ω s s.heap H locs → lv_has ls 7 [(1, .ref a1), (3, .ref a3), (4, .int x4), (5, .int x5), (6, .int x6)] → f_Judge_noWord_23 n a1 a3 x4 x5 x6 ω = some r → W p l e (headSpec ws_Judge_noWord { frames := 1, cells := 0, slots := 0, locals := 21 }).room s m args below meth c H locs 0 0 (MQ below (xQ E (some (.long r)) z ω) args s 0 0 (fun q => E.2.2 ≤ q)) (F0 m 23 ls []) := by
  intro n
  induction n with
  | zero =>
    intro a1 a3 x4 x5 x6 H locs ls hw hl hf
    have h2 : (none : Option Int64) = some r := hf
    cases h2
  | succ n ih =>
    intro a1 a3 x4 x5 x6 H locs ls hw hl hf
    rw [f_Judge_noWord_23] at hf
    refine lv_iload S.1 S.2.1 d_Judge_noWord_23 (lv_at hl 4 rfl) ?_
    refine lv_aload_n S.1 S.2.1 d_Judge_noWord_25 rfl (lv_at hl 1 rfl) ?_
    obtain ⟨t5, ht5, hf⟩ := xb hf
    refine x_alen S hw ht5 d_Judge_noWord_26 ?_
    refine lv_icmp_ge (tgt := 58) S.1 S.2.1 d_Judge_noWord_27 (by decide) (fun c6 => ?_) (fun c6 => ?_)
    · replace hf := xt c6 hf
      refine lv_iload S.1 S.2.1 d_Judge_noWord_58 (lv_at hl 3 rfl) ?_
      refine lv_aload_n S.1 S.2.1 d_Judge_noWord_60 rfl (lv_at hl 0 rfl) ?_
      obtain ⟨t7, ht7, hf⟩ := xb hf
      refine x_geti S hw lk_Judge_133 ht7 d_Judge_noWord_61 ?_
      refine lv_iand S.1 S.2.1 d_Judge_noWord_64 ?_
      refine lv_if_eq (tgt := 72) S.1 S.2.1 d_Judge_noWord_65 (by decide) (fun c8 => ?_) (fun c8 => ?_)
      · replace hf := xt c8 hf
        refine lv_lconst (v := 1) S.1 S.2.1 d_Judge_noWord_72 (by decide) ?_
        obtain rfl := xe1 hf
        exact x_lret S hr hlocks hw d_Judge_noWord_73
      · replace hf := xf c8 hf
        refine lv_lconst (v := 0) S.1 S.2.1 d_Judge_noWord_68 (by decide) ?_
        refine lv_goto (tgt := 73) S.1 S.2.1 d_Judge_noWord_69 (by decide) ?_
        obtain rfl := xe1 hf
        exact x_lret S hr hlocks hw d_Judge_noWord_73
    · replace hf := xf c6 hf
      refine lv_iload S.1 S.2.1 d_Judge_noWord_30 (lv_at hl 2 rfl) ?_
      refine lv_aload_n S.1 S.2.1 d_Judge_noWord_32 rfl (lv_at hl 0 rfl) ?_
      obtain ⟨t9, ht9, hf⟩ := xb hf
      refine x_getr S hw lk_Judge_130 ht9 d_Judge_noWord_33 ?_
      refine lv_aload_n S.1 S.2.1 d_Judge_noWord_36 rfl (lv_at hl 1 rfl) ?_
      refine lv_iload S.1 S.2.1 d_Judge_noWord_37 (lv_at hl 4 rfl) ?_
      obtain ⟨t10, ht10, hf⟩ := xb hf
      refine x_iald S hw ht10 d_Judge_noWord_39 ?_
      obtain ⟨t11, ht11, hf⟩ := xb hf
      refine x_iald S hw ht11 d_Judge_noWord_40 ?_
      refine lv_iand S.1 S.2.1 d_Judge_noWord_41 ?_
      refine lv_istore (lv' := [(5, .int (x4 &&& t11)), (1, .ref a1), (3, .ref a3), (4, .int x4), (6, .int x6)]) S.1 S.2.1 d_Judge_noWord_42 hl (by decide) rfl (fun ls hl => ?_)
      refine lv_aload_n S.1 S.2.1 d_Judge_noWord_44 rfl (lv_at hl 1 rfl) ?_
      refine lv_iload S.1 S.2.1 d_Judge_noWord_45 (lv_at hl 0 rfl) ?_
      obtain ⟨t13, h12, hf⟩ := xb hf
      obtain ⟨h12b, h12⟩ := xkb h12
      refine x_callV (As := [.int (x4 &&& t11)]) (rest := []) (st1 := [.int t13]) S hw (c_Positions_after h12) (cwV 1 S.2.2.2.2 gv_Judge_121 rfl rfl rfl hd_Positions_after ⟨Nat.le_of_ble_eq_true rfl, Nat.le_of_ble_eq_true rfl⟩) rfl h12b rfl hl.1 rfl rfl (Nat.le_of_ble_eq_true rfl) d_Judge_noWord_47 ⟨Nat.le_of_ble_eq_true rfl, Nat.le_of_ble_eq_true rfl⟩ (fun H locs hw => ?_)
      refine lv_istore (lv' := [(4, .int t13), (5, .int (x4 &&& t11)), (1, .ref a1), (3, .ref a3), (6, .int x6)]) S.1 S.2.1 d_Judge_noWord_50 hl (by decide) rfl (fun ls hl => ?_)
      refine lv_iinc (v := (x6 + 1)) (lv' := [(6, .int (x6 + 1)), (4, .int t13), (5, .int (x4 &&& t11)), (1, .ref a1), (3, .ref a3)]) S.1 S.2.1 d_Judge_noWord_52 hl (k := 4) rfl rfl (by decide) rfl (fun ls hl => ?_)
      refine lv_goto (tgt := 23) S.1 S.2.1 d_Judge_noWord_55 (by decide) ?_
      exact ih _ _ _ _ _ _ _ _ hw (lv_sub hl [3, 4, 1, 2, 0] rfl) hf
def f_Judge_noWord (a0 : Nat) (a1 : Nat) (x2 : Int32) (ω : xS) : Option Int64 :=
  (xgr ω a0 3 0).bind fun t1 =>
  (xgr ω t1 8 6).bind fun t2 =>
  (xar ω 2 t2 x2).bind fun t3 =>
  (xgi ω a1 7 6).bind fun t4 =>
  f_Judge_noWord_23  xFU a1 t3 t4 0 7 ω
set_option maxHeartbeats 4000000 in
set_option maxRecDepth 100000 in
theorem c_Judge_noWord {l : Launch} {E : xV} {z : Nat} {a0 : Nat} {a1 : Nat} {x2 : Int32} {r : Int64} {ω : xS} (hf : f_Judge_noWord a0 a1 x2 ω = some r) : xM l E y_Judge_noWord ws_Judge_noWord { frames := 1, cells := 0, slots := 0, locals := 21 } [.ref a0, .ref a1, .int x2] z ω (some (.long r)) z ω := by
  refine x_start (cc := b_Judge_noWord) (maxL := 7) (ret := (some .long)) (by decide) rfl (Nat.le_of_ble_eq_true rfl) ?_
  intro p e s m below meth c S hr hlocks hin ls hl hw
  have hl : lv_has ls 7 [(0, .ref a0), (1, .ref a1), (2, .int x2)] := hl
  unfold f_Judge_noWord at hf
  refine lv_aload_n S.1 S.2.1 d_Judge_noWord_0 rfl (lv_at hl 0 rfl) ?_
  obtain ⟨t1, ht1, hf⟩ := xb hf
  refine x_getr S hw lk_Judge_9 ht1 d_Judge_noWord_1 ?_
  obtain ⟨t2, ht2, hf⟩ := xb hf
  refine x_getr S hw lk_Judge_108 ht2 d_Judge_noWord_4 ?_
  refine lv_iload_n S.1 S.2.1 d_Judge_noWord_7 rfl (lv_at hl 2 rfl) ?_
  obtain ⟨t3, ht3, hf⟩ := xb hf
  refine x_aald S hw (t := 2) rfl rfl ht3 d_Judge_noWord_8 ?_
  refine lv_astore_n (lv' := [(3, .ref t3), (0, .ref a0), (1, .ref a1), (2, .int x2)]) S.1 S.2.1 d_Judge_noWord_9 rfl hl (by decide) rfl (fun ls hl => ?_)
  refine lv_aload_n S.1 S.2.1 d_Judge_noWord_10 rfl (lv_at hl 2 rfl) ?_
  obtain ⟨t4, ht4, hf⟩ := xb hf
  refine x_geti S hw lk_Judge_127 ht4 d_Judge_noWord_11 ?_
  refine lv_istore (lv' := [(4, .int t4), (3, .ref t3), (0, .ref a0), (1, .ref a1), (2, .int x2)]) S.1 S.2.1 d_Judge_noWord_14 hl (by decide) rfl (fun ls hl => ?_)
  refine lv_iconst (v := 0) S.1 S.2.1 d_Judge_noWord_16 (by decide) ?_
  refine lv_istore (lv' := [(5, .int 0), (4, .int t4), (3, .ref t3), (0, .ref a0), (1, .ref a1), (2, .int x2)]) S.1 S.2.1 d_Judge_noWord_17 hl (by decide) rfl (fun ls hl => ?_)
  refine lv_bipush (v := 7) S.1 S.2.1 d_Judge_noWord_19 (by decide) ?_
  refine lv_istore (lv' := [(6, .int 7), (5, .int 0), (4, .int t4), (3, .ref t3), (0, .ref a0), (1, .ref a1), (2, .int x2)]) S.1 S.2.1 d_Judge_noWord_21 hl (by decide) rfl (fun ls hl => ?_)
  exact w_Judge_noWord_23 S hr hlocks  _ _ _ _ _ _ _ _ _ hw (lv_sub hl [5, 3, 2, 1, 0] rfl) hf
def f_Judge_ofPerson (a0 : Nat) (a1 : Nat) (x2 : Int32) (ω : xS) : Option Int64 :=
  (xgi ω a1 4 2).bind fun t1 =>
  if t1 = 0 then (
    (xgr ω a0 3 0).bind fun t3 =>
    (xgi ω t3 8 1).bind fun t4 =>
    (xk ω a0 3 (f_Judge_unskilled a0 x2 0 (t4 - 1) ω)).bind fun t6 =>
    some t6)
  else (
  if t1 = 1 then (
    (xgi ω a1 4 5).bind fun t8 =>
    (xk ω a0 3 (f_Judge_shortRests a0 t8 x2 ω)).bind fun t10 =>
    some t10)
  else (
  if t1 = 2 then (
    (xgr ω a0 3 0).bind fun t12 =>
    (xgi ω t12 8 1).bind fun t13 =>
    (xgi ω a1 4 7).bind fun t14 =>
    (xk ω a0 3 (f_Judge_hoursAmiss a0 a1 x2 0 (t13 - t14) ω)).bind fun t16 =>
    some t16)
  else (
  if t1 = 3 then (
    (xgr ω a1 4 0).bind fun t18 =>
    (xk ω a0 3 (f_Judge_matches a0 t18 x2 ω)).bind fun t20 =>
    some t20)
  else (
  if t1 = 4 then (
    (xgr ω a1 4 0).bind fun t22 =>
    (xk ω a0 3 (f_Judge_noWord a0 t22 x2 ω)).bind fun t24 =>
    some t24)
  else (
  some 0)))))
set_option maxHeartbeats 4000000 in
set_option maxRecDepth 100000 in
theorem c_Judge_ofPerson {l : Launch} {E : xV} {z : Nat} {a0 : Nat} {a1 : Nat} {x2 : Int32} {r : Int64} {ω : xS} (hf : f_Judge_ofPerson a0 a1 x2 ω = some r) : xM l E y_Judge_ofPerson ws_Judge_ofPerson { frames := 3, cells := 0, slots := 0, locals := 77 } [.ref a0, .ref a1, .int x2] z ω (some (.long r)) z ω := by
  refine x_start (cc := b_Judge_ofPerson) (maxL := 3) (ret := (some .long)) (by decide) rfl (Nat.le_of_ble_eq_true rfl) ?_
  intro p e s m below meth c S hr hlocks hin ls hl hw
  have hl : lv_has ls 3 [(0, .ref a0), (1, .ref a1), (2, .int x2)] := hl
  unfold f_Judge_ofPerson at hf
  refine lv_aload_n S.1 S.2.1 d_Judge_ofPerson_0 rfl (lv_at hl 1 rfl) ?_
  obtain ⟨t1, ht1, hf⟩ := xb hf
  refine x_geti S hw lk_Judge_15 ht1 d_Judge_ofPerson_1 ?_
  by_cases c2 : t1 = 0
  · replace hf := xt c2 hf
    refine lv_tableIn (tgt := 40) S.1 S.2.1 d_Judge_ofPerson_4 (by rw [c2]; decide) (by rw [c2]; decide) (by rw [c2]; rfl) (by decide) ?_
    refine lv_aload_n S.1 S.2.1 d_Judge_ofPerson_40 rfl (lv_at hl 0 rfl) ?_
    refine lv_iload_n S.1 S.2.1 d_Judge_ofPerson_41 rfl (lv_at hl 2 rfl) ?_
    refine lv_iconst (v := 0) S.1 S.2.1 d_Judge_ofPerson_42 (by decide) ?_
    refine lv_aload_n S.1 S.2.1 d_Judge_ofPerson_43 rfl (lv_at hl 0 rfl) ?_
    obtain ⟨t3, ht3, hf⟩ := xb hf
    refine x_getr S hw lk_Judge_9 ht3 d_Judge_ofPerson_44 ?_
    obtain ⟨t4, ht4, hf⟩ := xb hf
    refine x_geti S hw lk_Judge_28 ht4 d_Judge_ofPerson_47 ?_
    refine lv_iconst (v := 1) S.1 S.2.1 d_Judge_ofPerson_50 (by decide) ?_
    refine lv_isub S.1 S.2.1 d_Judge_ofPerson_51 ?_
    obtain ⟨t6, h5, hf⟩ := xb hf
    obtain ⟨h5b, h5⟩ := xkb h5
    refine x_callV (As := [.int x2, .int 0, .int (t4 - 1)]) (rest := []) (st1 := [.long t6]) S hw (c_Judge_unskilled h5) (cwV 3 S.2.2.2.2 gv_Judge_43 rfl rfl rfl hd_Judge_unskilled ⟨Nat.le_of_ble_eq_true rfl, Nat.le_of_ble_eq_true rfl⟩) rfl h5b rfl hl.1 rfl rfl (Nat.le_of_ble_eq_true rfl) d_Judge_ofPerson_52 ⟨Nat.le_of_ble_eq_true rfl, Nat.le_of_ble_eq_true rfl⟩ (fun H locs hw => ?_)
    obtain rfl := xe1 hf
    exact x_lret S hr hlocks hw d_Judge_ofPerson_55
  replace hf := xf c2 hf
  by_cases c7 : t1 = 1
  · replace hf := xt c7 hf
    refine lv_tableIn (tgt := 56) S.1 S.2.1 d_Judge_ofPerson_4 (by rw [c7]; decide) (by rw [c7]; decide) (by rw [c7]; rfl) (by decide) ?_
    refine lv_aload_n S.1 S.2.1 d_Judge_ofPerson_56 rfl (lv_at hl 0 rfl) ?_
    refine lv_aload_n S.1 S.2.1 d_Judge_ofPerson_57 rfl (lv_at hl 1 rfl) ?_
    obtain ⟨t8, ht8, hf⟩ := xb hf
    refine x_geti S hw lk_Judge_47 ht8 d_Judge_ofPerson_58 ?_
    refine lv_iload_n S.1 S.2.1 d_Judge_ofPerson_61 rfl (lv_at hl 2 rfl) ?_
    obtain ⟨t10, h9, hf⟩ := xb hf
    obtain ⟨h9b, h9⟩ := xkb h9
    refine x_callV (As := [.int t8, .int x2]) (rest := []) (st1 := [.long t10]) S hw (c_Judge_shortRests h9) (cwV 2 S.2.2.2.2 gv_Judge_50 rfl rfl rfl hd_Judge_shortRests ⟨Nat.le_of_ble_eq_true rfl, Nat.le_of_ble_eq_true rfl⟩) rfl h9b rfl hl.1 rfl rfl (Nat.le_of_ble_eq_true rfl) d_Judge_ofPerson_62 ⟨Nat.le_of_ble_eq_true rfl, Nat.le_of_ble_eq_true rfl⟩ (fun H locs hw => ?_)
    obtain rfl := xe1 hf
    exact x_lret S hr hlocks hw d_Judge_ofPerson_65
  replace hf := xf c7 hf
  by_cases c11 : t1 = 2
  · replace hf := xt c11 hf
    refine lv_tableIn (tgt := 66) S.1 S.2.1 d_Judge_ofPerson_4 (by rw [c11]; decide) (by rw [c11]; decide) (by rw [c11]; rfl) (by decide) ?_
    refine lv_aload_n S.1 S.2.1 d_Judge_ofPerson_66 rfl (lv_at hl 0 rfl) ?_
    refine lv_aload_n S.1 S.2.1 d_Judge_ofPerson_67 rfl (lv_at hl 1 rfl) ?_
    refine lv_iload_n S.1 S.2.1 d_Judge_ofPerson_68 rfl (lv_at hl 2 rfl) ?_
    refine lv_iconst (v := 0) S.1 S.2.1 d_Judge_ofPerson_69 (by decide) ?_
    refine lv_aload_n S.1 S.2.1 d_Judge_ofPerson_70 rfl (lv_at hl 0 rfl) ?_
    obtain ⟨t12, ht12, hf⟩ := xb hf
    refine x_getr S hw lk_Judge_9 ht12 d_Judge_ofPerson_71 ?_
    obtain ⟨t13, ht13, hf⟩ := xb hf
    refine x_geti S hw lk_Judge_28 ht13 d_Judge_ofPerson_74 ?_
    refine lv_aload_n S.1 S.2.1 d_Judge_ofPerson_77 rfl (lv_at hl 1 rfl) ?_
    obtain ⟨t14, ht14, hf⟩ := xb hf
    refine x_geti S hw lk_Judge_54 ht14 d_Judge_ofPerson_78 ?_
    refine lv_isub S.1 S.2.1 d_Judge_ofPerson_81 ?_
    obtain ⟨t16, h15, hf⟩ := xb hf
    obtain ⟨h15b, h15⟩ := xkb h15
    refine x_callV (As := [.ref a1, .int x2, .int 0, .int (t13 - t14)]) (rest := []) (st1 := [.long t16]) S hw (c_Judge_hoursAmiss h15) (cwV 4 S.2.2.2.2 gv_Judge_57 rfl rfl rfl hd_Judge_hoursAmiss ⟨Nat.le_of_ble_eq_true rfl, Nat.le_of_ble_eq_true rfl⟩) rfl h15b rfl hl.1 rfl rfl (Nat.le_of_ble_eq_true rfl) d_Judge_ofPerson_82 ⟨Nat.le_of_ble_eq_true rfl, Nat.le_of_ble_eq_true rfl⟩ (fun H locs hw => ?_)
    obtain rfl := xe1 hf
    exact x_lret S hr hlocks hw d_Judge_ofPerson_85
  replace hf := xf c11 hf
  by_cases c17 : t1 = 3
  · replace hf := xt c17 hf
    refine lv_tableIn (tgt := 86) S.1 S.2.1 d_Judge_ofPerson_4 (by rw [c17]; decide) (by rw [c17]; decide) (by rw [c17]; rfl) (by decide) ?_
    refine lv_aload_n S.1 S.2.1 d_Judge_ofPerson_86 rfl (lv_at hl 0 rfl) ?_
    refine lv_aload_n S.1 S.2.1 d_Judge_ofPerson_87 rfl (lv_at hl 1 rfl) ?_
    obtain ⟨t18, ht18, hf⟩ := xb hf
    refine x_getr S hw lk_Judge_61 ht18 d_Judge_ofPerson_88 ?_
    refine lv_iload_n S.1 S.2.1 d_Judge_ofPerson_91 rfl (lv_at hl 2 rfl) ?_
    obtain ⟨t20, h19, hf⟩ := xb hf
    obtain ⟨h19b, h19⟩ := xkb h19
    refine x_callV (As := [.ref t18, .int x2]) (rest := []) (st1 := [.long t20]) S hw (c_Judge_matches h19) (cwV 2 S.2.2.2.2 gv_Judge_65 rfl rfl rfl hd_Judge_matches ⟨Nat.le_of_ble_eq_true rfl, Nat.le_of_ble_eq_true rfl⟩) rfl h19b rfl hl.1 rfl rfl (Nat.le_of_ble_eq_true rfl) d_Judge_ofPerson_92 ⟨Nat.le_of_ble_eq_true rfl, Nat.le_of_ble_eq_true rfl⟩ (fun H locs hw => ?_)
    obtain rfl := xe1 hf
    exact x_lret S hr hlocks hw d_Judge_ofPerson_95
  replace hf := xf c17 hf
  by_cases c21 : t1 = 4
  · replace hf := xt c21 hf
    refine lv_tableIn (tgt := 96) S.1 S.2.1 d_Judge_ofPerson_4 (by rw [c21]; decide) (by rw [c21]; decide) (by rw [c21]; rfl) (by decide) ?_
    refine lv_aload_n S.1 S.2.1 d_Judge_ofPerson_96 rfl (lv_at hl 0 rfl) ?_
    refine lv_aload_n S.1 S.2.1 d_Judge_ofPerson_97 rfl (lv_at hl 1 rfl) ?_
    obtain ⟨t22, ht22, hf⟩ := xb hf
    refine x_getr S hw lk_Judge_61 ht22 d_Judge_ofPerson_98 ?_
    refine lv_iload_n S.1 S.2.1 d_Judge_ofPerson_101 rfl (lv_at hl 2 rfl) ?_
    obtain ⟨t24, h23, hf⟩ := xb hf
    obtain ⟨h23b, h23⟩ := xkb h23
    refine x_callV (As := [.ref t22, .int x2]) (rest := []) (st1 := [.long t24]) S hw (c_Judge_noWord h23) (cwV 2 S.2.2.2.2 gv_Judge_69 rfl rfl rfl hd_Judge_noWord ⟨Nat.le_of_ble_eq_true rfl, Nat.le_of_ble_eq_true rfl⟩) rfl h23b rfl hl.1 rfl rfl (Nat.le_of_ble_eq_true rfl) d_Judge_ofPerson_102 ⟨Nat.le_of_ble_eq_true rfl, Nat.le_of_ble_eq_true rfl⟩ (fun H locs hw => ?_)
    obtain rfl := xe1 hf
    exact x_lret S hr hlocks hw d_Judge_ofPerson_105
  replace hf := xf c21 hf
  refine lv_tableOut (tgt := 106) S.1 S.2.1 d_Judge_ofPerson_4 (by have h_c2 := lv_neT (a := 0) c2 (by decide); have h_c7 := lv_neT (a := 1) c7 (by decide); have h_c11 := lv_neT (a := 2) c11 (by decide); have h_c17 := lv_neT (a := 3) c17 (by decide); have h_c21 := lv_neT (a := 4) c21 (by decide); omega) (by decide) ?_
  refine lv_lconst (v := 0) S.1 S.2.1 d_Judge_ofPerson_106 (by decide) ?_
  obtain rfl := xe1 hf
  exact x_lret S hr hlocks hw d_Judge_ofPerson_107
def f_Judge_everywhere_64 : Nat → Nat → Nat → Int64 → Int32 → xS → Option Int64
  | 0, _, _, _, _, _ => none
  | n + 1, a0, a1, x2, x4, ω =>
    (xgr ω a0 3 0).bind fun t8 =>
    (xgi ω t8 8 0).bind fun t9 =>
    if t9 ≤ x4 then (
      some x2)
    else (
      (xk ω a0 3 (f_Judge_ofPerson a0 a1 x4 ω)).bind fun t12 =>
      f_Judge_everywhere_64  n a0 a1 (x2 + t12) (x4 + 1) ω)
set_option maxHeartbeats 4000000 in
set_option maxRecDepth 100000 in
theorem w_Judge_everywhere_64 {p : Program} {l : Launch} {e : Env} {s : State} {m : MethodId} {args : Array Value} {below : List Frame} {meth : Method} {c : Code} {E : xV} {z : Nat} {r : Int64} {ω : xS} (S : CallFix p m c b_Judge_everywhere 5 s args xTbl "RosterRules$Judge") (hr : meth.sig.returnType = (some .long)) (hlocks : meth.locks = false) : ∀ n : Nat, ∀ (a0 : Nat) (a1 : Nat) (x2 : Int64) (x4 : Int32) (H : Heap) (locs : List Loc) (ls : Array Slot), xW E z ω s s.heap H locs → lv_has ls 5 [(0, .ref a0), (1, .ref a1), (2, .long x2), (4, .int x4)] → f_Judge_everywhere_64 n a0 a1 x2 x4 ω = some r → W p l e (headSpec ws_Judge_everywhere { frames := 4, cells := 0, slots := 0, locals := 99 }).room s m args below meth c H locs 0 0 (MQ below (xQ E (some (.long r)) z ω) args s 0 0 (fun q => E.2.2 ≤ q)) (F0 m 64 ls []) := by
  intro n
  induction n with
  | zero =>
    intro a0 a1 x2 x4 H locs ls hw hl hf
    have h2 : (none : Option Int64) = some r := hf
    cases h2
  | succ n ih =>
    intro a0 a1 x2 x4 H locs ls hw hl hf
    rw [f_Judge_everywhere_64] at hf
    refine lv_iload S.1 S.2.1 d_Judge_everywhere_64 (lv_at hl 3 rfl) ?_
    refine lv_aload_n S.1 S.2.1 d_Judge_everywhere_66 rfl (lv_at hl 0 rfl) ?_
    obtain ⟨t8, ht8, hf⟩ := xb hf
    refine x_getr S hw lk_Judge_9 ht8 d_Judge_everywhere_67 ?_
    obtain ⟨t9, ht9, hf⟩ := xb hf
    refine x_geti S hw lk_Judge_37 ht9 d_Judge_everywhere_70 ?_
    refine lv_icmp_ge (tgt := 92) S.1 S.2.1 d_Judge_everywhere_73 (by decide) (fun c10 => ?_) (fun c10 => ?_)
    · replace hf := xt c10 hf
      refine lv_lload_n S.1 S.2.1 d_Judge_everywhere_92 rfl (lv_at hl 2 rfl) ?_
      obtain rfl := xe1 hf
      exact x_lret S hr hlocks hw d_Judge_everywhere_93
    · replace hf := xf c10 hf
      refine lv_lload_n S.1 S.2.1 d_Judge_everywhere_76 rfl (lv_at hl 2 rfl) ?_
      refine lv_aload_n S.1 S.2.1 d_Judge_everywhere_77 rfl (lv_at hl 0 rfl) ?_
      refine lv_aload_n S.1 S.2.1 d_Judge_everywhere_78 rfl (lv_at hl 1 rfl) ?_
      refine lv_iload S.1 S.2.1 d_Judge_everywhere_79 (lv_at hl 3 rfl) ?_
      obtain ⟨t12, h11, hf⟩ := xb hf
      obtain ⟨h11b, h11⟩ := xkb h11
      refine x_callV (As := [.ref a1, .int x4]) (rest := [.long x2]) (st1 := [.long t12, .long x2]) S hw (c_Judge_ofPerson h11) (cwV 2 S.2.2.2.2 gv_Judge_40 rfl rfl rfl hd_Judge_ofPerson ⟨Nat.le_of_ble_eq_true rfl, Nat.le_of_ble_eq_true rfl⟩) rfl h11b rfl hl.1 rfl rfl (Nat.le_of_ble_eq_true rfl) d_Judge_everywhere_81 ⟨Nat.le_of_ble_eq_true rfl, Nat.le_of_ble_eq_true rfl⟩ (fun H locs hw => ?_)
      refine lv_ladd S.1 S.2.1 d_Judge_everywhere_84 ?_
      refine lv_lstore_n (lv' := [(2, .long (x2 + t12)), (0, .ref a0), (1, .ref a1), (4, .int x4)]) S.1 S.2.1 d_Judge_everywhere_85 rfl hl (by decide) rfl (fun ls hl => ?_)
      refine lv_iinc (v := (x4 + 1)) (lv' := [(4, .int (x4 + 1)), (2, .long (x2 + t12)), (0, .ref a0), (1, .ref a1)]) S.1 S.2.1 d_Judge_everywhere_86 hl (k := 3) rfl rfl (by decide) rfl (fun ls hl => ?_)
      refine lv_goto (tgt := 64) S.1 S.2.1 d_Judge_everywhere_89 (by decide) ?_
      exact ih _ _ _ _ _ _ _ hw (lv_sub hl [2, 3, 1, 0] rfl) hf
def f_Judge_everywhere_31 : Nat → Nat → Nat → Int64 → Int32 → xS → Option Int64
  | 0, _, _, _, _, _ => none
  | n + 1, a0, a1, x2, x4, ω =>
    (xgr ω a0 3 0).bind fun t13 =>
    (xgi ω t13 8 1).bind fun t14 =>
    if t14 ≤ x4 then (
      some x2)
    else (
      (xk ω a0 3 (f_Judge_coverAmiss a0 a1 x4 ω)).bind fun t17 =>
      f_Judge_everywhere_31  n a0 a1 (x2 + t17) (x4 + 1) ω)
set_option maxHeartbeats 4000000 in
set_option maxRecDepth 100000 in
theorem w_Judge_everywhere_31 {p : Program} {l : Launch} {e : Env} {s : State} {m : MethodId} {args : Array Value} {below : List Frame} {meth : Method} {c : Code} {E : xV} {z : Nat} {r : Int64} {ω : xS} (S : CallFix p m c b_Judge_everywhere 5 s args xTbl "RosterRules$Judge") (hr : meth.sig.returnType = (some .long)) (hlocks : meth.locks = false) : ∀ n : Nat, ∀ (a0 : Nat) (a1 : Nat) (x2 : Int64) (x4 : Int32) (H : Heap) (locs : List Loc) (ls : Array Slot), xW E z ω s s.heap H locs → lv_has ls 5 [(0, .ref a0), (1, .ref a1), (2, .long x2), (4, .int x4)] → f_Judge_everywhere_31 n a0 a1 x2 x4 ω = some r → W p l e (headSpec ws_Judge_everywhere { frames := 4, cells := 0, slots := 0, locals := 99 }).room s m args below meth c H locs 0 0 (MQ below (xQ E (some (.long r)) z ω) args s 0 0 (fun q => E.2.2 ≤ q)) (F0 m 31 ls []) := by
  intro n
  induction n with
  | zero =>
    intro a0 a1 x2 x4 H locs ls hw hl hf
    have h2 : (none : Option Int64) = some r := hf
    cases h2
  | succ n ih =>
    intro a0 a1 x2 x4 H locs ls hw hl hf
    rw [f_Judge_everywhere_31] at hf
    refine lv_iload S.1 S.2.1 d_Judge_everywhere_31 (lv_at hl 3 rfl) ?_
    refine lv_aload_n S.1 S.2.1 d_Judge_everywhere_33 rfl (lv_at hl 0 rfl) ?_
    obtain ⟨t13, ht13, hf⟩ := xb hf
    refine x_getr S hw lk_Judge_9 ht13 d_Judge_everywhere_34 ?_
    obtain ⟨t14, ht14, hf⟩ := xb hf
    refine x_geti S hw lk_Judge_28 ht14 d_Judge_everywhere_37 ?_
    refine lv_icmp_ge (tgt := 59) S.1 S.2.1 d_Judge_everywhere_40 (by decide) (fun c15 => ?_) (fun c15 => ?_)
    · replace hf := xt c15 hf
      refine lv_lload_n S.1 S.2.1 d_Judge_everywhere_59 rfl (lv_at hl 2 rfl) ?_
      obtain rfl := xe1 hf
      exact x_lret S hr hlocks hw d_Judge_everywhere_60
    · replace hf := xf c15 hf
      refine lv_lload_n S.1 S.2.1 d_Judge_everywhere_43 rfl (lv_at hl 2 rfl) ?_
      refine lv_aload_n S.1 S.2.1 d_Judge_everywhere_44 rfl (lv_at hl 0 rfl) ?_
      refine lv_aload_n S.1 S.2.1 d_Judge_everywhere_45 rfl (lv_at hl 1 rfl) ?_
      refine lv_iload S.1 S.2.1 d_Judge_everywhere_46 (lv_at hl 3 rfl) ?_
      obtain ⟨t17, h16, hf⟩ := xb hf
      obtain ⟨h16b, h16⟩ := xkb h16
      refine x_callV (As := [.ref a1, .int x4]) (rest := [.long x2]) (st1 := [.long t17, .long x2]) S hw (c_Judge_coverAmiss h16) (cwV 2 S.2.2.2.2 gv_Judge_33 rfl rfl rfl hd_Judge_coverAmiss ⟨Nat.le_of_ble_eq_true rfl, Nat.le_of_ble_eq_true rfl⟩) rfl h16b rfl hl.1 rfl rfl (Nat.le_of_ble_eq_true rfl) d_Judge_everywhere_48 ⟨Nat.le_of_ble_eq_true rfl, Nat.le_of_ble_eq_true rfl⟩ (fun H locs hw => ?_)
      refine lv_ladd S.1 S.2.1 d_Judge_everywhere_51 ?_
      refine lv_lstore_n (lv' := [(2, .long (x2 + t17)), (0, .ref a0), (1, .ref a1), (4, .int x4)]) S.1 S.2.1 d_Judge_everywhere_52 rfl hl (by decide) rfl (fun ls hl => ?_)
      refine lv_iinc (v := (x4 + 1)) (lv' := [(4, .int (x4 + 1)), (2, .long (x2 + t17)), (0, .ref a0), (1, .ref a1)]) S.1 S.2.1 d_Judge_everywhere_53 hl (k := 3) rfl rfl (by decide) rfl (fun ls hl => ?_)
      refine lv_goto (tgt := 31) S.1 S.2.1 d_Judge_everywhere_56 (by decide) ?_
      exact ih _ _ _ _ _ _ _ hw (lv_sub hl [2, 3, 1, 0] rfl) hf
def f_Judge_everywhere (a0 : Nat) (a1 : Nat) (ω : xS) : Option Int64 :=
  (xgi ω a1 4 2).bind fun t1 =>
  if t1 = 5 then (
    (xgi ω a1 4 8).bind fun t5 =>
    (xk ω a0 3 (f_Judge_unfairness a0 t5 ω)).bind fun t7 =>
    some t7)
  else (
    (xgi ω a1 4 2).bind fun t3 =>
    if t3 = 6 then (
      f_Judge_everywhere_31  xFU a0 a1 0 0 ω)
    else (
      f_Judge_everywhere_64  xFU a0 a1 0 0 ω))
set_option maxHeartbeats 4000000 in
set_option maxRecDepth 100000 in
theorem c_Judge_everywhere {l : Launch} {E : xV} {z : Nat} {a0 : Nat} {a1 : Nat} {r : Int64} {ω : xS} (hf : f_Judge_everywhere a0 a1 ω = some r) : xM l E y_Judge_everywhere ws_Judge_everywhere { frames := 4, cells := 0, slots := 0, locals := 99 } [.ref a0, .ref a1] z ω (some (.long r)) z ω := by
  refine x_start (cc := b_Judge_everywhere) (maxL := 5) (ret := (some .long)) (by decide) rfl (Nat.le_of_ble_eq_true rfl) ?_
  intro p e s m below meth c S hr hlocks hin ls hl hw
  have hl : lv_has ls 5 [(0, .ref a0), (1, .ref a1)] := hl
  unfold f_Judge_everywhere at hf
  refine lv_aload_n S.1 S.2.1 d_Judge_everywhere_0 rfl (lv_at hl 1 rfl) ?_
  obtain ⟨t1, ht1, hf⟩ := xb hf
  refine x_geti S hw lk_Judge_15 ht1 d_Judge_everywhere_1 ?_
  refine lv_iconst (v := 5) S.1 S.2.1 d_Judge_everywhere_4 (by decide) ?_
  refine lv_icmp_ne (tgt := 17) S.1 S.2.1 d_Judge_everywhere_5 (by decide) (fun c2 => ?_) (fun c2 => ?_)
  · replace hf := xf c2 hf
    refine lv_lconst (v := 0) S.1 S.2.1 d_Judge_everywhere_17 (by decide) ?_
    refine lv_lstore_n (lv' := [(2, .long 0), (0, .ref a0), (1, .ref a1)]) S.1 S.2.1 d_Judge_everywhere_18 rfl hl (by decide) rfl (fun ls hl => ?_)
    refine lv_aload_n S.1 S.2.1 d_Judge_everywhere_19 rfl (lv_at hl 2 rfl) ?_
    obtain ⟨t3, ht3, hf⟩ := xb hf
    refine x_geti S hw lk_Judge_15 ht3 d_Judge_everywhere_20 ?_
    refine lv_bipush (v := 6) S.1 S.2.1 d_Judge_everywhere_23 (by decide) ?_
    refine lv_icmp_ne (tgt := 61) S.1 S.2.1 d_Judge_everywhere_25 (by decide) (fun c4 => ?_) (fun c4 => ?_)
    · replace hf := xf c4 hf
      refine lv_iconst (v := 0) S.1 S.2.1 d_Judge_everywhere_61 (by decide) ?_
      refine lv_istore (lv' := [(4, .int 0), (2, .long 0), (0, .ref a0), (1, .ref a1)]) S.1 S.2.1 d_Judge_everywhere_62 hl (by decide) rfl (fun ls hl => ?_)
      exact w_Judge_everywhere_64 S hr hlocks  _ _ _ _ _ _ _ _ hw (lv_sub hl [2, 3, 1, 0] rfl) hf
    · replace hf := xt c4 hf
      refine lv_iconst (v := 0) S.1 S.2.1 d_Judge_everywhere_28 (by decide) ?_
      refine lv_istore (lv' := [(4, .int 0), (2, .long 0), (0, .ref a0), (1, .ref a1)]) S.1 S.2.1 d_Judge_everywhere_29 hl (by decide) rfl (fun ls hl => ?_)
      exact w_Judge_everywhere_31 S hr hlocks  _ _ _ _ _ _ _ _ hw (lv_sub hl [2, 3, 1, 0] rfl) hf
  · replace hf := xt c2 hf
    refine lv_aload_n S.1 S.2.1 d_Judge_everywhere_8 rfl (lv_at hl 0 rfl) ?_
    refine lv_aload_n S.1 S.2.1 d_Judge_everywhere_9 rfl (lv_at hl 1 rfl) ?_
    obtain ⟨t5, ht5, hf⟩ := xb hf
    refine x_geti S hw lk_Judge_21 ht5 d_Judge_everywhere_10 ?_
    obtain ⟨t7, h6, hf⟩ := xb hf
    obtain ⟨h6b, h6⟩ := xkb h6
    refine x_callV (As := [.int t5]) (rest := []) (st1 := [.long t7]) S hw (c_Judge_unfairness h6) (cwV 1 S.2.2.2.2 gv_Judge_24 rfl rfl rfl hd_Judge_unfairness ⟨Nat.le_of_ble_eq_true rfl, Nat.le_of_ble_eq_true rfl⟩) rfl h6b rfl hl.1 rfl rfl (Nat.le_of_ble_eq_true rfl) d_Judge_everywhere_13 ⟨Nat.le_of_ble_eq_true rfl, Nat.le_of_ble_eq_true rfl⟩ (fun H locs hw => ?_)
    obtain rfl := xe1 hf
    exact x_lret S hr hlocks hw d_Judge_everywhere_16
